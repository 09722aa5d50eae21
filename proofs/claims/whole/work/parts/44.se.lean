/-! What the terms mean, and the first fault of a text. Own work. -/
def vVal (K M : Nat → Nat) (j : Nat) : Int := if K j = 8 then -(M (j + 1) : Int) else M j
def elF (n : Nat) (M : Nat → Nat) (P : Nat → Int32) : Nat → Nat → Nat → Option (Int32 × Int32) × Nat
  | 0, _, s => (none, s)
  | c + 1, v, s => if n ≤ M v ∨ s.testBit (M v) = true then (some (3, P v), s) else elF n M P c (v + 1) (s ||| 2 ^ M v)
def vF (K M : Nat → Nat) (P : Nat → Int32) (most : Nat) : Nat → Nat → Nat → Int → Int → Option (Int32 × Int32)
  | 0, _, _, _, _ => none
  | d + 1, v, k, last, rise => if stands K v = true then (if most ≤ k ∨ (0 < k ∧ rise < vVal K M v - last) then some (4, P v) else vF K M P most d (sVal K v).1 (k + 1) (vVal K M v) (vVal K M v - last)) else if k < most then some (4, P v) else none
def vLst (K M : Nat → Nat) : Nat → Nat → List Int
  | 0, _ => []
  | d + 1, v => if stands K v = true then vVal K M v :: vLst K M d (sVal K v).1 else []
def cEl (n : Nat) (K M : Nat → Nat) (P : Nat → Int32) (V j : Nat) : Option (Int32 × Int32) × Nat := elF n M P (numE K V (j + 1 + 2) - (j + 1 + 1)) (j + 1 + 1) 0
def cVs (K M : Nat → Nat) (V j : Nat) : List Int := vLst K M 602 (numE K V (j + 1 + 2) + 2)
def tF (n : Nat) (K M : Nat → Nat) (P : Nat → Int32) (V j : Nat) : Option (Int32 × Int32) :=
  if K j = 1 then (if n ≤ M (j + 1) then some (3, P (j + 1)) else none)
  else if K j = 2 then (if n ≤ M (j + 1) then some (3, P (j + 1)) else if n ≤ M (j + 3) ∨ M (j + 3) = M (j + 1) then some (3, P (j + 3)) else if vVal K M (j + 5) < 0 then some (4, P (j + 5)) else none)
  else match (cEl n K M P V j).1 with
    | some f => some f
    | none => vF K M P (pop (cEl n K M P V j).2) 602 (numE K V (j + 1 + 2) + 2) 0 0 0
def hgt (l : List Int) (a : Nat) : Int := if a = 0 then 0 else l.getD (a - 1) 0
def con (n : Nat) (K M : Nat → Nat) (P : Nat → Int32) (V j S : Nat) : Int :=
  if K j = 1 then (if S.testBit (M (j + 1)) = true then vVal K M (j + 3) else 0)
  else if K j = 2 then (if S.testBit (M (j + 1)) = true ∧ S.testBit (M (j + 3)) = false then vVal K M (j + 5) else 0)
  else hgt (cVs K M V j) (pop (S &&& (cEl n K M P V j).2))
theorem vF_rise0 (K M : Nat → Nat) (P : Nat → Int32) (most d v : Nat) (last r1 r2 : Int) : vF K M P most d v 0 last r1 = vF K M P most d v 0 last r2 := by
  cases d with
  | zero => rfl
  | succ d => rw [vF, vF]; simp
theorem vVal_bd {K M : Nat → Nat} {V : Nat} (hT : Toks K M V) (j : Nat) : -99999 ≤ vVal K M j ∧ vVal K M j ≤ 99999 := by
  have h1 := hT.2.2.2.2 j
  have h2 := hT.2.2.2.2 (j + 1)
  unfold vVal
  split <;> omega
theorem stands_lt {K M : Nat → Nat} {V j : Nat} (hT : Toks K M V) (hj : j ≤ V) (h : stands K j = true) : j < V := by
  rcases of_decide_eq_true h with q | q
  · exact hT.lt hj q (by decide) (by decide)
  · exact hT.lt hj q (by decide) (by decide)
theorem sVals_step {K : Nat → Nat} {d j : Nat} (h : (sVals K (d + 1) j).2 = true) (hs : stands K j = true) : (sVal K j).2 = true ∧ (sVals K d (sVal K j).1).2 = true ∧ (sVals K (d + 1) j).1 = (sVals K d (sVal K j).1).1 := by
  rw [sVals, if_pos hs] at h ⊢
  by_cases z : (sVal K j).2 = true
  · rw [if_pos z] at h ⊢
    exact ⟨z, h, rfl⟩
  · rw [if_neg z] at h
    exact absurd h z
/-! the reference -/
theorem stop0 {pf : Nat → Int32} {post : Int32 → Int32 → Prop} {c fp : Int32} {j : Nat} (hj : j ≤ 600) (h : post c (pf j)) : wp_Mo_stop_0 pf post c (nI j) 0 fp := by
  unfold wp_Mo_stop_0 wp_Mo_stop_22
  refine bn0 rfl ⟨vp_in_nI (by omega) (by omega), ?_⟩
  rw [nI_clamp (by omega)]
  exact h
theorem stop1 {pf : Nat → Int32} {post : Int32 → Int32 → Prop} {c fl fp x : Int32} (hf : ¬ fl = 0) (h : post fl fp) : wp_Mo_stop_0 pf post c x fl fp := by
  unfold wp_Mo_stop_0 wp_Mo_stop_22
  exact bn1 hf h
theorem element_ok {K M : Nat → Nat} {P : Nat → Int32} {V : Nat} {kf pf nf : Nat → Int32} (hT : Toks K M V) (hM : TokM K M P V kf pf nf) {n j : Nat} (hn : n ≤ 10) (hj : j ≤ V) (h4 : K j = 4) {fl fp : Int32} {post : Int32 → Int32 → Int32 → Int32 → Prop} (h1 : M j < n → post (nI (M j)) (nI (j + 1)) fl fp) (h2 : n ≤ M j → fl = 0 → post (nI (M j)) (nI (j + 1)) 3 (P j)) (h3 : n ≤ M j → ¬ fl = 0 → post (nI (M j)) (nI (j + 1)) fl fp) : wp_Mo_element_0 (nI n) nf pf post (nI j) fl fp := by
  have hV := hT.1
  have hMj := hT.2.2.2.2 j
  unfold wp_Mo_element_0 wp_Mo_element_27
  rw [nI_clamp (by omega), (hM j hj).2.2 h4, nI_1, nI_ltI (by omega) (by omega)]
  refine ⟨vp_in_nI (by omega) (by omega), h1, fun z => ?_⟩
  by_cases hf : fl = 0
  · subst hf
    refine stop0 (by omega) ?_
    rw [(hM j hj).2.1]
    exact h2 (by omega) rfl
  · exact stop1 hf (h3 (by omega) hf)
theorem signed_ok {K M : Nat → Nat} {P : Nat → Int32} {V : Nat} {kf pf nf : Nat → Int32} (hT : Toks K M V) (hM : TokM K M P V kf pf nf) {j : Nat} (hj : j ≤ V) (hs : (sVal K j).2 = true) {post : Int32 → Int32 → Prop} (h : post (iI (vVal K M j)) (nI (sVal K j).1)) : wp_Mo_signed_0 kf nf post (nI j) := by
  have hV := hT.1
  unfold wp_Mo_signed_0 wp_Mo_signed_37
  unfold sVal at hs h
  unfold vVal at h
  refine is_ok hT hM hj 8 (by decide) rfl (fun z => ?_) (fun z => ?_)
  · have l1 := hT.lt hj z (by decide) (by decide)
    rw [if_pos z] at hs h
    by_cases z4 : K (j + 1) = 4
    · have hMj := hT.2.2.2.2 (j + 1)
      rw [if_pos z4, if_pos z] at h
      rw [nI_clamp (by omega), (hM (j + 1) (by omega)).2.2 z4, nI_1]
      refine ⟨vp_in_nI (by omega) (by omega), br_f (by decide) ?_⟩
      rw [nI_iI (M (j + 1)), iI_neg]
      exact h
    · rw [if_neg z4] at hs; cases hs
  · rw [if_neg z] at hs h
    by_cases z4 : K j = 4
    · rw [if_pos z4, if_neg z] at h
      rw [nI_clamp (by omega), (hM j hj).2.2 z4, nI_1, nI_iI (M j)]
      exact ⟨vp_in_nI (by omega) (by omega), br_t rfl h⟩
    · rw [if_neg z4] at hs; cases hs
theorem has01 {s x : Nat} (hs : s < 2147483648) (hx : x < 32) {post : Int32 → Prop} (h1 : s.testBit x = true → post 1) (h0 : s.testBit x = false → post 0) : wp_Mo_has_0 post (nI s) (nI x) := by
  refine has_ok hs hx ?_
  cases hb : s.testBit x
  · exact h0 hb
  · exact h1 hb
theorem iI0_add (a : Int32) : a + iI 0 = a := by
  rw [show iI 0 = (0 : Int32) from rfl]
  exact Int32.add_zero a
theorem mtab_ok {n x y : Nat} {v : Int} {k : Nat} (hn : n ≤ 10) (hx : x < n) (hk : k = 1 ∨ k = 2) (hy : k = 2 → y < n) {x3 : Int32} (h3 : k = 2 → x3 = nI y) {kf nf pf : Nat → Int32} {fl fp at1 : Int32} {he dr dm : Nat → Int32} {post : Int32 → Int32 → Int32 → (Nat → Int32) → (Nat → Int32) → (Nat → Int32) → Prop}
    (h : post at1 fl fp he (fun S => if S < 2 ^ n then dr S + iI (if S.testBit x = true ∧ (k = 1 ∨ S.testBit y = false) then v else 0) else dr S) (upd dm (k - 1) (dm (k - 1) + 1))) : wp_Mo_term_134 (nI n) kf nf pf post (nI (k + 2)) (nI x) x3 (iI v) at1 fl fp he dr dm := by
  have h1024 := two_le hn
  have hsh := nI_sh1 n (by omega)
  generalize hNe : 2 ^ n = N at *
  have loop : ∀ d i, i + d = N → wp_Mo_term_137 (nI n) kf nf pf post (d + 1) (nI (k + 2)) (nI x) x3 (iI v) (nI i) at1 fl fp he (fun S => if S < i then dr S + iI (if S.testBit x = true ∧ (k = 1 ∨ S.testBit y = false) then v else 0) else dr S) dm := by
    intro d
    induction d with
    | zero =>
      intro i hi
      rw [wp_Mo_term_137, hsh]
      have : i = N := by omega
      subst this
      have e1 : nI (k + 2) - 3 = nI (k - 1) := by
        rw [show (3 : Int32) = nI 3 from rfl, pk_sub (by omega)]
        congr 1
      rw [e1, nI_clamp (by omega)]
      exact br_t (nI_le (Nat.le_refl _) (by omega)) ⟨vp_in_nI (by omega) (by omega), vp_in_nI (by omega) (by omega), h⟩
    | succ d ih =>
      intro i hi
      rw [wp_Mo_term_137, hsh]
      refine br_f (nI_ge (by omega) (by omega)) ?_
      have nx := ih (i + 1) (by omega)
      rw [← upd_step dr (fun S => dr S + iI (if S.testBit x = true ∧ (k = 1 ∨ S.testBit y = false) then v else 0)) i] at nx
      have no : ¬ (i.testBit x = true ∧ (k = 1 ∨ i.testBit y = false)) → wp_Mo_term_175 (nI n) kf nf pf post (fun x1 x2 x3 x5 x6 f_at f_fault f_faultPlace f_heights f_draft f_draftMany => wp_Mo_term_137 (nI n) kf nf pf post (d + 1) x1 x2 x3 x5 x6 f_at f_fault f_faultPlace f_heights f_draft f_draftMany) (nI (k + 2)) (nI x) x3 (iI v) (nI i) at1 fl fp he (fun S => if S < i then dr S + iI (if S.testBit x = true ∧ (k = 1 ∨ S.testBit y = false) then v else 0) else dr S) dm := by
        intro hc
        unfold wp_Mo_term_175 wp_Mo_term_176 wp_Mo_term_209
        refine br_t rfl ⟨vp_in_nI (by omega) (by omega), vp_in_nI (by omega) (by omega), ?_⟩
        rw [nI_clamp (by omega), nI_1]
        dsimp only
        rw [if_neg (Nat.lt_irrefl i)]
        rw [if_neg hc, iI0_add] at nx
        exact nx
      have yes : (i.testBit x = true ∧ (k = 1 ∨ i.testBit y = false)) → wp_Mo_term_171 (nI n) kf nf pf post (fun x1 x2 x3 x5 x6 f_at f_fault f_faultPlace f_heights f_draft f_draftMany => wp_Mo_term_137 (nI n) kf nf pf post (d + 1) x1 x2 x3 x5 x6 f_at f_fault f_faultPlace f_heights f_draft f_draftMany) (nI (k + 2)) (nI x) x3 (iI v) (nI i) at1 fl fp he (fun S => if S < i then dr S + iI (if S.testBit x = true ∧ (k = 1 ∨ S.testBit y = false) then v else 0) else dr S) dm := by
        intro hc
        unfold wp_Mo_term_171 wp_Mo_term_176 wp_Mo_term_209
        refine br_f (by decide) ⟨vp_in_nI (by omega) (by omega), vp_in_nI (by omega) (by omega), ?_⟩
        rw [nI_clamp (by omega), nI_1]
        dsimp only
        rw [if_neg (Nat.lt_irrefl i)]
        rw [if_pos hc] at nx
        exact nx
      refine has01 (by omega) (by omega) (fun hb => br_f (by decide) ?_) (fun hb => br_t rfl (no (fun z => by rw [hb] at z; cases z.1)))
      have ek : nI (k + 2) = 3 ↔ k = 1 := by
        have := nI_eq (a := k + 2) (b := 3) (by omega) (by omega)
        rw [show (3 : Int32) = nI 3 from rfl, this]
        omega
      rw [ek]
      refine ⟨fun z => yes ⟨hb, Or.inl z⟩, fun z => ?_⟩
      have hk2 : k = 2 := by omega
      rw [h3 hk2] at no yes ⊢
      have := hy hk2
      exact has01 (by omega) (by omega) (fun hb2 => bn1 (by decide) (no (fun z9 => by rcases z9.2 with q | q; omega; rw [hb2] at q; cases q))) (fun hb2 => bn0 rfl (yes ⟨hb, Or.inr hb2⟩))
  unfold wp_Mo_term_134
  refine ⟨N + 1, ?_⟩
  have := loop N 0 (by omega)
  rw [part0] at this
  exact this
theorem nI_sh {x : Nat} (h : x < 10) : (1 : Int32) <<< (nI x &&& 31) = nI (2 ^ x) := nI_sh1 x (by omega)
/-- the heights of a curve, as the reference keeps them -/
def hgtAt (he : Nat → Int32) (pre : List Int) : Prop := ∀ a, a ≤ pre.length → he a = iI (hgt pre a)
theorem hgt_append {pre : List Int} {x : Int} {a : Nat} (h : a ≤ pre.length) : hgt (pre ++ [x]) a = hgt pre a := by
  unfold hgt
  by_cases z : a = 0
  · rw [if_pos z, if_pos z]
  · rw [if_neg z, if_neg z, List.getD_eq_getElem?_getD, List.getD_eq_getElem?_getD, List.getElem?_append_left (by omega)]
theorem hgt_last {pre : List Int} {x : Int} : hgt (pre ++ [x]) (pre.length + 1) = x := by
  unfold hgt
  rw [if_neg (by omega), List.getD_eq_getElem?_getD, Nat.add_sub_cancel, List.getElem?_append_right (Nat.le_refl _)]
  simp
theorem hgt_bd {l : List Int} (h : ∀ x, x ∈ l → -99999 ≤ x ∧ x ≤ 99999) (a : Nat) : -99999 ≤ hgt l a ∧ hgt l a ≤ 99999 := by
  unfold hgt
  split
  · omega
  · rw [List.getD_eq_getElem?_getD]
    cases e : l[a - 1]? with
    | none => simp
    | some x => exact h x (List.mem_of_getElem? e)
theorem mcurve_ok {K M : Nat → Nat} {P : Nat → Int32} {V : Nat} {kf pf nf : Nat → Int32} (hT : Toks K M V) (hM : TokM K M P V kf pf nf) {n j : Nat} (hn : n ≤ 10) (hj : j + 1 ≤ V) (h3 : K j = 3) (hs : (sCurve K V (j + 1)).2 = true) {fp : Int32} {he dr dm : Nat → Int32} {post : Int32 → Int32 → Int32 → (Nat → Int32) → (Nat → Int32) → (Nat → Int32) → Prop}
    (hbad : ∀ c p, tF n K M P V j = some (c, p) → ∀ a he dr dm, post a c p he dr dm)
    (hok : tF n K M P V j = none → ∀ he, post (nI (sCurve K V (j + 1)).1) 0 fp he (fun S => if S < 2 ^ n then dr S + iI (con n K M P V j S) else dr S) (upd dm 2 (dm 2 + 1))) : wp_Mo_curve_0 (nI n) kf nf pf post (nI (j + 1)) 0 fp he dr dm := by
  have hV := hT.1
  have h1024 := two_le hn
  have htf : tF n K M P V j = match (cEl n K M P V j).1 with
    | some f => some f
    | none => vF K M P (pop (cEl n K M P V j).2) 602 (numE K V (j + 1 + 2) + 2) 0 0 0 := by
    unfold tF
    rw [if_neg (by omega), if_neg (by omega)]
  have hcon : ∀ S, con n K M P V j S = hgt (cVs K M V j) (pop (S &&& (cEl n K M P V j).2)) := by
    intro S
    unfold con
    rw [if_neg (by omega), if_neg (by omega)]
  -- the words of the curve
  unfold sCurve at hs hok
  have z9 : K (j + 1) = 9 := by
    apply Classical.byContradiction
    intro z; rw [if_neg z] at hs; cases hs
  rw [if_pos z9] at hs hok
  have l1 := hT.lt hj z9 (by decide) (by decide)
  have z4 : K (j + 1 + 1) = 4 := by
    apply Classical.byContradiction
    intro z; rw [if_neg z] at hs; cases hs
  rw [if_pos z4] at hs hok
  have l2 := hT.lt (by omega) z4 (by decide) (by decide)
  have hel := numE_le (j := j + 1 + 2) hT (by omega)
  have hen := numE_not (j := j + 1 + 2) hT (by omega)
  have hey := numE_yes (K := K) (V := V) (j := j + 1 + 2) (by omega)
  unfold cEl at htf hcon
  unfold cVs at hcon
  generalize hee : numE K V (j + 1 + 2) = e at *
  have z10 : K e = 10 := by
    apply Classical.byContradiction
    intro z; rw [if_neg z] at hs; cases hs
  rw [if_pos z10] at hs hok
  have l3 := hT.lt hel.1 z10 (by decide) (by decide)
  have z6 : K (e + 1) = 6 := by
    apply Classical.byContradiction
    intro z; rw [if_neg z] at hs; cases hs
  rw [if_pos z6] at hs hok
  have l4 := hT.lt (by omega) z6 (by decide) (by decide)
  have zv : (sVal K (e + 2)).2 = true := by
    apply Classical.byContradiction
    intro z; rw [if_neg z] at hs; exact absurd hs z
  rw [if_pos zv] at hs hok
  have knd : ∀ j k, j ≤ V → k ≤ 12 → (kf (nI j).toNatClampNeg = nI (trk k) ↔ K j = k) := by
    intro j k hj hk
    have hKj := hT.2.2.2.1 j
    have t1 := trk_le (K j)
    have t2 := trk_le k
    rw [nI_clamp (by omega), (hM j hj).1]
    exact ⟨fun z => trk_inj hKj hk ((nI_eq (by omega) (by omega)).mp z), fun z => by rw [z]⟩
  -- the table
  have table : ∀ s he at1, s < 2 ^ n → (∀ a, a ≤ pop s → he a = iI (hgt (vLst K M 602 (e + 2)) a)) → post at1 0 fp he (fun S => if S < 2 ^ n then dr S + iI (hgt (vLst K M 602 (e + 2)) (pop (S &&& s))) else dr S) (upd dm 2 (dm 2 + 1)) → wp_Mo_curve_267 (nI n) kf nf pf post (nI s) at1 0 fp he dr dm := by
    intro s he at1 hsn hhe hp
    have hsh := nI_sh1 n (by omega)
    generalize hNe : 2 ^ n = N at *
    have loop : ∀ d i, i + d = N → wp_Mo_curve_278 (nI n) kf nf pf post (d + 1) (nI s) (nI i) at1 0 fp he (fun S => if S < i then dr S + iI (hgt (vLst K M 602 (e + 2)) (pop (S &&& s))) else dr S) dm := by
      intro d
      induction d with
      | zero =>
        intro i hi
        rw [wp_Mo_curve_278, hsh]
        have : i = N := by omega
        subst this
        exact br_t (nI_le (Nat.le_refl _) (by omega)) ⟨vp_in_nI (n := 2) (by omega) (by omega), vp_in_nI (n := 2) (by omega) (by omega), hp⟩
      | succ d ih =>
        intro i hi
        rw [wp_Mo_curve_278, hsh]
        have hia : i &&& s < 1024 := and_lt (n := 10) (by omega)
        have hpp := pop_le (i &&& s)
        have hps : pop (i &&& s) ≤ pop s := pop_mono (fun x hx => by rw [Nat.testBit_and, Bool.and_eq_true] at hx; exact hx.2)
        refine br_f (nI_ge (by omega) (by omega)) ⟨vp_in_nI (by omega) (by omega), ?_⟩
        rw [nI_and]
        refine sizeOf_ok (by omega) ⟨vp_in_nI (by omega) (by omega), vp_in_nI (by omega) (by omega), ?_⟩
        rw [nI_clamp (n := i) (by omega), nI_clamp (n := pop (i &&& s)) (by omega), nI_1, hhe _ hps]
        rw [if_neg (Nat.lt_irrefl i), upd_step dr (fun S => dr S + iI (hgt (vLst K M 602 (e + 2)) (pop (S &&& s)))) i]
        exact ih (i + 1) (by omega)
    unfold wp_Mo_curve_267
    refine br_t rfl ⟨N + 1, ?_⟩
    have := loop N 0 (by omega)
    rw [part0] at this
    exact this
  -- the values
  have vals : ∀ s, s < 2 ^ n → (∀ c p, vF K M P (pop s) 602 (e + 2) 0 0 0 = some (c, p) → ∀ a he dr dm, post a c p he dr dm) → (vF K M P (pop s) 602 (e + 2) 0 0 0 = none → ∀ he, post (nI (sVals K 601 (sVal K (e + 2)).1).1) 0 fp he (fun S => if S < 2 ^ n then dr S + iI (hgt (vLst K M 602 (e + 2)) (pop (S &&& s))) else dr S) (upd dm 2 (dm 2 + 1))) →
      ∀ m d v pre he, v ≤ V → V < v + d → V - v + 2 ≤ m → pre.length ≤ pop s → (sVals K d v).2 = true → (sVals K d v).1 = (sVals K 601 (sVal K (e + 2)).1).1 → pre ++ vLst K M d v = vLst K M 602 (e + 2) → (∀ x, x ∈ pre → -99999 ≤ x ∧ x ≤ 99999) → hgtAt he pre → (∀ rise, (0 < pre.length → rise = hgt pre pre.length - hgt pre (pre.length - 1)) → vF K M P (pop s) d v pre.length (hgt pre pre.length) rise = vF K M P (pop s) 602 (e + 2) 0 0 0) → wp_Mo_curve_130 (nI n) kf nf pf post m (nI s) (nI (pop s)) (nI pre.length) (nI v) 0 fp he dr dm := by
    intro s hsn hb ho m
    have hsp := pop_le s
    induction m with
    | zero => intro d v pre he hv hd hm; omega
    | succ m ih =>
      intro d v pre he hv hd hm hpl hsv hse hpre hbd hhe hvF
      cases d with
      | zero => omega
      | succ d =>
        rw [wp_Mo_curve_130]
        have k8 : kf (nI v).toNatClampNeg = 10 ↔ K v = 8 := knd v 8 hv (by decide)
        have k4 : kf (nI v).toNatClampNeg = 1 ↔ K v = 4 := knd v 4 hv (by decide)
        rw [k8, k4]
        have out : ∀ k m at1 c p he, ¬ c = 0 → (∀ a he dr dm, post a c p he dr dm) → wp_Mo_curve_130 (nI n) kf nf pf post (m + 1) (nI s) (nI (pop s)) k at1 c p he dr dm := by
          intro k m at1 c p he hc hp
          rw [wp_Mo_curve_130]
          refine bn1 hc ?_
          unfold wp_Mo_curve_246 wp_Mo_curve_267
          exact bn1 hc (br_f hc (hp _ _ _ _))
        have val : stands K v = true → wp_Mo_curve_164 (nI n) kf nf pf post (fun x1 x2 x3 f_at f_fault f_faultPlace f_heights f_draft f_draftMany => wp_Mo_curve_130 (nI n) kf nf pf post m x1 x2 x3 f_at f_fault f_faultPlace f_heights f_draft f_draftMany) (nI s) (nI (pop s)) (nI pre.length) (nI v) 0 fp he dr dm := by
          intro hst
          have hlt := stands_lt hT hv hst
          obtain ⟨s1, s2, s3⟩ := sVals_step hsv hst
          have hvl := sVal_le hT hv
          have hvv := vVal_bd hT v
          unfold wp_Mo_curve_164
          rw [nI_eq (by omega) (by omega)]
          refine ⟨fun hne => signed_ok hT hM hv s1 ?_, fun he9 => stop0 (by omega) ?_⟩
          · have hlen : pre.length + 1 ≤ 10 := by omega
            rw [nI_1, nI_clamp (n := pre.length + 1) (by omega)]
            have hge : hgtAt (upd he (pre.length + 1) (iI (vVal K M v))) (pre ++ [vVal K M v]) := by
              intro a ha
              rw [List.length_append] at ha
              by_cases z : a = pre.length + 1
              · subst z
                rw [pk_us, hgt_last]
              · rw [pk_un z, hgt_append (by simp at ha; omega)]
                exact hhe a (by simp at ha; omega)
            have go : ¬ (0 < pre.length ∧ hgt pre pre.length - hgt pre (pre.length - 1) < vVal K M v - hgt pre pre.length) → wp_Mo_curve_130 (nI n) kf nf pf post m (nI s) (nI (pop s)) (nI (pre.length + 1)) (nI (sVal K v).1) 0 fp (upd he (pre.length + 1) (iI (vVal K M v))) dr dm := by
              intro hno
              have := ih d (sVal K v).1 (pre ++ [vVal K M v]) _ hvl.1 (by have := hvl.2.2 s1; omega) (by have := hvl.2.2 s1; omega) (by simp; omega) s2 (by rw [← s3]; exact hse) (by rw [← hpre, vLst, if_pos hst, List.append_assoc]; rfl) (fun x hx => by
                rw [List.mem_append] at hx
                rcases hx with hx | hx
                · exact hbd x hx
                · rw [List.mem_singleton] at hx
                  rw [hx]; exact hvv) hge (fun rise hr => by
                have hr := hr (by simp)
                rw [List.length_append, List.length_singleton] at hr ⊢
                rw [hgt_last, hgt_append (by omega), Nat.add_sub_cancel] at hr
                rw [hgt_last, ← hvF (hgt pre pre.length - hgt pre (pre.length - 1)) (fun _ => rfl), vF, if_pos hst, if_neg (by omega), hr])
              rw [List.length_append, List.length_singleton] at this
              exact this
            refine ⟨vp_in_nI (by omega) (by omega), ?_⟩
            have e1 : nI (pre.length + 1) ≤ 1 ↔ pre.length + 1 ≤ 1 := nI_leI (a := pre.length + 1) (b := 1) (by omega) (by omega)
            rw [e1]
            unfold wp_Mo_curve_243
            refine ⟨fun z => go (by omega), fun z => ?_⟩
            have ea : nI (pre.length + 1) - 1 = nI pre.length := by rw [show (1 : Int32) = nI 1 from rfl, pk_sub (by omega)]; rfl
            have eb : nI (pre.length + 1) - 2 = nI (pre.length - 1) := by rw [show (2 : Int32) = nI 2 from rfl, pk_sub (by omega)]; congr 1
            rw [ea, eb, nI_clamp (n := pre.length) (by omega), nI_clamp (n := pre.length - 1) (by omega), pk_un (by omega), pk_un (by omega), hhe pre.length (Nat.le_refl _), hhe (pre.length - 1) (by omega), iI_sub, iI_sub]
            have b1 := hgt_bd hbd pre.length
            have b2 := hgt_bd hbd (pre.length - 1)
            rw [iI_le ⟨by omega, by omega⟩ ⟨by omega, by omega⟩]
            refine ⟨vp_in_nI (by omega) (by omega), vp_in_nI (by omega) (by omega), vp_in_nI (by omega) (by omega), fun q => go (by omega), fun q => stop0 (by omega) ?_⟩
            rw [(hM v hv).2.1]
            obtain ⟨m', rfl⟩ : ∃ m', m = m' + 1 := ⟨m - 1, by omega⟩
            refine out _ m' _ 4 (P v) _ (by decide) (hb 4 (P v) ?_)
            rw [← hvF (hgt pre pre.length - hgt pre (pre.length - 1)) (fun _ => rfl), vF, if_pos hst, if_pos (Or.inr ⟨by omega, by omega⟩)]
          · rw [(hM v hv).2.1]
            refine hb 4 (P v) ?_ _ _ _ _
            rw [← hvF (hgt pre pre.length - hgt pre (pre.length - 1)) (fun _ => rfl), vF, if_pos hst, if_pos (Or.inl (by omega))]
        refine bn0 rfl ⟨vp_in_nI (by omega) (by omega), fun z => val (decide_eq_true (Or.inr z)), fun z => ⟨vp_in_nI (by omega) (by omega), fun z2 => ?_, fun z2 => val (decide_eq_true (Or.inl z2))⟩⟩
        have hst : ¬ stands K v = true := fun q => by
          have := of_decide_eq_true q
          omega
        rw [sVals, if_neg hst] at hse
        have hvF9 := hvF (hgt pre pre.length - hgt pre (pre.length - 1)) (fun _ => rfl)
        rw [vF, if_neg hst] at hvF9
        unfold wp_Mo_curve_246
        refine bn0 rfl ?_
        rw [nI_leI (by omega) (by omega)]
        refine ⟨fun q => ?_, fun q => stop0 (by omega) ?_⟩
        · rw [if_neg (by omega)] at hvF9
          rw [vLst, if_neg hst, List.append_nil] at hpre
          have ho9 := ho hvF9.symm he
          rw [← hse] at ho9
          refine table s he (nI v) hsn (fun a ha => ?_) ho9
          rw [← hpre]
          exact hhe a (by omega)
        · rw [if_pos (by omega)] at hvF9
          rw [(hM v hv).2.1]
          unfold wp_Mo_curve_267
          exact br_f (by decide) (hb 4 (P v) hvF9.symm _ _ _ _)
  -- the elements
  have elems : ∀ c v s m he, v + c = e → j + 1 + 1 ≤ v → V - v + 2 ≤ m → s < 2 ^ n → elF n M P c v s = elF n M P (e - (j + 1 + 1)) (j + 1 + 1) 0 → wp_Mo_curve_12 (nI n) kf nf pf post m (nI s) (nI v) 0 fp he dr dm := by
    intro c
    induction c with
    | zero =>
      intro v s m he hve hjv hm hsn hE
      obtain ⟨m, rfl⟩ : ∃ m', m = m' + 1 := ⟨m - 1, by omega⟩
      have : v = e := by omega
      subst this
      rw [elF] at hE
      rw [← hE] at htf hcon
      dsimp only at htf
      rw [wp_Mo_curve_12]
      have k4 : kf (nI v).toNatClampNeg = 1 ↔ K v = 4 := knd v 4 (by omega) (by decide)
      rw [k4]
      have hK4 : ¬ K v = 4 := by omega
      refine bn0 rfl ⟨vp_in_nI (by omega) (by omega), bn1 hK4 ?_⟩
      unfold wp_Mo_curve_98
      refine br_t rfl (sizeOf_ok (by omega) ⟨vp_in_nI (n := 0) (by omega) (by omega), V + 3, ?_⟩)
      have e2 : nI v + 2 = nI (v + 2) := by rw [show (2 : Int32) = nI 2 from rfl, nI_add]
      rw [e2]
      have hv2 := stands_lt (j := v + 2) hT (by omega) (by
        unfold sVal at zv
        by_cases q : K (v + 2) = 8
        · exact decide_eq_true (Or.inr q)
        · rw [if_neg q] at zv
          by_cases q4 : K (v + 2) = 4
          · exact decide_eq_true (Or.inl q4)
          · rw [if_neg q4] at zv; cases zv)
      have hst : stands K (v + 2) = true := by
        unfold sVal at zv
        by_cases q : K (v + 2) = 8
        · exact decide_eq_true (Or.inr q)
        · rw [if_neg q] at zv
          by_cases q4 : K (v + 2) = 4
          · exact decide_eq_true (Or.inl q4)
          · rw [if_neg q4] at zv; cases zv
      refine vals s hsn (fun c p hc => hbad c p (by rw [htf]; exact hc)) (fun hc he => by
        have := hok (by rw [htf]; exact hc) he
        simp only [hcon] at this
        exact this) (V + 3) 602 (v + 2) [] _ (by omega) (by omega) (by omega) (by simp) ?_ ?_ ?_ (fun x hx => by cases hx) ?_ (fun rise _ => ?_)
      · show (sVals K (601 + 1) (v + 2)).2 = true
        rw [sVals, if_pos hst, if_pos zv]; exact hs
      · show (sVals K (601 + 1) (v + 2)).1 = _
        rw [sVals, if_pos hst, if_pos zv]
      · rfl
      · intro a ha
        have : a = 0 := by simpa using ha
        subst this
        rfl
      · exact vF_rise0 _ _ _ _ _ _ _ _ _
    | succ c ih =>
      intro v s m he hve hjv hm hsn hE
      obtain ⟨m, rfl⟩ : ∃ m', m = m' + 1 := ⟨m - 1, by omega⟩
      have hv4 : K v = 4 := by
        by_cases q : v = j + 1 + 1
        · subst q; exact z4
        · exact hey v (by omega) (by omega)
      have hMv := hT.2.2.2.2 v
      rw [wp_Mo_curve_12]
      have k4 : kf (nI v).toNatClampNeg = 1 ↔ K v = 4 := knd v 4 (by omega) (by decide)
      rw [k4, nI_clamp (n := v) (by omega), (hM v (by omega)).2.2 hv4, nI_leI (by omega) (by omega)]
      have out : ∀ m x at1 c p he, ¬ c = 0 → (∀ a he dr dm, post a c p he dr dm) → wp_Mo_curve_12 (nI n) kf nf pf post (m + 1) x at1 c p he dr dm := by
        intro m x at1 c p he hc hp
        rw [wp_Mo_curve_12]
        refine bn1 hc ?_
        unfold wp_Mo_curve_98
        exact br_f hc (hp _ _ _ _)
      obtain ⟨m, rfl⟩ : ∃ m', m = m' + 1 := ⟨m - 1, by omega⟩
      have fault : (n ≤ M v ∨ s.testBit (M v) = true) → ∀ a he dr dm, post a 3 (P v) he dr dm := by
        intro hq
        rw [elF, if_pos hq] at hE
        rw [← hE] at htf
        exact hbad 3 (P v) htf
      refine bn0 rfl ⟨vp_in_nI (by omega) (by omega), bn0 hv4 ⟨vp_in_nI (by omega) (by omega), fun z => ?_, fun z => ⟨vp_in_nI (by omega) (by omega), has01 (by omega) (by omega) (fun hb => br_f (by decide) ?_) (fun hb => br_t rfl ?_)⟩⟩⟩
      · unfold wp_Mo_curve_73 wp_Mo_curve_94
        refine element_ok hT hM hn (by omega) hv4 (fun q => by omega) (fun _ _ => bn1 (by decide) ?_) (fun _ q => absurd rfl q)
        exact out m _ _ _ _ _ (by decide) (fault (Or.inl z))
      · refine stop0 (by omega) ?_
        rw [(hM v (by omega)).2.1]
        unfold wp_Mo_curve_73 wp_Mo_curve_94
        refine element_ok hT hM hn (by omega) hv4 (fun q => bn1 (by decide) ?_) (fun q _ => by omega) (fun q _ => by omega)
        exact out m _ _ _ _ _ (by decide) (fault (Or.inr hb))
      · unfold wp_Mo_curve_73 wp_Mo_curve_94
        refine element_ok hT hM hn (by omega) hv4 (fun q => bn0 rfl ?_) (fun q _ => by omega) (fun q _ => by omega)
        rw [nI_sh (by omega), nI_or]
        rw [elF, if_neg (by rw [hb]; simp; omega)] at hE
        exact ih (v + 1) (s ||| 2 ^ M v) (m + 1) he (by omega) (by omega) (by omega) (or_lt hsn (Nat.pow_lt_pow_right (by decide) (by omega))) hE
  unfold wp_Mo_curve_0
  rw [nI_1]
  exact ⟨V + 3, elems (e - (j + 1 + 1)) (j + 1 + 1) 0 (V + 3) he (by omega) (Nat.le_refl _) (by omega) (Nat.two_pow_pos n) rfl⟩
theorem mterm_ok {K M : Nat → Nat} {P : Nat → Int32} {V : Nat} {kf pf nf : Nat → Int32} (hT : Toks K M V) (hM : TokM K M P V kf pf nf) {n j : Nat} (hn : n ≤ 10) (hj : j ≤ V) (hs : (sTerm K V j).2 = true) {fp : Int32} {he dr dm : Nat → Int32} {post : Int32 → Int32 → Int32 → (Nat → Int32) → (Nat → Int32) → (Nat → Int32) → Prop}
    (hbad : ∀ c p, tF n K M P V j = some (c, p) → ∀ a he dr dm, post a c p he dr dm)
    (hok : tF n K M P V j = none → ∀ he, post (nI (sTerm K V j).1) 0 fp he (fun S => if S < 2 ^ n then dr S + iI (con n K M P V j S) else dr S) (upd dm (K j - 1) (dm (K j - 1) + 1))) : wp_Mo_term_0 (nI n) kf nf pf post (nI j) 0 fp he dr dm := by
  have hV := hT.1
  have knd : ∀ j k, j ≤ V → k ≤ 12 → (kf (nI j).toNatClampNeg = nI (trk k) ↔ K j = k) := by
    intro j k hj hk
    have hKj := hT.2.2.2.1 j
    have t1 := trk_le (K j)
    have t2 := trk_le k
    rw [nI_clamp (by omega), (hM j hj).1]
    exact ⟨fun z => trk_inj hKj hk ((nI_eq (by omega) (by omega)).mp z), fun z => by rw [z]⟩
  have k3 : kf (nI j).toNatClampNeg = 5 ↔ K j = 3 := knd j 3 hj (by decide)
  have k2 : kf (nI j).toNatClampNeg = 4 ↔ K j = 2 := knd j 2 hj (by decide)
  unfold wp_Mo_term_0
  rw [k3, k2, nI_1]
  refine ⟨vp_in_nI (by omega) (by omega), fun z3 => ?_, fun z3 => ?_⟩
  · unfold sTerm at hs hok
    by_cases z1 : K j = 1
    · -- a weight
      have lj := hT.lt hj z1 (by decide) (by decide)
      rw [if_pos z1] at hs hok
      unfold sWeight at hs hok
      have z4 : K (j + 1) = 4 := by
        apply Classical.byContradiction
        intro z; rw [if_neg z] at hs; cases hs
      rw [if_pos z4] at hs hok
      have l1 := hT.lt (by omega) z4 (by decide) (by decide)
      have z6 : K (j + 1 + 1) = 6 := by
        apply Classical.byContradiction
        intro z; rw [if_neg z] at hs; cases hs
      rw [if_pos z6] at hs hok
      have l2 := hT.lt (by omega) z6 (by decide) (by decide)
      have htf : tF n K M P V j = if n ≤ M (j + 1) then some (3, P (j + 1)) else none := by unfold tF; rw [if_pos z1]
      refine element_ok hT hM hn (by omega) z4 (fun hx => bn1 (by omega) ?_) (fun hx _ => bn1 (by omega) ?_) (fun _ q => absurd rfl q)
      · unfold wp_Mo_term_86
        rw [nI_1]
        refine br_t rfl (signed_ok hT hM (by omega) hs ?_)
        rw [k2]
        refine bn1 (by omega) ?_
        have e1 : kf (nI j).toNatClampNeg = nI (1 + 2) := by rw [nI_clamp (by omega), (hM j hj).1, z1]; rfl
        rw [e1]
        refine mtab_ok (k := 1) (y := 0) hn hx (Or.inl rfl) (fun q => by omega) (fun q => by omega) ?_
        have := hok (by rw [htf, if_neg (by omega)]) he
        rw [z1] at this
        have ec : ∀ S : Nat, (if S.testBit (M (j + 1)) = true ∧ (1 = 1 ∨ S.testBit 0 = false) then vVal K M (j + 1 + 1 + 1) else 0) = con n K M P V j S := by
          intro S
          unfold con
          rw [if_pos z1]
          simp
        have ef : (fun S => if S < 2 ^ n then dr S + iI (if S.testBit (M (j + 1)) = true ∧ (1 = 1 ∨ S.testBit 0 = false) then vVal K M (j + 1 + 1 + 1) else 0) else dr S) = (fun S => if S < 2 ^ n then dr S + iI (con n K M P V j S) else dr S) := by
          funext S
          rw [ec S]
        rw [← ef] at this
        exact this
      · unfold wp_Mo_term_86
        exact br_f (by decide) (hbad 3 (P (j + 1)) (by rw [htf, if_pos hx]) _ _ _ _)
    · rw [if_neg z1] at hs hok
      have z2 : K j = 2 := by
        apply Classical.byContradiction
        intro z; rw [if_neg z, if_neg z3] at hs; cases hs
      have lj := hT.lt hj z2 (by decide) (by decide)
      rw [if_pos z2] at hs hok
      unfold sArc at hs hok
      have z4 : K (j + 1) = 4 := by
        apply Classical.byContradiction
        intro z; rw [if_neg z] at hs; cases hs
      rw [if_pos z4] at hs hok
      have l1 := hT.lt (by omega) z4 (by decide) (by decide)
      have z7 : K (j + 1 + 1) = 7 := by
        apply Classical.byContradiction
        intro z; rw [if_neg z] at hs; cases hs
      rw [if_pos z7] at hs hok
      have l2 := hT.lt (by omega) z7 (by decide) (by decide)
      have z42 : K (j + 1 + 2) = 4 := by
        apply Classical.byContradiction
        intro z; rw [if_neg z] at hs; cases hs
      rw [if_pos z42] at hs hok
      have l3 := hT.lt (by omega) z42 (by decide) (by decide)
      have z6 : K (j + 1 + 3) = 6 := by
        apply Classical.byContradiction
        intro z; rw [if_neg z] at hs; cases hs
      rw [if_pos z6] at hs hok
      have l4 := hT.lt (by omega) z6 (by decide) (by decide)
      have htf : tF n K M P V j = if n ≤ M (j + 1) then some (3, P (j + 1)) else if n ≤ M (j + 3) ∨ M (j + 3) = M (j + 1) then some (3, P (j + 3)) else if vVal K M (j + 5) < 0 then some (4, P (j + 5)) else none := by unfold tF; rw [if_neg z1, if_pos z2]
      have m1 := hT.2.2.2.2 (j + 1)
      have m3 := hT.2.2.2.2 (j + 3)
      have m3' := hT.2.2.2.2 (j + 1 + 1 + 1)
      refine element_ok hT hM hn (by omega) z4 (fun hx => bn0 z2 (bn0 rfl ?_)) (fun hx _ => bn0 z2 (bn1 (by decide) ?_)) (fun _ q => absurd rfl q)
      · rw [nI_1, nI_clamp (n := j + 1 + 1 + 1) (by omega), (hM (j + 1 + 1 + 1) (by omega)).2.2 z42, nI_eq (by omega) (by omega)]
        refine ⟨vp_in_nI (by omega) (by omega), fun hne => ?_, fun he9 => stop0 (by omega) ?_⟩
        · unfold wp_Mo_term_81
          refine element_ok hT hM hn (by omega) z42 (fun hy => ?_) (fun hy _ => ?_) (fun _ q => absurd rfl q)
          · unfold wp_Mo_term_86
            rw [nI_1]
            refine br_t rfl (signed_ok hT hM (j := j + 1 + 4) (by omega) hs ?_)
            rw [k2]
            refine bn0 z2 ?_
            have vb := vVal_bd hT (j + 5)
            have e0 : (0 : Int32) ≤ iI (vVal K M (j + 1 + 4)) ↔ 0 ≤ vVal K M (j + 1 + 4) := iI_le (a := 0) (b := vVal K M (j + 5)) ⟨by omega, by omega⟩ ⟨by omega, by omega⟩
            rw [e0]
            refine ⟨fun hv => ?_, fun hv => ?_⟩
            · have e1 : kf (nI j).toNatClampNeg = nI (2 + 2) := by rw [nI_clamp (by omega), (hM j hj).1, z2]; rfl
              rw [e1]
              refine mtab_ok (k := 2) (y := M (j + 3)) hn hx (Or.inr rfl) (fun _ => hy) (fun _ => rfl) ?_
              have hno : ¬ (n ≤ M (j + 3) ∨ M (j + 3) = M (j + 1)) := fun q => by
                rcases q with q | q
                · exact absurd q (by have : M (j + 3) < n := hy; omega)
                · exact hne q
              have hv' : 0 ≤ vVal K M (j + 5) := hv
              have := hok (by rw [htf, if_neg (by omega), if_neg hno, if_neg (by omega)]) he
              rw [z2] at this
              have ec : ∀ S : Nat, (if S.testBit (M (j + 1)) = true ∧ (2 = 1 ∨ S.testBit (M (j + 3)) = false) then vVal K M (j + 1 + 4) else 0) = con n K M P V j S := by
                intro S
                unfold con
                rw [if_neg z1, if_pos z2]
                simp
              have ef : (fun S => if S < 2 ^ n then dr S + iI (if S.testBit (M (j + 1)) = true ∧ (2 = 1 ∨ S.testBit (M (j + 3)) = false) then vVal K M (j + 1 + 4) else 0) else dr S) = (fun S => if S < 2 ^ n then dr S + iI (con n K M P V j S) else dr S) := by
                funext S
                rw [ec S]
              rw [← ef] at this
              exact this
            · have hno : ¬ (n ≤ M (j + 3) ∨ M (j + 3) = M (j + 1)) := fun q => by
                rcases q with q | q
                · exact absurd q (by have : M (j + 3) < n := hy; omega)
                · exact hne q
              have hv' : ¬ 0 ≤ vVal K M (j + 5) := hv
              refine stop0 (by omega) ?_
              rw [(hM (j + 1 + 2 + 1 + 1) (by omega)).2.1]
              exact hbad 4 (P (j + 5)) (by rw [htf, if_neg (by omega), if_neg hno, if_pos (by omega)]) _ _ _ _
          · unfold wp_Mo_term_86
            exact br_f (by decide) (hbad 3 (P (j + 3)) (by rw [htf, if_neg (by omega), if_pos (Or.inl hy)]) _ _ _ _)
        · rw [(hM (j + 1 + 1 + 1) (by omega)).2.1]
          unfold wp_Mo_term_81 wp_Mo_term_86
          have hb3 := hbad 3 (P (j + 3)) (by rw [htf, if_neg (by omega), if_pos (Or.inr he9)])
          refine element_ok hT hM hn (by omega) z42 (fun hy => br_f (by decide) (hb3 _ _ _ _)) (fun hy _ => br_f (by decide) (hb3 _ _ _ _)) (fun _ _ => br_f (by decide) (hb3 _ _ _ _))
      · unfold wp_Mo_term_86
        exact br_f (by decide) (hbad 3 (P (j + 1)) (by rw [htf, if_pos hx]) _ _ _ _)
  · -- a curve
    have lj := hT.lt hj z3 (by decide) (by decide)
    have es : sTerm K V j = sCurve K V (j + 1) := by unfold sTerm; rw [if_neg (by omega), if_neg (by omega), if_pos z3]
    rw [es] at hs hok
    rw [z3] at hok
    exact mcurve_ok hT hM hn (by omega) z3 hs hbad hok
theorem elF_code {n : Nat} {M : Nat → Nat} {P : Nat → Int32} {c p : Int32} : ∀ d v s, (elF n M P d v s).1 = some (c, p) → c = 3 := by
  intro d
  induction d with
  | zero => intro v s h; cases h
  | succ d ih =>
    intro v s h
    rw [elF] at h
    split at h
    · injection h with h
      injection h with h1 h2
      exact h1.symm
    · exact ih _ _ h
theorem vF_code {K M : Nat → Nat} {P : Nat → Int32} {most : Nat} {c p : Int32} : ∀ d v k last rise, vF K M P most d v k last rise = some (c, p) → c = 4 := by
  intro d
  induction d with
  | zero => intro v k last rise h; cases h
  | succ d ih =>
    intro v k last rise h
    rw [vF] at h
    split at h
    · split at h
      · injection h with h
        injection h with h1 h2
        exact h1.symm
      · exact ih _ _ _ _ h
    · split at h
      · injection h with h
        injection h with h1 h2
        exact h1.symm
      · cases h
theorem tF_code {n : Nat} {K M : Nat → Nat} {P : Nat → Int32} {V j : Nat} {c p : Int32} (h : tF n K M P V j = some (c, p)) : c = 3 ∨ c = 4 := by
  unfold tF at h
  split at h
  · split at h
    · injection h with h
      injection h with h1 h2
      exact Or.inl h1.symm
    · cases h
  · split at h
    · split at h
      · injection h with h
        injection h with h1 h2
        exact Or.inl h1.symm
      · split at h
        · injection h with h
          injection h with h1 h2
          exact Or.inl h1.symm
        · split at h
          · injection h with h
            injection h with h1 h2
            exact Or.inr h1.symm
          · cases h
    · cases e : (cEl n K M P V j).1 with
      | some f =>
        rw [e] at h
        obtain ⟨c', p'⟩ := f
        injection h with h
        injection h with h1 h2
        rw [← h1]
        exact Or.inl (elF_code _ _ _ e)
      | none =>
        rw [e] at h
        exact Or.inr (vF_code _ _ _ _ _ h)
def tsF (n : Nat) (K M : Nat → Nat) (P : Nat → Int32) (V : Nat) : Nat → Nat → Nat → Option (Int32 × Int32)
  | 0, _, _ => none
  | d + 1, i, j => if K j = 5 then (if i = 30 then some (5, P (j + 1)) else match tF n K M P V (j + 1) with
    | some f => some f
    | none => tsF n K M P V d (i + 1) (sTerm K V (j + 1)).1) else none
def tsL (K : Nat → Nat) (V : Nat) : Nat → Nat → List Nat
  | 0, _ => []
  | d + 1, j => if K j = 5 then (j + 1) :: tsL K V d (sTerm K V (j + 1)).1 else []
/-- the whole text's first fault of meaning -/
def xF (K M : Nat → Nat) (P : Nat → Int32) (V : Nat) : Option (Int32 × Int32) := if M 1 < 1 ∨ 10 < M 1 then some (2, P 1) else tsF (M 1) K M P V 601 0 2
def xL (K : Nat → Nat) (V : Nat) : List Nat := tsL K V 601 2
def sumC (n : Nat) (K M : Nat → Nat) (P : Nat → Int32) (V : Nat) (js : List Nat) (S : Nat) : Int := js.foldl (fun a j => a + con n K M P V j S) 0
def cntK (K : Nat → Nat) (k : Nat) (js : List Nat) : Nat := js.foldl (fun a j => a + if K j = k then 1 else 0) 0
theorem sumC_snoc (n : Nat) (K M : Nat → Nat) (P : Nat → Int32) (V : Nat) (js : List Nat) (j S : Nat) : sumC n K M P V (js ++ [j]) S = sumC n K M P V js S + con n K M P V j S := by
  unfold sumC
  rw [List.foldl_append]
  rfl
theorem cntK_snoc (K : Nat → Nat) (k : Nat) (js : List Nat) (j : Nat) : cntK K k (js ++ [j]) = cntK K k js + if K j = k then 1 else 0 := by
  unfold cntK
  rw [List.foldl_append]
  rfl
theorem sTerm_kind {K : Nat → Nat} {V j : Nat} (h : (sTerm K V j).2 = true) : K j = 1 ∨ K j = 2 ∨ K j = 3 := by
  unfold sTerm at h
  by_cases h1 : K j = 1
  · exact Or.inl h1
  · rw [if_neg h1] at h
    by_cases h2 : K j = 2
    · exact Or.inr (Or.inl h2)
    · rw [if_neg h2] at h
      by_cases h3 : K j = 3
      · exact Or.inr (Or.inr h3)
      · rw [if_neg h3] at h; cases h
theorem sTerms_step {K : Nat → Nat} {V d j : Nat} (h : (sTerms K V (d + 1) j).2 = true) (h5 : K j = 5) : (sTerm K V (j + 1)).2 = true ∧ (sTerms K V d (sTerm K V (j + 1)).1).2 = true := by
  rw [sTerms, if_pos h5] at h
  by_cases z : (sTerm K V (j + 1)).2 = true
  · rw [if_pos z] at h
    exact ⟨z, h⟩
  · rw [if_neg z] at h
    exact absurd h z
theorem build_ok {K M : Nat → Nat} {P : Nat → Int32} {V : Nat} {kf pf nf : Nat → Int32} (hT : Toks K M V) (hM : TokM K M P V kf pf nf) (hs : (sText K V).2 = true) {a0 ds fl fp : Int32} {he dr dm : Nat → Int32} {post : Int32 → Int32 → Int32 → Int32 → (Nat → Int32) → (Nat → Int32) → (Nat → Int32) → Prop}
    (hbad : ∀ c p, xF K M P V = some (c, p) → ∀ a ds dm dr he, post a ds c p dm dr he)
    (hok : xF K M P V = none → ∀ a p dm dr he, (∀ S, S < 1024 → dr S = iI (if S < 2 ^ M 1 then sumC (M 1) K M P V (xL K V) S else 0)) → (∀ k, k < 3 → dm k = nI (cntK K (k + 1) (xL K V))) → post a (nI (M 1)) 0 p dm dr he) : wp_Mo_build_0 nf pf kf post a0 ds fl fp dm dr he := by
  have hV := hT.1
  have m1 := hT.2.2.2.2 1
  unfold sText at hs
  have z0 : K 0 = 0 := by
    apply Classical.byContradiction
    intro z; rw [if_neg z] at hs; cases hs
  rw [if_pos z0] at hs
  have l0 := hT.lt (j := 0) (by omega) z0 (by decide) (by decide)
  have z4 : K 1 = 4 := by
    apply Classical.byContradiction
    intro z; rw [if_neg z] at hs; cases hs
  rw [if_pos z4] at hs
  have l1 := hT.lt (j := 1) (by omega) z4 (by decide) (by decide)
  have hn1 : nf 1 = nI (M 1) := (hM 1 (by omega)).2.2 z4
  unfold wp_Mo_build_0
  have e1 : ((1 : Int32).toNatClampNeg) = 1 := rfl
  have c1 : nI (M 1) < 1 ↔ M 1 < 1 := nI_ltI (a := M 1) (b := 1) (by omega) (by omega)
  have c2 : nI (M 1) ≤ 10 ↔ M 1 ≤ 10 := nI_leI (a := M 1) (b := 10) (by omega) (by omega)
  rw [e1, hn1, c1, c2]
  have bad : (M 1 < 1 ∨ 10 < M 1) → wp_Mo_build_40 nf pf kf post 1 (nI (M 1)) 0 fp dm dr he := by
    intro hb
    unfold wp_Mo_build_40
    refine stop0 (j := 1) (by omega) ?_
    rw [(hM 1 (by omega)).2.1]
    exact hbad 2 (P 1) (by unfold xF; rw [if_pos hb]) _ _ _ _ _
  refine ⟨vp_in_nI (n := 1) (by omega) (by omega), fun z => bad (Or.inl z), fun z => ⟨fun z2 => ?_, fun z2 => bad (Or.inr (by omega))⟩⟩
  have hx : xF K M P V = tsF (M 1) K M P V 601 0 2 := by unfold xF; rw [if_neg (by omega)]
  rw [hx] at hbad hok
  have h1024 := two_le z2
  have knd : ∀ j k, j ≤ V → k ≤ 12 → (kf (nI j).toNatClampNeg = nI (trk k) ↔ K j = k) := by
    intro j k hj hk
    have hKj := hT.2.2.2.1 j
    have t1 := trk_le (K j)
    have t2 := trk_le k
    rw [nI_clamp (by omega), (hM j hj).1]
    exact ⟨fun z => trk_inj hKj hk ((nI_eq (by omega) (by omega)).mp z), fun z => by rw [z]⟩
  have terms : ∀ m d j pre p dm dr he, j ≤ V → V < j + d → V - j + 2 ≤ m → pre.length ≤ 30 → (sTerms K V d j).2 = true → pre ++ tsL K V d j = xL K V → tsF (M 1) K M P V d pre.length j = tsF (M 1) K M P V 601 0 2 → (∀ S, S < 1024 → dr S = iI (if S < 2 ^ M 1 then sumC (M 1) K M P V pre S else 0)) → (∀ k, k < 3 → dm k = nI (cntK K (k + 1) pre)) → wp_Mo_build_104 nf pf kf post m (nI pre.length) (nI j) (nI (M 1)) 0 p dm dr he := by
    intro m
    induction m with
    | zero => intro d j pre p dm dr he hj hd hm; omega
    | succ m ih =>
      intro d j pre p dm dr he hj hd hm hpl hsy hpre htf hdr hdm
      cases d with
      | zero => omega
      | succ d =>
        rw [wp_Mo_build_104]
        have k5 : kf (nI j).toNatClampNeg = 7 ↔ K j = 5 := knd j 5 hj (by decide)
        rw [k5, nI_1, nI_1]
        unfold wp_Mo_build_161
        rw [tsF] at htf
        refine bn0 rfl ⟨vp_in_nI (by omega) (by omega), fun z5 => ?_, fun z5 => ?_⟩
        · rw [if_neg z5] at htf
          rw [tsL, if_neg z5, List.append_nil] at hpre
          subst hpre
          exact hok htf.symm _ _ _ _ _ hdr hdm
        · have lj := hT.lt hj z5 (by decide) (by decide)
          rw [if_pos z5] at htf
          obtain ⟨s1, s2⟩ := sTerms_step hsy z5
          have e30 : nI pre.length = 30 ↔ pre.length = 30 := nI_eq (a := pre.length) (b := 30) (by omega) (by omega)
          rw [e30]
          refine ⟨fun z30 => ?_, fun z30 => ?_⟩
          · rw [if_neg z30] at htf
            have hsl := sTerm_le (j := j + 1) hT (by omega)
            have hkk := sTerm_kind s1
            refine mterm_ok hT hM z2 (by omega) s1 (fun c q hc a he dr dm => ?_) (fun hc he => ?_)
            · rw [hc] at htf
              obtain ⟨m', rfl⟩ : ∃ m', m = m' + 1 := ⟨m - 1, by omega⟩
              have hc0 : ¬ c = 0 := by
                rcases tF_code hc with q0 | q0 <;> rw [q0] <;> decide
              rw [wp_Mo_build_104]
              exact bn1 hc0 (hbad c q htf.symm _ _ _ _ _)
            · rw [hc] at htf
              have := ih d (sTerm K V (j + 1)).1 (pre ++ [j + 1]) p (upd dm (K (j + 1) - 1) (dm (K (j + 1) - 1) + 1)) (fun S => if S < 2 ^ M 1 then dr S + iI (con (M 1) K M P V (j + 1) S) else dr S) he hsl.1 (by omega) (by omega) (by simp; omega) s2 (by rw [← hpre, tsL, if_pos z5, List.append_assoc]; rfl) (by rw [List.length_append, List.length_singleton]; exact htf) (fun S hS => by
                rw [hdr S hS, sumC_snoc]
                split
                · rw [iI_add]
                · rfl) (fun k hk => by
                rw [cntK_snoc]
                by_cases q : k = K (j + 1) - 1
                · subst q
                  rw [pk_us, hdm _ hk, nI_1, if_pos (by omega)]
                · rw [pk_un q, hdm k hk, if_neg (by omega)]
                  rfl)
              rw [List.length_append, List.length_singleton] at this
              exact this
          · rw [if_pos z30] at htf
            refine stop0 (by omega) ?_
            rw [(hM (j + 1) (by omega)).2.1]
            exact hbad 5 (P (j + 1)) htf.symm _ _ _ _ _
  have zero2 : ∀ d i dr dm, i + d = 1024 → (∀ S, S < i → dr S = 0) → (∀ k, k < 3 → dm k = 0) → wp_Mo_build_82 nf pf kf post (d + 1) (nI i) 2 (nI (M 1)) 0 fp dm dr he := by
    intro d
    induction d with
    | zero =>
      intro i dr dm hi hdr hdm
      rw [wp_Mo_build_82]
      have : i = 1024 := by omega
      subst this
      refine br_t (nI_le (a := 1024) (Nat.le_refl _) (by omega)) ⟨V + 2, ?_⟩
      exact terms (V + 2) 601 2 [] fp dm dr he (by omega) (by omega) (by omega) (by simp) hs rfl rfl (fun S hS => by rw [hdr S hS]; split <;> rfl) (fun k hk => by rw [hdm k hk]; rfl)
    | succ d ih =>
      intro i dr dm hi hdr hdm
      rw [wp_Mo_build_82]
      refine br_f (nI_ge (b := 1024) (by omega) (by omega)) ⟨vp_in_nI (by omega) (by omega), ?_⟩
      rw [nI_1, nI_clamp (by omega)]
      refine ih (i + 1) _ dm (by omega) (fun S hS => ?_) hdm
      by_cases q : S = i
      · subst q; rw [pk_us]
      · rw [pk_un q]; exact hdr S (by omega)
  have zero1 : ∀ d i dm, i + d = 3 → (∀ k, k < i → dm k = 0) → wp_Mo_build_62 nf pf kf post (d + 1) (nI i) 2 (nI (M 1)) 0 fp dm dr he := by
    intro d
    induction d with
    | zero =>
      intro i dm hi hdm
      rw [wp_Mo_build_62]
      have : i = 3 := by omega
      subst this
      exact br_t (nI_le (a := 3) (Nat.le_refl _) (by omega)) ⟨1025, zero2 1024 0 dr dm (by omega) (fun S hS => by omega) hdm⟩
    | succ d ih =>
      intro i dm hi hdm
      rw [wp_Mo_build_62]
      refine br_f (nI_ge (b := 3) (by omega) (by omega)) ⟨vp_in_nI (by omega) (by omega), ?_⟩
      rw [nI_1, nI_clamp (by omega)]
      refine ih (i + 1) _ (by omega) (fun S hS => ?_)
      by_cases q : S = i
      · subst q; rw [pk_us]
      · rw [pk_un q]; exact hdm S (by omega)
  exact ⟨4, zero1 3 0 dm (by omega) (fun k hk => by omega)⟩
