/-! The class takes a good text over. Own work. -/
theorem take_snoc : ∀ (l : List Nat) (i : Nat), i < l.length → l.take (i + 1) = l.take i ++ [l.getD i 0] := by
  intro l
  induction l with
  | nil => intro i h; cases h
  | cons x xs ih =>
    intro i h
    cases i with
    | zero => rfl
    | succ i =>
      rw [List.take_succ_cons, List.take_succ_cons, ih i (by simpa using h)]
      rfl
theorem getD_mem {l : List Nat} {i : Nat} (h : i < l.length) : l.getD i 0 ∈ l := by
  rw [List.getD_eq_getElem?_getD, List.getElem?_eq_getElem h]
  exact List.getElem_mem h
theorem two_and {S x : Nat} : S &&& 2 ^ x = 2 ^ x ↔ S.testBit x = true := by
  have := add_bit (j := S) (x := x)
  rwa [Nat.or_zero] at this
theorem tellTo_ok {n : Nat} {K M : Nat → Nat} {P : Nat → Int32} {V : Nat} {js : List Nat} (hn : n ≤ 10) (hT : Toks K M V) (hg : ∀ x, x ∈ js → Good n K M P V x) (hl : js.length ≤ 30) {ki is os va : Nat → Int32} (hA : TermsAt n K M P V js ki is os va) {a b : Int32} {f : Nat → Int64} {post : Int32 → Int32 → (Nat → Int64) → Prop} (h : ∀ g, (∀ S, S < 2 ^ n → g S = lI (sumC n K M P V js S)) → post (nI n) (nI (2 ^ n)) g) : wp_Te_tellTo_0 (nI n) (nI js.length) ki is va os post a b f := by
  have h1024 := two_le hn
  unfold wp_Te_tellTo_0
  refine clear_ok hn ⟨js.length + 1, ?_⟩
  have loop : ∀ d i g, i + d = js.length → (∀ S, S < 2 ^ n → g S = lI (sumC n K M P V (js.take i) S)) → wp_Te_tellTo_10 (nI n) (nI js.length) ki is va os post (d + 1) (nI i) (nI n) (nI (2 ^ n)) g := by
    intro d
    induction d with
    | zero =>
      intro i g hi hgs
      rw [wp_Te_tellTo_10]
      refine br_t (nI_le (by omega) (by omega)) (h g (fun S hS => ?_))
      rw [hgs S hS, List.take_of_length_le (by omega)]
    | succ d ih =>
      intro i g hi hgs
      rw [wp_Te_tellTo_10]
      obtain ⟨a1, a2, a3, a4, a5⟩ := hA i (by omega)
      have gj := hg _ (getD_mem (l := js) (i := i) (by omega))
      have hts := take_snoc js i (by omega)
      have hk := sTerm_kind gj.2.1
      generalize js.getD i 0 = j at *
      have go : ∀ g, (∀ S, S < 2 ^ n → g S = lI (sumC n K M P V (js.take i) S + con n K M P V j S)) → wp_Te_tellTo_74 (nI n) (nI js.length) ki is va os post (fun x2 f_p1_size f_p1_sets f_p1_values => wp_Te_tellTo_10 (nI n) (nI js.length) ki is va os post (d + 1) x2 f_p1_size f_p1_sets f_p1_values) (nI i) (nI n) (nI (2 ^ n)) g := by
        intro g hg9
        unfold wp_Te_tellTo_74
        rw [nI_1]
        refine ih (i + 1) g (by omega) (fun S hS => ?_)
        rw [hts, sumC_snoc]
        exact hg9 S hS
      have e10 : nI i * 10 = nI (10 * i) := by
        rw [show (10 : Int32) = iI 10 from rfl, nI_iI, iI_mul, nI_iI]
        congr 1
        omega
      have e3 : nI (K j) = 3 ↔ K j = 3 := nI_eq (a := K j) (b := 3) (by omega) (by omega)
      rw [nI_clamp (n := i) (by omega), a1, a2, a3, e3, e10, nI_clamp (n := 10 * i) (by omega)]
      refine br_f (nI_ge (by omega) (by omega)) ⟨vp_in_nI (by omega) (by omega), fun z3 => ⟨vp_in_nI (by omega) (by omega), vp_in_nI (by omega) (by omega), vp_in_nI (by omega) (by omega), ?_⟩, fun z3 => ⟨vp_in_nI (by omega) (by omega), ?_⟩⟩
      · by_cases k1 : K j = 1
        · have x1 := weight_good gj k1
          have eI : tIn n K M P V j = 2 ^ M (j + 1) := by unfold tIn; rw [if_pos (Or.inl k1)]
          have eO : tOut K M j = 0 := by unfold tOut; rw [if_neg (by omega)]
          have eV : tVs K M V j = [vVal K M (j + 3)] := by unfold tVs; rw [if_pos k1]
          have v0 := a4 0 (by rw [eV]; simp)
          rw [eV] at v0
          have vb := vVal_bd hT (j + 3)
          have v0 : va (10 * i) = iI (vVal K M (j + 3)) := v0
          rw [eI, eO, v0, iI_64 ⟨by omega, by omega⟩]
          refine add_ok h1024 (two_lt (by omega)) (by omega) (go _ (fun S hS => ?_))
          rw [if_pos hS, hgs S hS]
          unfold con
          rw [if_pos k1]
          by_cases hb : S.testBit (M (j + 1)) = true
          · rw [if_pos (add_bit.mpr hb), if_pos hb, lI_add]
          · rw [if_neg (fun q => hb (add_bit.mp q)), if_neg hb, Int.add_zero]
        · have k2 : K j = 2 := by omega
          obtain ⟨x1, x2, x3, x4⟩ := arc_good gj k2
          have eI : tIn n K M P V j = 2 ^ M (j + 1) := by unfold tIn; rw [if_pos (Or.inr k2)]
          have eO : tOut K M j = 2 ^ M (j + 3) := by unfold tOut; rw [if_pos k2]
          have eV : tVs K M V j = [vVal K M (j + 5)] := by unfold tVs; rw [if_neg k1, if_pos k2]
          have v0 := a4 0 (by rw [eV]; simp)
          rw [eV] at v0
          have vb := vVal_bd hT (j + 5)
          have v0 : va (10 * i) = iI (vVal K M (j + 5)) := v0
          rw [eI, eO, v0, iI_64 ⟨by omega, by omega⟩]
          have hdis : 2 ^ M (j + 1) &&& 2 ^ M (j + 3) = 0 := by
            rw [and_pow, Nat.testBit_two_pow]
            exact decide_eq_false (fun q => x3 q.symm)
          refine add_ok h1024 (two_lt (by omega)) (two_lt (by omega)) (go _ (fun S hS => ?_))
          have hb := betw_iff (j := S) hdis
          have hb : (S &&& (2 ^ M (j + 1) ||| 2 ^ M (j + 3)) = 2 ^ M (j + 1)) ↔ (S.testBit (M (j + 1)) = true ∧ S.testBit (M (j + 3)) = false) := by
            rw [← two_and, ← and_pow]
            exact hb
          rw [if_pos hS, hgs S hS]
          unfold con
          rw [if_neg k1, if_pos k2]
          by_cases hc : S.testBit (M (j + 1)) = true ∧ S.testBit (M (j + 3)) = false
          · rw [if_pos (hb.mpr hc), if_pos hc, lI_add]
          · rw [if_neg (fun q => hc (hb.mp q)), if_neg hc, Int.add_zero]
      · obtain ⟨c1, c2, c3⟩ := curve_good hT gj z3
        have eI : tIn n K M P V j = (cEl n K M P V j).2 := by unfold tIn; rw [if_neg (by omega)]
        have eV : tVs K M V j = cVs K M V j := by unfold tVs; rw [if_neg (by omega), if_neg (by omega)]
        rw [eI]
        rw [eV] at a4 a5
        refine addCurve_ok h1024 (by omega) (by omega) (go _ (fun S hS => ?_))
        rw [if_pos hS, hgs S hS]
        have hcon : con n K M P V j S = hgt (cVs K M V j) (pop (S &&& (cEl n K M P V j).2)) := by
          unfold con
          rw [if_neg (by omega), if_neg (by omega)]
        rw [hcon]
        unfold curveAt
        clear hcon
        generalize (cEl n K M P V j).2 = E at *
        have hpE : pop (S &&& E) ≤ pop E := pop_mono (fun x hx => by rw [Nat.testBit_and, Bool.and_eq_true] at hx; exact hx.2)
        have hb := hgt_bd (l := cVs K M V j) (fun x hx => vLst_bd hT _ _ x hx) (pop (S &&& E))
        unfold hgt at hb ⊢
        by_cases q : 0 < pop (S &&& E)
        · rw [if_pos q]
          rw [if_neg (by omega)] at hb ⊢
          rw [show 10 * i + pop (S &&& E) - 1 = 10 * i + (pop (S &&& E) - 1) by omega, a4 _ (by omega), iI_64 ⟨by omega, by omega⟩, lI_add]
        · rw [if_neg q, if_pos (by omega), Int.add_zero]
  refine loop js.length 0 _ (by omega) (fun S hS => ?_)
  rw [if_pos hS]
  rfl
theorem takeOver_ok {n : Nat} {K M : Nat → Nat} {P : Nat → Int32} {V : Nat} {js : List Nat} (hn1 : 1 ≤ n) (hn : n ≤ 10) (hT : Toks K M V) (hg : ∀ x, x ∈ js → Good n K M P V x) (hl : js.length ≤ 30) {ki is os va : Nat → Int32} (hA : TermsAt n K M P V js ki is os va) {post : Int32 → Int32 → Int32 → Int32 → Int32 → Int32 → (Nat → Int32) → (Nat → Int64) → (Nat → Int64) → (Nat → Int64) → (Nat → Int32) → (Nat → Int64) → (Nat → Int64) → (Nat → Int64) → (Nat → Int32) → (Nat → Int32) → Prop} {z1 z2 z3 z4 z5 z6 : Int32} {cn : Nat → Int32} {fv gv ve : Nat → Int64} {so : Nat → Int32} {lo ab be : Nat → Int64} {se tu : Nat → Int32}
    (h : ∀ k A cn fv gv ve so lo ab be se tu, cn 0 = nI n → (∀ c, 1 ≤ c → c ≤ 3 → cn c = nI (cntK K c js)) → (∀ S, S < 2 ^ n → fv S = lI (sumC n K M P V js S)) → (∀ S, S < 2 ^ n → gv S = lI (sumC n K M P V js S)) → (∀ x, x < 10 → ve x = 0) → k ≤ n → ChainOk (sumC n K M P V js) n k A → ChainAt (sumC n K M P V js) k A ab be se tu → post (nI n) (nI n) (nI (2 ^ n)) (nI n) (nI (2 ^ n)) (nI k) cn fv gv ve so lo ab be se tu) : wp_Ls_takeOver_0 (nI n) (nI js.length) ki is va os post z1 z2 z3 z4 z5 z6 cn fv gv ve so lo ab be se tu := by
  have h1024 := two_le hn
  obtain ⟨f0, f1, f2⟩ := sumC_facts hn hT js hg
  have f1' : ∀ S, (sumC n K M P V js S).natAbs ≤ 3000000 := fun S => by
    have := f1 S
    have : js.length * 99999 ≤ 30 * 99999 := Nat.mul_le_mul_right _ hl
    omega
  have loop3 : ∀ fv gv cn, (∀ S, S < 2 ^ n → fv S = lI (sumC n K M P V js S)) → (∀ S, S < 2 ^ n → gv S = lI (sumC n K M P V js S)) → cn 0 = nI n → (∀ c, 1 ≤ c → c ≤ 3 → cn c = nI (cntK K c js)) → ∀ d x ve, x + d = 10 → (∀ y, y < x → ve y = 0) → wp_Ls_takeOver_91 (nI n) (nI js.length) ki is va os post (d + 1) (nI x) (nI n) (nI n) (nI (2 ^ n)) (nI n) (nI (2 ^ n)) z6 cn fv gv ve so lo ab be se tu := by
    intro fv gv cn hfv hgv hc0 hc d
    induction d with
    | zero =>
      intro x ve hx hve
      rw [wp_Ls_takeOver_91]
      have : x = 10 := by omega
      subst this
      refine br_t (nI_le (a := 10) (Nat.le_refl _) (by omega)) (follow_ok hn hfv (fun j _ => f1' j) f0 f2 (fun k A so lo ab be se tu hk hC hAt => ?_))
      exact h k A cn fv gv ve so lo ab be se tu hc0 hc hfv hgv hve hk hC hAt
    | succ d ih =>
      intro x ve hx hve
      rw [wp_Ls_takeOver_91]
      refine br_f (nI_ge (b := 10) (by omega) (by omega)) ⟨vp_in_nI (by omega) (by omega), ?_⟩
      rw [nI_1, nI_clamp (by omega)]
      refine ih (x + 1) _ (by omega) (fun y hy => ?_)
      unfold vp_updL
      by_cases q : y = x
      · rw [if_pos q]
      · rw [if_neg q]; exact hve y (by omega)
  have loop2 : ∀ d i cn, i + d = js.length → cn 0 = nI n → (∀ c, 1 ≤ c → c ≤ 3 → cn c = nI (cntK K c (js.take i))) → wp_Ls_takeOver_40 (nI n) (nI js.length) ki is va os post (d + 1) (nI i) (nI n) z2 z3 z4 z5 z6 cn fv gv ve so lo ab be se tu := by
    intro d
    induction d with
    | zero =>
      intro i cn hi hc0 hc
      rw [wp_Ls_takeOver_40]
      refine br_t (nI_le (by omega) (by omega)) (tellTo_ok hn hT hg hl hA (fun g hgs => copy_ok h1024 ⟨11, ?_⟩))
      refine loop3 g _ cn hgs (fun S hS => ?_) hc0 (fun c h1 h3 => ?_) 10 0 ve (by omega) (fun y hy => by omega)
      · rw [if_pos hS, hgs S hS, show (1 : Int64) = lI 1 from rfl, lI_mul, Int.one_mul]
      · rw [hc c h1 h3, List.take_of_length_le (by omega)]
    | succ d ih =>
      intro i cn hi hc0 hc
      rw [wp_Ls_takeOver_40]
      obtain ⟨a1, _⟩ := hA i (by omega)
      have gj := hg _ (getD_mem (l := js) (i := i) (by omega))
      have hts := take_snoc js i (by omega)
      have hk := sTerm_kind gj.2.1
      generalize js.getD i 0 = j at *
      rw [nI_clamp (n := i) (by omega), a1, nI_clamp (n := K j) (by omega), nI_1]
      refine br_f (nI_ge (by omega) (by omega)) ⟨vp_in_nI (by omega) (by omega), vp_in_nI (by omega) (by omega), vp_in_nI (by omega) (by omega), ?_⟩
      refine ih (i + 1) _ (by omega) (by rw [pk_un (by omega)]; exact hc0) (fun c h1 h3 => ?_)
      rw [hts, cntK_snoc]
      by_cases q : c = K j
      · subst q
        rw [pk_us, hc _ h1 h3, nI_1, if_pos rfl]
      · rw [pk_un q, hc c h1 h3, if_neg (fun z => q z.symm)]
        rfl
  have loop1 : ∀ d i cn, i + d = 4 → (∀ c, c < i → cn c = 0) → wp_Ls_takeOver_10 (nI n) (nI js.length) ki is va os post (d + 1) (nI i) (nI n) z2 z3 z4 z5 z6 cn fv gv ve so lo ab be se tu := by
    intro d
    induction d with
    | zero =>
      intro i cn hi hc
      rw [wp_Ls_takeOver_10]
      have : i = 4 := by omega
      subst this
      refine br_t (nI_le (a := 4) (Nat.le_refl _) (by omega)) ⟨vp_in_nI (n := 0) (by omega) (by omega), js.length + 1, ?_⟩
      refine loop2 js.length 0 _ (by omega) (by rw [show ((0 : Int32).toNatClampNeg) = 0 from rfl, pk_us]) (fun c h1 h3 => ?_)
      rw [show ((0 : Int32).toNatClampNeg) = 0 from rfl, pk_un (by omega), hc c (by omega)]
      rfl
    | succ d ih =>
      intro i cn hi hc
      rw [wp_Ls_takeOver_10]
      refine br_f (nI_ge (b := 4) (by omega) (by omega)) ⟨vp_in_nI (by omega) (by omega), ?_⟩
      rw [nI_1, nI_clamp (by omega)]
      refine ih (i + 1) _ (by omega) (fun c hc9 => ?_)
      by_cases q : c = i
      · subst q; rw [pk_us]
      · rw [pk_un q]; exact hc c (by omega)
  unfold wp_Ls_takeOver_0
  exact ⟨5, loop1 4 0 cn (by omega) (fun c hc => by omega)⟩
