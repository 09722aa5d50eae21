/-! The function that a good text tells. Own work. -/
def Conc : Nat → Int → Int → List Int → Prop
  | _, _, _, [] => True
  | k, last, rise, x :: xs => (0 < k → x - last ≤ rise) ∧ Conc (k + 1) x (x - last) xs
theorem vF_none {K M : Nat → Nat} {P : Nat → Int32} {V most : Nat} (hT : Toks K M V) : ∀ d v k last rise, vF K M P most d v k last rise = none → v ≤ V → V < v + d → (sVals K d v).2 = true → k ≤ most → k + (vLst K M d v).length = most ∧ Conc k last rise (vLst K M d v) := by
  intro d
  induction d with
  | zero => intro v k last rise h hv hd; omega
  | succ d ih =>
    intro v k last rise h hv hd hs hk
    rw [vF] at h
    by_cases hst : stands K v = true
    · rw [if_pos hst] at h
      obtain ⟨s1, s2, s3⟩ := sVals_step hs hst
      have hvl := sVal_le hT hv
      split at h
      · cases h
      · next hc =>
        have := hvl.2.2 s1
        obtain ⟨i1, i2⟩ := ih _ _ _ _ h hvl.1 (by omega) s2 (by omega)
        rw [vLst_yes hst]
        refine ⟨by rw [List.length_cons]; omega, fun hk0 => ?_, i2⟩
        apply Classical.byContradiction
        intro q
        exact hc (Or.inr ⟨hk0, by omega⟩)
    · rw [if_neg hst] at h
      rw [vLst, if_neg hst]
      split at h
      · cases h
      · exact ⟨by rw [List.length_nil]; omega, True.intro⟩
def hg (last : Int) (l : List Int) (a : Nat) : Int := if a = 0 then last else l.getD (a - 1) 0
theorem hg_cons (last x : Int) (xs : List Int) (a : Nat) : hg last (x :: xs) (a + 1) = hg x xs a := by
  unfold hg
  rw [if_neg (by omega), Nat.add_sub_cancel]
  cases a with
  | zero => rw [if_pos rfl]; rfl
  | succ a => rw [if_neg (by omega), Nat.add_sub_cancel]; rfl
theorem conc_hg : ∀ (l : List Int) k last rise, Conc k last rise l → (0 < k → 0 < l.length → hg last l 1 - hg last l 0 ≤ rise) ∧ ∀ i, i + 1 < l.length → hg last l (i + 2) - hg last l (i + 1) ≤ hg last l (i + 1) - hg last l i := by
  intro l
  induction l with
  | nil => intro k last rise _; exact ⟨fun _ h => (by cases h), fun i h => (by simp at h)⟩
  | cons x xs ih =>
    intro k last rise ⟨h1, h2⟩
    obtain ⟨i1, i2⟩ := ih _ _ _ h2
    refine ⟨fun hk _ => ?_, fun i hi => ?_⟩
    · rw [hg_cons]
      exact h1 hk
    · rw [List.length_cons] at hi
      cases i with
      | zero =>
        rw [hg_cons, hg_cons]
        have := i1 (by omega) (by omega)
        exact this
      | succ i =>
        rw [hg_cons, hg_cons, hg_cons]
        exact i2 i (by omega)
theorem hgt_conc {l : List Int} (h : Conc 0 0 0 l) {i : Nat} (hi : i + 1 < l.length) : hgt l (i + 2) - hgt l (i + 1) ≤ hgt l (i + 1) - hgt l i := (conc_hg l 0 0 0 h).2 i hi
theorem slope_mono {l : List Int} (h : Conc 0 0 0 l) : ∀ t i, i + t < l.length → hgt l (i + t + 1) - hgt l (i + t) ≤ hgt l (i + 1) - hgt l i := by
  intro t
  induction t with
  | zero => intro i _; exact Int.le_refl _
  | succ t ih =>
    intro i hi
    have h1 := ih i (by omega)
    have h2 := hgt_conc h (i := i + t) (by omega)
    have e1 : i + (t + 1) + 1 = i + t + 2 := by omega
    have e2 : i + (t + 1) = i + t + 1 := by omega
    rw [e1, e2]
    omega
theorem gain_mono {l : List Int} (h : Conc 0 0 0 l) {d b : Nat} (hdb : d ≤ b) : ∀ t, b + t ≤ l.length → hgt l (b + t) - hgt l b ≤ hgt l (d + t) - hgt l d := by
  intro t
  induction t with
  | zero => intro _; simp
  | succ t ih =>
    intro hi
    have h1 := ih (by omega)
    have h2 := slope_mono h (b - d) (d + t) (by omega)
    rw [show d + t + (b - d) = b + t by omega] at h2
    rw [← Nat.add_assoc, ← Nat.add_assoc]
    omega
theorem conc_four {l : List Int} (h : Conc 0 0 0 l) {a b c d : Nat} (h1 : a + b = c + d) (h2 : d ≤ a) (h3 : d ≤ b) (hc : c ≤ l.length) : hgt l c + hgt l d ≤ hgt l a + hgt l b := by
  have := gain_mono h h3 (a - d) (by omega)
  rw [show b + (a - d) = c by omega, show d + (a - d) = a by omega] at this
  omega
theorem vLst_bd {K M : Nat → Nat} {V : Nat} (hT : Toks K M V) : ∀ d v x, x ∈ vLst K M d v → -99999 ≤ x ∧ x ≤ 99999 := by
  intro d
  induction d with
  | zero => intro v x h; cases h
  | succ d ih =>
    intro v x h
    rw [vLst] at h
    split at h
    · rcases List.mem_cons.mp h with q | q
      · rw [q]; exact vVal_bd hT v
      · exact ih _ x q
    · cases h
/-- the term at j can stand and means something -/
def Good (n : Nat) (K M : Nat → Nat) (P : Nat → Int32) (V j : Nat) : Prop := j ≤ V ∧ (sTerm K V j).2 = true ∧ tF n K M P V j = none
theorem curve_words {K M : Nat → Nat} {V j : Nat} (hT : Toks K M V) (hj : j ≤ V) (hk : K j = 3) (hs : (sTerm K V j).2 = true) : ∃ e, e = numE K V (j + 1 + 2) ∧ e + 2 ≤ V ∧ (sVals K 602 (e + 2)).2 = true := by
  have es : sTerm K V j = sCurve K V (j + 1) := by unfold sTerm; rw [if_neg (by omega), if_neg (by omega), if_pos hk]
  have lj := hT.lt hj hk (by decide) (by decide)
  rw [es] at hs
  unfold sCurve at hs
  have z9 : K (j + 1) = 9 := by
    apply Classical.byContradiction
    intro z; rw [if_neg z] at hs; cases hs
  rw [if_pos z9] at hs
  have l1 := hT.lt (by omega) z9 (by decide) (by decide)
  have z4 : K (j + 1 + 1) = 4 := by
    apply Classical.byContradiction
    intro z; rw [if_neg z] at hs; cases hs
  rw [if_pos z4] at hs
  have l2 := hT.lt (by omega) z4 (by decide) (by decide)
  have hel := numE_le (j := j + 1 + 2) hT (by omega)
  refine ⟨_, rfl, ?_⟩
  generalize hee : numE K V (j + 1 + 2) = e at *
  have z10 : K e = 10 := by
    apply Classical.byContradiction
    intro z; rw [if_neg z] at hs; cases hs
  rw [if_pos z10] at hs
  have l3 := hT.lt hel.1 z10 (by decide) (by decide)
  have z6 : K (e + 1) = 6 := by
    apply Classical.byContradiction
    intro z; rw [if_neg z] at hs; cases hs
  rw [if_pos z6] at hs
  have l4 := hT.lt (by omega) z6 (by decide) (by decide)
  have zv : (sVal K (e + 2)).2 = true := by
    apply Classical.byContradiction
    intro z; rw [if_neg z] at hs; exact absurd hs z
  rw [if_pos zv] at hs
  refine ⟨by omega, ?_⟩
  show (sVals K (601 + 1) (e + 2)).2 = true
  have hst : stands K (e + 2) = true := by
    unfold sVal at zv
    by_cases q : K (e + 2) = 8
    · exact decide_eq_true (Or.inr q)
    · rw [if_neg q] at zv
      by_cases q4 : K (e + 2) = 4
      · exact decide_eq_true (Or.inl q4)
      · rw [if_neg q4] at zv; cases zv
  rw [sVals, if_pos hst, if_pos zv]
  exact hs
theorem curve_good {n : Nat} {K M : Nat → Nat} {P : Nat → Int32} {V j : Nat} (hT : Toks K M V) (h : Good n K M P V j) (hk : K j = 3) : (cVs K M V j).length = pop (cEl n K M P V j).2 ∧ Conc 0 0 0 (cVs K M V j) ∧ (cEl n K M P V j).2 < 2 ^ n := by
  obtain ⟨e, he, hev, hsv⟩ := curve_words hT h.1 hk h.2.1
  have htf := h.2.2
  have hV := hT.1
  unfold tF at htf
  rw [if_neg (by omega), if_neg (by omega)] at htf
  have hlt : (cEl n K M P V j).2 < 2 ^ n := elF_lt _ _ _ (Nat.two_pow_pos n)
  cases q : (cEl n K M P V j).1 with
  | some f => rw [q] at htf; cases htf
  | none =>
    rw [q] at htf
    rw [← he] at htf
    have := vF_none hT _ _ _ _ _ htf hev (by omega) hsv (by omega)
    unfold cVs
    rw [← he]
    exact ⟨by omega, this.2, hlt⟩
theorem arc_good {n : Nat} {K M : Nat → Nat} {P : Nat → Int32} {V j : Nat} (h : Good n K M P V j) (hk : K j = 2) : M (j + 1) < n ∧ M (j + 3) < n ∧ M (j + 3) ≠ M (j + 1) ∧ 0 ≤ vVal K M (j + 5) := by
  have htf := h.2.2
  unfold tF at htf
  rw [if_neg (by omega), if_pos hk] at htf
  split at htf
  · cases htf
  · split at htf
    · cases htf
    · split at htf
      · cases htf
      · omega
theorem weight_good {n : Nat} {K M : Nat → Nat} {P : Nat → Int32} {V j : Nat} (h : Good n K M P V j) (hk : K j = 1) : M (j + 1) < n := by
  have htf := h.2.2
  unfold tF at htf
  rw [if_pos hk] at htf
  split at htf
  · cases htf
  · omega
theorem con_zero {n : Nat} {K M : Nat → Nat} {P : Nat → Int32} {V j : Nat} : con n K M P V j 0 = 0 := by
  unfold con
  rw [Nat.zero_and, pop_zero]
  simp [hgt]
theorem con_bd {n : Nat} {K M : Nat → Nat} {P : Nat → Int32} {V j : Nat} (hT : Toks K M V) (S : Nat) : -99999 ≤ con n K M P V j S ∧ con n K M P V j S ≤ 99999 := by
  unfold con
  have b1 := vVal_bd hT (j + 3)
  have b2 := vVal_bd hT (j + 5)
  split
  · split
    · exact b1
    · omega
  · split
    · split
      · exact b2
      · omega
    · exact hgt_bd (fun x hx => vLst_bd hT _ _ x hx) _
theorem con_subm {n : Nat} {K M : Nat → Nat} {P : Nat → Int32} {V j : Nat} (hn : n ≤ 10) (hT : Toks K M V) (h : Good n K M P V j) : Subm (con n K M P V j) (2 ^ n) := by
  intro S T hS hT9
  have hk := sTerm_kind h.2.1
  by_cases k1 : K j = 1
  · unfold con
    simp only [if_pos k1, Nat.testBit_or, Nat.testBit_and]
    cases S.testBit (M (j + 1)) <;> cases T.testBit (M (j + 1)) <;> simp
  · by_cases k2 : K j = 2
    · obtain ⟨_, _, _, hv⟩ := arc_good h k2
      unfold con
      simp only [if_neg k1, if_pos k2, Nat.testBit_or, Nat.testBit_and]
      cases S.testBit (M (j + 1)) <;> cases T.testBit (M (j + 1)) <;> cases S.testBit (M (j + 3)) <;> cases T.testBit (M (j + 3)) <;> simp <;> omega
    · obtain ⟨c1, c2, c3⟩ := curve_good hT h (by omega)
      unfold con
      simp only [if_neg k1, if_neg k2]
      generalize (cEl n K M P V j).2 = E at *
      have e1 : (S ||| T) &&& E = (S &&& E) ||| (T &&& E) := by
        apply Nat.eq_of_testBit_eq
        intro i
        simp only [Nat.testBit_and, Nat.testBit_or]
        cases S.testBit i <;> cases T.testBit i <;> cases E.testBit i <;> rfl
      have e2 : (S &&& T) &&& E = (S &&& E) &&& (T &&& E) := by
        apply Nat.eq_of_testBit_eq
        intro i
        simp only [Nat.testBit_and]
        cases S.testBit i <;> cases T.testBit i <;> cases E.testBit i <;> rfl
      rw [e1, e2]
      have p := pop_or_and (S &&& E) (T &&& E)
      have q1 : pop ((S &&& E) &&& (T &&& E)) ≤ pop (S &&& E) := pop_mono (fun x hx => by rw [Nat.testBit_and, Bool.and_eq_true] at hx; exact hx.1)
      have q2 : pop ((S &&& E) &&& (T &&& E)) ≤ pop (T &&& E) := pop_mono (fun x hx => by rw [Nat.testBit_and, Bool.and_eq_true] at hx; exact hx.2)
      have q3 : pop ((S &&& E) ||| (T &&& E)) ≤ pop E := pop_mono (subs_or (fun x hx => by rw [Nat.testBit_and, Bool.and_eq_true] at hx; exact hx.2) (fun x hx => by rw [Nat.testBit_and, Bool.and_eq_true] at hx; exact hx.2))
      exact conc_four c2 (by omega) q1 q2 (by omega)
theorem ts_good {n : Nat} {K M : Nat → Nat} {P : Nat → Int32} {V : Nat} (hT : Toks K M V) : ∀ d i j, j ≤ V → (sTerms K V d j).2 = true → tsF n K M P V d i j = none → i ≤ 30 → i + (tsL K V d j).length ≤ 30 ∧ ∀ x, x ∈ tsL K V d j → Good n K M P V x := by
  intro d
  induction d with
  | zero => intro i j hj hs ht hi; exact ⟨by rw [tsL, List.length_nil]; omega, fun x hx => by cases hx⟩
  | succ d ih =>
    intro i j hj hs ht hi
    by_cases z5 : K j = 5
    · obtain ⟨s1, s2⟩ := sTerms_step hs z5
      have lj := hT.lt hj z5 (by decide) (by decide)
      have hsl := sTerm_le (j := j + 1) hT (by omega)
      rw [tsF, if_pos z5] at ht
      split at ht
      · cases ht
      · cases q : tF n K M P V (j + 1) with
        | some f => rw [q] at ht; cases ht
        | none =>
          rw [q] at ht
          obtain ⟨i1, i2⟩ := ih (i + 1) _ hsl.1 s2 ht (by omega)
          rw [tsL, if_pos z5]
          refine ⟨by rw [List.length_cons]; omega, fun x hx => ?_⟩
          rcases List.mem_cons.mp hx with r | r
          · rw [r]; exact ⟨by omega, s1, q⟩
          · exact i2 x r
    · rw [tsL, if_neg z5]
      exact ⟨by rw [List.length_nil]; omega, fun x hx => by cases hx⟩
/-- what a good text gives -/
theorem text_good {K M : Nat → Nat} {P : Nat → Int32} {V : Nat} (hT : Toks K M V) (hs : (sText K V).2 = true) (hx : xF K M P V = none) : 1 ≤ M 1 ∧ M 1 ≤ 10 ∧ (xL K V).length ≤ 30 ∧ ∀ x, x ∈ xL K V → Good (M 1) K M P V x := by
  unfold xF at hx
  split at hx
  · cases hx
  · next hm =>
    unfold sText at hs
    have z0 : K 0 = 0 := by
      apply Classical.byContradiction
      intro z; rw [if_neg z] at hs; cases hs
    rw [if_pos z0] at hs
    have l0 := hT.lt (j := 0) (by omega) z0 (by decide) (by decide)
    have z4 : K 1 = 4 := by
      apply Classical.byContradiction
      intro z; rw [if_neg z] at hs; cases hs
    rw [if_pos z4] at hs
    have l1 := hT.lt (j := 1) (by omega) z4 (by decide) (by decide)
    obtain ⟨g1, g2⟩ := ts_good hT 601 0 2 (by omega) hs hx (by omega)
    exact ⟨by omega, by omega, by unfold xL; omega, g2⟩
theorem sumC_facts {n : Nat} {K M : Nat → Nat} {P : Nat → Int32} {V : Nat} (hn : n ≤ 10) (hT : Toks K M V) (js : List Nat) : (∀ x, x ∈ js → Good n K M P V x) → sumC n K M P V js 0 = 0 ∧ (∀ S, (sumC n K M P V js S).natAbs ≤ js.length * 99999) ∧ Subm (sumC n K M P V js) (2 ^ n) := by
  have key : ∀ m (js : List Nat), js.length = m → (∀ x, x ∈ js → Good n K M P V x) → sumC n K M P V js 0 = 0 ∧ (∀ S, (sumC n K M P V js S).natAbs ≤ js.length * 99999) ∧ Subm (sumC n K M P V js) (2 ^ n) := by
    intro m
    induction m with
    | zero =>
      intro js hl _
      have : js = [] := List.eq_nil_of_length_eq_zero hl
      subst this
      exact ⟨rfl, fun S => by simp [sumC], fun S T _ _ => by simp [sumC]⟩
    | succ m ih =>
      intro js hl hg
      have hne : js ≠ [] := by intro z; rw [z] at hl; cases hl
      have hd := List.dropLast_concat_getLast hne
      have hin : js.getLast hne ∈ js := List.getLast_mem hne
      have hsub : ∀ x, x ∈ js.dropLast → x ∈ js := fun x hx => List.dropLast_subset js hx
      have hlen : js.dropLast.length = m := by rw [List.length_dropLast]; omega
      generalize js.getLast hne = j at *
      generalize js.dropLast = pre at *
      obtain ⟨i1, i2, i3⟩ := ih pre hlen (fun x hx => hg x (hsub x hx))
      subst hd
      have gj := hg j hin
      refine ⟨by rw [sumC_snoc, i1, con_zero]; rfl, fun S => ?_, fun S T hS hT9 => ?_⟩
      · rw [sumC_snoc, List.length_append, List.length_singleton, Nat.add_mul]
        have := i2 S
        have := con_bd (n := n) (P := P) (j := j) hT S
        omega
      · rw [sumC_snoc, sumC_snoc, sumC_snoc, sumC_snoc]
        have a := i3 S T hS hT9
        have b := con_subm hn hT gj S T hS hT9
        omega
  exact key js.length js rfl
