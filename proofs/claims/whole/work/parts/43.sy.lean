/-! The grammar: which words can stand. Own work. -/
def Toks (K M : Nat → Nat) (V : Nat) : Prop := V ≤ 600 ∧ (∀ v, v < V → K v ≠ 11 ∧ K v ≠ 12) ∧ (K V = 11 ∨ K V = 12) ∧ (∀ v, K v ≤ 12) ∧ (∀ v, M v < 100000)
theorem Toks.lt {K M : Nat → Nat} {V : Nat} (h : Toks K M V) {j k : Nat} (hj : j ≤ V) (hk : K j = k) (h1 : k ≠ 11) (h2 : k ≠ 12) : j < V := by
  have h3 := h.2.2.1
  rcases Nat.lt_or_ge j V with z | z
  · exact z
  · have : j = V := by omega
    subst this
    omega
def TokC (K M : Nat → Nat) (P : Nat → Int32) (V : Nat) (kf pf nf : Nat → Int32) : Prop := ∀ v, v ≤ V → kf v = nI (K v) ∧ pf v = P v ∧ nf v = nI (M v)
def TokM (K M : Nat → Nat) (P : Nat → Int32) (V : Nat) (kf pf nf : Nat → Int32) : Prop := ∀ v, v ≤ V → kf v = nI (trk (K v)) ∧ pf v = P v ∧ (K v = 4 → nf v = nI (M v))
theorem bn1 {c A B : Prop} (h : ¬ c) (a : A) : (¬ c → A) ∧ (c → B) := ⟨fun _ => a, fun z => absurd z h⟩
theorem bn0 {c A B : Prop} (h : c) (b : B) : (¬ c → A) ∧ (c → B) := ⟨fun z => absurd h z, fun _ => b⟩
def sVal (K : Nat → Nat) (j : Nat) : Nat × Bool := if K j = 8 then (if K (j + 1) = 4 then (j + 2, true) else (j + 1, false)) else if K j = 4 then (j + 1, true) else (j, false)
def stands (K : Nat → Nat) (j : Nat) : Bool := decide (K j = 4 ∨ K j = 8)
def sVals (K : Nat → Nat) : Nat → Nat → Nat × Bool
  | 0, j => (j, true)
  | d + 1, j => if stands K j = true then (if (sVal K j).2 = true then sVals K d (sVal K j).1 else sVal K j) else (j, true)
def is4 (k : Nat) : Bool := decide (k = 4)
def numE (K : Nat → Nat) (V j : Nat) : Nat := run is4 K V j
def sCurve (K : Nat → Nat) (V j : Nat) : Nat × Bool :=
  if K j = 9 then (if K (j + 1) = 4 then (if K (numE K V (j + 2)) = 10 then (if K (numE K V (j + 2) + 1) = 6 then (if (sVal K (numE K V (j + 2) + 2)).2 = true then sVals K 601 (sVal K (numE K V (j + 2) + 2)).1 else sVal K (numE K V (j + 2) + 2)) else (numE K V (j + 2) + 1, false)) else (numE K V (j + 2), false)) else (j + 1, false)) else (j, false)
def sWeight (K : Nat → Nat) (j : Nat) : Nat × Bool := if K j = 4 then (if K (j + 1) = 6 then sVal K (j + 2) else (j + 1, false)) else (j, false)
def sArc (K : Nat → Nat) (j : Nat) : Nat × Bool := if K j = 4 then (if K (j + 1) = 7 then (if K (j + 2) = 4 then (if K (j + 3) = 6 then sVal K (j + 4) else (j + 3, false)) else (j + 2, false)) else (j + 1, false)) else (j, false)
def sTerm (K : Nat → Nat) (V j : Nat) : Nat × Bool := if K j = 1 then sWeight K (j + 1) else if K j = 2 then sArc K (j + 1) else if K j = 3 then sCurve K V (j + 1) else (j, false)
def sTerms (K : Nat → Nat) (V : Nat) : Nat → Nat → Nat × Bool
  | 0, j => (j, false)
  | d + 1, j => if K j = 5 then (if (sTerm K V (j + 1)).2 = true then sTerms K V d (sTerm K V (j + 1)).1 else sTerm K V (j + 1)) else (j, decide (K j = 11))
def sText (K : Nat → Nat) (V : Nat) : Nat × Bool := if K 0 = 0 then (if K 1 = 4 then sTerms K V 601 2 else (1, false)) else (0, false)
theorem sVal_le {K M : Nat → Nat} {V j : Nat} (hT : Toks K M V) (hj : j ≤ V) : (sVal K j).1 ≤ V ∧ j ≤ (sVal K j).1 ∧ ((sVal K j).2 = true → j < (sVal K j).1) := by
  unfold sVal
  by_cases h8 : K j = 8
  · have l1 := hT.lt hj h8 (by decide) (by decide)
    rw [if_pos h8]
    by_cases h4 : K (j + 1) = 4
    · have l2 := hT.lt (by omega) h4 (by decide) (by decide)
      rw [if_pos h4]
      exact ⟨by omega, by omega, fun _ => by omega⟩
    · rw [if_neg h4]
      exact ⟨by omega, by omega, fun z => by cases z⟩
  · rw [if_neg h8]
    by_cases h4 : K j = 4
    · have l2 := hT.lt hj h4 (by decide) (by decide)
      rw [if_pos h4]
      exact ⟨by omega, by omega, fun _ => by omega⟩
    · rw [if_neg h4]
      exact ⟨by omega, by omega, fun z => by cases z⟩
theorem sVals_le {K M : Nat → Nat} {V : Nat} (hT : Toks K M V) : ∀ d j, j ≤ V → (sVals K d j).1 ≤ V ∧ j ≤ (sVals K d j).1 := by
  intro d
  induction d with
  | zero => intro j hj; exact ⟨hj, Nat.le_refl _⟩
  | succ d ih =>
    intro j hj
    rw [sVals]
    have h1 := sVal_le hT hj
    split
    · split
      · have := ih _ h1.1
        omega
      · omega
    · exact ⟨hj, Nat.le_refl _⟩
theorem numE_le {K M : Nat → Nat} {V j : Nat} (hT : Toks K M V) (hj : j ≤ V) : numE K V j ≤ V ∧ j ≤ numE K V j := ⟨run_le _ _ hj, run_ge _ _ _ _⟩
theorem numE_not {K M : Nat → Nat} {V j : Nat} (hT : Toks K M V) (hj : j ≤ V) : K (numE K V j) ≠ 4 := by
  have h1 := (numE_le hT hj).1
  intro z
  have h2 := hT.lt h1 z (by decide) (by decide)
  have := run_stop (P := is4) (t := K) (len := V) (V - j) j (by omega) h2
  exact absurd z (of_decide_eq_false this)
theorem numE_yes {K : Nat → Nat} {V j : Nat} (hj : j ≤ V) : ∀ v, j ≤ v → v < numE K V j → K v = 4 := by
  intro v h1 h2
  exact of_decide_eq_true (run_in (P := is4) (t := K) (len := V) (V - j) j (by omega) v h1 h2)
theorem sCurve_le {K M : Nat → Nat} {V j : Nat} (hT : Toks K M V) (hj : j ≤ V) : (sCurve K V j).1 ≤ V ∧ j ≤ (sCurve K V j).1 := by
  unfold sCurve
  by_cases h9 : K j = 9
  · have l1 := hT.lt hj h9 (by decide) (by decide)
    rw [if_pos h9]
    by_cases h4 : K (j + 1) = 4
    · have l2 := hT.lt (by omega) h4 (by decide) (by decide)
      rw [if_pos h4]
      have he := numE_le (j := j + 2) hT (by omega)
      generalize numE K V (j + 2) = e at *
      by_cases h10 : K e = 10
      · have l3 := hT.lt he.1 h10 (by decide) (by decide)
        rw [if_pos h10]
        by_cases h6 : K (e + 1) = 6
        · have l4 := hT.lt (by omega) h6 (by decide) (by decide)
          rw [if_pos h6]
          have hv := sVal_le (j := e + 2) hT (by omega)
          split
          · have := sVals_le hT 601 _ hv.1
            omega
          · omega
        · rw [if_neg h6]; exact ⟨by omega, by omega⟩
      · rw [if_neg h10]; exact ⟨by omega, by omega⟩
    · rw [if_neg h4]; exact ⟨by omega, by omega⟩
  · rw [if_neg h9]; exact ⟨by omega, by omega⟩
theorem sWeight_le {K M : Nat → Nat} {V j : Nat} (hT : Toks K M V) (hj : j ≤ V) : (sWeight K j).1 ≤ V ∧ j ≤ (sWeight K j).1 := by
  unfold sWeight
  by_cases h4 : K j = 4
  · have l1 := hT.lt hj h4 (by decide) (by decide)
    rw [if_pos h4]
    by_cases h6 : K (j + 1) = 6
    · have l2 := hT.lt (by omega) h6 (by decide) (by decide)
      rw [if_pos h6]
      have hv := sVal_le (j := j + 2) hT (by omega)
      omega
    · rw [if_neg h6]; exact ⟨by omega, by omega⟩
  · rw [if_neg h4]; exact ⟨by omega, by omega⟩
theorem sArc_le {K M : Nat → Nat} {V j : Nat} (hT : Toks K M V) (hj : j ≤ V) : (sArc K j).1 ≤ V ∧ j ≤ (sArc K j).1 := by
  unfold sArc
  by_cases h4 : K j = 4
  · have l1 := hT.lt hj h4 (by decide) (by decide)
    rw [if_pos h4]
    by_cases h7 : K (j + 1) = 7
    · have l2 := hT.lt (by omega) h7 (by decide) (by decide)
      rw [if_pos h7]
      by_cases h4' : K (j + 2) = 4
      · have l3 := hT.lt (by omega) h4' (by decide) (by decide)
        rw [if_pos h4']
        by_cases h6 : K (j + 3) = 6
        · have l4 := hT.lt (by omega) h6 (by decide) (by decide)
          rw [if_pos h6]
          have hv := sVal_le (j := j + 4) hT (by omega)
          omega
        · rw [if_neg h6]; exact ⟨by omega, by omega⟩
      · rw [if_neg h4']; exact ⟨by omega, by omega⟩
    · rw [if_neg h7]; exact ⟨by omega, by omega⟩
  · rw [if_neg h4]; exact ⟨by omega, by omega⟩
theorem sTerm_le {K M : Nat → Nat} {V j : Nat} (hT : Toks K M V) (hj : j ≤ V) : (sTerm K V j).1 ≤ V ∧ j ≤ (sTerm K V j).1 := by
  unfold sTerm
  by_cases h1 : K j = 1
  · have l1 := hT.lt hj h1 (by decide) (by decide)
    rw [if_pos h1]
    have := sWeight_le (j := j + 1) hT (by omega)
    omega
  · rw [if_neg h1]
    by_cases h2 : K j = 2
    · have l1 := hT.lt hj h2 (by decide) (by decide)
      rw [if_pos h2]
      have := sArc_le (j := j + 1) hT (by omega)
      omega
    · rw [if_neg h2]
      by_cases h3 : K j = 3
      · have l1 := hT.lt hj h3 (by decide) (by decide)
        rw [if_pos h3]
        have := sCurve_le (j := j + 1) hT (by omega)
        omega
      · rw [if_neg h3]; exact ⟨by omega, by omega⟩
theorem sTerms_le {K M : Nat → Nat} {V : Nat} (hT : Toks K M V) : ∀ d j, j ≤ V → (sTerms K V d j).1 ≤ V := by
  intro d
  induction d with
  | zero => intro j hj; exact hj
  | succ d ih =>
    intro j hj
    rw [sTerms]
    by_cases h5 : K j = 5
    · have l1 := hT.lt hj h5 (by decide) (by decide)
      rw [if_pos h5]
      have h1 := (sTerm_le (j := j + 1) hT (by omega)).1
      split
      · exact ih _ h1
      · exact h1
    · rw [if_neg h5]; exact hj
theorem sText_le {K M : Nat → Nat} {V : Nat} (hT : Toks K M V) : (sText K V).1 ≤ V := by
  unfold sText
  by_cases h0 : K 0 = 0
  · have l1 := hT.lt (j := 0) (by omega) h0 (by decide) (by decide)
    rw [if_pos h0]
    by_cases h4 : K 1 = 4
    · have l2 := hT.lt (j := 1) (by omega) h4 (by decide) (by decide)
      rw [if_pos h4]
      exact sTerms_le hT 601 2 (by omega)
    · rw [if_neg h4]; exact l1
  · rw [if_neg h0]; exact Nat.zero_le _
/-! the reference asks the grammar -/
theorem is_ok {K M : Nat → Nat} {P : Nat → Int32} {V : Nat} {kf pf nf : Nat → Int32} (hT : Toks K M V) (hM : TokM K M P V kf pf nf) {j : Nat} (hj : j ≤ V) (k : Nat) (hk : k ≤ 12) {c : Int32} (hc : c = nI (trk k)) {post : Int32 → Int32 → Prop} (h1 : K j = k → post 1 (nI (j + 1))) (h0 : K j ≠ k → post 0 (nI j)) : wp_Mo_is_0 kf post c (nI j) := by
  have hV := hT.1
  have hKj := hT.2.2.2.1 j
  unfold wp_Mo_is_0 wp_Mo_is_18 wp_Mo_is_37
  rw [nI_clamp (by omega), (hM j hj).1, hc, nI_1]
  have t1 := trk_le (K j)
  have t2 := trk_le k
  have e : nI (trk (K j)) = nI (trk k) ↔ K j = k := ⟨fun z => trk_inj hKj hk ((nI_eq (by omega) (by omega)).mp z), fun z => by rw [z]⟩
  rw [e]
  refine ⟨vp_in_nI (by omega) (by omega), fun z => br_t rfl ⟨nb0, h0 z⟩, fun z => br_f (by decide) ⟨nb1, h1 z⟩⟩
theorem isValue_ok {K M : Nat → Nat} {P : Nat → Int32} {V : Nat} {kf pf nf : Nat → Int32} (hT : Toks K M V) (hM : TokM K M P V kf pf nf) {j : Nat} (hj : j ≤ V) {post : Int32 → Int32 → Prop} (h1 : (sVal K j).2 = true → post 1 (nI (sVal K j).1)) (h0 : (sVal K j).2 = false → post 0 (nI (sVal K j).1)) : wp_Mo_isValue_0 kf post (nI j) := by
  unfold wp_Mo_isValue_0
  unfold sVal at h1 h0
  refine is_ok hT hM hj 8 (by decide) rfl (fun z => ?_) (fun z => ?_)
  · have l1 := hT.lt hj z (by decide) (by decide)
    rw [if_pos z] at h1 h0
    refine is_ok hT hM (by omega) 4 (by decide) rfl (fun z2 => ?_) (fun z2 => ?_)
    · rw [if_pos z2] at h1
      exact ⟨nb1, h1 rfl⟩
    · rw [if_neg z2] at h0
      exact ⟨nb0, h0 rfl⟩
  · rw [if_neg z] at h1 h0
    refine is_ok hT hM hj 4 (by decide) rfl (fun z2 => ?_) (fun z2 => ?_)
    · rw [if_pos z2] at h1
      exact ⟨nb1, h1 rfl⟩
    · rw [if_neg z2] at h0
      exact ⟨nb0, h0 rfl⟩
theorem isCurve_ok {K M : Nat → Nat} {P : Nat → Int32} {V : Nat} {kf pf nf : Nat → Int32} (hT : Toks K M V) (hM : TokM K M P V kf pf nf) {j : Nat} (hj : j ≤ V) {post : Int32 → Int32 → Prop} (h1 : (sCurve K V j).2 = true → post 1 (nI (sCurve K V j).1)) (h0 : (sCurve K V j).2 = false → post 0 (nI (sCurve K V j).1)) : wp_Mo_isCurve_0 kf post (nI j) := by
  have hV := hT.1
  have fail2 : ∀ j, post 0 (nI j) → wp_Mo_isCurve_86 kf post (nI j) := by
    intro j h
    unfold wp_Mo_isCurve_86 wp_Mo_isCurve_87
    refine ⟨1, ?_⟩
    rw [wp_Mo_isCurve_88]
    exact br_t rfl ⟨nb0, h⟩
  have fail : ∀ j, post 0 (nI j) → wp_Mo_isCurve_21 kf post (nI j) := by
    intro j h
    unfold wp_Mo_isCurve_21 wp_Mo_isCurve_22
    refine ⟨1, ?_⟩
    rw [wp_Mo_isCurve_23]
    refine br_t rfl ?_
    unfold wp_Mo_isCurve_53
    exact br_t rfl (fail2 j h)
  have knd : ∀ j k, j ≤ V → k ≤ 12 → (kf (nI j).toNatClampNeg = nI (trk k) ↔ K j = k) := by
    intro j k hj hk
    have hKj := hT.2.2.2.1 j
    have t1 := trk_le (K j)
    have t2 := trk_le k
    rw [nI_clamp (by omega), (hM j hj).1]
    exact ⟨fun z => trk_inj hKj hk ((nI_eq (by omega) (by omega)).mp z), fun z => by rw [z]⟩
  have vals : ∀ m d j, j ≤ V → V < j + d → V - j + 1 ≤ m → ((sVals K d j).2 = true → post 1 (nI (sVals K d j).1)) → ((sVals K d j).2 = false → post 0 (nI (sVals K d j).1)) → wp_Mo_isCurve_88 kf post m 1 (nI j) := by
    intro m
    induction m with
    | zero => intro d j hj hd hm; omega
    | succ m ih =>
      intro d j hj hd hm h1 h0
      rw [wp_Mo_isCurve_88]
      cases d with
      | zero => omega
      | succ d =>
        rw [sVals] at h1 h0
        have k8 : kf (nI j).toNatClampNeg = 10 ↔ K j = 8 := knd j 8 hj (by decide)
        have k4 : kf (nI j).toNatClampNeg = 1 ↔ K j = 4 := knd j 4 hj (by decide)
        rw [k8, k4]
        have val : stands K j = true → wp_Mo_isCurve_119 kf post (fun x1 f_at => wp_Mo_isCurve_88 kf post m x1 f_at) (nI j) := by
          intro hs
          rw [if_pos hs] at h1 h0
          have hv := sVal_le hT hj
          unfold wp_Mo_isCurve_119
          refine isValue_ok hT hM hj (fun z => ?_) (fun z => ?_)
          · rw [if_pos z] at h1 h0
            have := hv.2.2 z
            exact ih d _ hv.1 (by omega) (by omega) h1 h0
          · rw [if_neg (by rw [z]; decide)] at h0
            cases m with
            | zero =>
              have : j < V := by
                have hs := of_decide_eq_true hs
                rcases hs with q | q
                · exact hT.lt hj q (by decide) (by decide)
                · exact hT.lt hj q (by decide) (by decide)
              omega
            | succ m =>
              show wp_Mo_isCurve_88 kf post (m + 1) 0 (nI (sVal K j).1)
              rw [wp_Mo_isCurve_88]
              exact br_t rfl ⟨nb0, h0 z⟩
        refine br_f (by decide) ⟨vp_in_nI (by omega) (by omega), fun z => val (decide_eq_true (Or.inr z)), fun z => ⟨vp_in_nI (by omega) (by omega), fun z2 => ?_, fun z2 => val (decide_eq_true (Or.inl z2))⟩⟩
        have hs : ¬ stands K j = true := fun q => by
          have := of_decide_eq_true q
          omega
        rw [if_neg hs] at h1
        exact ⟨nb1, h1 rfl⟩
  have nums : ∀ m j, j ≤ V → V - j + 1 ≤ m → wp_Mo_isCurve_53 kf post 1 (nI (numE K V j)) → wp_Mo_isCurve_23 kf post m 1 (nI j) := by
    intro m
    induction m with
    | zero => intro j hj hm; omega
    | succ m ih =>
      intro j hj hm h
      rw [wp_Mo_isCurve_23]
      have k4 : kf (nI j).toNatClampNeg = 1 ↔ K j = 4 := knd j 4 hj (by decide)
      rw [k4, nI_1]
      refine br_f (by decide) ⟨vp_in_nI (by omega) (by omega), fun z => ?_, fun z => ?_⟩
      · have e : numE K V j = j := by
          unfold numE
          rcases Nat.lt_or_ge j V with q | q
          · exact run_no q (decide_eq_false z)
          · exact run_end _ _ q
        rw [e] at h
        exact h
      · have l := hT.lt hj z (by decide) (by decide)
        have e : numE K V j = numE K V (j + 1) := run_yes l (decide_eq_true z)
        rw [e] at h
        exact ih (j + 1) (by omega) (by omega) h
  unfold wp_Mo_isCurve_0
  unfold sCurve at h1 h0
  refine is_ok hT hM hj 9 (by decide) rfl (fun z => br_f (by decide) ?_) (fun z => br_t rfl (fail j (by rw [if_neg z] at h0; exact h0 rfl)))
  have l1 := hT.lt hj z (by decide) (by decide)
  rw [if_pos z] at h1 h0
  refine is_ok hT hM (by omega) 4 (by decide) rfl (fun z => br_f (by decide) ?_) (fun z => br_t rfl (fail (j + 1) (by rw [if_neg z] at h0; exact h0 rfl)))
  have l2 := hT.lt (by omega) z (by decide) (by decide)
  rw [if_pos z] at h1 h0
  unfold wp_Mo_isCurve_22
  have he := numE_le (j := j + 2) hT (by omega)
  refine ⟨V - (j + 2) + 1, nums _ (j + 2) (by omega) (Nat.le_refl _) ?_⟩
  generalize numE K V (j + 2) = e at *
  unfold wp_Mo_isCurve_53
  refine br_f (by decide) (is_ok hT hM he.1 10 (by decide) rfl (fun z => br_f (by decide) ?_) (fun z => br_t rfl (fail2 e (by rw [if_neg z] at h0; exact h0 rfl))))
  have l3 := hT.lt he.1 z (by decide) (by decide)
  rw [if_pos z] at h1 h0
  refine is_ok hT hM (by omega) 6 (by decide) rfl (fun z => br_f (by decide) ?_) (fun z => br_t rfl (fail2 (e + 1) (by rw [if_neg z] at h0; exact h0 rfl)))
  have l4 := hT.lt (by omega) z (by decide) (by decide)
  rw [if_pos z] at h1 h0
  have hv := sVal_le (j := e + 2) hT (by omega)
  refine isValue_ok hT hM (by omega) (fun z => br_f (by decide) ?_) (fun z => br_t rfl (fail2 _ (by rw [if_neg (by rw [z]; decide)] at h0; exact h0 z)))
  rw [if_pos z] at h1 h0
  unfold wp_Mo_isCurve_87
  exact ⟨_, vals _ 601 _ hv.1 (by omega) (Nat.le_refl _) h1 h0⟩
theorem isTerm_ok {K M : Nat → Nat} {P : Nat → Int32} {V : Nat} {kf pf nf : Nat → Int32} (hT : Toks K M V) (hM : TokM K M P V kf pf nf) {j : Nat} (hj : j ≤ V) {post : Int32 → Int32 → Prop} (h1 : (sTerm K V j).2 = true → post 1 (nI (sTerm K V j).1)) (h0 : (sTerm K V j).2 = false → post 0 (nI (sTerm K V j).1)) : wp_Mo_isTerm_0 kf post (nI j) := by
  unfold sTerm at h1 h0
  unfold wp_Mo_isTerm_0 wp_Mo_isTerm_112 wp_Mo_isTerm_113 wp_Mo_isTerm_91 wp_Mo_isTerm_92 wp_Mo_isTerm_36 wp_Mo_isTerm_37
  refine is_ok hT hM hj 1 (by decide) rfl (fun z => br_f (by decide) ?_) (fun z => br_t rfl ?_)
  · have l := hT.lt hj z (by decide) (by decide)
    rw [if_pos z] at h1 h0
    unfold sWeight at h1 h0
    refine is_ok hT hM (by omega) 4 (by decide) rfl (fun z => br_f (by decide) ?_) (fun z => br_t rfl ⟨nb0, by rw [if_neg z] at h0; exact h0 rfl⟩)
    have l := hT.lt (by omega) z (by decide) (by decide)
    rw [if_pos z] at h1 h0
    refine is_ok hT hM (by omega) 6 (by decide) rfl (fun z => br_f (by decide) ?_) (fun z => br_t rfl ⟨nb0, by rw [if_neg z] at h0; exact h0 rfl⟩)
    have l := hT.lt (by omega) z (by decide) (by decide)
    rw [if_pos z] at h1 h0
    exact isValue_ok hT hM (by omega) (fun z => br_f (by decide) ⟨nb1, h1 z⟩) (fun z => br_t rfl ⟨nb0, h0 z⟩)
  · rw [if_neg z] at h1 h0
    refine is_ok hT hM hj 2 (by decide) rfl (fun z => br_f (by decide) ?_) (fun z => br_t rfl ?_)
    · have l := hT.lt hj z (by decide) (by decide)
      rw [if_pos z] at h1 h0
      unfold sArc at h1 h0
      refine is_ok hT hM (by omega) 4 (by decide) rfl (fun z => br_f (by decide) ?_) (fun z => br_t rfl ⟨nb0, by rw [if_neg z] at h0; exact h0 rfl⟩)
      have l := hT.lt (by omega) z (by decide) (by decide)
      rw [if_pos z] at h1 h0
      refine is_ok hT hM (by omega) 7 (by decide) rfl (fun z => br_f (by decide) ?_) (fun z => br_t rfl ⟨nb0, by rw [if_neg z] at h0; exact h0 rfl⟩)
      have l := hT.lt (by omega) z (by decide) (by decide)
      rw [if_pos z] at h1 h0
      refine is_ok hT hM (by omega) 4 (by decide) rfl (fun z => br_f (by decide) ?_) (fun z => br_t rfl ⟨nb0, by rw [if_neg z] at h0; exact h0 rfl⟩)
      have l := hT.lt (by omega) z (by decide) (by decide)
      rw [if_pos z] at h1 h0
      refine is_ok hT hM (by omega) 6 (by decide) rfl (fun z => br_f (by decide) ?_) (fun z => br_t rfl ⟨nb0, by rw [if_neg z] at h0; exact h0 rfl⟩)
      have l := hT.lt (by omega) z (by decide) (by decide)
      rw [if_pos z] at h1 h0
      exact isValue_ok hT hM (by omega) (fun z => br_f (by decide) ⟨nb1, h1 z⟩) (fun z => br_t rfl ⟨nb0, h0 z⟩)
    · rw [if_neg z] at h1 h0
      refine is_ok hT hM hj 3 (by decide) rfl (fun z => br_f (by decide) ?_) (fun z => br_t rfl ⟨nb0, by rw [if_neg z] at h0; exact h0 rfl⟩)
      have l := hT.lt hj z (by decide) (by decide)
      rw [if_pos z] at h1 h0
      exact isCurve_ok hT hM (by omega) (fun z => br_f (by decide) ⟨nb1, h1 z⟩) (fun z => br_t rfl ⟨nb0, h0 z⟩)
theorem isText_ok {K M : Nat → Nat} {P : Nat → Int32} {V : Nat} {kf pf nf : Nat → Int32} (hT : Toks K M V) (hM : TokM K M P V kf pf nf) {at0 : Int32} {post : Int32 → Int32 → Prop} (h1 : (sText K V).2 = true → ∀ a, post 1 a) (h0 : (sText K V).2 = false → post 0 (nI (sText K V).1)) : wp_Mo_isText_0 kf post at0 := by
  have hV := hT.1
  have fail : ∀ j m, post 0 (nI j) → wp_Mo_isText_27 kf post (m + 1) 0 (nI j) := by
    intro j m h
    rw [wp_Mo_isText_27]
    unfold wp_Mo_isText_48 wp_Mo_isText_64 wp_Mo_isText_65
    exact br_t rfl (br_t rfl ⟨nb0, h⟩)
  have terms : ∀ m d j, j ≤ V → V < j + d → V - j + 2 ≤ m → ((sTerms K V d j).2 = true → ∀ a, post 1 a) → ((sTerms K V d j).2 = false → post 0 (nI (sTerms K V d j).1)) → wp_Mo_isText_27 kf post m 1 (nI j) := by
    intro m
    induction m with
    | zero => intro d j hj hd hm; omega
    | succ m ih =>
      intro d j hj hd hm h1 h0
      rw [wp_Mo_isText_27]
      cases d with
      | zero => omega
      | succ d =>
        rw [sTerms] at h1 h0
        refine br_f (by decide) (is_ok hT hM hj 5 (by decide) rfl (fun z => br_f (by decide) ?_) (fun z => br_t rfl ?_))
        · have l := hT.lt hj z (by decide) (by decide)
          rw [if_pos z] at h1 h0
          have hl := sTerm_le (j := j + 1) hT (by omega)
          refine isTerm_ok hT hM (by omega) (fun z => ?_) (fun z => ?_)
          · rw [if_pos z] at h1 h0
            exact ih d _ hl.1 (by omega) (by omega) h1 h0
          · rw [if_neg (by rw [z]; decide)] at h0
            obtain ⟨m', rfl⟩ : ∃ m', m = m' + 1 := ⟨m - 1, by omega⟩
            exact fail _ _ (h0 z)
        · rw [if_neg z] at h1 h0
          unfold wp_Mo_isText_48 wp_Mo_isText_64 wp_Mo_isText_65
          refine br_f (by decide) (is_ok hT hM hj 11 (by decide) rfl (fun z => br_f (by decide) ⟨nb1, h1 (decide_eq_true z) _⟩) (fun z => br_t rfl ⟨nb0, h0 (decide_eq_false z)⟩))
  unfold sText at h1 h0
  unfold wp_Mo_isText_0
  refine is_ok (j := 0) hT hM (by omega) 0 (by decide) rfl (fun z => br_f (by decide) ?_) (fun z => br_t rfl ?_)
  · have l1 := hT.lt (j := 0) (by omega) z (by decide) (by decide)
    rw [if_pos z] at h1 h0
    refine is_ok (j := 1) hT hM (by omega) 4 (by decide) rfl (fun z => br_f (by decide) ?_) (fun z => br_t rfl ?_)
    · have l1 := hT.lt (j := 1) (by omega) z (by decide) (by decide)
      rw [if_pos z] at h1 h0
      exact ⟨_, terms _ 601 2 (by omega) (by omega) (Nat.le_refl _) h1 h0⟩
    · rw [if_neg z] at h0
      exact ⟨1, fail _ _ (h0 rfl)⟩
  · rw [if_neg z] at h0
    exact ⟨1, fail _ _ (h0 rfl)⟩
