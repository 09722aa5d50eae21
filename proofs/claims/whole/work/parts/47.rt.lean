/-! The class reads a text. Own work. -/
def TermsAt (n : Nat) (K M : Nat → Nat) (P : Nat → Int32) (V : Nat) (pre : List Nat) (ki is os va : Nat → Int32) : Prop := ∀ i, i < pre.length → ki i = nI (K (pre.getD i 0)) ∧ is i = nI (tIn n K M P V (pre.getD i 0)) ∧ os i = nI (tOut K M (pre.getD i 0)) ∧ (∀ a, a < (tVs K M V (pre.getD i 0)).length → va (10 * i + a) = iI ((tVs K M V (pre.getD i 0)).getD a 0)) ∧ (tVs K M V (pre.getD i 0)).length ≤ 10
theorem TermsAt.snoc {n : Nat} {K M : Nat → Nat} {P : Nat → Int32} {V : Nat} {pre : List Nat} {ki is os va ki' is' os' va' : Nat → Int32} {j : Nat} (h : TermsAt n K M P V pre ki is os va) (hc : Came n K M P V j pre.length ki is os va ki' is' os' va') : TermsAt n K M P V (pre ++ [j]) ki' is' os' va' := by
  obtain ⟨c1, c2, c3, c4, c5, c6⟩ := hc
  intro i hi
  rw [List.length_append, List.length_singleton] at hi
  by_cases z : i = pre.length
  · subst z
    rw [getD_last, c1, c2, c3, pk_us, pk_us, pk_us]
    exact ⟨rfl, rfl, rfl, c5, c6⟩
  · rw [getD_append_left (by omega), c1, c2, c3, pk_un z, pk_un z, pk_un z]
    obtain ⟨a1, a2, a3, a4, a5⟩ := h i (by omega)
    refine ⟨a1, a2, a3, fun a ha => ?_, a5⟩
    rw [c4 (10 * i + a) (by omega)]
    exact a4 a ha
theorem readText_ok {K M : Nat → Nat} {P : Nat → Int32} {V : Nat} {kf pf nf : Nat → Int32} (hT : Toks K M V) (hC : TokC K M P V kf pf nf) {tp tn sz : Int32} {ki is os va : Nat → Int32} {post : Int32 → Int32 → Int32 → Int32 → Int32 → Int32 → Int32 → Int32 → (Nat → Int32) → (Nat → Int32) → (Nat → Int32) → (Nat → Int32) → Prop}
    (h0 : (sText K V).2 = false → ∀ tp tn fl fp sz le ki is os va, post 0 (nI (sText K V).1) tp tn fl fp sz le ki is os va)
    (hA : (sText K V).2 = true → ∀ nx tp tn fl fp sz le ki is os va, ¬ fl = 0 → xF K M P V = some (fl, fp) → post 1 nx tp tn fl fp sz le ki is os va)
    (h1 : (sText K V).2 = true → xF K M P V = none → (xL K V).length ≤ 30 → ∀ nx tp tn ki is os va, TermsAt (M 1) K M P V (xL K V) ki is os va → post 1 nx tp tn 0 (-1) (nI (M 1)) (nI (xL K V).length) ki is os va) : wp_Tr_readText_0 kf pf nf post 0 tp tn 0 (-1) sz 0 ki is os va := by
  have hV := hT.1
  have m1 := hT.2.2.2.2 1
  have fin : ∀ j tp tn fl fp le ki is os va, j ≤ V → (K j = 11 → post 1 (nI j) tp tn fl fp (nI (M 1)) le ki is os va) → (K j ≠ 11 → post 0 (nI j) tp tn fl fp (nI (M 1)) le ki is os va) → wp_Tr_readText_110 kf pf nf post (nI j) tp tn fl fp (nI (M 1)) le ki is os va := by
    intro j tp tn fl fp le ki is os va hj g1 g0
    have hKj := hT.2.2.2.1 j
    unfold wp_Tr_readText_110 wp_Tr_readText_132
    have e11 : nI (K j) = 11 ↔ K j = 11 := nI_eq (a := K j) (b := 11) (by omega) (by omega)
    rw [nI_clamp (by omega), (hC j hj).1, e11]
    exact ⟨vp_in_nI (by omega) (by omega), fun z => ⟨nb0, g0 z⟩, fun z => ⟨nb1, g1 z⟩⟩
  have loop : ∀ m d j i tp tn fl fp le ki is os va, j ≤ V → V < j + d → V - j + 2 ≤ m → i < j →
      ((sTerms K V d j).2 = false → ∀ tp tn fl fp sz le ki is os va, post 0 (nI (sTerms K V d j).1) tp tn fl fp sz le ki is os va) →
      ((sTerms K V d j).2 = true → (sText K V).2 = true) →
      ((¬ fl = 0 ∧ xF K M P V = some (fl, fp)) ∨ (fl = 0 ∧ fp = -1 ∧ ∃ pre : List Nat, pre.length = i ∧ i ≤ 30 ∧ 1 ≤ M 1 ∧ M 1 ≤ 10 ∧ le = nI i ∧ pre ++ tsL K V d j = xL K V ∧ tsF (M 1) K M P V d i j = xF K M P V ∧ TermsAt (M 1) K M P V pre ki is os va)) →
      wp_Tr_readText_57 kf pf nf post m (nI i) (nI j) tp tn fl fp (nI (M 1)) le ki is os va := by
    intro m
    induction m with
    | zero => intro d j i tp tn fl fp le ki is os va hj hd hm; omega
    | succ m ih =>
      intro d j i tp tn fl fp le ki is os va hj hd hm hi g0 g1 hst
      cases d with
      | zero => omega
      | succ d =>
        rw [wp_Tr_readText_57]
        rw [sTerms] at g0 g1
        refine br_f (nI_ge (b := 600) (by omega) (by omega)) (take_ok hT hC hj 5 (by decide) rfl (fun z5 => br_f (by decide) ?_) (fun z5 => br_t rfl ?_))
        · have lj := hT.lt hj z5 (by decide) (by decide)
          rw [if_pos z5] at g0 g1
          have hsl := sTerm_le (j := j + 1) hT (by omega)
          have e30 : nI i = 30 ↔ i = 30 := nI_eq (a := i) (b := 30) (by omega) (by omega)
          rw [e30]
          -- one term
          have term : ∀ fl fp, ((¬ fl = 0 ∧ xF K M P V = some (fl, fp)) ∨ (fl = 0 ∧ fp = -1 ∧ i < 30 ∧ ∃ pre : List Nat, pre.length = i ∧ 1 ≤ M 1 ∧ M 1 ≤ 10 ∧ le = nI i ∧ pre ++ tsL K V (d + 1) j = xL K V ∧ tsF (M 1) K M P V (d + 1) i j = xF K M P V ∧ TermsAt (M 1) K M P V pre ki is os va)) → wp_Tr_readText_95 kf pf nf post (fun x1 f_next f_takenPlace f_takenNumber f_fault f_faultPlace f_terms_size f_terms_length f_terms_kinds f_terms_ins f_terms_outs f_terms_values => wp_Tr_readText_57 kf pf nf post m x1 f_next f_takenPlace f_takenNumber f_fault f_faultPlace f_terms_size f_terms_length f_terms_kinds f_terms_ins f_terms_outs f_terms_values) (nI i) (nI (j + 1)) (P j) (nI (M j)) fl fp (nI (M 1)) le ki is os va := by
            intro fl fp hm9
            unfold wp_Tr_readText_95
            refine cterm_ok (L := i) hT hC m1 (by omega) (fun hf => ?_) (fun q tp tn fl fp le ki is os va => bn0 rfl ?_) (fun q tp tn fl' fp' le ki is os va r => bn1 (by decide) ?_) (fun q hf ht tp tn ki' is' os' va' hc => bn1 (by decide) ?_)
            · rcases hm9 with ⟨a, _⟩ | ⟨_, _, h30, pre, e1, e2, e3, e4, _⟩
              · exact absurd hf a
              · exact ⟨e4, h30, e3⟩
            · rw [if_neg (by rw [q]; decide)] at g0
              exact g0 q _ _ _ _ _ _ _ _ _ _
            · rw [if_pos q] at g0 g1
              rw [nI_1]
              refine ih d _ (i + 1) _ _ _ _ _ _ _ _ _ hsl.1 (by omega) (by omega) (by omega) g0 g1 (Or.inl ⟨r.1, ?_⟩)
              rcases hm9 with ⟨a, b⟩ | ⟨a, _, h30, pre, e1, e2, e3, e4, e5, e6, e7⟩
              · obtain ⟨r1, r2⟩ := r.2.1 a
                rw [r1, r2]; exact b
              · rw [← e6, tsF, if_pos z5, if_neg (by omega), r.2.2 a]
            · rw [if_pos q] at g0 g1
              rw [nI_1]
              rcases hm9 with ⟨a, b⟩ | ⟨a, b, h30, pre, e1, e2, e3, e4, e5, e6, e7⟩
              · exact absurd hf a
              · refine ih d _ (i + 1) _ _ _ _ _ _ _ _ _ hsl.1 (by omega) (by omega) (by omega) g0 g1 (Or.inr ⟨rfl, b, pre ++ [j + 1], by simp [e1], by omega, e2, e3, rfl, ?_, ?_, ?_⟩)
                · rw [← e5, tsL, if_pos z5, List.append_assoc]; rfl
                · rw [← e6, tsF, if_pos z5, if_neg (by omega), ht]
                · subst e1
                  exact e7.snoc hc
          refine ⟨fun z30 => term _ _ ?_, fun z30 => ⟨vp_in_nI (by omega) (by omega), ?_⟩⟩
          · rcases hst with a | ⟨a, b, pre, e1, e2, e3, e4, e5, e6, e7, e8⟩
            · exact Or.inl a
            · exact Or.inr ⟨a, b, by omega, pre, e1, e3, e4, e5, e6, e7, e8⟩
          · rcases hst with a | ⟨a, b, pre, e1, e2, e3, e4, e5, e6, e7, e8⟩
            · exact note1 a.1 (term _ _ (Or.inl a))
            · subst a
              refine note0 (term _ _ (Or.inl ⟨by decide, ?_⟩))
              rw [← e7, tsF, if_pos z5, if_pos z30, nI_clamp (by omega), (hC (j + 1) (by omega)).2.1]
        · rw [if_neg z5] at g0 g1
          refine fin j _ _ _ _ _ _ _ _ _ hj (fun z => ?_) (fun z => g0 (decide_eq_false z) _ _ _ _ _ _ _ _ _ _)
          have hok := g1 (decide_eq_true z)
          rcases hst with a | ⟨a, b, pre, e1, e2, e3, e4, e5, e6, e7, e8⟩
          · exact hA hok _ _ _ _ _ _ _ _ _ _ _ a.1 a.2
          · rw [tsL, if_neg z5, List.append_nil] at e6
            rw [tsF, if_neg z5] at e7
            subst a; subst b; subst e5; subst e6
            rw [← e1]
            exact h1 hok e7.symm (by omega) _ _ _ _ _ _ _ e8
  have hx0 := h0
  unfold sText at hx0
  unfold wp_Tr_readText_0 wp_Tr_readText_16
  refine take_ok (j := 0) hT hC (by omega) 0 (by decide) rfl (fun z0 => br_f (by decide) ?_) (fun z0 => br_t rfl (by rw [if_neg z0] at hx0; exact hx0 rfl _ _ _ _ _ _ _ _ _ _))
  have l0 := hT.lt (j := 0) (by omega) z0 (by decide) (by decide)
  rw [if_pos z0] at hx0
  refine take_ok (j := 1) hT hC (by omega) 4 (by decide) rfl (fun z4 => bn1 (by decide) ?_) (fun z4 => bn0 rfl (by rw [if_neg z4] at hx0; exact hx0 rfl _ _ _ _ _ _ _ _ _ _))
  have l1 := hT.lt (j := 1) (by omega) z4 (by decide) (by decide)
  rw [if_pos z4] at hx0
  have c1 : nI (M 1) < 1 ↔ M 1 < 1 := nI_ltI (a := M 1) (b := 1) (by omega) (by omega)
  have c2 : nI (M 1) ≤ 10 ↔ M 1 ≤ 10 := nI_leI (a := M 1) (b := 10) (by omega) (by omega)
  rw [c1, c2]
  have g1 : (sTerms K V 601 2).2 = true → (sText K V).2 = true := by
    intro q
    unfold sText
    rw [if_pos z0, if_pos z4]
    exact q
  have bad : (M 1 < 1 ∨ 10 < M 1) → wp_Tr_readText_46 kf pf nf post (nI (1 + 1)) (P 1) (nI (M 1)) 0 (-1) (nI (M 1)) 0 ki is os va := by
    intro hb
    unfold wp_Tr_readText_46 wp_Tr_readText_55
    exact note0 ⟨V + 2, loop (V + 2) 601 2 0 _ _ _ _ _ _ _ _ _ (by omega) (by omega) (by omega) (by omega) hx0 g1 (Or.inl ⟨by decide, by unfold xF; rw [if_pos hb]⟩)⟩
  refine ⟨fun z => bad (Or.inl z), fun z => ⟨fun z2 => ?_, fun z2 => bad (Or.inr (by omega))⟩⟩
  unfold wp_Tr_readText_55
  exact ⟨V + 2, loop (V + 2) 601 2 0 _ _ _ _ _ _ _ _ _ (by omega) (by omega) (by omega) (by omega) hx0 g1 (Or.inr ⟨rfl, rfl, [], rfl, by omega, by omega, z2, rfl, rfl, by unfold xF; rw [if_neg (by omega)], fun i hi => by cases hi⟩)⟩
