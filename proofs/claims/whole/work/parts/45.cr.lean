/-! The class reads the terms in one pass. Own work. -/
theorem take_ok {K M : Nat → Nat} {P : Nat → Int32} {V : Nat} {kf pf nf : Nat → Int32} (hT : Toks K M V) (hC : TokC K M P V kf pf nf) {j : Nat} (hj : j ≤ V) (k : Nat) (hk : k ≤ 12) {c : Int32} (hc : c = nI k) {tp tn : Int32} {post : Int32 → Int32 → Int32 → Int32 → Prop} (h1 : K j = k → post 1 (nI (j + 1)) (P j) (nI (M j))) (h0 : K j ≠ k → post 0 (nI j) tp tn) : wp_Tr_take_0 kf pf nf post c (nI j) tp tn := by
  have hV := hT.1
  have hKj := hT.2.2.2.1 j
  unfold wp_Tr_take_0
  obtain ⟨e1, e2, e3⟩ := hC j hj
  rw [nI_clamp (by omega), e1, e2, e3, hc, nI_1, nI_eq (by omega) (by omega)]
  exact ⟨vp_in_nI (by omega) (by omega), fun z => ⟨vp_in_nI (by omega) (by omega), vp_in_nI (by omega) (by omega), h1 z⟩, h0⟩
theorem ctakeValue_ok {K M : Nat → Nat} {P : Nat → Int32} {V : Nat} {kf pf nf : Nat → Int32} (hT : Toks K M V) (hC : TokC K M P V kf pf nf) {j : Nat} (hj : j ≤ V) {tp tn : Int32} {post : Int32 → Int32 → Int32 → Int32 → Prop} (h1 : (sVal K j).2 = true → post 1 (nI (sVal K j).1) (P j) (iI (vVal K M j))) (h0 : (sVal K j).2 = false → ∀ tp tn, post 0 (nI (sVal K j).1) tp tn) : wp_Tr_takeValue_0 pf kf nf post (nI j) tp tn := by
  have hV := hT.1
  unfold wp_Tr_takeValue_0 wp_Tr_takeValue_52
  unfold sVal at h1 h0
  unfold vVal at h1
  rw [nI_clamp (by omega), (hC j hj).2.1]
  refine ⟨vp_in_nI (by omega) (by omega), take_ok hT hC hj 8 (by decide) rfl (fun z => ?_) (fun z => ?_)⟩
  · have l1 := hT.lt hj z (by decide) (by decide)
    rw [if_pos z] at h1 h0
    refine take_ok hT hC (by omega) 4 (by decide) rfl (fun z2 => ?_) (fun z2 => ?_)
    · rw [if_pos z2, if_pos z] at h1
      refine bn1 (by decide) (br_f (by decide) ?_)
      rw [nI_iI (M (j + 1)), iI_neg]
      exact h1 rfl
    · rw [if_neg z2] at h0
      exact bn0 rfl (h0 rfl _ _)
  · rw [if_neg z] at h1 h0
    refine take_ok hT hC hj 4 (by decide) rfl (fun z2 => ?_) (fun z2 => ?_)
    · rw [if_pos z2, if_neg z] at h1
      refine bn1 (by decide) (br_t rfl ?_)
      rw [nI_iI (M j)]
      exact h1 rfl
    · rw [if_neg z2] at h0
      exact bn0 rfl (h0 rfl _ _)
theorem note0 {post : Int32 → Int32 → Prop} {c p fp : Int32} (h : post c p) : wp_Tr_note_0 post c p 0 fp := bn0 rfl h
theorem note1 {post : Int32 → Int32 → Prop} {c p fl fp : Int32} (hf : ¬ fl = 0) (h : post fl fp) : wp_Tr_note_0 post c p fl fp := bn1 hf h
theorem noteIf_no {tp : Int32} {post : Int32 → Int32 → Prop} {c fl fp : Int32} (h : post fl fp) : wp_Tr_noteIf_0 tp post 0 c fl fp := br_t rfl h
theorem noteIf_A {tp : Int32} {post : Int32 → Int32 → Prop} {t c fl fp : Int32} (hf : ¬ fl = 0) (h : post fl fp) : wp_Tr_noteIf_0 tp post t c fl fp := ⟨fun _ => h, fun _ => note1 hf h⟩
theorem noteIf_yes {tp : Int32} {post : Int32 → Int32 → Prop} {c fp : Int32} (h : post c tp) : wp_Tr_noteIf_0 tp post 1 c 0 fp := br_f (by decide) (note0 h)
theorem takenElement_ok {n x : Nat} (hn : n < 100000) (hx : x < 100000) {tp fl fp : Int32} {post : Int32 → Int32 → Int32 → Prop} (h1 : x < n → x < 10 → post (nI (2 ^ x)) fl fp) (h2 : (n ≤ x ∨ 10 ≤ x) → fl = 0 → post 0 3 tp) (h3 : (n ≤ x ∨ 10 ≤ x) → ¬ fl = 0 → post 0 fl fp) : wp_Tr_takenElement_0 tp (nI x) (nI n) post fl fp := by
  have bad : (n ≤ x ∨ 10 ≤ x) → wp_Tr_takenElement_27 tp (nI x) (nI n) post fl fp := by
    intro hb
    unfold wp_Tr_takenElement_27 wp_Tr_takenElement_28 wp_Tr_takenElement_39 wp_Tr_takenElement_57
    refine bn0 rfl ?_
    by_cases hf : fl = 0
    · subst hf
      exact noteIf_yes (br_t rfl (h2 hb rfl))
    · exact noteIf_A hf (br_t rfl (h3 hb hf))
  unfold wp_Tr_takenElement_0
  have c10 : 10 ≤ nI x ↔ 10 ≤ x := nI_leI (a := 10) (b := x) (by omega) (by omega)
  rw [nI_leI (by omega) (by omega), c10]
  refine ⟨fun z => bad (Or.inl z), fun z => ⟨fun z2 => bad (Or.inr z2), fun z2 => ?_⟩⟩
  unfold wp_Tr_takenElement_28 wp_Tr_takenElement_39 wp_Tr_takenElement_57
  refine bn1 (by decide) (noteIf_no (br_f (by decide) ?_))
  rw [nI_sh (by omega)]
  exact h1 (by omega) (by omega)
theorem kt0 {fl k i o le : Int32} {ki is os : Nat → Int32} {post : Int32 → (Nat → Int32) → (Nat → Int32) → (Nat → Int32) → Prop} (hf : ¬ fl = 0) (h : post le ki is os) : wp_Tr_keepTerm_0 fl post k i o le ki is os := bn1 hf h
theorem kt1 {k i o : Int32} {L : Nat} (hL : L < 30) {ki is os : Nat → Int32} {post : Int32 → (Nat → Int32) → (Nat → Int32) → (Nat → Int32) → Prop} (h : post (nI (L + 1)) (upd ki L k) (upd is L i) (upd os L o)) : wp_Tr_keepTerm_0 0 post k i o (nI L) ki is os := by
  unfold wp_Tr_keepTerm_0 wp_Tr_keepTerm_17 wp_Te_open_0 wp_Te_open_49
  refine bn0 rfl (br_f (nI_ge (b := 30) (by omega) (by omega)) ?_)
  rw [nI_1, nI_clamp (by omega)]
  exact ⟨vp_in_nI (by omega) (by omega), vp_in_nI (by omega) (by omega), vp_in_nI (by omega) (by omega), h⟩
theorem kv0 {tn fl le x : Int32} {va : Nat → Int32} {post : (Nat → Int32) → Prop} (hf : ¬ fl = 0) (h : post va) : wp_Tr_keepValue_0 tn fl le post x va := bn1 hf h
theorem kv1 {tn : Int32} {L a : Nat} (hL : L < 30) (ha : a < 10) {va : Nat → Int32} {post : (Nat → Int32) → Prop} (h : post (upd va (10 * L + a) tn)) : wp_Tr_keepValue_0 tn 0 (nI (L + 1)) post (nI a) va := by
  unfold wp_Tr_keepValue_0 wp_Tr_keepValue_19 wp_Te_put_0 wp_Te_put_30
  have e1 : ¬ nI (L + 1) ≤ 0 := fun z => by
    have := (nI_leI (a := L + 1) (b := 0) (by omega) (by omega)).mp z
    omega
  have e2 : (nI (L + 1) - 1) * 10 + nI a = nI (10 * L + a) := by
    rw [show (1 : Int32) = nI 1 from rfl, pk_sub (by omega), Nat.add_sub_cancel, nI_iI, show (10 : Int32) = iI 10 from rfl, iI_mul, nI_iI, iI_add, nI_iI]
    congr 1
    omega
  rw [e2, nI_clamp (by omega)]
  exact bn0 rfl (br_f e1 (br_f (nI_ge (b := 10) (by omega) (by omega)) ⟨vp_in_nI (by omega) (by omega), h⟩))
/-- a fault that stands after the term at j, with (fl, fp) before it -/
def Rf (n : Nat) (K M : Nat → Nat) (P : Nat → Int32) (V j : Nat) (fl fp fl' fp' : Int32) : Prop := ¬ fl' = 0 ∧ (¬ fl = 0 → fl' = fl ∧ fp' = fp) ∧ (fl = 0 → tF n K M P V j = some (fl', fp'))
def tIn (n : Nat) (K M : Nat → Nat) (P : Nat → Int32) (V j : Nat) : Nat := if K j = 1 ∨ K j = 2 then 2 ^ M (j + 1) else (cEl n K M P V j).2
def tOut (K M : Nat → Nat) (j : Nat) : Nat := if K j = 2 then 2 ^ M (j + 3) else 0
def tVs (K M : Nat → Nat) (V j : Nat) : List Int := if K j = 1 then [vVal K M (j + 3)] else if K j = 2 then [vVal K M (j + 5)] else cVs K M V j
/-- the term at j has come in as the L-th -/
def Came (n : Nat) (K M : Nat → Nat) (P : Nat → Int32) (V j L : Nat) (ki is os va ki' is' os' va' : Nat → Int32) : Prop :=
  ki' = upd ki L (nI (K j)) ∧ is' = upd is L (nI (tIn n K M P V j)) ∧ os' = upd os L (nI (tOut K M j)) ∧ (∀ x, x < 10 * L → va' x = va x) ∧ (∀ a, a < (tVs K M V j).length → va' (10 * L + a) = iI ((tVs K M V j).getD a 0)) ∧ (tVs K M V j).length ≤ 10
theorem cweight_ok {K M : Nat → Nat} {P : Nat → Int32} {V : Nat} {kf pf nf : Nat → Int32} (hT : Toks K M V) (hC : TokC K M P V kf pf nf) {n j L : Nat} (hn : n < 100000) (hj : j + 1 ≤ V) (hk : K j = 1) {tp tn fl fp le : Int32} {ki is os va : Nat → Int32} (hB : fl = 0 → le = nI L ∧ L < 30 ∧ n ≤ 10) {post : Int32 → Int32 → Int32 → Int32 → Int32 → Int32 → Int32 → (Nat → Int32) → (Nat → Int32) → (Nat → Int32) → (Nat → Int32) → Prop}
    (h0 : (sTerm K V j).2 = false → ∀ tp tn fl fp le ki is os va, post 0 (nI (sTerm K V j).1) tp tn fl fp le ki is os va)
    (hA : (sTerm K V j).2 = true → ∀ tp tn fl' fp' le ki is os va, Rf n K M P V j fl fp fl' fp' → post 1 (nI (sTerm K V j).1) tp tn fl' fp' le ki is os va)
    (h1 : (sTerm K V j).2 = true → fl = 0 → tF n K M P V j = none → ∀ tp tn ki' is' os' va', Came n K M P V j L ki is os va ki' is' os' va' → post 1 (nI (sTerm K V j).1) tp tn 0 fp (nI (L + 1)) ki' is' os' va') : wp_Tr_readWeight_0 (nI n) kf pf nf post (nI (j + 1)) tp tn fl fp le ki is os va := by
  have htf : tF n K M P V j = if n ≤ M (j + 1) then some (3, P (j + 1)) else none := by unfold tF; rw [if_pos hk]
  have es : sTerm K V j = sWeight K (j + 1) := by unfold sTerm; rw [if_pos hk]
  rw [es] at h0 hA h1
  unfold sWeight at h0 hA h1
  unfold wp_Tr_readWeight_0 wp_Tr_readWeight_31
  refine take_ok hT hC hj 4 (by decide) rfl (fun z4 => bn1 (by decide) ?_) (fun z4 => bn0 rfl ?_)
  · have l1 := hT.lt hj z4 (by decide) (by decide)
    have m1 := hT.2.2.2.2 (j + 1)
    rw [if_pos z4] at h0 hA h1
    have rest : ∀ r fl1 fp1, ((fl1 = 0 ∧ fl = 0 ∧ fp1 = fp ∧ r = nI (2 ^ M (j + 1)) ∧ M (j + 1) < n) ∨ Rf n K M P V j fl fp fl1 fp1) → wp_Tr_take_0 kf pf nf (fun r18 f_next_18 f_takenPlace_18 f_takenNumber_18 => ((r18 = 0) → (post 0 f_next_18 f_takenPlace_18 f_takenNumber_18 fl1 fp1 le ki is os va)) ∧ ((¬ (r18 = 0)) → (wp_Tr_takeValue_0 pf kf nf (fun r25 f_next_25 f_takenPlace_25 f_takenNumber_25 => ((¬ r25 = 0) → (wp_Tr_keepTerm_0 fl1 (fun le ki is os => wp_Tr_keepValue_0 f_takenNumber_25 fl1 le (fun va => post 1 f_next_25 f_takenPlace_25 f_takenNumber_25 fl1 fp1 le ki is os va) 0 va) 1 r 0 le ki is os)) ∧ ((r25 = 0) → (post 0 f_next_25 f_takenPlace_25 f_takenNumber_25 fl1 fp1 le ki is os va))) f_next_18 f_takenPlace_18 f_takenNumber_18))) 6 (nI (j + 1 + 1)) (P (j + 1)) (nI (M (j + 1))) := by
      intro r fl1 fp1 hm
      refine take_ok hT hC (by omega) 6 (by decide) rfl (fun z6 => br_f (by decide) ?_) (fun z6 => br_t rfl ?_)
      · have l2 := hT.lt (by omega) z6 (by decide) (by decide)
        rw [if_pos z6] at h0 hA h1
        refine ctakeValue_ok hT hC (by omega) (fun hv => bn1 (by decide) ?_) (fun hv tp tn => bn0 rfl (h0 hv _ _ _ _ _ _ _ _ _))
        rcases hm with ⟨e1, e2, e3, e4, e5⟩ | hr
        · obtain ⟨q1, q2, q3⟩ := hB e2
          subst e1; subst e3; subst q1; subst e4
          refine kt1 q2 (kv1 (a := 0) q2 (by decide) (h1 hv e2 (by rw [htf, if_neg (by omega)]) _ _ _ _ _ _ ?_))
          have e9 : tVs K M V j = [vVal K M (j + 3)] := by unfold tVs; rw [if_pos hk]
          refine ⟨by rw [hk]; rfl, ?_, ?_, fun x hx => pk_un (by omega), fun a ha => ?_, by rw [e9]; simp⟩
          · unfold tIn; rw [if_pos (Or.inl hk)]
          · unfold tOut; rw [if_neg (by omega)]; rfl
          · rw [e9] at ha ⊢
            have : a = 0 := by simpa using ha
            subst this
            rw [pk_us]
            rfl
        · exact kt0 hr.1 (kv0 hr.1 (hA hv _ _ _ _ _ _ _ _ _ hr))
      · rw [if_neg z6] at h0
        exact h0 rfl _ _ _ _ _ _ _ _ _
    refine takenElement_ok hn m1 (fun hx _ => ?_) (fun hx hf => ?_) (fun hx hf => ?_)
    · by_cases hf : fl = 0
      · exact rest _ _ _ (Or.inl ⟨hf, hf, rfl, rfl, hx⟩)
      · exact rest _ _ _ (Or.inr ⟨hf, fun _ => ⟨rfl, rfl⟩, fun z => absurd z hf⟩)
    · have hn10 := (hB hf).2.2
      exact rest _ _ _ (Or.inr ⟨by decide, fun z => absurd hf z, fun _ => by rw [htf, if_pos (by omega)]⟩)
    · exact rest _ _ _ (Or.inr ⟨hf, fun _ => ⟨rfl, rfl⟩, fun z => absurd z hf⟩)
  · rw [if_neg z4] at h0
    exact h0 rfl _ _ _ _ _ _ _ _ _
theorem two_pow_inj {a b : Nat} (h : 2 ^ a = 2 ^ b) : a = b := by
  rcases Nat.lt_trichotomy a b with z | z | z
  · have := Nat.pow_lt_pow_right (a := 2) (by decide) z; omega
  · exact z
  · have := Nat.pow_lt_pow_right (a := 2) (by decide) z; omega
theorem two_lt {a : Nat} (h : a < 10) : 2 ^ a < 1024 := Nat.lt_of_lt_of_le (Nat.pow_lt_pow_right (by decide) h) (by decide)
theorem carc_ok {K M : Nat → Nat} {P : Nat → Int32} {V : Nat} {kf pf nf : Nat → Int32} (hT : Toks K M V) (hC : TokC K M P V kf pf nf) {n j L : Nat} (hn : n < 100000) (hj : j + 1 ≤ V) (hk : K j = 2) {tp tn fl fp le : Int32} {ki is os va : Nat → Int32} (hB : fl = 0 → le = nI L ∧ L < 30 ∧ n ≤ 10) {post : Int32 → Int32 → Int32 → Int32 → Int32 → Int32 → Int32 → (Nat → Int32) → (Nat → Int32) → (Nat → Int32) → (Nat → Int32) → Prop}
    (h0 : (sTerm K V j).2 = false → ∀ tp tn fl fp le ki is os va, post 0 (nI (sTerm K V j).1) tp tn fl fp le ki is os va)
    (hA : (sTerm K V j).2 = true → ∀ tp tn fl' fp' le ki is os va, Rf n K M P V j fl fp fl' fp' → post 1 (nI (sTerm K V j).1) tp tn fl' fp' le ki is os va)
    (h1 : (sTerm K V j).2 = true → fl = 0 → tF n K M P V j = none → ∀ tp tn ki' is' os' va', Came n K M P V j L ki is os va ki' is' os' va' → post 1 (nI (sTerm K V j).1) tp tn 0 fp (nI (L + 1)) ki' is' os' va') : wp_Tr_readArc_0 (nI n) kf pf nf post (nI (j + 1)) tp tn fl fp le ki is os va := by
  have htf : tF n K M P V j = if n ≤ M (j + 1) then some (3, P (j + 1)) else if n ≤ M (j + 3) ∨ M (j + 3) = M (j + 1) then some (3, P (j + 3)) else if vVal K M (j + 5) < 0 then some (4, P (j + 5)) else none := by unfold tF; rw [if_neg (by omega), if_pos hk]
  have es : sTerm K V j = sArc K (j + 1) := by unfold sTerm; rw [if_neg (by omega), if_pos hk]
  rw [es] at h0 hA h1
  unfold sArc at h0 hA h1
  unfold wp_Tr_readArc_0 wp_Tr_readArc_32
  have same : ¬ fl = 0 → Rf n K M P V j fl fp fl fp := fun hf => ⟨hf, fun _ => ⟨rfl, rfl⟩, fun z => absurd z hf⟩
  refine take_ok hT hC hj 4 (by decide) rfl (fun z4 => bn1 (by decide) ?_) (fun z4 => bn0 rfl ?_)
  · have l1 := hT.lt hj z4 (by decide) (by decide)
    have m1 := hT.2.2.2.2 (j + 1)
    rw [if_pos z4] at h0 hA h1
    -- from the value on
    have rest2 : K (j + 1 + 1) = 7 → K (j + 1 + 2) = 4 → ∀ r1 r2 t fl1 fp1, ((fl1 = 0 ∧ fl = 0 ∧ fp1 = fp ∧ r1 = nI (2 ^ M (j + 1)) ∧ M (j + 1) < n ∧ r2 = nI (2 ^ M (j + 3)) ∧ M (j + 3) < n ∧ ((t = 0 ∧ M (j + 3) ≠ M (j + 1)) ∨ (t = 1 ∧ M (j + 3) = M (j + 1)))) ∨ Rf n K M P V j fl fp fl1 fp1) → wp_Tr_readArc_50 (nI n) kf pf nf post r1 r2 t (nI (j + 1 + 2 + 1)) (P (j + 1 + 2)) (nI (M (j + 1 + 2))) fl1 fp1 le ki is os va := by
      intro z7 z42 r1 r2 t fl1 fp1 hm
      have l2 := hT.lt (by omega) z7 (by decide) (by decide)
      have l3 := hT.lt (by omega) z42 (by decide) (by decide)
      rw [if_pos z7, if_pos z42] at h0 hA h1
      unfold wp_Tr_readArc_50 wp_Tr_readArc_70
      have fin : ∀ fl1 fp1, ((fl1 = 0 ∧ fl = 0 ∧ fp1 = fp ∧ r1 = nI (2 ^ M (j + 1)) ∧ M (j + 1) < n ∧ r2 = nI (2 ^ M (j + 3)) ∧ M (j + 3) < n ∧ M (j + 3) ≠ M (j + 1)) ∨ Rf n K M P V j fl fp fl1 fp1) → wp_Tr_take_0 kf pf nf (fun r57 f_next_57 f_takenPlace_57 f_takenNumber_57 => ((r57 = 0) → (post 0 f_next_57 f_takenPlace_57 f_takenNumber_57 fl1 fp1 le ki is os va)) ∧ ((¬ (r57 = 0)) → (wp_Tr_takeValue_0 pf kf nf (fun r64 f_next_64 f_takenPlace_64 f_takenNumber_64 => ((¬ r64 = 0) → (((0 ≤ f_takenNumber_64) → (wp_Tr_readArc_85 (nI n) kf pf nf post r1 r2 0 f_next_64 f_takenPlace_64 f_takenNumber_64 fl1 fp1 le ki is os va)) ∧ ((¬ (0 ≤ f_takenNumber_64)) → (wp_Tr_readArc_85 (nI n) kf pf nf post r1 r2 1 f_next_64 f_takenPlace_64 f_takenNumber_64 fl1 fp1 le ki is os va)))) ∧ ((r64 = 0) → (post 0 f_next_64 f_takenPlace_64 f_takenNumber_64 fl1 fp1 le ki is os va))) f_next_57 f_takenPlace_57 f_takenNumber_57))) 6 (nI (j + 1 + 2 + 1)) (P (j + 1 + 2)) (nI (M (j + 1 + 2))) := by
        intro fl1 fp1 hm
        refine take_ok hT hC (by omega) 6 (by decide) rfl (fun z6 => br_f (by decide) ?_) (fun z6 => br_t rfl ?_)
        · have l4 := hT.lt (by omega) z6 (by decide) (by decide)
          have z6' : K (j + 1 + 3) = 6 := z6
          rw [if_pos z6'] at h0 hA h1
          refine ctakeValue_ok (j := j + 1 + 4) hT hC (by omega) (fun hv => bn1 (by decide) ?_) (fun hv tp tn => bn0 rfl (h0 hv _ _ _ _ _ _ _ _ _))
          have vb := vVal_bd hT (j + 1 + 4)
          have e0 : (0 : Int32) ≤ iI (vVal K M (j + 1 + 4)) ↔ 0 ≤ vVal K M (j + 1 + 4) := iI_le (a := 0) (b := vVal K M (j + 1 + 4)) ⟨by omega, by omega⟩ ⟨by omega, by omega⟩
          rw [e0]
          unfold wp_Tr_readArc_85
          rcases hm with ⟨e1, e2, e3, e4, e5, e6, e7, e8⟩ | hr
          · obtain ⟨q1, q2, q3⟩ := hB e2
            subst e1; subst e3; subst q1; subst e4; subst e6
            have hno : ¬ (n ≤ M (j + 3) ∨ M (j + 3) = M (j + 1)) := by omega
            refine ⟨fun zv => noteIf_no ?_, fun zv => noteIf_yes ?_⟩
            · have zv' : ¬ vVal K M (j + 5) < 0 := fun q => by have : vVal K M (j + 1 + 4) < 0 := q; omega
              refine kt1 q2 (kv1 (a := 0) q2 (by decide) (h1 hv e2 (by rw [htf, if_neg (by omega), if_neg hno, if_neg zv']) _ _ _ _ _ _ ?_))
              have e9 : tVs K M V j = [vVal K M (j + 5)] := by unfold tVs; rw [if_neg (by omega), if_pos hk]
              refine ⟨by rw [hk]; rfl, ?_, ?_, fun x hx => pk_un (by omega), fun a ha => ?_, by rw [e9]; simp⟩
              · unfold tIn; rw [if_pos (Or.inr hk)]
              · unfold tOut; rw [if_pos hk]
              · rw [e9] at ha ⊢
                have : a = 0 := by simpa using ha
                subst this
                rw [pk_us]
                rfl
            · have zv' : vVal K M (j + 5) < 0 := by have : vVal K M (j + 1 + 4) < 0 := by omega
                                                    exact this
              refine kt0 (by decide) (kv0 (by decide) (hA hv _ _ _ _ _ _ _ _ _ ⟨by decide, fun z => absurd e2 z, fun _ => ?_⟩))
              rw [htf, if_neg (by omega), if_neg hno, if_pos zv']
          · exact ⟨fun _ => noteIf_A hr.1 (kt0 hr.1 (kv0 hr.1 (hA hv _ _ _ _ _ _ _ _ _ hr))), fun _ => noteIf_A hr.1 (kt0 hr.1 (kv0 hr.1 (hA hv _ _ _ _ _ _ _ _ _ hr)))⟩
        · have z6' : ¬ K (j + 1 + 3) = 6 := z6
          rw [if_neg z6'] at h0
          exact h0 rfl _ _ _ _ _ _ _ _ _
      rcases hm with ⟨e1, e2, e3, e4, e5, e6, e7, e8⟩ | hr
      · rcases e8 with ⟨e8, e9⟩ | ⟨e8, e9⟩
        · subst e8
          exact noteIf_no (fin _ _ (Or.inl ⟨e1, e2, e3, e4, e5, e6, e7, e9⟩))
        · subst e8; subst e1
          refine noteIf_yes (fin _ _ (Or.inr ⟨by decide, fun z => absurd e2 z, fun _ => ?_⟩))
          rw [htf, if_neg (by omega), if_pos (Or.inr e9)]
      · exact noteIf_A hr.1 (fin _ _ (Or.inr hr))
    have rest : ∀ r1 fl1 fp1, ((fl1 = 0 ∧ fl = 0 ∧ fp1 = fp ∧ r1 = nI (2 ^ M (j + 1)) ∧ M (j + 1) < n) ∨ Rf n K M P V j fl fp fl1 fp1) → wp_Tr_take_0 kf pf nf (fun r18 f_next_18 f_takenPlace_18 f_takenNumber_18 => ((r18 = 0) → (post 0 f_next_18 f_takenPlace_18 f_takenNumber_18 fl1 fp1 le ki is os va)) ∧ ((¬ (r18 = 0)) → (wp_Tr_take_0 kf pf nf (fun r26 f_next_26 f_takenPlace_26 f_takenNumber_26 => ((¬ r26 = 0) → (wp_Tr_takenElement_0 f_takenPlace_26 f_takenNumber_26 (nI n) (fun r35 f_fault_35 f_faultPlace_35 => ((¬ r1 = r35) → (wp_Tr_readArc_50 (nI n) kf pf nf post r1 r35 0 f_next_26 f_takenPlace_26 f_takenNumber_26 f_fault_35 f_faultPlace_35 le ki is os va)) ∧ ((r1 = r35) → (wp_Tr_readArc_50 (nI n) kf pf nf post r1 r35 1 f_next_26 f_takenPlace_26 f_takenNumber_26 f_fault_35 f_faultPlace_35 le ki is os va))) fl1 fp1)) ∧ ((r26 = 0) → (post 0 f_next_26 f_takenPlace_26 f_takenNumber_26 fl1 fp1 le ki is os va))) 4 f_next_18 f_takenPlace_18 f_takenNumber_18))) 7 (nI (j + 1 + 1)) (P (j + 1)) (nI (M (j + 1))) := by
      intro r1 fl1 fp1 hm
      refine take_ok hT hC (by omega) 7 (by decide) rfl (fun z7 => br_f (by decide) ?_) (fun z7 => br_t rfl ?_)
      · have l2 := hT.lt (by omega) z7 (by decide) (by decide)
        have h0' := h0
        rw [if_pos z7] at h0'
        refine take_ok (j := j + 1 + 2) hT hC (by omega) 4 (by decide) rfl (fun z42 => bn1 (by decide) ?_) (fun z42 => bn0 rfl ?_)
        · have m3 := hT.2.2.2.2 (j + 1 + 2)
          have r50 := rest2 z7 z42
          refine takenElement_ok hn m3 (fun hy _ => ?_) (fun hy hf => ?_) (fun hy hf => ?_)
          · rcases hm with ⟨e1, e2, e3, e4, e5⟩ | hr
            · have hn10 := (hB e2).2.2
              have b1 := two_lt (a := M (j + 1)) (by omega)
              have b2 := two_lt (a := M (j + 1 + 2)) (by omega)
              rw [e4, nI_eq (by omega) (by omega)]
              refine ⟨fun q => r50 _ _ _ _ _ (Or.inl ⟨e1, e2, e3, rfl, e5, rfl, hy, Or.inl ⟨rfl, fun q9 => q ?_⟩⟩), fun q => r50 _ _ _ _ _ (Or.inl ⟨e1, e2, e3, rfl, e5, rfl, hy, Or.inr ⟨rfl, (two_pow_inj q).symm⟩⟩)⟩
              rw [← show M (j + 1 + 2) = M (j + 1) from q9]
            · exact ⟨fun _ => r50 _ _ _ _ _ (Or.inr hr), fun _ => r50 _ _ _ _ _ (Or.inr hr)⟩
          · have hr : Rf n K M P V j fl fp 3 (P (j + 1 + 2)) := by
              rcases hm with ⟨e1, e2, e3, e4, e5⟩ | hr
              · have hn10 := (hB e2).2.2
                have hy' : n ≤ M (j + 3) := by have : n ≤ M (j + 1 + 2) := by omega
                                               exact this
                refine ⟨by decide, fun z => absurd e2 z, fun _ => ?_⟩
                rw [htf, if_neg (by omega), if_pos (Or.inl hy')]
              · exact absurd hf hr.1
            exact ⟨fun _ => r50 _ _ _ _ _ (Or.inr hr), fun _ => r50 _ _ _ _ _ (Or.inr hr)⟩
          · rcases hm with ⟨e1, e2, e3, e4, e5⟩ | hr
            · exact absurd e1 hf
            · exact ⟨fun _ => r50 _ _ _ _ _ (Or.inr hr), fun _ => r50 _ _ _ _ _ (Or.inr hr)⟩
        · rw [if_neg z42] at h0'
          exact h0' rfl _ _ _ _ _ _ _ _ _
      · rw [if_neg z7] at h0
        exact h0 rfl _ _ _ _ _ _ _ _ _
    refine takenElement_ok hn m1 (fun hx _ => ?_) (fun hx hf => ?_) (fun hx hf => ?_)
    · by_cases hf : fl = 0
      · exact rest _ _ _ (Or.inl ⟨hf, hf, rfl, rfl, hx⟩)
      · exact rest _ _ _ (Or.inr (same hf))
    · have hn10 := (hB hf).2.2
      exact rest _ _ _ (Or.inr ⟨by decide, fun z => absurd hf z, fun _ => by rw [htf, if_pos (by omega)]⟩)
    · exact rest _ _ _ (Or.inr (same hf))
  · rw [if_neg z4] at h0
    exact h0 rfl _ _ _ _ _ _ _ _ _
