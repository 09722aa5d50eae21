/-! The class reads a curve. Own work. -/
theorem aValueStands_ok {K M : Nat → Nat} {P : Nat → Int32} {V : Nat} {kf pf nf : Nat → Int32} (hT : Toks K M V) (hC : TokC K M P V kf pf nf) {j : Nat} (hj : j ≤ V) {post : Int32 → Prop} (h : post (i01 (stands K j))) : wp_Tr_aValueStands_0 (nI j) kf post := by
  have hV := hT.1
  have hKj := hT.2.2.2.1 j
  unfold wp_Tr_aValueStands_0 wp_Tr_aValueStands_33 wp_Tr_aValueStands_38
  rw [nI_clamp (by omega), (hC j hj).1]
  have e4 : nI (K j) = 4 ↔ K j = 4 := nI_eq (a := K j) (b := 4) (by omega) (by omega)
  have e8 : nI (K j) = 8 ↔ K j = 8 := nI_eq (a := K j) (b := 8) (by omega) (by omega)
  rw [e4, e8]
  refine ⟨vp_in_nI (by omega) (by omega), fun z => ⟨nb1, ?_⟩, fun z => ⟨vp_in_nI (by omega) (by omega), fun z2 => ⟨nb0, ?_⟩, fun z2 => ⟨nb1, ?_⟩⟩⟩
  · rwa [show stands K j = true from decide_eq_true (Or.inl z)] at h
  · rwa [show stands K j = false from decide_eq_false (by omega)] at h
  · rwa [show stands K j = true from decide_eq_true (Or.inr z2)] at h
theorem cvA {K M : Nat → Nat} {P : Nat → Int32} {V : Nat} {kf pf nf : Nat → Int32} (hT : Toks K M V) (hC : TokC K M P V kf pf nf) {le fl fp : Int32} (hf : ¬ fl = 0) {post : Int32 → Int32 → Int32 → Int32 → Int32 → Int32 → (Nat → Int32) → Prop} : ∀ m d v i x1 x2 x3 x4 tp tn va, v ≤ V → V < v + d → V - v + 1 ≤ m → i < v → ((sVals K d v).2 = true → ∀ tp tn va, post 1 (nI (sVals K d v).1) tp tn fl fp va) → ((sVals K d v).2 = false → ∀ tp tn va, post 0 (nI (sVals K d v).1) tp tn fl fp va) → wp_Tr_readCurveValues_27 le pf kf nf post m x1 x2 x3 x4 (nI i) (nI v) tp tn fl fp va := by
  have hV := hT.1
  intro m
  induction m with
  | zero => intro d v i x1 x2 x3 x4 tp tn va hv hd hm; omega
  | succ m ih =>
    intro d v i x1 x2 x3 x4 tp tn va hv hd hm hi h1 h0
    cases d with
    | zero => omega
    | succ d =>
      rw [wp_Tr_readCurveValues_27]
      rw [sVals] at h1 h0
      refine br_f (nI_ge (b := 600) (by omega) (by omega)) (aValueStands_ok hT hC hv ?_)
      rw [i01_0]
      refine ⟨fun hs => ?_, fun hs => ?_⟩
      · rw [if_neg (by rw [hs]; decide)] at h1
        unfold wp_Tr_readCurveValues_104 wp_Tr_readCurveValues_127
        exact ⟨fun _ => h1 rfl _ _ _, fun _ => ⟨vp_in_nI (by omega) (by omega), note1 hf (h1 rfl _ _ _)⟩⟩
      · have hs := not_true hs
        rw [if_pos hs] at h1 h0
        have hvl := sVal_le hT hv
        refine ctakeValue_ok hT hC hv (fun z => bn1 (by decide) ?_) (fun z tp tn => bn0 rfl ?_)
        · rw [if_pos z] at h1 h0
          have hlt := hvl.2.2 z
          have go : ∀ x1 x2 x3 x4 tp tn va, wp_Tr_readCurveValues_27 le pf kf nf post m x1 x2 x3 x4 (nI (i + 1)) (nI (sVal K v).1) tp tn fl fp va := fun x1 x2 x3 x4 tp tn va => ih d _ (i + 1) x1 x2 x3 x4 tp tn va hvl.1 (by omega) (by omega) (by omega) h1 h0
          have stp : ∀ t, wp_Tr_readCurveValues_73 le pf kf nf post (fun x1 x2 x3 x4 x5 f_next f_takenPlace f_takenNumber f_fault f_faultPlace f_terms_values => wp_Tr_readCurveValues_27 le pf kf nf post m x1 x2 x3 x4 x5 f_next f_takenPlace f_takenNumber f_fault f_faultPlace f_terms_values) x1 x2 x4 (nI i) t (nI (sVal K v).1) (P v) (iI (vVal K M v)) fl fp va := by
            intro t
            unfold wp_Tr_readCurveValues_73
            rw [nI_1]
            exact noteIf_A hf (kv0 hf (go _ _ _ _ _ _ _))
          unfold wp_Tr_readCurveValues_68
          exact ⟨fun _ => stp 1, fun _ => ⟨fun _ => stp 0, fun _ => stp 1⟩⟩
        · rw [if_neg (by rw [z]; decide)] at h0
          exact h0 z _ _ _
theorem getD_append_left {α : Type} {l r : List α} {a : Nat} {x : α} (h : a < l.length) : (l ++ r).getD a x = l.getD a x := by
  rw [List.getD_eq_getElem?_getD, List.getD_eq_getElem?_getD, List.getElem?_append_left h]
theorem getD_last {α : Type} {l : List α} {y x : α} : (l ++ [y]).getD l.length x = y := by
  rw [List.getD_eq_getElem?_getD, List.getElem?_append_right (Nat.le_refl _)]
  simp
theorem cvB {K M : Nat → Nat} {P : Nat → Int32} {V : Nat} {kf pf nf : Nat → Int32} (hT : Toks K M V) (hC : TokC K M P V kf pf nf) {L most : Nat} (hL : L < 30) (hmo : most ≤ 10) {fp : Int32} {hs : List Int} {tot : Option (Int32 × Int32)} {va0 : Nat → Int32} {post : Int32 → Int32 → Int32 → Int32 → Int32 → Int32 → (Nat → Int32) → Prop} : ∀ m d v i pre last rise tp tn va, v ≤ V → V < v + d → V - v + 1 ≤ m → i < v → 0 < pre.length → pre.length ≤ most → -99999 ≤ last → last ≤ 99999 → -199998 ≤ rise → rise ≤ 199998 → (∀ x, x < 10 * L → va x = va0 x) → (∀ a, a < pre.length → va (10 * L + a) = iI (pre.getD a 0)) → pre ++ vLst K M d v = hs → vF K M P most d v pre.length last rise = tot →
    ((sVals K d v).2 = true → ∀ c p, tot = some (c, p) → ∀ tp tn va, post 1 (nI (sVals K d v).1) tp tn c p va) → ((sVals K d v).2 = true → tot = none → hs.length = most → ∀ tp tn va, (∀ x, x < 10 * L → va x = va0 x) → (∀ a, a < hs.length → va (10 * L + a) = iI (hs.getD a 0)) → post 1 (nI (sVals K d v).1) tp tn 0 fp va) → ((sVals K d v).2 = false → ∀ tp tn fl fp va, post 0 (nI (sVals K d v).1) tp tn fl fp va) → wp_Tr_readCurveValues_27 (nI (L + 1)) pf kf nf post m (nI most) (iI last) (iI rise) (nI pre.length) (nI i) (nI v) tp tn 0 fp va := by
  have hV := hT.1
  intro m
  induction m with
  | zero => intro d v i pre last rise tp tn va hv hd hm; omega
  | succ m ih =>
    intro d v i pre last rise tp tn va hv hd hm hi hp0 hpm la1 la2 ri1 ri2 hva0 hva hpre htot hA h1 h0
    cases d with
    | zero => omega
    | succ d =>
      rw [wp_Tr_readCurveValues_27]
      rw [vF] at htot
      rw [vLst] at hpre
      refine br_f (nI_ge (b := 600) (by omega) (by omega)) (aValueStands_ok hT hC hv ?_)
      rw [i01_0]
      refine ⟨fun hst => ?_, fun hst => ?_⟩
      · have hst' : ¬ stands K v = true := by rw [hst]; decide
        rw [sVals, if_neg hst'] at hA h1
        rw [if_neg hst'] at htot hpre
        rw [List.append_nil] at hpre
        unfold wp_Tr_readCurveValues_104 wp_Tr_readCurveValues_127
        rw [nI_leI (by omega) (by omega)]
        refine ⟨fun z => ?_, fun z => ⟨vp_in_nI (by omega) (by omega), note0 ?_⟩⟩
        · rw [if_neg (by omega)] at htot
          subst hpre
          exact h1 rfl htot.symm (by omega) _ _ _ hva0 hva
        · rw [if_pos (by omega)] at htot
          rw [nI_clamp (by omega), (hC v hv).2.1]
          exact hA rfl _ _ htot.symm _ _ _
      · have hst := not_true hst
        rw [if_pos hst] at htot hpre
        rw [sVals, if_pos hst] at hA h1 h0
        have hvl := sVal_le hT hv
        have vb := vVal_bd hT v
        refine ctakeValue_ok hT hC hv (fun z => bn1 (by decide) ?_) (fun z tp tn => bn0 rfl ?_)
        · rw [if_pos z] at hA h1 h0
          have hlt := hvl.2.2 z
          rw [nI_leI (by omega) (by omega), iI_sub, iI_le ⟨by omega, by omega⟩ ⟨by omega, by omega⟩]
          have bad : (most ≤ pre.length ∨ 0 < pre.length ∧ rise < vVal K M v - last) → wp_Tr_readCurveValues_68 (nI (L + 1)) pf kf nf post (fun x1 x2 x3 x4 x5 f_next f_takenPlace f_takenNumber f_fault f_faultPlace f_terms_values => wp_Tr_readCurveValues_27 (nI (L + 1)) pf kf nf post m x1 x2 x3 x4 x5 f_next f_takenPlace f_takenNumber f_fault f_faultPlace f_terms_values) (nI most) (iI last) (nI pre.length) (nI i) (nI (sVal K v).1) (P v) (iI (vVal K M v)) 0 fp va := by
            intro hb
            rw [if_pos hb] at htot
            unfold wp_Tr_readCurveValues_68 wp_Tr_readCurveValues_73
            rw [nI_1, nI_1]
            refine noteIf_yes (kv0 (by decide) ?_)
            exact cvA hT hC (by decide) m d _ (i + 1) _ _ _ _ _ _ _ hvl.1 (by omega) (by omega) (by omega) (fun q tp tn va => hA q _ _ htot.symm _ _ _) (fun q tp tn va => h0 q _ _ _ _ _)
          refine ⟨fun q => bad (Or.inl q), fun q => ⟨fun q2 => ?_, fun q2 => bad (Or.inr ⟨hp0, by omega⟩)⟩⟩
          rw [if_neg (by omega)] at htot
          unfold wp_Tr_readCurveValues_73
          rw [nI_1, nI_1, iI_sub]
          refine noteIf_no (kv1 hL (by omega) ?_)
          have := ih d (sVal K v).1 (i + 1) (pre ++ [vVal K M v]) (vVal K M v) (vVal K M v - last) (P v) (iI (vVal K M v)) (upd va (10 * L + pre.length) (iI (vVal K M v))) hvl.1 (by omega) (by omega) (by omega) (by simp) (by simp; omega) vb.1 vb.2 (by omega) (by omega) (fun x hx => by rw [pk_un (by omega)]; exact hva0 x hx) (fun a ha => by
            rw [List.length_append, List.length_singleton] at ha
            by_cases q9 : a = pre.length
            · subst q9
              rw [pk_us, getD_last]
            · rw [pk_un (by omega), getD_append_left (by omega)]
              exact hva a (by omega)) (by rw [← hpre, List.append_assoc]; rfl) (by rw [List.length_append, List.length_singleton]; exact htot) hA h1 h0
          rw [List.length_append, List.length_singleton] at this
          exact this
        · rw [if_neg (by rw [z]; decide)] at h0
          exact h0 z _ _ _ _ _
theorem elF_lt {n : Nat} {M : Nat → Nat} {P : Nat → Int32} : ∀ c v s, s < 2 ^ n → (elF n M P c v s).2 < 2 ^ n := by
  intro c
  induction c with
  | zero => intro v s hs; exact hs
  | succ c ih =>
    intro v s hs
    rw [elF]
    split
    · exact hs
    · next h => exact ih _ _ (or_lt hs (Nat.pow_lt_pow_right (by decide) (by omega)))
theorem elF_mono {n : Nat} {M : Nat → Nat} {P : Nat → Int32} : ∀ c v s, subs s (elF n M P c v s).2 := by
  intro c
  induction c with
  | zero => intro v s; exact subs_refl s
  | succ c ih =>
    intro v s
    rw [elF]
    split
    · exact subs_refl s
    · exact subs_trans (subs_or_l _ _) (ih _ _)
theorem vLst_yes {K M : Nat → Nat} {d v : Nat} (h : stands K v = true) : vLst K M (d + 1) v = vVal K M v :: vLst K M d (sVal K v).1 := by rw [vLst, if_pos h]
theorem bitCount_any {x : Int32} {post : Int32 → Prop} (h : ∀ r, post r) : wp_In_bitCount_0 post x := by
  unfold wp_In_bitCount_0
  exact h _
theorem and_two_zero {s x : Nat} (hs : s < 1024) (hx : x < 10) : nI s &&& nI (2 ^ x) = 0 ↔ s.testBit x = false := by
  have := nI_bit hs hx
  rwa [nI_sh hx] at this
theorem pop_pos_or {s x : Nat} (hx : x < 10) : 0 < pop (s ||| 2 ^ x) := by
  have h1 : subs (2 ^ x) (s ||| 2 ^ x) := subs_or_r _ _
  have h2 := pop_mono h1
  have h3 : 0 < pop (2 ^ x) := by
    have := pop_lt (subs_zero (2 ^ x)) (two_lt hx) (by have := Nat.two_pow_pos x; omega)
    rwa [pop_zero] at this
  omega
theorem ccurve_ok {K M : Nat → Nat} {P : Nat → Int32} {V : Nat} {kf pf nf : Nat → Int32} (hT : Toks K M V) (hC : TokC K M P V kf pf nf) {n j L : Nat} (hn : n < 100000) (hj : j + 1 ≤ V) (hk : K j = 3) {tp tn fl fp le : Int32} {ki is os va : Nat → Int32} (hB : fl = 0 → le = nI L ∧ L < 30 ∧ n ≤ 10) {post : Int32 → Int32 → Int32 → Int32 → Int32 → Int32 → Int32 → (Nat → Int32) → (Nat → Int32) → (Nat → Int32) → (Nat → Int32) → Prop}
    (h0 : (sTerm K V j).2 = false → ∀ tp tn fl fp le ki is os va, post 0 (nI (sTerm K V j).1) tp tn fl fp le ki is os va)
    (hA : (sTerm K V j).2 = true → ∀ tp tn fl' fp' le ki is os va, Rf n K M P V j fl fp fl' fp' → post 1 (nI (sTerm K V j).1) tp tn fl' fp' le ki is os va)
    (h1 : (sTerm K V j).2 = true → fl = 0 → tF n K M P V j = none → ∀ tp tn ki' is' os' va', Came n K M P V j L ki is os va ki' is' os' va' → post 1 (nI (sTerm K V j).1) tp tn 0 fp (nI (L + 1)) ki' is' os' va') : wp_Tr_readCurve_0 (nI n) kf pf nf post (nI (j + 1)) tp tn fl fp le ki is os va := by
  have hV := hT.1
  have htf : tF n K M P V j = match (cEl n K M P V j).1 with
    | some f => some f
    | none => vF K M P (pop (cEl n K M P V j).2) 602 (numE K V (j + 1 + 2) + 2) 0 0 0 := by
    unfold tF
    rw [if_neg (by omega)]
    exact if_neg (by omega)
  have es : sTerm K V j = sCurve K V (j + 1) := by unfold sTerm; rw [if_neg (by omega), if_neg (by omega), if_pos hk]
  have etI : tIn n K M P V j = (cEl n K M P V j).2 := by unfold tIn; rw [if_neg (by omega)]
  have etV : tVs K M V j = vLst K M 602 (numE K V (j + 1 + 2) + 2) := by unfold tVs; rw [if_neg (by omega), if_neg (by omega)]; rfl
  have etO : tOut K M j = 0 := by unfold tOut; rw [if_neg (by omega)]
  rw [es] at h0 hA h1
  unfold sCurve at h0 hA h1
  unfold cEl at htf etI
  have same : ¬ fl = 0 → Rf n K M P V j fl fp fl fp := fun hf => ⟨hf, fun _ => ⟨rfl, rfl⟩, fun z => absurd z hf⟩
  unfold wp_Tr_readCurve_0 wp_Tr_readCurve_17
  refine take_ok hT hC hj 9 (by decide) rfl (fun z9 => br_f (by decide) ?_) (fun z9 => br_t rfl ?_)
  · have l1 := hT.lt hj z9 (by decide) (by decide)
    rw [if_pos z9] at h0 hA h1
    refine take_ok hT hC (by omega) 4 (by decide) rfl (fun z4 => bn1 (by decide) ?_) (fun z4 => bn0 rfl ?_)
    · have l2 := hT.lt (by omega) z4 (by decide) (by decide)
      rw [if_pos z4] at h0 hA h1
      have hel := numE_le (j := j + 1 + 2) hT (by omega)
      have hen := numE_not (j := j + 1 + 2) hT (by omega)
      have hey := numE_yes (K := K) (V := V) (j := j + 1 + 2) (by omega)
      generalize hee : numE K V (j + 1 + 2) = e at *
      have hst : (sVal K (e + 2)).2 = true → stands K (e + 2) = true := by
        intro zv
        unfold sVal at zv
        by_cases q : K (e + 2) = 8
        · exact decide_eq_true (Or.inr q)
        · rw [if_neg q] at zv
          by_cases q4 : K (e + 2) = 4
          · exact decide_eq_true (Or.inl q4)
          · rw [if_neg q4] at zv; cases zv
      -- behind the elements
      have tail : ∀ x1 tp tn fl1 fp1, (Rf n K M P V j fl fp fl1 fp1 ∨ (fl1 = 0 ∧ fl = 0 ∧ fp1 = fp ∧ ∃ s, x1 = nI s ∧ 0 < pop s ∧ elF n M P (e - (j + 1 + 1)) (j + 1 + 1) 0 = (none, s))) → wp_Tr_readCurve_72 (nI n) kf pf nf post x1 (nI e) tp tn fl1 fp1 le ki is os va := by
        intro x1 tp tn fl1 fp1 hm
        unfold wp_Tr_readCurve_72 wp_Tr_readCurve_90
        refine take_ok hT hC hel.1 10 (by decide) rfl (fun z10 => br_f (by decide) ?_) (fun z10 => br_t rfl (by rw [if_neg z10] at h0; exact h0 rfl _ _ _ _ _ _ _ _ _))
        have l3 := hT.lt hel.1 z10 (by decide) (by decide)
        rw [if_pos z10] at h0 hA h1
        refine take_ok hT hC (by omega) 6 (by decide) rfl (fun z6 => bn1 (by decide) ?_) (fun z6 => bn0 rfl (by rw [if_neg z6] at h0; exact h0 rfl _ _ _ _ _ _ _ _ _))
        have l4 := hT.lt (by omega) z6 (by decide) (by decide)
        rw [if_pos z6] at h0 hA h1
        have hvl := sVal_le (j := e + 2) hT (by omega)
        rcases hm with hr | ⟨e1, e2, e3, s, e4, e5, e6⟩
        · refine kt0 hr.1 (bitCount_any (fun r => ?_))
          unfold wp_Tr_readCurveValues_0
          refine ctakeValue_ok (j := e + 2) hT hC (by omega) (fun zv => bn1 (by decide) (kv0 hr.1 ⟨V + 1, ?_⟩)) (fun zv tp tn => bn0 rfl ⟨nb0, ?_⟩)
          · rw [if_pos zv] at h0 hA
            have := hvl.2.2 zv
            exact cvA hT hC hr.1 (V + 1) 601 _ 0 _ _ _ _ _ _ _ hvl.1 (by omega) (by omega) (by omega) (fun q tp tn va => ⟨nb1, hA q _ _ _ _ _ _ _ _ _ hr⟩) (fun q tp tn va => ⟨nb0, h0 q _ _ _ _ _ _ _ _ _⟩)
          · rw [if_neg (by rw [zv]; decide)] at h0
            exact h0 zv _ _ _ _ _ _ _ _ _
        · obtain ⟨q1, q2, q3⟩ := hB e2
          have hsn : s < 2 ^ n := by
            have := elF_lt (n := n) (M := M) (P := P) (e - (j + 1 + 1)) (j + 1 + 1) 0 (Nat.two_pow_pos n)
            rwa [e6] at this
          have h1024 := two_le q3
          have hsp := pop_le s
          rw [e6] at htf etI
          dsimp only at htf etI
          subst e1; subst e3; subst q1; subst e4
          refine kt1 q2 (bitCount_ok (by omega) ?_)
          unfold wp_Tr_readCurveValues_0
          refine ctakeValue_ok (j := e + 2) hT hC (by omega) (fun zv => bn1 (by decide) (kv1 (a := 0) q2 (by decide) ⟨V + 1, ?_⟩)) (fun zv tp tn => bn0 rfl ⟨nb0, ?_⟩)
          · rw [if_pos zv] at h0 hA h1
            have hst := hst zv
            have := hvl.2.2 zv
            have vb := vVal_bd hT (e + 2)
            rw [vF, if_pos hst, if_neg (by omega), Int.sub_zero] at htf
            have hvs : [vVal K M (e + 2)] ++ vLst K M 601 (sVal K (e + 2)).1 = tVs K M V j := by
              rw [etV]
              exact (vLst_yes (d := 601) hst).symm
            refine cvB hT hC (L := L) (most := pop s) (fp := fp1) (hs := tVs K M V j) (tot := tF n K M P V j) (va0 := va) q2 (by omega) (V + 1) 601 (sVal K (e + 2)).1 0 [vVal K M (e + 2)] (vVal K M (e + 2)) (vVal K M (e + 2)) _ _ _ hvl.1 (by omega) (by omega) (by omega) (by simp) e5 vb.1 vb.2 (by omega) (by omega) (fun x hx => pk_un (by omega)) (fun a ha => ?_) hvs htf.symm (fun q c p hc tp tn va => ⟨nb1, hA q _ _ _ _ _ _ _ _ _ ⟨?_, fun z => absurd e2 z, fun _ => hc⟩⟩) (fun q hc hlen tp tn va' hv0 hv1 => ⟨nb1, h1 q e2 hc _ _ _ _ _ _ ?_⟩) (fun q tp tn fl fp va => ⟨nb0, h0 q _ _ _ _ _ _ _ _ _⟩)
            · have : a = 0 := by simpa using ha
              subst this
              rw [pk_us]
              rfl
            · rcases tF_code hc with q0 | q0 <;> rw [q0] <;> decide
            · exact ⟨by rw [hk]; rfl, by rw [etI], by rw [etO]; rfl, hv0, hv1, by omega⟩
          · rw [if_neg (by rw [zv]; decide)] at h0
            exact h0 zv _ _ _ _ _ _ _ _ _
      have loop : ∀ c v i x1 tp tn fl1 fp1, v + c = e → i < v → j + 1 + 2 ≤ v → (Rf n K M P V j fl fp fl1 fp1 ∨ (fl1 = 0 ∧ fl = 0 ∧ fp1 = fp ∧ ∃ s, x1 = nI s ∧ 0 < pop s ∧ s < 2 ^ n ∧ elF n M P c v s = elF n M P (e - (j + 1 + 1)) (j + 1 + 1) 0)) → wp_Tr_readCurve_26 (nI n) kf pf nf post (c + 1) x1 (nI i) (nI v) tp tn fl1 fp1 le ki is os va := by
        intro c
        induction c with
        | zero =>
          intro v i x1 tp tn fl1 fp1 hve hi hjv hm
          have : v = e := by omega
          subst this
          rw [wp_Tr_readCurve_26]
          refine br_f (nI_ge (b := 600) (by omega) (by omega)) (take_ok hT hC hel.1 4 (by decide) rfl (fun z => absurd z hen) (fun z => br_t rfl (tail _ _ _ _ _ ?_)))
          rcases hm with hr | ⟨e1, e2, e3, s, e4, e5, e6, e7⟩
          · exact Or.inl hr
          · exact Or.inr ⟨e1, e2, e3, s, e4, e5, e7.symm⟩
        | succ c ih =>
          intro v i x1 tp tn fl1 fp1 hve hi hjv hm
          have hv4 : K v = 4 := hey v hjv (by omega)
          have mv := hT.2.2.2.2 v
          rw [wp_Tr_readCurve_26]
          refine br_f (nI_ge (b := 600) (by omega) (by omega)) (take_ok hT hC (by omega) 4 (by decide) rfl (fun z => br_f (by decide) ?_) (fun z => absurd hv4 z))
          unfold wp_Tr_readCurve_58
          rw [nI_1]
          rcases hm with hr | ⟨e1, e2, e3, s, e4, e5, e6, e7⟩
          · have go : ∀ x1 tp tn t r, wp_Tr_noteIf_0 (P v) (fun f_fault_59 f_faultPlace_59 => wp_Tr_readCurve_26 (nI n) kf pf nf post (c + 1) (x1 ||| r) (nI (i + 1)) (nI (v + 1)) tp tn f_fault_59 f_faultPlace_59 le ki is os va) t 3 fl1 fp1 := fun x1 tp tn t r => noteIf_A hr.1 (ih (v + 1) (i + 1) _ _ _ _ _ (by omega) (by omega) (by omega) (Or.inl hr))
            refine takenElement_ok hn mv (fun _ _ => ⟨fun _ => go _ _ _ _ _, fun _ => go _ _ _ _ _⟩) (fun _ q => absurd q hr.1) (fun _ _ => ⟨fun _ => go _ _ _ _ _, fun _ => go _ _ _ _ _⟩)
          · obtain ⟨q1, q2, q3⟩ := hB e2
            have h1024 := two_le q3
            subst e1; subst e3; subst e4
            rw [elF] at e7
            refine takenElement_ok hn mv (fun hx hx10 => ?_) (fun hx _ => ?_) (fun _ q => absurd rfl q)
            · rw [and_two_zero (by omega) hx10]
              refine ⟨fun hb => noteIf_no ?_, fun hb => noteIf_yes ?_⟩
              · rw [nI_or]
                rw [if_neg (by rw [hb]; simp; omega)] at e7
                exact ih (v + 1) (i + 1) _ _ _ _ _ (by omega) (by omega) (by omega) (Or.inr ⟨rfl, e2, rfl, _, rfl, pop_pos_or hx10, or_lt e6 (Nat.pow_lt_pow_right (by decide) hx), e7⟩)
              · rw [if_pos (Or.inr (not_true hb))] at e7
                refine ih (v + 1) (i + 1) _ _ _ _ _ (by omega) (by omega) (by omega) (Or.inl ⟨by decide, fun z => absurd e2 z, fun _ => ?_⟩)
                rw [htf, ← e7]
            · rw [if_pos (Or.inl (by omega))] at e7
              have hr : Rf n K M P V j fl fp1 3 (P v) := ⟨by decide, fun z => absurd e2 z, fun _ => by rw [htf, ← e7]⟩
              have go : ∀ x1 tp tn t r, wp_Tr_noteIf_0 (P v) (fun f_fault_59 f_faultPlace_59 => wp_Tr_readCurve_26 (nI n) kf pf nf post (c + 1) (x1 ||| r) (nI (i + 1)) (nI (v + 1)) tp tn f_fault_59 f_faultPlace_59 le ki is os va) t 3 3 (P v) := fun x1 tp tn t r => noteIf_A (by decide) (ih (v + 1) (i + 1) _ _ _ _ _ (by omega) (by omega) (by omega) (Or.inl hr))
              exact ⟨fun _ => go _ _ _ _ _, fun _ => go _ _ _ _ _⟩
      have mv := hT.2.2.2.2 (j + 1 + 1)
      have ee : e - (j + 1 + 1) = (e - (j + 1 + 2)) + 1 := by omega
      refine takenElement_ok hn mv (fun hx hx10 => ⟨e - (j + 1 + 2) + 1, loop _ (j + 1 + 2) 0 _ _ _ _ _ (by omega) (by omega) (Nat.le_refl _) ?_⟩) (fun hx hf => ⟨e - (j + 1 + 2) + 1, loop _ (j + 1 + 2) 0 _ _ _ _ _ (by omega) (by omega) (Nat.le_refl _) (Or.inl ?_)⟩) (fun hx hf => ⟨e - (j + 1 + 2) + 1, loop _ (j + 1 + 2) 0 _ _ _ _ _ (by omega) (by omega) (Nat.le_refl _) (Or.inl (same hf))⟩)
      · by_cases hf : fl = 0
        · refine Or.inr ⟨hf, hf, rfl, 2 ^ M (j + 1 + 1), rfl, ?_, Nat.pow_lt_pow_right (by decide) hx, ?_⟩
          · have := pop_pos_or (s := 0) hx10
            rwa [Nat.zero_or] at this
          · rw [ee, elF, if_neg (by simp; omega), Nat.zero_or]
        · exact Or.inl (same hf)
      · have hn10 := (hB hf).2.2
        refine ⟨by decide, fun z => absurd hf z, fun _ => ?_⟩
        rw [htf, ee, elF, if_pos (Or.inl (by omega))]
    · rw [if_neg z4] at h0
      exact h0 rfl _ _ _ _ _ _ _ _ _
  · rw [if_neg z9] at h0
    exact h0 rfl _ _ _ _ _ _ _ _ _
theorem cterm_ok {K M : Nat → Nat} {P : Nat → Int32} {V : Nat} {kf pf nf : Nat → Int32} (hT : Toks K M V) (hC : TokC K M P V kf pf nf) {n j L : Nat} (hn : n < 100000) (hj : j ≤ V) {tp tn fl fp le : Int32} {ki is os va : Nat → Int32} (hB : fl = 0 → le = nI L ∧ L < 30 ∧ n ≤ 10) {post : Int32 → Int32 → Int32 → Int32 → Int32 → Int32 → Int32 → (Nat → Int32) → (Nat → Int32) → (Nat → Int32) → (Nat → Int32) → Prop}
    (h0 : (sTerm K V j).2 = false → ∀ tp tn fl fp le ki is os va, post 0 (nI (sTerm K V j).1) tp tn fl fp le ki is os va)
    (hA : (sTerm K V j).2 = true → ∀ tp tn fl' fp' le ki is os va, Rf n K M P V j fl fp fl' fp' → post 1 (nI (sTerm K V j).1) tp tn fl' fp' le ki is os va)
    (h1 : (sTerm K V j).2 = true → fl = 0 → tF n K M P V j = none → ∀ tp tn ki' is' os' va', Came n K M P V j L ki is os va ki' is' os' va' → post 1 (nI (sTerm K V j).1) tp tn 0 fp (nI (L + 1)) ki' is' os' va') : wp_Tr_readTerm_0 (nI n) kf pf nf post (nI j) tp tn fl fp le ki is os va := by
  unfold wp_Tr_readTerm_0 wp_Tr_readTerm_45 wp_Tr_readTerm_46
  refine take_ok hT hC hj 1 (by decide) rfl (fun z => br_f (by decide) ?_) (fun z1 => br_t rfl ?_)
  · have l := hT.lt hj z (by decide) (by decide)
    exact cweight_ok hT hC hn (by omega) z hB (fun q tp tn fl fp le ki is os va => ⟨nb0, h0 q _ _ _ _ _ _ _ _ _⟩) (fun q tp tn fl' fp' le ki is os va r => ⟨nb1, hA q _ _ _ _ _ _ _ _ _ r⟩) (fun q a b tp tn ki' is' os' va' c => ⟨nb1, h1 q a b _ _ _ _ _ _ c⟩)
  · refine take_ok hT hC hj 2 (by decide) rfl (fun z => br_f (by decide) ?_) (fun z2 => br_t rfl ?_)
    · have l := hT.lt hj z (by decide) (by decide)
      exact carc_ok hT hC hn (by omega) z hB (fun q tp tn fl fp le ki is os va => ⟨nb0, h0 q _ _ _ _ _ _ _ _ _⟩) (fun q tp tn fl' fp' le ki is os va r => ⟨nb1, hA q _ _ _ _ _ _ _ _ _ r⟩) (fun q a b tp tn ki' is' os' va' c => ⟨nb1, h1 q a b _ _ _ _ _ _ c⟩)
    · refine take_ok hT hC hj 3 (by decide) rfl (fun z => br_f (by decide) ?_) (fun z3 => br_t rfl ⟨nb0, ?_⟩)
      · have l := hT.lt hj z (by decide) (by decide)
        exact ccurve_ok hT hC hn (by omega) z hB (fun q tp tn fl fp le ki is os va => br_t rfl ⟨nb0, h0 q _ _ _ _ _ _ _ _ _⟩) (fun q tp tn fl' fp' le ki is os va r => br_f (by decide) ⟨nb1, hA q _ _ _ _ _ _ _ _ _ r⟩) (fun q a b tp tn ki' is' os' va' c => br_f (by decide) ⟨nb1, h1 q a b _ _ _ _ _ _ c⟩)
      · have es : sTerm K V j = (j, false) := by unfold sTerm; rw [if_neg z1, if_neg z2, if_neg z3]
        rw [es] at h0
        exact h0 rfl _ _ _ _ _ _ _ _ _
