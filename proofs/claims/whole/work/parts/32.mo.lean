/-! The reference's own functions of sets. Own work. -/
theorem nb0 : narrow .boolean (.int (0 : Int32)) = .int 0 := rfl
theorem nb1 : narrow .boolean (.int (1 : Int32)) = .int 1 := rfl
theorem has_ok {s x : Nat} (hs : s < 2147483648) (hx : x < 32) {post : Int32 → Prop} (h : post (if s.testBit x = true then 1 else 0)) : wp_Mo_has_0 post (nI s) (nI x) := by
  unfold wp_Mo_has_0 wp_Mo_has_14
  have e1 : nI (s / 2 ^ x) &&& 1 = nI (if s.testBit x = true then 1 else 0) := by
    rw [show (1 : Int32) = nI 1 from rfl, nI_and, Nat.and_one_is_mod, div_bit]
  rw [nI_shr hs hx, e1]
  cases hb : s.testBit x
  · rw [hb] at h
    refine ⟨fun _ => ⟨nb0, by simpa using h⟩, fun hc => ?_⟩
    exact absurd hc (by decide)
  · rw [hb] at h
    refine ⟨fun hc => ?_, fun _ => ⟨nb1, by simpa using h⟩⟩
    exact absurd rfl hc
def popn (s k : Nat) : Nat := ((List.range k).filter (fun x => s.testBit x)).length
theorem popn_succ (s k : Nat) : popn s (k + 1) = popn s k + if s.testBit k = true then 1 else 0 := by
  unfold popn
  rw [List.range_succ, List.filter_append, List.length_append]
  cases h : s.testBit k <;> simp [h]
theorem popn_le (s k : Nat) : popn s k ≤ k := by
  unfold popn
  exact Nat.le_trans (List.length_filter_le _ _) (by simp)
theorem sizeOf_ok {s : Nat} (hs : s < 2147483648) {post : Int32 → Prop} (h : post (nI (pop s))) : wp_Mo_sizeOf_0 post (nI s) := by
  have loop : ∀ d i, i + d = 10 → wp_Mo_sizeOf_4 post (d + 1) (nI s) (nI (popn s i)) (nI i) := by
    intro d
    induction d with
    | zero =>
      intro i hi
      rw [wp_Mo_sizeOf_4]
      have : i = 10 := by omega
      subst this
      exact br_t (nI_le (a := 10) (Nat.le_refl _) (by omega)) h
    | succ d ih =>
      intro i hi
      rw [wp_Mo_sizeOf_4]
      have ih := ih (i + 1) (by omega)
      rw [popn_succ] at ih
      refine br_f (nI_ge (b := 10) (by omega) (by omega)) (has_ok hs (by omega) ?_)
      cases hb : s.testBit i
      · rw [hb] at ih
        refine ⟨fun _ => ?_, fun hc => absurd rfl hc⟩
        rw [wp_Mo_sizeOf_25, nI_1]
        exact ih
      · rw [hb] at ih
        refine ⟨fun hc => absurd hc (by decide), fun _ => ?_⟩
        rw [wp_Mo_sizeOf_25, nI_1, nI_1]
        exact ih
  unfold wp_Mo_sizeOf_0
  exact ⟨11, loop 10 0 rfl⟩
def sumV (w : Nat → Int) (s : Nat) : Nat → Int
  | 0 => 0
  | x + 1 => sumV w s x + if s.testBit x = true then w x else 0
theorem sumV_bd {w : Nat → Int} {s B : Nat} (hw : ∀ x, -(B : Int) ≤ w x ∧ w x ≤ B) : ∀ k, -((k * B : Nat) : Int) ≤ sumV w s k ∧ sumV w s k ≤ ((k * B : Nat) : Int) := by
  intro k
  induction k with
  | zero => simp [sumV]
  | succ k ih =>
    have := hw k
    rw [sumV, Nat.succ_mul]
    split <;> omega
theorem sumOf_ok {n s : Nat} (hn : n ≤ 10) (hs : s < 2147483648) {w : Nat → Int} {f : Nat → Int32} (hf : ∀ x, x < n → f x = iI (w x)) {post : Int32 → Prop} (h : post (iI (sumV w s n))) : wp_Mo_sumOf_0 (nI n) f post (nI s) := by
  have loop : ∀ d i, i + d = n → wp_Mo_sumOf_4 (nI n) f post (d + 1) (nI s) (iI (sumV w s i)) (nI i) := by
    intro d
    induction d with
    | zero =>
      intro i hi
      rw [wp_Mo_sumOf_4]
      have : i = n := by omega
      subst this
      exact br_t (nI_le (Nat.le_refl _) (by omega)) h
    | succ d ih =>
      intro i hi
      rw [wp_Mo_sumOf_4]
      have ih := ih (i + 1) (by omega)
      rw [sumV] at ih
      refine br_f (nI_ge (by omega) (by omega)) (has_ok hs (by omega) ?_)
      cases hb : s.testBit i
      · rw [hb] at ih
        refine ⟨fun _ => ?_, fun hc => absurd rfl hc⟩
        rw [wp_Mo_sumOf_32, nI_1]
        simpa using ih
      · rw [hb] at ih
        refine ⟨fun hc => absurd hc (by decide), fun _ => ⟨vp_in_nI (by omega) (by omega), ?_⟩⟩
        rw [wp_Mo_sumOf_32, nI_1, nI_clamp (by omega), hf i (by omega), iI_add]
        simpa using ih
  unfold wp_Mo_sumOf_0
  exact ⟨n + 1, loop n 0 (by omega)⟩
theorem isSet_ok {n : Nat} (hn : n ≤ 10) {x : Int32} {post : Int32 → Prop} (h1 : ∀ s : Nat, s < 2 ^ n → x = nI s → post 1) (h0 : (¬ ∃ s : Nat, s < 2 ^ n ∧ x = nI s) → post 0) : wp_Mo_isSet_0 (nI n) post x := by
  have hN : 2 ^ n ≤ 1024 := Nat.le_trans (Nat.pow_le_pow_right (by decide) hn) (by decide)
  have hN0 : 0 < 2 ^ n := Nat.two_pow_pos n
  unfold wp_Mo_isSet_0 wp_Mo_isSet_18 wp_Mo_isSet_19
  rw [nI_sh1 n (by omega)]
  generalize 2 ^ n = N at *
  rcases pk_ix x (n := N) (by omega) with h | h | ⟨s, hs, rfl⟩
  · refine br_t h ⟨nb0, h0 (fun ⟨s, hs, e⟩ => ?_)⟩
    rw [e] at h
    exact nI_pos (by omega) h
  · have hx0 : ¬ x < 0 := by
      intro z
      rw [Int32.lt_iff_toInt_lt, Int32.toInt_zero] at z
      rw [Int32.le_iff_toInt_le, nI_toInt (by omega)] at h
      omega
    refine br_f hx0 (br_t h ⟨nb0, h0 (fun ⟨s, hs, e⟩ => ?_)⟩)
    rw [e] at h
    exact nI_ge hs (by omega) h
  · exact br_f (nI_pos (by omega)) (br_f (nI_ge hs (by omega)) ⟨nb1, h1 s hs rfl⟩)
/-- have all of p and none of q, as the reference asks it -/
theorem betw_iff {p q j : Nat} (h : p &&& q = 0) : betw p q j ↔ (j &&& p = p ∧ j &&& q = 0) := by
  have bit : ∀ i, ¬ (p.testBit i = true ∧ q.testBit i = true) := by
    intro i ⟨h1, h2⟩
    have := congrArg (fun z => Nat.testBit z i) h
    simp [h1, h2] at this
  constructor
  · intro (hb : j &&& (p ||| q) = p)
    have hb' : ∀ i, (j.testBit i && (p.testBit i || q.testBit i)) = p.testBit i := fun i => by
      have := congrArg (fun z => Nat.testBit z i) hb
      simpa using this
    refine ⟨Nat.eq_of_testBit_eq (fun i => ?_), Nat.eq_of_testBit_eq (fun i => ?_)⟩
    · have h1 := hb' i
      rw [Nat.testBit_and]
      cases hp : p.testBit i <;> cases hj : j.testBit i <;> simp_all
    · have h1 := hb' i
      have h2 := bit i
      rw [Nat.testBit_and, Nat.zero_testBit]
      cases hp : p.testBit i <;> cases hj : j.testBit i <;> cases hq : q.testBit i <;> simp_all
  · intro ⟨h1, h2⟩
    show j &&& (p ||| q) = p
    apply Nat.eq_of_testBit_eq
    intro i
    have a1 := congrArg (fun z => Nat.testBit z i) h1
    have a2 := congrArg (fun z => Nat.testBit z i) h2
    simp only [Nat.testBit_and, Nat.zero_testBit, Nat.testBit_or] at a1 a2 ⊢
    cases hp : p.testBit i <;> cases hj : j.testBit i <;> cases hq : q.testBit i <;> simp_all
/-- what the reference's scan has found so far -/
def leanSt (o : Option (Int × Nat × Nat)) (x5 x6 x7 x8 : Int32) : Prop := match o with
  | none => x8 = 0
  | some (m, M, J) => x5 = iI m ∧ x6 = nI M ∧ x7 = nI J ∧ x8 = 1 ∧ bi m ∧ M < 1024 ∧ J < 1024
def leanV (less : Bool) (a w : Nat → Int) (n j : Nat) : Int := if less = true then a j - sumV w j n else a j
theorem lean_ok {n p q : Nat} (hn : n ≤ 10) (hp : p < 2 ^ n) (hq : q < 1024) (hpq : p &&& q = 0) {a w : Nat → Int} {fa fw : Nat → Int32} (hfa : ∀ j, j < 2 ^ n → fa j = iI (a j)) (hfw : ∀ x, x < n → fw x = iI (w x)) {less : Bool} (hb : ∀ j, j < 2 ^ n → bi (leanV less a w n j)) {what : Int32} {post : Int32 → Prop}
    (h : ∀ m M J, lowF (betw p q) (leanV less a w n) (2 ^ n) = some (m, M, J) → M < 1024 → J < 1024 → post (if what = 0 then iI m else if what = 1 then nI M else nI J)) : wp_Mo_lean_0 (nI n) fa fw post what (nI p) (nI q) (if less = true then 1 else 0) := by
  have hN : 2 ^ n ≤ 1024 := Nat.le_trans (Nat.pow_le_pow_right (by decide) hn) (by decide)
  have hsh := nI_sh1 n (by omega)
  generalize hNe : 2 ^ n = N at *
  have hsome : ∃ r, lowF (betw p q) (leanV less a w n) N = some r := by
    have : ∀ k, p < k → ∃ r, lowF (betw p q) (leanV less a w n) k = some r := by
      intro k
      induction k with
      | zero => intro h; omega
      | succ k ih =>
        intro hk
        rw [lowF]
        by_cases hb : betw p q k
        · rw [if_pos hb]
          cases lowF (betw p q) (leanV less a w n) k with
          | none => exact ⟨_, rfl⟩
          | some r =>
            obtain ⟨m, M, J⟩ := r
            dsimp only
            split
            · exact ⟨_, rfl⟩
            · split <;> exact ⟨_, rfl⟩
        · rw [if_neg hb]
          refine ih ?_
          rcases Nat.lt_or_ge p k with z | z
          · exact z
          · exact absurd (by rw [show k = p by omega]; exact betw_self p q) hb
    exact this N hp
  have loop : ∀ d i x5 x6 x7 x8, i + d = N → leanSt (lowF (betw p q) (leanV less a w n) i) x5 x6 x7 x8 → wp_Mo_lean_15 (nI n) fa fw post (d + 1) what (nI p) (nI q) (if less = true then 1 else 0) x5 x6 x7 x8 (nI i) := by
    intro d
    induction d with
    | zero =>
      intro i x5 x6 x7 x8 hi hl
      rw [wp_Mo_lean_15, hsh]
      have : i = N := by omega
      subst this
      refine br_t (nI_le (Nat.le_refl _) (by omega)) ?_
      obtain ⟨⟨m, M, J⟩, hr⟩ := hsome
      rw [hr] at hl
      obtain ⟨e5, e6, e7, e8, hm, hM, hJ⟩ := hl
      have hh := h m M J hr hM hJ
      subst e5; subst e6; subst e7
      unfold wp_Mo_lean_153
      by_cases w0 : what = 0
      · rw [if_pos w0] at hh
        exact ⟨fun z => absurd w0 z, fun _ => hh⟩
      · rw [if_neg w0] at hh
        refine ⟨fun _ => ⟨fun z => ?_, fun z => ?_⟩, fun z => absurd z w0⟩
        · rw [if_neg z] at hh; exact hh
        · rw [if_pos z] at hh; exact hh
    | succ d ih =>
      intro i x5 x6 x7 x8 hi hl
      rw [wp_Mo_lean_15, hsh]
      have hia : i &&& p < 1024 := and_lt (n := 10) (by omega)
      have hiq : i &&& q < 1024 := and_lt (n := 10) (by omega)
      refine br_f (nI_ge (by omega) (by omega)) ?_
      rw [nI_and, nI_and, nI_clamp (n := i) (by omega)]
      have hbi := hb i (by omega)
      have skip : ¬ betw p q i → wp_Mo_lean_126 (nI n) fa fw post (fun (x1 : Int32) (x2 : Int32) (x3 : Int32) (x4 : Int32) (x5 : Int32) (x6 : Int32) (x7 : Int32) (x8 : Int32) (x9 : Int32) => wp_Mo_lean_15 (nI n) fa fw post (d + 1) x1 x2 x3 x4 x5 x6 x7 x8 x9) what (nI p) (nI q) (if less = true then 1 else 0) x5 x6 x7 x8 (nI i) := by
        intro hnb
        rw [wp_Mo_lean_126, nI_1]
        refine ih (i + 1) x5 x6 x7 x8 (by omega) ?_
        rw [lowF, if_neg hnb]
        exact hl
      have core : betw p q i → ∀ t, t = iI (leanV less a w n i) → wp_Mo_lean_73 (nI n) fa fw post (fun (x1 : Int32) (x2 : Int32) (x3 : Int32) (x4 : Int32) (x5 : Int32) (x6 : Int32) (x7 : Int32) (x8 : Int32) (x9 : Int32) => wp_Mo_lean_15 (nI n) fa fw post (d + 1) x1 x2 x3 x4 x5 x6 x7 x8 x9) what (nI p) (nI q) (if less = true then 1 else 0) x5 x6 x7 x8 (nI i) t := by
        intro hb9 t ht
        subst ht
        rw [wp_Mo_lean_73, wp_Mo_lean_87, wp_Mo_lean_126, wp_Mo_lean_126, wp_Mo_lean_126]
        cases hlo : lowF (betw p q) (leanV less a w n) i with
        | none =>
          rw [hlo] at hl
          have h8 : x8 = 0 := hl
          refine ⟨fun _ => ?_, fun z => absurd h8 z⟩
          rw [nI_1]
          refine ih (i + 1) _ _ _ _ (by omega) ?_
          rw [lowF, if_pos hb9, hlo]
          exact ⟨rfl, rfl, rfl, rfl, hbi, by omega, by omega⟩
        | some r =>
          obtain ⟨m, M, J⟩ := r
          rw [hlo] at hl
          obtain ⟨e5, e6, e7, e8, hm, hM, hJ⟩ := hl
          subst e5; subst e6; subst e7; subst e8
          have hst : lowF (betw p q) (leanV less a w n) (i + 1) = if leanV less a w n i < m then some (leanV less a w n i, i, i) else if leanV less a w n i = m then some (m, M &&& i, J ||| i) else some (m, M, J) := by
            rw [lowF, if_pos hb9, hlo]
          refine ⟨fun z => absurd z (by decide), fun _ => ?_⟩
          rw [iI_le hm hbi, iI_eq hbi hm, nI_1, nI_and, nI_or]
          refine ⟨fun z => ⟨fun z2 => ?_, fun z2 => ?_⟩, fun z => ?_⟩
          · refine ih (i + 1) _ _ _ _ (by omega) ?_
            rw [hst, if_neg (by omega), if_neg z2]
            exact ⟨rfl, rfl, rfl, rfl, hm, hM, hJ⟩
          · refine ih (i + 1) _ _ _ _ (by omega) ?_
            rw [hst, if_neg (by omega), if_pos z2]
            exact ⟨rfl, rfl, rfl, rfl, hm, and_lt (n := 10) hM, or_lt (n := 10) hJ (by omega)⟩
          · refine ih (i + 1) _ _ _ _ (by omega) ?_
            rw [hst, if_pos (by omega)]
            exact ⟨rfl, rfl, rfl, rfl, hbi, by omega, by omega⟩
      refine ⟨fun hc => skip (fun hb9 => hc (congrArg nI ((betw_iff hpq).mp hb9).1)), fun hc => ?_⟩
      have hc : i &&& p = p := (nI_eq (by omega) (by omega)).mp hc
      refine ⟨fun hc2 => ?_, fun hc2 => skip (fun hb9 => hc2 (congrArg nI ((betw_iff hpq).mp hb9).2))⟩
      have hc2 : i &&& q = 0 := (nI_eq (a := i &&& q) (b := 0) (by omega) (by omega)).mp hc2
      have hb9 : betw p q i := (betw_iff hpq).mpr ⟨hc, hc2⟩
      cases less with
      | false =>
        refine ⟨fun _ => ⟨vp_in_nI (by omega) (by omega), core hb9 _ ?_⟩, fun z => absurd rfl z⟩
        rw [hfa i (by omega)]
        rfl
      | true =>
        refine ⟨fun z => absurd z (by decide), fun _ => ⟨vp_in_nI (by omega) (by omega), ?_⟩⟩
        refine sumOf_ok hn (by omega) hfw (core hb9 _ ?_)
        rw [hfa i (by omega), iI_sub]
        rfl
  unfold wp_Mo_lean_0
  exact ⟨N + 1, loop N 0 0 0 0 0 (by omega) rfl⟩
