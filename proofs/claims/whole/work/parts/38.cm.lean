/-! The point and the extreme vector, in numbers alone. Own work. -/
theorem popn_stop {s n : Nat} (hs : s < 2 ^ n) : ∀ d, popn s (n + d) = popn s n := by
  intro d
  induction d with
  | zero => rfl
  | succ d ih =>
    rw [← Nat.add_assoc, popn_succ, ih]
    cases h : s.testBit (n + d)
    · rfl
    · have := bit_lt hs h; omega
theorem pop_popn {s n : Nat} (hn : n ≤ 10) (hs : s < 2 ^ n) : pop s = popn s n := by
  have := popn_stop hs (10 - n)
  rwa [show n + (10 - n) = 10 by omega] at this
theorem ChainOk.lt {F : Nat → Int} {n k : Nat} {A : Nat → Nat} (h : ChainOk F n k A) {i : Nat} (hi : i ≤ k) : A i < 2 ^ n := by
  cases i with
  | zero => rw [h.zero]; exact Nat.two_pow_pos n
  | succ i => exact (h.stp i (by omega)).lt
theorem ChainOk.mono {F : Nat → Int} {n k : Nat} {A : Nat → Nat} (h : ChainOk F n k A) {i : Nat} : ∀ d, i + d ≤ k → subs (A i) (A (i + d)) := by
  intro d
  induction d with
  | zero => intro _; exact subs_refl _
  | succ d ih => intro hd; exact subs_trans (ih (by omega)) (h.stp (i + d) (by omega)).sub
/-- x comes in at turn i -/
def inTurn (A : Nat → Nat) (i x : Nat) : Prop := (A (i + 1)).testBit x = true ∧ (A i).testBit x = false
theorem ChainOk.turn_ex {F : Nat → Int} {n k : Nat} {A : Nat → Nat} (h : ChainOk F n k A) {i x : Nat} : i ≤ k → (A i).testBit x = true → ∃ j, j < i ∧ inTurn A j x := by
  induction i with
  | zero => intro _ hx; rw [h.zero] at hx; simp at hx
  | succ i ih =>
    intro hi hx
    cases hb : (A i).testBit x
    · exact ⟨i, by omega, hx, hb⟩
    · obtain ⟨j, hj, ht⟩ := ih (by omega) hb
      exact ⟨j, by omega, ht⟩
theorem ChainOk.turn_all {F : Nat → Int} {n k : Nat} {A : Nat → Nat} (h : ChainOk F n k A) {x : Nat} (hx : x < n) : ∃ j, j < k ∧ inTurn A j x := by
  refine h.turn_ex (Nat.le_refl k) ?_
  rw [h.full, Nat.testBit_two_pow_sub_one]
  exact decide_eq_true hx
theorem ChainOk.turn_ge {F : Nat → Int} {n k : Nat} {A : Nat → Nat} (h : ChainOk F n k A) {i j x : Nat} (hj : j < k) (hx : inTurn A j x) (hi : i ≤ k) (hn : (A i).testBit x = false) : i ≤ j := by
  apply Classical.byContradiction
  intro hc
  have := h.mono (i := j + 1) (i - (j + 1)) (by omega) x hx.1
  rw [show j + 1 + (i - (j + 1)) = i by omega, hn] at this
  cases this
theorem qtI_pos {F : Nat → Int} {n k : Nat} {A : Nat → Nat} (h : ChainOk F n k A) {i : Nat} (hi : i < k) : 0 < qtI A i := by
  have := (h.stp i hi).more
  unfold qtI
  omega
theorem qtI_int {F : Nat → Int} {n k : Nat} {A : Nat → Nat} (h : ChainOk F n k A) {i : Nat} (hi : i < k) : ((qtI A i : Nat) : Int) = (pop (A (i + 1)) : Int) - pop (A i) := by
  have := (h.stp i hi).more
  unfold qtI
  omega
theorem ChainOk.rise {F : Nat → Int} {n k : Nat} {A : Nat → Nat} (h : ChainOk F n k A) {i : Nat} : ∀ d, i + 1 + d < k → prI F A i * qtI A (i + 1 + d) < prI F A (i + 1 + d) * qtI A i := by
  have one : ∀ i, i + 1 < k → prI F A i * qtI A (i + 1) < prI F A (i + 1) * qtI A i := by
    intro i hi
    have hT := h.stp i (by omega)
    have hT2 := h.stp (i + 1) (by omega)
    have hI := hT.inv
    have h1 := hI.low (A (i + 2)) hT2.lt
    have h2 := hI.max (A (i + 2)) hT2.lt
    have h3 : pop (A (i + 1)) < pop (A (i + 2)) := hT2.more
    rw [← qtI_int h (show i < k by omega), ← qtI_int h (show i + 1 < k by omega), Int.mul_comm ((qtI A i : Nat) : Int)] at h1 h2
    rcases Int.lt_or_eq_of_le h1 with z | z
    · exact z
    · have := pop_mono (h2 z)
      omega
  intro d
  induction d with
  | zero => intro hd; exact one i hd
  | succ d ih =>
    intro hd
    have p1 := qtI_pos h (i := i) (by omega)
    have p2 := qtI_pos h (i := i + 1 + d) (by omega)
    have p3 := qtI_pos h (i := i + 1 + d + 1) (by omega)
    have a := ih (by omega)
    have b := one (i + 1 + d) (by omega)
    exact cross_lt (y1 := (qtI A i : Nat)) (y2 := (qtI A (i + 1 + d) : Nat)) (y3 := (qtI A (i + 1 + d + 1) : Nat)) (by omega) (by omega) (by omega) a (Int.le_of_lt b)
/-- w is T times the point -/
def Whole (F : Nat → Int) (n k : Nat) (A : Nat → Nat) (T : Nat) (w : Nat → Int) : Prop := ∀ i, i < k → ∀ x, x < n → inTurn A i x → w x * qtI A i = prI F A i * T
theorem Whole.lt {F : Nat → Int} {n k : Nat} {A : Nat → Nat} {T : Nat} {w : Nat → Int} (h : Whole F n k A T w) (hC : ChainOk F n k A) (hT : 0 < T) {i j x y : Nat} (hij : i < j) (hj : j < k) (hx : x < n) (hy : y < n) (hxi : inTurn A i x) (hyj : inTurn A j y) : w x < w y := by
  have e1 := h i (by omega) x hx hxi
  have e2 := h j hj y hy hyj
  have r := hC.rise (i := i) (j - (i + 1)) (by omega)
  rw [show i + 1 + (j - (i + 1)) = j by omega] at r
  have p1 := qtI_pos hC (i := i) (by omega)
  have p2 := qtI_pos hC (i := j) hj
  have hT' : (0 : Int) < T := by omega
  have p1' : (0 : Int) < (qtI A i : Nat) := by omega
  have p2' : (0 : Int) < (qtI A j : Nat) := by omega
  generalize ((qtI A i : Nat) : Int) = qi at *
  generalize ((qtI A j : Nat) : Int) = qj at *
  generalize prI F A i = pi at *
  generalize prI F A j = pj at *
  have r2 := Int.mul_lt_mul_of_pos_right r hT'
  have a1 : pi * qj * T = (w x * qi) * qj := by rw [e1, Int.mul_assoc, Int.mul_comm qj, ← Int.mul_assoc]
  have a2 : pj * qi * T = (w y * qj) * qi := by rw [e2, Int.mul_assoc, Int.mul_comm qi, ← Int.mul_assoc]
  rw [a1, a2, Int.mul_assoc, Int.mul_assoc, Int.mul_comm qj] at r2
  apply Classical.byContradiction
  intro hc
  have := Int.mul_le_mul_of_nonneg_right (show w y ≤ w x by omega) (show 0 ≤ qi * qj from Int.mul_nonneg (by omega) (by omega))
  omega
theorem sum_turn {F : Nat → Int} {n k : Nat} {A : Nat → Nat} {T : Nat} {w : Nat → Int} (h : Whole F n k A T w) {i U : Nat} (hi : i < k) (h1 : subs (A i) U) (h2 : subs U (A (i + 1))) : ∀ m, m ≤ n → (qtI A i : Int) * (sumV w U m - sumV w (A i) m) = prI F A i * T * ((popn U m : Int) - popn (A i) m) := by
  intro m
  induction m with
  | zero => intro _; simp [sumV, popn]
  | succ m ih =>
    intro hm
    have ih := ih (by omega)
    rw [sumV, sumV, popn_succ, popn_succ]
    cases ha : (A i).testBit m
    · cases hu : U.testBit m
      · simpa using ih
      · have hw := h i hi m (by omega) ⟨h2 m hu, ha⟩
        simp only [Bool.false_eq_true, if_false, if_true]
        rw [show sumV w U m + w m - (sumV w (A i) m + 0) = (sumV w U m - sumV w (A i) m) + w m by omega, Int.mul_add, ih, Int.mul_comm (qtI A i : Int), hw]
        rw [show ((popn U m + 1 : Nat) : Int) - ((popn (A i) m + 0 : Nat) : Int) = ((popn U m : Int) - popn (A i) m) + 1 by omega, Int.mul_add, Int.mul_one]
    · rw [h1 m ha]
      simp only [if_true]
      rw [show sumV w U m + w m - (sumV w (A i) m + w m) = sumV w U m - sumV w (A i) m by omega, ih]
      rw [show ((popn U m + 1 : Nat) : Int) - ((popn (A i) m + 1 : Nat) : Int) = ((popn U m : Int) - popn (A i) m) by omega]
theorem sum_step {F : Nat → Int} {n k : Nat} {A : Nat → Nat} {T : Nat} {w : Nat → Int} (hn : n ≤ 10) (hC : ChainOk F n k A) (h : Whole F n k A T w) {i U : Nat} (hi : i < k) (hU : U < 2 ^ n) (h1 : subs (A i) U) (h2 : subs U (A (i + 1))) : sumV w U n - sumV w (A i) n ≤ T * (F U - F (A i)) := by
  have s := sum_turn h hi h1 h2 n (Nat.le_refl _)
  rw [← pop_popn hn hU, ← pop_popn hn (hC.lt (by omega))] at s
  have l := (hC.stp i hi).low U hU
  rw [← qtI_int hC hi] at l
  have hq := qtI_pos hC hi
  refine mul_cancel_le (c := (qtI A i : Int)) (by omega) ?_
  rw [s, Int.mul_assoc, Int.mul_left_comm, Int.mul_left_comm (qtI A i : Int)]
  exact Int.mul_le_mul_of_nonneg_left l (by omega)
theorem sum_full {F : Nat → Int} {n k : Nat} {A : Nat → Nat} {T : Nat} {w : Nat → Int} (hn : n ≤ 10) (hF : F 0 = 0) (hC : ChainOk F n k A) (h : Whole F n k A T w) : ∀ i, i ≤ k → sumV w (A i) n = T * F (A i) := by
  intro i
  induction i with
  | zero => intro _; rw [hC.zero, sumV_zero, hF]; simp
  | succ i ih =>
    intro hi
    have ih := ih (by omega)
    have s := sum_turn h (show i < k by omega) (hC.stp i (by omega)).sub (subs_refl _) n (Nat.le_refl _)
    rw [← pop_popn hn (hC.lt hi), ← pop_popn hn (hC.lt (by omega)), ← qtI_int hC (show i < k by omega)] at s
    have hq := qtI_pos hC (show i < k by omega)
    have e : (qtI A i : Int) * (sumV w (A (i + 1)) n - sumV w (A i) n) = (qtI A i : Int) * (T * (F (A (i + 1)) - F (A i))) := by
      rw [s]
      unfold prI
      rw [Int.mul_comm ((F (A (i + 1)) - F (A i)) * T), Int.mul_comm (F (A (i + 1)) - F (A i))]
    have := mul_cancel_eq (by omega) e
    rw [Int.mul_sub] at this
    omega
theorem below_all {F : Nat → Int} {n k : Nat} {A : Nat → Nat} {T : Nat} {w : Nat → Int} (hn : n ≤ 10) (hF : F 0 = 0) (hS : Subm F (2 ^ n)) (hC : ChainOk F n k A) (h : Whole F n k A T w) {S : Nat} (hSn : S < 2 ^ n) : sumV w S n ≤ T * F S := by
  have key : ∀ i, i ≤ k → sumV w (S &&& A i) n ≤ T * F (S &&& A i) := by
    intro i
    induction i with
    | zero => intro _; rw [hC.zero, Nat.and_zero, sumV_zero, hF]; simp
    | succ i ih =>
      intro hi
      have ih := ih (by omega)
      have hsub := (hC.stp i (by omega)).sub
      have hX : S &&& A (i + 1) < 2 ^ n := and_lt hSn
      have hY : A i < 2 ^ n := hC.lt (by omega)
      have hU : (S &&& A (i + 1)) ||| A i < 2 ^ n := or_lt hX hY
      have eI : (S &&& A (i + 1)) &&& A i = S &&& A i := by
        apply Nat.eq_of_testBit_eq
        intro x
        rw [Nat.testBit_and, Nat.testBit_and, Nat.testBit_and]
        cases ha : (A i).testBit x
        · simp
        · rw [hsub x ha]; simp
      have s1 := sumV_or_and w (S &&& A (i + 1)) (A i) n
      have s2 := hS _ _ hX hY
      rw [eI] at s1 s2
      have s3 := sum_step hn hC h (show i < k by omega) hU (subs_or_r _ _) (subs_or (fun x hx => by rw [Nat.testBit_and, Bool.and_eq_true] at hx; exact hx.2) hsub)
      have s4 : (T : Int) * (F ((S &&& A (i + 1)) ||| A i) + F (S &&& A i)) ≤ T * (F (S &&& A (i + 1)) + F (A i)) := Int.mul_le_mul_of_nonneg_left s2 (by omega)
      rw [Int.mul_add, Int.mul_add] at s4
      rw [Int.mul_sub] at s3
      omega
  have := key k (Nat.le_refl _)
  rw [hC.full] at this
  have e : S &&& (2 ^ n - 1) = S := by
    rw [Nat.and_comm]
    exact subs_and.mpr (subs_full hSn)
  rwa [e] at this
/-- the first m elements of an order, as a set -/
def bef (o : Nat → Nat) : Nat → Nat
  | 0 => 0
  | m + 1 => bef o m ||| 2 ^ o m
theorem bef_bit (o : Nat → Nat) (y : Nat) : ∀ m, (bef o m).testBit y = true ↔ ∃ j, j < m ∧ o j = y := by
  intro m
  induction m with
  | zero =>
    rw [bef]
    simp
  | succ m ih =>
    rw [bef, Nat.testBit_or, Bool.or_eq_true, ih, Nat.testBit_two_pow, decide_eq_true_iff]
    constructor
    · rintro (⟨j, hj, e⟩ | e)
      · exact ⟨j, by omega, e⟩
      · exact ⟨m, by omega, e⟩
    · rintro ⟨j, hj, e⟩
      by_cases z : j = m
      · subst z; exact Or.inr e
      · exact Or.inl ⟨j, by omega, e⟩
theorem bef_lt {o : Nat → Nat} {n : Nat} : ∀ m, (∀ j, j < m → o j < n) → bef o m < 2 ^ n := by
  intro m
  induction m with
  | zero => intro _; exact Nat.two_pow_pos n
  | succ m ih =>
    intro h
    rw [bef]
    exact or_lt (ih (fun j hj => h j (by omega))) (Nat.pow_lt_pow_right (by decide) (h m (by omega)))
/-- o orders the elements below n by w -/
def Sorted (n : Nat) (w : Nat → Int) (o : Nat → Nat) : Prop := (∀ j, j < n → o j < n) ∧ (∀ j l, j < l → l < n → o j ≠ o l ∧ w (o j) ≤ w (o l)) ∧ (∀ y, y < n → ∃ j, j < n ∧ o j = y)
theorem sumV_one (w : Nat → Int) (y : Nat) : ∀ k, sumV w (2 ^ y) k = if y < k then w y else 0 := by
  intro k
  induction k with
  | zero => simp [sumV]
  | succ k ih =>
    rw [sumV, ih, Nat.testBit_two_pow]
    by_cases z : y = k
    · subst z; simp
    · by_cases z2 : y < k
      · simp [z, z2, show y < k + 1 by omega]
      · simp [z, z2, show ¬ y < k + 1 by omega]
theorem ext_sum {F ext : Nat → Int} {n : Nat} {w : Nat → Int} {o : Nat → Nat} (hF : F 0 = 0) (ho : Sorted n w o) (he : ∀ j, j < n → ext (o j) = F (bef o (j + 1)) - F (bef o j)) : ∀ m, m ≤ n → sumV ext (bef o m) n = F (bef o m) := by
  intro m
  induction m with
  | zero => intro _; rw [bef, sumV_zero, hF]
  | succ m ih =>
    intro hm
    have ih := ih (by omega)
    have h1 := sumV_or_and ext (bef o m) (2 ^ o m) n
    have h2 : bef o m &&& 2 ^ o m = 0 := by
      rw [and_pow]
      cases hb : (bef o m).testBit (o m)
      · rfl
      · obtain ⟨j, hj, e⟩ := (bef_bit o (o m) m).mp hb
        exact absurd e (ho.2.1 j m hj (by omega)).1
    rw [h2, sumV_zero, sumV_one, if_pos (ho.1 m (by omega)), he m (by omega)] at h1
    rw [bef] at h1 ⊢
    omega
theorem prefix_ex {n : Nat} {w : Nat → Int} {o : Nat → Nat} (ho : Sorted n w o) {B : Nat} (hB : B < 2 ^ n) (hd : ∀ x y, x < n → y < n → B.testBit x = true → B.testBit y = false → w x < w y) : ∃ m, m ≤ n ∧ bef o m = B := by
  have first : ∀ t, t ≤ n → (∀ j, j < t → B.testBit (o j) = true) ∨ ∃ m, m < t ∧ B.testBit (o m) = false ∧ ∀ j, j < m → B.testBit (o j) = true := by
    intro t
    induction t with
    | zero => intro _; exact Or.inl (fun j hj => by omega)
    | succ t ih =>
      intro ht
      rcases ih (by omega) with h | ⟨m, hm, h1, h2⟩
      · cases hb : B.testBit (o t)
        · exact Or.inr ⟨t, by omega, hb, h⟩
        · refine Or.inl (fun j hj => ?_)
          by_cases z : j = t
          · subst z; exact hb
          · exact h j (by omega)
      · exact Or.inr ⟨m, by omega, h1, h2⟩
  have fin : ∀ m, m ≤ n → (∀ j, j < m → B.testBit (o j) = true) → (∀ j, j < n → B.testBit (o j) = true → j < m) → bef o m = B := by
    intro m hm h1 h2
    refine subs_antisymm (fun x hx => ?_) (fun x hx => ?_)
    · obtain ⟨j, hj, e⟩ := (bef_bit o x m).mp hx
      rw [← e]; exact h1 j hj
    · obtain ⟨j, hj, e⟩ := ho.2.2 x (bit_lt hB hx)
      exact (bef_bit o x m).mpr ⟨j, h2 j hj (by rw [e]; exact hx), e⟩
  rcases first n (Nat.le_refl _) with h | ⟨m, hm, h1, h2⟩
  · exact ⟨n, Nat.le_refl _, fin n (Nat.le_refl _) h (fun j hj _ => hj)⟩
  · refine ⟨m, by omega, fin m (by omega) h2 (fun j hj hb => ?_)⟩
    apply Classical.byContradiction
    intro hc
    by_cases z : j = m
    · subst z; rw [hb] at h1; cases h1
    · have a1 := (ho.2.1 m j (by omega) hj).2
      have a2 := hd (o j) (o m) (ho.1 j hj) (ho.1 m (by omega)) hb h1
      omega
theorem ext_chain {F ext : Nat → Int} {n k T : Nat} {A : Nat → Nat} {w : Nat → Int} {o : Nat → Nat} (hF : F 0 = 0) (hT : 0 < T) (hC : ChainOk F n k A) (hw : Whole F n k A T w) (ho : Sorted n w o) (he : ∀ j, j < n → ext (o j) = F (bef o (j + 1)) - F (bef o j)) {i : Nat} (hi : i ≤ k) : sumV ext (A i) n = F (A i) := by
  obtain ⟨m, hm, e⟩ := prefix_ex ho (B := A i) (hC.lt hi) (by
    intro x y hx hy hbx hby
    obtain ⟨jx, hjx, tx⟩ := hC.turn_ex hi hbx
    obtain ⟨jy, hjy, ty⟩ := hC.turn_all hy
    have := hC.turn_ge hjy ty hi hby
    exact hw.lt hC hT (show jx < jy by omega) hjy hx hy tx ty)
  rw [← e]
  exact ext_sum hF ho he m hm
theorem sumV_sub (v w : Nat → Int) (s : Nat) : ∀ k, sumV (fun x => v x - w x) s k = sumV v s k - sumV w s k := by
  intro k
  induction k with
  | zero => simp [sumV]
  | succ k ih =>
    rw [sumV, sumV, sumV, ih]
    split <;> omega
theorem sum_dif (v : Nat → Int) {B C : Nat} (hC : C < 1024) (hs : subs B C) (k : Nat) : sumV v (dif C B) k = sumV v C k - sumV v B k := by
  have h := sumV_or_and v (dif C B) B k
  have e1 : dif C B ||| B = C := by
    apply Nat.eq_of_testBit_eq
    intro x
    rw [Nat.testBit_or, dif_bit hC]
    cases hb : B.testBit x
    · simp
    · rw [hs x hb]; rfl
  have e2 : dif C B &&& B = 0 := by
    apply Nat.eq_of_testBit_eq
    intro x
    rw [Nat.testBit_and, dif_bit hC, Nat.zero_testBit]
    cases B.testBit x <;> simp
  rw [e1, e2, sumV_zero] at h
  omega
theorem same_sums {F ext : Nat → Int} {n k T : Nat} {A : Nat → Nat} {w : Nat → Int} {o : Nat → Nat} (hn : n ≤ 10) (hF : F 0 = 0) (hT : 0 < T) (hC : ChainOk F n k A) (hw : Whole F n k A T w) (ho : Sorted n w o) (he : ∀ j, j < n → ext (o j) = F (bef o (j + 1)) - F (bef o j)) {i : Nat} (hi : i < k) : sumV (fun x => T * ext x - w x) (dif (A (i + 1)) (A i)) n = 0 := by
  have h1024 := two_le hn
  have l := hC.lt (i := i + 1) (by omega)
  have z : ∀ i, i ≤ k → sumV (fun x => T * ext x - w x) (A i) n = 0 := by
    intro i hi
    rw [sumV_sub (fun x => T * ext x) w, sumV_mul, ext_chain hF hT hC hw ho he hi, sum_full hn hF hC hw i hi]
    omega
  rw [sum_dif _ (by omega) (hC.stp i hi).sub, z (i + 1) (by omega), z i (by omega)]
  omega
