/-! Sets as numbers: sizes, sums, unions; the step of the chain. Own work. -/
def subs (s t : Nat) : Prop := ∀ x, s.testBit x = true → t.testBit x = true
theorem subs_refl (s : Nat) : subs s s := fun _ h => h
theorem subs_trans {s t u : Nat} (h : subs s t) (h2 : subs t u) : subs s u := fun x hx => h2 x (h x hx)
theorem subs_antisymm {s t : Nat} (h : subs s t) (h2 : subs t s) : s = t := by
  apply Nat.eq_of_testBit_eq
  intro i
  cases a : s.testBit i <;> cases b : t.testBit i
  · rfl
  · rw [h2 i b] at a; cases a
  · rw [h i a] at b; cases b
  · rfl
theorem subs_or_l (s t : Nat) : subs s (s ||| t) := fun x h => by simp [h]
theorem subs_or_r (s t : Nat) : subs t (s ||| t) := fun x h => by simp [h]
theorem subs_or {s t u : Nat} (h : subs s u) (h2 : subs t u) : subs (s ||| t) u := fun x hx => by
  rw [Nat.testBit_or, Bool.or_eq_true] at hx
  rcases hx with hx | hx
  · exact h x hx
  · exact h2 x hx
theorem subs_zero (s : Nat) : subs 0 s := fun x h => by simp at h
theorem subs_and {s t : Nat} : s &&& t = t ↔ subs t s := by
  constructor
  · intro h x hx
    have := congrArg (fun z => Nat.testBit z x) h
    simp only [Nat.testBit_and, hx, Bool.and_true] at this
    exact this
  · intro h
    apply Nat.eq_of_testBit_eq
    intro i
    rw [Nat.testBit_and]
    cases b : t.testBit i
    · simp
    · rw [h i b]; rfl
theorem subs_or_eq {s t : Nat} (h : subs s t) : t ||| s = t := subs_antisymm (subs_or (subs_refl t) h) (subs_or_l t s)
theorem bit_lt {s n x : Nat} (hs : s < 2 ^ n) (h : s.testBit x = true) : x < n := by
  rcases Nat.lt_or_ge x n with z | z
  · exact z
  · rw [Nat.testBit_lt_two_pow (Nat.lt_of_lt_of_le hs (Nat.pow_le_pow_right (by decide) z))] at h
    cases h
theorem subs_full {s n : Nat} (hs : s < 2 ^ n) : subs s (2 ^ n - 1) := fun x h => by
  rw [Nat.testBit_two_pow_sub_one]
  exact decide_eq_true (bit_lt hs h)
theorem sumV_or_and (w : Nat → Int) (s t : Nat) : ∀ k, sumV w (s ||| t) k + sumV w (s &&& t) k = sumV w s k + sumV w t k := by
  intro k
  induction k with
  | zero => rfl
  | succ k ih =>
    simp only [sumV, Nat.testBit_or, Nat.testBit_and]
    cases s.testBit k <;> cases t.testBit k <;> simp <;> omega
theorem sumV_zero (w : Nat → Int) : ∀ k, sumV w 0 k = 0 := by
  intro k
  induction k with
  | zero => rfl
  | succ k ih => simp [sumV, ih]
theorem sumV_congr {w : Nat → Int} {s t k : Nat} (h : ∀ x, x < k → s.testBit x = t.testBit x) : sumV w s k = sumV w t k := by
  induction k with
  | zero => rfl
  | succ k ih => rw [sumV, sumV, ih (fun x hx => h x (by omega)), h k (by omega)]
theorem sumV_ext {w v : Nat → Int} {s k : Nat} (h : ∀ x, x < k → s.testBit x = true → w x = v x) : sumV w s k = sumV v s k := by
  induction k with
  | zero => rfl
  | succ k ih =>
    rw [sumV, sumV, ih (fun x hx => h x (by omega))]
    cases hb : s.testBit k
    · rfl
    · rw [if_pos rfl, if_pos rfl, h k (by omega) hb]
theorem sumV_mono {w v : Nat → Int} {s k : Nat} (h : ∀ x, x < k → s.testBit x = true → w x ≤ v x) : sumV w s k ≤ sumV v s k := by
  induction k with
  | zero => exact Int.le_refl _
  | succ k ih =>
    have := ih (fun x hx => h x (by omega))
    rw [sumV, sumV]
    cases hb : s.testBit k
    · simpa using this
    · have := h k (by omega) hb
      rw [if_pos rfl, if_pos rfl]
      omega
theorem sumV_mul (w : Nat → Int) (c : Int) (s : Nat) : ∀ k, sumV (fun x => c * w x) s k = c * sumV w s k := by
  intro k
  induction k with
  | zero => simp [sumV]
  | succ k ih =>
    rw [sumV, sumV, ih, Int.mul_add]
    split <;> simp
theorem popn_sum (s : Nat) : ∀ k, ((popn s k : Nat) : Int) = sumV (fun _ => 1) s k := by
  intro k
  induction k with
  | zero => rfl
  | succ k ih =>
    rw [popn_succ, sumV, ← ih]
    split <;> simp
theorem popn_or_and (s t k : Nat) : popn (s ||| t) k + popn (s &&& t) k = popn s k + popn t k := by
  have := sumV_or_and (fun _ => 1) s t k
  rw [← popn_sum, ← popn_sum, ← popn_sum, ← popn_sum] at this
  omega
theorem pop_or_and (s t : Nat) : pop (s ||| t) + pop (s &&& t) = pop s + pop t := popn_or_and s t 10
theorem popn_mono {s t : Nat} (h : subs s t) : ∀ k, popn s k ≤ popn t k := by
  intro k
  induction k with
  | zero => exact Nat.le_refl _
  | succ k ih =>
    rw [popn_succ, popn_succ]
    cases hb : s.testBit k
    · simp only [Bool.false_eq_true, if_false]; split <;> omega
    · rw [h k hb]; simpa using ih
theorem popn_strict {s t : Nat} (h : subs s t) {x : Nat} (hx : t.testBit x = true) (hn : s.testBit x = false) : ∀ k, x < k → popn s k < popn t k := by
  intro k
  induction k with
  | zero => intro h; omega
  | succ k ih =>
    intro hk
    rw [popn_succ, popn_succ]
    by_cases e : x = k
    · subst e
      have := popn_mono h x
      rw [hx, hn]; simp; omega
    · have := ih (by omega)
      cases hb : s.testBit k
      · simp only [Bool.false_eq_true, if_false]; split <;> omega
      · rw [h k hb]; simpa using this
theorem pop_lt {s t : Nat} (h : subs s t) (ht : t < 1024) (hn : s ≠ t) : pop s < pop t := by
  have : ∃ x, t.testBit x = true ∧ s.testBit x = false := by
    apply Classical.byContradiction
    intro hc
    refine hn (subs_antisymm h (fun x hx => ?_))
    cases hb : s.testBit x
    · exact absurd ⟨x, hx, hb⟩ hc
    · rfl
  obtain ⟨x, hx, hb⟩ := this
  exact popn_strict h hx hb 10 (bit_lt (n := 10) ht hx)
theorem pop_mono {s t : Nat} (h : subs s t) : pop s ≤ pop t := popn_mono h 10
theorem pop_zero : pop 0 = 0 := by decide
theorem popn_full {n : Nat} : ∀ k, popn (2 ^ n - 1) k = min n k := by
  intro k
  induction k with
  | zero => simp [popn]
  | succ k ih =>
    rw [popn_succ, ih, Nat.testBit_two_pow_sub_one]
    by_cases h : k < n
    · simp [h]; omega
    · simp [h]; omega
theorem pop_full {n : Nat} (hn : n ≤ 10) : pop (2 ^ n - 1) = n := by
  have := popn_full (n := n) 10
  show popn (2 ^ n - 1) 10 = n
  omega
theorem two_le {n : Nat} (hn : n ≤ 10) : 2 ^ n ≤ 1024 := Nat.le_trans (Nat.pow_le_pow_right (by decide) hn) (by decide)
theorem pop_le_n {s n : Nat} (hn : n ≤ 10) (hs : s < 2 ^ n) : pop s ≤ n := by
  have := pop_mono (subs_full hs)
  rwa [pop_full hn] at this
theorem pop_eq_n {s n : Nat} (hn : n ≤ 10) (hs : s < 2 ^ n) (h : pop s = n) : s = 2 ^ n - 1 := by
  apply Classical.byContradiction
  intro hc
  have h2 := two_le hn
  have := pop_lt (subs_full hs) (by omega) hc
  rw [pop_full hn] at this
  omega
/-- two sets together never gain by being apart -/
def Subm (F : Nat → Int) (N : Nat) : Prop := ∀ S T, S < N → T < N → F (S ||| T) + F (S &&& T) ≤ F S + F T
/-- a step of the chain: from A to A' at the price (F A' - F A) / (pop A' - pop A) -/
def Tur (F : Nat → Int) (N A B : Nat) : Prop :=
  (B < N) ∧ (subs A B) ∧ (pop A < pop B) ∧ (∀ S, S < N → (F B - F A) * ((pop S : Int) - pop A) ≤ ((pop B : Int) - pop A) * (F S - F A)) ∧ (∀ S, S < N → (F B - F A) * ((pop S : Int) - pop A) = ((pop B : Int) - pop A) * (F S - F A) → subs S B)
theorem Tur.lt {F : Nat → Int} {N A B : Nat} (h : Tur F N A B) : B < N := h.1
theorem Tur.sub {F : Nat → Int} {N A B : Nat} (h : Tur F N A B) : subs A B := h.2.1
theorem Tur.more {F : Nat → Int} {N A B : Nat} (h : Tur F N A B) : pop A < pop B := h.2.2.1
theorem Tur.low {F : Nat → Int} {N A B : Nat} (h : Tur F N A B) : ∀ S, S < N → (F B - F A) * ((pop S : Int) - pop A) ≤ ((pop B : Int) - pop A) * (F S - F A) := h.2.2.2.1
theorem Tur.max {F : Nat → Int} {N A B : Nat} (h : Tur F N A B) : ∀ S, S < N → (F B - F A) * ((pop S : Int) - pop A) = ((pop B : Int) - pop A) * (F S - F A) → subs S B := h.2.2.2.2
/-- A is the largest least set for some price p / q -/
def CInv (F : Nat → Int) (N A : Nat) (p q : Int) : Prop :=
  (A < N) ∧ (0 < q) ∧ (∀ S, S < N → p * ((pop S : Int) - pop A) ≤ q * (F S - F A)) ∧ (∀ S, S < N → p * ((pop S : Int) - pop A) = q * (F S - F A) → subs S A)
theorem CInv.lt {F : Nat → Int} {N A : Nat} {p q : Int} (h : CInv F N A p q) : A < N := h.1
theorem CInv.pos {F : Nat → Int} {N A : Nat} {p q : Int} (h : CInv F N A p q) : 0 < q := h.2.1
theorem CInv.low {F : Nat → Int} {N A : Nat} {p q : Int} (h : CInv F N A p q) : ∀ S, S < N → p * ((pop S : Int) - pop A) ≤ q * (F S - F A) := h.2.2.1
theorem CInv.max {F : Nat → Int} {N A : Nat} {p q : Int} (h : CInv F N A p q) : ∀ S, S < N → p * ((pop S : Int) - pop A) = q * (F S - F A) → subs S A := h.2.2.2
theorem Tur.inv {F : Nat → Int} {N A B : Nat} (h : Tur F N A B) : CInv F N B (F B - F A) ((pop B : Int) - pop A) := by
  have hm := h.more
  have e : ∀ S, (F B - F A) * ((pop S : Int) - pop B) = (F B - F A) * ((pop S : Int) - pop A) - (F B - F A) * ((pop B : Int) - pop A) := by
    intro S; rw [← Int.mul_sub]; congr 1; omega
  have e2 : ∀ S, ((pop B : Int) - pop A) * (F S - F B) = ((pop B : Int) - pop A) * (F S - F A) - ((pop B : Int) - pop A) * (F B - F A) := by
    intro S; rw [← Int.mul_sub]; congr 1; omega
  have e3 := Int.mul_comm (F B - F A) ((pop B : Int) - pop A)
  refine ⟨h.lt, by omega, fun S hS => ?_, fun S hS he => ?_⟩
  · have := h.low S hS
    rw [e, e2]
    omega
  · rw [e, e2] at he
    exact h.max S hS (by omega)
theorem CInv.first {F : Nat → Int} {N : Nat} {B : Int} (hN : N ≤ 1024) (h0 : 0 < N) (hF : F 0 = 0) (hB : ∀ S, S < N → -B < F S) (hB0 : 0 ≤ B) : CInv F N 0 (-B) 1 := by
  refine ⟨h0, by omega, fun S hS => ?_, fun S hS he => ?_⟩
  · rw [pop_zero, hF]
    have := hB S hS
    by_cases z : S = 0
    · subst z; rw [pop_zero, hF]; simp
    · have h1 : 0 < pop S := by
        have := pop_lt (subs_zero S) (by omega) (Ne.symm z)
        rwa [pop_zero] at this
      have h2 : B * 1 ≤ B * (pop S : Int) := Int.mul_le_mul_of_nonneg_left (by omega) hB0
      have h3 : -B * ((pop S : Int) - ((0 : Nat) : Int)) = -(B * (pop S : Int)) := by simp [Int.neg_mul]
      rw [h3]
      omega
  · rw [pop_zero, hF] at he
    have := hB S hS
    by_cases z : S = 0
    · subst z; exact subs_refl 0
    · have h1 : 0 < pop S := by
        have := pop_lt (subs_zero S) (by omega) (Ne.symm z)
        rwa [pop_zero] at this
      have h2 : B * 1 ≤ B * (pop S : Int) := Int.mul_le_mul_of_nonneg_left (by omega) hB0
      have h3 : -B * ((pop S : Int) - ((0 : Nat) : Int)) = -(B * (pop S : Int)) := by simp [Int.neg_mul]
      rw [h3] at he
      omega
/-- L and st: the lowest number of each size and a set that has it -/
def Lows (F : Nat → Int) (n : Nat) (L : Nat → Int) (st : Nat → Nat) : Prop :=
  (∀ S, S < 2 ^ n → L (pop S) ≤ F S) ∧ (∀ m, m ≤ n → st m < 2 ^ n) ∧ (∀ m, m ≤ n → pop (st m) = m) ∧ (∀ m, m ≤ n → F (st m) = L m)
theorem Lows.low {F : Nat → Int} {n : Nat} {L : Nat → Int} {st : Nat → Nat} (h : Lows F n L st) : ∀ S, S < 2 ^ n → L (pop S) ≤ F S := h.1
theorem Lows.lt {F : Nat → Int} {n : Nat} {L : Nat → Int} {st : Nat → Nat} (h : Lows F n L st) : ∀ m, m ≤ n → st m < 2 ^ n := h.2.1
theorem Lows.size {F : Nat → Int} {n : Nat} {L : Nat → Int} {st : Nat → Nat} (h : Lows F n L st) : ∀ m, m ≤ n → pop (st m) = m := h.2.2.1
theorem Lows.val {F : Nat → Int} {n : Nat} {L : Nat → Int} {st : Nat → Nat} (h : Lows F n L st) : ∀ m, m ≤ n → F (st m) = L m := h.2.2.2
theorem CInv.at_size {F : Nat → Int} {n A : Nat} {p q : Int} {L : Nat → Int} {st : Nat → Nat} (hn : n ≤ 10) (hL : Lows F n L st) (h : CInv F (2 ^ n) A p q) : st (pop A) = A ∧ L (pop A) = F A := by
  have ha := pop_le_n hn h.lt
  have h1 := h.low (st (pop A)) (hL.lt _ ha)
  rw [hL.size _ ha, Int.sub_self, Int.mul_zero] at h1
  have h2 := hL.low A h.lt
  have h3 := hL.val _ ha
  have hp := h.pos
  have h4 : 0 ≤ F (st (pop A)) - F A := by
    apply Classical.byContradiction
    intro hc
    have : q * (F (st (pop A)) - F A) < 0 := Int.mul_neg_of_pos_of_neg hp (by omega)
    omega
  have h5 : F (st (pop A)) = F A := by omega
  have h6 := h.max (st (pop A)) (hL.lt _ ha) (by rw [hL.size _ ha, h5]; simp)
  have h7 := two_le hn
  have hA := h.lt
  refine ⟨?_, by omega⟩
  apply Classical.byContradiction
  intro hc
  have := pop_lt h6 (by omega) hc
  rw [hL.size _ ha] at this
  omega
theorem mul_cancel_le {a b c : Int} (h : 0 < c) (h2 : c * a ≤ c * b) : a ≤ b := by
  apply Classical.byContradiction
  intro hc
  have := Int.mul_lt_mul_of_pos_left (show b < a by omega) h
  omega
theorem mul_cancel_eq {a b c : Int} (h : 0 < c) (h2 : c * a = c * b) : a = b := by
  have h3 := mul_cancel_le h (by omega : c * a ≤ c * b)
  have h4 := mul_cancel_le h (by omega : c * b ≤ c * a)
  omega
theorem Tur.make {F : Nat → Int} {n A best : Nat} {p q : Int} {L : Nat → Int} {st : Nat → Nat} (hn : n ≤ 10) (hS : Subm F (2 ^ n)) (hL : Lows F n L st) (h : CInv F (2 ^ n) A p q) (hb : pop A < best) (hbn : best ≤ n)
    (hbest : ∀ m, pop A < m → m ≤ n → (L best - L (pop A)) * ((m : Int) - pop A) ≤ (L m - L (pop A)) * ((best : Int) - pop A) ∧ ((L best - L (pop A)) * ((m : Int) - pop A) = (L m - L (pop A)) * ((best : Int) - pop A) → m ≤ best)) : Tur F (2 ^ n) A (st best) := by
  obtain ⟨hA, hLA⟩ := h.at_size hn hL
  have hpos := h.pos
  have h1024 := two_le hn
  have hAn := pop_le_n hn h.lt
  have hFb := hL.val best hbn
  have hpb := hL.size best hbn
  have hltb := hL.lt best hbn
  have hq : (0 : Int) < (best : Int) - pop A := by omega
  -- the new price is above the old one
  have hnew : p * ((best : Int) - pop A) < q * (F (st best) - F A) := by
    have h1 := h.low (st best) hltb
    have h2 := h.max (st best) hltb
    rw [hpb] at h1 h2
    rcases Int.lt_or_eq_of_le h1 with z | z
    · exact z
    · have := pop_mono (h2 z)
      rw [hpb] at this
      omega
  have low : ∀ S, S < 2 ^ n → (F (st best) - F A) * ((pop S : Int) - pop A) ≤ ((best : Int) - pop A) * (F S - F A) := by
    intro S hSn
    by_cases hc : pop A < pop S
    · have h1 := (hbest (pop S) hc (pop_le_n hn hSn)).1
      have h2 := hL.low S hSn
      rw [hFb, ← hLA]
      refine Int.le_trans h1 ?_
      rw [Int.mul_comm]
      exact Int.mul_le_mul_of_nonneg_left (by omega) (by omega)
    · have h1 := h.low S hSn
      -- q * ((best - a) * (F S - F A)) ≥ (best - a) * p * (s - a) ≥ q * (F B - F A) * (s - a)
      refine mul_cancel_le hpos ?_
      have h2 : ((best : Int) - pop A) * (p * ((pop S : Int) - pop A)) ≤ ((best : Int) - pop A) * (q * (F S - F A)) := Int.mul_le_mul_of_nonneg_left h1 (by omega)
      have h3 : (q * (F (st best) - F A)) * ((pop S : Int) - pop A) ≤ (p * ((best : Int) - pop A)) * ((pop S : Int) - pop A) := by
        have h4 : (p * ((best : Int) - pop A)) * ((pop A : Int) - pop S) ≤ (q * (F (st best) - F A)) * ((pop A : Int) - pop S) := Int.mul_le_mul_of_nonneg_right (by omega) (by omega)
        have e : ((pop S : Int) - pop A) = -((pop A : Int) - pop S) := by omega
        rw [e, Int.mul_neg, Int.mul_neg]
        omega
      have e1 : q * ((F (st best) - F A) * ((pop S : Int) - pop A)) = (q * (F (st best) - F A)) * ((pop S : Int) - pop A) := by rw [Int.mul_assoc]
      have e2 : q * (((best : Int) - pop A) * (F S - F A)) = ((best : Int) - pop A) * (q * (F S - F A)) := by rw [Int.mul_left_comm]
      have e3 : (p * ((best : Int) - pop A)) * ((pop S : Int) - pop A) = ((best : Int) - pop A) * (p * ((pop S : Int) - pop A)) := by rw [Int.mul_comm p, Int.mul_assoc]
      rw [e1, e2]
      omega
  have hmax : ∀ S, S < 2 ^ n → (F (st best) - F A) * ((pop S : Int) - pop A) = ((best : Int) - pop A) * (F S - F A) → subs S (st best) := by
    intro S hSn he
    have hU : S ||| st best < 2 ^ n := or_lt hSn hltb
    have hI : S &&& st best < 2 ^ n := and_lt hSn
    have hsub := hS S (st best) hSn hltb
    have l1 := low _ hU
    have l2 := low _ hI
    have hpo : ((pop (S ||| st best) : Nat) : Int) + ((pop (S &&& st best) : Nat) : Int) = pop S + best := by
      have := pop_or_and S (st best)
      rw [hpb] at this
      omega
    generalize hP : F (st best) - F A = P at *
    generalize hQ : (best : Int) - pop A = Q at *
    have e1 : P * ((pop (S ||| st best) : Int) - pop A) + P * ((pop (S &&& st best) : Int) - pop A) = P * ((pop S : Int) - pop A) + P * Q := by
      rw [← Int.mul_add, ← Int.mul_add]; congr 1; omega
    have e2 : Q * (F (S ||| st best) - F A) + Q * (F (S &&& st best) - F A) ≤ Q * (F S - F A) + Q * P := by
      rw [← Int.mul_add, ← Int.mul_add]
      exact Int.mul_le_mul_of_nonneg_left (by omega) (by omega)
    have e3 := Int.mul_comm P Q
    have l3 : P * ((pop (S ||| st best) : Int) - pop A) = Q * (F (S ||| st best) - F A) := by omega
    have hsub2 := subs_or_r S (st best)
    have hge := pop_mono hsub2
    rw [hpb] at hge
    have hle := (hbest (pop (S ||| st best)) (by omega) (pop_le_n hn hU)).1
    have heq := (hbest (pop (S ||| st best)) (by omega) (pop_le_n hn hU)).2
    have h5 := hL.low _ hU
    rw [← hFb, hLA, hP, l3, Int.mul_comm Q] at hle heq
    have h6 : (L (pop (S ||| st best)) - F A) * Q ≤ (F (S ||| st best) - F A) * Q := Int.mul_le_mul_of_nonneg_right (by omega) (by omega)
    have h7 := heq (by omega)
    have h8 : st best = S ||| st best := by
      apply Classical.byContradiction
      intro hc
      have := pop_lt hsub2 (by omega) hc
      rw [hpb] at this
      omega
    rw [h8]
    exact subs_or_l _ _
  have hAB : subs A (st best) := hmax A h.lt (by simp)
  exact ⟨hltb, hAB, by rw [hpb]; exact hb, by rw [hpb]; exact low, by rw [hpb]; exact hmax⟩
