/-! Common divisors; the chain as the class follows it. Own work. -/
theorem l_max : Int64.maxValue.toInt = 9223372036854775807 := by decide
theorem l_min : Int64.minValue.toInt = -9223372036854775808 := by decide
theorem lI_div {a b : Int} (ha : bl a) (hb : bl b) : lI a / lI b = lI (a.tdiv b) := (Int64.ofInt_tdiv (by rw [l_min]; exact ha.1) (by rw [l_max]; have := ha.2; omega) (by rw [l_min]; exact hb.1) (by rw [l_max]; have := hb.2; omega)).symm
theorem bl_nat {n : Nat} (h : n < 9223372036854775808) : bl n := ⟨by omega, by omega⟩
theorem lI_rem {x y : Nat} (hx : x < 9223372036854775808) (hy : y < 9223372036854775808) : lI x - lI x / lI y * lI y = lI ((x % y : Nat) : Int) := by
  rw [lI_div (bl_nat hx) (bl_nat hy), lI_mul, lI_sub]
  congr 1
  have h1 : ((x : Int).tdiv (y : Int)) = ((x / y : Nat) : Int) := rfl
  have h2 := Nat.div_add_mod x y
  have h3 : ((y * (x / y) + x % y : Nat) : Int) = x := by rw [h2]
  rw [h1]
  rw [Int.natCast_add, Int.natCast_mul, Int.mul_comm] at h3
  omega
theorem gcd_step (x y : Nat) : Nat.gcd y (x % y) = Nat.gcd x y := by rw [Nat.gcd_comm y, ← Nat.gcd_rec, Nat.gcd_comm]
theorem lI_nz {n : Nat} (h : n < 9223372036854775808) (h0 : 0 < n) : ¬ lI n = 0 := by
  intro e
  have e : lI n = lI ((0 : Nat) : Int) := e
  have := (lI_eq (bl_nat h) (bl_nat (by omega))).mp e
  omega
theorem cmp0_eq {n : Nat} (h : n < 9223372036854775808) : lg_cmp (lI n) 0 = 0 ↔ n = 0 := by
  have := cmp_eq (bl_nat h) (bl_nat (n := 0) (by omega))
  rw [show (0 : Int64) = lI ((0 : Nat) : Int) from rfl, this]
  omega
theorem cmp0_le {n : Nat} (h : n < 9223372036854775808) : lg_cmp (lI n) 0 ≤ 0 ↔ n = 0 := by
  have := cmp_le (bl_nat h) (bl_nat (n := 0) (by omega))
  rw [show (0 : Int64) = lI ((0 : Nat) : Int) from rfl, this]
  omega
theorem lI_abs {a : Int} (h : bl a) (h2 : -9223372036854775808 < a) : (if 0 < lI a then lI a else -lI a) = lI (a.natAbs : Int) := by
  have e : (0 : Int64) < lI a ↔ 0 < a := lI_lt (a := 0) (b := a) (bl_nat (n := 0) (by omega)) h
  by_cases c : 0 < a
  · rw [if_pos (e.mpr c)]; congr 1; omega
  · rw [if_neg (fun z => c (e.mp z)), lI_neg]; congr 1; omega
theorem commonDivisor_ok {a : Int} {b : Nat} (ha : a.natAbs < 1000000000000000) (hb : b ≤ 50) {post : Int64 → Prop} (h : post (lI ((max 1 (Nat.gcd a.natAbs b) : Nat) : Int))) : wp_Ls_commonDivisor_0 post (lI a) (lI b) := by
  have fin : ∀ g : Nat, g < 9223372036854775808 → post (lI ((max 1 g : Nat) : Int)) → wp_Ls_commonDivisor_50 post (lI g) := by
    intro g hg hp
    unfold wp_Ls_commonDivisor_50
    have e : lI g < 1 ↔ (g : Int) < 1 := lI_lt (a := g) (b := 1) (bl_nat hg) (bl_nat (n := 1) (by omega))
    by_cases c : g = 0
    · subst c
      rw [if_pos (e.mpr (by omega))]
      exact hp
    · rw [if_neg (fun z => by have := e.mp z; omega)]
      rwa [show max 1 g = g by omega] at hp
  have loop : ∀ d x y i, y ≤ d → i + y ≤ 60 → x < 1000000000000000 → Nat.gcd x y = Nat.gcd a.natAbs b → wp_Ls_commonDivisor_15 post (d + 1) (lI (x : Nat)) (lI (y : Nat)) (nI i) := by
    intro d
    induction d with
    | zero =>
      intro x y i hy hi hx hg
      rw [wp_Ls_commonDivisor_15]
      refine br_f (nI_ge (b := 100) (by omega) (by omega)) ?_
      have : y = 0 := Nat.le_zero.mp hy
      subst this
      rw [Nat.gcd_zero_right] at hg
      refine br_t ((cmp0_eq (by omega)).mpr rfl) (fin x (by omega) ?_)
      rw [hg]; exact h
    | succ d ih =>
      intro x y i hy hi hx hg
      rw [wp_Ls_commonDivisor_15]
      refine br_f (nI_ge (b := 100) (by omega) (by omega)) ?_
      by_cases c : y = 0
      · subst c
        rw [Nat.gcd_zero_right] at hg
        refine br_t ((cmp0_eq (by omega)).mpr rfl) (fin x (by omega) ?_)
        rw [hg]; exact h
      · refine br_f (fun z => c ((cmp0_eq (by omega)).mp z)) ⟨lI_nz (by omega) (by omega), ?_⟩
        rw [lI_rem (by omega) (by omega), nI_1]
        have hr := Nat.mod_lt x (show y > 0 by omega)
        exact ih y (x % y) (i + 1) (by omega) (by omega) (by omega) (by rw [gcd_step]; exact hg)
  unfold wp_Ls_commonDivisor_0
  rw [lI_abs ⟨by omega, by omega⟩ (by omega), lI_abs (bl_nat (by omega)) (by omega)]
  exact ⟨b + 1, loop b a.natAbs b 0 (Nat.le_refl _) (by omega) ha rfl⟩
theorem divisor_ok {a : Int} {b : Nat} (ha : a.natAbs < 1000000000000000) (hb : b ≤ 50) {post : Int64 → Prop} (h : post (lI ((Nat.gcd a.natAbs b : Nat) : Int))) : wp_Mo_divisor_0 post (lI a) (lI b) := by
  have loop : ∀ d x y, y ≤ d → y ≤ 50 → x < 1000000000000000 → Nat.gcd x y = Nat.gcd a.natAbs b → wp_Mo_divisor_17 post (d + 1) (lI (x : Nat)) (lI (y : Nat)) := by
    intro d
    induction d with
    | zero =>
      intro x y hy hi hx hg
      rw [wp_Mo_divisor_17]
      have : y = 0 := Nat.le_zero.mp hy
      subst this
      rw [Nat.gcd_zero_right] at hg
      refine br_t ((cmp0_le (by omega)).mpr rfl) ?_
      rw [hg]; exact h
    | succ d ih =>
      intro x y hy hi hx hg
      rw [wp_Mo_divisor_17]
      by_cases c : y = 0
      · subst c
        rw [Nat.gcd_zero_right] at hg
        refine br_t ((cmp0_le (by omega)).mpr rfl) ?_
        rw [hg]; exact h
      · refine br_f (fun z => c ((cmp0_le (by omega)).mp z)) ⟨lI_nz (by omega) (by omega), ?_⟩
        rw [lI_rem (by omega) (by omega)]
        have hr := Nat.mod_lt x (show y > 0 by omega)
        exact ih y (x % y) (by omega) (by omega) (by omega) (by rw [gcd_step]; exact hg)
  have l2 := loop b a.natAbs b (Nat.le_refl _) (by omega) ha rfl
  have e : 0 ≤ lg_cmp (lI a) 0 ↔ 0 ≤ a := cmp_ge (a := a) (b := 0) ⟨by omega, by omega⟩ ⟨by omega, by omega⟩
  unfold wp_Mo_divisor_0 wp_Mo_divisor_12
  by_cases c : 0 ≤ a
  · refine br_t (e.mpr c) ⟨b + 1, ?_⟩
    rwa [show (a.natAbs : Int) = a by omega] at l2
  · refine br_f (fun z => c (e.mp z)) ⟨b + 1, ?_⟩
    rw [lI_neg]
    rwa [show (a.natAbs : Int) = -a by omega] at l2
/-- the price p / q in lowest terms -/
def num (p : Int) (q : Nat) : Int := (mkRat p q).num
def den (p : Int) (q : Nat) : Nat := (mkRat p q).den
theorem num_eq {p : Int} {q : Nat} (hq : 0 < q) : p.tdiv ((Nat.gcd p.natAbs q : Nat) : Int) = num p q := by
  unfold num
  rw [Rat.num_mkRat, if_neg (by omega), Nat.gcd_comm]
  refine Int.tdiv_eq_ediv_of_dvd ?_
  exact Int.ofNat_dvd_left.mpr (Nat.gcd_dvd_right q p.natAbs)
theorem den_eq {p : Int} {q : Nat} (hq : 0 < q) : (q : Int).tdiv ((Nat.gcd p.natAbs q : Nat) : Int) = den p q := by
  unfold den
  rw [Rat.den_mkRat, if_neg (by omega), Nat.gcd_comm]
  rfl
theorem gcd_pos {p : Int} {q : Nat} (hq : 0 < q) : 0 < Nat.gcd p.natAbs q := Nat.gcd_pos_of_pos_right _ hq
theorem den_pos (p : Int) (q : Nat) : 0 < den p q := Rat.den_pos _
theorem den_le {p : Int} {q : Nat} (hq : 0 < q) : den p q ≤ q := by
  unfold den
  rw [Rat.den_mkRat, if_neg (by omega)]
  exact Nat.div_le_self _ _
theorem num_den {p : Int} {q : Nat} (hq : 0 < q) : num p q * q = p * den p q := by
  have h : mkRat (num p q) (den p q) = mkRat p q := Rat.mkRat_self _
  have := den_pos p q
  exact (Rat.mkRat_eq_iff (by omega) (by omega)).mp h
theorem num_bd {p : Int} {q : Nat} (hq : 0 < q) : (num p q).natAbs ≤ p.natAbs := by
  rw [← num_eq hq, Int.natAbs_tdiv]
  exact Nat.div_le_self _ _
theorem num_same {p r : Int} {q s : Nat} (hq : 0 < q) (hs : 0 < s) (h : p * s = r * q) : num p q = num r s ∧ den p q = den r s := by
  have := (Rat.mkRat_eq_iff (d₁ := q) (d₂ := s) (n₁ := p) (n₂ := r) (by omega) (by omega)).mpr h
  unfold num den
  rw [this]
  exact ⟨rfl, rfl⟩
