/-! The class follows the chain. Own work. -/
def lowS (F : Nat → Int) (m : Nat) : Nat → Option Nat
  | 0 => none
  | k + 1 => if pop k = m then (match lowS F m k with
    | none => some k
    | some t => if F k < F t then some k else some t) else lowS F m k
theorem lowS_spec (F : Nat → Int) (m : Nat) : ∀ k, match lowS F m k with
    | none => ∀ S, S < k → pop S ≠ m
    | some t => t < k ∧ pop t = m ∧ ∀ S, S < k → pop S = m → F t ≤ F S := by
  intro k
  induction k with
  | zero => intro S hS; omega
  | succ k ih =>
    rw [lowS]
    by_cases h : pop k = m
    · rw [if_pos h]
      cases e : lowS F m k with
      | none =>
        rw [e] at ih
        refine ⟨by omega, h, fun S hS hp => ?_⟩
        by_cases z : S = k
        · subst z; exact Int.le_refl _
        · exact absurd hp (ih S (by omega))
      | some t =>
        rw [e] at ih
        obtain ⟨h1, h2, h3⟩ := ih
        dsimp only
        by_cases c : F k < F t
        · rw [if_pos c]
          refine ⟨by omega, h, fun S hS hp => ?_⟩
          by_cases z : S = k
          · subst z; exact Int.le_refl _
          · have := h3 S (by omega) hp; omega
        · rw [if_neg c]
          refine ⟨by omega, h2, fun S hS hp => ?_⟩
          by_cases z : S = k
          · subst z; omega
          · exact h3 S (by omega) hp
    · rw [if_neg h]
      cases e : lowS F m k with
      | none =>
        rw [e] at ih
        intro S hS
        by_cases z : S = k
        · subst z; exact h
        · exact ih S (by omega)
      | some t =>
        rw [e] at ih
        obtain ⟨h1, h2, h3⟩ := ih
        refine ⟨by omega, h2, fun S hS hp => ?_⟩
        by_cases z : S = k
        · subst z; exact absurd hp h
        · exact h3 S (by omega) hp
def stF (F : Nat → Int) (n m : Nat) : Nat := (lowS F m (2 ^ n)).getD 0
theorem stF_some {F : Nat → Int} {n m : Nat} (hn : n ≤ 10) (hm : m ≤ n) : lowS F m (2 ^ n) = some (stF F n m) := by
  have h := lowS_spec F m (2 ^ n)
  unfold stF
  cases e : lowS F m (2 ^ n) with
  | none =>
    rw [e] at h
    have h1 : 2 ^ m ≤ 2 ^ n := Nat.pow_le_pow_right (by decide) hm
    have h2 := Nat.two_pow_pos m
    exact absurd (pop_full (n := m) (by omega)) (h (2 ^ m - 1) (by omega))
  | some t => rfl
theorem Lows.of {F : Nat → Int} {n : Nat} (hn : n ≤ 10) : Lows F n (fun m => F (stF F n m)) (stF F n) := by
  have key : ∀ m, m ≤ n → stF F n m < 2 ^ n ∧ pop (stF F n m) = m ∧ ∀ S, S < 2 ^ n → pop S = m → F (stF F n m) ≤ F S := by
    intro m hm
    have h := lowS_spec F m (2 ^ n)
    rw [stF_some hn hm] at h
    exact h
  exact ⟨fun S hS => (key (pop S) (pop_le_n hn hS)).2.2 S hS rfl, fun m hm => (key m hm).1, fun m hm => (key m hm).2.1, fun m hm => rfl⟩
/-- what the scan has kept of size m -/
def keptS (F : Nat → Int) (o : Option Nat) (a : Int32) (b : Int64) : Prop := match o with
  | none => a = -1
  | some t => a = nI t ∧ b = lI (F t) ∧ t < 1024
theorem nI_nm1 {t : Nat} (ht : t < 2147483648) : ¬ nI t = -1 := by
  intro e
  have : (nI t).toInt = -1 := by rw [e]; rfl
  rw [nI_toInt ht] at this
  omega
theorem findLowestOfEachSize_ok {n : Nat} (hn : n ≤ 10) {F : Nat → Int} {f : Nat → Int64} (hf : ∀ j, j < 2 ^ n → f j = lI (F j)) (hb : ∀ j, j < 2 ^ n → bl (F j)) {post : (Nat → Int32) → (Nat → Int64) → Prop} {so : Nat → Int32} {lo : Nat → Int64}
    (h : ∀ so lo, (∀ m, m ≤ n → so m = nI (stF F n m) ∧ lo m = lI (F (stF F n m))) → post so lo) : wp_Ch_findLowestOfEachSize_0 (nI n) (nI (2 ^ n)) f post so lo := by
  have h1024 := two_le hn
  have hfin : ∀ so lo, (∀ m, m ≤ n → keptS F (lowS F m (2 ^ n)) (so m) (lo m)) → post so lo := by
    intro so lo hk
    refine h so lo (fun m hm => ?_)
    have := hk m hm
    rw [stF_some hn hm] at this
    exact ⟨this.1, this.2.1⟩
  have hpl : ∀ i, i < 2 ^ n → pop i ≤ n := fun i hi => pop_le_n hn hi
  generalize hNe : 2 ^ n = N at *
  have loop2 : ∀ d i so lo, i + d = N → (∀ m, m ≤ n → keptS F (lowS F m i) (so m) (lo m)) → wp_Ch_findLowestOfEachSize_25 (nI n) (nI N) f post (d + 1) (nI i) so lo := by
    intro d
    induction d with
    | zero =>
      intro i so lo hi hk
      rw [wp_Ch_findLowestOfEachSize_25]
      have : i = N := by omega
      subst this
      exact br_t (nI_le (Nat.le_refl _) (by omega)) (hfin so lo hk)
    | succ d ih =>
      intro i so lo hi hk
      rw [wp_Ch_findLowestOfEachSize_25]
      refine br_f (nI_ge (by omega) (by omega)) ?_
      have hp := hpl i (by omega)
      refine bitCount_ok (by omega) ⟨vp_in_nI (by omega) (by omega), ?_⟩
      rw [nI_clamp (n := pop i) (by omega), nI_clamp (n := i) (by omega), hf i (by omega)]
      have hki := hk (pop i) hp
      have take : (lowS F (pop i) (i + 1) = some i) → wp_Ch_findLowestOfEachSize_64 (nI n) (nI N) f post (fun x2 so lo => wp_Ch_findLowestOfEachSize_25 (nI n) (nI N) f post (d + 1) x2 so lo) (nI i) (nI (pop i)) so lo := by
        intro he
        unfold wp_Ch_findLowestOfEachSize_64 wp_Ch_findLowestOfEachSize_83
        rw [nI_clamp (n := pop i) (by omega), nI_clamp (n := i) (by omega), hf i (by omega), nI_1]
        refine ⟨vp_in_nI (by omega) (by omega), vp_in_nI (by omega) (by omega), vp_in_nI (by omega) (by omega), ?_⟩
        refine ih (i + 1) _ _ (by omega) (fun m hm => ?_)
        by_cases c : m = pop i
        · subst c
          rw [he, pk_us]
          refine ⟨rfl, ?_, by omega⟩
          unfold vp_updL
          rw [if_pos rfl]
        · rw [pk_un c, lowS, if_neg (Ne.symm c)]
          unfold vp_updL
          rw [if_neg c]
          exact hk m hm
      have skip : (lowS F (pop i) (i + 1) = lowS F (pop i) i) → wp_Ch_findLowestOfEachSize_83 (nI n) (nI N) f post (fun x2 so lo => wp_Ch_findLowestOfEachSize_25 (nI n) (nI N) f post (d + 1) x2 so lo) (nI i) so lo := by
        intro he
        unfold wp_Ch_findLowestOfEachSize_83
        rw [nI_1]
        refine ih (i + 1) _ _ (by omega) (fun m hm => ?_)
        by_cases c : m = pop i
        · subst c
          rw [he]
          exact hki
        · rw [lowS, if_neg (Ne.symm c)]
          exact hk m hm
      cases e : lowS F (pop i) i with
      | none =>
        rw [e] at hki
        exact br_t hki (take (by rw [lowS, if_pos rfl, e]))
      | some t =>
        rw [e] at hki
        obtain ⟨h1, h2, h3⟩ := hki
        have ht : t < N := by
          have := lowS_spec F (pop i) i
          rw [e] at this
          have := this.1
          omega
        refine br_f (by rw [h1]; exact nI_nm1 (by omega)) ⟨vp_in_nI (by omega) (by omega), vp_in_nI (by omega) (by omega), ?_⟩
        rw [h2, cmp_ge (hb i (by omega)) (hb t ht)]
        refine ⟨fun c => skip ?_, fun c => take ?_⟩
        · rw [lowS, if_pos rfl, e]
          exact if_neg (by omega)
        · rw [lowS, if_pos rfl, e]
          exact if_pos (by omega)
  have loop1 : ∀ d i so lo, i + d = n + 1 → (∀ m, m < i → so m = -1) → wp_Ch_findLowestOfEachSize_2 (nI n) (nI N) f post (d + 1) (nI i) so lo := by
    intro d
    induction d with
    | zero =>
      intro i so lo hi hk
      rw [wp_Ch_findLowestOfEachSize_2]
      have hlt : nI n < nI i := (nI_ltI (by omega) (by omega)).mpr (by omega)
      refine br_t hlt ⟨N + 1, ?_⟩
      have := loop2 N 0 so lo (by omega) (fun m hm => hk m (by omega))
      exact this
    | succ d ih =>
      intro i so lo hi hk
      rw [wp_Ch_findLowestOfEachSize_2]
      have hlt : ¬ nI n < nI i := fun z => by have := (nI_ltI (by omega) (by omega)).mp z; omega
      refine br_f hlt ⟨vp_in_nI (by omega) (by omega), ?_⟩
      rw [nI_1, nI_clamp (by omega)]
      refine ih (i + 1) _ _ (by omega) (fun m hm => ?_)
      by_cases c : m = i
      · subst c; rw [pk_us]
      · rw [pk_un c]; exact hk m (by omega)
  unfold wp_Ch_findLowestOfEachSize_0
  exact ⟨n + 2, loop1 (n + 1) 0 so lo (by omega) (fun m hm => by omega)⟩
