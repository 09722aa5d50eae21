/-! SetTable and bitCount: what their methods do. Own work. -/
def pop (s : Nat) : Nat := ((List.range 10).filter (fun x => s.testBit x)).length
theorem bitCount_ok {s : Nat} (hs : s < 1024) {post : Int32 → Prop} (h : post (nI (pop s))) : wp_In_bitCount_0 post (nI s) := by
  have key : ∀ k : Fin 1024, wp_In_bitCount_0 (fun r => r = nI (pop k.val)) (nI k.val) := by
    unfold wp_In_bitCount_0
    decide +kernel
  have e := key ⟨s, hs⟩
  unfold wp_In_bitCount_0 at e ⊢
  dsimp only at e
  rw [e]
  exact h
theorem pop_le (s : Nat) : pop s ≤ 10 := by
  unfold pop
  exact Nat.le_trans (List.length_filter_le _ _) (by simp)
theorem clear_ok {n : Nat} (hn : n ≤ 10) {post : Int32 → Int32 → (Nat → Int64) → Prop} {a b : Int32} {f : Nat → Int64} (h : post (nI n) (nI (2 ^ n)) (fun j => if j < 2 ^ n then 0 else f j)) : wp_St_clear_0 post (nI n) a b f := by
  have hN : 2 ^ n ≤ 1024 := Nat.le_trans (Nat.pow_le_pow_right (by decide) hn) (by decide)
  generalize hNe : 2 ^ n = N at *
  have loop : ∀ d i, i + d = N → wp_St_clear_14 post (d + 1) (nI i) (nI n) (nI N) (fun j => if j < i then 0 else f j) := by
    intro d
    induction d with
    | zero =>
      intro i hi
      rw [wp_St_clear_14]
      have : i = N := by omega
      subst this
      exact br_t (nI_le (Nat.le_refl _) (by omega)) h
    | succ d ih =>
      intro i hi
      rw [wp_St_clear_14]
      refine br_f (nI_ge (by omega) (by omega)) ⟨vp_in_nI (by omega) (by omega), ?_⟩
      rw [nI_clamp (by omega), nI_1, updL_step f (fun _ => 0) i]
      exact ih (i + 1) (by omega)
  unfold wp_St_clear_0
  refine ⟨N + 1, ?_⟩
  rw [nI_sh1 n (by omega), hNe]
  have := loop N 0 (by omega)
  rw [part0] at this
  exact this
theorem copy_ok {N : Nat} (hN : N ≤ 1024) {ps : Int32} {g : Nat → Int64} {post : Int32 → Int32 → (Nat → Int64) → Prop} {x2 : Int64} {a b : Int32} {f : Nat → Int64} (h : post ps (nI N) (fun j => if j < N then x2 * g j else f j)) : wp_St_copy_0 ps (nI N) g post x2 a b f := by
  have loop : ∀ d i, i + d = N → wp_St_copy_19 ps (nI N) g post (d + 1) x2 (nI i) ps (nI N) (fun j => if j < i then x2 * g j else f j) := by
    intro d
    induction d with
    | zero =>
      intro i hi
      rw [wp_St_copy_19]
      have : i = N := by omega
      subst this
      exact br_t (nI_le (Nat.le_refl _) (by omega)) h
    | succ d ih =>
      intro i hi
      rw [wp_St_copy_19]
      refine br_f (nI_ge (by omega) (by omega)) ⟨vp_in_nI (by omega) (by omega), vp_in_nI (by omega) (by omega), ?_⟩
      rw [nI_clamp (by omega), nI_1, updL_step f (fun j => x2 * g j) i]
      exact ih (i + 1) (by omega)
  unfold wp_St_copy_0
  refine ⟨N + 1, ?_⟩
  have := loop N 0 (by omega)
  rw [part0] at this
  exact this
theorem skip_step {α : Type} (f g : Nat → α) (i : Nat) (h : g i = f i) : (fun j : Nat => if j < i then g j else f j) = (fun j : Nat => if j < i + 1 then g j else f j) := by
  funext j
  by_cases h1 : j < i
  · rw [if_pos h1, if_pos (by omega)]
  · rw [if_neg h1]
    by_cases h2 : j = i
    · subst h2
      rw [if_pos (by omega), h]
    · rw [if_neg (by omega)]
theorem add_ok {N p q : Nat} (hN : N ≤ 1024) (hp : p < 1024) (hq : q < 1024) {post : (Nat → Int64) → Prop} {x3 : Int64} {f : Nat → Int64} (h : post (fun j => if j < N then (if j &&& (p ||| q) = p then f j + x3 else f j) else f j)) : wp_St_add_0 (nI N) post (nI p) (nI q) x3 f := by
  have loop : ∀ d i, i + d = N → wp_St_add_8 (nI N) post (d + 1) (nI p) x3 (nI (p ||| q)) (nI i) (fun j => if j < i then (if j &&& (p ||| q) = p then f j + x3 else f j) else f j) := by
    intro d
    induction d with
    | zero =>
      intro i hi
      rw [wp_St_add_8]
      have : i = N := by omega
      subst this
      exact br_t (nI_le (Nat.le_refl _) (by omega)) h
    | succ d ih =>
      intro i hi
      rw [wp_St_add_8]
      have hia : i &&& (p ||| q) < 1024 := and_lt (n := 10) (by omega)
      have ih := ih (i + 1) (by omega)
      refine br_f (nI_ge (by omega) (by omega)) ?_
      rw [nI_and]
      refine ⟨fun hc => ?_, fun hc => ?_⟩
      · rw [wp_St_add_37, nI_1]
        have hne : ¬ (i &&& (p ||| q) = p) := fun z => hc (by rw [z])
        rw [skip_step f (fun j => if j &&& (p ||| q) = p then f j + x3 else f j) i (if_neg hne)]
        exact ih
      · have hc : i &&& (p ||| q) = p := (nI_eq (by omega) (by omega)).mp hc
        refine ⟨vp_in_nI (by omega) (by omega), vp_in_nI (by omega) (by omega), ?_⟩
        rw [wp_St_add_37, nI_1, nI_clamp (by omega)]
        have e : (if i < i then (if i &&& (p ||| q) = p then f i + x3 else f i) else f i) + x3 = (if i &&& (p ||| q) = p then f i + x3 else f i) := by
          rw [if_neg (by omega), if_pos hc]
        rw [e, updL_step f (fun j => if j &&& (p ||| q) = p then f j + x3 else f j) i]
        exact ih
  unfold wp_St_add_0
  refine ⟨N + 1, ?_⟩
  rw [nI_or]
  have := loop N 0 (by omega)
  rw [part0] at this
  exact this

/-- what a curve adds -/
def curveAt (c : Nat → Int32) (fr e j : Nat) (v : Int64) : Int64 := if 0 < pop (j &&& e) then v + (c (fr + pop (j &&& e) - 1)).toInt64 else v
theorem addCurve_ok {N e fr : Nat} (hN : N ≤ 1024) (he : e < 1024) (hf : fr + 10 ≤ 300) {c : Nat → Int32} {post : (Nat → Int64) → Prop} {f : Nat → Int64} (h : post (fun j => if j < N then curveAt c fr e j (f j) else f j)) : wp_St_addCurve_0 (nI N) c post (nI e) (nI fr) f := by
  have loop : ∀ d i, i + d = N → wp_St_addCurve_3 (nI N) c post (d + 1) (nI e) (nI fr) (nI i) (fun j => if j < i then curveAt c fr e j (f j) else f j) := by
    intro d
    induction d with
    | zero =>
      intro i hi
      rw [wp_St_addCurve_3]
      have : i = N := by omega
      subst this
      exact br_t (nI_le (Nat.le_refl _) (by omega)) h
    | succ d ih =>
      intro i hi
      rw [wp_St_addCurve_3]
      have ih := ih (i + 1) (by omega)
      refine br_f (nI_ge (by omega) (by omega)) ?_
      rw [nI_and]
      have hp := pop_le (i &&& e)
      refine bitCount_ok (and_lt (n := 10) (by omega)) ⟨fun hc => ?_, fun hc => ?_⟩
      · rw [wp_St_addCurve_45, nI_1]
        have h0 : pop (i &&& e) = 0 := by
          rw [← nI_0, nI_leI (by omega) (by omega)] at hc
          omega
        rw [skip_step f (fun j => curveAt c fr e j (f j)) i (by unfold curveAt; rw [if_neg (by omega)])]
        exact ih
      · have h0 : 0 < pop (i &&& e) := by
          rw [← nI_0, nI_leI (by omega) (by omega)] at hc
          omega
        have ei : nI fr + nI (pop (i &&& e)) - 1 = nI (fr + pop (i &&& e) - 1) := by
          rw [nI_add, show (1 : Int32) = nI 1 from rfl, pk_sub (by omega)]
        rw [ei]
        refine ⟨vp_in_nI (by omega) (by omega), vp_in_nI (by omega) (by omega), vp_in_nI (by omega) (by omega), ?_⟩
        rw [wp_St_addCurve_45, nI_1, nI_clamp (n := i) (by omega), nI_clamp (n := fr + pop (i &&& e) - 1) (by omega)]
        have e9 : (if i < i then curveAt c fr e i (f i) else f i) + (c (fr + pop (i &&& e) - 1)).toInt64 = curveAt c fr e i (f i) := by
          rw [if_neg (by omega)]
          unfold curveAt
          rw [if_pos h0]
        rw [e9, updL_step f (fun j => curveAt c fr e j (f j)) i]
        exact ih
  unfold wp_St_addCurve_0
  refine ⟨N + 1, ?_⟩
  have := loop N 0 (by omega)
  rw [part0] at this
  exact this
theorem gain_ok {a x : Nat} (ha : a < 1024) (hx : x < 10) {f : Nat → Int64} {post : Int64 → Prop} (h : post (f (a ||| 2 ^ x) - f a)) : wp_St_gain_0 f post (nI a) (nI x) := by
  have h2 : 2 ^ x < 1024 := Nat.lt_of_lt_of_le (Nat.pow_lt_pow_right (by decide) hx) (by decide)
  have h3 : a ||| 2 ^ x < 1024 := or_lt (n := 10) ha h2
  unfold wp_St_gain_0
  rw [nI_sh1 x (by omega), nI_or, nI_clamp (by omega), nI_clamp (by omega)]
  exact ⟨vp_in_nI (by omega) (by omega), vp_in_nI (by omega) (by omega), h⟩
/-- the scan for the lowest number over the sets below k that P allows: the number, the intersection and the union of those that have it -/
def lowF (P : Nat → Prop) [DecidablePred P] (v : Nat → Int) : Nat → Option (Int × Nat × Nat)
  | 0 => none
  | k + 1 => if P k then (match lowF P v k with
    | none => some (v k, k, k)
    | some (m, a, b) => if v k < m then some (v k, k, k) else if v k = m then some (m, a &&& k, b ||| k) else some (m, a, b)) else lowF P v k
/-- the sets that have all of p and none of q -/
abbrev betw (p q : Nat) (j : Nat) : Prop := j &&& (p ||| q) = p

theorem lowF_none {P : Nat → Prop} [DecidablePred P] {v : Nat → Int} : ∀ k, (∀ j, j < k → ¬ P j) → lowF P v k = none := by
  intro k
  induction k with
  | zero => intro _; rfl
  | succ k ih =>
    intro h
    rw [lowF, if_neg (h k (by omega))]
    exact ih (fun j hj => h j (by omega))
theorem betw_self (p q : Nat) : betw p q p := by
  show p &&& (p ||| q) = p
  apply Nat.eq_of_testBit_eq
  intro i
  simp only [Nat.testBit_and, Nat.testBit_or]
  cases p.testBit i <;> simp
theorem betw_le {p q j : Nat} (h : betw p q j) : p ≤ j := by
  have h : j &&& (p ||| q) = p := h
  rw [← h]
  exact Nat.and_le_left
theorem lowF_first {p q : Nat} {v : Nat → Int} : lowF (betw p q) v (p + 1) = some (v p, p, p) := by
  rw [lowF, if_pos (betw_self p q), lowF_none p (fun j hj h => by have := betw_le h; omega)]
theorem findLowest_ok {N p q : Nat} (hN : N ≤ 1024) (hp : p < N) (hq : q < 1024) {v : Nat → Int} {f : Nat → Int64} (hf : ∀ j, j < N → f j = lI (v j)) (hv : ∀ j, j < N → bl (v j)) {post : Int64 → Int32 → Int32 → Prop} {a : Int64} {b c : Int32}
    (h : ∀ m M J, lowF (betw p q) v N = some (m, M, J) → M < 1024 → J < 1024 → post (lI m) (nI M) (nI J)) : wp_St_findLowest_0 (nI N) f post (nI p) (nI q) a b c := by
  have loop : ∀ d i m M J, i + d = N → lowF (betw p q) v i = some (m, M, J) → bl m → M < 1024 → J < 1024 → wp_St_findLowest_29 (nI N) f post (d + 1) (nI p) (nI (p ||| q)) (nI i) (lI m) (nI M) (nI J) := by
    intro d
    induction d with
    | zero =>
      intro i m M J hi hl hm hM hJ
      rw [wp_St_findLowest_29]
      have : i = N := by omega
      subst this
      exact br_t (nI_le (Nat.le_refl _) (by omega)) (h m M J hl hM hJ)
    | succ d ih =>
      intro i m M J hi hl hm hM hJ
      rw [wp_St_findLowest_29]
      have hvi := hv i (by omega)
      have hst : lowF (betw p q) v (i + 1) = if betw p q i then (if v i < m then some (v i, i, i) else if v i = m then some (m, M &&& i, J ||| i) else some (m, M, J)) else some (m, M, J) := by
        rw [lowF, hl]
      refine br_f (nI_ge (by omega) (by omega)) ?_
      have hpq : p ||| q < 1024 := or_lt (n := 10) (by omega) hq
      have hia : i &&& (p ||| q) < 1024 := and_lt (n := 10) (by omega)
      rw [nI_and, nI_clamp (n := i) (by omega), hf i (by omega)]
      refine ⟨fun hc => ?_, fun hc => ?_⟩
      · rw [wp_St_findLowest_127, nI_1]
        refine ih (i + 1) m M J (by omega) ?_ hm hM hJ
        rw [hst, if_neg (fun z : betw p q i => hc (congrArg nI z))]
      · have hc : betw p q i := (nI_eq (by omega) (by omega)).mp hc
        rw [if_pos hc] at hst
        refine ⟨vp_in_nI (by omega) (by omega), ?_⟩
        rw [cmp_le hvi hm, cmp_ge hvi hm]
        refine ⟨fun h1 => ⟨vp_in_nI (by omega) (by omega), fun h2 => ?_, fun h2 => ⟨vp_in_nI (by omega) (by omega), ?_⟩⟩, fun h1 => ?_⟩
        · rw [wp_St_findLowest_127, nI_1, nI_and, nI_or]
          refine ih (i + 1) m (M &&& i) (J ||| i) (by omega) ?_ hm (and_lt (n := 10) hM) (or_lt (n := 10) hJ (by omega))
          rw [hst, if_neg (by omega), if_pos (by omega)]
        · rw [wp_St_findLowest_127, nI_1]
          refine ih (i + 1) (v i) i i (by omega) ?_ hvi (by omega) (by omega)
          rw [hst, if_pos (by omega)]
        · rw [wp_St_findLowest_127, nI_1]
          refine ih (i + 1) m M J (by omega) ?_ hm hM hJ
          rw [hst, if_neg (by omega), if_neg (by omega)]
  unfold wp_St_findLowest_0
  refine ⟨vp_in_nI (by omega) (by omega), N - (p + 1) + 1, ?_⟩
  rw [nI_or, nI_clamp (n := p) (by omega), hf p hp, nI_1]
  exact loop (N - (p + 1)) (p + 1) (v p) p p (by omega) lowF_first (hv p hp) (by omega) (by omega)
