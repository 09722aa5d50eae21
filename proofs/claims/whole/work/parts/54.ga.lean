/-! surplus, worst, tight; turns, turn, point, check. Own work. -/
theorem lowF_val {P : Nat → Prop} [DecidablePred P] {v : Nat → Int} : ∀ k m M J, lowF P v k = some (m, M, J) → ∃ S, S < k ∧ P S ∧ v S = m := by
  intro k
  induction k with
  | zero => intro m M J h; cases h
  | succ k ih =>
    intro m M J h
    rw [lowF] at h
    by_cases hp : P k
    · rw [if_pos hp] at h
      cases e : lowF P v k with
      | none =>
        rw [e] at h
        injection h with h
        injection h with h1 h2
        exact ⟨k, by omega, hp, h1⟩
      | some r =>
        obtain ⟨m', M', J'⟩ := r
        rw [e] at h
        dsimp only at h
        obtain ⟨S, s1, s2, s3⟩ := ih m' M' J' e
        split at h
        · injection h with h
          injection h with h1 h2
          exact ⟨k, by omega, hp, h1⟩
        · split at h
          · injection h with h
            injection h with h1 h2
            exact ⟨S, by omega, s2, by omega⟩
          · injection h with h
            injection h with h1 h2
            exact ⟨S, by omega, s2, by omega⟩
    · rw [if_neg hp] at h
      obtain ⟨S, s1, s2, s3⟩ := ih m M J h
      exact ⟨S, by omega, s2, s3⟩
def gap (F w : Nat → Int) (n S : Nat) : Int := F S - sumV w S n
theorem gap_bd {F w : Nat → Int} {n : Nat} (hn : n ≤ 10) (hb : ∀ S, S < 2 ^ n → (F S).natAbs ≤ 3000000) (hw : ∀ x, -1000000 ≤ w x ∧ w x ≤ 1000000) : ∀ S, S < 2 ^ n → -13000000 ≤ gap F w n S ∧ gap F w n S ≤ 13000000 := by
  intro S hS
  have h1 := hb S hS
  have h2 := sumV_bd (w := w) (s := S) (B := 1000000) hw n
  have h3 : n * 1000000 ≤ 10 * 1000000 := Nat.mul_le_mul_right _ hn
  unfold gap
  omega
theorem low_bd {F w : Nat → Int} {n : Nat} (hg : ∀ S, S < 2 ^ n → -13000000 ≤ gap F w n S ∧ gap F w n S ≤ 13000000) {p q : Nat} {m : Int} {M J : Nat} (h : lowF (betw p q) (gap F w n) (2 ^ n) = some (m, M, J)) : -13000000 ≤ m ∧ m ≤ 13000000 := by
  obtain ⟨S, s1, s2, s3⟩ := lowF_val _ _ _ _ h
  have := hg S s1
  omega
theorem csurplus0 {gs : Int32} {gv : Nat → Int64} {post : Int32 → Int64 → Int32 → Int32 → (Nat → Int64) → Prop} {lo : Int64} {me jo : Int32} {o : Nat → Int64} (h : post 1 lo me jo o) : wp_La_surplus_0 0 gs gv post lo me jo o := by
  unfold wp_La_surplus_0 wp_Ls_surplus_0
  exact nfun0 ⟨rfl, h⟩
theorem csurplus1 {n : Nat} (h1 : 1 ≤ n) (hn : n ≤ 10) {F w : Nat → Int} {gv : Nat → Int64} (hv : ∀ S, S < 2 ^ n → gv S = lI (gap F w n S)) (hg : ∀ S, S < 2 ^ n → -13000000 ≤ gap F w n S ∧ gap F w n S ≤ 13000000) {post : Int32 → Int64 → Int32 → Int32 → (Nat → Int64) → Prop} {lo : Int64} {me jo : Int32} {o : Nat → Int64} (h0 : ∀ m M J, lowF (betw 0 0) (gap F w n) (2 ^ n) = some (m, M, J) → ∀ lo me jo, post 0 lo me jo (vp_updL o (0 : Int32).toNatClampNeg (iI m).toInt64)) : wp_La_surplus_0 (nI n) (nI (2 ^ n)) gv post lo me jo o := by
  have h1024 := two_le hn
  unfold wp_La_surplus_0 wp_Ls_surplus_0
  refine nfun1 h1 hn (findLowest_ok (p := 0) (q := 0) h1024 (Nat.two_pow_pos n) (by omega) hv (fun S hS => ⟨by have := hg S hS; omega, by have := hg S hS; omega⟩) (fun m M J hm hM hJ => ⟨in01, ?_⟩))
  rw [lI_32]
  exact h0 m M J hm _ _ _
theorem msurplus0 {nn : Int32} {al ve : Nat → Int32} {post : Int32 → Int32 → Prop} {th : Int32} (h : post 0 1) : wp_Mo_surplus_0 0 nn al ve post th := br_t rfl (br_t rfl h)
theorem mlean {n p q : Nat} (hn : n ≤ 10) (hp : p < 2 ^ n) (hq : q < 1024) (hpq : p &&& q = 0) {F w : Nat → Int} {al ve : Nat → Int32} (ha : ∀ S, S < 2 ^ n → al S = iI (F S)) (hv : ∀ x, x < n → ve x = iI (w x)) (hg : ∀ S, S < 2 ^ n → -13000000 ≤ gap F w n S ∧ gap F w n S ≤ 13000000) {what : Int32} {post : Int32 → Prop} (h : ∀ m M J, lowF (betw p q) (gap F w n) (2 ^ n) = some (m, M, J) → post (pick3 what m M J)) : wp_Mo_lean_0 (nI n) al ve post what (nI p) (nI q) 1 := by
  refine lean_ok (less := true) (a := F) (w := w) hn hp hq hpq ha hv (fun S hS => ?_) (fun m M J hm hM hJ => h m M J hm)
  have := hg S hS
  unfold gap at this
  exact ⟨by show -2147483648 ≤ F S - sumV w S n; omega, by show F S - sumV w S n < 2147483648; omega⟩
theorem msurplus1 {n : Nat} (hn : n ≤ 10) {F w : Nat → Int} {al ve : Nat → Int32} (ha : ∀ S, S < 2 ^ n → al S = iI (F S)) (hv : ∀ x, x < n → ve x = iI (w x)) (hg : ∀ S, S < 2 ^ n → -13000000 ≤ gap F w n S ∧ gap F w n S ≤ 13000000) {post : Int32 → Int32 → Prop} {th : Int32} (h0 : ∀ m M J, lowF (betw 0 0) (gap F w n) (2 ^ n) = some (m, M, J) → post (iI m) 0) : wp_Mo_surplus_0 1 (nI n) al ve post th := by
  unfold wp_Mo_surplus_0 wp_Mo_surplus_13 wp_Mo_surplus_35
  exact br_f (by decide) (br_f (by decide) (mlean (p := 0) (q := 0) hn (Nat.two_pow_pos n) (by omega) rfl ha hv hg (fun m M J hm => h0 m M J hm)))
theorem cworst0 {gs : Int32} {gv : Nat → Int64} {post : Int32 → Int64 → Int32 → Int32 → (Nat → Int64) → Prop} {x : Int32} {lo : Int64} {me jo : Int32} {o : Nat → Int64} (h : post 1 lo me jo o) : wp_La_worst_0 0 gs gv post x lo me jo o := by
  unfold wp_La_worst_0 wp_Ls_worst_0
  exact nfun0 (Or.inl ⟨rfl, h⟩)
theorem cworst1 {n : Nat} (h1 : 1 ≤ n) (hn : n ≤ 10) {F w : Nat → Int} {gv : Nat → Int64} (hv : ∀ S, S < 2 ^ n → gv S = lI (gap F w n S)) (hg : ∀ S, S < 2 ^ n → -13000000 ≤ gap F w n S ∧ gap F w n S ≤ 13000000) {post : Int32 → Int64 → Int32 → Int32 → (Nat → Int64) → Prop} {x : Int32} {lo : Int64} {me jo : Int32} {o : Nat → Int64} (h2 : ¬ ixN x 2 → post 2 lo me jo o) (h0 : ixN x 2 → ∀ m M J, lowF (betw 0 0) (gap F w n) (2 ^ n) = some (m, M, J) → ∀ lo me jo, post 0 lo me jo (vp_updL o (0 : Int32).toNatClampNeg (nI (if x = 0 then M else J)).toInt64)) : wp_La_worst_0 (nI n) (nI (2 ^ n)) gv post x lo me jo o := by
  have h1024 := two_le hn
  unfold wp_La_worst_0 wp_Ls_worst_0 wp_Ls_worst_39
  refine nfun1 h1 hn (nbel_ok (b := 2) (by omega) (fun z => Or.inr ⟨rfl, h2 z⟩) (fun z => findLowest_ok (p := 0) (q := 0) h1024 (Nat.two_pow_pos n) (by omega) hv (fun S hS => ⟨by have := hg S hS; omega, by have := hg S hS; omega⟩) (fun m M J hm hM hJ => ?_)))
  have h0 := h0 z m M J hm
  refine ⟨fun x0 => ⟨in01, ?_⟩, fun x0 => ⟨in01, ?_⟩⟩
  · rw [if_neg x0] at h0; exact h0 _ _ _
  · rw [if_pos x0] at h0; exact h0 _ _ _
theorem mworst0 {nn : Int32} {al ve : Nat → Int32} {post : Int32 → Int32 → Prop} {x th : Int32} (h : post 0 1) : wp_Mo_worst_0 0 nn al ve post x th := bn0 rfl (br_f (by decide) h)
theorem mworst1 {n : Nat} (hn : n ≤ 10) {F w : Nat → Int} {al ve : Nat → Int32} (ha : ∀ S, S < 2 ^ n → al S = iI (F S)) (hv : ∀ x, x < n → ve x = iI (w x)) (hg : ∀ S, S < 2 ^ n → -13000000 ≤ gap F w n S ∧ gap F w n S ≤ 13000000) {post : Int32 → Int32 → Prop} {x th : Int32} (h2 : ¬ ixN x 2 → post 0 2) (h0 : ixN x 2 → ∀ m M J, lowF (betw 0 0) (gap F w n) (2 ^ n) = some (m, M, J) → post (nI (if x = 0 then M else J)) 0) : wp_Mo_worst_0 1 (nI n) al ve post x th := by
  unfold wp_Mo_worst_0 wp_Mo_worst_21
  refine bn1 (by decide) ?_
  have h2' : ¬ ixN x 2 → wp_Mo_worst_26 1 (nI n) al ve post x 2 th := fun z => br_f (by decide) (h2 z)
  rcases ix3 x (b := 2) (by omega) with ⟨a1, a2⟩ | ⟨a1, a2, a3, a4⟩ | hi
  · exact br_t a1 (h2' a2)
  · exact br_f a1 (br_f (le_pred (b := 1) (by omega) a3) (h2' a4))
  · have h0 := h0 hi
    obtain ⟨a, ha9, rfl⟩ := hi
    refine br_f (nI_pos (by omega)) (br_t ((nI_leI (a := a) (b := 1) (by omega) (by omega)).mpr (by omega)) ?_)
    unfold wp_Mo_worst_26 wp_Mo_worst_50
    refine br_t (by decide) (mlean (p := 0) (q := 0) hn (Nat.two_pow_pos n) (by omega) rfl ha hv hg (fun m M J hm => ?_))
    have h0 := h0 m M J hm
    rcases (show a = 0 ∨ a = 1 by omega) with rfl | rfl
    · exact h0
    · exact h0
/-! tight -/
def tgF (x : Nat) (v : Nat → Int) : Nat → Option Nat
  | 0 => none
  | k + 1 => if k.testBit x = true ∧ v k = 0 then (match tgF x v k with
    | none => some k
    | some M => some (M &&& k)) else tgF x v k
theorem betw_bit {x k : Nat} : betw (2 ^ x) 0 k ↔ k.testBit x = true := add_bit
theorem tg_low {x : Nat} {v : Nat → Int} : ∀ k, (∀ S, S < k → 0 ≤ v S) → (lowF (betw (2 ^ x) 0) v k = none → tgF x v k = none) ∧ (∀ m M J, lowF (betw (2 ^ x) 0) v k = some (m, M, J) → 0 ≤ m ∧ (m = 0 → tgF x v k = some M) ∧ (m ≠ 0 → tgF x v k = none)) := by
  intro k
  induction k with
  | zero => intro _; exact ⟨fun _ => rfl, fun m M J h => by cases h⟩
  | succ k ih =>
    intro hv
    obtain ⟨i1, i2⟩ := ih (fun S hS => hv S (by omega))
    have hk := hv k (by omega)
    rw [lowF, tgF]
    by_cases hb : betw (2 ^ x) 0 k
    · rw [if_pos hb]
      have hb' := betw_bit.mp hb
      cases e : lowF (betw (2 ^ x) 0) v k with
      | none =>
        rw [i1 e]
        refine ⟨fun z => (by cases z), fun m M J h => ?_⟩
        injection h with h
        injection h with h1 h2
        injection h2 with h3 h4
        subst h1; subst h3
        exact ⟨hk, fun z => by rw [if_pos ⟨hb', z⟩], fun z => by rw [if_neg (fun q => z q.2)]⟩
      | some r =>
        obtain ⟨m', M', J'⟩ := r
        obtain ⟨j0, j1, j2⟩ := i2 m' M' J' e
        dsimp only
        refine ⟨fun z => ?_, fun m M J h => ?_⟩
        · split at z
          · cases z
          · split at z <;> cases z
        · split at h
          · next hlt =>
            injection h with h
            injection h with h1 h2
            injection h2 with h3 h4
            subst h1; subst h3
            refine ⟨hk, fun z => ?_, fun z => ?_⟩
            · rw [if_pos ⟨hb', z⟩, j2 (by omega)]
            · rw [if_neg (fun q => z q.2)]
              exact j2 (by omega)
          · next hlt =>
            split at h
            · next heq =>
              injection h with h
              injection h with h1 h2
              injection h2 with h3 h4
              subst h1; subst h3
              refine ⟨j0, fun z => ?_, fun z => ?_⟩
              · rw [if_pos ⟨hb', by omega⟩, j1 z]
              · rw [if_neg (fun q => by omega)]
                exact j2 z
            · next hne =>
              injection h with h
              injection h with h1 h2
              injection h2 with h3 h4
              subst h1; subst h3
              refine ⟨j0, fun z => ?_, fun z => ?_⟩
              · rw [if_neg (fun q => by omega)]
                exact j1 z
              · rw [if_neg (fun q => by omega)]
                exact j2 z
    · rw [if_neg hb, if_neg (fun q => hb (betw_bit.mpr q.1))]
      exact ⟨i1, i2⟩
theorem low_all {v : Nat → Int} {m : Int} {M J : Nat} : ∀ k, lowF (betw 0 0) v k = some (m, M, J) → ∀ S, S < k → m ≤ v S := by
  intro k
  induction k generalizing m M J with
  | zero => intro h; cases h
  | succ k ih =>
    intro h S hS
    have hb : betw 0 0 k := by show k &&& (0 ||| 0) = 0; simp
    rw [lowF, if_pos hb] at h
    cases e : lowF (betw 0 0) v k with
    | none =>
      rw [e] at h
      injection h with h
      injection h with h1 h2
      have hk0 : k = 0 := by
        cases k with
        | zero => rfl
        | succ k =>
          rw [lowF, if_pos (show betw 0 0 k by show k &&& (0 ||| 0) = 0; simp)] at e
          split at e
          · cases e
          · split at e
            · cases e
            · split at e <;> cases e
      subst hk0
      have : S = 0 := by omega
      subst this
      omega
    | some r =>
      obtain ⟨m', M', J'⟩ := r
      rw [e] at h
      dsimp only at h
      have i0 := ih e
      split at h
      · injection h with h
        injection h with h1 h2
        by_cases z : S = k
        · subst z; omega
        · have := i0 S (by omega); omega
      · split at h
        · injection h with h
          injection h with h1 h2
          by_cases z : S = k
          · subst z; omega
          · have := i0 S (by omega); omega
        · injection h with h
          injection h with h1 h2
          by_cases z : S = k
          · subst z; omega
          · have := i0 S (by omega); omega
/-- what tight answers -/
def tgA (F w : Nat → Int) (n x : Nat) (m : Int) : Int32 := if m < 0 then -1 else match tgF x (gap F w n) (2 ^ n) with
  | none => -1
  | some M => nI M
theorem ctight0 {gs : Int32} {gv : Nat → Int64} {post : Int32 → Int64 → Int32 → Int32 → (Nat → Int64) → Prop} {x : Int32} {lo : Int64} {me jo : Int32} {o : Nat → Int64} (h : post 1 lo me jo o) : wp_La_tight_0 0 gs gv post x lo me jo o := by
  unfold wp_La_tight_0 wp_Ls_tight_0
  exact nfun0 (Or.inl ⟨rfl, h⟩)
theorem ctight1 {n : Nat} (h1 : 1 ≤ n) (hn : n ≤ 10) {F w : Nat → Int} {gv : Nat → Int64} (hv : ∀ S, S < 2 ^ n → gv S = lI (gap F w n S)) (hg : ∀ S, S < 2 ^ n → -13000000 ≤ gap F w n S ∧ gap F w n S ≤ 13000000) {post : Int32 → Int64 → Int32 → Int32 → (Nat → Int64) → Prop} {x : Int32} {lo : Int64} {me jo : Int32} {o : Nat → Int64} (h2 : ¬ ixN x n → post 2 lo me jo o) (h0 : ∀ a, a < n → x = nI a → ∀ m M J, lowF (betw 0 0) (gap F w n) (2 ^ n) = some (m, M, J) → ∀ lo me jo, post 0 lo me jo (vp_updL o (0 : Int32).toNatClampNeg (tgA F w n a m).toInt64)) : wp_La_tight_0 (nI n) (nI (2 ^ n)) gv post x lo me jo o := by
  have h1024 := two_le hn
  have hbl : ∀ S, S < 2 ^ n → bl (gap F w n S) := fun S hS => ⟨by have := hg S hS; omega, by have := hg S hS; omega⟩
  unfold wp_La_tight_0 wp_Ls_tight_0 wp_Ls_tight_66
  refine nfun1 h1 hn (nel_ok hn (fun z => Or.inr ⟨rfl, h2 z⟩) (fun z => findLowest_ok (p := 0) (q := 0) h1024 (Nat.two_pow_pos n) (by omega) hv hbl (fun m M J hm hM hJ => ?_)))
  obtain ⟨a, ha, rfl⟩ := z
  have h0 := h0 a ha rfl m M J hm
  have mb := low_bd hg hm
  have e0 : (0 : Int64) = lI 0 := rfl
  rw [e0, cmp_ge ⟨by omega, by omega⟩ ⟨by omega, by omega⟩]
  unfold tgA at h0
  refine ⟨fun hm0 => ?_, fun hm0 => ⟨in01, ?_⟩⟩
  · rw [if_neg (by omega)] at h0
    have hpos : ∀ S, S < 2 ^ n → 0 ≤ gap F w n S := fun S hS => by have := low_all _ hm S hS; omega
    have h2n : 2 ^ a < 2 ^ n := Nat.pow_lt_pow_right (by decide) ha
    rw [nI_sh (by omega)]
    refine findLowest_ok (p := 2 ^ a) (q := 0) h1024 h2n (by omega) hv hbl (fun m2 M2 J2 hm2 hM2 hJ2 => ?_)
    have mb2 := low_bd hg hm2
    obtain ⟨t0, t1, t2⟩ := (tg_low (2 ^ n) hpos).2 m2 M2 J2 hm2
    rw [cmp_eq ⟨by omega, by omega⟩ ⟨by omega, by omega⟩]
    refine ⟨fun q => ⟨in01, ?_⟩, fun q => ⟨in01, ?_⟩⟩
    · rw [t2 q] at h0; exact h0 _ _ _
    · rw [t1 q] at h0; exact h0 _ _ _
  · rw [if_pos (by omega)] at h0
    exact h0 _ _ _
theorem mtight0 {nn : Int32} {al ve : Nat → Int32} {post : Int32 → Int32 → Prop} {x th : Int32} (h : post 0 1) : wp_Mo_tight_0 0 nn al ve post x th := bn0 rfl (br_t (by decide) (br_f (by decide) h))
theorem and_m1 (s : Nat) : (-1 : Int32) &&& nI s = nI s := by
  apply Int32.toBitVec_inj.1
  show BitVec.ofInt 32 (-1) &&& BitVec.ofNat 32 s = BitVec.ofNat 32 s
  rw [show BitVec.ofInt 32 (-1) = BitVec.allOnes 32 by decide]
  exact BitVec.allOnes_and
def tgS (o : Option Nat) (x : Int32) : Prop := match o with
  | none => x = -1
  | some M => x = nI M
theorem mtight1 {n : Nat} (hn : n ≤ 10) {F w : Nat → Int} {al ve : Nat → Int32} (ha : ∀ S, S < 2 ^ n → al S = iI (F S)) (hv : ∀ x, x < n → ve x = iI (w x)) (hb : ∀ S, S < 2 ^ n → (F S).natAbs ≤ 3000000) (hw : ∀ x, -1000000 ≤ w x ∧ w x ≤ 1000000) {post : Int32 → Int32 → Prop} {x th : Int32} (h2 : ¬ ixN x n → post 0 2) (h0 : ∀ a, a < n → x = nI a → ∀ m M J, lowF (betw 0 0) (gap F w n) (2 ^ n) = some (m, M, J) → post (tgA F w n a m) 0) : wp_Mo_tight_0 1 (nI n) al ve post x th := by
  have h1024 := two_le hn
  have hg := gap_bd hn hb hw
  unfold wp_Mo_tight_0 wp_Mo_tight_24
  refine bn1 (by decide) ?_
  have h2' : ¬ ixN x n → wp_Mo_tight_29 1 (nI n) al ve post x 2 th := fun z => br_t (by decide) (br_f (by decide) (h2 z))
  rcases ix3 x (b := n) (by omega) with ⟨a1, a2⟩ | ⟨a1, a2, a3, a4⟩ | hi
  · exact br_t a1 (h2' a2)
  · exact br_f a1 (br_f a2 (h2' a4))
  · obtain ⟨a, ha9, rfl⟩ := hi
    refine br_f (nI_pos (by omega)) (br_t ((nI_ltI (by omega) (by omega)).mpr ha9) ?_)
    unfold wp_Mo_tight_29
    refine br_f (by decide) (mlean (p := 0) (q := 0) hn (Nat.two_pow_pos n) (by omega) rfl ha hv hg (fun m M J hm => ?_))
    have h0 := h0 a ha9 rfl m M J hm
    have mb := low_bd hg hm
    have e0 : (0 : Int32) ≤ pick3 0 m M J ↔ 0 ≤ m := iI_le (a := 0) (b := m) ⟨by omega, by omega⟩ ⟨by omega, by omega⟩
    rw [e0]
    unfold tgA at h0
    refine ⟨fun hm0 => ⟨2 ^ n + 1, ?_⟩, fun hm0 => ?_⟩
    · rw [if_neg (by omega)] at h0
      have fin : ∀ y, tgS (tgF a (gap F w n) (2 ^ n)) y → post y 0 := by
        intro y hy
        unfold tgS at hy
        cases e : tgF a (gap F w n) (2 ^ n) with
        | none => rw [e] at hy h0; rw [hy]; exact h0
        | some q => rw [e] at hy h0; rw [hy]; exact h0
      have hsh := nI_sh1 n (by omega)
      generalize hNe : 2 ^ n = N at *
      have loop : ∀ d i y, i + d = N → tgS (tgF a (gap F w n) i) y → wp_Mo_tight_67 1 (nI n) al ve post (d + 1) (nI a) y (nI i) 0 := by
        intro d
        induction d with
        | zero =>
          intro i y hi hy
          rw [wp_Mo_tight_67, hsh]
          have : i = N := by omega
          subst this
          exact br_t (nI_le (Nat.le_refl _) (by omega)) (fin y hy)
        | succ d ih =>
          intro i y hi hy
          rw [wp_Mo_tight_67, hsh]
          unfold wp_Mo_tight_103
          refine br_f (nI_ge (by omega) (by omega)) (has01 (by omega) (by omega) (fun hb9 => br_f (by decide) ⟨vp_in_nI (by omega) (by omega), sumOf_ok hn (by omega) hv ?_⟩) (fun hb9 => br_t rfl ?_))
          · have hbi := hb i (by omega)
            have hsb := sumV_bd (w := w) (s := i) (B := 1000000) hw n
            have h3 : n * 1000000 ≤ 10 * 1000000 := Nat.mul_le_mul_right _ hn
            rw [nI_clamp (by omega), ha i (by omega), iI_eq ⟨by omega, by omega⟩ ⟨by omega, by omega⟩, nI_1]
            refine ⟨fun q => ih (i + 1) y (by omega) ?_, fun q => ih (i + 1) (y &&& nI i) (by omega) ?_⟩
            · rw [tgF, if_neg (fun z => q (by have := z.2; unfold gap at this; omega))]
              exact hy
            · rw [tgF, if_pos ⟨hb9, by unfold gap; omega⟩]
              unfold tgS at hy ⊢
              cases e : tgF a (gap F w n) i with
              | none => rw [e] at hy; rw [hy]; exact and_m1 i
              | some q9 => rw [e] at hy; rw [hy]; exact nI_and q9 i
          · rw [nI_1]
            refine ih (i + 1) y (by omega) ?_
            rw [tgF, if_neg (fun z => by rw [hb9] at z; cases z.1)]
            exact hy
      exact loop N 0 (-1) (by omega) rfl
    · rw [if_pos (by omega)] at h0
      exact br_t (by decide) h0
/-! the chain -/
theorem cturns0 {cl : Int32} {post : Int32 → (Nat → Int64) → Prop} {o : Nat → Int64} (h : post 1 o) : wp_La_turns_0 0 cl post o := by
  unfold wp_La_turns_0 wp_Ls_turns_0
  exact nfun0 ⟨rfl, h⟩
theorem cturns1 {n : Nat} (h1 : 1 ≤ n) (hn : n ≤ 10) {cl : Int32} {post : Int32 → (Nat → Int64) → Prop} {o : Nat → Int64} (h : post 0 (vp_updL o (0 : Int32).toNatClampNeg cl.toInt64)) : wp_La_turns_0 (nI n) cl post o := by
  unfold wp_La_turns_0 wp_Ls_turns_0
  exact nfun1 h1 hn ⟨in01, h⟩
theorem mturns0 {nn : Int32} {al : Nat → Int32} {post : Int32 → Int32 → Int32 → (Nat → Int64) → (Nat → Int64) → (Nat → Int32) → Prop} {th tu : Int32} {ab be : Nat → Int64} {se : Nat → Int32} (h : post 0 1 tu ab be se) : wp_Mo_turns_0 0 nn al post th tu ab be se := br_t rfl (br_f (by decide) h)
theorem mturns1 {n k : Nat} (hn : n ≤ 10) (hk : k ≤ n) {F : Nat → Int} {A : Nat → Nat} {al : Nat → Int32} (ha : ∀ S, S < 2 ^ n → al S = iI (F S)) (hb : ∀ S, S < 2 ^ n → (F S).natAbs ≤ 3000000) (hC : ChainOk F n k A) {post : Int32 → Int32 → Int32 → (Nat → Int64) → (Nat → Int64) → (Nat → Int32) → Prop} {th tu : Int32} {ab be : Nat → Int64} {se : Nat → Int32} (h : ∀ tu ab be se, post (nI k) 0 tu ab be se) : wp_Mo_turns_0 1 (nI n) al post th tu ab be se := by
  unfold wp_Mo_turns_0 wp_Mo_turns_13
  exact br_f (by decide) (br_t (by decide) (findTurns_ok hn hk ha hb hC (fun ab be se _ _ _ => h _ _ _ _)))
/-- what turn answers -/
def trA (F : Nat → Int) (A : Nat → Nat) (i : Nat) (x : Int32) : Int32 := if x = 0 then iI (num (prI F A i) (qtI A i)) else if x = 1 then iI (den (prI F A i) (qtI A i)) else nI (A (i + 1))
theorem cturn0 {cl : Int32} {se : Nat → Int32} {ab be : Nat → Int64} {post : Int32 → (Nat → Int64) → Prop} {i x : Int32} {o : Nat → Int64} (h : post 1 o) : wp_La_turn_0 0 cl se ab be post i x o := by
  unfold wp_La_turn_0 wp_Ls_turn_0
  exact nfun0 (Or.inl ⟨rfl, h⟩)
theorem cturn1 {n k : Nat} (h1 : 1 ≤ n) (hn : n ≤ 10) (hk : k ≤ n) {F : Nat → Int} {A : Nat → Nat} {se tu : Nat → Int32} {ab be : Nat → Int64} (hA : ChainAt F k A ab be se tu) {post : Int32 → (Nat → Int64) → Prop} {i x : Int32} {o : Nat → Int64} (h2 : ¬ ixN i k → post 2 o) (h3 : ixN i k → ¬ ixN x 3 → post 3 o) (h0 : ∀ a, a < k → i = nI a → ixN x 3 → post 0 (vp_updL o (0 : Int32).toNatClampNeg (trA F A a x).toInt64)) : wp_La_turn_0 (nI n) (nI k) se ab be post i x o := by
  unfold wp_La_turn_0 wp_Ls_turn_0 wp_Ls_turn_19 wp_Ls_turn_72
  refine nfun1 h1 hn ?_
  rcases ix3 i (b := k) (by omega) with ⟨a1, a2⟩ | ⟨a1, a2, a3, a4⟩ | hi
  · exact br_t a1 (Or.inr (Or.inl ⟨rfl, h2 a2⟩))
  · exact br_f a1 (br_f a2 (Or.inr (Or.inl ⟨rfl, h2 a4⟩)))
  · have h3b := h3 hi
    obtain ⟨a, ha, rfl⟩ := hi
    refine br_f (nI_pos (by omega)) (br_t ((nI_ltI (by omega) (by omega)).mpr ha) (nbel_ok (b := 3) (by omega) (fun z => Or.inr (Or.inr ⟨rfl, h3b z⟩)) (fun z => ?_)))
    have h0 := h0 a ha rfl z
    rw [nI_clamp (by omega), hA.ab a ha, hA.be a ha, hA.se a ha, lI_32, lI_32]
    unfold trA at h0
    obtain ⟨c, hc, rfl⟩ := z
    have e0 : nI c = 0 ↔ c = 0 := nI_eq (a := c) (b := 0) (by omega) (by omega)
    have e1 : nI c = 1 ↔ c = 1 := nI_eq (a := c) (b := 1) (by omega) (by omega)
    have e2 : nI c = 2 ↔ c = 2 := nI_eq (a := c) (b := 2) (by omega) (by omega)
    simp only [e0, e1, e2] at h0 ⊢
    refine ⟨fun q2 => ⟨fun q0 => ⟨vp_in_nI (by omega) (by omega), in01, ?_⟩, fun q0 => ⟨vp_in_nI (by omega) (by omega), in01, ?_⟩⟩, fun q2 => ⟨vp_in_nI (by omega) (by omega), in01, ?_⟩⟩
    · rw [if_neg q0, if_pos (by omega)] at h0; exact h0
    · rw [if_pos q0] at h0; exact h0
    · rw [if_neg (by omega), if_neg (by omega)] at h0; exact h0
theorem mturn0 {nn : Int32} {al : Nat → Int32} {post : Int32 → Int32 → Int32 → (Nat → Int64) → (Nat → Int64) → (Nat → Int32) → Prop} {i x th tu : Int32} {ab be : Nat → Int64} {se : Nat → Int32} (h : post 0 1 tu ab be se) : wp_Mo_turn_0 0 nn al post i x th tu ab be se := br_t rfl (br_f (by decide) h)
theorem mturn1 {n k : Nat} (hn : n ≤ 10) (hk : k ≤ n) {F : Nat → Int} {A : Nat → Nat} {al : Nat → Int32} (ha : ∀ S, S < 2 ^ n → al S = iI (F S)) (hb : ∀ S, S < 2 ^ n → (F S).natAbs ≤ 3000000) (hC : ChainOk F n k A) {post : Int32 → Int32 → Int32 → (Nat → Int64) → (Nat → Int64) → (Nat → Int32) → Prop} {i x th tu : Int32} {ab be : Nat → Int64} {se : Nat → Int32} (h2 : ¬ ixN i k → ∀ tu ab be se, post 0 2 tu ab be se) (h3 : ixN i k → ¬ ixN x 3 → ∀ tu ab be se, post 0 3 tu ab be se) (h0 : ∀ a, a < k → i = nI a → ixN x 3 → ∀ tu ab be se, post (trA F A a x) 0 tu ab be se) : wp_Mo_turn_0 1 (nI n) al post i x th tu ab be se := by
  unfold wp_Mo_turn_0 wp_Mo_turn_13
  refine br_f (by decide) (br_t (by decide) (findTurns_ok hn hk ha hb hC (fun ab be se hab hbe hse => ?_)))
  unfold wp_Mo_turn_42 wp_Mo_turn_55
  have h2' : ¬ ixN i k → wp_Mo_turn_60 1 (nI n) al post i x 2 0 (nI k) ab be se := fun z => br_f (by decide) (h2 z _ _ _ _)
  have h3' : ixN i k → ¬ ixN x 3 → wp_Mo_turn_60 1 (nI n) al post i x 3 0 (nI k) ab be se := fun z z2 => br_f (by decide) (h3 z z2 _ _ _ _)
  rcases ix3 i (b := k) (by omega) with ⟨a1, a2⟩ | ⟨a1, a2, a3, a4⟩ | hi
  · exact br_t a1 (h2' a2)
  · exact br_f a1 (br_f a2 (h2' a4))
  · have h3' := h3' hi
    obtain ⟨a, ha9, rfl⟩ := hi
    refine br_f (nI_pos (by omega)) (br_t ((nI_ltI (by omega) (by omega)).mpr ha9) ?_)
    rcases ix3 x (b := 3) (by omega) with ⟨a1, a2⟩ | ⟨a1, a2, a3, a4⟩ | hx
    · exact br_t a1 (h3' a2)
    · exact br_f a1 (br_f (le_pred (b := 2) (by omega) a3) (h3' a4))
    · have h0 := h0 a ha9 rfl hx
      obtain ⟨c, hc, rfl⟩ := hx
      refine br_f (nI_pos (by omega)) (br_t ((nI_leI (a := c) (b := 2) (by omega) (by omega)).mpr (by omega)) (br_t (by decide) ?_))
      unfold wp_Mo_turn_109
      rw [nI_clamp (by omega), hab a ha9, hbe a ha9, hse a ha9, lI_32, lI_32]
      unfold trA at h0
      have e0 : nI c = 0 ↔ c = 0 := nI_eq (a := c) (b := 0) (by omega) (by omega)
      have e1 : nI c = 1 ↔ c = 1 := nI_eq (a := c) (b := 1) (by omega) (by omega)
      simp only [e0, e1] at h0 ⊢
      refine ⟨fun q0 => ⟨fun q1 => ⟨vp_in_nI (by omega) (by omega), ?_⟩, fun q1 => ⟨vp_in_nI (by omega) (by omega), ?_⟩⟩, fun q0 => ⟨vp_in_nI (by omega) (by omega), ?_⟩⟩
      · rw [if_neg q0, if_neg q1] at h0; exact h0 _ _ _ _
      · rw [if_neg q0, if_pos q1] at h0; exact h0 _ _ _ _
      · rw [if_pos q0] at h0; exact h0 _ _ _ _
def ptA (F : Nat → Int) (A : Nat → Nat) (i : Nat) (x : Int32) : Int32 := if x = 0 then iI (num (prI F A i) (qtI A i)) else iI (den (prI F A i) (qtI A i))
theorem cpoint0 {tu : Nat → Int32} {ab be : Nat → Int64} {post : Int32 → (Nat → Int64) → Prop} {i x : Int32} {o : Nat → Int64} (h : post 1 o) : wp_La_point_0 0 tu ab be post i x o := by
  unfold wp_La_point_0 wp_Ls_point_0
  exact nfun0 (Or.inl ⟨rfl, h⟩)
theorem cpoint1 {n k : Nat} (h1 : 1 ≤ n) (hn : n ≤ 10) (hk : k ≤ n) {F : Nat → Int} {A : Nat → Nat} {se tu : Nat → Int32} {ab be : Nat → Int64} (hC : ChainOk F n k A) (hA : ChainAt F k A ab be se tu) {post : Int32 → (Nat → Int64) → Prop} {i x : Int32} {o : Nat → Int64} (h2 : ¬ ixN i n → post 2 o) (h3 : ixN i n → ¬ ixN x 2 → post 3 o) (h0 : ∀ a j, a < n → i = nI a → ixN x 2 → j < k → inTurn A j a → post 0 (vp_updL o (0 : Int32).toNatClampNeg (ptA F A j x).toInt64)) : wp_La_point_0 (nI n) tu ab be post i x o := by
  unfold wp_La_point_0 wp_Ls_point_0 wp_Ls_point_49
  refine nfun1 h1 hn (nel_ok hn (fun z => Or.inr (Or.inl ⟨rfl, h2 z⟩)) (fun z => nbel_ok (b := 2) (by omega) (fun z2 => Or.inr (Or.inr ⟨rfl, h3 z z2⟩)) (fun z2 => ?_)))
  obtain ⟨a, ha, rfl⟩ := z
  obtain ⟨j, hj, ht⟩ := hC.turn_all ha
  have h0 := h0 a j ha rfl z2 hj ht
  rw [nI_clamp (by omega), hA.tu j hj a (by omega) ht.1 ht.2, nI_clamp (by omega), hA.ab j hj, hA.be j hj, lI_32, lI_32]
  unfold ptA at h0
  refine ⟨vp_in_nI (by omega) (by omega), fun q => ⟨vp_in_nI (by omega) (by omega), in01, ?_⟩, fun q => ⟨vp_in_nI (by omega) (by omega), in01, ?_⟩⟩
  · rw [if_neg q] at h0; exact h0
  · rw [if_pos q] at h0; exact h0
theorem mpoint0 {nn : Int32} {al : Nat → Int32} {post : Int32 → Int32 → Int32 → (Nat → Int64) → (Nat → Int64) → (Nat → Int32) → Prop} {i x th tu : Int32} {ab be : Nat → Int64} {se : Nat → Int32} (h : post 0 1 tu ab be se) : wp_Mo_point_0 0 nn al post i x th tu ab be se := bn0 rfl (br_f (by decide) h)
theorem mpoint1 {n k : Nat} (hn : n ≤ 10) (hk : k ≤ n) {F : Nat → Int} {A : Nat → Nat} {al : Nat → Int32} (ha : ∀ S, S < 2 ^ n → al S = iI (F S)) (hb : ∀ S, S < 2 ^ n → (F S).natAbs ≤ 3000000) (hC : ChainOk F n k A) {post : Int32 → Int32 → Int32 → (Nat → Int64) → (Nat → Int64) → (Nat → Int32) → Prop} {i x th tu : Int32} {ab be : Nat → Int64} {se : Nat → Int32} (h2 : ¬ ixN i n → post 0 2 tu ab be se) (h3 : ixN i n → ¬ ixN x 2 → post 0 3 tu ab be se) (h0 : ∀ a j, a < n → i = nI a → ixN x 2 → j < k → inTurn A j a → ∀ tu ab be se, post (ptA F A j x) 0 tu ab be se) : wp_Mo_point_0 1 (nI n) al post i x th tu ab be se := by
  have h1024 := two_le hn
  unfold wp_Mo_point_0 wp_Mo_point_24 wp_Mo_point_37
  refine bn1 (by decide) ?_
  have h2' : ¬ ixN i n → wp_Mo_point_42 1 (nI n) al post i x 2 th tu ab be se := fun z => br_f (by decide) (h2 z)
  have h3' : ixN i n → ¬ ixN x 2 → wp_Mo_point_42 1 (nI n) al post i x 3 th tu ab be se := fun z z2 => br_f (by decide) (h3 z z2)
  rcases ix3 i (b := n) (by omega) with ⟨a1, a2⟩ | ⟨a1, a2, a3, a4⟩ | hi
  · exact br_t a1 (h2' a2)
  · exact br_f a1 (br_f a2 (h2' a4))
  · have h3' := h3' hi
    obtain ⟨a, ha9, rfl⟩ := hi
    refine br_f (nI_pos (by omega)) (br_t ((nI_ltI (by omega) (by omega)).mpr ha9) ?_)
    rcases ix3 x (b := 2) (by omega) with ⟨a1, a2⟩ | ⟨a1, a2, a3, a4⟩ | hx
    · exact br_t a1 (h3' a2)
    · exact br_f a1 (br_f (le_pred (b := 1) (by omega) a3) (h3' a4))
    · have hx1 : ¬ x < 0 := by obtain ⟨c, hc, rfl⟩ := hx; exact nI_pos (by omega)
      have hx2 : x ≤ 1 := by obtain ⟨c, hc, rfl⟩ := hx; exact (nI_leI (a := c) (b := 1) (by omega) (by omega)).mpr (by omega)
      refine br_f hx1 (br_t hx2 ?_)
      obtain ⟨j, hj, ht⟩ := hC.turn_all ha9
      have h0 := h0 a j ha9 rfl hx hj ht
      unfold wp_Mo_point_42
      refine br_t (by decide) (findTurns_ok hn hk ha hb hC (fun ab be se hab hbe hse => ⟨j + 1, ?_⟩))
      have loop : ∀ d i, i + d = j → wp_Mo_point_60 1 (nI n) al post (d + 1) (nI a) x (nI i) 0 (nI k) ab be se := by
        intro d
        induction d with
        | zero =>
          intro i hi
          rw [wp_Mo_point_60]
          have : i = j := by omega
          subst this
          have hl := hC.lt (i := i + 1) (by omega)
          rw [nI_clamp (by omega), hse i hj, hab i hj, hbe i hj]
          unfold wp_Mo_point_98
          rw [lI_32, lI_32]
          unfold ptA at h0
          refine ⟨vp_in_nI (by omega) (by omega), has01 (by omega) (by omega) (fun _ => bn1 (by decide) ⟨fun q => ⟨vp_in_nI (by omega) (by omega), ?_⟩, fun q => ⟨vp_in_nI (by omega) (by omega), ?_⟩⟩) (fun q => by rw [ht.1] at q; cases q)⟩
          · rw [if_neg q] at h0; exact h0 _ _ _ _
          · rw [if_pos q] at h0; exact h0 _ _ _ _
        | succ d ih =>
          intro i hi
          rw [wp_Mo_point_60]
          have hl := hC.lt (i := i + 1) (by omega)
          rw [nI_clamp (by omega), hse i (by omega), nI_1]
          refine ⟨vp_in_nI (by omega) (by omega), has01 (by omega) (by omega) (fun q => ?_) (fun q => bn0 rfl (ih (i + 1) (by omega)))⟩
          have := hC.mono (i := i + 1) (j - (i + 1)) (by omega) a q
          rw [show i + 1 + (j - (i + 1)) = j by omega, ht.2] at this
          cases this
      exact loop j 0 (by omega)
theorem ccheck0 {fz fs cl : Int32} {be : Nat → Int64} {tu : Nat → Int32} {ab fv : Nat → Int64} {se : Nat → Int32} {post : Int32 → Int64 → Int32 → Int32 → Int64 → Int32 → Int32 → (Nat → Int64) → (Nat → Int32) → (Nat → Int64) → (Nat → Int64) → (Nat → Int64) → Prop} {tm : Int64} {a b : Int32} {c : Int64} {d e : Int32} {wh : Nat → Int64} {od : Nat → Int32} {ex g o : Nat → Int64} (h : post 1 tm a b c d e wh od ex g o) : wp_La_check_0 0 fz fs cl be tu ab fv se post tm a b c d e wh od ex g o := by
  unfold wp_La_check_0 wp_Ls_check_0
  exact nfun0 ⟨rfl, h⟩
theorem ccheck1 {n k : Nat} (h1 : 1 ≤ n) (hn : n ≤ 10) (hk : k ≤ n) {F : Nat → Int} {A : Nat → Nat} {be : Nat → Int64} {tu : Nat → Int32} {ab fv : Nat → Int64} {se : Nat → Int32} (hf : ∀ j, j < 2 ^ n → fv j = lI (F j)) (hb : ∀ j, j < 2 ^ n → (F j).natAbs ≤ 3000000) (hF0 : F 0 = 0) (hS : Subm F (2 ^ n)) (hC : ChainOk F n k A) (hA : ChainAt F k A ab be se tu) {post : Int32 → Int64 → Int32 → Int32 → Int64 → Int32 → Int32 → (Nat → Int64) → (Nat → Int32) → (Nat → Int64) → (Nat → Int64) → (Nat → Int64) → Prop} {tm : Int64} {a b : Int32} {c : Int64} {d e : Int32} {wh : Nat → Int64} {od : Nat → Int32} {ex g o : Nat → Int64} (h : ∀ tm a b c d e wh od ex g, post 0 tm a b c d e wh od ex g (vp_updL o (0 : Int32).toNatClampNeg (1 : Int32).toInt64)) : wp_La_check_0 (nI n) (nI n) (nI (2 ^ n)) (nI k) be tu ab fv se post tm a b c d e wh od ex g o := by
  unfold wp_La_check_0 wp_Ls_check_0 wp_Ls_check_27
  exact nfun1 h1 hn (holds_ok hn hk hf hb hF0 hS hC hA (fun tm a b c d e wh od ex g => br_f (by decide) ⟨in01, h _ _ _ _ _ _ _ _ _ _⟩))
theorem mcheck0 {post : Int32 → Int32 → Prop} {th : Int32} (h : post 0 1) : wp_Mo_check_0 0 post th := br_t rfl (br_f (by decide) h)
theorem mcheck1 {post : Int32 → Int32 → Prop} {th : Int32} (h : post 1 0) : wp_Mo_check_0 1 post th := br_f (by decide) (br_t (by decide) h)
