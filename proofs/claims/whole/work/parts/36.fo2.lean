theorem cross {x1 x2 x3 y1 y2 y3 : Int} (h1 : 0 < y1) (h2 : 0 < y2) (h3 : 0 < y3) (a : x1 * y2 ≤ x2 * y1) (b : x2 * y3 ≤ x3 * y2) : x1 * y3 ≤ x3 * y1 := by
  refine mul_cancel_le h2 ?_
  have e1 : y2 * (x1 * y3) = (x1 * y2) * y3 := by rw [Int.mul_comm y2, Int.mul_assoc, Int.mul_comm y3, ← Int.mul_assoc]
  have e2 : (x2 * y1) * y3 = (x2 * y3) * y1 := by rw [Int.mul_assoc, Int.mul_comm y1, ← Int.mul_assoc]
  have e3 : (x3 * y2) * y1 = y2 * (x3 * y1) := by rw [Int.mul_comm x3, Int.mul_assoc]
  have := Int.mul_le_mul_of_nonneg_right a (show 0 ≤ y3 by omega)
  have := Int.mul_le_mul_of_nonneg_right b (show 0 ≤ y1 by omega)
  omega
theorem cross_lt {x1 x2 x3 y1 y2 y3 : Int} (h1 : 0 < y1) (h2 : 0 < y2) (h3 : 0 < y3) (a : x1 * y2 < x2 * y1) (b : x2 * y3 ≤ x3 * y2) : x1 * y3 < x3 * y1 := by
  apply Classical.byContradiction
  intro hc
  have := cross h3 h1 h2 (show x3 * y1 ≤ x1 * y3 by omega) (show x1 * y2 ≤ x2 * y1 by omega)
  -- x3 * y2 ≤ x2 * y3, so both are equal, and x1 * y2 ≥ x2 * y1
  have hb : x2 * y3 = x3 * y2 := by omega
  have := cross h2 h3 h1 (show x2 * y3 ≤ x3 * y2 by omega) (show x3 * y1 ≤ x1 * y3 by omega)
  omega
/-- the best size after the sizes up to a + 1 + d -/
def nbF (L : Nat → Int) (a : Nat) : Nat → Nat
  | 0 => a + 1
  | d + 1 => if (L (a + 2 + d) - L a) * ((nbF L a d : Int) - a) ≤ (L (nbF L a d) - L a) * (((a + 2 + d : Nat) : Int) - a) then a + 2 + d else nbF L a d
theorem nbF_spec (L : Nat → Int) (a : Nat) : ∀ d, a < nbF L a d ∧ nbF L a d ≤ a + 1 + d ∧ ∀ m, a < m → m ≤ a + 1 + d → (L (nbF L a d) - L a) * ((m : Int) - a) ≤ (L m - L a) * ((nbF L a d : Int) - a) ∧ ((L (nbF L a d) - L a) * ((m : Int) - a) = (L m - L a) * ((nbF L a d : Int) - a) → m ≤ nbF L a d) := by
  intro d
  induction d with
  | zero =>
    refine ⟨by rw [nbF]; omega, by rw [nbF]; omega, fun m h1 h2 => ?_⟩
    have : m = a + 1 := by omega
    subst this
    rw [nbF]
    exact ⟨Int.le_refl _, fun _ => Nat.le_refl _⟩
  | succ d ih =>
    obtain ⟨i1, i2, i3⟩ := ih
    rw [nbF]
    generalize hB : nbF L a d = B at *
    split
    next c =>
      refine ⟨by omega, by omega, fun m h1 h2 => ⟨?_, fun _ => by omega⟩⟩
      by_cases z : m = a + 2 + d
      · subst z; exact Int.le_refl _
      · exact cross (by omega) (by omega) (by omega) c (i3 m h1 (by omega)).1
    next c =>
      refine ⟨i1, by omega, fun m h1 h2 => ?_⟩
      by_cases z : m = a + 2 + d
      · subst z
        exact ⟨by omega, fun e => by omega⟩
      · exact i3 m h1 (by omega)
theorem iI_le_n {a b : Nat} (ha : a < 2147483648) (hb : b < 2147483648) : nI a < nI b ↔ a < b := nI_ltI ha hb
theorem nI_sub64 {a b : Nat} (h : a ≤ b) (hb : b < 2147483648) : (nI b - nI a).toInt64 = lI ((b : Int) - a) := by
  rw [nI_iI, nI_iI, iI_sub, iI_64 ⟨by omega, by omega⟩]
theorem small_mul {x y : Int} (hx : x.natAbs ≤ 10000000) (hy : y.natAbs ≤ 10000000) : bl (x * y) := by
  have h1 : (x * y).natAbs ≤ 10000000 * 10000000 := by
    rw [Int.natAbs_mul]
    exact Nat.mul_le_mul hx hy
  exact ⟨by omega, by omega⟩
theorem nextSize_ok {n a : Nat} (hn : n ≤ 10) (ha : a < n) {L : Nat → Int} {lo : Nat → Int64} (hlo : ∀ m, m ≤ n → lo m = lI (L m)) (hb : ∀ m, m ≤ n → (L m).natAbs ≤ 3000000) {post : Int32 → Prop} (h : post (nI (nbF L a (n - (a + 1))))) : wp_Ch_nextSize_0 lo post (nI a) (nI n) := by
  have loop : ∀ d i, a + 1 + i + d = n → wp_Ch_nextSize_9 lo post (d + 1) (nI a) (nI n) (nI (nbF L a i)) (nI (a + 2 + i)) := by
    intro d
    induction d with
    | zero =>
      intro i hi
      rw [wp_Ch_nextSize_9]
      refine br_t ((nI_ltI (by omega) (by omega)).mpr (by omega)) ?_
      rw [show i = n - (a + 1) by omega]
      exact h
    | succ d ih =>
      intro i hi
      rw [wp_Ch_nextSize_9]
      have hs := nbF_spec L a i
      refine br_f (fun z => by have := (nI_ltI (by omega) (by omega)).mp z; omega) ⟨vp_in_nI (by omega) (by omega), vp_in_nI (by omega) (by omega), vp_in_nI (by omega) (by omega), vp_in_nI (by omega) (by omega), ?_⟩
      have ih := ih (i + 1) (by omega)
      rw [nbF] at ih
      generalize nbF L a i = B at *
      obtain ⟨s1, s2, s3⟩ := hs
      rw [nI_clamp (n := a) (by omega), nI_clamp (n := B) (by omega), nI_clamp (n := a + 2 + i) (by omega), hlo a (by omega), hlo B (by omega), hlo (a + 2 + i) (by omega), lI_sub, lI_sub, nI_sub64 (by omega) (by omega), nI_sub64 (by omega) (by omega), lI_mul, lI_mul]
      have b1 := hb a (by omega)
      have b2 := hb B (by omega)
      have b3 := hb (a + 2 + i) (by omega)
      rw [cmp_gt (small_mul (by omega) (by omega)) (small_mul (by omega) (by omega))]
      refine ⟨fun c => ?_, fun c => ?_⟩
      · rw [wp_Ch_nextSize_64, nI_1]
        rw [if_neg (by omega)] at ih
        exact ih
      · rw [wp_Ch_nextSize_64, nI_1]
        rw [if_pos (by omega)] at ih
        exact ih
  unfold wp_Ch_nextSize_0
  refine ⟨n - (a + 1) + 1, ?_⟩
  have e1 : nI a + 1 = nI (a + 1) := nI_1 a
  have e2 : nI a + 2 = nI (a + 2) := by
    rw [show (2 : Int32) = nI 2 from rfl, nI_add]
  rw [e1, e2]
  exact loop (n - (a + 1)) 0 (by omega)
/-- a without b -/
def dif (a b : Nat) : Nat := a &&& (1023 ^^^ b)
theorem dif_bit {a b x : Nat} (ha : a < 1024) : (dif a b).testBit x = (a.testBit x && !b.testBit x) := by
  unfold dif
  rw [Nat.testBit_and, Nat.testBit_xor]
  cases h : a.testBit x
  · rfl
  · have hx := bit_lt (n := 10) ha h
    rw [show (1023 : Nat) = 2 ^ 10 - 1 from rfl, Nat.testBit_two_pow_sub_one, decide_eq_true hx]
    simp
theorem dif_lt {a b : Nat} (ha : a < 1024) : dif a b < 1024 := and_lt (n := 10) ha
theorem nI_dif {a b : Nat} (ha : a < 1024) : nI a &&& (nI b ^^^ -1) = nI (dif a b) := by
  apply Int32.toBitVec_inj.1
  show BitVec.ofNat 32 a &&& (BitVec.ofNat 32 b ^^^ BitVec.ofInt 32 (-1)) = BitVec.ofNat 32 (dif a b)
  apply BitVec.eq_of_getLsbD_eq
  intro i hi
  have h1 : (BitVec.ofInt 32 (-1)) = BitVec.allOnes 32 := by decide
  rw [h1]
  simp only [BitVec.getLsbD_and, BitVec.getLsbD_xor, BitVec.getLsbD_ofNat, BitVec.getLsbD_allOnes, hi, decide_true, Bool.true_and, dif_bit ha]
  simp
theorem and_pow {s x : Nat} : s &&& 2 ^ x = 0 ↔ s.testBit x = false := by
  constructor
  · intro h
    have := congrArg (fun z => Nat.testBit z x) h
    simpa [Nat.testBit_two_pow_self] using this
  · intro h
    apply Nat.eq_of_testBit_eq
    intro i
    rw [Nat.testBit_and, Nat.zero_testBit, Nat.testBit_two_pow]
    by_cases c : x = i
    · subst c; rw [h]; rfl
    · simp [c]
theorem nI_bit {s x : Nat} (hs : s < 1024) (hx : x < 10) : nI s &&& (1 <<< (nI x &&& 31)) = 0 ↔ s.testBit x = false := by
  rw [nI_sh1 x (by omega), nI_and, ← and_pow, ← nI_0, nI_eq (Nat.lt_of_lt_of_le (and_lt (n := 10) hs) (by decide)) (by omega)]
/-- the elements that come in get the turn's number -/
def turnS (B A k : Nat) (tu : Nat → Int32) (j : Nat) : Nat → Int32 := fun x => if x < j ∧ B.testBit x = true ∧ A.testBit x = false then nI k else tu x
theorem keepTurn_ok {n a b k : Nat} (hn : n ≤ 10) (hab : a < b) (hb : b ≤ n) (hk : k < 10) {L : Nat → Int} {st : Nat → Nat} {lo : Nat → Int64} {so : Nat → Int32} (hlo : ∀ m, m ≤ n → so m = nI (st m) ∧ lo m = lI (L m)) (hst : ∀ m, m ≤ n → st m < 1024) (hbd : ∀ m, m ≤ n → (L m).natAbs ≤ 3000000) {ab be : Nat → Int64} {se tu : Nat → Int32} {post : Int32 → (Nat → Int64) → (Nat → Int64) → (Nat → Int32) → (Nat → Int32) → Prop}
    (h : post (nI (k + 1)) (vp_updL ab k (lI (num (L b - L a) (b - a)))) (vp_updL be k (lI (den (L b - L a) (b - a)))) (upd se k (nI (st b))) (turnS (st b) (st a) k tu 10)) : wp_Ch_keepTurn_0 lo so post (nI a) (nI b) (nI k) ab be se tu := by
  have h1 := hst a (by omega)
  have h2 := hst b (by omega)
  have loop : ∀ (ab be : Nat → Int64) (se : Nat → Int32), post (nI (k + 1)) ab be se (turnS (st b) (st a) k tu 10) → ∀ d i, i + d = 10 → wp_Ch_keepTurn_73 lo so post (d + 1) (nI a) (nI b) (nI i) (nI k) ab be se (turnS (st b) (st a) k tu i) := by
    intro ab be se h d
    induction d with
    | zero =>
      intro i hi
      rw [wp_Ch_keepTurn_73]
      have : i = 10 := by omega
      subst this
      refine br_t (nI_le (a := 10) (Nat.le_refl _) (by omega)) ?_
      rw [nI_1]
      exact h
    | succ d ih =>
      intro i hi
      rw [wp_Ch_keepTurn_73]
      have ih := ih (i + 1) (by omega)
      refine br_f (nI_ge (b := 10) (by omega) (by omega)) ⟨vp_in_nI (by omega) (by omega), vp_in_nI (by omega) (by omega), ?_⟩
      rw [nI_clamp (n := a) (by omega), nI_clamp (n := b) (by omega), nI_clamp (n := i) (by omega), (hlo a (by omega)).1, (hlo b (by omega)).1, nI_dif h2, nI_bit (dif_lt h2) (by omega), dif_bit h2]
      refine ⟨fun c => ?_, fun c => ⟨vp_in_nI (by omega) (by omega), ?_⟩⟩
      · rw [wp_Ch_keepTurn_114, nI_1]
        have e : turnS (st b) (st a) k tu i = turnS (st b) (st a) k tu (i + 1) := by
          funext x
          unfold turnS
          by_cases z : x = i
          · subst z
            rw [if_neg (by omega), if_neg]
            intro ⟨_, u, v⟩
            rw [u, v] at c
            cases c
          · by_cases z2 : x < i
            · simp only [z2, show x < i + 1 by omega]
            · rw [if_neg (by omega), if_neg (by omega)]
        rw [e]
        exact ih
      · rw [wp_Ch_keepTurn_114, nI_1]
        have e : upd (turnS (st b) (st a) k tu i) i (nI k) = turnS (st b) (st a) k tu (i + 1) := by
          funext x
          by_cases z : x = i
          · subst z
            rw [pk_us]
            unfold turnS
            rw [if_pos]
            refine ⟨by omega, ?_⟩
            cases u : (st b).testBit x <;> cases v : (st a).testBit x <;> rw [u, v] at c <;> simp at c ⊢
          · rw [pk_un z]
            unfold turnS
            by_cases z2 : x < i
            · simp only [z2, show x < i + 1 by omega]
            · rw [if_neg (by omega), if_neg (by omega)]
        rw [e]
        exact ih
  unfold wp_Ch_keepTurn_0
  have b1 := hbd a (by omega)
  have b2 := hbd b (by omega)
  rw [nI_clamp (n := a) (by omega), nI_clamp (n := b) (by omega), nI_clamp (n := k) (by omega), (hlo a (by omega)).2, (hlo b (by omega)).2, (hlo b (by omega)).1, lI_sub, nI_sub64 (by omega) (by omega)]
  rw [show ((b : Int) - a) = ((b - a : Nat) : Int) by omega]
  have hg : 0 < Nat.gcd (L b - L a).natAbs (b - a) := gcd_pos (by omega)
  have hg2 : Nat.gcd (L b - L a).natAbs (b - a) ≤ b - a := Nat.gcd_le_right _ (by omega)
  refine ⟨vp_in_nI (by omega) (by omega), vp_in_nI (by omega) (by omega), commonDivisor_ok (by omega) (by omega) ?_⟩
  rw [show max 1 (Nat.gcd (L b - L a).natAbs (b - a)) = Nat.gcd (L b - L a).natAbs (b - a) by omega]
  rw [lI_div ⟨by omega, by omega⟩ ⟨by omega, by omega⟩, lI_div ⟨by omega, by omega⟩ ⟨by omega, by omega⟩, num_eq (by omega), den_eq (by omega)]
  refine ⟨lI_nz (by omega) hg, vp_in_nI (by omega) (by omega), lI_nz (by omega) hg, vp_in_nI (by omega) (by omega), vp_in_nI (by omega) (by omega), vp_in_nI (by omega) (by omega), 11, ?_⟩
  have e : turnS (st b) (st a) k tu 0 = tu := by
    funext x
    unfold turnS
    rw [if_neg (by omega)]
  have := loop _ _ _ h 10 0 rfl
  rw [e] at this
  exact this
def ChainOk (F : Nat → Int) (n k : Nat) (A : Nat → Nat) : Prop :=
  (A 0 = 0) ∧ (A k = 2 ^ n - 1) ∧ (∀ i, i < k → Tur F (2 ^ n) (A i) (A (i + 1)))
theorem ChainOk.zero {F : Nat → Int} {n k : Nat} {A : Nat → Nat} (h : ChainOk F n k A) : A 0 = 0 := h.1
theorem ChainOk.full {F : Nat → Int} {n k : Nat} {A : Nat → Nat} (h : ChainOk F n k A) : A k = 2 ^ n - 1 := h.2.1
theorem ChainOk.stp {F : Nat → Int} {n k : Nat} {A : Nat → Nat} (h : ChainOk F n k A) : ∀ i, i < k → Tur F (2 ^ n) (A i) (A (i + 1)) := h.2.2
def prI (F : Nat → Int) (A : Nat → Nat) (i : Nat) : Int := F (A (i + 1)) - F (A i)
def qtI (A : Nat → Nat) (i : Nat) : Nat := pop (A (i + 1)) - pop (A i)
def ChainAt (F : Nat → Int) (k : Nat) (A : Nat → Nat) (ab be : Nat → Int64) (se tu : Nat → Int32) : Prop :=
  (∀ i, i < k → ab i = lI (num (prI F A i) (qtI A i))) ∧ (∀ i, i < k → be i = lI (den (prI F A i) (qtI A i))) ∧ (∀ i, i < k → se i = nI (A (i + 1))) ∧ (∀ i, i < k → ∀ x, x < 10 → (A (i + 1)).testBit x = true → (A i).testBit x = false → tu x = nI i)
theorem ChainAt.ab {F : Nat → Int} {k : Nat} {A : Nat → Nat} {ab be : Nat → Int64} {se tu : Nat → Int32} (h : ChainAt F k A ab be se tu) : ∀ i, i < k → ab i = lI (num (prI F A i) (qtI A i)) := h.1
theorem ChainAt.be {F : Nat → Int} {k : Nat} {A : Nat → Nat} {ab be : Nat → Int64} {se tu : Nat → Int32} (h : ChainAt F k A ab be se tu) : ∀ i, i < k → be i = lI (den (prI F A i) (qtI A i)) := h.2.1
theorem ChainAt.se {F : Nat → Int} {k : Nat} {A : Nat → Nat} {ab be : Nat → Int64} {se tu : Nat → Int32} (h : ChainAt F k A ab be se tu) : ∀ i, i < k → se i = nI (A (i + 1)) := h.2.2.1
theorem ChainAt.tu {F : Nat → Int} {k : Nat} {A : Nat → Nat} {ab be : Nat → Int64} {se tu : Nat → Int32} (h : ChainAt F k A ab be se tu) : ∀ i, i < k → ∀ x, x < 10 → (A (i + 1)).testBit x = true → (A i).testBit x = false → tu x = nI i := h.2.2.2
def chA (F : Nat → Int) (n : Nat) : Nat → Nat
  | 0 => 0
  | i + 1 => stF F n (nbF (fun m => F (stF F n m)) (pop (chA F n i)) (n - (pop (chA F n i) + 1)))
theorem follow_ok {n : Nat} (hn : n ≤ 10) {F : Nat → Int} {f : Nat → Int64} (hf : ∀ j, j < 2 ^ n → f j = lI (F j)) (hb : ∀ j, j < 2 ^ n → (F j).natAbs ≤ 3000000) (hF0 : F 0 = 0) (hS : Subm F (2 ^ n)) {post : Int32 → (Nat → Int32) → (Nat → Int64) → (Nat → Int64) → (Nat → Int64) → (Nat → Int32) → (Nat → Int32) → Prop} {len : Int32} {so se tu : Nat → Int32} {lo ab be : Nat → Int64}
    (h : ∀ k A so lo ab be se tu, k ≤ n → ChainOk F n k A → ChainAt F k A ab be se tu → post (nI k) so lo ab be se tu) : wp_Ch_follow_0 (nI n) (nI (2 ^ n)) f post len so lo ab be se tu := by
  unfold wp_Ch_follow_0
  have h1024 := two_le hn
  have hpos := Nat.two_pow_pos n
  refine findLowestOfEachSize_ok hn hf (fun j hj => ⟨by have := hb j hj; omega, by have := hb j hj; omega⟩) (fun so lo hk => ⟨n + 1, ?_⟩)
  have hL : Lows F n (fun m => F (stF F n m)) (stF F n) := Lows.of hn
  have hbL : ∀ m, m ≤ n → (F (stF F n m)).natAbs ≤ 3000000 := fun m hm => hb _ (hL.lt m hm)
  have loop : ∀ d i ab be se tu, i + d = n → i ≤ pop (chA F n i) → (∃ p q, CInv F (2 ^ n) (chA F n i) p q) → (∀ j, j < i → Tur F (2 ^ n) (chA F n j) (chA F n (j + 1))) → ChainAt F i (chA F n) ab be se tu → wp_Ch_follow_14 (nI n) (nI (2 ^ n)) f post (d + 1) (nI (pop (chA F n i))) (nI i) (nI i) so lo ab be se tu := by
    have fin : ∀ i ab be se tu, i ≤ n → pop (chA F n i) = n → (∃ p q, CInv F (2 ^ n) (chA F n i) p q) → (∀ j, j < i → Tur F (2 ^ n) (chA F n j) (chA F n (j + 1))) → ChainAt F i (chA F n) ab be se tu → post (nI i) so lo ab be se tu := by
      intro i ab be se tu hi hp ⟨p, q, hc⟩ ht ha
      exact h i (chA F n) so lo ab be se tu hi ⟨rfl, pop_eq_n hn hc.lt hp, ht⟩ ha
    intro d
    induction d with
    | zero =>
      intro i ab be se tu hi hip hc ht ha
      rw [wp_Ch_follow_14]
      obtain ⟨p, q, hc1⟩ := id hc
      have hpn := pop_le_n hn hc1.lt
      exact br_t (nI_le (by omega) (by omega)) (fin i ab be se tu (by omega) (by omega) hc ht ha)
    | succ d ih =>
      intro i ab be se tu hi hip hc ht ha
      rw [wp_Ch_follow_14]
      obtain ⟨p, q, hc1⟩ := id hc
      have hpn := pop_le_n hn hc1.lt
      refine br_f (nI_ge (by omega) (by omega)) ?_
      refine ⟨fun c => ?_, fun c => ?_⟩
      · have := (nI_leI (by omega) (by omega)).mp c
        exact fin i ab be se tu (by omega) (by omega) hc ht ha
      · have c2 : pop (chA F n i) < n := by
          apply Classical.byContradiction
          intro z
          exact c (nI_le (by omega) (by omega))
        refine nextSize_ok hn c2 (L := fun m => F (stF F n m)) (fun m hm => (hk m hm).2) hbL ?_
        have hs := nbF_spec (fun m => F (stF F n m)) (pop (chA F n i)) (n - (pop (chA F n i) + 1))
        have hA1 : chA F n (i + 1) = stF F n (nbF (fun m => F (stF F n m)) (pop (chA F n i)) (n - (pop (chA F n i) + 1))) := rfl
        generalize hB : nbF (fun m => F (stF F n m)) (pop (chA F n i)) (n - (pop (chA F n i) + 1)) = B at *
        obtain ⟨s1, s2, s3⟩ := hs
        have hBn : B ≤ n := by omega
        have hT : Tur F (2 ^ n) (chA F n i) (chA F n (i + 1)) := by
          rw [hA1]
          exact Tur.make hn hS hL hc1 s1 hBn (fun m h1 h2 => s3 m h1 (by omega))
        have hsz : pop (chA F n (i + 1)) = B := by rw [hA1]; exact hL.size B hBn
        obtain ⟨e1, e2⟩ := hc1.at_size hn hL
        refine keepTurn_ok hn s1 hBn (by omega) (L := fun m => F (stF F n m)) (st := stF F n) hk (fun m hm => by have := hL.lt m hm; omega) hbL ?_
        have eP : F (stF F n B) - F (stF F n (pop (chA F n i))) = prI F (chA F n) i := by
          unfold prI; rw [hA1, e1]
        have eQ : B - pop (chA F n i) = qtI (chA F n) i := by
          unfold qtI; rw [hsz]
        rw [← hsz, nI_1]
        have hgo : ∀ ab be se tu, ChainAt F (i + 1) (chA F n) ab be se tu → wp_Ch_follow_14 (nI n) (nI (2 ^ n)) f post (d + 1) (nI (pop (chA F n (i + 1)))) (nI (i + 1)) (nI (i + 1)) so lo ab be se tu := by
          intro ab be se tu hcat
          refine ih (i + 1) ab be se tu (by omega) (by omega) ⟨_, _, hT.inv⟩ (fun j hj => ?_) hcat
          by_cases z : j = i
          · subst z; exact hT
          · exact ht j (by omega)
        refine hgo _ _ _ _ ?_
        rw [hsz, e1, ← hA1, show F (chA F n (i + 1)) - F (chA F n i) = prI F (chA F n) i from rfl, eQ]
        refine ⟨fun j hj => ?_, fun j hj => ?_, fun j hj => ?_, fun j hj x hx hx1 hx2 => ?_⟩
        · unfold vp_updL
          by_cases z : j = i
          · subst z; rw [if_pos rfl]
          · rw [if_neg z]; exact ha.ab j (by omega)
        · unfold vp_updL
          by_cases z : j = i
          · subst z; rw [if_pos rfl]
          · rw [if_neg z]; exact ha.be j (by omega)
        · by_cases z : j = i
          · subst z; rw [pk_us]
          · rw [pk_un z]; exact ha.se j (by omega)
        · unfold turnS
          by_cases z : j = i
          · subst z; rw [if_pos ⟨hx, hx1, hx2⟩]
          · rw [if_neg]
            · exact ha.tu j (by omega) x hx hx1 hx2
            · intro ⟨_, _, u⟩
              have : ∀ t, j + 1 + t ≤ i → (chA F n (j + 1 + t)).testBit x = true := by
                intro t
                induction t with
                | zero => intro _; exact hx1
                | succ t iht =>
                  intro hle
                  exact (ht (j + 1 + t) (by omega)).sub x (iht (by omega))
              have := this (i - (j + 1)) (by omega)
              rw [show j + 1 + (i - (j + 1)) = i by omega] at this
              rw [this] at u
              cases u
  have := loop n 0 ab be se tu (by omega) (by omega) ⟨_, _, CInv.first (B := 3000001) h1024 hpos hF0 (fun S hS => by have := hb S hS; omega) (by omega)⟩ (fun j hj => by omega) ⟨fun i hi => by omega, fun i hi => by omega, fun i hi => by omega, fun i hi => by omega⟩
  rw [show pop (chA F n 0) = 0 from pop_zero] at this
  exact this
