/-! extreme and tell. Own work. -/
def nib (x : Int64) (i : Nat) : Nat := x.toBitVec.toNat / 2 ^ (4 * i) % 2 ^ 4
theorem nib_lt (x : Int64) (i : Nat) : nib x i < 16 := Nat.mod_lt _ (by decide)
theorem nib_bit (x : Int64) (i k : Nat) : (nib x i).testBit k = (decide (k < 4) && x.toBitVec.getLsbD (4 * i + k)) := by
  unfold nib
  rw [Nat.testBit_mod_two_pow, Nat.testBit_div_two_pow, Nat.add_comm]
  rfl
theorem sh_c4 : ∀ i, i < 10 → (((4 : Int32) * nI i).toInt64.toUInt64 &&& Int64.toUInt64 63).toBitVec % 64 = BitVec.ofNat 64 (4 * i) := by decide +kernel
theorem sh_m4 : ∀ i, i < 10 → (((4 : Int32) * nI i).toInt64 &&& 63).toBitVec.smod 64 = BitVec.ofNat 64 (4 * i) := by decide +kernel
theorem b15 (k : Nat) : (15#32).getLsbD k = decide (k < 4) := by
  show Nat.testBit (15 % 2 ^ 32) k = _
  rw [show 15 % 2 ^ 32 = 2 ^ 4 - 1 from rfl, Nat.testBit_two_pow_sub_one]
theorem b15L (k : Nat) : (15#64).getLsbD k = decide (k < 4) := by
  show Nat.testBit (15 % 2 ^ 64) k = _
  rw [show 15 % 2 ^ 64 = 2 ^ 4 - 1 from rfl, Nat.testBit_two_pow_sub_one]
theorem cls_nib (x : Int64) {i : Nat} (hi : i < 10) : (x.toUInt64 >>> (((4 : Int32) * nI i).toInt64.toUInt64 &&& Int64.toUInt64 63)).toInt64.toInt32 &&& 15 = nI (nib x i) := by
  apply Int32.toBitVec_inj.1
  apply BitVec.eq_of_getLsbD_eq
  intro k hk
  have e1 : ((x.toUInt64 >>> (((4 : Int32) * nI i).toInt64.toUInt64 &&& Int64.toUInt64 63)).toInt64.toInt32 &&& 15).toBitVec = ((x.toBitVec >>> (BitVec.ofNat 64 (4 * i))).signExtend 32) &&& 15#32 := by
    rw [← sh_c4 i hi]
    rfl
  rw [e1, BitVec.getLsbD_and, b15, BitVec.getLsbD_signExtend, BitVec.ushiftRight_eq', BitVec.toNat_ofNat, Nat.mod_eq_of_lt (by omega), BitVec.getLsbD_ushiftRight]
  show _ = (BitVec.ofNat 32 (nib x i)).getLsbD k
  rw [BitVec.getLsbD_ofNat, nib_bit]
  simp only [hk, decide_true, Bool.true_and, show k < 64 by omega, if_true]
  rw [Bool.and_comm]
theorem mod_nib (x : Int64) {i : Nat} (hi : i < 10) : ((x >>> (((4 : Int32) * nI i).toInt64 &&& 63)) &&& 15).toInt32 = nI (nib x i) := by
  have h : (x >>> (((4 : Int32) * nI i).toInt64 &&& 63)) &&& 15 = lI (nib x i : Nat) := by
    apply Int64.toBitVec_inj.1
    apply BitVec.eq_of_getLsbD_eq
    intro k hk
    have e1 : ((x >>> (((4 : Int32) * nI i).toInt64 &&& 63)) &&& 15).toBitVec = (x.toBitVec.sshiftRight' (BitVec.ofNat 64 (4 * i))) &&& 15#64 := by
      rw [← sh_m4 i hi]
      rfl
    have e2 : (lI (nib x i : Nat)).toBitVec = BitVec.ofNat 64 (nib x i) := by
      rw [← lN_lI]
      rfl
    rw [e1, e2, BitVec.getLsbD_and, b15L, BitVec.getLsbD_ofNat, nib_bit]
    show ((x.toBitVec.sshiftRight (BitVec.ofNat 64 (4 * i)).toNat).getLsbD k && _) = _
    rw [BitVec.toNat_ofNat, Nat.mod_eq_of_lt (by omega), BitVec.getLsbD_sshiftRight]
    by_cases h8 : k < 4
    · rw [if_pos (by omega)]
      simp [h8, show ¬ 64 ≤ k by omega, hk]
    · simp [h8]
  rw [h, lI_32, ← nI_iI]
/-- the order is gone through: the set before x, or nothing if it is no order -/
def exF (o : Int64) (n x : Nat) : Nat → Nat → Nat → Nat → Option Nat
  | 0, _, _, b => some b
  | d + 1, i, s, b => if n ≤ nib o i ∨ s.testBit (nib o i) = true then none else exF o n x d (i + 1) (s ||| 2 ^ nib o i) (if nib o i = x then s else b)
theorem cextreme0 {fv : Nat → Int64} {post : Int32 → (Nat → Int64) → Prop} {od : Int64} {x : Int32} {o : Nat → Int64} (h : post 1 o) : wp_La_extreme_0 0 fv post od x o := by
  unfold wp_La_extreme_0 wp_Ls_extreme_0
  exact nfun0 (Or.inl ⟨rfl, h⟩)
theorem cextreme1 {n : Nat} (h1 : 1 ≤ n) (hn : n ≤ 10) {F : Nat → Int} {fv : Nat → Int64} (hf : ∀ S, S < 2 ^ n → fv S = lI (F S)) {post : Int32 → (Nat → Int64) → Prop} {od : Int64} {x : Int32} {o : Nat → Int64} (h2 : ¬ ixN x n → post 2 o) (h3 : ∀ a, a < n → x = nI a → exF od n a n 0 0 0 = none → post 3 o) (h0 : ∀ a b, a < n → x = nI a → exF od n a n 0 0 0 = some b → post 0 (vp_updL o (0 : Int32).toNatClampNeg (iI (F (b ||| 2 ^ a) - F b)).toInt64)) : wp_La_extreme_0 (nI n) fv post od x o := by
  have h1024 := two_le hn
  unfold wp_La_extreme_0 wp_Ls_extreme_0
  refine nfun1 h1 hn (nel_ok hn (fun z => Or.inr (Or.inl ⟨rfl, h2 z⟩)) (fun z => ?_))
  obtain ⟨a, ha, rfl⟩ := z
  have h3 := h3 a ha rfl
  have h0 := fun b => h0 a b ha rfl
  have loop : ∀ d i s b, i + d = n → s < 2 ^ n → b < 2 ^ n → exF od n a d i s b = exF od n a n 0 0 0 → wp_Ls_extreme_18 (nI n) fv (fun r6 => (vp_in 0 1) ∧ (post 0 (vp_updL o (0 : Int32).toNatClampNeg r6.toInt64))) (fun (k : Nat) => (k = 1 ∧ (post 1 o)) ∨ (k = 3 ∧ (post 2 o)) ∨ (k = 2 ∧ (post 3 o))) (d + 1) od (nI a) (nI s) (nI b) (nI i) := by
    intro d
    induction d with
    | zero =>
      intro i s b hi hs hb he
      rw [wp_Ls_extreme_18]
      have hba : b ||| 2 ^ a < 2 ^ n := or_lt hb (Nat.pow_lt_pow_right (by decide) ha)
      refine br_t (nI_le (by omega) (by omega)) (gain_ok (by omega) (by omega) ⟨in01, ?_⟩)
      rw [hf _ hba, hf _ hb, lI_sub, lI_32]
      exact h0 b he.symm
    | succ d ih =>
      intro i s b hi hs hb he
      rw [wp_Ls_extreme_18, cls_nib od (by omega)]
      rw [exF] at he
      have hnb := nib_lt od i
      unfold wp_Ls_extreme_58 wp_Ls_extreme_76
      refine br_f (nI_ge (by omega) (by omega)) ?_
      rw [nI_leI (by omega) (by omega)]
      refine ⟨fun z => Or.inr (Or.inr ⟨rfl, h3 ?_⟩), fun z => ?_⟩
      · rw [if_pos (Or.inl z)] at he; exact he.symm
      · rw [nI_bit (by omega) (by omega), nI_sh (by omega), nI_or, nI_1]
        refine ⟨fun zb => ?_, fun zb => Or.inr (Or.inr ⟨rfl, h3 ?_⟩)⟩
        · rw [if_neg (by rw [zb]; simp; omega)] at he
          have hs' : s ||| 2 ^ nib od i < 2 ^ n := or_lt hs (Nat.pow_lt_pow_right (by decide) (by omega))
          rw [nI_eq (by omega) (by omega)]
          refine ⟨fun zx => ih (i + 1) _ _ (by omega) hs' hb ?_, fun zx => ih (i + 1) _ _ (by omega) hs' hs ?_⟩
          · rw [if_neg zx] at he; exact he
          · rw [if_pos zx] at he; exact he
        · rw [if_pos (Or.inr (not_true zb))] at he; exact he.symm
  exact ⟨n + 1, loop n 0 0 0 (by omega) (Nat.two_pow_pos n) (Nat.two_pow_pos n) rfl⟩
theorem mextreme0 {nn : Int32} {al : Nat → Int32} {post : Int32 → Int32 → Prop} {od : Int64} {x th : Int32} (h : post 0 1) : wp_Mo_extreme_0 0 nn al post od x th := bn0 rfl (br_f (by decide) h)
theorem mextreme1 {n : Nat} (hn : n ≤ 10) {F : Nat → Int} {al : Nat → Int32} (hal : ∀ S, S < 2 ^ n → al S = iI (F S)) {post : Int32 → Int32 → Prop} {od : Int64} {x th : Int32} (h2 : ¬ ixN x n → post 0 2) (h3 : ∀ a, a < n → x = nI a → exF od n a n 0 0 0 = none → post 0 3) (h0 : ∀ a b, a < n → x = nI a → exF od n a n 0 0 0 = some b → post (iI (F (b ||| 2 ^ a) - F b)) 0) : wp_Mo_extreme_0 1 (nI n) al post od x th := by
  have h1024 := two_le hn
  unfold wp_Mo_extreme_0 wp_Mo_extreme_24
  refine bn1 (by decide) ?_
  have h2' : ¬ ixN x n → wp_Mo_extreme_29 1 (nI n) al post od x 2 th := fun z => br_f (by decide) (h2 z)
  rcases ix3 x (b := n) (by omega) with ⟨a1, a2⟩ | ⟨a1, a2, a3, a4⟩ | hi
  · exact br_t a1 (h2' a2)
  · exact br_f a1 (br_f a2 (h2' a4))
  · obtain ⟨a, ha, rfl⟩ := hi
    have h3 := h3 a ha rfl
    have h0 := fun b => h0 a b ha rfl
    refine br_f (nI_pos (by omega)) (br_t ((nI_ltI (by omega) (by omega)).mpr ha) ?_)
    unfold wp_Mo_extreme_29
    refine br_t (by decide) ⟨n + 2, ?_⟩
    have out : ∀ m s f i, exF od n a n 0 0 0 = none → wp_Mo_extreme_53 1 (nI n) al post (m + 1) od (nI a) s f 0 i 0 := by
      intro m s f i he
      rw [wp_Mo_extreme_53]
      unfold wp_Mo_extreme_159 wp_Mo_extreme_170 wp_Mo_extreme_184
      have := h3 he
      exact ⟨fun _ => br_t rfl (br_t rfl this), fun _ => br_t rfl (br_t rfl (br_t rfl this))⟩
    have loop : ∀ d i s b f, i + d = n → s < 2 ^ n → pop s = i → (s.testBit a = true → f = iI (F (b ||| 2 ^ a) - F b)) → exF od n a d i s b = exF od n a n 0 0 0 → wp_Mo_extreme_53 1 (nI n) al post (d + 2) od (nI a) (nI s) f 1 (nI i) 0 := by
      intro d
      induction d with
      | zero =>
        intro i s b f hi hs hp hf he
        rw [wp_Mo_extreme_53]
        unfold wp_Mo_extreme_159 wp_Mo_extreme_170 wp_Mo_extreme_184
        refine br_t (nI_le (by omega) (by omega)) (br_f (by decide) (br_f (by decide) ?_))
        have hfull := pop_eq_n hn hs (by omega)
        rw [hf (by rw [hfull, Nat.testBit_two_pow_sub_one]; exact decide_eq_true ha)]
        exact h0 b he.symm
      | succ d ih =>
        intro i s b f hi hs hp hf he
        rw [wp_Mo_extreme_53, mod_nib od (by omega)]
        rw [exF] at he
        have hnb := nib_lt od i
        refine br_f (nI_ge (by omega) (by omega)) (br_f (by decide) ?_)
        rw [nI_leI (by omega) (by omega)]
        have bad : (n ≤ nib od i ∨ s.testBit (nib od i) = true) → ∀ f, wp_Mo_extreme_103 1 (nI n) al post (fun x1 x3 x4 x5 x6 x7 f_thrown => wp_Mo_extreme_53 1 (nI n) al post (d + 2) x1 x3 x4 x5 x6 x7 f_thrown) od (nI a) (nI s) f (nI i) (nI (nib od i)) 0 := by
          intro hb f
          rw [if_pos hb] at he
          unfold wp_Mo_extreme_103 wp_Mo_extreme_104 wp_Mo_extreme_153
          exact br_t rfl (out _ _ _ _ he.symm)
        refine ⟨fun z => bad (Or.inl z) _, fun z => has01 (by omega) (by omega) (fun hb => bn1 (by decide) (bad (Or.inr hb) _)) (fun hb => bn0 rfl ?_)⟩
        rw [if_neg (by rw [hb]; simp; omega)] at he
        have h2n : 2 ^ nib od i < 2 ^ n := Nat.pow_lt_pow_right (by decide) (by omega)
        have hs' : s ||| 2 ^ nib od i < 2 ^ n := or_lt hs h2n
        have hp' : pop (s ||| 2 ^ nib od i) = i + 1 := by
          have e := pop_or_and s (2 ^ nib od i)
          rw [and_pow.mpr hb, pop_zero] at e
          have e1 : pop (2 ^ nib od i) = 1 := by
            have : ∀ k : Fin 10, pop (2 ^ k.val) = 1 := by decide
            exact this ⟨nib od i, by omega⟩
          omega
        unfold wp_Mo_extreme_104 wp_Mo_extreme_142 wp_Mo_extreme_153
        rw [nI_sh (by omega), nI_or, nI_1, nI_eq (by omega) (by omega), nI_clamp (by omega), nI_clamp (by omega)]
        refine br_f (by decide) ⟨fun zx => ih (i + 1) _ b f (by omega) hs' hp' (fun hb9 => hf ?_) ?_, fun zx => ⟨vp_in_nI (by omega) (by omega), vp_in_nI (by omega) (by omega), ih (i + 1) _ s _ (by omega) hs' hp' (fun _ => ?_) ?_⟩⟩
        · rw [Nat.testBit_or, Nat.testBit_two_pow, Bool.or_eq_true, decide_eq_true_iff] at hb9
          rcases hb9 with q | q
          · exact q
          · exact absurd q zx
        · rw [if_neg zx] at he; exact he
        · rw [hal _ hs', hal _ hs, iI_sub, zx]
        · rw [if_pos zx] at he; exact he
    exact loop n 0 0 0 0 (by omega) (Nat.two_pow_pos n) pop_zero (fun z => by simp at z) rfl
/-! tell -/
def tokT (n : Nat) (x v : Int32) : Prop := ixN x n ∧ ∃ z : Int, v = iI z ∧ -1000000 ≤ z ∧ z ≤ 1000000
theorem mMil : (-1000000 : Int32) = iI (-1000000) := by decide
theorem vcase (v : Int32) : (v < -1000000 ∧ ∀ z : Int, bi z → v = iI z → z < -1000000) ∨ (¬ v < -1000000 ∧ ¬ v ≤ 1000000 ∧ ∀ z : Int, bi z → v = iI z → 1000000 < z) ∨ ∃ z : Int, v = iI z ∧ -1000000 ≤ z ∧ z ≤ 1000000 := by
  obtain ⟨z, hz, rfl⟩ := iI_of v
  have e1 : iI z < -1000000 ↔ z < -1000000 := by rw [mMil]; exact iI_lt (a := z) (b := -1000000) hz ⟨by omega, by omega⟩
  have e2 : iI z ≤ 1000000 ↔ z ≤ 1000000 := iI_le (a := z) (b := 1000000) hz ⟨by omega, by omega⟩
  rw [e1, e2]
  by_cases h1 : z < -1000000
  · exact Or.inl ⟨h1, fun y hy e => by have := (iI_eq hz hy).mp e; omega⟩
  · by_cases h2 : z ≤ 1000000
    · exact Or.inr (Or.inr ⟨z, rfl, by omega, h2⟩)
    · exact Or.inr (Or.inl ⟨h1, h2, fun y hy e => by have := (iI_eq hz hy).mp e; omega⟩)
theorem ctell0 {gs : Int32} {post : Int32 → (Nat → Int64) → (Nat → Int64) → Prop} {x v : Int32} {ve gv : Nat → Int64} (h : post 1 ve gv) : wp_La_tell_0 0 gs post x v ve gv := by
  unfold wp_La_tell_0 wp_Ls_tell_0
  exact nfun0 (Or.inl ⟨rfl, h⟩)
def bigV (v : Int32) : Prop := ¬ ∃ z : Int, v = iI z ∧ -1000000 ≤ z ∧ z ≤ 1000000
theorem ctell1 {n : Nat} (h1 : 1 ≤ n) (hn : n ≤ 10) {G w : Nat → Int} {ve gv : Nat → Int64} (hv : ∀ x, x < n → ve x = lI (w x)) (hg : ∀ S, S < 2 ^ n → gv S = lI (G S - sumV w S n)) {post : Int32 → (Nat → Int64) → (Nat → Int64) → Prop} {x v : Int32} (h2 : ¬ ixN x n → post 2 ve gv) (h3 : ixN x n → bigV v → post 3 ve gv) (h0 : ∀ a (z : Int), a < n → x = nI a → v = iI z → -1000000 ≤ z → z ≤ 1000000 → ∀ gv', (∀ S, S < 2 ^ n → gv' S = lI (G S - sumV (fun y => if y = a then z else w y) S n)) → post 0 (vp_updL ve a (lI z)) gv') : wp_La_tell_0 (nI n) (nI (2 ^ n)) post x v ve gv := by
  have h1024 := two_le hn
  unfold wp_La_tell_0 wp_Ls_tell_0 wp_Ls_tell_21
  refine nfun1 h1 hn (nel_ok hn (fun z => Or.inr (Or.inl ⟨rfl, h2 z⟩)) (fun z => ?_))
  rcases vcase v with ⟨a1, a2⟩ | ⟨a1, a2, a3⟩ | ⟨c, rfl, c1, c2⟩
  · exact br_t a1 (Or.inr (Or.inr ⟨rfl, h3 z (fun ⟨c, e, c1, c2⟩ => by have := a2 c ⟨by omega, by omega⟩ e; omega)⟩))
  · exact br_f a1 (br_f a2 (Or.inr (Or.inr ⟨rfl, h3 z (fun ⟨c, e, c1, c2⟩ => by have := a3 c ⟨by omega, by omega⟩ e; omega)⟩)))
  · obtain ⟨a, ha, rfl⟩ := z
    have e1 : iI c < -1000000 ↔ c < -1000000 := by rw [mMil]; exact iI_lt (a := c) (b := -1000000) ⟨by omega, by omega⟩ ⟨by omega, by omega⟩
    have e2 : iI c ≤ 1000000 ↔ c ≤ 1000000 := iI_le (a := c) (b := 1000000) ⟨by omega, by omega⟩ ⟨by omega, by omega⟩
    rw [e1, e2]
    refine br_f (by omega) (br_t (by omega) ⟨vp_in_nI (by omega) (by omega), ?_⟩)
    rw [nI_sh (by omega), nI_clamp (by omega), hv a ha, iI_64 ⟨by omega, by omega⟩, lI_sub]
    refine add_ok (q := 0) h1024 (two_lt (by omega)) (by omega) ⟨vp_in_nI (by omega) (by omega), h0 a c ha rfl rfl c1 c2 _ (fun S hS => ?_)⟩
    have key : ∀ k, sumV (fun y => if y = a then c else w y) S k = sumV w S k + if a < k ∧ S.testBit a = true then c - w a else 0 := by
      intro k
      induction k with
      | zero => simp [sumV]
      | succ k ih =>
        rw [sumV, sumV, ih]
        by_cases q : k = a
        · subst q
          by_cases qb : S.testBit k = true
          · simp [qb]; omega
          · simp [qb]
        · by_cases qb : S.testBit k = true
          · by_cases ql : a < k
            · simp [qb, q, ql, show a < k + 1 by omega]; omega
            · simp [qb, q, ql, show ¬ a < k + 1 by omega]
          · by_cases ql : a < k
            · simp [qb, q, ql, show a < k + 1 by omega]
            · simp [qb, q, ql, show ¬ a < k + 1 by omega]
    rw [if_pos hS, hg S hS, key n]
    by_cases qb : S.testBit a = true
    · rw [if_pos (add_bit.mpr qb), if_pos ⟨ha, qb⟩, lI_add]
      congr 1; omega
    · rw [if_neg (fun q => qb (add_bit.mp q)), if_neg (fun q => qb q.2)]
      congr 1; omega
theorem mtell0 {nn : Int32} {post : Int32 → (Nat → Int32) → Prop} {x v th : Int32} {ve : Nat → Int32} (h : post 1 ve) : wp_Mo_tell_0 0 nn post x v th ve := bn0 rfl (bn1 (by decide) h)
theorem mtell1 {n : Nat} (hn : n ≤ 10) {post : Int32 → (Nat → Int32) → Prop} {x v th : Int32} {ve : Nat → Int32} (h2 : ¬ ixN x n → post 2 ve) (h3 : ixN x n → bigV v → post 3 ve) (h0 : ∀ a (z : Int), a < n → x = nI a → v = iI z → -1000000 ≤ z → z ≤ 1000000 → post 0 (upd ve a (iI z))) : wp_Mo_tell_0 1 (nI n) post x v th ve := by
  unfold wp_Mo_tell_0 wp_Mo_tell_24 wp_Mo_tell_40
  refine bn1 (by decide) ?_
  have h2' : ¬ ixN x n → wp_Mo_tell_45 1 (nI n) post x v 2 th ve := fun z => bn1 (by decide) (h2 z)
  have h3' : ixN x n → bigV v → wp_Mo_tell_45 1 (nI n) post x v 3 th ve := fun z q => bn1 (by decide) (h3 z q)
  rcases ix3 x (b := n) (by omega) with ⟨a1, a2⟩ | ⟨a1, a2, a3, a4⟩ | hi
  · exact br_t a1 (h2' a2)
  · exact br_f a1 (br_f a2 (h2' a4))
  · obtain ⟨a, ha, e⟩ := id hi
    have p1 : ¬ x < 0 := by rw [e]; exact nI_pos (by omega)
    have p2 : x < nI n := by rw [e]; exact (nI_ltI (by omega) (by omega)).mpr ha
    refine br_f p1 (br_t p2 ?_)
    rcases vcase v with ⟨a1, a2⟩ | ⟨a1, a2, a3⟩ | ⟨c, rfl, c1, c2⟩
    · exact br_t a1 (h3' hi (fun ⟨c, e, c1, c2⟩ => by have := a2 c ⟨by omega, by omega⟩ e; omega))
    · exact br_f a1 (br_f a2 (h3' hi (fun ⟨c, e, c1, c2⟩ => by have := a3 c ⟨by omega, by omega⟩ e; omega)))
    · have e1 : iI c < -1000000 ↔ c < -1000000 := by rw [mMil]; exact iI_lt (a := c) (b := -1000000) ⟨by omega, by omega⟩ ⟨by omega, by omega⟩
      have e2 : iI c ≤ 1000000 ↔ c ≤ 1000000 := iI_le (a := c) (b := 1000000) ⟨by omega, by omega⟩ ⟨by omega, by omega⟩
      rw [e1, e2]
      subst e
      unfold wp_Mo_tell_45 wp_Mo_tell_62
      rw [nI_clamp (by omega)]
      exact br_f (by omega) (br_t (by omega) (bn0 rfl ⟨vp_in_nI (by omega) (by omega), h0 a c ha rfl rfl c1 c2⟩))
