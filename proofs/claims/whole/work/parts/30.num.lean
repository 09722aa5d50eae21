/-! Numbers: Int32 and Int64 by whole numbers. Own work (nx_and, s_l after the starting texts on bits). -/
def iI (z : Int) : Int32 := Int32.ofInt z
def lI (z : Int) : Int64 := Int64.ofInt z
theorem nI_iI (n : Nat) : nI n = iI n := Int32.ofInt_eq_ofNat.symm
theorem lN_lI (n : Nat) : lN n = lI n := Int64.ofInt_eq_ofNat.symm
theorem iI_add (a b : Int) : iI a + iI b = iI (a + b) := (Int32.ofInt_add a b).symm
theorem iI_sub (a b : Int) : iI a - iI b = iI (a - b) := (Int32.ofInt_sub a b).symm
theorem iI_mul (a b : Int) : iI a * iI b = iI (a * b) := (Int32.ofInt_mul a b).symm
theorem iI_neg (a : Int) : -iI a = iI (-a) := (Int32.ofInt_neg a).symm
theorem lI_add (a b : Int) : lI a + lI b = lI (a + b) := (Int64.ofInt_add a b).symm
theorem lI_sub (a b : Int) : lI a - lI b = lI (a - b) := (Int64.ofInt_sub a b).symm
theorem lI_mul (a b : Int) : lI a * lI b = lI (a * b) := (Int64.ofInt_mul a b).symm
theorem lI_neg (a : Int) : -lI a = lI (-a) := (Int64.ofInt_neg a).symm
theorem iI_ti {z : Int} (h1 : -2147483648 ≤ z) (h2 : z < 2147483648) : (iI z).toInt = z := Int32.toInt_ofInt_of_le (by omega) (by omega)
theorem lI_ti {z : Int} (h1 : -9223372036854775808 ≤ z) (h2 : z < 9223372036854775808) : (lI z).toInt = z := Int64.toInt_ofInt_of_le (by omega) (by omega)
/-- small enough for an int, for a long -/
def bi (z : Int) : Prop := -2147483648 ≤ z ∧ z < 2147483648
def bl (z : Int) : Prop := -9223372036854775808 ≤ z ∧ z < 9223372036854775808
theorem iI_le {a b : Int} (ha : bi a) (hb : bi b) : iI a ≤ iI b ↔ a ≤ b := by rw [Int32.le_iff_toInt_le, iI_ti ha.1 ha.2, iI_ti hb.1 hb.2]
theorem iI_lt {a b : Int} (ha : bi a) (hb : bi b) : iI a < iI b ↔ a < b := by rw [Int32.lt_iff_toInt_lt, iI_ti ha.1 ha.2, iI_ti hb.1 hb.2]
theorem iI_eq {a b : Int} (ha : bi a) (hb : bi b) : iI a = iI b ↔ a = b := by rw [← Int32.toInt_inj, iI_ti ha.1 ha.2, iI_ti hb.1 hb.2]
theorem lI_le {a b : Int} (ha : bl a) (hb : bl b) : lI a ≤ lI b ↔ a ≤ b := by rw [Int64.le_iff_toInt_le, lI_ti ha.1 ha.2, lI_ti hb.1 hb.2]
theorem lI_lt {a b : Int} (ha : bl a) (hb : bl b) : lI a < lI b ↔ a < b := by rw [Int64.lt_iff_toInt_lt, lI_ti ha.1 ha.2, lI_ti hb.1 hb.2]
theorem lI_eq {a b : Int} (ha : bl a) (hb : bl b) : lI a = lI b ↔ a = b := by rw [← Int64.toInt_inj, lI_ti ha.1 ha.2, lI_ti hb.1 hb.2]
theorem iI_64 {z : Int} (h : bi z) : (iI z).toInt64 = lI z := by
  have h9 := h
  unfold bi at h9
  exact Int64.toInt_inj.mp (by rw [Int32.toInt_toInt64, iI_ti h.1 h.2, lI_ti (by omega) (by omega)])
theorem lI_32 (z : Int) : (lI z).toInt32 = iI z := Int64.toInt32_ofInt
theorem iI_of (x : Int32) : ∃ z, bi z ∧ x = iI z := ⟨x.toInt, ⟨by have := Int32.le_toInt x; omega, by have := Int32.toInt_lt x; omega⟩, (Int32.ofInt_toInt x).symm⟩
theorem lI_of (x : Int64) : ∃ z, bl z ∧ x = lI z := ⟨x.toInt, ⟨by have := Int64.le_toInt x; omega, by have := Int64.toInt_lt x; omega⟩, (Int64.ofInt_toInt x).symm⟩
theorem cmp_le {a b : Int} (ha : bl a) (hb : bl b) : lg_cmp (lI a) (lI b) ≤ 0 ↔ a ≤ b := by
  unfold lg_cmp
  simp only [gt_iff_lt, lI_lt hb ha, lI_eq ha hb]
  repeat' split
  · exact ⟨fun h => absurd h (by decide), fun h => by omega⟩
  · exact ⟨fun _ => by omega, fun _ => by decide⟩
  · exact ⟨fun _ => by omega, fun _ => by decide⟩
theorem cmp_ge {a b : Int} (ha : bl a) (hb : bl b) : 0 ≤ lg_cmp (lI a) (lI b) ↔ b ≤ a := by
  unfold lg_cmp
  simp only [gt_iff_lt, lI_lt hb ha, lI_eq ha hb]
  repeat' split
  · exact ⟨fun _ => by omega, fun _ => by decide⟩
  · exact ⟨fun _ => by omega, fun _ => by decide⟩
  · exact ⟨fun h => absurd h (by decide), fun h => by omega⟩
theorem cmp_gt {a b : Int} (ha : bl a) (hb : bl b) : 0 < lg_cmp (lI a) (lI b) ↔ b < a := by
  unfold lg_cmp
  simp only [gt_iff_lt, lI_lt hb ha, lI_eq ha hb]
  repeat' split
  · exact ⟨fun _ => by omega, fun _ => by decide⟩
  · exact ⟨fun h => absurd h (by decide), fun h => by omega⟩
  · exact ⟨fun h => absurd h (by decide), fun h => by omega⟩
theorem cmp_lt {a b : Int} (ha : bl a) (hb : bl b) : lg_cmp (lI a) (lI b) < 0 ↔ a < b := by
  unfold lg_cmp
  simp only [gt_iff_lt, lI_lt hb ha, lI_eq ha hb]
  repeat' split
  · exact ⟨fun h => absurd h (by decide), fun h => by omega⟩
  · exact ⟨fun h => absurd h (by decide), fun h => by omega⟩
  · exact ⟨fun _ => by omega, fun _ => by decide⟩
theorem cmp_eq {a b : Int} (ha : bl a) (hb : bl b) : lg_cmp (lI a) (lI b) = 0 ↔ a = b := by
  unfold lg_cmp
  simp only [gt_iff_lt, lI_lt hb ha, lI_eq ha hb]
  repeat' split
  · exact ⟨fun h => absurd h (by decide), fun h => by omega⟩
  · exact ⟨fun _ => by omega, fun _ => by decide⟩
  · exact ⟨fun h => absurd h (by decide), fun h => by omega⟩
theorem bi_nat {n : Nat} (h : n < 2147483648) : bi n := ⟨by omega, by omega⟩
theorem bl_of {z : Int} (h : bi z) : bl z := ⟨by have := h.1; omega, by have := h.2; omega⟩
/-! bits -/
theorem s_l : ∀ n, n < 32 → ((nI n &&& 31).toBitVec.smod 32).toNat = n := by decide +kernel
theorem nI_and (a b : Nat) : nI a &&& nI b = nI (a &&& b) := by
  apply Int32.toBitVec_inj.1
  show BitVec.ofNat 32 a &&& BitVec.ofNat 32 b = BitVec.ofNat 32 (a &&& b)
  apply BitVec.eq_of_getLsbD_eq
  intro i hi
  simp [hi]
theorem nI_or (a b : Nat) : nI a ||| nI b = nI (a ||| b) := by
  apply Int32.toBitVec_inj.1
  show BitVec.ofNat 32 a ||| BitVec.ofNat 32 b = BitVec.ofNat 32 (a ||| b)
  apply BitVec.eq_of_getLsbD_eq
  intro i hi
  simp [hi]
theorem nI_sh1 : ∀ x, x < 31 → (1 : Int32) <<< (nI x &&& 31) = nI (2 ^ x) := by decide +kernel
theorem nI_shr {s x : Nat} (hs : s < 2147483648) (hx : x < 32) : nI s >>> (nI x &&& 31) = nI (s / 2 ^ x) := pk_shrN hs _ x (s_l x hx)
theorem and_lt {a b n : Nat} (h : a < 2 ^ n) : a &&& b < 2 ^ n := Nat.lt_of_le_of_lt Nat.and_le_left h
theorem or_lt {a b n : Nat} (h : a < 2 ^ n) (h2 : b < 2 ^ n) : a ||| b < 2 ^ n := Nat.or_lt_two_pow h h2
theorem div_bit (s x : Nat) : s / 2 ^ x % 2 = if s.testBit x = true then 1 else 0 := by
  rw [Nat.testBit_eq_decide_div_mod_eq]
  have : s / 2 ^ x % 2 = 0 ∨ s / 2 ^ x % 2 = 1 := by omega
  rcases this with h | h <;> simp [h]
/-! arrays filled from the left -/
theorem updL_step (f g : Nat → Int64) (i : Nat) : vp_updL (fun j => if j < i then g j else f j) i (g i) = fun j => if j < i + 1 then g j else f j := by
  funext j
  unfold vp_updL
  by_cases h : j = i
  · subst h; simp
  · rw [if_neg h]
    dsimp only
    by_cases h2 : j < i
    · rw [if_pos h2, if_pos (by omega)]
    · rw [if_neg h2, if_neg (by omega)]
theorem upd_step (f g : Nat → Int32) (i : Nat) : upd (fun j => if j < i then g j else f j) i (g i) = fun j => if j < i + 1 then g j else f j := by
  funext j
  by_cases h : j = i
  · subst h; rw [pk_us]; simp
  · rw [pk_un h]
    by_cases h2 : j < i
    · rw [if_pos h2, if_pos (by omega)]
    · rw [if_neg h2, if_neg (by omega)]
theorem part0 {α : Type} (f g : Nat → α) : (fun j : Nat => if j < 0 then g j else f j) = f := by
  funext j
  rw [if_neg (by omega)]
theorem part_at {α : Type} (f g : Nat → α) (i : Nat) : (fun j : Nat => if j < i then g j else f j) i = f i := if_neg (by omega)
