/-! The reference cuts the text into the same words. Own work. -/
def trk (k : Nat) : Nat := [2, 3, 4, 5, 1, 7, 8, 9, 10, 11, 12, 0, 6].getD k 6
theorem trk_6 {k : Nat} (h : k ≤ 12) : trk k = 6 ↔ k = 12 := by
  have : ∀ k : Fin 13, trk k.val = 6 ↔ k.val = 12 := by decide
  exact this ⟨k, by omega⟩
theorem trk_inj {a b : Nat} (ha : a ≤ 12) (hb : b ≤ 12) (h : trk a = trk b) : a = b := by
  have : ∀ a b : Fin 13, trk a.val = trk b.val → a.val = b.val := by decide
  exact this ⟨a, by omega⟩ ⟨b, by omega⟩ h
theorem trk_le (k : Nat) : trk k ≤ 12 := by
  by_cases h : k < 13
  · have : ∀ k : Fin 13, trk k.val ≤ 12 := by decide
    exact this ⟨k, h⟩
  · have e : ([2, 3, 4, 5, 1, 7, 8, 9, 10, 11, 12, 0, 6] : List Nat)[k]? = none := List.getElem?_eq_none (by simp; omega)
    unfold trk
    rw [List.getD_eq_getElem?_getD, e]
    decide
def sp (t : Nat → Nat) (i : Nat) : Nat → Nat
  | 0 => 0
  | d + 1 => 128 * sp t i d + t (i + d)
theorem sp_lt {t : Nat → Nat} {i : Nat} : ∀ d, (∀ j, j < d → t (i + j) < 128) → sp t i d < 128 ^ d := by
  intro d
  induction d with
  | zero => intro _; rw [sp]; decide
  | succ d ih =>
    intro h
    have h1 := ih (fun j hj => h j (by omega))
    have h2 := h d (by omega)
    rw [sp, Nat.pow_succ]
    omega
theorem sp_0 (t : Nat → Nat) (i : Nat) : sp t i 0 = 0 := rfl
theorem sp_1 (t : Nat → Nat) (i : Nat) : sp t i 1 = 128 * (0) + t (i + 0) := rfl
theorem sp_2 (t : Nat → Nat) (i : Nat) : sp t i 2 = 128 * (128 * (0) + t (i + 0)) + t (i + 1) := rfl
theorem sp_3 (t : Nat → Nat) (i : Nat) : sp t i 3 = 128 * (128 * (128 * (0) + t (i + 0)) + t (i + 1)) + t (i + 2) := rfl
theorem sp_4 (t : Nat → Nat) (i : Nat) : sp t i 4 = 128 * (128 * (128 * (128 * (0) + t (i + 0)) + t (i + 1)) + t (i + 2)) + t (i + 3) := rfl
theorem sp_5 (t : Nat → Nat) (i : Nat) : sp t i 5 = 128 * (128 * (128 * (128 * (128 * (0) + t (i + 0)) + t (i + 1)) + t (i + 2)) + t (i + 3)) + t (i + 4) := rfl
theorem sp_6 (t : Nat → Nat) (i : Nat) : sp t i 6 = 128 * (128 * (128 * (128 * (128 * (128 * (0) + t (i + 0)) + t (i + 1)) + t (i + 2)) + t (i + 3)) + t (i + 4)) + t (i + 5) := rfl
theorem sp_7 (t : Nat → Nat) (i : Nat) : sp t i 7 = 128 * (128 * (128 * (128 * (128 * (128 * (128 * (0) + t (i + 0)) + t (i + 1)) + t (i + 2)) + t (i + 3)) + t (i + 4)) + t (i + 5)) + t (i + 6) := rfl
theorem name_0 {t : Nat → Nat} {i d : Nat} (hd : d < 8) (hb : ∀ j, j < d → 97 ≤ t (i + j) ∧ t (i + j) ≤ 122) : sp t i d = 242908517 ↔ spl t 0 i d = true := by
  rw [spl_iff]
  have hln : gx_ln 0 = 4 := by decide
  rw [hln]
  constructor
  · intro h
    rcases (show d = 0 ∨ d = 1 ∨ d = 2 ∨ d = 3 ∨ d = 4 ∨ d = 5 ∨ d = 6 ∨ d = 7 by omega) with rfl | rfl | rfl | rfl | rfl | rfl | rfl | rfl
    · rw [sp_0] at h
      exfalso
      omega
    · rw [sp_1] at h
      have b0 := hb 0 (by omega)
      exfalso
      omega
    · rw [sp_2] at h
      have b0 := hb 0 (by omega)
      have b1 := hb 1 (by omega)
      exfalso
      omega
    · rw [sp_3] at h
      have b0 := hb 0 (by omega)
      have b1 := hb 1 (by omega)
      have b2 := hb 2 (by omega)
      exfalso
      omega
    · rw [sp_4] at h
      have b0 := hb 0 (by omega)
      have b1 := hb 1 (by omega)
      have b2 := hb 2 (by omega)
      have b3 := hb 3 (by omega)
      have c0 : t (i + 0) = 115 := by omega
      have c1 : t (i + 1) = 105 := by omega
      have c2 : t (i + 2) = 122 := by omega
      have c3 : t (i + 3) = 101 := by omega
      refine ⟨rfl, fun j hj => ?_⟩
      rcases (show j = 0 ∨ j = 1 ∨ j = 2 ∨ j = 3 by omega) with rfl | rfl | rfl | rfl
      · rw [c0]; decide
      · rw [c1]; decide
      · rw [c2]; decide
      · rw [c3]; decide
    · rw [sp_5] at h
      have b0 := hb 0 (by omega)
      have b1 := hb 1 (by omega)
      have b2 := hb 2 (by omega)
      have b3 := hb 3 (by omega)
      have b4 := hb 4 (by omega)
      exfalso
      omega
    · rw [sp_6] at h
      have b0 := hb 0 (by omega)
      have b1 := hb 1 (by omega)
      have b2 := hb 2 (by omega)
      have b3 := hb 3 (by omega)
      have b4 := hb 4 (by omega)
      have b5 := hb 5 (by omega)
      exfalso
      omega
    · rw [sp_7] at h
      have b0 := hb 0 (by omega)
      have b1 := hb 1 (by omega)
      have b2 := hb 2 (by omega)
      have b3 := hb 3 (by omega)
      have b4 := hb 4 (by omega)
      have b5 := hb 5 (by omega)
      have b6 := hb 6 (by omega)
      exfalso
      omega
  · rintro ⟨h1, h2⟩
    subst h1
    rw [sp_4]
    have b0 := hb 0 (by omega)
    have c0 : t (i + 0) = 115 := (nI_eq (by omega) (by omega)).mp ((h2 0 (by omega)).trans (by decide : gx_chr 0 0 = nI 115))
    have b1 := hb 1 (by omega)
    have c1 : t (i + 1) = 105 := (nI_eq (by omega) (by omega)).mp ((h2 1 (by omega)).trans (by decide : gx_chr 0 1 = nI 105))
    have b2 := hb 2 (by omega)
    have c2 : t (i + 2) = 122 := (nI_eq (by omega) (by omega)).mp ((h2 2 (by omega)).trans (by decide : gx_chr 0 2 = nI 122))
    have b3 := hb 3 (by omega)
    have c3 : t (i + 3) = 101 := (nI_eq (by omega) (by omega)).mp ((h2 3 (by omega)).trans (by decide : gx_chr 0 3 = nI 101))
    omega
theorem name_1 {t : Nat → Nat} {i d : Nat} (hd : d < 8) (hb : ∀ j, j < d → 97 ≤ t (i + j) ∧ t (i + j) ≤ 122) : sp t i d = 4116142748788 ↔ spl t 1 i d = true := by
  rw [spl_iff]
  have hln : gx_ln 1 = 6 := by decide
  rw [hln]
  constructor
  · intro h
    rcases (show d = 0 ∨ d = 1 ∨ d = 2 ∨ d = 3 ∨ d = 4 ∨ d = 5 ∨ d = 6 ∨ d = 7 by omega) with rfl | rfl | rfl | rfl | rfl | rfl | rfl | rfl
    · rw [sp_0] at h
      exfalso
      omega
    · rw [sp_1] at h
      have b0 := hb 0 (by omega)
      exfalso
      omega
    · rw [sp_2] at h
      have b0 := hb 0 (by omega)
      have b1 := hb 1 (by omega)
      exfalso
      omega
    · rw [sp_3] at h
      have b0 := hb 0 (by omega)
      have b1 := hb 1 (by omega)
      have b2 := hb 2 (by omega)
      exfalso
      omega
    · rw [sp_4] at h
      have b0 := hb 0 (by omega)
      have b1 := hb 1 (by omega)
      have b2 := hb 2 (by omega)
      have b3 := hb 3 (by omega)
      exfalso
      omega
    · rw [sp_5] at h
      have b0 := hb 0 (by omega)
      have b1 := hb 1 (by omega)
      have b2 := hb 2 (by omega)
      have b3 := hb 3 (by omega)
      have b4 := hb 4 (by omega)
      exfalso
      omega
    · rw [sp_6] at h
      have b0 := hb 0 (by omega)
      have b1 := hb 1 (by omega)
      have b2 := hb 2 (by omega)
      have b3 := hb 3 (by omega)
      have b4 := hb 4 (by omega)
      have b5 := hb 5 (by omega)
      have c0 : t (i + 0) = 119 := by omega
      have c1 : t (i + 1) = 101 := by omega
      have c2 : t (i + 2) = 105 := by omega
      have c3 : t (i + 3) = 103 := by omega
      have c4 : t (i + 4) = 104 := by omega
      have c5 : t (i + 5) = 116 := by omega
      refine ⟨rfl, fun j hj => ?_⟩
      rcases (show j = 0 ∨ j = 1 ∨ j = 2 ∨ j = 3 ∨ j = 4 ∨ j = 5 by omega) with rfl | rfl | rfl | rfl | rfl | rfl
      · rw [c0]; decide
      · rw [c1]; decide
      · rw [c2]; decide
      · rw [c3]; decide
      · rw [c4]; decide
      · rw [c5]; decide
    · rw [sp_7] at h
      have b0 := hb 0 (by omega)
      have b1 := hb 1 (by omega)
      have b2 := hb 2 (by omega)
      have b3 := hb 3 (by omega)
      have b4 := hb 4 (by omega)
      have b5 := hb 5 (by omega)
      have b6 := hb 6 (by omega)
      exfalso
      omega
  · rintro ⟨h1, h2⟩
    subst h1
    rw [sp_6]
    have b0 := hb 0 (by omega)
    have c0 : t (i + 0) = 119 := (nI_eq (by omega) (by omega)).mp ((h2 0 (by omega)).trans (by decide : gx_chr 1 0 = nI 119))
    have b1 := hb 1 (by omega)
    have c1 : t (i + 1) = 101 := (nI_eq (by omega) (by omega)).mp ((h2 1 (by omega)).trans (by decide : gx_chr 1 1 = nI 101))
    have b2 := hb 2 (by omega)
    have c2 : t (i + 2) = 105 := (nI_eq (by omega) (by omega)).mp ((h2 2 (by omega)).trans (by decide : gx_chr 1 2 = nI 105))
    have b3 := hb 3 (by omega)
    have c3 : t (i + 3) = 103 := (nI_eq (by omega) (by omega)).mp ((h2 3 (by omega)).trans (by decide : gx_chr 1 3 = nI 103))
    have b4 := hb 4 (by omega)
    have c4 : t (i + 4) = 104 := (nI_eq (by omega) (by omega)).mp ((h2 4 (by omega)).trans (by decide : gx_chr 1 4 = nI 104))
    have b5 := hb 5 (by omega)
    have c5 : t (i + 5) = 116 := (nI_eq (by omega) (by omega)).mp ((h2 5 (by omega)).trans (by decide : gx_chr 1 5 = nI 116))
    omega
theorem name_2 {t : Nat → Nat} {i d : Nat} (hd : d < 8) (hb : ∀ j, j < d → 97 ≤ t (i + j) ∧ t (i + j) ≤ 122) : sp t i d = 1603939 ↔ spl t 2 i d = true := by
  rw [spl_iff]
  have hln : gx_ln 2 = 3 := by decide
  rw [hln]
  constructor
  · intro h
    rcases (show d = 0 ∨ d = 1 ∨ d = 2 ∨ d = 3 ∨ d = 4 ∨ d = 5 ∨ d = 6 ∨ d = 7 by omega) with rfl | rfl | rfl | rfl | rfl | rfl | rfl | rfl
    · rw [sp_0] at h
      exfalso
      omega
    · rw [sp_1] at h
      have b0 := hb 0 (by omega)
      exfalso
      omega
    · rw [sp_2] at h
      have b0 := hb 0 (by omega)
      have b1 := hb 1 (by omega)
      exfalso
      omega
    · rw [sp_3] at h
      have b0 := hb 0 (by omega)
      have b1 := hb 1 (by omega)
      have b2 := hb 2 (by omega)
      have c0 : t (i + 0) = 97 := by omega
      have c1 : t (i + 1) = 114 := by omega
      have c2 : t (i + 2) = 99 := by omega
      refine ⟨rfl, fun j hj => ?_⟩
      rcases (show j = 0 ∨ j = 1 ∨ j = 2 by omega) with rfl | rfl | rfl
      · rw [c0]; decide
      · rw [c1]; decide
      · rw [c2]; decide
    · rw [sp_4] at h
      have b0 := hb 0 (by omega)
      have b1 := hb 1 (by omega)
      have b2 := hb 2 (by omega)
      have b3 := hb 3 (by omega)
      exfalso
      omega
    · rw [sp_5] at h
      have b0 := hb 0 (by omega)
      have b1 := hb 1 (by omega)
      have b2 := hb 2 (by omega)
      have b3 := hb 3 (by omega)
      have b4 := hb 4 (by omega)
      exfalso
      omega
    · rw [sp_6] at h
      have b0 := hb 0 (by omega)
      have b1 := hb 1 (by omega)
      have b2 := hb 2 (by omega)
      have b3 := hb 3 (by omega)
      have b4 := hb 4 (by omega)
      have b5 := hb 5 (by omega)
      exfalso
      omega
    · rw [sp_7] at h
      have b0 := hb 0 (by omega)
      have b1 := hb 1 (by omega)
      have b2 := hb 2 (by omega)
      have b3 := hb 3 (by omega)
      have b4 := hb 4 (by omega)
      have b5 := hb 5 (by omega)
      have b6 := hb 6 (by omega)
      exfalso
      omega
  · rintro ⟨h1, h2⟩
    subst h1
    rw [sp_3]
    have b0 := hb 0 (by omega)
    have c0 : t (i + 0) = 97 := (nI_eq (by omega) (by omega)).mp ((h2 0 (by omega)).trans (by decide : gx_chr 2 0 = nI 97))
    have b1 := hb 1 (by omega)
    have c1 : t (i + 1) = 114 := (nI_eq (by omega) (by omega)).mp ((h2 1 (by omega)).trans (by decide : gx_chr 2 1 = nI 114))
    have b2 := hb 2 (by omega)
    have c2 : t (i + 2) = 99 := (nI_eq (by omega) (by omega)).mp ((h2 2 (by omega)).trans (by decide : gx_chr 2 2 = nI 99))
    omega
theorem name_3 {t : Nat → Nat} {i d : Nat} (hd : d < 8) (hb : ∀ j, j < d → 97 ≤ t (i + j) ∧ t (i + j) ≤ 122) : sp t i d = 26822359909 ↔ spl t 3 i d = true := by
  rw [spl_iff]
  have hln : gx_ln 3 = 5 := by decide
  rw [hln]
  constructor
  · intro h
    rcases (show d = 0 ∨ d = 1 ∨ d = 2 ∨ d = 3 ∨ d = 4 ∨ d = 5 ∨ d = 6 ∨ d = 7 by omega) with rfl | rfl | rfl | rfl | rfl | rfl | rfl | rfl
    · rw [sp_0] at h
      exfalso
      omega
    · rw [sp_1] at h
      have b0 := hb 0 (by omega)
      exfalso
      omega
    · rw [sp_2] at h
      have b0 := hb 0 (by omega)
      have b1 := hb 1 (by omega)
      exfalso
      omega
    · rw [sp_3] at h
      have b0 := hb 0 (by omega)
      have b1 := hb 1 (by omega)
      have b2 := hb 2 (by omega)
      exfalso
      omega
    · rw [sp_4] at h
      have b0 := hb 0 (by omega)
      have b1 := hb 1 (by omega)
      have b2 := hb 2 (by omega)
      have b3 := hb 3 (by omega)
      exfalso
      omega
    · rw [sp_5] at h
      have b0 := hb 0 (by omega)
      have b1 := hb 1 (by omega)
      have b2 := hb 2 (by omega)
      have b3 := hb 3 (by omega)
      have b4 := hb 4 (by omega)
      have c0 : t (i + 0) = 99 := by omega
      have c1 : t (i + 1) = 117 := by omega
      have c2 : t (i + 2) = 114 := by omega
      have c3 : t (i + 3) = 118 := by omega
      have c4 : t (i + 4) = 101 := by omega
      refine ⟨rfl, fun j hj => ?_⟩
      rcases (show j = 0 ∨ j = 1 ∨ j = 2 ∨ j = 3 ∨ j = 4 by omega) with rfl | rfl | rfl | rfl | rfl
      · rw [c0]; decide
      · rw [c1]; decide
      · rw [c2]; decide
      · rw [c3]; decide
      · rw [c4]; decide
    · rw [sp_6] at h
      have b0 := hb 0 (by omega)
      have b1 := hb 1 (by omega)
      have b2 := hb 2 (by omega)
      have b3 := hb 3 (by omega)
      have b4 := hb 4 (by omega)
      have b5 := hb 5 (by omega)
      exfalso
      omega
    · rw [sp_7] at h
      have b0 := hb 0 (by omega)
      have b1 := hb 1 (by omega)
      have b2 := hb 2 (by omega)
      have b3 := hb 3 (by omega)
      have b4 := hb 4 (by omega)
      have b5 := hb 5 (by omega)
      have b6 := hb 6 (by omega)
      exfalso
      omega
  · rintro ⟨h1, h2⟩
    subst h1
    rw [sp_5]
    have b0 := hb 0 (by omega)
    have c0 : t (i + 0) = 99 := (nI_eq (by omega) (by omega)).mp ((h2 0 (by omega)).trans (by decide : gx_chr 3 0 = nI 99))
    have b1 := hb 1 (by omega)
    have c1 : t (i + 1) = 117 := (nI_eq (by omega) (by omega)).mp ((h2 1 (by omega)).trans (by decide : gx_chr 3 1 = nI 117))
    have b2 := hb 2 (by omega)
    have c2 : t (i + 2) = 114 := (nI_eq (by omega) (by omega)).mp ((h2 2 (by omega)).trans (by decide : gx_chr 3 2 = nI 114))
    have b3 := hb 3 (by omega)
    have c3 : t (i + 3) = 118 := (nI_eq (by omega) (by omega)).mp ((h2 3 (by omega)).trans (by decide : gx_chr 3 3 = nI 118))
    have b4 := hb 4 (by omega)
    have c4 : t (i + 4) = 101 := (nI_eq (by omega) (by omega)).mp ((h2 4 (by omega)).trans (by decide : gx_chr 3 4 = nI 101))
    omega
theorem name_long {t : Nat → Nat} {k i d : Nat} (hk : k < 4) (hd : 7 < d) : spl t k i d = false := by
  cases q : spl t k i d
  · rfl
  · have := (spl_iff.mp q).1
    have := ln_le k hk
    omega
theorem lI_nat_eq {a b : Nat} (ha : a < 9223372036854775808) (hb : b < 9223372036854775808) : lg_cmp (lI a) (lI b) = 0 ↔ a = b := by
  rw [cmp_eq (bl_nat ha) (bl_nat hb)]
  omega
theorem nameKind_ok {t : Nat → Nat} {i d : Nat} (hb : ∀ j, j < d → 97 ≤ t (i + j) ∧ t (i + j) ≤ 122) {v : Nat} (hv : v = if d < 8 then sp t i d else 0) {post : Int32 → Prop} (h : post (nI (trk (nameK t i d)))) : wp_Mo_nameKind_0 post (lI v) := by
  have hvl : v < 9223372036854775808 := by
    rw [hv]
    split
    · have h1 := sp_lt (t := t) (i := i) d (fun j hj => by have := hb j hj; omega)
      have h2 : 128 ^ d ≤ 128 ^ 7 := Nat.pow_le_pow_right (by decide) (by omega)
      omega
    · omega
  have q0 : v = 242908517 ↔ spl t 0 i d = true := by
    rw [hv]
    split
    · next z => exact name_0 z hb
    · next z => rw [name_long (by decide) (by omega)]; simp
  have q1 : v = 4116142748788 ↔ spl t 1 i d = true := by
    rw [hv]
    split
    · next z => exact name_1 z hb
    · next z => rw [name_long (by decide) (by omega)]; simp
  have q2 : v = 1603939 ↔ spl t 2 i d = true := by
    rw [hv]
    split
    · next z => exact name_2 z hb
    · next z => rw [name_long (by decide) (by omega)]; simp
  have q3 : v = 26822359909 ↔ spl t 3 i d = true := by
    rw [hv]
    split
    · next z => exact name_3 z hb
    · next z => rw [name_long (by decide) (by omega)]; simp
  have l0 : lg_cmp (lI v) 242908517 = 0 ↔ v = 242908517 := lI_nat_eq (b := 242908517) hvl (by omega)
  have l1 : lg_cmp (lI v) 4116142748788 = 0 ↔ v = 4116142748788 := lI_nat_eq (b := 4116142748788) hvl (by omega)
  have l2 : lg_cmp (lI v) 1603939 = 0 ↔ v = 1603939 := lI_nat_eq (b := 1603939) hvl (by omega)
  have l3 : lg_cmp (lI v) 26822359909 = 0 ↔ v = 26822359909 := lI_nat_eq (b := 26822359909) hvl (by omega)
  unfold wp_Mo_nameKind_0 wp_Mo_nameKind_50
  rw [l0, l1, l2, l3, q0, q1, q2, q3]
  unfold nameK at h
  refine ⟨fun z => ?_, fun z => ?_⟩
  · rw [if_neg z] at h
    refine ⟨fun z => ?_, fun z => ?_⟩
    · rw [if_neg z] at h
      refine ⟨fun z => ?_, fun z => ?_⟩
      · rw [if_neg z] at h
        refine ⟨fun z => ?_, fun z => ?_⟩
        · rw [if_neg z] at h; exact h
        · rw [if_pos z] at h; exact h
      · rw [if_pos z] at h; exact h
    · rw [if_pos z] at h; exact h
  · rw [if_pos z] at h; exact h
theorem spelled_ok {t : Nat → Nat} {len : Nat} {f : Nat → Int32} (hT : Txt t len f) {i e : Nat} (hi : i < e) (he : e ≤ len) {post : Int64 → Prop} (h : post (lI ((if e - i < 8 then sp t i (e - i) else 0 : Nat) : Int))) : wp_Mo_spelled_0 f post (nI i) (nI e) := by
  have hl := hT.1
  have e0 : nI e - nI i = nI (e - i) := pk_sub (by omega)
  have e8 : (8 : Int32) ≤ nI (e - i) ↔ 8 ≤ e - i := nI_leI (a := 8) (b := e - i) (by omega) (by omega)
  have loop : e - i < 8 → ∀ d j, i + j + d = e → wp_Mo_spelled_5 f post (d + 1) (nI i) (nI e) (lI (sp t i j : Nat)) (nI (i + j)) := by
    intro h8 d
    induction d with
    | zero =>
      intro j hj
      rw [wp_Mo_spelled_5]
      refine br_t (nI_le (by omega) (by omega)) ?_
      rw [if_pos h8, show e - i = j by omega] at h
      exact h
    | succ d ih =>
      intro j hj
      rw [wp_Mo_spelled_5, e0, e8]
      obtain ⟨q, q1, q2⟩ := hT.2 (i + j) (by omega)
      refine br_f (nI_ge (by omega) (by omega)) (br_f (by omega) ⟨vp_in_nI (by omega) (by omega), ?_⟩)
      rw [nI_clamp (n := i + j) (by omega), q, nI_1, nI_iI (t (i + j)), iI_64 ⟨by omega, by omega⟩, show (128 : Int64) = lI 128 from rfl, lI_mul, lI_add]
      have := ih (j + 1) (by omega)
      rw [sp] at this
      rw [show (128 : Int) * (sp t i j : Nat) + (t (i + j) : Nat) = ((128 * sp t i j + t (i + j) : Nat) : Int) by omega]
      exact this
  unfold wp_Mo_spelled_0
  by_cases c : e - i < 8
  · exact ⟨_, loop c (e - i) 0 (by omega)⟩
  · refine ⟨1, ?_⟩
    rw [wp_Mo_spelled_5, e0, e8]
    rw [if_neg c] at h
    exact br_f (nI_ge (by omega) (by omega)) (br_t (by omega) h)
def lett (t : Nat → Nat) (len i : Nat) : Nat := if i < len then t i else 0
theorem letter_ok {t : Nat → Nat} {len : Nat} {f : Nat → Int32} (hT : Txt t len f) {i : Nat} (hi : i ≤ 600) {post : Int32 → Prop} (h : post (nI (lett t len i))) : wp_Mo_letter_0 (nI len) f post (nI i) := by
  have hl := hT.1
  unfold wp_Mo_letter_0 wp_Mo_letter_18
  unfold lett at h
  rw [nI_leI (by omega) (by omega)]
  refine ⟨fun z => ?_, fun z => ⟨vp_in_nI (by omega) (by omega), ?_⟩⟩
  · rw [if_neg (by omega)] at h; exact h
  · rw [if_pos (by omega)] at h
    rw [nI_clamp (by omega), (hT.2 i (by omega)).1]
    exact h
theorem lett_le {t : Nat → Nat} {len : Nat} {f : Nat → Int32} (hT : Txt t len f) (i : Nat) : lett t len i ≤ 126 := by
  unfold lett
  split
  · next h => exact (hT.2 i h).2.2
  · omega
theorem kindAt_letter {t : Nat → Nat} {i e : Nat} (h : isL (t i) = true) : kindAt t i e = nameK t i (e - i) := by unfold kindAt; rw [if_pos h]
theorem word_letters {t : Nat → Nat} {len i : Nat} (hi : i < len) (hL : isL (t i) = true) : ∀ j, i ≤ j → j < wend t len i → 97 ≤ t j ∧ t j ≤ 122 := by
  intro j h1 h2
  unfold wend at h2
  rw [if_pos hL] at h2
  by_cases z : j = i
  · subst z; exact of_decide_eq_true hL
  · exact of_decide_eq_true (run_in (P := isL) (len - (i + 1)) (i + 1) (by omega) j (by omega) h2)
/-- the arrays of the reference hold the words below w -/
def holdsM (t : Nat → Nat) (len w : Nat) (kf pf nf : Nat → Int32) : Prop := ∀ v, v < w → kf v = nI (trk (kd t len v)) ∧ pf v = nI (pos t len v) ∧ (kd t len v = 4 → nf v = nI (nm t len v))
theorem not_true {b : Bool} (h : ¬ b = false) : b = true := by cases b; exact absurd rfl h; rfl
theorem signKind_ok {c : Nat} (hc : c < 1000) {post : Int32 → Prop} (h : post (nI (trk (signK c)))) : wp_Mo_signKind_0 post (nI c) := signK_br (α := True) hc (g := fun k => nI (trk k)) h
theorem cut_ok {t : Nat → Nat} {len : Nat} {f : Nat → Int32} (hT : Txt t len f) {ws : Int32} {kf pf nf : Nat → Int32} {post : Int32 → (Nat → Int32) → (Nat → Int32) → (Nat → Int32) → Prop}
    (h : ∀ ws kf pf nf V, V ≤ 600 → (kd t len V = 11 ∨ kd t len V = 12) → (∀ v, v < V → kd t len v ≠ 11 ∧ kd t len v ≠ 12) → holdsM t len (V + 1) kf pf nf → post ws kf pf nf) : wp_Mo_cut_0 (nI len) f post ws kf pf nf := by
  have hl := hT.1
  have loop : ∀ m i w kf pf nf, i ≤ len → len - i + 2 ≤ m → run isB t len i = pos t len w → (∀ v, v < w → pos t len v < len ∧ kd t len v ≠ 12) → holdsM t len w kf pf nf → wp_Mo_cut_9 (nI len) f post m 1 (nI i) (nI w) kf pf nf := by
    intro m
    induction m with
    | zero => intro i w kf pf nf hi hm; omega
    | succ m ih =>
    intro i w kf pf nf hi hm hp hv hh
    have hw : w ≤ 600 := by
      apply Classical.byContradiction
      intro c
      have h1 := hv 600 (by omega)
      have := pos_ge t len 600 h1.1
      omega
    rw [wp_Mo_cut_9]
    refine br_f (by decide) ?_
    rw [nI_leI (by omega) (by omega)]
    refine ⟨fun z => ?_, fun z => ⟨vp_in_nI (by omega) (by omega), ?_⟩⟩
    · -- the end
      have hpe : ¬ pos t len w < len := by
        rw [← hp, run_end isB t z]; omega
      unfold wp_Mo_cut_223 wp_Mo_cut_260
      rw [nI_clamp (n := w) (by omega), nI_1]
      refine br_f (by decide) ⟨vp_in_nI (by omega) (by omega), vp_in_nI (by omega) (by omega), ?_⟩
      refine h _ _ _ _ w hw (Or.inl (kd_11.mpr hpe)) (fun v hv9 => ⟨fun q => kd_11.mp q (hv v hv9).1, (hv v hv9).2⟩) (fun v hv9 => ?_)
      by_cases c : v = w
      · subst c
        rw [pk_us, pk_us, kd_11.mpr hpe, pos_end hpe]
        exact ⟨rfl, rfl, fun q => absurd q (by decide)⟩
      · rw [pk_un c, pk_un c]
        exact hh v (by omega)
    · have hil : i < len := by omega
      obtain ⟨q, q1, q2⟩ := hT.2 i hil
      rw [nI_clamp (n := i) (by omega), q]
      refine signKind_ok (by omega) (MoL_ok (by omega) ?_)
      by_cases hb : t i = 32
      · -- a blank
        have hL : isL (t i) = false := decide_eq_false (by omega)
        have hD : isD (t i) = false := decide_eq_false (by omega)
        have go := ih (i + 1) w kf pf nf (by omega) (by omega) (by rw [← hp, run_yes hil (decide_eq_true hb)]) hv hh
        rw [hL]
        refine br_t rfl (MoD_ok (by omega) ?_)
        rw [hD]
        refine br_t rfl ?_
        unfold wp_Mo_cut_156 wp_Mo_cut_217
        rw [nI_1, hb]
        exact br_t rfl go
      · have hpi : pos t len w = i := by rw [← hp, run_no hil (decide_eq_false hb)]
        have hwi := pos_ge t len w (by omega)
        have hwl := wend_le t hil
        have hwg := wend_gt t len i
        have hkl := kindAt_le t i (wend t len i)
        have ekd : kd t len w = kindAt t i (wend t len i) := by unfold kd; rw [hpi, if_pos hil]
        have enm : nm t len w = numAt t i (wend t len i) := by unfold nm; rw [hpi, if_pos hil]
        have hne : ¬ nI (t i) = 32 := fun z => hb ((nI_eq (a := t i) (b := 32) (by omega) (by omega)).mp z)
        have store : ∀ x6, (kindAt t i (wend t len i) = 4 → x6 = nI (numAt t i (wend t len i))) → wp_Mo_cut_156 (nI len) f post (fun x1 x2 f_words f_kinds f_places f_numbers => wp_Mo_cut_9 (nI len) f post m x1 x2 f_words f_kinds f_places f_numbers) 1 (nI i) (nI (t i)) (nI (wend t len i)) (nI (trk (kindAt t i (wend t len i)))) x6 (nI w) kf pf nf := by
          intro x6 h6
          unfold wp_Mo_cut_156 wp_Mo_cut_216 wp_Mo_cut_217
          rw [nI_clamp (n := w) (by omega), nI_1]
          have e6 : nI (trk (kindAt t i (wend t len i))) = 6 ↔ kindAt t i (wend t len i) = 12 := by
            have := trk_le (kindAt t i (wend t len i))
            rw [← trk_6 hkl.1]
            exact nI_eq (a := trk (kindAt t i (wend t len i))) (b := 6) (by omega) (by omega)
          rw [e6]
          have hh' : holdsM t len (w + 1) (upd kf w (nI (trk (kindAt t i (wend t len i))))) (upd pf w (nI i)) (upd nf w x6) := by
            intro v hv9
            by_cases c : v = w
            · subst c
              rw [pk_us, pk_us, pk_us, ekd, enm, hpi]
              exact ⟨rfl, rfl, h6⟩
            · rw [pk_un c, pk_un c, pk_un c]
              exact hh v (by omega)
          refine br_f hne ⟨vp_in_nI (by omega) (by omega), vp_in_nI (by omega) (by omega), vp_in_nI (by omega) (by omega), fun z => ?_, fun z => ?_⟩
          · cases m with
            | zero => omega
            | succ m =>
              show wp_Mo_cut_9 (nI len) f post (m + 1) 0 (nI (wend t len i)) (nI (w + 1)) _ _ _
              rw [wp_Mo_cut_9]
              refine br_t rfl ?_
              unfold wp_Mo_cut_223 wp_Mo_cut_260
              exact br_t rfl (h _ _ _ _ w hw (Or.inr (by rw [ekd]; exact z)) (fun v hv9 => ⟨fun q => kd_11.mp q (hv v hv9).1, (hv v hv9).2⟩) hh')
          · exact ih (wend t len i) (w + 1) _ _ _ hwl (by omega) (by rw [pos, hpi, if_pos hil]) (fun v hv9 => by
              by_cases c : v = w
              · subst c; rw [hpi, ekd]; exact ⟨hil, z⟩
              · exact hv v (by omega)) hh'
        rw [i01_0]
        refine ⟨fun hL => MoD_ok (by omega) ?_, fun hL => ?_⟩
        · rw [i01_0]
          refine ⟨fun hD => ?_, fun hD => ?_⟩
          · -- a sign
            have ew : wend t len i = i + 1 := by unfold wend; rw [if_neg (by rw [hL]; decide), if_neg (by rw [hD]; decide)]
            have ek : kindAt t i (wend t len i) = signK (t i) := by unfold kindAt; rw [if_neg (by rw [hL]; decide), if_neg (by rw [hD]; decide)]
            have := store 0 (fun z => absurd (kindAt_4 z).1 (by rw [hD]; decide))
            rw [ek, ew] at this
            rw [nI_1]
            exact this
          · -- a number
            have hD := not_true hD
            have ew : wend t len i = run isD t len (i + 1) := by unfold wend; rw [if_neg (by rw [hL]; decide), if_pos hD]
            have ek : kindAt t i (wend t len i) = if 5 < wend t len i - i then 12 else 4 := by unfold kindAt; rw [if_neg (by rw [hL]; decide), if_pos hD]
            have hdig := word_digits hil hD hL
            have lp : ∀ d j, i + j + d = wend t len i → wp_Mo_cut_92 (nI len) f post (fun x1 x2 f_words f_kinds f_places f_numbers => wp_Mo_cut_9 (nI len) f post m x1 x2 f_words f_kinds f_places f_numbers) (d + 1) 1 (nI i) (nI (t i)) (nI (i + j)) (nI (nv t i (min j 5))) (nI w) kf pf nf := by
              intro d
              induction d with
              | zero =>
                intro j hj
                rw [wp_Mo_cut_92]
                refine letter_ok hT (by omega) (MoD_ok (by have := lett_le hT (i + j); omega) ?_)
                have hnd : isD (lett t len (i + j)) = false := by
                  unfold lett
                  split
                  · next c =>
                    have := run_stop (P := isD) (t := t) (len := len) (len - (i + 1)) (i + 1) (by omega)
                    rw [← ew, ← show i + j = wend t len i by omega] at this
                    exact this c
                  · rfl
                rw [hnd, pk_sub (show i ≤ i + j by omega)]
                refine br_t rfl ?_
                have e5 : nI (i + j - i) ≤ 5 ↔ i + j - i ≤ 5 := nI_leI (a := i + j - i) (b := 5) (by omega) (by omega)
                rw [e5]
                unfold wp_Mo_cut_154
                have ej : i + j = wend t len i := by omega
                rw [ej]
                refine ⟨fun z => ?_, fun z => ?_⟩
                · have := store (nI (nv t i (min j 5))) (fun z4 => by unfold numAt; rw [if_pos z4, show min j 5 = wend t len i - i by omega])
                  rw [ek, if_neg (by omega)] at this
                  exact this
                · have := store (nI (nv t i (min j 5))) (fun z4 => by rw [ek, if_pos (by omega)] at z4; omega)
                  rw [ek, if_pos (by omega)] at this
                  exact this
              | succ d ihd =>
                intro j hj
                rw [wp_Mo_cut_92]
                refine letter_ok hT (by omega) (MoD_ok (by have := lett_le hT (i + j); omega) ?_)
                have hdj := hdig (i + j) (by omega) (by omega)
                have ely : lett t len (i + j) = t (i + j) := by unfold lett; rw [if_pos (by omega)]
                have hnd : isD (lett t len (i + j)) = true := by rw [ely]; exact decide_eq_true hdj
                rw [hnd, pk_sub (show i ≤ i + j by omega)]
                refine br_f (by decide) ?_
                have e5 : 5 ≤ nI (i + j - i) ↔ 5 ≤ i + j - i := nI_leI (a := 5) (b := i + j - i) (by omega) (by omega)
                rw [e5]
                have nxt := ihd (j + 1) (by omega)
                unfold wp_Mo_cut_132
                refine ⟨fun z => ?_, fun z => letter_ok hT (by omega) ?_⟩
                · rw [nI_1]
                  rw [show min (j + 1) 5 = min j 5 by omega] at nxt
                  exact nxt
                · rw [nI_1, ely]
                  rw [show min (j + 1) 5 = min j 5 + 1 by omega, nv, show i + min j 5 = i + j by omega] at nxt
                  have e1 : (10 : Int32) * nI (nv t i (min j 5)) + nI (t (i + j)) - 48 = nI (10 * nv t i (min j 5) + (t (i + j) - 48)) := by
                    rw [show (10 : Int32) = iI 10 from rfl, show (48 : Int32) = iI 48 from rfl, nI_iI, nI_iI, nI_iI, iI_mul, iI_add, iI_sub]
                    congr 1
                    omega
                  rw [e1]
                  exact nxt
            exact ⟨_, lp (wend t len i - i) 0 (by omega)⟩
        · -- a name
          have hL := not_true hL
          have ew : wend t len i = run isL t len (i + 1) := by unfold wend; rw [if_pos hL]
          have hlet := word_letters hil hL
          have lp : ∀ d j, j + d = wend t len i → i < j → wp_Mo_cut_49 (nI len) f post (fun x1 x2 f_words f_kinds f_places f_numbers => wp_Mo_cut_9 (nI len) f post m x1 x2 f_words f_kinds f_places f_numbers) (d + 1) 1 (nI i) (nI (t i)) (nI j) 0 (nI w) kf pf nf := by
            intro d
            induction d with
            | zero =>
              intro j hj hij
              rw [wp_Mo_cut_49]
              refine letter_ok hT (by omega) (MoL_ok (by have := lett_le hT j; omega) ?_)
              have hnd : isL (lett t len j) = false := by
                unfold lett
                split
                · next c =>
                  have := run_stop (P := isL) (t := t) (len := len) (len - (i + 1)) (i + 1) (by omega)
                  rw [← ew, ← show j = wend t len i by omega] at this
                  exact this c
                · rfl
              rw [hnd]
              refine br_t rfl ?_
              have ej : j = wend t len i := by omega
              rw [ej]
              refine spelled_ok hT hwg hwl (nameKind_ok (t := t) (i := i) (d := wend t len i - i) (fun l hl9 => hlet (i + l) (by omega) (by omega)) rfl ?_)
              have := store 0 (fun z => absurd (kindAt_4 z).2.1 (by rw [hL]; decide))
              rw [kindAt_letter hL] at this
              exact this
            | succ d ihd =>
              intro j hj hij
              rw [wp_Mo_cut_49]
              refine letter_ok hT (by omega) (MoL_ok (by have := lett_le hT j; omega) ?_)
              have hdj := hlet j (by omega) (by omega)
              have hnd : isL (lett t len j) = true := by unfold lett; rw [if_pos (by omega)]; exact decide_eq_true hdj
              rw [hnd, nI_1]
              exact br_f (by decide) (ihd (j + 1) (by omega) (by omega))
          rw [nI_1]
          exact ⟨_, lp (wend t len i - (i + 1)) (i + 1) (by omega) (by omega)⟩
  unfold wp_Mo_cut_0
  exact ⟨len + 2, loop (len + 2) 0 0 kf pf nf (by omega) (by omega) rfl (fun v hv => by omega) (fun v hv => by omega)⟩
