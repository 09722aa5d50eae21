/-! type, class and reference. Own work. -/
def byt (x : Int64) (i : Nat) : Nat := x.toBitVec.toNat / 2 ^ (8 * i) % 2 ^ 8
theorem byt_lt (x : Int64) (i : Nat) : byt x i < 256 := Nat.mod_lt _ (by decide)
theorem byt_bit (x : Int64) (i k : Nat) : (byt x i).testBit k = (decide (k < 8) && x.toBitVec.getLsbD (8 * i + k)) := by
  unfold byt
  rw [Nat.testBit_mod_two_pow, Nat.testBit_div_two_pow, Nat.add_comm]
  rfl
theorem sh_c : ∀ i, i < 8 → (((8 : Int32) * nI i).toInt64.toUInt64 &&& Int64.toUInt64 63).toBitVec % 64 = BitVec.ofNat 64 (8 * i) := by decide +kernel
theorem sh_m : ∀ i, i < 8 → (((8 : Int32) * nI i).toInt64 &&& 63).toBitVec.smod 64 = BitVec.ofNat 64 (8 * i) := by decide +kernel
theorem b255 (k : Nat) : (255#32).getLsbD k = decide (k < 8) := by
  show Nat.testBit (255 % 2 ^ 32) k = _
  rw [show 255 % 2 ^ 32 = 2 ^ 8 - 1 from rfl, Nat.testBit_two_pow_sub_one]
theorem b255L (k : Nat) : (255#64).getLsbD k = decide (k < 8) := by
  show Nat.testBit (255 % 2 ^ 64) k = _
  rw [show 255 % 2 ^ 64 = 2 ^ 8 - 1 from rfl, Nat.testBit_two_pow_sub_one]
theorem cls_byte (x : Int64) {i : Nat} (hi : i < 8) : (x.toUInt64 >>> (((8 : Int32) * nI i).toInt64.toUInt64 &&& Int64.toUInt64 63)).toInt64.toInt32 &&& 255 = nI (byt x i) := by
  apply Int32.toBitVec_inj.1
  apply BitVec.eq_of_getLsbD_eq
  intro k hk
  have e1 : ((x.toUInt64 >>> (((8 : Int32) * nI i).toInt64.toUInt64 &&& Int64.toUInt64 63)).toInt64.toInt32 &&& 255).toBitVec = ((x.toBitVec >>> (BitVec.ofNat 64 (8 * i))).signExtend 32) &&& 255#32 := by
    rw [← sh_c i hi]
    rfl
  rw [e1, BitVec.getLsbD_and, b255, BitVec.getLsbD_signExtend, BitVec.ushiftRight_eq', BitVec.toNat_ofNat, Nat.mod_eq_of_lt (by omega), BitVec.getLsbD_ushiftRight]
  show _ = (BitVec.ofNat 32 (byt x i)).getLsbD k
  rw [BitVec.getLsbD_ofNat, byt_bit]
  simp only [hk, decide_true, Bool.true_and, show k < 64 by omega, if_true]
  rw [Bool.and_comm]
theorem mod_byte (x : Int64) {i : Nat} (hi : i < 8) : (x >>> (((8 : Int32) * nI i).toInt64 &&& 63)) &&& 255 = lI (byt x i : Nat) := by
  apply Int64.toBitVec_inj.1
  apply BitVec.eq_of_getLsbD_eq
  intro k hk
  have e1 : ((x >>> (((8 : Int32) * nI i).toInt64 &&& 63)) &&& 255).toBitVec = (x.toBitVec.sshiftRight' (BitVec.ofNat 64 (8 * i))) &&& 255#64 := by
    rw [← sh_m i hi]
    rfl
  have e2 : (lI (byt x i : Nat)).toBitVec = BitVec.ofNat 64 (byt x i) := by
    rw [← lN_lI]
    rfl
  rw [e1, e2, BitVec.getLsbD_and, b255L, BitVec.getLsbD_ofNat, byt_bit]
  show ((x.toBitVec.sshiftRight (BitVec.ofNat 64 (8 * i)).toNat).getLsbD k && _) = _
  rw [BitVec.toNat_ofNat, Nat.mod_eq_of_lt (by omega), BitVec.getLsbD_sshiftRight]
  by_cases h8 : k < 8
  · rw [if_pos (by omega)]
    simp [h8, show ¬ 64 ≤ k by omega, hk]
  · simp [h8]
/-- the text after c of m characters of x have come to it -/
def tt (x : Int64) (m len : Nat) (t : Nat → Nat) (c : Nat) : Nat → Nat := fun j => if len ≤ j ∧ j < len + c then byt x (m - 1 - (j - len)) else t j
theorem Txt.app {x : Int64} {m len c : Nat} {t : Nat → Nat} {f : Nat → Int32} (h : Txt (tt x m len t c) (len + c) f) (hl : len + c < 600) (hb : 32 ≤ byt x (m - 1 - c) ∧ byt x (m - 1 - c) ≤ 126) : Txt (tt x m len t (c + 1)) (len + (c + 1)) (upd f (len + c) (nI (byt x (m - 1 - c)))) := by
  refine ⟨by omega, fun i hi => ?_⟩
  by_cases z : i = len + c
  · subst z
    have e : tt x m len t (c + 1) (len + c) = byt x (m - 1 - c) := by
      unfold tt
      rw [if_pos (by omega)]
      congr 1
      omega
    rw [pk_us, e]
    exact ⟨rfl, hb⟩
  · have e : tt x m len t (c + 1) i = tt x m len t c i := by
      unfold tt
      by_cases q : len ≤ i
      · rw [if_pos (by omega), if_pos (by omega)]
      · rw [if_neg (by omega), if_neg (by omega)]
    rw [pk_un z, e]
    exact h.2 i (by omega)
theorem tt0 (x : Int64) (m len : Nat) (t : Nat → Nat) : tt x m len t 0 = t := by
  funext j
  unfold tt
  rw [if_neg (by omega)]
def fineT (x : Int64) (m : Nat) : Prop := ∀ k, k < m → 32 ≤ byt x k ∧ byt x k ≤ 126
theorem chr_nar : ∀ b, b < 256 → vp_nar .char (((nI b).toUInt32 % 65536).toInt32) = nI b := by decide +kernel
theorem byteOf_ok {x : Int64} {i : Nat} (hi : i < 8) {post : Int32 → Prop} (h : post (nI (byt x i))) : wp_Ls_byteOf_0 post x (nI i) := by
  unfold wp_Ls_byteOf_0
  rw [cls_byte x hi]
  exact h
theorem ctype_ok {x : Int64} {z : Int} (hz : bi z) {t : Nat → Nat} {len : Nat} {f : Nat → Int32} (hT : Txt t len f) {post : Int32 → Int32 → (Nat → Int32) → Prop}
    (hno : (¬ ∃ m : Nat, z = m ∧ 1 ≤ m ∧ m ≤ 8 ∧ len + m ≤ 600 ∧ fineT x m) → post (-1) (nI len) f)
    (hyes : ∀ m : Nat, z = m → 1 ≤ m → m ≤ 8 → len + m ≤ 600 → fineT x m → ∀ f', Txt (tt x m len t m) (len + m) f' → post (nI (len + m)) (nI (len + m)) f') : wp_Ls_type_0 post x (iI z) (nI len) f := by
  have hl := hT.1
  unfold wp_Ls_type_0 wp_Ls_type_33
  have c1 : iI z < 1 ↔ z < 1 := iI_lt (a := z) (b := 1) hz ⟨by omega, by omega⟩
  have c8 : (8 : Int32) < iI z ↔ 8 < z := iI_lt (a := 8) (b := z) ⟨by omega, by omega⟩ hz
  rw [c1, c8]
  refine ⟨fun q => hno (fun ⟨m, h1, h2, _⟩ => by omega), fun q => ⟨fun q2 => hno (fun ⟨m, h1, h2, h3, _⟩ => by omega), fun q2 => ?_⟩⟩
  obtain ⟨m, hm⟩ : ∃ m : Nat, z = m := ⟨z.toNat, by omega⟩
  subst hm
  rw [← nI_iI, nI_add]
  have c6 : nI (len + m) ≤ 600 ↔ len + m ≤ 600 := nI_leI (a := len + m) (b := 600) (by omega) (by omega)
  rw [c6]
  refine ⟨fun q3 => ?_, fun q3 => hno (fun ⟨m', h1, h2, h3, h4, _⟩ => by omega)⟩
  have app : fineT x m → ∀ r c f, r + c = m → Txt (tt x m len t c) (len + c) f → wp_Ls_type_79 post (r + 1) x (iI ((r : Int) - 1)) (nI (len + c)) f := by
    intro hf r
    induction r with
    | zero =>
      intro c f hr hx
      rw [wp_Ls_type_79]
      have : c = m := by omega
      subst this
      exact br_t (by decide) (hyes c rfl (by omega) (by omega) (by omega) hf f hx)
    | succ r ih =>
      intro c f hr hx
      rw [wp_Ls_type_79]
      have e1 : iI (((r + 1 : Nat) : Int) - 1) = nI r := by rw [nI_iI]; congr 1; omega
      have e2 : nI r + -1 = iI ((r : Int) - 1) := by rw [nI_iI, show (-1 : Int32) = iI (-1) from rfl, iI_add]; congr 1
      rw [e1, e2]
      refine br_f (nI_pos (by omega)) ?_
      refine byteOf_ok (by omega) ?_
      unfold wp_Wo_append_0 wp_Wo_append_30
      rw [chr_nar _ (byt_lt x r), nI_clamp (by omega), nI_1]
      refine br_f (nI_ge (b := 600) (by omega) (by omega)) ⟨vp_in_nI (by omega) (by omega), ?_⟩
      have er : r = m - 1 - c := by omega
      have := Txt.app hx (by omega) (by rw [← er]; exact hf r (by omega))
      rw [← er] at this
      exact ih (c + 1) _ (by omega) this
  have chk : ∀ d i, i + d = m → (∀ k, k < i → 32 ≤ byt x k ∧ byt x k ≤ 126) → wp_Ls_type_38 post (d + 1) x (nI m) (nI i) (nI len) f := by
    intro d
    induction d with
    | zero =>
      intro i hi hk
      rw [wp_Ls_type_38]
      refine br_t (nI_le (by omega) (by omega)) ⟨m + 1, ?_⟩
      have e1 : nI m - 1 = iI ((m : Int) - 1) := by rw [nI_iI, show (1 : Int32) = iI 1 from rfl, iI_sub]
      rw [e1]
      exact app (fun k hk9 => hk k (by omega)) m 0 f (by omega) (by rw [tt0]; exact hT)
    | succ d ih =>
      intro i hi hk
      rw [wp_Ls_type_38]
      refine br_f (nI_ge (by omega) (by omega)) ?_
      unfold wp_Ls_type_66
      rw [nI_1]
      refine byteOf_ok (by omega) ?_
      have hb := byt_lt x i
      have b1 : nI (byt x i) < 32 ↔ byt x i < 32 := nI_ltI (a := byt x i) (b := 32) (by omega) (by omega)
      have b2 : nI (byt x i) ≤ 126 ↔ byt x i ≤ 126 := nI_leI (a := byt x i) (b := 126) (by omega) (by omega)
      rw [b1, b2]
      refine ⟨fun w => hno (fun ⟨m', h1, h2, h3, h4, h5⟩ => ?_), fun w => ⟨fun w2 => ih (i + 1) (by omega) (fun k hk9 => ?_), fun w2 => hno (fun ⟨m', h1, h2, h3, h4, h5⟩ => ?_)⟩⟩
      · have := h5 i (by omega); omega
      · by_cases q9 : k = i
        · subst q9; omega
        · exact hk k (by omega)
      · have := h5 i (by omega); omega
  exact ⟨m + 1, chk m 0 (by omega) (fun k hk => by omega)⟩
theorem mtype_ok {x : Int64} {z : Int} (hz : bi z) {t : Nat → Nat} {len : Nat} {f : Nat → Int32} {th : Int32} (hT : Txt t len f) {post : Int32 → Int32 → Int32 → (Nat → Int32) → Prop}
    (hno : (¬ ∃ m : Nat, z = m ∧ 1 ≤ m ∧ m ≤ 8 ∧ len + m ≤ 600 ∧ fineT x m) → post (-1) 0 (nI len) f)
    (hyes : ∀ m : Nat, z = m → 1 ≤ m → m ≤ 8 → len + m ≤ 600 → fineT x m → ∀ f', Txt (tt x m len t m) (len + m) f' → post (nI (len + m)) 0 (nI (len + m)) f') : wp_Mo_type_0 post x (iI z) th (nI len) f := by
  have hl := hT.1
  have fail : (¬ ∃ m : Nat, z = m ∧ 1 ≤ m ∧ m ≤ 8 ∧ len + m ≤ 600 ∧ fineT x m) → ∀ m i, wp_Mo_type_38 post (m + 1) x (iI z) 0 i 0 (nI len) f := by
    intro hn m i
    rw [wp_Mo_type_38]
    unfold wp_Mo_type_93
    exact br_t rfl (bn0 rfl (hno hn))
  have fail2 : (¬ ∃ m : Nat, z = m ∧ 1 ≤ m ∧ m ≤ 8 ∧ len + m ≤ 600 ∧ fineT x m) → wp_Mo_type_32 post x (iI z) 0 (nI len) f := by
    intro hn
    unfold wp_Mo_type_32 wp_Mo_type_33
    exact ⟨1, fail hn 0 0⟩
  unfold wp_Mo_type_0
  have c1 : iI z < 1 ↔ z < 1 := iI_lt (a := z) (b := 1) hz ⟨by omega, by omega⟩
  have c8 : (8 : Int32) < iI z ↔ 8 < z := iI_lt (a := 8) (b := z) ⟨by omega, by omega⟩ hz
  rw [c1, c8]
  refine ⟨fun q => fail2 (fun ⟨m, h1, h2, _⟩ => by omega), fun q => ⟨fun q2 => fail2 (fun ⟨m, h1, h2, h3, _⟩ => by omega), fun q2 => ?_⟩⟩
  obtain ⟨m, hm⟩ : ∃ m : Nat, z = m := ⟨z.toNat, by omega⟩
  subst hm
  rw [← nI_iI, nI_add]
  rw [← nI_iI] at fail fail2
  have c6 : 600 < nI (len + m) ↔ 600 < len + m := nI_ltI (a := 600) (b := len + m) (by omega) (by omega)
  rw [c6]
  refine ⟨fun q3 => fail2 (fun ⟨m', h1, h2, h3, h4, _⟩ => by omega), fun q3 => ?_⟩
  have app : fineT x m → ∀ r c f, r + c = m → Txt (tt x m len t c) (len + c) f → wp_Mo_type_105 post (r + 1) x (iI ((r : Int) - 1)) 0 (nI (len + c)) f := by
    intro hf r
    induction r with
    | zero =>
      intro c f hr hx
      rw [wp_Mo_type_105]
      have : c = m := by omega
      subst this
      exact br_t (by decide) (hyes c rfl (by omega) (by omega) (by omega) hf f hx)
    | succ r ih =>
      intro c f hr hx
      rw [wp_Mo_type_105]
      have e1 : iI (((r + 1 : Nat) : Int) - 1) = nI r := by rw [nI_iI]; congr 1; omega
      have e2 : nI r + -1 = iI ((r : Int) - 1) := by rw [nI_iI, show (-1 : Int32) = iI (-1) from rfl, iI_add]; congr 1
      rw [e1, e2, mod_byte x (by omega), lI_32, ← nI_iI, nI_clamp (by omega), nI_1]
      refine br_f (nI_pos (by omega)) ⟨vp_in_nI (by omega) (by omega), ?_⟩
      have er : r = m - 1 - c := by omega
      have := Txt.app hx (by omega) (by rw [← er]; exact hf r (by omega))
      rw [← er] at this
      exact ih (c + 1) _ (by omega) this
  have chk : ∀ d i, i + d = m → (∀ k, k < i → 32 ≤ byt x k ∧ byt x k ≤ 126) → wp_Mo_type_38 post (d + 1 + 1) x (nI m) 1 (nI i) 0 (nI len) f := by
    intro d
    induction d with
    | zero =>
      intro i hi hk
      rw [wp_Mo_type_38]
      unfold wp_Mo_type_93
      refine br_f (by decide) (br_t (nI_le (by omega) (by omega)) (bn1 (by decide) ⟨m + 1, ?_⟩))
      have e1 : nI m - 1 = iI ((m : Int) - 1) := by rw [nI_iI, show (1 : Int32) = iI 1 from rfl, iI_sub]
      rw [e1]
      exact app (fun k hk9 => hk k (by omega)) m 0 f (by omega) (by rw [tt0]; exact hT)
    | succ d ih =>
      intro i hi hk
      rw [wp_Mo_type_38]
      refine br_f (by decide) (br_f (nI_ge (by omega) (by omega)) ?_)
      unfold wp_Mo_type_84 wp_Mo_type_85
      have hb := byt_lt x i
      rw [mod_byte x (by omega), nI_1, show (32 : Int64) = lI 32 from rfl, show (126 : Int64) = lI 126 from rfl, cmp_lt ⟨by omega, by omega⟩ ⟨by omega, by omega⟩, cmp_gt ⟨by omega, by omega⟩ ⟨by omega, by omega⟩]
      refine ⟨fun w => fail (fun ⟨m', h1, h2, h3, h4, h5⟩ => ?_) _ _, fun w => ⟨fun w2 => fail (fun ⟨m', h1, h2, h3, h4, h5⟩ => ?_) _ _, fun w2 => ih (i + 1) (by omega) (fun k hk9 => ?_)⟩⟩
      · have := h5 i (by omega); omega
      · have := h5 i (by omega); omega
      · by_cases q9 : k = i
        · subst q9; omega
        · exact hk k (by omega)
  unfold wp_Mo_type_33
  exact ⟨m + 1 + 1, chk m 0 (by omega) (fun k hk => by omega)⟩
