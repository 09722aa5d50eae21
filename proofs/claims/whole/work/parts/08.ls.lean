/-! LeanSets.byteOf(JI)I -/
def y_Ls_byteOf : MethodName := ⟨"LeanSets", "byteOf", "(JI)I"⟩
theorem d_Ls_byteOf_0 : decode prog_1_method_17_code 0 = .ok (.lload_n 0, 1) := by decide +kernel
theorem d_Ls_byteOf_1 : decode prog_1_method_17_code 1 = .ok (.bipush 8, 2) := by decide +kernel
theorem d_Ls_byteOf_3 : decode prog_1_method_17_code 3 = .ok (.iload_n 2, 1) := by decide +kernel
theorem d_Ls_byteOf_4 : decode prog_1_method_17_code 4 = .ok (.imul, 1) := by decide +kernel
theorem d_Ls_byteOf_5 : decode prog_1_method_17_code 5 = .ok (.lushr, 1) := by decide +kernel
theorem d_Ls_byteOf_6 : decode prog_1_method_17_code 6 = .ok (.l2i, 1) := by decide +kernel
theorem d_Ls_byteOf_7 : decode prog_1_method_17_code 7 = .ok (.sipush 255, 3) := by decide +kernel
theorem d_Ls_byteOf_10 : decode prog_1_method_17_code 10 = .ok (.iand, 1) := by decide +kernel
theorem d_Ls_byteOf_11 : decode prog_1_method_17_code 11 = .ok (.ireturn, 1) := by decide +kernel
def wp_Ls_byteOf_0  (post : Int32 → Prop)  (x0 : Int64) (x2 : Int32) : Prop := post ((x0.toUInt64 >>> (((8 : Int32) * x2).toInt64.toUInt64 &&& Int64.toUInt64 63)).toInt64.toInt32 &&& (255 : Int32))
set_option maxHeartbeats 4000000 in
set_option maxRecDepth 100000 in
theorem wk_Ls_byteOf_0 {p : Program} {l : Launch} {e : Env} {s : State} {m : MethodId} {args : Array Value} {below : List Frame} {meth : Method} {c : Code} (dC : Nat → ClassId) (dI : Nat → Nat → Nat) (cI cJ cC : ClassId) (A : Nat → Prop) (hA : ∀ q : Nat, s.heap.size ≤ q → A q) (C0 : gx_C p s m meth c args "LeanSets" prog_1_method_17_code 3 (Option.some Jvm.ClassFile.FieldType.int)) (hN : gx_K dC dI cI cJ cC s)  (post : Int32 → Prop)   : ∀ (x0 : Int64) (x2 : Int32), wp_Ls_byteOf_0 post x0 x2 → ∀ (H : Heap) (locs : List Loc) (ls : Array Slot), va_P (dC, dI) classes [] H → va_D A [] → va_S A s.heap H locs → lv_has ls 3 [(0, .long x0), (2, .int x2)] → W p l e { frames := 0, cells := 0, slots := 0, locals := 0 } s m args below meth c H locs 0 0 (MQ below (va_Qi (fun (r : Int32) (u : Unit) => post r) (fun (u : Unit) (t : State) => va_P (dC, dI) classes [] t.heap ∧ va_D A []) A) args s 0 0 A) (F0 m 0 ls []) := by
  obtain ⟨hx, hb, hr, hml, hown, hlocks, hG⟩ := id C0
  have hK := hN.1
  intro x0 x2 h H locs ls hP hD hS hl
  rw [wp_Ls_byteOf_0] at h
  refine lv_lload_n hx hb d_Ls_byteOf_0 rfl (lv_at hl 0 rfl) ?_
  refine lv_bipush (v := 8) hx hb d_Ls_byteOf_1 (by decide) ?_
  refine lv_iload_n hx hb d_Ls_byteOf_3 rfl (lv_at hl 1 rfl) ?_
  refine lv_imul hx hb d_Ls_byteOf_4 ?_
  refine lv_lushr hx hb d_Ls_byteOf_5 rfl ?_
  refine lv_l2i hx hb d_Ls_byteOf_6 rfl ?_
  refine lv_sipush (v := 255) hx hb d_Ls_byteOf_7 (by decide) ?_
  refine lv_iand hx hb d_Ls_byteOf_10 ?_
  exact W.iret (v := ((x0.toUInt64 >>> (((8 : Int32) * x2).toInt64.toUInt64 &&& Int64.toUInt64 63)).toInt64.toInt32 &&& (255 : Int32))) hx hb hr (fun t ht hW => ⟨⟨((x0.toUInt64 >>> (((8 : Int32) * x2).toInt64.toUInt64 &&& Int64.toUInt64 63)).toInt64.toInt32 &&& (255 : Int32)), (), rfl, h, by rw [ht]; exact hP, hD⟩, hS.F ht⟩) hS.2.2 d_Ls_byteOf_11 hlocks
set_option maxHeartbeats 4000000 in
set_option maxRecDepth 100000 in
theorem c_Ls_byteOf (l : Launch) (dC : Nat → ClassId) (dI : Nat → Nat → Nat) (cI cJ cC : ClassId) (post : Int32 → Prop) (x0 : Int64) (x2 : Int32) (sz : Nat) (h : wp_Ls_byteOf_0 post x0 x2) : Met l y_Ls_byteOf (.code y_Ls_byteOf prog_1_method_17_code 3 (Option.some Jvm.ClassFile.FieldType.int) :: gx_G) ({ frames := 0, cells := 0, slots := 0, locals := 0 }) (va_Pc [.long x0, .int x2] (fun U => U.heap.size = sz ∧ va_P (dC, dI) classes [] U.heap ∧ gx_K dC dI cI cJ cC U ∧ va_D (fun _ => True) [])) (va_Qi (fun (r : Int32) (u : Unit) => post r) (fun (u : Unit) (t : State) => va_P (dC, dI) classes [] t.heap ∧ va_D (va_A [] sz) []) (va_A [] sz)) 0 0 (va_A [] sz) := by
  refine Met.ofW (cc := prog_1_method_17_code) (maxL := 3) (ret := (Option.some Jvm.ClassFile.FieldType.int)) (by decide +kernel) rfl ?_
  intro p e s m args below meth c s₁ B hml hv
  obtain ⟨rfl, hsz, hP, hN, hD0⟩ := hv
  have hts := atoms_spec (ws := (.code y_Ls_byteOf prog_1_method_17_code 3 (Option.some Jvm.ClassFile.FieldType.int) :: gx_G)) B.pre
  have C0 : gx_C p s m meth c _ "LeanSets" prog_1_method_17_code 3 (Option.some Jvm.ClassFile.FieldType.int) := ⟨B.exec, B.bytes, B.returns, hml, findClass_of_methodNamed B.named, B.notSynchronized, fun w hw => hts w (List.mem_cons_of_mem _ hw)⟩
  subst hsz
  have hD := hD0.self (sz := s.heap.size)
  generalize hAe : va_A [] s.heap.size = A at hD ⊢
  have hA : ∀ q : Nat, s.heap.size ≤ q → A q := fun q h => by rw [← hAe]; exact Or.inr h
  have hl := lv_entry ([.long x0, .int x2]) (n := 3) (Nat.le_of_ble_eq_true rfl)
  rw [lg_entry_eq]
  generalize (lg_sl ([.long x0, .int x2]) ++ List.replicate (3 - (lg_sl ([.long x0, .int x2])).length) Slot.unset).toArray = ls at hl ⊢
  exact wk_Ls_byteOf_0 dC dI cI cJ cC A hA C0 hN post x0 x2 h s.heap [] ls hP hD va_S.rf hl
/-! LeanSets.commonDivisor(JJ)J -/
def y_Ls_commonDivisor : MethodName := ⟨"LeanSets", "commonDivisor", "(JJ)J"⟩
theorem d_Ls_commonDivisor_0 : decode prog_1_method_23_code 0 = .ok (.lload_n 0, 1) := by decide +kernel
theorem d_Ls_commonDivisor_1 : decode prog_1_method_23_code 1 = .ok (.invokestatic 180, 3) := by decide +kernel
theorem d_Ls_commonDivisor_4 : decode prog_1_method_23_code 4 = .ok (.lstore 4, 2) := by decide +kernel
theorem d_Ls_commonDivisor_6 : decode prog_1_method_23_code 6 = .ok (.lload_n 2, 1) := by decide +kernel
theorem d_Ls_commonDivisor_7 : decode prog_1_method_23_code 7 = .ok (.invokestatic 180, 3) := by decide +kernel
theorem d_Ls_commonDivisor_10 : decode prog_1_method_23_code 10 = .ok (.lstore 6, 2) := by decide +kernel
theorem d_Ls_commonDivisor_12 : decode prog_1_method_23_code 12 = .ok (.iconst 0, 1) := by decide +kernel
theorem d_Ls_commonDivisor_13 : decode prog_1_method_23_code 13 = .ok (.istore 8, 2) := by decide +kernel
theorem d_Ls_commonDivisor_15 : decode prog_1_method_23_code 15 = .ok (.iload 8, 2) := by decide +kernel
theorem d_Ls_commonDivisor_17 : decode prog_1_method_23_code 17 = .ok (.bipush 100, 2) := by decide +kernel
theorem d_Ls_commonDivisor_19 : decode prog_1_method_23_code 19 = .ok (.if_icmp .ge 31, 3) := by decide +kernel
theorem d_Ls_commonDivisor_22 : decode prog_1_method_23_code 22 = .ok (.lload 6, 2) := by decide +kernel
theorem d_Ls_commonDivisor_24 : decode prog_1_method_23_code 24 = .ok (.lconst 0, 1) := by decide +kernel
theorem d_Ls_commonDivisor_25 : decode prog_1_method_23_code 25 = .ok (.lcmp, 1) := by decide +kernel
theorem d_Ls_commonDivisor_26 : decode prog_1_method_23_code 26 = .ok (.ifCond .eq 24, 3) := by decide +kernel
theorem d_Ls_commonDivisor_29 : decode prog_1_method_23_code 29 = .ok (.lload 4, 2) := by decide +kernel
theorem d_Ls_commonDivisor_31 : decode prog_1_method_23_code 31 = .ok (.lload 6, 2) := by decide +kernel
theorem d_Ls_commonDivisor_33 : decode prog_1_method_23_code 33 = .ok (.lrem, 1) := by decide +kernel
theorem d_Ls_commonDivisor_34 : decode prog_1_method_23_code 34 = .ok (.lstore 9, 2) := by decide +kernel
theorem d_Ls_commonDivisor_36 : decode prog_1_method_23_code 36 = .ok (.lload 6, 2) := by decide +kernel
theorem d_Ls_commonDivisor_38 : decode prog_1_method_23_code 38 = .ok (.lstore 4, 2) := by decide +kernel
theorem d_Ls_commonDivisor_40 : decode prog_1_method_23_code 40 = .ok (.lload 9, 2) := by decide +kernel
theorem d_Ls_commonDivisor_42 : decode prog_1_method_23_code 42 = .ok (.lstore 6, 2) := by decide +kernel
theorem d_Ls_commonDivisor_44 : decode prog_1_method_23_code 44 = .ok (.iinc 8 1, 3) := by decide +kernel
theorem d_Ls_commonDivisor_47 : decode prog_1_method_23_code 47 = .ok (.goto (-32), 3) := by decide +kernel
theorem d_Ls_commonDivisor_50 : decode prog_1_method_23_code 50 = .ok (.lconst 1, 1) := by decide +kernel
theorem d_Ls_commonDivisor_51 : decode prog_1_method_23_code 51 = .ok (.lload 4, 2) := by decide +kernel
theorem d_Ls_commonDivisor_53 : decode prog_1_method_23_code 53 = .ok (.invokestatic 186, 3) := by decide +kernel
theorem d_Ls_commonDivisor_56 : decode prog_1_method_23_code 56 = .ok (.lreturn, 1) := by decide +kernel
def wp_Ls_commonDivisor_50  (post : Int64 → Prop)  (x4 : Int64) : Prop := post (if x4 < (1 : Int64) then (1 : Int64) else x4)
set_option maxHeartbeats 4000000 in
set_option maxRecDepth 100000 in
theorem wk_Ls_commonDivisor_50 {p : Program} {l : Launch} {e : Env} {s : State} {m : MethodId} {args : Array Value} {below : List Frame} {meth : Method} {c : Code} (dC : Nat → ClassId) (dI : Nat → Nat → Nat) (cI cJ cC : ClassId) (A : Nat → Prop) (hA : ∀ q : Nat, s.heap.size ≤ q → A q) (C0 : gx_C p s m meth c args "LeanSets" prog_1_method_23_code 11 (Option.some Jvm.ClassFile.FieldType.long)) (hN : gx_K dC dI cI cJ cC s)  (post : Int64 → Prop)   : ∀ (x4 : Int64), wp_Ls_commonDivisor_50 post x4 → ∀ (H : Heap) (locs : List Loc) (ls : Array Slot), va_P (dC, dI) classes [] H → va_D A [] → va_S A s.heap H locs → lv_has ls 11 [(4, .long x4)] → W p l e { frames := 1, cells := 0, slots := 0, locals := 23 } s m args below meth c H locs 0 0 (MQ below (va_Ql (fun (r : Int64) (u : Unit) => post r) (fun (u : Unit) (t : State) => va_P (dC, dI) classes [] t.heap ∧ va_D A []) A) args s 0 0 A) (F0 m 50 ls []) := by
  obtain ⟨hx, hb, hr, hml, hown, hlocks, hG⟩ := id C0
  have hK := hN.1
  intro x4 h H locs ls hP hD hS hl
  rw [wp_Ls_commonDivisor_50] at h
  refine lv_lconst (v := 1) hx hb d_Ls_commonDivisor_50 (by decide) ?_
  refine lv_lload hx hb d_Ls_commonDivisor_51 (lv_at hl 0 rfl) ?_
  refine va_mmax_long hx hb (hml.trans hl.1.symm) hown (hG _ mw_476) (hG _ mw_477) (hG _ mw_14) (hG _ mw_478) (Nat.le_of_ble_eq_true rfl) (Nat.le_of_ble_eq_true rfl) (Nat.le_of_ble_eq_true rfl) (Nat.le_of_ble_eq_true rfl) d_Ls_commonDivisor_53 ?_
  exact W.lret (v := (if x4 < (1 : Int64) then (1 : Int64) else x4)) hx hb hr (fun t ht hW => ⟨⟨(if x4 < (1 : Int64) then (1 : Int64) else x4), (), rfl, h, by rw [ht]; exact hP, hD⟩, hS.F ht⟩) hS.2.2 d_Ls_commonDivisor_56 hlocks
def wp_Ls_commonDivisor_15  (post : Int64 → Prop)  : Nat → Int64 → Int64 → Int32 → Prop
  | 0, _, _, _ => False
  | n + 1, x4, x6, x8 => (((100 : Int32) ≤ x8) → (wp_Ls_commonDivisor_50 post x4)) ∧ ((¬ ((100 : Int32) ≤ x8)) → ((((lg_cmp x6 (0 : Int64)) = 0) → (wp_Ls_commonDivisor_50 post x4)) ∧ ((¬ ((lg_cmp x6 (0 : Int64)) = 0)) → ((¬ x6 = 0) ∧ (wp_Ls_commonDivisor_15 post n x6 (x4 - x4 / x6 * x6) (x8 + (1 : Int32)))))))
set_option maxHeartbeats 4000000 in
set_option maxRecDepth 100000 in
theorem wk_Ls_commonDivisor_15 {p : Program} {l : Launch} {e : Env} {s : State} {m : MethodId} {args : Array Value} {below : List Frame} {meth : Method} {c : Code} (dC : Nat → ClassId) (dI : Nat → Nat → Nat) (cI cJ cC : ClassId) (A : Nat → Prop) (hA : ∀ q : Nat, s.heap.size ≤ q → A q) (C0 : gx_C p s m meth c args "LeanSets" prog_1_method_23_code 11 (Option.some Jvm.ClassFile.FieldType.long)) (hN : gx_K dC dI cI cJ cC s)  (post : Int64 → Prop)   : ∀ (n : Nat) (x4 : Int64) (x6 : Int64) (x8 : Int32), wp_Ls_commonDivisor_15 post n x4 x6 x8 → ∀ (H : Heap) (locs : List Loc) (ls : Array Slot), va_P (dC, dI) classes [] H → va_D A [] → va_S A s.heap H locs → lv_has ls 11 [(4, .long x4), (6, .long x6), (8, .int x8)] → W p l e { frames := 1, cells := 0, slots := 0, locals := 23 } s m args below meth c H locs 0 0 (MQ below (va_Ql (fun (r : Int64) (u : Unit) => post r) (fun (u : Unit) (t : State) => va_P (dC, dI) classes [] t.heap ∧ va_D A []) A) args s 0 0 A) (F0 m 15 ls []) := by
  obtain ⟨hx, hb, hr, hml, hown, hlocks, hG⟩ := id C0
  have hK := hN.1
  intro n
  induction n with
  | zero =>
    intro x4 x6 x8 h
    exact absurd h (by rw [wp_Ls_commonDivisor_15]; exact id)
  | succ n ih =>
    intro x4 x6 x8 h H locs ls hP hD hS hl
    rw [wp_Ls_commonDivisor_15] at h
    refine lv_iload hx hb d_Ls_commonDivisor_15 (lv_at hl 2 rfl) ?_
    refine lv_bipush (v := 100) hx hb d_Ls_commonDivisor_17 (by decide) ?_
    refine lv_icmp_ge (tgt := 50) hx hb d_Ls_commonDivisor_19 (by decide) (fun c_ => ?_) (fun c_ => ?_)
    · have h := h.1 c_
      exact wk_Ls_commonDivisor_50 dC dI cI cJ cC A hA C0 hN post   x4 h _ _ _ hP hD hS (lv_sub hl [0] rfl)
    · have h := h.2 c_
      refine lv_lload hx hb d_Ls_commonDivisor_22 (lv_at hl 1 rfl) ?_
      refine lv_lconst (v := 0) hx hb d_Ls_commonDivisor_24 (by decide) ?_
      refine W.lcmp hx hb d_Ls_commonDivisor_25 ?_
      refine lv_if_eq (tgt := 50) hx hb d_Ls_commonDivisor_26 (by decide) (fun c_ => ?_) (fun c_ => ?_)
      · have h := h.1 c_
        exact wk_Ls_commonDivisor_50 dC dI cI cJ cC A hA C0 hN post   x4 h _ _ _ hP hD hS (lv_sub hl [0] rfl)
      · have h := h.2 c_
        refine lv_lload hx hb d_Ls_commonDivisor_29 (lv_at hl 0 rfl) ?_
        refine lv_lload hx hb d_Ls_commonDivisor_31 (lv_at hl 1 rfl) ?_
        obtain ⟨g_, h⟩ := h
        refine lv_lrem hx hb d_Ls_commonDivisor_33 g_ ?_
        refine lv_lstore (lv' := [(9, .long (x4 - x4 / x6 * x6)), (4, .long x4), (6, .long x6), (8, .int x8)]) hx hb d_Ls_commonDivisor_34 hl (by decide) rfl (fun ls hl => ?_)
        refine lv_lload hx hb d_Ls_commonDivisor_36 (lv_at hl 2 rfl) ?_
        refine lv_lstore (lv' := [(4, .long x6), (9, .long (x4 - x4 / x6 * x6)), (6, .long x6), (8, .int x8)]) hx hb d_Ls_commonDivisor_38 hl (by decide) rfl (fun ls hl => ?_)
        refine lv_lload hx hb d_Ls_commonDivisor_40 (lv_at hl 1 rfl) ?_
        refine lv_lstore (lv' := [(6, .long (x4 - x4 / x6 * x6)), (4, .long x6), (9, .long (x4 - x4 / x6 * x6)), (8, .int x8)]) hx hb d_Ls_commonDivisor_42 hl (by decide) rfl (fun ls hl => ?_)
        refine lv_iinc (v := (x8 + (1 : Int32))) (lv' := [(8, .int (x8 + (1 : Int32))), (6, .long (x4 - x4 / x6 * x6)), (4, .long x6), (9, .long (x4 - x4 / x6 * x6))]) hx hb d_Ls_commonDivisor_44 hl (k := 3) rfl rfl (by decide) rfl (fun ls hl => ?_)
        refine lv_goto (tgt := 15) hx hb d_Ls_commonDivisor_47 (by decide) ?_
        exact ih x6 (x4 - x4 / x6 * x6) (x8 + (1 : Int32)) h _ _ _ hP hD hS (lv_sub hl [2, 1, 0] rfl)
def wp_Ls_commonDivisor_0  (post : Int64 → Prop)  (x0 : Int64) (x2 : Int64) : Prop := ∃ n_ : Nat, wp_Ls_commonDivisor_15 post n_ (if 0 < x0 then x0 else -x0) (if 0 < x2 then x2 else -x2) (0 : Int32)
set_option maxHeartbeats 4000000 in
set_option maxRecDepth 100000 in
theorem wk_Ls_commonDivisor_0 {p : Program} {l : Launch} {e : Env} {s : State} {m : MethodId} {args : Array Value} {below : List Frame} {meth : Method} {c : Code} (dC : Nat → ClassId) (dI : Nat → Nat → Nat) (cI cJ cC : ClassId) (A : Nat → Prop) (hA : ∀ q : Nat, s.heap.size ≤ q → A q) (C0 : gx_C p s m meth c args "LeanSets" prog_1_method_23_code 11 (Option.some Jvm.ClassFile.FieldType.long)) (hN : gx_K dC dI cI cJ cC s)  (post : Int64 → Prop)   : ∀ (x0 : Int64) (x2 : Int64), wp_Ls_commonDivisor_0 post x0 x2 → ∀ (H : Heap) (locs : List Loc) (ls : Array Slot), va_P (dC, dI) classes [] H → va_D A [] → va_S A s.heap H locs → lv_has ls 11 [(0, .long x0), (2, .long x2)] → W p l e { frames := 1, cells := 0, slots := 0, locals := 23 } s m args below meth c H locs 0 0 (MQ below (va_Ql (fun (r : Int64) (u : Unit) => post r) (fun (u : Unit) (t : State) => va_P (dC, dI) classes [] t.heap ∧ va_D A []) A) args s 0 0 A) (F0 m 0 ls []) := by
  obtain ⟨hx, hb, hr, hml, hown, hlocks, hG⟩ := id C0
  have hK := hN.1
  intro x0 x2 h H locs ls hP hD hS hl
  rw [wp_Ls_commonDivisor_0] at h
  refine lv_lload_n hx hb d_Ls_commonDivisor_0 rfl (lv_at hl 0 rfl) ?_
  refine va_mabs_long hx hb (hml.trans hl.1.symm) hown (hG _ mw_473) (hG _ mw_474) (hG _ mw_14) (hG _ mw_475) (Nat.le_of_ble_eq_true rfl) (Nat.le_of_ble_eq_true rfl) (Nat.le_of_ble_eq_true rfl) (Nat.le_of_ble_eq_true rfl) d_Ls_commonDivisor_1 ?_
  refine lv_lstore (lv' := [(4, .long (if 0 < x0 then x0 else -x0)), (0, .long x0), (2, .long x2)]) hx hb d_Ls_commonDivisor_4 hl (by decide) rfl (fun ls hl => ?_)
  refine lv_lload_n hx hb d_Ls_commonDivisor_6 rfl (lv_at hl 2 rfl) ?_
  refine va_mabs_long hx hb (hml.trans hl.1.symm) hown (hG _ mw_473) (hG _ mw_474) (hG _ mw_14) (hG _ mw_475) (Nat.le_of_ble_eq_true rfl) (Nat.le_of_ble_eq_true rfl) (Nat.le_of_ble_eq_true rfl) (Nat.le_of_ble_eq_true rfl) d_Ls_commonDivisor_7 ?_
  refine lv_lstore (lv' := [(6, .long (if 0 < x2 then x2 else -x2)), (4, .long (if 0 < x0 then x0 else -x0)), (0, .long x0), (2, .long x2)]) hx hb d_Ls_commonDivisor_10 hl (by decide) rfl (fun ls hl => ?_)
  refine lv_iconst (v := 0) hx hb d_Ls_commonDivisor_12 (by decide) ?_
  refine lv_istore (lv' := [(8, .int (0 : Int32)), (6, .long (if 0 < x2 then x2 else -x2)), (4, .long (if 0 < x0 then x0 else -x0)), (0, .long x0), (2, .long x2)]) hx hb d_Ls_commonDivisor_13 hl (by decide) rfl (fun ls hl => ?_)
  obtain ⟨n_, h⟩ := h
  exact wk_Ls_commonDivisor_15 dC dI cI cJ cC A hA C0 hN post   n_ (if 0 < x0 then x0 else -x0) (if 0 < x2 then x2 else -x2) (0 : Int32) h _ _ _ hP hD hS (lv_sub hl [2, 1, 0] rfl)
set_option maxHeartbeats 4000000 in
set_option maxRecDepth 100000 in
theorem c_Ls_commonDivisor (l : Launch) (dC : Nat → ClassId) (dI : Nat → Nat → Nat) (cI cJ cC : ClassId) (post : Int64 → Prop) (x0 : Int64) (x2 : Int64) (sz : Nat) (h : wp_Ls_commonDivisor_0 post x0 x2) : Met l y_Ls_commonDivisor (.code y_Ls_commonDivisor prog_1_method_23_code 11 (Option.some Jvm.ClassFile.FieldType.long) :: gx_G) ({ frames := 1, cells := 0, slots := 0, locals := 23 }) (va_Pc [.long x0, .long x2] (fun U => U.heap.size = sz ∧ va_P (dC, dI) classes [] U.heap ∧ gx_K dC dI cI cJ cC U ∧ va_D (fun _ => True) [])) (va_Ql (fun (r : Int64) (u : Unit) => post r) (fun (u : Unit) (t : State) => va_P (dC, dI) classes [] t.heap ∧ va_D (va_A [] sz) []) (va_A [] sz)) 0 0 (va_A [] sz) := by
  refine Met.ofW (cc := prog_1_method_23_code) (maxL := 11) (ret := (Option.some Jvm.ClassFile.FieldType.long)) (by decide +kernel) rfl ?_
  intro p e s m args below meth c s₁ B hml hv
  obtain ⟨rfl, hsz, hP, hN, hD0⟩ := hv
  have hts := atoms_spec (ws := (.code y_Ls_commonDivisor prog_1_method_23_code 11 (Option.some Jvm.ClassFile.FieldType.long) :: gx_G)) B.pre
  have C0 : gx_C p s m meth c _ "LeanSets" prog_1_method_23_code 11 (Option.some Jvm.ClassFile.FieldType.long) := ⟨B.exec, B.bytes, B.returns, hml, findClass_of_methodNamed B.named, B.notSynchronized, fun w hw => hts w (List.mem_cons_of_mem _ hw)⟩
  subst hsz
  have hD := hD0.self (sz := s.heap.size)
  generalize hAe : va_A [] s.heap.size = A at hD ⊢
  have hA : ∀ q : Nat, s.heap.size ≤ q → A q := fun q h => by rw [← hAe]; exact Or.inr h
  have hl := lv_entry ([.long x0, .long x2]) (n := 11) (Nat.le_of_ble_eq_true rfl)
  rw [lg_entry_eq]
  generalize (lg_sl ([.long x0, .long x2]) ++ List.replicate (11 - (lg_sl ([.long x0, .long x2])).length) Slot.unset).toArray = ls at hl ⊢
  exact wk_Ls_commonDivisor_0 dC dI cI cJ cC A hA C0 hN post x0 x2 h s.heap [] ls hP hD va_S.rf hl
