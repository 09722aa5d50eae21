/-! java/lang/Integer.bitCount(I)I -/
def y_In_bitCount : MethodName := ⟨"java/lang/Integer", "bitCount", "(I)I"⟩
theorem d_In_bitCount_0 : decode prog_14_method_49_code 0 = .ok (.iload_n 0, 1) := by decide +kernel
theorem d_In_bitCount_1 : decode prog_14_method_49_code 1 = .ok (.iload_n 0, 1) := by decide +kernel
theorem d_In_bitCount_2 : decode prog_14_method_49_code 2 = .ok (.iconst 1, 1) := by decide +kernel
theorem d_In_bitCount_3 : decode prog_14_method_49_code 3 = .ok (.iushr, 1) := by decide +kernel
theorem d_In_bitCount_4 : decode prog_14_method_49_code 4 = .ok (.ldc_w 265, 3) := by decide +kernel
theorem d_In_bitCount_7 : decode prog_14_method_49_code 7 = .ok (.iand, 1) := by decide +kernel
theorem d_In_bitCount_8 : decode prog_14_method_49_code 8 = .ok (.isub, 1) := by decide +kernel
theorem d_In_bitCount_9 : decode prog_14_method_49_code 9 = .ok (.istore_n 0, 1) := by decide +kernel
theorem d_In_bitCount_10 : decode prog_14_method_49_code 10 = .ok (.iload_n 0, 1) := by decide +kernel
theorem d_In_bitCount_11 : decode prog_14_method_49_code 11 = .ok (.ldc_w 266, 3) := by decide +kernel
theorem d_In_bitCount_14 : decode prog_14_method_49_code 14 = .ok (.iand, 1) := by decide +kernel
theorem d_In_bitCount_15 : decode prog_14_method_49_code 15 = .ok (.iload_n 0, 1) := by decide +kernel
theorem d_In_bitCount_16 : decode prog_14_method_49_code 16 = .ok (.iconst 2, 1) := by decide +kernel
theorem d_In_bitCount_17 : decode prog_14_method_49_code 17 = .ok (.iushr, 1) := by decide +kernel
theorem d_In_bitCount_18 : decode prog_14_method_49_code 18 = .ok (.ldc_w 266, 3) := by decide +kernel
theorem d_In_bitCount_21 : decode prog_14_method_49_code 21 = .ok (.iand, 1) := by decide +kernel
theorem d_In_bitCount_22 : decode prog_14_method_49_code 22 = .ok (.iadd, 1) := by decide +kernel
theorem d_In_bitCount_23 : decode prog_14_method_49_code 23 = .ok (.istore_n 0, 1) := by decide +kernel
theorem d_In_bitCount_24 : decode prog_14_method_49_code 24 = .ok (.iload_n 0, 1) := by decide +kernel
theorem d_In_bitCount_25 : decode prog_14_method_49_code 25 = .ok (.iload_n 0, 1) := by decide +kernel
theorem d_In_bitCount_26 : decode prog_14_method_49_code 26 = .ok (.iconst 4, 1) := by decide +kernel
theorem d_In_bitCount_27 : decode prog_14_method_49_code 27 = .ok (.iushr, 1) := by decide +kernel
theorem d_In_bitCount_28 : decode prog_14_method_49_code 28 = .ok (.iadd, 1) := by decide +kernel
theorem d_In_bitCount_29 : decode prog_14_method_49_code 29 = .ok (.ldc_w 267, 3) := by decide +kernel
theorem d_In_bitCount_32 : decode prog_14_method_49_code 32 = .ok (.iand, 1) := by decide +kernel
theorem d_In_bitCount_33 : decode prog_14_method_49_code 33 = .ok (.istore_n 0, 1) := by decide +kernel
theorem d_In_bitCount_34 : decode prog_14_method_49_code 34 = .ok (.iload_n 0, 1) := by decide +kernel
theorem d_In_bitCount_35 : decode prog_14_method_49_code 35 = .ok (.iload_n 0, 1) := by decide +kernel
theorem d_In_bitCount_36 : decode prog_14_method_49_code 36 = .ok (.bipush 8, 2) := by decide +kernel
theorem d_In_bitCount_38 : decode prog_14_method_49_code 38 = .ok (.iushr, 1) := by decide +kernel
theorem d_In_bitCount_39 : decode prog_14_method_49_code 39 = .ok (.iadd, 1) := by decide +kernel
theorem d_In_bitCount_40 : decode prog_14_method_49_code 40 = .ok (.istore_n 0, 1) := by decide +kernel
theorem d_In_bitCount_41 : decode prog_14_method_49_code 41 = .ok (.iload_n 0, 1) := by decide +kernel
theorem d_In_bitCount_42 : decode prog_14_method_49_code 42 = .ok (.iload_n 0, 1) := by decide +kernel
theorem d_In_bitCount_43 : decode prog_14_method_49_code 43 = .ok (.bipush 16, 2) := by decide +kernel
theorem d_In_bitCount_45 : decode prog_14_method_49_code 45 = .ok (.iushr, 1) := by decide +kernel
theorem d_In_bitCount_46 : decode prog_14_method_49_code 46 = .ok (.iadd, 1) := by decide +kernel
theorem d_In_bitCount_47 : decode prog_14_method_49_code 47 = .ok (.istore_n 0, 1) := by decide +kernel
theorem d_In_bitCount_48 : decode prog_14_method_49_code 48 = .ok (.iload_n 0, 1) := by decide +kernel
theorem d_In_bitCount_49 : decode prog_14_method_49_code 49 = .ok (.bipush 63, 2) := by decide +kernel
theorem d_In_bitCount_51 : decode prog_14_method_49_code 51 = .ok (.iand, 1) := by decide +kernel
theorem d_In_bitCount_52 : decode prog_14_method_49_code 52 = .ok (.ireturn, 1) := by decide +kernel
def wp_In_bitCount_0  (post : Int32 → Prop)  (x0 : Int32) : Prop := post ((((((((x0 - ((x0.toUInt32 >>> ((1 : Int32).toUInt32 &&& Int32.toUInt32 31)).toInt32 &&& (1431655765 : Int32))) &&& (858993459 : Int32)) + (((x0 - ((x0.toUInt32 >>> ((1 : Int32).toUInt32 &&& Int32.toUInt32 31)).toInt32 &&& (1431655765 : Int32))).toUInt32 >>> ((2 : Int32).toUInt32 &&& Int32.toUInt32 31)).toInt32 &&& (858993459 : Int32))) + ((((x0 - ((x0.toUInt32 >>> ((1 : Int32).toUInt32 &&& Int32.toUInt32 31)).toInt32 &&& (1431655765 : Int32))) &&& (858993459 : Int32)) + (((x0 - ((x0.toUInt32 >>> ((1 : Int32).toUInt32 &&& Int32.toUInt32 31)).toInt32 &&& (1431655765 : Int32))).toUInt32 >>> ((2 : Int32).toUInt32 &&& Int32.toUInt32 31)).toInt32 &&& (858993459 : Int32))).toUInt32 >>> ((4 : Int32).toUInt32 &&& Int32.toUInt32 31)).toInt32) &&& (252645135 : Int32)) + ((((((x0 - ((x0.toUInt32 >>> ((1 : Int32).toUInt32 &&& Int32.toUInt32 31)).toInt32 &&& (1431655765 : Int32))) &&& (858993459 : Int32)) + (((x0 - ((x0.toUInt32 >>> ((1 : Int32).toUInt32 &&& Int32.toUInt32 31)).toInt32 &&& (1431655765 : Int32))).toUInt32 >>> ((2 : Int32).toUInt32 &&& Int32.toUInt32 31)).toInt32 &&& (858993459 : Int32))) + ((((x0 - ((x0.toUInt32 >>> ((1 : Int32).toUInt32 &&& Int32.toUInt32 31)).toInt32 &&& (1431655765 : Int32))) &&& (858993459 : Int32)) + (((x0 - ((x0.toUInt32 >>> ((1 : Int32).toUInt32 &&& Int32.toUInt32 31)).toInt32 &&& (1431655765 : Int32))).toUInt32 >>> ((2 : Int32).toUInt32 &&& Int32.toUInt32 31)).toInt32 &&& (858993459 : Int32))).toUInt32 >>> ((4 : Int32).toUInt32 &&& Int32.toUInt32 31)).toInt32) &&& (252645135 : Int32)).toUInt32 >>> ((8 : Int32).toUInt32 &&& Int32.toUInt32 31)).toInt32) + (((((((x0 - ((x0.toUInt32 >>> ((1 : Int32).toUInt32 &&& Int32.toUInt32 31)).toInt32 &&& (1431655765 : Int32))) &&& (858993459 : Int32)) + (((x0 - ((x0.toUInt32 >>> ((1 : Int32).toUInt32 &&& Int32.toUInt32 31)).toInt32 &&& (1431655765 : Int32))).toUInt32 >>> ((2 : Int32).toUInt32 &&& Int32.toUInt32 31)).toInt32 &&& (858993459 : Int32))) + ((((x0 - ((x0.toUInt32 >>> ((1 : Int32).toUInt32 &&& Int32.toUInt32 31)).toInt32 &&& (1431655765 : Int32))) &&& (858993459 : Int32)) + (((x0 - ((x0.toUInt32 >>> ((1 : Int32).toUInt32 &&& Int32.toUInt32 31)).toInt32 &&& (1431655765 : Int32))).toUInt32 >>> ((2 : Int32).toUInt32 &&& Int32.toUInt32 31)).toInt32 &&& (858993459 : Int32))).toUInt32 >>> ((4 : Int32).toUInt32 &&& Int32.toUInt32 31)).toInt32) &&& (252645135 : Int32)) + ((((((x0 - ((x0.toUInt32 >>> ((1 : Int32).toUInt32 &&& Int32.toUInt32 31)).toInt32 &&& (1431655765 : Int32))) &&& (858993459 : Int32)) + (((x0 - ((x0.toUInt32 >>> ((1 : Int32).toUInt32 &&& Int32.toUInt32 31)).toInt32 &&& (1431655765 : Int32))).toUInt32 >>> ((2 : Int32).toUInt32 &&& Int32.toUInt32 31)).toInt32 &&& (858993459 : Int32))) + ((((x0 - ((x0.toUInt32 >>> ((1 : Int32).toUInt32 &&& Int32.toUInt32 31)).toInt32 &&& (1431655765 : Int32))) &&& (858993459 : Int32)) + (((x0 - ((x0.toUInt32 >>> ((1 : Int32).toUInt32 &&& Int32.toUInt32 31)).toInt32 &&& (1431655765 : Int32))).toUInt32 >>> ((2 : Int32).toUInt32 &&& Int32.toUInt32 31)).toInt32 &&& (858993459 : Int32))).toUInt32 >>> ((4 : Int32).toUInt32 &&& Int32.toUInt32 31)).toInt32) &&& (252645135 : Int32)).toUInt32 >>> ((8 : Int32).toUInt32 &&& Int32.toUInt32 31)).toInt32).toUInt32 >>> ((16 : Int32).toUInt32 &&& Int32.toUInt32 31)).toInt32) &&& (63 : Int32))
set_option maxHeartbeats 4000000 in
set_option maxRecDepth 100000 in
theorem wk_In_bitCount_0 {p : Program} {l : Launch} {e : Env} {s : State} {m : MethodId} {args : Array Value} {below : List Frame} {meth : Method} {c : Code} (dC : Nat → ClassId) (dI : Nat → Nat → Nat) (cI cJ cC : ClassId) (A : Nat → Prop) (hA : ∀ q : Nat, s.heap.size ≤ q → A q) (C0 : gx_C p s m meth c args "java/lang/Integer" prog_14_method_49_code 1 (Option.some Jvm.ClassFile.FieldType.int)) (hN : gx_K dC dI cI cJ cC s)  (post : Int32 → Prop)   : ∀ (x0 : Int32), wp_In_bitCount_0 post x0 → ∀ (H : Heap) (locs : List Loc) (ls : Array Slot), va_P (dC, dI) classes [] H → va_D A [] → va_S A s.heap H locs → lv_has ls 1 [(0, .int x0)] → W p l e { frames := 0, cells := 0, slots := 0, locals := 0 } s m args below meth c H locs 0 0 (MQ below (va_Qi (fun (r : Int32) (u : Unit) => post r) (fun (u : Unit) (t : State) => va_P (dC, dI) classes [] t.heap ∧ va_D A []) A) args s 0 0 A) (F0 m 0 ls []) := by
  obtain ⟨hx, hb, hr, hml, hown, hlocks, hG⟩ := id C0
  have hK := hN.1
  intro x0 h H locs ls hP hD hS hl
  rw [wp_In_bitCount_0] at h
  refine lv_iload_n hx hb d_In_bitCount_0 rfl (lv_at hl 0 rfl) ?_
  refine lv_iload_n hx hb d_In_bitCount_1 rfl (lv_at hl 0 rfl) ?_
  refine lv_iconst (v := 1) hx hb d_In_bitCount_2 (by decide) ?_
  refine lv_iushr hx hb d_In_bitCount_3 rfl ?_
  refine lv_ldcw (own := "java/lang/Integer") (v := 1431655765) hx hb hown (hG _ mw_413) d_In_bitCount_4 ?_
  refine lv_iand hx hb d_In_bitCount_7 ?_
  refine lv_isub hx hb d_In_bitCount_8 ?_
  refine lv_istore_n (lv' := [(0, .int (x0 - ((x0.toUInt32 >>> ((1 : Int32).toUInt32 &&& Int32.toUInt32 31)).toInt32 &&& (1431655765 : Int32))))]) hx hb d_In_bitCount_9 rfl hl (by decide) rfl (fun ls hl => ?_)
  refine lv_iload_n hx hb d_In_bitCount_10 rfl (lv_at hl 0 rfl) ?_
  refine lv_ldcw (own := "java/lang/Integer") (v := 858993459) hx hb hown (hG _ mw_414) d_In_bitCount_11 ?_
  refine lv_iand hx hb d_In_bitCount_14 ?_
  refine lv_iload_n hx hb d_In_bitCount_15 rfl (lv_at hl 0 rfl) ?_
  refine lv_iconst (v := 2) hx hb d_In_bitCount_16 (by decide) ?_
  refine lv_iushr hx hb d_In_bitCount_17 rfl ?_
  refine lv_ldcw (own := "java/lang/Integer") (v := 858993459) hx hb hown (hG _ mw_414) d_In_bitCount_18 ?_
  refine lv_iand hx hb d_In_bitCount_21 ?_
  refine lv_iadd hx hb d_In_bitCount_22 ?_
  refine lv_istore_n (lv' := [(0, .int (((x0 - ((x0.toUInt32 >>> ((1 : Int32).toUInt32 &&& Int32.toUInt32 31)).toInt32 &&& (1431655765 : Int32))) &&& (858993459 : Int32)) + (((x0 - ((x0.toUInt32 >>> ((1 : Int32).toUInt32 &&& Int32.toUInt32 31)).toInt32 &&& (1431655765 : Int32))).toUInt32 >>> ((2 : Int32).toUInt32 &&& Int32.toUInt32 31)).toInt32 &&& (858993459 : Int32))))]) hx hb d_In_bitCount_23 rfl hl (by decide) rfl (fun ls hl => ?_)
  refine lv_iload_n hx hb d_In_bitCount_24 rfl (lv_at hl 0 rfl) ?_
  refine lv_iload_n hx hb d_In_bitCount_25 rfl (lv_at hl 0 rfl) ?_
  refine lv_iconst (v := 4) hx hb d_In_bitCount_26 (by decide) ?_
  refine lv_iushr hx hb d_In_bitCount_27 rfl ?_
  refine lv_iadd hx hb d_In_bitCount_28 ?_
  refine lv_ldcw (own := "java/lang/Integer") (v := 252645135) hx hb hown (hG _ mw_415) d_In_bitCount_29 ?_
  refine lv_iand hx hb d_In_bitCount_32 ?_
  refine lv_istore_n (lv' := [(0, .int (((((x0 - ((x0.toUInt32 >>> ((1 : Int32).toUInt32 &&& Int32.toUInt32 31)).toInt32 &&& (1431655765 : Int32))) &&& (858993459 : Int32)) + (((x0 - ((x0.toUInt32 >>> ((1 : Int32).toUInt32 &&& Int32.toUInt32 31)).toInt32 &&& (1431655765 : Int32))).toUInt32 >>> ((2 : Int32).toUInt32 &&& Int32.toUInt32 31)).toInt32 &&& (858993459 : Int32))) + ((((x0 - ((x0.toUInt32 >>> ((1 : Int32).toUInt32 &&& Int32.toUInt32 31)).toInt32 &&& (1431655765 : Int32))) &&& (858993459 : Int32)) + (((x0 - ((x0.toUInt32 >>> ((1 : Int32).toUInt32 &&& Int32.toUInt32 31)).toInt32 &&& (1431655765 : Int32))).toUInt32 >>> ((2 : Int32).toUInt32 &&& Int32.toUInt32 31)).toInt32 &&& (858993459 : Int32))).toUInt32 >>> ((4 : Int32).toUInt32 &&& Int32.toUInt32 31)).toInt32) &&& (252645135 : Int32)))]) hx hb d_In_bitCount_33 rfl hl (by decide) rfl (fun ls hl => ?_)
  refine lv_iload_n hx hb d_In_bitCount_34 rfl (lv_at hl 0 rfl) ?_
  refine lv_iload_n hx hb d_In_bitCount_35 rfl (lv_at hl 0 rfl) ?_
  refine lv_bipush (v := 8) hx hb d_In_bitCount_36 (by decide) ?_
  refine lv_iushr hx hb d_In_bitCount_38 rfl ?_
  refine lv_iadd hx hb d_In_bitCount_39 ?_
  refine lv_istore_n (lv' := [(0, .int ((((((x0 - ((x0.toUInt32 >>> ((1 : Int32).toUInt32 &&& Int32.toUInt32 31)).toInt32 &&& (1431655765 : Int32))) &&& (858993459 : Int32)) + (((x0 - ((x0.toUInt32 >>> ((1 : Int32).toUInt32 &&& Int32.toUInt32 31)).toInt32 &&& (1431655765 : Int32))).toUInt32 >>> ((2 : Int32).toUInt32 &&& Int32.toUInt32 31)).toInt32 &&& (858993459 : Int32))) + ((((x0 - ((x0.toUInt32 >>> ((1 : Int32).toUInt32 &&& Int32.toUInt32 31)).toInt32 &&& (1431655765 : Int32))) &&& (858993459 : Int32)) + (((x0 - ((x0.toUInt32 >>> ((1 : Int32).toUInt32 &&& Int32.toUInt32 31)).toInt32 &&& (1431655765 : Int32))).toUInt32 >>> ((2 : Int32).toUInt32 &&& Int32.toUInt32 31)).toInt32 &&& (858993459 : Int32))).toUInt32 >>> ((4 : Int32).toUInt32 &&& Int32.toUInt32 31)).toInt32) &&& (252645135 : Int32)) + ((((((x0 - ((x0.toUInt32 >>> ((1 : Int32).toUInt32 &&& Int32.toUInt32 31)).toInt32 &&& (1431655765 : Int32))) &&& (858993459 : Int32)) + (((x0 - ((x0.toUInt32 >>> ((1 : Int32).toUInt32 &&& Int32.toUInt32 31)).toInt32 &&& (1431655765 : Int32))).toUInt32 >>> ((2 : Int32).toUInt32 &&& Int32.toUInt32 31)).toInt32 &&& (858993459 : Int32))) + ((((x0 - ((x0.toUInt32 >>> ((1 : Int32).toUInt32 &&& Int32.toUInt32 31)).toInt32 &&& (1431655765 : Int32))) &&& (858993459 : Int32)) + (((x0 - ((x0.toUInt32 >>> ((1 : Int32).toUInt32 &&& Int32.toUInt32 31)).toInt32 &&& (1431655765 : Int32))).toUInt32 >>> ((2 : Int32).toUInt32 &&& Int32.toUInt32 31)).toInt32 &&& (858993459 : Int32))).toUInt32 >>> ((4 : Int32).toUInt32 &&& Int32.toUInt32 31)).toInt32) &&& (252645135 : Int32)).toUInt32 >>> ((8 : Int32).toUInt32 &&& Int32.toUInt32 31)).toInt32))]) hx hb d_In_bitCount_40 rfl hl (by decide) rfl (fun ls hl => ?_)
  refine lv_iload_n hx hb d_In_bitCount_41 rfl (lv_at hl 0 rfl) ?_
  refine lv_iload_n hx hb d_In_bitCount_42 rfl (lv_at hl 0 rfl) ?_
  refine lv_bipush (v := 16) hx hb d_In_bitCount_43 (by decide) ?_
  refine lv_iushr hx hb d_In_bitCount_45 rfl ?_
  refine lv_iadd hx hb d_In_bitCount_46 ?_
  refine lv_istore_n (lv' := [(0, .int (((((((x0 - ((x0.toUInt32 >>> ((1 : Int32).toUInt32 &&& Int32.toUInt32 31)).toInt32 &&& (1431655765 : Int32))) &&& (858993459 : Int32)) + (((x0 - ((x0.toUInt32 >>> ((1 : Int32).toUInt32 &&& Int32.toUInt32 31)).toInt32 &&& (1431655765 : Int32))).toUInt32 >>> ((2 : Int32).toUInt32 &&& Int32.toUInt32 31)).toInt32 &&& (858993459 : Int32))) + ((((x0 - ((x0.toUInt32 >>> ((1 : Int32).toUInt32 &&& Int32.toUInt32 31)).toInt32 &&& (1431655765 : Int32))) &&& (858993459 : Int32)) + (((x0 - ((x0.toUInt32 >>> ((1 : Int32).toUInt32 &&& Int32.toUInt32 31)).toInt32 &&& (1431655765 : Int32))).toUInt32 >>> ((2 : Int32).toUInt32 &&& Int32.toUInt32 31)).toInt32 &&& (858993459 : Int32))).toUInt32 >>> ((4 : Int32).toUInt32 &&& Int32.toUInt32 31)).toInt32) &&& (252645135 : Int32)) + ((((((x0 - ((x0.toUInt32 >>> ((1 : Int32).toUInt32 &&& Int32.toUInt32 31)).toInt32 &&& (1431655765 : Int32))) &&& (858993459 : Int32)) + (((x0 - ((x0.toUInt32 >>> ((1 : Int32).toUInt32 &&& Int32.toUInt32 31)).toInt32 &&& (1431655765 : Int32))).toUInt32 >>> ((2 : Int32).toUInt32 &&& Int32.toUInt32 31)).toInt32 &&& (858993459 : Int32))) + ((((x0 - ((x0.toUInt32 >>> ((1 : Int32).toUInt32 &&& Int32.toUInt32 31)).toInt32 &&& (1431655765 : Int32))) &&& (858993459 : Int32)) + (((x0 - ((x0.toUInt32 >>> ((1 : Int32).toUInt32 &&& Int32.toUInt32 31)).toInt32 &&& (1431655765 : Int32))).toUInt32 >>> ((2 : Int32).toUInt32 &&& Int32.toUInt32 31)).toInt32 &&& (858993459 : Int32))).toUInt32 >>> ((4 : Int32).toUInt32 &&& Int32.toUInt32 31)).toInt32) &&& (252645135 : Int32)).toUInt32 >>> ((8 : Int32).toUInt32 &&& Int32.toUInt32 31)).toInt32) + (((((((x0 - ((x0.toUInt32 >>> ((1 : Int32).toUInt32 &&& Int32.toUInt32 31)).toInt32 &&& (1431655765 : Int32))) &&& (858993459 : Int32)) + (((x0 - ((x0.toUInt32 >>> ((1 : Int32).toUInt32 &&& Int32.toUInt32 31)).toInt32 &&& (1431655765 : Int32))).toUInt32 >>> ((2 : Int32).toUInt32 &&& Int32.toUInt32 31)).toInt32 &&& (858993459 : Int32))) + ((((x0 - ((x0.toUInt32 >>> ((1 : Int32).toUInt32 &&& Int32.toUInt32 31)).toInt32 &&& (1431655765 : Int32))) &&& (858993459 : Int32)) + (((x0 - ((x0.toUInt32 >>> ((1 : Int32).toUInt32 &&& Int32.toUInt32 31)).toInt32 &&& (1431655765 : Int32))).toUInt32 >>> ((2 : Int32).toUInt32 &&& Int32.toUInt32 31)).toInt32 &&& (858993459 : Int32))).toUInt32 >>> ((4 : Int32).toUInt32 &&& Int32.toUInt32 31)).toInt32) &&& (252645135 : Int32)) + ((((((x0 - ((x0.toUInt32 >>> ((1 : Int32).toUInt32 &&& Int32.toUInt32 31)).toInt32 &&& (1431655765 : Int32))) &&& (858993459 : Int32)) + (((x0 - ((x0.toUInt32 >>> ((1 : Int32).toUInt32 &&& Int32.toUInt32 31)).toInt32 &&& (1431655765 : Int32))).toUInt32 >>> ((2 : Int32).toUInt32 &&& Int32.toUInt32 31)).toInt32 &&& (858993459 : Int32))) + ((((x0 - ((x0.toUInt32 >>> ((1 : Int32).toUInt32 &&& Int32.toUInt32 31)).toInt32 &&& (1431655765 : Int32))) &&& (858993459 : Int32)) + (((x0 - ((x0.toUInt32 >>> ((1 : Int32).toUInt32 &&& Int32.toUInt32 31)).toInt32 &&& (1431655765 : Int32))).toUInt32 >>> ((2 : Int32).toUInt32 &&& Int32.toUInt32 31)).toInt32 &&& (858993459 : Int32))).toUInt32 >>> ((4 : Int32).toUInt32 &&& Int32.toUInt32 31)).toInt32) &&& (252645135 : Int32)).toUInt32 >>> ((8 : Int32).toUInt32 &&& Int32.toUInt32 31)).toInt32).toUInt32 >>> ((16 : Int32).toUInt32 &&& Int32.toUInt32 31)).toInt32))]) hx hb d_In_bitCount_47 rfl hl (by decide) rfl (fun ls hl => ?_)
  refine lv_iload_n hx hb d_In_bitCount_48 rfl (lv_at hl 0 rfl) ?_
  refine lv_bipush (v := 63) hx hb d_In_bitCount_49 (by decide) ?_
  refine lv_iand hx hb d_In_bitCount_51 ?_
  exact W.iret (v := ((((((((x0 - ((x0.toUInt32 >>> ((1 : Int32).toUInt32 &&& Int32.toUInt32 31)).toInt32 &&& (1431655765 : Int32))) &&& (858993459 : Int32)) + (((x0 - ((x0.toUInt32 >>> ((1 : Int32).toUInt32 &&& Int32.toUInt32 31)).toInt32 &&& (1431655765 : Int32))).toUInt32 >>> ((2 : Int32).toUInt32 &&& Int32.toUInt32 31)).toInt32 &&& (858993459 : Int32))) + ((((x0 - ((x0.toUInt32 >>> ((1 : Int32).toUInt32 &&& Int32.toUInt32 31)).toInt32 &&& (1431655765 : Int32))) &&& (858993459 : Int32)) + (((x0 - ((x0.toUInt32 >>> ((1 : Int32).toUInt32 &&& Int32.toUInt32 31)).toInt32 &&& (1431655765 : Int32))).toUInt32 >>> ((2 : Int32).toUInt32 &&& Int32.toUInt32 31)).toInt32 &&& (858993459 : Int32))).toUInt32 >>> ((4 : Int32).toUInt32 &&& Int32.toUInt32 31)).toInt32) &&& (252645135 : Int32)) + ((((((x0 - ((x0.toUInt32 >>> ((1 : Int32).toUInt32 &&& Int32.toUInt32 31)).toInt32 &&& (1431655765 : Int32))) &&& (858993459 : Int32)) + (((x0 - ((x0.toUInt32 >>> ((1 : Int32).toUInt32 &&& Int32.toUInt32 31)).toInt32 &&& (1431655765 : Int32))).toUInt32 >>> ((2 : Int32).toUInt32 &&& Int32.toUInt32 31)).toInt32 &&& (858993459 : Int32))) + ((((x0 - ((x0.toUInt32 >>> ((1 : Int32).toUInt32 &&& Int32.toUInt32 31)).toInt32 &&& (1431655765 : Int32))) &&& (858993459 : Int32)) + (((x0 - ((x0.toUInt32 >>> ((1 : Int32).toUInt32 &&& Int32.toUInt32 31)).toInt32 &&& (1431655765 : Int32))).toUInt32 >>> ((2 : Int32).toUInt32 &&& Int32.toUInt32 31)).toInt32 &&& (858993459 : Int32))).toUInt32 >>> ((4 : Int32).toUInt32 &&& Int32.toUInt32 31)).toInt32) &&& (252645135 : Int32)).toUInt32 >>> ((8 : Int32).toUInt32 &&& Int32.toUInt32 31)).toInt32) + (((((((x0 - ((x0.toUInt32 >>> ((1 : Int32).toUInt32 &&& Int32.toUInt32 31)).toInt32 &&& (1431655765 : Int32))) &&& (858993459 : Int32)) + (((x0 - ((x0.toUInt32 >>> ((1 : Int32).toUInt32 &&& Int32.toUInt32 31)).toInt32 &&& (1431655765 : Int32))).toUInt32 >>> ((2 : Int32).toUInt32 &&& Int32.toUInt32 31)).toInt32 &&& (858993459 : Int32))) + ((((x0 - ((x0.toUInt32 >>> ((1 : Int32).toUInt32 &&& Int32.toUInt32 31)).toInt32 &&& (1431655765 : Int32))) &&& (858993459 : Int32)) + (((x0 - ((x0.toUInt32 >>> ((1 : Int32).toUInt32 &&& Int32.toUInt32 31)).toInt32 &&& (1431655765 : Int32))).toUInt32 >>> ((2 : Int32).toUInt32 &&& Int32.toUInt32 31)).toInt32 &&& (858993459 : Int32))).toUInt32 >>> ((4 : Int32).toUInt32 &&& Int32.toUInt32 31)).toInt32) &&& (252645135 : Int32)) + ((((((x0 - ((x0.toUInt32 >>> ((1 : Int32).toUInt32 &&& Int32.toUInt32 31)).toInt32 &&& (1431655765 : Int32))) &&& (858993459 : Int32)) + (((x0 - ((x0.toUInt32 >>> ((1 : Int32).toUInt32 &&& Int32.toUInt32 31)).toInt32 &&& (1431655765 : Int32))).toUInt32 >>> ((2 : Int32).toUInt32 &&& Int32.toUInt32 31)).toInt32 &&& (858993459 : Int32))) + ((((x0 - ((x0.toUInt32 >>> ((1 : Int32).toUInt32 &&& Int32.toUInt32 31)).toInt32 &&& (1431655765 : Int32))) &&& (858993459 : Int32)) + (((x0 - ((x0.toUInt32 >>> ((1 : Int32).toUInt32 &&& Int32.toUInt32 31)).toInt32 &&& (1431655765 : Int32))).toUInt32 >>> ((2 : Int32).toUInt32 &&& Int32.toUInt32 31)).toInt32 &&& (858993459 : Int32))).toUInt32 >>> ((4 : Int32).toUInt32 &&& Int32.toUInt32 31)).toInt32) &&& (252645135 : Int32)).toUInt32 >>> ((8 : Int32).toUInt32 &&& Int32.toUInt32 31)).toInt32).toUInt32 >>> ((16 : Int32).toUInt32 &&& Int32.toUInt32 31)).toInt32) &&& (63 : Int32))) hx hb hr (fun t ht hW => ⟨⟨((((((((x0 - ((x0.toUInt32 >>> ((1 : Int32).toUInt32 &&& Int32.toUInt32 31)).toInt32 &&& (1431655765 : Int32))) &&& (858993459 : Int32)) + (((x0 - ((x0.toUInt32 >>> ((1 : Int32).toUInt32 &&& Int32.toUInt32 31)).toInt32 &&& (1431655765 : Int32))).toUInt32 >>> ((2 : Int32).toUInt32 &&& Int32.toUInt32 31)).toInt32 &&& (858993459 : Int32))) + ((((x0 - ((x0.toUInt32 >>> ((1 : Int32).toUInt32 &&& Int32.toUInt32 31)).toInt32 &&& (1431655765 : Int32))) &&& (858993459 : Int32)) + (((x0 - ((x0.toUInt32 >>> ((1 : Int32).toUInt32 &&& Int32.toUInt32 31)).toInt32 &&& (1431655765 : Int32))).toUInt32 >>> ((2 : Int32).toUInt32 &&& Int32.toUInt32 31)).toInt32 &&& (858993459 : Int32))).toUInt32 >>> ((4 : Int32).toUInt32 &&& Int32.toUInt32 31)).toInt32) &&& (252645135 : Int32)) + ((((((x0 - ((x0.toUInt32 >>> ((1 : Int32).toUInt32 &&& Int32.toUInt32 31)).toInt32 &&& (1431655765 : Int32))) &&& (858993459 : Int32)) + (((x0 - ((x0.toUInt32 >>> ((1 : Int32).toUInt32 &&& Int32.toUInt32 31)).toInt32 &&& (1431655765 : Int32))).toUInt32 >>> ((2 : Int32).toUInt32 &&& Int32.toUInt32 31)).toInt32 &&& (858993459 : Int32))) + ((((x0 - ((x0.toUInt32 >>> ((1 : Int32).toUInt32 &&& Int32.toUInt32 31)).toInt32 &&& (1431655765 : Int32))) &&& (858993459 : Int32)) + (((x0 - ((x0.toUInt32 >>> ((1 : Int32).toUInt32 &&& Int32.toUInt32 31)).toInt32 &&& (1431655765 : Int32))).toUInt32 >>> ((2 : Int32).toUInt32 &&& Int32.toUInt32 31)).toInt32 &&& (858993459 : Int32))).toUInt32 >>> ((4 : Int32).toUInt32 &&& Int32.toUInt32 31)).toInt32) &&& (252645135 : Int32)).toUInt32 >>> ((8 : Int32).toUInt32 &&& Int32.toUInt32 31)).toInt32) + (((((((x0 - ((x0.toUInt32 >>> ((1 : Int32).toUInt32 &&& Int32.toUInt32 31)).toInt32 &&& (1431655765 : Int32))) &&& (858993459 : Int32)) + (((x0 - ((x0.toUInt32 >>> ((1 : Int32).toUInt32 &&& Int32.toUInt32 31)).toInt32 &&& (1431655765 : Int32))).toUInt32 >>> ((2 : Int32).toUInt32 &&& Int32.toUInt32 31)).toInt32 &&& (858993459 : Int32))) + ((((x0 - ((x0.toUInt32 >>> ((1 : Int32).toUInt32 &&& Int32.toUInt32 31)).toInt32 &&& (1431655765 : Int32))) &&& (858993459 : Int32)) + (((x0 - ((x0.toUInt32 >>> ((1 : Int32).toUInt32 &&& Int32.toUInt32 31)).toInt32 &&& (1431655765 : Int32))).toUInt32 >>> ((2 : Int32).toUInt32 &&& Int32.toUInt32 31)).toInt32 &&& (858993459 : Int32))).toUInt32 >>> ((4 : Int32).toUInt32 &&& Int32.toUInt32 31)).toInt32) &&& (252645135 : Int32)) + ((((((x0 - ((x0.toUInt32 >>> ((1 : Int32).toUInt32 &&& Int32.toUInt32 31)).toInt32 &&& (1431655765 : Int32))) &&& (858993459 : Int32)) + (((x0 - ((x0.toUInt32 >>> ((1 : Int32).toUInt32 &&& Int32.toUInt32 31)).toInt32 &&& (1431655765 : Int32))).toUInt32 >>> ((2 : Int32).toUInt32 &&& Int32.toUInt32 31)).toInt32 &&& (858993459 : Int32))) + ((((x0 - ((x0.toUInt32 >>> ((1 : Int32).toUInt32 &&& Int32.toUInt32 31)).toInt32 &&& (1431655765 : Int32))) &&& (858993459 : Int32)) + (((x0 - ((x0.toUInt32 >>> ((1 : Int32).toUInt32 &&& Int32.toUInt32 31)).toInt32 &&& (1431655765 : Int32))).toUInt32 >>> ((2 : Int32).toUInt32 &&& Int32.toUInt32 31)).toInt32 &&& (858993459 : Int32))).toUInt32 >>> ((4 : Int32).toUInt32 &&& Int32.toUInt32 31)).toInt32) &&& (252645135 : Int32)).toUInt32 >>> ((8 : Int32).toUInt32 &&& Int32.toUInt32 31)).toInt32).toUInt32 >>> ((16 : Int32).toUInt32 &&& Int32.toUInt32 31)).toInt32) &&& (63 : Int32)), (), rfl, h, by rw [ht]; exact hP, hD⟩, hS.F ht⟩) hS.2.2 d_In_bitCount_52 hlocks
set_option maxHeartbeats 4000000 in
set_option maxRecDepth 100000 in
theorem c_In_bitCount (l : Launch) (dC : Nat → ClassId) (dI : Nat → Nat → Nat) (cI cJ cC : ClassId) (post : Int32 → Prop) (x0 : Int32) (sz : Nat) (h : wp_In_bitCount_0 post x0) : Met l y_In_bitCount (.code y_In_bitCount prog_14_method_49_code 1 (Option.some Jvm.ClassFile.FieldType.int) :: gx_G) ({ frames := 0, cells := 0, slots := 0, locals := 0 }) (va_Pc [.int x0] (fun U => U.heap.size = sz ∧ va_P (dC, dI) classes [] U.heap ∧ gx_K dC dI cI cJ cC U ∧ va_D (fun _ => True) [])) (va_Qi (fun (r : Int32) (u : Unit) => post r) (fun (u : Unit) (t : State) => va_P (dC, dI) classes [] t.heap ∧ va_D (va_A [] sz) []) (va_A [] sz)) 0 0 (va_A [] sz) := by
  refine va_MetF (cc := prog_14_method_49_code) (maxL := 1) (ret := (Option.some Jvm.ClassFile.FieldType.int)) (by decide +kernel) rfl ?_
  intro p e s m args below meth c s₁ B hml hv
  obtain ⟨rfl, hsz, hP, hN, hD0⟩ := hv
  have hts := atoms_spec (ws := (.code y_In_bitCount prog_14_method_49_code 1 (Option.some Jvm.ClassFile.FieldType.int) :: gx_G)) B.pre
  have C0 : gx_C p s m meth c _ "java/lang/Integer" prog_14_method_49_code 1 (Option.some Jvm.ClassFile.FieldType.int) := ⟨B.exec, B.bytes, B.returns, hml, findClass_of_methodNamed B.named, B.notSynchronized, fun w hw => hts w (List.mem_cons_of_mem _ hw)⟩
  subst hsz
  have hD := hD0.self (sz := s.heap.size)
  generalize hAe : va_A [] s.heap.size = A at hD ⊢
  have hA : ∀ q : Nat, s.heap.size ≤ q → A q := fun q h => by rw [← hAe]; exact Or.inr h
  have hl := lv_entry ([.int x0]) (n := 1) (Nat.le_of_ble_eq_true rfl)
  rw [lg_entry_eq]
  generalize (lg_sl ([.int x0]) ++ List.replicate (1 - (lg_sl ([.int x0])).length) Slot.unset).toArray = ls at hl ⊢
  exact wk_In_bitCount_0 dC dI cI cJ cC A hA C0 hN post x0 h s.heap [] ls hP hD va_S.rf hl
/-! LeanSets$SetTable.clear(I)V -/
def y_St_clear : MethodName := ⟨"LeanSets$SetTable", "clear", "(I)V"⟩
theorem d_St_clear_0 : decode prog_4_method_2_code 0 = .ok (.aload_n 0, 1) := by decide +kernel
theorem d_St_clear_1 : decode prog_4_method_2_code 1 = .ok (.iload_n 1, 1) := by decide +kernel
theorem d_St_clear_2 : decode prog_4_method_2_code 2 = .ok (.putfield 15, 3) := by decide +kernel
theorem d_St_clear_5 : decode prog_4_method_2_code 5 = .ok (.aload_n 0, 1) := by decide +kernel
theorem d_St_clear_6 : decode prog_4_method_2_code 6 = .ok (.iconst 1, 1) := by decide +kernel
theorem d_St_clear_7 : decode prog_4_method_2_code 7 = .ok (.iload_n 1, 1) := by decide +kernel
theorem d_St_clear_8 : decode prog_4_method_2_code 8 = .ok (.ishl, 1) := by decide +kernel
theorem d_St_clear_9 : decode prog_4_method_2_code 9 = .ok (.putfield 19, 3) := by decide +kernel
theorem d_St_clear_12 : decode prog_4_method_2_code 12 = .ok (.iconst 0, 1) := by decide +kernel
theorem d_St_clear_13 : decode prog_4_method_2_code 13 = .ok (.istore_n 2, 1) := by decide +kernel
theorem d_St_clear_14 : decode prog_4_method_2_code 14 = .ok (.iload_n 2, 1) := by decide +kernel
theorem d_St_clear_15 : decode prog_4_method_2_code 15 = .ok (.aload_n 0, 1) := by decide +kernel
theorem d_St_clear_16 : decode prog_4_method_2_code 16 = .ok (.getfield 19, 3) := by decide +kernel
theorem d_St_clear_19 : decode prog_4_method_2_code 19 = .ok (.if_icmp .ge 16, 3) := by decide +kernel
theorem d_St_clear_22 : decode prog_4_method_2_code 22 = .ok (.aload_n 0, 1) := by decide +kernel
theorem d_St_clear_23 : decode prog_4_method_2_code 23 = .ok (.getfield 9, 3) := by decide +kernel
theorem d_St_clear_26 : decode prog_4_method_2_code 26 = .ok (.iload_n 2, 1) := by decide +kernel
theorem d_St_clear_27 : decode prog_4_method_2_code 27 = .ok (.lconst 0, 1) := by decide +kernel
theorem d_St_clear_28 : decode prog_4_method_2_code 28 = .ok (.lastore, 1) := by decide +kernel
theorem d_St_clear_29 : decode prog_4_method_2_code 29 = .ok (.iinc 2 1, 3) := by decide +kernel
theorem d_St_clear_32 : decode prog_4_method_2_code 32 = .ok (.goto (-18), 3) := by decide +kernel
theorem d_St_clear_35 : decode prog_4_method_2_code 35 = .ok (.return_, 1) := by decide +kernel
def wp_St_clear_14  (post : Int32 → Int32 → (Nat → Int64) → Prop)  : Nat → Int32 → Int32 → Int32 → (Nat → Int64) → Prop
  | 0, _, _, _, _ => False
  | n + 1, x2, f_size, f_sets, f_values => ((f_sets ≤ x2) → (post f_size f_sets f_values)) ∧ ((¬ (f_sets ≤ x2)) → ((vp_in x2 1024) ∧ (wp_St_clear_14 post n (x2 + (1 : Int32)) f_size f_sets (vp_updL f_values x2.toNatClampNeg (0 : Int64)))))
set_option maxHeartbeats 4000000 in
set_option maxRecDepth 100000 in
theorem wk_St_clear_14 {p : Program} {l : Launch} {e : Env} {s : State} {m : MethodId} {args : Array Value} {below : List Frame} {meth : Method} {c : Code} (dC : Nat → ClassId) (dI : Nat → Nat → Nat) (cI cJ cC : ClassId) (A : Nat → Prop) (hA : ∀ q : Nat, s.heap.size ≤ q → A q) (C0 : gx_C p s m meth c args "LeanSets$SetTable" prog_4_method_2_code 3 (Option.none : Option Jvm.ClassFile.FieldType)) (hN : gx_K dC dI cI cJ cC s)  (h_this h_values : Nat) (u_lowest : Int64) (u_meet : Int32) (u_join : Int32) (post : Int32 → Int32 → (Nat → Int64) → Prop)   : ∀ (n : Nat) (x2 : Int32) (f_size : Int32) (f_sets : Int32) (f_values : Nat → Int64), wp_St_clear_14 post n x2 f_size f_sets f_values → ∀ (H : Heap) (locs : List Loc) (ls : Array Slot), va_P (dC, dI) classes [(h_this, .inr (2, [.ref h_values, .int f_size, .int f_sets, .long u_lowest, .int u_meet, .int u_join])), (h_values, .inl (cJ, 1024, .inr (.inl f_values)))] H → va_D A [(h_this, .inr (2, [.ref h_values, .int f_size, .int f_sets, .long u_lowest, .int u_meet, .int u_join])), (h_values, .inl (cJ, 1024, .inr (.inl f_values)))] → va_S A s.heap H locs → lv_has ls 3 [(0, .ref h_this), (2, .int x2)] → W p l e { frames := 0, cells := 0, slots := 0, locals := 0 } s m args below meth c H locs 0 0 (MQ below (va_Qv (fun (u : Int32 × Int32 × (Nat → Int64)) => post u.1 u.2.1 u.2.2) (fun (u : Int32 × Int32 × (Nat → Int64)) (t : State) => va_P (dC, dI) classes [(h_this, .inr (2, [.ref h_values, .int u.1, .int u.2.1, .long u_lowest, .int u_meet, .int u_join])), (h_values, .inl (cJ, 1024, .inr (.inl u.2.2)))] t.heap ∧ va_D A [(h_this, .inr (2, [.ref h_values, .int u.1, .int u.2.1, .long u_lowest, .int u_meet, .int u_join])), (h_values, .inl (cJ, 1024, .inr (.inl u.2.2)))]) A) args s 0 0 A) (F0 m 14 ls []) := by
  obtain ⟨hx, hb, hr, hml, hown, hlocks, hG⟩ := id C0
  have hK := hN.1
  intro n
  induction n with
  | zero =>
    intro x2 f_size f_sets f_values h
    exact absurd h (by rw [wp_St_clear_14]; exact id)
  | succ n ih =>
    intro x2 f_size f_sets f_values h H locs ls hP hD hS hl
    rw [wp_St_clear_14] at h
    refine lv_iload_n hx hb d_St_clear_14 rfl (lv_at hl 1 rfl) ?_
    refine lv_aload_n hx hb d_St_clear_15 rfl (lv_at hl 0 rfl) ?_
    refine va_get (D := (dC, dI)) (ci := 2) (v := .int f_sets) (C := "LeanSets$SetTable") (T := T_St) (N := 6) hx hb hG in_St hown hK hP 0 rfl rfl 2 (Nat.le_of_ble_eq_true rfl) (hG _ mw_135) (fun _ h9 => h9) rfl d_St_clear_16 ?_
    refine lv_icmp_ge (tgt := 35) hx hb d_St_clear_19 (by decide) (fun c_ => ?_) (fun c_ => ?_)
    · have h := h.1 c_
      exact W.vret hx hb hr (fun t ht hW => ⟨⟨(f_size, f_sets, f_values), rfl, h, by rw [ht]; exact hP, hD⟩, hS.F ht⟩) hS.2.2 d_St_clear_35 hlocks
    · have h := h.2 c_
      refine lv_aload_n hx hb d_St_clear_22 rfl (lv_at hl 0 rfl) ?_
      refine va_get (D := (dC, dI)) (ci := 2) (v := .ref h_values) (C := "LeanSets$SetTable") (T := T_St) (N := 6) hx hb hG in_St hown hK hP 0 rfl rfl 0 (Nat.le_of_ble_eq_true rfl) (hG _ mw_128) (fun _ h9 => h9) rfl d_St_clear_23 ?_
      refine lv_iload_n hx hb d_St_clear_26 rfl (lv_at hl 1 rfl) ?_
      refine lv_lconst (v := 0) hx hb d_St_clear_27 (by decide) ?_
      obtain ⟨g_, h⟩ := h
      refine va_last hx hb hK hP hD hS 1 1 rfl rfl g_ d_St_clear_28 (fun H locs hP hD hS => ?_)
      have hP : va_P (dC, dI) classes [(h_this, .inr (2, [.ref h_values, .int f_size, .int f_sets, .long u_lowest, .int u_meet, .int u_join])), (h_values, .inl (cJ, 1024, .inr (.inl (vp_updL f_values x2.toNatClampNeg (0 : Int64)))))] H := hP
      have hD : va_D A [(h_this, .inr (2, [.ref h_values, .int f_size, .int f_sets, .long u_lowest, .int u_meet, .int u_join])), (h_values, .inl (cJ, 1024, .inr (.inl (vp_updL f_values x2.toNatClampNeg (0 : Int64)))))] := hD
      refine lv_iinc (v := (x2 + (1 : Int32))) (lv' := [(2, .int (x2 + (1 : Int32))), (0, .ref h_this)]) hx hb d_St_clear_29 hl (k := 1) rfl rfl (by decide) rfl (fun ls hl => ?_)
      refine lv_goto (tgt := 14) hx hb d_St_clear_32 (by decide) ?_
      exact ih (x2 + (1 : Int32)) f_size f_sets (vp_updL f_values x2.toNatClampNeg (0 : Int64)) h _ _ _ hP hD hS (lv_sub hl [1, 0] rfl)
def wp_St_clear_0  (post : Int32 → Int32 → (Nat → Int64) → Prop)  (x1 : Int32) (f_size : Int32) (f_sets : Int32) (f_values : Nat → Int64) : Prop := ∃ n_ : Nat, wp_St_clear_14 post n_ (0 : Int32) x1 ((1 : Int32) <<< (x1 &&& 31)) f_values
set_option maxHeartbeats 4000000 in
set_option maxRecDepth 100000 in
theorem wk_St_clear_0 {p : Program} {l : Launch} {e : Env} {s : State} {m : MethodId} {args : Array Value} {below : List Frame} {meth : Method} {c : Code} (dC : Nat → ClassId) (dI : Nat → Nat → Nat) (cI cJ cC : ClassId) (A : Nat → Prop) (hA : ∀ q : Nat, s.heap.size ≤ q → A q) (C0 : gx_C p s m meth c args "LeanSets$SetTable" prog_4_method_2_code 3 (Option.none : Option Jvm.ClassFile.FieldType)) (hN : gx_K dC dI cI cJ cC s)  (h_this h_values : Nat) (u_lowest : Int64) (u_meet : Int32) (u_join : Int32) (post : Int32 → Int32 → (Nat → Int64) → Prop)   : ∀ (x1 : Int32) (f_size : Int32) (f_sets : Int32) (f_values : Nat → Int64), wp_St_clear_0 post x1 f_size f_sets f_values → ∀ (H : Heap) (locs : List Loc) (ls : Array Slot), va_P (dC, dI) classes [(h_this, .inr (2, [.ref h_values, .int f_size, .int f_sets, .long u_lowest, .int u_meet, .int u_join])), (h_values, .inl (cJ, 1024, .inr (.inl f_values)))] H → va_D A [(h_this, .inr (2, [.ref h_values, .int f_size, .int f_sets, .long u_lowest, .int u_meet, .int u_join])), (h_values, .inl (cJ, 1024, .inr (.inl f_values)))] → va_S A s.heap H locs → lv_has ls 3 [(0, .ref h_this), (1, .int x1)] → W p l e { frames := 0, cells := 0, slots := 0, locals := 0 } s m args below meth c H locs 0 0 (MQ below (va_Qv (fun (u : Int32 × Int32 × (Nat → Int64)) => post u.1 u.2.1 u.2.2) (fun (u : Int32 × Int32 × (Nat → Int64)) (t : State) => va_P (dC, dI) classes [(h_this, .inr (2, [.ref h_values, .int u.1, .int u.2.1, .long u_lowest, .int u_meet, .int u_join])), (h_values, .inl (cJ, 1024, .inr (.inl u.2.2)))] t.heap ∧ va_D A [(h_this, .inr (2, [.ref h_values, .int u.1, .int u.2.1, .long u_lowest, .int u_meet, .int u_join])), (h_values, .inl (cJ, 1024, .inr (.inl u.2.2)))]) A) args s 0 0 A) (F0 m 0 ls []) := by
  obtain ⟨hx, hb, hr, hml, hown, hlocks, hG⟩ := id C0
  have hK := hN.1
  intro x1 f_size f_sets f_values h H locs ls hP hD hS hl
  rw [wp_St_clear_0] at h
  refine lv_aload_n hx hb d_St_clear_0 rfl (lv_at hl 0 rfl) ?_
  refine lv_iload_n hx hb d_St_clear_1 rfl (lv_at hl 1 rfl) ?_
  refine va_put (D := (dC, dI)) (ci := 2) (v := .int x1) (ty := .int) (C := "LeanSets$SetTable") (T := T_St) (N := 6) hx hb hG in_St ty_St ty_St_ok nm_St hown hK hP hD hS 0 rfl rfl 1 (Nat.le_of_ble_eq_true rfl) (hG _ mw_132) (fun _ h9 => h9) rfl (ty_St_ok 1 (Nat.le_of_ble_eq_true rfl)) rfl rfl (Nat.le_of_ble_eq_true rfl) d_St_clear_2 (fun H locs hP hD hS => ?_)
  have hP : va_P (dC, dI) classes [(h_this, .inr (2, [.ref h_values, .int x1, .int f_sets, .long u_lowest, .int u_meet, .int u_join])), (h_values, .inl (cJ, 1024, .inr (.inl f_values)))] H := hP
  have hD : va_D A [(h_this, .inr (2, [.ref h_values, .int x1, .int f_sets, .long u_lowest, .int u_meet, .int u_join])), (h_values, .inl (cJ, 1024, .inr (.inl f_values)))] := hD
  refine lv_aload_n hx hb d_St_clear_5 rfl (lv_at hl 0 rfl) ?_
  refine lv_iconst (v := 1) hx hb d_St_clear_6 (by decide) ?_
  refine lv_iload_n hx hb d_St_clear_7 rfl (lv_at hl 1 rfl) ?_
  refine lv_ishl hx hb d_St_clear_8 ?_
  refine va_put (D := (dC, dI)) (ci := 2) (v := .int ((1 : Int32) <<< (x1 &&& 31))) (ty := .int) (C := "LeanSets$SetTable") (T := T_St) (N := 6) hx hb hG in_St ty_St ty_St_ok nm_St hown hK hP hD hS 0 rfl rfl 2 (Nat.le_of_ble_eq_true rfl) (hG _ mw_135) (fun _ h9 => h9) rfl (ty_St_ok 2 (Nat.le_of_ble_eq_true rfl)) rfl rfl (Nat.le_of_ble_eq_true rfl) d_St_clear_9 (fun H locs hP hD hS => ?_)
  have hP : va_P (dC, dI) classes [(h_this, .inr (2, [.ref h_values, .int x1, .int ((1 : Int32) <<< (x1 &&& 31)), .long u_lowest, .int u_meet, .int u_join])), (h_values, .inl (cJ, 1024, .inr (.inl f_values)))] H := hP
  have hD : va_D A [(h_this, .inr (2, [.ref h_values, .int x1, .int ((1 : Int32) <<< (x1 &&& 31)), .long u_lowest, .int u_meet, .int u_join])), (h_values, .inl (cJ, 1024, .inr (.inl f_values)))] := hD
  refine lv_iconst (v := 0) hx hb d_St_clear_12 (by decide) ?_
  refine lv_istore_n (lv' := [(2, .int (0 : Int32)), (0, .ref h_this), (1, .int x1)]) hx hb d_St_clear_13 rfl hl (by decide) rfl (fun ls hl => ?_)
  obtain ⟨n_, h⟩ := h
  exact wk_St_clear_14 dC dI cI cJ cC A hA C0 hN h_this h_values u_lowest u_meet u_join post   n_ (0 : Int32) x1 ((1 : Int32) <<< (x1 &&& 31)) f_values h _ _ _ hP hD hS (lv_sub hl [1, 0] rfl)
set_option maxHeartbeats 4000000 in
set_option maxRecDepth 100000 in
theorem c_St_clear (l : Launch) (dC : Nat → ClassId) (dI : Nat → Nat → Nat) (cI cJ cC : ClassId) (h_this h_values : Nat) (u_lowest : Int64) (u_meet : Int32) (u_join : Int32) (post : Int32 → Int32 → (Nat → Int64) → Prop) (x1 : Int32) (f_size : Int32) (f_sets : Int32) (f_values : Nat → Int64) (sz : Nat) (h : wp_St_clear_0 post x1 f_size f_sets f_values) : Met l y_St_clear (.code y_St_clear prog_4_method_2_code 3 (Option.none : Option Jvm.ClassFile.FieldType) :: gx_G) ({ frames := 0, cells := 0, slots := 0, locals := 0 }) (va_Pc [.ref h_this, .int x1] (fun U => U.heap.size = sz ∧ va_P (dC, dI) classes [(h_this, .inr (2, [.ref h_values, .int f_size, .int f_sets, .long u_lowest, .int u_meet, .int u_join])), (h_values, .inl (cJ, 1024, .inr (.inl f_values)))] U.heap ∧ gx_K dC dI cI cJ cC U ∧ va_D (fun _ => True) [(h_this, .inr (2, [.ref h_values, .int f_size, .int f_sets, .long u_lowest, .int u_meet, .int u_join])), (h_values, .inl (cJ, 1024, .inr (.inl f_values)))])) (va_Qv (fun (u : Int32 × Int32 × (Nat → Int64)) => post u.1 u.2.1 u.2.2) (fun (u : Int32 × Int32 × (Nat → Int64)) (t : State) => va_P (dC, dI) classes [(h_this, .inr (2, [.ref h_values, .int u.1, .int u.2.1, .long u_lowest, .int u_meet, .int u_join])), (h_values, .inl (cJ, 1024, .inr (.inl u.2.2)))] t.heap ∧ va_D (va_A [(h_this, .inr (2, [.ref h_values, .int f_size, .int f_sets, .long u_lowest, .int u_meet, .int u_join])), (h_values, .inl (cJ, 1024, .inr (.inl f_values)))] sz) [(h_this, .inr (2, [.ref h_values, .int u.1, .int u.2.1, .long u_lowest, .int u_meet, .int u_join])), (h_values, .inl (cJ, 1024, .inr (.inl u.2.2)))]) (va_A [(h_this, .inr (2, [.ref h_values, .int f_size, .int f_sets, .long u_lowest, .int u_meet, .int u_join])), (h_values, .inl (cJ, 1024, .inr (.inl f_values)))] sz)) 0 0 (va_A [(h_this, .inr (2, [.ref h_values, .int f_size, .int f_sets, .long u_lowest, .int u_meet, .int u_join])), (h_values, .inl (cJ, 1024, .inr (.inl f_values)))] sz) := by
  refine Met.ofW (cc := prog_4_method_2_code) (maxL := 3) (ret := (Option.none : Option Jvm.ClassFile.FieldType)) (by decide +kernel) rfl ?_
  intro p e s m args below meth c s₁ B hml hv
  obtain ⟨rfl, hsz, hP, hN, hD0⟩ := hv
  have hts := atoms_spec (ws := (.code y_St_clear prog_4_method_2_code 3 (Option.none : Option Jvm.ClassFile.FieldType) :: gx_G)) B.pre
  have C0 : gx_C p s m meth c _ "LeanSets$SetTable" prog_4_method_2_code 3 (Option.none : Option Jvm.ClassFile.FieldType) := ⟨B.exec, B.bytes, B.returns, hml, findClass_of_methodNamed B.named, B.notSynchronized, fun w hw => hts w (List.mem_cons_of_mem _ hw)⟩
  subst hsz
  have hD := hD0.self (sz := s.heap.size)
  generalize hAe : va_A [(h_this, .inr (2, [.ref h_values, .int f_size, .int f_sets, .long u_lowest, .int u_meet, .int u_join])), (h_values, .inl (cJ, 1024, .inr (.inl f_values)))] s.heap.size = A at hD ⊢
  have hA : ∀ q : Nat, s.heap.size ≤ q → A q := fun q h => by rw [← hAe]; exact Or.inr h
  have hl := lv_entry ([.ref h_this, .int x1]) (n := 3) (Nat.le_of_ble_eq_true rfl)
  rw [lg_entry_eq]
  generalize (lg_sl ([.ref h_this, .int x1]) ++ List.replicate (3 - (lg_sl ([.ref h_this, .int x1])).length) Slot.unset).toArray = ls at hl ⊢
  exact wk_St_clear_0 dC dI cI cJ cC A hA C0 hN h_this h_values u_lowest u_meet u_join post x1 f_size f_sets f_values h s.heap [] ls hP hD va_S.rf hl
/-! LeanSets$SetTable.copy(LLeanSets$SetTable;J)V -/
def y_St_copy : MethodName := ⟨"LeanSets$SetTable", "copy", "(LLeanSets$SetTable;J)V"⟩
theorem d_St_copy_0 : decode prog_4_method_3_code 0 = .ok (.aload_n 0, 1) := by decide +kernel
theorem d_St_copy_1 : decode prog_4_method_3_code 1 = .ok (.aload_n 1, 1) := by decide +kernel
theorem d_St_copy_2 : decode prog_4_method_3_code 2 = .ok (.getfield 15, 3) := by decide +kernel
theorem d_St_copy_5 : decode prog_4_method_3_code 5 = .ok (.putfield 15, 3) := by decide +kernel
theorem d_St_copy_8 : decode prog_4_method_3_code 8 = .ok (.aload_n 0, 1) := by decide +kernel
theorem d_St_copy_9 : decode prog_4_method_3_code 9 = .ok (.aload_n 1, 1) := by decide +kernel
theorem d_St_copy_10 : decode prog_4_method_3_code 10 = .ok (.getfield 19, 3) := by decide +kernel
theorem d_St_copy_13 : decode prog_4_method_3_code 13 = .ok (.putfield 19, 3) := by decide +kernel
theorem d_St_copy_16 : decode prog_4_method_3_code 16 = .ok (.iconst 0, 1) := by decide +kernel
theorem d_St_copy_17 : decode prog_4_method_3_code 17 = .ok (.istore 4, 2) := by decide +kernel
theorem d_St_copy_19 : decode prog_4_method_3_code 19 = .ok (.iload 4, 2) := by decide +kernel
theorem d_St_copy_21 : decode prog_4_method_3_code 21 = .ok (.aload_n 0, 1) := by decide +kernel
theorem d_St_copy_22 : decode prog_4_method_3_code 22 = .ok (.getfield 19, 3) := by decide +kernel
theorem d_St_copy_25 : decode prog_4_method_3_code 25 = .ok (.if_icmp .ge 25, 3) := by decide +kernel
theorem d_St_copy_28 : decode prog_4_method_3_code 28 = .ok (.aload_n 0, 1) := by decide +kernel
theorem d_St_copy_29 : decode prog_4_method_3_code 29 = .ok (.getfield 9, 3) := by decide +kernel
theorem d_St_copy_32 : decode prog_4_method_3_code 32 = .ok (.iload 4, 2) := by decide +kernel
theorem d_St_copy_34 : decode prog_4_method_3_code 34 = .ok (.lload_n 2, 1) := by decide +kernel
theorem d_St_copy_35 : decode prog_4_method_3_code 35 = .ok (.aload_n 1, 1) := by decide +kernel
theorem d_St_copy_36 : decode prog_4_method_3_code 36 = .ok (.getfield 9, 3) := by decide +kernel
theorem d_St_copy_39 : decode prog_4_method_3_code 39 = .ok (.iload 4, 2) := by decide +kernel
theorem d_St_copy_41 : decode prog_4_method_3_code 41 = .ok (.laload, 1) := by decide +kernel
theorem d_St_copy_42 : decode prog_4_method_3_code 42 = .ok (.lmul, 1) := by decide +kernel
theorem d_St_copy_43 : decode prog_4_method_3_code 43 = .ok (.lastore, 1) := by decide +kernel
theorem d_St_copy_44 : decode prog_4_method_3_code 44 = .ok (.iinc 4 1, 3) := by decide +kernel
theorem d_St_copy_47 : decode prog_4_method_3_code 47 = .ok (.goto (-28), 3) := by decide +kernel
theorem d_St_copy_50 : decode prog_4_method_3_code 50 = .ok (.return_, 1) := by decide +kernel
def wp_St_copy_19 (f_p1_size : Int32) (f_p1_sets : Int32) (f_p1_values : Nat → Int64) (post : Int32 → Int32 → (Nat → Int64) → Prop)  : Nat → Int64 → Int32 → Int32 → Int32 → (Nat → Int64) → Prop
  | 0, _, _, _, _, _ => False
  | n + 1, x2, x4, f_size, f_sets, f_values => ((f_sets ≤ x4) → (post f_size f_sets f_values)) ∧ ((¬ (f_sets ≤ x4)) → ((vp_in x4 1024) ∧ ((vp_in x4 1024) ∧ (wp_St_copy_19 f_p1_size f_p1_sets f_p1_values post n x2 (x4 + (1 : Int32)) f_size f_sets (vp_updL f_values x4.toNatClampNeg (x2 * (f_p1_values x4.toNatClampNeg)))))))
set_option maxHeartbeats 4000000 in
set_option maxRecDepth 100000 in
theorem wk_St_copy_19 {p : Program} {l : Launch} {e : Env} {s : State} {m : MethodId} {args : Array Value} {below : List Frame} {meth : Method} {c : Code} (dC : Nat → ClassId) (dI : Nat → Nat → Nat) (cI cJ cC : ClassId) (A : Nat → Prop) (hA : ∀ q : Nat, s.heap.size ≤ q → A q) (C0 : gx_C p s m meth c args "LeanSets$SetTable" prog_4_method_3_code 5 (Option.none : Option Jvm.ClassFile.FieldType)) (hN : gx_K dC dI cI cJ cC s)  (h_p1 h_this h_p1_values h_values : Nat) (u_p1_lowest : Int64) (u_p1_meet : Int32) (u_p1_join : Int32) (u_lowest : Int64) (u_meet : Int32) (u_join : Int32) (f_p1_size : Int32) (f_p1_sets : Int32) (f_p1_values : Nat → Int64) (post : Int32 → Int32 → (Nat → Int64) → Prop)   : ∀ (n : Nat) (x2 : Int64) (x4 : Int32) (f_size : Int32) (f_sets : Int32) (f_values : Nat → Int64), wp_St_copy_19 f_p1_size f_p1_sets f_p1_values post n x2 x4 f_size f_sets f_values → ∀ (H : Heap) (locs : List Loc) (ls : Array Slot), va_P (dC, dI) classes [(h_p1, .inr (2, [.ref h_p1_values, .int f_p1_size, .int f_p1_sets, .long u_p1_lowest, .int u_p1_meet, .int u_p1_join])), (h_this, .inr (2, [.ref h_values, .int f_size, .int f_sets, .long u_lowest, .int u_meet, .int u_join])), (h_p1_values, .inl (cJ, 1024, .inr (.inl f_p1_values))), (h_values, .inl (cJ, 1024, .inr (.inl f_values)))] H → va_D A [(h_p1, .inr (2, [.ref h_p1_values, .int f_p1_size, .int f_p1_sets, .long u_p1_lowest, .int u_p1_meet, .int u_p1_join])), (h_this, .inr (2, [.ref h_values, .int f_size, .int f_sets, .long u_lowest, .int u_meet, .int u_join])), (h_p1_values, .inl (cJ, 1024, .inr (.inl f_p1_values))), (h_values, .inl (cJ, 1024, .inr (.inl f_values)))] → va_S A s.heap H locs → lv_has ls 5 [(0, .ref h_this), (1, .ref h_p1), (2, .long x2), (4, .int x4)] → W p l e { frames := 0, cells := 0, slots := 0, locals := 0 } s m args below meth c H locs 0 0 (MQ below (va_Qv (fun (u : Int32 × Int32 × (Nat → Int64)) => post u.1 u.2.1 u.2.2) (fun (u : Int32 × Int32 × (Nat → Int64)) (t : State) => va_P (dC, dI) classes [(h_p1, .inr (2, [.ref h_p1_values, .int f_p1_size, .int f_p1_sets, .long u_p1_lowest, .int u_p1_meet, .int u_p1_join])), (h_this, .inr (2, [.ref h_values, .int u.1, .int u.2.1, .long u_lowest, .int u_meet, .int u_join])), (h_p1_values, .inl (cJ, 1024, .inr (.inl f_p1_values))), (h_values, .inl (cJ, 1024, .inr (.inl u.2.2)))] t.heap ∧ va_D A [(h_p1, .inr (2, [.ref h_p1_values, .int f_p1_size, .int f_p1_sets, .long u_p1_lowest, .int u_p1_meet, .int u_p1_join])), (h_this, .inr (2, [.ref h_values, .int u.1, .int u.2.1, .long u_lowest, .int u_meet, .int u_join])), (h_p1_values, .inl (cJ, 1024, .inr (.inl f_p1_values))), (h_values, .inl (cJ, 1024, .inr (.inl u.2.2)))]) A) args s 0 0 A) (F0 m 19 ls []) := by
  obtain ⟨hx, hb, hr, hml, hown, hlocks, hG⟩ := id C0
  have hK := hN.1
  intro n
  induction n with
  | zero =>
    intro x2 x4 f_size f_sets f_values h
    exact absurd h (by rw [wp_St_copy_19]; exact id)
  | succ n ih =>
    intro x2 x4 f_size f_sets f_values h H locs ls hP hD hS hl
    rw [wp_St_copy_19] at h
    refine lv_iload hx hb d_St_copy_19 (lv_at hl 3 rfl) ?_
    refine lv_aload_n hx hb d_St_copy_21 rfl (lv_at hl 0 rfl) ?_
    refine va_get (D := (dC, dI)) (ci := 2) (v := .int f_sets) (C := "LeanSets$SetTable") (T := T_St) (N := 6) hx hb hG in_St hown hK hP 1 rfl rfl 2 (Nat.le_of_ble_eq_true rfl) (hG _ mw_135) (fun _ h9 => h9) rfl d_St_copy_22 ?_
    refine lv_icmp_ge (tgt := 50) hx hb d_St_copy_25 (by decide) (fun c_ => ?_) (fun c_ => ?_)
    · have h := h.1 c_
      exact W.vret hx hb hr (fun t ht hW => ⟨⟨(f_size, f_sets, f_values), rfl, h, by rw [ht]; exact hP, hD⟩, hS.F ht⟩) hS.2.2 d_St_copy_50 hlocks
    · have h := h.2 c_
      refine lv_aload_n hx hb d_St_copy_28 rfl (lv_at hl 0 rfl) ?_
      refine va_get (D := (dC, dI)) (ci := 2) (v := .ref h_values) (C := "LeanSets$SetTable") (T := T_St) (N := 6) hx hb hG in_St hown hK hP 1 rfl rfl 0 (Nat.le_of_ble_eq_true rfl) (hG _ mw_128) (fun _ h9 => h9) rfl d_St_copy_29 ?_
      refine lv_iload hx hb d_St_copy_32 (lv_at hl 3 rfl) ?_
      refine lv_lload_n hx hb d_St_copy_34 rfl (lv_at hl 2 rfl) ?_
      refine lv_aload_n hx hb d_St_copy_35 rfl (lv_at hl 1 rfl) ?_
      refine va_get (D := (dC, dI)) (ci := 2) (v := .ref h_p1_values) (C := "LeanSets$SetTable") (T := T_St) (N := 6) hx hb hG in_St hown hK hP 0 rfl rfl 0 (Nat.le_of_ble_eq_true rfl) (hG _ mw_128) (fun _ h9 => h9) rfl d_St_copy_36 ?_
      refine lv_iload hx hb d_St_copy_39 (lv_at hl 3 rfl) ?_
      obtain ⟨g_, h⟩ := h
      refine va_lald hx hb hK hP 2 1 rfl rfl g_ d_St_copy_41 ?_
      refine lv_lmul hx hb d_St_copy_42 ?_
      obtain ⟨g_, h⟩ := h
      refine va_last hx hb hK hP hD hS 3 1 rfl rfl g_ d_St_copy_43 (fun H locs hP hD hS => ?_)
      have hP : va_P (dC, dI) classes [(h_p1, .inr (2, [.ref h_p1_values, .int f_p1_size, .int f_p1_sets, .long u_p1_lowest, .int u_p1_meet, .int u_p1_join])), (h_this, .inr (2, [.ref h_values, .int f_size, .int f_sets, .long u_lowest, .int u_meet, .int u_join])), (h_p1_values, .inl (cJ, 1024, .inr (.inl f_p1_values))), (h_values, .inl (cJ, 1024, .inr (.inl (vp_updL f_values x4.toNatClampNeg (x2 * (f_p1_values x4.toNatClampNeg))))))] H := hP
      have hD : va_D A [(h_p1, .inr (2, [.ref h_p1_values, .int f_p1_size, .int f_p1_sets, .long u_p1_lowest, .int u_p1_meet, .int u_p1_join])), (h_this, .inr (2, [.ref h_values, .int f_size, .int f_sets, .long u_lowest, .int u_meet, .int u_join])), (h_p1_values, .inl (cJ, 1024, .inr (.inl f_p1_values))), (h_values, .inl (cJ, 1024, .inr (.inl (vp_updL f_values x4.toNatClampNeg (x2 * (f_p1_values x4.toNatClampNeg))))))] := hD
      refine lv_iinc (v := (x4 + (1 : Int32))) (lv' := [(4, .int (x4 + (1 : Int32))), (0, .ref h_this), (1, .ref h_p1), (2, .long x2)]) hx hb d_St_copy_44 hl (k := 3) rfl rfl (by decide) rfl (fun ls hl => ?_)
      refine lv_goto (tgt := 19) hx hb d_St_copy_47 (by decide) ?_
      exact ih x2 (x4 + (1 : Int32)) f_size f_sets (vp_updL f_values x4.toNatClampNeg (x2 * (f_p1_values x4.toNatClampNeg))) h _ _ _ hP hD hS (lv_sub hl [1, 2, 3, 0] rfl)
def wp_St_copy_0 (f_p1_size : Int32) (f_p1_sets : Int32) (f_p1_values : Nat → Int64) (post : Int32 → Int32 → (Nat → Int64) → Prop)  (x2 : Int64) (f_size : Int32) (f_sets : Int32) (f_values : Nat → Int64) : Prop := ∃ n_ : Nat, wp_St_copy_19 f_p1_size f_p1_sets f_p1_values post n_ x2 (0 : Int32) f_p1_size f_p1_sets f_values
set_option maxHeartbeats 4000000 in
set_option maxRecDepth 100000 in
theorem wk_St_copy_0 {p : Program} {l : Launch} {e : Env} {s : State} {m : MethodId} {args : Array Value} {below : List Frame} {meth : Method} {c : Code} (dC : Nat → ClassId) (dI : Nat → Nat → Nat) (cI cJ cC : ClassId) (A : Nat → Prop) (hA : ∀ q : Nat, s.heap.size ≤ q → A q) (C0 : gx_C p s m meth c args "LeanSets$SetTable" prog_4_method_3_code 5 (Option.none : Option Jvm.ClassFile.FieldType)) (hN : gx_K dC dI cI cJ cC s)  (h_p1 h_this h_p1_values h_values : Nat) (u_p1_lowest : Int64) (u_p1_meet : Int32) (u_p1_join : Int32) (u_lowest : Int64) (u_meet : Int32) (u_join : Int32) (f_p1_size : Int32) (f_p1_sets : Int32) (f_p1_values : Nat → Int64) (post : Int32 → Int32 → (Nat → Int64) → Prop)   : ∀ (x2 : Int64) (f_size : Int32) (f_sets : Int32) (f_values : Nat → Int64), wp_St_copy_0 f_p1_size f_p1_sets f_p1_values post x2 f_size f_sets f_values → ∀ (H : Heap) (locs : List Loc) (ls : Array Slot), va_P (dC, dI) classes [(h_p1, .inr (2, [.ref h_p1_values, .int f_p1_size, .int f_p1_sets, .long u_p1_lowest, .int u_p1_meet, .int u_p1_join])), (h_this, .inr (2, [.ref h_values, .int f_size, .int f_sets, .long u_lowest, .int u_meet, .int u_join])), (h_p1_values, .inl (cJ, 1024, .inr (.inl f_p1_values))), (h_values, .inl (cJ, 1024, .inr (.inl f_values)))] H → va_D A [(h_p1, .inr (2, [.ref h_p1_values, .int f_p1_size, .int f_p1_sets, .long u_p1_lowest, .int u_p1_meet, .int u_p1_join])), (h_this, .inr (2, [.ref h_values, .int f_size, .int f_sets, .long u_lowest, .int u_meet, .int u_join])), (h_p1_values, .inl (cJ, 1024, .inr (.inl f_p1_values))), (h_values, .inl (cJ, 1024, .inr (.inl f_values)))] → va_S A s.heap H locs → lv_has ls 5 [(0, .ref h_this), (1, .ref h_p1), (2, .long x2)] → W p l e { frames := 0, cells := 0, slots := 0, locals := 0 } s m args below meth c H locs 0 0 (MQ below (va_Qv (fun (u : Int32 × Int32 × (Nat → Int64)) => post u.1 u.2.1 u.2.2) (fun (u : Int32 × Int32 × (Nat → Int64)) (t : State) => va_P (dC, dI) classes [(h_p1, .inr (2, [.ref h_p1_values, .int f_p1_size, .int f_p1_sets, .long u_p1_lowest, .int u_p1_meet, .int u_p1_join])), (h_this, .inr (2, [.ref h_values, .int u.1, .int u.2.1, .long u_lowest, .int u_meet, .int u_join])), (h_p1_values, .inl (cJ, 1024, .inr (.inl f_p1_values))), (h_values, .inl (cJ, 1024, .inr (.inl u.2.2)))] t.heap ∧ va_D A [(h_p1, .inr (2, [.ref h_p1_values, .int f_p1_size, .int f_p1_sets, .long u_p1_lowest, .int u_p1_meet, .int u_p1_join])), (h_this, .inr (2, [.ref h_values, .int u.1, .int u.2.1, .long u_lowest, .int u_meet, .int u_join])), (h_p1_values, .inl (cJ, 1024, .inr (.inl f_p1_values))), (h_values, .inl (cJ, 1024, .inr (.inl u.2.2)))]) A) args s 0 0 A) (F0 m 0 ls []) := by
  obtain ⟨hx, hb, hr, hml, hown, hlocks, hG⟩ := id C0
  have hK := hN.1
  intro x2 f_size f_sets f_values h H locs ls hP hD hS hl
  rw [wp_St_copy_0] at h
  refine lv_aload_n hx hb d_St_copy_0 rfl (lv_at hl 0 rfl) ?_
  refine lv_aload_n hx hb d_St_copy_1 rfl (lv_at hl 1 rfl) ?_
  refine va_get (D := (dC, dI)) (ci := 2) (v := .int f_p1_size) (C := "LeanSets$SetTable") (T := T_St) (N := 6) hx hb hG in_St hown hK hP 0 rfl rfl 1 (Nat.le_of_ble_eq_true rfl) (hG _ mw_132) (fun _ h9 => h9) rfl d_St_copy_2 ?_
  refine va_put (D := (dC, dI)) (ci := 2) (v := .int f_p1_size) (ty := .int) (C := "LeanSets$SetTable") (T := T_St) (N := 6) hx hb hG in_St ty_St ty_St_ok nm_St hown hK hP hD hS 1 rfl rfl 1 (Nat.le_of_ble_eq_true rfl) (hG _ mw_132) (fun _ h9 => h9) rfl (ty_St_ok 1 (Nat.le_of_ble_eq_true rfl)) rfl rfl (Nat.le_of_ble_eq_true rfl) d_St_copy_5 (fun H locs hP hD hS => ?_)
  have hP : va_P (dC, dI) classes [(h_p1, .inr (2, [.ref h_p1_values, .int f_p1_size, .int f_p1_sets, .long u_p1_lowest, .int u_p1_meet, .int u_p1_join])), (h_this, .inr (2, [.ref h_values, .int f_p1_size, .int f_sets, .long u_lowest, .int u_meet, .int u_join])), (h_p1_values, .inl (cJ, 1024, .inr (.inl f_p1_values))), (h_values, .inl (cJ, 1024, .inr (.inl f_values)))] H := hP
  have hD : va_D A [(h_p1, .inr (2, [.ref h_p1_values, .int f_p1_size, .int f_p1_sets, .long u_p1_lowest, .int u_p1_meet, .int u_p1_join])), (h_this, .inr (2, [.ref h_values, .int f_p1_size, .int f_sets, .long u_lowest, .int u_meet, .int u_join])), (h_p1_values, .inl (cJ, 1024, .inr (.inl f_p1_values))), (h_values, .inl (cJ, 1024, .inr (.inl f_values)))] := hD
  refine lv_aload_n hx hb d_St_copy_8 rfl (lv_at hl 0 rfl) ?_
  refine lv_aload_n hx hb d_St_copy_9 rfl (lv_at hl 1 rfl) ?_
  refine va_get (D := (dC, dI)) (ci := 2) (v := .int f_p1_sets) (C := "LeanSets$SetTable") (T := T_St) (N := 6) hx hb hG in_St hown hK hP 0 rfl rfl 2 (Nat.le_of_ble_eq_true rfl) (hG _ mw_135) (fun _ h9 => h9) rfl d_St_copy_10 ?_
  refine va_put (D := (dC, dI)) (ci := 2) (v := .int f_p1_sets) (ty := .int) (C := "LeanSets$SetTable") (T := T_St) (N := 6) hx hb hG in_St ty_St ty_St_ok nm_St hown hK hP hD hS 1 rfl rfl 2 (Nat.le_of_ble_eq_true rfl) (hG _ mw_135) (fun _ h9 => h9) rfl (ty_St_ok 2 (Nat.le_of_ble_eq_true rfl)) rfl rfl (Nat.le_of_ble_eq_true rfl) d_St_copy_13 (fun H locs hP hD hS => ?_)
  have hP : va_P (dC, dI) classes [(h_p1, .inr (2, [.ref h_p1_values, .int f_p1_size, .int f_p1_sets, .long u_p1_lowest, .int u_p1_meet, .int u_p1_join])), (h_this, .inr (2, [.ref h_values, .int f_p1_size, .int f_p1_sets, .long u_lowest, .int u_meet, .int u_join])), (h_p1_values, .inl (cJ, 1024, .inr (.inl f_p1_values))), (h_values, .inl (cJ, 1024, .inr (.inl f_values)))] H := hP
  have hD : va_D A [(h_p1, .inr (2, [.ref h_p1_values, .int f_p1_size, .int f_p1_sets, .long u_p1_lowest, .int u_p1_meet, .int u_p1_join])), (h_this, .inr (2, [.ref h_values, .int f_p1_size, .int f_p1_sets, .long u_lowest, .int u_meet, .int u_join])), (h_p1_values, .inl (cJ, 1024, .inr (.inl f_p1_values))), (h_values, .inl (cJ, 1024, .inr (.inl f_values)))] := hD
  refine lv_iconst (v := 0) hx hb d_St_copy_16 (by decide) ?_
  refine lv_istore (lv' := [(4, .int (0 : Int32)), (0, .ref h_this), (1, .ref h_p1), (2, .long x2)]) hx hb d_St_copy_17 hl (by decide) rfl (fun ls hl => ?_)
  obtain ⟨n_, h⟩ := h
  exact wk_St_copy_19 dC dI cI cJ cC A hA C0 hN h_p1 h_this h_p1_values h_values u_p1_lowest u_p1_meet u_p1_join u_lowest u_meet u_join f_p1_size f_p1_sets f_p1_values post   n_ x2 (0 : Int32) f_p1_size f_p1_sets f_values h _ _ _ hP hD hS (lv_sub hl [1, 2, 3, 0] rfl)
set_option maxHeartbeats 4000000 in
set_option maxRecDepth 100000 in
theorem c_St_copy (l : Launch) (dC : Nat → ClassId) (dI : Nat → Nat → Nat) (cI cJ cC : ClassId) (h_p1 h_this h_p1_values h_values : Nat) (u_p1_lowest : Int64) (u_p1_meet : Int32) (u_p1_join : Int32) (u_lowest : Int64) (u_meet : Int32) (u_join : Int32) (f_p1_size : Int32) (f_p1_sets : Int32) (f_p1_values : Nat → Int64) (post : Int32 → Int32 → (Nat → Int64) → Prop) (x2 : Int64) (f_size : Int32) (f_sets : Int32) (f_values : Nat → Int64) (sz : Nat) (h : wp_St_copy_0 f_p1_size f_p1_sets f_p1_values post x2 f_size f_sets f_values) : Met l y_St_copy (.code y_St_copy prog_4_method_3_code 5 (Option.none : Option Jvm.ClassFile.FieldType) :: gx_G) ({ frames := 0, cells := 0, slots := 0, locals := 0 }) (va_Pc [.ref h_this, .ref h_p1, .long x2] (fun U => U.heap.size = sz ∧ va_P (dC, dI) classes [(h_p1, .inr (2, [.ref h_p1_values, .int f_p1_size, .int f_p1_sets, .long u_p1_lowest, .int u_p1_meet, .int u_p1_join])), (h_this, .inr (2, [.ref h_values, .int f_size, .int f_sets, .long u_lowest, .int u_meet, .int u_join])), (h_p1_values, .inl (cJ, 1024, .inr (.inl f_p1_values))), (h_values, .inl (cJ, 1024, .inr (.inl f_values)))] U.heap ∧ gx_K dC dI cI cJ cC U ∧ va_D (fun _ => True) [(h_p1, .inr (2, [.ref h_p1_values, .int f_p1_size, .int f_p1_sets, .long u_p1_lowest, .int u_p1_meet, .int u_p1_join])), (h_this, .inr (2, [.ref h_values, .int f_size, .int f_sets, .long u_lowest, .int u_meet, .int u_join])), (h_p1_values, .inl (cJ, 1024, .inr (.inl f_p1_values))), (h_values, .inl (cJ, 1024, .inr (.inl f_values)))])) (va_Qv (fun (u : Int32 × Int32 × (Nat → Int64)) => post u.1 u.2.1 u.2.2) (fun (u : Int32 × Int32 × (Nat → Int64)) (t : State) => va_P (dC, dI) classes [(h_p1, .inr (2, [.ref h_p1_values, .int f_p1_size, .int f_p1_sets, .long u_p1_lowest, .int u_p1_meet, .int u_p1_join])), (h_this, .inr (2, [.ref h_values, .int u.1, .int u.2.1, .long u_lowest, .int u_meet, .int u_join])), (h_p1_values, .inl (cJ, 1024, .inr (.inl f_p1_values))), (h_values, .inl (cJ, 1024, .inr (.inl u.2.2)))] t.heap ∧ va_D (va_A [(h_p1, .inr (2, [.ref h_p1_values, .int f_p1_size, .int f_p1_sets, .long u_p1_lowest, .int u_p1_meet, .int u_p1_join])), (h_this, .inr (2, [.ref h_values, .int f_size, .int f_sets, .long u_lowest, .int u_meet, .int u_join])), (h_p1_values, .inl (cJ, 1024, .inr (.inl f_p1_values))), (h_values, .inl (cJ, 1024, .inr (.inl f_values)))] sz) [(h_p1, .inr (2, [.ref h_p1_values, .int f_p1_size, .int f_p1_sets, .long u_p1_lowest, .int u_p1_meet, .int u_p1_join])), (h_this, .inr (2, [.ref h_values, .int u.1, .int u.2.1, .long u_lowest, .int u_meet, .int u_join])), (h_p1_values, .inl (cJ, 1024, .inr (.inl f_p1_values))), (h_values, .inl (cJ, 1024, .inr (.inl u.2.2)))]) (va_A [(h_p1, .inr (2, [.ref h_p1_values, .int f_p1_size, .int f_p1_sets, .long u_p1_lowest, .int u_p1_meet, .int u_p1_join])), (h_this, .inr (2, [.ref h_values, .int f_size, .int f_sets, .long u_lowest, .int u_meet, .int u_join])), (h_p1_values, .inl (cJ, 1024, .inr (.inl f_p1_values))), (h_values, .inl (cJ, 1024, .inr (.inl f_values)))] sz)) 0 0 (va_A [(h_p1, .inr (2, [.ref h_p1_values, .int f_p1_size, .int f_p1_sets, .long u_p1_lowest, .int u_p1_meet, .int u_p1_join])), (h_this, .inr (2, [.ref h_values, .int f_size, .int f_sets, .long u_lowest, .int u_meet, .int u_join])), (h_p1_values, .inl (cJ, 1024, .inr (.inl f_p1_values))), (h_values, .inl (cJ, 1024, .inr (.inl f_values)))] sz) := by
  refine Met.ofW (cc := prog_4_method_3_code) (maxL := 5) (ret := (Option.none : Option Jvm.ClassFile.FieldType)) (by decide +kernel) rfl ?_
  intro p e s m args below meth c s₁ B hml hv
  obtain ⟨rfl, hsz, hP, hN, hD0⟩ := hv
  have hts := atoms_spec (ws := (.code y_St_copy prog_4_method_3_code 5 (Option.none : Option Jvm.ClassFile.FieldType) :: gx_G)) B.pre
  have C0 : gx_C p s m meth c _ "LeanSets$SetTable" prog_4_method_3_code 5 (Option.none : Option Jvm.ClassFile.FieldType) := ⟨B.exec, B.bytes, B.returns, hml, findClass_of_methodNamed B.named, B.notSynchronized, fun w hw => hts w (List.mem_cons_of_mem _ hw)⟩
  subst hsz
  have hD := hD0.self (sz := s.heap.size)
  generalize hAe : va_A [(h_p1, .inr (2, [.ref h_p1_values, .int f_p1_size, .int f_p1_sets, .long u_p1_lowest, .int u_p1_meet, .int u_p1_join])), (h_this, .inr (2, [.ref h_values, .int f_size, .int f_sets, .long u_lowest, .int u_meet, .int u_join])), (h_p1_values, .inl (cJ, 1024, .inr (.inl f_p1_values))), (h_values, .inl (cJ, 1024, .inr (.inl f_values)))] s.heap.size = A at hD ⊢
  have hA : ∀ q : Nat, s.heap.size ≤ q → A q := fun q h => by rw [← hAe]; exact Or.inr h
  have hl := lv_entry ([.ref h_this, .ref h_p1, .long x2]) (n := 5) (Nat.le_of_ble_eq_true rfl)
  rw [lg_entry_eq]
  generalize (lg_sl ([.ref h_this, .ref h_p1, .long x2]) ++ List.replicate (5 - (lg_sl ([.ref h_this, .ref h_p1, .long x2])).length) Slot.unset).toArray = ls at hl ⊢
  exact wk_St_copy_0 dC dI cI cJ cC A hA C0 hN h_p1 h_this h_p1_values h_values u_p1_lowest u_p1_meet u_p1_join u_lowest u_meet u_join f_p1_size f_p1_sets f_p1_values post x2 f_size f_sets f_values h s.heap [] ls hP hD va_S.rf hl
/-! LeanSets$SetTable.add(IIJ)V -/
def y_St_add : MethodName := ⟨"LeanSets$SetTable", "add", "(IIJ)V"⟩
theorem d_St_add_0 : decode prog_4_method_4_code 0 = .ok (.iload_n 1, 1) := by decide +kernel
theorem d_St_add_1 : decode prog_4_method_4_code 1 = .ok (.iload_n 2, 1) := by decide +kernel
theorem d_St_add_2 : decode prog_4_method_4_code 2 = .ok (.ior, 1) := by decide +kernel
theorem d_St_add_3 : decode prog_4_method_4_code 3 = .ok (.istore 5, 2) := by decide +kernel
theorem d_St_add_5 : decode prog_4_method_4_code 5 = .ok (.iconst 0, 1) := by decide +kernel
theorem d_St_add_6 : decode prog_4_method_4_code 6 = .ok (.istore 6, 2) := by decide +kernel
theorem d_St_add_8 : decode prog_4_method_4_code 8 = .ok (.iload 6, 2) := by decide +kernel
theorem d_St_add_10 : decode prog_4_method_4_code 10 = .ok (.aload_n 0, 1) := by decide +kernel
theorem d_St_add_11 : decode prog_4_method_4_code 11 = .ok (.getfield 19, 3) := by decide +kernel
theorem d_St_add_14 : decode prog_4_method_4_code 14 = .ok (.if_icmp .ge 29, 3) := by decide +kernel
theorem d_St_add_17 : decode prog_4_method_4_code 17 = .ok (.iload 6, 2) := by decide +kernel
theorem d_St_add_19 : decode prog_4_method_4_code 19 = .ok (.iload 5, 2) := by decide +kernel
theorem d_St_add_21 : decode prog_4_method_4_code 21 = .ok (.iand, 1) := by decide +kernel
theorem d_St_add_22 : decode prog_4_method_4_code 22 = .ok (.iload_n 1, 1) := by decide +kernel
theorem d_St_add_23 : decode prog_4_method_4_code 23 = .ok (.if_icmp .ne 14, 3) := by decide +kernel
theorem d_St_add_26 : decode prog_4_method_4_code 26 = .ok (.aload_n 0, 1) := by decide +kernel
theorem d_St_add_27 : decode prog_4_method_4_code 27 = .ok (.getfield 9, 3) := by decide +kernel
theorem d_St_add_30 : decode prog_4_method_4_code 30 = .ok (.iload 6, 2) := by decide +kernel
theorem d_St_add_32 : decode prog_4_method_4_code 32 = .ok (.dup2, 1) := by decide +kernel
theorem d_St_add_33 : decode prog_4_method_4_code 33 = .ok (.laload, 1) := by decide +kernel
theorem d_St_add_34 : decode prog_4_method_4_code 34 = .ok (.lload_n 3, 1) := by decide +kernel
theorem d_St_add_35 : decode prog_4_method_4_code 35 = .ok (.ladd, 1) := by decide +kernel
theorem d_St_add_36 : decode prog_4_method_4_code 36 = .ok (.lastore, 1) := by decide +kernel
theorem d_St_add_37 : decode prog_4_method_4_code 37 = .ok (.iinc 6 1, 3) := by decide +kernel
theorem d_St_add_40 : decode prog_4_method_4_code 40 = .ok (.goto (-32), 3) := by decide +kernel
theorem d_St_add_43 : decode prog_4_method_4_code 43 = .ok (.return_, 1) := by decide +kernel
def wp_St_add_37 (f_sets : Int32) (post : (Nat → Int64) → Prop) (K8 : Int32 → Int64 → Int32 → Int32 → (Nat → Int64) → Prop) (x1 : Int32) (x3 : Int64) (x5 : Int32) (x6 : Int32) (f_values : Nat → Int64) : Prop := K8 x1 x3 x5 (x6 + (1 : Int32)) f_values
set_option maxHeartbeats 4000000 in
set_option maxRecDepth 100000 in
theorem wk_St_add_37 {p : Program} {l : Launch} {e : Env} {s : State} {m : MethodId} {args : Array Value} {below : List Frame} {meth : Method} {c : Code} (dC : Nat → ClassId) (dI : Nat → Nat → Nat) (cI cJ cC : ClassId) (A : Nat → Prop) (hA : ∀ q : Nat, s.heap.size ≤ q → A q) (C0 : gx_C p s m meth c args "LeanSets$SetTable" prog_4_method_4_code 7 (Option.none : Option Jvm.ClassFile.FieldType)) (hN : gx_K dC dI cI cJ cC s)  (h_this h_values : Nat) (u_size : Int32) (u_lowest : Int64) (u_meet : Int32) (u_join : Int32) (f_sets : Int32) (post : (Nat → Int64) → Prop) (K8 : Int32 → Int64 → Int32 → Int32 → (Nat → Int64) → Prop) (hK8 : ∀ (x1 : Int32) (x3 : Int64) (x5 : Int32) (x6 : Int32) (f_values : Nat → Int64), K8 x1 x3 x5 x6 f_values → ∀ (H : Heap) (locs : List Loc) (ls : Array Slot), va_P (dC, dI) classes [(h_this, .inr (2, [.ref h_values, .int u_size, .int f_sets, .long u_lowest, .int u_meet, .int u_join])), (h_values, .inl (cJ, 1024, .inr (.inl f_values)))] H → va_D A [(h_this, .inr (2, [.ref h_values, .int u_size, .int f_sets, .long u_lowest, .int u_meet, .int u_join])), (h_values, .inl (cJ, 1024, .inr (.inl f_values)))] → va_S A s.heap H locs → lv_has ls 7 [(0, .ref h_this), (1, .int x1), (3, .long x3), (5, .int x5), (6, .int x6)] → W p l e { frames := 0, cells := 0, slots := 0, locals := 0 } s m args below meth c H locs 0 0 (MQ below (va_Qv (fun (u : (Nat → Int64)) => post u) (fun (u : (Nat → Int64)) (t : State) => va_P (dC, dI) classes [(h_this, .inr (2, [.ref h_values, .int u_size, .int f_sets, .long u_lowest, .int u_meet, .int u_join])), (h_values, .inl (cJ, 1024, .inr (.inl u)))] t.heap ∧ va_D A [(h_this, .inr (2, [.ref h_values, .int u_size, .int f_sets, .long u_lowest, .int u_meet, .int u_join])), (h_values, .inl (cJ, 1024, .inr (.inl u)))]) A) args s 0 0 A) (F0 m 8 ls [])) : ∀ (x1 : Int32) (x3 : Int64) (x5 : Int32) (x6 : Int32) (f_values : Nat → Int64), wp_St_add_37 f_sets post K8 x1 x3 x5 x6 f_values → ∀ (H : Heap) (locs : List Loc) (ls : Array Slot), va_P (dC, dI) classes [(h_this, .inr (2, [.ref h_values, .int u_size, .int f_sets, .long u_lowest, .int u_meet, .int u_join])), (h_values, .inl (cJ, 1024, .inr (.inl f_values)))] H → va_D A [(h_this, .inr (2, [.ref h_values, .int u_size, .int f_sets, .long u_lowest, .int u_meet, .int u_join])), (h_values, .inl (cJ, 1024, .inr (.inl f_values)))] → va_S A s.heap H locs → lv_has ls 7 [(0, .ref h_this), (1, .int x1), (3, .long x3), (5, .int x5), (6, .int x6)] → W p l e { frames := 0, cells := 0, slots := 0, locals := 0 } s m args below meth c H locs 0 0 (MQ below (va_Qv (fun (u : (Nat → Int64)) => post u) (fun (u : (Nat → Int64)) (t : State) => va_P (dC, dI) classes [(h_this, .inr (2, [.ref h_values, .int u_size, .int f_sets, .long u_lowest, .int u_meet, .int u_join])), (h_values, .inl (cJ, 1024, .inr (.inl u)))] t.heap ∧ va_D A [(h_this, .inr (2, [.ref h_values, .int u_size, .int f_sets, .long u_lowest, .int u_meet, .int u_join])), (h_values, .inl (cJ, 1024, .inr (.inl u)))]) A) args s 0 0 A) (F0 m 37 ls []) := by
  obtain ⟨hx, hb, hr, hml, hown, hlocks, hG⟩ := id C0
  have hK := hN.1
  intro x1 x3 x5 x6 f_values h H locs ls hP hD hS hl
  rw [wp_St_add_37] at h
  refine lv_iinc (v := (x6 + (1 : Int32))) (lv' := [(6, .int (x6 + (1 : Int32))), (0, .ref h_this), (1, .int x1), (3, .long x3), (5, .int x5)]) hx hb d_St_add_37 hl (k := 4) rfl rfl (by decide) rfl (fun ls hl => ?_)
  refine lv_goto (tgt := 8) hx hb d_St_add_40 (by decide) ?_
  exact hK8 x1 x3 x5 (x6 + (1 : Int32)) f_values h _ _ _ hP hD hS (lv_sub hl [1, 2, 3, 4, 0] rfl)
def wp_St_add_8 (f_sets : Int32) (post : (Nat → Int64) → Prop)  : Nat → Int32 → Int64 → Int32 → Int32 → (Nat → Int64) → Prop
  | 0, _, _, _, _, _ => False
  | n + 1, x1, x3, x5, x6, f_values => ((f_sets ≤ x6) → (post f_values)) ∧ ((¬ (f_sets ≤ x6)) → (((¬ (x6 &&& x5) = x1) → (wp_St_add_37 f_sets post (fun (x1 : Int32) (x3 : Int64) (x5 : Int32) (x6 : Int32) (f_values : Nat → Int64) => wp_St_add_8 f_sets post n x1 x3 x5 x6 f_values) x1 x3 x5 x6 f_values)) ∧ (((x6 &&& x5) = x1) → ((vp_in x6 1024) ∧ ((vp_in x6 1024) ∧ (wp_St_add_37 f_sets post (fun (x1 : Int32) (x3 : Int64) (x5 : Int32) (x6 : Int32) (f_values : Nat → Int64) => wp_St_add_8 f_sets post n x1 x3 x5 x6 f_values) x1 x3 x5 x6 (vp_updL f_values x6.toNatClampNeg ((f_values x6.toNatClampNeg) + x3))))))))
set_option maxHeartbeats 4000000 in
set_option maxRecDepth 100000 in
theorem wk_St_add_8 {p : Program} {l : Launch} {e : Env} {s : State} {m : MethodId} {args : Array Value} {below : List Frame} {meth : Method} {c : Code} (dC : Nat → ClassId) (dI : Nat → Nat → Nat) (cI cJ cC : ClassId) (A : Nat → Prop) (hA : ∀ q : Nat, s.heap.size ≤ q → A q) (C0 : gx_C p s m meth c args "LeanSets$SetTable" prog_4_method_4_code 7 (Option.none : Option Jvm.ClassFile.FieldType)) (hN : gx_K dC dI cI cJ cC s)  (h_this h_values : Nat) (u_size : Int32) (u_lowest : Int64) (u_meet : Int32) (u_join : Int32) (f_sets : Int32) (post : (Nat → Int64) → Prop)   : ∀ (n : Nat) (x1 : Int32) (x3 : Int64) (x5 : Int32) (x6 : Int32) (f_values : Nat → Int64), wp_St_add_8 f_sets post n x1 x3 x5 x6 f_values → ∀ (H : Heap) (locs : List Loc) (ls : Array Slot), va_P (dC, dI) classes [(h_this, .inr (2, [.ref h_values, .int u_size, .int f_sets, .long u_lowest, .int u_meet, .int u_join])), (h_values, .inl (cJ, 1024, .inr (.inl f_values)))] H → va_D A [(h_this, .inr (2, [.ref h_values, .int u_size, .int f_sets, .long u_lowest, .int u_meet, .int u_join])), (h_values, .inl (cJ, 1024, .inr (.inl f_values)))] → va_S A s.heap H locs → lv_has ls 7 [(0, .ref h_this), (1, .int x1), (3, .long x3), (5, .int x5), (6, .int x6)] → W p l e { frames := 0, cells := 0, slots := 0, locals := 0 } s m args below meth c H locs 0 0 (MQ below (va_Qv (fun (u : (Nat → Int64)) => post u) (fun (u : (Nat → Int64)) (t : State) => va_P (dC, dI) classes [(h_this, .inr (2, [.ref h_values, .int u_size, .int f_sets, .long u_lowest, .int u_meet, .int u_join])), (h_values, .inl (cJ, 1024, .inr (.inl u)))] t.heap ∧ va_D A [(h_this, .inr (2, [.ref h_values, .int u_size, .int f_sets, .long u_lowest, .int u_meet, .int u_join])), (h_values, .inl (cJ, 1024, .inr (.inl u)))]) A) args s 0 0 A) (F0 m 8 ls []) := by
  obtain ⟨hx, hb, hr, hml, hown, hlocks, hG⟩ := id C0
  have hK := hN.1
  intro n
  induction n with
  | zero =>
    intro x1 x3 x5 x6 f_values h
    exact absurd h (by rw [wp_St_add_8]; exact id)
  | succ n ih =>
    intro x1 x3 x5 x6 f_values h H locs ls hP hD hS hl
    rw [wp_St_add_8] at h
    refine lv_iload hx hb d_St_add_8 (lv_at hl 4 rfl) ?_
    refine lv_aload_n hx hb d_St_add_10 rfl (lv_at hl 0 rfl) ?_
    refine va_get (D := (dC, dI)) (ci := 2) (v := .int f_sets) (C := "LeanSets$SetTable") (T := T_St) (N := 6) hx hb hG in_St hown hK hP 0 rfl rfl 2 (Nat.le_of_ble_eq_true rfl) (hG _ mw_135) (fun _ h9 => h9) rfl d_St_add_11 ?_
    refine lv_icmp_ge (tgt := 43) hx hb d_St_add_14 (by decide) (fun c_ => ?_) (fun c_ => ?_)
    · have h := h.1 c_
      exact W.vret hx hb hr (fun t ht hW => ⟨⟨f_values, rfl, h, by rw [ht]; exact hP, hD⟩, hS.F ht⟩) hS.2.2 d_St_add_43 hlocks
    · have h := h.2 c_
      refine lv_iload hx hb d_St_add_17 (lv_at hl 4 rfl) ?_
      refine lv_iload hx hb d_St_add_19 (lv_at hl 3 rfl) ?_
      refine lv_iand hx hb d_St_add_21 ?_
      refine lv_iload_n hx hb d_St_add_22 rfl (lv_at hl 1 rfl) ?_
      refine lv_icmp_ne (tgt := 37) hx hb d_St_add_23 (by decide) (fun c_ => ?_) (fun c_ => ?_)
      · have h := h.1 c_
        exact wk_St_add_37 dC dI cI cJ cC A hA C0 hN h_this h_values u_size u_lowest u_meet u_join f_sets post (fun (x1 : Int32) (x3 : Int64) (x5 : Int32) (x6 : Int32) (f_values : Nat → Int64) => wp_St_add_8 f_sets post n x1 x3 x5 x6 f_values) (fun x1 x3 x5 x6 f_values h => ih x1 x3 x5 x6 f_values h) x1 x3 x5 x6 f_values h _ _ _ hP hD hS (lv_sub hl [0, 1, 2, 3, 4] rfl)
      · have h := h.2 c_
        refine lv_aload_n hx hb d_St_add_26 rfl (lv_at hl 0 rfl) ?_
        refine va_get (D := (dC, dI)) (ci := 2) (v := .ref h_values) (C := "LeanSets$SetTable") (T := T_St) (N := 6) hx hb hG in_St hown hK hP 0 rfl rfl 0 (Nat.le_of_ble_eq_true rfl) (hG _ mw_128) (fun _ h9 => h9) rfl d_St_add_27 ?_
        refine lv_iload hx hb d_St_add_30 (lv_at hl 4 rfl) ?_
        refine lv_dup2_11 hx hb d_St_add_32 rfl rfl ?_
        obtain ⟨g_, h⟩ := h
        refine va_lald hx hb hK hP 1 1 rfl rfl g_ d_St_add_33 ?_
        refine lv_lload_n hx hb d_St_add_34 rfl (lv_at hl 2 rfl) ?_
        refine lv_ladd hx hb d_St_add_35 ?_
        obtain ⟨g_, h⟩ := h
        refine va_last hx hb hK hP hD hS 1 1 rfl rfl g_ d_St_add_36 (fun H locs hP hD hS => ?_)
        have hP : va_P (dC, dI) classes [(h_this, .inr (2, [.ref h_values, .int u_size, .int f_sets, .long u_lowest, .int u_meet, .int u_join])), (h_values, .inl (cJ, 1024, .inr (.inl (vp_updL f_values x6.toNatClampNeg ((f_values x6.toNatClampNeg) + x3)))))] H := hP
        have hD : va_D A [(h_this, .inr (2, [.ref h_values, .int u_size, .int f_sets, .long u_lowest, .int u_meet, .int u_join])), (h_values, .inl (cJ, 1024, .inr (.inl (vp_updL f_values x6.toNatClampNeg ((f_values x6.toNatClampNeg) + x3)))))] := hD
        exact wk_St_add_37 dC dI cI cJ cC A hA C0 hN h_this h_values u_size u_lowest u_meet u_join f_sets post (fun (x1 : Int32) (x3 : Int64) (x5 : Int32) (x6 : Int32) (f_values : Nat → Int64) => wp_St_add_8 f_sets post n x1 x3 x5 x6 f_values) (fun x1 x3 x5 x6 f_values h => ih x1 x3 x5 x6 f_values h) x1 x3 x5 x6 (vp_updL f_values x6.toNatClampNeg ((f_values x6.toNatClampNeg) + x3)) h _ _ _ hP hD hS (lv_sub hl [0, 1, 2, 3, 4] rfl)
def wp_St_add_0 (f_sets : Int32) (post : (Nat → Int64) → Prop)  (x1 : Int32) (x2 : Int32) (x3 : Int64) (f_values : Nat → Int64) : Prop := ∃ n_ : Nat, wp_St_add_8 f_sets post n_ x1 x3 (x1 ||| x2) (0 : Int32) f_values
set_option maxHeartbeats 4000000 in
set_option maxRecDepth 100000 in
theorem wk_St_add_0 {p : Program} {l : Launch} {e : Env} {s : State} {m : MethodId} {args : Array Value} {below : List Frame} {meth : Method} {c : Code} (dC : Nat → ClassId) (dI : Nat → Nat → Nat) (cI cJ cC : ClassId) (A : Nat → Prop) (hA : ∀ q : Nat, s.heap.size ≤ q → A q) (C0 : gx_C p s m meth c args "LeanSets$SetTable" prog_4_method_4_code 7 (Option.none : Option Jvm.ClassFile.FieldType)) (hN : gx_K dC dI cI cJ cC s)  (h_this h_values : Nat) (u_size : Int32) (u_lowest : Int64) (u_meet : Int32) (u_join : Int32) (f_sets : Int32) (post : (Nat → Int64) → Prop)   : ∀ (x1 : Int32) (x2 : Int32) (x3 : Int64) (f_values : Nat → Int64), wp_St_add_0 f_sets post x1 x2 x3 f_values → ∀ (H : Heap) (locs : List Loc) (ls : Array Slot), va_P (dC, dI) classes [(h_this, .inr (2, [.ref h_values, .int u_size, .int f_sets, .long u_lowest, .int u_meet, .int u_join])), (h_values, .inl (cJ, 1024, .inr (.inl f_values)))] H → va_D A [(h_this, .inr (2, [.ref h_values, .int u_size, .int f_sets, .long u_lowest, .int u_meet, .int u_join])), (h_values, .inl (cJ, 1024, .inr (.inl f_values)))] → va_S A s.heap H locs → lv_has ls 7 [(0, .ref h_this), (1, .int x1), (2, .int x2), (3, .long x3)] → W p l e { frames := 0, cells := 0, slots := 0, locals := 0 } s m args below meth c H locs 0 0 (MQ below (va_Qv (fun (u : (Nat → Int64)) => post u) (fun (u : (Nat → Int64)) (t : State) => va_P (dC, dI) classes [(h_this, .inr (2, [.ref h_values, .int u_size, .int f_sets, .long u_lowest, .int u_meet, .int u_join])), (h_values, .inl (cJ, 1024, .inr (.inl u)))] t.heap ∧ va_D A [(h_this, .inr (2, [.ref h_values, .int u_size, .int f_sets, .long u_lowest, .int u_meet, .int u_join])), (h_values, .inl (cJ, 1024, .inr (.inl u)))]) A) args s 0 0 A) (F0 m 0 ls []) := by
  obtain ⟨hx, hb, hr, hml, hown, hlocks, hG⟩ := id C0
  have hK := hN.1
  intro x1 x2 x3 f_values h H locs ls hP hD hS hl
  rw [wp_St_add_0] at h
  refine lv_iload_n hx hb d_St_add_0 rfl (lv_at hl 1 rfl) ?_
  refine lv_iload_n hx hb d_St_add_1 rfl (lv_at hl 2 rfl) ?_
  refine lv_ior hx hb d_St_add_2 ?_
  refine lv_istore (lv' := [(5, .int (x1 ||| x2)), (0, .ref h_this), (1, .int x1), (2, .int x2), (3, .long x3)]) hx hb d_St_add_3 hl (by decide) rfl (fun ls hl => ?_)
  refine lv_iconst (v := 0) hx hb d_St_add_5 (by decide) ?_
  refine lv_istore (lv' := [(6, .int (0 : Int32)), (5, .int (x1 ||| x2)), (0, .ref h_this), (1, .int x1), (2, .int x2), (3, .long x3)]) hx hb d_St_add_6 hl (by decide) rfl (fun ls hl => ?_)
  obtain ⟨n_, h⟩ := h
  exact wk_St_add_8 dC dI cI cJ cC A hA C0 hN h_this h_values u_size u_lowest u_meet u_join f_sets post   n_ x1 x3 (x1 ||| x2) (0 : Int32) f_values h _ _ _ hP hD hS (lv_sub hl [2, 3, 5, 1, 0] rfl)
set_option maxHeartbeats 4000000 in
set_option maxRecDepth 100000 in
theorem c_St_add (l : Launch) (dC : Nat → ClassId) (dI : Nat → Nat → Nat) (cI cJ cC : ClassId) (h_this h_values : Nat) (u_size : Int32) (u_lowest : Int64) (u_meet : Int32) (u_join : Int32) (f_sets : Int32) (post : (Nat → Int64) → Prop) (x1 : Int32) (x2 : Int32) (x3 : Int64) (f_values : Nat → Int64) (sz : Nat) (h : wp_St_add_0 f_sets post x1 x2 x3 f_values) : Met l y_St_add (.code y_St_add prog_4_method_4_code 7 (Option.none : Option Jvm.ClassFile.FieldType) :: gx_G) ({ frames := 0, cells := 0, slots := 0, locals := 0 }) (va_Pc [.ref h_this, .int x1, .int x2, .long x3] (fun U => U.heap.size = sz ∧ va_P (dC, dI) classes [(h_this, .inr (2, [.ref h_values, .int u_size, .int f_sets, .long u_lowest, .int u_meet, .int u_join])), (h_values, .inl (cJ, 1024, .inr (.inl f_values)))] U.heap ∧ gx_K dC dI cI cJ cC U ∧ va_D (fun _ => True) [(h_this, .inr (2, [.ref h_values, .int u_size, .int f_sets, .long u_lowest, .int u_meet, .int u_join])), (h_values, .inl (cJ, 1024, .inr (.inl f_values)))])) (va_Qv (fun (u : (Nat → Int64)) => post u) (fun (u : (Nat → Int64)) (t : State) => va_P (dC, dI) classes [(h_this, .inr (2, [.ref h_values, .int u_size, .int f_sets, .long u_lowest, .int u_meet, .int u_join])), (h_values, .inl (cJ, 1024, .inr (.inl u)))] t.heap ∧ va_D (va_A [(h_this, .inr (2, [.ref h_values, .int u_size, .int f_sets, .long u_lowest, .int u_meet, .int u_join])), (h_values, .inl (cJ, 1024, .inr (.inl f_values)))] sz) [(h_this, .inr (2, [.ref h_values, .int u_size, .int f_sets, .long u_lowest, .int u_meet, .int u_join])), (h_values, .inl (cJ, 1024, .inr (.inl u)))]) (va_A [(h_this, .inr (2, [.ref h_values, .int u_size, .int f_sets, .long u_lowest, .int u_meet, .int u_join])), (h_values, .inl (cJ, 1024, .inr (.inl f_values)))] sz)) 0 0 (va_A [(h_this, .inr (2, [.ref h_values, .int u_size, .int f_sets, .long u_lowest, .int u_meet, .int u_join])), (h_values, .inl (cJ, 1024, .inr (.inl f_values)))] sz) := by
  refine Met.ofW (cc := prog_4_method_4_code) (maxL := 7) (ret := (Option.none : Option Jvm.ClassFile.FieldType)) (by decide +kernel) rfl ?_
  intro p e s m args below meth c s₁ B hml hv
  obtain ⟨rfl, hsz, hP, hN, hD0⟩ := hv
  have hts := atoms_spec (ws := (.code y_St_add prog_4_method_4_code 7 (Option.none : Option Jvm.ClassFile.FieldType) :: gx_G)) B.pre
  have C0 : gx_C p s m meth c _ "LeanSets$SetTable" prog_4_method_4_code 7 (Option.none : Option Jvm.ClassFile.FieldType) := ⟨B.exec, B.bytes, B.returns, hml, findClass_of_methodNamed B.named, B.notSynchronized, fun w hw => hts w (List.mem_cons_of_mem _ hw)⟩
  subst hsz
  have hD := hD0.self (sz := s.heap.size)
  generalize hAe : va_A [(h_this, .inr (2, [.ref h_values, .int u_size, .int f_sets, .long u_lowest, .int u_meet, .int u_join])), (h_values, .inl (cJ, 1024, .inr (.inl f_values)))] s.heap.size = A at hD ⊢
  have hA : ∀ q : Nat, s.heap.size ≤ q → A q := fun q h => by rw [← hAe]; exact Or.inr h
  have hl := lv_entry ([.ref h_this, .int x1, .int x2, .long x3]) (n := 7) (Nat.le_of_ble_eq_true rfl)
  rw [lg_entry_eq]
  generalize (lg_sl ([.ref h_this, .int x1, .int x2, .long x3]) ++ List.replicate (7 - (lg_sl ([.ref h_this, .int x1, .int x2, .long x3])).length) Slot.unset).toArray = ls at hl ⊢
  exact wk_St_add_0 dC dI cI cJ cC A hA C0 hN h_this h_values u_size u_lowest u_meet u_join f_sets post x1 x2 x3 f_values h s.heap [] ls hP hD va_S.rf hl
/-! LeanSets$SetTable.addCurve(I[II)V -/
def y_St_addCurve : MethodName := ⟨"LeanSets$SetTable", "addCurve", "(I[II)V"⟩
theorem d_St_addCurve_0 : decode prog_4_method_5_code 0 = .ok (.iconst 0, 1) := by decide +kernel
theorem d_St_addCurve_1 : decode prog_4_method_5_code 1 = .ok (.istore 4, 2) := by decide +kernel
theorem d_St_addCurve_3 : decode prog_4_method_5_code 3 = .ok (.iload 4, 2) := by decide +kernel
theorem d_St_addCurve_5 : decode prog_4_method_5_code 5 = .ok (.aload_n 0, 1) := by decide +kernel
theorem d_St_addCurve_6 : decode prog_4_method_5_code 6 = .ok (.getfield 19, 3) := by decide +kernel
theorem d_St_addCurve_9 : decode prog_4_method_5_code 9 = .ok (.if_icmp .ge 42, 3) := by decide +kernel
theorem d_St_addCurve_12 : decode prog_4_method_5_code 12 = .ok (.iload 4, 2) := by decide +kernel
theorem d_St_addCurve_14 : decode prog_4_method_5_code 14 = .ok (.iload_n 1, 1) := by decide +kernel
theorem d_St_addCurve_15 : decode prog_4_method_5_code 15 = .ok (.iand, 1) := by decide +kernel
theorem d_St_addCurve_16 : decode prog_4_method_5_code 16 = .ok (.invokestatic 22, 3) := by decide +kernel
theorem d_St_addCurve_19 : decode prog_4_method_5_code 19 = .ok (.istore 5, 2) := by decide +kernel
theorem d_St_addCurve_21 : decode prog_4_method_5_code 21 = .ok (.iload 5, 2) := by decide +kernel
theorem d_St_addCurve_23 : decode prog_4_method_5_code 23 = .ok (.ifCond .le 22, 3) := by decide +kernel
theorem d_St_addCurve_26 : decode prog_4_method_5_code 26 = .ok (.aload_n 0, 1) := by decide +kernel
theorem d_St_addCurve_27 : decode prog_4_method_5_code 27 = .ok (.getfield 9, 3) := by decide +kernel
theorem d_St_addCurve_30 : decode prog_4_method_5_code 30 = .ok (.iload 4, 2) := by decide +kernel
theorem d_St_addCurve_32 : decode prog_4_method_5_code 32 = .ok (.dup2, 1) := by decide +kernel
theorem d_St_addCurve_33 : decode prog_4_method_5_code 33 = .ok (.laload, 1) := by decide +kernel
theorem d_St_addCurve_34 : decode prog_4_method_5_code 34 = .ok (.aload_n 2, 1) := by decide +kernel
theorem d_St_addCurve_35 : decode prog_4_method_5_code 35 = .ok (.iload_n 3, 1) := by decide +kernel
theorem d_St_addCurve_36 : decode prog_4_method_5_code 36 = .ok (.iload 5, 2) := by decide +kernel
theorem d_St_addCurve_38 : decode prog_4_method_5_code 38 = .ok (.iadd, 1) := by decide +kernel
theorem d_St_addCurve_39 : decode prog_4_method_5_code 39 = .ok (.iconst 1, 1) := by decide +kernel
theorem d_St_addCurve_40 : decode prog_4_method_5_code 40 = .ok (.isub, 1) := by decide +kernel
theorem d_St_addCurve_41 : decode prog_4_method_5_code 41 = .ok (.iaload, 1) := by decide +kernel
theorem d_St_addCurve_42 : decode prog_4_method_5_code 42 = .ok (.i2l, 1) := by decide +kernel
theorem d_St_addCurve_43 : decode prog_4_method_5_code 43 = .ok (.ladd, 1) := by decide +kernel
theorem d_St_addCurve_44 : decode prog_4_method_5_code 44 = .ok (.lastore, 1) := by decide +kernel
theorem d_St_addCurve_45 : decode prog_4_method_5_code 45 = .ok (.iinc 4 1, 3) := by decide +kernel
theorem d_St_addCurve_48 : decode prog_4_method_5_code 48 = .ok (.goto (-45), 3) := by decide +kernel
theorem d_St_addCurve_51 : decode prog_4_method_5_code 51 = .ok (.return_, 1) := by decide +kernel
def wp_St_addCurve_45 (f_sets : Int32) (f_p2 : Nat → Int32) (post : (Nat → Int64) → Prop) (K3 : Int32 → Int32 → Int32 → (Nat → Int64) → Prop) (x1 : Int32) (x3 : Int32) (x4 : Int32) (f_values : Nat → Int64) : Prop := K3 x1 x3 (x4 + (1 : Int32)) f_values
set_option maxHeartbeats 4000000 in
set_option maxRecDepth 100000 in
theorem wk_St_addCurve_45 {p : Program} {l : Launch} {e : Env} {s : State} {m : MethodId} {args : Array Value} {below : List Frame} {meth : Method} {c : Code} (dC : Nat → ClassId) (dI : Nat → Nat → Nat) (cI cJ cC : ClassId) (A : Nat → Prop) (hA : ∀ q : Nat, s.heap.size ≤ q → A q) (C0 : gx_C p s m meth c args "LeanSets$SetTable" prog_4_method_5_code 6 (Option.none : Option Jvm.ClassFile.FieldType)) (hN : gx_K dC dI cI cJ cC s)  (h_this h_values h_p2 : Nat) (u_size : Int32) (u_lowest : Int64) (u_meet : Int32) (u_join : Int32) (f_sets : Int32) (f_p2 : Nat → Int32) (post : (Nat → Int64) → Prop) (K3 : Int32 → Int32 → Int32 → (Nat → Int64) → Prop) (hK3 : ∀ (x1 : Int32) (x3 : Int32) (x4 : Int32) (f_values : Nat → Int64), K3 x1 x3 x4 f_values → ∀ (H : Heap) (locs : List Loc) (ls : Array Slot), va_P (dC, dI) classes [(h_this, .inr (2, [.ref h_values, .int u_size, .int f_sets, .long u_lowest, .int u_meet, .int u_join])), (h_values, .inl (cJ, 1024, .inr (.inl f_values))), (h_p2, .inl (cI, 300, .inl f_p2))] H → va_D A [(h_this, .inr (2, [.ref h_values, .int u_size, .int f_sets, .long u_lowest, .int u_meet, .int u_join])), (h_values, .inl (cJ, 1024, .inr (.inl f_values))), (h_p2, .inl (cI, 300, .inl f_p2))] → va_S A s.heap H locs → lv_has ls 6 [(0, .ref h_this), (1, .int x1), (2, .ref h_p2), (3, .int x3), (4, .int x4)] → W p l e { frames := 1, cells := 0, slots := 0, locals := 20 } s m args below meth c H locs 0 0 (MQ below (va_Qv (fun (u : (Nat → Int64)) => post u) (fun (u : (Nat → Int64)) (t : State) => va_P (dC, dI) classes [(h_this, .inr (2, [.ref h_values, .int u_size, .int f_sets, .long u_lowest, .int u_meet, .int u_join])), (h_values, .inl (cJ, 1024, .inr (.inl u))), (h_p2, .inl (cI, 300, .inl f_p2))] t.heap ∧ va_D A [(h_this, .inr (2, [.ref h_values, .int u_size, .int f_sets, .long u_lowest, .int u_meet, .int u_join])), (h_values, .inl (cJ, 1024, .inr (.inl u))), (h_p2, .inl (cI, 300, .inl f_p2))]) A) args s 0 0 A) (F0 m 3 ls [])) : ∀ (x1 : Int32) (x3 : Int32) (x4 : Int32) (f_values : Nat → Int64), wp_St_addCurve_45 f_sets f_p2 post K3 x1 x3 x4 f_values → ∀ (H : Heap) (locs : List Loc) (ls : Array Slot), va_P (dC, dI) classes [(h_this, .inr (2, [.ref h_values, .int u_size, .int f_sets, .long u_lowest, .int u_meet, .int u_join])), (h_values, .inl (cJ, 1024, .inr (.inl f_values))), (h_p2, .inl (cI, 300, .inl f_p2))] H → va_D A [(h_this, .inr (2, [.ref h_values, .int u_size, .int f_sets, .long u_lowest, .int u_meet, .int u_join])), (h_values, .inl (cJ, 1024, .inr (.inl f_values))), (h_p2, .inl (cI, 300, .inl f_p2))] → va_S A s.heap H locs → lv_has ls 6 [(0, .ref h_this), (1, .int x1), (2, .ref h_p2), (3, .int x3), (4, .int x4)] → W p l e { frames := 1, cells := 0, slots := 0, locals := 20 } s m args below meth c H locs 0 0 (MQ below (va_Qv (fun (u : (Nat → Int64)) => post u) (fun (u : (Nat → Int64)) (t : State) => va_P (dC, dI) classes [(h_this, .inr (2, [.ref h_values, .int u_size, .int f_sets, .long u_lowest, .int u_meet, .int u_join])), (h_values, .inl (cJ, 1024, .inr (.inl u))), (h_p2, .inl (cI, 300, .inl f_p2))] t.heap ∧ va_D A [(h_this, .inr (2, [.ref h_values, .int u_size, .int f_sets, .long u_lowest, .int u_meet, .int u_join])), (h_values, .inl (cJ, 1024, .inr (.inl u))), (h_p2, .inl (cI, 300, .inl f_p2))]) A) args s 0 0 A) (F0 m 45 ls []) := by
  obtain ⟨hx, hb, hr, hml, hown, hlocks, hG⟩ := id C0
  have hK := hN.1
  intro x1 x3 x4 f_values h H locs ls hP hD hS hl
  rw [wp_St_addCurve_45] at h
  refine lv_iinc (v := (x4 + (1 : Int32))) (lv' := [(4, .int (x4 + (1 : Int32))), (0, .ref h_this), (1, .int x1), (2, .ref h_p2), (3, .int x3)]) hx hb d_St_addCurve_45 hl (k := 4) rfl rfl (by decide) rfl (fun ls hl => ?_)
  refine lv_goto (tgt := 3) hx hb d_St_addCurve_48 (by decide) ?_
  exact hK3 x1 x3 (x4 + (1 : Int32)) f_values h _ _ _ hP hD hS (lv_sub hl [1, 2, 3, 4, 0] rfl)
def wp_St_addCurve_3 (f_sets : Int32) (f_p2 : Nat → Int32) (post : (Nat → Int64) → Prop)  : Nat → Int32 → Int32 → Int32 → (Nat → Int64) → Prop
  | 0, _, _, _, _ => False
  | n + 1, x1, x3, x4, f_values => ((f_sets ≤ x4) → (post f_values)) ∧ ((¬ (f_sets ≤ x4)) → (wp_In_bitCount_0 (fun (r16 : Int32) => ((r16 ≤ 0) → (wp_St_addCurve_45 f_sets f_p2 post (fun (x1 : Int32) (x3 : Int32) (x4 : Int32) (f_values : Nat → Int64) => wp_St_addCurve_3 f_sets f_p2 post n x1 x3 x4 f_values) x1 x3 x4 f_values)) ∧ ((¬ (r16 ≤ 0)) → ((vp_in x4 1024) ∧ ((vp_in ((x3 + r16) - (1 : Int32)) 300) ∧ ((vp_in x4 1024) ∧ (wp_St_addCurve_45 f_sets f_p2 post (fun (x1 : Int32) (x3 : Int32) (x4 : Int32) (f_values : Nat → Int64) => wp_St_addCurve_3 f_sets f_p2 post n x1 x3 x4 f_values) x1 x3 x4 (vp_updL f_values x4.toNatClampNeg ((f_values x4.toNatClampNeg) + (f_p2 ((x3 + r16) - (1 : Int32)).toNatClampNeg).toInt64)))))))) (x4 &&& x1)))
set_option maxHeartbeats 4000000 in
set_option maxRecDepth 100000 in
theorem wk_St_addCurve_3 {p : Program} {l : Launch} {e : Env} {s : State} {m : MethodId} {args : Array Value} {below : List Frame} {meth : Method} {c : Code} (dC : Nat → ClassId) (dI : Nat → Nat → Nat) (cI cJ cC : ClassId) (A : Nat → Prop) (hA : ∀ q : Nat, s.heap.size ≤ q → A q) (C0 : gx_C p s m meth c args "LeanSets$SetTable" prog_4_method_5_code 6 (Option.none : Option Jvm.ClassFile.FieldType)) (hN : gx_K dC dI cI cJ cC s)  (h_this h_values h_p2 : Nat) (u_size : Int32) (u_lowest : Int64) (u_meet : Int32) (u_join : Int32) (f_sets : Int32) (f_p2 : Nat → Int32) (post : (Nat → Int64) → Prop)   : ∀ (n : Nat) (x1 : Int32) (x3 : Int32) (x4 : Int32) (f_values : Nat → Int64), wp_St_addCurve_3 f_sets f_p2 post n x1 x3 x4 f_values → ∀ (H : Heap) (locs : List Loc) (ls : Array Slot), va_P (dC, dI) classes [(h_this, .inr (2, [.ref h_values, .int u_size, .int f_sets, .long u_lowest, .int u_meet, .int u_join])), (h_values, .inl (cJ, 1024, .inr (.inl f_values))), (h_p2, .inl (cI, 300, .inl f_p2))] H → va_D A [(h_this, .inr (2, [.ref h_values, .int u_size, .int f_sets, .long u_lowest, .int u_meet, .int u_join])), (h_values, .inl (cJ, 1024, .inr (.inl f_values))), (h_p2, .inl (cI, 300, .inl f_p2))] → va_S A s.heap H locs → lv_has ls 6 [(0, .ref h_this), (1, .int x1), (2, .ref h_p2), (3, .int x3), (4, .int x4)] → W p l e { frames := 1, cells := 0, slots := 0, locals := 20 } s m args below meth c H locs 0 0 (MQ below (va_Qv (fun (u : (Nat → Int64)) => post u) (fun (u : (Nat → Int64)) (t : State) => va_P (dC, dI) classes [(h_this, .inr (2, [.ref h_values, .int u_size, .int f_sets, .long u_lowest, .int u_meet, .int u_join])), (h_values, .inl (cJ, 1024, .inr (.inl u))), (h_p2, .inl (cI, 300, .inl f_p2))] t.heap ∧ va_D A [(h_this, .inr (2, [.ref h_values, .int u_size, .int f_sets, .long u_lowest, .int u_meet, .int u_join])), (h_values, .inl (cJ, 1024, .inr (.inl u))), (h_p2, .inl (cI, 300, .inl f_p2))]) A) args s 0 0 A) (F0 m 3 ls []) := by
  obtain ⟨hx, hb, hr, hml, hown, hlocks, hG⟩ := id C0
  have hK := hN.1
  intro n
  induction n with
  | zero =>
    intro x1 x3 x4 f_values h
    exact absurd h (by rw [wp_St_addCurve_3]; exact id)
  | succ n ih =>
    intro x1 x3 x4 f_values h H locs ls hP hD hS hl
    rw [wp_St_addCurve_3] at h
    refine lv_iload hx hb d_St_addCurve_3 (lv_at hl 4 rfl) ?_
    refine lv_aload_n hx hb d_St_addCurve_5 rfl (lv_at hl 0 rfl) ?_
    refine va_get (D := (dC, dI)) (ci := 2) (v := .int f_sets) (C := "LeanSets$SetTable") (T := T_St) (N := 6) hx hb hG in_St hown hK hP 0 rfl rfl 2 (Nat.le_of_ble_eq_true rfl) (hG _ mw_135) (fun _ h9 => h9) rfl d_St_addCurve_6 ?_
    refine lv_icmp_ge (tgt := 51) hx hb d_St_addCurve_9 (by decide) (fun c_ => ?_) (fun c_ => ?_)
    · have h := h.1 c_
      exact W.vret hx hb hr (fun t ht hW => ⟨⟨f_values, rfl, h, by rw [ht]; exact hP, hD⟩, hS.F ht⟩) hS.2.2 d_St_addCurve_51 hlocks
    · have h := h.2 c_
      refine lv_iload hx hb d_St_addCurve_12 (lv_at hl 4 rfl) ?_
      refine lv_iload_n hx hb d_St_addCurve_14 rfl (lv_at hl 1 rfl) ?_
      refine lv_iand hx hb d_St_addCurve_15 ?_
      have hPc := hP.sub (ws' := []) [] rfl
      have hDc := hD.sub (ws' := []) [] (by decide) rfl
      have hFc := va_free (wc := []) hD hS hA [] rfl
      refine va_calli (va_runS (As := [.int (x4 &&& x1)]) (rest := []) ⟨hx, hb, hml, hown, hG⟩ (c_In_bitCount l dC dI cI cJ cC _ (x4 &&& x1) H.size h) (gx_cwS (own := "LeanSets$SetTable") 1 hG mw_444 mw_411 mw_13 mw_412 (by decide +kernel) ⟨Nat.le_of_ble_eq_true rfl, Nat.le_of_ble_eq_true rfl⟩) ⟨fun a U g mk q => by obtain ⟨q0, q1, qP, qK, qD⟩ := q; exact ⟨q0, q1, qP, gx_K.same (u := U) (U := U.calling g mk a) rfl qK, qD⟩, fun U hU hW => ⟨rfl, by rw [hU], by rw [hU]; exact hPc, gx_K.moved hW hN, hDc.weaken (fun _ _ _ _ => trivial)⟩⟩ rfl rfl hl.1 rfl (lv_room (Nat.le_of_ble_eq_true rfl)) d_St_addCurve_16 ⟨Nat.le_of_ble_eq_true rfl, Nat.le_of_ble_eq_true rfl⟩) hS (fun q _ h => hFc q h) hFc (fun r16 u t H1 locs ht hvm hw hB hz1 hk1 hS => ?_)
      obtain ⟨hP1, hD1⟩ := hB
      rw [ht] at hP1
      obtain ⟨hP, hD⟩ := va_join (wr := [(h_this, .inr (2, [.ref h_values, .int u_size, .int f_sets, .long u_lowest, .int u_meet, .int u_join])), (h_values, .inl (cJ, 1024, .inr (.inl f_values))), (h_p2, .inl (cI, 300, .inl f_p2))]) (w1 := []) hP hD [] [0, 1, 2] rfl rfl (by decide) (by decide) hk1 hFc hP1 hD1
      clear hPc hDc hFc hk1 hP1 hD1 ht hvm
      generalize H1 = H at hP hS ⊢
      have hP := hP.sub (ws' := [(h_this, .inr (2, [.ref h_values, .int u_size, .int f_sets, .long u_lowest, .int u_meet, .int u_join])), (h_values, .inl (cJ, 1024, .inr (.inl f_values))), (h_p2, .inl (cI, 300, .inl f_p2))]) [0, 1, 2] rfl
      have hD := hD.sub (ws' := [(h_this, .inr (2, [.ref h_values, .int u_size, .int f_sets, .long u_lowest, .int u_meet, .int u_join])), (h_values, .inl (cJ, 1024, .inr (.inl f_values))), (h_p2, .inl (cI, 300, .inl f_p2))]) [0, 1, 2] (by decide) rfl
      have h := hw
      try dsimp only at h
      refine lv_istore (lv' := [(5, .int r16), (0, .ref h_this), (1, .int x1), (2, .ref h_p2), (3, .int x3), (4, .int x4)]) hx hb d_St_addCurve_19 hl (by decide) rfl (fun ls hl => ?_)
      refine lv_iload hx hb d_St_addCurve_21 (lv_at hl 0 rfl) ?_
      refine lv_if_le (tgt := 45) hx hb d_St_addCurve_23 (by decide) (fun c_ => ?_) (fun c_ => ?_)
      · have h := h.1 c_
        exact wk_St_addCurve_45 dC dI cI cJ cC A hA C0 hN h_this h_values h_p2 u_size u_lowest u_meet u_join f_sets f_p2 post (fun (x1 : Int32) (x3 : Int32) (x4 : Int32) (f_values : Nat → Int64) => wp_St_addCurve_3 f_sets f_p2 post n x1 x3 x4 f_values) (fun x1 x3 x4 f_values h => ih x1 x3 x4 f_values h) x1 x3 x4 f_values h _ _ _ hP hD hS (lv_sub hl [1, 2, 3, 4, 5] rfl)
      · have h := h.2 c_
        refine lv_aload_n hx hb d_St_addCurve_26 rfl (lv_at hl 1 rfl) ?_
        refine va_get (D := (dC, dI)) (ci := 2) (v := .ref h_values) (C := "LeanSets$SetTable") (T := T_St) (N := 6) hx hb hG in_St hown hK hP 0 rfl rfl 0 (Nat.le_of_ble_eq_true rfl) (hG _ mw_128) (fun _ h9 => h9) rfl d_St_addCurve_27 ?_
        refine lv_iload hx hb d_St_addCurve_30 (lv_at hl 5 rfl) ?_
        refine lv_dup2_11 hx hb d_St_addCurve_32 rfl rfl ?_
        obtain ⟨g_, h⟩ := h
        refine va_lald hx hb hK hP 1 1 rfl rfl g_ d_St_addCurve_33 ?_
        refine lv_aload_n hx hb d_St_addCurve_34 rfl (lv_at hl 3 rfl) ?_
        refine lv_iload_n hx hb d_St_addCurve_35 rfl (lv_at hl 4 rfl) ?_
        refine lv_iload hx hb d_St_addCurve_36 (lv_at hl 0 rfl) ?_
        refine lv_iadd hx hb d_St_addCurve_38 ?_
        refine lv_iconst (v := 1) hx hb d_St_addCurve_39 (by decide) ?_
        refine lv_isub hx hb d_St_addCurve_40 ?_
        obtain ⟨g_, h⟩ := h
        refine va_iald hx hb hK hP 2 0 rfl rfl g_ d_St_addCurve_41 ?_
        refine lv_i2l hx hb d_St_addCurve_42 rfl ?_
        refine lv_ladd hx hb d_St_addCurve_43 ?_
        obtain ⟨g_, h⟩ := h
        refine va_last hx hb hK hP hD hS 1 1 rfl rfl g_ d_St_addCurve_44 (fun H locs hP hD hS => ?_)
        have hP : va_P (dC, dI) classes [(h_this, .inr (2, [.ref h_values, .int u_size, .int f_sets, .long u_lowest, .int u_meet, .int u_join])), (h_values, .inl (cJ, 1024, .inr (.inl (vp_updL f_values x4.toNatClampNeg ((f_values x4.toNatClampNeg) + (f_p2 ((x3 + r16) - (1 : Int32)).toNatClampNeg).toInt64))))), (h_p2, .inl (cI, 300, .inl f_p2))] H := hP
        have hD : va_D A [(h_this, .inr (2, [.ref h_values, .int u_size, .int f_sets, .long u_lowest, .int u_meet, .int u_join])), (h_values, .inl (cJ, 1024, .inr (.inl (vp_updL f_values x4.toNatClampNeg ((f_values x4.toNatClampNeg) + (f_p2 ((x3 + r16) - (1 : Int32)).toNatClampNeg).toInt64))))), (h_p2, .inl (cI, 300, .inl f_p2))] := hD
        exact wk_St_addCurve_45 dC dI cI cJ cC A hA C0 hN h_this h_values h_p2 u_size u_lowest u_meet u_join f_sets f_p2 post (fun (x1 : Int32) (x3 : Int32) (x4 : Int32) (f_values : Nat → Int64) => wp_St_addCurve_3 f_sets f_p2 post n x1 x3 x4 f_values) (fun x1 x3 x4 f_values h => ih x1 x3 x4 f_values h) x1 x3 x4 (vp_updL f_values x4.toNatClampNeg ((f_values x4.toNatClampNeg) + (f_p2 ((x3 + r16) - (1 : Int32)).toNatClampNeg).toInt64)) h _ _ _ hP hD hS (lv_sub hl [1, 2, 3, 4, 5] rfl)
def wp_St_addCurve_0 (f_sets : Int32) (f_p2 : Nat → Int32) (post : (Nat → Int64) → Prop)  (x1 : Int32) (x3 : Int32) (f_values : Nat → Int64) : Prop := ∃ n_ : Nat, wp_St_addCurve_3 f_sets f_p2 post n_ x1 x3 (0 : Int32) f_values
set_option maxHeartbeats 4000000 in
set_option maxRecDepth 100000 in
theorem wk_St_addCurve_0 {p : Program} {l : Launch} {e : Env} {s : State} {m : MethodId} {args : Array Value} {below : List Frame} {meth : Method} {c : Code} (dC : Nat → ClassId) (dI : Nat → Nat → Nat) (cI cJ cC : ClassId) (A : Nat → Prop) (hA : ∀ q : Nat, s.heap.size ≤ q → A q) (C0 : gx_C p s m meth c args "LeanSets$SetTable" prog_4_method_5_code 6 (Option.none : Option Jvm.ClassFile.FieldType)) (hN : gx_K dC dI cI cJ cC s)  (h_this h_values h_p2 : Nat) (u_size : Int32) (u_lowest : Int64) (u_meet : Int32) (u_join : Int32) (f_sets : Int32) (f_p2 : Nat → Int32) (post : (Nat → Int64) → Prop)   : ∀ (x1 : Int32) (x3 : Int32) (f_values : Nat → Int64), wp_St_addCurve_0 f_sets f_p2 post x1 x3 f_values → ∀ (H : Heap) (locs : List Loc) (ls : Array Slot), va_P (dC, dI) classes [(h_this, .inr (2, [.ref h_values, .int u_size, .int f_sets, .long u_lowest, .int u_meet, .int u_join])), (h_values, .inl (cJ, 1024, .inr (.inl f_values))), (h_p2, .inl (cI, 300, .inl f_p2))] H → va_D A [(h_this, .inr (2, [.ref h_values, .int u_size, .int f_sets, .long u_lowest, .int u_meet, .int u_join])), (h_values, .inl (cJ, 1024, .inr (.inl f_values))), (h_p2, .inl (cI, 300, .inl f_p2))] → va_S A s.heap H locs → lv_has ls 6 [(0, .ref h_this), (1, .int x1), (2, .ref h_p2), (3, .int x3)] → W p l e { frames := 1, cells := 0, slots := 0, locals := 20 } s m args below meth c H locs 0 0 (MQ below (va_Qv (fun (u : (Nat → Int64)) => post u) (fun (u : (Nat → Int64)) (t : State) => va_P (dC, dI) classes [(h_this, .inr (2, [.ref h_values, .int u_size, .int f_sets, .long u_lowest, .int u_meet, .int u_join])), (h_values, .inl (cJ, 1024, .inr (.inl u))), (h_p2, .inl (cI, 300, .inl f_p2))] t.heap ∧ va_D A [(h_this, .inr (2, [.ref h_values, .int u_size, .int f_sets, .long u_lowest, .int u_meet, .int u_join])), (h_values, .inl (cJ, 1024, .inr (.inl u))), (h_p2, .inl (cI, 300, .inl f_p2))]) A) args s 0 0 A) (F0 m 0 ls []) := by
  obtain ⟨hx, hb, hr, hml, hown, hlocks, hG⟩ := id C0
  have hK := hN.1
  intro x1 x3 f_values h H locs ls hP hD hS hl
  rw [wp_St_addCurve_0] at h
  refine lv_iconst (v := 0) hx hb d_St_addCurve_0 (by decide) ?_
  refine lv_istore (lv' := [(4, .int (0 : Int32)), (0, .ref h_this), (1, .int x1), (2, .ref h_p2), (3, .int x3)]) hx hb d_St_addCurve_1 hl (by decide) rfl (fun ls hl => ?_)
  obtain ⟨n_, h⟩ := h
  exact wk_St_addCurve_3 dC dI cI cJ cC A hA C0 hN h_this h_values h_p2 u_size u_lowest u_meet u_join f_sets f_p2 post   n_ x1 x3 (0 : Int32) f_values h _ _ _ hP hD hS (lv_sub hl [1, 2, 3, 4, 0] rfl)
set_option maxHeartbeats 4000000 in
set_option maxRecDepth 100000 in
theorem c_St_addCurve (l : Launch) (dC : Nat → ClassId) (dI : Nat → Nat → Nat) (cI cJ cC : ClassId) (h_this h_values h_p2 : Nat) (u_size : Int32) (u_lowest : Int64) (u_meet : Int32) (u_join : Int32) (f_sets : Int32) (f_p2 : Nat → Int32) (post : (Nat → Int64) → Prop) (x1 : Int32) (x3 : Int32) (f_values : Nat → Int64) (sz : Nat) (h : wp_St_addCurve_0 f_sets f_p2 post x1 x3 f_values) : Met l y_St_addCurve (.code y_St_addCurve prog_4_method_5_code 6 (Option.none : Option Jvm.ClassFile.FieldType) :: gx_G) ({ frames := 1, cells := 0, slots := 0, locals := 20 }) (va_Pc [.ref h_this, .int x1, .ref h_p2, .int x3] (fun U => U.heap.size = sz ∧ va_P (dC, dI) classes [(h_this, .inr (2, [.ref h_values, .int u_size, .int f_sets, .long u_lowest, .int u_meet, .int u_join])), (h_values, .inl (cJ, 1024, .inr (.inl f_values))), (h_p2, .inl (cI, 300, .inl f_p2))] U.heap ∧ gx_K dC dI cI cJ cC U ∧ va_D (fun _ => True) [(h_this, .inr (2, [.ref h_values, .int u_size, .int f_sets, .long u_lowest, .int u_meet, .int u_join])), (h_values, .inl (cJ, 1024, .inr (.inl f_values))), (h_p2, .inl (cI, 300, .inl f_p2))])) (va_Qv (fun (u : (Nat → Int64)) => post u) (fun (u : (Nat → Int64)) (t : State) => va_P (dC, dI) classes [(h_this, .inr (2, [.ref h_values, .int u_size, .int f_sets, .long u_lowest, .int u_meet, .int u_join])), (h_values, .inl (cJ, 1024, .inr (.inl u))), (h_p2, .inl (cI, 300, .inl f_p2))] t.heap ∧ va_D (va_A [(h_this, .inr (2, [.ref h_values, .int u_size, .int f_sets, .long u_lowest, .int u_meet, .int u_join])), (h_values, .inl (cJ, 1024, .inr (.inl f_values))), (h_p2, .inl (cI, 300, .inl f_p2))] sz) [(h_this, .inr (2, [.ref h_values, .int u_size, .int f_sets, .long u_lowest, .int u_meet, .int u_join])), (h_values, .inl (cJ, 1024, .inr (.inl u))), (h_p2, .inl (cI, 300, .inl f_p2))]) (va_A [(h_this, .inr (2, [.ref h_values, .int u_size, .int f_sets, .long u_lowest, .int u_meet, .int u_join])), (h_values, .inl (cJ, 1024, .inr (.inl f_values))), (h_p2, .inl (cI, 300, .inl f_p2))] sz)) 0 0 (va_A [(h_this, .inr (2, [.ref h_values, .int u_size, .int f_sets, .long u_lowest, .int u_meet, .int u_join])), (h_values, .inl (cJ, 1024, .inr (.inl f_values))), (h_p2, .inl (cI, 300, .inl f_p2))] sz) := by
  refine Met.ofW (cc := prog_4_method_5_code) (maxL := 6) (ret := (Option.none : Option Jvm.ClassFile.FieldType)) (by decide +kernel) rfl ?_
  intro p e s m args below meth c s₁ B hml hv
  obtain ⟨rfl, hsz, hP, hN, hD0⟩ := hv
  have hts := atoms_spec (ws := (.code y_St_addCurve prog_4_method_5_code 6 (Option.none : Option Jvm.ClassFile.FieldType) :: gx_G)) B.pre
  have C0 : gx_C p s m meth c _ "LeanSets$SetTable" prog_4_method_5_code 6 (Option.none : Option Jvm.ClassFile.FieldType) := ⟨B.exec, B.bytes, B.returns, hml, findClass_of_methodNamed B.named, B.notSynchronized, fun w hw => hts w (List.mem_cons_of_mem _ hw)⟩
  subst hsz
  have hD := hD0.self (sz := s.heap.size)
  generalize hAe : va_A [(h_this, .inr (2, [.ref h_values, .int u_size, .int f_sets, .long u_lowest, .int u_meet, .int u_join])), (h_values, .inl (cJ, 1024, .inr (.inl f_values))), (h_p2, .inl (cI, 300, .inl f_p2))] s.heap.size = A at hD ⊢
  have hA : ∀ q : Nat, s.heap.size ≤ q → A q := fun q h => by rw [← hAe]; exact Or.inr h
  have hl := lv_entry ([.ref h_this, .int x1, .ref h_p2, .int x3]) (n := 6) (Nat.le_of_ble_eq_true rfl)
  rw [lg_entry_eq]
  generalize (lg_sl ([.ref h_this, .int x1, .ref h_p2, .int x3]) ++ List.replicate (6 - (lg_sl ([.ref h_this, .int x1, .ref h_p2, .int x3])).length) Slot.unset).toArray = ls at hl ⊢
  exact wk_St_addCurve_0 dC dI cI cJ cC A hA C0 hN h_this h_values h_p2 u_size u_lowest u_meet u_join f_sets f_p2 post x1 x3 f_values h s.heap [] ls hP hD va_S.rf hl
/-! LeanSets$SetTable.gain(II)J -/
def y_St_gain : MethodName := ⟨"LeanSets$SetTable", "gain", "(II)J"⟩
theorem d_St_gain_0 : decode prog_4_method_6_code 0 = .ok (.aload_n 0, 1) := by decide +kernel
theorem d_St_gain_1 : decode prog_4_method_6_code 1 = .ok (.getfield 9, 3) := by decide +kernel
theorem d_St_gain_4 : decode prog_4_method_6_code 4 = .ok (.iload_n 1, 1) := by decide +kernel
theorem d_St_gain_5 : decode prog_4_method_6_code 5 = .ok (.iconst 1, 1) := by decide +kernel
theorem d_St_gain_6 : decode prog_4_method_6_code 6 = .ok (.iload_n 2, 1) := by decide +kernel
theorem d_St_gain_7 : decode prog_4_method_6_code 7 = .ok (.ishl, 1) := by decide +kernel
theorem d_St_gain_8 : decode prog_4_method_6_code 8 = .ok (.ior, 1) := by decide +kernel
theorem d_St_gain_9 : decode prog_4_method_6_code 9 = .ok (.laload, 1) := by decide +kernel
theorem d_St_gain_10 : decode prog_4_method_6_code 10 = .ok (.aload_n 0, 1) := by decide +kernel
theorem d_St_gain_11 : decode prog_4_method_6_code 11 = .ok (.getfield 9, 3) := by decide +kernel
theorem d_St_gain_14 : decode prog_4_method_6_code 14 = .ok (.iload_n 1, 1) := by decide +kernel
theorem d_St_gain_15 : decode prog_4_method_6_code 15 = .ok (.laload, 1) := by decide +kernel
theorem d_St_gain_16 : decode prog_4_method_6_code 16 = .ok (.lsub, 1) := by decide +kernel
theorem d_St_gain_17 : decode prog_4_method_6_code 17 = .ok (.lreturn, 1) := by decide +kernel
def wp_St_gain_0 (f_values : Nat → Int64) (post : Int64 → Prop)  (x1 : Int32) (x2 : Int32) : Prop := (vp_in (x1 ||| ((1 : Int32) <<< (x2 &&& 31))) 1024) ∧ ((vp_in x1 1024) ∧ (post ((f_values (x1 ||| ((1 : Int32) <<< (x2 &&& 31))).toNatClampNeg) - (f_values x1.toNatClampNeg))))
set_option maxHeartbeats 4000000 in
set_option maxRecDepth 100000 in
theorem wk_St_gain_0 {p : Program} {l : Launch} {e : Env} {s : State} {m : MethodId} {args : Array Value} {below : List Frame} {meth : Method} {c : Code} (dC : Nat → ClassId) (dI : Nat → Nat → Nat) (cI cJ cC : ClassId) (A : Nat → Prop) (hA : ∀ q : Nat, s.heap.size ≤ q → A q) (C0 : gx_C p s m meth c args "LeanSets$SetTable" prog_4_method_6_code 3 (Option.some Jvm.ClassFile.FieldType.long)) (hN : gx_K dC dI cI cJ cC s)  (h_this h_values : Nat) (u_size : Int32) (u_sets : Int32) (u_lowest : Int64) (u_meet : Int32) (u_join : Int32) (f_values : Nat → Int64) (post : Int64 → Prop)   : ∀ (x1 : Int32) (x2 : Int32), wp_St_gain_0 f_values post x1 x2 → ∀ (H : Heap) (locs : List Loc) (ls : Array Slot), va_P (dC, dI) classes [(h_this, .inr (2, [.ref h_values, .int u_size, .int u_sets, .long u_lowest, .int u_meet, .int u_join])), (h_values, .inl (cJ, 1024, .inr (.inl f_values)))] H → va_D A [(h_this, .inr (2, [.ref h_values, .int u_size, .int u_sets, .long u_lowest, .int u_meet, .int u_join])), (h_values, .inl (cJ, 1024, .inr (.inl f_values)))] → va_S A s.heap H locs → lv_has ls 3 [(0, .ref h_this), (1, .int x1), (2, .int x2)] → W p l e { frames := 0, cells := 0, slots := 0, locals := 0 } s m args below meth c H locs 0 0 (MQ below (va_Ql (fun (r : Int64) (u : Unit) => post r) (fun (u : Unit) (t : State) => va_P (dC, dI) classes [(h_this, .inr (2, [.ref h_values, .int u_size, .int u_sets, .long u_lowest, .int u_meet, .int u_join])), (h_values, .inl (cJ, 1024, .inr (.inl f_values)))] t.heap ∧ va_D A [(h_this, .inr (2, [.ref h_values, .int u_size, .int u_sets, .long u_lowest, .int u_meet, .int u_join])), (h_values, .inl (cJ, 1024, .inr (.inl f_values)))]) A) args s 0 0 A) (F0 m 0 ls []) := by
  obtain ⟨hx, hb, hr, hml, hown, hlocks, hG⟩ := id C0
  have hK := hN.1
  intro x1 x2 h H locs ls hP hD hS hl
  rw [wp_St_gain_0] at h
  refine lv_aload_n hx hb d_St_gain_0 rfl (lv_at hl 0 rfl) ?_
  refine va_get (D := (dC, dI)) (ci := 2) (v := .ref h_values) (C := "LeanSets$SetTable") (T := T_St) (N := 6) hx hb hG in_St hown hK hP 0 rfl rfl 0 (Nat.le_of_ble_eq_true rfl) (hG _ mw_128) (fun _ h9 => h9) rfl d_St_gain_1 ?_
  refine lv_iload_n hx hb d_St_gain_4 rfl (lv_at hl 1 rfl) ?_
  refine lv_iconst (v := 1) hx hb d_St_gain_5 (by decide) ?_
  refine lv_iload_n hx hb d_St_gain_6 rfl (lv_at hl 2 rfl) ?_
  refine lv_ishl hx hb d_St_gain_7 ?_
  refine lv_ior hx hb d_St_gain_8 ?_
  obtain ⟨g_, h⟩ := h
  refine va_lald hx hb hK hP 1 1 rfl rfl g_ d_St_gain_9 ?_
  refine lv_aload_n hx hb d_St_gain_10 rfl (lv_at hl 0 rfl) ?_
  refine va_get (D := (dC, dI)) (ci := 2) (v := .ref h_values) (C := "LeanSets$SetTable") (T := T_St) (N := 6) hx hb hG in_St hown hK hP 0 rfl rfl 0 (Nat.le_of_ble_eq_true rfl) (hG _ mw_128) (fun _ h9 => h9) rfl d_St_gain_11 ?_
  refine lv_iload_n hx hb d_St_gain_14 rfl (lv_at hl 1 rfl) ?_
  obtain ⟨g_, h⟩ := h
  refine va_lald hx hb hK hP 1 1 rfl rfl g_ d_St_gain_15 ?_
  refine lv_lsub hx hb d_St_gain_16 ?_
  exact W.lret (v := ((f_values (x1 ||| ((1 : Int32) <<< (x2 &&& 31))).toNatClampNeg) - (f_values x1.toNatClampNeg))) hx hb hr (fun t ht hW => ⟨⟨((f_values (x1 ||| ((1 : Int32) <<< (x2 &&& 31))).toNatClampNeg) - (f_values x1.toNatClampNeg)), (), rfl, h, by rw [ht]; exact hP, hD⟩, hS.F ht⟩) hS.2.2 d_St_gain_17 hlocks
set_option maxHeartbeats 4000000 in
set_option maxRecDepth 100000 in
theorem c_St_gain (l : Launch) (dC : Nat → ClassId) (dI : Nat → Nat → Nat) (cI cJ cC : ClassId) (h_this h_values : Nat) (u_size : Int32) (u_sets : Int32) (u_lowest : Int64) (u_meet : Int32) (u_join : Int32) (f_values : Nat → Int64) (post : Int64 → Prop) (x1 : Int32) (x2 : Int32) (sz : Nat) (h : wp_St_gain_0 f_values post x1 x2) : Met l y_St_gain (.code y_St_gain prog_4_method_6_code 3 (Option.some Jvm.ClassFile.FieldType.long) :: gx_G) ({ frames := 0, cells := 0, slots := 0, locals := 0 }) (va_Pc [.ref h_this, .int x1, .int x2] (fun U => U.heap.size = sz ∧ va_P (dC, dI) classes [(h_this, .inr (2, [.ref h_values, .int u_size, .int u_sets, .long u_lowest, .int u_meet, .int u_join])), (h_values, .inl (cJ, 1024, .inr (.inl f_values)))] U.heap ∧ gx_K dC dI cI cJ cC U ∧ va_D (fun _ => True) [(h_this, .inr (2, [.ref h_values, .int u_size, .int u_sets, .long u_lowest, .int u_meet, .int u_join])), (h_values, .inl (cJ, 1024, .inr (.inl f_values)))])) (va_Ql (fun (r : Int64) (u : Unit) => post r) (fun (u : Unit) (t : State) => va_P (dC, dI) classes [(h_this, .inr (2, [.ref h_values, .int u_size, .int u_sets, .long u_lowest, .int u_meet, .int u_join])), (h_values, .inl (cJ, 1024, .inr (.inl f_values)))] t.heap ∧ va_D (va_A [(h_this, .inr (2, [.ref h_values, .int u_size, .int u_sets, .long u_lowest, .int u_meet, .int u_join])), (h_values, .inl (cJ, 1024, .inr (.inl f_values)))] sz) [(h_this, .inr (2, [.ref h_values, .int u_size, .int u_sets, .long u_lowest, .int u_meet, .int u_join])), (h_values, .inl (cJ, 1024, .inr (.inl f_values)))]) (va_A [(h_this, .inr (2, [.ref h_values, .int u_size, .int u_sets, .long u_lowest, .int u_meet, .int u_join])), (h_values, .inl (cJ, 1024, .inr (.inl f_values)))] sz)) 0 0 (va_A [(h_this, .inr (2, [.ref h_values, .int u_size, .int u_sets, .long u_lowest, .int u_meet, .int u_join])), (h_values, .inl (cJ, 1024, .inr (.inl f_values)))] sz) := by
  refine Met.ofW (cc := prog_4_method_6_code) (maxL := 3) (ret := (Option.some Jvm.ClassFile.FieldType.long)) (by decide +kernel) rfl ?_
  intro p e s m args below meth c s₁ B hml hv
  obtain ⟨rfl, hsz, hP, hN, hD0⟩ := hv
  have hts := atoms_spec (ws := (.code y_St_gain prog_4_method_6_code 3 (Option.some Jvm.ClassFile.FieldType.long) :: gx_G)) B.pre
  have C0 : gx_C p s m meth c _ "LeanSets$SetTable" prog_4_method_6_code 3 (Option.some Jvm.ClassFile.FieldType.long) := ⟨B.exec, B.bytes, B.returns, hml, findClass_of_methodNamed B.named, B.notSynchronized, fun w hw => hts w (List.mem_cons_of_mem _ hw)⟩
  subst hsz
  have hD := hD0.self (sz := s.heap.size)
  generalize hAe : va_A [(h_this, .inr (2, [.ref h_values, .int u_size, .int u_sets, .long u_lowest, .int u_meet, .int u_join])), (h_values, .inl (cJ, 1024, .inr (.inl f_values)))] s.heap.size = A at hD ⊢
  have hA : ∀ q : Nat, s.heap.size ≤ q → A q := fun q h => by rw [← hAe]; exact Or.inr h
  have hl := lv_entry ([.ref h_this, .int x1, .int x2]) (n := 3) (Nat.le_of_ble_eq_true rfl)
  rw [lg_entry_eq]
  generalize (lg_sl ([.ref h_this, .int x1, .int x2]) ++ List.replicate (3 - (lg_sl ([.ref h_this, .int x1, .int x2])).length) Slot.unset).toArray = ls at hl ⊢
  exact wk_St_gain_0 dC dI cI cJ cC A hA C0 hN h_this h_values u_size u_sets u_lowest u_meet u_join f_values post x1 x2 h s.heap [] ls hP hD va_S.rf hl
/-! LeanSets$SetTable.findLowest(II)V -/
def y_St_findLowest : MethodName := ⟨"LeanSets$SetTable", "findLowest", "(II)V"⟩
theorem d_St_findLowest_0 : decode prog_4_method_7_code 0 = .ok (.iload_n 1, 1) := by decide +kernel
theorem d_St_findLowest_1 : decode prog_4_method_7_code 1 = .ok (.iload_n 2, 1) := by decide +kernel
theorem d_St_findLowest_2 : decode prog_4_method_7_code 2 = .ok (.ior, 1) := by decide +kernel
theorem d_St_findLowest_3 : decode prog_4_method_7_code 3 = .ok (.istore_n 3, 1) := by decide +kernel
theorem d_St_findLowest_4 : decode prog_4_method_7_code 4 = .ok (.aload_n 0, 1) := by decide +kernel
theorem d_St_findLowest_5 : decode prog_4_method_7_code 5 = .ok (.aload_n 0, 1) := by decide +kernel
theorem d_St_findLowest_6 : decode prog_4_method_7_code 6 = .ok (.getfield 9, 3) := by decide +kernel
theorem d_St_findLowest_9 : decode prog_4_method_7_code 9 = .ok (.iload_n 1, 1) := by decide +kernel
theorem d_St_findLowest_10 : decode prog_4_method_7_code 10 = .ok (.laload, 1) := by decide +kernel
theorem d_St_findLowest_11 : decode prog_4_method_7_code 11 = .ok (.putfield 28, 3) := by decide +kernel
theorem d_St_findLowest_14 : decode prog_4_method_7_code 14 = .ok (.aload_n 0, 1) := by decide +kernel
theorem d_St_findLowest_15 : decode prog_4_method_7_code 15 = .ok (.iload_n 1, 1) := by decide +kernel
theorem d_St_findLowest_16 : decode prog_4_method_7_code 16 = .ok (.putfield 32, 3) := by decide +kernel
theorem d_St_findLowest_19 : decode prog_4_method_7_code 19 = .ok (.aload_n 0, 1) := by decide +kernel
theorem d_St_findLowest_20 : decode prog_4_method_7_code 20 = .ok (.iload_n 1, 1) := by decide +kernel
theorem d_St_findLowest_21 : decode prog_4_method_7_code 21 = .ok (.putfield 35, 3) := by decide +kernel
theorem d_St_findLowest_24 : decode prog_4_method_7_code 24 = .ok (.iload_n 1, 1) := by decide +kernel
theorem d_St_findLowest_25 : decode prog_4_method_7_code 25 = .ok (.iconst 1, 1) := by decide +kernel
theorem d_St_findLowest_26 : decode prog_4_method_7_code 26 = .ok (.iadd, 1) := by decide +kernel
theorem d_St_findLowest_27 : decode prog_4_method_7_code 27 = .ok (.istore 4, 2) := by decide +kernel
theorem d_St_findLowest_29 : decode prog_4_method_7_code 29 = .ok (.iload 4, 2) := by decide +kernel
theorem d_St_findLowest_31 : decode prog_4_method_7_code 31 = .ok (.aload_n 0, 1) := by decide +kernel
theorem d_St_findLowest_32 : decode prog_4_method_7_code 32 = .ok (.getfield 19, 3) := by decide +kernel
theorem d_St_findLowest_35 : decode prog_4_method_7_code 35 = .ok (.if_icmp .ge 98, 3) := by decide +kernel
theorem d_St_findLowest_38 : decode prog_4_method_7_code 38 = .ok (.iload 4, 2) := by decide +kernel
theorem d_St_findLowest_40 : decode prog_4_method_7_code 40 = .ok (.iload_n 3, 1) := by decide +kernel
theorem d_St_findLowest_41 : decode prog_4_method_7_code 41 = .ok (.iand, 1) := by decide +kernel
theorem d_St_findLowest_42 : decode prog_4_method_7_code 42 = .ok (.iload_n 1, 1) := by decide +kernel
theorem d_St_findLowest_43 : decode prog_4_method_7_code 43 = .ok (.if_icmp .ne 84, 3) := by decide +kernel
theorem d_St_findLowest_46 : decode prog_4_method_7_code 46 = .ok (.aload_n 0, 1) := by decide +kernel
theorem d_St_findLowest_47 : decode prog_4_method_7_code 47 = .ok (.getfield 9, 3) := by decide +kernel
theorem d_St_findLowest_50 : decode prog_4_method_7_code 50 = .ok (.iload 4, 2) := by decide +kernel
theorem d_St_findLowest_52 : decode prog_4_method_7_code 52 = .ok (.laload, 1) := by decide +kernel
theorem d_St_findLowest_53 : decode prog_4_method_7_code 53 = .ok (.aload_n 0, 1) := by decide +kernel
theorem d_St_findLowest_54 : decode prog_4_method_7_code 54 = .ok (.getfield 28, 3) := by decide +kernel
theorem d_St_findLowest_57 : decode prog_4_method_7_code 57 = .ok (.lcmp, 1) := by decide +kernel
theorem d_St_findLowest_58 : decode prog_4_method_7_code 58 = .ok (.ifCond .le 6, 3) := by decide +kernel
theorem d_St_findLowest_61 : decode prog_4_method_7_code 61 = .ok (.goto 66, 3) := by decide +kernel
theorem d_St_findLowest_64 : decode prog_4_method_7_code 64 = .ok (.aload_n 0, 1) := by decide +kernel
theorem d_St_findLowest_65 : decode prog_4_method_7_code 65 = .ok (.getfield 9, 3) := by decide +kernel
theorem d_St_findLowest_68 : decode prog_4_method_7_code 68 = .ok (.iload 4, 2) := by decide +kernel
theorem d_St_findLowest_70 : decode prog_4_method_7_code 70 = .ok (.laload, 1) := by decide +kernel
theorem d_St_findLowest_71 : decode prog_4_method_7_code 71 = .ok (.aload_n 0, 1) := by decide +kernel
theorem d_St_findLowest_72 : decode prog_4_method_7_code 72 = .ok (.getfield 28, 3) := by decide +kernel
theorem d_St_findLowest_75 : decode prog_4_method_7_code 75 = .ok (.lcmp, 1) := by decide +kernel
theorem d_St_findLowest_76 : decode prog_4_method_7_code 76 = .ok (.ifCond .ge 29, 3) := by decide +kernel
theorem d_St_findLowest_79 : decode prog_4_method_7_code 79 = .ok (.aload_n 0, 1) := by decide +kernel
theorem d_St_findLowest_80 : decode prog_4_method_7_code 80 = .ok (.aload_n 0, 1) := by decide +kernel
theorem d_St_findLowest_81 : decode prog_4_method_7_code 81 = .ok (.getfield 9, 3) := by decide +kernel
theorem d_St_findLowest_84 : decode prog_4_method_7_code 84 = .ok (.iload 4, 2) := by decide +kernel
theorem d_St_findLowest_86 : decode prog_4_method_7_code 86 = .ok (.laload, 1) := by decide +kernel
theorem d_St_findLowest_87 : decode prog_4_method_7_code 87 = .ok (.putfield 28, 3) := by decide +kernel
theorem d_St_findLowest_90 : decode prog_4_method_7_code 90 = .ok (.aload_n 0, 1) := by decide +kernel
theorem d_St_findLowest_91 : decode prog_4_method_7_code 91 = .ok (.iload 4, 2) := by decide +kernel
theorem d_St_findLowest_93 : decode prog_4_method_7_code 93 = .ok (.putfield 32, 3) := by decide +kernel
theorem d_St_findLowest_96 : decode prog_4_method_7_code 96 = .ok (.aload_n 0, 1) := by decide +kernel
theorem d_St_findLowest_97 : decode prog_4_method_7_code 97 = .ok (.iload 4, 2) := by decide +kernel
theorem d_St_findLowest_99 : decode prog_4_method_7_code 99 = .ok (.putfield 35, 3) := by decide +kernel
theorem d_St_findLowest_102 : decode prog_4_method_7_code 102 = .ok (.goto 25, 3) := by decide +kernel
theorem d_St_findLowest_105 : decode prog_4_method_7_code 105 = .ok (.aload_n 0, 1) := by decide +kernel
theorem d_St_findLowest_106 : decode prog_4_method_7_code 106 = .ok (.dup, 1) := by decide +kernel
theorem d_St_findLowest_107 : decode prog_4_method_7_code 107 = .ok (.getfield 32, 3) := by decide +kernel
theorem d_St_findLowest_110 : decode prog_4_method_7_code 110 = .ok (.iload 4, 2) := by decide +kernel
theorem d_St_findLowest_112 : decode prog_4_method_7_code 112 = .ok (.iand, 1) := by decide +kernel
theorem d_St_findLowest_113 : decode prog_4_method_7_code 113 = .ok (.putfield 32, 3) := by decide +kernel
theorem d_St_findLowest_116 : decode prog_4_method_7_code 116 = .ok (.aload_n 0, 1) := by decide +kernel
theorem d_St_findLowest_117 : decode prog_4_method_7_code 117 = .ok (.dup, 1) := by decide +kernel
theorem d_St_findLowest_118 : decode prog_4_method_7_code 118 = .ok (.getfield 35, 3) := by decide +kernel
theorem d_St_findLowest_121 : decode prog_4_method_7_code 121 = .ok (.iload 4, 2) := by decide +kernel
theorem d_St_findLowest_123 : decode prog_4_method_7_code 123 = .ok (.ior, 1) := by decide +kernel
theorem d_St_findLowest_124 : decode prog_4_method_7_code 124 = .ok (.putfield 35, 3) := by decide +kernel
theorem d_St_findLowest_127 : decode prog_4_method_7_code 127 = .ok (.iinc 4 1, 3) := by decide +kernel
theorem d_St_findLowest_130 : decode prog_4_method_7_code 130 = .ok (.goto (-101), 3) := by decide +kernel
theorem d_St_findLowest_133 : decode prog_4_method_7_code 133 = .ok (.return_, 1) := by decide +kernel
def wp_St_findLowest_127 (f_sets : Int32) (f_values : Nat → Int64) (post : Int64 → Int32 → Int32 → Prop) (K29 : Int32 → Int32 → Int32 → Int64 → Int32 → Int32 → Prop) (x1 : Int32) (x3 : Int32) (x4 : Int32) (f_lowest : Int64) (f_meet : Int32) (f_join : Int32) : Prop := K29 x1 x3 (x4 + (1 : Int32)) f_lowest f_meet f_join
set_option maxHeartbeats 4000000 in
set_option maxRecDepth 100000 in
theorem wk_St_findLowest_127 {p : Program} {l : Launch} {e : Env} {s : State} {m : MethodId} {args : Array Value} {below : List Frame} {meth : Method} {c : Code} (dC : Nat → ClassId) (dI : Nat → Nat → Nat) (cI cJ cC : ClassId) (A : Nat → Prop) (hA : ∀ q : Nat, s.heap.size ≤ q → A q) (C0 : gx_C p s m meth c args "LeanSets$SetTable" prog_4_method_7_code 5 (Option.none : Option Jvm.ClassFile.FieldType)) (hN : gx_K dC dI cI cJ cC s)  (h_this h_values : Nat) (u_size : Int32) (f_sets : Int32) (f_values : Nat → Int64) (post : Int64 → Int32 → Int32 → Prop) (K29 : Int32 → Int32 → Int32 → Int64 → Int32 → Int32 → Prop) (hK29 : ∀ (x1 : Int32) (x3 : Int32) (x4 : Int32) (f_lowest : Int64) (f_meet : Int32) (f_join : Int32), K29 x1 x3 x4 f_lowest f_meet f_join → ∀ (H : Heap) (locs : List Loc) (ls : Array Slot), va_P (dC, dI) classes [(h_this, .inr (2, [.ref h_values, .int u_size, .int f_sets, .long f_lowest, .int f_meet, .int f_join])), (h_values, .inl (cJ, 1024, .inr (.inl f_values)))] H → va_D A [(h_this, .inr (2, [.ref h_values, .int u_size, .int f_sets, .long f_lowest, .int f_meet, .int f_join])), (h_values, .inl (cJ, 1024, .inr (.inl f_values)))] → va_S A s.heap H locs → lv_has ls 5 [(0, .ref h_this), (1, .int x1), (3, .int x3), (4, .int x4)] → W p l e { frames := 0, cells := 0, slots := 0, locals := 0 } s m args below meth c H locs 0 0 (MQ below (va_Qv (fun (u : Int64 × Int32 × Int32) => post u.1 u.2.1 u.2.2) (fun (u : Int64 × Int32 × Int32) (t : State) => va_P (dC, dI) classes [(h_this, .inr (2, [.ref h_values, .int u_size, .int f_sets, .long u.1, .int u.2.1, .int u.2.2])), (h_values, .inl (cJ, 1024, .inr (.inl f_values)))] t.heap ∧ va_D A [(h_this, .inr (2, [.ref h_values, .int u_size, .int f_sets, .long u.1, .int u.2.1, .int u.2.2])), (h_values, .inl (cJ, 1024, .inr (.inl f_values)))]) A) args s 0 0 A) (F0 m 29 ls [])) : ∀ (x1 : Int32) (x3 : Int32) (x4 : Int32) (f_lowest : Int64) (f_meet : Int32) (f_join : Int32), wp_St_findLowest_127 f_sets f_values post K29 x1 x3 x4 f_lowest f_meet f_join → ∀ (H : Heap) (locs : List Loc) (ls : Array Slot), va_P (dC, dI) classes [(h_this, .inr (2, [.ref h_values, .int u_size, .int f_sets, .long f_lowest, .int f_meet, .int f_join])), (h_values, .inl (cJ, 1024, .inr (.inl f_values)))] H → va_D A [(h_this, .inr (2, [.ref h_values, .int u_size, .int f_sets, .long f_lowest, .int f_meet, .int f_join])), (h_values, .inl (cJ, 1024, .inr (.inl f_values)))] → va_S A s.heap H locs → lv_has ls 5 [(0, .ref h_this), (1, .int x1), (3, .int x3), (4, .int x4)] → W p l e { frames := 0, cells := 0, slots := 0, locals := 0 } s m args below meth c H locs 0 0 (MQ below (va_Qv (fun (u : Int64 × Int32 × Int32) => post u.1 u.2.1 u.2.2) (fun (u : Int64 × Int32 × Int32) (t : State) => va_P (dC, dI) classes [(h_this, .inr (2, [.ref h_values, .int u_size, .int f_sets, .long u.1, .int u.2.1, .int u.2.2])), (h_values, .inl (cJ, 1024, .inr (.inl f_values)))] t.heap ∧ va_D A [(h_this, .inr (2, [.ref h_values, .int u_size, .int f_sets, .long u.1, .int u.2.1, .int u.2.2])), (h_values, .inl (cJ, 1024, .inr (.inl f_values)))]) A) args s 0 0 A) (F0 m 127 ls []) := by
  obtain ⟨hx, hb, hr, hml, hown, hlocks, hG⟩ := id C0
  have hK := hN.1
  intro x1 x3 x4 f_lowest f_meet f_join h H locs ls hP hD hS hl
  rw [wp_St_findLowest_127] at h
  refine lv_iinc (v := (x4 + (1 : Int32))) (lv' := [(4, .int (x4 + (1 : Int32))), (0, .ref h_this), (1, .int x1), (3, .int x3)]) hx hb d_St_findLowest_127 hl (k := 3) rfl rfl (by decide) rfl (fun ls hl => ?_)
  refine lv_goto (tgt := 29) hx hb d_St_findLowest_130 (by decide) ?_
  exact hK29 x1 x3 (x4 + (1 : Int32)) f_lowest f_meet f_join h _ _ _ hP hD hS (lv_sub hl [1, 2, 3, 0] rfl)
def wp_St_findLowest_29 (f_sets : Int32) (f_values : Nat → Int64) (post : Int64 → Int32 → Int32 → Prop)  : Nat → Int32 → Int32 → Int32 → Int64 → Int32 → Int32 → Prop
  | 0, _, _, _, _, _, _ => False
  | n + 1, x1, x3, x4, f_lowest, f_meet, f_join => ((f_sets ≤ x4) → (post f_lowest f_meet f_join)) ∧ ((¬ (f_sets ≤ x4)) → (((¬ (x4 &&& x3) = x1) → (wp_St_findLowest_127 f_sets f_values post (fun (x1 : Int32) (x3 : Int32) (x4 : Int32) (f_lowest : Int64) (f_meet : Int32) (f_join : Int32) => wp_St_findLowest_29 f_sets f_values post n x1 x3 x4 f_lowest f_meet f_join) x1 x3 x4 f_lowest f_meet f_join)) ∧ (((x4 &&& x3) = x1) → ((vp_in x4 1024) ∧ ((((lg_cmp (f_values x4.toNatClampNeg) f_lowest) ≤ 0) → ((vp_in x4 1024) ∧ (((0 ≤ (lg_cmp (f_values x4.toNatClampNeg) f_lowest)) → (wp_St_findLowest_127 f_sets f_values post (fun (x1 : Int32) (x3 : Int32) (x4 : Int32) (f_lowest : Int64) (f_meet : Int32) (f_join : Int32) => wp_St_findLowest_29 f_sets f_values post n x1 x3 x4 f_lowest f_meet f_join) x1 x3 x4 f_lowest (f_meet &&& x4) (f_join ||| x4))) ∧ ((¬ (0 ≤ (lg_cmp (f_values x4.toNatClampNeg) f_lowest))) → ((vp_in x4 1024) ∧ (wp_St_findLowest_127 f_sets f_values post (fun (x1 : Int32) (x3 : Int32) (x4 : Int32) (f_lowest : Int64) (f_meet : Int32) (f_join : Int32) => wp_St_findLowest_29 f_sets f_values post n x1 x3 x4 f_lowest f_meet f_join) x1 x3 x4 (f_values x4.toNatClampNeg) x4 x4)))))) ∧ ((¬ ((lg_cmp (f_values x4.toNatClampNeg) f_lowest) ≤ 0)) → (wp_St_findLowest_127 f_sets f_values post (fun (x1 : Int32) (x3 : Int32) (x4 : Int32) (f_lowest : Int64) (f_meet : Int32) (f_join : Int32) => wp_St_findLowest_29 f_sets f_values post n x1 x3 x4 f_lowest f_meet f_join) x1 x3 x4 f_lowest f_meet f_join)))))))
set_option maxHeartbeats 4000000 in
set_option maxRecDepth 100000 in
theorem wk_St_findLowest_29 {p : Program} {l : Launch} {e : Env} {s : State} {m : MethodId} {args : Array Value} {below : List Frame} {meth : Method} {c : Code} (dC : Nat → ClassId) (dI : Nat → Nat → Nat) (cI cJ cC : ClassId) (A : Nat → Prop) (hA : ∀ q : Nat, s.heap.size ≤ q → A q) (C0 : gx_C p s m meth c args "LeanSets$SetTable" prog_4_method_7_code 5 (Option.none : Option Jvm.ClassFile.FieldType)) (hN : gx_K dC dI cI cJ cC s)  (h_this h_values : Nat) (u_size : Int32) (f_sets : Int32) (f_values : Nat → Int64) (post : Int64 → Int32 → Int32 → Prop)   : ∀ (n : Nat) (x1 : Int32) (x3 : Int32) (x4 : Int32) (f_lowest : Int64) (f_meet : Int32) (f_join : Int32), wp_St_findLowest_29 f_sets f_values post n x1 x3 x4 f_lowest f_meet f_join → ∀ (H : Heap) (locs : List Loc) (ls : Array Slot), va_P (dC, dI) classes [(h_this, .inr (2, [.ref h_values, .int u_size, .int f_sets, .long f_lowest, .int f_meet, .int f_join])), (h_values, .inl (cJ, 1024, .inr (.inl f_values)))] H → va_D A [(h_this, .inr (2, [.ref h_values, .int u_size, .int f_sets, .long f_lowest, .int f_meet, .int f_join])), (h_values, .inl (cJ, 1024, .inr (.inl f_values)))] → va_S A s.heap H locs → lv_has ls 5 [(0, .ref h_this), (1, .int x1), (3, .int x3), (4, .int x4)] → W p l e { frames := 0, cells := 0, slots := 0, locals := 0 } s m args below meth c H locs 0 0 (MQ below (va_Qv (fun (u : Int64 × Int32 × Int32) => post u.1 u.2.1 u.2.2) (fun (u : Int64 × Int32 × Int32) (t : State) => va_P (dC, dI) classes [(h_this, .inr (2, [.ref h_values, .int u_size, .int f_sets, .long u.1, .int u.2.1, .int u.2.2])), (h_values, .inl (cJ, 1024, .inr (.inl f_values)))] t.heap ∧ va_D A [(h_this, .inr (2, [.ref h_values, .int u_size, .int f_sets, .long u.1, .int u.2.1, .int u.2.2])), (h_values, .inl (cJ, 1024, .inr (.inl f_values)))]) A) args s 0 0 A) (F0 m 29 ls []) := by
  obtain ⟨hx, hb, hr, hml, hown, hlocks, hG⟩ := id C0
  have hK := hN.1
  intro n
  induction n with
  | zero =>
    intro x1 x3 x4 f_lowest f_meet f_join h
    exact absurd h (by rw [wp_St_findLowest_29]; exact id)
  | succ n ih =>
    intro x1 x3 x4 f_lowest f_meet f_join h H locs ls hP hD hS hl
    rw [wp_St_findLowest_29] at h
    refine lv_iload hx hb d_St_findLowest_29 (lv_at hl 3 rfl) ?_
    refine lv_aload_n hx hb d_St_findLowest_31 rfl (lv_at hl 0 rfl) ?_
    refine va_get (D := (dC, dI)) (ci := 2) (v := .int f_sets) (C := "LeanSets$SetTable") (T := T_St) (N := 6) hx hb hG in_St hown hK hP 0 rfl rfl 2 (Nat.le_of_ble_eq_true rfl) (hG _ mw_135) (fun _ h9 => h9) rfl d_St_findLowest_32 ?_
    refine lv_icmp_ge (tgt := 133) hx hb d_St_findLowest_35 (by decide) (fun c_ => ?_) (fun c_ => ?_)
    · have h := h.1 c_
      exact W.vret hx hb hr (fun t ht hW => ⟨⟨(f_lowest, f_meet, f_join), rfl, h, by rw [ht]; exact hP, hD⟩, hS.F ht⟩) hS.2.2 d_St_findLowest_133 hlocks
    · have h := h.2 c_
      refine lv_iload hx hb d_St_findLowest_38 (lv_at hl 3 rfl) ?_
      refine lv_iload_n hx hb d_St_findLowest_40 rfl (lv_at hl 2 rfl) ?_
      refine lv_iand hx hb d_St_findLowest_41 ?_
      refine lv_iload_n hx hb d_St_findLowest_42 rfl (lv_at hl 1 rfl) ?_
      refine lv_icmp_ne (tgt := 127) hx hb d_St_findLowest_43 (by decide) (fun c_ => ?_) (fun c_ => ?_)
      · have h := h.1 c_
        exact wk_St_findLowest_127 dC dI cI cJ cC A hA C0 hN h_this h_values u_size f_sets f_values post (fun (x1 : Int32) (x3 : Int32) (x4 : Int32) (f_lowest : Int64) (f_meet : Int32) (f_join : Int32) => wp_St_findLowest_29 f_sets f_values post n x1 x3 x4 f_lowest f_meet f_join) (fun x1 x3 x4 f_lowest f_meet f_join h => ih x1 x3 x4 f_lowest f_meet f_join h) x1 x3 x4 f_lowest f_meet f_join h _ _ _ hP hD hS (lv_sub hl [0, 1, 2, 3] rfl)
      · have h := h.2 c_
        refine lv_aload_n hx hb d_St_findLowest_46 rfl (lv_at hl 0 rfl) ?_
        refine va_get (D := (dC, dI)) (ci := 2) (v := .ref h_values) (C := "LeanSets$SetTable") (T := T_St) (N := 6) hx hb hG in_St hown hK hP 0 rfl rfl 0 (Nat.le_of_ble_eq_true rfl) (hG _ mw_128) (fun _ h9 => h9) rfl d_St_findLowest_47 ?_
        refine lv_iload hx hb d_St_findLowest_50 (lv_at hl 3 rfl) ?_
        obtain ⟨g_, h⟩ := h
        refine va_lald hx hb hK hP 1 1 rfl rfl g_ d_St_findLowest_52 ?_
        refine lv_aload_n hx hb d_St_findLowest_53 rfl (lv_at hl 0 rfl) ?_
        refine va_get (D := (dC, dI)) (ci := 2) (v := .long f_lowest) (C := "LeanSets$SetTable") (T := T_St) (N := 6) hx hb hG in_St hown hK hP 0 rfl rfl 3 (Nat.le_of_ble_eq_true rfl) (hG _ mw_139) (fun _ h9 => h9) rfl d_St_findLowest_54 ?_
        refine W.lcmp hx hb d_St_findLowest_57 ?_
        refine lv_if_le (tgt := 64) hx hb d_St_findLowest_58 (by decide) (fun c_ => ?_) (fun c_ => ?_)
        · have h := h.1 c_
          refine lv_aload_n hx hb d_St_findLowest_64 rfl (lv_at hl 0 rfl) ?_
          refine va_get (D := (dC, dI)) (ci := 2) (v := .ref h_values) (C := "LeanSets$SetTable") (T := T_St) (N := 6) hx hb hG in_St hown hK hP 0 rfl rfl 0 (Nat.le_of_ble_eq_true rfl) (hG _ mw_128) (fun _ h9 => h9) rfl d_St_findLowest_65 ?_
          refine lv_iload hx hb d_St_findLowest_68 (lv_at hl 3 rfl) ?_
          obtain ⟨g_, h⟩ := h
          refine va_lald hx hb hK hP 1 1 rfl rfl g_ d_St_findLowest_70 ?_
          refine lv_aload_n hx hb d_St_findLowest_71 rfl (lv_at hl 0 rfl) ?_
          refine va_get (D := (dC, dI)) (ci := 2) (v := .long f_lowest) (C := "LeanSets$SetTable") (T := T_St) (N := 6) hx hb hG in_St hown hK hP 0 rfl rfl 3 (Nat.le_of_ble_eq_true rfl) (hG _ mw_139) (fun _ h9 => h9) rfl d_St_findLowest_72 ?_
          refine W.lcmp hx hb d_St_findLowest_75 ?_
          refine lv_if_ge (tgt := 105) hx hb d_St_findLowest_76 (by decide) (fun c_ => ?_) (fun c_ => ?_)
          · have h := h.1 c_
            refine lv_aload_n hx hb d_St_findLowest_105 rfl (lv_at hl 0 rfl) ?_
            refine lv_dup hx hb d_St_findLowest_106 rfl ?_
            refine va_get (D := (dC, dI)) (ci := 2) (v := .int f_meet) (C := "LeanSets$SetTable") (T := T_St) (N := 6) hx hb hG in_St hown hK hP 0 rfl rfl 4 (Nat.le_of_ble_eq_true rfl) (hG _ mw_141) (fun _ h9 => h9) rfl d_St_findLowest_107 ?_
            refine lv_iload hx hb d_St_findLowest_110 (lv_at hl 3 rfl) ?_
            refine lv_iand hx hb d_St_findLowest_112 ?_
            refine va_put (D := (dC, dI)) (ci := 2) (v := .int (f_meet &&& x4)) (ty := .int) (C := "LeanSets$SetTable") (T := T_St) (N := 6) hx hb hG in_St ty_St ty_St_ok nm_St hown hK hP hD hS 0 rfl rfl 4 (Nat.le_of_ble_eq_true rfl) (hG _ mw_141) (fun _ h9 => h9) rfl (ty_St_ok 4 (Nat.le_of_ble_eq_true rfl)) rfl rfl (Nat.le_of_ble_eq_true rfl) d_St_findLowest_113 (fun H locs hP hD hS => ?_)
            have hP : va_P (dC, dI) classes [(h_this, .inr (2, [.ref h_values, .int u_size, .int f_sets, .long f_lowest, .int (f_meet &&& x4), .int f_join])), (h_values, .inl (cJ, 1024, .inr (.inl f_values)))] H := hP
            have hD : va_D A [(h_this, .inr (2, [.ref h_values, .int u_size, .int f_sets, .long f_lowest, .int (f_meet &&& x4), .int f_join])), (h_values, .inl (cJ, 1024, .inr (.inl f_values)))] := hD
            refine lv_aload_n hx hb d_St_findLowest_116 rfl (lv_at hl 0 rfl) ?_
            refine lv_dup hx hb d_St_findLowest_117 rfl ?_
            refine va_get (D := (dC, dI)) (ci := 2) (v := .int f_join) (C := "LeanSets$SetTable") (T := T_St) (N := 6) hx hb hG in_St hown hK hP 0 rfl rfl 5 (Nat.le_of_ble_eq_true rfl) (hG _ mw_143) (fun _ h9 => h9) rfl d_St_findLowest_118 ?_
            refine lv_iload hx hb d_St_findLowest_121 (lv_at hl 3 rfl) ?_
            refine lv_ior hx hb d_St_findLowest_123 ?_
            refine va_put (D := (dC, dI)) (ci := 2) (v := .int (f_join ||| x4)) (ty := .int) (C := "LeanSets$SetTable") (T := T_St) (N := 6) hx hb hG in_St ty_St ty_St_ok nm_St hown hK hP hD hS 0 rfl rfl 5 (Nat.le_of_ble_eq_true rfl) (hG _ mw_143) (fun _ h9 => h9) rfl (ty_St_ok 5 (Nat.le_of_ble_eq_true rfl)) rfl rfl (Nat.le_of_ble_eq_true rfl) d_St_findLowest_124 (fun H locs hP hD hS => ?_)
            have hP : va_P (dC, dI) classes [(h_this, .inr (2, [.ref h_values, .int u_size, .int f_sets, .long f_lowest, .int (f_meet &&& x4), .int (f_join ||| x4)])), (h_values, .inl (cJ, 1024, .inr (.inl f_values)))] H := hP
            have hD : va_D A [(h_this, .inr (2, [.ref h_values, .int u_size, .int f_sets, .long f_lowest, .int (f_meet &&& x4), .int (f_join ||| x4)])), (h_values, .inl (cJ, 1024, .inr (.inl f_values)))] := hD
            exact wk_St_findLowest_127 dC dI cI cJ cC A hA C0 hN h_this h_values u_size f_sets f_values post (fun (x1 : Int32) (x3 : Int32) (x4 : Int32) (f_lowest : Int64) (f_meet : Int32) (f_join : Int32) => wp_St_findLowest_29 f_sets f_values post n x1 x3 x4 f_lowest f_meet f_join) (fun x1 x3 x4 f_lowest f_meet f_join h => ih x1 x3 x4 f_lowest f_meet f_join h) x1 x3 x4 f_lowest (f_meet &&& x4) (f_join ||| x4) h _ _ _ hP hD hS (lv_sub hl [0, 1, 2, 3] rfl)
          · have h := h.2 c_
            refine lv_aload_n hx hb d_St_findLowest_79 rfl (lv_at hl 0 rfl) ?_
            refine lv_aload_n hx hb d_St_findLowest_80 rfl (lv_at hl 0 rfl) ?_
            refine va_get (D := (dC, dI)) (ci := 2) (v := .ref h_values) (C := "LeanSets$SetTable") (T := T_St) (N := 6) hx hb hG in_St hown hK hP 0 rfl rfl 0 (Nat.le_of_ble_eq_true rfl) (hG _ mw_128) (fun _ h9 => h9) rfl d_St_findLowest_81 ?_
            refine lv_iload hx hb d_St_findLowest_84 (lv_at hl 3 rfl) ?_
            obtain ⟨g_, h⟩ := h
            refine va_lald hx hb hK hP 1 1 rfl rfl g_ d_St_findLowest_86 ?_
            refine va_put (D := (dC, dI)) (ci := 2) (v := .long (f_values x4.toNatClampNeg)) (ty := .long) (C := "LeanSets$SetTable") (T := T_St) (N := 6) hx hb hG in_St ty_St ty_St_ok nm_St hown hK hP hD hS 0 rfl rfl 3 (Nat.le_of_ble_eq_true rfl) (hG _ mw_139) (fun _ h9 => h9) rfl (ty_St_ok 3 (Nat.le_of_ble_eq_true rfl)) rfl rfl (Nat.le_of_ble_eq_true rfl) d_St_findLowest_87 (fun H locs hP hD hS => ?_)
            have hP : va_P (dC, dI) classes [(h_this, .inr (2, [.ref h_values, .int u_size, .int f_sets, .long (f_values x4.toNatClampNeg), .int f_meet, .int f_join])), (h_values, .inl (cJ, 1024, .inr (.inl f_values)))] H := hP
            have hD : va_D A [(h_this, .inr (2, [.ref h_values, .int u_size, .int f_sets, .long (f_values x4.toNatClampNeg), .int f_meet, .int f_join])), (h_values, .inl (cJ, 1024, .inr (.inl f_values)))] := hD
            refine lv_aload_n hx hb d_St_findLowest_90 rfl (lv_at hl 0 rfl) ?_
            refine lv_iload hx hb d_St_findLowest_91 (lv_at hl 3 rfl) ?_
            refine va_put (D := (dC, dI)) (ci := 2) (v := .int x4) (ty := .int) (C := "LeanSets$SetTable") (T := T_St) (N := 6) hx hb hG in_St ty_St ty_St_ok nm_St hown hK hP hD hS 0 rfl rfl 4 (Nat.le_of_ble_eq_true rfl) (hG _ mw_141) (fun _ h9 => h9) rfl (ty_St_ok 4 (Nat.le_of_ble_eq_true rfl)) rfl rfl (Nat.le_of_ble_eq_true rfl) d_St_findLowest_93 (fun H locs hP hD hS => ?_)
            have hP : va_P (dC, dI) classes [(h_this, .inr (2, [.ref h_values, .int u_size, .int f_sets, .long (f_values x4.toNatClampNeg), .int x4, .int f_join])), (h_values, .inl (cJ, 1024, .inr (.inl f_values)))] H := hP
            have hD : va_D A [(h_this, .inr (2, [.ref h_values, .int u_size, .int f_sets, .long (f_values x4.toNatClampNeg), .int x4, .int f_join])), (h_values, .inl (cJ, 1024, .inr (.inl f_values)))] := hD
            refine lv_aload_n hx hb d_St_findLowest_96 rfl (lv_at hl 0 rfl) ?_
            refine lv_iload hx hb d_St_findLowest_97 (lv_at hl 3 rfl) ?_
            refine va_put (D := (dC, dI)) (ci := 2) (v := .int x4) (ty := .int) (C := "LeanSets$SetTable") (T := T_St) (N := 6) hx hb hG in_St ty_St ty_St_ok nm_St hown hK hP hD hS 0 rfl rfl 5 (Nat.le_of_ble_eq_true rfl) (hG _ mw_143) (fun _ h9 => h9) rfl (ty_St_ok 5 (Nat.le_of_ble_eq_true rfl)) rfl rfl (Nat.le_of_ble_eq_true rfl) d_St_findLowest_99 (fun H locs hP hD hS => ?_)
            have hP : va_P (dC, dI) classes [(h_this, .inr (2, [.ref h_values, .int u_size, .int f_sets, .long (f_values x4.toNatClampNeg), .int x4, .int x4])), (h_values, .inl (cJ, 1024, .inr (.inl f_values)))] H := hP
            have hD : va_D A [(h_this, .inr (2, [.ref h_values, .int u_size, .int f_sets, .long (f_values x4.toNatClampNeg), .int x4, .int x4])), (h_values, .inl (cJ, 1024, .inr (.inl f_values)))] := hD
            refine lv_goto (tgt := 127) hx hb d_St_findLowest_102 (by decide) ?_
            exact wk_St_findLowest_127 dC dI cI cJ cC A hA C0 hN h_this h_values u_size f_sets f_values post (fun (x1 : Int32) (x3 : Int32) (x4 : Int32) (f_lowest : Int64) (f_meet : Int32) (f_join : Int32) => wp_St_findLowest_29 f_sets f_values post n x1 x3 x4 f_lowest f_meet f_join) (fun x1 x3 x4 f_lowest f_meet f_join h => ih x1 x3 x4 f_lowest f_meet f_join h) x1 x3 x4 (f_values x4.toNatClampNeg) x4 x4 h _ _ _ hP hD hS (lv_sub hl [0, 1, 2, 3] rfl)
        · have h := h.2 c_
          refine lv_goto (tgt := 127) hx hb d_St_findLowest_61 (by decide) ?_
          exact wk_St_findLowest_127 dC dI cI cJ cC A hA C0 hN h_this h_values u_size f_sets f_values post (fun (x1 : Int32) (x3 : Int32) (x4 : Int32) (f_lowest : Int64) (f_meet : Int32) (f_join : Int32) => wp_St_findLowest_29 f_sets f_values post n x1 x3 x4 f_lowest f_meet f_join) (fun x1 x3 x4 f_lowest f_meet f_join h => ih x1 x3 x4 f_lowest f_meet f_join h) x1 x3 x4 f_lowest f_meet f_join h _ _ _ hP hD hS (lv_sub hl [0, 1, 2, 3] rfl)
def wp_St_findLowest_0 (f_sets : Int32) (f_values : Nat → Int64) (post : Int64 → Int32 → Int32 → Prop)  (x1 : Int32) (x2 : Int32) (f_lowest : Int64) (f_meet : Int32) (f_join : Int32) : Prop := (vp_in x1 1024) ∧ (∃ n_ : Nat, wp_St_findLowest_29 f_sets f_values post n_ x1 (x1 ||| x2) (x1 + (1 : Int32)) (f_values x1.toNatClampNeg) x1 x1)
set_option maxHeartbeats 4000000 in
set_option maxRecDepth 100000 in
theorem wk_St_findLowest_0 {p : Program} {l : Launch} {e : Env} {s : State} {m : MethodId} {args : Array Value} {below : List Frame} {meth : Method} {c : Code} (dC : Nat → ClassId) (dI : Nat → Nat → Nat) (cI cJ cC : ClassId) (A : Nat → Prop) (hA : ∀ q : Nat, s.heap.size ≤ q → A q) (C0 : gx_C p s m meth c args "LeanSets$SetTable" prog_4_method_7_code 5 (Option.none : Option Jvm.ClassFile.FieldType)) (hN : gx_K dC dI cI cJ cC s)  (h_this h_values : Nat) (u_size : Int32) (f_sets : Int32) (f_values : Nat → Int64) (post : Int64 → Int32 → Int32 → Prop)   : ∀ (x1 : Int32) (x2 : Int32) (f_lowest : Int64) (f_meet : Int32) (f_join : Int32), wp_St_findLowest_0 f_sets f_values post x1 x2 f_lowest f_meet f_join → ∀ (H : Heap) (locs : List Loc) (ls : Array Slot), va_P (dC, dI) classes [(h_this, .inr (2, [.ref h_values, .int u_size, .int f_sets, .long f_lowest, .int f_meet, .int f_join])), (h_values, .inl (cJ, 1024, .inr (.inl f_values)))] H → va_D A [(h_this, .inr (2, [.ref h_values, .int u_size, .int f_sets, .long f_lowest, .int f_meet, .int f_join])), (h_values, .inl (cJ, 1024, .inr (.inl f_values)))] → va_S A s.heap H locs → lv_has ls 5 [(0, .ref h_this), (1, .int x1), (2, .int x2)] → W p l e { frames := 0, cells := 0, slots := 0, locals := 0 } s m args below meth c H locs 0 0 (MQ below (va_Qv (fun (u : Int64 × Int32 × Int32) => post u.1 u.2.1 u.2.2) (fun (u : Int64 × Int32 × Int32) (t : State) => va_P (dC, dI) classes [(h_this, .inr (2, [.ref h_values, .int u_size, .int f_sets, .long u.1, .int u.2.1, .int u.2.2])), (h_values, .inl (cJ, 1024, .inr (.inl f_values)))] t.heap ∧ va_D A [(h_this, .inr (2, [.ref h_values, .int u_size, .int f_sets, .long u.1, .int u.2.1, .int u.2.2])), (h_values, .inl (cJ, 1024, .inr (.inl f_values)))]) A) args s 0 0 A) (F0 m 0 ls []) := by
  obtain ⟨hx, hb, hr, hml, hown, hlocks, hG⟩ := id C0
  have hK := hN.1
  intro x1 x2 f_lowest f_meet f_join h H locs ls hP hD hS hl
  rw [wp_St_findLowest_0] at h
  refine lv_iload_n hx hb d_St_findLowest_0 rfl (lv_at hl 1 rfl) ?_
  refine lv_iload_n hx hb d_St_findLowest_1 rfl (lv_at hl 2 rfl) ?_
  refine lv_ior hx hb d_St_findLowest_2 ?_
  refine lv_istore_n (lv' := [(3, .int (x1 ||| x2)), (0, .ref h_this), (1, .int x1), (2, .int x2)]) hx hb d_St_findLowest_3 rfl hl (by decide) rfl (fun ls hl => ?_)
  refine lv_aload_n hx hb d_St_findLowest_4 rfl (lv_at hl 1 rfl) ?_
  refine lv_aload_n hx hb d_St_findLowest_5 rfl (lv_at hl 1 rfl) ?_
  refine va_get (D := (dC, dI)) (ci := 2) (v := .ref h_values) (C := "LeanSets$SetTable") (T := T_St) (N := 6) hx hb hG in_St hown hK hP 0 rfl rfl 0 (Nat.le_of_ble_eq_true rfl) (hG _ mw_128) (fun _ h9 => h9) rfl d_St_findLowest_6 ?_
  refine lv_iload_n hx hb d_St_findLowest_9 rfl (lv_at hl 2 rfl) ?_
  obtain ⟨g_, h⟩ := h
  refine va_lald hx hb hK hP 1 1 rfl rfl g_ d_St_findLowest_10 ?_
  refine va_put (D := (dC, dI)) (ci := 2) (v := .long (f_values x1.toNatClampNeg)) (ty := .long) (C := "LeanSets$SetTable") (T := T_St) (N := 6) hx hb hG in_St ty_St ty_St_ok nm_St hown hK hP hD hS 0 rfl rfl 3 (Nat.le_of_ble_eq_true rfl) (hG _ mw_139) (fun _ h9 => h9) rfl (ty_St_ok 3 (Nat.le_of_ble_eq_true rfl)) rfl rfl (Nat.le_of_ble_eq_true rfl) d_St_findLowest_11 (fun H locs hP hD hS => ?_)
  have hP : va_P (dC, dI) classes [(h_this, .inr (2, [.ref h_values, .int u_size, .int f_sets, .long (f_values x1.toNatClampNeg), .int f_meet, .int f_join])), (h_values, .inl (cJ, 1024, .inr (.inl f_values)))] H := hP
  have hD : va_D A [(h_this, .inr (2, [.ref h_values, .int u_size, .int f_sets, .long (f_values x1.toNatClampNeg), .int f_meet, .int f_join])), (h_values, .inl (cJ, 1024, .inr (.inl f_values)))] := hD
  refine lv_aload_n hx hb d_St_findLowest_14 rfl (lv_at hl 1 rfl) ?_
  refine lv_iload_n hx hb d_St_findLowest_15 rfl (lv_at hl 2 rfl) ?_
  refine va_put (D := (dC, dI)) (ci := 2) (v := .int x1) (ty := .int) (C := "LeanSets$SetTable") (T := T_St) (N := 6) hx hb hG in_St ty_St ty_St_ok nm_St hown hK hP hD hS 0 rfl rfl 4 (Nat.le_of_ble_eq_true rfl) (hG _ mw_141) (fun _ h9 => h9) rfl (ty_St_ok 4 (Nat.le_of_ble_eq_true rfl)) rfl rfl (Nat.le_of_ble_eq_true rfl) d_St_findLowest_16 (fun H locs hP hD hS => ?_)
  have hP : va_P (dC, dI) classes [(h_this, .inr (2, [.ref h_values, .int u_size, .int f_sets, .long (f_values x1.toNatClampNeg), .int x1, .int f_join])), (h_values, .inl (cJ, 1024, .inr (.inl f_values)))] H := hP
  have hD : va_D A [(h_this, .inr (2, [.ref h_values, .int u_size, .int f_sets, .long (f_values x1.toNatClampNeg), .int x1, .int f_join])), (h_values, .inl (cJ, 1024, .inr (.inl f_values)))] := hD
  refine lv_aload_n hx hb d_St_findLowest_19 rfl (lv_at hl 1 rfl) ?_
  refine lv_iload_n hx hb d_St_findLowest_20 rfl (lv_at hl 2 rfl) ?_
  refine va_put (D := (dC, dI)) (ci := 2) (v := .int x1) (ty := .int) (C := "LeanSets$SetTable") (T := T_St) (N := 6) hx hb hG in_St ty_St ty_St_ok nm_St hown hK hP hD hS 0 rfl rfl 5 (Nat.le_of_ble_eq_true rfl) (hG _ mw_143) (fun _ h9 => h9) rfl (ty_St_ok 5 (Nat.le_of_ble_eq_true rfl)) rfl rfl (Nat.le_of_ble_eq_true rfl) d_St_findLowest_21 (fun H locs hP hD hS => ?_)
  have hP : va_P (dC, dI) classes [(h_this, .inr (2, [.ref h_values, .int u_size, .int f_sets, .long (f_values x1.toNatClampNeg), .int x1, .int x1])), (h_values, .inl (cJ, 1024, .inr (.inl f_values)))] H := hP
  have hD : va_D A [(h_this, .inr (2, [.ref h_values, .int u_size, .int f_sets, .long (f_values x1.toNatClampNeg), .int x1, .int x1])), (h_values, .inl (cJ, 1024, .inr (.inl f_values)))] := hD
  refine lv_iload_n hx hb d_St_findLowest_24 rfl (lv_at hl 2 rfl) ?_
  refine lv_iconst (v := 1) hx hb d_St_findLowest_25 (by decide) ?_
  refine lv_iadd hx hb d_St_findLowest_26 ?_
  refine lv_istore (lv' := [(4, .int (x1 + (1 : Int32))), (3, .int (x1 ||| x2)), (0, .ref h_this), (1, .int x1), (2, .int x2)]) hx hb d_St_findLowest_27 hl (by decide) rfl (fun ls hl => ?_)
  obtain ⟨n_, h⟩ := h
  exact wk_St_findLowest_29 dC dI cI cJ cC A hA C0 hN h_this h_values u_size f_sets f_values post   n_ x1 (x1 ||| x2) (x1 + (1 : Int32)) (f_values x1.toNatClampNeg) x1 x1 h _ _ _ hP hD hS (lv_sub hl [2, 3, 1, 0] rfl)
set_option maxHeartbeats 4000000 in
set_option maxRecDepth 100000 in
theorem c_St_findLowest (l : Launch) (dC : Nat → ClassId) (dI : Nat → Nat → Nat) (cI cJ cC : ClassId) (h_this h_values : Nat) (u_size : Int32) (f_sets : Int32) (f_values : Nat → Int64) (post : Int64 → Int32 → Int32 → Prop) (x1 : Int32) (x2 : Int32) (f_lowest : Int64) (f_meet : Int32) (f_join : Int32) (sz : Nat) (h : wp_St_findLowest_0 f_sets f_values post x1 x2 f_lowest f_meet f_join) : Met l y_St_findLowest (.code y_St_findLowest prog_4_method_7_code 5 (Option.none : Option Jvm.ClassFile.FieldType) :: gx_G) ({ frames := 0, cells := 0, slots := 0, locals := 0 }) (va_Pc [.ref h_this, .int x1, .int x2] (fun U => U.heap.size = sz ∧ va_P (dC, dI) classes [(h_this, .inr (2, [.ref h_values, .int u_size, .int f_sets, .long f_lowest, .int f_meet, .int f_join])), (h_values, .inl (cJ, 1024, .inr (.inl f_values)))] U.heap ∧ gx_K dC dI cI cJ cC U ∧ va_D (fun _ => True) [(h_this, .inr (2, [.ref h_values, .int u_size, .int f_sets, .long f_lowest, .int f_meet, .int f_join])), (h_values, .inl (cJ, 1024, .inr (.inl f_values)))])) (va_Qv (fun (u : Int64 × Int32 × Int32) => post u.1 u.2.1 u.2.2) (fun (u : Int64 × Int32 × Int32) (t : State) => va_P (dC, dI) classes [(h_this, .inr (2, [.ref h_values, .int u_size, .int f_sets, .long u.1, .int u.2.1, .int u.2.2])), (h_values, .inl (cJ, 1024, .inr (.inl f_values)))] t.heap ∧ va_D (va_A [(h_this, .inr (2, [.ref h_values, .int u_size, .int f_sets, .long f_lowest, .int f_meet, .int f_join])), (h_values, .inl (cJ, 1024, .inr (.inl f_values)))] sz) [(h_this, .inr (2, [.ref h_values, .int u_size, .int f_sets, .long u.1, .int u.2.1, .int u.2.2])), (h_values, .inl (cJ, 1024, .inr (.inl f_values)))]) (va_A [(h_this, .inr (2, [.ref h_values, .int u_size, .int f_sets, .long f_lowest, .int f_meet, .int f_join])), (h_values, .inl (cJ, 1024, .inr (.inl f_values)))] sz)) 0 0 (va_A [(h_this, .inr (2, [.ref h_values, .int u_size, .int f_sets, .long f_lowest, .int f_meet, .int f_join])), (h_values, .inl (cJ, 1024, .inr (.inl f_values)))] sz) := by
  refine Met.ofW (cc := prog_4_method_7_code) (maxL := 5) (ret := (Option.none : Option Jvm.ClassFile.FieldType)) (by decide +kernel) rfl ?_
  intro p e s m args below meth c s₁ B hml hv
  obtain ⟨rfl, hsz, hP, hN, hD0⟩ := hv
  have hts := atoms_spec (ws := (.code y_St_findLowest prog_4_method_7_code 5 (Option.none : Option Jvm.ClassFile.FieldType) :: gx_G)) B.pre
  have C0 : gx_C p s m meth c _ "LeanSets$SetTable" prog_4_method_7_code 5 (Option.none : Option Jvm.ClassFile.FieldType) := ⟨B.exec, B.bytes, B.returns, hml, findClass_of_methodNamed B.named, B.notSynchronized, fun w hw => hts w (List.mem_cons_of_mem _ hw)⟩
  subst hsz
  have hD := hD0.self (sz := s.heap.size)
  generalize hAe : va_A [(h_this, .inr (2, [.ref h_values, .int u_size, .int f_sets, .long f_lowest, .int f_meet, .int f_join])), (h_values, .inl (cJ, 1024, .inr (.inl f_values)))] s.heap.size = A at hD ⊢
  have hA : ∀ q : Nat, s.heap.size ≤ q → A q := fun q h => by rw [← hAe]; exact Or.inr h
  have hl := lv_entry ([.ref h_this, .int x1, .int x2]) (n := 5) (Nat.le_of_ble_eq_true rfl)
  rw [lg_entry_eq]
  generalize (lg_sl ([.ref h_this, .int x1, .int x2]) ++ List.replicate (5 - (lg_sl ([.ref h_this, .int x1, .int x2])).length) Slot.unset).toArray = ls at hl ⊢
  exact wk_St_findLowest_0 dC dI cI cJ cC A hA C0 hN h_this h_values u_size f_sets f_values post x1 x2 f_lowest f_meet f_join h s.heap [] ls hP hD va_S.rf hl
