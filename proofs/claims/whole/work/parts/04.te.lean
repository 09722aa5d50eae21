/-! LeanSets$Terms.open(III)V -/
def y_Te_open : MethodName := ⟨"LeanSets$Terms", "open", "(III)V"⟩
theorem d_Te_open_0 : decode prog_5_method_2_code 0 = .ok (.aload_n 0, 1) := by decide +kernel
theorem d_Te_open_1 : decode prog_5_method_2_code 1 = .ok (.getfield 24, 3) := by decide +kernel
theorem d_Te_open_4 : decode prog_5_method_2_code 4 = .ok (.bipush 30, 2) := by decide +kernel
theorem d_Te_open_6 : decode prog_5_method_2_code 6 = .ok (.if_icmp .ge 43, 3) := by decide +kernel
theorem d_Te_open_9 : decode prog_5_method_2_code 9 = .ok (.aload_n 0, 1) := by decide +kernel
theorem d_Te_open_10 : decode prog_5_method_2_code 10 = .ok (.getfield 9, 3) := by decide +kernel
theorem d_Te_open_13 : decode prog_5_method_2_code 13 = .ok (.aload_n 0, 1) := by decide +kernel
theorem d_Te_open_14 : decode prog_5_method_2_code 14 = .ok (.getfield 24, 3) := by decide +kernel
theorem d_Te_open_17 : decode prog_5_method_2_code 17 = .ok (.iload_n 1, 1) := by decide +kernel
theorem d_Te_open_18 : decode prog_5_method_2_code 18 = .ok (.iastore, 1) := by decide +kernel
theorem d_Te_open_19 : decode prog_5_method_2_code 19 = .ok (.aload_n 0, 1) := by decide +kernel
theorem d_Te_open_20 : decode prog_5_method_2_code 20 = .ok (.getfield 15, 3) := by decide +kernel
theorem d_Te_open_23 : decode prog_5_method_2_code 23 = .ok (.aload_n 0, 1) := by decide +kernel
theorem d_Te_open_24 : decode prog_5_method_2_code 24 = .ok (.getfield 24, 3) := by decide +kernel
theorem d_Te_open_27 : decode prog_5_method_2_code 27 = .ok (.iload_n 2, 1) := by decide +kernel
theorem d_Te_open_28 : decode prog_5_method_2_code 28 = .ok (.iastore, 1) := by decide +kernel
theorem d_Te_open_29 : decode prog_5_method_2_code 29 = .ok (.aload_n 0, 1) := by decide +kernel
theorem d_Te_open_30 : decode prog_5_method_2_code 30 = .ok (.getfield 18, 3) := by decide +kernel
theorem d_Te_open_33 : decode prog_5_method_2_code 33 = .ok (.aload_n 0, 1) := by decide +kernel
theorem d_Te_open_34 : decode prog_5_method_2_code 34 = .ok (.getfield 24, 3) := by decide +kernel
theorem d_Te_open_37 : decode prog_5_method_2_code 37 = .ok (.iload_n 3, 1) := by decide +kernel
theorem d_Te_open_38 : decode prog_5_method_2_code 38 = .ok (.iastore, 1) := by decide +kernel
theorem d_Te_open_39 : decode prog_5_method_2_code 39 = .ok (.aload_n 0, 1) := by decide +kernel
theorem d_Te_open_40 : decode prog_5_method_2_code 40 = .ok (.dup, 1) := by decide +kernel
theorem d_Te_open_41 : decode prog_5_method_2_code 41 = .ok (.getfield 24, 3) := by decide +kernel
theorem d_Te_open_44 : decode prog_5_method_2_code 44 = .ok (.iconst 1, 1) := by decide +kernel
theorem d_Te_open_45 : decode prog_5_method_2_code 45 = .ok (.iadd, 1) := by decide +kernel
theorem d_Te_open_46 : decode prog_5_method_2_code 46 = .ok (.putfield 24, 3) := by decide +kernel
theorem d_Te_open_49 : decode prog_5_method_2_code 49 = .ok (.return_, 1) := by decide +kernel
def wp_Te_open_49  (post : Int32 → (Nat → Int32) → (Nat → Int32) → (Nat → Int32) → Prop)  (f_length : Int32) (f_kinds : Nat → Int32) (f_ins : Nat → Int32) (f_outs : Nat → Int32) : Prop := post f_length f_kinds f_ins f_outs
set_option maxHeartbeats 4000000 in
set_option maxRecDepth 100000 in
theorem wk_Te_open_49 {p : Program} {l : Launch} {e : Env} {s : State} {m : MethodId} {args : Array Value} {below : List Frame} {meth : Method} {c : Code} (dC : Nat → ClassId) (dI : Nat → Nat → Nat) (cI cJ cC : ClassId) (A : Nat → Prop) (hA : ∀ q : Nat, s.heap.size ≤ q → A q) (C0 : gx_C p s m meth c args "LeanSets$Terms" prog_5_method_2_code 4 (Option.none : Option Jvm.ClassFile.FieldType)) (hN : gx_K dC dI cI cJ cC s)  (h_this h_kinds h_ins h_outs h_values : Nat) (u_size : Int32) (post : Int32 → (Nat → Int32) → (Nat → Int32) → (Nat → Int32) → Prop)   : ∀ (f_length : Int32) (f_kinds : Nat → Int32) (f_ins : Nat → Int32) (f_outs : Nat → Int32), wp_Te_open_49 post f_length f_kinds f_ins f_outs → ∀ (H : Heap) (locs : List Loc) (ls : Array Slot), va_P (dC, dI) classes [(h_this, .inr (3, [.int u_size, .int f_length, .ref h_kinds, .ref h_ins, .ref h_outs, .ref h_values])), (h_kinds, .inl (cI, 30, .inl f_kinds)), (h_ins, .inl (cI, 30, .inl f_ins)), (h_outs, .inl (cI, 30, .inl f_outs))] H → va_D A [(h_this, .inr (3, [.int u_size, .int f_length, .ref h_kinds, .ref h_ins, .ref h_outs, .ref h_values])), (h_kinds, .inl (cI, 30, .inl f_kinds)), (h_ins, .inl (cI, 30, .inl f_ins)), (h_outs, .inl (cI, 30, .inl f_outs))] → va_S A s.heap H locs → lv_has ls 4 [] → W p l e { frames := 0, cells := 0, slots := 0, locals := 0 } s m args below meth c H locs 0 0 (MQ below (va_Qv (fun (u : Int32 × (Nat → Int32) × (Nat → Int32) × (Nat → Int32)) => post u.1 u.2.1 u.2.2.1 u.2.2.2) (fun (u : Int32 × (Nat → Int32) × (Nat → Int32) × (Nat → Int32)) (t : State) => va_P (dC, dI) classes [(h_this, .inr (3, [.int u_size, .int u.1, .ref h_kinds, .ref h_ins, .ref h_outs, .ref h_values])), (h_kinds, .inl (cI, 30, .inl u.2.1)), (h_ins, .inl (cI, 30, .inl u.2.2.1)), (h_outs, .inl (cI, 30, .inl u.2.2.2))] t.heap ∧ va_D A [(h_this, .inr (3, [.int u_size, .int u.1, .ref h_kinds, .ref h_ins, .ref h_outs, .ref h_values])), (h_kinds, .inl (cI, 30, .inl u.2.1)), (h_ins, .inl (cI, 30, .inl u.2.2.1)), (h_outs, .inl (cI, 30, .inl u.2.2.2))]) A) args s 0 0 A) (F0 m 49 ls []) := by
  obtain ⟨hx, hb, hr, hml, hown, hlocks, hG⟩ := id C0
  have hK := hN.1
  intro f_length f_kinds f_ins f_outs h H locs ls hP hD hS hl
  rw [wp_Te_open_49] at h
  exact W.vret hx hb hr (fun t ht hW => ⟨⟨(f_length, f_kinds, f_ins, f_outs), rfl, h, by rw [ht]; exact hP, hD⟩, hS.F ht⟩) hS.2.2 d_Te_open_49 hlocks
def wp_Te_open_0  (post : Int32 → (Nat → Int32) → (Nat → Int32) → (Nat → Int32) → Prop)  (x1 : Int32) (x2 : Int32) (x3 : Int32) (f_length : Int32) (f_kinds : Nat → Int32) (f_ins : Nat → Int32) (f_outs : Nat → Int32) : Prop := (((30 : Int32) ≤ f_length) → (wp_Te_open_49 post f_length f_kinds f_ins f_outs)) ∧ ((¬ ((30 : Int32) ≤ f_length)) → ((vp_in f_length 30) ∧ ((vp_in f_length 30) ∧ ((vp_in f_length 30) ∧ (wp_Te_open_49 post (f_length + (1 : Int32)) (upd f_kinds f_length.toNatClampNeg x1) (upd f_ins f_length.toNatClampNeg x2) (upd f_outs f_length.toNatClampNeg x3))))))
set_option maxHeartbeats 4000000 in
set_option maxRecDepth 100000 in
theorem wk_Te_open_0 {p : Program} {l : Launch} {e : Env} {s : State} {m : MethodId} {args : Array Value} {below : List Frame} {meth : Method} {c : Code} (dC : Nat → ClassId) (dI : Nat → Nat → Nat) (cI cJ cC : ClassId) (A : Nat → Prop) (hA : ∀ q : Nat, s.heap.size ≤ q → A q) (C0 : gx_C p s m meth c args "LeanSets$Terms" prog_5_method_2_code 4 (Option.none : Option Jvm.ClassFile.FieldType)) (hN : gx_K dC dI cI cJ cC s)  (h_this h_kinds h_ins h_outs h_values : Nat) (u_size : Int32) (post : Int32 → (Nat → Int32) → (Nat → Int32) → (Nat → Int32) → Prop)   : ∀ (x1 : Int32) (x2 : Int32) (x3 : Int32) (f_length : Int32) (f_kinds : Nat → Int32) (f_ins : Nat → Int32) (f_outs : Nat → Int32), wp_Te_open_0 post x1 x2 x3 f_length f_kinds f_ins f_outs → ∀ (H : Heap) (locs : List Loc) (ls : Array Slot), va_P (dC, dI) classes [(h_this, .inr (3, [.int u_size, .int f_length, .ref h_kinds, .ref h_ins, .ref h_outs, .ref h_values])), (h_kinds, .inl (cI, 30, .inl f_kinds)), (h_ins, .inl (cI, 30, .inl f_ins)), (h_outs, .inl (cI, 30, .inl f_outs))] H → va_D A [(h_this, .inr (3, [.int u_size, .int f_length, .ref h_kinds, .ref h_ins, .ref h_outs, .ref h_values])), (h_kinds, .inl (cI, 30, .inl f_kinds)), (h_ins, .inl (cI, 30, .inl f_ins)), (h_outs, .inl (cI, 30, .inl f_outs))] → va_S A s.heap H locs → lv_has ls 4 [(0, .ref h_this), (1, .int x1), (2, .int x2), (3, .int x3)] → W p l e { frames := 0, cells := 0, slots := 0, locals := 0 } s m args below meth c H locs 0 0 (MQ below (va_Qv (fun (u : Int32 × (Nat → Int32) × (Nat → Int32) × (Nat → Int32)) => post u.1 u.2.1 u.2.2.1 u.2.2.2) (fun (u : Int32 × (Nat → Int32) × (Nat → Int32) × (Nat → Int32)) (t : State) => va_P (dC, dI) classes [(h_this, .inr (3, [.int u_size, .int u.1, .ref h_kinds, .ref h_ins, .ref h_outs, .ref h_values])), (h_kinds, .inl (cI, 30, .inl u.2.1)), (h_ins, .inl (cI, 30, .inl u.2.2.1)), (h_outs, .inl (cI, 30, .inl u.2.2.2))] t.heap ∧ va_D A [(h_this, .inr (3, [.int u_size, .int u.1, .ref h_kinds, .ref h_ins, .ref h_outs, .ref h_values])), (h_kinds, .inl (cI, 30, .inl u.2.1)), (h_ins, .inl (cI, 30, .inl u.2.2.1)), (h_outs, .inl (cI, 30, .inl u.2.2.2))]) A) args s 0 0 A) (F0 m 0 ls []) := by
  obtain ⟨hx, hb, hr, hml, hown, hlocks, hG⟩ := id C0
  have hK := hN.1
  intro x1 x2 x3 f_length f_kinds f_ins f_outs h H locs ls hP hD hS hl
  rw [wp_Te_open_0] at h
  refine lv_aload_n hx hb d_Te_open_0 rfl (lv_at hl 0 rfl) ?_
  refine va_get (D := (dC, dI)) (ci := 3) (v := .int f_length) (C := "LeanSets$Terms") (T := T_Te) (N := 6) hx hb hG in_Te hown hK hP 0 rfl rfl 1 (Nat.le_of_ble_eq_true rfl) (hG _ mw_75) (fun _ h9 => h9) rfl d_Te_open_1 ?_
  refine lv_bipush (v := 30) hx hb d_Te_open_4 (by decide) ?_
  refine lv_icmp_ge (tgt := 49) hx hb d_Te_open_6 (by decide) (fun c_ => ?_) (fun c_ => ?_)
  · have h := h.1 c_
    exact wk_Te_open_49 dC dI cI cJ cC A hA C0 hN h_this h_kinds h_ins h_outs h_values u_size post   f_length f_kinds f_ins f_outs h _ _ _ hP hD hS (lv_sub hl [] rfl)
  · have h := h.2 c_
    refine lv_aload_n hx hb d_Te_open_9 rfl (lv_at hl 0 rfl) ?_
    refine va_get (D := (dC, dI)) (ci := 3) (v := .ref h_kinds) (C := "LeanSets$Terms") (T := T_Te) (N := 6) hx hb hG in_Te hown hK hP 0 rfl rfl 2 (Nat.le_of_ble_eq_true rfl) (hG _ mw_78) (fun _ h9 => h9) rfl d_Te_open_10 ?_
    refine lv_aload_n hx hb d_Te_open_13 rfl (lv_at hl 0 rfl) ?_
    refine va_get (D := (dC, dI)) (ci := 3) (v := .int f_length) (C := "LeanSets$Terms") (T := T_Te) (N := 6) hx hb hG in_Te hown hK hP 0 rfl rfl 1 (Nat.le_of_ble_eq_true rfl) (hG _ mw_75) (fun _ h9 => h9) rfl d_Te_open_14 ?_
    refine lv_iload_n hx hb d_Te_open_17 rfl (lv_at hl 1 rfl) ?_
    obtain ⟨g_, h⟩ := h
    refine va_iast hx hb hK hP hD hS 1 0 rfl rfl g_ d_Te_open_18 (fun H locs hP hD hS => ?_)
    have hP : va_P (dC, dI) classes [(h_this, .inr (3, [.int u_size, .int f_length, .ref h_kinds, .ref h_ins, .ref h_outs, .ref h_values])), (h_kinds, .inl (cI, 30, .inl (upd f_kinds f_length.toNatClampNeg x1))), (h_ins, .inl (cI, 30, .inl f_ins)), (h_outs, .inl (cI, 30, .inl f_outs))] H := hP
    have hD : va_D A [(h_this, .inr (3, [.int u_size, .int f_length, .ref h_kinds, .ref h_ins, .ref h_outs, .ref h_values])), (h_kinds, .inl (cI, 30, .inl (upd f_kinds f_length.toNatClampNeg x1))), (h_ins, .inl (cI, 30, .inl f_ins)), (h_outs, .inl (cI, 30, .inl f_outs))] := hD
    refine lv_aload_n hx hb d_Te_open_19 rfl (lv_at hl 0 rfl) ?_
    refine va_get (D := (dC, dI)) (ci := 3) (v := .ref h_ins) (C := "LeanSets$Terms") (T := T_Te) (N := 6) hx hb hG in_Te hown hK hP 0 rfl rfl 3 (Nat.le_of_ble_eq_true rfl) (hG _ mw_80) (fun _ h9 => h9) rfl d_Te_open_20 ?_
    refine lv_aload_n hx hb d_Te_open_23 rfl (lv_at hl 0 rfl) ?_
    refine va_get (D := (dC, dI)) (ci := 3) (v := .int f_length) (C := "LeanSets$Terms") (T := T_Te) (N := 6) hx hb hG in_Te hown hK hP 0 rfl rfl 1 (Nat.le_of_ble_eq_true rfl) (hG _ mw_75) (fun _ h9 => h9) rfl d_Te_open_24 ?_
    refine lv_iload_n hx hb d_Te_open_27 rfl (lv_at hl 2 rfl) ?_
    obtain ⟨g_, h⟩ := h
    refine va_iast hx hb hK hP hD hS 2 0 rfl rfl g_ d_Te_open_28 (fun H locs hP hD hS => ?_)
    have hP : va_P (dC, dI) classes [(h_this, .inr (3, [.int u_size, .int f_length, .ref h_kinds, .ref h_ins, .ref h_outs, .ref h_values])), (h_kinds, .inl (cI, 30, .inl (upd f_kinds f_length.toNatClampNeg x1))), (h_ins, .inl (cI, 30, .inl (upd f_ins f_length.toNatClampNeg x2))), (h_outs, .inl (cI, 30, .inl f_outs))] H := hP
    have hD : va_D A [(h_this, .inr (3, [.int u_size, .int f_length, .ref h_kinds, .ref h_ins, .ref h_outs, .ref h_values])), (h_kinds, .inl (cI, 30, .inl (upd f_kinds f_length.toNatClampNeg x1))), (h_ins, .inl (cI, 30, .inl (upd f_ins f_length.toNatClampNeg x2))), (h_outs, .inl (cI, 30, .inl f_outs))] := hD
    refine lv_aload_n hx hb d_Te_open_29 rfl (lv_at hl 0 rfl) ?_
    refine va_get (D := (dC, dI)) (ci := 3) (v := .ref h_outs) (C := "LeanSets$Terms") (T := T_Te) (N := 6) hx hb hG in_Te hown hK hP 0 rfl rfl 4 (Nat.le_of_ble_eq_true rfl) (hG _ mw_81) (fun _ h9 => h9) rfl d_Te_open_30 ?_
    refine lv_aload_n hx hb d_Te_open_33 rfl (lv_at hl 0 rfl) ?_
    refine va_get (D := (dC, dI)) (ci := 3) (v := .int f_length) (C := "LeanSets$Terms") (T := T_Te) (N := 6) hx hb hG in_Te hown hK hP 0 rfl rfl 1 (Nat.le_of_ble_eq_true rfl) (hG _ mw_75) (fun _ h9 => h9) rfl d_Te_open_34 ?_
    refine lv_iload_n hx hb d_Te_open_37 rfl (lv_at hl 3 rfl) ?_
    obtain ⟨g_, h⟩ := h
    refine va_iast hx hb hK hP hD hS 3 0 rfl rfl g_ d_Te_open_38 (fun H locs hP hD hS => ?_)
    have hP : va_P (dC, dI) classes [(h_this, .inr (3, [.int u_size, .int f_length, .ref h_kinds, .ref h_ins, .ref h_outs, .ref h_values])), (h_kinds, .inl (cI, 30, .inl (upd f_kinds f_length.toNatClampNeg x1))), (h_ins, .inl (cI, 30, .inl (upd f_ins f_length.toNatClampNeg x2))), (h_outs, .inl (cI, 30, .inl (upd f_outs f_length.toNatClampNeg x3)))] H := hP
    have hD : va_D A [(h_this, .inr (3, [.int u_size, .int f_length, .ref h_kinds, .ref h_ins, .ref h_outs, .ref h_values])), (h_kinds, .inl (cI, 30, .inl (upd f_kinds f_length.toNatClampNeg x1))), (h_ins, .inl (cI, 30, .inl (upd f_ins f_length.toNatClampNeg x2))), (h_outs, .inl (cI, 30, .inl (upd f_outs f_length.toNatClampNeg x3)))] := hD
    refine lv_aload_n hx hb d_Te_open_39 rfl (lv_at hl 0 rfl) ?_
    refine lv_dup hx hb d_Te_open_40 rfl ?_
    refine va_get (D := (dC, dI)) (ci := 3) (v := .int f_length) (C := "LeanSets$Terms") (T := T_Te) (N := 6) hx hb hG in_Te hown hK hP 0 rfl rfl 1 (Nat.le_of_ble_eq_true rfl) (hG _ mw_75) (fun _ h9 => h9) rfl d_Te_open_41 ?_
    refine lv_iconst (v := 1) hx hb d_Te_open_44 (by decide) ?_
    refine lv_iadd hx hb d_Te_open_45 ?_
    refine va_put (D := (dC, dI)) (ci := 3) (v := .int (f_length + (1 : Int32))) (ty := .int) (C := "LeanSets$Terms") (T := T_Te) (N := 6) hx hb hG in_Te ty_Te ty_Te_ok nm_Te hown hK hP hD hS 0 rfl rfl 1 (Nat.le_of_ble_eq_true rfl) (hG _ mw_75) (fun _ h9 => h9) rfl (ty_Te_ok 1 (Nat.le_of_ble_eq_true rfl)) rfl rfl (Nat.le_of_ble_eq_true rfl) d_Te_open_46 (fun H locs hP hD hS => ?_)
    have hP : va_P (dC, dI) classes [(h_this, .inr (3, [.int u_size, .int (f_length + (1 : Int32)), .ref h_kinds, .ref h_ins, .ref h_outs, .ref h_values])), (h_kinds, .inl (cI, 30, .inl (upd f_kinds f_length.toNatClampNeg x1))), (h_ins, .inl (cI, 30, .inl (upd f_ins f_length.toNatClampNeg x2))), (h_outs, .inl (cI, 30, .inl (upd f_outs f_length.toNatClampNeg x3)))] H := hP
    have hD : va_D A [(h_this, .inr (3, [.int u_size, .int (f_length + (1 : Int32)), .ref h_kinds, .ref h_ins, .ref h_outs, .ref h_values])), (h_kinds, .inl (cI, 30, .inl (upd f_kinds f_length.toNatClampNeg x1))), (h_ins, .inl (cI, 30, .inl (upd f_ins f_length.toNatClampNeg x2))), (h_outs, .inl (cI, 30, .inl (upd f_outs f_length.toNatClampNeg x3)))] := hD
    exact wk_Te_open_49 dC dI cI cJ cC A hA C0 hN h_this h_kinds h_ins h_outs h_values u_size post   (f_length + (1 : Int32)) (upd f_kinds f_length.toNatClampNeg x1) (upd f_ins f_length.toNatClampNeg x2) (upd f_outs f_length.toNatClampNeg x3) h _ _ _ hP hD hS (lv_sub hl [] rfl)
set_option maxHeartbeats 4000000 in
set_option maxRecDepth 100000 in
theorem c_Te_open (l : Launch) (dC : Nat → ClassId) (dI : Nat → Nat → Nat) (cI cJ cC : ClassId) (h_this h_kinds h_ins h_outs h_values : Nat) (u_size : Int32) (post : Int32 → (Nat → Int32) → (Nat → Int32) → (Nat → Int32) → Prop) (x1 : Int32) (x2 : Int32) (x3 : Int32) (f_length : Int32) (f_kinds : Nat → Int32) (f_ins : Nat → Int32) (f_outs : Nat → Int32) (sz : Nat) (h : wp_Te_open_0 post x1 x2 x3 f_length f_kinds f_ins f_outs) : Met l y_Te_open (.code y_Te_open prog_5_method_2_code 4 (Option.none : Option Jvm.ClassFile.FieldType) :: gx_G) ({ frames := 0, cells := 0, slots := 0, locals := 0 }) (va_Pc [.ref h_this, .int x1, .int x2, .int x3] (fun U => U.heap.size = sz ∧ va_P (dC, dI) classes [(h_this, .inr (3, [.int u_size, .int f_length, .ref h_kinds, .ref h_ins, .ref h_outs, .ref h_values])), (h_kinds, .inl (cI, 30, .inl f_kinds)), (h_ins, .inl (cI, 30, .inl f_ins)), (h_outs, .inl (cI, 30, .inl f_outs))] U.heap ∧ gx_K dC dI cI cJ cC U ∧ va_D (fun _ => True) [(h_this, .inr (3, [.int u_size, .int f_length, .ref h_kinds, .ref h_ins, .ref h_outs, .ref h_values])), (h_kinds, .inl (cI, 30, .inl f_kinds)), (h_ins, .inl (cI, 30, .inl f_ins)), (h_outs, .inl (cI, 30, .inl f_outs))])) (va_Qv (fun (u : Int32 × (Nat → Int32) × (Nat → Int32) × (Nat → Int32)) => post u.1 u.2.1 u.2.2.1 u.2.2.2) (fun (u : Int32 × (Nat → Int32) × (Nat → Int32) × (Nat → Int32)) (t : State) => va_P (dC, dI) classes [(h_this, .inr (3, [.int u_size, .int u.1, .ref h_kinds, .ref h_ins, .ref h_outs, .ref h_values])), (h_kinds, .inl (cI, 30, .inl u.2.1)), (h_ins, .inl (cI, 30, .inl u.2.2.1)), (h_outs, .inl (cI, 30, .inl u.2.2.2))] t.heap ∧ va_D (va_A [(h_this, .inr (3, [.int u_size, .int f_length, .ref h_kinds, .ref h_ins, .ref h_outs, .ref h_values])), (h_kinds, .inl (cI, 30, .inl f_kinds)), (h_ins, .inl (cI, 30, .inl f_ins)), (h_outs, .inl (cI, 30, .inl f_outs))] sz) [(h_this, .inr (3, [.int u_size, .int u.1, .ref h_kinds, .ref h_ins, .ref h_outs, .ref h_values])), (h_kinds, .inl (cI, 30, .inl u.2.1)), (h_ins, .inl (cI, 30, .inl u.2.2.1)), (h_outs, .inl (cI, 30, .inl u.2.2.2))]) (va_A [(h_this, .inr (3, [.int u_size, .int f_length, .ref h_kinds, .ref h_ins, .ref h_outs, .ref h_values])), (h_kinds, .inl (cI, 30, .inl f_kinds)), (h_ins, .inl (cI, 30, .inl f_ins)), (h_outs, .inl (cI, 30, .inl f_outs))] sz)) 0 0 (va_A [(h_this, .inr (3, [.int u_size, .int f_length, .ref h_kinds, .ref h_ins, .ref h_outs, .ref h_values])), (h_kinds, .inl (cI, 30, .inl f_kinds)), (h_ins, .inl (cI, 30, .inl f_ins)), (h_outs, .inl (cI, 30, .inl f_outs))] sz) := by
  refine Met.ofW (cc := prog_5_method_2_code) (maxL := 4) (ret := (Option.none : Option Jvm.ClassFile.FieldType)) (by decide +kernel) rfl ?_
  intro p e s m args below meth c s₁ B hml hv
  obtain ⟨rfl, hsz, hP, hN, hD0⟩ := hv
  have hts := atoms_spec (ws := (.code y_Te_open prog_5_method_2_code 4 (Option.none : Option Jvm.ClassFile.FieldType) :: gx_G)) B.pre
  have C0 : gx_C p s m meth c _ "LeanSets$Terms" prog_5_method_2_code 4 (Option.none : Option Jvm.ClassFile.FieldType) := ⟨B.exec, B.bytes, B.returns, hml, findClass_of_methodNamed B.named, B.notSynchronized, fun w hw => hts w (List.mem_cons_of_mem _ hw)⟩
  subst hsz
  have hD := hD0.self (sz := s.heap.size)
  generalize hAe : va_A [(h_this, .inr (3, [.int u_size, .int f_length, .ref h_kinds, .ref h_ins, .ref h_outs, .ref h_values])), (h_kinds, .inl (cI, 30, .inl f_kinds)), (h_ins, .inl (cI, 30, .inl f_ins)), (h_outs, .inl (cI, 30, .inl f_outs))] s.heap.size = A at hD ⊢
  have hA : ∀ q : Nat, s.heap.size ≤ q → A q := fun q h => by rw [← hAe]; exact Or.inr h
  have hl := lv_entry ([.ref h_this, .int x1, .int x2, .int x3]) (n := 4) (Nat.le_of_ble_eq_true rfl)
  rw [lg_entry_eq]
  generalize (lg_sl ([.ref h_this, .int x1, .int x2, .int x3]) ++ List.replicate (4 - (lg_sl ([.ref h_this, .int x1, .int x2, .int x3])).length) Slot.unset).toArray = ls at hl ⊢
  exact wk_Te_open_0 dC dI cI cJ cC A hA C0 hN h_this h_kinds h_ins h_outs h_values u_size post x1 x2 x3 f_length f_kinds f_ins f_outs h s.heap [] ls hP hD va_S.rf hl
/-! LeanSets$Terms.put(II)V -/
def y_Te_put : MethodName := ⟨"LeanSets$Terms", "put", "(II)V"⟩
theorem d_Te_put_0 : decode prog_5_method_3_code 0 = .ok (.aload_n 0, 1) := by decide +kernel
theorem d_Te_put_1 : decode prog_5_method_3_code 1 = .ok (.getfield 24, 3) := by decide +kernel
theorem d_Te_put_4 : decode prog_5_method_3_code 4 = .ok (.ifCond .le 26, 3) := by decide +kernel
theorem d_Te_put_7 : decode prog_5_method_3_code 7 = .ok (.iload_n 1, 1) := by decide +kernel
theorem d_Te_put_8 : decode prog_5_method_3_code 8 = .ok (.bipush 10, 2) := by decide +kernel
theorem d_Te_put_10 : decode prog_5_method_3_code 10 = .ok (.if_icmp .ge 20, 3) := by decide +kernel
theorem d_Te_put_13 : decode prog_5_method_3_code 13 = .ok (.aload_n 0, 1) := by decide +kernel
theorem d_Te_put_14 : decode prog_5_method_3_code 14 = .ok (.getfield 21, 3) := by decide +kernel
theorem d_Te_put_17 : decode prog_5_method_3_code 17 = .ok (.aload_n 0, 1) := by decide +kernel
theorem d_Te_put_18 : decode prog_5_method_3_code 18 = .ok (.getfield 24, 3) := by decide +kernel
theorem d_Te_put_21 : decode prog_5_method_3_code 21 = .ok (.iconst 1, 1) := by decide +kernel
theorem d_Te_put_22 : decode prog_5_method_3_code 22 = .ok (.isub, 1) := by decide +kernel
theorem d_Te_put_23 : decode prog_5_method_3_code 23 = .ok (.bipush 10, 2) := by decide +kernel
theorem d_Te_put_25 : decode prog_5_method_3_code 25 = .ok (.imul, 1) := by decide +kernel
theorem d_Te_put_26 : decode prog_5_method_3_code 26 = .ok (.iload_n 1, 1) := by decide +kernel
theorem d_Te_put_27 : decode prog_5_method_3_code 27 = .ok (.iadd, 1) := by decide +kernel
theorem d_Te_put_28 : decode prog_5_method_3_code 28 = .ok (.iload_n 2, 1) := by decide +kernel
theorem d_Te_put_29 : decode prog_5_method_3_code 29 = .ok (.iastore, 1) := by decide +kernel
theorem d_Te_put_30 : decode prog_5_method_3_code 30 = .ok (.return_, 1) := by decide +kernel
def wp_Te_put_30 (f_length : Int32) (post : (Nat → Int32) → Prop)  (f_values : Nat → Int32) : Prop := post f_values
set_option maxHeartbeats 4000000 in
set_option maxRecDepth 100000 in
theorem wk_Te_put_30 {p : Program} {l : Launch} {e : Env} {s : State} {m : MethodId} {args : Array Value} {below : List Frame} {meth : Method} {c : Code} (dC : Nat → ClassId) (dI : Nat → Nat → Nat) (cI cJ cC : ClassId) (A : Nat → Prop) (hA : ∀ q : Nat, s.heap.size ≤ q → A q) (C0 : gx_C p s m meth c args "LeanSets$Terms" prog_5_method_3_code 3 (Option.none : Option Jvm.ClassFile.FieldType)) (hN : gx_K dC dI cI cJ cC s)  (h_this h_values h_kinds h_ins h_outs : Nat) (u_size : Int32) (f_length : Int32) (post : (Nat → Int32) → Prop)   : ∀ (f_values : Nat → Int32), wp_Te_put_30 f_length post f_values → ∀ (H : Heap) (locs : List Loc) (ls : Array Slot), va_P (dC, dI) classes [(h_this, .inr (3, [.int u_size, .int f_length, .ref h_kinds, .ref h_ins, .ref h_outs, .ref h_values])), (h_values, .inl (cI, 300, .inl f_values))] H → va_D A [(h_this, .inr (3, [.int u_size, .int f_length, .ref h_kinds, .ref h_ins, .ref h_outs, .ref h_values])), (h_values, .inl (cI, 300, .inl f_values))] → va_S A s.heap H locs → lv_has ls 3 [] → W p l e { frames := 0, cells := 0, slots := 0, locals := 0 } s m args below meth c H locs 0 0 (MQ below (va_Qv (fun (u : (Nat → Int32)) => post u) (fun (u : (Nat → Int32)) (t : State) => va_P (dC, dI) classes [(h_this, .inr (3, [.int u_size, .int f_length, .ref h_kinds, .ref h_ins, .ref h_outs, .ref h_values])), (h_values, .inl (cI, 300, .inl u))] t.heap ∧ va_D A [(h_this, .inr (3, [.int u_size, .int f_length, .ref h_kinds, .ref h_ins, .ref h_outs, .ref h_values])), (h_values, .inl (cI, 300, .inl u))]) A) args s 0 0 A) (F0 m 30 ls []) := by
  obtain ⟨hx, hb, hr, hml, hown, hlocks, hG⟩ := id C0
  have hK := hN.1
  intro f_values h H locs ls hP hD hS hl
  rw [wp_Te_put_30] at h
  exact W.vret hx hb hr (fun t ht hW => ⟨⟨f_values, rfl, h, by rw [ht]; exact hP, hD⟩, hS.F ht⟩) hS.2.2 d_Te_put_30 hlocks
def wp_Te_put_0 (f_length : Int32) (post : (Nat → Int32) → Prop)  (x1 : Int32) (x2 : Int32) (f_values : Nat → Int32) : Prop := ((f_length ≤ 0) → (wp_Te_put_30 f_length post f_values)) ∧ ((¬ (f_length ≤ 0)) → ((((10 : Int32) ≤ x1) → (wp_Te_put_30 f_length post f_values)) ∧ ((¬ ((10 : Int32) ≤ x1)) → ((vp_in (((f_length - (1 : Int32)) * (10 : Int32)) + x1) 300) ∧ (wp_Te_put_30 f_length post (upd f_values (((f_length - (1 : Int32)) * (10 : Int32)) + x1).toNatClampNeg x2))))))
set_option maxHeartbeats 4000000 in
set_option maxRecDepth 100000 in
theorem wk_Te_put_0 {p : Program} {l : Launch} {e : Env} {s : State} {m : MethodId} {args : Array Value} {below : List Frame} {meth : Method} {c : Code} (dC : Nat → ClassId) (dI : Nat → Nat → Nat) (cI cJ cC : ClassId) (A : Nat → Prop) (hA : ∀ q : Nat, s.heap.size ≤ q → A q) (C0 : gx_C p s m meth c args "LeanSets$Terms" prog_5_method_3_code 3 (Option.none : Option Jvm.ClassFile.FieldType)) (hN : gx_K dC dI cI cJ cC s)  (h_this h_values h_kinds h_ins h_outs : Nat) (u_size : Int32) (f_length : Int32) (post : (Nat → Int32) → Prop)   : ∀ (x1 : Int32) (x2 : Int32) (f_values : Nat → Int32), wp_Te_put_0 f_length post x1 x2 f_values → ∀ (H : Heap) (locs : List Loc) (ls : Array Slot), va_P (dC, dI) classes [(h_this, .inr (3, [.int u_size, .int f_length, .ref h_kinds, .ref h_ins, .ref h_outs, .ref h_values])), (h_values, .inl (cI, 300, .inl f_values))] H → va_D A [(h_this, .inr (3, [.int u_size, .int f_length, .ref h_kinds, .ref h_ins, .ref h_outs, .ref h_values])), (h_values, .inl (cI, 300, .inl f_values))] → va_S A s.heap H locs → lv_has ls 3 [(0, .ref h_this), (1, .int x1), (2, .int x2)] → W p l e { frames := 0, cells := 0, slots := 0, locals := 0 } s m args below meth c H locs 0 0 (MQ below (va_Qv (fun (u : (Nat → Int32)) => post u) (fun (u : (Nat → Int32)) (t : State) => va_P (dC, dI) classes [(h_this, .inr (3, [.int u_size, .int f_length, .ref h_kinds, .ref h_ins, .ref h_outs, .ref h_values])), (h_values, .inl (cI, 300, .inl u))] t.heap ∧ va_D A [(h_this, .inr (3, [.int u_size, .int f_length, .ref h_kinds, .ref h_ins, .ref h_outs, .ref h_values])), (h_values, .inl (cI, 300, .inl u))]) A) args s 0 0 A) (F0 m 0 ls []) := by
  obtain ⟨hx, hb, hr, hml, hown, hlocks, hG⟩ := id C0
  have hK := hN.1
  intro x1 x2 f_values h H locs ls hP hD hS hl
  rw [wp_Te_put_0] at h
  refine lv_aload_n hx hb d_Te_put_0 rfl (lv_at hl 0 rfl) ?_
  refine va_get (D := (dC, dI)) (ci := 3) (v := .int f_length) (C := "LeanSets$Terms") (T := T_Te) (N := 6) hx hb hG in_Te hown hK hP 0 rfl rfl 1 (Nat.le_of_ble_eq_true rfl) (hG _ mw_75) (fun _ h9 => h9) rfl d_Te_put_1 ?_
  refine lv_if_le (tgt := 30) hx hb d_Te_put_4 (by decide) (fun c_ => ?_) (fun c_ => ?_)
  · have h := h.1 c_
    exact wk_Te_put_30 dC dI cI cJ cC A hA C0 hN h_this h_values h_kinds h_ins h_outs u_size f_length post   f_values h _ _ _ hP hD hS (lv_sub hl [] rfl)
  · have h := h.2 c_
    refine lv_iload_n hx hb d_Te_put_7 rfl (lv_at hl 1 rfl) ?_
    refine lv_bipush (v := 10) hx hb d_Te_put_8 (by decide) ?_
    refine lv_icmp_ge (tgt := 30) hx hb d_Te_put_10 (by decide) (fun c_ => ?_) (fun c_ => ?_)
    · have h := h.1 c_
      exact wk_Te_put_30 dC dI cI cJ cC A hA C0 hN h_this h_values h_kinds h_ins h_outs u_size f_length post   f_values h _ _ _ hP hD hS (lv_sub hl [] rfl)
    · have h := h.2 c_
      refine lv_aload_n hx hb d_Te_put_13 rfl (lv_at hl 0 rfl) ?_
      refine va_get (D := (dC, dI)) (ci := 3) (v := .ref h_values) (C := "LeanSets$Terms") (T := T_Te) (N := 6) hx hb hG in_Te hown hK hP 0 rfl rfl 5 (Nat.le_of_ble_eq_true rfl) (hG _ mw_82) (fun _ h9 => h9) rfl d_Te_put_14 ?_
      refine lv_aload_n hx hb d_Te_put_17 rfl (lv_at hl 0 rfl) ?_
      refine va_get (D := (dC, dI)) (ci := 3) (v := .int f_length) (C := "LeanSets$Terms") (T := T_Te) (N := 6) hx hb hG in_Te hown hK hP 0 rfl rfl 1 (Nat.le_of_ble_eq_true rfl) (hG _ mw_75) (fun _ h9 => h9) rfl d_Te_put_18 ?_
      refine lv_iconst (v := 1) hx hb d_Te_put_21 (by decide) ?_
      refine lv_isub hx hb d_Te_put_22 ?_
      refine lv_bipush (v := 10) hx hb d_Te_put_23 (by decide) ?_
      refine lv_imul hx hb d_Te_put_25 ?_
      refine lv_iload_n hx hb d_Te_put_26 rfl (lv_at hl 1 rfl) ?_
      refine lv_iadd hx hb d_Te_put_27 ?_
      refine lv_iload_n hx hb d_Te_put_28 rfl (lv_at hl 2 rfl) ?_
      obtain ⟨g_, h⟩ := h
      refine va_iast hx hb hK hP hD hS 1 0 rfl rfl g_ d_Te_put_29 (fun H locs hP hD hS => ?_)
      have hP : va_P (dC, dI) classes [(h_this, .inr (3, [.int u_size, .int f_length, .ref h_kinds, .ref h_ins, .ref h_outs, .ref h_values])), (h_values, .inl (cI, 300, .inl (upd f_values (((f_length - (1 : Int32)) * (10 : Int32)) + x1).toNatClampNeg x2)))] H := hP
      have hD : va_D A [(h_this, .inr (3, [.int u_size, .int f_length, .ref h_kinds, .ref h_ins, .ref h_outs, .ref h_values])), (h_values, .inl (cI, 300, .inl (upd f_values (((f_length - (1 : Int32)) * (10 : Int32)) + x1).toNatClampNeg x2)))] := hD
      exact wk_Te_put_30 dC dI cI cJ cC A hA C0 hN h_this h_values h_kinds h_ins h_outs u_size f_length post   (upd f_values (((f_length - (1 : Int32)) * (10 : Int32)) + x1).toNatClampNeg x2) h _ _ _ hP hD hS (lv_sub hl [] rfl)
set_option maxHeartbeats 4000000 in
set_option maxRecDepth 100000 in
theorem c_Te_put (l : Launch) (dC : Nat → ClassId) (dI : Nat → Nat → Nat) (cI cJ cC : ClassId) (h_this h_values h_kinds h_ins h_outs : Nat) (u_size : Int32) (f_length : Int32) (post : (Nat → Int32) → Prop) (x1 : Int32) (x2 : Int32) (f_values : Nat → Int32) (sz : Nat) (h : wp_Te_put_0 f_length post x1 x2 f_values) : Met l y_Te_put (.code y_Te_put prog_5_method_3_code 3 (Option.none : Option Jvm.ClassFile.FieldType) :: gx_G) ({ frames := 0, cells := 0, slots := 0, locals := 0 }) (va_Pc [.ref h_this, .int x1, .int x2] (fun U => U.heap.size = sz ∧ va_P (dC, dI) classes [(h_this, .inr (3, [.int u_size, .int f_length, .ref h_kinds, .ref h_ins, .ref h_outs, .ref h_values])), (h_values, .inl (cI, 300, .inl f_values))] U.heap ∧ gx_K dC dI cI cJ cC U ∧ va_D (fun _ => True) [(h_this, .inr (3, [.int u_size, .int f_length, .ref h_kinds, .ref h_ins, .ref h_outs, .ref h_values])), (h_values, .inl (cI, 300, .inl f_values))])) (va_Qv (fun (u : (Nat → Int32)) => post u) (fun (u : (Nat → Int32)) (t : State) => va_P (dC, dI) classes [(h_this, .inr (3, [.int u_size, .int f_length, .ref h_kinds, .ref h_ins, .ref h_outs, .ref h_values])), (h_values, .inl (cI, 300, .inl u))] t.heap ∧ va_D (va_A [(h_this, .inr (3, [.int u_size, .int f_length, .ref h_kinds, .ref h_ins, .ref h_outs, .ref h_values])), (h_values, .inl (cI, 300, .inl f_values))] sz) [(h_this, .inr (3, [.int u_size, .int f_length, .ref h_kinds, .ref h_ins, .ref h_outs, .ref h_values])), (h_values, .inl (cI, 300, .inl u))]) (va_A [(h_this, .inr (3, [.int u_size, .int f_length, .ref h_kinds, .ref h_ins, .ref h_outs, .ref h_values])), (h_values, .inl (cI, 300, .inl f_values))] sz)) 0 0 (va_A [(h_this, .inr (3, [.int u_size, .int f_length, .ref h_kinds, .ref h_ins, .ref h_outs, .ref h_values])), (h_values, .inl (cI, 300, .inl f_values))] sz) := by
  refine Met.ofW (cc := prog_5_method_3_code) (maxL := 3) (ret := (Option.none : Option Jvm.ClassFile.FieldType)) (by decide +kernel) rfl ?_
  intro p e s m args below meth c s₁ B hml hv
  obtain ⟨rfl, hsz, hP, hN, hD0⟩ := hv
  have hts := atoms_spec (ws := (.code y_Te_put prog_5_method_3_code 3 (Option.none : Option Jvm.ClassFile.FieldType) :: gx_G)) B.pre
  have C0 : gx_C p s m meth c _ "LeanSets$Terms" prog_5_method_3_code 3 (Option.none : Option Jvm.ClassFile.FieldType) := ⟨B.exec, B.bytes, B.returns, hml, findClass_of_methodNamed B.named, B.notSynchronized, fun w hw => hts w (List.mem_cons_of_mem _ hw)⟩
  subst hsz
  have hD := hD0.self (sz := s.heap.size)
  generalize hAe : va_A [(h_this, .inr (3, [.int u_size, .int f_length, .ref h_kinds, .ref h_ins, .ref h_outs, .ref h_values])), (h_values, .inl (cI, 300, .inl f_values))] s.heap.size = A at hD ⊢
  have hA : ∀ q : Nat, s.heap.size ≤ q → A q := fun q h => by rw [← hAe]; exact Or.inr h
  have hl := lv_entry ([.ref h_this, .int x1, .int x2]) (n := 3) (Nat.le_of_ble_eq_true rfl)
  rw [lg_entry_eq]
  generalize (lg_sl ([.ref h_this, .int x1, .int x2]) ++ List.replicate (3 - (lg_sl ([.ref h_this, .int x1, .int x2])).length) Slot.unset).toArray = ls at hl ⊢
  exact wk_Te_put_0 dC dI cI cJ cC A hA C0 hN h_this h_values h_kinds h_ins h_outs u_size f_length post x1 x2 f_values h s.heap [] ls hP hD va_S.rf hl
/-! LeanSets$Terms.tellTo(LLeanSets$SetTable;)V -/
def y_Te_tellTo : MethodName := ⟨"LeanSets$Terms", "tellTo", "(LLeanSets$SetTable;)V"⟩
theorem d_Te_tellTo_0 : decode prog_5_method_4_code 0 = .ok (.aload_n 1, 1) := by decide +kernel
theorem d_Te_tellTo_1 : decode prog_5_method_4_code 1 = .ok (.aload_n 0, 1) := by decide +kernel
theorem d_Te_tellTo_2 : decode prog_5_method_4_code 2 = .ok (.getfield 28, 3) := by decide +kernel
theorem d_Te_tellTo_5 : decode prog_5_method_4_code 5 = .ok (.invokevirtual 31, 3) := by decide +kernel
theorem d_Te_tellTo_8 : decode prog_5_method_4_code 8 = .ok (.iconst 0, 1) := by decide +kernel
theorem d_Te_tellTo_9 : decode prog_5_method_4_code 9 = .ok (.istore_n 2, 1) := by decide +kernel
theorem d_Te_tellTo_10 : decode prog_5_method_4_code 10 = .ok (.iload_n 2, 1) := by decide +kernel
theorem d_Te_tellTo_11 : decode prog_5_method_4_code 11 = .ok (.aload_n 0, 1) := by decide +kernel
theorem d_Te_tellTo_12 : decode prog_5_method_4_code 12 = .ok (.getfield 24, 3) := by decide +kernel
theorem d_Te_tellTo_15 : decode prog_5_method_4_code 15 = .ok (.if_icmp .ge 65, 3) := by decide +kernel
theorem d_Te_tellTo_18 : decode prog_5_method_4_code 18 = .ok (.iload_n 2, 1) := by decide +kernel
theorem d_Te_tellTo_19 : decode prog_5_method_4_code 19 = .ok (.bipush 10, 2) := by decide +kernel
theorem d_Te_tellTo_21 : decode prog_5_method_4_code 21 = .ok (.imul, 1) := by decide +kernel
theorem d_Te_tellTo_22 : decode prog_5_method_4_code 22 = .ok (.istore_n 3, 1) := by decide +kernel
theorem d_Te_tellTo_23 : decode prog_5_method_4_code 23 = .ok (.aload_n 0, 1) := by decide +kernel
theorem d_Te_tellTo_24 : decode prog_5_method_4_code 24 = .ok (.getfield 9, 3) := by decide +kernel
theorem d_Te_tellTo_27 : decode prog_5_method_4_code 27 = .ok (.iload_n 2, 1) := by decide +kernel
theorem d_Te_tellTo_28 : decode prog_5_method_4_code 28 = .ok (.iaload, 1) := by decide +kernel
theorem d_Te_tellTo_29 : decode prog_5_method_4_code 29 = .ok (.iconst 3, 1) := by decide +kernel
theorem d_Te_tellTo_30 : decode prog_5_method_4_code 30 = .ok (.if_icmp .ne 21, 3) := by decide +kernel
theorem d_Te_tellTo_33 : decode prog_5_method_4_code 33 = .ok (.aload_n 1, 1) := by decide +kernel
theorem d_Te_tellTo_34 : decode prog_5_method_4_code 34 = .ok (.aload_n 0, 1) := by decide +kernel
theorem d_Te_tellTo_35 : decode prog_5_method_4_code 35 = .ok (.getfield 15, 3) := by decide +kernel
theorem d_Te_tellTo_38 : decode prog_5_method_4_code 38 = .ok (.iload_n 2, 1) := by decide +kernel
theorem d_Te_tellTo_39 : decode prog_5_method_4_code 39 = .ok (.iaload, 1) := by decide +kernel
theorem d_Te_tellTo_40 : decode prog_5_method_4_code 40 = .ok (.aload_n 0, 1) := by decide +kernel
theorem d_Te_tellTo_41 : decode prog_5_method_4_code 41 = .ok (.getfield 21, 3) := by decide +kernel
theorem d_Te_tellTo_44 : decode prog_5_method_4_code 44 = .ok (.iload_n 3, 1) := by decide +kernel
theorem d_Te_tellTo_45 : decode prog_5_method_4_code 45 = .ok (.invokevirtual 37, 3) := by decide +kernel
theorem d_Te_tellTo_48 : decode prog_5_method_4_code 48 = .ok (.goto 26, 3) := by decide +kernel
theorem d_Te_tellTo_51 : decode prog_5_method_4_code 51 = .ok (.aload_n 1, 1) := by decide +kernel
theorem d_Te_tellTo_52 : decode prog_5_method_4_code 52 = .ok (.aload_n 0, 1) := by decide +kernel
theorem d_Te_tellTo_53 : decode prog_5_method_4_code 53 = .ok (.getfield 15, 3) := by decide +kernel
theorem d_Te_tellTo_56 : decode prog_5_method_4_code 56 = .ok (.iload_n 2, 1) := by decide +kernel
theorem d_Te_tellTo_57 : decode prog_5_method_4_code 57 = .ok (.iaload, 1) := by decide +kernel
theorem d_Te_tellTo_58 : decode prog_5_method_4_code 58 = .ok (.aload_n 0, 1) := by decide +kernel
theorem d_Te_tellTo_59 : decode prog_5_method_4_code 59 = .ok (.getfield 18, 3) := by decide +kernel
theorem d_Te_tellTo_62 : decode prog_5_method_4_code 62 = .ok (.iload_n 2, 1) := by decide +kernel
theorem d_Te_tellTo_63 : decode prog_5_method_4_code 63 = .ok (.iaload, 1) := by decide +kernel
theorem d_Te_tellTo_64 : decode prog_5_method_4_code 64 = .ok (.aload_n 0, 1) := by decide +kernel
theorem d_Te_tellTo_65 : decode prog_5_method_4_code 65 = .ok (.getfield 21, 3) := by decide +kernel
theorem d_Te_tellTo_68 : decode prog_5_method_4_code 68 = .ok (.iload_n 3, 1) := by decide +kernel
theorem d_Te_tellTo_69 : decode prog_5_method_4_code 69 = .ok (.iaload, 1) := by decide +kernel
theorem d_Te_tellTo_70 : decode prog_5_method_4_code 70 = .ok (.i2l, 1) := by decide +kernel
theorem d_Te_tellTo_71 : decode prog_5_method_4_code 71 = .ok (.invokevirtual 41, 3) := by decide +kernel
theorem d_Te_tellTo_74 : decode prog_5_method_4_code 74 = .ok (.iinc 2 1, 3) := by decide +kernel
theorem d_Te_tellTo_77 : decode prog_5_method_4_code 77 = .ok (.goto (-67), 3) := by decide +kernel
theorem d_Te_tellTo_80 : decode prog_5_method_4_code 80 = .ok (.return_, 1) := by decide +kernel
def wp_Te_tellTo_74 (f_size : Int32) (f_length : Int32) (f_kinds : Nat → Int32) (f_ins : Nat → Int32) (f_values : Nat → Int32) (f_outs : Nat → Int32) (post : Int32 → Int32 → (Nat → Int64) → Prop) (K10 : Int32 → Int32 → Int32 → (Nat → Int64) → Prop) (x2 : Int32) (f_p1_size : Int32) (f_p1_sets : Int32) (f_p1_values : Nat → Int64) : Prop := K10 (x2 + (1 : Int32)) f_p1_size f_p1_sets f_p1_values
set_option maxHeartbeats 4000000 in
set_option maxRecDepth 100000 in
theorem wk_Te_tellTo_74 {p : Program} {l : Launch} {e : Env} {s : State} {m : MethodId} {args : Array Value} {below : List Frame} {meth : Method} {c : Code} (dC : Nat → ClassId) (dI : Nat → Nat → Nat) (cI cJ cC : ClassId) (A : Nat → Prop) (hA : ∀ q : Nat, s.heap.size ≤ q → A q) (C0 : gx_C p s m meth c args "LeanSets$Terms" prog_5_method_4_code 4 (Option.none : Option Jvm.ClassFile.FieldType)) (hN : gx_K dC dI cI cJ cC s)  (h_this h_p1 h_p1_values h_kinds h_ins h_values h_outs : Nat) (u_p1_lowest : Int64) (u_p1_meet : Int32) (u_p1_join : Int32) (f_size : Int32) (f_length : Int32) (f_kinds : Nat → Int32) (f_ins : Nat → Int32) (f_values : Nat → Int32) (f_outs : Nat → Int32) (post : Int32 → Int32 → (Nat → Int64) → Prop) (K10 : Int32 → Int32 → Int32 → (Nat → Int64) → Prop) (hK10 : ∀ (x2 : Int32) (f_p1_size : Int32) (f_p1_sets : Int32) (f_p1_values : Nat → Int64), K10 x2 f_p1_size f_p1_sets f_p1_values → ∀ (H : Heap) (locs : List Loc) (ls : Array Slot), va_P (dC, dI) classes [(h_this, .inr (3, [.int f_size, .int f_length, .ref h_kinds, .ref h_ins, .ref h_outs, .ref h_values])), (h_p1, .inr (2, [.ref h_p1_values, .int f_p1_size, .int f_p1_sets, .long u_p1_lowest, .int u_p1_meet, .int u_p1_join])), (h_p1_values, .inl (cJ, 1024, .inr (.inl f_p1_values))), (h_kinds, .inl (cI, 30, .inl f_kinds)), (h_ins, .inl (cI, 30, .inl f_ins)), (h_values, .inl (cI, 300, .inl f_values)), (h_outs, .inl (cI, 30, .inl f_outs))] H → va_D A [(h_this, .inr (3, [.int f_size, .int f_length, .ref h_kinds, .ref h_ins, .ref h_outs, .ref h_values])), (h_p1, .inr (2, [.ref h_p1_values, .int f_p1_size, .int f_p1_sets, .long u_p1_lowest, .int u_p1_meet, .int u_p1_join])), (h_p1_values, .inl (cJ, 1024, .inr (.inl f_p1_values))), (h_kinds, .inl (cI, 30, .inl f_kinds)), (h_ins, .inl (cI, 30, .inl f_ins)), (h_values, .inl (cI, 300, .inl f_values)), (h_outs, .inl (cI, 30, .inl f_outs))] → va_S A s.heap H locs → lv_has ls 4 [(0, .ref h_this), (1, .ref h_p1), (2, .int x2)] → W p l e { frames := 2, cells := 0, slots := 0, locals := 45 } s m args below meth c H locs 0 0 (MQ below (va_Qv (fun (u : Int32 × Int32 × (Nat → Int64)) => post u.1 u.2.1 u.2.2) (fun (u : Int32 × Int32 × (Nat → Int64)) (t : State) => va_P (dC, dI) classes [(h_this, .inr (3, [.int f_size, .int f_length, .ref h_kinds, .ref h_ins, .ref h_outs, .ref h_values])), (h_p1, .inr (2, [.ref h_p1_values, .int u.1, .int u.2.1, .long u_p1_lowest, .int u_p1_meet, .int u_p1_join])), (h_p1_values, .inl (cJ, 1024, .inr (.inl u.2.2))), (h_kinds, .inl (cI, 30, .inl f_kinds)), (h_ins, .inl (cI, 30, .inl f_ins)), (h_values, .inl (cI, 300, .inl f_values)), (h_outs, .inl (cI, 30, .inl f_outs))] t.heap ∧ va_D A [(h_this, .inr (3, [.int f_size, .int f_length, .ref h_kinds, .ref h_ins, .ref h_outs, .ref h_values])), (h_p1, .inr (2, [.ref h_p1_values, .int u.1, .int u.2.1, .long u_p1_lowest, .int u_p1_meet, .int u_p1_join])), (h_p1_values, .inl (cJ, 1024, .inr (.inl u.2.2))), (h_kinds, .inl (cI, 30, .inl f_kinds)), (h_ins, .inl (cI, 30, .inl f_ins)), (h_values, .inl (cI, 300, .inl f_values)), (h_outs, .inl (cI, 30, .inl f_outs))]) A) args s 0 0 A) (F0 m 10 ls [])) : ∀ (x2 : Int32) (f_p1_size : Int32) (f_p1_sets : Int32) (f_p1_values : Nat → Int64), wp_Te_tellTo_74 f_size f_length f_kinds f_ins f_values f_outs post K10 x2 f_p1_size f_p1_sets f_p1_values → ∀ (H : Heap) (locs : List Loc) (ls : Array Slot), va_P (dC, dI) classes [(h_this, .inr (3, [.int f_size, .int f_length, .ref h_kinds, .ref h_ins, .ref h_outs, .ref h_values])), (h_p1, .inr (2, [.ref h_p1_values, .int f_p1_size, .int f_p1_sets, .long u_p1_lowest, .int u_p1_meet, .int u_p1_join])), (h_p1_values, .inl (cJ, 1024, .inr (.inl f_p1_values))), (h_kinds, .inl (cI, 30, .inl f_kinds)), (h_ins, .inl (cI, 30, .inl f_ins)), (h_values, .inl (cI, 300, .inl f_values)), (h_outs, .inl (cI, 30, .inl f_outs))] H → va_D A [(h_this, .inr (3, [.int f_size, .int f_length, .ref h_kinds, .ref h_ins, .ref h_outs, .ref h_values])), (h_p1, .inr (2, [.ref h_p1_values, .int f_p1_size, .int f_p1_sets, .long u_p1_lowest, .int u_p1_meet, .int u_p1_join])), (h_p1_values, .inl (cJ, 1024, .inr (.inl f_p1_values))), (h_kinds, .inl (cI, 30, .inl f_kinds)), (h_ins, .inl (cI, 30, .inl f_ins)), (h_values, .inl (cI, 300, .inl f_values)), (h_outs, .inl (cI, 30, .inl f_outs))] → va_S A s.heap H locs → lv_has ls 4 [(0, .ref h_this), (1, .ref h_p1), (2, .int x2)] → W p l e { frames := 2, cells := 0, slots := 0, locals := 45 } s m args below meth c H locs 0 0 (MQ below (va_Qv (fun (u : Int32 × Int32 × (Nat → Int64)) => post u.1 u.2.1 u.2.2) (fun (u : Int32 × Int32 × (Nat → Int64)) (t : State) => va_P (dC, dI) classes [(h_this, .inr (3, [.int f_size, .int f_length, .ref h_kinds, .ref h_ins, .ref h_outs, .ref h_values])), (h_p1, .inr (2, [.ref h_p1_values, .int u.1, .int u.2.1, .long u_p1_lowest, .int u_p1_meet, .int u_p1_join])), (h_p1_values, .inl (cJ, 1024, .inr (.inl u.2.2))), (h_kinds, .inl (cI, 30, .inl f_kinds)), (h_ins, .inl (cI, 30, .inl f_ins)), (h_values, .inl (cI, 300, .inl f_values)), (h_outs, .inl (cI, 30, .inl f_outs))] t.heap ∧ va_D A [(h_this, .inr (3, [.int f_size, .int f_length, .ref h_kinds, .ref h_ins, .ref h_outs, .ref h_values])), (h_p1, .inr (2, [.ref h_p1_values, .int u.1, .int u.2.1, .long u_p1_lowest, .int u_p1_meet, .int u_p1_join])), (h_p1_values, .inl (cJ, 1024, .inr (.inl u.2.2))), (h_kinds, .inl (cI, 30, .inl f_kinds)), (h_ins, .inl (cI, 30, .inl f_ins)), (h_values, .inl (cI, 300, .inl f_values)), (h_outs, .inl (cI, 30, .inl f_outs))]) A) args s 0 0 A) (F0 m 74 ls []) := by
  obtain ⟨hx, hb, hr, hml, hown, hlocks, hG⟩ := id C0
  have hK := hN.1
  intro x2 f_p1_size f_p1_sets f_p1_values h H locs ls hP hD hS hl
  rw [wp_Te_tellTo_74] at h
  refine lv_iinc (v := (x2 + (1 : Int32))) (lv' := [(2, .int (x2 + (1 : Int32))), (0, .ref h_this), (1, .ref h_p1)]) hx hb d_Te_tellTo_74 hl (k := 2) rfl rfl (by decide) rfl (fun ls hl => ?_)
  refine lv_goto (tgt := 10) hx hb d_Te_tellTo_77 (by decide) ?_
  exact hK10 (x2 + (1 : Int32)) f_p1_size f_p1_sets f_p1_values h _ _ _ hP hD hS (lv_sub hl [1, 2, 0] rfl)
def wp_Te_tellTo_10 (f_size : Int32) (f_length : Int32) (f_kinds : Nat → Int32) (f_ins : Nat → Int32) (f_values : Nat → Int32) (f_outs : Nat → Int32) (post : Int32 → Int32 → (Nat → Int64) → Prop)  : Nat → Int32 → Int32 → Int32 → (Nat → Int64) → Prop
  | 0, _, _, _, _ => False
  | n + 1, x2, f_p1_size, f_p1_sets, f_p1_values => ((f_length ≤ x2) → (post f_p1_size f_p1_sets f_p1_values)) ∧ ((¬ (f_length ≤ x2)) → ((vp_in x2 30) ∧ (((¬ (f_kinds x2.toNatClampNeg) = (3 : Int32)) → ((vp_in x2 30) ∧ ((vp_in x2 30) ∧ ((vp_in (x2 * (10 : Int32)) 300) ∧ (wp_St_add_0 f_p1_sets (fun (f_p1_values_71 : Nat → Int64) => wp_Te_tellTo_74 f_size f_length f_kinds f_ins f_values f_outs post (fun (x2 : Int32) (f_p1_size : Int32) (f_p1_sets : Int32) (f_p1_values : Nat → Int64) => wp_Te_tellTo_10 f_size f_length f_kinds f_ins f_values f_outs post n x2 f_p1_size f_p1_sets f_p1_values) x2 f_p1_size f_p1_sets f_p1_values_71) (f_ins x2.toNatClampNeg) (f_outs x2.toNatClampNeg) (f_values (x2 * (10 : Int32)).toNatClampNeg).toInt64 f_p1_values))))) ∧ (((f_kinds x2.toNatClampNeg) = (3 : Int32)) → ((vp_in x2 30) ∧ (wp_St_addCurve_0 f_p1_sets f_values (fun (f_p1_values_45 : Nat → Int64) => wp_Te_tellTo_74 f_size f_length f_kinds f_ins f_values f_outs post (fun (x2 : Int32) (f_p1_size : Int32) (f_p1_sets : Int32) (f_p1_values : Nat → Int64) => wp_Te_tellTo_10 f_size f_length f_kinds f_ins f_values f_outs post n x2 f_p1_size f_p1_sets f_p1_values) x2 f_p1_size f_p1_sets f_p1_values_45) (f_ins x2.toNatClampNeg) (x2 * (10 : Int32)) f_p1_values))))))
set_option maxHeartbeats 4000000 in
set_option maxRecDepth 100000 in
theorem wk_Te_tellTo_10 {p : Program} {l : Launch} {e : Env} {s : State} {m : MethodId} {args : Array Value} {below : List Frame} {meth : Method} {c : Code} (dC : Nat → ClassId) (dI : Nat → Nat → Nat) (cI cJ cC : ClassId) (A : Nat → Prop) (hA : ∀ q : Nat, s.heap.size ≤ q → A q) (C0 : gx_C p s m meth c args "LeanSets$Terms" prog_5_method_4_code 4 (Option.none : Option Jvm.ClassFile.FieldType)) (hN : gx_K dC dI cI cJ cC s)  (h_this h_p1 h_p1_values h_kinds h_ins h_values h_outs : Nat) (u_p1_lowest : Int64) (u_p1_meet : Int32) (u_p1_join : Int32) (f_size : Int32) (f_length : Int32) (f_kinds : Nat → Int32) (f_ins : Nat → Int32) (f_values : Nat → Int32) (f_outs : Nat → Int32) (post : Int32 → Int32 → (Nat → Int64) → Prop)   : ∀ (n : Nat) (x2 : Int32) (f_p1_size : Int32) (f_p1_sets : Int32) (f_p1_values : Nat → Int64), wp_Te_tellTo_10 f_size f_length f_kinds f_ins f_values f_outs post n x2 f_p1_size f_p1_sets f_p1_values → ∀ (H : Heap) (locs : List Loc) (ls : Array Slot), va_P (dC, dI) classes [(h_this, .inr (3, [.int f_size, .int f_length, .ref h_kinds, .ref h_ins, .ref h_outs, .ref h_values])), (h_p1, .inr (2, [.ref h_p1_values, .int f_p1_size, .int f_p1_sets, .long u_p1_lowest, .int u_p1_meet, .int u_p1_join])), (h_p1_values, .inl (cJ, 1024, .inr (.inl f_p1_values))), (h_kinds, .inl (cI, 30, .inl f_kinds)), (h_ins, .inl (cI, 30, .inl f_ins)), (h_values, .inl (cI, 300, .inl f_values)), (h_outs, .inl (cI, 30, .inl f_outs))] H → va_D A [(h_this, .inr (3, [.int f_size, .int f_length, .ref h_kinds, .ref h_ins, .ref h_outs, .ref h_values])), (h_p1, .inr (2, [.ref h_p1_values, .int f_p1_size, .int f_p1_sets, .long u_p1_lowest, .int u_p1_meet, .int u_p1_join])), (h_p1_values, .inl (cJ, 1024, .inr (.inl f_p1_values))), (h_kinds, .inl (cI, 30, .inl f_kinds)), (h_ins, .inl (cI, 30, .inl f_ins)), (h_values, .inl (cI, 300, .inl f_values)), (h_outs, .inl (cI, 30, .inl f_outs))] → va_S A s.heap H locs → lv_has ls 4 [(0, .ref h_this), (1, .ref h_p1), (2, .int x2)] → W p l e { frames := 2, cells := 0, slots := 0, locals := 45 } s m args below meth c H locs 0 0 (MQ below (va_Qv (fun (u : Int32 × Int32 × (Nat → Int64)) => post u.1 u.2.1 u.2.2) (fun (u : Int32 × Int32 × (Nat → Int64)) (t : State) => va_P (dC, dI) classes [(h_this, .inr (3, [.int f_size, .int f_length, .ref h_kinds, .ref h_ins, .ref h_outs, .ref h_values])), (h_p1, .inr (2, [.ref h_p1_values, .int u.1, .int u.2.1, .long u_p1_lowest, .int u_p1_meet, .int u_p1_join])), (h_p1_values, .inl (cJ, 1024, .inr (.inl u.2.2))), (h_kinds, .inl (cI, 30, .inl f_kinds)), (h_ins, .inl (cI, 30, .inl f_ins)), (h_values, .inl (cI, 300, .inl f_values)), (h_outs, .inl (cI, 30, .inl f_outs))] t.heap ∧ va_D A [(h_this, .inr (3, [.int f_size, .int f_length, .ref h_kinds, .ref h_ins, .ref h_outs, .ref h_values])), (h_p1, .inr (2, [.ref h_p1_values, .int u.1, .int u.2.1, .long u_p1_lowest, .int u_p1_meet, .int u_p1_join])), (h_p1_values, .inl (cJ, 1024, .inr (.inl u.2.2))), (h_kinds, .inl (cI, 30, .inl f_kinds)), (h_ins, .inl (cI, 30, .inl f_ins)), (h_values, .inl (cI, 300, .inl f_values)), (h_outs, .inl (cI, 30, .inl f_outs))]) A) args s 0 0 A) (F0 m 10 ls []) := by
  obtain ⟨hx, hb, hr, hml, hown, hlocks, hG⟩ := id C0
  have hK := hN.1
  intro n
  induction n with
  | zero =>
    intro x2 f_p1_size f_p1_sets f_p1_values h
    exact absurd h (by rw [wp_Te_tellTo_10]; exact id)
  | succ n ih =>
    intro x2 f_p1_size f_p1_sets f_p1_values h H locs ls hP hD hS hl
    rw [wp_Te_tellTo_10] at h
    refine lv_iload_n hx hb d_Te_tellTo_10 rfl (lv_at hl 2 rfl) ?_
    refine lv_aload_n hx hb d_Te_tellTo_11 rfl (lv_at hl 0 rfl) ?_
    refine va_get (D := (dC, dI)) (ci := 3) (v := .int f_length) (C := "LeanSets$Terms") (T := T_Te) (N := 6) hx hb hG in_Te hown hK hP 0 rfl rfl 1 (Nat.le_of_ble_eq_true rfl) (hG _ mw_75) (fun _ h9 => h9) rfl d_Te_tellTo_12 ?_
    refine lv_icmp_ge (tgt := 80) hx hb d_Te_tellTo_15 (by decide) (fun c_ => ?_) (fun c_ => ?_)
    · have h := h.1 c_
      exact W.vret hx hb hr (fun t ht hW => ⟨⟨(f_p1_size, f_p1_sets, f_p1_values), rfl, h, by rw [ht]; exact hP, hD⟩, hS.F ht⟩) hS.2.2 d_Te_tellTo_80 hlocks
    · have h := h.2 c_
      refine lv_iload_n hx hb d_Te_tellTo_18 rfl (lv_at hl 2 rfl) ?_
      refine lv_bipush (v := 10) hx hb d_Te_tellTo_19 (by decide) ?_
      refine lv_imul hx hb d_Te_tellTo_21 ?_
      refine lv_istore_n (lv' := [(3, .int (x2 * (10 : Int32))), (0, .ref h_this), (1, .ref h_p1), (2, .int x2)]) hx hb d_Te_tellTo_22 rfl hl (by decide) rfl (fun ls hl => ?_)
      refine lv_aload_n hx hb d_Te_tellTo_23 rfl (lv_at hl 1 rfl) ?_
      refine va_get (D := (dC, dI)) (ci := 3) (v := .ref h_kinds) (C := "LeanSets$Terms") (T := T_Te) (N := 6) hx hb hG in_Te hown hK hP 0 rfl rfl 2 (Nat.le_of_ble_eq_true rfl) (hG _ mw_78) (fun _ h9 => h9) rfl d_Te_tellTo_24 ?_
      refine lv_iload_n hx hb d_Te_tellTo_27 rfl (lv_at hl 3 rfl) ?_
      obtain ⟨g_, h⟩ := h
      refine va_iald hx hb hK hP 3 0 rfl rfl g_ d_Te_tellTo_28 ?_
      refine lv_iconst (v := 3) hx hb d_Te_tellTo_29 (by decide) ?_
      refine lv_icmp_ne (tgt := 51) hx hb d_Te_tellTo_30 (by decide) (fun c_ => ?_) (fun c_ => ?_)
      · have h := h.1 c_
        refine lv_aload_n hx hb d_Te_tellTo_51 rfl (lv_at hl 2 rfl) ?_
        refine lv_aload_n hx hb d_Te_tellTo_52 rfl (lv_at hl 1 rfl) ?_
        refine va_get (D := (dC, dI)) (ci := 3) (v := .ref h_ins) (C := "LeanSets$Terms") (T := T_Te) (N := 6) hx hb hG in_Te hown hK hP 0 rfl rfl 3 (Nat.le_of_ble_eq_true rfl) (hG _ mw_80) (fun _ h9 => h9) rfl d_Te_tellTo_53 ?_
        refine lv_iload_n hx hb d_Te_tellTo_56 rfl (lv_at hl 3 rfl) ?_
        obtain ⟨g_, h⟩ := h
        refine va_iald hx hb hK hP 4 0 rfl rfl g_ d_Te_tellTo_57 ?_
        refine lv_aload_n hx hb d_Te_tellTo_58 rfl (lv_at hl 1 rfl) ?_
        refine va_get (D := (dC, dI)) (ci := 3) (v := .ref h_outs) (C := "LeanSets$Terms") (T := T_Te) (N := 6) hx hb hG in_Te hown hK hP 0 rfl rfl 4 (Nat.le_of_ble_eq_true rfl) (hG _ mw_81) (fun _ h9 => h9) rfl d_Te_tellTo_59 ?_
        refine lv_iload_n hx hb d_Te_tellTo_62 rfl (lv_at hl 3 rfl) ?_
        obtain ⟨g_, h⟩ := h
        refine va_iald hx hb hK hP 6 0 rfl rfl g_ d_Te_tellTo_63 ?_
        refine lv_aload_n hx hb d_Te_tellTo_64 rfl (lv_at hl 1 rfl) ?_
        refine va_get (D := (dC, dI)) (ci := 3) (v := .ref h_values) (C := "LeanSets$Terms") (T := T_Te) (N := 6) hx hb hG in_Te hown hK hP 0 rfl rfl 5 (Nat.le_of_ble_eq_true rfl) (hG _ mw_82) (fun _ h9 => h9) rfl d_Te_tellTo_65 ?_
        refine lv_iload_n hx hb d_Te_tellTo_68 rfl (lv_at hl 0 rfl) ?_
        obtain ⟨g_, h⟩ := h
        refine va_iald hx hb hK hP 5 0 rfl rfl g_ d_Te_tellTo_69 ?_
        refine lv_i2l hx hb d_Te_tellTo_70 rfl ?_
        have hPc := hP.sub (ws' := [(h_p1, .inr (2, [.ref h_p1_values, .int f_p1_size, .int f_p1_sets, .long u_p1_lowest, .int u_p1_meet, .int u_p1_join])), (h_p1_values, .inl (cJ, 1024, .inr (.inl f_p1_values)))]) [1, 2] rfl
        have hDc := hD.sub (ws' := [(h_p1, .inr (2, [.ref h_p1_values, .int f_p1_size, .int f_p1_sets, .long u_p1_lowest, .int u_p1_meet, .int u_p1_join])), (h_p1_values, .inl (cJ, 1024, .inr (.inl f_p1_values)))]) [1, 2] (by decide) rfl
        have hFc := va_free (wc := [(h_p1, .inr (2, [.ref h_p1_values, .int f_p1_size, .int f_p1_sets, .long u_p1_lowest, .int u_p1_meet, .int u_p1_join])), (h_p1_values, .inl (cJ, 1024, .inr (.inl f_p1_values)))]) hD hS hA [1, 2] rfl
        refine va_callv (va_runV (As := [.int (f_ins x2.toNatClampNeg), .int (f_outs x2.toNatClampNeg), .long (f_values (x2 * (10 : Int32)).toNatClampNeg).toInt64]) (rest := []) ⟨hx, hb, hml, hown, hG⟩ (c_St_add l dC dI cI cJ cC h_p1 h_p1_values f_p1_size u_p1_lowest u_p1_meet u_p1_join f_p1_sets _ (f_ins x2.toNatClampNeg) (f_outs x2.toNatClampNeg) (f_values (x2 * (10 : Int32)).toNatClampNeg).toInt64 f_p1_values H.size h) (gx_cwV (own := "LeanSets$Terms") 3 hG mw_445 mw_446 mw_447 mw_5 mw_448 (by decide +kernel) ⟨Nat.le_of_ble_eq_true rfl, Nat.le_of_ble_eq_true rfl⟩) ⟨fun a U g mk q => by obtain ⟨q0, q1, qP, qK, qD⟩ := q; exact ⟨q0, q1, qP, gx_K.same (u := U) (U := U.calling g mk a) rfl qK, qD⟩, va_recv hK hPc (ci := 2) (q0 := 0) rfl rfl, fun U hU hW => ⟨rfl, by rw [hU], by rw [hU]; exact hPc, gx_K.moved hW hN, hDc.weaken (fun _ _ _ _ => trivial)⟩⟩ rfl rfl hl.1 rfl (lv_room (Nat.le_of_ble_eq_true rfl)) d_Te_tellTo_71 ⟨Nat.le_of_ble_eq_true rfl, Nat.le_of_ble_eq_true rfl⟩) hS (fun q _ h => hFc q h) hFc (fun u t H1 locs ht hvm hw hB hz1 hk1 hS => ?_)
        obtain ⟨f_p1_values_71, rfl⟩ : ∃ z, z = u := ⟨_, rfl⟩
        obtain ⟨hP1, hD1⟩ := hB
        rw [ht] at hP1
        obtain ⟨hP, hD⟩ := va_join (wr := [(h_this, .inr (3, [.int f_size, .int f_length, .ref h_kinds, .ref h_ins, .ref h_outs, .ref h_values])), (h_kinds, .inl (cI, 30, .inl f_kinds)), (h_ins, .inl (cI, 30, .inl f_ins)), (h_values, .inl (cI, 300, .inl f_values)), (h_outs, .inl (cI, 30, .inl f_outs))]) (w1 := [(h_p1, .inr (2, [.ref h_p1_values, .int f_p1_size, .int f_p1_sets, .long u_p1_lowest, .int u_p1_meet, .int u_p1_join])), (h_p1_values, .inl (cJ, 1024, .inr (.inl f_p1_values_71)))]) hP hD [1, 2] [0, 3, 4, 5, 6] rfl rfl (by decide) (by decide) hk1 hFc hP1 hD1
        clear hPc hDc hFc hk1 hP1 hD1 ht hvm
        generalize H1 = H at hP hS ⊢
        have hP := hP.sub (ws' := [(h_this, .inr (3, [.int f_size, .int f_length, .ref h_kinds, .ref h_ins, .ref h_outs, .ref h_values])), (h_p1, .inr (2, [.ref h_p1_values, .int f_p1_size, .int f_p1_sets, .long u_p1_lowest, .int u_p1_meet, .int u_p1_join])), (h_p1_values, .inl (cJ, 1024, .inr (.inl f_p1_values_71))), (h_kinds, .inl (cI, 30, .inl f_kinds)), (h_ins, .inl (cI, 30, .inl f_ins)), (h_values, .inl (cI, 300, .inl f_values)), (h_outs, .inl (cI, 30, .inl f_outs))]) [0, 5, 6, 1, 2, 3, 4] rfl
        have hD := hD.sub (ws' := [(h_this, .inr (3, [.int f_size, .int f_length, .ref h_kinds, .ref h_ins, .ref h_outs, .ref h_values])), (h_p1, .inr (2, [.ref h_p1_values, .int f_p1_size, .int f_p1_sets, .long u_p1_lowest, .int u_p1_meet, .int u_p1_join])), (h_p1_values, .inl (cJ, 1024, .inr (.inl f_p1_values_71))), (h_kinds, .inl (cI, 30, .inl f_kinds)), (h_ins, .inl (cI, 30, .inl f_ins)), (h_values, .inl (cI, 300, .inl f_values)), (h_outs, .inl (cI, 30, .inl f_outs))]) [0, 5, 6, 1, 2, 3, 4] (by decide) rfl
        have h := hw
        try dsimp only at h
        exact wk_Te_tellTo_74 dC dI cI cJ cC A hA C0 hN h_this h_p1 h_p1_values h_kinds h_ins h_values h_outs u_p1_lowest u_p1_meet u_p1_join f_size f_length f_kinds f_ins f_values f_outs post (fun (x2 : Int32) (f_p1_size : Int32) (f_p1_sets : Int32) (f_p1_values : Nat → Int64) => wp_Te_tellTo_10 f_size f_length f_kinds f_ins f_values f_outs post n x2 f_p1_size f_p1_sets f_p1_values) (fun x2 f_p1_size f_p1_sets f_p1_values h => ih x2 f_p1_size f_p1_sets f_p1_values h) x2 f_p1_size f_p1_sets f_p1_values_71 h _ _ _ hP hD hS (lv_sub hl [1, 2, 3] rfl)
      · have h := h.2 c_
        refine lv_aload_n hx hb d_Te_tellTo_33 rfl (lv_at hl 2 rfl) ?_
        refine lv_aload_n hx hb d_Te_tellTo_34 rfl (lv_at hl 1 rfl) ?_
        refine va_get (D := (dC, dI)) (ci := 3) (v := .ref h_ins) (C := "LeanSets$Terms") (T := T_Te) (N := 6) hx hb hG in_Te hown hK hP 0 rfl rfl 3 (Nat.le_of_ble_eq_true rfl) (hG _ mw_80) (fun _ h9 => h9) rfl d_Te_tellTo_35 ?_
        refine lv_iload_n hx hb d_Te_tellTo_38 rfl (lv_at hl 3 rfl) ?_
        obtain ⟨g_, h⟩ := h
        refine va_iald hx hb hK hP 4 0 rfl rfl g_ d_Te_tellTo_39 ?_
        refine lv_aload_n hx hb d_Te_tellTo_40 rfl (lv_at hl 1 rfl) ?_
        refine va_get (D := (dC, dI)) (ci := 3) (v := .ref h_values) (C := "LeanSets$Terms") (T := T_Te) (N := 6) hx hb hG in_Te hown hK hP 0 rfl rfl 5 (Nat.le_of_ble_eq_true rfl) (hG _ mw_82) (fun _ h9 => h9) rfl d_Te_tellTo_41 ?_
        refine lv_iload_n hx hb d_Te_tellTo_44 rfl (lv_at hl 0 rfl) ?_
        have hPc := hP.sub (ws' := [(h_p1, .inr (2, [.ref h_p1_values, .int f_p1_size, .int f_p1_sets, .long u_p1_lowest, .int u_p1_meet, .int u_p1_join])), (h_p1_values, .inl (cJ, 1024, .inr (.inl f_p1_values))), (h_values, .inl (cI, 300, .inl f_values))]) [1, 2, 5] rfl
        have hDc := hD.sub (ws' := [(h_p1, .inr (2, [.ref h_p1_values, .int f_p1_size, .int f_p1_sets, .long u_p1_lowest, .int u_p1_meet, .int u_p1_join])), (h_p1_values, .inl (cJ, 1024, .inr (.inl f_p1_values))), (h_values, .inl (cI, 300, .inl f_values))]) [1, 2, 5] (by decide) rfl
        have hFc := va_free (wc := [(h_p1, .inr (2, [.ref h_p1_values, .int f_p1_size, .int f_p1_sets, .long u_p1_lowest, .int u_p1_meet, .int u_p1_join])), (h_p1_values, .inl (cJ, 1024, .inr (.inl f_p1_values))), (h_values, .inl (cI, 300, .inl f_values))]) hD hS hA [1, 2, 5] rfl
        refine va_callv (va_runV (As := [.int (f_ins x2.toNatClampNeg), .ref h_values, .int (x2 * (10 : Int32))]) (rest := []) ⟨hx, hb, hml, hown, hG⟩ (c_St_addCurve l dC dI cI cJ cC h_p1 h_p1_values h_values f_p1_size u_p1_lowest u_p1_meet u_p1_join f_p1_sets f_values _ (f_ins x2.toNatClampNeg) (x2 * (10 : Int32)) f_p1_values H.size h) (gx_cwV (own := "LeanSets$Terms") 3 hG mw_440 mw_441 mw_442 mw_5 mw_443 (by decide +kernel) ⟨Nat.le_of_ble_eq_true rfl, Nat.le_of_ble_eq_true rfl⟩) ⟨fun a U g mk q => by obtain ⟨q0, q1, qP, qK, qD⟩ := q; exact ⟨q0, q1, qP, gx_K.same (u := U) (U := U.calling g mk a) rfl qK, qD⟩, va_recv hK hPc (ci := 2) (q0 := 0) rfl rfl, fun U hU hW => ⟨rfl, by rw [hU], by rw [hU]; exact hPc, gx_K.moved hW hN, hDc.weaken (fun _ _ _ _ => trivial)⟩⟩ rfl rfl hl.1 rfl (lv_room (Nat.le_of_ble_eq_true rfl)) d_Te_tellTo_45 ⟨Nat.le_of_ble_eq_true rfl, Nat.le_of_ble_eq_true rfl⟩) hS (fun q _ h => hFc q h) hFc (fun u t H1 locs ht hvm hw hB hz1 hk1 hS => ?_)
        obtain ⟨f_p1_values_45, rfl⟩ : ∃ z, z = u := ⟨_, rfl⟩
        obtain ⟨hP1, hD1⟩ := hB
        rw [ht] at hP1
        obtain ⟨hP, hD⟩ := va_join (wr := [(h_this, .inr (3, [.int f_size, .int f_length, .ref h_kinds, .ref h_ins, .ref h_outs, .ref h_values])), (h_kinds, .inl (cI, 30, .inl f_kinds)), (h_ins, .inl (cI, 30, .inl f_ins)), (h_outs, .inl (cI, 30, .inl f_outs))]) (w1 := [(h_p1, .inr (2, [.ref h_p1_values, .int f_p1_size, .int f_p1_sets, .long u_p1_lowest, .int u_p1_meet, .int u_p1_join])), (h_p1_values, .inl (cJ, 1024, .inr (.inl f_p1_values_45))), (h_values, .inl (cI, 300, .inl f_values))]) hP hD [1, 2, 5] [0, 3, 4, 6] rfl rfl (by decide) (by decide) hk1 hFc hP1 hD1
        clear hPc hDc hFc hk1 hP1 hD1 ht hvm
        generalize H1 = H at hP hS ⊢
        have hP := hP.sub (ws' := [(h_this, .inr (3, [.int f_size, .int f_length, .ref h_kinds, .ref h_ins, .ref h_outs, .ref h_values])), (h_p1, .inr (2, [.ref h_p1_values, .int f_p1_size, .int f_p1_sets, .long u_p1_lowest, .int u_p1_meet, .int u_p1_join])), (h_p1_values, .inl (cJ, 1024, .inr (.inl f_p1_values_45))), (h_kinds, .inl (cI, 30, .inl f_kinds)), (h_ins, .inl (cI, 30, .inl f_ins)), (h_values, .inl (cI, 300, .inl f_values)), (h_outs, .inl (cI, 30, .inl f_outs))]) [0, 4, 5, 1, 2, 6, 3] rfl
        have hD := hD.sub (ws' := [(h_this, .inr (3, [.int f_size, .int f_length, .ref h_kinds, .ref h_ins, .ref h_outs, .ref h_values])), (h_p1, .inr (2, [.ref h_p1_values, .int f_p1_size, .int f_p1_sets, .long u_p1_lowest, .int u_p1_meet, .int u_p1_join])), (h_p1_values, .inl (cJ, 1024, .inr (.inl f_p1_values_45))), (h_kinds, .inl (cI, 30, .inl f_kinds)), (h_ins, .inl (cI, 30, .inl f_ins)), (h_values, .inl (cI, 300, .inl f_values)), (h_outs, .inl (cI, 30, .inl f_outs))]) [0, 4, 5, 1, 2, 6, 3] (by decide) rfl
        have h := hw
        try dsimp only at h
        refine lv_goto (tgt := 74) hx hb d_Te_tellTo_48 (by decide) ?_
        exact wk_Te_tellTo_74 dC dI cI cJ cC A hA C0 hN h_this h_p1 h_p1_values h_kinds h_ins h_values h_outs u_p1_lowest u_p1_meet u_p1_join f_size f_length f_kinds f_ins f_values f_outs post (fun (x2 : Int32) (f_p1_size : Int32) (f_p1_sets : Int32) (f_p1_values : Nat → Int64) => wp_Te_tellTo_10 f_size f_length f_kinds f_ins f_values f_outs post n x2 f_p1_size f_p1_sets f_p1_values) (fun x2 f_p1_size f_p1_sets f_p1_values h => ih x2 f_p1_size f_p1_sets f_p1_values h) x2 f_p1_size f_p1_sets f_p1_values_45 h _ _ _ hP hD hS (lv_sub hl [1, 2, 3] rfl)
def wp_Te_tellTo_0 (f_size : Int32) (f_length : Int32) (f_kinds : Nat → Int32) (f_ins : Nat → Int32) (f_values : Nat → Int32) (f_outs : Nat → Int32) (post : Int32 → Int32 → (Nat → Int64) → Prop)  (f_p1_size : Int32) (f_p1_sets : Int32) (f_p1_values : Nat → Int64) : Prop := wp_St_clear_0 (fun (f_p1_size_5 : Int32) (f_p1_sets_5 : Int32) (f_p1_values_5 : Nat → Int64) => ∃ n_ : Nat, wp_Te_tellTo_10 f_size f_length f_kinds f_ins f_values f_outs post n_ (0 : Int32) f_p1_size_5 f_p1_sets_5 f_p1_values_5) f_size f_p1_size f_p1_sets f_p1_values
set_option maxHeartbeats 4000000 in
set_option maxRecDepth 100000 in
theorem wk_Te_tellTo_0 {p : Program} {l : Launch} {e : Env} {s : State} {m : MethodId} {args : Array Value} {below : List Frame} {meth : Method} {c : Code} (dC : Nat → ClassId) (dI : Nat → Nat → Nat) (cI cJ cC : ClassId) (A : Nat → Prop) (hA : ∀ q : Nat, s.heap.size ≤ q → A q) (C0 : gx_C p s m meth c args "LeanSets$Terms" prog_5_method_4_code 4 (Option.none : Option Jvm.ClassFile.FieldType)) (hN : gx_K dC dI cI cJ cC s)  (h_this h_p1 h_p1_values h_kinds h_ins h_values h_outs : Nat) (u_p1_lowest : Int64) (u_p1_meet : Int32) (u_p1_join : Int32) (f_size : Int32) (f_length : Int32) (f_kinds : Nat → Int32) (f_ins : Nat → Int32) (f_values : Nat → Int32) (f_outs : Nat → Int32) (post : Int32 → Int32 → (Nat → Int64) → Prop)   : ∀ (f_p1_size : Int32) (f_p1_sets : Int32) (f_p1_values : Nat → Int64), wp_Te_tellTo_0 f_size f_length f_kinds f_ins f_values f_outs post f_p1_size f_p1_sets f_p1_values → ∀ (H : Heap) (locs : List Loc) (ls : Array Slot), va_P (dC, dI) classes [(h_this, .inr (3, [.int f_size, .int f_length, .ref h_kinds, .ref h_ins, .ref h_outs, .ref h_values])), (h_p1, .inr (2, [.ref h_p1_values, .int f_p1_size, .int f_p1_sets, .long u_p1_lowest, .int u_p1_meet, .int u_p1_join])), (h_p1_values, .inl (cJ, 1024, .inr (.inl f_p1_values))), (h_kinds, .inl (cI, 30, .inl f_kinds)), (h_ins, .inl (cI, 30, .inl f_ins)), (h_values, .inl (cI, 300, .inl f_values)), (h_outs, .inl (cI, 30, .inl f_outs))] H → va_D A [(h_this, .inr (3, [.int f_size, .int f_length, .ref h_kinds, .ref h_ins, .ref h_outs, .ref h_values])), (h_p1, .inr (2, [.ref h_p1_values, .int f_p1_size, .int f_p1_sets, .long u_p1_lowest, .int u_p1_meet, .int u_p1_join])), (h_p1_values, .inl (cJ, 1024, .inr (.inl f_p1_values))), (h_kinds, .inl (cI, 30, .inl f_kinds)), (h_ins, .inl (cI, 30, .inl f_ins)), (h_values, .inl (cI, 300, .inl f_values)), (h_outs, .inl (cI, 30, .inl f_outs))] → va_S A s.heap H locs → lv_has ls 4 [(0, .ref h_this), (1, .ref h_p1)] → W p l e { frames := 2, cells := 0, slots := 0, locals := 45 } s m args below meth c H locs 0 0 (MQ below (va_Qv (fun (u : Int32 × Int32 × (Nat → Int64)) => post u.1 u.2.1 u.2.2) (fun (u : Int32 × Int32 × (Nat → Int64)) (t : State) => va_P (dC, dI) classes [(h_this, .inr (3, [.int f_size, .int f_length, .ref h_kinds, .ref h_ins, .ref h_outs, .ref h_values])), (h_p1, .inr (2, [.ref h_p1_values, .int u.1, .int u.2.1, .long u_p1_lowest, .int u_p1_meet, .int u_p1_join])), (h_p1_values, .inl (cJ, 1024, .inr (.inl u.2.2))), (h_kinds, .inl (cI, 30, .inl f_kinds)), (h_ins, .inl (cI, 30, .inl f_ins)), (h_values, .inl (cI, 300, .inl f_values)), (h_outs, .inl (cI, 30, .inl f_outs))] t.heap ∧ va_D A [(h_this, .inr (3, [.int f_size, .int f_length, .ref h_kinds, .ref h_ins, .ref h_outs, .ref h_values])), (h_p1, .inr (2, [.ref h_p1_values, .int u.1, .int u.2.1, .long u_p1_lowest, .int u_p1_meet, .int u_p1_join])), (h_p1_values, .inl (cJ, 1024, .inr (.inl u.2.2))), (h_kinds, .inl (cI, 30, .inl f_kinds)), (h_ins, .inl (cI, 30, .inl f_ins)), (h_values, .inl (cI, 300, .inl f_values)), (h_outs, .inl (cI, 30, .inl f_outs))]) A) args s 0 0 A) (F0 m 0 ls []) := by
  obtain ⟨hx, hb, hr, hml, hown, hlocks, hG⟩ := id C0
  have hK := hN.1
  intro f_p1_size f_p1_sets f_p1_values h H locs ls hP hD hS hl
  rw [wp_Te_tellTo_0] at h
  refine lv_aload_n hx hb d_Te_tellTo_0 rfl (lv_at hl 1 rfl) ?_
  refine lv_aload_n hx hb d_Te_tellTo_1 rfl (lv_at hl 0 rfl) ?_
  refine va_get (D := (dC, dI)) (ci := 3) (v := .int f_size) (C := "LeanSets$Terms") (T := T_Te) (N := 6) hx hb hG in_Te hown hK hP 0 rfl rfl 0 (Nat.le_of_ble_eq_true rfl) (hG _ mw_72) (fun _ h9 => h9) rfl d_Te_tellTo_2 ?_
  have hPc := hP.sub (ws' := [(h_p1, .inr (2, [.ref h_p1_values, .int f_p1_size, .int f_p1_sets, .long u_p1_lowest, .int u_p1_meet, .int u_p1_join])), (h_p1_values, .inl (cJ, 1024, .inr (.inl f_p1_values)))]) [1, 2] rfl
  have hDc := hD.sub (ws' := [(h_p1, .inr (2, [.ref h_p1_values, .int f_p1_size, .int f_p1_sets, .long u_p1_lowest, .int u_p1_meet, .int u_p1_join])), (h_p1_values, .inl (cJ, 1024, .inr (.inl f_p1_values)))]) [1, 2] (by decide) rfl
  have hFc := va_free (wc := [(h_p1, .inr (2, [.ref h_p1_values, .int f_p1_size, .int f_p1_sets, .long u_p1_lowest, .int u_p1_meet, .int u_p1_join])), (h_p1_values, .inl (cJ, 1024, .inr (.inl f_p1_values)))]) hD hS hA [1, 2] rfl
  refine va_callv (va_runV (As := [.int f_size]) (rest := []) ⟨hx, hb, hml, hown, hG⟩ (c_St_clear l dC dI cI cJ cC h_p1 h_p1_values u_p1_lowest u_p1_meet u_p1_join _ f_size f_p1_size f_p1_sets f_p1_values H.size h) (gx_cwV (own := "LeanSets$Terms") 1 hG mw_436 mw_437 mw_438 mw_5 mw_439 (by decide +kernel) ⟨Nat.le_of_ble_eq_true rfl, Nat.le_of_ble_eq_true rfl⟩) ⟨fun a U g mk q => by obtain ⟨q0, q1, qP, qK, qD⟩ := q; exact ⟨q0, q1, qP, gx_K.same (u := U) (U := U.calling g mk a) rfl qK, qD⟩, va_recv hK hPc (ci := 2) (q0 := 0) rfl rfl, fun U hU hW => ⟨rfl, by rw [hU], by rw [hU]; exact hPc, gx_K.moved hW hN, hDc.weaken (fun _ _ _ _ => trivial)⟩⟩ rfl rfl hl.1 rfl (lv_room (Nat.le_of_ble_eq_true rfl)) d_Te_tellTo_5 ⟨Nat.le_of_ble_eq_true rfl, Nat.le_of_ble_eq_true rfl⟩) hS (fun q _ h => hFc q h) hFc (fun u t H1 locs ht hvm hw hB hz1 hk1 hS => ?_)
  obtain ⟨f_p1_size_5, f_p1_sets_5, f_p1_values_5⟩ := u
  obtain ⟨hP1, hD1⟩ := hB
  rw [ht] at hP1
  obtain ⟨hP, hD⟩ := va_join (wr := [(h_this, .inr (3, [.int f_size, .int f_length, .ref h_kinds, .ref h_ins, .ref h_outs, .ref h_values])), (h_kinds, .inl (cI, 30, .inl f_kinds)), (h_ins, .inl (cI, 30, .inl f_ins)), (h_values, .inl (cI, 300, .inl f_values)), (h_outs, .inl (cI, 30, .inl f_outs))]) (w1 := [(h_p1, .inr (2, [.ref h_p1_values, .int f_p1_size_5, .int f_p1_sets_5, .long u_p1_lowest, .int u_p1_meet, .int u_p1_join])), (h_p1_values, .inl (cJ, 1024, .inr (.inl f_p1_values_5)))]) hP hD [1, 2] [0, 3, 4, 5, 6] rfl rfl (by decide) (by decide) hk1 hFc hP1 hD1
  clear hPc hDc hFc hk1 hP1 hD1 ht hvm
  generalize H1 = H at hP hS ⊢
  have hP := hP.sub (ws' := [(h_this, .inr (3, [.int f_size, .int f_length, .ref h_kinds, .ref h_ins, .ref h_outs, .ref h_values])), (h_p1, .inr (2, [.ref h_p1_values, .int f_p1_size_5, .int f_p1_sets_5, .long u_p1_lowest, .int u_p1_meet, .int u_p1_join])), (h_p1_values, .inl (cJ, 1024, .inr (.inl f_p1_values_5))), (h_kinds, .inl (cI, 30, .inl f_kinds)), (h_ins, .inl (cI, 30, .inl f_ins)), (h_values, .inl (cI, 300, .inl f_values)), (h_outs, .inl (cI, 30, .inl f_outs))]) [0, 5, 6, 1, 2, 3, 4] rfl
  have hD := hD.sub (ws' := [(h_this, .inr (3, [.int f_size, .int f_length, .ref h_kinds, .ref h_ins, .ref h_outs, .ref h_values])), (h_p1, .inr (2, [.ref h_p1_values, .int f_p1_size_5, .int f_p1_sets_5, .long u_p1_lowest, .int u_p1_meet, .int u_p1_join])), (h_p1_values, .inl (cJ, 1024, .inr (.inl f_p1_values_5))), (h_kinds, .inl (cI, 30, .inl f_kinds)), (h_ins, .inl (cI, 30, .inl f_ins)), (h_values, .inl (cI, 300, .inl f_values)), (h_outs, .inl (cI, 30, .inl f_outs))]) [0, 5, 6, 1, 2, 3, 4] (by decide) rfl
  have h := hw
  try dsimp only at h
  refine lv_iconst (v := 0) hx hb d_Te_tellTo_8 (by decide) ?_
  refine lv_istore_n (lv' := [(2, .int (0 : Int32)), (0, .ref h_this), (1, .ref h_p1)]) hx hb d_Te_tellTo_9 rfl hl (by decide) rfl (fun ls hl => ?_)
  obtain ⟨n_, h⟩ := h
  exact wk_Te_tellTo_10 dC dI cI cJ cC A hA C0 hN h_this h_p1 h_p1_values h_kinds h_ins h_values h_outs u_p1_lowest u_p1_meet u_p1_join f_size f_length f_kinds f_ins f_values f_outs post   n_ (0 : Int32) f_p1_size_5 f_p1_sets_5 f_p1_values_5 h _ _ _ hP hD hS (lv_sub hl [1, 2, 0] rfl)
set_option maxHeartbeats 4000000 in
set_option maxRecDepth 100000 in
theorem c_Te_tellTo (l : Launch) (dC : Nat → ClassId) (dI : Nat → Nat → Nat) (cI cJ cC : ClassId) (h_this h_p1 h_p1_values h_kinds h_ins h_values h_outs : Nat) (u_p1_lowest : Int64) (u_p1_meet : Int32) (u_p1_join : Int32) (f_size : Int32) (f_length : Int32) (f_kinds : Nat → Int32) (f_ins : Nat → Int32) (f_values : Nat → Int32) (f_outs : Nat → Int32) (post : Int32 → Int32 → (Nat → Int64) → Prop) (f_p1_size : Int32) (f_p1_sets : Int32) (f_p1_values : Nat → Int64) (sz : Nat) (h : wp_Te_tellTo_0 f_size f_length f_kinds f_ins f_values f_outs post f_p1_size f_p1_sets f_p1_values) : Met l y_Te_tellTo (.code y_Te_tellTo prog_5_method_4_code 4 (Option.none : Option Jvm.ClassFile.FieldType) :: gx_G) ({ frames := 2, cells := 0, slots := 0, locals := 45 }) (va_Pc [.ref h_this, .ref h_p1] (fun U => U.heap.size = sz ∧ va_P (dC, dI) classes [(h_this, .inr (3, [.int f_size, .int f_length, .ref h_kinds, .ref h_ins, .ref h_outs, .ref h_values])), (h_p1, .inr (2, [.ref h_p1_values, .int f_p1_size, .int f_p1_sets, .long u_p1_lowest, .int u_p1_meet, .int u_p1_join])), (h_p1_values, .inl (cJ, 1024, .inr (.inl f_p1_values))), (h_kinds, .inl (cI, 30, .inl f_kinds)), (h_ins, .inl (cI, 30, .inl f_ins)), (h_values, .inl (cI, 300, .inl f_values)), (h_outs, .inl (cI, 30, .inl f_outs))] U.heap ∧ gx_K dC dI cI cJ cC U ∧ va_D (fun _ => True) [(h_this, .inr (3, [.int f_size, .int f_length, .ref h_kinds, .ref h_ins, .ref h_outs, .ref h_values])), (h_p1, .inr (2, [.ref h_p1_values, .int f_p1_size, .int f_p1_sets, .long u_p1_lowest, .int u_p1_meet, .int u_p1_join])), (h_p1_values, .inl (cJ, 1024, .inr (.inl f_p1_values))), (h_kinds, .inl (cI, 30, .inl f_kinds)), (h_ins, .inl (cI, 30, .inl f_ins)), (h_values, .inl (cI, 300, .inl f_values)), (h_outs, .inl (cI, 30, .inl f_outs))])) (va_Qv (fun (u : Int32 × Int32 × (Nat → Int64)) => post u.1 u.2.1 u.2.2) (fun (u : Int32 × Int32 × (Nat → Int64)) (t : State) => va_P (dC, dI) classes [(h_this, .inr (3, [.int f_size, .int f_length, .ref h_kinds, .ref h_ins, .ref h_outs, .ref h_values])), (h_p1, .inr (2, [.ref h_p1_values, .int u.1, .int u.2.1, .long u_p1_lowest, .int u_p1_meet, .int u_p1_join])), (h_p1_values, .inl (cJ, 1024, .inr (.inl u.2.2))), (h_kinds, .inl (cI, 30, .inl f_kinds)), (h_ins, .inl (cI, 30, .inl f_ins)), (h_values, .inl (cI, 300, .inl f_values)), (h_outs, .inl (cI, 30, .inl f_outs))] t.heap ∧ va_D (va_A [(h_this, .inr (3, [.int f_size, .int f_length, .ref h_kinds, .ref h_ins, .ref h_outs, .ref h_values])), (h_p1, .inr (2, [.ref h_p1_values, .int f_p1_size, .int f_p1_sets, .long u_p1_lowest, .int u_p1_meet, .int u_p1_join])), (h_p1_values, .inl (cJ, 1024, .inr (.inl f_p1_values))), (h_kinds, .inl (cI, 30, .inl f_kinds)), (h_ins, .inl (cI, 30, .inl f_ins)), (h_values, .inl (cI, 300, .inl f_values)), (h_outs, .inl (cI, 30, .inl f_outs))] sz) [(h_this, .inr (3, [.int f_size, .int f_length, .ref h_kinds, .ref h_ins, .ref h_outs, .ref h_values])), (h_p1, .inr (2, [.ref h_p1_values, .int u.1, .int u.2.1, .long u_p1_lowest, .int u_p1_meet, .int u_p1_join])), (h_p1_values, .inl (cJ, 1024, .inr (.inl u.2.2))), (h_kinds, .inl (cI, 30, .inl f_kinds)), (h_ins, .inl (cI, 30, .inl f_ins)), (h_values, .inl (cI, 300, .inl f_values)), (h_outs, .inl (cI, 30, .inl f_outs))]) (va_A [(h_this, .inr (3, [.int f_size, .int f_length, .ref h_kinds, .ref h_ins, .ref h_outs, .ref h_values])), (h_p1, .inr (2, [.ref h_p1_values, .int f_p1_size, .int f_p1_sets, .long u_p1_lowest, .int u_p1_meet, .int u_p1_join])), (h_p1_values, .inl (cJ, 1024, .inr (.inl f_p1_values))), (h_kinds, .inl (cI, 30, .inl f_kinds)), (h_ins, .inl (cI, 30, .inl f_ins)), (h_values, .inl (cI, 300, .inl f_values)), (h_outs, .inl (cI, 30, .inl f_outs))] sz)) 0 0 (va_A [(h_this, .inr (3, [.int f_size, .int f_length, .ref h_kinds, .ref h_ins, .ref h_outs, .ref h_values])), (h_p1, .inr (2, [.ref h_p1_values, .int f_p1_size, .int f_p1_sets, .long u_p1_lowest, .int u_p1_meet, .int u_p1_join])), (h_p1_values, .inl (cJ, 1024, .inr (.inl f_p1_values))), (h_kinds, .inl (cI, 30, .inl f_kinds)), (h_ins, .inl (cI, 30, .inl f_ins)), (h_values, .inl (cI, 300, .inl f_values)), (h_outs, .inl (cI, 30, .inl f_outs))] sz) := by
  refine Met.ofW (cc := prog_5_method_4_code) (maxL := 4) (ret := (Option.none : Option Jvm.ClassFile.FieldType)) (by decide +kernel) rfl ?_
  intro p e s m args below meth c s₁ B hml hv
  obtain ⟨rfl, hsz, hP, hN, hD0⟩ := hv
  have hts := atoms_spec (ws := (.code y_Te_tellTo prog_5_method_4_code 4 (Option.none : Option Jvm.ClassFile.FieldType) :: gx_G)) B.pre
  have C0 : gx_C p s m meth c _ "LeanSets$Terms" prog_5_method_4_code 4 (Option.none : Option Jvm.ClassFile.FieldType) := ⟨B.exec, B.bytes, B.returns, hml, findClass_of_methodNamed B.named, B.notSynchronized, fun w hw => hts w (List.mem_cons_of_mem _ hw)⟩
  subst hsz
  have hD := hD0.self (sz := s.heap.size)
  generalize hAe : va_A [(h_this, .inr (3, [.int f_size, .int f_length, .ref h_kinds, .ref h_ins, .ref h_outs, .ref h_values])), (h_p1, .inr (2, [.ref h_p1_values, .int f_p1_size, .int f_p1_sets, .long u_p1_lowest, .int u_p1_meet, .int u_p1_join])), (h_p1_values, .inl (cJ, 1024, .inr (.inl f_p1_values))), (h_kinds, .inl (cI, 30, .inl f_kinds)), (h_ins, .inl (cI, 30, .inl f_ins)), (h_values, .inl (cI, 300, .inl f_values)), (h_outs, .inl (cI, 30, .inl f_outs))] s.heap.size = A at hD ⊢
  have hA : ∀ q : Nat, s.heap.size ≤ q → A q := fun q h => by rw [← hAe]; exact Or.inr h
  have hl := lv_entry ([.ref h_this, .ref h_p1]) (n := 4) (Nat.le_of_ble_eq_true rfl)
  rw [lg_entry_eq]
  generalize (lg_sl ([.ref h_this, .ref h_p1]) ++ List.replicate (4 - (lg_sl ([.ref h_this, .ref h_p1])).length) Slot.unset).toArray = ls at hl ⊢
  exact wk_Te_tellTo_0 dC dI cI cJ cC A hA C0 hN h_this h_p1 h_p1_values h_kinds h_ins h_values h_outs u_p1_lowest u_p1_meet u_p1_join f_size f_length f_kinds f_ins f_values f_outs post f_p1_size f_p1_sets f_p1_values h s.heap [] ls hP hD va_S.rf hl
