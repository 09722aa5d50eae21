/-! LeanSets$Words.append(C)V -/
def y_Wo_append : MethodName := ⟨"LeanSets$Words", "append", "(C)V"⟩
theorem d_Wo_append_0 : decode prog_7_method_2_code 0 = .ok (.aload_n 0, 1) := by decide +kernel
theorem d_Wo_append_1 : decode prog_7_method_2_code 1 = .ok (.getfield 25, 3) := by decide +kernel
theorem d_Wo_append_4 : decode prog_7_method_2_code 4 = .ok (.sipush 600, 3) := by decide +kernel
theorem d_Wo_append_7 : decode prog_7_method_2_code 7 = .ok (.if_icmp .ge 23, 3) := by decide +kernel
theorem d_Wo_append_10 : decode prog_7_method_2_code 10 = .ok (.aload_n 0, 1) := by decide +kernel
theorem d_Wo_append_11 : decode prog_7_method_2_code 11 = .ok (.getfield 9, 3) := by decide +kernel
theorem d_Wo_append_14 : decode prog_7_method_2_code 14 = .ok (.aload_n 0, 1) := by decide +kernel
theorem d_Wo_append_15 : decode prog_7_method_2_code 15 = .ok (.getfield 25, 3) := by decide +kernel
theorem d_Wo_append_18 : decode prog_7_method_2_code 18 = .ok (.iload_n 1, 1) := by decide +kernel
theorem d_Wo_append_19 : decode prog_7_method_2_code 19 = .ok (.castore, 1) := by decide +kernel
theorem d_Wo_append_20 : decode prog_7_method_2_code 20 = .ok (.aload_n 0, 1) := by decide +kernel
theorem d_Wo_append_21 : decode prog_7_method_2_code 21 = .ok (.dup, 1) := by decide +kernel
theorem d_Wo_append_22 : decode prog_7_method_2_code 22 = .ok (.getfield 25, 3) := by decide +kernel
theorem d_Wo_append_25 : decode prog_7_method_2_code 25 = .ok (.iconst 1, 1) := by decide +kernel
theorem d_Wo_append_26 : decode prog_7_method_2_code 26 = .ok (.iadd, 1) := by decide +kernel
theorem d_Wo_append_27 : decode prog_7_method_2_code 27 = .ok (.putfield 25, 3) := by decide +kernel
theorem d_Wo_append_30 : decode prog_7_method_2_code 30 = .ok (.return_, 1) := by decide +kernel
def wp_Wo_append_30  (post : Int32 → (Nat → Int32) → Prop)  (f_length : Int32) (f_text : Nat → Int32) : Prop := post f_length f_text
set_option maxHeartbeats 4000000 in
set_option maxRecDepth 100000 in
theorem wk_Wo_append_30 {p : Program} {l : Launch} {e : Env} {s : State} {m : MethodId} {args : Array Value} {below : List Frame} {meth : Method} {c : Code} (dC : Nat → ClassId) (dI : Nat → Nat → Nat) (cI cJ cC : ClassId) (A : Nat → Prop) (hA : ∀ q : Nat, s.heap.size ≤ q → A q) (C0 : gx_C p s m meth c args "LeanSets$Words" prog_7_method_2_code 2 (Option.none : Option Jvm.ClassFile.FieldType)) (hN : gx_K dC dI cI cJ cC s)  (h_this h_text h_kinds h_places h_numbers : Nat) (u_words : Int32) (post : Int32 → (Nat → Int32) → Prop)   : ∀ (f_length : Int32) (f_text : Nat → Int32), wp_Wo_append_30 post f_length f_text → ∀ (H : Heap) (locs : List Loc) (ls : Array Slot), va_P (dC, dI) classes [(h_this, .inr (5, [.ref h_text, .int f_length, .ref h_kinds, .ref h_places, .ref h_numbers, .int u_words])), (h_text, .inl (cC, 600, .inl f_text))] H → va_D A [(h_this, .inr (5, [.ref h_text, .int f_length, .ref h_kinds, .ref h_places, .ref h_numbers, .int u_words])), (h_text, .inl (cC, 600, .inl f_text))] → va_S A s.heap H locs → lv_has ls 2 [] → W p l e { frames := 0, cells := 0, slots := 0, locals := 0 } s m args below meth c H locs 0 0 (MQ below (va_Qv (fun (u : Int32 × (Nat → Int32)) => post u.1 u.2) (fun (u : Int32 × (Nat → Int32)) (t : State) => va_P (dC, dI) classes [(h_this, .inr (5, [.ref h_text, .int u.1, .ref h_kinds, .ref h_places, .ref h_numbers, .int u_words])), (h_text, .inl (cC, 600, .inl u.2))] t.heap ∧ va_D A [(h_this, .inr (5, [.ref h_text, .int u.1, .ref h_kinds, .ref h_places, .ref h_numbers, .int u_words])), (h_text, .inl (cC, 600, .inl u.2))]) A) args s 0 0 A) (F0 m 30 ls []) := by
  obtain ⟨hx, hb, hr, hml, hown, hlocks, hG⟩ := id C0
  have hK := hN.1
  intro f_length f_text h H locs ls hP hD hS hl
  rw [wp_Wo_append_30] at h
  exact W.vret hx hb hr (fun t ht hW => ⟨⟨(f_length, f_text), rfl, h, by rw [ht]; exact hP, hD⟩, hS.F ht⟩) hS.2.2 d_Wo_append_30 hlocks
def wp_Wo_append_0  (post : Int32 → (Nat → Int32) → Prop)  (x1 : Int32) (f_length : Int32) (f_text : Nat → Int32) : Prop := (((600 : Int32) ≤ f_length) → (wp_Wo_append_30 post f_length f_text)) ∧ ((¬ ((600 : Int32) ≤ f_length)) → ((vp_in f_length 600) ∧ (wp_Wo_append_30 post (f_length + (1 : Int32)) (upd f_text f_length.toNatClampNeg (vp_nar .char x1)))))
set_option maxHeartbeats 4000000 in
set_option maxRecDepth 100000 in
theorem wk_Wo_append_0 {p : Program} {l : Launch} {e : Env} {s : State} {m : MethodId} {args : Array Value} {below : List Frame} {meth : Method} {c : Code} (dC : Nat → ClassId) (dI : Nat → Nat → Nat) (cI cJ cC : ClassId) (A : Nat → Prop) (hA : ∀ q : Nat, s.heap.size ≤ q → A q) (C0 : gx_C p s m meth c args "LeanSets$Words" prog_7_method_2_code 2 (Option.none : Option Jvm.ClassFile.FieldType)) (hN : gx_K dC dI cI cJ cC s)  (h_this h_text h_kinds h_places h_numbers : Nat) (u_words : Int32) (post : Int32 → (Nat → Int32) → Prop)   : ∀ (x1 : Int32) (f_length : Int32) (f_text : Nat → Int32), wp_Wo_append_0 post x1 f_length f_text → ∀ (H : Heap) (locs : List Loc) (ls : Array Slot), va_P (dC, dI) classes [(h_this, .inr (5, [.ref h_text, .int f_length, .ref h_kinds, .ref h_places, .ref h_numbers, .int u_words])), (h_text, .inl (cC, 600, .inl f_text))] H → va_D A [(h_this, .inr (5, [.ref h_text, .int f_length, .ref h_kinds, .ref h_places, .ref h_numbers, .int u_words])), (h_text, .inl (cC, 600, .inl f_text))] → va_S A s.heap H locs → lv_has ls 2 [(0, .ref h_this), (1, .int x1)] → W p l e { frames := 0, cells := 0, slots := 0, locals := 0 } s m args below meth c H locs 0 0 (MQ below (va_Qv (fun (u : Int32 × (Nat → Int32)) => post u.1 u.2) (fun (u : Int32 × (Nat → Int32)) (t : State) => va_P (dC, dI) classes [(h_this, .inr (5, [.ref h_text, .int u.1, .ref h_kinds, .ref h_places, .ref h_numbers, .int u_words])), (h_text, .inl (cC, 600, .inl u.2))] t.heap ∧ va_D A [(h_this, .inr (5, [.ref h_text, .int u.1, .ref h_kinds, .ref h_places, .ref h_numbers, .int u_words])), (h_text, .inl (cC, 600, .inl u.2))]) A) args s 0 0 A) (F0 m 0 ls []) := by
  obtain ⟨hx, hb, hr, hml, hown, hlocks, hG⟩ := id C0
  have hK := hN.1
  intro x1 f_length f_text h H locs ls hP hD hS hl
  rw [wp_Wo_append_0] at h
  refine lv_aload_n hx hb d_Wo_append_0 rfl (lv_at hl 0 rfl) ?_
  refine va_get (D := (dC, dI)) (ci := 5) (v := .int f_length) (C := "LeanSets$Words") (T := T_Wo) (N := 6) hx hb hG in_Wo hown hK hP 0 rfl rfl 1 (Nat.le_of_ble_eq_true rfl) (hG _ mw_42) (fun _ h9 => h9) rfl d_Wo_append_1 ?_
  refine lv_sipush (v := 600) hx hb d_Wo_append_4 (by decide) ?_
  refine lv_icmp_ge (tgt := 30) hx hb d_Wo_append_7 (by decide) (fun c_ => ?_) (fun c_ => ?_)
  · have h := h.1 c_
    exact wk_Wo_append_30 dC dI cI cJ cC A hA C0 hN h_this h_text h_kinds h_places h_numbers u_words post   f_length f_text h _ _ _ hP hD hS (lv_sub hl [] rfl)
  · have h := h.2 c_
    refine lv_aload_n hx hb d_Wo_append_10 rfl (lv_at hl 0 rfl) ?_
    refine va_get (D := (dC, dI)) (ci := 5) (v := .ref h_text) (C := "LeanSets$Words") (T := T_Wo) (N := 6) hx hb hG in_Wo hown hK hP 0 rfl rfl 0 (Nat.le_of_ble_eq_true rfl) (hG _ mw_41) (fun _ h9 => h9) rfl d_Wo_append_11 ?_
    refine lv_aload_n hx hb d_Wo_append_14 rfl (lv_at hl 0 rfl) ?_
    refine va_get (D := (dC, dI)) (ci := 5) (v := .int f_length) (C := "LeanSets$Words") (T := T_Wo) (N := 6) hx hb hG in_Wo hown hK hP 0 rfl rfl 1 (Nat.le_of_ble_eq_true rfl) (hG _ mw_42) (fun _ h9 => h9) rfl d_Wo_append_15 ?_
    refine lv_iload_n hx hb d_Wo_append_18 rfl (lv_at hl 1 rfl) ?_
    obtain ⟨g_, h⟩ := h
    refine va_cast hx hb hK hP hD hS 1 2 rfl rfl g_ d_Wo_append_19 (fun H locs hP hD hS => ?_)
    have hP : va_P (dC, dI) classes [(h_this, .inr (5, [.ref h_text, .int f_length, .ref h_kinds, .ref h_places, .ref h_numbers, .int u_words])), (h_text, .inl (cC, 600, .inl (upd f_text f_length.toNatClampNeg (vp_nar .char x1))))] H := hP
    have hD : va_D A [(h_this, .inr (5, [.ref h_text, .int f_length, .ref h_kinds, .ref h_places, .ref h_numbers, .int u_words])), (h_text, .inl (cC, 600, .inl (upd f_text f_length.toNatClampNeg (vp_nar .char x1))))] := hD
    refine lv_aload_n hx hb d_Wo_append_20 rfl (lv_at hl 0 rfl) ?_
    refine lv_dup hx hb d_Wo_append_21 rfl ?_
    refine va_get (D := (dC, dI)) (ci := 5) (v := .int f_length) (C := "LeanSets$Words") (T := T_Wo) (N := 6) hx hb hG in_Wo hown hK hP 0 rfl rfl 1 (Nat.le_of_ble_eq_true rfl) (hG _ mw_42) (fun _ h9 => h9) rfl d_Wo_append_22 ?_
    refine lv_iconst (v := 1) hx hb d_Wo_append_25 (by decide) ?_
    refine lv_iadd hx hb d_Wo_append_26 ?_
    refine va_put (D := (dC, dI)) (ci := 5) (v := .int (f_length + (1 : Int32))) (ty := .int) (C := "LeanSets$Words") (T := T_Wo) (N := 6) hx hb hG in_Wo ty_Wo ty_Wo_ok nm_Wo hown hK hP hD hS 0 rfl rfl 1 (Nat.le_of_ble_eq_true rfl) (hG _ mw_42) (fun _ h9 => h9) rfl (ty_Wo_ok 1 (Nat.le_of_ble_eq_true rfl)) rfl rfl (Nat.le_of_ble_eq_true rfl) d_Wo_append_27 (fun H locs hP hD hS => ?_)
    have hP : va_P (dC, dI) classes [(h_this, .inr (5, [.ref h_text, .int (f_length + (1 : Int32)), .ref h_kinds, .ref h_places, .ref h_numbers, .int u_words])), (h_text, .inl (cC, 600, .inl (upd f_text f_length.toNatClampNeg (vp_nar .char x1))))] H := hP
    have hD : va_D A [(h_this, .inr (5, [.ref h_text, .int (f_length + (1 : Int32)), .ref h_kinds, .ref h_places, .ref h_numbers, .int u_words])), (h_text, .inl (cC, 600, .inl (upd f_text f_length.toNatClampNeg (vp_nar .char x1))))] := hD
    exact wk_Wo_append_30 dC dI cI cJ cC A hA C0 hN h_this h_text h_kinds h_places h_numbers u_words post   (f_length + (1 : Int32)) (upd f_text f_length.toNatClampNeg (vp_nar .char x1)) h _ _ _ hP hD hS (lv_sub hl [] rfl)
set_option maxHeartbeats 4000000 in
set_option maxRecDepth 100000 in
theorem c_Wo_append (l : Launch) (dC : Nat → ClassId) (dI : Nat → Nat → Nat) (cI cJ cC : ClassId) (h_this h_text h_kinds h_places h_numbers : Nat) (u_words : Int32) (post : Int32 → (Nat → Int32) → Prop) (x1 : Int32) (f_length : Int32) (f_text : Nat → Int32) (sz : Nat) (h : wp_Wo_append_0 post x1 f_length f_text) : Met l y_Wo_append (.code y_Wo_append prog_7_method_2_code 2 (Option.none : Option Jvm.ClassFile.FieldType) :: gx_G) ({ frames := 0, cells := 0, slots := 0, locals := 0 }) (va_Pc [.ref h_this, .int x1] (fun U => U.heap.size = sz ∧ va_P (dC, dI) classes [(h_this, .inr (5, [.ref h_text, .int f_length, .ref h_kinds, .ref h_places, .ref h_numbers, .int u_words])), (h_text, .inl (cC, 600, .inl f_text))] U.heap ∧ gx_K dC dI cI cJ cC U ∧ va_D (fun _ => True) [(h_this, .inr (5, [.ref h_text, .int f_length, .ref h_kinds, .ref h_places, .ref h_numbers, .int u_words])), (h_text, .inl (cC, 600, .inl f_text))])) (va_Qv (fun (u : Int32 × (Nat → Int32)) => post u.1 u.2) (fun (u : Int32 × (Nat → Int32)) (t : State) => va_P (dC, dI) classes [(h_this, .inr (5, [.ref h_text, .int u.1, .ref h_kinds, .ref h_places, .ref h_numbers, .int u_words])), (h_text, .inl (cC, 600, .inl u.2))] t.heap ∧ va_D (va_A [(h_this, .inr (5, [.ref h_text, .int f_length, .ref h_kinds, .ref h_places, .ref h_numbers, .int u_words])), (h_text, .inl (cC, 600, .inl f_text))] sz) [(h_this, .inr (5, [.ref h_text, .int u.1, .ref h_kinds, .ref h_places, .ref h_numbers, .int u_words])), (h_text, .inl (cC, 600, .inl u.2))]) (va_A [(h_this, .inr (5, [.ref h_text, .int f_length, .ref h_kinds, .ref h_places, .ref h_numbers, .int u_words])), (h_text, .inl (cC, 600, .inl f_text))] sz)) 0 0 (va_A [(h_this, .inr (5, [.ref h_text, .int f_length, .ref h_kinds, .ref h_places, .ref h_numbers, .int u_words])), (h_text, .inl (cC, 600, .inl f_text))] sz) := by
  refine Met.ofW (cc := prog_7_method_2_code) (maxL := 2) (ret := (Option.none : Option Jvm.ClassFile.FieldType)) (by decide +kernel) rfl ?_
  intro p e s m args below meth c s₁ B hml hv
  obtain ⟨rfl, hsz, hP, hN, hD0⟩ := hv
  have hts := atoms_spec (ws := (.code y_Wo_append prog_7_method_2_code 2 (Option.none : Option Jvm.ClassFile.FieldType) :: gx_G)) B.pre
  have C0 : gx_C p s m meth c _ "LeanSets$Words" prog_7_method_2_code 2 (Option.none : Option Jvm.ClassFile.FieldType) := ⟨B.exec, B.bytes, B.returns, hml, findClass_of_methodNamed B.named, B.notSynchronized, fun w hw => hts w (List.mem_cons_of_mem _ hw)⟩
  subst hsz
  have hD := hD0.self (sz := s.heap.size)
  generalize hAe : va_A [(h_this, .inr (5, [.ref h_text, .int f_length, .ref h_kinds, .ref h_places, .ref h_numbers, .int u_words])), (h_text, .inl (cC, 600, .inl f_text))] s.heap.size = A at hD ⊢
  have hA : ∀ q : Nat, s.heap.size ≤ q → A q := fun q h => by rw [← hAe]; exact Or.inr h
  have hl := lv_entry ([.ref h_this, .int x1]) (n := 2) (Nat.le_of_ble_eq_true rfl)
  rw [lg_entry_eq]
  generalize (lg_sl ([.ref h_this, .int x1]) ++ List.replicate (2 - (lg_sl ([.ref h_this, .int x1])).length) Slot.unset).toArray = ls at hl ⊢
  exact wk_Wo_append_0 dC dI cI cJ cC A hA C0 hN h_this h_text h_kinds h_places h_numbers u_words post x1 f_length f_text h s.heap [] ls hP hD va_S.rf hl
/-! LeanSets$Words.firstBehindBlanks(I)I -/
def y_Wo_firstBehindBlanks : MethodName := ⟨"LeanSets$Words", "firstBehindBlanks", "(I)I"⟩
theorem d_Wo_firstBehindBlanks_0 : decode prog_7_method_5_code 0 = .ok (.iload_n 1, 1) := by decide +kernel
theorem d_Wo_firstBehindBlanks_1 : decode prog_7_method_5_code 1 = .ok (.istore_n 2, 1) := by decide +kernel
theorem d_Wo_firstBehindBlanks_2 : decode prog_7_method_5_code 2 = .ok (.iload_n 2, 1) := by decide +kernel
theorem d_Wo_firstBehindBlanks_3 : decode prog_7_method_5_code 3 = .ok (.aload_n 0, 1) := by decide +kernel
theorem d_Wo_firstBehindBlanks_4 : decode prog_7_method_5_code 4 = .ok (.getfield 25, 3) := by decide +kernel
theorem d_Wo_firstBehindBlanks_7 : decode prog_7_method_5_code 7 = .ok (.if_icmp .ge 20, 3) := by decide +kernel
theorem d_Wo_firstBehindBlanks_10 : decode prog_7_method_5_code 10 = .ok (.aload_n 0, 1) := by decide +kernel
theorem d_Wo_firstBehindBlanks_11 : decode prog_7_method_5_code 11 = .ok (.getfield 9, 3) := by decide +kernel
theorem d_Wo_firstBehindBlanks_14 : decode prog_7_method_5_code 14 = .ok (.iload_n 2, 1) := by decide +kernel
theorem d_Wo_firstBehindBlanks_15 : decode prog_7_method_5_code 15 = .ok (.caload, 1) := by decide +kernel
theorem d_Wo_firstBehindBlanks_16 : decode prog_7_method_5_code 16 = .ok (.bipush 32, 2) := by decide +kernel
theorem d_Wo_firstBehindBlanks_18 : decode prog_7_method_5_code 18 = .ok (.if_icmp .ne 9, 3) := by decide +kernel
theorem d_Wo_firstBehindBlanks_21 : decode prog_7_method_5_code 21 = .ok (.iinc 2 1, 3) := by decide +kernel
theorem d_Wo_firstBehindBlanks_24 : decode prog_7_method_5_code 24 = .ok (.goto (-22), 3) := by decide +kernel
theorem d_Wo_firstBehindBlanks_27 : decode prog_7_method_5_code 27 = .ok (.iload_n 2, 1) := by decide +kernel
theorem d_Wo_firstBehindBlanks_28 : decode prog_7_method_5_code 28 = .ok (.ireturn, 1) := by decide +kernel
def wp_Wo_firstBehindBlanks_27 (f_length : Int32) (f_text : Nat → Int32) (post : Int32 → Prop)  (x2 : Int32) : Prop := post x2
set_option maxHeartbeats 4000000 in
set_option maxRecDepth 100000 in
theorem wk_Wo_firstBehindBlanks_27 {p : Program} {l : Launch} {e : Env} {s : State} {m : MethodId} {args : Array Value} {below : List Frame} {meth : Method} {c : Code} (dC : Nat → ClassId) (dI : Nat → Nat → Nat) (cI cJ cC : ClassId) (A : Nat → Prop) (hA : ∀ q : Nat, s.heap.size ≤ q → A q) (C0 : gx_C p s m meth c args "LeanSets$Words" prog_7_method_5_code 3 (Option.some Jvm.ClassFile.FieldType.int)) (hN : gx_K dC dI cI cJ cC s)  (h_this h_text h_kinds h_places h_numbers : Nat) (u_words : Int32) (f_length : Int32) (f_text : Nat → Int32) (post : Int32 → Prop)   : ∀ (x2 : Int32), wp_Wo_firstBehindBlanks_27 f_length f_text post x2 → ∀ (H : Heap) (locs : List Loc) (ls : Array Slot), va_P (dC, dI) classes [(h_this, .inr (5, [.ref h_text, .int f_length, .ref h_kinds, .ref h_places, .ref h_numbers, .int u_words])), (h_text, .inl (cC, 600, .inl f_text))] H → va_D A [(h_this, .inr (5, [.ref h_text, .int f_length, .ref h_kinds, .ref h_places, .ref h_numbers, .int u_words])), (h_text, .inl (cC, 600, .inl f_text))] → va_S A s.heap H locs → lv_has ls 3 [(2, .int x2)] → W p l e { frames := 0, cells := 0, slots := 0, locals := 0 } s m args below meth c H locs 0 0 (MQ below (va_Qi (fun (r : Int32) (u : Unit) => post r) (fun (u : Unit) (t : State) => va_P (dC, dI) classes [(h_this, .inr (5, [.ref h_text, .int f_length, .ref h_kinds, .ref h_places, .ref h_numbers, .int u_words])), (h_text, .inl (cC, 600, .inl f_text))] t.heap ∧ va_D A [(h_this, .inr (5, [.ref h_text, .int f_length, .ref h_kinds, .ref h_places, .ref h_numbers, .int u_words])), (h_text, .inl (cC, 600, .inl f_text))]) A) args s 0 0 A) (F0 m 27 ls []) := by
  obtain ⟨hx, hb, hr, hml, hown, hlocks, hG⟩ := id C0
  have hK := hN.1
  intro x2 h H locs ls hP hD hS hl
  rw [wp_Wo_firstBehindBlanks_27] at h
  refine lv_iload_n hx hb d_Wo_firstBehindBlanks_27 rfl (lv_at hl 0 rfl) ?_
  exact W.iret (v := x2) hx hb hr (fun t ht hW => ⟨⟨x2, (), rfl, h, by rw [ht]; exact hP, hD⟩, hS.F ht⟩) hS.2.2 d_Wo_firstBehindBlanks_28 hlocks
def wp_Wo_firstBehindBlanks_2 (f_length : Int32) (f_text : Nat → Int32) (post : Int32 → Prop)  : Nat → Int32 → Prop
  | 0, _ => False
  | n + 1, x2 => ((f_length ≤ x2) → (wp_Wo_firstBehindBlanks_27 f_length f_text post x2)) ∧ ((¬ (f_length ≤ x2)) → ((vp_in x2 600) ∧ (((¬ (f_text x2.toNatClampNeg) = (32 : Int32)) → (wp_Wo_firstBehindBlanks_27 f_length f_text post x2)) ∧ (((f_text x2.toNatClampNeg) = (32 : Int32)) → (wp_Wo_firstBehindBlanks_2 f_length f_text post n (x2 + (1 : Int32)))))))
set_option maxHeartbeats 4000000 in
set_option maxRecDepth 100000 in
theorem wk_Wo_firstBehindBlanks_2 {p : Program} {l : Launch} {e : Env} {s : State} {m : MethodId} {args : Array Value} {below : List Frame} {meth : Method} {c : Code} (dC : Nat → ClassId) (dI : Nat → Nat → Nat) (cI cJ cC : ClassId) (A : Nat → Prop) (hA : ∀ q : Nat, s.heap.size ≤ q → A q) (C0 : gx_C p s m meth c args "LeanSets$Words" prog_7_method_5_code 3 (Option.some Jvm.ClassFile.FieldType.int)) (hN : gx_K dC dI cI cJ cC s)  (h_this h_text h_kinds h_places h_numbers : Nat) (u_words : Int32) (f_length : Int32) (f_text : Nat → Int32) (post : Int32 → Prop)   : ∀ (n : Nat) (x2 : Int32), wp_Wo_firstBehindBlanks_2 f_length f_text post n x2 → ∀ (H : Heap) (locs : List Loc) (ls : Array Slot), va_P (dC, dI) classes [(h_this, .inr (5, [.ref h_text, .int f_length, .ref h_kinds, .ref h_places, .ref h_numbers, .int u_words])), (h_text, .inl (cC, 600, .inl f_text))] H → va_D A [(h_this, .inr (5, [.ref h_text, .int f_length, .ref h_kinds, .ref h_places, .ref h_numbers, .int u_words])), (h_text, .inl (cC, 600, .inl f_text))] → va_S A s.heap H locs → lv_has ls 3 [(0, .ref h_this), (2, .int x2)] → W p l e { frames := 0, cells := 0, slots := 0, locals := 0 } s m args below meth c H locs 0 0 (MQ below (va_Qi (fun (r : Int32) (u : Unit) => post r) (fun (u : Unit) (t : State) => va_P (dC, dI) classes [(h_this, .inr (5, [.ref h_text, .int f_length, .ref h_kinds, .ref h_places, .ref h_numbers, .int u_words])), (h_text, .inl (cC, 600, .inl f_text))] t.heap ∧ va_D A [(h_this, .inr (5, [.ref h_text, .int f_length, .ref h_kinds, .ref h_places, .ref h_numbers, .int u_words])), (h_text, .inl (cC, 600, .inl f_text))]) A) args s 0 0 A) (F0 m 2 ls []) := by
  obtain ⟨hx, hb, hr, hml, hown, hlocks, hG⟩ := id C0
  have hK := hN.1
  intro n
  induction n with
  | zero =>
    intro x2 h
    exact absurd h (by rw [wp_Wo_firstBehindBlanks_2]; exact id)
  | succ n ih =>
    intro x2 h H locs ls hP hD hS hl
    rw [wp_Wo_firstBehindBlanks_2] at h
    refine lv_iload_n hx hb d_Wo_firstBehindBlanks_2 rfl (lv_at hl 1 rfl) ?_
    refine lv_aload_n hx hb d_Wo_firstBehindBlanks_3 rfl (lv_at hl 0 rfl) ?_
    refine va_get (D := (dC, dI)) (ci := 5) (v := .int f_length) (C := "LeanSets$Words") (T := T_Wo) (N := 6) hx hb hG in_Wo hown hK hP 0 rfl rfl 1 (Nat.le_of_ble_eq_true rfl) (hG _ mw_42) (fun _ h9 => h9) rfl d_Wo_firstBehindBlanks_4 ?_
    refine lv_icmp_ge (tgt := 27) hx hb d_Wo_firstBehindBlanks_7 (by decide) (fun c_ => ?_) (fun c_ => ?_)
    · have h := h.1 c_
      exact wk_Wo_firstBehindBlanks_27 dC dI cI cJ cC A hA C0 hN h_this h_text h_kinds h_places h_numbers u_words f_length f_text post   x2 h _ _ _ hP hD hS (lv_sub hl [1] rfl)
    · have h := h.2 c_
      refine lv_aload_n hx hb d_Wo_firstBehindBlanks_10 rfl (lv_at hl 0 rfl) ?_
      refine va_get (D := (dC, dI)) (ci := 5) (v := .ref h_text) (C := "LeanSets$Words") (T := T_Wo) (N := 6) hx hb hG in_Wo hown hK hP 0 rfl rfl 0 (Nat.le_of_ble_eq_true rfl) (hG _ mw_41) (fun _ h9 => h9) rfl d_Wo_firstBehindBlanks_11 ?_
      refine lv_iload_n hx hb d_Wo_firstBehindBlanks_14 rfl (lv_at hl 1 rfl) ?_
      obtain ⟨g_, h⟩ := h
      refine va_cald hx hb hK hP 1 2 rfl rfl g_ d_Wo_firstBehindBlanks_15 ?_
      refine lv_bipush (v := 32) hx hb d_Wo_firstBehindBlanks_16 (by decide) ?_
      refine lv_icmp_ne (tgt := 27) hx hb d_Wo_firstBehindBlanks_18 (by decide) (fun c_ => ?_) (fun c_ => ?_)
      · have h := h.1 c_
        exact wk_Wo_firstBehindBlanks_27 dC dI cI cJ cC A hA C0 hN h_this h_text h_kinds h_places h_numbers u_words f_length f_text post   x2 h _ _ _ hP hD hS (lv_sub hl [1] rfl)
      · have h := h.2 c_
        refine lv_iinc (v := (x2 + (1 : Int32))) (lv' := [(2, .int (x2 + (1 : Int32))), (0, .ref h_this)]) hx hb d_Wo_firstBehindBlanks_21 hl (k := 1) rfl rfl (by decide) rfl (fun ls hl => ?_)
        refine lv_goto (tgt := 2) hx hb d_Wo_firstBehindBlanks_24 (by decide) ?_
        exact ih (x2 + (1 : Int32)) h _ _ _ hP hD hS (lv_sub hl [1, 0] rfl)
def wp_Wo_firstBehindBlanks_0 (f_length : Int32) (f_text : Nat → Int32) (post : Int32 → Prop)  (x1 : Int32) : Prop := ∃ n_ : Nat, wp_Wo_firstBehindBlanks_2 f_length f_text post n_ x1
set_option maxHeartbeats 4000000 in
set_option maxRecDepth 100000 in
theorem wk_Wo_firstBehindBlanks_0 {p : Program} {l : Launch} {e : Env} {s : State} {m : MethodId} {args : Array Value} {below : List Frame} {meth : Method} {c : Code} (dC : Nat → ClassId) (dI : Nat → Nat → Nat) (cI cJ cC : ClassId) (A : Nat → Prop) (hA : ∀ q : Nat, s.heap.size ≤ q → A q) (C0 : gx_C p s m meth c args "LeanSets$Words" prog_7_method_5_code 3 (Option.some Jvm.ClassFile.FieldType.int)) (hN : gx_K dC dI cI cJ cC s)  (h_this h_text h_kinds h_places h_numbers : Nat) (u_words : Int32) (f_length : Int32) (f_text : Nat → Int32) (post : Int32 → Prop)   : ∀ (x1 : Int32), wp_Wo_firstBehindBlanks_0 f_length f_text post x1 → ∀ (H : Heap) (locs : List Loc) (ls : Array Slot), va_P (dC, dI) classes [(h_this, .inr (5, [.ref h_text, .int f_length, .ref h_kinds, .ref h_places, .ref h_numbers, .int u_words])), (h_text, .inl (cC, 600, .inl f_text))] H → va_D A [(h_this, .inr (5, [.ref h_text, .int f_length, .ref h_kinds, .ref h_places, .ref h_numbers, .int u_words])), (h_text, .inl (cC, 600, .inl f_text))] → va_S A s.heap H locs → lv_has ls 3 [(0, .ref h_this), (1, .int x1)] → W p l e { frames := 0, cells := 0, slots := 0, locals := 0 } s m args below meth c H locs 0 0 (MQ below (va_Qi (fun (r : Int32) (u : Unit) => post r) (fun (u : Unit) (t : State) => va_P (dC, dI) classes [(h_this, .inr (5, [.ref h_text, .int f_length, .ref h_kinds, .ref h_places, .ref h_numbers, .int u_words])), (h_text, .inl (cC, 600, .inl f_text))] t.heap ∧ va_D A [(h_this, .inr (5, [.ref h_text, .int f_length, .ref h_kinds, .ref h_places, .ref h_numbers, .int u_words])), (h_text, .inl (cC, 600, .inl f_text))]) A) args s 0 0 A) (F0 m 0 ls []) := by
  obtain ⟨hx, hb, hr, hml, hown, hlocks, hG⟩ := id C0
  have hK := hN.1
  intro x1 h H locs ls hP hD hS hl
  rw [wp_Wo_firstBehindBlanks_0] at h
  refine lv_iload_n hx hb d_Wo_firstBehindBlanks_0 rfl (lv_at hl 1 rfl) ?_
  refine lv_istore_n (lv' := [(2, .int x1), (0, .ref h_this), (1, .int x1)]) hx hb d_Wo_firstBehindBlanks_1 rfl hl (by decide) rfl (fun ls hl => ?_)
  obtain ⟨n_, h⟩ := h
  exact wk_Wo_firstBehindBlanks_2 dC dI cI cJ cC A hA C0 hN h_this h_text h_kinds h_places h_numbers u_words f_length f_text post   n_ x1 h _ _ _ hP hD hS (lv_sub hl [1, 0] rfl)
set_option maxHeartbeats 4000000 in
set_option maxRecDepth 100000 in
theorem c_Wo_firstBehindBlanks (l : Launch) (dC : Nat → ClassId) (dI : Nat → Nat → Nat) (cI cJ cC : ClassId) (h_this h_text h_kinds h_places h_numbers : Nat) (u_words : Int32) (f_length : Int32) (f_text : Nat → Int32) (post : Int32 → Prop) (x1 : Int32) (sz : Nat) (h : wp_Wo_firstBehindBlanks_0 f_length f_text post x1) : Met l y_Wo_firstBehindBlanks (.code y_Wo_firstBehindBlanks prog_7_method_5_code 3 (Option.some Jvm.ClassFile.FieldType.int) :: gx_G) ({ frames := 0, cells := 0, slots := 0, locals := 0 }) (va_Pc [.ref h_this, .int x1] (fun U => U.heap.size = sz ∧ va_P (dC, dI) classes [(h_this, .inr (5, [.ref h_text, .int f_length, .ref h_kinds, .ref h_places, .ref h_numbers, .int u_words])), (h_text, .inl (cC, 600, .inl f_text))] U.heap ∧ gx_K dC dI cI cJ cC U ∧ va_D (fun _ => True) [(h_this, .inr (5, [.ref h_text, .int f_length, .ref h_kinds, .ref h_places, .ref h_numbers, .int u_words])), (h_text, .inl (cC, 600, .inl f_text))])) (va_Qi (fun (r : Int32) (u : Unit) => post r) (fun (u : Unit) (t : State) => va_P (dC, dI) classes [(h_this, .inr (5, [.ref h_text, .int f_length, .ref h_kinds, .ref h_places, .ref h_numbers, .int u_words])), (h_text, .inl (cC, 600, .inl f_text))] t.heap ∧ va_D (va_A [(h_this, .inr (5, [.ref h_text, .int f_length, .ref h_kinds, .ref h_places, .ref h_numbers, .int u_words])), (h_text, .inl (cC, 600, .inl f_text))] sz) [(h_this, .inr (5, [.ref h_text, .int f_length, .ref h_kinds, .ref h_places, .ref h_numbers, .int u_words])), (h_text, .inl (cC, 600, .inl f_text))]) (va_A [(h_this, .inr (5, [.ref h_text, .int f_length, .ref h_kinds, .ref h_places, .ref h_numbers, .int u_words])), (h_text, .inl (cC, 600, .inl f_text))] sz)) 0 0 (va_A [(h_this, .inr (5, [.ref h_text, .int f_length, .ref h_kinds, .ref h_places, .ref h_numbers, .int u_words])), (h_text, .inl (cC, 600, .inl f_text))] sz) := by
  refine Met.ofW (cc := prog_7_method_5_code) (maxL := 3) (ret := (Option.some Jvm.ClassFile.FieldType.int)) (by decide +kernel) rfl ?_
  intro p e s m args below meth c s₁ B hml hv
  obtain ⟨rfl, hsz, hP, hN, hD0⟩ := hv
  have hts := atoms_spec (ws := (.code y_Wo_firstBehindBlanks prog_7_method_5_code 3 (Option.some Jvm.ClassFile.FieldType.int) :: gx_G)) B.pre
  have C0 : gx_C p s m meth c _ "LeanSets$Words" prog_7_method_5_code 3 (Option.some Jvm.ClassFile.FieldType.int) := ⟨B.exec, B.bytes, B.returns, hml, findClass_of_methodNamed B.named, B.notSynchronized, fun w hw => hts w (List.mem_cons_of_mem _ hw)⟩
  subst hsz
  have hD := hD0.self (sz := s.heap.size)
  generalize hAe : va_A [(h_this, .inr (5, [.ref h_text, .int f_length, .ref h_kinds, .ref h_places, .ref h_numbers, .int u_words])), (h_text, .inl (cC, 600, .inl f_text))] s.heap.size = A at hD ⊢
  have hA : ∀ q : Nat, s.heap.size ≤ q → A q := fun q h => by rw [← hAe]; exact Or.inr h
  have hl := lv_entry ([.ref h_this, .int x1]) (n := 3) (Nat.le_of_ble_eq_true rfl)
  rw [lg_entry_eq]
  generalize (lg_sl ([.ref h_this, .int x1]) ++ List.replicate (3 - (lg_sl ([.ref h_this, .int x1])).length) Slot.unset).toArray = ls at hl ⊢
  exact wk_Wo_firstBehindBlanks_0 dC dI cI cJ cC A hA C0 hN h_this h_text h_kinds h_places h_numbers u_words f_length f_text post x1 h s.heap [] ls hP hD va_S.rf hl
/-! LeanSets$Words.isLetter(C)Z -/
def y_Wo_isLetter : MethodName := ⟨"LeanSets$Words", "isLetter", "(C)Z"⟩
theorem d_Wo_isLetter_0 : decode prog_7_method_11_code 0 = .ok (.iload_n 0, 1) := by decide +kernel
theorem d_Wo_isLetter_1 : decode prog_7_method_11_code 1 = .ok (.bipush 97, 2) := by decide +kernel
theorem d_Wo_isLetter_3 : decode prog_7_method_11_code 3 = .ok (.if_icmp .lt 13, 3) := by decide +kernel
theorem d_Wo_isLetter_6 : decode prog_7_method_11_code 6 = .ok (.iload_n 0, 1) := by decide +kernel
theorem d_Wo_isLetter_7 : decode prog_7_method_11_code 7 = .ok (.bipush 122, 2) := by decide +kernel
theorem d_Wo_isLetter_9 : decode prog_7_method_11_code 9 = .ok (.if_icmp .gt 7, 3) := by decide +kernel
theorem d_Wo_isLetter_12 : decode prog_7_method_11_code 12 = .ok (.iconst 1, 1) := by decide +kernel
theorem d_Wo_isLetter_13 : decode prog_7_method_11_code 13 = .ok (.goto 4, 3) := by decide +kernel
theorem d_Wo_isLetter_16 : decode prog_7_method_11_code 16 = .ok (.iconst 0, 1) := by decide +kernel
theorem d_Wo_isLetter_17 : decode prog_7_method_11_code 17 = .ok (.ireturn, 1) := by decide +kernel
def wp_Wo_isLetter_17  (post : Int32 → Prop)  (t0 : Int32) : Prop := (narrow .boolean (.int t0) = .int t0) ∧ (post t0)
set_option maxHeartbeats 4000000 in
set_option maxRecDepth 100000 in
theorem wk_Wo_isLetter_17 {p : Program} {l : Launch} {e : Env} {s : State} {m : MethodId} {args : Array Value} {below : List Frame} {meth : Method} {c : Code} (dC : Nat → ClassId) (dI : Nat → Nat → Nat) (cI cJ cC : ClassId) (A : Nat → Prop) (hA : ∀ q : Nat, s.heap.size ≤ q → A q) (C0 : gx_C p s m meth c args "LeanSets$Words" prog_7_method_11_code 1 (Option.some Jvm.ClassFile.FieldType.boolean)) (hN : gx_K dC dI cI cJ cC s)  (post : Int32 → Prop)   : ∀ (t0 : Int32), wp_Wo_isLetter_17 post t0 → ∀ (H : Heap) (locs : List Loc) (ls : Array Slot), va_P (dC, dI) classes [] H → va_D A [] → va_S A s.heap H locs → lv_has ls 1 [] → W p l e { frames := 0, cells := 0, slots := 0, locals := 0 } s m args below meth c H locs 0 0 (MQ below (va_Qi (fun (r : Int32) (u : Unit) => post r) (fun (u : Unit) (t : State) => va_P (dC, dI) classes [] t.heap ∧ va_D A []) A) args s 0 0 A) (F0 m 17 ls [.int t0]) := by
  obtain ⟨hx, hb, hr, hml, hown, hlocks, hG⟩ := id C0
  have hK := hN.1
  intro t0 h H locs ls hP hD hS hl
  rw [wp_Wo_isLetter_17] at h
  obtain ⟨g_, h⟩ := h
  exact W.zret (v := t0) (ty := .boolean) hx hb hr g_ (fun t ht hW => ⟨⟨t0, (), rfl, h, by rw [ht]; exact hP, hD⟩, hS.F ht⟩) hS.2.2 d_Wo_isLetter_17 hlocks
def wp_Wo_isLetter_16  (post : Int32 → Prop)   : Prop := wp_Wo_isLetter_17 post (0 : Int32)
set_option maxHeartbeats 4000000 in
set_option maxRecDepth 100000 in
theorem wk_Wo_isLetter_16 {p : Program} {l : Launch} {e : Env} {s : State} {m : MethodId} {args : Array Value} {below : List Frame} {meth : Method} {c : Code} (dC : Nat → ClassId) (dI : Nat → Nat → Nat) (cI cJ cC : ClassId) (A : Nat → Prop) (hA : ∀ q : Nat, s.heap.size ≤ q → A q) (C0 : gx_C p s m meth c args "LeanSets$Words" prog_7_method_11_code 1 (Option.some Jvm.ClassFile.FieldType.boolean)) (hN : gx_K dC dI cI cJ cC s)  (post : Int32 → Prop)   : wp_Wo_isLetter_16 post  → ∀ (H : Heap) (locs : List Loc) (ls : Array Slot), va_P (dC, dI) classes [] H → va_D A [] → va_S A s.heap H locs → lv_has ls 1 [] → W p l e { frames := 0, cells := 0, slots := 0, locals := 0 } s m args below meth c H locs 0 0 (MQ below (va_Qi (fun (r : Int32) (u : Unit) => post r) (fun (u : Unit) (t : State) => va_P (dC, dI) classes [] t.heap ∧ va_D A []) A) args s 0 0 A) (F0 m 16 ls []) := by
  obtain ⟨hx, hb, hr, hml, hown, hlocks, hG⟩ := id C0
  have hK := hN.1
  intro  h H locs ls hP hD hS hl
  rw [wp_Wo_isLetter_16] at h
  refine lv_iconst (v := 0) hx hb d_Wo_isLetter_16 (by decide) ?_
  exact wk_Wo_isLetter_17 dC dI cI cJ cC A hA C0 hN post   (0 : Int32) h _ _ _ hP hD hS (lv_sub hl [] rfl)
def wp_Wo_isLetter_0  (post : Int32 → Prop)  (x0 : Int32) : Prop := ((x0 < (97 : Int32)) → (wp_Wo_isLetter_16 post )) ∧ ((¬ (x0 < (97 : Int32))) → ((((122 : Int32) < x0) → (wp_Wo_isLetter_16 post )) ∧ ((¬ ((122 : Int32) < x0)) → (wp_Wo_isLetter_17 post (1 : Int32)))))
set_option maxHeartbeats 4000000 in
set_option maxRecDepth 100000 in
theorem wk_Wo_isLetter_0 {p : Program} {l : Launch} {e : Env} {s : State} {m : MethodId} {args : Array Value} {below : List Frame} {meth : Method} {c : Code} (dC : Nat → ClassId) (dI : Nat → Nat → Nat) (cI cJ cC : ClassId) (A : Nat → Prop) (hA : ∀ q : Nat, s.heap.size ≤ q → A q) (C0 : gx_C p s m meth c args "LeanSets$Words" prog_7_method_11_code 1 (Option.some Jvm.ClassFile.FieldType.boolean)) (hN : gx_K dC dI cI cJ cC s)  (post : Int32 → Prop)   : ∀ (x0 : Int32), wp_Wo_isLetter_0 post x0 → ∀ (H : Heap) (locs : List Loc) (ls : Array Slot), va_P (dC, dI) classes [] H → va_D A [] → va_S A s.heap H locs → lv_has ls 1 [(0, .int x0)] → W p l e { frames := 0, cells := 0, slots := 0, locals := 0 } s m args below meth c H locs 0 0 (MQ below (va_Qi (fun (r : Int32) (u : Unit) => post r) (fun (u : Unit) (t : State) => va_P (dC, dI) classes [] t.heap ∧ va_D A []) A) args s 0 0 A) (F0 m 0 ls []) := by
  obtain ⟨hx, hb, hr, hml, hown, hlocks, hG⟩ := id C0
  have hK := hN.1
  intro x0 h H locs ls hP hD hS hl
  rw [wp_Wo_isLetter_0] at h
  refine lv_iload_n hx hb d_Wo_isLetter_0 rfl (lv_at hl 0 rfl) ?_
  refine lv_bipush (v := 97) hx hb d_Wo_isLetter_1 (by decide) ?_
  refine lv_icmp_lt (tgt := 16) hx hb d_Wo_isLetter_3 (by decide) (fun c_ => ?_) (fun c_ => ?_)
  · have h := h.1 c_
    exact wk_Wo_isLetter_16 dC dI cI cJ cC A hA C0 hN post    h _ _ _ hP hD hS (lv_sub hl [] rfl)
  · have h := h.2 c_
    refine lv_iload_n hx hb d_Wo_isLetter_6 rfl (lv_at hl 0 rfl) ?_
    refine lv_bipush (v := 122) hx hb d_Wo_isLetter_7 (by decide) ?_
    refine lv_icmp_gt (tgt := 16) hx hb d_Wo_isLetter_9 (by decide) (fun c_ => ?_) (fun c_ => ?_)
    · have h := h.1 c_
      exact wk_Wo_isLetter_16 dC dI cI cJ cC A hA C0 hN post    h _ _ _ hP hD hS (lv_sub hl [] rfl)
    · have h := h.2 c_
      refine lv_iconst (v := 1) hx hb d_Wo_isLetter_12 (by decide) ?_
      refine lv_goto (tgt := 17) hx hb d_Wo_isLetter_13 (by decide) ?_
      exact wk_Wo_isLetter_17 dC dI cI cJ cC A hA C0 hN post   (1 : Int32) h _ _ _ hP hD hS (lv_sub hl [] rfl)
set_option maxHeartbeats 4000000 in
set_option maxRecDepth 100000 in
theorem c_Wo_isLetter (l : Launch) (dC : Nat → ClassId) (dI : Nat → Nat → Nat) (cI cJ cC : ClassId) (post : Int32 → Prop) (x0 : Int32) (sz : Nat) (h : wp_Wo_isLetter_0 post x0) : Met l y_Wo_isLetter (.code y_Wo_isLetter prog_7_method_11_code 1 (Option.some Jvm.ClassFile.FieldType.boolean) :: gx_G) ({ frames := 0, cells := 0, slots := 0, locals := 0 }) (va_Pc [.int x0] (fun U => U.heap.size = sz ∧ va_P (dC, dI) classes [] U.heap ∧ gx_K dC dI cI cJ cC U ∧ va_D (fun _ => True) [])) (va_Qi (fun (r : Int32) (u : Unit) => post r) (fun (u : Unit) (t : State) => va_P (dC, dI) classes [] t.heap ∧ va_D (va_A [] sz) []) (va_A [] sz)) 0 0 (va_A [] sz) := by
  refine Met.ofW (cc := prog_7_method_11_code) (maxL := 1) (ret := (Option.some Jvm.ClassFile.FieldType.boolean)) (by decide +kernel) rfl ?_
  intro p e s m args below meth c s₁ B hml hv
  obtain ⟨rfl, hsz, hP, hN, hD0⟩ := hv
  have hts := atoms_spec (ws := (.code y_Wo_isLetter prog_7_method_11_code 1 (Option.some Jvm.ClassFile.FieldType.boolean) :: gx_G)) B.pre
  have C0 : gx_C p s m meth c _ "LeanSets$Words" prog_7_method_11_code 1 (Option.some Jvm.ClassFile.FieldType.boolean) := ⟨B.exec, B.bytes, B.returns, hml, findClass_of_methodNamed B.named, B.notSynchronized, fun w hw => hts w (List.mem_cons_of_mem _ hw)⟩
  subst hsz
  have hD := hD0.self (sz := s.heap.size)
  generalize hAe : va_A [] s.heap.size = A at hD ⊢
  have hA : ∀ q : Nat, s.heap.size ≤ q → A q := fun q h => by rw [← hAe]; exact Or.inr h
  have hl := lv_entry ([.int x0]) (n := 1) (Nat.le_of_ble_eq_true rfl)
  rw [lg_entry_eq]
  generalize (lg_sl ([.int x0]) ++ List.replicate (1 - (lg_sl ([.int x0])).length) Slot.unset).toArray = ls at hl ⊢
  exact wk_Wo_isLetter_0 dC dI cI cJ cC A hA C0 hN post x0 h s.heap [] ls hP hD va_S.rf hl
/-! LeanSets$Words.isDigit(C)Z -/
def y_Wo_isDigit : MethodName := ⟨"LeanSets$Words", "isDigit", "(C)Z"⟩
theorem d_Wo_isDigit_0 : decode prog_7_method_12_code 0 = .ok (.iload_n 0, 1) := by decide +kernel
theorem d_Wo_isDigit_1 : decode prog_7_method_12_code 1 = .ok (.bipush 48, 2) := by decide +kernel
theorem d_Wo_isDigit_3 : decode prog_7_method_12_code 3 = .ok (.if_icmp .lt 13, 3) := by decide +kernel
theorem d_Wo_isDigit_6 : decode prog_7_method_12_code 6 = .ok (.iload_n 0, 1) := by decide +kernel
theorem d_Wo_isDigit_7 : decode prog_7_method_12_code 7 = .ok (.bipush 57, 2) := by decide +kernel
theorem d_Wo_isDigit_9 : decode prog_7_method_12_code 9 = .ok (.if_icmp .gt 7, 3) := by decide +kernel
theorem d_Wo_isDigit_12 : decode prog_7_method_12_code 12 = .ok (.iconst 1, 1) := by decide +kernel
theorem d_Wo_isDigit_13 : decode prog_7_method_12_code 13 = .ok (.goto 4, 3) := by decide +kernel
theorem d_Wo_isDigit_16 : decode prog_7_method_12_code 16 = .ok (.iconst 0, 1) := by decide +kernel
theorem d_Wo_isDigit_17 : decode prog_7_method_12_code 17 = .ok (.ireturn, 1) := by decide +kernel
def wp_Wo_isDigit_17  (post : Int32 → Prop)  (t0 : Int32) : Prop := (narrow .boolean (.int t0) = .int t0) ∧ (post t0)
set_option maxHeartbeats 4000000 in
set_option maxRecDepth 100000 in
theorem wk_Wo_isDigit_17 {p : Program} {l : Launch} {e : Env} {s : State} {m : MethodId} {args : Array Value} {below : List Frame} {meth : Method} {c : Code} (dC : Nat → ClassId) (dI : Nat → Nat → Nat) (cI cJ cC : ClassId) (A : Nat → Prop) (hA : ∀ q : Nat, s.heap.size ≤ q → A q) (C0 : gx_C p s m meth c args "LeanSets$Words" prog_7_method_12_code 1 (Option.some Jvm.ClassFile.FieldType.boolean)) (hN : gx_K dC dI cI cJ cC s)  (post : Int32 → Prop)   : ∀ (t0 : Int32), wp_Wo_isDigit_17 post t0 → ∀ (H : Heap) (locs : List Loc) (ls : Array Slot), va_P (dC, dI) classes [] H → va_D A [] → va_S A s.heap H locs → lv_has ls 1 [] → W p l e { frames := 0, cells := 0, slots := 0, locals := 0 } s m args below meth c H locs 0 0 (MQ below (va_Qi (fun (r : Int32) (u : Unit) => post r) (fun (u : Unit) (t : State) => va_P (dC, dI) classes [] t.heap ∧ va_D A []) A) args s 0 0 A) (F0 m 17 ls [.int t0]) := by
  obtain ⟨hx, hb, hr, hml, hown, hlocks, hG⟩ := id C0
  have hK := hN.1
  intro t0 h H locs ls hP hD hS hl
  rw [wp_Wo_isDigit_17] at h
  obtain ⟨g_, h⟩ := h
  exact W.zret (v := t0) (ty := .boolean) hx hb hr g_ (fun t ht hW => ⟨⟨t0, (), rfl, h, by rw [ht]; exact hP, hD⟩, hS.F ht⟩) hS.2.2 d_Wo_isDigit_17 hlocks
def wp_Wo_isDigit_16  (post : Int32 → Prop)   : Prop := wp_Wo_isDigit_17 post (0 : Int32)
set_option maxHeartbeats 4000000 in
set_option maxRecDepth 100000 in
theorem wk_Wo_isDigit_16 {p : Program} {l : Launch} {e : Env} {s : State} {m : MethodId} {args : Array Value} {below : List Frame} {meth : Method} {c : Code} (dC : Nat → ClassId) (dI : Nat → Nat → Nat) (cI cJ cC : ClassId) (A : Nat → Prop) (hA : ∀ q : Nat, s.heap.size ≤ q → A q) (C0 : gx_C p s m meth c args "LeanSets$Words" prog_7_method_12_code 1 (Option.some Jvm.ClassFile.FieldType.boolean)) (hN : gx_K dC dI cI cJ cC s)  (post : Int32 → Prop)   : wp_Wo_isDigit_16 post  → ∀ (H : Heap) (locs : List Loc) (ls : Array Slot), va_P (dC, dI) classes [] H → va_D A [] → va_S A s.heap H locs → lv_has ls 1 [] → W p l e { frames := 0, cells := 0, slots := 0, locals := 0 } s m args below meth c H locs 0 0 (MQ below (va_Qi (fun (r : Int32) (u : Unit) => post r) (fun (u : Unit) (t : State) => va_P (dC, dI) classes [] t.heap ∧ va_D A []) A) args s 0 0 A) (F0 m 16 ls []) := by
  obtain ⟨hx, hb, hr, hml, hown, hlocks, hG⟩ := id C0
  have hK := hN.1
  intro  h H locs ls hP hD hS hl
  rw [wp_Wo_isDigit_16] at h
  refine lv_iconst (v := 0) hx hb d_Wo_isDigit_16 (by decide) ?_
  exact wk_Wo_isDigit_17 dC dI cI cJ cC A hA C0 hN post   (0 : Int32) h _ _ _ hP hD hS (lv_sub hl [] rfl)
def wp_Wo_isDigit_0  (post : Int32 → Prop)  (x0 : Int32) : Prop := ((x0 < (48 : Int32)) → (wp_Wo_isDigit_16 post )) ∧ ((¬ (x0 < (48 : Int32))) → ((((57 : Int32) < x0) → (wp_Wo_isDigit_16 post )) ∧ ((¬ ((57 : Int32) < x0)) → (wp_Wo_isDigit_17 post (1 : Int32)))))
set_option maxHeartbeats 4000000 in
set_option maxRecDepth 100000 in
theorem wk_Wo_isDigit_0 {p : Program} {l : Launch} {e : Env} {s : State} {m : MethodId} {args : Array Value} {below : List Frame} {meth : Method} {c : Code} (dC : Nat → ClassId) (dI : Nat → Nat → Nat) (cI cJ cC : ClassId) (A : Nat → Prop) (hA : ∀ q : Nat, s.heap.size ≤ q → A q) (C0 : gx_C p s m meth c args "LeanSets$Words" prog_7_method_12_code 1 (Option.some Jvm.ClassFile.FieldType.boolean)) (hN : gx_K dC dI cI cJ cC s)  (post : Int32 → Prop)   : ∀ (x0 : Int32), wp_Wo_isDigit_0 post x0 → ∀ (H : Heap) (locs : List Loc) (ls : Array Slot), va_P (dC, dI) classes [] H → va_D A [] → va_S A s.heap H locs → lv_has ls 1 [(0, .int x0)] → W p l e { frames := 0, cells := 0, slots := 0, locals := 0 } s m args below meth c H locs 0 0 (MQ below (va_Qi (fun (r : Int32) (u : Unit) => post r) (fun (u : Unit) (t : State) => va_P (dC, dI) classes [] t.heap ∧ va_D A []) A) args s 0 0 A) (F0 m 0 ls []) := by
  obtain ⟨hx, hb, hr, hml, hown, hlocks, hG⟩ := id C0
  have hK := hN.1
  intro x0 h H locs ls hP hD hS hl
  rw [wp_Wo_isDigit_0] at h
  refine lv_iload_n hx hb d_Wo_isDigit_0 rfl (lv_at hl 0 rfl) ?_
  refine lv_bipush (v := 48) hx hb d_Wo_isDigit_1 (by decide) ?_
  refine lv_icmp_lt (tgt := 16) hx hb d_Wo_isDigit_3 (by decide) (fun c_ => ?_) (fun c_ => ?_)
  · have h := h.1 c_
    exact wk_Wo_isDigit_16 dC dI cI cJ cC A hA C0 hN post    h _ _ _ hP hD hS (lv_sub hl [] rfl)
  · have h := h.2 c_
    refine lv_iload_n hx hb d_Wo_isDigit_6 rfl (lv_at hl 0 rfl) ?_
    refine lv_bipush (v := 57) hx hb d_Wo_isDigit_7 (by decide) ?_
    refine lv_icmp_gt (tgt := 16) hx hb d_Wo_isDigit_9 (by decide) (fun c_ => ?_) (fun c_ => ?_)
    · have h := h.1 c_
      exact wk_Wo_isDigit_16 dC dI cI cJ cC A hA C0 hN post    h _ _ _ hP hD hS (lv_sub hl [] rfl)
    · have h := h.2 c_
      refine lv_iconst (v := 1) hx hb d_Wo_isDigit_12 (by decide) ?_
      refine lv_goto (tgt := 17) hx hb d_Wo_isDigit_13 (by decide) ?_
      exact wk_Wo_isDigit_17 dC dI cI cJ cC A hA C0 hN post   (1 : Int32) h _ _ _ hP hD hS (lv_sub hl [] rfl)
set_option maxHeartbeats 4000000 in
set_option maxRecDepth 100000 in
theorem c_Wo_isDigit (l : Launch) (dC : Nat → ClassId) (dI : Nat → Nat → Nat) (cI cJ cC : ClassId) (post : Int32 → Prop) (x0 : Int32) (sz : Nat) (h : wp_Wo_isDigit_0 post x0) : Met l y_Wo_isDigit (.code y_Wo_isDigit prog_7_method_12_code 1 (Option.some Jvm.ClassFile.FieldType.boolean) :: gx_G) ({ frames := 0, cells := 0, slots := 0, locals := 0 }) (va_Pc [.int x0] (fun U => U.heap.size = sz ∧ va_P (dC, dI) classes [] U.heap ∧ gx_K dC dI cI cJ cC U ∧ va_D (fun _ => True) [])) (va_Qi (fun (r : Int32) (u : Unit) => post r) (fun (u : Unit) (t : State) => va_P (dC, dI) classes [] t.heap ∧ va_D (va_A [] sz) []) (va_A [] sz)) 0 0 (va_A [] sz) := by
  refine Met.ofW (cc := prog_7_method_12_code) (maxL := 1) (ret := (Option.some Jvm.ClassFile.FieldType.boolean)) (by decide +kernel) rfl ?_
  intro p e s m args below meth c s₁ B hml hv
  obtain ⟨rfl, hsz, hP, hN, hD0⟩ := hv
  have hts := atoms_spec (ws := (.code y_Wo_isDigit prog_7_method_12_code 1 (Option.some Jvm.ClassFile.FieldType.boolean) :: gx_G)) B.pre
  have C0 : gx_C p s m meth c _ "LeanSets$Words" prog_7_method_12_code 1 (Option.some Jvm.ClassFile.FieldType.boolean) := ⟨B.exec, B.bytes, B.returns, hml, findClass_of_methodNamed B.named, B.notSynchronized, fun w hw => hts w (List.mem_cons_of_mem _ hw)⟩
  subst hsz
  have hD := hD0.self (sz := s.heap.size)
  generalize hAe : va_A [] s.heap.size = A at hD ⊢
  have hA : ∀ q : Nat, s.heap.size ≤ q → A q := fun q h => by rw [← hAe]; exact Or.inr h
  have hl := lv_entry ([.int x0]) (n := 1) (Nat.le_of_ble_eq_true rfl)
  rw [lg_entry_eq]
  generalize (lg_sl ([.int x0]) ++ List.replicate (1 - (lg_sl ([.int x0])).length) Slot.unset).toArray = ls at hl ⊢
  exact wk_Wo_isDigit_0 dC dI cI cJ cC A hA C0 hN post x0 h s.heap [] ls hP hD va_S.rf hl
/-! LeanSets$Words.endOfWord(I)I -/
def y_Wo_endOfWord : MethodName := ⟨"LeanSets$Words", "endOfWord", "(I)I"⟩
theorem d_Wo_endOfWord_0 : decode prog_7_method_6_code 0 = .ok (.iload_n 1, 1) := by decide +kernel
theorem d_Wo_endOfWord_1 : decode prog_7_method_6_code 1 = .ok (.iconst 1, 1) := by decide +kernel
theorem d_Wo_endOfWord_2 : decode prog_7_method_6_code 2 = .ok (.iadd, 1) := by decide +kernel
theorem d_Wo_endOfWord_3 : decode prog_7_method_6_code 3 = .ok (.istore_n 2, 1) := by decide +kernel
theorem d_Wo_endOfWord_4 : decode prog_7_method_6_code 4 = .ok (.aload_n 0, 1) := by decide +kernel
theorem d_Wo_endOfWord_5 : decode prog_7_method_6_code 5 = .ok (.getfield 9, 3) := by decide +kernel
theorem d_Wo_endOfWord_8 : decode prog_7_method_6_code 8 = .ok (.iload_n 1, 1) := by decide +kernel
theorem d_Wo_endOfWord_9 : decode prog_7_method_6_code 9 = .ok (.caload, 1) := by decide +kernel
theorem d_Wo_endOfWord_10 : decode prog_7_method_6_code 10 = .ok (.invokestatic 50, 3) := by decide +kernel
theorem d_Wo_endOfWord_13 : decode prog_7_method_6_code 13 = .ok (.ifCond .eq 29, 3) := by decide +kernel
theorem d_Wo_endOfWord_16 : decode prog_7_method_6_code 16 = .ok (.iload_n 2, 1) := by decide +kernel
theorem d_Wo_endOfWord_17 : decode prog_7_method_6_code 17 = .ok (.aload_n 0, 1) := by decide +kernel
theorem d_Wo_endOfWord_18 : decode prog_7_method_6_code 18 = .ok (.getfield 25, 3) := by decide +kernel
theorem d_Wo_endOfWord_21 : decode prog_7_method_6_code 21 = .ok (.if_icmp .ge 59, 3) := by decide +kernel
theorem d_Wo_endOfWord_24 : decode prog_7_method_6_code 24 = .ok (.aload_n 0, 1) := by decide +kernel
theorem d_Wo_endOfWord_25 : decode prog_7_method_6_code 25 = .ok (.getfield 9, 3) := by decide +kernel
theorem d_Wo_endOfWord_28 : decode prog_7_method_6_code 28 = .ok (.iload_n 2, 1) := by decide +kernel
theorem d_Wo_endOfWord_29 : decode prog_7_method_6_code 29 = .ok (.caload, 1) := by decide +kernel
theorem d_Wo_endOfWord_30 : decode prog_7_method_6_code 30 = .ok (.invokestatic 50, 3) := by decide +kernel
theorem d_Wo_endOfWord_33 : decode prog_7_method_6_code 33 = .ok (.ifCond .eq 47, 3) := by decide +kernel
theorem d_Wo_endOfWord_36 : decode prog_7_method_6_code 36 = .ok (.iinc 2 1, 3) := by decide +kernel
theorem d_Wo_endOfWord_39 : decode prog_7_method_6_code 39 = .ok (.goto (-23), 3) := by decide +kernel
theorem d_Wo_endOfWord_42 : decode prog_7_method_6_code 42 = .ok (.aload_n 0, 1) := by decide +kernel
theorem d_Wo_endOfWord_43 : decode prog_7_method_6_code 43 = .ok (.getfield 9, 3) := by decide +kernel
theorem d_Wo_endOfWord_46 : decode prog_7_method_6_code 46 = .ok (.iload_n 1, 1) := by decide +kernel
theorem d_Wo_endOfWord_47 : decode prog_7_method_6_code 47 = .ok (.caload, 1) := by decide +kernel
theorem d_Wo_endOfWord_48 : decode prog_7_method_6_code 48 = .ok (.invokestatic 54, 3) := by decide +kernel
theorem d_Wo_endOfWord_51 : decode prog_7_method_6_code 51 = .ok (.ifCond .eq 29, 3) := by decide +kernel
theorem d_Wo_endOfWord_54 : decode prog_7_method_6_code 54 = .ok (.iload_n 2, 1) := by decide +kernel
theorem d_Wo_endOfWord_55 : decode prog_7_method_6_code 55 = .ok (.aload_n 0, 1) := by decide +kernel
theorem d_Wo_endOfWord_56 : decode prog_7_method_6_code 56 = .ok (.getfield 25, 3) := by decide +kernel
theorem d_Wo_endOfWord_59 : decode prog_7_method_6_code 59 = .ok (.if_icmp .ge 21, 3) := by decide +kernel
theorem d_Wo_endOfWord_62 : decode prog_7_method_6_code 62 = .ok (.aload_n 0, 1) := by decide +kernel
theorem d_Wo_endOfWord_63 : decode prog_7_method_6_code 63 = .ok (.getfield 9, 3) := by decide +kernel
theorem d_Wo_endOfWord_66 : decode prog_7_method_6_code 66 = .ok (.iload_n 2, 1) := by decide +kernel
theorem d_Wo_endOfWord_67 : decode prog_7_method_6_code 67 = .ok (.caload, 1) := by decide +kernel
theorem d_Wo_endOfWord_68 : decode prog_7_method_6_code 68 = .ok (.invokestatic 54, 3) := by decide +kernel
theorem d_Wo_endOfWord_71 : decode prog_7_method_6_code 71 = .ok (.ifCond .eq 9, 3) := by decide +kernel
theorem d_Wo_endOfWord_74 : decode prog_7_method_6_code 74 = .ok (.iinc 2 1, 3) := by decide +kernel
theorem d_Wo_endOfWord_77 : decode prog_7_method_6_code 77 = .ok (.goto (-23), 3) := by decide +kernel
theorem d_Wo_endOfWord_80 : decode prog_7_method_6_code 80 = .ok (.iload_n 2, 1) := by decide +kernel
theorem d_Wo_endOfWord_81 : decode prog_7_method_6_code 81 = .ok (.ireturn, 1) := by decide +kernel
def wp_Wo_endOfWord_80 (f_length : Int32) (f_text : Nat → Int32) (post : Int32 → Prop)  (x2 : Int32) : Prop := post x2
set_option maxHeartbeats 4000000 in
set_option maxRecDepth 100000 in
theorem wk_Wo_endOfWord_80 {p : Program} {l : Launch} {e : Env} {s : State} {m : MethodId} {args : Array Value} {below : List Frame} {meth : Method} {c : Code} (dC : Nat → ClassId) (dI : Nat → Nat → Nat) (cI cJ cC : ClassId) (A : Nat → Prop) (hA : ∀ q : Nat, s.heap.size ≤ q → A q) (C0 : gx_C p s m meth c args "LeanSets$Words" prog_7_method_6_code 3 (Option.some Jvm.ClassFile.FieldType.int)) (hN : gx_K dC dI cI cJ cC s)  (h_this h_text h_kinds h_places h_numbers : Nat) (u_words : Int32) (f_length : Int32) (f_text : Nat → Int32) (post : Int32 → Prop)   : ∀ (x2 : Int32), wp_Wo_endOfWord_80 f_length f_text post x2 → ∀ (H : Heap) (locs : List Loc) (ls : Array Slot), va_P (dC, dI) classes [(h_this, .inr (5, [.ref h_text, .int f_length, .ref h_kinds, .ref h_places, .ref h_numbers, .int u_words])), (h_text, .inl (cC, 600, .inl f_text))] H → va_D A [(h_this, .inr (5, [.ref h_text, .int f_length, .ref h_kinds, .ref h_places, .ref h_numbers, .int u_words])), (h_text, .inl (cC, 600, .inl f_text))] → va_S A s.heap H locs → lv_has ls 3 [(2, .int x2)] → W p l e { frames := 1, cells := 0, slots := 0, locals := 20 } s m args below meth c H locs 0 0 (MQ below (va_Qi (fun (r : Int32) (u : Unit) => post r) (fun (u : Unit) (t : State) => va_P (dC, dI) classes [(h_this, .inr (5, [.ref h_text, .int f_length, .ref h_kinds, .ref h_places, .ref h_numbers, .int u_words])), (h_text, .inl (cC, 600, .inl f_text))] t.heap ∧ va_D A [(h_this, .inr (5, [.ref h_text, .int f_length, .ref h_kinds, .ref h_places, .ref h_numbers, .int u_words])), (h_text, .inl (cC, 600, .inl f_text))]) A) args s 0 0 A) (F0 m 80 ls []) := by
  obtain ⟨hx, hb, hr, hml, hown, hlocks, hG⟩ := id C0
  have hK := hN.1
  intro x2 h H locs ls hP hD hS hl
  rw [wp_Wo_endOfWord_80] at h
  refine lv_iload_n hx hb d_Wo_endOfWord_80 rfl (lv_at hl 0 rfl) ?_
  exact W.iret (v := x2) hx hb hr (fun t ht hW => ⟨⟨x2, (), rfl, h, by rw [ht]; exact hP, hD⟩, hS.F ht⟩) hS.2.2 d_Wo_endOfWord_81 hlocks
def wp_Wo_endOfWord_54 (f_length : Int32) (f_text : Nat → Int32) (post : Int32 → Prop)  : Nat → Int32 → Prop
  | 0, _ => False
  | n + 1, x2 => ((f_length ≤ x2) → (wp_Wo_endOfWord_80 f_length f_text post x2)) ∧ ((¬ (f_length ≤ x2)) → ((vp_in x2 600) ∧ (wp_Wo_isDigit_0 (fun (r68 : Int32) => ((r68 = 0) → (wp_Wo_endOfWord_80 f_length f_text post x2)) ∧ ((¬ (r68 = 0)) → (wp_Wo_endOfWord_54 f_length f_text post n (x2 + (1 : Int32))))) (f_text x2.toNatClampNeg))))
set_option maxHeartbeats 4000000 in
set_option maxRecDepth 100000 in
theorem wk_Wo_endOfWord_54 {p : Program} {l : Launch} {e : Env} {s : State} {m : MethodId} {args : Array Value} {below : List Frame} {meth : Method} {c : Code} (dC : Nat → ClassId) (dI : Nat → Nat → Nat) (cI cJ cC : ClassId) (A : Nat → Prop) (hA : ∀ q : Nat, s.heap.size ≤ q → A q) (C0 : gx_C p s m meth c args "LeanSets$Words" prog_7_method_6_code 3 (Option.some Jvm.ClassFile.FieldType.int)) (hN : gx_K dC dI cI cJ cC s)  (h_this h_text h_kinds h_places h_numbers : Nat) (u_words : Int32) (f_length : Int32) (f_text : Nat → Int32) (post : Int32 → Prop)   : ∀ (n : Nat) (x2 : Int32), wp_Wo_endOfWord_54 f_length f_text post n x2 → ∀ (H : Heap) (locs : List Loc) (ls : Array Slot), va_P (dC, dI) classes [(h_this, .inr (5, [.ref h_text, .int f_length, .ref h_kinds, .ref h_places, .ref h_numbers, .int u_words])), (h_text, .inl (cC, 600, .inl f_text))] H → va_D A [(h_this, .inr (5, [.ref h_text, .int f_length, .ref h_kinds, .ref h_places, .ref h_numbers, .int u_words])), (h_text, .inl (cC, 600, .inl f_text))] → va_S A s.heap H locs → lv_has ls 3 [(0, .ref h_this), (2, .int x2)] → W p l e { frames := 1, cells := 0, slots := 0, locals := 20 } s m args below meth c H locs 0 0 (MQ below (va_Qi (fun (r : Int32) (u : Unit) => post r) (fun (u : Unit) (t : State) => va_P (dC, dI) classes [(h_this, .inr (5, [.ref h_text, .int f_length, .ref h_kinds, .ref h_places, .ref h_numbers, .int u_words])), (h_text, .inl (cC, 600, .inl f_text))] t.heap ∧ va_D A [(h_this, .inr (5, [.ref h_text, .int f_length, .ref h_kinds, .ref h_places, .ref h_numbers, .int u_words])), (h_text, .inl (cC, 600, .inl f_text))]) A) args s 0 0 A) (F0 m 54 ls []) := by
  obtain ⟨hx, hb, hr, hml, hown, hlocks, hG⟩ := id C0
  have hK := hN.1
  intro n
  induction n with
  | zero =>
    intro x2 h
    exact absurd h (by rw [wp_Wo_endOfWord_54]; exact id)
  | succ n ih =>
    intro x2 h H locs ls hP hD hS hl
    rw [wp_Wo_endOfWord_54] at h
    refine lv_iload_n hx hb d_Wo_endOfWord_54 rfl (lv_at hl 1 rfl) ?_
    refine lv_aload_n hx hb d_Wo_endOfWord_55 rfl (lv_at hl 0 rfl) ?_
    refine va_get (D := (dC, dI)) (ci := 5) (v := .int f_length) (C := "LeanSets$Words") (T := T_Wo) (N := 6) hx hb hG in_Wo hown hK hP 0 rfl rfl 1 (Nat.le_of_ble_eq_true rfl) (hG _ mw_42) (fun _ h9 => h9) rfl d_Wo_endOfWord_56 ?_
    refine lv_icmp_ge (tgt := 80) hx hb d_Wo_endOfWord_59 (by decide) (fun c_ => ?_) (fun c_ => ?_)
    · have h := h.1 c_
      exact wk_Wo_endOfWord_80 dC dI cI cJ cC A hA C0 hN h_this h_text h_kinds h_places h_numbers u_words f_length f_text post   x2 h _ _ _ hP hD hS (lv_sub hl [1] rfl)
    · have h := h.2 c_
      refine lv_aload_n hx hb d_Wo_endOfWord_62 rfl (lv_at hl 0 rfl) ?_
      refine va_get (D := (dC, dI)) (ci := 5) (v := .ref h_text) (C := "LeanSets$Words") (T := T_Wo) (N := 6) hx hb hG in_Wo hown hK hP 0 rfl rfl 0 (Nat.le_of_ble_eq_true rfl) (hG _ mw_41) (fun _ h9 => h9) rfl d_Wo_endOfWord_63 ?_
      refine lv_iload_n hx hb d_Wo_endOfWord_66 rfl (lv_at hl 1 rfl) ?_
      obtain ⟨g_, h⟩ := h
      refine va_cald hx hb hK hP 1 2 rfl rfl g_ d_Wo_endOfWord_67 ?_
      have hPc := hP.sub (ws' := []) [] rfl
      have hDc := hD.sub (ws' := []) [] (by decide) rfl
      have hFc := va_free (wc := []) hD hS hA [] rfl
      refine va_calli (va_runS (As := [.int (f_text x2.toNatClampNeg)]) (rest := []) ⟨hx, hb, hml, hown, hG⟩ (c_Wo_isDigit l dC dI cI cJ cC _ (f_text x2.toNatClampNeg) H.size h) (gx_cwS (own := "LeanSets$Words") 1 hG mw_275 mw_276 mw_3 mw_277 (by decide +kernel) ⟨Nat.le_of_ble_eq_true rfl, Nat.le_of_ble_eq_true rfl⟩) ⟨fun a U g mk q => by obtain ⟨q0, q1, qP, qK, qD⟩ := q; exact ⟨q0, q1, qP, gx_K.same (u := U) (U := U.calling g mk a) rfl qK, qD⟩, fun U hU hW => ⟨rfl, by rw [hU], by rw [hU]; exact hPc, gx_K.moved hW hN, hDc.weaken (fun _ _ _ _ => trivial)⟩⟩ rfl rfl hl.1 rfl (lv_room (Nat.le_of_ble_eq_true rfl)) d_Wo_endOfWord_68 ⟨Nat.le_of_ble_eq_true rfl, Nat.le_of_ble_eq_true rfl⟩) hS (fun q _ h => hFc q h) hFc (fun r68 u t H1 locs ht hvm hw hB hz1 hk1 hS => ?_)
      obtain ⟨hP1, hD1⟩ := hB
      rw [ht] at hP1
      obtain ⟨hP, hD⟩ := va_join (wr := [(h_this, .inr (5, [.ref h_text, .int f_length, .ref h_kinds, .ref h_places, .ref h_numbers, .int u_words])), (h_text, .inl (cC, 600, .inl f_text))]) (w1 := []) hP hD [] [0, 1] rfl rfl (by decide) (by decide) hk1 hFc hP1 hD1
      clear hPc hDc hFc hk1 hP1 hD1 ht hvm
      generalize H1 = H at hP hS ⊢
      have hP := hP.sub (ws' := [(h_this, .inr (5, [.ref h_text, .int f_length, .ref h_kinds, .ref h_places, .ref h_numbers, .int u_words])), (h_text, .inl (cC, 600, .inl f_text))]) [0, 1] rfl
      have hD := hD.sub (ws' := [(h_this, .inr (5, [.ref h_text, .int f_length, .ref h_kinds, .ref h_places, .ref h_numbers, .int u_words])), (h_text, .inl (cC, 600, .inl f_text))]) [0, 1] (by decide) rfl
      have h := hw
      try dsimp only at h
      refine lv_if_eq (tgt := 80) hx hb d_Wo_endOfWord_71 (by decide) (fun c_ => ?_) (fun c_ => ?_)
      · have h := h.1 c_
        exact wk_Wo_endOfWord_80 dC dI cI cJ cC A hA C0 hN h_this h_text h_kinds h_places h_numbers u_words f_length f_text post   x2 h _ _ _ hP hD hS (lv_sub hl [1] rfl)
      · have h := h.2 c_
        refine lv_iinc (v := (x2 + (1 : Int32))) (lv' := [(2, .int (x2 + (1 : Int32))), (0, .ref h_this)]) hx hb d_Wo_endOfWord_74 hl (k := 1) rfl rfl (by decide) rfl (fun ls hl => ?_)
        refine lv_goto (tgt := 54) hx hb d_Wo_endOfWord_77 (by decide) ?_
        exact ih (x2 + (1 : Int32)) h _ _ _ hP hD hS (lv_sub hl [1, 0] rfl)
def wp_Wo_endOfWord_16 (f_length : Int32) (f_text : Nat → Int32) (post : Int32 → Prop)  : Nat → Int32 → Prop
  | 0, _ => False
  | n + 1, x2 => ((f_length ≤ x2) → (wp_Wo_endOfWord_80 f_length f_text post x2)) ∧ ((¬ (f_length ≤ x2)) → ((vp_in x2 600) ∧ (wp_Wo_isLetter_0 (fun (r30 : Int32) => ((r30 = 0) → (wp_Wo_endOfWord_80 f_length f_text post x2)) ∧ ((¬ (r30 = 0)) → (wp_Wo_endOfWord_16 f_length f_text post n (x2 + (1 : Int32))))) (f_text x2.toNatClampNeg))))
set_option maxHeartbeats 4000000 in
set_option maxRecDepth 100000 in
theorem wk_Wo_endOfWord_16 {p : Program} {l : Launch} {e : Env} {s : State} {m : MethodId} {args : Array Value} {below : List Frame} {meth : Method} {c : Code} (dC : Nat → ClassId) (dI : Nat → Nat → Nat) (cI cJ cC : ClassId) (A : Nat → Prop) (hA : ∀ q : Nat, s.heap.size ≤ q → A q) (C0 : gx_C p s m meth c args "LeanSets$Words" prog_7_method_6_code 3 (Option.some Jvm.ClassFile.FieldType.int)) (hN : gx_K dC dI cI cJ cC s)  (h_this h_text h_kinds h_places h_numbers : Nat) (u_words : Int32) (f_length : Int32) (f_text : Nat → Int32) (post : Int32 → Prop)   : ∀ (n : Nat) (x2 : Int32), wp_Wo_endOfWord_16 f_length f_text post n x2 → ∀ (H : Heap) (locs : List Loc) (ls : Array Slot), va_P (dC, dI) classes [(h_this, .inr (5, [.ref h_text, .int f_length, .ref h_kinds, .ref h_places, .ref h_numbers, .int u_words])), (h_text, .inl (cC, 600, .inl f_text))] H → va_D A [(h_this, .inr (5, [.ref h_text, .int f_length, .ref h_kinds, .ref h_places, .ref h_numbers, .int u_words])), (h_text, .inl (cC, 600, .inl f_text))] → va_S A s.heap H locs → lv_has ls 3 [(0, .ref h_this), (2, .int x2)] → W p l e { frames := 1, cells := 0, slots := 0, locals := 20 } s m args below meth c H locs 0 0 (MQ below (va_Qi (fun (r : Int32) (u : Unit) => post r) (fun (u : Unit) (t : State) => va_P (dC, dI) classes [(h_this, .inr (5, [.ref h_text, .int f_length, .ref h_kinds, .ref h_places, .ref h_numbers, .int u_words])), (h_text, .inl (cC, 600, .inl f_text))] t.heap ∧ va_D A [(h_this, .inr (5, [.ref h_text, .int f_length, .ref h_kinds, .ref h_places, .ref h_numbers, .int u_words])), (h_text, .inl (cC, 600, .inl f_text))]) A) args s 0 0 A) (F0 m 16 ls []) := by
  obtain ⟨hx, hb, hr, hml, hown, hlocks, hG⟩ := id C0
  have hK := hN.1
  intro n
  induction n with
  | zero =>
    intro x2 h
    exact absurd h (by rw [wp_Wo_endOfWord_16]; exact id)
  | succ n ih =>
    intro x2 h H locs ls hP hD hS hl
    rw [wp_Wo_endOfWord_16] at h
    refine lv_iload_n hx hb d_Wo_endOfWord_16 rfl (lv_at hl 1 rfl) ?_
    refine lv_aload_n hx hb d_Wo_endOfWord_17 rfl (lv_at hl 0 rfl) ?_
    refine va_get (D := (dC, dI)) (ci := 5) (v := .int f_length) (C := "LeanSets$Words") (T := T_Wo) (N := 6) hx hb hG in_Wo hown hK hP 0 rfl rfl 1 (Nat.le_of_ble_eq_true rfl) (hG _ mw_42) (fun _ h9 => h9) rfl d_Wo_endOfWord_18 ?_
    refine lv_icmp_ge (tgt := 80) hx hb d_Wo_endOfWord_21 (by decide) (fun c_ => ?_) (fun c_ => ?_)
    · have h := h.1 c_
      exact wk_Wo_endOfWord_80 dC dI cI cJ cC A hA C0 hN h_this h_text h_kinds h_places h_numbers u_words f_length f_text post   x2 h _ _ _ hP hD hS (lv_sub hl [1] rfl)
    · have h := h.2 c_
      refine lv_aload_n hx hb d_Wo_endOfWord_24 rfl (lv_at hl 0 rfl) ?_
      refine va_get (D := (dC, dI)) (ci := 5) (v := .ref h_text) (C := "LeanSets$Words") (T := T_Wo) (N := 6) hx hb hG in_Wo hown hK hP 0 rfl rfl 0 (Nat.le_of_ble_eq_true rfl) (hG _ mw_41) (fun _ h9 => h9) rfl d_Wo_endOfWord_25 ?_
      refine lv_iload_n hx hb d_Wo_endOfWord_28 rfl (lv_at hl 1 rfl) ?_
      obtain ⟨g_, h⟩ := h
      refine va_cald hx hb hK hP 1 2 rfl rfl g_ d_Wo_endOfWord_29 ?_
      have hPc := hP.sub (ws' := []) [] rfl
      have hDc := hD.sub (ws' := []) [] (by decide) rfl
      have hFc := va_free (wc := []) hD hS hA [] rfl
      refine va_calli (va_runS (As := [.int (f_text x2.toNatClampNeg)]) (rest := []) ⟨hx, hb, hml, hown, hG⟩ (c_Wo_isLetter l dC dI cI cJ cC _ (f_text x2.toNatClampNeg) H.size h) (gx_cwS (own := "LeanSets$Words") 1 hG mw_272 mw_273 mw_3 mw_274 (by decide +kernel) ⟨Nat.le_of_ble_eq_true rfl, Nat.le_of_ble_eq_true rfl⟩) ⟨fun a U g mk q => by obtain ⟨q0, q1, qP, qK, qD⟩ := q; exact ⟨q0, q1, qP, gx_K.same (u := U) (U := U.calling g mk a) rfl qK, qD⟩, fun U hU hW => ⟨rfl, by rw [hU], by rw [hU]; exact hPc, gx_K.moved hW hN, hDc.weaken (fun _ _ _ _ => trivial)⟩⟩ rfl rfl hl.1 rfl (lv_room (Nat.le_of_ble_eq_true rfl)) d_Wo_endOfWord_30 ⟨Nat.le_of_ble_eq_true rfl, Nat.le_of_ble_eq_true rfl⟩) hS (fun q _ h => hFc q h) hFc (fun r30 u t H1 locs ht hvm hw hB hz1 hk1 hS => ?_)
      obtain ⟨hP1, hD1⟩ := hB
      rw [ht] at hP1
      obtain ⟨hP, hD⟩ := va_join (wr := [(h_this, .inr (5, [.ref h_text, .int f_length, .ref h_kinds, .ref h_places, .ref h_numbers, .int u_words])), (h_text, .inl (cC, 600, .inl f_text))]) (w1 := []) hP hD [] [0, 1] rfl rfl (by decide) (by decide) hk1 hFc hP1 hD1
      clear hPc hDc hFc hk1 hP1 hD1 ht hvm
      generalize H1 = H at hP hS ⊢
      have hP := hP.sub (ws' := [(h_this, .inr (5, [.ref h_text, .int f_length, .ref h_kinds, .ref h_places, .ref h_numbers, .int u_words])), (h_text, .inl (cC, 600, .inl f_text))]) [0, 1] rfl
      have hD := hD.sub (ws' := [(h_this, .inr (5, [.ref h_text, .int f_length, .ref h_kinds, .ref h_places, .ref h_numbers, .int u_words])), (h_text, .inl (cC, 600, .inl f_text))]) [0, 1] (by decide) rfl
      have h := hw
      try dsimp only at h
      refine lv_if_eq (tgt := 80) hx hb d_Wo_endOfWord_33 (by decide) (fun c_ => ?_) (fun c_ => ?_)
      · have h := h.1 c_
        exact wk_Wo_endOfWord_80 dC dI cI cJ cC A hA C0 hN h_this h_text h_kinds h_places h_numbers u_words f_length f_text post   x2 h _ _ _ hP hD hS (lv_sub hl [1] rfl)
      · have h := h.2 c_
        refine lv_iinc (v := (x2 + (1 : Int32))) (lv' := [(2, .int (x2 + (1 : Int32))), (0, .ref h_this)]) hx hb d_Wo_endOfWord_36 hl (k := 1) rfl rfl (by decide) rfl (fun ls hl => ?_)
        refine lv_goto (tgt := 16) hx hb d_Wo_endOfWord_39 (by decide) ?_
        exact ih (x2 + (1 : Int32)) h _ _ _ hP hD hS (lv_sub hl [1, 0] rfl)
def wp_Wo_endOfWord_0 (f_length : Int32) (f_text : Nat → Int32) (post : Int32 → Prop)  (x1 : Int32) : Prop := (vp_in x1 600) ∧ (wp_Wo_isLetter_0 (fun (r10 : Int32) => ((r10 = 0) → ((vp_in x1 600) ∧ (wp_Wo_isDigit_0 (fun (r48 : Int32) => ((r48 = 0) → (wp_Wo_endOfWord_80 f_length f_text post (x1 + (1 : Int32)))) ∧ ((¬ (r48 = 0)) → (∃ n_ : Nat, wp_Wo_endOfWord_54 f_length f_text post n_ (x1 + (1 : Int32))))) (f_text x1.toNatClampNeg)))) ∧ ((¬ (r10 = 0)) → (∃ n_ : Nat, wp_Wo_endOfWord_16 f_length f_text post n_ (x1 + (1 : Int32))))) (f_text x1.toNatClampNeg))
set_option maxHeartbeats 4000000 in
set_option maxRecDepth 100000 in
theorem wk_Wo_endOfWord_0 {p : Program} {l : Launch} {e : Env} {s : State} {m : MethodId} {args : Array Value} {below : List Frame} {meth : Method} {c : Code} (dC : Nat → ClassId) (dI : Nat → Nat → Nat) (cI cJ cC : ClassId) (A : Nat → Prop) (hA : ∀ q : Nat, s.heap.size ≤ q → A q) (C0 : gx_C p s m meth c args "LeanSets$Words" prog_7_method_6_code 3 (Option.some Jvm.ClassFile.FieldType.int)) (hN : gx_K dC dI cI cJ cC s)  (h_this h_text h_kinds h_places h_numbers : Nat) (u_words : Int32) (f_length : Int32) (f_text : Nat → Int32) (post : Int32 → Prop)   : ∀ (x1 : Int32), wp_Wo_endOfWord_0 f_length f_text post x1 → ∀ (H : Heap) (locs : List Loc) (ls : Array Slot), va_P (dC, dI) classes [(h_this, .inr (5, [.ref h_text, .int f_length, .ref h_kinds, .ref h_places, .ref h_numbers, .int u_words])), (h_text, .inl (cC, 600, .inl f_text))] H → va_D A [(h_this, .inr (5, [.ref h_text, .int f_length, .ref h_kinds, .ref h_places, .ref h_numbers, .int u_words])), (h_text, .inl (cC, 600, .inl f_text))] → va_S A s.heap H locs → lv_has ls 3 [(0, .ref h_this), (1, .int x1)] → W p l e { frames := 1, cells := 0, slots := 0, locals := 20 } s m args below meth c H locs 0 0 (MQ below (va_Qi (fun (r : Int32) (u : Unit) => post r) (fun (u : Unit) (t : State) => va_P (dC, dI) classes [(h_this, .inr (5, [.ref h_text, .int f_length, .ref h_kinds, .ref h_places, .ref h_numbers, .int u_words])), (h_text, .inl (cC, 600, .inl f_text))] t.heap ∧ va_D A [(h_this, .inr (5, [.ref h_text, .int f_length, .ref h_kinds, .ref h_places, .ref h_numbers, .int u_words])), (h_text, .inl (cC, 600, .inl f_text))]) A) args s 0 0 A) (F0 m 0 ls []) := by
  obtain ⟨hx, hb, hr, hml, hown, hlocks, hG⟩ := id C0
  have hK := hN.1
  intro x1 h H locs ls hP hD hS hl
  rw [wp_Wo_endOfWord_0] at h
  refine lv_iload_n hx hb d_Wo_endOfWord_0 rfl (lv_at hl 1 rfl) ?_
  refine lv_iconst (v := 1) hx hb d_Wo_endOfWord_1 (by decide) ?_
  refine lv_iadd hx hb d_Wo_endOfWord_2 ?_
  refine lv_istore_n (lv' := [(2, .int (x1 + (1 : Int32))), (0, .ref h_this), (1, .int x1)]) hx hb d_Wo_endOfWord_3 rfl hl (by decide) rfl (fun ls hl => ?_)
  refine lv_aload_n hx hb d_Wo_endOfWord_4 rfl (lv_at hl 1 rfl) ?_
  refine va_get (D := (dC, dI)) (ci := 5) (v := .ref h_text) (C := "LeanSets$Words") (T := T_Wo) (N := 6) hx hb hG in_Wo hown hK hP 0 rfl rfl 0 (Nat.le_of_ble_eq_true rfl) (hG _ mw_41) (fun _ h9 => h9) rfl d_Wo_endOfWord_5 ?_
  refine lv_iload_n hx hb d_Wo_endOfWord_8 rfl (lv_at hl 2 rfl) ?_
  obtain ⟨g_, h⟩ := h
  refine va_cald hx hb hK hP 1 2 rfl rfl g_ d_Wo_endOfWord_9 ?_
  have hPc := hP.sub (ws' := []) [] rfl
  have hDc := hD.sub (ws' := []) [] (by decide) rfl
  have hFc := va_free (wc := []) hD hS hA [] rfl
  refine va_calli (va_runS (As := [.int (f_text x1.toNatClampNeg)]) (rest := []) ⟨hx, hb, hml, hown, hG⟩ (c_Wo_isLetter l dC dI cI cJ cC _ (f_text x1.toNatClampNeg) H.size h) (gx_cwS (own := "LeanSets$Words") 1 hG mw_272 mw_273 mw_3 mw_274 (by decide +kernel) ⟨Nat.le_of_ble_eq_true rfl, Nat.le_of_ble_eq_true rfl⟩) ⟨fun a U g mk q => by obtain ⟨q0, q1, qP, qK, qD⟩ := q; exact ⟨q0, q1, qP, gx_K.same (u := U) (U := U.calling g mk a) rfl qK, qD⟩, fun U hU hW => ⟨rfl, by rw [hU], by rw [hU]; exact hPc, gx_K.moved hW hN, hDc.weaken (fun _ _ _ _ => trivial)⟩⟩ rfl rfl hl.1 rfl (lv_room (Nat.le_of_ble_eq_true rfl)) d_Wo_endOfWord_10 ⟨Nat.le_of_ble_eq_true rfl, Nat.le_of_ble_eq_true rfl⟩) hS (fun q _ h => hFc q h) hFc (fun r10 u t H1 locs ht hvm hw hB hz1 hk1 hS => ?_)
  obtain ⟨hP1, hD1⟩ := hB
  rw [ht] at hP1
  obtain ⟨hP, hD⟩ := va_join (wr := [(h_this, .inr (5, [.ref h_text, .int f_length, .ref h_kinds, .ref h_places, .ref h_numbers, .int u_words])), (h_text, .inl (cC, 600, .inl f_text))]) (w1 := []) hP hD [] [0, 1] rfl rfl (by decide) (by decide) hk1 hFc hP1 hD1
  clear hPc hDc hFc hk1 hP1 hD1 ht hvm
  generalize H1 = H at hP hS ⊢
  have hP := hP.sub (ws' := [(h_this, .inr (5, [.ref h_text, .int f_length, .ref h_kinds, .ref h_places, .ref h_numbers, .int u_words])), (h_text, .inl (cC, 600, .inl f_text))]) [0, 1] rfl
  have hD := hD.sub (ws' := [(h_this, .inr (5, [.ref h_text, .int f_length, .ref h_kinds, .ref h_places, .ref h_numbers, .int u_words])), (h_text, .inl (cC, 600, .inl f_text))]) [0, 1] (by decide) rfl
  have h := hw
  try dsimp only at h
  refine lv_if_eq (tgt := 42) hx hb d_Wo_endOfWord_13 (by decide) (fun c_ => ?_) (fun c_ => ?_)
  · have h := h.1 c_
    refine lv_aload_n hx hb d_Wo_endOfWord_42 rfl (lv_at hl 1 rfl) ?_
    refine va_get (D := (dC, dI)) (ci := 5) (v := .ref h_text) (C := "LeanSets$Words") (T := T_Wo) (N := 6) hx hb hG in_Wo hown hK hP 0 rfl rfl 0 (Nat.le_of_ble_eq_true rfl) (hG _ mw_41) (fun _ h9 => h9) rfl d_Wo_endOfWord_43 ?_
    refine lv_iload_n hx hb d_Wo_endOfWord_46 rfl (lv_at hl 2 rfl) ?_
    obtain ⟨g_, h⟩ := h
    refine va_cald hx hb hK hP 1 2 rfl rfl g_ d_Wo_endOfWord_47 ?_
    have hPc := hP.sub (ws' := []) [] rfl
    have hDc := hD.sub (ws' := []) [] (by decide) rfl
    have hFc := va_free (wc := []) hD hS hA [] rfl
    refine va_calli (va_runS (As := [.int (f_text x1.toNatClampNeg)]) (rest := []) ⟨hx, hb, hml, hown, hG⟩ (c_Wo_isDigit l dC dI cI cJ cC _ (f_text x1.toNatClampNeg) H.size h) (gx_cwS (own := "LeanSets$Words") 1 hG mw_275 mw_276 mw_3 mw_277 (by decide +kernel) ⟨Nat.le_of_ble_eq_true rfl, Nat.le_of_ble_eq_true rfl⟩) ⟨fun a U g mk q => by obtain ⟨q0, q1, qP, qK, qD⟩ := q; exact ⟨q0, q1, qP, gx_K.same (u := U) (U := U.calling g mk a) rfl qK, qD⟩, fun U hU hW => ⟨rfl, by rw [hU], by rw [hU]; exact hPc, gx_K.moved hW hN, hDc.weaken (fun _ _ _ _ => trivial)⟩⟩ rfl rfl hl.1 rfl (lv_room (Nat.le_of_ble_eq_true rfl)) d_Wo_endOfWord_48 ⟨Nat.le_of_ble_eq_true rfl, Nat.le_of_ble_eq_true rfl⟩) hS (fun q _ h => hFc q h) hFc (fun r48 u t H1 locs ht hvm hw hB hz1 hk1 hS => ?_)
    obtain ⟨hP1, hD1⟩ := hB
    rw [ht] at hP1
    obtain ⟨hP, hD⟩ := va_join (wr := [(h_this, .inr (5, [.ref h_text, .int f_length, .ref h_kinds, .ref h_places, .ref h_numbers, .int u_words])), (h_text, .inl (cC, 600, .inl f_text))]) (w1 := []) hP hD [] [0, 1] rfl rfl (by decide) (by decide) hk1 hFc hP1 hD1
    clear hPc hDc hFc hk1 hP1 hD1 ht hvm
    generalize H1 = H at hP hS ⊢
    have hP := hP.sub (ws' := [(h_this, .inr (5, [.ref h_text, .int f_length, .ref h_kinds, .ref h_places, .ref h_numbers, .int u_words])), (h_text, .inl (cC, 600, .inl f_text))]) [0, 1] rfl
    have hD := hD.sub (ws' := [(h_this, .inr (5, [.ref h_text, .int f_length, .ref h_kinds, .ref h_places, .ref h_numbers, .int u_words])), (h_text, .inl (cC, 600, .inl f_text))]) [0, 1] (by decide) rfl
    have h := hw
    try dsimp only at h
    refine lv_if_eq (tgt := 80) hx hb d_Wo_endOfWord_51 (by decide) (fun c_ => ?_) (fun c_ => ?_)
    · have h := h.1 c_
      exact wk_Wo_endOfWord_80 dC dI cI cJ cC A hA C0 hN h_this h_text h_kinds h_places h_numbers u_words f_length f_text post   (x1 + (1 : Int32)) h _ _ _ hP hD hS (lv_sub hl [0] rfl)
    · have h := h.2 c_
      obtain ⟨n_, h⟩ := h
      exact wk_Wo_endOfWord_54 dC dI cI cJ cC A hA C0 hN h_this h_text h_kinds h_places h_numbers u_words f_length f_text post   n_ (x1 + (1 : Int32)) h _ _ _ hP hD hS (lv_sub hl [1, 0] rfl)
  · have h := h.2 c_
    obtain ⟨n_, h⟩ := h
    exact wk_Wo_endOfWord_16 dC dI cI cJ cC A hA C0 hN h_this h_text h_kinds h_places h_numbers u_words f_length f_text post   n_ (x1 + (1 : Int32)) h _ _ _ hP hD hS (lv_sub hl [1, 0] rfl)
set_option maxHeartbeats 4000000 in
set_option maxRecDepth 100000 in
theorem c_Wo_endOfWord (l : Launch) (dC : Nat → ClassId) (dI : Nat → Nat → Nat) (cI cJ cC : ClassId) (h_this h_text h_kinds h_places h_numbers : Nat) (u_words : Int32) (f_length : Int32) (f_text : Nat → Int32) (post : Int32 → Prop) (x1 : Int32) (sz : Nat) (h : wp_Wo_endOfWord_0 f_length f_text post x1) : Met l y_Wo_endOfWord (.code y_Wo_endOfWord prog_7_method_6_code 3 (Option.some Jvm.ClassFile.FieldType.int) :: gx_G) ({ frames := 1, cells := 0, slots := 0, locals := 20 }) (va_Pc [.ref h_this, .int x1] (fun U => U.heap.size = sz ∧ va_P (dC, dI) classes [(h_this, .inr (5, [.ref h_text, .int f_length, .ref h_kinds, .ref h_places, .ref h_numbers, .int u_words])), (h_text, .inl (cC, 600, .inl f_text))] U.heap ∧ gx_K dC dI cI cJ cC U ∧ va_D (fun _ => True) [(h_this, .inr (5, [.ref h_text, .int f_length, .ref h_kinds, .ref h_places, .ref h_numbers, .int u_words])), (h_text, .inl (cC, 600, .inl f_text))])) (va_Qi (fun (r : Int32) (u : Unit) => post r) (fun (u : Unit) (t : State) => va_P (dC, dI) classes [(h_this, .inr (5, [.ref h_text, .int f_length, .ref h_kinds, .ref h_places, .ref h_numbers, .int u_words])), (h_text, .inl (cC, 600, .inl f_text))] t.heap ∧ va_D (va_A [(h_this, .inr (5, [.ref h_text, .int f_length, .ref h_kinds, .ref h_places, .ref h_numbers, .int u_words])), (h_text, .inl (cC, 600, .inl f_text))] sz) [(h_this, .inr (5, [.ref h_text, .int f_length, .ref h_kinds, .ref h_places, .ref h_numbers, .int u_words])), (h_text, .inl (cC, 600, .inl f_text))]) (va_A [(h_this, .inr (5, [.ref h_text, .int f_length, .ref h_kinds, .ref h_places, .ref h_numbers, .int u_words])), (h_text, .inl (cC, 600, .inl f_text))] sz)) 0 0 (va_A [(h_this, .inr (5, [.ref h_text, .int f_length, .ref h_kinds, .ref h_places, .ref h_numbers, .int u_words])), (h_text, .inl (cC, 600, .inl f_text))] sz) := by
  refine Met.ofW (cc := prog_7_method_6_code) (maxL := 3) (ret := (Option.some Jvm.ClassFile.FieldType.int)) (by decide +kernel) rfl ?_
  intro p e s m args below meth c s₁ B hml hv
  obtain ⟨rfl, hsz, hP, hN, hD0⟩ := hv
  have hts := atoms_spec (ws := (.code y_Wo_endOfWord prog_7_method_6_code 3 (Option.some Jvm.ClassFile.FieldType.int) :: gx_G)) B.pre
  have C0 : gx_C p s m meth c _ "LeanSets$Words" prog_7_method_6_code 3 (Option.some Jvm.ClassFile.FieldType.int) := ⟨B.exec, B.bytes, B.returns, hml, findClass_of_methodNamed B.named, B.notSynchronized, fun w hw => hts w (List.mem_cons_of_mem _ hw)⟩
  subst hsz
  have hD := hD0.self (sz := s.heap.size)
  generalize hAe : va_A [(h_this, .inr (5, [.ref h_text, .int f_length, .ref h_kinds, .ref h_places, .ref h_numbers, .int u_words])), (h_text, .inl (cC, 600, .inl f_text))] s.heap.size = A at hD ⊢
  have hA : ∀ q : Nat, s.heap.size ≤ q → A q := fun q h => by rw [← hAe]; exact Or.inr h
  have hl := lv_entry ([.ref h_this, .int x1]) (n := 3) (Nat.le_of_ble_eq_true rfl)
  rw [lg_entry_eq]
  generalize (lg_sl ([.ref h_this, .int x1]) ++ List.replicate (3 - (lg_sl ([.ref h_this, .int x1])).length) Slot.unset).toArray = ls at hl ⊢
  exact wk_Wo_endOfWord_0 dC dI cI cJ cC A hA C0 hN h_this h_text h_kinds h_places h_numbers u_words f_length f_text post x1 h s.heap [] ls hP hD va_S.rf hl
/-! LeanSets$Words.spells(Ljava/lang/String;II)Z -/
def y_Wo_spells : MethodName := ⟨"LeanSets$Words", "spells", "(Ljava/lang/String;II)Z"⟩
theorem d_Wo_spells_0 : decode prog_7_method_9_code 0 = .ok (.aload_n 1, 1) := by decide +kernel
theorem d_Wo_spells_1 : decode prog_7_method_9_code 1 = .ok (.invokevirtual 72, 3) := by decide +kernel
theorem d_Wo_spells_4 : decode prog_7_method_9_code 4 = .ok (.iload_n 3, 1) := by decide +kernel
theorem d_Wo_spells_5 : decode prog_7_method_9_code 5 = .ok (.iload_n 2, 1) := by decide +kernel
theorem d_Wo_spells_6 : decode prog_7_method_9_code 6 = .ok (.isub, 1) := by decide +kernel
theorem d_Wo_spells_7 : decode prog_7_method_9_code 7 = .ok (.if_icmp .eq 5, 3) := by decide +kernel
theorem d_Wo_spells_10 : decode prog_7_method_9_code 10 = .ok (.iconst 0, 1) := by decide +kernel
theorem d_Wo_spells_11 : decode prog_7_method_9_code 11 = .ok (.ireturn, 1) := by decide +kernel
theorem d_Wo_spells_12 : decode prog_7_method_9_code 12 = .ok (.iconst 0, 1) := by decide +kernel
theorem d_Wo_spells_13 : decode prog_7_method_9_code 13 = .ok (.istore 4, 2) := by decide +kernel
theorem d_Wo_spells_15 : decode prog_7_method_9_code 15 = .ok (.iload 4, 2) := by decide +kernel
theorem d_Wo_spells_17 : decode prog_7_method_9_code 17 = .ok (.aload_n 1, 1) := by decide +kernel
theorem d_Wo_spells_18 : decode prog_7_method_9_code 18 = .ok (.invokevirtual 72, 3) := by decide +kernel
theorem d_Wo_spells_21 : decode prog_7_method_9_code 21 = .ok (.if_icmp .ge 29, 3) := by decide +kernel
theorem d_Wo_spells_24 : decode prog_7_method_9_code 24 = .ok (.aload_n 0, 1) := by decide +kernel
theorem d_Wo_spells_25 : decode prog_7_method_9_code 25 = .ok (.getfield 9, 3) := by decide +kernel
theorem d_Wo_spells_28 : decode prog_7_method_9_code 28 = .ok (.iload_n 2, 1) := by decide +kernel
theorem d_Wo_spells_29 : decode prog_7_method_9_code 29 = .ok (.iload 4, 2) := by decide +kernel
theorem d_Wo_spells_31 : decode prog_7_method_9_code 31 = .ok (.iadd, 1) := by decide +kernel
theorem d_Wo_spells_32 : decode prog_7_method_9_code 32 = .ok (.caload, 1) := by decide +kernel
theorem d_Wo_spells_33 : decode prog_7_method_9_code 33 = .ok (.aload_n 1, 1) := by decide +kernel
theorem d_Wo_spells_34 : decode prog_7_method_9_code 34 = .ok (.iload 4, 2) := by decide +kernel
theorem d_Wo_spells_36 : decode prog_7_method_9_code 36 = .ok (.invokevirtual 77, 3) := by decide +kernel
theorem d_Wo_spells_39 : decode prog_7_method_9_code 39 = .ok (.if_icmp .eq 5, 3) := by decide +kernel
theorem d_Wo_spells_42 : decode prog_7_method_9_code 42 = .ok (.iconst 0, 1) := by decide +kernel
theorem d_Wo_spells_43 : decode prog_7_method_9_code 43 = .ok (.ireturn, 1) := by decide +kernel
theorem d_Wo_spells_44 : decode prog_7_method_9_code 44 = .ok (.iinc 4 1, 3) := by decide +kernel
theorem d_Wo_spells_47 : decode prog_7_method_9_code 47 = .ok (.goto (-32), 3) := by decide +kernel
theorem d_Wo_spells_50 : decode prog_7_method_9_code 50 = .ok (.iconst 1, 1) := by decide +kernel
theorem d_Wo_spells_51 : decode prog_7_method_9_code 51 = .ok (.ireturn, 1) := by decide +kernel
def wp_Wo_spells_15 (f_text : Nat → Int32) (post : Int32 → Prop)  : Nat → Nat → Int32 → Int32 → Prop
  | 0, _, _, _ => False
  | n + 1, x1, x2, x4 => wp_Sg_length_0 (fun (r18 : Int32) => ((r18 ≤ x4) → (post (1 : Int32))) ∧ ((¬ (r18 ≤ x4)) → ((vp_in (x2 + x4) 600) ∧ (wp_Sg_charAt_0 (fun (r36 : Int32) => (((f_text (x2 + x4).toNatClampNeg) = r36) → (wp_Wo_spells_15 f_text post n x1 x2 (x4 + (1 : Int32)))) ∧ ((¬ ((f_text (x2 + x4).toNatClampNeg) = r36)) → (post (0 : Int32)))) x1 x4)))) x1
set_option maxHeartbeats 4000000 in
set_option maxRecDepth 100000 in
theorem wk_Wo_spells_15 {p : Program} {l : Launch} {e : Env} {s : State} {m : MethodId} {args : Array Value} {below : List Frame} {meth : Method} {c : Code} (dC : Nat → ClassId) (dI : Nat → Nat → Nat) (cI cJ cC : ClassId) (A : Nat → Prop) (hA : ∀ q : Nat, s.heap.size ≤ q → A q) (C0 : gx_C p s m meth c args "LeanSets$Words" prog_7_method_9_code 5 (Option.some Jvm.ClassFile.FieldType.boolean)) (hN : gx_K dC dI cI cJ cC s) (adK adV : Nat → Nat) (hZ : gx_Z adK adV A s)  (h_this h_text h_kinds h_places h_numbers : Nat) (u_length : Int32) (u_words : Int32) (f_text : Nat → Int32) (post : Int32 → Prop)   : ∀ (n : Nat) (x1 : Nat) (x2 : Int32) (x4 : Int32), wp_Wo_spells_15 f_text post n x1 x2 x4 → ∀ (H : Heap) (locs : List Loc) (ls : Array Slot), va_P (dC, dI) classes [(h_this, .inr (5, [.ref h_text, .int u_length, .ref h_kinds, .ref h_places, .ref h_numbers, .int u_words])), (h_text, .inl (cC, 600, .inl f_text))] H → va_D A [(h_this, .inr (5, [.ref h_text, .int u_length, .ref h_kinds, .ref h_places, .ref h_numbers, .int u_words])), (h_text, .inl (cC, 600, .inl f_text))] → va_S A s.heap H locs → lv_has ls 5 [(0, .ref h_this), (1, .ref (adK x1)), (2, .int x2), (4, .int x4)] → W p l e { frames := 4, cells := 0, slots := 0, locals := 85 } s m args below meth c H locs 0 0 (MQ below (va_Qi (fun (r : Int32) (u : Unit) => post r) (fun (u : Unit) (t : State) => va_P (dC, dI) classes [(h_this, .inr (5, [.ref h_text, .int u_length, .ref h_kinds, .ref h_places, .ref h_numbers, .int u_words])), (h_text, .inl (cC, 600, .inl f_text))] t.heap ∧ va_D A [(h_this, .inr (5, [.ref h_text, .int u_length, .ref h_kinds, .ref h_places, .ref h_numbers, .int u_words])), (h_text, .inl (cC, 600, .inl f_text))]) A) args s 0 0 A) (F0 m 15 ls []) := by
  obtain ⟨hx, hb, hr, hml, hown, hlocks, hG⟩ := id C0
  have hK := hN.1
  intro n
  induction n with
  | zero =>
    intro x1 x2 x4 h
    exact absurd h (by rw [wp_Wo_spells_15]; exact id)
  | succ n ih =>
    intro x1 x2 x4 h H locs ls hP hD hS hl
    rw [wp_Wo_spells_15] at h
    refine lv_iload hx hb d_Wo_spells_15 (lv_at hl 3 rfl) ?_
    refine lv_aload_n hx hb d_Wo_spells_17 rfl (lv_at hl 1 rfl) ?_
    have hPc := hP.sub (ws' := []) [] rfl
    have hDc := hD.sub (ws' := []) [] (by decide) rfl
    have hFc := va_free (wc := []) hD hS hA [] rfl
    refine va_calli (va_runV (As := []) (rest := [.int x4]) ⟨hx, hb, hml, hown, hG⟩ (c_Sg_length l dC dI cI cJ cC adK adV _ x1  H.size h) (gx_cwV (own := "LeanSets$Words") 0 hG mw_291 mw_292 mw_293 mw_9 mw_294 (by decide +kernel) ⟨Nat.le_of_ble_eq_true rfl, Nat.le_of_ble_eq_true rfl⟩) ⟨fun a U g mk q => by obtain ⟨q0, q1, qP, qK, qD, qZ⟩ := q; exact ⟨q0, q1, qP, gx_K.same (u := U) (U := U.calling g mk a) rfl qK, qD, gx_Z.same (u := U) (U := U.calling g mk a) rfl rfl qZ⟩, vk_recv hZ.1 h.1 hS, fun U hU hW => ⟨rfl, by rw [hU], by rw [hU]; exact hPc, gx_K.moved hW hN, hDc.weaken (fun _ _ _ _ => trivial), hZ.step hS hU hW hFc⟩⟩ rfl rfl hl.1 rfl (lv_room (Nat.le_of_ble_eq_true rfl)) d_Wo_spells_18 ⟨Nat.le_of_ble_eq_true rfl, Nat.le_of_ble_eq_true rfl⟩) hS (fun q _ h => hFc q h) hFc (fun r18 u t H1 locs ht hvm hw hB hz1 hk1 hS => ?_)
    obtain ⟨hP1, hD1⟩ := hB
    rw [ht] at hP1
    obtain ⟨hP, hD⟩ := va_join (wr := [(h_this, .inr (5, [.ref h_text, .int u_length, .ref h_kinds, .ref h_places, .ref h_numbers, .int u_words])), (h_text, .inl (cC, 600, .inl f_text))]) (w1 := []) hP hD [] [0, 1] rfl rfl (by decide) (by decide) hk1 hFc hP1 hD1
    clear hPc hDc hFc hk1 hP1 hD1 ht hvm
    generalize H1 = H at hP hS ⊢
    have hP := hP.sub (ws' := [(h_this, .inr (5, [.ref h_text, .int u_length, .ref h_kinds, .ref h_places, .ref h_numbers, .int u_words])), (h_text, .inl (cC, 600, .inl f_text))]) [0, 1] rfl
    have hD := hD.sub (ws' := [(h_this, .inr (5, [.ref h_text, .int u_length, .ref h_kinds, .ref h_places, .ref h_numbers, .int u_words])), (h_text, .inl (cC, 600, .inl f_text))]) [0, 1] (by decide) rfl
    have h := hw
    try dsimp only at h
    refine lv_icmp_ge (tgt := 50) hx hb d_Wo_spells_21 (by decide) (fun c_ => ?_) (fun c_ => ?_)
    · have h := h.1 c_
      refine lv_iconst (v := 1) hx hb d_Wo_spells_50 (by decide) ?_
      exact W.zret (v := (1 : Int32)) (ty := .boolean) hx hb hr rfl (fun t ht hW => ⟨⟨(1 : Int32), (), rfl, h, by rw [ht]; exact hP, hD⟩, hS.F ht⟩) hS.2.2 d_Wo_spells_51 hlocks
    · have h := h.2 c_
      refine lv_aload_n hx hb d_Wo_spells_24 rfl (lv_at hl 0 rfl) ?_
      refine va_get (D := (dC, dI)) (ci := 5) (v := .ref h_text) (C := "LeanSets$Words") (T := T_Wo) (N := 6) hx hb hG in_Wo hown hK hP 0 rfl rfl 0 (Nat.le_of_ble_eq_true rfl) (hG _ mw_41) (fun _ h9 => h9) rfl d_Wo_spells_25 ?_
      refine lv_iload_n hx hb d_Wo_spells_28 rfl (lv_at hl 2 rfl) ?_
      refine lv_iload hx hb d_Wo_spells_29 (lv_at hl 3 rfl) ?_
      refine lv_iadd hx hb d_Wo_spells_31 ?_
      obtain ⟨g_, h⟩ := h
      refine va_cald hx hb hK hP 1 2 rfl rfl g_ d_Wo_spells_32 ?_
      refine lv_aload_n hx hb d_Wo_spells_33 rfl (lv_at hl 1 rfl) ?_
      refine lv_iload hx hb d_Wo_spells_34 (lv_at hl 3 rfl) ?_
      have hPc := hP.sub (ws' := []) [] rfl
      have hDc := hD.sub (ws' := []) [] (by decide) rfl
      have hFc := va_free (wc := []) hD hS hA [] rfl
      refine va_calli (va_runV (As := [.int x4]) (rest := [.int (f_text (x2 + x4).toNatClampNeg)]) ⟨hx, hb, hml, hown, hG⟩ (c_Sg_charAt l dC dI cI cJ cC adK adV _ x1 x4 H.size h) (gx_cwV (own := "LeanSets$Words") 1 hG mw_301 mw_302 mw_303 mw_9 mw_304 (by decide +kernel) ⟨Nat.le_of_ble_eq_true rfl, Nat.le_of_ble_eq_true rfl⟩) ⟨fun a U g mk q => by obtain ⟨q0, q1, qP, qK, qD, qZ⟩ := q; exact ⟨q0, q1, qP, gx_K.same (u := U) (U := U.calling g mk a) rfl qK, qD, gx_Z.same (u := U) (U := U.calling g mk a) rfl rfl qZ⟩, vk_recv hZ.1 h.1 hS, fun U hU hW => ⟨rfl, by rw [hU], by rw [hU]; exact hPc, gx_K.moved hW hN, hDc.weaken (fun _ _ _ _ => trivial), hZ.step hS hU hW hFc⟩⟩ rfl rfl hl.1 rfl (lv_room (Nat.le_of_ble_eq_true rfl)) d_Wo_spells_36 ⟨Nat.le_of_ble_eq_true rfl, Nat.le_of_ble_eq_true rfl⟩) hS (fun q _ h => hFc q h) hFc (fun r36 u t H1 locs ht hvm hw hB hz1 hk1 hS => ?_)
      obtain ⟨hP1, hD1⟩ := hB
      rw [ht] at hP1
      obtain ⟨hP, hD⟩ := va_join (wr := [(h_this, .inr (5, [.ref h_text, .int u_length, .ref h_kinds, .ref h_places, .ref h_numbers, .int u_words])), (h_text, .inl (cC, 600, .inl f_text))]) (w1 := []) hP hD [] [0, 1] rfl rfl (by decide) (by decide) hk1 hFc hP1 hD1
      clear hPc hDc hFc hk1 hP1 hD1 ht hvm
      generalize H1 = H at hP hS ⊢
      have hP := hP.sub (ws' := [(h_this, .inr (5, [.ref h_text, .int u_length, .ref h_kinds, .ref h_places, .ref h_numbers, .int u_words])), (h_text, .inl (cC, 600, .inl f_text))]) [0, 1] rfl
      have hD := hD.sub (ws' := [(h_this, .inr (5, [.ref h_text, .int u_length, .ref h_kinds, .ref h_places, .ref h_numbers, .int u_words])), (h_text, .inl (cC, 600, .inl f_text))]) [0, 1] (by decide) rfl
      have h := hw
      try dsimp only at h
      refine lv_icmp_eq (tgt := 44) hx hb d_Wo_spells_39 (by decide) (fun c_ => ?_) (fun c_ => ?_)
      · have h := h.1 c_
        refine lv_iinc (v := (x4 + (1 : Int32))) (lv' := [(4, .int (x4 + (1 : Int32))), (0, .ref h_this), (1, .ref (adK x1)), (2, .int x2)]) hx hb d_Wo_spells_44 hl (k := 3) rfl rfl (by decide) rfl (fun ls hl => ?_)
        refine lv_goto (tgt := 15) hx hb d_Wo_spells_47 (by decide) ?_
        exact ih x1 x2 (x4 + (1 : Int32)) h _ _ _ hP hD hS (lv_sub hl [1, 2, 3, 0] rfl)
      · have h := h.2 c_
        refine lv_iconst (v := 0) hx hb d_Wo_spells_42 (by decide) ?_
        exact W.zret (v := (0 : Int32)) (ty := .boolean) hx hb hr rfl (fun t ht hW => ⟨⟨(0 : Int32), (), rfl, h, by rw [ht]; exact hP, hD⟩, hS.F ht⟩) hS.2.2 d_Wo_spells_43 hlocks
def wp_Wo_spells_0 (f_text : Nat → Int32) (post : Int32 → Prop)  (x1 : Nat) (x2 : Int32) (x3 : Int32) : Prop := wp_Sg_length_0 (fun (r1 : Int32) => ((r1 = (x3 - x2)) → (∃ n_ : Nat, wp_Wo_spells_15 f_text post n_ x1 x2 (0 : Int32))) ∧ ((¬ (r1 = (x3 - x2))) → (post (0 : Int32)))) x1
set_option maxHeartbeats 4000000 in
set_option maxRecDepth 100000 in
theorem wk_Wo_spells_0 {p : Program} {l : Launch} {e : Env} {s : State} {m : MethodId} {args : Array Value} {below : List Frame} {meth : Method} {c : Code} (dC : Nat → ClassId) (dI : Nat → Nat → Nat) (cI cJ cC : ClassId) (A : Nat → Prop) (hA : ∀ q : Nat, s.heap.size ≤ q → A q) (C0 : gx_C p s m meth c args "LeanSets$Words" prog_7_method_9_code 5 (Option.some Jvm.ClassFile.FieldType.boolean)) (hN : gx_K dC dI cI cJ cC s) (adK adV : Nat → Nat) (hZ : gx_Z adK adV A s)  (h_this h_text h_kinds h_places h_numbers : Nat) (u_length : Int32) (u_words : Int32) (f_text : Nat → Int32) (post : Int32 → Prop)   : ∀ (x1 : Nat) (x2 : Int32) (x3 : Int32), wp_Wo_spells_0 f_text post x1 x2 x3 → ∀ (H : Heap) (locs : List Loc) (ls : Array Slot), va_P (dC, dI) classes [(h_this, .inr (5, [.ref h_text, .int u_length, .ref h_kinds, .ref h_places, .ref h_numbers, .int u_words])), (h_text, .inl (cC, 600, .inl f_text))] H → va_D A [(h_this, .inr (5, [.ref h_text, .int u_length, .ref h_kinds, .ref h_places, .ref h_numbers, .int u_words])), (h_text, .inl (cC, 600, .inl f_text))] → va_S A s.heap H locs → lv_has ls 5 [(0, .ref h_this), (1, .ref (adK x1)), (2, .int x2), (3, .int x3)] → W p l e { frames := 4, cells := 0, slots := 0, locals := 85 } s m args below meth c H locs 0 0 (MQ below (va_Qi (fun (r : Int32) (u : Unit) => post r) (fun (u : Unit) (t : State) => va_P (dC, dI) classes [(h_this, .inr (5, [.ref h_text, .int u_length, .ref h_kinds, .ref h_places, .ref h_numbers, .int u_words])), (h_text, .inl (cC, 600, .inl f_text))] t.heap ∧ va_D A [(h_this, .inr (5, [.ref h_text, .int u_length, .ref h_kinds, .ref h_places, .ref h_numbers, .int u_words])), (h_text, .inl (cC, 600, .inl f_text))]) A) args s 0 0 A) (F0 m 0 ls []) := by
  obtain ⟨hx, hb, hr, hml, hown, hlocks, hG⟩ := id C0
  have hK := hN.1
  intro x1 x2 x3 h H locs ls hP hD hS hl
  rw [wp_Wo_spells_0] at h
  refine lv_aload_n hx hb d_Wo_spells_0 rfl (lv_at hl 1 rfl) ?_
  have hPc := hP.sub (ws' := []) [] rfl
  have hDc := hD.sub (ws' := []) [] (by decide) rfl
  have hFc := va_free (wc := []) hD hS hA [] rfl
  refine va_calli (va_runV (As := []) (rest := []) ⟨hx, hb, hml, hown, hG⟩ (c_Sg_length l dC dI cI cJ cC adK adV _ x1  H.size h) (gx_cwV (own := "LeanSets$Words") 0 hG mw_291 mw_292 mw_293 mw_9 mw_294 (by decide +kernel) ⟨Nat.le_of_ble_eq_true rfl, Nat.le_of_ble_eq_true rfl⟩) ⟨fun a U g mk q => by obtain ⟨q0, q1, qP, qK, qD, qZ⟩ := q; exact ⟨q0, q1, qP, gx_K.same (u := U) (U := U.calling g mk a) rfl qK, qD, gx_Z.same (u := U) (U := U.calling g mk a) rfl rfl qZ⟩, vk_recv hZ.1 h.1 hS, fun U hU hW => ⟨rfl, by rw [hU], by rw [hU]; exact hPc, gx_K.moved hW hN, hDc.weaken (fun _ _ _ _ => trivial), hZ.step hS hU hW hFc⟩⟩ rfl rfl hl.1 rfl (lv_room (Nat.le_of_ble_eq_true rfl)) d_Wo_spells_1 ⟨Nat.le_of_ble_eq_true rfl, Nat.le_of_ble_eq_true rfl⟩) hS (fun q _ h => hFc q h) hFc (fun r1 u t H1 locs ht hvm hw hB hz1 hk1 hS => ?_)
  obtain ⟨hP1, hD1⟩ := hB
  rw [ht] at hP1
  obtain ⟨hP, hD⟩ := va_join (wr := [(h_this, .inr (5, [.ref h_text, .int u_length, .ref h_kinds, .ref h_places, .ref h_numbers, .int u_words])), (h_text, .inl (cC, 600, .inl f_text))]) (w1 := []) hP hD [] [0, 1] rfl rfl (by decide) (by decide) hk1 hFc hP1 hD1
  clear hPc hDc hFc hk1 hP1 hD1 ht hvm
  generalize H1 = H at hP hS ⊢
  have hP := hP.sub (ws' := [(h_this, .inr (5, [.ref h_text, .int u_length, .ref h_kinds, .ref h_places, .ref h_numbers, .int u_words])), (h_text, .inl (cC, 600, .inl f_text))]) [0, 1] rfl
  have hD := hD.sub (ws' := [(h_this, .inr (5, [.ref h_text, .int u_length, .ref h_kinds, .ref h_places, .ref h_numbers, .int u_words])), (h_text, .inl (cC, 600, .inl f_text))]) [0, 1] (by decide) rfl
  have h := hw
  try dsimp only at h
  refine lv_iload_n hx hb d_Wo_spells_4 rfl (lv_at hl 3 rfl) ?_
  refine lv_iload_n hx hb d_Wo_spells_5 rfl (lv_at hl 2 rfl) ?_
  refine lv_isub hx hb d_Wo_spells_6 ?_
  refine lv_icmp_eq (tgt := 12) hx hb d_Wo_spells_7 (by decide) (fun c_ => ?_) (fun c_ => ?_)
  · have h := h.1 c_
    refine lv_iconst (v := 0) hx hb d_Wo_spells_12 (by decide) ?_
    refine lv_istore (lv' := [(4, .int (0 : Int32)), (0, .ref h_this), (1, .ref (adK x1)), (2, .int x2), (3, .int x3)]) hx hb d_Wo_spells_13 hl (by decide) rfl (fun ls hl => ?_)
    obtain ⟨n_, h⟩ := h
    exact wk_Wo_spells_15 dC dI cI cJ cC A hA C0 hN adK adV hZ h_this h_text h_kinds h_places h_numbers u_length u_words f_text post   n_ x1 x2 (0 : Int32) h _ _ _ hP hD hS (lv_sub hl [1, 2, 3, 0] rfl)
  · have h := h.2 c_
    refine lv_iconst (v := 0) hx hb d_Wo_spells_10 (by decide) ?_
    exact W.zret (v := (0 : Int32)) (ty := .boolean) hx hb hr rfl (fun t ht hW => ⟨⟨(0 : Int32), (), rfl, h, by rw [ht]; exact hP, hD⟩, hS.F ht⟩) hS.2.2 d_Wo_spells_11 hlocks
set_option maxHeartbeats 4000000 in
set_option maxRecDepth 100000 in
theorem c_Wo_spells (l : Launch) (dC : Nat → ClassId) (dI : Nat → Nat → Nat) (cI cJ cC : ClassId) (adK adV : Nat → Nat) (h_this h_text h_kinds h_places h_numbers : Nat) (u_length : Int32) (u_words : Int32) (f_text : Nat → Int32) (post : Int32 → Prop) (x1 : Nat) (x2 : Int32) (x3 : Int32) (sz : Nat) (h : wp_Wo_spells_0 f_text post x1 x2 x3) : Met l y_Wo_spells (.code y_Wo_spells prog_7_method_9_code 5 (Option.some Jvm.ClassFile.FieldType.boolean) :: gx_G) ({ frames := 4, cells := 0, slots := 0, locals := 85 }) (va_Pc [.ref h_this, .ref (adK x1), .int x2, .int x3] (fun U => U.heap.size = sz ∧ va_P (dC, dI) classes [(h_this, .inr (5, [.ref h_text, .int u_length, .ref h_kinds, .ref h_places, .ref h_numbers, .int u_words])), (h_text, .inl (cC, 600, .inl f_text))] U.heap ∧ gx_K dC dI cI cJ cC U ∧ va_D (fun _ => True) [(h_this, .inr (5, [.ref h_text, .int u_length, .ref h_kinds, .ref h_places, .ref h_numbers, .int u_words])), (h_text, .inl (cC, 600, .inl f_text))] ∧ gx_Z adK adV (va_A [(h_this, .inr (5, [.ref h_text, .int u_length, .ref h_kinds, .ref h_places, .ref h_numbers, .int u_words])), (h_text, .inl (cC, 600, .inl f_text))] sz) U)) (va_Qi (fun (r : Int32) (u : Unit) => post r) (fun (u : Unit) (t : State) => va_P (dC, dI) classes [(h_this, .inr (5, [.ref h_text, .int u_length, .ref h_kinds, .ref h_places, .ref h_numbers, .int u_words])), (h_text, .inl (cC, 600, .inl f_text))] t.heap ∧ va_D (va_A [(h_this, .inr (5, [.ref h_text, .int u_length, .ref h_kinds, .ref h_places, .ref h_numbers, .int u_words])), (h_text, .inl (cC, 600, .inl f_text))] sz) [(h_this, .inr (5, [.ref h_text, .int u_length, .ref h_kinds, .ref h_places, .ref h_numbers, .int u_words])), (h_text, .inl (cC, 600, .inl f_text))]) (va_A [(h_this, .inr (5, [.ref h_text, .int u_length, .ref h_kinds, .ref h_places, .ref h_numbers, .int u_words])), (h_text, .inl (cC, 600, .inl f_text))] sz)) 0 0 (va_A [(h_this, .inr (5, [.ref h_text, .int u_length, .ref h_kinds, .ref h_places, .ref h_numbers, .int u_words])), (h_text, .inl (cC, 600, .inl f_text))] sz) := by
  refine Met.ofW (cc := prog_7_method_9_code) (maxL := 5) (ret := (Option.some Jvm.ClassFile.FieldType.boolean)) (by decide +kernel) rfl ?_
  intro p e s m args below meth c s₁ B hml hv
  obtain ⟨rfl, hsz, hP, hN, hD0, hZ⟩ := hv
  have hts := atoms_spec (ws := (.code y_Wo_spells prog_7_method_9_code 5 (Option.some Jvm.ClassFile.FieldType.boolean) :: gx_G)) B.pre
  have C0 : gx_C p s m meth c _ "LeanSets$Words" prog_7_method_9_code 5 (Option.some Jvm.ClassFile.FieldType.boolean) := ⟨B.exec, B.bytes, B.returns, hml, findClass_of_methodNamed B.named, B.notSynchronized, fun w hw => hts w (List.mem_cons_of_mem _ hw)⟩
  subst hsz
  have hD := hD0.self (sz := s.heap.size)
  generalize hAe : va_A [(h_this, .inr (5, [.ref h_text, .int u_length, .ref h_kinds, .ref h_places, .ref h_numbers, .int u_words])), (h_text, .inl (cC, 600, .inl f_text))] s.heap.size = A at hD hZ ⊢
  have hA : ∀ q : Nat, s.heap.size ≤ q → A q := fun q h => by rw [← hAe]; exact Or.inr h
  have hl := lv_entry ([.ref h_this, .ref (adK x1), .int x2, .int x3]) (n := 5) (Nat.le_of_ble_eq_true rfl)
  rw [lg_entry_eq]
  generalize (lg_sl ([.ref h_this, .ref (adK x1), .int x2, .int x3]) ++ List.replicate (5 - (lg_sl ([.ref h_this, .ref (adK x1), .int x2, .int x3])).length) Slot.unset).toArray = ls at hl ⊢
  exact wk_Wo_spells_0 dC dI cI cJ cC A hA C0 hN adK adV hZ h_this h_text h_kinds h_places h_numbers u_length u_words f_text post x1 x2 x3 h s.heap [] ls hP hD va_S.rf hl
/-! LeanSets$Words.kindOfName(II)I -/
def y_Wo_kindOfName : MethodName := ⟨"LeanSets$Words", "kindOfName", "(II)I"⟩
theorem d_Wo_kindOfName_0 : decode prog_7_method_8_code 0 = .ok (.aload_n 0, 1) := by decide +kernel
theorem d_Wo_kindOfName_1 : decode prog_7_method_8_code 1 = .ok (.ldc 60, 2) := by decide +kernel
theorem d_Wo_kindOfName_3 : decode prog_7_method_8_code 3 = .ok (.iload_n 1, 1) := by decide +kernel
theorem d_Wo_kindOfName_4 : decode prog_7_method_8_code 4 = .ok (.iload_n 2, 1) := by decide +kernel
theorem d_Wo_kindOfName_5 : decode prog_7_method_8_code 5 = .ok (.invokevirtual 62, 3) := by decide +kernel
theorem d_Wo_kindOfName_8 : decode prog_7_method_8_code 8 = .ok (.ifCond .eq 5, 3) := by decide +kernel
theorem d_Wo_kindOfName_11 : decode prog_7_method_8_code 11 = .ok (.iconst 0, 1) := by decide +kernel
theorem d_Wo_kindOfName_12 : decode prog_7_method_8_code 12 = .ok (.ireturn, 1) := by decide +kernel
theorem d_Wo_kindOfName_13 : decode prog_7_method_8_code 13 = .ok (.aload_n 0, 1) := by decide +kernel
theorem d_Wo_kindOfName_14 : decode prog_7_method_8_code 14 = .ok (.ldc 66, 2) := by decide +kernel
theorem d_Wo_kindOfName_16 : decode prog_7_method_8_code 16 = .ok (.iload_n 1, 1) := by decide +kernel
theorem d_Wo_kindOfName_17 : decode prog_7_method_8_code 17 = .ok (.iload_n 2, 1) := by decide +kernel
theorem d_Wo_kindOfName_18 : decode prog_7_method_8_code 18 = .ok (.invokevirtual 62, 3) := by decide +kernel
theorem d_Wo_kindOfName_21 : decode prog_7_method_8_code 21 = .ok (.ifCond .eq 5, 3) := by decide +kernel
theorem d_Wo_kindOfName_24 : decode prog_7_method_8_code 24 = .ok (.iconst 1, 1) := by decide +kernel
theorem d_Wo_kindOfName_25 : decode prog_7_method_8_code 25 = .ok (.ireturn, 1) := by decide +kernel
theorem d_Wo_kindOfName_26 : decode prog_7_method_8_code 26 = .ok (.aload_n 0, 1) := by decide +kernel
theorem d_Wo_kindOfName_27 : decode prog_7_method_8_code 27 = .ok (.ldc 68, 2) := by decide +kernel
theorem d_Wo_kindOfName_29 : decode prog_7_method_8_code 29 = .ok (.iload_n 1, 1) := by decide +kernel
theorem d_Wo_kindOfName_30 : decode prog_7_method_8_code 30 = .ok (.iload_n 2, 1) := by decide +kernel
theorem d_Wo_kindOfName_31 : decode prog_7_method_8_code 31 = .ok (.invokevirtual 62, 3) := by decide +kernel
theorem d_Wo_kindOfName_34 : decode prog_7_method_8_code 34 = .ok (.ifCond .eq 5, 3) := by decide +kernel
theorem d_Wo_kindOfName_37 : decode prog_7_method_8_code 37 = .ok (.iconst 2, 1) := by decide +kernel
theorem d_Wo_kindOfName_38 : decode prog_7_method_8_code 38 = .ok (.ireturn, 1) := by decide +kernel
theorem d_Wo_kindOfName_39 : decode prog_7_method_8_code 39 = .ok (.aload_n 0, 1) := by decide +kernel
theorem d_Wo_kindOfName_40 : decode prog_7_method_8_code 40 = .ok (.ldc 70, 2) := by decide +kernel
theorem d_Wo_kindOfName_42 : decode prog_7_method_8_code 42 = .ok (.iload_n 1, 1) := by decide +kernel
theorem d_Wo_kindOfName_43 : decode prog_7_method_8_code 43 = .ok (.iload_n 2, 1) := by decide +kernel
theorem d_Wo_kindOfName_44 : decode prog_7_method_8_code 44 = .ok (.invokevirtual 62, 3) := by decide +kernel
theorem d_Wo_kindOfName_47 : decode prog_7_method_8_code 47 = .ok (.ifCond .eq 7, 3) := by decide +kernel
theorem d_Wo_kindOfName_50 : decode prog_7_method_8_code 50 = .ok (.iconst 3, 1) := by decide +kernel
theorem d_Wo_kindOfName_51 : decode prog_7_method_8_code 51 = .ok (.goto 5, 3) := by decide +kernel
theorem d_Wo_kindOfName_54 : decode prog_7_method_8_code 54 = .ok (.bipush 12, 2) := by decide +kernel
theorem d_Wo_kindOfName_56 : decode prog_7_method_8_code 56 = .ok (.ireturn, 1) := by decide +kernel
def wp_Wo_kindOfName_56 (f_text : Nat → Int32) (post : Int32 → Prop)  (t0 : Int32) : Prop := post t0
set_option maxHeartbeats 4000000 in
set_option maxRecDepth 100000 in
theorem wk_Wo_kindOfName_56 {p : Program} {l : Launch} {e : Env} {s : State} {m : MethodId} {args : Array Value} {below : List Frame} {meth : Method} {c : Code} (dC : Nat → ClassId) (dI : Nat → Nat → Nat) (cI cJ cC : ClassId) (A : Nat → Prop) (hA : ∀ q : Nat, s.heap.size ≤ q → A q) (C0 : gx_C p s m meth c args "LeanSets$Words" prog_7_method_8_code 3 (Option.some Jvm.ClassFile.FieldType.int)) (hN : gx_K dC dI cI cJ cC s) (adK adV : Nat → Nat) (hZ : gx_Z adK adV A s)  (h_this h_text h_kinds h_places h_numbers : Nat) (u_length : Int32) (u_words : Int32) (f_text : Nat → Int32) (post : Int32 → Prop)   : ∀ (t0 : Int32), wp_Wo_kindOfName_56 f_text post t0 → ∀ (H : Heap) (locs : List Loc) (ls : Array Slot), va_P (dC, dI) classes [(h_this, .inr (5, [.ref h_text, .int u_length, .ref h_kinds, .ref h_places, .ref h_numbers, .int u_words])), (h_text, .inl (cC, 600, .inl f_text))] H → va_D A [(h_this, .inr (5, [.ref h_text, .int u_length, .ref h_kinds, .ref h_places, .ref h_numbers, .int u_words])), (h_text, .inl (cC, 600, .inl f_text))] → va_S A s.heap H locs → lv_has ls 3 [] → W p l e { frames := 5, cells := 0, slots := 0, locals := 109 } s m args below meth c H locs 0 0 (MQ below (va_Qi (fun (r : Int32) (u : Unit) => post r) (fun (u : Unit) (t : State) => va_P (dC, dI) classes [(h_this, .inr (5, [.ref h_text, .int u_length, .ref h_kinds, .ref h_places, .ref h_numbers, .int u_words])), (h_text, .inl (cC, 600, .inl f_text))] t.heap ∧ va_D A [(h_this, .inr (5, [.ref h_text, .int u_length, .ref h_kinds, .ref h_places, .ref h_numbers, .int u_words])), (h_text, .inl (cC, 600, .inl f_text))]) A) args s 0 0 A) (F0 m 56 ls [.int t0]) := by
  obtain ⟨hx, hb, hr, hml, hown, hlocks, hG⟩ := id C0
  have hK := hN.1
  intro t0 h H locs ls hP hD hS hl
  rw [wp_Wo_kindOfName_56] at h
  exact W.iret (v := t0) hx hb hr (fun t ht hW => ⟨⟨t0, (), rfl, h, by rw [ht]; exact hP, hD⟩, hS.F ht⟩) hS.2.2 d_Wo_kindOfName_56 hlocks
def wp_Wo_kindOfName_0 (f_text : Nat → Int32) (post : Int32 → Prop)  (x1 : Int32) (x2 : Int32) : Prop := wp_Wo_spells_0 f_text (fun (r5 : Int32) => ((r5 = 0) → (wp_Wo_spells_0 f_text (fun (r18 : Int32) => ((r18 = 0) → (wp_Wo_spells_0 f_text (fun (r31 : Int32) => ((r31 = 0) → (wp_Wo_spells_0 f_text (fun (r44 : Int32) => ((r44 = 0) → (wp_Wo_kindOfName_56 f_text post (12 : Int32))) ∧ ((¬ (r44 = 0)) → (wp_Wo_kindOfName_56 f_text post (3 : Int32)))) 3 x1 x2)) ∧ ((¬ (r31 = 0)) → (post (2 : Int32)))) 2 x1 x2)) ∧ ((¬ (r18 = 0)) → (post (1 : Int32)))) 1 x1 x2)) ∧ ((¬ (r5 = 0)) → (post (0 : Int32)))) 0 x1 x2
set_option maxHeartbeats 4000000 in
set_option maxRecDepth 100000 in
theorem wk_Wo_kindOfName_0 {p : Program} {l : Launch} {e : Env} {s : State} {m : MethodId} {args : Array Value} {below : List Frame} {meth : Method} {c : Code} (dC : Nat → ClassId) (dI : Nat → Nat → Nat) (cI cJ cC : ClassId) (A : Nat → Prop) (hA : ∀ q : Nat, s.heap.size ≤ q → A q) (C0 : gx_C p s m meth c args "LeanSets$Words" prog_7_method_8_code 3 (Option.some Jvm.ClassFile.FieldType.int)) (hN : gx_K dC dI cI cJ cC s) (adK adV : Nat → Nat) (hZ : gx_Z adK adV A s)  (h_this h_text h_kinds h_places h_numbers : Nat) (u_length : Int32) (u_words : Int32) (f_text : Nat → Int32) (post : Int32 → Prop)   : ∀ (x1 : Int32) (x2 : Int32), wp_Wo_kindOfName_0 f_text post x1 x2 → ∀ (H : Heap) (locs : List Loc) (ls : Array Slot), va_P (dC, dI) classes [(h_this, .inr (5, [.ref h_text, .int u_length, .ref h_kinds, .ref h_places, .ref h_numbers, .int u_words])), (h_text, .inl (cC, 600, .inl f_text))] H → va_D A [(h_this, .inr (5, [.ref h_text, .int u_length, .ref h_kinds, .ref h_places, .ref h_numbers, .int u_words])), (h_text, .inl (cC, 600, .inl f_text))] → va_S A s.heap H locs → lv_has ls 3 [(0, .ref h_this), (1, .int x1), (2, .int x2)] → W p l e { frames := 5, cells := 0, slots := 0, locals := 109 } s m args below meth c H locs 0 0 (MQ below (va_Qi (fun (r : Int32) (u : Unit) => post r) (fun (u : Unit) (t : State) => va_P (dC, dI) classes [(h_this, .inr (5, [.ref h_text, .int u_length, .ref h_kinds, .ref h_places, .ref h_numbers, .int u_words])), (h_text, .inl (cC, 600, .inl f_text))] t.heap ∧ va_D A [(h_this, .inr (5, [.ref h_text, .int u_length, .ref h_kinds, .ref h_places, .ref h_numbers, .int u_words])), (h_text, .inl (cC, 600, .inl f_text))]) A) args s 0 0 A) (F0 m 0 ls []) := by
  obtain ⟨hx, hb, hr, hml, hown, hlocks, hG⟩ := id C0
  have hK := hN.1
  intro x1 x2 h H locs ls hP hD hS hl
  rw [wp_Wo_kindOfName_0] at h
  refine lv_aload_n hx hb d_Wo_kindOfName_0 rfl (lv_at hl 0 rfl) ?_
  refine va_ldcS (own := "LeanSets$Words") hx hb hown hZ.2.1.1 d_Wo_kindOfName_1 ?_
  refine lv_iload_n hx hb d_Wo_kindOfName_3 rfl (lv_at hl 1 rfl) ?_
  refine lv_iload_n hx hb d_Wo_kindOfName_4 rfl (lv_at hl 2 rfl) ?_
  have hPc := hP.sub (ws' := [(h_this, .inr (5, [.ref h_text, .int u_length, .ref h_kinds, .ref h_places, .ref h_numbers, .int u_words])), (h_text, .inl (cC, 600, .inl f_text))]) [0, 1] rfl
  have hDc := hD.sub (ws' := [(h_this, .inr (5, [.ref h_text, .int u_length, .ref h_kinds, .ref h_places, .ref h_numbers, .int u_words])), (h_text, .inl (cC, 600, .inl f_text))]) [0, 1] (by decide) rfl
  have hFc := va_free (wc := [(h_this, .inr (5, [.ref h_text, .int u_length, .ref h_kinds, .ref h_places, .ref h_numbers, .int u_words])), (h_text, .inl (cC, 600, .inl f_text))]) hD hS hA [0, 1] rfl
  refine va_calli (va_runV (As := [.ref (adK 0), .int x1, .int x2]) (rest := []) ⟨hx, hb, hml, hown, hG⟩ (c_Wo_spells l dC dI cI cJ cC adK adV h_this h_text h_kinds h_places h_numbers u_length u_words f_text _ 0 x1 x2 H.size h) (gx_cwV (own := "LeanSets$Words") 3 hG mw_287 mw_289 ms_Wo_spells mw_3 mw_290 (by decide +kernel) ⟨Nat.le_of_ble_eq_true rfl, Nat.le_of_ble_eq_true rfl⟩) ⟨fun a U g mk q => by obtain ⟨q0, q1, qP, qK, qD, qZ⟩ := q; exact ⟨q0, q1, qP, gx_K.same (u := U) (U := U.calling g mk a) rfl qK, qD, gx_Z.same (u := U) (U := U.calling g mk a) rfl rfl qZ⟩, va_recv hK hPc (ci := 5) (q0 := 0) rfl rfl, fun U hU hW => ⟨rfl, by rw [hU], by rw [hU]; exact hPc, gx_K.moved hW hN, hDc.weaken (fun _ _ _ _ => trivial), hZ.step hS hU hW hFc⟩⟩ rfl rfl hl.1 rfl (lv_room (Nat.le_of_ble_eq_true rfl)) d_Wo_kindOfName_5 ⟨Nat.le_of_ble_eq_true rfl, Nat.le_of_ble_eq_true rfl⟩) hS (fun q _ h => hFc q h) hFc (fun r5 u t H1 locs ht hvm hw hB hz1 hk1 hS => ?_)
  obtain ⟨hP1, hD1⟩ := hB
  rw [ht] at hP1
  obtain ⟨hP, hD⟩ := va_join (wr := []) (w1 := [(h_this, .inr (5, [.ref h_text, .int u_length, .ref h_kinds, .ref h_places, .ref h_numbers, .int u_words])), (h_text, .inl (cC, 600, .inl f_text))]) hP hD [0, 1] [] rfl rfl (by decide) (by decide) hk1 hFc hP1 hD1
  clear hPc hDc hFc hk1 hP1 hD1 ht hvm
  generalize H1 = H at hP hS ⊢
  have hP := hP.sub (ws' := [(h_this, .inr (5, [.ref h_text, .int u_length, .ref h_kinds, .ref h_places, .ref h_numbers, .int u_words])), (h_text, .inl (cC, 600, .inl f_text))]) [0, 1] rfl
  have hD := hD.sub (ws' := [(h_this, .inr (5, [.ref h_text, .int u_length, .ref h_kinds, .ref h_places, .ref h_numbers, .int u_words])), (h_text, .inl (cC, 600, .inl f_text))]) [0, 1] (by decide) rfl
  have h := hw
  try dsimp only at h
  refine lv_if_eq (tgt := 13) hx hb d_Wo_kindOfName_8 (by decide) (fun c_ => ?_) (fun c_ => ?_)
  · have h := h.1 c_
    refine lv_aload_n hx hb d_Wo_kindOfName_13 rfl (lv_at hl 0 rfl) ?_
    refine va_ldcS (own := "LeanSets$Words") hx hb hown hZ.2.1.2.1 d_Wo_kindOfName_14 ?_
    refine lv_iload_n hx hb d_Wo_kindOfName_16 rfl (lv_at hl 1 rfl) ?_
    refine lv_iload_n hx hb d_Wo_kindOfName_17 rfl (lv_at hl 2 rfl) ?_
    have hPc := hP.sub (ws' := [(h_this, .inr (5, [.ref h_text, .int u_length, .ref h_kinds, .ref h_places, .ref h_numbers, .int u_words])), (h_text, .inl (cC, 600, .inl f_text))]) [0, 1] rfl
    have hDc := hD.sub (ws' := [(h_this, .inr (5, [.ref h_text, .int u_length, .ref h_kinds, .ref h_places, .ref h_numbers, .int u_words])), (h_text, .inl (cC, 600, .inl f_text))]) [0, 1] (by decide) rfl
    have hFc := va_free (wc := [(h_this, .inr (5, [.ref h_text, .int u_length, .ref h_kinds, .ref h_places, .ref h_numbers, .int u_words])), (h_text, .inl (cC, 600, .inl f_text))]) hD hS hA [0, 1] rfl
    refine va_calli (va_runV (As := [.ref (adK 1), .int x1, .int x2]) (rest := []) ⟨hx, hb, hml, hown, hG⟩ (c_Wo_spells l dC dI cI cJ cC adK adV h_this h_text h_kinds h_places h_numbers u_length u_words f_text _ 1 x1 x2 H.size h) (gx_cwV (own := "LeanSets$Words") 3 hG mw_287 mw_289 ms_Wo_spells mw_3 mw_290 (by decide +kernel) ⟨Nat.le_of_ble_eq_true rfl, Nat.le_of_ble_eq_true rfl⟩) ⟨fun a U g mk q => by obtain ⟨q0, q1, qP, qK, qD, qZ⟩ := q; exact ⟨q0, q1, qP, gx_K.same (u := U) (U := U.calling g mk a) rfl qK, qD, gx_Z.same (u := U) (U := U.calling g mk a) rfl rfl qZ⟩, va_recv hK hPc (ci := 5) (q0 := 0) rfl rfl, fun U hU hW => ⟨rfl, by rw [hU], by rw [hU]; exact hPc, gx_K.moved hW hN, hDc.weaken (fun _ _ _ _ => trivial), hZ.step hS hU hW hFc⟩⟩ rfl rfl hl.1 rfl (lv_room (Nat.le_of_ble_eq_true rfl)) d_Wo_kindOfName_18 ⟨Nat.le_of_ble_eq_true rfl, Nat.le_of_ble_eq_true rfl⟩) hS (fun q _ h => hFc q h) hFc (fun r18 u t H1 locs ht hvm hw hB hz1 hk1 hS => ?_)
    obtain ⟨hP1, hD1⟩ := hB
    rw [ht] at hP1
    obtain ⟨hP, hD⟩ := va_join (wr := []) (w1 := [(h_this, .inr (5, [.ref h_text, .int u_length, .ref h_kinds, .ref h_places, .ref h_numbers, .int u_words])), (h_text, .inl (cC, 600, .inl f_text))]) hP hD [0, 1] [] rfl rfl (by decide) (by decide) hk1 hFc hP1 hD1
    clear hPc hDc hFc hk1 hP1 hD1 ht hvm
    generalize H1 = H at hP hS ⊢
    have hP := hP.sub (ws' := [(h_this, .inr (5, [.ref h_text, .int u_length, .ref h_kinds, .ref h_places, .ref h_numbers, .int u_words])), (h_text, .inl (cC, 600, .inl f_text))]) [0, 1] rfl
    have hD := hD.sub (ws' := [(h_this, .inr (5, [.ref h_text, .int u_length, .ref h_kinds, .ref h_places, .ref h_numbers, .int u_words])), (h_text, .inl (cC, 600, .inl f_text))]) [0, 1] (by decide) rfl
    have h := hw
    try dsimp only at h
    refine lv_if_eq (tgt := 26) hx hb d_Wo_kindOfName_21 (by decide) (fun c_ => ?_) (fun c_ => ?_)
    · have h := h.1 c_
      refine lv_aload_n hx hb d_Wo_kindOfName_26 rfl (lv_at hl 0 rfl) ?_
      refine va_ldcS (own := "LeanSets$Words") hx hb hown hZ.2.1.2.2.1 d_Wo_kindOfName_27 ?_
      refine lv_iload_n hx hb d_Wo_kindOfName_29 rfl (lv_at hl 1 rfl) ?_
      refine lv_iload_n hx hb d_Wo_kindOfName_30 rfl (lv_at hl 2 rfl) ?_
      have hPc := hP.sub (ws' := [(h_this, .inr (5, [.ref h_text, .int u_length, .ref h_kinds, .ref h_places, .ref h_numbers, .int u_words])), (h_text, .inl (cC, 600, .inl f_text))]) [0, 1] rfl
      have hDc := hD.sub (ws' := [(h_this, .inr (5, [.ref h_text, .int u_length, .ref h_kinds, .ref h_places, .ref h_numbers, .int u_words])), (h_text, .inl (cC, 600, .inl f_text))]) [0, 1] (by decide) rfl
      have hFc := va_free (wc := [(h_this, .inr (5, [.ref h_text, .int u_length, .ref h_kinds, .ref h_places, .ref h_numbers, .int u_words])), (h_text, .inl (cC, 600, .inl f_text))]) hD hS hA [0, 1] rfl
      refine va_calli (va_runV (As := [.ref (adK 2), .int x1, .int x2]) (rest := []) ⟨hx, hb, hml, hown, hG⟩ (c_Wo_spells l dC dI cI cJ cC adK adV h_this h_text h_kinds h_places h_numbers u_length u_words f_text _ 2 x1 x2 H.size h) (gx_cwV (own := "LeanSets$Words") 3 hG mw_287 mw_289 ms_Wo_spells mw_3 mw_290 (by decide +kernel) ⟨Nat.le_of_ble_eq_true rfl, Nat.le_of_ble_eq_true rfl⟩) ⟨fun a U g mk q => by obtain ⟨q0, q1, qP, qK, qD, qZ⟩ := q; exact ⟨q0, q1, qP, gx_K.same (u := U) (U := U.calling g mk a) rfl qK, qD, gx_Z.same (u := U) (U := U.calling g mk a) rfl rfl qZ⟩, va_recv hK hPc (ci := 5) (q0 := 0) rfl rfl, fun U hU hW => ⟨rfl, by rw [hU], by rw [hU]; exact hPc, gx_K.moved hW hN, hDc.weaken (fun _ _ _ _ => trivial), hZ.step hS hU hW hFc⟩⟩ rfl rfl hl.1 rfl (lv_room (Nat.le_of_ble_eq_true rfl)) d_Wo_kindOfName_31 ⟨Nat.le_of_ble_eq_true rfl, Nat.le_of_ble_eq_true rfl⟩) hS (fun q _ h => hFc q h) hFc (fun r31 u t H1 locs ht hvm hw hB hz1 hk1 hS => ?_)
      obtain ⟨hP1, hD1⟩ := hB
      rw [ht] at hP1
      obtain ⟨hP, hD⟩ := va_join (wr := []) (w1 := [(h_this, .inr (5, [.ref h_text, .int u_length, .ref h_kinds, .ref h_places, .ref h_numbers, .int u_words])), (h_text, .inl (cC, 600, .inl f_text))]) hP hD [0, 1] [] rfl rfl (by decide) (by decide) hk1 hFc hP1 hD1
      clear hPc hDc hFc hk1 hP1 hD1 ht hvm
      generalize H1 = H at hP hS ⊢
      have hP := hP.sub (ws' := [(h_this, .inr (5, [.ref h_text, .int u_length, .ref h_kinds, .ref h_places, .ref h_numbers, .int u_words])), (h_text, .inl (cC, 600, .inl f_text))]) [0, 1] rfl
      have hD := hD.sub (ws' := [(h_this, .inr (5, [.ref h_text, .int u_length, .ref h_kinds, .ref h_places, .ref h_numbers, .int u_words])), (h_text, .inl (cC, 600, .inl f_text))]) [0, 1] (by decide) rfl
      have h := hw
      try dsimp only at h
      refine lv_if_eq (tgt := 39) hx hb d_Wo_kindOfName_34 (by decide) (fun c_ => ?_) (fun c_ => ?_)
      · have h := h.1 c_
        refine lv_aload_n hx hb d_Wo_kindOfName_39 rfl (lv_at hl 0 rfl) ?_
        refine va_ldcS (own := "LeanSets$Words") hx hb hown hZ.2.1.2.2.2 d_Wo_kindOfName_40 ?_
        refine lv_iload_n hx hb d_Wo_kindOfName_42 rfl (lv_at hl 1 rfl) ?_
        refine lv_iload_n hx hb d_Wo_kindOfName_43 rfl (lv_at hl 2 rfl) ?_
        have hPc := hP.sub (ws' := [(h_this, .inr (5, [.ref h_text, .int u_length, .ref h_kinds, .ref h_places, .ref h_numbers, .int u_words])), (h_text, .inl (cC, 600, .inl f_text))]) [0, 1] rfl
        have hDc := hD.sub (ws' := [(h_this, .inr (5, [.ref h_text, .int u_length, .ref h_kinds, .ref h_places, .ref h_numbers, .int u_words])), (h_text, .inl (cC, 600, .inl f_text))]) [0, 1] (by decide) rfl
        have hFc := va_free (wc := [(h_this, .inr (5, [.ref h_text, .int u_length, .ref h_kinds, .ref h_places, .ref h_numbers, .int u_words])), (h_text, .inl (cC, 600, .inl f_text))]) hD hS hA [0, 1] rfl
        refine va_calli (va_runV (As := [.ref (adK 3), .int x1, .int x2]) (rest := []) ⟨hx, hb, hml, hown, hG⟩ (c_Wo_spells l dC dI cI cJ cC adK adV h_this h_text h_kinds h_places h_numbers u_length u_words f_text _ 3 x1 x2 H.size h) (gx_cwV (own := "LeanSets$Words") 3 hG mw_287 mw_289 ms_Wo_spells mw_3 mw_290 (by decide +kernel) ⟨Nat.le_of_ble_eq_true rfl, Nat.le_of_ble_eq_true rfl⟩) ⟨fun a U g mk q => by obtain ⟨q0, q1, qP, qK, qD, qZ⟩ := q; exact ⟨q0, q1, qP, gx_K.same (u := U) (U := U.calling g mk a) rfl qK, qD, gx_Z.same (u := U) (U := U.calling g mk a) rfl rfl qZ⟩, va_recv hK hPc (ci := 5) (q0 := 0) rfl rfl, fun U hU hW => ⟨rfl, by rw [hU], by rw [hU]; exact hPc, gx_K.moved hW hN, hDc.weaken (fun _ _ _ _ => trivial), hZ.step hS hU hW hFc⟩⟩ rfl rfl hl.1 rfl (lv_room (Nat.le_of_ble_eq_true rfl)) d_Wo_kindOfName_44 ⟨Nat.le_of_ble_eq_true rfl, Nat.le_of_ble_eq_true rfl⟩) hS (fun q _ h => hFc q h) hFc (fun r44 u t H1 locs ht hvm hw hB hz1 hk1 hS => ?_)
        obtain ⟨hP1, hD1⟩ := hB
        rw [ht] at hP1
        obtain ⟨hP, hD⟩ := va_join (wr := []) (w1 := [(h_this, .inr (5, [.ref h_text, .int u_length, .ref h_kinds, .ref h_places, .ref h_numbers, .int u_words])), (h_text, .inl (cC, 600, .inl f_text))]) hP hD [0, 1] [] rfl rfl (by decide) (by decide) hk1 hFc hP1 hD1
        clear hPc hDc hFc hk1 hP1 hD1 ht hvm
        generalize H1 = H at hP hS ⊢
        have hP := hP.sub (ws' := [(h_this, .inr (5, [.ref h_text, .int u_length, .ref h_kinds, .ref h_places, .ref h_numbers, .int u_words])), (h_text, .inl (cC, 600, .inl f_text))]) [0, 1] rfl
        have hD := hD.sub (ws' := [(h_this, .inr (5, [.ref h_text, .int u_length, .ref h_kinds, .ref h_places, .ref h_numbers, .int u_words])), (h_text, .inl (cC, 600, .inl f_text))]) [0, 1] (by decide) rfl
        have h := hw
        try dsimp only at h
        refine lv_if_eq (tgt := 54) hx hb d_Wo_kindOfName_47 (by decide) (fun c_ => ?_) (fun c_ => ?_)
        · have h := h.1 c_
          refine lv_bipush (v := 12) hx hb d_Wo_kindOfName_54 (by decide) ?_
          exact wk_Wo_kindOfName_56 dC dI cI cJ cC A hA C0 hN adK adV hZ h_this h_text h_kinds h_places h_numbers u_length u_words f_text post   (12 : Int32) h _ _ _ hP hD hS (lv_sub hl [] rfl)
        · have h := h.2 c_
          refine lv_iconst (v := 3) hx hb d_Wo_kindOfName_50 (by decide) ?_
          refine lv_goto (tgt := 56) hx hb d_Wo_kindOfName_51 (by decide) ?_
          exact wk_Wo_kindOfName_56 dC dI cI cJ cC A hA C0 hN adK adV hZ h_this h_text h_kinds h_places h_numbers u_length u_words f_text post   (3 : Int32) h _ _ _ hP hD hS (lv_sub hl [] rfl)
      · have h := h.2 c_
        refine lv_iconst (v := 2) hx hb d_Wo_kindOfName_37 (by decide) ?_
        exact W.iret (v := (2 : Int32)) hx hb hr (fun t ht hW => ⟨⟨(2 : Int32), (), rfl, h, by rw [ht]; exact hP, hD⟩, hS.F ht⟩) hS.2.2 d_Wo_kindOfName_38 hlocks
    · have h := h.2 c_
      refine lv_iconst (v := 1) hx hb d_Wo_kindOfName_24 (by decide) ?_
      exact W.iret (v := (1 : Int32)) hx hb hr (fun t ht hW => ⟨⟨(1 : Int32), (), rfl, h, by rw [ht]; exact hP, hD⟩, hS.F ht⟩) hS.2.2 d_Wo_kindOfName_25 hlocks
  · have h := h.2 c_
    refine lv_iconst (v := 0) hx hb d_Wo_kindOfName_11 (by decide) ?_
    exact W.iret (v := (0 : Int32)) hx hb hr (fun t ht hW => ⟨⟨(0 : Int32), (), rfl, h, by rw [ht]; exact hP, hD⟩, hS.F ht⟩) hS.2.2 d_Wo_kindOfName_12 hlocks
set_option maxHeartbeats 4000000 in
set_option maxRecDepth 100000 in
theorem c_Wo_kindOfName (l : Launch) (dC : Nat → ClassId) (dI : Nat → Nat → Nat) (cI cJ cC : ClassId) (adK adV : Nat → Nat) (h_this h_text h_kinds h_places h_numbers : Nat) (u_length : Int32) (u_words : Int32) (f_text : Nat → Int32) (post : Int32 → Prop) (x1 : Int32) (x2 : Int32) (sz : Nat) (h : wp_Wo_kindOfName_0 f_text post x1 x2) : Met l y_Wo_kindOfName (.code y_Wo_kindOfName prog_7_method_8_code 3 (Option.some Jvm.ClassFile.FieldType.int) :: gx_G) ({ frames := 5, cells := 0, slots := 0, locals := 109 }) (va_Pc [.ref h_this, .int x1, .int x2] (fun U => U.heap.size = sz ∧ va_P (dC, dI) classes [(h_this, .inr (5, [.ref h_text, .int u_length, .ref h_kinds, .ref h_places, .ref h_numbers, .int u_words])), (h_text, .inl (cC, 600, .inl f_text))] U.heap ∧ gx_K dC dI cI cJ cC U ∧ va_D (fun _ => True) [(h_this, .inr (5, [.ref h_text, .int u_length, .ref h_kinds, .ref h_places, .ref h_numbers, .int u_words])), (h_text, .inl (cC, 600, .inl f_text))] ∧ gx_Z adK adV (va_A [(h_this, .inr (5, [.ref h_text, .int u_length, .ref h_kinds, .ref h_places, .ref h_numbers, .int u_words])), (h_text, .inl (cC, 600, .inl f_text))] sz) U)) (va_Qi (fun (r : Int32) (u : Unit) => post r) (fun (u : Unit) (t : State) => va_P (dC, dI) classes [(h_this, .inr (5, [.ref h_text, .int u_length, .ref h_kinds, .ref h_places, .ref h_numbers, .int u_words])), (h_text, .inl (cC, 600, .inl f_text))] t.heap ∧ va_D (va_A [(h_this, .inr (5, [.ref h_text, .int u_length, .ref h_kinds, .ref h_places, .ref h_numbers, .int u_words])), (h_text, .inl (cC, 600, .inl f_text))] sz) [(h_this, .inr (5, [.ref h_text, .int u_length, .ref h_kinds, .ref h_places, .ref h_numbers, .int u_words])), (h_text, .inl (cC, 600, .inl f_text))]) (va_A [(h_this, .inr (5, [.ref h_text, .int u_length, .ref h_kinds, .ref h_places, .ref h_numbers, .int u_words])), (h_text, .inl (cC, 600, .inl f_text))] sz)) 0 0 (va_A [(h_this, .inr (5, [.ref h_text, .int u_length, .ref h_kinds, .ref h_places, .ref h_numbers, .int u_words])), (h_text, .inl (cC, 600, .inl f_text))] sz) := by
  refine Met.ofW (cc := prog_7_method_8_code) (maxL := 3) (ret := (Option.some Jvm.ClassFile.FieldType.int)) (by decide +kernel) rfl ?_
  intro p e s m args below meth c s₁ B hml hv
  obtain ⟨rfl, hsz, hP, hN, hD0, hZ⟩ := hv
  have hts := atoms_spec (ws := (.code y_Wo_kindOfName prog_7_method_8_code 3 (Option.some Jvm.ClassFile.FieldType.int) :: gx_G)) B.pre
  have C0 : gx_C p s m meth c _ "LeanSets$Words" prog_7_method_8_code 3 (Option.some Jvm.ClassFile.FieldType.int) := ⟨B.exec, B.bytes, B.returns, hml, findClass_of_methodNamed B.named, B.notSynchronized, fun w hw => hts w (List.mem_cons_of_mem _ hw)⟩
  subst hsz
  have hD := hD0.self (sz := s.heap.size)
  generalize hAe : va_A [(h_this, .inr (5, [.ref h_text, .int u_length, .ref h_kinds, .ref h_places, .ref h_numbers, .int u_words])), (h_text, .inl (cC, 600, .inl f_text))] s.heap.size = A at hD hZ ⊢
  have hA : ∀ q : Nat, s.heap.size ≤ q → A q := fun q h => by rw [← hAe]; exact Or.inr h
  have hl := lv_entry ([.ref h_this, .int x1, .int x2]) (n := 3) (Nat.le_of_ble_eq_true rfl)
  rw [lg_entry_eq]
  generalize (lg_sl ([.ref h_this, .int x1, .int x2]) ++ List.replicate (3 - (lg_sl ([.ref h_this, .int x1, .int x2])).length) Slot.unset).toArray = ls at hl ⊢
  exact wk_Wo_kindOfName_0 dC dI cI cJ cC A hA C0 hN adK adV hZ h_this h_text h_kinds h_places h_numbers u_length u_words f_text post x1 x2 h s.heap [] ls hP hD va_S.rf hl
/-! LeanSets$Words.kindOf(II)I -/
def y_Wo_kindOf : MethodName := ⟨"LeanSets$Words", "kindOf", "(II)I"⟩
theorem d_Wo_kindOf_0 : decode prog_7_method_7_code 0 = .ok (.aload_n 0, 1) := by decide +kernel
theorem d_Wo_kindOf_1 : decode prog_7_method_7_code 1 = .ok (.getfield 9, 3) := by decide +kernel
theorem d_Wo_kindOf_4 : decode prog_7_method_7_code 4 = .ok (.iload_n 1, 1) := by decide +kernel
theorem d_Wo_kindOf_5 : decode prog_7_method_7_code 5 = .ok (.caload, 1) := by decide +kernel
theorem d_Wo_kindOf_6 : decode prog_7_method_7_code 6 = .ok (.invokestatic 50, 3) := by decide +kernel
theorem d_Wo_kindOf_9 : decode prog_7_method_7_code 9 = .ok (.ifCond .eq 10, 3) := by decide +kernel
theorem d_Wo_kindOf_12 : decode prog_7_method_7_code 12 = .ok (.aload_n 0, 1) := by decide +kernel
theorem d_Wo_kindOf_13 : decode prog_7_method_7_code 13 = .ok (.iload_n 1, 1) := by decide +kernel
theorem d_Wo_kindOf_14 : decode prog_7_method_7_code 14 = .ok (.iload_n 2, 1) := by decide +kernel
theorem d_Wo_kindOf_15 : decode prog_7_method_7_code 15 = .ok (.invokevirtual 57, 3) := by decide +kernel
theorem d_Wo_kindOf_18 : decode prog_7_method_7_code 18 = .ok (.ireturn, 1) := by decide +kernel
theorem d_Wo_kindOf_19 : decode prog_7_method_7_code 19 = .ok (.aload_n 0, 1) := by decide +kernel
theorem d_Wo_kindOf_20 : decode prog_7_method_7_code 20 = .ok (.getfield 9, 3) := by decide +kernel
theorem d_Wo_kindOf_23 : decode prog_7_method_7_code 23 = .ok (.iload_n 1, 1) := by decide +kernel
theorem d_Wo_kindOf_24 : decode prog_7_method_7_code 24 = .ok (.caload, 1) := by decide +kernel
theorem d_Wo_kindOf_25 : decode prog_7_method_7_code 25 = .ok (.invokestatic 54, 3) := by decide +kernel
theorem d_Wo_kindOf_28 : decode prog_7_method_7_code 28 = .ok (.ifCond .eq 17, 3) := by decide +kernel
theorem d_Wo_kindOf_31 : decode prog_7_method_7_code 31 = .ok (.iload_n 2, 1) := by decide +kernel
theorem d_Wo_kindOf_32 : decode prog_7_method_7_code 32 = .ok (.iload_n 1, 1) := by decide +kernel
theorem d_Wo_kindOf_33 : decode prog_7_method_7_code 33 = .ok (.isub, 1) := by decide +kernel
theorem d_Wo_kindOf_34 : decode prog_7_method_7_code 34 = .ok (.iconst 5, 1) := by decide +kernel
theorem d_Wo_kindOf_35 : decode prog_7_method_7_code 35 = .ok (.if_icmp .gt 7, 3) := by decide +kernel
theorem d_Wo_kindOf_38 : decode prog_7_method_7_code 38 = .ok (.iconst 4, 1) := by decide +kernel
theorem d_Wo_kindOf_39 : decode prog_7_method_7_code 39 = .ok (.goto 5, 3) := by decide +kernel
theorem d_Wo_kindOf_42 : decode prog_7_method_7_code 42 = .ok (.bipush 12, 2) := by decide +kernel
theorem d_Wo_kindOf_44 : decode prog_7_method_7_code 44 = .ok (.ireturn, 1) := by decide +kernel
theorem d_Wo_kindOf_45 : decode prog_7_method_7_code 45 = .ok (.aload_n 0, 1) := by decide +kernel
theorem d_Wo_kindOf_46 : decode prog_7_method_7_code 46 = .ok (.getfield 9, 3) := by decide +kernel
theorem d_Wo_kindOf_49 : decode prog_7_method_7_code 49 = .ok (.iload_n 1, 1) := by decide +kernel
theorem d_Wo_kindOf_50 : decode prog_7_method_7_code 50 = .ok (.caload, 1) := by decide +kernel
theorem d_Wo_kindOf_51 : decode prog_7_method_7_code 51 = .ok (.lookupswitch 74 #[(45, 65), (59, 57), (61, 59), (62, 62), (123, 68), (125, 71)], 57) := by decide +kernel
theorem d_Wo_kindOf_108 : decode prog_7_method_7_code 108 = .ok (.iconst 5, 1) := by decide +kernel
theorem d_Wo_kindOf_109 : decode prog_7_method_7_code 109 = .ok (.ireturn, 1) := by decide +kernel
theorem d_Wo_kindOf_110 : decode prog_7_method_7_code 110 = .ok (.bipush 6, 2) := by decide +kernel
theorem d_Wo_kindOf_112 : decode prog_7_method_7_code 112 = .ok (.ireturn, 1) := by decide +kernel
theorem d_Wo_kindOf_113 : decode prog_7_method_7_code 113 = .ok (.bipush 7, 2) := by decide +kernel
theorem d_Wo_kindOf_115 : decode prog_7_method_7_code 115 = .ok (.ireturn, 1) := by decide +kernel
theorem d_Wo_kindOf_116 : decode prog_7_method_7_code 116 = .ok (.bipush 8, 2) := by decide +kernel
theorem d_Wo_kindOf_118 : decode prog_7_method_7_code 118 = .ok (.ireturn, 1) := by decide +kernel
theorem d_Wo_kindOf_119 : decode prog_7_method_7_code 119 = .ok (.bipush 9, 2) := by decide +kernel
theorem d_Wo_kindOf_121 : decode prog_7_method_7_code 121 = .ok (.ireturn, 1) := by decide +kernel
theorem d_Wo_kindOf_122 : decode prog_7_method_7_code 122 = .ok (.bipush 10, 2) := by decide +kernel
theorem d_Wo_kindOf_124 : decode prog_7_method_7_code 124 = .ok (.ireturn, 1) := by decide +kernel
theorem d_Wo_kindOf_125 : decode prog_7_method_7_code 125 = .ok (.bipush 12, 2) := by decide +kernel
theorem d_Wo_kindOf_127 : decode prog_7_method_7_code 127 = .ok (.ireturn, 1) := by decide +kernel
def wp_Wo_kindOf_44 (f_text : Nat → Int32) (post : Int32 → Prop)  (t0 : Int32) : Prop := post t0
set_option maxHeartbeats 4000000 in
set_option maxRecDepth 100000 in
theorem wk_Wo_kindOf_44 {p : Program} {l : Launch} {e : Env} {s : State} {m : MethodId} {args : Array Value} {below : List Frame} {meth : Method} {c : Code} (dC : Nat → ClassId) (dI : Nat → Nat → Nat) (cI cJ cC : ClassId) (A : Nat → Prop) (hA : ∀ q : Nat, s.heap.size ≤ q → A q) (C0 : gx_C p s m meth c args "LeanSets$Words" prog_7_method_7_code 3 (Option.some Jvm.ClassFile.FieldType.int)) (hN : gx_K dC dI cI cJ cC s) (adK adV : Nat → Nat) (hZ : gx_Z adK adV A s)  (h_this h_text h_kinds h_places h_numbers : Nat) (u_length : Int32) (u_words : Int32) (f_text : Nat → Int32) (post : Int32 → Prop)   : ∀ (t0 : Int32), wp_Wo_kindOf_44 f_text post t0 → ∀ (H : Heap) (locs : List Loc) (ls : Array Slot), va_P (dC, dI) classes [(h_this, .inr (5, [.ref h_text, .int u_length, .ref h_kinds, .ref h_places, .ref h_numbers, .int u_words])), (h_text, .inl (cC, 600, .inl f_text))] H → va_D A [(h_this, .inr (5, [.ref h_text, .int u_length, .ref h_kinds, .ref h_places, .ref h_numbers, .int u_words])), (h_text, .inl (cC, 600, .inl f_text))] → va_S A s.heap H locs → lv_has ls 3 [] → W p l e { frames := 6, cells := 0, slots := 0, locals := 131 } s m args below meth c H locs 0 0 (MQ below (va_Qi (fun (r : Int32) (u : Unit) => post r) (fun (u : Unit) (t : State) => va_P (dC, dI) classes [(h_this, .inr (5, [.ref h_text, .int u_length, .ref h_kinds, .ref h_places, .ref h_numbers, .int u_words])), (h_text, .inl (cC, 600, .inl f_text))] t.heap ∧ va_D A [(h_this, .inr (5, [.ref h_text, .int u_length, .ref h_kinds, .ref h_places, .ref h_numbers, .int u_words])), (h_text, .inl (cC, 600, .inl f_text))]) A) args s 0 0 A) (F0 m 44 ls [.int t0]) := by
  obtain ⟨hx, hb, hr, hml, hown, hlocks, hG⟩ := id C0
  have hK := hN.1
  intro t0 h H locs ls hP hD hS hl
  rw [wp_Wo_kindOf_44] at h
  exact W.iret (v := t0) hx hb hr (fun t ht hW => ⟨⟨t0, (), rfl, h, by rw [ht]; exact hP, hD⟩, hS.F ht⟩) hS.2.2 d_Wo_kindOf_44 hlocks
def wp_Wo_kindOf_0 (f_text : Nat → Int32) (post : Int32 → Prop)  (x1 : Int32) (x2 : Int32) : Prop := (vp_in x1 600) ∧ (wp_Wo_isLetter_0 (fun (r6 : Int32) => ((r6 = 0) → ((vp_in x1 600) ∧ (wp_Wo_isDigit_0 (fun (r25 : Int32) => ((r25 = 0) → ((vp_in x1 600) ∧ ((((f_text x1.toNatClampNeg) = (45 : Int32)) → (post (8 : Int32))) ∧ ((¬ (f_text x1.toNatClampNeg) = (45 : Int32)) → ((((f_text x1.toNatClampNeg) = (59 : Int32)) → (post (5 : Int32))) ∧ ((¬ (f_text x1.toNatClampNeg) = (59 : Int32)) → ((((f_text x1.toNatClampNeg) = (61 : Int32)) → (post (6 : Int32))) ∧ ((¬ (f_text x1.toNatClampNeg) = (61 : Int32)) → ((((f_text x1.toNatClampNeg) = (62 : Int32)) → (post (7 : Int32))) ∧ ((¬ (f_text x1.toNatClampNeg) = (62 : Int32)) → ((((f_text x1.toNatClampNeg) = (123 : Int32)) → (post (9 : Int32))) ∧ ((¬ (f_text x1.toNatClampNeg) = (123 : Int32)) → ((((f_text x1.toNatClampNeg) = (125 : Int32)) → (post (10 : Int32))) ∧ ((¬ (f_text x1.toNatClampNeg) = (125 : Int32)) → (post (12 : Int32)))))))))))))))) ∧ ((¬ (r25 = 0)) → ((((5 : Int32) < (x2 - x1)) → (wp_Wo_kindOf_44 f_text post (12 : Int32))) ∧ ((¬ ((5 : Int32) < (x2 - x1))) → (wp_Wo_kindOf_44 f_text post (4 : Int32)))))) (f_text x1.toNatClampNeg)))) ∧ ((¬ (r6 = 0)) → (wp_Wo_kindOfName_0 f_text (fun (r15 : Int32) => post r15) x1 x2))) (f_text x1.toNatClampNeg))
set_option maxHeartbeats 4000000 in
set_option maxRecDepth 100000 in
theorem wk_Wo_kindOf_0 {p : Program} {l : Launch} {e : Env} {s : State} {m : MethodId} {args : Array Value} {below : List Frame} {meth : Method} {c : Code} (dC : Nat → ClassId) (dI : Nat → Nat → Nat) (cI cJ cC : ClassId) (A : Nat → Prop) (hA : ∀ q : Nat, s.heap.size ≤ q → A q) (C0 : gx_C p s m meth c args "LeanSets$Words" prog_7_method_7_code 3 (Option.some Jvm.ClassFile.FieldType.int)) (hN : gx_K dC dI cI cJ cC s) (adK adV : Nat → Nat) (hZ : gx_Z adK adV A s)  (h_this h_text h_kinds h_places h_numbers : Nat) (u_length : Int32) (u_words : Int32) (f_text : Nat → Int32) (post : Int32 → Prop)   : ∀ (x1 : Int32) (x2 : Int32), wp_Wo_kindOf_0 f_text post x1 x2 → ∀ (H : Heap) (locs : List Loc) (ls : Array Slot), va_P (dC, dI) classes [(h_this, .inr (5, [.ref h_text, .int u_length, .ref h_kinds, .ref h_places, .ref h_numbers, .int u_words])), (h_text, .inl (cC, 600, .inl f_text))] H → va_D A [(h_this, .inr (5, [.ref h_text, .int u_length, .ref h_kinds, .ref h_places, .ref h_numbers, .int u_words])), (h_text, .inl (cC, 600, .inl f_text))] → va_S A s.heap H locs → lv_has ls 3 [(0, .ref h_this), (1, .int x1), (2, .int x2)] → W p l e { frames := 6, cells := 0, slots := 0, locals := 131 } s m args below meth c H locs 0 0 (MQ below (va_Qi (fun (r : Int32) (u : Unit) => post r) (fun (u : Unit) (t : State) => va_P (dC, dI) classes [(h_this, .inr (5, [.ref h_text, .int u_length, .ref h_kinds, .ref h_places, .ref h_numbers, .int u_words])), (h_text, .inl (cC, 600, .inl f_text))] t.heap ∧ va_D A [(h_this, .inr (5, [.ref h_text, .int u_length, .ref h_kinds, .ref h_places, .ref h_numbers, .int u_words])), (h_text, .inl (cC, 600, .inl f_text))]) A) args s 0 0 A) (F0 m 0 ls []) := by
  obtain ⟨hx, hb, hr, hml, hown, hlocks, hG⟩ := id C0
  have hK := hN.1
  intro x1 x2 h H locs ls hP hD hS hl
  rw [wp_Wo_kindOf_0] at h
  refine lv_aload_n hx hb d_Wo_kindOf_0 rfl (lv_at hl 0 rfl) ?_
  refine va_get (D := (dC, dI)) (ci := 5) (v := .ref h_text) (C := "LeanSets$Words") (T := T_Wo) (N := 6) hx hb hG in_Wo hown hK hP 0 rfl rfl 0 (Nat.le_of_ble_eq_true rfl) (hG _ mw_41) (fun _ h9 => h9) rfl d_Wo_kindOf_1 ?_
  refine lv_iload_n hx hb d_Wo_kindOf_4 rfl (lv_at hl 1 rfl) ?_
  obtain ⟨g_, h⟩ := h
  refine va_cald hx hb hK hP 1 2 rfl rfl g_ d_Wo_kindOf_5 ?_
  have hPc := hP.sub (ws' := []) [] rfl
  have hDc := hD.sub (ws' := []) [] (by decide) rfl
  have hFc := va_free (wc := []) hD hS hA [] rfl
  refine va_calli (va_runS (As := [.int (f_text x1.toNatClampNeg)]) (rest := []) ⟨hx, hb, hml, hown, hG⟩ (c_Wo_isLetter l dC dI cI cJ cC _ (f_text x1.toNatClampNeg) H.size h) (gx_cwS (own := "LeanSets$Words") 1 hG mw_272 mw_273 mw_3 mw_274 (by decide +kernel) ⟨Nat.le_of_ble_eq_true rfl, Nat.le_of_ble_eq_true rfl⟩) ⟨fun a U g mk q => by obtain ⟨q0, q1, qP, qK, qD⟩ := q; exact ⟨q0, q1, qP, gx_K.same (u := U) (U := U.calling g mk a) rfl qK, qD⟩, fun U hU hW => ⟨rfl, by rw [hU], by rw [hU]; exact hPc, gx_K.moved hW hN, hDc.weaken (fun _ _ _ _ => trivial)⟩⟩ rfl rfl hl.1 rfl (lv_room (Nat.le_of_ble_eq_true rfl)) d_Wo_kindOf_6 ⟨Nat.le_of_ble_eq_true rfl, Nat.le_of_ble_eq_true rfl⟩) hS (fun q _ h => hFc q h) hFc (fun r6 u t H1 locs ht hvm hw hB hz1 hk1 hS => ?_)
  obtain ⟨hP1, hD1⟩ := hB
  rw [ht] at hP1
  obtain ⟨hP, hD⟩ := va_join (wr := [(h_this, .inr (5, [.ref h_text, .int u_length, .ref h_kinds, .ref h_places, .ref h_numbers, .int u_words])), (h_text, .inl (cC, 600, .inl f_text))]) (w1 := []) hP hD [] [0, 1] rfl rfl (by decide) (by decide) hk1 hFc hP1 hD1
  clear hPc hDc hFc hk1 hP1 hD1 ht hvm
  generalize H1 = H at hP hS ⊢
  have hP := hP.sub (ws' := [(h_this, .inr (5, [.ref h_text, .int u_length, .ref h_kinds, .ref h_places, .ref h_numbers, .int u_words])), (h_text, .inl (cC, 600, .inl f_text))]) [0, 1] rfl
  have hD := hD.sub (ws' := [(h_this, .inr (5, [.ref h_text, .int u_length, .ref h_kinds, .ref h_places, .ref h_numbers, .int u_words])), (h_text, .inl (cC, 600, .inl f_text))]) [0, 1] (by decide) rfl
  have h := hw
  try dsimp only at h
  refine lv_if_eq (tgt := 19) hx hb d_Wo_kindOf_9 (by decide) (fun c_ => ?_) (fun c_ => ?_)
  · have h := h.1 c_
    refine lv_aload_n hx hb d_Wo_kindOf_19 rfl (lv_at hl 0 rfl) ?_
    refine va_get (D := (dC, dI)) (ci := 5) (v := .ref h_text) (C := "LeanSets$Words") (T := T_Wo) (N := 6) hx hb hG in_Wo hown hK hP 0 rfl rfl 0 (Nat.le_of_ble_eq_true rfl) (hG _ mw_41) (fun _ h9 => h9) rfl d_Wo_kindOf_20 ?_
    refine lv_iload_n hx hb d_Wo_kindOf_23 rfl (lv_at hl 1 rfl) ?_
    obtain ⟨g_, h⟩ := h
    refine va_cald hx hb hK hP 1 2 rfl rfl g_ d_Wo_kindOf_24 ?_
    have hPc := hP.sub (ws' := []) [] rfl
    have hDc := hD.sub (ws' := []) [] (by decide) rfl
    have hFc := va_free (wc := []) hD hS hA [] rfl
    refine va_calli (va_runS (As := [.int (f_text x1.toNatClampNeg)]) (rest := []) ⟨hx, hb, hml, hown, hG⟩ (c_Wo_isDigit l dC dI cI cJ cC _ (f_text x1.toNatClampNeg) H.size h) (gx_cwS (own := "LeanSets$Words") 1 hG mw_275 mw_276 mw_3 mw_277 (by decide +kernel) ⟨Nat.le_of_ble_eq_true rfl, Nat.le_of_ble_eq_true rfl⟩) ⟨fun a U g mk q => by obtain ⟨q0, q1, qP, qK, qD⟩ := q; exact ⟨q0, q1, qP, gx_K.same (u := U) (U := U.calling g mk a) rfl qK, qD⟩, fun U hU hW => ⟨rfl, by rw [hU], by rw [hU]; exact hPc, gx_K.moved hW hN, hDc.weaken (fun _ _ _ _ => trivial)⟩⟩ rfl rfl hl.1 rfl (lv_room (Nat.le_of_ble_eq_true rfl)) d_Wo_kindOf_25 ⟨Nat.le_of_ble_eq_true rfl, Nat.le_of_ble_eq_true rfl⟩) hS (fun q _ h => hFc q h) hFc (fun r25 u t H1 locs ht hvm hw hB hz1 hk1 hS => ?_)
    obtain ⟨hP1, hD1⟩ := hB
    rw [ht] at hP1
    obtain ⟨hP, hD⟩ := va_join (wr := [(h_this, .inr (5, [.ref h_text, .int u_length, .ref h_kinds, .ref h_places, .ref h_numbers, .int u_words])), (h_text, .inl (cC, 600, .inl f_text))]) (w1 := []) hP hD [] [0, 1] rfl rfl (by decide) (by decide) hk1 hFc hP1 hD1
    clear hPc hDc hFc hk1 hP1 hD1 ht hvm
    generalize H1 = H at hP hS ⊢
    have hP := hP.sub (ws' := [(h_this, .inr (5, [.ref h_text, .int u_length, .ref h_kinds, .ref h_places, .ref h_numbers, .int u_words])), (h_text, .inl (cC, 600, .inl f_text))]) [0, 1] rfl
    have hD := hD.sub (ws' := [(h_this, .inr (5, [.ref h_text, .int u_length, .ref h_kinds, .ref h_places, .ref h_numbers, .int u_words])), (h_text, .inl (cC, 600, .inl f_text))]) [0, 1] (by decide) rfl
    have h := hw
    try dsimp only at h
    refine lv_if_eq (tgt := 45) hx hb d_Wo_kindOf_28 (by decide) (fun c_ => ?_) (fun c_ => ?_)
    · have h := h.1 c_
      refine lv_aload_n hx hb d_Wo_kindOf_45 rfl (lv_at hl 0 rfl) ?_
      refine va_get (D := (dC, dI)) (ci := 5) (v := .ref h_text) (C := "LeanSets$Words") (T := T_Wo) (N := 6) hx hb hG in_Wo hown hK hP 0 rfl rfl 0 (Nat.le_of_ble_eq_true rfl) (hG _ mw_41) (fun _ h9 => h9) rfl d_Wo_kindOf_46 ?_
      refine lv_iload_n hx hb d_Wo_kindOf_49 rfl (lv_at hl 1 rfl) ?_
      obtain ⟨g_, h⟩ := h
      refine va_cald hx hb hK hP 1 2 rfl rfl g_ d_Wo_kindOf_50 ?_
      by_cases c_0 : (f_text x1.toNatClampNeg) = (45 : Int32)
      · have h := h.1 c_0
        refine lv_lookup (tgt := 116) (off := 65) hx hb d_Wo_kindOf_51 (by decide) (by rw [c_0]; decide) (by decide) ?_
        refine lv_bipush (v := 8) hx hb d_Wo_kindOf_116 (by decide) ?_
        exact W.iret (v := (8 : Int32)) hx hb hr (fun t ht hW => ⟨⟨(8 : Int32), (), rfl, h, by rw [ht]; exact hP, hD⟩, hS.F ht⟩) hS.2.2 d_Wo_kindOf_118 hlocks
      have h := h.2 c_0
      by_cases c_1 : (f_text x1.toNatClampNeg) = (59 : Int32)
      · have h := h.1 c_1
        refine lv_lookup (tgt := 108) (off := 57) hx hb d_Wo_kindOf_51 (by decide) (by rw [c_1]; decide) (by decide) ?_
        refine lv_iconst (v := 5) hx hb d_Wo_kindOf_108 (by decide) ?_
        exact W.iret (v := (5 : Int32)) hx hb hr (fun t ht hW => ⟨⟨(5 : Int32), (), rfl, h, by rw [ht]; exact hP, hD⟩, hS.F ht⟩) hS.2.2 d_Wo_kindOf_109 hlocks
      have h := h.2 c_1
      by_cases c_2 : (f_text x1.toNatClampNeg) = (61 : Int32)
      · have h := h.1 c_2
        refine lv_lookup (tgt := 110) (off := 59) hx hb d_Wo_kindOf_51 (by decide) (by rw [c_2]; decide) (by decide) ?_
        refine lv_bipush (v := 6) hx hb d_Wo_kindOf_110 (by decide) ?_
        exact W.iret (v := (6 : Int32)) hx hb hr (fun t ht hW => ⟨⟨(6 : Int32), (), rfl, h, by rw [ht]; exact hP, hD⟩, hS.F ht⟩) hS.2.2 d_Wo_kindOf_112 hlocks
      have h := h.2 c_2
      by_cases c_3 : (f_text x1.toNatClampNeg) = (62 : Int32)
      · have h := h.1 c_3
        refine lv_lookup (tgt := 113) (off := 62) hx hb d_Wo_kindOf_51 (by decide) (by rw [c_3]; decide) (by decide) ?_
        refine lv_bipush (v := 7) hx hb d_Wo_kindOf_113 (by decide) ?_
        exact W.iret (v := (7 : Int32)) hx hb hr (fun t ht hW => ⟨⟨(7 : Int32), (), rfl, h, by rw [ht]; exact hP, hD⟩, hS.F ht⟩) hS.2.2 d_Wo_kindOf_115 hlocks
      have h := h.2 c_3
      by_cases c_4 : (f_text x1.toNatClampNeg) = (123 : Int32)
      · have h := h.1 c_4
        refine lv_lookup (tgt := 119) (off := 68) hx hb d_Wo_kindOf_51 (by decide) (by rw [c_4]; decide) (by decide) ?_
        refine lv_bipush (v := 9) hx hb d_Wo_kindOf_119 (by decide) ?_
        exact W.iret (v := (9 : Int32)) hx hb hr (fun t ht hW => ⟨⟨(9 : Int32), (), rfl, h, by rw [ht]; exact hP, hD⟩, hS.F ht⟩) hS.2.2 d_Wo_kindOf_121 hlocks
      have h := h.2 c_4
      by_cases c_5 : (f_text x1.toNatClampNeg) = (125 : Int32)
      · have h := h.1 c_5
        refine lv_lookup (tgt := 122) (off := 71) hx hb d_Wo_kindOf_51 (by decide) (by rw [c_5]; decide) (by decide) ?_
        refine lv_bipush (v := 10) hx hb d_Wo_kindOf_122 (by decide) ?_
        exact W.iret (v := (10 : Int32)) hx hb hr (fun t ht hW => ⟨⟨(10 : Int32), (), rfl, h, by rw [ht]; exact hP, hD⟩, hS.F ht⟩) hS.2.2 d_Wo_kindOf_124 hlocks
      have h := h.2 c_5
      refine lv_lookup (tgt := 125) (off := 74) hx hb d_Wo_kindOf_51 (by decide) (by show Op.lookupswitch.offset [(45, 65), (59, 57), (61, 59), (62, 62), (123, 68), (125, 71)] 74 _ = _; rw [lv_osw c_0 (by decide)]; rw [lv_osw c_1 (by decide)]; rw [lv_osw c_2 (by decide)]; rw [lv_osw c_3 (by decide)]; rw [lv_osw c_4 (by decide)]; rw [lv_osw c_5 (by decide)]; rfl) (by decide) ?_
      refine lv_bipush (v := 12) hx hb d_Wo_kindOf_125 (by decide) ?_
      exact W.iret (v := (12 : Int32)) hx hb hr (fun t ht hW => ⟨⟨(12 : Int32), (), rfl, h, by rw [ht]; exact hP, hD⟩, hS.F ht⟩) hS.2.2 d_Wo_kindOf_127 hlocks
    · have h := h.2 c_
      refine lv_iload_n hx hb d_Wo_kindOf_31 rfl (lv_at hl 2 rfl) ?_
      refine lv_iload_n hx hb d_Wo_kindOf_32 rfl (lv_at hl 1 rfl) ?_
      refine lv_isub hx hb d_Wo_kindOf_33 ?_
      refine lv_iconst (v := 5) hx hb d_Wo_kindOf_34 (by decide) ?_
      refine lv_icmp_gt (tgt := 42) hx hb d_Wo_kindOf_35 (by decide) (fun c_ => ?_) (fun c_ => ?_)
      · have h := h.1 c_
        refine lv_bipush (v := 12) hx hb d_Wo_kindOf_42 (by decide) ?_
        exact wk_Wo_kindOf_44 dC dI cI cJ cC A hA C0 hN adK adV hZ h_this h_text h_kinds h_places h_numbers u_length u_words f_text post   (12 : Int32) h _ _ _ hP hD hS (lv_sub hl [] rfl)
      · have h := h.2 c_
        refine lv_iconst (v := 4) hx hb d_Wo_kindOf_38 (by decide) ?_
        refine lv_goto (tgt := 44) hx hb d_Wo_kindOf_39 (by decide) ?_
        exact wk_Wo_kindOf_44 dC dI cI cJ cC A hA C0 hN adK adV hZ h_this h_text h_kinds h_places h_numbers u_length u_words f_text post   (4 : Int32) h _ _ _ hP hD hS (lv_sub hl [] rfl)
  · have h := h.2 c_
    refine lv_aload_n hx hb d_Wo_kindOf_12 rfl (lv_at hl 0 rfl) ?_
    refine lv_iload_n hx hb d_Wo_kindOf_13 rfl (lv_at hl 1 rfl) ?_
    refine lv_iload_n hx hb d_Wo_kindOf_14 rfl (lv_at hl 2 rfl) ?_
    have hPc := hP.sub (ws' := [(h_this, .inr (5, [.ref h_text, .int u_length, .ref h_kinds, .ref h_places, .ref h_numbers, .int u_words])), (h_text, .inl (cC, 600, .inl f_text))]) [0, 1] rfl
    have hDc := hD.sub (ws' := [(h_this, .inr (5, [.ref h_text, .int u_length, .ref h_kinds, .ref h_places, .ref h_numbers, .int u_words])), (h_text, .inl (cC, 600, .inl f_text))]) [0, 1] (by decide) rfl
    have hFc := va_free (wc := [(h_this, .inr (5, [.ref h_text, .int u_length, .ref h_kinds, .ref h_places, .ref h_numbers, .int u_words])), (h_text, .inl (cC, 600, .inl f_text))]) hD hS hA [0, 1] rfl
    refine va_calli (va_runV (As := [.int x1, .int x2]) (rest := []) ⟨hx, hb, hml, hown, hG⟩ (c_Wo_kindOfName l dC dI cI cJ cC adK adV h_this h_text h_kinds h_places h_numbers u_length u_words f_text _ x1 x2 H.size h) (gx_cwV (own := "LeanSets$Words") 2 hG mw_282 mw_284 ms_Wo_kindOfName mw_3 mw_285 (by decide +kernel) ⟨Nat.le_of_ble_eq_true rfl, Nat.le_of_ble_eq_true rfl⟩) ⟨fun a U g mk q => by obtain ⟨q0, q1, qP, qK, qD, qZ⟩ := q; exact ⟨q0, q1, qP, gx_K.same (u := U) (U := U.calling g mk a) rfl qK, qD, gx_Z.same (u := U) (U := U.calling g mk a) rfl rfl qZ⟩, va_recv hK hPc (ci := 5) (q0 := 0) rfl rfl, fun U hU hW => ⟨rfl, by rw [hU], by rw [hU]; exact hPc, gx_K.moved hW hN, hDc.weaken (fun _ _ _ _ => trivial), hZ.step hS hU hW hFc⟩⟩ rfl rfl hl.1 rfl (lv_room (Nat.le_of_ble_eq_true rfl)) d_Wo_kindOf_15 ⟨Nat.le_of_ble_eq_true rfl, Nat.le_of_ble_eq_true rfl⟩) hS (fun q _ h => hFc q h) hFc (fun r15 u t H1 locs ht hvm hw hB hz1 hk1 hS => ?_)
    obtain ⟨hP1, hD1⟩ := hB
    rw [ht] at hP1
    obtain ⟨hP, hD⟩ := va_join (wr := []) (w1 := [(h_this, .inr (5, [.ref h_text, .int u_length, .ref h_kinds, .ref h_places, .ref h_numbers, .int u_words])), (h_text, .inl (cC, 600, .inl f_text))]) hP hD [0, 1] [] rfl rfl (by decide) (by decide) hk1 hFc hP1 hD1
    clear hPc hDc hFc hk1 hP1 hD1 ht hvm
    generalize H1 = H at hP hS ⊢
    have hP := hP.sub (ws' := [(h_this, .inr (5, [.ref h_text, .int u_length, .ref h_kinds, .ref h_places, .ref h_numbers, .int u_words])), (h_text, .inl (cC, 600, .inl f_text))]) [0, 1] rfl
    have hD := hD.sub (ws' := [(h_this, .inr (5, [.ref h_text, .int u_length, .ref h_kinds, .ref h_places, .ref h_numbers, .int u_words])), (h_text, .inl (cC, 600, .inl f_text))]) [0, 1] (by decide) rfl
    have h := hw
    try dsimp only at h
    exact W.iret (v := r15) hx hb hr (fun t ht hW => ⟨⟨r15, (), rfl, h, by rw [ht]; exact hP, hD⟩, hS.F ht⟩) hS.2.2 d_Wo_kindOf_18 hlocks
set_option maxHeartbeats 4000000 in
set_option maxRecDepth 100000 in
theorem c_Wo_kindOf (l : Launch) (dC : Nat → ClassId) (dI : Nat → Nat → Nat) (cI cJ cC : ClassId) (adK adV : Nat → Nat) (h_this h_text h_kinds h_places h_numbers : Nat) (u_length : Int32) (u_words : Int32) (f_text : Nat → Int32) (post : Int32 → Prop) (x1 : Int32) (x2 : Int32) (sz : Nat) (h : wp_Wo_kindOf_0 f_text post x1 x2) : Met l y_Wo_kindOf (.code y_Wo_kindOf prog_7_method_7_code 3 (Option.some Jvm.ClassFile.FieldType.int) :: gx_G) ({ frames := 6, cells := 0, slots := 0, locals := 131 }) (va_Pc [.ref h_this, .int x1, .int x2] (fun U => U.heap.size = sz ∧ va_P (dC, dI) classes [(h_this, .inr (5, [.ref h_text, .int u_length, .ref h_kinds, .ref h_places, .ref h_numbers, .int u_words])), (h_text, .inl (cC, 600, .inl f_text))] U.heap ∧ gx_K dC dI cI cJ cC U ∧ va_D (fun _ => True) [(h_this, .inr (5, [.ref h_text, .int u_length, .ref h_kinds, .ref h_places, .ref h_numbers, .int u_words])), (h_text, .inl (cC, 600, .inl f_text))] ∧ gx_Z adK adV (va_A [(h_this, .inr (5, [.ref h_text, .int u_length, .ref h_kinds, .ref h_places, .ref h_numbers, .int u_words])), (h_text, .inl (cC, 600, .inl f_text))] sz) U)) (va_Qi (fun (r : Int32) (u : Unit) => post r) (fun (u : Unit) (t : State) => va_P (dC, dI) classes [(h_this, .inr (5, [.ref h_text, .int u_length, .ref h_kinds, .ref h_places, .ref h_numbers, .int u_words])), (h_text, .inl (cC, 600, .inl f_text))] t.heap ∧ va_D (va_A [(h_this, .inr (5, [.ref h_text, .int u_length, .ref h_kinds, .ref h_places, .ref h_numbers, .int u_words])), (h_text, .inl (cC, 600, .inl f_text))] sz) [(h_this, .inr (5, [.ref h_text, .int u_length, .ref h_kinds, .ref h_places, .ref h_numbers, .int u_words])), (h_text, .inl (cC, 600, .inl f_text))]) (va_A [(h_this, .inr (5, [.ref h_text, .int u_length, .ref h_kinds, .ref h_places, .ref h_numbers, .int u_words])), (h_text, .inl (cC, 600, .inl f_text))] sz)) 0 0 (va_A [(h_this, .inr (5, [.ref h_text, .int u_length, .ref h_kinds, .ref h_places, .ref h_numbers, .int u_words])), (h_text, .inl (cC, 600, .inl f_text))] sz) := by
  refine Met.ofW (cc := prog_7_method_7_code) (maxL := 3) (ret := (Option.some Jvm.ClassFile.FieldType.int)) (by decide +kernel) rfl ?_
  intro p e s m args below meth c s₁ B hml hv
  obtain ⟨rfl, hsz, hP, hN, hD0, hZ⟩ := hv
  have hts := atoms_spec (ws := (.code y_Wo_kindOf prog_7_method_7_code 3 (Option.some Jvm.ClassFile.FieldType.int) :: gx_G)) B.pre
  have C0 : gx_C p s m meth c _ "LeanSets$Words" prog_7_method_7_code 3 (Option.some Jvm.ClassFile.FieldType.int) := ⟨B.exec, B.bytes, B.returns, hml, findClass_of_methodNamed B.named, B.notSynchronized, fun w hw => hts w (List.mem_cons_of_mem _ hw)⟩
  subst hsz
  have hD := hD0.self (sz := s.heap.size)
  generalize hAe : va_A [(h_this, .inr (5, [.ref h_text, .int u_length, .ref h_kinds, .ref h_places, .ref h_numbers, .int u_words])), (h_text, .inl (cC, 600, .inl f_text))] s.heap.size = A at hD hZ ⊢
  have hA : ∀ q : Nat, s.heap.size ≤ q → A q := fun q h => by rw [← hAe]; exact Or.inr h
  have hl := lv_entry ([.ref h_this, .int x1, .int x2]) (n := 3) (Nat.le_of_ble_eq_true rfl)
  rw [lg_entry_eq]
  generalize (lg_sl ([.ref h_this, .int x1, .int x2]) ++ List.replicate (3 - (lg_sl ([.ref h_this, .int x1, .int x2])).length) Slot.unset).toArray = ls at hl ⊢
  exact wk_Wo_kindOf_0 dC dI cI cJ cC A hA C0 hN adK adV hZ h_this h_text h_kinds h_places h_numbers u_length u_words f_text post x1 x2 h s.heap [] ls hP hD va_S.rf hl
/-! LeanSets$Words.numberOf(II)I -/
def y_Wo_numberOf : MethodName := ⟨"LeanSets$Words", "numberOf", "(II)I"⟩
theorem d_Wo_numberOf_0 : decode prog_7_method_10_code 0 = .ok (.iconst 0, 1) := by decide +kernel
theorem d_Wo_numberOf_1 : decode prog_7_method_10_code 1 = .ok (.istore_n 3, 1) := by decide +kernel
theorem d_Wo_numberOf_2 : decode prog_7_method_10_code 2 = .ok (.iload_n 1, 1) := by decide +kernel
theorem d_Wo_numberOf_3 : decode prog_7_method_10_code 3 = .ok (.istore 4, 2) := by decide +kernel
theorem d_Wo_numberOf_5 : decode prog_7_method_10_code 5 = .ok (.iload 4, 2) := by decide +kernel
theorem d_Wo_numberOf_7 : decode prog_7_method_10_code 7 = .ok (.iload_n 2, 1) := by decide +kernel
theorem d_Wo_numberOf_8 : decode prog_7_method_10_code 8 = .ok (.if_icmp .ge 25, 3) := by decide +kernel
theorem d_Wo_numberOf_11 : decode prog_7_method_10_code 11 = .ok (.bipush 10, 2) := by decide +kernel
theorem d_Wo_numberOf_13 : decode prog_7_method_10_code 13 = .ok (.iload_n 3, 1) := by decide +kernel
theorem d_Wo_numberOf_14 : decode prog_7_method_10_code 14 = .ok (.imul, 1) := by decide +kernel
theorem d_Wo_numberOf_15 : decode prog_7_method_10_code 15 = .ok (.aload_n 0, 1) := by decide +kernel
theorem d_Wo_numberOf_16 : decode prog_7_method_10_code 16 = .ok (.getfield 9, 3) := by decide +kernel
theorem d_Wo_numberOf_19 : decode prog_7_method_10_code 19 = .ok (.iload 4, 2) := by decide +kernel
theorem d_Wo_numberOf_21 : decode prog_7_method_10_code 21 = .ok (.caload, 1) := by decide +kernel
theorem d_Wo_numberOf_22 : decode prog_7_method_10_code 22 = .ok (.bipush 48, 2) := by decide +kernel
theorem d_Wo_numberOf_24 : decode prog_7_method_10_code 24 = .ok (.isub, 1) := by decide +kernel
theorem d_Wo_numberOf_25 : decode prog_7_method_10_code 25 = .ok (.iadd, 1) := by decide +kernel
theorem d_Wo_numberOf_26 : decode prog_7_method_10_code 26 = .ok (.istore_n 3, 1) := by decide +kernel
theorem d_Wo_numberOf_27 : decode prog_7_method_10_code 27 = .ok (.iinc 4 1, 3) := by decide +kernel
theorem d_Wo_numberOf_30 : decode prog_7_method_10_code 30 = .ok (.goto (-25), 3) := by decide +kernel
theorem d_Wo_numberOf_33 : decode prog_7_method_10_code 33 = .ok (.iload_n 3, 1) := by decide +kernel
theorem d_Wo_numberOf_34 : decode prog_7_method_10_code 34 = .ok (.ireturn, 1) := by decide +kernel
def wp_Wo_numberOf_5 (f_text : Nat → Int32) (post : Int32 → Prop)  : Nat → Int32 → Int32 → Int32 → Prop
  | 0, _, _, _ => False
  | n + 1, x2, x3, x4 => ((x2 ≤ x4) → (post x3)) ∧ ((¬ (x2 ≤ x4)) → ((vp_in x4 600) ∧ (wp_Wo_numberOf_5 f_text post n x2 (((10 : Int32) * x3) + ((f_text x4.toNatClampNeg) - (48 : Int32))) (x4 + (1 : Int32)))))
set_option maxHeartbeats 4000000 in
set_option maxRecDepth 100000 in
theorem wk_Wo_numberOf_5 {p : Program} {l : Launch} {e : Env} {s : State} {m : MethodId} {args : Array Value} {below : List Frame} {meth : Method} {c : Code} (dC : Nat → ClassId) (dI : Nat → Nat → Nat) (cI cJ cC : ClassId) (A : Nat → Prop) (hA : ∀ q : Nat, s.heap.size ≤ q → A q) (C0 : gx_C p s m meth c args "LeanSets$Words" prog_7_method_10_code 5 (Option.some Jvm.ClassFile.FieldType.int)) (hN : gx_K dC dI cI cJ cC s)  (h_this h_text h_kinds h_places h_numbers : Nat) (u_length : Int32) (u_words : Int32) (f_text : Nat → Int32) (post : Int32 → Prop)   : ∀ (n : Nat) (x2 : Int32) (x3 : Int32) (x4 : Int32), wp_Wo_numberOf_5 f_text post n x2 x3 x4 → ∀ (H : Heap) (locs : List Loc) (ls : Array Slot), va_P (dC, dI) classes [(h_this, .inr (5, [.ref h_text, .int u_length, .ref h_kinds, .ref h_places, .ref h_numbers, .int u_words])), (h_text, .inl (cC, 600, .inl f_text))] H → va_D A [(h_this, .inr (5, [.ref h_text, .int u_length, .ref h_kinds, .ref h_places, .ref h_numbers, .int u_words])), (h_text, .inl (cC, 600, .inl f_text))] → va_S A s.heap H locs → lv_has ls 5 [(0, .ref h_this), (2, .int x2), (3, .int x3), (4, .int x4)] → W p l e { frames := 0, cells := 0, slots := 0, locals := 0 } s m args below meth c H locs 0 0 (MQ below (va_Qi (fun (r : Int32) (u : Unit) => post r) (fun (u : Unit) (t : State) => va_P (dC, dI) classes [(h_this, .inr (5, [.ref h_text, .int u_length, .ref h_kinds, .ref h_places, .ref h_numbers, .int u_words])), (h_text, .inl (cC, 600, .inl f_text))] t.heap ∧ va_D A [(h_this, .inr (5, [.ref h_text, .int u_length, .ref h_kinds, .ref h_places, .ref h_numbers, .int u_words])), (h_text, .inl (cC, 600, .inl f_text))]) A) args s 0 0 A) (F0 m 5 ls []) := by
  obtain ⟨hx, hb, hr, hml, hown, hlocks, hG⟩ := id C0
  have hK := hN.1
  intro n
  induction n with
  | zero =>
    intro x2 x3 x4 h
    exact absurd h (by rw [wp_Wo_numberOf_5]; exact id)
  | succ n ih =>
    intro x2 x3 x4 h H locs ls hP hD hS hl
    rw [wp_Wo_numberOf_5] at h
    refine lv_iload hx hb d_Wo_numberOf_5 (lv_at hl 3 rfl) ?_
    refine lv_iload_n hx hb d_Wo_numberOf_7 rfl (lv_at hl 1 rfl) ?_
    refine lv_icmp_ge (tgt := 33) hx hb d_Wo_numberOf_8 (by decide) (fun c_ => ?_) (fun c_ => ?_)
    · have h := h.1 c_
      refine lv_iload_n hx hb d_Wo_numberOf_33 rfl (lv_at hl 2 rfl) ?_
      exact W.iret (v := x3) hx hb hr (fun t ht hW => ⟨⟨x3, (), rfl, h, by rw [ht]; exact hP, hD⟩, hS.F ht⟩) hS.2.2 d_Wo_numberOf_34 hlocks
    · have h := h.2 c_
      refine lv_bipush (v := 10) hx hb d_Wo_numberOf_11 (by decide) ?_
      refine lv_iload_n hx hb d_Wo_numberOf_13 rfl (lv_at hl 2 rfl) ?_
      refine lv_imul hx hb d_Wo_numberOf_14 ?_
      refine lv_aload_n hx hb d_Wo_numberOf_15 rfl (lv_at hl 0 rfl) ?_
      refine va_get (D := (dC, dI)) (ci := 5) (v := .ref h_text) (C := "LeanSets$Words") (T := T_Wo) (N := 6) hx hb hG in_Wo hown hK hP 0 rfl rfl 0 (Nat.le_of_ble_eq_true rfl) (hG _ mw_41) (fun _ h9 => h9) rfl d_Wo_numberOf_16 ?_
      refine lv_iload hx hb d_Wo_numberOf_19 (lv_at hl 3 rfl) ?_
      obtain ⟨g_, h⟩ := h
      refine va_cald hx hb hK hP 1 2 rfl rfl g_ d_Wo_numberOf_21 ?_
      refine lv_bipush (v := 48) hx hb d_Wo_numberOf_22 (by decide) ?_
      refine lv_isub hx hb d_Wo_numberOf_24 ?_
      refine lv_iadd hx hb d_Wo_numberOf_25 ?_
      refine lv_istore_n (lv' := [(3, .int (((10 : Int32) * x3) + ((f_text x4.toNatClampNeg) - (48 : Int32)))), (0, .ref h_this), (2, .int x2), (4, .int x4)]) hx hb d_Wo_numberOf_26 rfl hl (by decide) rfl (fun ls hl => ?_)
      refine lv_iinc (v := (x4 + (1 : Int32))) (lv' := [(4, .int (x4 + (1 : Int32))), (3, .int (((10 : Int32) * x3) + ((f_text x4.toNatClampNeg) - (48 : Int32)))), (0, .ref h_this), (2, .int x2)]) hx hb d_Wo_numberOf_27 hl (k := 3) rfl rfl (by decide) rfl (fun ls hl => ?_)
      refine lv_goto (tgt := 5) hx hb d_Wo_numberOf_30 (by decide) ?_
      exact ih x2 (((10 : Int32) * x3) + ((f_text x4.toNatClampNeg) - (48 : Int32))) (x4 + (1 : Int32)) h _ _ _ hP hD hS (lv_sub hl [2, 3, 1, 0] rfl)
def wp_Wo_numberOf_0 (f_text : Nat → Int32) (post : Int32 → Prop)  (x1 : Int32) (x2 : Int32) : Prop := ∃ n_ : Nat, wp_Wo_numberOf_5 f_text post n_ x2 (0 : Int32) x1
set_option maxHeartbeats 4000000 in
set_option maxRecDepth 100000 in
theorem wk_Wo_numberOf_0 {p : Program} {l : Launch} {e : Env} {s : State} {m : MethodId} {args : Array Value} {below : List Frame} {meth : Method} {c : Code} (dC : Nat → ClassId) (dI : Nat → Nat → Nat) (cI cJ cC : ClassId) (A : Nat → Prop) (hA : ∀ q : Nat, s.heap.size ≤ q → A q) (C0 : gx_C p s m meth c args "LeanSets$Words" prog_7_method_10_code 5 (Option.some Jvm.ClassFile.FieldType.int)) (hN : gx_K dC dI cI cJ cC s)  (h_this h_text h_kinds h_places h_numbers : Nat) (u_length : Int32) (u_words : Int32) (f_text : Nat → Int32) (post : Int32 → Prop)   : ∀ (x1 : Int32) (x2 : Int32), wp_Wo_numberOf_0 f_text post x1 x2 → ∀ (H : Heap) (locs : List Loc) (ls : Array Slot), va_P (dC, dI) classes [(h_this, .inr (5, [.ref h_text, .int u_length, .ref h_kinds, .ref h_places, .ref h_numbers, .int u_words])), (h_text, .inl (cC, 600, .inl f_text))] H → va_D A [(h_this, .inr (5, [.ref h_text, .int u_length, .ref h_kinds, .ref h_places, .ref h_numbers, .int u_words])), (h_text, .inl (cC, 600, .inl f_text))] → va_S A s.heap H locs → lv_has ls 5 [(0, .ref h_this), (1, .int x1), (2, .int x2)] → W p l e { frames := 0, cells := 0, slots := 0, locals := 0 } s m args below meth c H locs 0 0 (MQ below (va_Qi (fun (r : Int32) (u : Unit) => post r) (fun (u : Unit) (t : State) => va_P (dC, dI) classes [(h_this, .inr (5, [.ref h_text, .int u_length, .ref h_kinds, .ref h_places, .ref h_numbers, .int u_words])), (h_text, .inl (cC, 600, .inl f_text))] t.heap ∧ va_D A [(h_this, .inr (5, [.ref h_text, .int u_length, .ref h_kinds, .ref h_places, .ref h_numbers, .int u_words])), (h_text, .inl (cC, 600, .inl f_text))]) A) args s 0 0 A) (F0 m 0 ls []) := by
  obtain ⟨hx, hb, hr, hml, hown, hlocks, hG⟩ := id C0
  have hK := hN.1
  intro x1 x2 h H locs ls hP hD hS hl
  rw [wp_Wo_numberOf_0] at h
  refine lv_iconst (v := 0) hx hb d_Wo_numberOf_0 (by decide) ?_
  refine lv_istore_n (lv' := [(3, .int (0 : Int32)), (0, .ref h_this), (1, .int x1), (2, .int x2)]) hx hb d_Wo_numberOf_1 rfl hl (by decide) rfl (fun ls hl => ?_)
  refine lv_iload_n hx hb d_Wo_numberOf_2 rfl (lv_at hl 2 rfl) ?_
  refine lv_istore (lv' := [(4, .int x1), (3, .int (0 : Int32)), (0, .ref h_this), (1, .int x1), (2, .int x2)]) hx hb d_Wo_numberOf_3 hl (by decide) rfl (fun ls hl => ?_)
  obtain ⟨n_, h⟩ := h
  exact wk_Wo_numberOf_5 dC dI cI cJ cC A hA C0 hN h_this h_text h_kinds h_places h_numbers u_length u_words f_text post   n_ x2 (0 : Int32) x1 h _ _ _ hP hD hS (lv_sub hl [2, 4, 1, 0] rfl)
set_option maxHeartbeats 4000000 in
set_option maxRecDepth 100000 in
theorem c_Wo_numberOf (l : Launch) (dC : Nat → ClassId) (dI : Nat → Nat → Nat) (cI cJ cC : ClassId) (h_this h_text h_kinds h_places h_numbers : Nat) (u_length : Int32) (u_words : Int32) (f_text : Nat → Int32) (post : Int32 → Prop) (x1 : Int32) (x2 : Int32) (sz : Nat) (h : wp_Wo_numberOf_0 f_text post x1 x2) : Met l y_Wo_numberOf (.code y_Wo_numberOf prog_7_method_10_code 5 (Option.some Jvm.ClassFile.FieldType.int) :: gx_G) ({ frames := 0, cells := 0, slots := 0, locals := 0 }) (va_Pc [.ref h_this, .int x1, .int x2] (fun U => U.heap.size = sz ∧ va_P (dC, dI) classes [(h_this, .inr (5, [.ref h_text, .int u_length, .ref h_kinds, .ref h_places, .ref h_numbers, .int u_words])), (h_text, .inl (cC, 600, .inl f_text))] U.heap ∧ gx_K dC dI cI cJ cC U ∧ va_D (fun _ => True) [(h_this, .inr (5, [.ref h_text, .int u_length, .ref h_kinds, .ref h_places, .ref h_numbers, .int u_words])), (h_text, .inl (cC, 600, .inl f_text))])) (va_Qi (fun (r : Int32) (u : Unit) => post r) (fun (u : Unit) (t : State) => va_P (dC, dI) classes [(h_this, .inr (5, [.ref h_text, .int u_length, .ref h_kinds, .ref h_places, .ref h_numbers, .int u_words])), (h_text, .inl (cC, 600, .inl f_text))] t.heap ∧ va_D (va_A [(h_this, .inr (5, [.ref h_text, .int u_length, .ref h_kinds, .ref h_places, .ref h_numbers, .int u_words])), (h_text, .inl (cC, 600, .inl f_text))] sz) [(h_this, .inr (5, [.ref h_text, .int u_length, .ref h_kinds, .ref h_places, .ref h_numbers, .int u_words])), (h_text, .inl (cC, 600, .inl f_text))]) (va_A [(h_this, .inr (5, [.ref h_text, .int u_length, .ref h_kinds, .ref h_places, .ref h_numbers, .int u_words])), (h_text, .inl (cC, 600, .inl f_text))] sz)) 0 0 (va_A [(h_this, .inr (5, [.ref h_text, .int u_length, .ref h_kinds, .ref h_places, .ref h_numbers, .int u_words])), (h_text, .inl (cC, 600, .inl f_text))] sz) := by
  refine Met.ofW (cc := prog_7_method_10_code) (maxL := 5) (ret := (Option.some Jvm.ClassFile.FieldType.int)) (by decide +kernel) rfl ?_
  intro p e s m args below meth c s₁ B hml hv
  obtain ⟨rfl, hsz, hP, hN, hD0⟩ := hv
  have hts := atoms_spec (ws := (.code y_Wo_numberOf prog_7_method_10_code 5 (Option.some Jvm.ClassFile.FieldType.int) :: gx_G)) B.pre
  have C0 : gx_C p s m meth c _ "LeanSets$Words" prog_7_method_10_code 5 (Option.some Jvm.ClassFile.FieldType.int) := ⟨B.exec, B.bytes, B.returns, hml, findClass_of_methodNamed B.named, B.notSynchronized, fun w hw => hts w (List.mem_cons_of_mem _ hw)⟩
  subst hsz
  have hD := hD0.self (sz := s.heap.size)
  generalize hAe : va_A [(h_this, .inr (5, [.ref h_text, .int u_length, .ref h_kinds, .ref h_places, .ref h_numbers, .int u_words])), (h_text, .inl (cC, 600, .inl f_text))] s.heap.size = A at hD ⊢
  have hA : ∀ q : Nat, s.heap.size ≤ q → A q := fun q h => by rw [← hAe]; exact Or.inr h
  have hl := lv_entry ([.ref h_this, .int x1, .int x2]) (n := 5) (Nat.le_of_ble_eq_true rfl)
  rw [lg_entry_eq]
  generalize (lg_sl ([.ref h_this, .int x1, .int x2]) ++ List.replicate (5 - (lg_sl ([.ref h_this, .int x1, .int x2])).length) Slot.unset).toArray = ls at hl ⊢
  exact wk_Wo_numberOf_0 dC dI cI cJ cC A hA C0 hN h_this h_text h_kinds h_places h_numbers u_length u_words f_text post x1 x2 h s.heap [] ls hP hD va_S.rf hl
/-! LeanSets$Words.keep(III)V -/
def y_Wo_keep : MethodName := ⟨"LeanSets$Words", "keep", "(III)V"⟩
theorem d_Wo_keep_0 : decode prog_7_method_4_code 0 = .ok (.aload_n 0, 1) := by decide +kernel
theorem d_Wo_keep_1 : decode prog_7_method_4_code 1 = .ok (.getfield 15, 3) := by decide +kernel
theorem d_Wo_keep_4 : decode prog_7_method_4_code 4 = .ok (.aload_n 0, 1) := by decide +kernel
theorem d_Wo_keep_5 : decode prog_7_method_4_code 5 = .ok (.getfield 29, 3) := by decide +kernel
theorem d_Wo_keep_8 : decode prog_7_method_4_code 8 = .ok (.iload_n 1, 1) := by decide +kernel
theorem d_Wo_keep_9 : decode prog_7_method_4_code 9 = .ok (.iastore, 1) := by decide +kernel
theorem d_Wo_keep_10 : decode prog_7_method_4_code 10 = .ok (.aload_n 0, 1) := by decide +kernel
theorem d_Wo_keep_11 : decode prog_7_method_4_code 11 = .ok (.getfield 19, 3) := by decide +kernel
theorem d_Wo_keep_14 : decode prog_7_method_4_code 14 = .ok (.aload_n 0, 1) := by decide +kernel
theorem d_Wo_keep_15 : decode prog_7_method_4_code 15 = .ok (.getfield 29, 3) := by decide +kernel
theorem d_Wo_keep_18 : decode prog_7_method_4_code 18 = .ok (.iload_n 2, 1) := by decide +kernel
theorem d_Wo_keep_19 : decode prog_7_method_4_code 19 = .ok (.iastore, 1) := by decide +kernel
theorem d_Wo_keep_20 : decode prog_7_method_4_code 20 = .ok (.aload_n 0, 1) := by decide +kernel
theorem d_Wo_keep_21 : decode prog_7_method_4_code 21 = .ok (.getfield 22, 3) := by decide +kernel
theorem d_Wo_keep_24 : decode prog_7_method_4_code 24 = .ok (.aload_n 0, 1) := by decide +kernel
theorem d_Wo_keep_25 : decode prog_7_method_4_code 25 = .ok (.getfield 29, 3) := by decide +kernel
theorem d_Wo_keep_28 : decode prog_7_method_4_code 28 = .ok (.iload_n 1, 1) := by decide +kernel
theorem d_Wo_keep_29 : decode prog_7_method_4_code 29 = .ok (.iconst 4, 1) := by decide +kernel
theorem d_Wo_keep_30 : decode prog_7_method_4_code 30 = .ok (.if_icmp .ne 12, 3) := by decide +kernel
theorem d_Wo_keep_33 : decode prog_7_method_4_code 33 = .ok (.aload_n 0, 1) := by decide +kernel
theorem d_Wo_keep_34 : decode prog_7_method_4_code 34 = .ok (.iload_n 2, 1) := by decide +kernel
theorem d_Wo_keep_35 : decode prog_7_method_4_code 35 = .ok (.iload_n 3, 1) := by decide +kernel
theorem d_Wo_keep_36 : decode prog_7_method_4_code 36 = .ok (.invokevirtual 47, 3) := by decide +kernel
theorem d_Wo_keep_39 : decode prog_7_method_4_code 39 = .ok (.goto 4, 3) := by decide +kernel
theorem d_Wo_keep_42 : decode prog_7_method_4_code 42 = .ok (.iconst 0, 1) := by decide +kernel
theorem d_Wo_keep_43 : decode prog_7_method_4_code 43 = .ok (.iastore, 1) := by decide +kernel
theorem d_Wo_keep_44 : decode prog_7_method_4_code 44 = .ok (.aload_n 0, 1) := by decide +kernel
theorem d_Wo_keep_45 : decode prog_7_method_4_code 45 = .ok (.dup, 1) := by decide +kernel
theorem d_Wo_keep_46 : decode prog_7_method_4_code 46 = .ok (.getfield 29, 3) := by decide +kernel
theorem d_Wo_keep_49 : decode prog_7_method_4_code 49 = .ok (.iconst 1, 1) := by decide +kernel
theorem d_Wo_keep_50 : decode prog_7_method_4_code 50 = .ok (.iadd, 1) := by decide +kernel
theorem d_Wo_keep_51 : decode prog_7_method_4_code 51 = .ok (.putfield 29, 3) := by decide +kernel
theorem d_Wo_keep_54 : decode prog_7_method_4_code 54 = .ok (.return_, 1) := by decide +kernel
def wp_Wo_keep_43 (f_text : Nat → Int32) (post : Int32 → (Nat → Int32) → (Nat → Int32) → (Nat → Int32) → Prop)  (t1 : Int32) (t2 : Int32) (f_words : Int32) (f_kinds : Nat → Int32) (f_places : Nat → Int32) (f_numbers : Nat → Int32) : Prop := (vp_in t1 601) ∧ (post (f_words + (1 : Int32)) f_kinds f_places (upd f_numbers t1.toNatClampNeg t2))
set_option maxHeartbeats 4000000 in
set_option maxRecDepth 100000 in
theorem wk_Wo_keep_43 {p : Program} {l : Launch} {e : Env} {s : State} {m : MethodId} {args : Array Value} {below : List Frame} {meth : Method} {c : Code} (dC : Nat → ClassId) (dI : Nat → Nat → Nat) (cI cJ cC : ClassId) (A : Nat → Prop) (hA : ∀ q : Nat, s.heap.size ≤ q → A q) (C0 : gx_C p s m meth c args "LeanSets$Words" prog_7_method_4_code 4 (Option.none : Option Jvm.ClassFile.FieldType)) (hN : gx_K dC dI cI cJ cC s)  (h_this h_kinds h_places h_text h_numbers : Nat) (u_length : Int32) (f_text : Nat → Int32) (post : Int32 → (Nat → Int32) → (Nat → Int32) → (Nat → Int32) → Prop)   : ∀ (t1 : Int32) (t2 : Int32) (f_words : Int32) (f_kinds : Nat → Int32) (f_places : Nat → Int32) (f_numbers : Nat → Int32), wp_Wo_keep_43 f_text post t1 t2 f_words f_kinds f_places f_numbers → ∀ (H : Heap) (locs : List Loc) (ls : Array Slot), va_P (dC, dI) classes [(h_this, .inr (5, [.ref h_text, .int u_length, .ref h_kinds, .ref h_places, .ref h_numbers, .int f_words])), (h_kinds, .inl (cI, 601, .inl f_kinds)), (h_places, .inl (cI, 601, .inl f_places)), (h_text, .inl (cC, 600, .inl f_text)), (h_numbers, .inl (cI, 601, .inl f_numbers))] H → va_D A [(h_this, .inr (5, [.ref h_text, .int u_length, .ref h_kinds, .ref h_places, .ref h_numbers, .int f_words])), (h_kinds, .inl (cI, 601, .inl f_kinds)), (h_places, .inl (cI, 601, .inl f_places)), (h_text, .inl (cC, 600, .inl f_text)), (h_numbers, .inl (cI, 601, .inl f_numbers))] → va_S A s.heap H locs → lv_has ls 4 [(0, .ref h_this)] → W p l e { frames := 1, cells := 0, slots := 0, locals := 24 } s m args below meth c H locs 0 0 (MQ below (va_Qv (fun (u : Int32 × (Nat → Int32) × (Nat → Int32) × (Nat → Int32)) => post u.1 u.2.1 u.2.2.1 u.2.2.2) (fun (u : Int32 × (Nat → Int32) × (Nat → Int32) × (Nat → Int32)) (t : State) => va_P (dC, dI) classes [(h_this, .inr (5, [.ref h_text, .int u_length, .ref h_kinds, .ref h_places, .ref h_numbers, .int u.1])), (h_kinds, .inl (cI, 601, .inl u.2.1)), (h_places, .inl (cI, 601, .inl u.2.2.1)), (h_text, .inl (cC, 600, .inl f_text)), (h_numbers, .inl (cI, 601, .inl u.2.2.2))] t.heap ∧ va_D A [(h_this, .inr (5, [.ref h_text, .int u_length, .ref h_kinds, .ref h_places, .ref h_numbers, .int u.1])), (h_kinds, .inl (cI, 601, .inl u.2.1)), (h_places, .inl (cI, 601, .inl u.2.2.1)), (h_text, .inl (cC, 600, .inl f_text)), (h_numbers, .inl (cI, 601, .inl u.2.2.2))]) A) args s 0 0 A) (F0 m 43 ls [.int t2, .int t1, .ref h_numbers]) := by
  obtain ⟨hx, hb, hr, hml, hown, hlocks, hG⟩ := id C0
  have hK := hN.1
  intro t1 t2 f_words f_kinds f_places f_numbers h H locs ls hP hD hS hl
  rw [wp_Wo_keep_43] at h
  obtain ⟨g_, h⟩ := h
  refine va_iast hx hb hK hP hD hS 4 0 rfl rfl g_ d_Wo_keep_43 (fun H locs hP hD hS => ?_)
  have hP : va_P (dC, dI) classes [(h_this, .inr (5, [.ref h_text, .int u_length, .ref h_kinds, .ref h_places, .ref h_numbers, .int f_words])), (h_kinds, .inl (cI, 601, .inl f_kinds)), (h_places, .inl (cI, 601, .inl f_places)), (h_text, .inl (cC, 600, .inl f_text)), (h_numbers, .inl (cI, 601, .inl (upd f_numbers t1.toNatClampNeg t2)))] H := hP
  have hD : va_D A [(h_this, .inr (5, [.ref h_text, .int u_length, .ref h_kinds, .ref h_places, .ref h_numbers, .int f_words])), (h_kinds, .inl (cI, 601, .inl f_kinds)), (h_places, .inl (cI, 601, .inl f_places)), (h_text, .inl (cC, 600, .inl f_text)), (h_numbers, .inl (cI, 601, .inl (upd f_numbers t1.toNatClampNeg t2)))] := hD
  refine lv_aload_n hx hb d_Wo_keep_44 rfl (lv_at hl 0 rfl) ?_
  refine lv_dup hx hb d_Wo_keep_45 rfl ?_
  refine va_get (D := (dC, dI)) (ci := 5) (v := .int f_words) (C := "LeanSets$Words") (T := T_Wo) (N := 6) hx hb hG in_Wo hown hK hP 0 rfl rfl 5 (Nat.le_of_ble_eq_true rfl) (hG _ mw_50) (fun _ h9 => h9) rfl d_Wo_keep_46 ?_
  refine lv_iconst (v := 1) hx hb d_Wo_keep_49 (by decide) ?_
  refine lv_iadd hx hb d_Wo_keep_50 ?_
  refine va_put (D := (dC, dI)) (ci := 5) (v := .int (f_words + (1 : Int32))) (ty := .int) (C := "LeanSets$Words") (T := T_Wo) (N := 6) hx hb hG in_Wo ty_Wo ty_Wo_ok nm_Wo hown hK hP hD hS 0 rfl rfl 5 (Nat.le_of_ble_eq_true rfl) (hG _ mw_50) (fun _ h9 => h9) rfl (ty_Wo_ok 5 (Nat.le_of_ble_eq_true rfl)) rfl rfl (Nat.le_of_ble_eq_true rfl) d_Wo_keep_51 (fun H locs hP hD hS => ?_)
  have hP : va_P (dC, dI) classes [(h_this, .inr (5, [.ref h_text, .int u_length, .ref h_kinds, .ref h_places, .ref h_numbers, .int (f_words + (1 : Int32))])), (h_kinds, .inl (cI, 601, .inl f_kinds)), (h_places, .inl (cI, 601, .inl f_places)), (h_text, .inl (cC, 600, .inl f_text)), (h_numbers, .inl (cI, 601, .inl (upd f_numbers t1.toNatClampNeg t2)))] H := hP
  have hD : va_D A [(h_this, .inr (5, [.ref h_text, .int u_length, .ref h_kinds, .ref h_places, .ref h_numbers, .int (f_words + (1 : Int32))])), (h_kinds, .inl (cI, 601, .inl f_kinds)), (h_places, .inl (cI, 601, .inl f_places)), (h_text, .inl (cC, 600, .inl f_text)), (h_numbers, .inl (cI, 601, .inl (upd f_numbers t1.toNatClampNeg t2)))] := hD
  exact W.vret hx hb hr (fun t ht hW => ⟨⟨((f_words + (1 : Int32)), f_kinds, f_places, (upd f_numbers t1.toNatClampNeg t2)), rfl, h, by rw [ht]; exact hP, hD⟩, hS.F ht⟩) hS.2.2 d_Wo_keep_54 hlocks
def wp_Wo_keep_0 (f_text : Nat → Int32) (post : Int32 → (Nat → Int32) → (Nat → Int32) → (Nat → Int32) → Prop)  (x1 : Int32) (x2 : Int32) (x3 : Int32) (f_words : Int32) (f_kinds : Nat → Int32) (f_places : Nat → Int32) (f_numbers : Nat → Int32) : Prop := (vp_in f_words 601) ∧ ((vp_in f_words 601) ∧ (((¬ x1 = (4 : Int32)) → (wp_Wo_keep_43 f_text post f_words (0 : Int32) f_words (upd f_kinds f_words.toNatClampNeg x1) (upd f_places f_words.toNatClampNeg x2) f_numbers)) ∧ ((x1 = (4 : Int32)) → (wp_Wo_numberOf_0 f_text (fun (r36 : Int32) => wp_Wo_keep_43 f_text post f_words r36 f_words (upd f_kinds f_words.toNatClampNeg x1) (upd f_places f_words.toNatClampNeg x2) f_numbers) x2 x3))))
set_option maxHeartbeats 4000000 in
set_option maxRecDepth 100000 in
theorem wk_Wo_keep_0 {p : Program} {l : Launch} {e : Env} {s : State} {m : MethodId} {args : Array Value} {below : List Frame} {meth : Method} {c : Code} (dC : Nat → ClassId) (dI : Nat → Nat → Nat) (cI cJ cC : ClassId) (A : Nat → Prop) (hA : ∀ q : Nat, s.heap.size ≤ q → A q) (C0 : gx_C p s m meth c args "LeanSets$Words" prog_7_method_4_code 4 (Option.none : Option Jvm.ClassFile.FieldType)) (hN : gx_K dC dI cI cJ cC s)  (h_this h_kinds h_places h_text h_numbers : Nat) (u_length : Int32) (f_text : Nat → Int32) (post : Int32 → (Nat → Int32) → (Nat → Int32) → (Nat → Int32) → Prop)   : ∀ (x1 : Int32) (x2 : Int32) (x3 : Int32) (f_words : Int32) (f_kinds : Nat → Int32) (f_places : Nat → Int32) (f_numbers : Nat → Int32), wp_Wo_keep_0 f_text post x1 x2 x3 f_words f_kinds f_places f_numbers → ∀ (H : Heap) (locs : List Loc) (ls : Array Slot), va_P (dC, dI) classes [(h_this, .inr (5, [.ref h_text, .int u_length, .ref h_kinds, .ref h_places, .ref h_numbers, .int f_words])), (h_kinds, .inl (cI, 601, .inl f_kinds)), (h_places, .inl (cI, 601, .inl f_places)), (h_text, .inl (cC, 600, .inl f_text)), (h_numbers, .inl (cI, 601, .inl f_numbers))] H → va_D A [(h_this, .inr (5, [.ref h_text, .int u_length, .ref h_kinds, .ref h_places, .ref h_numbers, .int f_words])), (h_kinds, .inl (cI, 601, .inl f_kinds)), (h_places, .inl (cI, 601, .inl f_places)), (h_text, .inl (cC, 600, .inl f_text)), (h_numbers, .inl (cI, 601, .inl f_numbers))] → va_S A s.heap H locs → lv_has ls 4 [(0, .ref h_this), (1, .int x1), (2, .int x2), (3, .int x3)] → W p l e { frames := 1, cells := 0, slots := 0, locals := 24 } s m args below meth c H locs 0 0 (MQ below (va_Qv (fun (u : Int32 × (Nat → Int32) × (Nat → Int32) × (Nat → Int32)) => post u.1 u.2.1 u.2.2.1 u.2.2.2) (fun (u : Int32 × (Nat → Int32) × (Nat → Int32) × (Nat → Int32)) (t : State) => va_P (dC, dI) classes [(h_this, .inr (5, [.ref h_text, .int u_length, .ref h_kinds, .ref h_places, .ref h_numbers, .int u.1])), (h_kinds, .inl (cI, 601, .inl u.2.1)), (h_places, .inl (cI, 601, .inl u.2.2.1)), (h_text, .inl (cC, 600, .inl f_text)), (h_numbers, .inl (cI, 601, .inl u.2.2.2))] t.heap ∧ va_D A [(h_this, .inr (5, [.ref h_text, .int u_length, .ref h_kinds, .ref h_places, .ref h_numbers, .int u.1])), (h_kinds, .inl (cI, 601, .inl u.2.1)), (h_places, .inl (cI, 601, .inl u.2.2.1)), (h_text, .inl (cC, 600, .inl f_text)), (h_numbers, .inl (cI, 601, .inl u.2.2.2))]) A) args s 0 0 A) (F0 m 0 ls []) := by
  obtain ⟨hx, hb, hr, hml, hown, hlocks, hG⟩ := id C0
  have hK := hN.1
  intro x1 x2 x3 f_words f_kinds f_places f_numbers h H locs ls hP hD hS hl
  rw [wp_Wo_keep_0] at h
  refine lv_aload_n hx hb d_Wo_keep_0 rfl (lv_at hl 0 rfl) ?_
  refine va_get (D := (dC, dI)) (ci := 5) (v := .ref h_kinds) (C := "LeanSets$Words") (T := T_Wo) (N := 6) hx hb hG in_Wo hown hK hP 0 rfl rfl 2 (Nat.le_of_ble_eq_true rfl) (hG _ mw_44) (fun _ h9 => h9) rfl d_Wo_keep_1 ?_
  refine lv_aload_n hx hb d_Wo_keep_4 rfl (lv_at hl 0 rfl) ?_
  refine va_get (D := (dC, dI)) (ci := 5) (v := .int f_words) (C := "LeanSets$Words") (T := T_Wo) (N := 6) hx hb hG in_Wo hown hK hP 0 rfl rfl 5 (Nat.le_of_ble_eq_true rfl) (hG _ mw_50) (fun _ h9 => h9) rfl d_Wo_keep_5 ?_
  refine lv_iload_n hx hb d_Wo_keep_8 rfl (lv_at hl 1 rfl) ?_
  obtain ⟨g_, h⟩ := h
  refine va_iast hx hb hK hP hD hS 1 0 rfl rfl g_ d_Wo_keep_9 (fun H locs hP hD hS => ?_)
  have hP : va_P (dC, dI) classes [(h_this, .inr (5, [.ref h_text, .int u_length, .ref h_kinds, .ref h_places, .ref h_numbers, .int f_words])), (h_kinds, .inl (cI, 601, .inl (upd f_kinds f_words.toNatClampNeg x1))), (h_places, .inl (cI, 601, .inl f_places)), (h_text, .inl (cC, 600, .inl f_text)), (h_numbers, .inl (cI, 601, .inl f_numbers))] H := hP
  have hD : va_D A [(h_this, .inr (5, [.ref h_text, .int u_length, .ref h_kinds, .ref h_places, .ref h_numbers, .int f_words])), (h_kinds, .inl (cI, 601, .inl (upd f_kinds f_words.toNatClampNeg x1))), (h_places, .inl (cI, 601, .inl f_places)), (h_text, .inl (cC, 600, .inl f_text)), (h_numbers, .inl (cI, 601, .inl f_numbers))] := hD
  refine lv_aload_n hx hb d_Wo_keep_10 rfl (lv_at hl 0 rfl) ?_
  refine va_get (D := (dC, dI)) (ci := 5) (v := .ref h_places) (C := "LeanSets$Words") (T := T_Wo) (N := 6) hx hb hG in_Wo hown hK hP 0 rfl rfl 3 (Nat.le_of_ble_eq_true rfl) (hG _ mw_46) (fun _ h9 => h9) rfl d_Wo_keep_11 ?_
  refine lv_aload_n hx hb d_Wo_keep_14 rfl (lv_at hl 0 rfl) ?_
  refine va_get (D := (dC, dI)) (ci := 5) (v := .int f_words) (C := "LeanSets$Words") (T := T_Wo) (N := 6) hx hb hG in_Wo hown hK hP 0 rfl rfl 5 (Nat.le_of_ble_eq_true rfl) (hG _ mw_50) (fun _ h9 => h9) rfl d_Wo_keep_15 ?_
  refine lv_iload_n hx hb d_Wo_keep_18 rfl (lv_at hl 2 rfl) ?_
  obtain ⟨g_, h⟩ := h
  refine va_iast hx hb hK hP hD hS 2 0 rfl rfl g_ d_Wo_keep_19 (fun H locs hP hD hS => ?_)
  have hP : va_P (dC, dI) classes [(h_this, .inr (5, [.ref h_text, .int u_length, .ref h_kinds, .ref h_places, .ref h_numbers, .int f_words])), (h_kinds, .inl (cI, 601, .inl (upd f_kinds f_words.toNatClampNeg x1))), (h_places, .inl (cI, 601, .inl (upd f_places f_words.toNatClampNeg x2))), (h_text, .inl (cC, 600, .inl f_text)), (h_numbers, .inl (cI, 601, .inl f_numbers))] H := hP
  have hD : va_D A [(h_this, .inr (5, [.ref h_text, .int u_length, .ref h_kinds, .ref h_places, .ref h_numbers, .int f_words])), (h_kinds, .inl (cI, 601, .inl (upd f_kinds f_words.toNatClampNeg x1))), (h_places, .inl (cI, 601, .inl (upd f_places f_words.toNatClampNeg x2))), (h_text, .inl (cC, 600, .inl f_text)), (h_numbers, .inl (cI, 601, .inl f_numbers))] := hD
  refine lv_aload_n hx hb d_Wo_keep_20 rfl (lv_at hl 0 rfl) ?_
  refine va_get (D := (dC, dI)) (ci := 5) (v := .ref h_numbers) (C := "LeanSets$Words") (T := T_Wo) (N := 6) hx hb hG in_Wo hown hK hP 0 rfl rfl 4 (Nat.le_of_ble_eq_true rfl) (hG _ mw_48) (fun _ h9 => h9) rfl d_Wo_keep_21 ?_
  refine lv_aload_n hx hb d_Wo_keep_24 rfl (lv_at hl 0 rfl) ?_
  refine va_get (D := (dC, dI)) (ci := 5) (v := .int f_words) (C := "LeanSets$Words") (T := T_Wo) (N := 6) hx hb hG in_Wo hown hK hP 0 rfl rfl 5 (Nat.le_of_ble_eq_true rfl) (hG _ mw_50) (fun _ h9 => h9) rfl d_Wo_keep_25 ?_
  refine lv_iload_n hx hb d_Wo_keep_28 rfl (lv_at hl 1 rfl) ?_
  refine lv_iconst (v := 4) hx hb d_Wo_keep_29 (by decide) ?_
  refine lv_icmp_ne (tgt := 42) hx hb d_Wo_keep_30 (by decide) (fun c_ => ?_) (fun c_ => ?_)
  · have h := h.1 c_
    refine lv_iconst (v := 0) hx hb d_Wo_keep_42 (by decide) ?_
    exact wk_Wo_keep_43 dC dI cI cJ cC A hA C0 hN h_this h_kinds h_places h_text h_numbers u_length f_text post   f_words (0 : Int32) f_words (upd f_kinds f_words.toNatClampNeg x1) (upd f_places f_words.toNatClampNeg x2) f_numbers h _ _ _ hP hD hS (lv_sub hl [0] rfl)
  · have h := h.2 c_
    refine lv_aload_n hx hb d_Wo_keep_33 rfl (lv_at hl 0 rfl) ?_
    refine lv_iload_n hx hb d_Wo_keep_34 rfl (lv_at hl 2 rfl) ?_
    refine lv_iload_n hx hb d_Wo_keep_35 rfl (lv_at hl 3 rfl) ?_
    have hPc := hP.sub (ws' := [(h_this, .inr (5, [.ref h_text, .int u_length, .ref h_kinds, .ref h_places, .ref h_numbers, .int f_words])), (h_text, .inl (cC, 600, .inl f_text))]) [0, 3] rfl
    have hDc := hD.sub (ws' := [(h_this, .inr (5, [.ref h_text, .int u_length, .ref h_kinds, .ref h_places, .ref h_numbers, .int f_words])), (h_text, .inl (cC, 600, .inl f_text))]) [0, 3] (by decide) rfl
    have hFc := va_free (wc := [(h_this, .inr (5, [.ref h_text, .int u_length, .ref h_kinds, .ref h_places, .ref h_numbers, .int f_words])), (h_text, .inl (cC, 600, .inl f_text))]) hD hS hA [0, 3] rfl
    refine va_calli (va_runV (As := [.int x2, .int x3]) (rest := [.int f_words, .ref h_numbers]) ⟨hx, hb, hml, hown, hG⟩ (c_Wo_numberOf l dC dI cI cJ cC h_this h_text h_kinds h_places h_numbers u_length f_words f_text _ x2 x3 H.size h) (gx_cwV (own := "LeanSets$Words") 2 hG mw_346 mw_348 ms_Wo_numberOf mw_3 mw_349 (by decide +kernel) ⟨Nat.le_of_ble_eq_true rfl, Nat.le_of_ble_eq_true rfl⟩) ⟨fun a U g mk q => by obtain ⟨q0, q1, qP, qK, qD⟩ := q; exact ⟨q0, q1, qP, gx_K.same (u := U) (U := U.calling g mk a) rfl qK, qD⟩, va_recv hK hPc (ci := 5) (q0 := 0) rfl rfl, fun U hU hW => ⟨rfl, by rw [hU], by rw [hU]; exact hPc, gx_K.moved hW hN, hDc.weaken (fun _ _ _ _ => trivial)⟩⟩ rfl rfl hl.1 rfl (lv_room (Nat.le_of_ble_eq_true rfl)) d_Wo_keep_36 ⟨Nat.le_of_ble_eq_true rfl, Nat.le_of_ble_eq_true rfl⟩) hS (fun q _ h => hFc q h) hFc (fun r36 u t H1 locs ht hvm hw hB hz1 hk1 hS => ?_)
    obtain ⟨hP1, hD1⟩ := hB
    rw [ht] at hP1
    obtain ⟨hP, hD⟩ := va_join (wr := [(h_kinds, .inl (cI, 601, .inl (upd f_kinds f_words.toNatClampNeg x1))), (h_places, .inl (cI, 601, .inl (upd f_places f_words.toNatClampNeg x2))), (h_numbers, .inl (cI, 601, .inl f_numbers))]) (w1 := [(h_this, .inr (5, [.ref h_text, .int u_length, .ref h_kinds, .ref h_places, .ref h_numbers, .int f_words])), (h_text, .inl (cC, 600, .inl f_text))]) hP hD [0, 3] [1, 2, 4] rfl rfl (by decide) (by decide) hk1 hFc hP1 hD1
    clear hPc hDc hFc hk1 hP1 hD1 ht hvm
    generalize H1 = H at hP hS ⊢
    have hP := hP.sub (ws' := [(h_this, .inr (5, [.ref h_text, .int u_length, .ref h_kinds, .ref h_places, .ref h_numbers, .int f_words])), (h_kinds, .inl (cI, 601, .inl (upd f_kinds f_words.toNatClampNeg x1))), (h_places, .inl (cI, 601, .inl (upd f_places f_words.toNatClampNeg x2))), (h_text, .inl (cC, 600, .inl f_text)), (h_numbers, .inl (cI, 601, .inl f_numbers))]) [3, 0, 1, 4, 2] rfl
    have hD := hD.sub (ws' := [(h_this, .inr (5, [.ref h_text, .int u_length, .ref h_kinds, .ref h_places, .ref h_numbers, .int f_words])), (h_kinds, .inl (cI, 601, .inl (upd f_kinds f_words.toNatClampNeg x1))), (h_places, .inl (cI, 601, .inl (upd f_places f_words.toNatClampNeg x2))), (h_text, .inl (cC, 600, .inl f_text)), (h_numbers, .inl (cI, 601, .inl f_numbers))]) [3, 0, 1, 4, 2] (by decide) rfl
    have h := hw
    try dsimp only at h
    refine lv_goto (tgt := 43) hx hb d_Wo_keep_39 (by decide) ?_
    exact wk_Wo_keep_43 dC dI cI cJ cC A hA C0 hN h_this h_kinds h_places h_text h_numbers u_length f_text post   f_words r36 f_words (upd f_kinds f_words.toNatClampNeg x1) (upd f_places f_words.toNatClampNeg x2) f_numbers h _ _ _ hP hD hS (lv_sub hl [0] rfl)
set_option maxHeartbeats 4000000 in
set_option maxRecDepth 100000 in
theorem c_Wo_keep (l : Launch) (dC : Nat → ClassId) (dI : Nat → Nat → Nat) (cI cJ cC : ClassId) (h_this h_kinds h_places h_text h_numbers : Nat) (u_length : Int32) (f_text : Nat → Int32) (post : Int32 → (Nat → Int32) → (Nat → Int32) → (Nat → Int32) → Prop) (x1 : Int32) (x2 : Int32) (x3 : Int32) (f_words : Int32) (f_kinds : Nat → Int32) (f_places : Nat → Int32) (f_numbers : Nat → Int32) (sz : Nat) (h : wp_Wo_keep_0 f_text post x1 x2 x3 f_words f_kinds f_places f_numbers) : Met l y_Wo_keep (.code y_Wo_keep prog_7_method_4_code 4 (Option.none : Option Jvm.ClassFile.FieldType) :: gx_G) ({ frames := 1, cells := 0, slots := 0, locals := 24 }) (va_Pc [.ref h_this, .int x1, .int x2, .int x3] (fun U => U.heap.size = sz ∧ va_P (dC, dI) classes [(h_this, .inr (5, [.ref h_text, .int u_length, .ref h_kinds, .ref h_places, .ref h_numbers, .int f_words])), (h_kinds, .inl (cI, 601, .inl f_kinds)), (h_places, .inl (cI, 601, .inl f_places)), (h_text, .inl (cC, 600, .inl f_text)), (h_numbers, .inl (cI, 601, .inl f_numbers))] U.heap ∧ gx_K dC dI cI cJ cC U ∧ va_D (fun _ => True) [(h_this, .inr (5, [.ref h_text, .int u_length, .ref h_kinds, .ref h_places, .ref h_numbers, .int f_words])), (h_kinds, .inl (cI, 601, .inl f_kinds)), (h_places, .inl (cI, 601, .inl f_places)), (h_text, .inl (cC, 600, .inl f_text)), (h_numbers, .inl (cI, 601, .inl f_numbers))])) (va_Qv (fun (u : Int32 × (Nat → Int32) × (Nat → Int32) × (Nat → Int32)) => post u.1 u.2.1 u.2.2.1 u.2.2.2) (fun (u : Int32 × (Nat → Int32) × (Nat → Int32) × (Nat → Int32)) (t : State) => va_P (dC, dI) classes [(h_this, .inr (5, [.ref h_text, .int u_length, .ref h_kinds, .ref h_places, .ref h_numbers, .int u.1])), (h_kinds, .inl (cI, 601, .inl u.2.1)), (h_places, .inl (cI, 601, .inl u.2.2.1)), (h_text, .inl (cC, 600, .inl f_text)), (h_numbers, .inl (cI, 601, .inl u.2.2.2))] t.heap ∧ va_D (va_A [(h_this, .inr (5, [.ref h_text, .int u_length, .ref h_kinds, .ref h_places, .ref h_numbers, .int f_words])), (h_kinds, .inl (cI, 601, .inl f_kinds)), (h_places, .inl (cI, 601, .inl f_places)), (h_text, .inl (cC, 600, .inl f_text)), (h_numbers, .inl (cI, 601, .inl f_numbers))] sz) [(h_this, .inr (5, [.ref h_text, .int u_length, .ref h_kinds, .ref h_places, .ref h_numbers, .int u.1])), (h_kinds, .inl (cI, 601, .inl u.2.1)), (h_places, .inl (cI, 601, .inl u.2.2.1)), (h_text, .inl (cC, 600, .inl f_text)), (h_numbers, .inl (cI, 601, .inl u.2.2.2))]) (va_A [(h_this, .inr (5, [.ref h_text, .int u_length, .ref h_kinds, .ref h_places, .ref h_numbers, .int f_words])), (h_kinds, .inl (cI, 601, .inl f_kinds)), (h_places, .inl (cI, 601, .inl f_places)), (h_text, .inl (cC, 600, .inl f_text)), (h_numbers, .inl (cI, 601, .inl f_numbers))] sz)) 0 0 (va_A [(h_this, .inr (5, [.ref h_text, .int u_length, .ref h_kinds, .ref h_places, .ref h_numbers, .int f_words])), (h_kinds, .inl (cI, 601, .inl f_kinds)), (h_places, .inl (cI, 601, .inl f_places)), (h_text, .inl (cC, 600, .inl f_text)), (h_numbers, .inl (cI, 601, .inl f_numbers))] sz) := by
  refine Met.ofW (cc := prog_7_method_4_code) (maxL := 4) (ret := (Option.none : Option Jvm.ClassFile.FieldType)) (by decide +kernel) rfl ?_
  intro p e s m args below meth c s₁ B hml hv
  obtain ⟨rfl, hsz, hP, hN, hD0⟩ := hv
  have hts := atoms_spec (ws := (.code y_Wo_keep prog_7_method_4_code 4 (Option.none : Option Jvm.ClassFile.FieldType) :: gx_G)) B.pre
  have C0 : gx_C p s m meth c _ "LeanSets$Words" prog_7_method_4_code 4 (Option.none : Option Jvm.ClassFile.FieldType) := ⟨B.exec, B.bytes, B.returns, hml, findClass_of_methodNamed B.named, B.notSynchronized, fun w hw => hts w (List.mem_cons_of_mem _ hw)⟩
  subst hsz
  have hD := hD0.self (sz := s.heap.size)
  generalize hAe : va_A [(h_this, .inr (5, [.ref h_text, .int u_length, .ref h_kinds, .ref h_places, .ref h_numbers, .int f_words])), (h_kinds, .inl (cI, 601, .inl f_kinds)), (h_places, .inl (cI, 601, .inl f_places)), (h_text, .inl (cC, 600, .inl f_text)), (h_numbers, .inl (cI, 601, .inl f_numbers))] s.heap.size = A at hD ⊢
  have hA : ∀ q : Nat, s.heap.size ≤ q → A q := fun q h => by rw [← hAe]; exact Or.inr h
  have hl := lv_entry ([.ref h_this, .int x1, .int x2, .int x3]) (n := 4) (Nat.le_of_ble_eq_true rfl)
  rw [lg_entry_eq]
  generalize (lg_sl ([.ref h_this, .int x1, .int x2, .int x3]) ++ List.replicate (4 - (lg_sl ([.ref h_this, .int x1, .int x2, .int x3])).length) Slot.unset).toArray = ls at hl ⊢
  exact wk_Wo_keep_0 dC dI cI cJ cC A hA C0 hN h_this h_kinds h_places h_text h_numbers u_length f_text post x1 x2 x3 f_words f_kinds f_places f_numbers h s.heap [] ls hP hD va_S.rf hl
/-! LeanSets$Words.split()V -/
def y_Wo_split : MethodName := ⟨"LeanSets$Words", "split", "()V"⟩
theorem d_Wo_split_0 : decode prog_7_method_3_code 0 = .ok (.aload_n 0, 1) := by decide +kernel
theorem d_Wo_split_1 : decode prog_7_method_3_code 1 = .ok (.iconst 0, 1) := by decide +kernel
theorem d_Wo_split_2 : decode prog_7_method_3_code 2 = .ok (.putfield 29, 3) := by decide +kernel
theorem d_Wo_split_5 : decode prog_7_method_3_code 5 = .ok (.aload_n 0, 1) := by decide +kernel
theorem d_Wo_split_6 : decode prog_7_method_3_code 6 = .ok (.iconst 0, 1) := by decide +kernel
theorem d_Wo_split_7 : decode prog_7_method_3_code 7 = .ok (.invokevirtual 32, 3) := by decide +kernel
theorem d_Wo_split_10 : decode prog_7_method_3_code 10 = .ok (.istore_n 1, 1) := by decide +kernel
theorem d_Wo_split_11 : decode prog_7_method_3_code 11 = .ok (.iconst 0, 1) := by decide +kernel
theorem d_Wo_split_12 : decode prog_7_method_3_code 12 = .ok (.istore_n 2, 1) := by decide +kernel
theorem d_Wo_split_13 : decode prog_7_method_3_code 13 = .ok (.iload_n 2, 1) := by decide +kernel
theorem d_Wo_split_14 : decode prog_7_method_3_code 14 = .ok (.sipush 600, 3) := by decide +kernel
theorem d_Wo_split_17 : decode prog_7_method_3_code 17 = .ok (.if_icmp .ge 41, 3) := by decide +kernel
theorem d_Wo_split_20 : decode prog_7_method_3_code 20 = .ok (.iload_n 1, 1) := by decide +kernel
theorem d_Wo_split_21 : decode prog_7_method_3_code 21 = .ok (.aload_n 0, 1) := by decide +kernel
theorem d_Wo_split_22 : decode prog_7_method_3_code 22 = .ok (.getfield 25, 3) := by decide +kernel
theorem d_Wo_split_25 : decode prog_7_method_3_code 25 = .ok (.if_icmp .ge 33, 3) := by decide +kernel
theorem d_Wo_split_28 : decode prog_7_method_3_code 28 = .ok (.aload_n 0, 1) := by decide +kernel
theorem d_Wo_split_29 : decode prog_7_method_3_code 29 = .ok (.iload_n 1, 1) := by decide +kernel
theorem d_Wo_split_30 : decode prog_7_method_3_code 30 = .ok (.invokevirtual 36, 3) := by decide +kernel
theorem d_Wo_split_33 : decode prog_7_method_3_code 33 = .ok (.istore_n 3, 1) := by decide +kernel
theorem d_Wo_split_34 : decode prog_7_method_3_code 34 = .ok (.aload_n 0, 1) := by decide +kernel
theorem d_Wo_split_35 : decode prog_7_method_3_code 35 = .ok (.aload_n 0, 1) := by decide +kernel
theorem d_Wo_split_36 : decode prog_7_method_3_code 36 = .ok (.iload_n 1, 1) := by decide +kernel
theorem d_Wo_split_37 : decode prog_7_method_3_code 37 = .ok (.iload_n 3, 1) := by decide +kernel
theorem d_Wo_split_38 : decode prog_7_method_3_code 38 = .ok (.invokevirtual 39, 3) := by decide +kernel
theorem d_Wo_split_41 : decode prog_7_method_3_code 41 = .ok (.iload_n 1, 1) := by decide +kernel
theorem d_Wo_split_42 : decode prog_7_method_3_code 42 = .ok (.iload_n 3, 1) := by decide +kernel
theorem d_Wo_split_43 : decode prog_7_method_3_code 43 = .ok (.invokevirtual 43, 3) := by decide +kernel
theorem d_Wo_split_46 : decode prog_7_method_3_code 46 = .ok (.aload_n 0, 1) := by decide +kernel
theorem d_Wo_split_47 : decode prog_7_method_3_code 47 = .ok (.iload_n 3, 1) := by decide +kernel
theorem d_Wo_split_48 : decode prog_7_method_3_code 48 = .ok (.invokevirtual 32, 3) := by decide +kernel
theorem d_Wo_split_51 : decode prog_7_method_3_code 51 = .ok (.istore_n 1, 1) := by decide +kernel
theorem d_Wo_split_52 : decode prog_7_method_3_code 52 = .ok (.iinc 2 1, 3) := by decide +kernel
theorem d_Wo_split_55 : decode prog_7_method_3_code 55 = .ok (.goto (-42), 3) := by decide +kernel
theorem d_Wo_split_58 : decode prog_7_method_3_code 58 = .ok (.aload_n 0, 1) := by decide +kernel
theorem d_Wo_split_59 : decode prog_7_method_3_code 59 = .ok (.bipush 11, 2) := by decide +kernel
theorem d_Wo_split_61 : decode prog_7_method_3_code 61 = .ok (.aload_n 0, 1) := by decide +kernel
theorem d_Wo_split_62 : decode prog_7_method_3_code 62 = .ok (.getfield 25, 3) := by decide +kernel
theorem d_Wo_split_65 : decode prog_7_method_3_code 65 = .ok (.aload_n 0, 1) := by decide +kernel
theorem d_Wo_split_66 : decode prog_7_method_3_code 66 = .ok (.getfield 25, 3) := by decide +kernel
theorem d_Wo_split_69 : decode prog_7_method_3_code 69 = .ok (.invokevirtual 43, 3) := by decide +kernel
theorem d_Wo_split_72 : decode prog_7_method_3_code 72 = .ok (.return_, 1) := by decide +kernel
def wp_Wo_split_58 (f_length : Int32) (f_text : Nat → Int32) (post : Int32 → (Nat → Int32) → (Nat → Int32) → (Nat → Int32) → Prop)  (f_words : Int32) (f_kinds : Nat → Int32) (f_places : Nat → Int32) (f_numbers : Nat → Int32) : Prop := wp_Wo_keep_0 f_text (fun (f_words_69 : Int32) (f_kinds_69 : Nat → Int32) (f_places_69 : Nat → Int32) (f_numbers_69 : Nat → Int32) => post f_words_69 f_kinds_69 f_places_69 f_numbers_69) (11 : Int32) f_length f_length f_words f_kinds f_places f_numbers
set_option maxHeartbeats 4000000 in
set_option maxRecDepth 100000 in
theorem wk_Wo_split_58 {p : Program} {l : Launch} {e : Env} {s : State} {m : MethodId} {args : Array Value} {below : List Frame} {meth : Method} {c : Code} (dC : Nat → ClassId) (dI : Nat → Nat → Nat) (cI cJ cC : ClassId) (A : Nat → Prop) (hA : ∀ q : Nat, s.heap.size ≤ q → A q) (C0 : gx_C p s m meth c args "LeanSets$Words" prog_7_method_3_code 4 (Option.none : Option Jvm.ClassFile.FieldType)) (hN : gx_K dC dI cI cJ cC s) (adK adV : Nat → Nat) (hZ : gx_Z adK adV A s)  (h_this h_text h_kinds h_places h_numbers : Nat) (f_length : Int32) (f_text : Nat → Int32) (post : Int32 → (Nat → Int32) → (Nat → Int32) → (Nat → Int32) → Prop)   : ∀ (f_words : Int32) (f_kinds : Nat → Int32) (f_places : Nat → Int32) (f_numbers : Nat → Int32), wp_Wo_split_58 f_length f_text post f_words f_kinds f_places f_numbers → ∀ (H : Heap) (locs : List Loc) (ls : Array Slot), va_P (dC, dI) classes [(h_this, .inr (5, [.ref h_text, .int f_length, .ref h_kinds, .ref h_places, .ref h_numbers, .int f_words])), (h_text, .inl (cC, 600, .inl f_text)), (h_kinds, .inl (cI, 601, .inl f_kinds)), (h_places, .inl (cI, 601, .inl f_places)), (h_numbers, .inl (cI, 601, .inl f_numbers))] H → va_D A [(h_this, .inr (5, [.ref h_text, .int f_length, .ref h_kinds, .ref h_places, .ref h_numbers, .int f_words])), (h_text, .inl (cC, 600, .inl f_text)), (h_kinds, .inl (cI, 601, .inl f_kinds)), (h_places, .inl (cI, 601, .inl f_places)), (h_numbers, .inl (cI, 601, .inl f_numbers))] → va_S A s.heap H locs → lv_has ls 4 [(0, .ref h_this)] → W p l e { frames := 7, cells := 0, slots := 0, locals := 153 } s m args below meth c H locs 0 0 (MQ below (va_Qv (fun (u : Int32 × (Nat → Int32) × (Nat → Int32) × (Nat → Int32)) => post u.1 u.2.1 u.2.2.1 u.2.2.2) (fun (u : Int32 × (Nat → Int32) × (Nat → Int32) × (Nat → Int32)) (t : State) => va_P (dC, dI) classes [(h_this, .inr (5, [.ref h_text, .int f_length, .ref h_kinds, .ref h_places, .ref h_numbers, .int u.1])), (h_text, .inl (cC, 600, .inl f_text)), (h_kinds, .inl (cI, 601, .inl u.2.1)), (h_places, .inl (cI, 601, .inl u.2.2.1)), (h_numbers, .inl (cI, 601, .inl u.2.2.2))] t.heap ∧ va_D A [(h_this, .inr (5, [.ref h_text, .int f_length, .ref h_kinds, .ref h_places, .ref h_numbers, .int u.1])), (h_text, .inl (cC, 600, .inl f_text)), (h_kinds, .inl (cI, 601, .inl u.2.1)), (h_places, .inl (cI, 601, .inl u.2.2.1)), (h_numbers, .inl (cI, 601, .inl u.2.2.2))]) A) args s 0 0 A) (F0 m 58 ls []) := by
  obtain ⟨hx, hb, hr, hml, hown, hlocks, hG⟩ := id C0
  have hK := hN.1
  intro f_words f_kinds f_places f_numbers h H locs ls hP hD hS hl
  rw [wp_Wo_split_58] at h
  refine lv_aload_n hx hb d_Wo_split_58 rfl (lv_at hl 0 rfl) ?_
  refine lv_bipush (v := 11) hx hb d_Wo_split_59 (by decide) ?_
  refine lv_aload_n hx hb d_Wo_split_61 rfl (lv_at hl 0 rfl) ?_
  refine va_get (D := (dC, dI)) (ci := 5) (v := .int f_length) (C := "LeanSets$Words") (T := T_Wo) (N := 6) hx hb hG in_Wo hown hK hP 0 rfl rfl 1 (Nat.le_of_ble_eq_true rfl) (hG _ mw_42) (fun _ h9 => h9) rfl d_Wo_split_62 ?_
  refine lv_aload_n hx hb d_Wo_split_65 rfl (lv_at hl 0 rfl) ?_
  refine va_get (D := (dC, dI)) (ci := 5) (v := .int f_length) (C := "LeanSets$Words") (T := T_Wo) (N := 6) hx hb hG in_Wo hown hK hP 0 rfl rfl 1 (Nat.le_of_ble_eq_true rfl) (hG _ mw_42) (fun _ h9 => h9) rfl d_Wo_split_66 ?_
  have hPc := hP.sub (ws' := [(h_this, .inr (5, [.ref h_text, .int f_length, .ref h_kinds, .ref h_places, .ref h_numbers, .int f_words])), (h_kinds, .inl (cI, 601, .inl f_kinds)), (h_places, .inl (cI, 601, .inl f_places)), (h_text, .inl (cC, 600, .inl f_text)), (h_numbers, .inl (cI, 601, .inl f_numbers))]) [0, 2, 3, 1, 4] rfl
  have hDc := hD.sub (ws' := [(h_this, .inr (5, [.ref h_text, .int f_length, .ref h_kinds, .ref h_places, .ref h_numbers, .int f_words])), (h_kinds, .inl (cI, 601, .inl f_kinds)), (h_places, .inl (cI, 601, .inl f_places)), (h_text, .inl (cC, 600, .inl f_text)), (h_numbers, .inl (cI, 601, .inl f_numbers))]) [0, 2, 3, 1, 4] (by decide) rfl
  have hFc := va_free (wc := [(h_this, .inr (5, [.ref h_text, .int f_length, .ref h_kinds, .ref h_places, .ref h_numbers, .int f_words])), (h_kinds, .inl (cI, 601, .inl f_kinds)), (h_places, .inl (cI, 601, .inl f_places)), (h_text, .inl (cC, 600, .inl f_text)), (h_numbers, .inl (cI, 601, .inl f_numbers))]) hD hS hA [0, 2, 3, 1, 4] rfl
  refine va_callv (va_runV (As := [.int (11 : Int32), .int f_length, .int f_length]) (rest := []) ⟨hx, hb, hml, hown, hG⟩ (c_Wo_keep l dC dI cI cJ cC h_this h_kinds h_places h_text h_numbers f_length f_text _ (11 : Int32) f_length f_length f_words f_kinds f_places f_numbers H.size h) (gx_cwV (own := "LeanSets$Words") 3 hG mw_342 mw_344 ms_Wo_keep mw_3 mw_345 (by decide +kernel) ⟨Nat.le_of_ble_eq_true rfl, Nat.le_of_ble_eq_true rfl⟩) ⟨fun a U g mk q => by obtain ⟨q0, q1, qP, qK, qD⟩ := q; exact ⟨q0, q1, qP, gx_K.same (u := U) (U := U.calling g mk a) rfl qK, qD⟩, va_recv hK hPc (ci := 5) (q0 := 0) rfl rfl, fun U hU hW => ⟨rfl, by rw [hU], by rw [hU]; exact hPc, gx_K.moved hW hN, hDc.weaken (fun _ _ _ _ => trivial)⟩⟩ rfl rfl hl.1 rfl (lv_room (Nat.le_of_ble_eq_true rfl)) d_Wo_split_69 ⟨Nat.le_of_ble_eq_true rfl, Nat.le_of_ble_eq_true rfl⟩) hS (fun q _ h => hFc q h) hFc (fun u t H1 locs ht hvm hw hB hz1 hk1 hS => ?_)
  obtain ⟨f_words_69, f_kinds_69, f_places_69, f_numbers_69⟩ := u
  obtain ⟨hP1, hD1⟩ := hB
  rw [ht] at hP1
  obtain ⟨hP, hD⟩ := va_join (wr := []) (w1 := [(h_this, .inr (5, [.ref h_text, .int f_length, .ref h_kinds, .ref h_places, .ref h_numbers, .int f_words_69])), (h_kinds, .inl (cI, 601, .inl f_kinds_69)), (h_places, .inl (cI, 601, .inl f_places_69)), (h_text, .inl (cC, 600, .inl f_text)), (h_numbers, .inl (cI, 601, .inl f_numbers_69))]) hP hD [0, 2, 3, 1, 4] [] rfl rfl (by decide) (by decide) hk1 hFc hP1 hD1
  clear hPc hDc hFc hk1 hP1 hD1 ht hvm
  generalize H1 = H at hP hS ⊢
  have hP := hP.sub (ws' := [(h_this, .inr (5, [.ref h_text, .int f_length, .ref h_kinds, .ref h_places, .ref h_numbers, .int f_words_69])), (h_text, .inl (cC, 600, .inl f_text)), (h_kinds, .inl (cI, 601, .inl f_kinds_69)), (h_places, .inl (cI, 601, .inl f_places_69)), (h_numbers, .inl (cI, 601, .inl f_numbers_69))]) [0, 3, 1, 2, 4] rfl
  have hD := hD.sub (ws' := [(h_this, .inr (5, [.ref h_text, .int f_length, .ref h_kinds, .ref h_places, .ref h_numbers, .int f_words_69])), (h_text, .inl (cC, 600, .inl f_text)), (h_kinds, .inl (cI, 601, .inl f_kinds_69)), (h_places, .inl (cI, 601, .inl f_places_69)), (h_numbers, .inl (cI, 601, .inl f_numbers_69))]) [0, 3, 1, 2, 4] (by decide) rfl
  have h := hw
  try dsimp only at h
  exact W.vret hx hb hr (fun t ht hW => ⟨⟨(f_words_69, f_kinds_69, f_places_69, f_numbers_69), rfl, h, by rw [ht]; exact hP, hD⟩, hS.F ht⟩) hS.2.2 d_Wo_split_72 hlocks
def wp_Wo_split_13 (f_length : Int32) (f_text : Nat → Int32) (post : Int32 → (Nat → Int32) → (Nat → Int32) → (Nat → Int32) → Prop)  : Nat → Int32 → Int32 → Int32 → (Nat → Int32) → (Nat → Int32) → (Nat → Int32) → Prop
  | 0, _, _, _, _, _, _ => False
  | n + 1, x1, x2, f_words, f_kinds, f_places, f_numbers => (((600 : Int32) ≤ x2) → (wp_Wo_split_58 f_length f_text post f_words f_kinds f_places f_numbers)) ∧ ((¬ ((600 : Int32) ≤ x2)) → (((f_length ≤ x1) → (wp_Wo_split_58 f_length f_text post f_words f_kinds f_places f_numbers)) ∧ ((¬ (f_length ≤ x1)) → (wp_Wo_endOfWord_0 f_length f_text (fun (r30 : Int32) => wp_Wo_kindOf_0 f_text (fun (r38 : Int32) => wp_Wo_keep_0 f_text (fun (f_words_43 : Int32) (f_kinds_43 : Nat → Int32) (f_places_43 : Nat → Int32) (f_numbers_43 : Nat → Int32) => wp_Wo_firstBehindBlanks_0 f_length f_text (fun (r48 : Int32) => wp_Wo_split_13 f_length f_text post n r48 (x2 + (1 : Int32)) f_words_43 f_kinds_43 f_places_43 f_numbers_43) r30) r38 x1 r30 f_words f_kinds f_places f_numbers) x1 r30) x1))))
set_option maxHeartbeats 4000000 in
set_option maxRecDepth 100000 in
theorem wk_Wo_split_13 {p : Program} {l : Launch} {e : Env} {s : State} {m : MethodId} {args : Array Value} {below : List Frame} {meth : Method} {c : Code} (dC : Nat → ClassId) (dI : Nat → Nat → Nat) (cI cJ cC : ClassId) (A : Nat → Prop) (hA : ∀ q : Nat, s.heap.size ≤ q → A q) (C0 : gx_C p s m meth c args "LeanSets$Words" prog_7_method_3_code 4 (Option.none : Option Jvm.ClassFile.FieldType)) (hN : gx_K dC dI cI cJ cC s) (adK adV : Nat → Nat) (hZ : gx_Z adK adV A s)  (h_this h_text h_kinds h_places h_numbers : Nat) (f_length : Int32) (f_text : Nat → Int32) (post : Int32 → (Nat → Int32) → (Nat → Int32) → (Nat → Int32) → Prop)   : ∀ (n : Nat) (x1 : Int32) (x2 : Int32) (f_words : Int32) (f_kinds : Nat → Int32) (f_places : Nat → Int32) (f_numbers : Nat → Int32), wp_Wo_split_13 f_length f_text post n x1 x2 f_words f_kinds f_places f_numbers → ∀ (H : Heap) (locs : List Loc) (ls : Array Slot), va_P (dC, dI) classes [(h_this, .inr (5, [.ref h_text, .int f_length, .ref h_kinds, .ref h_places, .ref h_numbers, .int f_words])), (h_text, .inl (cC, 600, .inl f_text)), (h_kinds, .inl (cI, 601, .inl f_kinds)), (h_places, .inl (cI, 601, .inl f_places)), (h_numbers, .inl (cI, 601, .inl f_numbers))] H → va_D A [(h_this, .inr (5, [.ref h_text, .int f_length, .ref h_kinds, .ref h_places, .ref h_numbers, .int f_words])), (h_text, .inl (cC, 600, .inl f_text)), (h_kinds, .inl (cI, 601, .inl f_kinds)), (h_places, .inl (cI, 601, .inl f_places)), (h_numbers, .inl (cI, 601, .inl f_numbers))] → va_S A s.heap H locs → lv_has ls 4 [(0, .ref h_this), (1, .int x1), (2, .int x2)] → W p l e { frames := 7, cells := 0, slots := 0, locals := 153 } s m args below meth c H locs 0 0 (MQ below (va_Qv (fun (u : Int32 × (Nat → Int32) × (Nat → Int32) × (Nat → Int32)) => post u.1 u.2.1 u.2.2.1 u.2.2.2) (fun (u : Int32 × (Nat → Int32) × (Nat → Int32) × (Nat → Int32)) (t : State) => va_P (dC, dI) classes [(h_this, .inr (5, [.ref h_text, .int f_length, .ref h_kinds, .ref h_places, .ref h_numbers, .int u.1])), (h_text, .inl (cC, 600, .inl f_text)), (h_kinds, .inl (cI, 601, .inl u.2.1)), (h_places, .inl (cI, 601, .inl u.2.2.1)), (h_numbers, .inl (cI, 601, .inl u.2.2.2))] t.heap ∧ va_D A [(h_this, .inr (5, [.ref h_text, .int f_length, .ref h_kinds, .ref h_places, .ref h_numbers, .int u.1])), (h_text, .inl (cC, 600, .inl f_text)), (h_kinds, .inl (cI, 601, .inl u.2.1)), (h_places, .inl (cI, 601, .inl u.2.2.1)), (h_numbers, .inl (cI, 601, .inl u.2.2.2))]) A) args s 0 0 A) (F0 m 13 ls []) := by
  obtain ⟨hx, hb, hr, hml, hown, hlocks, hG⟩ := id C0
  have hK := hN.1
  intro n
  induction n with
  | zero =>
    intro x1 x2 f_words f_kinds f_places f_numbers h
    exact absurd h (by rw [wp_Wo_split_13]; exact id)
  | succ n ih =>
    intro x1 x2 f_words f_kinds f_places f_numbers h H locs ls hP hD hS hl
    rw [wp_Wo_split_13] at h
    refine lv_iload_n hx hb d_Wo_split_13 rfl (lv_at hl 2 rfl) ?_
    refine lv_sipush (v := 600) hx hb d_Wo_split_14 (by decide) ?_
    refine lv_icmp_ge (tgt := 58) hx hb d_Wo_split_17 (by decide) (fun c_ => ?_) (fun c_ => ?_)
    · have h := h.1 c_
      exact wk_Wo_split_58 dC dI cI cJ cC A hA C0 hN adK adV hZ h_this h_text h_kinds h_places h_numbers f_length f_text post   f_words f_kinds f_places f_numbers h _ _ _ hP hD hS (lv_sub hl [0] rfl)
    · have h := h.2 c_
      refine lv_iload_n hx hb d_Wo_split_20 rfl (lv_at hl 1 rfl) ?_
      refine lv_aload_n hx hb d_Wo_split_21 rfl (lv_at hl 0 rfl) ?_
      refine va_get (D := (dC, dI)) (ci := 5) (v := .int f_length) (C := "LeanSets$Words") (T := T_Wo) (N := 6) hx hb hG in_Wo hown hK hP 0 rfl rfl 1 (Nat.le_of_ble_eq_true rfl) (hG _ mw_42) (fun _ h9 => h9) rfl d_Wo_split_22 ?_
      refine lv_icmp_ge (tgt := 58) hx hb d_Wo_split_25 (by decide) (fun c_ => ?_) (fun c_ => ?_)
      · have h := h.1 c_
        exact wk_Wo_split_58 dC dI cI cJ cC A hA C0 hN adK adV hZ h_this h_text h_kinds h_places h_numbers f_length f_text post   f_words f_kinds f_places f_numbers h _ _ _ hP hD hS (lv_sub hl [0] rfl)
      · have h := h.2 c_
        refine lv_aload_n hx hb d_Wo_split_28 rfl (lv_at hl 0 rfl) ?_
        refine lv_iload_n hx hb d_Wo_split_29 rfl (lv_at hl 1 rfl) ?_
        have hPc := hP.sub (ws' := [(h_this, .inr (5, [.ref h_text, .int f_length, .ref h_kinds, .ref h_places, .ref h_numbers, .int f_words])), (h_text, .inl (cC, 600, .inl f_text))]) [0, 1] rfl
        have hDc := hD.sub (ws' := [(h_this, .inr (5, [.ref h_text, .int f_length, .ref h_kinds, .ref h_places, .ref h_numbers, .int f_words])), (h_text, .inl (cC, 600, .inl f_text))]) [0, 1] (by decide) rfl
        have hFc := va_free (wc := [(h_this, .inr (5, [.ref h_text, .int f_length, .ref h_kinds, .ref h_places, .ref h_numbers, .int f_words])), (h_text, .inl (cC, 600, .inl f_text))]) hD hS hA [0, 1] rfl
        refine va_calli (va_runV (As := [.int x1]) (rest := []) ⟨hx, hb, hml, hown, hG⟩ (c_Wo_endOfWord l dC dI cI cJ cC h_this h_text h_kinds h_places h_numbers f_words f_length f_text _ x1 H.size h) (gx_cwV (own := "LeanSets$Words") 1 hG mw_268 mw_270 ms_Wo_endOfWord mw_3 mw_271 (by decide +kernel) ⟨Nat.le_of_ble_eq_true rfl, Nat.le_of_ble_eq_true rfl⟩) ⟨fun a U g mk q => by obtain ⟨q0, q1, qP, qK, qD⟩ := q; exact ⟨q0, q1, qP, gx_K.same (u := U) (U := U.calling g mk a) rfl qK, qD⟩, va_recv hK hPc (ci := 5) (q0 := 0) rfl rfl, fun U hU hW => ⟨rfl, by rw [hU], by rw [hU]; exact hPc, gx_K.moved hW hN, hDc.weaken (fun _ _ _ _ => trivial)⟩⟩ rfl rfl hl.1 rfl (lv_room (Nat.le_of_ble_eq_true rfl)) d_Wo_split_30 ⟨Nat.le_of_ble_eq_true rfl, Nat.le_of_ble_eq_true rfl⟩) hS (fun q _ h => hFc q h) hFc (fun r30 u t H1 locs ht hvm hw hB hz1 hk1 hS => ?_)
        obtain ⟨hP1, hD1⟩ := hB
        rw [ht] at hP1
        obtain ⟨hP, hD⟩ := va_join (wr := [(h_kinds, .inl (cI, 601, .inl f_kinds)), (h_places, .inl (cI, 601, .inl f_places)), (h_numbers, .inl (cI, 601, .inl f_numbers))]) (w1 := [(h_this, .inr (5, [.ref h_text, .int f_length, .ref h_kinds, .ref h_places, .ref h_numbers, .int f_words])), (h_text, .inl (cC, 600, .inl f_text))]) hP hD [0, 1] [2, 3, 4] rfl rfl (by decide) (by decide) hk1 hFc hP1 hD1
        clear hPc hDc hFc hk1 hP1 hD1 ht hvm
        generalize H1 = H at hP hS ⊢
        have hP := hP.sub (ws' := [(h_this, .inr (5, [.ref h_text, .int f_length, .ref h_kinds, .ref h_places, .ref h_numbers, .int f_words])), (h_text, .inl (cC, 600, .inl f_text)), (h_kinds, .inl (cI, 601, .inl f_kinds)), (h_places, .inl (cI, 601, .inl f_places)), (h_numbers, .inl (cI, 601, .inl f_numbers))]) [3, 4, 0, 1, 2] rfl
        have hD := hD.sub (ws' := [(h_this, .inr (5, [.ref h_text, .int f_length, .ref h_kinds, .ref h_places, .ref h_numbers, .int f_words])), (h_text, .inl (cC, 600, .inl f_text)), (h_kinds, .inl (cI, 601, .inl f_kinds)), (h_places, .inl (cI, 601, .inl f_places)), (h_numbers, .inl (cI, 601, .inl f_numbers))]) [3, 4, 0, 1, 2] (by decide) rfl
        have h := hw
        try dsimp only at h
        refine lv_istore_n (lv' := [(3, .int r30), (0, .ref h_this), (1, .int x1), (2, .int x2)]) hx hb d_Wo_split_33 rfl hl (by decide) rfl (fun ls hl => ?_)
        refine lv_aload_n hx hb d_Wo_split_34 rfl (lv_at hl 1 rfl) ?_
        refine lv_aload_n hx hb d_Wo_split_35 rfl (lv_at hl 1 rfl) ?_
        refine lv_iload_n hx hb d_Wo_split_36 rfl (lv_at hl 2 rfl) ?_
        refine lv_iload_n hx hb d_Wo_split_37 rfl (lv_at hl 0 rfl) ?_
        have hPc := hP.sub (ws' := [(h_this, .inr (5, [.ref h_text, .int f_length, .ref h_kinds, .ref h_places, .ref h_numbers, .int f_words])), (h_text, .inl (cC, 600, .inl f_text))]) [0, 1] rfl
        have hDc := hD.sub (ws' := [(h_this, .inr (5, [.ref h_text, .int f_length, .ref h_kinds, .ref h_places, .ref h_numbers, .int f_words])), (h_text, .inl (cC, 600, .inl f_text))]) [0, 1] (by decide) rfl
        have hFc := va_free (wc := [(h_this, .inr (5, [.ref h_text, .int f_length, .ref h_kinds, .ref h_places, .ref h_numbers, .int f_words])), (h_text, .inl (cC, 600, .inl f_text))]) hD hS hA [0, 1] rfl
        refine va_calli (va_runV (As := [.int x1, .int r30]) (rest := [.ref h_this]) ⟨hx, hb, hml, hown, hG⟩ (c_Wo_kindOf l dC dI cI cJ cC adK adV h_this h_text h_kinds h_places h_numbers f_length f_words f_text _ x1 r30 H.size h) (gx_cwV (own := "LeanSets$Words") 2 hG mw_278 mw_280 ms_Wo_kindOf mw_3 mw_281 (by decide +kernel) ⟨Nat.le_of_ble_eq_true rfl, Nat.le_of_ble_eq_true rfl⟩) ⟨fun a U g mk q => by obtain ⟨q0, q1, qP, qK, qD, qZ⟩ := q; exact ⟨q0, q1, qP, gx_K.same (u := U) (U := U.calling g mk a) rfl qK, qD, gx_Z.same (u := U) (U := U.calling g mk a) rfl rfl qZ⟩, va_recv hK hPc (ci := 5) (q0 := 0) rfl rfl, fun U hU hW => ⟨rfl, by rw [hU], by rw [hU]; exact hPc, gx_K.moved hW hN, hDc.weaken (fun _ _ _ _ => trivial), hZ.step hS hU hW hFc⟩⟩ rfl rfl hl.1 rfl (lv_room (Nat.le_of_ble_eq_true rfl)) d_Wo_split_38 ⟨Nat.le_of_ble_eq_true rfl, Nat.le_of_ble_eq_true rfl⟩) hS (fun q _ h => hFc q h) hFc (fun r38 u t H1 locs ht hvm hw hB hz1 hk1 hS => ?_)
        obtain ⟨hP1, hD1⟩ := hB
        rw [ht] at hP1
        obtain ⟨hP, hD⟩ := va_join (wr := [(h_kinds, .inl (cI, 601, .inl f_kinds)), (h_places, .inl (cI, 601, .inl f_places)), (h_numbers, .inl (cI, 601, .inl f_numbers))]) (w1 := [(h_this, .inr (5, [.ref h_text, .int f_length, .ref h_kinds, .ref h_places, .ref h_numbers, .int f_words])), (h_text, .inl (cC, 600, .inl f_text))]) hP hD [0, 1] [2, 3, 4] rfl rfl (by decide) (by decide) hk1 hFc hP1 hD1
        clear hPc hDc hFc hk1 hP1 hD1 ht hvm
        generalize H1 = H at hP hS ⊢
        have hP := hP.sub (ws' := [(h_this, .inr (5, [.ref h_text, .int f_length, .ref h_kinds, .ref h_places, .ref h_numbers, .int f_words])), (h_text, .inl (cC, 600, .inl f_text)), (h_kinds, .inl (cI, 601, .inl f_kinds)), (h_places, .inl (cI, 601, .inl f_places)), (h_numbers, .inl (cI, 601, .inl f_numbers))]) [3, 4, 0, 1, 2] rfl
        have hD := hD.sub (ws' := [(h_this, .inr (5, [.ref h_text, .int f_length, .ref h_kinds, .ref h_places, .ref h_numbers, .int f_words])), (h_text, .inl (cC, 600, .inl f_text)), (h_kinds, .inl (cI, 601, .inl f_kinds)), (h_places, .inl (cI, 601, .inl f_places)), (h_numbers, .inl (cI, 601, .inl f_numbers))]) [3, 4, 0, 1, 2] (by decide) rfl
        have h := hw
        try dsimp only at h
        refine lv_iload_n hx hb d_Wo_split_41 rfl (lv_at hl 2 rfl) ?_
        refine lv_iload_n hx hb d_Wo_split_42 rfl (lv_at hl 0 rfl) ?_
        have hPc := hP.sub (ws' := [(h_this, .inr (5, [.ref h_text, .int f_length, .ref h_kinds, .ref h_places, .ref h_numbers, .int f_words])), (h_kinds, .inl (cI, 601, .inl f_kinds)), (h_places, .inl (cI, 601, .inl f_places)), (h_text, .inl (cC, 600, .inl f_text)), (h_numbers, .inl (cI, 601, .inl f_numbers))]) [0, 2, 3, 1, 4] rfl
        have hDc := hD.sub (ws' := [(h_this, .inr (5, [.ref h_text, .int f_length, .ref h_kinds, .ref h_places, .ref h_numbers, .int f_words])), (h_kinds, .inl (cI, 601, .inl f_kinds)), (h_places, .inl (cI, 601, .inl f_places)), (h_text, .inl (cC, 600, .inl f_text)), (h_numbers, .inl (cI, 601, .inl f_numbers))]) [0, 2, 3, 1, 4] (by decide) rfl
        have hFc := va_free (wc := [(h_this, .inr (5, [.ref h_text, .int f_length, .ref h_kinds, .ref h_places, .ref h_numbers, .int f_words])), (h_kinds, .inl (cI, 601, .inl f_kinds)), (h_places, .inl (cI, 601, .inl f_places)), (h_text, .inl (cC, 600, .inl f_text)), (h_numbers, .inl (cI, 601, .inl f_numbers))]) hD hS hA [0, 2, 3, 1, 4] rfl
        refine va_callv (va_runV (As := [.int r38, .int x1, .int r30]) (rest := []) ⟨hx, hb, hml, hown, hG⟩ (c_Wo_keep l dC dI cI cJ cC h_this h_kinds h_places h_text h_numbers f_length f_text _ r38 x1 r30 f_words f_kinds f_places f_numbers H.size h) (gx_cwV (own := "LeanSets$Words") 3 hG mw_342 mw_344 ms_Wo_keep mw_3 mw_345 (by decide +kernel) ⟨Nat.le_of_ble_eq_true rfl, Nat.le_of_ble_eq_true rfl⟩) ⟨fun a U g mk q => by obtain ⟨q0, q1, qP, qK, qD⟩ := q; exact ⟨q0, q1, qP, gx_K.same (u := U) (U := U.calling g mk a) rfl qK, qD⟩, va_recv hK hPc (ci := 5) (q0 := 0) rfl rfl, fun U hU hW => ⟨rfl, by rw [hU], by rw [hU]; exact hPc, gx_K.moved hW hN, hDc.weaken (fun _ _ _ _ => trivial)⟩⟩ rfl rfl hl.1 rfl (lv_room (Nat.le_of_ble_eq_true rfl)) d_Wo_split_43 ⟨Nat.le_of_ble_eq_true rfl, Nat.le_of_ble_eq_true rfl⟩) hS (fun q _ h => hFc q h) hFc (fun u t H1 locs ht hvm hw hB hz1 hk1 hS => ?_)
        obtain ⟨f_words_43, f_kinds_43, f_places_43, f_numbers_43⟩ := u
        obtain ⟨hP1, hD1⟩ := hB
        rw [ht] at hP1
        obtain ⟨hP, hD⟩ := va_join (wr := []) (w1 := [(h_this, .inr (5, [.ref h_text, .int f_length, .ref h_kinds, .ref h_places, .ref h_numbers, .int f_words_43])), (h_kinds, .inl (cI, 601, .inl f_kinds_43)), (h_places, .inl (cI, 601, .inl f_places_43)), (h_text, .inl (cC, 600, .inl f_text)), (h_numbers, .inl (cI, 601, .inl f_numbers_43))]) hP hD [0, 2, 3, 1, 4] [] rfl rfl (by decide) (by decide) hk1 hFc hP1 hD1
        clear hPc hDc hFc hk1 hP1 hD1 ht hvm
        generalize H1 = H at hP hS ⊢
        have hP := hP.sub (ws' := [(h_this, .inr (5, [.ref h_text, .int f_length, .ref h_kinds, .ref h_places, .ref h_numbers, .int f_words_43])), (h_text, .inl (cC, 600, .inl f_text)), (h_kinds, .inl (cI, 601, .inl f_kinds_43)), (h_places, .inl (cI, 601, .inl f_places_43)), (h_numbers, .inl (cI, 601, .inl f_numbers_43))]) [0, 3, 1, 2, 4] rfl
        have hD := hD.sub (ws' := [(h_this, .inr (5, [.ref h_text, .int f_length, .ref h_kinds, .ref h_places, .ref h_numbers, .int f_words_43])), (h_text, .inl (cC, 600, .inl f_text)), (h_kinds, .inl (cI, 601, .inl f_kinds_43)), (h_places, .inl (cI, 601, .inl f_places_43)), (h_numbers, .inl (cI, 601, .inl f_numbers_43))]) [0, 3, 1, 2, 4] (by decide) rfl
        have h := hw
        try dsimp only at h
        refine lv_aload_n hx hb d_Wo_split_46 rfl (lv_at hl 1 rfl) ?_
        refine lv_iload_n hx hb d_Wo_split_47 rfl (lv_at hl 0 rfl) ?_
        have hPc := hP.sub (ws' := [(h_this, .inr (5, [.ref h_text, .int f_length, .ref h_kinds, .ref h_places, .ref h_numbers, .int f_words_43])), (h_text, .inl (cC, 600, .inl f_text))]) [0, 1] rfl
        have hDc := hD.sub (ws' := [(h_this, .inr (5, [.ref h_text, .int f_length, .ref h_kinds, .ref h_places, .ref h_numbers, .int f_words_43])), (h_text, .inl (cC, 600, .inl f_text))]) [0, 1] (by decide) rfl
        have hFc := va_free (wc := [(h_this, .inr (5, [.ref h_text, .int f_length, .ref h_kinds, .ref h_places, .ref h_numbers, .int f_words_43])), (h_text, .inl (cC, 600, .inl f_text))]) hD hS hA [0, 1] rfl
        refine va_calli (va_runV (As := [.int r30]) (rest := []) ⟨hx, hb, hml, hown, hG⟩ (c_Wo_firstBehindBlanks l dC dI cI cJ cC h_this h_text h_kinds h_places h_numbers f_words_43 f_length f_text _ r30 H.size h) (gx_cwV (own := "LeanSets$Words") 1 hG mw_264 mw_266 ms_Wo_firstBehindBlanks mw_3 mw_267 (by decide +kernel) ⟨Nat.le_of_ble_eq_true rfl, Nat.le_of_ble_eq_true rfl⟩) ⟨fun a U g mk q => by obtain ⟨q0, q1, qP, qK, qD⟩ := q; exact ⟨q0, q1, qP, gx_K.same (u := U) (U := U.calling g mk a) rfl qK, qD⟩, va_recv hK hPc (ci := 5) (q0 := 0) rfl rfl, fun U hU hW => ⟨rfl, by rw [hU], by rw [hU]; exact hPc, gx_K.moved hW hN, hDc.weaken (fun _ _ _ _ => trivial)⟩⟩ rfl rfl hl.1 rfl (lv_room (Nat.le_of_ble_eq_true rfl)) d_Wo_split_48 ⟨Nat.le_of_ble_eq_true rfl, Nat.le_of_ble_eq_true rfl⟩) hS (fun q _ h => hFc q h) hFc (fun r48 u t H1 locs ht hvm hw hB hz1 hk1 hS => ?_)
        obtain ⟨hP1, hD1⟩ := hB
        rw [ht] at hP1
        obtain ⟨hP, hD⟩ := va_join (wr := [(h_kinds, .inl (cI, 601, .inl f_kinds_43)), (h_places, .inl (cI, 601, .inl f_places_43)), (h_numbers, .inl (cI, 601, .inl f_numbers_43))]) (w1 := [(h_this, .inr (5, [.ref h_text, .int f_length, .ref h_kinds, .ref h_places, .ref h_numbers, .int f_words_43])), (h_text, .inl (cC, 600, .inl f_text))]) hP hD [0, 1] [2, 3, 4] rfl rfl (by decide) (by decide) hk1 hFc hP1 hD1
        clear hPc hDc hFc hk1 hP1 hD1 ht hvm
        generalize H1 = H at hP hS ⊢
        have hP := hP.sub (ws' := [(h_this, .inr (5, [.ref h_text, .int f_length, .ref h_kinds, .ref h_places, .ref h_numbers, .int f_words_43])), (h_text, .inl (cC, 600, .inl f_text)), (h_kinds, .inl (cI, 601, .inl f_kinds_43)), (h_places, .inl (cI, 601, .inl f_places_43)), (h_numbers, .inl (cI, 601, .inl f_numbers_43))]) [3, 4, 0, 1, 2] rfl
        have hD := hD.sub (ws' := [(h_this, .inr (5, [.ref h_text, .int f_length, .ref h_kinds, .ref h_places, .ref h_numbers, .int f_words_43])), (h_text, .inl (cC, 600, .inl f_text)), (h_kinds, .inl (cI, 601, .inl f_kinds_43)), (h_places, .inl (cI, 601, .inl f_places_43)), (h_numbers, .inl (cI, 601, .inl f_numbers_43))]) [3, 4, 0, 1, 2] (by decide) rfl
        have h := hw
        try dsimp only at h
        refine lv_istore_n (lv' := [(1, .int r48), (3, .int r30), (0, .ref h_this), (2, .int x2)]) hx hb d_Wo_split_51 rfl hl (by decide) rfl (fun ls hl => ?_)
        refine lv_iinc (v := (x2 + (1 : Int32))) (lv' := [(2, .int (x2 + (1 : Int32))), (1, .int r48), (3, .int r30), (0, .ref h_this)]) hx hb d_Wo_split_52 hl (k := 3) rfl rfl (by decide) rfl (fun ls hl => ?_)
        refine lv_goto (tgt := 13) hx hb d_Wo_split_55 (by decide) ?_
        exact ih r48 (x2 + (1 : Int32)) f_words_43 f_kinds_43 f_places_43 f_numbers_43 h _ _ _ hP hD hS (lv_sub hl [3, 1, 0] rfl)
def wp_Wo_split_0 (f_length : Int32) (f_text : Nat → Int32) (post : Int32 → (Nat → Int32) → (Nat → Int32) → (Nat → Int32) → Prop)  (f_words : Int32) (f_kinds : Nat → Int32) (f_places : Nat → Int32) (f_numbers : Nat → Int32) : Prop := wp_Wo_firstBehindBlanks_0 f_length f_text (fun (r7 : Int32) => ∃ n_ : Nat, wp_Wo_split_13 f_length f_text post n_ r7 (0 : Int32) (0 : Int32) f_kinds f_places f_numbers) (0 : Int32)
set_option maxHeartbeats 4000000 in
set_option maxRecDepth 100000 in
theorem wk_Wo_split_0 {p : Program} {l : Launch} {e : Env} {s : State} {m : MethodId} {args : Array Value} {below : List Frame} {meth : Method} {c : Code} (dC : Nat → ClassId) (dI : Nat → Nat → Nat) (cI cJ cC : ClassId) (A : Nat → Prop) (hA : ∀ q : Nat, s.heap.size ≤ q → A q) (C0 : gx_C p s m meth c args "LeanSets$Words" prog_7_method_3_code 4 (Option.none : Option Jvm.ClassFile.FieldType)) (hN : gx_K dC dI cI cJ cC s) (adK adV : Nat → Nat) (hZ : gx_Z adK adV A s)  (h_this h_text h_kinds h_places h_numbers : Nat) (f_length : Int32) (f_text : Nat → Int32) (post : Int32 → (Nat → Int32) → (Nat → Int32) → (Nat → Int32) → Prop)   : ∀ (f_words : Int32) (f_kinds : Nat → Int32) (f_places : Nat → Int32) (f_numbers : Nat → Int32), wp_Wo_split_0 f_length f_text post f_words f_kinds f_places f_numbers → ∀ (H : Heap) (locs : List Loc) (ls : Array Slot), va_P (dC, dI) classes [(h_this, .inr (5, [.ref h_text, .int f_length, .ref h_kinds, .ref h_places, .ref h_numbers, .int f_words])), (h_text, .inl (cC, 600, .inl f_text)), (h_kinds, .inl (cI, 601, .inl f_kinds)), (h_places, .inl (cI, 601, .inl f_places)), (h_numbers, .inl (cI, 601, .inl f_numbers))] H → va_D A [(h_this, .inr (5, [.ref h_text, .int f_length, .ref h_kinds, .ref h_places, .ref h_numbers, .int f_words])), (h_text, .inl (cC, 600, .inl f_text)), (h_kinds, .inl (cI, 601, .inl f_kinds)), (h_places, .inl (cI, 601, .inl f_places)), (h_numbers, .inl (cI, 601, .inl f_numbers))] → va_S A s.heap H locs → lv_has ls 4 [(0, .ref h_this)] → W p l e { frames := 7, cells := 0, slots := 0, locals := 153 } s m args below meth c H locs 0 0 (MQ below (va_Qv (fun (u : Int32 × (Nat → Int32) × (Nat → Int32) × (Nat → Int32)) => post u.1 u.2.1 u.2.2.1 u.2.2.2) (fun (u : Int32 × (Nat → Int32) × (Nat → Int32) × (Nat → Int32)) (t : State) => va_P (dC, dI) classes [(h_this, .inr (5, [.ref h_text, .int f_length, .ref h_kinds, .ref h_places, .ref h_numbers, .int u.1])), (h_text, .inl (cC, 600, .inl f_text)), (h_kinds, .inl (cI, 601, .inl u.2.1)), (h_places, .inl (cI, 601, .inl u.2.2.1)), (h_numbers, .inl (cI, 601, .inl u.2.2.2))] t.heap ∧ va_D A [(h_this, .inr (5, [.ref h_text, .int f_length, .ref h_kinds, .ref h_places, .ref h_numbers, .int u.1])), (h_text, .inl (cC, 600, .inl f_text)), (h_kinds, .inl (cI, 601, .inl u.2.1)), (h_places, .inl (cI, 601, .inl u.2.2.1)), (h_numbers, .inl (cI, 601, .inl u.2.2.2))]) A) args s 0 0 A) (F0 m 0 ls []) := by
  obtain ⟨hx, hb, hr, hml, hown, hlocks, hG⟩ := id C0
  have hK := hN.1
  intro f_words f_kinds f_places f_numbers h H locs ls hP hD hS hl
  rw [wp_Wo_split_0] at h
  refine lv_aload_n hx hb d_Wo_split_0 rfl (lv_at hl 0 rfl) ?_
  refine lv_iconst (v := 0) hx hb d_Wo_split_1 (by decide) ?_
  refine va_put (D := (dC, dI)) (ci := 5) (v := .int (0 : Int32)) (ty := .int) (C := "LeanSets$Words") (T := T_Wo) (N := 6) hx hb hG in_Wo ty_Wo ty_Wo_ok nm_Wo hown hK hP hD hS 0 rfl rfl 5 (Nat.le_of_ble_eq_true rfl) (hG _ mw_50) (fun _ h9 => h9) rfl (ty_Wo_ok 5 (Nat.le_of_ble_eq_true rfl)) rfl rfl (Nat.le_of_ble_eq_true rfl) d_Wo_split_2 (fun H locs hP hD hS => ?_)
  have hP : va_P (dC, dI) classes [(h_this, .inr (5, [.ref h_text, .int f_length, .ref h_kinds, .ref h_places, .ref h_numbers, .int (0 : Int32)])), (h_text, .inl (cC, 600, .inl f_text)), (h_kinds, .inl (cI, 601, .inl f_kinds)), (h_places, .inl (cI, 601, .inl f_places)), (h_numbers, .inl (cI, 601, .inl f_numbers))] H := hP
  have hD : va_D A [(h_this, .inr (5, [.ref h_text, .int f_length, .ref h_kinds, .ref h_places, .ref h_numbers, .int (0 : Int32)])), (h_text, .inl (cC, 600, .inl f_text)), (h_kinds, .inl (cI, 601, .inl f_kinds)), (h_places, .inl (cI, 601, .inl f_places)), (h_numbers, .inl (cI, 601, .inl f_numbers))] := hD
  refine lv_aload_n hx hb d_Wo_split_5 rfl (lv_at hl 0 rfl) ?_
  refine lv_iconst (v := 0) hx hb d_Wo_split_6 (by decide) ?_
  have hPc := hP.sub (ws' := [(h_this, .inr (5, [.ref h_text, .int f_length, .ref h_kinds, .ref h_places, .ref h_numbers, .int (0 : Int32)])), (h_text, .inl (cC, 600, .inl f_text))]) [0, 1] rfl
  have hDc := hD.sub (ws' := [(h_this, .inr (5, [.ref h_text, .int f_length, .ref h_kinds, .ref h_places, .ref h_numbers, .int (0 : Int32)])), (h_text, .inl (cC, 600, .inl f_text))]) [0, 1] (by decide) rfl
  have hFc := va_free (wc := [(h_this, .inr (5, [.ref h_text, .int f_length, .ref h_kinds, .ref h_places, .ref h_numbers, .int (0 : Int32)])), (h_text, .inl (cC, 600, .inl f_text))]) hD hS hA [0, 1] rfl
  refine va_calli (va_runV (As := [.int (0 : Int32)]) (rest := []) ⟨hx, hb, hml, hown, hG⟩ (c_Wo_firstBehindBlanks l dC dI cI cJ cC h_this h_text h_kinds h_places h_numbers (0 : Int32) f_length f_text _ (0 : Int32) H.size h) (gx_cwV (own := "LeanSets$Words") 1 hG mw_264 mw_266 ms_Wo_firstBehindBlanks mw_3 mw_267 (by decide +kernel) ⟨Nat.le_of_ble_eq_true rfl, Nat.le_of_ble_eq_true rfl⟩) ⟨fun a U g mk q => by obtain ⟨q0, q1, qP, qK, qD⟩ := q; exact ⟨q0, q1, qP, gx_K.same (u := U) (U := U.calling g mk a) rfl qK, qD⟩, va_recv hK hPc (ci := 5) (q0 := 0) rfl rfl, fun U hU hW => ⟨rfl, by rw [hU], by rw [hU]; exact hPc, gx_K.moved hW hN, hDc.weaken (fun _ _ _ _ => trivial)⟩⟩ rfl rfl hl.1 rfl (lv_room (Nat.le_of_ble_eq_true rfl)) d_Wo_split_7 ⟨Nat.le_of_ble_eq_true rfl, Nat.le_of_ble_eq_true rfl⟩) hS (fun q _ h => hFc q h) hFc (fun r7 u t H1 locs ht hvm hw hB hz1 hk1 hS => ?_)
  obtain ⟨hP1, hD1⟩ := hB
  rw [ht] at hP1
  obtain ⟨hP, hD⟩ := va_join (wr := [(h_kinds, .inl (cI, 601, .inl f_kinds)), (h_places, .inl (cI, 601, .inl f_places)), (h_numbers, .inl (cI, 601, .inl f_numbers))]) (w1 := [(h_this, .inr (5, [.ref h_text, .int f_length, .ref h_kinds, .ref h_places, .ref h_numbers, .int (0 : Int32)])), (h_text, .inl (cC, 600, .inl f_text))]) hP hD [0, 1] [2, 3, 4] rfl rfl (by decide) (by decide) hk1 hFc hP1 hD1
  clear hPc hDc hFc hk1 hP1 hD1 ht hvm
  generalize H1 = H at hP hS ⊢
  have hP := hP.sub (ws' := [(h_this, .inr (5, [.ref h_text, .int f_length, .ref h_kinds, .ref h_places, .ref h_numbers, .int (0 : Int32)])), (h_text, .inl (cC, 600, .inl f_text)), (h_kinds, .inl (cI, 601, .inl f_kinds)), (h_places, .inl (cI, 601, .inl f_places)), (h_numbers, .inl (cI, 601, .inl f_numbers))]) [3, 4, 0, 1, 2] rfl
  have hD := hD.sub (ws' := [(h_this, .inr (5, [.ref h_text, .int f_length, .ref h_kinds, .ref h_places, .ref h_numbers, .int (0 : Int32)])), (h_text, .inl (cC, 600, .inl f_text)), (h_kinds, .inl (cI, 601, .inl f_kinds)), (h_places, .inl (cI, 601, .inl f_places)), (h_numbers, .inl (cI, 601, .inl f_numbers))]) [3, 4, 0, 1, 2] (by decide) rfl
  have h := hw
  try dsimp only at h
  refine lv_istore_n (lv' := [(1, .int r7), (0, .ref h_this)]) hx hb d_Wo_split_10 rfl hl (by decide) rfl (fun ls hl => ?_)
  refine lv_iconst (v := 0) hx hb d_Wo_split_11 (by decide) ?_
  refine lv_istore_n (lv' := [(2, .int (0 : Int32)), (1, .int r7), (0, .ref h_this)]) hx hb d_Wo_split_12 rfl hl (by decide) rfl (fun ls hl => ?_)
  obtain ⟨n_, h⟩ := h
  exact wk_Wo_split_13 dC dI cI cJ cC A hA C0 hN adK adV hZ h_this h_text h_kinds h_places h_numbers f_length f_text post   n_ r7 (0 : Int32) (0 : Int32) f_kinds f_places f_numbers h _ _ _ hP hD hS (lv_sub hl [2, 1, 0] rfl)
set_option maxHeartbeats 4000000 in
set_option maxRecDepth 100000 in
theorem c_Wo_split (l : Launch) (dC : Nat → ClassId) (dI : Nat → Nat → Nat) (cI cJ cC : ClassId) (adK adV : Nat → Nat) (h_this h_text h_kinds h_places h_numbers : Nat) (f_length : Int32) (f_text : Nat → Int32) (post : Int32 → (Nat → Int32) → (Nat → Int32) → (Nat → Int32) → Prop) (f_words : Int32) (f_kinds : Nat → Int32) (f_places : Nat → Int32) (f_numbers : Nat → Int32) (sz : Nat) (h : wp_Wo_split_0 f_length f_text post f_words f_kinds f_places f_numbers) : Met l y_Wo_split (.code y_Wo_split prog_7_method_3_code 4 (Option.none : Option Jvm.ClassFile.FieldType) :: gx_G) ({ frames := 7, cells := 0, slots := 0, locals := 153 }) (va_Pc [.ref h_this] (fun U => U.heap.size = sz ∧ va_P (dC, dI) classes [(h_this, .inr (5, [.ref h_text, .int f_length, .ref h_kinds, .ref h_places, .ref h_numbers, .int f_words])), (h_text, .inl (cC, 600, .inl f_text)), (h_kinds, .inl (cI, 601, .inl f_kinds)), (h_places, .inl (cI, 601, .inl f_places)), (h_numbers, .inl (cI, 601, .inl f_numbers))] U.heap ∧ gx_K dC dI cI cJ cC U ∧ va_D (fun _ => True) [(h_this, .inr (5, [.ref h_text, .int f_length, .ref h_kinds, .ref h_places, .ref h_numbers, .int f_words])), (h_text, .inl (cC, 600, .inl f_text)), (h_kinds, .inl (cI, 601, .inl f_kinds)), (h_places, .inl (cI, 601, .inl f_places)), (h_numbers, .inl (cI, 601, .inl f_numbers))] ∧ gx_Z adK adV (va_A [(h_this, .inr (5, [.ref h_text, .int f_length, .ref h_kinds, .ref h_places, .ref h_numbers, .int f_words])), (h_text, .inl (cC, 600, .inl f_text)), (h_kinds, .inl (cI, 601, .inl f_kinds)), (h_places, .inl (cI, 601, .inl f_places)), (h_numbers, .inl (cI, 601, .inl f_numbers))] sz) U)) (va_Qv (fun (u : Int32 × (Nat → Int32) × (Nat → Int32) × (Nat → Int32)) => post u.1 u.2.1 u.2.2.1 u.2.2.2) (fun (u : Int32 × (Nat → Int32) × (Nat → Int32) × (Nat → Int32)) (t : State) => va_P (dC, dI) classes [(h_this, .inr (5, [.ref h_text, .int f_length, .ref h_kinds, .ref h_places, .ref h_numbers, .int u.1])), (h_text, .inl (cC, 600, .inl f_text)), (h_kinds, .inl (cI, 601, .inl u.2.1)), (h_places, .inl (cI, 601, .inl u.2.2.1)), (h_numbers, .inl (cI, 601, .inl u.2.2.2))] t.heap ∧ va_D (va_A [(h_this, .inr (5, [.ref h_text, .int f_length, .ref h_kinds, .ref h_places, .ref h_numbers, .int f_words])), (h_text, .inl (cC, 600, .inl f_text)), (h_kinds, .inl (cI, 601, .inl f_kinds)), (h_places, .inl (cI, 601, .inl f_places)), (h_numbers, .inl (cI, 601, .inl f_numbers))] sz) [(h_this, .inr (5, [.ref h_text, .int f_length, .ref h_kinds, .ref h_places, .ref h_numbers, .int u.1])), (h_text, .inl (cC, 600, .inl f_text)), (h_kinds, .inl (cI, 601, .inl u.2.1)), (h_places, .inl (cI, 601, .inl u.2.2.1)), (h_numbers, .inl (cI, 601, .inl u.2.2.2))]) (va_A [(h_this, .inr (5, [.ref h_text, .int f_length, .ref h_kinds, .ref h_places, .ref h_numbers, .int f_words])), (h_text, .inl (cC, 600, .inl f_text)), (h_kinds, .inl (cI, 601, .inl f_kinds)), (h_places, .inl (cI, 601, .inl f_places)), (h_numbers, .inl (cI, 601, .inl f_numbers))] sz)) 0 0 (va_A [(h_this, .inr (5, [.ref h_text, .int f_length, .ref h_kinds, .ref h_places, .ref h_numbers, .int f_words])), (h_text, .inl (cC, 600, .inl f_text)), (h_kinds, .inl (cI, 601, .inl f_kinds)), (h_places, .inl (cI, 601, .inl f_places)), (h_numbers, .inl (cI, 601, .inl f_numbers))] sz) := by
  refine Met.ofW (cc := prog_7_method_3_code) (maxL := 4) (ret := (Option.none : Option Jvm.ClassFile.FieldType)) (by decide +kernel) rfl ?_
  intro p e s m args below meth c s₁ B hml hv
  obtain ⟨rfl, hsz, hP, hN, hD0, hZ⟩ := hv
  have hts := atoms_spec (ws := (.code y_Wo_split prog_7_method_3_code 4 (Option.none : Option Jvm.ClassFile.FieldType) :: gx_G)) B.pre
  have C0 : gx_C p s m meth c _ "LeanSets$Words" prog_7_method_3_code 4 (Option.none : Option Jvm.ClassFile.FieldType) := ⟨B.exec, B.bytes, B.returns, hml, findClass_of_methodNamed B.named, B.notSynchronized, fun w hw => hts w (List.mem_cons_of_mem _ hw)⟩
  subst hsz
  have hD := hD0.self (sz := s.heap.size)
  generalize hAe : va_A [(h_this, .inr (5, [.ref h_text, .int f_length, .ref h_kinds, .ref h_places, .ref h_numbers, .int f_words])), (h_text, .inl (cC, 600, .inl f_text)), (h_kinds, .inl (cI, 601, .inl f_kinds)), (h_places, .inl (cI, 601, .inl f_places)), (h_numbers, .inl (cI, 601, .inl f_numbers))] s.heap.size = A at hD hZ ⊢
  have hA : ∀ q : Nat, s.heap.size ≤ q → A q := fun q h => by rw [← hAe]; exact Or.inr h
  have hl := lv_entry ([.ref h_this]) (n := 4) (Nat.le_of_ble_eq_true rfl)
  rw [lg_entry_eq]
  generalize (lg_sl ([.ref h_this]) ++ List.replicate (4 - (lg_sl ([.ref h_this])).length) Slot.unset).toArray = ls at hl ⊢
  exact wk_Wo_split_0 dC dI cI cJ cC A hA C0 hN adK adV hZ h_this h_text h_kinds h_places h_numbers f_length f_text post f_words f_kinds f_places f_numbers h s.heap [] ls hP hD va_S.rf hl
