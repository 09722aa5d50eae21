/-! String constants (by their places 0 .. 3: size, weight, arc, curve) and the JDK's own members that read them. Own work. -/
def gx_lens : List Nat := [4, 6, 3, 5]
def gx_byt : List (List Int32) := [[115, 105, 122, 101], [119, 101, 105, 103, 104, 116], [97, 114, 99], [99, 117, 114, 118, 101]]
def gx_ln (k : Nat) : Nat := gx_lens.getD k 0
def gx_chr (k j : Nat) : Int32 := (gx_byt.getD k []).getD j 0
def gx_Z (adK adV : Nat → Nat) (A : Nat → Prop) (U : State) : Prop := vk_S 4 gx_lens gx_byt adK adV A U U.heap ∧ (vk_R "LeanSets$Words" 60 "size" (adK 0) U ∧ vk_R "LeanSets$Words" 66 "weight" (adK 1) U ∧ vk_R "LeanSets$Words" 68 "arc" (adK 2) U ∧ vk_R "LeanSets$Words" 70 "curve" (adK 3) U) ∧ va_Z "java/lang/String" "COMPACT_STRINGS" "Z" (.int 1) A U U.heap ∧ va_Zq "jdk/internal/util/Preconditions" "SIOOBE_FORMATTER" "Ljava/util/function/BiFunction;" A U U.heap
theorem gx_Z.step {adK adV : Nat → Nat} {A A1 : Nat → Prop} {s U : State} {H : Heap} {locs : List Loc} (h : gx_Z adK adV A s) (hS : va_S A s.heap H locs) (hU : U.heap = H) (hW : s.WarmedH U.vm) (hF : ∀ q, A1 q → A q) : gx_Z adK adV A1 U := by
  obtain ⟨h1, ⟨r1, r2, r3, r4⟩, h3, h4⟩ := h
  subst hU
  exact ⟨((vk_S.moved hW.alike h1).kept hS.2.1).narrow hF, ⟨r1.warm hW, r2.warm hW, r3.warm hW, r4.warm hW⟩, ((va_Z.moved hW.alike h3).kept hS.2.1).narrow hF, ((va_Zq.moved hW.alike h4).kept hS.2.1).narrow hF⟩
theorem gx_Z.same {adK adV : Nat → Nat} {A : Nat → Prop} {u U : State} (hv : u.vm = U.vm) (hh : U.heap = u.heap) (h : gx_Z adK adV A u) : gx_Z adK adV A U := by
  obtain ⟨h1, ⟨r1, r2, r3, r4⟩, h3, h4⟩ := h
  have ha : u.vm.Alike U.vm := by rw [hv]; exact Vm.Alike.refl _
  rw [gx_Z, hh]
  exact ⟨vk_S.moved ha h1, ⟨r1.same hv.symm, r2.same hv.symm, r3.same hv.symm, r4.same hv.symm⟩, va_Z.moved ha h3, va_Zq.moved ha h4⟩
theorem gx_chr_ok : ∀ k, k < 4 → ∀ j, j < gx_ln k → (((gx_chr k j &&& 255).toUInt32 % 65536).toInt32 = gx_chr k j ∧ narrow .char (.int (gx_chr k j)) = .int (gx_chr k j)) := by
  have h : ∀ k : Fin 4, ∀ j : Fin 6, j.val < gx_ln k.val → (((gx_chr k.val j.val &&& 255).toUInt32 % 65536).toInt32 = gx_chr k.val j.val ∧ vp_nar .char (gx_chr k.val j.val) = gx_chr k.val j.val) := by decide +kernel
  intro k hk j hj
  have hj6 : j < 6 := by
    have : ∀ k : Fin 4, gx_ln k.val ≤ 6 := by decide +kernel
    have := this ⟨k, hk⟩
    dsimp only at this
    omega
  obtain ⟨h1, h2⟩ := h ⟨k, hk⟩ ⟨j, hj6⟩ hj
  refine ⟨h1, ?_⟩
  have h3 : narrow .char (.int (gx_chr k j)) = .int (vp_nar .char (gx_chr k j)) := rfl
  rw [h3]
  exact congrArg Value.int h2

def y_Sg_coder : MethodName := ⟨"java/lang/String", "coder", "()B"⟩
theorem d_Sg_coder_0 : decode prog_17_method_152_code 0 = .ok (.getstatic 38, 3) := by decide +kernel
theorem d_Sg_coder_3 : decode prog_17_method_152_code 3 = .ok (.ifCond .eq 10, 3) := by decide +kernel
theorem d_Sg_coder_6 : decode prog_17_method_152_code 6 = .ok (.aload_n 0, 1) := by decide +kernel
theorem d_Sg_coder_7 : decode prog_17_method_152_code 7 = .ok (.getfield 15, 3) := by decide +kernel
theorem d_Sg_coder_10 : decode prog_17_method_152_code 10 = .ok (.goto 4, 3) := by decide +kernel
theorem d_Sg_coder_14 : decode prog_17_method_152_code 14 = .ok (.ireturn, 1) := by decide +kernel
set_option maxHeartbeats 4000000 in
set_option maxRecDepth 100000 in
theorem c_Sg_coder (l : Launch) (dC : Nat → ClassId) (dI : Nat → Nat → Nat) (cI cJ cC : ClassId) (adK adV : Nat → Nat) (post : Int32 → Prop) (k : Nat) (sz : Nat) (h : k < 4 ∧ post 0) : Met l y_Sg_coder (.code y_Sg_coder prog_17_method_152_code 1 (Option.some Jvm.ClassFile.FieldType.byte) :: gx_G) ({ frames := 0, cells := 0, slots := 0, locals := 0 }) (va_Pc [.ref (adK k)] (fun U => U.heap.size = sz ∧ va_P (dC, dI) classes [] U.heap ∧ gx_K dC dI cI cJ cC U ∧ va_D (fun _ => True) [] ∧ gx_Z adK adV (va_A [] sz) U)) (va_Qi (fun (r : Int32) (u : Unit) => post r) (fun (u : Unit) (t : State) => va_P (dC, dI) classes [] t.heap ∧ va_D (va_A [] sz) []) (va_A [] sz)) 0 0 (va_A [] sz) := by
  refine va_MetF (cc := prog_17_method_152_code) (maxL := 1) (ret := (Option.some Jvm.ClassFile.FieldType.byte)) (by decide +kernel) rfl ?_
  intro p e s m args below meth c s₁ B hml hv
  obtain ⟨rfl, hsz, hP, hN, hD0, hZ⟩ := hv
  have hK := hN.1
  have hts := atoms_spec (ws := (.code y_Sg_coder prog_17_method_152_code 1 (Option.some Jvm.ClassFile.FieldType.byte) :: gx_G)) B.pre
  have hG : ∀ w ∈ gx_G, w.before _ s = true := fun w hw => hts w (List.mem_cons_of_mem _ hw)
  have hx := B.exec
  have hb := B.bytes
  have hr := B.returns
  have hown : s.vm.findClass "java/lang/String" = some m.cls := findClass_of_methodNamed B.named
  have hlocks := B.notSynchronized
  subst hsz
  have hD := hD0.self (sz := s.heap.size)
  generalize hAe : va_A [] s.heap.size = A at hD hZ ⊢
  have hA : ∀ q : Nat, s.heap.size ≤ q → A q := fun q h => by rw [← hAe]; exact Or.inr h
  have hS : va_S A s.heap s.heap [] := va_S.rf
  have hl := lv_entry ([.ref (adK k)]) (n := 1) (Nat.le_of_ble_eq_true rfl)
  rw [lg_entry_eq]
  generalize (lg_sl ([.ref (adK k)]) ++ List.replicate (1 - (lg_sl ([.ref (adK k)])).length) Slot.unset).toArray = ls at hl ⊢
  have hl : lv_has ls 1 [(0, .ref (adK k))] := hl
  refine va_gets (own := "java/lang/String") hx hb hZ.2.2.1 hS hown (hG _ mw_299) (fun _ h9 => h9) d_Sg_coder_0 ?_
  refine lv_if_eq (tgt := 13) hx hb d_Sg_coder_3 (by decide) (fun c_ => absurd c_ (by decide)) (fun c_ => ?_)
  refine lv_aload_n hx hb d_Sg_coder_6 rfl (lv_at hl 0 rfl) ?_
  refine vk_getf (own := "java/lang/String") hx hb (hZ.1.1 k h.1).2.1 hS hown (hG _ mw_975) (fun _ h9 => h9) d_Sg_coder_7 ?_
  refine lv_goto (tgt := 14) hx hb d_Sg_coder_10 (by decide) ?_
  exact W.zret (v := 0) (ty := .byte) hx hb hr rfl (fun t ht hW => ⟨⟨0, (), rfl, h.2, by rw [ht]; exact hP, hD⟩, hS.F ht⟩) hS.2.2 d_Sg_coder_14 hlocks
def y_Sg_isLatin1 : MethodName := ⟨"java/lang/String", "isLatin1", "()Z"⟩
theorem d_Sg_isLatin1_0 : decode prog_17_method_154_code 0 = .ok (.getstatic 38, 3) := by decide +kernel
theorem d_Sg_isLatin1_3 : decode prog_17_method_154_code 3 = .ok (.ifCond .eq 14, 3) := by decide +kernel
theorem d_Sg_isLatin1_6 : decode prog_17_method_154_code 6 = .ok (.aload_n 0, 1) := by decide +kernel
theorem d_Sg_isLatin1_7 : decode prog_17_method_154_code 7 = .ok (.getfield 15, 3) := by decide +kernel
theorem d_Sg_isLatin1_10 : decode prog_17_method_154_code 10 = .ok (.ifCond .ne 7, 3) := by decide +kernel
theorem d_Sg_isLatin1_13 : decode prog_17_method_154_code 13 = .ok (.iconst 1, 1) := by decide +kernel
theorem d_Sg_isLatin1_14 : decode prog_17_method_154_code 14 = .ok (.goto 4, 3) := by decide +kernel
theorem d_Sg_isLatin1_18 : decode prog_17_method_154_code 18 = .ok (.ireturn, 1) := by decide +kernel
set_option maxHeartbeats 4000000 in
set_option maxRecDepth 100000 in
theorem c_Sg_isLatin1 (l : Launch) (dC : Nat → ClassId) (dI : Nat → Nat → Nat) (cI cJ cC : ClassId) (adK adV : Nat → Nat) (post : Int32 → Prop) (k : Nat) (sz : Nat) (h : k < 4 ∧ post 1) : Met l y_Sg_isLatin1 (.code y_Sg_isLatin1 prog_17_method_154_code 1 (Option.some Jvm.ClassFile.FieldType.boolean) :: gx_G) ({ frames := 0, cells := 0, slots := 0, locals := 0 }) (va_Pc [.ref (adK k)] (fun U => U.heap.size = sz ∧ va_P (dC, dI) classes [] U.heap ∧ gx_K dC dI cI cJ cC U ∧ va_D (fun _ => True) [] ∧ gx_Z adK adV (va_A [] sz) U)) (va_Qi (fun (r : Int32) (u : Unit) => post r) (fun (u : Unit) (t : State) => va_P (dC, dI) classes [] t.heap ∧ va_D (va_A [] sz) []) (va_A [] sz)) 0 0 (va_A [] sz) := by
  refine va_MetF (cc := prog_17_method_154_code) (maxL := 1) (ret := (Option.some Jvm.ClassFile.FieldType.boolean)) (by decide +kernel) rfl ?_
  intro p e s m args below meth c s₁ B hml hv
  obtain ⟨rfl, hsz, hP, hN, hD0, hZ⟩ := hv
  have hK := hN.1
  have hts := atoms_spec (ws := (.code y_Sg_isLatin1 prog_17_method_154_code 1 (Option.some Jvm.ClassFile.FieldType.boolean) :: gx_G)) B.pre
  have hG : ∀ w ∈ gx_G, w.before _ s = true := fun w hw => hts w (List.mem_cons_of_mem _ hw)
  have hx := B.exec
  have hb := B.bytes
  have hr := B.returns
  have hown : s.vm.findClass "java/lang/String" = some m.cls := findClass_of_methodNamed B.named
  have hlocks := B.notSynchronized
  subst hsz
  have hD := hD0.self (sz := s.heap.size)
  generalize hAe : va_A [] s.heap.size = A at hD hZ ⊢
  have hA : ∀ q : Nat, s.heap.size ≤ q → A q := fun q h => by rw [← hAe]; exact Or.inr h
  have hS : va_S A s.heap s.heap [] := va_S.rf
  have hl := lv_entry ([.ref (adK k)]) (n := 1) (Nat.le_of_ble_eq_true rfl)
  rw [lg_entry_eq]
  generalize (lg_sl ([.ref (adK k)]) ++ List.replicate (1 - (lg_sl ([.ref (adK k)])).length) Slot.unset).toArray = ls at hl ⊢
  have hl : lv_has ls 1 [(0, .ref (adK k))] := hl
  refine va_gets (own := "java/lang/String") hx hb hZ.2.2.1 hS hown (hG _ mw_299) (fun _ h9 => h9) d_Sg_isLatin1_0 ?_
  refine lv_if_eq (tgt := 17) hx hb d_Sg_isLatin1_3 (by decide) (fun c_ => absurd c_ (by decide)) (fun c_ => ?_)
  refine lv_aload_n hx hb d_Sg_isLatin1_6 rfl (lv_at hl 0 rfl) ?_
  refine vk_getf (own := "java/lang/String") hx hb (hZ.1.1 k h.1).2.1 hS hown (hG _ mw_975) (fun _ h9 => h9) d_Sg_isLatin1_7 ?_
  refine lv_if_ne (tgt := 17) hx hb d_Sg_isLatin1_10 (by decide) (fun c_ => absurd rfl c_) (fun c_ => ?_)
  refine lv_iconst (v := 1) hx hb d_Sg_isLatin1_13 (by decide) ?_
  refine lv_goto (tgt := 18) hx hb d_Sg_isLatin1_14 (by decide) ?_
  exact W.zret (v := 1) (ty := .boolean) hx hb hr rfl (fun t ht hW => ⟨⟨1, (), rfl, h.2, by rw [ht]; exact hP, hD⟩, hS.F ht⟩) hS.2.2 d_Sg_isLatin1_18 hlocks
def y_Sg_length : MethodName := ⟨"java/lang/String", "length", "()I"⟩
def wp_Sg_length_0 (post : Int32 → Prop) (k : Nat) : Prop := k < 4 ∧ post (nI (gx_ln k))
theorem d_Sg_length_0 : decode prog_17_method_54_code 0 = .ok (.aload_n 0, 1) := by decide +kernel
theorem d_Sg_length_1 : decode prog_17_method_54_code 1 = .ok (.getfield 9, 3) := by decide +kernel
theorem d_Sg_length_4 : decode prog_17_method_54_code 4 = .ok (.arraylength, 1) := by decide +kernel
theorem d_Sg_length_5 : decode prog_17_method_54_code 5 = .ok (.aload_n 0, 1) := by decide +kernel
theorem d_Sg_length_6 : decode prog_17_method_54_code 6 = .ok (.invokevirtual 335, 3) := by decide +kernel
theorem d_Sg_length_9 : decode prog_17_method_54_code 9 = .ok (.ishr, 1) := by decide +kernel
theorem d_Sg_length_10 : decode prog_17_method_54_code 10 = .ok (.ireturn, 1) := by decide +kernel
set_option maxHeartbeats 4000000 in
set_option maxRecDepth 100000 in
theorem c_Sg_length (l : Launch) (dC : Nat → ClassId) (dI : Nat → Nat → Nat) (cI cJ cC : ClassId) (adK adV : Nat → Nat) (post : Int32 → Prop) (k : Nat) (sz : Nat) (h : wp_Sg_length_0 post k) : Met l y_Sg_length (.code y_Sg_length prog_17_method_54_code 1 (Option.some Jvm.ClassFile.FieldType.int) :: gx_G) ({ frames := 1, cells := 0, slots := 0, locals := 20 }) (va_Pc [.ref (adK k)] (fun U => U.heap.size = sz ∧ va_P (dC, dI) classes [] U.heap ∧ gx_K dC dI cI cJ cC U ∧ va_D (fun _ => True) [] ∧ gx_Z adK adV (va_A [] sz) U)) (va_Qi (fun (r : Int32) (u : Unit) => post r) (fun (u : Unit) (t : State) => va_P (dC, dI) classes [] t.heap ∧ va_D (va_A [] sz) []) (va_A [] sz)) 0 0 (va_A [] sz) := by
  refine va_MetF (cc := prog_17_method_54_code) (maxL := 1) (ret := (Option.some Jvm.ClassFile.FieldType.int)) (by decide +kernel) rfl ?_
  intro p e s m args below meth c s₁ B hml hv
  obtain ⟨rfl, hsz, hP, hN, hD0, hZ⟩ := hv
  have hK := hN.1
  have hts := atoms_spec (ws := (.code y_Sg_length prog_17_method_54_code 1 (Option.some Jvm.ClassFile.FieldType.int) :: gx_G)) B.pre
  have hG : ∀ w ∈ gx_G, w.before _ s = true := fun w hw => hts w (List.mem_cons_of_mem _ hw)
  have hx := B.exec
  have hb := B.bytes
  have hr := B.returns
  have hown : s.vm.findClass "java/lang/String" = some m.cls := findClass_of_methodNamed B.named
  have hlocks := B.notSynchronized
  subst hsz
  have hD := hD0.self (sz := s.heap.size)
  generalize hAe : va_A [] s.heap.size = A at hD hZ ⊢
  have hA : ∀ q : Nat, s.heap.size ≤ q → A q := fun q h => by rw [← hAe]; exact Or.inr h
  have hS : va_S A s.heap s.heap [] := va_S.rf
  have hl := lv_entry ([.ref (adK k)]) (n := 1) (Nat.le_of_ble_eq_true rfl)
  rw [lg_entry_eq]
  generalize (lg_sl ([.ref (adK k)]) ++ List.replicate (1 - (lg_sl ([.ref (adK k)])).length) Slot.unset).toArray = ls at hl ⊢
  have hl : lv_has ls 1 [(0, .ref (adK k))] := hl
  refine lv_aload_n hx hb d_Sg_length_0 rfl (lv_at hl 0 rfl) ?_
  refine vk_getf (own := "java/lang/String") hx hb (hZ.1.1 k h.1).2.2.1 hS hown (hG _ mw_974) (fun _ h9 => h9) d_Sg_length_1 ?_
  refine va_tlen hx hb (hZ.1.1 k h.1).2.2.2 hS rfl d_Sg_length_4 ?_
  refine lv_aload_n hx hb d_Sg_length_5 rfl (lv_at hl 0 rfl) ?_
  have hPc := hP.sub (ws' := []) [] rfl
  have hDc := hD.sub (ws' := []) [] (by decide) rfl
  have hFc := va_free (wc := []) hD hS hA [] rfl
  refine va_calli (va_runV (As := []) (rest := [.int (Int32.ofNat (gx_lens.getD k 0))]) ⟨hx, hb, hml, hown, hG⟩ (c_Sg_coder l dC dI cI cJ cC adK adV (fun r => r = 0) k s.heap.size ⟨h.1, rfl⟩) (gx_cwV (own := "java/lang/String") 0 hG mw_295 mw_296 mw_297 mw_9 mw_298 (by decide +kernel) ⟨(Nat.le_of_ble_eq_true rfl), (Nat.le_of_ble_eq_true rfl)⟩) ⟨fun a U g mk q => by obtain ⟨q0, q1, qP, qK, qD, qZ⟩ := q; exact ⟨q0, q1, qP, gx_K.same (u := U) (U := U.calling g mk a) rfl qK, qD, gx_Z.same (u := U) (U := U.calling g mk a) rfl rfl qZ⟩, vk_recv hZ.1 h.1 hS, fun U hU hW => ⟨rfl, by rw [hU], by rw [hU]; exact hPc, gx_K.moved hW hN, hDc.weaken (fun _ _ _ _ => trivial), hZ.step hS hU hW hFc⟩⟩ rfl rfl hl.1 rfl (lv_room (Nat.le_of_ble_eq_true rfl)) d_Sg_length_6 ⟨(Nat.le_of_ble_eq_true rfl), (Nat.le_of_ble_eq_true rfl)⟩) hS (fun q _ h => hFc q h) hFc (fun r u t H1 locs ht hvm hw hB hz1 hk1 hS => ?_)
  obtain ⟨hP1, hD1⟩ := hB
  rw [ht] at hP1
  obtain ⟨hP, hD⟩ := va_join (wr := []) (w1 := []) hP hD [] [] rfl rfl (by decide) (by decide) hk1 hFc hP1 hD1
  clear hPc hDc hFc hk1 hP1 hD1 ht hvm
  generalize H1 = H at hP hS ⊢
  have h9 : r = 0 := hw
  subst h9
  refine lv_ishr hx hb d_Sg_length_9 ?_
  have e9 : Int32.ofNat (gx_lens.getD k 0) >>> ((0 : Int32) &&& 31) = nI (gx_ln k) := sb_shr0 _
  rw [e9]
  exact W.iret (v := nI (gx_ln k)) hx hb hr (fun t ht hW => ⟨⟨nI (gx_ln k), (), rfl, h.2, by rw [ht]; exact hP, hD⟩, hS.F ht⟩) hS.2.2 d_Sg_length_10 hlocks
def y_Pc_checkIndex : MethodName := ⟨"jdk/internal/util/Preconditions", "checkIndex", "(IILjava/util/function/BiFunction;)I"⟩
theorem d_Pc_checkIndex_0 : decode prog_21_method_11_code 0 = .ok (.iload_n 0, 1) := by decide +kernel
theorem d_Pc_checkIndex_1 : decode prog_21_method_11_code 1 = .ok (.ifCond .lt 8, 3) := by decide +kernel
theorem d_Pc_checkIndex_4 : decode prog_21_method_11_code 4 = .ok (.iload_n 0, 1) := by decide +kernel
theorem d_Pc_checkIndex_5 : decode prog_21_method_11_code 5 = .ok (.iload_n 1, 1) := by decide +kernel
theorem d_Pc_checkIndex_6 : decode prog_21_method_11_code 6 = .ok (.if_icmp .lt 10, 3) := by decide +kernel
theorem d_Pc_checkIndex_16 : decode prog_21_method_11_code 16 = .ok (.iload_n 0, 1) := by decide +kernel
theorem d_Pc_checkIndex_17 : decode prog_21_method_11_code 17 = .ok (.ireturn, 1) := by decide +kernel
set_option maxHeartbeats 4000000 in
set_option maxRecDepth 100000 in
theorem c_Pc_checkIndex_n (l : Launch) (dC : Nat → ClassId) (dI : Nat → Nat → Nat) (cI cJ cC : ClassId) (adK adV : Nat → Nat) (post : Int32 → Prop) (x0 x1 : Int32) (sz : Nat) (h : (¬ x0 < 0) ∧ x0 < x1 ∧ post x0) : Met l y_Pc_checkIndex (.code y_Pc_checkIndex prog_21_method_11_code 3 (Option.some Jvm.ClassFile.FieldType.int) :: gx_G) ({ frames := 0, cells := 0, slots := 0, locals := 0 }) (va_Pc [.int x0, .int x1, .null] (fun U => U.heap.size = sz ∧ va_P (dC, dI) classes [] U.heap ∧ gx_K dC dI cI cJ cC U ∧ va_D (fun _ => True) [] ∧ gx_Z adK adV (va_A [] sz) U)) (va_Qi (fun (r : Int32) (u : Unit) => post r) (fun (u : Unit) (t : State) => va_P (dC, dI) classes [] t.heap ∧ va_D (va_A [] sz) []) (va_A [] sz)) 0 0 (va_A [] sz) := by
  refine va_MetF (cc := prog_21_method_11_code) (maxL := 3) (ret := (Option.some Jvm.ClassFile.FieldType.int)) (by decide +kernel) rfl ?_
  intro p e s m args below meth c s₁ B hml hv
  obtain ⟨rfl, hsz, hP, hN, hD0, hZ⟩ := hv
  have hK := hN.1
  have hts := atoms_spec (ws := (.code y_Pc_checkIndex prog_21_method_11_code 3 (Option.some Jvm.ClassFile.FieldType.int) :: gx_G)) B.pre
  have hG : ∀ w ∈ gx_G, w.before _ s = true := fun w hw => hts w (List.mem_cons_of_mem _ hw)
  have hx := B.exec
  have hb := B.bytes
  have hr := B.returns
  have hown : s.vm.findClass "jdk/internal/util/Preconditions" = some m.cls := findClass_of_methodNamed B.named
  have hlocks := B.notSynchronized
  subst hsz
  have hD := hD0.self (sz := s.heap.size)
  generalize hAe : va_A [] s.heap.size = A at hD hZ ⊢
  have hA : ∀ q : Nat, s.heap.size ≤ q → A q := fun q h => by rw [← hAe]; exact Or.inr h
  have hS : va_S A s.heap s.heap [] := va_S.rf
  have hl := lv_entry ([.int x0, .int x1, .null]) (n := 3) (Nat.le_of_ble_eq_true rfl)
  rw [lg_entry_eq]
  generalize (lg_sl ([.int x0, .int x1, .null]) ++ List.replicate (3 - (lg_sl ([.int x0, .int x1, .null])).length) Slot.unset).toArray = ls at hl ⊢
  have hl : lv_has ls 3 [(0, .int x0), (1, .int x1), (2, .null)] := hl
  refine lv_iload_n hx hb d_Pc_checkIndex_0 rfl (lv_at hl 0 rfl) ?_
  refine lv_if_lt (tgt := 9) hx hb d_Pc_checkIndex_1 (by decide) (fun c_ => absurd c_ h.1) (fun c_ => ?_)
  refine lv_iload_n hx hb d_Pc_checkIndex_4 rfl (lv_at hl 0 rfl) ?_
  refine lv_iload_n hx hb d_Pc_checkIndex_5 rfl (lv_at hl 1 rfl) ?_
  refine lv_icmp_lt (tgt := 16) hx hb d_Pc_checkIndex_6 (by decide) (fun c_ => ?_) (fun c_ => absurd h.2.1 c_)
  refine lv_iload_n hx hb d_Pc_checkIndex_16 rfl (lv_at hl 0 rfl) ?_
  exact W.iret (v := x0) hx hb hr (fun t ht hW => ⟨⟨x0, (), rfl, h.2.2, by rw [ht]; exact hP, hD⟩, hS.F ht⟩) hS.2.2 d_Pc_checkIndex_17 hlocks
set_option maxHeartbeats 4000000 in
set_option maxRecDepth 100000 in
theorem c_Pc_checkIndex_r (l : Launch) (dC : Nat → ClassId) (dI : Nat → Nat → Nat) (cI cJ cC : ClassId) (adK adV : Nat → Nat) (q0 : Nat) (post : Int32 → Prop) (x0 x1 : Int32) (sz : Nat) (h : (¬ x0 < 0) ∧ x0 < x1 ∧ post x0) : Met l y_Pc_checkIndex (.code y_Pc_checkIndex prog_21_method_11_code 3 (Option.some Jvm.ClassFile.FieldType.int) :: gx_G) ({ frames := 0, cells := 0, slots := 0, locals := 0 }) (va_Pc [.int x0, .int x1, .ref q0] (fun U => U.heap.size = sz ∧ va_P (dC, dI) classes [] U.heap ∧ gx_K dC dI cI cJ cC U ∧ va_D (fun _ => True) [] ∧ gx_Z adK adV (va_A [] sz) U)) (va_Qi (fun (r : Int32) (u : Unit) => post r) (fun (u : Unit) (t : State) => va_P (dC, dI) classes [] t.heap ∧ va_D (va_A [] sz) []) (va_A [] sz)) 0 0 (va_A [] sz) := by
  refine va_MetF (cc := prog_21_method_11_code) (maxL := 3) (ret := (Option.some Jvm.ClassFile.FieldType.int)) (by decide +kernel) rfl ?_
  intro p e s m args below meth c s₁ B hml hv
  obtain ⟨rfl, hsz, hP, hN, hD0, hZ⟩ := hv
  have hK := hN.1
  have hts := atoms_spec (ws := (.code y_Pc_checkIndex prog_21_method_11_code 3 (Option.some Jvm.ClassFile.FieldType.int) :: gx_G)) B.pre
  have hG : ∀ w ∈ gx_G, w.before _ s = true := fun w hw => hts w (List.mem_cons_of_mem _ hw)
  have hx := B.exec
  have hb := B.bytes
  have hr := B.returns
  have hown : s.vm.findClass "jdk/internal/util/Preconditions" = some m.cls := findClass_of_methodNamed B.named
  have hlocks := B.notSynchronized
  subst hsz
  have hD := hD0.self (sz := s.heap.size)
  generalize hAe : va_A [] s.heap.size = A at hD hZ ⊢
  have hA : ∀ q : Nat, s.heap.size ≤ q → A q := fun q h => by rw [← hAe]; exact Or.inr h
  have hS : va_S A s.heap s.heap [] := va_S.rf
  have hl := lv_entry ([.int x0, .int x1, .ref q0]) (n := 3) (Nat.le_of_ble_eq_true rfl)
  rw [lg_entry_eq]
  generalize (lg_sl ([.int x0, .int x1, .ref q0]) ++ List.replicate (3 - (lg_sl ([.int x0, .int x1, .ref q0])).length) Slot.unset).toArray = ls at hl ⊢
  have hl : lv_has ls 3 [(0, .int x0), (1, .int x1), (2, .ref q0)] := hl
  refine lv_iload_n hx hb d_Pc_checkIndex_0 rfl (lv_at hl 0 rfl) ?_
  refine lv_if_lt (tgt := 9) hx hb d_Pc_checkIndex_1 (by decide) (fun c_ => absurd c_ h.1) (fun c_ => ?_)
  refine lv_iload_n hx hb d_Pc_checkIndex_4 rfl (lv_at hl 0 rfl) ?_
  refine lv_iload_n hx hb d_Pc_checkIndex_5 rfl (lv_at hl 1 rfl) ?_
  refine lv_icmp_lt (tgt := 16) hx hb d_Pc_checkIndex_6 (by decide) (fun c_ => ?_) (fun c_ => absurd h.2.1 c_)
  refine lv_iload_n hx hb d_Pc_checkIndex_16 rfl (lv_at hl 0 rfl) ?_
  exact W.iret (v := x0) hx hb hr (fun t ht hW => ⟨⟨x0, (), rfl, h.2.2, by rw [ht]; exact hP, hD⟩, hS.F ht⟩) hS.2.2 d_Pc_checkIndex_17 hlocks
def y_Sg_checkIndex : MethodName := ⟨"java/lang/String", "checkIndex", "(II)V"⟩
theorem d_Sg_checkIndex_0 : decode prog_17_method_155_code 0 = .ok (.iload_n 0, 1) := by decide +kernel
theorem d_Sg_checkIndex_1 : decode prog_17_method_155_code 1 = .ok (.iload_n 1, 1) := by decide +kernel
theorem d_Sg_checkIndex_2 : decode prog_17_method_155_code 2 = .ok (.getstatic 1053, 3) := by decide +kernel
theorem d_Sg_checkIndex_5 : decode prog_17_method_155_code 5 = .ok (.invokestatic 1059, 3) := by decide +kernel
theorem d_Sg_checkIndex_8 : decode prog_17_method_155_code 8 = .ok (.pop, 1) := by decide +kernel
theorem d_Sg_checkIndex_9 : decode prog_17_method_155_code 9 = .ok (.return_, 1) := by decide +kernel
set_option maxHeartbeats 4000000 in
set_option maxRecDepth 100000 in
theorem c_Sg_checkIndex (l : Launch) (dC : Nat → ClassId) (dI : Nat → Nat → Nat) (cI cJ cC : ClassId) (adK adV : Nat → Nat) (post : Prop) (x0 x1 : Int32) (sz : Nat) (h : (¬ x0 < 0) ∧ x0 < x1 ∧ post) : Met l y_Sg_checkIndex (.code y_Sg_checkIndex prog_17_method_155_code 2 (Option.none : Option Jvm.ClassFile.FieldType) :: gx_G) ({ frames := 1, cells := 0, slots := 0, locals := 22 }) (va_Pc [.int x0, .int x1] (fun U => U.heap.size = sz ∧ va_P (dC, dI) classes [] U.heap ∧ gx_K dC dI cI cJ cC U ∧ va_D (fun _ => True) [] ∧ gx_Z adK adV (va_A [] sz) U)) (va_Qv (fun (u : Unit) => post) (fun (u : Unit) (t : State) => va_P (dC, dI) classes [] t.heap ∧ va_D (va_A [] sz) []) (va_A [] sz)) 0 0 (va_A [] sz) := by
  refine va_MetF (cc := prog_17_method_155_code) (maxL := 2) (ret := (Option.none : Option Jvm.ClassFile.FieldType)) (by decide +kernel) rfl ?_
  intro p e s m args below meth c s₁ B hml hv
  obtain ⟨rfl, hsz, hP, hN, hD0, hZ⟩ := hv
  have hK := hN.1
  have hts := atoms_spec (ws := (.code y_Sg_checkIndex prog_17_method_155_code 2 (Option.none : Option Jvm.ClassFile.FieldType) :: gx_G)) B.pre
  have hG : ∀ w ∈ gx_G, w.before _ s = true := fun w hw => hts w (List.mem_cons_of_mem _ hw)
  have hx := B.exec
  have hb := B.bytes
  have hr := B.returns
  have hown : s.vm.findClass "java/lang/String" = some m.cls := findClass_of_methodNamed B.named
  have hlocks := B.notSynchronized
  subst hsz
  have hD := hD0.self (sz := s.heap.size)
  generalize hAe : va_A [] s.heap.size = A at hD hZ ⊢
  have hA : ∀ q : Nat, s.heap.size ≤ q → A q := fun q h => by rw [← hAe]; exact Or.inr h
  have hS : va_S A s.heap s.heap [] := va_S.rf
  have hl := lv_entry ([.int x0, .int x1]) (n := 2) (Nat.le_of_ble_eq_true rfl)
  rw [lg_entry_eq]
  generalize (lg_sl ([.int x0, .int x1]) ++ List.replicate (2 - (lg_sl ([.int x0, .int x1])).length) Slot.unset).toArray = ls at hl ⊢
  have hl : lv_has ls 2 [(0, .int x0), (1, .int x1)] := hl
  refine lv_iload_n hx hb d_Sg_checkIndex_0 rfl (lv_at hl 0 rfl) ?_
  refine lv_iload_n hx hb d_Sg_checkIndex_1 rfl (lv_at hl 1 rfl) ?_
  rcases id hZ.2.2.2 with hq0 | ⟨q0, hq0⟩
  · refine va_gets (own := "java/lang/String") hx hb hq0 hS hown (hG _ mw_315) (fun _ h9 => h9) d_Sg_checkIndex_2 ?_
    have hPc := hP.sub (ws' := []) [] rfl
    have hDc := hD.sub (ws' := []) [] (by decide) rfl
    have hFc := va_free (wc := []) hD hS hA [] rfl
    refine va_calli (va_runS (As := [.int x0, .int x1, .null]) (rest := []) ⟨hx, hb, hml, hown, hG⟩ (c_Pc_checkIndex_n l dC dI cI cJ cC adK adV (fun _ => True) x0 x1 s.heap.size ⟨h.1, h.2.1, trivial⟩) (gx_cwS (own := "java/lang/String") 3 hG mw_317 mw_318 mw_11 mw_319 (by decide +kernel) ⟨(Nat.le_of_ble_eq_true rfl), (Nat.le_of_ble_eq_true rfl)⟩) ⟨fun a U g mk q => by obtain ⟨q0, q1, qP, qK, qD, qZ⟩ := q; exact ⟨q0, q1, qP, gx_K.same (u := U) (U := U.calling g mk a) rfl qK, qD, gx_Z.same (u := U) (U := U.calling g mk a) rfl rfl qZ⟩, fun U hU hW => ⟨rfl, by rw [hU], by rw [hU]; exact hPc, gx_K.moved hW hN, hDc.weaken (fun _ _ _ _ => trivial), hZ.step hS hU hW hFc⟩⟩ rfl rfl hl.1 rfl (lv_room (Nat.le_of_ble_eq_true rfl)) d_Sg_checkIndex_5 ⟨(Nat.le_of_ble_eq_true rfl), (Nat.le_of_ble_eq_true rfl)⟩) hS (fun q _ h => hFc q h) hFc (fun r u t H1 locs ht hvm hw hB hz1 hk1 hS => ?_)
    obtain ⟨hP1, hD1⟩ := hB
    rw [ht] at hP1
    obtain ⟨hP, hD⟩ := va_join (wr := []) (w1 := []) hP hD [] [] rfl rfl (by decide) (by decide) hk1 hFc hP1 hD1
    clear hPc hDc hFc hk1 hP1 hD1 ht hvm
    generalize H1 = H at hP hS ⊢
    refine lv_pop hx hb d_Sg_checkIndex_8 rfl ?_
    exact W.vret hx hb hr (fun t ht hW => ⟨⟨(), rfl, h.2.2, by rw [ht]; exact hP, hD⟩, hS.F ht⟩) hS.2.2 d_Sg_checkIndex_9 hlocks
  · refine va_gets (own := "java/lang/String") hx hb hq0 hS hown (hG _ mw_315) (fun _ h9 => h9) d_Sg_checkIndex_2 ?_
    have hPc := hP.sub (ws' := []) [] rfl
    have hDc := hD.sub (ws' := []) [] (by decide) rfl
    have hFc := va_free (wc := []) hD hS hA [] rfl
    refine va_calli (va_runS (As := [.int x0, .int x1, .ref q0]) (rest := []) ⟨hx, hb, hml, hown, hG⟩ (c_Pc_checkIndex_r l dC dI cI cJ cC adK adV q0 (fun _ => True) x0 x1 s.heap.size ⟨h.1, h.2.1, trivial⟩) (gx_cwS (own := "java/lang/String") 3 hG mw_317 mw_318 mw_11 mw_319 (by decide +kernel) ⟨(Nat.le_of_ble_eq_true rfl), (Nat.le_of_ble_eq_true rfl)⟩) ⟨fun a U g mk q => by obtain ⟨q0, q1, qP, qK, qD, qZ⟩ := q; exact ⟨q0, q1, qP, gx_K.same (u := U) (U := U.calling g mk a) rfl qK, qD, gx_Z.same (u := U) (U := U.calling g mk a) rfl rfl qZ⟩, fun U hU hW => ⟨rfl, by rw [hU], by rw [hU]; exact hPc, gx_K.moved hW hN, hDc.weaken (fun _ _ _ _ => trivial), hZ.step hS hU hW hFc⟩⟩ rfl rfl hl.1 rfl (lv_room (Nat.le_of_ble_eq_true rfl)) d_Sg_checkIndex_5 ⟨(Nat.le_of_ble_eq_true rfl), (Nat.le_of_ble_eq_true rfl)⟩) hS (fun q _ h => hFc q h) hFc (fun r u t H1 locs ht hvm hw hB hz1 hk1 hS => ?_)
    obtain ⟨hP1, hD1⟩ := hB
    rw [ht] at hP1
    obtain ⟨hP, hD⟩ := va_join (wr := []) (w1 := []) hP hD [] [] rfl rfl (by decide) (by decide) hk1 hFc hP1 hD1
    clear hPc hDc hFc hk1 hP1 hD1 ht hvm
    generalize H1 = H at hP hS ⊢
    refine lv_pop hx hb d_Sg_checkIndex_8 rfl ?_
    exact W.vret hx hb hr (fun t ht hW => ⟨⟨(), rfl, h.2.2, by rw [ht]; exact hP, hD⟩, hS.F ht⟩) hS.2.2 d_Sg_checkIndex_9 hlocks
def y_Sl_charAt : MethodName := ⟨"java/lang/StringLatin1", "charAt", "([BI)C"⟩
theorem d_Sl_charAt_0 : decode prog_18_method_2_code 0 = .ok (.iload_n 1, 1) := by decide +kernel
theorem d_Sl_charAt_1 : decode prog_18_method_2_code 1 = .ok (.aload_n 0, 1) := by decide +kernel
theorem d_Sl_charAt_2 : decode prog_18_method_2_code 2 = .ok (.arraylength, 1) := by decide +kernel
theorem d_Sl_charAt_3 : decode prog_18_method_2_code 3 = .ok (.invokestatic 9, 3) := by decide +kernel
theorem d_Sl_charAt_6 : decode prog_18_method_2_code 6 = .ok (.aload_n 0, 1) := by decide +kernel
theorem d_Sl_charAt_7 : decode prog_18_method_2_code 7 = .ok (.iload_n 1, 1) := by decide +kernel
theorem d_Sl_charAt_8 : decode prog_18_method_2_code 8 = .ok (.baload, 1) := by decide +kernel
theorem d_Sl_charAt_9 : decode prog_18_method_2_code 9 = .ok (.sipush 255, 3) := by decide +kernel
theorem d_Sl_charAt_12 : decode prog_18_method_2_code 12 = .ok (.iand, 1) := by decide +kernel
theorem d_Sl_charAt_13 : decode prog_18_method_2_code 13 = .ok (.i2c, 1) := by decide +kernel
theorem d_Sl_charAt_14 : decode prog_18_method_2_code 14 = .ok (.ireturn, 1) := by decide +kernel
set_option maxHeartbeats 4000000 in
set_option maxRecDepth 100000 in
theorem c_Sl_charAt (l : Launch) (dC : Nat → ClassId) (dI : Nat → Nat → Nat) (cI cJ cC : ClassId) (adK adV : Nat → Nat) (post : Int32 → Prop) (k : Nat) (x1 : Int32) (sz : Nat) (h : k < 4 ∧ vp_in x1 (gx_ln k) ∧ post (gx_chr k x1.toNatClampNeg)) : Met l y_Sl_charAt (.code y_Sl_charAt prog_18_method_2_code 2 (Option.some Jvm.ClassFile.FieldType.char) :: gx_G) ({ frames := 2, cells := 0, slots := 0, locals := 43 }) (va_Pc [.ref (adV k), .int x1] (fun U => U.heap.size = sz ∧ va_P (dC, dI) classes [] U.heap ∧ gx_K dC dI cI cJ cC U ∧ va_D (fun _ => True) [] ∧ gx_Z adK adV (va_A [] sz) U)) (va_Qi (fun (r : Int32) (u : Unit) => post r) (fun (u : Unit) (t : State) => va_P (dC, dI) classes [] t.heap ∧ va_D (va_A [] sz) []) (va_A [] sz)) 0 0 (va_A [] sz) := by
  refine va_MetF (cc := prog_18_method_2_code) (maxL := 2) (ret := (Option.some Jvm.ClassFile.FieldType.char)) (by decide +kernel) rfl ?_
  intro p e s m args below meth c s₁ B hml hv
  obtain ⟨rfl, hsz, hP, hN, hD0, hZ⟩ := hv
  have hK := hN.1
  have hts := atoms_spec (ws := (.code y_Sl_charAt prog_18_method_2_code 2 (Option.some Jvm.ClassFile.FieldType.char) :: gx_G)) B.pre
  have hG : ∀ w ∈ gx_G, w.before _ s = true := fun w hw => hts w (List.mem_cons_of_mem _ hw)
  have hx := B.exec
  have hb := B.bytes
  have hr := B.returns
  have hown : s.vm.findClass "java/lang/StringLatin1" = some m.cls := findClass_of_methodNamed B.named
  have hlocks := B.notSynchronized
  subst hsz
  have hD := hD0.self (sz := s.heap.size)
  generalize hAe : va_A [] s.heap.size = A at hD hZ ⊢
  have hA : ∀ q : Nat, s.heap.size ≤ q → A q := fun q h => by rw [← hAe]; exact Or.inr h
  have hS : va_S A s.heap s.heap [] := va_S.rf
  have hl := lv_entry ([.ref (adV k), .int x1]) (n := 2) (Nat.le_of_ble_eq_true rfl)
  rw [lg_entry_eq]
  generalize (lg_sl ([.ref (adV k), .int x1]) ++ List.replicate (2 - (lg_sl ([.ref (adV k), .int x1])).length) Slot.unset).toArray = ls at hl ⊢
  have hl : lv_has ls 2 [(0, .ref (adV k)), (1, .int x1)] := hl
  obtain ⟨hk4, hin, h⟩ := h
  have hlnb : gx_ln k < 2 ^ 31 := by
    have hb6 : ∀ k : Fin 4, gx_ln k.val ≤ 6 := by decide +kernel
    have hb6 := hb6 ⟨k, hk4⟩
    dsimp only at hb6
    omega
  obtain ⟨j, hj, hxj⟩ := vp_in_of hin hlnb
  refine lv_iload_n hx hb d_Sl_charAt_0 rfl (lv_at hl 1 rfl) ?_
  refine lv_aload_n hx hb d_Sl_charAt_1 rfl (lv_at hl 0 rfl) ?_
  refine va_tlen hx hb (hZ.1.1 k hk4).2.2.2 hS rfl d_Sl_charAt_2 ?_
  have hPc := hP.sub (ws' := []) [] rfl
  have hDc := hD.sub (ws' := []) [] (by decide) rfl
  have hFc := va_free (wc := []) hD hS hA [] rfl
  refine va_callv (va_runS (As := [.int x1, .int (Int32.ofNat (gx_lens.getD k 0))]) (rest := []) ⟨hx, hb, hml, hown, hG⟩ (c_Sg_checkIndex l dC dI cI cJ cC adK adV True x1 (Int32.ofNat (gx_lens.getD k 0)) s.heap.size ⟨by rw [hxj]; exact nI_pos (by omega), by rw [hxj]; exact nI_lt hj hlnb, trivial⟩) (gx_cwS (own := "java/lang/StringLatin1") 2 hG mw_312 mw_313 mw_9 mw_314 (by decide +kernel) ⟨(Nat.le_of_ble_eq_true rfl), (Nat.le_of_ble_eq_true rfl)⟩) ⟨fun a U g mk q => by obtain ⟨q0, q1, qP, qK, qD, qZ⟩ := q; exact ⟨q0, q1, qP, gx_K.same (u := U) (U := U.calling g mk a) rfl qK, qD, gx_Z.same (u := U) (U := U.calling g mk a) rfl rfl qZ⟩, fun U hU hW => ⟨rfl, by rw [hU], by rw [hU]; exact hPc, gx_K.moved hW hN, hDc.weaken (fun _ _ _ _ => trivial), hZ.step hS hU hW hFc⟩⟩ rfl rfl hl.1 rfl (lv_room (Nat.le_of_ble_eq_true rfl)) d_Sl_charAt_3 ⟨(Nat.le_of_ble_eq_true rfl), (Nat.le_of_ble_eq_true rfl)⟩) hS (fun q _ h => hFc q h) hFc (fun u t H1 locs ht hvm hw hB hz1 hk1 hS => ?_)
  obtain ⟨hP1, hD1⟩ := hB
  rw [ht] at hP1
  obtain ⟨hP, hD⟩ := va_join (wr := []) (w1 := []) hP hD [] [] rfl rfl (by decide) (by decide) hk1 hFc hP1 hD1
  clear hPc hDc hFc hk1 hP1 hD1 ht hvm
  generalize H1 = H at hP hS ⊢
  refine lv_aload_n hx hb d_Sl_charAt_6 rfl (lv_at hl 0 rfl) ?_
  refine lv_iload_n hx hb d_Sl_charAt_7 rfl (lv_at hl 1 rfl) ?_
  refine va_tb hx hb (hZ.1.1 k hk4).2.2.2 hS hin (v := .int (gx_chr k x1.toNatClampNeg)) rfl d_Sl_charAt_8 ?_
  refine lv_sipush (v := 255) hx hb d_Sl_charAt_9 (by decide) ?_
  refine lv_iand hx hb d_Sl_charAt_12 ?_
  have hjj : x1.toNatClampNeg = j := by rw [hxj]; exact nI_clamp (by omega)
  obtain ⟨e1, e2⟩ := gx_chr_ok k hk4 x1.toNatClampNeg (by rw [hjj]; exact hj)
  refine lv_i2c (v := gx_chr k x1.toNatClampNeg) hx hb d_Sl_charAt_13 e1 ?_
  exact W.zret (v := gx_chr k x1.toNatClampNeg) (ty := .char) hx hb hr e2 (fun t ht hW => ⟨⟨gx_chr k x1.toNatClampNeg, (), rfl, h, by rw [ht]; exact hP, hD⟩, hS.F ht⟩) hS.2.2 d_Sl_charAt_14 hlocks
def y_Sg_charAt : MethodName := ⟨"java/lang/String", "charAt", "(I)C"⟩
def wp_Sg_charAt_0 (post : Int32 → Prop) (k : Nat) (x1 : Int32) : Prop := k < 4 ∧ vp_in x1 (gx_ln k) ∧ post (gx_chr k x1.toNatClampNeg)
theorem d_Sg_charAt_0 : decode prog_17_method_56_code 0 = .ok (.aload_n 0, 1) := by decide +kernel
theorem d_Sg_charAt_1 : decode prog_17_method_56_code 1 = .ok (.invokevirtual 492, 3) := by decide +kernel
theorem d_Sg_charAt_4 : decode prog_17_method_56_code 4 = .ok (.ifCond .eq 12, 3) := by decide +kernel
theorem d_Sg_charAt_7 : decode prog_17_method_56_code 7 = .ok (.aload_n 0, 1) := by decide +kernel
theorem d_Sg_charAt_8 : decode prog_17_method_56_code 8 = .ok (.getfield 9, 3) := by decide +kernel
theorem d_Sg_charAt_11 : decode prog_17_method_56_code 11 = .ok (.iload_n 1, 1) := by decide +kernel
theorem d_Sg_charAt_12 : decode prog_17_method_56_code 12 = .ok (.invokestatic 495, 3) := by decide +kernel
theorem d_Sg_charAt_15 : decode prog_17_method_56_code 15 = .ok (.ireturn, 1) := by decide +kernel
set_option maxHeartbeats 4000000 in
set_option maxRecDepth 100000 in
theorem c_Sg_charAt (l : Launch) (dC : Nat → ClassId) (dI : Nat → Nat → Nat) (cI cJ cC : ClassId) (adK adV : Nat → Nat) (post : Int32 → Prop) (k : Nat) (x1 : Int32) (sz : Nat) (h : wp_Sg_charAt_0 post k x1) : Met l y_Sg_charAt (.code y_Sg_charAt prog_17_method_56_code 2 (Option.some Jvm.ClassFile.FieldType.char) :: gx_G) ({ frames := 3, cells := 0, slots := 0, locals := 64 }) (va_Pc [.ref (adK k), .int x1] (fun U => U.heap.size = sz ∧ va_P (dC, dI) classes [] U.heap ∧ gx_K dC dI cI cJ cC U ∧ va_D (fun _ => True) [] ∧ gx_Z adK adV (va_A [] sz) U)) (va_Qi (fun (r : Int32) (u : Unit) => post r) (fun (u : Unit) (t : State) => va_P (dC, dI) classes [] t.heap ∧ va_D (va_A [] sz) []) (va_A [] sz)) 0 0 (va_A [] sz) := by
  refine va_MetF (cc := prog_17_method_56_code) (maxL := 2) (ret := (Option.some Jvm.ClassFile.FieldType.char)) (by decide +kernel) rfl ?_
  intro p e s m args below meth c s₁ B hml hv
  obtain ⟨rfl, hsz, hP, hN, hD0, hZ⟩ := hv
  have hK := hN.1
  have hts := atoms_spec (ws := (.code y_Sg_charAt prog_17_method_56_code 2 (Option.some Jvm.ClassFile.FieldType.char) :: gx_G)) B.pre
  have hG : ∀ w ∈ gx_G, w.before _ s = true := fun w hw => hts w (List.mem_cons_of_mem _ hw)
  have hx := B.exec
  have hb := B.bytes
  have hr := B.returns
  have hown : s.vm.findClass "java/lang/String" = some m.cls := findClass_of_methodNamed B.named
  have hlocks := B.notSynchronized
  subst hsz
  have hD := hD0.self (sz := s.heap.size)
  generalize hAe : va_A [] s.heap.size = A at hD hZ ⊢
  have hA : ∀ q : Nat, s.heap.size ≤ q → A q := fun q h => by rw [← hAe]; exact Or.inr h
  have hS : va_S A s.heap s.heap [] := va_S.rf
  have hl := lv_entry ([.ref (adK k), .int x1]) (n := 2) (Nat.le_of_ble_eq_true rfl)
  rw [lg_entry_eq]
  generalize (lg_sl ([.ref (adK k), .int x1]) ++ List.replicate (2 - (lg_sl ([.ref (adK k), .int x1])).length) Slot.unset).toArray = ls at hl ⊢
  have hl : lv_has ls 2 [(0, .ref (adK k)), (1, .int x1)] := hl
  refine lv_aload_n hx hb d_Sg_charAt_0 rfl (lv_at hl 0 rfl) ?_
  have hPc := hP.sub (ws' := []) [] rfl
  have hDc := hD.sub (ws' := []) [] (by decide) rfl
  have hFc := va_free (wc := []) hD hS hA [] rfl
  refine va_calli (va_runV (As := []) (rest := []) ⟨hx, hb, hml, hown, hG⟩ (c_Sg_isLatin1 l dC dI cI cJ cC adK adV (fun r => r = 1) k s.heap.size ⟨h.1, rfl⟩) (gx_cwV (own := "java/lang/String") 0 hG mw_305 mw_306 mw_307 mw_9 mw_308 (by decide +kernel) ⟨(Nat.le_of_ble_eq_true rfl), (Nat.le_of_ble_eq_true rfl)⟩) ⟨fun a U g mk q => by obtain ⟨q0, q1, qP, qK, qD, qZ⟩ := q; exact ⟨q0, q1, qP, gx_K.same (u := U) (U := U.calling g mk a) rfl qK, qD, gx_Z.same (u := U) (U := U.calling g mk a) rfl rfl qZ⟩, vk_recv hZ.1 h.1 hS, fun U hU hW => ⟨rfl, by rw [hU], by rw [hU]; exact hPc, gx_K.moved hW hN, hDc.weaken (fun _ _ _ _ => trivial), hZ.step hS hU hW hFc⟩⟩ rfl rfl hl.1 rfl (lv_room (Nat.le_of_ble_eq_true rfl)) d_Sg_charAt_1 ⟨(Nat.le_of_ble_eq_true rfl), (Nat.le_of_ble_eq_true rfl)⟩) hS (fun q _ h => hFc q h) hFc (fun r u t H1 locs ht hvm hw hB hz1 hk1 hS => ?_)
  obtain ⟨hP1, hD1⟩ := hB
  rw [ht] at hP1
  obtain ⟨hP, hD⟩ := va_join (wr := []) (w1 := []) hP hD [] [] rfl rfl (by decide) (by decide) hk1 hFc hP1 hD1
  clear hPc hDc hFc hk1 hP1 hD1 ht hvm
  generalize H1 = H at hP hS ⊢
  have h9 : r = 1 := hw
  subst h9
  refine lv_if_eq (tgt := 16) hx hb d_Sg_charAt_4 (by decide) (fun c_ => absurd c_ (by decide)) (fun c_ => ?_)
  refine lv_aload_n hx hb d_Sg_charAt_7 rfl (lv_at hl 0 rfl) ?_
  refine vk_getf (own := "java/lang/String") hx hb (hZ.1.1 k h.1).2.2.1 hS hown (hG _ mw_974) (fun _ h9 => h9) d_Sg_charAt_8 ?_
  refine lv_iload_n hx hb d_Sg_charAt_11 rfl (lv_at hl 1 rfl) ?_
  have hPc := hP.sub (ws' := []) [] rfl
  have hDc := hD.sub (ws' := []) [] (by decide) rfl
  have hFc := va_free (wc := []) hD hS hA [] rfl
  refine va_calli (va_runS (As := [.ref (adV k), .int x1]) (rest := []) ⟨hx, hb, hml, hown, hG⟩ (c_Sl_charAt l dC dI cI cJ cC adK adV (fun r => r = gx_chr k x1.toNatClampNeg) k x1 H.size ⟨h.1, h.2.1, rfl⟩) (gx_cwS (own := "java/lang/String") 2 hG mw_309 mw_310 mw_10 mw_311 (by decide +kernel) ⟨(Nat.le_of_ble_eq_true rfl), (Nat.le_of_ble_eq_true rfl)⟩) ⟨fun a U g mk q => by obtain ⟨q0, q1, qP, qK, qD, qZ⟩ := q; exact ⟨q0, q1, qP, gx_K.same (u := U) (U := U.calling g mk a) rfl qK, qD, gx_Z.same (u := U) (U := U.calling g mk a) rfl rfl qZ⟩, fun U hU hW => ⟨rfl, by rw [hU], by rw [hU]; exact hPc, gx_K.moved hW hN, hDc.weaken (fun _ _ _ _ => trivial), hZ.step hS hU hW hFc⟩⟩ rfl rfl hl.1 rfl (lv_room (Nat.le_of_ble_eq_true rfl)) d_Sg_charAt_12 ⟨(Nat.le_of_ble_eq_true rfl), (Nat.le_of_ble_eq_true rfl)⟩) hS (fun q _ h => hFc q h) hFc (fun r u t H1 locs ht hvm hw hB hz1 hk1 hS => ?_)
  obtain ⟨hP1, hD1⟩ := hB
  rw [ht] at hP1
  obtain ⟨hP, hD⟩ := va_join (wr := []) (w1 := []) hP hD [] [] rfl rfl (by decide) (by decide) hk1 hFc hP1 hD1
  clear hPc hDc hFc hk1 hP1 hD1 ht hvm
  generalize H1 = H at hP hS ⊢
  have h9 : r = gx_chr k x1.toNatClampNeg := hw
  subst h9
  obtain ⟨hk4, hin, h⟩ := h
  have hlnb : gx_ln k < 2 ^ 31 := by
    have hb6 : ∀ k : Fin 4, gx_ln k.val ≤ 6 := by decide +kernel
    have hb6 := hb6 ⟨k, hk4⟩
    dsimp only at hb6
    omega
  obtain ⟨j, hj, hxj⟩ := vp_in_of hin hlnb
  have hjj : x1.toNatClampNeg = j := by rw [hxj]; exact nI_clamp (by omega)
  obtain ⟨-, e2⟩ := gx_chr_ok k hk4 x1.toNatClampNeg (by rw [hjj]; exact hj)
  exact W.zret (v := gx_chr k x1.toNatClampNeg) (ty := .char) hx hb hr e2 (fun t ht hW => ⟨⟨gx_chr k x1.toNatClampNeg, (), rfl, h, by rw [ht]; exact hP, hD⟩, hS.F ht⟩) hS.2.2 d_Sg_charAt_15 hlocks

