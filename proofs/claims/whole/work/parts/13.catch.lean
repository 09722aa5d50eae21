/-! What is thrown out of a call is caught in the caller, whose catch classes may still be unresolved. Own work. -/
/-- the way of the search through a table, all of whose rows cover the place, down to the row that takes the object -/
def gx_seek (pl : Platform) (s : State) (d : ClassId) (pc : Nat) (thrown : ClassId) : List ExceptionTableEntry → Nat → Prop
  | [], _ => False
  | y :: t, h => covers y pc = true ∧ y.catchType ≠ 0 ∧ ∃ c, s.vm.ClassLinks pl d y.catchType c ∧ ((s.vm.assignable thrown c = true ∧ h = y.handlerPc) ∨ (s.vm.assignable thrown c = false ∧ gx_seek pl s d pc thrown t h))
theorem gx_find {e : Env} {s : State} {f : JFrame} {a : Addr} {cell : Cell} (hobj : ∀ k, cell.vm ≠ .statics k) {k0 : Class} (hk0 : s.vm.classes[cell.cls]? = some k0) {h : Nat} :
    ∀ (tab : List ExceptionTableEntry) (S : State), s.WarmedH S.vm → S.heap[a]? = some cell → gx_seek e.platform s f.method.cls f.pc cell.cls tab h →
      ∃ vm', s.WarmedH vm' ∧ ∀ (Q : Handler → Pre) (E : CtlPost) (d : Bool) (acts : List Action), wp (findHandler.go f a tab) Q E e d acts S ↔ Q (.found h) d acts (S.setVm vm') := by
  intro tab
  induction tab with
  | nil => intro S _ _ hs; exact hs.elim
  | cons y t ih =>
    intro S hW hcell hs
    obtain ⟨hcov, h0, c, hl, hor⟩ := hs
    have hlS := hW.classLinks hl
    obtain ⟨dk, _, _, kt, hd, _, _, _, _, hkt, _, hopen⟩ := hl.here
    have hW1 : s.WarmedH (S.vm.noted f.method.cls y.catchType (.cls c)) := hW.noted hd hopen (State.rightAt_cls hl)
    obtain ⟨k1, hk1, -⟩ := hW1.alike.2.2 _ _ hk0
    obtain ⟨k2, hk2, -⟩ := hW1.alike.2.2 _ _ hkt
    obtain ⟨ra, rt⟩ := (resolveClass_links e.toSetting hlS).op (op := VmOp.resolveClass f.method.cls y.catchType) rfl
    simp only [covers] at hcov
    rcases hor with ⟨hfit, rfl⟩ | ⟨hno, hrest⟩
    · have hf : (S.vm.noted f.method.cls y.catchType (.cls c)).assignable cell.cls c = true := by rw [hW1.alike.assignable]; exact hfit
      refine ⟨_, hW1, fun Q E d acts => ?_⟩
      simp [findHandler.go, hcov, h0, ra, rt, hcell, hobj, hk1, hk2, hf, VmOp.dirties, VmOp.acts]
    · have hf : (S.vm.noted f.method.cls y.catchType (.cls c)).assignable cell.cls c = false := by rw [hW1.alike.assignable]; exact hno
      obtain ⟨vm', hW', hq⟩ := ih (S.setVm (S.vm.noted f.method.cls y.catchType (.cls c))) hW1 hcell hrest
      refine ⟨vm', hW', fun Q E d acts => ?_⟩
      have h1 := hq Q E d acts
      simp [findHandler.go, hcov, h0, ra, rt, hcell, hobj, hk1, hk2, hf, VmOp.dirties, VmOp.acts]
      exact h1
section GXK
variable {p : Program} {l : Launch} {e : Env} {R : Room} {s : State} {m : MethodId} {args : Array Value} {below : List Frame} {meth : Method} {c : Code} {H : Heap} {locs : List Loc} {cells slots : Nat} {Q : State → Prop}
theorem gx_catch {pc h : Nat} {ls : Array Slot} {st0 : List Value} {x : Addr} {cell : Cell} (hcell : H[x]? = some cell) (hobj : cell.vm.isStatics = false) {k0 : Class} (hk0 : s.vm.classes[cell.cls]? = some k0)
    (hs : e.platform.magicAccessors = ({} : Platform).magicAccessors → gx_seek e.platform s m.cls pc cell.cls c.exceptionTable.toList h)
    (kk : W p l e R s m args below meth c H locs cells slots Q (F0 m h ls [.ref x])) : gx_WT p l e R s m args below meth c H locs cells slots Q (F0 m pc ls st0) x := by
  intro T hT X
  have hpl : e.platform.magicAccessors = ({} : Platform).magicAccessors := by rw [X.admits.platform]
  have hat : At T (F0 m pc ls st0).method c below := X.here
  obtain ⟨vm', hW', hq⟩ := gx_find (e := e) (f := F0 m pc ls st0) (a := x) (fun k => VmData.ne_statics_of hobj k) hk0 c.exceptionTable.toList ((T.setTop (F0 m pc ls st0)).pushFrame (.throwing x)) (by rw [Stand.throwing_vm]; exact X.warmed) (by rw [Stand.throwing_heap, hT]; exact hcell) (hs hpl)
  obtain ⟨t, a1, b1⟩ := kk (T.setVm vm') hT (X.noted hW')
  refine ⟨t, ?_, b1⟩
  obtain ⟨hgo, hw⟩ := hat.throwing x
  refine Steps.head hgo hw ?_
  have hm : ((T.setTop (F0 m pc ls st0)).pushFrame (.throwing x)).vm.method? (F0 m pc ls st0).method = some meth := by rw [Stand.throwing_vm]; exact X.method'
  have hstep : (stepThrowing e ((T.setTop (F0 m pc ls st0)).pushFrame (.throwing x)) x (.java (F0 m pc ls st0) :: T.frames.tail)).Is ((((T.setTop (F0 m pc ls st0)).pushFrame (.throwing x)).setVm vm').setFrames (.java (F0 m h ls [.ref x]) :: T.frames.tail)) [] := by
    simp only [stepThrowing, searchFrame, vmDo]
    generalize hr : Sem.go _ e false [] _ = res
    obtain ⟨as, rfl, ha⟩ := Sem.eq_ok_of hr (a := Handler.found h) (s' := ((T.setTop (F0 m pc ls st0)).pushFrame (.throwing x)).setVm vm') (acts' := []) (by simp [W.findHandler_eq hm X.code, hq])
    exact ⟨rfl, ha⟩
  rw [stepThread_throwing (frames_entered hat.top _), hstep.1]
  obtain ⟨g₀, hr⟩ := X.frames_eq
  have hr' : (T.setVm vm').frames = .java g₀ :: below := hr
  have e1 : (((T.setTop (F0 m pc ls st0)).pushFrame (.throwing x)).setVm vm').setFrames (.java (F0 m h ls [.ref x]) :: T.frames.tail) = (T.setVm vm').setTop (F0 m h ls [.ref x]) := by
    rw [State.setTop_of_frames _ hr', hr, List.tail_cons, State.pushFrame, State.setTop_of_frames _ hr]
    show ((((T.setFrames _).setFrames _).setVm vm').setFrames _) = _
    rw [State.setFrames_setFrames]
    show ((T.setVm vm').setFrames _).setFrames _ = _
    rw [State.setFrames_setFrames]
  rw [e1]
  exact a1
end GXK
/-! the ends of methods that may throw -/
def gx_Qxi {S : Type} (post : Int32 → S → Prop) (px : Nat → Prop) (B : S → State → Prop) (A : Nat → Prop) : Array Value → State → Outcome → State → Prop := fun _ st o t => ((∃ (r : Int32) (u : S), o = .returned (some (.int r)) ∧ post r u ∧ B u t) ∨ (∃ (x : Addr) (k : Nat), o = .threw x ∧ px k ∧ gx_E k x t ∧ ∀ q : Nat, q < st.heap.size → t.heap[q]? = st.heap[q]?)) ∧ va_F A st t
def gx_Qxv {S : Type} (post : S → Prop) (px : Nat → Prop) (B : S → State → Prop) (A : Nat → Prop) : Array Value → State → Outcome → State → Prop := fun _ st o t => ((∃ u : S, o = .returned none ∧ post u ∧ B u t) ∨ (∃ (x : Addr) (k : Nat), o = .threw x ∧ px k ∧ gx_E k x t ∧ ∀ q : Nat, q < st.heap.size → t.heap[q]? = st.heap[q]?)) ∧ va_F A st t
theorem gx_old {s t : State} {k n : Nat} (h : s.sameButNew ({ t with vm := s.vm } : State) [] k n) : ∀ q : Nat, q < s.heap.size → t.heap[q]? = s.heap[q]? := by
  intro q hq
  obtain ⟨cell, hc⟩ : ∃ cell, s.heap[q]? = some cell := ⟨_, Array.getElem?_eq_getElem hq⟩
  obtain ⟨c', h1, h2, h3, h4⟩ := h.2.2.2.2.2 q cell hc
  have h1 : t.heap[q]? = some c' := h1
  have hsl : c'.slots = cell.slots := by
    apply Array.ext_getElem?
    intro i
    exact h4 i (fun z => by cases z)
  rw [h1, hc, h2, hsl]
theorem gx_oldF {A : Nat → Prop} {s t : State} {k n : Nat} (h : s.sameButNew ({ t with vm := s.vm } : State) [] k n) : va_F A s t := ⟨h.2.1, fun q hq _ => gx_old h q hq⟩
theorem gx_nil {L : List Loc} {free : Addr → Prop} (hf : ∀ q, ¬ free q) (h : ∀ q ∈ L, free q.base) : L = [] := List.eq_nil_iff_forall_not_mem.mpr (fun q hq => hf _ (h q hq))
theorem gx_Sx {A A1 : Nat → Prop} {s st t : State} {H H1 : Heap} {locs L : List Loc} (hS : va_S A s.heap H locs) (hst : st.heap = H) (ht : t.heap = H1) (hF : va_F A1 st t) (hA : ∀ q, A1 q → A q) (hL : ∀ q ∈ L, A q.base) : va_S A s.heap H1 (locs ++ L) := by
  subst hst; subst ht
  refine ⟨Nat.le_trans hS.1 hF.1, fun q h1 h2 => ?_, fun q hq => (List.mem_append.mp hq).elim (hS.2.2 q) (hL q)⟩
  rw [hF.2 q (Nat.lt_of_lt_of_le h1 hS.1) (fun z => h2 (hA q z))]
  exact hS.2.1 q h1 h2
theorem gx_E.moved {k : Nat} {x : Addr} {s t t' : State} (hh : t'.heap = t.heap) (h1 : s.WarmedH t.vm) (h2 : s.WarmedH t'.vm) (h : gx_E k x t) : gx_E k x t' := by
  obtain ⟨cell, a, b, c⟩ := h
  refine ⟨cell, by rw [hh]; exact a, b, ?_⟩
  rw [h2.alike.findClass, ← h1.alike.findClass]
  exact c
section GXL
variable {p : Program} {l : Launch} {e : Env} {R : Room} {s : State} {m : MethodId} {args : Array Value} {below : List Frame} {meth : Method} {c : Code} {H : Heap} {locs : List Loc} {cells slots : Nat} {Q : State → Prop} {g : JFrame} {x : Addr}
theorem gx_WT.widen {k n : Nat} (h1 : cells ≤ k) (h2 : slots ≤ n) (kk : gx_WT p l e R s m args below meth c H locs k n Q g x) : gx_WT p l e R s m args below meth c H locs cells slots Q g x := fun T hT X => kk T hT (stand_widen X h1 h2)
end GXL
