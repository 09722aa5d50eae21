/-! What is thrown out of a call is caught in the caller, whose catch classes may still be unresolved. Own work. -/
/-- the way of the search through a table, all of whose rows cover the place, down to the row that takes the object -/
def gx_seek (pl : Platform) (s : State) (d : ClassId) (pc : Nat) (thrown : ClassId) : List ExceptionTableEntry → Nat → Prop
  | [], _ => False
  | y :: t, h => covers y pc = true ∧ y.catchType ≠ 0 ∧ ∃ c, s.vm.ClassLinks pl d y.catchType c ∧ ((s.vm.assignable thrown c = true ∧ h = y.handlerPc) ∨ (s.vm.assignable thrown c = false ∧ gx_seek pl s d pc thrown t h))
theorem gx_find {e : Env} {s : State} {f : JFrame} {a : Addr} {cell : Cell} (hobj : ∀ k, cell.vm ≠ .statics k) {k0 : Class} (hk0 : s.vm.classes[cell.cls]? = some k0) {h : Nat} :
    ∀ (tab : List ExceptionTableEntry) (S : State), s.WarmedH S.vm → S.heap[a]? = some cell → gx_seek e.platform s f.method.cls f.pc cell.cls tab h →
      ∃ vm', s.WarmedH vm' ∧ ∀ (Q : Handler → Pre) (E : CtlPost) (d : Bool) (acts : List Action), wp (findHandler.go f a tab) Q E e d acts S ↔ Q (.found h) d acts (S.setVm vm') := by
  intro tab
  induction tab with
  | nil => intro S _ _ hs; exact hs.elim
  | cons y t ih =>
    intro S hW hcell hs
    obtain ⟨hcov, h0, c, hl, hor⟩ := hs
    have hlS := hW.classLinks hl
    obtain ⟨dk, _, _, kt, hd, _, _, _, _, hkt, _, hopen⟩ := hl.here
    have hW1 : s.WarmedH (S.vm.noted f.method.cls y.catchType (.cls c)) := hW.noted hd hopen (State.rightAt_cls hl)
    obtain ⟨k1, hk1, -⟩ := hW1.alike.2.2 _ _ hk0
    obtain ⟨k2, hk2, -⟩ := hW1.alike.2.2 _ _ hkt
    obtain ⟨ra, rt⟩ := (resolveClass_links e.toSetting hlS).op (op := VmOp.resolveClass f.method.cls y.catchType) rfl
    simp only [covers] at hcov
    rcases hor with ⟨hfit, rfl⟩ | ⟨hno, hrest⟩
    · have hf : (S.vm.noted f.method.cls y.catchType (.cls c)).assignable cell.cls c = true := by rw [hW1.alike.assignable]; exact hfit
      refine ⟨_, hW1, fun Q E d acts => ?_⟩
      simp [findHandler.go, hcov, h0, ra, rt, hcell, hobj, hk1, hk2, hf, VmOp.dirties, VmOp.acts]
    · have hf : (S.vm.noted f.method.cls y.catchType (.cls c)).assignable cell.cls c = false := by rw [hW1.alike.assignable]; exact hno
      obtain ⟨vm', hW', hq⟩ := ih (S.setVm (S.vm.noted f.method.cls y.catchType (.cls c))) hW1 hcell hrest
      refine ⟨vm', hW', fun Q E d acts => ?_⟩
      have h1 := hq Q E d acts
      simp [findHandler.go, hcov, h0, ra, rt, hcell, hobj, hk1, hk2, hf, VmOp.dirties, VmOp.acts]
      exact h1
section GXK
variable {p : Program} {l : Launch} {e : Env} {R : Room} {s : State} {m : MethodId} {args : Array Value} {below : List Frame} {meth : Method} {c : Code} {H : Heap} {locs : List Loc} {cells slots : Nat} {Q : State → Prop}
theorem gx_catch {pc h : Nat} {ls : Array Slot} {st0 : List Value} {x : Addr} {cell : Cell} (hcell : H[x]? = some cell) (hobj : cell.vm.isStatics = false) {k0 : Class} (hk0 : s.vm.classes[cell.cls]? = some k0)
    (hs : e.platform.magicAccessors = ({} : Platform).magicAccessors → gx_seek e.platform s m.cls pc cell.cls c.exceptionTable.toList h)
    (kk : W p l e R s m args below meth c H locs cells slots Q (F0 m h ls [.ref x])) : gx_WT p l e R s m args below meth c H locs cells slots Q (F0 m pc ls st0) x := by
  intro T hT X
  have hpl : e.platform.magicAccessors = ({} : Platform).magicAccessors := by rw [X.admits.platform]
  have hat : At T (F0 m pc ls st0).method c below := X.here
  obtain ⟨vm', hW', hq⟩ := gx_find (e := e) (f := F0 m pc ls st0) (a := x) (fun k => VmData.ne_statics_of hobj k) hk0 c.exceptionTable.toList ((T.setTop (F0 m pc ls st0)).pushFrame (.throwing x)) (by rw [Stand.throwing_vm]; exact X.warmed) (by rw [Stand.throwing_heap, hT]; exact hcell) (hs hpl)
  obtain ⟨t, a1, b1⟩ := kk (T.setVm vm') hT (X.noted hW')
  refine ⟨t, ?_, b1⟩
  obtain ⟨hgo, hw⟩ := hat.throwing x
  refine Steps.head hgo hw ?_
  have hm : ((T.setTop (F0 m pc ls st0)).pushFrame (.throwing x)).vm.method? (F0 m pc ls st0).method = some meth := by rw [Stand.throwing_vm]; exact X.method'
  have hstep : (stepThrowing e ((T.setTop (F0 m pc ls st0)).pushFrame (.throwing x)) x (.java (F0 m pc ls st0) :: T.frames.tail)).Is ((((T.setTop (F0 m pc ls st0)).pushFrame (.throwing x)).setVm vm').setFrames (.java (F0 m h ls [.ref x]) :: T.frames.tail)) [] := by
    simp only [stepThrowing, searchFrame, vmDo]
    generalize hr : Sem.go _ e false [] _ = res
    obtain ⟨as, rfl, ha⟩ := Sem.eq_ok_of hr (a := Handler.found h) (s' := ((T.setTop (F0 m pc ls st0)).pushFrame (.throwing x)).setVm vm') (acts' := []) (by simp [W.findHandler_eq hm X.code, hq])
    exact ⟨rfl, ha⟩
  rw [stepThread_throwing (frames_entered hat.top _), hstep.1]
  obtain ⟨g₀, hr⟩ := X.frames_eq
  have hr' : (T.setVm vm').frames = .java g₀ :: below := hr
  have e1 : (((T.setTop (F0 m pc ls st0)).pushFrame (.throwing x)).setVm vm').setFrames (.java (F0 m h ls [.ref x]) :: T.frames.tail) = (T.setVm vm').setTop (F0 m h ls [.ref x]) := by
    rw [State.setTop_of_frames _ hr', hr, List.tail_cons, State.pushFrame, State.setTop_of_frames _ hr]
    show ((((T.setFrames _).setFrames _).setVm vm').setFrames _) = _
    rw [State.setFrames_setFrames]
    show ((T.setVm vm').setFrames _).setFrames _ = _
    rw [State.setFrames_setFrames]
  rw [e1]
  exact a1
end GXK
