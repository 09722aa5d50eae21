/-! A method that may throw: its contract, the call of it, the throw, the catch. Own work. -/
/-- a contract whose outcome Qc itself speaks of -/
def gx_MX (l : Launch) (y : MethodName) (ws : List Cond) (rm : Room) (Pc : Array Value → State → Prop) (Qc : Array Value → State → Outcome → State → Prop) (mc ms : Nat) (free : Addr → Prop) : Prop :=
  MetFree l y (headSpec ws rm) Pc (fun _ _ _ _ _ => True) (fun a st o t => Qc a st o t ∧ st.WarmedH t.vm ∧ ∃ L, st.sameButNew ({ t with vm := st.vm } : State) L mc ms ∧ ∀ q ∈ L, free q.base)
def gx_MQ (below : List Frame) (Qc : Array Value → State → Outcome → State → Prop) (a : Array Value) (s : State) (mc ms : Nat) (free : Addr → Prop) : State → Prop := fun t =>
  ∃ o, t.status = .running ∧ Ended t below o ∧ Qc a s o t ∧ s.WarmedH t.vm ∧ ∃ L, s.sameButNew ({ t with vm := s.vm } : State) L mc ms ∧ ∀ q ∈ L, free q.base
section GXX
variable {p : Program} {l : Launch} {e : Env} {R : Room} {s : State} {m : MethodId} {args : Array Value} {below : List Frame} {meth : Method} {c : Code} {T : State} {H : Heap} {locs : List Loc} {cells slots : Nat} {Q : State → Prop}
variable {y : MethodName} {ws ws' : List Cond} {rm : Room} {Pc : Array Value → State → Prop} {Qc : Array Value → State → Outcome → State → Prop} {mc ms n : Nat} {free : Addr → Prop} {cc bytes : ByteArray} {maxL index nL : Nat} {ret : Option FieldType} {own C : String} {As rest : List Value} {b : Addr} {g : JFrame} {Ts : List Cond}
theorem gx_MX.ofW (hy : plainName y.cls = true) (hw : ws = Cond.code y cc maxL ret :: ws')
    (body : ∀ p e s m args below meth c s₁, BodyLoose p l y (headSpec ws rm) cc maxL ret e s m args below meth c s₁ → c.maxLocals = maxL → c.exceptionTable.isEmpty = true → Pc args s →
      W p l e (headSpec ws rm).room s m args below meth c s.heap [] 0 0 (gx_MQ below Qc args s mc ms free) (entryFrame m args maxL)) : gx_MX l y ws rm Pc Qc mc ms free := by
  refine MetFree.of_bodyS (code := cc) (maxLocals := maxL) (ret := ret) hy ?_ ?_
  · intro args s m h hn
    obtain ⟨meth, c, h1, h2, h3, h4, h5, h6, -, -⟩ := Cond.code_spec hn (atoms_spec (ws := ws) h _ (by rw [hw]; exact List.mem_cons_self))
    exact ⟨meth, c, h1, h2, h3, h4, h5, h6⟩
  · intro p e s m args below meth c s₁ B hml hP _
    have hh0 : s₁.heap = s.heap := by rw [B.state]; rfl
    have hx0 := BodyLoose.noHandlers B (atoms_spec (ws := ws) B.pre _ (by rw [hw]; exact List.mem_cons_self))
    obtain ⟨t, a1, o, b1, b2, b3⟩ := body p e s m args below meth c s₁ B hml hx0 hP s₁ hh0 (Stand.of_body B)
    exact ⟨t, o, a1, b1, b2, b3⟩
theorem gx_mono {Q' : State → Prop} (h : ∀ t, Q t → Q' t) (k : W p l e R s m args below meth c H locs cells slots Q g) : W p l e R s m args below meth c H locs cells slots Q' g := fun T hT X => by
  obtain ⟨t, a1, b1⟩ := k T hT X
  exact ⟨t, a1, h t b1⟩
theorem gx_ofMQ {a : Array Value} : ∀ t, MQ below Qc a s mc ms free t → gx_MQ below Qc a s mc ms free t := by
  intro t h
  obtain ⟨o, h1, h2, h3, L, h4, h5⟩ := h
  exact ⟨o, h1, h2, h3, h4.2.1, L, h4.2.2, h5⟩
/-- the state in which x is on its way through the frame g -/
def gx_WT (p : Program) (l : Launch) (e : Env) (R : Room) (s : State) (m : MethodId) (args : Array Value) (below : List Frame) (meth : Method) (c : Code) (H : Heap) (locs : List Loc) (cells slots : Nat) (Q : State → Prop) (g : JFrame) (x : Addr) : Prop :=
  ∀ T : State, T.heap = H → Stand p l e R s m args below meth c T locs cells slots → ∃ t, Steps p.tables e below ((T.setTop g).pushFrame (.throwing x)) t ∧ Q t
theorem gx_xcall (X : Stand p l e R s m args below meth c T locs cells slots) (hM : gx_MX l y ws rm Pc Qc mc ms free) (cb : CallB R s args own index y bytes maxL ret ws rm mc ms n) (hbl : FrameBlind Pc)
    (hg : g.method = m) (hsize : g.locals.size = c.maxLocals) {ig : Instr} {len : Nat} (hdg : decode c.code g.pc = .ok (ig, len)) (hW : 2 * g.monitorRoom + (g.stack.map fun v => v.category).sum ≤ 8) {mk : MethodId} (hn : T.methodNamed? y = some mk) {a : Array Value} (hf : cells + mc ≤ R.cells ∧ slots + ms ≤ R.slots) (hPc : Pc a T) :
    ∃ (o : Outcome) (t T' : State) (L : List Loc), Stand p l e R s m args below meth c T' (locs ++ L) (cells + mc) (slots + ms) ∧ (∀ q ∈ L, free q.base) ∧ T'.heap = t.heap ∧ T'.vm = t.vm ∧ Qc a (T.calling g mk a) o t ∧
      ((∃ v, o = .returned v ∧ Steps p.tables e below (doInvoke e (T.setTop g) [] mk a).1 (T'.setTop { g with pc := g.pc + len, stack := v.toList ++ g.stack })) ∨ (∃ x, o = .threw x ∧ Steps p.tables e below (doInvoke e (T.setTop g) [] mk a).1 ((T'.setTop g).pushFrame (.throwing x)))) := by
  obtain ⟨hrc, hrs, hfr, hlo, hws, hcw, -, hini, hy, hlen, hl⟩ := cb
  have h1 : (headSpec ws rm).pre.before a T = true := atoms_intro fun w hw => hws w hw _ _ X.warmed
  have h2 := hws _ hcw a T X.warmed
  have h3 : (Cond.initialized y.cls).before a T = true := word_at X.warmed (Or.inl (by first | rfl | simp [Cond.onTables, Cond.keeps, Cond.steady])) hini
  obtain ⟨methY, cY, hmY, hcY, -, hlY, -, -, -, -⟩ := Cond.code_spec hn h2
  obtain ⟨kY, hkY, -⟩ := className_of_methodNamed hn
  have hinitY : kY.init = .initialized := Cond.initialized_spec (findClass_of_methodNamed hn) hkY h3
  have h : At T g.method c below := by rw [hg]; exact X.here
  have happ : (headSpec ws rm).appliesLoose y e.platform (T.calling g mk a) = true :=
    Spec.appliesLoose_calling (g := g) h hdg hn hkY hinitY
      (X.room_calling (g := g) (R' := rm) hsize hmY hcY hfr (by rw [hlY]; omega) (by rw [hrc]; exact hf.1) (by rw [hrs]; exact hf.2)) h1
  obtain ⟨mid, hmid⟩ := h.above
  have hfr' : (T.setTop g).frames = (.java g :: mid) ++ below := by rw [State.frames_setTop' g h.top, hmid]; rfl
  obtain ⟨o, s₂, hsteps, -, hend, hq⟩ := Steps.callFree hM p X.admits X.cas X.clock (acts := []) hfr' happ (hbl _ _ _ _ hPc) trivial
  rw [State.frames_setTop' g h.top, X.tail] at hend
  obtain ⟨hq, hW₂, L, hsame, hL⟩ := hq
  cases o with
  | returned v =>
    obtain ⟨T', X', -, -, rfl⟩ := X.outOf hg hdg (mk := mk) (a := a) hend hW₂ hsame
    exact ⟨.returned v, T'.setTop { g with pc := g.pc + len, stack := v.toList ++ g.stack }, T', L, X', hL, rfl, rfl, hq, Or.inl ⟨v, rfl, hsteps⟩⟩
  | threw x =>
    obtain ⟨T', X', -, -, rfl⟩ := X.outOfThrown hg (mk := mk) (a := a) hend hW₂ hsame
    exact ⟨.threw x, (T'.setTop g).pushFrame (.throwing x), T', L, X', hL, (Stand.throwing_heap T' g x).symm, (Stand.throwing_vm T' g x).symm, hq, Or.inr ⟨x, rfl, hsteps⟩⟩
/-- invokevirtual of a method that may throw -/
theorem gx_callXV (S : CallFix p m c cc nL s args Ts own) (hM : gx_MX l y ws rm Pc Qc mc ms free) (cw : CallW R s args own C index y bytes maxL ret ws rm mc ms n) (hp : PreV s H C b Pc As)
    (hg : g.method = m) (hn : As.length = n) (hsize : g.locals.size = nL) (hstack : g.stack = As.reverse ++ .ref b :: rest) (hW : 2 * g.monitorRoom + (rest.map fun v => v.category).sum ≤ 8) (hdg : decode cc g.pc = .ok (.invokevirtual index, 3)) (hf : cells + mc ≤ R.cells ∧ slots + ms ≤ R.slots)
    (kk : ∀ (o : Outcome) (st₀ t : State) (H1 : Heap) (L : List Loc), st₀.heap = H → t.heap = H1 → s.WarmedH t.vm → Qc (Value.ref b :: As).toArray st₀ o t → (∀ q ∈ L, free q.base) →
      (∀ v, o = .returned v → W p l e R s m args below meth c H1 (locs ++ L) (cells + mc) (slots + ms) Q { g with pc := g.pc + 3, stack := v.toList ++ rest }) ∧
      (∀ x, o = .threw x → gx_WT p l e R s m args below meth c H1 (locs ++ L) (cells + mc) (slots + ms) Q { g with stack := rest } x)) : W p l e R s m args below meth c H locs cells slots Q g := by
  obtain ⟨cb, hinst, hsel⟩ := cw
  obtain ⟨-, -, -, -, -, -, hcode, -, hy, hlen, hlink⟩ := id cb
  obtain ⟨hx, hb, hml, ho, -⟩ := S
  obtain ⟨hbl, ⟨cellB, hcB, hoB, hclB⟩, hPc⟩ := hp
  intro T hT X
  obtain ⟨mk, methM, hnamed, hmethM, hstM, habM⟩ := Cond.instanceMethod_spec hinst
  obtain ⟨methM', cM, hmethM', -, -, -, -, -, -, hsigM⟩ := Cond.code_spec hnamed hcode
  cases hmethM.symm.trans hmethM'
  obtain ⟨c2, r2, m2, q1, q2, q3, q4, kP, hkP, hkPi⟩ := Cond.selects_spec hsel
  cases hclB.symm.trans q1
  cases (State.methodFound?_of_named hnamed hy).symm.trans q2
  cases hnamed.symm.trans q3
  have hselP : selectMethod e.platform s.vm cellB.cls mk = .method mk := by rw [Launch.admits_selectMethod X.admits]; exact q4
  subst hb
  obtain ⟨vm₁, X₁, hstep₁⟩ := X.invokevirtual hx ho hlink hnamed hmethM hstM hkP hkPi hy (a := b) (cell := cellB) (by rw [hT]; exact hcB)
    (fun z h => by rw [h] at hoB; cases hoB) hselP hmethM habM hkP hkPi (g := g) hg (argsL := As) (rest := rest) (hn.trans (hlen _ hsigM)) hstack hdg
  obtain ⟨o, t, T', L, X', hL, e1, e2, hq, hor⟩ := gx_xcall X₁ hM cb hbl (g := { g with stack := rest }) hg (hsize.trans hml.symm) hdg hW (X₁.named hnamed) (a := (Value.ref b :: As).toArray) hf (hPc (T.setVm vm₁) hT X₁.warmed)
  obtain ⟨k1, k2⟩ := kk o ((T.setVm vm₁).calling { g with stack := rest } mk (Value.ref b :: As).toArray) t T'.heap L hT e1.symm (by rw [← e2]; exact X'.warmed) hq hL
  rcases hor with ⟨v, rfl, st⟩ | ⟨x, rfl, st⟩
  · obtain ⟨u, a1, b1⟩ := k1 v rfl T' rfl X'
    exact ⟨u, hstep₁ _ (fun acts => by rw [doInvoke_state]; exact st.trans a1), b1⟩
  · obtain ⟨u, a1, b1⟩ := k2 x rfl T' rfl X'
    exact ⟨u, hstep₁ _ (fun acts => by rw [doInvoke_state]; exact st.trans a1), b1⟩
/-- invokestatic of a method that may throw -/
theorem gx_callXS (S : CallFix p m c cc nL s args Ts own) (hM : gx_MX l y ws rm Pc Qc mc ms free) (cw : CallB R s args own index y bytes maxL ret ws rm mc ms n ∧ (Cond.static y).before args s = true) (hp : PreS s H Pc As)
    (hg : g.method = m) (hn : As.length = n) (hsize : g.locals.size = nL) (hstack : g.stack = As.reverse ++ rest) (hW : 2 * g.monitorRoom + (rest.map fun v => v.category).sum ≤ 8) (hdg : decode cc g.pc = .ok (.invokestatic index, 3)) (hf : cells + mc ≤ R.cells ∧ slots + ms ≤ R.slots)
    (kk : ∀ (o : Outcome) (st₀ t : State) (H1 : Heap) (L : List Loc), st₀.heap = H → t.heap = H1 → s.WarmedH t.vm → Qc As.toArray st₀ o t → (∀ q ∈ L, free q.base) →
      (∀ v, o = .returned v → W p l e R s m args below meth c H1 (locs ++ L) (cells + mc) (slots + ms) Q { g with pc := g.pc + 3, stack := v.toList ++ rest }) ∧
      (∀ x, o = .threw x → gx_WT p l e R s m args below meth c H1 (locs ++ L) (cells + mc) (slots + ms) Q { g with stack := rest } x)) : W p l e R s m args below meth c H locs cells slots Q g := by
  obtain ⟨cb, hstat⟩ := cw
  obtain ⟨-, -, -, -, -, -, hcode, hinit, hy, hlen, hlink⟩ := id cb
  obtain ⟨hx, hb, hml, ho, -⟩ := S
  obtain ⟨hbl, hPc⟩ := hp
  intro T hT X
  obtain ⟨mk, hnamed⟩ := Cond.code_named hcode
  obtain ⟨methM, cM, hmethM, -, -, -, -, -, -, hsigM⟩ := Cond.code_spec hnamed hcode
  have hstatic : methM.isStatic = true := Cond.static_spec hnamed hmethM hstat
  obtain ⟨kP, hkP, -⟩ := className_of_methodNamed hnamed
  have hinitP : kP.init = .initialized := Cond.initialized_spec (findClass_of_methodNamed hnamed) hkP hinit
  subst hb
  obtain ⟨vm₁, X₁, hstep₁⟩ := X.invokestatic hx ho hlink hnamed hmethM hstatic hkP hinitP hy (g := g) hg (argsL := As) (rest := rest) (hn.trans (hlen _ hsigM)) hstack hdg
  obtain ⟨o, t, T', L, X', hL, e1, e2, hq, hor⟩ := gx_xcall X₁ hM cb hbl (g := { g with stack := rest }) hg (hsize.trans hml.symm) hdg hW (X₁.named hnamed) (a := As.toArray) hf (hPc (T.setVm vm₁) hT X₁.warmed)
  obtain ⟨k1, k2⟩ := kk o ((T.setVm vm₁).calling { g with stack := rest } mk As.toArray) t T'.heap L hT e1.symm (by rw [← e2]; exact X'.warmed) hq hL
  rcases hor with ⟨v, rfl, st⟩ | ⟨x, rfl, st⟩
  · obtain ⟨u, a1, b1⟩ := k1 v rfl T' rfl X'
    exact ⟨u, hstep₁ _ (fun acts => by rw [doInvoke_state]; exact st.trans a1), b1⟩
  · obtain ⟨u, a1, b1⟩ := k2 x rfl T' rfl X'
    exact ⟨u, hstep₁ _ (fun acts => by rw [doInvoke_state]; exact st.trans a1), b1⟩
/-- no handler: the method ends so -/
theorem gx_WT.leave {pc : Nat} {ls : Array Slot} {st0 : List Value} {x : Addr} (hlocks : meth.locks = false) (hnone : c.exceptionTable.isEmpty = true) (hfree : ∀ q ∈ locs, free q.base)
    (hq : ∀ t : State, t.heap = H → s.WarmedH t.vm → s.sameButNew ({ t with vm := s.vm } : State) locs cells slots → Qc args s (.threw x) t) : gx_WT p l e R s m args below meth c H locs cells slots (gx_MQ below Qc args s cells slots free) (F0 m pc ls st0) x := by
  intro T hT X
  have hout : ∀ y ∈ c.exceptionTable.toList, covers y (F0 m pc ls st0).pc = false := by
    intro y hy
    have : c.exceptionTable.toList = [] := by simpa using hnone
    rw [this] at hy
    cases hy
  obtain ⟨h1, h2, h3, h4, h5⟩ := X.leaveThrown x (g := F0 m pc ls st0) rfl rfl rfl hout hlocks
  exact ⟨_, h1, .threw x, h2, h3, hq _ hT h4 h5, h4, locs, h5, hfree⟩

end GXX

/-- a static's place in the heap, in a cell that no method of ours writes -/
def gx_L (C n d : String) (A : Nat → Prop) (U : State) (H : Heap) : Prop := ∃ (c : ClassId) (k : Class) (i : Nat) (f : Field) (a : Nat) (cell : Cell), U.vm.findClass C = some c ∧ U.fieldFound? C n d = some (c, k, i, f) ∧ f.isStatic = true ∧ k.statics = some a ∧ H[a]? = some cell ∧ cell.vm.isStatics = true ∧ cell.cls = c ∧ f.slot < cell.slots.size ∧ k.staticTypes[f.slot]? = some f.type ∧ ¬ A a
theorem gx_L.of {args : Array Value} {s : State} {C n d : String} {A : Nat → Prop} (h : (Cond.laysStatic C n d).before args s = true) (hA : ∀ a : Nat, a < s.heap.size → ¬ A a) : gx_L C n d A s s.heap := by
  obtain ⟨c, k, i, f, a, cell, h1, h2, h3, h4, h5, h6, h7, h8, h9⟩ := Cond.laysStatic_spec h
  exact ⟨c, k, i, f, a, cell, h1, h2, h3, h4, h5, h6, h7, h8, h9, hA a (Array.getElem?_eq_some_iff.mp h5).1⟩
theorem gx_L.moved {C n d : String} {A : Nat → Prop} {u U : State} {H : Heap} (hvm : u.vm.Alike U.vm) (h : gx_L C n d A u H) : gx_L C n d A U H := by
  obtain ⟨c, k, i, f, a, cell, h1, h2, h3, h4, h5, h6, h7, h8, h9, h10⟩ := h
  obtain ⟨k', hi', he⟩ := State.fieldFound?_setVm hvm h2
  exact ⟨c, k', i, f, a, cell, by rw [hvm.findClass]; exact h1, hi', h3, by rw [he]; exact h4, h5, h6, h7, h8, by rw [he]; exact h9, h10⟩
theorem gx_L.kept {C n d : String} {A : Nat → Prop} {U : State} {H H1 : Heap} (h : gx_L C n d A U H) (hq : ∀ a : Nat, a < H.size → ¬ A a → H1[a]? = H[a]?) : gx_L C n d A U H1 := by
  obtain ⟨c, k, i, f, a, cell, h1, h2, h3, h4, h5, h6, h7, h8, h9, h10⟩ := h
  exact ⟨c, k, i, f, a, cell, h1, h2, h3, h4, by rw [hq a (Array.getElem?_eq_some_iff.mp h5).1 h10]; exact h5, h6, h7, h8, h9, h10⟩
theorem gx_L.narrow {C n d : String} {A B : Nat → Prop} {U : State} {H : Heap} (h : gx_L C n d A U H) (hAB : ∀ q, B q → A q) : gx_L C n d B U H := by
  obtain ⟨c, k, i, f, a, cell, h1, h2, h3, h4, h5, h6, h7, h8, h9, h10⟩ := h
  exact ⟨c, k, i, f, a, cell, h1, h2, h3, h4, h5, h6, h7, h8, h9, fun z => h10 (hAB a z)⟩
theorem gx_L.use {args : Array Value} {s : State} {C n d : String} {A : Nat → Prop} (h : gx_L C n d A s s.heap) : (Cond.laysStatic C n d).before args s = true := by
  obtain ⟨c, k, i, f, a, cell, h1, h2, h3, h4, h5, h6, h7, h8, h9, h10⟩ := h
  simp [Cond.before, Cond.holds, Cond.value, h1, h2, h3, h4, h5, h6, h7, h8, h9]

/-! what a throw rests on beside the words of gx_G -/
def gx_ex (k : Nat) : String := if k = 1 then "java/lang/IllegalStateException" else if k = 2 then "java/lang/IllegalArgumentException" else "java/lang/IndexOutOfBoundsException"
abbrev gx_up : List String := ["java/lang/RuntimeException", "java/lang/Exception"]
def gx_F : List Cond := [.declares ⟨"java/lang/RuntimeException", "<init>", "()V"⟩, .declares ⟨"java/lang/Exception", "<init>", "()V"⟩, .declares ⟨"java/lang/Throwable", "<init>", "()V"⟩, .castable "java/lang/IllegalStateException" "java/lang/IllegalStateException", .castable "java/lang/IllegalArgumentException" "java/lang/IllegalArgumentException", .castable "java/lang/IndexOutOfBoundsException" "java/lang/IndexOutOfBoundsException"]
def gx_R : List Cond := [.laysStatic "java/lang/Throwable" "UNASSIGNED_STACK" "[Ljava/lang/StackTraceElement;", .laysStatic "java/lang/Throwable" "SUPPRESSED_SENTINEL" "Ljava/util/List;", .isRef (.static "java/lang/Throwable" "UNASSIGNED_STACK" "[Ljava/lang/StackTraceElement;"), .isRef (.static "java/lang/Throwable" "SUPPRESSED_SENTINEL" "Ljava/util/List;")]
theorem gx_F_form : ∀ w ∈ gx_F, (∃ x, w = Cond.declares x) ∨ ∃ a b, w = Cond.castable a b := by
  intro w hw
  simp only [gx_F, List.mem_cons, List.not_mem_nil, or_false] at hw
  rcases hw with rfl | rfl | rfl | rfl | rfl | rfl
  · exact Or.inl ⟨_, rfl⟩
  · exact Or.inl ⟨_, rfl⟩
  · exact Or.inl ⟨_, rfl⟩
  · exact Or.inr ⟨_, _, rfl⟩
  · exact Or.inr ⟨_, _, rfl⟩
  · exact Or.inr ⟨_, _, rfl⟩
def gx_Y (A : Nat → Prop) (U : State) : Prop := (∀ w ∈ gx_F, va_Nw w U) ∧ va_Zq "java/lang/Throwable" "UNASSIGNED_STACK" "[Ljava/lang/StackTraceElement;" A U U.heap ∧ va_Zq "java/lang/Throwable" "SUPPRESSED_SENTINEL" "Ljava/util/List;" A U U.heap ∧
  va_Nc "java/lang/IllegalArgumentException" "java/lang/IllegalStateException" U ∧ va_Nc "java/lang/IllegalArgumentException" "java/lang/IndexOutOfBoundsException" U ∧ va_Nc "java/lang/IndexOutOfBoundsException" "java/lang/IllegalStateException" U ∧ gx_L "java/lang/Throwable" "UNASSIGNED_STACK" "[Ljava/lang/StackTraceElement;" A U U.heap ∧ gx_L "java/lang/Throwable" "SUPPRESSED_SENTINEL" "Ljava/util/List;" A U U.heap
theorem gx_Y.step {A A1 : Nat → Prop} {s U : State} {H : Heap} {locs : List Loc} (h : gx_Y A s) (hS : va_S A s.heap H locs) (hU : U.heap = H) (hW : s.vm.Alike U.vm) (hF : ∀ q, A1 q → A q) : gx_Y A1 U := by
  obtain ⟨h1, h2, h3, h4, h5, h6, h7, h8⟩ := h
  subst hU
  refine ⟨fun w hw => ?_, ((va_Zq.moved hW h2).kept hS.2.1).narrow hF, ((va_Zq.moved hW h3).kept hS.2.1).narrow hF, h4.moved hW, h5.moved hW, h6.moved hW, ((gx_L.moved hW h7).kept hS.2.1).narrow hF, ((gx_L.moved hW h8).kept hS.2.1).narrow hF⟩
  have h0 := h1 w hw
  rcases gx_F_form w hw with ⟨x, rfl⟩ | ⟨a, b, rfl⟩
  · exact va_tabs rfl (rfl : (s.setVm U.vm).vm = U.vm) ((Cond.declares_setVm (args := #[]) hW x).trans h0)
  · exact va_tabs rfl (rfl : (s.setVm U.vm).vm = U.vm) ((Cond.castable_setVm (args := #[]) hW a b).trans h0)
theorem gx_Y.same {A : Nat → Prop} {u U : State} (hv : u.vm = U.vm) (hh : U.heap = u.heap) (h : gx_Y A u) : gx_Y A U :=
  h.step (H := u.heap) (locs := []) va_S.rf hh (by rw [hv]; exact Vm.Alike.refl _) (fun _ q => q)
theorem gx_isRef {args : Array Value} {A : Nat → Prop} {s : State} {C n d : String} (h : va_Zq C n d A s s.heap) : (Cond.isRef (.static C n d)).before args s = true := by
  rcases h with ⟨cf, kf, fi, f, a, cell, h1, h2, h3, h4, h5, h6, h7, -⟩ | ⟨t, cf, kf, fi, f, a, cell, h1, h2, h3, h4, h5, h6, h7, -⟩ <;>
  simp [Cond.before, Cond.holds, Cond.value, Term.eval, State.fieldNamed?, h1, h2, h4, h5, h6, h7]
theorem gx_Y.atoms {A : Nat → Prop} {s : State} {args : Array Value} (h : gx_Y A s) (hG : ∀ w ∈ gx_G, w.before args s = true) {ws : List Cond} (hm : ∀ w ∈ ws, w ∈ gx_G ∨ w ∈ gx_F ∨ w ∈ gx_R) : ∀ w ∈ ws, w.before args s = true := by
  intro w hw
  rcases hm w hw with h0 | h0 | h0
  · exact hG w h0
  · have h1 := h.1 w h0
    rcases gx_F_form w h0 with ⟨x, rfl⟩ | ⟨a, b, rfl⟩
    · exact va_Nw.use rfl h1
    · exact va_Nw.use rfl h1
  · simp only [gx_R, List.mem_cons, List.not_mem_nil, or_false] at h0
    rcases h0 with rfl | rfl | rfl | rfl
    · exact h.2.2.2.2.2.2.1.use
    · exact h.2.2.2.2.2.2.2.use
    · exact gx_isRef h.2.1
    · exact gx_isRef h.2.2.1
def gx_isR : Cond → Bool
  | .isRef _ => true
  | .laysStatic .. => true
  | _ => false
theorem gx_oaOf {ws : List Cond} (h0 : ws.filter gx_isR = gx_R) (h : (ws.filter (fun w => !gx_isR w)).all (fun w => (goodWord w && decide (w ∈ lw_tbl)) || decide (w ∈ gx_F)) = true) : ∀ w ∈ ws, w ∈ gx_G ∨ w ∈ gx_F ∨ w ∈ gx_R := by
  intro w hw
  by_cases hr : gx_isR w = true
  · exact Or.inr (Or.inr (by rw [← h0]; exact List.mem_filter.mpr ⟨hw, hr⟩))
  · have h1 := List.all_eq_true.mp h w (List.mem_filter.mpr ⟨hw, by simp [hr]⟩)
    simp only [Bool.or_eq_true, Bool.and_eq_true, decide_eq_true_eq] at h1
    rcases h1 with ⟨a, b⟩ | a
    · exact Or.inl (gx_in b a)
    · exact Or.inr (Or.inl a)
theorem gx_oa1 : ∀ w ∈ Bundle.ownAtoms0 "LeanSets" 161 "java/lang/IllegalStateException" gx_up, w ∈ gx_G ∨ w ∈ gx_F ∨ w ∈ gx_R := gx_oaOf rfl (by decide +kernel)
theorem gx_oa2 : ∀ w ∈ Bundle.ownAtoms0 "LeanSets" 112 "java/lang/IllegalArgumentException" gx_up, w ∈ gx_G ∨ w ∈ gx_F ∨ w ∈ gx_R := gx_oaOf rfl (by decide +kernel)
theorem gx_oa3 : ∀ w ∈ Bundle.ownAtoms0 "LeanSets" 142 "java/lang/IndexOutOfBoundsException" gx_up, w ∈ gx_G ∨ w ∈ gx_F ∨ w ∈ gx_R := gx_oaOf rfl (by decide +kernel)
/-- the thrown object -/
def gx_E (k : Nat) (x : Addr) (t : State) : Prop := ∃ cell : Cell, t.heap[x]? = some cell ∧ cell.vm.isStatics = false ∧ t.vm.findClass (gx_ex k) = some cell.cls
section GXT
variable {p : Program} {l : Launch} {e : Env} {R : Room} {s : State} {m : MethodId} {args : Array Value} {below : List Frame} {meth : Method} {c : Code} {H : Heap} {locs : List Loc} {cells slots : Nat} {Q : State → Prop} {Qc : Array Value → State → Outcome → State → Prop} {cc : ByteArray} {free : Addr → Prop} {A : Nat → Prop}
/-- new E; dup; E.<init>(); athrow: the method ends so, nothing that was there is written -/
theorem gx_throw (hfl : l.stackTraces = false) (hx : p.tables.exec = Jvm.exec) (hb : c.code = cc) {own : String} (hown : s.vm.findClass own = some m.cls) (hlocks : meth.locks = false) (hnone : c.exceptionTable.isEmpty = true) {nL : Nat} (hml : c.maxLocals = nL) {ls : Array Slot} (hls : ls.size = nL) (hG : ∀ w ∈ gx_G, w.before args s = true) (hY : gx_Y A s) (k : Nat) {ic ix : Nat}
    (hoa : ∀ w ∈ Bundle.ownAtoms0 own ic (gx_ex k) gx_up, w ∈ gx_G ∨ w ∈ gx_F ∨ w ∈ gx_R) (hfit : Bundle.fit (gx_ex k) = true) (hcl : Cond.classLink own ix (gx_ex k) ∈ gx_G) (hin : Cond.instantiable (gx_ex k) 6 ∈ gx_G) (hini : Cond.initialized (gx_ex k) ∈ gx_G)
    {pc : Nat} (d0 : decode cc pc = .ok (.new ix, 3)) (d3 : decode cc (pc + 3) = .ok (.dup, 1)) (d4 : decode cc (pc + 4) = .ok (.invokespecial ic, 3)) (d7 : decode cc (pc + 7) = .ok (.athrow, 1)) (hsz : s.heap.size ≤ H.size)
    (hR : 5 < R.frames ∧ 98 ≤ R.locals ∧ cells + 1 ≤ R.cells ∧ slots + 6 ≤ R.slots)
    (hq : ∀ (x : Addr) (t : State), s.WarmedH t.vm → s.sameButNew ({ t with vm := s.vm } : State) [] (cells + 1) (slots + 6) → gx_E k x t → Qc args s (.threw x) t) :
    W p l e R s m args below meth c H [] cells slots (gx_MQ below Qc args s (cells + 1) (slots + 6) free) (F0 m pc ls []) := by
  refine W.newc hx hb hown (hG _ hcl) (hG _ hin) (hG _ hini) rfl d0 hR.2.2.1 hR.2.2.2 (fun cC kC h1 h2 h3 h4 => ?_)
  refine W.eq (g2 := F0 m (pc + 3) ls [.ref H.size]) rfl ?_
  refine lv_dup hx hb d3 rfl ?_
  intro T hT X
  have htr : e.platform.stackTraces = false := by rw [X.admits.platform]; exact hfl
  subst hb
  have hcell : T.heap[H.size]? = some (freshCell cC kC) := by rw [hT]; simp
  obtain ⟨U, hsteps, hrun, hend, hW, hsame, ce, hce, K⟩ := X.ctorThrow0 hx htr (own := own) (cls := gx_ex k) (names := gx_up) (ic := ic) hown hfit (by decide +kernel) (hY.atoms hG hoa) (fun x h => by cases h) h1 h2 hcell hsz
    (g := F0 m (pc + 4) ls [.ref H.size, .ref H.size]) rfl (by rw [hml]; exact hls) rfl rfl (rest := []) rfl d4 d7 (by
      intro y hy
      have : c.exceptionTable.toList = [] := by simpa using hnone
      rw [this] at hy
      cases hy) (by show 2 + 3 < R.frames; exact hR.1) (by show 2 * 0 + (1 + 0) + (13 * (2 + 1) + 41) ≤ R.locals; omega) hlocks
  refine ⟨U, hsteps, .threw H.size, hrun, hend, hq _ U hW hsame ⟨ce, hce, by rw [K.vm]; rfl, by rw [hW.alike.findClass]; exact K.cls⟩, hW, [], hsame, fun q h => by cases h⟩
end GXT
