/-! Methods with handlers: the rows of their table out of the words, and the call of one. Own work. -/
def gx_row (h : ExceptionTableEntry) : Nat × Nat × Nat × Nat := (h.startPc, h.endPc, h.handlerPc, h.catchType)
def gx_seekL (pl : Platform) (s : State) (d : ClassId) (pc : Nat) (thrown : ClassId) : List (Nat × Nat × Nat × Nat) → Nat → Prop
  | [], _ => False
  | y :: t, h => (y.1 ≤ pc ∧ pc < y.2.1) ∧ y.2.2.2 ≠ 0 ∧ ∃ c, s.vm.ClassLinks pl d y.2.2.2 c ∧ ((s.vm.assignable thrown c = true ∧ h = y.2.2.1) ∨ (s.vm.assignable thrown c = false ∧ gx_seekL pl s d pc thrown t h))
theorem gx_seekOf {pl : Platform} {s : State} {d : ClassId} {pc : Nat} {thrown : ClassId} {h : Nat} : ∀ (tab : List ExceptionTableEntry), gx_seekL pl s d pc thrown (tab.map gx_row) h → gx_seek pl s d pc thrown tab h := by
  intro tab
  induction tab with
  | nil => intro hs; exact hs
  | cons y t ih =>
    intro hs
    obtain ⟨hc, h0, c, hl, hor⟩ := hs
    refine ⟨?_, h0, c, hl, ?_⟩
    · simp only [gx_row] at hc
      simp [covers, hc]
    · rcases hor with h1 | ⟨h1, h2⟩
      · exact Or.inl h1
      · exact Or.inr ⟨h1, ih h2⟩
theorem gx_rowYes {pl : Platform} {s : State} {args : Array Value} {own : String} {d : ClassId} {ct k : Nat} {thrown : ClassId} (hown : s.vm.findClass own = some d) (hpl : pl.magicAccessors = ({} : Platform).magicAccessors) (hlink : (Cond.classLink own ct (gx_ex k)).before args s = true) (hcast : va_Nw (.castable (gx_ex k) (gx_ex k)) s) (hth : s.vm.findClass (gx_ex k) = some thrown) :
    ∃ c, s.vm.ClassLinks pl d ct c ∧ s.vm.assignable thrown c = true := by
  obtain ⟨c, hc, hl⟩ := Cond.classLink_spec hown hlink pl hpl
  obtain ⟨c3, c4, hc3, hc4, hasg⟩ := Cond.castable_spec hcast
  cases hth.symm.trans hc3
  cases hth.symm.trans hc4
  cases hth.symm.trans hc
  exact ⟨_, hl, hasg⟩
theorem gx_rowNo {pl : Platform} {s : State} {args : Array Value} {own name : String} {d : ClassId} {ct k : Nat} {thrown : ClassId} (hown : s.vm.findClass own = some d) (hpl : pl.magicAccessors = ({} : Platform).magicAccessors) (hlink : (Cond.classLink own ct name).before args s = true) (hnc : va_Nc (gx_ex k) name s) (hth : s.vm.findClass (gx_ex k) = some thrown) :
    ∃ c, s.vm.ClassLinks pl d ct c ∧ s.vm.assignable thrown c = false := by
  obtain ⟨c, hc, hl⟩ := Cond.classLink_spec hown hlink pl hpl
  obtain ⟨c3, c4, hc3, hc4, hasg⟩ := hnc
  cases hth.symm.trans hc3
  cases hc.symm.trans hc4
  exact ⟨_, hl, hasg⟩
section GXR
variable {p : Program} {l : Launch} {e : Env} {R : Room} {s : State} {m : MethodId} {args : Array Value} {below : List Frame} {meth : Method} {c : Code} {H : Heap} {locs : List Loc} {cells slots : Nat} {Q : State → Prop}
/-- caught: the thrown object's kind and the rows say where -/
theorem gx_catchK {pc h k : Nat} {ls : Array Slot} {st0 : List Value} {x : Addr} {t : State} (hE : gx_E k x t) (ht : t.heap = H) (hW : s.WarmedH t.vm) {hh : List (Nat × Nat × Nat × Nat)} (hxt : c.exceptionTable.toList.map gx_row = hh)
    (hs : ∀ (pl : Platform) (thrown : ClassId), pl.magicAccessors = ({} : Platform).magicAccessors → s.vm.findClass (gx_ex k) = some thrown → gx_seekL pl s m.cls pc thrown hh h)
    (kk : W p l e R s m args below meth c H locs cells slots Q (F0 m h ls [.ref x])) : gx_WT p l e R s m args below meth c H locs cells slots Q (F0 m pc ls st0) x := by
  obtain ⟨cell, h1, h2, h3⟩ := hE
  have h4 : s.vm.findClass (gx_ex k) = some cell.cls := by rw [← hW.alike.findClass]; exact h3
  obtain ⟨k0, hk0⟩ := Vm.classAt_of_findClass h4
  refine gx_catch (by rw [← ht]; exact h1) h2 hk0 (fun hpl => gx_seekOf _ ?_) kk
  rw [hxt]
  exact hs _ _ hpl h4
variable {y : MethodName} {bytes cc : ByteArray} {maxL nL mc ms n index : Nat} {ret : Option FieldType} {hh : List (Nat × Nat × Nat × Nat)} {ws : List Cond} {rm : Room} {Pc : Array Value → State → Prop} {Qc : Array Value → State → Outcome → State → Prop} {free : Addr → Prop} {Ts : List Cond} {own : String} {As rest : List Value} {g : JFrame}
/-- invokestatic of a method with handlers -/
theorem gx_runSW (S : CallFix p m c cc nL s args Ts own) (hM : Met l y (Cond.codeWith y bytes maxL ret hh :: gx_G) rm Pc Qc mc ms free) (hrc : rm.cells = mc) (hrs : rm.slots = ms) (hG : ∀ w ∈ gx_G, w.before args s = true)
    (h1 : Cond.methodLink own index y ∈ gx_G) (h2 : Cond.static y ∈ gx_G) (h4 : Cond.initialized y.cls ∈ gx_G) (h5 : Cond.codeWith y bytes maxL ret hh ∈ gx_G)
    (hd : y.cls ≠ "java/lang/invoke/MethodHandle" ∧ y.cls ≠ "java/lang/invoke/VarHandle" ∧ (parseMethodDescriptor y.desc).map (fun d => d.parameters.length) = some n) (hR : rm.frames + 1 ≤ R.frames ∧ 8 + (maxL + 11) + rm.locals ≤ R.locals) (hp : PreS s H Pc As)
    (hg : g.method = m) (hn : As.length = n) (hsize : g.locals.size = nL) (hstack : g.stack = As.reverse ++ rest) (hW : 2 * g.monitorRoom + (rest.map fun v => v.category).sum ≤ 8) (hdg : decode cc g.pc = .ok (.invokestatic index, 3)) (hf : cells + mc ≤ R.cells ∧ slots + ms ≤ R.slots) :
    va_Run p l e R s m args below meth c H locs cells slots mc ms g rest (Qc As.toArray) (free) := by
  have hws : ∀ w ∈ (Cond.codeWith y bytes maxL ret hh :: gx_G), ∀ (a' : Array Value) (U : State), s.WarmedH U.vm → w.before a' U = true := pay_in hG (gx_good (fun _ h => h) h5)
  have hK : Back l R p e below s args y 3 8 (PreOf R mc ms Pc) (PostOf Qc mc ms free) := va_backW (hh := hh) (bytes := bytes) (maxL := maxL) (ret := ret) hM hp.1 hrc hrs hR.1 hR.2 hws List.mem_cons_self (fun a' U hW => word_at hW (Or.inl (by first | rfl | simp [Cond.onTables, Cond.keeps, Cond.steady])) (hG _ h4))
  obtain ⟨hx, hb, hml, ho, -⟩ := S
  obtain ⟨mk, methM, cM, hnamed, hmethM, -, -, -, -, -, -, hsigM⟩ := Cond.codeWith_spec (hG _ h5)
  have hstatic : methM.isStatic = true := Cond.static_spec hnamed hmethM (hG _ h2)
  obtain ⟨kP, hkP, -⟩ := className_of_methodNamed hnamed
  have hinitP : kP.init = .initialized := Cond.initialized_spec (findClass_of_methodNamed hnamed) hkP (hG _ h4)
  have hlen : As.length = methM.sig.parameters.length := by
    have h2 := hd.2.2
    rw [hsigM] at h2
    exact hn.trans (Option.some.inj h2).symm
  intro T hT X
  obtain ⟨vm₁, X₁, hstep₁⟩ := X.invokestatic hx ho (hG _ h1) hnamed hmethM hstatic hkP hinitP ⟨hd.1, hd.2.1⟩ (g := g) hg (argsL := As) (rest := rest) hlen hstack (by rw [hb]; exact hdg)
  obtain ⟨v, B, X', hpost, hsteps⟩ := hK m meth c ⟨T.setVm vm₁, locs, cells, slots⟩ { g with stack := rest } (.invokestatic index) mk As.toArray X₁ hg (hsize.trans hml.symm) (by rw [hb]; exact hdg) hW (X₁.named hnamed) ⟨hf.1, hf.2, hp.2 (T.setVm vm₁) hT X₁.warmed⟩
  obtain ⟨U', l2, c2, s2⟩ := B
  obtain ⟨g', mk', t, L, e1, e2, hq, e3, hL, e4, e5⟩ := hpost
  dsimp only [Pt.U, Pt.locs, Pt.cells, Pt.slots] at X' e1 e2 e3 e4 e5 hsteps
  subst e3; subst e4; subst e5
  exact ⟨v, (T.setVm vm₁).calling g' mk' As.toArray, t, U', L, hT, X', hL, e1, e2, hq, fun target h => hstep₁ _ fun acts => by rw [doInvoke_state]; exact hsteps.trans h⟩
end GXR
theorem gx_sw {x : Int32} {n : Nat} (h : ∀ k, k < n → ¬ x = nI k) : x.toInt < 0 ∨ (n : Int) - 1 < x.toInt := by
  by_cases h0 : x.toInt < 0
  · exact Or.inl h0
  · refine Or.inr ?_
    rcases Int.lt_or_le ((n : Int) - 1) x.toInt with h1 | h1
    · exact h1
    · exfalso
      have hx := Int32.toInt_lt x
      refine h x.toInt.toNat (by omega) ?_
      apply Int32.toInt_inj.mp
      rw [nI_toInt (by omega)]
      omega
theorem gx_handlers {p : Program} {l : Launch} {x : MethodName} {S : Spec} {code : ByteArray} {maxLocals : Nat} {ret : Option FieldType} {e : Env} {s : State} {m : MethodId} {args : Array Value} {below : List Frame}
    {meth : Method} {c : Code} {s₁ : State} {hh : List (Nat × Nat × Nat × Nat)} (B : BodyLoose p l x S code maxLocals ret e s m args below meth c s₁) (h : (Cond.codeWith x code maxLocals ret hh).before args s = true) : c.exceptionTable.toList.map gx_row = hh := by
  obtain ⟨m', meth', c', hn', hm', hc', -, -, he', -⟩ := Cond.codeWith_spec h
  cases B.named.symm.trans hn'
  cases B.method.symm.trans hm'
  cases (Stand.of_body B).code.symm.trans hc'
  exact he'
