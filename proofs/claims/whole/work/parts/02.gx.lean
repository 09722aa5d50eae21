
/-- the words that all methods' contracts rest on: those of the tables that hold at every later state too -/
def gx_G : List Cond := lw_tbl.filter goodWord
theorem gx_in {w : Cond} (h : w ∈ lw_tbl) (g : goodWord w = true) : w ∈ gx_G := List.mem_filter.mpr ⟨h, g⟩
theorem gx_t {w : Cond} (h : w ∈ tables_1) (g : goodWord w = true) : w ∈ gx_G := gx_in (List.mem_append_right _ h) g
theorem gx_1 {w : Cond} (h : w ∈ tables_1_1) (g : goodWord w = true) : w ∈ gx_G := gx_t (List.mem_append_left _ h) g
theorem gx_2 {w : Cond} (h : w ∈ tables_1_2) (g : goodWord w = true) : w ∈ gx_G := gx_t (List.mem_append_right _ (List.mem_append_left _ h)) g
theorem gx_3 {w : Cond} (h : w ∈ tables_1_3) (g : goodWord w = true) : w ∈ gx_G := gx_t (List.mem_append_right _ (List.mem_append_right _ (List.mem_append_left _ h))) g
theorem gx_4 {w : Cond} (h : w ∈ tables_1_4) (g : goodWord w = true) : w ∈ gx_G := gx_t (List.mem_append_right _ (List.mem_append_right _ (List.mem_append_right _ (List.mem_append_left _ h)))) g
theorem gx_5 {w : Cond} (h : w ∈ tables_1_5) (g : goodWord w = true) : w ∈ gx_G := gx_t (List.mem_append_right _ (List.mem_append_right _ (List.mem_append_right _ (List.mem_append_right _ h)))) g
theorem gx_sel {q : MethodName × Nat} (h : Cond.selects q.1.cls q.1 q.1 ∈ k2_sels lw_privs) (g : goodWord (Cond.selects q.1.cls q.1 q.1) = true) : Cond.selects q.1.cls q.1 q.1 ∈ gx_G := gx_in (List.mem_append_left _ h) g
theorem gx_gw {w : Cond} (h : w ∈ gx_G) : goodWord w = true := (List.mem_filter.mp h).2
/-- among the words of a method: any of gx_G -/
theorem gx_good {big : List Cond} {c : Cond} (hb : ∀ w ∈ gx_G, w ∈ big) (h : c ∈ gx_G) : GoodIn big (c :: gx_G) := fun w hw => (List.mem_cons.mp hw).elim (fun e => by subst e; exact ⟨hb _ h, good_of_word (gx_gw h)⟩) (fun h9 => ⟨hb w h9, good_of_word (gx_gw h9)⟩)
theorem gx_goodL {big ws : List Cond} (hb : ∀ w ∈ gx_G, w ∈ big) (h : ∀ w ∈ ws, w ∈ gx_G) : GoodIn big ws := fun w hw => ⟨hb _ (h w hw), good_of_word (gx_gw (h w hw))⟩
section GXC
variable {R : Room} {s : State} {args : Array Value} {ws' : List Cond} {bytes : ByteArray} {maxL index mc ms : Nat} {own C : String} {y : MethodName} {ret : Option FieldType} {rm : Room}
theorem gx_cwV (n : Nat) (ht : ∀ w ∈ gx_G, w.before args s = true) (h1 : Cond.methodLink own index y ∈ gx_G) (h2 : Cond.instanceMethod y ∈ gx_G) (h3 : Cond.selects C y y ∈ gx_G) (h4 : Cond.initialized C ∈ gx_G) (h5 : Cond.code y bytes maxL ret ∈ gx_G)
    (hd : y.cls = C ∧ y.cls ≠ "java/lang/invoke/MethodHandle" ∧ y.cls ≠ "java/lang/invoke/VarHandle" ∧ (parseMethodDescriptor y.desc).map (fun d => d.parameters.length) = some n) (hR : rm.frames + 1 ≤ R.frames ∧ 8 + (maxL + 11) + rm.locals ≤ R.locals) :
    CallW R s args own C index y bytes maxL ret (Cond.code y bytes maxL ret :: gx_G) rm rm.cells rm.slots n :=
  cwV n ht (fun w hw => by
    have k : w ∈ gx_G := by
      rcases List.mem_append.mp hw with h | h
      · simp only [List.mem_cons, List.not_mem_nil, or_false] at h
        rcases h with rfl | rfl | rfl | rfl
        · exact h1
        · exact h2
        · exact h3
        · exact h4
      · rcases List.mem_cons.mp h with rfl | h
        · exact h5
        · exact h
    exact ⟨k, good_of_word (gx_gw k)⟩) rfl rfl rfl hd hR
theorem gx_cwS (n : Nat) (ht : ∀ w ∈ gx_G, w.before args s = true) (h1 : Cond.methodLink own index y ∈ gx_G) (h2 : Cond.static y ∈ gx_G) (h4 : Cond.initialized y.cls ∈ gx_G) (h5 : Cond.code y bytes maxL ret ∈ gx_G)
    (hd : y.cls ≠ "java/lang/invoke/MethodHandle" ∧ y.cls ≠ "java/lang/invoke/VarHandle" ∧ (parseMethodDescriptor y.desc).map (fun d => d.parameters.length) = some n) (hR : rm.frames + 1 ≤ R.frames ∧ 8 + (maxL + 11) + rm.locals ≤ R.locals) :
    CallB R s args own index y bytes maxL ret (Cond.code y bytes maxL ret :: gx_G) rm rm.cells rm.slots n ∧ (Cond.static y).before args s = true :=
  ⟨callB_of n ht (gx_good (fun _ h => h) h5) rfl rfl rfl (ht _ h4) (ht _ h1) hd hR, ht _ h2⟩
end GXC
/-- what a walk of a method's body rests on -/
def gx_C (p : Program) (s : State) (m : MethodId) (meth : Method) (c : Code) (args : Array Value) (own : String) (cc : ByteArray) (nL : Nat) (ret : Option FieldType) : Prop :=
  p.tables.exec = Jvm.exec ∧ c.code = cc ∧ meth.sig.returnType = ret ∧ c.maxLocals = nL ∧ s.vm.findClass own = some m.cls ∧ meth.locks = false ∧ (∀ w ∈ gx_G, w.before args s = true)
abbrev gx_T (cI cJ cC : ClassId) : List (ClassId × FieldType) := [(cI, .int), (cJ, .long), (cC, .char)]
def T_Ch : u_T := fun k => match k with
  | 0 => ("LeanSets$Chain", "length", "I", false)
  | 1 => ("LeanSets$Chain", "above", "[J", true)
  | 2 => ("LeanSets$Chain", "below", "[J", true)
  | 3 => ("LeanSets$Chain", "sets", "[I", true)
  | 4 => ("LeanSets$Chain", "turnOf", "[I", true)
  | 5 => ("LeanSets$Chain", "lowestOf", "[J", true)
  | _ => ("LeanSets$Chain", "setOf", "[I", true)
def ty_Ch : Nat → FieldType := fun k => match k with
  | 0 => .int
  | 1 => .array .long
  | 2 => .array .long
  | 3 => .array .int
  | 4 => .array .int
  | 5 => .array .long
  | _ => .array .int
theorem nm_Ch : ∀ a, a < 7 → ∀ b, b < 7 → a ≠ b → (T_Ch a).2.1 ≠ (T_Ch b).2.1 := by decide +kernel
theorem ty_Ch_ok : ∀ k, k < 7 → parseFieldDescriptor (T_Ch k).2.2.1 = some (ty_Ch k) := by decide +kernel
def T_Cc : u_T := fun k => match k with
  | 0 => ("LeanSets$ChainCheck", "gaps", "LLeanSets$SetTable;", true)
  | 1 => ("LeanSets$ChainCheck", "whole", "[J", true)
  | 2 => ("LeanSets$ChainCheck", "extremes", "[J", true)
  | 3 => ("LeanSets$ChainCheck", "order", "[I", true)
  | _ => ("LeanSets$ChainCheck", "times", "J", false)
def ty_Cc : Nat → FieldType := fun k => match k with
  | 0 => .object "LeanSets$SetTable"
  | 1 => .array .long
  | 2 => .array .long
  | 3 => .array .int
  | _ => .long
theorem nm_Cc : ∀ a, a < 5 → ∀ b, b < 5 → a ≠ b → (T_Cc a).2.1 ≠ (T_Cc b).2.1 := by decide +kernel
theorem ty_Cc_ok : ∀ k, k < 5 → parseFieldDescriptor (T_Cc k).2.2.1 = some (ty_Cc k) := by decide +kernel
def T_St : u_T := fun k => match k with
  | 0 => ("LeanSets$SetTable", "values", "[J", true)
  | 1 => ("LeanSets$SetTable", "size", "I", false)
  | 2 => ("LeanSets$SetTable", "sets", "I", false)
  | 3 => ("LeanSets$SetTable", "lowest", "J", false)
  | 4 => ("LeanSets$SetTable", "meet", "I", false)
  | _ => ("LeanSets$SetTable", "join", "I", false)
def ty_St : Nat → FieldType := fun k => match k with
  | 0 => .array .long
  | 1 => .int
  | 2 => .int
  | 3 => .long
  | 4 => .int
  | _ => .int
theorem nm_St : ∀ a, a < 6 → ∀ b, b < 6 → a ≠ b → (T_St a).2.1 ≠ (T_St b).2.1 := by decide +kernel
theorem ty_St_ok : ∀ k, k < 6 → parseFieldDescriptor (T_St k).2.2.1 = some (ty_St k) := by decide +kernel
def T_Te : u_T := fun k => match k with
  | 0 => ("LeanSets$Terms", "size", "I", false)
  | 1 => ("LeanSets$Terms", "length", "I", false)
  | 2 => ("LeanSets$Terms", "kinds", "[I", true)
  | 3 => ("LeanSets$Terms", "ins", "[I", true)
  | 4 => ("LeanSets$Terms", "outs", "[I", true)
  | _ => ("LeanSets$Terms", "values", "[I", true)
def ty_Te : Nat → FieldType := fun k => match k with
  | 0 => .int
  | 1 => .int
  | 2 => .array .int
  | 3 => .array .int
  | 4 => .array .int
  | _ => .array .int
theorem nm_Te : ∀ a, a < 6 → ∀ b, b < 6 → a ≠ b → (T_Te a).2.1 ≠ (T_Te b).2.1 := by decide +kernel
theorem ty_Te_ok : ∀ k, k < 6 → parseFieldDescriptor (T_Te k).2.2.1 = some (ty_Te k) := by decide +kernel
def T_Tr : u_T := fun k => match k with
  | 0 => ("LeanSets$TextReader", "words", "LLeanSets$Words;", true)
  | 1 => ("LeanSets$TextReader", "terms", "LLeanSets$Terms;", true)
  | 2 => ("LeanSets$TextReader", "next", "I", false)
  | 3 => ("LeanSets$TextReader", "takenPlace", "I", false)
  | 4 => ("LeanSets$TextReader", "takenNumber", "I", false)
  | 5 => ("LeanSets$TextReader", "fault", "I", false)
  | _ => ("LeanSets$TextReader", "faultPlace", "I", false)
def ty_Tr : Nat → FieldType := fun k => match k with
  | 0 => .object "LeanSets$Words"
  | 1 => .object "LeanSets$Terms"
  | 2 => .int
  | 3 => .int
  | 4 => .int
  | 5 => .int
  | _ => .int
theorem nm_Tr : ∀ a, a < 7 → ∀ b, b < 7 → a ≠ b → (T_Tr a).2.1 ≠ (T_Tr b).2.1 := by decide +kernel
theorem ty_Tr_ok : ∀ k, k < 7 → parseFieldDescriptor (T_Tr k).2.2.1 = some (ty_Tr k) := by decide +kernel
def T_Wo : u_T := fun k => match k with
  | 0 => ("LeanSets$Words", "text", "[C", true)
  | 1 => ("LeanSets$Words", "length", "I", false)
  | 2 => ("LeanSets$Words", "kinds", "[I", true)
  | 3 => ("LeanSets$Words", "places", "[I", true)
  | 4 => ("LeanSets$Words", "numbers", "[I", true)
  | _ => ("LeanSets$Words", "words", "I", false)
def ty_Wo : Nat → FieldType := fun k => match k with
  | 0 => .array .char
  | 1 => .int
  | 2 => .array .int
  | 3 => .array .int
  | 4 => .array .int
  | _ => .int
theorem nm_Wo : ∀ a, a < 6 → ∀ b, b < 6 → a ≠ b → (T_Wo a).2.1 ≠ (T_Wo b).2.1 := by decide +kernel
theorem ty_Wo_ok : ∀ k, k < 6 → parseFieldDescriptor (T_Wo k).2.2.1 = some (ty_Wo k) := by decide +kernel
def T_Ls : u_T := fun k => match k with
  | 0 => ("LeanSets", "reader", "LLeanSets$TextReader;", true)
  | 1 => ("LeanSets", "function", "LLeanSets$SetTable;", true)
  | 2 => ("LeanSets", "gaps", "LLeanSets$SetTable;", true)
  | 3 => ("LeanSets", "chain", "LLeanSets$Chain;", true)
  | 4 => ("LeanSets", "chainCheck", "LLeanSets$ChainCheck;", true)
  | 5 => ("LeanSets", "vector", "[J", true)
  | 6 => ("LeanSets", "counts", "[I", true)
  | _ => ("LeanSets", "size", "I", false)
def ty_Ls : Nat → FieldType := fun k => match k with
  | 0 => .object "LeanSets$TextReader"
  | 1 => .object "LeanSets$SetTable"
  | 2 => .object "LeanSets$SetTable"
  | 3 => .object "LeanSets$Chain"
  | 4 => .object "LeanSets$ChainCheck"
  | 5 => .array .long
  | 6 => .array .int
  | _ => .int
theorem nm_Ls : ∀ a, a < 8 → ∀ b, b < 8 → a ≠ b → (T_Ls a).2.1 ≠ (T_Ls b).2.1 := by decide +kernel
theorem ty_Ls_ok : ∀ k, k < 8 → parseFieldDescriptor (T_Ls k).2.2.1 = some (ty_Ls k) := by decide +kernel
def T_Mo : u_T := fun k => match k with
  | 0 => ("LeanSetsModel", "thrown", "I", false)
  | 1 => ("LeanSetsModel", "text", "[I", true)
  | 2 => ("LeanSetsModel", "length", "I", false)
  | 3 => ("LeanSetsModel", "wrong", "I", false)
  | 4 => ("LeanSetsModel", "kinds", "[I", true)
  | 5 => ("LeanSetsModel", "places", "[I", true)
  | 6 => ("LeanSetsModel", "numbers", "[I", true)
  | 7 => ("LeanSetsModel", "words", "I", false)
  | 8 => ("LeanSetsModel", "at", "I", false)
  | 9 => ("LeanSetsModel", "known", "Z", false)
  | 10 => ("LeanSetsModel", "n", "I", false)
  | 11 => ("LeanSetsModel", "many", "[I", true)
  | 12 => ("LeanSetsModel", "all", "[I", true)
  | 13 => ("LeanSetsModel", "draftSize", "I", false)
  | 14 => ("LeanSetsModel", "draftMany", "[I", true)
  | 15 => ("LeanSetsModel", "draft", "[I", true)
  | 16 => ("LeanSetsModel", "fault", "I", false)
  | 17 => ("LeanSetsModel", "faultPlace", "I", false)
  | 18 => ("LeanSetsModel", "vector", "[I", true)
  | 19 => ("LeanSetsModel", "heights", "[I", true)
  | 20 => ("LeanSetsModel", "turns", "I", false)
  | 21 => ("LeanSetsModel", "above", "[J", true)
  | 22 => ("LeanSetsModel", "below", "[J", true)
  | _ => ("LeanSetsModel", "sets", "[I", true)
def ty_Mo : Nat → FieldType := fun k => match k with
  | 0 => .int
  | 1 => .array .int
  | 2 => .int
  | 3 => .int
  | 4 => .array .int
  | 5 => .array .int
  | 6 => .array .int
  | 7 => .int
  | 8 => .int
  | 9 => .boolean
  | 10 => .int
  | 11 => .array .int
  | 12 => .array .int
  | 13 => .int
  | 14 => .array .int
  | 15 => .array .int
  | 16 => .int
  | 17 => .int
  | 18 => .array .int
  | 19 => .array .int
  | 20 => .int
  | 21 => .array .long
  | 22 => .array .long
  | _ => .array .int
theorem nm_Mo : ∀ a, a < 24 → ∀ b, b < 24 → a ≠ b → (T_Mo a).2.1 ≠ (T_Mo b).2.1 := by decide +kernel
theorem ty_Mo_ok : ∀ k, k < 24 → parseFieldDescriptor (T_Mo k).2.2.1 = some (ty_Mo k) := by decide +kernel
abbrev classes : List vw_C := [("LeanSets$Chain", T_Ch, 7), ("LeanSets$ChainCheck", T_Cc, 5), ("LeanSets$SetTable", T_St, 6), ("LeanSets$Terms", T_Te, 6), ("LeanSets$TextReader", T_Tr, 7), ("LeanSets$Words", T_Wo, 6), ("LeanSets", T_Ls, 8), ("LeanSetsModel", T_Mo, 24)]
/-- links to private members of nest mates: they hold at every later state too, but by a law of their own -/
def gx_N : List Cond := [(Jvm.Cond.methodLinkNest "LeanSets" (9 : Nat) ({ cls := "LeanSets$TextReader", name := "<init>", desc := "()V" } : Jvm.MethodName) "LeanSets"), (Jvm.Cond.methodLinkNest "LeanSets$TextReader" (11 : Nat) ({ cls := "LeanSets$Words", name := "<init>", desc := "()V" } : Jvm.MethodName) "LeanSets"), (Jvm.Cond.methodLinkNest "LeanSets$TextReader" (20 : Nat) ({ cls := "LeanSets$Terms", name := "<init>", desc := "()V" } : Jvm.MethodName) "LeanSets"), (Jvm.Cond.methodLinkNest "LeanSets" (18 : Nat) ({ cls := "LeanSets$SetTable", name := "<init>", desc := "()V" } : Jvm.MethodName) "LeanSets"), (Jvm.Cond.methodLinkNest "LeanSets" (28 : Nat) ({ cls := "LeanSets$Chain", name := "<init>", desc := "()V" } : Jvm.MethodName) "LeanSets"), (Jvm.Cond.methodLinkNest "LeanSets" (35 : Nat) ({ cls := "LeanSets$ChainCheck", name := "<init>", desc := "()V" } : Jvm.MethodName) "LeanSets"), (Jvm.Cond.methodLinkNest "LeanSets$ChainCheck" (11 : Nat) ({ cls := "LeanSets$SetTable", name := "<init>", desc := "()V" } : Jvm.MethodName) "LeanSets"), (Jvm.Cond.methodLinkNest "LeanSets$Chain" (63 : Nat) ({ cls := "LeanSets", name := "commonDivisor", desc := "(JJ)J" } : Jvm.MethodName) "LeanSets"), (Jvm.Cond.methodLinkNest "LeanSets$ChainCheck" (61 : Nat) ({ cls := "LeanSets", name := "commonDivisor", desc := "(JJ)J" } : Jvm.MethodName) "LeanSets")]
def gx_K (dC : Nat → ClassId) (dI : Nat → Nat → Nat) (cI cJ cC : ClassId) (U : State) : Prop := va_K (dC, dI) classes (gx_T cI cJ cC) U ∧ ∀ w ∈ gx_N, va_Nw w U
theorem gx_N_form : ∀ w ∈ gx_N, ∃ a i x h, w = Cond.methodLinkNest a i x h := by
  intro w hw
  have hw : w ∈ [(Jvm.Cond.methodLinkNest "LeanSets" (9 : Nat) ({ cls := "LeanSets$TextReader", name := "<init>", desc := "()V" } : Jvm.MethodName) "LeanSets"), (Jvm.Cond.methodLinkNest "LeanSets$TextReader" (11 : Nat) ({ cls := "LeanSets$Words", name := "<init>", desc := "()V" } : Jvm.MethodName) "LeanSets"), (Jvm.Cond.methodLinkNest "LeanSets$TextReader" (20 : Nat) ({ cls := "LeanSets$Terms", name := "<init>", desc := "()V" } : Jvm.MethodName) "LeanSets"), (Jvm.Cond.methodLinkNest "LeanSets" (18 : Nat) ({ cls := "LeanSets$SetTable", name := "<init>", desc := "()V" } : Jvm.MethodName) "LeanSets"), (Jvm.Cond.methodLinkNest "LeanSets" (28 : Nat) ({ cls := "LeanSets$Chain", name := "<init>", desc := "()V" } : Jvm.MethodName) "LeanSets"), (Jvm.Cond.methodLinkNest "LeanSets" (35 : Nat) ({ cls := "LeanSets$ChainCheck", name := "<init>", desc := "()V" } : Jvm.MethodName) "LeanSets"), (Jvm.Cond.methodLinkNest "LeanSets$ChainCheck" (11 : Nat) ({ cls := "LeanSets$SetTable", name := "<init>", desc := "()V" } : Jvm.MethodName) "LeanSets"), (Jvm.Cond.methodLinkNest "LeanSets$Chain" (63 : Nat) ({ cls := "LeanSets", name := "commonDivisor", desc := "(JJ)J" } : Jvm.MethodName) "LeanSets"), (Jvm.Cond.methodLinkNest "LeanSets$ChainCheck" (61 : Nat) ({ cls := "LeanSets", name := "commonDivisor", desc := "(JJ)J" } : Jvm.MethodName) "LeanSets")] := hw
  simp only [List.mem_cons, List.not_mem_nil, or_false] at hw
  rcases hw with rfl | rfl | rfl | rfl | rfl | rfl | rfl | rfl | rfl <;> exact ⟨_, _, _, _, rfl⟩
theorem gx_K.moved {dC : Nat → ClassId} {dI : Nat → Nat → Nat} {cI cJ cC : ClassId} {s U : State} (hW : s.WarmedH U.vm) (h : gx_K dC dI cI cJ cC s) : gx_K dC dI cI cJ cC U := by
  refine ⟨va_K.moved hW.alike h.1, fun w hw => ?_⟩
  obtain ⟨a, i, x, q, rfl⟩ := gx_N_form w hw
  exact va_Nw.warmM hW (h.2 _ hw)
theorem gx_K.same {dC : Nat → ClassId} {dI : Nat → Nat → Nat} {cI cJ cC : ClassId} {u U : State} (hv : u.vm = U.vm) (h : gx_K dC dI cI cJ cC u) : gx_K dC dI cI cJ cC U := by
  refine ⟨va_K.moved (by rw [hv]; exact Vm.Alike.refl _) h.1, fun w hw => ?_⟩
  obtain ⟨a, i, x, q, rfl⟩ := gx_N_form w hw
  exact va_Nw.same rfl hv (h.2 _ hw)
section GXN
variable {R : Room} {s : State} {args : Array Value} {ws' : List Cond} {bytes : ByteArray} {maxL index mc ms : Nat} {own C host : String} {y : MethodName} {ret : Option FieldType} {rm : Room}
theorem gx_cnS (n : Nat) (ht : ∀ w ∈ gx_G, w.before args s = true) (h1 : va_Nw (.methodLinkNest own index y host) s) (h2 : Cond.static y ∈ gx_G) (h4 : Cond.initialized y.cls ∈ gx_G) (h5 : Cond.code y bytes maxL ret ∈ gx_G)
    (hd : y.cls ≠ "java/lang/invoke/MethodHandle" ∧ y.cls ≠ "java/lang/invoke/VarHandle" ∧ (parseMethodDescriptor y.desc).map (fun d => d.parameters.length) = some n) (hR : rm.frames + 1 ≤ R.frames ∧ 8 + (maxL + 11) + rm.locals ≤ R.locals) :
    va_CN R s args own index y host bytes maxL ret (Cond.code y bytes maxL ret :: gx_G) rm rm.cells rm.slots n ∧ (Cond.static y).before args s = true ∧ True :=
  ⟨va_cnB n ht (gx_good (fun _ h => h) h5) rfl rfl rfl h1 (ht _ h4) hd hR, ht _ h2, trivial⟩
theorem gx_cnI (n : Nat) (ht : ∀ w ∈ gx_G, w.before args s = true) (h1 : va_Nw (.methodLinkNest own index y host) s) (h2 : Cond.instanceMethod y ∈ gx_G) (h4 : Cond.initialized y.cls ∈ gx_G) (h5 : Cond.code y bytes maxL none ∈ gx_G) (hy : y.name = "<init>")
    (hd : y.cls ≠ "java/lang/invoke/MethodHandle" ∧ y.cls ≠ "java/lang/invoke/VarHandle" ∧ (parseMethodDescriptor y.desc).map (fun d => d.parameters.length) = some n) (hR : rm.frames + 1 ≤ R.frames ∧ 8 + (maxL + 11) + rm.locals ≤ R.locals) :
    va_CN R s args own index y host bytes maxL none (Cond.code y bytes maxL none :: gx_G) rm rm.cells rm.slots n ∧ y.name = "<init>" ∧ (Cond.instanceMethod y).before args s = true :=
  ⟨va_cnB n ht (gx_good (fun _ h => h) h5) rfl rfl rfl h1 (ht _ h4) hd hR, hy, ht _ h2⟩
end GXN
theorem mn_0 : (Jvm.Cond.methodLinkNest "LeanSets" (9 : Nat) ({ cls := "LeanSets$TextReader", name := "<init>", desc := "()V" } : Jvm.MethodName) "LeanSets") ∈ gx_N := List.mem_of_getElem? (i := 0) rfl
theorem mn_1 : (Jvm.Cond.methodLinkNest "LeanSets$TextReader" (11 : Nat) ({ cls := "LeanSets$Words", name := "<init>", desc := "()V" } : Jvm.MethodName) "LeanSets") ∈ gx_N := List.mem_of_getElem? (i := 1) rfl
theorem mn_2 : (Jvm.Cond.methodLinkNest "LeanSets$TextReader" (20 : Nat) ({ cls := "LeanSets$Terms", name := "<init>", desc := "()V" } : Jvm.MethodName) "LeanSets") ∈ gx_N := List.mem_of_getElem? (i := 2) rfl
theorem mn_3 : (Jvm.Cond.methodLinkNest "LeanSets" (18 : Nat) ({ cls := "LeanSets$SetTable", name := "<init>", desc := "()V" } : Jvm.MethodName) "LeanSets") ∈ gx_N := List.mem_of_getElem? (i := 3) rfl
theorem mn_4 : (Jvm.Cond.methodLinkNest "LeanSets" (28 : Nat) ({ cls := "LeanSets$Chain", name := "<init>", desc := "()V" } : Jvm.MethodName) "LeanSets") ∈ gx_N := List.mem_of_getElem? (i := 4) rfl
theorem mn_5 : (Jvm.Cond.methodLinkNest "LeanSets" (35 : Nat) ({ cls := "LeanSets$ChainCheck", name := "<init>", desc := "()V" } : Jvm.MethodName) "LeanSets") ∈ gx_N := List.mem_of_getElem? (i := 5) rfl
theorem mn_6 : (Jvm.Cond.methodLinkNest "LeanSets$ChainCheck" (11 : Nat) ({ cls := "LeanSets$SetTable", name := "<init>", desc := "()V" } : Jvm.MethodName) "LeanSets") ∈ gx_N := List.mem_of_getElem? (i := 6) rfl
theorem mn_7 : (Jvm.Cond.methodLinkNest "LeanSets$Chain" (63 : Nat) ({ cls := "LeanSets", name := "commonDivisor", desc := "(JJ)J" } : Jvm.MethodName) "LeanSets") ∈ gx_N := List.mem_of_getElem? (i := 7) rfl
theorem mn_8 : (Jvm.Cond.methodLinkNest "LeanSets$ChainCheck" (61 : Nat) ({ cls := "LeanSets", name := "commonDivisor", desc := "(JJ)J" } : Jvm.MethodName) "LeanSets") ∈ gx_N := List.mem_of_getElem? (i := 8) rfl
theorem mw_0 : (Jvm.Cond.initialized "LeanSetsLaw") ∈ gx_G := gx_1 (List.mem_of_getElem? (i := 0) rfl) rfl
theorem mw_1 : (Jvm.Cond.initialized "LeanSets") ∈ gx_G := gx_1 (List.mem_of_getElem? (i := 1) rfl) rfl
theorem mw_2 : (Jvm.Cond.initialized "LeanSets$TextReader") ∈ gx_G := gx_1 (List.mem_of_getElem? (i := 2) rfl) rfl
theorem mw_3 : (Jvm.Cond.initialized "LeanSets$Words") ∈ gx_G := gx_1 (List.mem_of_getElem? (i := 3) rfl) rfl
theorem mw_4 : (Jvm.Cond.initialized "LeanSets$Terms") ∈ gx_G := gx_1 (List.mem_of_getElem? (i := 4) rfl) rfl
theorem mw_5 : (Jvm.Cond.initialized "LeanSets$SetTable") ∈ gx_G := gx_1 (List.mem_of_getElem? (i := 5) rfl) rfl
theorem mw_6 : (Jvm.Cond.initialized "LeanSets$Chain") ∈ gx_G := gx_1 (List.mem_of_getElem? (i := 6) rfl) rfl
theorem mw_7 : (Jvm.Cond.initialized "LeanSets$ChainCheck") ∈ gx_G := gx_1 (List.mem_of_getElem? (i := 7) rfl) rfl
theorem mw_8 : (Jvm.Cond.initialized "LeanSetsModel") ∈ gx_G := gx_1 (List.mem_of_getElem? (i := 8) rfl) rfl
theorem mw_9 : (Jvm.Cond.initialized "java/lang/String") ∈ gx_G := gx_1 (List.mem_of_getElem? (i := 9) rfl) rfl
theorem mw_10 : (Jvm.Cond.initialized "java/lang/StringLatin1") ∈ gx_G := gx_1 (List.mem_of_getElem? (i := 10) rfl) rfl
theorem mw_11 : (Jvm.Cond.initialized "jdk/internal/util/Preconditions") ∈ gx_G := gx_1 (List.mem_of_getElem? (i := 11) rfl) rfl
theorem mw_12 : (Jvm.Cond.initialized "java/lang/StringUTF16") ∈ gx_G := gx_1 (List.mem_of_getElem? (i := 12) rfl) rfl
theorem mw_13 : (Jvm.Cond.initialized "java/lang/Integer") ∈ gx_G := gx_1 (List.mem_of_getElem? (i := 13) rfl) rfl
theorem mw_14 : (Jvm.Cond.initialized "java/lang/Math") ∈ gx_G := gx_1 (List.mem_of_getElem? (i := 14) rfl) rfl
theorem mw_15 : (Jvm.Cond.initialized "java/lang/Throwable") ∈ gx_G := gx_1 (List.mem_of_getElem? (i := 15) rfl) rfl
theorem mw_16 : (Jvm.Cond.initialized "java/lang/Exception") ∈ gx_G := gx_1 (List.mem_of_getElem? (i := 16) rfl) rfl
theorem mw_17 : (Jvm.Cond.initialized "java/lang/RuntimeException") ∈ gx_G := gx_1 (List.mem_of_getElem? (i := 17) rfl) rfl
theorem mw_18 : (Jvm.Cond.initialized "java/lang/IllegalStateException") ∈ gx_G := gx_1 (List.mem_of_getElem? (i := 18) rfl) rfl
theorem mw_19 : (Jvm.Cond.initialized "java/lang/IllegalArgumentException") ∈ gx_G := gx_1 (List.mem_of_getElem? (i := 19) rfl) rfl
theorem mw_20 : (Jvm.Cond.initialized "java/lang/IndexOutOfBoundsException") ∈ gx_G := gx_1 (List.mem_of_getElem? (i := 20) rfl) rfl
theorem mw_21 : (Jvm.Cond.classLink "LeanSetsLaw" (8 : Nat) "LeanSets") ∈ gx_G := gx_1 (List.mem_of_getElem? (i := 21) rfl) rfl
theorem mw_22 : (Jvm.Cond.instantiable "LeanSets" (8 : Nat)) ∈ gx_G := gx_1 (List.mem_of_getElem? (i := 22) rfl) rfl
theorem mw_23 : (Jvm.Cond.methodLink "LeanSetsLaw" (57 : Nat) ({ cls := "LeanSets", name := "<init>", desc := "()V" } : Jvm.MethodName)) ∈ gx_G := gx_1 (List.mem_of_getElem? (i := 23) rfl) rfl
theorem mw_24 : (Jvm.Cond.instanceMethod ({ cls := "LeanSets", name := "<init>", desc := "()V" } : Jvm.MethodName)) ∈ gx_G := gx_1 (List.mem_of_getElem? (i := 24) rfl) rfl
theorem mw_25 : (Jvm.Cond.code ({ cls := "LeanSets", name := "<init>", desc := "()V" } : Jvm.MethodName) prog_1_method_1_code (1 : Nat) (Option.none : Option Jvm.ClassFile.FieldType)) ∈ gx_G := gx_1 (List.mem_of_getElem? (i := 25) rfl) rfl
theorem mw_26 : (Jvm.Cond.methodLink "LeanSets" (1 : Nat) ({ cls := "java/lang/Object", name := "<init>", desc := "()V" } : Jvm.MethodName)) ∈ gx_G := gx_1 (List.mem_of_getElem? (i := 26) rfl) rfl
theorem mw_27 : (Jvm.Cond.instanceMethod ({ cls := "java/lang/Object", name := "<init>", desc := "()V" } : Jvm.MethodName)) ∈ gx_G := gx_1 (List.mem_of_getElem? (i := 27) rfl) rfl
theorem mw_28 : (Jvm.Cond.code ({ cls := "java/lang/Object", name := "<init>", desc := "()V" } : Jvm.MethodName) object_method_1_code (1 : Nat) (Option.none : Option Jvm.ClassFile.FieldType)) ∈ gx_G := gx_1 (List.mem_of_getElem? (i := 28) rfl) rfl
theorem mw_29 : (Jvm.Cond.classLink "LeanSets" (7 : Nat) "LeanSets$TextReader") ∈ gx_G := gx_1 (List.mem_of_getElem? (i := 29) rfl) rfl
theorem mw_30 : (Jvm.Cond.instantiable "LeanSets$TextReader" (7 : Nat)) ∈ gx_G := gx_1 (List.mem_of_getElem? (i := 30) rfl) rfl
theorem mw_32 : (Jvm.Cond.instanceMethod ({ cls := "LeanSets$TextReader", name := "<init>", desc := "()V" } : Jvm.MethodName)) ∈ gx_G := gx_1 (List.mem_of_getElem? (i := 32) rfl) rfl
theorem mw_33 : (Jvm.Cond.code ({ cls := "LeanSets$TextReader", name := "<init>", desc := "()V" } : Jvm.MethodName) prog_6_method_1_code (1 : Nat) (Option.none : Option Jvm.ClassFile.FieldType)) ∈ gx_G := gx_1 (List.mem_of_getElem? (i := 33) rfl) rfl
theorem mw_34 : (Jvm.Cond.methodLink "LeanSets$TextReader" (3 : Nat) ({ cls := "java/lang/Object", name := "<init>", desc := "()V" } : Jvm.MethodName)) ∈ gx_G := gx_1 (List.mem_of_getElem? (i := 34) rfl) rfl
theorem mw_35 : (Jvm.Cond.classLink "LeanSets$TextReader" (9 : Nat) "LeanSets$Words") ∈ gx_G := gx_1 (List.mem_of_getElem? (i := 35) rfl) rfl
theorem mw_36 : (Jvm.Cond.instantiable "LeanSets$Words" (6 : Nat)) ∈ gx_G := gx_1 (List.mem_of_getElem? (i := 36) rfl) rfl
theorem mw_38 : (Jvm.Cond.instanceMethod ({ cls := "LeanSets$Words", name := "<init>", desc := "()V" } : Jvm.MethodName)) ∈ gx_G := gx_1 (List.mem_of_getElem? (i := 38) rfl) rfl
theorem mw_39 : (Jvm.Cond.code ({ cls := "LeanSets$Words", name := "<init>", desc := "()V" } : Jvm.MethodName) prog_7_method_1_code (1 : Nat) (Option.none : Option Jvm.ClassFile.FieldType)) ∈ gx_G := gx_1 (List.mem_of_getElem? (i := 39) rfl) rfl
theorem mw_40 : (Jvm.Cond.methodLink "LeanSets$Words" (3 : Nat) ({ cls := "java/lang/Object", name := "<init>", desc := "()V" } : Jvm.MethodName)) ∈ gx_G := gx_1 (List.mem_of_getElem? (i := 40) rfl) rfl
theorem mw_41 : (Jvm.Cond.fieldLink "LeanSets$Words" (9 : Nat) "LeanSets$Words" "text" "[C") ∈ gx_G := gx_1 (List.mem_of_getElem? (i := 41) rfl) rfl
theorem mw_42 : (Jvm.Cond.fieldLink "LeanSets$Words" (25 : Nat) "LeanSets$Words" "length" "I") ∈ gx_G := gx_1 (List.mem_of_getElem? (i := 42) rfl) rfl
theorem mw_43 : (Jvm.Cond.fieldLink "LeanSets" (56 : Nat) "LeanSets$Words" "length" "I") ∈ gx_G := gx_1 (List.mem_of_getElem? (i := 43) rfl) rfl
theorem mw_44 : (Jvm.Cond.fieldLink "LeanSets$Words" (15 : Nat) "LeanSets$Words" "kinds" "[I") ∈ gx_G := gx_1 (List.mem_of_getElem? (i := 44) rfl) rfl
theorem mw_45 : (Jvm.Cond.fieldLink "LeanSets$TextReader" (63 : Nat) "LeanSets$Words" "kinds" "[I") ∈ gx_G := gx_1 (List.mem_of_getElem? (i := 45) rfl) rfl
theorem mw_46 : (Jvm.Cond.fieldLink "LeanSets$Words" (19 : Nat) "LeanSets$Words" "places" "[I") ∈ gx_G := gx_1 (List.mem_of_getElem? (i := 46) rfl) rfl
theorem mw_47 : (Jvm.Cond.fieldLink "LeanSets$TextReader" (38 : Nat) "LeanSets$Words" "places" "[I") ∈ gx_G := gx_1 (List.mem_of_getElem? (i := 47) rfl) rfl
theorem mw_48 : (Jvm.Cond.fieldLink "LeanSets$Words" (22 : Nat) "LeanSets$Words" "numbers" "[I") ∈ gx_G := gx_1 (List.mem_of_getElem? (i := 48) rfl) rfl
theorem mw_49 : (Jvm.Cond.fieldLink "LeanSets$TextReader" (106 : Nat) "LeanSets$Words" "numbers" "[I") ∈ gx_G := gx_1 (List.mem_of_getElem? (i := 49) rfl) rfl
theorem mw_50 : (Jvm.Cond.fieldLink "LeanSets$Words" (29 : Nat) "LeanSets$Words" "words" "I") ∈ gx_G := gx_1 (List.mem_of_getElem? (i := 50) rfl) rfl
theorem mw_51 : (Jvm.Cond.laysFinal "LeanSets$Words" "LeanSets$Words" "text" "[C") ∈ gx_G := gx_1 (List.mem_of_getElem? (i := 51) rfl) rfl
theorem mw_53 : (Jvm.Cond.lays "LeanSets$Words" "LeanSets$Words" "length" "I") ∈ gx_G := gx_1 (List.mem_of_getElem? (i := 53) rfl) rfl
theorem mw_55 : (Jvm.Cond.laysFinal "LeanSets$Words" "LeanSets$Words" "kinds" "[I") ∈ gx_G := gx_1 (List.mem_of_getElem? (i := 55) rfl) rfl
theorem mw_57 : (Jvm.Cond.laysFinal "LeanSets$Words" "LeanSets$Words" "places" "[I") ∈ gx_G := gx_1 (List.mem_of_getElem? (i := 57) rfl) rfl
theorem mw_59 : (Jvm.Cond.laysFinal "LeanSets$Words" "LeanSets$Words" "numbers" "[I") ∈ gx_G := gx_1 (List.mem_of_getElem? (i := 59) rfl) rfl
theorem mw_61 : (Jvm.Cond.lays "LeanSets$Words" "LeanSets$Words" "words" "I") ∈ gx_G := gx_1 (List.mem_of_getElem? (i := 61) rfl) rfl
theorem mw_64 : (Jvm.Cond.arrayClass Jvm.ClassFile.FieldType.char) ∈ gx_G := gx_1 (List.mem_of_getElem? (i := 64) rfl) rfl
theorem mw_65 : (Jvm.Cond.arrayClass Jvm.ClassFile.FieldType.int) ∈ gx_G := gx_1 (List.mem_of_getElem? (i := 65) rfl) rfl
theorem mw_66 : (Jvm.Cond.classLink "LeanSets$TextReader" (18 : Nat) "LeanSets$Terms") ∈ gx_G := gx_1 (List.mem_of_getElem? (i := 66) rfl) rfl
theorem mw_67 : (Jvm.Cond.instantiable "LeanSets$Terms" (6 : Nat)) ∈ gx_G := gx_1 (List.mem_of_getElem? (i := 67) rfl) rfl
theorem mw_69 : (Jvm.Cond.instanceMethod ({ cls := "LeanSets$Terms", name := "<init>", desc := "()V" } : Jvm.MethodName)) ∈ gx_G := gx_1 (List.mem_of_getElem? (i := 69) rfl) rfl
theorem mw_70 : (Jvm.Cond.code ({ cls := "LeanSets$Terms", name := "<init>", desc := "()V" } : Jvm.MethodName) prog_5_method_1_code (1 : Nat) (Option.none : Option Jvm.ClassFile.FieldType)) ∈ gx_G := gx_1 (List.mem_of_getElem? (i := 70) rfl) rfl
theorem mw_71 : (Jvm.Cond.methodLink "LeanSets$Terms" (3 : Nat) ({ cls := "java/lang/Object", name := "<init>", desc := "()V" } : Jvm.MethodName)) ∈ gx_G := gx_1 (List.mem_of_getElem? (i := 71) rfl) rfl
theorem mw_72 : (Jvm.Cond.fieldLink "LeanSets$Terms" (28 : Nat) "LeanSets$Terms" "size" "I") ∈ gx_G := gx_1 (List.mem_of_getElem? (i := 72) rfl) rfl
theorem mw_73 : (Jvm.Cond.fieldLink "LeanSets$TextReader" (49 : Nat) "LeanSets$Terms" "size" "I") ∈ gx_G := gx_1 (List.mem_of_getElem? (i := 73) rfl) rfl
theorem mw_74 : (Jvm.Cond.fieldLink "LeanSets" (162 : Nat) "LeanSets$Terms" "size" "I") ∈ gx_G := gx_1 (List.mem_of_getElem? (i := 74) rfl) rfl
theorem mw_75 : (Jvm.Cond.fieldLink "LeanSets$Terms" (24 : Nat) "LeanSets$Terms" "length" "I") ∈ gx_G := gx_1 (List.mem_of_getElem? (i := 75) rfl) rfl
theorem mw_76 : (Jvm.Cond.fieldLink "LeanSets$TextReader" (35 : Nat) "LeanSets$Terms" "length" "I") ∈ gx_G := gx_1 (List.mem_of_getElem? (i := 76) rfl) rfl
theorem mw_77 : (Jvm.Cond.fieldLink "LeanSets" (165 : Nat) "LeanSets$Terms" "length" "I") ∈ gx_G := gx_1 (List.mem_of_getElem? (i := 77) rfl) rfl
theorem mw_78 : (Jvm.Cond.fieldLink "LeanSets$Terms" (9 : Nat) "LeanSets$Terms" "kinds" "[I") ∈ gx_G := gx_1 (List.mem_of_getElem? (i := 78) rfl) rfl
theorem mw_79 : (Jvm.Cond.fieldLink "LeanSets" (166 : Nat) "LeanSets$Terms" "kinds" "[I") ∈ gx_G := gx_1 (List.mem_of_getElem? (i := 79) rfl) rfl
theorem mw_80 : (Jvm.Cond.fieldLink "LeanSets$Terms" (15 : Nat) "LeanSets$Terms" "ins" "[I") ∈ gx_G := gx_1 (List.mem_of_getElem? (i := 80) rfl) rfl
theorem mw_81 : (Jvm.Cond.fieldLink "LeanSets$Terms" (18 : Nat) "LeanSets$Terms" "outs" "[I") ∈ gx_G := gx_1 (List.mem_of_getElem? (i := 81) rfl) rfl
theorem mw_82 : (Jvm.Cond.fieldLink "LeanSets$Terms" (21 : Nat) "LeanSets$Terms" "values" "[I") ∈ gx_G := gx_1 (List.mem_of_getElem? (i := 82) rfl) rfl
theorem mw_83 : (Jvm.Cond.lays "LeanSets$Terms" "LeanSets$Terms" "size" "I") ∈ gx_G := gx_1 (List.mem_of_getElem? (i := 83) rfl) rfl
theorem mw_85 : (Jvm.Cond.lays "LeanSets$Terms" "LeanSets$Terms" "length" "I") ∈ gx_G := gx_1 (List.mem_of_getElem? (i := 85) rfl) rfl
theorem mw_87 : (Jvm.Cond.laysFinal "LeanSets$Terms" "LeanSets$Terms" "kinds" "[I") ∈ gx_G := gx_1 (List.mem_of_getElem? (i := 87) rfl) rfl
theorem mw_89 : (Jvm.Cond.laysFinal "LeanSets$Terms" "LeanSets$Terms" "ins" "[I") ∈ gx_G := gx_1 (List.mem_of_getElem? (i := 89) rfl) rfl
theorem mw_91 : (Jvm.Cond.laysFinal "LeanSets$Terms" "LeanSets$Terms" "outs" "[I") ∈ gx_G := gx_1 (List.mem_of_getElem? (i := 91) rfl) rfl
theorem mw_93 : (Jvm.Cond.laysFinal "LeanSets$Terms" "LeanSets$Terms" "values" "[I") ∈ gx_G := gx_1 (List.mem_of_getElem? (i := 93) rfl) rfl
theorem mw_96 : (Jvm.Cond.fieldLink "LeanSets$TextReader" (12 : Nat) "LeanSets$TextReader" "words" "LLeanSets$Words;") ∈ gx_G := gx_1 (List.mem_of_getElem? (i := 96) rfl) rfl
theorem mw_97 : (Jvm.Cond.fieldLink "LeanSets" (52 : Nat) "LeanSets$TextReader" "words" "LLeanSets$Words;") ∈ gx_G := gx_1 (List.mem_of_getElem? (i := 97) rfl) rfl
theorem mw_98 : (Jvm.Cond.fieldLink "LeanSets$TextReader" (21 : Nat) "LeanSets$TextReader" "terms" "LLeanSets$Terms;") ∈ gx_G := gx_1 (List.mem_of_getElem? (i := 98) rfl) rfl
theorem mw_99 : (Jvm.Cond.fieldLink "LeanSets" (85 : Nat) "LeanSets$TextReader" "terms" "LLeanSets$Terms;") ∈ gx_G := gx_1 (List.mem_of_getElem? (i := 99) rfl) rfl
theorem mw_100 : (Jvm.Cond.fieldLink "LeanSets$TextReader" (29 : Nat) "LeanSets$TextReader" "next" "I") ∈ gx_G := gx_1 (List.mem_of_getElem? (i := 100) rfl) rfl
theorem mw_101 : (Jvm.Cond.fieldLink "LeanSets$TextReader" (52 : Nat) "LeanSets$TextReader" "takenPlace" "I") ∈ gx_G := gx_1 (List.mem_of_getElem? (i := 101) rfl) rfl
theorem mw_102 : (Jvm.Cond.fieldLink "LeanSets$TextReader" (46 : Nat) "LeanSets$TextReader" "takenNumber" "I") ∈ gx_G := gx_1 (List.mem_of_getElem? (i := 102) rfl) rfl
theorem mw_103 : (Jvm.Cond.fieldLink "LeanSets$TextReader" (32 : Nat) "LeanSets$TextReader" "fault" "I") ∈ gx_G := gx_1 (List.mem_of_getElem? (i := 103) rfl) rfl
theorem mw_104 : (Jvm.Cond.fieldLink "LeanSets" (82 : Nat) "LeanSets$TextReader" "fault" "I") ∈ gx_G := gx_1 (List.mem_of_getElem? (i := 104) rfl) rfl
theorem mw_105 : (Jvm.Cond.fieldLink "LeanSets$TextReader" (25 : Nat) "LeanSets$TextReader" "faultPlace" "I") ∈ gx_G := gx_1 (List.mem_of_getElem? (i := 105) rfl) rfl
theorem mw_106 : (Jvm.Cond.fieldLink "LeanSets" (93 : Nat) "LeanSets$TextReader" "faultPlace" "I") ∈ gx_G := gx_1 (List.mem_of_getElem? (i := 106) rfl) rfl
theorem mw_107 : (Jvm.Cond.laysFinal "LeanSets$TextReader" "LeanSets$TextReader" "words" "LLeanSets$Words;") ∈ gx_G := gx_1 (List.mem_of_getElem? (i := 107) rfl) rfl
theorem mw_109 : (Jvm.Cond.laysFinal "LeanSets$TextReader" "LeanSets$TextReader" "terms" "LLeanSets$Terms;") ∈ gx_G := gx_1 (List.mem_of_getElem? (i := 109) rfl) rfl
theorem mw_111 : (Jvm.Cond.lays "LeanSets$TextReader" "LeanSets$TextReader" "next" "I") ∈ gx_G := gx_1 (List.mem_of_getElem? (i := 111) rfl) rfl
theorem mw_113 : (Jvm.Cond.lays "LeanSets$TextReader" "LeanSets$TextReader" "takenPlace" "I") ∈ gx_G := gx_1 (List.mem_of_getElem? (i := 113) rfl) rfl
theorem mw_115 : (Jvm.Cond.lays "LeanSets$TextReader" "LeanSets$TextReader" "takenNumber" "I") ∈ gx_G := gx_1 (List.mem_of_getElem? (i := 115) rfl) rfl
theorem mw_117 : (Jvm.Cond.lays "LeanSets$TextReader" "LeanSets$TextReader" "fault" "I") ∈ gx_G := gx_1 (List.mem_of_getElem? (i := 117) rfl) rfl
theorem mw_119 : (Jvm.Cond.lays "LeanSets$TextReader" "LeanSets$TextReader" "faultPlace" "I") ∈ gx_G := gx_1 (List.mem_of_getElem? (i := 119) rfl) rfl
theorem mw_122 : (Jvm.Cond.classLink "LeanSets" (16 : Nat) "LeanSets$SetTable") ∈ gx_G := gx_1 (List.mem_of_getElem? (i := 122) rfl) rfl
theorem mw_123 : (Jvm.Cond.instantiable "LeanSets$SetTable" (6 : Nat)) ∈ gx_G := gx_1 (List.mem_of_getElem? (i := 123) rfl) rfl
theorem mw_125 : (Jvm.Cond.instanceMethod ({ cls := "LeanSets$SetTable", name := "<init>", desc := "()V" } : Jvm.MethodName)) ∈ gx_G := gx_1 (List.mem_of_getElem? (i := 125) rfl) rfl
theorem mw_126 : (Jvm.Cond.code ({ cls := "LeanSets$SetTable", name := "<init>", desc := "()V" } : Jvm.MethodName) prog_4_method_1_code (1 : Nat) (Option.none : Option Jvm.ClassFile.FieldType)) ∈ gx_G := gx_1 (List.mem_of_getElem? (i := 126) rfl) rfl
theorem mw_127 : (Jvm.Cond.methodLink "LeanSets$SetTable" (3 : Nat) ({ cls := "java/lang/Object", name := "<init>", desc := "()V" } : Jvm.MethodName)) ∈ gx_G := gx_1 (List.mem_of_getElem? (i := 127) rfl) rfl
theorem mw_128 : (Jvm.Cond.fieldLink "LeanSets$SetTable" (9 : Nat) "LeanSets$SetTable" "values" "[J") ∈ gx_G := gx_1 (List.mem_of_getElem? (i := 128) rfl) rfl
theorem mw_129 : (Jvm.Cond.fieldLink "LeanSets$Chain" (60 : Nat) "LeanSets$SetTable" "values" "[J") ∈ gx_G := gx_1 (List.mem_of_getElem? (i := 129) rfl) rfl
theorem mw_130 : (Jvm.Cond.fieldLink "LeanSets$ChainCheck" (91 : Nat) "LeanSets$SetTable" "values" "[J") ∈ gx_G := gx_1 (List.mem_of_getElem? (i := 130) rfl) rfl
theorem mw_131 : (Jvm.Cond.fieldLink "LeanSets" (107 : Nat) "LeanSets$SetTable" "values" "[J") ∈ gx_G := gx_1 (List.mem_of_getElem? (i := 131) rfl) rfl
theorem mw_132 : (Jvm.Cond.fieldLink "LeanSets$SetTable" (15 : Nat) "LeanSets$SetTable" "size" "I") ∈ gx_G := gx_1 (List.mem_of_getElem? (i := 132) rfl) rfl
theorem mw_133 : (Jvm.Cond.fieldLink "LeanSets$ChainCheck" (29 : Nat) "LeanSets$SetTable" "size" "I") ∈ gx_G := gx_1 (List.mem_of_getElem? (i := 133) rfl) rfl
theorem mw_134 : (Jvm.Cond.fieldLink "LeanSets$Chain" (39 : Nat) "LeanSets$SetTable" "size" "I") ∈ gx_G := gx_1 (List.mem_of_getElem? (i := 134) rfl) rfl
theorem mw_135 : (Jvm.Cond.fieldLink "LeanSets$SetTable" (19 : Nat) "LeanSets$SetTable" "sets" "I") ∈ gx_G := gx_1 (List.mem_of_getElem? (i := 135) rfl) rfl
theorem mw_136 : (Jvm.Cond.fieldLink "LeanSets$Chain" (52 : Nat) "LeanSets$SetTable" "sets" "I") ∈ gx_G := gx_1 (List.mem_of_getElem? (i := 136) rfl) rfl
theorem mw_137 : (Jvm.Cond.fieldLink "LeanSets$ChainCheck" (94 : Nat) "LeanSets$SetTable" "sets" "I") ∈ gx_G := gx_1 (List.mem_of_getElem? (i := 137) rfl) rfl
theorem mw_138 : (Jvm.Cond.fieldLink "LeanSets$ChainCheck" (88 : Nat) "LeanSets$SetTable" "lowest" "J") ∈ gx_G := gx_1 (List.mem_of_getElem? (i := 138) rfl) rfl
theorem mw_139 : (Jvm.Cond.fieldLink "LeanSets$SetTable" (28 : Nat) "LeanSets$SetTable" "lowest" "J") ∈ gx_G := gx_1 (List.mem_of_getElem? (i := 139) rfl) rfl
theorem mw_140 : (Jvm.Cond.fieldLink "LeanSets" (116 : Nat) "LeanSets$SetTable" "lowest" "J") ∈ gx_G := gx_1 (List.mem_of_getElem? (i := 140) rfl) rfl
theorem mw_141 : (Jvm.Cond.fieldLink "LeanSets$SetTable" (32 : Nat) "LeanSets$SetTable" "meet" "I") ∈ gx_G := gx_1 (List.mem_of_getElem? (i := 141) rfl) rfl
theorem mw_142 : (Jvm.Cond.fieldLink "LeanSets" (120 : Nat) "LeanSets$SetTable" "meet" "I") ∈ gx_G := gx_1 (List.mem_of_getElem? (i := 142) rfl) rfl
theorem mw_143 : (Jvm.Cond.fieldLink "LeanSets$SetTable" (35 : Nat) "LeanSets$SetTable" "join" "I") ∈ gx_G := gx_1 (List.mem_of_getElem? (i := 143) rfl) rfl
theorem mw_144 : (Jvm.Cond.fieldLink "LeanSets" (123 : Nat) "LeanSets$SetTable" "join" "I") ∈ gx_G := gx_1 (List.mem_of_getElem? (i := 144) rfl) rfl
theorem mw_145 : (Jvm.Cond.laysFinal "LeanSets$SetTable" "LeanSets$SetTable" "values" "[J") ∈ gx_G := gx_1 (List.mem_of_getElem? (i := 145) rfl) rfl
theorem mw_147 : (Jvm.Cond.lays "LeanSets$SetTable" "LeanSets$SetTable" "size" "I") ∈ gx_G := gx_1 (List.mem_of_getElem? (i := 147) rfl) rfl
theorem mw_149 : (Jvm.Cond.lays "LeanSets$SetTable" "LeanSets$SetTable" "sets" "I") ∈ gx_G := gx_1 (List.mem_of_getElem? (i := 149) rfl) rfl
theorem mw_151 : (Jvm.Cond.lays "LeanSets$SetTable" "LeanSets$SetTable" "lowest" "J") ∈ gx_G := gx_1 (List.mem_of_getElem? (i := 151) rfl) rfl
theorem mw_153 : (Jvm.Cond.lays "LeanSets$SetTable" "LeanSets$SetTable" "meet" "I") ∈ gx_G := gx_1 (List.mem_of_getElem? (i := 153) rfl) rfl
theorem mw_155 : (Jvm.Cond.lays "LeanSets$SetTable" "LeanSets$SetTable" "join" "I") ∈ gx_G := gx_1 (List.mem_of_getElem? (i := 155) rfl) rfl
theorem mw_158 : (Jvm.Cond.arrayClass Jvm.ClassFile.FieldType.long) ∈ gx_G := gx_1 (List.mem_of_getElem? (i := 158) rfl) rfl
theorem mw_159 : (Jvm.Cond.classLink "LeanSets" (26 : Nat) "LeanSets$Chain") ∈ gx_G := gx_1 (List.mem_of_getElem? (i := 159) rfl) rfl
theorem mw_160 : (Jvm.Cond.instantiable "LeanSets$Chain" (7 : Nat)) ∈ gx_G := gx_1 (List.mem_of_getElem? (i := 160) rfl) rfl
theorem mw_162 : (Jvm.Cond.instanceMethod ({ cls := "LeanSets$Chain", name := "<init>", desc := "()V" } : Jvm.MethodName)) ∈ gx_G := gx_1 (List.mem_of_getElem? (i := 162) rfl) rfl
theorem mw_163 : (Jvm.Cond.code ({ cls := "LeanSets$Chain", name := "<init>", desc := "()V" } : Jvm.MethodName) prog_2_method_1_code (1 : Nat) (Option.none : Option Jvm.ClassFile.FieldType)) ∈ gx_G := gx_1 (List.mem_of_getElem? (i := 163) rfl) rfl
theorem mw_164 : (Jvm.Cond.methodLink "LeanSets$Chain" (3 : Nat) ({ cls := "java/lang/Object", name := "<init>", desc := "()V" } : Jvm.MethodName)) ∈ gx_G := gx_1 (List.mem_of_getElem? (i := 164) rfl) rfl
theorem mw_165 : (Jvm.Cond.fieldLink "LeanSets$Chain" (35 : Nat) "LeanSets$Chain" "length" "I") ∈ gx_G := gx_1 (List.mem_of_getElem? (i := 165) rfl) rfl
theorem mw_166 : (Jvm.Cond.fieldLink "LeanSets$ChainCheck" (53 : Nat) "LeanSets$Chain" "length" "I") ∈ gx_G := gx_1 (List.mem_of_getElem? (i := 166) rfl) rfl
theorem mw_167 : (Jvm.Cond.fieldLink "LeanSets" (139 : Nat) "LeanSets$Chain" "length" "I") ∈ gx_G := gx_1 (List.mem_of_getElem? (i := 167) rfl) rfl
theorem mw_168 : (Jvm.Cond.fieldLink "LeanSets$Chain" (9 : Nat) "LeanSets$Chain" "above" "[J") ∈ gx_G := gx_1 (List.mem_of_getElem? (i := 168) rfl) rfl
theorem mw_169 : (Jvm.Cond.fieldLink "LeanSets$ChainCheck" (68 : Nat) "LeanSets$Chain" "above" "[J") ∈ gx_G := gx_1 (List.mem_of_getElem? (i := 169) rfl) rfl
theorem mw_170 : (Jvm.Cond.fieldLink "LeanSets" (146 : Nat) "LeanSets$Chain" "above" "[J") ∈ gx_G := gx_1 (List.mem_of_getElem? (i := 170) rfl) rfl
theorem mw_171 : (Jvm.Cond.fieldLink "LeanSets$Chain" (15 : Nat) "LeanSets$Chain" "below" "[J") ∈ gx_G := gx_1 (List.mem_of_getElem? (i := 171) rfl) rfl
theorem mw_172 : (Jvm.Cond.fieldLink "LeanSets$ChainCheck" (58 : Nat) "LeanSets$Chain" "below" "[J") ∈ gx_G := gx_1 (List.mem_of_getElem? (i := 172) rfl) rfl
theorem mw_173 : (Jvm.Cond.fieldLink "LeanSets" (149 : Nat) "LeanSets$Chain" "below" "[J") ∈ gx_G := gx_1 (List.mem_of_getElem? (i := 173) rfl) rfl
theorem mw_174 : (Jvm.Cond.fieldLink "LeanSets$Chain" (18 : Nat) "LeanSets$Chain" "sets" "[I") ∈ gx_G := gx_1 (List.mem_of_getElem? (i := 174) rfl) rfl
theorem mw_175 : (Jvm.Cond.fieldLink "LeanSets" (143 : Nat) "LeanSets$Chain" "sets" "[I") ∈ gx_G := gx_1 (List.mem_of_getElem? (i := 175) rfl) rfl
theorem mw_176 : (Jvm.Cond.fieldLink "LeanSets$Chain" (22 : Nat) "LeanSets$Chain" "turnOf" "[I") ∈ gx_G := gx_1 (List.mem_of_getElem? (i := 176) rfl) rfl
theorem mw_177 : (Jvm.Cond.fieldLink "LeanSets$ChainCheck" (65 : Nat) "LeanSets$Chain" "turnOf" "[I") ∈ gx_G := gx_1 (List.mem_of_getElem? (i := 177) rfl) rfl
theorem mw_178 : (Jvm.Cond.fieldLink "LeanSets" (152 : Nat) "LeanSets$Chain" "turnOf" "[I") ∈ gx_G := gx_1 (List.mem_of_getElem? (i := 178) rfl) rfl
theorem mw_179 : (Jvm.Cond.fieldLink "LeanSets$Chain" (25 : Nat) "LeanSets$Chain" "lowestOf" "[J") ∈ gx_G := gx_1 (List.mem_of_getElem? (i := 179) rfl) rfl
theorem mw_180 : (Jvm.Cond.fieldLink "LeanSets$Chain" (28 : Nat) "LeanSets$Chain" "setOf" "[I") ∈ gx_G := gx_1 (List.mem_of_getElem? (i := 180) rfl) rfl
theorem mw_181 : (Jvm.Cond.lays "LeanSets$Chain" "LeanSets$Chain" "length" "I") ∈ gx_G := gx_1 (List.mem_of_getElem? (i := 181) rfl) rfl
theorem mw_183 : (Jvm.Cond.laysFinal "LeanSets$Chain" "LeanSets$Chain" "above" "[J") ∈ gx_G := gx_1 (List.mem_of_getElem? (i := 183) rfl) rfl
theorem mw_185 : (Jvm.Cond.laysFinal "LeanSets$Chain" "LeanSets$Chain" "below" "[J") ∈ gx_G := gx_1 (List.mem_of_getElem? (i := 185) rfl) rfl
theorem mw_187 : (Jvm.Cond.laysFinal "LeanSets$Chain" "LeanSets$Chain" "sets" "[I") ∈ gx_G := gx_1 (List.mem_of_getElem? (i := 187) rfl) rfl
theorem mw_189 : (Jvm.Cond.laysFinal "LeanSets$Chain" "LeanSets$Chain" "turnOf" "[I") ∈ gx_G := gx_1 (List.mem_of_getElem? (i := 189) rfl) rfl
theorem mw_191 : (Jvm.Cond.laysFinal "LeanSets$Chain" "LeanSets$Chain" "lowestOf" "[J") ∈ gx_G := gx_1 (List.mem_of_getElem? (i := 191) rfl) rfl
theorem mw_193 : (Jvm.Cond.laysFinal "LeanSets$Chain" "LeanSets$Chain" "setOf" "[I") ∈ gx_G := gx_1 (List.mem_of_getElem? (i := 193) rfl) rfl
theorem mw_196 : (Jvm.Cond.classLink "LeanSets" (33 : Nat) "LeanSets$ChainCheck") ∈ gx_G := gx_1 (List.mem_of_getElem? (i := 196) rfl) rfl
theorem mw_197 : (Jvm.Cond.instantiable "LeanSets$ChainCheck" (5 : Nat)) ∈ gx_G := gx_1 (List.mem_of_getElem? (i := 197) rfl) rfl
theorem mw_199 : (Jvm.Cond.instanceMethod ({ cls := "LeanSets$ChainCheck", name := "<init>", desc := "()V" } : Jvm.MethodName)) ∈ gx_G := gx_1 (List.mem_of_getElem? (i := 199) rfl) rfl
theorem mw_200 : (Jvm.Cond.code ({ cls := "LeanSets$ChainCheck", name := "<init>", desc := "()V" } : Jvm.MethodName) prog_3_method_1_code (1 : Nat) (Option.none : Option Jvm.ClassFile.FieldType)) ∈ gx_G := gx_1 (List.mem_of_getElem? (i := 200) rfl) rfl
theorem mw_201 : (Jvm.Cond.methodLink "LeanSets$ChainCheck" (3 : Nat) ({ cls := "java/lang/Object", name := "<init>", desc := "()V" } : Jvm.MethodName)) ∈ gx_G := gx_1 (List.mem_of_getElem? (i := 201) rfl) rfl
theorem mw_202 : (Jvm.Cond.classLink "LeanSets$ChainCheck" (9 : Nat) "LeanSets$SetTable") ∈ gx_G := gx_1 (List.mem_of_getElem? (i := 202) rfl) rfl
theorem mw_204 : (Jvm.Cond.fieldLink "LeanSets$ChainCheck" (12 : Nat) "LeanSets$ChainCheck" "gaps" "LLeanSets$SetTable;") ∈ gx_G := gx_1 (List.mem_of_getElem? (i := 204) rfl) rfl
theorem mw_205 : (Jvm.Cond.fieldLink "LeanSets$ChainCheck" (18 : Nat) "LeanSets$ChainCheck" "whole" "[J") ∈ gx_G := gx_1 (List.mem_of_getElem? (i := 205) rfl) rfl
theorem mw_206 : (Jvm.Cond.fieldLink "LeanSets$ChainCheck" (22 : Nat) "LeanSets$ChainCheck" "extremes" "[J") ∈ gx_G := gx_1 (List.mem_of_getElem? (i := 206) rfl) rfl
theorem mw_207 : (Jvm.Cond.fieldLink "LeanSets$ChainCheck" (25 : Nat) "LeanSets$ChainCheck" "order" "[I") ∈ gx_G := gx_1 (List.mem_of_getElem? (i := 207) rfl) rfl
theorem mw_208 : (Jvm.Cond.fieldLink "LeanSets$ChainCheck" (49 : Nat) "LeanSets$ChainCheck" "times" "J") ∈ gx_G := gx_1 (List.mem_of_getElem? (i := 208) rfl) rfl
theorem mw_209 : (Jvm.Cond.laysFinal "LeanSets$ChainCheck" "LeanSets$ChainCheck" "gaps" "LLeanSets$SetTable;") ∈ gx_G := gx_1 (List.mem_of_getElem? (i := 209) rfl) rfl
theorem mw_211 : (Jvm.Cond.laysFinal "LeanSets$ChainCheck" "LeanSets$ChainCheck" "whole" "[J") ∈ gx_G := gx_1 (List.mem_of_getElem? (i := 211) rfl) rfl
theorem mw_213 : (Jvm.Cond.laysFinal "LeanSets$ChainCheck" "LeanSets$ChainCheck" "extremes" "[J") ∈ gx_G := gx_1 (List.mem_of_getElem? (i := 213) rfl) rfl
theorem mw_215 : (Jvm.Cond.laysFinal "LeanSets$ChainCheck" "LeanSets$ChainCheck" "order" "[I") ∈ gx_G := gx_1 (List.mem_of_getElem? (i := 215) rfl) rfl
theorem mw_217 : (Jvm.Cond.lays "LeanSets$ChainCheck" "LeanSets$ChainCheck" "times" "J") ∈ gx_G := gx_1 (List.mem_of_getElem? (i := 217) rfl) rfl
theorem mw_220 : (Jvm.Cond.fieldLink "LeanSets" (10 : Nat) "LeanSets" "reader" "LLeanSets$TextReader;") ∈ gx_G := gx_1 (List.mem_of_getElem? (i := 220) rfl) rfl
theorem mw_221 : (Jvm.Cond.fieldLink "LeanSets" (19 : Nat) "LeanSets" "function" "LLeanSets$SetTable;") ∈ gx_G := gx_1 (List.mem_of_getElem? (i := 221) rfl) rfl
theorem mw_222 : (Jvm.Cond.fieldLink "LeanSets" (23 : Nat) "LeanSets" "gaps" "LLeanSets$SetTable;") ∈ gx_G := gx_1 (List.mem_of_getElem? (i := 222) rfl) rfl
theorem mw_223 : (Jvm.Cond.fieldLink "LeanSets" (29 : Nat) "LeanSets" "chain" "LLeanSets$Chain;") ∈ gx_G := gx_1 (List.mem_of_getElem? (i := 223) rfl) rfl
theorem mw_224 : (Jvm.Cond.fieldLink "LeanSets" (36 : Nat) "LeanSets" "chainCheck" "LLeanSets$ChainCheck;") ∈ gx_G := gx_1 (List.mem_of_getElem? (i := 224) rfl) rfl
theorem mw_225 : (Jvm.Cond.fieldLink "LeanSets" (40 : Nat) "LeanSets" "vector" "[J") ∈ gx_G := gx_1 (List.mem_of_getElem? (i := 225) rfl) rfl
theorem mw_226 : (Jvm.Cond.fieldLink "LeanSets" (44 : Nat) "LeanSets" "counts" "[I") ∈ gx_G := gx_1 (List.mem_of_getElem? (i := 226) rfl) rfl
theorem mw_227 : (Jvm.Cond.fieldLink "LeanSets" (48 : Nat) "LeanSets" "size" "I") ∈ gx_G := gx_1 (List.mem_of_getElem? (i := 227) rfl) rfl
theorem mw_228 : (Jvm.Cond.laysFinal "LeanSets" "LeanSets" "reader" "LLeanSets$TextReader;") ∈ gx_G := gx_1 (List.mem_of_getElem? (i := 228) rfl) rfl
theorem mw_230 : (Jvm.Cond.laysFinal "LeanSets" "LeanSets" "function" "LLeanSets$SetTable;") ∈ gx_G := gx_1 (List.mem_of_getElem? (i := 230) rfl) rfl
theorem mw_232 : (Jvm.Cond.laysFinal "LeanSets" "LeanSets" "gaps" "LLeanSets$SetTable;") ∈ gx_G := gx_1 (List.mem_of_getElem? (i := 232) rfl) rfl
theorem mw_234 : (Jvm.Cond.laysFinal "LeanSets" "LeanSets" "chain" "LLeanSets$Chain;") ∈ gx_G := gx_1 (List.mem_of_getElem? (i := 234) rfl) rfl
theorem mw_236 : (Jvm.Cond.laysFinal "LeanSets" "LeanSets" "chainCheck" "LLeanSets$ChainCheck;") ∈ gx_G := gx_1 (List.mem_of_getElem? (i := 236) rfl) rfl
theorem mw_238 : (Jvm.Cond.laysFinal "LeanSets" "LeanSets" "vector" "[J") ∈ gx_G := gx_1 (List.mem_of_getElem? (i := 238) rfl) rfl
theorem mw_240 : (Jvm.Cond.laysFinal "LeanSets" "LeanSets" "counts" "[I") ∈ gx_G := gx_2 (List.mem_of_getElem? (i := 0) rfl) rfl
theorem mw_242 : (Jvm.Cond.lays "LeanSets" "LeanSets" "size" "I") ∈ gx_G := gx_2 (List.mem_of_getElem? (i := 2) rfl) rfl
theorem mw_245 : (Jvm.Cond.methodLink "LeanSetsLaw" (63 : Nat) ({ cls := "LeanSets", name := "type", desc := "(JI)I" } : Jvm.MethodName)) ∈ gx_G := gx_2 (List.mem_of_getElem? (i := 5) rfl) rfl
theorem mw_246 : (Jvm.Cond.instanceMethod ({ cls := "LeanSets", name := "type", desc := "(JI)I" } : Jvm.MethodName)) ∈ gx_G := gx_2 (List.mem_of_getElem? (i := 6) rfl) rfl
theorem mw_247 : (Jvm.Cond.selects "LeanSets" ({ cls := "LeanSets", name := "type", desc := "(JI)I" } : Jvm.MethodName) ({ cls := "LeanSets", name := "type", desc := "(JI)I" } : Jvm.MethodName)) ∈ gx_G := gx_2 (List.mem_of_getElem? (i := 7) rfl) rfl
theorem mw_248 : (Jvm.Cond.code ({ cls := "LeanSets", name := "type", desc := "(JI)I" } : Jvm.MethodName) prog_1_method_2_code (7 : Nat) (Option.some Jvm.ClassFile.FieldType.int)) ∈ gx_G := gx_2 (List.mem_of_getElem? (i := 8) rfl) rfl
theorem mw_249 : (Jvm.Cond.methodLink "LeanSets" (61 : Nat) ({ cls := "LeanSets", name := "byteOf", desc := "(JI)I" } : Jvm.MethodName)) ∈ gx_G := gx_2 (List.mem_of_getElem? (i := 9) rfl) rfl
theorem mw_250 : (Jvm.Cond.static ({ cls := "LeanSets", name := "byteOf", desc := "(JI)I" } : Jvm.MethodName)) ∈ gx_G := gx_2 (List.mem_of_getElem? (i := 10) rfl) rfl
theorem mw_251 : (Jvm.Cond.code ({ cls := "LeanSets", name := "byteOf", desc := "(JI)I" } : Jvm.MethodName) prog_1_method_17_code (3 : Nat) (Option.some Jvm.ClassFile.FieldType.int)) ∈ gx_G := gx_2 (List.mem_of_getElem? (i := 11) rfl) rfl
theorem mw_252 : (Jvm.Cond.methodLink "LeanSets" (65 : Nat) ({ cls := "LeanSets$Words", name := "append", desc := "(C)V" } : Jvm.MethodName)) ∈ gx_G := gx_2 (List.mem_of_getElem? (i := 12) rfl) rfl
theorem mw_253 : (Jvm.Cond.instanceMethod ({ cls := "LeanSets$Words", name := "append", desc := "(C)V" } : Jvm.MethodName)) ∈ gx_G := gx_2 (List.mem_of_getElem? (i := 13) rfl) rfl
theorem mw_254 : (Jvm.Cond.selects "LeanSets$Words" ({ cls := "LeanSets$Words", name := "append", desc := "(C)V" } : Jvm.MethodName) ({ cls := "LeanSets$Words", name := "append", desc := "(C)V" } : Jvm.MethodName)) ∈ gx_G := gx_2 (List.mem_of_getElem? (i := 14) rfl) rfl
theorem mw_255 : (Jvm.Cond.code ({ cls := "LeanSets$Words", name := "append", desc := "(C)V" } : Jvm.MethodName) prog_7_method_2_code (2 : Nat) (Option.none : Option Jvm.ClassFile.FieldType)) ∈ gx_G := gx_2 (List.mem_of_getElem? (i := 15) rfl) rfl
theorem mw_256 : (Jvm.Cond.methodLink "LeanSetsLaw" (67 : Nat) ({ cls := "LeanSets", name := "read", desc := "()I" } : Jvm.MethodName)) ∈ gx_G := gx_2 (List.mem_of_getElem? (i := 16) rfl) rfl
theorem mw_257 : (Jvm.Cond.instanceMethod ({ cls := "LeanSets", name := "read", desc := "()I" } : Jvm.MethodName)) ∈ gx_G := gx_2 (List.mem_of_getElem? (i := 17) rfl) rfl
theorem mw_258 : (Jvm.Cond.selects "LeanSets" ({ cls := "LeanSets", name := "read", desc := "()I" } : Jvm.MethodName) ({ cls := "LeanSets", name := "read", desc := "()I" } : Jvm.MethodName)) ∈ gx_G := gx_2 (List.mem_of_getElem? (i := 18) rfl) rfl
theorem mw_259 : (Jvm.Cond.code ({ cls := "LeanSets", name := "read", desc := "()I" } : Jvm.MethodName) prog_1_method_3_code (1 : Nat) (Option.some Jvm.ClassFile.FieldType.int)) ∈ gx_G := gx_2 (List.mem_of_getElem? (i := 19) rfl) rfl
theorem mw_260 : (Jvm.Cond.methodLink "LeanSets" (69 : Nat) ({ cls := "LeanSets$Words", name := "split", desc := "()V" } : Jvm.MethodName)) ∈ gx_G := gx_2 (List.mem_of_getElem? (i := 20) rfl) rfl
theorem mw_261 : (Jvm.Cond.instanceMethod ({ cls := "LeanSets$Words", name := "split", desc := "()V" } : Jvm.MethodName)) ∈ gx_G := gx_2 (List.mem_of_getElem? (i := 21) rfl) rfl
theorem mw_262 : (Jvm.Cond.selects "LeanSets$Words" ({ cls := "LeanSets$Words", name := "split", desc := "()V" } : Jvm.MethodName) ({ cls := "LeanSets$Words", name := "split", desc := "()V" } : Jvm.MethodName)) ∈ gx_G := gx_2 (List.mem_of_getElem? (i := 22) rfl) rfl
theorem mw_263 : (Jvm.Cond.code ({ cls := "LeanSets$Words", name := "split", desc := "()V" } : Jvm.MethodName) prog_7_method_3_code (4 : Nat) (Option.none : Option Jvm.ClassFile.FieldType)) ∈ gx_G := gx_2 (List.mem_of_getElem? (i := 23) rfl) rfl
theorem mw_264 : (Jvm.Cond.methodLink "LeanSets$Words" (32 : Nat) ({ cls := "LeanSets$Words", name := "firstBehindBlanks", desc := "(I)I" } : Jvm.MethodName)) ∈ gx_G := gx_2 (List.mem_of_getElem? (i := 24) rfl) rfl
theorem mw_266 : (Jvm.Cond.instanceMethod ({ cls := "LeanSets$Words", name := "firstBehindBlanks", desc := "(I)I" } : Jvm.MethodName)) ∈ gx_G := gx_2 (List.mem_of_getElem? (i := 26) rfl) rfl
theorem mw_267 : (Jvm.Cond.code ({ cls := "LeanSets$Words", name := "firstBehindBlanks", desc := "(I)I" } : Jvm.MethodName) prog_7_method_5_code (3 : Nat) (Option.some Jvm.ClassFile.FieldType.int)) ∈ gx_G := gx_2 (List.mem_of_getElem? (i := 27) rfl) rfl
theorem mw_268 : (Jvm.Cond.methodLink "LeanSets$Words" (36 : Nat) ({ cls := "LeanSets$Words", name := "endOfWord", desc := "(I)I" } : Jvm.MethodName)) ∈ gx_G := gx_2 (List.mem_of_getElem? (i := 28) rfl) rfl
theorem mw_270 : (Jvm.Cond.instanceMethod ({ cls := "LeanSets$Words", name := "endOfWord", desc := "(I)I" } : Jvm.MethodName)) ∈ gx_G := gx_2 (List.mem_of_getElem? (i := 30) rfl) rfl
theorem mw_271 : (Jvm.Cond.code ({ cls := "LeanSets$Words", name := "endOfWord", desc := "(I)I" } : Jvm.MethodName) prog_7_method_6_code (3 : Nat) (Option.some Jvm.ClassFile.FieldType.int)) ∈ gx_G := gx_2 (List.mem_of_getElem? (i := 31) rfl) rfl
theorem mw_272 : (Jvm.Cond.methodLink "LeanSets$Words" (50 : Nat) ({ cls := "LeanSets$Words", name := "isLetter", desc := "(C)Z" } : Jvm.MethodName)) ∈ gx_G := gx_2 (List.mem_of_getElem? (i := 32) rfl) rfl
theorem mw_273 : (Jvm.Cond.static ({ cls := "LeanSets$Words", name := "isLetter", desc := "(C)Z" } : Jvm.MethodName)) ∈ gx_G := gx_2 (List.mem_of_getElem? (i := 33) rfl) rfl
theorem mw_274 : (Jvm.Cond.code ({ cls := "LeanSets$Words", name := "isLetter", desc := "(C)Z" } : Jvm.MethodName) prog_7_method_11_code (1 : Nat) (Option.some Jvm.ClassFile.FieldType.boolean)) ∈ gx_G := gx_2 (List.mem_of_getElem? (i := 34) rfl) rfl
theorem mw_275 : (Jvm.Cond.methodLink "LeanSets$Words" (54 : Nat) ({ cls := "LeanSets$Words", name := "isDigit", desc := "(C)Z" } : Jvm.MethodName)) ∈ gx_G := gx_2 (List.mem_of_getElem? (i := 35) rfl) rfl
theorem mw_276 : (Jvm.Cond.static ({ cls := "LeanSets$Words", name := "isDigit", desc := "(C)Z" } : Jvm.MethodName)) ∈ gx_G := gx_2 (List.mem_of_getElem? (i := 36) rfl) rfl
theorem mw_277 : (Jvm.Cond.code ({ cls := "LeanSets$Words", name := "isDigit", desc := "(C)Z" } : Jvm.MethodName) prog_7_method_12_code (1 : Nat) (Option.some Jvm.ClassFile.FieldType.boolean)) ∈ gx_G := gx_2 (List.mem_of_getElem? (i := 37) rfl) rfl
theorem mw_278 : (Jvm.Cond.methodLink "LeanSets$Words" (39 : Nat) ({ cls := "LeanSets$Words", name := "kindOf", desc := "(II)I" } : Jvm.MethodName)) ∈ gx_G := gx_2 (List.mem_of_getElem? (i := 38) rfl) rfl
theorem mw_280 : (Jvm.Cond.instanceMethod ({ cls := "LeanSets$Words", name := "kindOf", desc := "(II)I" } : Jvm.MethodName)) ∈ gx_G := gx_2 (List.mem_of_getElem? (i := 40) rfl) rfl
theorem mw_281 : (Jvm.Cond.code ({ cls := "LeanSets$Words", name := "kindOf", desc := "(II)I" } : Jvm.MethodName) prog_7_method_7_code (3 : Nat) (Option.some Jvm.ClassFile.FieldType.int)) ∈ gx_G := gx_2 (List.mem_of_getElem? (i := 41) rfl) rfl
theorem mw_282 : (Jvm.Cond.methodLink "LeanSets$Words" (57 : Nat) ({ cls := "LeanSets$Words", name := "kindOfName", desc := "(II)I" } : Jvm.MethodName)) ∈ gx_G := gx_2 (List.mem_of_getElem? (i := 42) rfl) rfl
theorem mw_284 : (Jvm.Cond.instanceMethod ({ cls := "LeanSets$Words", name := "kindOfName", desc := "(II)I" } : Jvm.MethodName)) ∈ gx_G := gx_2 (List.mem_of_getElem? (i := 44) rfl) rfl
theorem mw_285 : (Jvm.Cond.code ({ cls := "LeanSets$Words", name := "kindOfName", desc := "(II)I" } : Jvm.MethodName) prog_7_method_8_code (3 : Nat) (Option.some Jvm.ClassFile.FieldType.int)) ∈ gx_G := gx_2 (List.mem_of_getElem? (i := 45) rfl) rfl
theorem mw_287 : (Jvm.Cond.methodLink "LeanSets$Words" (62 : Nat) ({ cls := "LeanSets$Words", name := "spells", desc := "(Ljava/lang/String;II)Z" } : Jvm.MethodName)) ∈ gx_G := gx_2 (List.mem_of_getElem? (i := 47) rfl) rfl
theorem mw_289 : (Jvm.Cond.instanceMethod ({ cls := "LeanSets$Words", name := "spells", desc := "(Ljava/lang/String;II)Z" } : Jvm.MethodName)) ∈ gx_G := gx_2 (List.mem_of_getElem? (i := 49) rfl) rfl
theorem mw_290 : (Jvm.Cond.code ({ cls := "LeanSets$Words", name := "spells", desc := "(Ljava/lang/String;II)Z" } : Jvm.MethodName) prog_7_method_9_code (5 : Nat) (Option.some Jvm.ClassFile.FieldType.boolean)) ∈ gx_G := gx_2 (List.mem_of_getElem? (i := 50) rfl) rfl
theorem mw_291 : (Jvm.Cond.methodLink "LeanSets$Words" (72 : Nat) ({ cls := "java/lang/String", name := "length", desc := "()I" } : Jvm.MethodName)) ∈ gx_G := gx_2 (List.mem_of_getElem? (i := 51) rfl) rfl
theorem mw_292 : (Jvm.Cond.instanceMethod ({ cls := "java/lang/String", name := "length", desc := "()I" } : Jvm.MethodName)) ∈ gx_G := gx_2 (List.mem_of_getElem? (i := 52) rfl) rfl
theorem mw_293 : (Jvm.Cond.selects "java/lang/String" ({ cls := "java/lang/String", name := "length", desc := "()I" } : Jvm.MethodName) ({ cls := "java/lang/String", name := "length", desc := "()I" } : Jvm.MethodName)) ∈ gx_G := gx_2 (List.mem_of_getElem? (i := 53) rfl) rfl
theorem mw_294 : (Jvm.Cond.code ({ cls := "java/lang/String", name := "length", desc := "()I" } : Jvm.MethodName) prog_17_method_54_code (1 : Nat) (Option.some Jvm.ClassFile.FieldType.int)) ∈ gx_G := gx_2 (List.mem_of_getElem? (i := 54) rfl) rfl
theorem mw_295 : (Jvm.Cond.methodLink "java/lang/String" (335 : Nat) ({ cls := "java/lang/String", name := "coder", desc := "()B" } : Jvm.MethodName)) ∈ gx_G := gx_2 (List.mem_of_getElem? (i := 55) rfl) rfl
theorem mw_296 : (Jvm.Cond.instanceMethod ({ cls := "java/lang/String", name := "coder", desc := "()B" } : Jvm.MethodName)) ∈ gx_G := gx_2 (List.mem_of_getElem? (i := 56) rfl) rfl
theorem mw_297 : (Jvm.Cond.selects "java/lang/String" ({ cls := "java/lang/String", name := "coder", desc := "()B" } : Jvm.MethodName) ({ cls := "java/lang/String", name := "coder", desc := "()B" } : Jvm.MethodName)) ∈ gx_G := gx_2 (List.mem_of_getElem? (i := 57) rfl) rfl
theorem mw_298 : (Jvm.Cond.code ({ cls := "java/lang/String", name := "coder", desc := "()B" } : Jvm.MethodName) prog_17_method_152_code (1 : Nat) (Option.some Jvm.ClassFile.FieldType.byte)) ∈ gx_G := gx_2 (List.mem_of_getElem? (i := 58) rfl) rfl
theorem mw_299 : (Jvm.Cond.fieldLink "java/lang/String" (38 : Nat) "java/lang/String" "COMPACT_STRINGS" "Z") ∈ gx_G := gx_2 (List.mem_of_getElem? (i := 59) rfl) rfl
theorem mw_301 : (Jvm.Cond.methodLink "LeanSets$Words" (77 : Nat) ({ cls := "java/lang/String", name := "charAt", desc := "(I)C" } : Jvm.MethodName)) ∈ gx_G := gx_2 (List.mem_of_getElem? (i := 61) rfl) rfl
theorem mw_302 : (Jvm.Cond.instanceMethod ({ cls := "java/lang/String", name := "charAt", desc := "(I)C" } : Jvm.MethodName)) ∈ gx_G := gx_2 (List.mem_of_getElem? (i := 62) rfl) rfl
theorem mw_303 : (Jvm.Cond.selects "java/lang/String" ({ cls := "java/lang/String", name := "charAt", desc := "(I)C" } : Jvm.MethodName) ({ cls := "java/lang/String", name := "charAt", desc := "(I)C" } : Jvm.MethodName)) ∈ gx_G := gx_2 (List.mem_of_getElem? (i := 63) rfl) rfl
theorem mw_304 : (Jvm.Cond.code ({ cls := "java/lang/String", name := "charAt", desc := "(I)C" } : Jvm.MethodName) prog_17_method_56_code (2 : Nat) (Option.some Jvm.ClassFile.FieldType.char)) ∈ gx_G := gx_2 (List.mem_of_getElem? (i := 64) rfl) rfl
theorem mw_305 : (Jvm.Cond.methodLink "java/lang/String" (492 : Nat) ({ cls := "java/lang/String", name := "isLatin1", desc := "()Z" } : Jvm.MethodName)) ∈ gx_G := gx_2 (List.mem_of_getElem? (i := 65) rfl) rfl
theorem mw_306 : (Jvm.Cond.instanceMethod ({ cls := "java/lang/String", name := "isLatin1", desc := "()Z" } : Jvm.MethodName)) ∈ gx_G := gx_2 (List.mem_of_getElem? (i := 66) rfl) rfl
theorem mw_307 : (Jvm.Cond.selects "java/lang/String" ({ cls := "java/lang/String", name := "isLatin1", desc := "()Z" } : Jvm.MethodName) ({ cls := "java/lang/String", name := "isLatin1", desc := "()Z" } : Jvm.MethodName)) ∈ gx_G := gx_2 (List.mem_of_getElem? (i := 67) rfl) rfl
theorem mw_308 : (Jvm.Cond.code ({ cls := "java/lang/String", name := "isLatin1", desc := "()Z" } : Jvm.MethodName) prog_17_method_154_code (1 : Nat) (Option.some Jvm.ClassFile.FieldType.boolean)) ∈ gx_G := gx_2 (List.mem_of_getElem? (i := 68) rfl) rfl
theorem mw_309 : (Jvm.Cond.methodLink "java/lang/String" (495 : Nat) ({ cls := "java/lang/StringLatin1", name := "charAt", desc := "([BI)C" } : Jvm.MethodName)) ∈ gx_G := gx_2 (List.mem_of_getElem? (i := 69) rfl) rfl
theorem mw_310 : (Jvm.Cond.static ({ cls := "java/lang/StringLatin1", name := "charAt", desc := "([BI)C" } : Jvm.MethodName)) ∈ gx_G := gx_2 (List.mem_of_getElem? (i := 70) rfl) rfl
theorem mw_311 : (Jvm.Cond.code ({ cls := "java/lang/StringLatin1", name := "charAt", desc := "([BI)C" } : Jvm.MethodName) prog_18_method_2_code (2 : Nat) (Option.some Jvm.ClassFile.FieldType.char)) ∈ gx_G := gx_2 (List.mem_of_getElem? (i := 71) rfl) rfl
theorem mw_312 : (Jvm.Cond.methodLink "java/lang/StringLatin1" (9 : Nat) ({ cls := "java/lang/String", name := "checkIndex", desc := "(II)V" } : Jvm.MethodName)) ∈ gx_G := gx_2 (List.mem_of_getElem? (i := 72) rfl) rfl
theorem mw_313 : (Jvm.Cond.static ({ cls := "java/lang/String", name := "checkIndex", desc := "(II)V" } : Jvm.MethodName)) ∈ gx_G := gx_2 (List.mem_of_getElem? (i := 73) rfl) rfl
theorem mw_314 : (Jvm.Cond.code ({ cls := "java/lang/String", name := "checkIndex", desc := "(II)V" } : Jvm.MethodName) prog_17_method_155_code (2 : Nat) (Option.none : Option Jvm.ClassFile.FieldType)) ∈ gx_G := gx_2 (List.mem_of_getElem? (i := 74) rfl) rfl
theorem mw_315 : (Jvm.Cond.fieldLink "java/lang/String" (1053 : Nat) "jdk/internal/util/Preconditions" "SIOOBE_FORMATTER" "Ljava/util/function/BiFunction;") ∈ gx_G := gx_2 (List.mem_of_getElem? (i := 75) rfl) rfl
theorem mw_317 : (Jvm.Cond.methodLink "java/lang/String" (1059 : Nat) ({ cls := "jdk/internal/util/Preconditions", name := "checkIndex", desc := "(IILjava/util/function/BiFunction;)I" } : Jvm.MethodName)) ∈ gx_G := gx_2 (List.mem_of_getElem? (i := 77) rfl) rfl
theorem mw_318 : (Jvm.Cond.static ({ cls := "jdk/internal/util/Preconditions", name := "checkIndex", desc := "(IILjava/util/function/BiFunction;)I" } : Jvm.MethodName)) ∈ gx_G := gx_2 (List.mem_of_getElem? (i := 78) rfl) rfl
theorem mw_319 : (Jvm.Cond.code ({ cls := "jdk/internal/util/Preconditions", name := "checkIndex", desc := "(IILjava/util/function/BiFunction;)I" } : Jvm.MethodName) prog_21_method_11_code (3 : Nat) (Option.some Jvm.ClassFile.FieldType.int)) ∈ gx_G := gx_2 (List.mem_of_getElem? (i := 79) rfl) rfl
theorem mw_320 : (Jvm.Cond.methodLink "java/lang/String" (498 : Nat) ({ cls := "java/lang/StringUTF16", name := "charAt", desc := "([BI)C" } : Jvm.MethodName)) ∈ gx_G := gx_2 (List.mem_of_getElem? (i := 80) rfl) rfl
theorem mw_321 : (Jvm.Cond.static ({ cls := "java/lang/StringUTF16", name := "charAt", desc := "([BI)C" } : Jvm.MethodName)) ∈ gx_G := gx_2 (List.mem_of_getElem? (i := 81) rfl) rfl
theorem mw_322 : (Jvm.Cond.code ({ cls := "java/lang/StringUTF16", name := "charAt", desc := "([BI)C" } : Jvm.MethodName) prog_19_method_83_code (2 : Nat) (Option.some Jvm.ClassFile.FieldType.char)) ∈ gx_G := gx_2 (List.mem_of_getElem? (i := 82) rfl) rfl
theorem mw_323 : (Jvm.Cond.methodLink "java/lang/StringUTF16" (67 : Nat) ({ cls := "java/lang/StringUTF16", name := "checkIndex", desc := "(I[B)V" } : Jvm.MethodName)) ∈ gx_G := gx_2 (List.mem_of_getElem? (i := 83) rfl) rfl
theorem mw_324 : (Jvm.Cond.static ({ cls := "java/lang/StringUTF16", name := "checkIndex", desc := "(I[B)V" } : Jvm.MethodName)) ∈ gx_G := gx_2 (List.mem_of_getElem? (i := 84) rfl) rfl
theorem mw_325 : (Jvm.Cond.code ({ cls := "java/lang/StringUTF16", name := "checkIndex", desc := "(I[B)V" } : Jvm.MethodName) prog_19_method_91_code (2 : Nat) (Option.none : Option Jvm.ClassFile.FieldType)) ∈ gx_G := gx_2 (List.mem_of_getElem? (i := 85) rfl) rfl
theorem mw_326 : (Jvm.Cond.methodLink "java/lang/StringUTF16" (48 : Nat) ({ cls := "java/lang/StringUTF16", name := "length", desc := "([B)I" } : Jvm.MethodName)) ∈ gx_G := gx_2 (List.mem_of_getElem? (i := 86) rfl) rfl
theorem mw_327 : (Jvm.Cond.static ({ cls := "java/lang/StringUTF16", name := "length", desc := "([B)I" } : Jvm.MethodName)) ∈ gx_G := gx_2 (List.mem_of_getElem? (i := 87) rfl) rfl
theorem mw_328 : (Jvm.Cond.code ({ cls := "java/lang/StringUTF16", name := "length", desc := "([B)I" } : Jvm.MethodName) prog_19_method_6_code (1 : Nat) (Option.some Jvm.ClassFile.FieldType.int)) ∈ gx_G := gx_2 (List.mem_of_getElem? (i := 88) rfl) rfl
theorem mw_329 : (Jvm.Cond.methodLink "java/lang/StringUTF16" (414 : Nat) ({ cls := "java/lang/String", name := "checkIndex", desc := "(II)V" } : Jvm.MethodName)) ∈ gx_G := gx_2 (List.mem_of_getElem? (i := 89) rfl) rfl
theorem mw_330 : (Jvm.Cond.methodLink "java/lang/StringUTF16" (71 : Nat) ({ cls := "java/lang/StringUTF16", name := "getChar", desc := "([BI)C" } : Jvm.MethodName)) ∈ gx_G := gx_2 (List.mem_of_getElem? (i := 90) rfl) rfl
theorem mw_331 : (Jvm.Cond.static ({ cls := "java/lang/StringUTF16", name := "getChar", desc := "([BI)C" } : Jvm.MethodName)) ∈ gx_G := gx_2 (List.mem_of_getElem? (i := 91) rfl) rfl
theorem mw_332 : (Jvm.Cond.code ({ cls := "java/lang/StringUTF16", name := "getChar", desc := "([BI)C" } : Jvm.MethodName) prog_19_method_5_code (2 : Nat) (Option.some Jvm.ClassFile.FieldType.char)) ∈ gx_G := gx_2 (List.mem_of_getElem? (i := 92) rfl) rfl
theorem mw_333 : (Jvm.Cond.fieldLink "java/lang/StringUTF16" (44 : Nat) "java/lang/StringUTF16" "$assertionsDisabled" "Z") ∈ gx_G := gx_2 (List.mem_of_getElem? (i := 93) rfl) rfl
theorem mw_335 : (Jvm.Cond.fieldLink "java/lang/StringUTF16" (59 : Nat) "java/lang/StringUTF16" "HI_BYTE_SHIFT" "I") ∈ gx_G := gx_2 (List.mem_of_getElem? (i := 95) rfl) rfl
theorem mw_337 : (Jvm.Cond.fieldLink "java/lang/StringUTF16" (63 : Nat) "java/lang/StringUTF16" "LO_BYTE_SHIFT" "I") ∈ gx_G := gx_2 (List.mem_of_getElem? (i := 97) rfl) rfl
theorem mw_342 : (Jvm.Cond.methodLink "LeanSets$Words" (43 : Nat) ({ cls := "LeanSets$Words", name := "keep", desc := "(III)V" } : Jvm.MethodName)) ∈ gx_G := gx_2 (List.mem_of_getElem? (i := 102) rfl) rfl
theorem mw_344 : (Jvm.Cond.instanceMethod ({ cls := "LeanSets$Words", name := "keep", desc := "(III)V" } : Jvm.MethodName)) ∈ gx_G := gx_2 (List.mem_of_getElem? (i := 104) rfl) rfl
theorem mw_345 : (Jvm.Cond.code ({ cls := "LeanSets$Words", name := "keep", desc := "(III)V" } : Jvm.MethodName) prog_7_method_4_code (4 : Nat) (Option.none : Option Jvm.ClassFile.FieldType)) ∈ gx_G := gx_2 (List.mem_of_getElem? (i := 105) rfl) rfl
theorem mw_346 : (Jvm.Cond.methodLink "LeanSets$Words" (47 : Nat) ({ cls := "LeanSets$Words", name := "numberOf", desc := "(II)I" } : Jvm.MethodName)) ∈ gx_G := gx_2 (List.mem_of_getElem? (i := 106) rfl) rfl
theorem mw_348 : (Jvm.Cond.instanceMethod ({ cls := "LeanSets$Words", name := "numberOf", desc := "(II)I" } : Jvm.MethodName)) ∈ gx_G := gx_2 (List.mem_of_getElem? (i := 108) rfl) rfl
theorem mw_349 : (Jvm.Cond.code ({ cls := "LeanSets$Words", name := "numberOf", desc := "(II)I" } : Jvm.MethodName) prog_7_method_10_code (5 : Nat) (Option.some Jvm.ClassFile.FieldType.int)) ∈ gx_G := gx_2 (List.mem_of_getElem? (i := 109) rfl) rfl
theorem mw_350 : (Jvm.Cond.methodLink "LeanSets" (72 : Nat) ({ cls := "LeanSets$TextReader", name := "begin", desc := "()V" } : Jvm.MethodName)) ∈ gx_G := gx_2 (List.mem_of_getElem? (i := 110) rfl) rfl
theorem mw_351 : (Jvm.Cond.instanceMethod ({ cls := "LeanSets$TextReader", name := "begin", desc := "()V" } : Jvm.MethodName)) ∈ gx_G := gx_2 (List.mem_of_getElem? (i := 111) rfl) rfl
theorem mw_352 : (Jvm.Cond.selects "LeanSets$TextReader" ({ cls := "LeanSets$TextReader", name := "begin", desc := "()V" } : Jvm.MethodName) ({ cls := "LeanSets$TextReader", name := "begin", desc := "()V" } : Jvm.MethodName)) ∈ gx_G := gx_2 (List.mem_of_getElem? (i := 112) rfl) rfl
theorem mw_353 : (Jvm.Cond.code ({ cls := "LeanSets$TextReader", name := "begin", desc := "()V" } : Jvm.MethodName) prog_6_method_2_code (1 : Nat) (Option.none : Option Jvm.ClassFile.FieldType)) ∈ gx_G := gx_2 (List.mem_of_getElem? (i := 113) rfl) rfl
theorem mw_354 : (Jvm.Cond.methodLink "LeanSets" (75 : Nat) ({ cls := "LeanSets$TextReader", name := "readText", desc := "()Z" } : Jvm.MethodName)) ∈ gx_G := gx_2 (List.mem_of_getElem? (i := 114) rfl) rfl
theorem mw_355 : (Jvm.Cond.instanceMethod ({ cls := "LeanSets$TextReader", name := "readText", desc := "()Z" } : Jvm.MethodName)) ∈ gx_G := gx_2 (List.mem_of_getElem? (i := 115) rfl) rfl
theorem mw_356 : (Jvm.Cond.selects "LeanSets$TextReader" ({ cls := "LeanSets$TextReader", name := "readText", desc := "()Z" } : Jvm.MethodName) ({ cls := "LeanSets$TextReader", name := "readText", desc := "()Z" } : Jvm.MethodName)) ∈ gx_G := gx_2 (List.mem_of_getElem? (i := 116) rfl) rfl
theorem mw_357 : (Jvm.Cond.code ({ cls := "LeanSets$TextReader", name := "readText", desc := "()Z" } : Jvm.MethodName) prog_6_method_4_code (2 : Nat) (Option.some Jvm.ClassFile.FieldType.boolean)) ∈ gx_G := gx_2 (List.mem_of_getElem? (i := 117) rfl) rfl
theorem mw_358 : (Jvm.Cond.methodLink "LeanSets$TextReader" (42 : Nat) ({ cls := "LeanSets$TextReader", name := "take", desc := "(I)Z" } : Jvm.MethodName)) ∈ gx_G := gx_2 (List.mem_of_getElem? (i := 118) rfl) rfl
theorem mw_360 : (Jvm.Cond.instanceMethod ({ cls := "LeanSets$TextReader", name := "take", desc := "(I)Z" } : Jvm.MethodName)) ∈ gx_G := gx_2 (List.mem_of_getElem? (i := 120) rfl) rfl
theorem mw_361 : (Jvm.Cond.code ({ cls := "LeanSets$TextReader", name := "take", desc := "(I)Z" } : Jvm.MethodName) prog_6_method_11_code (2 : Nat) (Option.some Jvm.ClassFile.FieldType.boolean)) ∈ gx_G := gx_2 (List.mem_of_getElem? (i := 121) rfl) rfl
theorem mw_362 : (Jvm.Cond.methodLink "LeanSets$TextReader" (55 : Nat) ({ cls := "LeanSets$TextReader", name := "note", desc := "(II)V" } : Jvm.MethodName)) ∈ gx_G := gx_2 (List.mem_of_getElem? (i := 122) rfl) rfl
theorem mw_364 : (Jvm.Cond.instanceMethod ({ cls := "LeanSets$TextReader", name := "note", desc := "(II)V" } : Jvm.MethodName)) ∈ gx_G := gx_2 (List.mem_of_getElem? (i := 124) rfl) rfl
theorem mw_365 : (Jvm.Cond.code ({ cls := "LeanSets$TextReader", name := "note", desc := "(II)V" } : Jvm.MethodName) prog_6_method_17_code (3 : Nat) (Option.none : Option Jvm.ClassFile.FieldType)) ∈ gx_G := gx_2 (List.mem_of_getElem? (i := 125) rfl) rfl
theorem mw_366 : (Jvm.Cond.methodLink "LeanSets$TextReader" (59 : Nat) ({ cls := "LeanSets$TextReader", name := "readTerm", desc := "()Z" } : Jvm.MethodName)) ∈ gx_G := gx_2 (List.mem_of_getElem? (i := 126) rfl) rfl
theorem mw_368 : (Jvm.Cond.instanceMethod ({ cls := "LeanSets$TextReader", name := "readTerm", desc := "()Z" } : Jvm.MethodName)) ∈ gx_G := gx_2 (List.mem_of_getElem? (i := 128) rfl) rfl
theorem mw_369 : (Jvm.Cond.code ({ cls := "LeanSets$TextReader", name := "readTerm", desc := "()Z" } : Jvm.MethodName) prog_6_method_5_code (1 : Nat) (Option.some Jvm.ClassFile.FieldType.boolean)) ∈ gx_G := gx_2 (List.mem_of_getElem? (i := 129) rfl) rfl
theorem mw_370 : (Jvm.Cond.methodLink "LeanSets$TextReader" (66 : Nat) ({ cls := "LeanSets$TextReader", name := "readWeight", desc := "()Z" } : Jvm.MethodName)) ∈ gx_G := gx_2 (List.mem_of_getElem? (i := 130) rfl) rfl
theorem mw_372 : (Jvm.Cond.instanceMethod ({ cls := "LeanSets$TextReader", name := "readWeight", desc := "()Z" } : Jvm.MethodName)) ∈ gx_G := gx_2 (List.mem_of_getElem? (i := 132) rfl) rfl
theorem mw_373 : (Jvm.Cond.code ({ cls := "LeanSets$TextReader", name := "readWeight", desc := "()Z" } : Jvm.MethodName) prog_6_method_6_code (2 : Nat) (Option.some Jvm.ClassFile.FieldType.boolean)) ∈ gx_G := gx_2 (List.mem_of_getElem? (i := 133) rfl) rfl
theorem mw_374 : (Jvm.Cond.methodLink "LeanSets$TextReader" (75 : Nat) ({ cls := "LeanSets$TextReader", name := "takenElement", desc := "()I" } : Jvm.MethodName)) ∈ gx_G := gx_2 (List.mem_of_getElem? (i := 134) rfl) rfl
theorem mw_376 : (Jvm.Cond.instanceMethod ({ cls := "LeanSets$TextReader", name := "takenElement", desc := "()I" } : Jvm.MethodName)) ∈ gx_G := gx_2 (List.mem_of_getElem? (i := 136) rfl) rfl
theorem mw_377 : (Jvm.Cond.code ({ cls := "LeanSets$TextReader", name := "takenElement", desc := "()I" } : Jvm.MethodName) prog_6_method_13_code (2 : Nat) (Option.some Jvm.ClassFile.FieldType.int)) ∈ gx_G := gx_2 (List.mem_of_getElem? (i := 137) rfl) rfl
theorem mw_378 : (Jvm.Cond.methodLink "LeanSets$TextReader" (90 : Nat) ({ cls := "LeanSets$TextReader", name := "noteIf", desc := "(ZI)V" } : Jvm.MethodName)) ∈ gx_G := gx_2 (List.mem_of_getElem? (i := 138) rfl) rfl
theorem mw_380 : (Jvm.Cond.instanceMethod ({ cls := "LeanSets$TextReader", name := "noteIf", desc := "(ZI)V" } : Jvm.MethodName)) ∈ gx_G := gx_2 (List.mem_of_getElem? (i := 140) rfl) rfl
theorem mw_381 : (Jvm.Cond.code ({ cls := "LeanSets$TextReader", name := "noteIf", desc := "(ZI)V" } : Jvm.MethodName) prog_6_method_16_code (3 : Nat) (Option.none : Option Jvm.ClassFile.FieldType)) ∈ gx_G := gx_2 (List.mem_of_getElem? (i := 141) rfl) rfl
theorem mw_382 : (Jvm.Cond.methodLink "LeanSets$TextReader" (79 : Nat) ({ cls := "LeanSets$TextReader", name := "takeValue", desc := "()Z" } : Jvm.MethodName)) ∈ gx_G := gx_2 (List.mem_of_getElem? (i := 142) rfl) rfl
theorem mw_384 : (Jvm.Cond.instanceMethod ({ cls := "LeanSets$TextReader", name := "takeValue", desc := "()Z" } : Jvm.MethodName)) ∈ gx_G := gx_2 (List.mem_of_getElem? (i := 144) rfl) rfl
theorem mw_385 : (Jvm.Cond.code ({ cls := "LeanSets$TextReader", name := "takeValue", desc := "()Z" } : Jvm.MethodName) prog_6_method_12_code (3 : Nat) (Option.some Jvm.ClassFile.FieldType.boolean)) ∈ gx_G := gx_2 (List.mem_of_getElem? (i := 145) rfl) rfl
theorem mw_386 : (Jvm.Cond.methodLink "LeanSets$TextReader" (82 : Nat) ({ cls := "LeanSets$TextReader", name := "keepTerm", desc := "(III)V" } : Jvm.MethodName)) ∈ gx_G := gx_2 (List.mem_of_getElem? (i := 146) rfl) rfl
theorem mw_388 : (Jvm.Cond.instanceMethod ({ cls := "LeanSets$TextReader", name := "keepTerm", desc := "(III)V" } : Jvm.MethodName)) ∈ gx_G := gx_2 (List.mem_of_getElem? (i := 148) rfl) rfl
theorem mw_389 : (Jvm.Cond.code ({ cls := "LeanSets$TextReader", name := "keepTerm", desc := "(III)V" } : Jvm.MethodName) prog_6_method_14_code (4 : Nat) (Option.none : Option Jvm.ClassFile.FieldType)) ∈ gx_G := gx_2 (List.mem_of_getElem? (i := 149) rfl) rfl
theorem mw_390 : (Jvm.Cond.methodLink "LeanSets$TextReader" (109 : Nat) ({ cls := "LeanSets$Terms", name := "open", desc := "(III)V" } : Jvm.MethodName)) ∈ gx_G := gx_2 (List.mem_of_getElem? (i := 150) rfl) rfl
theorem mw_391 : (Jvm.Cond.instanceMethod ({ cls := "LeanSets$Terms", name := "open", desc := "(III)V" } : Jvm.MethodName)) ∈ gx_G := gx_2 (List.mem_of_getElem? (i := 151) rfl) rfl
theorem mw_392 : (Jvm.Cond.selects "LeanSets$Terms" ({ cls := "LeanSets$Terms", name := "open", desc := "(III)V" } : Jvm.MethodName) ({ cls := "LeanSets$Terms", name := "open", desc := "(III)V" } : Jvm.MethodName)) ∈ gx_G := gx_2 (List.mem_of_getElem? (i := 152) rfl) rfl
theorem mw_393 : (Jvm.Cond.code ({ cls := "LeanSets$Terms", name := "open", desc := "(III)V" } : Jvm.MethodName) prog_5_method_2_code (4 : Nat) (Option.none : Option Jvm.ClassFile.FieldType)) ∈ gx_G := gx_2 (List.mem_of_getElem? (i := 153) rfl) rfl
theorem mw_394 : (Jvm.Cond.methodLink "LeanSets$TextReader" (86 : Nat) ({ cls := "LeanSets$TextReader", name := "keepValue", desc := "(I)V" } : Jvm.MethodName)) ∈ gx_G := gx_2 (List.mem_of_getElem? (i := 154) rfl) rfl
theorem mw_396 : (Jvm.Cond.instanceMethod ({ cls := "LeanSets$TextReader", name := "keepValue", desc := "(I)V" } : Jvm.MethodName)) ∈ gx_G := gx_2 (List.mem_of_getElem? (i := 156) rfl) rfl
theorem mw_397 : (Jvm.Cond.code ({ cls := "LeanSets$TextReader", name := "keepValue", desc := "(I)V" } : Jvm.MethodName) prog_6_method_15_code (2 : Nat) (Option.none : Option Jvm.ClassFile.FieldType)) ∈ gx_G := gx_2 (List.mem_of_getElem? (i := 157) rfl) rfl
theorem mw_398 : (Jvm.Cond.methodLink "LeanSets$TextReader" (112 : Nat) ({ cls := "LeanSets$Terms", name := "put", desc := "(II)V" } : Jvm.MethodName)) ∈ gx_G := gx_2 (List.mem_of_getElem? (i := 158) rfl) rfl
theorem mw_399 : (Jvm.Cond.instanceMethod ({ cls := "LeanSets$Terms", name := "put", desc := "(II)V" } : Jvm.MethodName)) ∈ gx_G := gx_2 (List.mem_of_getElem? (i := 159) rfl) rfl
theorem mw_400 : (Jvm.Cond.selects "LeanSets$Terms" ({ cls := "LeanSets$Terms", name := "put", desc := "(II)V" } : Jvm.MethodName) ({ cls := "LeanSets$Terms", name := "put", desc := "(II)V" } : Jvm.MethodName)) ∈ gx_G := gx_2 (List.mem_of_getElem? (i := 160) rfl) rfl
theorem mw_401 : (Jvm.Cond.code ({ cls := "LeanSets$Terms", name := "put", desc := "(II)V" } : Jvm.MethodName) prog_5_method_3_code (3 : Nat) (Option.none : Option Jvm.ClassFile.FieldType)) ∈ gx_G := gx_2 (List.mem_of_getElem? (i := 161) rfl) rfl
theorem mw_402 : (Jvm.Cond.methodLink "LeanSets$TextReader" (69 : Nat) ({ cls := "LeanSets$TextReader", name := "readArc", desc := "()Z" } : Jvm.MethodName)) ∈ gx_G := gx_2 (List.mem_of_getElem? (i := 162) rfl) rfl
theorem mw_404 : (Jvm.Cond.instanceMethod ({ cls := "LeanSets$TextReader", name := "readArc", desc := "()Z" } : Jvm.MethodName)) ∈ gx_G := gx_2 (List.mem_of_getElem? (i := 164) rfl) rfl
theorem mw_405 : (Jvm.Cond.code ({ cls := "LeanSets$TextReader", name := "readArc", desc := "()Z" } : Jvm.MethodName) prog_6_method_7_code (3 : Nat) (Option.some Jvm.ClassFile.FieldType.boolean)) ∈ gx_G := gx_2 (List.mem_of_getElem? (i := 165) rfl) rfl
theorem mw_406 : (Jvm.Cond.methodLink "LeanSets$TextReader" (72 : Nat) ({ cls := "LeanSets$TextReader", name := "readCurve", desc := "()Z" } : Jvm.MethodName)) ∈ gx_G := gx_2 (List.mem_of_getElem? (i := 166) rfl) rfl
theorem mw_408 : (Jvm.Cond.instanceMethod ({ cls := "LeanSets$TextReader", name := "readCurve", desc := "()Z" } : Jvm.MethodName)) ∈ gx_G := gx_2 (List.mem_of_getElem? (i := 168) rfl) rfl
theorem mw_409 : (Jvm.Cond.code ({ cls := "LeanSets$TextReader", name := "readCurve", desc := "()Z" } : Jvm.MethodName) prog_6_method_8_code (4 : Nat) (Option.some Jvm.ClassFile.FieldType.boolean)) ∈ gx_G := gx_2 (List.mem_of_getElem? (i := 169) rfl) rfl
theorem mw_410 : (Jvm.Cond.methodLink "LeanSets$TextReader" (94 : Nat) ({ cls := "java/lang/Integer", name := "bitCount", desc := "(I)I" } : Jvm.MethodName)) ∈ gx_G := gx_2 (List.mem_of_getElem? (i := 170) rfl) rfl
theorem mw_411 : (Jvm.Cond.static ({ cls := "java/lang/Integer", name := "bitCount", desc := "(I)I" } : Jvm.MethodName)) ∈ gx_G := gx_2 (List.mem_of_getElem? (i := 171) rfl) rfl
theorem mw_412 : (Jvm.Cond.code ({ cls := "java/lang/Integer", name := "bitCount", desc := "(I)I" } : Jvm.MethodName) prog_14_method_49_code (1 : Nat) (Option.some Jvm.ClassFile.FieldType.int)) ∈ gx_G := gx_2 (List.mem_of_getElem? (i := 172) rfl) rfl
theorem mw_413 : (Jvm.Cond.constant "java/lang/Integer" (265 : Nat) (1431655765 : Int32)) ∈ gx_G := gx_2 (List.mem_of_getElem? (i := 173) rfl) rfl
theorem mw_414 : (Jvm.Cond.constant "java/lang/Integer" (266 : Nat) (858993459 : Int32)) ∈ gx_G := gx_2 (List.mem_of_getElem? (i := 174) rfl) rfl
theorem mw_415 : (Jvm.Cond.constant "java/lang/Integer" (267 : Nat) (252645135 : Int32)) ∈ gx_G := gx_2 (List.mem_of_getElem? (i := 175) rfl) rfl
theorem mw_416 : (Jvm.Cond.methodLink "LeanSets$TextReader" (100 : Nat) ({ cls := "LeanSets$TextReader", name := "readCurveValues", desc := "(I)Z" } : Jvm.MethodName)) ∈ gx_G := gx_2 (List.mem_of_getElem? (i := 176) rfl) rfl
theorem mw_418 : (Jvm.Cond.instanceMethod ({ cls := "LeanSets$TextReader", name := "readCurveValues", desc := "(I)Z" } : Jvm.MethodName)) ∈ gx_G := gx_2 (List.mem_of_getElem? (i := 178) rfl) rfl
theorem mw_419 : (Jvm.Cond.code ({ cls := "LeanSets$TextReader", name := "readCurveValues", desc := "(I)Z" } : Jvm.MethodName) prog_6_method_9_code (6 : Nat) (Option.some Jvm.ClassFile.FieldType.boolean)) ∈ gx_G := gx_2 (List.mem_of_getElem? (i := 179) rfl) rfl
theorem mw_420 : (Jvm.Cond.methodLink "LeanSets$TextReader" (103 : Nat) ({ cls := "LeanSets$TextReader", name := "aValueStands", desc := "()Z" } : Jvm.MethodName)) ∈ gx_G := gx_2 (List.mem_of_getElem? (i := 180) rfl) rfl
theorem mw_422 : (Jvm.Cond.instanceMethod ({ cls := "LeanSets$TextReader", name := "aValueStands", desc := "()Z" } : Jvm.MethodName)) ∈ gx_G := gx_2 (List.mem_of_getElem? (i := 182) rfl) rfl
theorem mw_423 : (Jvm.Cond.code ({ cls := "LeanSets$TextReader", name := "aValueStands", desc := "()Z" } : Jvm.MethodName) prog_6_method_10_code (1 : Nat) (Option.some Jvm.ClassFile.FieldType.boolean)) ∈ gx_G := gx_2 (List.mem_of_getElem? (i := 183) rfl) rfl
theorem mw_424 : (Jvm.Cond.methodLink "LeanSets" (79 : Nat) ({ cls := "LeanSets$TextReader", name := "refuseWord", desc := "()V" } : Jvm.MethodName)) ∈ gx_G := gx_2 (List.mem_of_getElem? (i := 184) rfl) rfl
theorem mw_425 : (Jvm.Cond.instanceMethod ({ cls := "LeanSets$TextReader", name := "refuseWord", desc := "()V" } : Jvm.MethodName)) ∈ gx_G := gx_2 (List.mem_of_getElem? (i := 185) rfl) rfl
theorem mw_426 : (Jvm.Cond.selects "LeanSets$TextReader" ({ cls := "LeanSets$TextReader", name := "refuseWord", desc := "()V" } : Jvm.MethodName) ({ cls := "LeanSets$TextReader", name := "refuseWord", desc := "()V" } : Jvm.MethodName)) ∈ gx_G := gx_2 (List.mem_of_getElem? (i := 186) rfl) rfl
theorem mw_427 : (Jvm.Cond.code ({ cls := "LeanSets$TextReader", name := "refuseWord", desc := "()V" } : Jvm.MethodName) prog_6_method_3_code (1 : Nat) (Option.none : Option Jvm.ClassFile.FieldType)) ∈ gx_G := gx_2 (List.mem_of_getElem? (i := 187) rfl) rfl
theorem mw_428 : (Jvm.Cond.methodLink "LeanSets" (89 : Nat) ({ cls := "LeanSets", name := "takeOver", desc := "(LLeanSets$Terms;)V" } : Jvm.MethodName)) ∈ gx_G := gx_2 (List.mem_of_getElem? (i := 188) rfl) rfl
theorem mw_430 : (Jvm.Cond.instanceMethod ({ cls := "LeanSets", name := "takeOver", desc := "(LLeanSets$Terms;)V" } : Jvm.MethodName)) ∈ gx_G := gx_2 (List.mem_of_getElem? (i := 190) rfl) rfl
theorem mw_431 : (Jvm.Cond.code ({ cls := "LeanSets", name := "takeOver", desc := "(LLeanSets$Terms;)V" } : Jvm.MethodName) prog_1_method_22_code (3 : Nat) (Option.none : Option Jvm.ClassFile.FieldType)) ∈ gx_G := gx_2 (List.mem_of_getElem? (i := 191) rfl) rfl
theorem mw_432 : (Jvm.Cond.methodLink "LeanSets" (169 : Nat) ({ cls := "LeanSets$Terms", name := "tellTo", desc := "(LLeanSets$SetTable;)V" } : Jvm.MethodName)) ∈ gx_G := gx_2 (List.mem_of_getElem? (i := 192) rfl) rfl
theorem mw_433 : (Jvm.Cond.instanceMethod ({ cls := "LeanSets$Terms", name := "tellTo", desc := "(LLeanSets$SetTable;)V" } : Jvm.MethodName)) ∈ gx_G := gx_2 (List.mem_of_getElem? (i := 193) rfl) rfl
theorem mw_434 : (Jvm.Cond.selects "LeanSets$Terms" ({ cls := "LeanSets$Terms", name := "tellTo", desc := "(LLeanSets$SetTable;)V" } : Jvm.MethodName) ({ cls := "LeanSets$Terms", name := "tellTo", desc := "(LLeanSets$SetTable;)V" } : Jvm.MethodName)) ∈ gx_G := gx_2 (List.mem_of_getElem? (i := 194) rfl) rfl
theorem mw_435 : (Jvm.Cond.code ({ cls := "LeanSets$Terms", name := "tellTo", desc := "(LLeanSets$SetTable;)V" } : Jvm.MethodName) prog_5_method_4_code (4 : Nat) (Option.none : Option Jvm.ClassFile.FieldType)) ∈ gx_G := gx_2 (List.mem_of_getElem? (i := 195) rfl) rfl
theorem mw_436 : (Jvm.Cond.methodLink "LeanSets$Terms" (31 : Nat) ({ cls := "LeanSets$SetTable", name := "clear", desc := "(I)V" } : Jvm.MethodName)) ∈ gx_G := gx_2 (List.mem_of_getElem? (i := 196) rfl) rfl
theorem mw_437 : (Jvm.Cond.instanceMethod ({ cls := "LeanSets$SetTable", name := "clear", desc := "(I)V" } : Jvm.MethodName)) ∈ gx_G := gx_2 (List.mem_of_getElem? (i := 197) rfl) rfl
theorem mw_438 : (Jvm.Cond.selects "LeanSets$SetTable" ({ cls := "LeanSets$SetTable", name := "clear", desc := "(I)V" } : Jvm.MethodName) ({ cls := "LeanSets$SetTable", name := "clear", desc := "(I)V" } : Jvm.MethodName)) ∈ gx_G := gx_2 (List.mem_of_getElem? (i := 198) rfl) rfl
theorem mw_439 : (Jvm.Cond.code ({ cls := "LeanSets$SetTable", name := "clear", desc := "(I)V" } : Jvm.MethodName) prog_4_method_2_code (3 : Nat) (Option.none : Option Jvm.ClassFile.FieldType)) ∈ gx_G := gx_2 (List.mem_of_getElem? (i := 199) rfl) rfl
theorem mw_440 : (Jvm.Cond.methodLink "LeanSets$Terms" (37 : Nat) ({ cls := "LeanSets$SetTable", name := "addCurve", desc := "(I[II)V" } : Jvm.MethodName)) ∈ gx_G := gx_2 (List.mem_of_getElem? (i := 200) rfl) rfl
theorem mw_441 : (Jvm.Cond.instanceMethod ({ cls := "LeanSets$SetTable", name := "addCurve", desc := "(I[II)V" } : Jvm.MethodName)) ∈ gx_G := gx_2 (List.mem_of_getElem? (i := 201) rfl) rfl
theorem mw_442 : (Jvm.Cond.selects "LeanSets$SetTable" ({ cls := "LeanSets$SetTable", name := "addCurve", desc := "(I[II)V" } : Jvm.MethodName) ({ cls := "LeanSets$SetTable", name := "addCurve", desc := "(I[II)V" } : Jvm.MethodName)) ∈ gx_G := gx_2 (List.mem_of_getElem? (i := 202) rfl) rfl
theorem mw_443 : (Jvm.Cond.code ({ cls := "LeanSets$SetTable", name := "addCurve", desc := "(I[II)V" } : Jvm.MethodName) prog_4_method_5_code (6 : Nat) (Option.none : Option Jvm.ClassFile.FieldType)) ∈ gx_G := gx_2 (List.mem_of_getElem? (i := 203) rfl) rfl
theorem mw_444 : (Jvm.Cond.methodLink "LeanSets$SetTable" (22 : Nat) ({ cls := "java/lang/Integer", name := "bitCount", desc := "(I)I" } : Jvm.MethodName)) ∈ gx_G := gx_2 (List.mem_of_getElem? (i := 204) rfl) rfl
theorem mw_445 : (Jvm.Cond.methodLink "LeanSets$Terms" (41 : Nat) ({ cls := "LeanSets$SetTable", name := "add", desc := "(IIJ)V" } : Jvm.MethodName)) ∈ gx_G := gx_2 (List.mem_of_getElem? (i := 205) rfl) rfl
theorem mw_446 : (Jvm.Cond.instanceMethod ({ cls := "LeanSets$SetTable", name := "add", desc := "(IIJ)V" } : Jvm.MethodName)) ∈ gx_G := gx_2 (List.mem_of_getElem? (i := 206) rfl) rfl
theorem mw_447 : (Jvm.Cond.selects "LeanSets$SetTable" ({ cls := "LeanSets$SetTable", name := "add", desc := "(IIJ)V" } : Jvm.MethodName) ({ cls := "LeanSets$SetTable", name := "add", desc := "(IIJ)V" } : Jvm.MethodName)) ∈ gx_G := gx_2 (List.mem_of_getElem? (i := 207) rfl) rfl
theorem mw_448 : (Jvm.Cond.code ({ cls := "LeanSets$SetTable", name := "add", desc := "(IIJ)V" } : Jvm.MethodName) prog_4_method_4_code (7 : Nat) (Option.none : Option Jvm.ClassFile.FieldType)) ∈ gx_G := gx_2 (List.mem_of_getElem? (i := 208) rfl) rfl
theorem mw_449 : (Jvm.Cond.methodLink "LeanSets" (173 : Nat) ({ cls := "LeanSets$SetTable", name := "copy", desc := "(LLeanSets$SetTable;J)V" } : Jvm.MethodName)) ∈ gx_G := gx_2 (List.mem_of_getElem? (i := 209) rfl) rfl
theorem mw_450 : (Jvm.Cond.instanceMethod ({ cls := "LeanSets$SetTable", name := "copy", desc := "(LLeanSets$SetTable;J)V" } : Jvm.MethodName)) ∈ gx_G := gx_2 (List.mem_of_getElem? (i := 210) rfl) rfl
theorem mw_451 : (Jvm.Cond.selects "LeanSets$SetTable" ({ cls := "LeanSets$SetTable", name := "copy", desc := "(LLeanSets$SetTable;J)V" } : Jvm.MethodName) ({ cls := "LeanSets$SetTable", name := "copy", desc := "(LLeanSets$SetTable;J)V" } : Jvm.MethodName)) ∈ gx_G := gx_2 (List.mem_of_getElem? (i := 211) rfl) rfl
theorem mw_452 : (Jvm.Cond.code ({ cls := "LeanSets$SetTable", name := "copy", desc := "(LLeanSets$SetTable;J)V" } : Jvm.MethodName) prog_4_method_3_code (5 : Nat) (Option.none : Option Jvm.ClassFile.FieldType)) ∈ gx_G := gx_2 (List.mem_of_getElem? (i := 212) rfl) rfl
theorem mw_453 : (Jvm.Cond.methodLink "LeanSets" (177 : Nat) ({ cls := "LeanSets$Chain", name := "follow", desc := "(LLeanSets$SetTable;)V" } : Jvm.MethodName)) ∈ gx_G := gx_2 (List.mem_of_getElem? (i := 213) rfl) rfl
theorem mw_454 : (Jvm.Cond.instanceMethod ({ cls := "LeanSets$Chain", name := "follow", desc := "(LLeanSets$SetTable;)V" } : Jvm.MethodName)) ∈ gx_G := gx_2 (List.mem_of_getElem? (i := 214) rfl) rfl
theorem mw_455 : (Jvm.Cond.selects "LeanSets$Chain" ({ cls := "LeanSets$Chain", name := "follow", desc := "(LLeanSets$SetTable;)V" } : Jvm.MethodName) ({ cls := "LeanSets$Chain", name := "follow", desc := "(LLeanSets$SetTable;)V" } : Jvm.MethodName)) ∈ gx_G := gx_2 (List.mem_of_getElem? (i := 215) rfl) rfl
theorem mw_456 : (Jvm.Cond.code ({ cls := "LeanSets$Chain", name := "follow", desc := "(LLeanSets$SetTable;)V" } : Jvm.MethodName) prog_2_method_2_code (5 : Nat) (Option.none : Option Jvm.ClassFile.FieldType)) ∈ gx_G := gx_2 (List.mem_of_getElem? (i := 216) rfl) rfl
theorem mw_457 : (Jvm.Cond.methodLink "LeanSets$Chain" (31 : Nat) ({ cls := "LeanSets$Chain", name := "findLowestOfEachSize", desc := "(LLeanSets$SetTable;)V" } : Jvm.MethodName)) ∈ gx_G := gx_2 (List.mem_of_getElem? (i := 217) rfl) rfl
theorem mw_459 : (Jvm.Cond.instanceMethod ({ cls := "LeanSets$Chain", name := "findLowestOfEachSize", desc := "(LLeanSets$SetTable;)V" } : Jvm.MethodName)) ∈ gx_G := gx_2 (List.mem_of_getElem? (i := 219) rfl) rfl
theorem mw_460 : (Jvm.Cond.code ({ cls := "LeanSets$Chain", name := "findLowestOfEachSize", desc := "(LLeanSets$SetTable;)V" } : Jvm.MethodName) prog_2_method_3_code (4 : Nat) (Option.none : Option Jvm.ClassFile.FieldType)) ∈ gx_G := gx_2 (List.mem_of_getElem? (i := 220) rfl) rfl
theorem mw_461 : (Jvm.Cond.methodLink "LeanSets$Chain" (54 : Nat) ({ cls := "java/lang/Integer", name := "bitCount", desc := "(I)I" } : Jvm.MethodName)) ∈ gx_G := gx_2 (List.mem_of_getElem? (i := 221) rfl) rfl
theorem mw_462 : (Jvm.Cond.methodLink "LeanSets$Chain" (44 : Nat) ({ cls := "LeanSets$Chain", name := "nextSize", desc := "(II)I" } : Jvm.MethodName)) ∈ gx_G := gx_2 (List.mem_of_getElem? (i := 222) rfl) rfl
theorem mw_464 : (Jvm.Cond.instanceMethod ({ cls := "LeanSets$Chain", name := "nextSize", desc := "(II)I" } : Jvm.MethodName)) ∈ gx_G := gx_2 (List.mem_of_getElem? (i := 224) rfl) rfl
theorem mw_465 : (Jvm.Cond.code ({ cls := "LeanSets$Chain", name := "nextSize", desc := "(II)I" } : Jvm.MethodName) prog_2_method_4_code (7 : Nat) (Option.some Jvm.ClassFile.FieldType.int)) ∈ gx_G := gx_2 (List.mem_of_getElem? (i := 225) rfl) rfl
theorem mw_466 : (Jvm.Cond.methodLink "LeanSets$Chain" (48 : Nat) ({ cls := "LeanSets$Chain", name := "keepTurn", desc := "(II)V" } : Jvm.MethodName)) ∈ gx_G := gx_2 (List.mem_of_getElem? (i := 226) rfl) rfl
theorem mw_468 : (Jvm.Cond.instanceMethod ({ cls := "LeanSets$Chain", name := "keepTurn", desc := "(II)V" } : Jvm.MethodName)) ∈ gx_G := gx_2 (List.mem_of_getElem? (i := 228) rfl) rfl
theorem mw_469 : (Jvm.Cond.code ({ cls := "LeanSets$Chain", name := "keepTurn", desc := "(II)V" } : Jvm.MethodName) prog_2_method_5_code (10 : Nat) (Option.none : Option Jvm.ClassFile.FieldType)) ∈ gx_G := gx_2 (List.mem_of_getElem? (i := 229) rfl) rfl
theorem mw_471 : (Jvm.Cond.static ({ cls := "LeanSets", name := "commonDivisor", desc := "(JJ)J" } : Jvm.MethodName)) ∈ gx_G := gx_2 (List.mem_of_getElem? (i := 231) rfl) rfl
theorem mw_472 : (Jvm.Cond.code ({ cls := "LeanSets", name := "commonDivisor", desc := "(JJ)J" } : Jvm.MethodName) prog_1_method_23_code (11 : Nat) (Option.some Jvm.ClassFile.FieldType.long)) ∈ gx_G := gx_2 (List.mem_of_getElem? (i := 232) rfl) rfl
theorem mw_473 : (Jvm.Cond.methodLink "LeanSets" (180 : Nat) ({ cls := "java/lang/Math", name := "abs", desc := "(J)J" } : Jvm.MethodName)) ∈ gx_G := gx_2 (List.mem_of_getElem? (i := 233) rfl) rfl
theorem mw_474 : (Jvm.Cond.static ({ cls := "java/lang/Math", name := "abs", desc := "(J)J" } : Jvm.MethodName)) ∈ gx_G := gx_2 (List.mem_of_getElem? (i := 234) rfl) rfl
theorem mw_475 : (Jvm.Cond.code ({ cls := "java/lang/Math", name := "abs", desc := "(J)J" } : Jvm.MethodName) prog_15_method_61_code (2 : Nat) (Option.some Jvm.ClassFile.FieldType.long)) ∈ gx_G := gx_2 (List.mem_of_getElem? (i := 235) rfl) rfl
theorem mw_476 : (Jvm.Cond.methodLink "LeanSets" (186 : Nat) ({ cls := "java/lang/Math", name := "max", desc := "(JJ)J" } : Jvm.MethodName)) ∈ gx_G := gx_2 (List.mem_of_getElem? (i := 236) rfl) rfl
theorem mw_477 : (Jvm.Cond.static ({ cls := "java/lang/Math", name := "max", desc := "(JJ)J" } : Jvm.MethodName)) ∈ gx_G := gx_2 (List.mem_of_getElem? (i := 237) rfl) rfl
theorem mw_478 : (Jvm.Cond.code ({ cls := "java/lang/Math", name := "max", desc := "(JJ)J" } : Jvm.MethodName) prog_15_method_66_code (4 : Nat) (Option.some Jvm.ClassFile.FieldType.long)) ∈ gx_G := gx_2 (List.mem_of_getElem? (i := 238) rfl) rfl
theorem mw_479 : (Jvm.Cond.arrayClass Jvm.ClassFile.FieldType.byte) ∈ gx_G := gx_2 (List.mem_of_getElem? (i := 239) rfl) rfl
theorem mw_480 : (Jvm.Cond.methodLink "LeanSetsLaw" (71 : Nat) ({ cls := "LeanSets", name := "place", desc := "()I" } : Jvm.MethodName)) ∈ gx_G := gx_3 (List.mem_of_getElem? (i := 0) rfl) rfl
theorem mw_481 : (Jvm.Cond.instanceMethod ({ cls := "LeanSets", name := "place", desc := "()I" } : Jvm.MethodName)) ∈ gx_G := gx_3 (List.mem_of_getElem? (i := 1) rfl) rfl
theorem mw_482 : (Jvm.Cond.selects "LeanSets" ({ cls := "LeanSets", name := "place", desc := "()I" } : Jvm.MethodName) ({ cls := "LeanSets", name := "place", desc := "()I" } : Jvm.MethodName)) ∈ gx_G := gx_3 (List.mem_of_getElem? (i := 2) rfl) rfl
theorem mw_483 : (Jvm.Cond.code ({ cls := "LeanSets", name := "place", desc := "()I" } : Jvm.MethodName) prog_1_method_4_code (1 : Nat) (Option.some Jvm.ClassFile.FieldType.int)) ∈ gx_G := gx_3 (List.mem_of_getElem? (i := 3) rfl) rfl
theorem mw_484 : (Jvm.Cond.methodLink "LeanSetsLaw" (75 : Nat) ({ cls := "LeanSetsLaw", name := "count", desc := "(LLeanSets;I[J)I" } : Jvm.MethodName)) ∈ gx_G := gx_3 (List.mem_of_getElem? (i := 4) rfl) rfl
theorem mw_485 : (Jvm.Cond.static ({ cls := "LeanSetsLaw", name := "count", desc := "(LLeanSets;I[J)I" } : Jvm.MethodName)) ∈ gx_G := gx_3 (List.mem_of_getElem? (i := 5) rfl) rfl
theorem mw_486 : (Jvm.Cond.codeWith ({ cls := "LeanSetsLaw", name := "count", desc := "(LLeanSets;I[J)I" } : Jvm.MethodName) method_3_code (4 : Nat) (Option.some Jvm.ClassFile.FieldType.int) [((0 : Nat), (9 : Nat), (12 : Nat), (13 : Nat)), ((0 : Nat), (9 : Nat), (15 : Nat), (15 : Nat))]) ∈ gx_G := gx_3 (List.mem_of_getElem? (i := 6) rfl) rfl
theorem mw_487 : (Jvm.Cond.classLink "LeanSetsLaw" (13 : Nat) "java/lang/IllegalStateException") ∈ gx_G := gx_3 (List.mem_of_getElem? (i := 7) rfl) rfl
theorem mw_488 : (Jvm.Cond.classLink "LeanSetsLaw" (15 : Nat) "java/lang/IllegalArgumentException") ∈ gx_G := gx_3 (List.mem_of_getElem? (i := 8) rfl) rfl
theorem mw_489 : (Jvm.Cond.methodLink "LeanSetsLaw" (7 : Nat) ({ cls := "LeanSets", name := "count", desc := "(I)I" } : Jvm.MethodName)) ∈ gx_G := gx_3 (List.mem_of_getElem? (i := 9) rfl) rfl
theorem mw_490 : (Jvm.Cond.instanceMethod ({ cls := "LeanSets", name := "count", desc := "(I)I" } : Jvm.MethodName)) ∈ gx_G := gx_3 (List.mem_of_getElem? (i := 10) rfl) rfl
theorem mw_491 : (Jvm.Cond.selects "LeanSets" ({ cls := "LeanSets", name := "count", desc := "(I)I" } : Jvm.MethodName) ({ cls := "LeanSets", name := "count", desc := "(I)I" } : Jvm.MethodName)) ∈ gx_G := gx_3 (List.mem_of_getElem? (i := 11) rfl) rfl
theorem mw_492 : (Jvm.Cond.code ({ cls := "LeanSets", name := "count", desc := "(I)I" } : Jvm.MethodName) prog_1_method_5_code (2 : Nat) (Option.some Jvm.ClassFile.FieldType.int)) ∈ gx_G := gx_3 (List.mem_of_getElem? (i := 12) rfl) rfl
theorem mw_493 : (Jvm.Cond.methodLink "LeanSets" (96 : Nat) ({ cls := "LeanSets", name := "needFunction", desc := "()V" } : Jvm.MethodName)) ∈ gx_G := gx_3 (List.mem_of_getElem? (i := 13) rfl) rfl
theorem mw_495 : (Jvm.Cond.instanceMethod ({ cls := "LeanSets", name := "needFunction", desc := "()V" } : Jvm.MethodName)) ∈ gx_G := gx_3 (List.mem_of_getElem? (i := 15) rfl) rfl
theorem mw_496 : (Jvm.Cond.code ({ cls := "LeanSets", name := "needFunction", desc := "()V" } : Jvm.MethodName) prog_1_method_18_code (1 : Nat) (Option.none : Option Jvm.ClassFile.FieldType)) ∈ gx_G := gx_3 (List.mem_of_getElem? (i := 16) rfl) rfl
theorem mw_497 : (Jvm.Cond.classLink "LeanSets" (159 : Nat) "java/lang/IllegalStateException") ∈ gx_G := gx_3 (List.mem_of_getElem? (i := 17) rfl) rfl
theorem mw_498 : (Jvm.Cond.instantiable "java/lang/IllegalStateException" (6 : Nat)) ∈ gx_G := gx_3 (List.mem_of_getElem? (i := 18) rfl) rfl
theorem mw_506 : (Jvm.Cond.selects "java/lang/IllegalStateException" ({ cls := "java/lang/Throwable", name := "fillInStackTrace", desc := "(I)Ljava/lang/Throwable;" } : Jvm.MethodName) ({ cls := "java/lang/Throwable", name := "fillInStackTrace", desc := "(I)Ljava/lang/Throwable;" } : Jvm.MethodName)) ∈ gx_G := gx_3 (List.mem_of_getElem? (i := 26) rfl) rfl
theorem mw_507 : (Jvm.Cond.selects "java/lang/IllegalStateException" ({ cls := "java/lang/Throwable", name := "fillInStackTrace", desc := "()Ljava/lang/Throwable;" } : Jvm.MethodName) ({ cls := "java/lang/Throwable", name := "fillInStackTrace", desc := "()Ljava/lang/Throwable;" } : Jvm.MethodName)) ∈ gx_G := gx_3 (List.mem_of_getElem? (i := 27) rfl) rfl
theorem mw_508 : (Jvm.Cond.lays "java/lang/IllegalStateException" "java/lang/Throwable" "cause" "Ljava/lang/Throwable;") ∈ gx_G := gx_3 (List.mem_of_getElem? (i := 28) rfl) rfl
theorem mw_509 : (Jvm.Cond.lays "java/lang/Throwable" "java/lang/Throwable" "cause" "Ljava/lang/Throwable;") ∈ gx_G := gx_3 (List.mem_of_getElem? (i := 29) rfl) rfl
theorem mw_510 : (Jvm.Cond.lays "java/lang/IllegalStateException" "java/lang/Throwable" "stackTrace" "[Ljava/lang/StackTraceElement;") ∈ gx_G := gx_3 (List.mem_of_getElem? (i := 30) rfl) rfl
theorem mw_511 : (Jvm.Cond.lays "java/lang/Throwable" "java/lang/Throwable" "stackTrace" "[Ljava/lang/StackTraceElement;") ∈ gx_G := gx_3 (List.mem_of_getElem? (i := 31) rfl) rfl
theorem mw_512 : (Jvm.Cond.lays "java/lang/IllegalStateException" "java/lang/Throwable" "suppressedExceptions" "Ljava/util/List;") ∈ gx_G := gx_3 (List.mem_of_getElem? (i := 32) rfl) rfl
theorem mw_513 : (Jvm.Cond.lays "java/lang/Throwable" "java/lang/Throwable" "suppressedExceptions" "Ljava/util/List;") ∈ gx_G := gx_3 (List.mem_of_getElem? (i := 33) rfl) rfl
theorem mw_514 : (Jvm.Cond.lays "java/lang/IllegalStateException" "java/lang/Throwable" "detailMessage" "Ljava/lang/String;") ∈ gx_G := gx_3 (List.mem_of_getElem? (i := 34) rfl) rfl
theorem mw_515 : (Jvm.Cond.lays "java/lang/Throwable" "java/lang/Throwable" "detailMessage" "Ljava/lang/String;") ∈ gx_G := gx_3 (List.mem_of_getElem? (i := 35) rfl) rfl
theorem mw_516 : (Jvm.Cond.lays "java/lang/IllegalStateException" "java/lang/Throwable" "backtrace" "Ljava/lang/Object;") ∈ gx_G := gx_3 (List.mem_of_getElem? (i := 36) rfl) rfl
theorem mw_517 : (Jvm.Cond.lays "java/lang/Throwable" "java/lang/Throwable" "backtrace" "Ljava/lang/Object;") ∈ gx_G := gx_3 (List.mem_of_getElem? (i := 37) rfl) rfl
theorem mw_518 : (Jvm.Cond.fieldLink "java/lang/Throwable" (198 : Nat) "java/lang/Throwable" "backtrace" "Ljava/lang/Object;") ∈ gx_G := gx_3 (List.mem_of_getElem? (i := 38) rfl) rfl
theorem mw_520 : (Jvm.Cond.instanceMethod ({ cls := "java/lang/Throwable", name := "<init>", desc := "()V" } : Jvm.MethodName)) ∈ gx_G := gx_3 (List.mem_of_getElem? (i := 40) rfl) rfl
theorem mw_521 : (Jvm.Cond.code ({ cls := "java/lang/Throwable", name := "<init>", desc := "()V" } : Jvm.MethodName) prog_20_method_1_code (1 : Nat) (Option.none : Option Jvm.ClassFile.FieldType)) ∈ gx_G := gx_3 (List.mem_of_getElem? (i := 41) rfl) rfl
theorem mw_522 : (Jvm.Cond.methodLink "java/lang/Throwable" (1 : Nat) ({ cls := "java/lang/Object", name := "<init>", desc := "()V" } : Jvm.MethodName)) ∈ gx_G := gx_3 (List.mem_of_getElem? (i := 42) rfl) rfl
theorem mw_523 : (Jvm.Cond.fieldLink "java/lang/Throwable" (13 : Nat) "java/lang/Throwable" "UNASSIGNED_STACK" "[Ljava/lang/StackTraceElement;") ∈ gx_G := gx_3 (List.mem_of_getElem? (i := 43) rfl) rfl
theorem mw_525 : (Jvm.Cond.fieldLink "java/lang/Throwable" (20 : Nat) "java/lang/Throwable" "SUPPRESSED_SENTINEL" "Ljava/util/List;") ∈ gx_G := gx_3 (List.mem_of_getElem? (i := 45) rfl) rfl
theorem mw_527 : (Jvm.Cond.methodLink "java/lang/Throwable" (27 : Nat) ({ cls := "java/lang/Throwable", name := "fillInStackTrace", desc := "()Ljava/lang/Throwable;" } : Jvm.MethodName)) ∈ gx_G := gx_3 (List.mem_of_getElem? (i := 47) rfl) rfl
theorem mw_528 : (Jvm.Cond.instanceMethod ({ cls := "java/lang/Throwable", name := "fillInStackTrace", desc := "()Ljava/lang/Throwable;" } : Jvm.MethodName)) ∈ gx_G := gx_3 (List.mem_of_getElem? (i := 48) rfl) rfl
theorem mw_530 : (Jvm.Cond.selects "java/lang/IllegalArgumentException" ({ cls := "java/lang/Throwable", name := "fillInStackTrace", desc := "()Ljava/lang/Throwable;" } : Jvm.MethodName) ({ cls := "java/lang/Throwable", name := "fillInStackTrace", desc := "()Ljava/lang/Throwable;" } : Jvm.MethodName)) ∈ gx_G := gx_3 (List.mem_of_getElem? (i := 50) rfl) rfl
theorem mw_531 : (Jvm.Cond.selects "java/lang/IndexOutOfBoundsException" ({ cls := "java/lang/Throwable", name := "fillInStackTrace", desc := "()Ljava/lang/Throwable;" } : Jvm.MethodName) ({ cls := "java/lang/Throwable", name := "fillInStackTrace", desc := "()Ljava/lang/Throwable;" } : Jvm.MethodName)) ∈ gx_G := gx_3 (List.mem_of_getElem? (i := 51) rfl) rfl
theorem mw_533 : (Jvm.Cond.methodLink "java/lang/Throwable" (202 : Nat) ({ cls := "java/lang/Throwable", name := "fillInStackTrace", desc := "(I)Ljava/lang/Throwable;" } : Jvm.MethodName)) ∈ gx_G := gx_3 (List.mem_of_getElem? (i := 53) rfl) rfl
theorem mw_535 : (Jvm.Cond.instanceMethod ({ cls := "java/lang/Throwable", name := "fillInStackTrace", desc := "(I)Ljava/lang/Throwable;" } : Jvm.MethodName)) ∈ gx_G := gx_3 (List.mem_of_getElem? (i := 55) rfl) rfl
theorem mw_536 : (Jvm.Cond.instantiable "java/lang/Throwable" (6 : Nat)) ∈ gx_G := gx_3 (List.mem_of_getElem? (i := 56) rfl) rfl
theorem mw_538 : (Jvm.Cond.methodLink "LeanSets" (161 : Nat) ({ cls := "java/lang/IllegalStateException", name := "<init>", desc := "()V" } : Jvm.MethodName)) ∈ gx_G := gx_3 (List.mem_of_getElem? (i := 58) rfl) rfl
theorem mw_539 : (Jvm.Cond.instanceMethod ({ cls := "java/lang/IllegalStateException", name := "<init>", desc := "()V" } : Jvm.MethodName)) ∈ gx_G := gx_3 (List.mem_of_getElem? (i := 59) rfl) rfl
theorem mw_540 : (Jvm.Cond.code ({ cls := "java/lang/IllegalStateException", name := "<init>", desc := "()V" } : Jvm.MethodName) prog_12_method_1_code (1 : Nat) (Option.none : Option Jvm.ClassFile.FieldType)) ∈ gx_G := gx_3 (List.mem_of_getElem? (i := 60) rfl) rfl
theorem mw_541 : (Jvm.Cond.methodLink "java/lang/IllegalStateException" (1 : Nat) ({ cls := "java/lang/RuntimeException", name := "<init>", desc := "()V" } : Jvm.MethodName)) ∈ gx_G := gx_3 (List.mem_of_getElem? (i := 61) rfl) rfl
theorem mw_542 : (Jvm.Cond.instanceMethod ({ cls := "java/lang/RuntimeException", name := "<init>", desc := "()V" } : Jvm.MethodName)) ∈ gx_G := gx_3 (List.mem_of_getElem? (i := 62) rfl) rfl
theorem mw_543 : (Jvm.Cond.code ({ cls := "java/lang/RuntimeException", name := "<init>", desc := "()V" } : Jvm.MethodName) prog_16_method_1_code (1 : Nat) (Option.none : Option Jvm.ClassFile.FieldType)) ∈ gx_G := gx_3 (List.mem_of_getElem? (i := 63) rfl) rfl
theorem mw_544 : (Jvm.Cond.methodLink "java/lang/RuntimeException" (1 : Nat) ({ cls := "java/lang/Exception", name := "<init>", desc := "()V" } : Jvm.MethodName)) ∈ gx_G := gx_3 (List.mem_of_getElem? (i := 64) rfl) rfl
theorem mw_545 : (Jvm.Cond.instanceMethod ({ cls := "java/lang/Exception", name := "<init>", desc := "()V" } : Jvm.MethodName)) ∈ gx_G := gx_3 (List.mem_of_getElem? (i := 65) rfl) rfl
theorem mw_546 : (Jvm.Cond.code ({ cls := "java/lang/Exception", name := "<init>", desc := "()V" } : Jvm.MethodName) prog_10_method_1_code (1 : Nat) (Option.none : Option Jvm.ClassFile.FieldType)) ∈ gx_G := gx_3 (List.mem_of_getElem? (i := 66) rfl) rfl
theorem mw_547 : (Jvm.Cond.methodLink "java/lang/Exception" (1 : Nat) ({ cls := "java/lang/Throwable", name := "<init>", desc := "()V" } : Jvm.MethodName)) ∈ gx_G := gx_3 (List.mem_of_getElem? (i := 67) rfl) rfl
theorem mw_549 : (Jvm.Cond.fieldLink "java/lang/Throwable" (7 : Nat) "java/lang/Throwable" "cause" "Ljava/lang/Throwable;") ∈ gx_G := gx_3 (List.mem_of_getElem? (i := 69) rfl) rfl
theorem mw_550 : (Jvm.Cond.fieldLink "java/lang/Throwable" (17 : Nat) "java/lang/Throwable" "stackTrace" "[Ljava/lang/StackTraceElement;") ∈ gx_G := gx_3 (List.mem_of_getElem? (i := 70) rfl) rfl
theorem mw_551 : (Jvm.Cond.fieldLink "java/lang/Throwable" (24 : Nat) "java/lang/Throwable" "suppressedExceptions" "Ljava/util/List;") ∈ gx_G := gx_3 (List.mem_of_getElem? (i := 71) rfl) rfl
theorem mw_556 : (Jvm.Cond.lays "java/lang/IllegalStateException" "java/lang/Throwable" "depth" "I") ∈ gx_G := gx_3 (List.mem_of_getElem? (i := 76) rfl) rfl
theorem mw_560 : (Jvm.Cond.methodLink "LeanSets" (99 : Nat) ({ cls := "LeanSets", name := "needBelow", desc := "(II)V" } : Jvm.MethodName)) ∈ gx_G := gx_3 (List.mem_of_getElem? (i := 80) rfl) rfl
theorem mw_561 : (Jvm.Cond.static ({ cls := "LeanSets", name := "needBelow", desc := "(II)V" } : Jvm.MethodName)) ∈ gx_G := gx_3 (List.mem_of_getElem? (i := 81) rfl) rfl
theorem mw_562 : (Jvm.Cond.code ({ cls := "LeanSets", name := "needBelow", desc := "(II)V" } : Jvm.MethodName) prog_1_method_21_code (2 : Nat) (Option.none : Option Jvm.ClassFile.FieldType)) ∈ gx_G := gx_3 (List.mem_of_getElem? (i := 82) rfl) rfl
theorem mw_563 : (Jvm.Cond.classLink "LeanSets" (110 : Nat) "java/lang/IllegalArgumentException") ∈ gx_G := gx_3 (List.mem_of_getElem? (i := 83) rfl) rfl
theorem mw_564 : (Jvm.Cond.instantiable "java/lang/IllegalArgumentException" (6 : Nat)) ∈ gx_G := gx_3 (List.mem_of_getElem? (i := 84) rfl) rfl
theorem mw_566 : (Jvm.Cond.selects "java/lang/IllegalArgumentException" ({ cls := "java/lang/Throwable", name := "fillInStackTrace", desc := "(I)Ljava/lang/Throwable;" } : Jvm.MethodName) ({ cls := "java/lang/Throwable", name := "fillInStackTrace", desc := "(I)Ljava/lang/Throwable;" } : Jvm.MethodName)) ∈ gx_G := gx_3 (List.mem_of_getElem? (i := 86) rfl) rfl
theorem mw_567 : (Jvm.Cond.lays "java/lang/IllegalArgumentException" "java/lang/Throwable" "cause" "Ljava/lang/Throwable;") ∈ gx_G := gx_3 (List.mem_of_getElem? (i := 87) rfl) rfl
theorem mw_568 : (Jvm.Cond.lays "java/lang/IllegalArgumentException" "java/lang/Throwable" "stackTrace" "[Ljava/lang/StackTraceElement;") ∈ gx_G := gx_3 (List.mem_of_getElem? (i := 88) rfl) rfl
theorem mw_569 : (Jvm.Cond.lays "java/lang/IllegalArgumentException" "java/lang/Throwable" "suppressedExceptions" "Ljava/util/List;") ∈ gx_G := gx_3 (List.mem_of_getElem? (i := 89) rfl) rfl
theorem mw_570 : (Jvm.Cond.lays "java/lang/IllegalArgumentException" "java/lang/Throwable" "detailMessage" "Ljava/lang/String;") ∈ gx_G := gx_3 (List.mem_of_getElem? (i := 90) rfl) rfl
theorem mw_571 : (Jvm.Cond.lays "java/lang/IllegalArgumentException" "java/lang/Throwable" "backtrace" "Ljava/lang/Object;") ∈ gx_G := gx_3 (List.mem_of_getElem? (i := 91) rfl) rfl
theorem mw_572 : (Jvm.Cond.methodLink "LeanSets" (112 : Nat) ({ cls := "java/lang/IllegalArgumentException", name := "<init>", desc := "()V" } : Jvm.MethodName)) ∈ gx_G := gx_3 (List.mem_of_getElem? (i := 92) rfl) rfl
theorem mw_573 : (Jvm.Cond.instanceMethod ({ cls := "java/lang/IllegalArgumentException", name := "<init>", desc := "()V" } : Jvm.MethodName)) ∈ gx_G := gx_3 (List.mem_of_getElem? (i := 93) rfl) rfl
theorem mw_574 : (Jvm.Cond.code ({ cls := "java/lang/IllegalArgumentException", name := "<init>", desc := "()V" } : Jvm.MethodName) prog_11_method_1_code (1 : Nat) (Option.none : Option Jvm.ClassFile.FieldType)) ∈ gx_G := gx_3 (List.mem_of_getElem? (i := 94) rfl) rfl
theorem mw_575 : (Jvm.Cond.methodLink "java/lang/IllegalArgumentException" (1 : Nat) ({ cls := "java/lang/RuntimeException", name := "<init>", desc := "()V" } : Jvm.MethodName)) ∈ gx_G := gx_3 (List.mem_of_getElem? (i := 95) rfl) rfl
theorem mw_576 : (Jvm.Cond.lays "java/lang/IllegalArgumentException" "java/lang/Throwable" "depth" "I") ∈ gx_G := gx_3 (List.mem_of_getElem? (i := 96) rfl) rfl
theorem mw_578 : (Jvm.Cond.methodLink "LeanSetsLaw" (84 : Nat) ({ cls := "LeanSetsLaw", name := "value", desc := "(LLeanSets;I[J)I" } : Jvm.MethodName)) ∈ gx_G := gx_3 (List.mem_of_getElem? (i := 98) rfl) rfl
theorem mw_579 : (Jvm.Cond.static ({ cls := "LeanSetsLaw", name := "value", desc := "(LLeanSets;I[J)I" } : Jvm.MethodName)) ∈ gx_G := gx_3 (List.mem_of_getElem? (i := 99) rfl) rfl
theorem mw_580 : (Jvm.Cond.codeWith ({ cls := "LeanSetsLaw", name := "value", desc := "(LLeanSets;I[J)I" } : Jvm.MethodName) method_4_code (4 : Nat) (Option.some Jvm.ClassFile.FieldType.int) [((0 : Nat), (9 : Nat), (12 : Nat), (13 : Nat)), ((0 : Nat), (9 : Nat), (15 : Nat), (15 : Nat))]) ∈ gx_G := gx_3 (List.mem_of_getElem? (i := 100) rfl) rfl
theorem mw_581 : (Jvm.Cond.methodLink "LeanSetsLaw" (17 : Nat) ({ cls := "LeanSets", name := "value", desc := "(I)I" } : Jvm.MethodName)) ∈ gx_G := gx_3 (List.mem_of_getElem? (i := 101) rfl) rfl
theorem mw_582 : (Jvm.Cond.instanceMethod ({ cls := "LeanSets", name := "value", desc := "(I)I" } : Jvm.MethodName)) ∈ gx_G := gx_3 (List.mem_of_getElem? (i := 102) rfl) rfl
theorem mw_583 : (Jvm.Cond.selects "LeanSets" ({ cls := "LeanSets", name := "value", desc := "(I)I" } : Jvm.MethodName) ({ cls := "LeanSets", name := "value", desc := "(I)I" } : Jvm.MethodName)) ∈ gx_G := gx_3 (List.mem_of_getElem? (i := 103) rfl) rfl
theorem mw_584 : (Jvm.Cond.code ({ cls := "LeanSets", name := "value", desc := "(I)I" } : Jvm.MethodName) prog_1_method_6_code (2 : Nat) (Option.some Jvm.ClassFile.FieldType.int)) ∈ gx_G := gx_3 (List.mem_of_getElem? (i := 104) rfl) rfl
theorem mw_585 : (Jvm.Cond.methodLink "LeanSets" (103 : Nat) ({ cls := "LeanSets", name := "needSet", desc := "(I)V" } : Jvm.MethodName)) ∈ gx_G := gx_3 (List.mem_of_getElem? (i := 105) rfl) rfl
theorem mw_587 : (Jvm.Cond.instanceMethod ({ cls := "LeanSets", name := "needSet", desc := "(I)V" } : Jvm.MethodName)) ∈ gx_G := gx_3 (List.mem_of_getElem? (i := 107) rfl) rfl
theorem mw_588 : (Jvm.Cond.code ({ cls := "LeanSets", name := "needSet", desc := "(I)V" } : Jvm.MethodName) prog_1_method_20_code (2 : Nat) (Option.none : Option Jvm.ClassFile.FieldType)) ∈ gx_G := gx_3 (List.mem_of_getElem? (i := 108) rfl) rfl
theorem mw_589 : (Jvm.Cond.methodLink "LeanSetsLaw" (87 : Nat) ({ cls := "LeanSetsLaw", name := "least", desc := "(LLeanSets;III[J)I" } : Jvm.MethodName)) ∈ gx_G := gx_3 (List.mem_of_getElem? (i := 109) rfl) rfl
theorem mw_590 : (Jvm.Cond.static ({ cls := "LeanSetsLaw", name := "least", desc := "(LLeanSets;III[J)I" } : Jvm.MethodName)) ∈ gx_G := gx_3 (List.mem_of_getElem? (i := 110) rfl) rfl
theorem mw_591 : (Jvm.Cond.codeWith ({ cls := "LeanSetsLaw", name := "least", desc := "(LLeanSets;III[J)I" } : Jvm.MethodName) method_5_code (6 : Nat) (Option.some Jvm.ClassFile.FieldType.int) [((0 : Nat), (12 : Nat), (15 : Nat), (13 : Nat)), ((0 : Nat), (12 : Nat), (19 : Nat), (15 : Nat))]) ∈ gx_G := gx_3 (List.mem_of_getElem? (i := 111) rfl) rfl
theorem mw_592 : (Jvm.Cond.methodLink "LeanSetsLaw" (20 : Nat) ({ cls := "LeanSets", name := "least", desc := "(III)I" } : Jvm.MethodName)) ∈ gx_G := gx_3 (List.mem_of_getElem? (i := 112) rfl) rfl
theorem mw_593 : (Jvm.Cond.instanceMethod ({ cls := "LeanSets", name := "least", desc := "(III)I" } : Jvm.MethodName)) ∈ gx_G := gx_3 (List.mem_of_getElem? (i := 113) rfl) rfl
theorem mw_594 : (Jvm.Cond.selects "LeanSets" ({ cls := "LeanSets", name := "least", desc := "(III)I" } : Jvm.MethodName) ({ cls := "LeanSets", name := "least", desc := "(III)I" } : Jvm.MethodName)) ∈ gx_G := gx_3 (List.mem_of_getElem? (i := 114) rfl) rfl
theorem mw_595 : (Jvm.Cond.code ({ cls := "LeanSets", name := "least", desc := "(III)I" } : Jvm.MethodName) prog_1_method_7_code (4 : Nat) (Option.some Jvm.ClassFile.FieldType.int)) ∈ gx_G := gx_3 (List.mem_of_getElem? (i := 115) rfl) rfl
theorem mw_596 : (Jvm.Cond.methodLink "LeanSets" (113 : Nat) ({ cls := "LeanSets$SetTable", name := "findLowest", desc := "(II)V" } : Jvm.MethodName)) ∈ gx_G := gx_3 (List.mem_of_getElem? (i := 116) rfl) rfl
theorem mw_597 : (Jvm.Cond.instanceMethod ({ cls := "LeanSets$SetTable", name := "findLowest", desc := "(II)V" } : Jvm.MethodName)) ∈ gx_G := gx_3 (List.mem_of_getElem? (i := 117) rfl) rfl
theorem mw_598 : (Jvm.Cond.selects "LeanSets$SetTable" ({ cls := "LeanSets$SetTable", name := "findLowest", desc := "(II)V" } : Jvm.MethodName) ({ cls := "LeanSets$SetTable", name := "findLowest", desc := "(II)V" } : Jvm.MethodName)) ∈ gx_G := gx_3 (List.mem_of_getElem? (i := 118) rfl) rfl
theorem mw_599 : (Jvm.Cond.code ({ cls := "LeanSets$SetTable", name := "findLowest", desc := "(II)V" } : Jvm.MethodName) prog_4_method_7_code (5 : Nat) (Option.none : Option Jvm.ClassFile.FieldType)) ∈ gx_G := gx_3 (List.mem_of_getElem? (i := 119) rfl) rfl
theorem mw_600 : (Jvm.Cond.methodLink "LeanSetsLaw" (91 : Nat) ({ cls := "LeanSetsLaw", name := "extreme", desc := "(LLeanSets;JI[J)I" } : Jvm.MethodName)) ∈ gx_G := gx_3 (List.mem_of_getElem? (i := 120) rfl) rfl
theorem mw_601 : (Jvm.Cond.static ({ cls := "LeanSetsLaw", name := "extreme", desc := "(LLeanSets;JI[J)I" } : Jvm.MethodName)) ∈ gx_G := gx_3 (List.mem_of_getElem? (i := 121) rfl) rfl
theorem mw_602 : (Jvm.Cond.codeWith ({ cls := "LeanSetsLaw", name := "extreme", desc := "(LLeanSets;JI[J)I" } : Jvm.MethodName) method_6_code (6 : Nat) (Option.some Jvm.ClassFile.FieldType.int) [((0 : Nat), (11 : Nat), (14 : Nat), (13 : Nat)), ((0 : Nat), (11 : Nat), (18 : Nat), (28 : Nat)), ((0 : Nat), (11 : Nat), (22 : Nat), (15 : Nat))]) ∈ gx_G := gx_3 (List.mem_of_getElem? (i := 122) rfl) rfl
theorem mw_603 : (Jvm.Cond.classLink "LeanSetsLaw" (28 : Nat) "java/lang/IndexOutOfBoundsException") ∈ gx_G := gx_3 (List.mem_of_getElem? (i := 123) rfl) rfl
theorem mw_604 : (Jvm.Cond.methodLink "LeanSetsLaw" (24 : Nat) ({ cls := "LeanSets", name := "extreme", desc := "(JI)I" } : Jvm.MethodName)) ∈ gx_G := gx_3 (List.mem_of_getElem? (i := 124) rfl) rfl
theorem mw_605 : (Jvm.Cond.instanceMethod ({ cls := "LeanSets", name := "extreme", desc := "(JI)I" } : Jvm.MethodName)) ∈ gx_G := gx_3 (List.mem_of_getElem? (i := 125) rfl) rfl
theorem mw_606 : (Jvm.Cond.selects "LeanSets" ({ cls := "LeanSets", name := "extreme", desc := "(JI)I" } : Jvm.MethodName) ({ cls := "LeanSets", name := "extreme", desc := "(JI)I" } : Jvm.MethodName)) ∈ gx_G := gx_3 (List.mem_of_getElem? (i := 126) rfl) rfl
theorem mw_607 : (Jvm.Cond.code ({ cls := "LeanSets", name := "extreme", desc := "(JI)I" } : Jvm.MethodName) prog_1_method_8_code (8 : Nat) (Option.some Jvm.ClassFile.FieldType.int)) ∈ gx_G := gx_3 (List.mem_of_getElem? (i := 127) rfl) rfl
theorem mw_608 : (Jvm.Cond.methodLink "LeanSets" (126 : Nat) ({ cls := "LeanSets", name := "needElement", desc := "(I)V" } : Jvm.MethodName)) ∈ gx_G := gx_3 (List.mem_of_getElem? (i := 128) rfl) rfl
theorem mw_610 : (Jvm.Cond.instanceMethod ({ cls := "LeanSets", name := "needElement", desc := "(I)V" } : Jvm.MethodName)) ∈ gx_G := gx_3 (List.mem_of_getElem? (i := 130) rfl) rfl
theorem mw_611 : (Jvm.Cond.code ({ cls := "LeanSets", name := "needElement", desc := "(I)V" } : Jvm.MethodName) prog_1_method_19_code (2 : Nat) (Option.none : Option Jvm.ClassFile.FieldType)) ∈ gx_G := gx_3 (List.mem_of_getElem? (i := 131) rfl) rfl
theorem mw_612 : (Jvm.Cond.classLink "LeanSets" (140 : Nat) "java/lang/IndexOutOfBoundsException") ∈ gx_G := gx_3 (List.mem_of_getElem? (i := 132) rfl) rfl
theorem mw_613 : (Jvm.Cond.instantiable "java/lang/IndexOutOfBoundsException" (6 : Nat)) ∈ gx_G := gx_3 (List.mem_of_getElem? (i := 133) rfl) rfl
theorem mw_615 : (Jvm.Cond.selects "java/lang/IndexOutOfBoundsException" ({ cls := "java/lang/Throwable", name := "fillInStackTrace", desc := "(I)Ljava/lang/Throwable;" } : Jvm.MethodName) ({ cls := "java/lang/Throwable", name := "fillInStackTrace", desc := "(I)Ljava/lang/Throwable;" } : Jvm.MethodName)) ∈ gx_G := gx_3 (List.mem_of_getElem? (i := 135) rfl) rfl
theorem mw_616 : (Jvm.Cond.lays "java/lang/IndexOutOfBoundsException" "java/lang/Throwable" "cause" "Ljava/lang/Throwable;") ∈ gx_G := gx_3 (List.mem_of_getElem? (i := 136) rfl) rfl
theorem mw_617 : (Jvm.Cond.lays "java/lang/IndexOutOfBoundsException" "java/lang/Throwable" "stackTrace" "[Ljava/lang/StackTraceElement;") ∈ gx_G := gx_3 (List.mem_of_getElem? (i := 137) rfl) rfl
theorem mw_618 : (Jvm.Cond.lays "java/lang/IndexOutOfBoundsException" "java/lang/Throwable" "suppressedExceptions" "Ljava/util/List;") ∈ gx_G := gx_3 (List.mem_of_getElem? (i := 138) rfl) rfl
theorem mw_619 : (Jvm.Cond.lays "java/lang/IndexOutOfBoundsException" "java/lang/Throwable" "detailMessage" "Ljava/lang/String;") ∈ gx_G := gx_3 (List.mem_of_getElem? (i := 139) rfl) rfl
theorem mw_620 : (Jvm.Cond.lays "java/lang/IndexOutOfBoundsException" "java/lang/Throwable" "backtrace" "Ljava/lang/Object;") ∈ gx_G := gx_3 (List.mem_of_getElem? (i := 140) rfl) rfl
theorem mw_621 : (Jvm.Cond.methodLink "LeanSets" (142 : Nat) ({ cls := "java/lang/IndexOutOfBoundsException", name := "<init>", desc := "()V" } : Jvm.MethodName)) ∈ gx_G := gx_3 (List.mem_of_getElem? (i := 141) rfl) rfl
theorem mw_622 : (Jvm.Cond.instanceMethod ({ cls := "java/lang/IndexOutOfBoundsException", name := "<init>", desc := "()V" } : Jvm.MethodName)) ∈ gx_G := gx_3 (List.mem_of_getElem? (i := 142) rfl) rfl
theorem mw_623 : (Jvm.Cond.code ({ cls := "java/lang/IndexOutOfBoundsException", name := "<init>", desc := "()V" } : Jvm.MethodName) prog_13_method_1_code (1 : Nat) (Option.none : Option Jvm.ClassFile.FieldType)) ∈ gx_G := gx_3 (List.mem_of_getElem? (i := 143) rfl) rfl
theorem mw_624 : (Jvm.Cond.methodLink "java/lang/IndexOutOfBoundsException" (1 : Nat) ({ cls := "java/lang/RuntimeException", name := "<init>", desc := "()V" } : Jvm.MethodName)) ∈ gx_G := gx_3 (List.mem_of_getElem? (i := 144) rfl) rfl
theorem mw_625 : (Jvm.Cond.lays "java/lang/IndexOutOfBoundsException" "java/lang/Throwable" "depth" "I") ∈ gx_G := gx_3 (List.mem_of_getElem? (i := 145) rfl) rfl
theorem mw_627 : (Jvm.Cond.methodLink "LeanSets" (129 : Nat) ({ cls := "LeanSets$SetTable", name := "gain", desc := "(II)J" } : Jvm.MethodName)) ∈ gx_G := gx_3 (List.mem_of_getElem? (i := 147) rfl) rfl
theorem mw_628 : (Jvm.Cond.instanceMethod ({ cls := "LeanSets$SetTable", name := "gain", desc := "(II)J" } : Jvm.MethodName)) ∈ gx_G := gx_3 (List.mem_of_getElem? (i := 148) rfl) rfl
theorem mw_629 : (Jvm.Cond.selects "LeanSets$SetTable" ({ cls := "LeanSets$SetTable", name := "gain", desc := "(II)J" } : Jvm.MethodName) ({ cls := "LeanSets$SetTable", name := "gain", desc := "(II)J" } : Jvm.MethodName)) ∈ gx_G := gx_3 (List.mem_of_getElem? (i := 149) rfl) rfl
theorem mw_630 : (Jvm.Cond.code ({ cls := "LeanSets$SetTable", name := "gain", desc := "(II)J" } : Jvm.MethodName) prog_4_method_6_code (3 : Nat) (Option.some Jvm.ClassFile.FieldType.long)) ∈ gx_G := gx_3 (List.mem_of_getElem? (i := 150) rfl) rfl
theorem mw_631 : (Jvm.Cond.methodLink "LeanSetsLaw" (95 : Nat) ({ cls := "LeanSetsLaw", name := "tell", desc := "(LLeanSets;II)I" } : Jvm.MethodName)) ∈ gx_G := gx_3 (List.mem_of_getElem? (i := 151) rfl) rfl
theorem mw_632 : (Jvm.Cond.static ({ cls := "LeanSetsLaw", name := "tell", desc := "(LLeanSets;II)I" } : Jvm.MethodName)) ∈ gx_G := gx_3 (List.mem_of_getElem? (i := 152) rfl) rfl
theorem mw_633 : (Jvm.Cond.codeWith ({ cls := "LeanSetsLaw", name := "tell", desc := "(LLeanSets;II)I" } : Jvm.MethodName) method_7_code (4 : Nat) (Option.some Jvm.ClassFile.FieldType.int) [((0 : Nat), (6 : Nat), (9 : Nat), (13 : Nat)), ((0 : Nat), (6 : Nat), (12 : Nat), (28 : Nat)), ((0 : Nat), (6 : Nat), (15 : Nat), (15 : Nat))]) ∈ gx_G := gx_3 (List.mem_of_getElem? (i := 153) rfl) rfl
theorem mw_634 : (Jvm.Cond.methodLink "LeanSetsLaw" (30 : Nat) ({ cls := "LeanSets", name := "tell", desc := "(II)V" } : Jvm.MethodName)) ∈ gx_G := gx_3 (List.mem_of_getElem? (i := 154) rfl) rfl
theorem mw_635 : (Jvm.Cond.instanceMethod ({ cls := "LeanSets", name := "tell", desc := "(II)V" } : Jvm.MethodName)) ∈ gx_G := gx_3 (List.mem_of_getElem? (i := 155) rfl) rfl
theorem mw_636 : (Jvm.Cond.selects "LeanSets" ({ cls := "LeanSets", name := "tell", desc := "(II)V" } : Jvm.MethodName) ({ cls := "LeanSets", name := "tell", desc := "(II)V" } : Jvm.MethodName)) ∈ gx_G := gx_3 (List.mem_of_getElem? (i := 156) rfl) rfl
theorem mw_637 : (Jvm.Cond.code ({ cls := "LeanSets", name := "tell", desc := "(II)V" } : Jvm.MethodName) prog_1_method_9_code (3 : Nat) (Option.none : Option Jvm.ClassFile.FieldType)) ∈ gx_G := gx_3 (List.mem_of_getElem? (i := 157) rfl) rfl
theorem mw_638 : (Jvm.Cond.constant "LeanSets" (133 : Nat) (-1000000 : Int32)) ∈ gx_G := gx_3 (List.mem_of_getElem? (i := 158) rfl) rfl
theorem mw_639 : (Jvm.Cond.constant "LeanSets" (134 : Nat) (1000000 : Int32)) ∈ gx_G := gx_3 (List.mem_of_getElem? (i := 159) rfl) rfl
theorem mw_640 : (Jvm.Cond.methodLink "LeanSets" (135 : Nat) ({ cls := "LeanSets$SetTable", name := "add", desc := "(IIJ)V" } : Jvm.MethodName)) ∈ gx_G := gx_3 (List.mem_of_getElem? (i := 160) rfl) rfl
theorem mw_641 : (Jvm.Cond.methodLink "LeanSetsLaw" (99 : Nat) ({ cls := "LeanSetsLaw", name := "surplus", desc := "(LLeanSets;[J)I" } : Jvm.MethodName)) ∈ gx_G := gx_3 (List.mem_of_getElem? (i := 161) rfl) rfl
theorem mw_642 : (Jvm.Cond.static ({ cls := "LeanSetsLaw", name := "surplus", desc := "(LLeanSets;[J)I" } : Jvm.MethodName)) ∈ gx_G := gx_3 (List.mem_of_getElem? (i := 162) rfl) rfl
theorem mw_643 : (Jvm.Cond.codeWith ({ cls := "LeanSetsLaw", name := "surplus", desc := "(LLeanSets;[J)I" } : Jvm.MethodName) method_8_code (3 : Nat) (Option.some Jvm.ClassFile.FieldType.int) [((0 : Nat), (8 : Nat), (11 : Nat), (13 : Nat))]) ∈ gx_G := gx_3 (List.mem_of_getElem? (i := 163) rfl) rfl
theorem mw_644 : (Jvm.Cond.methodLink "LeanSetsLaw" (34 : Nat) ({ cls := "LeanSets", name := "surplus", desc := "()I" } : Jvm.MethodName)) ∈ gx_G := gx_3 (List.mem_of_getElem? (i := 164) rfl) rfl
theorem mw_645 : (Jvm.Cond.instanceMethod ({ cls := "LeanSets", name := "surplus", desc := "()I" } : Jvm.MethodName)) ∈ gx_G := gx_3 (List.mem_of_getElem? (i := 165) rfl) rfl
theorem mw_646 : (Jvm.Cond.selects "LeanSets" ({ cls := "LeanSets", name := "surplus", desc := "()I" } : Jvm.MethodName) ({ cls := "LeanSets", name := "surplus", desc := "()I" } : Jvm.MethodName)) ∈ gx_G := gx_3 (List.mem_of_getElem? (i := 166) rfl) rfl
theorem mw_647 : (Jvm.Cond.code ({ cls := "LeanSets", name := "surplus", desc := "()I" } : Jvm.MethodName) prog_1_method_10_code (1 : Nat) (Option.some Jvm.ClassFile.FieldType.int)) ∈ gx_G := gx_3 (List.mem_of_getElem? (i := 167) rfl) rfl
theorem mw_648 : (Jvm.Cond.methodLink "LeanSetsLaw" (103 : Nat) ({ cls := "LeanSetsLaw", name := "worst", desc := "(LLeanSets;I[J)I" } : Jvm.MethodName)) ∈ gx_G := gx_3 (List.mem_of_getElem? (i := 168) rfl) rfl
theorem mw_649 : (Jvm.Cond.static ({ cls := "LeanSetsLaw", name := "worst", desc := "(LLeanSets;I[J)I" } : Jvm.MethodName)) ∈ gx_G := gx_3 (List.mem_of_getElem? (i := 169) rfl) rfl
theorem mw_650 : (Jvm.Cond.codeWith ({ cls := "LeanSetsLaw", name := "worst", desc := "(LLeanSets;I[J)I" } : Jvm.MethodName) method_9_code (4 : Nat) (Option.some Jvm.ClassFile.FieldType.int) [((0 : Nat), (9 : Nat), (12 : Nat), (13 : Nat)), ((0 : Nat), (9 : Nat), (15 : Nat), (15 : Nat))]) ∈ gx_G := gx_3 (List.mem_of_getElem? (i := 170) rfl) rfl
theorem mw_651 : (Jvm.Cond.methodLink "LeanSetsLaw" (38 : Nat) ({ cls := "LeanSets", name := "worst", desc := "(I)I" } : Jvm.MethodName)) ∈ gx_G := gx_3 (List.mem_of_getElem? (i := 171) rfl) rfl
theorem mw_652 : (Jvm.Cond.instanceMethod ({ cls := "LeanSets", name := "worst", desc := "(I)I" } : Jvm.MethodName)) ∈ gx_G := gx_3 (List.mem_of_getElem? (i := 172) rfl) rfl
theorem mw_653 : (Jvm.Cond.selects "LeanSets" ({ cls := "LeanSets", name := "worst", desc := "(I)I" } : Jvm.MethodName) ({ cls := "LeanSets", name := "worst", desc := "(I)I" } : Jvm.MethodName)) ∈ gx_G := gx_3 (List.mem_of_getElem? (i := 173) rfl) rfl
theorem mw_654 : (Jvm.Cond.code ({ cls := "LeanSets", name := "worst", desc := "(I)I" } : Jvm.MethodName) prog_1_method_11_code (2 : Nat) (Option.some Jvm.ClassFile.FieldType.int)) ∈ gx_G := gx_3 (List.mem_of_getElem? (i := 174) rfl) rfl
theorem mw_655 : (Jvm.Cond.methodLink "LeanSetsLaw" (106 : Nat) ({ cls := "LeanSetsLaw", name := "tight", desc := "(LLeanSets;I[J)I" } : Jvm.MethodName)) ∈ gx_G := gx_3 (List.mem_of_getElem? (i := 175) rfl) rfl
theorem mw_656 : (Jvm.Cond.static ({ cls := "LeanSetsLaw", name := "tight", desc := "(LLeanSets;I[J)I" } : Jvm.MethodName)) ∈ gx_G := gx_3 (List.mem_of_getElem? (i := 176) rfl) rfl
theorem mw_657 : (Jvm.Cond.codeWith ({ cls := "LeanSetsLaw", name := "tight", desc := "(LLeanSets;I[J)I" } : Jvm.MethodName) method_10_code (4 : Nat) (Option.some Jvm.ClassFile.FieldType.int) [((0 : Nat), (9 : Nat), (12 : Nat), (13 : Nat)), ((0 : Nat), (9 : Nat), (15 : Nat), (28 : Nat))]) ∈ gx_G := gx_3 (List.mem_of_getElem? (i := 177) rfl) rfl
theorem mw_658 : (Jvm.Cond.methodLink "LeanSetsLaw" (41 : Nat) ({ cls := "LeanSets", name := "tight", desc := "(I)I" } : Jvm.MethodName)) ∈ gx_G := gx_3 (List.mem_of_getElem? (i := 178) rfl) rfl
theorem mw_659 : (Jvm.Cond.instanceMethod ({ cls := "LeanSets", name := "tight", desc := "(I)I" } : Jvm.MethodName)) ∈ gx_G := gx_3 (List.mem_of_getElem? (i := 179) rfl) rfl
theorem mw_660 : (Jvm.Cond.selects "LeanSets" ({ cls := "LeanSets", name := "tight", desc := "(I)I" } : Jvm.MethodName) ({ cls := "LeanSets", name := "tight", desc := "(I)I" } : Jvm.MethodName)) ∈ gx_G := gx_3 (List.mem_of_getElem? (i := 180) rfl) rfl
theorem mw_661 : (Jvm.Cond.code ({ cls := "LeanSets", name := "tight", desc := "(I)I" } : Jvm.MethodName) prog_1_method_12_code (2 : Nat) (Option.some Jvm.ClassFile.FieldType.int)) ∈ gx_G := gx_3 (List.mem_of_getElem? (i := 181) rfl) rfl
theorem mw_662 : (Jvm.Cond.methodLink "LeanSetsLaw" (109 : Nat) ({ cls := "LeanSetsLaw", name := "turns", desc := "(LLeanSets;[J)I" } : Jvm.MethodName)) ∈ gx_G := gx_3 (List.mem_of_getElem? (i := 182) rfl) rfl
theorem mw_663 : (Jvm.Cond.static ({ cls := "LeanSetsLaw", name := "turns", desc := "(LLeanSets;[J)I" } : Jvm.MethodName)) ∈ gx_G := gx_3 (List.mem_of_getElem? (i := 183) rfl) rfl
theorem mw_664 : (Jvm.Cond.codeWith ({ cls := "LeanSetsLaw", name := "turns", desc := "(LLeanSets;[J)I" } : Jvm.MethodName) method_11_code (3 : Nat) (Option.some Jvm.ClassFile.FieldType.int) [((0 : Nat), (8 : Nat), (11 : Nat), (13 : Nat))]) ∈ gx_G := gx_3 (List.mem_of_getElem? (i := 184) rfl) rfl
theorem mw_665 : (Jvm.Cond.methodLink "LeanSetsLaw" (44 : Nat) ({ cls := "LeanSets", name := "turns", desc := "()I" } : Jvm.MethodName)) ∈ gx_G := gx_3 (List.mem_of_getElem? (i := 185) rfl) rfl
theorem mw_666 : (Jvm.Cond.instanceMethod ({ cls := "LeanSets", name := "turns", desc := "()I" } : Jvm.MethodName)) ∈ gx_G := gx_3 (List.mem_of_getElem? (i := 186) rfl) rfl
theorem mw_667 : (Jvm.Cond.selects "LeanSets" ({ cls := "LeanSets", name := "turns", desc := "()I" } : Jvm.MethodName) ({ cls := "LeanSets", name := "turns", desc := "()I" } : Jvm.MethodName)) ∈ gx_G := gx_3 (List.mem_of_getElem? (i := 187) rfl) rfl
theorem mw_668 : (Jvm.Cond.code ({ cls := "LeanSets", name := "turns", desc := "()I" } : Jvm.MethodName) prog_1_method_13_code (1 : Nat) (Option.some Jvm.ClassFile.FieldType.int)) ∈ gx_G := gx_3 (List.mem_of_getElem? (i := 188) rfl) rfl
theorem mw_669 : (Jvm.Cond.methodLink "LeanSetsLaw" (112 : Nat) ({ cls := "LeanSetsLaw", name := "turn", desc := "(LLeanSets;II[J)I" } : Jvm.MethodName)) ∈ gx_G := gx_3 (List.mem_of_getElem? (i := 189) rfl) rfl
theorem mw_670 : (Jvm.Cond.static ({ cls := "LeanSetsLaw", name := "turn", desc := "(LLeanSets;II[J)I" } : Jvm.MethodName)) ∈ gx_G := gx_3 (List.mem_of_getElem? (i := 190) rfl) rfl
theorem mw_671 : (Jvm.Cond.codeWith ({ cls := "LeanSetsLaw", name := "turn", desc := "(LLeanSets;II[J)I" } : Jvm.MethodName) method_12_code (5 : Nat) (Option.some Jvm.ClassFile.FieldType.int) [((0 : Nat), (10 : Nat), (13 : Nat), (13 : Nat)), ((0 : Nat), (10 : Nat), (17 : Nat), (28 : Nat)), ((0 : Nat), (10 : Nat), (21 : Nat), (15 : Nat))]) ∈ gx_G := gx_3 (List.mem_of_getElem? (i := 191) rfl) rfl
theorem mw_672 : (Jvm.Cond.methodLink "LeanSetsLaw" (47 : Nat) ({ cls := "LeanSets", name := "turn", desc := "(II)I" } : Jvm.MethodName)) ∈ gx_G := gx_3 (List.mem_of_getElem? (i := 192) rfl) rfl
theorem mw_673 : (Jvm.Cond.instanceMethod ({ cls := "LeanSets", name := "turn", desc := "(II)I" } : Jvm.MethodName)) ∈ gx_G := gx_3 (List.mem_of_getElem? (i := 193) rfl) rfl
theorem mw_674 : (Jvm.Cond.selects "LeanSets" ({ cls := "LeanSets", name := "turn", desc := "(II)I" } : Jvm.MethodName) ({ cls := "LeanSets", name := "turn", desc := "(II)I" } : Jvm.MethodName)) ∈ gx_G := gx_3 (List.mem_of_getElem? (i := 194) rfl) rfl
theorem mw_675 : (Jvm.Cond.code ({ cls := "LeanSets", name := "turn", desc := "(II)I" } : Jvm.MethodName) prog_1_method_14_code (3 : Nat) (Option.some Jvm.ClassFile.FieldType.int)) ∈ gx_G := gx_3 (List.mem_of_getElem? (i := 195) rfl) rfl
theorem mw_676 : (Jvm.Cond.methodLink "LeanSetsLaw" (116 : Nat) ({ cls := "LeanSetsLaw", name := "point", desc := "(LLeanSets;II[J)I" } : Jvm.MethodName)) ∈ gx_G := gx_3 (List.mem_of_getElem? (i := 196) rfl) rfl
theorem mw_677 : (Jvm.Cond.static ({ cls := "LeanSetsLaw", name := "point", desc := "(LLeanSets;II[J)I" } : Jvm.MethodName)) ∈ gx_G := gx_3 (List.mem_of_getElem? (i := 197) rfl) rfl
theorem mw_678 : (Jvm.Cond.codeWith ({ cls := "LeanSetsLaw", name := "point", desc := "(LLeanSets;II[J)I" } : Jvm.MethodName) method_13_code (5 : Nat) (Option.some Jvm.ClassFile.FieldType.int) [((0 : Nat), (10 : Nat), (13 : Nat), (13 : Nat)), ((0 : Nat), (10 : Nat), (17 : Nat), (28 : Nat)), ((0 : Nat), (10 : Nat), (21 : Nat), (15 : Nat))]) ∈ gx_G := gx_3 (List.mem_of_getElem? (i := 198) rfl) rfl
theorem mw_679 : (Jvm.Cond.methodLink "LeanSetsLaw" (51 : Nat) ({ cls := "LeanSets", name := "point", desc := "(II)I" } : Jvm.MethodName)) ∈ gx_G := gx_3 (List.mem_of_getElem? (i := 199) rfl) rfl
theorem mw_680 : (Jvm.Cond.instanceMethod ({ cls := "LeanSets", name := "point", desc := "(II)I" } : Jvm.MethodName)) ∈ gx_G := gx_3 (List.mem_of_getElem? (i := 200) rfl) rfl
theorem mw_681 : (Jvm.Cond.selects "LeanSets" ({ cls := "LeanSets", name := "point", desc := "(II)I" } : Jvm.MethodName) ({ cls := "LeanSets", name := "point", desc := "(II)I" } : Jvm.MethodName)) ∈ gx_G := gx_3 (List.mem_of_getElem? (i := 201) rfl) rfl
theorem mw_682 : (Jvm.Cond.code ({ cls := "LeanSets", name := "point", desc := "(II)I" } : Jvm.MethodName) prog_1_method_15_code (4 : Nat) (Option.some Jvm.ClassFile.FieldType.int)) ∈ gx_G := gx_3 (List.mem_of_getElem? (i := 202) rfl) rfl
theorem mw_683 : (Jvm.Cond.methodLink "LeanSetsLaw" (119 : Nat) ({ cls := "LeanSetsLaw", name := "check", desc := "(LLeanSets;[J)I" } : Jvm.MethodName)) ∈ gx_G := gx_3 (List.mem_of_getElem? (i := 203) rfl) rfl
theorem mw_684 : (Jvm.Cond.static ({ cls := "LeanSetsLaw", name := "check", desc := "(LLeanSets;[J)I" } : Jvm.MethodName)) ∈ gx_G := gx_3 (List.mem_of_getElem? (i := 204) rfl) rfl
theorem mw_685 : (Jvm.Cond.codeWith ({ cls := "LeanSetsLaw", name := "check", desc := "(LLeanSets;[J)I" } : Jvm.MethodName) method_14_code (3 : Nat) (Option.some Jvm.ClassFile.FieldType.int) [((0 : Nat), (8 : Nat), (11 : Nat), (13 : Nat))]) ∈ gx_G := gx_3 (List.mem_of_getElem? (i := 205) rfl) rfl
theorem mw_686 : (Jvm.Cond.methodLink "LeanSetsLaw" (54 : Nat) ({ cls := "LeanSets", name := "check", desc := "()I" } : Jvm.MethodName)) ∈ gx_G := gx_3 (List.mem_of_getElem? (i := 206) rfl) rfl
theorem mw_687 : (Jvm.Cond.instanceMethod ({ cls := "LeanSets", name := "check", desc := "()I" } : Jvm.MethodName)) ∈ gx_G := gx_3 (List.mem_of_getElem? (i := 207) rfl) rfl
theorem mw_688 : (Jvm.Cond.selects "LeanSets" ({ cls := "LeanSets", name := "check", desc := "()I" } : Jvm.MethodName) ({ cls := "LeanSets", name := "check", desc := "()I" } : Jvm.MethodName)) ∈ gx_G := gx_3 (List.mem_of_getElem? (i := 208) rfl) rfl
theorem mw_689 : (Jvm.Cond.code ({ cls := "LeanSets", name := "check", desc := "()I" } : Jvm.MethodName) prog_1_method_16_code (1 : Nat) (Option.some Jvm.ClassFile.FieldType.int)) ∈ gx_G := gx_3 (List.mem_of_getElem? (i := 209) rfl) rfl
theorem mw_690 : (Jvm.Cond.methodLink "LeanSets" (155 : Nat) ({ cls := "LeanSets$ChainCheck", name := "holds", desc := "(LLeanSets$SetTable;LLeanSets$Chain;)Z" } : Jvm.MethodName)) ∈ gx_G := gx_3 (List.mem_of_getElem? (i := 210) rfl) rfl
theorem mw_691 : (Jvm.Cond.instanceMethod ({ cls := "LeanSets$ChainCheck", name := "holds", desc := "(LLeanSets$SetTable;LLeanSets$Chain;)Z" } : Jvm.MethodName)) ∈ gx_G := gx_3 (List.mem_of_getElem? (i := 211) rfl) rfl
theorem mw_692 : (Jvm.Cond.selects "LeanSets$ChainCheck" ({ cls := "LeanSets$ChainCheck", name := "holds", desc := "(LLeanSets$SetTable;LLeanSets$Chain;)Z" } : Jvm.MethodName) ({ cls := "LeanSets$ChainCheck", name := "holds", desc := "(LLeanSets$SetTable;LLeanSets$Chain;)Z" } : Jvm.MethodName)) ∈ gx_G := gx_3 (List.mem_of_getElem? (i := 212) rfl) rfl
theorem mw_693 : (Jvm.Cond.code ({ cls := "LeanSets$ChainCheck", name := "holds", desc := "(LLeanSets$SetTable;LLeanSets$Chain;)Z" } : Jvm.MethodName) prog_3_method_2_code (3 : Nat) (Option.some Jvm.ClassFile.FieldType.boolean)) ∈ gx_G := gx_3 (List.mem_of_getElem? (i := 213) rfl) rfl
theorem mw_694 : (Jvm.Cond.methodLink "LeanSets$ChainCheck" (33 : Nat) ({ cls := "LeanSets$ChainCheck", name := "makeWhole", desc := "(LLeanSets$Chain;I)V" } : Jvm.MethodName)) ∈ gx_G := gx_3 (List.mem_of_getElem? (i := 214) rfl) rfl
theorem mw_696 : (Jvm.Cond.instanceMethod ({ cls := "LeanSets$ChainCheck", name := "makeWhole", desc := "(LLeanSets$Chain;I)V" } : Jvm.MethodName)) ∈ gx_G := gx_3 (List.mem_of_getElem? (i := 216) rfl) rfl
theorem mw_697 : (Jvm.Cond.code ({ cls := "LeanSets$ChainCheck", name := "makeWhole", desc := "(LLeanSets$Chain;I)V" } : Jvm.MethodName) prog_3_method_3_code (5 : Nat) (Option.none : Option Jvm.ClassFile.FieldType)) ∈ gx_G := gx_3 (List.mem_of_getElem? (i := 217) rfl) rfl
theorem mw_699 : (Jvm.Cond.methodLink "LeanSets$ChainCheck" (71 : Nat) ({ cls := "java/lang/Math", name := "max", desc := "(JJ)J" } : Jvm.MethodName)) ∈ gx_G := gx_3 (List.mem_of_getElem? (i := 219) rfl) rfl
theorem mw_700 : (Jvm.Cond.methodLink "LeanSets$ChainCheck" (37 : Nat) ({ cls := "LeanSets$ChainCheck", name := "makeExtremes", desc := "(LLeanSets$SetTable;)V" } : Jvm.MethodName)) ∈ gx_G := gx_3 (List.mem_of_getElem? (i := 220) rfl) rfl
theorem mw_702 : (Jvm.Cond.instanceMethod ({ cls := "LeanSets$ChainCheck", name := "makeExtremes", desc := "(LLeanSets$SetTable;)V" } : Jvm.MethodName)) ∈ gx_G := gx_3 (List.mem_of_getElem? (i := 222) rfl) rfl
theorem mw_703 : (Jvm.Cond.code ({ cls := "LeanSets$ChainCheck", name := "makeExtremes", desc := "(LLeanSets$SetTable;)V" } : Jvm.MethodName) prog_3_method_5_code (5 : Nat) (Option.none : Option Jvm.ClassFile.FieldType)) ∈ gx_G := gx_3 (List.mem_of_getElem? (i := 223) rfl) rfl
theorem mw_704 : (Jvm.Cond.methodLink "LeanSets$ChainCheck" (97 : Nat) ({ cls := "LeanSets$ChainCheck", name := "sortByPoint", desc := "(I)V" } : Jvm.MethodName)) ∈ gx_G := gx_3 (List.mem_of_getElem? (i := 224) rfl) rfl
theorem mw_706 : (Jvm.Cond.instanceMethod ({ cls := "LeanSets$ChainCheck", name := "sortByPoint", desc := "(I)V" } : Jvm.MethodName)) ∈ gx_G := gx_3 (List.mem_of_getElem? (i := 226) rfl) rfl
theorem mw_707 : (Jvm.Cond.code ({ cls := "LeanSets$ChainCheck", name := "sortByPoint", desc := "(I)V" } : Jvm.MethodName) prog_3_method_6_code (4 : Nat) (Option.none : Option Jvm.ClassFile.FieldType)) ∈ gx_G := gx_3 (List.mem_of_getElem? (i := 227) rfl) rfl
theorem mw_708 : (Jvm.Cond.methodLink "LeanSets$ChainCheck" (101 : Nat) ({ cls := "LeanSets$SetTable", name := "gain", desc := "(II)J" } : Jvm.MethodName)) ∈ gx_G := gx_3 (List.mem_of_getElem? (i := 228) rfl) rfl
theorem mw_709 : (Jvm.Cond.methodLink "LeanSets$ChainCheck" (41 : Nat) ({ cls := "LeanSets$ChainCheck", name := "liesBelow", desc := "(LLeanSets$SetTable;)Z" } : Jvm.MethodName)) ∈ gx_G := gx_3 (List.mem_of_getElem? (i := 229) rfl) rfl
theorem mw_711 : (Jvm.Cond.instanceMethod ({ cls := "LeanSets$ChainCheck", name := "liesBelow", desc := "(LLeanSets$SetTable;)Z" } : Jvm.MethodName)) ∈ gx_G := gx_3 (List.mem_of_getElem? (i := 231) rfl) rfl
theorem mw_712 : (Jvm.Cond.code ({ cls := "LeanSets$ChainCheck", name := "liesBelow", desc := "(LLeanSets$SetTable;)Z" } : Jvm.MethodName) prog_3_method_4_code (3 : Nat) (Option.some Jvm.ClassFile.FieldType.boolean)) ∈ gx_G := gx_3 (List.mem_of_getElem? (i := 232) rfl) rfl
theorem mw_713 : (Jvm.Cond.methodLink "LeanSets$ChainCheck" (76 : Nat) ({ cls := "LeanSets$SetTable", name := "copy", desc := "(LLeanSets$SetTable;J)V" } : Jvm.MethodName)) ∈ gx_G := gx_3 (List.mem_of_getElem? (i := 233) rfl) rfl
theorem mw_714 : (Jvm.Cond.methodLink "LeanSets$ChainCheck" (80 : Nat) ({ cls := "LeanSets$SetTable", name := "add", desc := "(IIJ)V" } : Jvm.MethodName)) ∈ gx_G := gx_3 (List.mem_of_getElem? (i := 234) rfl) rfl
theorem mw_715 : (Jvm.Cond.methodLink "LeanSets$ChainCheck" (84 : Nat) ({ cls := "LeanSets$SetTable", name := "findLowest", desc := "(II)V" } : Jvm.MethodName)) ∈ gx_G := gx_3 (List.mem_of_getElem? (i := 235) rfl) rfl
theorem mw_716 : (Jvm.Cond.methodLink "LeanSets$ChainCheck" (45 : Nat) ({ cls := "LeanSets$ChainCheck", name := "hasSameSums", desc := "(LLeanSets$Chain;I)Z" } : Jvm.MethodName)) ∈ gx_G := gx_3 (List.mem_of_getElem? (i := 236) rfl) rfl
theorem mw_718 : (Jvm.Cond.instanceMethod ({ cls := "LeanSets$ChainCheck", name := "hasSameSums", desc := "(LLeanSets$Chain;I)Z" } : Jvm.MethodName)) ∈ gx_G := gx_3 (List.mem_of_getElem? (i := 238) rfl) rfl
theorem mw_719 : (Jvm.Cond.code ({ cls := "LeanSets$ChainCheck", name := "hasSameSums", desc := "(LLeanSets$Chain;I)Z" } : Jvm.MethodName) prog_3_method_7_code (8 : Nat) (Option.some Jvm.ClassFile.FieldType.boolean)) ∈ gx_G := gx_3 (List.mem_of_getElem? (i := 239) rfl) rfl
theorem mw_720 : (Jvm.Cond.methodLink "LeanSets$ChainCheck" (105 : Nat) ({ cls := "LeanSets$Chain", name := "comeIn", desc := "(I)I" } : Jvm.MethodName)) ∈ gx_G := gx_4 (List.mem_of_getElem? (i := 0) rfl) rfl
theorem mw_721 : (Jvm.Cond.instanceMethod ({ cls := "LeanSets$Chain", name := "comeIn", desc := "(I)I" } : Jvm.MethodName)) ∈ gx_G := gx_4 (List.mem_of_getElem? (i := 1) rfl) rfl
theorem mw_722 : (Jvm.Cond.selects "LeanSets$Chain" ({ cls := "LeanSets$Chain", name := "comeIn", desc := "(I)I" } : Jvm.MethodName) ({ cls := "LeanSets$Chain", name := "comeIn", desc := "(I)I" } : Jvm.MethodName)) ∈ gx_G := gx_4 (List.mem_of_getElem? (i := 2) rfl) rfl
theorem mw_723 : (Jvm.Cond.code ({ cls := "LeanSets$Chain", name := "comeIn", desc := "(I)I" } : Jvm.MethodName) prog_2_method_6_code (2 : Nat) (Option.some Jvm.ClassFile.FieldType.int)) ∈ gx_G := gx_4 (List.mem_of_getElem? (i := 3) rfl) rfl
theorem mw_724 : (Jvm.Cond.classLink "LeanSetsLaw" (58 : Nat) "LeanSetsModel") ∈ gx_G := gx_4 (List.mem_of_getElem? (i := 4) rfl) rfl
theorem mw_725 : (Jvm.Cond.instantiable "LeanSetsModel" (24 : Nat)) ∈ gx_G := gx_4 (List.mem_of_getElem? (i := 5) rfl) rfl
theorem mw_726 : (Jvm.Cond.methodLink "LeanSetsLaw" (60 : Nat) ({ cls := "LeanSetsModel", name := "<init>", desc := "()V" } : Jvm.MethodName)) ∈ gx_G := gx_4 (List.mem_of_getElem? (i := 6) rfl) rfl
theorem mw_727 : (Jvm.Cond.instanceMethod ({ cls := "LeanSetsModel", name := "<init>", desc := "()V" } : Jvm.MethodName)) ∈ gx_G := gx_4 (List.mem_of_getElem? (i := 7) rfl) rfl
theorem mw_728 : (Jvm.Cond.code ({ cls := "LeanSetsModel", name := "<init>", desc := "()V" } : Jvm.MethodName) prog_9_method_1_code (1 : Nat) (Option.none : Option Jvm.ClassFile.FieldType)) ∈ gx_G := gx_4 (List.mem_of_getElem? (i := 8) rfl) rfl
theorem mw_729 : (Jvm.Cond.methodLink "LeanSetsModel" (1 : Nat) ({ cls := "java/lang/Object", name := "<init>", desc := "()V" } : Jvm.MethodName)) ∈ gx_G := gx_4 (List.mem_of_getElem? (i := 9) rfl) rfl
theorem mw_730 : (Jvm.Cond.fieldLink "LeanSetsModel" (54 : Nat) "LeanSetsModel" "thrown" "I") ∈ gx_G := gx_4 (List.mem_of_getElem? (i := 10) rfl) rfl
theorem mw_731 : (Jvm.Cond.fieldLink "LeanSetsModel" (7 : Nat) "LeanSetsModel" "text" "[I") ∈ gx_G := gx_4 (List.mem_of_getElem? (i := 11) rfl) rfl
theorem mw_732 : (Jvm.Cond.fieldLink "LeanSetsModel" (57 : Nat) "LeanSetsModel" "length" "I") ∈ gx_G := gx_4 (List.mem_of_getElem? (i := 12) rfl) rfl
theorem mw_733 : (Jvm.Cond.fieldLink "LeanSetsModel" (13 : Nat) "LeanSetsModel" "wrong" "I") ∈ gx_G := gx_4 (List.mem_of_getElem? (i := 13) rfl) rfl
theorem mw_734 : (Jvm.Cond.fieldLink "LeanSetsModel" (17 : Nat) "LeanSetsModel" "kinds" "[I") ∈ gx_G := gx_4 (List.mem_of_getElem? (i := 14) rfl) rfl
theorem mw_735 : (Jvm.Cond.fieldLink "LeanSetsModel" (20 : Nat) "LeanSetsModel" "places" "[I") ∈ gx_G := gx_4 (List.mem_of_getElem? (i := 15) rfl) rfl
theorem mw_736 : (Jvm.Cond.fieldLink "LeanSetsModel" (23 : Nat) "LeanSetsModel" "numbers" "[I") ∈ gx_G := gx_4 (List.mem_of_getElem? (i := 16) rfl) rfl
theorem mw_737 : (Jvm.Cond.fieldLink "LeanSetsModel" (76 : Nat) "LeanSetsModel" "words" "I") ∈ gx_G := gx_4 (List.mem_of_getElem? (i := 17) rfl) rfl
theorem mw_738 : (Jvm.Cond.fieldLink "LeanSetsModel" (101 : Nat) "LeanSetsModel" "at" "I") ∈ gx_G := gx_4 (List.mem_of_getElem? (i := 18) rfl) rfl
theorem mw_739 : (Jvm.Cond.fieldLink "LeanSetsModel" (159 : Nat) "LeanSetsModel" "known" "Z") ∈ gx_G := gx_4 (List.mem_of_getElem? (i := 19) rfl) rfl
theorem mw_740 : (Jvm.Cond.fieldLink "LeanSetsModel" (163 : Nat) "LeanSetsModel" "n" "I") ∈ gx_G := gx_4 (List.mem_of_getElem? (i := 20) rfl) rfl
theorem mw_741 : (Jvm.Cond.fieldLink "LeanSetsModel" (26 : Nat) "LeanSetsModel" "many" "[I") ∈ gx_G := gx_4 (List.mem_of_getElem? (i := 21) rfl) rfl
theorem mw_742 : (Jvm.Cond.fieldLink "LeanSetsModel" (29 : Nat) "LeanSetsModel" "all" "[I") ∈ gx_G := gx_4 (List.mem_of_getElem? (i := 22) rfl) rfl
theorem mw_743 : (Jvm.Cond.fieldLink "LeanSetsModel" (127 : Nat) "LeanSetsModel" "draftSize" "I") ∈ gx_G := gx_4 (List.mem_of_getElem? (i := 23) rfl) rfl
theorem mw_744 : (Jvm.Cond.fieldLink "LeanSetsModel" (32 : Nat) "LeanSetsModel" "draftMany" "[I") ∈ gx_G := gx_4 (List.mem_of_getElem? (i := 24) rfl) rfl
theorem mw_745 : (Jvm.Cond.fieldLink "LeanSetsModel" (35 : Nat) "LeanSetsModel" "draft" "[I") ∈ gx_G := gx_4 (List.mem_of_getElem? (i := 25) rfl) rfl
theorem mw_746 : (Jvm.Cond.fieldLink "LeanSetsModel" (117 : Nat) "LeanSetsModel" "fault" "I") ∈ gx_G := gx_4 (List.mem_of_getElem? (i := 26) rfl) rfl
theorem mw_747 : (Jvm.Cond.fieldLink "LeanSetsModel" (120 : Nat) "LeanSetsModel" "faultPlace" "I") ∈ gx_G := gx_4 (List.mem_of_getElem? (i := 27) rfl) rfl
theorem mw_748 : (Jvm.Cond.fieldLink "LeanSetsModel" (38 : Nat) "LeanSetsModel" "vector" "[I") ∈ gx_G := gx_4 (List.mem_of_getElem? (i := 28) rfl) rfl
theorem mw_749 : (Jvm.Cond.fieldLink "LeanSetsModel" (41 : Nat) "LeanSetsModel" "heights" "[I") ∈ gx_G := gx_4 (List.mem_of_getElem? (i := 29) rfl) rfl
theorem mw_750 : (Jvm.Cond.fieldLink "LeanSetsModel" (180 : Nat) "LeanSetsModel" "turns" "I") ∈ gx_G := gx_4 (List.mem_of_getElem? (i := 30) rfl) rfl
theorem mw_751 : (Jvm.Cond.fieldLink "LeanSetsModel" (44 : Nat) "LeanSetsModel" "above" "[J") ∈ gx_G := gx_4 (List.mem_of_getElem? (i := 31) rfl) rfl
theorem mw_752 : (Jvm.Cond.fieldLink "LeanSetsModel" (48 : Nat) "LeanSetsModel" "below" "[J") ∈ gx_G := gx_4 (List.mem_of_getElem? (i := 32) rfl) rfl
theorem mw_753 : (Jvm.Cond.fieldLink "LeanSetsModel" (51 : Nat) "LeanSetsModel" "sets" "[I") ∈ gx_G := gx_4 (List.mem_of_getElem? (i := 33) rfl) rfl
theorem mw_754 : (Jvm.Cond.lays "LeanSetsModel" "LeanSetsModel" "thrown" "I") ∈ gx_G := gx_4 (List.mem_of_getElem? (i := 34) rfl) rfl
theorem mw_756 : (Jvm.Cond.laysFinal "LeanSetsModel" "LeanSetsModel" "text" "[I") ∈ gx_G := gx_4 (List.mem_of_getElem? (i := 36) rfl) rfl
theorem mw_758 : (Jvm.Cond.lays "LeanSetsModel" "LeanSetsModel" "length" "I") ∈ gx_G := gx_4 (List.mem_of_getElem? (i := 38) rfl) rfl
theorem mw_760 : (Jvm.Cond.lays "LeanSetsModel" "LeanSetsModel" "wrong" "I") ∈ gx_G := gx_4 (List.mem_of_getElem? (i := 40) rfl) rfl
theorem mw_762 : (Jvm.Cond.laysFinal "LeanSetsModel" "LeanSetsModel" "kinds" "[I") ∈ gx_G := gx_4 (List.mem_of_getElem? (i := 42) rfl) rfl
theorem mw_764 : (Jvm.Cond.laysFinal "LeanSetsModel" "LeanSetsModel" "places" "[I") ∈ gx_G := gx_4 (List.mem_of_getElem? (i := 44) rfl) rfl
theorem mw_766 : (Jvm.Cond.laysFinal "LeanSetsModel" "LeanSetsModel" "numbers" "[I") ∈ gx_G := gx_4 (List.mem_of_getElem? (i := 46) rfl) rfl
theorem mw_768 : (Jvm.Cond.lays "LeanSetsModel" "LeanSetsModel" "words" "I") ∈ gx_G := gx_4 (List.mem_of_getElem? (i := 48) rfl) rfl
theorem mw_770 : (Jvm.Cond.lays "LeanSetsModel" "LeanSetsModel" "at" "I") ∈ gx_G := gx_4 (List.mem_of_getElem? (i := 50) rfl) rfl
theorem mw_772 : (Jvm.Cond.lays "LeanSetsModel" "LeanSetsModel" "known" "Z") ∈ gx_G := gx_4 (List.mem_of_getElem? (i := 52) rfl) rfl
theorem mw_774 : (Jvm.Cond.lays "LeanSetsModel" "LeanSetsModel" "n" "I") ∈ gx_G := gx_4 (List.mem_of_getElem? (i := 54) rfl) rfl
theorem mw_776 : (Jvm.Cond.laysFinal "LeanSetsModel" "LeanSetsModel" "many" "[I") ∈ gx_G := gx_4 (List.mem_of_getElem? (i := 56) rfl) rfl
theorem mw_778 : (Jvm.Cond.laysFinal "LeanSetsModel" "LeanSetsModel" "all" "[I") ∈ gx_G := gx_4 (List.mem_of_getElem? (i := 58) rfl) rfl
theorem mw_780 : (Jvm.Cond.lays "LeanSetsModel" "LeanSetsModel" "draftSize" "I") ∈ gx_G := gx_4 (List.mem_of_getElem? (i := 60) rfl) rfl
theorem mw_782 : (Jvm.Cond.laysFinal "LeanSetsModel" "LeanSetsModel" "draftMany" "[I") ∈ gx_G := gx_4 (List.mem_of_getElem? (i := 62) rfl) rfl
theorem mw_784 : (Jvm.Cond.laysFinal "LeanSetsModel" "LeanSetsModel" "draft" "[I") ∈ gx_G := gx_4 (List.mem_of_getElem? (i := 64) rfl) rfl
theorem mw_786 : (Jvm.Cond.lays "LeanSetsModel" "LeanSetsModel" "fault" "I") ∈ gx_G := gx_4 (List.mem_of_getElem? (i := 66) rfl) rfl
theorem mw_788 : (Jvm.Cond.lays "LeanSetsModel" "LeanSetsModel" "faultPlace" "I") ∈ gx_G := gx_4 (List.mem_of_getElem? (i := 68) rfl) rfl
theorem mw_790 : (Jvm.Cond.laysFinal "LeanSetsModel" "LeanSetsModel" "vector" "[I") ∈ gx_G := gx_4 (List.mem_of_getElem? (i := 70) rfl) rfl
theorem mw_792 : (Jvm.Cond.laysFinal "LeanSetsModel" "LeanSetsModel" "heights" "[I") ∈ gx_G := gx_4 (List.mem_of_getElem? (i := 72) rfl) rfl
theorem mw_794 : (Jvm.Cond.lays "LeanSetsModel" "LeanSetsModel" "turns" "I") ∈ gx_G := gx_4 (List.mem_of_getElem? (i := 74) rfl) rfl
theorem mw_796 : (Jvm.Cond.laysFinal "LeanSetsModel" "LeanSetsModel" "above" "[J") ∈ gx_G := gx_4 (List.mem_of_getElem? (i := 76) rfl) rfl
theorem mw_798 : (Jvm.Cond.laysFinal "LeanSetsModel" "LeanSetsModel" "below" "[J") ∈ gx_G := gx_4 (List.mem_of_getElem? (i := 78) rfl) rfl
theorem mw_800 : (Jvm.Cond.laysFinal "LeanSetsModel" "LeanSetsModel" "sets" "[I") ∈ gx_G := gx_4 (List.mem_of_getElem? (i := 80) rfl) rfl
theorem mw_803 : (Jvm.Cond.methodLink "LeanSetsLaw" (81 : Nat) ({ cls := "LeanSetsModel", name := "thrown", desc := "()I" } : Jvm.MethodName)) ∈ gx_G := gx_4 (List.mem_of_getElem? (i := 83) rfl) rfl
theorem mw_804 : (Jvm.Cond.instanceMethod ({ cls := "LeanSetsModel", name := "thrown", desc := "()I" } : Jvm.MethodName)) ∈ gx_G := gx_4 (List.mem_of_getElem? (i := 84) rfl) rfl
theorem mw_805 : (Jvm.Cond.selects "LeanSetsModel" ({ cls := "LeanSetsModel", name := "thrown", desc := "()I" } : Jvm.MethodName) ({ cls := "LeanSetsModel", name := "thrown", desc := "()I" } : Jvm.MethodName)) ∈ gx_G := gx_4 (List.mem_of_getElem? (i := 85) rfl) rfl
theorem mw_806 : (Jvm.Cond.code ({ cls := "LeanSetsModel", name := "thrown", desc := "()I" } : Jvm.MethodName) prog_9_method_2_code (1 : Nat) (Option.some Jvm.ClassFile.FieldType.int)) ∈ gx_G := gx_4 (List.mem_of_getElem? (i := 86) rfl) rfl
theorem mw_807 : (Jvm.Cond.methodLink "LeanSetsLaw" (66 : Nat) ({ cls := "LeanSetsModel", name := "type", desc := "(JI)I" } : Jvm.MethodName)) ∈ gx_G := gx_4 (List.mem_of_getElem? (i := 87) rfl) rfl
theorem mw_808 : (Jvm.Cond.instanceMethod ({ cls := "LeanSetsModel", name := "type", desc := "(JI)I" } : Jvm.MethodName)) ∈ gx_G := gx_4 (List.mem_of_getElem? (i := 88) rfl) rfl
theorem mw_809 : (Jvm.Cond.selects "LeanSetsModel" ({ cls := "LeanSetsModel", name := "type", desc := "(JI)I" } : Jvm.MethodName) ({ cls := "LeanSetsModel", name := "type", desc := "(JI)I" } : Jvm.MethodName)) ∈ gx_G := gx_4 (List.mem_of_getElem? (i := 89) rfl) rfl
theorem mw_810 : (Jvm.Cond.code ({ cls := "LeanSetsModel", name := "type", desc := "(JI)I" } : Jvm.MethodName) prog_9_method_3_code (8 : Nat) (Option.some Jvm.ClassFile.FieldType.int)) ∈ gx_G := gx_4 (List.mem_of_getElem? (i := 90) rfl) rfl
theorem mw_811 : (Jvm.Cond.constantLong "LeanSetsModel" (60 : Nat) (255 : Int64)) ∈ gx_G := gx_4 (List.mem_of_getElem? (i := 91) rfl) rfl
theorem mw_812 : (Jvm.Cond.constantLong "LeanSetsModel" (62 : Nat) (32 : Int64)) ∈ gx_G := gx_4 (List.mem_of_getElem? (i := 92) rfl) rfl
theorem mw_813 : (Jvm.Cond.constantLong "LeanSetsModel" (64 : Nat) (126 : Int64)) ∈ gx_G := gx_4 (List.mem_of_getElem? (i := 93) rfl) rfl
theorem mw_814 : (Jvm.Cond.methodLink "LeanSetsLaw" (70 : Nat) ({ cls := "LeanSetsModel", name := "read", desc := "()I" } : Jvm.MethodName)) ∈ gx_G := gx_4 (List.mem_of_getElem? (i := 94) rfl) rfl
theorem mw_815 : (Jvm.Cond.instanceMethod ({ cls := "LeanSetsModel", name := "read", desc := "()I" } : Jvm.MethodName)) ∈ gx_G := gx_4 (List.mem_of_getElem? (i := 95) rfl) rfl
theorem mw_816 : (Jvm.Cond.selects "LeanSetsModel" ({ cls := "LeanSetsModel", name := "read", desc := "()I" } : Jvm.MethodName) ({ cls := "LeanSetsModel", name := "read", desc := "()I" } : Jvm.MethodName)) ∈ gx_G := gx_4 (List.mem_of_getElem? (i := 96) rfl) rfl
theorem mw_817 : (Jvm.Cond.code ({ cls := "LeanSetsModel", name := "read", desc := "()I" } : Jvm.MethodName) prog_9_method_24_code (2 : Nat) (Option.some Jvm.ClassFile.FieldType.int)) ∈ gx_G := gx_4 (List.mem_of_getElem? (i := 97) rfl) rfl
theorem mw_818 : (Jvm.Cond.methodLink "LeanSetsModel" (150 : Nat) ({ cls := "LeanSetsModel", name := "cut", desc := "()V" } : Jvm.MethodName)) ∈ gx_G := gx_4 (List.mem_of_getElem? (i := 98) rfl) rfl
theorem mw_820 : (Jvm.Cond.instanceMethod ({ cls := "LeanSetsModel", name := "cut", desc := "()V" } : Jvm.MethodName)) ∈ gx_G := gx_4 (List.mem_of_getElem? (i := 100) rfl) rfl
theorem mw_821 : (Jvm.Cond.code ({ cls := "LeanSetsModel", name := "cut", desc := "()V" } : Jvm.MethodName) prog_9_method_10_code (7 : Nat) (Option.none : Option Jvm.ClassFile.FieldType)) ∈ gx_G := gx_4 (List.mem_of_getElem? (i := 101) rfl) rfl
theorem mw_822 : (Jvm.Cond.methodLink "LeanSetsModel" (79 : Nat) ({ cls := "LeanSetsModel", name := "signKind", desc := "(I)I" } : Jvm.MethodName)) ∈ gx_G := gx_4 (List.mem_of_getElem? (i := 102) rfl) rfl
theorem mw_823 : (Jvm.Cond.static ({ cls := "LeanSetsModel", name := "signKind", desc := "(I)I" } : Jvm.MethodName)) ∈ gx_G := gx_4 (List.mem_of_getElem? (i := 103) rfl) rfl
theorem mw_824 : (Jvm.Cond.code ({ cls := "LeanSetsModel", name := "signKind", desc := "(I)I" } : Jvm.MethodName) prog_9_method_9_code (1 : Nat) (Option.some Jvm.ClassFile.FieldType.int)) ∈ gx_G := gx_4 (List.mem_of_getElem? (i := 104) rfl) rfl
theorem mw_825 : (Jvm.Cond.methodLink "LeanSetsModel" (83 : Nat) ({ cls := "LeanSetsModel", name := "isLetter", desc := "(I)Z" } : Jvm.MethodName)) ∈ gx_G := gx_4 (List.mem_of_getElem? (i := 105) rfl) rfl
theorem mw_826 : (Jvm.Cond.static ({ cls := "LeanSetsModel", name := "isLetter", desc := "(I)Z" } : Jvm.MethodName)) ∈ gx_G := gx_4 (List.mem_of_getElem? (i := 106) rfl) rfl
theorem mw_827 : (Jvm.Cond.code ({ cls := "LeanSetsModel", name := "isLetter", desc := "(I)Z" } : Jvm.MethodName) prog_9_method_4_code (1 : Nat) (Option.some Jvm.ClassFile.FieldType.boolean)) ∈ gx_G := gx_4 (List.mem_of_getElem? (i := 107) rfl) rfl
theorem mw_828 : (Jvm.Cond.methodLink "LeanSetsModel" (87 : Nat) ({ cls := "LeanSetsModel", name := "letter", desc := "(I)I" } : Jvm.MethodName)) ∈ gx_G := gx_4 (List.mem_of_getElem? (i := 108) rfl) rfl
theorem mw_830 : (Jvm.Cond.instanceMethod ({ cls := "LeanSetsModel", name := "letter", desc := "(I)I" } : Jvm.MethodName)) ∈ gx_G := gx_4 (List.mem_of_getElem? (i := 110) rfl) rfl
theorem mw_831 : (Jvm.Cond.code ({ cls := "LeanSetsModel", name := "letter", desc := "(I)I" } : Jvm.MethodName) prog_9_method_6_code (2 : Nat) (Option.some Jvm.ClassFile.FieldType.int)) ∈ gx_G := gx_4 (List.mem_of_getElem? (i := 111) rfl) rfl
theorem mw_832 : (Jvm.Cond.methodLink "LeanSetsModel" (90 : Nat) ({ cls := "LeanSetsModel", name := "spelled", desc := "(II)J" } : Jvm.MethodName)) ∈ gx_G := gx_4 (List.mem_of_getElem? (i := 112) rfl) rfl
theorem mw_834 : (Jvm.Cond.instanceMethod ({ cls := "LeanSetsModel", name := "spelled", desc := "(II)J" } : Jvm.MethodName)) ∈ gx_G := gx_4 (List.mem_of_getElem? (i := 114) rfl) rfl
theorem mw_835 : (Jvm.Cond.code ({ cls := "LeanSetsModel", name := "spelled", desc := "(II)J" } : Jvm.MethodName) prog_9_method_7_code (6 : Nat) (Option.some Jvm.ClassFile.FieldType.long)) ∈ gx_G := gx_4 (List.mem_of_getElem? (i := 115) rfl) rfl
theorem mw_836 : (Jvm.Cond.constantLong "LeanSetsModel" (66 : Nat) (128 : Int64)) ∈ gx_G := gx_4 (List.mem_of_getElem? (i := 116) rfl) rfl
theorem mw_837 : (Jvm.Cond.methodLink "LeanSetsModel" (94 : Nat) ({ cls := "LeanSetsModel", name := "nameKind", desc := "(J)I" } : Jvm.MethodName)) ∈ gx_G := gx_4 (List.mem_of_getElem? (i := 117) rfl) rfl
theorem mw_838 : (Jvm.Cond.static ({ cls := "LeanSetsModel", name := "nameKind", desc := "(J)I" } : Jvm.MethodName)) ∈ gx_G := gx_4 (List.mem_of_getElem? (i := 118) rfl) rfl
theorem mw_839 : (Jvm.Cond.code ({ cls := "LeanSetsModel", name := "nameKind", desc := "(J)I" } : Jvm.MethodName) prog_9_method_8_code (2 : Nat) (Option.some Jvm.ClassFile.FieldType.int)) ∈ gx_G := gx_4 (List.mem_of_getElem? (i := 119) rfl) rfl
theorem mw_840 : (Jvm.Cond.constantLong "LeanSetsModel" (68 : Nat) (242908517 : Int64)) ∈ gx_G := gx_4 (List.mem_of_getElem? (i := 120) rfl) rfl
theorem mw_841 : (Jvm.Cond.constantLong "LeanSetsModel" (70 : Nat) (4116142748788 : Int64)) ∈ gx_G := gx_4 (List.mem_of_getElem? (i := 121) rfl) rfl
theorem mw_842 : (Jvm.Cond.constantLong "LeanSetsModel" (72 : Nat) (1603939 : Int64)) ∈ gx_G := gx_4 (List.mem_of_getElem? (i := 122) rfl) rfl
theorem mw_843 : (Jvm.Cond.constantLong "LeanSetsModel" (74 : Nat) (26822359909 : Int64)) ∈ gx_G := gx_4 (List.mem_of_getElem? (i := 123) rfl) rfl
theorem mw_844 : (Jvm.Cond.methodLink "LeanSetsModel" (98 : Nat) ({ cls := "LeanSetsModel", name := "isDigit", desc := "(I)Z" } : Jvm.MethodName)) ∈ gx_G := gx_4 (List.mem_of_getElem? (i := 124) rfl) rfl
theorem mw_845 : (Jvm.Cond.static ({ cls := "LeanSetsModel", name := "isDigit", desc := "(I)Z" } : Jvm.MethodName)) ∈ gx_G := gx_4 (List.mem_of_getElem? (i := 125) rfl) rfl
theorem mw_846 : (Jvm.Cond.code ({ cls := "LeanSetsModel", name := "isDigit", desc := "(I)Z" } : Jvm.MethodName) prog_9_method_5_code (1 : Nat) (Option.some Jvm.ClassFile.FieldType.boolean)) ∈ gx_G := gx_4 (List.mem_of_getElem? (i := 126) rfl) rfl
theorem mw_847 : (Jvm.Cond.methodLink "LeanSetsModel" (153 : Nat) ({ cls := "LeanSetsModel", name := "isText", desc := "()Z" } : Jvm.MethodName)) ∈ gx_G := gx_4 (List.mem_of_getElem? (i := 127) rfl) rfl
theorem mw_849 : (Jvm.Cond.instanceMethod ({ cls := "LeanSetsModel", name := "isText", desc := "()Z" } : Jvm.MethodName)) ∈ gx_G := gx_4 (List.mem_of_getElem? (i := 129) rfl) rfl
theorem mw_850 : (Jvm.Cond.code ({ cls := "LeanSetsModel", name := "isText", desc := "()Z" } : Jvm.MethodName) prog_9_method_15_code (2 : Nat) (Option.some Jvm.ClassFile.FieldType.boolean)) ∈ gx_G := gx_4 (List.mem_of_getElem? (i := 130) rfl) rfl
theorem mw_851 : (Jvm.Cond.methodLink "LeanSetsModel" (104 : Nat) ({ cls := "LeanSetsModel", name := "is", desc := "(I)Z" } : Jvm.MethodName)) ∈ gx_G := gx_4 (List.mem_of_getElem? (i := 131) rfl) rfl
theorem mw_853 : (Jvm.Cond.instanceMethod ({ cls := "LeanSetsModel", name := "is", desc := "(I)Z" } : Jvm.MethodName)) ∈ gx_G := gx_4 (List.mem_of_getElem? (i := 133) rfl) rfl
theorem mw_854 : (Jvm.Cond.code ({ cls := "LeanSetsModel", name := "is", desc := "(I)Z" } : Jvm.MethodName) prog_9_method_11_code (3 : Nat) (Option.some Jvm.ClassFile.FieldType.boolean)) ∈ gx_G := gx_4 (List.mem_of_getElem? (i := 134) rfl) rfl
theorem mw_855 : (Jvm.Cond.methodLink "LeanSetsModel" (114 : Nat) ({ cls := "LeanSetsModel", name := "isTerm", desc := "()Z" } : Jvm.MethodName)) ∈ gx_G := gx_4 (List.mem_of_getElem? (i := 135) rfl) rfl
theorem mw_857 : (Jvm.Cond.instanceMethod ({ cls := "LeanSetsModel", name := "isTerm", desc := "()Z" } : Jvm.MethodName)) ∈ gx_G := gx_4 (List.mem_of_getElem? (i := 137) rfl) rfl
theorem mw_858 : (Jvm.Cond.code ({ cls := "LeanSetsModel", name := "isTerm", desc := "()Z" } : Jvm.MethodName) prog_9_method_14_code (1 : Nat) (Option.some Jvm.ClassFile.FieldType.boolean)) ∈ gx_G := gx_4 (List.mem_of_getElem? (i := 138) rfl) rfl
theorem mw_859 : (Jvm.Cond.methodLink "LeanSetsModel" (107 : Nat) ({ cls := "LeanSetsModel", name := "isValue", desc := "()Z" } : Jvm.MethodName)) ∈ gx_G := gx_4 (List.mem_of_getElem? (i := 139) rfl) rfl
theorem mw_861 : (Jvm.Cond.instanceMethod ({ cls := "LeanSetsModel", name := "isValue", desc := "()Z" } : Jvm.MethodName)) ∈ gx_G := gx_4 (List.mem_of_getElem? (i := 141) rfl) rfl
theorem mw_862 : (Jvm.Cond.code ({ cls := "LeanSetsModel", name := "isValue", desc := "()Z" } : Jvm.MethodName) prog_9_method_12_code (2 : Nat) (Option.some Jvm.ClassFile.FieldType.boolean)) ∈ gx_G := gx_4 (List.mem_of_getElem? (i := 142) rfl) rfl
theorem mw_863 : (Jvm.Cond.methodLink "LeanSetsModel" (111 : Nat) ({ cls := "LeanSetsModel", name := "isCurve", desc := "()Z" } : Jvm.MethodName)) ∈ gx_G := gx_4 (List.mem_of_getElem? (i := 143) rfl) rfl
theorem mw_865 : (Jvm.Cond.instanceMethod ({ cls := "LeanSetsModel", name := "isCurve", desc := "()Z" } : Jvm.MethodName)) ∈ gx_G := gx_4 (List.mem_of_getElem? (i := 145) rfl) rfl
theorem mw_866 : (Jvm.Cond.code ({ cls := "LeanSetsModel", name := "isCurve", desc := "()Z" } : Jvm.MethodName) prog_9_method_13_code (2 : Nat) (Option.some Jvm.ClassFile.FieldType.boolean)) ∈ gx_G := gx_4 (List.mem_of_getElem? (i := 146) rfl) rfl
theorem mw_867 : (Jvm.Cond.methodLink "LeanSetsModel" (156 : Nat) ({ cls := "LeanSetsModel", name := "build", desc := "()V" } : Jvm.MethodName)) ∈ gx_G := gx_4 (List.mem_of_getElem? (i := 147) rfl) rfl
theorem mw_869 : (Jvm.Cond.instanceMethod ({ cls := "LeanSetsModel", name := "build", desc := "()V" } : Jvm.MethodName)) ∈ gx_G := gx_4 (List.mem_of_getElem? (i := 149) rfl) rfl
theorem mw_870 : (Jvm.Cond.code ({ cls := "LeanSetsModel", name := "build", desc := "()V" } : Jvm.MethodName) prog_9_method_21_code (2 : Nat) (Option.none : Option Jvm.ClassFile.FieldType)) ∈ gx_G := gx_4 (List.mem_of_getElem? (i := 150) rfl) rfl
theorem mw_871 : (Jvm.Cond.methodLink "LeanSetsModel" (130 : Nat) ({ cls := "LeanSetsModel", name := "stop", desc := "(II)V" } : Jvm.MethodName)) ∈ gx_G := gx_4 (List.mem_of_getElem? (i := 151) rfl) rfl
theorem mw_873 : (Jvm.Cond.instanceMethod ({ cls := "LeanSetsModel", name := "stop", desc := "(II)V" } : Jvm.MethodName)) ∈ gx_G := gx_4 (List.mem_of_getElem? (i := 153) rfl) rfl
theorem mw_874 : (Jvm.Cond.code ({ cls := "LeanSetsModel", name := "stop", desc := "(II)V" } : Jvm.MethodName) prog_9_method_16_code (3 : Nat) (Option.none : Option Jvm.ClassFile.FieldType)) ∈ gx_G := gx_4 (List.mem_of_getElem? (i := 154) rfl) rfl
theorem mw_875 : (Jvm.Cond.methodLink "LeanSetsModel" (134 : Nat) ({ cls := "LeanSetsModel", name := "term", desc := "()V" } : Jvm.MethodName)) ∈ gx_G := gx_4 (List.mem_of_getElem? (i := 155) rfl) rfl
theorem mw_877 : (Jvm.Cond.instanceMethod ({ cls := "LeanSetsModel", name := "term", desc := "()V" } : Jvm.MethodName)) ∈ gx_G := gx_4 (List.mem_of_getElem? (i := 157) rfl) rfl
theorem mw_878 : (Jvm.Cond.code ({ cls := "LeanSetsModel", name := "term", desc := "()V" } : Jvm.MethodName) prog_9_method_22_code (8 : Nat) (Option.none : Option Jvm.ClassFile.FieldType)) ∈ gx_G := gx_4 (List.mem_of_getElem? (i := 158) rfl) rfl
theorem mw_879 : (Jvm.Cond.methodLink "LeanSetsModel" (137 : Nat) ({ cls := "LeanSetsModel", name := "curve", desc := "()V" } : Jvm.MethodName)) ∈ gx_G := gx_4 (List.mem_of_getElem? (i := 159) rfl) rfl
theorem mw_881 : (Jvm.Cond.instanceMethod ({ cls := "LeanSetsModel", name := "curve", desc := "()V" } : Jvm.MethodName)) ∈ gx_G := gx_4 (List.mem_of_getElem? (i := 161) rfl) rfl
theorem mw_882 : (Jvm.Cond.code ({ cls := "LeanSetsModel", name := "curve", desc := "()V" } : Jvm.MethodName) prog_9_method_23_code (6 : Nat) (Option.none : Option Jvm.ClassFile.FieldType)) ∈ gx_G := gx_4 (List.mem_of_getElem? (i := 162) rfl) rfl
theorem mw_883 : (Jvm.Cond.methodLink "LeanSetsModel" (123 : Nat) ({ cls := "LeanSetsModel", name := "has", desc := "(II)Z" } : Jvm.MethodName)) ∈ gx_G := gx_4 (List.mem_of_getElem? (i := 163) rfl) rfl
theorem mw_884 : (Jvm.Cond.static ({ cls := "LeanSetsModel", name := "has", desc := "(II)Z" } : Jvm.MethodName)) ∈ gx_G := gx_4 (List.mem_of_getElem? (i := 164) rfl) rfl
theorem mw_885 : (Jvm.Cond.code ({ cls := "LeanSetsModel", name := "has", desc := "(II)Z" } : Jvm.MethodName) prog_9_method_17_code (2 : Nat) (Option.some Jvm.ClassFile.FieldType.boolean)) ∈ gx_G := gx_4 (List.mem_of_getElem? (i := 165) rfl) rfl
theorem mw_886 : (Jvm.Cond.methodLink "LeanSetsModel" (140 : Nat) ({ cls := "LeanSetsModel", name := "element", desc := "()I" } : Jvm.MethodName)) ∈ gx_G := gx_4 (List.mem_of_getElem? (i := 166) rfl) rfl
theorem mw_888 : (Jvm.Cond.instanceMethod ({ cls := "LeanSetsModel", name := "element", desc := "()I" } : Jvm.MethodName)) ∈ gx_G := gx_4 (List.mem_of_getElem? (i := 168) rfl) rfl
theorem mw_889 : (Jvm.Cond.code ({ cls := "LeanSetsModel", name := "element", desc := "()I" } : Jvm.MethodName) prog_9_method_19_code (2 : Nat) (Option.some Jvm.ClassFile.FieldType.int)) ∈ gx_G := gx_4 (List.mem_of_getElem? (i := 169) rfl) rfl
theorem mw_890 : (Jvm.Cond.methodLink "LeanSetsModel" (147 : Nat) ({ cls := "LeanSetsModel", name := "sizeOf", desc := "(I)I" } : Jvm.MethodName)) ∈ gx_G := gx_4 (List.mem_of_getElem? (i := 170) rfl) rfl
theorem mw_891 : (Jvm.Cond.static ({ cls := "LeanSetsModel", name := "sizeOf", desc := "(I)I" } : Jvm.MethodName)) ∈ gx_G := gx_4 (List.mem_of_getElem? (i := 171) rfl) rfl
theorem mw_892 : (Jvm.Cond.code ({ cls := "LeanSetsModel", name := "sizeOf", desc := "(I)I" } : Jvm.MethodName) prog_9_method_18_code (3 : Nat) (Option.some Jvm.ClassFile.FieldType.int)) ∈ gx_G := gx_4 (List.mem_of_getElem? (i := 172) rfl) rfl
theorem mw_893 : (Jvm.Cond.methodLink "LeanSetsModel" (144 : Nat) ({ cls := "LeanSetsModel", name := "signed", desc := "()I" } : Jvm.MethodName)) ∈ gx_G := gx_4 (List.mem_of_getElem? (i := 173) rfl) rfl
theorem mw_895 : (Jvm.Cond.instanceMethod ({ cls := "LeanSetsModel", name := "signed", desc := "()I" } : Jvm.MethodName)) ∈ gx_G := gx_4 (List.mem_of_getElem? (i := 175) rfl) rfl
theorem mw_896 : (Jvm.Cond.code ({ cls := "LeanSetsModel", name := "signed", desc := "()I" } : Jvm.MethodName) prog_9_method_20_code (3 : Nat) (Option.some Jvm.ClassFile.FieldType.int)) ∈ gx_G := gx_4 (List.mem_of_getElem? (i := 176) rfl) rfl
theorem mw_897 : (Jvm.Cond.methodLink "LeanSetsLaw" (74 : Nat) ({ cls := "LeanSetsModel", name := "place", desc := "()I" } : Jvm.MethodName)) ∈ gx_G := gx_4 (List.mem_of_getElem? (i := 177) rfl) rfl
theorem mw_898 : (Jvm.Cond.instanceMethod ({ cls := "LeanSetsModel", name := "place", desc := "()I" } : Jvm.MethodName)) ∈ gx_G := gx_4 (List.mem_of_getElem? (i := 178) rfl) rfl
theorem mw_899 : (Jvm.Cond.selects "LeanSetsModel" ({ cls := "LeanSetsModel", name := "place", desc := "()I" } : Jvm.MethodName) ({ cls := "LeanSetsModel", name := "place", desc := "()I" } : Jvm.MethodName)) ∈ gx_G := gx_4 (List.mem_of_getElem? (i := 179) rfl) rfl
theorem mw_900 : (Jvm.Cond.code ({ cls := "LeanSetsModel", name := "place", desc := "()I" } : Jvm.MethodName) prog_9_method_25_code (1 : Nat) (Option.some Jvm.ClassFile.FieldType.int)) ∈ gx_G := gx_4 (List.mem_of_getElem? (i := 180) rfl) rfl
theorem mw_901 : (Jvm.Cond.methodLink "LeanSetsLaw" (80 : Nat) ({ cls := "LeanSetsModel", name := "count", desc := "(I)I" } : Jvm.MethodName)) ∈ gx_G := gx_4 (List.mem_of_getElem? (i := 181) rfl) rfl
theorem mw_902 : (Jvm.Cond.instanceMethod ({ cls := "LeanSetsModel", name := "count", desc := "(I)I" } : Jvm.MethodName)) ∈ gx_G := gx_4 (List.mem_of_getElem? (i := 182) rfl) rfl
theorem mw_903 : (Jvm.Cond.selects "LeanSetsModel" ({ cls := "LeanSetsModel", name := "count", desc := "(I)I" } : Jvm.MethodName) ({ cls := "LeanSetsModel", name := "count", desc := "(I)I" } : Jvm.MethodName)) ∈ gx_G := gx_4 (List.mem_of_getElem? (i := 183) rfl) rfl
theorem mw_904 : (Jvm.Cond.code ({ cls := "LeanSetsModel", name := "count", desc := "(I)I" } : Jvm.MethodName) prog_9_method_26_code (2 : Nat) (Option.some Jvm.ClassFile.FieldType.int)) ∈ gx_G := gx_4 (List.mem_of_getElem? (i := 184) rfl) rfl
theorem mw_905 : (Jvm.Cond.methodLink "LeanSetsLaw" (86 : Nat) ({ cls := "LeanSetsModel", name := "value", desc := "(I)I" } : Jvm.MethodName)) ∈ gx_G := gx_4 (List.mem_of_getElem? (i := 185) rfl) rfl
theorem mw_906 : (Jvm.Cond.instanceMethod ({ cls := "LeanSetsModel", name := "value", desc := "(I)I" } : Jvm.MethodName)) ∈ gx_G := gx_4 (List.mem_of_getElem? (i := 186) rfl) rfl
theorem mw_907 : (Jvm.Cond.selects "LeanSetsModel" ({ cls := "LeanSetsModel", name := "value", desc := "(I)I" } : Jvm.MethodName) ({ cls := "LeanSetsModel", name := "value", desc := "(I)I" } : Jvm.MethodName)) ∈ gx_G := gx_4 (List.mem_of_getElem? (i := 187) rfl) rfl
theorem mw_908 : (Jvm.Cond.code ({ cls := "LeanSetsModel", name := "value", desc := "(I)I" } : Jvm.MethodName) prog_9_method_28_code (2 : Nat) (Option.some Jvm.ClassFile.FieldType.int)) ∈ gx_G := gx_4 (List.mem_of_getElem? (i := 188) rfl) rfl
theorem mw_909 : (Jvm.Cond.methodLink "LeanSetsModel" (166 : Nat) ({ cls := "LeanSetsModel", name := "isSet", desc := "(I)Z" } : Jvm.MethodName)) ∈ gx_G := gx_4 (List.mem_of_getElem? (i := 189) rfl) rfl
theorem mw_911 : (Jvm.Cond.instanceMethod ({ cls := "LeanSetsModel", name := "isSet", desc := "(I)Z" } : Jvm.MethodName)) ∈ gx_G := gx_4 (List.mem_of_getElem? (i := 191) rfl) rfl
theorem mw_912 : (Jvm.Cond.code ({ cls := "LeanSetsModel", name := "isSet", desc := "(I)Z" } : Jvm.MethodName) prog_9_method_27_code (2 : Nat) (Option.some Jvm.ClassFile.FieldType.boolean)) ∈ gx_G := gx_4 (List.mem_of_getElem? (i := 192) rfl) rfl
theorem mw_913 : (Jvm.Cond.methodLink "LeanSetsLaw" (90 : Nat) ({ cls := "LeanSetsModel", name := "least", desc := "(III)I" } : Jvm.MethodName)) ∈ gx_G := gx_4 (List.mem_of_getElem? (i := 193) rfl) rfl
theorem mw_914 : (Jvm.Cond.instanceMethod ({ cls := "LeanSetsModel", name := "least", desc := "(III)I" } : Jvm.MethodName)) ∈ gx_G := gx_4 (List.mem_of_getElem? (i := 194) rfl) rfl
theorem mw_915 : (Jvm.Cond.selects "LeanSetsModel" ({ cls := "LeanSetsModel", name := "least", desc := "(III)I" } : Jvm.MethodName) ({ cls := "LeanSetsModel", name := "least", desc := "(III)I" } : Jvm.MethodName)) ∈ gx_G := gx_4 (List.mem_of_getElem? (i := 195) rfl) rfl
theorem mw_916 : (Jvm.Cond.code ({ cls := "LeanSetsModel", name := "least", desc := "(III)I" } : Jvm.MethodName) prog_9_method_30_code (4 : Nat) (Option.some Jvm.ClassFile.FieldType.int)) ∈ gx_G := gx_4 (List.mem_of_getElem? (i := 196) rfl) rfl
theorem mw_917 : (Jvm.Cond.methodLink "LeanSetsModel" (172 : Nat) ({ cls := "LeanSetsModel", name := "lean", desc := "(IIIZ)I" } : Jvm.MethodName)) ∈ gx_G := gx_4 (List.mem_of_getElem? (i := 197) rfl) rfl
theorem mw_919 : (Jvm.Cond.instanceMethod ({ cls := "LeanSetsModel", name := "lean", desc := "(IIIZ)I" } : Jvm.MethodName)) ∈ gx_G := gx_4 (List.mem_of_getElem? (i := 199) rfl) rfl
theorem mw_920 : (Jvm.Cond.code ({ cls := "LeanSetsModel", name := "lean", desc := "(IIIZ)I" } : Jvm.MethodName) prog_9_method_29_code (11 : Nat) (Option.some Jvm.ClassFile.FieldType.int)) ∈ gx_G := gx_4 (List.mem_of_getElem? (i := 200) rfl) rfl
theorem mw_921 : (Jvm.Cond.methodLink "LeanSetsModel" (169 : Nat) ({ cls := "LeanSetsModel", name := "sumOf", desc := "(I)I" } : Jvm.MethodName)) ∈ gx_G := gx_4 (List.mem_of_getElem? (i := 201) rfl) rfl
theorem mw_923 : (Jvm.Cond.instanceMethod ({ cls := "LeanSetsModel", name := "sumOf", desc := "(I)I" } : Jvm.MethodName)) ∈ gx_G := gx_4 (List.mem_of_getElem? (i := 203) rfl) rfl
theorem mw_924 : (Jvm.Cond.code ({ cls := "LeanSetsModel", name := "sumOf", desc := "(I)I" } : Jvm.MethodName) prog_9_method_33_code (4 : Nat) (Option.some Jvm.ClassFile.FieldType.int)) ∈ gx_G := gx_4 (List.mem_of_getElem? (i := 204) rfl) rfl
theorem mw_925 : (Jvm.Cond.methodLink "LeanSetsLaw" (94 : Nat) ({ cls := "LeanSetsModel", name := "extreme", desc := "(JI)I" } : Jvm.MethodName)) ∈ gx_G := gx_4 (List.mem_of_getElem? (i := 205) rfl) rfl
theorem mw_926 : (Jvm.Cond.instanceMethod ({ cls := "LeanSetsModel", name := "extreme", desc := "(JI)I" } : Jvm.MethodName)) ∈ gx_G := gx_4 (List.mem_of_getElem? (i := 206) rfl) rfl
theorem mw_927 : (Jvm.Cond.selects "LeanSetsModel" ({ cls := "LeanSetsModel", name := "extreme", desc := "(JI)I" } : Jvm.MethodName) ({ cls := "LeanSetsModel", name := "extreme", desc := "(JI)I" } : Jvm.MethodName)) ∈ gx_G := gx_4 (List.mem_of_getElem? (i := 207) rfl) rfl
theorem mw_928 : (Jvm.Cond.code ({ cls := "LeanSetsModel", name := "extreme", desc := "(JI)I" } : Jvm.MethodName) prog_9_method_31_code (9 : Nat) (Option.some Jvm.ClassFile.FieldType.int)) ∈ gx_G := gx_4 (List.mem_of_getElem? (i := 208) rfl) rfl
theorem mw_929 : (Jvm.Cond.constantLong "LeanSetsModel" (176 : Nat) (15 : Int64)) ∈ gx_G := gx_4 (List.mem_of_getElem? (i := 209) rfl) rfl
theorem mw_930 : (Jvm.Cond.methodLink "LeanSetsLaw" (98 : Nat) ({ cls := "LeanSetsModel", name := "tell", desc := "(II)V" } : Jvm.MethodName)) ∈ gx_G := gx_4 (List.mem_of_getElem? (i := 210) rfl) rfl
theorem mw_931 : (Jvm.Cond.instanceMethod ({ cls := "LeanSetsModel", name := "tell", desc := "(II)V" } : Jvm.MethodName)) ∈ gx_G := gx_4 (List.mem_of_getElem? (i := 211) rfl) rfl
theorem mw_932 : (Jvm.Cond.selects "LeanSetsModel" ({ cls := "LeanSetsModel", name := "tell", desc := "(II)V" } : Jvm.MethodName) ({ cls := "LeanSetsModel", name := "tell", desc := "(II)V" } : Jvm.MethodName)) ∈ gx_G := gx_4 (List.mem_of_getElem? (i := 212) rfl) rfl
theorem mw_933 : (Jvm.Cond.code ({ cls := "LeanSetsModel", name := "tell", desc := "(II)V" } : Jvm.MethodName) prog_9_method_32_code (3 : Nat) (Option.none : Option Jvm.ClassFile.FieldType)) ∈ gx_G := gx_4 (List.mem_of_getElem? (i := 213) rfl) rfl
theorem mw_934 : (Jvm.Cond.constant "LeanSetsModel" (178 : Nat) (-1000000 : Int32)) ∈ gx_G := gx_4 (List.mem_of_getElem? (i := 214) rfl) rfl
theorem mw_935 : (Jvm.Cond.constant "LeanSetsModel" (179 : Nat) (1000000 : Int32)) ∈ gx_G := gx_4 (List.mem_of_getElem? (i := 215) rfl) rfl
theorem mw_936 : (Jvm.Cond.methodLink "LeanSetsLaw" (102 : Nat) ({ cls := "LeanSetsModel", name := "surplus", desc := "()I" } : Jvm.MethodName)) ∈ gx_G := gx_4 (List.mem_of_getElem? (i := 216) rfl) rfl
theorem mw_937 : (Jvm.Cond.instanceMethod ({ cls := "LeanSetsModel", name := "surplus", desc := "()I" } : Jvm.MethodName)) ∈ gx_G := gx_4 (List.mem_of_getElem? (i := 217) rfl) rfl
theorem mw_938 : (Jvm.Cond.selects "LeanSetsModel" ({ cls := "LeanSetsModel", name := "surplus", desc := "()I" } : Jvm.MethodName) ({ cls := "LeanSetsModel", name := "surplus", desc := "()I" } : Jvm.MethodName)) ∈ gx_G := gx_4 (List.mem_of_getElem? (i := 218) rfl) rfl
theorem mw_939 : (Jvm.Cond.code ({ cls := "LeanSetsModel", name := "surplus", desc := "()I" } : Jvm.MethodName) prog_9_method_34_code (1 : Nat) (Option.some Jvm.ClassFile.FieldType.int)) ∈ gx_G := gx_4 (List.mem_of_getElem? (i := 219) rfl) rfl
theorem mw_940 : (Jvm.Cond.methodLink "LeanSetsLaw" (105 : Nat) ({ cls := "LeanSetsModel", name := "worst", desc := "(I)I" } : Jvm.MethodName)) ∈ gx_G := gx_4 (List.mem_of_getElem? (i := 220) rfl) rfl
theorem mw_941 : (Jvm.Cond.instanceMethod ({ cls := "LeanSetsModel", name := "worst", desc := "(I)I" } : Jvm.MethodName)) ∈ gx_G := gx_4 (List.mem_of_getElem? (i := 221) rfl) rfl
theorem mw_942 : (Jvm.Cond.selects "LeanSetsModel" ({ cls := "LeanSetsModel", name := "worst", desc := "(I)I" } : Jvm.MethodName) ({ cls := "LeanSetsModel", name := "worst", desc := "(I)I" } : Jvm.MethodName)) ∈ gx_G := gx_4 (List.mem_of_getElem? (i := 222) rfl) rfl
theorem mw_943 : (Jvm.Cond.code ({ cls := "LeanSetsModel", name := "worst", desc := "(I)I" } : Jvm.MethodName) prog_9_method_35_code (2 : Nat) (Option.some Jvm.ClassFile.FieldType.int)) ∈ gx_G := gx_4 (List.mem_of_getElem? (i := 223) rfl) rfl
theorem mw_944 : (Jvm.Cond.methodLink "LeanSetsLaw" (108 : Nat) ({ cls := "LeanSetsModel", name := "tight", desc := "(I)I" } : Jvm.MethodName)) ∈ gx_G := gx_4 (List.mem_of_getElem? (i := 224) rfl) rfl
theorem mw_945 : (Jvm.Cond.instanceMethod ({ cls := "LeanSetsModel", name := "tight", desc := "(I)I" } : Jvm.MethodName)) ∈ gx_G := gx_4 (List.mem_of_getElem? (i := 225) rfl) rfl
theorem mw_946 : (Jvm.Cond.selects "LeanSetsModel" ({ cls := "LeanSetsModel", name := "tight", desc := "(I)I" } : Jvm.MethodName) ({ cls := "LeanSetsModel", name := "tight", desc := "(I)I" } : Jvm.MethodName)) ∈ gx_G := gx_4 (List.mem_of_getElem? (i := 226) rfl) rfl
theorem mw_947 : (Jvm.Cond.code ({ cls := "LeanSetsModel", name := "tight", desc := "(I)I" } : Jvm.MethodName) prog_9_method_36_code (4 : Nat) (Option.some Jvm.ClassFile.FieldType.int)) ∈ gx_G := gx_4 (List.mem_of_getElem? (i := 227) rfl) rfl
theorem mw_948 : (Jvm.Cond.methodLink "LeanSetsLaw" (111 : Nat) ({ cls := "LeanSetsModel", name := "turns", desc := "()I" } : Jvm.MethodName)) ∈ gx_G := gx_4 (List.mem_of_getElem? (i := 228) rfl) rfl
theorem mw_949 : (Jvm.Cond.instanceMethod ({ cls := "LeanSetsModel", name := "turns", desc := "()I" } : Jvm.MethodName)) ∈ gx_G := gx_4 (List.mem_of_getElem? (i := 229) rfl) rfl
theorem mw_950 : (Jvm.Cond.selects "LeanSetsModel" ({ cls := "LeanSetsModel", name := "turns", desc := "()I" } : Jvm.MethodName) ({ cls := "LeanSetsModel", name := "turns", desc := "()I" } : Jvm.MethodName)) ∈ gx_G := gx_4 (List.mem_of_getElem? (i := 230) rfl) rfl
theorem mw_951 : (Jvm.Cond.code ({ cls := "LeanSetsModel", name := "turns", desc := "()I" } : Jvm.MethodName) prog_9_method_39_code (1 : Nat) (Option.some Jvm.ClassFile.FieldType.int)) ∈ gx_G := gx_4 (List.mem_of_getElem? (i := 231) rfl) rfl
theorem mw_952 : (Jvm.Cond.methodLink "LeanSetsModel" (189 : Nat) ({ cls := "LeanSetsModel", name := "findTurns", desc := "()V" } : Jvm.MethodName)) ∈ gx_G := gx_4 (List.mem_of_getElem? (i := 232) rfl) rfl
theorem mw_954 : (Jvm.Cond.instanceMethod ({ cls := "LeanSetsModel", name := "findTurns", desc := "()V" } : Jvm.MethodName)) ∈ gx_G := gx_4 (List.mem_of_getElem? (i := 234) rfl) rfl
theorem mw_955 : (Jvm.Cond.code ({ cls := "LeanSetsModel", name := "findTurns", desc := "()V" } : Jvm.MethodName) prog_9_method_38_code (14 : Nat) (Option.none : Option Jvm.ClassFile.FieldType)) ∈ gx_G := gx_4 (List.mem_of_getElem? (i := 235) rfl) rfl
theorem mw_956 : (Jvm.Cond.constantLong "LeanSetsModel" (183 : Nat) (-1 : Int64)) ∈ gx_G := gx_4 (List.mem_of_getElem? (i := 236) rfl) rfl
theorem mw_957 : (Jvm.Cond.methodLink "LeanSetsModel" (185 : Nat) ({ cls := "LeanSetsModel", name := "divisor", desc := "(JJ)J" } : Jvm.MethodName)) ∈ gx_G := gx_4 (List.mem_of_getElem? (i := 237) rfl) rfl
theorem mw_958 : (Jvm.Cond.static ({ cls := "LeanSetsModel", name := "divisor", desc := "(JJ)J" } : Jvm.MethodName)) ∈ gx_G := gx_4 (List.mem_of_getElem? (i := 238) rfl) rfl
theorem mw_959 : (Jvm.Cond.code ({ cls := "LeanSetsModel", name := "divisor", desc := "(JJ)J" } : Jvm.MethodName) prog_9_method_37_code (10 : Nat) (Option.some Jvm.ClassFile.FieldType.long)) ∈ gx_G := gx_4 (List.mem_of_getElem? (i := 239) rfl) rfl
theorem mw_960 : (Jvm.Cond.methodLink "LeanSetsLaw" (115 : Nat) ({ cls := "LeanSetsModel", name := "turn", desc := "(II)I" } : Jvm.MethodName)) ∈ gx_G := gx_5 (List.mem_of_getElem? (i := 0) rfl) rfl
theorem mw_961 : (Jvm.Cond.instanceMethod ({ cls := "LeanSetsModel", name := "turn", desc := "(II)I" } : Jvm.MethodName)) ∈ gx_G := gx_5 (List.mem_of_getElem? (i := 1) rfl) rfl
theorem mw_962 : (Jvm.Cond.selects "LeanSetsModel" ({ cls := "LeanSetsModel", name := "turn", desc := "(II)I" } : Jvm.MethodName) ({ cls := "LeanSetsModel", name := "turn", desc := "(II)I" } : Jvm.MethodName)) ∈ gx_G := gx_5 (List.mem_of_getElem? (i := 2) rfl) rfl
theorem mw_963 : (Jvm.Cond.code ({ cls := "LeanSetsModel", name := "turn", desc := "(II)I" } : Jvm.MethodName) prog_9_method_40_code (3 : Nat) (Option.some Jvm.ClassFile.FieldType.int)) ∈ gx_G := gx_5 (List.mem_of_getElem? (i := 3) rfl) rfl
theorem mw_964 : (Jvm.Cond.methodLink "LeanSetsLaw" (118 : Nat) ({ cls := "LeanSetsModel", name := "point", desc := "(II)I" } : Jvm.MethodName)) ∈ gx_G := gx_5 (List.mem_of_getElem? (i := 4) rfl) rfl
theorem mw_965 : (Jvm.Cond.instanceMethod ({ cls := "LeanSetsModel", name := "point", desc := "(II)I" } : Jvm.MethodName)) ∈ gx_G := gx_5 (List.mem_of_getElem? (i := 5) rfl) rfl
theorem mw_966 : (Jvm.Cond.selects "LeanSetsModel" ({ cls := "LeanSetsModel", name := "point", desc := "(II)I" } : Jvm.MethodName) ({ cls := "LeanSetsModel", name := "point", desc := "(II)I" } : Jvm.MethodName)) ∈ gx_G := gx_5 (List.mem_of_getElem? (i := 6) rfl) rfl
theorem mw_967 : (Jvm.Cond.code ({ cls := "LeanSetsModel", name := "point", desc := "(II)I" } : Jvm.MethodName) prog_9_method_41_code (4 : Nat) (Option.some Jvm.ClassFile.FieldType.int)) ∈ gx_G := gx_5 (List.mem_of_getElem? (i := 7) rfl) rfl
theorem mw_968 : (Jvm.Cond.methodLink "LeanSetsLaw" (121 : Nat) ({ cls := "LeanSetsModel", name := "check", desc := "()I" } : Jvm.MethodName)) ∈ gx_G := gx_5 (List.mem_of_getElem? (i := 8) rfl) rfl
theorem mw_969 : (Jvm.Cond.instanceMethod ({ cls := "LeanSetsModel", name := "check", desc := "()I" } : Jvm.MethodName)) ∈ gx_G := gx_5 (List.mem_of_getElem? (i := 9) rfl) rfl
theorem mw_970 : (Jvm.Cond.selects "LeanSetsModel" ({ cls := "LeanSetsModel", name := "check", desc := "()I" } : Jvm.MethodName) ({ cls := "LeanSetsModel", name := "check", desc := "()I" } : Jvm.MethodName)) ∈ gx_G := gx_5 (List.mem_of_getElem? (i := 10) rfl) rfl
theorem mw_971 : (Jvm.Cond.code ({ cls := "LeanSetsModel", name := "check", desc := "()I" } : Jvm.MethodName) prog_9_method_42_code (1 : Nat) (Option.some Jvm.ClassFile.FieldType.int)) ∈ gx_G := gx_5 (List.mem_of_getElem? (i := 11) rfl) rfl
theorem mw_972 : (Jvm.Cond.constantLong "LeanSetsLaw" (61 : Nat) (4294967295 : Int64)) ∈ gx_G := gx_5 (List.mem_of_getElem? (i := 12) rfl) rfl
theorem mw_974 : (Jvm.Cond.fieldLink "java/lang/String" (9 : Nat) "java/lang/String" "value" "[B") ∈ gx_G := gx_5 (List.mem_of_getElem? (i := 14) rfl) rfl
theorem mw_975 : (Jvm.Cond.fieldLink "java/lang/String" (15 : Nat) "java/lang/String" "coder" "B") ∈ gx_G := gx_5 (List.mem_of_getElem? (i := 15) rfl) rfl
theorem in_Ch : ∀ w ∈ u_ws "LeanSets$Chain" T_Ch 7, w ∈ gx_G := by
  intro w hw
  have hw : w ∈ [(Jvm.Cond.lays "LeanSets$Chain" "LeanSets$Chain" "length" "I"), (Jvm.Cond.laysFinal "LeanSets$Chain" "LeanSets$Chain" "above" "[J"), (Jvm.Cond.laysFinal "LeanSets$Chain" "LeanSets$Chain" "below" "[J"), (Jvm.Cond.laysFinal "LeanSets$Chain" "LeanSets$Chain" "sets" "[I"), (Jvm.Cond.laysFinal "LeanSets$Chain" "LeanSets$Chain" "turnOf" "[I"), (Jvm.Cond.laysFinal "LeanSets$Chain" "LeanSets$Chain" "lowestOf" "[J"), (Jvm.Cond.laysFinal "LeanSets$Chain" "LeanSets$Chain" "setOf" "[I")] := hw
  simp only [List.mem_cons, List.not_mem_nil, or_false] at hw
  rcases hw with rfl | rfl | rfl | rfl | rfl | rfl | rfl
  · exact mw_181
  · exact mw_183
  · exact mw_185
  · exact mw_187
  · exact mw_189
  · exact mw_191
  · exact mw_193
theorem in_Cc : ∀ w ∈ u_ws "LeanSets$ChainCheck" T_Cc 5, w ∈ gx_G := by
  intro w hw
  have hw : w ∈ [(Jvm.Cond.laysFinal "LeanSets$ChainCheck" "LeanSets$ChainCheck" "gaps" "LLeanSets$SetTable;"), (Jvm.Cond.laysFinal "LeanSets$ChainCheck" "LeanSets$ChainCheck" "whole" "[J"), (Jvm.Cond.laysFinal "LeanSets$ChainCheck" "LeanSets$ChainCheck" "extremes" "[J"), (Jvm.Cond.laysFinal "LeanSets$ChainCheck" "LeanSets$ChainCheck" "order" "[I"), (Jvm.Cond.lays "LeanSets$ChainCheck" "LeanSets$ChainCheck" "times" "J")] := hw
  simp only [List.mem_cons, List.not_mem_nil, or_false] at hw
  rcases hw with rfl | rfl | rfl | rfl | rfl
  · exact mw_209
  · exact mw_211
  · exact mw_213
  · exact mw_215
  · exact mw_217
theorem in_St : ∀ w ∈ u_ws "LeanSets$SetTable" T_St 6, w ∈ gx_G := by
  intro w hw
  have hw : w ∈ [(Jvm.Cond.laysFinal "LeanSets$SetTable" "LeanSets$SetTable" "values" "[J"), (Jvm.Cond.lays "LeanSets$SetTable" "LeanSets$SetTable" "size" "I"), (Jvm.Cond.lays "LeanSets$SetTable" "LeanSets$SetTable" "sets" "I"), (Jvm.Cond.lays "LeanSets$SetTable" "LeanSets$SetTable" "lowest" "J"), (Jvm.Cond.lays "LeanSets$SetTable" "LeanSets$SetTable" "meet" "I"), (Jvm.Cond.lays "LeanSets$SetTable" "LeanSets$SetTable" "join" "I")] := hw
  simp only [List.mem_cons, List.not_mem_nil, or_false] at hw
  rcases hw with rfl | rfl | rfl | rfl | rfl | rfl
  · exact mw_145
  · exact mw_147
  · exact mw_149
  · exact mw_151
  · exact mw_153
  · exact mw_155
theorem in_Te : ∀ w ∈ u_ws "LeanSets$Terms" T_Te 6, w ∈ gx_G := by
  intro w hw
  have hw : w ∈ [(Jvm.Cond.lays "LeanSets$Terms" "LeanSets$Terms" "size" "I"), (Jvm.Cond.lays "LeanSets$Terms" "LeanSets$Terms" "length" "I"), (Jvm.Cond.laysFinal "LeanSets$Terms" "LeanSets$Terms" "kinds" "[I"), (Jvm.Cond.laysFinal "LeanSets$Terms" "LeanSets$Terms" "ins" "[I"), (Jvm.Cond.laysFinal "LeanSets$Terms" "LeanSets$Terms" "outs" "[I"), (Jvm.Cond.laysFinal "LeanSets$Terms" "LeanSets$Terms" "values" "[I")] := hw
  simp only [List.mem_cons, List.not_mem_nil, or_false] at hw
  rcases hw with rfl | rfl | rfl | rfl | rfl | rfl
  · exact mw_83
  · exact mw_85
  · exact mw_87
  · exact mw_89
  · exact mw_91
  · exact mw_93
theorem in_Tr : ∀ w ∈ u_ws "LeanSets$TextReader" T_Tr 7, w ∈ gx_G := by
  intro w hw
  have hw : w ∈ [(Jvm.Cond.laysFinal "LeanSets$TextReader" "LeanSets$TextReader" "words" "LLeanSets$Words;"), (Jvm.Cond.laysFinal "LeanSets$TextReader" "LeanSets$TextReader" "terms" "LLeanSets$Terms;"), (Jvm.Cond.lays "LeanSets$TextReader" "LeanSets$TextReader" "next" "I"), (Jvm.Cond.lays "LeanSets$TextReader" "LeanSets$TextReader" "takenPlace" "I"), (Jvm.Cond.lays "LeanSets$TextReader" "LeanSets$TextReader" "takenNumber" "I"), (Jvm.Cond.lays "LeanSets$TextReader" "LeanSets$TextReader" "fault" "I"), (Jvm.Cond.lays "LeanSets$TextReader" "LeanSets$TextReader" "faultPlace" "I")] := hw
  simp only [List.mem_cons, List.not_mem_nil, or_false] at hw
  rcases hw with rfl | rfl | rfl | rfl | rfl | rfl | rfl
  · exact mw_107
  · exact mw_109
  · exact mw_111
  · exact mw_113
  · exact mw_115
  · exact mw_117
  · exact mw_119
theorem in_Wo : ∀ w ∈ u_ws "LeanSets$Words" T_Wo 6, w ∈ gx_G := by
  intro w hw
  have hw : w ∈ [(Jvm.Cond.laysFinal "LeanSets$Words" "LeanSets$Words" "text" "[C"), (Jvm.Cond.lays "LeanSets$Words" "LeanSets$Words" "length" "I"), (Jvm.Cond.laysFinal "LeanSets$Words" "LeanSets$Words" "kinds" "[I"), (Jvm.Cond.laysFinal "LeanSets$Words" "LeanSets$Words" "places" "[I"), (Jvm.Cond.laysFinal "LeanSets$Words" "LeanSets$Words" "numbers" "[I"), (Jvm.Cond.lays "LeanSets$Words" "LeanSets$Words" "words" "I")] := hw
  simp only [List.mem_cons, List.not_mem_nil, or_false] at hw
  rcases hw with rfl | rfl | rfl | rfl | rfl | rfl
  · exact mw_51
  · exact mw_53
  · exact mw_55
  · exact mw_57
  · exact mw_59
  · exact mw_61
theorem in_Ls : ∀ w ∈ u_ws "LeanSets" T_Ls 8, w ∈ gx_G := by
  intro w hw
  have hw : w ∈ [(Jvm.Cond.laysFinal "LeanSets" "LeanSets" "reader" "LLeanSets$TextReader;"), (Jvm.Cond.laysFinal "LeanSets" "LeanSets" "function" "LLeanSets$SetTable;"), (Jvm.Cond.laysFinal "LeanSets" "LeanSets" "gaps" "LLeanSets$SetTable;"), (Jvm.Cond.laysFinal "LeanSets" "LeanSets" "chain" "LLeanSets$Chain;"), (Jvm.Cond.laysFinal "LeanSets" "LeanSets" "chainCheck" "LLeanSets$ChainCheck;"), (Jvm.Cond.laysFinal "LeanSets" "LeanSets" "vector" "[J"), (Jvm.Cond.laysFinal "LeanSets" "LeanSets" "counts" "[I"), (Jvm.Cond.lays "LeanSets" "LeanSets" "size" "I")] := hw
  simp only [List.mem_cons, List.not_mem_nil, or_false] at hw
  rcases hw with rfl | rfl | rfl | rfl | rfl | rfl | rfl | rfl
  · exact mw_228
  · exact mw_230
  · exact mw_232
  · exact mw_234
  · exact mw_236
  · exact mw_238
  · exact mw_240
  · exact mw_242
theorem in_Mo : ∀ w ∈ u_ws "LeanSetsModel" T_Mo 24, w ∈ gx_G := by
  intro w hw
  have hw : w ∈ [(Jvm.Cond.lays "LeanSetsModel" "LeanSetsModel" "thrown" "I"), (Jvm.Cond.laysFinal "LeanSetsModel" "LeanSetsModel" "text" "[I"), (Jvm.Cond.lays "LeanSetsModel" "LeanSetsModel" "length" "I"), (Jvm.Cond.lays "LeanSetsModel" "LeanSetsModel" "wrong" "I"), (Jvm.Cond.laysFinal "LeanSetsModel" "LeanSetsModel" "kinds" "[I"), (Jvm.Cond.laysFinal "LeanSetsModel" "LeanSetsModel" "places" "[I"), (Jvm.Cond.laysFinal "LeanSetsModel" "LeanSetsModel" "numbers" "[I"), (Jvm.Cond.lays "LeanSetsModel" "LeanSetsModel" "words" "I"), (Jvm.Cond.lays "LeanSetsModel" "LeanSetsModel" "at" "I"), (Jvm.Cond.lays "LeanSetsModel" "LeanSetsModel" "known" "Z"), (Jvm.Cond.lays "LeanSetsModel" "LeanSetsModel" "n" "I"), (Jvm.Cond.laysFinal "LeanSetsModel" "LeanSetsModel" "many" "[I"), (Jvm.Cond.laysFinal "LeanSetsModel" "LeanSetsModel" "all" "[I"), (Jvm.Cond.lays "LeanSetsModel" "LeanSetsModel" "draftSize" "I"), (Jvm.Cond.laysFinal "LeanSetsModel" "LeanSetsModel" "draftMany" "[I"), (Jvm.Cond.laysFinal "LeanSetsModel" "LeanSetsModel" "draft" "[I"), (Jvm.Cond.lays "LeanSetsModel" "LeanSetsModel" "fault" "I"), (Jvm.Cond.lays "LeanSetsModel" "LeanSetsModel" "faultPlace" "I"), (Jvm.Cond.laysFinal "LeanSetsModel" "LeanSetsModel" "vector" "[I"), (Jvm.Cond.laysFinal "LeanSetsModel" "LeanSetsModel" "heights" "[I"), (Jvm.Cond.lays "LeanSetsModel" "LeanSetsModel" "turns" "I"), (Jvm.Cond.laysFinal "LeanSetsModel" "LeanSetsModel" "above" "[J"), (Jvm.Cond.laysFinal "LeanSetsModel" "LeanSetsModel" "below" "[J"), (Jvm.Cond.laysFinal "LeanSetsModel" "LeanSetsModel" "sets" "[I")] := hw
  simp only [List.mem_cons, List.not_mem_nil, or_false] at hw
  rcases hw with rfl | rfl | rfl | rfl | rfl | rfl | rfl | rfl | rfl | rfl | rfl | rfl | rfl | rfl | rfl | rfl | rfl | rfl | rfl | rfl | rfl | rfl | rfl | rfl
  · exact mw_754
  · exact mw_756
  · exact mw_758
  · exact mw_760
  · exact mw_762
  · exact mw_764
  · exact mw_766
  · exact mw_768
  · exact mw_770
  · exact mw_772
  · exact mw_774
  · exact mw_776
  · exact mw_778
  · exact mw_780
  · exact mw_782
  · exact mw_784
  · exact mw_786
  · exact mw_788
  · exact mw_790
  · exact mw_792
  · exact mw_794
  · exact mw_796
  · exact mw_798
  · exact mw_800
theorem ms_Ls_needElement : Cond.selects "LeanSets" ({ cls := "LeanSets", name := "needElement", desc := "(I)V" } : Jvm.MethodName) ({ cls := "LeanSets", name := "needElement", desc := "(I)V" } : Jvm.MethodName) ∈ gx_G := gx_in (List.mem_append_left _ (List.mem_of_getElem? (i := 27) rfl)) rfl
theorem ms_Ls_needFunction : Cond.selects "LeanSets" ({ cls := "LeanSets", name := "needFunction", desc := "()V" } : Jvm.MethodName) ({ cls := "LeanSets", name := "needFunction", desc := "()V" } : Jvm.MethodName) ∈ gx_G := gx_in (List.mem_append_left _ (List.mem_of_getElem? (i := 24) rfl)) rfl
theorem ms_Ls_needSet : Cond.selects "LeanSets" ({ cls := "LeanSets", name := "needSet", desc := "(I)V" } : Jvm.MethodName) ({ cls := "LeanSets", name := "needSet", desc := "(I)V" } : Jvm.MethodName) ∈ gx_G := gx_in (List.mem_append_left _ (List.mem_of_getElem? (i := 26) rfl)) rfl
theorem ms_Ls_takeOver : Cond.selects "LeanSets" ({ cls := "LeanSets", name := "takeOver", desc := "(LLeanSets$Terms;)V" } : Jvm.MethodName) ({ cls := "LeanSets", name := "takeOver", desc := "(LLeanSets$Terms;)V" } : Jvm.MethodName) ∈ gx_G := gx_in (List.mem_append_left _ (List.mem_of_getElem? (i := 20) rfl)) rfl
theorem ms_Ch_findLowestOfEachSize : Cond.selects "LeanSets$Chain" ({ cls := "LeanSets$Chain", name := "findLowestOfEachSize", desc := "(LLeanSets$SetTable;)V" } : Jvm.MethodName) ({ cls := "LeanSets$Chain", name := "findLowestOfEachSize", desc := "(LLeanSets$SetTable;)V" } : Jvm.MethodName) ∈ gx_G := gx_in (List.mem_append_left _ (List.mem_of_getElem? (i := 21) rfl)) rfl
theorem ms_Ch_keepTurn : Cond.selects "LeanSets$Chain" ({ cls := "LeanSets$Chain", name := "keepTurn", desc := "(II)V" } : Jvm.MethodName) ({ cls := "LeanSets$Chain", name := "keepTurn", desc := "(II)V" } : Jvm.MethodName) ∈ gx_G := gx_in (List.mem_append_left _ (List.mem_of_getElem? (i := 23) rfl)) rfl
theorem ms_Ch_nextSize : Cond.selects "LeanSets$Chain" ({ cls := "LeanSets$Chain", name := "nextSize", desc := "(II)I" } : Jvm.MethodName) ({ cls := "LeanSets$Chain", name := "nextSize", desc := "(II)I" } : Jvm.MethodName) ∈ gx_G := gx_in (List.mem_append_left _ (List.mem_of_getElem? (i := 22) rfl)) rfl
theorem ms_Cc_hasSameSums : Cond.selects "LeanSets$ChainCheck" ({ cls := "LeanSets$ChainCheck", name := "hasSameSums", desc := "(LLeanSets$Chain;I)Z" } : Jvm.MethodName) ({ cls := "LeanSets$ChainCheck", name := "hasSameSums", desc := "(LLeanSets$Chain;I)Z" } : Jvm.MethodName) ∈ gx_G := gx_in (List.mem_append_left _ (List.mem_of_getElem? (i := 32) rfl)) rfl
theorem ms_Cc_liesBelow : Cond.selects "LeanSets$ChainCheck" ({ cls := "LeanSets$ChainCheck", name := "liesBelow", desc := "(LLeanSets$SetTable;)Z" } : Jvm.MethodName) ({ cls := "LeanSets$ChainCheck", name := "liesBelow", desc := "(LLeanSets$SetTable;)Z" } : Jvm.MethodName) ∈ gx_G := gx_in (List.mem_append_left _ (List.mem_of_getElem? (i := 31) rfl)) rfl
theorem ms_Cc_makeExtremes : Cond.selects "LeanSets$ChainCheck" ({ cls := "LeanSets$ChainCheck", name := "makeExtremes", desc := "(LLeanSets$SetTable;)V" } : Jvm.MethodName) ({ cls := "LeanSets$ChainCheck", name := "makeExtremes", desc := "(LLeanSets$SetTable;)V" } : Jvm.MethodName) ∈ gx_G := gx_in (List.mem_append_left _ (List.mem_of_getElem? (i := 29) rfl)) rfl
theorem ms_Cc_makeWhole : Cond.selects "LeanSets$ChainCheck" ({ cls := "LeanSets$ChainCheck", name := "makeWhole", desc := "(LLeanSets$Chain;I)V" } : Jvm.MethodName) ({ cls := "LeanSets$ChainCheck", name := "makeWhole", desc := "(LLeanSets$Chain;I)V" } : Jvm.MethodName) ∈ gx_G := gx_in (List.mem_append_left _ (List.mem_of_getElem? (i := 28) rfl)) rfl
theorem ms_Cc_sortByPoint : Cond.selects "LeanSets$ChainCheck" ({ cls := "LeanSets$ChainCheck", name := "sortByPoint", desc := "(I)V" } : Jvm.MethodName) ({ cls := "LeanSets$ChainCheck", name := "sortByPoint", desc := "(I)V" } : Jvm.MethodName) ∈ gx_G := gx_in (List.mem_append_left _ (List.mem_of_getElem? (i := 30) rfl)) rfl
theorem ms_Tr_aValueStands : Cond.selects "LeanSets$TextReader" ({ cls := "LeanSets$TextReader", name := "aValueStands", desc := "()Z" } : Jvm.MethodName) ({ cls := "LeanSets$TextReader", name := "aValueStands", desc := "()Z" } : Jvm.MethodName) ∈ gx_G := gx_in (List.mem_append_left _ (List.mem_of_getElem? (i := 19) rfl)) rfl
theorem ms_Tr_keepTerm : Cond.selects "LeanSets$TextReader" ({ cls := "LeanSets$TextReader", name := "keepTerm", desc := "(III)V" } : Jvm.MethodName) ({ cls := "LeanSets$TextReader", name := "keepTerm", desc := "(III)V" } : Jvm.MethodName) ∈ gx_G := gx_in (List.mem_append_left _ (List.mem_of_getElem? (i := 14) rfl)) rfl
theorem ms_Tr_keepValue : Cond.selects "LeanSets$TextReader" ({ cls := "LeanSets$TextReader", name := "keepValue", desc := "(I)V" } : Jvm.MethodName) ({ cls := "LeanSets$TextReader", name := "keepValue", desc := "(I)V" } : Jvm.MethodName) ∈ gx_G := gx_in (List.mem_append_left _ (List.mem_of_getElem? (i := 15) rfl)) rfl
theorem ms_Tr_note : Cond.selects "LeanSets$TextReader" ({ cls := "LeanSets$TextReader", name := "note", desc := "(II)V" } : Jvm.MethodName) ({ cls := "LeanSets$TextReader", name := "note", desc := "(II)V" } : Jvm.MethodName) ∈ gx_G := gx_in (List.mem_append_left _ (List.mem_of_getElem? (i := 8) rfl)) rfl
theorem ms_Tr_noteIf : Cond.selects "LeanSets$TextReader" ({ cls := "LeanSets$TextReader", name := "noteIf", desc := "(ZI)V" } : Jvm.MethodName) ({ cls := "LeanSets$TextReader", name := "noteIf", desc := "(ZI)V" } : Jvm.MethodName) ∈ gx_G := gx_in (List.mem_append_left _ (List.mem_of_getElem? (i := 12) rfl)) rfl
theorem ms_Tr_readArc : Cond.selects "LeanSets$TextReader" ({ cls := "LeanSets$TextReader", name := "readArc", desc := "()Z" } : Jvm.MethodName) ({ cls := "LeanSets$TextReader", name := "readArc", desc := "()Z" } : Jvm.MethodName) ∈ gx_G := gx_in (List.mem_append_left _ (List.mem_of_getElem? (i := 16) rfl)) rfl
theorem ms_Tr_readCurve : Cond.selects "LeanSets$TextReader" ({ cls := "LeanSets$TextReader", name := "readCurve", desc := "()Z" } : Jvm.MethodName) ({ cls := "LeanSets$TextReader", name := "readCurve", desc := "()Z" } : Jvm.MethodName) ∈ gx_G := gx_in (List.mem_append_left _ (List.mem_of_getElem? (i := 17) rfl)) rfl
theorem ms_Tr_readCurveValues : Cond.selects "LeanSets$TextReader" ({ cls := "LeanSets$TextReader", name := "readCurveValues", desc := "(I)Z" } : Jvm.MethodName) ({ cls := "LeanSets$TextReader", name := "readCurveValues", desc := "(I)Z" } : Jvm.MethodName) ∈ gx_G := gx_in (List.mem_append_left _ (List.mem_of_getElem? (i := 18) rfl)) rfl
theorem ms_Tr_readTerm : Cond.selects "LeanSets$TextReader" ({ cls := "LeanSets$TextReader", name := "readTerm", desc := "()Z" } : Jvm.MethodName) ({ cls := "LeanSets$TextReader", name := "readTerm", desc := "()Z" } : Jvm.MethodName) ∈ gx_G := gx_in (List.mem_append_left _ (List.mem_of_getElem? (i := 9) rfl)) rfl
theorem ms_Tr_readWeight : Cond.selects "LeanSets$TextReader" ({ cls := "LeanSets$TextReader", name := "readWeight", desc := "()Z" } : Jvm.MethodName) ({ cls := "LeanSets$TextReader", name := "readWeight", desc := "()Z" } : Jvm.MethodName) ∈ gx_G := gx_in (List.mem_append_left _ (List.mem_of_getElem? (i := 10) rfl)) rfl
theorem ms_Tr_take : Cond.selects "LeanSets$TextReader" ({ cls := "LeanSets$TextReader", name := "take", desc := "(I)Z" } : Jvm.MethodName) ({ cls := "LeanSets$TextReader", name := "take", desc := "(I)Z" } : Jvm.MethodName) ∈ gx_G := gx_in (List.mem_append_left _ (List.mem_of_getElem? (i := 7) rfl)) rfl
theorem ms_Tr_takeValue : Cond.selects "LeanSets$TextReader" ({ cls := "LeanSets$TextReader", name := "takeValue", desc := "()Z" } : Jvm.MethodName) ({ cls := "LeanSets$TextReader", name := "takeValue", desc := "()Z" } : Jvm.MethodName) ∈ gx_G := gx_in (List.mem_append_left _ (List.mem_of_getElem? (i := 13) rfl)) rfl
theorem ms_Tr_takenElement : Cond.selects "LeanSets$TextReader" ({ cls := "LeanSets$TextReader", name := "takenElement", desc := "()I" } : Jvm.MethodName) ({ cls := "LeanSets$TextReader", name := "takenElement", desc := "()I" } : Jvm.MethodName) ∈ gx_G := gx_in (List.mem_append_left _ (List.mem_of_getElem? (i := 11) rfl)) rfl
theorem ms_Wo_endOfWord : Cond.selects "LeanSets$Words" ({ cls := "LeanSets$Words", name := "endOfWord", desc := "(I)I" } : Jvm.MethodName) ({ cls := "LeanSets$Words", name := "endOfWord", desc := "(I)I" } : Jvm.MethodName) ∈ gx_G := gx_in (List.mem_append_left _ (List.mem_of_getElem? (i := 1) rfl)) rfl
theorem ms_Wo_firstBehindBlanks : Cond.selects "LeanSets$Words" ({ cls := "LeanSets$Words", name := "firstBehindBlanks", desc := "(I)I" } : Jvm.MethodName) ({ cls := "LeanSets$Words", name := "firstBehindBlanks", desc := "(I)I" } : Jvm.MethodName) ∈ gx_G := gx_in (List.mem_append_left _ (List.mem_of_getElem? (i := 0) rfl)) rfl
theorem ms_Wo_keep : Cond.selects "LeanSets$Words" ({ cls := "LeanSets$Words", name := "keep", desc := "(III)V" } : Jvm.MethodName) ({ cls := "LeanSets$Words", name := "keep", desc := "(III)V" } : Jvm.MethodName) ∈ gx_G := gx_in (List.mem_append_left _ (List.mem_of_getElem? (i := 5) rfl)) rfl
theorem ms_Wo_kindOf : Cond.selects "LeanSets$Words" ({ cls := "LeanSets$Words", name := "kindOf", desc := "(II)I" } : Jvm.MethodName) ({ cls := "LeanSets$Words", name := "kindOf", desc := "(II)I" } : Jvm.MethodName) ∈ gx_G := gx_in (List.mem_append_left _ (List.mem_of_getElem? (i := 2) rfl)) rfl
theorem ms_Wo_kindOfName : Cond.selects "LeanSets$Words" ({ cls := "LeanSets$Words", name := "kindOfName", desc := "(II)I" } : Jvm.MethodName) ({ cls := "LeanSets$Words", name := "kindOfName", desc := "(II)I" } : Jvm.MethodName) ∈ gx_G := gx_in (List.mem_append_left _ (List.mem_of_getElem? (i := 3) rfl)) rfl
theorem ms_Wo_numberOf : Cond.selects "LeanSets$Words" ({ cls := "LeanSets$Words", name := "numberOf", desc := "(II)I" } : Jvm.MethodName) ({ cls := "LeanSets$Words", name := "numberOf", desc := "(II)I" } : Jvm.MethodName) ∈ gx_G := gx_in (List.mem_append_left _ (List.mem_of_getElem? (i := 6) rfl)) rfl
theorem ms_Wo_spells : Cond.selects "LeanSets$Words" ({ cls := "LeanSets$Words", name := "spells", desc := "(Ljava/lang/String;II)Z" } : Jvm.MethodName) ({ cls := "LeanSets$Words", name := "spells", desc := "(Ljava/lang/String;II)Z" } : Jvm.MethodName) ∈ gx_G := gx_in (List.mem_append_left _ (List.mem_of_getElem? (i := 4) rfl)) rfl
theorem ms_Mo_build : Cond.selects "LeanSetsModel" ({ cls := "LeanSetsModel", name := "build", desc := "()V" } : Jvm.MethodName) ({ cls := "LeanSetsModel", name := "build", desc := "()V" } : Jvm.MethodName) ∈ gx_G := gx_in (List.mem_append_left _ (List.mem_of_getElem? (i := 41) rfl)) rfl
theorem ms_Mo_curve : Cond.selects "LeanSetsModel" ({ cls := "LeanSetsModel", name := "curve", desc := "()V" } : Jvm.MethodName) ({ cls := "LeanSetsModel", name := "curve", desc := "()V" } : Jvm.MethodName) ∈ gx_G := gx_in (List.mem_append_left _ (List.mem_of_getElem? (i := 44) rfl)) rfl
theorem ms_Mo_cut : Cond.selects "LeanSetsModel" ({ cls := "LeanSetsModel", name := "cut", desc := "()V" } : Jvm.MethodName) ({ cls := "LeanSetsModel", name := "cut", desc := "()V" } : Jvm.MethodName) ∈ gx_G := gx_in (List.mem_append_left _ (List.mem_of_getElem? (i := 33) rfl)) rfl
theorem ms_Mo_element : Cond.selects "LeanSetsModel" ({ cls := "LeanSetsModel", name := "element", desc := "()I" } : Jvm.MethodName) ({ cls := "LeanSetsModel", name := "element", desc := "()I" } : Jvm.MethodName) ∈ gx_G := gx_in (List.mem_append_left _ (List.mem_of_getElem? (i := 45) rfl)) rfl
theorem ms_Mo_findTurns : Cond.selects "LeanSetsModel" ({ cls := "LeanSetsModel", name := "findTurns", desc := "()V" } : Jvm.MethodName) ({ cls := "LeanSetsModel", name := "findTurns", desc := "()V" } : Jvm.MethodName) ∈ gx_G := gx_in (List.mem_append_left _ (List.mem_of_getElem? (i := 50) rfl)) rfl
theorem ms_Mo_is : Cond.selects "LeanSetsModel" ({ cls := "LeanSetsModel", name := "is", desc := "(I)Z" } : Jvm.MethodName) ({ cls := "LeanSetsModel", name := "is", desc := "(I)Z" } : Jvm.MethodName) ∈ gx_G := gx_in (List.mem_append_left _ (List.mem_of_getElem? (i := 37) rfl)) rfl
theorem ms_Mo_isCurve : Cond.selects "LeanSetsModel" ({ cls := "LeanSetsModel", name := "isCurve", desc := "()Z" } : Jvm.MethodName) ({ cls := "LeanSetsModel", name := "isCurve", desc := "()Z" } : Jvm.MethodName) ∈ gx_G := gx_in (List.mem_append_left _ (List.mem_of_getElem? (i := 40) rfl)) rfl
theorem ms_Mo_isSet : Cond.selects "LeanSetsModel" ({ cls := "LeanSetsModel", name := "isSet", desc := "(I)Z" } : Jvm.MethodName) ({ cls := "LeanSetsModel", name := "isSet", desc := "(I)Z" } : Jvm.MethodName) ∈ gx_G := gx_in (List.mem_append_left _ (List.mem_of_getElem? (i := 47) rfl)) rfl
theorem ms_Mo_isTerm : Cond.selects "LeanSetsModel" ({ cls := "LeanSetsModel", name := "isTerm", desc := "()Z" } : Jvm.MethodName) ({ cls := "LeanSetsModel", name := "isTerm", desc := "()Z" } : Jvm.MethodName) ∈ gx_G := gx_in (List.mem_append_left _ (List.mem_of_getElem? (i := 38) rfl)) rfl
theorem ms_Mo_isText : Cond.selects "LeanSetsModel" ({ cls := "LeanSetsModel", name := "isText", desc := "()Z" } : Jvm.MethodName) ({ cls := "LeanSetsModel", name := "isText", desc := "()Z" } : Jvm.MethodName) ∈ gx_G := gx_in (List.mem_append_left _ (List.mem_of_getElem? (i := 36) rfl)) rfl
theorem ms_Mo_isValue : Cond.selects "LeanSetsModel" ({ cls := "LeanSetsModel", name := "isValue", desc := "()Z" } : Jvm.MethodName) ({ cls := "LeanSetsModel", name := "isValue", desc := "()Z" } : Jvm.MethodName) ∈ gx_G := gx_in (List.mem_append_left _ (List.mem_of_getElem? (i := 39) rfl)) rfl
theorem ms_Mo_lean : Cond.selects "LeanSetsModel" ({ cls := "LeanSetsModel", name := "lean", desc := "(IIIZ)I" } : Jvm.MethodName) ({ cls := "LeanSetsModel", name := "lean", desc := "(IIIZ)I" } : Jvm.MethodName) ∈ gx_G := gx_in (List.mem_append_left _ (List.mem_of_getElem? (i := 48) rfl)) rfl
theorem ms_Mo_letter : Cond.selects "LeanSetsModel" ({ cls := "LeanSetsModel", name := "letter", desc := "(I)I" } : Jvm.MethodName) ({ cls := "LeanSetsModel", name := "letter", desc := "(I)I" } : Jvm.MethodName) ∈ gx_G := gx_in (List.mem_append_left _ (List.mem_of_getElem? (i := 34) rfl)) rfl
theorem ms_Mo_signed : Cond.selects "LeanSetsModel" ({ cls := "LeanSetsModel", name := "signed", desc := "()I" } : Jvm.MethodName) ({ cls := "LeanSetsModel", name := "signed", desc := "()I" } : Jvm.MethodName) ∈ gx_G := gx_in (List.mem_append_left _ (List.mem_of_getElem? (i := 46) rfl)) rfl
theorem ms_Mo_spelled : Cond.selects "LeanSetsModel" ({ cls := "LeanSetsModel", name := "spelled", desc := "(II)J" } : Jvm.MethodName) ({ cls := "LeanSetsModel", name := "spelled", desc := "(II)J" } : Jvm.MethodName) ∈ gx_G := gx_in (List.mem_append_left _ (List.mem_of_getElem? (i := 35) rfl)) rfl
theorem ms_Mo_stop : Cond.selects "LeanSetsModel" ({ cls := "LeanSetsModel", name := "stop", desc := "(II)V" } : Jvm.MethodName) ({ cls := "LeanSetsModel", name := "stop", desc := "(II)V" } : Jvm.MethodName) ∈ gx_G := gx_in (List.mem_append_left _ (List.mem_of_getElem? (i := 42) rfl)) rfl
theorem ms_Mo_sumOf : Cond.selects "LeanSetsModel" ({ cls := "LeanSetsModel", name := "sumOf", desc := "(I)I" } : Jvm.MethodName) ({ cls := "LeanSetsModel", name := "sumOf", desc := "(I)I" } : Jvm.MethodName) ∈ gx_G := gx_in (List.mem_append_left _ (List.mem_of_getElem? (i := 49) rfl)) rfl
theorem ms_Mo_term : Cond.selects "LeanSetsModel" ({ cls := "LeanSetsModel", name := "term", desc := "()V" } : Jvm.MethodName) ({ cls := "LeanSetsModel", name := "term", desc := "()V" } : Jvm.MethodName) ∈ gx_G := gx_in (List.mem_append_left _ (List.mem_of_getElem? (i := 43) rfl)) rfl
