
/-- the words that all methods' contracts rest on: those of the tables that hold at every later state too -/
def gx_G : List Cond := lw_tbl.filter goodWord
theorem gx_in {w : Cond} (h : w ∈ lw_tbl) (g : goodWord w = true) : w ∈ gx_G := List.mem_filter.mpr ⟨h, g⟩
theorem gx_t {w : Cond} (h : w ∈ tables_1) (g : goodWord w = true) : w ∈ gx_G := gx_in (List.mem_append_right _ h) g
theorem gx_1 {w : Cond} (h : w ∈ tables_1_1) (g : goodWord w = true) : w ∈ gx_G := gx_t (List.mem_append_left _ h) g
theorem gx_2 {w : Cond} (h : w ∈ tables_1_2) (g : goodWord w = true) : w ∈ gx_G := gx_t (List.mem_append_right _ (List.mem_append_left _ h)) g
theorem gx_3 {w : Cond} (h : w ∈ tables_1_3) (g : goodWord w = true) : w ∈ gx_G := gx_t (List.mem_append_right _ (List.mem_append_right _ (List.mem_append_left _ h))) g
theorem gx_4 {w : Cond} (h : w ∈ tables_1_4) (g : goodWord w = true) : w ∈ gx_G := gx_t (List.mem_append_right _ (List.mem_append_right _ (List.mem_append_right _ (List.mem_append_left _ h)))) g
theorem gx_5 {w : Cond} (h : w ∈ tables_1_5) (g : goodWord w = true) : w ∈ gx_G := gx_t (List.mem_append_right _ (List.mem_append_right _ (List.mem_append_right _ (List.mem_append_right _ h)))) g
theorem gx_sel {q : MethodName × Nat} (h : Cond.selects q.1.cls q.1 q.1 ∈ k2_sels lw_privs) (g : goodWord (Cond.selects q.1.cls q.1 q.1) = true) : Cond.selects q.1.cls q.1 q.1 ∈ gx_G := gx_in (List.mem_append_left _ h) g
theorem gx_gw {w : Cond} (h : w ∈ gx_G) : goodWord w = true := (List.mem_filter.mp h).2
/-- among the words of a method: any of gx_G -/
theorem gx_good {big : List Cond} {c : Cond} (hb : ∀ w ∈ gx_G, w ∈ big) (h : c ∈ gx_G) : GoodIn big (c :: gx_G) := fun w hw => (List.mem_cons.mp hw).elim (fun e => by subst e; exact ⟨hb _ h, good_of_word (gx_gw h)⟩) (fun h9 => ⟨hb w h9, good_of_word (gx_gw h9)⟩)
theorem gx_goodL {big ws : List Cond} (hb : ∀ w ∈ gx_G, w ∈ big) (h : ∀ w ∈ ws, w ∈ gx_G) : GoodIn big ws := fun w hw => ⟨hb _ (h w hw), good_of_word (gx_gw (h w hw))⟩
section GXC
variable {R : Room} {s : State} {args : Array Value} {ws' : List Cond} {bytes : ByteArray} {maxL index mc ms : Nat} {own C : String} {y : MethodName} {ret : Option FieldType} {rm : Room}
theorem gx_cwV (n : Nat) (ht : ∀ w ∈ gx_G, w.before args s = true) (h1 : Cond.methodLink own index y ∈ gx_G) (h2 : Cond.instanceMethod y ∈ gx_G) (h3 : Cond.selects C y y ∈ gx_G) (h4 : Cond.initialized C ∈ gx_G) (h5 : Cond.code y bytes maxL ret ∈ gx_G)
    (hd : y.cls = C ∧ y.cls ≠ "java/lang/invoke/MethodHandle" ∧ y.cls ≠ "java/lang/invoke/VarHandle" ∧ (parseMethodDescriptor y.desc).map (fun d => d.parameters.length) = some n) (hR : rm.frames + 1 ≤ R.frames ∧ 8 + (maxL + 11) + rm.locals ≤ R.locals) :
    CallW R s args own C index y bytes maxL ret (Cond.code y bytes maxL ret :: gx_G) rm rm.cells rm.slots n :=
  cwV n ht (fun w hw => by
    have k : w ∈ gx_G := by
      rcases List.mem_append.mp hw with h | h
      · simp only [List.mem_cons, List.not_mem_nil, or_false] at h
        rcases h with rfl | rfl | rfl | rfl
        · exact h1
        · exact h2
        · exact h3
        · exact h4
      · rcases List.mem_cons.mp h with rfl | h
        · exact h5
        · exact h
    exact ⟨k, good_of_word (gx_gw k)⟩) rfl rfl rfl hd hR
theorem gx_cwS (n : Nat) (ht : ∀ w ∈ gx_G, w.before args s = true) (h1 : Cond.methodLink own index y ∈ gx_G) (h2 : Cond.static y ∈ gx_G) (h4 : Cond.initialized y.cls ∈ gx_G) (h5 : Cond.code y bytes maxL ret ∈ gx_G)
    (hd : y.cls ≠ "java/lang/invoke/MethodHandle" ∧ y.cls ≠ "java/lang/invoke/VarHandle" ∧ (parseMethodDescriptor y.desc).map (fun d => d.parameters.length) = some n) (hR : rm.frames + 1 ≤ R.frames ∧ 8 + (maxL + 11) + rm.locals ≤ R.locals) :
    CallB R s args own index y bytes maxL ret (Cond.code y bytes maxL ret :: gx_G) rm rm.cells rm.slots n ∧ (Cond.static y).before args s = true :=
  ⟨callB_of n ht (gx_good (fun _ h => h) h5) rfl rfl rfl (ht _ h4) (ht _ h1) hd hR, ht _ h2⟩
end GXC
/-- what a walk of a method's body rests on -/
def gx_C (p : Program) (s : State) (m : MethodId) (meth : Method) (c : Code) (args : Array Value) (own : String) (cc : ByteArray) (nL : Nat) (ret : Option FieldType) : Prop :=
  p.tables.exec = Jvm.exec ∧ c.code = cc ∧ meth.sig.returnType = ret ∧ c.maxLocals = nL ∧ s.vm.findClass own = some m.cls ∧ meth.locks = false ∧ (∀ w ∈ gx_G, w.before args s = true)
abbrev gx_T (cI cJ cC : ClassId) : List (ClassId × FieldType) := [(cI, .int), (cJ, .long), (cC, .char)]
def T_Ch : u_T := fun k => match k with
  | 0 => ("LeanSets$Chain", "length", "I", false)
  | 1 => ("LeanSets$Chain", "above", "[J", true)
  | 2 => ("LeanSets$Chain", "below", "[J", true)
  | 3 => ("LeanSets$Chain", "sets", "[I", true)
  | 4 => ("LeanSets$Chain", "turnOf", "[I", true)
  | 5 => ("LeanSets$Chain", "lowestOf", "[J", true)
  | _ => ("LeanSets$Chain", "setOf", "[I", true)
def ty_Ch : Nat → FieldType := fun k => match k with
  | 0 => .int
  | 1 => .array .long
  | 2 => .array .long
  | 3 => .array .int
  | 4 => .array .int
  | 5 => .array .long
  | _ => .array .int
theorem nm_Ch : ∀ a, a < 7 → ∀ b, b < 7 → a ≠ b → (T_Ch a).2.1 ≠ (T_Ch b).2.1 := by decide +kernel
theorem ty_Ch_ok : ∀ k, k < 7 → parseFieldDescriptor (T_Ch k).2.2.1 = some (ty_Ch k) := by decide +kernel
def T_Cc : u_T := fun k => match k with
  | 0 => ("LeanSets$ChainCheck", "gaps", "LLeanSets$SetTable;", true)
  | 1 => ("LeanSets$ChainCheck", "whole", "[J", true)
  | 2 => ("LeanSets$ChainCheck", "extremes", "[J", true)
  | 3 => ("LeanSets$ChainCheck", "order", "[I", true)
  | _ => ("LeanSets$ChainCheck", "times", "J", false)
def ty_Cc : Nat → FieldType := fun k => match k with
  | 0 => .object "LeanSets$SetTable"
  | 1 => .array .long
  | 2 => .array .long
  | 3 => .array .int
  | _ => .long
theorem nm_Cc : ∀ a, a < 5 → ∀ b, b < 5 → a ≠ b → (T_Cc a).2.1 ≠ (T_Cc b).2.1 := by decide +kernel
theorem ty_Cc_ok : ∀ k, k < 5 → parseFieldDescriptor (T_Cc k).2.2.1 = some (ty_Cc k) := by decide +kernel
def T_St : u_T := fun k => match k with
  | 0 => ("LeanSets$SetTable", "values", "[J", true)
  | 1 => ("LeanSets$SetTable", "size", "I", false)
  | 2 => ("LeanSets$SetTable", "sets", "I", false)
  | 3 => ("LeanSets$SetTable", "lowest", "J", false)
  | 4 => ("LeanSets$SetTable", "meet", "I", false)
  | _ => ("LeanSets$SetTable", "join", "I", false)
def ty_St : Nat → FieldType := fun k => match k with
  | 0 => .array .long
  | 1 => .int
  | 2 => .int
  | 3 => .long
  | 4 => .int
  | _ => .int
theorem nm_St : ∀ a, a < 6 → ∀ b, b < 6 → a ≠ b → (T_St a).2.1 ≠ (T_St b).2.1 := by decide +kernel
theorem ty_St_ok : ∀ k, k < 6 → parseFieldDescriptor (T_St k).2.2.1 = some (ty_St k) := by decide +kernel
def T_Te : u_T := fun k => match k with
  | 0 => ("LeanSets$Terms", "size", "I", false)
  | 1 => ("LeanSets$Terms", "length", "I", false)
  | 2 => ("LeanSets$Terms", "kinds", "[I", true)
  | 3 => ("LeanSets$Terms", "ins", "[I", true)
  | 4 => ("LeanSets$Terms", "outs", "[I", true)
  | _ => ("LeanSets$Terms", "values", "[I", true)
def ty_Te : Nat → FieldType := fun k => match k with
  | 0 => .int
  | 1 => .int
  | 2 => .array .int
  | 3 => .array .int
  | 4 => .array .int
  | _ => .array .int
theorem nm_Te : ∀ a, a < 6 → ∀ b, b < 6 → a ≠ b → (T_Te a).2.1 ≠ (T_Te b).2.1 := by decide +kernel
theorem ty_Te_ok : ∀ k, k < 6 → parseFieldDescriptor (T_Te k).2.2.1 = some (ty_Te k) := by decide +kernel
def T_Tr : u_T := fun k => match k with
  | 0 => ("LeanSets$TextReader", "words", "LLeanSets$Words;", true)
  | 1 => ("LeanSets$TextReader", "terms", "LLeanSets$Terms;", true)
  | 2 => ("LeanSets$TextReader", "next", "I", false)
  | 3 => ("LeanSets$TextReader", "takenPlace", "I", false)
  | 4 => ("LeanSets$TextReader", "takenNumber", "I", false)
  | 5 => ("LeanSets$TextReader", "fault", "I", false)
  | _ => ("LeanSets$TextReader", "faultPlace", "I", false)
def ty_Tr : Nat → FieldType := fun k => match k with
  | 0 => .object "LeanSets$Words"
  | 1 => .object "LeanSets$Terms"
  | 2 => .int
  | 3 => .int
  | 4 => .int
  | 5 => .int
  | _ => .int
theorem nm_Tr : ∀ a, a < 7 → ∀ b, b < 7 → a ≠ b → (T_Tr a).2.1 ≠ (T_Tr b).2.1 := by decide +kernel
theorem ty_Tr_ok : ∀ k, k < 7 → parseFieldDescriptor (T_Tr k).2.2.1 = some (ty_Tr k) := by decide +kernel
def T_Wo : u_T := fun k => match k with
  | 0 => ("LeanSets$Words", "text", "[C", true)
  | 1 => ("LeanSets$Words", "length", "I", false)
  | 2 => ("LeanSets$Words", "kinds", "[I", true)
  | 3 => ("LeanSets$Words", "places", "[I", true)
  | 4 => ("LeanSets$Words", "numbers", "[I", true)
  | _ => ("LeanSets$Words", "words", "I", false)
def ty_Wo : Nat → FieldType := fun k => match k with
  | 0 => .array .char
  | 1 => .int
  | 2 => .array .int
  | 3 => .array .int
  | 4 => .array .int
  | _ => .int
theorem nm_Wo : ∀ a, a < 6 → ∀ b, b < 6 → a ≠ b → (T_Wo a).2.1 ≠ (T_Wo b).2.1 := by decide +kernel
theorem ty_Wo_ok : ∀ k, k < 6 → parseFieldDescriptor (T_Wo k).2.2.1 = some (ty_Wo k) := by decide +kernel
def T_Ls : u_T := fun k => match k with
  | 0 => ("LeanSets", "reader", "LLeanSets$TextReader;", true)
  | 1 => ("LeanSets", "function", "LLeanSets$SetTable;", true)
  | 2 => ("LeanSets", "gaps", "LLeanSets$SetTable;", true)
  | 3 => ("LeanSets", "chain", "LLeanSets$Chain;", true)
  | 4 => ("LeanSets", "chainCheck", "LLeanSets$ChainCheck;", true)
  | 5 => ("LeanSets", "vector", "[J", true)
  | 6 => ("LeanSets", "counts", "[I", true)
  | _ => ("LeanSets", "size", "I", false)
def ty_Ls : Nat → FieldType := fun k => match k with
  | 0 => .object "LeanSets$TextReader"
  | 1 => .object "LeanSets$SetTable"
  | 2 => .object "LeanSets$SetTable"
  | 3 => .object "LeanSets$Chain"
  | 4 => .object "LeanSets$ChainCheck"
  | 5 => .array .long
  | 6 => .array .int
  | _ => .int
theorem nm_Ls : ∀ a, a < 8 → ∀ b, b < 8 → a ≠ b → (T_Ls a).2.1 ≠ (T_Ls b).2.1 := by decide +kernel
theorem ty_Ls_ok : ∀ k, k < 8 → parseFieldDescriptor (T_Ls k).2.2.1 = some (ty_Ls k) := by decide +kernel
def T_Mo : u_T := fun k => match k with
  | 0 => ("LeanSetsModel", "thrown", "I", false)
  | 1 => ("LeanSetsModel", "text", "[I", true)
  | 2 => ("LeanSetsModel", "length", "I", false)
  | 3 => ("LeanSetsModel", "wrong", "I", false)
  | 4 => ("LeanSetsModel", "kinds", "[I", true)
  | 5 => ("LeanSetsModel", "places", "[I", true)
  | 6 => ("LeanSetsModel", "numbers", "[I", true)
  | 7 => ("LeanSetsModel", "words", "I", false)
  | 8 => ("LeanSetsModel", "at", "I", false)
  | 9 => ("LeanSetsModel", "known", "Z", false)
  | 10 => ("LeanSetsModel", "n", "I", false)
  | 11 => ("LeanSetsModel", "many", "[I", true)
  | 12 => ("LeanSetsModel", "all", "[I", true)
  | 13 => ("LeanSetsModel", "draftSize", "I", false)
  | 14 => ("LeanSetsModel", "draftMany", "[I", true)
  | 15 => ("LeanSetsModel", "draft", "[I", true)
  | 16 => ("LeanSetsModel", "fault", "I", false)
  | 17 => ("LeanSetsModel", "faultPlace", "I", false)
  | 18 => ("LeanSetsModel", "vector", "[I", true)
  | 19 => ("LeanSetsModel", "heights", "[I", true)
  | 20 => ("LeanSetsModel", "turns", "I", false)
  | 21 => ("LeanSetsModel", "above", "[J", true)
  | 22 => ("LeanSetsModel", "below", "[J", true)
  | _ => ("LeanSetsModel", "sets", "[I", true)
def ty_Mo : Nat → FieldType := fun k => match k with
  | 0 => .int
  | 1 => .array .int
  | 2 => .int
  | 3 => .int
  | 4 => .array .int
  | 5 => .array .int
  | 6 => .array .int
  | 7 => .int
  | 8 => .int
  | 9 => .boolean
  | 10 => .int
  | 11 => .array .int
  | 12 => .array .int
  | 13 => .int
  | 14 => .array .int
  | 15 => .array .int
  | 16 => .int
  | 17 => .int
  | 18 => .array .int
  | 19 => .array .int
  | 20 => .int
  | 21 => .array .long
  | 22 => .array .long
  | _ => .array .int
theorem nm_Mo : ∀ a, a < 24 → ∀ b, b < 24 → a ≠ b → (T_Mo a).2.1 ≠ (T_Mo b).2.1 := by decide +kernel
theorem ty_Mo_ok : ∀ k, k < 24 → parseFieldDescriptor (T_Mo k).2.2.1 = some (ty_Mo k) := by decide +kernel
abbrev classes : List vw_C := [("LeanSets$Chain", T_Ch, 7), ("LeanSets$ChainCheck", T_Cc, 5), ("LeanSets$SetTable", T_St, 6), ("LeanSets$Terms", T_Te, 6), ("LeanSets$TextReader", T_Tr, 7), ("LeanSets$Words", T_Wo, 6), ("LeanSets", T_Ls, 8), ("LeanSetsModel", T_Mo, 24)]
/-- links to private members of nest mates: they hold at every later state too, but by a law of their own -/
def gx_N : List Cond := [(Jvm.Cond.methodLinkNest "LeanSets" (9 : Nat) ({ cls := "LeanSets$TextReader", name := "<init>", desc := "()V" } : Jvm.MethodName) "LeanSets"), (Jvm.Cond.methodLinkNest "LeanSets$TextReader" (11 : Nat) ({ cls := "LeanSets$Words", name := "<init>", desc := "()V" } : Jvm.MethodName) "LeanSets"), (Jvm.Cond.methodLinkNest "LeanSets$TextReader" (20 : Nat) ({ cls := "LeanSets$Terms", name := "<init>", desc := "()V" } : Jvm.MethodName) "LeanSets"), (Jvm.Cond.methodLinkNest "LeanSets" (18 : Nat) ({ cls := "LeanSets$SetTable", name := "<init>", desc := "()V" } : Jvm.MethodName) "LeanSets"), (Jvm.Cond.methodLinkNest "LeanSets" (28 : Nat) ({ cls := "LeanSets$Chain", name := "<init>", desc := "()V" } : Jvm.MethodName) "LeanSets"), (Jvm.Cond.methodLinkNest "LeanSets" (35 : Nat) ({ cls := "LeanSets$ChainCheck", name := "<init>", desc := "()V" } : Jvm.MethodName) "LeanSets"), (Jvm.Cond.methodLinkNest "LeanSets$ChainCheck" (11 : Nat) ({ cls := "LeanSets$SetTable", name := "<init>", desc := "()V" } : Jvm.MethodName) "LeanSets"), (Jvm.Cond.methodLinkNest "LeanSets$Chain" (63 : Nat) ({ cls := "LeanSets", name := "commonDivisor", desc := "(JJ)J" } : Jvm.MethodName) "LeanSets"), (Jvm.Cond.methodLinkNest "LeanSets$ChainCheck" (61 : Nat) ({ cls := "LeanSets", name := "commonDivisor", desc := "(JJ)J" } : Jvm.MethodName) "LeanSets")]
def gx_K (dC : Nat → ClassId) (dI : Nat → Nat → Nat) (cI cJ cC : ClassId) (U : State) : Prop := va_K (dC, dI) classes (gx_T cI cJ cC) U ∧ ∀ w ∈ gx_N, va_Nw w U
theorem gx_N_form : ∀ w ∈ gx_N, ∃ a i x h, w = Cond.methodLinkNest a i x h := by
  intro w hw
  have hw : w ∈ [(Jvm.Cond.methodLinkNest "LeanSets" (9 : Nat) ({ cls := "LeanSets$TextReader", name := "<init>", desc := "()V" } : Jvm.MethodName) "LeanSets"), (Jvm.Cond.methodLinkNest "LeanSets$TextReader" (11 : Nat) ({ cls := "LeanSets$Words", name := "<init>", desc := "()V" } : Jvm.MethodName) "LeanSets"), (Jvm.Cond.methodLinkNest "LeanSets$TextReader" (20 : Nat) ({ cls := "LeanSets$Terms", name := "<init>", desc := "()V" } : Jvm.MethodName) "LeanSets"), (Jvm.Cond.methodLinkNest "LeanSets" (18 : Nat) ({ cls := "LeanSets$SetTable", name := "<init>", desc := "()V" } : Jvm.MethodName) "LeanSets"), (Jvm.Cond.methodLinkNest "LeanSets" (28 : Nat) ({ cls := "LeanSets$Chain", name := "<init>", desc := "()V" } : Jvm.MethodName) "LeanSets"), (Jvm.Cond.methodLinkNest "LeanSets" (35 : Nat) ({ cls := "LeanSets$ChainCheck", name := "<init>", desc := "()V" } : Jvm.MethodName) "LeanSets"), (Jvm.Cond.methodLinkNest "LeanSets$ChainCheck" (11 : Nat) ({ cls := "LeanSets$SetTable", name := "<init>", desc := "()V" } : Jvm.MethodName) "LeanSets"), (Jvm.Cond.methodLinkNest "LeanSets$Chain" (63 : Nat) ({ cls := "LeanSets", name := "commonDivisor", desc := "(JJ)J" } : Jvm.MethodName) "LeanSets"), (Jvm.Cond.methodLinkNest "LeanSets$ChainCheck" (61 : Nat) ({ cls := "LeanSets", name := "commonDivisor", desc := "(JJ)J" } : Jvm.MethodName) "LeanSets")] := hw
  simp only [List.mem_cons, List.not_mem_nil, or_false] at hw
  rcases hw with rfl | rfl | rfl | rfl | rfl | rfl | rfl | rfl | rfl <;> exact ⟨_, _, _, _, rfl⟩
theorem gx_K.moved {dC : Nat → ClassId} {dI : Nat → Nat → Nat} {cI cJ cC : ClassId} {s U : State} (hW : s.WarmedH U.vm) (h : gx_K dC dI cI cJ cC s) : gx_K dC dI cI cJ cC U := by
  refine ⟨va_K.moved hW.alike h.1, fun w hw => ?_⟩
  obtain ⟨a, i, x, q, rfl⟩ := gx_N_form w hw
  exact va_Nw.warmM hW (h.2 _ hw)
theorem gx_K.same {dC : Nat → ClassId} {dI : Nat → Nat → Nat} {cI cJ cC : ClassId} {u U : State} (hv : u.vm = U.vm) (h : gx_K dC dI cI cJ cC u) : gx_K dC dI cI cJ cC U := by
  refine ⟨va_K.moved (by rw [hv]; exact Vm.Alike.refl _) h.1, fun w hw => ?_⟩
  obtain ⟨a, i, x, q, rfl⟩ := gx_N_form w hw
  exact va_Nw.same rfl hv (h.2 _ hw)
section GXN
variable {R : Room} {s : State} {args : Array Value} {ws' : List Cond} {bytes : ByteArray} {maxL index mc ms : Nat} {own C host : String} {y : MethodName} {ret : Option FieldType} {rm : Room}
theorem gx_cnS (n : Nat) (ht : ∀ w ∈ gx_G, w.before args s = true) (h1 : va_Nw (.methodLinkNest own index y host) s) (h2 : Cond.static y ∈ gx_G) (h4 : Cond.initialized y.cls ∈ gx_G) (h5 : Cond.code y bytes maxL ret ∈ gx_G)
    (hd : y.cls ≠ "java/lang/invoke/MethodHandle" ∧ y.cls ≠ "java/lang/invoke/VarHandle" ∧ (parseMethodDescriptor y.desc).map (fun d => d.parameters.length) = some n) (hR : rm.frames + 1 ≤ R.frames ∧ 8 + (maxL + 11) + rm.locals ≤ R.locals) :
    va_CN R s args own index y host bytes maxL ret (Cond.code y bytes maxL ret :: gx_G) rm rm.cells rm.slots n ∧ (Cond.static y).before args s = true ∧ True :=
  ⟨va_cnB n ht (gx_good (fun _ h => h) h5) rfl rfl rfl h1 (ht _ h4) hd hR, ht _ h2, trivial⟩
theorem gx_cnI (n : Nat) (ht : ∀ w ∈ gx_G, w.before args s = true) (h1 : va_Nw (.methodLinkNest own index y host) s) (h2 : Cond.instanceMethod y ∈ gx_G) (h4 : Cond.initialized y.cls ∈ gx_G) (h5 : Cond.code y bytes maxL none ∈ gx_G) (hy : y.name = "<init>")
    (hd : y.cls ≠ "java/lang/invoke/MethodHandle" ∧ y.cls ≠ "java/lang/invoke/VarHandle" ∧ (parseMethodDescriptor y.desc).map (fun d => d.parameters.length) = some n) (hR : rm.frames + 1 ≤ R.frames ∧ 8 + (maxL + 11) + rm.locals ≤ R.locals) :
    va_CN R s args own index y host bytes maxL none (Cond.code y bytes maxL none :: gx_G) rm rm.cells rm.slots n ∧ y.name = "<init>" ∧ (Cond.instanceMethod y).before args s = true :=
  ⟨va_cnB n ht (gx_good (fun _ h => h) h5) rfl rfl rfl h1 (ht _ h4) hd hR, hy, ht _ h2⟩
end GXN
theorem mn_0 : (Jvm.Cond.methodLinkNest "LeanSets" (9 : Nat) ({ cls := "LeanSets$TextReader", name := "<init>", desc := "()V" } : Jvm.MethodName) "LeanSets") ∈ gx_N := List.mem_of_getElem? (i := 0) rfl
theorem mn_1 : (Jvm.Cond.methodLinkNest "LeanSets$TextReader" (11 : Nat) ({ cls := "LeanSets$Words", name := "<init>", desc := "()V" } : Jvm.MethodName) "LeanSets") ∈ gx_N := List.mem_of_getElem? (i := 1) rfl
theorem mn_2 : (Jvm.Cond.methodLinkNest "LeanSets$TextReader" (20 : Nat) ({ cls := "LeanSets$Terms", name := "<init>", desc := "()V" } : Jvm.MethodName) "LeanSets") ∈ gx_N := List.mem_of_getElem? (i := 2) rfl
theorem mn_3 : (Jvm.Cond.methodLinkNest "LeanSets" (18 : Nat) ({ cls := "LeanSets$SetTable", name := "<init>", desc := "()V" } : Jvm.MethodName) "LeanSets") ∈ gx_N := List.mem_of_getElem? (i := 3) rfl
theorem mn_4 : (Jvm.Cond.methodLinkNest "LeanSets" (28 : Nat) ({ cls := "LeanSets$Chain", name := "<init>", desc := "()V" } : Jvm.MethodName) "LeanSets") ∈ gx_N := List.mem_of_getElem? (i := 4) rfl
theorem mn_5 : (Jvm.Cond.methodLinkNest "LeanSets" (35 : Nat) ({ cls := "LeanSets$ChainCheck", name := "<init>", desc := "()V" } : Jvm.MethodName) "LeanSets") ∈ gx_N := List.mem_of_getElem? (i := 5) rfl
theorem mn_6 : (Jvm.Cond.methodLinkNest "LeanSets$ChainCheck" (11 : Nat) ({ cls := "LeanSets$SetTable", name := "<init>", desc := "()V" } : Jvm.MethodName) "LeanSets") ∈ gx_N := List.mem_of_getElem? (i := 6) rfl
theorem mn_7 : (Jvm.Cond.methodLinkNest "LeanSets$Chain" (63 : Nat) ({ cls := "LeanSets", name := "commonDivisor", desc := "(JJ)J" } : Jvm.MethodName) "LeanSets") ∈ gx_N := List.mem_of_getElem? (i := 7) rfl
theorem mn_8 : (Jvm.Cond.methodLinkNest "LeanSets$ChainCheck" (61 : Nat) ({ cls := "LeanSets", name := "commonDivisor", desc := "(JJ)J" } : Jvm.MethodName) "LeanSets") ∈ gx_N := List.mem_of_getElem? (i := 8) rfl
theorem mw_1 : (Jvm.Cond.initialized "LeanSets") ∈ gx_G := gx_1 (List.mem_of_getElem? (i := 1) rfl) rfl
theorem mw_2 : (Jvm.Cond.initialized "LeanSets$TextReader") ∈ gx_G := gx_1 (List.mem_of_getElem? (i := 2) rfl) rfl
theorem mw_4 : (Jvm.Cond.initialized "LeanSets$Terms") ∈ gx_G := gx_1 (List.mem_of_getElem? (i := 4) rfl) rfl
theorem mw_5 : (Jvm.Cond.initialized "LeanSets$SetTable") ∈ gx_G := gx_1 (List.mem_of_getElem? (i := 5) rfl) rfl
theorem mw_6 : (Jvm.Cond.initialized "LeanSets$Chain") ∈ gx_G := gx_1 (List.mem_of_getElem? (i := 6) rfl) rfl
theorem mw_7 : (Jvm.Cond.initialized "LeanSets$ChainCheck") ∈ gx_G := gx_1 (List.mem_of_getElem? (i := 7) rfl) rfl
theorem mw_8 : (Jvm.Cond.initialized "LeanSetsModel") ∈ gx_G := gx_1 (List.mem_of_getElem? (i := 8) rfl) rfl
theorem mw_13 : (Jvm.Cond.initialized "java/lang/Integer") ∈ gx_G := gx_1 (List.mem_of_getElem? (i := 13) rfl) rfl
theorem mw_14 : (Jvm.Cond.initialized "java/lang/Math") ∈ gx_G := gx_1 (List.mem_of_getElem? (i := 14) rfl) rfl
theorem mw_45 : (Jvm.Cond.fieldLink "LeanSets$TextReader" (63 : Nat) "LeanSets$Words" "kinds" "[I") ∈ gx_G := gx_1 (List.mem_of_getElem? (i := 45) rfl) rfl
theorem mw_47 : (Jvm.Cond.fieldLink "LeanSets$TextReader" (38 : Nat) "LeanSets$Words" "places" "[I") ∈ gx_G := gx_1 (List.mem_of_getElem? (i := 47) rfl) rfl
theorem mw_49 : (Jvm.Cond.fieldLink "LeanSets$TextReader" (106 : Nat) "LeanSets$Words" "numbers" "[I") ∈ gx_G := gx_1 (List.mem_of_getElem? (i := 49) rfl) rfl
theorem mw_51 : (Jvm.Cond.laysFinal "LeanSets$Words" "LeanSets$Words" "text" "[C") ∈ gx_G := gx_1 (List.mem_of_getElem? (i := 51) rfl) rfl
theorem mw_53 : (Jvm.Cond.lays "LeanSets$Words" "LeanSets$Words" "length" "I") ∈ gx_G := gx_1 (List.mem_of_getElem? (i := 53) rfl) rfl
theorem mw_55 : (Jvm.Cond.laysFinal "LeanSets$Words" "LeanSets$Words" "kinds" "[I") ∈ gx_G := gx_1 (List.mem_of_getElem? (i := 55) rfl) rfl
theorem mw_57 : (Jvm.Cond.laysFinal "LeanSets$Words" "LeanSets$Words" "places" "[I") ∈ gx_G := gx_1 (List.mem_of_getElem? (i := 57) rfl) rfl
theorem mw_59 : (Jvm.Cond.laysFinal "LeanSets$Words" "LeanSets$Words" "numbers" "[I") ∈ gx_G := gx_1 (List.mem_of_getElem? (i := 59) rfl) rfl
theorem mw_61 : (Jvm.Cond.lays "LeanSets$Words" "LeanSets$Words" "words" "I") ∈ gx_G := gx_1 (List.mem_of_getElem? (i := 61) rfl) rfl
theorem mw_72 : (Jvm.Cond.fieldLink "LeanSets$Terms" (28 : Nat) "LeanSets$Terms" "size" "I") ∈ gx_G := gx_1 (List.mem_of_getElem? (i := 72) rfl) rfl
theorem mw_73 : (Jvm.Cond.fieldLink "LeanSets$TextReader" (49 : Nat) "LeanSets$Terms" "size" "I") ∈ gx_G := gx_1 (List.mem_of_getElem? (i := 73) rfl) rfl
theorem mw_75 : (Jvm.Cond.fieldLink "LeanSets$Terms" (24 : Nat) "LeanSets$Terms" "length" "I") ∈ gx_G := gx_1 (List.mem_of_getElem? (i := 75) rfl) rfl
theorem mw_76 : (Jvm.Cond.fieldLink "LeanSets$TextReader" (35 : Nat) "LeanSets$Terms" "length" "I") ∈ gx_G := gx_1 (List.mem_of_getElem? (i := 76) rfl) rfl
theorem mw_78 : (Jvm.Cond.fieldLink "LeanSets$Terms" (9 : Nat) "LeanSets$Terms" "kinds" "[I") ∈ gx_G := gx_1 (List.mem_of_getElem? (i := 78) rfl) rfl
theorem mw_80 : (Jvm.Cond.fieldLink "LeanSets$Terms" (15 : Nat) "LeanSets$Terms" "ins" "[I") ∈ gx_G := gx_1 (List.mem_of_getElem? (i := 80) rfl) rfl
theorem mw_81 : (Jvm.Cond.fieldLink "LeanSets$Terms" (18 : Nat) "LeanSets$Terms" "outs" "[I") ∈ gx_G := gx_1 (List.mem_of_getElem? (i := 81) rfl) rfl
theorem mw_82 : (Jvm.Cond.fieldLink "LeanSets$Terms" (21 : Nat) "LeanSets$Terms" "values" "[I") ∈ gx_G := gx_1 (List.mem_of_getElem? (i := 82) rfl) rfl
theorem mw_83 : (Jvm.Cond.lays "LeanSets$Terms" "LeanSets$Terms" "size" "I") ∈ gx_G := gx_1 (List.mem_of_getElem? (i := 83) rfl) rfl
theorem mw_85 : (Jvm.Cond.lays "LeanSets$Terms" "LeanSets$Terms" "length" "I") ∈ gx_G := gx_1 (List.mem_of_getElem? (i := 85) rfl) rfl
theorem mw_87 : (Jvm.Cond.laysFinal "LeanSets$Terms" "LeanSets$Terms" "kinds" "[I") ∈ gx_G := gx_1 (List.mem_of_getElem? (i := 87) rfl) rfl
theorem mw_89 : (Jvm.Cond.laysFinal "LeanSets$Terms" "LeanSets$Terms" "ins" "[I") ∈ gx_G := gx_1 (List.mem_of_getElem? (i := 89) rfl) rfl
theorem mw_91 : (Jvm.Cond.laysFinal "LeanSets$Terms" "LeanSets$Terms" "outs" "[I") ∈ gx_G := gx_1 (List.mem_of_getElem? (i := 91) rfl) rfl
theorem mw_93 : (Jvm.Cond.laysFinal "LeanSets$Terms" "LeanSets$Terms" "values" "[I") ∈ gx_G := gx_1 (List.mem_of_getElem? (i := 93) rfl) rfl
theorem mw_96 : (Jvm.Cond.fieldLink "LeanSets$TextReader" (12 : Nat) "LeanSets$TextReader" "words" "LLeanSets$Words;") ∈ gx_G := gx_1 (List.mem_of_getElem? (i := 96) rfl) rfl
theorem mw_98 : (Jvm.Cond.fieldLink "LeanSets$TextReader" (21 : Nat) "LeanSets$TextReader" "terms" "LLeanSets$Terms;") ∈ gx_G := gx_1 (List.mem_of_getElem? (i := 98) rfl) rfl
theorem mw_100 : (Jvm.Cond.fieldLink "LeanSets$TextReader" (29 : Nat) "LeanSets$TextReader" "next" "I") ∈ gx_G := gx_1 (List.mem_of_getElem? (i := 100) rfl) rfl
theorem mw_101 : (Jvm.Cond.fieldLink "LeanSets$TextReader" (52 : Nat) "LeanSets$TextReader" "takenPlace" "I") ∈ gx_G := gx_1 (List.mem_of_getElem? (i := 101) rfl) rfl
theorem mw_102 : (Jvm.Cond.fieldLink "LeanSets$TextReader" (46 : Nat) "LeanSets$TextReader" "takenNumber" "I") ∈ gx_G := gx_1 (List.mem_of_getElem? (i := 102) rfl) rfl
theorem mw_103 : (Jvm.Cond.fieldLink "LeanSets$TextReader" (32 : Nat) "LeanSets$TextReader" "fault" "I") ∈ gx_G := gx_1 (List.mem_of_getElem? (i := 103) rfl) rfl
theorem mw_105 : (Jvm.Cond.fieldLink "LeanSets$TextReader" (25 : Nat) "LeanSets$TextReader" "faultPlace" "I") ∈ gx_G := gx_1 (List.mem_of_getElem? (i := 105) rfl) rfl
theorem mw_107 : (Jvm.Cond.laysFinal "LeanSets$TextReader" "LeanSets$TextReader" "words" "LLeanSets$Words;") ∈ gx_G := gx_1 (List.mem_of_getElem? (i := 107) rfl) rfl
theorem mw_109 : (Jvm.Cond.laysFinal "LeanSets$TextReader" "LeanSets$TextReader" "terms" "LLeanSets$Terms;") ∈ gx_G := gx_1 (List.mem_of_getElem? (i := 109) rfl) rfl
theorem mw_111 : (Jvm.Cond.lays "LeanSets$TextReader" "LeanSets$TextReader" "next" "I") ∈ gx_G := gx_1 (List.mem_of_getElem? (i := 111) rfl) rfl
theorem mw_113 : (Jvm.Cond.lays "LeanSets$TextReader" "LeanSets$TextReader" "takenPlace" "I") ∈ gx_G := gx_1 (List.mem_of_getElem? (i := 113) rfl) rfl
theorem mw_115 : (Jvm.Cond.lays "LeanSets$TextReader" "LeanSets$TextReader" "takenNumber" "I") ∈ gx_G := gx_1 (List.mem_of_getElem? (i := 115) rfl) rfl
theorem mw_117 : (Jvm.Cond.lays "LeanSets$TextReader" "LeanSets$TextReader" "fault" "I") ∈ gx_G := gx_1 (List.mem_of_getElem? (i := 117) rfl) rfl
theorem mw_119 : (Jvm.Cond.lays "LeanSets$TextReader" "LeanSets$TextReader" "faultPlace" "I") ∈ gx_G := gx_1 (List.mem_of_getElem? (i := 119) rfl) rfl
theorem mw_128 : (Jvm.Cond.fieldLink "LeanSets$SetTable" (9 : Nat) "LeanSets$SetTable" "values" "[J") ∈ gx_G := gx_1 (List.mem_of_getElem? (i := 128) rfl) rfl
theorem mw_129 : (Jvm.Cond.fieldLink "LeanSets$Chain" (60 : Nat) "LeanSets$SetTable" "values" "[J") ∈ gx_G := gx_1 (List.mem_of_getElem? (i := 129) rfl) rfl
theorem mw_130 : (Jvm.Cond.fieldLink "LeanSets$ChainCheck" (91 : Nat) "LeanSets$SetTable" "values" "[J") ∈ gx_G := gx_1 (List.mem_of_getElem? (i := 130) rfl) rfl
theorem mw_132 : (Jvm.Cond.fieldLink "LeanSets$SetTable" (15 : Nat) "LeanSets$SetTable" "size" "I") ∈ gx_G := gx_1 (List.mem_of_getElem? (i := 132) rfl) rfl
theorem mw_133 : (Jvm.Cond.fieldLink "LeanSets$ChainCheck" (29 : Nat) "LeanSets$SetTable" "size" "I") ∈ gx_G := gx_1 (List.mem_of_getElem? (i := 133) rfl) rfl
theorem mw_134 : (Jvm.Cond.fieldLink "LeanSets$Chain" (39 : Nat) "LeanSets$SetTable" "size" "I") ∈ gx_G := gx_1 (List.mem_of_getElem? (i := 134) rfl) rfl
theorem mw_135 : (Jvm.Cond.fieldLink "LeanSets$SetTable" (19 : Nat) "LeanSets$SetTable" "sets" "I") ∈ gx_G := gx_1 (List.mem_of_getElem? (i := 135) rfl) rfl
theorem mw_136 : (Jvm.Cond.fieldLink "LeanSets$Chain" (52 : Nat) "LeanSets$SetTable" "sets" "I") ∈ gx_G := gx_1 (List.mem_of_getElem? (i := 136) rfl) rfl
theorem mw_137 : (Jvm.Cond.fieldLink "LeanSets$ChainCheck" (94 : Nat) "LeanSets$SetTable" "sets" "I") ∈ gx_G := gx_1 (List.mem_of_getElem? (i := 137) rfl) rfl
theorem mw_138 : (Jvm.Cond.fieldLink "LeanSets$ChainCheck" (88 : Nat) "LeanSets$SetTable" "lowest" "J") ∈ gx_G := gx_1 (List.mem_of_getElem? (i := 138) rfl) rfl
theorem mw_139 : (Jvm.Cond.fieldLink "LeanSets$SetTable" (28 : Nat) "LeanSets$SetTable" "lowest" "J") ∈ gx_G := gx_1 (List.mem_of_getElem? (i := 139) rfl) rfl
theorem mw_141 : (Jvm.Cond.fieldLink "LeanSets$SetTable" (32 : Nat) "LeanSets$SetTable" "meet" "I") ∈ gx_G := gx_1 (List.mem_of_getElem? (i := 141) rfl) rfl
theorem mw_143 : (Jvm.Cond.fieldLink "LeanSets$SetTable" (35 : Nat) "LeanSets$SetTable" "join" "I") ∈ gx_G := gx_1 (List.mem_of_getElem? (i := 143) rfl) rfl
theorem mw_145 : (Jvm.Cond.laysFinal "LeanSets$SetTable" "LeanSets$SetTable" "values" "[J") ∈ gx_G := gx_1 (List.mem_of_getElem? (i := 145) rfl) rfl
theorem mw_147 : (Jvm.Cond.lays "LeanSets$SetTable" "LeanSets$SetTable" "size" "I") ∈ gx_G := gx_1 (List.mem_of_getElem? (i := 147) rfl) rfl
theorem mw_149 : (Jvm.Cond.lays "LeanSets$SetTable" "LeanSets$SetTable" "sets" "I") ∈ gx_G := gx_1 (List.mem_of_getElem? (i := 149) rfl) rfl
theorem mw_151 : (Jvm.Cond.lays "LeanSets$SetTable" "LeanSets$SetTable" "lowest" "J") ∈ gx_G := gx_1 (List.mem_of_getElem? (i := 151) rfl) rfl
theorem mw_153 : (Jvm.Cond.lays "LeanSets$SetTable" "LeanSets$SetTable" "meet" "I") ∈ gx_G := gx_1 (List.mem_of_getElem? (i := 153) rfl) rfl
theorem mw_155 : (Jvm.Cond.lays "LeanSets$SetTable" "LeanSets$SetTable" "join" "I") ∈ gx_G := gx_1 (List.mem_of_getElem? (i := 155) rfl) rfl
theorem mw_165 : (Jvm.Cond.fieldLink "LeanSets$Chain" (35 : Nat) "LeanSets$Chain" "length" "I") ∈ gx_G := gx_1 (List.mem_of_getElem? (i := 165) rfl) rfl
theorem mw_166 : (Jvm.Cond.fieldLink "LeanSets$ChainCheck" (53 : Nat) "LeanSets$Chain" "length" "I") ∈ gx_G := gx_1 (List.mem_of_getElem? (i := 166) rfl) rfl
theorem mw_168 : (Jvm.Cond.fieldLink "LeanSets$Chain" (9 : Nat) "LeanSets$Chain" "above" "[J") ∈ gx_G := gx_1 (List.mem_of_getElem? (i := 168) rfl) rfl
theorem mw_169 : (Jvm.Cond.fieldLink "LeanSets$ChainCheck" (68 : Nat) "LeanSets$Chain" "above" "[J") ∈ gx_G := gx_1 (List.mem_of_getElem? (i := 169) rfl) rfl
theorem mw_171 : (Jvm.Cond.fieldLink "LeanSets$Chain" (15 : Nat) "LeanSets$Chain" "below" "[J") ∈ gx_G := gx_1 (List.mem_of_getElem? (i := 171) rfl) rfl
theorem mw_172 : (Jvm.Cond.fieldLink "LeanSets$ChainCheck" (58 : Nat) "LeanSets$Chain" "below" "[J") ∈ gx_G := gx_1 (List.mem_of_getElem? (i := 172) rfl) rfl
theorem mw_174 : (Jvm.Cond.fieldLink "LeanSets$Chain" (18 : Nat) "LeanSets$Chain" "sets" "[I") ∈ gx_G := gx_1 (List.mem_of_getElem? (i := 174) rfl) rfl
theorem mw_176 : (Jvm.Cond.fieldLink "LeanSets$Chain" (22 : Nat) "LeanSets$Chain" "turnOf" "[I") ∈ gx_G := gx_1 (List.mem_of_getElem? (i := 176) rfl) rfl
theorem mw_177 : (Jvm.Cond.fieldLink "LeanSets$ChainCheck" (65 : Nat) "LeanSets$Chain" "turnOf" "[I") ∈ gx_G := gx_1 (List.mem_of_getElem? (i := 177) rfl) rfl
theorem mw_179 : (Jvm.Cond.fieldLink "LeanSets$Chain" (25 : Nat) "LeanSets$Chain" "lowestOf" "[J") ∈ gx_G := gx_1 (List.mem_of_getElem? (i := 179) rfl) rfl
theorem mw_180 : (Jvm.Cond.fieldLink "LeanSets$Chain" (28 : Nat) "LeanSets$Chain" "setOf" "[I") ∈ gx_G := gx_1 (List.mem_of_getElem? (i := 180) rfl) rfl
theorem mw_181 : (Jvm.Cond.lays "LeanSets$Chain" "LeanSets$Chain" "length" "I") ∈ gx_G := gx_1 (List.mem_of_getElem? (i := 181) rfl) rfl
theorem mw_183 : (Jvm.Cond.laysFinal "LeanSets$Chain" "LeanSets$Chain" "above" "[J") ∈ gx_G := gx_1 (List.mem_of_getElem? (i := 183) rfl) rfl
theorem mw_185 : (Jvm.Cond.laysFinal "LeanSets$Chain" "LeanSets$Chain" "below" "[J") ∈ gx_G := gx_1 (List.mem_of_getElem? (i := 185) rfl) rfl
theorem mw_187 : (Jvm.Cond.laysFinal "LeanSets$Chain" "LeanSets$Chain" "sets" "[I") ∈ gx_G := gx_1 (List.mem_of_getElem? (i := 187) rfl) rfl
theorem mw_189 : (Jvm.Cond.laysFinal "LeanSets$Chain" "LeanSets$Chain" "turnOf" "[I") ∈ gx_G := gx_1 (List.mem_of_getElem? (i := 189) rfl) rfl
theorem mw_191 : (Jvm.Cond.laysFinal "LeanSets$Chain" "LeanSets$Chain" "lowestOf" "[J") ∈ gx_G := gx_1 (List.mem_of_getElem? (i := 191) rfl) rfl
theorem mw_193 : (Jvm.Cond.laysFinal "LeanSets$Chain" "LeanSets$Chain" "setOf" "[I") ∈ gx_G := gx_1 (List.mem_of_getElem? (i := 193) rfl) rfl
theorem mw_204 : (Jvm.Cond.fieldLink "LeanSets$ChainCheck" (12 : Nat) "LeanSets$ChainCheck" "gaps" "LLeanSets$SetTable;") ∈ gx_G := gx_1 (List.mem_of_getElem? (i := 204) rfl) rfl
theorem mw_205 : (Jvm.Cond.fieldLink "LeanSets$ChainCheck" (18 : Nat) "LeanSets$ChainCheck" "whole" "[J") ∈ gx_G := gx_1 (List.mem_of_getElem? (i := 205) rfl) rfl
theorem mw_206 : (Jvm.Cond.fieldLink "LeanSets$ChainCheck" (22 : Nat) "LeanSets$ChainCheck" "extremes" "[J") ∈ gx_G := gx_1 (List.mem_of_getElem? (i := 206) rfl) rfl
theorem mw_207 : (Jvm.Cond.fieldLink "LeanSets$ChainCheck" (25 : Nat) "LeanSets$ChainCheck" "order" "[I") ∈ gx_G := gx_1 (List.mem_of_getElem? (i := 207) rfl) rfl
theorem mw_208 : (Jvm.Cond.fieldLink "LeanSets$ChainCheck" (49 : Nat) "LeanSets$ChainCheck" "times" "J") ∈ gx_G := gx_1 (List.mem_of_getElem? (i := 208) rfl) rfl
theorem mw_209 : (Jvm.Cond.laysFinal "LeanSets$ChainCheck" "LeanSets$ChainCheck" "gaps" "LLeanSets$SetTable;") ∈ gx_G := gx_1 (List.mem_of_getElem? (i := 209) rfl) rfl
theorem mw_211 : (Jvm.Cond.laysFinal "LeanSets$ChainCheck" "LeanSets$ChainCheck" "whole" "[J") ∈ gx_G := gx_1 (List.mem_of_getElem? (i := 211) rfl) rfl
theorem mw_213 : (Jvm.Cond.laysFinal "LeanSets$ChainCheck" "LeanSets$ChainCheck" "extremes" "[J") ∈ gx_G := gx_1 (List.mem_of_getElem? (i := 213) rfl) rfl
theorem mw_215 : (Jvm.Cond.laysFinal "LeanSets$ChainCheck" "LeanSets$ChainCheck" "order" "[I") ∈ gx_G := gx_1 (List.mem_of_getElem? (i := 215) rfl) rfl
theorem mw_217 : (Jvm.Cond.lays "LeanSets$ChainCheck" "LeanSets$ChainCheck" "times" "J") ∈ gx_G := gx_1 (List.mem_of_getElem? (i := 217) rfl) rfl
theorem mw_228 : (Jvm.Cond.laysFinal "LeanSets" "LeanSets" "reader" "LLeanSets$TextReader;") ∈ gx_G := gx_1 (List.mem_of_getElem? (i := 228) rfl) rfl
theorem mw_230 : (Jvm.Cond.laysFinal "LeanSets" "LeanSets" "function" "LLeanSets$SetTable;") ∈ gx_G := gx_1 (List.mem_of_getElem? (i := 230) rfl) rfl
theorem mw_232 : (Jvm.Cond.laysFinal "LeanSets" "LeanSets" "gaps" "LLeanSets$SetTable;") ∈ gx_G := gx_1 (List.mem_of_getElem? (i := 232) rfl) rfl
theorem mw_234 : (Jvm.Cond.laysFinal "LeanSets" "LeanSets" "chain" "LLeanSets$Chain;") ∈ gx_G := gx_1 (List.mem_of_getElem? (i := 234) rfl) rfl
theorem mw_236 : (Jvm.Cond.laysFinal "LeanSets" "LeanSets" "chainCheck" "LLeanSets$ChainCheck;") ∈ gx_G := gx_1 (List.mem_of_getElem? (i := 236) rfl) rfl
theorem mw_238 : (Jvm.Cond.laysFinal "LeanSets" "LeanSets" "vector" "[J") ∈ gx_G := gx_1 (List.mem_of_getElem? (i := 238) rfl) rfl
theorem mw_240 : (Jvm.Cond.laysFinal "LeanSets" "LeanSets" "counts" "[I") ∈ gx_G := gx_2 (List.mem_of_getElem? (i := 0) rfl) rfl
theorem mw_242 : (Jvm.Cond.lays "LeanSets" "LeanSets" "size" "I") ∈ gx_G := gx_2 (List.mem_of_getElem? (i := 2) rfl) rfl
theorem mw_358 : (Jvm.Cond.methodLink "LeanSets$TextReader" (42 : Nat) ({ cls := "LeanSets$TextReader", name := "take", desc := "(I)Z" } : Jvm.MethodName)) ∈ gx_G := gx_2 (List.mem_of_getElem? (i := 118) rfl) rfl
theorem mw_360 : (Jvm.Cond.instanceMethod ({ cls := "LeanSets$TextReader", name := "take", desc := "(I)Z" } : Jvm.MethodName)) ∈ gx_G := gx_2 (List.mem_of_getElem? (i := 120) rfl) rfl
theorem mw_361 : (Jvm.Cond.code ({ cls := "LeanSets$TextReader", name := "take", desc := "(I)Z" } : Jvm.MethodName) prog_6_method_11_code (2 : Nat) (Option.some Jvm.ClassFile.FieldType.boolean)) ∈ gx_G := gx_2 (List.mem_of_getElem? (i := 121) rfl) rfl
theorem mw_362 : (Jvm.Cond.methodLink "LeanSets$TextReader" (55 : Nat) ({ cls := "LeanSets$TextReader", name := "note", desc := "(II)V" } : Jvm.MethodName)) ∈ gx_G := gx_2 (List.mem_of_getElem? (i := 122) rfl) rfl
theorem mw_364 : (Jvm.Cond.instanceMethod ({ cls := "LeanSets$TextReader", name := "note", desc := "(II)V" } : Jvm.MethodName)) ∈ gx_G := gx_2 (List.mem_of_getElem? (i := 124) rfl) rfl
theorem mw_365 : (Jvm.Cond.code ({ cls := "LeanSets$TextReader", name := "note", desc := "(II)V" } : Jvm.MethodName) prog_6_method_17_code (3 : Nat) (Option.none : Option Jvm.ClassFile.FieldType)) ∈ gx_G := gx_2 (List.mem_of_getElem? (i := 125) rfl) rfl
theorem mw_366 : (Jvm.Cond.methodLink "LeanSets$TextReader" (59 : Nat) ({ cls := "LeanSets$TextReader", name := "readTerm", desc := "()Z" } : Jvm.MethodName)) ∈ gx_G := gx_2 (List.mem_of_getElem? (i := 126) rfl) rfl
theorem mw_368 : (Jvm.Cond.instanceMethod ({ cls := "LeanSets$TextReader", name := "readTerm", desc := "()Z" } : Jvm.MethodName)) ∈ gx_G := gx_2 (List.mem_of_getElem? (i := 128) rfl) rfl
theorem mw_369 : (Jvm.Cond.code ({ cls := "LeanSets$TextReader", name := "readTerm", desc := "()Z" } : Jvm.MethodName) prog_6_method_5_code (1 : Nat) (Option.some Jvm.ClassFile.FieldType.boolean)) ∈ gx_G := gx_2 (List.mem_of_getElem? (i := 129) rfl) rfl
theorem mw_370 : (Jvm.Cond.methodLink "LeanSets$TextReader" (66 : Nat) ({ cls := "LeanSets$TextReader", name := "readWeight", desc := "()Z" } : Jvm.MethodName)) ∈ gx_G := gx_2 (List.mem_of_getElem? (i := 130) rfl) rfl
theorem mw_372 : (Jvm.Cond.instanceMethod ({ cls := "LeanSets$TextReader", name := "readWeight", desc := "()Z" } : Jvm.MethodName)) ∈ gx_G := gx_2 (List.mem_of_getElem? (i := 132) rfl) rfl
theorem mw_373 : (Jvm.Cond.code ({ cls := "LeanSets$TextReader", name := "readWeight", desc := "()Z" } : Jvm.MethodName) prog_6_method_6_code (2 : Nat) (Option.some Jvm.ClassFile.FieldType.boolean)) ∈ gx_G := gx_2 (List.mem_of_getElem? (i := 133) rfl) rfl
theorem mw_374 : (Jvm.Cond.methodLink "LeanSets$TextReader" (75 : Nat) ({ cls := "LeanSets$TextReader", name := "takenElement", desc := "()I" } : Jvm.MethodName)) ∈ gx_G := gx_2 (List.mem_of_getElem? (i := 134) rfl) rfl
theorem mw_376 : (Jvm.Cond.instanceMethod ({ cls := "LeanSets$TextReader", name := "takenElement", desc := "()I" } : Jvm.MethodName)) ∈ gx_G := gx_2 (List.mem_of_getElem? (i := 136) rfl) rfl
theorem mw_377 : (Jvm.Cond.code ({ cls := "LeanSets$TextReader", name := "takenElement", desc := "()I" } : Jvm.MethodName) prog_6_method_13_code (2 : Nat) (Option.some Jvm.ClassFile.FieldType.int)) ∈ gx_G := gx_2 (List.mem_of_getElem? (i := 137) rfl) rfl
theorem mw_378 : (Jvm.Cond.methodLink "LeanSets$TextReader" (90 : Nat) ({ cls := "LeanSets$TextReader", name := "noteIf", desc := "(ZI)V" } : Jvm.MethodName)) ∈ gx_G := gx_2 (List.mem_of_getElem? (i := 138) rfl) rfl
theorem mw_380 : (Jvm.Cond.instanceMethod ({ cls := "LeanSets$TextReader", name := "noteIf", desc := "(ZI)V" } : Jvm.MethodName)) ∈ gx_G := gx_2 (List.mem_of_getElem? (i := 140) rfl) rfl
theorem mw_381 : (Jvm.Cond.code ({ cls := "LeanSets$TextReader", name := "noteIf", desc := "(ZI)V" } : Jvm.MethodName) prog_6_method_16_code (3 : Nat) (Option.none : Option Jvm.ClassFile.FieldType)) ∈ gx_G := gx_2 (List.mem_of_getElem? (i := 141) rfl) rfl
theorem mw_382 : (Jvm.Cond.methodLink "LeanSets$TextReader" (79 : Nat) ({ cls := "LeanSets$TextReader", name := "takeValue", desc := "()Z" } : Jvm.MethodName)) ∈ gx_G := gx_2 (List.mem_of_getElem? (i := 142) rfl) rfl
theorem mw_384 : (Jvm.Cond.instanceMethod ({ cls := "LeanSets$TextReader", name := "takeValue", desc := "()Z" } : Jvm.MethodName)) ∈ gx_G := gx_2 (List.mem_of_getElem? (i := 144) rfl) rfl
theorem mw_385 : (Jvm.Cond.code ({ cls := "LeanSets$TextReader", name := "takeValue", desc := "()Z" } : Jvm.MethodName) prog_6_method_12_code (3 : Nat) (Option.some Jvm.ClassFile.FieldType.boolean)) ∈ gx_G := gx_2 (List.mem_of_getElem? (i := 145) rfl) rfl
theorem mw_386 : (Jvm.Cond.methodLink "LeanSets$TextReader" (82 : Nat) ({ cls := "LeanSets$TextReader", name := "keepTerm", desc := "(III)V" } : Jvm.MethodName)) ∈ gx_G := gx_2 (List.mem_of_getElem? (i := 146) rfl) rfl
theorem mw_388 : (Jvm.Cond.instanceMethod ({ cls := "LeanSets$TextReader", name := "keepTerm", desc := "(III)V" } : Jvm.MethodName)) ∈ gx_G := gx_2 (List.mem_of_getElem? (i := 148) rfl) rfl
theorem mw_389 : (Jvm.Cond.code ({ cls := "LeanSets$TextReader", name := "keepTerm", desc := "(III)V" } : Jvm.MethodName) prog_6_method_14_code (4 : Nat) (Option.none : Option Jvm.ClassFile.FieldType)) ∈ gx_G := gx_2 (List.mem_of_getElem? (i := 149) rfl) rfl
theorem mw_390 : (Jvm.Cond.methodLink "LeanSets$TextReader" (109 : Nat) ({ cls := "LeanSets$Terms", name := "open", desc := "(III)V" } : Jvm.MethodName)) ∈ gx_G := gx_2 (List.mem_of_getElem? (i := 150) rfl) rfl
theorem mw_391 : (Jvm.Cond.instanceMethod ({ cls := "LeanSets$Terms", name := "open", desc := "(III)V" } : Jvm.MethodName)) ∈ gx_G := gx_2 (List.mem_of_getElem? (i := 151) rfl) rfl
theorem mw_392 : (Jvm.Cond.selects "LeanSets$Terms" ({ cls := "LeanSets$Terms", name := "open", desc := "(III)V" } : Jvm.MethodName) ({ cls := "LeanSets$Terms", name := "open", desc := "(III)V" } : Jvm.MethodName)) ∈ gx_G := gx_2 (List.mem_of_getElem? (i := 152) rfl) rfl
theorem mw_393 : (Jvm.Cond.code ({ cls := "LeanSets$Terms", name := "open", desc := "(III)V" } : Jvm.MethodName) prog_5_method_2_code (4 : Nat) (Option.none : Option Jvm.ClassFile.FieldType)) ∈ gx_G := gx_2 (List.mem_of_getElem? (i := 153) rfl) rfl
theorem mw_394 : (Jvm.Cond.methodLink "LeanSets$TextReader" (86 : Nat) ({ cls := "LeanSets$TextReader", name := "keepValue", desc := "(I)V" } : Jvm.MethodName)) ∈ gx_G := gx_2 (List.mem_of_getElem? (i := 154) rfl) rfl
theorem mw_396 : (Jvm.Cond.instanceMethod ({ cls := "LeanSets$TextReader", name := "keepValue", desc := "(I)V" } : Jvm.MethodName)) ∈ gx_G := gx_2 (List.mem_of_getElem? (i := 156) rfl) rfl
theorem mw_397 : (Jvm.Cond.code ({ cls := "LeanSets$TextReader", name := "keepValue", desc := "(I)V" } : Jvm.MethodName) prog_6_method_15_code (2 : Nat) (Option.none : Option Jvm.ClassFile.FieldType)) ∈ gx_G := gx_2 (List.mem_of_getElem? (i := 157) rfl) rfl
theorem mw_398 : (Jvm.Cond.methodLink "LeanSets$TextReader" (112 : Nat) ({ cls := "LeanSets$Terms", name := "put", desc := "(II)V" } : Jvm.MethodName)) ∈ gx_G := gx_2 (List.mem_of_getElem? (i := 158) rfl) rfl
theorem mw_399 : (Jvm.Cond.instanceMethod ({ cls := "LeanSets$Terms", name := "put", desc := "(II)V" } : Jvm.MethodName)) ∈ gx_G := gx_2 (List.mem_of_getElem? (i := 159) rfl) rfl
theorem mw_400 : (Jvm.Cond.selects "LeanSets$Terms" ({ cls := "LeanSets$Terms", name := "put", desc := "(II)V" } : Jvm.MethodName) ({ cls := "LeanSets$Terms", name := "put", desc := "(II)V" } : Jvm.MethodName)) ∈ gx_G := gx_2 (List.mem_of_getElem? (i := 160) rfl) rfl
theorem mw_401 : (Jvm.Cond.code ({ cls := "LeanSets$Terms", name := "put", desc := "(II)V" } : Jvm.MethodName) prog_5_method_3_code (3 : Nat) (Option.none : Option Jvm.ClassFile.FieldType)) ∈ gx_G := gx_2 (List.mem_of_getElem? (i := 161) rfl) rfl
theorem mw_402 : (Jvm.Cond.methodLink "LeanSets$TextReader" (69 : Nat) ({ cls := "LeanSets$TextReader", name := "readArc", desc := "()Z" } : Jvm.MethodName)) ∈ gx_G := gx_2 (List.mem_of_getElem? (i := 162) rfl) rfl
theorem mw_404 : (Jvm.Cond.instanceMethod ({ cls := "LeanSets$TextReader", name := "readArc", desc := "()Z" } : Jvm.MethodName)) ∈ gx_G := gx_2 (List.mem_of_getElem? (i := 164) rfl) rfl
theorem mw_405 : (Jvm.Cond.code ({ cls := "LeanSets$TextReader", name := "readArc", desc := "()Z" } : Jvm.MethodName) prog_6_method_7_code (3 : Nat) (Option.some Jvm.ClassFile.FieldType.boolean)) ∈ gx_G := gx_2 (List.mem_of_getElem? (i := 165) rfl) rfl
theorem mw_406 : (Jvm.Cond.methodLink "LeanSets$TextReader" (72 : Nat) ({ cls := "LeanSets$TextReader", name := "readCurve", desc := "()Z" } : Jvm.MethodName)) ∈ gx_G := gx_2 (List.mem_of_getElem? (i := 166) rfl) rfl
theorem mw_408 : (Jvm.Cond.instanceMethod ({ cls := "LeanSets$TextReader", name := "readCurve", desc := "()Z" } : Jvm.MethodName)) ∈ gx_G := gx_2 (List.mem_of_getElem? (i := 168) rfl) rfl
theorem mw_409 : (Jvm.Cond.code ({ cls := "LeanSets$TextReader", name := "readCurve", desc := "()Z" } : Jvm.MethodName) prog_6_method_8_code (4 : Nat) (Option.some Jvm.ClassFile.FieldType.boolean)) ∈ gx_G := gx_2 (List.mem_of_getElem? (i := 169) rfl) rfl
theorem mw_410 : (Jvm.Cond.methodLink "LeanSets$TextReader" (94 : Nat) ({ cls := "java/lang/Integer", name := "bitCount", desc := "(I)I" } : Jvm.MethodName)) ∈ gx_G := gx_2 (List.mem_of_getElem? (i := 170) rfl) rfl
theorem mw_411 : (Jvm.Cond.static ({ cls := "java/lang/Integer", name := "bitCount", desc := "(I)I" } : Jvm.MethodName)) ∈ gx_G := gx_2 (List.mem_of_getElem? (i := 171) rfl) rfl
theorem mw_412 : (Jvm.Cond.code ({ cls := "java/lang/Integer", name := "bitCount", desc := "(I)I" } : Jvm.MethodName) prog_14_method_49_code (1 : Nat) (Option.some Jvm.ClassFile.FieldType.int)) ∈ gx_G := gx_2 (List.mem_of_getElem? (i := 172) rfl) rfl
theorem mw_413 : (Jvm.Cond.constant "java/lang/Integer" (265 : Nat) (1431655765 : Int32)) ∈ gx_G := gx_2 (List.mem_of_getElem? (i := 173) rfl) rfl
theorem mw_414 : (Jvm.Cond.constant "java/lang/Integer" (266 : Nat) (858993459 : Int32)) ∈ gx_G := gx_2 (List.mem_of_getElem? (i := 174) rfl) rfl
theorem mw_415 : (Jvm.Cond.constant "java/lang/Integer" (267 : Nat) (252645135 : Int32)) ∈ gx_G := gx_2 (List.mem_of_getElem? (i := 175) rfl) rfl
theorem mw_416 : (Jvm.Cond.methodLink "LeanSets$TextReader" (100 : Nat) ({ cls := "LeanSets$TextReader", name := "readCurveValues", desc := "(I)Z" } : Jvm.MethodName)) ∈ gx_G := gx_2 (List.mem_of_getElem? (i := 176) rfl) rfl
theorem mw_418 : (Jvm.Cond.instanceMethod ({ cls := "LeanSets$TextReader", name := "readCurveValues", desc := "(I)Z" } : Jvm.MethodName)) ∈ gx_G := gx_2 (List.mem_of_getElem? (i := 178) rfl) rfl
theorem mw_419 : (Jvm.Cond.code ({ cls := "LeanSets$TextReader", name := "readCurveValues", desc := "(I)Z" } : Jvm.MethodName) prog_6_method_9_code (6 : Nat) (Option.some Jvm.ClassFile.FieldType.boolean)) ∈ gx_G := gx_2 (List.mem_of_getElem? (i := 179) rfl) rfl
theorem mw_420 : (Jvm.Cond.methodLink "LeanSets$TextReader" (103 : Nat) ({ cls := "LeanSets$TextReader", name := "aValueStands", desc := "()Z" } : Jvm.MethodName)) ∈ gx_G := gx_2 (List.mem_of_getElem? (i := 180) rfl) rfl
theorem mw_422 : (Jvm.Cond.instanceMethod ({ cls := "LeanSets$TextReader", name := "aValueStands", desc := "()Z" } : Jvm.MethodName)) ∈ gx_G := gx_2 (List.mem_of_getElem? (i := 182) rfl) rfl
theorem mw_423 : (Jvm.Cond.code ({ cls := "LeanSets$TextReader", name := "aValueStands", desc := "()Z" } : Jvm.MethodName) prog_6_method_10_code (1 : Nat) (Option.some Jvm.ClassFile.FieldType.boolean)) ∈ gx_G := gx_2 (List.mem_of_getElem? (i := 183) rfl) rfl
theorem mw_436 : (Jvm.Cond.methodLink "LeanSets$Terms" (31 : Nat) ({ cls := "LeanSets$SetTable", name := "clear", desc := "(I)V" } : Jvm.MethodName)) ∈ gx_G := gx_2 (List.mem_of_getElem? (i := 196) rfl) rfl
theorem mw_437 : (Jvm.Cond.instanceMethod ({ cls := "LeanSets$SetTable", name := "clear", desc := "(I)V" } : Jvm.MethodName)) ∈ gx_G := gx_2 (List.mem_of_getElem? (i := 197) rfl) rfl
theorem mw_438 : (Jvm.Cond.selects "LeanSets$SetTable" ({ cls := "LeanSets$SetTable", name := "clear", desc := "(I)V" } : Jvm.MethodName) ({ cls := "LeanSets$SetTable", name := "clear", desc := "(I)V" } : Jvm.MethodName)) ∈ gx_G := gx_2 (List.mem_of_getElem? (i := 198) rfl) rfl
theorem mw_439 : (Jvm.Cond.code ({ cls := "LeanSets$SetTable", name := "clear", desc := "(I)V" } : Jvm.MethodName) prog_4_method_2_code (3 : Nat) (Option.none : Option Jvm.ClassFile.FieldType)) ∈ gx_G := gx_2 (List.mem_of_getElem? (i := 199) rfl) rfl
theorem mw_440 : (Jvm.Cond.methodLink "LeanSets$Terms" (37 : Nat) ({ cls := "LeanSets$SetTable", name := "addCurve", desc := "(I[II)V" } : Jvm.MethodName)) ∈ gx_G := gx_2 (List.mem_of_getElem? (i := 200) rfl) rfl
theorem mw_441 : (Jvm.Cond.instanceMethod ({ cls := "LeanSets$SetTable", name := "addCurve", desc := "(I[II)V" } : Jvm.MethodName)) ∈ gx_G := gx_2 (List.mem_of_getElem? (i := 201) rfl) rfl
theorem mw_442 : (Jvm.Cond.selects "LeanSets$SetTable" ({ cls := "LeanSets$SetTable", name := "addCurve", desc := "(I[II)V" } : Jvm.MethodName) ({ cls := "LeanSets$SetTable", name := "addCurve", desc := "(I[II)V" } : Jvm.MethodName)) ∈ gx_G := gx_2 (List.mem_of_getElem? (i := 202) rfl) rfl
theorem mw_443 : (Jvm.Cond.code ({ cls := "LeanSets$SetTable", name := "addCurve", desc := "(I[II)V" } : Jvm.MethodName) prog_4_method_5_code (6 : Nat) (Option.none : Option Jvm.ClassFile.FieldType)) ∈ gx_G := gx_2 (List.mem_of_getElem? (i := 203) rfl) rfl
theorem mw_444 : (Jvm.Cond.methodLink "LeanSets$SetTable" (22 : Nat) ({ cls := "java/lang/Integer", name := "bitCount", desc := "(I)I" } : Jvm.MethodName)) ∈ gx_G := gx_2 (List.mem_of_getElem? (i := 204) rfl) rfl
theorem mw_445 : (Jvm.Cond.methodLink "LeanSets$Terms" (41 : Nat) ({ cls := "LeanSets$SetTable", name := "add", desc := "(IIJ)V" } : Jvm.MethodName)) ∈ gx_G := gx_2 (List.mem_of_getElem? (i := 205) rfl) rfl
theorem mw_446 : (Jvm.Cond.instanceMethod ({ cls := "LeanSets$SetTable", name := "add", desc := "(IIJ)V" } : Jvm.MethodName)) ∈ gx_G := gx_2 (List.mem_of_getElem? (i := 206) rfl) rfl
theorem mw_447 : (Jvm.Cond.selects "LeanSets$SetTable" ({ cls := "LeanSets$SetTable", name := "add", desc := "(IIJ)V" } : Jvm.MethodName) ({ cls := "LeanSets$SetTable", name := "add", desc := "(IIJ)V" } : Jvm.MethodName)) ∈ gx_G := gx_2 (List.mem_of_getElem? (i := 207) rfl) rfl
theorem mw_448 : (Jvm.Cond.code ({ cls := "LeanSets$SetTable", name := "add", desc := "(IIJ)V" } : Jvm.MethodName) prog_4_method_4_code (7 : Nat) (Option.none : Option Jvm.ClassFile.FieldType)) ∈ gx_G := gx_2 (List.mem_of_getElem? (i := 208) rfl) rfl
theorem mw_450 : (Jvm.Cond.instanceMethod ({ cls := "LeanSets$SetTable", name := "copy", desc := "(LLeanSets$SetTable;J)V" } : Jvm.MethodName)) ∈ gx_G := gx_2 (List.mem_of_getElem? (i := 210) rfl) rfl
theorem mw_451 : (Jvm.Cond.selects "LeanSets$SetTable" ({ cls := "LeanSets$SetTable", name := "copy", desc := "(LLeanSets$SetTable;J)V" } : Jvm.MethodName) ({ cls := "LeanSets$SetTable", name := "copy", desc := "(LLeanSets$SetTable;J)V" } : Jvm.MethodName)) ∈ gx_G := gx_2 (List.mem_of_getElem? (i := 211) rfl) rfl
theorem mw_452 : (Jvm.Cond.code ({ cls := "LeanSets$SetTable", name := "copy", desc := "(LLeanSets$SetTable;J)V" } : Jvm.MethodName) prog_4_method_3_code (5 : Nat) (Option.none : Option Jvm.ClassFile.FieldType)) ∈ gx_G := gx_2 (List.mem_of_getElem? (i := 212) rfl) rfl
theorem mw_457 : (Jvm.Cond.methodLink "LeanSets$Chain" (31 : Nat) ({ cls := "LeanSets$Chain", name := "findLowestOfEachSize", desc := "(LLeanSets$SetTable;)V" } : Jvm.MethodName)) ∈ gx_G := gx_2 (List.mem_of_getElem? (i := 217) rfl) rfl
theorem mw_459 : (Jvm.Cond.instanceMethod ({ cls := "LeanSets$Chain", name := "findLowestOfEachSize", desc := "(LLeanSets$SetTable;)V" } : Jvm.MethodName)) ∈ gx_G := gx_2 (List.mem_of_getElem? (i := 219) rfl) rfl
theorem mw_460 : (Jvm.Cond.code ({ cls := "LeanSets$Chain", name := "findLowestOfEachSize", desc := "(LLeanSets$SetTable;)V" } : Jvm.MethodName) prog_2_method_3_code (4 : Nat) (Option.none : Option Jvm.ClassFile.FieldType)) ∈ gx_G := gx_2 (List.mem_of_getElem? (i := 220) rfl) rfl
theorem mw_461 : (Jvm.Cond.methodLink "LeanSets$Chain" (54 : Nat) ({ cls := "java/lang/Integer", name := "bitCount", desc := "(I)I" } : Jvm.MethodName)) ∈ gx_G := gx_2 (List.mem_of_getElem? (i := 221) rfl) rfl
theorem mw_462 : (Jvm.Cond.methodLink "LeanSets$Chain" (44 : Nat) ({ cls := "LeanSets$Chain", name := "nextSize", desc := "(II)I" } : Jvm.MethodName)) ∈ gx_G := gx_2 (List.mem_of_getElem? (i := 222) rfl) rfl
theorem mw_464 : (Jvm.Cond.instanceMethod ({ cls := "LeanSets$Chain", name := "nextSize", desc := "(II)I" } : Jvm.MethodName)) ∈ gx_G := gx_2 (List.mem_of_getElem? (i := 224) rfl) rfl
theorem mw_465 : (Jvm.Cond.code ({ cls := "LeanSets$Chain", name := "nextSize", desc := "(II)I" } : Jvm.MethodName) prog_2_method_4_code (7 : Nat) (Option.some Jvm.ClassFile.FieldType.int)) ∈ gx_G := gx_2 (List.mem_of_getElem? (i := 225) rfl) rfl
theorem mw_466 : (Jvm.Cond.methodLink "LeanSets$Chain" (48 : Nat) ({ cls := "LeanSets$Chain", name := "keepTurn", desc := "(II)V" } : Jvm.MethodName)) ∈ gx_G := gx_2 (List.mem_of_getElem? (i := 226) rfl) rfl
theorem mw_468 : (Jvm.Cond.instanceMethod ({ cls := "LeanSets$Chain", name := "keepTurn", desc := "(II)V" } : Jvm.MethodName)) ∈ gx_G := gx_2 (List.mem_of_getElem? (i := 228) rfl) rfl
theorem mw_469 : (Jvm.Cond.code ({ cls := "LeanSets$Chain", name := "keepTurn", desc := "(II)V" } : Jvm.MethodName) prog_2_method_5_code (10 : Nat) (Option.none : Option Jvm.ClassFile.FieldType)) ∈ gx_G := gx_2 (List.mem_of_getElem? (i := 229) rfl) rfl
theorem mw_471 : (Jvm.Cond.static ({ cls := "LeanSets", name := "commonDivisor", desc := "(JJ)J" } : Jvm.MethodName)) ∈ gx_G := gx_2 (List.mem_of_getElem? (i := 231) rfl) rfl
theorem mw_472 : (Jvm.Cond.code ({ cls := "LeanSets", name := "commonDivisor", desc := "(JJ)J" } : Jvm.MethodName) prog_1_method_23_code (11 : Nat) (Option.some Jvm.ClassFile.FieldType.long)) ∈ gx_G := gx_2 (List.mem_of_getElem? (i := 232) rfl) rfl
theorem mw_473 : (Jvm.Cond.methodLink "LeanSets" (180 : Nat) ({ cls := "java/lang/Math", name := "abs", desc := "(J)J" } : Jvm.MethodName)) ∈ gx_G := gx_2 (List.mem_of_getElem? (i := 233) rfl) rfl
theorem mw_474 : (Jvm.Cond.static ({ cls := "java/lang/Math", name := "abs", desc := "(J)J" } : Jvm.MethodName)) ∈ gx_G := gx_2 (List.mem_of_getElem? (i := 234) rfl) rfl
theorem mw_475 : (Jvm.Cond.code ({ cls := "java/lang/Math", name := "abs", desc := "(J)J" } : Jvm.MethodName) prog_15_method_61_code (2 : Nat) (Option.some Jvm.ClassFile.FieldType.long)) ∈ gx_G := gx_2 (List.mem_of_getElem? (i := 235) rfl) rfl
theorem mw_476 : (Jvm.Cond.methodLink "LeanSets" (186 : Nat) ({ cls := "java/lang/Math", name := "max", desc := "(JJ)J" } : Jvm.MethodName)) ∈ gx_G := gx_2 (List.mem_of_getElem? (i := 236) rfl) rfl
theorem mw_477 : (Jvm.Cond.static ({ cls := "java/lang/Math", name := "max", desc := "(JJ)J" } : Jvm.MethodName)) ∈ gx_G := gx_2 (List.mem_of_getElem? (i := 237) rfl) rfl
theorem mw_478 : (Jvm.Cond.code ({ cls := "java/lang/Math", name := "max", desc := "(JJ)J" } : Jvm.MethodName) prog_15_method_66_code (4 : Nat) (Option.some Jvm.ClassFile.FieldType.long)) ∈ gx_G := gx_2 (List.mem_of_getElem? (i := 238) rfl) rfl
theorem mw_597 : (Jvm.Cond.instanceMethod ({ cls := "LeanSets$SetTable", name := "findLowest", desc := "(II)V" } : Jvm.MethodName)) ∈ gx_G := gx_3 (List.mem_of_getElem? (i := 117) rfl) rfl
theorem mw_598 : (Jvm.Cond.selects "LeanSets$SetTable" ({ cls := "LeanSets$SetTable", name := "findLowest", desc := "(II)V" } : Jvm.MethodName) ({ cls := "LeanSets$SetTable", name := "findLowest", desc := "(II)V" } : Jvm.MethodName)) ∈ gx_G := gx_3 (List.mem_of_getElem? (i := 118) rfl) rfl
theorem mw_599 : (Jvm.Cond.code ({ cls := "LeanSets$SetTable", name := "findLowest", desc := "(II)V" } : Jvm.MethodName) prog_4_method_7_code (5 : Nat) (Option.none : Option Jvm.ClassFile.FieldType)) ∈ gx_G := gx_3 (List.mem_of_getElem? (i := 119) rfl) rfl
theorem mw_628 : (Jvm.Cond.instanceMethod ({ cls := "LeanSets$SetTable", name := "gain", desc := "(II)J" } : Jvm.MethodName)) ∈ gx_G := gx_3 (List.mem_of_getElem? (i := 148) rfl) rfl
theorem mw_629 : (Jvm.Cond.selects "LeanSets$SetTable" ({ cls := "LeanSets$SetTable", name := "gain", desc := "(II)J" } : Jvm.MethodName) ({ cls := "LeanSets$SetTable", name := "gain", desc := "(II)J" } : Jvm.MethodName)) ∈ gx_G := gx_3 (List.mem_of_getElem? (i := 149) rfl) rfl
theorem mw_630 : (Jvm.Cond.code ({ cls := "LeanSets$SetTable", name := "gain", desc := "(II)J" } : Jvm.MethodName) prog_4_method_6_code (3 : Nat) (Option.some Jvm.ClassFile.FieldType.long)) ∈ gx_G := gx_3 (List.mem_of_getElem? (i := 150) rfl) rfl
theorem mw_694 : (Jvm.Cond.methodLink "LeanSets$ChainCheck" (33 : Nat) ({ cls := "LeanSets$ChainCheck", name := "makeWhole", desc := "(LLeanSets$Chain;I)V" } : Jvm.MethodName)) ∈ gx_G := gx_3 (List.mem_of_getElem? (i := 214) rfl) rfl
theorem mw_696 : (Jvm.Cond.instanceMethod ({ cls := "LeanSets$ChainCheck", name := "makeWhole", desc := "(LLeanSets$Chain;I)V" } : Jvm.MethodName)) ∈ gx_G := gx_3 (List.mem_of_getElem? (i := 216) rfl) rfl
theorem mw_697 : (Jvm.Cond.code ({ cls := "LeanSets$ChainCheck", name := "makeWhole", desc := "(LLeanSets$Chain;I)V" } : Jvm.MethodName) prog_3_method_3_code (5 : Nat) (Option.none : Option Jvm.ClassFile.FieldType)) ∈ gx_G := gx_3 (List.mem_of_getElem? (i := 217) rfl) rfl
theorem mw_699 : (Jvm.Cond.methodLink "LeanSets$ChainCheck" (71 : Nat) ({ cls := "java/lang/Math", name := "max", desc := "(JJ)J" } : Jvm.MethodName)) ∈ gx_G := gx_3 (List.mem_of_getElem? (i := 219) rfl) rfl
theorem mw_700 : (Jvm.Cond.methodLink "LeanSets$ChainCheck" (37 : Nat) ({ cls := "LeanSets$ChainCheck", name := "makeExtremes", desc := "(LLeanSets$SetTable;)V" } : Jvm.MethodName)) ∈ gx_G := gx_3 (List.mem_of_getElem? (i := 220) rfl) rfl
theorem mw_702 : (Jvm.Cond.instanceMethod ({ cls := "LeanSets$ChainCheck", name := "makeExtremes", desc := "(LLeanSets$SetTable;)V" } : Jvm.MethodName)) ∈ gx_G := gx_3 (List.mem_of_getElem? (i := 222) rfl) rfl
theorem mw_703 : (Jvm.Cond.code ({ cls := "LeanSets$ChainCheck", name := "makeExtremes", desc := "(LLeanSets$SetTable;)V" } : Jvm.MethodName) prog_3_method_5_code (5 : Nat) (Option.none : Option Jvm.ClassFile.FieldType)) ∈ gx_G := gx_3 (List.mem_of_getElem? (i := 223) rfl) rfl
theorem mw_704 : (Jvm.Cond.methodLink "LeanSets$ChainCheck" (97 : Nat) ({ cls := "LeanSets$ChainCheck", name := "sortByPoint", desc := "(I)V" } : Jvm.MethodName)) ∈ gx_G := gx_3 (List.mem_of_getElem? (i := 224) rfl) rfl
theorem mw_706 : (Jvm.Cond.instanceMethod ({ cls := "LeanSets$ChainCheck", name := "sortByPoint", desc := "(I)V" } : Jvm.MethodName)) ∈ gx_G := gx_3 (List.mem_of_getElem? (i := 226) rfl) rfl
theorem mw_707 : (Jvm.Cond.code ({ cls := "LeanSets$ChainCheck", name := "sortByPoint", desc := "(I)V" } : Jvm.MethodName) prog_3_method_6_code (4 : Nat) (Option.none : Option Jvm.ClassFile.FieldType)) ∈ gx_G := gx_3 (List.mem_of_getElem? (i := 227) rfl) rfl
theorem mw_708 : (Jvm.Cond.methodLink "LeanSets$ChainCheck" (101 : Nat) ({ cls := "LeanSets$SetTable", name := "gain", desc := "(II)J" } : Jvm.MethodName)) ∈ gx_G := gx_3 (List.mem_of_getElem? (i := 228) rfl) rfl
theorem mw_709 : (Jvm.Cond.methodLink "LeanSets$ChainCheck" (41 : Nat) ({ cls := "LeanSets$ChainCheck", name := "liesBelow", desc := "(LLeanSets$SetTable;)Z" } : Jvm.MethodName)) ∈ gx_G := gx_3 (List.mem_of_getElem? (i := 229) rfl) rfl
theorem mw_711 : (Jvm.Cond.instanceMethod ({ cls := "LeanSets$ChainCheck", name := "liesBelow", desc := "(LLeanSets$SetTable;)Z" } : Jvm.MethodName)) ∈ gx_G := gx_3 (List.mem_of_getElem? (i := 231) rfl) rfl
theorem mw_712 : (Jvm.Cond.code ({ cls := "LeanSets$ChainCheck", name := "liesBelow", desc := "(LLeanSets$SetTable;)Z" } : Jvm.MethodName) prog_3_method_4_code (3 : Nat) (Option.some Jvm.ClassFile.FieldType.boolean)) ∈ gx_G := gx_3 (List.mem_of_getElem? (i := 232) rfl) rfl
theorem mw_713 : (Jvm.Cond.methodLink "LeanSets$ChainCheck" (76 : Nat) ({ cls := "LeanSets$SetTable", name := "copy", desc := "(LLeanSets$SetTable;J)V" } : Jvm.MethodName)) ∈ gx_G := gx_3 (List.mem_of_getElem? (i := 233) rfl) rfl
theorem mw_714 : (Jvm.Cond.methodLink "LeanSets$ChainCheck" (80 : Nat) ({ cls := "LeanSets$SetTable", name := "add", desc := "(IIJ)V" } : Jvm.MethodName)) ∈ gx_G := gx_3 (List.mem_of_getElem? (i := 234) rfl) rfl
theorem mw_715 : (Jvm.Cond.methodLink "LeanSets$ChainCheck" (84 : Nat) ({ cls := "LeanSets$SetTable", name := "findLowest", desc := "(II)V" } : Jvm.MethodName)) ∈ gx_G := gx_3 (List.mem_of_getElem? (i := 235) rfl) rfl
theorem mw_716 : (Jvm.Cond.methodLink "LeanSets$ChainCheck" (45 : Nat) ({ cls := "LeanSets$ChainCheck", name := "hasSameSums", desc := "(LLeanSets$Chain;I)Z" } : Jvm.MethodName)) ∈ gx_G := gx_3 (List.mem_of_getElem? (i := 236) rfl) rfl
theorem mw_718 : (Jvm.Cond.instanceMethod ({ cls := "LeanSets$ChainCheck", name := "hasSameSums", desc := "(LLeanSets$Chain;I)Z" } : Jvm.MethodName)) ∈ gx_G := gx_3 (List.mem_of_getElem? (i := 238) rfl) rfl
theorem mw_719 : (Jvm.Cond.code ({ cls := "LeanSets$ChainCheck", name := "hasSameSums", desc := "(LLeanSets$Chain;I)Z" } : Jvm.MethodName) prog_3_method_7_code (8 : Nat) (Option.some Jvm.ClassFile.FieldType.boolean)) ∈ gx_G := gx_3 (List.mem_of_getElem? (i := 239) rfl) rfl
theorem mw_720 : (Jvm.Cond.methodLink "LeanSets$ChainCheck" (105 : Nat) ({ cls := "LeanSets$Chain", name := "comeIn", desc := "(I)I" } : Jvm.MethodName)) ∈ gx_G := gx_4 (List.mem_of_getElem? (i := 0) rfl) rfl
theorem mw_721 : (Jvm.Cond.instanceMethod ({ cls := "LeanSets$Chain", name := "comeIn", desc := "(I)I" } : Jvm.MethodName)) ∈ gx_G := gx_4 (List.mem_of_getElem? (i := 1) rfl) rfl
theorem mw_722 : (Jvm.Cond.selects "LeanSets$Chain" ({ cls := "LeanSets$Chain", name := "comeIn", desc := "(I)I" } : Jvm.MethodName) ({ cls := "LeanSets$Chain", name := "comeIn", desc := "(I)I" } : Jvm.MethodName)) ∈ gx_G := gx_4 (List.mem_of_getElem? (i := 2) rfl) rfl
theorem mw_723 : (Jvm.Cond.code ({ cls := "LeanSets$Chain", name := "comeIn", desc := "(I)I" } : Jvm.MethodName) prog_2_method_6_code (2 : Nat) (Option.some Jvm.ClassFile.FieldType.int)) ∈ gx_G := gx_4 (List.mem_of_getElem? (i := 3) rfl) rfl
theorem mw_730 : (Jvm.Cond.fieldLink "LeanSetsModel" (54 : Nat) "LeanSetsModel" "thrown" "I") ∈ gx_G := gx_4 (List.mem_of_getElem? (i := 10) rfl) rfl
theorem mw_731 : (Jvm.Cond.fieldLink "LeanSetsModel" (7 : Nat) "LeanSetsModel" "text" "[I") ∈ gx_G := gx_4 (List.mem_of_getElem? (i := 11) rfl) rfl
theorem mw_732 : (Jvm.Cond.fieldLink "LeanSetsModel" (57 : Nat) "LeanSetsModel" "length" "I") ∈ gx_G := gx_4 (List.mem_of_getElem? (i := 12) rfl) rfl
theorem mw_733 : (Jvm.Cond.fieldLink "LeanSetsModel" (13 : Nat) "LeanSetsModel" "wrong" "I") ∈ gx_G := gx_4 (List.mem_of_getElem? (i := 13) rfl) rfl
theorem mw_734 : (Jvm.Cond.fieldLink "LeanSetsModel" (17 : Nat) "LeanSetsModel" "kinds" "[I") ∈ gx_G := gx_4 (List.mem_of_getElem? (i := 14) rfl) rfl
theorem mw_735 : (Jvm.Cond.fieldLink "LeanSetsModel" (20 : Nat) "LeanSetsModel" "places" "[I") ∈ gx_G := gx_4 (List.mem_of_getElem? (i := 15) rfl) rfl
theorem mw_736 : (Jvm.Cond.fieldLink "LeanSetsModel" (23 : Nat) "LeanSetsModel" "numbers" "[I") ∈ gx_G := gx_4 (List.mem_of_getElem? (i := 16) rfl) rfl
theorem mw_737 : (Jvm.Cond.fieldLink "LeanSetsModel" (76 : Nat) "LeanSetsModel" "words" "I") ∈ gx_G := gx_4 (List.mem_of_getElem? (i := 17) rfl) rfl
theorem mw_738 : (Jvm.Cond.fieldLink "LeanSetsModel" (101 : Nat) "LeanSetsModel" "at" "I") ∈ gx_G := gx_4 (List.mem_of_getElem? (i := 18) rfl) rfl
theorem mw_739 : (Jvm.Cond.fieldLink "LeanSetsModel" (159 : Nat) "LeanSetsModel" "known" "Z") ∈ gx_G := gx_4 (List.mem_of_getElem? (i := 19) rfl) rfl
theorem mw_740 : (Jvm.Cond.fieldLink "LeanSetsModel" (163 : Nat) "LeanSetsModel" "n" "I") ∈ gx_G := gx_4 (List.mem_of_getElem? (i := 20) rfl) rfl
theorem mw_741 : (Jvm.Cond.fieldLink "LeanSetsModel" (26 : Nat) "LeanSetsModel" "many" "[I") ∈ gx_G := gx_4 (List.mem_of_getElem? (i := 21) rfl) rfl
theorem mw_742 : (Jvm.Cond.fieldLink "LeanSetsModel" (29 : Nat) "LeanSetsModel" "all" "[I") ∈ gx_G := gx_4 (List.mem_of_getElem? (i := 22) rfl) rfl
theorem mw_743 : (Jvm.Cond.fieldLink "LeanSetsModel" (127 : Nat) "LeanSetsModel" "draftSize" "I") ∈ gx_G := gx_4 (List.mem_of_getElem? (i := 23) rfl) rfl
theorem mw_744 : (Jvm.Cond.fieldLink "LeanSetsModel" (32 : Nat) "LeanSetsModel" "draftMany" "[I") ∈ gx_G := gx_4 (List.mem_of_getElem? (i := 24) rfl) rfl
theorem mw_745 : (Jvm.Cond.fieldLink "LeanSetsModel" (35 : Nat) "LeanSetsModel" "draft" "[I") ∈ gx_G := gx_4 (List.mem_of_getElem? (i := 25) rfl) rfl
theorem mw_746 : (Jvm.Cond.fieldLink "LeanSetsModel" (117 : Nat) "LeanSetsModel" "fault" "I") ∈ gx_G := gx_4 (List.mem_of_getElem? (i := 26) rfl) rfl
theorem mw_747 : (Jvm.Cond.fieldLink "LeanSetsModel" (120 : Nat) "LeanSetsModel" "faultPlace" "I") ∈ gx_G := gx_4 (List.mem_of_getElem? (i := 27) rfl) rfl
theorem mw_748 : (Jvm.Cond.fieldLink "LeanSetsModel" (38 : Nat) "LeanSetsModel" "vector" "[I") ∈ gx_G := gx_4 (List.mem_of_getElem? (i := 28) rfl) rfl
theorem mw_749 : (Jvm.Cond.fieldLink "LeanSetsModel" (41 : Nat) "LeanSetsModel" "heights" "[I") ∈ gx_G := gx_4 (List.mem_of_getElem? (i := 29) rfl) rfl
theorem mw_750 : (Jvm.Cond.fieldLink "LeanSetsModel" (180 : Nat) "LeanSetsModel" "turns" "I") ∈ gx_G := gx_4 (List.mem_of_getElem? (i := 30) rfl) rfl
theorem mw_751 : (Jvm.Cond.fieldLink "LeanSetsModel" (44 : Nat) "LeanSetsModel" "above" "[J") ∈ gx_G := gx_4 (List.mem_of_getElem? (i := 31) rfl) rfl
theorem mw_752 : (Jvm.Cond.fieldLink "LeanSetsModel" (48 : Nat) "LeanSetsModel" "below" "[J") ∈ gx_G := gx_4 (List.mem_of_getElem? (i := 32) rfl) rfl
theorem mw_753 : (Jvm.Cond.fieldLink "LeanSetsModel" (51 : Nat) "LeanSetsModel" "sets" "[I") ∈ gx_G := gx_4 (List.mem_of_getElem? (i := 33) rfl) rfl
theorem mw_754 : (Jvm.Cond.lays "LeanSetsModel" "LeanSetsModel" "thrown" "I") ∈ gx_G := gx_4 (List.mem_of_getElem? (i := 34) rfl) rfl
theorem mw_756 : (Jvm.Cond.laysFinal "LeanSetsModel" "LeanSetsModel" "text" "[I") ∈ gx_G := gx_4 (List.mem_of_getElem? (i := 36) rfl) rfl
theorem mw_758 : (Jvm.Cond.lays "LeanSetsModel" "LeanSetsModel" "length" "I") ∈ gx_G := gx_4 (List.mem_of_getElem? (i := 38) rfl) rfl
theorem mw_760 : (Jvm.Cond.lays "LeanSetsModel" "LeanSetsModel" "wrong" "I") ∈ gx_G := gx_4 (List.mem_of_getElem? (i := 40) rfl) rfl
theorem mw_762 : (Jvm.Cond.laysFinal "LeanSetsModel" "LeanSetsModel" "kinds" "[I") ∈ gx_G := gx_4 (List.mem_of_getElem? (i := 42) rfl) rfl
theorem mw_764 : (Jvm.Cond.laysFinal "LeanSetsModel" "LeanSetsModel" "places" "[I") ∈ gx_G := gx_4 (List.mem_of_getElem? (i := 44) rfl) rfl
theorem mw_766 : (Jvm.Cond.laysFinal "LeanSetsModel" "LeanSetsModel" "numbers" "[I") ∈ gx_G := gx_4 (List.mem_of_getElem? (i := 46) rfl) rfl
theorem mw_768 : (Jvm.Cond.lays "LeanSetsModel" "LeanSetsModel" "words" "I") ∈ gx_G := gx_4 (List.mem_of_getElem? (i := 48) rfl) rfl
theorem mw_770 : (Jvm.Cond.lays "LeanSetsModel" "LeanSetsModel" "at" "I") ∈ gx_G := gx_4 (List.mem_of_getElem? (i := 50) rfl) rfl
theorem mw_772 : (Jvm.Cond.lays "LeanSetsModel" "LeanSetsModel" "known" "Z") ∈ gx_G := gx_4 (List.mem_of_getElem? (i := 52) rfl) rfl
theorem mw_774 : (Jvm.Cond.lays "LeanSetsModel" "LeanSetsModel" "n" "I") ∈ gx_G := gx_4 (List.mem_of_getElem? (i := 54) rfl) rfl
theorem mw_776 : (Jvm.Cond.laysFinal "LeanSetsModel" "LeanSetsModel" "many" "[I") ∈ gx_G := gx_4 (List.mem_of_getElem? (i := 56) rfl) rfl
theorem mw_778 : (Jvm.Cond.laysFinal "LeanSetsModel" "LeanSetsModel" "all" "[I") ∈ gx_G := gx_4 (List.mem_of_getElem? (i := 58) rfl) rfl
theorem mw_780 : (Jvm.Cond.lays "LeanSetsModel" "LeanSetsModel" "draftSize" "I") ∈ gx_G := gx_4 (List.mem_of_getElem? (i := 60) rfl) rfl
theorem mw_782 : (Jvm.Cond.laysFinal "LeanSetsModel" "LeanSetsModel" "draftMany" "[I") ∈ gx_G := gx_4 (List.mem_of_getElem? (i := 62) rfl) rfl
theorem mw_784 : (Jvm.Cond.laysFinal "LeanSetsModel" "LeanSetsModel" "draft" "[I") ∈ gx_G := gx_4 (List.mem_of_getElem? (i := 64) rfl) rfl
theorem mw_786 : (Jvm.Cond.lays "LeanSetsModel" "LeanSetsModel" "fault" "I") ∈ gx_G := gx_4 (List.mem_of_getElem? (i := 66) rfl) rfl
theorem mw_788 : (Jvm.Cond.lays "LeanSetsModel" "LeanSetsModel" "faultPlace" "I") ∈ gx_G := gx_4 (List.mem_of_getElem? (i := 68) rfl) rfl
theorem mw_790 : (Jvm.Cond.laysFinal "LeanSetsModel" "LeanSetsModel" "vector" "[I") ∈ gx_G := gx_4 (List.mem_of_getElem? (i := 70) rfl) rfl
theorem mw_792 : (Jvm.Cond.laysFinal "LeanSetsModel" "LeanSetsModel" "heights" "[I") ∈ gx_G := gx_4 (List.mem_of_getElem? (i := 72) rfl) rfl
theorem mw_794 : (Jvm.Cond.lays "LeanSetsModel" "LeanSetsModel" "turns" "I") ∈ gx_G := gx_4 (List.mem_of_getElem? (i := 74) rfl) rfl
theorem mw_796 : (Jvm.Cond.laysFinal "LeanSetsModel" "LeanSetsModel" "above" "[J") ∈ gx_G := gx_4 (List.mem_of_getElem? (i := 76) rfl) rfl
theorem mw_798 : (Jvm.Cond.laysFinal "LeanSetsModel" "LeanSetsModel" "below" "[J") ∈ gx_G := gx_4 (List.mem_of_getElem? (i := 78) rfl) rfl
theorem mw_800 : (Jvm.Cond.laysFinal "LeanSetsModel" "LeanSetsModel" "sets" "[I") ∈ gx_G := gx_4 (List.mem_of_getElem? (i := 80) rfl) rfl
theorem mw_811 : (Jvm.Cond.constantLong "LeanSetsModel" (60 : Nat) (255 : Int64)) ∈ gx_G := gx_4 (List.mem_of_getElem? (i := 91) rfl) rfl
theorem mw_812 : (Jvm.Cond.constantLong "LeanSetsModel" (62 : Nat) (32 : Int64)) ∈ gx_G := gx_4 (List.mem_of_getElem? (i := 92) rfl) rfl
theorem mw_813 : (Jvm.Cond.constantLong "LeanSetsModel" (64 : Nat) (126 : Int64)) ∈ gx_G := gx_4 (List.mem_of_getElem? (i := 93) rfl) rfl
theorem mw_818 : (Jvm.Cond.methodLink "LeanSetsModel" (150 : Nat) ({ cls := "LeanSetsModel", name := "cut", desc := "()V" } : Jvm.MethodName)) ∈ gx_G := gx_4 (List.mem_of_getElem? (i := 98) rfl) rfl
theorem mw_820 : (Jvm.Cond.instanceMethod ({ cls := "LeanSetsModel", name := "cut", desc := "()V" } : Jvm.MethodName)) ∈ gx_G := gx_4 (List.mem_of_getElem? (i := 100) rfl) rfl
theorem mw_821 : (Jvm.Cond.code ({ cls := "LeanSetsModel", name := "cut", desc := "()V" } : Jvm.MethodName) prog_9_method_10_code (7 : Nat) (Option.none : Option Jvm.ClassFile.FieldType)) ∈ gx_G := gx_4 (List.mem_of_getElem? (i := 101) rfl) rfl
theorem mw_822 : (Jvm.Cond.methodLink "LeanSetsModel" (79 : Nat) ({ cls := "LeanSetsModel", name := "signKind", desc := "(I)I" } : Jvm.MethodName)) ∈ gx_G := gx_4 (List.mem_of_getElem? (i := 102) rfl) rfl
theorem mw_823 : (Jvm.Cond.static ({ cls := "LeanSetsModel", name := "signKind", desc := "(I)I" } : Jvm.MethodName)) ∈ gx_G := gx_4 (List.mem_of_getElem? (i := 103) rfl) rfl
theorem mw_824 : (Jvm.Cond.code ({ cls := "LeanSetsModel", name := "signKind", desc := "(I)I" } : Jvm.MethodName) prog_9_method_9_code (1 : Nat) (Option.some Jvm.ClassFile.FieldType.int)) ∈ gx_G := gx_4 (List.mem_of_getElem? (i := 104) rfl) rfl
theorem mw_825 : (Jvm.Cond.methodLink "LeanSetsModel" (83 : Nat) ({ cls := "LeanSetsModel", name := "isLetter", desc := "(I)Z" } : Jvm.MethodName)) ∈ gx_G := gx_4 (List.mem_of_getElem? (i := 105) rfl) rfl
theorem mw_826 : (Jvm.Cond.static ({ cls := "LeanSetsModel", name := "isLetter", desc := "(I)Z" } : Jvm.MethodName)) ∈ gx_G := gx_4 (List.mem_of_getElem? (i := 106) rfl) rfl
theorem mw_827 : (Jvm.Cond.code ({ cls := "LeanSetsModel", name := "isLetter", desc := "(I)Z" } : Jvm.MethodName) prog_9_method_4_code (1 : Nat) (Option.some Jvm.ClassFile.FieldType.boolean)) ∈ gx_G := gx_4 (List.mem_of_getElem? (i := 107) rfl) rfl
theorem mw_828 : (Jvm.Cond.methodLink "LeanSetsModel" (87 : Nat) ({ cls := "LeanSetsModel", name := "letter", desc := "(I)I" } : Jvm.MethodName)) ∈ gx_G := gx_4 (List.mem_of_getElem? (i := 108) rfl) rfl
theorem mw_830 : (Jvm.Cond.instanceMethod ({ cls := "LeanSetsModel", name := "letter", desc := "(I)I" } : Jvm.MethodName)) ∈ gx_G := gx_4 (List.mem_of_getElem? (i := 110) rfl) rfl
theorem mw_831 : (Jvm.Cond.code ({ cls := "LeanSetsModel", name := "letter", desc := "(I)I" } : Jvm.MethodName) prog_9_method_6_code (2 : Nat) (Option.some Jvm.ClassFile.FieldType.int)) ∈ gx_G := gx_4 (List.mem_of_getElem? (i := 111) rfl) rfl
theorem mw_832 : (Jvm.Cond.methodLink "LeanSetsModel" (90 : Nat) ({ cls := "LeanSetsModel", name := "spelled", desc := "(II)J" } : Jvm.MethodName)) ∈ gx_G := gx_4 (List.mem_of_getElem? (i := 112) rfl) rfl
theorem mw_834 : (Jvm.Cond.instanceMethod ({ cls := "LeanSetsModel", name := "spelled", desc := "(II)J" } : Jvm.MethodName)) ∈ gx_G := gx_4 (List.mem_of_getElem? (i := 114) rfl) rfl
theorem mw_835 : (Jvm.Cond.code ({ cls := "LeanSetsModel", name := "spelled", desc := "(II)J" } : Jvm.MethodName) prog_9_method_7_code (6 : Nat) (Option.some Jvm.ClassFile.FieldType.long)) ∈ gx_G := gx_4 (List.mem_of_getElem? (i := 115) rfl) rfl
theorem mw_836 : (Jvm.Cond.constantLong "LeanSetsModel" (66 : Nat) (128 : Int64)) ∈ gx_G := gx_4 (List.mem_of_getElem? (i := 116) rfl) rfl
theorem mw_837 : (Jvm.Cond.methodLink "LeanSetsModel" (94 : Nat) ({ cls := "LeanSetsModel", name := "nameKind", desc := "(J)I" } : Jvm.MethodName)) ∈ gx_G := gx_4 (List.mem_of_getElem? (i := 117) rfl) rfl
theorem mw_838 : (Jvm.Cond.static ({ cls := "LeanSetsModel", name := "nameKind", desc := "(J)I" } : Jvm.MethodName)) ∈ gx_G := gx_4 (List.mem_of_getElem? (i := 118) rfl) rfl
theorem mw_839 : (Jvm.Cond.code ({ cls := "LeanSetsModel", name := "nameKind", desc := "(J)I" } : Jvm.MethodName) prog_9_method_8_code (2 : Nat) (Option.some Jvm.ClassFile.FieldType.int)) ∈ gx_G := gx_4 (List.mem_of_getElem? (i := 119) rfl) rfl
theorem mw_840 : (Jvm.Cond.constantLong "LeanSetsModel" (68 : Nat) (242908517 : Int64)) ∈ gx_G := gx_4 (List.mem_of_getElem? (i := 120) rfl) rfl
theorem mw_841 : (Jvm.Cond.constantLong "LeanSetsModel" (70 : Nat) (4116142748788 : Int64)) ∈ gx_G := gx_4 (List.mem_of_getElem? (i := 121) rfl) rfl
theorem mw_842 : (Jvm.Cond.constantLong "LeanSetsModel" (72 : Nat) (1603939 : Int64)) ∈ gx_G := gx_4 (List.mem_of_getElem? (i := 122) rfl) rfl
theorem mw_843 : (Jvm.Cond.constantLong "LeanSetsModel" (74 : Nat) (26822359909 : Int64)) ∈ gx_G := gx_4 (List.mem_of_getElem? (i := 123) rfl) rfl
theorem mw_844 : (Jvm.Cond.methodLink "LeanSetsModel" (98 : Nat) ({ cls := "LeanSetsModel", name := "isDigit", desc := "(I)Z" } : Jvm.MethodName)) ∈ gx_G := gx_4 (List.mem_of_getElem? (i := 124) rfl) rfl
theorem mw_845 : (Jvm.Cond.static ({ cls := "LeanSetsModel", name := "isDigit", desc := "(I)Z" } : Jvm.MethodName)) ∈ gx_G := gx_4 (List.mem_of_getElem? (i := 125) rfl) rfl
theorem mw_846 : (Jvm.Cond.code ({ cls := "LeanSetsModel", name := "isDigit", desc := "(I)Z" } : Jvm.MethodName) prog_9_method_5_code (1 : Nat) (Option.some Jvm.ClassFile.FieldType.boolean)) ∈ gx_G := gx_4 (List.mem_of_getElem? (i := 126) rfl) rfl
theorem mw_847 : (Jvm.Cond.methodLink "LeanSetsModel" (153 : Nat) ({ cls := "LeanSetsModel", name := "isText", desc := "()Z" } : Jvm.MethodName)) ∈ gx_G := gx_4 (List.mem_of_getElem? (i := 127) rfl) rfl
theorem mw_849 : (Jvm.Cond.instanceMethod ({ cls := "LeanSetsModel", name := "isText", desc := "()Z" } : Jvm.MethodName)) ∈ gx_G := gx_4 (List.mem_of_getElem? (i := 129) rfl) rfl
theorem mw_850 : (Jvm.Cond.code ({ cls := "LeanSetsModel", name := "isText", desc := "()Z" } : Jvm.MethodName) prog_9_method_15_code (2 : Nat) (Option.some Jvm.ClassFile.FieldType.boolean)) ∈ gx_G := gx_4 (List.mem_of_getElem? (i := 130) rfl) rfl
theorem mw_851 : (Jvm.Cond.methodLink "LeanSetsModel" (104 : Nat) ({ cls := "LeanSetsModel", name := "is", desc := "(I)Z" } : Jvm.MethodName)) ∈ gx_G := gx_4 (List.mem_of_getElem? (i := 131) rfl) rfl
theorem mw_853 : (Jvm.Cond.instanceMethod ({ cls := "LeanSetsModel", name := "is", desc := "(I)Z" } : Jvm.MethodName)) ∈ gx_G := gx_4 (List.mem_of_getElem? (i := 133) rfl) rfl
theorem mw_854 : (Jvm.Cond.code ({ cls := "LeanSetsModel", name := "is", desc := "(I)Z" } : Jvm.MethodName) prog_9_method_11_code (3 : Nat) (Option.some Jvm.ClassFile.FieldType.boolean)) ∈ gx_G := gx_4 (List.mem_of_getElem? (i := 134) rfl) rfl
theorem mw_855 : (Jvm.Cond.methodLink "LeanSetsModel" (114 : Nat) ({ cls := "LeanSetsModel", name := "isTerm", desc := "()Z" } : Jvm.MethodName)) ∈ gx_G := gx_4 (List.mem_of_getElem? (i := 135) rfl) rfl
theorem mw_857 : (Jvm.Cond.instanceMethod ({ cls := "LeanSetsModel", name := "isTerm", desc := "()Z" } : Jvm.MethodName)) ∈ gx_G := gx_4 (List.mem_of_getElem? (i := 137) rfl) rfl
theorem mw_858 : (Jvm.Cond.code ({ cls := "LeanSetsModel", name := "isTerm", desc := "()Z" } : Jvm.MethodName) prog_9_method_14_code (1 : Nat) (Option.some Jvm.ClassFile.FieldType.boolean)) ∈ gx_G := gx_4 (List.mem_of_getElem? (i := 138) rfl) rfl
theorem mw_859 : (Jvm.Cond.methodLink "LeanSetsModel" (107 : Nat) ({ cls := "LeanSetsModel", name := "isValue", desc := "()Z" } : Jvm.MethodName)) ∈ gx_G := gx_4 (List.mem_of_getElem? (i := 139) rfl) rfl
theorem mw_861 : (Jvm.Cond.instanceMethod ({ cls := "LeanSetsModel", name := "isValue", desc := "()Z" } : Jvm.MethodName)) ∈ gx_G := gx_4 (List.mem_of_getElem? (i := 141) rfl) rfl
theorem mw_862 : (Jvm.Cond.code ({ cls := "LeanSetsModel", name := "isValue", desc := "()Z" } : Jvm.MethodName) prog_9_method_12_code (2 : Nat) (Option.some Jvm.ClassFile.FieldType.boolean)) ∈ gx_G := gx_4 (List.mem_of_getElem? (i := 142) rfl) rfl
theorem mw_863 : (Jvm.Cond.methodLink "LeanSetsModel" (111 : Nat) ({ cls := "LeanSetsModel", name := "isCurve", desc := "()Z" } : Jvm.MethodName)) ∈ gx_G := gx_4 (List.mem_of_getElem? (i := 143) rfl) rfl
theorem mw_865 : (Jvm.Cond.instanceMethod ({ cls := "LeanSetsModel", name := "isCurve", desc := "()Z" } : Jvm.MethodName)) ∈ gx_G := gx_4 (List.mem_of_getElem? (i := 145) rfl) rfl
theorem mw_866 : (Jvm.Cond.code ({ cls := "LeanSetsModel", name := "isCurve", desc := "()Z" } : Jvm.MethodName) prog_9_method_13_code (2 : Nat) (Option.some Jvm.ClassFile.FieldType.boolean)) ∈ gx_G := gx_4 (List.mem_of_getElem? (i := 146) rfl) rfl
theorem mw_867 : (Jvm.Cond.methodLink "LeanSetsModel" (156 : Nat) ({ cls := "LeanSetsModel", name := "build", desc := "()V" } : Jvm.MethodName)) ∈ gx_G := gx_4 (List.mem_of_getElem? (i := 147) rfl) rfl
theorem mw_869 : (Jvm.Cond.instanceMethod ({ cls := "LeanSetsModel", name := "build", desc := "()V" } : Jvm.MethodName)) ∈ gx_G := gx_4 (List.mem_of_getElem? (i := 149) rfl) rfl
theorem mw_870 : (Jvm.Cond.code ({ cls := "LeanSetsModel", name := "build", desc := "()V" } : Jvm.MethodName) prog_9_method_21_code (2 : Nat) (Option.none : Option Jvm.ClassFile.FieldType)) ∈ gx_G := gx_4 (List.mem_of_getElem? (i := 150) rfl) rfl
theorem mw_871 : (Jvm.Cond.methodLink "LeanSetsModel" (130 : Nat) ({ cls := "LeanSetsModel", name := "stop", desc := "(II)V" } : Jvm.MethodName)) ∈ gx_G := gx_4 (List.mem_of_getElem? (i := 151) rfl) rfl
theorem mw_873 : (Jvm.Cond.instanceMethod ({ cls := "LeanSetsModel", name := "stop", desc := "(II)V" } : Jvm.MethodName)) ∈ gx_G := gx_4 (List.mem_of_getElem? (i := 153) rfl) rfl
theorem mw_874 : (Jvm.Cond.code ({ cls := "LeanSetsModel", name := "stop", desc := "(II)V" } : Jvm.MethodName) prog_9_method_16_code (3 : Nat) (Option.none : Option Jvm.ClassFile.FieldType)) ∈ gx_G := gx_4 (List.mem_of_getElem? (i := 154) rfl) rfl
theorem mw_875 : (Jvm.Cond.methodLink "LeanSetsModel" (134 : Nat) ({ cls := "LeanSetsModel", name := "term", desc := "()V" } : Jvm.MethodName)) ∈ gx_G := gx_4 (List.mem_of_getElem? (i := 155) rfl) rfl
theorem mw_877 : (Jvm.Cond.instanceMethod ({ cls := "LeanSetsModel", name := "term", desc := "()V" } : Jvm.MethodName)) ∈ gx_G := gx_4 (List.mem_of_getElem? (i := 157) rfl) rfl
theorem mw_878 : (Jvm.Cond.code ({ cls := "LeanSetsModel", name := "term", desc := "()V" } : Jvm.MethodName) prog_9_method_22_code (8 : Nat) (Option.none : Option Jvm.ClassFile.FieldType)) ∈ gx_G := gx_4 (List.mem_of_getElem? (i := 158) rfl) rfl
theorem mw_879 : (Jvm.Cond.methodLink "LeanSetsModel" (137 : Nat) ({ cls := "LeanSetsModel", name := "curve", desc := "()V" } : Jvm.MethodName)) ∈ gx_G := gx_4 (List.mem_of_getElem? (i := 159) rfl) rfl
theorem mw_881 : (Jvm.Cond.instanceMethod ({ cls := "LeanSetsModel", name := "curve", desc := "()V" } : Jvm.MethodName)) ∈ gx_G := gx_4 (List.mem_of_getElem? (i := 161) rfl) rfl
theorem mw_882 : (Jvm.Cond.code ({ cls := "LeanSetsModel", name := "curve", desc := "()V" } : Jvm.MethodName) prog_9_method_23_code (6 : Nat) (Option.none : Option Jvm.ClassFile.FieldType)) ∈ gx_G := gx_4 (List.mem_of_getElem? (i := 162) rfl) rfl
theorem mw_883 : (Jvm.Cond.methodLink "LeanSetsModel" (123 : Nat) ({ cls := "LeanSetsModel", name := "has", desc := "(II)Z" } : Jvm.MethodName)) ∈ gx_G := gx_4 (List.mem_of_getElem? (i := 163) rfl) rfl
theorem mw_884 : (Jvm.Cond.static ({ cls := "LeanSetsModel", name := "has", desc := "(II)Z" } : Jvm.MethodName)) ∈ gx_G := gx_4 (List.mem_of_getElem? (i := 164) rfl) rfl
theorem mw_885 : (Jvm.Cond.code ({ cls := "LeanSetsModel", name := "has", desc := "(II)Z" } : Jvm.MethodName) prog_9_method_17_code (2 : Nat) (Option.some Jvm.ClassFile.FieldType.boolean)) ∈ gx_G := gx_4 (List.mem_of_getElem? (i := 165) rfl) rfl
theorem mw_886 : (Jvm.Cond.methodLink "LeanSetsModel" (140 : Nat) ({ cls := "LeanSetsModel", name := "element", desc := "()I" } : Jvm.MethodName)) ∈ gx_G := gx_4 (List.mem_of_getElem? (i := 166) rfl) rfl
theorem mw_888 : (Jvm.Cond.instanceMethod ({ cls := "LeanSetsModel", name := "element", desc := "()I" } : Jvm.MethodName)) ∈ gx_G := gx_4 (List.mem_of_getElem? (i := 168) rfl) rfl
theorem mw_889 : (Jvm.Cond.code ({ cls := "LeanSetsModel", name := "element", desc := "()I" } : Jvm.MethodName) prog_9_method_19_code (2 : Nat) (Option.some Jvm.ClassFile.FieldType.int)) ∈ gx_G := gx_4 (List.mem_of_getElem? (i := 169) rfl) rfl
theorem mw_890 : (Jvm.Cond.methodLink "LeanSetsModel" (147 : Nat) ({ cls := "LeanSetsModel", name := "sizeOf", desc := "(I)I" } : Jvm.MethodName)) ∈ gx_G := gx_4 (List.mem_of_getElem? (i := 170) rfl) rfl
theorem mw_891 : (Jvm.Cond.static ({ cls := "LeanSetsModel", name := "sizeOf", desc := "(I)I" } : Jvm.MethodName)) ∈ gx_G := gx_4 (List.mem_of_getElem? (i := 171) rfl) rfl
theorem mw_892 : (Jvm.Cond.code ({ cls := "LeanSetsModel", name := "sizeOf", desc := "(I)I" } : Jvm.MethodName) prog_9_method_18_code (3 : Nat) (Option.some Jvm.ClassFile.FieldType.int)) ∈ gx_G := gx_4 (List.mem_of_getElem? (i := 172) rfl) rfl
theorem mw_893 : (Jvm.Cond.methodLink "LeanSetsModel" (144 : Nat) ({ cls := "LeanSetsModel", name := "signed", desc := "()I" } : Jvm.MethodName)) ∈ gx_G := gx_4 (List.mem_of_getElem? (i := 173) rfl) rfl
theorem mw_895 : (Jvm.Cond.instanceMethod ({ cls := "LeanSetsModel", name := "signed", desc := "()I" } : Jvm.MethodName)) ∈ gx_G := gx_4 (List.mem_of_getElem? (i := 175) rfl) rfl
theorem mw_896 : (Jvm.Cond.code ({ cls := "LeanSetsModel", name := "signed", desc := "()I" } : Jvm.MethodName) prog_9_method_20_code (3 : Nat) (Option.some Jvm.ClassFile.FieldType.int)) ∈ gx_G := gx_4 (List.mem_of_getElem? (i := 176) rfl) rfl
theorem mw_909 : (Jvm.Cond.methodLink "LeanSetsModel" (166 : Nat) ({ cls := "LeanSetsModel", name := "isSet", desc := "(I)Z" } : Jvm.MethodName)) ∈ gx_G := gx_4 (List.mem_of_getElem? (i := 189) rfl) rfl
theorem mw_911 : (Jvm.Cond.instanceMethod ({ cls := "LeanSetsModel", name := "isSet", desc := "(I)Z" } : Jvm.MethodName)) ∈ gx_G := gx_4 (List.mem_of_getElem? (i := 191) rfl) rfl
theorem mw_912 : (Jvm.Cond.code ({ cls := "LeanSetsModel", name := "isSet", desc := "(I)Z" } : Jvm.MethodName) prog_9_method_27_code (2 : Nat) (Option.some Jvm.ClassFile.FieldType.boolean)) ∈ gx_G := gx_4 (List.mem_of_getElem? (i := 192) rfl) rfl
theorem mw_917 : (Jvm.Cond.methodLink "LeanSetsModel" (172 : Nat) ({ cls := "LeanSetsModel", name := "lean", desc := "(IIIZ)I" } : Jvm.MethodName)) ∈ gx_G := gx_4 (List.mem_of_getElem? (i := 197) rfl) rfl
theorem mw_919 : (Jvm.Cond.instanceMethod ({ cls := "LeanSetsModel", name := "lean", desc := "(IIIZ)I" } : Jvm.MethodName)) ∈ gx_G := gx_4 (List.mem_of_getElem? (i := 199) rfl) rfl
theorem mw_920 : (Jvm.Cond.code ({ cls := "LeanSetsModel", name := "lean", desc := "(IIIZ)I" } : Jvm.MethodName) prog_9_method_29_code (11 : Nat) (Option.some Jvm.ClassFile.FieldType.int)) ∈ gx_G := gx_4 (List.mem_of_getElem? (i := 200) rfl) rfl
theorem mw_921 : (Jvm.Cond.methodLink "LeanSetsModel" (169 : Nat) ({ cls := "LeanSetsModel", name := "sumOf", desc := "(I)I" } : Jvm.MethodName)) ∈ gx_G := gx_4 (List.mem_of_getElem? (i := 201) rfl) rfl
theorem mw_923 : (Jvm.Cond.instanceMethod ({ cls := "LeanSetsModel", name := "sumOf", desc := "(I)I" } : Jvm.MethodName)) ∈ gx_G := gx_4 (List.mem_of_getElem? (i := 203) rfl) rfl
theorem mw_924 : (Jvm.Cond.code ({ cls := "LeanSetsModel", name := "sumOf", desc := "(I)I" } : Jvm.MethodName) prog_9_method_33_code (4 : Nat) (Option.some Jvm.ClassFile.FieldType.int)) ∈ gx_G := gx_4 (List.mem_of_getElem? (i := 204) rfl) rfl
theorem mw_929 : (Jvm.Cond.constantLong "LeanSetsModel" (176 : Nat) (15 : Int64)) ∈ gx_G := gx_4 (List.mem_of_getElem? (i := 209) rfl) rfl
theorem mw_934 : (Jvm.Cond.constant "LeanSetsModel" (178 : Nat) (-1000000 : Int32)) ∈ gx_G := gx_4 (List.mem_of_getElem? (i := 214) rfl) rfl
theorem mw_935 : (Jvm.Cond.constant "LeanSetsModel" (179 : Nat) (1000000 : Int32)) ∈ gx_G := gx_4 (List.mem_of_getElem? (i := 215) rfl) rfl
theorem mw_952 : (Jvm.Cond.methodLink "LeanSetsModel" (189 : Nat) ({ cls := "LeanSetsModel", name := "findTurns", desc := "()V" } : Jvm.MethodName)) ∈ gx_G := gx_4 (List.mem_of_getElem? (i := 232) rfl) rfl
theorem mw_954 : (Jvm.Cond.instanceMethod ({ cls := "LeanSetsModel", name := "findTurns", desc := "()V" } : Jvm.MethodName)) ∈ gx_G := gx_4 (List.mem_of_getElem? (i := 234) rfl) rfl
theorem mw_955 : (Jvm.Cond.code ({ cls := "LeanSetsModel", name := "findTurns", desc := "()V" } : Jvm.MethodName) prog_9_method_38_code (14 : Nat) (Option.none : Option Jvm.ClassFile.FieldType)) ∈ gx_G := gx_4 (List.mem_of_getElem? (i := 235) rfl) rfl
theorem mw_956 : (Jvm.Cond.constantLong "LeanSetsModel" (183 : Nat) (-1 : Int64)) ∈ gx_G := gx_4 (List.mem_of_getElem? (i := 236) rfl) rfl
theorem mw_957 : (Jvm.Cond.methodLink "LeanSetsModel" (185 : Nat) ({ cls := "LeanSetsModel", name := "divisor", desc := "(JJ)J" } : Jvm.MethodName)) ∈ gx_G := gx_4 (List.mem_of_getElem? (i := 237) rfl) rfl
theorem mw_958 : (Jvm.Cond.static ({ cls := "LeanSetsModel", name := "divisor", desc := "(JJ)J" } : Jvm.MethodName)) ∈ gx_G := gx_4 (List.mem_of_getElem? (i := 238) rfl) rfl
theorem mw_959 : (Jvm.Cond.code ({ cls := "LeanSetsModel", name := "divisor", desc := "(JJ)J" } : Jvm.MethodName) prog_9_method_37_code (10 : Nat) (Option.some Jvm.ClassFile.FieldType.long)) ∈ gx_G := gx_4 (List.mem_of_getElem? (i := 239) rfl) rfl
theorem in_Ch : ∀ w ∈ u_ws "LeanSets$Chain" T_Ch 7, w ∈ gx_G := by
  intro w hw
  have hw : w ∈ [(Jvm.Cond.lays "LeanSets$Chain" "LeanSets$Chain" "length" "I"), (Jvm.Cond.laysFinal "LeanSets$Chain" "LeanSets$Chain" "above" "[J"), (Jvm.Cond.laysFinal "LeanSets$Chain" "LeanSets$Chain" "below" "[J"), (Jvm.Cond.laysFinal "LeanSets$Chain" "LeanSets$Chain" "sets" "[I"), (Jvm.Cond.laysFinal "LeanSets$Chain" "LeanSets$Chain" "turnOf" "[I"), (Jvm.Cond.laysFinal "LeanSets$Chain" "LeanSets$Chain" "lowestOf" "[J"), (Jvm.Cond.laysFinal "LeanSets$Chain" "LeanSets$Chain" "setOf" "[I")] := hw
  simp only [List.mem_cons, List.not_mem_nil, or_false] at hw
  rcases hw with rfl | rfl | rfl | rfl | rfl | rfl | rfl
  · exact mw_181
  · exact mw_183
  · exact mw_185
  · exact mw_187
  · exact mw_189
  · exact mw_191
  · exact mw_193
theorem in_Cc : ∀ w ∈ u_ws "LeanSets$ChainCheck" T_Cc 5, w ∈ gx_G := by
  intro w hw
  have hw : w ∈ [(Jvm.Cond.laysFinal "LeanSets$ChainCheck" "LeanSets$ChainCheck" "gaps" "LLeanSets$SetTable;"), (Jvm.Cond.laysFinal "LeanSets$ChainCheck" "LeanSets$ChainCheck" "whole" "[J"), (Jvm.Cond.laysFinal "LeanSets$ChainCheck" "LeanSets$ChainCheck" "extremes" "[J"), (Jvm.Cond.laysFinal "LeanSets$ChainCheck" "LeanSets$ChainCheck" "order" "[I"), (Jvm.Cond.lays "LeanSets$ChainCheck" "LeanSets$ChainCheck" "times" "J")] := hw
  simp only [List.mem_cons, List.not_mem_nil, or_false] at hw
  rcases hw with rfl | rfl | rfl | rfl | rfl
  · exact mw_209
  · exact mw_211
  · exact mw_213
  · exact mw_215
  · exact mw_217
theorem in_St : ∀ w ∈ u_ws "LeanSets$SetTable" T_St 6, w ∈ gx_G := by
  intro w hw
  have hw : w ∈ [(Jvm.Cond.laysFinal "LeanSets$SetTable" "LeanSets$SetTable" "values" "[J"), (Jvm.Cond.lays "LeanSets$SetTable" "LeanSets$SetTable" "size" "I"), (Jvm.Cond.lays "LeanSets$SetTable" "LeanSets$SetTable" "sets" "I"), (Jvm.Cond.lays "LeanSets$SetTable" "LeanSets$SetTable" "lowest" "J"), (Jvm.Cond.lays "LeanSets$SetTable" "LeanSets$SetTable" "meet" "I"), (Jvm.Cond.lays "LeanSets$SetTable" "LeanSets$SetTable" "join" "I")] := hw
  simp only [List.mem_cons, List.not_mem_nil, or_false] at hw
  rcases hw with rfl | rfl | rfl | rfl | rfl | rfl
  · exact mw_145
  · exact mw_147
  · exact mw_149
  · exact mw_151
  · exact mw_153
  · exact mw_155
theorem in_Te : ∀ w ∈ u_ws "LeanSets$Terms" T_Te 6, w ∈ gx_G := by
  intro w hw
  have hw : w ∈ [(Jvm.Cond.lays "LeanSets$Terms" "LeanSets$Terms" "size" "I"), (Jvm.Cond.lays "LeanSets$Terms" "LeanSets$Terms" "length" "I"), (Jvm.Cond.laysFinal "LeanSets$Terms" "LeanSets$Terms" "kinds" "[I"), (Jvm.Cond.laysFinal "LeanSets$Terms" "LeanSets$Terms" "ins" "[I"), (Jvm.Cond.laysFinal "LeanSets$Terms" "LeanSets$Terms" "outs" "[I"), (Jvm.Cond.laysFinal "LeanSets$Terms" "LeanSets$Terms" "values" "[I")] := hw
  simp only [List.mem_cons, List.not_mem_nil, or_false] at hw
  rcases hw with rfl | rfl | rfl | rfl | rfl | rfl
  · exact mw_83
  · exact mw_85
  · exact mw_87
  · exact mw_89
  · exact mw_91
  · exact mw_93
theorem in_Tr : ∀ w ∈ u_ws "LeanSets$TextReader" T_Tr 7, w ∈ gx_G := by
  intro w hw
  have hw : w ∈ [(Jvm.Cond.laysFinal "LeanSets$TextReader" "LeanSets$TextReader" "words" "LLeanSets$Words;"), (Jvm.Cond.laysFinal "LeanSets$TextReader" "LeanSets$TextReader" "terms" "LLeanSets$Terms;"), (Jvm.Cond.lays "LeanSets$TextReader" "LeanSets$TextReader" "next" "I"), (Jvm.Cond.lays "LeanSets$TextReader" "LeanSets$TextReader" "takenPlace" "I"), (Jvm.Cond.lays "LeanSets$TextReader" "LeanSets$TextReader" "takenNumber" "I"), (Jvm.Cond.lays "LeanSets$TextReader" "LeanSets$TextReader" "fault" "I"), (Jvm.Cond.lays "LeanSets$TextReader" "LeanSets$TextReader" "faultPlace" "I")] := hw
  simp only [List.mem_cons, List.not_mem_nil, or_false] at hw
  rcases hw with rfl | rfl | rfl | rfl | rfl | rfl | rfl
  · exact mw_107
  · exact mw_109
  · exact mw_111
  · exact mw_113
  · exact mw_115
  · exact mw_117
  · exact mw_119
theorem in_Wo : ∀ w ∈ u_ws "LeanSets$Words" T_Wo 6, w ∈ gx_G := by
  intro w hw
  have hw : w ∈ [(Jvm.Cond.laysFinal "LeanSets$Words" "LeanSets$Words" "text" "[C"), (Jvm.Cond.lays "LeanSets$Words" "LeanSets$Words" "length" "I"), (Jvm.Cond.laysFinal "LeanSets$Words" "LeanSets$Words" "kinds" "[I"), (Jvm.Cond.laysFinal "LeanSets$Words" "LeanSets$Words" "places" "[I"), (Jvm.Cond.laysFinal "LeanSets$Words" "LeanSets$Words" "numbers" "[I"), (Jvm.Cond.lays "LeanSets$Words" "LeanSets$Words" "words" "I")] := hw
  simp only [List.mem_cons, List.not_mem_nil, or_false] at hw
  rcases hw with rfl | rfl | rfl | rfl | rfl | rfl
  · exact mw_51
  · exact mw_53
  · exact mw_55
  · exact mw_57
  · exact mw_59
  · exact mw_61
theorem in_Ls : ∀ w ∈ u_ws "LeanSets" T_Ls 8, w ∈ gx_G := by
  intro w hw
  have hw : w ∈ [(Jvm.Cond.laysFinal "LeanSets" "LeanSets" "reader" "LLeanSets$TextReader;"), (Jvm.Cond.laysFinal "LeanSets" "LeanSets" "function" "LLeanSets$SetTable;"), (Jvm.Cond.laysFinal "LeanSets" "LeanSets" "gaps" "LLeanSets$SetTable;"), (Jvm.Cond.laysFinal "LeanSets" "LeanSets" "chain" "LLeanSets$Chain;"), (Jvm.Cond.laysFinal "LeanSets" "LeanSets" "chainCheck" "LLeanSets$ChainCheck;"), (Jvm.Cond.laysFinal "LeanSets" "LeanSets" "vector" "[J"), (Jvm.Cond.laysFinal "LeanSets" "LeanSets" "counts" "[I"), (Jvm.Cond.lays "LeanSets" "LeanSets" "size" "I")] := hw
  simp only [List.mem_cons, List.not_mem_nil, or_false] at hw
  rcases hw with rfl | rfl | rfl | rfl | rfl | rfl | rfl | rfl
  · exact mw_228
  · exact mw_230
  · exact mw_232
  · exact mw_234
  · exact mw_236
  · exact mw_238
  · exact mw_240
  · exact mw_242
theorem in_Mo : ∀ w ∈ u_ws "LeanSetsModel" T_Mo 24, w ∈ gx_G := by
  intro w hw
  have hw : w ∈ [(Jvm.Cond.lays "LeanSetsModel" "LeanSetsModel" "thrown" "I"), (Jvm.Cond.laysFinal "LeanSetsModel" "LeanSetsModel" "text" "[I"), (Jvm.Cond.lays "LeanSetsModel" "LeanSetsModel" "length" "I"), (Jvm.Cond.lays "LeanSetsModel" "LeanSetsModel" "wrong" "I"), (Jvm.Cond.laysFinal "LeanSetsModel" "LeanSetsModel" "kinds" "[I"), (Jvm.Cond.laysFinal "LeanSetsModel" "LeanSetsModel" "places" "[I"), (Jvm.Cond.laysFinal "LeanSetsModel" "LeanSetsModel" "numbers" "[I"), (Jvm.Cond.lays "LeanSetsModel" "LeanSetsModel" "words" "I"), (Jvm.Cond.lays "LeanSetsModel" "LeanSetsModel" "at" "I"), (Jvm.Cond.lays "LeanSetsModel" "LeanSetsModel" "known" "Z"), (Jvm.Cond.lays "LeanSetsModel" "LeanSetsModel" "n" "I"), (Jvm.Cond.laysFinal "LeanSetsModel" "LeanSetsModel" "many" "[I"), (Jvm.Cond.laysFinal "LeanSetsModel" "LeanSetsModel" "all" "[I"), (Jvm.Cond.lays "LeanSetsModel" "LeanSetsModel" "draftSize" "I"), (Jvm.Cond.laysFinal "LeanSetsModel" "LeanSetsModel" "draftMany" "[I"), (Jvm.Cond.laysFinal "LeanSetsModel" "LeanSetsModel" "draft" "[I"), (Jvm.Cond.lays "LeanSetsModel" "LeanSetsModel" "fault" "I"), (Jvm.Cond.lays "LeanSetsModel" "LeanSetsModel" "faultPlace" "I"), (Jvm.Cond.laysFinal "LeanSetsModel" "LeanSetsModel" "vector" "[I"), (Jvm.Cond.laysFinal "LeanSetsModel" "LeanSetsModel" "heights" "[I"), (Jvm.Cond.lays "LeanSetsModel" "LeanSetsModel" "turns" "I"), (Jvm.Cond.laysFinal "LeanSetsModel" "LeanSetsModel" "above" "[J"), (Jvm.Cond.laysFinal "LeanSetsModel" "LeanSetsModel" "below" "[J"), (Jvm.Cond.laysFinal "LeanSetsModel" "LeanSetsModel" "sets" "[I")] := hw
  simp only [List.mem_cons, List.not_mem_nil, or_false] at hw
  rcases hw with rfl | rfl | rfl | rfl | rfl | rfl | rfl | rfl | rfl | rfl | rfl | rfl | rfl | rfl | rfl | rfl | rfl | rfl | rfl | rfl | rfl | rfl | rfl | rfl
  · exact mw_754
  · exact mw_756
  · exact mw_758
  · exact mw_760
  · exact mw_762
  · exact mw_764
  · exact mw_766
  · exact mw_768
  · exact mw_770
  · exact mw_772
  · exact mw_774
  · exact mw_776
  · exact mw_778
  · exact mw_780
  · exact mw_782
  · exact mw_784
  · exact mw_786
  · exact mw_788
  · exact mw_790
  · exact mw_792
  · exact mw_794
  · exact mw_796
  · exact mw_798
  · exact mw_800
theorem ms_Ch_findLowestOfEachSize : Cond.selects "LeanSets$Chain" ({ cls := "LeanSets$Chain", name := "findLowestOfEachSize", desc := "(LLeanSets$SetTable;)V" } : Jvm.MethodName) ({ cls := "LeanSets$Chain", name := "findLowestOfEachSize", desc := "(LLeanSets$SetTable;)V" } : Jvm.MethodName) ∈ gx_G := gx_in (List.mem_append_left _ (List.mem_of_getElem? (i := 21) rfl)) rfl
theorem ms_Ch_keepTurn : Cond.selects "LeanSets$Chain" ({ cls := "LeanSets$Chain", name := "keepTurn", desc := "(II)V" } : Jvm.MethodName) ({ cls := "LeanSets$Chain", name := "keepTurn", desc := "(II)V" } : Jvm.MethodName) ∈ gx_G := gx_in (List.mem_append_left _ (List.mem_of_getElem? (i := 23) rfl)) rfl
theorem ms_Ch_nextSize : Cond.selects "LeanSets$Chain" ({ cls := "LeanSets$Chain", name := "nextSize", desc := "(II)I" } : Jvm.MethodName) ({ cls := "LeanSets$Chain", name := "nextSize", desc := "(II)I" } : Jvm.MethodName) ∈ gx_G := gx_in (List.mem_append_left _ (List.mem_of_getElem? (i := 22) rfl)) rfl
theorem ms_Cc_hasSameSums : Cond.selects "LeanSets$ChainCheck" ({ cls := "LeanSets$ChainCheck", name := "hasSameSums", desc := "(LLeanSets$Chain;I)Z" } : Jvm.MethodName) ({ cls := "LeanSets$ChainCheck", name := "hasSameSums", desc := "(LLeanSets$Chain;I)Z" } : Jvm.MethodName) ∈ gx_G := gx_in (List.mem_append_left _ (List.mem_of_getElem? (i := 32) rfl)) rfl
theorem ms_Cc_liesBelow : Cond.selects "LeanSets$ChainCheck" ({ cls := "LeanSets$ChainCheck", name := "liesBelow", desc := "(LLeanSets$SetTable;)Z" } : Jvm.MethodName) ({ cls := "LeanSets$ChainCheck", name := "liesBelow", desc := "(LLeanSets$SetTable;)Z" } : Jvm.MethodName) ∈ gx_G := gx_in (List.mem_append_left _ (List.mem_of_getElem? (i := 31) rfl)) rfl
theorem ms_Cc_makeExtremes : Cond.selects "LeanSets$ChainCheck" ({ cls := "LeanSets$ChainCheck", name := "makeExtremes", desc := "(LLeanSets$SetTable;)V" } : Jvm.MethodName) ({ cls := "LeanSets$ChainCheck", name := "makeExtremes", desc := "(LLeanSets$SetTable;)V" } : Jvm.MethodName) ∈ gx_G := gx_in (List.mem_append_left _ (List.mem_of_getElem? (i := 29) rfl)) rfl
theorem ms_Cc_makeWhole : Cond.selects "LeanSets$ChainCheck" ({ cls := "LeanSets$ChainCheck", name := "makeWhole", desc := "(LLeanSets$Chain;I)V" } : Jvm.MethodName) ({ cls := "LeanSets$ChainCheck", name := "makeWhole", desc := "(LLeanSets$Chain;I)V" } : Jvm.MethodName) ∈ gx_G := gx_in (List.mem_append_left _ (List.mem_of_getElem? (i := 28) rfl)) rfl
theorem ms_Cc_sortByPoint : Cond.selects "LeanSets$ChainCheck" ({ cls := "LeanSets$ChainCheck", name := "sortByPoint", desc := "(I)V" } : Jvm.MethodName) ({ cls := "LeanSets$ChainCheck", name := "sortByPoint", desc := "(I)V" } : Jvm.MethodName) ∈ gx_G := gx_in (List.mem_append_left _ (List.mem_of_getElem? (i := 30) rfl)) rfl
theorem ms_Tr_aValueStands : Cond.selects "LeanSets$TextReader" ({ cls := "LeanSets$TextReader", name := "aValueStands", desc := "()Z" } : Jvm.MethodName) ({ cls := "LeanSets$TextReader", name := "aValueStands", desc := "()Z" } : Jvm.MethodName) ∈ gx_G := gx_in (List.mem_append_left _ (List.mem_of_getElem? (i := 19) rfl)) rfl
theorem ms_Tr_keepTerm : Cond.selects "LeanSets$TextReader" ({ cls := "LeanSets$TextReader", name := "keepTerm", desc := "(III)V" } : Jvm.MethodName) ({ cls := "LeanSets$TextReader", name := "keepTerm", desc := "(III)V" } : Jvm.MethodName) ∈ gx_G := gx_in (List.mem_append_left _ (List.mem_of_getElem? (i := 14) rfl)) rfl
theorem ms_Tr_keepValue : Cond.selects "LeanSets$TextReader" ({ cls := "LeanSets$TextReader", name := "keepValue", desc := "(I)V" } : Jvm.MethodName) ({ cls := "LeanSets$TextReader", name := "keepValue", desc := "(I)V" } : Jvm.MethodName) ∈ gx_G := gx_in (List.mem_append_left _ (List.mem_of_getElem? (i := 15) rfl)) rfl
theorem ms_Tr_note : Cond.selects "LeanSets$TextReader" ({ cls := "LeanSets$TextReader", name := "note", desc := "(II)V" } : Jvm.MethodName) ({ cls := "LeanSets$TextReader", name := "note", desc := "(II)V" } : Jvm.MethodName) ∈ gx_G := gx_in (List.mem_append_left _ (List.mem_of_getElem? (i := 8) rfl)) rfl
theorem ms_Tr_noteIf : Cond.selects "LeanSets$TextReader" ({ cls := "LeanSets$TextReader", name := "noteIf", desc := "(ZI)V" } : Jvm.MethodName) ({ cls := "LeanSets$TextReader", name := "noteIf", desc := "(ZI)V" } : Jvm.MethodName) ∈ gx_G := gx_in (List.mem_append_left _ (List.mem_of_getElem? (i := 12) rfl)) rfl
theorem ms_Tr_readArc : Cond.selects "LeanSets$TextReader" ({ cls := "LeanSets$TextReader", name := "readArc", desc := "()Z" } : Jvm.MethodName) ({ cls := "LeanSets$TextReader", name := "readArc", desc := "()Z" } : Jvm.MethodName) ∈ gx_G := gx_in (List.mem_append_left _ (List.mem_of_getElem? (i := 16) rfl)) rfl
theorem ms_Tr_readCurve : Cond.selects "LeanSets$TextReader" ({ cls := "LeanSets$TextReader", name := "readCurve", desc := "()Z" } : Jvm.MethodName) ({ cls := "LeanSets$TextReader", name := "readCurve", desc := "()Z" } : Jvm.MethodName) ∈ gx_G := gx_in (List.mem_append_left _ (List.mem_of_getElem? (i := 17) rfl)) rfl
theorem ms_Tr_readCurveValues : Cond.selects "LeanSets$TextReader" ({ cls := "LeanSets$TextReader", name := "readCurveValues", desc := "(I)Z" } : Jvm.MethodName) ({ cls := "LeanSets$TextReader", name := "readCurveValues", desc := "(I)Z" } : Jvm.MethodName) ∈ gx_G := gx_in (List.mem_append_left _ (List.mem_of_getElem? (i := 18) rfl)) rfl
theorem ms_Tr_readTerm : Cond.selects "LeanSets$TextReader" ({ cls := "LeanSets$TextReader", name := "readTerm", desc := "()Z" } : Jvm.MethodName) ({ cls := "LeanSets$TextReader", name := "readTerm", desc := "()Z" } : Jvm.MethodName) ∈ gx_G := gx_in (List.mem_append_left _ (List.mem_of_getElem? (i := 9) rfl)) rfl
theorem ms_Tr_readWeight : Cond.selects "LeanSets$TextReader" ({ cls := "LeanSets$TextReader", name := "readWeight", desc := "()Z" } : Jvm.MethodName) ({ cls := "LeanSets$TextReader", name := "readWeight", desc := "()Z" } : Jvm.MethodName) ∈ gx_G := gx_in (List.mem_append_left _ (List.mem_of_getElem? (i := 10) rfl)) rfl
theorem ms_Tr_take : Cond.selects "LeanSets$TextReader" ({ cls := "LeanSets$TextReader", name := "take", desc := "(I)Z" } : Jvm.MethodName) ({ cls := "LeanSets$TextReader", name := "take", desc := "(I)Z" } : Jvm.MethodName) ∈ gx_G := gx_in (List.mem_append_left _ (List.mem_of_getElem? (i := 7) rfl)) rfl
theorem ms_Tr_takeValue : Cond.selects "LeanSets$TextReader" ({ cls := "LeanSets$TextReader", name := "takeValue", desc := "()Z" } : Jvm.MethodName) ({ cls := "LeanSets$TextReader", name := "takeValue", desc := "()Z" } : Jvm.MethodName) ∈ gx_G := gx_in (List.mem_append_left _ (List.mem_of_getElem? (i := 13) rfl)) rfl
theorem ms_Tr_takenElement : Cond.selects "LeanSets$TextReader" ({ cls := "LeanSets$TextReader", name := "takenElement", desc := "()I" } : Jvm.MethodName) ({ cls := "LeanSets$TextReader", name := "takenElement", desc := "()I" } : Jvm.MethodName) ∈ gx_G := gx_in (List.mem_append_left _ (List.mem_of_getElem? (i := 11) rfl)) rfl
theorem ms_Mo_build : Cond.selects "LeanSetsModel" ({ cls := "LeanSetsModel", name := "build", desc := "()V" } : Jvm.MethodName) ({ cls := "LeanSetsModel", name := "build", desc := "()V" } : Jvm.MethodName) ∈ gx_G := gx_in (List.mem_append_left _ (List.mem_of_getElem? (i := 41) rfl)) rfl
theorem ms_Mo_curve : Cond.selects "LeanSetsModel" ({ cls := "LeanSetsModel", name := "curve", desc := "()V" } : Jvm.MethodName) ({ cls := "LeanSetsModel", name := "curve", desc := "()V" } : Jvm.MethodName) ∈ gx_G := gx_in (List.mem_append_left _ (List.mem_of_getElem? (i := 44) rfl)) rfl
theorem ms_Mo_cut : Cond.selects "LeanSetsModel" ({ cls := "LeanSetsModel", name := "cut", desc := "()V" } : Jvm.MethodName) ({ cls := "LeanSetsModel", name := "cut", desc := "()V" } : Jvm.MethodName) ∈ gx_G := gx_in (List.mem_append_left _ (List.mem_of_getElem? (i := 33) rfl)) rfl
theorem ms_Mo_element : Cond.selects "LeanSetsModel" ({ cls := "LeanSetsModel", name := "element", desc := "()I" } : Jvm.MethodName) ({ cls := "LeanSetsModel", name := "element", desc := "()I" } : Jvm.MethodName) ∈ gx_G := gx_in (List.mem_append_left _ (List.mem_of_getElem? (i := 45) rfl)) rfl
theorem ms_Mo_findTurns : Cond.selects "LeanSetsModel" ({ cls := "LeanSetsModel", name := "findTurns", desc := "()V" } : Jvm.MethodName) ({ cls := "LeanSetsModel", name := "findTurns", desc := "()V" } : Jvm.MethodName) ∈ gx_G := gx_in (List.mem_append_left _ (List.mem_of_getElem? (i := 50) rfl)) rfl
theorem ms_Mo_is : Cond.selects "LeanSetsModel" ({ cls := "LeanSetsModel", name := "is", desc := "(I)Z" } : Jvm.MethodName) ({ cls := "LeanSetsModel", name := "is", desc := "(I)Z" } : Jvm.MethodName) ∈ gx_G := gx_in (List.mem_append_left _ (List.mem_of_getElem? (i := 37) rfl)) rfl
theorem ms_Mo_isCurve : Cond.selects "LeanSetsModel" ({ cls := "LeanSetsModel", name := "isCurve", desc := "()Z" } : Jvm.MethodName) ({ cls := "LeanSetsModel", name := "isCurve", desc := "()Z" } : Jvm.MethodName) ∈ gx_G := gx_in (List.mem_append_left _ (List.mem_of_getElem? (i := 40) rfl)) rfl
theorem ms_Mo_isSet : Cond.selects "LeanSetsModel" ({ cls := "LeanSetsModel", name := "isSet", desc := "(I)Z" } : Jvm.MethodName) ({ cls := "LeanSetsModel", name := "isSet", desc := "(I)Z" } : Jvm.MethodName) ∈ gx_G := gx_in (List.mem_append_left _ (List.mem_of_getElem? (i := 47) rfl)) rfl
theorem ms_Mo_isTerm : Cond.selects "LeanSetsModel" ({ cls := "LeanSetsModel", name := "isTerm", desc := "()Z" } : Jvm.MethodName) ({ cls := "LeanSetsModel", name := "isTerm", desc := "()Z" } : Jvm.MethodName) ∈ gx_G := gx_in (List.mem_append_left _ (List.mem_of_getElem? (i := 38) rfl)) rfl
theorem ms_Mo_isText : Cond.selects "LeanSetsModel" ({ cls := "LeanSetsModel", name := "isText", desc := "()Z" } : Jvm.MethodName) ({ cls := "LeanSetsModel", name := "isText", desc := "()Z" } : Jvm.MethodName) ∈ gx_G := gx_in (List.mem_append_left _ (List.mem_of_getElem? (i := 36) rfl)) rfl
theorem ms_Mo_isValue : Cond.selects "LeanSetsModel" ({ cls := "LeanSetsModel", name := "isValue", desc := "()Z" } : Jvm.MethodName) ({ cls := "LeanSetsModel", name := "isValue", desc := "()Z" } : Jvm.MethodName) ∈ gx_G := gx_in (List.mem_append_left _ (List.mem_of_getElem? (i := 39) rfl)) rfl
theorem ms_Mo_lean : Cond.selects "LeanSetsModel" ({ cls := "LeanSetsModel", name := "lean", desc := "(IIIZ)I" } : Jvm.MethodName) ({ cls := "LeanSetsModel", name := "lean", desc := "(IIIZ)I" } : Jvm.MethodName) ∈ gx_G := gx_in (List.mem_append_left _ (List.mem_of_getElem? (i := 48) rfl)) rfl
theorem ms_Mo_letter : Cond.selects "LeanSetsModel" ({ cls := "LeanSetsModel", name := "letter", desc := "(I)I" } : Jvm.MethodName) ({ cls := "LeanSetsModel", name := "letter", desc := "(I)I" } : Jvm.MethodName) ∈ gx_G := gx_in (List.mem_append_left _ (List.mem_of_getElem? (i := 34) rfl)) rfl
theorem ms_Mo_signed : Cond.selects "LeanSetsModel" ({ cls := "LeanSetsModel", name := "signed", desc := "()I" } : Jvm.MethodName) ({ cls := "LeanSetsModel", name := "signed", desc := "()I" } : Jvm.MethodName) ∈ gx_G := gx_in (List.mem_append_left _ (List.mem_of_getElem? (i := 46) rfl)) rfl
theorem ms_Mo_spelled : Cond.selects "LeanSetsModel" ({ cls := "LeanSetsModel", name := "spelled", desc := "(II)J" } : Jvm.MethodName) ({ cls := "LeanSetsModel", name := "spelled", desc := "(II)J" } : Jvm.MethodName) ∈ gx_G := gx_in (List.mem_append_left _ (List.mem_of_getElem? (i := 35) rfl)) rfl
theorem ms_Mo_stop : Cond.selects "LeanSetsModel" ({ cls := "LeanSetsModel", name := "stop", desc := "(II)V" } : Jvm.MethodName) ({ cls := "LeanSetsModel", name := "stop", desc := "(II)V" } : Jvm.MethodName) ∈ gx_G := gx_in (List.mem_append_left _ (List.mem_of_getElem? (i := 42) rfl)) rfl
theorem ms_Mo_sumOf : Cond.selects "LeanSetsModel" ({ cls := "LeanSetsModel", name := "sumOf", desc := "(I)I" } : Jvm.MethodName) ({ cls := "LeanSetsModel", name := "sumOf", desc := "(I)I" } : Jvm.MethodName) ∈ gx_G := gx_in (List.mem_append_left _ (List.mem_of_getElem? (i := 49) rfl)) rfl
theorem ms_Mo_term : Cond.selects "LeanSetsModel" ({ cls := "LeanSetsModel", name := "term", desc := "()V" } : Jvm.MethodName) ({ cls := "LeanSetsModel", name := "term", desc := "()V" } : Jvm.MethodName) ∈ gx_G := gx_in (List.mem_append_left _ (List.mem_of_getElem? (i := 43) rfl)) rfl
