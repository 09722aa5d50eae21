/-! Words of a text. Own work. -/
def isL (c : Nat) : Bool := decide (97 ≤ c ∧ c ≤ 122)
def isD (c : Nat) : Bool := decide (48 ≤ c ∧ c ≤ 57)
def isB (c : Nat) : Bool := decide (c = 32)
def i01 (b : Bool) : Int32 := if b = true then 1 else 0
theorem i01_0 {b : Bool} : i01 b = 0 ↔ b = false := by cases b <;> decide
theorem WoL_ok {c : Nat} (hc : c < 1000) {post : Int32 → Prop} (h : post (i01 (isL c))) : wp_Wo_isLetter_0 post (nI c) := by
  unfold wp_Wo_isLetter_0 wp_Wo_isLetter_16 wp_Wo_isLetter_17
  have e1 : nI c < 97 ↔ c < 97 := nI_ltI (a := c) (b := 97) (by omega) (by omega)
  have e2 : (97 + 25 : Int32) < nI c ↔ 122 < c := nI_ltI (a := 122) (b := c) (by omega) (by omega)
  have e2 : (122 : Int32) < nI c ↔ 122 < c := e2
  rw [e1, e2]
  refine ⟨fun z => ⟨nb0, ?_⟩, fun z => ⟨fun z2 => ⟨nb0, ?_⟩, fun z2 => ⟨nb1, ?_⟩⟩⟩
  · rwa [show isL c = false from decide_eq_false (by omega)] at h
  · rwa [show isL c = false from decide_eq_false (by omega)] at h
  · rwa [show isL c = true from decide_eq_true (by omega)] at h
theorem WoD_ok {c : Nat} (hc : c < 1000) {post : Int32 → Prop} (h : post (i01 (isD c))) : wp_Wo_isDigit_0 post (nI c) := by
  unfold wp_Wo_isDigit_0 wp_Wo_isDigit_16 wp_Wo_isDigit_17
  have e1 : nI c < 48 ↔ c < 48 := nI_ltI (a := c) (b := 48) (by omega) (by omega)
  have e2 : (57 : Int32) < nI c ↔ 57 < c := nI_ltI (a := 57) (b := c) (by omega) (by omega)
  rw [e1, e2]
  refine ⟨fun z => ⟨nb0, ?_⟩, fun z => ⟨fun z2 => ⟨nb0, ?_⟩, fun z2 => ⟨nb1, ?_⟩⟩⟩
  · rwa [show isD c = false from decide_eq_false (by omega)] at h
  · rwa [show isD c = false from decide_eq_false (by omega)] at h
  · rwa [show isD c = true from decide_eq_true (by omega)] at h
theorem MoL_ok {c : Nat} (hc : c < 1000) {post : Int32 → Prop} (h : post (i01 (isL c))) : wp_Mo_isLetter_0 post (nI c) := WoL_ok hc h
theorem MoD_ok {c : Nat} (hc : c < 1000) {post : Int32 → Prop} (h : post (i01 (isD c))) : wp_Mo_isDigit_0 post (nI c) := WoD_ok hc h
/-- the first place from i on, of at most d, where P ends -/
def runE (P : Nat → Bool) (t : Nat → Nat) : Nat → Nat → Nat
  | 0, i => i
  | d + 1, i => if P (t i) = true then runE P t d (i + 1) else i
def run (P : Nat → Bool) (t : Nat → Nat) (len i : Nat) : Nat := runE P t (len - i) i
theorem run_end (P : Nat → Bool) (t : Nat → Nat) {len i : Nat} (h : len ≤ i) : run P t len i = i := by
  unfold run
  rw [show len - i = 0 by omega]
  rfl
theorem run_yes {P : Nat → Bool} {t : Nat → Nat} {len i : Nat} (h : i < len) (hp : P (t i) = true) : run P t len i = run P t len (i + 1) := by
  unfold run
  rw [show len - i = (len - (i + 1)) + 1 by omega, runE, if_pos hp]
theorem run_no {P : Nat → Bool} {t : Nat → Nat} {len i : Nat} (h : i < len) (hp : P (t i) = false) : run P t len i = i := by
  unfold run
  rw [show len - i = (len - (i + 1)) + 1 by omega, runE, if_neg (by rw [hp]; decide)]
theorem runE_ge (P : Nat → Bool) (t : Nat → Nat) : ∀ d i, i ≤ runE P t d i ∧ runE P t d i ≤ i + d := by
  intro d
  induction d with
  | zero => intro i; exact ⟨Nat.le_refl _, Nat.le_refl _⟩
  | succ d ih =>
    intro i
    rw [runE]
    split
    · have := ih (i + 1); omega
    · omega
theorem run_ge (P : Nat → Bool) (t : Nat → Nat) (len i : Nat) : i ≤ run P t len i := (runE_ge P t _ i).1
theorem run_le (P : Nat → Bool) (t : Nat → Nat) {len i : Nat} (h : i ≤ len) : run P t len i ≤ len := by
  have := (runE_ge P t (len - i) i).2
  unfold run
  omega
theorem run_in {P : Nat → Bool} {t : Nat → Nat} {len : Nat} : ∀ d i, i + d = len → ∀ j, i ≤ j → j < run P t len i → P (t j) = true := by
  intro d
  induction d with
  | zero =>
    intro i hi j h1 h2
    rw [run_end P t (by omega)] at h2
    omega
  | succ d ih =>
    intro i hi j h1 h2
    cases hp : P (t i)
    · rw [run_no (by omega) hp] at h2; omega
    · rw [run_yes (by omega) hp] at h2
      by_cases z : j = i
      · subst z; exact hp
      · exact ih (i + 1) (by omega) j (by omega) h2
theorem run_stop {P : Nat → Bool} {t : Nat → Nat} {len : Nat} : ∀ d i, i + d = len → run P t len i < len → P (t (run P t len i)) = false := by
  intro d
  induction d with
  | zero =>
    intro i hi h2
    rw [run_end P t (by omega)] at h2
    omega
  | succ d ih =>
    intro i hi h2
    cases hp : P (t i)
    · rw [run_no (by omega) hp]; exact hp
    · rw [run_yes (by omega) hp] at h2 ⊢
      exact ih (i + 1) (by omega) h2
/-- the text, as both have it -/
def Txt (t : Nat → Nat) (len : Nat) (f : Nat → Int32) : Prop := len ≤ 600 ∧ ∀ i, i < len → f i = nI (t i) ∧ 32 ≤ t i ∧ t i ≤ 126
theorem firstBehindBlanks_ok {t : Nat → Nat} {len : Nat} {f : Nat → Int32} (hT : Txt t len f) {i : Nat} (hi : i ≤ len) {post : Int32 → Prop} (h : post (nI (run isB t len i))) : wp_Wo_firstBehindBlanks_0 (nI len) f post (nI i) := by
  have hl := hT.1
  have loop : ∀ d i, i + d = len → post (nI (run isB t len i)) → wp_Wo_firstBehindBlanks_2 (nI len) f post (d + 1) (nI i) := by
    intro d
    induction d with
    | zero =>
      intro i hi h
      rw [wp_Wo_firstBehindBlanks_2]
      rw [run_end isB t (by omega)] at h
      exact br_t (nI_le (by omega) (by omega)) h
    | succ d ih =>
      intro i hi h
      rw [wp_Wo_firstBehindBlanks_2]
      obtain ⟨e, e1, e2⟩ := hT.2 i (by omega)
      refine br_f (nI_ge (by omega) (by omega)) ⟨vp_in_nI (by omega) (by omega), ?_⟩
      rw [nI_clamp (n := i) (by omega), e, nI_1]
      have e3 : nI (t i) = 32 ↔ t i = 32 := nI_eq (a := t i) (b := 32) (by omega) (by omega)
      rw [e3]
      refine ⟨fun z => ?_, fun z => ?_⟩
      · rw [run_no (by omega) (decide_eq_false z)] at h
        exact h
      · rw [run_yes (by omega) (decide_eq_true z)] at h
        exact ih (i + 1) (by omega) h
  unfold wp_Wo_firstBehindBlanks_0
  exact ⟨_, loop (len - i) i (by omega) h⟩
/-- the end of the word that begins at i -/
def wend (t : Nat → Nat) (len i : Nat) : Nat := if isL (t i) = true then run isL t len (i + 1) else if isD (t i) = true then run isD t len (i + 1) else i + 1
theorem wend_gt (t : Nat → Nat) (len i : Nat) : i < wend t len i := by
  unfold wend
  split
  · exact run_ge _ _ _ _
  · split
    · exact run_ge _ _ _ _
    · omega
theorem wend_le (t : Nat → Nat) {len i : Nat} (h : i < len) : wend t len i ≤ len := by
  unfold wend
  split
  · exact run_le _ _ (by omega)
  · split
    · exact run_le _ _ (by omega)
    · omega
theorem endOfWord_ok {t : Nat → Nat} {len : Nat} {f : Nat → Int32} (hT : Txt t len f) {i : Nat} (hi : i < len) {post : Int32 → Prop} (h : post (nI (wend t len i))) : wp_Wo_endOfWord_0 (nI len) f post (nI i) := by
  have hl := hT.1
  have loopL : ∀ d i, i + d = len → post (nI (run isL t len i)) → wp_Wo_endOfWord_16 (nI len) f post (d + 1) (nI i) := by
    intro d
    induction d with
    | zero =>
      intro i hi h
      rw [wp_Wo_endOfWord_16]
      rw [run_end isL t (by omega)] at h
      exact br_t (nI_le (by omega) (by omega)) h
    | succ d ih =>
      intro i hi h
      rw [wp_Wo_endOfWord_16]
      obtain ⟨e, e1, e2⟩ := hT.2 i (by omega)
      refine br_f (nI_ge (by omega) (by omega)) ⟨vp_in_nI (by omega) (by omega), ?_⟩
      rw [nI_clamp (n := i) (by omega), e, nI_1]
      refine WoL_ok (by omega) ?_
      rw [i01_0]
      refine ⟨fun z => ?_, fun z => ?_⟩
      · rw [run_no (by omega) z] at h
        exact h
      · rw [run_yes (by omega) (by cases q : isL (t i); exact absurd q z; rfl)] at h
        exact ih (i + 1) (by omega) h
  have loopD : ∀ d i, i + d = len → post (nI (run isD t len i)) → wp_Wo_endOfWord_54 (nI len) f post (d + 1) (nI i) := by
    intro d
    induction d with
    | zero =>
      intro i hi h
      rw [wp_Wo_endOfWord_54]
      rw [run_end isD t (by omega)] at h
      exact br_t (nI_le (by omega) (by omega)) h
    | succ d ih =>
      intro i hi h
      rw [wp_Wo_endOfWord_54]
      obtain ⟨e, e1, e2⟩ := hT.2 i (by omega)
      refine br_f (nI_ge (by omega) (by omega)) ⟨vp_in_nI (by omega) (by omega), ?_⟩
      rw [nI_clamp (n := i) (by omega), e, nI_1]
      refine WoD_ok (by omega) ?_
      rw [i01_0]
      refine ⟨fun z => ?_, fun z => ?_⟩
      · rw [run_no (by omega) z] at h
        exact h
      · rw [run_yes (by omega) (by cases q : isD (t i); exact absurd q z; rfl)] at h
        exact ih (i + 1) (by omega) h
  unfold wp_Wo_endOfWord_0
  obtain ⟨e, e1, e2⟩ := hT.2 i (by omega)
  rw [nI_clamp (n := i) (by omega), e, nI_1]
  refine ⟨vp_in_nI (by omega) (by omega), WoL_ok (by omega) ?_⟩
  rw [i01_0]
  unfold wend at h
  refine ⟨fun z => ⟨vp_in_nI (by omega) (by omega), WoD_ok (by omega) ?_⟩, fun z => ?_⟩
  · rw [i01_0]
    rw [if_neg (by rw [z]; decide)] at h
    refine ⟨fun z2 => ?_, fun z2 => ?_⟩
    · rw [if_neg (by rw [z2]; decide)] at h
      exact h
    · rw [if_pos (by cases q : isD (t i); exact absurd q z2; rfl)] at h
      exact ⟨_, loopD (len - (i + 1)) (i + 1) (by omega) h⟩
  · rw [if_pos (by cases q : isL (t i); exact absurd q z; rfl)] at h
    exact ⟨_, loopL (len - (i + 1)) (i + 1) (by omega) h⟩
/-- the word of d characters from i on is the k-th name -/
def spl (t : Nat → Nat) (k i d : Nat) : Bool := decide (d = gx_ln k) && (List.range (gx_ln k)).all (fun j => decide (nI (t (i + j)) = gx_chr k j))
theorem spl_iff {t : Nat → Nat} {k i d : Nat} : spl t k i d = true ↔ d = gx_ln k ∧ ∀ j, j < gx_ln k → nI (t (i + j)) = gx_chr k j := by
  unfold spl
  rw [Bool.and_eq_true, decide_eq_true_iff, List.all_eq_true]
  constructor
  · rintro ⟨h1, h2⟩
    exact ⟨h1, fun j hj => of_decide_eq_true (h2 j (List.mem_range.mpr hj))⟩
  · rintro ⟨h1, h2⟩
    exact ⟨h1, fun j hj => decide_eq_true (h2 j (List.mem_range.mp hj))⟩
theorem ln_le : ∀ k, k < 4 → gx_ln k ≤ 6 := by decide +kernel
