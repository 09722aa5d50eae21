/-! The class splits the text into its words. Own work. -/
theorem spells_ok {t : Nat → Nat} {len : Nat} {f : Nat → Int32} (hT : Txt t len f) {k i e : Nat} (hk : k < 4) (hi : i ≤ e) (he : e ≤ len) {post : Int32 → Prop} (h : post (i01 (spl t k i (e - i)))) : wp_Wo_spells_0 f post k (nI i) (nI e) := by
  have hl := hT.1
  have hln := ln_le k hk
  have e0 : nI e - nI i = nI (e - i) := pk_sub (by omega)
  have loop : e - i = gx_ln k → ∀ d j, j + d = gx_ln k → (∀ l, l < j → nI (t (i + l)) = gx_chr k l) → wp_Wo_spells_15 f post (d + 1) k (nI i) (nI j) := by
    intro hei d
    induction d with
    | zero =>
      intro j hj hall
      rw [wp_Wo_spells_15]
      refine ⟨hk, br_t (nI_le (by omega) (by omega)) ?_⟩
      rw [show spl t k i (e - i) = true from spl_iff.mpr ⟨hei, fun l hl => hall l (by omega)⟩] at h
      exact h
    | succ d ih =>
      intro j hj hall
      rw [wp_Wo_spells_15]
      obtain ⟨q, q1, q2⟩ := hT.2 (i + j) (by omega)
      refine ⟨hk, br_f (nI_ge (by omega) (by omega)) ?_⟩
      rw [nI_add, nI_clamp (n := i + j) (by omega), q, nI_1]
      refine ⟨vp_in_nI (by omega) (by omega), hk, vp_in_nI (by omega) (by omega), ?_⟩
      rw [nI_clamp (n := j) (by omega)]
      refine ⟨fun z => ih (j + 1) (by omega) (fun l hl => ?_), fun z => ?_⟩
      · by_cases c : l = j
        · subst c; exact z
        · exact hall l (by omega)
      · rw [show spl t k i (e - i) = false by
          cases q9 : spl t k i (e - i)
          · rfl
          · exact absurd ((spl_iff.mp q9).2 j (by omega)) z] at h
        exact h
  unfold wp_Wo_spells_0
  rw [e0]
  refine ⟨hk, fun z => ?_, fun z => ?_⟩
  · have z := (nI_eq (by omega) (by omega)).mp z
    exact ⟨_, loop z.symm (gx_ln k) 0 (by omega) (fun l hl => by omega)⟩
  · rw [show spl t k i (e - i) = false by
      cases q9 : spl t k i (e - i)
      · rfl
      · exact absurd (congrArg nI (spl_iff.mp q9).1.symm) z] at h
    exact h
def nameK (t : Nat → Nat) (i d : Nat) : Nat := if spl t 0 i d = true then 0 else if spl t 1 i d = true then 1 else if spl t 2 i d = true then 2 else if spl t 3 i d = true then 3 else 12
theorem kindOfName_ok {t : Nat → Nat} {len : Nat} {f : Nat → Int32} (hT : Txt t len f) {i e : Nat} (hi : i ≤ e) (he : e ≤ len) {post : Int32 → Prop} (h : post (nI (nameK t i (e - i)))) : wp_Wo_kindOfName_0 f post (nI i) (nI e) := by
  unfold nameK at h
  unfold wp_Wo_kindOfName_0 wp_Wo_kindOfName_56
  refine spells_ok hT (by decide) hi he ?_
  rw [i01_0]
  refine ⟨fun z => ?_, fun z => ?_⟩
  · rw [if_neg (by rw [z]; decide)] at h
    refine spells_ok hT (by decide) hi he ?_
    rw [i01_0]
    refine ⟨fun z => ?_, fun z => ?_⟩
    · rw [if_neg (by rw [z]; decide)] at h
      refine spells_ok hT (by decide) hi he ?_
      rw [i01_0]
      refine ⟨fun z => ?_, fun z => ?_⟩
      · rw [if_neg (by rw [z]; decide)] at h
        refine spells_ok hT (by decide) hi he ?_
        rw [i01_0]
        refine ⟨fun z => ?_, fun z => ?_⟩
        · rw [if_neg (by rw [z]; decide)] at h
          exact h
        · rw [if_pos (by cases q : spl t 3 i (e - i); exact absurd q z; rfl)] at h
          exact h
      · rw [if_pos (by cases q : spl t 2 i (e - i); exact absurd q z; rfl)] at h
        exact h
    · rw [if_pos (by cases q : spl t 1 i (e - i); exact absurd q z; rfl)] at h
      exact h
  · rw [if_pos (by cases q : spl t 0 i (e - i); exact absurd q z; rfl)] at h
    exact h
def signK (c : Nat) : Nat := if c = 45 then 8 else if c = 59 then 5 else if c = 61 then 6 else if c = 62 then 7 else if c = 123 then 9 else if c = 125 then 10 else 12
/-- the kind of the word from i to e -/
def kindAt (t : Nat → Nat) (i e : Nat) : Nat := if isL (t i) = true then nameK t i (e - i) else if isD (t i) = true then (if 5 < e - i then 12 else 4) else signK (t i)
theorem signK_br {α : Prop} {c : Nat} (hc : c < 1000) {post : Int32 → Prop} {g : Nat → Int32} (h : post (g (signK c))) : ((nI c = 45 → post (g 8)) ∧ (¬ nI c = 45 → ((nI c = 59 → post (g 5)) ∧ (¬ nI c = 59 → ((nI c = 61 → post (g 6)) ∧ (¬ nI c = 61 → ((nI c = 62 → post (g 7)) ∧ (¬ nI c = 62 → ((nI c = 123 → post (g 9)) ∧ (¬ nI c = 123 → ((nI c = 125 → post (g 10)) ∧ (¬ nI c = 125 → post (g 12))))))))))))) := by
  have q : ∀ k : Nat, k < 1000 → (nI c = nI k ↔ c = k) := fun k hk => nI_eq (by omega) (by omega)
  have q1 : nI c = 45 ↔ c = 45 := q 45 (by omega)
  have q2 : nI c = 59 ↔ c = 59 := q 59 (by omega)
  have q3 : nI c = 61 ↔ c = 61 := q 61 (by omega)
  have q4 : nI c = 62 ↔ c = 62 := q 62 (by omega)
  have q5 : nI c = 123 ↔ c = 123 := q 123 (by omega)
  have q6 : nI c = 125 ↔ c = 125 := q 125 (by omega)
  rw [q1, q2, q3, q4, q5, q6]
  unfold signK at h
  refine ⟨fun z => by rwa [if_pos z] at h, fun z => ?_⟩
  rw [if_neg z] at h
  refine ⟨fun z => by rwa [if_pos z] at h, fun z => ?_⟩
  rw [if_neg z] at h
  refine ⟨fun z => by rwa [if_pos z] at h, fun z => ?_⟩
  rw [if_neg z] at h
  refine ⟨fun z => by rwa [if_pos z] at h, fun z => ?_⟩
  rw [if_neg z] at h
  refine ⟨fun z => by rwa [if_pos z] at h, fun z => ?_⟩
  rw [if_neg z] at h
  refine ⟨fun z => by rwa [if_pos z] at h, fun z => ?_⟩
  rwa [if_neg z] at h
theorem kindOf_ok {t : Nat → Nat} {len : Nat} {f : Nat → Int32} (hT : Txt t len f) {i e : Nat} (hi : i < e) (he : e ≤ len) {post : Int32 → Prop} (h : post (nI (kindAt t i e))) : wp_Wo_kindOf_0 f post (nI i) (nI e) := by
  have hl := hT.1
  obtain ⟨q, q1, q2⟩ := hT.2 i (by omega)
  have e0 : nI e - nI i = nI (e - i) := pk_sub (by omega)
  unfold kindAt at h
  unfold wp_Wo_kindOf_0 wp_Wo_kindOf_44
  rw [nI_clamp (n := i) (by omega), q, e0]
  refine ⟨vp_in_nI (by omega) (by omega), WoL_ok (by omega) ?_⟩
  rw [i01_0]
  refine ⟨fun z => ⟨vp_in_nI (by omega) (by omega), WoD_ok (by omega) ?_⟩, fun z => ?_⟩
  · rw [if_neg (by rw [z]; decide)] at h
    rw [i01_0]
    refine ⟨fun z2 => ⟨vp_in_nI (by omega) (by omega), ?_⟩, fun z2 => ?_⟩
    · rw [if_neg (by rw [z2]; decide)] at h
      exact signK_br (α := True) (by omega) (g := nI) h
    · rw [if_pos (by cases q : isD (t i); exact absurd q z2; rfl)] at h
      have e5 : (5 : Int32) < nI (e - i) ↔ 5 < e - i := nI_ltI (a := 5) (b := e - i) (by omega) (by omega)
      rw [e5]
      refine ⟨fun z3 => ?_, fun z3 => ?_⟩
      · rw [if_pos z3] at h; exact h
      · rw [if_neg z3] at h; exact h
  · rw [if_pos (by cases q : isL (t i); exact absurd q z; rfl)] at h
    exact kindOfName_ok hT (by omega) he h
/-- the number of the first d characters from i on -/
def nv (t : Nat → Nat) (i : Nat) : Nat → Nat
  | 0 => 0
  | d + 1 => 10 * nv t i d + (t (i + d) - 48)
theorem numberOf_ok {t : Nat → Nat} {len : Nat} {f : Nat → Int32} (hT : Txt t len f) {i e : Nat} (hi : i ≤ e) (he : e ≤ len) (hd : ∀ j, i ≤ j → j < e → 48 ≤ t j) {post : Int32 → Prop} (h : post (nI (nv t i (e - i)))) : wp_Wo_numberOf_0 f post (nI i) (nI e) := by
  have hl := hT.1
  have loop : ∀ d j, i + j + d = e → wp_Wo_numberOf_5 f post (d + 1) (nI e) (nI (nv t i j)) (nI (i + j)) := by
    intro d
    induction d with
    | zero =>
      intro j hj
      rw [wp_Wo_numberOf_5]
      refine br_t (nI_le (by omega) (by omega)) ?_
      rw [show j = e - i by omega]
      exact h
    | succ d ih =>
      intro j hj
      rw [wp_Wo_numberOf_5]
      obtain ⟨q, q1, q2⟩ := hT.2 (i + j) (by omega)
      have h48 := hd (i + j) (by omega) (by omega)
      refine br_f (nI_ge (by omega) (by omega)) ⟨vp_in_nI (by omega) (by omega), ?_⟩
      rw [nI_clamp (n := i + j) (by omega), q, nI_1]
      have e1 : (10 : Int32) * nI (nv t i j) + (nI (t (i + j)) - 48) = nI (nv t i (j + 1)) := by
        rw [show (10 : Int32) = iI 10 from rfl, show (48 : Int32) = iI 48 from rfl, nI_iI, nI_iI, nI_iI, iI_mul, iI_sub, iI_add, nv]
        congr 1
        omega
      rw [e1]
      exact ih (j + 1) (by omega)
  unfold wp_Wo_numberOf_0
  exact ⟨e - i + 1, loop (e - i) 0 (by omega)⟩
def numAt (t : Nat → Nat) (i e : Nat) : Nat := if kindAt t i e = 4 then nv t i (e - i) else 0
theorem nv_lt {t : Nat → Nat} {i : Nat} (hd : ∀ j, t j ≤ 57) : ∀ d, nv t i d < 10 ^ d := by
  intro d
  induction d with
  | zero => rw [nv]; decide
  | succ d ih =>
    have := hd (i + d)
    rw [nv, Nat.pow_succ]
    omega
theorem nv_lt' {t : Nat → Nat} {i : Nat} : ∀ d, (∀ j, j < d → t (i + j) ≤ 57) → nv t i d < 10 ^ d := by
  intro d
  induction d with
  | zero => intro _; rw [nv]; decide
  | succ d ih =>
    intro hd
    have h1 := ih (fun j hj => hd j (by omega))
    have := hd d (by omega)
    rw [nv, Nat.pow_succ]
    omega
theorem kindAt_4 {t : Nat → Nat} {i e : Nat} (h : kindAt t i e = 4) : isD (t i) = true ∧ isL (t i) = false ∧ e - i ≤ 5 := by
  unfold kindAt at h
  split at h
  · exfalso
    unfold nameK at h
    repeat' (split at h)
    all_goals omega
  · next hl =>
    split at h
    · next hd =>
      split at h
      · omega
      · refine ⟨hd, ?_, by omega⟩
        cases q : isL (t i)
        · rfl
        · exact absurd q hl
    · exfalso
      unfold signK at h
      repeat' (split at h)
      all_goals omega
theorem word_digits {t : Nat → Nat} {len i : Nat} (hi : i < len) (hd : isD (t i) = true) (hL : isL (t i) = false) : ∀ j, i ≤ j → j < wend t len i → 48 ≤ t j ∧ t j ≤ 57 := by
  intro j h1 h2
  unfold wend at h2
  rw [if_neg (by rw [hL]; decide), if_pos hd] at h2
  by_cases z : j = i
  · subst z; exact of_decide_eq_true hd
  · exact of_decide_eq_true (run_in (P := isD) (len - (i + 1)) (i + 1) (by omega) j (by omega) h2)
theorem numAt_lt {t : Nat → Nat} {len i : Nat} (hi : i < len) : numAt t i (wend t len i) < 100000 := by
  unfold numAt
  split
  · next h =>
    obtain ⟨h1, h2, h3⟩ := kindAt_4 h
    have hw := word_digits hi h1 h2
    have h4 := nv_lt' (t := t) (i := i) (wend t len i - i) (fun j hj => (hw (i + j) (by omega) (by omega)).2)
    have h5 : 10 ^ (wend t len i - i) ≤ 10 ^ 5 := Nat.pow_le_pow_right (by decide) h3
    omega
  · omega
theorem kindAt_le (t : Nat → Nat) (i e : Nat) : kindAt t i e ≤ 12 ∧ kindAt t i e ≠ 11 := by
  unfold kindAt nameK signK
  constructor
  · repeat' split
    all_goals omega
  · repeat' split
    all_goals omega
theorem keep_ok {t : Nat → Nat} {len : Nat} {f : Nat → Int32} (hT : Txt t len f) {i w : Nat} (hi : i < len) (hw : w < 601) {kf pf nf : Nat → Int32} {post : Int32 → (Nat → Int32) → (Nat → Int32) → (Nat → Int32) → Prop}
    (h : post (nI (w + 1)) (upd kf w (nI (kindAt t i (wend t len i)))) (upd pf w (nI i)) (upd nf w (nI (numAt t i (wend t len i))))) : wp_Wo_keep_0 f post (nI (kindAt t i (wend t len i))) (nI i) (nI (wend t len i)) (nI w) kf pf nf := by
  have hl := hT.1
  have hkl := (kindAt_le t i (wend t len i)).1
  have hwl := wend_le t hi
  have hwg := wend_gt t len i
  unfold wp_Wo_keep_0 wp_Wo_keep_43
  rw [nI_clamp (n := w) (by omega), nI_1]
  have e4 : nI (kindAt t i (wend t len i)) = 4 ↔ kindAt t i (wend t len i) = 4 := nI_eq (a := kindAt t i (wend t len i)) (b := 4) (by omega) (by omega)
  rw [e4]
  unfold numAt at h
  refine ⟨vp_in_nI (by omega) (by omega), vp_in_nI (by omega) (by omega), fun z => ⟨vp_in_nI (by omega) (by omega), ?_⟩, fun z => ?_⟩
  · rw [if_neg z] at h; exact h
  · rw [if_pos z] at h
    obtain ⟨h1, h2, h3⟩ := kindAt_4 z
    refine numberOf_ok hT (by omega) hwl (fun j h3 h4 => (word_digits hi h1 h2 j h3 h4).1) ⟨vp_in_nI (by omega) (by omega), h⟩
/-- where the w-th word begins -/
def pos (t : Nat → Nat) (len : Nat) : Nat → Nat
  | 0 => run isB t len 0
  | w + 1 => if pos t len w < len then run isB t len (wend t len (pos t len w)) else pos t len w
theorem pos_le (t : Nat → Nat) (len : Nat) : ∀ w, pos t len w ≤ len := by
  intro w
  induction w with
  | zero => exact run_le _ _ (by omega)
  | succ w ih =>
    rw [pos]
    split
    · exact run_le _ _ (wend_le t (by omega))
    · exact ih
theorem pos_ge (t : Nat → Nat) (len : Nat) : ∀ w, pos t len w < len → w ≤ pos t len w := by
  intro w
  induction w with
  | zero => intro _; omega
  | succ w ih =>
    intro h
    rw [pos] at h ⊢
    split at h
    · next c =>
      rw [if_pos c]
      have h1 := wend_gt t len (pos t len w)
      have h2 := run_ge isB t len (wend t len (pos t len w))
      have := ih c
      omega
    · next c => exact absurd h c
def kd (t : Nat → Nat) (len w : Nat) : Nat := if pos t len w < len then kindAt t (pos t len w) (wend t len (pos t len w)) else 11
def nm (t : Nat → Nat) (len w : Nat) : Nat := if pos t len w < len then numAt t (pos t len w) (wend t len (pos t len w)) else 0
theorem nm_lt (t : Nat → Nat) (len w : Nat) : nm t len w < 100000 := by
  unfold nm
  split
  · next h => exact numAt_lt h
  · omega
theorem kd_le (t : Nat → Nat) (len w : Nat) : kd t len w ≤ 12 := by
  unfold kd
  split
  · exact (kindAt_le _ _ _).1
  · omega
theorem kd_11 {t : Nat → Nat} {len w : Nat} : kd t len w = 11 ↔ ¬ pos t len w < len := by
  unfold kd
  split
  · next h => exact ⟨fun z => absurd z (kindAt_le _ _ _).2, fun z => absurd h z⟩
  · next h => exact ⟨fun _ => h, fun _ => rfl⟩
theorem pos_end {t : Nat → Nat} {len w : Nat} (h : ¬ pos t len w < len) : pos t len w = len := by
  have := pos_le t len w
  omega
/-- the arrays hold the words below w -/
def holds (t : Nat → Nat) (len w : Nat) (kf pf nf : Nat → Int32) : Prop := ∀ v, v < w → kf v = nI (kd t len v) ∧ pf v = nI (pos t len v) ∧ nf v = nI (nm t len v)
theorem split_ok {t : Nat → Nat} {len : Nat} {f : Nat → Int32} (hT : Txt t len f) {ws : Int32} {kf pf nf : Nat → Int32} {post : Int32 → (Nat → Int32) → (Nat → Int32) → (Nat → Int32) → Prop}
    (h : ∀ ws kf pf nf W, W ≤ 600 → kd t len W = 11 → (∀ v, v < W → kd t len v ≠ 11) → holds t len (W + 1) kf pf nf → post ws kf pf nf) : wp_Wo_split_0 (nI len) f post ws kf pf nf := by
  have hl := hT.1
  have fin : ∀ w kf pf nf, w ≤ 600 → ¬ pos t len w < len → (∀ v, v < w → pos t len v < len) → holds t len w kf pf nf → wp_Wo_split_58 (nI len) f post (nI w) kf pf nf := by
    intro w kf pf nf hw hp hv hh
    unfold wp_Wo_split_58 wp_Wo_keep_0 wp_Wo_keep_43
    rw [nI_clamp (n := w) (by omega), nI_1]
    refine ⟨vp_in_nI (by omega) (by omega), vp_in_nI (by omega) (by omega), fun _ => ⟨vp_in_nI (by omega) (by omega), ?_⟩, fun z => absurd z (by decide)⟩
    refine h _ _ _ _ w hw (kd_11.mpr hp) (fun v hv9 z => kd_11.mp z (hv v hv9)) (fun v hv9 => ?_)
    by_cases c : v = w
    · subst c
      rw [pk_us, pk_us, pk_us, kd_11.mpr hp, pos_end hp]
      unfold nm
      rw [if_neg hp]
      exact ⟨rfl, rfl, rfl⟩
    · rw [pk_un c, pk_un c, pk_un c]
      exact hh v (by omega)
  have loop : ∀ d w kf pf nf, w + d = 600 → (∀ v, v < w → pos t len v < len) → holds t len w kf pf nf → wp_Wo_split_13 (nI len) f post (d + 1) (nI (pos t len w)) (nI w) (nI w) kf pf nf := by
    intro d
    induction d with
    | zero =>
      intro w kf pf nf hw hv hh
      rw [wp_Wo_split_13]
      have : w = 600 := by omega
      subst this
      refine br_t (nI_le (a := 600) (Nat.le_refl _) (by omega)) (fin 600 kf pf nf (by omega) (fun z => ?_) hv hh)
      have := pos_ge t len 600 z
      omega
    | succ d ih =>
      intro w kf pf nf hw hv hh
      rw [wp_Wo_split_13]
      have hpl := pos_le t len w
      refine br_f (nI_ge (b := 600) (by omega) (by omega)) ⟨fun z => ?_, fun z => ?_⟩
      · have z := (nI_leI (by omega) (by omega)).mp z
        exact fin w kf pf nf (by omega) (by omega) hv hh
      · have hp : pos t len w < len := by
          apply Classical.byContradiction
          intro c
          exact z (nI_le (by omega) (by omega))
        have hwl := wend_le t hp
        have hwg := wend_gt t len (pos t len w)
        refine endOfWord_ok hT hp (kindOf_ok hT hwg hwl (keep_ok hT hp (by omega) (firstBehindBlanks_ok hT hwl ?_)))
        have e : run isB t len (wend t len (pos t len w)) = pos t len (w + 1) := by rw [pos, if_pos hp]
        rw [e, nI_1]
        refine ih (w + 1) _ _ _ (by omega) (fun v hv9 => ?_) (fun v hv9 => ?_)
        · by_cases c : v = w
          · subst c; exact hp
          · exact hv v (by omega)
        · by_cases c : v = w
          · subst c
            rw [pk_us, pk_us, pk_us]
            unfold kd nm
            rw [if_pos hp, if_pos hp]
            exact ⟨rfl, rfl, rfl⟩
          · rw [pk_un c, pk_un c, pk_un c]
            exact hh v (by omega)
  unfold wp_Wo_split_0
  refine firstBehindBlanks_ok hT (i := 0) (by omega) ⟨601, ?_⟩
  exact loop 600 0 kf pf nf (by omega) (fun v hv => by omega) (fun v hv => by omega)
