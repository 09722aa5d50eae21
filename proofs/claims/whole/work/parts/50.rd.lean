/-! read, class and reference. Own work. -/
theorem exV {t : Nat → Nat} {len : Nat} (hl : len ≤ 600) : ∃ V, V ≤ 600 ∧ (∀ v, v < V → kd t len v ≠ 11 ∧ kd t len v ≠ 12) ∧ (kd t len V = 11 ∨ kd t len V = 12) := by
  have h600 : kd t len 600 = 11 := kd_11.mpr (fun h => by have := pos_ge t len 600 h; omega)
  have : ∀ m, (∀ v, v < m → kd t len v ≠ 11 ∧ kd t len v ≠ 12) ∨ ∃ V, V < m ∧ (∀ v, v < V → kd t len v ≠ 11 ∧ kd t len v ≠ 12) ∧ (kd t len V = 11 ∨ kd t len V = 12) := by
    intro m
    induction m with
    | zero => exact Or.inl (fun v hv => by omega)
    | succ m ih =>
      rcases ih with h | ⟨V, h1, h2, h3⟩
      · by_cases q : kd t len m = 11 ∨ kd t len m = 12
        · exact Or.inr ⟨m, by omega, h, q⟩
        · refine Or.inl (fun v hv => ?_)
          by_cases z : v = m
          · subst z; exact ⟨fun z => q (Or.inl z), fun z => q (Or.inr z)⟩
          · exact h v (by omega)
      · exact Or.inr ⟨V, by omega, h2, h3⟩
  rcases this 601 with h | ⟨V, h1, h2, h3⟩
  · exact absurd h600 (h 600 (by omega)).1
  · exact ⟨V, by omega, h2, h3⟩
def posI (t : Nat → Nat) (len : Nat) (v : Nat) : Int32 := nI (pos t len v)
/-- V is the last word that is looked at -/
def lastW (t : Nat → Nat) (len V : Nat) : Prop := V ≤ 600 ∧ (∀ v, v < V → kd t len v ≠ 11 ∧ kd t len v ≠ 12) ∧ (kd t len V = 11 ∨ kd t len V = 12)
theorem lastW.toks {t : Nat → Nat} {len V : Nat} (h : lastW t len V) : Toks (kd t len) (nm t len) V := ⟨h.1, h.2.1, h.2.2, kd_le t len, nm_lt t len⟩
theorem lastW.uniq {t : Nat → Nat} {len V W : Nat} (h : lastW t len V) (h2 : (kd t len W = 11 ∨ kd t len W = 12)) (h3 : ∀ v, v < W → kd t len v ≠ 11 ∧ kd t len v ≠ 12) : W = V := by
  rcases Nat.lt_trichotomy W V with z | z | z
  · have := h.2.1 W z; omega
  · exact z
  · have := h3 V z
    have := h.2.2
    omega
/-- what read finds: a word that can't stand, a fault, or nothing wrong -/
def wrongAt (t : Nat → Nat) (len V : Nat) : Int32 := posI t len (sText (kd t len) V).1
theorem cread_ok {t : Nat → Nat} {len V : Nat} {f : Nat → Int32} (hT : Txt t len f) (hV : lastW t len V)
    {post : Int32 → Int32 → Int32 → Int32 → Int32 → Int32 → Int32 → Int32 → Int32 → Int32 → Int32 → Int32 → Int32 → Int32 → Int32 → Int32 → (Nat → Int32) → (Nat → Int32) → (Nat → Int32) → (Nat → Int32) → (Nat → Int32) → (Nat → Int32) → (Nat → Int32) → (Nat → Int32) → (Nat → Int64) → (Nat → Int64) → (Nat → Int64) → (Nat → Int32) → (Nat → Int64) → (Nat → Int64) → (Nat → Int64) → (Nat → Int32) → (Nat → Int32) → Prop}
    {sz nx tp tn fl fp ww tz tl fz fs gz gs cl : Int32} {wk wp wn tk ti to tv cn : Nat → Int32} {fv gv ve : Nat → Int64} {so : Nat → Int32} {lo ab be : Nat → Int64} {se tu : Nat → Int32}
    (h0 : (sText (kd t len) V).2 = false → ∀ nx tp tn ww tz tl wk wp wn tk ti to tv, post 1 sz nx tp tn 1 (wrongAt t len V) 0 ww tz tl fz fs gz gs cl wk wp wn tk ti to tv cn fv gv ve so lo ab be se tu)
    (hA : (sText (kd t len) V).2 = true → ∀ c p, xF (kd t len) (nm t len) (posI t len) V = some (c, p) → ∀ nx tp tn ww tz tl wk wp wn tk ti to tv, post c sz nx tp tn c p 0 ww tz tl fz fs gz gs cl wk wp wn tk ti to tv cn fv gv ve so lo ab be se tu)
    (h1 : (sText (kd t len) V).2 = true → xF (kd t len) (nm t len) (posI t len) V = none → ∀ n js F, n = nm t len 1 → js = xL (kd t len) V → F = sumC n (kd t len) (nm t len) (posI t len) V js → ∀ nx tp tn ww tz tl wk wp wn tk ti to tv k A cn fv gv ve so lo ab be se tu, cn 0 = nI n → (∀ c, 1 ≤ c → c ≤ 3 → cn c = nI (cntK (kd t len) c js)) → (∀ S, S < 2 ^ n → fv S = lI (F S)) → (∀ S, S < 2 ^ n → gv S = lI (F S)) → (∀ x, x < 10 → ve x = 0) → k ≤ n → ChainOk F n k A → ChainAt F k A ab be se tu → post 0 (nI n) nx tp tn 0 (-1) 0 ww tz tl (nI n) (nI (2 ^ n)) (nI n) (nI (2 ^ n)) (nI k) wk wp wn tk ti to tv cn fv gv ve so lo ab be se tu) :
    wp_Ls_read_0 f post sz nx tp tn fl fp (nI len) ww tz tl fz fs gz gs cl wk wp wn tk ti to tv cn fv gv ve so lo ab be se tu := by
  have hTk := hV.toks
  unfold wp_Ls_read_0
  refine split_ok hT (fun ws kf pf nf W hW h11 hlt hh => ?_)
  have hVW : V ≤ W := by
    rcases Nat.lt_or_ge W V with z | z
    · exact absurd h11 (hV.2.1 W z).1
    · exact z
  have hC : TokC (kd t len) (nm t len) (posI t len) V kf pf nf := fun v hv => hh v (by omega)
  unfold wp_Tr_begin_0
  refine readText_ok hTk hC (fun q tp tn fl fp sz le ki is os va => bn0 rfl ?_) (fun q nx tp tn fl fp sz le ki is os va hf hx => bn1 (by decide) ?_) (fun q hx hlen nx tp tn ki is os va hta => bn1 (by decide) ?_)
  · have hle := sText_le hTk
    have hV6 := hV.1
    unfold wp_Tr_refuseWord_0 wp_Ls_read_34 wp_Ls_read_66
    rw [nI_clamp (by omega), (hC _ hle).2.1]
    exact ⟨vp_in_nI (by omega) (by omega), bn1 (by decide) (h0 q _ _ _ _ _ _ _ _ _ _ _ _ _)⟩
  · unfold wp_Ls_read_34 wp_Ls_read_66
    exact bn1 hf (hA q _ _ hx _ _ _ _ _ _ _ _ _ _ _ _ _)
  · obtain ⟨g1, g2, g3, g4⟩ := text_good hTk q hx
    unfold wp_Ls_read_34 wp_Ls_read_66
    refine bn0 rfl (takeOver_ok g1 g2 hTk g4 g3 hta (fun k A cn fv gv ve so lo ab be se tu c0 c1 c2 c3 c4 c5 c6 c7 => ?_))
    exact h1 q hx _ _ _ rfl rfl rfl _ _ _ _ _ _ _ _ _ _ _ _ _ k A _ _ _ _ _ _ _ _ _ _ c0 c1 c2 c3 c4 c5 c6 c7
theorem mread_ok {t : Nat → Nat} {len V : Nat} {f : Nat → Int32} (hT : Txt t len f) (hV : lastW t len V)
    {post : Int32 → Int32 → Int32 → Int32 → Int32 → Int32 → Int32 → Int32 → Int32 → Int32 → Int32 → (Nat → Int32) → (Nat → Int32) → (Nat → Int32) → (Nat → Int32) → (Nat → Int32) → (Nat → Int32) → (Nat → Int32) → (Nat → Int32) → (Nat → Int32) → Prop}
    {th wr ws at0 kn n0 ds fl fp : Int32} {kf pf nf dm dr he mn al ve : Nat → Int32}
    (h0 : (sText (kd t len) V).2 = false → ∀ ws a ds fl fp kf pf nf dm dr he, post 1 0 0 (wrongAt t len V) ws a kn n0 ds fl fp kf pf nf dm dr he mn al ve)
    (hA : (sText (kd t len) V).2 = true → ∀ c p, xF (kd t len) (nm t len) (posI t len) V = some (c, p) → ∀ ws a ds kf pf nf dm dr he, post c 0 0 p ws a kn n0 ds c p kf pf nf dm dr he mn al ve)
    (h1 : (sText (kd t len) V).2 = true → xF (kd t len) (nm t len) (posI t len) V = none → ∀ n js F, n = nm t len 1 → js = xL (kd t len) V → F = sumC n (kd t len) (nm t len) (posI t len) V js → ∀ ws a fp kf pf nf dm dr he mn al ve, (∀ c, c < 3 → mn c = nI (cntK (kd t len) (c + 1) js)) → (∀ S, S < 2 ^ n → al S = iI (F S)) → (∀ x, x < 10 → ve x = 0) → post 0 0 0 (-1) ws a 1 (nI n) (nI n) 0 fp kf pf nf dm dr he mn al ve) :
    wp_Mo_read_0 f post th (nI len) wr ws at0 kn n0 ds fl fp kf pf nf dm dr he mn al ve := by
  have hTk := hV.toks
  have hV6 := hV.1
  unfold wp_Mo_read_0
  refine cut_ok hT (fun ws kf pf nf W hW h11 hlt hh => ?_)
  have hVW : W = V := hV.uniq h11 hlt
  subst hVW
  have hM : TokM (kd t len) (nm t len) (posI t len) W kf pf nf := fun v hv => hh v (by omega)
  refine isText_ok hTk hM (fun q a => bn1 (by decide) ?_) (fun q => bn0 rfl ?_)
  · refine build_ok hTk hM q (fun c p hx a ds dm dr he => ?_) (fun hx a p dm dr he hdr hdm => ?_)
    · have hc0 : ¬ c = 0 := by
        have key : ∀ d i j, tsF (nm t len 1) (kd t len) (nm t len) (posI t len) W d i j = some (c, p) → ¬ c = 0 := by
          intro d
          induction d with
          | zero => intro i j h; cases h
          | succ d ih =>
            intro i j h
            rw [tsF] at h
            split at h
            · split at h
              · injection h with h
                injection h with h1 h2
                rw [← h1]; decide
              · cases e : tF (nm t len 1) (kd t len) (nm t len) (posI t len) W (j + 1) with
                | some g =>
                  rw [e] at h
                  injection h with h
                  rw [h] at e
                  rcases tF_code e with q0 | q0 <;> rw [q0] <;> decide
                | none =>
                  rw [e] at h
                  exact ih _ _ h
            · cases h
        unfold xF at hx
        split at hx
        · injection hx with hx
          injection hx with h1 h2
          rw [← h1]; decide
        · exact key _ _ _ hx
      exact br_f hc0 (hA q c p hx _ _ _ _ _ _ _ _ _)
    · refine br_t rfl ⟨4, ?_⟩
      have cp3 : ∀ mn al, (∀ c, c < 3 → mn c = nI (cntK (kd t len) (c + 1) (xL (kd t len) W))) → (∀ S, S < 1024 → al S = dr S) → ∀ d x ve, x + d = 10 → (∀ y, y < x → ve y = 0) → wp_Mo_read_132 f post (d + 1) (nI x) 0 0 (-1) ws a 1 (nI (nm t len 1)) (nI (nm t len 1)) 0 p kf pf nf dm dr he mn al ve := by
        intro mn al hmn hal d
        induction d with
        | zero =>
          intro x ve hx9 hve
          rw [wp_Mo_read_132]
          have : x = 10 := by omega
          subst this
          refine br_t (nI_le (a := 10) (Nat.le_refl _) (by omega)) (h1 q hx _ _ _ rfl rfl rfl _ _ _ _ _ _ _ _ _ _ _ _ hmn (fun S hS => ?_) hve)
          have h10 := (text_good hTk q hx).2.1
          have := two_le h10
          rw [hal S (by omega), hdr S (by omega), if_pos hS]
        | succ d ih =>
          intro x ve hx9 hve
          rw [wp_Mo_read_132]
          refine br_f (nI_ge (b := 10) (by omega) (by omega)) ⟨vp_in_nI (by omega) (by omega), ?_⟩
          rw [nI_1, nI_clamp (by omega)]
          refine ih (x + 1) _ (by omega) (fun y hy => ?_)
          by_cases z : y = x
          · subst z; rw [pk_us]
          · rw [pk_un z]; exact hve y (by omega)
      have cp2 : ∀ mn, (∀ c, c < 3 → mn c = nI (cntK (kd t len) (c + 1) (xL (kd t len) W))) → ∀ d x al, x + d = 1024 → (∀ S, S < x → al S = dr S) → wp_Mo_read_105 f post (d + 1) (nI x) 0 0 (-1) ws a 1 (nI (nm t len 1)) (nI (nm t len 1)) 0 p kf pf nf dm dr he mn al ve := by
        intro mn hmn d
        induction d with
        | zero =>
          intro x al hx9 hal
          rw [wp_Mo_read_105]
          have : x = 1024 := by omega
          subst this
          exact br_t (nI_le (a := 1024) (Nat.le_refl _) (by omega)) ⟨11, cp3 mn al hmn hal 10 0 ve (by omega) (fun y hy => by omega)⟩
        | succ d ih =>
          intro x al hx9 hal
          rw [wp_Mo_read_105]
          refine br_f (nI_ge (b := 1024) (by omega) (by omega)) ⟨vp_in_nI (by omega) (by omega), vp_in_nI (by omega) (by omega), ?_⟩
          rw [nI_1, nI_clamp (by omega)]
          refine ih (x + 1) _ (by omega) (fun y hy => ?_)
          by_cases z : y = x
          · subst z; rw [pk_us]
          · rw [pk_un z]; exact hal y (by omega)
      have cp1 : ∀ d x mn, x + d = 3 → (∀ c, c < x → mn c = dm c) → wp_Mo_read_80 f post (d + 1) (nI x) 0 0 (-1) ws a 1 (nI (nm t len 1)) (nI (nm t len 1)) 0 p kf pf nf dm dr he mn al ve := by
        intro d
        induction d with
        | zero =>
          intro x mn hx9 hmn
          rw [wp_Mo_read_80]
          have : x = 3 := by omega
          subst this
          exact br_t (nI_le (a := 3) (Nat.le_refl _) (by omega)) ⟨1025, cp2 mn (fun c hc => by rw [hmn c hc]; exact hdm c hc) 1024 0 al (by omega) (fun y hy => by omega)⟩
        | succ d ih =>
          intro x mn hx9 hmn
          rw [wp_Mo_read_80]
          refine br_f (nI_ge (b := 3) (by omega) (by omega)) ⟨vp_in_nI (by omega) (by omega), vp_in_nI (by omega) (by omega), ?_⟩
          rw [nI_1, nI_clamp (by omega)]
          refine ih (x + 1) _ (by omega) (fun y hy => ?_)
          by_cases z : y = x
          · subst z; rw [pk_us]
          · rw [pk_un z]; exact hmn y (by omega)
      exact cp1 3 0 mn (by omega) (fun c hc => by omega)
  · have hle := sText_le hTk
    rw [nI_clamp (by omega), (hM _ hle).2.1]
    exact ⟨vp_in_nI (by omega) (by omega), h0 q _ _ _ _ _ _ _ _ _ _ _⟩
