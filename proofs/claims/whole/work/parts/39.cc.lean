/-! The class's check answers 1. Own work. -/
theorem dvd_2520 {b : Nat} (h0 : 0 < b) (h : b ≤ 10) : b ∣ 2520 := by
  have : b = 1 ∨ b = 2 ∨ b = 3 ∨ b = 4 ∨ b = 5 ∨ b = 6 ∨ b = 7 ∨ b = 8 ∨ b = 9 ∨ b = 10 := by omega
  rcases this with rfl | rfl | rfl | rfl | rfl | rfl | rfl | rfl | rfl | rfl <;> decide
theorem tdiv_nat (a b : Nat) : (a : Int).tdiv (b : Int) = ((a / b : Nat) : Int) := rfl
theorem lcm_step (T b : Nat) : T * (b / Nat.gcd T b) = Nat.lcm T b := by
  unfold Nat.lcm
  rw [Nat.mul_div_assoc _ (Nat.gcd_dvd_right T b)]
theorem qt_le {F : Nat → Int} {n k : Nat} {A : Nat → Nat} (hn : n ≤ 10) (hC : ChainOk F n k A) {i : Nat} (hi : i < k) : qtI A i ≤ 10 := by
  have := pop_le (A (i + 1))
  unfold qtI
  omega
theorem makeWhole_ok {n k : Nat} (hn : n ≤ 10) (hk : k ≤ n) {F : Nat → Int} {A : Nat → Nat} (hb : ∀ j, j < 2 ^ n → (F j).natAbs ≤ 3000000) (hC : ChainOk F n k A) {ab be : Nat → Int64} {se tu : Nat → Int32} (hA : ChainAt F k A ab be se tu) {post : Int64 → (Nat → Int64) → Prop} {tm : Int64} {wh : Nat → Int64}
    (h : ∀ (T : Nat) (w : Nat → Int) wh, 0 < T → T ≤ 2520 → Whole F n k A T w → (∀ x, x < n → (w x).natAbs ≤ 15120000000) → (∀ x, x < n → wh x = lI (w x)) → post (lI T) wh) : wp_Cc_makeWhole_0 (nI k) be tu ab post (nI n) tm wh := by
  have pb : ∀ i, i < k → (prI F A i).natAbs ≤ 6000000 := by
    intro i hi
    have h1 := hb (A i) (hC.lt (by omega))
    have h2 := hb (A (i + 1)) (hC.lt (by omega))
    unfold prI
    omega
  have dp : ∀ i, i < k → 0 < den (prI F A i) (qtI A i) ∧ den (prI F A i) (qtI A i) ≤ 10 := by
    intro i hi
    have h1 := den_le (p := prI F A i) (qtI_pos hC hi)
    have h2 := qt_le hn hC hi
    exact ⟨den_pos _ _, by omega⟩
  have loop2 : ∀ T : Nat, T ∣ 2520 → 0 < T → (∀ i, i < k → den (prI F A i) (qtI A i) ∣ T) → ∀ d x (w : Nat → Int) wh, x + d = n → (∀ i, i < k → ∀ y, y < x → inTurn A i y → w y * qtI A i = prI F A i * T) → (∀ y, y < x → (w y).natAbs ≤ 15120000000) → (∀ y, y < x → wh y = lI (w y)) → wp_Cc_makeWhole_52 (nI k) be tu ab post (d + 1) (nI n) (nI x) (lI T) wh := by
    intro T hT hT0 hdv d
    have hTle : T ≤ 2520 := Nat.le_of_dvd (by decide) hT
    induction d with
    | zero =>
      intro x w wh hx h1 h2 h3
      rw [wp_Cc_makeWhole_52]
      have : x = n := by omega
      subst this
      exact br_t (nI_le (Nat.le_refl _) (by omega)) (h T w wh hT0 hTle h1 h2 h3)
    | succ d ih =>
      intro x w wh hx h1 h2 h3
      rw [wp_Cc_makeWhole_52]
      refine br_f (nI_ge (by omega) (by omega)) ?_
      obtain ⟨i, hi, ht⟩ := hC.turn_all (x := x) (by omega)
      have etu := hA.tu i hi x (by omega) ht.1 ht.2
      obtain ⟨d1, d2⟩ := dp i hi
      have emax : (if be i < 1 then (1 : Int64) else be i) = lI (den (prI F A i) (qtI A i) : Nat) := by
        rw [hA.be i hi]
        refine if_neg (fun z => ?_)
        have := (lI_lt (a := (den (prI F A i) (qtI A i) : Nat)) (b := 1) ⟨by omega, by omega⟩ ⟨by omega, by omega⟩).mp z
        omega
      have enum := num_den (p := prI F A i) (qtI_pos hC hi)
      have hnb := num_bd (p := prI F A i) (qtI_pos hC hi)
      have hpb := pb i hi
      have hdT := hdv i hi
      have hab := hA.ab i hi
      generalize num (prI F A i) (qtI A i) = nu at *
      generalize den (prI F A i) (qtI A i) = de at *
      rw [nI_clamp (n := x) (by omega), etu, nI_clamp (n := i) (by omega), emax, hab, lI_div ⟨by omega, by omega⟩ ⟨by omega, by omega⟩, tdiv_nat, lI_mul, nI_1]
      refine ⟨vp_in_nI (by omega) (by omega), vp_in_nI (by omega) (by omega), vp_in_nI (by omega) (by omega), lI_nz (by omega) d1, vp_in_nI (by omega) (by omega), ?_⟩
      have hTd : T / de ≤ T := Nat.div_le_self _ _
      have ev : (nu * ((T / de : Nat) : Int)).natAbs ≤ 15120000000 := by
        rw [Int.natAbs_mul, Int.natAbs_natCast]
        calc nu.natAbs * (T / de) ≤ 6000000 * 2520 := Nat.mul_le_mul (by omega) (by omega)
          _ = 15120000000 := by decide
      have ew : nu * ((T / de : Nat) : Int) * qtI A i = prI F A i * T := by
        obtain ⟨c, hc⟩ := hdT
        rw [hc, Nat.mul_div_cancel_left _ d1, Int.mul_assoc, Int.mul_comm (c : Int), ← Int.mul_assoc, enum, Int.mul_assoc, ← Int.natCast_mul]
      refine ih (x + 1) (fun y => if y = x then nu * ((T / de : Nat) : Int) else w y) _ (by omega) (fun j hj y hy hty => ?_) (fun y hy => ?_) (fun y hy => ?_)
      · by_cases z : y = x
        · subst z
          rw [if_pos rfl]
          have hij : i = j := by
            have a1 := hC.turn_ge hj hty (show i ≤ k by omega) ht.2
            have a2 := hC.turn_ge hi ht (show j ≤ k by omega) hty.2
            omega
          subst hij
          exact ew
        · rw [if_neg z]
          exact h1 j hj y (by omega) hty
      · by_cases z : y = x
        · rw [if_pos z]; exact ev
        · rw [if_neg z]; exact h2 y (by omega)
      · unfold vp_updL
        by_cases z : y = x
        · rw [if_pos z, if_pos z]
        · rw [if_neg z, if_neg z]; exact h3 y (by omega)
  have loop1 : ∀ d i (T : Nat), i + d = k → T ∣ 2520 → 0 < T → (∀ j, j < i → den (prI F A j) (qtI A j) ∣ T) → wp_Cc_makeWhole_7 (nI k) be tu ab post (d + 1) (nI n) (nI i) (lI T) wh := by
    intro d
    induction d with
    | zero =>
      intro i T hi hT hT0 hdv
      rw [wp_Cc_makeWhole_7]
      have : i = k := by omega
      subst this
      exact br_t (nI_le (Nat.le_refl _) (by omega)) ⟨n + 1, loop2 T hT hT0 hdv n 0 (fun _ => 0) wh (by omega) (fun i hi y hy => by omega) (fun y hy => by omega) (fun y hy => by omega)⟩
    | succ d ih =>
      intro i T hi hT hT0 hdv
      rw [wp_Cc_makeWhole_7]
      have hTle : T ≤ 2520 := Nat.le_of_dvd (by decide) hT
      obtain ⟨d1, d2⟩ := dp i (by omega)
      refine br_f (nI_ge (by omega) (by omega)) ⟨vp_in_nI (by omega) (by omega), vp_in_nI (by omega) (by omega), ?_⟩
      rw [nI_clamp (n := i) (by omega), hA.be i (by omega), nI_1]
      refine commonDivisor_ok (by omega) (by omega) ?_
      rw [Int.natAbs_natCast]
      have hdv' : ∀ T', T ∣ T' → den (prI F A i) (qtI A i) ∣ T' → ∀ j, j < i + 1 → den (prI F A j) (qtI A j) ∣ T' := by
        intro T' t1 t2 j hj
        by_cases z : j = i
        · subst z; exact t2
        · exact Nat.dvd_trans (hdv j (by omega)) t1
      generalize den (prI F A i) (qtI A i) = b at *
      have hg : 0 < Nat.gcd T b := Nat.gcd_pos_of_pos_right _ d1
      have hg2 : Nat.gcd T b ≤ b := Nat.gcd_le_right _ d1
      rw [show max 1 (Nat.gcd T b) = Nat.gcd T b by omega, lI_div ⟨by omega, by omega⟩ ⟨by omega, by omega⟩, tdiv_nat, lI_mul, ← Int.natCast_mul, lcm_step]
      refine ⟨lI_nz (by omega) hg, ih (i + 1) _ (by omega) (Nat.lcm_dvd hT (dvd_2520 d1 d2)) (Nat.lcm_pos hT0 d1) (hdv' _ (Nat.dvd_lcm_left T b) (Nat.dvd_lcm_right T b))⟩
  unfold wp_Cc_makeWhole_0
  exact ⟨k + 1, loop1 k 0 1 (by omega) (by decide) (by decide) (fun j hj => by omega)⟩
/-- the first x elements, sorted -/
def SortedTo (x : Nat) (w : Nat → Int) (o : Nat → Nat) : Prop := Sorted x w o
theorem sortByPoint_ok {n : Nat} (hn : n ≤ 10) {w : Nat → Int} {wh : Nat → Int64} (hwb : ∀ x, x < n → (w x).natAbs ≤ 15120000000) (hw : ∀ x, x < n → wh x = lI (w x)) {post : (Nat → Int32) → Prop} {od : Nat → Int32} (h : ∀ o od, Sorted n w o → (∀ j, j < n → od j = nI (o j)) → post od) : wp_Cc_sortByPoint_0 wh post (nI n) od := by
  have inner : ∀ x, x < n → ∀ o, Sorted x w o → ∀ (K : Int32 → Int32 → (Nat → Int32) → Prop), (∀ o' od, Sorted (x + 1) w o' → (∀ j, j < x + 1 → od j = nI (o' j)) → K (nI n) (nI (x + 1)) od) → ∀ at' od, at' ≤ x → (∀ j, j < at' → od j = nI (o j)) → (∀ j, at' ≤ j → j < x → od (j + 1) = nI (o j) ∧ w x < w (o j)) → wp_Cc_sortByPoint_9 wh post K (at' + 1) (nI n) (nI x) (nI at') od := by
    intro x hx o ho K hK at'
    have put : ∀ at' od, at' ≤ x → (∀ j, j < at' → od j = nI (o j)) → (∀ j, at' ≤ j → j < x → od (j + 1) = nI (o j) ∧ w x < w (o j)) → (∀ j, j < at' → w (o j) ≤ w x) → wp_Cc_sortByPoint_56 wh post K (nI n) (nI x) (nI at') od := by
      intro at' od hat h1 h2 h3
      unfold wp_Cc_sortByPoint_56
      rw [nI_1, nI_clamp (by omega)]
      refine ⟨vp_in_nI (by omega) (by omega), hK (fun j => if j < at' then o j else if j = at' then x else o (j - 1)) _ ⟨fun j hj => ?_, fun j l hjl hl => ?_, fun y hy => ?_⟩ (fun j hj => ?_)⟩
      · dsimp only
        split
        · have := ho.1 j (by omega); omega
        · split
          · omega
          · have := ho.1 (j - 1) (by omega); omega
      · dsimp only
        by_cases c1 : l < at'
        · rw [if_pos c1, if_pos (by omega)]
          exact ho.2.1 j l hjl (by omega)
        · rw [if_neg c1]
          by_cases c2 : l = at'
          · rw [if_pos c2, if_pos (by omega)]
            have := ho.1 j (by omega)
            exact ⟨by omega, h3 j (by omega)⟩
          · rw [if_neg c2]
            have a1 := h2 (l - 1) (by omega) (by omega)
            by_cases c3 : j < at'
            · rw [if_pos c3]
              exact ho.2.1 j (l - 1) (by omega) (by omega)
            · rw [if_neg c3]
              by_cases c4 : j = at'
              · rw [if_pos c4]
                have := ho.1 (l - 1) (by omega)
                exact ⟨by omega, by omega⟩
              · rw [if_neg c4]
                exact ho.2.1 (j - 1) (l - 1) (by omega) (by omega)
      · by_cases c : y = x
        · exact ⟨at', by omega, by dsimp only; rw [if_neg (by omega), if_pos rfl, c]⟩
        · obtain ⟨j, hj, e⟩ := ho.2.2 y (by omega)
          by_cases c1 : j < at'
          · exact ⟨j, by omega, by dsimp only; rw [if_pos c1, e]⟩
          · exact ⟨j + 1, by omega, by dsimp only; rw [if_neg (by omega), if_neg (by omega), Nat.add_sub_cancel, e]⟩
      · by_cases c : j = at'
        · subst c
          rw [pk_us, if_neg (by omega), if_pos rfl]
        · rw [pk_un c]
          by_cases c1 : j < at'
          · rw [if_pos c1]; exact h1 j c1
          · rw [if_neg c1, if_neg c]
            have := (h2 (j - 1) (by omega) (by omega)).1
            rwa [show j - 1 + 1 = j by omega] at this
    induction at' with
    | zero =>
      intro od hat h1 h2
      rw [wp_Cc_sortByPoint_9]
      exact br_t (by decide) (put 0 od hat h1 h2 (fun j hj => by omega))
    | succ a ih =>
      intro od hat h1 h2
      rw [wp_Cc_sortByPoint_9]
      have e1 : nI (a + 1) - 1 = nI a := by rw [show (1 : Int32) = nI 1 from rfl, pk_sub (by omega)]; rfl
      have e2 : nI (a + 1) + -1 = nI a := by rw [nI_iI, nI_iI, show (-1 : Int32) = iI (-1) from rfl, iI_add]; congr 1; omega
      have hne : ¬ nI (a + 1) ≤ 0 := fun z => by
        have := (nI_leI (a := a + 1) (b := 0) (by omega) (by omega)).mp z
        omega
      have ha := h1 a (by omega)
      have hoa := ho.1 a (by omega)
      rw [e1, e2, nI_clamp (n := a) (by omega), ha, nI_clamp (n := o a) (by omega), nI_clamp (n := x) (by omega), nI_clamp (n := a + 1) (by omega), hw x hx, hw (o a) (by omega)]
      have b1 := hwb x hx
      have b2 := hwb (o a) (by omega)
      rw [cmp_le ⟨by omega, by omega⟩ ⟨by omega, by omega⟩]
      refine br_f hne ⟨vp_in_nI (by omega) (by omega), vp_in_nI (by omega) (by omega), vp_in_nI (by omega) (by omega), fun c => ?_, fun c => ⟨vp_in_nI (by omega) (by omega), vp_in_nI (by omega) (by omega), ?_⟩⟩
      · refine put (a + 1) od hat h1 h2 (fun j hj => ?_)
        by_cases z : j = a
        · subst z; exact c
        · have := (ho.2.1 j a (by omega) (by omega)).2
          omega
      · refine ih _ (by omega) (fun j hj => ?_) (fun j hj1 hj2 => ?_)
        · rw [pk_un (by omega)]; exact h1 j (by omega)
        · by_cases z : j = a
          · subst z
            rw [pk_us]
            exact ⟨rfl, by omega⟩
          · rw [pk_un (by omega)]
            exact h2 j (by omega) hj2
  have outer : ∀ d x o od, x + d = n → Sorted x w o → (∀ j, j < x → od j = nI (o j)) → wp_Cc_sortByPoint_2 wh post (d + 1) (nI n) (nI x) od := by
    intro d
    induction d with
    | zero =>
      intro x o od hx ho hod
      rw [wp_Cc_sortByPoint_2]
      have : x = n := by omega
      subst this
      exact br_t (nI_le (Nat.le_refl _) (by omega)) (h o od ho hod)
    | succ d ih =>
      intro x o od hx ho hod
      rw [wp_Cc_sortByPoint_2]
      refine br_f (nI_ge (by omega) (by omega)) ⟨x + 1, ?_⟩
      exact inner x (by omega) o ho _ (fun o' od' ho' hod' => ih (x + 1) o' od' (by omega) ho' hod') x od (Nat.le_refl _) hod (fun j h1 h2 => by omega)
  unfold wp_Cc_sortByPoint_0
  exact ⟨n + 1, outer n 0 (fun _ => 0) od (by omega) ⟨fun j hj => by omega, fun j l _ hl => by omega, fun y hy => by omega⟩ (fun j hj => by omega)⟩
theorem makeExtremes_ok {n : Nat} (hn : n ≤ 10) {F : Nat → Int} {f : Nat → Int64} (hf : ∀ j, j < 2 ^ n → f j = lI (F j)) {w : Nat → Int} {wh : Nat → Int64} (hwb : ∀ x, x < n → (w x).natAbs ≤ 15120000000) (hw : ∀ x, x < n → wh x = lI (w x)) {post : (Nat → Int32) → (Nat → Int64) → Prop} {od : Nat → Int32} {ex : Nat → Int64}
    (h : ∀ o od (ext : Nat → Int) ex, Sorted n w o → (∀ j, j < n → ext (o j) = F (bef o (j + 1)) - F (bef o j)) → (∀ x, x < n → ex x = lI (ext x)) → post od ex) : wp_Cc_makeExtremes_0 (nI n) wh f post od ex := by
  unfold wp_Cc_makeExtremes_0
  have h1024 := two_le hn
  refine sortByPoint_ok hn hwb hw (fun o od ho hod => ⟨n + 1, ?_⟩)
  have loop : ∀ d i (ext : Nat → Int) ex, i + d = n → (∀ j, j < i → ext (o j) = F (bef o (j + 1)) - F (bef o j)) → (∀ j, j < i → ex (o j) = lI (ext (o j))) → wp_Cc_makeExtremes_12 (nI n) wh f post (d + 1) (nI (bef o i)) (nI i) od ex := by
    intro d
    induction d with
    | zero =>
      intro i ext ex hi h1 h2
      rw [wp_Cc_makeExtremes_12]
      have : i = n := by omega
      subst this
      refine br_t (nI_le (Nat.le_refl _) (by omega)) (h o od ext ex ho h1 (fun x hx => ?_))
      obtain ⟨j, hj, e⟩ := ho.2.2 x hx
      rw [← e]
      exact h2 j hj
    | succ d ih =>
      intro i ext ex hi h1 h2
      rw [wp_Cc_makeExtremes_12]
      have hoi := ho.1 i (by omega)
      have hbl : bef o i < 2 ^ n := bef_lt i (fun j hj => ho.1 j (by omega))
      have hbl2 : bef o (i + 1) < 2 ^ n := bef_lt (i + 1) (fun j hj => ho.1 j (by omega))
      refine br_f (nI_ge (by omega) (by omega)) ⟨vp_in_nI (by omega) (by omega), ?_⟩
      rw [nI_clamp (n := i) (by omega), hod i (by omega)]
      refine gain_ok (by omega) (by omega) ⟨vp_in_nI (by omega) (by omega), ?_⟩
      rw [show bef o i ||| 2 ^ o i = bef o (i + 1) from rfl, hf _ hbl, hf _ hbl2, lI_sub, nI_sh1 (o i) (by omega), nI_or, nI_1, nI_clamp (n := o i) (by omega)]
      refine ih (i + 1) (fun y => if y = o i then F (bef o (i + 1)) - F (bef o i) else ext y) _ (by omega) (fun j hj => ?_) (fun j hj => ?_)
      · skip
        by_cases z : j = i
        · subst z; rw [if_pos rfl]
        · rw [if_neg (ho.2.1 j i (by omega) (by omega)).1]
          exact h1 j (by omega)
      · skip
        unfold vp_updL
        by_cases z : j = i
        · subst z; rw [if_pos rfl, if_pos rfl]
        · have := (ho.2.1 j i (by omega) (by omega)).1
          rw [if_neg this, if_neg this]
          exact h2 j (by omega)
  exact loop n 0 (fun _ => 0) ex (by omega) (fun j hj => by omega) (fun j hj => by omega)
theorem add_bit {j x : Nat} : (j &&& (2 ^ x ||| 0) = 2 ^ x) ↔ j.testBit x = true := by
  rw [Nat.or_zero]
  constructor
  · intro h
    have := congrArg (fun z => Nat.testBit z x) h
    simpa [Nat.testBit_two_pow_self] using this
  · intro h
    apply Nat.eq_of_testBit_eq
    intro i
    rw [Nat.testBit_and, Nat.testBit_two_pow]
    by_cases c : x = i
    · subst c; rw [h]; rfl
    · simp [c]
theorem low0_ge {v : Nat → Int} {m : Int} {M J : Nat} : ∀ k, lowF (betw 0 0) v k = some (m, M, J) → (∀ j, j < k → 0 ≤ v j) → 0 ≤ m := by
  intro k
  induction k generalizing m M J with
  | zero => intro h; cases h
  | succ k ih =>
    intro h hv
    rw [lowF] at h
    split at h
    · cases e : lowF (betw 0 0) v k with
      | none =>
        rw [e] at h
        injection h with h
        injection h with h1 h2
        rw [← h1]; exact hv k (by omega)
      | some r =>
        obtain ⟨m', M', J'⟩ := r
        rw [e] at h
        dsimp only at h
        have i0 := ih e (fun j hj => hv j (by omega))
        split at h
        · injection h with h
          injection h with h1 h2
          rw [← h1]; exact hv k (by omega)
        · split at h
          · injection h with h
            injection h with h1 h2
            omega
          · injection h with h
            injection h with h1 h2
            omega
    · exact ih h (fun j hj => hv j (by omega))
theorem liesBelow_ok {n : Nat} (hn : n ≤ 10) {F w : Nat → Int} {T : Nat} {f wh : Nat → Int64} (hf : ∀ j, j < 2 ^ n → f j = lI (F j)) (hb : ∀ j, j < 2 ^ n → (F j).natAbs ≤ 3000000) (hT : T ≤ 2520) (hwb : ∀ x, x < n → (w x).natAbs ≤ 15120000000) (hw : ∀ x, x < n → wh x = lI (w x)) (hlow : ∀ S, S < 2 ^ n → sumV w S n ≤ T * F S) (hful : sumV w (2 ^ n - 1) n = T * F (2 ^ n - 1)) {post : Int32 → Int32 → Int32 → Int64 → Int32 → Int32 → (Nat → Int64) → Prop} {a b : Int32} {c : Int64} {d e : Int32} {g : Nat → Int64}
    (h : ∀ a b c d e g, post 1 a b c d e g) : wp_Cc_liesBelow_0 (lI T) (nI n) (nI (2 ^ n)) f wh post a b c d e g := by
  have h1024 := two_le hn
  have hpos := Nat.two_pow_pos n
  unfold wp_Cc_liesBelow_0
  refine copy_ok h1024 ⟨n + 1, ?_⟩
  have hbl : ∀ S, S < 2 ^ n → bl (T * F S - sumV w S n) := by
    intro S hS
    have h1 := hb S hS
    have h2 := sumV_bd (w := fun x => if x < n then w x else 0) (s := S) (B := 15120000000) (fun x => by
      by_cases z : x < n
      · rw [if_pos z]; have := hwb x z; omega
      · rw [if_neg z]; omega) n
    rw [sumV_ext (v := w) (fun x hx _ => if_pos hx)] at h2
    have h3 : ((T : Int) * F S).natAbs ≤ 2520 * 3000000 := by
      rw [Int.natAbs_mul, Int.natAbs_natCast]
      exact Nat.mul_le_mul hT h1
    have h4 : n * 15120000000 ≤ 10 * 15120000000 := Nat.mul_le_mul_right _ hn
    exact ⟨by omega, by omega⟩
  have loop : ∀ k x g, x + k = n → (∀ S, S < 2 ^ n → g S = lI (T * F S - sumV w S x)) → wp_Cc_liesBelow_14 (lI T) (nI n) (nI (2 ^ n)) f wh post (k + 1) (nI x) (nI n) (nI (2 ^ n)) c d e g := by
    intro k
    induction k with
    | zero =>
      intro x g hx hg
      rw [wp_Cc_liesBelow_14]
      have : x = n := by omega
      subst this
      refine br_t (nI_le (Nat.le_refl _) (by omega)) ?_
      refine findLowest_ok (p := 0) (q := 0) h1024 hpos (by omega) (v := fun S => T * F S - sumV w S x) hg hbl (fun m M J hm hM hJ => ?_)
      have hm0 : 0 ≤ m := low0_ge _ hm (fun j hj => by have := hlow j hj; omega)
      have hmb : bl m := by
        apply Classical.byContradiction
        intro hc
        -- the lowest is one of the values
        have : ∀ k, k ≤ 2 ^ x → ∀ m M J, lowF (betw 0 0) (fun S => T * F S - sumV w S x) k = some (m, M, J) → bl m := by
          intro k
          induction k with
          | zero => intro _ m M J h; cases h
          | succ k ih =>
            intro hk m M J h
            rw [lowF] at h
            split at h
            · cases e : lowF (betw 0 0) (fun S => T * F S - sumV w S x) k with
              | none =>
                rw [e] at h
                injection h with h
                injection h with h1 h2
                rw [← h1]; exact hbl k (by omega)
              | some r =>
                obtain ⟨m', M', J'⟩ := r
                rw [e] at h
                dsimp only at h
                have i0 := ih (by omega) m' M' J' e
                split at h
                · injection h with h
                  injection h with h1 h2
                  rw [← h1]; exact hbl k (by omega)
                · split at h
                  · injection h with h
                    injection h with h1 h2
                    rw [← h1]; exact i0
                  · injection h with h
                    injection h with h1 h2
                    rw [← h1]; exact i0
            · exact ih (by omega) m M J h
        exact hc (this _ (Nat.le_refl _) m M J hm)
      have e0 : (0 : Int64) = lI 0 := rfl
      rw [e0, cmp_lt hmb ⟨by omega, by omega⟩]
      refine br_f (by omega) ?_
      have e1 : nI (2 ^ x) - 1 = nI (2 ^ x - 1) := by rw [show (1 : Int32) = nI 1 from rfl, pk_sub (by omega)]
      rw [e1, nI_clamp (by omega), hg (2 ^ x - 1) (by omega), hful, Int.sub_self]
      refine ⟨vp_in_nI (by omega) (by omega), fun z => absurd (by decide) z, fun _ => ?_⟩
      exact ⟨nb1, h _ _ _ _ _ _⟩
    | succ k ih =>
      intro x g hx hg
      rw [wp_Cc_liesBelow_14]
      refine br_f (nI_ge (by omega) (by omega)) ⟨vp_in_nI (by omega) (by omega), ?_⟩
      have hx2 : 2 ^ x < 1024 := Nat.lt_of_lt_of_le (Nat.pow_lt_pow_right (by decide) (show x < n by omega)) h1024
      rw [nI_sh1 x (by omega), nI_clamp (n := x) (by omega), hw x (by omega), lI_neg, nI_1]
      refine add_ok (q := 0) h1024 hx2 (by omega) (ih (x + 1) _ (by omega) (fun S hS => ?_))
      rw [if_pos hS, hg S hS, sumV]
      by_cases z : S.testBit x = true
      · rw [if_pos (add_bit.mpr z), if_pos z, lI_add]
        congr 1; omega
      · rw [if_neg (fun y => z (add_bit.mp y)), if_neg z]
        congr 1; omega
  refine loop n 0 _ (by omega) (fun S hS => ?_)
  rw [if_pos hS, hf S hS, lI_mul, sumV, Int.sub_zero]
theorem comeIn_ok {F : Nat → Int} {n k i : Nat} (hn : n ≤ 10) (hk : k ≤ n) {A : Nat → Nat} (hC : ChainOk F n k A) {se : Nat → Int32} (hse : ∀ i, i < k → se i = nI (A (i + 1))) (hi : i < k) {post : Int32 → Prop} (h : post (nI (dif (A (i + 1)) (A i)))) : wp_Ch_comeIn_0 se post (nI i) := by
  have h1024 := two_le hn
  have l1 := hC.lt (i := i + 1) (by omega)
  unfold wp_Ch_comeIn_0 wp_Ch_comeIn_30
  cases i with
  | zero =>
    refine ⟨fun z => absurd rfl z, fun _ => ⟨vp_in_nI (n := 0) (by omega) (by omega), ?_⟩⟩
    have e : dif (A (0 + 1)) (A 0) = A (0 + 1) := by
      apply Nat.eq_of_testBit_eq
      intro x
      rw [dif_bit (by omega), hC.zero]
      simp
    rw [e] at h
    rw [show ((0 : Int32).toNatClampNeg) = 0 from rfl, hse 0 (by omega)]
    exact h
  | succ i =>
    have e1 : nI (i + 1) - 1 = nI i := by rw [show (1 : Int32) = nI 1 from rfl, pk_sub (by omega)]; rfl
    have hne : ¬ nI (i + 1) = 0 := fun z => by
      have := (nI_eq (a := i + 1) (b := 0) (by omega) (by omega)).mp z
      omega
    refine ⟨fun _ => ?_, fun z => absurd z hne⟩
    rw [e1, nI_clamp (n := i + 1) (by omega), nI_clamp (n := i) (by omega), hse (i + 1) hi, hse i (by omega), nI_dif (by omega)]
    exact ⟨vp_in_nI (by omega) (by omega), vp_in_nI (by omega) (by omega), h⟩
theorem hasSameSums_ok {F : Nat → Int} {n k T : Nat} (hn : n ≤ 10) (hk : k ≤ n) {A : Nat → Nat} (hC : ChainOk F n k A) {se : Nat → Int32} (hse : ∀ i, i < k → se i = nI (A (i + 1))) {ext w : Nat → Int} {ex wh : Nat → Int64} (hex : ∀ x, x < n → ex x = lI (ext x)) (hw : ∀ x, x < n → wh x = lI (w x)) (hsum : ∀ i, i < k → sumV (fun x => T * ext x - w x) (dif (A (i + 1)) (A i)) n = 0) {post : Int32 → Prop} (h : post 1) : wp_Cc_hasSameSums_0 (nI k) (lI T) se ex wh post (nI n) := by
  have h1024 := two_le hn
  have inner : ∀ i, i < k → ∀ (K : Int32 → Int32 → Prop), K (nI n) (nI (i + 1)) → ∀ d x, x + d = n → wp_Cc_hasSameSums_23 (nI k) (lI T) se ex wh post K (d + 1) (nI n) (nI i) (nI (dif (A (i + 1)) (A i))) (lI (sumV (fun x => T * ext x - w x) (dif (A (i + 1)) (A i)) x)) (nI x) := by
    intro i hi K hK d
    have l1 := hC.lt (i := i + 1) (by omega)
    have hs := hsum i hi
    have hl : dif (A (i + 1)) (A i) < 1024 := dif_lt (by omega)
    generalize dif (A (i + 1)) (A i) = D at *
    induction d with
    | zero =>
      intro x hx
      rw [wp_Cc_hasSameSums_23]
      have : x = n := by omega
      subst this
      rw [hs, nI_1]
      exact br_t (nI_le (Nat.le_refl _) (by omega)) (br_t (by decide) hK)
    | succ d ih =>
      intro x hx
      rw [wp_Cc_hasSameSums_23]
      have ih := ih (x + 1) (by omega)
      rw [sumV] at ih
      rw [nI_bit hl (by omega), nI_clamp (n := x) (by omega), hex x (by omega), hw x (by omega), lI_mul, lI_sub, lI_add]
      refine br_f (nI_ge (by omega) (by omega)) ⟨fun c => ?_, fun c => ⟨vp_in_nI (by omega) (by omega), vp_in_nI (by omega) (by omega), ?_⟩⟩
      · unfold wp_Cc_hasSameSums_64
        rw [nI_1]
        rw [c] at ih
        simpa using ih
      · unfold wp_Cc_hasSameSums_64
        rw [nI_1]
        rw [show D.testBit x = true by cases z : D.testBit x; exact absurd z c; rfl] at ih
        simpa using ih
  have outer : ∀ d i, i + d = k → wp_Cc_hasSameSums_2 (nI k) (lI T) se ex wh post (d + 1) (nI n) (nI i) := by
    intro d
    induction d with
    | zero =>
      intro i hi
      rw [wp_Cc_hasSameSums_2]
      have : i = k := by omega
      subst this
      exact br_t (nI_le (Nat.le_refl _) (by omega)) h
    | succ d ih =>
      intro i hi
      rw [wp_Cc_hasSameSums_2]
      refine br_f (nI_ge (by omega) (by omega)) (comeIn_ok hn hk hC hse (by omega) ⟨n + 1, ?_⟩)
      exact inner i (by omega) _ (ih (i + 1) (by omega)) n 0 (by omega)
  unfold wp_Cc_hasSameSums_0
  exact ⟨k + 1, outer k 0 (by omega)⟩
theorem holds_ok {n k : Nat} (hn : n ≤ 10) (hk : k ≤ n) {F : Nat → Int} {A : Nat → Nat} {f : Nat → Int64} (hf : ∀ j, j < 2 ^ n → f j = lI (F j)) (hb : ∀ j, j < 2 ^ n → (F j).natAbs ≤ 3000000) (hF0 : F 0 = 0) (hS : Subm F (2 ^ n)) (hC : ChainOk F n k A) {ab be : Nat → Int64} {se tu : Nat → Int32} (hA : ChainAt F k A ab be se tu)
    {post : Int32 → Int64 → Int32 → Int32 → Int64 → Int32 → Int32 → (Nat → Int64) → (Nat → Int32) → (Nat → Int64) → (Nat → Int64) → Prop} {tm : Int64} {a b : Int32} {c : Int64} {d e : Int32} {wh : Nat → Int64} {od : Nat → Int32} {ex g : Nat → Int64}
    (h : ∀ tm a b c d e wh od ex g, post 1 tm a b c d e wh od ex g) : wp_Cc_holds_0 (nI n) (nI (2 ^ n)) (nI k) be tu ab f se post tm a b c d e wh od ex g := by
  unfold wp_Cc_holds_0
  refine makeWhole_ok hn hk hb hC hA (fun T w wh hT0 hT hW hwb hw => ?_)
  refine makeExtremes_ok hn hf hwb hw (fun o od ext ex ho he hex => ?_)
  have hful := sum_full hn hF0 hC hW k (Nat.le_refl _)
  rw [hC.full] at hful
  refine liesBelow_ok hn hf hb hT hwb hw (fun S hSn => below_all hn hF0 hS hC hW hSn) hful (fun a b c d e g => ?_)
  refine br_f (by decide) (hasSameSums_ok hn hk hC hA.se hex hw (fun i hi => same_sums hn hF0 hT0 hC hW ho he hi) ?_)
  refine br_f (by decide) ?_
  exact ⟨nb1, h _ _ _ _ _ _ _ _ _ _⟩
