/-! The calls, class and reference side by side. Own work. -/
def ixN (x : Int32) (b : Nat) : Prop := ∃ a, a < b ∧ x = nI a
theorem ix3 (x : Int32) {b : Nat} (hb : b < 2147483648) : (x < 0 ∧ ¬ ixN x b) ∨ (¬ x < 0 ∧ ¬ x < nI b ∧ nI b ≤ x ∧ ¬ ixN x b) ∨ ixN x b := by
  rcases pk_ix x (n := b) (by omega) with h | h | ⟨a, ha, e⟩
  · refine Or.inl ⟨h, fun ⟨a, ha, e⟩ => ?_⟩
    rw [e] at h
    exact nI_pos (by omega) h
  · refine Or.inr (Or.inl ⟨fun z => ?_, fun z => ?_, h, fun ⟨a, ha, e⟩ => ?_⟩)
    · rw [Int32.lt_iff_toInt_lt, Int32.toInt_zero] at z
      rw [Int32.le_iff_toInt_le, nI_toInt (by omega)] at h
      omega
    · rw [Int32.lt_iff_toInt_lt] at z
      rw [Int32.le_iff_toInt_le] at h
      omega
    · rw [e] at h
      exact nI_ge ha (by omega) h
  · exact Or.inr (Or.inr ⟨a, ha, e⟩)
theorem le_pred {x : Int32} {b : Nat} (hb : b + 1 < 2147483648) (h : nI (b + 1) ≤ x) : ¬ x ≤ nI b := by
  intro z
  rw [Int32.le_iff_toInt_le, nI_toInt (by omega)] at h z
  omega
theorem lt_pred {x : Int32} {b : Nat} (hb : b + 1 < 2147483648) (h : nI (b + 1) ≤ x) : nI b < x := by
  rw [Int32.lt_iff_toInt_lt, nI_toInt (by omega)]
  rw [Int32.le_iff_toInt_le, nI_toInt (by omega)] at h
  omega
theorem nbel_ok {x : Int32} {b : Nat} (hb : b < 2147483648) {post : Prop} {px : Nat → Prop} (h2 : ¬ ixN x b → px 2) (h0 : ixN x b → post) : wp_Ls_needBelow_0 post px x (nI b) := by
  unfold wp_Ls_needBelow_0 wp_Ls_needBelow_9
  rcases ix3 x hb with ⟨a1, a2⟩ | ⟨a1, a2, a3, a4⟩ | hi
  · exact br_t a1 (h2 a2)
  · exact br_f a1 (br_f a2 (h2 a4))
  · obtain ⟨a, ha, rfl⟩ := id hi
    exact br_f (nI_pos (by omega)) (br_t ((nI_ltI (by omega) (by omega)).mpr ha) (h0 hi))
theorem nset_ok {x : Int32} {n : Nat} (hn : n ≤ 10) {post : Prop} {px : Nat → Prop} (h2 : ¬ ixN x (2 ^ n) → px 2) (h0 : ixN x (2 ^ n) → post) : wp_Ls_needSet_0 (nI n) post px x := by
  have h1024 := two_le hn
  unfold wp_Ls_needSet_0 wp_Ls_needSet_14
  rw [nI_sh1 n (by omega)]
  rcases ix3 x (b := 2 ^ n) (by omega) with ⟨a1, a2⟩ | ⟨a1, a2, a3, a4⟩ | hi
  · exact br_t a1 (h2 a2)
  · exact br_f a1 (br_f a2 (h2 a4))
  · obtain ⟨a, ha, rfl⟩ := id hi
    exact br_f (nI_pos (by omega)) (br_t ((nI_ltI (by omega) (by omega)).mpr ha) (h0 hi))
theorem nel_ok {x : Int32} {n : Nat} (hn : n ≤ 10) {post : Prop} {px : Nat → Prop} (h3 : ¬ ixN x n → px 3) (h0 : ixN x n → post) : wp_Ls_needElement_0 (nI n) post px x := by
  unfold wp_Ls_needElement_0 wp_Ls_needElement_12
  rcases ix3 x (b := n) (by omega) with ⟨a1, a2⟩ | ⟨a1, a2, a3, a4⟩ | hi
  · exact br_t a1 (h3 a2)
  · exact br_f a1 (br_f a2 (h3 a4))
  · obtain ⟨a, ha, rfl⟩ := id hi
    exact br_f (nI_pos (by omega)) (br_t ((nI_ltI (by omega) (by omega)).mpr ha) (h0 hi))
theorem nz_nI {n : Nat} (h1 : 1 ≤ n) (hn : n ≤ 10) : ¬ nI n = 0 := fun z => by
  have := (nI_eq (a := n) (b := 0) (by omega) (by omega)).mp z
  omega
theorem nfun1 {n : Nat} (h1 : 1 ≤ n) (hn : n ≤ 10) {post : Prop} {px : Nat → Prop} (h : post) : wp_Ls_needFunction_0 (nI n) post px := bn1 (nz_nI h1 hn) h
theorem nfun0 {post : Prop} {px : Nat → Prop} (h : px 1) : wp_Ls_needFunction_0 0 post px := bn0 rfl h
theorem in01 : vp_in (0 : Int32) 1 := vp_in_nI (n := 0) (by omega) (by omega)
theorem cmp_self (a : Int64) : lg_cmp a a = 0 := by
  unfold lg_cmp
  have : ¬ a > a := fun h => by
    have h : a < a := h
    rw [Int64.lt_iff_toInt_lt] at h
    omega
  rw [if_neg this, if_pos rfl]
theorem upd0 (o : Nat → Int64) (v : Int64) : vp_updL o (0 : Int32).toNatClampNeg v (0 : Int32).toNatClampNeg = v := by
  unfold vp_updL
  rw [if_pos rfl]
/-- the end of a call that throws, and of one that does not -/
theorem fin1 {r t : Int32} {A B : Prop} (hr : ¬ r = 0) (ht : t = r) (h : A) : ((t = r) → ((¬ r = 0 → A) ∧ (r = 0 → B))) ∧ (¬ (t = r) → False) := ⟨fun _ => ⟨fun _ => h, fun z => absurd z hr⟩, fun z => z ht⟩
theorem fin0 {o : Nat → Int64} {b : Int32} {A B : Prop} (hb : o (0 : Int32).toNatClampNeg = b.toInt64) (h : B) : (((0 : Int32) = 0) → ((¬ (0 : Int32) = 0 → A) ∧ ((0 : Int32) = 0 → (vp_in (0 : Int32) 1 ∧ ((lg_cmp (o (0 : Int32).toNatClampNeg) b.toInt64 = 0 → B) ∧ (¬ (lg_cmp (o (0 : Int32).toNatClampNeg) b.toInt64 = 0) → False)))))) ∧ (¬ ((0 : Int32) = 0) → False) := ⟨fun _ => ⟨fun z => absurd rfl z, fun _ => ⟨in01, fun _ => h, fun z => z (by rw [hb]; exact cmp_self _)⟩⟩, fun z => z rfl⟩
/-! count -/
theorem ccount0 {cn : Nat → Int32} {post : Int32 → (Nat → Int64) → Prop} {x : Int32} {o : Nat → Int64} (h : post 1 o) : wp_La_count_0 0 cn post x o := by
  unfold wp_La_count_0 wp_Ls_count_0
  exact nfun0 (Or.inl ⟨rfl, h⟩)
theorem ccount1 {n : Nat} (h1 : 1 ≤ n) (hn : n ≤ 10) {cn : Nat → Int32} {post : Int32 → (Nat → Int64) → Prop} {x : Int32} {o : Nat → Int64} (h2 : ¬ ixN x 4 → post 2 o) (h0 : ixN x 4 → post 0 (vp_updL o (0 : Int32).toNatClampNeg (cn x.toNatClampNeg).toInt64)) : wp_La_count_0 (nI n) cn post x o := by
  unfold wp_La_count_0 wp_Ls_count_0
  refine nfun1 h1 hn (nbel_ok (b := 4) (by omega) (fun z => Or.inr ⟨rfl, h2 z⟩) (fun z => ?_))
  obtain ⟨a, ha, rfl⟩ := id z
  exact ⟨vp_in_nI (by omega) (by omega), in01, h0 z⟩
theorem mcount0 {nn : Int32} {mn : Nat → Int32} {post : Int32 → Int32 → Prop} {x th : Int32} (h : post 0 1) : wp_Mo_count_0 0 nn mn post x th := bn0 rfl (br_f (by decide) h)
theorem mcount1 {n : Nat} {cn mn : Nat → Int32} (hc0 : cn 0 = nI n) (hc : ∀ c, c < 3 → cn (c + 1) = mn c) {post : Int32 → Int32 → Prop} {x th : Int32} (h2 : ¬ ixN x 4 → post 0 2) (h0 : ixN x 4 → post (cn x.toNatClampNeg) 0) : wp_Mo_count_0 1 (nI n) mn post x th := by
  unfold wp_Mo_count_0 wp_Mo_count_21
  refine bn1 (by decide) ?_
  have h2' : ¬ ixN x 4 → wp_Mo_count_26 1 (nI n) mn post x 2 th := fun z => br_f (by decide) (h2 z)
  rcases ix3 x (b := 4) (by omega) with ⟨a1, a2⟩ | ⟨a1, a2, a3, a4⟩ | hi
  · exact br_t a1 (h2' a2)
  · exact br_f a1 (br_f (le_pred (b := 3) (by omega) a3) (h2' a4))
  · obtain ⟨a, ha, rfl⟩ := id hi
    refine br_f (nI_pos (by omega)) (br_t ((nI_leI (a := a) (b := 3) (by omega) (by omega)).mpr (by omega)) (br_t (by decide) ?_))
    have h0 := h0 hi
    rw [nI_clamp (by omega)] at h0
    unfold wp_Mo_count_59
    by_cases z : a = 0
    · subst z
      rw [hc0] at h0
      exact bn0 rfl h0
    · have e1 : nI a - 1 = nI (a - 1) := by rw [show (1 : Int32) = nI 1 from rfl, pk_sub (by omega)]
      have hne : ¬ nI a = 0 := fun q => z ((nI_eq (a := a) (b := 0) (by omega) (by omega)).mp q)
      rw [e1, nI_clamp (by omega)]
      have := hc (a - 1) (by omega)
      rw [show a - 1 + 1 = a by omega] at this
      rw [this] at h0
      exact bn1 hne ⟨vp_in_nI (by omega) (by omega), h0⟩
/-! value -/
theorem cvalue0 {fv : Nat → Int64} {post : Int32 → (Nat → Int64) → Prop} {x : Int32} {o : Nat → Int64} (h : post 1 o) : wp_La_value_0 0 fv post x o := by
  unfold wp_La_value_0 wp_Ls_value_0
  exact nfun0 (Or.inl ⟨rfl, h⟩)
theorem cvalue1 {n : Nat} (h1 : 1 ≤ n) (hn : n ≤ 10) {F : Nat → Int} {fv : Nat → Int64} (hf : ∀ S, S < 2 ^ n → fv S = lI (F S)) {post : Int32 → (Nat → Int64) → Prop} {x : Int32} {o : Nat → Int64} (h2 : ¬ ixN x (2 ^ n) → post 2 o) (h0 : ixN x (2 ^ n) → post 0 (vp_updL o (0 : Int32).toNatClampNeg (iI (F x.toNatClampNeg)).toInt64)) : wp_La_value_0 (nI n) fv post x o := by
  have h1024 := two_le hn
  unfold wp_La_value_0 wp_Ls_value_0
  refine nfun1 h1 hn (nset_ok hn (fun z => Or.inr ⟨rfl, h2 z⟩) (fun z => ?_))
  obtain ⟨a, ha, rfl⟩ := id z
  have h0 := h0 z
  refine ⟨vp_in_nI (by omega) (by omega), in01, ?_⟩
  rw [nI_clamp (by omega)] at h0 ⊢
  rw [hf a ha, lI_32]
  exact h0
theorem mvalue0 {nn : Int32} {al : Nat → Int32} {post : Int32 → Int32 → Prop} {x th : Int32} (h : post 0 1) : wp_Mo_value_0 0 nn al post x th := bn0 rfl (br_f (by decide) h)
theorem iset_ok {n : Nat} (hn : n ≤ 10) {x : Int32} {post : Int32 → Prop} (h1 : ixN x (2 ^ n) → post 1) (h0 : ¬ ixN x (2 ^ n) → post 0) : wp_Mo_isSet_0 (nI n) post x := isSet_ok hn (fun s hs e => h1 ⟨s, hs, e⟩) (fun h => h0 (fun ⟨a, ha, e⟩ => h ⟨a, ha, e⟩))
theorem mvalue1 {n : Nat} (hn : n ≤ 10) {F : Nat → Int} {al : Nat → Int32} (ha : ∀ S, S < 2 ^ n → al S = iI (F S)) {post : Int32 → Int32 → Prop} {x th : Int32} (h2 : ¬ ixN x (2 ^ n) → post 0 2) (h0 : ixN x (2 ^ n) → post (iI (F x.toNatClampNeg)) 0) : wp_Mo_value_0 1 (nI n) al post x th := by
  have h1024 := two_le hn
  unfold wp_Mo_value_0
  refine bn1 (by decide) (iset_ok hn (fun z => bn1 (by decide) (br_t (by decide) ?_)) (fun z => bn0 rfl (br_f (by decide) (h2 z))))
  obtain ⟨a, ha9, rfl⟩ := id z
  have h0 := h0 z
  rw [nI_clamp (by omega)] at h0 ⊢
  refine ⟨vp_in_nI (by omega) (by omega), ?_⟩
  rw [ha a ha9]
  exact h0
/-! least -/
def pick3 (x : Int32) (m : Int) (M J : Nat) : Int32 := if x = 0 then iI m else if x = 1 then nI M else nI J
def lokL (n : Nat) (x a b : Int32) : Prop := ixN x 3 ∧ ixN a (2 ^ n) ∧ ixN b (2 ^ n) ∧ a &&& b = 0
theorem cleast0 {fs : Int32} {fv : Nat → Int64} {post : Int32 → Int64 → Int32 → Int32 → (Nat → Int64) → Prop} {x a b : Int32} {lo : Int64} {me jo : Int32} {o : Nat → Int64} (h : post 1 lo me jo o) : wp_La_least_0 0 fs fv post x a b lo me jo o := by
  unfold wp_La_least_0 wp_Ls_least_0
  exact nfun0 (Or.inl ⟨rfl, h⟩)
theorem cleast1 {n : Nat} (h1 : 1 ≤ n) (hn : n ≤ 10) {F : Nat → Int} {fv : Nat → Int64} (hf : ∀ S, S < 2 ^ n → fv S = lI (F S)) (hb : ∀ S, S < 2 ^ n → (F S).natAbs ≤ 3000000) {post : Int32 → Int64 → Int32 → Int32 → (Nat → Int64) → Prop} {x a b : Int32} {lo : Int64} {me jo : Int32} {o : Nat → Int64} (h2 : ¬ lokL n x a b → ∀ lo me jo, post 2 lo me jo o) (h0 : ∀ p q m M J, p < 2 ^ n → q < 2 ^ n → a = nI p → b = nI q → p &&& q = 0 → ixN x 3 → lowF (betw p q) F (2 ^ n) = some (m, M, J) → ∀ lo me jo, post 0 lo me jo (vp_updL o (0 : Int32).toNatClampNeg (pick3 x m M J).toInt64)) : wp_La_least_0 (nI n) (nI (2 ^ n)) fv post x a b lo me jo o := by
  have h1024 := two_le hn
  unfold wp_La_least_0 wp_Ls_least_0
  refine nfun1 h1 hn (nbel_ok (b := 3) (by omega) (fun z => Or.inr ⟨rfl, h2 (fun q => z q.1) _ _ _⟩) (fun z => nset_ok hn (fun za => Or.inr ⟨rfl, h2 (fun q => za q.2.1) _ _ _⟩) (fun za => nset_ok hn (fun zb => Or.inr ⟨rfl, h2 (fun q => zb q.2.2.1) _ _ _⟩) (fun zb => ⟨fun zc => ?_, fun zc => Or.inr ⟨rfl, h2 (fun q => zc q.2.2.2) _ _ _⟩⟩))))
  obtain ⟨p, hp, rfl⟩ := za
  obtain ⟨q, hq, rfl⟩ := zb
  have hpq : p &&& q = 0 := by
    rw [nI_and] at zc
    exact (nI_eq (a := p &&& q) (b := 0) (Nat.lt_of_lt_of_le (and_lt (n := 10) (show p < 2 ^ 10 by omega)) (by decide)) (by omega)).mp zc
  refine findLowest_ok h1024 hp (by omega) hf (fun S hS => ⟨by have := hb S hS; omega, by have := hb S hS; omega⟩) (fun m M J hm hM hJ => ?_)
  have h0 := h0 p q m M J hp hq rfl rfl hpq z hm
  unfold pick3 at h0
  refine ⟨fun x0 => ⟨fun x1 => ⟨in01, ?_⟩, fun x1 => ⟨in01, ?_⟩⟩, fun x0 => ⟨in01, ?_⟩⟩
  · rw [if_neg x0, if_neg x1] at h0; exact h0 _ _ _
  · rw [if_neg x0, if_pos x1] at h0; exact h0 _ _ _
  · rw [if_pos x0] at h0; rw [lI_32]; exact h0 _ _ _
theorem mleast0 {nn : Int32} {al ve : Nat → Int32} {post : Int32 → Int32 → Prop} {x a b th : Int32} (h : post 0 1) : wp_Mo_least_0 0 nn al ve post x a b th := bn0 rfl (br_f (by decide) h)
theorem mleast1 {n : Nat} (hn : n ≤ 10) {F w : Nat → Int} {al ve : Nat → Int32} (ha : ∀ S, S < 2 ^ n → al S = iI (F S)) (hv : ∀ x, x < n → ve x = iI (w x)) (hb : ∀ S, S < 2 ^ n → (F S).natAbs ≤ 3000000) {post : Int32 → Int32 → Prop} {x a b th : Int32} (h2 : ¬ lokL n x a b → post 0 2) (h0 : ∀ p q m M J, p < 2 ^ n → q < 2 ^ n → a = nI p → b = nI q → p &&& q = 0 → ixN x 3 → lowF (betw p q) F (2 ^ n) = some (m, M, J) → post (pick3 x m M J) 0) : wp_Mo_least_0 1 (nI n) al ve post x a b th := by
  have h1024 := two_le hn
  unfold wp_Mo_least_0 wp_Mo_least_43
  have h2' : ¬ lokL n x a b → wp_Mo_least_48 1 (nI n) al ve post x a b 2 th := fun z => br_f (by decide) (h2 z)
  refine bn1 (by decide) ?_
  rcases ix3 x (b := 3) (by omega) with ⟨a1, a2⟩ | ⟨a1, a2, a3, a4⟩ | hi
  · exact br_t a1 (h2' (fun q => a2 q.1))
  · exact br_f a1 (br_t (lt_pred (b := 2) (by omega) a3) (h2' (fun q => a4 q.1)))
  · have hx := hi
    obtain ⟨c, hc, rfl⟩ := id hi
    have hnot : ¬ (2 : Int32) < nI c := fun z => by
      have := (nI_ltI (a := 2) (b := c) (by omega) (by omega)).mp z
      omega
    refine br_f (nI_pos (by omega)) (br_f hnot (iset_ok hn (fun za => br_f (by decide) (iset_ok hn (fun zb => br_f (by decide) ⟨fun zc => ?_, fun zc => h2' (fun q => zc q.2.2.2)⟩) (fun zb => br_t rfl (h2' (fun q => zb q.2.2.1))))) (fun za => br_t rfl (h2' (fun q => za q.2.1)))))
    obtain ⟨p, hp, rfl⟩ := za
    obtain ⟨q, hq, rfl⟩ := zb
    have hpq : p &&& q = 0 := by
      rw [nI_and] at zc
      exact (nI_eq (a := p &&& q) (b := 0) (Nat.lt_of_lt_of_le (and_lt (n := 10) (show p < 2 ^ 10 by omega)) (by decide)) (by omega)).mp zc
    unfold wp_Mo_least_48 wp_Mo_least_70
    refine br_t (by decide) (lean_ok (less := false) hn hp (by omega) hpq ha hv (fun S hS => ⟨by have := hb S hS; unfold leanV; simp; omega, by have := hb S hS; unfold leanV; simp; omega⟩) (fun m M J hm hM hJ => ?_))
    exact h0 p q m M J hp hq rfl rfl hpq hx hm
