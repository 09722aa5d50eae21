/-! The reference's turns are the class's. Own work. -/
/-- what the scan over the supersets of A has found below j -/
def ftS (F : Nat → Int) (A B : Nat) (j : Nat) (top bot : Int) (to : Nat) : Prop :=
  (bot = 0 ∧ ∀ S, S < j → subs A S → S = A) ∨
  (0 < bot ∧ bot ≤ 10 ∧ top.natAbs ≤ 6000000 ∧ (∃ S, S < j ∧ subs A S ∧ top = F S - F A ∧ bot = (pop S : Int) - pop A) ∧
    (∀ S, S < j → subs A S → S ≠ A → top * ((pop S : Int) - pop A) ≤ (F S - F A) * bot ∧ (top * ((pop S : Int) - pop A) = (F S - F A) * bot → subs S to)) ∧
    (top * ((pop B : Int) - pop A) = (F B - F A) * bot → subs to B))
theorem nI_full {n : Nat} (hn : n ≤ 10) : (1 <<< (nI n &&& 31) : Int32) - 1 = nI (2 ^ n - 1) := by
  have := Nat.two_pow_pos n
  rw [nI_sh1 n (by omega), show (1 : Int32) = nI 1 from rfl, pk_sub (by omega)]
theorem findTurns_ok {n k : Nat} (hn : n ≤ 10) (hk : k ≤ n) {F : Nat → Int} {fa : Nat → Int32} {A : Nat → Nat} (hfa : ∀ j, j < 2 ^ n → fa j = iI (F j)) (hb : ∀ j, j < 2 ^ n → (F j).natAbs ≤ 3000000) (hC : ChainOk F n k A) {post : Int32 → (Nat → Int64) → (Nat → Int64) → (Nat → Int32) → Prop} {tu : Int32} {ab be : Nat → Int64} {se : Nat → Int32}
    (h : ∀ ab be se, (∀ i, i < k → ab i = lI (num (prI F A i) (qtI A i))) → (∀ i, i < k → be i = lI (den (prI F A i) (qtI A i))) → (∀ i, i < k → se i = nI (A (i + 1))) → post (nI k) ab be se) : wp_Mo_findTurns_0 (nI n) fa post tu ab be se := by
  have h1024 := two_le hn
  have hpos := Nat.two_pow_pos n
  have hAlt : ∀ i, i ≤ k → A i < 2 ^ n := by
    intro i hi
    cases i with
    | zero => rw [hC.zero]; exact hpos
    | succ i => exact (hC.stp i (by omega)).lt
  have inner : ∀ i, i < k → ∀ (K : Int32 → Int32 → (Nat → Int64) → (Nat → Int64) → (Nat → Int32) → Prop) ab be se, K (nI (A (i + 1))) (nI (i + 1)) (vp_updL ab i (lI (num (prI F A i) (qtI A i)))) (vp_updL be i (lI (den (prI F A i) (qtI A i)))) (upd se i (nI (A (i + 1)))) → ∀ d j top bot to, j + d = 2 ^ n → to < 2 ^ n → ftS F (A i) (A (i + 1)) j top bot to → wp_Mo_findTurns_30 (nI n) fa post K (d + 1) (nI (A i)) (lI top) (lI bot) (nI to) (nI j) (nI i) ab be se := by
    intro i hi K ab be se hK d
    have hT := hC.stp i hi
    have hA := hAlt i (by omega)
    have hB := hAlt (i + 1) (by omega)
    have hpA := pop_le_n hn hA
    have hpB := pop_le_n hn hB
    have hm := hT.more
    have bA := hb _ hA
    have bB := hb _ hB
    have hKq : K (nI (A (i + 1))) (nI (i + 1)) (vp_updL ab i (lI (num (F (A (i + 1)) - F (A i)) (pop (A (i + 1)) - pop (A i))))) (vp_updL be i (lI (den (F (A (i + 1)) - F (A i)) (pop (A (i + 1)) - pop (A i))))) (upd se i (nI (A (i + 1)))) := hK
    generalize hNe : 2 ^ n = N at *
    generalize hAe : A i = a at *
    generalize hBe : A (i + 1) = b at *
    have hsh := nI_sh1 n (by omega)
    rw [hNe] at hsh
    induction d with
    | zero =>
      intro j top bot to hj hto hs
      rw [wp_Mo_findTurns_30, hsh]
      have : j = N := by omega
      subst this
      refine br_t (nI_le (Nat.le_refl _) (by omega)) ?_
      have hba : b ≠ a := fun z => by rw [z] at hm; omega
      rcases hs with ⟨_, hs⟩ | ⟨h1, h2, h3, ⟨S, hS, hSa, hSt, hSb⟩, h5, h6⟩
      · exact absurd (hs b hB hT.sub) hba
      · have l1 := (h5 b hB hT.sub hba).1
        have l2 := hT.low S hS
        rw [← hSt, ← hSb, Int.mul_comm ((pop b : Int) - pop a)] at l2
        have hto : to = b := subs_antisymm (h6 (by omega)) ((h5 b hB hT.sub hba).2 (by omega))
        subst hto
        obtain ⟨bn, hbn⟩ : ∃ bn : Nat, bot = bn := ⟨bot.toNat, by omega⟩
        subst hbn
        have hsame := num_same (p := top) (q := bn) (r := F to - F a) (s := pop to - pop a) (by omega) (by omega) (by rw [show ((pop to - pop a : Nat) : Int) = (pop to : Int) - pop a by omega]; omega)
        refine divisor_ok (by omega) (by omega) ?_
        have hg : 0 < Nat.gcd top.natAbs bn := gcd_pos (by omega)
        have hg2 : Nat.gcd top.natAbs bn ≤ bn := Nat.gcd_le_right _ (by omega)
        rw [lI_div ⟨by omega, by omega⟩ ⟨by omega, by omega⟩, lI_div ⟨by omega, by omega⟩ ⟨by omega, by omega⟩, num_eq (by omega), den_eq (by omega), hsame.1, hsame.2, nI_1, nI_clamp (by omega)]
        exact ⟨lI_nz (by omega) hg, vp_in_nI (by omega) (by omega), lI_nz (by omega) hg, vp_in_nI (by omega) (by omega), vp_in_nI (by omega) (by omega), hKq⟩
    | succ d ih =>
      intro j top bot to hj hto hs
      rw [wp_Mo_findTurns_30, hsh]
      refine br_f (nI_ge (by omega) (by omega)) ?_
      have hja : j &&& a < 1024 := and_lt (n := 10) (by omega)
      have bj := hb j (by omega)
      rw [nI_and, nI_clamp (n := j) (by omega), nI_clamp (n := a) (by omega), hfa j (by omega), hfa a (by omega), iI_sub, iI_64 ⟨by omega, by omega⟩]
      have skip : (subs a j → j = a) → wp_Mo_findTurns_148 (nI n) fa post K (fun x1 x2 x4 x6 x7 f_turns f_above f_below f_sets => wp_Mo_findTurns_30 (nI n) fa post K (d + 1) x1 x2 x4 x6 x7 f_turns f_above f_below f_sets) (nI a) (lI top) (lI bot) (nI to) (nI j) (nI i) ab be se := by
        intro hn
        unfold wp_Mo_findTurns_148
        rw [nI_1]
        refine ih (j + 1) top bot to (by omega) hto ?_
        rcases hs with ⟨h0, hs⟩ | ⟨h1, h2, h3, ⟨S, hS, hSa, hSt, hSb⟩, h5, h6⟩
        · refine Or.inl ⟨h0, fun S hS ha => ?_⟩
          by_cases z : S = j
          · subst z; exact hn ha
          · exact hs S (by omega) ha
        · refine Or.inr ⟨h1, h2, h3, ⟨S, by omega, hSa, hSt, hSb⟩, fun S hS ha hne => ?_, h6⟩
          by_cases z : S = j
          · subst z; exact absurd (hn ha) hne
          · exact h5 S (by omega) ha hne
      refine ⟨fun c => skip (fun z => absurd (congrArg nI (subs_and.mpr z)) c), fun c => ?_⟩
      have c : subs a j := subs_and.mp ((nI_eq (by omega) (by omega)).mp c)
      refine ⟨fun c2 => ⟨vp_in_nI (by omega) (by omega), vp_in_nI (by omega) (by omega), sizeOf_ok (by omega) (sizeOf_ok (by omega) ?_)⟩, fun c2 => skip (fun _ => (nI_eq (by omega) (by omega)).mp c2)⟩
      have hne : j ≠ a := fun z => c2 (congrArg nI z)
      have hpj : pop a < pop j := pop_lt c (by omega) (Ne.symm hne)
      have hpj2 := pop_le j
      rw [nI_sub64 (by omega) (by omega)]
      have fresh : (∀ S, S < j → subs a S → S ≠ a → (F j - F a) * ((pop S : Int) - pop a) < (F S - F a) * ((pop j : Int) - pop a)) → wp_Mo_findTurns_148 (nI n) fa post K (fun x1 x2 x4 x6 x7 f_turns f_above f_below f_sets => wp_Mo_findTurns_30 (nI n) fa post K (d + 1) x1 x2 x4 x6 x7 f_turns f_above f_below f_sets) (nI a) (lI (F j - F a)) (lI ((pop j : Int) - pop a)) (nI j) (nI j) (nI i) ab be se := by
        intro hlt
        unfold wp_Mo_findTurns_148
        rw [nI_1]
        refine ih (j + 1) _ _ j (by omega) (by omega) (Or.inr ⟨by omega, by omega, by omega, ⟨j, by omega, c, rfl, rfl⟩, fun S hS ha hn9 => ?_, fun he => ?_⟩)
        · by_cases z : S = j
          · subst z; exact ⟨Int.le_refl _, fun _ => subs_refl _⟩
          · have := hlt S (by omega) ha hn9
            exact ⟨by omega, fun e => by omega⟩
        · refine hT.max j (by omega) ?_
          rw [← he, Int.mul_comm]
      unfold wp_Mo_findTurns_111
      rcases id hs with ⟨h0, hs0⟩ | ⟨h1, h2, h3, ⟨S, hS, hSa, hSt, hSb⟩, h5, h6⟩
      · subst h0
        refine ⟨fun z => absurd (show lg_cmp (lI 0) 0 = 0 by decide) z, fun _ => ?_⟩
        refine br_f (by decide) (fresh (fun S hS ha hn9 => absurd (hs0 S hS ha) hn9))
      · have hm1 : bl ((F j - F a) * bot) := small_mul (by omega) (by omega)
        have hm2 : bl (top * ((pop j : Int) - pop a)) := small_mul (by omega) (by omega)
        have hb1 : ((F j - F a) * bot).natAbs ≤ 6000000 * 10 := by rw [Int.natAbs_mul]; exact Nat.mul_le_mul (by omega) (by omega)
        have hb2 : (top * ((pop j : Int) - pop a)).natAbs ≤ 6000000 * 10 := by rw [Int.natAbs_mul]; exact Nat.mul_le_mul (by omega) (by omega)
        have hcz : ¬ lg_cmp (lI bot) 0 = 0 := fun z => by
          have := (cmp_eq (a := bot) (b := 0) ⟨by omega, by omega⟩ ⟨by omega, by omega⟩).mp z
          omega
        refine ⟨fun _ => ?_, fun z => absurd z hcz⟩
        rw [lI_mul, lI_mul, lI_sub]
        have e0 : (0 : Int64) = lI 0 := rfl
        rw [e0, cmp_ge (a := (F j - F a) * bot - top * ((pop j : Int) - pop a)) (b := 0) ⟨by omega, by omega⟩ ⟨by omega, by omega⟩, cmp_eq (a := (F j - F a) * bot - top * ((pop j : Int) - pop a)) (b := 0) ⟨by omega, by omega⟩ ⟨by omega, by omega⟩]
        refine ⟨fun c3 => ⟨fun c4 => ?_, fun c4 => ?_⟩, fun c3 => ?_⟩
        · unfold wp_Mo_findTurns_148
          rw [nI_1]
          refine ih (j + 1) top bot to (by omega) hto (Or.inr ⟨h1, h2, h3, ⟨S, by omega, hSa, hSt, hSb⟩, fun S hS ha hn9 => ?_, h6⟩)
          by_cases z : S = j
          · subst z; exact ⟨by omega, fun e => by omega⟩
          · exact h5 S (by omega) ha hn9
        · unfold wp_Mo_findTurns_148
          rw [nI_1, nI_or]
          refine ih (j + 1) top bot (to ||| j) (by omega) (by rw [← hNe]; exact or_lt (by omega) (by omega)) (Or.inr ⟨h1, h2, h3, ⟨S, by omega, hSa, hSt, hSb⟩, fun S hS ha hn9 => ?_, fun he => subs_or (h6 he) ?_⟩)
          · by_cases z : S = j
            · subst z; exact ⟨by omega, fun _ => subs_or_r _ _⟩
            · have := h5 S (by omega) ha hn9
              exact ⟨this.1, fun e => subs_trans (this.2 e) (subs_or_l _ _)⟩
          · refine hT.max j (by omega) ?_
            -- top / bot is the price, and j has it
            have g1 := cross (x1 := F b - F a) (y1 := (pop b : Int) - pop a) (x2 := top) (y2 := bot) (x3 := F j - F a) (y3 := (pop j : Int) - pop a) (by omega) (by omega) (by omega) (by omega) (by omega)
            have g2 := cross (x3 := F b - F a) (y3 := (pop b : Int) - pop a) (x2 := top) (y2 := bot) (x1 := F j - F a) (y1 := (pop j : Int) - pop a) (by omega) (by omega) (by omega) (by omega) (by omega)
            rw [Int.mul_comm ((pop b : Int) - pop a)]
            omega
        · refine fresh (fun S hS ha hn9 => ?_)
          have hpS : pop a < pop S := pop_lt ha (by omega) (Ne.symm hn9)
          exact cross_lt (x2 := top) (y2 := bot) (by omega) (by omega) (by omega) (by omega) (h5 S hS ha hn9).1
  have outer : ∀ d i ab be se, i + d = k → (∀ j, j < i → ab j = lI (num (prI F A j) (qtI A j)) ∧ be j = lI (den (prI F A j) (qtI A j)) ∧ se j = nI (A (j + 1))) → wp_Mo_findTurns_7 (nI n) fa post (d + 1) (nI (A i)) (nI i) ab be se := by
    intro d
    induction d with
    | zero =>
      intro i ab be se hi hj
      rw [wp_Mo_findTurns_7, nI_full hn]
      have : i = k := by omega
      subst this
      exact br_t (by rw [hC.full]) (h ab be se (fun j hj9 => (hj j hj9).1) (fun j hj9 => (hj j hj9).2.1) (fun j hj9 => (hj j hj9).2.2))
    | succ d ih =>
      intro i ab be se hi hj
      rw [wp_Mo_findTurns_7, nI_full hn]
      have hT := hC.stp i (by omega)
      have hA := hAlt i (by omega)
      have hne : ¬ nI (A i) = nI (2 ^ n - 1) := by
        intro z
        have z := (nI_eq (by omega) (by omega)).mp z
        have := hT.more
        rw [z, pop_full hn] at this
        have := pop_le_n hn hT.lt
        omega
      refine br_f hne ⟨2 ^ n + 1, ?_⟩
      refine inner i (by omega) _ ab be se ?_ (2 ^ n) 0 0 0 0 (by omega) hpos (Or.inl ⟨rfl, fun S hS => by omega⟩)
      refine ih (i + 1) _ _ _ (by omega) (fun j hj9 => ?_)
      by_cases z : j = i
      · subst z
        rw [pk_us]
        unfold vp_updL
        rw [if_pos rfl, if_pos rfl]
        exact ⟨rfl, rfl, rfl⟩
      · rw [pk_un z]
        unfold vp_updL
        rw [if_neg z, if_neg z]
        exact hj j (by omega)
  unfold wp_Mo_findTurns_0
  have := outer k 0 ab be se (by omega) (fun j hj => by omega)
  rw [hC.zero] at this
  exact ⟨k + 1, this⟩
