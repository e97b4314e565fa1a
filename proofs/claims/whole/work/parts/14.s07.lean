theorem okF.of {f g : Nat → Int32} {k k2 m : Nat} (h : okF f k) (e : ∀ w, w ≤ 5 → g w = f w) (hm : m < 2 ^ k2) (e7 : g 7 = nI m) : okF g k2 := by
  obtain ⟨h0, h1, h2, h3, h4, h5, _⟩ := h
  unfold okF
  rw [e 0 (by omega), e 1 (by omega), e 2 (by omega), e 3 (by omega), e 4 (by omega), e 5 (by omega)]
  exact ⟨h0, h1, h2, h3, h4, h5, m, hm, e7⟩
theorem clr_mod {m k : Nat} (hk : k < 12) (hm : m < 2 ^ (k + 1)) : clr m k = m % 2 ^ k := by
  have hp := pow_le (k := k + 1) (by omega)
  apply Nat.eq_of_testBit_eq
  intro j
  rw [clr_bit (by omega) (by omega), Nat.testBit_mod_two_pow]
  by_cases h1 : j < k
  · have : j ≠ k := by omega
    simp [h1, this]
  · by_cases h2 : j = k
    · simp [h2]
    · rw [bit_hi hm (by omega)]; simp
theorem SM_drop {A B : St} (h : Rel A B) : SM (f_X5_drop A) (f_X6_drop B) := by
  have h0 := h
  obtain ⟨⟨k, hb⟩, _⟩ := h0
  have hb0 := hb
  obtain ⟨h1, h2, h3, h4, h5, h6, h7, h8, h9, h10⟩ := hb
  unfold f_X5_drop f_X6_drop f_X0_dropLast
  by_cases hk0 : k = 0
  · subst hk0
    rw [h2, h3, if_pos (show nI 0 = 0 from rfl), if_pos (show nI 0 = 0 from rfl)]
    exact SM_find h 3 (by decide)
  · obtain ⟨k, rfl⟩ : ∃ q, k = q + 1 := ⟨k - 1, by omega⟩
    have hp := pow_le (k := k + 1) (by omega)
    have ek : nI (k + 1) - 1 = nI k := nI_pred k
    simp only [bv_i, h2, h3, ek, upI_s]
    rw [if_neg (show ¬ nI (k + 1) = 0 from nI_ne0 (by omega) (by omega)), if_neg (show ¬ nI (k + 1) = 0 from nI_ne0 (by omega) (by omega)), left_eq (by omega)]
    obtain ⟨r, p, e1, e2, e3⟩ := loop2 (b := fun s : Int32 × St => f_X0_dropLast_L21 (nI (2 ^ k - 1)) s.1 s.2) (c := fun s : Int32 × St => f_X6_drop_L27 s.1 s.2) (s := (0, upI A 3 0 (nI k))) (t := (0, upI B 1 0 (nI k)))
      (fun i s t => s.1 = nI i ∧ t.1 = nI i ∧ (∀ c j, (c ≠ 12 ∨ i ≤ j) → s.2.1 c j = (upI A 3 0 (nI k)).1 c j) ∧ (∀ c, c ≠ 12 → s.2.1 c = (upI A 3 0 (nI k)).1 c) ∧ s.2.2 = A.2 ∧ (∀ j, (∀ a, a < i → j ≠ 1 + 8 * a + 7) → t.2.1 1 j = (upI B 1 0 (nI k)).1 1 j) ∧ (∀ c, c ≠ 1 → t.2.1 c = B.1 c) ∧ t.2.2 = B.2 ∧ ∀ a, a < i → ∃ m, m < 2 ^ k ∧ s.2.1 12 a = nI m ∧ t.2.1 1 (1 + 8 * a + 7) = nI m)
      (fun r p => (∀ c j, (c ≠ 12) → r.1 c j = (upI A 3 0 (nI k)).1 c j) ∧ (∀ c, c ≠ 12 → r.1 c = (upI A 3 0 (nI k)).1 c) ∧ r.2 = A.2 ∧ (∀ j, (∀ a, a < k → j ≠ 1 + 8 * a + 7) → p.1 1 j = (upI B 1 0 (nI k)).1 1 j) ∧ (∀ c, c ≠ 1 → p.1 c = B.1 c) ∧ p.2 = B.2 ∧ ∀ a, a < k → ∃ m, m < 2 ^ k ∧ r.1 12 a = nI m ∧ p.1 1 (1 + 8 * a + 7) = nI m)
      k ⟨rfl, rfl, fun _ _ _ => rfl, fun _ _ => rfl, rfl, fun _ _ => rfl, fun c hc => upI_r hc, rfl, fun a ha => absurd ha (by omega)⟩ (by
      rintro i ⟨x, A1⟩ ⟨y, B1⟩ hi ⟨rfl, rfl, g1, g1b, g2, g3, g3b, g4, g5⟩
      have i0 : A1.1 3 0 = nI k := by rw [g1 3 0 (by omega), upI_s]
      have j0 : B1.1 1 0 = nI k := by rw [g3 0 (by omega), upI_s]
      by_cases hik : i = k
      · subst hik
        refine Or.inr ⟨A1, B1, ?_, ?_, fun c j hc => g1 c j (by omega), g1b, g2, g3, g3b, g4, g5⟩
        · show f_X0_dropLast_L21 _ (nI i) A1 = _
          unfold f_X0_dropLast_L21
          rw [if_pos (by rw [i0]; exact Int32.le_refl _)]
        · show f_X6_drop_L27 (nI i) B1 = _
          unfold f_X6_drop_L27
          rw [if_pos (by rw [j0]; exact Int32.le_refl _)]
      · obtain ⟨m, hm, em, em2⟩ := enem_of hb0 (show i < k + 1 by omega)
        have vA : A1.1 12 i = nI m := by rw [g1 12 i (by omega), upI_o (by omega)]; exact em
        have vB : B1.1 1 (1 + 8 * i + 7) = nI m := by rw [g3 _ (by omega), upI_o (by omega)]; exact em2
        have ei : nI i + 1 = nI (i + 1) := nI_1 i
        have e8 : (1 : Int32) + 8 * nI i + 7 = nI (1 + 8 * i + 7) := by
          show nI 1 + nI 8 * nI i + nI 7 = _
          rw [pk_mul, nI_add, nI_add]
        refine Or.inl ⟨(nI (i + 1), upI A1 12 i (nI (m % 2 ^ k))), (nI (i + 1), upI B1 1 (1 + 8 * i + 7) (nI (m % 2 ^ k))), ?_, ?_, by omega, rfl, rfl, ?_, ?_, g2, ?_, ?_, g4, ?_⟩
        · show f_X0_dropLast_L21 _ (nI i) A1 = _
          unfold f_X0_dropLast_L21
          rw [if_neg (by rw [i0]; exact nI_ge (by omega) (by omega))]
          simp (disch := omega) only [gI_ok, nIc, bv_i, ei, vA, fa_mask]
        · show f_X6_drop_L27 (nI i) B1 = _
          unfold f_X6_drop_L27
          rw [if_neg (by rw [j0]; exact nI_ge (by omega) (by omega)), e8]
          simp (disch := omega) only [gI_ok, nIc, bv_i, ei, vB, j0]
          rw [clr_eq (by omega), clr_mod (by omega) hm]
        · intro c j hc
          rw [upI_o (by omega)]
          exact g1 c j (by omega)
        · intro c hc
          rw [upI_r hc]
          exact g1b c hc
        · intro j hj
          have := hj i (by omega)
          rw [upI_o (by omega)]
          exact g3 j fun a ha => hj a (by omega)
        · intro c hc
          rw [upI_r hc]
          exact g3b c hc
        · intro a ha
          by_cases q : a = i
          · subst q
            exact ⟨m % 2 ^ k, Nat.mod_lt _ (Nat.two_pow_pos k), upI_s _ _ _ _, upI_s _ _ _ _⟩
          · rw [upI_o (by omega), upI_o (by omega)]
            exact g5 a (by omega))
    rw [cl_s e1, cl_s e2]
    obtain ⟨g1, g1b, g2, g3, g3b, g4, g5⟩ := e3
    have i0 : r.1 3 0 = nI k := by rw [g1 3 0 (by omega), upI_s]
    have j0 : p.1 1 0 = nI k := by rw [g3 0 (by omega), upI_s]
    refine SM_ret (i0.trans j0.symm) (h.bank (k := k) (fun c hc => ?_) g2 (fun c hc => g3b c hc) g4 ⟨by omega, i0, j0, fun i hi u hu => ?_, fun i hi => ?_, fun j hj => ?_, fun j hj => ?_, fun j hj => ?_, ?_, ?_⟩)
    · rw [g1b c (by omega), upI_r (by omega)]
    · by_cases q : u = 7
      · subst q
        obtain ⟨m, _, w1, w2⟩ := g5 i hi
        exact w1.trans w2.symm
      · rw [g1 _ i (by omega), g3 _ (by omega), upI_o (by omega), upI_o (by omega)]
        exact h4 i (by omega) u hu
    · obtain ⟨m, hm, w1, w2⟩ := g5 i hi
      exact (h5 i (by omega)).of (fun w hw => by show r.1 (3 + 2 + w) i = _; rw [g1 _ i (by omega), upI_o (by omega)]) hm w1
    · rw [g1 _ j (by omega), g1 _ j (by omega), g1 _ j (by omega), g1 _ j (by omega), g3 _ (by omega), g3 _ (by omega), g3 _ (by omega), g3 _ (by omega)]
      simp (disch := omega) only [upI_o]
      exact h6 j hj
    · rw [g1 _ j (by omega), g1 _ j (by omega)]
      simp (disch := omega) only [upI_o]
      exact h7 j hj
    · rw [g1 _ j (by omega), g3 _ (by omega)]
      simp (disch := omega) only [upI_o]
      exact h8 j hj
    · rw [g1 _ 0 (by omega)]
      simp (disch := omega) only [upI_o]
      exact h9
    · rw [g1 _ 7 (by omega), g3 _ (by omega)]
      simp (disch := omega) only [upI_o]
      exact h10
/-! Shelves. -/
theorem empt_eq {A : St} {w p : Nat} (hp : p < 6) : f_X4_isEmptyAt w (nI p) A = some (decide (¬ 0 ≤ A.1 (47 + w) p)) := by
  unfold f_X4_isEmptyAt
  rw [gI_ok hp (by decide), nIc (by omega)]
  by_cases q : 0 ≤ A.1 (47 + w) p
  · rw [if_pos q, decide_eq_false (fun z => z q)]
  · rw [if_neg q, decide_eq_true q]
theorem shelf_at {A B : St} {s p : Nat} (h : shelfRel s A B) (hp : p < 6) : ∃ m, m ≤ 12 ∧ B.1 (8 + s) p = nI m ∧ A.1 (47 + s) p = B.1 (8 + s) p - 1 ∧ (0 ≤ A.1 (47 + s) p ↔ 0 < m) ∧ (B.1 (8 + s) p ≤ 0 ↔ m = 0) := by
  obtain ⟨p1, p2, _⟩ := h.2.2 p hp
  obtain ⟨m, hm, em⟩ := nat_of (x := B.1 (8 + s) p) (M := 12) ((fa_le _ _).mp p2.1) ((fa_le _ _).mp p2.2)
  refine ⟨m, hm, em, p1, ?_, ?_⟩
  · rw [p1, em]
    exact (by decide : ∀ m, m ≤ 12 → (0 ≤ nI m - 1 ↔ 0 < m)) m hm
  · rw [em]
    exact (by decide : ∀ m, m ≤ 12 → (nI m ≤ 0 ↔ m = 0)) m hm
theorem stand_eq {A B : St} {s : Nat} (h : shelfRel s A B) (hs : s < 4) : ∃ r, f_X4_standing s A = some r ∧ f_X6_standing (nI s) B = some r := by
  unfold f_X4_standing f_X6_standing
  obtain ⟨r, p, e1, e2, e3⟩ := loop2 (b := fun t : Int32 × Int32 => f_X4_standing_L4 s A t.1 t.2) (c := fun t : Int32 × Int32 => f_X6_standing_L4 B (nI s) t.1 t.2) (s := (0, 0)) (t := (0, 0)) (fun i s t => s = t ∧ s.2 = nI i) (fun r p => r = p) 6 ⟨rfl, rfl⟩ (by
    rintro i ⟨v, j⟩ t hi ⟨rfl, rfl⟩
    by_cases hi6 : i = 6
    · subst hi6
      refine Or.inr ⟨v, v, ?_, ?_, rfl⟩
      · show f_X4_standing_L4 s A v (nI 6) = _
        unfold f_X4_standing_L4
        rw [if_pos (show 6 ≤ nI 6 by decide)]
      · show f_X6_standing_L4 B (nI s) v (nI 6) = _
        unfold f_X6_standing_L4
        rw [if_pos (show 6 ≤ nI 6 by decide)]
    · obtain ⟨m, hm, em, _, c1, c2⟩ := shelf_at h (show i < 6 by omega)
      have ei : nI i + 1 = nI (i + 1) := nI_1 i
      have n6 : ¬ 6 ≤ nI i := nI_ge (b := 6) (by omega) (by decide)
      by_cases q : m = 0
      · refine Or.inl ⟨(v, nI (i + 1)), (v, nI (i + 1)), ?_, ?_, by omega, rfl, rfl⟩
        · show f_X4_standing_L4 s A v (nI i) = _
          unfold f_X4_standing_L4
          rw [if_neg n6, cl_s (empt_eq (by omega)), decide_eq_true (show ¬ 0 ≤ A.1 (47 + s) i from fun z => by have := c1.mp z; omega), if_neg (by decide)]
          simp only [bv_i, ei]
        · show f_X6_standing_L4 B (nI s) v (nI i) = _
          unfold f_X6_standing_L4
          rw [if_neg n6]
          simp (disch := omega) only [gI_ok, nIc, bv_i, ei]
          rw [if_pos (c2.mpr q), Int32.add_zero]
      · refine Or.inl ⟨(v + 1, nI (i + 1)), (v + 1, nI (i + 1)), ?_, ?_, by omega, rfl, rfl⟩
        · show f_X4_standing_L4 s A v (nI i) = _
          unfold f_X4_standing_L4
          rw [if_neg n6, cl_s (empt_eq (by omega)), decide_eq_false (show ¬ ¬ 0 ≤ A.1 (47 + s) i from fun z => z (c1.mpr (by omega))), if_pos (by decide)]
          simp only [bv_i, ei]
        · show f_X6_standing_L4 B (nI s) v (nI i) = _
          unfold f_X6_standing_L4
          rw [if_neg n6]
          simp (disch := omega) only [gI_ok, nIc, bv_i, ei]
          rw [if_neg (fun z => q (c2.mp z))])
  rw [cl_s e1, cl_s e2]
  subst e3
  exact ⟨r, rfl, rfl⟩
