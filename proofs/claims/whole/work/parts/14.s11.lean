/-! The rules, said plainly. -/
/-- how many of a set have a fact -/
def cnt (A : St) (c k m : Nat) (v : Int32) : Nat := fb_ct (fun j => m.testBit j && decide (A.1 c j = v)) k
/-- rule r of a set -/
def rl (A : St) (k m r : Nat) : Prop :=
  if r = 1 then nI (pc m) = A.1 17 0
  else if r = 2 then ∀ t, t < 4 → A.1 15 t ≤ nI (cnt A 6 k m (nI t)) ∧ nI (cnt A 6 k m (nI t)) ≤ A.1 16 t
  else if r = 3 then mins A k m ≤ A.1 17 1
  else if r = 4 then ∀ i, i < k → m.testBit i = true → nI m &&& A.1 12 i = 0
  else if r = 5 then ∀ t, t < 4 → cnt A 10 k m (nI t) ≠ 1
  else ∀ i, i < k → m.testBit i = true → A.1 11 i < A.1 17 2
/-- a mask: the items with a fact -/
def msk (A : St) (k : Nat) (p : Nat → Prop) (v : Int32) : Prop := ∃ M, M < 2 ^ k ∧ v = nI M ∧ ∀ j, j < k → (M.testBit j = true ↔ p j)
/-- what readRules leaves -/
def RR (A : St) (k : Nat) : Prop := (∀ t, t < 4 → msk A k (fun j => A.1 6 j = nI t) (A.1 33 t)) ∧ (∀ t, t < 4 → msk A k (fun j => A.1 10 j = nI t) (A.1 34 t)) ∧ msk A k (fun j => ¬ A.1 11 j < A.1 17 2) (A.1 2 5)
theorem loop_mask {b : Int32 × Int32 → Option ((Int32 × Int32) ⊕ Int32)} {k : Nat} (hk : k ≤ 12) (p : Nat → Prop) (h1 : ∀ i, i < k → p i → ∀ v, b (v, nI i) = some (.inl (v ||| ((1 : Int32) <<< (nI i &&& 31)), nI (i + 1)))) (h0 : ∀ i, i < k → ¬ p i → ∀ v, b (v, nI i) = some (.inl (v, nI (i + 1)))) (he : ∀ v, b (v, nI k) = some (.inr v)) : ∃ M, M < 2 ^ k ∧ loop b (0, 0) = some (nI M) ∧ ∀ j, j < k → (M.testBit j = true ↔ p j) := by
  obtain ⟨r, e, M, hM, er, hj⟩ := loop1 (b := b) (s := (0, 0)) (fun i s => s.2 = nI i ∧ ∃ M, M < 2 ^ i ∧ s.1 = nI M ∧ ∀ j, j < i → (M.testBit j = true ↔ p j)) (fun r => ∃ M, M < 2 ^ k ∧ r = nI M ∧ ∀ j, j < k → (M.testBit j = true ↔ p j)) k ⟨rfl, 0, by decide, rfl, fun j hj => absurd hj (by omega)⟩ (by
    rintro i ⟨v, x⟩ hi ⟨rfl, M, hM, rfl, hj⟩
    by_cases hik : i = k
    · subst hik
      exact Or.inr ⟨_, he _, M, hM, rfl, hj⟩
    · have hM2 : M < 2 ^ (i + 1) := by rw [Nat.pow_succ]; omega
      by_cases q : p i
      · refine Or.inl ⟨_, h1 i (by omega) q _, by omega, rfl, M ||| 2 ^ i, Nat.or_lt_two_pow hM2 (Nat.pow_lt_pow_right (by decide) (by omega)), ?_, fun j hj2 => ?_⟩
        · rw [one_eq (by omega), fa_or]
        · rw [fb_bit_set]
          by_cases z : j = i
          · simp [z, q]
          · simp [z, hj j (by omega)]
      · refine Or.inl ⟨_, h0 i (by omega) q _, by omega, rfl, M, hM2, rfl, fun j hj2 => ?_⟩
        by_cases z : j = i
        · rw [z, bit_hi hM (Nat.le_refl _)]
          simp [q]
        · exact hj j (by omega))
  subst er
  exact ⟨M, hM, e, hj⟩
theorem with_eq {A : St} {k w : Nat} (h : A.1 3 0 = nI k) (hk : k ≤ 12) (hw : w < 8) (v : Int32) : ∃ M, M < 2 ^ k ∧ f_X0_itemsWith (nI w) v A = some (nI M) ∧ ∀ j, j < k → (M.testBit j = true ↔ A.1 (5 + w) j = v) := by
  unfold f_X0_itemsWith
  obtain ⟨M, hM, e, hj⟩ := loop_mask (b := fun s : Int32 × Int32 => f_X0_itemsWith_L5 A (nI w) v s.1 s.2) hk (fun j => A.1 (5 + w) j = v) (fun i hi q z => by
    dsimp only
    unfold f_X0_itemsWith_L5
    have ei : nI i + 1 = nI (i + 1) := nI_1 i
    rw [if_neg (nI_ends h hk hi)]
    simp (disch := omega) only [gI_ok, nIc, bv_i, ei]
    rw [if_pos q]) (fun i hi q z => by
    dsimp only
    unfold f_X0_itemsWith_L5
    have ei : nI i + 1 = nI (i + 1) := nI_1 i
    rw [if_neg (nI_ends h hk hi)]
    simp (disch := omega) only [gI_ok, nIc, bv_i, ei]
    rw [if_neg q]) (fun z => by
    dsimp only
    unfold f_X0_itemsWith_L5
    rw [if_pos (nI_end h)])
  refine ⟨M, hM, ?_, hj⟩
  rw [cl_s e]
  rfl
theorem worn_eq {A : St} {k : Nat} (h : A.1 3 0 = nI k) (hk : k ≤ 12) : ∃ M, M < 2 ^ k ∧ f_X0_wornItems A = some (nI M) ∧ ∀ j, j < k → (M.testBit j = true ↔ ¬ A.1 11 j < A.1 17 2) := by
  unfold f_X0_wornItems
  obtain ⟨M, hM, e, hj⟩ := loop_mask (b := fun s : Int32 × Int32 => f_X0_wornItems_L4 A s.1 s.2) hk (fun j => ¬ A.1 11 j < A.1 17 2) (fun i hi q z => by
    dsimp only
    unfold f_X0_wornItems_L4
    have ei : nI i + 1 = nI (i + 1) := nI_1 i
    rw [if_neg (nI_ends h hk hi)]
    simp (disch := omega) only [gI_ok, nIc, bv_i, ei]
    rw [if_neg q]) (fun i hi q z => by
    dsimp only
    unfold f_X0_wornItems_L4
    have ei : nI i + 1 = nI (i + 1) := nI_1 i
    rw [if_neg (nI_ends h hk hi)]
    simp (disch := omega) only [gI_ok, nIc, bv_i, ei]
    rw [if_pos (Decidable.not_not.mp q)]) (fun z => by
    dsimp only
    unfold f_X0_wornItems_L4
    rw [if_pos (nI_end h)])
  refine ⟨M, hM, ?_, hj⟩
  rw [cl_s e]
  rfl
theorem rules_eq {A : St} {k : Nat} (h : A.1 3 0 = nI k) (hk : k ≤ 12) : ∃ A2, f_X1_readRules A = some A2 ∧ A2.2 = A.2 ∧ (∀ c j, c ≠ 33 → c ≠ 34 → (c ≠ 2 ∨ j ≠ 5) → A2.1 c j = A.1 c j) ∧ (∀ c, c ≠ 33 → c ≠ 34 → c ≠ 2 → A2.1 c = A.1 c) ∧ RR A2 k := by
  unfold f_X1_readRules
  obtain ⟨A2, e1, g1, g2, g3⟩ := loop1 (b := fun s : Int32 × St => f_X1_readRules_L2 s.1 s.2) (s := (0, A)) (fun i s => s.1 = nI i ∧ s.2.2 = A.2 ∧ (∀ c, c ≠ 33 → s.2.1 c = A.1 c) ∧ ∀ t, t < i → msk A k (fun j => A.1 6 j = nI t) (s.2.1 33 t)) (fun s => s.2 = A.2 ∧ (∀ c, c ≠ 33 → s.1 c = A.1 c) ∧ ∀ t, t < 4 → msk A k (fun j => A.1 6 j = nI t) (s.1 33 t)) 4 ⟨rfl, rfl, fun _ _ => rfl, fun t ht => absurd ht (by omega)⟩ (by
    rintro i ⟨x, A1⟩ hi ⟨rfl, g1, g2, g3⟩
    dsimp only
    unfold f_X1_readRules_L2
    by_cases hi4 : i = 4
    · subst hi4
      rw [if_pos (show 4 ≤ nI 4 by decide)]
      exact Or.inr ⟨A1, rfl, g1, g2, g3⟩
    · have ei : nI i + 1 = nI (i + 1) := nI_1 i
      obtain ⟨M, hM, e, hj⟩ := with_eq (A := A1) (w := 1) (by rw [g2 3 (by omega)]; exact h) hk (by omega) (nI i)
      have e' : f_X0_itemsWith 1 (nI i) A1 = some (nI M) := e
      rw [if_neg (show ¬ 4 ≤ nI i from nI_ge (b := 4) (by omega) (by decide)), cl_s e']
      simp (disch := omega) only [gI_ok, nIc, bv_i, ei]
      refine Or.inl ⟨_, rfl, by omega, rfl, g1, fun c hc => ?_, fun t ht => ?_⟩
      · rw [upI_r hc]; exact g2 c hc
      · by_cases q : t = i
        · subst q
          rw [upI_s]
          refine ⟨M, hM, rfl, fun j hj2 => ?_⟩
          rw [hj j hj2, g2 6 (by omega)]
        · rw [upI_o (by omega)]; exact g3 t (by omega))
  rw [cl_s e1]
  unfold f_X1_readRules_X28
  obtain ⟨A3, e3, k1, k2, k3⟩ := loop1 (b := fun s : Int32 × St => f_X1_readRules_L30 s.1 s.2) (s := (0, A2)) (fun i s => s.1 = nI i ∧ s.2.2 = A.2 ∧ (∀ c, c ≠ 34 → s.2.1 c = A2.1 c) ∧ ∀ t, t < i → msk A k (fun j => A.1 10 j = nI t) (s.2.1 34 t)) (fun s => s.2 = A.2 ∧ (∀ c, c ≠ 34 → s.1 c = A2.1 c) ∧ ∀ t, t < 4 → msk A k (fun j => A.1 10 j = nI t) (s.1 34 t)) 4 ⟨rfl, g1, fun _ _ => rfl, fun t ht => absurd ht (by omega)⟩ (by
    rintro i ⟨x, A1⟩ hi ⟨rfl, k1, k2, k3⟩
    dsimp only
    unfold f_X1_readRules_L30
    by_cases hi4 : i = 4
    · subst hi4
      rw [if_pos (show 4 ≤ nI 4 by decide)]
      exact Or.inr ⟨A1, rfl, k1, k2, k3⟩
    · have ei : nI i + 1 = nI (i + 1) := nI_1 i
      obtain ⟨M, hM, e, hj⟩ := with_eq (A := A1) (w := 5) (by rw [k2 3 (by omega), g2 3 (by omega)]; exact h) hk (by omega) (nI i)
      have e' : f_X0_itemsWith 5 (nI i) A1 = some (nI M) := e
      rw [if_neg (show ¬ 4 ≤ nI i from nI_ge (b := 4) (by omega) (by decide)), cl_s e']
      simp (disch := omega) only [gI_ok, nIc, bv_i, ei]
      refine Or.inl ⟨_, rfl, by omega, rfl, k1, fun c hc => ?_, fun t ht => ?_⟩
      · rw [upI_r hc]; exact k2 c hc
      · by_cases q : t = i
        · subst q
          rw [upI_s]
          refine ⟨M, hM, rfl, fun j hj2 => ?_⟩
          rw [hj j hj2, k2 10 (by omega), g2 10 (by omega)]
        · rw [upI_o (by omega)]; exact k3 t (by omega))
  rw [cl_s e3]
  unfold f_X1_readRules_X56
  have k4 : ∀ c, c ≠ 33 → c ≠ 34 → A3.1 c = A.1 c := fun c h1 h2 => by rw [k2 c h2, g2 c h1]
  obtain ⟨W, hW, e, hj⟩ := worn_eq (A := A3) (by rw [k4 3 (by omega) (by omega)]; exact h) hk
  rw [cl_s e]
  refine ⟨_, rfl, k1, fun c j h1 h2 h3 => ?_, fun c h1 h2 h3 => ?_, fun t ht => ?_, fun t ht => ?_, ?_⟩
  · rw [upI_o (by omega), k4 c h1 h2]
  · rw [upI_r (by omega), k4 c h1 h2]
  · rw [upI_o (by omega), k2 33 (by omega), upI_r (by omega), k4 6 (by omega) (by omega)]
    exact g3 t ht
  · rw [upI_o (by omega), upI_r (by omega), k4 10 (by omega) (by omega)]
    exact k3 t ht
  · rw [upI_s, upI_r (by omega), upI_r (by omega)]
    exact ⟨W, hW, rfl, hj⟩
