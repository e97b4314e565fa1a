theorem rwI_s (A : St) (k : Nat) (f : Nat → Int32) : (rwI A k f).1 k = f := by simp [rwI, va_up]
theorem rwI_r {A : St} {k c : Nat} {f : Nat → Int32} (h : c ≠ k) : (rwI A k f).1 c = A.1 c := by simp [rwI, va_up, h]
theorem cpy_at {α : Type} {f g : Nat → α} {n j : Nat} (h : j < n) : va_cpy f g 0 0 n j = f j := by
  unfold va_cpy
  rw [if_pos (by omega)]
  congr 1
  omega
theorem SM_image {A B : St} (h : Rel A B) : SM (f_X5_image A) (f_X6_image B) := by
  have h0 := h
  obtain ⟨⟨k, hb⟩, _, hf, hs, ht⟩ := h0
  unfold f_X5_image f_X6_image f_X0_become
  simp only [bv_i]
  obtain ⟨A2, e1, g1, g2, g3⟩ := loop1 (b := fun t : Int32 × St => f_X0_become_L10 t.1 t.2) (s := (0, upI A 18 0 (A.1 3 0)))
    (fun i t => t.1 = nI i ∧ (∀ c, (c < 20 ∨ 20 + i ≤ c) → t.2.1 c = (upI A 18 0 (A.1 3 0)).1 c) ∧ t.2.2 = A.2 ∧ ∀ u j, u < i → j < 12 → t.2.1 (20 + u) j = A.1 (5 + u) j)
    (fun t => (∀ c, (c < 20 ∨ 28 ≤ c) → t.1 c = (upI A 18 0 (A.1 3 0)).1 c) ∧ t.2 = A.2 ∧ ∀ u j, u < 8 → j < 12 → t.1 (20 + u) j = A.1 (5 + u) j) 8 ⟨rfl, fun _ _ => rfl, rfl, fun u j hu => absurd hu (by omega)⟩ (by
    rintro i ⟨x, A1⟩ hi ⟨rfl, g1, g2, g3⟩
    dsimp only
    by_cases hi8 : i = 8
    · subst hi8
      refine Or.inr ⟨A1, ?_, g1, g2, g3⟩
      unfold f_X0_become_L10
      rw [if_pos (show 7 < nI 8 by decide)]
    · refine Or.inl ⟨(nI (i + 1), rwI A1 (20 + i) (va_cpy (A1.1 (5 + i)) (A1.1 (20 + i)) 0 0 12)), ?_, by omega, rfl, fun c hc => ?_, g2, fun u j hu hj => ?_⟩
      · unfold f_X0_become_L10
        have ei : nI i + 1 = nI (i + 1) := nI_1 i
        rw [if_neg (show ¬ 7 < nI i from nI_nlt (a := 7) (by omega) (by decide))]
        simp (disch := omega) only [gI_ok, nIc, bv_i, ei]
      · rw [rwI_r (by omega)]; exact g1 c (by omega)
      · by_cases q : u = i
        · subst q
          rw [rwI_s, cpy_at hj, g1 _ (by omega), upI_r (by omega)]
        · rw [rwI_r (by omega)]; exact g3 u j (by omega) hj)
  obtain ⟨B2, e2, k1, k2, k3⟩ := loop1 (b := fun t : Int32 × St => f_X6_image_L7 t.1 t.2) (s := (0, upI B 0 2 1))
    (fun i t => t.1 = nI i ∧ (∀ c, c ≠ 2 → t.2.1 c = (upI B 0 2 1).1 c) ∧ t.2.2 = B.2 ∧ ∀ j, j < i → t.2.1 2 j = B.1 1 j)
    (fun t => (∀ c, c ≠ 2 → t.1 c = (upI B 0 2 1).1 c) ∧ t.2 = B.2 ∧ ∀ j, j < 117 → t.1 2 j = B.1 1 j) 117 ⟨rfl, fun _ _ => rfl, rfl, fun j hj => absurd hj (by omega)⟩ (by
    rintro i ⟨x, A1⟩ hi ⟨rfl, g1, g2, g3⟩
    dsimp only
    by_cases hi8 : i = 117
    · subst hi8
      refine Or.inr ⟨A1, ?_, g1, g2, g3⟩
      unfold f_X6_image_L7
      rw [if_pos (show 117 ≤ nI 117 by decide)]
    · refine Or.inl ⟨(nI (i + 1), upI A1 2 i (A1.1 1 i)), ?_, by omega, rfl, fun c hc => ?_, g2, fun j hj => ?_⟩
      · unfold f_X6_image_L7
        have ei : nI i + 1 = nI (i + 1) := nI_1 i
        rw [if_neg (show ¬ 117 ≤ nI i from nI_ge (b := 117) (by omega) (by decide))]
        simp (disch := omega) only [gI_ok, nIc, bv_i, ei]
      · rw [upI_r hc]; exact g1 c hc
      · by_cases q : j = i
        · subst q
          rw [upI_s, g1 1 (by omega), upI_r (by omega)]
        · rw [upI_o (by omega)]; exact g3 j (by omega))
  rw [cl_s e1, cl_s e2]
  unfold f_X0_become_X41
  simp only [bv_i, cl_i]
  generalize hA3 : upI _ 0 4 1 = A3
  have a1 : ∀ c, (c < 18 ∨ 33 ≤ c) → c ≠ 0 → A3.1 c = A.1 c := fun c hc hc0 => by
    subst hA3
    rw [upI_r hc0, upI_r (by omega), rwI_r (by omega), rwI_r (by omega), rwI_r (by omega), rwI_r (by omega), rwI_r (by omega), g1 c (by omega), upI_r (by omega)]
  have a2 : A3.2 = A.2 := by subst hA3; exact g2
  have a3 : A3.1 0 4 = 1 := by subst hA3; exact upI_s _ _ _ _
  have b1 : ∀ c, c ≠ 0 → c ≠ 2 → B2.1 c = B.1 c := fun c h1 h2 => by rw [k1 c h2, upI_r h1]
  refine SM_ret rfl ⟨⟨k, hb.to (fun c h1 h2 => a1 c (by omega) (by omega)) (b1 1 (by omega) (by omega))⟩, ⟨?_, Or.inr ⟨?_, k, hb.as (fun w j hw hj => ?_) ?_ ?_ k3⟩⟩, fun j hj => ?_, fun s hs' => ?_, fun s hs' => ?_⟩
  · rw [a3, k1 0 (by omega), upI_s]
  · rw [k1 0 (by omega), upI_s]
  · subst hA3
    rw [upI_r (by omega)]
    by_cases q : w < 8
    · rw [if_pos q] at hj
      rw [upI_o (by omega), rwI_r (by omega), rwI_r (by omega), rwI_r (by omega), rwI_r (by omega), rwI_r (by omega)]
      exact g3 w j q hj
    · rw [if_neg q] at hj
      have hc : w = 8 ∨ w = 9 ∨ w = 10 ∨ w = 11 ∨ w = 12 := by omega
      rw [upI_o (by omega)]
      rcases hc with rfl | rfl | rfl | rfl | rfl
      · rw [if_pos (by decide)] at hj
        simp (disch := omega) only [Nat.reduceAdd, rwI_s, rwI_r, cpy_at]
        rw [g1 _ (by omega), upI_r (by omega)]
      · rw [if_pos (by decide)] at hj
        simp (disch := omega) only [Nat.reduceAdd, rwI_s, rwI_r, cpy_at]
        rw [g1 _ (by omega), upI_r (by omega)]
      · rw [if_pos (by decide)] at hj
        simp (disch := omega) only [Nat.reduceAdd, rwI_s, rwI_r, cpy_at]
        rw [g1 _ (by omega), upI_r (by omega)]
      · rw [if_pos (by decide)] at hj
        simp (disch := omega) only [Nat.reduceAdd, rwI_s, rwI_r, cpy_at]
        rw [g1 _ (by omega), upI_r (by omega)]
      · rw [if_neg (by decide)] at hj
        simp (disch := omega) only [Nat.reduceAdd, rwI_s, rwI_r, cpy_at]
        rw [g1 _ (by omega), upI_r (by omega)]
  · subst hA3
    simp (disch := omega) only [upI_r, upI_o, rwI_r]
    rw [g1 18 (by omega), upI_s]
  · subst hA3
    simp (disch := omega) only [upI_r, upI_s, rwI_r]
    rw [g1 3 (by omega), upI_r (by omega)]
  · rw [a1 1 (by omega) (by omega), b1 3 (by omega) (by omega)]; exact hf j hj
  · exact (hs s hs').to (a1 _ (by omega) (by omega)) (a1 _ (by omega) (by omega)) (a1 _ (by omega) (by omega)) (b1 _ (by omega) (by omega)) (b1 _ (by omega) (by omega)) (b1 _ (by omega) (by omega))
  · exact (ht s hs').to (a1 _ (by omega) (by omega)) (by rw [a2]) (b1 _ (by omega) (by omega)) (b1 _ (by omega) (by omega)) (b1 _ (by omega) (by omega)) (by rw [k2]) (by rw [k2])
theorem SM_back {A B : St} (h : Rel A B) : SM (f_X5_back A) (f_X6_back B) := by
  have h0 := h
  obtain ⟨_, ⟨hk1, hk2⟩, hf, hs, ht⟩ := h0
  unfold f_X5_back f_X6_back f_X0_becomea
  rcases hk2 with hk2 | ⟨hk2, k, hb⟩
  · rw [hk1, hk2, if_pos rfl, if_pos rfl]
    exact SM_find h 3 (by decide)
  rw [hk1, hk2, if_neg (by decide), if_neg (by decide)]
  simp only [bv_i]
  obtain ⟨A2, e1, g1, g2, g3⟩ := loop1 (b := fun t : Int32 × St => f_X0_becomea_L10 t.1 t.2) (s := (0, upI A 3 0 (A.1 18 0)))
    (fun i t => t.1 = nI i ∧ (∀ c, (c < 5 ∨ 5 + i ≤ c) → t.2.1 c = (upI A 3 0 (A.1 18 0)).1 c) ∧ t.2.2 = A.2 ∧ ∀ u j, u < i → j < 12 → t.2.1 (5 + u) j = A.1 (20 + u) j)
    (fun t => (∀ c, (c < 5 ∨ 13 ≤ c) → t.1 c = (upI A 3 0 (A.1 18 0)).1 c) ∧ t.2 = A.2 ∧ ∀ u j, u < 8 → j < 12 → t.1 (5 + u) j = A.1 (20 + u) j) 8 ⟨rfl, fun _ _ => rfl, rfl, fun u j hu => absurd hu (by omega)⟩ (by
    rintro i ⟨x, A1⟩ hi ⟨rfl, g1, g2, g3⟩
    dsimp only
    by_cases hi8 : i = 8
    · subst hi8
      refine Or.inr ⟨A1, ?_, g1, g2, g3⟩
      unfold f_X0_becomea_L10
      rw [if_pos (show 7 < nI 8 by decide)]
    · refine Or.inl ⟨(nI (i + 1), rwI A1 (5 + i) (va_cpy (A1.1 (20 + i)) (A1.1 (5 + i)) 0 0 12)), ?_, by omega, rfl, fun c hc => ?_, g2, fun u j hu hj => ?_⟩
      · unfold f_X0_becomea_L10
        have ei : nI i + 1 = nI (i + 1) := nI_1 i
        rw [if_neg (show ¬ 7 < nI i from nI_nlt (a := 7) (by omega) (by decide))]
        simp (disch := omega) only [gI_ok, nIc, bv_i, ei]
      · rw [rwI_r (by omega)]; exact g1 c (by omega)
      · by_cases q : u = i
        · subst q
          rw [rwI_s, cpy_at hj, g1 _ (by omega), upI_r (by omega)]
        · rw [rwI_r (by omega)]; exact g3 u j (by omega) hj)
  obtain ⟨B2, e2, k1, k2, k3⟩ := loop1 (b := fun t : Int32 × St => f_X6_back_L15 t.1 t.2) (s := (0, B))
    (fun i t => t.1 = nI i ∧ (∀ c, c ≠ 1 → t.2.1 c = B.1 c) ∧ t.2.2 = B.2 ∧ ∀ j, j < i → t.2.1 1 j = B.1 2 j)
    (fun t => (∀ c, c ≠ 1 → t.1 c = B.1 c) ∧ t.2 = B.2 ∧ ∀ j, j < 117 → t.1 1 j = B.1 2 j) 117 ⟨rfl, fun _ _ => rfl, rfl, fun j hj => absurd hj (by omega)⟩ (by
    rintro i ⟨x, A1⟩ hi ⟨rfl, g1, g2, g3⟩
    dsimp only
    by_cases hi8 : i = 117
    · subst hi8
      refine Or.inr ⟨A1, ?_, g1, g2, g3⟩
      unfold f_X6_back_L15
      rw [if_pos (show 117 ≤ nI 117 by decide)]
    · refine Or.inl ⟨(nI (i + 1), upI A1 1 i (A1.1 2 i)), ?_, by omega, rfl, fun c hc => ?_, g2, fun j hj => ?_⟩
      · unfold f_X6_back_L15
        have ei : nI i + 1 = nI (i + 1) := nI_1 i
        rw [if_neg (show ¬ 117 ≤ nI i from nI_ge (b := 117) (by omega) (by decide))]
        simp (disch := omega) only [gI_ok, nIc, bv_i, ei]
      · rw [upI_r hc]; exact g1 c hc
      · by_cases q : j = i
        · subst q
          rw [upI_s, g1 2 (by omega)]
        · rw [upI_o (by omega)]; exact g3 j (by omega))
  rw [cl_s e1, cl_s e2]
  unfold f_X0_becomea_X41 f_X6_back_X39
  simp only [bv_i, cl_i]
  generalize hA3 : upI _ 3 7 _ = A3
  have a1 : ∀ c, (c < 3 ∨ 18 ≤ c) → A3.1 c = A.1 c := fun c hc => by
    subst hA3
    rw [upI_r (by omega), rwI_r (by omega), rwI_r (by omega), rwI_r (by omega), rwI_r (by omega), rwI_r (by omega), g1 c (by omega), upI_r (by omega)]
  have a2 : A3.2 = A.2 := by subst hA3; exact g2
  have hb2 : bankRel 3 1 k A3 B2 := by
    refine hb.as (fun w j hw hj => ?_) ?_ ?_ k3
    · subst hA3
      rw [upI_r (by omega)]
      by_cases q : w < 8
      · rw [if_pos q] at hj
        rw [rwI_r (by omega), rwI_r (by omega), rwI_r (by omega), rwI_r (by omega), rwI_r (by omega)]
        exact g3 w j q hj
      · rw [if_neg q] at hj
        have hc : w = 8 ∨ w = 9 ∨ w = 10 ∨ w = 11 ∨ w = 12 := by omega
        rcases hc with rfl | rfl | rfl | rfl | rfl
        · rw [if_pos (by decide)] at hj
          simp (disch := omega) only [Nat.reduceAdd, rwI_s, rwI_r, cpy_at]
          rw [g1 _ (by omega), upI_r (by omega)]
        · rw [if_pos (by decide)] at hj
          simp (disch := omega) only [Nat.reduceAdd, rwI_s, rwI_r, cpy_at]
          rw [g1 _ (by omega), upI_r (by omega)]
        · rw [if_pos (by decide)] at hj
          simp (disch := omega) only [Nat.reduceAdd, rwI_s, rwI_r, cpy_at]
          rw [g1 _ (by omega), upI_r (by omega)]
        · rw [if_pos (by decide)] at hj
          simp (disch := omega) only [Nat.reduceAdd, rwI_s, rwI_r, cpy_at]
          rw [g1 _ (by omega), upI_r (by omega)]
        · rw [if_neg (by decide)] at hj
          simp (disch := omega) only [Nat.reduceAdd, rwI_s, rwI_r, cpy_at]
          rw [g1 _ (by omega), upI_r (by omega)]
    · subst hA3
      simp (disch := omega) only [upI_o, rwI_r]
      rw [g1 3 (by omega), upI_s]
    · subst hA3
      simp (disch := omega) only [upI_s, rwI_r]
      rw [g1 18 (by omega), upI_r (by omega)]
  exact SM_ret (hb2.2.1.trans hb2.2.2.1.symm) (h.bank (fun c hc => a1 c (by omega)) a2 k1 k2 hb2)
