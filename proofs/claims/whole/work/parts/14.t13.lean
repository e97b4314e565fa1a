theorem run_eq {A B : St} {s n : Nat} {so : Int32} (hS : Sh A B s so n) (x y : Int32) : f_X3_hasRun s x y A = some (decide ((0 : Int) ≤ x.toInt ∧ (0 : Int) ≤ y.toInt ∧ x.toInt + y.toInt ≤ n)) := by
  have hn := hS.2.2.2.2.2.1
  unfold f_X3_hasRun
  rw [hS.2.1]
  have z : (0 : Int32).toInt = 0 := rfl
  have e := nIt (n := n) (by omega)
  by_cases h1 : x.toInt < 0
  · rw [if_pos ((fa_lt _ _).mpr h1), decide_eq_false (by omega)]
  · rw [if_neg (fun q => h1 ((fa_lt _ _).mp q))]
    by_cases h2 : y.toInt < 0
    · rw [if_pos ((fa_lt _ _).mpr h2), decide_eq_false (by omega)]
    · rw [if_neg (fun q => h2 ((fa_lt _ _).mp q))]
      by_cases h3 : (n : Int) < x.toInt
      · rw [if_pos ((fa_lt _ _).mpr (by omega)), decide_eq_false (by omega)]
      · rw [if_neg (fun q => h3 (by have := (fa_lt _ _).mp q; omega))]
        have es : (nI n - x).toInt = (n : Int) - x.toInt := by
          rw [fb_subI (by omega) (by omega), e]
        by_cases h4 : (n : Int) - x.toInt < y.toInt
        · rw [if_pos ((fa_lt _ _).mpr (by omega)), decide_eq_false (by omega)]
        · rw [if_neg (fun q => h4 (by have := (fa_lt _ _).mp q; omega)), decide_eq_true (by omega)]
/-- all three rows of a sheet taken -/
theorem takes_eq {B : St} {s : Nat} (hs : s < 4) : ∃ B2, f_X6_takesAll (nI s) B = some B2 ∧ (∀ c, c ≠ 34 → B2.1 c = B.1 c) ∧ (∀ c, c ≠ 36 → B2.2.1 c = B.2.1 c) ∧ (∀ c, c ≠ 35 → B2.2.2 c = B.2.2 c) ∧ ∀ j, j < 40 → B2.1 34 j = B.1 (20 + s) j ∧ B2.2.2 35 j = B.2.2 (25 + s) j ∧ B2.2.1 36 j = B.2.1 (30 + s) j := by
  unfold f_X6_takesAll
  obtain ⟨B2, e, g⟩ := loop1 (b := fun t : Int32 × St => f_X6_takesAll_L2 (nI s) t.1 t.2) (s := (0, B)) (fun i t => t.1 = nI i ∧ (∀ c, c ≠ 34 → t.2.1 c = B.1 c) ∧ (∀ c, c ≠ 36 → t.2.2.1 c = B.2.1 c) ∧ (∀ c, c ≠ 35 → t.2.2.2 c = B.2.2 c) ∧ ∀ j, j < i → t.2.1 34 j = B.1 (20 + s) j ∧ t.2.2.2 35 j = B.2.2 (25 + s) j ∧ t.2.2.1 36 j = B.2.1 (30 + s) j) (fun t => (∀ c, c ≠ 34 → t.1 c = B.1 c) ∧ (∀ c, c ≠ 36 → t.2.1 c = B.2.1 c) ∧ (∀ c, c ≠ 35 → t.2.2 c = B.2.2 c) ∧ ∀ j, j < 40 → t.1 34 j = B.1 (20 + s) j ∧ t.2.2 35 j = B.2.2 (25 + s) j ∧ t.2.1 36 j = B.2.1 (30 + s) j) 40 ⟨rfl, fun _ _ => rfl, fun _ _ => rfl, fun _ _ => rfl, fun j hj => absurd hj (by omega)⟩ (by
    rintro i ⟨x, A1⟩ hi ⟨rfl, g1, g2, g3, g4⟩
    dsimp only at g1 g2 g3 g4 ⊢
    unfold f_X6_takesAll_L2
    by_cases hin : i = 40
    · subst hin
      rw [if_pos (show 40 ≤ nI 40 by decide)]
      exact Or.inr ⟨_, rfl, g1, g2, g3, g4⟩
    · have ei : nI i + 1 = nI (i + 1) := nI_1 i
      rw [if_neg (show ¬ 40 ≤ nI i from nI_ge (b := 40) (by omega) (by decide))]
      simp (disch := omega) only [gI_ok, nIc, bv_i, ei]
      refine Or.inl ⟨_, rfl, by omega, rfl, fun c hc => ?_, fun c hc => ?_, fun c hc => ?_, fun j hj => ?_⟩
      · rw [upD_1, upF_1, upI_r hc]; exact g1 c hc
      · rw [upD_r hc]; exact g2 c hc
      · rw [upD_2, upF_r hc]; exact g3 c hc
      · rw [upD_1, upF_1, upD_2]
        by_cases q : j = i
        · subst q
          rw [upI_s, upF_s, upD_s]
          refine ⟨?_, ?_, ?_⟩
          · rw [g1 _ (by omega)]
          · rw [show (upI A1 34 j (A1.1 (20 + s) j)).2.2 (25 + s) j = A1.2.2 (25 + s) j from rfl, g3 _ (by omega)]
          · rw [upF_2, show (upI A1 34 j (A1.1 (20 + s) j)).2.1 (30 + s) j = A1.2.1 (30 + s) j from rfl, g2 _ (by omega)]
        · rw [upI_o (by omega), upF_o (by omega), upD_o (by omega)]
          exact g4 j (by omega))
  rw [cl_s e]
  exact ⟨B2, rfl, g⟩
theorem SM_copy {A B : St} (h : Rel A B) (x1 x2 x3 x4 x5 : Int32) : SM (f_X5_copy x1 x2 x3 x4 x5 A) (f_X6_copy x1 x2 x3 x4 x5 B) := by
  unfold f_X5_copy f_X6_copy
  refine SM_chk (four_eq x1) (four_eq6 x1) (fun _ => SM_find h 0 (by decide)) fun q1 => ?_
  refine SM_chk (four_eq x3) (four_eq6 x3) (fun _ => SM_find h 0 (by decide)) fun q2 => ?_
  obtain ⟨a, ha, rfl⟩ := nat_of (M := 3) q1.1 q1.2
  obtain ⟨b, hb, rfl⟩ := nat_of (M := 3) q2.1 q2.2
  obtain ⟨so, n, hS⟩ := h.sh (s := a) (by omega)
  obtain ⟨so2, n2, hS2⟩ := h.sh (s := b) (by omega)
  have hn := hS.2.2.2.2.2.1
  have hn2 := hS2.2.2.2.2.2.1
  simp (disch := omega) only [gI_ok, nIc]
  rw [cl_s (miss_eq hS), cl_s (miss_eq hS2), hS.2.2.1, hS2.2.2.1, hS.1, hS2.1, hS.2.2.2.1, hS2.2.2.2.1]
  by_cases z : so = -1
  · rw [decide_eq_true z, if_neg (show ¬ bI true = 0 by decide), if_pos (show so < 0 by rw [z]; decide)]
    exact SM_find h 5 (by decide)
  rw [decide_eq_false z, if_pos (show bI false = 0 by decide), if_neg (hS.sorts z).2.2]
  by_cases z2 : so2 = -1
  · rw [decide_eq_true z2, if_neg (show ¬ bI true = 0 by decide), if_neg (show ¬ 0 ≤ so2 by rw [z2]; decide)]
    exact SM_find h 5 (by decide)
  rw [decide_eq_false z2, if_pos (show bI false = 0 by decide), if_pos (hS2.sorts z2).2.1]
  by_cases zz0 : ¬ so = so2
  · rw [if_neg zz0, if_neg zz0]
    exact SM_find h 2 (by decide)
  have zz : so = so2 := Decidable.not_not.mp zz0
  rw [if_pos zz, if_pos zz, cl_s (run_eq hS x2 x5), cl_s (run_eq hS2 x4 x5)]
  have p0 : (0 : Int32).toInt = 0 := rfl
  have c1 : (0 < lg_cmp (x2.toInt64 + x5.toInt64) (nI n).toInt64) ↔ (n : Int) < x2.toInt + x5.toInt := by
    rw [lg_cmp_gt, fa_lt64, lg_i2l_add, Int32.toInt_toInt64, nIt (by omega)]
  have c2 : (lg_cmp (x4.toInt64 + x5.toInt64) (nI n2).toInt64 ≤ 0) ↔ x4.toInt + x5.toInt ≤ (n2 : Int) := by
    rw [lg_cmp_le, fa_le64, lg_i2l_add, Int32.toInt_toInt64, nIt (by omega)]
  by_cases C : ((0 : Int) ≤ x2.toInt ∧ (0 : Int) ≤ x5.toInt ∧ x2.toInt + x5.toInt ≤ n) ∧ (0 : Int) ≤ x4.toInt ∧ (0 : Int) ≤ x5.toInt ∧ x4.toInt + x5.toInt ≤ n2
  · rw [decide_eq_true C.1, if_neg (show ¬ bI true = 0 by decide), decide_eq_true C.2, if_neg (show ¬ bI true = 0 by decide)]
    rw [if_neg (show ¬ x2 < 0 from fun y => by have := (fa_lt _ _).mp y; omega), if_neg (show ¬ x4 < 0 from fun y => by have := (fa_lt _ _).mp y; omega), if_neg (show ¬ x5 < 0 from fun y => by have := (fa_lt _ _).mp y; omega), if_neg (show ¬ 0 < lg_cmp (x2.toInt64 + x5.toInt64) (nI n).toInt64 from fun y => by have := c1.mp y; omega), if_pos (c2.mpr C.2.2.2)]
    obtain ⟨i, hi, rfl⟩ := nat_of (x := x2) (M := 40) C.1.1 (by omega)
    obtain ⟨j, hj, rfl⟩ := nat_of (x := x4) (M := 40) C.2.1 (by omega)
    obtain ⟨m, hm, rfl⟩ := nat_of (x := x5) (M := 40) C.1.2.1 (by omega)
    rw [nIt (by omega), nIt (by omega), nIt (by omega)] at C
    have hg : decide (¬ nI i < 0 ∧ ¬ nI j < 0 ∧ ¬ nI m < 0 ∧ (nI i).toNatClampNeg + (nI m).toNatClampNeg ≤ 40 ∧ (nI j).toNatClampNeg + (nI m).toNatClampNeg ≤ 40) = true := by
      refine decide_eq_true ⟨nI_pos (by omega), nI_pos (by omega), nI_pos (by omega), ?_, ?_⟩
      · rw [nIc (by omega), nIc (by omega)]; omega
      · rw [nIc (by omega), nIc (by omega)]; omega
    unfold gB
    rw [if_pos hg, bv_i, nIc (by omega), nIc (by omega), nIc (by omega)]
    obtain ⟨B1, e1, k1, k2, k3, k4⟩ := takes_eq (B := B) (s := a) (by omega)
    rw [cl_s e1]
    obtain ⟨B2, e2, l1, l2, l3, l4, l5⟩ := loop1 (b := fun t : Int32 × St => f_X6_copy_L128 (nI i) (nI b) (nI j) (nI m) t.1 t.2) (s := (0, B1)) (fun l t => t.1 = nI l ∧ (∀ c, c ≠ 20 + b → t.2.1 c = B1.1 c) ∧ (∀ c, c ≠ 30 + b → t.2.2.1 c = B1.2.1 c) ∧ (∀ c, c ≠ 25 + b → t.2.2.2 c = B1.2.2 c) ∧ (∀ g, (g < j ∨ j + l ≤ g) → t.2.1 (20 + b) g = B1.1 (20 + b) g ∧ t.2.2.2 (25 + b) g = B1.2.2 (25 + b) g ∧ t.2.2.1 (30 + b) g = B1.2.1 (30 + b) g) ∧ ∀ g, g < l → t.2.1 (20 + b) (j + g) = B1.1 34 (i + g) ∧ t.2.2.2 (25 + b) (j + g) = B1.2.2 35 (i + g) ∧ t.2.2.1 (30 + b) (j + g) = B1.2.1 36 (i + g)) (fun t => (∀ c, c ≠ 20 + b → t.1 c = B1.1 c) ∧ (∀ c, c ≠ 30 + b → t.2.1 c = B1.2.1 c) ∧ (∀ c, c ≠ 25 + b → t.2.2 c = B1.2.2 c) ∧ (∀ g, (g < j ∨ j + m ≤ g) → t.1 (20 + b) g = B1.1 (20 + b) g ∧ t.2.2 (25 + b) g = B1.2.2 (25 + b) g ∧ t.2.1 (30 + b) g = B1.2.1 (30 + b) g) ∧ ∀ g, g < m → t.1 (20 + b) (j + g) = B1.1 34 (i + g) ∧ t.2.2 (25 + b) (j + g) = B1.2.2 35 (i + g) ∧ t.2.1 (30 + b) (j + g) = B1.2.1 36 (i + g)) m ⟨rfl, fun _ _ => rfl, fun _ _ => rfl, fun _ _ => rfl, fun _ _ => ⟨rfl, rfl, rfl⟩, fun g hg => absurd hg (by omega)⟩ (by
      rintro l ⟨x, A1⟩ hl ⟨rfl, g1, g2, g3, g4, g5⟩
      dsimp only at g1 g2 g3 g4 g5 ⊢
      unfold f_X6_copy_L128
      by_cases hin : l = m
      · subst hin
        rw [if_pos (Int32.le_refl _)]
        exact Or.inr ⟨_, rfl, g1, g2, g3, g4, g5⟩
      · have ei : nI l + 1 = nI (l + 1) := nI_1 l
        rw [if_neg (show ¬ nI m ≤ nI l from nI_ge (by omega) (by omega)), nI_add, nI_add]
        simp (disch := omega) only [gI_ok, nIc, bv_i, ei]
        refine Or.inl ⟨_, rfl, by omega, rfl, fun c hc => ?_, fun c hc => ?_, fun c hc => ?_, fun g hg => ?_, fun g hg => ?_⟩
        · rw [upD_1, upF_1, upI_r hc]; exact g1 c hc
        · rw [upD_r hc]; exact g2 c hc
        · rw [upD_2, upF_r hc]; exact g3 c hc
        · rw [upD_1, upF_1, upD_2, upI_o (by omega), upF_o (by omega), upD_o (by omega)]
          exact g4 g (by omega)
        · rw [upD_1, upF_1, upD_2]
          by_cases q : g = l
          · subst q
            rw [upI_s, upF_s, upD_s]
            refine ⟨?_, ?_, ?_⟩
            · rw [g1 34 (by omega)]
            · show A1.2.2 35 (i + g) = _
              rw [g3 35 (by omega)]
            · show A1.2.1 36 (i + g) = _
              rw [g2 36 (by omega)]
          · rw [upI_o (by omega), upF_o (by omega), upD_o (by omega)]
            exact g5 g (by omega))
    rw [cl_s e2]
    refine SM_ret rfl (h.sheet (fun c hc => rfl) (fun c hc => ?_) fun t ht => ?_)
    · rw [l1 c (by omega), k1 c (by omega)]
    · by_cases q : t = b
      · subst q
        refine Sh.rel (so := so2) (n := n2) ⟨hS2.1, hS2.2.1, ?_, ?_, hS2.2.2.2.2.1, hn2, hS2.2.2.2.2.2.2.1, fun g hg => ?_⟩
        · rw [l1 17 (by omega), k1 17 (by omega)]; exact hS2.2.2.1
        · rw [l1 18 (by omega), k1 18 (by omega)]; exact hS2.2.2.2.1
        · have er : (rwD A (60 + t) (va_cpy (A.2.1 (60 + a)) (A.2.1 (60 + t)) i j m)).2.1 (60 + t) g = va_cpy (A.2.1 (60 + a)) (A.2.1 (60 + t)) i j m g := by
            simp [rwD, va_up]
          rw [er]
          unfold va_cpy
          by_cases y : j ≤ g ∧ g < j + m
          · rw [if_pos y]
            obtain ⟨r1, r2, r3⟩ := l5 (g - j) (by omega)
            rw [show j + (g - j) = g by omega] at r1 r2 r3
            obtain ⟨s1, s2, s3⟩ := k4 (i + (g - j)) (by omega)
            rw [r1, r2, r3, s1, s2, s3, ← zz]
            exact hS.2.2.2.2.2.2.2 (i + (g - j)) (by omega)
          · rw [if_neg y]
            obtain ⟨r1, r2, r3⟩ := l4 g (by omega)
            rw [r1, r2, r3, k1 _ (by omega), k2 _ (by omega), k3 _ (by omega)]
            exact hS2.2.2.2.2.2.2.2 g hg
      · refine (h.2.2.2.2 t ht).to rfl ?_ ?_ ?_ ?_ ?_ ?_
        · show va_up A.2.1 (60 + b) _ (60 + t) = _
          unfold va_up
          rw [if_neg (show ¬ 60 + t = 60 + b by omega)]
        · rw [l1 17 (by omega), k1 17 (by omega)]
        · rw [l1 18 (by omega), k1 18 (by omega)]
        · rw [l1 _ (by omega), k1 _ (by omega)]
        · rw [l3 _ (by omega), k3 _ (by omega)]
        · rw [l2 _ (by omega), k2 _ (by omega)]
  · have fail5 : SM (cl2 (f_X5_finding 0 A) fun r A2 => some (r, A2)) (cl2 (f_X6_finds 0 B) fun r A2 => some (r, A2)) := SM_find h 0 (by decide)
    have left : ∀ (X : Option (Int32 × St)), (if bI (decide ((0 : Int) ≤ x2.toInt ∧ (0 : Int) ≤ x5.toInt ∧ x2.toInt + x5.toInt ≤ n)) = 0 then cl2 (f_X5_finding 0 A) fun r A2 => some (r, A2) else if bI (decide ((0 : Int) ≤ x4.toInt ∧ (0 : Int) ≤ x5.toInt ∧ x4.toInt + x5.toInt ≤ n2)) = 0 then cl2 (f_X5_finding 0 A) fun r A2 => some (r, A2) else X) = cl2 (f_X5_finding 0 A) fun r A2 => some (r, A2) := fun X => by
      by_cases y : (0 : Int) ≤ x2.toInt ∧ (0 : Int) ≤ x5.toInt ∧ x2.toInt + x5.toInt ≤ n
      · rw [decide_eq_true y, if_neg (show ¬ bI true = 0 by decide), decide_eq_false (fun w => C ⟨y, w⟩), if_pos (show bI false = 0 by decide)]
      · rw [decide_eq_false y, if_pos (show bI false = 0 by decide)]
    rw [left]
    by_cases y1 : x2 < 0
    · rw [if_pos y1]; exact fail5
    rw [if_neg y1]
    by_cases y2 : x4 < 0
    · rw [if_pos y2]; exact fail5
    rw [if_neg y2]
    by_cases y3 : x5 < 0
    · rw [if_pos y3]; exact fail5
    rw [if_neg y3]
    by_cases y4 : 0 < lg_cmp (x2.toInt64 + x5.toInt64) (nI n).toInt64
    · rw [if_pos y4]; exact fail5
    rw [if_neg y4, if_neg (fun w => C ?_)]
    · exact fail5
    · have w1 := fun q => y1 ((fa_lt x2 0).mpr q)
      have w2 := fun q => y2 ((fa_lt x4 0).mpr q)
      have w3 := fun q => y3 ((fa_lt x5 0).mpr q)
      have w4 := fun q => y4 (c1.mpr q)
      have w5 := c2.mp w
      have v1 := Int.not_lt.mp w1
      have v2 := Int.not_lt.mp w2
      have v3 := Int.not_lt.mp w3
      have v4 := Int.not_lt.mp w4
      rw [p0] at v1 v2 v3
      exact ⟨⟨v1, v3, v4⟩, v2, v3, w5⟩
