theorem SM_table {A B : St} (h : Rel A B) (x1 x2 x3 x4 : Int32) : SM (f_X5_table x1 x2 x3 x4 A) (f_X6_table x1 x2 x3 x4 B) := by
  have h0 := h
  obtain ⟨⟨k, hb⟩, _⟩ := h0
  unfold f_X5_table f_X6_table
  refine SM_chk (four_eq x1) (four_eq6 x1) (fun _ => SM_find h 0 (by decide)) fun q1 => ?_
  refine SM_chk (has_eq hb x2) (isItem_eq hb x2) (fun _ => SM_find h 0 (by decide)) fun q2 => ?_
  refine SM_chk (abil_eq x3) (abil_eq6 x3) (fun _ => SM_find h 0 (by decide)) fun q3 => ?_
  refine SM_chk (abil_eq x4) (abil_eq6 x4) (fun _ => SM_find h 0 (by decide)) fun q4 => ?_
  obtain ⟨s, hs, rfl⟩ := nat_of (M := 3) q1.1 q1.2
  obtain ⟨m, hm, rfl⟩ := item_of q2
  obtain ⟨so, n, hS⟩ := h.sh (s := s) (by omega)
  have hn := hS.2.2.2.2.2.1
  simp (disch := omega) only [gI_ok, nIc]
  rw [cl_s (miss_eq hS), hS.2.2.1]
  by_cases z : so = -1
  · rw [decide_eq_true z, if_neg (show ¬ bI true = 0 by decide), if_neg (show ¬ 0 ≤ so by rw [z]; decide)]
    exact SM_find h 5 (by decide)
  · rw [decide_eq_false z, if_pos (show bI false = 0 by decide), if_pos (hS.sorts z).2.1]
    obtain ⟨r, p, e1, e2, e3⟩ := loop2 (b := fun t : Int32 × Int32 × St => f_X5_table_L63 (nI s) (nI m) x4 t.1 t.2.1 t.2.2) (c := fun t : Int32 × St => f_X6_table_L54 (nI s) (nI m) x3 x4 t.1 t.2) (s := (x3, 0, A)) (t := (0, B)) (fun i s t => s.1 = x3 + nI i * x4 ∧ s.2.1 = nI i ∧ t.1 = nI i ∧ Rel s.2.2 t.2 ∧ s.2.2.1 = A.1) (fun r p => (∃ A2 B2, r = .inl A2 ∧ p = (nI n, B2) ∧ Rel A2 B2 ∧ A2.1 = A.1) ∨ ∃ x A2 B2, r = .inr (x, A2) ∧ p = (x, B2) ∧ Rel A2 B2) n ⟨by rw [nI_0, Int32.zero_mul, Int32.add_zero], rfl, rfl, h, rfl⟩ (by
      rintro i ⟨v, x, A1⟩ ⟨y, B1⟩ hi ⟨ev, rfl, rfl, hR, eA⟩
      dsimp only at ev hR eA ⊢
      unfold f_X5_table_L63 f_X6_table_L54
      have T := hR.sh_at (s := s) (so := so) (n := n) (by omega) (by rw [eA]; exact hS.1) (by rw [eA]; exact hS.2.1) hn
      simp (disch := omega) only [gI_ok, nIc]
      rw [T.2.1, T.2.2.2.1, ← ev]
      by_cases hin : i = n
      · subst hin
        rw [if_pos (Int32.le_refl _), if_pos (Int32.le_refl _)]
        exact Or.inr ⟨_, _, rfl, rfl, Or.inl ⟨_, _, rfl, rfl, hR, eA⟩⟩
      · have hi2 : i < n := by omega
        rw [if_neg (show ¬ nI n ≤ nI i from nI_ge hi2 (by omega)), if_neg (show ¬ nI n ≤ nI i from nI_ge hi2 (by omega)), cl_s (abil_eq v), cl_s (abil_eq6 v)]
        by_cases y : (-64 : Int) ≤ v.toInt ∧ v.toInt ≤ 64
        · rw [decide_eq_true y, if_neg (show ¬ bI true = 0 by decide), if_neg (show ¬ bI true = 0 by decide)]
          have hbA : bankRel 3 1 k A1 B1 := by
            obtain ⟨k2, hb2⟩ := hR.1
            have : k2 = k := (nI_eq (by have := hb2.1; omega) (by have := hb.1; omega)).mp (hb2.2.1.symm.trans (by rw [eA]; exact hb.2.1))
            subst this
            exact hb2
          obtain ⟨d, t1, t2, md, nd⟩ := tells_both hbA hm y
          have od : okDb d := okDb_of (md.le (by decide))
          have ei : nI i + 1 = nI (i + 1) := nI_1 i
          rw [cl_s t1, cl_s t2, cl_s (put_eq T.1 (by omega) od), cl_s (comesD_eq (by omega) T.2.2.1 (by omega) od)]
          simp only [bv_i, ei]
          refine Or.inl ⟨_, _, rfl, rfl, hi2, ?_, rfl, rfl, (hR.putS (by omega) T hi2 (num_double od)).1, eA⟩
          show v + x4 = _
          rw [ev, nI_succ, Int32.add_mul, Int32.one_mul, Int32.add_assoc]
        · rw [decide_eq_false y, if_pos (show bI false = 0 by decide), if_pos (show bI false = 0 by decide)]
          exact Or.inr ⟨_, _, rfl, rfl, Or.inr ⟨_, _, _, rfl, rfl, hR⟩⟩)
    rw [cl_s e1, cl_s e2]
    rcases e3 with ⟨A2, B2, rfl, rfl, hR, eA⟩ | ⟨x, A2, B2, rfl, rfl, hR⟩
    · show SM (f_X5_table_X122 A2 (nI s)) (f_X6_table_X103 B2 (nI n))
      unfold f_X5_table_X122 f_X6_table_X103
      simp (disch := omega) only [gI_ok, nIc]
      exact SM_ret (by rw [eA]; exact hS.2.1) hR
    · exact SM_ret rfl hR
theorem zero_rows : FP.i2d 0 = FP.dconst0 ∧ FP.f2d FP.fconst0 = FP.dconst0 := by decide +kernel
theorem num_zero (so : Int32) : numRel so FP.dconst0 0 FP.fconst0 FP.dconst0 := ⟨fun _ => zero_rows.1.symm, fun _ => ⟨zero_rows.2.symm, by unfold okFl; decide⟩, fun _ => ⟨rfl, by unfold okDb; decide⟩⟩
/-- a sheet begun anew, on both sides -/
theorem newS {A B : St} (h : Rel A B) {s n : Nat} {so : Int32} (hs : s < 4) (hn : n ≤ 40) (hso : so = -1 ∨ so = 0 ∨ so = 1 ∨ so = 2) (hz : so = -1 → n = 0) : ∃ A2 B2, f_X3_become s so (nI n) A = some A2 ∧ loop (fun t : Int32 × St => f_X6_sheet_L83 (nI s) t.1 t.2) (0, upI (upI B 17 s so) 18 s (nI n)) = some B2 ∧ Rel A2 B2 ∧ B2.1 18 s = nI n := by
  unfold f_X3_become
  simp only [bv_i]
  obtain ⟨A2, e1, g1, g2, g3, g4⟩ := loop1 (b := fun t : Int32 × St => f_X3_become_L12 s t.1 t.2) (s := (0, upI (upI A (56 + s) 0 so) (56 + s) 1 (nI n))) (fun i t => t.1 = nI i ∧ t.2.1 = (upI (upI A (56 + s) 0 so) (56 + s) 1 (nI n)).1 ∧ (∀ c, c ≠ 60 + s → t.2.2.1 c = A.2.1 c) ∧ t.2.2.2 = A.2.2 ∧ ∀ j, j < i → t.2.2.1 (60 + s) j = FP.dconst0) (fun t => t.1 = (upI (upI A (56 + s) 0 so) (56 + s) 1 (nI n)).1 ∧ (∀ c, c ≠ 60 + s → t.2.1 c = A.2.1 c) ∧ t.2.2 = A.2.2 ∧ ∀ j, j < 40 → t.2.1 (60 + s) j = FP.dconst0) 40 ⟨rfl, rfl, fun _ _ => rfl, rfl, fun j hj => absurd hj (by omega)⟩ (by
    rintro i ⟨x, A1⟩ hi ⟨rfl, g1, g2, g3, g4⟩
    dsimp only at g1 g2 g3 g4 ⊢
    unfold f_X3_become_L12
    by_cases hin : i = 40
    · subst hin
      rw [if_pos (show 40 ≤ nI 40 by decide)]
      exact Or.inr ⟨_, rfl, g1, g2, g3, g4⟩
    · have ei : nI i + 1 = nI (i + 1) := nI_1 i
      rw [if_neg (show ¬ 40 ≤ nI i from nI_ge (b := 40) (by omega) (by decide))]
      simp (disch := omega) only [gI_ok, nIc, bv_i, ei]
      refine Or.inl ⟨_, rfl, by omega, rfl, g1, fun c hc => ?_, g3, fun j hj => ?_⟩
      · rw [upD_r hc]; exact g2 c hc
      · by_cases q : j = i
        · subst q; exact upD_s _ _ _ _
        · rw [upD_o (by omega)]; exact g4 j (by omega))
  obtain ⟨B2, e2, k1, k2, k3, k4⟩ := loop1 (b := fun t : Int32 × St => f_X6_sheet_L83 (nI s) t.1 t.2) (s := (0, upI (upI B 17 s so) 18 s (nI n))) (fun i t => t.1 = nI i ∧ (∀ c, c ≠ 20 + s → t.2.1 c = (upI (upI B 17 s so) 18 s (nI n)).1 c) ∧ (∀ c, c ≠ 30 + s → t.2.2.1 c = B.2.1 c) ∧ (∀ c, c ≠ 25 + s → t.2.2.2 c = B.2.2 c) ∧ ∀ j, j < i → t.2.1 (20 + s) j = 0 ∧ t.2.2.2 (25 + s) j = FP.fconst0 ∧ t.2.2.1 (30 + s) j = FP.dconst0) (fun t => (∀ c, c ≠ 20 + s → t.1 c = (upI (upI B 17 s so) 18 s (nI n)).1 c) ∧ (∀ c, c ≠ 30 + s → t.2.1 c = B.2.1 c) ∧ (∀ c, c ≠ 25 + s → t.2.2 c = B.2.2 c) ∧ ∀ j, j < 40 → t.1 (20 + s) j = 0 ∧ t.2.2 (25 + s) j = FP.fconst0 ∧ t.2.1 (30 + s) j = FP.dconst0) 40 ⟨rfl, fun _ _ => rfl, fun _ _ => rfl, fun _ _ => rfl, fun j hj => absurd hj (by omega)⟩ (by
    rintro i ⟨x, A1⟩ hi ⟨rfl, g1, g2, g3, g4⟩
    dsimp only at g1 g2 g3 g4 ⊢
    unfold f_X6_sheet_L83
    by_cases hin : i = 40
    · subst hin
      rw [if_pos (show 40 ≤ nI 40 by decide)]
      exact Or.inr ⟨_, rfl, g1, g2, g3, g4⟩
    · have ei : nI i + 1 = nI (i + 1) := nI_1 i
      rw [if_neg (show ¬ 40 ≤ nI i from nI_ge (b := 40) (by omega) (by decide))]
      simp (disch := omega) only [gI_ok, nIc, bv_i, ei]
      refine Or.inl ⟨_, rfl, by omega, rfl, fun c hc => ?_, fun c hc => ?_, fun c hc => ?_, fun j hj => ?_⟩
      · rw [upD_1, upF_1, upI_r hc]; exact g1 c hc
      · rw [upD_r hc]; exact g2 c hc
      · rw [upD_2, upF_r hc]; exact g3 c hc
      · rw [upD_1, upF_1, upD_2]
        by_cases q : j = i
        · subst q
          rw [upI_s, upF_s, upD_s]
          exact ⟨rfl, rfl, rfl⟩
        · rw [upI_o (by omega), upF_o (by omega), upD_o (by omega)]
          exact g4 j (by omega))
  rw [cl_s e1]
  have hB18 : B2.1 18 s = nI n := by rw [k1 18 (by omega), upI_s]
  refine ⟨A2, B2, rfl, e2, h.sheet (fun c hc => ?_) (fun c hc => ?_) fun t ht => ?_, hB18⟩
  · rw [g1, upI_r (by omega), upI_r (by omega)]
  · rw [k1 c (by omega), upI_r (by omega), upI_r (by omega)]
  · by_cases q : t = s
    · subst q
      refine Sh.rel (so := so) (n := n) ⟨?_, ?_, ?_, hB18, hso, hn, hz, fun j hj => ?_⟩
      · rw [g1, upI_o (by omega), upI_s]
      · rw [g1, upI_s]
      · rw [k1 17 (by omega), upI_o (by omega), upI_s]
      · obtain ⟨r1, r2, r3⟩ := k4 j (by omega)
        rw [g4 j (by omega), r1, r2, r3]
        exact num_zero so
    · obtain ⟨o1, o2, o3, n2, o4, o5, o6, o7⟩ := h.2.2.2.2 t ht
      unfold sheetRel
      rw [g1, upI_r (by omega), upI_r (by omega), k1 17 (by omega), k1 18 (by omega), upI_o (show (17 : Nat) ≠ 18 ∨ t ≠ s by omega), upI_o (show (17 : Nat) ≠ 17 ∨ t ≠ s by omega), upI_o (show (18 : Nat) ≠ 18 ∨ t ≠ s by omega), upI_o (show (18 : Nat) ≠ 17 ∨ t ≠ s by omega), g2 _ (by omega), k1 _ (by omega), k2 _ (by omega), k3 _ (by omega), upI_r (by omega), upI_r (by omega)]
      exact ⟨o1, o2, o3, n2, o4, o5, o6, o7⟩
theorem SM_sheet {A B : St} (h : Rel A B) (x1 x2 x3 : Int32) : SM (f_X5_sheet x1 x2 x3 A) (f_X6_sheet x1 x2 x3 B) := by
  unfold f_X5_sheet f_X6_sheet
  refine SM_chk (four_eq x1) (four_eq6 x1) (fun _ => SM_find h 0 (by decide)) fun q1 => ?_
  refine SM_chk (within_eq x2 (-1) 2) (in_eq x2 (-1) 2) (fun _ => SM_find h 0 (by decide)) fun q2 => ?_
  obtain ⟨s, hs, rfl⟩ := nat_of (M := 3) q1.1 q1.2
  simp (disch := omega) only [gI_ok, nIc, bv_i]
  have m1 : (-1 : Int32).toInt = -1 := rfl
  have p2 : (2 : Int32).toInt = 2 := rfl
  have p0 : (0 : Int32).toInt = 0 := rfl
  by_cases z : x2 = -1
  · subst z
    rw [if_pos rfl, if_pos (show (-1 : Int32) < 0 by decide), if_pos (show (-1 : Int32) < 0 by decide), if_neg (show ¬ (0 : Int32) ≤ -1 by decide)]
    obtain ⟨A2, B2, e1, e2, hR, e3⟩ := newS h (s := s) (n := 0) (so := -1) (by omega) (by omega) (Or.inl rfl) (fun _ => rfl)
    have e1' : f_X3_become s (-1) 0 A = some A2 := e1
    have e2' : loop (fun t : Int32 × St => f_X6_sheet_L83 (nI s) t.1 t.2) (0, upI (upI B 17 s (-1)) 18 s 0) = some B2 := e2
    rw [cl_s e1', cl_s e2']
    unfold f_X6_sheet_X126
    simp (disch := omega) only [gI_ok, nIc]
    exact SM_ret e3.symm hR
  · have z1 : x2.toInt ≠ -1 := fun y => z (Int32.toInt_inj.mp (by rw [y, m1]))
    have z2 : ¬ x2 < 0 := fun y => by have := (fa_lt _ _).mp y; omega
    have z3 : 0 ≤ x2 := fa_of_nlt z2
    rw [if_neg z, if_neg z2]
    by_cases y : 0 ≤ x3
    · rw [if_pos y, if_pos y, if_neg z2]
      by_cases w : x3 ≤ 40
      · rw [if_pos w, if_pos w, if_pos z3]
        obtain ⟨n, hn, rfl⟩ := nat_of (x := x3) (M := 40) ((fa_le _ _).mp y) ((fa_le _ _).mp w)
        have hso : x2 = -1 ∨ x2 = 0 ∨ x2 = 1 ∨ x2 = 2 := by
          have hc : x2.toInt = 0 ∨ x2.toInt = 1 ∨ x2.toInt = 2 := by omega
          rcases hc with c | c | c
          · exact Or.inr (Or.inl (Int32.toInt_inj.mp c))
          · exact Or.inr (Or.inr (Or.inl (Int32.toInt_inj.mp c)))
          · exact Or.inr (Or.inr (Or.inr (Int32.toInt_inj.mp c)))
        obtain ⟨A2, B2, e1, e2, hR, e3⟩ := newS h (s := s) (n := n) (so := x2) (by omega) hn hso (fun c => absurd c z)
        rw [cl_s e1, cl_s e2]
        unfold f_X6_sheet_X126
        simp (disch := omega) only [gI_ok, nIc]
        exact SM_ret e3.symm hR
      · rw [if_neg w, if_neg w]
        exact SM_find h 0 (by decide)
    · rw [if_neg y, if_neg y]
      exact SM_find h 6 (by decide)
