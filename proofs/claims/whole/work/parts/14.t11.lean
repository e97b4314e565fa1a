theorem Rel.sh_at {A B : St} (h : Rel A B) {s n : Nat} {so : Int32} (hs : s < 4) (h1 : A.1 (56 + s) 0 = so) (h2 : A.1 (56 + s) 1 = nI n) (hn : n ≤ 40) : Sh A B s so n := by
  obtain ⟨so2, n2, hS⟩ := h.sh hs
  have e1 : so2 = so := hS.1.symm.trans h1
  have e2 : n2 = n := (nI_eq (by have := hS.2.2.2.2.2.1; omega) (by omega)).mp (hS.2.1.symm.trans h2)
  subst e1 e2
  exact hS
theorem hasS_eq {A B : St} {s n : Nat} {so : Int32} (hS : Sh A B s so n) (x : Int32) : f_X3_has s x A = some (decide ((0 : Int) ≤ x.toInt ∧ x.toInt ≤ (n : Int) - 1)) := by
  have hn := hS.2.2.2.2.2.1
  unfold f_X3_has
  rw [hS.2.1]
  have z : (0 : Int32).toInt = 0 := rfl
  have e := nIt (n := n) (by omega)
  by_cases h1 : x.toInt < 0
  · rw [if_pos ((fa_lt _ _).mpr h1), decide_eq_false (by omega)]
  · rw [if_neg (fun q => h1 ((fa_lt _ _).mp q))]
    by_cases h2 : (n : Int) ≤ x.toInt
    · rw [if_pos ((fa_le _ _).mpr (by omega)), decide_eq_false (by omega)]
    · rw [if_neg (fun q => h2 (by have := (fa_le _ _).mp q; omega)), decide_eq_true (by omega)]
/-- why a place isn't one -/
theorem why_eq {A B : St} {s n : Nat} {so : Int32} (hs : s < 4) (hS : Sh A B s so n) (x : Int32) : f_X6_whyNoPlace (nI s) x B = some (if so = -1 then 5 else if (0 : Int) ≤ x.toInt ∧ x.toInt ≤ (n : Int) - 1 then -1 else 0) := by
  have hn := hS.2.2.2.2.2.1
  unfold f_X6_whyNoPlace
  rw [four_eq6, cl_i, decide_eq_true (show (0 : Int) ≤ (nI s).toInt ∧ (nI s).toInt ≤ 3 by rw [nIt (by omega)]; omega), if_neg (by decide)]
  simp (disch := omega) only [gI_ok, nIc]
  rw [hS.2.2.1, hS.2.2.2.1]
  by_cases z : so = -1
  · rw [if_pos z, if_neg (by rw [z]; decide)]
  · rw [if_neg z, if_pos (hS.sorts z).2.1, in_eqL, cl_i, Int32.toInt_toInt64, Int32.toInt_toInt64, show (nI n - 1).toInt = (n : Int) - 1 from pk_sub_toInt (b := 1) (by omega) (by omega), show (0 : Int64).toInt = 0 from rfl]
    by_cases y : (0 : Int) ≤ x.toInt ∧ x.toInt ≤ (n : Int) - 1
    · rw [if_pos y, decide_eq_true y, if_neg (by decide)]
    · rw [if_neg y, decide_eq_false y, if_pos (by decide)]
theorem why_no {B : St} {x y : Int32} (h : ¬ ((0 : Int) ≤ x.toInt ∧ x.toInt ≤ 3)) : f_X6_whyNoPlace x y B = some 0 := by
  unfold f_X6_whyNoPlace
  rw [four_eq6, cl_i, decide_eq_false h, if_pos (by decide)]
theorem eig_f (x : Int32) : Mf 158 (FP.fdiv (FP.i2f x) 1090519040) := Mf.div (L := 130) (K := 160) (FP.Core.i2f_mag x) (by decide) (by decide) (by decide) (by decide) (by decide)
theorem eig_d (x : Int32) : Md 1054 (FP.ddiv (FP.i2d x) 4620693217682128896) := Md.div (L := 1026) (K := 1056) (FP.Core.i2d_mag x) (by decide) (by decide) (by decide) (by decide) (by decide)
theorem eig_eq {A B : St} {s n : Nat} {so : Int32} (hS : Sh A B s so n) (x : Int32) : f_X3_eighths s x A = some (if so = 0 then FP.i2d x else if so = 1 then FP.f2d (FP.fdiv (FP.i2f x) 1090519040) else FP.ddiv (FP.i2d x) 4620693217682128896) := by
  unfold f_X3_eighths
  rw [hS.1]
  by_cases h0 : so = 0
  · rw [if_pos h0, if_pos h0]
  · rw [if_neg h0, if_neg h0]
    by_cases h1 : so = 1
    · rw [if_pos h1, if_pos h1, g32_fin ((eig_f x).fin (by decide)), g64_fin ((eig_f x).f2d (by decide) (by decide)).2]
    · rw [if_neg h1, if_neg h1, g64_fin ((eig_d x).fin (by decide))]
theorem SM_write {A B : St} (h : Rel A B) (x1 x2 x3 : Int32) : SM (f_X5_write x1 x2 x3 A) (f_X6_write x1 x2 x3 B) := by
  unfold f_X5_write f_X6_write
  rw [four_eq, cl_i]
  by_cases q1 : (0 : Int) ≤ x1.toInt ∧ x1.toInt ≤ 3
  · rw [decide_eq_true q1, if_neg (show ¬ bI true = 0 by decide)]
    obtain ⟨s, hs, rfl⟩ := nat_of (M := 3) q1.1 q1.2
    obtain ⟨so, n, hS⟩ := h.sh (s := s) (by omega)
    have hn := hS.2.2.2.2.2.1
    rw [cl_s (why_eq (by omega) hS x2)]
    simp (disch := omega) only [gI_ok, nIc]
    rw [cl_s (miss_eq hS), hS.2.2.1]
    by_cases z : so = -1
    · rw [decide_eq_true z, if_neg (show ¬ bI true = 0 by decide), if_pos z, if_neg (by decide)]
      exact SM_find h 5 (by decide)
    · rw [decide_eq_false z, if_pos (show bI false = 0 by decide), if_neg z, cl_s (hasS_eq hS x2)]
      by_cases y : (0 : Int) ≤ x2.toInt ∧ x2.toInt ≤ (n : Int) - 1
      · rw [decide_eq_true y, if_neg (show ¬ bI true = 0 by decide), if_pos y, if_pos (show (-1 : Int32) < 0 by decide)]
        obtain ⟨i, hi, rfl⟩ := item_of y
        rw [cl_s (eig_eq hS x3)]
        simp (disch := omega) only [gI_ok, nIc, bv_i]
        have fin : ∀ e : UInt64, okDb e → numRel so (cv so e) x3 (FP.fdiv (FP.i2f x3) 1090519040) (FP.ddiv (FP.i2d x3) 4620693217682128896) → SM (cl (f_X3_put s (nI i) e A) fun A22 => some ((1 : Int32), A22)) (some (1, putR so B s i x3 (FP.fdiv (FP.i2f x3) 1090519040) (FP.ddiv (FP.i2d x3) 4620693217682128896))) := fun e he hnum => by
          rw [cl_s (put_eq hS.1 (by omega) he)]
          exact SM_ret rfl (h.putS (by omega) hS hi hnum).1
        rcases (hS.sorts z).1 with w | w | w
        · subst w
          rw [if_pos rfl, if_pos rfl]
          have := fin (FP.i2d x3) (okDb_i2d x3) ⟨fun _ => (num_int x3).1 rfl, fun z => absurd z (by decide), fun z => absurd z (by decide)⟩
          unfold putR at this
          rw [if_pos rfl] at this
          exact this
        · subst w
          have hf : okFl (FP.fdiv (FP.i2f x3) 1090519040) := okFl_of ((eig_f x3).le (by decide))
          rw [if_neg (show ¬ (1 : Int32) = 0 by decide), if_pos rfl, if_neg (show ¬ (1 : Int32) = 0 by decide), if_pos rfl, g32_fin ((eig_f x3).fin (by decide))]
          have := fin _ (okDb_f2d hf) ⟨fun z => absurd z (by decide), fun _ => (num_float hf).2.1 rfl, fun z => absurd z (by decide)⟩
          unfold putR at this
          rw [if_neg (show ¬ (1 : Int32) = 0 by decide), if_pos rfl] at this
          exact this
        · subst w
          have hd : okDb (FP.ddiv (FP.i2d x3) 4620693217682128896) := okDb_of ((eig_d x3).le (by decide))
          rw [if_neg (show ¬ (2 : Int32) = 0 by decide), if_neg (show ¬ (2 : Int32) = 1 by decide), if_neg (show ¬ (2 : Int32) = 0 by decide), if_neg (show ¬ (2 : Int32) = 1 by decide), g64_fin ((eig_d x3).fin (by decide))]
          have := fin _ hd ⟨fun z => absurd z (by decide), fun z => absurd z (by decide), fun _ => (num_double hd).2.2 rfl⟩
          unfold putR at this
          rw [if_neg (show ¬ (2 : Int32) = 0 by decide), if_neg (show ¬ (2 : Int32) = 1 by decide)] at this
          exact this
      · rw [decide_eq_false y, if_pos (show bI false = 0 by decide), if_neg y, if_neg (show ¬ (0 : Int32) < 0 by decide)]
        exact SM_find h 0 (by decide)
  · rw [decide_eq_false q1, if_pos (show bI false = 0 by decide), cl_s (why_no q1), if_neg (show ¬ (0 : Int32) < 0 by decide)]
    exact SM_find h 0 (by decide)
theorem d2l_i2d (x : Int32) : FP.d2l (FP.i2d x) = x.toInt64 := by
  show FP.Core.d2l (FP.Core.i2d x) = _
  rw [FP.Core.i2d_l2d]
  refine FP.Core.d2l_l2d ?_
  have := FP.Core.int32_abs x
  rw [Int32.toInt_toInt64]
  omega
theorem SM_item {A B : St} (h : Rel A B) (x1 x2 : Int32) : SM (f_X5_item x1 x2 A) (f_X6_item x1 x2 B) := by
  unfold f_X5_item f_X6_item
  rw [four_eq, cl_i]
  by_cases q1 : (0 : Int) ≤ x1.toInt ∧ x1.toInt ≤ 3
  · rw [decide_eq_true q1, if_neg (show ¬ bI true = 0 by decide)]
    obtain ⟨s, hs, rfl⟩ := nat_of (M := 3) q1.1 q1.2
    obtain ⟨so, n, hS⟩ := h.sh (s := s) (by omega)
    have hn := hS.2.2.2.2.2.1
    rw [cl_s (why_eq (by omega) hS x2)]
    simp (disch := omega) only [gI_ok, nIc]
    rw [cl_s (miss_eq hS), hS.2.2.1]
    by_cases z : so = -1
    · rw [decide_eq_true z, if_neg (show ¬ bI true = 0 by decide), if_pos z, if_neg (by decide)]
      exact SM_findL h 5 (by decide)
    · rw [decide_eq_false z, if_pos (show bI false = 0 by decide), if_neg z, cl_s (hasS_eq hS x2)]
      by_cases y : (0 : Int) ≤ x2.toInt ∧ x2.toInt ≤ (n : Int) - 1
      · rw [decide_eq_true y, if_neg (show ¬ bI true = 0 by decide), if_pos y, if_pos (show (-1 : Int32) < 0 by decide)]
        obtain ⟨i, hi, rfl⟩ := item_of y
        have o := hS.2.2.2.2.2.2.2 i hi
        unfold f_X3_bitsAt
        rw [hS.1]
        simp (disch := omega) only [gI_ok, nIc]
        rcases (hS.sorts z).1 with w | w | w
        · subst w
          rw [if_pos rfl, if_pos rfl, cl_i, o.1 rfl, d2l_i2d]
          exact SM_ret rfl h
        · subst w
          obtain ⟨o1, o2⟩ := o.2.1 rfl
          have ff := o2.mf.fin (by decide)
          rw [if_neg (show ¬ (1 : Int32) = 0 by decide), if_pos rfl, if_neg (show ¬ (1 : Int32) = 0 by decide), if_pos rfl, o1, d2f_f2d' ff, g32_fin ff, cl_s (bits_float ff), cl_i, cl_s (int_bits ff)]
          exact SM_ret rfl h
        · subst w
          obtain ⟨o1, o2⟩ := o.2.2 rfl
          have ff := o2.md.fin (by decide)
          rw [if_neg (show ¬ (2 : Int32) = 0 by decide), if_neg (show ¬ (2 : Int32) = 1 by decide), if_neg (show ¬ (2 : Int32) = 0 by decide), if_neg (show ¬ (2 : Int32) = 1 by decide), o1, cl_s (bits_double ff), cl_i, cl_s (long_bits ff)]
          exact SM_ret rfl h
      · rw [decide_eq_false y, if_pos (show bI false = 0 by decide), if_neg y, if_neg (show ¬ (0 : Int32) < 0 by decide)]
        exact SM_findL h 0 (by decide)
  · rw [decide_eq_false q1, if_pos (show bI false = 0 by decide), cl_s (why_no q1), if_neg (show ¬ (0 : Int32) < 0 by decide)]
    exact SM_findL h 0 (by decide)
theorem SM_sum {A B : St} (h : Rel A B) (x1 : Int32) : SM (f_X5_sum x1 A) (f_X6_sum x1 B) := by
  unfold f_X5_sum f_X6_sum
  refine SM_chk (four_eq x1) (four_eq6 x1) (fun _ => SM_findL h 0 (by decide)) fun q1 => ?_
  obtain ⟨s, hs, rfl⟩ := nat_of (M := 3) q1.1 q1.2
  obtain ⟨so, n, hS⟩ := h.sh (s := s) (by omega)
  have hn := hS.2.2.2.2.2.1
  simp (disch := omega) only [gI_ok, nIc, bv_i]
  rw [cl_s (miss_eq hS), hS.2.2.1]
  by_cases z : so = -1
  · rw [decide_eq_true z, if_neg (show ¬ bI true = 0 by decide), if_neg (by rw [z]; decide)]
    exact SM_findL h 5 (by decide)
  · rw [decide_eq_false z, if_pos (show bI false = 0 by decide), if_pos (hS.sorts z).2.1]
    obtain ⟨r, p, e1, e2, e3, e4⟩ := loop2 (b := fun t : UInt64 × Int32 => f_X5_sum_L36 A (nI s) t.1 t.2) (c := fun t : UInt64 × Int32 => f_X6_sum_L33 B (nI s) t.1 t.2) (s := (FP.dconst0, 0)) (t := (FP.dconst0, 0)) (fun i s t => s = t ∧ s.2 = nI i ∧ Md (1064 + 2 * i) s.1) (fun r p => r = p ∧ Md 1200 r) n ⟨rfl, rfl, md_zero.le (by decide)⟩ (by
      rintro i ⟨v, x⟩ t hi ⟨rfl, rfl, mv⟩
      dsimp only at mv ⊢
      unfold f_X5_sum_L36 f_X6_sum_L33
      simp (disch := omega) only [gI_ok, nIc]
      rw [hS.2.1, hS.2.2.2.1, hS.2.2.1]
      by_cases hin : i = n
      · subst hin
        rw [if_pos (Int32.le_refl _), if_pos (Int32.le_refl _)]
        exact Or.inr ⟨_, _, rfl, rfl, rfl, mv.le (by omega)⟩
      · have hi2 : i < n := by omega
        have ei : nI i + 1 = nI (i + 1) := nI_1 i
        have o := hS.2.2.2.2.2.2.2 i hi2
        have od := (num_ok o (hS.sorts z).1).md
        have ms : Md (1064 + 2 * (i + 1)) (FP.dadd v (A.2.1 (60 + s) i)) := mv.add (od.le (by omega)) (by omega) (by omega)
        rw [if_neg (show ¬ nI n ≤ nI i from nI_ge hi2 (by omega)), if_neg (show ¬ nI n ≤ nI i from nI_ge hi2 (by omega))]
        simp (disch := omega) only [gI_ok, nIc, bv_i, ei]
        rw [g64_fin (ms.fin (by omega))]
        rcases (hS.sorts z).1 with w | w | w
        · subst w
          rw [if_pos rfl, ← o.1 rfl, g64_fin (ms.fin (by omega))]
          exact Or.inl ⟨_, _, rfl, rfl, hi2, rfl, rfl, ms⟩
        · subst w
          obtain ⟨o1, o2⟩ := o.2.1 rfl
          rw [if_neg (show ¬ (1 : Int32) = 0 by decide), if_pos rfl, ← o1, g64_fin (od.fin (by decide)), g64_fin (ms.fin (by omega))]
          exact Or.inl ⟨_, _, rfl, rfl, hi2, rfl, rfl, ms⟩
        · subst w
          obtain ⟨o1, o2⟩ := o.2.2 rfl
          rw [if_neg (show ¬ (2 : Int32) = 0 by decide), if_neg (show ¬ (2 : Int32) = 1 by decide), ← o1, g64_fin (ms.fin (by omega))]
          exact Or.inl ⟨_, _, rfl, rfl, hi2, rfl, rfl, ms⟩)
    subst e3
    rw [cl_s e1, cl_s e2]
    unfold f_X5_sum_X71 f_X6_sum_X107
    rw [cl_s (bits_double (e4.fin (by decide))), cl_s (long_bits (e4.fin (by decide)))]
    exact SM_ret rfl h
theorem SM_casts {A B : St} (h : Rel A B) (x1 x2 : Int32) : SM (f_X5_casts x1 x2 A) (f_X6_casts x1 x2 B) := by
  unfold f_X5_casts f_X6_casts
  refine SM_chk (four_eq x1) (four_eq6 x1) (fun _ => SM_find h 0 (by decide)) fun q1 => ?_
  refine SM_chk (four_eq x2) (four_eq6 x2) (fun _ => SM_find h 0 (by decide)) fun q2 => ?_
  obtain ⟨a, ha, rfl⟩ := nat_of (M := 3) q1.1 q1.2
  obtain ⟨b, hb, rfl⟩ := nat_of (M := 3) q2.1 q2.2
  obtain ⟨so, n, hS⟩ := h.sh (s := a) (by omega)
  obtain ⟨so2, n2, hS2⟩ := h.sh (s := b) (by omega)
  have hn := hS.2.2.2.2.2.1
  have hn2 := hS2.2.2.2.2.2.1
  simp (disch := omega) only [gI_ok, nIc]
  rw [cl_s (miss_eq hS), cl_s (miss_eq hS2), hS.2.2.1, hS2.2.2.1]
  by_cases z : so = -1
  · rw [decide_eq_true z, if_neg (show ¬ bI true = 0 by decide), if_pos (show so < 0 by rw [z]; decide)]
    exact SM_find h 5 (by decide)
  · rw [decide_eq_false z, if_pos (show bI false = 0 by decide), if_neg (hS.sorts z).2.2]
    by_cases z2 : so2 = -1
    · rw [decide_eq_true z2, if_neg (show ¬ bI true = 0 by decide), if_neg (show ¬ 0 ≤ so2 by rw [z2]; decide)]
      exact SM_find h 5 (by decide)
    · rw [decide_eq_false z2, if_pos (show bI false = 0 by decide), if_pos (hS2.sorts z2).2.1, hS.2.1, hS2.2.1, hS.2.2.2.1, hS2.2.2.2.1]
      have emin : f_J9_min_7cf53 (nI n) (nI n2) = some (nI (min n n2)) := by
        unfold f_J9_min_7cf53
        by_cases y : n2 < n
        · rw [if_pos (nI_lt y (by omega)), Nat.min_eq_right (by omega)]
        · rw [if_neg (nI_nlt (by omega) (by omega)), Nat.min_eq_left (by omega)]
      have hmin : min n n2 ≤ n ∧ min n n2 ≤ n2 := ⟨Nat.min_le_left _ _, Nat.min_le_right _ _⟩
      generalize min n n2 = N at emin hmin
      rw [cl_s emin, cl_s emin]
      obtain ⟨r, p, e1, e2, e3⟩ := loop2 (b := fun t : Int32 × St => f_X5_casts_L75 (nI a) (nI b) (nI N) t.1 t.2) (c := fun t : Int32 × St => f_X6_casts_L63 (nI a) (nI b) (nI N) t.1 t.2) (s := (0, A)) (t := (0, B)) (fun i s t => s.1 = nI i ∧ t.1 = nI i ∧ Rel s.2 t.2 ∧ s.2.1 = A.1) (fun r p => Rel r p) N ⟨rfl, rfl, h, rfl⟩ (by
        rintro i ⟨x, A1⟩ ⟨y, B1⟩ hi ⟨rfl, rfl, hR, eA⟩
        dsimp only at hR eA ⊢
        unfold f_X5_casts_L75 f_X6_casts_L63
        by_cases hin : i = N
        · subst hin
          rw [if_pos (Int32.le_refl _), if_pos (Int32.le_refl _)]
          exact Or.inr ⟨_, _, rfl, rfl, hR⟩
        · have hi2 : i < N := by omega
          have ei : nI i + 1 = nI (i + 1) := nI_1 i
          have T1 := hR.sh_at (s := a) (so := so) (by omega) (by rw [eA]; exact hS.1) (by rw [eA]; exact hS.2.1) hn
          have T2 := hR.sh_at (s := b) (so := so2) (by omega) (by rw [eA]; exact hS2.1) (by rw [eA]; exact hS2.2.1) hn2
          have o := T1.2.2.2.2.2.2.2 i (by omega)
          have od := num_ok o (hS.sorts z).1
          rw [if_neg (show ¬ nI N ≤ nI i from nI_ge hi2 (by omega)), if_neg (show ¬ nI N ≤ nI i from nI_ge hi2 (by omega))]
          simp (disch := omega) only [gI_ok, nIc, bv_i, ei]
          rw [cl_s (put_eq T2.1 (by omega) od), T1.2.2.1]
          rcases (hS.sorts z).1 with w | w | w
          · subst w
            rw [if_pos rfl, cl_s (comesI_eq (by omega) T2.2.2.1 (by omega) _), o.1 rfl]
            exact Or.inl ⟨_, _, rfl, rfl, hi2, rfl, rfl, (hR.putS (by omega) T2 (by omega) (num_int _)).1, eA⟩
          · subst w
            obtain ⟨o1, o2⟩ := o.2.1 rfl
            rw [if_neg (show ¬ (1 : Int32) = 0 by decide), if_pos rfl, cl_s (comesF_eq (by omega) T2.2.2.1 (by omega) o2), o1]
            exact Or.inl ⟨_, _, rfl, rfl, hi2, rfl, rfl, (hR.putS (by omega) T2 (by omega) (num_float o2)).1, eA⟩
          · subst w
            obtain ⟨o1, o2⟩ := o.2.2 rfl
            rw [if_neg (show ¬ (2 : Int32) = 0 by decide), if_neg (show ¬ (2 : Int32) = 1 by decide), cl_s (comesD_eq (by omega) T2.2.2.1 (by omega) o2), o1]
            exact Or.inl ⟨_, _, rfl, rfl, hi2, rfl, rfl, (hR.putS (by omega) T2 (by omega) (num_double o2)).1, eA⟩)
      rw [cl_s e1, cl_s e2]
      exact SM_ret rfl e3
