/-! Rests of a sheet. -/
theorem div_tab : ∀ n, n < 801 → 1 ≤ n → (4593671619917905920 ≤ (FP.i2d (nI n)).toNat ∧ (FP.i2d (nI n)).toNat < 2 ^ 63) ∧ (4593671619917905920 ≤ (FP.f2d (FP.fdiv (FP.i2f (nI n)) 1090519040)).toNat ∧ (FP.f2d (FP.fdiv (FP.i2f (nI n)) 1090519040)).toNat < 2 ^ 63) ∧ (4593671619917905920 ≤ (FP.ddiv (FP.i2d (nI n)) 4620693217682128896).toNat ∧ (FP.ddiv (FP.i2d (nI n)) 4620693217682128896).toNat < 2 ^ 63) := by decide +kernel
theorem dv8 : Dv 4593671619917905920 false (2 ^ 1071) := ⟨2 ^ 52, -55, by decide +kernel, by decide +kernel⟩
/-- a divisor -/
theorem divisor {e : UInt64} (fe : FP.Core.DFin e) (h1 : 4593671619917905920 ≤ e.toNat) (h2 : e.toNat < 2 ^ 63) : ∃ W, Dv e false W ∧ 2 ^ 1071 ≤ W := by
  obtain ⟨s, W, hD⟩ := Dv.ofFin fe
  have hs := hD.nn.mp h2
  subst hs
  refine ⟨W, hD, ?_⟩
  rw [← dv8.bits_le hD]
  rw [Nat.mod_eq_of_lt h2]
  exact h1
theorem rest_ok {d e : UInt64} {W : Nat} (hd : okDb d) (he : Dv e false W) (hW : 2 ^ 1071 ≤ W) : f_X2_rest d e = some (FP.drem d e) ∧ okDb (FP.drem d e) := by
  obtain ⟨s, Z, hD⟩ := Dv.ofFin (hd.md.fin (by decide))
  have hZ := (hD.md (by decide)).mp hd.md
  refine ⟨rest_eq hD he hW (Nat.lt_of_lt_of_le hZ (Nat.pow_le_pow_right (by decide) (by decide))), ?_⟩
  have hrem := hD.rem he (Nat.lt_of_lt_of_le (Nat.two_pow_pos 1071) hW)
  rw [okDb_iff]
  exact Nat.le_trans ((hrem.bits_le hD).mpr (Nat.mod_le _ _)) ((okDb_iff d).mp hd)
theorem tmod_eq (x : Int32) {v : Nat} (h1 : 1 ≤ v) (h2 : v < 801) : (x - x / nI v * nI v).toInt = FP.Core.signed (decide (x.toInt < 0)) (x.toInt.natAbs % v) := by
  obtain ⟨r1, r2⟩ := fb_rng x
  have ev := nIt (n := v) (by omega)
  have key : x.toInt.tdiv (v : Int) * v + FP.Core.signed (decide (x.toInt < 0)) (x.toInt.natAbs % v) = x.toInt ∧ (-2147483648 ≤ x.toInt.tdiv (v : Int) ∧ x.toInt.tdiv (v : Int) < 2147483648) ∧ (-2147483648 ≤ x.toInt.tdiv (v : Int) * v ∧ x.toInt.tdiv (v : Int) * v < 2147483648) := by
    generalize x.toInt = z at r1 r2
    by_cases hz : z < 0
    · obtain ⟨y, rfl⟩ : ∃ y : Nat, z = -(y : Int) := ⟨z.natAbs, by omega⟩
      rw [decide_eq_true hz, Int.neg_tdiv, show ((y : Int)).tdiv (v : Int) = ((y / v : Nat) : Int) from rfl, Int.natAbs_neg, Int.natAbs_natCast]
      unfold FP.Core.signed
      rw [if_pos rfl]
      have hm := Nat.div_add_mod y v
      have hle : y / v ≤ y := Nat.div_le_self _ _
      have hmul : v * (y / v) ≤ y := Nat.mul_div_le y v
      have e1 : -((y / v : Nat) : Int) * (v : Int) = -((v * (y / v) : Nat) : Int) := by
        rw [Int.neg_mul, Int.natCast_mul, Int.mul_comm]
      rw [e1]
      generalize v * (y / v) = P at hm hmul
      generalize y / v = D at hle
      generalize y % v = M at hm
      omega
    · obtain ⟨y, rfl⟩ : ∃ y : Nat, z = (y : Int) := ⟨z.natAbs, by omega⟩
      rw [decide_eq_false hz, show ((y : Int)).tdiv (v : Int) = ((y / v : Nat) : Int) from rfl, Int.natAbs_natCast]
      unfold FP.Core.signed
      rw [if_neg (by decide)]
      have hm := Nat.div_add_mod y v
      have hle : y / v ≤ y := Nat.div_le_self _ _
      have hmul : v * (y / v) ≤ y := Nat.mul_div_le y v
      have e1 : ((y / v : Nat) : Int) * (v : Int) = ((v * (y / v) : Nat) : Int) := by
        rw [Int.natCast_mul, Int.mul_comm]
      rw [e1]
      generalize v * (y / v) = P at hm hmul
      generalize y / v = D at hle
      generalize y % v = M at hm
      omega
  obtain ⟨k1, k2, k3⟩ := key
  have ed : (x / nI v).toInt = x.toInt.tdiv (v : Int) := by
    rw [Int32.toInt_div, ev, fb_bmod k2.1 k2.2]
  have em : (x / nI v * nI v).toInt = x.toInt.tdiv (v : Int) * v := by
    rw [fb_mulI (by rw [ed, ev]; exact k3.1) (by rw [ed, ev]; exact k3.2), ed, ev]
  have hb : FP.Core.signed (decide (x.toInt < 0)) (x.toInt.natAbs % v) = x.toInt - x.toInt.tdiv (v : Int) * v := by omega
  have hlt : x.toInt.natAbs % v < v := Nat.mod_lt _ (by omega)
  have hs : -(801 : Int) < FP.Core.signed (decide (x.toInt < 0)) (x.toInt.natAbs % v) ∧ FP.Core.signed (decide (x.toInt < 0)) (x.toInt.natAbs % v) < 801 := by
    by_cases z : x.toInt < 0
    · rw [decide_eq_true z]
      show -(801 : Int) < -(((x.toInt.natAbs % v : Nat)) : Int) ∧ -(((x.toInt.natAbs % v : Nat)) : Int) < 801
      omega
    · rw [decide_eq_false z]
      show -(801 : Int) < (((x.toInt.natAbs % v : Nat)) : Int) ∧ (((x.toInt.natAbs % v : Nat)) : Int) < 801
      omega
  rw [fb_subI (by rw [em]; omega) (by rw [em]; omega), em, hb]
/-- an int as a double -/
theorem Dv.int (x : Int32) : ∃ s, Dv (FP.i2d x) s (x.toInt.natAbs * 2 ^ 1074) ∧ (x.toInt ≠ 0 → s = decide (x.toInt < 0)) := by
  obtain ⟨s, Z, hD⟩ := Dv.ofFin (FP.Core.i2d_fin x)
  have h2 := FP.Core.DInt_zval (FP.Core.i2d_int x)
  rw [hD.zval] at h2
  have e : Z = x.toInt.natAbs * 2 ^ 1074 := by
    have := congrArg Int.natAbs h2
    rw [FP.Core.natAbs_signed, Int.natAbs_mul, Int.natAbs_natCast] at this
    exact this
  refine ⟨s, by rw [← e]; exact hD, fun hx => ?_⟩
  have hpos : (0 : Int) < (FP.Core.one64 : Int) := Int.natCast_pos.mpr FP.Core.one64_pos
  cases s
  · have : ¬ x.toInt < 0 := fun z => by
      have := Int.mul_neg_of_neg_of_pos z hpos
      rw [← h2] at this
      have h3 : FP.Core.signed false Z = ((Z : Nat) : Int) := rfl
      omega
    rw [decide_eq_false this]
  · have : x.toInt < 0 := by
      apply Classical.byContradiction
      intro z
      have := Int.mul_pos (show 0 < x.toInt by omega) hpos
      rw [← h2] at this
      have h3 : FP.Core.signed true Z = -((Z : Nat) : Int) := rfl
      omega
    rw [decide_eq_true this]
theorem rem_int (x : Int32) {v : Nat} (h1 : 1 ≤ v) (h2 : v < 801) : FP.d2i (FP.drem (FP.i2d x) (FP.i2d (nI v))) = x - x / nI v * nI v := by
  obtain ⟨s, hX, hs⟩ := Dv.int x
  obtain ⟨t, hV, ht⟩ := Dv.int (nI v)
  rw [nIt (by omega), Int.natAbs_natCast] at hV
  have hrem := hX.rem hV (Nat.mul_pos (by omega) (Nat.two_pow_pos _))
  rw [Nat.mul_mod_mul_right] at hrem
  obtain ⟨c', q', e1, e2⟩ := hrem
  apply Int32.toInt_inj.mp
  rw [tmod_eq x h1 h2, show (FP.d2i (FP.drem (FP.i2d x) (FP.i2d (nI v)))).toInt = _ from FP.Core.d2i_val (by rw [e1]; intro z; cases z), e1]
  unfold FP.Core.sgn FP.Core.zmag FP.Core.one64
  dsimp only
  rw [qmin64, e2, Nat.mul_div_cancel _ (Nat.two_pow_pos 1074)]
  have hlt : x.toInt.natAbs % v < v := Nat.mod_lt _ (by omega)
  by_cases z : x.toInt = 0
  · rw [z]
    simp [FP.Core.signed]
    cases s <;> rfl
  · rw [hs z]
    by_cases y : x.toInt < 0
    · rw [decide_eq_true y]
      show max (-2 ^ 31) (min (2 ^ 31 - 1) (-(((x.toInt.natAbs % v : Nat)) : Int))) = -(((x.toInt.natAbs % v : Nat)) : Int)
      omega
    · rw [decide_eq_false y]
      show max (-2 ^ 31) (min (2 ^ 31 - 1) ((((x.toInt.natAbs % v : Nat)) : Int))) = (((x.toInt.natAbs % v : Nat)) : Int)
      omega
theorem rem_float {f g : UInt32} (hf : okFl f) (fg : FP.Core.FFin g) {W : Nat} (hg : Dv (FP.f2d g) false W) (hW : 0 < W) : FP.drem (FP.f2d f) (FP.f2d g) = FP.f2d (FP.frem f g) ∧ okFl (FP.frem f g) := by
  obtain ⟨s, c, q, e⟩ := hf.mf.fin (by decide)
  obtain ⟨t, d, r, e2⟩ := fg
  have f1 := fit_q32 e
  have f2 := fit_q32 e2
  have hF := Dv.f2d e
  have hG := Dv.f2d e2
  have hd0 : d ≠ 0 := by
    intro z
    subst z
    obtain ⟨c1, q1, k1, k2⟩ := hg
    obtain ⟨c2, q2, k3, k4⟩ := hG
    rw [k1] at k3
    cases k3
    rw [k2, Nat.zero_mul] at k4
    omega
  obtain ⟨c', q', e3, e4⟩ := FP.Core.frem_exact e e2 hd0
  rw [qmin32] at e4
  unfold FP.Core.inUnits at e4
  rw [Int.sub_neg, Int.sub_neg, Int.sub_neg] at e4
  have f3 := fit_q32 e3
  have hR := Dv.f2d e3
  have hrem := hF.rem hG (Nat.mul_pos (by omega) (Nat.two_pow_pos _))
  have sc : ∀ {c : Nat} {q : Int}, -149 ≤ q → c * 2 ^ (q + 1074).toNat = c * 2 ^ (q + 149).toNat * 2 ^ 925 := fun {c q} hq => by
    rw [Nat.mul_assoc, ← Nat.pow_add, show (q + 149).toNat + 925 = (q + 1074).toNat by omega]
  rw [sc f1.1, sc f2.1, Nat.mul_mod_mul_right, ← e4, ← sc f3.1] at hrem
  refine ⟨hrem.inj hR, ?_⟩
  have hu : ∀ {x : UInt32} {s : Bool} {c : Nat} {q : Int}, FP.Core.val32 x = .fin s c q → FP.Core.unitsOf FP.Core.b32 (x.toNat % 2 ^ 31) = c * 2 ^ (q + 149).toNat := fun {x s c q} e => by
    rw [← FP.Core.zmag_toNat32 (by rw [e]; intro z; cases z), e]
    unfold FP.Core.zmag FP.Core.inUnits
    dsimp only
    rw [qmin32, Int.sub_neg]
  rw [okFl_iff]
  refine Nat.le_trans ?_ ((okFl_iff f).mp hf)
  rw [← FP.Core.unitsOf_le_iff (f := FP.Core.b32), hu e3, hu e, e4]
  exact Nat.mod_le _ _
theorem SM_rests {A B : St} (h : Rel A B) (x1 x2 : Int32) : SM (f_X5_rests x1 x2 A) (f_X6_rests x1 x2 B) := by
  unfold f_X5_rests f_X6_rests
  refine SM_chk (four_eq x1) (four_eq6 x1) (fun _ => SM_find h 0 (by decide)) fun q1 => ?_
  refine SM_chk (within_eq x2 1 800) (in_eq x2 1 800) (fun _ => SM_find h 0 (by decide)) fun q2 => ?_
  obtain ⟨s, hs, rfl⟩ := nat_of (M := 3) q1.1 q1.2
  have p1 : (1 : Int32).toInt = 1 := rfl
  obtain ⟨v, hv, rfl⟩ := nat_of (x := x2) (M := 800) (by omega) q2.2
  rw [nIt (by omega), p1] at q2
  obtain ⟨so, n, hS⟩ := h.sh (s := s) (by omega)
  have hn := hS.2.2.2.2.2.1
  obtain ⟨t1, t2, t3⟩ := div_tab v (by omega) (by omega)
  simp (disch := omega) only [gI_ok, nIc]
  rw [cl_s (miss_eq hS), hS.2.2.1]
  by_cases z : so = -1
  · rw [decide_eq_true z, if_neg (show ¬ bI true = 0 by decide), if_neg (show ¬ 0 ≤ so by rw [z]; decide)]
    exact SM_find h 5 (by decide)
  · rw [decide_eq_false z, if_pos (show bI false = 0 by decide), if_pos (hS.sorts z).2.1, cl_s (eig_eq hS (nI v))]
    obtain ⟨r, p, e1, e2, e3, e4⟩ := loop2 (b := fun t : Int32 × St => f_X5_rests_L56 (nI s) (if so = 0 then FP.i2d (nI v) else if so = 1 then FP.f2d (FP.fdiv (FP.i2f (nI v)) 1090519040) else FP.ddiv (FP.i2d (nI v)) 4620693217682128896) t.1 t.2) (c := fun t : Int32 × St => f_X6_rests_L42 (nI s) (nI v) t.1 t.2) (s := (0, A)) (t := (0, B)) (fun i s t => s.1 = nI i ∧ t.1 = nI i ∧ Rel s.2 t.2 ∧ s.2.1 = A.1) (fun r p => Rel r p ∧ r.1 = A.1) n ⟨rfl, rfl, h, rfl⟩ (by
      rintro i ⟨x, A1⟩ ⟨y, B1⟩ hi ⟨rfl, rfl, hR, eA⟩
      dsimp only at hR eA ⊢
      unfold f_X5_rests_L56 f_X6_rests_L42
      have T := hR.sh_at (s := s) (so := so) (n := n) (by omega) (by rw [eA]; exact hS.1) (by rw [eA]; exact hS.2.1) hn
      simp (disch := omega) only [gI_ok, nIc]
      rw [T.2.1, T.2.2.2.1, T.2.2.1]
      by_cases hin : i = n
      · subst hin
        rw [if_pos (Int32.le_refl _), if_pos (Int32.le_refl _)]
        exact Or.inr ⟨_, _, rfl, rfl, hR, eA⟩
      · have hi2 : i < n := by omega
        have ei : nI i + 1 = nI (i + 1) := nI_1 i
        have o := T.2.2.2.2.2.2.2 i hi2
        have od := num_ok o (hS.sorts z).1
        rw [if_neg (show ¬ nI n ≤ nI i from nI_ge hi2 (by omega)), if_neg (show ¬ nI n ≤ nI i from nI_ge hi2 (by omega))]
        simp (disch := omega) only [gI_ok, nIc, bv_i, ei]
        rcases (hS.sorts z).1 with w | w | w
        · subst w
          obtain ⟨W, hD, hW⟩ := divisor (FP.Core.i2d_fin _) t1.1 t1.2
          obtain ⟨k1, k2⟩ := rest_ok od hD hW
          rw [if_pos rfl, if_pos rfl, cl_s k1, cl_s (put_eq T.1 (by omega) k2)]
          unfold gZ
          rw [if_neg (nI_ne0 (by omega) (by omega))]
          have := (hR.putS (by omega) T hi2 (y := cv 0 (FP.drem (A1.2.1 (60 + s) i) (FP.i2d (nI v)))) (xi := B1.1 (20 + s) i - B1.1 (20 + s) i / nI v * nI v) (xf := 0) (xd := 0) ⟨fun _ => by rw [o.1 rfl]; unfold cv; rw [if_pos rfl, rem_int _ (by omega) (by omega)], fun z => absurd z (by decide), fun z => absurd z (by decide)⟩).1
          unfold putR at this
          rw [if_pos rfl] at this
          exact Or.inl ⟨_, _, rfl, rfl, hi2, rfl, rfl, this, eA⟩
        · subst w
          obtain ⟨W, hD, hW⟩ := divisor ((eig_f (nI v)).f2d (by decide) (by decide)).2 t2.1 t2.2
          obtain ⟨k1, k2⟩ := rest_ok od hD hW
          obtain ⟨o1, o2⟩ := o.2.1 rfl
          obtain ⟨r1, r2⟩ := rem_float o2 ((eig_f (nI v)).fin (by decide)) hD (Nat.lt_of_lt_of_le (Nat.two_pow_pos 1071) hW)
          rw [if_neg (show ¬ (1 : Int32) = 0 by decide), if_pos rfl, if_neg (show ¬ (1 : Int32) = 0 by decide), if_pos rfl, cl_s k1, cl_s (put_eq T.1 (by omega) k2), g32_fin ((eig_f (nI v)).fin (by decide)), g32_fin (r2.mf.fin (by decide))]
          have := (hR.putS (by omega) T hi2 (y := cv 1 (FP.drem (A1.2.1 (60 + s) i) (FP.f2d (FP.fdiv (FP.i2f (nI v)) 1090519040)))) (xi := 0) (xf := FP.frem (B1.2.2 (25 + s) i) (FP.fdiv (FP.i2f (nI v)) 1090519040)) (xd := 0) ⟨fun z => absurd z (by decide), fun _ => by rw [o1, r1]; exact (num_float r2).2.1 rfl, fun z => absurd z (by decide)⟩).1
          unfold putR at this
          rw [if_neg (show ¬ (1 : Int32) = 0 by decide), if_pos rfl] at this
          exact Or.inl ⟨_, _, rfl, rfl, hi2, rfl, rfl, this, eA⟩
        · subst w
          obtain ⟨W, hD, hW⟩ := divisor ((eig_d (nI v)).fin (by decide)) t3.1 t3.2
          obtain ⟨k1, k2⟩ := rest_ok od hD hW
          obtain ⟨o1, o2⟩ := o.2.2 rfl
          rw [if_neg (show ¬ (2 : Int32) = 0 by decide), if_neg (show ¬ (2 : Int32) = 1 by decide), if_neg (show ¬ (2 : Int32) = 0 by decide), if_neg (show ¬ (2 : Int32) = 1 by decide), cl_s k1, cl_s (put_eq T.1 (by omega) k2), g64_fin ((eig_d (nI v)).fin (by decide)), ← o1, g64_fin (k2.md.fin (by decide))]
          have := (hR.putS (by omega) T hi2 (y := cv 2 (FP.drem (A1.2.1 (60 + s) i) (FP.ddiv (FP.i2d (nI v)) 4620693217682128896))) (xi := 0) (xf := 0) (xd := FP.drem (A1.2.1 (60 + s) i) (FP.ddiv (FP.i2d (nI v)) 4620693217682128896)) ⟨fun z => absurd z (by decide), fun z => absurd z (by decide), fun _ => (num_double k2).2.2 rfl⟩).1
          unfold putR at this
          rw [if_neg (show ¬ (2 : Int32) = 0 by decide), if_neg (show ¬ (2 : Int32) = 1 by decide)] at this
          exact Or.inl ⟨_, _, rfl, rfl, hi2, rfl, rfl, this, eA⟩)
    rw [cl_s e1, cl_s e2]
    have T := e3.sh_at (s := s) (so := so) (n := n) (by omega) (by rw [e4]; exact hS.1) (by rw [e4]; exact hS.2.1) hn
    unfold f_X5_rests_X103 f_X6_rests_X146
    simp (disch := omega) only [gI_ok, nIc]
    exact SM_ret (T.2.1.trans T.2.2.2.1.symm) e3
