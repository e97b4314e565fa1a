theorem steep_tab : ∀ n, n < 13 → (FP.fdiv (FP.i2f (nI n)) 1082130432).toNat < 131 * 2 ^ 23 := by decide +kernel
section
variable {A B : St} {k i : Nat}
theorem steep_both (hb : bankRel 3 1 k A B) (hi : i < k) : ∃ f, f_X0_steepness (nI i) A = some f ∧ f_X6_slopeOf (nI i) B = some f ∧ Mf 131 f ∧ f.toNat < 2 ^ 31 := by
  have hk := hb.1
  have o := (hb.2.2.2.2.1 i hi).2.2.2.1
  have e4 : A.1 8 i = B.1 1 (1 + 8 * i + 3) := hb.2.2.2.1 i hi 3 (by omega)
  have o1 : (1 : Int) ≤ (A.1 8 i).toInt := (fa_le _ _).mp o.1
  obtain ⟨n, hn, e⟩ := nat_of (x := A.1 8 i) (M := 12) (by omega) ((fa_le _ _).mp o.2)
  have t := steep_tab n (by omega)
  have m : Mf 131 (FP.fdiv (FP.i2f (nI n)) 1082130432) := by
    unfold Mf
    exact Nat.lt_of_le_of_lt (Nat.mod_le _ _) t
  have i3 : f_X6_it (nI i) 3 B = some (B.1 1 (1 + 8 * i + 3)) := it_eq (w := 3) (by omega) (by omega)
  refine ⟨FP.fdiv (FP.i2f (nI n)) 1082130432, ?_, ?_, m, by omega⟩
  · unfold f_X0_steepness
    simp (disch := omega) only [gI_ok, nIc]
    rw [e, g32_fin (m.fin (by decide))]
  · unfold f_X6_slopeOf
    rw [cl_s i3, ← e4, e, g32_fin (m.fin (by decide))]
theorem natAbs_le_pow {z : Int} {j : Nat} (h1 : -((2 ^ j : Nat) : Int) ≤ z) (h2 : z ≤ ((2 ^ j : Nat) : Int)) : z.natAbs ≤ 2 ^ j := by omega
theorem dist_both (hb : bankRel 3 1 k A B) (hi : i < k) {v : Int32} (hv : (-64 : Int) ≤ v.toInt ∧ v.toInt ≤ 64) : ∃ x, f_X0_distance (nI i) v A = some x ∧ f_X6_offOf (nI i) v B = some x ∧ Mf 139 x := by
  have hk := hb.1
  obtain ⟨f, s1, s2, mf, _⟩ := steep_both hb hi
  have o := (hb.2.2.2.2.1 i hi).2.2.2.2.1
  have e4 : A.1 9 i = B.1 1 (1 + 8 * i + 4) := hb.2.2.2.1 i hi 4 (by omega)
  have i4 : f_X6_it (nI i) 4 B = some (B.1 1 (1 + 8 * i + 4)) := it_eq (w := 4) (by omega) (by omega)
  have o1 : (-32 : Int) ≤ (A.1 9 i).toInt := (fa_le _ _).mp o.1
  have o2 : (A.1 9 i).toInt ≤ (32 : Int) := (fa_le _ _).mp o.2
  have m1 : Mf 132 (FP.fdiv (FP.i2f v) 1090519040) := Mf.div (L := 130) (i2f_md (j := 6) (by omega)) (by decide) (by decide) (by decide) (by decide) (by decide)
  have m2 : Mf 132 (FP.fdiv (FP.i2f (A.1 9 i)) 1090519040) := Mf.div (L := 130) (i2f_md (j := 6) (by omega)) (by decide) (by decide) (by decide) (by decide) (by decide)
  have m3 : Mf 134 (FP.fsub (FP.fdiv (FP.i2f v) 1090519040) (FP.fdiv (FP.i2f (A.1 9 i)) 1090519040)) := m1.sub m2 (by decide) (by decide)
  have m4 := mf.mul m3 (by decide) (by decide) (M := 139) (by decide)
  refine ⟨_, ?_, ?_, m4⟩
  · unfold f_X0_distance
    rw [cl_s s1, g32_fin (m1.fin (by decide))]
    simp (disch := omega) only [gI_ok, nIc]
    rw [g32_fin (m2.fin (by decide)), g32_fin (m3.fin (by decide)), g32_fin (m4.fin (by decide))]
  · unfold f_X6_offOf
    rw [cl_s s2, g32_fin (m1.fin (by decide)), cl_s i4, ← e4, g32_fin (m2.fin (by decide)), g32_fin (m3.fin (by decide)), g32_fin (m4.fin (by decide))]
theorem chance_both (hb : bankRel 3 1 k A B) (hi : i < k) {v : Int32} (hv : (-64 : Int) ≤ v.toInt ∧ v.toInt ≤ 64) : ∃ x p, f_X0_distance (nI i) v A = some x ∧ f_X6_offOf (nI i) v B = some x ∧ Mf 139 x ∧ f_X0_chanceAtDistance x = some p ∧ f_X6_chanceOf (nI i) v B = some p ∧ Nn p ∧ p.toNat ≤ 4607182418800017408 := by
  obtain ⟨x, d1, d2, mx⟩ := dist_both hb hi hv
  obtain ⟨p, c1, c2, c3, c4⟩ := chance_x (mx.fin (by decide))
  refine ⟨x, p, d1, d2, mx, c1, ?_, c2, c3⟩
  unfold f_X6_chanceOf
  rw [cl_s d2]
  exact c4
theorem dv75 : Dv 4604930618986332160 false (3 * 2 ^ 1072) := ⟨3 * 2 ^ 51, -53, by decide +kernel, by decide +kernel⟩
/-- the essay's rest -/
theorem essay {x : UInt32} (mx : Mf 139 x) {m : UInt64} (mm : Md 1026 m) (nm : Nn m) : ∃ d, (g64 (FP.f2d x) fun v22 => cl (f_X2_size v22) fun r23 => cl (f_X2_rest r23 4604930618986332160) fun r25 => g64 (FP.ddiv r25 4616189618054758400) fun v27 => g64 (FP.dadd m v27) fun v28 => some v28) = some d ∧ (g64 (FP.f2d x &&& 0x7fffffffffffffff) fun v23 => g64 (FP.drem v23 4604930618986332160) fun v24 => g64 (FP.ddiv v24 4616189618054758400) fun v25 => g64 (FP.dadd m v25) fun v26 => some v26) = some d ∧ Md 1042 d ∧ Nn d := by
  obtain ⟨s, c, q, e⟩ := mx.fin (by decide)
  have hX := Dv.f2d e
  have mX := (mx.f2d (by decide) (by decide)).1
  have hZ := (hX.md (by decide)).mp mX
  generalize c * 2 ^ (q + 1074).toNat = Z at hX hZ
  have hW : 2 ^ 1071 ≤ 3 * 2 ^ 1072 := by
    have : 2 ^ 1072 = 2 * 2 ^ 1071 := by rw [Nat.pow_succ, Nat.mul_comm]
    omega
  have fm := mm.fin (by decide)
  rw [hX.g]
  by_cases z : Z = 0
  · subst z
    have ez := zero_of hX
    rw [ez] at hX ⊢
    have n0 : m ≠ FP.Core.dzeroNeg := by
      intro y
      rw [y] at nm
      exact absurd nm (by unfold Nn; decide)
    have md : Md 1042 m := mm.le (by decide)
    rw [cl_s (size_zero hX), cl_s (rest_eq hX dv75 hW (Nat.two_pow_pos _))]
    refine ⟨m, ?_, ?_, md, nm⟩
    · cases s
      · have q1 : FP.drem (if false = true then 9223372036854775808 else 0) 4604930618986332160 = FP.dconst0 := by decide +kernel
        have q2 : FP.ddiv FP.dconst0 4616189618054758400 = FP.dconst0 := by decide +kernel
        have q3 : FP.dadd m FP.dconst0 = m := FP.Core.dadd_zero fm.ne_nan n0
        rw [q1, q2, dv0.g, q3, g64_fin fm]
      · have q1 : FP.drem (if true = true then 9223372036854775808 else 0) 4604930618986332160 = FP.Core.dzeroNeg := by decide +kernel
        have q2 : FP.ddiv FP.Core.dzeroNeg 4616189618054758400 = FP.Core.dzeroNeg := by decide +kernel
        have q3 : FP.dadd m FP.Core.dzeroNeg = m := FP.Core.dadd_zeroNeg fm.ne_nan
        rw [q1, q2, g64_ok (by decide), q3, g64_fin fm]
    · have q0 : (if s = true then (9223372036854775808 : UInt64) else 0) &&& 0x7fffffffffffffff = FP.dconst0 := by cases s <;> decide
      have q1 : FP.drem FP.dconst0 4604930618986332160 = FP.dconst0 := by decide +kernel
      have q2 : FP.ddiv FP.dconst0 4616189618054758400 = FP.dconst0 := by decide +kernel
      have q3 : FP.dadd m FP.dconst0 = m := FP.Core.dadd_zero fm.ne_nan n0
      rw [q0, dv0.g, q1, dv0.g, q2, dv0.g, q3, g64_fin fm]
  · obtain ⟨r, e1, hr, er⟩ := size_pos hX (by omega)
    rw [cl_s e1, ← er, hr.g, cl_s (rest_eq hr dv75 hW (Nat.lt_of_lt_of_le hZ (Nat.pow_le_pow_right (by decide) (by decide))))]
    have hrem := hr.rem dv75 (Nat.lt_of_lt_of_le (Nat.two_pow_pos 1071) hW)
    have mrem : Md 1035 (FP.drem r 4604930618986332160) := (hrem.md (by decide)).mpr (Nat.lt_of_le_of_lt (Nat.mod_le _ _) hZ)
    have nrem : Nn (FP.drem r 4604930618986332160) := hrem.nn.mpr rfl
    have mdiv : Md 1040 (FP.ddiv (FP.drem r 4604930618986332160) 4616189618054758400) := mrem.div (L := 1025) (by decide) (by decide) (by decide) (by decide) (by decide)
    have ndiv := nn_div (b := 4616189618054758400) hrem.fin ((FP.Core.fin_bits _).mpr (by decide)) (by decide) nrem (by unfold Nn; decide)
    have ms : Md 1042 (FP.dadd m (FP.ddiv (FP.drem r 4604930618986332160) 4616189618054758400)) := Md.add (K := 1040) (mm.le (by decide)) mdiv (by decide) (by decide)
    have ns := nn_add2 fm (mdiv.fin (by decide)) nm ndiv
    refine ⟨_, ?_, ?_, ms, ns⟩
    · rw [g64_fin (mdiv.fin (by decide)), g64_fin (ms.fin (by decide))]
    · rw [hrem.g, g64_fin (mdiv.fin (by decide)), g64_fin (ms.fin (by decide))]
theorem tells_both (hb : bankRel 3 1 k A B) (hi : i < k) {v : Int32} (hv : (-64 : Int) ≤ v.toInt ∧ v.toInt ≤ 64) : ∃ d, f_X0_tellsAt (nI i) v A = some d ∧ f_X6_tellsOf (nI i) v B = some d ∧ Md 1044 d ∧ Nn d := by
  have hk := hb.1
  obtain ⟨f, s1, s2, mf, nf⟩ := steep_both hb hi
  obtain ⟨x, p, d1, d2, mx, c1, c2, np, lp⟩ := chance_both hb hi hv
  have i2 : f_X6_it (nI i) 2 B = some (B.1 1 (1 + 8 * i + 2)) := it_eq (w := 2) (by omega) (by omega)
  have i0 : f_X6_it (nI i) 0 B = some (B.1 1 (1 + 8 * i + 0)) := it_eq (w := 0) (by omega) (by omega)
  have e2 : A.1 7 i = B.1 1 (1 + 8 * i + 2) := hb.2.2.2.1 i hi 2 (by omega)
  obtain ⟨kd, hkd, ek1, ek2⟩ := kinds_of hb hi
  have o := (hb.2.2.2.2.1 i hi).2.2.1
  have o1 : (1 : Int) ≤ (A.1 7 i).toInt := (fa_le _ _).mp o.1
  have o2 : (A.1 7 i).toInt ≤ (20 : Int) := (fa_le _ _).mp o.2
  -- sizes
  have mS := mf.f2d (by decide) (by decide)
  have nS := nn_f2d (mf.fin (by decide)) nf
  have mp : Md 1024 p := by
    unfold Md
    have := Nat.mod_le p.toNat (2 ^ 63)
    omega
  have fp := mp.fin (by decide)
  have m8 : Md 1034 (FP.dmul (FP.f2d f) (FP.f2d f)) := mS.1.mul mS.1 (by decide) (by decide) (by decide)
  have n8 := nn_mul mS.2 mS.2 nS nS
  have m9 : Md 1036 (FP.dmul (FP.dmul (FP.f2d f) (FP.f2d f)) p) := m8.mul mp (by decide) (by decide) (by decide)
  have n9 := nn_mul (m8.fin (by decide)) fp n8 np
  have m1 : Md 1024 FP.dconst1 := by unfold Md; decide
  have m10 : Md 1026 (FP.dsub FP.dconst1 p) := m1.sub mp (by decide) (by decide)
  have n10 : Nn (FP.dsub FP.dconst1 p) := by
    obtain ⟨sp, P, hP⟩ := Dv.ofFin fp
    have hsp := hP.nn.mp np
    subst hsp
    have hle : P ≤ 2 ^ 1074 := by
      rw [← hP.bits_le dv1]
      unfold Nn at np
      rw [Nat.mod_eq_of_lt np]
      exact lp
    have e : FP.dsub FP.dconst1 p = FP.dadd FP.dconst1 (FP.dneg p) := by
      rw [FP.dneg_core hP.fin.notNaN]
      exact FP.Core.dsub_eq _ _
    rw [e]
    exact nn_add dv1 hP.neg (Or.inl rfl) (by show 0 ≤ ((2 ^ 1074 : Nat) : Int) + -((P : Nat) : Int); omega)
  have m11 : Md 1040 (FP.dmul (FP.dmul (FP.dmul (FP.f2d f) (FP.f2d f)) p) (FP.dsub FP.dconst1 p)) := m9.mul m10 (by decide) (by decide) (by decide)
  have n11 := nn_mul (m9.fin (by decide)) (m10.fin (by decide)) n9 n10
  generalize hpl : FP.dmul (FP.dmul (FP.dmul (FP.f2d f) (FP.f2d f)) p) (FP.dsub FP.dconst1 p) = pl at m11 n11
  have f11 := m11.fin (by decide)
  have q25 : Md 1024 4608308318706860032 := by unfold Md; decide
  have m12 : Md 1042 (FP.dmul pl 4608308318706860032) := m11.mul q25 (by decide) (by decide) (by decide)
  have n12 := nn_mul f11 (q25.fin (by decide)) n11 (by unfold Nn; decide)
  have m13 : Md 1042 (FP.dmul pl p) := m11.mul mp (by decide) (by decide) (by decide)
  have n13 := nn_mul f11 fp n11 np
  have mi : Md 1029 (FP.i2d (A.1 7 i)) := i2d_md (j := 5) (by omega)
  have ni : Nn (FP.i2d (A.1 7 i)) := by
    have h1 := FP.Core.i2d_int (A.1 7 i)
    obtain ⟨s, Z, hD⟩ := Dv.ofFin (FP.Core.i2d_fin (A.1 7 i))
    have h2 := FP.Core.DInt_zval h1
    rw [hD.zval] at h2
    have hone := FP.Core.one64_pos
    have h3 : 0 < (A.1 7 i).toInt * (FP.Core.one64 : Int) := Int.mul_pos (by omega) (by omega)
    refine hD.nn.mpr ?_
    cases s
    · rfl
    · rw [← h2] at h3
      have : FP.Core.signed true Z = -((Z : Nat) : Int) := rfl
      omega
  unfold f_X0_tellsAt f_X6_tellsOf
  rw [cl_s s1, cl_s s2, g64_fin mS.2, g64_fin mS.2, cl_s d1, cl_s c1, cl_s c2, g64_fin (m8.fin (by decide)), g64_fin (m8.fin (by decide)), g64_fin (m9.fin (by decide)), g64_fin (m9.fin (by decide)), g64_fin (m10.fin (by decide)), g64_fin (m10.fin (by decide)), hpl, g64_fin f11, g64_fin f11, cl_s i2, cl_s i0]
  simp (disch := omega) only [gI_ok, nIc, bv_i]
  rw [ek1, ek2, ← e2]
  have hc : kd = 0 ∨ kd = 1 ∨ kd = 2 ∨ kd = 3 ∨ kd = 4 ∨ kd = 5 := by omega
  rcases hc with rfl | rfl | rfl | rfl | rfl | rfl
  · rw [if_neg (show ¬ nI 0 = 1 by decide), if_neg (show ¬ nI 0 = 2 by decide), if_neg (show ¬ nI 0 = 3 by decide), if_neg (show ¬ nI 0 = 4 by decide), if_neg (show ¬ nI 0 = 5 by decide), if_pos (show nI 0 = 0 from rfl)]
    exact ⟨pl, rfl, rfl, m11.le (by decide), n11⟩
  · rw [if_pos (show nI 1 = 1 from rfl), if_neg (show ¬ nI 1 = 0 by decide), if_pos (show nI 1 = 1 from rfl)]
    simp only [g64_fin (m12.fin (by decide))]
    exact ⟨_, rfl, rfl, m12.le (by decide), n12⟩
  · rw [if_neg (show ¬ nI 2 = 1 by decide), if_pos (show nI 2 = 2 from rfl), if_neg (show ¬ nI 2 = 0 by decide), if_neg (show ¬ nI 2 = 1 by decide), if_pos (show nI 2 = 2 from rfl)]
    simp only [g64_fin (m13.fin (by decide))]
    exact ⟨_, rfl, rfl, m13.le (by decide), n13⟩
  · have m14 : Md 1042 (FP.ddiv (FP.i2d (A.1 7 i)) 4634204016564240384) := mi.div (L := 1029) (by decide) (by decide) (by decide) (by decide) (by decide)
    have n14 := nn_div (b := 4634204016564240384) (mi.fin (by decide)) ((FP.Core.fin_bits _).mpr (by decide)) (by decide) ni (by unfold Nn; decide)
    have m15 : Md 1044 (FP.dadd (FP.dmul pl 4608308318706860032) (FP.ddiv (FP.i2d (A.1 7 i)) 4634204016564240384)) := m12.add m14 (by decide) (by decide)
    have n15 := nn_add2 (m12.fin (by decide)) (m14.fin (by decide)) n12 n14
    rw [if_neg (show ¬ nI 3 = 1 by decide), if_neg (show ¬ nI 3 = 2 by decide), if_pos (show nI 3 = 3 from rfl), if_neg (show ¬ nI 3 = 0 by decide), if_neg (show ¬ nI 3 = 1 by decide), if_neg (show ¬ nI 3 = 2 by decide), if_pos (show nI 3 = 3 from rfl)]
    simp only [g64_fin (m12.fin (by decide)), g64_fin (m14.fin (by decide)), g64_fin (m15.fin (by decide))]
    exact ⟨_, rfl, rfl, m15, n15⟩
  · have m14 : Mf 147 (FP.d2f (FP.dmul pl p)) := by
      have := d2f_md (a := FP.dmul pl p) (K := 146) (Nat.le_of_lt m13) (by decide) (by decide)
      unfold Mf
      omega
    have n14 := nn_d2f (m13.fin (by decide)) n13
    have q3 : Mf 126 1050253722 := by unfold Mf; decide
    have m15 : Mf 147 (FP.fmul (FP.d2f (FP.dmul pl p)) 1050253722) := m14.mul q3 (by decide) (by decide) (by decide)
    have n15 := nn_fmul (m14.fin (by decide)) (q3.fin (by decide)) n14 (by decide)
    have m16 := m15.f2d (by decide) (by decide)
    have n16 := nn_f2d (m15.fin (by decide)) n15
    rw [if_neg (show ¬ nI 4 = 1 by decide), if_neg (show ¬ nI 4 = 2 by decide), if_neg (show ¬ nI 4 = 3 by decide), if_pos (show nI 4 = 4 from rfl), if_neg (show ¬ nI 4 = 0 by decide), if_neg (show ¬ nI 4 = 1 by decide), if_neg (show ¬ nI 4 = 2 by decide), if_neg (show ¬ nI 4 = 3 by decide), if_pos (show nI 4 = 4 from rfl)]
    simp only [g64_fin (m13.fin (by decide)), g32_fin (m14.fin (by decide)), g32_fin (m15.fin (by decide)), g64_fin m16.2]
    exact ⟨_, rfl, rfl, m16.1.le (by decide), n16⟩
  · have m14 : Md 1026 (FP.ddiv (FP.i2d (A.1 7 i)) 4625196817309499392) := mi.div (L := 1027) (by decide) (by decide) (by decide) (by decide) (by decide)
    have n14 := nn_div (b := 4625196817309499392) (mi.fin (by decide)) ((FP.Core.fin_bits _).mpr (by decide)) (by decide) ni (by unfold Nn; decide)
    have hX := (mx.f2d (by decide) (by decide)).2
    obtain ⟨d, es1, es2, es3, es4⟩ := essay mx m14 n14
    rw [if_neg (show ¬ nI 5 = 1 by decide), if_neg (show ¬ nI 5 = 2 by decide), if_neg (show ¬ nI 5 = 3 by decide), if_neg (show ¬ nI 5 = 4 by decide), if_pos (show nI 5 = 5 from rfl), if_neg (show ¬ nI 5 = 0 by decide), if_neg (show ¬ nI 5 = 1 by decide), if_neg (show ¬ nI 5 = 2 by decide), if_neg (show ¬ nI 5 = 3 by decide), if_neg (show ¬ nI 5 = 4 by decide), cl_s d2, g64_fin hX, g64_fin (m14.fin (by decide)), g64_fin (m14.fin (by decide))]
    exact ⟨d, es1, es2, es3.le (by decide), es4⟩
end
