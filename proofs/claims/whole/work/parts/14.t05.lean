/-! Sizes and signs of doubles, by their bits. -/
def Md (K : Nat) (a : UInt64) : Prop := a.toNat % 2 ^ 63 < K * 2 ^ 52
def Mf (K : Nat) (a : UInt32) : Prop := a.toNat % 2 ^ 31 < K * 2 ^ 23
def Nn (a : UInt64) : Prop := a.toNat < 2 ^ 63
theorem Md.fin {K : Nat} {a : UInt64} (h : Md K a) (hK : K ≤ 2047) : FP.Core.DFin a := FP.Core.fin_of_lt h hK
theorem Mf.fin {K : Nat} {a : UInt32} (h : Mf K a) (hK : K ≤ 255) : FP.Core.FFin a := FP.Core.fin_of_lt32 h hK
theorem Md.le {K L : Nat} {a : UInt64} (h : Md K a) (hK : K ≤ L) : Md L a := Nat.lt_of_lt_of_le h (Nat.mul_le_mul_right _ hK)
theorem Mf.le {K L : Nat} {a : UInt32} (h : Mf K a) (hK : K ≤ L) : Mf L a := Nat.lt_of_lt_of_le h (Nat.mul_le_mul_right _ hK)
theorem g32_fin {α : Type} {r : UInt32} {k : UInt32 → Option α} (h : FP.Core.FFin r) : g32 r k = k r := by
  apply g32_ok
  rw [UInt32.le_iff_toNat_le, FP.Core.mask_toNat32]
  have := (FP.Core.fin_bits32 r).mp h
  exact Nat.le_of_lt this
theorem Md.mul {K L M : Nat} {a b : UInt64} (ha : Md K a) (hb : Md L b) (hK : K ≤ 2047) (hL : L ≤ 2047) (hM : K + L - 1025 + 3 ≤ M) : Md M (FP.dmul a b) := Md.le (FP.Core.dmul_mag ha hb hK hL) hM
theorem Md.add {K M : Nat} {a b : UInt64} (ha : Md K a) (hb : Md K b) (hK : K ≤ 2047) (hM : K + 2 ≤ M) : Md M (FP.dadd a b) := Md.le (FP.Core.dadd_mag ha hb hK) hM
theorem Md.sub {K M : Nat} {a b : UInt64} (ha : Md K a) (hb : Md K b) (hK : K ≤ 2047) (hM : K + 2 ≤ M) : Md M (FP.dsub a b) := Md.le (FP.Core.dsub_mag ha hb hK) hM
theorem Mf.mul {K L M : Nat} {a b : UInt32} (ha : Mf K a) (hb : Mf L b) (hK : K ≤ 255) (hL : L ≤ 255) (hM : K + L - 129 + 3 ≤ M) : Mf M (FP.fmul a b) := Mf.le (FP.Core.fmul_mag ha hb hK hL) hM
theorem Mf.sub {K M : Nat} {a b : UInt32} (ha : Mf K a) (hb : Mf K b) (hK : K ≤ 255) (hM : K + 2 ≤ M) : Mf M (FP.fsub a b) := Mf.le (FP.Core.fsub_mag ha hb hK) hM
theorem nn_sgn {a : UInt64} (h : FP.Core.val64 a ≠ .nan) : Nn a ↔ FP.Core.sgn (FP.Core.val64 a) = false := by
  rw [FP.Core.sgn_bits h]
  unfold Nn
  by_cases z : 2 ^ 63 ≤ a.toNat
  · rw [decide_eq_true z]
    exact ⟨fun y => by omega, fun y => by cases y⟩
  · rw [decide_eq_false z]
    exact ⟨fun _ => rfl, fun _ => by omega⟩
/-- a finite double is one by its sign and size -/
theorem Dv.ofFin {a : UInt64} (h : FP.Core.DFin a) : ∃ s Z, Dv a s Z := by
  obtain ⟨s, c, q, e⟩ := h
  exact ⟨s, _, Dv.of e⟩
theorem Dv.nn {a : UInt64} {s : Bool} {Z : Nat} (h : Dv a s Z) : Nn a ↔ s = false := by
  rw [nn_sgn h.fin.ne_nan]
  obtain ⟨c, q, e, _⟩ := h
  rw [e]
  exact Iff.rfl
theorem nn_mul {a b : UInt64} (fa : FP.Core.DFin a) (fb : FP.Core.DFin b) (ha : Nn a) (hb : Nn b) : Nn (FP.dmul a b) := by
  obtain ⟨s, c, q, e⟩ := fa
  obtain ⟨t, d, r, g⟩ := fb
  have hs : s = false := (Dv.of e).nn.mp ha
  have ht : t = false := (Dv.of g).nn.mp hb
  subst hs ht
  have e3 : FP.Core.val64 (FP.dmul a b) = FP.Core.roundRatio FP.Core.b64 false (c * d) 1 (q + r) := by
    rw [show FP.Core.val64 (FP.dmul a b) = _ from FP.Core.val64_dmul a b, e, g]
    rfl
  rw [nn_sgn (by rw [e3]; exact FP.Core.roundRatio_ne_nan _ _ _ _ _), e3, FP.Core.sgn_roundRatio]
theorem nn_add {a b : UInt64} {s t : Bool} {Z W : Nat} (ha : Dv a s Z) (hb : Dv b t W) (hs : s = false ∨ t = false) (h : 0 ≤ FP.Core.signed s Z + FP.Core.signed t W) : Nn (FP.dadd a b) := by
  obtain ⟨c, q, e, e2⟩ := ha
  obtain ⟨d, r, g, g2⟩ := hb
  have hq := (fit_q e).1
  have hq2 := (fit_q g).1
  generalize hm : min q r = m
  generalize hv : FP.Core.sumUnits s c q t d r m = v
  have e3 : FP.Core.val64 (FP.dadd a b) = FP.Core.roundRatio FP.Core.b64 (FP.Core.sumSign s t v) v.natAbs 1 m := by
    rw [show FP.Core.val64 (FP.dadd a b) = _ from FP.Core.val64_dadd a b, e, g, ← hv, ← hm]
    rfl
  have hVv : FP.Core.signed s Z + FP.Core.signed t W = v * ((2 ^ (m + 1074).toNat : Nat) : Int) := by
    rw [← hv, ← e2, ← g2]
    unfold FP.Core.sumUnits
    rw [Int.add_mul, ← FP.Core.signed_mul, ← FP.Core.signed_mul]
    congr 2
    · unfold FP.Core.inUnits
      rw [Nat.mul_assoc, ← Nat.pow_add]
      congr 2
      omega
    · unfold FP.Core.inUnits
      rw [Nat.mul_assoc, ← Nat.pow_add]
      congr 2
      omega
  have hpos : 0 < ((2 ^ (m + 1074).toNat : Nat) : Int) := Int.natCast_pos.mpr (Nat.two_pow_pos _)
  have hv0 : 0 ≤ v := by
    apply Classical.byContradiction
    intro z
    have := Int.mul_neg_of_neg_of_pos (show v < 0 by omega) hpos
    omega
  rw [nn_sgn (by rw [e3]; exact FP.Core.roundRatio_ne_nan _ _ _ _ _), e3, FP.Core.sgn_roundRatio]
  unfold FP.Core.sumSign
  by_cases z : v = 0
  · rw [if_pos z]
    rcases hs with rfl | rfl
    · rfl
    · cases s <;> rfl
  · rw [if_neg z]
    exact decide_eq_false (by omega)
/-- a sum lies between what its exact value lies between -/
theorem sum_btw {a b lo hi : UInt64} {s t s1 s2 : Bool} {Z W L H : Nat} (ha : Dv a s Z) (hb : Dv b t W) (hlo : Dv lo s1 L) (hhi : Dv hi s2 H) (h1 : FP.Core.signed s1 L ≤ FP.Core.signed s Z + FP.Core.signed t W) (h2 : FP.Core.signed s Z + FP.Core.signed t W ≤ FP.Core.signed s2 H) : FP.Core.signed s1 L ≤ FP.Core.zval FP.Core.b64 (FP.Core.val64 (FP.dadd a b)) ∧ FP.Core.zval FP.Core.b64 (FP.Core.val64 (FP.dadd a b)) ≤ FP.Core.signed s2 H := by
  rw [show FP.Core.val64 (FP.dadd a b) = _ from FP.Core.val64_dadd a b, ← hlo.zval, ← hhi.zval]
  rw [← ha.zval, ← hb.zval, ← hlo.zval] at h1
  rw [← ha.zval, ← hb.zval, ← hhi.zval] at h2
  exact ⟨FP.Core.sum_ge FP.Core.good_b64 ha.fin hb.fin (FP.Core.val64_fits a) (FP.Core.val64_fits b) (FP.Core.val64_fits lo) hlo.fin.ne_nan h1, FP.Core.sum_le FP.Core.good_b64 ha.fin hb.fin (FP.Core.val64_fits a) (FP.Core.val64_fits b) (FP.Core.val64_fits hi) hhi.fin.ne_nan h2⟩
/-- sizes and bits -/
theorem Dv.units {a : UInt64} {s : Bool} {Z : Nat} (h : Dv a s Z) : FP.Core.unitsOf FP.Core.b64 (a.toNat % 2 ^ 63) = Z := by
  rw [← FP.Core.zmag_bits h.fin.ne_nan]
  obtain ⟨c, q, e, e2⟩ := h
  rw [e]; unfold FP.Core.zmag; dsimp only; rw [qmin64, e2]
theorem Dv.bits_le {a b : UInt64} {s t : Bool} {Z W : Nat} (ha : Dv a s Z) (hb : Dv b t W) : a.toNat % 2 ^ 63 ≤ b.toNat % 2 ^ 63 ↔ Z ≤ W := by
  rw [← ha.units, ← hb.units, FP.Core.unitsOf_le_iff]
theorem Dv.md {a : UInt64} {s : Bool} {Z K : Nat} (h : Dv a s Z) (hK : 1 ≤ K) : Md K a ↔ Z < 2 ^ (51 + K) := by
  have e : FP.Core.unitsOf FP.Core.b64 (K * 2 ^ 52) = 2 ^ (51 + K) := by
    have := FP.Core.unitsOf_start (f := FP.Core.b64) hK
    rw [FP.Core.tails_b64, ← Nat.pow_add] at this
    rw [this]
    congr 1
    omega
  unfold Md
  rw [← h.units, ← e, FP.Core.unitsOf_lt_iff]
theorem dvh : Dv 4602678819172646912 false (2 ^ 1073) := ⟨2 ^ 52, -53, by decide +kernel, by decide +kernel⟩
/-- a float without its sign -/
theorem val_abs {x : UInt32} {s : Bool} {c : Nat} {q : Int} (h : FP.Core.val32 x = .fin s c q) : FP.Core.val32 (x &&& 0x7fffffff) = .fin false c q := by
  obtain ⟨e1, e2⟩ := enc32 h
  have em := FP.Core.mask_toNat32 x
  cases s
  · have : x &&& 0x7fffffff = x := by
      apply UInt32.toNat_inj.mp
      rw [em, e1]
      simp at e1 ⊢
      omega
    rw [this]; exact h
  · have := FP.Core.val32_neg_bits (a := x) (b := x &&& 0x7fffffff) (Or.inl (by rw [em, e1]; simp; omega))
    rw [this, h]; rfl
/-- the chance at a distance, on both sides: from 0 to 1 -/
theorem chance_x {x : UInt32} (hx : FP.Core.FFin x) : ∃ p, f_X0_chanceAtDistance x = some p ∧ Nn p ∧ p.toNat ≤ 4607182418800017408 ∧ (g64 (FP.f2d x) fun v3 => g64 (FP.dmul 4602678819172646912 v3) fun v4 => g32 (x &&& 0x7fffffff) fun v5 => g64 (FP.f2d v5) fun v6 => g64 (FP.dadd FP.dconst1 v6) fun v7 => g64 (FP.ddiv v4 v7) fun v8 => g64 (FP.dadd 4602678819172646912 v8) fun v9 => some v9) = some p := by
  obtain ⟨s, c, q, e⟩ := hx
  have hq := fit_q32 e
  have hX := Dv.f2d e
  have ea := val_abs e
  have hY := Dv.f2d ea
  generalize hZ : c * 2 ^ (q + 1074).toNat = Z at hX hY
  have hZlt : Z < 2 ^ 1202 := by
    rw [← hZ]
    exact Nat.lt_of_lt_of_le (Nat.mul_lt_mul_of_pos_right hq.2.2.1 (Nat.two_pow_pos _)) (by rw [← Nat.pow_add]; exact Nat.pow_le_pow_right (by decide) (by omega))
  -- half of it
  have eH : Z = 2 * (c * 2 ^ ((q + 1074).toNat - 1)) := by
    rw [← hZ, show 2 ^ (q + 1074).toNat = 2 ^ ((q + 1074).toNat - 1) * 2 by rw [← Nat.pow_succ]; congr 1; omega, ← Nat.mul_assoc, Nat.mul_comm 2]
  generalize hH : c * 2 ^ ((q + 1074).toNat - 1) = H at eH
  have hv2 : Dv (FP.dmul 4602678819172646912 (FP.f2d x)) s H := by
    rw [show FP.dmul 4602678819172646912 (FP.f2d x) = FP.dmul (FP.f2d x) 4602678819172646912 from FP.Core.dmul_comm _ _]
    rw [eH] at hX
    exact hX.half (by rw [← hH]; exact rep_mk (by omega) (by omega))
  -- one and its size
  have dsum : ∃ r4, f_X2_size (FP.f2d x) = some r4 ∧ FP.dadd FP.dconst1 r4 = FP.dadd FP.dconst1 (FP.f2d (x &&& 0x7fffffff)) := by
    by_cases z : Z = 0
    · subst z
      refine ⟨_, size_zero hX, ?_⟩
      have d1 := dv1.add hX (V := ((2 ^ 1074 : Nat) : Int)) (by rw [FP.Core.signed_zero, Int.add_zero]; rfl) (by rw [Int.natAbs_natCast]; exact ⟨1, 1074, by rw [Nat.one_mul], by decide, by decide⟩)
      have d2 := dv1.add hY (V := ((2 ^ 1074 : Nat) : Int)) (by rw [FP.Core.signed_zero, Int.add_zero]; rfl) (by rw [Int.natAbs_natCast]; exact ⟨1, 1074, by rw [Nat.one_mul], by decide, by decide⟩)
      have hne : ¬ ((2 ^ 1074 : Nat) : Int) = 0 := by
        have := Nat.two_pow_pos 1074
        omega
      rw [if_neg hne] at d1 d2
      exact d1.inj d2
    · obtain ⟨r, e1, e2, _⟩ := size_pos hX (by omega)
      exact ⟨r, e1, by rw [e2.inj hY]⟩
  obtain ⟨r4, er4, es⟩ := dsum
  have mD : Md 1153 (FP.dadd FP.dconst1 (FP.f2d (x &&& 0x7fffffff))) := Md.add (K := 1151) ((dv1.md (by decide)).mpr (Nat.pow_lt_pow_right (by decide) (by decide))) ((hY.md (by decide)).mpr hZlt) (by decide) (by decide)
  have nD : Nn (FP.dadd FP.dconst1 (FP.f2d (x &&& 0x7fffffff))) := nn_add dv1 hY (Or.inl rfl) (by show 0 ≤ ((2 ^ 1074 : Nat) : Int) + ((Z : Nat) : Int); omega)
  obtain ⟨sD, W, hD⟩ := Dv.ofFin (mD.fin (by decide))
  have hsD := hD.nn.mp nD
  subst hsD
  have hW1 : 2 ^ 1074 ≤ W := by
    have := (sum_btw dv1 hY dv1 (hi := 9214364837600034815) (s2 := false) (H := FP.Core.unitsOf FP.Core.b64 9214364837600034815) (by
      obtain ⟨s0, Z0, h0⟩ := Dv.ofFin (a := 9214364837600034815) ((FP.Core.fin_bits _).mpr (by decide))
      have := h0.units
      have hs0 : s0 = false := h0.nn.mp (by unfold Nn; decide)
      subst hs0
      rw [show (9214364837600034815 : UInt64).toNat % 2 ^ 63 = 9214364837600034815 by decide] at this
      rw [this]; exact h0) (by show ((2 ^ 1074 : Nat) : Int) ≤ ((2 ^ 1074 : Nat) : Int) + ((Z : Nat) : Int); omega) (by
      have hb : 2 ^ 1203 ≤ FP.Core.unitsOf FP.Core.b64 9214364837600034815 := by decide +kernel
      have h74 : 2 ^ 1074 ≤ 2 ^ 1202 := Nat.pow_le_pow_right (by decide) (by decide)
      have h03 : 2 ^ 1203 = 2 * 2 ^ 1202 := by rw [Nat.pow_succ, Nat.mul_comm]
      show ((2 ^ 1074 : Nat) : Int) + ((Z : Nat) : Int) ≤ ((FP.Core.unitsOf FP.Core.b64 9214364837600034815 : Nat) : Int)
      omega)).1
    rw [hD.zval] at this
    exact Int.ofNat_le.mp this
  have hW2 : Z ≤ W := by
    have := FP.Core.sum_ge FP.Core.good_b64 dv1.fin hY.fin (FP.Core.val64_fits _) (FP.Core.val64_fits _) (FP.Core.val64_fits (FP.f2d (x &&& 0x7fffffff))) hY.fin.ne_nan (by rw [dv1.zval, hY.zval]; show ((Z : Nat) : Int) ≤ ((2 ^ 1074 : Nat) : Int) + ((Z : Nat) : Int); omega)
    rw [← FP.Core.val64_dadd, hY.zval, show FP.Core.dadd FP.dconst1 (FP.f2d (x &&& 0x7fffffff)) = FP.dadd FP.dconst1 (FP.f2d (x &&& 0x7fffffff)) from rfl, hD.zval] at this
    exact Int.ofNat_le.mp this
  -- the part of it: at most a half
  have dq : ∃ Q, Dv (FP.ddiv (FP.dmul 4602678819172646912 (FP.f2d x)) (FP.dadd FP.dconst1 (FP.f2d (x &&& 0x7fffffff)))) s Q ∧ Q ≤ 2 ^ 1073 := by
    obtain ⟨c2, q2, g1, g2⟩ := hv2
    obtain ⟨d, r, k1, k2⟩ := hD
    have f1 := fit_q g1
    have f2 := fit_q k1
    have hd0 : d ≠ 0 := by
      intro z
      subst z
      unfold FP.Core.inUnits at k2
      have := Nat.two_pow_pos 1074
      omega
    have ev : FP.Core.val64 (FP.ddiv (FP.dmul 4602678819172646912 (FP.f2d x)) (FP.dadd FP.dconst1 (FP.f2d (x &&& 0x7fffffff)))) = FP.Core.roundRatio FP.Core.b64 s c2 d (q2 - r) := by
      rw [show FP.Core.val64 (FP.ddiv (FP.dmul 4602678819172646912 (FP.f2d x)) (FP.dadd FP.dconst1 (FP.f2d (x &&& 0x7fffffff)))) = _ from FP.Core.val64_ddiv _ _, g1, k1]
      show (if d = 0 then _ else FP.Core.roundRatio FP.Core.b64 (s != false) c2 d (q2 - r)) = _
      rw [if_neg hd0]
      cases s <;> rfl
    generalize FP.ddiv (FP.dmul 4602678819172646912 (FP.f2d x)) (FP.dadd FP.dconst1 (FP.f2d (x &&& 0x7fffffff))) = y at ev
    have hle : FP.Core.mag FP.Core.b64 y.toNat ≤ 4602678819172646912 := FP.Core.mag_le FP.Core.good_b64 (s := s) (n := y.toNat) (A := c2) (B := d) (e := q2 - r) (e0 := -3000) ev (by omega) (by rw [qmin64]; decide) (by omega) (by
      have hu : FP.Core.unitsOf FP.Core.b64 4602678819172646912 = 2 ^ 1073 := by decide +kernel
      rw [hu, qmin64]
      unfold FP.Core.inUnits at g2 k2 ⊢
      obtain ⟨u, hu⟩ : ∃ u : Nat, q2 = (u : Int) - 1074 := ⟨(q2 + 1074).toNat, by omega⟩
      obtain ⟨v, hv⟩ : ∃ v : Nat, r = (v : Int) - 1074 := ⟨(r + 1074).toNat, by omega⟩
      subst hu hv
      rw [show ((u : Int) - 1074 - -1074).toNat = u by omega] at g2
      rw [show ((v : Int) - 1074 - -1074).toNat = v by omega] at k2
      rw [show ((-1074 : Int) - -3000).toNat = 1926 by decide, ← Nat.pow_add]
      apply Nat.le_of_mul_le_mul_right (c := 2 ^ v) _ (Nat.two_pow_pos v)
      have l1 : c2 * 2 ^ ((u : Int) - 1074 - (v - 1074) - -3000).toNat * 2 ^ v = 2 ^ 2999 * (2 * H) := by
        rw [Nat.mul_assoc, ← Nat.pow_add, show ((u : Int) - 1074 - (v - 1074) - -3000).toNat + v = u + 3000 by omega, Nat.pow_add, ← Nat.mul_assoc, g2, show (3000 : Nat) = 2999 + 1 from rfl, Nat.pow_succ, Nat.mul_comm H, Nat.mul_assoc]
      have l2 : 2 ^ (1073 + 1926) * d * 2 ^ v = 2 ^ 2999 * W := by
        rw [Nat.mul_assoc, k2]
      rw [l1, l2]
      exact Nat.mul_le_mul_left _ (by omega))
    rw [FP.Core.mag_toNat64] at hle
    have hfin : FP.Core.DFin y := (FP.Core.fin_bits y).mpr (by omega)
    obtain ⟨s9, Q, hQ⟩ := Dv.ofFin hfin
    have hs9 : s9 = s := by
      have h1 : FP.Core.sgn (FP.Core.val64 y) = s := by rw [ev, FP.Core.sgn_roundRatio]
      obtain ⟨c9, q9, e9, _⟩ := hQ
      rw [e9] at h1
      exact h1
    subst hs9
    refine ⟨Q, hQ, ?_⟩
    rw [← hQ.bits_le dvh]
    exact hle
  obtain ⟨Q, hQ, hQ2⟩ := dq
  -- the chance
  have h73 : 2 ^ 1074 = 2 * 2 ^ 1073 := by rw [Nat.pow_succ, Nat.mul_comm]
  have hb0 : 0 ≤ FP.Core.signed false (2 ^ 1073) + FP.Core.signed s Q := by
    cases s
    · show 0 ≤ ((2 ^ 1073 : Nat) : Int) + ((Q : Nat) : Int); omega
    · show 0 ≤ ((2 ^ 1073 : Nat) : Int) + -((Q : Nat) : Int); omega
  have hb1 : FP.Core.signed false (2 ^ 1073) + FP.Core.signed s Q ≤ FP.Core.signed false (2 ^ 1074) := by
    cases s
    · show ((2 ^ 1073 : Nat) : Int) + ((Q : Nat) : Int) ≤ ((2 ^ 1074 : Nat) : Int); omega
    · show ((2 ^ 1073 : Nat) : Int) + -((Q : Nat) : Int) ≤ ((2 ^ 1074 : Nat) : Int); omega
  have np := nn_add dvh hQ (Or.inl rfl) hb0
  have mp : Md 1026 (FP.dadd 4602678819172646912 (FP.ddiv (FP.dmul 4602678819172646912 (FP.f2d x)) (FP.dadd FP.dconst1 (FP.f2d (x &&& 0x7fffffff))))) := Md.add (K := 1024) ((dvh.md (by decide)).mpr (Nat.pow_lt_pow_right (by decide) (by decide))) ((hQ.md (by decide)).mpr (Nat.lt_of_le_of_lt hQ2 (Nat.pow_lt_pow_right (by decide) (by decide)))) (by decide) (by decide)
  obtain ⟨sp, P, hP⟩ := Dv.ofFin (mp.fin (by decide))
  have hsp := hP.nn.mp np
  subst hsp
  have hPle : P ≤ 2 ^ 1074 := by
    have := (sum_btw dvh hQ dv0 dv1 hb0 hb1).2
    rw [hP.zval] at this
    exact Int.ofNat_le.mp this
  refine ⟨_, ?_, np, ?_, ?_⟩
  · unfold f_X0_chanceAtDistance
    rw [hX.g, hv2.g, hX.g, cl_s er4, es, hD.g, hQ.g, hP.g]
  · have := (hP.bits_le dv1).mpr hPle
    unfold Nn at np
    rw [Nat.mod_eq_of_lt np] at this
    exact this
  · rw [hX.g, hv2.g, g32_fin ⟨false, c, q, ea⟩, hY.g, hD.g, hQ.g, hP.g]
