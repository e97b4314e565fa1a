/-! What an item tells, on both sides. -/
theorem i2f_md {v : Int32} {j : Nat} (h : v.toInt.natAbs ≤ 2 ^ j) : Mf (j + 128) (FP.i2f v) := by
  have := FP.Core.fromInt_mag32 (FP.Core.toNat_i2f v) h (K := j + 127) (by omega) (by omega)
  unfold Mf
  rw [show FP.i2f v = FP.Core.i2f v from rfl]
  omega
theorem i2d_md {v : Int32} {j : Nat} (h : v.toInt.natAbs ≤ 2 ^ j) : Md (j + 1024) (FP.i2d v) := by
  have := FP.Core.fromInt_mag (FP.Core.toNat_i2d v) h (K := j + 1023) (by omega) (by omega)
  unfold Md
  rw [show FP.i2d v = FP.Core.i2d v from rfl]
  omega
theorem Mf.div {K L M : Nat} {a b : UInt32} (ha : Mf K a) (hb : L * 2 ^ 23 ≤ b.toNat % 2 ^ 31) (hb2 : b.toNat % 2 ^ 31 < 255 * 2 ^ 23) (hK : K ≤ 255) (hL : 1 ≤ L) (hM : K + 125 - L + 3 ≤ M) : Mf M (FP.fdiv a b) := Mf.le (FP.Core.fdiv_mag ha hb hb2 hK hL) hM
theorem Md.div {K L M : Nat} {a b : UInt64} (ha : Md K a) (hb : L * 2 ^ 52 ≤ b.toNat % 2 ^ 63) (hb2 : b.toNat % 2 ^ 63 < 2047 * 2 ^ 52) (hK : K ≤ 2047) (hL : 1 ≤ L) (hM : K + 1021 - L + 3 ≤ M) : Md M (FP.ddiv a b) := Md.le (FP.Core.ddiv_mag ha hb hb2 hK hL) hM
theorem Mf.f2d {K : Nat} {a : UInt32} (h : Mf K a) (hK1 : 1 ≤ K) (hK : K ≤ 255) : Md (K + 896) (FP.f2d a) ∧ FP.Core.DFin (FP.f2d a) := by
  obtain ⟨s, c, q, e⟩ := h.fin hK
  have hq := fit_q32 e
  have hD := Dv.f2d e
  refine ⟨(hD.md (by omega)).mpr ?_, hD.fin⟩
  have h1 : FP.Core.unitsOf FP.Core.b32 (a.toNat % 2 ^ 31) = c * 2 ^ (q + 149).toNat := by
    rw [← FP.Core.zmag_toNat32 (by rw [e]; intro z; cases z), e]
    unfold FP.Core.zmag FP.Core.inUnits
    dsimp only
    rw [qmin32, Int.sub_neg]
  have h2 : FP.Core.unitsOf FP.Core.b32 (K * 2 ^ 23) = 2 ^ (22 + K) := by
    have := FP.Core.unitsOf_start (f := FP.Core.b32) hK1
    rw [FP.Core.tails_b32, ← Nat.pow_add] at this
    rw [this]
    congr 1
    omega
  have h3 : c * 2 ^ (q + 149).toNat < 2 ^ (22 + K) := by
    rw [← h1, ← h2, FP.Core.unitsOf_lt_iff]
    exact h
  rw [show (q + 1074).toNat = (q + 149).toNat + 925 by omega, Nat.pow_add, ← Nat.mul_assoc, show 51 + (K + 896) = (22 + K) + 925 by omega, Nat.pow_add]
  exact Nat.mul_lt_mul_of_pos_right h3 (Nat.two_pow_pos 925)
theorem nn_f2d {a : UInt32} (h : FP.Core.FFin a) (hs : a.toNat < 2 ^ 31) : Nn (FP.f2d a) := by
  obtain ⟨s, c, q, e⟩ := h
  have hD := Dv.f2d e
  rw [hD.nn]
  have := (enc32 e).1
  cases s
  · rfl
  · simp at this
    omega
theorem nn_add2 {a b : UInt64} (fa : FP.Core.DFin a) (fb : FP.Core.DFin b) (ha : Nn a) (hb : Nn b) : Nn (FP.dadd a b) := by
  obtain ⟨s, Z, hA⟩ := Dv.ofFin fa
  obtain ⟨t, W, hB⟩ := Dv.ofFin fb
  have h1 := hA.nn.mp ha
  have h2 := hB.nn.mp hb
  subst h1 h2
  exact nn_add hA hB (Or.inl rfl) (by show 0 ≤ ((Z : Nat) : Int) + ((W : Nat) : Int); omega)
theorem nn_div {a b : UInt64} (fa : FP.Core.DFin a) (fb : FP.Core.DFin b) (hz : ¬ b.toNat % 2 ^ 63 = 0) (ha : Nn a) (hb : Nn b) : Nn (FP.ddiv a b) := by
  obtain ⟨s, c, q, e⟩ := fa
  obtain ⟨t, d, r, g⟩ := fb
  have hs : s = false := (Dv.of e).nn.mp ha
  have ht : t = false := (Dv.of g).nn.mp hb
  subst hs ht
  have hd0 : d ≠ 0 := by
    intro z
    subst z
    exact hz ((FP.Core.zero_bits2 b).mp ⟨_, _, g⟩)
  have ev : FP.Core.val64 (FP.ddiv a b) = FP.Core.roundRatio FP.Core.b64 false c d (q - r) := by
    rw [show FP.Core.val64 (FP.ddiv a b) = _ from FP.Core.val64_ddiv _ _, e, g]
    show (if d = 0 then _ else FP.Core.roundRatio FP.Core.b64 (false != false) c d (q - r)) = _
    rw [if_neg hd0]
    rfl
  rw [nn_sgn (by rw [ev]; exact FP.Core.roundRatio_ne_nan _ _ _ _ _), ev, FP.Core.sgn_roundRatio]
/-- a positive float out of a double, out of two floats -/
theorem sgn32 {a : UInt32} (h : FP.Core.val32 a ≠ .nan) (hs : FP.Core.sgn (FP.Core.val32 a) = false) : a.toNat < 2 ^ 31 := by
  rw [FP.Core.sgn_bits32 h] at hs
  have := of_decide_eq_false hs
  omega
theorem nn_d2f {a : UInt64} (fa : FP.Core.DFin a) (ha : Nn a) : (FP.d2f a).toNat < 2 ^ 31 := by
  have hn := fa.notNaN
  obtain ⟨s, c, q, e⟩ := fa
  have hs : s = false := (Dv.of e).nn.mp ha
  subst hs
  have ev : FP.Core.val32 (FP.d2f a) = FP.Core.roundRatio FP.Core.b32 false c 1 q := by
    rw [FP.d2f_core hn, FP.Core.val32_d2f, e]; rfl
  exact sgn32 (by rw [ev]; exact FP.Core.roundRatio_ne_nan _ _ _ _ _) (by rw [ev, FP.Core.sgn_roundRatio])
theorem nn_fmul {a b : UInt32} (fa : FP.Core.FFin a) (fb : FP.Core.FFin b) (ha : a.toNat < 2 ^ 31) (hb : b.toNat < 2 ^ 31) : (FP.fmul a b).toNat < 2 ^ 31 := by
  obtain ⟨s, c, q, e⟩ := fa
  obtain ⟨t, d, r, g⟩ := fb
  have hs : s = false := by
    have := (enc32 e).1
    cases s
    · rfl
    · simp at this; omega
  have ht : t = false := by
    have := (enc32 g).1
    cases t
    · rfl
    · simp at this; omega
  subst hs ht
  have ev : FP.Core.val32 (FP.fmul a b) = FP.Core.roundRatio FP.Core.b32 false (c * d) 1 (q + r) := by
    rw [show FP.Core.val32 (FP.fmul a b) = _ from FP.Core.val32_fmul a b, e, g]; rfl
  exact sgn32 (by rw [ev]; exact FP.Core.roundRatio_ne_nan _ _ _ _ _) (by rw [ev, FP.Core.sgn_roundRatio])
/-- a double made a float is no greater than a power of two that it isn't greater than -/
theorem d2f_md {a : UInt64} {K : Nat} (h : a.toNat % 2 ^ 63 ≤ (K + 896) * 2 ^ 52) (hK : 1 ≤ K) (hK2 : K ≤ 254) : (FP.d2f a).toNat % 2 ^ 31 ≤ K * 2 ^ 23 := by
  have hfin : FP.Core.DFin a := (FP.Core.fin_bits a).mpr (by omega)
  have hn := hfin.notNaN
  obtain ⟨s, c, q, e⟩ := hfin
  have hq := fit_q e
  have hD := Dv.of e
  have ev : FP.Core.decode FP.Core.b32 (FP.d2f a).toNat = FP.Core.roundRatio FP.Core.b32 s c 1 q := by
    show FP.Core.val32 (FP.d2f a) = _
    rw [FP.d2f_core hn, FP.Core.val32_d2f, e]; rfl
  have h2 : FP.Core.unitsOf FP.Core.b32 (K * 2 ^ 23) = 2 ^ (22 + K) := by
    have := FP.Core.unitsOf_start (f := FP.Core.b32) hK
    rw [FP.Core.tails_b32, ← Nat.pow_add] at this
    rw [this]
    congr 1
    omega
  have h3 : FP.Core.unitsOf FP.Core.b64 ((K + 896) * 2 ^ 52) = 2 ^ (51 + (K + 896)) := by
    have := FP.Core.unitsOf_start (f := FP.Core.b64) (show 1 ≤ K + 896 by omega)
    rw [FP.Core.tails_b64, ← Nat.pow_add] at this
    rw [this, show 52 + (K + 896 - 1) = 51 + (K + 896) by omega]
  have h4 : c * 2 ^ (q + 1074).toNat ≤ 2 ^ (51 + (K + 896)) := by
    rw [← hD.units, ← h3, FP.Core.unitsOf_le_iff]
    exact h
  have := FP.Core.mag_le FP.Core.good_b32 (s := s) (n := (FP.d2f a).toNat) (m := K * 2 ^ 23) (A := c) (B := 1) (e := q) (e0 := -1074) ev (by decide) (by rw [qmin32]; decide) hq.1 (by
    rw [h2, qmin32, Nat.mul_one]
    unfold FP.Core.inUnits
    rw [Int.sub_neg, show ((-149 : Int) - -1074).toNat = 925 by decide, ← Nat.pow_add, show 22 + K + 925 = 51 + (K + 896) by omega]
    exact h4)
  rw [FP.Core.mag_toNat32] at this
  exact this
