/-! Doubles by their size in units of the least one: 2 ^ -1074. -/
def Dv (a : UInt64) (s : Bool) (Z : Nat) : Prop := ∃ c q, FP.Core.val64 a = .fin s c q ∧ FP.Core.inUnits c q (-1074) = Z
/-- a size that a double can have -/
def rep (Z : Nat) : Prop := ∃ c k, Z = c * 2 ^ k ∧ c < 2 ^ 53 ∧ k ≤ 2045
theorem qmin64 : FP.Core.b64.qmin = -1074 := by decide
theorem qmax64 : FP.Core.b64.qmax = 971 := by decide
theorem Dv.fin {a : UInt64} {s : Bool} {Z : Nat} (h : Dv a s Z) : FP.Core.DFin a := by
  obtain ⟨c, q, e, _⟩ := h
  exact ⟨s, c, q, e⟩
theorem Dv.zval {a : UInt64} {s : Bool} {Z : Nat} (h : Dv a s Z) : FP.Core.zval FP.Core.b64 (FP.Core.val64 a) = FP.Core.signed s Z := by
  obtain ⟨c, q, e, e2⟩ := h
  unfold FP.Core.zval
  rw [e]
  unfold FP.Core.sgn FP.Core.zmag
  dsimp only
  rw [qmin64, e2]
theorem Dv.cmp {a b : UInt64} {s t : Bool} {Z W : Nat} (ha : Dv a s Z) (hb : Dv b t W) : FP.dcmp a b = some (compare (FP.Core.signed s Z) (FP.Core.signed t W)) := by
  rw [← ha.zval, ← hb.zval]
  exact FP.Core.dcmp_zval ha.fin.ne_nan hb.fin.ne_nan
theorem g64_fin {α : Type} {r : UInt64} {k : UInt64 → Option α} (h : FP.Core.DFin r) : g64 r k = k r := by
  apply g64_ok
  rw [UInt64.le_iff_toNat_le, FP.Core.mask_toNat]
  have := (FP.Core.fin_bits r).mp h
  exact Nat.le_of_lt this
theorem Dv.g {α : Type} {r : UInt64} {s : Bool} {Z : Nat} {k : UInt64 → Option α} (h : Dv r s Z) : g64 r k = k r := g64_fin h.fin
theorem round_rep {s : Bool} {c : Nat} {q : Int} (K : Nat) {Z : Nat} (hq : -1074 - (K : Int) ≤ q) (hZ : c * 2 ^ (q + 1074 + K).toNat = Z * 2 ^ K) (hr : rep Z) : ∃ c' q', FP.Core.round FP.Core.b64 (.fin s c q) = .fin s c' q' ∧ FP.Core.inUnits c' q' (-1074) = Z := by
  obtain ⟨c0, k0, hr, h53, hk⟩ := hr
  have e1 : FP.Core.round FP.Core.b64 (.fin s c q) = FP.Core.round FP.Core.b64 (.fin s c0 ((k0 : Int) - 1074)) := by
    show FP.Core.roundRatio _ s c 1 q = FP.Core.roundRatio _ s c0 1 _
    refine FP.Core.roundRatio_congr (by decide) (by decide) ?_
    obtain ⟨u, hu⟩ : ∃ u : Nat, q = (u : Int) - 1074 - K := ⟨(q + 1074 + K).toNat, by omega⟩
    subst hu
    rw [show (((u : Int) - 1074 - K) + 1074 + K).toNat = u by omega, hr] at hZ
    rw [show ((u : Int) - 1074 - K - (k0 - 1074)).toNat = u - K - k0 by omega, show ((k0 : Int) - 1074 - (u - 1074 - K)).toNat = k0 + K - u by omega, Nat.mul_one, Nat.mul_one]
    apply Nat.eq_of_mul_eq_mul_right (Nat.two_pow_pos u)
    rw [Nat.mul_right_comm, hZ, Nat.mul_assoc (c0 * 2 ^ k0), Nat.mul_assoc c0, Nat.mul_assoc c0, ← Nat.pow_add, ← Nat.pow_add, ← Nat.pow_add]
    congr 2
    omega
  obtain ⟨c', q', e2, e3⟩ := FP.Core.round_exact FP.Core.good_b64 s (c := c0) (q := (k0 : Int) - 1074) h53 (by rw [qmin64]; omega) (by rw [qmax64]; omega)
  refine ⟨c', q', e1.trans e2, ?_⟩
  rw [qmin64] at e3
  rw [e3]
  unfold FP.Core.inUnits
  rw [show ((k0 : Int) - 1074 - -1074).toNat = k0 by omega, hr]
theorem fit_q {a : UInt64} {s : Bool} {c : Nat} {q : Int} (h : FP.Core.val64 a = .fin s c q) : -1074 ≤ q ∧ q ≤ 971 ∧ c < 2 ^ 53 ∧ (q = -1074 ∨ 2 ^ 52 ≤ c) := by
  have := FP.Core.val64_fits a
  rw [h] at this
  obtain ⟨h1, h2, h3, h4⟩ := this
  rw [qmin64] at h2 h4
  rw [qmax64] at h3
  exact ⟨h2, h3, h1, h4⟩
/-- times a power of two, nothing lost -/
theorem Dv.mulp {a b : UInt64} {s : Bool} {Z Z2 : Nat} {j : Int} (ha : Dv a s Z) (hb : FP.Core.val64 b = .fin false (2 ^ 52) (j - 52)) (K : Nat) (hj : -(K : Int) ≤ j - 52) (hZ : Z * 2 ^ (j + K).toNat = Z2 * 2 ^ K) (hr : rep Z2) : Dv (FP.dmul a b) s Z2 := by
  obtain ⟨c, q, e, e2⟩ := ha
  have hq := (fit_q e).1
  have e3 : FP.Core.val64 (FP.dmul a b) = FP.Core.round FP.Core.b64 (.fin s (c * 2 ^ 52) (q + (j - 52))) := by
    rw [show FP.Core.val64 (FP.dmul a b) = _ from FP.Core.val64_dmul a b, e, hb]
    show FP.Core.round _ (.fin (s != false) _ _) = _
    cases s <;> rfl
  obtain ⟨c', q', e4, e5⟩ := round_rep (s := s) (c := c * 2 ^ 52) (q := q + (j - 52)) K (Z := Z2) (by omega) (by
    rw [← hZ, ← e2]
    unfold FP.Core.inUnits
    rw [Nat.mul_assoc, Nat.mul_assoc, ← Nat.pow_add, ← Nat.pow_add]
    congr 2
    omega) hr
  exact ⟨c', q', e3.trans e4, e5⟩
theorem Dv.neg {a : UInt64} {s : Bool} {Z : Nat} (h : Dv a s Z) : Dv (FP.dneg a) (!s) Z := by
  obtain ⟨c, q, e, e2⟩ := h
  refine ⟨c, q, ?_, e2⟩
  rw [FP.val64_dneg, e]
  rfl
theorem Dv.add {a b : UInt64} {s t : Bool} {Z W : Nat} (ha : Dv a s Z) (hb : Dv b t W) {V : Int} (hV : FP.Core.signed s Z + FP.Core.signed t W = V) (hr : rep V.natAbs) : Dv (FP.dadd a b) (if V = 0 then s && t else decide (V < 0)) V.natAbs := by
  obtain ⟨c, q, e, e2⟩ := ha
  obtain ⟨d, r, g, g2⟩ := hb
  have hq := (fit_q e).1
  have hq2 := (fit_q g).1
  generalize hm : min q r = m
  generalize hv : FP.Core.sumUnits s c q t d r m = v
  have e3 : FP.Core.val64 (FP.dadd a b) = FP.Core.round FP.Core.b64 (.fin (FP.Core.sumSign s t v) v.natAbs m) := by
    rw [show FP.Core.val64 (FP.dadd a b) = _ from FP.Core.val64_dadd a b, e, g, ← hv, ← hm]
    rfl
  have hVv : V = v * ((2 ^ (m + 1074).toNat : Nat) : Int) := by
    rw [← hV, ← hv, ← e2, ← g2]
    unfold FP.Core.sumUnits
    rw [Int.add_mul, ← FP.Core.signed_mul, ← FP.Core.signed_mul]
    congr 2
    · unfold FP.Core.inUnits
      rw [Nat.mul_assoc, ← Nat.pow_add]
      congr 2
      omega
    · unfold FP.Core.inUnits
      rw [Nat.mul_assoc, ← Nat.pow_add]
      congr 2
      omega
  have hpos : 0 < ((2 ^ (m + 1074).toNat : Nat) : Int) := Int.natCast_pos.mpr (Nat.two_pow_pos _)
  have habs : V.natAbs = v.natAbs * 2 ^ (m + 1074).toNat := by
    rw [hVv, Int.natAbs_mul, Int.natAbs_natCast]
  have h0 : V = 0 ↔ v = 0 := by
    rw [hVv]
    constructor
    · intro h
      rcases Int.mul_eq_zero.mp h with h | h
      · exact h
      · omega
    · intro h
      rw [h, Int.zero_mul]
  have hneg : V < 0 ↔ v < 0 := by
    rw [hVv]
    constructor
    · intro h
      exact Int.not_le.mp fun z => absurd (Int.mul_nonneg z (Int.le_of_lt hpos)) (by omega)
    · intro h
      exact Int.mul_neg_of_neg_of_pos h hpos
  obtain ⟨c', q', e4, e5⟩ := round_rep (s := FP.Core.sumSign s t v) (c := v.natAbs) (q := m) 0 (Z := V.natAbs) (by omega) (by
    rw [habs]
    simp) hr
  have hs : (if V = 0 then s && t else decide (V < 0)) = FP.Core.sumSign s t v := by
    unfold FP.Core.sumSign
    by_cases q1 : V = 0
    · rw [if_pos q1, if_pos (h0.mp q1)]
    · rw [if_neg q1, if_neg (fun z => q1 (h0.mpr z))]
      by_cases q2 : V < 0
      · rw [decide_eq_true q2, decide_eq_true (hneg.mp q2)]
      · rw [decide_eq_false q2, decide_eq_false (fun z => q2 (hneg.mpr z))]
  rw [hs]
  exact ⟨c', q', e3.trans e4, e5⟩
theorem Dv.sub {a b : UInt64} {s t : Bool} {Z W : Nat} (ha : Dv a s Z) (hb : Dv b t W) {V : Int} (hV : FP.Core.signed s Z - FP.Core.signed t W = V) (hr : rep V.natAbs) : Dv (FP.dsub a b) (if V = 0 then s && !t else decide (V < 0)) V.natAbs := by
  have e : FP.dsub a b = FP.dadd a (FP.dneg b) := by
    rw [FP.dneg_core hb.fin.notNaN]
    exact FP.Core.dsub_eq a b
  rw [e]
  refine ha.add hb.neg ?_ hr
  rw [← hV]
  cases t <;> simp [FP.Core.signed] <;> omega
theorem dv0 : Dv FP.dconst0 false 0 := ⟨0, -1074, by decide +kernel, by decide⟩
theorem dv1 : Dv FP.dconst1 false (2 ^ 1074) := ⟨2 ^ 52, -52, by decide +kernel, by decide +kernel⟩
theorem dv2 : Dv 4611686018427387904 false (2 ^ 1075) := ⟨2 ^ 52, -51, by decide +kernel, by decide +kernel⟩
theorem val2 : FP.Core.val64 4611686018427387904 = .fin false (2 ^ 52) (1 - 52) := by decide +kernel
theorem valh : FP.Core.val64 4602678819172646912 = .fin false (2 ^ 52) (-1 - 52) := by decide +kernel
theorem Dv.dbl {a : UInt64} {s : Bool} {Z : Nat} (h : Dv a s Z) (hr : rep (2 * Z)) : Dv (FP.dmul a 4611686018427387904) s (2 * Z) :=
  h.mulp val2 51 (by omega) (by rw [show ((1 : Int) + (51 : Nat)).toNat = 52 from rfl, Nat.mul_comm 2 Z, Nat.mul_assoc]) hr
theorem Dv.half {a : UInt64} {s : Bool} {Z : Nat} (h : Dv a s (2 * Z)) (hr : rep Z) : Dv (FP.dmul a 4602678819172646912) s Z :=
  h.mulp valh 53 (by omega) (by rw [show ((-1 : Int) + (53 : Nat)).toNat = 52 from rfl, Nat.mul_comm 2 Z, Nat.mul_assoc]) hr
theorem rep_mk {c k : Nat} (h : c < 2 ^ 53) (hk : k ≤ 2045) : rep (c * 2 ^ k) := ⟨c, k, rfl, h, hk⟩
theorem rep_dbl {c k : Nat} (h : c < 2 ^ 53) (hk : k < 2045) : rep (2 * (c * 2 ^ k)) := ⟨c, k + 1, by rw [Nat.pow_succ]; simp only [Nat.mul_comm, Nat.mul_left_comm], h, hk⟩
theorem cmpN (m n : Nat) : compare (FP.Core.signed false m) (FP.Core.signed false n) = compare m n := by
  show compare (m : Int) (n : Int) = _
  rw [FP.Core.compare_ite]
  by_cases h : m < n
  · rw [if_pos (by omega), (Nat.compare_eq_lt).mpr h]
  · by_cases h2 : m = n
    · rw [if_neg (by omega), if_pos (by omega), (Nat.compare_eq_eq).mpr h2]
    · rw [if_neg (by omega), if_neg (by omega), (Nat.compare_eq_gt).mpr (by omega)]
