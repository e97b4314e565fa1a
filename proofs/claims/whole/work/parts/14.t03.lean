/-! The bits of a double, of a float. -/
theorem l52 : FP.Core.val64 (FP.l2d (1 <<< ((nI 52).toInt64 &&& 63))) = .fin false (2 ^ 52) (((52 : Nat) : Int) - 52) := by decide +kernel
theorem l23 : FP.Core.val64 (FP.l2d (1 <<< ((nI 23).toInt64 &&& 63))) = .fin false (2 ^ 52) (((23 : Nat) : Int) - 52) := by decide +kernel
theorem s52 : ∀ e, e < 2047 → lN e <<< ((nI 52).toInt64 &&& 63) = lN (e * 2 ^ 52) := by decide +kernel
theorem s23 : ∀ e, e < 2047 → lN e <<< ((nI 23).toInt64 &&& 63) = lN (e * 2 ^ 23) := by decide +kernel
theorem Dv.of {a : UInt64} {s : Bool} {c : Nat} {q : Int} (h : FP.Core.val64 a = .fin s c q) : Dv a s (c * 2 ^ (q + 1074).toNat) := ⟨c, q, h, by unfold FP.Core.inUnits; rw [Int.sub_neg]⟩
/-- what size, isMinus say of a finite double -/
theorem size_pos {a : UInt64} {s : Bool} {Z : Nat} (h : Dv a s Z) (hZ : 0 < Z) : ∃ r, f_X2_size a = some r ∧ Dv r false Z ∧ r = a &&& 0x7fffffffffffffff := by
  unfold f_X2_size
  rw [h.cmp dv0]
  cases s
  · rw [if_pos (by rw [cv_ge]; show ((0 : Nat) : Int) ≤ ((Z : Nat) : Int); omega)]
    refine ⟨a, rfl, h, (FP.Core.abs_pos ?_).symm⟩
    rw [show FP.Core.dcmp a 0 = FP.dcmp a FP.dconst0 from rfl, h.cmp dv0]
    exact congrArg some ((FP.Core.compare_gt_iff _ _).mpr (by show ((0 : Nat) : Int) < ((Z : Nat) : Int); omega))
  · rw [if_neg (by rw [cv_ge]; show ¬ ((0 : Nat) : Int) ≤ -((Z : Nat) : Int); omega)]
    refine ⟨_, rfl, h.neg, ?_⟩
    rw [FP.dneg_core h.fin.notNaN]
    refine (FP.Core.abs_neg ?_).symm
    rw [show FP.Core.dcmp a 0 = FP.dcmp a FP.dconst0 from rfl, h.cmp dv0]
    exact congrArg some ((FP.Core.compare_lt_iff _ _).mpr (by show -((Z : Nat) : Int) < ((0 : Nat) : Int); omega))
theorem size_zero {a : UInt64} {s : Bool} (h : Dv a s 0) : f_X2_size a = some a := by
  unfold f_X2_size
  rw [h.cmp dv0, if_pos (by rw [cv_ge, FP.Core.signed_zero, FP.Core.signed_zero]; exact Int.le_refl _)]
theorem minus_pos {a : UInt64} {s : Bool} {Z : Nat} (h : Dv a s Z) (hZ : 0 < Z) : f_X2_isMinus a = some s := by
  unfold f_X2_isMinus
  rw [h.cmp dv0]
  cases s
  · rw [if_neg (by rw [cv_lt]; show ¬ ((Z : Nat) : Int) < ((0 : Nat) : Int); omega), if_neg (by rw [cv_eq]; show ¬ ((Z : Nat) : Int) = ((0 : Nat) : Int); omega)]
  · rw [if_pos (by rw [cv_lt]; show -((Z : Nat) : Int) < ((0 : Nat) : Int); omega)]
theorem zero_of {a : UInt64} {s : Bool} (h : Dv a s 0) : a = if s then 9223372036854775808 else 0 := by
  obtain ⟨c, q, e, e2⟩ := h
  have hc : c = 0 := by
    unfold FP.Core.inUnits at e2
    rcases Nat.mul_eq_zero.mp e2 with z | z
    · exact z
    · exact absurd z (Nat.ne_of_gt (Nat.two_pow_pos _))
  subst hc
  have hq : q = -1074 := by
    have := FP.Core.val64_fits a
    rw [e] at this
    have := FP.Core.fits_zero_q FP.Core.good_b64 this
    rw [qmin64] at this
    exact this
  subst hq
  refine FP.Core.val64_inj (by rw [e]; intro z; cases z) ?_
  rw [e]
  cases s <;> decide +kernel
theorem minus_zero {a : UInt64} {s : Bool} (h : Dv a s 0) : f_X2_isMinus a = some s := by
  have e := zero_of h
  subst e
  unfold f_X2_isMinus
  rw [h.cmp dv0, if_neg (by rw [cv_lt, FP.Core.signed_zero, FP.Core.signed_zero]; exact Int.lt_irrefl _), if_pos (by rw [cv_eq, FP.Core.signed_zero, FP.Core.signed_zero])]
  cases s
  · have q1 : FP.ddiv FP.dconst1 (if false = true then 9223372036854775808 else 0) = 9218868437227405312 := by decide +kernel
    rw [q1, g64_ok (by decide)]
    have q2 : FP.dcmp 9218868437227405312 FP.dconst0 = some .gt := by decide +kernel
    rw [q2, if_pos (by decide)]
  · have q1 : FP.ddiv FP.dconst1 (if true = true then 9223372036854775808 else 0) = 18442240474082181120 := by decide +kernel
    rw [q1, g64_ok (by decide)]
    have q2 : FP.dcmp 18442240474082181120 FP.dconst0 = some .lt := by decide +kernel
    rw [q2, if_neg (by decide)]
theorem bits_zero {a : UInt64} {s : Bool} (h : Dv a s 0) (x y : Int32) : f_X2_sizeBits a x y = some 0 := by
  unfold f_X2_sizeBits
  rw [h.cmp dv0, if_pos (by rw [cv_eq, FP.Core.signed_zero, FP.Core.signed_zero])]
/-- the code of a finite number: its sign, then its size -/
theorem enc64 {a : UInt64} {s : Bool} {c : Nat} {q : Int} (h : FP.Core.val64 a = .fin s c q) : a.toNat = (if s then 2 ^ 63 else 0) + ((q + 1074).toNat * 2 ^ 52 + c) ∧ (q + 1074).toNat * 2 ^ 52 + c < 2 ^ 63 := by
  have hq := fit_q h
  have e : a = FP.Core.of64 (.fin s c q) := by
    rw [← h, FP.Core.of64_val64 (by rw [h]; intro z; cases z)]
  have hf : FP.Core.fits FP.Core.b64 (.fin s c q) := by rw [← h]; exact FP.Core.val64_fits a
  have e2 : a.toNat = FP.Core.encode FP.Core.b64 (.fin s c q) := by rw [e]; exact FP.Core.toNat_of64 hf
  rw [e2]
  unfold FP.Core.encode FP.Core.assemble
  dsimp only
  rw [FP.Core.tails_b64, show FP.Core.b64.exps = 2048 from rfl, qmin64]
  by_cases z : c < 2 ^ 52
  · have hq1 : q = -1074 := by rcases hq.2.2.2 with y | y; exact y; omega
    subst hq1
    rw [if_pos z]
    cases s
    · simp; omega
    · simp; omega
  · rw [if_neg z]
    cases s
    · simp; omega
    · simp; omega
theorem or_min {x : Int64} {m : Nat} (h : x = lN m) (hm : m < 2 ^ 63) : (x ||| (-9223372036854775808)).toBitVec.toNat = 2 ^ 63 + m := by
  subst h
  rw [Int64.toBitVec_or, BitVec.toNat_or]
  have e1 : (lN m).toBitVec.toNat = m := by
    show (BitVec.ofNat 64 m).toNat = m
    rw [BitVec.toNat_ofNat]
    exact Nat.mod_eq_of_lt (by omega)
  have e2 : (-9223372036854775808 : Int64).toBitVec.toNat = 2 ^ 63 * 1 := by decide
  rw [e1, e2, Nat.or_comm, ← Nat.two_pow_add_eq_or_of_lt hm]
theorem bits_double {d : UInt64} (h : FP.Core.DFin d) : f_X2_doubleBits d = some d.toInt64 := by
  obtain ⟨s, c, q, e⟩ := h
  have hq := fit_q e
  have hD := Dv.of e
  obtain ⟨en, en2⟩ := enc64 e
  unfold f_X2_doubleBits
  have key : ∀ r : Int64, r = lN ((q + 1074).toNat * 2 ^ 52 + c) → (if bI s = 0 then some r else some (r ||| (-9223372036854775808))) = some d.toInt64 := by
    intro r hr
    cases s
    · rw [if_pos (by decide), hr]
      refine congrArg some (Int64.toBitVec_inj.mp (BitVec.eq_of_toNat_eq ?_))
      show (BitVec.ofNat 64 _).toNat = d.toNat
      rw [BitVec.toNat_ofNat, en, Nat.mod_eq_of_lt (by omega)]
      simp
    · rw [if_neg (by decide)]
      refine congrArg some (Int64.toBitVec_inj.mp (BitVec.eq_of_toNat_eq ?_))
      rw [or_min hr en2]
      show _ = d.toNat
      rw [en]
      simp
  by_cases hc : c = 0
  · subst hc
    have hq1 : q = -1074 := by rcases hq.2.2.2 with y | y; exact y; omega
    subst hq1
    rw [Nat.zero_mul] at hD
    have m := minus_zero hD
    rw [cl_s (size_zero hD), cl_s (bits_zero hD 52 1023), cl_s m]
    exact key 0 rfl
  · have hc0 : 0 < c := by omega
    obtain ⟨r, e1, e2, _⟩ := size_pos hD (Nat.mul_pos hc0 (Nat.two_pow_pos _))
    have sb : f_X2_sizeBits r 52 1023 = some (lN (((q + 1074).toNat + 1023 + 52 - 1075) * 2 ^ 52 + c)) := size_bits (w := 52) (bias := 1023) (k := (q + 1074).toNat) (by omega) (by omega) (by omega) (by omega) hc0 hq.2.2.1 (by omega) (by omega) (by omega) l52 s52 e2
    rw [show (q + 1074).toNat + 1023 + 52 - 1075 = (q + 1074).toNat by omega] at sb
    rw [cl_s e1, cl_s sb, cl_s (minus_pos hD (Nat.mul_pos hc0 (Nat.two_pow_pos _)))]
    exact key _ rfl
theorem qmin32 : FP.Core.b32.qmin = -149 := by decide
theorem qmax32 : FP.Core.b32.qmax = 104 := by decide
theorem fit_q32 {a : UInt32} {s : Bool} {c : Nat} {q : Int} (h : FP.Core.val32 a = .fin s c q) : -149 ≤ q ∧ q ≤ 104 ∧ c < 2 ^ 24 ∧ (q = -149 ∨ 2 ^ 23 ≤ c) := by
  have := FP.Core.val32_fits a
  rw [h] at this
  obtain ⟨h1, h2, h3, h4⟩ := this
  rw [qmin32] at h2 h4
  rw [qmax32] at h3
  exact ⟨h2, h3, h1, h4⟩
theorem enc32 {a : UInt32} {s : Bool} {c : Nat} {q : Int} (h : FP.Core.val32 a = .fin s c q) : a.toNat = (if s then 2 ^ 31 else 0) + ((q + 149).toNat * 2 ^ 23 + c) ∧ (q + 149).toNat * 2 ^ 23 + c < 2 ^ 31 := by
  have hq := fit_q32 h
  have e : a = FP.Core.of32 (.fin s c q) := by
    rw [← h, FP.Core.of32_val32 (by rw [h]; intro z; cases z)]
  have hf : FP.Core.fits FP.Core.b32 (.fin s c q) := by rw [← h]; exact FP.Core.val32_fits a
  have e2 : a.toNat = FP.Core.encode FP.Core.b32 (.fin s c q) := by rw [e]; exact FP.Core.toNat_of32 hf
  rw [e2]
  unfold FP.Core.encode FP.Core.assemble
  dsimp only
  rw [FP.Core.tails_b32, show FP.Core.b32.exps = 256 from rfl, qmin32]
  by_cases z : c < 2 ^ 23
  · have hq1 : q = -149 := by rcases hq.2.2.2 with y | y; exact y; omega
    subst hq1
    rw [if_pos z]
    cases s
    · simp; omega
    · simp; omega
  · rw [if_neg z]
    cases s
    · simp; omega
    · simp; omega
/-- a float made a double -/
theorem Dv.f2d {f : UInt32} {s : Bool} {c : Nat} {q : Int} (h : FP.Core.val32 f = .fin s c q) : Dv (FP.f2d f) s (c * 2 ^ (q + 1074).toNat) := by
  have hq := fit_q32 h
  have hn : FP.fIsNaN f = false := FP.Core.FFin.notNaN ⟨s, c, q, h⟩
  have e : FP.Core.val64 (FP.f2d f) = FP.Core.round FP.Core.b64 (.fin s c q) := by
    rw [FP.f2d_core hn, FP.Core.val64_f2d, h]
  obtain ⟨c', q', e2, e3⟩ := round_rep (s := s) (c := c) (q := q) 0 (Z := c * 2 ^ (q + 1074).toNat) (by omega) (by simp) (rep_mk (by omega) (by omega))
  exact ⟨c', q', e.trans e2, e3⟩
theorem or_min32 {x : Int32} {m : Nat} (h : x = nI m) (hm : m < 2 ^ 31) : (x ||| (-2147483648)).toBitVec.toNat = 2 ^ 31 + m := by
  subst h
  rw [Int32.toBitVec_or, BitVec.toNat_or]
  have e1 : (nI m).toBitVec.toNat = m := pk_tn (by omega)
  have e2 : (-2147483648 : Int32).toBitVec.toNat = 2 ^ 31 * 1 := by decide
  rw [e1, e2, Nat.or_comm, ← Nat.two_pow_add_eq_or_of_lt hm]
theorem bits_float {f : UInt32} (h : FP.Core.FFin f) : f_X2_floatBits f = some f.toInt32 := by
  obtain ⟨s, c, q, e⟩ := h
  have hq := fit_q32 e
  have hD := Dv.f2d e
  obtain ⟨en, en2⟩ := enc32 e
  unfold f_X2_floatBits
  rw [hD.g]
  have key : ∀ r : Int32, r = nI ((q + 149).toNat * 2 ^ 23 + c) → (if bI s = 0 then some r else some (r ||| (-2147483648))) = some f.toInt32 := by
    intro r hr
    cases s
    · rw [if_pos (by decide), hr]
      refine congrArg some (Int32.toBitVec_inj.mp (BitVec.eq_of_toNat_eq ?_))
      rw [pk_tn (by omega)]
      show _ = f.toNat
      rw [en]
      simp
    · rw [if_neg (by decide)]
      refine congrArg some (Int32.toBitVec_inj.mp (BitVec.eq_of_toNat_eq ?_))
      rw [or_min32 hr en2]
      show _ = f.toNat
      rw [en]
      simp
  by_cases hc : c = 0
  · subst hc
    have hq1 : q = -149 := by rcases hq.2.2.2 with y | y; exact y; omega
    subst hq1
    rw [Nat.zero_mul] at hD
    have m := minus_zero hD
    rw [cl_s (size_zero hD), cl_s (bits_zero hD 23 127), bv_i, hD.g, cl_s m]
    exact key _ rfl
  · have hc0 : 0 < c := by omega
    obtain ⟨r, e1, e2, _⟩ := size_pos hD (Nat.mul_pos hc0 (Nat.two_pow_pos _))
    have sb : f_X2_sizeBits r 23 127 = some (lN (((q + 1074).toNat + 127 + 23 - 1075) * 2 ^ 23 + c)) := size_bits (w := 23) (bias := 127) (k := (q + 1074).toNat) (by omega) (by omega) (by omega) (by omega) hc0 hq.2.2.1 (by omega) (by omega) (by omega) l23 s23 e2
    rw [show (q + 1074).toNat + 127 + 23 - 1075 = (q + 149).toNat by omega] at sb
    rw [cl_s e1, cl_s sb, bv_i, hD.g, cl_s (minus_pos hD (Nat.mul_pos hc0 (Nat.two_pow_pos _)))]
    exact key _ (lN_i _)
