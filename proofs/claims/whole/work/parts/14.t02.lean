section
variable (x y : Int) (op : CmpOp)
theorem cv_lt : Op.cmpValue (some (compare x y)) op < 0 ↔ x < y := by
  rw [FP.Core.compare_ite]
  by_cases h : x < y
  · rw [if_pos h]; exact ⟨fun _ => h, fun _ => by show (-1 : Int32) < 0; decide⟩
  · rw [if_neg h]
    by_cases h2 : x = y
    · rw [if_pos h2]; exact ⟨fun z => absurd (show (0 : Int32) < 0 from z) (by decide), fun z => absurd z h⟩
    · rw [if_neg h2]; exact ⟨fun z => absurd (show (1 : Int32) < 0 from z) (by decide), fun z => absurd z h⟩
theorem cv_ge : 0 ≤ Op.cmpValue (some (compare x y)) op ↔ y ≤ x := by
  rw [FP.Core.compare_ite]
  by_cases h : x < y
  · rw [if_pos h]; exact ⟨fun z => absurd (show (0 : Int32) ≤ -1 from z) (by decide), fun z => absurd z (by omega)⟩
  · rw [if_neg h]
    by_cases h2 : x = y
    · rw [if_pos h2]; exact ⟨fun _ => by omega, fun _ => by show (0 : Int32) ≤ 0; decide⟩
    · rw [if_neg h2]; exact ⟨fun _ => by omega, fun _ => by show (0 : Int32) ≤ 1; decide⟩
theorem cv_le : Op.cmpValue (some (compare x y)) op ≤ 0 ↔ x ≤ y := by
  rw [FP.Core.compare_ite]
  by_cases h : x < y
  · rw [if_pos h]; exact ⟨fun _ => by omega, fun _ => by show (-1 : Int32) ≤ 0; decide⟩
  · rw [if_neg h]
    by_cases h2 : x = y
    · rw [if_pos h2]; exact ⟨fun _ => by omega, fun _ => by show (0 : Int32) ≤ 0; decide⟩
    · rw [if_neg h2]; exact ⟨fun z => absurd (show (1 : Int32) ≤ 0 from z) (by decide), fun z => absurd z (by omega)⟩
theorem cv_gt : 0 < Op.cmpValue (some (compare x y)) op ↔ y < x := by
  rw [FP.Core.compare_ite]
  by_cases h : x < y
  · rw [if_pos h]; exact ⟨fun z => absurd (show (0 : Int32) < -1 from z) (by decide), fun z => absurd z (by omega)⟩
  · rw [if_neg h]
    by_cases h2 : x = y
    · rw [if_pos h2]; exact ⟨fun z => absurd (show (0 : Int32) < 0 from z) (by decide), fun z => absurd z (by omega)⟩
    · rw [if_neg h2]; exact ⟨fun _ => by omega, fun _ => by show (0 : Int32) < 1; decide⟩
theorem cv_eq : Op.cmpValue (some (compare x y)) op = 0 ↔ x = y := by
  rw [FP.Core.compare_ite]
  by_cases h : x < y
  · rw [if_pos h]; exact ⟨fun z => absurd (show (-1 : Int32) = 0 from z) (by decide), fun z => absurd z (by omega)⟩
  · rw [if_neg h]
    by_cases h2 : x = y
    · rw [if_pos h2]; exact ⟨fun _ => h2, fun _ => rfl⟩
    · rw [if_neg h2]; exact ⟨fun z => absurd (show (1 : Int32) = 0 from z) (by decide), fun z => absurd z h2⟩
end
def itM (b : UInt64) : Nat → UInt64 → UInt64
  | 0, a => a
  | i + 1, a => FP.dmul (itM b i a) b
theorem it_dbl {a : UInt64} {c k : Nat} (h : Dv a false (c * 2 ^ k)) (hc : c < 2 ^ 53) : ∀ i, k + i ≤ 2045 → Dv (itM 4611686018427387904 i a) false (c * 2 ^ (k + i))
  | 0, _ => h
  | i + 1, hi => by
    have e : c * 2 ^ (k + (i + 1)) = 2 * (c * 2 ^ (k + i)) := by
      rw [← Nat.add_assoc, Nat.pow_succ, Nat.mul_comm 2, Nat.mul_assoc]
    rw [e]
    exact (it_dbl h hc i (by omega)).dbl (rep_dbl hc (by omega))
theorem it_half {a : UInt64} {c k : Nat} (h : Dv a false (c * 2 ^ k)) (hc : c < 2 ^ 53) (hk : k ≤ 2045) : ∀ i, i ≤ k → Dv (itM 4602678819172646912 i a) false (c * 2 ^ (k - i))
  | 0, _ => h
  | i + 1, hi => by
    have e : c * 2 ^ (k - i) = 2 * (c * 2 ^ (k - (i + 1))) := by
      rw [show k - i = k - (i + 1) + 1 by omega, Nat.pow_succ, Nat.mul_comm 2, Nat.mul_assoc]
    have := it_half h hc hk i (by omega)
    rw [e] at this
    exact this.half (rep_mk hc (by omega))
theorem lt_pow {c w k n : Nat} (hc : c < 2 ^ (w + 1)) (h : w + 1 + k ≤ n) : c * 2 ^ k < 2 ^ n :=
  Nat.lt_of_lt_of_le (Nat.mul_lt_mul_of_pos_right hc (Nat.two_pow_pos k)) (by rw [← Nat.pow_add]; exact Nat.pow_le_pow_right (by decide) h)
theorem ge_pow {c w k n : Nat} (hc : 2 ^ w ≤ c) (h : n ≤ w + k) : 2 ^ n ≤ c * 2 ^ k :=
  Nat.le_trans (Nat.pow_le_pow_right (by decide) h) (by rw [Nat.pow_add]; exact Nat.mul_le_mul_right _ hc)
theorem lNt {n : Nat} (h : n < 2 ^ 63) : (lN n).toInt = (n : Int) := lg_ofNat_toInt h
theorem one_le_two_pow {n : Nat} : 0 < 2 ^ n := Nat.two_pow_pos n
section
variable {a : UInt64} {w bias c k : Nat}
theorem size_end (hw : w ≤ 52) (hbm : bias ≤ 1023) (hc : c < 2 ^ (w + 1)) (hk0 : 1075 ≤ k + bias + w) (hkM : k + w ≤ 1074 + bias)
    (hl : FP.Core.val64 (FP.l2d (1 <<< ((nI w).toInt64 &&& 63))) = .fin false (2 ^ 52) ((w : Int) - 52))
    (hs : ∀ e, e < 2047 → lN e <<< ((nI w).toInt64 &&& 63) = lN (e * 2 ^ w)) {part : UInt64} (hp : Dv part false (c * 2 ^ (1074 - w))) :
    f_X2_sizeBits_X82 (nI w) part (lN (k + bias + w - 1074)) = some (lN ((k + bias + w - 1075) * 2 ^ w + c)) := by
  unfold f_X2_sizeBits_X82
  have hw2 : 2 ^ w ≤ 2 ^ 52 := Nat.pow_le_pow_right (by decide) hw
  have hc2 : c < 2 * 2 ^ w := by rw [Nat.pow_succ] at hc; omega
  generalize hD : (c : Int) - ((2 ^ w : Nat) : Int) = D
  have hDa : D.natAbs < 2 ^ 53 := by omega
  have hV : FP.Core.signed false (c * 2 ^ (1074 - w)) - FP.Core.signed false (2 ^ 1074) = D * ((2 ^ (1074 - w) : Nat) : Int) := by
    show ((c * 2 ^ (1074 - w) : Nat) : Int) - ((2 ^ 1074 : Nat) : Int) = _
    rw [← hD, Int.sub_mul, Int.natCast_mul, ← Int.natCast_mul (2 ^ w), ← Nat.pow_add, show w + (1074 - w) = 1074 by omega]
  have hna : (D * ((2 ^ (1074 - w) : Nat) : Int)).natAbs = D.natAbs * 2 ^ (1074 - w) := by
    rw [Int.natAbs_mul, Int.natAbs_natCast]
  have d1 := hp.sub dv1 hV (by rw [hna]; exact rep_mk hDa (by omega))
  rw [hna] at d1
  have d2 := d1.mulp hl (52 - w) (by omega) (Z2 := D.natAbs * 2 ^ 1074) (by
    rw [Nat.mul_assoc, Nat.mul_assoc, ← Nat.pow_add, ← Nat.pow_add, show 1074 - w + ((w : Int) + ((52 - w : Nat) : Int)).toNat = 1074 + (52 - w) by omega]) (rep_mk hDa (by omega))
  rw [d1.g, d2.g, hs _ (by omega)]
  have hy : (FP.d2l (FP.dmul (FP.dsub part FP.dconst1) (FP.l2d (1 <<< ((nI w).toInt64 &&& 63))))).toInt = D := by
    have z := d2.zval
    obtain ⟨c', q', e1, e2⟩ := d2
    rw [show FP.d2l _ = FP.Core.d2l _ from rfl, FP.Core.d2l_val (by rw [e1]; intro h; cases h)]
    rw [e1]
    unfold FP.Core.sgn FP.Core.zmag
    dsimp only
    rw [qmin64, e2]
    unfold FP.Core.one64
    rw [Nat.mul_div_cancel _ (Nat.two_pow_pos 1074)]
    have hpos : 0 < ((2 ^ (1074 - w) : Nat) : Int) := Int.natCast_pos.mpr (Nat.two_pow_pos _)
    have hsg : FP.Core.signed (if D * ((2 ^ (1074 - w) : Nat) : Int) = 0 then false && !false else decide (D * ((2 ^ (1074 - w) : Nat) : Int) < 0)) D.natAbs = D := by
      by_cases z1 : D = 0
      · rw [z1, Int.zero_mul, if_pos rfl]; rfl
      · rw [if_neg (fun z => by rcases Int.mul_eq_zero.mp z with z | z; exact z1 z; omega)]
        by_cases z2 : D < 0
        · rw [decide_eq_true (Int.mul_neg_of_neg_of_pos z2 hpos)]
          unfold FP.Core.signed
          rw [if_pos rfl]; omega
        · rw [decide_eq_false (fun z => absurd (Int.mul_nonneg (show 0 ≤ D by omega) (Int.le_of_lt hpos)) (by omega))]
          unfold FP.Core.signed
          rw [if_neg (by decide)]; omega
    rw [hsg]
    omega
  refine congrArg some (Int64.toInt_inj.mp ?_)
  have b1 : (k + bias + w - 1074) * 2 ^ w ≤ 2046 * 2 ^ 52 := Nat.mul_le_mul (by omega) hw2
  have b2 : (k + bias + w - 1074) * 2 ^ w = (k + bias + w - 1075) * 2 ^ w + 2 ^ w := by
    rw [show k + bias + w - 1074 = (k + bias + w - 1075) + 1 by omega, Nat.add_mul, Nat.one_mul]
  have t1 : (lN ((k + bias + w - 1074) * 2 ^ w)).toInt = (((k + bias + w - 1074) * 2 ^ w : Nat) : Int) := lNt (by omega)
  rw [lNt (by omega), fb_addL (by rw [t1, hy]; omega) (by rw [t1, hy]; omega), t1, hy]
  omega
theorem size_bits (hk2 : k ≤ 2045) (hw : w ≤ 52) (hb2 : 2 ≤ bias) (hbm : bias ≤ 1023) (hc0 : 0 < c) (hc : c < 2 ^ (w + 1)) (hk0 : 1075 ≤ k + bias + w) (hkM : k + w ≤ 1074 + bias)
    (hn : k + bias + w = 1075 ∨ 2 ^ w ≤ c) (hl : FP.Core.val64 (FP.l2d (1 <<< ((nI w).toInt64 &&& 63))) = .fin false (2 ^ 52) ((w : Int) - 52))
    (hs : ∀ e, e < 2047 → lN e <<< ((nI w).toInt64 &&& 63) = lN (e * 2 ^ w)) (h : Dv a false (c * 2 ^ k)) :
    f_X2_sizeBits a (nI w) (nI bias) = some (lN ((k + bias + w - 1075) * 2 ^ w + c)) := by
  have hc53 : c < 2 ^ 53 := Nat.lt_of_lt_of_le hc (Nat.pow_le_pow_right (by decide) (by omega))
  have hZ0 : 0 < c * 2 ^ k := Nat.mul_pos hc0 (Nat.two_pow_pos k)
  unfold f_X2_sizeBits
  rw [h.cmp dv0, if_neg (by rw [cv_eq]; show ¬ ((c * 2 ^ k : Nat) : Int) = ((0 : Nat) : Int); omega), bv_i, nI_l (by omega)]
  have e2b : ((2 : Int32) * nI bias).toInt64 = lN (2 * bias) := by
    rw [show (2 : Int32) * nI bias = nI (2 * bias) from pk_mul 2 bias, nI_l (by omega)]
  have ge2 : ∀ {p : UInt64} {Z : Nat}, Dv p false Z → (Op.cmpValue (FP.dcmp p 4611686018427387904) .l < 0 ↔ Z < 2 ^ 1075) := fun {p Z} hp => by
    rw [hp.cmp dv2, cv_lt]
    show ((Z : Nat) : Int) < ((2 ^ 1075 : Nat) : Int) ↔ _
    omega
  have ge1 : ∀ {p : UInt64} {Z : Nat}, Dv p false Z → (0 ≤ Op.cmpValue (FP.dcmp p FP.dconst1) .g ↔ 2 ^ 1074 ≤ Z) := fun {p Z} hp => by
    rw [hp.cmp dv1, cv_ge]
    show ((2 ^ 1074 : Nat) : Int) ≤ ((Z : Nat) : Int) ↔ _
    omega
  by_cases hA : 1074 ≤ k + w
  · have hcn : 2 ^ w ≤ c := by
      rcases hn with hn | hn
      · omega
      · exact hn
    have dv : ∀ i, i ≤ k + w - 1074 → Dv (itM 4602678819172646912 i a) false (c * 2 ^ (k - i)) := fun i hi => it_half h hc53 (by omega) i (by omega)
    have l1 : loop (fun s : UInt64 × Int64 => f_X2_sizeBits_L15 (nI w) (nI bias) s.1 s.2) (a, lN bias) = some (itM 4602678819172646912 (k + w - 1074) a, lN (bias + (k + w - 1074))) :=
      loop_run (k + w - 1074) (fun i => (itM 4602678819172646912 i a, lN (bias + i))) rfl (fun i hi => by
        dsimp only
        unfold f_X2_sizeBits_L15
        rw [if_neg (by rw [ge2 (dv i (by omega))]; exact Nat.not_lt.mpr (ge_pow hcn (by omega))), e2b, if_neg (by rw [lg_cmp_ge, lN_le (by omega) (by omega)]; omega)]
        have := dv (i + 1) (by omega)
        show g64 (itM 4602678819172646912 (i + 1) a) _ = _
        rw [this.g, bv_i, lN_1]
        rfl) (by
        dsimp only
        unfold f_X2_sizeBits_L15
        rw [if_pos (by rw [ge2 (dv _ (Nat.le_refl _))]; exact lt_pow hc (by omega))])
    rw [cl_s l1]
    unfold f_X2_sizeBits_X51
    have dvn := dv _ (Nat.le_refl _)
    rw [show k - (k + w - 1074) = 1074 - w by omega] at dvn
    have l2 : loop (fun s : UInt64 × Int64 => f_X2_sizeBits_L51 (nI w) s.1 s.2) (itM 4602678819172646912 (k + w - 1074) a, lN (bias + (k + w - 1074))) = some (itM 4602678819172646912 (k + w - 1074) a, lN (bias + (k + w - 1074))) :=
      loop_run 0 (fun _ => (itM 4602678819172646912 (k + w - 1074) a, lN (bias + (k + w - 1074)))) rfl (fun i hi => absurd hi (by omega)) (by
        dsimp only
        unfold f_X2_sizeBits_L51
        rw [if_pos (by rw [ge1 dvn]; exact ge_pow hcn (by omega))])
    rw [cl_s l2]
    dsimp only
    rw [show bias + (k + w - 1074) = k + bias + w - 1074 by omega]
    exact size_end hw hbm hc hk0 hkM hl hs dvn
  · have dv : ∀ i, i ≤ 1074 - (k + w) → Dv (itM 4611686018427387904 i a) false (c * 2 ^ (k + i)) := fun i hi => it_dbl h hc53 i (by omega)
    have l1 : loop (fun s : UInt64 × Int64 => f_X2_sizeBits_L15 (nI w) (nI bias) s.1 s.2) (a, lN bias) = some (a, lN bias) :=
      loop_run 0 (fun _ => (a, lN bias)) rfl (fun i hi => absurd hi (by omega)) (by
        dsimp only
        unfold f_X2_sizeBits_L15
        rw [if_pos (by rw [ge2 h]; exact lt_pow hc (by omega))])
    rw [cl_s l1]
    unfold f_X2_sizeBits_X51
    have l2 : loop (fun s : UInt64 × Int64 => f_X2_sizeBits_L51 (nI w) s.1 s.2) (a, lN bias) = some (itM 4611686018427387904 (1074 - (k + w)) a, lN (bias - (1074 - (k + w)))) :=
      loop_run (1074 - (k + w)) (fun i => (itM 4611686018427387904 i a, lN (bias - i))) rfl (fun i hi => by
        dsimp only
        unfold f_X2_sizeBits_L51
        rw [if_neg (by rw [ge1 (dv i (by omega))]; exact Nat.not_le.mpr (lt_pow hc (by omega))), if_neg (by rw [lg_cmp_le, show (1 : Int64) = lN 1 from rfl, lN_le (by omega) (by omega)]; omega)]
        have := dv (i + 1) (by omega)
        show g64 (itM 4611686018427387904 (i + 1) a) _ = _
        rw [this.g, bv_i, show (1 : Int64) = lN 1 from rfl, lN_sub (by omega), Nat.sub_sub]) (by
        dsimp only
        unfold f_X2_sizeBits_L51
        rcases hn with hn | hn
        · by_cases z : 0 ≤ Op.cmpValue (FP.dcmp (itM 4611686018427387904 (1074 - (k + w)) a) FP.dconst1) .g
          · rw [if_pos z]
          · rw [if_neg z, if_pos (by rw [lg_cmp_le, show (1 : Int64) = lN 1 from rfl, lN_le (by omega) (by omega)]; omega)]
        · rw [if_pos (by rw [ge1 (dv _ (Nat.le_refl _))]; exact ge_pow hn (by omega))])
    rw [cl_s l2]
    dsimp only
    have dvn := dv _ (Nat.le_refl _)
    rw [show k + (1074 - (k + w)) = 1074 - w by omega] at dvn
    rw [show bias - (1074 - (k + w)) = k + bias + w - 1074 by omega]
    exact size_end hw hbm hc hk0 hkM hl hs dvn
end
