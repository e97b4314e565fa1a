/-! The rest is Java's. -/
theorem Dv.rep {a : UInt64} {s : Bool} {Z : Nat} (h : Dv a s Z) : ∃ c k, Z = c * 2 ^ k ∧ c < 2 ^ 53 ∧ k ≤ 2045 := by
  obtain ⟨c, q, e, e2⟩ := h
  have hq := fit_q e
  refine ⟨c, (q + 1074).toNat, ?_, hq.2.2.1, by omega⟩
  rw [← e2]
  unfold FP.Core.inUnits
  rw [Int.sub_neg]
theorem Dv.inj {a b : UInt64} {s : Bool} {Z : Nat} (ha : Dv a s Z) (hb : Dv b s Z) : a = b := by
  have na := ha.fin.ne_nan
  have nb := hb.fin.ne_nan
  have ma : FP.Core.zmag FP.Core.b64 (FP.Core.val64 a) = Z := by
    obtain ⟨c, q, e, e2⟩ := ha
    rw [e]; unfold FP.Core.zmag; dsimp only; rw [qmin64, e2]
  have mb : FP.Core.zmag FP.Core.b64 (FP.Core.val64 b) = Z := by
    obtain ⟨c, q, e, e2⟩ := hb
    rw [e]; unfold FP.Core.zmag; dsimp only; rw [qmin64, e2]
  have sa : FP.Core.sgn (FP.Core.val64 a) = s := by
    obtain ⟨c, q, e, e2⟩ := ha
    rw [e]; rfl
  have sb : FP.Core.sgn (FP.Core.val64 b) = s := by
    obtain ⟨c, q, e, e2⟩ := hb
    rw [e]; rfl
  rw [FP.Core.zmag_bits na] at ma
  rw [FP.Core.zmag_bits nb] at mb
  rw [FP.Core.sgn_bits na] at sa
  rw [FP.Core.sgn_bits nb] at sb
  have h1 : a.toNat % 2 ^ 63 = b.toNat % 2 ^ 63 := by
    rcases Nat.lt_trichotomy (a.toNat % 2 ^ 63) (b.toNat % 2 ^ 63) with z | z | z
    · have := FP.Core.unitsOf_lt (f := FP.Core.b64) z
      omega
    · exact z
    · have := FP.Core.unitsOf_lt (f := FP.Core.b64) z
      omega
  have h2 : decide (2 ^ 63 ≤ a.toNat) = decide (2 ^ 63 ≤ b.toNat) := sa.trans sb.symm
  have h3 : 2 ^ 63 ≤ a.toNat ↔ 2 ^ 63 ≤ b.toNat := by
    by_cases z : 2 ^ 63 ≤ a.toNat
    · rw [decide_eq_true z] at h2
      exact ⟨fun _ => of_decide_eq_true h2.symm, fun _ => z⟩
    · rw [decide_eq_false z] at h2
      exact ⟨fun y => absurd y z, fun y => absurd y (of_decide_eq_false h2.symm)⟩
  have l1 := a.toNat_lt
  have l2 := b.toNat_lt
  exact UInt64.toNat_inj.mp (by omega)
theorem Dv.rem {a b : UInt64} {s t : Bool} {Z W : Nat} (ha : Dv a s Z) (hb : Dv b t W) (hW : 0 < W) : Dv (FP.drem a b) s (Z % W) := by
  have hz : ¬ FP.Core.DZero b := by
    refine FP.Core.dnot_zero hb.fin.ne_nan ?_
    rw [hb.zval]
    intro q
    have := (FP.Core.signed_eq_zero t W).mp q
    omega
  obtain ⟨c, q, e, e2⟩ := ha
  obtain ⟨d, r, g, g2⟩ := hb
  have hd : d ≠ 0 := by
    intro z
    subst z
    unfold FP.Core.inUnits at g2
    omega
  obtain ⟨c', q', h1, h2⟩ := FP.Core.drem_exact e g hd
  refine ⟨c', q', h1, ?_⟩
  rw [qmin64] at h2
  rw [h2, e2, g2]
theorem pow_le_of {c k n : Nat} (h : 2 ^ n ≤ c * 2 ^ k) (hc : c < 2 ^ 53) : n < 53 + k := by
  apply Classical.byContradiction
  intro z
  have h1 : c * 2 ^ k < 2 ^ 53 * 2 ^ k := Nat.mul_lt_mul_of_pos_right hc (Nat.two_pow_pos k)
  rw [← Nat.pow_add] at h1
  have h2 : 2 ^ (53 + k) ≤ 2 ^ n := Nat.pow_le_pow_right (by decide) (by omega)
  omega
theorem k_lt_of {c k n : Nat} (h : c * 2 ^ k < 2 ^ n) (hc : 0 < c) : k < n := by
  apply Classical.byContradiction
  intro z
  have h1 : 2 ^ n ≤ 2 ^ k := Nat.pow_le_pow_right (by decide) (by omega)
  have h2 : 1 * 2 ^ k ≤ c * 2 ^ k := Nat.mul_le_mul_right _ hc
  omega
/-- what is left of a number no more than twice the other one -/
theorem rep_sub {L S : Nat} (hL : ∃ c k, L = c * 2 ^ k ∧ c < 2 ^ 53 ∧ k ≤ 2045) (hS : ∃ c k, S = c * 2 ^ k ∧ c < 2 ^ 53 ∧ k ≤ 2045) (h1 : S ≤ L) (h2 : L < 2 * S) : rep (L - S) := by
  obtain ⟨c, k, e, hc, hk⟩ := hL
  obtain ⟨d, j, g, hd, hj⟩ := hS
  by_cases z : k ≤ j
  · have g2 : S = (d * 2 ^ (j - k)) * 2 ^ k := by
      rw [g, Nat.mul_assoc, ← Nat.pow_add, Nat.sub_add_cancel z]
    refine ⟨c - d * 2 ^ (j - k), k, ?_, by omega, hk⟩
    rw [Nat.sub_mul, ← e, ← g2]
  · have e2 : L = (c * 2 ^ (k - j)) * 2 ^ j := by
      rw [e, Nat.mul_assoc, ← Nat.pow_add, Nat.sub_add_cancel (by omega)]
    refine ⟨c * 2 ^ (k - j) - d, j, ?_, ?_, hj⟩
    · rw [Nat.sub_mul, ← e2, ← g]
    · have : c * 2 ^ (k - j) < 2 * d := by
        apply Nat.lt_of_mul_lt_mul_right (a := 2 ^ j)
        rw [← e2, Nat.mul_assoc, ← g]
        exact h2
      omega
theorem rest_eq {a b : UInt64} {s : Bool} {Z W : Nat} (ha : Dv a s Z) (hb : Dv b false W) (hW : 2 ^ 1071 ≤ W) (hZ : Z < 2 ^ 1116) : f_X2_rest a b = some (FP.drem a b) := by
  have hW0 : 0 < W := Nat.lt_of_lt_of_le (Nat.two_pow_pos 1071) hW
  have hrem := ha.rem hb hW0
  unfold f_X2_rest
  by_cases hlt : Z < W
  · have same : FP.drem a b = a := by
      rw [Nat.mod_eq_of_lt hlt] at hrem
      exact hrem.inj ha
    by_cases hz0 : Z = 0
    · subst hz0
      rw [cl_s (size_zero ha), ha.cmp hb, if_neg (by rw [cv_ge, FP.Core.signed_zero]; show ¬ ((W : Nat) : Int) ≤ 0; omega), same]
    · obtain ⟨r, e1, e2, _⟩ := size_pos ha (by omega)
      rw [cl_s e1, e2.cmp hb, if_neg (by rw [cv_ge]; show ¬ ((W : Nat) : Int) ≤ ((Z : Nat) : Int); omega), same]
  · have hge : W ≤ Z := by omega
    obtain ⟨left, e1, hl, _⟩ := size_pos ha (by omega)
    rw [cl_s e1, hl.cmp hb, if_pos (by rw [cv_ge]; show ((W : Nat) : Int) ≤ ((Z : Nat) : Int); omega)]
    obtain ⟨cz, kz, ez, hcz, hkz⟩ := hl.rep
    obtain ⟨cw, kw, ew, hcw, hkw⟩ := hb.rep
    have hkz1 : 1018 < kz := by
      have := pow_le_of (n := 1071) (c := cz) (k := kz) (by rw [← ez]; omega) hcz
      omega
    have hkw1 : 1018 < kw := by
      have := pow_le_of (n := 1071) (c := cw) (k := kw) (by rw [← ew]; exact hW) hcw
      omega
    have hkw2 : kw < 1116 := k_lt_of (c := cw) (by rw [← ew]; omega) (by
      apply Nat.pos_of_ne_zero
      intro z
      rw [z, Nat.zero_mul] at ew
      omega)
    have eH : Z = 2 * (cz * 2 ^ (kz - 1)) := by
      rw [ez, show 2 ^ kz = 2 ^ (kz - 1) * 2 by rw [← Nat.pow_succ]; congr 1; omega, ← Nat.mul_assoc, Nat.mul_comm 2]
    generalize hH : cz * 2 ^ (kz - 1) = H at eH
    have hl2 : Dv left false (2 * H) := by rw [← eH]; exact hl
    have dh := hl2.half (by rw [← hH]; exact rep_mk hcz (by omega))
    have pw : ∀ i, W * 2 ^ i = cw * 2 ^ (kw + i) := fun i => by rw [ew, Nat.mul_assoc, ← Nat.pow_add]
    obtain ⟨st, l1, n, hn, hst, hd, hu, hlo⟩ := loop1 (b := fun t : UInt64 × Int32 => f_X2_rest_L21 a left t.1 t.2) (s := (b, 0)) (fun i t => t.2 = nI i ∧ Dv t.1 false (W * 2 ^ i) ∧ W * 2 ^ i ≤ Z) (fun t => ∃ n, n ≤ 60 ∧ t.2 = nI n ∧ Dv t.1 false (W * 2 ^ n) ∧ Z < 2 * (W * 2 ^ n) ∧ W * 2 ^ n ≤ Z) 60 ⟨rfl, by rw [Nat.pow_zero, Nat.mul_one]; exact hb, by rw [Nat.pow_zero, Nat.mul_one]; exact hge⟩ (by
      rintro i ⟨st, x⟩ hi ⟨rfl, hs, hle⟩
      dsimp only at hs ⊢
      unfold f_X2_rest_L21
      rw [dh.g, hs.cmp dh]
      by_cases z : H < W * 2 ^ i
      · rw [if_pos (by rw [cv_gt]; show ((H : Nat) : Int) < ((W * 2 ^ i : Nat) : Int); exact Int.ofNat_lt.mpr z)]
        exact Or.inr ⟨_, rfl, i, hi, rfl, hs, by omega, hle⟩
      · have hi45 : i < 45 := by
          apply Classical.byContradiction
          intro y
          have y1 : 2 ^ 1071 * 2 ^ i ≤ W * 2 ^ i := Nat.mul_le_mul_right _ hW
          rw [← Nat.pow_add] at y1
          have y2 : 2 ^ 1116 ≤ 2 ^ (1071 + i) := Nat.pow_le_pow_right (by decide) (by omega)
          omega
        rw [if_neg (by rw [cv_gt]; show ¬ ((H : Nat) : Int) < ((W * 2 ^ i : Nat) : Int); exact fun y => z (Int.ofNat_lt.mp y)), if_neg (show ¬ 1023 ≤ nI i from nI_ge (b := 1023) (by omega) (by decide))]
        have ed : W * 2 ^ (i + 1) = 2 * (W * 2 ^ i) := by rw [Nat.pow_succ, ← Nat.mul_assoc, Nat.mul_comm]
        have d2 := hs.dbl (by rw [← ed, pw]; exact rep_mk hcw (by omega))
        have ei : nI i + 1 = nI (i + 1) := nI_1 i
        rw [d2.g, bv_i, ei]
        exact Or.inl ⟨_, rfl, by omega, rfl, by rw [ed]; exact d2, by rw [ed]; omega⟩)
    obtain ⟨st, x⟩ := st
    dsimp only at hst hd
    subst hst
    rw [cl_s l1]
    dsimp only
    unfold f_X2_rest_X55
    have hc0 : 2 ^ 1018 ≤ 2 ^ kw := Nat.pow_le_pow_right (by decide) (by omega)
    obtain ⟨lf, l2, hlf⟩ := loop1 (b := fun t : UInt64 × UInt64 × Int32 => f_X2_rest_L59 a t.1 t.2.1 t.2.2) (s := (left, st, nI n)) (fun i t => (i ≤ n ∧ t.2.2 = nI (n - i) ∧ Dv t.2.1 false (W * 2 ^ (n - i)) ∧ ∃ L, Dv t.1 false L ∧ L < 2 * (W * 2 ^ (n - i)) ∧ L % W = Z % W) ∨ (i = n + 1 ∧ t.2.2 = -1 ∧ ∃ L, Dv t.1 false L ∧ L < W ∧ L % W = Z % W)) (fun t => Dv t false (Z % W)) (n + 1) (Or.inl ⟨by omega, rfl, hd, Z, hl, hu, rfl⟩) (by
      rintro i ⟨lf, sp, x⟩ hi h
      dsimp only at h ⊢
      unfold f_X2_rest_L59
      rcases h with ⟨hi2, rfl, hsp, L, hL, hL2, hL3⟩ | ⟨hi2, rfl, L, hL, hL2, hL3⟩
      · rw [if_neg (nI_pos (by omega)), hL.cmp hsp]
        have hhalf : ∃ V, W * 2 ^ (n - i) = 2 * V ∧ (i < n → V = W * 2 ^ (n - (i + 1))) ∧ Dv (FP.dmul sp 4602678819172646912) false V := by
          have e2 : W * 2 ^ (n - i) = 2 * (cw * 2 ^ (kw + (n - i) - 1)) := by
            rw [pw, show 2 ^ (kw + (n - i)) = 2 ^ (kw + (n - i) - 1) * 2 by rw [← Nat.pow_succ]; congr 1; omega, ← Nat.mul_assoc, Nat.mul_comm 2]
          refine ⟨cw * 2 ^ (kw + (n - i) - 1), e2, fun hin => ?_, ?_⟩
          · rw [pw, show kw + (n - i) - 1 = kw + (n - (i + 1)) by omega]
          · rw [e2] at hsp
            exact hsp.half (rep_mk hcw (by omega))
        obtain ⟨V, hV, hV2, dV⟩ := hhalf
        have next : ∀ {l2 : UInt64} {L2 : Nat}, Dv l2 false L2 → L2 < W * 2 ^ (n - i) → L2 % W = Z % W → ((i + 1 ≤ n ∧ nI (n - i) + (-1) = nI (n - (i + 1)) ∧ Dv (FP.dmul sp 4602678819172646912) false (W * 2 ^ (n - (i + 1))) ∧ ∃ L, Dv l2 false L ∧ L < 2 * (W * 2 ^ (n - (i + 1))) ∧ L % W = Z % W) ∨ (i + 1 = n + 1 ∧ nI (n - i) + (-1) = -1 ∧ ∃ L, Dv l2 false L ∧ L < W ∧ L % W = Z % W)) := by
          intro l2 L2 d1 d2 d3
          by_cases hin : i = n
          · subst hin
            rw [Nat.sub_self, Nat.pow_zero, Nat.mul_one] at d2
            refine Or.inr ⟨rfl, ?_, L2, d1, d2, d3⟩
            rw [Nat.sub_self]
            rfl
          · refine Or.inl ⟨by omega, ?_, ?_, L2, d1, ?_, d3⟩
            · rw [sb_m1 (by omega)]
              congr 1
            · rw [← hV2 (by omega)]; exact dV
            · rw [← hV2 (by omega), ← hV]; exact d2
        by_cases z : L < W * 2 ^ (n - i)
        · rw [if_pos (by rw [cv_lt]; show ((L : Nat) : Int) < ((W * 2 ^ (n - i) : Nat) : Int); exact Int.ofNat_lt.mpr z), dV.g, bv_i]
          exact Or.inl ⟨_, rfl, by omega, next hL z hL3⟩
        · rw [if_neg (by rw [cv_lt]; show ¬ ((L : Nat) : Int) < ((W * 2 ^ (n - i) : Nat) : Int); exact fun y => z (Int.ofNat_lt.mp y))]
          have hVV : FP.Core.signed false L - FP.Core.signed false (W * 2 ^ (n - i)) = ((L - W * 2 ^ (n - i) : Nat) : Int) := by
            show ((L : Nat) : Int) - ((W * 2 ^ (n - i) : Nat) : Int) = _
            omega
          have d3 := hL.sub hsp hVV (by rw [Int.natAbs_natCast]; exact rep_sub hL.rep hsp.rep (by omega) hL2)
          rw [Int.natAbs_natCast] at d3
          have hsg : (if ((L - W * 2 ^ (n - i) : Nat) : Int) = 0 then false && !false else decide (((L - W * 2 ^ (n - i) : Nat) : Int) < 0)) = false := by
            by_cases y : ((L - W * 2 ^ (n - i) : Nat) : Int) = 0
            · rw [if_pos y]; rfl
            · rw [if_neg y]; exact decide_eq_false (by omega)
          rw [hsg] at d3
          rw [d3.g, dV.g, bv_i]
          refine Or.inl ⟨_, rfl, by omega, next d3 (by omega) ?_⟩
          rw [← hL3]
          have : L = (L - W * 2 ^ (n - i)) + W * 2 ^ (n - i) := by omega
          rw [this, Nat.add_mul_mod_self_left, ← this]
      · rw [if_pos (by decide)]
        refine Or.inr ⟨_, rfl, ?_⟩
        rw [Nat.mod_eq_of_lt hL2] at hL3
        rw [← hL3]
        exact hL)
    rw [cl_s l2]
    unfold f_X2_rest_X93
    rw [ha.cmp dv0]
    cases s
    · rw [if_pos (by rw [cv_ge]; show ((0 : Nat) : Int) ≤ ((Z : Nat) : Int); omega), hlf.inj hrem]
    · rw [if_neg (by rw [cv_ge]; show ¬ ((0 : Nat) : Int) ≤ -((Z : Nat) : Int); omega), hlf.neg.inj hrem]
