/-! The two forms: the answers. -/
theorem sub_turn {a b : UInt64} {Z W : Nat} (ha : Dv a false Z) (hb : Dv b false W) (hne : Z ≠ W) : FP.Core.val64 (FP.dsub a b) = FP.Core.negate (FP.Core.val64 (FP.dsub b a)) := by
  obtain ⟨c, q, e, e2⟩ := ha
  obtain ⟨d, r, g, g2⟩ := hb
  have hq := (fit_q e).1
  have hq2 := (fit_q g).1
  rw [show FP.Core.val64 (FP.dsub a b) = _ from FP.Core.val64_dsub a b, show FP.Core.val64 (FP.dsub b a) = _ from FP.Core.val64_dsub b a, FP.Core.negate_round, e, g]
  congr 1
  show FP.Core.Datum.fin (FP.Core.sumSign false true (FP.Core.sumUnits false c q true d r (min q r))) (FP.Core.sumUnits false c q true d r (min q r)).natAbs (min q r) = FP.Core.Datum.fin (!(FP.Core.sumSign false true (FP.Core.sumUnits false d r true c q (min r q)))) (FP.Core.sumUnits false d r true c q (min r q)).natAbs (min r q)
  rw [show min r q = min q r by omega]
  generalize hm : min q r = m
  have hv2 : FP.Core.sumUnits false d r true c q m = -FP.Core.sumUnits false c q true d r m := by
    show ((FP.Core.inUnits d r m : Nat) : Int) + -((FP.Core.inUnits c q m : Nat) : Int) = -(((FP.Core.inUnits c q m : Nat) : Int) + -((FP.Core.inUnits d r m : Nat) : Int))
    omega
  have hv0 : FP.Core.sumUnits false c q true d r m ≠ 0 := by
    intro z
    have z2 : FP.Core.inUnits c q m = FP.Core.inUnits d r m := by
      have : ((FP.Core.inUnits c q m : Nat) : Int) + -((FP.Core.inUnits d r m : Nat) : Int) = 0 := z
      omega
    apply hne
    rw [← e2, ← g2]
    have k1 : FP.Core.inUnits c q (-1074) = FP.Core.inUnits c q m * 2 ^ (m + 1074).toNat := by
      unfold FP.Core.inUnits
      rw [Nat.mul_assoc, ← Nat.pow_add, show (q - m).toNat + (m + 1074).toNat = (q - -1074).toNat by omega]
    have k2 : FP.Core.inUnits d r (-1074) = FP.Core.inUnits d r m * 2 ^ (m + 1074).toNat := by
      unfold FP.Core.inUnits
      rw [Nat.mul_assoc, ← Nat.pow_add, show (r - m).toNat + (m + 1074).toNat = (r - -1074).toNat by omega]
    rw [k1, k2, z2]
  rw [hv2]
  generalize FP.Core.sumUnits false c q true d r m = v at hv0
  have hs : FP.Core.sumSign false true v = !FP.Core.sumSign false true (-v) := by
    unfold FP.Core.sumSign
    rw [if_neg hv0, if_neg (by omega)]
    by_cases y : v < 0
    · rw [decide_eq_true y, decide_eq_false (by omega)]; rfl
    · rw [decide_eq_false y, decide_eq_true (by omega)]; rfl
  rw [← hs, Int.natAbs_neg]
theorem sub_pos {a b : UInt64} {Z W : Nat} (ha : Dv a false Z) (hb : Dv b false W) (hlt : W < Z) (fd : FP.Core.DFin (FP.dsub a b)) : ∃ X, Dv (FP.dsub a b) false X ∧ 0 < X := by
  obtain ⟨s, X, hD⟩ := Dv.ofFin fd
  have h1 : FP.Core.zval FP.Core.b64 (FP.Core.val64 1) = 1 := by decide +kernel
  have hz := FP.Core.sum_ge FP.Core.good_b64 (x := FP.Core.val64 a) (y := FP.Core.negate (FP.Core.val64 b)) (V := FP.Core.val64 1) ha.fin (by
    obtain ⟨d, r, g, _⟩ := hb
    rw [g]
    exact ⟨_, _, _, rfl⟩) (FP.Core.val64_fits a) (FP.Core.negate_fits (FP.Core.val64_fits b)) (FP.Core.val64_fits 1) (by decide +kernel) (by
    rw [FP.Core.zval_negate, ha.zval, hb.zval, h1]
    show (1 : Int) ≤ ((Z : Nat) : Int) + -((W : Nat) : Int)
    omega)
  rw [h1, ← show FP.Core.val64 (FP.dsub a b) = _ from FP.Core.val64_dsub a b, hD.zval] at hz
  cases s
  · have : (1 : Int) ≤ ((X : Nat) : Int) := hz
    exact ⟨X, hD, by omega⟩
  · have : (1 : Int) ≤ -((X : Nat) : Int) := hz
    omega
theorem gap_eq {a b : UInt64} (ha : Md 1142 a ∧ Nn a) (hb : Md 1142 b ∧ Nn b) : f_X2_size (FP.dsub a b) = some (FP.dsub (mxV a b) (mnV a b)) := by
  have fa := ha.1.fin (by decide)
  have fb := hb.1.fin (by decide)
  obtain ⟨s, Z, hA⟩ := Dv.ofFin fa
  obtain ⟨t, W, hB⟩ := Dv.ofFin fb
  have h1 := hA.nn.mp ha.2
  have h2 := hB.nn.mp hb.2
  subst h1 h2
  have m1 : Md 1144 (FP.dsub a b) := ha.1.sub hb.1 (by decide) (by decide)
  have m2 : Md 1144 (FP.dsub b a) := hb.1.sub ha.1 (by decide) (by decide)
  have le1 := hA.bits_le hB
  have na := ha.2
  have nb := hb.2
  unfold Nn at na nb
  rw [Nat.mod_eq_of_lt na, Nat.mod_eq_of_lt nb] at le1
  rcases Nat.lt_trichotomy Z W with z | z | z
  · have zle : a.toNat ≤ b.toNat := le1.mpr (by omega)
    obtain ⟨X, hX, hX0⟩ := sub_pos hB hA z (m2.fin (by decide))
    have ht := sub_turn hA hB (by omega)
    have hd : Dv (FP.dsub a b) true X := by
      obtain ⟨c, q, e, e2⟩ := hX
      rw [e] at ht
      exact ⟨c, q, ht, e2⟩
    unfold mxV mnV f_X2_size
    rw [if_pos zle, if_pos zle, if_neg (by
      rw [hd.cmp dv0, cv_ge]
      show ¬ (0 : Int) ≤ -((X : Nat) : Int)
      omega)]
    exact congrArg some (Dv.inj (s := false) hd.neg hX)
  · subst z
    have e : a = b := Dv.inj hA hB
    subst e
    have he : FP.dsub a a = FP.dconst0 := by
      obtain ⟨c, q, e, _⟩ := hA
      exact FP.Core.dsub_self e
    have e3 : FP.dsub (mxV a a) (mnV a a) = FP.dconst0 := by
      unfold mxV mnV
      rw [if_pos (Nat.le_refl _)]
      exact he
    rw [e3, he]
    exact size_zero dv0
  · have zle : ¬ a.toNat ≤ b.toNat := fun q => by have := le1.mp q; omega
    obtain ⟨X, hX, hX0⟩ := sub_pos hA hB z (m1.fin (by decide))
    unfold mxV mnV f_X2_size
    rw [if_neg zle, if_neg zle, if_pos (by
      rw [hX.cmp dv0, cv_ge]
      show (0 : Int) ≤ ((X : Nat) : Int)
      omega)]
theorem forms_rel {A B : St} (h : Rel A B) : ∃ fl A2 B2, f_X1_findForms A = some (fl, A2) ∧ f_X6_areForms B = some (fl, B2) ∧ Rel A2 B2 ∧ (fl = true → A2.1 2 1 = B2.1 0 6 ∧ A2.1 2 2 = B2.1 0 7 ∧ f_X1_formsGap A2 = some (B2.2.1 0 8) ∧ FP.Core.DFin (B2.2.1 0 8)) := by
  have h0 := h
  obtain ⟨⟨k, hb⟩, _⟩ := h0
  have hk := hb.1
  obtain ⟨A3, e3, hR3, hb3, hRR3, hRA3, hL3⟩ := list_rel h hb
  obtain ⟨B3, f3, k1, k2, k3, k4⟩ := flist hb3 hRR3 hRA3
  obtain ⟨l1, l2, l3⟩ := hL3
  generalize hLL : fb_ct (pB B) (2 ^ k) = L at l1 l2 f3
  have kth : ∀ j, j < L → ∃ m, m < 2 ^ k ∧ A3.1 40 j = nI m ∧ A3.2.1 41 j = vB B m ∧ B3.1 4 j = nI m ∧ B3.2.1 5 j = vB B m := by
    intro j hj
    rw [← hLL] at hj
    obtain ⟨m, hm, hp, hc⟩ := fb_ct_kth hj
    have a1 := l3 m hm hp
    have a2 := k4 m hm hp
    rw [hc] at a1 a2
    exact ⟨m, hm, a1.1, a1.2, a2.1, a2.2⟩
  have hV : okV (A3.2.1 41) L := by
    intro j hj
    obtain ⟨m, hm, _, a2, _⟩ := kth j hj
    rw [a2]
    exact (vB_eq hb3 hRA3 hm).2.2
  have h4 : ∀ j, j < L → B3.1 4 j = A3.1 40 j := by
    intro j hj
    obtain ⟨m, hm, a1, a2, a3, a4⟩ := kth j hj
    rw [a1, a3]
  have h5 : ∀ j, j < L → B3.2.1 5 j = A3.2.1 41 j := by
    intro j hj
    obtain ⟨m, hm, a1, a2, a3, a4⟩ := kth j hj
    rw [a2, a4]
  have hS : okS (A3.1 40) (A3.2.1 41) L (false, 0, 0, 0, 0) := fun z => by cases z
  have hrR : refS B3 (false, 0, 0, 0, 0) 0 FP.dconst0 B3 := ⟨rfl, (fun z => by cases z), fun _ _ => rfl, rfl, fun _ _ => rfl, rfl⟩
  have hrC : clsS A3 (false, 0, 0, 0, 0) 13830554455654793216 A3 := ⟨fun _ => rfl, (fun z => by cases z), fun _ _ => rfl, rfl, rfl⟩
  obtain ⟨fl, le2, B4, e4, hB4⟩ := refOut l2 hV h4 h5 hS hrR
  obtain ⟨le1, A4, e5, hA4⟩ := clsOut l2 hV l1 (fun _ _ => rfl) (fun _ _ => rfl) hS hrC
  have hfin := okS_fin2 hS L (Nat.le_refl _)
  generalize fin2 (A3.1 40) (A3.2.1 41) L (false, 0, 0, 0, 0) L = S at hB4 hA4 hfin
  obtain ⟨b1, b2, b3, b4, b5, b6⟩ := hB4
  obtain ⟨a0, a1, a2, a3, a4⟩ := hA4
  refine ⟨S.1, A4, B4, ?_, ?_, ?_, ?_⟩
  · unfold f_X1_findForms
    rw [cl_s e3, cl_s e5]
    show f_X1_findForms_X139 A4 le1 = _
    unfold f_X1_findForms_X139
    cases hT : S.1
    · rw [a0 hT, if_pos (by
        rw [dvm1.cmp dv0, cv_lt]
        show -((2 ^ 1074 : Nat) : Int) < 0
        have := Nat.two_pow_pos 1074
        generalize 2 ^ 1074 = X at this
        omega)]
    · have hn := hfin.num hV hT
      obtain ⟨s, Z, hD⟩ := Dv.ofFin (hn.1.fin (by decide))
      have hs := hD.nn.mp hn.2
      subst hs
      rw [(a1 hT).1, if_neg (by
        rw [hD.cmp dv0, cv_lt]
        show ¬ ((Z : Nat) : Int) < 0
        omega)]
  · unfold f_X6_areForms
    rw [cl_s f3]
    show f_X6_areForms_X54 B3 (nI L) = _
    unfold f_X6_areForms_X54
    rw [bv_i, cl_s e4]
    show f_X6_areForms_X196 B4 fl = _
    unfold f_X6_areForms_X196
    rw [b1]
    cases S.1 <;> rfl
  · refine hR3.to ⟨fun c hc => a2 c (by omega), by rw [a2 0 (by omega)], fun c h1 h2 => by rw [a4]⟩ ⟨fun c hc => ?_, ?_, fun c h1 h2 => ?_, ?_⟩
    · rw [b3 c (by omega)]; exact k1 c (by omega)
    · rw [b4, k1 0 (by omega)]
    · rw [b5 c (by omega)]; exact k2 c (by omega)
    · rw [b6, k3]
  · intro hT
    obtain ⟨p, q, hp, hq, c1, c2, c3, c4⟩ := hfin hT
    obtain ⟨x1, x2, x3⟩ := a1 hT
    obtain ⟨y1, y2, y3, y4⟩ := b2 hT
    obtain ⟨m, hm, m1, m2, _, _⟩ := kth p hp
    obtain ⟨n, hn, n1, n2, _, _⟩ := kth q hq
    have vm := vB_eq hb3 hRA3 hm
    have vn := vB_eq hb3 hRA3 hn
    have md : Md 1144 (FP.dsub (vB B m) (vB B n)) := vm.2.2.1.sub vn.2.2.1 (by decide) (by decide)
    have mmn := mnV_of (p := fun x => Md 1142 x ∧ Nn x) vm.2.2 vn.2.2
    have mmx := mxV_of (p := fun x => Md 1142 x ∧ Nn x) vm.2.2 vn.2.2
    have md2 : Md 1144 (FP.dsub (mxV (vB B m) (vB B n)) (mnV (vB B m) (vB B n))) := mmx.1.sub mmn.1 (by decide) (by decide)
    refine ⟨x2.trans y2.symm, x3.trans y3.symm, ?_, ?_⟩
    · unfold f_X1_formsGap
      rw [x2, x3, c2, c3, m1, n1, valueOf_congr a4 (a2 3 (by omega)), valueOf_congr a4 (a2 3 (by omega)), cl_s vm.1, cl_s vn.1, g64_fin (md.fin (by decide)), cl_s (gap_eq vm.2.2 vn.2.2), y4, c4, m2, n2]
    · rw [y4, c4, m2, n2]
      exact md2.fin (by decide)
theorem SM_forms {A B : St} (h : Rel A B) (x1 : Int32) : SM (f_X5_forms x1 A) (f_X6_forms x1 B) := by
  unfold f_X5_forms f_X6_forms
  refine SM_chk (within_eq x1 0 1) (in_eq x1 0 1) (fun _ => SM_find h 0 (by decide)) fun q1 => ?_
  obtain ⟨fl, A2, B2, e1, e2, hR, hf⟩ := forms_rel h
  rw [cl2_s e1, cl2_s e2]
  cases fl
  · rw [if_pos (show bI false = 0 from rfl), if_pos (show bI false = 0 from rfl)]
    exact SM_find hR 3 (by decide)
  · obtain ⟨f1, f2, _⟩ := hf rfl
    rw [if_neg (show ¬ bI true = 0 by decide), if_neg (show ¬ bI true = 0 by decide)]
    by_cases z : x1 = 0
    · rw [if_pos z, if_pos z]
      exact SM_ret f1 hR
    · rw [if_neg z, if_neg z]
      exact SM_ret f2 hR
theorem SM_gap {A B : St} (h : Rel A B) : SM (f_X5_gap A) (f_X6_gap B) := by
  unfold f_X5_gap f_X6_gap
  obtain ⟨fl, A2, B2, e1, e2, hR, hf⟩ := forms_rel h
  rw [cl2_s e1, cl2_s e2]
  cases fl
  · rw [if_pos (show bI false = 0 from rfl), if_pos (show bI false = 0 from rfl)]
    exact SM_findL hR 3 (by decide)
  · obtain ⟨_, _, f3, f4⟩ := hf rfl
    rw [if_neg (show ¬ bI true = 0 by decide), if_neg (show ¬ bI true = 0 by decide), cl_s f3, cl_s (bits_double f4), cl_s (long_bits f4)]
    exact SM_ret rfl hR
