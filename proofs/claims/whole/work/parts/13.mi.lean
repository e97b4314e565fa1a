noncomputable def f_X6_rests_L42 (l1 : Int32) (l2 : Int32) (l3 : Int32) (A : St) : Option ((Int32 × St) ⊕ (St)) :=
  gI l1 4 <|
  if (A.1 18 l1.toNatClampNeg) ≤ l3 then
    some (.inr A)
  else
    gI l1 4 <|
    if (A.1 17 l1.toNatClampNeg) = 0 then
      gI l1 4 <|
      gI l1 4 <|
      gI l3 40 <|
      gZ l2 <|
      gI l3 40 <|
      bv (upI A (20 + l1.toNatClampNeg) l3.toNatClampNeg ((A.1 (20 + l1.toNatClampNeg) l3.toNatClampNeg) - (A.1 (20 + l1.toNatClampNeg) l3.toNatClampNeg) / l2 * l2)) fun A45 =>
      bv (l3 + 1) fun v46 =>
      some (.inl (v46, A45))
    else
      gI l1 4 <|
      if (A.1 17 l1.toNatClampNeg) = 1 then
        gI l1 4 <|
        gI l1 4 <|
        gI l3 40 <|
        g32 (FP.fdiv (FP.i2f l2) 1090519040) fun v33 =>
        g32 (FP.frem (A.2.2 (25 + l1.toNatClampNeg) l3.toNatClampNeg) v33) fun v34 =>
        gI l3 40 <|
        bv (upF A (25 + l1.toNatClampNeg) l3.toNatClampNeg v34) fun A36 =>
        bv (l3 + 1) fun v37 =>
        some (.inl (v37, A36))
      else
        gI l1 4 <|
        gI l1 4 <|
        gI l3 40 <|
        g64 (FP.ddiv (FP.i2d l2) 4620693217682128896) fun v23 =>
        g64 (FP.drem (A.2.1 (30 + l1.toNatClampNeg) l3.toNatClampNeg) v23) fun v24 =>
        gI l3 40 <|
        bv (upD A (30 + l1.toNatClampNeg) l3.toNatClampNeg v24) fun A26 =>
        bv (l3 + 1) fun v27 =>
        some (.inl (v27, A26))
noncomputable def f_X6_rests_X146 (A : St) (m1 : Int32) : Option (Int32 × St) :=
  gI m1 4 <|
  some (A.1 18 m1.toNatClampNeg, A)
noncomputable def f_X6_rests (x1 : Int32) (x2 : Int32) (A : St) : Option (Int32 × St) :=
  cl (f_X6_isSheet x1) fun r1 =>
  if (bI r1) = 0 then
    cl2 (f_X6_finds 0 A) fun r4 A6 =>
    some (r4, A6)
  else
    cl (f_X6_in x2.toInt64 1 800) fun r7 =>
    if (bI r7) = 0 then
      cl2 (f_X6_finds 0 A) fun r53 A55 =>
      some (r53, A55)
    else
      gI x1 4 <|
      if 0 ≤ (A.1 17 x1.toNatClampNeg) then
        cl (loop (fun s => f_X6_rests_L42 x1 x2 s.1 s.2) (0, A)) (fun s => f_X6_rests_X146 s x1)
      else
        cl2 (f_X6_finds 5 A) fun r50 A52 =>
        some (r50, A52)
abbrev rm_X6_rests : Room := { frames := 2, cells := 0, slots := 0, locals := 45 }
set_option maxHeartbeats 4000000 in
set_option maxRecDepth 100000 in
theorem g_X6_rests_L42 {E : pfE} (X : CX cellsR E cX6_rests RX6 rm_X6_rests 4) (l1 : Int32) (l2 : Int32) : ∀ (n : Nat) (l3 : Int32) (A : St) (ρ : St), lp (fun s => f_X6_rests_L42 l1 l2 s.1 s.2) n (l3, A) = some ρ → (∀ (B : St), ρ = B → GG cellsR E B 146 [(0, .ref (fAd (eF E) 0)), (1, .int l1)] []) → GG cellsR E A 42 [(0, .ref (fAd (eF E) 0)), (1, .int l1), (2, .int l2), (3, .int l3)] [] := by
  intro n
  induction n with
  | zero =>
    intro l3 A ρ h
    cases h
  | succ n ih =>
    intro l3 A ρ h0 K
    obtain ⟨x, hb, hx⟩ := lp_step h0
    have h : f_X6_rests_L42 l1 l2 l3 A = some x := hb
    unfold f_X6_rests_L42 at h
    clear hb h0
    refine G_iload_n X dX6_rests_42 rfl 3 rfl ?_
    refine G_aload_n X dX6_rests_43 rfl 0 rfl ?_
    refine G_getf X inX6 0 (eR0 _ _ _) rfl 13 (by decide) qw667 rfl dX6_rests_44 ?_
    refine G_iload_n X dX6_rests_47 rfl 1 rfl ?_
    have hi12 := gI_n h
    have h := gI_k h
    refine G_iald X (j := l1.toNatClampNeg) 18 (eR18 _ _ _) hi12 rfl dX6_rests_48 ?_
    refine G_icge X (tgt := 146) dX6_rests_49 (by decide) (fun c13 => ?_) (fun c13 => ?_)
    · have h := if_t c13 h
      exact G_sub [0, 1] rfl (K _ (lpr (so h) hx).symm)
    · have h := if_f c13 h
      refine G_aload_n X dX6_rests_52 rfl 0 rfl ?_
      refine G_getf X inX6 0 (eR0 _ _ _) rfl 12 (by decide) qw666 rfl dX6_rests_53 ?_
      refine G_iload_n X dX6_rests_56 rfl 1 rfl ?_
      have hi14 := gI_n h
      have h := gI_k h
      refine G_iald X (j := l1.toNatClampNeg) 17 (eR17 _ _ _) hi14 rfl dX6_rests_57 ?_
      refine G_ifne X (tgt := 82) dX6_rests_58 (by decide) (fun c15 => ?_) (fun c15 => ?_)
      · have h := if_t c15 h
        refine G_aload_n X dX6_rests_61 rfl 0 rfl ?_
        refine G_getf X inX6 0 (eR0 _ _ _) rfl 14 (by decide) qw668 rfl dX6_rests_62 ?_
        refine G_iload_n X dX6_rests_65 rfl 1 rfl ?_
        have hi38 := gI_n h
        have h := gI_k h
        have hw39 := vlt hi38
        refine G_aald X (t0 := 3) (b := fAd (eF E) (20 + l1.toNatClampNeg)) 19 (eR19 _ _ _) rfl rfl hi38 (if_pos hw39) dX6_rests_66 ?_
        refine G_iload_n X dX6_rests_67 rfl 3 rfl ?_
        refine G_aload_n X dX6_rests_68 rfl 0 rfl ?_
        refine G_getf X inX6 0 (eR0 _ _ _) rfl 14 (by decide) qw668 rfl dX6_rests_69 ?_
        refine G_iload_n X dX6_rests_72 rfl 1 rfl ?_
        have hi40 := gI_n h
        have h := gI_k h
        have hw41 := vlt hi40
        refine G_aald X (t0 := 3) (b := fAd (eF E) (20 + l1.toNatClampNeg)) 19 (eR19 _ _ _) rfl rfl hi40 (if_pos hw41) dX6_rests_73 ?_
        refine G_iload_n X dX6_rests_74 rfl 3 rfl ?_
        have hi42 := gI_n h
        have h := gI_k h
        refine G_iald X (j := l3.toNatClampNeg) (20 + l1.toNatClampNeg) (eRf20 _ _ _ _ hw41) hi42 rfl dX6_rests_75 ?_
        refine G_iload_n X dX6_rests_76 rfl 2 rfl ?_
        have hz43 := gZ_n h
        have h := gZ_k h
        refine G_irem X dX6_rests_77 hz43 ?_
        have hi44 := gI_n h
        have h := gI_k h
        refine G_iast X (j := l3.toNatClampNeg) (20 + l1.toNatClampNeg) (eRf20 _ _ _ _ hw39) (sRI _ _ _ _ l3.toNatClampNeg _ _ (fun _ => fR20 _ _ _ _ hw39)) hi44 rfl dX6_rests_78 ?_
        refine G_topS (fun A45 eA45 => ?_)
        have h := bv_k eA45 h
        refine G_goto X (tgt := 140) dX6_rests_79 (by decide) ?_
        obtain ⟨v46, ev46⟩ : ∃ y : Int32, y = l3 + 1 := ⟨_, rfl⟩
        have h := bv_k ev46 h
        refine G_iinc X (q := 3) (v := v46) (lv2 := [(3, .int v46), (0, .ref (fAd (eF E) 0)), (1, .int l1), (2, .int l2)]) dX6_rests_140 rfl (by rw [ev46]; rfl) (by decide) rfl ?_
        refine G_goto X (tgt := 42) dX6_rests_143 (by decide) ?_
        exact G_sub [1, 2, 3, 0] rfl (ih _ _ _ (lpl (so h) hx) K)
      · have h := if_f c15 h
        refine G_aload_n X dX6_rests_82 rfl 0 rfl ?_
        refine G_getf X inX6 0 (eR0 _ _ _) rfl 12 (by decide) qw666 rfl dX6_rests_83 ?_
        refine G_iload_n X dX6_rests_86 rfl 1 rfl ?_
        have hi16 := gI_n h
        have h := gI_k h
        refine G_iald X (j := l1.toNatClampNeg) 17 (eR17 _ _ _) hi16 rfl dX6_rests_87 ?_
        refine G_iconst X (v := 1) dX6_rests_88 rfl ?_
        refine G_icne X (tgt := 117) dX6_rests_89 (by decide) (fun c17 => ?_) (fun c17 => ?_)
        · have h := if_t c17 h
          refine G_aload_n X dX6_rests_92 rfl 0 rfl ?_
          refine G_getf X inX6 0 (eR0 _ _ _) rfl 15 (by decide) qw669 rfl dX6_rests_93 ?_
          refine G_iload_n X dX6_rests_96 rfl 1 rfl ?_
          have hi28 := gI_n h
          have h := gI_k h
          have hw29 := vlt hi28
          refine G_aald X (t0 := 5) (b := fAd (eF E) (25 + l1.toNatClampNeg)) 24 (eR24 _ _ _) rfl rfl hi28 (if_pos hw29) dX6_rests_97 ?_
          refine G_iload_n X dX6_rests_98 rfl 3 rfl ?_
          refine G_aload_n X dX6_rests_99 rfl 0 rfl ?_
          refine G_getf X inX6 0 (eR0 _ _ _) rfl 15 (by decide) qw669 rfl dX6_rests_100 ?_
          refine G_iload_n X dX6_rests_103 rfl 1 rfl ?_
          have hi30 := gI_n h
          have h := gI_k h
          have hw31 := vlt hi30
          refine G_aald X (t0 := 5) (b := fAd (eF E) (25 + l1.toNatClampNeg)) 24 (eR24 _ _ _) rfl rfl hi30 (if_pos hw31) dX6_rests_104 ?_
          refine G_iload_n X dX6_rests_105 rfl 3 rfl ?_
          have hi32 := gI_n h
          have h := gI_k h
          refine G_fald X (j := l3.toNatClampNeg) (25 + l1.toNatClampNeg) (eRf25 _ _ _ _ hw31) hi32 rfl dX6_rests_106 ?_
          refine G_iload_n X dX6_rests_107 rfl 2 rfl ?_
          refine G_i2f X dX6_rests_108 ?_
          refine G_ldcf X (v := 1090519040) qw821 dX6_rests_109 ?_
          have hv33 := g32_n h
          refine G_fdiv X dX6_rests_111 hv33 ?_
          refine G_topf (fun v33 ev33 => ?_)
          have h := g32_k ev33 h
          have hv34 := g32_n h
          refine G_frem X dX6_rests_112 hv34 ?_
          refine G_topf (fun v34 ev34 => ?_)
          have h := g32_k ev34 h
          have hi35 := gI_n h
          have h := gI_k h
          refine G_fast X (j := l3.toNatClampNeg) (25 + l1.toNatClampNeg) (eRf25 _ _ _ _ hw29) (sRF _ _ _ _ l3.toNatClampNeg _ _ (fun _ => fR25 _ _ _ _ hw29)) hi35 rfl dX6_rests_113 ?_
          refine G_topS (fun A36 eA36 => ?_)
          have h := bv_k eA36 h
          refine G_goto X (tgt := 140) dX6_rests_114 (by decide) ?_
          obtain ⟨v37, ev37⟩ : ∃ y : Int32, y = l3 + 1 := ⟨_, rfl⟩
          have h := bv_k ev37 h
          refine G_iinc X (q := 3) (v := v37) (lv2 := [(3, .int v37), (0, .ref (fAd (eF E) 0)), (1, .int l1), (2, .int l2)]) dX6_rests_140 rfl (by rw [ev37]; rfl) (by decide) rfl ?_
          refine G_goto X (tgt := 42) dX6_rests_143 (by decide) ?_
          exact G_sub [1, 2, 3, 0] rfl (ih _ _ _ (lpl (so h) hx) K)
        · have h := if_f c17 h
          refine G_aload_n X dX6_rests_117 rfl 0 rfl ?_
          refine G_getf X inX6 0 (eR0 _ _ _) rfl 16 (by decide) qw670 rfl dX6_rests_118 ?_
          refine G_iload_n X dX6_rests_121 rfl 1 rfl ?_
          have hi18 := gI_n h
          have h := gI_k h
          have hw19 := vlt hi18
          refine G_aald X (t0 := 4) (b := fAd (eF E) (30 + l1.toNatClampNeg)) 29 (eR29 _ _ _) rfl rfl hi18 (if_pos hw19) dX6_rests_122 ?_
          refine G_iload_n X dX6_rests_123 rfl 3 rfl ?_
          refine G_aload_n X dX6_rests_124 rfl 0 rfl ?_
          refine G_getf X inX6 0 (eR0 _ _ _) rfl 16 (by decide) qw670 rfl dX6_rests_125 ?_
          refine G_iload_n X dX6_rests_128 rfl 1 rfl ?_
          have hi20 := gI_n h
          have h := gI_k h
          have hw21 := vlt hi20
          refine G_aald X (t0 := 4) (b := fAd (eF E) (30 + l1.toNatClampNeg)) 29 (eR29 _ _ _) rfl rfl hi20 (if_pos hw21) dX6_rests_129 ?_
          refine G_iload_n X dX6_rests_130 rfl 3 rfl ?_
          have hi22 := gI_n h
          have h := gI_k h
          refine G_dald X (j := l3.toNatClampNeg) (30 + l1.toNatClampNeg) (eRf30 _ _ _ _ hw21) hi22 rfl dX6_rests_131 ?_
          refine G_iload_n X dX6_rests_132 rfl 2 rfl ?_
          refine G_i2d X dX6_rests_133 ?_
          refine G_ldc2d X (v := 4620693217682128896) qw1062 dX6_rests_134 ?_
          have hv23 := g64_n h
          refine G_ddiv X dX6_rests_137 hv23 ?_
          refine G_topd (fun v23 ev23 => ?_)
          have h := g64_k ev23 h
          have hv24 := g64_n h
          refine G_drem X dX6_rests_138 hv24 ?_
          refine G_topd (fun v24 ev24 => ?_)
          have h := g64_k ev24 h
          have hi25 := gI_n h
          have h := gI_k h
          refine G_dast X (j := l3.toNatClampNeg) (30 + l1.toNatClampNeg) (eRf30 _ _ _ _ hw19) (sRD _ _ _ _ l3.toNatClampNeg _ _ (fun _ => fR30 _ _ _ _ hw19)) hi25 rfl dX6_rests_139 ?_
          refine G_topS (fun A26 eA26 => ?_)
          have h := bv_k eA26 h
          obtain ⟨v27, ev27⟩ : ∃ y : Int32, y = l3 + 1 := ⟨_, rfl⟩
          have h := bv_k ev27 h
          refine G_iinc X (q := 3) (v := v27) (lv2 := [(3, .int v27), (0, .ref (fAd (eF E) 0)), (1, .int l1), (2, .int l2)]) dX6_rests_140 rfl (by rw [ev27]; rfl) (by decide) rfl ?_
          refine G_goto X (tgt := 42) dX6_rests_143 (by decide) ?_
          exact G_sub [1, 2, 3, 0] rfl (ih _ _ _ (lpl (so h) hx) K)
set_option maxHeartbeats 4000000 in
set_option maxRecDepth 100000 in
theorem b_X6_rests {E : pfE} (X : CX cellsR E cX6_rests RX6 rm_X6_rests 4) (x1 : Int32) (x2 : Int32) (A : St) {out : Int32 × St} (hQ : Reti cellsR E cX6_rests out.1 out.2) (h : f_X6_rests x1 x2 A = some out) : GG cellsR E A 0 [(0, .ref (fAd (eF E) 0)), (1, .int x1), (2, .int x2)] [] := by
  unfold f_X6_rests at h
  refine G_iload_n X dX6_rests_0 rfl 1 rfl ?_
  obtain ⟨r1, hz2, h⟩ := cl_k h
  refine G_callS_i X (As := [.int x1]) (rest := []) ok_X6_isSheet qw1051 ⟨rfl, rfl, Nat.le_of_ble_eq_true rfl, Nat.le_of_ble_eq_true rfl⟩ (m_X6_isSheet X.d hz2) rfl rfl (Nat.le_of_ble_eq_true rfl) dX6_rests_1 ?_
  refine G_ifeq X (tgt := 19) dX6_rests_4 (by decide) (fun c3 => ?_) (fun c3 => ?_)
  · have h := if_t c3 h
    refine G_aload_n X dX6_rests_19 rfl 0 rfl ?_
    refine G_iconst X (v := 0) dX6_rests_20 rfl ?_
    obtain ⟨r4, A6, hz5, h⟩ := cl2_k h
    refine G_callV_i X (As := [.int 0]) (rest := []) ok_X6_finds qw737 0 (eR0 _ _ _) rfl rfl ⟨rfl, rfl, Nat.le_of_ble_eq_true rfl, Nat.le_of_ble_eq_true rfl⟩ (m_X6_finds X.d hz5) rfl rfl (Nat.le_of_ble_eq_true rfl) dX6_rests_21 ?_
    have e := so h
    subst e
    exact hQ _ _ dX6_rests_24
  · have h := if_f c3 h
    refine G_iload_n X dX6_rests_7 rfl 2 rfl ?_
    refine G_i2l X dX6_rests_8 rfl ?_
    refine G_lconst X (v := 1) dX6_rests_9 rfl ?_
    refine G_ldc2 X (v := 800) qw1100 dX6_rests_10 ?_
    obtain ⟨r7, hz8, h⟩ := cl_k h
    refine G_callS_i X (As := [.long x2.toInt64, .long 1, .long 800]) (rest := []) ok_X6_in qw727 ⟨rfl, rfl, Nat.le_of_ble_eq_true rfl, Nat.le_of_ble_eq_true rfl⟩ (m_X6_in X.d hz8) rfl rfl (Nat.le_of_ble_eq_true rfl) dX6_rests_13 ?_
    refine G_ifne X (tgt := 25) dX6_rests_16 (by decide) (fun c9 => ?_) (fun c9 => ?_)
    · have h := if_t c9 h
      refine G_aload_n X dX6_rests_19 rfl 0 rfl ?_
      refine G_iconst X (v := 0) dX6_rests_20 rfl ?_
      obtain ⟨r53, A55, hz54, h⟩ := cl2_k h
      refine G_callV_i X (As := [.int 0]) (rest := []) ok_X6_finds qw737 0 (eR0 _ _ _) rfl rfl ⟨rfl, rfl, Nat.le_of_ble_eq_true rfl, Nat.le_of_ble_eq_true rfl⟩ (m_X6_finds X.d hz54) rfl rfl (Nat.le_of_ble_eq_true rfl) dX6_rests_21 ?_
      have e := so h
      subst e
      exact hQ _ _ dX6_rests_24
    · have h := if_f c9 h
      refine G_aload_n X dX6_rests_25 rfl 0 rfl ?_
      refine G_getf X inX6 0 (eR0 _ _ _) rfl 12 (by decide) qw666 rfl dX6_rests_26 ?_
      refine G_iload_n X dX6_rests_29 rfl 1 rfl ?_
      have hi10 := gI_n h
      have h := gI_k h
      refine G_iald X (j := x1.toNatClampNeg) 17 (eR17 _ _ _) hi10 rfl dX6_rests_30 ?_
      refine G_ifge X (tgt := 40) dX6_rests_31 (by decide) (fun c11 => ?_) (fun c11 => ?_)
      · have h := if_t c11 h
        refine G_iconst X (v := 0) dX6_rests_40 rfl ?_
        refine G_istore_n X (lv2 := [(3, .int 0), (0, .ref (fAd (eF E) 0)), (1, .int x1), (2, .int x2)]) dX6_rests_41 rfl (by decide) rfl ?_
        obtain ⟨ρ, hl, h⟩ := cl_k h
        obtain ⟨n, hl⟩ := loop_some hl
        refine G_sub [1, 2, 3, 0] rfl (g_X6_rests_L42 X x1 x2 n _ _ ρ hl ?_)
        intro A47 e
        rw [e] at h
        have h : f_X6_rests_X146 A47 x1 = some _ := h
        unfold f_X6_rests_X146 at h
        refine G_aload_n X dX6_rests_146 rfl 0 rfl ?_
        refine G_getf X inX6 0 (eR0 _ _ _) rfl 13 (by decide) qw667 rfl dX6_rests_147 ?_
        refine G_iload_n X dX6_rests_150 rfl 1 rfl ?_
        have hi48 := gI_n h
        have h := gI_k h
        refine G_iald X (j := x1.toNatClampNeg) 18 (eR18 _ _ _) hi48 rfl dX6_rests_151 ?_
        have e := so h
        subst e
        exact hQ _ _ dX6_rests_152
      · have h := if_f c11 h
        refine G_aload_n X dX6_rests_34 rfl 0 rfl ?_
        refine G_iconst X (v := 5) dX6_rests_35 rfl ?_
        obtain ⟨r50, A52, hz51, h⟩ := cl2_k h
        refine G_callV_i X (As := [.int 5]) (rest := []) ok_X6_finds qw737 0 (eR0 _ _ _) rfl rfl ⟨rfl, rfl, Nat.le_of_ble_eq_true rfl, Nat.le_of_ble_eq_true rfl⟩ (m_X6_finds X.d hz51) rfl rfl (Nat.le_of_ble_eq_true rfl) dX6_rests_36 ?_
        have e := so h
        subst e
        exact hQ _ _ dX6_rests_39
theorem m_X6_rests {l : Launch} {F : pfF} (hD : ∀ A, va_D (fA F) (cellsR (fAd F) (fCy F) A)) {x1 : Int32} {x2 : Int32} {A : St} {out : Int32 × St} (h : f_X6_rests x1 x2 A = some out) : Mt l F cellsR yX6_rests cX6_rests 4 (some .int) rm_X6_rests [.ref (fAd F 0), .int x1, .int x2] A (va_Qi (fun (r : Int32) (u : St) => r = out.1 ∧ u = out.2) (Wd cellsR F) (fA F)) := by
  refine Met_i (by decide +kernel) (Nat.le_of_ble_eq_true rfl) hD (fun E el ef X hQ => ?_)
  subst el
  subst ef
  exact b_X6_rests X _ _ _ hQ h
theorem ok_X6_rests : OkV yX6_rests cX6_rests 4 (some .int) 2 := ⟨qw1097, qw1098, qw6, qw1099, by decide, by decide, by decide⟩
noncomputable def f_X6_sum_L33 (A : St) (l1 : Int32) (l2 : UInt64) (l4 : Int32) : Option ((UInt64 × Int32) ⊕ (UInt64)) :=
  gI l1 4 <|
  if (A.1 18 l1.toNatClampNeg) ≤ l4 then
    some (.inr l2)
  else
    gI l1 4 <|
    if (A.1 17 l1.toNatClampNeg) = 0 then
      gI l1 4 <|
      gI l4 40 <|
      g64 (FP.dadd l2 (FP.i2d (A.1 (20 + l1.toNatClampNeg) l4.toNatClampNeg))) fun v27 =>
      bv (l4 + 1) fun v28 =>
      some (.inl (v27, v28))
    else
      gI l1 4 <|
      if (A.1 17 l1.toNatClampNeg) = 1 then
        gI l1 4 <|
        gI l4 40 <|
        g64 (FP.f2d (A.2.2 (25 + l1.toNatClampNeg) l4.toNatClampNeg)) fun v21 =>
        g64 (FP.dadd l2 v21) fun v22 =>
        bv (l4 + 1) fun v23 =>
        some (.inl (v22, v23))
      else
        gI l1 4 <|
        gI l4 40 <|
        g64 (FP.dadd l2 (A.2.1 (30 + l1.toNatClampNeg) l4.toNatClampNeg)) fun v16 =>
        bv (l4 + 1) fun v17 =>
        some (.inl (v16, v17))
noncomputable def f_X6_sum_X107 (A : St) (m2 : UInt64) : Option (Int64 × St) :=
  cl (f_Jxe99ae_doubleToLongBits_ccdee m2) fun r32 =>
  some (r32, A)
noncomputable def f_X6_sum (x1 : Int32) (A : St) : Option (Int64 × St) :=
  cl (f_X6_isSheet x1) fun r1 =>
  if (bI r1) = 0 then
    cl2 (f_X6_findsLong 0 A) fun r37 A39 =>
    some (r37, A39)
  else
    gI x1 4 <|
    if 0 ≤ (A.1 17 x1.toNatClampNeg) then
      bv FP.dconst0 fun v6 =>
      cl (loop (fun s => f_X6_sum_L33 A x1 s.1 s.2) (v6, 0)) (fun s => f_X6_sum_X107 A s)
    else
      cl2 (f_X6_findsLong 5 A) fun r34 A36 =>
      some (r34, A36)
abbrev rm_X6_sum : Room := { frames := 2, cells := 0, slots := 0, locals := 61 }
set_option maxHeartbeats 4000000 in
set_option maxRecDepth 100000 in
theorem g_X6_sum_L33 {E : pfE} (X : CX cellsR E cX6_sum RX6 rm_X6_sum 5) (A : St) (l1 : Int32) : ∀ (n : Nat) (l2 : UInt64) (l4 : Int32) (ρ : UInt64), lp (fun s => f_X6_sum_L33 A l1 s.1 s.2) n (l2, l4) = some ρ → (∀ (q2 : UInt64), ρ = q2 → GG cellsR E A 107 [(2, .double q2)] []) → GG cellsR E A 33 [(0, .ref (fAd (eF E) 0)), (1, .int l1), (2, .double l2), (4, .int l4)] [] := by
  intro n
  induction n with
  | zero =>
    intro l2 l4 ρ h
    cases h
  | succ n ih =>
    intro l2 l4 ρ h0 K
    obtain ⟨x, hb, hx⟩ := lp_step h0
    have h : f_X6_sum_L33 A l1 l2 l4 = some x := hb
    unfold f_X6_sum_L33 at h
    clear hb h0
    refine G_iload X dX6_sum_33 3 rfl ?_
    refine G_aload_n X dX6_sum_35 rfl 0 rfl ?_
    refine G_getf X inX6 0 (eR0 _ _ _) rfl 13 (by decide) qw667 rfl dX6_sum_36 ?_
    refine G_iload_n X dX6_sum_39 rfl 1 rfl ?_
    have hi7 := gI_n h
    have h := gI_k h
    refine G_iald X (j := l1.toNatClampNeg) 18 (eR18 _ _ _) hi7 rfl dX6_sum_40 ?_
    refine G_icge X (tgt := 107) dX6_sum_41 (by decide) (fun c8 => ?_) (fun c8 => ?_)
    · have h := if_t c8 h
      exact G_sub [2] rfl (K _ (lpr (so h) hx).symm)
    · have h := if_f c8 h
      refine G_dload_n X dX6_sum_44 rfl 2 rfl ?_
      refine G_aload_n X dX6_sum_45 rfl 0 rfl ?_
      refine G_getf X inX6 0 (eR0 _ _ _) rfl 12 (by decide) qw666 rfl dX6_sum_46 ?_
      refine G_iload_n X dX6_sum_49 rfl 1 rfl ?_
      have hi9 := gI_n h
      have h := gI_k h
      refine G_iald X (j := l1.toNatClampNeg) 17 (eR17 _ _ _) hi9 rfl dX6_sum_50 ?_
      refine G_ifne X (tgt := 67) dX6_sum_51 (by decide) (fun c10 => ?_) (fun c10 => ?_)
      · have h := if_t c10 h
        refine G_aload_n X dX6_sum_54 rfl 0 rfl ?_
        refine G_getf X inX6 0 (eR0 _ _ _) rfl 14 (by decide) qw668 rfl dX6_sum_55 ?_
        refine G_iload_n X dX6_sum_58 rfl 1 rfl ?_
        have hi24 := gI_n h
        have h := gI_k h
        have hw25 := vlt hi24
        refine G_aald X (t0 := 3) (b := fAd (eF E) (20 + l1.toNatClampNeg)) 19 (eR19 _ _ _) rfl rfl hi24 (if_pos hw25) dX6_sum_59 ?_
        refine G_iload X dX6_sum_60 3 rfl ?_
        have hi26 := gI_n h
        have h := gI_k h
        refine G_iald X (j := l4.toNatClampNeg) (20 + l1.toNatClampNeg) (eRf20 _ _ _ _ hw25) hi26 rfl dX6_sum_62 ?_
        refine G_i2d X dX6_sum_63 ?_
        refine G_goto X (tgt := 99) dX6_sum_64 (by decide) ?_
        have hv27 := g64_n h
        refine G_dadd X dX6_sum_99 hv27 ?_
        refine G_topd (fun v27 ev27 => ?_)
        have h := g64_k ev27 h
        refine G_dstore_n X (lv2 := [(2, .double v27), (0, .ref (fAd (eF E) 0)), (1, .int l1), (4, .int l4)]) dX6_sum_100 rfl (by decide) rfl ?_
        obtain ⟨v28, ev28⟩ : ∃ y : Int32, y = l4 + 1 := ⟨_, rfl⟩
        have h := bv_k ev28 h
        refine G_iinc X (q := 3) (v := v28) (lv2 := [(4, .int v28), (2, .double v27), (0, .ref (fAd (eF E) 0)), (1, .int l1)]) dX6_sum_101 rfl (by rw [ev28]; rfl) (by decide) rfl ?_
        refine G_goto X (tgt := 33) dX6_sum_104 (by decide) ?_
        exact G_sub [2, 3, 1, 0] rfl (ih _ _ _ (lpl (so h) hx) K)
      · have h := if_f c10 h
        refine G_aload_n X dX6_sum_67 rfl 0 rfl ?_
        refine G_getf X inX6 0 (eR0 _ _ _) rfl 12 (by decide) qw666 rfl dX6_sum_68 ?_
        refine G_iload_n X dX6_sum_71 rfl 1 rfl ?_
        have hi11 := gI_n h
        have h := gI_k h
        refine G_iald X (j := l1.toNatClampNeg) 17 (eR17 _ _ _) hi11 rfl dX6_sum_72 ?_
        refine G_iconst X (v := 1) dX6_sum_73 rfl ?_
        refine G_icne X (tgt := 90) dX6_sum_74 (by decide) (fun c12 => ?_) (fun c12 => ?_)
        · have h := if_t c12 h
          refine G_aload_n X dX6_sum_77 rfl 0 rfl ?_
          refine G_getf X inX6 0 (eR0 _ _ _) rfl 15 (by decide) qw669 rfl dX6_sum_78 ?_
          refine G_iload_n X dX6_sum_81 rfl 1 rfl ?_
          have hi18 := gI_n h
          have h := gI_k h
          have hw19 := vlt hi18
          refine G_aald X (t0 := 5) (b := fAd (eF E) (25 + l1.toNatClampNeg)) 24 (eR24 _ _ _) rfl rfl hi18 (if_pos hw19) dX6_sum_82 ?_
          refine G_iload X dX6_sum_83 3 rfl ?_
          have hi20 := gI_n h
          have h := gI_k h
          refine G_fald X (j := l4.toNatClampNeg) (25 + l1.toNatClampNeg) (eRf25 _ _ _ _ hw19) hi20 rfl dX6_sum_85 ?_
          have hv21 := g64_n h
          refine G_f2d X dX6_sum_86 hv21 ?_
          refine G_topd (fun v21 ev21 => ?_)
          have h := g64_k ev21 h
          refine G_goto X (tgt := 99) dX6_sum_87 (by decide) ?_
          have hv22 := g64_n h
          refine G_dadd X dX6_sum_99 hv22 ?_
          refine G_topd (fun v22 ev22 => ?_)
          have h := g64_k ev22 h
          refine G_dstore_n X (lv2 := [(2, .double v22), (0, .ref (fAd (eF E) 0)), (1, .int l1), (4, .int l4)]) dX6_sum_100 rfl (by decide) rfl ?_
          obtain ⟨v23, ev23⟩ : ∃ y : Int32, y = l4 + 1 := ⟨_, rfl⟩
          have h := bv_k ev23 h
          refine G_iinc X (q := 3) (v := v23) (lv2 := [(4, .int v23), (2, .double v22), (0, .ref (fAd (eF E) 0)), (1, .int l1)]) dX6_sum_101 rfl (by rw [ev23]; rfl) (by decide) rfl ?_
          refine G_goto X (tgt := 33) dX6_sum_104 (by decide) ?_
          exact G_sub [2, 3, 1, 0] rfl (ih _ _ _ (lpl (so h) hx) K)
        · have h := if_f c12 h
          refine G_aload_n X dX6_sum_90 rfl 0 rfl ?_
          refine G_getf X inX6 0 (eR0 _ _ _) rfl 16 (by decide) qw670 rfl dX6_sum_91 ?_
          refine G_iload_n X dX6_sum_94 rfl 1 rfl ?_
          have hi13 := gI_n h
          have h := gI_k h
          have hw14 := vlt hi13
          refine G_aald X (t0 := 4) (b := fAd (eF E) (30 + l1.toNatClampNeg)) 29 (eR29 _ _ _) rfl rfl hi13 (if_pos hw14) dX6_sum_95 ?_
          refine G_iload X dX6_sum_96 3 rfl ?_
          have hi15 := gI_n h
          have h := gI_k h
          refine G_dald X (j := l4.toNatClampNeg) (30 + l1.toNatClampNeg) (eRf30 _ _ _ _ hw14) hi15 rfl dX6_sum_98 ?_
          have hv16 := g64_n h
          refine G_dadd X dX6_sum_99 hv16 ?_
          refine G_topd (fun v16 ev16 => ?_)
          have h := g64_k ev16 h
          refine G_dstore_n X (lv2 := [(2, .double v16), (0, .ref (fAd (eF E) 0)), (1, .int l1), (4, .int l4)]) dX6_sum_100 rfl (by decide) rfl ?_
          obtain ⟨v17, ev17⟩ : ∃ y : Int32, y = l4 + 1 := ⟨_, rfl⟩
          have h := bv_k ev17 h
          refine G_iinc X (q := 3) (v := v17) (lv2 := [(4, .int v17), (2, .double v16), (0, .ref (fAd (eF E) 0)), (1, .int l1)]) dX6_sum_101 rfl (by rw [ev17]; rfl) (by decide) rfl ?_
          refine G_goto X (tgt := 33) dX6_sum_104 (by decide) ?_
          exact G_sub [2, 3, 1, 0] rfl (ih _ _ _ (lpl (so h) hx) K)
set_option maxHeartbeats 4000000 in
set_option maxRecDepth 100000 in
theorem b_X6_sum {E : pfE} (X : CX cellsR E cX6_sum RX6 rm_X6_sum 5) (x1 : Int32) (A : St) {out : Int64 × St} (hQ : Retl cellsR E cX6_sum out.1 out.2) (h : f_X6_sum x1 A = some out) : GG cellsR E A 0 [(0, .ref (fAd (eF E) 0)), (1, .int x1)] [] := by
  unfold f_X6_sum at h
  refine G_iload_n X dX6_sum_0 rfl 1 rfl ?_
  obtain ⟨r1, hz2, h⟩ := cl_k h
  refine G_callS_i X (As := [.int x1]) (rest := []) ok_X6_isSheet qw1051 ⟨rfl, rfl, Nat.le_of_ble_eq_true rfl, Nat.le_of_ble_eq_true rfl⟩ (m_X6_isSheet X.d hz2) rfl rfl (Nat.le_of_ble_eq_true rfl) dX6_sum_1 ?_
  refine G_ifne X (tgt := 13) dX6_sum_4 (by decide) (fun c3 => ?_) (fun c3 => ?_)
  · have h := if_t c3 h
    refine G_aload_n X dX6_sum_7 rfl 0 rfl ?_
    refine G_iconst X (v := 0) dX6_sum_8 rfl ?_
    obtain ⟨r37, A39, hz38, h⟩ := cl2_k h
    refine G_callV_l X (As := [.int 0]) (rest := []) ok_X6_findsLong qw855 0 (eR0 _ _ _) rfl rfl ⟨rfl, rfl, Nat.le_of_ble_eq_true rfl, Nat.le_of_ble_eq_true rfl⟩ (m_X6_findsLong X.d hz38) rfl rfl (Nat.le_of_ble_eq_true rfl) dX6_sum_9 ?_
    have e := so h
    subst e
    exact hQ _ _ dX6_sum_12
  · have h := if_f c3 h
    refine G_aload_n X dX6_sum_13 rfl 0 rfl ?_
    refine G_getf X inX6 0 (eR0 _ _ _) rfl 12 (by decide) qw666 rfl dX6_sum_14 ?_
    refine G_iload_n X dX6_sum_17 rfl 1 rfl ?_
    have hi4 := gI_n h
    have h := gI_k h
    refine G_iald X (j := x1.toNatClampNeg) 17 (eR17 _ _ _) hi4 rfl dX6_sum_18 ?_
    refine G_ifge X (tgt := 28) dX6_sum_19 (by decide) (fun c5 => ?_) (fun c5 => ?_)
    · have h := if_t c5 h
      refine G_dconst0 X dX6_sum_28 ?_
      refine G_topd (fun v6 ev6 => ?_)
      have h := bv_k ev6 h
      refine G_dstore_n X (lv2 := [(2, .double v6), (0, .ref (fAd (eF E) 0)), (1, .int x1)]) dX6_sum_29 rfl (by decide) rfl ?_
      refine G_iconst X (v := 0) dX6_sum_30 rfl ?_
      refine G_istore X (lv2 := [(4, .int 0), (2, .double v6), (0, .ref (fAd (eF E) 0)), (1, .int x1)]) dX6_sum_31 (by decide) rfl ?_
      obtain ⟨ρ, hl, h⟩ := cl_k h
      obtain ⟨n, hl⟩ := loop_some hl
      refine G_sub [2, 3, 1, 0] rfl (g_X6_sum_L33 X A x1 n _ _ ρ hl ?_)
      intro v29 e
      rw [e] at h
      have h : f_X6_sum_X107 A v29 = some _ := h
      unfold f_X6_sum_X107 at h
      refine G_dload_n X dX6_sum_107 rfl 0 rfl ?_
      obtain ⟨r30, hz31, h⟩ := cl_k h
      refine G_callS_l X (As := [.double v29]) (rest := []) ok_Jxe99ae_doubleToLongBits_ccdee qw847 ⟨rfl, rfl, Nat.le_of_ble_eq_true rfl, Nat.le_of_ble_eq_true rfl⟩ (m_Jxe99ae_doubleToLongBits_ccdee X.d hz31) rfl rfl (Nat.le_of_ble_eq_true rfl) dX6_sum_108 ?_
      have e := so h
      subst e
      exact hQ _ _ dX6_sum_111
    · have h := if_f c5 h
      refine G_aload_n X dX6_sum_22 rfl 0 rfl ?_
      refine G_iconst X (v := 5) dX6_sum_23 rfl ?_
      obtain ⟨r34, A36, hz35, h⟩ := cl2_k h
      refine G_callV_l X (As := [.int 5]) (rest := []) ok_X6_findsLong qw855 0 (eR0 _ _ _) rfl rfl ⟨rfl, rfl, Nat.le_of_ble_eq_true rfl, Nat.le_of_ble_eq_true rfl⟩ (m_X6_findsLong X.d hz35) rfl rfl (Nat.le_of_ble_eq_true rfl) dX6_sum_24 ?_
      have e := so h
      subst e
      exact hQ _ _ dX6_sum_27
theorem m_X6_sum {l : Launch} {F : pfF} (hD : ∀ A, va_D (fA F) (cellsR (fAd F) (fCy F) A)) {x1 : Int32} {A : St} {out : Int64 × St} (h : f_X6_sum x1 A = some out) : Mt l F cellsR yX6_sum cX6_sum 5 (some .long) rm_X6_sum [.ref (fAd F 0), .int x1] A (va_Ql (fun (r : Int64) (u : St) => r = out.1 ∧ u = out.2) (Wd cellsR F) (fA F)) := by
  refine Met_l (by decide +kernel) (Nat.le_of_ble_eq_true rfl) hD (fun E el ef X hQ => ?_)
  subst el
  subst ef
  exact b_X6_sum X _ _ hQ h
theorem ok_X6_sum : OkV yX6_sum cX6_sum 5 (some .long) 1 := ⟨qw1102, qw1103, qw6, qw1104, by decide, by decide, by decide⟩
noncomputable def f_X6_image_L7 (l1 : Int32) (A : St) : Option ((Int32 × St) ⊕ (St)) :=
  if 117 ≤ l1 then
    some (.inr A)
  else
    gI l1 117 <|
    gI l1 117 <|
    bv (upI A 2 l1.toNatClampNeg (A.1 1 l1.toNatClampNeg)) fun A5 =>
    bv (l1 + 1) fun v6 =>
    some (.inl (v6, A5))
noncomputable def f_X6_image_X31 (A : St) : Option (Int32 × St) :=
  some (1, A)
noncomputable def f_X6_image (A : St) : Option (Int32 × St) :=
  bv (upI A 0 2 1) fun A1 =>
  cl (loop (fun s => f_X6_image_L7 s.1 s.2) (0, A1)) (fun s => f_X6_image_X31 s)
abbrev rm_X6_image : Room := { frames := 0, cells := 0, slots := 0, locals := 0 }
set_option maxHeartbeats 4000000 in
set_option maxRecDepth 100000 in
theorem g_X6_image_L7 {E : pfE} (X : CX cellsR E cX6_image RX6 rm_X6_image 2) : ∀ (n : Nat) (l1 : Int32) (A : St) (ρ : St), lp (fun s => f_X6_image_L7 s.1 s.2) n (l1, A) = some ρ → (∀ (B : St), ρ = B → GG cellsR E B 31 [] []) → GG cellsR E A 7 [(0, .ref (fAd (eF E) 0)), (1, .int l1)] [] := by
  intro n
  induction n with
  | zero =>
    intro l1 A ρ h
    cases h
  | succ n ih =>
    intro l1 A ρ h0 K
    obtain ⟨x, hb, hx⟩ := lp_step h0
    have h : f_X6_image_L7 l1 A = some x := hb
    unfold f_X6_image_L7 at h
    clear hb h0
    refine G_iload_n X dX6_image_7 rfl 1 rfl ?_
    refine G_bipush X (v := 117) dX6_image_8 rfl ?_
    refine G_icge X (tgt := 31) dX6_image_10 (by decide) (fun c2 => ?_) (fun c2 => ?_)
    · have h := if_t c2 h
      exact G_sub [] rfl (K _ (lpr (so h) hx).symm)
    · have h := if_f c2 h
      refine G_aload_n X dX6_image_13 rfl 0 rfl ?_
      refine G_getf X inX6 0 (eR0 _ _ _) rfl 1 (by decide) qw655 rfl dX6_image_14 ?_
      refine G_iload_n X dX6_image_17 rfl 1 rfl ?_
      refine G_aload_n X dX6_image_18 rfl 0 rfl ?_
      refine G_getf X inX6 0 (eR0 _ _ _) rfl 0 (by decide) qw654 rfl dX6_image_19 ?_
      refine G_iload_n X dX6_image_22 rfl 1 rfl ?_
      have hi3 := gI_n h
      have h := gI_k h
      refine G_iald X (j := l1.toNatClampNeg) 1 (eR1 _ _ _) hi3 rfl dX6_image_23 ?_
      have hi4 := gI_n h
      have h := gI_k h
      refine G_iast X (j := l1.toNatClampNeg) 2 (eR2 _ _ _) (sRI _ _ _ _ l1.toNatClampNeg _ _ (fun _ => rfl)) hi4 rfl dX6_image_24 ?_
      refine G_topS (fun A5 eA5 => ?_)
      have h := bv_k eA5 h
      obtain ⟨v6, ev6⟩ : ∃ y : Int32, y = l1 + 1 := ⟨_, rfl⟩
      have h := bv_k ev6 h
      refine G_iinc X (q := 1) (v := v6) (lv2 := [(1, .int v6), (0, .ref (fAd (eF E) 0))]) dX6_image_25 rfl (by rw [ev6]; rfl) (by decide) rfl ?_
      refine G_goto X (tgt := 7) dX6_image_28 (by decide) ?_
      exact G_sub [1, 0] rfl (ih _ _ _ (lpl (so h) hx) K)
set_option maxHeartbeats 4000000 in
set_option maxRecDepth 100000 in
theorem b_X6_image {E : pfE} (X : CX cellsR E cX6_image RX6 rm_X6_image 2) (A : St) {out : Int32 × St} (hQ : Reti cellsR E cX6_image out.1 out.2) (h : f_X6_image A = some out) : GG cellsR E A 0 [(0, .ref (fAd (eF E) 0))] [] := by
  unfold f_X6_image at h
  refine G_aload_n X dX6_image_0 rfl 0 rfl ?_
  refine G_iconst X (v := 1) dX6_image_1 rfl ?_
  refine G_putf X (ty := .boolean) tyX6 tyX6_ok nmX6 inX6 0 (eR0 _ _ _) rfl 2 (by decide) qw656 rfl (by decide +kernel) rfl rfl (Nat.le_of_ble_eq_true rfl) (oRI _ _ _ _ 2 1 _ rfl) dX6_image_2 ?_
  refine G_topS (fun A1 eA1 => ?_)
  have h := bv_k eA1 h
  refine G_iconst X (v := 0) dX6_image_5 rfl ?_
  refine G_istore_n X (lv2 := [(1, .int 0), (0, .ref (fAd (eF E) 0))]) dX6_image_6 rfl (by decide) rfl ?_
  obtain ⟨ρ, hl, h⟩ := cl_k h
  obtain ⟨n, hl⟩ := loop_some hl
  refine G_sub [1, 0] rfl (g_X6_image_L7 X n _ _ ρ hl ?_)
  intro A7 e
  rw [e] at h
  have h : f_X6_image_X31 A7 = some _ := h
  unfold f_X6_image_X31 at h
  refine G_iconst X (v := 1) dX6_image_31 rfl ?_
  have e := so h
  subst e
  exact hQ _ _ dX6_image_32
theorem m_X6_image {l : Launch} {F : pfF} (hD : ∀ A, va_D (fA F) (cellsR (fAd F) (fCy F) A)) {A : St} {out : Int32 × St} (h : f_X6_image A = some out) : Mt l F cellsR yX6_image cX6_image 2 (some .int) rm_X6_image [.ref (fAd F 0)] A (va_Qi (fun (r : Int32) (u : St) => r = out.1 ∧ u = out.2) (Wd cellsR F) (fA F)) := by
  refine Met_i (by decide +kernel) (Nat.le_of_ble_eq_true rfl) hD (fun E el ef X hQ => ?_)
  subst el
  subst ef
  exact b_X6_image X _ hQ h
theorem ok_X6_image : OkV yX6_image cX6_image 2 (some .int) 0 := ⟨qw1106, qw1107, qw6, qw1108, by decide, by decide, by decide⟩
noncomputable def f_X6_back_L15 (l1 : Int32) (A : St) : Option ((Int32 × St) ⊕ (St)) :=
  if 117 ≤ l1 then
    some (.inr A)
  else
    gI l1 117 <|
    gI l1 117 <|
    bv (upI A 1 l1.toNatClampNeg (A.1 2 l1.toNatClampNeg)) fun A5 =>
    bv (l1 + 1) fun v6 =>
    some (.inl (v6, A5))
noncomputable def f_X6_back_X39 (A : St) : Option (Int32 × St) :=
  some (A.1 1 0, A)
noncomputable def f_X6_back (A : St) : Option (Int32 × St) :=
  if (A.1 0 2) = 0 then
    cl2 (f_X6_finds 3 A) fun r8 A10 =>
    some (r8, A10)
  else
    cl (loop (fun s => f_X6_back_L15 s.1 s.2) (0, A)) (fun s => f_X6_back_X39 s)
abbrev rm_X6_back : Room := { frames := 1, cells := 0, slots := 0, locals := 21 }
set_option maxHeartbeats 4000000 in
set_option maxRecDepth 100000 in
theorem g_X6_back_L15 {E : pfE} (X : CX cellsR E cX6_back RX6 rm_X6_back 2) : ∀ (n : Nat) (l1 : Int32) (A : St) (ρ : St), lp (fun s => f_X6_back_L15 s.1 s.2) n (l1, A) = some ρ → (∀ (B : St), ρ = B → GG cellsR E B 39 [(0, .ref (fAd (eF E) 0))] []) → GG cellsR E A 15 [(0, .ref (fAd (eF E) 0)), (1, .int l1)] [] := by
  intro n
  induction n with
  | zero =>
    intro l1 A ρ h
    cases h
  | succ n ih =>
    intro l1 A ρ h0 K
    obtain ⟨x, hb, hx⟩ := lp_step h0
    have h : f_X6_back_L15 l1 A = some x := hb
    unfold f_X6_back_L15 at h
    clear hb h0
    refine G_iload_n X dX6_back_15 rfl 1 rfl ?_
    refine G_bipush X (v := 117) dX6_back_16 rfl ?_
    refine G_icge X (tgt := 39) dX6_back_18 (by decide) (fun c2 => ?_) (fun c2 => ?_)
    · have h := if_t c2 h
      exact G_sub [0] rfl (K _ (lpr (so h) hx).symm)
    · have h := if_f c2 h
      refine G_aload_n X dX6_back_21 rfl 0 rfl ?_
      refine G_getf X inX6 0 (eR0 _ _ _) rfl 0 (by decide) qw654 rfl dX6_back_22 ?_
      refine G_iload_n X dX6_back_25 rfl 1 rfl ?_
      refine G_aload_n X dX6_back_26 rfl 0 rfl ?_
      refine G_getf X inX6 0 (eR0 _ _ _) rfl 1 (by decide) qw655 rfl dX6_back_27 ?_
      refine G_iload_n X dX6_back_30 rfl 1 rfl ?_
      have hi3 := gI_n h
      have h := gI_k h
      refine G_iald X (j := l1.toNatClampNeg) 2 (eR2 _ _ _) hi3 rfl dX6_back_31 ?_
      have hi4 := gI_n h
      have h := gI_k h
      refine G_iast X (j := l1.toNatClampNeg) 1 (eR1 _ _ _) (sRI _ _ _ _ l1.toNatClampNeg _ _ (fun _ => rfl)) hi4 rfl dX6_back_32 ?_
      refine G_topS (fun A5 eA5 => ?_)
      have h := bv_k eA5 h
      obtain ⟨v6, ev6⟩ : ∃ y : Int32, y = l1 + 1 := ⟨_, rfl⟩
      have h := bv_k ev6 h
      refine G_iinc X (q := 1) (v := v6) (lv2 := [(1, .int v6), (0, .ref (fAd (eF E) 0))]) dX6_back_33 rfl (by rw [ev6]; rfl) (by decide) rfl ?_
      refine G_goto X (tgt := 15) dX6_back_36 (by decide) ?_
      exact G_sub [1, 0] rfl (ih _ _ _ (lpl (so h) hx) K)
set_option maxHeartbeats 4000000 in
set_option maxRecDepth 100000 in
theorem b_X6_back {E : pfE} (X : CX cellsR E cX6_back RX6 rm_X6_back 2) (A : St) {out : Int32 × St} (hQ : Reti cellsR E cX6_back out.1 out.2) (h : f_X6_back A = some out) : GG cellsR E A 0 [(0, .ref (fAd (eF E) 0))] [] := by
  unfold f_X6_back at h
  refine G_aload_n X dX6_back_0 rfl 0 rfl ?_
  refine G_getf X inX6 0 (eR0 _ _ _) rfl 2 (by decide) qw656 rfl dX6_back_1 ?_
  refine G_ifne X (tgt := 13) dX6_back_4 (by decide) (fun c1 => ?_) (fun c1 => ?_)
  · have h := if_t c1 h
    refine G_aload_n X dX6_back_7 rfl 0 rfl ?_
    refine G_iconst X (v := 3) dX6_back_8 rfl ?_
    obtain ⟨r8, A10, hz9, h⟩ := cl2_k h
    refine G_callV_i X (As := [.int 3]) (rest := []) ok_X6_finds qw737 0 (eR0 _ _ _) rfl rfl ⟨rfl, rfl, Nat.le_of_ble_eq_true rfl, Nat.le_of_ble_eq_true rfl⟩ (m_X6_finds X.d hz9) rfl rfl (Nat.le_of_ble_eq_true rfl) dX6_back_9 ?_
    have e := so h
    subst e
    exact hQ _ _ dX6_back_12
  · have h := if_f c1 h
    refine G_iconst X (v := 0) dX6_back_13 rfl ?_
    refine G_istore_n X (lv2 := [(1, .int 0), (0, .ref (fAd (eF E) 0))]) dX6_back_14 rfl (by decide) rfl ?_
    obtain ⟨ρ, hl, h⟩ := cl_k h
    obtain ⟨n, hl⟩ := loop_some hl
    refine G_sub [1, 0] rfl (g_X6_back_L15 X n _ _ ρ hl ?_)
    intro A7 e
    rw [e] at h
    have h : f_X6_back_X39 A7 = some _ := h
    unfold f_X6_back_X39 at h
    refine G_aload_n X dX6_back_39 rfl 0 rfl ?_
    refine G_getf X inX6 0 (eR0 _ _ _) rfl 0 (by decide) qw654 rfl dX6_back_40 ?_
    refine G_iconst X (v := 0) dX6_back_43 rfl ?_
    refine G_iald X (j := 0) 1 (eR1 _ _ _) (vi rfl) rfl dX6_back_44 ?_
    have e := so h
    subst e
    exact hQ _ _ dX6_back_45
theorem m_X6_back {l : Launch} {F : pfF} (hD : ∀ A, va_D (fA F) (cellsR (fAd F) (fCy F) A)) {A : St} {out : Int32 × St} (h : f_X6_back A = some out) : Mt l F cellsR yX6_back cX6_back 2 (some .int) rm_X6_back [.ref (fAd F 0)] A (va_Qi (fun (r : Int32) (u : St) => r = out.1 ∧ u = out.2) (Wd cellsR F) (fA F)) := by
  refine Met_i (by decide +kernel) (Nat.le_of_ble_eq_true rfl) hD (fun E el ef X hQ => ?_)
  subst el
  subst ef
  exact b_X6_back X _ hQ h
theorem ok_X6_back : OkV yX6_back cX6_back 2 (some .int) 0 := ⟨qw1110, qw1111, qw6, qw1112, by decide, by decide, by decide⟩
noncomputable def f_X6_count_L10 (A : St) (l1 : Int32) (l4 : Int32) (l2 : Int32) (l3 : Int32) (l5 : Int32) : Option ((Int32 × Int32 × Int32) ⊕ (Int32 × Int32)) :=
  if (A.1 1 0) ≤ l5 then
    some (.inr (l2, l3))
  else
    cl (f_X6_it l5 7 A) fun r2 =>
    cl (f_X6_bits r2) fun r4 =>
    bv (l2 + r4) fun v6 =>
    cl (f_X6_it l5 6 A) fun r7 =>
    bv (l3 + r7) fun v9 =>
    bv (l5 + 1) fun v10 =>
    some (.inl (v6, v9, v10))
noncomputable def f_X6_count_L55 (A : St) (l1 : Int32) (l2 : Int32) (l3 : Int32) (l4 : Int32) (l5 : Int32) : Option ((Int32 × Int32) ⊕ (Int32)) :=
  if 4 ≤ l5 then
    some (.inr l4)
  else
    cl (f_X6_standing l5 A) fun r14 =>
    bv (l4 + r14) fun v16 =>
    bv (l5 + 1) fun v17 =>
    some (.inl (v16, v17))
noncomputable def f_X6_count_X78 (A : St) (m1 : Int32) (m2 : Int32) (m3 : Int32) (m4 : Int32) : Option (Int32 × St) :=
  if m1 = 0 then
    some (A.1 1 0, A)
  else
    if m1 = 1 then
      some (m2 / (2 : Int32), A)
    else
      if m1 = 2 then
        some (m3, A)
      else
        if m1 = 3 then
          cl (f_X6_minutesOf (((1 : Int32) <<< ((A.1 1 0) &&& 31)) - 1) A) fun r39 =>
          some (r39, A)
        else
          if m1 = 4 then
            some (A.1 1 116, A)
          else
            if m1 = 5 then
              some (m4, A)
            else
              cl2 (f_X6_finds 0 A) fun r36 A38 =>
              some (r36, A38)
noncomputable def f_X6_count_X52 (A : St) (m1 : Int32) (m2 : Int32) (m3 : Int32) (m4 : Int32) : Option (Int32 × St) :=
  cl (loop (fun s => f_X6_count_L55 A m1 m2 m3 s.1 s.2) (m4, 0)) (fun s => f_X6_count_X78 A m1 m2 m3 s)
noncomputable def f_X6_count (x1 : Int32) (A : St) : Option (Int32 × St) :=
  cl (loop (fun s => f_X6_count_L10 A x1 0 s.1 s.2.1 s.2.2) (0, 0, 0)) (fun s => f_X6_count_X52 A x1 s.1 s.2 0)
abbrev rm_X6_count : Room := { frames := 2, cells := 0, slots := 0, locals := 45 }
set_option maxHeartbeats 4000000 in
set_option maxRecDepth 100000 in
theorem g_X6_count_L10 {E : pfE} (X : CX cellsR E cX6_count RX6 rm_X6_count 6) (A : St) (l1 : Int32) (l4 : Int32) : ∀ (n : Nat) (l2 : Int32) (l3 : Int32) (l5 : Int32) (ρ : Int32 × Int32), lp (fun s => f_X6_count_L10 A l1 l4 s.1 s.2.1 s.2.2) n (l2, l3, l5) = some ρ → (∀ (q2 : Int32) (q3 : Int32), ρ = (q2, q3) → GG cellsR E A 52 [(0, .ref (fAd (eF E) 0)), (1, .int l1), (2, .int q2), (3, .int q3), (4, .int l4)] []) → GG cellsR E A 10 [(0, .ref (fAd (eF E) 0)), (1, .int l1), (2, .int l2), (3, .int l3), (4, .int l4), (5, .int l5)] [] := by
  intro n
  induction n with
  | zero =>
    intro l2 l3 l5 ρ h
    cases h
  | succ n ih =>
    intro l2 l3 l5 ρ h0 K
    obtain ⟨x, hb, hx⟩ := lp_step h0
    have h : f_X6_count_L10 A l1 l4 l2 l3 l5 = some x := hb
    unfold f_X6_count_L10 at h
    clear hb h0
    refine G_iload X dX6_count_10 5 rfl ?_
    refine G_aload_n X dX6_count_12 rfl 0 rfl ?_
    refine G_getf X inX6 0 (eR0 _ _ _) rfl 0 (by decide) qw654 rfl dX6_count_13 ?_
    refine G_iconst X (v := 0) dX6_count_16 rfl ?_
    refine G_iald X (j := 0) 1 (eR1 _ _ _) (vi rfl) rfl dX6_count_17 ?_
    refine G_icge X (tgt := 52) dX6_count_18 (by decide) (fun c1 => ?_) (fun c1 => ?_)
    · have h := if_t c1 h
      exact G_sub [0, 1, 2, 3, 4] rfl (K _ _ (lpr (so h) hx).symm)
    · have h := if_f c1 h
      refine G_iload_n X dX6_count_21 rfl 2 rfl ?_
      refine G_aload_n X dX6_count_22 rfl 0 rfl ?_
      refine G_iload X dX6_count_23 5 rfl ?_
      refine G_bipush X (v := 7) dX6_count_25 rfl ?_
      obtain ⟨r2, hz3, h⟩ := cl_k h
      refine G_callV_i X (As := [.int l5, .int 7]) (rest := [.int l2]) ok_X6_it qw751 0 (eR0 _ _ _) rfl rfl ⟨rfl, rfl, Nat.le_of_ble_eq_true rfl, Nat.le_of_ble_eq_true rfl⟩ (m_X6_it X.d hz3) rfl rfl (Nat.le_of_ble_eq_true rfl) dX6_count_27 ?_
      obtain ⟨r4, hz5, h⟩ := cl_k h
      refine G_callS_i X (As := [.int r2]) (rest := [.int l2]) ok_X6_bits qw924 ⟨rfl, rfl, Nat.le_of_ble_eq_true rfl, Nat.le_of_ble_eq_true rfl⟩ (m_X6_bits X.d hz5) rfl rfl (Nat.le_of_ble_eq_true rfl) dX6_count_30 ?_
      refine G_iadd X dX6_count_33 ?_
      refine G_topi (fun v6 ev6 => ?_)
      have h := bv_k ev6 h
      refine G_istore_n X (lv2 := [(2, .int v6), (0, .ref (fAd (eF E) 0)), (1, .int l1), (3, .int l3), (4, .int l4), (5, .int l5)]) dX6_count_34 rfl (by decide) rfl ?_
      refine G_iload_n X dX6_count_35 rfl 3 rfl ?_
      refine G_aload_n X dX6_count_36 rfl 1 rfl ?_
      refine G_iload X dX6_count_37 5 rfl ?_
      refine G_bipush X (v := 6) dX6_count_39 rfl ?_
      obtain ⟨r7, hz8, h⟩ := cl_k h
      refine G_callV_i X (As := [.int l5, .int 6]) (rest := [.int l3]) ok_X6_it qw751 0 (eR0 _ _ _) rfl rfl ⟨rfl, rfl, Nat.le_of_ble_eq_true rfl, Nat.le_of_ble_eq_true rfl⟩ (m_X6_it X.d hz8) rfl rfl (Nat.le_of_ble_eq_true rfl) dX6_count_41 ?_
      refine G_iadd X dX6_count_44 ?_
      refine G_topi (fun v9 ev9 => ?_)
      have h := bv_k ev9 h
      refine G_istore_n X (lv2 := [(3, .int v9), (2, .int v6), (0, .ref (fAd (eF E) 0)), (1, .int l1), (4, .int l4), (5, .int l5)]) dX6_count_45 rfl (by decide) rfl ?_
      obtain ⟨v10, ev10⟩ : ∃ y : Int32, y = l5 + 1 := ⟨_, rfl⟩
      have h := bv_k ev10 h
      refine G_iinc X (q := 5) (v := v10) (lv2 := [(5, .int v10), (3, .int v9), (2, .int v6), (0, .ref (fAd (eF E) 0)), (1, .int l1), (4, .int l4)]) dX6_count_46 rfl (by rw [ev10]; rfl) (by decide) rfl ?_
      refine G_goto X (tgt := 10) dX6_count_49 (by decide) ?_
      exact G_sub [3, 4, 2, 1, 5, 0] rfl (ih _ _ _ _ (lpl (so h) hx) K)
set_option maxHeartbeats 4000000 in
set_option maxRecDepth 100000 in
theorem g_X6_count_L55 {E : pfE} (X : CX cellsR E cX6_count RX6 rm_X6_count 6) (A : St) (l1 : Int32) (l2 : Int32) (l3 : Int32) : ∀ (n : Nat) (l4 : Int32) (l5 : Int32) (ρ : Int32), lp (fun s => f_X6_count_L55 A l1 l2 l3 s.1 s.2) n (l4, l5) = some ρ → (∀ (q4 : Int32), ρ = q4 → GG cellsR E A 78 [(0, .ref (fAd (eF E) 0)), (1, .int l1), (2, .int l2), (3, .int l3), (4, .int q4)] []) → GG cellsR E A 55 [(0, .ref (fAd (eF E) 0)), (1, .int l1), (2, .int l2), (3, .int l3), (4, .int l4), (5, .int l5)] [] := by
  intro n
  induction n with
  | zero =>
    intro l4 l5 ρ h
    cases h
  | succ n ih =>
    intro l4 l5 ρ h0 K
    obtain ⟨x, hb, hx⟩ := lp_step h0
    have h : f_X6_count_L55 A l1 l2 l3 l4 l5 = some x := hb
    unfold f_X6_count_L55 at h
    clear hb h0
    refine G_iload X dX6_count_55 5 rfl ?_
    refine G_iconst X (v := 4) dX6_count_57 rfl ?_
    refine G_icge X (tgt := 78) dX6_count_58 (by decide) (fun c13 => ?_) (fun c13 => ?_)
    · have h := if_t c13 h
      exact G_sub [0, 1, 2, 3, 4] rfl (K _ (lpr (so h) hx).symm)
    · have h := if_f c13 h
      refine G_iload X dX6_count_61 4 rfl ?_
      refine G_aload_n X dX6_count_63 rfl 0 rfl ?_
      refine G_iload X dX6_count_64 5 rfl ?_
      obtain ⟨r14, hz15, h⟩ := cl_k h
      refine G_callV_i X (As := [.int l5]) (rest := [.int l4]) ok_X6_standing qw1031 0 (eR0 _ _ _) rfl rfl ⟨rfl, rfl, Nat.le_of_ble_eq_true rfl, Nat.le_of_ble_eq_true rfl⟩ (m_X6_standing X.d hz15) rfl rfl (Nat.le_of_ble_eq_true rfl) dX6_count_66 ?_
      refine G_iadd X dX6_count_69 ?_
      refine G_topi (fun v16 ev16 => ?_)
      have h := bv_k ev16 h
      refine G_istore X (lv2 := [(4, .int v16), (0, .ref (fAd (eF E) 0)), (1, .int l1), (2, .int l2), (3, .int l3), (5, .int l5)]) dX6_count_70 (by decide) rfl ?_
      obtain ⟨v17, ev17⟩ : ∃ y : Int32, y = l5 + 1 := ⟨_, rfl⟩
      have h := bv_k ev17 h
      refine G_iinc X (q := 5) (v := v17) (lv2 := [(5, .int v17), (4, .int v16), (0, .ref (fAd (eF E) 0)), (1, .int l1), (2, .int l2), (3, .int l3)]) dX6_count_72 rfl (by rw [ev17]; rfl) (by decide) rfl ?_
      refine G_goto X (tgt := 55) dX6_count_75 (by decide) ?_
      exact G_sub [2, 3, 4, 5, 1, 0] rfl (ih _ _ _ (lpl (so h) hx) K)
set_option maxHeartbeats 4000000 in
set_option maxRecDepth 100000 in
theorem b_X6_count {E : pfE} (X : CX cellsR E cX6_count RX6 rm_X6_count 6) (x1 : Int32) (A : St) {out : Int32 × St} (hQ : Reti cellsR E cX6_count out.1 out.2) (h : f_X6_count x1 A = some out) : GG cellsR E A 0 [(0, .ref (fAd (eF E) 0)), (1, .int x1)] [] := by
  unfold f_X6_count at h
  refine G_iconst X (v := 0) dX6_count_0 rfl ?_
  refine G_istore_n X (lv2 := [(2, .int 0), (0, .ref (fAd (eF E) 0)), (1, .int x1)]) dX6_count_1 rfl (by decide) rfl ?_
  refine G_iconst X (v := 0) dX6_count_2 rfl ?_
  refine G_istore_n X (lv2 := [(3, .int 0), (2, .int 0), (0, .ref (fAd (eF E) 0)), (1, .int x1)]) dX6_count_3 rfl (by decide) rfl ?_
  refine G_iconst X (v := 0) dX6_count_4 rfl ?_
  refine G_istore X (lv2 := [(4, .int 0), (3, .int 0), (2, .int 0), (0, .ref (fAd (eF E) 0)), (1, .int x1)]) dX6_count_5 (by decide) rfl ?_
  refine G_iconst X (v := 0) dX6_count_7 rfl ?_
  refine G_istore X (lv2 := [(5, .int 0), (4, .int 0), (3, .int 0), (2, .int 0), (0, .ref (fAd (eF E) 0)), (1, .int x1)]) dX6_count_8 (by decide) rfl ?_
  obtain ⟨ρ, hl, h⟩ := cl_k h
  obtain ⟨n, hl⟩ := loop_some hl
  refine G_sub [4, 5, 3, 2, 1, 0] rfl (g_X6_count_L10 X A x1 0 n _ _ _ ρ hl ?_)
  intro v12 v11 e
  subst e
  have h : f_X6_count_X52 A x1 v12 v11 0 = some _ := h
  unfold f_X6_count_X52 at h
  refine G_iconst X (v := 0) dX6_count_52 rfl ?_
  refine G_istore X (lv2 := [(5, .int 0), (0, .ref (fAd (eF E) 0)), (1, .int x1), (2, .int v12), (3, .int v11), (4, .int 0)]) dX6_count_53 (by decide) rfl ?_
  obtain ⟨ρ, hl, h⟩ := cl_k h
  obtain ⟨n, hl⟩ := loop_some hl
  refine G_sub [1, 2, 3, 4, 5, 0] rfl (g_X6_count_L55 X A x1 v12 v11 n _ _ ρ hl ?_)
  intro v18 e
  rw [e] at h
  have h : f_X6_count_X78 A x1 v12 v11 v18 = some _ := h
  unfold f_X6_count_X78 at h
  refine G_iload_n X dX6_count_78 rfl 1 rfl ?_
  by_cases c19 : x1 = 0
  · have h := if_t c19 h
    refine G_tabIn X dX6_count_79 (by rw [c19]; decide) (by rw [c19]; decide) (off := 37) (by rw [c19]; rfl) (tgt := 116) (by decide) ?_
    refine G_aload_n X dX6_count_116 rfl 0 rfl ?_
    refine G_getf X inX6 0 (eR0 _ _ _) rfl 0 (by decide) qw654 rfl dX6_count_117 ?_
    refine G_iconst X (v := 0) dX6_count_120 rfl ?_
    refine G_iald X (j := 0) 1 (eR1 _ _ _) (vi rfl) rfl dX6_count_121 ?_
    have e := so h
    subst e
    exact hQ _ _ dX6_count_122
  · have h := if_f c19 h
    by_cases c20 : x1 = 1
    · have h := if_t c20 h
      refine G_tabIn X dX6_count_79 (by rw [c20]; decide) (by rw [c20]; decide) (off := 44) (by rw [c20]; rfl) (tgt := 123) (by decide) ?_
      refine G_iload_n X dX6_count_123 rfl 2 rfl ?_
      refine G_iconst X (v := 2) dX6_count_124 rfl ?_
      refine G_idiv X dX6_count_125 (by decide) ?_
      have e := so h
      subst e
      exact hQ _ _ dX6_count_126
    · have h := if_f c20 h
      by_cases c21 : x1 = 2
      · have h := if_t c21 h
        refine G_tabIn X dX6_count_79 (by rw [c21]; decide) (by rw [c21]; decide) (off := 48) (by rw [c21]; rfl) (tgt := 127) (by decide) ?_
        refine G_iload_n X dX6_count_127 rfl 3 rfl ?_
        have e := so h
        subst e
        exact hQ _ _ dX6_count_128
      · have h := if_f c21 h
        by_cases c22 : x1 = 3
        · have h := if_t c22 h
          refine G_tabIn X dX6_count_79 (by rw [c22]; decide) (by rw [c22]; decide) (off := 50) (by rw [c22]; rfl) (tgt := 129) (by decide) ?_
          refine G_aload_n X dX6_count_129 rfl 0 rfl ?_
          refine G_iconst X (v := 1) dX6_count_130 rfl ?_
          refine G_aload_n X dX6_count_131 rfl 0 rfl ?_
          refine G_getf X inX6 0 (eR0 _ _ _) rfl 0 (by decide) qw654 rfl dX6_count_132 ?_
          refine G_iconst X (v := 0) dX6_count_135 rfl ?_
          refine G_iald X (j := 0) 1 (eR1 _ _ _) (vi rfl) rfl dX6_count_136 ?_
          refine G_ishl X dX6_count_137 ?_
          refine G_iconst X (v := 1) dX6_count_138 rfl ?_
          refine G_isub X dX6_count_139 ?_
          obtain ⟨r28, hz29, h⟩ := cl_k h
          refine G_callV_i X (As := [.int (((1 : Int32) <<< ((A.1 1 0) &&& 31)) - 1)]) (rest := []) ok_X6_minutesOf qw931 0 (eR0 _ _ _) rfl rfl ⟨rfl, rfl, Nat.le_of_ble_eq_true rfl, Nat.le_of_ble_eq_true rfl⟩ (m_X6_minutesOf X.d hz29) rfl rfl (Nat.le_of_ble_eq_true rfl) dX6_count_140 ?_
          have e := so h
          subst e
          exact hQ _ _ dX6_count_143
        · have h := if_f c22 h
          by_cases c23 : x1 = 4
          · have h := if_t c23 h
            refine G_tabIn X dX6_count_79 (by rw [c23]; decide) (by rw [c23]; decide) (off := 65) (by rw [c23]; rfl) (tgt := 144) (by decide) ?_
            refine G_aload_n X dX6_count_144 rfl 0 rfl ?_
            refine G_getf X inX6 0 (eR0 _ _ _) rfl 0 (by decide) qw654 rfl dX6_count_145 ?_
            refine G_bipush X (v := 116) dX6_count_148 rfl ?_
            refine G_iald X (j := 116) 1 (eR1 _ _ _) (vi rfl) rfl dX6_count_150 ?_
            have e := so h
            subst e
            exact hQ _ _ dX6_count_151
          · have h := if_f c23 h
            by_cases c24 : x1 = 5
            · have h := if_t c24 h
              refine G_tabIn X dX6_count_79 (by rw [c24]; decide) (by rw [c24]; decide) (off := 73) (by rw [c24]; rfl) (tgt := 152) (by decide) ?_
              refine G_iload X dX6_count_152 4 rfl ?_
              have e := so h
              subst e
              exact hQ _ _ dX6_count_154
            · have h := if_f c24 h
              refine G_tabOut X dX6_count_79 (by have t0 := lv_neT (k := 0) (a := 0) c19 (by decide); have t1 := lv_neT (k := 1) (a := 1) c20 (by decide); have t2 := lv_neT (k := 2) (a := 2) c21 (by decide); have t3 := lv_neT (k := 3) (a := 3) c22 (by decide); have t4 := lv_neT (k := 4) (a := 4) c23 (by decide); have t5 := lv_neT (k := 5) (a := 5) c24 (by decide); omega) (tgt := 155) (by decide) ?_
              refine G_aload_n X dX6_count_155 rfl 0 rfl ?_
              refine G_iconst X (v := 0) dX6_count_156 rfl ?_
              obtain ⟨r25, A27, hz26, h⟩ := cl2_k h
              refine G_callV_i X (As := [.int 0]) (rest := []) ok_X6_finds qw737 0 (eR0 _ _ _) rfl rfl ⟨rfl, rfl, Nat.le_of_ble_eq_true rfl, Nat.le_of_ble_eq_true rfl⟩ (m_X6_finds X.d hz26) rfl rfl (Nat.le_of_ble_eq_true rfl) dX6_count_157 ?_
              have e := so h
              subst e
              exact hQ _ _ dX6_count_160
theorem m_X6_count {l : Launch} {F : pfF} (hD : ∀ A, va_D (fA F) (cellsR (fAd F) (fCy F) A)) {x1 : Int32} {A : St} {out : Int32 × St} (h : f_X6_count x1 A = some out) : Mt l F cellsR yX6_count cX6_count 6 (some .int) rm_X6_count [.ref (fAd F 0), .int x1] A (va_Qi (fun (r : Int32) (u : St) => r = out.1 ∧ u = out.2) (Wd cellsR F) (fA F)) := by
  refine Met_i (by decide +kernel) (Nat.le_of_ble_eq_true rfl) hD (fun E el ef X hQ => ?_)
  subst el
  subst ef
  exact b_X6_count X _ _ hQ h
theorem ok_X6_count : OkV yX6_count cX6_count 6 (some .int) 1 := ⟨qw1114, qw1115, qw6, qw1116, by decide, by decide, by decide⟩
noncomputable def f_X6_status_L24 (A : St) (l1 : Int32) (l2 : Int32) (l3 : Int32) : Option ((Int32 × Int32) ⊕ (Int32)) :=
  if 8 ≤ l3 then
    some (.inr l2)
  else
    if l1 < 0 then
      gI l3 8 <|
      bv (l2 + (A.1 3 l3.toNatClampNeg)) fun v7 =>
      bv (l3 + 1) fun v8 =>
      some (.inl (v7, v8))
    else
      if l1 = l3 then
        gI l3 8 <|
        bv (l2 + (A.1 3 l3.toNatClampNeg)) fun v13 =>
        bv (l3 + 1) fun v14 =>
        some (.inl (v13, v14))
      else
        bv (l2 + 0) fun v10 =>
        bv (l3 + 1) fun v11 =>
        some (.inl (v10, v11))
noncomputable def f_X6_status_X58 (A : St) (m2 : Int32) : Option (Int32 × St) :=
  some (m2, A)
noncomputable def f_X6_status (x1 : Int32) (A : St) : Option (Int32 × St) :=
  cl (f_X6_in x1.toInt64 (-1) 7) fun r1 =>
  if (bI r1) = 0 then
    cl2 (f_X6_finds 0 A) fun r16 A18 =>
    some (r16, A18)
  else
    cl (loop (fun s => f_X6_status_L24 A x1 s.1 s.2) (0, 0)) (fun s => f_X6_status_X58 A s)
abbrev rm_X6_status : Room := { frames := 1, cells := 0, slots := 0, locals := 25 }
set_option maxHeartbeats 4000000 in
set_option maxRecDepth 100000 in
theorem g_X6_status_L24 {E : pfE} (X : CX cellsR E cX6_status RX6 rm_X6_status 4) (A : St) (l1 : Int32) : ∀ (n : Nat) (l2 : Int32) (l3 : Int32) (ρ : Int32), lp (fun s => f_X6_status_L24 A l1 s.1 s.2) n (l2, l3) = some ρ → (∀ (q2 : Int32), ρ = q2 → GG cellsR E A 58 [(2, .int q2)] []) → GG cellsR E A 24 [(0, .ref (fAd (eF E) 0)), (1, .int l1), (2, .int l2), (3, .int l3)] [] := by
  intro n
  induction n with
  | zero =>
    intro l2 l3 ρ h
    cases h
  | succ n ih =>
    intro l2 l3 ρ h0 K
    obtain ⟨x, hb, hx⟩ := lp_step h0
    have h : f_X6_status_L24 A l1 l2 l3 = some x := hb
    unfold f_X6_status_L24 at h
    clear hb h0
    refine G_iload_n X dX6_status_24 rfl 3 rfl ?_
    refine G_bipush X (v := 8) dX6_status_25 rfl ?_
    refine G_icge X (tgt := 58) dX6_status_27 (by decide) (fun c4 => ?_) (fun c4 => ?_)
    · have h := if_t c4 h
      exact G_sub [2] rfl (K _ (lpr (so h) hx).symm)
    · have h := if_f c4 h
      refine G_iload_n X dX6_status_30 rfl 2 rfl ?_
      refine G_iload_n X dX6_status_31 rfl 1 rfl ?_
      refine G_iflt X (tgt := 40) dX6_status_32 (by decide) (fun c5 => ?_) (fun c5 => ?_)
      · have h := if_t c5 h
        refine G_aload_n X dX6_status_40 rfl 0 rfl ?_
        refine G_getf X inX6 0 (eR0 _ _ _) rfl 3 (by decide) qw657 rfl dX6_status_41 ?_
        refine G_iload_n X dX6_status_44 rfl 3 rfl ?_
        have hi6 := gI_n h
        have h := gI_k h
        refine G_iald X (j := l3.toNatClampNeg) 3 (eR3 _ _ _) hi6 rfl dX6_status_45 ?_
        refine G_goto X (tgt := 50) dX6_status_46 (by decide) ?_
        refine G_iadd X dX6_status_50 ?_
        refine G_topi (fun v7 ev7 => ?_)
        have h := bv_k ev7 h
        refine G_istore_n X (lv2 := [(2, .int v7), (0, .ref (fAd (eF E) 0)), (1, .int l1), (3, .int l3)]) dX6_status_51 rfl (by decide) rfl ?_
        obtain ⟨v8, ev8⟩ : ∃ y : Int32, y = l3 + 1 := ⟨_, rfl⟩
        have h := bv_k ev8 h
        refine G_iinc X (q := 3) (v := v8) (lv2 := [(3, .int v8), (2, .int v7), (0, .ref (fAd (eF E) 0)), (1, .int l1)]) dX6_status_52 rfl (by rw [ev8]; rfl) (by decide) rfl ?_
        refine G_goto X (tgt := 24) dX6_status_55 (by decide) ?_
        exact G_sub [2, 3, 1, 0] rfl (ih _ _ _ (lpl (so h) hx) K)
      · have h := if_f c5 h
        refine G_iload_n X dX6_status_35 rfl 1 rfl ?_
        refine G_iload_n X dX6_status_36 rfl 3 rfl ?_
        refine G_icne X (tgt := 49) dX6_status_37 (by decide) (fun c9 => ?_) (fun c9 => ?_)
        · have h := if_t c9 h
          refine G_aload_n X dX6_status_40 rfl 0 rfl ?_
          refine G_getf X inX6 0 (eR0 _ _ _) rfl 3 (by decide) qw657 rfl dX6_status_41 ?_
          refine G_iload_n X dX6_status_44 rfl 3 rfl ?_
          have hi12 := gI_n h
          have h := gI_k h
          refine G_iald X (j := l3.toNatClampNeg) 3 (eR3 _ _ _) hi12 rfl dX6_status_45 ?_
          refine G_goto X (tgt := 50) dX6_status_46 (by decide) ?_
          refine G_iadd X dX6_status_50 ?_
          refine G_topi (fun v13 ev13 => ?_)
          have h := bv_k ev13 h
          refine G_istore_n X (lv2 := [(2, .int v13), (0, .ref (fAd (eF E) 0)), (1, .int l1), (3, .int l3)]) dX6_status_51 rfl (by decide) rfl ?_
          obtain ⟨v14, ev14⟩ : ∃ y : Int32, y = l3 + 1 := ⟨_, rfl⟩
          have h := bv_k ev14 h
          refine G_iinc X (q := 3) (v := v14) (lv2 := [(3, .int v14), (2, .int v13), (0, .ref (fAd (eF E) 0)), (1, .int l1)]) dX6_status_52 rfl (by rw [ev14]; rfl) (by decide) rfl ?_
          refine G_goto X (tgt := 24) dX6_status_55 (by decide) ?_
          exact G_sub [2, 3, 1, 0] rfl (ih _ _ _ (lpl (so h) hx) K)
        · have h := if_f c9 h
          refine G_iconst X (v := 0) dX6_status_49 rfl ?_
          refine G_iadd X dX6_status_50 ?_
          refine G_topi (fun v10 ev10 => ?_)
          have h := bv_k ev10 h
          refine G_istore_n X (lv2 := [(2, .int v10), (0, .ref (fAd (eF E) 0)), (1, .int l1), (3, .int l3)]) dX6_status_51 rfl (by decide) rfl ?_
          obtain ⟨v11, ev11⟩ : ∃ y : Int32, y = l3 + 1 := ⟨_, rfl⟩
          have h := bv_k ev11 h
          refine G_iinc X (q := 3) (v := v11) (lv2 := [(3, .int v11), (2, .int v10), (0, .ref (fAd (eF E) 0)), (1, .int l1)]) dX6_status_52 rfl (by rw [ev11]; rfl) (by decide) rfl ?_
          refine G_goto X (tgt := 24) dX6_status_55 (by decide) ?_
          exact G_sub [2, 3, 1, 0] rfl (ih _ _ _ (lpl (so h) hx) K)
set_option maxHeartbeats 4000000 in
set_option maxRecDepth 100000 in
theorem b_X6_status {E : pfE} (X : CX cellsR E cX6_status RX6 rm_X6_status 4) (x1 : Int32) (A : St) {out : Int32 × St} (hQ : Reti cellsR E cX6_status out.1 out.2) (h : f_X6_status x1 A = some out) : GG cellsR E A 0 [(0, .ref (fAd (eF E) 0)), (1, .int x1)] [] := by
  unfold f_X6_status at h
  refine G_iload_n X dX6_status_0 rfl 1 rfl ?_
  refine G_i2l X dX6_status_1 rfl ?_
  refine G_ldc2 X (v := (-1)) qw735 dX6_status_2 ?_
  refine G_ldc2 X (v := 7) qw750 dX6_status_5 ?_
  obtain ⟨r1, hz2, h⟩ := cl_k h
  refine G_callS_i X (As := [.long x1.toInt64, .long (-1), .long 7]) (rest := []) ok_X6_in qw727 ⟨rfl, rfl, Nat.le_of_ble_eq_true rfl, Nat.le_of_ble_eq_true rfl⟩ (m_X6_in X.d hz2) rfl rfl (Nat.le_of_ble_eq_true rfl) dX6_status_8 ?_
  refine G_ifne X (tgt := 20) dX6_status_11 (by decide) (fun c3 => ?_) (fun c3 => ?_)
  · have h := if_t c3 h
    refine G_aload_n X dX6_status_14 rfl 0 rfl ?_
    refine G_iconst X (v := 0) dX6_status_15 rfl ?_
    obtain ⟨r16, A18, hz17, h⟩ := cl2_k h
    refine G_callV_i X (As := [.int 0]) (rest := []) ok_X6_finds qw737 0 (eR0 _ _ _) rfl rfl ⟨rfl, rfl, Nat.le_of_ble_eq_true rfl, Nat.le_of_ble_eq_true rfl⟩ (m_X6_finds X.d hz17) rfl rfl (Nat.le_of_ble_eq_true rfl) dX6_status_16 ?_
    have e := so h
    subst e
    exact hQ _ _ dX6_status_19
  · have h := if_f c3 h
    refine G_iconst X (v := 0) dX6_status_20 rfl ?_
    refine G_istore_n X (lv2 := [(2, .int 0), (0, .ref (fAd (eF E) 0)), (1, .int x1)]) dX6_status_21 rfl (by decide) rfl ?_
    refine G_iconst X (v := 0) dX6_status_22 rfl ?_
    refine G_istore_n X (lv2 := [(3, .int 0), (2, .int 0), (0, .ref (fAd (eF E) 0)), (1, .int x1)]) dX6_status_23 rfl (by decide) rfl ?_
    obtain ⟨ρ, hl, h⟩ := cl_k h
    obtain ⟨n, hl⟩ := loop_some hl
    refine G_sub [2, 3, 1, 0] rfl (g_X6_status_L24 X A x1 n _ _ ρ hl ?_)
    intro v15 e
    rw [e] at h
    have h : f_X6_status_X58 A v15 = some _ := h
    unfold f_X6_status_X58 at h
    refine G_iload_n X dX6_status_58 rfl 0 rfl ?_
    have e := so h
    subst e
    exact hQ _ _ dX6_status_59
theorem m_X6_status {l : Launch} {F : pfF} (hD : ∀ A, va_D (fA F) (cellsR (fAd F) (fCy F) A)) {x1 : Int32} {A : St} {out : Int32 × St} (h : f_X6_status x1 A = some out) : Mt l F cellsR yX6_status cX6_status 4 (some .int) rm_X6_status [.ref (fAd F 0), .int x1] A (va_Qi (fun (r : Int32) (u : St) => r = out.1 ∧ u = out.2) (Wd cellsR F) (fA F)) := by
  refine Met_i (by decide +kernel) (Nat.le_of_ble_eq_true rfl) hD (fun E el ef X hQ => ?_)
  subst el
  subst ef
  exact b_X6_status X _ _ hQ h
theorem ok_X6_status : OkV yX6_status cX6_status 4 (some .int) 1 := ⟨qw1118, qw1119, qw6, qw1120, by decide, by decide, by decide⟩
