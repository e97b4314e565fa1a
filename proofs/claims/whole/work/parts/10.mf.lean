noncomputable def f_X6_aim (x1 : Int32) (x2 : Int32) (x3 : Int32) (A : St) : Option (Int32 × St) :=
  cl (f_X6_in x1.toInt64 0 3) fun r1 =>
  if (bI r1) = 0 then
    cl2 (f_X6_finds 0 A) fun r4 A6 =>
    some (r4, A6)
  else
    cl (f_X6_isAbility x2) fun r7 =>
    if (bI r7) = 0 then
      cl2 (f_X6_finds 0 A) fun r10 A12 =>
      some (r10, A12)
    else
      cl (f_X6_in x3.toInt64 0 9) fun r13 =>
      if (bI r13) = 0 then
        cl2 (f_X6_finds 0 A) fun r22 A24 =>
        some (r22, A24)
      else
        gI (((97 : Int32) + ((2 : Int32) * x1)) + 1) 117 <|
        bv (A.1 1 (((97 : Int32) + ((2 : Int32) * x1)) + 1).toNatClampNeg) fun v17 =>
        gI ((97 : Int32) + ((2 : Int32) * x1)) 117 <|
        bv (upI A 1 ((97 : Int32) + ((2 : Int32) * x1)).toNatClampNeg x2) fun A19 =>
        gI (((97 : Int32) + ((2 : Int32) * x1)) + 1) 117 <|
        bv (upI A19 1 (((97 : Int32) + ((2 : Int32) * x1)) + 1).toNatClampNeg x3) fun A21 =>
        some (v17, A21)
abbrev rm_X6_aim : Room := { frames := 2, cells := 0, slots := 0, locals := 45 }
set_option maxHeartbeats 4000000 in
set_option maxRecDepth 100000 in
theorem b_X6_aim {E : pfE} (X : CX cellsR E cX6_aim RX6 rm_X6_aim 5) (x1 : Int32) (x2 : Int32) (x3 : Int32) (A : St) {out : Int32 × St} (hQ : Reti cellsR E cX6_aim out.1 out.2) (h : f_X6_aim x1 x2 x3 A = some out) : GG cellsR E A 0 [(0, .ref (fAd (eF E) 0)), (1, .int x1), (2, .int x2), (3, .int x3)] [] := by
  unfold f_X6_aim at h
  refine G_iload_n X dX6_aim_0 rfl 1 rfl ?_
  refine G_i2l X dX6_aim_1 rfl ?_
  refine G_lconst X (v := 0) dX6_aim_2 rfl ?_
  refine G_ldc2 X (v := 3) qw730 dX6_aim_3 ?_
  obtain ⟨r1, hz2, h⟩ := cl_k h
  refine G_callS_i X (As := [.long x1.toInt64, .long 0, .long 3]) (rest := []) ok_X6_in qw727 ⟨rfl, rfl, Nat.le_of_ble_eq_true rfl, Nat.le_of_ble_eq_true rfl⟩ (m_X6_in X.d hz2) rfl rfl (Nat.le_of_ble_eq_true rfl) dX6_aim_6 ?_
  refine G_ifeq X (tgt := 31) dX6_aim_9 (by decide) (fun c3 => ?_) (fun c3 => ?_)
  · have h := if_t c3 h
    refine G_aload_n X dX6_aim_31 rfl 0 rfl ?_
    refine G_iconst X (v := 0) dX6_aim_32 rfl ?_
    obtain ⟨r4, A6, hz5, h⟩ := cl2_k h
    refine G_callV_i X (As := [.int 0]) (rest := []) ok_X6_finds qw737 0 (eR0 _ _ _) rfl rfl ⟨rfl, rfl, Nat.le_of_ble_eq_true rfl, Nat.le_of_ble_eq_true rfl⟩ (m_X6_finds X.d hz5) rfl rfl (Nat.le_of_ble_eq_true rfl) dX6_aim_33 ?_
    have e := so h
    subst e
    exact hQ _ _ dX6_aim_36
  · have h := if_f c3 h
    refine G_iload_n X dX6_aim_12 rfl 2 rfl ?_
    obtain ⟨r7, hz8, h⟩ := cl_k h
    refine G_callS_i X (As := [.int x2]) (rest := []) ok_X6_isAbility qw804 ⟨rfl, rfl, Nat.le_of_ble_eq_true rfl, Nat.le_of_ble_eq_true rfl⟩ (m_X6_isAbility X.d hz8) rfl rfl (Nat.le_of_ble_eq_true rfl) dX6_aim_13 ?_
    refine G_ifeq X (tgt := 31) dX6_aim_16 (by decide) (fun c9 => ?_) (fun c9 => ?_)
    · have h := if_t c9 h
      refine G_aload_n X dX6_aim_31 rfl 0 rfl ?_
      refine G_iconst X (v := 0) dX6_aim_32 rfl ?_
      obtain ⟨r10, A12, hz11, h⟩ := cl2_k h
      refine G_callV_i X (As := [.int 0]) (rest := []) ok_X6_finds qw737 0 (eR0 _ _ _) rfl rfl ⟨rfl, rfl, Nat.le_of_ble_eq_true rfl, Nat.le_of_ble_eq_true rfl⟩ (m_X6_finds X.d hz11) rfl rfl (Nat.le_of_ble_eq_true rfl) dX6_aim_33 ?_
      have e := so h
      subst e
      exact hQ _ _ dX6_aim_36
    · have h := if_f c9 h
      refine G_iload_n X dX6_aim_19 rfl 3 rfl ?_
      refine G_i2l X dX6_aim_20 rfl ?_
      refine G_lconst X (v := 0) dX6_aim_21 rfl ?_
      refine G_ldc2 X (v := 9) qw868 dX6_aim_22 ?_
      obtain ⟨r13, hz14, h⟩ := cl_k h
      refine G_callS_i X (As := [.long x3.toInt64, .long 0, .long 9]) (rest := []) ok_X6_in qw727 ⟨rfl, rfl, Nat.le_of_ble_eq_true rfl, Nat.le_of_ble_eq_true rfl⟩ (m_X6_in X.d hz14) rfl rfl (Nat.le_of_ble_eq_true rfl) dX6_aim_25 ?_
      refine G_ifne X (tgt := 37) dX6_aim_28 (by decide) (fun c15 => ?_) (fun c15 => ?_)
      · have h := if_t c15 h
        refine G_aload_n X dX6_aim_31 rfl 0 rfl ?_
        refine G_iconst X (v := 0) dX6_aim_32 rfl ?_
        obtain ⟨r22, A24, hz23, h⟩ := cl2_k h
        refine G_callV_i X (As := [.int 0]) (rest := []) ok_X6_finds qw737 0 (eR0 _ _ _) rfl rfl ⟨rfl, rfl, Nat.le_of_ble_eq_true rfl, Nat.le_of_ble_eq_true rfl⟩ (m_X6_finds X.d hz23) rfl rfl (Nat.le_of_ble_eq_true rfl) dX6_aim_33 ?_
        have e := so h
        subst e
        exact hQ _ _ dX6_aim_36
      · have h := if_f c15 h
        refine G_aload_n X dX6_aim_37 rfl 0 rfl ?_
        refine G_getf X inX6 0 (eR0 _ _ _) rfl 0 (by decide) qw654 rfl dX6_aim_38 ?_
        refine G_bipush X (v := 97) dX6_aim_41 rfl ?_
        refine G_iconst X (v := 2) dX6_aim_43 rfl ?_
        refine G_iload_n X dX6_aim_44 rfl 1 rfl ?_
        refine G_imul X dX6_aim_45 ?_
        refine G_iadd X dX6_aim_46 ?_
        refine G_iconst X (v := 1) dX6_aim_47 rfl ?_
        refine G_iadd X dX6_aim_48 ?_
        have hi16 := gI_n h
        have h := gI_k h
        refine G_iald X (j := (((97 : Int32) + ((2 : Int32) * x1)) + 1).toNatClampNeg) 1 (eR1 _ _ _) hi16 rfl dX6_aim_49 ?_
        refine G_topi (fun v17 ev17 => ?_)
        have h := bv_k ev17 h
        refine G_istore X (lv2 := [(4, .int v17), (0, .ref (fAd (eF E) 0)), (1, .int x1), (2, .int x2), (3, .int x3)]) dX6_aim_50 (by decide) rfl ?_
        refine G_aload_n X dX6_aim_52 rfl 1 rfl ?_
        refine G_getf X inX6 0 (eR0 _ _ _) rfl 0 (by decide) qw654 rfl dX6_aim_53 ?_
        refine G_bipush X (v := 97) dX6_aim_56 rfl ?_
        refine G_iconst X (v := 2) dX6_aim_58 rfl ?_
        refine G_iload_n X dX6_aim_59 rfl 2 rfl ?_
        refine G_imul X dX6_aim_60 ?_
        refine G_iadd X dX6_aim_61 ?_
        refine G_iload_n X dX6_aim_62 rfl 3 rfl ?_
        have hi18 := gI_n h
        have h := gI_k h
        refine G_iast X (j := ((97 : Int32) + ((2 : Int32) * x1)).toNatClampNeg) 1 (eR1 _ _ _) (sRI _ _ _ _ ((97 : Int32) + ((2 : Int32) * x1)).toNatClampNeg _ _ (fun _ => rfl)) hi18 rfl dX6_aim_63 ?_
        refine G_topS (fun A19 eA19 => ?_)
        have h := bv_k eA19 h
        refine G_aload_n X dX6_aim_64 rfl 1 rfl ?_
        refine G_getf X inX6 0 (eR0 _ _ _) rfl 0 (by decide) qw654 rfl dX6_aim_65 ?_
        refine G_bipush X (v := 97) dX6_aim_68 rfl ?_
        refine G_iconst X (v := 2) dX6_aim_70 rfl ?_
        refine G_iload_n X dX6_aim_71 rfl 2 rfl ?_
        refine G_imul X dX6_aim_72 ?_
        refine G_iadd X dX6_aim_73 ?_
        refine G_iconst X (v := 1) dX6_aim_74 rfl ?_
        refine G_iadd X dX6_aim_75 ?_
        refine G_iload_n X dX6_aim_76 rfl 4 rfl ?_
        have hi20 := gI_n h
        have h := gI_k h
        refine G_iast X (j := (((97 : Int32) + ((2 : Int32) * x1)) + 1).toNatClampNeg) 1 (eR1 _ _ _) (sRI _ _ _ _ (((97 : Int32) + ((2 : Int32) * x1)) + 1).toNatClampNeg _ _ (fun _ => rfl)) hi20 rfl dX6_aim_77 ?_
        refine G_topS (fun A21 eA21 => ?_)
        have h := bv_k eA21 h
        refine G_iload X dX6_aim_78 0 rfl ?_
        have e := so h
        subst e
        exact hQ _ _ dX6_aim_80
theorem m_X6_aim {l : Launch} {F : pfF} (hD : ∀ A, va_D (fA F) (cellsR (fAd F) (fCy F) A)) {x1 : Int32} {x2 : Int32} {x3 : Int32} {A : St} {out : Int32 × St} (h : f_X6_aim x1 x2 x3 A = some out) : Mt l F cellsR yX6_aim cX6_aim 5 (some .int) rm_X6_aim [.ref (fAd F 0), .int x1, .int x2, .int x3] A (va_Qi (fun (r : Int32) (u : St) => r = out.1 ∧ u = out.2) (Wd cellsR F) (fA F)) := by
  refine Met_i (by decide +kernel) (Nat.le_of_ble_eq_true rfl) hD (fun E el ef X hQ => ?_)
  subst el
  subst ef
  exact b_X6_aim X _ _ _ _ hQ h
theorem ok_X6_aim : OkV yX6_aim cX6_aim 5 (some .int) 3 := ⟨qw865, qw866, qw6, qw867, by decide, by decide, by decide⟩
noncomputable def f_X6_areItems (x1 : Int32) (A : St) : Option (Bool) :=
  cl (f_X6_in x1.toInt64 0 ((((1 : Int32) <<< ((A.1 1 0) &&& 31)) - 1).toInt64)) fun r1 =>
  some r1
abbrev rm_X6_areItems : Room := { frames := 1, cells := 0, slots := 0, locals := 25 }
set_option maxHeartbeats 4000000 in
set_option maxRecDepth 100000 in
theorem b_X6_areItems {E : pfE} (X : CX cellsR E cX6_areItems RX6 rm_X6_areItems 2) (x1 : Int32) (A : St) {out : Bool} (hQ : Reti cellsR E cX6_areItems (bI out) A) (h : f_X6_areItems x1 A = some out) : GG cellsR E A 0 [(0, .ref (fAd (eF E) 0)), (1, .int x1)] [] := by
  unfold f_X6_areItems at h
  refine G_iload_n X dX6_areItems_0 rfl 1 rfl ?_
  refine G_i2l X dX6_areItems_1 rfl ?_
  refine G_lconst X (v := 0) dX6_areItems_2 rfl ?_
  refine G_iconst X (v := 1) dX6_areItems_3 rfl ?_
  refine G_aload_n X dX6_areItems_4 rfl 0 rfl ?_
  refine G_getf X inX6 0 (eR0 _ _ _) rfl 0 (by decide) qw654 rfl dX6_areItems_5 ?_
  refine G_iconst X (v := 0) dX6_areItems_8 rfl ?_
  refine G_iald X (j := 0) 1 (eR1 _ _ _) (vi rfl) rfl dX6_areItems_9 ?_
  refine G_ishl X dX6_areItems_10 ?_
  refine G_iconst X (v := 1) dX6_areItems_11 rfl ?_
  refine G_isub X dX6_areItems_12 ?_
  refine G_i2l X dX6_areItems_13 rfl ?_
  obtain ⟨r1, hz2, h⟩ := cl_k h
  refine G_callS_i X (As := [.long x1.toInt64, .long 0, .long ((((1 : Int32) <<< ((A.1 1 0) &&& 31)) - 1).toInt64)]) (rest := []) ok_X6_in qw727 ⟨rfl, rfl, Nat.le_of_ble_eq_true rfl, Nat.le_of_ble_eq_true rfl⟩ (m_X6_in X.d hz2) rfl rfl (Nat.le_of_ble_eq_true rfl) dX6_areItems_14 ?_
  have e := so h
  subst e
  exact hQ _ _ dX6_areItems_17
theorem m_X6_areItems {l : Launch} {F : pfF} (hD : ∀ A, va_D (fA F) (cellsR (fAd F) (fCy F) A)) {x1 : Int32} {A : St} {out : Bool} (h : f_X6_areItems x1 A = some out) : Mt l F cellsR yX6_areItems cX6_areItems 2 (some .boolean) rm_X6_areItems [.ref (fAd F 0), .int x1] A (va_Qi (fun (r : Int32) (u : St) => r = bI out ∧ u = A) (Wd cellsR F) (fA F)) := by
  refine Met_iz (by decide +kernel) (Nat.le_of_ble_eq_true rfl) hD (nar_bI _) (fun E el ef X hQ => ?_)
  subst el
  subst ef
  exact b_X6_areItems X _ _ hQ h
theorem ok_X6_areItems : OkV yX6_areItems cX6_areItems 2 (some .boolean) 1 := ⟨qw875, qs17, qw6, qw876, by decide, by decide, by decide⟩
noncomputable def f_X6_valueOf_L48 (A : St) (l1 : Int32) (l4 : Int32) (l5 : Int32) (l6 : UInt32) (l2 : UInt64) (l7 : Int32) : Option ((UInt64 × Int32) ⊕ (UInt64)) :=
  if (A.1 1 0) ≤ l7 then
    some (.inr l2)
  else
    cl (f_X6_has l1 l7) fun r8 =>
    if (bI r8) = 0 then
      bv (l7 + 1) fun v11 =>
      some (.inl (l2, v11))
    else
      cl (f_X6_tellsOf l7 l5 A) fun r12 =>
      g64 (FP.f2d l6) fun v14 =>
      g64 (FP.dmul r12 v14) fun v15 =>
      g64 (FP.dadd l2 v15) fun v16 =>
      bv (l7 + 1) fun v17 =>
      some (.inl (v16, v17))
noncomputable def f_X6_valueOf_X89_5 (A : St) (m1 : Int32) (m2 : UInt64) (m4 : Int32) : Option ((UInt64 × Int32) ⊕ (UInt64)) :=
  bv (m4 + 1) fun v20 =>
  some (.inl (m2, v20))
noncomputable def f_X6_valueOf_L5 (A : St) (l1 : Int32) (l2 : UInt64) (l4 : Int32) : Option ((UInt64 × Int32) ⊕ (UInt64)) :=
  if 4 ≤ l4 then
    some (.inr l2)
  else
    gI ((97 : Int32) + ((2 : Int32) * l4)) 117 <|
    bv (A.1 1 ((97 : Int32) + ((2 : Int32) * l4)).toNatClampNeg) fun v4 =>
    gI (((97 : Int32) + ((2 : Int32) * l4)) + 1) 117 <|
    g32 (FP.fmul (FP.i2f (A.1 1 (((97 : Int32) + ((2 : Int32) * l4)) + 1).toNatClampNeg)) 1036831949) fun v6 =>
    cl (loop (fun s => f_X6_valueOf_L48 A l1 l4 v4 v6 s.1 s.2) (l2, 0)) (fun s => f_X6_valueOf_X89_5 A l1 s l4)
noncomputable def f_X6_valueOf_X95 (A : St) (m2 : UInt64) : Option (UInt64) :=
  some m2
noncomputable def f_X6_valueOf (x1 : Int32) (A : St) : Option (UInt64) :=
  bv FP.dconst0 fun v1 =>
  cl (loop (fun s => f_X6_valueOf_L5 A x1 s.1 s.2) (v1, 0)) (fun s => f_X6_valueOf_X95 A s)
abbrev rm_X6_valueOf : Room := { frames := 5, cells := 0, slots := 0, locals := 119 }
set_option maxHeartbeats 4000000 in
set_option maxRecDepth 100000 in
theorem g_X6_valueOf_L48 {E : pfE} (X : CX cellsR E cX6_valueOf RX6 rm_X6_valueOf 8) (A : St) (l1 : Int32) (l4 : Int32) (l5 : Int32) (l6 : UInt32) : ∀ (n : Nat) (l2 : UInt64) (l7 : Int32) (ρ : UInt64), lp (fun s => f_X6_valueOf_L48 A l1 l4 l5 l6 s.1 s.2) n (l2, l7) = some ρ → (∀ (q2 : UInt64), ρ = q2 → GG cellsR E A 89 [(0, .ref (fAd (eF E) 0)), (1, .int l1), (2, .double q2), (4, .int l4)] []) → GG cellsR E A 48 [(0, .ref (fAd (eF E) 0)), (1, .int l1), (2, .double l2), (4, .int l4), (5, .int l5), (6, .float l6), (7, .int l7)] [] := by
  intro n
  induction n with
  | zero =>
    intro l2 l7 ρ h
    cases h
  | succ n ih =>
    intro l2 l7 ρ h0 K
    obtain ⟨x, hb, hx⟩ := lp_step h0
    have h : f_X6_valueOf_L48 A l1 l4 l5 l6 l2 l7 = some x := hb
    unfold f_X6_valueOf_L48 at h
    clear hb h0
    refine G_iload X dX6_valueOf_48 6 rfl ?_
    refine G_aload_n X dX6_valueOf_50 rfl 0 rfl ?_
    refine G_getf X inX6 0 (eR0 _ _ _) rfl 0 (by decide) qw654 rfl dX6_valueOf_51 ?_
    refine G_iconst X (v := 0) dX6_valueOf_54 rfl ?_
    refine G_iald X (j := 0) 1 (eR1 _ _ _) (vi rfl) rfl dX6_valueOf_55 ?_
    refine G_icge X (tgt := 89) dX6_valueOf_56 (by decide) (fun c7 => ?_) (fun c7 => ?_)
    · have h := if_t c7 h
      exact G_sub [0, 1, 2, 3] rfl (K _ (lpr (so h) hx).symm)
    · have h := if_f c7 h
      refine G_iload_n X dX6_valueOf_59 rfl 1 rfl ?_
      refine G_iload X dX6_valueOf_60 6 rfl ?_
      obtain ⟨r8, hz9, h⟩ := cl_k h
      refine G_callS_i X (As := [.int l1, .int l7]) (rest := []) ok_X6_has qw774 ⟨rfl, rfl, Nat.le_of_ble_eq_true rfl, Nat.le_of_ble_eq_true rfl⟩ (m_X6_has X.d hz9) rfl rfl (Nat.le_of_ble_eq_true rfl) dX6_valueOf_62 ?_
      refine G_ifeq X (tgt := 83) dX6_valueOf_65 (by decide) (fun c10 => ?_) (fun c10 => ?_)
      · have h := if_t c10 h
        obtain ⟨v11, ev11⟩ : ∃ y : Int32, y = l7 + 1 := ⟨_, rfl⟩
        have h := bv_k ev11 h
        refine G_iinc X (q := 6) (v := v11) (lv2 := [(7, .int v11), (0, .ref (fAd (eF E) 0)), (1, .int l1), (2, .double l2), (4, .int l4), (5, .int l5), (6, .float l6)]) dX6_valueOf_83 rfl (by rw [ev11]; rfl) (by decide) rfl ?_
        refine G_goto X (tgt := 48) dX6_valueOf_86 (by decide) ?_
        exact G_sub [1, 2, 3, 4, 5, 6, 0] rfl (ih _ _ _ (lpl (so h) hx) K)
      · have h := if_f c10 h
        refine G_dload_n X dX6_valueOf_68 rfl 2 rfl ?_
        refine G_aload_n X dX6_valueOf_69 rfl 0 rfl ?_
        refine G_iload X dX6_valueOf_70 6 rfl ?_
        refine G_iload X dX6_valueOf_72 4 rfl ?_
        obtain ⟨r12, hz13, h⟩ := cl_k h
        refine G_callV_d X (As := [.int l7, .int l5]) (rest := [.double l2]) ok_X6_tellsOf qw809 0 (eR0 _ _ _) rfl rfl ⟨rfl, rfl, Nat.le_of_ble_eq_true rfl, Nat.le_of_ble_eq_true rfl⟩ (m_X6_tellsOf X.d hz13) rfl rfl (Nat.le_of_ble_eq_true rfl) dX6_valueOf_74 ?_
        refine G_fload X dX6_valueOf_77 5 rfl ?_
        have hv14 := g64_n h
        refine G_f2d X dX6_valueOf_79 hv14 ?_
        refine G_topd (fun v14 ev14 => ?_)
        have h := g64_k ev14 h
        have hv15 := g64_n h
        refine G_dmul X dX6_valueOf_80 hv15 ?_
        refine G_topd (fun v15 ev15 => ?_)
        have h := g64_k ev15 h
        have hv16 := g64_n h
        refine G_dadd X dX6_valueOf_81 hv16 ?_
        refine G_topd (fun v16 ev16 => ?_)
        have h := g64_k ev16 h
        refine G_dstore_n X (lv2 := [(2, .double v16), (0, .ref (fAd (eF E) 0)), (1, .int l1), (4, .int l4), (5, .int l5), (6, .float l6), (7, .int l7)]) dX6_valueOf_82 rfl (by decide) rfl ?_
        obtain ⟨v17, ev17⟩ : ∃ y : Int32, y = l7 + 1 := ⟨_, rfl⟩
        have h := bv_k ev17 h
        refine G_iinc X (q := 6) (v := v17) (lv2 := [(7, .int v17), (2, .double v16), (0, .ref (fAd (eF E) 0)), (1, .int l1), (4, .int l4), (5, .int l5), (6, .float l6)]) dX6_valueOf_83 rfl (by rw [ev17]; rfl) (by decide) rfl ?_
        refine G_goto X (tgt := 48) dX6_valueOf_86 (by decide) ?_
        exact G_sub [2, 3, 1, 4, 5, 6, 0] rfl (ih _ _ _ (lpl (so h) hx) K)
set_option maxHeartbeats 4000000 in
set_option maxRecDepth 100000 in
theorem g_X6_valueOf_L5 {E : pfE} (X : CX cellsR E cX6_valueOf RX6 rm_X6_valueOf 8) (A : St) (l1 : Int32) : ∀ (n : Nat) (l2 : UInt64) (l4 : Int32) (ρ : UInt64), lp (fun s => f_X6_valueOf_L5 A l1 s.1 s.2) n (l2, l4) = some ρ → (∀ (q2 : UInt64), ρ = q2 → GG cellsR E A 95 [(2, .double q2)] []) → GG cellsR E A 5 [(0, .ref (fAd (eF E) 0)), (1, .int l1), (2, .double l2), (4, .int l4)] [] := by
  intro n
  induction n with
  | zero =>
    intro l2 l4 ρ h
    cases h
  | succ n ih =>
    intro l2 l4 ρ h0 K
    obtain ⟨x, hb, hx⟩ := lp_step h0
    have h : f_X6_valueOf_L5 A l1 l2 l4 = some x := hb
    unfold f_X6_valueOf_L5 at h
    clear hb h0
    refine G_iload X dX6_valueOf_5 3 rfl ?_
    refine G_iconst X (v := 4) dX6_valueOf_7 rfl ?_
    refine G_icge X (tgt := 95) dX6_valueOf_8 (by decide) (fun c2 => ?_) (fun c2 => ?_)
    · have h := if_t c2 h
      exact G_sub [2] rfl (K _ (lpr (so h) hx).symm)
    · have h := if_f c2 h
      refine G_aload_n X dX6_valueOf_11 rfl 0 rfl ?_
      refine G_getf X inX6 0 (eR0 _ _ _) rfl 0 (by decide) qw654 rfl dX6_valueOf_12 ?_
      refine G_bipush X (v := 97) dX6_valueOf_15 rfl ?_
      refine G_iconst X (v := 2) dX6_valueOf_17 rfl ?_
      refine G_iload X dX6_valueOf_18 3 rfl ?_
      refine G_imul X dX6_valueOf_20 ?_
      refine G_iadd X dX6_valueOf_21 ?_
      have hi3 := gI_n h
      have h := gI_k h
      refine G_iald X (j := ((97 : Int32) + ((2 : Int32) * l4)).toNatClampNeg) 1 (eR1 _ _ _) hi3 rfl dX6_valueOf_22 ?_
      refine G_topi (fun v4 ev4 => ?_)
      have h := bv_k ev4 h
      refine G_istore X (lv2 := [(5, .int v4), (0, .ref (fAd (eF E) 0)), (1, .int l1), (2, .double l2), (4, .int l4)]) dX6_valueOf_23 (by decide) rfl ?_
      refine G_aload_n X dX6_valueOf_25 rfl 1 rfl ?_
      refine G_getf X inX6 0 (eR0 _ _ _) rfl 0 (by decide) qw654 rfl dX6_valueOf_26 ?_
      refine G_bipush X (v := 97) dX6_valueOf_29 rfl ?_
      refine G_iconst X (v := 2) dX6_valueOf_31 rfl ?_
      refine G_iload X dX6_valueOf_32 4 rfl ?_
      refine G_imul X dX6_valueOf_34 ?_
      refine G_iadd X dX6_valueOf_35 ?_
      refine G_iconst X (v := 1) dX6_valueOf_36 rfl ?_
      refine G_iadd X dX6_valueOf_37 ?_
      have hi5 := gI_n h
      have h := gI_k h
      refine G_iald X (j := (((97 : Int32) + ((2 : Int32) * l4)) + 1).toNatClampNeg) 1 (eR1 _ _ _) hi5 rfl dX6_valueOf_38 ?_
      refine G_i2f X dX6_valueOf_39 ?_
      refine G_ldcf X (v := 1036831949) qw881 dX6_valueOf_40 ?_
      have hv6 := g32_n h
      refine G_fmul X dX6_valueOf_42 hv6 ?_
      refine G_topf (fun v6 ev6 => ?_)
      have h := g32_k ev6 h
      refine G_fstore X (lv2 := [(6, .float v6), (5, .int v4), (0, .ref (fAd (eF E) 0)), (1, .int l1), (2, .double l2), (4, .int l4)]) dX6_valueOf_43 (by decide) rfl ?_
      refine G_iconst X (v := 0) dX6_valueOf_45 rfl ?_
      refine G_istore X (lv2 := [(7, .int 0), (6, .float v6), (5, .int v4), (0, .ref (fAd (eF E) 0)), (1, .int l1), (2, .double l2), (4, .int l4)]) dX6_valueOf_46 (by decide) rfl ?_
      obtain ⟨ρ, hl, h⟩ := cl_k h
      obtain ⟨n, hl⟩ := loop_some hl
      refine G_sub [3, 4, 5, 6, 2, 1, 0] rfl (g_X6_valueOf_L48 X A l1 l4 v4 v6 n _ _ ρ hl ?_)
      intro v18 e
      rw [e] at h
      have h : f_X6_valueOf_X89_5 A l1 v18 l4 = some _ := h
      unfold f_X6_valueOf_X89_5 at h
      obtain ⟨v19, ev19⟩ : ∃ y : Int32, y = l4 + 1 := ⟨_, rfl⟩
      have h := bv_k ev19 h
      refine G_iinc X (q := 3) (v := v19) (lv2 := [(4, .int v19), (0, .ref (fAd (eF E) 0)), (1, .int l1), (2, .double v18)]) dX6_valueOf_89 rfl (by rw [ev19]; rfl) (by decide) rfl ?_
      refine G_goto X (tgt := 5) dX6_valueOf_92 (by decide) ?_
      exact G_sub [1, 2, 3, 0] rfl (ih _ _ _ (lpl (so h) hx) K)
set_option maxHeartbeats 4000000 in
set_option maxRecDepth 100000 in
theorem b_X6_valueOf {E : pfE} (X : CX cellsR E cX6_valueOf RX6 rm_X6_valueOf 8) (x1 : Int32) (A : St) {out : UInt64} (hQ : Retd cellsR E cX6_valueOf out A) (h : f_X6_valueOf x1 A = some out) : GG cellsR E A 0 [(0, .ref (fAd (eF E) 0)), (1, .int x1)] [] := by
  unfold f_X6_valueOf at h
  refine G_dconst0 X dX6_valueOf_0 ?_
  refine G_topd (fun v1 ev1 => ?_)
  have h := bv_k ev1 h
  refine G_dstore_n X (lv2 := [(2, .double v1), (0, .ref (fAd (eF E) 0)), (1, .int x1)]) dX6_valueOf_1 rfl (by decide) rfl ?_
  refine G_iconst X (v := 0) dX6_valueOf_2 rfl ?_
  refine G_istore X (lv2 := [(4, .int 0), (2, .double v1), (0, .ref (fAd (eF E) 0)), (1, .int x1)]) dX6_valueOf_3 (by decide) rfl ?_
  obtain ⟨ρ, hl, h⟩ := cl_k h
  obtain ⟨n, hl⟩ := loop_some hl
  refine G_sub [2, 3, 1, 0] rfl (g_X6_valueOf_L5 X A x1 n _ _ ρ hl ?_)
  intro v21 e
  rw [e] at h
  have h : f_X6_valueOf_X95 A v21 = some _ := h
  unfold f_X6_valueOf_X95 at h
  refine G_dload_n X dX6_valueOf_95 rfl 0 rfl ?_
  have e := so h
  subst e
  exact hQ _ _ dX6_valueOf_96
theorem m_X6_valueOf {l : Launch} {F : pfF} (hD : ∀ A, va_D (fA F) (cellsR (fAd F) (fCy F) A)) {x1 : Int32} {A : St} {out : UInt64} (h : f_X6_valueOf x1 A = some out) : Mt l F cellsR yX6_valueOf cX6_valueOf 8 (some .double) rm_X6_valueOf [.ref (fAd F 0), .int x1] A (va_Qd (fun (r : UInt64) (u : St) => r = out ∧ u = A) (Wd cellsR F) (fA F)) := by
  refine Met_d (by decide +kernel) (Nat.le_of_ble_eq_true rfl) hD (fun E el ef X hQ => ?_)
  subst el
  subst ef
  exact b_X6_valueOf X _ _ hQ h
theorem ok_X6_valueOf : OkV yX6_valueOf cX6_valueOf 8 (some .double) 1 := ⟨qw879, qs18, qw6, qw880, by decide, by decide, by decide⟩
noncomputable def f_X6_value (x1 : Int32) (A : St) : Option (Int64 × St) :=
  cl (f_X6_areItems x1 A) fun r1 =>
  if (bI r1) = 0 then
    cl2 (f_X6_findsLong 0 A) fun r4 A6 =>
    some (r4, A6)
  else
    cl (f_X6_valueOf x1 A) fun r7 =>
    cl (f_Jxe99ae_doubleToLongBits_ccdee r7) fun r9 =>
    some (r9, A)
abbrev rm_X6_value : Room := { frames := 6, cells := 0, slots := 0, locals := 146 }
set_option maxHeartbeats 4000000 in
set_option maxRecDepth 100000 in
theorem b_X6_value {E : pfE} (X : CX cellsR E cX6_value RX6 rm_X6_value 2) (x1 : Int32) (A : St) {out : Int64 × St} (hQ : Retl cellsR E cX6_value out.1 out.2) (h : f_X6_value x1 A = some out) : GG cellsR E A 0 [(0, .ref (fAd (eF E) 0)), (1, .int x1)] [] := by
  unfold f_X6_value at h
  refine G_aload_n X dX6_value_0 rfl 0 rfl ?_
  refine G_iload_n X dX6_value_1 rfl 1 rfl ?_
  obtain ⟨r1, hz2, h⟩ := cl_k h
  refine G_callV_i X (As := [.int x1]) (rest := []) ok_X6_areItems qw873 0 (eR0 _ _ _) rfl rfl ⟨rfl, rfl, Nat.le_of_ble_eq_true rfl, Nat.le_of_ble_eq_true rfl⟩ (m_X6_areItems X.d hz2) rfl rfl (Nat.le_of_ble_eq_true rfl) dX6_value_2 ?_
  refine G_ifeq X (tgt := 19) dX6_value_5 (by decide) (fun c3 => ?_) (fun c3 => ?_)
  · have h := if_t c3 h
    refine G_aload_n X dX6_value_19 rfl 0 rfl ?_
    refine G_iconst X (v := 0) dX6_value_20 rfl ?_
    obtain ⟨r4, A6, hz5, h⟩ := cl2_k h
    refine G_callV_l X (As := [.int 0]) (rest := []) ok_X6_findsLong qw855 0 (eR0 _ _ _) rfl rfl ⟨rfl, rfl, Nat.le_of_ble_eq_true rfl, Nat.le_of_ble_eq_true rfl⟩ (m_X6_findsLong X.d hz5) rfl rfl (Nat.le_of_ble_eq_true rfl) dX6_value_21 ?_
    have e := so h
    subst e
    exact hQ _ _ dX6_value_24
  · have h := if_f c3 h
    refine G_aload_n X dX6_value_8 rfl 0 rfl ?_
    refine G_iload_n X dX6_value_9 rfl 1 rfl ?_
    obtain ⟨r7, hz8, h⟩ := cl_k h
    refine G_callV_d X (As := [.int x1]) (rest := []) ok_X6_valueOf qw877 0 (eR0 _ _ _) rfl rfl ⟨rfl, rfl, Nat.le_of_ble_eq_true rfl, Nat.le_of_ble_eq_true rfl⟩ (m_X6_valueOf X.d hz8) rfl rfl (Nat.le_of_ble_eq_true rfl) dX6_value_10 ?_
    obtain ⟨r9, hz10, h⟩ := cl_k h
    refine G_callS_l X (As := [.double r7]) (rest := []) ok_Jxe99ae_doubleToLongBits_ccdee qw847 ⟨rfl, rfl, Nat.le_of_ble_eq_true rfl, Nat.le_of_ble_eq_true rfl⟩ (m_Jxe99ae_doubleToLongBits_ccdee X.d hz10) rfl rfl (Nat.le_of_ble_eq_true rfl) dX6_value_13 ?_
    refine G_goto X (tgt := 24) dX6_value_16 (by decide) ?_
    have e := so h
    subst e
    exact hQ _ _ dX6_value_24
theorem m_X6_value {l : Launch} {F : pfF} (hD : ∀ A, va_D (fA F) (cellsR (fAd F) (fCy F) A)) {x1 : Int32} {A : St} {out : Int64 × St} (h : f_X6_value x1 A = some out) : Mt l F cellsR yX6_value cX6_value 2 (some .long) rm_X6_value [.ref (fAd F 0), .int x1] A (va_Ql (fun (r : Int64) (u : St) => r = out.1 ∧ u = out.2) (Wd cellsR F) (fA F)) := by
  refine Met_l (by decide +kernel) (Nat.le_of_ble_eq_true rfl) hD (fun E el ef X hQ => ?_)
  subst el
  subst ef
  exact b_X6_value X _ _ hQ h
theorem ok_X6_value : OkV yX6_value cX6_value 2 (some .long) 1 := ⟨qw870, qw871, qw6, qw872, by decide, by decide, by decide⟩
noncomputable def f_X6_worth (x1 : Int32) (A : St) : Option (Int32 × St) :=
  cl (f_X6_areItems x1 A) fun r1 =>
  if (bI r1) = 0 then
    cl2 (f_X6_finds 0 A) fun r4 A6 =>
    some (r4, A6)
  else
    cl (f_X6_valueOf x1 A) fun r7 =>
    g64 (FP.dmul r7 4652007308841189376) fun v9 =>
    some (FP.d2i v9, A)
abbrev rm_X6_worth : Room := { frames := 6, cells := 0, slots := 0, locals := 146 }
set_option maxHeartbeats 4000000 in
set_option maxRecDepth 100000 in
theorem b_X6_worth {E : pfE} (X : CX cellsR E cX6_worth RX6 rm_X6_worth 2) (x1 : Int32) (A : St) {out : Int32 × St} (hQ : Reti cellsR E cX6_worth out.1 out.2) (h : f_X6_worth x1 A = some out) : GG cellsR E A 0 [(0, .ref (fAd (eF E) 0)), (1, .int x1)] [] := by
  unfold f_X6_worth at h
  refine G_aload_n X dX6_worth_0 rfl 0 rfl ?_
  refine G_iload_n X dX6_worth_1 rfl 1 rfl ?_
  obtain ⟨r1, hz2, h⟩ := cl_k h
  refine G_callV_i X (As := [.int x1]) (rest := []) ok_X6_areItems qw873 0 (eR0 _ _ _) rfl rfl ⟨rfl, rfl, Nat.le_of_ble_eq_true rfl, Nat.le_of_ble_eq_true rfl⟩ (m_X6_areItems X.d hz2) rfl rfl (Nat.le_of_ble_eq_true rfl) dX6_worth_2 ?_
  refine G_ifeq X (tgt := 21) dX6_worth_5 (by decide) (fun c3 => ?_) (fun c3 => ?_)
  · have h := if_t c3 h
    refine G_aload_n X dX6_worth_21 rfl 0 rfl ?_
    refine G_iconst X (v := 0) dX6_worth_22 rfl ?_
    obtain ⟨r4, A6, hz5, h⟩ := cl2_k h
    refine G_callV_i X (As := [.int 0]) (rest := []) ok_X6_finds qw737 0 (eR0 _ _ _) rfl rfl ⟨rfl, rfl, Nat.le_of_ble_eq_true rfl, Nat.le_of_ble_eq_true rfl⟩ (m_X6_finds X.d hz5) rfl rfl (Nat.le_of_ble_eq_true rfl) dX6_worth_23 ?_
    have e := so h
    subst e
    exact hQ _ _ dX6_worth_26
  · have h := if_f c3 h
    refine G_aload_n X dX6_worth_8 rfl 0 rfl ?_
    refine G_iload_n X dX6_worth_9 rfl 1 rfl ?_
    obtain ⟨r7, hz8, h⟩ := cl_k h
    refine G_callV_d X (As := [.int x1]) (rest := []) ok_X6_valueOf qw877 0 (eR0 _ _ _) rfl rfl ⟨rfl, rfl, Nat.le_of_ble_eq_true rfl, Nat.le_of_ble_eq_true rfl⟩ (m_X6_valueOf X.d hz8) rfl rfl (Nat.le_of_ble_eq_true rfl) dX6_worth_10 ?_
    refine G_ldc2d X (v := 4652007308841189376) qw886 dX6_worth_13 ?_
    have hv9 := g64_n h
    refine G_dmul X dX6_worth_16 hv9 ?_
    refine G_topd (fun v9 ev9 => ?_)
    have h := g64_k ev9 h
    refine G_d2i X dX6_worth_17 ?_
    refine G_goto X (tgt := 26) dX6_worth_18 (by decide) ?_
    have e := so h
    subst e
    exact hQ _ _ dX6_worth_26
theorem m_X6_worth {l : Launch} {F : pfF} (hD : ∀ A, va_D (fA F) (cellsR (fAd F) (fCy F) A)) {x1 : Int32} {A : St} {out : Int32 × St} (h : f_X6_worth x1 A = some out) : Mt l F cellsR yX6_worth cX6_worth 2 (some .int) rm_X6_worth [.ref (fAd F 0), .int x1] A (va_Qi (fun (r : Int32) (u : St) => r = out.1 ∧ u = out.2) (Wd cellsR F) (fA F)) := by
  refine Met_i (by decide +kernel) (Nat.le_of_ble_eq_true rfl) hD (fun E el ef X hQ => ?_)
  subst el
  subst ef
  exact b_X6_worth X _ _ hQ h
theorem ok_X6_worth : OkV yX6_worth cX6_worth 2 (some .int) 1 := ⟨qw883, qw884, qw6, qw885, by decide, by decide, by decide⟩
noncomputable def f_X6_peak_L56 (A : St) (l1 : Int32) (l3 : Int32) (l4 : Int32) (l5 : UInt64) (l7 : Int32) (l8 : UInt64) (l10 : Int32) : Option ((UInt64 × Int32) ⊕ (UInt64)) :=
  if (A.1 1 0) ≤ l10 then
    some (.inr l8)
  else
    cl (f_X6_has l1 l10) fun r23 =>
    if (bI r23) = 0 then
      bv (l10 + 1) fun v26 =>
      some (.inl (l8, v26))
    else
      cl (f_X6_tellsOf l10 l7 A) fun r27 =>
      g64 (FP.dadd l8 r27) fun v29 =>
      bv (l10 + 1) fun v30 =>
      some (.inl (v29, v30))
noncomputable def f_X6_peak_X95_44 (A : St) (m1 : Int32) (m3 : Int32) (m4 : Int32) (m5 : UInt64) (m7 : Int32) (m8 : UInt64) : Option ((Int32 × UInt64 × Int32) ⊕ (Int32)) :=
  if (Op.cmpValue (FP.dcmp m8 m5) .l) ≤ 0 then
    if (Op.cmpValue (FP.dcmp m8 m5) .l) ≤ 0 then
      bv (m7 + 1) fun v41 =>
      some (.inl (m4, m5, v41))
    else
      bv (m7 + 1) fun v42 =>
      some (.inl (m4, m8, v42))
  else
    if (Op.cmpValue (FP.dcmp m8 m5) .l) ≤ 0 then
      bv (m7 + 1) fun v44 =>
      some (.inl (m7, m5, v44))
    else
      bv (m7 + 1) fun v45 =>
      some (.inl (m7, m8, v45))
noncomputable def f_X6_peak_L44 (A : St) (l1 : Int32) (l3 : Int32) (l4 : Int32) (l5 : UInt64) (l7 : Int32) : Option ((Int32 × UInt64 × Int32) ⊕ (Int32)) :=
  if l3 < l7 then
    some (.inr l4)
  else
    bv FP.dconst0 fun v21 =>
    cl (loop (fun s => f_X6_peak_L56 A l1 l3 l4 l5 l7 s.1 s.2) (v21, 0)) (fun s => f_X6_peak_X95_44 A l1 l3 l4 l5 l7 s)
noncomputable def f_X6_peak_X125 (A : St) (m4 : Int32) : Option (Int32 × St) :=
  some (m4, A)
noncomputable def f_X6_peak (x1 : Int32) (x2 : Int32) (x3 : Int32) (A : St) : Option (Int32 × St) :=
  cl (f_X6_areItems x1 A) fun r1 =>
  if (bI r1) = 0 then
    cl2 (f_X6_finds 0 A) fun r4 A6 =>
    some (r4, A6)
  else
    cl (f_X6_isAbility x2) fun r7 =>
    if (bI r7) = 0 then
      cl2 (f_X6_finds 0 A) fun r10 A12 =>
      some (r10, A12)
    else
      cl (f_X6_isAbility x3) fun r13 =>
      if (bI r13) = 0 then
        cl2 (f_X6_finds 0 A) fun r16 A18 =>
        some (r16, A18)
      else
        if x2 ≤ x3 then
          cl (loop (fun s => f_X6_peak_L44 A x1 x3 s.1 s.2.1 s.2.2) (x2, 13830554455654793216, x2)) (fun s => f_X6_peak_X125 A s)
        else
          cl2 (f_X6_finds 0 A) fun r47 A49 =>
          some (r47, A49)
abbrev rm_X6_peak : Room := { frames := 5, cells := 0, slots := 0, locals := 119 }
set_option maxHeartbeats 4000000 in
set_option maxRecDepth 100000 in
theorem g_X6_peak_L56 {E : pfE} (X : CX cellsR E cX6_peak RX6 rm_X6_peak 11) (A : St) (l1 : Int32) (l3 : Int32) (l4 : Int32) (l5 : UInt64) (l7 : Int32) : ∀ (n : Nat) (l8 : UInt64) (l10 : Int32) (ρ : UInt64), lp (fun s => f_X6_peak_L56 A l1 l3 l4 l5 l7 s.1 s.2) n (l8, l10) = some ρ → (∀ (q8 : UInt64), ρ = q8 → GG cellsR E A 95 [(0, .ref (fAd (eF E) 0)), (1, .int l1), (3, .int l3), (4, .int l4), (5, .double l5), (7, .int l7), (8, .double q8)] []) → GG cellsR E A 56 [(0, .ref (fAd (eF E) 0)), (1, .int l1), (3, .int l3), (4, .int l4), (5, .double l5), (7, .int l7), (8, .double l8), (10, .int l10)] [] := by
  intro n
  induction n with
  | zero =>
    intro l8 l10 ρ h
    cases h
  | succ n ih =>
    intro l8 l10 ρ h0 K
    obtain ⟨x, hb, hx⟩ := lp_step h0
    have h : f_X6_peak_L56 A l1 l3 l4 l5 l7 l8 l10 = some x := hb
    unfold f_X6_peak_L56 at h
    clear hb h0
    refine G_iload X dX6_peak_56 7 rfl ?_
    refine G_aload_n X dX6_peak_58 rfl 0 rfl ?_
    refine G_getf X inX6 0 (eR0 _ _ _) rfl 0 (by decide) qw654 rfl dX6_peak_59 ?_
    refine G_iconst X (v := 0) dX6_peak_62 rfl ?_
    refine G_iald X (j := 0) 1 (eR1 _ _ _) (vi rfl) rfl dX6_peak_63 ?_
    refine G_icge X (tgt := 95) dX6_peak_64 (by decide) (fun c22 => ?_) (fun c22 => ?_)
    · have h := if_t c22 h
      exact G_sub [0, 1, 2, 3, 4, 5, 6] rfl (K _ (lpr (so h) hx).symm)
    · have h := if_f c22 h
      refine G_iload_n X dX6_peak_67 rfl 1 rfl ?_
      refine G_iload X dX6_peak_68 7 rfl ?_
      obtain ⟨r23, hz24, h⟩ := cl_k h
      refine G_callS_i X (As := [.int l1, .int l10]) (rest := []) ok_X6_has qw774 ⟨rfl, rfl, Nat.le_of_ble_eq_true rfl, Nat.le_of_ble_eq_true rfl⟩ (m_X6_has X.d hz24) rfl rfl (Nat.le_of_ble_eq_true rfl) dX6_peak_70 ?_
      refine G_ifeq X (tgt := 89) dX6_peak_73 (by decide) (fun c25 => ?_) (fun c25 => ?_)
      · have h := if_t c25 h
        obtain ⟨v26, ev26⟩ : ∃ y : Int32, y = l10 + 1 := ⟨_, rfl⟩
        have h := bv_k ev26 h
        refine G_iinc X (q := 7) (v := v26) (lv2 := [(10, .int v26), (0, .ref (fAd (eF E) 0)), (1, .int l1), (3, .int l3), (4, .int l4), (5, .double l5), (7, .int l7), (8, .double l8)]) dX6_peak_89 rfl (by rw [ev26]; rfl) (by decide) rfl ?_
        refine G_goto X (tgt := 56) dX6_peak_92 (by decide) ?_
        exact G_sub [1, 2, 3, 4, 5, 6, 7, 0] rfl (ih _ _ _ (lpl (so h) hx) K)
      · have h := if_f c25 h
        refine G_dload X dX6_peak_76 6 rfl ?_
        refine G_aload_n X dX6_peak_78 rfl 0 rfl ?_
        refine G_iload X dX6_peak_79 7 rfl ?_
        refine G_iload X dX6_peak_81 5 rfl ?_
        obtain ⟨r27, hz28, h⟩ := cl_k h
        refine G_callV_d X (As := [.int l10, .int l7]) (rest := [.double l8]) ok_X6_tellsOf qw809 0 (eR0 _ _ _) rfl rfl ⟨rfl, rfl, Nat.le_of_ble_eq_true rfl, Nat.le_of_ble_eq_true rfl⟩ (m_X6_tellsOf X.d hz28) rfl rfl (Nat.le_of_ble_eq_true rfl) dX6_peak_83 ?_
        have hv29 := g64_n h
        refine G_dadd X dX6_peak_86 hv29 ?_
        refine G_topd (fun v29 ev29 => ?_)
        have h := g64_k ev29 h
        refine G_dstore X (lv2 := [(8, .double v29), (0, .ref (fAd (eF E) 0)), (1, .int l1), (3, .int l3), (4, .int l4), (5, .double l5), (7, .int l7), (10, .int l10)]) dX6_peak_87 (by decide) rfl ?_
        obtain ⟨v30, ev30⟩ : ∃ y : Int32, y = l10 + 1 := ⟨_, rfl⟩
        have h := bv_k ev30 h
        refine G_iinc X (q := 7) (v := v30) (lv2 := [(10, .int v30), (8, .double v29), (0, .ref (fAd (eF E) 0)), (1, .int l1), (3, .int l3), (4, .int l4), (5, .double l5), (7, .int l7)]) dX6_peak_89 rfl (by rw [ev30]; rfl) (by decide) rfl ?_
        refine G_goto X (tgt := 56) dX6_peak_92 (by decide) ?_
        exact G_sub [2, 3, 4, 5, 6, 7, 1, 0] rfl (ih _ _ _ (lpl (so h) hx) K)
set_option maxHeartbeats 4000000 in
set_option maxRecDepth 100000 in
theorem g_X6_peak_L44 {E : pfE} (X : CX cellsR E cX6_peak RX6 rm_X6_peak 11) (A : St) (l1 : Int32) (l3 : Int32) : ∀ (n : Nat) (l4 : Int32) (l5 : UInt64) (l7 : Int32) (ρ : Int32), lp (fun s => f_X6_peak_L44 A l1 l3 s.1 s.2.1 s.2.2) n (l4, l5, l7) = some ρ → (∀ (q4 : Int32), ρ = q4 → GG cellsR E A 125 [(4, .int q4)] []) → GG cellsR E A 44 [(0, .ref (fAd (eF E) 0)), (1, .int l1), (3, .int l3), (4, .int l4), (5, .double l5), (7, .int l7)] [] := by
  intro n
  induction n with
  | zero =>
    intro l4 l5 l7 ρ h
    cases h
  | succ n ih =>
    intro l4 l5 l7 ρ h0 K
    obtain ⟨x, hb, hx⟩ := lp_step h0
    have h : f_X6_peak_L44 A l1 l3 l4 l5 l7 = some x := hb
    unfold f_X6_peak_L44 at h
    clear hb h0
    refine G_iload X dX6_peak_44 5 rfl ?_
    refine G_iload_n X dX6_peak_46 rfl 2 rfl ?_
    refine G_icgt X (tgt := 125) dX6_peak_47 (by decide) (fun c20 => ?_) (fun c20 => ?_)
    · have h := if_t c20 h
      exact G_sub [3] rfl (K _ (lpr (so h) hx).symm)
    · have h := if_f c20 h
      refine G_dconst0 X dX6_peak_50 ?_
      refine G_topd (fun v21 ev21 => ?_)
      have h := bv_k ev21 h
      refine G_dstore X (lv2 := [(8, .double v21), (0, .ref (fAd (eF E) 0)), (1, .int l1), (3, .int l3), (4, .int l4), (5, .double l5), (7, .int l7)]) dX6_peak_51 (by decide) rfl ?_
      refine G_iconst X (v := 0) dX6_peak_53 rfl ?_
      refine G_istore X (lv2 := [(10, .int 0), (8, .double v21), (0, .ref (fAd (eF E) 0)), (1, .int l1), (3, .int l3), (4, .int l4), (5, .double l5), (7, .int l7)]) dX6_peak_54 (by decide) rfl ?_
      obtain ⟨ρ, hl, h⟩ := cl_k h
      obtain ⟨n, hl⟩ := loop_some hl
      refine G_sub [2, 3, 4, 5, 6, 7, 1, 0] rfl (g_X6_peak_L56 X A l1 l3 l4 l5 l7 n _ _ ρ hl ?_)
      intro v31 e
      rw [e] at h
      have h : f_X6_peak_X95_44 A l1 l3 l4 l5 l7 v31 = some _ := h
      unfold f_X6_peak_X95_44 at h
      refine G_dload X dX6_peak_95 6 rfl ?_
      refine G_dload X dX6_peak_97 4 rfl ?_
      refine G_dcmp X dX6_peak_99 ?_
      refine G_ifle X (tgt := 107) dX6_peak_100 (by decide) (fun c32 => ?_) (fun c32 => ?_)
      · have h := if_t c32 h
        refine G_dload X dX6_peak_107 6 rfl ?_
        refine G_dload X dX6_peak_109 4 rfl ?_
        refine G_dcmp X dX6_peak_111 ?_
        refine G_ifle X (tgt := 119) dX6_peak_112 (by decide) (fun c33 => ?_) (fun c33 => ?_)
        · have h := if_t c33 h
          obtain ⟨v34, ev34⟩ : ∃ y : Int32, y = l7 + 1 := ⟨_, rfl⟩
          have h := bv_k ev34 h
          refine G_iinc X (q := 5) (v := v34) (lv2 := [(7, .int v34), (0, .ref (fAd (eF E) 0)), (1, .int l1), (3, .int l3), (4, .int l4), (5, .double l5), (8, .double v31)]) dX6_peak_119 rfl (by rw [ev34]; rfl) (by decide) rfl ?_
          refine G_goto X (tgt := 44) dX6_peak_122 (by decide) ?_
          exact G_sub [1, 2, 3, 4, 5, 0] rfl (ih _ _ _ _ (lpl (so h) hx) K)
        · have h := if_f c33 h
          refine G_dload X dX6_peak_115 6 rfl ?_
          refine G_dstore X (lv2 := [(5, .double v31), (0, .ref (fAd (eF E) 0)), (1, .int l1), (3, .int l3), (4, .int l4), (7, .int l7), (8, .double v31)]) dX6_peak_117 (by decide) rfl ?_
          obtain ⟨v35, ev35⟩ : ∃ y : Int32, y = l7 + 1 := ⟨_, rfl⟩
          have h := bv_k ev35 h
          refine G_iinc X (q := 5) (v := v35) (lv2 := [(7, .int v35), (5, .double v31), (0, .ref (fAd (eF E) 0)), (1, .int l1), (3, .int l3), (4, .int l4), (8, .double v31)]) dX6_peak_119 rfl (by rw [ev35]; rfl) (by decide) rfl ?_
          refine G_goto X (tgt := 44) dX6_peak_122 (by decide) ?_
          exact G_sub [2, 3, 4, 5, 1, 0] rfl (ih _ _ _ _ (lpl (so h) hx) K)
      · have h := if_f c32 h
        refine G_iload X dX6_peak_103 5 rfl ?_
        refine G_istore X (lv2 := [(4, .int l7), (0, .ref (fAd (eF E) 0)), (1, .int l1), (3, .int l3), (5, .double l5), (7, .int l7), (8, .double v31)]) dX6_peak_105 (by decide) rfl ?_
        refine G_dload X dX6_peak_107 6 rfl ?_
        refine G_dload X dX6_peak_109 4 rfl ?_
        refine G_dcmp X dX6_peak_111 ?_
        refine G_ifle X (tgt := 119) dX6_peak_112 (by decide) (fun c36 => ?_) (fun c36 => ?_)
        · have h := if_t c36 h
          obtain ⟨v37, ev37⟩ : ∃ y : Int32, y = l7 + 1 := ⟨_, rfl⟩
          have h := bv_k ev37 h
          refine G_iinc X (q := 5) (v := v37) (lv2 := [(7, .int v37), (4, .int l7), (0, .ref (fAd (eF E) 0)), (1, .int l1), (3, .int l3), (5, .double l5), (8, .double v31)]) dX6_peak_119 rfl (by rw [ev37]; rfl) (by decide) rfl ?_
          refine G_goto X (tgt := 44) dX6_peak_122 (by decide) ?_
          exact G_sub [2, 3, 4, 1, 5, 0] rfl (ih _ _ _ _ (lpl (so h) hx) K)
        · have h := if_f c36 h
          refine G_dload X dX6_peak_115 6 rfl ?_
          refine G_dstore X (lv2 := [(5, .double v31), (4, .int l7), (0, .ref (fAd (eF E) 0)), (1, .int l1), (3, .int l3), (7, .int l7), (8, .double v31)]) dX6_peak_117 (by decide) rfl ?_
          obtain ⟨v38, ev38⟩ : ∃ y : Int32, y = l7 + 1 := ⟨_, rfl⟩
          have h := bv_k ev38 h
          refine G_iinc X (q := 5) (v := v38) (lv2 := [(7, .int v38), (5, .double v31), (4, .int l7), (0, .ref (fAd (eF E) 0)), (1, .int l1), (3, .int l3), (8, .double v31)]) dX6_peak_119 rfl (by rw [ev38]; rfl) (by decide) rfl ?_
          refine G_goto X (tgt := 44) dX6_peak_122 (by decide) ?_
          exact G_sub [3, 4, 5, 2, 1, 0] rfl (ih _ _ _ _ (lpl (so h) hx) K)
set_option maxHeartbeats 4000000 in
set_option maxRecDepth 100000 in
theorem b_X6_peak {E : pfE} (X : CX cellsR E cX6_peak RX6 rm_X6_peak 11) (x1 : Int32) (x2 : Int32) (x3 : Int32) (A : St) {out : Int32 × St} (hQ : Reti cellsR E cX6_peak out.1 out.2) (h : f_X6_peak x1 x2 x3 A = some out) : GG cellsR E A 0 [(0, .ref (fAd (eF E) 0)), (1, .int x1), (2, .int x2), (3, .int x3)] [] := by
  unfold f_X6_peak at h
  refine G_aload_n X dX6_peak_0 rfl 0 rfl ?_
  refine G_iload_n X dX6_peak_1 rfl 1 rfl ?_
  obtain ⟨r1, hz2, h⟩ := cl_k h
  refine G_callV_i X (As := [.int x1]) (rest := []) ok_X6_areItems qw873 0 (eR0 _ _ _) rfl rfl ⟨rfl, rfl, Nat.le_of_ble_eq_true rfl, Nat.le_of_ble_eq_true rfl⟩ (m_X6_areItems X.d hz2) rfl rfl (Nat.le_of_ble_eq_true rfl) dX6_peak_2 ?_
  refine G_ifeq X (tgt := 27) dX6_peak_5 (by decide) (fun c3 => ?_) (fun c3 => ?_)
  · have h := if_t c3 h
    refine G_aload_n X dX6_peak_27 rfl 0 rfl ?_
    refine G_iconst X (v := 0) dX6_peak_28 rfl ?_
    obtain ⟨r4, A6, hz5, h⟩ := cl2_k h
    refine G_callV_i X (As := [.int 0]) (rest := []) ok_X6_finds qw737 0 (eR0 _ _ _) rfl rfl ⟨rfl, rfl, Nat.le_of_ble_eq_true rfl, Nat.le_of_ble_eq_true rfl⟩ (m_X6_finds X.d hz5) rfl rfl (Nat.le_of_ble_eq_true rfl) dX6_peak_29 ?_
    have e := so h
    subst e
    exact hQ _ _ dX6_peak_32
  · have h := if_f c3 h
    refine G_iload_n X dX6_peak_8 rfl 2 rfl ?_
    obtain ⟨r7, hz8, h⟩ := cl_k h
    refine G_callS_i X (As := [.int x2]) (rest := []) ok_X6_isAbility qw804 ⟨rfl, rfl, Nat.le_of_ble_eq_true rfl, Nat.le_of_ble_eq_true rfl⟩ (m_X6_isAbility X.d hz8) rfl rfl (Nat.le_of_ble_eq_true rfl) dX6_peak_9 ?_
    refine G_ifeq X (tgt := 27) dX6_peak_12 (by decide) (fun c9 => ?_) (fun c9 => ?_)
    · have h := if_t c9 h
      refine G_aload_n X dX6_peak_27 rfl 0 rfl ?_
      refine G_iconst X (v := 0) dX6_peak_28 rfl ?_
      obtain ⟨r10, A12, hz11, h⟩ := cl2_k h
      refine G_callV_i X (As := [.int 0]) (rest := []) ok_X6_finds qw737 0 (eR0 _ _ _) rfl rfl ⟨rfl, rfl, Nat.le_of_ble_eq_true rfl, Nat.le_of_ble_eq_true rfl⟩ (m_X6_finds X.d hz11) rfl rfl (Nat.le_of_ble_eq_true rfl) dX6_peak_29 ?_
      have e := so h
      subst e
      exact hQ _ _ dX6_peak_32
    · have h := if_f c9 h
      refine G_iload_n X dX6_peak_15 rfl 3 rfl ?_
      obtain ⟨r13, hz14, h⟩ := cl_k h
      refine G_callS_i X (As := [.int x3]) (rest := []) ok_X6_isAbility qw804 ⟨rfl, rfl, Nat.le_of_ble_eq_true rfl, Nat.le_of_ble_eq_true rfl⟩ (m_X6_isAbility X.d hz14) rfl rfl (Nat.le_of_ble_eq_true rfl) dX6_peak_16 ?_
      refine G_ifeq X (tgt := 27) dX6_peak_19 (by decide) (fun c15 => ?_) (fun c15 => ?_)
      · have h := if_t c15 h
        refine G_aload_n X dX6_peak_27 rfl 0 rfl ?_
        refine G_iconst X (v := 0) dX6_peak_28 rfl ?_
        obtain ⟨r16, A18, hz17, h⟩ := cl2_k h
        refine G_callV_i X (As := [.int 0]) (rest := []) ok_X6_finds qw737 0 (eR0 _ _ _) rfl rfl ⟨rfl, rfl, Nat.le_of_ble_eq_true rfl, Nat.le_of_ble_eq_true rfl⟩ (m_X6_finds X.d hz17) rfl rfl (Nat.le_of_ble_eq_true rfl) dX6_peak_29 ?_
        have e := so h
        subst e
        exact hQ _ _ dX6_peak_32
      · have h := if_f c15 h
        refine G_iload_n X dX6_peak_22 rfl 2 rfl ?_
        refine G_iload_n X dX6_peak_23 rfl 3 rfl ?_
        refine G_icle X (tgt := 33) dX6_peak_24 (by decide) (fun c19 => ?_) (fun c19 => ?_)
        · have h := if_t c19 h
          refine G_iload_n X dX6_peak_33 rfl 2 rfl ?_
          refine G_istore X (lv2 := [(4, .int x2), (0, .ref (fAd (eF E) 0)), (1, .int x1), (2, .int x2), (3, .int x3)]) dX6_peak_34 (by decide) rfl ?_
          refine G_ldc2d X (v := 13830554455654793216) qw891 dX6_peak_36 ?_
          refine G_dstore X (lv2 := [(5, .double 13830554455654793216), (4, .int x2), (0, .ref (fAd (eF E) 0)), (1, .int x1), (2, .int x2), (3, .int x3)]) dX6_peak_39 (by decide) rfl ?_
          refine G_iload_n X dX6_peak_41 rfl 4 rfl ?_
          refine G_istore X (lv2 := [(7, .int x2), (5, .double 13830554455654793216), (4, .int x2), (0, .ref (fAd (eF E) 0)), (1, .int x1), (2, .int x2), (3, .int x3)]) dX6_peak_42 (by decide) rfl ?_
          obtain ⟨ρ, hl, h⟩ := cl_k h
          obtain ⟨n, hl⟩ := loop_some hl
          refine G_sub [3, 4, 6, 2, 1, 0] rfl (g_X6_peak_L44 X A x1 x3 n _ _ _ ρ hl ?_)
          intro v46 e
          rw [e] at h
          have h : f_X6_peak_X125 A v46 = some _ := h
          unfold f_X6_peak_X125 at h
          refine G_iload X dX6_peak_125 0 rfl ?_
          have e := so h
          subst e
          exact hQ _ _ dX6_peak_127
        · have h := if_f c19 h
          refine G_aload_n X dX6_peak_27 rfl 0 rfl ?_
          refine G_iconst X (v := 0) dX6_peak_28 rfl ?_
          obtain ⟨r47, A49, hz48, h⟩ := cl2_k h
          refine G_callV_i X (As := [.int 0]) (rest := []) ok_X6_finds qw737 0 (eR0 _ _ _) rfl rfl ⟨rfl, rfl, Nat.le_of_ble_eq_true rfl, Nat.le_of_ble_eq_true rfl⟩ (m_X6_finds X.d hz48) rfl rfl (Nat.le_of_ble_eq_true rfl) dX6_peak_29 ?_
          have e := so h
          subst e
          exact hQ _ _ dX6_peak_32
theorem m_X6_peak {l : Launch} {F : pfF} (hD : ∀ A, va_D (fA F) (cellsR (fAd F) (fCy F) A)) {x1 : Int32} {x2 : Int32} {x3 : Int32} {A : St} {out : Int32 × St} (h : f_X6_peak x1 x2 x3 A = some out) : Mt l F cellsR yX6_peak cX6_peak 11 (some .int) rm_X6_peak [.ref (fAd F 0), .int x1, .int x2, .int x3] A (va_Qi (fun (r : Int32) (u : St) => r = out.1 ∧ u = out.2) (Wd cellsR F) (fA F)) := by
  refine Met_i (by decide +kernel) (Nat.le_of_ble_eq_true rfl) hD (fun E el ef X hQ => ?_)
  subst el
  subst ef
  exact b_X6_peak X _ _ _ _ hQ h
theorem ok_X6_peak : OkV yX6_peak cX6_peak 11 (some .int) 3 := ⟨qw888, qw889, qw6, qw890, by decide, by decide, by decide⟩
noncomputable def f_X6_topic (x1 : Int32) (x2 : Int32) (x3 : Int32) (A : St) : Option (Int32 × St) :=
  cl (f_X6_in x1.toInt64 0 3) fun r1 =>
  if (bI r1) = 0 then
    cl2 (f_X6_finds 0 A) fun r4 A6 =>
    some (r4, A6)
  else
    cl (f_X6_in x2.toInt64 0 6) fun r7 =>
    if (bI r7) = 0 then
      cl2 (f_X6_finds 0 A) fun r10 A12 =>
      some (r10, A12)
    else
      cl (f_X6_in x3.toInt64 x2.toInt64 6) fun r13 =>
      if (bI r13) = 0 then
        cl2 (f_X6_finds 0 A) fun r24 A26 =>
        some (r24, A26)
      else
        bv ((105 : Int32) + ((2 : Int32) * x1)) fun v16 =>
        gI v16 117 <|
        gI (v16 + 1) 117 <|
        bv (((10 : Int32) * (A.1 1 v16.toNatClampNeg)) + (A.1 1 (v16 + 1).toNatClampNeg)) fun v19 =>
        gI v16 117 <|
        bv (upI A 1 v16.toNatClampNeg x2) fun A21 =>
        gI (v16 + 1) 117 <|
        bv (upI A21 1 (v16 + 1).toNatClampNeg x3) fun A23 =>
        some (v19, A23)
abbrev rm_X6_topic : Room := { frames := 1, cells := 0, slots := 0, locals := 25 }
set_option maxHeartbeats 4000000 in
set_option maxRecDepth 100000 in
theorem b_X6_topic {E : pfE} (X : CX cellsR E cX6_topic RX6 rm_X6_topic 6) (x1 : Int32) (x2 : Int32) (x3 : Int32) (A : St) {out : Int32 × St} (hQ : Reti cellsR E cX6_topic out.1 out.2) (h : f_X6_topic x1 x2 x3 A = some out) : GG cellsR E A 0 [(0, .ref (fAd (eF E) 0)), (1, .int x1), (2, .int x2), (3, .int x3)] [] := by
  unfold f_X6_topic at h
  refine G_iload_n X dX6_topic_0 rfl 1 rfl ?_
  refine G_i2l X dX6_topic_1 rfl ?_
  refine G_lconst X (v := 0) dX6_topic_2 rfl ?_
  refine G_ldc2 X (v := 3) qw730 dX6_topic_3 ?_
  obtain ⟨r1, hz2, h⟩ := cl_k h
  refine G_callS_i X (As := [.long x1.toInt64, .long 0, .long 3]) (rest := []) ok_X6_in qw727 ⟨rfl, rfl, Nat.le_of_ble_eq_true rfl, Nat.le_of_ble_eq_true rfl⟩ (m_X6_in X.d hz2) rfl rfl (Nat.le_of_ble_eq_true rfl) dX6_topic_6 ?_
  refine G_ifeq X (tgt := 37) dX6_topic_9 (by decide) (fun c3 => ?_) (fun c3 => ?_)
  · have h := if_t c3 h
    refine G_aload_n X dX6_topic_37 rfl 0 rfl ?_
    refine G_iconst X (v := 0) dX6_topic_38 rfl ?_
    obtain ⟨r4, A6, hz5, h⟩ := cl2_k h
    refine G_callV_i X (As := [.int 0]) (rest := []) ok_X6_finds qw737 0 (eR0 _ _ _) rfl rfl ⟨rfl, rfl, Nat.le_of_ble_eq_true rfl, Nat.le_of_ble_eq_true rfl⟩ (m_X6_finds X.d hz5) rfl rfl (Nat.le_of_ble_eq_true rfl) dX6_topic_39 ?_
    have e := so h
    subst e
    exact hQ _ _ dX6_topic_42
  · have h := if_f c3 h
    refine G_iload_n X dX6_topic_12 rfl 2 rfl ?_
    refine G_i2l X dX6_topic_13 rfl ?_
    refine G_lconst X (v := 0) dX6_topic_14 rfl ?_
    refine G_ldc2 X (v := 6) qw896 dX6_topic_15 ?_
    obtain ⟨r7, hz8, h⟩ := cl_k h
    refine G_callS_i X (As := [.long x2.toInt64, .long 0, .long 6]) (rest := []) ok_X6_in qw727 ⟨rfl, rfl, Nat.le_of_ble_eq_true rfl, Nat.le_of_ble_eq_true rfl⟩ (m_X6_in X.d hz8) rfl rfl (Nat.le_of_ble_eq_true rfl) dX6_topic_18 ?_
    refine G_ifeq X (tgt := 37) dX6_topic_21 (by decide) (fun c9 => ?_) (fun c9 => ?_)
    · have h := if_t c9 h
      refine G_aload_n X dX6_topic_37 rfl 0 rfl ?_
      refine G_iconst X (v := 0) dX6_topic_38 rfl ?_
      obtain ⟨r10, A12, hz11, h⟩ := cl2_k h
      refine G_callV_i X (As := [.int 0]) (rest := []) ok_X6_finds qw737 0 (eR0 _ _ _) rfl rfl ⟨rfl, rfl, Nat.le_of_ble_eq_true rfl, Nat.le_of_ble_eq_true rfl⟩ (m_X6_finds X.d hz11) rfl rfl (Nat.le_of_ble_eq_true rfl) dX6_topic_39 ?_
      have e := so h
      subst e
      exact hQ _ _ dX6_topic_42
    · have h := if_f c9 h
      refine G_iload_n X dX6_topic_24 rfl 3 rfl ?_
      refine G_i2l X dX6_topic_25 rfl ?_
      refine G_iload_n X dX6_topic_26 rfl 2 rfl ?_
      refine G_i2l X dX6_topic_27 rfl ?_
      refine G_ldc2 X (v := 6) qw896 dX6_topic_28 ?_
      obtain ⟨r13, hz14, h⟩ := cl_k h
      refine G_callS_i X (As := [.long x3.toInt64, .long x2.toInt64, .long 6]) (rest := []) ok_X6_in qw727 ⟨rfl, rfl, Nat.le_of_ble_eq_true rfl, Nat.le_of_ble_eq_true rfl⟩ (m_X6_in X.d hz14) rfl rfl (Nat.le_of_ble_eq_true rfl) dX6_topic_31 ?_
      refine G_ifne X (tgt := 43) dX6_topic_34 (by decide) (fun c15 => ?_) (fun c15 => ?_)
      · have h := if_t c15 h
        refine G_aload_n X dX6_topic_37 rfl 0 rfl ?_
        refine G_iconst X (v := 0) dX6_topic_38 rfl ?_
        obtain ⟨r24, A26, hz25, h⟩ := cl2_k h
        refine G_callV_i X (As := [.int 0]) (rest := []) ok_X6_finds qw737 0 (eR0 _ _ _) rfl rfl ⟨rfl, rfl, Nat.le_of_ble_eq_true rfl, Nat.le_of_ble_eq_true rfl⟩ (m_X6_finds X.d hz25) rfl rfl (Nat.le_of_ble_eq_true rfl) dX6_topic_39 ?_
        have e := so h
        subst e
        exact hQ _ _ dX6_topic_42
      · have h := if_f c15 h
        refine G_bipush X (v := 105) dX6_topic_43 rfl ?_
        refine G_iconst X (v := 2) dX6_topic_45 rfl ?_
        refine G_iload_n X dX6_topic_46 rfl 1 rfl ?_
        refine G_imul X dX6_topic_47 ?_
        refine G_iadd X dX6_topic_48 ?_
        refine G_topi (fun v16 ev16 => ?_)
        have h := bv_k ev16 h
        refine G_istore X (lv2 := [(4, .int v16), (0, .ref (fAd (eF E) 0)), (1, .int x1), (2, .int x2), (3, .int x3)]) dX6_topic_49 (by decide) rfl ?_
        refine G_bipush X (v := 10) dX6_topic_51 rfl ?_
        refine G_aload_n X dX6_topic_53 rfl 1 rfl ?_
        refine G_getf X inX6 0 (eR0 _ _ _) rfl 0 (by decide) qw654 rfl dX6_topic_54 ?_
        refine G_iload X dX6_topic_57 0 rfl ?_
        have hi17 := gI_n h
        have h := gI_k h
        refine G_iald X (j := v16.toNatClampNeg) 1 (eR1 _ _ _) hi17 rfl dX6_topic_59 ?_
        refine G_imul X dX6_topic_60 ?_
        refine G_aload_n X dX6_topic_61 rfl 1 rfl ?_
        refine G_getf X inX6 0 (eR0 _ _ _) rfl 0 (by decide) qw654 rfl dX6_topic_62 ?_
        refine G_iload X dX6_topic_65 0 rfl ?_
        refine G_iconst X (v := 1) dX6_topic_67 rfl ?_
        refine G_iadd X dX6_topic_68 ?_
        have hi18 := gI_n h
        have h := gI_k h
        refine G_iald X (j := (v16 + 1).toNatClampNeg) 1 (eR1 _ _ _) hi18 rfl dX6_topic_69 ?_
        refine G_iadd X dX6_topic_70 ?_
        refine G_topi (fun v19 ev19 => ?_)
        have h := bv_k ev19 h
        refine G_istore X (lv2 := [(5, .int v19), (4, .int v16), (0, .ref (fAd (eF E) 0)), (1, .int x1), (2, .int x2), (3, .int x3)]) dX6_topic_71 (by decide) rfl ?_
        refine G_aload_n X dX6_topic_73 rfl 2 rfl ?_
        refine G_getf X inX6 0 (eR0 _ _ _) rfl 0 (by decide) qw654 rfl dX6_topic_74 ?_
        refine G_iload X dX6_topic_77 1 rfl ?_
        refine G_iload_n X dX6_topic_79 rfl 4 rfl ?_
        have hi20 := gI_n h
        have h := gI_k h
        refine G_iast X (j := v16.toNatClampNeg) 1 (eR1 _ _ _) (sRI _ _ _ _ v16.toNatClampNeg _ _ (fun _ => rfl)) hi20 rfl dX6_topic_80 ?_
        refine G_topS (fun A21 eA21 => ?_)
        have h := bv_k eA21 h
        refine G_aload_n X dX6_topic_81 rfl 2 rfl ?_
        refine G_getf X inX6 0 (eR0 _ _ _) rfl 0 (by decide) qw654 rfl dX6_topic_82 ?_
        refine G_iload X dX6_topic_85 1 rfl ?_
        refine G_iconst X (v := 1) dX6_topic_87 rfl ?_
        refine G_iadd X dX6_topic_88 ?_
        refine G_iload_n X dX6_topic_89 rfl 5 rfl ?_
        have hi22 := gI_n h
        have h := gI_k h
        refine G_iast X (j := (v16 + 1).toNatClampNeg) 1 (eR1 _ _ _) (sRI _ _ _ _ (v16 + 1).toNatClampNeg _ _ (fun _ => rfl)) hi22 rfl dX6_topic_90 ?_
        refine G_topS (fun A23 eA23 => ?_)
        have h := bv_k eA23 h
        refine G_iload X dX6_topic_91 0 rfl ?_
        have e := so h
        subst e
        exact hQ _ _ dX6_topic_93
theorem m_X6_topic {l : Launch} {F : pfF} (hD : ∀ A, va_D (fA F) (cellsR (fAd F) (fCy F) A)) {x1 : Int32} {x2 : Int32} {x3 : Int32} {A : St} {out : Int32 × St} (h : f_X6_topic x1 x2 x3 A = some out) : Mt l F cellsR yX6_topic cX6_topic 6 (some .int) rm_X6_topic [.ref (fAd F 0), .int x1, .int x2, .int x3] A (va_Qi (fun (r : Int32) (u : St) => r = out.1 ∧ u = out.2) (Wd cellsR F) (fA F)) := by
  refine Met_i (by decide +kernel) (Nat.le_of_ble_eq_true rfl) hD (fun E el ef X hQ => ?_)
  subst el
  subst ef
  exact b_X6_topic X _ _ _ _ hQ h
theorem ok_X6_topic : OkV yX6_topic cX6_topic 6 (some .int) 3 := ⟨qw893, qw894, qw6, qw895, by decide, by decide, by decide⟩
noncomputable def f_X6_rule (x1 : Int32) (x2 : Int32) (A : St) : Option (Int32 × St) :=
  if x1 = 0 then
    cl (f_X6_in x2.toInt64 1 6) fun r42 =>
    bv (bI r42) fun v44 =>
    if v44 = 0 then
      cl2 (f_X6_finds 0 A) fun r50 A52 =>
      some (r50, A52)
    else
      gI ((113 : Int32) + x1) 117 <|
      bv (A.1 1 ((113 : Int32) + x1).toNatClampNeg) fun v47 =>
      gI ((113 : Int32) + x1) 117 <|
      bv (upI A 1 ((113 : Int32) + x1).toNatClampNeg x2) fun A49 =>
      some (v47, A49)
  else
    if x1 = 1 then
      cl (f_X6_in x2.toInt64 0 240) fun r31 =>
      bv (bI r31) fun v33 =>
      if v33 = 0 then
        cl2 (f_X6_finds 0 A) fun r39 A41 =>
        some (r39, A41)
      else
        gI ((113 : Int32) + x1) 117 <|
        bv (A.1 1 ((113 : Int32) + x1).toNatClampNeg) fun v36 =>
        gI ((113 : Int32) + x1) 117 <|
        bv (upI A 1 ((113 : Int32) + x1).toNatClampNeg x2) fun A38 =>
        some (v36, A38)
    else
      if x1 = 2 then
        cl (f_X6_in x2.toInt64 0 999) fun r12 =>
        if (bI r12) = 0 then
          if (0 : Int32) = 0 then
            cl2 (f_X6_finds 0 A) fun r20 A22 =>
            some (r20, A22)
          else
            gI ((113 : Int32) + x1) 117 <|
            bv (A.1 1 ((113 : Int32) + x1).toNatClampNeg) fun v17 =>
            gI ((113 : Int32) + x1) 117 <|
            bv (upI A 1 ((113 : Int32) + x1).toNatClampNeg x2) fun A19 =>
            some (v17, A19)
        else
          if (1 : Int32) = 0 then
            cl2 (f_X6_finds 0 A) fun r28 A30 =>
            some (r28, A30)
          else
            gI ((113 : Int32) + x1) 117 <|
            bv (A.1 1 ((113 : Int32) + x1).toNatClampNeg) fun v25 =>
            gI ((113 : Int32) + x1) 117 <|
            bv (upI A 1 ((113 : Int32) + x1).toNatClampNeg x2) fun A27 =>
            some (v25, A27)
      else
        if (0 : Int32) = 0 then
          cl2 (f_X6_finds 0 A) fun r9 A11 =>
          some (r9, A11)
        else
          gI ((113 : Int32) + x1) 117 <|
          bv (A.1 1 ((113 : Int32) + x1).toNatClampNeg) fun v6 =>
          gI ((113 : Int32) + x1) 117 <|
          bv (upI A 1 ((113 : Int32) + x1).toNatClampNeg x2) fun A8 =>
          some (v6, A8)
abbrev rm_X6_rule : Room := { frames := 1, cells := 0, slots := 0, locals := 25 }
set_option maxHeartbeats 4000000 in
set_option maxRecDepth 100000 in
theorem b_X6_rule {E : pfE} (X : CX cellsR E cX6_rule RX6 rm_X6_rule 5) (x1 : Int32) (x2 : Int32) (A : St) {out : Int32 × St} (hQ : Reti cellsR E cX6_rule out.1 out.2) (h : f_X6_rule x1 x2 A = some out) : GG cellsR E A 0 [(0, .ref (fAd (eF E) 0)), (1, .int x1), (2, .int x2)] [] := by
  unfold f_X6_rule at h
  refine G_iload_n X dX6_rule_0 rfl 1 rfl ?_
  refine G_ifne X (tgt := 16) dX6_rule_1 (by decide) (fun c1 => ?_) (fun c1 => ?_)
  · have h := if_t c1 h
    refine G_iload_n X dX6_rule_4 rfl 2 rfl ?_
    refine G_i2l X dX6_rule_5 rfl ?_
    refine G_lconst X (v := 1) dX6_rule_6 rfl ?_
    refine G_ldc2 X (v := 6) qw896 dX6_rule_7 ?_
    obtain ⟨r42, hz43, h⟩ := cl_k h
    refine G_callS_i X (As := [.long x2.toInt64, .long 1, .long 6]) (rest := []) ok_X6_in qw727 ⟨rfl, rfl, Nat.le_of_ble_eq_true rfl, Nat.le_of_ble_eq_true rfl⟩ (m_X6_in X.d hz43) rfl rfl (Nat.le_of_ble_eq_true rfl) dX6_rule_10 ?_
    refine G_goto X (tgt := 55) dX6_rule_13 (by decide) ?_
    refine G_topi (fun v44 ev44 => ?_)
    have h := bv_k ev44 h
    refine G_istore_n X (lv2 := [(3, .int v44), (0, .ref (fAd (eF E) 0)), (1, .int x1), (2, .int x2)]) dX6_rule_55 rfl (by decide) rfl ?_
    refine G_iload_n X dX6_rule_56 rfl 0 rfl ?_
    refine G_ifne X (tgt := 66) dX6_rule_57 (by decide) (fun c45 => ?_) (fun c45 => ?_)
    · have h := if_t c45 h
      refine G_aload_n X dX6_rule_60 rfl 1 rfl ?_
      refine G_iconst X (v := 0) dX6_rule_61 rfl ?_
      obtain ⟨r50, A52, hz51, h⟩ := cl2_k h
      refine G_callV_i X (As := [.int 0]) (rest := []) ok_X6_finds qw737 0 (eR0 _ _ _) rfl rfl ⟨rfl, rfl, Nat.le_of_ble_eq_true rfl, Nat.le_of_ble_eq_true rfl⟩ (m_X6_finds X.d hz51) rfl rfl (Nat.le_of_ble_eq_true rfl) dX6_rule_62 ?_
      have e := so h
      subst e
      exact hQ _ _ dX6_rule_65
    · have h := if_f c45 h
      refine G_aload_n X dX6_rule_66 rfl 1 rfl ?_
      refine G_getf X inX6 0 (eR0 _ _ _) rfl 0 (by decide) qw654 rfl dX6_rule_67 ?_
      refine G_bipush X (v := 113) dX6_rule_70 rfl ?_
      refine G_iload_n X dX6_rule_72 rfl 2 rfl ?_
      refine G_iadd X dX6_rule_73 ?_
      have hi46 := gI_n h
      have h := gI_k h
      refine G_iald X (j := ((113 : Int32) + x1).toNatClampNeg) 1 (eR1 _ _ _) hi46 rfl dX6_rule_74 ?_
      refine G_topi (fun v47 ev47 => ?_)
      have h := bv_k ev47 h
      refine G_istore X (lv2 := [(4, .int v47), (3, .int v44), (0, .ref (fAd (eF E) 0)), (1, .int x1), (2, .int x2)]) dX6_rule_75 (by decide) rfl ?_
      refine G_aload_n X dX6_rule_77 rfl 2 rfl ?_
      refine G_getf X inX6 0 (eR0 _ _ _) rfl 0 (by decide) qw654 rfl dX6_rule_78 ?_
      refine G_bipush X (v := 113) dX6_rule_81 rfl ?_
      refine G_iload_n X dX6_rule_83 rfl 3 rfl ?_
      refine G_iadd X dX6_rule_84 ?_
      refine G_iload_n X dX6_rule_85 rfl 4 rfl ?_
      have hi48 := gI_n h
      have h := gI_k h
      refine G_iast X (j := ((113 : Int32) + x1).toNatClampNeg) 1 (eR1 _ _ _) (sRI _ _ _ _ ((113 : Int32) + x1).toNatClampNeg _ _ (fun _ => rfl)) hi48 rfl dX6_rule_86 ?_
      refine G_topS (fun A49 eA49 => ?_)
      have h := bv_k eA49 h
      refine G_iload X dX6_rule_87 0 rfl ?_
      have e := so h
      subst e
      exact hQ _ _ dX6_rule_89
  · have h := if_f c1 h
    refine G_iload_n X dX6_rule_16 rfl 1 rfl ?_
    refine G_iconst X (v := 1) dX6_rule_17 rfl ?_
    refine G_icne X (tgt := 33) dX6_rule_18 (by decide) (fun c2 => ?_) (fun c2 => ?_)
    · have h := if_t c2 h
      refine G_iload_n X dX6_rule_21 rfl 2 rfl ?_
      refine G_i2l X dX6_rule_22 rfl ?_
      refine G_lconst X (v := 0) dX6_rule_23 rfl ?_
      refine G_ldc2 X (v := 240) qw901 dX6_rule_24 ?_
      obtain ⟨r31, hz32, h⟩ := cl_k h
      refine G_callS_i X (As := [.long x2.toInt64, .long 0, .long 240]) (rest := []) ok_X6_in qw727 ⟨rfl, rfl, Nat.le_of_ble_eq_true rfl, Nat.le_of_ble_eq_true rfl⟩ (m_X6_in X.d hz32) rfl rfl (Nat.le_of_ble_eq_true rfl) dX6_rule_27 ?_
      refine G_goto X (tgt := 55) dX6_rule_30 (by decide) ?_
      refine G_topi (fun v33 ev33 => ?_)
      have h := bv_k ev33 h
      refine G_istore_n X (lv2 := [(3, .int v33), (0, .ref (fAd (eF E) 0)), (1, .int x1), (2, .int x2)]) dX6_rule_55 rfl (by decide) rfl ?_
      refine G_iload_n X dX6_rule_56 rfl 0 rfl ?_
      refine G_ifne X (tgt := 66) dX6_rule_57 (by decide) (fun c34 => ?_) (fun c34 => ?_)
      · have h := if_t c34 h
        refine G_aload_n X dX6_rule_60 rfl 1 rfl ?_
        refine G_iconst X (v := 0) dX6_rule_61 rfl ?_
        obtain ⟨r39, A41, hz40, h⟩ := cl2_k h
        refine G_callV_i X (As := [.int 0]) (rest := []) ok_X6_finds qw737 0 (eR0 _ _ _) rfl rfl ⟨rfl, rfl, Nat.le_of_ble_eq_true rfl, Nat.le_of_ble_eq_true rfl⟩ (m_X6_finds X.d hz40) rfl rfl (Nat.le_of_ble_eq_true rfl) dX6_rule_62 ?_
        have e := so h
        subst e
        exact hQ _ _ dX6_rule_65
      · have h := if_f c34 h
        refine G_aload_n X dX6_rule_66 rfl 1 rfl ?_
        refine G_getf X inX6 0 (eR0 _ _ _) rfl 0 (by decide) qw654 rfl dX6_rule_67 ?_
        refine G_bipush X (v := 113) dX6_rule_70 rfl ?_
        refine G_iload_n X dX6_rule_72 rfl 2 rfl ?_
        refine G_iadd X dX6_rule_73 ?_
        have hi35 := gI_n h
        have h := gI_k h
        refine G_iald X (j := ((113 : Int32) + x1).toNatClampNeg) 1 (eR1 _ _ _) hi35 rfl dX6_rule_74 ?_
        refine G_topi (fun v36 ev36 => ?_)
        have h := bv_k ev36 h
        refine G_istore X (lv2 := [(4, .int v36), (3, .int v33), (0, .ref (fAd (eF E) 0)), (1, .int x1), (2, .int x2)]) dX6_rule_75 (by decide) rfl ?_
        refine G_aload_n X dX6_rule_77 rfl 2 rfl ?_
        refine G_getf X inX6 0 (eR0 _ _ _) rfl 0 (by decide) qw654 rfl dX6_rule_78 ?_
        refine G_bipush X (v := 113) dX6_rule_81 rfl ?_
        refine G_iload_n X dX6_rule_83 rfl 3 rfl ?_
        refine G_iadd X dX6_rule_84 ?_
        refine G_iload_n X dX6_rule_85 rfl 4 rfl ?_
        have hi37 := gI_n h
        have h := gI_k h
        refine G_iast X (j := ((113 : Int32) + x1).toNatClampNeg) 1 (eR1 _ _ _) (sRI _ _ _ _ ((113 : Int32) + x1).toNatClampNeg _ _ (fun _ => rfl)) hi37 rfl dX6_rule_86 ?_
        refine G_topS (fun A38 eA38 => ?_)
        have h := bv_k eA38 h
        refine G_iload X dX6_rule_87 0 rfl ?_
        have e := so h
        subst e
        exact hQ _ _ dX6_rule_89
    · have h := if_f c2 h
      refine G_iload_n X dX6_rule_33 rfl 1 rfl ?_
      refine G_iconst X (v := 2) dX6_rule_34 rfl ?_
      refine G_icne X (tgt := 54) dX6_rule_35 (by decide) (fun c3 => ?_) (fun c3 => ?_)
      · have h := if_t c3 h
        refine G_iload_n X dX6_rule_38 rfl 2 rfl ?_
        refine G_i2l X dX6_rule_39 rfl ?_
        refine G_lconst X (v := 0) dX6_rule_40 rfl ?_
        refine G_ldc2 X (v := 999) qw736 dX6_rule_41 ?_
        obtain ⟨r12, hz13, h⟩ := cl_k h
        refine G_callS_i X (As := [.long x2.toInt64, .long 0, .long 999]) (rest := []) ok_X6_in qw727 ⟨rfl, rfl, Nat.le_of_ble_eq_true rfl, Nat.le_of_ble_eq_true rfl⟩ (m_X6_in X.d hz13) rfl rfl (Nat.le_of_ble_eq_true rfl) dX6_rule_44 ?_
        refine G_ifeq X (tgt := 54) dX6_rule_47 (by decide) (fun c14 => ?_) (fun c14 => ?_)
        · have h := if_t c14 h
          refine G_iconst X (v := 0) dX6_rule_54 rfl ?_
          refine G_istore_n X (lv2 := [(3, .int 0), (0, .ref (fAd (eF E) 0)), (1, .int x1), (2, .int x2)]) dX6_rule_55 rfl (by decide) rfl ?_
          refine G_iload_n X dX6_rule_56 rfl 0 rfl ?_
          refine G_ifne X (tgt := 66) dX6_rule_57 (by decide) (fun c15 => ?_) (fun c15 => ?_)
          · have h := if_t c15 h
            refine G_aload_n X dX6_rule_60 rfl 1 rfl ?_
            refine G_iconst X (v := 0) dX6_rule_61 rfl ?_
            obtain ⟨r20, A22, hz21, h⟩ := cl2_k h
            refine G_callV_i X (As := [.int 0]) (rest := []) ok_X6_finds qw737 0 (eR0 _ _ _) rfl rfl ⟨rfl, rfl, Nat.le_of_ble_eq_true rfl, Nat.le_of_ble_eq_true rfl⟩ (m_X6_finds X.d hz21) rfl rfl (Nat.le_of_ble_eq_true rfl) dX6_rule_62 ?_
            have e := so h
            subst e
            exact hQ _ _ dX6_rule_65
          · have h := if_f c15 h
            refine G_aload_n X dX6_rule_66 rfl 1 rfl ?_
            refine G_getf X inX6 0 (eR0 _ _ _) rfl 0 (by decide) qw654 rfl dX6_rule_67 ?_
            refine G_bipush X (v := 113) dX6_rule_70 rfl ?_
            refine G_iload_n X dX6_rule_72 rfl 2 rfl ?_
            refine G_iadd X dX6_rule_73 ?_
            have hi16 := gI_n h
            have h := gI_k h
            refine G_iald X (j := ((113 : Int32) + x1).toNatClampNeg) 1 (eR1 _ _ _) hi16 rfl dX6_rule_74 ?_
            refine G_topi (fun v17 ev17 => ?_)
            have h := bv_k ev17 h
            refine G_istore X (lv2 := [(4, .int v17), (3, .int 0), (0, .ref (fAd (eF E) 0)), (1, .int x1), (2, .int x2)]) dX6_rule_75 (by decide) rfl ?_
            refine G_aload_n X dX6_rule_77 rfl 2 rfl ?_
            refine G_getf X inX6 0 (eR0 _ _ _) rfl 0 (by decide) qw654 rfl dX6_rule_78 ?_
            refine G_bipush X (v := 113) dX6_rule_81 rfl ?_
            refine G_iload_n X dX6_rule_83 rfl 3 rfl ?_
            refine G_iadd X dX6_rule_84 ?_
            refine G_iload_n X dX6_rule_85 rfl 4 rfl ?_
            have hi18 := gI_n h
            have h := gI_k h
            refine G_iast X (j := ((113 : Int32) + x1).toNatClampNeg) 1 (eR1 _ _ _) (sRI _ _ _ _ ((113 : Int32) + x1).toNatClampNeg _ _ (fun _ => rfl)) hi18 rfl dX6_rule_86 ?_
            refine G_topS (fun A19 eA19 => ?_)
            have h := bv_k eA19 h
            refine G_iload X dX6_rule_87 0 rfl ?_
            have e := so h
            subst e
            exact hQ _ _ dX6_rule_89
        · have h := if_f c14 h
          refine G_iconst X (v := 1) dX6_rule_50 rfl ?_
          refine G_goto X (tgt := 55) dX6_rule_51 (by decide) ?_
          refine G_istore_n X (lv2 := [(3, .int 1), (0, .ref (fAd (eF E) 0)), (1, .int x1), (2, .int x2)]) dX6_rule_55 rfl (by decide) rfl ?_
          refine G_iload_n X dX6_rule_56 rfl 0 rfl ?_
          refine G_ifne X (tgt := 66) dX6_rule_57 (by decide) (fun c23 => ?_) (fun c23 => ?_)
          · have h := if_t c23 h
            refine G_aload_n X dX6_rule_60 rfl 1 rfl ?_
            refine G_iconst X (v := 0) dX6_rule_61 rfl ?_
            obtain ⟨r28, A30, hz29, h⟩ := cl2_k h
            refine G_callV_i X (As := [.int 0]) (rest := []) ok_X6_finds qw737 0 (eR0 _ _ _) rfl rfl ⟨rfl, rfl, Nat.le_of_ble_eq_true rfl, Nat.le_of_ble_eq_true rfl⟩ (m_X6_finds X.d hz29) rfl rfl (Nat.le_of_ble_eq_true rfl) dX6_rule_62 ?_
            have e := so h
            subst e
            exact hQ _ _ dX6_rule_65
          · have h := if_f c23 h
            refine G_aload_n X dX6_rule_66 rfl 1 rfl ?_
            refine G_getf X inX6 0 (eR0 _ _ _) rfl 0 (by decide) qw654 rfl dX6_rule_67 ?_
            refine G_bipush X (v := 113) dX6_rule_70 rfl ?_
            refine G_iload_n X dX6_rule_72 rfl 2 rfl ?_
            refine G_iadd X dX6_rule_73 ?_
            have hi24 := gI_n h
            have h := gI_k h
            refine G_iald X (j := ((113 : Int32) + x1).toNatClampNeg) 1 (eR1 _ _ _) hi24 rfl dX6_rule_74 ?_
            refine G_topi (fun v25 ev25 => ?_)
            have h := bv_k ev25 h
            refine G_istore X (lv2 := [(4, .int v25), (3, .int 1), (0, .ref (fAd (eF E) 0)), (1, .int x1), (2, .int x2)]) dX6_rule_75 (by decide) rfl ?_
            refine G_aload_n X dX6_rule_77 rfl 2 rfl ?_
            refine G_getf X inX6 0 (eR0 _ _ _) rfl 0 (by decide) qw654 rfl dX6_rule_78 ?_
            refine G_bipush X (v := 113) dX6_rule_81 rfl ?_
            refine G_iload_n X dX6_rule_83 rfl 3 rfl ?_
            refine G_iadd X dX6_rule_84 ?_
            refine G_iload_n X dX6_rule_85 rfl 4 rfl ?_
            have hi26 := gI_n h
            have h := gI_k h
            refine G_iast X (j := ((113 : Int32) + x1).toNatClampNeg) 1 (eR1 _ _ _) (sRI _ _ _ _ ((113 : Int32) + x1).toNatClampNeg _ _ (fun _ => rfl)) hi26 rfl dX6_rule_86 ?_
            refine G_topS (fun A27 eA27 => ?_)
            have h := bv_k eA27 h
            refine G_iload X dX6_rule_87 0 rfl ?_
            have e := so h
            subst e
            exact hQ _ _ dX6_rule_89
      · have h := if_f c3 h
        refine G_iconst X (v := 0) dX6_rule_54 rfl ?_
        refine G_istore_n X (lv2 := [(3, .int 0), (0, .ref (fAd (eF E) 0)), (1, .int x1), (2, .int x2)]) dX6_rule_55 rfl (by decide) rfl ?_
        refine G_iload_n X dX6_rule_56 rfl 0 rfl ?_
        refine G_ifne X (tgt := 66) dX6_rule_57 (by decide) (fun c4 => ?_) (fun c4 => ?_)
        · have h := if_t c4 h
          refine G_aload_n X dX6_rule_60 rfl 1 rfl ?_
          refine G_iconst X (v := 0) dX6_rule_61 rfl ?_
          obtain ⟨r9, A11, hz10, h⟩ := cl2_k h
          refine G_callV_i X (As := [.int 0]) (rest := []) ok_X6_finds qw737 0 (eR0 _ _ _) rfl rfl ⟨rfl, rfl, Nat.le_of_ble_eq_true rfl, Nat.le_of_ble_eq_true rfl⟩ (m_X6_finds X.d hz10) rfl rfl (Nat.le_of_ble_eq_true rfl) dX6_rule_62 ?_
          have e := so h
          subst e
          exact hQ _ _ dX6_rule_65
        · have h := if_f c4 h
          refine G_aload_n X dX6_rule_66 rfl 1 rfl ?_
          refine G_getf X inX6 0 (eR0 _ _ _) rfl 0 (by decide) qw654 rfl dX6_rule_67 ?_
          refine G_bipush X (v := 113) dX6_rule_70 rfl ?_
          refine G_iload_n X dX6_rule_72 rfl 2 rfl ?_
          refine G_iadd X dX6_rule_73 ?_
          have hi5 := gI_n h
          have h := gI_k h
          refine G_iald X (j := ((113 : Int32) + x1).toNatClampNeg) 1 (eR1 _ _ _) hi5 rfl dX6_rule_74 ?_
          refine G_topi (fun v6 ev6 => ?_)
          have h := bv_k ev6 h
          refine G_istore X (lv2 := [(4, .int v6), (3, .int 0), (0, .ref (fAd (eF E) 0)), (1, .int x1), (2, .int x2)]) dX6_rule_75 (by decide) rfl ?_
          refine G_aload_n X dX6_rule_77 rfl 2 rfl ?_
          refine G_getf X inX6 0 (eR0 _ _ _) rfl 0 (by decide) qw654 rfl dX6_rule_78 ?_
          refine G_bipush X (v := 113) dX6_rule_81 rfl ?_
          refine G_iload_n X dX6_rule_83 rfl 3 rfl ?_
          refine G_iadd X dX6_rule_84 ?_
          refine G_iload_n X dX6_rule_85 rfl 4 rfl ?_
          have hi7 := gI_n h
          have h := gI_k h
          refine G_iast X (j := ((113 : Int32) + x1).toNatClampNeg) 1 (eR1 _ _ _) (sRI _ _ _ _ ((113 : Int32) + x1).toNatClampNeg _ _ (fun _ => rfl)) hi7 rfl dX6_rule_86 ?_
          refine G_topS (fun A8 eA8 => ?_)
          have h := bv_k eA8 h
          refine G_iload X dX6_rule_87 0 rfl ?_
          have e := so h
          subst e
          exact hQ _ _ dX6_rule_89
theorem m_X6_rule {l : Launch} {F : pfF} (hD : ∀ A, va_D (fA F) (cellsR (fAd F) (fCy F) A)) {x1 : Int32} {x2 : Int32} {A : St} {out : Int32 × St} (h : f_X6_rule x1 x2 A = some out) : Mt l F cellsR yX6_rule cX6_rule 5 (some .int) rm_X6_rule [.ref (fAd F 0), .int x1, .int x2] A (va_Qi (fun (r : Int32) (u : St) => r = out.1 ∧ u = out.2) (Wd cellsR F) (fA F)) := by
  refine Met_i (by decide +kernel) (Nat.le_of_ble_eq_true rfl) hD (fun E el ef X hQ => ?_)
  subst el
  subst ef
  exact b_X6_rule X _ _ _ hQ h
theorem ok_X6_rule : OkV yX6_rule cX6_rule 5 (some .int) 2 := ⟨qw898, qw899, qw6, qw900, by decide, by decide, by decide⟩
noncomputable def f_X6_told (x1 : Int32) (A : St) : Option (Int32 × St) :=
  cl (f_X6_in x1.toInt64 0 2) fun r1 =>
  if (bI r1) = 0 then
    cl (f_X6_in x1.toInt64 10 13) fun r4 =>
    if (bI r4) = 0 then
      cl (f_X6_in x1.toInt64 20 23) fun r7 =>
      if (bI r7) = 0 then
        cl (f_X6_in x1.toInt64 30 33) fun r10 =>
        if (bI r10) = 0 then
          cl2 (f_X6_finds 0 A) fun r13 A15 =>
          some (r13, A15)
        else
          gI (((97 : Int32) + ((2 : Int32) * (x1 - 30))) + 1) 117 <|
          some (A.1 1 (((97 : Int32) + ((2 : Int32) * (x1 - 30))) + 1).toNatClampNeg, A)
      else
        gI ((97 : Int32) + ((2 : Int32) * (x1 - 20))) 117 <|
        some (A.1 1 ((97 : Int32) + ((2 : Int32) * (x1 - 20))).toNatClampNeg, A)
    else
      gI ((105 : Int32) + ((2 : Int32) * (x1 - 10))) 117 <|
      gI (((105 : Int32) + ((2 : Int32) * (x1 - 10))) + 1) 117 <|
      some (((10 : Int32) * (A.1 1 ((105 : Int32) + ((2 : Int32) * (x1 - 10))).toNatClampNeg)) + (A.1 1 (((105 : Int32) + ((2 : Int32) * (x1 - 10))) + 1).toNatClampNeg), A)
  else
    gI ((113 : Int32) + x1) 117 <|
    some (A.1 1 ((113 : Int32) + x1).toNatClampNeg, A)
abbrev rm_X6_told : Room := { frames := 1, cells := 0, slots := 0, locals := 25 }
set_option maxHeartbeats 4000000 in
set_option maxRecDepth 100000 in
theorem b_X6_told {E : pfE} (X : CX cellsR E cX6_told RX6 rm_X6_told 2) (x1 : Int32) (A : St) {out : Int32 × St} (hQ : Reti cellsR E cX6_told out.1 out.2) (h : f_X6_told x1 A = some out) : GG cellsR E A 0 [(0, .ref (fAd (eF E) 0)), (1, .int x1)] [] := by
  unfold f_X6_told at h
  refine G_iload_n X dX6_told_0 rfl 1 rfl ?_
  refine G_i2l X dX6_told_1 rfl ?_
  refine G_lconst X (v := 0) dX6_told_2 rfl ?_
  refine G_ldc2 X (v := 2) qw906 dX6_told_3 ?_
  obtain ⟨r1, hz2, h⟩ := cl_k h
  refine G_callS_i X (As := [.long x1.toInt64, .long 0, .long 2]) (rest := []) ok_X6_in qw727 ⟨rfl, rfl, Nat.le_of_ble_eq_true rfl, Nat.le_of_ble_eq_true rfl⟩ (m_X6_in X.d hz2) rfl rfl (Nat.le_of_ble_eq_true rfl) dX6_told_6 ?_
  refine G_ifeq X (tgt := 22) dX6_told_9 (by decide) (fun c3 => ?_) (fun c3 => ?_)
  · have h := if_t c3 h
    refine G_iload_n X dX6_told_22 rfl 1 rfl ?_
    refine G_i2l X dX6_told_23 rfl ?_
    refine G_ldc2 X (v := 10) qw907 dX6_told_24 ?_
    refine G_ldc2 X (v := 13) qw908 dX6_told_27 ?_
    obtain ⟨r4, hz5, h⟩ := cl_k h
    refine G_callS_i X (As := [.long x1.toInt64, .long 10, .long 13]) (rest := []) ok_X6_in qw727 ⟨rfl, rfl, Nat.le_of_ble_eq_true rfl, Nat.le_of_ble_eq_true rfl⟩ (m_X6_in X.d hz5) rfl rfl (Nat.le_of_ble_eq_true rfl) dX6_told_30 ?_
    refine G_ifeq X (tgt := 71) dX6_told_33 (by decide) (fun c6 => ?_) (fun c6 => ?_)
    · have h := if_t c6 h
      refine G_iload_n X dX6_told_71 rfl 1 rfl ?_
      refine G_i2l X dX6_told_72 rfl ?_
      refine G_ldc2 X (v := 20) qw731 dX6_told_73 ?_
      refine G_ldc2 X (v := 23) qw909 dX6_told_76 ?_
      obtain ⟨r7, hz8, h⟩ := cl_k h
      refine G_callS_i X (As := [.long x1.toInt64, .long 20, .long 23]) (rest := []) ok_X6_in qw727 ⟨rfl, rfl, Nat.le_of_ble_eq_true rfl, Nat.le_of_ble_eq_true rfl⟩ (m_X6_in X.d hz8) rfl rfl (Nat.le_of_ble_eq_true rfl) dX6_told_79 ?_
      refine G_ifeq X (tgt := 100) dX6_told_82 (by decide) (fun c9 => ?_) (fun c9 => ?_)
      · have h := if_t c9 h
        refine G_iload_n X dX6_told_100 rfl 1 rfl ?_
        refine G_i2l X dX6_told_101 rfl ?_
        refine G_ldc2 X (v := 30) qw910 dX6_told_102 ?_
        refine G_ldc2 X (v := 33) qw911 dX6_told_105 ?_
        obtain ⟨r10, hz11, h⟩ := cl_k h
        refine G_callS_i X (As := [.long x1.toInt64, .long 30, .long 33]) (rest := []) ok_X6_in qw727 ⟨rfl, rfl, Nat.le_of_ble_eq_true rfl, Nat.le_of_ble_eq_true rfl⟩ (m_X6_in X.d hz11) rfl rfl (Nat.le_of_ble_eq_true rfl) dX6_told_108 ?_
        refine G_ifeq X (tgt := 133) dX6_told_111 (by decide) (fun c12 => ?_) (fun c12 => ?_)
        · have h := if_t c12 h
          refine G_aload_n X dX6_told_133 rfl 0 rfl ?_
          refine G_iconst X (v := 0) dX6_told_134 rfl ?_
          obtain ⟨r13, A15, hz14, h⟩ := cl2_k h
          refine G_callV_i X (As := [.int 0]) (rest := []) ok_X6_finds qw737 0 (eR0 _ _ _) rfl rfl ⟨rfl, rfl, Nat.le_of_ble_eq_true rfl, Nat.le_of_ble_eq_true rfl⟩ (m_X6_finds X.d hz14) rfl rfl (Nat.le_of_ble_eq_true rfl) dX6_told_135 ?_
          have e := so h
          subst e
          exact hQ _ _ dX6_told_138
        · have h := if_f c12 h
          refine G_aload_n X dX6_told_114 rfl 0 rfl ?_
          refine G_getf X inX6 0 (eR0 _ _ _) rfl 0 (by decide) qw654 rfl dX6_told_115 ?_
          refine G_bipush X (v := 97) dX6_told_118 rfl ?_
          refine G_iconst X (v := 2) dX6_told_120 rfl ?_
          refine G_iload_n X dX6_told_121 rfl 1 rfl ?_
          refine G_bipush X (v := 30) dX6_told_122 rfl ?_
          refine G_isub X dX6_told_124 ?_
          refine G_imul X dX6_told_125 ?_
          refine G_iadd X dX6_told_126 ?_
          refine G_iconst X (v := 1) dX6_told_127 rfl ?_
          refine G_iadd X dX6_told_128 ?_
          have hi16 := gI_n h
          have h := gI_k h
          refine G_iald X (j := (((97 : Int32) + ((2 : Int32) * (x1 - 30))) + 1).toNatClampNeg) 1 (eR1 _ _ _) hi16 rfl dX6_told_129 ?_
          refine G_goto X (tgt := 138) dX6_told_130 (by decide) ?_
          have e := so h
          subst e
          exact hQ _ _ dX6_told_138
      · have h := if_f c9 h
        refine G_aload_n X dX6_told_85 rfl 0 rfl ?_
        refine G_getf X inX6 0 (eR0 _ _ _) rfl 0 (by decide) qw654 rfl dX6_told_86 ?_
        refine G_bipush X (v := 97) dX6_told_89 rfl ?_
        refine G_iconst X (v := 2) dX6_told_91 rfl ?_
        refine G_iload_n X dX6_told_92 rfl 1 rfl ?_
        refine G_bipush X (v := 20) dX6_told_93 rfl ?_
        refine G_isub X dX6_told_95 ?_
        refine G_imul X dX6_told_96 ?_
        refine G_iadd X dX6_told_97 ?_
        have hi17 := gI_n h
        have h := gI_k h
        refine G_iald X (j := ((97 : Int32) + ((2 : Int32) * (x1 - 20))).toNatClampNeg) 1 (eR1 _ _ _) hi17 rfl dX6_told_98 ?_
        have e := so h
        subst e
        exact hQ _ _ dX6_told_99
    · have h := if_f c6 h
      refine G_bipush X (v := 10) dX6_told_36 rfl ?_
      refine G_aload_n X dX6_told_38 rfl 0 rfl ?_
      refine G_getf X inX6 0 (eR0 _ _ _) rfl 0 (by decide) qw654 rfl dX6_told_39 ?_
      refine G_bipush X (v := 105) dX6_told_42 rfl ?_
      refine G_iconst X (v := 2) dX6_told_44 rfl ?_
      refine G_iload_n X dX6_told_45 rfl 1 rfl ?_
      refine G_bipush X (v := 10) dX6_told_46 rfl ?_
      refine G_isub X dX6_told_48 ?_
      refine G_imul X dX6_told_49 ?_
      refine G_iadd X dX6_told_50 ?_
      have hi18 := gI_n h
      have h := gI_k h
      refine G_iald X (j := ((105 : Int32) + ((2 : Int32) * (x1 - 10))).toNatClampNeg) 1 (eR1 _ _ _) hi18 rfl dX6_told_51 ?_
      refine G_imul X dX6_told_52 ?_
      refine G_aload_n X dX6_told_53 rfl 0 rfl ?_
      refine G_getf X inX6 0 (eR0 _ _ _) rfl 0 (by decide) qw654 rfl dX6_told_54 ?_
      refine G_bipush X (v := 105) dX6_told_57 rfl ?_
      refine G_iconst X (v := 2) dX6_told_59 rfl ?_
      refine G_iload_n X dX6_told_60 rfl 1 rfl ?_
      refine G_bipush X (v := 10) dX6_told_61 rfl ?_
      refine G_isub X dX6_told_63 ?_
      refine G_imul X dX6_told_64 ?_
      refine G_iadd X dX6_told_65 ?_
      refine G_iconst X (v := 1) dX6_told_66 rfl ?_
      refine G_iadd X dX6_told_67 ?_
      have hi19 := gI_n h
      have h := gI_k h
      refine G_iald X (j := (((105 : Int32) + ((2 : Int32) * (x1 - 10))) + 1).toNatClampNeg) 1 (eR1 _ _ _) hi19 rfl dX6_told_68 ?_
      refine G_iadd X dX6_told_69 ?_
      have e := so h
      subst e
      exact hQ _ _ dX6_told_70
  · have h := if_f c3 h
    refine G_aload_n X dX6_told_12 rfl 0 rfl ?_
    refine G_getf X inX6 0 (eR0 _ _ _) rfl 0 (by decide) qw654 rfl dX6_told_13 ?_
    refine G_bipush X (v := 113) dX6_told_16 rfl ?_
    refine G_iload_n X dX6_told_18 rfl 1 rfl ?_
    refine G_iadd X dX6_told_19 ?_
    have hi20 := gI_n h
    have h := gI_k h
    refine G_iald X (j := ((113 : Int32) + x1).toNatClampNeg) 1 (eR1 _ _ _) hi20 rfl dX6_told_20 ?_
    have e := so h
    subst e
    exact hQ _ _ dX6_told_21
theorem m_X6_told {l : Launch} {F : pfF} (hD : ∀ A, va_D (fA F) (cellsR (fAd F) (fCy F) A)) {x1 : Int32} {A : St} {out : Int32 × St} (h : f_X6_told x1 A = some out) : Mt l F cellsR yX6_told cX6_told 2 (some .int) rm_X6_told [.ref (fAd F 0), .int x1] A (va_Qi (fun (r : Int32) (u : St) => r = out.1 ∧ u = out.2) (Wd cellsR F) (fA F)) := by
  refine Met_i (by decide +kernel) (Nat.le_of_ble_eq_true rfl) hD (fun E el ef X hQ => ?_)
  subst el
  subst ef
  exact b_X6_told X _ _ hQ h
theorem ok_X6_told : OkV yX6_told cX6_told 2 (some .int) 1 := ⟨qw903, qw904, qw6, qw905, by decide, by decide, by decide⟩
noncomputable def f_X6_areFresh_L2 (A : St) (l1 : Int32) (l2 : Int32) : Option ((Int32) ⊕ ((Unit) ⊕ (Bool))) :=
  if (A.1 1 0) ≤ l2 then
    some (.inr (.inl ()))
  else
    cl (f_X6_has l1 l2) fun r2 =>
    if (bI r2) = 0 then
      bv (l2 + 1) fun v5 =>
      some (.inl v5)
    else
      cl (f_X6_it l2 6 A) fun r6 =>
      if r6 < (A.1 1 115) then
        bv (l2 + 1) fun v9 =>
        some (.inl v9)
      else
        some (.inr (.inr false))
noncomputable def f_X6_areFresh_X45 (A : St) : Option (Bool) :=
  some true
noncomputable def f_X6_areFresh (x1 : Int32) (A : St) : Option (Bool) :=
  cl (loop (fun s => f_X6_areFresh_L2 A x1 s) 0) (Sum.elim (fun _ => f_X6_areFresh_X45 A) (fun t => some t))
abbrev rm_X6_areFresh : Room := { frames := 1, cells := 0, slots := 0, locals := 22 }
set_option maxHeartbeats 4000000 in
set_option maxRecDepth 100000 in
theorem g_X6_areFresh_L2 {E : pfE} (X : CX cellsR E cX6_areFresh RX6 rm_X6_areFresh 3) (A : St) (l1 : Int32) {out : Bool} (hQ : Reti cellsR E cX6_areFresh (bI out) A) : ∀ (n : Nat) (l2 : Int32) (ρ : (Unit) ⊕ (Bool)), lp (fun s => f_X6_areFresh_L2 A l1 s) n l2 = some ρ → (ρ = .inl () → GG cellsR E A 45 [] []) → (∀ t, ρ = .inr t → t = out) → GG cellsR E A 2 [(0, .ref (fAd (eF E) 0)), (1, .int l1), (2, .int l2)] [] := by
  intro n
  induction n with
  | zero =>
    intro l2 ρ h
    cases h
  | succ n ih =>
    intro l2 ρ h0 K KR
    obtain ⟨x, hb, hx⟩ := lp_step h0
    have h : f_X6_areFresh_L2 A l1 l2 = some x := hb
    unfold f_X6_areFresh_L2 at h
    clear hb h0
    refine G_iload_n X dX6_areFresh_2 rfl 2 rfl ?_
    refine G_aload_n X dX6_areFresh_3 rfl 0 rfl ?_
    refine G_getf X inX6 0 (eR0 _ _ _) rfl 0 (by decide) qw654 rfl dX6_areFresh_4 ?_
    refine G_iconst X (v := 0) dX6_areFresh_7 rfl ?_
    refine G_iald X (j := 0) 1 (eR1 _ _ _) (vi rfl) rfl dX6_areFresh_8 ?_
    refine G_icge X (tgt := 45) dX6_areFresh_9 (by decide) (fun c1 => ?_) (fun c1 => ?_)
    · have h := if_t c1 h
      exact G_sub [] rfl (K (lpr (so h) hx).symm)
    · have h := if_f c1 h
      refine G_iload_n X dX6_areFresh_12 rfl 1 rfl ?_
      refine G_iload_n X dX6_areFresh_13 rfl 2 rfl ?_
      obtain ⟨r2, hz3, h⟩ := cl_k h
      refine G_callS_i X (As := [.int l1, .int l2]) (rest := []) ok_X6_has qw774 ⟨rfl, rfl, Nat.le_of_ble_eq_true rfl, Nat.le_of_ble_eq_true rfl⟩ (m_X6_has X.d hz3) rfl rfl (Nat.le_of_ble_eq_true rfl) dX6_areFresh_14 ?_
      refine G_ifeq X (tgt := 39) dX6_areFresh_17 (by decide) (fun c4 => ?_) (fun c4 => ?_)
      · have h := if_t c4 h
        obtain ⟨v5, ev5⟩ : ∃ y : Int32, y = l2 + 1 := ⟨_, rfl⟩
        have h := bv_k ev5 h
        refine G_iinc X (q := 2) (v := v5) (lv2 := [(2, .int v5), (0, .ref (fAd (eF E) 0)), (1, .int l1)]) dX6_areFresh_39 rfl (by rw [ev5]; rfl) (by decide) rfl ?_
        refine G_goto X (tgt := 2) dX6_areFresh_42 (by decide) ?_
        exact G_sub [1, 2, 0] rfl (ih _ _ (lpl (so h) hx) K KR)
      · have h := if_f c4 h
        refine G_aload_n X dX6_areFresh_20 rfl 0 rfl ?_
        refine G_iload_n X dX6_areFresh_21 rfl 2 rfl ?_
        refine G_bipush X (v := 6) dX6_areFresh_22 rfl ?_
        obtain ⟨r6, hz7, h⟩ := cl_k h
        refine G_callV_i X (As := [.int l2, .int 6]) (rest := []) ok_X6_it qw751 0 (eR0 _ _ _) rfl rfl ⟨rfl, rfl, Nat.le_of_ble_eq_true rfl, Nat.le_of_ble_eq_true rfl⟩ (m_X6_it X.d hz7) rfl rfl (Nat.le_of_ble_eq_true rfl) dX6_areFresh_24 ?_
        refine G_aload_n X dX6_areFresh_27 rfl 0 rfl ?_
        refine G_getf X inX6 0 (eR0 _ _ _) rfl 0 (by decide) qw654 rfl dX6_areFresh_28 ?_
        refine G_bipush X (v := 115) dX6_areFresh_31 rfl ?_
        refine G_iald X (j := 115) 1 (eR1 _ _ _) (vi rfl) rfl dX6_areFresh_33 ?_
        refine G_iclt X (tgt := 39) dX6_areFresh_34 (by decide) (fun c8 => ?_) (fun c8 => ?_)
        · have h := if_t c8 h
          obtain ⟨v9, ev9⟩ : ∃ y : Int32, y = l2 + 1 := ⟨_, rfl⟩
          have h := bv_k ev9 h
          refine G_iinc X (q := 2) (v := v9) (lv2 := [(2, .int v9), (0, .ref (fAd (eF E) 0)), (1, .int l1)]) dX6_areFresh_39 rfl (by rw [ev9]; rfl) (by decide) rfl ?_
          refine G_goto X (tgt := 2) dX6_areFresh_42 (by decide) ?_
          exact G_sub [1, 2, 0] rfl (ih _ _ (lpl (so h) hx) K KR)
        · have h := if_f c8 h
          refine G_iconst X (v := 0) dX6_areFresh_37 rfl ?_
          have e := KR _ (lpr (so h) hx).symm
          subst e
          exact hQ _ _ dX6_areFresh_38
set_option maxHeartbeats 4000000 in
set_option maxRecDepth 100000 in
theorem b_X6_areFresh {E : pfE} (X : CX cellsR E cX6_areFresh RX6 rm_X6_areFresh 3) (x1 : Int32) (A : St) {out : Bool} (hQ : Reti cellsR E cX6_areFresh (bI out) A) (h : f_X6_areFresh x1 A = some out) : GG cellsR E A 0 [(0, .ref (fAd (eF E) 0)), (1, .int x1)] [] := by
  unfold f_X6_areFresh at h
  refine G_iconst X (v := 0) dX6_areFresh_0 rfl ?_
  refine G_istore_n X (lv2 := [(2, .int 0), (0, .ref (fAd (eF E) 0)), (1, .int x1)]) dX6_areFresh_1 rfl (by decide) rfl ?_
  obtain ⟨ρ, hl, h⟩ := cl_k h
  obtain ⟨n, hl⟩ := loop_some hl
  refine G_sub [1, 2, 0] rfl (g_X6_areFresh_L2 X A x1 hQ n _ ρ hl ?_ (fun t e => by subst e; exact so h))
  intro e
  subst e
  have h : f_X6_areFresh_X45 A = some _ := h
  unfold f_X6_areFresh_X45 at h
  refine G_iconst X (v := 1) dX6_areFresh_45 rfl ?_
  have e := so h
  subst e
  exact hQ _ _ dX6_areFresh_46
theorem m_X6_areFresh {l : Launch} {F : pfF} (hD : ∀ A, va_D (fA F) (cellsR (fAd F) (fCy F) A)) {x1 : Int32} {A : St} {out : Bool} (h : f_X6_areFresh x1 A = some out) : Mt l F cellsR yX6_areFresh cX6_areFresh 3 (some .boolean) rm_X6_areFresh [.ref (fAd F 0), .int x1] A (va_Qi (fun (r : Int32) (u : St) => r = bI out ∧ u = A) (Wd cellsR F) (fA F)) := by
  refine Met_iz (by decide +kernel) (Nat.le_of_ble_eq_true rfl) hD (nar_bI _) (fun E el ef X hQ => ?_)
  subst el
  subst ef
  exact b_X6_areFresh X _ _ hQ h
theorem ok_X6_areFresh : OkV yX6_areFresh cX6_areFresh 3 (some .boolean) 1 := ⟨qw945, qs25, qw6, qw946, by decide, by decide, by decide⟩
noncomputable def f_X6_areTexts_L12 (A : St) (l1 : Int32) (l2 : Int32) (l3 : Int32) (l4 : Int32) : Option ((Int32 × Int32) ⊕ (Int32)) :=
  if (A.1 1 0) ≤ l4 then
    some (.inr l3)
  else
    cl (f_X6_has l1 l4) fun r3 =>
    if (bI r3) = 0 then
      bv (l3 + 0) fun v6 =>
      bv (l4 + 1) fun v7 =>
      some (.inl (v6, v7))
    else
      cl (f_X6_it l4 5 A) fun r8 =>
      if r8 = l2 then
        bv (l3 + 1) fun v13 =>
        bv (l4 + 1) fun v14 =>
        some (.inl (v13, v14))
      else
        bv (l3 + 0) fun v11 =>
        bv (l4 + 1) fun v12 =>
        some (.inl (v11, v12))
noncomputable def f_X6_areTexts_X57_2 (A : St) (m1 : Int32) (m2 : Int32) (m3 : Int32) : Option ((Int32) ⊕ ((Unit) ⊕ (Bool))) :=
  if m3 = 1 then
    some (.inr (.inr false))
  else
    bv (m2 + 1) fun v19 =>
    some (.inl v19)
noncomputable def f_X6_areTexts_L2 (A : St) (l1 : Int32) (l2 : Int32) : Option ((Int32) ⊕ ((Unit) ⊕ (Bool))) :=
  if 4 ≤ l2 then
    some (.inr (.inl ()))
  else
    cl (loop (fun s => f_X6_areTexts_L12 A l1 l2 s.1 s.2) (0, 0)) (fun s => f_X6_areTexts_X57_2 A l1 l2 s)
noncomputable def f_X6_areTexts_X70 (A : St) : Option (Bool) :=
  some true
noncomputable def f_X6_areTexts (x1 : Int32) (A : St) : Option (Bool) :=
  cl (loop (fun s => f_X6_areTexts_L2 A x1 s) 0) (Sum.elim (fun _ => f_X6_areTexts_X70 A) (fun t => some t))
abbrev rm_X6_areTexts : Room := { frames := 1, cells := 0, slots := 0, locals := 22 }
set_option maxHeartbeats 4000000 in
set_option maxRecDepth 100000 in
theorem g_X6_areTexts_L12 {E : pfE} (X : CX cellsR E cX6_areTexts RX6 rm_X6_areTexts 5) (A : St) (l1 : Int32) (l2 : Int32) : ∀ (n : Nat) (l3 : Int32) (l4 : Int32) (ρ : Int32), lp (fun s => f_X6_areTexts_L12 A l1 l2 s.1 s.2) n (l3, l4) = some ρ → (∀ (q3 : Int32), ρ = q3 → GG cellsR E A 57 [(0, .ref (fAd (eF E) 0)), (1, .int l1), (2, .int l2), (3, .int q3)] []) → GG cellsR E A 12 [(0, .ref (fAd (eF E) 0)), (1, .int l1), (2, .int l2), (3, .int l3), (4, .int l4)] [] := by
  intro n
  induction n with
  | zero =>
    intro l3 l4 ρ h
    cases h
  | succ n ih =>
    intro l3 l4 ρ h0 K
    obtain ⟨x, hb, hx⟩ := lp_step h0
    have h : f_X6_areTexts_L12 A l1 l2 l3 l4 = some x := hb
    unfold f_X6_areTexts_L12 at h
    clear hb h0
    refine G_iload X dX6_areTexts_12 4 rfl ?_
    refine G_aload_n X dX6_areTexts_14 rfl 0 rfl ?_
    refine G_getf X inX6 0 (eR0 _ _ _) rfl 0 (by decide) qw654 rfl dX6_areTexts_15 ?_
    refine G_iconst X (v := 0) dX6_areTexts_18 rfl ?_
    refine G_iald X (j := 0) 1 (eR1 _ _ _) (vi rfl) rfl dX6_areTexts_19 ?_
    refine G_icge X (tgt := 57) dX6_areTexts_20 (by decide) (fun c2 => ?_) (fun c2 => ?_)
    · have h := if_t c2 h
      exact G_sub [0, 1, 2, 3] rfl (K _ (lpr (so h) hx).symm)
    · have h := if_f c2 h
      refine G_iload_n X dX6_areTexts_23 rfl 3 rfl ?_
      refine G_iload_n X dX6_areTexts_24 rfl 1 rfl ?_
      refine G_iload X dX6_areTexts_25 4 rfl ?_
      obtain ⟨r3, hz4, h⟩ := cl_k h
      refine G_callS_i X (As := [.int l1, .int l4]) (rest := [.int l3]) ok_X6_has qw774 ⟨rfl, rfl, Nat.le_of_ble_eq_true rfl, Nat.le_of_ble_eq_true rfl⟩ (m_X6_has X.d hz4) rfl rfl (Nat.le_of_ble_eq_true rfl) dX6_areTexts_27 ?_
      refine G_ifeq X (tgt := 48) dX6_areTexts_30 (by decide) (fun c5 => ?_) (fun c5 => ?_)
      · have h := if_t c5 h
        refine G_iconst X (v := 0) dX6_areTexts_48 rfl ?_
        refine G_iadd X dX6_areTexts_49 ?_
        refine G_topi (fun v6 ev6 => ?_)
        have h := bv_k ev6 h
        refine G_istore_n X (lv2 := [(3, .int v6), (0, .ref (fAd (eF E) 0)), (1, .int l1), (2, .int l2), (4, .int l4)]) dX6_areTexts_50 rfl (by decide) rfl ?_
        obtain ⟨v7, ev7⟩ : ∃ y : Int32, y = l4 + 1 := ⟨_, rfl⟩
        have h := bv_k ev7 h
        refine G_iinc X (q := 4) (v := v7) (lv2 := [(4, .int v7), (3, .int v6), (0, .ref (fAd (eF E) 0)), (1, .int l1), (2, .int l2)]) dX6_areTexts_51 rfl (by rw [ev7]; rfl) (by decide) rfl ?_
        refine G_goto X (tgt := 12) dX6_areTexts_54 (by decide) ?_
        exact G_sub [2, 3, 4, 1, 0] rfl (ih _ _ _ (lpl (so h) hx) K)
      · have h := if_f c5 h
        refine G_aload_n X dX6_areTexts_33 rfl 0 rfl ?_
        refine G_iload X dX6_areTexts_34 4 rfl ?_
        refine G_iconst X (v := 5) dX6_areTexts_36 rfl ?_
        obtain ⟨r8, hz9, h⟩ := cl_k h
        refine G_callV_i X (As := [.int l4, .int 5]) (rest := [.int l3]) ok_X6_it qw751 0 (eR0 _ _ _) rfl rfl ⟨rfl, rfl, Nat.le_of_ble_eq_true rfl, Nat.le_of_ble_eq_true rfl⟩ (m_X6_it X.d hz9) rfl rfl (Nat.le_of_ble_eq_true rfl) dX6_areTexts_37 ?_
        refine G_iload_n X dX6_areTexts_40 rfl 2 rfl ?_
        refine G_icne X (tgt := 48) dX6_areTexts_41 (by decide) (fun c10 => ?_) (fun c10 => ?_)
        · have h := if_t c10 h
          refine G_iconst X (v := 1) dX6_areTexts_44 rfl ?_
          refine G_goto X (tgt := 49) dX6_areTexts_45 (by decide) ?_
          refine G_iadd X dX6_areTexts_49 ?_
          refine G_topi (fun v13 ev13 => ?_)
          have h := bv_k ev13 h
          refine G_istore_n X (lv2 := [(3, .int v13), (0, .ref (fAd (eF E) 0)), (1, .int l1), (2, .int l2), (4, .int l4)]) dX6_areTexts_50 rfl (by decide) rfl ?_
          obtain ⟨v14, ev14⟩ : ∃ y : Int32, y = l4 + 1 := ⟨_, rfl⟩
          have h := bv_k ev14 h
          refine G_iinc X (q := 4) (v := v14) (lv2 := [(4, .int v14), (3, .int v13), (0, .ref (fAd (eF E) 0)), (1, .int l1), (2, .int l2)]) dX6_areTexts_51 rfl (by rw [ev14]; rfl) (by decide) rfl ?_
          refine G_goto X (tgt := 12) dX6_areTexts_54 (by decide) ?_
          exact G_sub [2, 3, 4, 1, 0] rfl (ih _ _ _ (lpl (so h) hx) K)
        · have h := if_f c10 h
          refine G_iconst X (v := 0) dX6_areTexts_48 rfl ?_
          refine G_iadd X dX6_areTexts_49 ?_
          refine G_topi (fun v11 ev11 => ?_)
          have h := bv_k ev11 h
          refine G_istore_n X (lv2 := [(3, .int v11), (0, .ref (fAd (eF E) 0)), (1, .int l1), (2, .int l2), (4, .int l4)]) dX6_areTexts_50 rfl (by decide) rfl ?_
          obtain ⟨v12, ev12⟩ : ∃ y : Int32, y = l4 + 1 := ⟨_, rfl⟩
          have h := bv_k ev12 h
          refine G_iinc X (q := 4) (v := v12) (lv2 := [(4, .int v12), (3, .int v11), (0, .ref (fAd (eF E) 0)), (1, .int l1), (2, .int l2)]) dX6_areTexts_51 rfl (by rw [ev12]; rfl) (by decide) rfl ?_
          refine G_goto X (tgt := 12) dX6_areTexts_54 (by decide) ?_
          exact G_sub [2, 3, 4, 1, 0] rfl (ih _ _ _ (lpl (so h) hx) K)
set_option maxHeartbeats 4000000 in
set_option maxRecDepth 100000 in
theorem g_X6_areTexts_L2 {E : pfE} (X : CX cellsR E cX6_areTexts RX6 rm_X6_areTexts 5) (A : St) (l1 : Int32) {out : Bool} (hQ : Reti cellsR E cX6_areTexts (bI out) A) : ∀ (n : Nat) (l2 : Int32) (ρ : (Unit) ⊕ (Bool)), lp (fun s => f_X6_areTexts_L2 A l1 s) n l2 = some ρ → (ρ = .inl () → GG cellsR E A 70 [] []) → (∀ t, ρ = .inr t → t = out) → GG cellsR E A 2 [(0, .ref (fAd (eF E) 0)), (1, .int l1), (2, .int l2)] [] := by
  intro n
  induction n with
  | zero =>
    intro l2 ρ h
    cases h
  | succ n ih =>
    intro l2 ρ h0 K KR
    obtain ⟨x, hb, hx⟩ := lp_step h0
    have h : f_X6_areTexts_L2 A l1 l2 = some x := hb
    unfold f_X6_areTexts_L2 at h
    clear hb h0
    refine G_iload_n X dX6_areTexts_2 rfl 2 rfl ?_
    refine G_iconst X (v := 4) dX6_areTexts_3 rfl ?_
    refine G_icge X (tgt := 70) dX6_areTexts_4 (by decide) (fun c1 => ?_) (fun c1 => ?_)
    · have h := if_t c1 h
      exact G_sub [] rfl (K (lpr (so h) hx).symm)
    · have h := if_f c1 h
      refine G_iconst X (v := 0) dX6_areTexts_7 rfl ?_
      refine G_istore_n X (lv2 := [(3, .int 0), (0, .ref (fAd (eF E) 0)), (1, .int l1), (2, .int l2)]) dX6_areTexts_8 rfl (by decide) rfl ?_
      refine G_iconst X (v := 0) dX6_areTexts_9 rfl ?_
      refine G_istore X (lv2 := [(4, .int 0), (3, .int 0), (0, .ref (fAd (eF E) 0)), (1, .int l1), (2, .int l2)]) dX6_areTexts_10 (by decide) rfl ?_
      obtain ⟨ρ, hl, h⟩ := cl_k h
      obtain ⟨n, hl⟩ := loop_some hl
      refine G_sub [2, 3, 4, 1, 0] rfl (g_X6_areTexts_L12 X A l1 l2 n _ _ ρ hl ?_)
      intro v15 e
      rw [e] at h
      have h : f_X6_areTexts_X57_2 A l1 l2 v15 = some _ := h
      unfold f_X6_areTexts_X57_2 at h
      refine G_iload_n X dX6_areTexts_57 rfl 3 rfl ?_
      refine G_iconst X (v := 1) dX6_areTexts_58 rfl ?_
      refine G_icne X (tgt := 64) dX6_areTexts_59 (by decide) (fun c16 => ?_) (fun c16 => ?_)
      · have h := if_t c16 h
        refine G_iconst X (v := 0) dX6_areTexts_62 rfl ?_
        have e := KR _ (lpr (so h) hx).symm
        subst e
        exact hQ _ _ dX6_areTexts_63
      · have h := if_f c16 h
        obtain ⟨v17, ev17⟩ : ∃ y : Int32, y = l2 + 1 := ⟨_, rfl⟩
        have h := bv_k ev17 h
        refine G_iinc X (q := 2) (v := v17) (lv2 := [(2, .int v17), (0, .ref (fAd (eF E) 0)), (1, .int l1), (3, .int v15)]) dX6_areTexts_64 rfl (by rw [ev17]; rfl) (by decide) rfl ?_
        refine G_goto X (tgt := 2) dX6_areTexts_67 (by decide) ?_
        exact G_sub [1, 2, 0] rfl (ih _ _ (lpl (so h) hx) K KR)
set_option maxHeartbeats 4000000 in
set_option maxRecDepth 100000 in
theorem b_X6_areTexts {E : pfE} (X : CX cellsR E cX6_areTexts RX6 rm_X6_areTexts 5) (x1 : Int32) (A : St) {out : Bool} (hQ : Reti cellsR E cX6_areTexts (bI out) A) (h : f_X6_areTexts x1 A = some out) : GG cellsR E A 0 [(0, .ref (fAd (eF E) 0)), (1, .int x1)] [] := by
  unfold f_X6_areTexts at h
  refine G_iconst X (v := 0) dX6_areTexts_0 rfl ?_
  refine G_istore_n X (lv2 := [(2, .int 0), (0, .ref (fAd (eF E) 0)), (1, .int x1)]) dX6_areTexts_1 rfl (by decide) rfl ?_
  obtain ⟨ρ, hl, h⟩ := cl_k h
  obtain ⟨n, hl⟩ := loop_some hl
  refine G_sub [1, 2, 0] rfl (g_X6_areTexts_L2 X A x1 hQ n _ ρ hl ?_ (fun t e => by subst e; exact so h))
  intro e
  subst e
  have h : f_X6_areTexts_X70 A = some _ := h
  unfold f_X6_areTexts_X70 at h
  refine G_iconst X (v := 1) dX6_areTexts_70 rfl ?_
  have e := so h
  subst e
  exact hQ _ _ dX6_areTexts_71
theorem m_X6_areTexts {l : Launch} {F : pfF} (hD : ∀ A, va_D (fA F) (cellsR (fAd F) (fCy F) A)) {x1 : Int32} {A : St} {out : Bool} (h : f_X6_areTexts x1 A = some out) : Mt l F cellsR yX6_areTexts cX6_areTexts 5 (some .boolean) rm_X6_areTexts [.ref (fAd F 0), .int x1] A (va_Qi (fun (r : Int32) (u : St) => r = bI out ∧ u = A) (Wd cellsR F) (fA F)) := by
  refine Met_iz (by decide +kernel) (Nat.le_of_ble_eq_true rfl) hD (nar_bI _) (fun E el ef X hQ => ?_)
  subst el
  subst ef
  exact b_X6_areTexts X _ _ hQ h
theorem ok_X6_areTexts : OkV yX6_areTexts cX6_areTexts 5 (some .boolean) 1 := ⟨qw941, qs24, qw6, qw942, by decide, by decide, by decide⟩
noncomputable def f_X6_areFriends_L2 (A : St) (l1 : Int32) (l2 : Int32) : Option ((Int32) ⊕ ((Unit) ⊕ (Bool))) :=
  if (A.1 1 0) ≤ l2 then
    some (.inr (.inl ()))
  else
    cl (f_X6_has l1 l2) fun r2 =>
    if (bI r2) = 0 then
      bv (l2 + 1) fun v5 =>
      some (.inl v5)
    else
      cl (f_X6_it l2 7 A) fun r6 =>
      if (r6 &&& l1) = 0 then
        bv (l2 + 1) fun v9 =>
        some (.inl v9)
      else
        some (.inr (.inr false))
noncomputable def f_X6_areFriends_X40 (A : St) : Option (Bool) :=
  some true
noncomputable def f_X6_areFriends (x1 : Int32) (A : St) : Option (Bool) :=
  cl (loop (fun s => f_X6_areFriends_L2 A x1 s) 0) (Sum.elim (fun _ => f_X6_areFriends_X40 A) (fun t => some t))
abbrev rm_X6_areFriends : Room := { frames := 1, cells := 0, slots := 0, locals := 22 }
set_option maxHeartbeats 4000000 in
set_option maxRecDepth 100000 in
theorem g_X6_areFriends_L2 {E : pfE} (X : CX cellsR E cX6_areFriends RX6 rm_X6_areFriends 3) (A : St) (l1 : Int32) {out : Bool} (hQ : Reti cellsR E cX6_areFriends (bI out) A) : ∀ (n : Nat) (l2 : Int32) (ρ : (Unit) ⊕ (Bool)), lp (fun s => f_X6_areFriends_L2 A l1 s) n l2 = some ρ → (ρ = .inl () → GG cellsR E A 40 [] []) → (∀ t, ρ = .inr t → t = out) → GG cellsR E A 2 [(0, .ref (fAd (eF E) 0)), (1, .int l1), (2, .int l2)] [] := by
  intro n
  induction n with
  | zero =>
    intro l2 ρ h
    cases h
  | succ n ih =>
    intro l2 ρ h0 K KR
    obtain ⟨x, hb, hx⟩ := lp_step h0
    have h : f_X6_areFriends_L2 A l1 l2 = some x := hb
    unfold f_X6_areFriends_L2 at h
    clear hb h0
    refine G_iload_n X dX6_areFriends_2 rfl 2 rfl ?_
    refine G_aload_n X dX6_areFriends_3 rfl 0 rfl ?_
    refine G_getf X inX6 0 (eR0 _ _ _) rfl 0 (by decide) qw654 rfl dX6_areFriends_4 ?_
    refine G_iconst X (v := 0) dX6_areFriends_7 rfl ?_
    refine G_iald X (j := 0) 1 (eR1 _ _ _) (vi rfl) rfl dX6_areFriends_8 ?_
    refine G_icge X (tgt := 40) dX6_areFriends_9 (by decide) (fun c1 => ?_) (fun c1 => ?_)
    · have h := if_t c1 h
      exact G_sub [] rfl (K (lpr (so h) hx).symm)
    · have h := if_f c1 h
      refine G_iload_n X dX6_areFriends_12 rfl 1 rfl ?_
      refine G_iload_n X dX6_areFriends_13 rfl 2 rfl ?_
      obtain ⟨r2, hz3, h⟩ := cl_k h
      refine G_callS_i X (As := [.int l1, .int l2]) (rest := []) ok_X6_has qw774 ⟨rfl, rfl, Nat.le_of_ble_eq_true rfl, Nat.le_of_ble_eq_true rfl⟩ (m_X6_has X.d hz3) rfl rfl (Nat.le_of_ble_eq_true rfl) dX6_areFriends_14 ?_
      refine G_ifeq X (tgt := 34) dX6_areFriends_17 (by decide) (fun c4 => ?_) (fun c4 => ?_)
      · have h := if_t c4 h
        obtain ⟨v5, ev5⟩ : ∃ y : Int32, y = l2 + 1 := ⟨_, rfl⟩
        have h := bv_k ev5 h
        refine G_iinc X (q := 2) (v := v5) (lv2 := [(2, .int v5), (0, .ref (fAd (eF E) 0)), (1, .int l1)]) dX6_areFriends_34 rfl (by rw [ev5]; rfl) (by decide) rfl ?_
        refine G_goto X (tgt := 2) dX6_areFriends_37 (by decide) ?_
        exact G_sub [1, 2, 0] rfl (ih _ _ (lpl (so h) hx) K KR)
      · have h := if_f c4 h
        refine G_aload_n X dX6_areFriends_20 rfl 0 rfl ?_
        refine G_iload_n X dX6_areFriends_21 rfl 2 rfl ?_
        refine G_bipush X (v := 7) dX6_areFriends_22 rfl ?_
        obtain ⟨r6, hz7, h⟩ := cl_k h
        refine G_callV_i X (As := [.int l2, .int 7]) (rest := []) ok_X6_it qw751 0 (eR0 _ _ _) rfl rfl ⟨rfl, rfl, Nat.le_of_ble_eq_true rfl, Nat.le_of_ble_eq_true rfl⟩ (m_X6_it X.d hz7) rfl rfl (Nat.le_of_ble_eq_true rfl) dX6_areFriends_24 ?_
        refine G_iload_n X dX6_areFriends_27 rfl 1 rfl ?_
        refine G_iand X dX6_areFriends_28 ?_
        refine G_ifeq X (tgt := 34) dX6_areFriends_29 (by decide) (fun c8 => ?_) (fun c8 => ?_)
        · have h := if_t c8 h
          obtain ⟨v9, ev9⟩ : ∃ y : Int32, y = l2 + 1 := ⟨_, rfl⟩
          have h := bv_k ev9 h
          refine G_iinc X (q := 2) (v := v9) (lv2 := [(2, .int v9), (0, .ref (fAd (eF E) 0)), (1, .int l1)]) dX6_areFriends_34 rfl (by rw [ev9]; rfl) (by decide) rfl ?_
          refine G_goto X (tgt := 2) dX6_areFriends_37 (by decide) ?_
          exact G_sub [1, 2, 0] rfl (ih _ _ (lpl (so h) hx) K KR)
        · have h := if_f c8 h
          refine G_iconst X (v := 0) dX6_areFriends_32 rfl ?_
          have e := KR _ (lpr (so h) hx).symm
          subst e
          exact hQ _ _ dX6_areFriends_33
set_option maxHeartbeats 4000000 in
set_option maxRecDepth 100000 in
theorem b_X6_areFriends {E : pfE} (X : CX cellsR E cX6_areFriends RX6 rm_X6_areFriends 3) (x1 : Int32) (A : St) {out : Bool} (hQ : Reti cellsR E cX6_areFriends (bI out) A) (h : f_X6_areFriends x1 A = some out) : GG cellsR E A 0 [(0, .ref (fAd (eF E) 0)), (1, .int x1)] [] := by
  unfold f_X6_areFriends at h
  refine G_iconst X (v := 0) dX6_areFriends_0 rfl ?_
  refine G_istore_n X (lv2 := [(2, .int 0), (0, .ref (fAd (eF E) 0)), (1, .int x1)]) dX6_areFriends_1 rfl (by decide) rfl ?_
  obtain ⟨ρ, hl, h⟩ := cl_k h
  obtain ⟨n, hl⟩ := loop_some hl
  refine G_sub [1, 2, 0] rfl (g_X6_areFriends_L2 X A x1 hQ n _ ρ hl ?_ (fun t e => by subst e; exact so h))
  intro e
  subst e
  have h : f_X6_areFriends_X40 A = some _ := h
  unfold f_X6_areFriends_X40 at h
  refine G_iconst X (v := 1) dX6_areFriends_40 rfl ?_
  have e := so h
  subst e
  exact hQ _ _ dX6_areFriends_41
theorem m_X6_areFriends {l : Launch} {F : pfF} (hD : ∀ A, va_D (fA F) (cellsR (fAd F) (fCy F) A)) {x1 : Int32} {A : St} {out : Bool} (h : f_X6_areFriends x1 A = some out) : Mt l F cellsR yX6_areFriends cX6_areFriends 3 (some .boolean) rm_X6_areFriends [.ref (fAd F 0), .int x1] A (va_Qi (fun (r : Int32) (u : St) => r = bI out ∧ u = A) (Wd cellsR F) (fA F)) := by
  refine Met_iz (by decide +kernel) (Nat.le_of_ble_eq_true rfl) hD (nar_bI _) (fun E el ef X hQ => ?_)
  subst el
  subst ef
  exact b_X6_areFriends X _ _ hQ h
theorem ok_X6_areFriends : OkV yX6_areFriends cX6_areFriends 3 (some .boolean) 1 := ⟨qw937, qs23, qw6, qw938, by decide, by decide, by decide⟩
noncomputable def f_X6_minutesOf_L4 (A : St) (l1 : Int32) (l2 : Int32) (l3 : Int32) : Option ((Int32 × Int32) ⊕ (Int32)) :=
  if (A.1 1 0) ≤ l3 then
    some (.inr l2)
  else
    cl (f_X6_has l1 l3) fun r2 =>
    if (bI r2) = 0 then
      bv (l2 + 0) fun v5 =>
      bv (l3 + 1) fun v6 =>
      some (.inl (v5, v6))
    else
      cl (f_X6_it l3 2 A) fun r7 =>
      bv (l2 + r7) fun v9 =>
      bv (l3 + 1) fun v10 =>
      some (.inl (v9, v10))
noncomputable def f_X6_minutesOf_X41 (A : St) (m2 : Int32) : Option (Int32) :=
  some m2
noncomputable def f_X6_minutesOf (x1 : Int32) (A : St) : Option (Int32) :=
  cl (loop (fun s => f_X6_minutesOf_L4 A x1 s.1 s.2) (0, 0)) (fun s => f_X6_minutesOf_X41 A s)
abbrev rm_X6_minutesOf : Room := { frames := 1, cells := 0, slots := 0, locals := 22 }
set_option maxHeartbeats 4000000 in
set_option maxRecDepth 100000 in
theorem g_X6_minutesOf_L4 {E : pfE} (X : CX cellsR E cX6_minutesOf RX6 rm_X6_minutesOf 4) (A : St) (l1 : Int32) : ∀ (n : Nat) (l2 : Int32) (l3 : Int32) (ρ : Int32), lp (fun s => f_X6_minutesOf_L4 A l1 s.1 s.2) n (l2, l3) = some ρ → (∀ (q2 : Int32), ρ = q2 → GG cellsR E A 41 [(2, .int q2)] []) → GG cellsR E A 4 [(0, .ref (fAd (eF E) 0)), (1, .int l1), (2, .int l2), (3, .int l3)] [] := by
  intro n
  induction n with
  | zero =>
    intro l2 l3 ρ h
    cases h
  | succ n ih =>
    intro l2 l3 ρ h0 K
    obtain ⟨x, hb, hx⟩ := lp_step h0
    have h : f_X6_minutesOf_L4 A l1 l2 l3 = some x := hb
    unfold f_X6_minutesOf_L4 at h
    clear hb h0
    refine G_iload_n X dX6_minutesOf_4 rfl 3 rfl ?_
    refine G_aload_n X dX6_minutesOf_5 rfl 0 rfl ?_
    refine G_getf X inX6 0 (eR0 _ _ _) rfl 0 (by decide) qw654 rfl dX6_minutesOf_6 ?_
    refine G_iconst X (v := 0) dX6_minutesOf_9 rfl ?_
    refine G_iald X (j := 0) 1 (eR1 _ _ _) (vi rfl) rfl dX6_minutesOf_10 ?_
    refine G_icge X (tgt := 41) dX6_minutesOf_11 (by decide) (fun c1 => ?_) (fun c1 => ?_)
    · have h := if_t c1 h
      exact G_sub [2] rfl (K _ (lpr (so h) hx).symm)
    · have h := if_f c1 h
      refine G_iload_n X dX6_minutesOf_14 rfl 2 rfl ?_
      refine G_iload_n X dX6_minutesOf_15 rfl 1 rfl ?_
      refine G_iload_n X dX6_minutesOf_16 rfl 3 rfl ?_
      obtain ⟨r2, hz3, h⟩ := cl_k h
      refine G_callS_i X (As := [.int l1, .int l3]) (rest := [.int l2]) ok_X6_has qw774 ⟨rfl, rfl, Nat.le_of_ble_eq_true rfl, Nat.le_of_ble_eq_true rfl⟩ (m_X6_has X.d hz3) rfl rfl (Nat.le_of_ble_eq_true rfl) dX6_minutesOf_17 ?_
      refine G_ifeq X (tgt := 32) dX6_minutesOf_20 (by decide) (fun c4 => ?_) (fun c4 => ?_)
      · have h := if_t c4 h
        refine G_iconst X (v := 0) dX6_minutesOf_32 rfl ?_
        refine G_iadd X dX6_minutesOf_33 ?_
        refine G_topi (fun v5 ev5 => ?_)
        have h := bv_k ev5 h
        refine G_istore_n X (lv2 := [(2, .int v5), (0, .ref (fAd (eF E) 0)), (1, .int l1), (3, .int l3)]) dX6_minutesOf_34 rfl (by decide) rfl ?_
        obtain ⟨v6, ev6⟩ : ∃ y : Int32, y = l3 + 1 := ⟨_, rfl⟩
        have h := bv_k ev6 h
        refine G_iinc X (q := 3) (v := v6) (lv2 := [(3, .int v6), (2, .int v5), (0, .ref (fAd (eF E) 0)), (1, .int l1)]) dX6_minutesOf_35 rfl (by rw [ev6]; rfl) (by decide) rfl ?_
        refine G_goto X (tgt := 4) dX6_minutesOf_38 (by decide) ?_
        exact G_sub [2, 3, 1, 0] rfl (ih _ _ _ (lpl (so h) hx) K)
      · have h := if_f c4 h
        refine G_aload_n X dX6_minutesOf_23 rfl 0 rfl ?_
        refine G_iload_n X dX6_minutesOf_24 rfl 3 rfl ?_
        refine G_iconst X (v := 2) dX6_minutesOf_25 rfl ?_
        obtain ⟨r7, hz8, h⟩ := cl_k h
        refine G_callV_i X (As := [.int l3, .int 2]) (rest := [.int l2]) ok_X6_it qw751 0 (eR0 _ _ _) rfl rfl ⟨rfl, rfl, Nat.le_of_ble_eq_true rfl, Nat.le_of_ble_eq_true rfl⟩ (m_X6_it X.d hz8) rfl rfl (Nat.le_of_ble_eq_true rfl) dX6_minutesOf_26 ?_
        refine G_goto X (tgt := 33) dX6_minutesOf_29 (by decide) ?_
        refine G_iadd X dX6_minutesOf_33 ?_
        refine G_topi (fun v9 ev9 => ?_)
        have h := bv_k ev9 h
        refine G_istore_n X (lv2 := [(2, .int v9), (0, .ref (fAd (eF E) 0)), (1, .int l1), (3, .int l3)]) dX6_minutesOf_34 rfl (by decide) rfl ?_
        obtain ⟨v10, ev10⟩ : ∃ y : Int32, y = l3 + 1 := ⟨_, rfl⟩
        have h := bv_k ev10 h
        refine G_iinc X (q := 3) (v := v10) (lv2 := [(3, .int v10), (2, .int v9), (0, .ref (fAd (eF E) 0)), (1, .int l1)]) dX6_minutesOf_35 rfl (by rw [ev10]; rfl) (by decide) rfl ?_
        refine G_goto X (tgt := 4) dX6_minutesOf_38 (by decide) ?_
        exact G_sub [2, 3, 1, 0] rfl (ih _ _ _ (lpl (so h) hx) K)
set_option maxHeartbeats 4000000 in
set_option maxRecDepth 100000 in
theorem b_X6_minutesOf {E : pfE} (X : CX cellsR E cX6_minutesOf RX6 rm_X6_minutesOf 4) (x1 : Int32) (A : St) {out : Int32} (hQ : Reti cellsR E cX6_minutesOf out A) (h : f_X6_minutesOf x1 A = some out) : GG cellsR E A 0 [(0, .ref (fAd (eF E) 0)), (1, .int x1)] [] := by
  unfold f_X6_minutesOf at h
  refine G_iconst X (v := 0) dX6_minutesOf_0 rfl ?_
  refine G_istore_n X (lv2 := [(2, .int 0), (0, .ref (fAd (eF E) 0)), (1, .int x1)]) dX6_minutesOf_1 rfl (by decide) rfl ?_
  refine G_iconst X (v := 0) dX6_minutesOf_2 rfl ?_
  refine G_istore_n X (lv2 := [(3, .int 0), (2, .int 0), (0, .ref (fAd (eF E) 0)), (1, .int x1)]) dX6_minutesOf_3 rfl (by decide) rfl ?_
  obtain ⟨ρ, hl, h⟩ := cl_k h
  obtain ⟨n, hl⟩ := loop_some hl
  refine G_sub [2, 3, 1, 0] rfl (g_X6_minutesOf_L4 X A x1 n _ _ ρ hl ?_)
  intro v11 e
  rw [e] at h
  have h : f_X6_minutesOf_X41 A v11 = some _ := h
  unfold f_X6_minutesOf_X41 at h
  refine G_iload_n X dX6_minutesOf_41 rfl 0 rfl ?_
  have e := so h
  subst e
  exact hQ _ _ dX6_minutesOf_42
theorem m_X6_minutesOf {l : Launch} {F : pfF} (hD : ∀ A, va_D (fA F) (cellsR (fAd F) (fCy F) A)) {x1 : Int32} {A : St} {out : Int32} (h : f_X6_minutesOf x1 A = some out) : Mt l F cellsR yX6_minutesOf cX6_minutesOf 4 (some .int) rm_X6_minutesOf [.ref (fAd F 0), .int x1] A (va_Qi (fun (r : Int32) (u : St) => r = out ∧ u = A) (Wd cellsR F) (fA F)) := by
  refine Met_i (by decide +kernel) (Nat.le_of_ble_eq_true rfl) hD (fun E el ef X hQ => ?_)
  subst el
  subst ef
  exact b_X6_minutesOf X _ _ hQ h
theorem ok_X6_minutesOf : OkV yX6_minutesOf cX6_minutesOf 4 (some .int) 1 := ⟨qw933, qs22, qw6, qw934, by decide, by decide, by decide⟩
noncomputable def f_X6_areTopics_L12 (A : St) (l1 : Int32) (l2 : Int32) (l3 : Int32) (l4 : Int32) : Option ((Int32 × Int32) ⊕ (Int32)) :=
  if (A.1 1 0) ≤ l4 then
    some (.inr l3)
  else
    cl (f_X6_has l1 l4) fun r3 =>
    if (bI r3) = 0 then
      bv (l3 + 0) fun v6 =>
      bv (l4 + 1) fun v7 =>
      some (.inl (v6, v7))
    else
      cl (f_X6_it l4 1 A) fun r8 =>
      if r8 = l2 then
        bv (l3 + 1) fun v13 =>
        bv (l4 + 1) fun v14 =>
        some (.inl (v13, v14))
      else
        bv (l3 + 0) fun v11 =>
        bv (l4 + 1) fun v12 =>
        some (.inl (v11, v12))
noncomputable def f_X6_areTopics_X57_2 (A : St) (m1 : Int32) (m2 : Int32) (m3 : Int32) : Option ((Int32) ⊕ ((Unit) ⊕ (Bool))) :=
  gI ((105 : Int32) + ((2 : Int32) * m2)) 117 <|
  gI (((105 : Int32) + ((2 : Int32) * m2)) + 1) 117 <|
  cl (f_X6_in m3.toInt64 ((A.1 1 ((105 : Int32) + ((2 : Int32) * m2)).toNatClampNeg).toInt64) ((A.1 1 (((105 : Int32) + ((2 : Int32) * m2)) + 1).toNatClampNeg).toInt64)) fun r24 =>
  if (bI r24) = 0 then
    some (.inr (.inr false))
  else
    bv (m2 + 1) fun v27 =>
    some (.inl v27)
noncomputable def f_X6_areTopics_L2 (A : St) (l1 : Int32) (l2 : Int32) : Option ((Int32) ⊕ ((Unit) ⊕ (Bool))) :=
  if 4 ≤ l2 then
    some (.inr (.inl ()))
  else
    cl (loop (fun s => f_X6_areTopics_L12 A l1 l2 s.1 s.2) (0, 0)) (fun s => f_X6_areTopics_X57_2 A l1 l2 s)
noncomputable def f_X6_areTopics_X99 (A : St) : Option (Bool) :=
  some true
noncomputable def f_X6_areTopics (x1 : Int32) (A : St) : Option (Bool) :=
  cl (loop (fun s => f_X6_areTopics_L2 A x1 s) 0) (Sum.elim (fun _ => f_X6_areTopics_X99 A) (fun t => some t))
abbrev rm_X6_areTopics : Room := { frames := 1, cells := 0, slots := 0, locals := 25 }
set_option maxHeartbeats 4000000 in
set_option maxRecDepth 100000 in
theorem g_X6_areTopics_L12 {E : pfE} (X : CX cellsR E cX6_areTopics RX6 rm_X6_areTopics 5) (A : St) (l1 : Int32) (l2 : Int32) : ∀ (n : Nat) (l3 : Int32) (l4 : Int32) (ρ : Int32), lp (fun s => f_X6_areTopics_L12 A l1 l2 s.1 s.2) n (l3, l4) = some ρ → (∀ (q3 : Int32), ρ = q3 → GG cellsR E A 57 [(0, .ref (fAd (eF E) 0)), (1, .int l1), (2, .int l2), (3, .int q3)] []) → GG cellsR E A 12 [(0, .ref (fAd (eF E) 0)), (1, .int l1), (2, .int l2), (3, .int l3), (4, .int l4)] [] := by
  intro n
  induction n with
  | zero =>
    intro l3 l4 ρ h
    cases h
  | succ n ih =>
    intro l3 l4 ρ h0 K
    obtain ⟨x, hb, hx⟩ := lp_step h0
    have h : f_X6_areTopics_L12 A l1 l2 l3 l4 = some x := hb
    unfold f_X6_areTopics_L12 at h
    clear hb h0
    refine G_iload X dX6_areTopics_12 4 rfl ?_
    refine G_aload_n X dX6_areTopics_14 rfl 0 rfl ?_
    refine G_getf X inX6 0 (eR0 _ _ _) rfl 0 (by decide) qw654 rfl dX6_areTopics_15 ?_
    refine G_iconst X (v := 0) dX6_areTopics_18 rfl ?_
    refine G_iald X (j := 0) 1 (eR1 _ _ _) (vi rfl) rfl dX6_areTopics_19 ?_
    refine G_icge X (tgt := 57) dX6_areTopics_20 (by decide) (fun c2 => ?_) (fun c2 => ?_)
    · have h := if_t c2 h
      exact G_sub [0, 1, 2, 3] rfl (K _ (lpr (so h) hx).symm)
    · have h := if_f c2 h
      refine G_iload_n X dX6_areTopics_23 rfl 3 rfl ?_
      refine G_iload_n X dX6_areTopics_24 rfl 1 rfl ?_
      refine G_iload X dX6_areTopics_25 4 rfl ?_
      obtain ⟨r3, hz4, h⟩ := cl_k h
      refine G_callS_i X (As := [.int l1, .int l4]) (rest := [.int l3]) ok_X6_has qw774 ⟨rfl, rfl, Nat.le_of_ble_eq_true rfl, Nat.le_of_ble_eq_true rfl⟩ (m_X6_has X.d hz4) rfl rfl (Nat.le_of_ble_eq_true rfl) dX6_areTopics_27 ?_
      refine G_ifeq X (tgt := 48) dX6_areTopics_30 (by decide) (fun c5 => ?_) (fun c5 => ?_)
      · have h := if_t c5 h
        refine G_iconst X (v := 0) dX6_areTopics_48 rfl ?_
        refine G_iadd X dX6_areTopics_49 ?_
        refine G_topi (fun v6 ev6 => ?_)
        have h := bv_k ev6 h
        refine G_istore_n X (lv2 := [(3, .int v6), (0, .ref (fAd (eF E) 0)), (1, .int l1), (2, .int l2), (4, .int l4)]) dX6_areTopics_50 rfl (by decide) rfl ?_
        obtain ⟨v7, ev7⟩ : ∃ y : Int32, y = l4 + 1 := ⟨_, rfl⟩
        have h := bv_k ev7 h
        refine G_iinc X (q := 4) (v := v7) (lv2 := [(4, .int v7), (3, .int v6), (0, .ref (fAd (eF E) 0)), (1, .int l1), (2, .int l2)]) dX6_areTopics_51 rfl (by rw [ev7]; rfl) (by decide) rfl ?_
        refine G_goto X (tgt := 12) dX6_areTopics_54 (by decide) ?_
        exact G_sub [2, 3, 4, 1, 0] rfl (ih _ _ _ (lpl (so h) hx) K)
      · have h := if_f c5 h
        refine G_aload_n X dX6_areTopics_33 rfl 0 rfl ?_
        refine G_iload X dX6_areTopics_34 4 rfl ?_
        refine G_iconst X (v := 1) dX6_areTopics_36 rfl ?_
        obtain ⟨r8, hz9, h⟩ := cl_k h
        refine G_callV_i X (As := [.int l4, .int 1]) (rest := [.int l3]) ok_X6_it qw751 0 (eR0 _ _ _) rfl rfl ⟨rfl, rfl, Nat.le_of_ble_eq_true rfl, Nat.le_of_ble_eq_true rfl⟩ (m_X6_it X.d hz9) rfl rfl (Nat.le_of_ble_eq_true rfl) dX6_areTopics_37 ?_
        refine G_iload_n X dX6_areTopics_40 rfl 2 rfl ?_
        refine G_icne X (tgt := 48) dX6_areTopics_41 (by decide) (fun c10 => ?_) (fun c10 => ?_)
        · have h := if_t c10 h
          refine G_iconst X (v := 1) dX6_areTopics_44 rfl ?_
          refine G_goto X (tgt := 49) dX6_areTopics_45 (by decide) ?_
          refine G_iadd X dX6_areTopics_49 ?_
          refine G_topi (fun v13 ev13 => ?_)
          have h := bv_k ev13 h
          refine G_istore_n X (lv2 := [(3, .int v13), (0, .ref (fAd (eF E) 0)), (1, .int l1), (2, .int l2), (4, .int l4)]) dX6_areTopics_50 rfl (by decide) rfl ?_
          obtain ⟨v14, ev14⟩ : ∃ y : Int32, y = l4 + 1 := ⟨_, rfl⟩
          have h := bv_k ev14 h
          refine G_iinc X (q := 4) (v := v14) (lv2 := [(4, .int v14), (3, .int v13), (0, .ref (fAd (eF E) 0)), (1, .int l1), (2, .int l2)]) dX6_areTopics_51 rfl (by rw [ev14]; rfl) (by decide) rfl ?_
          refine G_goto X (tgt := 12) dX6_areTopics_54 (by decide) ?_
          exact G_sub [2, 3, 4, 1, 0] rfl (ih _ _ _ (lpl (so h) hx) K)
        · have h := if_f c10 h
          refine G_iconst X (v := 0) dX6_areTopics_48 rfl ?_
          refine G_iadd X dX6_areTopics_49 ?_
          refine G_topi (fun v11 ev11 => ?_)
          have h := bv_k ev11 h
          refine G_istore_n X (lv2 := [(3, .int v11), (0, .ref (fAd (eF E) 0)), (1, .int l1), (2, .int l2), (4, .int l4)]) dX6_areTopics_50 rfl (by decide) rfl ?_
          obtain ⟨v12, ev12⟩ : ∃ y : Int32, y = l4 + 1 := ⟨_, rfl⟩
          have h := bv_k ev12 h
          refine G_iinc X (q := 4) (v := v12) (lv2 := [(4, .int v12), (3, .int v11), (0, .ref (fAd (eF E) 0)), (1, .int l1), (2, .int l2)]) dX6_areTopics_51 rfl (by rw [ev12]; rfl) (by decide) rfl ?_
          refine G_goto X (tgt := 12) dX6_areTopics_54 (by decide) ?_
          exact G_sub [2, 3, 4, 1, 0] rfl (ih _ _ _ (lpl (so h) hx) K)
set_option maxHeartbeats 4000000 in
set_option maxRecDepth 100000 in
theorem g_X6_areTopics_L2 {E : pfE} (X : CX cellsR E cX6_areTopics RX6 rm_X6_areTopics 5) (A : St) (l1 : Int32) {out : Bool} (hQ : Reti cellsR E cX6_areTopics (bI out) A) : ∀ (n : Nat) (l2 : Int32) (ρ : (Unit) ⊕ (Bool)), lp (fun s => f_X6_areTopics_L2 A l1 s) n l2 = some ρ → (ρ = .inl () → GG cellsR E A 99 [] []) → (∀ t, ρ = .inr t → t = out) → GG cellsR E A 2 [(0, .ref (fAd (eF E) 0)), (1, .int l1), (2, .int l2)] [] := by
  intro n
  induction n with
  | zero =>
    intro l2 ρ h
    cases h
  | succ n ih =>
    intro l2 ρ h0 K KR
    obtain ⟨x, hb, hx⟩ := lp_step h0
    have h : f_X6_areTopics_L2 A l1 l2 = some x := hb
    unfold f_X6_areTopics_L2 at h
    clear hb h0
    refine G_iload_n X dX6_areTopics_2 rfl 2 rfl ?_
    refine G_iconst X (v := 4) dX6_areTopics_3 rfl ?_
    refine G_icge X (tgt := 99) dX6_areTopics_4 (by decide) (fun c1 => ?_) (fun c1 => ?_)
    · have h := if_t c1 h
      exact G_sub [] rfl (K (lpr (so h) hx).symm)
    · have h := if_f c1 h
      refine G_iconst X (v := 0) dX6_areTopics_7 rfl ?_
      refine G_istore_n X (lv2 := [(3, .int 0), (0, .ref (fAd (eF E) 0)), (1, .int l1), (2, .int l2)]) dX6_areTopics_8 rfl (by decide) rfl ?_
      refine G_iconst X (v := 0) dX6_areTopics_9 rfl ?_
      refine G_istore X (lv2 := [(4, .int 0), (3, .int 0), (0, .ref (fAd (eF E) 0)), (1, .int l1), (2, .int l2)]) dX6_areTopics_10 (by decide) rfl ?_
      obtain ⟨ρ, hl, h⟩ := cl_k h
      obtain ⟨n, hl⟩ := loop_some hl
      refine G_sub [2, 3, 4, 1, 0] rfl (g_X6_areTopics_L12 X A l1 l2 n _ _ ρ hl ?_)
      intro v15 e
      rw [e] at h
      have h : f_X6_areTopics_X57_2 A l1 l2 v15 = some _ := h
      unfold f_X6_areTopics_X57_2 at h
      refine G_iload_n X dX6_areTopics_57 rfl 3 rfl ?_
      refine G_i2l X dX6_areTopics_58 rfl ?_
      refine G_aload_n X dX6_areTopics_59 rfl 0 rfl ?_
      refine G_getf X inX6 0 (eR0 _ _ _) rfl 0 (by decide) qw654 rfl dX6_areTopics_60 ?_
      refine G_bipush X (v := 105) dX6_areTopics_63 rfl ?_
      refine G_iconst X (v := 2) dX6_areTopics_65 rfl ?_
      refine G_iload_n X dX6_areTopics_66 rfl 2 rfl ?_
      refine G_imul X dX6_areTopics_67 ?_
      refine G_iadd X dX6_areTopics_68 ?_
      have hi16 := gI_n h
      have h := gI_k h
      refine G_iald X (j := ((105 : Int32) + ((2 : Int32) * l2)).toNatClampNeg) 1 (eR1 _ _ _) hi16 rfl dX6_areTopics_69 ?_
      refine G_i2l X dX6_areTopics_70 rfl ?_
      refine G_aload_n X dX6_areTopics_71 rfl 0 rfl ?_
      refine G_getf X inX6 0 (eR0 _ _ _) rfl 0 (by decide) qw654 rfl dX6_areTopics_72 ?_
      refine G_bipush X (v := 105) dX6_areTopics_75 rfl ?_
      refine G_iconst X (v := 2) dX6_areTopics_77 rfl ?_
      refine G_iload_n X dX6_areTopics_78 rfl 2 rfl ?_
      refine G_imul X dX6_areTopics_79 ?_
      refine G_iadd X dX6_areTopics_80 ?_
      refine G_iconst X (v := 1) dX6_areTopics_81 rfl ?_
      refine G_iadd X dX6_areTopics_82 ?_
      have hi17 := gI_n h
      have h := gI_k h
      refine G_iald X (j := (((105 : Int32) + ((2 : Int32) * l2)) + 1).toNatClampNeg) 1 (eR1 _ _ _) hi17 rfl dX6_areTopics_83 ?_
      refine G_i2l X dX6_areTopics_84 rfl ?_
      obtain ⟨r18, hz19, h⟩ := cl_k h
      refine G_callS_i X (As := [.long v15.toInt64, .long ((A.1 1 ((105 : Int32) + ((2 : Int32) * l2)).toNatClampNeg).toInt64), .long ((A.1 1 (((105 : Int32) + ((2 : Int32) * l2)) + 1).toNatClampNeg).toInt64)]) (rest := []) ok_X6_in qw727 ⟨rfl, rfl, Nat.le_of_ble_eq_true rfl, Nat.le_of_ble_eq_true rfl⟩ (m_X6_in X.d hz19) rfl rfl (Nat.le_of_ble_eq_true rfl) dX6_areTopics_85 ?_
      refine G_ifne X (tgt := 93) dX6_areTopics_88 (by decide) (fun c20 => ?_) (fun c20 => ?_)
      · have h := if_t c20 h
        refine G_iconst X (v := 0) dX6_areTopics_91 rfl ?_
        have e := KR _ (lpr (so h) hx).symm
        subst e
        exact hQ _ _ dX6_areTopics_92
      · have h := if_f c20 h
        obtain ⟨v21, ev21⟩ : ∃ y : Int32, y = l2 + 1 := ⟨_, rfl⟩
        have h := bv_k ev21 h
        refine G_iinc X (q := 2) (v := v21) (lv2 := [(2, .int v21), (0, .ref (fAd (eF E) 0)), (1, .int l1), (3, .int v15)]) dX6_areTopics_93 rfl (by rw [ev21]; rfl) (by decide) rfl ?_
        refine G_goto X (tgt := 2) dX6_areTopics_96 (by decide) ?_
        exact G_sub [1, 2, 0] rfl (ih _ _ (lpl (so h) hx) K KR)
set_option maxHeartbeats 4000000 in
set_option maxRecDepth 100000 in
theorem b_X6_areTopics {E : pfE} (X : CX cellsR E cX6_areTopics RX6 rm_X6_areTopics 5) (x1 : Int32) (A : St) {out : Bool} (hQ : Reti cellsR E cX6_areTopics (bI out) A) (h : f_X6_areTopics x1 A = some out) : GG cellsR E A 0 [(0, .ref (fAd (eF E) 0)), (1, .int x1)] [] := by
  unfold f_X6_areTopics at h
  refine G_iconst X (v := 0) dX6_areTopics_0 rfl ?_
  refine G_istore_n X (lv2 := [(2, .int 0), (0, .ref (fAd (eF E) 0)), (1, .int x1)]) dX6_areTopics_1 rfl (by decide) rfl ?_
  obtain ⟨ρ, hl, h⟩ := cl_k h
  obtain ⟨n, hl⟩ := loop_some hl
  refine G_sub [1, 2, 0] rfl (g_X6_areTopics_L2 X A x1 hQ n _ ρ hl ?_ (fun t e => by subst e; exact so h))
  intro e
  subst e
  have h : f_X6_areTopics_X99 A = some _ := h
  unfold f_X6_areTopics_X99 at h
  refine G_iconst X (v := 1) dX6_areTopics_99 rfl ?_
  have e := so h
  subst e
  exact hQ _ _ dX6_areTopics_100
theorem m_X6_areTopics {l : Launch} {F : pfF} (hD : ∀ A, va_D (fA F) (cellsR (fAd F) (fCy F) A)) {x1 : Int32} {A : St} {out : Bool} (h : f_X6_areTopics x1 A = some out) : Mt l F cellsR yX6_areTopics cX6_areTopics 5 (some .boolean) rm_X6_areTopics [.ref (fAd F 0), .int x1] A (va_Qi (fun (r : Int32) (u : St) => r = bI out ∧ u = A) (Wd cellsR F) (fA F)) := by
  refine Met_iz (by decide +kernel) (Nat.le_of_ble_eq_true rfl) hD (nar_bI _) (fun E el ef X hQ => ?_)
  subst el
  subst ef
  exact b_X6_areTopics X _ _ hQ h
theorem ok_X6_areTopics : OkV yX6_areTopics cX6_areTopics 5 (some .boolean) 1 := ⟨qw929, qs21, qw6, qw930, by decide, by decide, by decide⟩
noncomputable def f_X6_bits_L4 (l0 : Int32) (l1 : Int32) (l2 : Int32) : Option ((Int32 × Int32) ⊕ (Int32)) :=
  if 12 ≤ l2 then
    some (.inr l1)
  else
    bv (l1 + ((l0 >>> (l2 &&& 31)) &&& 1)) fun v2 =>
    bv (l2 + 1) fun v3 =>
    some (.inl (v2, v3))
noncomputable def f_X6_bits_X24 (m1 : Int32) : Option (Int32) :=
  some m1
noncomputable def f_X6_bits (x0 : Int32) : Option (Int32) :=
  cl (loop (fun s => f_X6_bits_L4 x0 s.1 s.2) (0, 0)) (fun s => f_X6_bits_X24 s)
abbrev rm_X6_bits : Room := { frames := 0, cells := 0, slots := 0, locals := 0 }
set_option maxHeartbeats 4000000 in
set_option maxRecDepth 100000 in
theorem g_X6_bits_L4 {wl : pfW} {E : pfE} (X : CX wl E cX6_bits RX6 rm_X6_bits 3) {A : St} (l0 : Int32) : ∀ (n : Nat) (l1 : Int32) (l2 : Int32) (ρ : Int32), lp (fun s => f_X6_bits_L4 l0 s.1 s.2) n (l1, l2) = some ρ → (∀ (q1 : Int32), ρ = q1 → GG wl E A 24 [(1, .int q1)] []) → GG wl E A 4 [(0, .int l0), (1, .int l1), (2, .int l2)] [] := by
  intro n
  induction n with
  | zero =>
    intro l1 l2 ρ h
    cases h
  | succ n ih =>
    intro l1 l2 ρ h0 K
    obtain ⟨x, hb, hx⟩ := lp_step h0
    have h : f_X6_bits_L4 l0 l1 l2 = some x := hb
    unfold f_X6_bits_L4 at h
    clear hb h0
    refine G_iload_n X dX6_bits_4 rfl 2 rfl ?_
    refine G_bipush X (v := 12) dX6_bits_5 rfl ?_
    refine G_icge X (tgt := 24) dX6_bits_7 (by decide) (fun c1 => ?_) (fun c1 => ?_)
    · have h := if_t c1 h
      exact G_sub [1] rfl (K _ (lpr (so h) hx).symm)
    · have h := if_f c1 h
      refine G_iload_n X dX6_bits_10 rfl 1 rfl ?_
      refine G_iload_n X dX6_bits_11 rfl 0 rfl ?_
      refine G_iload_n X dX6_bits_12 rfl 2 rfl ?_
      refine G_ishr X dX6_bits_13 ?_
      refine G_iconst X (v := 1) dX6_bits_14 rfl ?_
      refine G_iand X dX6_bits_15 ?_
      refine G_iadd X dX6_bits_16 ?_
      refine G_topi (fun v2 ev2 => ?_)
      have h := bv_k ev2 h
      refine G_istore_n X (lv2 := [(1, .int v2), (0, .int l0), (2, .int l2)]) dX6_bits_17 rfl (by decide) rfl ?_
      obtain ⟨v3, ev3⟩ : ∃ y : Int32, y = l2 + 1 := ⟨_, rfl⟩
      have h := bv_k ev3 h
      refine G_iinc X (q := 2) (v := v3) (lv2 := [(2, .int v3), (1, .int v2), (0, .int l0)]) dX6_bits_18 rfl (by rw [ev3]; rfl) (by decide) rfl ?_
      refine G_goto X (tgt := 4) dX6_bits_21 (by decide) ?_
      exact G_sub [2, 1, 0] rfl (ih _ _ _ (lpl (so h) hx) K)
set_option maxHeartbeats 4000000 in
set_option maxRecDepth 100000 in
theorem b_X6_bits {wl : pfW} {E : pfE} (X : CX wl E cX6_bits RX6 rm_X6_bits 3) (x0 : Int32) {A : St} {out : Int32} (hQ : Reti wl E cX6_bits out A) (h : f_X6_bits x0 = some out) : GG wl E A 0 [(0, .int x0)] [] := by
  unfold f_X6_bits at h
  refine G_iconst X (v := 0) dX6_bits_0 rfl ?_
  refine G_istore_n X (lv2 := [(1, .int 0), (0, .int x0)]) dX6_bits_1 rfl (by decide) rfl ?_
  refine G_iconst X (v := 0) dX6_bits_2 rfl ?_
  refine G_istore_n X (lv2 := [(2, .int 0), (1, .int 0), (0, .int x0)]) dX6_bits_3 rfl (by decide) rfl ?_
  obtain ⟨ρ, hl, h⟩ := cl_k h
  obtain ⟨n, hl⟩ := loop_some hl
  refine G_sub [2, 1, 0] rfl (g_X6_bits_L4 X x0 n _ _ ρ hl ?_)
  intro v4 e
  rw [e] at h
  have h : f_X6_bits_X24 v4 = some _ := h
  unfold f_X6_bits_X24 at h
  refine G_iload_n X dX6_bits_24 rfl 0 rfl ?_
  have e := so h
  subst e
  exact hQ _ _ dX6_bits_25
theorem m_X6_bits {wl : pfW} {l : Launch} {F : pfF} (hD : ∀ A, va_D (fA F) (wl (fAd F) (fCy F) A)) {x0 : Int32} {A : St} {out : Int32} (h : f_X6_bits x0 = some out) : Mt l F wl yX6_bits cX6_bits 3 (some .int) rm_X6_bits [.int x0] A (va_Qi (fun (r : Int32) (u : St) => r = out ∧ u = A) (Wd wl F) (fA F)) := by
  refine Met_i (by decide +kernel) (Nat.le_of_ble_eq_true rfl) hD (fun E el ef X hQ => ?_)
  subst el
  subst ef
  exact b_X6_bits X _ hQ h
theorem ok_X6_bits : OkS yX6_bits cX6_bits 3 (some .int) 1 := ⟨qw925, qw6, qw926, by decide, by decide, by decide⟩
noncomputable def f_X6_isSo (x1 : Int32) (x2 : Int32) (A : St) : Option (Bool) :=
  if x1 = 1 then
    cl (f_X6_bits x2) fun r17 =>
    if r17 = (A.1 1 113) then
      some true
    else
      some false
  else
    if x1 = 2 then
      cl (f_X6_areTopics x2 A) fun r15 =>
      some r15
    else
      if x1 = 3 then
        cl (f_X6_minutesOf x2 A) fun r12 =>
        if (A.1 1 114) < r12 then
          some false
        else
          some true
      else
        if x1 = 4 then
          cl (f_X6_areFriends x2 A) fun r10 =>
          some r10
        else
          if x1 = 5 then
            cl (f_X6_areTexts x2 A) fun r8 =>
            some r8
          else
            cl (f_X6_areFresh x2 A) fun r6 =>
            some r6
abbrev rm_X6_isSo : Room := { frames := 2, cells := 0, slots := 0, locals := 49 }
set_option maxHeartbeats 4000000 in
set_option maxRecDepth 100000 in
theorem b_X6_isSo {E : pfE} (X : CX cellsR E cX6_isSo RX6 rm_X6_isSo 3) (x1 : Int32) (x2 : Int32) (A : St) {out : Bool} (hQ : Reti cellsR E cX6_isSo (bI out) A) (h : f_X6_isSo x1 x2 A = some out) : GG cellsR E A 0 [(0, .ref (fAd (eF E) 0)), (1, .int x1), (2, .int x2)] [] := by
  unfold f_X6_isSo at h
  refine G_iload_n X dX6_isSo_0 rfl 1 rfl ?_
  by_cases c1 : x1 = 1
  · have h := if_t c1 h
    refine G_tabIn X dX6_isSo_1 (by rw [c1]; decide) (by rw [c1]; decide) (off := 35) (by rw [c1]; rfl) (tgt := 36) (by decide) ?_
    refine G_iload_n X dX6_isSo_36 rfl 2 rfl ?_
    obtain ⟨r17, hz18, h⟩ := cl_k h
    refine G_callS_i X (As := [.int x2]) (rest := []) ok_X6_bits qw924 ⟨rfl, rfl, Nat.le_of_ble_eq_true rfl, Nat.le_of_ble_eq_true rfl⟩ (m_X6_bits X.d hz18) rfl rfl (Nat.le_of_ble_eq_true rfl) dX6_isSo_37 ?_
    refine G_aload_n X dX6_isSo_40 rfl 0 rfl ?_
    refine G_getf X inX6 0 (eR0 _ _ _) rfl 0 (by decide) qw654 rfl dX6_isSo_41 ?_
    refine G_bipush X (v := 113) dX6_isSo_44 rfl ?_
    refine G_iald X (j := 113) 1 (eR1 _ _ _) (vi rfl) rfl dX6_isSo_46 ?_
    refine G_icne X (tgt := 54) dX6_isSo_47 (by decide) (fun c19 => ?_) (fun c19 => ?_)
    · have h := if_t c19 h
      refine G_iconst X (v := 1) dX6_isSo_50 rfl ?_
      refine G_goto X (tgt := 55) dX6_isSo_51 (by decide) ?_
      have e := so h
      subst e
      exact hQ _ _ dX6_isSo_55
    · have h := if_f c19 h
      refine G_iconst X (v := 0) dX6_isSo_54 rfl ?_
      have e := so h
      subst e
      exact hQ _ _ dX6_isSo_55
  · have h := if_f c1 h
    by_cases c2 : x1 = 2
    · have h := if_t c2 h
      refine G_tabIn X dX6_isSo_1 (by rw [c2]; decide) (by rw [c2]; decide) (off := 55) (by rw [c2]; rfl) (tgt := 56) (by decide) ?_
      refine G_aload_n X dX6_isSo_56 rfl 0 rfl ?_
      refine G_iload_n X dX6_isSo_57 rfl 2 rfl ?_
      obtain ⟨r15, hz16, h⟩ := cl_k h
      refine G_callV_i X (As := [.int x2]) (rest := []) ok_X6_areTopics qw927 0 (eR0 _ _ _) rfl rfl ⟨rfl, rfl, Nat.le_of_ble_eq_true rfl, Nat.le_of_ble_eq_true rfl⟩ (m_X6_areTopics X.d hz16) rfl rfl (Nat.le_of_ble_eq_true rfl) dX6_isSo_58 ?_
      have e := so h
      subst e
      exact hQ _ _ dX6_isSo_61
    · have h := if_f c2 h
      by_cases c3 : x1 = 3
      · have h := if_t c3 h
        refine G_tabIn X dX6_isSo_1 (by rw [c3]; decide) (by rw [c3]; decide) (off := 61) (by rw [c3]; rfl) (tgt := 62) (by decide) ?_
        refine G_aload_n X dX6_isSo_62 rfl 0 rfl ?_
        refine G_iload_n X dX6_isSo_63 rfl 2 rfl ?_
        obtain ⟨r12, hz13, h⟩ := cl_k h
        refine G_callV_i X (As := [.int x2]) (rest := []) ok_X6_minutesOf qw931 0 (eR0 _ _ _) rfl rfl ⟨rfl, rfl, Nat.le_of_ble_eq_true rfl, Nat.le_of_ble_eq_true rfl⟩ (m_X6_minutesOf X.d hz13) rfl rfl (Nat.le_of_ble_eq_true rfl) dX6_isSo_64 ?_
        refine G_aload_n X dX6_isSo_67 rfl 0 rfl ?_
        refine G_getf X inX6 0 (eR0 _ _ _) rfl 0 (by decide) qw654 rfl dX6_isSo_68 ?_
        refine G_bipush X (v := 114) dX6_isSo_71 rfl ?_
        refine G_iald X (j := 114) 1 (eR1 _ _ _) (vi rfl) rfl dX6_isSo_73 ?_
        refine G_icgt X (tgt := 81) dX6_isSo_74 (by decide) (fun c14 => ?_) (fun c14 => ?_)
        · have h := if_t c14 h
          refine G_iconst X (v := 0) dX6_isSo_81 rfl ?_
          have e := so h
          subst e
          exact hQ _ _ dX6_isSo_82
        · have h := if_f c14 h
          refine G_iconst X (v := 1) dX6_isSo_77 rfl ?_
          refine G_goto X (tgt := 82) dX6_isSo_78 (by decide) ?_
          have e := so h
          subst e
          exact hQ _ _ dX6_isSo_82
      · have h := if_f c3 h
        by_cases c4 : x1 = 4
        · have h := if_t c4 h
          refine G_tabIn X dX6_isSo_1 (by rw [c4]; decide) (by rw [c4]; decide) (off := 82) (by rw [c4]; rfl) (tgt := 83) (by decide) ?_
          refine G_aload_n X dX6_isSo_83 rfl 0 rfl ?_
          refine G_iload_n X dX6_isSo_84 rfl 2 rfl ?_
          obtain ⟨r10, hz11, h⟩ := cl_k h
          refine G_callV_i X (As := [.int x2]) (rest := []) ok_X6_areFriends qw935 0 (eR0 _ _ _) rfl rfl ⟨rfl, rfl, Nat.le_of_ble_eq_true rfl, Nat.le_of_ble_eq_true rfl⟩ (m_X6_areFriends X.d hz11) rfl rfl (Nat.le_of_ble_eq_true rfl) dX6_isSo_85 ?_
          have e := so h
          subst e
          exact hQ _ _ dX6_isSo_88
        · have h := if_f c4 h
          by_cases c5 : x1 = 5
          · have h := if_t c5 h
            refine G_tabIn X dX6_isSo_1 (by rw [c5]; decide) (by rw [c5]; decide) (off := 88) (by rw [c5]; rfl) (tgt := 89) (by decide) ?_
            refine G_aload_n X dX6_isSo_89 rfl 0 rfl ?_
            refine G_iload_n X dX6_isSo_90 rfl 2 rfl ?_
            obtain ⟨r8, hz9, h⟩ := cl_k h
            refine G_callV_i X (As := [.int x2]) (rest := []) ok_X6_areTexts qw939 0 (eR0 _ _ _) rfl rfl ⟨rfl, rfl, Nat.le_of_ble_eq_true rfl, Nat.le_of_ble_eq_true rfl⟩ (m_X6_areTexts X.d hz9) rfl rfl (Nat.le_of_ble_eq_true rfl) dX6_isSo_91 ?_
            have e := so h
            subst e
            exact hQ _ _ dX6_isSo_94
          · have h := if_f c5 h
            refine G_tabOut X dX6_isSo_1 (by have t0 := lv_neT (k := 1) (a := 1) c1 (by decide); have t1 := lv_neT (k := 2) (a := 2) c2 (by decide); have t2 := lv_neT (k := 3) (a := 3) c3 (by decide); have t3 := lv_neT (k := 4) (a := 4) c4 (by decide); have t4 := lv_neT (k := 5) (a := 5) c5 (by decide); omega) (tgt := 95) (by decide) ?_
            refine G_aload_n X dX6_isSo_95 rfl 0 rfl ?_
            refine G_iload_n X dX6_isSo_96 rfl 2 rfl ?_
            obtain ⟨r6, hz7, h⟩ := cl_k h
            refine G_callV_i X (As := [.int x2]) (rest := []) ok_X6_areFresh qw943 0 (eR0 _ _ _) rfl rfl ⟨rfl, rfl, Nat.le_of_ble_eq_true rfl, Nat.le_of_ble_eq_true rfl⟩ (m_X6_areFresh X.d hz7) rfl rfl (Nat.le_of_ble_eq_true rfl) dX6_isSo_97 ?_
            have e := so h
            subst e
            exact hQ _ _ dX6_isSo_100
theorem m_X6_isSo {l : Launch} {F : pfF} (hD : ∀ A, va_D (fA F) (cellsR (fAd F) (fCy F) A)) {x1 : Int32} {x2 : Int32} {A : St} {out : Bool} (h : f_X6_isSo x1 x2 A = some out) : Mt l F cellsR yX6_isSo cX6_isSo 3 (some .boolean) rm_X6_isSo [.ref (fAd F 0), .int x1, .int x2] A (va_Qi (fun (r : Int32) (u : St) => r = bI out ∧ u = A) (Wd cellsR F) (fA F)) := by
  refine Met_iz (by decide +kernel) (Nat.le_of_ble_eq_true rfl) hD (nar_bI _) (fun E el ef X hQ => ?_)
  subst el
  subst ef
  exact b_X6_isSo X _ _ _ hQ h
theorem ok_X6_isSo : OkV yX6_isSo cX6_isSo 3 (some .boolean) 2 := ⟨qw922, qs20, qw6, qw923, by decide, by decide, by decide⟩
noncomputable def f_X6_againstBut_L2 (A : St) (l1 : Int32) (l2 : Int32) (l3 : Int32) : Option ((Int32) ⊕ ((Unit) ⊕ (Int32))) :=
  if 6 < l3 then
    some (.inr (.inl ()))
  else
    if l3 = l2 then
      bv (l3 + 1) fun v3 =>
      some (.inl v3)
    else
      cl (f_X6_isSo l3 l1 A) fun r4 =>
      if (bI r4) = 0 then
        some (.inr (.inr l3))
      else
        bv (l3 + 1) fun v7 =>
        some (.inl v7)
noncomputable def f_X6_againstBut_X30 (A : St) : Option (Int32) :=
  some 0
noncomputable def f_X6_againstBut (x1 : Int32) (x2 : Int32) (A : St) : Option (Int32) :=
  cl (loop (fun s => f_X6_againstBut_L2 A x1 x2 s) 1) (Sum.elim (fun _ => f_X6_againstBut_X30 A) (fun t => some t))
abbrev rm_X6_againstBut : Room := { frames := 3, cells := 0, slots := 0, locals := 71 }
set_option maxHeartbeats 4000000 in
set_option maxRecDepth 100000 in
theorem g_X6_againstBut_L2 {E : pfE} (X : CX cellsR E cX6_againstBut RX6 rm_X6_againstBut 4) (A : St) (l1 : Int32) (l2 : Int32) {out : Int32} (hQ : Reti cellsR E cX6_againstBut out A) : ∀ (n : Nat) (l3 : Int32) (ρ : (Unit) ⊕ (Int32)), lp (fun s => f_X6_againstBut_L2 A l1 l2 s) n l3 = some ρ → (ρ = .inl () → GG cellsR E A 30 [] []) → (∀ t, ρ = .inr t → t = out) → GG cellsR E A 2 [(0, .ref (fAd (eF E) 0)), (1, .int l1), (2, .int l2), (3, .int l3)] [] := by
  intro n
  induction n with
  | zero =>
    intro l3 ρ h
    cases h
  | succ n ih =>
    intro l3 ρ h0 K KR
    obtain ⟨x, hb, hx⟩ := lp_step h0
    have h : f_X6_againstBut_L2 A l1 l2 l3 = some x := hb
    unfold f_X6_againstBut_L2 at h
    clear hb h0
    refine G_iload_n X dX6_againstBut_2 rfl 3 rfl ?_
    refine G_bipush X (v := 6) dX6_againstBut_3 rfl ?_
    refine G_icgt X (tgt := 30) dX6_againstBut_5 (by decide) (fun c1 => ?_) (fun c1 => ?_)
    · have h := if_t c1 h
      exact G_sub [] rfl (K (lpr (so h) hx).symm)
    · have h := if_f c1 h
      refine G_iload_n X dX6_againstBut_8 rfl 3 rfl ?_
      refine G_iload_n X dX6_againstBut_9 rfl 2 rfl ?_
      refine G_iceq X (tgt := 24) dX6_againstBut_10 (by decide) (fun c2 => ?_) (fun c2 => ?_)
      · have h := if_t c2 h
        obtain ⟨v3, ev3⟩ : ∃ y : Int32, y = l3 + 1 := ⟨_, rfl⟩
        have h := bv_k ev3 h
        refine G_iinc X (q := 3) (v := v3) (lv2 := [(3, .int v3), (0, .ref (fAd (eF E) 0)), (1, .int l1), (2, .int l2)]) dX6_againstBut_24 rfl (by rw [ev3]; rfl) (by decide) rfl ?_
        refine G_goto X (tgt := 2) dX6_againstBut_27 (by decide) ?_
        exact G_sub [1, 2, 3, 0] rfl (ih _ _ (lpl (so h) hx) K KR)
      · have h := if_f c2 h
        refine G_aload_n X dX6_againstBut_13 rfl 0 rfl ?_
        refine G_iload_n X dX6_againstBut_14 rfl 3 rfl ?_
        refine G_iload_n X dX6_againstBut_15 rfl 1 rfl ?_
        obtain ⟨r4, hz5, h⟩ := cl_k h
        refine G_callV_i X (As := [.int l3, .int l1]) (rest := []) ok_X6_isSo qw920 0 (eR0 _ _ _) rfl rfl ⟨rfl, rfl, Nat.le_of_ble_eq_true rfl, Nat.le_of_ble_eq_true rfl⟩ (m_X6_isSo X.d hz5) rfl rfl (Nat.le_of_ble_eq_true rfl) dX6_againstBut_16 ?_
        refine G_ifne X (tgt := 24) dX6_againstBut_19 (by decide) (fun c6 => ?_) (fun c6 => ?_)
        · have h := if_t c6 h
          refine G_iload_n X dX6_againstBut_22 rfl 3 rfl ?_
          have e := KR _ (lpr (so h) hx).symm
          subst e
          exact hQ _ _ dX6_againstBut_23
        · have h := if_f c6 h
          obtain ⟨v7, ev7⟩ : ∃ y : Int32, y = l3 + 1 := ⟨_, rfl⟩
          have h := bv_k ev7 h
          refine G_iinc X (q := 3) (v := v7) (lv2 := [(3, .int v7), (0, .ref (fAd (eF E) 0)), (1, .int l1), (2, .int l2)]) dX6_againstBut_24 rfl (by rw [ev7]; rfl) (by decide) rfl ?_
          refine G_goto X (tgt := 2) dX6_againstBut_27 (by decide) ?_
          exact G_sub [1, 2, 3, 0] rfl (ih _ _ (lpl (so h) hx) K KR)
set_option maxHeartbeats 4000000 in
set_option maxRecDepth 100000 in
theorem b_X6_againstBut {E : pfE} (X : CX cellsR E cX6_againstBut RX6 rm_X6_againstBut 4) (x1 : Int32) (x2 : Int32) (A : St) {out : Int32} (hQ : Reti cellsR E cX6_againstBut out A) (h : f_X6_againstBut x1 x2 A = some out) : GG cellsR E A 0 [(0, .ref (fAd (eF E) 0)), (1, .int x1), (2, .int x2)] [] := by
  unfold f_X6_againstBut at h
  refine G_iconst X (v := 1) dX6_againstBut_0 rfl ?_
  refine G_istore_n X (lv2 := [(3, .int 1), (0, .ref (fAd (eF E) 0)), (1, .int x1), (2, .int x2)]) dX6_againstBut_1 rfl (by decide) rfl ?_
  obtain ⟨ρ, hl, h⟩ := cl_k h
  obtain ⟨n, hl⟩ := loop_some hl
  refine G_sub [1, 2, 3, 0] rfl (g_X6_againstBut_L2 X A x1 x2 hQ n _ ρ hl ?_ (fun t e => by subst e; exact so h))
  intro e
  subst e
  have h : f_X6_againstBut_X30 A = some _ := h
  unfold f_X6_againstBut_X30 at h
  refine G_iconst X (v := 0) dX6_againstBut_30 rfl ?_
  have e := so h
  subst e
  exact hQ _ _ dX6_againstBut_31
theorem m_X6_againstBut {l : Launch} {F : pfF} (hD : ∀ A, va_D (fA F) (cellsR (fAd F) (fCy F) A)) {x1 : Int32} {x2 : Int32} {A : St} {out : Int32} (h : f_X6_againstBut x1 x2 A = some out) : Mt l F cellsR yX6_againstBut cX6_againstBut 4 (some .int) rm_X6_againstBut [.ref (fAd F 0), .int x1, .int x2] A (va_Qi (fun (r : Int32) (u : St) => r = out ∧ u = A) (Wd cellsR F) (fA F)) := by
  refine Met_i (by decide +kernel) (Nat.le_of_ble_eq_true rfl) hD (fun E el ef X hQ => ?_)
  subst el
  subst ef
  exact b_X6_againstBut X _ _ _ hQ h
theorem ok_X6_againstBut : OkV yX6_againstBut cX6_againstBut 4 (some .int) 2 := ⟨qw918, qs19, qw6, qw919, by decide, by decide, by decide⟩
noncomputable def f_X6_against (x1 : Int32) (A : St) : Option (Int32 × St) :=
  cl (f_X6_areItems x1 A) fun r1 =>
  if (bI r1) = 0 then
    cl2 (f_X6_finds 0 A) fun r4 A6 =>
    some (r4, A6)
  else
    cl (f_X6_againstBut x1 0 A) fun r7 =>
    some (r7, A)
abbrev rm_X6_against : Room := { frames := 4, cells := 0, slots := 0, locals := 94 }
set_option maxHeartbeats 4000000 in
set_option maxRecDepth 100000 in
theorem b_X6_against {E : pfE} (X : CX cellsR E cX6_against RX6 rm_X6_against 2) (x1 : Int32) (A : St) {out : Int32 × St} (hQ : Reti cellsR E cX6_against out.1 out.2) (h : f_X6_against x1 A = some out) : GG cellsR E A 0 [(0, .ref (fAd (eF E) 0)), (1, .int x1)] [] := by
  unfold f_X6_against at h
  refine G_aload_n X dX6_against_0 rfl 0 rfl ?_
  refine G_iload_n X dX6_against_1 rfl 1 rfl ?_
  obtain ⟨r1, hz2, h⟩ := cl_k h
  refine G_callV_i X (As := [.int x1]) (rest := []) ok_X6_areItems qw873 0 (eR0 _ _ _) rfl rfl ⟨rfl, rfl, Nat.le_of_ble_eq_true rfl, Nat.le_of_ble_eq_true rfl⟩ (m_X6_areItems X.d hz2) rfl rfl (Nat.le_of_ble_eq_true rfl) dX6_against_2 ?_
  refine G_ifeq X (tgt := 17) dX6_against_5 (by decide) (fun c3 => ?_) (fun c3 => ?_)
  · have h := if_t c3 h
    refine G_aload_n X dX6_against_17 rfl 0 rfl ?_
    refine G_iconst X (v := 0) dX6_against_18 rfl ?_
    obtain ⟨r4, A6, hz5, h⟩ := cl2_k h
    refine G_callV_i X (As := [.int 0]) (rest := []) ok_X6_finds qw737 0 (eR0 _ _ _) rfl rfl ⟨rfl, rfl, Nat.le_of_ble_eq_true rfl, Nat.le_of_ble_eq_true rfl⟩ (m_X6_finds X.d hz5) rfl rfl (Nat.le_of_ble_eq_true rfl) dX6_against_19 ?_
    have e := so h
    subst e
    exact hQ _ _ dX6_against_22
  · have h := if_f c3 h
    refine G_aload_n X dX6_against_8 rfl 0 rfl ?_
    refine G_iload_n X dX6_against_9 rfl 1 rfl ?_
    refine G_iconst X (v := 0) dX6_against_10 rfl ?_
    obtain ⟨r7, hz8, h⟩ := cl_k h
    refine G_callV_i X (As := [.int x1, .int 0]) (rest := []) ok_X6_againstBut qw916 0 (eR0 _ _ _) rfl rfl ⟨rfl, rfl, Nat.le_of_ble_eq_true rfl, Nat.le_of_ble_eq_true rfl⟩ (m_X6_againstBut X.d hz8) rfl rfl (Nat.le_of_ble_eq_true rfl) dX6_against_11 ?_
    refine G_goto X (tgt := 22) dX6_against_14 (by decide) ?_
    have e := so h
    subst e
    exact hQ _ _ dX6_against_22
theorem m_X6_against {l : Launch} {F : pfF} (hD : ∀ A, va_D (fA F) (cellsR (fAd F) (fCy F) A)) {x1 : Int32} {A : St} {out : Int32 × St} (h : f_X6_against x1 A = some out) : Mt l F cellsR yX6_against cX6_against 2 (some .int) rm_X6_against [.ref (fAd F 0), .int x1] A (va_Qi (fun (r : Int32) (u : St) => r = out.1 ∧ u = out.2) (Wd cellsR F) (fA F)) := by
  refine Met_i (by decide +kernel) (Nat.le_of_ble_eq_true rfl) hD (fun E el ef X hQ => ?_)
  subst el
  subst ef
  exact b_X6_against X _ _ hQ h
theorem ok_X6_against : OkV yX6_against cX6_against 2 (some .int) 1 := ⟨qw913, qw914, qw6, qw915, by decide, by decide, by decide⟩
noncomputable def f_X6_manyBut_L4 (A : St) (l1 : Int32) (l2 : Int32) (l3 : Int32) : Option ((Int32 × Int32) ⊕ (Int32)) :=
  if ((1 : Int32) <<< ((A.1 1 0) &&& 31)) ≤ l3 then
    some (.inr l2)
  else
    cl (f_X6_againstBut l3 l1 A) fun r2 =>
    if r2 = 0 then
      bv (l2 + 1) fun v7 =>
      bv (l3 + 1) fun v8 =>
      some (.inl (v7, v8))
    else
      bv (l2 + 0) fun v5 =>
      bv (l3 + 1) fun v6 =>
      some (.inl (v5, v6))
noncomputable def f_X6_manyBut_X39 (A : St) (m2 : Int32) : Option (Int32) :=
  some m2
noncomputable def f_X6_manyBut (x1 : Int32) (A : St) : Option (Int32) :=
  cl (loop (fun s => f_X6_manyBut_L4 A x1 s.1 s.2) (0, 0)) (fun s => f_X6_manyBut_X39 A s)
abbrev rm_X6_manyBut : Room := { frames := 4, cells := 0, slots := 0, locals := 94 }
set_option maxHeartbeats 4000000 in
set_option maxRecDepth 100000 in
theorem g_X6_manyBut_L4 {E : pfE} (X : CX cellsR E cX6_manyBut RX6 rm_X6_manyBut 4) (A : St) (l1 : Int32) : ∀ (n : Nat) (l2 : Int32) (l3 : Int32) (ρ : Int32), lp (fun s => f_X6_manyBut_L4 A l1 s.1 s.2) n (l2, l3) = some ρ → (∀ (q2 : Int32), ρ = q2 → GG cellsR E A 39 [(2, .int q2)] []) → GG cellsR E A 4 [(0, .ref (fAd (eF E) 0)), (1, .int l1), (2, .int l2), (3, .int l3)] [] := by
  intro n
  induction n with
  | zero =>
    intro l2 l3 ρ h
    cases h
  | succ n ih =>
    intro l2 l3 ρ h0 K
    obtain ⟨x, hb, hx⟩ := lp_step h0
    have h : f_X6_manyBut_L4 A l1 l2 l3 = some x := hb
    unfold f_X6_manyBut_L4 at h
    clear hb h0
    refine G_iload_n X dX6_manyBut_4 rfl 3 rfl ?_
    refine G_iconst X (v := 1) dX6_manyBut_5 rfl ?_
    refine G_aload_n X dX6_manyBut_6 rfl 0 rfl ?_
    refine G_getf X inX6 0 (eR0 _ _ _) rfl 0 (by decide) qw654 rfl dX6_manyBut_7 ?_
    refine G_iconst X (v := 0) dX6_manyBut_10 rfl ?_
    refine G_iald X (j := 0) 1 (eR1 _ _ _) (vi rfl) rfl dX6_manyBut_11 ?_
    refine G_ishl X dX6_manyBut_12 ?_
    refine G_icge X (tgt := 39) dX6_manyBut_13 (by decide) (fun c1 => ?_) (fun c1 => ?_)
    · have h := if_t c1 h
      exact G_sub [2] rfl (K _ (lpr (so h) hx).symm)
    · have h := if_f c1 h
      refine G_iload_n X dX6_manyBut_16 rfl 2 rfl ?_
      refine G_aload_n X dX6_manyBut_17 rfl 0 rfl ?_
      refine G_iload_n X dX6_manyBut_18 rfl 3 rfl ?_
      refine G_iload_n X dX6_manyBut_19 rfl 1 rfl ?_
      obtain ⟨r2, hz3, h⟩ := cl_k h
      refine G_callV_i X (As := [.int l3, .int l1]) (rest := [.int l2]) ok_X6_againstBut qw916 0 (eR0 _ _ _) rfl rfl ⟨rfl, rfl, Nat.le_of_ble_eq_true rfl, Nat.le_of_ble_eq_true rfl⟩ (m_X6_againstBut X.d hz3) rfl rfl (Nat.le_of_ble_eq_true rfl) dX6_manyBut_20 ?_
      refine G_ifne X (tgt := 30) dX6_manyBut_23 (by decide) (fun c4 => ?_) (fun c4 => ?_)
      · have h := if_t c4 h
        refine G_iconst X (v := 1) dX6_manyBut_26 rfl ?_
        refine G_goto X (tgt := 31) dX6_manyBut_27 (by decide) ?_
        refine G_iadd X dX6_manyBut_31 ?_
        refine G_topi (fun v7 ev7 => ?_)
        have h := bv_k ev7 h
        refine G_istore_n X (lv2 := [(2, .int v7), (0, .ref (fAd (eF E) 0)), (1, .int l1), (3, .int l3)]) dX6_manyBut_32 rfl (by decide) rfl ?_
        obtain ⟨v8, ev8⟩ : ∃ y : Int32, y = l3 + 1 := ⟨_, rfl⟩
        have h := bv_k ev8 h
        refine G_iinc X (q := 3) (v := v8) (lv2 := [(3, .int v8), (2, .int v7), (0, .ref (fAd (eF E) 0)), (1, .int l1)]) dX6_manyBut_33 rfl (by rw [ev8]; rfl) (by decide) rfl ?_
        refine G_goto X (tgt := 4) dX6_manyBut_36 (by decide) ?_
        exact G_sub [2, 3, 1, 0] rfl (ih _ _ _ (lpl (so h) hx) K)
      · have h := if_f c4 h
        refine G_iconst X (v := 0) dX6_manyBut_30 rfl ?_
        refine G_iadd X dX6_manyBut_31 ?_
        refine G_topi (fun v5 ev5 => ?_)
        have h := bv_k ev5 h
        refine G_istore_n X (lv2 := [(2, .int v5), (0, .ref (fAd (eF E) 0)), (1, .int l1), (3, .int l3)]) dX6_manyBut_32 rfl (by decide) rfl ?_
        obtain ⟨v6, ev6⟩ : ∃ y : Int32, y = l3 + 1 := ⟨_, rfl⟩
        have h := bv_k ev6 h
        refine G_iinc X (q := 3) (v := v6) (lv2 := [(3, .int v6), (2, .int v5), (0, .ref (fAd (eF E) 0)), (1, .int l1)]) dX6_manyBut_33 rfl (by rw [ev6]; rfl) (by decide) rfl ?_
        refine G_goto X (tgt := 4) dX6_manyBut_36 (by decide) ?_
        exact G_sub [2, 3, 1, 0] rfl (ih _ _ _ (lpl (so h) hx) K)
set_option maxHeartbeats 4000000 in
set_option maxRecDepth 100000 in
theorem b_X6_manyBut {E : pfE} (X : CX cellsR E cX6_manyBut RX6 rm_X6_manyBut 4) (x1 : Int32) (A : St) {out : Int32} (hQ : Reti cellsR E cX6_manyBut out A) (h : f_X6_manyBut x1 A = some out) : GG cellsR E A 0 [(0, .ref (fAd (eF E) 0)), (1, .int x1)] [] := by
  unfold f_X6_manyBut at h
  refine G_iconst X (v := 0) dX6_manyBut_0 rfl ?_
  refine G_istore_n X (lv2 := [(2, .int 0), (0, .ref (fAd (eF E) 0)), (1, .int x1)]) dX6_manyBut_1 rfl (by decide) rfl ?_
  refine G_iconst X (v := 0) dX6_manyBut_2 rfl ?_
  refine G_istore_n X (lv2 := [(3, .int 0), (2, .int 0), (0, .ref (fAd (eF E) 0)), (1, .int x1)]) dX6_manyBut_3 rfl (by decide) rfl ?_
  obtain ⟨ρ, hl, h⟩ := cl_k h
  obtain ⟨n, hl⟩ := loop_some hl
  refine G_sub [2, 3, 1, 0] rfl (g_X6_manyBut_L4 X A x1 n _ _ ρ hl ?_)
  intro v9 e
  rw [e] at h
  have h : f_X6_manyBut_X39 A v9 = some _ := h
  unfold f_X6_manyBut_X39 at h
  refine G_iload_n X dX6_manyBut_39 rfl 0 rfl ?_
  have e := so h
  subst e
  exact hQ _ _ dX6_manyBut_40
theorem m_X6_manyBut {l : Launch} {F : pfF} (hD : ∀ A, va_D (fA F) (cellsR (fAd F) (fCy F) A)) {x1 : Int32} {A : St} {out : Int32} (h : f_X6_manyBut x1 A = some out) : Mt l F cellsR yX6_manyBut cX6_manyBut 4 (some .int) rm_X6_manyBut [.ref (fAd F 0), .int x1] A (va_Qi (fun (r : Int32) (u : St) => r = out ∧ u = A) (Wd cellsR F) (fA F)) := by
  refine Met_i (by decide +kernel) (Nat.le_of_ble_eq_true rfl) hD (fun E el ef X hQ => ?_)
  subst el
  subst ef
  exact b_X6_manyBut X _ _ hQ h
theorem ok_X6_manyBut : OkV yX6_manyBut cX6_manyBut 4 (some .int) 1 := ⟨qw953, qs26, qw6, qw954, by decide, by decide, by decide⟩
noncomputable def f_X6_papers (A : St) : Option (Int32) :=
  cl (f_X6_manyBut 0 A) fun r1 =>
  some r1
abbrev rm_X6_papers : Room := { frames := 5, cells := 0, slots := 0, locals := 117 }
set_option maxHeartbeats 4000000 in
set_option maxRecDepth 100000 in
theorem b_X6_papers {E : pfE} (X : CX cellsR E cX6_papers RX6 rm_X6_papers 1) (A : St) {out : Int32} (hQ : Reti cellsR E cX6_papers out A) (h : f_X6_papers A = some out) : GG cellsR E A 0 [(0, .ref (fAd (eF E) 0))] [] := by
  unfold f_X6_papers at h
  refine G_aload_n X dX6_papers_0 rfl 0 rfl ?_
  refine G_iconst X (v := 0) dX6_papers_1 rfl ?_
  obtain ⟨r1, hz2, h⟩ := cl_k h
  refine G_callV_i X (As := [.int 0]) (rest := []) ok_X6_manyBut qw951 0 (eR0 _ _ _) rfl rfl ⟨rfl, rfl, Nat.le_of_ble_eq_true rfl, Nat.le_of_ble_eq_true rfl⟩ (m_X6_manyBut X.d hz2) rfl rfl (Nat.le_of_ble_eq_true rfl) dX6_papers_2 ?_
  have e := so h
  subst e
  exact hQ _ _ dX6_papers_5
theorem m_X6_papers {l : Launch} {F : pfF} (hD : ∀ A, va_D (fA F) (cellsR (fAd F) (fCy F) A)) {A : St} {out : Int32} (h : f_X6_papers A = some out) : Mt l F cellsR yX6_papers cX6_papers 1 (some .int) rm_X6_papers [.ref (fAd F 0)] A (va_Qi (fun (r : Int32) (u : St) => r = out ∧ u = A) (Wd cellsR F) (fA F)) := by
  refine Met_i (by decide +kernel) (Nat.le_of_ble_eq_true rfl) hD (fun E el ef X hQ => ?_)
  subst el
  subst ef
  exact b_X6_papers X _ hQ h
theorem ok_X6_papers : OkV yX6_papers cX6_papers 1 (some .int) 0 := ⟨qw948, qw949, qw6, qw950, by decide, by decide, by decide⟩
noncomputable def f_X6_without (x1 : Int32) (A : St) : Option (Int32 × St) :=
  cl (f_X6_in x1.toInt64 1 6) fun r1 =>
  if (bI r1) = 0 then
    cl2 (f_X6_finds 0 A) fun r4 A6 =>
    some (r4, A6)
  else
    cl (f_X6_manyBut x1 A) fun r7 =>
    some (r7, A)
abbrev rm_X6_without : Room := { frames := 5, cells := 0, slots := 0, locals := 117 }
set_option maxHeartbeats 4000000 in
set_option maxRecDepth 100000 in
theorem b_X6_without {E : pfE} (X : CX cellsR E cX6_without RX6 rm_X6_without 2) (x1 : Int32) (A : St) {out : Int32 × St} (hQ : Reti cellsR E cX6_without out.1 out.2) (h : f_X6_without x1 A = some out) : GG cellsR E A 0 [(0, .ref (fAd (eF E) 0)), (1, .int x1)] [] := by
  unfold f_X6_without at h
  refine G_iload_n X dX6_without_0 rfl 1 rfl ?_
  refine G_i2l X dX6_without_1 rfl ?_
  refine G_lconst X (v := 1) dX6_without_2 rfl ?_
  refine G_ldc2 X (v := 6) qw896 dX6_without_3 ?_
  obtain ⟨r1, hz2, h⟩ := cl_k h
  refine G_callS_i X (As := [.long x1.toInt64, .long 1, .long 6]) (rest := []) ok_X6_in qw727 ⟨rfl, rfl, Nat.le_of_ble_eq_true rfl, Nat.le_of_ble_eq_true rfl⟩ (m_X6_in X.d hz2) rfl rfl (Nat.le_of_ble_eq_true rfl) dX6_without_6 ?_
  refine G_ifeq X (tgt := 20) dX6_without_9 (by decide) (fun c3 => ?_) (fun c3 => ?_)
  · have h := if_t c3 h
    refine G_aload_n X dX6_without_20 rfl 0 rfl ?_
    refine G_iconst X (v := 0) dX6_without_21 rfl ?_
    obtain ⟨r4, A6, hz5, h⟩ := cl2_k h
    refine G_callV_i X (As := [.int 0]) (rest := []) ok_X6_finds qw737 0 (eR0 _ _ _) rfl rfl ⟨rfl, rfl, Nat.le_of_ble_eq_true rfl, Nat.le_of_ble_eq_true rfl⟩ (m_X6_finds X.d hz5) rfl rfl (Nat.le_of_ble_eq_true rfl) dX6_without_22 ?_
    have e := so h
    subst e
    exact hQ _ _ dX6_without_25
  · have h := if_f c3 h
    refine G_aload_n X dX6_without_12 rfl 0 rfl ?_
    refine G_iload_n X dX6_without_13 rfl 1 rfl ?_
    obtain ⟨r7, hz8, h⟩ := cl_k h
    refine G_callV_i X (As := [.int x1]) (rest := []) ok_X6_manyBut qw951 0 (eR0 _ _ _) rfl rfl ⟨rfl, rfl, Nat.le_of_ble_eq_true rfl, Nat.le_of_ble_eq_true rfl⟩ (m_X6_manyBut X.d hz8) rfl rfl (Nat.le_of_ble_eq_true rfl) dX6_without_14 ?_
    refine G_goto X (tgt := 25) dX6_without_17 (by decide) ?_
    have e := so h
    subst e
    exact hQ _ _ dX6_without_25
theorem m_X6_without {l : Launch} {F : pfF} (hD : ∀ A, va_D (fA F) (cellsR (fAd F) (fCy F) A)) {x1 : Int32} {A : St} {out : Int32 × St} (h : f_X6_without x1 A = some out) : Mt l F cellsR yX6_without cX6_without 2 (some .int) rm_X6_without [.ref (fAd F 0), .int x1] A (va_Qi (fun (r : Int32) (u : St) => r = out.1 ∧ u = out.2) (Wd cellsR F) (fA F)) := by
  refine Met_i (by decide +kernel) (Nat.le_of_ble_eq_true rfl) hD (fun E el ef X hQ => ?_)
  subst el
  subst ef
  exact b_X6_without X _ _ hQ h
theorem ok_X6_without : OkV yX6_without cX6_without 2 (some .int) 1 := ⟨qw956, qw957, qw6, qw958, by decide, by decide, by decide⟩
