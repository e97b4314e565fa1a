noncomputable def f_X6_stands (x1 : Int32) (x2 : Int32) (x3 : Int32) (A : St) : Option (Int32 × St) :=
  cl (f_X6_isShelf x1) fun r1 =>
  if (bI r1) = 0 then
    cl2 (f_X6_finds 0 A) fun r4 A6 =>
    some (r4, A6)
  else
    cl (f_X6_in x2.toInt64 0 5) fun r7 =>
    if (bI r7) = 0 then
      cl2 (f_X6_finds 0 A) fun r10 A12 =>
      some (r10, A12)
    else
      cl (f_X6_in x3.toInt64 0 1) fun r13 =>
      if (bI r13) = 0 then
        cl2 (f_X6_finds 0 A) fun r30 A32 =>
        some (r30, A32)
      else
        gI x1 4 <|
        gI x2 6 <|
        if (A.1 (8 + x1.toNatClampNeg) x2.toNatClampNeg) = 0 then
          cl2 (f_X6_finds 5 A) fun r27 A29 =>
          some (r27, A29)
        else
          if x3 = 0 then
            gI x1 4 <|
            gI x2 6 <|
            some ((A.1 (8 + x1.toNatClampNeg) x2.toNatClampNeg) - 1, A)
          else
            gI x1 4 <|
            gI x2 6 <|
            some (A.1 (13 + x1.toNatClampNeg) x2.toNatClampNeg, A)
abbrev rm_X6_stands : Room := { frames := 2, cells := 0, slots := 0, locals := 45 }
set_option maxHeartbeats 4000000 in
set_option maxRecDepth 100000 in
theorem b_X6_stands {E : pfE} (X : CX cellsR E cX6_stands RX6 rm_X6_stands 4) (x1 : Int32) (x2 : Int32) (x3 : Int32) (A : St) {out : Int32 × St} (hQ : Reti cellsR E cX6_stands out.1 out.2) (h : f_X6_stands x1 x2 x3 A = some out) : GG cellsR E A 0 [(0, .ref (fAd (eF E) 0)), (1, .int x1), (2, .int x2), (3, .int x3)] [] := by
  unfold f_X6_stands at h
  refine G_iload_n X dX6_stands_0 rfl 1 rfl ?_
  obtain ⟨r1, hz2, h⟩ := cl_k h
  refine G_callS_i X (As := [.int x1]) (rest := []) ok_X6_isShelf qw1028 ⟨rfl, rfl, Nat.le_of_ble_eq_true rfl, Nat.le_of_ble_eq_true rfl⟩ (m_X6_isShelf X.d hz2) rfl rfl (Nat.le_of_ble_eq_true rfl) dX6_stands_1 ?_
  refine G_ifeq X (tgt := 29) dX6_stands_4 (by decide) (fun c3 => ?_) (fun c3 => ?_)
  · have h := if_t c3 h
    refine G_aload_n X dX6_stands_29 rfl 0 rfl ?_
    refine G_iconst X (v := 0) dX6_stands_30 rfl ?_
    obtain ⟨r4, A6, hz5, h⟩ := cl2_k h
    refine G_callV_i X (As := [.int 0]) (rest := []) ok_X6_finds qw737 0 (eR0 _ _ _) rfl rfl ⟨rfl, rfl, Nat.le_of_ble_eq_true rfl, Nat.le_of_ble_eq_true rfl⟩ (m_X6_finds X.d hz5) rfl rfl (Nat.le_of_ble_eq_true rfl) dX6_stands_31 ?_
    have e := so h
    subst e
    exact hQ _ _ dX6_stands_34
  · have h := if_f c3 h
    refine G_iload_n X dX6_stands_7 rfl 2 rfl ?_
    refine G_i2l X dX6_stands_8 rfl ?_
    refine G_lconst X (v := 0) dX6_stands_9 rfl ?_
    refine G_ldc2 X (v := 5) qw726 dX6_stands_10 ?_
    obtain ⟨r7, hz8, h⟩ := cl_k h
    refine G_callS_i X (As := [.long x2.toInt64, .long 0, .long 5]) (rest := []) ok_X6_in qw727 ⟨rfl, rfl, Nat.le_of_ble_eq_true rfl, Nat.le_of_ble_eq_true rfl⟩ (m_X6_in X.d hz8) rfl rfl (Nat.le_of_ble_eq_true rfl) dX6_stands_13 ?_
    refine G_ifeq X (tgt := 29) dX6_stands_16 (by decide) (fun c9 => ?_) (fun c9 => ?_)
    · have h := if_t c9 h
      refine G_aload_n X dX6_stands_29 rfl 0 rfl ?_
      refine G_iconst X (v := 0) dX6_stands_30 rfl ?_
      obtain ⟨r10, A12, hz11, h⟩ := cl2_k h
      refine G_callV_i X (As := [.int 0]) (rest := []) ok_X6_finds qw737 0 (eR0 _ _ _) rfl rfl ⟨rfl, rfl, Nat.le_of_ble_eq_true rfl, Nat.le_of_ble_eq_true rfl⟩ (m_X6_finds X.d hz11) rfl rfl (Nat.le_of_ble_eq_true rfl) dX6_stands_31 ?_
      have e := so h
      subst e
      exact hQ _ _ dX6_stands_34
    · have h := if_f c9 h
      refine G_iload_n X dX6_stands_19 rfl 3 rfl ?_
      refine G_i2l X dX6_stands_20 rfl ?_
      refine G_lconst X (v := 0) dX6_stands_21 rfl ?_
      refine G_lconst X (v := 1) dX6_stands_22 rfl ?_
      obtain ⟨r13, hz14, h⟩ := cl_k h
      refine G_callS_i X (As := [.long x3.toInt64, .long 0, .long 1]) (rest := []) ok_X6_in qw727 ⟨rfl, rfl, Nat.le_of_ble_eq_true rfl, Nat.le_of_ble_eq_true rfl⟩ (m_X6_in X.d hz14) rfl rfl (Nat.le_of_ble_eq_true rfl) dX6_stands_23 ?_
      refine G_ifne X (tgt := 35) dX6_stands_26 (by decide) (fun c15 => ?_) (fun c15 => ?_)
      · have h := if_t c15 h
        refine G_aload_n X dX6_stands_29 rfl 0 rfl ?_
        refine G_iconst X (v := 0) dX6_stands_30 rfl ?_
        obtain ⟨r30, A32, hz31, h⟩ := cl2_k h
        refine G_callV_i X (As := [.int 0]) (rest := []) ok_X6_finds qw737 0 (eR0 _ _ _) rfl rfl ⟨rfl, rfl, Nat.le_of_ble_eq_true rfl, Nat.le_of_ble_eq_true rfl⟩ (m_X6_finds X.d hz31) rfl rfl (Nat.le_of_ble_eq_true rfl) dX6_stands_31 ?_
        have e := so h
        subst e
        exact hQ _ _ dX6_stands_34
      · have h := if_f c15 h
        refine G_aload_n X dX6_stands_35 rfl 0 rfl ?_
        refine G_getf X inX6 0 (eR0 _ _ _) rfl 10 (by decide) qw664 rfl dX6_stands_36 ?_
        refine G_iload_n X dX6_stands_39 rfl 1 rfl ?_
        have hi16 := gI_n h
        have h := gI_k h
        have hw17 := vlt hi16
        refine G_aald X (t0 := 3) (b := fAd (eF E) (8 + x1.toNatClampNeg)) 7 (eR7 _ _ _) rfl rfl hi16 (if_pos hw17) dX6_stands_40 ?_
        refine G_iload_n X dX6_stands_41 rfl 2 rfl ?_
        have hi18 := gI_n h
        have h := gI_k h
        refine G_iald X (j := x2.toNatClampNeg) (8 + x1.toNatClampNeg) (eRf8 _ _ _ _ hw17) hi18 rfl dX6_stands_42 ?_
        refine G_ifne X (tgt := 52) dX6_stands_43 (by decide) (fun c19 => ?_) (fun c19 => ?_)
        · have h := if_t c19 h
          refine G_aload_n X dX6_stands_46 rfl 0 rfl ?_
          refine G_iconst X (v := 5) dX6_stands_47 rfl ?_
          obtain ⟨r27, A29, hz28, h⟩ := cl2_k h
          refine G_callV_i X (As := [.int 5]) (rest := []) ok_X6_finds qw737 0 (eR0 _ _ _) rfl rfl ⟨rfl, rfl, Nat.le_of_ble_eq_true rfl, Nat.le_of_ble_eq_true rfl⟩ (m_X6_finds X.d hz28) rfl rfl (Nat.le_of_ble_eq_true rfl) dX6_stands_48 ?_
          have e := so h
          subst e
          exact hQ _ _ dX6_stands_51
        · have h := if_f c19 h
          refine G_iload_n X dX6_stands_52 rfl 3 rfl ?_
          refine G_ifne X (tgt := 69) dX6_stands_53 (by decide) (fun c20 => ?_) (fun c20 => ?_)
          · have h := if_t c20 h
            refine G_aload_n X dX6_stands_56 rfl 0 rfl ?_
            refine G_getf X inX6 0 (eR0 _ _ _) rfl 10 (by decide) qw664 rfl dX6_stands_57 ?_
            refine G_iload_n X dX6_stands_60 rfl 1 rfl ?_
            have hi24 := gI_n h
            have h := gI_k h
            have hw25 := vlt hi24
            refine G_aald X (t0 := 3) (b := fAd (eF E) (8 + x1.toNatClampNeg)) 7 (eR7 _ _ _) rfl rfl hi24 (if_pos hw25) dX6_stands_61 ?_
            refine G_iload_n X dX6_stands_62 rfl 2 rfl ?_
            have hi26 := gI_n h
            have h := gI_k h
            refine G_iald X (j := x2.toNatClampNeg) (8 + x1.toNatClampNeg) (eRf8 _ _ _ _ hw25) hi26 rfl dX6_stands_63 ?_
            refine G_iconst X (v := 1) dX6_stands_64 rfl ?_
            refine G_isub X dX6_stands_65 ?_
            refine G_goto X (tgt := 77) dX6_stands_66 (by decide) ?_
            have e := so h
            subst e
            exact hQ _ _ dX6_stands_77
          · have h := if_f c20 h
            refine G_aload_n X dX6_stands_69 rfl 0 rfl ?_
            refine G_getf X inX6 0 (eR0 _ _ _) rfl 11 (by decide) qw665 rfl dX6_stands_70 ?_
            refine G_iload_n X dX6_stands_73 rfl 1 rfl ?_
            have hi21 := gI_n h
            have h := gI_k h
            have hw22 := vlt hi21
            refine G_aald X (t0 := 3) (b := fAd (eF E) (13 + x1.toNatClampNeg)) 12 (eR12 _ _ _) rfl rfl hi21 (if_pos hw22) dX6_stands_74 ?_
            refine G_iload_n X dX6_stands_75 rfl 2 rfl ?_
            have hi23 := gI_n h
            have h := gI_k h
            refine G_iald X (j := x2.toNatClampNeg) (13 + x1.toNatClampNeg) (eRf13 _ _ _ _ hw22) hi23 rfl dX6_stands_76 ?_
            have e := so h
            subst e
            exact hQ _ _ dX6_stands_77
theorem m_X6_stands {l : Launch} {F : pfF} (hD : ∀ A, va_D (fA F) (cellsR (fAd F) (fCy F) A)) {x1 : Int32} {x2 : Int32} {x3 : Int32} {A : St} {out : Int32 × St} (h : f_X6_stands x1 x2 x3 A = some out) : Mt l F cellsR yX6_stands cX6_stands 4 (some .int) rm_X6_stands [.ref (fAd F 0), .int x1, .int x2, .int x3] A (va_Qi (fun (r : Int32) (u : St) => r = out.1 ∧ u = out.2) (Wd cellsR F) (fA F)) := by
  refine Met_i (by decide +kernel) (Nat.le_of_ble_eq_true rfl) hD (fun E el ef X hQ => ?_)
  subst el
  subst ef
  exact b_X6_stands X _ _ _ _ hQ h
theorem ok_X6_stands : OkV yX6_stands cX6_stands 4 (some .int) 3 := ⟨qw1040, qw1041, qw6, qw1042, by decide, by decide, by decide⟩
noncomputable def f_X6_moves_L22 (l1 : Int32) (l2 : Int32) (l3 : Int32) (A : St) : Option ((Int32 × St) ⊕ ((St) ⊕ (Int32 × St))) :=
  if 6 ≤ l3 then
    some (.inr (.inl A))
  else
    gI l1 4 <|
    gI l3 6 <|
    if (A.1 (8 + l1.toNatClampNeg) l3.toNatClampNeg) ≤ 0 then
      gI l2 4 <|
      gI l1 4 <|
      gI l3 6 <|
      gI l3 6 <|
      bv (upI A (8 + l2.toNatClampNeg) l3.toNatClampNeg (A.1 (8 + l1.toNatClampNeg) l3.toNatClampNeg)) fun A21 =>
      gI l2 4 <|
      gI l1 4 <|
      gI l3 6 <|
      gI l3 6 <|
      bv (upI A21 (13 + l2.toNatClampNeg) l3.toNatClampNeg (A21.1 (13 + l1.toNatClampNeg) l3.toNatClampNeg)) fun A28 =>
      bv (l3 + 1) fun v29 =>
      some (.inl (v29, A28))
    else
      gI l1 4 <|
      gI l3 6 <|
      gI l2 4 <|
      cl (f_X6_isUnder (A.1 (13 + l1.toNatClampNeg) l3.toNatClampNeg) (A.1 6 l2.toNatClampNeg)) fun r34 =>
      if (bI r34) = 0 then
        some (.inr (.inr (l3, A)))
      else
        gI l2 4 <|
        gI l1 4 <|
        gI l3 6 <|
        gI l3 6 <|
        bv (upI A (8 + l2.toNatClampNeg) l3.toNatClampNeg (A.1 (8 + l1.toNatClampNeg) l3.toNatClampNeg)) fun A43 =>
        gI l2 4 <|
        gI l1 4 <|
        gI l3 6 <|
        gI l3 6 <|
        bv (upI A43 (13 + l2.toNatClampNeg) l3.toNatClampNeg (A43.1 (13 + l1.toNatClampNeg) l3.toNatClampNeg)) fun A50 =>
        bv (l3 + 1) fun v51 =>
        some (.inl (v51, A50))
noncomputable def f_X6_moves_X99 (A : St) : Option (Int32 × St) :=
  some (6, A)
noncomputable def f_X6_moves (x1 : Int32) (x2 : Int32) (A : St) : Option (Int32 × St) :=
  cl (f_X6_isShelf x1) fun r1 =>
  if (bI r1) = 0 then
    cl2 (f_X6_finds 0 A) fun r4 A6 =>
    some (r4, A6)
  else
    cl (f_X6_isShelf x2) fun r7 =>
    if (bI r7) = 0 then
      cl2 (f_X6_finds 0 A) fun r53 A55 =>
      some (r53, A55)
    else
      cl (loop (fun s => f_X6_moves_L22 x1 x2 s.1 s.2) (0, A)) (Sum.elim (fun s => f_X6_moves_X99 s) (fun t => some t))
abbrev rm_X6_moves : Room := { frames := 2, cells := 0, slots := 0, locals := 45 }
set_option maxHeartbeats 4000000 in
set_option maxRecDepth 100000 in
theorem g_X6_moves_L22 {E : pfE} (X : CX cellsR E cX6_moves RX6 rm_X6_moves 4) (l1 : Int32) (l2 : Int32) {out : Int32 × St} (hQ : Reti cellsR E cX6_moves out.1 out.2) : ∀ (n : Nat) (l3 : Int32) (A : St) (ρ : (St) ⊕ (Int32 × St)), lp (fun s => f_X6_moves_L22 l1 l2 s.1 s.2) n (l3, A) = some ρ → (∀ (B : St), ρ = .inl B → GG cellsR E B 99 [] []) → (∀ t, ρ = .inr t → t = out) → GG cellsR E A 22 [(0, .ref (fAd (eF E) 0)), (1, .int l1), (2, .int l2), (3, .int l3)] [] := by
  intro n
  induction n with
  | zero =>
    intro l3 A ρ h
    cases h
  | succ n ih =>
    intro l3 A ρ h0 K KR
    obtain ⟨x, hb, hx⟩ := lp_step h0
    have h : f_X6_moves_L22 l1 l2 l3 A = some x := hb
    unfold f_X6_moves_L22 at h
    clear hb h0
    refine G_iload_n X dX6_moves_22 rfl 3 rfl ?_
    refine G_bipush X (v := 6) dX6_moves_23 rfl ?_
    refine G_icge X (tgt := 99) dX6_moves_25 (by decide) (fun c10 => ?_) (fun c10 => ?_)
    · have h := if_t c10 h
      exact G_sub [] rfl (K _ (lpr (so h) hx).symm)
    · have h := if_f c10 h
      refine G_aload_n X dX6_moves_28 rfl 0 rfl ?_
      refine G_getf X inX6 0 (eR0 _ _ _) rfl 10 (by decide) qw664 rfl dX6_moves_29 ?_
      refine G_iload_n X dX6_moves_32 rfl 1 rfl ?_
      have hi11 := gI_n h
      have h := gI_k h
      have hw12 := vlt hi11
      refine G_aald X (t0 := 3) (b := fAd (eF E) (8 + l1.toNatClampNeg)) 7 (eR7 _ _ _) rfl rfl hi11 (if_pos hw12) dX6_moves_33 ?_
      refine G_iload_n X dX6_moves_34 rfl 3 rfl ?_
      have hi13 := gI_n h
      have h := gI_k h
      refine G_iald X (j := l3.toNatClampNeg) (8 + l1.toNatClampNeg) (eRf8 _ _ _ _ hw12) hi13 rfl dX6_moves_35 ?_
      refine G_ifle X (tgt := 61) dX6_moves_36 (by decide) (fun c14 => ?_) (fun c14 => ?_)
      · have h := if_t c14 h
        refine G_aload_n X dX6_moves_61 rfl 0 rfl ?_
        refine G_getf X inX6 0 (eR0 _ _ _) rfl 10 (by decide) qw664 rfl dX6_moves_62 ?_
        refine G_iload_n X dX6_moves_65 rfl 2 rfl ?_
        have hi15 := gI_n h
        have h := gI_k h
        have hw16 := vlt hi15
        refine G_aald X (t0 := 3) (b := fAd (eF E) (8 + l2.toNatClampNeg)) 7 (eR7 _ _ _) rfl rfl hi15 (if_pos hw16) dX6_moves_66 ?_
        refine G_iload_n X dX6_moves_67 rfl 3 rfl ?_
        refine G_aload_n X dX6_moves_68 rfl 0 rfl ?_
        refine G_getf X inX6 0 (eR0 _ _ _) rfl 10 (by decide) qw664 rfl dX6_moves_69 ?_
        refine G_iload_n X dX6_moves_72 rfl 1 rfl ?_
        have hi17 := gI_n h
        have h := gI_k h
        have hw18 := vlt hi17
        refine G_aald X (t0 := 3) (b := fAd (eF E) (8 + l1.toNatClampNeg)) 7 (eR7 _ _ _) rfl rfl hi17 (if_pos hw18) dX6_moves_73 ?_
        refine G_iload_n X dX6_moves_74 rfl 3 rfl ?_
        have hi19 := gI_n h
        have h := gI_k h
        refine G_iald X (j := l3.toNatClampNeg) (8 + l1.toNatClampNeg) (eRf8 _ _ _ _ hw18) hi19 rfl dX6_moves_75 ?_
        have hi20 := gI_n h
        have h := gI_k h
        refine G_iast X (j := l3.toNatClampNeg) (8 + l2.toNatClampNeg) (eRf8 _ _ _ _ hw16) (sRI _ _ _ _ l3.toNatClampNeg _ _ (fun _ => fR8 _ _ _ _ hw16)) hi20 rfl dX6_moves_76 ?_
        refine G_topS (fun A21 eA21 => ?_)
        have h := bv_k eA21 h
        refine G_aload_n X dX6_moves_77 rfl 0 rfl ?_
        refine G_getf X inX6 0 (eR0 _ _ _) rfl 11 (by decide) qw665 rfl dX6_moves_78 ?_
        refine G_iload_n X dX6_moves_81 rfl 2 rfl ?_
        have hi22 := gI_n h
        have h := gI_k h
        have hw23 := vlt hi22
        refine G_aald X (t0 := 3) (b := fAd (eF E) (13 + l2.toNatClampNeg)) 12 (eR12 _ _ _) rfl rfl hi22 (if_pos hw23) dX6_moves_82 ?_
        refine G_iload_n X dX6_moves_83 rfl 3 rfl ?_
        refine G_aload_n X dX6_moves_84 rfl 0 rfl ?_
        refine G_getf X inX6 0 (eR0 _ _ _) rfl 11 (by decide) qw665 rfl dX6_moves_85 ?_
        refine G_iload_n X dX6_moves_88 rfl 1 rfl ?_
        have hi24 := gI_n h
        have h := gI_k h
        have hw25 := vlt hi24
        refine G_aald X (t0 := 3) (b := fAd (eF E) (13 + l1.toNatClampNeg)) 12 (eR12 _ _ _) rfl rfl hi24 (if_pos hw25) dX6_moves_89 ?_
        refine G_iload_n X dX6_moves_90 rfl 3 rfl ?_
        have hi26 := gI_n h
        have h := gI_k h
        refine G_iald X (j := l3.toNatClampNeg) (13 + l1.toNatClampNeg) (eRf13 _ _ _ _ hw25) hi26 rfl dX6_moves_91 ?_
        have hi27 := gI_n h
        have h := gI_k h
        refine G_iast X (j := l3.toNatClampNeg) (13 + l2.toNatClampNeg) (eRf13 _ _ _ _ hw23) (sRI _ _ _ _ l3.toNatClampNeg _ _ (fun _ => fR13 _ _ _ _ hw23)) hi27 rfl dX6_moves_92 ?_
        refine G_topS (fun A28 eA28 => ?_)
        have h := bv_k eA28 h
        obtain ⟨v29, ev29⟩ : ∃ y : Int32, y = l3 + 1 := ⟨_, rfl⟩
        have h := bv_k ev29 h
        refine G_iinc X (q := 3) (v := v29) (lv2 := [(3, .int v29), (0, .ref (fAd (eF E) 0)), (1, .int l1), (2, .int l2)]) dX6_moves_93 rfl (by rw [ev29]; rfl) (by decide) rfl ?_
        refine G_goto X (tgt := 22) dX6_moves_96 (by decide) ?_
        exact G_sub [1, 2, 3, 0] rfl (ih _ _ _ (lpl (so h) hx) K KR)
      · have h := if_f c14 h
        refine G_aload_n X dX6_moves_39 rfl 0 rfl ?_
        refine G_getf X inX6 0 (eR0 _ _ _) rfl 11 (by decide) qw665 rfl dX6_moves_40 ?_
        refine G_iload_n X dX6_moves_43 rfl 1 rfl ?_
        have hi30 := gI_n h
        have h := gI_k h
        have hw31 := vlt hi30
        refine G_aald X (t0 := 3) (b := fAd (eF E) (13 + l1.toNatClampNeg)) 12 (eR12 _ _ _) rfl rfl hi30 (if_pos hw31) dX6_moves_44 ?_
        refine G_iload_n X dX6_moves_45 rfl 3 rfl ?_
        have hi32 := gI_n h
        have h := gI_k h
        refine G_iald X (j := l3.toNatClampNeg) (13 + l1.toNatClampNeg) (eRf13 _ _ _ _ hw31) hi32 rfl dX6_moves_46 ?_
        refine G_aload_n X dX6_moves_47 rfl 0 rfl ?_
        refine G_getf X inX6 0 (eR0 _ _ _) rfl 9 (by decide) qw663 rfl dX6_moves_48 ?_
        refine G_iload_n X dX6_moves_51 rfl 2 rfl ?_
        have hi33 := gI_n h
        have h := gI_k h
        refine G_iald X (j := l2.toNatClampNeg) 6 (eR6 _ _ _) hi33 rfl dX6_moves_52 ?_
        obtain ⟨r34, hz35, h⟩ := cl_k h
        refine G_callS_i X (As := [.int (A.1 (13 + l1.toNatClampNeg) l3.toNatClampNeg), .int (A.1 6 l2.toNatClampNeg)]) (rest := []) ok_X6_isUnder qw767 ⟨rfl, rfl, Nat.le_of_ble_eq_true rfl, Nat.le_of_ble_eq_true rfl⟩ (m_X6_isUnder X.d hz35) rfl rfl (Nat.le_of_ble_eq_true rfl) dX6_moves_53 ?_
        refine G_ifne X (tgt := 61) dX6_moves_56 (by decide) (fun c36 => ?_) (fun c36 => ?_)
        · have h := if_t c36 h
          refine G_iload_n X dX6_moves_59 rfl 3 rfl ?_
          have e := KR _ (lpr (so h) hx).symm
          subst e
          exact hQ _ _ dX6_moves_60
        · have h := if_f c36 h
          refine G_aload_n X dX6_moves_61 rfl 0 rfl ?_
          refine G_getf X inX6 0 (eR0 _ _ _) rfl 10 (by decide) qw664 rfl dX6_moves_62 ?_
          refine G_iload_n X dX6_moves_65 rfl 2 rfl ?_
          have hi37 := gI_n h
          have h := gI_k h
          have hw38 := vlt hi37
          refine G_aald X (t0 := 3) (b := fAd (eF E) (8 + l2.toNatClampNeg)) 7 (eR7 _ _ _) rfl rfl hi37 (if_pos hw38) dX6_moves_66 ?_
          refine G_iload_n X dX6_moves_67 rfl 3 rfl ?_
          refine G_aload_n X dX6_moves_68 rfl 0 rfl ?_
          refine G_getf X inX6 0 (eR0 _ _ _) rfl 10 (by decide) qw664 rfl dX6_moves_69 ?_
          refine G_iload_n X dX6_moves_72 rfl 1 rfl ?_
          have hi39 := gI_n h
          have h := gI_k h
          have hw40 := vlt hi39
          refine G_aald X (t0 := 3) (b := fAd (eF E) (8 + l1.toNatClampNeg)) 7 (eR7 _ _ _) rfl rfl hi39 (if_pos hw40) dX6_moves_73 ?_
          refine G_iload_n X dX6_moves_74 rfl 3 rfl ?_
          have hi41 := gI_n h
          have h := gI_k h
          refine G_iald X (j := l3.toNatClampNeg) (8 + l1.toNatClampNeg) (eRf8 _ _ _ _ hw40) hi41 rfl dX6_moves_75 ?_
          have hi42 := gI_n h
          have h := gI_k h
          refine G_iast X (j := l3.toNatClampNeg) (8 + l2.toNatClampNeg) (eRf8 _ _ _ _ hw38) (sRI _ _ _ _ l3.toNatClampNeg _ _ (fun _ => fR8 _ _ _ _ hw38)) hi42 rfl dX6_moves_76 ?_
          refine G_topS (fun A43 eA43 => ?_)
          have h := bv_k eA43 h
          refine G_aload_n X dX6_moves_77 rfl 0 rfl ?_
          refine G_getf X inX6 0 (eR0 _ _ _) rfl 11 (by decide) qw665 rfl dX6_moves_78 ?_
          refine G_iload_n X dX6_moves_81 rfl 2 rfl ?_
          have hi44 := gI_n h
          have h := gI_k h
          have hw45 := vlt hi44
          refine G_aald X (t0 := 3) (b := fAd (eF E) (13 + l2.toNatClampNeg)) 12 (eR12 _ _ _) rfl rfl hi44 (if_pos hw45) dX6_moves_82 ?_
          refine G_iload_n X dX6_moves_83 rfl 3 rfl ?_
          refine G_aload_n X dX6_moves_84 rfl 0 rfl ?_
          refine G_getf X inX6 0 (eR0 _ _ _) rfl 11 (by decide) qw665 rfl dX6_moves_85 ?_
          refine G_iload_n X dX6_moves_88 rfl 1 rfl ?_
          have hi46 := gI_n h
          have h := gI_k h
          have hw47 := vlt hi46
          refine G_aald X (t0 := 3) (b := fAd (eF E) (13 + l1.toNatClampNeg)) 12 (eR12 _ _ _) rfl rfl hi46 (if_pos hw47) dX6_moves_89 ?_
          refine G_iload_n X dX6_moves_90 rfl 3 rfl ?_
          have hi48 := gI_n h
          have h := gI_k h
          refine G_iald X (j := l3.toNatClampNeg) (13 + l1.toNatClampNeg) (eRf13 _ _ _ _ hw47) hi48 rfl dX6_moves_91 ?_
          have hi49 := gI_n h
          have h := gI_k h
          refine G_iast X (j := l3.toNatClampNeg) (13 + l2.toNatClampNeg) (eRf13 _ _ _ _ hw45) (sRI _ _ _ _ l3.toNatClampNeg _ _ (fun _ => fR13 _ _ _ _ hw45)) hi49 rfl dX6_moves_92 ?_
          refine G_topS (fun A50 eA50 => ?_)
          have h := bv_k eA50 h
          obtain ⟨v51, ev51⟩ : ∃ y : Int32, y = l3 + 1 := ⟨_, rfl⟩
          have h := bv_k ev51 h
          refine G_iinc X (q := 3) (v := v51) (lv2 := [(3, .int v51), (0, .ref (fAd (eF E) 0)), (1, .int l1), (2, .int l2)]) dX6_moves_93 rfl (by rw [ev51]; rfl) (by decide) rfl ?_
          refine G_goto X (tgt := 22) dX6_moves_96 (by decide) ?_
          exact G_sub [1, 2, 3, 0] rfl (ih _ _ _ (lpl (so h) hx) K KR)
set_option maxHeartbeats 4000000 in
set_option maxRecDepth 100000 in
theorem b_X6_moves {E : pfE} (X : CX cellsR E cX6_moves RX6 rm_X6_moves 4) (x1 : Int32) (x2 : Int32) (A : St) {out : Int32 × St} (hQ : Reti cellsR E cX6_moves out.1 out.2) (h : f_X6_moves x1 x2 A = some out) : GG cellsR E A 0 [(0, .ref (fAd (eF E) 0)), (1, .int x1), (2, .int x2)] [] := by
  unfold f_X6_moves at h
  refine G_iload_n X dX6_moves_0 rfl 1 rfl ?_
  obtain ⟨r1, hz2, h⟩ := cl_k h
  refine G_callS_i X (As := [.int x1]) (rest := []) ok_X6_isShelf qw1028 ⟨rfl, rfl, Nat.le_of_ble_eq_true rfl, Nat.le_of_ble_eq_true rfl⟩ (m_X6_isShelf X.d hz2) rfl rfl (Nat.le_of_ble_eq_true rfl) dX6_moves_1 ?_
  refine G_ifeq X (tgt := 14) dX6_moves_4 (by decide) (fun c3 => ?_) (fun c3 => ?_)
  · have h := if_t c3 h
    refine G_aload_n X dX6_moves_14 rfl 0 rfl ?_
    refine G_iconst X (v := 0) dX6_moves_15 rfl ?_
    obtain ⟨r4, A6, hz5, h⟩ := cl2_k h
    refine G_callV_i X (As := [.int 0]) (rest := []) ok_X6_finds qw737 0 (eR0 _ _ _) rfl rfl ⟨rfl, rfl, Nat.le_of_ble_eq_true rfl, Nat.le_of_ble_eq_true rfl⟩ (m_X6_finds X.d hz5) rfl rfl (Nat.le_of_ble_eq_true rfl) dX6_moves_16 ?_
    have e := so h
    subst e
    exact hQ _ _ dX6_moves_19
  · have h := if_f c3 h
    refine G_iload_n X dX6_moves_7 rfl 2 rfl ?_
    obtain ⟨r7, hz8, h⟩ := cl_k h
    refine G_callS_i X (As := [.int x2]) (rest := []) ok_X6_isShelf qw1028 ⟨rfl, rfl, Nat.le_of_ble_eq_true rfl, Nat.le_of_ble_eq_true rfl⟩ (m_X6_isShelf X.d hz8) rfl rfl (Nat.le_of_ble_eq_true rfl) dX6_moves_8 ?_
    refine G_ifne X (tgt := 20) dX6_moves_11 (by decide) (fun c9 => ?_) (fun c9 => ?_)
    · have h := if_t c9 h
      refine G_aload_n X dX6_moves_14 rfl 0 rfl ?_
      refine G_iconst X (v := 0) dX6_moves_15 rfl ?_
      obtain ⟨r53, A55, hz54, h⟩ := cl2_k h
      refine G_callV_i X (As := [.int 0]) (rest := []) ok_X6_finds qw737 0 (eR0 _ _ _) rfl rfl ⟨rfl, rfl, Nat.le_of_ble_eq_true rfl, Nat.le_of_ble_eq_true rfl⟩ (m_X6_finds X.d hz54) rfl rfl (Nat.le_of_ble_eq_true rfl) dX6_moves_16 ?_
      have e := so h
      subst e
      exact hQ _ _ dX6_moves_19
    · have h := if_f c9 h
      refine G_iconst X (v := 0) dX6_moves_20 rfl ?_
      refine G_istore_n X (lv2 := [(3, .int 0), (0, .ref (fAd (eF E) 0)), (1, .int x1), (2, .int x2)]) dX6_moves_21 rfl (by decide) rfl ?_
      obtain ⟨ρ, hl, h⟩ := cl_k h
      obtain ⟨n, hl⟩ := loop_some hl
      refine G_sub [1, 2, 3, 0] rfl (g_X6_moves_L22 X x1 x2 hQ n _ _ ρ hl ?_ (fun t e => by subst e; exact so h))
      intro A52 e
      subst e
      have h : f_X6_moves_X99 A52 = some _ := h
      unfold f_X6_moves_X99 at h
      refine G_bipush X (v := 6) dX6_moves_99 rfl ?_
      have e := so h
      subst e
      exact hQ _ _ dX6_moves_101
theorem m_X6_moves {l : Launch} {F : pfF} (hD : ∀ A, va_D (fA F) (cellsR (fAd F) (fCy F) A)) {x1 : Int32} {x2 : Int32} {A : St} {out : Int32 × St} (h : f_X6_moves x1 x2 A = some out) : Mt l F cellsR yX6_moves cX6_moves 4 (some .int) rm_X6_moves [.ref (fAd F 0), .int x1, .int x2] A (va_Qi (fun (r : Int32) (u : St) => r = out.1 ∧ u = out.2) (Wd cellsR F) (fA F)) := by
  refine Met_i (by decide +kernel) (Nat.le_of_ble_eq_true rfl) hD (fun E el ef X hQ => ?_)
  subst el
  subst ef
  exact b_X6_moves X _ _ _ hQ h
theorem ok_X6_moves : OkV yX6_moves cX6_moves 4 (some .int) 2 := ⟨qw1044, qw1045, qw6, qw1046, by decide, by decide, by decide⟩
noncomputable def f_X6_isSheet (x0 : Int32) : Option (Bool) :=
  cl (f_X6_in x0.toInt64 0 3) fun r1 =>
  some r1
abbrev rm_X6_isSheet : Room := { frames := 1, cells := 0, slots := 0, locals := 25 }
set_option maxHeartbeats 4000000 in
set_option maxRecDepth 100000 in
theorem b_X6_isSheet {wl : pfW} {E : pfE} (X : CX wl E cX6_isSheet RX6 rm_X6_isSheet 1) (x0 : Int32) {A : St} {out : Bool} (hQ : Reti wl E cX6_isSheet (bI out) A) (h : f_X6_isSheet x0 = some out) : GG wl E A 0 [(0, .int x0)] [] := by
  unfold f_X6_isSheet at h
  refine G_iload_n X dX6_isSheet_0 rfl 0 rfl ?_
  refine G_i2l X dX6_isSheet_1 rfl ?_
  refine G_lconst X (v := 0) dX6_isSheet_2 rfl ?_
  refine G_ldc2 X (v := 3) qw730 dX6_isSheet_3 ?_
  obtain ⟨r1, hz2, h⟩ := cl_k h
  refine G_callS_i X (As := [.long x0.toInt64, .long 0, .long 3]) (rest := []) ok_X6_in qw727 ⟨rfl, rfl, Nat.le_of_ble_eq_true rfl, Nat.le_of_ble_eq_true rfl⟩ (m_X6_in X.d hz2) rfl rfl (Nat.le_of_ble_eq_true rfl) dX6_isSheet_6 ?_
  have e := so h
  subst e
  exact hQ _ _ dX6_isSheet_9
theorem m_X6_isSheet {wl : pfW} {l : Launch} {F : pfF} (hD : ∀ A, va_D (fA F) (wl (fAd F) (fCy F) A)) {x0 : Int32} {A : St} {out : Bool} (h : f_X6_isSheet x0 = some out) : Mt l F wl yX6_isSheet cX6_isSheet 1 (some .boolean) rm_X6_isSheet [.int x0] A (va_Qi (fun (r : Int32) (u : St) => r = bI out ∧ u = A) (Wd wl F) (fA F)) := by
  refine Met_iz (by decide +kernel) (Nat.le_of_ble_eq_true rfl) hD (nar_bI _) (fun E el ef X hQ => ?_)
  subst el
  subst ef
  exact b_X6_isSheet X _ hQ h
theorem ok_X6_isSheet : OkS yX6_isSheet cX6_isSheet 1 (some .boolean) 1 := ⟨qw1052, qw6, qw1053, by decide, by decide, by decide⟩
noncomputable def f_X6_sheet_L83 (l1 : Int32) (l4 : Int32) (A : St) : Option ((Int32 × St) ⊕ (St)) :=
  if 40 ≤ l4 then
    some (.inr A)
  else
    gI l1 4 <|
    gI l4 40 <|
    bv (upI A (20 + l1.toNatClampNeg) l4.toNatClampNeg 0) fun A21 =>
    gI l1 4 <|
    gI l4 40 <|
    bv (upF A21 (25 + l1.toNatClampNeg) l4.toNatClampNeg FP.fconst0) fun A25 =>
    gI l1 4 <|
    gI l4 40 <|
    bv (upD A25 (30 + l1.toNatClampNeg) l4.toNatClampNeg FP.dconst0) fun A29 =>
    bv (l4 + 1) fun v30 =>
    some (.inl (v30, A29))
noncomputable def f_X6_sheet_X126 (A : St) (m1 : Int32) : Option (Int32 × St) :=
  gI m1 4 <|
  some (A.1 18 m1.toNatClampNeg, A)
noncomputable def f_X6_sheet (x1 : Int32) (x2 : Int32) (x3 : Int32) (A : St) : Option (Int32 × St) :=
  cl (f_X6_isSheet x1) fun r1 =>
  if (bI r1) = 0 then
    cl2 (f_X6_finds 0 A) fun r4 A6 =>
    some (r4, A6)
  else
    cl (f_X6_in x2.toInt64 (-1) 2) fun r7 =>
    if (bI r7) = 0 then
      cl2 (f_X6_finds 0 A) fun r84 A86 =>
      some (r84, A86)
    else
      if x2 < 0 then
        if x2 < 0 then
          gI x1 4 <|
          bv (upI A 17 x1.toNatClampNeg x2) fun A13 =>
          if 0 ≤ x2 then
            gI x1 4 <|
            bv (upI A13 18 x1.toNatClampNeg x3) fun A16 =>
            cl (loop (fun s => f_X6_sheet_L83 x1 s.1 s.2) (0, A16)) (fun s => f_X6_sheet_X126 s x1)
          else
            gI x1 4 <|
            bv (upI A13 18 x1.toNatClampNeg 0) fun A35 =>
            cl (loop (fun s => f_X6_sheet_L83 x1 s.1 s.2) (0, A35)) (fun s => f_X6_sheet_X126 s x1)
        else
          if x3 ≤ 40 then
            gI x1 4 <|
            bv (upI A 17 x1.toNatClampNeg x2) fun A40 =>
            if 0 ≤ x2 then
              gI x1 4 <|
              bv (upI A40 18 x1.toNatClampNeg x3) fun A43 =>
              cl (loop (fun s => f_X6_sheet_L83 x1 s.1 s.2) (0, A43)) (fun s => f_X6_sheet_X126 s x1)
            else
              gI x1 4 <|
              bv (upI A40 18 x1.toNatClampNeg 0) fun A47 =>
              cl (loop (fun s => f_X6_sheet_L83 x1 s.1 s.2) (0, A47)) (fun s => f_X6_sheet_X126 s x1)
          else
            cl2 (f_X6_finds 0 A) fun r50 A52 =>
            some (r50, A52)
      else
        if 0 ≤ x3 then
          if x2 < 0 then
            gI x1 4 <|
            bv (upI A 17 x1.toNatClampNeg x2) fun A56 =>
            if 0 ≤ x2 then
              gI x1 4 <|
              bv (upI A56 18 x1.toNatClampNeg x3) fun A59 =>
              cl (loop (fun s => f_X6_sheet_L83 x1 s.1 s.2) (0, A59)) (fun s => f_X6_sheet_X126 s x1)
            else
              gI x1 4 <|
              bv (upI A56 18 x1.toNatClampNeg 0) fun A63 =>
              cl (loop (fun s => f_X6_sheet_L83 x1 s.1 s.2) (0, A63)) (fun s => f_X6_sheet_X126 s x1)
          else
            if x3 ≤ 40 then
              gI x1 4 <|
              bv (upI A 17 x1.toNatClampNeg x2) fun A68 =>
              if 0 ≤ x2 then
                gI x1 4 <|
                bv (upI A68 18 x1.toNatClampNeg x3) fun A71 =>
                cl (loop (fun s => f_X6_sheet_L83 x1 s.1 s.2) (0, A71)) (fun s => f_X6_sheet_X126 s x1)
              else
                gI x1 4 <|
                bv (upI A68 18 x1.toNatClampNeg 0) fun A75 =>
                cl (loop (fun s => f_X6_sheet_L83 x1 s.1 s.2) (0, A75)) (fun s => f_X6_sheet_X126 s x1)
            else
              cl2 (f_X6_finds 0 A) fun r78 A80 =>
              some (r78, A80)
        else
          cl2 (f_X6_finds 6 A) fun r81 A83 =>
          some (r81, A83)
abbrev rm_X6_sheet : Room := { frames := 2, cells := 0, slots := 0, locals := 45 }
set_option maxHeartbeats 4000000 in
set_option maxRecDepth 100000 in
theorem g_X6_sheet_L83 {E : pfE} (X : CX cellsR E cX6_sheet RX6 rm_X6_sheet 5) (l1 : Int32) : ∀ (n : Nat) (l4 : Int32) (A : St) (ρ : St), lp (fun s => f_X6_sheet_L83 l1 s.1 s.2) n (l4, A) = some ρ → (∀ (B : St), ρ = B → GG cellsR E B 126 [(0, .ref (fAd (eF E) 0)), (1, .int l1)] []) → GG cellsR E A 83 [(0, .ref (fAd (eF E) 0)), (1, .int l1), (4, .int l4)] [] := by
  intro n
  induction n with
  | zero =>
    intro l4 A ρ h
    cases h
  | succ n ih =>
    intro l4 A ρ h0 K
    obtain ⟨x, hb, hx⟩ := lp_step h0
    have h : f_X6_sheet_L83 l1 l4 A = some x := hb
    unfold f_X6_sheet_L83 at h
    clear hb h0
    refine G_iload X dX6_sheet_83 2 rfl ?_
    refine G_bipush X (v := 40) dX6_sheet_85 rfl ?_
    refine G_icge X (tgt := 126) dX6_sheet_87 (by decide) (fun c17 => ?_) (fun c17 => ?_)
    · have h := if_t c17 h
      exact G_sub [0, 1] rfl (K _ (lpr (so h) hx).symm)
    · have h := if_f c17 h
      refine G_aload_n X dX6_sheet_90 rfl 0 rfl ?_
      refine G_getf X inX6 0 (eR0 _ _ _) rfl 14 (by decide) qw668 rfl dX6_sheet_91 ?_
      refine G_iload_n X dX6_sheet_94 rfl 1 rfl ?_
      have hi18 := gI_n h
      have h := gI_k h
      have hw19 := vlt hi18
      refine G_aald X (t0 := 3) (b := fAd (eF E) (20 + l1.toNatClampNeg)) 19 (eR19 _ _ _) rfl rfl hi18 (if_pos hw19) dX6_sheet_95 ?_
      refine G_iload X dX6_sheet_96 2 rfl ?_
      refine G_iconst X (v := 0) dX6_sheet_98 rfl ?_
      have hi20 := gI_n h
      have h := gI_k h
      refine G_iast X (j := l4.toNatClampNeg) (20 + l1.toNatClampNeg) (eRf20 _ _ _ _ hw19) (sRI _ _ _ _ l4.toNatClampNeg _ _ (fun _ => fR20 _ _ _ _ hw19)) hi20 rfl dX6_sheet_99 ?_
      refine G_topS (fun A21 eA21 => ?_)
      have h := bv_k eA21 h
      refine G_aload_n X dX6_sheet_100 rfl 0 rfl ?_
      refine G_getf X inX6 0 (eR0 _ _ _) rfl 15 (by decide) qw669 rfl dX6_sheet_101 ?_
      refine G_iload_n X dX6_sheet_104 rfl 1 rfl ?_
      have hi22 := gI_n h
      have h := gI_k h
      have hw23 := vlt hi22
      refine G_aald X (t0 := 5) (b := fAd (eF E) (25 + l1.toNatClampNeg)) 24 (eR24 _ _ _) rfl rfl hi22 (if_pos hw23) dX6_sheet_105 ?_
      refine G_iload X dX6_sheet_106 2 rfl ?_
      refine G_fconst0 X dX6_sheet_108 ?_
      have hi24 := gI_n h
      have h := gI_k h
      refine G_fast X (j := l4.toNatClampNeg) (25 + l1.toNatClampNeg) (eRf25 _ _ _ _ hw23) (sRF _ _ _ _ l4.toNatClampNeg _ _ (fun _ => fR25 _ _ _ _ hw23)) hi24 rfl dX6_sheet_109 ?_
      refine G_topS (fun A25 eA25 => ?_)
      have h := bv_k eA25 h
      refine G_aload_n X dX6_sheet_110 rfl 0 rfl ?_
      refine G_getf X inX6 0 (eR0 _ _ _) rfl 16 (by decide) qw670 rfl dX6_sheet_111 ?_
      refine G_iload_n X dX6_sheet_114 rfl 1 rfl ?_
      have hi26 := gI_n h
      have h := gI_k h
      have hw27 := vlt hi26
      refine G_aald X (t0 := 4) (b := fAd (eF E) (30 + l1.toNatClampNeg)) 29 (eR29 _ _ _) rfl rfl hi26 (if_pos hw27) dX6_sheet_115 ?_
      refine G_iload X dX6_sheet_116 2 rfl ?_
      refine G_dconst0 X dX6_sheet_118 ?_
      have hi28 := gI_n h
      have h := gI_k h
      refine G_dast X (j := l4.toNatClampNeg) (30 + l1.toNatClampNeg) (eRf30 _ _ _ _ hw27) (sRD _ _ _ _ l4.toNatClampNeg _ _ (fun _ => fR30 _ _ _ _ hw27)) hi28 rfl dX6_sheet_119 ?_
      refine G_topS (fun A29 eA29 => ?_)
      have h := bv_k eA29 h
      obtain ⟨v30, ev30⟩ : ∃ y : Int32, y = l4 + 1 := ⟨_, rfl⟩
      have h := bv_k ev30 h
      refine G_iinc X (q := 2) (v := v30) (lv2 := [(4, .int v30), (0, .ref (fAd (eF E) 0)), (1, .int l1)]) dX6_sheet_120 rfl (by rw [ev30]; rfl) (by decide) rfl ?_
      refine G_goto X (tgt := 83) dX6_sheet_123 (by decide) ?_
      exact G_sub [1, 2, 0] rfl (ih _ _ _ (lpl (so h) hx) K)
set_option maxHeartbeats 4000000 in
set_option maxRecDepth 100000 in
theorem b_X6_sheet {E : pfE} (X : CX cellsR E cX6_sheet RX6 rm_X6_sheet 5) (x1 : Int32) (x2 : Int32) (x3 : Int32) (A : St) {out : Int32 × St} (hQ : Reti cellsR E cX6_sheet out.1 out.2) (h : f_X6_sheet x1 x2 x3 A = some out) : GG cellsR E A 0 [(0, .ref (fAd (eF E) 0)), (1, .int x1), (2, .int x2), (3, .int x3)] [] := by
  unfold f_X6_sheet at h
  refine G_iload_n X dX6_sheet_0 rfl 1 rfl ?_
  obtain ⟨r1, hz2, h⟩ := cl_k h
  refine G_callS_i X (As := [.int x1]) (rest := []) ok_X6_isSheet qw1051 ⟨rfl, rfl, Nat.le_of_ble_eq_true rfl, Nat.le_of_ble_eq_true rfl⟩ (m_X6_isSheet X.d hz2) rfl rfl (Nat.le_of_ble_eq_true rfl) dX6_sheet_1 ?_
  refine G_ifeq X (tgt := 21) dX6_sheet_4 (by decide) (fun c3 => ?_) (fun c3 => ?_)
  · have h := if_t c3 h
    refine G_aload_n X dX6_sheet_21 rfl 0 rfl ?_
    refine G_iconst X (v := 0) dX6_sheet_22 rfl ?_
    obtain ⟨r4, A6, hz5, h⟩ := cl2_k h
    refine G_callV_i X (As := [.int 0]) (rest := []) ok_X6_finds qw737 0 (eR0 _ _ _) rfl rfl ⟨rfl, rfl, Nat.le_of_ble_eq_true rfl, Nat.le_of_ble_eq_true rfl⟩ (m_X6_finds X.d hz5) rfl rfl (Nat.le_of_ble_eq_true rfl) dX6_sheet_23 ?_
    have e := so h
    subst e
    exact hQ _ _ dX6_sheet_26
  · have h := if_f c3 h
    refine G_iload_n X dX6_sheet_7 rfl 2 rfl ?_
    refine G_i2l X dX6_sheet_8 rfl ?_
    refine G_ldc2 X (v := (-1)) qw735 dX6_sheet_9 ?_
    refine G_ldc2 X (v := 2) qw906 dX6_sheet_12 ?_
    obtain ⟨r7, hz8, h⟩ := cl_k h
    refine G_callS_i X (As := [.long x2.toInt64, .long (-1), .long 2]) (rest := []) ok_X6_in qw727 ⟨rfl, rfl, Nat.le_of_ble_eq_true rfl, Nat.le_of_ble_eq_true rfl⟩ (m_X6_in X.d hz8) rfl rfl (Nat.le_of_ble_eq_true rfl) dX6_sheet_15 ?_
    refine G_ifne X (tgt := 27) dX6_sheet_18 (by decide) (fun c9 => ?_) (fun c9 => ?_)
    · have h := if_t c9 h
      refine G_aload_n X dX6_sheet_21 rfl 0 rfl ?_
      refine G_iconst X (v := 0) dX6_sheet_22 rfl ?_
      obtain ⟨r84, A86, hz85, h⟩ := cl2_k h
      refine G_callV_i X (As := [.int 0]) (rest := []) ok_X6_finds qw737 0 (eR0 _ _ _) rfl rfl ⟨rfl, rfl, Nat.le_of_ble_eq_true rfl, Nat.le_of_ble_eq_true rfl⟩ (m_X6_finds X.d hz85) rfl rfl (Nat.le_of_ble_eq_true rfl) dX6_sheet_23 ?_
      have e := so h
      subst e
      exact hQ _ _ dX6_sheet_26
    · have h := if_f c9 h
      refine G_iload_n X dX6_sheet_27 rfl 2 rfl ?_
      refine G_iflt X (tgt := 42) dX6_sheet_28 (by decide) (fun c10 => ?_) (fun c10 => ?_)
      · have h := if_t c10 h
        refine G_iload_n X dX6_sheet_42 rfl 2 rfl ?_
        refine G_iflt X (tgt := 58) dX6_sheet_43 (by decide) (fun c11 => ?_) (fun c11 => ?_)
        · have h := if_t c11 h
          refine G_aload_n X dX6_sheet_58 rfl 0 rfl ?_
          refine G_getf X inX6 0 (eR0 _ _ _) rfl 12 (by decide) qw666 rfl dX6_sheet_59 ?_
          refine G_iload_n X dX6_sheet_62 rfl 1 rfl ?_
          refine G_iload_n X dX6_sheet_63 rfl 2 rfl ?_
          have hi12 := gI_n h
          have h := gI_k h
          refine G_iast X (j := x1.toNatClampNeg) 17 (eR17 _ _ _) (sRI _ _ _ _ x1.toNatClampNeg _ _ (fun _ => rfl)) hi12 rfl dX6_sheet_64 ?_
          refine G_topS (fun A13 eA13 => ?_)
          have h := bv_k eA13 h
          refine G_aload_n X dX6_sheet_65 rfl 0 rfl ?_
          refine G_getf X inX6 0 (eR0 _ _ _) rfl 13 (by decide) qw667 rfl dX6_sheet_66 ?_
          refine G_iload_n X dX6_sheet_69 rfl 1 rfl ?_
          refine G_iload_n X dX6_sheet_70 rfl 2 rfl ?_
          refine G_ifge X (tgt := 78) dX6_sheet_71 (by decide) (fun c14 => ?_) (fun c14 => ?_)
          · have h := if_t c14 h
            refine G_iload_n X dX6_sheet_78 rfl 3 rfl ?_
            have hi15 := gI_n h
            have h := gI_k h
            refine G_iast X (j := x1.toNatClampNeg) 18 (eR18 _ _ _) (sRI _ _ _ _ x1.toNatClampNeg _ _ (fun _ => rfl)) hi15 rfl dX6_sheet_79 ?_
            refine G_topS (fun A16 eA16 => ?_)
            have h := bv_k eA16 h
            refine G_iconst X (v := 0) dX6_sheet_80 rfl ?_
            refine G_istore X (lv2 := [(4, .int 0), (0, .ref (fAd (eF E) 0)), (1, .int x1), (2, .int x2), (3, .int x3)]) dX6_sheet_81 (by decide) rfl ?_
            obtain ⟨ρ, hl, h⟩ := cl_k h
            obtain ⟨n, hl⟩ := loop_some hl
            refine G_sub [1, 2, 0] rfl (g_X6_sheet_L83 X x1 n _ _ ρ hl ?_)
            intro A31 e
            rw [e] at h
            have h : f_X6_sheet_X126 A31 x1 = some _ := h
            unfold f_X6_sheet_X126 at h
            refine G_aload_n X dX6_sheet_126 rfl 0 rfl ?_
            refine G_getf X inX6 0 (eR0 _ _ _) rfl 13 (by decide) qw667 rfl dX6_sheet_127 ?_
            refine G_iload_n X dX6_sheet_130 rfl 1 rfl ?_
            have hi32 := gI_n h
            have h := gI_k h
            refine G_iald X (j := x1.toNatClampNeg) 18 (eR18 _ _ _) hi32 rfl dX6_sheet_131 ?_
            have e := so h
            subst e
            exact hQ _ _ dX6_sheet_132
          · have h := if_f c14 h
            refine G_iconst X (v := 0) dX6_sheet_74 rfl ?_
            refine G_goto X (tgt := 79) dX6_sheet_75 (by decide) ?_
            have hi34 := gI_n h
            have h := gI_k h
            refine G_iast X (j := x1.toNatClampNeg) 18 (eR18 _ _ _) (sRI _ _ _ _ x1.toNatClampNeg _ _ (fun _ => rfl)) hi34 rfl dX6_sheet_79 ?_
            refine G_topS (fun A35 eA35 => ?_)
            have h := bv_k eA35 h
            refine G_iconst X (v := 0) dX6_sheet_80 rfl ?_
            refine G_istore X (lv2 := [(4, .int 0), (0, .ref (fAd (eF E) 0)), (1, .int x1), (2, .int x2), (3, .int x3)]) dX6_sheet_81 (by decide) rfl ?_
            obtain ⟨ρ, hl, h⟩ := cl_k h
            obtain ⟨n, hl⟩ := loop_some hl
            refine G_sub [1, 2, 0] rfl (g_X6_sheet_L83 X x1 n _ _ ρ hl ?_)
            intro A36 e
            rw [e] at h
            have h : f_X6_sheet_X126 A36 x1 = some _ := h
            unfold f_X6_sheet_X126 at h
            refine G_aload_n X dX6_sheet_126 rfl 0 rfl ?_
            refine G_getf X inX6 0 (eR0 _ _ _) rfl 13 (by decide) qw667 rfl dX6_sheet_127 ?_
            refine G_iload_n X dX6_sheet_130 rfl 1 rfl ?_
            have hi37 := gI_n h
            have h := gI_k h
            refine G_iald X (j := x1.toNatClampNeg) 18 (eR18 _ _ _) hi37 rfl dX6_sheet_131 ?_
            have e := so h
            subst e
            exact hQ _ _ dX6_sheet_132
        · have h := if_f c11 h
          refine G_iload_n X dX6_sheet_46 rfl 3 rfl ?_
          refine G_bipush X (v := 40) dX6_sheet_47 rfl ?_
          refine G_icle X (tgt := 58) dX6_sheet_49 (by decide) (fun c38 => ?_) (fun c38 => ?_)
          · have h := if_t c38 h
            refine G_aload_n X dX6_sheet_58 rfl 0 rfl ?_
            refine G_getf X inX6 0 (eR0 _ _ _) rfl 12 (by decide) qw666 rfl dX6_sheet_59 ?_
            refine G_iload_n X dX6_sheet_62 rfl 1 rfl ?_
            refine G_iload_n X dX6_sheet_63 rfl 2 rfl ?_
            have hi39 := gI_n h
            have h := gI_k h
            refine G_iast X (j := x1.toNatClampNeg) 17 (eR17 _ _ _) (sRI _ _ _ _ x1.toNatClampNeg _ _ (fun _ => rfl)) hi39 rfl dX6_sheet_64 ?_
            refine G_topS (fun A40 eA40 => ?_)
            have h := bv_k eA40 h
            refine G_aload_n X dX6_sheet_65 rfl 0 rfl ?_
            refine G_getf X inX6 0 (eR0 _ _ _) rfl 13 (by decide) qw667 rfl dX6_sheet_66 ?_
            refine G_iload_n X dX6_sheet_69 rfl 1 rfl ?_
            refine G_iload_n X dX6_sheet_70 rfl 2 rfl ?_
            refine G_ifge X (tgt := 78) dX6_sheet_71 (by decide) (fun c41 => ?_) (fun c41 => ?_)
            · have h := if_t c41 h
              refine G_iload_n X dX6_sheet_78 rfl 3 rfl ?_
              have hi42 := gI_n h
              have h := gI_k h
              refine G_iast X (j := x1.toNatClampNeg) 18 (eR18 _ _ _) (sRI _ _ _ _ x1.toNatClampNeg _ _ (fun _ => rfl)) hi42 rfl dX6_sheet_79 ?_
              refine G_topS (fun A43 eA43 => ?_)
              have h := bv_k eA43 h
              refine G_iconst X (v := 0) dX6_sheet_80 rfl ?_
              refine G_istore X (lv2 := [(4, .int 0), (0, .ref (fAd (eF E) 0)), (1, .int x1), (2, .int x2), (3, .int x3)]) dX6_sheet_81 (by decide) rfl ?_
              obtain ⟨ρ, hl, h⟩ := cl_k h
              obtain ⟨n, hl⟩ := loop_some hl
              refine G_sub [1, 2, 0] rfl (g_X6_sheet_L83 X x1 n _ _ ρ hl ?_)
              intro A44 e
              rw [e] at h
              have h : f_X6_sheet_X126 A44 x1 = some _ := h
              unfold f_X6_sheet_X126 at h
              refine G_aload_n X dX6_sheet_126 rfl 0 rfl ?_
              refine G_getf X inX6 0 (eR0 _ _ _) rfl 13 (by decide) qw667 rfl dX6_sheet_127 ?_
              refine G_iload_n X dX6_sheet_130 rfl 1 rfl ?_
              have hi45 := gI_n h
              have h := gI_k h
              refine G_iald X (j := x1.toNatClampNeg) 18 (eR18 _ _ _) hi45 rfl dX6_sheet_131 ?_
              have e := so h
              subst e
              exact hQ _ _ dX6_sheet_132
            · have h := if_f c41 h
              refine G_iconst X (v := 0) dX6_sheet_74 rfl ?_
              refine G_goto X (tgt := 79) dX6_sheet_75 (by decide) ?_
              have hi46 := gI_n h
              have h := gI_k h
              refine G_iast X (j := x1.toNatClampNeg) 18 (eR18 _ _ _) (sRI _ _ _ _ x1.toNatClampNeg _ _ (fun _ => rfl)) hi46 rfl dX6_sheet_79 ?_
              refine G_topS (fun A47 eA47 => ?_)
              have h := bv_k eA47 h
              refine G_iconst X (v := 0) dX6_sheet_80 rfl ?_
              refine G_istore X (lv2 := [(4, .int 0), (0, .ref (fAd (eF E) 0)), (1, .int x1), (2, .int x2), (3, .int x3)]) dX6_sheet_81 (by decide) rfl ?_
              obtain ⟨ρ, hl, h⟩ := cl_k h
              obtain ⟨n, hl⟩ := loop_some hl
              refine G_sub [1, 2, 0] rfl (g_X6_sheet_L83 X x1 n _ _ ρ hl ?_)
              intro A48 e
              rw [e] at h
              have h : f_X6_sheet_X126 A48 x1 = some _ := h
              unfold f_X6_sheet_X126 at h
              refine G_aload_n X dX6_sheet_126 rfl 0 rfl ?_
              refine G_getf X inX6 0 (eR0 _ _ _) rfl 13 (by decide) qw667 rfl dX6_sheet_127 ?_
              refine G_iload_n X dX6_sheet_130 rfl 1 rfl ?_
              have hi49 := gI_n h
              have h := gI_k h
              refine G_iald X (j := x1.toNatClampNeg) 18 (eR18 _ _ _) hi49 rfl dX6_sheet_131 ?_
              have e := so h
              subst e
              exact hQ _ _ dX6_sheet_132
          · have h := if_f c38 h
            refine G_aload_n X dX6_sheet_52 rfl 0 rfl ?_
            refine G_iconst X (v := 0) dX6_sheet_53 rfl ?_
            obtain ⟨r50, A52, hz51, h⟩ := cl2_k h
            refine G_callV_i X (As := [.int 0]) (rest := []) ok_X6_finds qw737 0 (eR0 _ _ _) rfl rfl ⟨rfl, rfl, Nat.le_of_ble_eq_true rfl, Nat.le_of_ble_eq_true rfl⟩ (m_X6_finds X.d hz51) rfl rfl (Nat.le_of_ble_eq_true rfl) dX6_sheet_54 ?_
            have e := so h
            subst e
            exact hQ _ _ dX6_sheet_57
      · have h := if_f c10 h
        refine G_iload_n X dX6_sheet_31 rfl 3 rfl ?_
        refine G_ifge X (tgt := 42) dX6_sheet_32 (by decide) (fun c53 => ?_) (fun c53 => ?_)
        · have h := if_t c53 h
          refine G_iload_n X dX6_sheet_42 rfl 2 rfl ?_
          refine G_iflt X (tgt := 58) dX6_sheet_43 (by decide) (fun c54 => ?_) (fun c54 => ?_)
          · have h := if_t c54 h
            refine G_aload_n X dX6_sheet_58 rfl 0 rfl ?_
            refine G_getf X inX6 0 (eR0 _ _ _) rfl 12 (by decide) qw666 rfl dX6_sheet_59 ?_
            refine G_iload_n X dX6_sheet_62 rfl 1 rfl ?_
            refine G_iload_n X dX6_sheet_63 rfl 2 rfl ?_
            have hi55 := gI_n h
            have h := gI_k h
            refine G_iast X (j := x1.toNatClampNeg) 17 (eR17 _ _ _) (sRI _ _ _ _ x1.toNatClampNeg _ _ (fun _ => rfl)) hi55 rfl dX6_sheet_64 ?_
            refine G_topS (fun A56 eA56 => ?_)
            have h := bv_k eA56 h
            refine G_aload_n X dX6_sheet_65 rfl 0 rfl ?_
            refine G_getf X inX6 0 (eR0 _ _ _) rfl 13 (by decide) qw667 rfl dX6_sheet_66 ?_
            refine G_iload_n X dX6_sheet_69 rfl 1 rfl ?_
            refine G_iload_n X dX6_sheet_70 rfl 2 rfl ?_
            refine G_ifge X (tgt := 78) dX6_sheet_71 (by decide) (fun c57 => ?_) (fun c57 => ?_)
            · have h := if_t c57 h
              refine G_iload_n X dX6_sheet_78 rfl 3 rfl ?_
              have hi58 := gI_n h
              have h := gI_k h
              refine G_iast X (j := x1.toNatClampNeg) 18 (eR18 _ _ _) (sRI _ _ _ _ x1.toNatClampNeg _ _ (fun _ => rfl)) hi58 rfl dX6_sheet_79 ?_
              refine G_topS (fun A59 eA59 => ?_)
              have h := bv_k eA59 h
              refine G_iconst X (v := 0) dX6_sheet_80 rfl ?_
              refine G_istore X (lv2 := [(4, .int 0), (0, .ref (fAd (eF E) 0)), (1, .int x1), (2, .int x2), (3, .int x3)]) dX6_sheet_81 (by decide) rfl ?_
              obtain ⟨ρ, hl, h⟩ := cl_k h
              obtain ⟨n, hl⟩ := loop_some hl
              refine G_sub [1, 2, 0] rfl (g_X6_sheet_L83 X x1 n _ _ ρ hl ?_)
              intro A60 e
              rw [e] at h
              have h : f_X6_sheet_X126 A60 x1 = some _ := h
              unfold f_X6_sheet_X126 at h
              refine G_aload_n X dX6_sheet_126 rfl 0 rfl ?_
              refine G_getf X inX6 0 (eR0 _ _ _) rfl 13 (by decide) qw667 rfl dX6_sheet_127 ?_
              refine G_iload_n X dX6_sheet_130 rfl 1 rfl ?_
              have hi61 := gI_n h
              have h := gI_k h
              refine G_iald X (j := x1.toNatClampNeg) 18 (eR18 _ _ _) hi61 rfl dX6_sheet_131 ?_
              have e := so h
              subst e
              exact hQ _ _ dX6_sheet_132
            · have h := if_f c57 h
              refine G_iconst X (v := 0) dX6_sheet_74 rfl ?_
              refine G_goto X (tgt := 79) dX6_sheet_75 (by decide) ?_
              have hi62 := gI_n h
              have h := gI_k h
              refine G_iast X (j := x1.toNatClampNeg) 18 (eR18 _ _ _) (sRI _ _ _ _ x1.toNatClampNeg _ _ (fun _ => rfl)) hi62 rfl dX6_sheet_79 ?_
              refine G_topS (fun A63 eA63 => ?_)
              have h := bv_k eA63 h
              refine G_iconst X (v := 0) dX6_sheet_80 rfl ?_
              refine G_istore X (lv2 := [(4, .int 0), (0, .ref (fAd (eF E) 0)), (1, .int x1), (2, .int x2), (3, .int x3)]) dX6_sheet_81 (by decide) rfl ?_
              obtain ⟨ρ, hl, h⟩ := cl_k h
              obtain ⟨n, hl⟩ := loop_some hl
              refine G_sub [1, 2, 0] rfl (g_X6_sheet_L83 X x1 n _ _ ρ hl ?_)
              intro A64 e
              rw [e] at h
              have h : f_X6_sheet_X126 A64 x1 = some _ := h
              unfold f_X6_sheet_X126 at h
              refine G_aload_n X dX6_sheet_126 rfl 0 rfl ?_
              refine G_getf X inX6 0 (eR0 _ _ _) rfl 13 (by decide) qw667 rfl dX6_sheet_127 ?_
              refine G_iload_n X dX6_sheet_130 rfl 1 rfl ?_
              have hi65 := gI_n h
              have h := gI_k h
              refine G_iald X (j := x1.toNatClampNeg) 18 (eR18 _ _ _) hi65 rfl dX6_sheet_131 ?_
              have e := so h
              subst e
              exact hQ _ _ dX6_sheet_132
          · have h := if_f c54 h
            refine G_iload_n X dX6_sheet_46 rfl 3 rfl ?_
            refine G_bipush X (v := 40) dX6_sheet_47 rfl ?_
            refine G_icle X (tgt := 58) dX6_sheet_49 (by decide) (fun c66 => ?_) (fun c66 => ?_)
            · have h := if_t c66 h
              refine G_aload_n X dX6_sheet_58 rfl 0 rfl ?_
              refine G_getf X inX6 0 (eR0 _ _ _) rfl 12 (by decide) qw666 rfl dX6_sheet_59 ?_
              refine G_iload_n X dX6_sheet_62 rfl 1 rfl ?_
              refine G_iload_n X dX6_sheet_63 rfl 2 rfl ?_
              have hi67 := gI_n h
              have h := gI_k h
              refine G_iast X (j := x1.toNatClampNeg) 17 (eR17 _ _ _) (sRI _ _ _ _ x1.toNatClampNeg _ _ (fun _ => rfl)) hi67 rfl dX6_sheet_64 ?_
              refine G_topS (fun A68 eA68 => ?_)
              have h := bv_k eA68 h
              refine G_aload_n X dX6_sheet_65 rfl 0 rfl ?_
              refine G_getf X inX6 0 (eR0 _ _ _) rfl 13 (by decide) qw667 rfl dX6_sheet_66 ?_
              refine G_iload_n X dX6_sheet_69 rfl 1 rfl ?_
              refine G_iload_n X dX6_sheet_70 rfl 2 rfl ?_
              refine G_ifge X (tgt := 78) dX6_sheet_71 (by decide) (fun c69 => ?_) (fun c69 => ?_)
              · have h := if_t c69 h
                refine G_iload_n X dX6_sheet_78 rfl 3 rfl ?_
                have hi70 := gI_n h
                have h := gI_k h
                refine G_iast X (j := x1.toNatClampNeg) 18 (eR18 _ _ _) (sRI _ _ _ _ x1.toNatClampNeg _ _ (fun _ => rfl)) hi70 rfl dX6_sheet_79 ?_
                refine G_topS (fun A71 eA71 => ?_)
                have h := bv_k eA71 h
                refine G_iconst X (v := 0) dX6_sheet_80 rfl ?_
                refine G_istore X (lv2 := [(4, .int 0), (0, .ref (fAd (eF E) 0)), (1, .int x1), (2, .int x2), (3, .int x3)]) dX6_sheet_81 (by decide) rfl ?_
                obtain ⟨ρ, hl, h⟩ := cl_k h
                obtain ⟨n, hl⟩ := loop_some hl
                refine G_sub [1, 2, 0] rfl (g_X6_sheet_L83 X x1 n _ _ ρ hl ?_)
                intro A72 e
                rw [e] at h
                have h : f_X6_sheet_X126 A72 x1 = some _ := h
                unfold f_X6_sheet_X126 at h
                refine G_aload_n X dX6_sheet_126 rfl 0 rfl ?_
                refine G_getf X inX6 0 (eR0 _ _ _) rfl 13 (by decide) qw667 rfl dX6_sheet_127 ?_
                refine G_iload_n X dX6_sheet_130 rfl 1 rfl ?_
                have hi73 := gI_n h
                have h := gI_k h
                refine G_iald X (j := x1.toNatClampNeg) 18 (eR18 _ _ _) hi73 rfl dX6_sheet_131 ?_
                have e := so h
                subst e
                exact hQ _ _ dX6_sheet_132
              · have h := if_f c69 h
                refine G_iconst X (v := 0) dX6_sheet_74 rfl ?_
                refine G_goto X (tgt := 79) dX6_sheet_75 (by decide) ?_
                have hi74 := gI_n h
                have h := gI_k h
                refine G_iast X (j := x1.toNatClampNeg) 18 (eR18 _ _ _) (sRI _ _ _ _ x1.toNatClampNeg _ _ (fun _ => rfl)) hi74 rfl dX6_sheet_79 ?_
                refine G_topS (fun A75 eA75 => ?_)
                have h := bv_k eA75 h
                refine G_iconst X (v := 0) dX6_sheet_80 rfl ?_
                refine G_istore X (lv2 := [(4, .int 0), (0, .ref (fAd (eF E) 0)), (1, .int x1), (2, .int x2), (3, .int x3)]) dX6_sheet_81 (by decide) rfl ?_
                obtain ⟨ρ, hl, h⟩ := cl_k h
                obtain ⟨n, hl⟩ := loop_some hl
                refine G_sub [1, 2, 0] rfl (g_X6_sheet_L83 X x1 n _ _ ρ hl ?_)
                intro A76 e
                rw [e] at h
                have h : f_X6_sheet_X126 A76 x1 = some _ := h
                unfold f_X6_sheet_X126 at h
                refine G_aload_n X dX6_sheet_126 rfl 0 rfl ?_
                refine G_getf X inX6 0 (eR0 _ _ _) rfl 13 (by decide) qw667 rfl dX6_sheet_127 ?_
                refine G_iload_n X dX6_sheet_130 rfl 1 rfl ?_
                have hi77 := gI_n h
                have h := gI_k h
                refine G_iald X (j := x1.toNatClampNeg) 18 (eR18 _ _ _) hi77 rfl dX6_sheet_131 ?_
                have e := so h
                subst e
                exact hQ _ _ dX6_sheet_132
            · have h := if_f c66 h
              refine G_aload_n X dX6_sheet_52 rfl 0 rfl ?_
              refine G_iconst X (v := 0) dX6_sheet_53 rfl ?_
              obtain ⟨r78, A80, hz79, h⟩ := cl2_k h
              refine G_callV_i X (As := [.int 0]) (rest := []) ok_X6_finds qw737 0 (eR0 _ _ _) rfl rfl ⟨rfl, rfl, Nat.le_of_ble_eq_true rfl, Nat.le_of_ble_eq_true rfl⟩ (m_X6_finds X.d hz79) rfl rfl (Nat.le_of_ble_eq_true rfl) dX6_sheet_54 ?_
              have e := so h
              subst e
              exact hQ _ _ dX6_sheet_57
        · have h := if_f c53 h
          refine G_aload_n X dX6_sheet_35 rfl 0 rfl ?_
          refine G_bipush X (v := 6) dX6_sheet_36 rfl ?_
          obtain ⟨r81, A83, hz82, h⟩ := cl2_k h
          refine G_callV_i X (As := [.int 6]) (rest := []) ok_X6_finds qw737 0 (eR0 _ _ _) rfl rfl ⟨rfl, rfl, Nat.le_of_ble_eq_true rfl, Nat.le_of_ble_eq_true rfl⟩ (m_X6_finds X.d hz82) rfl rfl (Nat.le_of_ble_eq_true rfl) dX6_sheet_38 ?_
          have e := so h
          subst e
          exact hQ _ _ dX6_sheet_41
theorem m_X6_sheet {l : Launch} {F : pfF} (hD : ∀ A, va_D (fA F) (cellsR (fAd F) (fCy F) A)) {x1 : Int32} {x2 : Int32} {x3 : Int32} {A : St} {out : Int32 × St} (h : f_X6_sheet x1 x2 x3 A = some out) : Mt l F cellsR yX6_sheet cX6_sheet 5 (some .int) rm_X6_sheet [.ref (fAd F 0), .int x1, .int x2, .int x3] A (va_Qi (fun (r : Int32) (u : St) => r = out.1 ∧ u = out.2) (Wd cellsR F) (fA F)) := by
  refine Met_i (by decide +kernel) (Nat.le_of_ble_eq_true rfl) hD (fun E el ef X hQ => ?_)
  subst el
  subst ef
  exact b_X6_sheet X _ _ _ _ hQ h
theorem ok_X6_sheet : OkV yX6_sheet cX6_sheet 5 (some .int) 3 := ⟨qw1048, qw1049, qw6, qw1050, by decide, by decide, by decide⟩
noncomputable def f_X6_whyNoPlace (x1 : Int32) (x2 : Int32) (A : St) : Option (Int32) :=
  cl (f_X6_isSheet x1) fun r1 =>
  if (bI r1) = 0 then
    some 0
  else
    gI x1 4 <|
    if 0 ≤ (A.1 17 x1.toNatClampNeg) then
      gI x1 4 <|
      cl (f_X6_in x2.toInt64 0 (((A.1 18 x1.toNatClampNeg) - 1).toInt64)) fun r7 =>
      if (bI r7) = 0 then
        some 0
      else
        some (-1)
    else
      some 5
abbrev rm_X6_whyNoPlace : Room := { frames := 2, cells := 0, slots := 0, locals := 45 }
set_option maxHeartbeats 4000000 in
set_option maxRecDepth 100000 in
theorem b_X6_whyNoPlace {E : pfE} (X : CX cellsR E cX6_whyNoPlace RX6 rm_X6_whyNoPlace 3) (x1 : Int32) (x2 : Int32) (A : St) {out : Int32} (hQ : Reti cellsR E cX6_whyNoPlace out A) (h : f_X6_whyNoPlace x1 x2 A = some out) : GG cellsR E A 0 [(0, .ref (fAd (eF E) 0)), (1, .int x1), (2, .int x2)] [] := by
  unfold f_X6_whyNoPlace at h
  refine G_iload_n X dX6_whyNoPlace_0 rfl 1 rfl ?_
  obtain ⟨r1, hz2, h⟩ := cl_k h
  refine G_callS_i X (As := [.int x1]) (rest := []) ok_X6_isSheet qw1051 ⟨rfl, rfl, Nat.le_of_ble_eq_true rfl, Nat.le_of_ble_eq_true rfl⟩ (m_X6_isSheet X.d hz2) rfl rfl (Nat.le_of_ble_eq_true rfl) dX6_whyNoPlace_1 ?_
  refine G_ifne X (tgt := 11) dX6_whyNoPlace_4 (by decide) (fun c3 => ?_) (fun c3 => ?_)
  · have h := if_t c3 h
    refine G_iconst X (v := 0) dX6_whyNoPlace_7 rfl ?_
    refine G_goto X (tgt := 47) dX6_whyNoPlace_8 (by decide) ?_
    have e := so h
    subst e
    exact hQ _ _ dX6_whyNoPlace_47
  · have h := if_f c3 h
    refine G_aload_n X dX6_whyNoPlace_11 rfl 0 rfl ?_
    refine G_getf X inX6 0 (eR0 _ _ _) rfl 12 (by decide) qw666 rfl dX6_whyNoPlace_12 ?_
    refine G_iload_n X dX6_whyNoPlace_15 rfl 1 rfl ?_
    have hi4 := gI_n h
    have h := gI_k h
    refine G_iald X (j := x1.toNatClampNeg) 17 (eR17 _ _ _) hi4 rfl dX6_whyNoPlace_16 ?_
    refine G_ifge X (tgt := 24) dX6_whyNoPlace_17 (by decide) (fun c5 => ?_) (fun c5 => ?_)
    · have h := if_t c5 h
      refine G_iload_n X dX6_whyNoPlace_24 rfl 2 rfl ?_
      refine G_i2l X dX6_whyNoPlace_25 rfl ?_
      refine G_lconst X (v := 0) dX6_whyNoPlace_26 rfl ?_
      refine G_aload_n X dX6_whyNoPlace_27 rfl 0 rfl ?_
      refine G_getf X inX6 0 (eR0 _ _ _) rfl 13 (by decide) qw667 rfl dX6_whyNoPlace_28 ?_
      refine G_iload_n X dX6_whyNoPlace_31 rfl 1 rfl ?_
      have hi6 := gI_n h
      have h := gI_k h
      refine G_iald X (j := x1.toNatClampNeg) 18 (eR18 _ _ _) hi6 rfl dX6_whyNoPlace_32 ?_
      refine G_iconst X (v := 1) dX6_whyNoPlace_33 rfl ?_
      refine G_isub X dX6_whyNoPlace_34 ?_
      refine G_i2l X dX6_whyNoPlace_35 rfl ?_
      obtain ⟨r7, hz8, h⟩ := cl_k h
      refine G_callS_i X (As := [.long x2.toInt64, .long 0, .long (((A.1 18 x1.toNatClampNeg) - 1).toInt64)]) (rest := []) ok_X6_in qw727 ⟨rfl, rfl, Nat.le_of_ble_eq_true rfl, Nat.le_of_ble_eq_true rfl⟩ (m_X6_in X.d hz8) rfl rfl (Nat.le_of_ble_eq_true rfl) dX6_whyNoPlace_36 ?_
      refine G_ifne X (tgt := 46) dX6_whyNoPlace_39 (by decide) (fun c9 => ?_) (fun c9 => ?_)
      · have h := if_t c9 h
        refine G_iconst X (v := 0) dX6_whyNoPlace_42 rfl ?_
        refine G_goto X (tgt := 47) dX6_whyNoPlace_43 (by decide) ?_
        have e := so h
        subst e
        exact hQ _ _ dX6_whyNoPlace_47
      · have h := if_f c9 h
        refine G_iconst X (v := (-1)) dX6_whyNoPlace_46 rfl ?_
        have e := so h
        subst e
        exact hQ _ _ dX6_whyNoPlace_47
    · have h := if_f c5 h
      refine G_iconst X (v := 5) dX6_whyNoPlace_20 rfl ?_
      refine G_goto X (tgt := 47) dX6_whyNoPlace_21 (by decide) ?_
      have e := so h
      subst e
      exact hQ _ _ dX6_whyNoPlace_47
theorem m_X6_whyNoPlace {l : Launch} {F : pfF} (hD : ∀ A, va_D (fA F) (cellsR (fAd F) (fCy F) A)) {x1 : Int32} {x2 : Int32} {A : St} {out : Int32} (h : f_X6_whyNoPlace x1 x2 A = some out) : Mt l F cellsR yX6_whyNoPlace cX6_whyNoPlace 3 (some .int) rm_X6_whyNoPlace [.ref (fAd F 0), .int x1, .int x2] A (va_Qi (fun (r : Int32) (u : St) => r = out ∧ u = A) (Wd cellsR F) (fA F)) := by
  refine Met_i (by decide +kernel) (Nat.le_of_ble_eq_true rfl) hD (fun E el ef X hQ => ?_)
  subst el
  subst ef
  exact b_X6_whyNoPlace X _ _ _ hQ h
theorem ok_X6_whyNoPlace : OkV yX6_whyNoPlace cX6_whyNoPlace 3 (some .int) 2 := ⟨qw1060, qs33, qw6, qw1061, by decide, by decide, by decide⟩
noncomputable def f_X6_write (x1 : Int32) (x2 : Int32) (x3 : Int32) (A : St) : Option (Int32 × St) :=
  cl (f_X6_whyNoPlace x1 x2 A) fun r1 =>
  if r1 < 0 then
    gI x1 4 <|
    if (A.1 17 x1.toNatClampNeg) = 0 then
      gI x1 4 <|
      gI x2 40 <|
      bv (upI A (20 + x1.toNatClampNeg) x2.toNatClampNeg x3) fun A21 =>
      some (1, A21)
    else
      gI x1 4 <|
      if (A.1 17 x1.toNatClampNeg) = 1 then
        gI x1 4 <|
        g32 (FP.fdiv (FP.i2f x3) 1090519040) fun v15 =>
        gI x2 40 <|
        bv (upF A (25 + x1.toNatClampNeg) x2.toNatClampNeg v15) fun A17 =>
        some (1, A17)
      else
        gI x1 4 <|
        g64 (FP.ddiv (FP.i2d x3) 4620693217682128896) fun v10 =>
        gI x2 40 <|
        bv (upD A (30 + x1.toNatClampNeg) x2.toNatClampNeg v10) fun A12 =>
        some (1, A12)
  else
    cl2 (f_X6_finds r1 A) fun r22 A24 =>
    some (r22, A24)
abbrev rm_X6_write : Room := { frames := 3, cells := 0, slots := 0, locals := 67 }
set_option maxHeartbeats 4000000 in
set_option maxRecDepth 100000 in
theorem b_X6_write {E : pfE} (X : CX cellsR E cX6_write RX6 rm_X6_write 5) (x1 : Int32) (x2 : Int32) (x3 : Int32) (A : St) {out : Int32 × St} (hQ : Reti cellsR E cX6_write out.1 out.2) (h : f_X6_write x1 x2 x3 A = some out) : GG cellsR E A 0 [(0, .ref (fAd (eF E) 0)), (1, .int x1), (2, .int x2), (3, .int x3)] [] := by
  unfold f_X6_write at h
  refine G_aload_n X dX6_write_0 rfl 0 rfl ?_
  refine G_iload_n X dX6_write_1 rfl 1 rfl ?_
  refine G_iload_n X dX6_write_2 rfl 2 rfl ?_
  obtain ⟨r1, hz2, h⟩ := cl_k h
  refine G_callV_i X (As := [.int x1, .int x2]) (rest := []) ok_X6_whyNoPlace qw1058 0 (eR0 _ _ _) rfl rfl ⟨rfl, rfl, Nat.le_of_ble_eq_true rfl, Nat.le_of_ble_eq_true rfl⟩ (m_X6_whyNoPlace X.d hz2) rfl rfl (Nat.le_of_ble_eq_true rfl) dX6_write_3 ?_
  refine G_istore X (lv2 := [(4, .int r1), (0, .ref (fAd (eF E) 0)), (1, .int x1), (2, .int x2), (3, .int x3)]) dX6_write_6 (by decide) rfl ?_
  refine G_iload X dX6_write_8 0 rfl ?_
  refine G_iflt X (tgt := 20) dX6_write_10 (by decide) (fun c3 => ?_) (fun c3 => ?_)
  · have h := if_t c3 h
    refine G_aload_n X dX6_write_20 rfl 1 rfl ?_
    refine G_getf X inX6 0 (eR0 _ _ _) rfl 12 (by decide) qw666 rfl dX6_write_21 ?_
    refine G_iload_n X dX6_write_24 rfl 2 rfl ?_
    have hi4 := gI_n h
    have h := gI_k h
    refine G_iald X (j := x1.toNatClampNeg) 17 (eR17 _ _ _) hi4 rfl dX6_write_25 ?_
    refine G_ifne X (tgt := 41) dX6_write_26 (by decide) (fun c5 => ?_) (fun c5 => ?_)
    · have h := if_t c5 h
      refine G_aload_n X dX6_write_29 rfl 1 rfl ?_
      refine G_getf X inX6 0 (eR0 _ _ _) rfl 14 (by decide) qw668 rfl dX6_write_30 ?_
      refine G_iload_n X dX6_write_33 rfl 2 rfl ?_
      have hi18 := gI_n h
      have h := gI_k h
      have hw19 := vlt hi18
      refine G_aald X (t0 := 3) (b := fAd (eF E) (20 + x1.toNatClampNeg)) 19 (eR19 _ _ _) rfl rfl hi18 (if_pos hw19) dX6_write_34 ?_
      refine G_iload_n X dX6_write_35 rfl 3 rfl ?_
      refine G_iload_n X dX6_write_36 rfl 4 rfl ?_
      have hi20 := gI_n h
      have h := gI_k h
      refine G_iast X (j := x2.toNatClampNeg) (20 + x1.toNatClampNeg) (eRf20 _ _ _ _ hw19) (sRI _ _ _ _ x2.toNatClampNeg _ _ (fun _ => fR20 _ _ _ _ hw19)) hi20 rfl dX6_write_37 ?_
      refine G_topS (fun A21 eA21 => ?_)
      have h := bv_k eA21 h
      refine G_goto X (tgt := 81) dX6_write_38 (by decide) ?_
      refine G_iconst X (v := 1) dX6_write_81 rfl ?_
      have e := so h
      subst e
      exact hQ _ _ dX6_write_82
    · have h := if_f c5 h
      refine G_aload_n X dX6_write_41 rfl 1 rfl ?_
      refine G_getf X inX6 0 (eR0 _ _ _) rfl 12 (by decide) qw666 rfl dX6_write_42 ?_
      refine G_iload_n X dX6_write_45 rfl 2 rfl ?_
      have hi6 := gI_n h
      have h := gI_k h
      refine G_iald X (j := x1.toNatClampNeg) 17 (eR17 _ _ _) hi6 rfl dX6_write_46 ?_
      refine G_iconst X (v := 1) dX6_write_47 rfl ?_
      refine G_icne X (tgt := 67) dX6_write_48 (by decide) (fun c7 => ?_) (fun c7 => ?_)
      · have h := if_t c7 h
        refine G_aload_n X dX6_write_51 rfl 1 rfl ?_
        refine G_getf X inX6 0 (eR0 _ _ _) rfl 15 (by decide) qw669 rfl dX6_write_52 ?_
        refine G_iload_n X dX6_write_55 rfl 2 rfl ?_
        have hi13 := gI_n h
        have h := gI_k h
        have hw14 := vlt hi13
        refine G_aald X (t0 := 5) (b := fAd (eF E) (25 + x1.toNatClampNeg)) 24 (eR24 _ _ _) rfl rfl hi13 (if_pos hw14) dX6_write_56 ?_
        refine G_iload_n X dX6_write_57 rfl 3 rfl ?_
        refine G_iload_n X dX6_write_58 rfl 4 rfl ?_
        refine G_i2f X dX6_write_59 ?_
        refine G_ldcf X (v := 1090519040) qw821 dX6_write_60 ?_
        have hv15 := g32_n h
        refine G_fdiv X dX6_write_62 hv15 ?_
        refine G_topf (fun v15 ev15 => ?_)
        have h := g32_k ev15 h
        have hi16 := gI_n h
        have h := gI_k h
        refine G_fast X (j := x2.toNatClampNeg) (25 + x1.toNatClampNeg) (eRf25 _ _ _ _ hw14) (sRF _ _ _ _ x2.toNatClampNeg _ _ (fun _ => fR25 _ _ _ _ hw14)) hi16 rfl dX6_write_63 ?_
        refine G_topS (fun A17 eA17 => ?_)
        have h := bv_k eA17 h
        refine G_goto X (tgt := 81) dX6_write_64 (by decide) ?_
        refine G_iconst X (v := 1) dX6_write_81 rfl ?_
        have e := so h
        subst e
        exact hQ _ _ dX6_write_82
      · have h := if_f c7 h
        refine G_aload_n X dX6_write_67 rfl 1 rfl ?_
        refine G_getf X inX6 0 (eR0 _ _ _) rfl 16 (by decide) qw670 rfl dX6_write_68 ?_
        refine G_iload_n X dX6_write_71 rfl 2 rfl ?_
        have hi8 := gI_n h
        have h := gI_k h
        have hw9 := vlt hi8
        refine G_aald X (t0 := 4) (b := fAd (eF E) (30 + x1.toNatClampNeg)) 29 (eR29 _ _ _) rfl rfl hi8 (if_pos hw9) dX6_write_72 ?_
        refine G_iload_n X dX6_write_73 rfl 3 rfl ?_
        refine G_iload_n X dX6_write_74 rfl 4 rfl ?_
        refine G_i2d X dX6_write_75 ?_
        refine G_ldc2d X (v := 4620693217682128896) qw1062 dX6_write_76 ?_
        have hv10 := g64_n h
        refine G_ddiv X dX6_write_79 hv10 ?_
        refine G_topd (fun v10 ev10 => ?_)
        have h := g64_k ev10 h
        have hi11 := gI_n h
        have h := gI_k h
        refine G_dast X (j := x2.toNatClampNeg) (30 + x1.toNatClampNeg) (eRf30 _ _ _ _ hw9) (sRD _ _ _ _ x2.toNatClampNeg _ _ (fun _ => fR30 _ _ _ _ hw9)) hi11 rfl dX6_write_80 ?_
        refine G_topS (fun A12 eA12 => ?_)
        have h := bv_k eA12 h
        refine G_iconst X (v := 1) dX6_write_81 rfl ?_
        have e := so h
        subst e
        exact hQ _ _ dX6_write_82
  · have h := if_f c3 h
    refine G_aload_n X dX6_write_13 rfl 1 rfl ?_
    refine G_iload X dX6_write_14 0 rfl ?_
    obtain ⟨r22, A24, hz23, h⟩ := cl2_k h
    refine G_callV_i X (As := [.int r1]) (rest := []) ok_X6_finds qw737 0 (eR0 _ _ _) rfl rfl ⟨rfl, rfl, Nat.le_of_ble_eq_true rfl, Nat.le_of_ble_eq_true rfl⟩ (m_X6_finds X.d hz23) rfl rfl (Nat.le_of_ble_eq_true rfl) dX6_write_16 ?_
    have e := so h
    subst e
    exact hQ _ _ dX6_write_19
theorem m_X6_write {l : Launch} {F : pfF} (hD : ∀ A, va_D (fA F) (cellsR (fAd F) (fCy F) A)) {x1 : Int32} {x2 : Int32} {x3 : Int32} {A : St} {out : Int32 × St} (h : f_X6_write x1 x2 x3 A = some out) : Mt l F cellsR yX6_write cX6_write 5 (some .int) rm_X6_write [.ref (fAd F 0), .int x1, .int x2, .int x3] A (va_Qi (fun (r : Int32) (u : St) => r = out.1 ∧ u = out.2) (Wd cellsR F) (fA F)) := by
  refine Met_i (by decide +kernel) (Nat.le_of_ble_eq_true rfl) hD (fun E el ef X hQ => ?_)
  subst el
  subst ef
  exact b_X6_write X _ _ _ _ hQ h
theorem ok_X6_write : OkV yX6_write cX6_write 5 (some .int) 3 := ⟨qw1055, qw1056, qw6, qw1057, by decide, by decide, by decide⟩
noncomputable def f_X6_item (x1 : Int32) (x2 : Int32) (A : St) : Option (Int64 × St) :=
  cl (f_X6_whyNoPlace x1 x2 A) fun r1 =>
  if r1 < 0 then
    gI x1 4 <|
    if (A.1 17 x1.toNatClampNeg) = 0 then
      gI x1 4 <|
      gI x2 40 <|
      some ((A.1 (20 + x1.toNatClampNeg) x2.toNatClampNeg).toInt64, A)
    else
      gI x1 4 <|
      if (A.1 17 x1.toNatClampNeg) = 1 then
        gI x1 4 <|
        gI x2 40 <|
        cl (f_Jxf58ca_floatToIntBits_5c35a (A.2.2 (25 + x1.toNatClampNeg) x2.toNatClampNeg)) fun r16 =>
        some (r16.toInt64, A)
      else
        gI x1 4 <|
        gI x2 40 <|
        cl (f_Jxe99ae_doubleToLongBits_ccdee (A.2.1 (30 + x1.toNatClampNeg) x2.toNatClampNeg)) fun r11 =>
        some (r11, A)
  else
    cl2 (f_X6_findsLong r1 A) fun r21 A23 =>
    some (r21, A23)
abbrev rm_X6_item : Room := { frames := 3, cells := 0, slots := 0, locals := 67 }
set_option maxHeartbeats 4000000 in
set_option maxRecDepth 100000 in
theorem b_X6_item {E : pfE} (X : CX cellsR E cX6_item RX6 rm_X6_item 4) (x1 : Int32) (x2 : Int32) (A : St) {out : Int64 × St} (hQ : Retl cellsR E cX6_item out.1 out.2) (h : f_X6_item x1 x2 A = some out) : GG cellsR E A 0 [(0, .ref (fAd (eF E) 0)), (1, .int x1), (2, .int x2)] [] := by
  unfold f_X6_item at h
  refine G_aload_n X dX6_item_0 rfl 0 rfl ?_
  refine G_iload_n X dX6_item_1 rfl 1 rfl ?_
  refine G_iload_n X dX6_item_2 rfl 2 rfl ?_
  obtain ⟨r1, hz2, h⟩ := cl_k h
  refine G_callV_i X (As := [.int x1, .int x2]) (rest := []) ok_X6_whyNoPlace qw1058 0 (eR0 _ _ _) rfl rfl ⟨rfl, rfl, Nat.le_of_ble_eq_true rfl, Nat.le_of_ble_eq_true rfl⟩ (m_X6_whyNoPlace X.d hz2) rfl rfl (Nat.le_of_ble_eq_true rfl) dX6_item_3 ?_
  refine G_istore_n X (lv2 := [(3, .int r1), (0, .ref (fAd (eF E) 0)), (1, .int x1), (2, .int x2)]) dX6_item_6 rfl (by decide) rfl ?_
  refine G_iload_n X dX6_item_7 rfl 0 rfl ?_
  refine G_iflt X (tgt := 17) dX6_item_8 (by decide) (fun c3 => ?_) (fun c3 => ?_)
  · have h := if_t c3 h
    refine G_aload_n X dX6_item_17 rfl 1 rfl ?_
    refine G_getf X inX6 0 (eR0 _ _ _) rfl 12 (by decide) qw666 rfl dX6_item_18 ?_
    refine G_iload_n X dX6_item_21 rfl 2 rfl ?_
    have hi4 := gI_n h
    have h := gI_k h
    refine G_iald X (j := x1.toNatClampNeg) 17 (eR17 _ _ _) hi4 rfl dX6_item_22 ?_
    refine G_ifne X (tgt := 36) dX6_item_23 (by decide) (fun c5 => ?_) (fun c5 => ?_)
    · have h := if_t c5 h
      refine G_aload_n X dX6_item_26 rfl 1 rfl ?_
      refine G_getf X inX6 0 (eR0 _ _ _) rfl 14 (by decide) qw668 rfl dX6_item_27 ?_
      refine G_iload_n X dX6_item_30 rfl 2 rfl ?_
      have hi18 := gI_n h
      have h := gI_k h
      have hw19 := vlt hi18
      refine G_aald X (t0 := 3) (b := fAd (eF E) (20 + x1.toNatClampNeg)) 19 (eR19 _ _ _) rfl rfl hi18 (if_pos hw19) dX6_item_31 ?_
      refine G_iload_n X dX6_item_32 rfl 3 rfl ?_
      have hi20 := gI_n h
      have h := gI_k h
      refine G_iald X (j := x2.toNatClampNeg) (20 + x1.toNatClampNeg) (eRf20 _ _ _ _ hw19) hi20 rfl dX6_item_33 ?_
      refine G_i2l X dX6_item_34 rfl ?_
      have e := so h
      subst e
      exact hQ _ _ dX6_item_35
    · have h := if_f c5 h
      refine G_aload_n X dX6_item_36 rfl 1 rfl ?_
      refine G_getf X inX6 0 (eR0 _ _ _) rfl 12 (by decide) qw666 rfl dX6_item_37 ?_
      refine G_iload_n X dX6_item_40 rfl 2 rfl ?_
      have hi6 := gI_n h
      have h := gI_k h
      refine G_iald X (j := x1.toNatClampNeg) 17 (eR17 _ _ _) hi6 rfl dX6_item_41 ?_
      refine G_iconst X (v := 1) dX6_item_42 rfl ?_
      refine G_icne X (tgt := 61) dX6_item_43 (by decide) (fun c7 => ?_) (fun c7 => ?_)
      · have h := if_t c7 h
        refine G_aload_n X dX6_item_46 rfl 1 rfl ?_
        refine G_getf X inX6 0 (eR0 _ _ _) rfl 15 (by decide) qw669 rfl dX6_item_47 ?_
        refine G_iload_n X dX6_item_50 rfl 2 rfl ?_
        have hi13 := gI_n h
        have h := gI_k h
        have hw14 := vlt hi13
        refine G_aald X (t0 := 5) (b := fAd (eF E) (25 + x1.toNatClampNeg)) 24 (eR24 _ _ _) rfl rfl hi13 (if_pos hw14) dX6_item_51 ?_
        refine G_iload_n X dX6_item_52 rfl 3 rfl ?_
        have hi15 := gI_n h
        have h := gI_k h
        refine G_fald X (j := x2.toNatClampNeg) (25 + x1.toNatClampNeg) (eRf25 _ _ _ _ hw14) hi15 rfl dX6_item_53 ?_
        obtain ⟨r16, hz17, h⟩ := cl_k h
        refine G_callS_i X (As := [.float (A.2.2 (25 + x1.toNatClampNeg) x2.toNatClampNeg)]) (rest := []) ok_Jxf58ca_floatToIntBits_5c35a qw790 ⟨rfl, rfl, Nat.le_of_ble_eq_true rfl, Nat.le_of_ble_eq_true rfl⟩ (m_Jxf58ca_floatToIntBits_5c35a X.d hz17) rfl rfl (Nat.le_of_ble_eq_true rfl) dX6_item_54 ?_
        refine G_i2l X dX6_item_57 rfl ?_
        refine G_goto X (tgt := 72) dX6_item_58 (by decide) ?_
        have e := so h
        subst e
        exact hQ _ _ dX6_item_72
      · have h := if_f c7 h
        refine G_aload_n X dX6_item_61 rfl 1 rfl ?_
        refine G_getf X inX6 0 (eR0 _ _ _) rfl 16 (by decide) qw670 rfl dX6_item_62 ?_
        refine G_iload_n X dX6_item_65 rfl 2 rfl ?_
        have hi8 := gI_n h
        have h := gI_k h
        have hw9 := vlt hi8
        refine G_aald X (t0 := 4) (b := fAd (eF E) (30 + x1.toNatClampNeg)) 29 (eR29 _ _ _) rfl rfl hi8 (if_pos hw9) dX6_item_66 ?_
        refine G_iload_n X dX6_item_67 rfl 3 rfl ?_
        have hi10 := gI_n h
        have h := gI_k h
        refine G_dald X (j := x2.toNatClampNeg) (30 + x1.toNatClampNeg) (eRf30 _ _ _ _ hw9) hi10 rfl dX6_item_68 ?_
        obtain ⟨r11, hz12, h⟩ := cl_k h
        refine G_callS_l X (As := [.double (A.2.1 (30 + x1.toNatClampNeg) x2.toNatClampNeg)]) (rest := []) ok_Jxe99ae_doubleToLongBits_ccdee qw847 ⟨rfl, rfl, Nat.le_of_ble_eq_true rfl, Nat.le_of_ble_eq_true rfl⟩ (m_Jxe99ae_doubleToLongBits_ccdee X.d hz12) rfl rfl (Nat.le_of_ble_eq_true rfl) dX6_item_69 ?_
        have e := so h
        subst e
        exact hQ _ _ dX6_item_72
  · have h := if_f c3 h
    refine G_aload_n X dX6_item_11 rfl 1 rfl ?_
    refine G_iload_n X dX6_item_12 rfl 0 rfl ?_
    obtain ⟨r21, A23, hz22, h⟩ := cl2_k h
    refine G_callV_l X (As := [.int r1]) (rest := []) ok_X6_findsLong qw855 0 (eR0 _ _ _) rfl rfl ⟨rfl, rfl, Nat.le_of_ble_eq_true rfl, Nat.le_of_ble_eq_true rfl⟩ (m_X6_findsLong X.d hz22) rfl rfl (Nat.le_of_ble_eq_true rfl) dX6_item_13 ?_
    have e := so h
    subst e
    exact hQ _ _ dX6_item_16
theorem m_X6_item {l : Launch} {F : pfF} (hD : ∀ A, va_D (fA F) (cellsR (fAd F) (fCy F) A)) {x1 : Int32} {x2 : Int32} {A : St} {out : Int64 × St} (h : f_X6_item x1 x2 A = some out) : Mt l F cellsR yX6_item cX6_item 4 (some .long) rm_X6_item [.ref (fAd F 0), .int x1, .int x2] A (va_Ql (fun (r : Int64) (u : St) => r = out.1 ∧ u = out.2) (Wd cellsR F) (fA F)) := by
  refine Met_l (by decide +kernel) (Nat.le_of_ble_eq_true rfl) hD (fun E el ef X hQ => ?_)
  subst el
  subst ef
  exact b_X6_item X _ _ _ hQ h
theorem ok_X6_item : OkV yX6_item cX6_item 4 (some .long) 2 := ⟨qw1064, qw1065, qw6, qw1066, by decide, by decide, by decide⟩
noncomputable def f_X6_takesAll_L2 (l1 : Int32) (l2 : Int32) (A : St) : Option ((Int32 × St) ⊕ (St)) :=
  if 40 ≤ l2 then
    some (.inr A)
  else
    gI l1 4 <|
    gI l2 40 <|
    gI l2 40 <|
    bv (upI A 34 l2.toNatClampNeg (A.1 (20 + l1.toNatClampNeg) l2.toNatClampNeg)) fun A6 =>
    gI l1 4 <|
    gI l2 40 <|
    gI l2 40 <|
    bv (upF A6 35 l2.toNatClampNeg (A6.2.2 (25 + l1.toNatClampNeg) l2.toNatClampNeg)) fun A11 =>
    gI l1 4 <|
    gI l2 40 <|
    gI l2 40 <|
    bv (upD A11 36 l2.toNatClampNeg (A11.2.1 (30 + l1.toNatClampNeg) l2.toNatClampNeg)) fun A16 =>
    bv (l2 + 1) fun v17 =>
    some (.inl (v17, A16))
noncomputable def f_X6_takesAll_X56 (A : St) : Option (St) :=
  some A
noncomputable def f_X6_takesAll (x1 : Int32) (A : St) : Option (St) :=
  cl (loop (fun s => f_X6_takesAll_L2 x1 s.1 s.2) (0, A)) (fun s => f_X6_takesAll_X56 s)
abbrev rm_X6_takesAll : Room := { frames := 0, cells := 0, slots := 0, locals := 0 }
set_option maxHeartbeats 4000000 in
set_option maxRecDepth 100000 in
theorem g_X6_takesAll_L2 {E : pfE} (X : CX cellsR E cX6_takesAll RX6 rm_X6_takesAll 3) (l1 : Int32) : ∀ (n : Nat) (l2 : Int32) (A : St) (ρ : St), lp (fun s => f_X6_takesAll_L2 l1 s.1 s.2) n (l2, A) = some ρ → (∀ (B : St), ρ = B → GG cellsR E B 56 [] []) → GG cellsR E A 2 [(0, .ref (fAd (eF E) 0)), (1, .int l1), (2, .int l2)] [] := by
  intro n
  induction n with
  | zero =>
    intro l2 A ρ h
    cases h
  | succ n ih =>
    intro l2 A ρ h0 K
    obtain ⟨x, hb, hx⟩ := lp_step h0
    have h : f_X6_takesAll_L2 l1 l2 A = some x := hb
    unfold f_X6_takesAll_L2 at h
    clear hb h0
    refine G_iload_n X dX6_takesAll_2 rfl 2 rfl ?_
    refine G_bipush X (v := 40) dX6_takesAll_3 rfl ?_
    refine G_icge X (tgt := 56) dX6_takesAll_5 (by decide) (fun c1 => ?_) (fun c1 => ?_)
    · have h := if_t c1 h
      exact G_sub [] rfl (K _ (lpr (so h) hx).symm)
    · have h := if_f c1 h
      refine G_aload_n X dX6_takesAll_8 rfl 0 rfl ?_
      refine G_getf X inX6 0 (eR0 _ _ _) rfl 17 (by decide) qw671 rfl dX6_takesAll_9 ?_
      refine G_iload_n X dX6_takesAll_12 rfl 2 rfl ?_
      refine G_aload_n X dX6_takesAll_13 rfl 0 rfl ?_
      refine G_getf X inX6 0 (eR0 _ _ _) rfl 14 (by decide) qw668 rfl dX6_takesAll_14 ?_
      refine G_iload_n X dX6_takesAll_17 rfl 1 rfl ?_
      have hi2 := gI_n h
      have h := gI_k h
      have hw3 := vlt hi2
      refine G_aald X (t0 := 3) (b := fAd (eF E) (20 + l1.toNatClampNeg)) 19 (eR19 _ _ _) rfl rfl hi2 (if_pos hw3) dX6_takesAll_18 ?_
      refine G_iload_n X dX6_takesAll_19 rfl 2 rfl ?_
      have hi4 := gI_n h
      have h := gI_k h
      refine G_iald X (j := l2.toNatClampNeg) (20 + l1.toNatClampNeg) (eRf20 _ _ _ _ hw3) hi4 rfl dX6_takesAll_20 ?_
      have hi5 := gI_n h
      have h := gI_k h
      refine G_iast X (j := l2.toNatClampNeg) 34 (eR34 _ _ _) (sRI _ _ _ _ l2.toNatClampNeg _ _ (fun _ => rfl)) hi5 rfl dX6_takesAll_21 ?_
      refine G_topS (fun A6 eA6 => ?_)
      have h := bv_k eA6 h
      refine G_aload_n X dX6_takesAll_22 rfl 0 rfl ?_
      refine G_getf X inX6 0 (eR0 _ _ _) rfl 18 (by decide) qw672 rfl dX6_takesAll_23 ?_
      refine G_iload_n X dX6_takesAll_26 rfl 2 rfl ?_
      refine G_aload_n X dX6_takesAll_27 rfl 0 rfl ?_
      refine G_getf X inX6 0 (eR0 _ _ _) rfl 15 (by decide) qw669 rfl dX6_takesAll_28 ?_
      refine G_iload_n X dX6_takesAll_31 rfl 1 rfl ?_
      have hi7 := gI_n h
      have h := gI_k h
      have hw8 := vlt hi7
      refine G_aald X (t0 := 5) (b := fAd (eF E) (25 + l1.toNatClampNeg)) 24 (eR24 _ _ _) rfl rfl hi7 (if_pos hw8) dX6_takesAll_32 ?_
      refine G_iload_n X dX6_takesAll_33 rfl 2 rfl ?_
      have hi9 := gI_n h
      have h := gI_k h
      refine G_fald X (j := l2.toNatClampNeg) (25 + l1.toNatClampNeg) (eRf25 _ _ _ _ hw8) hi9 rfl dX6_takesAll_34 ?_
      have hi10 := gI_n h
      have h := gI_k h
      refine G_fast X (j := l2.toNatClampNeg) 35 (eR35 _ _ _) (sRF _ _ _ _ l2.toNatClampNeg _ _ (fun _ => rfl)) hi10 rfl dX6_takesAll_35 ?_
      refine G_topS (fun A11 eA11 => ?_)
      have h := bv_k eA11 h
      refine G_aload_n X dX6_takesAll_36 rfl 0 rfl ?_
      refine G_getf X inX6 0 (eR0 _ _ _) rfl 19 (by decide) qw673 rfl dX6_takesAll_37 ?_
      refine G_iload_n X dX6_takesAll_40 rfl 2 rfl ?_
      refine G_aload_n X dX6_takesAll_41 rfl 0 rfl ?_
      refine G_getf X inX6 0 (eR0 _ _ _) rfl 16 (by decide) qw670 rfl dX6_takesAll_42 ?_
      refine G_iload_n X dX6_takesAll_45 rfl 1 rfl ?_
      have hi12 := gI_n h
      have h := gI_k h
      have hw13 := vlt hi12
      refine G_aald X (t0 := 4) (b := fAd (eF E) (30 + l1.toNatClampNeg)) 29 (eR29 _ _ _) rfl rfl hi12 (if_pos hw13) dX6_takesAll_46 ?_
      refine G_iload_n X dX6_takesAll_47 rfl 2 rfl ?_
      have hi14 := gI_n h
      have h := gI_k h
      refine G_dald X (j := l2.toNatClampNeg) (30 + l1.toNatClampNeg) (eRf30 _ _ _ _ hw13) hi14 rfl dX6_takesAll_48 ?_
      have hi15 := gI_n h
      have h := gI_k h
      refine G_dast X (j := l2.toNatClampNeg) 36 (eR36 _ _ _) (sRD _ _ _ _ l2.toNatClampNeg _ _ (fun _ => rfl)) hi15 rfl dX6_takesAll_49 ?_
      refine G_topS (fun A16 eA16 => ?_)
      have h := bv_k eA16 h
      obtain ⟨v17, ev17⟩ : ∃ y : Int32, y = l2 + 1 := ⟨_, rfl⟩
      have h := bv_k ev17 h
      refine G_iinc X (q := 2) (v := v17) (lv2 := [(2, .int v17), (0, .ref (fAd (eF E) 0)), (1, .int l1)]) dX6_takesAll_50 rfl (by rw [ev17]; rfl) (by decide) rfl ?_
      refine G_goto X (tgt := 2) dX6_takesAll_53 (by decide) ?_
      exact G_sub [1, 2, 0] rfl (ih _ _ _ (lpl (so h) hx) K)
set_option maxHeartbeats 4000000 in
set_option maxRecDepth 100000 in
theorem b_X6_takesAll {E : pfE} (X : CX cellsR E cX6_takesAll RX6 rm_X6_takesAll 3) (x1 : Int32) (A : St) {out : St} (hQ : Retv cellsR E cX6_takesAll out) (h : f_X6_takesAll x1 A = some out) : GG cellsR E A 0 [(0, .ref (fAd (eF E) 0)), (1, .int x1)] [] := by
  unfold f_X6_takesAll at h
  refine G_iconst X (v := 0) dX6_takesAll_0 rfl ?_
  refine G_istore_n X (lv2 := [(2, .int 0), (0, .ref (fAd (eF E) 0)), (1, .int x1)]) dX6_takesAll_1 rfl (by decide) rfl ?_
  obtain ⟨ρ, hl, h⟩ := cl_k h
  obtain ⟨n, hl⟩ := loop_some hl
  refine G_sub [1, 2, 0] rfl (g_X6_takesAll_L2 X x1 n _ _ ρ hl ?_)
  intro A18 e
  rw [e] at h
  have h : f_X6_takesAll_X56 A18 = some _ := h
  unfold f_X6_takesAll_X56 at h
  have e := so h
  subst e
  exact hQ _ _ dX6_takesAll_56
theorem m_X6_takesAll {l : Launch} {F : pfF} (hD : ∀ A, va_D (fA F) (cellsR (fAd F) (fCy F) A)) {x1 : Int32} {A : St} {out : St} (h : f_X6_takesAll x1 A = some out) : Mt l F cellsR yX6_takesAll cX6_takesAll 3 none rm_X6_takesAll [.ref (fAd F 0), .int x1] A (va_Qv (fun (u : St) => u = out) (Wd cellsR F) (fA F)) := by
  refine Met_v (by decide +kernel) (Nat.le_of_ble_eq_true rfl) hD (fun E el ef X hQ => ?_)
  subst el
  subst ef
  exact b_X6_takesAll X _ _ hQ h
theorem ok_X6_takesAll : OkV yX6_takesAll cX6_takesAll 3 none 1 := ⟨qw1073, qs34, qw6, qw1074, by decide, by decide, by decide⟩
noncomputable def f_X6_copy_L128 (l2 : Int32) (l3 : Int32) (l4 : Int32) (l5 : Int32) (l6 : Int32) (A : St) : Option ((Int32 × St) ⊕ (St)) :=
  if l5 ≤ l6 then
    some (.inr A)
  else
    gI l3 4 <|
    gI (l2 + l6) 40 <|
    gI (l4 + l6) 40 <|
    bv (upI A (20 + l3.toNatClampNeg) (l4 + l6).toNatClampNeg (A.1 34 (l2 + l6).toNatClampNeg)) fun A47 =>
    gI l3 4 <|
    gI (l2 + l6) 40 <|
    gI (l4 + l6) 40 <|
    bv (upF A47 (25 + l3.toNatClampNeg) (l4 + l6).toNatClampNeg (A47.2.2 35 (l2 + l6).toNatClampNeg)) fun A52 =>
    gI l3 4 <|
    gI (l2 + l6) 40 <|
    gI (l4 + l6) 40 <|
    bv (upD A52 (30 + l3.toNatClampNeg) (l4 + l6).toNatClampNeg (A52.2.1 36 (l2 + l6).toNatClampNeg)) fun A57 =>
    bv (l6 + 1) fun v58 =>
    some (.inl (v58, A57))
noncomputable def f_X6_copy_X204 (A : St) (m5 : Int32) : Option (Int32 × St) :=
  some (m5, A)
noncomputable def f_X6_copy (x1 : Int32) (x2 : Int32) (x3 : Int32) (x4 : Int32) (x5 : Int32) (A : St) : Option (Int32 × St) :=
  cl (f_X6_isSheet x1) fun r1 =>
  if (bI r1) = 0 then
    cl2 (f_X6_finds 0 A) fun r4 A6 =>
    some (r4, A6)
  else
    cl (f_X6_isSheet x3) fun r7 =>
    if (bI r7) = 0 then
      cl2 (f_X6_finds 0 A) fun r69 A71 =>
      some (r69, A71)
    else
      gI x1 4 <|
      if (A.1 17 x1.toNatClampNeg) < 0 then
        cl2 (f_X6_finds 5 A) fun r12 A14 =>
        some (r12, A14)
      else
        gI x3 4 <|
        if 0 ≤ (A.1 17 x3.toNatClampNeg) then
          gI x1 4 <|
          gI x3 4 <|
          if (A.1 17 x1.toNatClampNeg) = (A.1 17 x3.toNatClampNeg) then
            if x2 < 0 then
              cl2 (f_X6_finds 0 A) fun r21 A23 =>
              some (r21, A23)
            else
              if x4 < 0 then
                cl2 (f_X6_finds 0 A) fun r25 A27 =>
                some (r25, A27)
              else
                if x5 < 0 then
                  cl2 (f_X6_finds 0 A) fun r29 A31 =>
                  some (r29, A31)
                else
                  gI x1 4 <|
                  if 0 < (lg_cmp (x2.toInt64 + x5.toInt64) ((A.1 18 x1.toNatClampNeg).toInt64)) then
                    cl2 (f_X6_finds 0 A) fun r34 A36 =>
                    some (r34, A36)
                  else
                    gI x3 4 <|
                    if (lg_cmp (x4.toInt64 + x5.toInt64) ((A.1 18 x3.toNatClampNeg).toInt64)) ≤ 0 then
                      cl (f_X6_takesAll x1 A) fun A41 =>
                      cl (loop (fun s => f_X6_copy_L128 x2 x3 x4 x5 s.1 s.2) (0, A41)) (fun s => f_X6_copy_X204 s x5)
                    else
                      cl2 (f_X6_finds 0 A) fun r60 A62 =>
                      some (r60, A62)
          else
            cl2 (f_X6_finds 2 A) fun r63 A65 =>
            some (r63, A65)
        else
          cl2 (f_X6_finds 5 A) fun r66 A68 =>
          some (r66, A68)
abbrev rm_X6_copy : Room := { frames := 2, cells := 0, slots := 0, locals := 45 }
set_option maxHeartbeats 4000000 in
set_option maxRecDepth 100000 in
theorem g_X6_copy_L128 {E : pfE} (X : CX cellsR E cX6_copy RX6 rm_X6_copy 7) (l2 : Int32) (l3 : Int32) (l4 : Int32) (l5 : Int32) : ∀ (n : Nat) (l6 : Int32) (A : St) (ρ : St), lp (fun s => f_X6_copy_L128 l2 l3 l4 l5 s.1 s.2) n (l6, A) = some ρ → (∀ (B : St), ρ = B → GG cellsR E B 204 [(5, .int l5)] []) → GG cellsR E A 128 [(0, .ref (fAd (eF E) 0)), (2, .int l2), (3, .int l3), (4, .int l4), (5, .int l5), (6, .int l6)] [] := by
  intro n
  induction n with
  | zero =>
    intro l6 A ρ h
    cases h
  | succ n ih =>
    intro l6 A ρ h0 K
    obtain ⟨x, hb, hx⟩ := lp_step h0
    have h : f_X6_copy_L128 l2 l3 l4 l5 l6 A = some x := hb
    unfold f_X6_copy_L128 at h
    clear hb h0
    refine G_iload X dX6_copy_128 5 rfl ?_
    refine G_iload X dX6_copy_130 4 rfl ?_
    refine G_icge X (tgt := 204) dX6_copy_132 (by decide) (fun c42 => ?_) (fun c42 => ?_)
    · have h := if_t c42 h
      exact G_sub [4] rfl (K _ (lpr (so h) hx).symm)
    · have h := if_f c42 h
      refine G_aload_n X dX6_copy_135 rfl 0 rfl ?_
      refine G_getf X inX6 0 (eR0 _ _ _) rfl 14 (by decide) qw668 rfl dX6_copy_136 ?_
      refine G_iload_n X dX6_copy_139 rfl 2 rfl ?_
      have hi43 := gI_n h
      have h := gI_k h
      have hw44 := vlt hi43
      refine G_aald X (t0 := 3) (b := fAd (eF E) (20 + l3.toNatClampNeg)) 19 (eR19 _ _ _) rfl rfl hi43 (if_pos hw44) dX6_copy_140 ?_
      refine G_iload X dX6_copy_141 3 rfl ?_
      refine G_iload X dX6_copy_143 5 rfl ?_
      refine G_iadd X dX6_copy_145 ?_
      refine G_aload_n X dX6_copy_146 rfl 0 rfl ?_
      refine G_getf X inX6 0 (eR0 _ _ _) rfl 17 (by decide) qw671 rfl dX6_copy_147 ?_
      refine G_iload_n X dX6_copy_150 rfl 1 rfl ?_
      refine G_iload X dX6_copy_151 5 rfl ?_
      refine G_iadd X dX6_copy_153 ?_
      have hi45 := gI_n h
      have h := gI_k h
      refine G_iald X (j := (l2 + l6).toNatClampNeg) 34 (eR34 _ _ _) hi45 rfl dX6_copy_154 ?_
      have hi46 := gI_n h
      have h := gI_k h
      refine G_iast X (j := (l4 + l6).toNatClampNeg) (20 + l3.toNatClampNeg) (eRf20 _ _ _ _ hw44) (sRI _ _ _ _ (l4 + l6).toNatClampNeg _ _ (fun _ => fR20 _ _ _ _ hw44)) hi46 rfl dX6_copy_155 ?_
      refine G_topS (fun A47 eA47 => ?_)
      have h := bv_k eA47 h
      refine G_aload_n X dX6_copy_156 rfl 0 rfl ?_
      refine G_getf X inX6 0 (eR0 _ _ _) rfl 15 (by decide) qw669 rfl dX6_copy_157 ?_
      refine G_iload_n X dX6_copy_160 rfl 2 rfl ?_
      have hi48 := gI_n h
      have h := gI_k h
      have hw49 := vlt hi48
      refine G_aald X (t0 := 5) (b := fAd (eF E) (25 + l3.toNatClampNeg)) 24 (eR24 _ _ _) rfl rfl hi48 (if_pos hw49) dX6_copy_161 ?_
      refine G_iload X dX6_copy_162 3 rfl ?_
      refine G_iload X dX6_copy_164 5 rfl ?_
      refine G_iadd X dX6_copy_166 ?_
      refine G_aload_n X dX6_copy_167 rfl 0 rfl ?_
      refine G_getf X inX6 0 (eR0 _ _ _) rfl 18 (by decide) qw672 rfl dX6_copy_168 ?_
      refine G_iload_n X dX6_copy_171 rfl 1 rfl ?_
      refine G_iload X dX6_copy_172 5 rfl ?_
      refine G_iadd X dX6_copy_174 ?_
      have hi50 := gI_n h
      have h := gI_k h
      refine G_fald X (j := (l2 + l6).toNatClampNeg) 35 (eR35 _ _ _) hi50 rfl dX6_copy_175 ?_
      have hi51 := gI_n h
      have h := gI_k h
      refine G_fast X (j := (l4 + l6).toNatClampNeg) (25 + l3.toNatClampNeg) (eRf25 _ _ _ _ hw49) (sRF _ _ _ _ (l4 + l6).toNatClampNeg _ _ (fun _ => fR25 _ _ _ _ hw49)) hi51 rfl dX6_copy_176 ?_
      refine G_topS (fun A52 eA52 => ?_)
      have h := bv_k eA52 h
      refine G_aload_n X dX6_copy_177 rfl 0 rfl ?_
      refine G_getf X inX6 0 (eR0 _ _ _) rfl 16 (by decide) qw670 rfl dX6_copy_178 ?_
      refine G_iload_n X dX6_copy_181 rfl 2 rfl ?_
      have hi53 := gI_n h
      have h := gI_k h
      have hw54 := vlt hi53
      refine G_aald X (t0 := 4) (b := fAd (eF E) (30 + l3.toNatClampNeg)) 29 (eR29 _ _ _) rfl rfl hi53 (if_pos hw54) dX6_copy_182 ?_
      refine G_iload X dX6_copy_183 3 rfl ?_
      refine G_iload X dX6_copy_185 5 rfl ?_
      refine G_iadd X dX6_copy_187 ?_
      refine G_aload_n X dX6_copy_188 rfl 0 rfl ?_
      refine G_getf X inX6 0 (eR0 _ _ _) rfl 19 (by decide) qw673 rfl dX6_copy_189 ?_
      refine G_iload_n X dX6_copy_192 rfl 1 rfl ?_
      refine G_iload X dX6_copy_193 5 rfl ?_
      refine G_iadd X dX6_copy_195 ?_
      have hi55 := gI_n h
      have h := gI_k h
      refine G_dald X (j := (l2 + l6).toNatClampNeg) 36 (eR36 _ _ _) hi55 rfl dX6_copy_196 ?_
      have hi56 := gI_n h
      have h := gI_k h
      refine G_dast X (j := (l4 + l6).toNatClampNeg) (30 + l3.toNatClampNeg) (eRf30 _ _ _ _ hw54) (sRD _ _ _ _ (l4 + l6).toNatClampNeg _ _ (fun _ => fR30 _ _ _ _ hw54)) hi56 rfl dX6_copy_197 ?_
      refine G_topS (fun A57 eA57 => ?_)
      have h := bv_k eA57 h
      obtain ⟨v58, ev58⟩ : ∃ y : Int32, y = l6 + 1 := ⟨_, rfl⟩
      have h := bv_k ev58 h
      refine G_iinc X (q := 5) (v := v58) (lv2 := [(6, .int v58), (0, .ref (fAd (eF E) 0)), (2, .int l2), (3, .int l3), (4, .int l4), (5, .int l5)]) dX6_copy_198 rfl (by rw [ev58]; rfl) (by decide) rfl ?_
      refine G_goto X (tgt := 128) dX6_copy_201 (by decide) ?_
      exact G_sub [1, 2, 3, 4, 5, 0] rfl (ih _ _ _ (lpl (so h) hx) K)
set_option maxHeartbeats 4000000 in
set_option maxRecDepth 100000 in
theorem b_X6_copy {E : pfE} (X : CX cellsR E cX6_copy RX6 rm_X6_copy 7) (x1 : Int32) (x2 : Int32) (x3 : Int32) (x4 : Int32) (x5 : Int32) (A : St) {out : Int32 × St} (hQ : Reti cellsR E cX6_copy out.1 out.2) (h : f_X6_copy x1 x2 x3 x4 x5 A = some out) : GG cellsR E A 0 [(0, .ref (fAd (eF E) 0)), (1, .int x1), (2, .int x2), (3, .int x3), (4, .int x4), (5, .int x5)] [] := by
  unfold f_X6_copy at h
  refine G_iload_n X dX6_copy_0 rfl 1 rfl ?_
  obtain ⟨r1, hz2, h⟩ := cl_k h
  refine G_callS_i X (As := [.int x1]) (rest := []) ok_X6_isSheet qw1051 ⟨rfl, rfl, Nat.le_of_ble_eq_true rfl, Nat.le_of_ble_eq_true rfl⟩ (m_X6_isSheet X.d hz2) rfl rfl (Nat.le_of_ble_eq_true rfl) dX6_copy_1 ?_
  refine G_ifeq X (tgt := 14) dX6_copy_4 (by decide) (fun c3 => ?_) (fun c3 => ?_)
  · have h := if_t c3 h
    refine G_aload_n X dX6_copy_14 rfl 0 rfl ?_
    refine G_iconst X (v := 0) dX6_copy_15 rfl ?_
    obtain ⟨r4, A6, hz5, h⟩ := cl2_k h
    refine G_callV_i X (As := [.int 0]) (rest := []) ok_X6_finds qw737 0 (eR0 _ _ _) rfl rfl ⟨rfl, rfl, Nat.le_of_ble_eq_true rfl, Nat.le_of_ble_eq_true rfl⟩ (m_X6_finds X.d hz5) rfl rfl (Nat.le_of_ble_eq_true rfl) dX6_copy_16 ?_
    have e := so h
    subst e
    exact hQ _ _ dX6_copy_19
  · have h := if_f c3 h
    refine G_iload_n X dX6_copy_7 rfl 3 rfl ?_
    obtain ⟨r7, hz8, h⟩ := cl_k h
    refine G_callS_i X (As := [.int x3]) (rest := []) ok_X6_isSheet qw1051 ⟨rfl, rfl, Nat.le_of_ble_eq_true rfl, Nat.le_of_ble_eq_true rfl⟩ (m_X6_isSheet X.d hz8) rfl rfl (Nat.le_of_ble_eq_true rfl) dX6_copy_8 ?_
    refine G_ifne X (tgt := 20) dX6_copy_11 (by decide) (fun c9 => ?_) (fun c9 => ?_)
    · have h := if_t c9 h
      refine G_aload_n X dX6_copy_14 rfl 0 rfl ?_
      refine G_iconst X (v := 0) dX6_copy_15 rfl ?_
      obtain ⟨r69, A71, hz70, h⟩ := cl2_k h
      refine G_callV_i X (As := [.int 0]) (rest := []) ok_X6_finds qw737 0 (eR0 _ _ _) rfl rfl ⟨rfl, rfl, Nat.le_of_ble_eq_true rfl, Nat.le_of_ble_eq_true rfl⟩ (m_X6_finds X.d hz70) rfl rfl (Nat.le_of_ble_eq_true rfl) dX6_copy_16 ?_
      have e := so h
      subst e
      exact hQ _ _ dX6_copy_19
    · have h := if_f c9 h
      refine G_aload_n X dX6_copy_20 rfl 0 rfl ?_
      refine G_getf X inX6 0 (eR0 _ _ _) rfl 12 (by decide) qw666 rfl dX6_copy_21 ?_
      refine G_iload_n X dX6_copy_24 rfl 1 rfl ?_
      have hi10 := gI_n h
      have h := gI_k h
      refine G_iald X (j := x1.toNatClampNeg) 17 (eR17 _ _ _) hi10 rfl dX6_copy_25 ?_
      refine G_iflt X (tgt := 38) dX6_copy_26 (by decide) (fun c11 => ?_) (fun c11 => ?_)
      · have h := if_t c11 h
        refine G_aload_n X dX6_copy_38 rfl 0 rfl ?_
        refine G_iconst X (v := 5) dX6_copy_39 rfl ?_
        obtain ⟨r12, A14, hz13, h⟩ := cl2_k h
        refine G_callV_i X (As := [.int 5]) (rest := []) ok_X6_finds qw737 0 (eR0 _ _ _) rfl rfl ⟨rfl, rfl, Nat.le_of_ble_eq_true rfl, Nat.le_of_ble_eq_true rfl⟩ (m_X6_finds X.d hz13) rfl rfl (Nat.le_of_ble_eq_true rfl) dX6_copy_40 ?_
        have e := so h
        subst e
        exact hQ _ _ dX6_copy_43
      · have h := if_f c11 h
        refine G_aload_n X dX6_copy_29 rfl 0 rfl ?_
        refine G_getf X inX6 0 (eR0 _ _ _) rfl 12 (by decide) qw666 rfl dX6_copy_30 ?_
        refine G_iload_n X dX6_copy_33 rfl 3 rfl ?_
        have hi15 := gI_n h
        have h := gI_k h
        refine G_iald X (j := x3.toNatClampNeg) 17 (eR17 _ _ _) hi15 rfl dX6_copy_34 ?_
        refine G_ifge X (tgt := 44) dX6_copy_35 (by decide) (fun c16 => ?_) (fun c16 => ?_)
        · have h := if_t c16 h
          refine G_aload_n X dX6_copy_44 rfl 0 rfl ?_
          refine G_getf X inX6 0 (eR0 _ _ _) rfl 12 (by decide) qw666 rfl dX6_copy_45 ?_
          refine G_iload_n X dX6_copy_48 rfl 1 rfl ?_
          have hi17 := gI_n h
          have h := gI_k h
          refine G_iald X (j := x1.toNatClampNeg) 17 (eR17 _ _ _) hi17 rfl dX6_copy_49 ?_
          refine G_aload_n X dX6_copy_50 rfl 0 rfl ?_
          refine G_getf X inX6 0 (eR0 _ _ _) rfl 12 (by decide) qw666 rfl dX6_copy_51 ?_
          refine G_iload_n X dX6_copy_54 rfl 3 rfl ?_
          have hi18 := gI_n h
          have h := gI_k h
          refine G_iald X (j := x3.toNatClampNeg) 17 (eR17 _ _ _) hi18 rfl dX6_copy_55 ?_
          refine G_iceq X (tgt := 65) dX6_copy_56 (by decide) (fun c19 => ?_) (fun c19 => ?_)
          · have h := if_t c19 h
            refine G_iload_n X dX6_copy_65 rfl 2 rfl ?_
            refine G_iflt X (tgt := 114) dX6_copy_66 (by decide) (fun c20 => ?_) (fun c20 => ?_)
            · have h := if_t c20 h
              refine G_aload_n X dX6_copy_114 rfl 0 rfl ?_
              refine G_iconst X (v := 0) dX6_copy_115 rfl ?_
              obtain ⟨r21, A23, hz22, h⟩ := cl2_k h
              refine G_callV_i X (As := [.int 0]) (rest := []) ok_X6_finds qw737 0 (eR0 _ _ _) rfl rfl ⟨rfl, rfl, Nat.le_of_ble_eq_true rfl, Nat.le_of_ble_eq_true rfl⟩ (m_X6_finds X.d hz22) rfl rfl (Nat.le_of_ble_eq_true rfl) dX6_copy_116 ?_
              have e := so h
              subst e
              exact hQ _ _ dX6_copy_119
            · have h := if_f c20 h
              refine G_iload X dX6_copy_69 4 rfl ?_
              refine G_iflt X (tgt := 114) dX6_copy_71 (by decide) (fun c24 => ?_) (fun c24 => ?_)
              · have h := if_t c24 h
                refine G_aload_n X dX6_copy_114 rfl 0 rfl ?_
                refine G_iconst X (v := 0) dX6_copy_115 rfl ?_
                obtain ⟨r25, A27, hz26, h⟩ := cl2_k h
                refine G_callV_i X (As := [.int 0]) (rest := []) ok_X6_finds qw737 0 (eR0 _ _ _) rfl rfl ⟨rfl, rfl, Nat.le_of_ble_eq_true rfl, Nat.le_of_ble_eq_true rfl⟩ (m_X6_finds X.d hz26) rfl rfl (Nat.le_of_ble_eq_true rfl) dX6_copy_116 ?_
                have e := so h
                subst e
                exact hQ _ _ dX6_copy_119
              · have h := if_f c24 h
                refine G_iload X dX6_copy_74 5 rfl ?_
                refine G_iflt X (tgt := 114) dX6_copy_76 (by decide) (fun c28 => ?_) (fun c28 => ?_)
                · have h := if_t c28 h
                  refine G_aload_n X dX6_copy_114 rfl 0 rfl ?_
                  refine G_iconst X (v := 0) dX6_copy_115 rfl ?_
                  obtain ⟨r29, A31, hz30, h⟩ := cl2_k h
                  refine G_callV_i X (As := [.int 0]) (rest := []) ok_X6_finds qw737 0 (eR0 _ _ _) rfl rfl ⟨rfl, rfl, Nat.le_of_ble_eq_true rfl, Nat.le_of_ble_eq_true rfl⟩ (m_X6_finds X.d hz30) rfl rfl (Nat.le_of_ble_eq_true rfl) dX6_copy_116 ?_
                  have e := so h
                  subst e
                  exact hQ _ _ dX6_copy_119
                · have h := if_f c28 h
                  refine G_iload_n X dX6_copy_79 rfl 2 rfl ?_
                  refine G_i2l X dX6_copy_80 rfl ?_
                  refine G_iload X dX6_copy_81 5 rfl ?_
                  refine G_i2l X dX6_copy_83 rfl ?_
                  refine G_ladd X dX6_copy_84 ?_
                  refine G_aload_n X dX6_copy_85 rfl 0 rfl ?_
                  refine G_getf X inX6 0 (eR0 _ _ _) rfl 13 (by decide) qw667 rfl dX6_copy_86 ?_
                  refine G_iload_n X dX6_copy_89 rfl 1 rfl ?_
                  have hi32 := gI_n h
                  have h := gI_k h
                  refine G_iald X (j := x1.toNatClampNeg) 18 (eR18 _ _ _) hi32 rfl dX6_copy_90 ?_
                  refine G_i2l X dX6_copy_91 rfl ?_
                  refine G_lcmp X dX6_copy_92 ?_
                  refine G_ifgt X (tgt := 114) dX6_copy_93 (by decide) (fun c33 => ?_) (fun c33 => ?_)
                  · have h := if_t c33 h
                    refine G_aload_n X dX6_copy_114 rfl 0 rfl ?_
                    refine G_iconst X (v := 0) dX6_copy_115 rfl ?_
                    obtain ⟨r34, A36, hz35, h⟩ := cl2_k h
                    refine G_callV_i X (As := [.int 0]) (rest := []) ok_X6_finds qw737 0 (eR0 _ _ _) rfl rfl ⟨rfl, rfl, Nat.le_of_ble_eq_true rfl, Nat.le_of_ble_eq_true rfl⟩ (m_X6_finds X.d hz35) rfl rfl (Nat.le_of_ble_eq_true rfl) dX6_copy_116 ?_
                    have e := so h
                    subst e
                    exact hQ _ _ dX6_copy_119
                  · have h := if_f c33 h
                    refine G_iload X dX6_copy_96 4 rfl ?_
                    refine G_i2l X dX6_copy_98 rfl ?_
                    refine G_iload X dX6_copy_99 5 rfl ?_
                    refine G_i2l X dX6_copy_101 rfl ?_
                    refine G_ladd X dX6_copy_102 ?_
                    refine G_aload_n X dX6_copy_103 rfl 0 rfl ?_
                    refine G_getf X inX6 0 (eR0 _ _ _) rfl 13 (by decide) qw667 rfl dX6_copy_104 ?_
                    refine G_iload_n X dX6_copy_107 rfl 3 rfl ?_
                    have hi37 := gI_n h
                    have h := gI_k h
                    refine G_iald X (j := x3.toNatClampNeg) 18 (eR18 _ _ _) hi37 rfl dX6_copy_108 ?_
                    refine G_i2l X dX6_copy_109 rfl ?_
                    refine G_lcmp X dX6_copy_110 ?_
                    refine G_ifle X (tgt := 120) dX6_copy_111 (by decide) (fun c38 => ?_) (fun c38 => ?_)
                    · have h := if_t c38 h
                      refine G_aload_n X dX6_copy_120 rfl 0 rfl ?_
                      refine G_iload_n X dX6_copy_121 rfl 1 rfl ?_
                      obtain ⟨A41, hz40, h⟩ := cl_k h
                      refine G_callV_v X (As := [.int x1]) (rest := []) ok_X6_takesAll qw1071 0 (eR0 _ _ _) rfl rfl ⟨rfl, rfl, Nat.le_of_ble_eq_true rfl, Nat.le_of_ble_eq_true rfl⟩ (m_X6_takesAll X.d hz40) rfl rfl (Nat.le_of_ble_eq_true rfl) dX6_copy_122 ?_
                      refine G_iconst X (v := 0) dX6_copy_125 rfl ?_
                      refine G_istore X (lv2 := [(6, .int 0), (0, .ref (fAd (eF E) 0)), (1, .int x1), (2, .int x2), (3, .int x3), (4, .int x4), (5, .int x5)]) dX6_copy_126 (by decide) rfl ?_
                      obtain ⟨ρ, hl, h⟩ := cl_k h
                      obtain ⟨n, hl⟩ := loop_some hl
                      refine G_sub [1, 3, 4, 5, 6, 0] rfl (g_X6_copy_L128 X x2 x3 x4 x5 n _ _ ρ hl ?_)
                      intro A59 e
                      rw [e] at h
                      have h : f_X6_copy_X204 A59 x5 = some _ := h
                      unfold f_X6_copy_X204 at h
                      refine G_iload X dX6_copy_204 0 rfl ?_
                      have e := so h
                      subst e
                      exact hQ _ _ dX6_copy_206
                    · have h := if_f c38 h
                      refine G_aload_n X dX6_copy_114 rfl 0 rfl ?_
                      refine G_iconst X (v := 0) dX6_copy_115 rfl ?_
                      obtain ⟨r60, A62, hz61, h⟩ := cl2_k h
                      refine G_callV_i X (As := [.int 0]) (rest := []) ok_X6_finds qw737 0 (eR0 _ _ _) rfl rfl ⟨rfl, rfl, Nat.le_of_ble_eq_true rfl, Nat.le_of_ble_eq_true rfl⟩ (m_X6_finds X.d hz61) rfl rfl (Nat.le_of_ble_eq_true rfl) dX6_copy_116 ?_
                      have e := so h
                      subst e
                      exact hQ _ _ dX6_copy_119
          · have h := if_f c19 h
            refine G_aload_n X dX6_copy_59 rfl 0 rfl ?_
            refine G_iconst X (v := 2) dX6_copy_60 rfl ?_
            obtain ⟨r63, A65, hz64, h⟩ := cl2_k h
            refine G_callV_i X (As := [.int 2]) (rest := []) ok_X6_finds qw737 0 (eR0 _ _ _) rfl rfl ⟨rfl, rfl, Nat.le_of_ble_eq_true rfl, Nat.le_of_ble_eq_true rfl⟩ (m_X6_finds X.d hz64) rfl rfl (Nat.le_of_ble_eq_true rfl) dX6_copy_61 ?_
            have e := so h
            subst e
            exact hQ _ _ dX6_copy_64
        · have h := if_f c16 h
          refine G_aload_n X dX6_copy_38 rfl 0 rfl ?_
          refine G_iconst X (v := 5) dX6_copy_39 rfl ?_
          obtain ⟨r66, A68, hz67, h⟩ := cl2_k h
          refine G_callV_i X (As := [.int 5]) (rest := []) ok_X6_finds qw737 0 (eR0 _ _ _) rfl rfl ⟨rfl, rfl, Nat.le_of_ble_eq_true rfl, Nat.le_of_ble_eq_true rfl⟩ (m_X6_finds X.d hz67) rfl rfl (Nat.le_of_ble_eq_true rfl) dX6_copy_40 ?_
          have e := so h
          subst e
          exact hQ _ _ dX6_copy_43
theorem m_X6_copy {l : Launch} {F : pfF} (hD : ∀ A, va_D (fA F) (cellsR (fAd F) (fCy F) A)) {x1 : Int32} {x2 : Int32} {x3 : Int32} {x4 : Int32} {x5 : Int32} {A : St} {out : Int32 × St} (h : f_X6_copy x1 x2 x3 x4 x5 A = some out) : Mt l F cellsR yX6_copy cX6_copy 7 (some .int) rm_X6_copy [.ref (fAd F 0), .int x1, .int x2, .int x3, .int x4, .int x5] A (va_Qi (fun (r : Int32) (u : St) => r = out.1 ∧ u = out.2) (Wd cellsR F) (fA F)) := by
  refine Met_i (by decide +kernel) (Nat.le_of_ble_eq_true rfl) hD (fun E el ef X hQ => ?_)
  subst el
  subst ef
  exact b_X6_copy X _ _ _ _ _ _ hQ h
theorem ok_X6_copy : OkV yX6_copy cX6_copy 7 (some .int) 5 := ⟨qw1068, qw1069, qw6, qw1070, by decide, by decide, by decide⟩
noncomputable def f_X6_comesDouble (x1 : Int32) (x2 : Int32) (x3 : UInt64) (A : St) : Option (St) :=
  gI x1 4 <|
  if (A.1 17 x1.toNatClampNeg) = 0 then
    gI x1 4 <|
    gI x2 40 <|
    bv (upI A (20 + x1.toNatClampNeg) x2.toNatClampNeg (FP.d2i x3)) fun A17 =>
    some A17
  else
    gI x1 4 <|
    if (A.1 17 x1.toNatClampNeg) = 1 then
      gI x1 4 <|
      g32 (FP.d2f x3) fun v11 =>
      gI x2 40 <|
      bv (upF A (25 + x1.toNatClampNeg) x2.toNatClampNeg v11) fun A13 =>
      some A13
    else
      gI x1 4 <|
      gI x2 40 <|
      bv (upD A (30 + x1.toNatClampNeg) x2.toNatClampNeg x3) fun A8 =>
      some A8
abbrev rm_X6_comesDouble : Room := { frames := 0, cells := 0, slots := 0, locals := 0 }
set_option maxHeartbeats 4000000 in
set_option maxRecDepth 100000 in
theorem b_X6_comesDouble {E : pfE} (X : CX cellsR E cX6_comesDouble RX6 rm_X6_comesDouble 5) (x1 : Int32) (x2 : Int32) (x3 : UInt64) (A : St) {out : St} (hQ : Retv cellsR E cX6_comesDouble out) (h : f_X6_comesDouble x1 x2 x3 A = some out) : GG cellsR E A 0 [(0, .ref (fAd (eF E) 0)), (1, .int x1), (2, .int x2), (3, .double x3)] [] := by
  unfold f_X6_comesDouble at h
  refine G_aload_n X dX6_comesDouble_0 rfl 0 rfl ?_
  refine G_getf X inX6 0 (eR0 _ _ _) rfl 12 (by decide) qw666 rfl dX6_comesDouble_1 ?_
  refine G_iload_n X dX6_comesDouble_4 rfl 1 rfl ?_
  have hi1 := gI_n h
  have h := gI_k h
  refine G_iald X (j := x1.toNatClampNeg) 17 (eR17 _ _ _) hi1 rfl dX6_comesDouble_5 ?_
  refine G_ifne X (tgt := 22) dX6_comesDouble_6 (by decide) (fun c2 => ?_) (fun c2 => ?_)
  · have h := if_t c2 h
    refine G_aload_n X dX6_comesDouble_9 rfl 0 rfl ?_
    refine G_getf X inX6 0 (eR0 _ _ _) rfl 14 (by decide) qw668 rfl dX6_comesDouble_10 ?_
    refine G_iload_n X dX6_comesDouble_13 rfl 1 rfl ?_
    have hi14 := gI_n h
    have h := gI_k h
    have hw15 := vlt hi14
    refine G_aald X (t0 := 3) (b := fAd (eF E) (20 + x1.toNatClampNeg)) 19 (eR19 _ _ _) rfl rfl hi14 (if_pos hw15) dX6_comesDouble_14 ?_
    refine G_iload_n X dX6_comesDouble_15 rfl 2 rfl ?_
    refine G_dload_n X dX6_comesDouble_16 rfl 3 rfl ?_
    refine G_d2i X dX6_comesDouble_17 ?_
    have hi16 := gI_n h
    have h := gI_k h
    refine G_iast X (j := x2.toNatClampNeg) (20 + x1.toNatClampNeg) (eRf20 _ _ _ _ hw15) (sRI _ _ _ _ x2.toNatClampNeg _ _ (fun _ => fR20 _ _ _ _ hw15)) hi16 rfl dX6_comesDouble_18 ?_
    refine G_topS (fun A17 eA17 => ?_)
    have h := bv_k eA17 h
    refine G_goto X (tgt := 54) dX6_comesDouble_19 (by decide) ?_
    have e := so h
    subst e
    exact hQ _ _ dX6_comesDouble_54
  · have h := if_f c2 h
    refine G_aload_n X dX6_comesDouble_22 rfl 0 rfl ?_
    refine G_getf X inX6 0 (eR0 _ _ _) rfl 12 (by decide) qw666 rfl dX6_comesDouble_23 ?_
    refine G_iload_n X dX6_comesDouble_26 rfl 1 rfl ?_
    have hi3 := gI_n h
    have h := gI_k h
    refine G_iald X (j := x1.toNatClampNeg) 17 (eR17 _ _ _) hi3 rfl dX6_comesDouble_27 ?_
    refine G_iconst X (v := 1) dX6_comesDouble_28 rfl ?_
    refine G_icne X (tgt := 45) dX6_comesDouble_29 (by decide) (fun c4 => ?_) (fun c4 => ?_)
    · have h := if_t c4 h
      refine G_aload_n X dX6_comesDouble_32 rfl 0 rfl ?_
      refine G_getf X inX6 0 (eR0 _ _ _) rfl 15 (by decide) qw669 rfl dX6_comesDouble_33 ?_
      refine G_iload_n X dX6_comesDouble_36 rfl 1 rfl ?_
      have hi9 := gI_n h
      have h := gI_k h
      have hw10 := vlt hi9
      refine G_aald X (t0 := 5) (b := fAd (eF E) (25 + x1.toNatClampNeg)) 24 (eR24 _ _ _) rfl rfl hi9 (if_pos hw10) dX6_comesDouble_37 ?_
      refine G_iload_n X dX6_comesDouble_38 rfl 2 rfl ?_
      refine G_dload_n X dX6_comesDouble_39 rfl 3 rfl ?_
      have hv11 := g32_n h
      refine G_d2f X dX6_comesDouble_40 hv11 ?_
      refine G_topf (fun v11 ev11 => ?_)
      have h := g32_k ev11 h
      have hi12 := gI_n h
      have h := gI_k h
      refine G_fast X (j := x2.toNatClampNeg) (25 + x1.toNatClampNeg) (eRf25 _ _ _ _ hw10) (sRF _ _ _ _ x2.toNatClampNeg _ _ (fun _ => fR25 _ _ _ _ hw10)) hi12 rfl dX6_comesDouble_41 ?_
      refine G_topS (fun A13 eA13 => ?_)
      have h := bv_k eA13 h
      refine G_goto X (tgt := 54) dX6_comesDouble_42 (by decide) ?_
      have e := so h
      subst e
      exact hQ _ _ dX6_comesDouble_54
    · have h := if_f c4 h
      refine G_aload_n X dX6_comesDouble_45 rfl 0 rfl ?_
      refine G_getf X inX6 0 (eR0 _ _ _) rfl 16 (by decide) qw670 rfl dX6_comesDouble_46 ?_
      refine G_iload_n X dX6_comesDouble_49 rfl 1 rfl ?_
      have hi5 := gI_n h
      have h := gI_k h
      have hw6 := vlt hi5
      refine G_aald X (t0 := 4) (b := fAd (eF E) (30 + x1.toNatClampNeg)) 29 (eR29 _ _ _) rfl rfl hi5 (if_pos hw6) dX6_comesDouble_50 ?_
      refine G_iload_n X dX6_comesDouble_51 rfl 2 rfl ?_
      refine G_dload_n X dX6_comesDouble_52 rfl 3 rfl ?_
      have hi7 := gI_n h
      have h := gI_k h
      refine G_dast X (j := x2.toNatClampNeg) (30 + x1.toNatClampNeg) (eRf30 _ _ _ _ hw6) (sRD _ _ _ _ x2.toNatClampNeg _ _ (fun _ => fR30 _ _ _ _ hw6)) hi7 rfl dX6_comesDouble_53 ?_
      refine G_topS (fun A8 eA8 => ?_)
      have h := bv_k eA8 h
      have e := so h
      subst e
      exact hQ _ _ dX6_comesDouble_54
theorem m_X6_comesDouble {l : Launch} {F : pfF} (hD : ∀ A, va_D (fA F) (cellsR (fAd F) (fCy F) A)) {x1 : Int32} {x2 : Int32} {x3 : UInt64} {A : St} {out : St} (h : f_X6_comesDouble x1 x2 x3 A = some out) : Mt l F cellsR yX6_comesDouble cX6_comesDouble 5 none rm_X6_comesDouble [.ref (fAd F 0), .int x1, .int x2, .double x3] A (va_Qv (fun (u : St) => u = out) (Wd cellsR F) (fA F)) := by
  refine Met_v (by decide +kernel) (Nat.le_of_ble_eq_true rfl) hD (fun E el ef X hQ => ?_)
  subst el
  subst ef
  exact b_X6_comesDouble X _ _ _ _ hQ h
theorem ok_X6_comesDouble : OkV yX6_comesDouble cX6_comesDouble 5 none 3 := ⟨qw1090, qs37, qw6, qw1091, by decide, by decide, by decide⟩
noncomputable def f_X6_comesFloat (x1 : Int32) (x2 : Int32) (x3 : UInt32) (A : St) : Option (St) :=
  gI x1 4 <|
  if (A.1 17 x1.toNatClampNeg) = 0 then
    gI x1 4 <|
    gI x2 40 <|
    bv (upI A (20 + x1.toNatClampNeg) x2.toNatClampNeg (FP.f2i x3)) fun A17 =>
    some A17
  else
    gI x1 4 <|
    if (A.1 17 x1.toNatClampNeg) = 1 then
      gI x1 4 <|
      gI x2 40 <|
      bv (upF A (25 + x1.toNatClampNeg) x2.toNatClampNeg x3) fun A13 =>
      some A13
    else
      gI x1 4 <|
      g64 (FP.f2d x3) fun v7 =>
      gI x2 40 <|
      bv (upD A (30 + x1.toNatClampNeg) x2.toNatClampNeg v7) fun A9 =>
      some A9
abbrev rm_X6_comesFloat : Room := { frames := 0, cells := 0, slots := 0, locals := 0 }
set_option maxHeartbeats 4000000 in
set_option maxRecDepth 100000 in
theorem b_X6_comesFloat {E : pfE} (X : CX cellsR E cX6_comesFloat RX6 rm_X6_comesFloat 4) (x1 : Int32) (x2 : Int32) (x3 : UInt32) (A : St) {out : St} (hQ : Retv cellsR E cX6_comesFloat out) (h : f_X6_comesFloat x1 x2 x3 A = some out) : GG cellsR E A 0 [(0, .ref (fAd (eF E) 0)), (1, .int x1), (2, .int x2), (3, .float x3)] [] := by
  unfold f_X6_comesFloat at h
  refine G_aload_n X dX6_comesFloat_0 rfl 0 rfl ?_
  refine G_getf X inX6 0 (eR0 _ _ _) rfl 12 (by decide) qw666 rfl dX6_comesFloat_1 ?_
  refine G_iload_n X dX6_comesFloat_4 rfl 1 rfl ?_
  have hi1 := gI_n h
  have h := gI_k h
  refine G_iald X (j := x1.toNatClampNeg) 17 (eR17 _ _ _) hi1 rfl dX6_comesFloat_5 ?_
  refine G_ifne X (tgt := 22) dX6_comesFloat_6 (by decide) (fun c2 => ?_) (fun c2 => ?_)
  · have h := if_t c2 h
    refine G_aload_n X dX6_comesFloat_9 rfl 0 rfl ?_
    refine G_getf X inX6 0 (eR0 _ _ _) rfl 14 (by decide) qw668 rfl dX6_comesFloat_10 ?_
    refine G_iload_n X dX6_comesFloat_13 rfl 1 rfl ?_
    have hi14 := gI_n h
    have h := gI_k h
    have hw15 := vlt hi14
    refine G_aald X (t0 := 3) (b := fAd (eF E) (20 + x1.toNatClampNeg)) 19 (eR19 _ _ _) rfl rfl hi14 (if_pos hw15) dX6_comesFloat_14 ?_
    refine G_iload_n X dX6_comesFloat_15 rfl 2 rfl ?_
    refine G_fload_n X dX6_comesFloat_16 rfl 3 rfl ?_
    refine G_f2i X dX6_comesFloat_17 ?_
    have hi16 := gI_n h
    have h := gI_k h
    refine G_iast X (j := x2.toNatClampNeg) (20 + x1.toNatClampNeg) (eRf20 _ _ _ _ hw15) (sRI _ _ _ _ x2.toNatClampNeg _ _ (fun _ => fR20 _ _ _ _ hw15)) hi16 rfl dX6_comesFloat_18 ?_
    refine G_topS (fun A17 eA17 => ?_)
    have h := bv_k eA17 h
    refine G_goto X (tgt := 54) dX6_comesFloat_19 (by decide) ?_
    have e := so h
    subst e
    exact hQ _ _ dX6_comesFloat_54
  · have h := if_f c2 h
    refine G_aload_n X dX6_comesFloat_22 rfl 0 rfl ?_
    refine G_getf X inX6 0 (eR0 _ _ _) rfl 12 (by decide) qw666 rfl dX6_comesFloat_23 ?_
    refine G_iload_n X dX6_comesFloat_26 rfl 1 rfl ?_
    have hi3 := gI_n h
    have h := gI_k h
    refine G_iald X (j := x1.toNatClampNeg) 17 (eR17 _ _ _) hi3 rfl dX6_comesFloat_27 ?_
    refine G_iconst X (v := 1) dX6_comesFloat_28 rfl ?_
    refine G_icne X (tgt := 44) dX6_comesFloat_29 (by decide) (fun c4 => ?_) (fun c4 => ?_)
    · have h := if_t c4 h
      refine G_aload_n X dX6_comesFloat_32 rfl 0 rfl ?_
      refine G_getf X inX6 0 (eR0 _ _ _) rfl 15 (by decide) qw669 rfl dX6_comesFloat_33 ?_
      refine G_iload_n X dX6_comesFloat_36 rfl 1 rfl ?_
      have hi10 := gI_n h
      have h := gI_k h
      have hw11 := vlt hi10
      refine G_aald X (t0 := 5) (b := fAd (eF E) (25 + x1.toNatClampNeg)) 24 (eR24 _ _ _) rfl rfl hi10 (if_pos hw11) dX6_comesFloat_37 ?_
      refine G_iload_n X dX6_comesFloat_38 rfl 2 rfl ?_
      refine G_fload_n X dX6_comesFloat_39 rfl 3 rfl ?_
      have hi12 := gI_n h
      have h := gI_k h
      refine G_fast X (j := x2.toNatClampNeg) (25 + x1.toNatClampNeg) (eRf25 _ _ _ _ hw11) (sRF _ _ _ _ x2.toNatClampNeg _ _ (fun _ => fR25 _ _ _ _ hw11)) hi12 rfl dX6_comesFloat_40 ?_
      refine G_topS (fun A13 eA13 => ?_)
      have h := bv_k eA13 h
      refine G_goto X (tgt := 54) dX6_comesFloat_41 (by decide) ?_
      have e := so h
      subst e
      exact hQ _ _ dX6_comesFloat_54
    · have h := if_f c4 h
      refine G_aload_n X dX6_comesFloat_44 rfl 0 rfl ?_
      refine G_getf X inX6 0 (eR0 _ _ _) rfl 16 (by decide) qw670 rfl dX6_comesFloat_45 ?_
      refine G_iload_n X dX6_comesFloat_48 rfl 1 rfl ?_
      have hi5 := gI_n h
      have h := gI_k h
      have hw6 := vlt hi5
      refine G_aald X (t0 := 4) (b := fAd (eF E) (30 + x1.toNatClampNeg)) 29 (eR29 _ _ _) rfl rfl hi5 (if_pos hw6) dX6_comesFloat_49 ?_
      refine G_iload_n X dX6_comesFloat_50 rfl 2 rfl ?_
      refine G_fload_n X dX6_comesFloat_51 rfl 3 rfl ?_
      have hv7 := g64_n h
      refine G_f2d X dX6_comesFloat_52 hv7 ?_
      refine G_topd (fun v7 ev7 => ?_)
      have h := g64_k ev7 h
      have hi8 := gI_n h
      have h := gI_k h
      refine G_dast X (j := x2.toNatClampNeg) (30 + x1.toNatClampNeg) (eRf30 _ _ _ _ hw6) (sRD _ _ _ _ x2.toNatClampNeg _ _ (fun _ => fR30 _ _ _ _ hw6)) hi8 rfl dX6_comesFloat_53 ?_
      refine G_topS (fun A9 eA9 => ?_)
      have h := bv_k eA9 h
      have e := so h
      subst e
      exact hQ _ _ dX6_comesFloat_54
theorem m_X6_comesFloat {l : Launch} {F : pfF} (hD : ∀ A, va_D (fA F) (cellsR (fAd F) (fCy F) A)) {x1 : Int32} {x2 : Int32} {x3 : UInt32} {A : St} {out : St} (h : f_X6_comesFloat x1 x2 x3 A = some out) : Mt l F cellsR yX6_comesFloat cX6_comesFloat 4 none rm_X6_comesFloat [.ref (fAd F 0), .int x1, .int x2, .float x3] A (va_Qv (fun (u : St) => u = out) (Wd cellsR F) (fA F)) := by
  refine Met_v (by decide +kernel) (Nat.le_of_ble_eq_true rfl) hD (fun E el ef X hQ => ?_)
  subst el
  subst ef
  exact b_X6_comesFloat X _ _ _ _ hQ h
theorem ok_X6_comesFloat : OkV yX6_comesFloat cX6_comesFloat 4 none 3 := ⟨qw1086, qs36, qw6, qw1087, by decide, by decide, by decide⟩
noncomputable def f_X6_comesInt (x1 : Int32) (x2 : Int32) (x3 : Int32) (A : St) : Option (St) :=
  gI x1 4 <|
  if (A.1 17 x1.toNatClampNeg) = 0 then
    gI x1 4 <|
    gI x2 40 <|
    bv (upI A (20 + x1.toNatClampNeg) x2.toNatClampNeg x3) fun A16 =>
    some A16
  else
    gI x1 4 <|
    if (A.1 17 x1.toNatClampNeg) = 1 then
      gI x1 4 <|
      gI x2 40 <|
      bv (upF A (25 + x1.toNatClampNeg) x2.toNatClampNeg (FP.i2f x3)) fun A12 =>
      some A12
    else
      gI x1 4 <|
      gI x2 40 <|
      bv (upD A (30 + x1.toNatClampNeg) x2.toNatClampNeg (FP.i2d x3)) fun A8 =>
      some A8
abbrev rm_X6_comesInt : Room := { frames := 0, cells := 0, slots := 0, locals := 0 }
set_option maxHeartbeats 4000000 in
set_option maxRecDepth 100000 in
theorem b_X6_comesInt {E : pfE} (X : CX cellsR E cX6_comesInt RX6 rm_X6_comesInt 4) (x1 : Int32) (x2 : Int32) (x3 : Int32) (A : St) {out : St} (hQ : Retv cellsR E cX6_comesInt out) (h : f_X6_comesInt x1 x2 x3 A = some out) : GG cellsR E A 0 [(0, .ref (fAd (eF E) 0)), (1, .int x1), (2, .int x2), (3, .int x3)] [] := by
  unfold f_X6_comesInt at h
  refine G_aload_n X dX6_comesInt_0 rfl 0 rfl ?_
  refine G_getf X inX6 0 (eR0 _ _ _) rfl 12 (by decide) qw666 rfl dX6_comesInt_1 ?_
  refine G_iload_n X dX6_comesInt_4 rfl 1 rfl ?_
  have hi1 := gI_n h
  have h := gI_k h
  refine G_iald X (j := x1.toNatClampNeg) 17 (eR17 _ _ _) hi1 rfl dX6_comesInt_5 ?_
  refine G_ifne X (tgt := 21) dX6_comesInt_6 (by decide) (fun c2 => ?_) (fun c2 => ?_)
  · have h := if_t c2 h
    refine G_aload_n X dX6_comesInt_9 rfl 0 rfl ?_
    refine G_getf X inX6 0 (eR0 _ _ _) rfl 14 (by decide) qw668 rfl dX6_comesInt_10 ?_
    refine G_iload_n X dX6_comesInt_13 rfl 1 rfl ?_
    have hi13 := gI_n h
    have h := gI_k h
    have hw14 := vlt hi13
    refine G_aald X (t0 := 3) (b := fAd (eF E) (20 + x1.toNatClampNeg)) 19 (eR19 _ _ _) rfl rfl hi13 (if_pos hw14) dX6_comesInt_14 ?_
    refine G_iload_n X dX6_comesInt_15 rfl 2 rfl ?_
    refine G_iload_n X dX6_comesInt_16 rfl 3 rfl ?_
    have hi15 := gI_n h
    have h := gI_k h
    refine G_iast X (j := x2.toNatClampNeg) (20 + x1.toNatClampNeg) (eRf20 _ _ _ _ hw14) (sRI _ _ _ _ x2.toNatClampNeg _ _ (fun _ => fR20 _ _ _ _ hw14)) hi15 rfl dX6_comesInt_17 ?_
    refine G_topS (fun A16 eA16 => ?_)
    have h := bv_k eA16 h
    refine G_goto X (tgt := 54) dX6_comesInt_18 (by decide) ?_
    have e := so h
    subst e
    exact hQ _ _ dX6_comesInt_54
  · have h := if_f c2 h
    refine G_aload_n X dX6_comesInt_21 rfl 0 rfl ?_
    refine G_getf X inX6 0 (eR0 _ _ _) rfl 12 (by decide) qw666 rfl dX6_comesInt_22 ?_
    refine G_iload_n X dX6_comesInt_25 rfl 1 rfl ?_
    have hi3 := gI_n h
    have h := gI_k h
    refine G_iald X (j := x1.toNatClampNeg) 17 (eR17 _ _ _) hi3 rfl dX6_comesInt_26 ?_
    refine G_iconst X (v := 1) dX6_comesInt_27 rfl ?_
    refine G_icne X (tgt := 44) dX6_comesInt_28 (by decide) (fun c4 => ?_) (fun c4 => ?_)
    · have h := if_t c4 h
      refine G_aload_n X dX6_comesInt_31 rfl 0 rfl ?_
      refine G_getf X inX6 0 (eR0 _ _ _) rfl 15 (by decide) qw669 rfl dX6_comesInt_32 ?_
      refine G_iload_n X dX6_comesInt_35 rfl 1 rfl ?_
      have hi9 := gI_n h
      have h := gI_k h
      have hw10 := vlt hi9
      refine G_aald X (t0 := 5) (b := fAd (eF E) (25 + x1.toNatClampNeg)) 24 (eR24 _ _ _) rfl rfl hi9 (if_pos hw10) dX6_comesInt_36 ?_
      refine G_iload_n X dX6_comesInt_37 rfl 2 rfl ?_
      refine G_iload_n X dX6_comesInt_38 rfl 3 rfl ?_
      refine G_i2f X dX6_comesInt_39 ?_
      have hi11 := gI_n h
      have h := gI_k h
      refine G_fast X (j := x2.toNatClampNeg) (25 + x1.toNatClampNeg) (eRf25 _ _ _ _ hw10) (sRF _ _ _ _ x2.toNatClampNeg _ _ (fun _ => fR25 _ _ _ _ hw10)) hi11 rfl dX6_comesInt_40 ?_
      refine G_topS (fun A12 eA12 => ?_)
      have h := bv_k eA12 h
      refine G_goto X (tgt := 54) dX6_comesInt_41 (by decide) ?_
      have e := so h
      subst e
      exact hQ _ _ dX6_comesInt_54
    · have h := if_f c4 h
      refine G_aload_n X dX6_comesInt_44 rfl 0 rfl ?_
      refine G_getf X inX6 0 (eR0 _ _ _) rfl 16 (by decide) qw670 rfl dX6_comesInt_45 ?_
      refine G_iload_n X dX6_comesInt_48 rfl 1 rfl ?_
      have hi5 := gI_n h
      have h := gI_k h
      have hw6 := vlt hi5
      refine G_aald X (t0 := 4) (b := fAd (eF E) (30 + x1.toNatClampNeg)) 29 (eR29 _ _ _) rfl rfl hi5 (if_pos hw6) dX6_comesInt_49 ?_
      refine G_iload_n X dX6_comesInt_50 rfl 2 rfl ?_
      refine G_iload_n X dX6_comesInt_51 rfl 3 rfl ?_
      refine G_i2d X dX6_comesInt_52 ?_
      have hi7 := gI_n h
      have h := gI_k h
      refine G_dast X (j := x2.toNatClampNeg) (30 + x1.toNatClampNeg) (eRf30 _ _ _ _ hw6) (sRD _ _ _ _ x2.toNatClampNeg _ _ (fun _ => fR30 _ _ _ _ hw6)) hi7 rfl dX6_comesInt_53 ?_
      refine G_topS (fun A8 eA8 => ?_)
      have h := bv_k eA8 h
      have e := so h
      subst e
      exact hQ _ _ dX6_comesInt_54
theorem m_X6_comesInt {l : Launch} {F : pfF} (hD : ∀ A, va_D (fA F) (cellsR (fAd F) (fCy F) A)) {x1 : Int32} {x2 : Int32} {x3 : Int32} {A : St} {out : St} (h : f_X6_comesInt x1 x2 x3 A = some out) : Mt l F cellsR yX6_comesInt cX6_comesInt 4 none rm_X6_comesInt [.ref (fAd F 0), .int x1, .int x2, .int x3] A (va_Qv (fun (u : St) => u = out) (Wd cellsR F) (fA F)) := by
  refine Met_v (by decide +kernel) (Nat.le_of_ble_eq_true rfl) hD (fun E el ef X hQ => ?_)
  subst el
  subst ef
  exact b_X6_comesInt X _ _ _ _ hQ h
theorem ok_X6_comesInt : OkV yX6_comesInt cX6_comesInt 4 none 3 := ⟨qw1082, qs35, qw6, qw1083, by decide, by decide, by decide⟩
noncomputable def f_X6_casts_L63 (l1 : Int32) (l2 : Int32) (l3 : Int32) (l4 : Int32) (A : St) : Option ((Int32 × St) ⊕ (St)) :=
  if l3 ≤ l4 then
    some (.inr A)
  else
    gI l1 4 <|
    if (A.1 17 l1.toNatClampNeg) = 0 then
      gI l1 4 <|
      gI l4 40 <|
      cl (f_X6_comesInt l2 l4 (A.1 (20 + l1.toNatClampNeg) l4.toNatClampNeg) A) fun A45 =>
      bv (l4 + 1) fun v46 =>
      some (.inl (v46, A45))
    else
      gI l1 4 <|
      if (A.1 17 l1.toNatClampNeg) = 1 then
        gI l1 4 <|
        gI l4 40 <|
        cl (f_X6_comesFloat l2 l4 (A.2.2 (25 + l1.toNatClampNeg) l4.toNatClampNeg) A) fun A38 =>
        bv (l4 + 1) fun v39 =>
        some (.inl (v39, A38))
      else
        gI l1 4 <|
        gI l4 40 <|
        cl (f_X6_comesDouble l2 l4 (A.2.1 (30 + l1.toNatClampNeg) l4.toNatClampNeg) A) fun A31 =>
        bv (l4 + 1) fun v32 =>
        some (.inl (v32, A31))
noncomputable def f_X6_casts_X148 (A : St) (m3 : Int32) : Option (Int32 × St) :=
  some (m3, A)
noncomputable def f_X6_casts (x1 : Int32) (x2 : Int32) (A : St) : Option (Int32 × St) :=
  cl (f_X6_isSheet x1) fun r1 =>
  if (bI r1) = 0 then
    cl2 (f_X6_finds 0 A) fun r4 A6 =>
    some (r4, A6)
  else
    cl (f_X6_isSheet x2) fun r7 =>
    if (bI r7) = 0 then
      cl2 (f_X6_finds 0 A) fun r51 A53 =>
      some (r51, A53)
    else
      gI x1 4 <|
      if (A.1 17 x1.toNatClampNeg) < 0 then
        cl2 (f_X6_finds 5 A) fun r12 A14 =>
        some (r12, A14)
      else
        gI x2 4 <|
        if 0 ≤ (A.1 17 x2.toNatClampNeg) then
          gI x1 4 <|
          gI x2 4 <|
          cl (f_J9_min_7cf53 (A.1 18 x1.toNatClampNeg) (A.1 18 x2.toNatClampNeg)) fun r19 =>
          cl (loop (fun s => f_X6_casts_L63 x1 x2 r19 s.1 s.2) (0, A)) (fun s => f_X6_casts_X148 s r19)
        else
          cl2 (f_X6_finds 5 A) fun r48 A50 =>
          some (r48, A50)
abbrev rm_X6_casts : Room := { frames := 2, cells := 0, slots := 0, locals := 45 }
set_option maxHeartbeats 4000000 in
set_option maxRecDepth 100000 in
theorem g_X6_casts_L63 {E : pfE} (X : CX cellsR E cX6_casts RX6 rm_X6_casts 5) (l1 : Int32) (l2 : Int32) (l3 : Int32) : ∀ (n : Nat) (l4 : Int32) (A : St) (ρ : St), lp (fun s => f_X6_casts_L63 l1 l2 l3 s.1 s.2) n (l4, A) = some ρ → (∀ (B : St), ρ = B → GG cellsR E B 148 [(3, .int l3)] []) → GG cellsR E A 63 [(0, .ref (fAd (eF E) 0)), (1, .int l1), (2, .int l2), (3, .int l3), (4, .int l4)] [] := by
  intro n
  induction n with
  | zero =>
    intro l4 A ρ h
    cases h
  | succ n ih =>
    intro l4 A ρ h0 K
    obtain ⟨x, hb, hx⟩ := lp_step h0
    have h : f_X6_casts_L63 l1 l2 l3 l4 A = some x := hb
    unfold f_X6_casts_L63 at h
    clear hb h0
    refine G_iload X dX6_casts_63 4 rfl ?_
    refine G_iload_n X dX6_casts_65 rfl 3 rfl ?_
    refine G_icge X (tgt := 148) dX6_casts_66 (by decide) (fun c21 => ?_) (fun c21 => ?_)
    · have h := if_t c21 h
      exact G_sub [3] rfl (K _ (lpr (so h) hx).symm)
    · have h := if_f c21 h
      refine G_aload_n X dX6_casts_69 rfl 0 rfl ?_
      refine G_getf X inX6 0 (eR0 _ _ _) rfl 12 (by decide) qw666 rfl dX6_casts_70 ?_
      refine G_iload_n X dX6_casts_73 rfl 1 rfl ?_
      have hi22 := gI_n h
      have h := gI_k h
      refine G_iald X (j := l1.toNatClampNeg) 17 (eR17 _ _ _) hi22 rfl dX6_casts_74 ?_
      refine G_ifne X (tgt := 97) dX6_casts_75 (by decide) (fun c23 => ?_) (fun c23 => ?_)
      · have h := if_t c23 h
        refine G_aload_n X dX6_casts_78 rfl 0 rfl ?_
        refine G_iload_n X dX6_casts_79 rfl 2 rfl ?_
        refine G_iload X dX6_casts_80 4 rfl ?_
        refine G_aload_n X dX6_casts_82 rfl 0 rfl ?_
        refine G_getf X inX6 0 (eR0 _ _ _) rfl 14 (by decide) qw668 rfl dX6_casts_83 ?_
        refine G_iload_n X dX6_casts_86 rfl 1 rfl ?_
        have hi40 := gI_n h
        have h := gI_k h
        have hw41 := vlt hi40
        refine G_aald X (t0 := 3) (b := fAd (eF E) (20 + l1.toNatClampNeg)) 19 (eR19 _ _ _) rfl rfl hi40 (if_pos hw41) dX6_casts_87 ?_
        refine G_iload X dX6_casts_88 4 rfl ?_
        have hi42 := gI_n h
        have h := gI_k h
        refine G_iald X (j := l4.toNatClampNeg) (20 + l1.toNatClampNeg) (eRf20 _ _ _ _ hw41) hi42 rfl dX6_casts_90 ?_
        obtain ⟨A45, hz44, h⟩ := cl_k h
        refine G_callV_v X (As := [.int l2, .int l4, .int (A.1 (20 + l1.toNatClampNeg) l4.toNatClampNeg)]) (rest := []) ok_X6_comesInt qw1080 0 (eR0 _ _ _) rfl rfl ⟨rfl, rfl, Nat.le_of_ble_eq_true rfl, Nat.le_of_ble_eq_true rfl⟩ (m_X6_comesInt X.d hz44) rfl rfl (Nat.le_of_ble_eq_true rfl) dX6_casts_91 ?_
        refine G_goto X (tgt := 142) dX6_casts_94 (by decide) ?_
        obtain ⟨v46, ev46⟩ : ∃ y : Int32, y = l4 + 1 := ⟨_, rfl⟩
        have h := bv_k ev46 h
        refine G_iinc X (q := 4) (v := v46) (lv2 := [(4, .int v46), (0, .ref (fAd (eF E) 0)), (1, .int l1), (2, .int l2), (3, .int l3)]) dX6_casts_142 rfl (by rw [ev46]; rfl) (by decide) rfl ?_
        refine G_goto X (tgt := 63) dX6_casts_145 (by decide) ?_
        exact G_sub [1, 2, 3, 4, 0] rfl (ih _ _ _ (lpl (so h) hx) K)
      · have h := if_f c23 h
        refine G_aload_n X dX6_casts_97 rfl 0 rfl ?_
        refine G_getf X inX6 0 (eR0 _ _ _) rfl 12 (by decide) qw666 rfl dX6_casts_98 ?_
        refine G_iload_n X dX6_casts_101 rfl 1 rfl ?_
        have hi24 := gI_n h
        have h := gI_k h
        refine G_iald X (j := l1.toNatClampNeg) 17 (eR17 _ _ _) hi24 rfl dX6_casts_102 ?_
        refine G_iconst X (v := 1) dX6_casts_103 rfl ?_
        refine G_icne X (tgt := 126) dX6_casts_104 (by decide) (fun c25 => ?_) (fun c25 => ?_)
        · have h := if_t c25 h
          refine G_aload_n X dX6_casts_107 rfl 0 rfl ?_
          refine G_iload_n X dX6_casts_108 rfl 2 rfl ?_
          refine G_iload X dX6_casts_109 4 rfl ?_
          refine G_aload_n X dX6_casts_111 rfl 0 rfl ?_
          refine G_getf X inX6 0 (eR0 _ _ _) rfl 15 (by decide) qw669 rfl dX6_casts_112 ?_
          refine G_iload_n X dX6_casts_115 rfl 1 rfl ?_
          have hi33 := gI_n h
          have h := gI_k h
          have hw34 := vlt hi33
          refine G_aald X (t0 := 5) (b := fAd (eF E) (25 + l1.toNatClampNeg)) 24 (eR24 _ _ _) rfl rfl hi33 (if_pos hw34) dX6_casts_116 ?_
          refine G_iload X dX6_casts_117 4 rfl ?_
          have hi35 := gI_n h
          have h := gI_k h
          refine G_fald X (j := l4.toNatClampNeg) (25 + l1.toNatClampNeg) (eRf25 _ _ _ _ hw34) hi35 rfl dX6_casts_119 ?_
          obtain ⟨A38, hz37, h⟩ := cl_k h
          refine G_callV_v X (As := [.int l2, .int l4, .float (A.2.2 (25 + l1.toNatClampNeg) l4.toNatClampNeg)]) (rest := []) ok_X6_comesFloat qw1084 0 (eR0 _ _ _) rfl rfl ⟨rfl, rfl, Nat.le_of_ble_eq_true rfl, Nat.le_of_ble_eq_true rfl⟩ (m_X6_comesFloat X.d hz37) rfl rfl (Nat.le_of_ble_eq_true rfl) dX6_casts_120 ?_
          refine G_goto X (tgt := 142) dX6_casts_123 (by decide) ?_
          obtain ⟨v39, ev39⟩ : ∃ y : Int32, y = l4 + 1 := ⟨_, rfl⟩
          have h := bv_k ev39 h
          refine G_iinc X (q := 4) (v := v39) (lv2 := [(4, .int v39), (0, .ref (fAd (eF E) 0)), (1, .int l1), (2, .int l2), (3, .int l3)]) dX6_casts_142 rfl (by rw [ev39]; rfl) (by decide) rfl ?_
          refine G_goto X (tgt := 63) dX6_casts_145 (by decide) ?_
          exact G_sub [1, 2, 3, 4, 0] rfl (ih _ _ _ (lpl (so h) hx) K)
        · have h := if_f c25 h
          refine G_aload_n X dX6_casts_126 rfl 0 rfl ?_
          refine G_iload_n X dX6_casts_127 rfl 2 rfl ?_
          refine G_iload X dX6_casts_128 4 rfl ?_
          refine G_aload_n X dX6_casts_130 rfl 0 rfl ?_
          refine G_getf X inX6 0 (eR0 _ _ _) rfl 16 (by decide) qw670 rfl dX6_casts_131 ?_
          refine G_iload_n X dX6_casts_134 rfl 1 rfl ?_
          have hi26 := gI_n h
          have h := gI_k h
          have hw27 := vlt hi26
          refine G_aald X (t0 := 4) (b := fAd (eF E) (30 + l1.toNatClampNeg)) 29 (eR29 _ _ _) rfl rfl hi26 (if_pos hw27) dX6_casts_135 ?_
          refine G_iload X dX6_casts_136 4 rfl ?_
          have hi28 := gI_n h
          have h := gI_k h
          refine G_dald X (j := l4.toNatClampNeg) (30 + l1.toNatClampNeg) (eRf30 _ _ _ _ hw27) hi28 rfl dX6_casts_138 ?_
          obtain ⟨A31, hz30, h⟩ := cl_k h
          refine G_callV_v X (As := [.int l2, .int l4, .double (A.2.1 (30 + l1.toNatClampNeg) l4.toNatClampNeg)]) (rest := []) ok_X6_comesDouble qw1088 0 (eR0 _ _ _) rfl rfl ⟨rfl, rfl, Nat.le_of_ble_eq_true rfl, Nat.le_of_ble_eq_true rfl⟩ (m_X6_comesDouble X.d hz30) rfl rfl (Nat.le_of_ble_eq_true rfl) dX6_casts_139 ?_
          obtain ⟨v32, ev32⟩ : ∃ y : Int32, y = l4 + 1 := ⟨_, rfl⟩
          have h := bv_k ev32 h
          refine G_iinc X (q := 4) (v := v32) (lv2 := [(4, .int v32), (0, .ref (fAd (eF E) 0)), (1, .int l1), (2, .int l2), (3, .int l3)]) dX6_casts_142 rfl (by rw [ev32]; rfl) (by decide) rfl ?_
          refine G_goto X (tgt := 63) dX6_casts_145 (by decide) ?_
          exact G_sub [1, 2, 3, 4, 0] rfl (ih _ _ _ (lpl (so h) hx) K)
set_option maxHeartbeats 4000000 in
set_option maxRecDepth 100000 in
theorem b_X6_casts {E : pfE} (X : CX cellsR E cX6_casts RX6 rm_X6_casts 5) (x1 : Int32) (x2 : Int32) (A : St) {out : Int32 × St} (hQ : Reti cellsR E cX6_casts out.1 out.2) (h : f_X6_casts x1 x2 A = some out) : GG cellsR E A 0 [(0, .ref (fAd (eF E) 0)), (1, .int x1), (2, .int x2)] [] := by
  unfold f_X6_casts at h
  refine G_iload_n X dX6_casts_0 rfl 1 rfl ?_
  obtain ⟨r1, hz2, h⟩ := cl_k h
  refine G_callS_i X (As := [.int x1]) (rest := []) ok_X6_isSheet qw1051 ⟨rfl, rfl, Nat.le_of_ble_eq_true rfl, Nat.le_of_ble_eq_true rfl⟩ (m_X6_isSheet X.d hz2) rfl rfl (Nat.le_of_ble_eq_true rfl) dX6_casts_1 ?_
  refine G_ifeq X (tgt := 14) dX6_casts_4 (by decide) (fun c3 => ?_) (fun c3 => ?_)
  · have h := if_t c3 h
    refine G_aload_n X dX6_casts_14 rfl 0 rfl ?_
    refine G_iconst X (v := 0) dX6_casts_15 rfl ?_
    obtain ⟨r4, A6, hz5, h⟩ := cl2_k h
    refine G_callV_i X (As := [.int 0]) (rest := []) ok_X6_finds qw737 0 (eR0 _ _ _) rfl rfl ⟨rfl, rfl, Nat.le_of_ble_eq_true rfl, Nat.le_of_ble_eq_true rfl⟩ (m_X6_finds X.d hz5) rfl rfl (Nat.le_of_ble_eq_true rfl) dX6_casts_16 ?_
    have e := so h
    subst e
    exact hQ _ _ dX6_casts_19
  · have h := if_f c3 h
    refine G_iload_n X dX6_casts_7 rfl 2 rfl ?_
    obtain ⟨r7, hz8, h⟩ := cl_k h
    refine G_callS_i X (As := [.int x2]) (rest := []) ok_X6_isSheet qw1051 ⟨rfl, rfl, Nat.le_of_ble_eq_true rfl, Nat.le_of_ble_eq_true rfl⟩ (m_X6_isSheet X.d hz8) rfl rfl (Nat.le_of_ble_eq_true rfl) dX6_casts_8 ?_
    refine G_ifne X (tgt := 20) dX6_casts_11 (by decide) (fun c9 => ?_) (fun c9 => ?_)
    · have h := if_t c9 h
      refine G_aload_n X dX6_casts_14 rfl 0 rfl ?_
      refine G_iconst X (v := 0) dX6_casts_15 rfl ?_
      obtain ⟨r51, A53, hz52, h⟩ := cl2_k h
      refine G_callV_i X (As := [.int 0]) (rest := []) ok_X6_finds qw737 0 (eR0 _ _ _) rfl rfl ⟨rfl, rfl, Nat.le_of_ble_eq_true rfl, Nat.le_of_ble_eq_true rfl⟩ (m_X6_finds X.d hz52) rfl rfl (Nat.le_of_ble_eq_true rfl) dX6_casts_16 ?_
      have e := so h
      subst e
      exact hQ _ _ dX6_casts_19
    · have h := if_f c9 h
      refine G_aload_n X dX6_casts_20 rfl 0 rfl ?_
      refine G_getf X inX6 0 (eR0 _ _ _) rfl 12 (by decide) qw666 rfl dX6_casts_21 ?_
      refine G_iload_n X dX6_casts_24 rfl 1 rfl ?_
      have hi10 := gI_n h
      have h := gI_k h
      refine G_iald X (j := x1.toNatClampNeg) 17 (eR17 _ _ _) hi10 rfl dX6_casts_25 ?_
      refine G_iflt X (tgt := 38) dX6_casts_26 (by decide) (fun c11 => ?_) (fun c11 => ?_)
      · have h := if_t c11 h
        refine G_aload_n X dX6_casts_38 rfl 0 rfl ?_
        refine G_iconst X (v := 5) dX6_casts_39 rfl ?_
        obtain ⟨r12, A14, hz13, h⟩ := cl2_k h
        refine G_callV_i X (As := [.int 5]) (rest := []) ok_X6_finds qw737 0 (eR0 _ _ _) rfl rfl ⟨rfl, rfl, Nat.le_of_ble_eq_true rfl, Nat.le_of_ble_eq_true rfl⟩ (m_X6_finds X.d hz13) rfl rfl (Nat.le_of_ble_eq_true rfl) dX6_casts_40 ?_
        have e := so h
        subst e
        exact hQ _ _ dX6_casts_43
      · have h := if_f c11 h
        refine G_aload_n X dX6_casts_29 rfl 0 rfl ?_
        refine G_getf X inX6 0 (eR0 _ _ _) rfl 12 (by decide) qw666 rfl dX6_casts_30 ?_
        refine G_iload_n X dX6_casts_33 rfl 2 rfl ?_
        have hi15 := gI_n h
        have h := gI_k h
        refine G_iald X (j := x2.toNatClampNeg) 17 (eR17 _ _ _) hi15 rfl dX6_casts_34 ?_
        refine G_ifge X (tgt := 44) dX6_casts_35 (by decide) (fun c16 => ?_) (fun c16 => ?_)
        · have h := if_t c16 h
          refine G_aload_n X dX6_casts_44 rfl 0 rfl ?_
          refine G_getf X inX6 0 (eR0 _ _ _) rfl 13 (by decide) qw667 rfl dX6_casts_45 ?_
          refine G_iload_n X dX6_casts_48 rfl 1 rfl ?_
          have hi17 := gI_n h
          have h := gI_k h
          refine G_iald X (j := x1.toNatClampNeg) 18 (eR18 _ _ _) hi17 rfl dX6_casts_49 ?_
          refine G_aload_n X dX6_casts_50 rfl 0 rfl ?_
          refine G_getf X inX6 0 (eR0 _ _ _) rfl 13 (by decide) qw667 rfl dX6_casts_51 ?_
          refine G_iload_n X dX6_casts_54 rfl 2 rfl ?_
          have hi18 := gI_n h
          have h := gI_k h
          refine G_iald X (j := x2.toNatClampNeg) 18 (eR18 _ _ _) hi18 rfl dX6_casts_55 ?_
          obtain ⟨r19, hz20, h⟩ := cl_k h
          refine G_callS_i X (As := [.int (A.1 18 x1.toNatClampNeg), .int (A.1 18 x2.toNatClampNeg)]) (rest := []) ok_J9_min_7cf53 qw1079 ⟨rfl, rfl, Nat.le_of_ble_eq_true rfl, Nat.le_of_ble_eq_true rfl⟩ (m_J9_min_7cf53 X.d hz20) rfl rfl (Nat.le_of_ble_eq_true rfl) dX6_casts_56 ?_
          refine G_istore_n X (lv2 := [(3, .int r19), (0, .ref (fAd (eF E) 0)), (1, .int x1), (2, .int x2)]) dX6_casts_59 rfl (by decide) rfl ?_
          refine G_iconst X (v := 0) dX6_casts_60 rfl ?_
          refine G_istore X (lv2 := [(4, .int 0), (3, .int r19), (0, .ref (fAd (eF E) 0)), (1, .int x1), (2, .int x2)]) dX6_casts_61 (by decide) rfl ?_
          obtain ⟨ρ, hl, h⟩ := cl_k h
          obtain ⟨n, hl⟩ := loop_some hl
          refine G_sub [2, 3, 4, 1, 0] rfl (g_X6_casts_L63 X x1 x2 r19 n _ _ ρ hl ?_)
          intro A47 e
          rw [e] at h
          have h : f_X6_casts_X148 A47 r19 = some _ := h
          unfold f_X6_casts_X148 at h
          refine G_iload_n X dX6_casts_148 rfl 0 rfl ?_
          have e := so h
          subst e
          exact hQ _ _ dX6_casts_149
        · have h := if_f c16 h
          refine G_aload_n X dX6_casts_38 rfl 0 rfl ?_
          refine G_iconst X (v := 5) dX6_casts_39 rfl ?_
          obtain ⟨r48, A50, hz49, h⟩ := cl2_k h
          refine G_callV_i X (As := [.int 5]) (rest := []) ok_X6_finds qw737 0 (eR0 _ _ _) rfl rfl ⟨rfl, rfl, Nat.le_of_ble_eq_true rfl, Nat.le_of_ble_eq_true rfl⟩ (m_X6_finds X.d hz49) rfl rfl (Nat.le_of_ble_eq_true rfl) dX6_casts_40 ?_
          have e := so h
          subst e
          exact hQ _ _ dX6_casts_43
theorem m_X6_casts {l : Launch} {F : pfF} (hD : ∀ A, va_D (fA F) (cellsR (fAd F) (fCy F) A)) {x1 : Int32} {x2 : Int32} {A : St} {out : Int32 × St} (h : f_X6_casts x1 x2 A = some out) : Mt l F cellsR yX6_casts cX6_casts 5 (some .int) rm_X6_casts [.ref (fAd F 0), .int x1, .int x2] A (va_Qi (fun (r : Int32) (u : St) => r = out.1 ∧ u = out.2) (Wd cellsR F) (fA F)) := by
  refine Met_i (by decide +kernel) (Nat.le_of_ble_eq_true rfl) hD (fun E el ef X hQ => ?_)
  subst el
  subst ef
  exact b_X6_casts X _ _ _ hQ h
theorem ok_X6_casts : OkV yX6_casts cX6_casts 5 (some .int) 2 := ⟨qw1076, qw1077, qw6, qw1078, by decide, by decide, by decide⟩
noncomputable def f_X6_table_L54 (l1 : Int32) (l2 : Int32) (l3 : Int32) (l4 : Int32) (l5 : Int32) (A : St) : Option ((Int32 × St) ⊕ (Int32 × St)) :=
  gI l1 4 <|
  if (A.1 18 l1.toNatClampNeg) ≤ l5 then
    some (.inr (l5, A))
  else
    cl (f_X6_isAbility (l3 + (l5 * l4))) fun r26 =>
    if (bI r26) = 0 then
      some (.inr (l5, A))
    else
      cl (f_X6_tellsOf l2 (l3 + (l5 * l4)) A) fun r29 =>
      cl (f_X6_comesDouble l1 l5 r29 A) fun A33 =>
      bv (l5 + 1) fun v34 =>
      some (.inl (v34, A33))
noncomputable def f_X6_table_X103 (A : St) (m5 : Int32) : Option (Int32 × St) :=
  some (m5, A)
noncomputable def f_X6_table (x1 : Int32) (x2 : Int32) (x3 : Int32) (x4 : Int32) (A : St) : Option (Int32 × St) :=
  cl (f_X6_isSheet x1) fun r1 =>
  if (bI r1) = 0 then
    cl2 (f_X6_finds 0 A) fun r4 A6 =>
    some (r4, A6)
  else
    cl (f_X6_isItem x2 A) fun r7 =>
    if (bI r7) = 0 then
      cl2 (f_X6_finds 0 A) fun r10 A12 =>
      some (r10, A12)
    else
      cl (f_X6_isAbility x3) fun r13 =>
      if (bI r13) = 0 then
        cl2 (f_X6_finds 0 A) fun r16 A18 =>
        some (r16, A18)
      else
        cl (f_X6_isAbility x4) fun r19 =>
        if (bI r19) = 0 then
          cl2 (f_X6_finds 0 A) fun r40 A42 =>
          some (r40, A42)
        else
          gI x1 4 <|
          if 0 ≤ (A.1 17 x1.toNatClampNeg) then
            cl (loop (fun s => f_X6_table_L54 x1 x2 x3 x4 s.1 s.2) (0, A)) (fun s => f_X6_table_X103 s.2 s.1)
          else
            cl2 (f_X6_finds 5 A) fun r37 A39 =>
            some (r37, A39)
abbrev rm_X6_table : Room := { frames := 5, cells := 0, slots := 0, locals := 119 }
set_option maxHeartbeats 4000000 in
set_option maxRecDepth 100000 in
theorem g_X6_table_L54 {E : pfE} (X : CX cellsR E cX6_table RX6 rm_X6_table 6) (l1 : Int32) (l2 : Int32) (l3 : Int32) (l4 : Int32) : ∀ (n : Nat) (l5 : Int32) (A : St) (ρ : Int32 × St), lp (fun s => f_X6_table_L54 l1 l2 l3 l4 s.1 s.2) n (l5, A) = some ρ → (∀ (q5 : Int32) (B : St), ρ = (q5, B) → GG cellsR E B 103 [(5, .int q5)] []) → GG cellsR E A 54 [(0, .ref (fAd (eF E) 0)), (1, .int l1), (2, .int l2), (3, .int l3), (4, .int l4), (5, .int l5)] [] := by
  intro n
  induction n with
  | zero =>
    intro l5 A ρ h
    cases h
  | succ n ih =>
    intro l5 A ρ h0 K
    obtain ⟨x, hb, hx⟩ := lp_step h0
    have h : f_X6_table_L54 l1 l2 l3 l4 l5 A = some x := hb
    unfold f_X6_table_L54 at h
    clear hb h0
    refine G_iload X dX6_table_54 5 rfl ?_
    refine G_aload_n X dX6_table_56 rfl 0 rfl ?_
    refine G_getf X inX6 0 (eR0 _ _ _) rfl 13 (by decide) qw667 rfl dX6_table_57 ?_
    refine G_iload_n X dX6_table_60 rfl 1 rfl ?_
    have hi24 := gI_n h
    have h := gI_k h
    refine G_iald X (j := l1.toNatClampNeg) 18 (eR18 _ _ _) hi24 rfl dX6_table_61 ?_
    refine G_icge X (tgt := 103) dX6_table_62 (by decide) (fun c25 => ?_) (fun c25 => ?_)
    · have h := if_t c25 h
      exact G_sub [5] rfl (K _ _ (lpr (so h) hx).symm)
    · have h := if_f c25 h
      refine G_iload_n X dX6_table_65 rfl 3 rfl ?_
      refine G_iload X dX6_table_66 5 rfl ?_
      refine G_iload X dX6_table_68 4 rfl ?_
      refine G_imul X dX6_table_70 ?_
      refine G_iadd X dX6_table_71 ?_
      obtain ⟨r26, hz27, h⟩ := cl_k h
      refine G_callS_i X (As := [.int (l3 + (l5 * l4))]) (rest := []) ok_X6_isAbility qw804 ⟨rfl, rfl, Nat.le_of_ble_eq_true rfl, Nat.le_of_ble_eq_true rfl⟩ (m_X6_isAbility X.d hz27) rfl rfl (Nat.le_of_ble_eq_true rfl) dX6_table_72 ?_
      refine G_ifeq X (tgt := 103) dX6_table_75 (by decide) (fun c28 => ?_) (fun c28 => ?_)
      · have h := if_t c28 h
        exact G_sub [5] rfl (K _ _ (lpr (so h) hx).symm)
      · have h := if_f c28 h
        refine G_aload_n X dX6_table_78 rfl 0 rfl ?_
        refine G_iload_n X dX6_table_79 rfl 1 rfl ?_
        refine G_iload X dX6_table_80 5 rfl ?_
        refine G_aload_n X dX6_table_82 rfl 0 rfl ?_
        refine G_iload_n X dX6_table_83 rfl 2 rfl ?_
        refine G_iload_n X dX6_table_84 rfl 3 rfl ?_
        refine G_iload X dX6_table_85 5 rfl ?_
        refine G_iload X dX6_table_87 4 rfl ?_
        refine G_imul X dX6_table_89 ?_
        refine G_iadd X dX6_table_90 ?_
        obtain ⟨r29, hz30, h⟩ := cl_k h
        refine G_callV_d X (As := [.int l2, .int (l3 + (l5 * l4))]) (rest := [.int l5, .int l1, .ref (fAd (eF E) 0)]) ok_X6_tellsOf qw809 0 (eR0 _ _ _) rfl rfl ⟨rfl, rfl, Nat.le_of_ble_eq_true rfl, Nat.le_of_ble_eq_true rfl⟩ (m_X6_tellsOf X.d hz30) rfl rfl (Nat.le_of_ble_eq_true rfl) dX6_table_91 ?_
        obtain ⟨A33, hz32, h⟩ := cl_k h
        refine G_callV_v X (As := [.int l1, .int l5, .double r29]) (rest := []) ok_X6_comesDouble qw1088 0 (eR0 _ _ _) rfl rfl ⟨rfl, rfl, Nat.le_of_ble_eq_true rfl, Nat.le_of_ble_eq_true rfl⟩ (m_X6_comesDouble X.d hz32) rfl rfl (Nat.le_of_ble_eq_true rfl) dX6_table_94 ?_
        obtain ⟨v34, ev34⟩ : ∃ y : Int32, y = l5 + 1 := ⟨_, rfl⟩
        have h := bv_k ev34 h
        refine G_iinc X (q := 5) (v := v34) (lv2 := [(5, .int v34), (0, .ref (fAd (eF E) 0)), (1, .int l1), (2, .int l2), (3, .int l3), (4, .int l4)]) dX6_table_97 rfl (by rw [ev34]; rfl) (by decide) rfl ?_
        refine G_goto X (tgt := 54) dX6_table_100 (by decide) ?_
        exact G_sub [1, 2, 3, 4, 5, 0] rfl (ih _ _ _ (lpl (so h) hx) K)
set_option maxHeartbeats 4000000 in
set_option maxRecDepth 100000 in
theorem b_X6_table {E : pfE} (X : CX cellsR E cX6_table RX6 rm_X6_table 6) (x1 : Int32) (x2 : Int32) (x3 : Int32) (x4 : Int32) (A : St) {out : Int32 × St} (hQ : Reti cellsR E cX6_table out.1 out.2) (h : f_X6_table x1 x2 x3 x4 A = some out) : GG cellsR E A 0 [(0, .ref (fAd (eF E) 0)), (1, .int x1), (2, .int x2), (3, .int x3), (4, .int x4)] [] := by
  unfold f_X6_table at h
  refine G_iload_n X dX6_table_0 rfl 1 rfl ?_
  obtain ⟨r1, hz2, h⟩ := cl_k h
  refine G_callS_i X (As := [.int x1]) (rest := []) ok_X6_isSheet qw1051 ⟨rfl, rfl, Nat.le_of_ble_eq_true rfl, Nat.le_of_ble_eq_true rfl⟩ (m_X6_isSheet X.d hz2) rfl rfl (Nat.le_of_ble_eq_true rfl) dX6_table_1 ?_
  refine G_ifeq X (tgt := 30) dX6_table_4 (by decide) (fun c3 => ?_) (fun c3 => ?_)
  · have h := if_t c3 h
    refine G_aload_n X dX6_table_30 rfl 0 rfl ?_
    refine G_iconst X (v := 0) dX6_table_31 rfl ?_
    obtain ⟨r4, A6, hz5, h⟩ := cl2_k h
    refine G_callV_i X (As := [.int 0]) (rest := []) ok_X6_finds qw737 0 (eR0 _ _ _) rfl rfl ⟨rfl, rfl, Nat.le_of_ble_eq_true rfl, Nat.le_of_ble_eq_true rfl⟩ (m_X6_finds X.d hz5) rfl rfl (Nat.le_of_ble_eq_true rfl) dX6_table_32 ?_
    have e := so h
    subst e
    exact hQ _ _ dX6_table_35
  · have h := if_f c3 h
    refine G_aload_n X dX6_table_7 rfl 0 rfl ?_
    refine G_iload_n X dX6_table_8 rfl 2 rfl ?_
    obtain ⟨r7, hz8, h⟩ := cl_k h
    refine G_callV_i X (As := [.int x2]) (rest := []) ok_X6_isItem qw746 0 (eR0 _ _ _) rfl rfl ⟨rfl, rfl, Nat.le_of_ble_eq_true rfl, Nat.le_of_ble_eq_true rfl⟩ (m_X6_isItem X.d hz8) rfl rfl (Nat.le_of_ble_eq_true rfl) dX6_table_9 ?_
    refine G_ifeq X (tgt := 30) dX6_table_12 (by decide) (fun c9 => ?_) (fun c9 => ?_)
    · have h := if_t c9 h
      refine G_aload_n X dX6_table_30 rfl 0 rfl ?_
      refine G_iconst X (v := 0) dX6_table_31 rfl ?_
      obtain ⟨r10, A12, hz11, h⟩ := cl2_k h
      refine G_callV_i X (As := [.int 0]) (rest := []) ok_X6_finds qw737 0 (eR0 _ _ _) rfl rfl ⟨rfl, rfl, Nat.le_of_ble_eq_true rfl, Nat.le_of_ble_eq_true rfl⟩ (m_X6_finds X.d hz11) rfl rfl (Nat.le_of_ble_eq_true rfl) dX6_table_32 ?_
      have e := so h
      subst e
      exact hQ _ _ dX6_table_35
    · have h := if_f c9 h
      refine G_iload_n X dX6_table_15 rfl 3 rfl ?_
      obtain ⟨r13, hz14, h⟩ := cl_k h
      refine G_callS_i X (As := [.int x3]) (rest := []) ok_X6_isAbility qw804 ⟨rfl, rfl, Nat.le_of_ble_eq_true rfl, Nat.le_of_ble_eq_true rfl⟩ (m_X6_isAbility X.d hz14) rfl rfl (Nat.le_of_ble_eq_true rfl) dX6_table_16 ?_
      refine G_ifeq X (tgt := 30) dX6_table_19 (by decide) (fun c15 => ?_) (fun c15 => ?_)
      · have h := if_t c15 h
        refine G_aload_n X dX6_table_30 rfl 0 rfl ?_
        refine G_iconst X (v := 0) dX6_table_31 rfl ?_
        obtain ⟨r16, A18, hz17, h⟩ := cl2_k h
        refine G_callV_i X (As := [.int 0]) (rest := []) ok_X6_finds qw737 0 (eR0 _ _ _) rfl rfl ⟨rfl, rfl, Nat.le_of_ble_eq_true rfl, Nat.le_of_ble_eq_true rfl⟩ (m_X6_finds X.d hz17) rfl rfl (Nat.le_of_ble_eq_true rfl) dX6_table_32 ?_
        have e := so h
        subst e
        exact hQ _ _ dX6_table_35
      · have h := if_f c15 h
        refine G_iload X dX6_table_22 4 rfl ?_
        obtain ⟨r19, hz20, h⟩ := cl_k h
        refine G_callS_i X (As := [.int x4]) (rest := []) ok_X6_isAbility qw804 ⟨rfl, rfl, Nat.le_of_ble_eq_true rfl, Nat.le_of_ble_eq_true rfl⟩ (m_X6_isAbility X.d hz20) rfl rfl (Nat.le_of_ble_eq_true rfl) dX6_table_24 ?_
        refine G_ifne X (tgt := 36) dX6_table_27 (by decide) (fun c21 => ?_) (fun c21 => ?_)
        · have h := if_t c21 h
          refine G_aload_n X dX6_table_30 rfl 0 rfl ?_
          refine G_iconst X (v := 0) dX6_table_31 rfl ?_
          obtain ⟨r40, A42, hz41, h⟩ := cl2_k h
          refine G_callV_i X (As := [.int 0]) (rest := []) ok_X6_finds qw737 0 (eR0 _ _ _) rfl rfl ⟨rfl, rfl, Nat.le_of_ble_eq_true rfl, Nat.le_of_ble_eq_true rfl⟩ (m_X6_finds X.d hz41) rfl rfl (Nat.le_of_ble_eq_true rfl) dX6_table_32 ?_
          have e := so h
          subst e
          exact hQ _ _ dX6_table_35
        · have h := if_f c21 h
          refine G_aload_n X dX6_table_36 rfl 0 rfl ?_
          refine G_getf X inX6 0 (eR0 _ _ _) rfl 12 (by decide) qw666 rfl dX6_table_37 ?_
          refine G_iload_n X dX6_table_40 rfl 1 rfl ?_
          have hi22 := gI_n h
          have h := gI_k h
          refine G_iald X (j := x1.toNatClampNeg) 17 (eR17 _ _ _) hi22 rfl dX6_table_41 ?_
          refine G_ifge X (tgt := 51) dX6_table_42 (by decide) (fun c23 => ?_) (fun c23 => ?_)
          · have h := if_t c23 h
            refine G_iconst X (v := 0) dX6_table_51 rfl ?_
            refine G_istore X (lv2 := [(5, .int 0), (0, .ref (fAd (eF E) 0)), (1, .int x1), (2, .int x2), (3, .int x3), (4, .int x4)]) dX6_table_52 (by decide) rfl ?_
            obtain ⟨ρ, hl, h⟩ := cl_k h
            obtain ⟨n, hl⟩ := loop_some hl
            refine G_sub [1, 2, 3, 4, 5, 0] rfl (g_X6_table_L54 X x1 x2 x3 x4 n _ _ ρ hl ?_)
            intro v35 A36 e
            subst e
            have h : f_X6_table_X103 A36 v35 = some _ := h
            unfold f_X6_table_X103 at h
            refine G_iload X dX6_table_103 0 rfl ?_
            have e := so h
            subst e
            exact hQ _ _ dX6_table_105
          · have h := if_f c23 h
            refine G_aload_n X dX6_table_45 rfl 0 rfl ?_
            refine G_iconst X (v := 5) dX6_table_46 rfl ?_
            obtain ⟨r37, A39, hz38, h⟩ := cl2_k h
            refine G_callV_i X (As := [.int 5]) (rest := []) ok_X6_finds qw737 0 (eR0 _ _ _) rfl rfl ⟨rfl, rfl, Nat.le_of_ble_eq_true rfl, Nat.le_of_ble_eq_true rfl⟩ (m_X6_finds X.d hz38) rfl rfl (Nat.le_of_ble_eq_true rfl) dX6_table_47 ?_
            have e := so h
            subst e
            exact hQ _ _ dX6_table_50
theorem m_X6_table {l : Launch} {F : pfF} (hD : ∀ A, va_D (fA F) (cellsR (fAd F) (fCy F) A)) {x1 : Int32} {x2 : Int32} {x3 : Int32} {x4 : Int32} {A : St} {out : Int32 × St} (h : f_X6_table x1 x2 x3 x4 A = some out) : Mt l F cellsR yX6_table cX6_table 6 (some .int) rm_X6_table [.ref (fAd F 0), .int x1, .int x2, .int x3, .int x4] A (va_Qi (fun (r : Int32) (u : St) => r = out.1 ∧ u = out.2) (Wd cellsR F) (fA F)) := by
  refine Met_i (by decide +kernel) (Nat.le_of_ble_eq_true rfl) hD (fun E el ef X hQ => ?_)
  subst el
  subst ef
  exact b_X6_table X _ _ _ _ _ hQ h
theorem ok_X6_table : OkV yX6_table cX6_table 6 (some .int) 4 := ⟨qw1093, qw1094, qw6, qw1095, by decide, by decide, by decide⟩
