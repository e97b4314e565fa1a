noncomputable def f_X4_takeFrom_L2 (w : Nat) (u : Nat) (l2 : Int32) (A : St) : Option ((Int32 × St) ⊕ ((St) ⊕ (Int32 × St))) :=
  if 6 ≤ l2 then
    some (.inr (.inl A))
  else
    cl (f_X4_isEmptyAt u l2 A) fun r2 =>
    if (bI r2) = 0 then
      gI l2 6 <|
      cl (f_X5_isOfKind (A.1 (51 + u) l2.toNatClampNeg) (A.1 (43 + w) 0)) fun r13 =>
      if (bI r13) = 0 then
        some (.inr (.inr (l2, A)))
      else
        gI l2 6 <|
        gI l2 6 <|
        bv (upI A (47 + w) l2.toNatClampNeg (A.1 (47 + u) l2.toNatClampNeg)) fun A18 =>
        gI l2 6 <|
        gI l2 6 <|
        bv (upI A18 (51 + w) l2.toNatClampNeg (A18.1 (51 + u) l2.toNatClampNeg)) fun A21 =>
        bv (l2 + 1) fun v22 =>
        some (.inl (v22, A21))
    else
      gI l2 6 <|
      gI l2 6 <|
      bv (upI A (47 + w) l2.toNatClampNeg (A.1 (47 + u) l2.toNatClampNeg)) fun A7 =>
      gI l2 6 <|
      gI l2 6 <|
      bv (upI A7 (51 + w) l2.toNatClampNeg (A7.1 (51 + u) l2.toNatClampNeg)) fun A10 =>
      bv (l2 + 1) fun v11 =>
      some (.inl (v11, A10))
noncomputable def f_X4_takeFrom_X64 (w : Nat) (u : Nat) (A : St) : Option (Int32 × St) :=
  some (6, A)
noncomputable def f_X4_takeFrom (w : Nat) (u : Nat) (A : St) : Option (Int32 × St) :=
  cl (loop (fun s => f_X4_takeFrom_L2 w u s.1 s.2) (0, A)) (Sum.elim (fun s => f_X4_takeFrom_X64 w u s) (fun t => some t))
abbrev rm_X4_takeFrom : Room := { frames := 1, cells := 0, slots := 0, locals := 23 }
set_option maxHeartbeats 4000000 in
set_option maxRecDepth 100000 in
theorem g_X4_takeFrom_L2 {E : pfE} (X : CX cellsC E cX4_takeFrom RX4 rm_X4_takeFrom 3) (w : Nat) (u : Nat) (hw : w < 4) (hu : u < 4) {out : Int32 × St} (hQ : Reti cellsC E cX4_takeFrom out.1 out.2) : ∀ (n : Nat) (l2 : Int32) (A : St) (ρ : (St) ⊕ (Int32 × St)), lp (fun s => f_X4_takeFrom_L2 w u s.1 s.2) n (l2, A) = some ρ → (∀ (B : St), ρ = .inl B → GG cellsC E B 64 [] []) → (∀ t, ρ = .inr t → t = out) → GG cellsC E A 2 [(0, .ref (fAd (eF E) (43 + w))), (1, .ref (fAd (eF E) (43 + u))), (2, .int l2)] [] := by
  intro n
  induction n with
  | zero =>
    intro l2 A ρ h
    cases h
  | succ n ih =>
    intro l2 A ρ h0 K KR
    obtain ⟨x, hb, hx⟩ := lp_step h0
    have h : f_X4_takeFrom_L2 w u l2 A = some x := hb
    unfold f_X4_takeFrom_L2 at h
    clear hb h0
    refine G_iload_n X dX4_takeFrom_2 rfl 2 rfl ?_
    refine G_bipush X (v := 6) dX4_takeFrom_3 rfl ?_
    refine G_icge X (tgt := 64) dX4_takeFrom_5 (by decide) (fun c1 => ?_) (fun c1 => ?_)
    · have h := if_t c1 h
      exact G_sub [] rfl (K _ (lpr (so h) hx).symm)
    · have h := if_f c1 h
      refine G_aload_n X dX4_takeFrom_8 rfl 1 rfl ?_
      refine G_iload_n X dX4_takeFrom_9 rfl 2 rfl ?_
      obtain ⟨r2, hz3, h⟩ := cl_k h
      refine G_callV_i X (As := [.int l2]) (rest := []) ok_X4_isEmptyAt qw510 (43 + u) (eCf43 _ _ _ _ hu) rfl rfl ⟨rfl, rfl, Nat.le_of_ble_eq_true rfl, Nat.le_of_ble_eq_true rfl⟩ (m_X4_isEmptyAt X.d hu hz3) rfl rfl (Nat.le_of_ble_eq_true rfl) dX4_takeFrom_10 ?_
      refine G_ifne X (tgt := 34) dX4_takeFrom_13 (by decide) (fun c4 => ?_) (fun c4 => ?_)
      · have h := if_t c4 h
        refine G_aload_n X dX4_takeFrom_16 rfl 1 rfl ?_
        refine G_getf X inX4 (43 + u) (eCf43 _ _ _ _ hu) rfl 2 (by decide) qw128 rfl dX4_takeFrom_17 ?_
        refine G_iload_n X dX4_takeFrom_20 rfl 2 rfl ?_
        have hi12 := gI_n h
        have h := gI_k h
        refine G_iald X (j := l2.toNatClampNeg) (51 + u) (eCf51 _ _ _ _ hu) hi12 rfl dX4_takeFrom_21 ?_
        refine G_aload_n X dX4_takeFrom_22 rfl 0 rfl ?_
        refine G_getf X inX4 (43 + w) (eCf43 _ _ _ _ hw) rfl 0 (by decide) qw124 rfl dX4_takeFrom_23 ?_
        obtain ⟨r13, hz14, h⟩ := cl_k h
        refine G_callSN_i X (As := [.int (A.1 (51 + u) l2.toNatClampNeg), .int (A.1 (43 + w) 0)]) (rest := []) ok_X5_isOfKind X.fx.2.2.2 ⟨rfl, rfl, Nat.le_of_ble_eq_true rfl, Nat.le_of_ble_eq_true rfl⟩ (m_X5_isOfKind X.d hz14) rfl rfl (Nat.le_of_ble_eq_true rfl) dX4_takeFrom_26 ?_
        refine G_ifne X (tgt := 34) dX4_takeFrom_29 (by decide) (fun c15 => ?_) (fun c15 => ?_)
        · have h := if_t c15 h
          refine G_iload_n X dX4_takeFrom_32 rfl 2 rfl ?_
          have e := KR _ (lpr (so h) hx).symm
          subst e
          exact hQ _ _ dX4_takeFrom_33
        · have h := if_f c15 h
          refine G_aload_n X dX4_takeFrom_34 rfl 0 rfl ?_
          refine G_getf X inX4 (43 + w) (eCf43 _ _ _ _ hw) rfl 1 (by decide) qw126 rfl dX4_takeFrom_35 ?_
          refine G_iload_n X dX4_takeFrom_38 rfl 2 rfl ?_
          refine G_aload_n X dX4_takeFrom_39 rfl 1 rfl ?_
          refine G_getf X inX4 (43 + u) (eCf43 _ _ _ _ hu) rfl 1 (by decide) qw126 rfl dX4_takeFrom_40 ?_
          refine G_iload_n X dX4_takeFrom_43 rfl 2 rfl ?_
          have hi16 := gI_n h
          have h := gI_k h
          refine G_iald X (j := l2.toNatClampNeg) (47 + u) (eCf47 _ _ _ _ hu) hi16 rfl dX4_takeFrom_44 ?_
          have hi17 := gI_n h
          have h := gI_k h
          refine G_iast X (j := l2.toNatClampNeg) (47 + w) (eCf47 _ _ _ _ hw) (sCI _ _ _ _ l2.toNatClampNeg _ _ (fun _ => fC47 _ _ _ _ hw)) hi17 rfl dX4_takeFrom_45 ?_
          refine G_topS (fun A18 eA18 => ?_)
          have h := bv_k eA18 h
          refine G_aload_n X dX4_takeFrom_46 rfl 0 rfl ?_
          refine G_getf X inX4 (43 + w) (eCf43 _ _ _ _ hw) rfl 2 (by decide) qw128 rfl dX4_takeFrom_47 ?_
          refine G_iload_n X dX4_takeFrom_50 rfl 2 rfl ?_
          refine G_aload_n X dX4_takeFrom_51 rfl 1 rfl ?_
          refine G_getf X inX4 (43 + u) (eCf43 _ _ _ _ hu) rfl 2 (by decide) qw128 rfl dX4_takeFrom_52 ?_
          refine G_iload_n X dX4_takeFrom_55 rfl 2 rfl ?_
          have hi19 := gI_n h
          have h := gI_k h
          refine G_iald X (j := l2.toNatClampNeg) (51 + u) (eCf51 _ _ _ _ hu) hi19 rfl dX4_takeFrom_56 ?_
          have hi20 := gI_n h
          have h := gI_k h
          refine G_iast X (j := l2.toNatClampNeg) (51 + w) (eCf51 _ _ _ _ hw) (sCI _ _ _ _ l2.toNatClampNeg _ _ (fun _ => fC51 _ _ _ _ hw)) hi20 rfl dX4_takeFrom_57 ?_
          refine G_topS (fun A21 eA21 => ?_)
          have h := bv_k eA21 h
          obtain ⟨v22, ev22⟩ : ∃ y : Int32, y = l2 + 1 := ⟨_, rfl⟩
          have h := bv_k ev22 h
          refine G_iinc X (q := 2) (v := v22) (lv2 := [(2, .int v22), (0, .ref (fAd (eF E) (43 + w))), (1, .ref (fAd (eF E) (43 + u)))]) dX4_takeFrom_58 rfl (by rw [ev22]; rfl) (by decide) rfl ?_
          refine G_goto X (tgt := 2) dX4_takeFrom_61 (by decide) ?_
          exact G_sub [1, 2, 0] rfl (ih _ _ _ (lpl (so h) hx) K KR)
      · have h := if_f c4 h
        refine G_aload_n X dX4_takeFrom_34 rfl 0 rfl ?_
        refine G_getf X inX4 (43 + w) (eCf43 _ _ _ _ hw) rfl 1 (by decide) qw126 rfl dX4_takeFrom_35 ?_
        refine G_iload_n X dX4_takeFrom_38 rfl 2 rfl ?_
        refine G_aload_n X dX4_takeFrom_39 rfl 1 rfl ?_
        refine G_getf X inX4 (43 + u) (eCf43 _ _ _ _ hu) rfl 1 (by decide) qw126 rfl dX4_takeFrom_40 ?_
        refine G_iload_n X dX4_takeFrom_43 rfl 2 rfl ?_
        have hi5 := gI_n h
        have h := gI_k h
        refine G_iald X (j := l2.toNatClampNeg) (47 + u) (eCf47 _ _ _ _ hu) hi5 rfl dX4_takeFrom_44 ?_
        have hi6 := gI_n h
        have h := gI_k h
        refine G_iast X (j := l2.toNatClampNeg) (47 + w) (eCf47 _ _ _ _ hw) (sCI _ _ _ _ l2.toNatClampNeg _ _ (fun _ => fC47 _ _ _ _ hw)) hi6 rfl dX4_takeFrom_45 ?_
        refine G_topS (fun A7 eA7 => ?_)
        have h := bv_k eA7 h
        refine G_aload_n X dX4_takeFrom_46 rfl 0 rfl ?_
        refine G_getf X inX4 (43 + w) (eCf43 _ _ _ _ hw) rfl 2 (by decide) qw128 rfl dX4_takeFrom_47 ?_
        refine G_iload_n X dX4_takeFrom_50 rfl 2 rfl ?_
        refine G_aload_n X dX4_takeFrom_51 rfl 1 rfl ?_
        refine G_getf X inX4 (43 + u) (eCf43 _ _ _ _ hu) rfl 2 (by decide) qw128 rfl dX4_takeFrom_52 ?_
        refine G_iload_n X dX4_takeFrom_55 rfl 2 rfl ?_
        have hi8 := gI_n h
        have h := gI_k h
        refine G_iald X (j := l2.toNatClampNeg) (51 + u) (eCf51 _ _ _ _ hu) hi8 rfl dX4_takeFrom_56 ?_
        have hi9 := gI_n h
        have h := gI_k h
        refine G_iast X (j := l2.toNatClampNeg) (51 + w) (eCf51 _ _ _ _ hw) (sCI _ _ _ _ l2.toNatClampNeg _ _ (fun _ => fC51 _ _ _ _ hw)) hi9 rfl dX4_takeFrom_57 ?_
        refine G_topS (fun A10 eA10 => ?_)
        have h := bv_k eA10 h
        obtain ⟨v11, ev11⟩ : ∃ y : Int32, y = l2 + 1 := ⟨_, rfl⟩
        have h := bv_k ev11 h
        refine G_iinc X (q := 2) (v := v11) (lv2 := [(2, .int v11), (0, .ref (fAd (eF E) (43 + w))), (1, .ref (fAd (eF E) (43 + u)))]) dX4_takeFrom_58 rfl (by rw [ev11]; rfl) (by decide) rfl ?_
        refine G_goto X (tgt := 2) dX4_takeFrom_61 (by decide) ?_
        exact G_sub [1, 2, 0] rfl (ih _ _ _ (lpl (so h) hx) K KR)
set_option maxHeartbeats 4000000 in
set_option maxRecDepth 100000 in
theorem b_X4_takeFrom {E : pfE} (X : CX cellsC E cX4_takeFrom RX4 rm_X4_takeFrom 3) (w : Nat) (u : Nat) (A : St) (hw : w < 4) (hu : u < 4) {out : Int32 × St} (hQ : Reti cellsC E cX4_takeFrom out.1 out.2) (h : f_X4_takeFrom w u A = some out) : GG cellsC E A 0 [(0, .ref (fAd (eF E) (43 + w))), (1, .ref (fAd (eF E) (43 + u)))] [] := by
  unfold f_X4_takeFrom at h
  refine G_iconst X (v := 0) dX4_takeFrom_0 rfl ?_
  refine G_istore_n X (lv2 := [(2, .int 0), (0, .ref (fAd (eF E) (43 + w))), (1, .ref (fAd (eF E) (43 + u)))]) dX4_takeFrom_1 rfl (by decide) rfl ?_
  obtain ⟨ρ, hl, h⟩ := cl_k h
  obtain ⟨n, hl⟩ := loop_some hl
  refine G_sub [1, 2, 0] rfl (g_X4_takeFrom_L2 X w u hw hu hQ n _ _ ρ hl ?_ (fun t e => by subst e; exact so h))
  intro A23 e
  subst e
  have h : f_X4_takeFrom_X64 w u A23 = some _ := h
  unfold f_X4_takeFrom_X64 at h
  refine G_bipush X (v := 6) dX4_takeFrom_64 rfl ?_
  have e := so h
  subst e
  exact hQ _ _ dX4_takeFrom_66
theorem m_X4_takeFrom {l : Launch} {F : pfF} (hD : ∀ A, va_D (fA F) (cellsC (fAd F) (fCy F) A)) {w : Nat} {u : Nat} {A : St} (hw : w < 4) (hu : u < 4) {out : Int32 × St} (h : f_X4_takeFrom w u A = some out) : Mt l F cellsC yX4_takeFrom cX4_takeFrom 3 (some .int) rm_X4_takeFrom [.ref (fAd F (43 + w)), .ref (fAd F (43 + u))] A (va_Qi (fun (r : Int32) (u : St) => r = out.1 ∧ u = out.2) (Wd cellsC F) (fA F)) := by
  refine Met_i (by decide +kernel) (Nat.le_of_ble_eq_true rfl) hD (fun E el ef X hQ => ?_)
  subst el
  subst ef
  exact b_X4_takeFrom X _ _ _ hw hu hQ h
theorem ok_X4_takeFrom : OkV yX4_takeFrom cX4_takeFrom 3 (some .int) 1 := ⟨qw532, qw533, qw4, qw534, by decide, by decide, by decide⟩
noncomputable def f_X5_moves (x1 : Int32) (x2 : Int32) (A : St) : Option (Int32 × St) :=
  cl (f_X5_within x1 0 3) fun r1 =>
  if (bI r1) = 0 then
    cl2 (f_X5_finding 0 A) fun r4 A6 =>
    some (r4, A6)
  else
    cl (f_X5_within x2 0 3) fun r7 =>
    if (bI r7) = 0 then
      cl2 (f_X5_finding 0 A) fun r17 A19 =>
      some (r17, A19)
    else
      gI x2 4 <|
      gI x1 4 <|
      cl2 (f_X4_takeFrom x2.toNatClampNeg x1.toNatClampNeg A) fun r14 A16 =>
      some (r14, A16)
abbrev rm_X5_moves : Room := { frames := 2, cells := 0, slots := 0, locals := 45 }
set_option maxHeartbeats 4000000 in
set_option maxRecDepth 100000 in
theorem b_X5_moves {E : pfE} (X : CX cellsC E cX5_moves RX5 rm_X5_moves 3) (x1 : Int32) (x2 : Int32) (A : St) {out : Int32 × St} (hQ : Reti cellsC E cX5_moves out.1 out.2) (h : f_X5_moves x1 x2 A = some out) : GG cellsC E A 0 [(0, .ref (fAd (eF E) 0)), (1, .int x1), (2, .int x2)] [] := by
  unfold f_X5_moves at h
  refine G_iload_n X dX5_moves_0 rfl 1 rfl ?_
  refine G_iconst X (v := 0) dX5_moves_1 rfl ?_
  refine G_iconst X (v := 3) dX5_moves_2 rfl ?_
  obtain ⟨r1, hz2, h⟩ := cl_k h
  refine G_callS_i X (As := [.int x1, .int 0, .int 3]) (rest := []) ok_X5_within qw184 ⟨rfl, rfl, Nat.le_of_ble_eq_true rfl, Nat.le_of_ble_eq_true rfl⟩ (m_X5_within X.d hz2) rfl rfl (Nat.le_of_ble_eq_true rfl) dX5_moves_3 ?_
  refine G_ifeq X (tgt := 18) dX5_moves_6 (by decide) (fun c3 => ?_) (fun c3 => ?_)
  · have h := if_t c3 h
    refine G_aload_n X dX5_moves_18 rfl 0 rfl ?_
    refine G_iconst X (v := 0) dX5_moves_19 rfl ?_
    obtain ⟨r4, A6, hz5, h⟩ := cl2_k h
    refine G_callV_i X (As := [.int 0]) (rest := []) ok_X5_finding qw191 0 (eC0 _ _ _) rfl rfl ⟨rfl, rfl, Nat.le_of_ble_eq_true rfl, Nat.le_of_ble_eq_true rfl⟩ (m_X5_finding X.d hz5) rfl rfl (Nat.le_of_ble_eq_true rfl) dX5_moves_20 ?_
    have e := so h
    subst e
    exact hQ _ _ dX5_moves_23
  · have h := if_f c3 h
    refine G_iload_n X dX5_moves_9 rfl 2 rfl ?_
    refine G_iconst X (v := 0) dX5_moves_10 rfl ?_
    refine G_iconst X (v := 3) dX5_moves_11 rfl ?_
    obtain ⟨r7, hz8, h⟩ := cl_k h
    refine G_callS_i X (As := [.int x2, .int 0, .int 3]) (rest := []) ok_X5_within qw184 ⟨rfl, rfl, Nat.le_of_ble_eq_true rfl, Nat.le_of_ble_eq_true rfl⟩ (m_X5_within X.d hz8) rfl rfl (Nat.le_of_ble_eq_true rfl) dX5_moves_12 ?_
    refine G_ifne X (tgt := 24) dX5_moves_15 (by decide) (fun c9 => ?_) (fun c9 => ?_)
    · have h := if_t c9 h
      refine G_aload_n X dX5_moves_18 rfl 0 rfl ?_
      refine G_iconst X (v := 0) dX5_moves_19 rfl ?_
      obtain ⟨r17, A19, hz18, h⟩ := cl2_k h
      refine G_callV_i X (As := [.int 0]) (rest := []) ok_X5_finding qw191 0 (eC0 _ _ _) rfl rfl ⟨rfl, rfl, Nat.le_of_ble_eq_true rfl, Nat.le_of_ble_eq_true rfl⟩ (m_X5_finding X.d hz18) rfl rfl (Nat.le_of_ble_eq_true rfl) dX5_moves_20 ?_
      have e := so h
      subst e
      exact hQ _ _ dX5_moves_23
    · have h := if_f c9 h
      refine G_aload_n X dX5_moves_24 rfl 0 rfl ?_
      refine G_getf X inX5 0 (eC0 _ _ _) rfl 5 (by decide) qw160 rfl dX5_moves_25 ?_
      refine G_iload_n X dX5_moves_28 rfl 2 rfl ?_
      have hi10 := gI_n h
      have h := gI_k h
      have hw11 := vlt hi10
      refine G_aald X (t0 := 6) (b := fAd (eF E) (43 + x2.toNatClampNeg)) 42 (eC42 _ _ _) rfl rfl hi10 (if_pos hw11) dX5_moves_29 ?_
      refine G_aload_n X dX5_moves_30 rfl 0 rfl ?_
      refine G_getf X inX5 0 (eC0 _ _ _) rfl 5 (by decide) qw160 rfl dX5_moves_31 ?_
      refine G_iload_n X dX5_moves_34 rfl 1 rfl ?_
      have hi12 := gI_n h
      have h := gI_k h
      have hw13 := vlt hi12
      refine G_aald X (t0 := 6) (b := fAd (eF E) (43 + x1.toNatClampNeg)) 42 (eC42 _ _ _) rfl rfl hi12 (if_pos hw13) dX5_moves_35 ?_
      obtain ⟨r14, A16, hz15, h⟩ := cl2_k h
      refine G_callV_i X (As := [.ref (fAd (eF E) (43 + x1.toNatClampNeg))]) (rest := []) ok_X4_takeFrom qw531 (43 + x2.toNatClampNeg) (eCf43 _ _ _ _ hw11) rfl rfl ⟨rfl, rfl, Nat.le_of_ble_eq_true rfl, Nat.le_of_ble_eq_true rfl⟩ (m_X4_takeFrom X.d hw11 hw13 hz15) rfl rfl (Nat.le_of_ble_eq_true rfl) dX5_moves_36 ?_
      have e := so h
      subst e
      exact hQ _ _ dX5_moves_39
theorem m_X5_moves {l : Launch} {F : pfF} (hD : ∀ A, va_D (fA F) (cellsC (fAd F) (fCy F) A)) {x1 : Int32} {x2 : Int32} {A : St} {out : Int32 × St} (h : f_X5_moves x1 x2 A = some out) : Mt l F cellsC yX5_moves cX5_moves 3 (some .int) rm_X5_moves [.ref (fAd F 0), .int x1, .int x2] A (va_Qi (fun (r : Int32) (u : St) => r = out.1 ∧ u = out.2) (Wd cellsC F) (fA F)) := by
  refine Met_i (by decide +kernel) (Nat.le_of_ble_eq_true rfl) hD (fun E el ef X hQ => ?_)
  subst el
  subst ef
  exact b_X5_moves X _ _ _ hQ h
theorem ok_X5_moves : OkV yX5_moves cX5_moves 3 (some .int) 2 := ⟨qw528, qw529, qw1, qw530, by decide, by decide, by decide⟩
noncomputable def f_X5_isSheet (x0 : Int32) : Option (Bool) :=
  cl (f_X5_within x0 0 3) fun r1 =>
  some r1
abbrev rm_X5_isSheet : Room := { frames := 1, cells := 0, slots := 0, locals := 22 }
set_option maxHeartbeats 4000000 in
set_option maxRecDepth 100000 in
theorem b_X5_isSheet {wl : pfW} {E : pfE} (X : CX wl E cX5_isSheet RX5 rm_X5_isSheet 1) (x0 : Int32) {A : St} {out : Bool} (hQ : Reti wl E cX5_isSheet (bI out) A) (h : f_X5_isSheet x0 = some out) : GG wl E A 0 [(0, .int x0)] [] := by
  unfold f_X5_isSheet at h
  refine G_iload_n X dX5_isSheet_0 rfl 0 rfl ?_
  refine G_iconst X (v := 0) dX5_isSheet_1 rfl ?_
  refine G_iconst X (v := 3) dX5_isSheet_2 rfl ?_
  obtain ⟨r1, hz2, h⟩ := cl_k h
  refine G_callS_i X (As := [.int x0, .int 0, .int 3]) (rest := []) ok_X5_within qw184 ⟨rfl, rfl, Nat.le_of_ble_eq_true rfl, Nat.le_of_ble_eq_true rfl⟩ (m_X5_within X.d hz2) rfl rfl (Nat.le_of_ble_eq_true rfl) dX5_isSheet_3 ?_
  have e := so h
  subst e
  exact hQ _ _ dX5_isSheet_6
theorem m_X5_isSheet {wl : pfW} {l : Launch} {F : pfF} (hD : ∀ A, va_D (fA F) (wl (fAd F) (fCy F) A)) {x0 : Int32} {A : St} {out : Bool} (h : f_X5_isSheet x0 = some out) : Mt l F wl yX5_isSheet cX5_isSheet 1 (some .boolean) rm_X5_isSheet [.int x0] A (va_Qi (fun (r : Int32) (u : St) => r = bI out ∧ u = A) (Wd wl F) (fA F)) := by
  refine Met_iz (by decide +kernel) (Nat.le_of_ble_eq_true rfl) hD (nar_bI _) (fun E el ef X hQ => ?_)
  subst el
  subst ef
  exact b_X5_isSheet X _ hQ h
theorem ok_X5_isSheet : OkS yX5_isSheet cX5_isSheet 1 (some .boolean) 1 := ⟨qw541, qw1, qw542, by decide, by decide, by decide⟩
noncomputable def f_X3_become_L12 (w : Nat) (l3 : Int32) (A : St) : Option ((Int32 × St) ⊕ (St)) :=
  if 40 ≤ l3 then
    some (.inr A)
  else
    gI l3 40 <|
    bv (upD A (60 + w) l3.toNatClampNeg FP.dconst0) fun A5 =>
    bv (l3 + 1) fun v6 =>
    some (.inl (v6, A5))
noncomputable def f_X3_become_X31 (w : Nat) (A : St) : Option (St) :=
  some A
noncomputable def f_X3_become (w : Nat) (x1 : Int32) (x2 : Int32) (A : St) : Option (St) :=
  bv (upI A (56 + w) 0 x1) fun A1 =>
  bv (upI A1 (56 + w) 1 x2) fun A2 =>
  cl (loop (fun s => f_X3_become_L12 w s.1 s.2) (0, A2)) (fun s => f_X3_become_X31 w s)
abbrev rm_X3_become : Room := { frames := 0, cells := 0, slots := 0, locals := 0 }
set_option maxHeartbeats 4000000 in
set_option maxRecDepth 100000 in
theorem g_X3_become_L12 {E : pfE} (X : CX cellsC E cX3_become RX3 rm_X3_become 4) (w : Nat) (hw : w < 4) : ∀ (n : Nat) (l3 : Int32) (A : St) (ρ : St), lp (fun s => f_X3_become_L12 w s.1 s.2) n (l3, A) = some ρ → (∀ (B : St), ρ = B → GG cellsC E B 31 [] []) → GG cellsC E A 12 [(0, .ref (fAd (eF E) (56 + w))), (3, .int l3)] [] := by
  intro n
  induction n with
  | zero =>
    intro l3 A ρ h
    cases h
  | succ n ih =>
    intro l3 A ρ h0 K
    obtain ⟨x, hb, hx⟩ := lp_step h0
    have h : f_X3_become_L12 w l3 A = some x := hb
    unfold f_X3_become_L12 at h
    clear hb h0
    refine G_iload_n X dX3_become_12 rfl 1 rfl ?_
    refine G_bipush X (v := 40) dX3_become_13 rfl ?_
    refine G_icge X (tgt := 31) dX3_become_15 (by decide) (fun c3 => ?_) (fun c3 => ?_)
    · have h := if_t c3 h
      exact G_sub [] rfl (K _ (lpr (so h) hx).symm)
    · have h := if_f c3 h
      refine G_aload_n X dX3_become_18 rfl 0 rfl ?_
      refine G_getf X inX3 (56 + w) (eCf56 _ _ _ _ hw) rfl 2 (by decide) qw146 rfl dX3_become_19 ?_
      refine G_iload_n X dX3_become_22 rfl 1 rfl ?_
      refine G_dconst0 X dX3_become_23 ?_
      have hi4 := gI_n h
      have h := gI_k h
      refine G_dast X (j := l3.toNatClampNeg) (60 + w) (eCf60 _ _ _ _ hw) (sCD _ _ _ _ l3.toNatClampNeg _ _ (fun _ => fC60 _ _ _ _ hw)) hi4 rfl dX3_become_24 ?_
      refine G_topS (fun A5 eA5 => ?_)
      have h := bv_k eA5 h
      obtain ⟨v6, ev6⟩ : ∃ y : Int32, y = l3 + 1 := ⟨_, rfl⟩
      have h := bv_k ev6 h
      refine G_iinc X (q := 1) (v := v6) (lv2 := [(3, .int v6), (0, .ref (fAd (eF E) (56 + w)))]) dX3_become_25 rfl (by rw [ev6]; rfl) (by decide) rfl ?_
      refine G_goto X (tgt := 12) dX3_become_28 (by decide) ?_
      exact G_sub [1, 0] rfl (ih _ _ _ (lpl (so h) hx) K)
set_option maxHeartbeats 4000000 in
set_option maxRecDepth 100000 in
theorem b_X3_become {E : pfE} (X : CX cellsC E cX3_become RX3 rm_X3_become 4) (w : Nat) (x1 : Int32) (x2 : Int32) (A : St) (hw : w < 4) {out : St} (hQ : Retv cellsC E cX3_become out) (h : f_X3_become w x1 x2 A = some out) : GG cellsC E A 0 [(0, .ref (fAd (eF E) (56 + w))), (1, .int x1), (2, .int x2)] [] := by
  unfold f_X3_become at h
  refine G_aload_n X dX3_become_0 rfl 0 rfl ?_
  refine G_iload_n X dX3_become_1 rfl 1 rfl ?_
  refine G_putf X (ty := .int) tyX3 tyX3_ok nmX3 inX3 (56 + w) (eCf56 _ _ _ _ hw) rfl 0 (by decide) qw142 rfl (by decide +kernel) rfl rfl (Nat.le_of_ble_eq_true rfl) (oCI _ _ _ _ 0 x1 _ (by rw [fC56 _ _ _ _ hw]; simp [upI, va_up, upd])) dX3_become_2 ?_
  refine G_topS (fun A1 eA1 => ?_)
  have h := bv_k eA1 h
  refine G_aload_n X dX3_become_5 rfl 0 rfl ?_
  refine G_iload_n X dX3_become_6 rfl 2 rfl ?_
  refine G_putf X (ty := .int) tyX3 tyX3_ok nmX3 inX3 (56 + w) (eCf56 _ _ _ _ hw) rfl 1 (by decide) qw144 rfl (by decide +kernel) rfl rfl (Nat.le_of_ble_eq_true rfl) (oCI _ _ _ _ 1 x2 _ (by rw [fC56 _ _ _ _ hw]; simp [upI, va_up, upd])) dX3_become_7 ?_
  refine G_topS (fun A2 eA2 => ?_)
  have h := bv_k eA2 h
  refine G_iconst X (v := 0) dX3_become_10 rfl ?_
  refine G_istore_n X (lv2 := [(3, .int 0), (0, .ref (fAd (eF E) (56 + w))), (1, .int x1), (2, .int x2)]) dX3_become_11 rfl (by decide) rfl ?_
  obtain ⟨ρ, hl, h⟩ := cl_k h
  obtain ⟨n, hl⟩ := loop_some hl
  refine G_sub [1, 0] rfl (g_X3_become_L12 X w hw n _ _ ρ hl ?_)
  intro A7 e
  rw [e] at h
  have h : f_X3_become_X31 w A7 = some _ := h
  unfold f_X3_become_X31 at h
  have e := so h
  subst e
  exact hQ _ _ dX3_become_31
theorem m_X3_become {l : Launch} {F : pfF} (hD : ∀ A, va_D (fA F) (cellsC (fAd F) (fCy F) A)) {w : Nat} {x1 : Int32} {x2 : Int32} {A : St} (hw : w < 4) {out : St} (h : f_X3_become w x1 x2 A = some out) : Mt l F cellsC yX3_become cX3_become 4 none rm_X3_become [.ref (fAd F (56 + w)), .int x1, .int x2] A (va_Qv (fun (u : St) => u = out) (Wd cellsC F) (fA F)) := by
  refine Met_v (by decide +kernel) (Nat.le_of_ble_eq_true rfl) hD (fun E el ef X hQ => ?_)
  subst el
  subst ef
  exact b_X3_become X _ _ _ _ hw hQ h
theorem ok_X3_become : OkV yX3_become cX3_become 4 none 2 := ⟨qw544, qw545, qw5, qw546, by decide, by decide, by decide⟩
noncomputable def f_X5_sheet (x1 : Int32) (x2 : Int32) (x3 : Int32) (A : St) : Option (Int32 × St) :=
  cl (f_X5_isSheet x1) fun r1 =>
  if (bI r1) = 0 then
    cl2 (f_X5_finding 0 A) fun r4 A6 =>
    some (r4, A6)
  else
    cl (f_X5_within x2 (-1) 2) fun r7 =>
    if (bI r7) = 0 then
      cl2 (f_X5_finding 0 A) fun r29 A31 =>
      some (r29, A31)
    else
      if x2 = (-1) then
        gI x1 4 <|
        cl (f_X3_become x1.toNatClampNeg (-1) 0 A) fun A28 =>
        some (0, A28)
      else
        if 0 ≤ x3 then
          if x3 ≤ 40 then
            gI x1 4 <|
            cl (f_X3_become x1.toNatClampNeg x2 x3 A) fun A17 =>
            some (x3, A17)
          else
            cl2 (f_X5_finding 0 A) fun r18 A20 =>
            some (r18, A20)
        else
          cl2 (f_X5_finding 6 A) fun r21 A23 =>
          some (r21, A23)
abbrev rm_X5_sheet : Room := { frames := 2, cells := 0, slots := 0, locals := 42 }
set_option maxHeartbeats 4000000 in
set_option maxRecDepth 100000 in
theorem b_X5_sheet {E : pfE} (X : CX cellsC E cX5_sheet RX5 rm_X5_sheet 4) (x1 : Int32) (x2 : Int32) (x3 : Int32) (A : St) {out : Int32 × St} (hQ : Reti cellsC E cX5_sheet out.1 out.2) (h : f_X5_sheet x1 x2 x3 A = some out) : GG cellsC E A 0 [(0, .ref (fAd (eF E) 0)), (1, .int x1), (2, .int x2), (3, .int x3)] [] := by
  unfold f_X5_sheet at h
  refine G_iload_n X dX5_sheet_0 rfl 1 rfl ?_
  obtain ⟨r1, hz2, h⟩ := cl_k h
  refine G_callS_i X (As := [.int x1]) (rest := []) ok_X5_isSheet qw540 ⟨rfl, rfl, Nat.le_of_ble_eq_true rfl, Nat.le_of_ble_eq_true rfl⟩ (m_X5_isSheet X.d hz2) rfl rfl (Nat.le_of_ble_eq_true rfl) dX5_sheet_1 ?_
  refine G_ifeq X (tgt := 16) dX5_sheet_4 (by decide) (fun c3 => ?_) (fun c3 => ?_)
  · have h := if_t c3 h
    refine G_aload_n X dX5_sheet_16 rfl 0 rfl ?_
    refine G_iconst X (v := 0) dX5_sheet_17 rfl ?_
    obtain ⟨r4, A6, hz5, h⟩ := cl2_k h
    refine G_callV_i X (As := [.int 0]) (rest := []) ok_X5_finding qw191 0 (eC0 _ _ _) rfl rfl ⟨rfl, rfl, Nat.le_of_ble_eq_true rfl, Nat.le_of_ble_eq_true rfl⟩ (m_X5_finding X.d hz5) rfl rfl (Nat.le_of_ble_eq_true rfl) dX5_sheet_18 ?_
    have e := so h
    subst e
    exact hQ _ _ dX5_sheet_21
  · have h := if_f c3 h
    refine G_iload_n X dX5_sheet_7 rfl 2 rfl ?_
    refine G_iconst X (v := (-1)) dX5_sheet_8 rfl ?_
    refine G_iconst X (v := 2) dX5_sheet_9 rfl ?_
    obtain ⟨r7, hz8, h⟩ := cl_k h
    refine G_callS_i X (As := [.int x2, .int (-1), .int 2]) (rest := []) ok_X5_within qw184 ⟨rfl, rfl, Nat.le_of_ble_eq_true rfl, Nat.le_of_ble_eq_true rfl⟩ (m_X5_within X.d hz8) rfl rfl (Nat.le_of_ble_eq_true rfl) dX5_sheet_10 ?_
    refine G_ifne X (tgt := 22) dX5_sheet_13 (by decide) (fun c9 => ?_) (fun c9 => ?_)
    · have h := if_t c9 h
      refine G_aload_n X dX5_sheet_16 rfl 0 rfl ?_
      refine G_iconst X (v := 0) dX5_sheet_17 rfl ?_
      obtain ⟨r29, A31, hz30, h⟩ := cl2_k h
      refine G_callV_i X (As := [.int 0]) (rest := []) ok_X5_finding qw191 0 (eC0 _ _ _) rfl rfl ⟨rfl, rfl, Nat.le_of_ble_eq_true rfl, Nat.le_of_ble_eq_true rfl⟩ (m_X5_finding X.d hz30) rfl rfl (Nat.le_of_ble_eq_true rfl) dX5_sheet_18 ?_
      have e := so h
      subst e
      exact hQ _ _ dX5_sheet_21
    · have h := if_f c9 h
      refine G_iload_n X dX5_sheet_22 rfl 2 rfl ?_
      refine G_iconst X (v := (-1)) dX5_sheet_23 rfl ?_
      refine G_icne X (tgt := 40) dX5_sheet_24 (by decide) (fun c10 => ?_) (fun c10 => ?_)
      · have h := if_t c10 h
        refine G_aload_n X dX5_sheet_27 rfl 0 rfl ?_
        refine G_getf X inX5 0 (eC0 _ _ _) rfl 6 (by decide) qw161 rfl dX5_sheet_28 ?_
        refine G_iload_n X dX5_sheet_31 rfl 1 rfl ?_
        have hi24 := gI_n h
        have h := gI_k h
        have hw25 := vlt hi24
        refine G_aald X (t0 := 7) (b := fAd (eF E) (56 + x1.toNatClampNeg)) 55 (eC55 _ _ _) rfl rfl hi24 (if_pos hw25) dX5_sheet_32 ?_
        refine G_iconst X (v := (-1)) dX5_sheet_33 rfl ?_
        refine G_iconst X (v := 0) dX5_sheet_34 rfl ?_
        obtain ⟨A28, hz27, h⟩ := cl_k h
        refine G_callV_v X (As := [.int (-1), .int 0]) (rest := []) ok_X3_become qw543 (56 + x1.toNatClampNeg) (eCf56 _ _ _ _ hw25) rfl rfl ⟨rfl, rfl, Nat.le_of_ble_eq_true rfl, Nat.le_of_ble_eq_true rfl⟩ (m_X3_become X.d hw25 hz27) rfl rfl (Nat.le_of_ble_eq_true rfl) dX5_sheet_35 ?_
        refine G_iconst X (v := 0) dX5_sheet_38 rfl ?_
        have e := so h
        subst e
        exact hQ _ _ dX5_sheet_39
      · have h := if_f c10 h
        refine G_iload_n X dX5_sheet_40 rfl 3 rfl ?_
        refine G_ifge X (tgt := 51) dX5_sheet_41 (by decide) (fun c11 => ?_) (fun c11 => ?_)
        · have h := if_t c11 h
          refine G_iload_n X dX5_sheet_51 rfl 3 rfl ?_
          refine G_bipush X (v := 40) dX5_sheet_52 rfl ?_
          refine G_icle X (tgt := 63) dX5_sheet_54 (by decide) (fun c12 => ?_) (fun c12 => ?_)
          · have h := if_t c12 h
            refine G_aload_n X dX5_sheet_63 rfl 0 rfl ?_
            refine G_getf X inX5 0 (eC0 _ _ _) rfl 6 (by decide) qw161 rfl dX5_sheet_64 ?_
            refine G_iload_n X dX5_sheet_67 rfl 1 rfl ?_
            have hi13 := gI_n h
            have h := gI_k h
            have hw14 := vlt hi13
            refine G_aald X (t0 := 7) (b := fAd (eF E) (56 + x1.toNatClampNeg)) 55 (eC55 _ _ _) rfl rfl hi13 (if_pos hw14) dX5_sheet_68 ?_
            refine G_iload_n X dX5_sheet_69 rfl 2 rfl ?_
            refine G_iload_n X dX5_sheet_70 rfl 3 rfl ?_
            obtain ⟨A17, hz16, h⟩ := cl_k h
            refine G_callV_v X (As := [.int x2, .int x3]) (rest := []) ok_X3_become qw543 (56 + x1.toNatClampNeg) (eCf56 _ _ _ _ hw14) rfl rfl ⟨rfl, rfl, Nat.le_of_ble_eq_true rfl, Nat.le_of_ble_eq_true rfl⟩ (m_X3_become X.d hw14 hz16) rfl rfl (Nat.le_of_ble_eq_true rfl) dX5_sheet_71 ?_
            refine G_iload_n X dX5_sheet_74 rfl 3 rfl ?_
            have e := so h
            subst e
            exact hQ _ _ dX5_sheet_75
          · have h := if_f c12 h
            refine G_aload_n X dX5_sheet_57 rfl 0 rfl ?_
            refine G_iconst X (v := 0) dX5_sheet_58 rfl ?_
            obtain ⟨r18, A20, hz19, h⟩ := cl2_k h
            refine G_callV_i X (As := [.int 0]) (rest := []) ok_X5_finding qw191 0 (eC0 _ _ _) rfl rfl ⟨rfl, rfl, Nat.le_of_ble_eq_true rfl, Nat.le_of_ble_eq_true rfl⟩ (m_X5_finding X.d hz19) rfl rfl (Nat.le_of_ble_eq_true rfl) dX5_sheet_59 ?_
            have e := so h
            subst e
            exact hQ _ _ dX5_sheet_62
        · have h := if_f c11 h
          refine G_aload_n X dX5_sheet_44 rfl 0 rfl ?_
          refine G_bipush X (v := 6) dX5_sheet_45 rfl ?_
          obtain ⟨r21, A23, hz22, h⟩ := cl2_k h
          refine G_callV_i X (As := [.int 6]) (rest := []) ok_X5_finding qw191 0 (eC0 _ _ _) rfl rfl ⟨rfl, rfl, Nat.le_of_ble_eq_true rfl, Nat.le_of_ble_eq_true rfl⟩ (m_X5_finding X.d hz22) rfl rfl (Nat.le_of_ble_eq_true rfl) dX5_sheet_47 ?_
          have e := so h
          subst e
          exact hQ _ _ dX5_sheet_50
theorem m_X5_sheet {l : Launch} {F : pfF} (hD : ∀ A, va_D (fA F) (cellsC (fAd F) (fCy F) A)) {x1 : Int32} {x2 : Int32} {x3 : Int32} {A : St} {out : Int32 × St} (h : f_X5_sheet x1 x2 x3 A = some out) : Mt l F cellsC yX5_sheet cX5_sheet 4 (some .int) rm_X5_sheet [.ref (fAd F 0), .int x1, .int x2, .int x3] A (va_Qi (fun (r : Int32) (u : St) => r = out.1 ∧ u = out.2) (Wd cellsC F) (fA F)) := by
  refine Met_i (by decide +kernel) (Nat.le_of_ble_eq_true rfl) hD (fun E el ef X hQ => ?_)
  subst el
  subst ef
  exact b_X5_sheet X _ _ _ _ hQ h
theorem ok_X5_sheet : OkV yX5_sheet cX5_sheet 4 (some .int) 3 := ⟨qw537, qw538, qw1, qw539, by decide, by decide, by decide⟩
noncomputable def f_X3_isMissing (w : Nat) (A : St) : Option (Bool) :=
  if (A.1 (56 + w) 0) = (-1) then
    some true
  else
    some false
abbrev rm_X3_isMissing : Room := { frames := 0, cells := 0, slots := 0, locals := 0 }
set_option maxHeartbeats 4000000 in
set_option maxRecDepth 100000 in
theorem b_X3_isMissing {E : pfE} (X : CX cellsC E cX3_isMissing RX3 rm_X3_isMissing 1) (w : Nat) (A : St) (hw : w < 4) {out : Bool} (hQ : Reti cellsC E cX3_isMissing (bI out) A) (h : f_X3_isMissing w A = some out) : GG cellsC E A 0 [(0, .ref (fAd (eF E) (56 + w)))] [] := by
  unfold f_X3_isMissing at h
  refine G_aload_n X dX3_isMissing_0 rfl 0 rfl ?_
  refine G_getf X inX3 (56 + w) (eCf56 _ _ _ _ hw) rfl 0 (by decide) qw142 rfl dX3_isMissing_1 ?_
  refine G_iconst X (v := (-1)) dX3_isMissing_4 rfl ?_
  refine G_icne X (tgt := 12) dX3_isMissing_5 (by decide) (fun c1 => ?_) (fun c1 => ?_)
  · have h := if_t c1 h
    refine G_iconst X (v := 1) dX3_isMissing_8 rfl ?_
    refine G_goto X (tgt := 13) dX3_isMissing_9 (by decide) ?_
    have e := so h
    subst e
    exact hQ _ _ dX3_isMissing_13
  · have h := if_f c1 h
    refine G_iconst X (v := 0) dX3_isMissing_12 rfl ?_
    have e := so h
    subst e
    exact hQ _ _ dX3_isMissing_13
theorem m_X3_isMissing {l : Launch} {F : pfF} (hD : ∀ A, va_D (fA F) (cellsC (fAd F) (fCy F) A)) {w : Nat} {A : St} (hw : w < 4) {out : Bool} (h : f_X3_isMissing w A = some out) : Mt l F cellsC yX3_isMissing cX3_isMissing 1 (some .boolean) rm_X3_isMissing [.ref (fAd F (56 + w))] A (va_Qi (fun (r : Int32) (u : St) => r = bI out ∧ u = A) (Wd cellsC F) (fA F)) := by
  refine Met_iz (by decide +kernel) (Nat.le_of_ble_eq_true rfl) hD (nar_bI _) (fun E el ef X hQ => ?_)
  subst el
  subst ef
  exact b_X3_isMissing X _ _ hw hQ h
theorem ok_X3_isMissing : OkV yX3_isMissing cX3_isMissing 1 (some .boolean) 0 := ⟨qw552, qw553, qw5, qw554, by decide, by decide, by decide⟩
noncomputable def f_X3_has (w : Nat) (x1 : Int32) (A : St) : Option (Bool) :=
  if x1 < 0 then
    some false
  else
    if (A.1 (56 + w) 1) ≤ x1 then
      some false
    else
      some true
abbrev rm_X3_has : Room := { frames := 0, cells := 0, slots := 0, locals := 0 }
set_option maxHeartbeats 4000000 in
set_option maxRecDepth 100000 in
theorem b_X3_has {E : pfE} (X : CX cellsC E cX3_has RX3 rm_X3_has 2) (w : Nat) (x1 : Int32) (A : St) (hw : w < 4) {out : Bool} (hQ : Reti cellsC E cX3_has (bI out) A) (h : f_X3_has w x1 A = some out) : GG cellsC E A 0 [(0, .ref (fAd (eF E) (56 + w))), (1, .int x1)] [] := by
  unfold f_X3_has at h
  refine G_iload_n X dX3_has_0 rfl 1 rfl ?_
  refine G_iflt X (tgt := 16) dX3_has_1 (by decide) (fun c1 => ?_) (fun c1 => ?_)
  · have h := if_t c1 h
    refine G_iconst X (v := 0) dX3_has_16 rfl ?_
    have e := so h
    subst e
    exact hQ _ _ dX3_has_17
  · have h := if_f c1 h
    refine G_iload_n X dX3_has_4 rfl 1 rfl ?_
    refine G_aload_n X dX3_has_5 rfl 0 rfl ?_
    refine G_getf X inX3 (56 + w) (eCf56 _ _ _ _ hw) rfl 1 (by decide) qw144 rfl dX3_has_6 ?_
    refine G_icge X (tgt := 16) dX3_has_9 (by decide) (fun c2 => ?_) (fun c2 => ?_)
    · have h := if_t c2 h
      refine G_iconst X (v := 0) dX3_has_16 rfl ?_
      have e := so h
      subst e
      exact hQ _ _ dX3_has_17
    · have h := if_f c2 h
      refine G_iconst X (v := 1) dX3_has_12 rfl ?_
      refine G_goto X (tgt := 17) dX3_has_13 (by decide) ?_
      have e := so h
      subst e
      exact hQ _ _ dX3_has_17
theorem m_X3_has {l : Launch} {F : pfF} (hD : ∀ A, va_D (fA F) (cellsC (fAd F) (fCy F) A)) {w : Nat} {x1 : Int32} {A : St} (hw : w < 4) {out : Bool} (h : f_X3_has w x1 A = some out) : Mt l F cellsC yX3_has cX3_has 2 (some .boolean) rm_X3_has [.ref (fAd F (56 + w)), .int x1] A (va_Qi (fun (r : Int32) (u : St) => r = bI out ∧ u = A) (Wd cellsC F) (fA F)) := by
  refine Met_iz (by decide +kernel) (Nat.le_of_ble_eq_true rfl) hD (nar_bI _) (fun E el ef X hQ => ?_)
  subst el
  subst ef
  exact b_X3_has X _ _ _ hw hQ h
theorem ok_X3_has : OkV yX3_has cX3_has 2 (some .boolean) 1 := ⟨qw556, qw557, qw5, qw558, by decide, by decide, by decide⟩
noncomputable def f_X3_eighths (w : Nat) (x1 : Int32) (A : St) : Option (UInt64) :=
  if (A.1 (56 + w) 0) = 0 then
    some (FP.i2d x1)
  else
    if (A.1 (56 + w) 0) = 1 then
      g32 (FP.fdiv (FP.i2f x1) 1090519040) fun v4 =>
      g64 (FP.f2d v4) fun v5 =>
      some v5
    else
      g64 (FP.ddiv (FP.i2d x1) 4620693217682128896) fun v3 =>
      some v3
abbrev rm_X3_eighths : Room := { frames := 0, cells := 0, slots := 0, locals := 0 }
set_option maxHeartbeats 4000000 in
set_option maxRecDepth 100000 in
theorem b_X3_eighths {E : pfE} (X : CX cellsC E cX3_eighths RX3 rm_X3_eighths 2) (w : Nat) (x1 : Int32) (A : St) (hw : w < 4) {out : UInt64} (hQ : Retd cellsC E cX3_eighths out A) (h : f_X3_eighths w x1 A = some out) : GG cellsC E A 0 [(0, .ref (fAd (eF E) (56 + w))), (1, .int x1)] [] := by
  unfold f_X3_eighths at h
  refine G_aload_n X dX3_eighths_0 rfl 0 rfl ?_
  refine G_getf X inX3 (56 + w) (eCf56 _ _ _ _ hw) rfl 0 (by decide) qw142 rfl dX3_eighths_1 ?_
  refine G_ifne X (tgt := 10) dX3_eighths_4 (by decide) (fun c1 => ?_) (fun c1 => ?_)
  · have h := if_t c1 h
    refine G_iload_n X dX3_eighths_7 rfl 1 rfl ?_
    refine G_i2d X dX3_eighths_8 ?_
    have e := so h
    subst e
    exact hQ _ _ dX3_eighths_9
  · have h := if_f c1 h
    refine G_aload_n X dX3_eighths_10 rfl 0 rfl ?_
    refine G_getf X inX3 (56 + w) (eCf56 _ _ _ _ hw) rfl 0 (by decide) qw142 rfl dX3_eighths_11 ?_
    refine G_iconst X (v := 1) dX3_eighths_14 rfl ?_
    refine G_icne X (tgt := 27) dX3_eighths_15 (by decide) (fun c2 => ?_) (fun c2 => ?_)
    · have h := if_t c2 h
      refine G_iload_n X dX3_eighths_18 rfl 1 rfl ?_
      refine G_i2f X dX3_eighths_19 ?_
      refine G_ldcf X (v := 1090519040) qw563 dX3_eighths_20 ?_
      have hv4 := g32_n h
      refine G_fdiv X dX3_eighths_22 hv4 ?_
      refine G_topf (fun v4 ev4 => ?_)
      have h := g32_k ev4 h
      have hv5 := g64_n h
      refine G_f2d X dX3_eighths_23 hv5 ?_
      refine G_topd (fun v5 ev5 => ?_)
      have h := g64_k ev5 h
      refine G_goto X (tgt := 33) dX3_eighths_24 (by decide) ?_
      have e := so h
      subst e
      exact hQ _ _ dX3_eighths_33
    · have h := if_f c2 h
      refine G_iload_n X dX3_eighths_27 rfl 1 rfl ?_
      refine G_i2d X dX3_eighths_28 ?_
      refine G_ldc2d X (v := 4620693217682128896) qw564 dX3_eighths_29 ?_
      have hv3 := g64_n h
      refine G_ddiv X dX3_eighths_32 hv3 ?_
      refine G_topd (fun v3 ev3 => ?_)
      have h := g64_k ev3 h
      have e := so h
      subst e
      exact hQ _ _ dX3_eighths_33
theorem m_X3_eighths {l : Launch} {F : pfF} (hD : ∀ A, va_D (fA F) (cellsC (fAd F) (fCy F) A)) {w : Nat} {x1 : Int32} {A : St} (hw : w < 4) {out : UInt64} (h : f_X3_eighths w x1 A = some out) : Mt l F cellsC yX3_eighths cX3_eighths 2 (some .double) rm_X3_eighths [.ref (fAd F (56 + w)), .int x1] A (va_Qd (fun (r : UInt64) (u : St) => r = out ∧ u = A) (Wd cellsC F) (fA F)) := by
  refine Met_d (by decide +kernel) (Nat.le_of_ble_eq_true rfl) hD (fun E el ef X hQ => ?_)
  subst el
  subst ef
  exact b_X3_eighths X _ _ _ hw hQ h
theorem ok_X3_eighths : OkV yX3_eighths cX3_eighths 2 (some .double) 1 := ⟨qw560, qw561, qw5, qw562, by decide, by decide, by decide⟩
noncomputable def f_X3_put (w : Nat) (x1 : Int32) (x2 : UInt64) (A : St) : Option (St) :=
  if (A.1 (56 + w) 0) = 0 then
    gI x1 40 <|
    bv (upD A (60 + w) x1.toNatClampNeg (FP.i2d (FP.d2i x2))) fun A10 =>
    some A10
  else
    if (A.1 (56 + w) 0) = 1 then
      g32 (FP.d2f x2) fun v5 =>
      g64 (FP.f2d v5) fun v6 =>
      gI x1 40 <|
      bv (upD A (60 + w) x1.toNatClampNeg v6) fun A8 =>
      some A8
    else
      gI x1 40 <|
      bv (upD A (60 + w) x1.toNatClampNeg x2) fun A4 =>
      some A4
abbrev rm_X3_put : Room := { frames := 0, cells := 0, slots := 0, locals := 0 }
set_option maxHeartbeats 4000000 in
set_option maxRecDepth 100000 in
theorem b_X3_put {E : pfE} (X : CX cellsC E cX3_put RX3 rm_X3_put 4) (w : Nat) (x1 : Int32) (x2 : UInt64) (A : St) (hw : w < 4) {out : St} (hQ : Retv cellsC E cX3_put out) (h : f_X3_put w x1 x2 A = some out) : GG cellsC E A 0 [(0, .ref (fAd (eF E) (56 + w))), (1, .int x1), (2, .double x2)] [] := by
  unfold f_X3_put at h
  refine G_aload_n X dX3_put_0 rfl 0 rfl ?_
  refine G_getf X inX3 (56 + w) (eCf56 _ _ _ _ hw) rfl 0 (by decide) qw142 rfl dX3_put_1 ?_
  refine G_ifne X (tgt := 19) dX3_put_4 (by decide) (fun c1 => ?_) (fun c1 => ?_)
  · have h := if_t c1 h
    refine G_aload_n X dX3_put_7 rfl 0 rfl ?_
    refine G_getf X inX3 (56 + w) (eCf56 _ _ _ _ hw) rfl 2 (by decide) qw146 rfl dX3_put_8 ?_
    refine G_iload_n X dX3_put_11 rfl 1 rfl ?_
    refine G_dload_n X dX3_put_12 rfl 2 rfl ?_
    refine G_d2i X dX3_put_13 ?_
    refine G_i2d X dX3_put_14 ?_
    have hi9 := gI_n h
    have h := gI_k h
    refine G_dast X (j := x1.toNatClampNeg) (60 + w) (eCf60 _ _ _ _ hw) (sCD _ _ _ _ x1.toNatClampNeg _ _ (fun _ => fC60 _ _ _ _ hw)) hi9 rfl dX3_put_15 ?_
    refine G_topS (fun A10 eA10 => ?_)
    have h := bv_k eA10 h
    refine G_goto X (tgt := 46) dX3_put_16 (by decide) ?_
    have e := so h
    subst e
    exact hQ _ _ dX3_put_46
  · have h := if_f c1 h
    refine G_aload_n X dX3_put_19 rfl 0 rfl ?_
    refine G_getf X inX3 (56 + w) (eCf56 _ _ _ _ hw) rfl 0 (by decide) qw142 rfl dX3_put_20 ?_
    refine G_iconst X (v := 1) dX3_put_23 rfl ?_
    refine G_icne X (tgt := 39) dX3_put_24 (by decide) (fun c2 => ?_) (fun c2 => ?_)
    · have h := if_t c2 h
      refine G_aload_n X dX3_put_27 rfl 0 rfl ?_
      refine G_getf X inX3 (56 + w) (eCf56 _ _ _ _ hw) rfl 2 (by decide) qw146 rfl dX3_put_28 ?_
      refine G_iload_n X dX3_put_31 rfl 1 rfl ?_
      refine G_dload_n X dX3_put_32 rfl 2 rfl ?_
      have hv5 := g32_n h
      refine G_d2f X dX3_put_33 hv5 ?_
      refine G_topf (fun v5 ev5 => ?_)
      have h := g32_k ev5 h
      have hv6 := g64_n h
      refine G_f2d X dX3_put_34 hv6 ?_
      refine G_topd (fun v6 ev6 => ?_)
      have h := g64_k ev6 h
      have hi7 := gI_n h
      have h := gI_k h
      refine G_dast X (j := x1.toNatClampNeg) (60 + w) (eCf60 _ _ _ _ hw) (sCD _ _ _ _ x1.toNatClampNeg _ _ (fun _ => fC60 _ _ _ _ hw)) hi7 rfl dX3_put_35 ?_
      refine G_topS (fun A8 eA8 => ?_)
      have h := bv_k eA8 h
      refine G_goto X (tgt := 46) dX3_put_36 (by decide) ?_
      have e := so h
      subst e
      exact hQ _ _ dX3_put_46
    · have h := if_f c2 h
      refine G_aload_n X dX3_put_39 rfl 0 rfl ?_
      refine G_getf X inX3 (56 + w) (eCf56 _ _ _ _ hw) rfl 2 (by decide) qw146 rfl dX3_put_40 ?_
      refine G_iload_n X dX3_put_43 rfl 1 rfl ?_
      refine G_dload_n X dX3_put_44 rfl 2 rfl ?_
      have hi3 := gI_n h
      have h := gI_k h
      refine G_dast X (j := x1.toNatClampNeg) (60 + w) (eCf60 _ _ _ _ hw) (sCD _ _ _ _ x1.toNatClampNeg _ _ (fun _ => fC60 _ _ _ _ hw)) hi3 rfl dX3_put_45 ?_
      refine G_topS (fun A4 eA4 => ?_)
      have h := bv_k eA4 h
      have e := so h
      subst e
      exact hQ _ _ dX3_put_46
theorem m_X3_put {l : Launch} {F : pfF} (hD : ∀ A, va_D (fA F) (cellsC (fAd F) (fCy F) A)) {w : Nat} {x1 : Int32} {x2 : UInt64} {A : St} (hw : w < 4) {out : St} (h : f_X3_put w x1 x2 A = some out) : Mt l F cellsC yX3_put cX3_put 4 none rm_X3_put [.ref (fAd F (56 + w)), .int x1, .double x2] A (va_Qv (fun (u : St) => u = out) (Wd cellsC F) (fA F)) := by
  refine Met_v (by decide +kernel) (Nat.le_of_ble_eq_true rfl) hD (fun E el ef X hQ => ?_)
  subst el
  subst ef
  exact b_X3_put X _ _ _ _ hw hQ h
theorem ok_X3_put : OkV yX3_put cX3_put 4 none 2 := ⟨qw566, qw567, qw5, qw568, by decide, by decide, by decide⟩
noncomputable def f_X5_write (x1 : Int32) (x2 : Int32) (x3 : Int32) (A : St) : Option (Int32 × St) :=
  cl (f_X5_isSheet x1) fun r1 =>
  if (bI r1) = 0 then
    cl2 (f_X5_finding 0 A) fun r29 A31 =>
    some (r29, A31)
  else
    gI x1 4 <|
    cl (f_X3_isMissing x1.toNatClampNeg A) fun r6 =>
    if (bI r6) = 0 then
      gI x1 4 <|
      cl (f_X3_has x1.toNatClampNeg x2 A) fun r11 =>
      if (bI r11) = 0 then
        cl2 (f_X5_finding 0 A) fun r23 A25 =>
        some (r23, A25)
      else
        gI x1 4 <|
        gI x1 4 <|
        cl (f_X3_eighths x1.toNatClampNeg x3 A) fun r18 =>
        cl (f_X3_put x1.toNatClampNeg x2 r18 A) fun A22 =>
        some (1, A22)
    else
      cl2 (f_X5_finding 5 A) fun r26 A28 =>
      some (r26, A28)
abbrev rm_X5_write : Room := { frames := 2, cells := 0, slots := 0, locals := 42 }
set_option maxHeartbeats 4000000 in
set_option maxRecDepth 100000 in
theorem b_X5_write {E : pfE} (X : CX cellsC E cX5_write RX5 rm_X5_write 4) (x1 : Int32) (x2 : Int32) (x3 : Int32) (A : St) {out : Int32 × St} (hQ : Reti cellsC E cX5_write out.1 out.2) (h : f_X5_write x1 x2 x3 A = some out) : GG cellsC E A 0 [(0, .ref (fAd (eF E) 0)), (1, .int x1), (2, .int x2), (3, .int x3)] [] := by
  unfold f_X5_write at h
  refine G_iload_n X dX5_write_0 rfl 1 rfl ?_
  obtain ⟨r1, hz2, h⟩ := cl_k h
  refine G_callS_i X (As := [.int x1]) (rest := []) ok_X5_isSheet qw540 ⟨rfl, rfl, Nat.le_of_ble_eq_true rfl, Nat.le_of_ble_eq_true rfl⟩ (m_X5_isSheet X.d hz2) rfl rfl (Nat.le_of_ble_eq_true rfl) dX5_write_1 ?_
  refine G_ifne X (tgt := 13) dX5_write_4 (by decide) (fun c3 => ?_) (fun c3 => ?_)
  · have h := if_t c3 h
    refine G_aload_n X dX5_write_7 rfl 0 rfl ?_
    refine G_iconst X (v := 0) dX5_write_8 rfl ?_
    obtain ⟨r29, A31, hz30, h⟩ := cl2_k h
    refine G_callV_i X (As := [.int 0]) (rest := []) ok_X5_finding qw191 0 (eC0 _ _ _) rfl rfl ⟨rfl, rfl, Nat.le_of_ble_eq_true rfl, Nat.le_of_ble_eq_true rfl⟩ (m_X5_finding X.d hz30) rfl rfl (Nat.le_of_ble_eq_true rfl) dX5_write_9 ?_
    have e := so h
    subst e
    exact hQ _ _ dX5_write_12
  · have h := if_f c3 h
    refine G_aload_n X dX5_write_13 rfl 0 rfl ?_
    refine G_getf X inX5 0 (eC0 _ _ _) rfl 6 (by decide) qw161 rfl dX5_write_14 ?_
    refine G_iload_n X dX5_write_17 rfl 1 rfl ?_
    have hi4 := gI_n h
    have h := gI_k h
    have hw5 := vlt hi4
    refine G_aald X (t0 := 7) (b := fAd (eF E) (56 + x1.toNatClampNeg)) 55 (eC55 _ _ _) rfl rfl hi4 (if_pos hw5) dX5_write_18 ?_
    obtain ⟨r6, hz7, h⟩ := cl_k h
    refine G_callV_i X (As := []) (rest := []) ok_X3_isMissing qw551 (56 + x1.toNatClampNeg) (eCf56 _ _ _ _ hw5) rfl rfl ⟨rfl, rfl, Nat.le_of_ble_eq_true rfl, Nat.le_of_ble_eq_true rfl⟩ (m_X3_isMissing X.d hw5 hz7) rfl rfl (Nat.le_of_ble_eq_true rfl) dX5_write_19 ?_
    refine G_ifeq X (tgt := 31) dX5_write_22 (by decide) (fun c8 => ?_) (fun c8 => ?_)
    · have h := if_t c8 h
      refine G_aload_n X dX5_write_31 rfl 0 rfl ?_
      refine G_getf X inX5 0 (eC0 _ _ _) rfl 6 (by decide) qw161 rfl dX5_write_32 ?_
      refine G_iload_n X dX5_write_35 rfl 1 rfl ?_
      have hi9 := gI_n h
      have h := gI_k h
      have hw10 := vlt hi9
      refine G_aald X (t0 := 7) (b := fAd (eF E) (56 + x1.toNatClampNeg)) 55 (eC55 _ _ _) rfl rfl hi9 (if_pos hw10) dX5_write_36 ?_
      refine G_iload_n X dX5_write_37 rfl 2 rfl ?_
      obtain ⟨r11, hz12, h⟩ := cl_k h
      refine G_callV_i X (As := [.int x2]) (rest := []) ok_X3_has qw555 (56 + x1.toNatClampNeg) (eCf56 _ _ _ _ hw10) rfl rfl ⟨rfl, rfl, Nat.le_of_ble_eq_true rfl, Nat.le_of_ble_eq_true rfl⟩ (m_X3_has X.d hw10 hz12) rfl rfl (Nat.le_of_ble_eq_true rfl) dX5_write_38 ?_
      refine G_ifne X (tgt := 50) dX5_write_41 (by decide) (fun c13 => ?_) (fun c13 => ?_)
      · have h := if_t c13 h
        refine G_aload_n X dX5_write_44 rfl 0 rfl ?_
        refine G_iconst X (v := 0) dX5_write_45 rfl ?_
        obtain ⟨r23, A25, hz24, h⟩ := cl2_k h
        refine G_callV_i X (As := [.int 0]) (rest := []) ok_X5_finding qw191 0 (eC0 _ _ _) rfl rfl ⟨rfl, rfl, Nat.le_of_ble_eq_true rfl, Nat.le_of_ble_eq_true rfl⟩ (m_X5_finding X.d hz24) rfl rfl (Nat.le_of_ble_eq_true rfl) dX5_write_46 ?_
        have e := so h
        subst e
        exact hQ _ _ dX5_write_49
      · have h := if_f c13 h
        refine G_aload_n X dX5_write_50 rfl 0 rfl ?_
        refine G_getf X inX5 0 (eC0 _ _ _) rfl 6 (by decide) qw161 rfl dX5_write_51 ?_
        refine G_iload_n X dX5_write_54 rfl 1 rfl ?_
        have hi14 := gI_n h
        have h := gI_k h
        have hw15 := vlt hi14
        refine G_aald X (t0 := 7) (b := fAd (eF E) (56 + x1.toNatClampNeg)) 55 (eC55 _ _ _) rfl rfl hi14 (if_pos hw15) dX5_write_55 ?_
        refine G_iload_n X dX5_write_56 rfl 2 rfl ?_
        refine G_aload_n X dX5_write_57 rfl 0 rfl ?_
        refine G_getf X inX5 0 (eC0 _ _ _) rfl 6 (by decide) qw161 rfl dX5_write_58 ?_
        refine G_iload_n X dX5_write_61 rfl 1 rfl ?_
        have hi16 := gI_n h
        have h := gI_k h
        have hw17 := vlt hi16
        refine G_aald X (t0 := 7) (b := fAd (eF E) (56 + x1.toNatClampNeg)) 55 (eC55 _ _ _) rfl rfl hi16 (if_pos hw17) dX5_write_62 ?_
        refine G_iload_n X dX5_write_63 rfl 3 rfl ?_
        obtain ⟨r18, hz19, h⟩ := cl_k h
        refine G_callV_d X (As := [.int x3]) (rest := [.int x2, .ref (fAd (eF E) (56 + x1.toNatClampNeg))]) ok_X3_eighths qw559 (56 + x1.toNatClampNeg) (eCf56 _ _ _ _ hw17) rfl rfl ⟨rfl, rfl, Nat.le_of_ble_eq_true rfl, Nat.le_of_ble_eq_true rfl⟩ (m_X3_eighths X.d hw17 hz19) rfl rfl (Nat.le_of_ble_eq_true rfl) dX5_write_64 ?_
        obtain ⟨A22, hz21, h⟩ := cl_k h
        refine G_callV_v X (As := [.int x2, .double r18]) (rest := []) ok_X3_put qw565 (56 + x1.toNatClampNeg) (eCf56 _ _ _ _ hw15) rfl rfl ⟨rfl, rfl, Nat.le_of_ble_eq_true rfl, Nat.le_of_ble_eq_true rfl⟩ (m_X3_put X.d hw15 hz21) rfl rfl (Nat.le_of_ble_eq_true rfl) dX5_write_67 ?_
        refine G_iconst X (v := 1) dX5_write_70 rfl ?_
        have e := so h
        subst e
        exact hQ _ _ dX5_write_71
    · have h := if_f c8 h
      refine G_aload_n X dX5_write_25 rfl 0 rfl ?_
      refine G_iconst X (v := 5) dX5_write_26 rfl ?_
      obtain ⟨r26, A28, hz27, h⟩ := cl2_k h
      refine G_callV_i X (As := [.int 5]) (rest := []) ok_X5_finding qw191 0 (eC0 _ _ _) rfl rfl ⟨rfl, rfl, Nat.le_of_ble_eq_true rfl, Nat.le_of_ble_eq_true rfl⟩ (m_X5_finding X.d hz27) rfl rfl (Nat.le_of_ble_eq_true rfl) dX5_write_27 ?_
      have e := so h
      subst e
      exact hQ _ _ dX5_write_30
theorem m_X5_write {l : Launch} {F : pfF} (hD : ∀ A, va_D (fA F) (cellsC (fAd F) (fCy F) A)) {x1 : Int32} {x2 : Int32} {x3 : Int32} {A : St} {out : Int32 × St} (h : f_X5_write x1 x2 x3 A = some out) : Mt l F cellsC yX5_write cX5_write 4 (some .int) rm_X5_write [.ref (fAd F 0), .int x1, .int x2, .int x3] A (va_Qi (fun (r : Int32) (u : St) => r = out.1 ∧ u = out.2) (Wd cellsC F) (fA F)) := by
  refine Met_i (by decide +kernel) (Nat.le_of_ble_eq_true rfl) hD (fun E el ef X hQ => ?_)
  subst el
  subst ef
  exact b_X5_write X _ _ _ _ hQ h
theorem ok_X5_write : OkV yX5_write cX5_write 4 (some .int) 3 := ⟨qw548, qw549, qw1, qw550, by decide, by decide, by decide⟩
noncomputable def f_X3_bitsAt (w : Nat) (x1 : Int32) (A : St) : Option (Int64) :=
  if (A.1 (56 + w) 0) = 0 then
    gI x1 40 <|
    some (FP.d2l (A.2.1 (60 + w) x1.toNatClampNeg))
  else
    if (A.1 (56 + w) 0) = 1 then
      gI x1 40 <|
      g32 (FP.d2f (A.2.1 (60 + w) x1.toNatClampNeg)) fun v7 =>
      cl (f_X2_floatBits v7) fun r8 =>
      some r8.toInt64
    else
      gI x1 40 <|
      cl (f_X2_doubleBits (A.2.1 (60 + w) x1.toNatClampNeg)) fun r4 =>
      some r4
abbrev rm_X3_bitsAt : Room := { frames := 2, cells := 0, slots := 0, locals := 50 }
set_option maxHeartbeats 4000000 in
set_option maxRecDepth 100000 in
theorem b_X3_bitsAt {E : pfE} (X : CX cellsC E cX3_bitsAt RX3 rm_X3_bitsAt 2) (w : Nat) (x1 : Int32) (A : St) (hw : w < 4) {out : Int64} (hQ : Retl cellsC E cX3_bitsAt out A) (h : f_X3_bitsAt w x1 A = some out) : GG cellsC E A 0 [(0, .ref (fAd (eF E) (56 + w))), (1, .int x1)] [] := by
  unfold f_X3_bitsAt at h
  refine G_aload_n X dX3_bitsAt_0 rfl 0 rfl ?_
  refine G_getf X inX3 (56 + w) (eCf56 _ _ _ _ hw) rfl 0 (by decide) qw142 rfl dX3_bitsAt_1 ?_
  refine G_ifne X (tgt := 15) dX3_bitsAt_4 (by decide) (fun c1 => ?_) (fun c1 => ?_)
  · have h := if_t c1 h
    refine G_aload_n X dX3_bitsAt_7 rfl 0 rfl ?_
    refine G_getf X inX3 (56 + w) (eCf56 _ _ _ _ hw) rfl 2 (by decide) qw146 rfl dX3_bitsAt_8 ?_
    refine G_iload_n X dX3_bitsAt_11 rfl 1 rfl ?_
    have hi10 := gI_n h
    have h := gI_k h
    refine G_dald X (j := x1.toNatClampNeg) (60 + w) (eCf60 _ _ _ _ hw) hi10 rfl dX3_bitsAt_12 ?_
    refine G_d2l X dX3_bitsAt_13 ?_
    have e := so h
    subst e
    exact hQ _ _ dX3_bitsAt_14
  · have h := if_f c1 h
    refine G_aload_n X dX3_bitsAt_15 rfl 0 rfl ?_
    refine G_getf X inX3 (56 + w) (eCf56 _ _ _ _ hw) rfl 0 (by decide) qw142 rfl dX3_bitsAt_16 ?_
    refine G_iconst X (v := 1) dX3_bitsAt_19 rfl ?_
    refine G_icne X (tgt := 37) dX3_bitsAt_20 (by decide) (fun c2 => ?_) (fun c2 => ?_)
    · have h := if_t c2 h
      refine G_aload_n X dX3_bitsAt_23 rfl 0 rfl ?_
      refine G_getf X inX3 (56 + w) (eCf56 _ _ _ _ hw) rfl 2 (by decide) qw146 rfl dX3_bitsAt_24 ?_
      refine G_iload_n X dX3_bitsAt_27 rfl 1 rfl ?_
      have hi6 := gI_n h
      have h := gI_k h
      refine G_dald X (j := x1.toNatClampNeg) (60 + w) (eCf60 _ _ _ _ hw) hi6 rfl dX3_bitsAt_28 ?_
      have hv7 := g32_n h
      refine G_d2f X dX3_bitsAt_29 hv7 ?_
      refine G_topf (fun v7 ev7 => ?_)
      have h := g32_k ev7 h
      obtain ⟨r8, hz9, h⟩ := cl_k h
      refine G_callS_i X (As := [.float v7]) (rest := []) ok_X2_floatBits qw577 ⟨rfl, rfl, Nat.le_of_ble_eq_true rfl, Nat.le_of_ble_eq_true rfl⟩ (m_X2_floatBits X.d hz9) rfl rfl (Nat.le_of_ble_eq_true rfl) dX3_bitsAt_30 ?_
      refine G_i2l X dX3_bitsAt_33 rfl ?_
      refine G_goto X (tgt := 46) dX3_bitsAt_34 (by decide) ?_
      have e := so h
      subst e
      exact hQ _ _ dX3_bitsAt_46
    · have h := if_f c2 h
      refine G_aload_n X dX3_bitsAt_37 rfl 0 rfl ?_
      refine G_getf X inX3 (56 + w) (eCf56 _ _ _ _ hw) rfl 2 (by decide) qw146 rfl dX3_bitsAt_38 ?_
      refine G_iload_n X dX3_bitsAt_41 rfl 1 rfl ?_
      have hi3 := gI_n h
      have h := gI_k h
      refine G_dald X (j := x1.toNatClampNeg) (60 + w) (eCf60 _ _ _ _ hw) hi3 rfl dX3_bitsAt_42 ?_
      obtain ⟨r4, hz5, h⟩ := cl_k h
      refine G_callS_l X (As := [.double (A.2.1 (60 + w) x1.toNatClampNeg)]) (rest := []) ok_X2_doubleBits qw578 ⟨rfl, rfl, Nat.le_of_ble_eq_true rfl, Nat.le_of_ble_eq_true rfl⟩ (m_X2_doubleBits X.d hz5) rfl rfl (Nat.le_of_ble_eq_true rfl) dX3_bitsAt_43 ?_
      have e := so h
      subst e
      exact hQ _ _ dX3_bitsAt_46
theorem m_X3_bitsAt {l : Launch} {F : pfF} (hD : ∀ A, va_D (fA F) (cellsC (fAd F) (fCy F) A)) {w : Nat} {x1 : Int32} {A : St} (hw : w < 4) {out : Int64} (h : f_X3_bitsAt w x1 A = some out) : Mt l F cellsC yX3_bitsAt cX3_bitsAt 2 (some .long) rm_X3_bitsAt [.ref (fAd F (56 + w)), .int x1] A (va_Ql (fun (r : Int64) (u : St) => r = out ∧ u = A) (Wd cellsC F) (fA F)) := by
  refine Met_l (by decide +kernel) (Nat.le_of_ble_eq_true rfl) hD (fun E el ef X hQ => ?_)
  subst el
  subst ef
  exact b_X3_bitsAt X _ _ _ hw hQ h
theorem ok_X3_bitsAt : OkV yX3_bitsAt cX3_bitsAt 2 (some .long) 1 := ⟨qw574, qw575, qw5, qw576, by decide, by decide, by decide⟩
noncomputable def f_X5_item (x1 : Int32) (x2 : Int32) (A : St) : Option (Int64 × St) :=
  cl (f_X5_isSheet x1) fun r1 =>
  if (bI r1) = 0 then
    cl2 (f_X5_longFinding 0 A) fun r24 A26 =>
    some (r24, A26)
  else
    gI x1 4 <|
    cl (f_X3_isMissing x1.toNatClampNeg A) fun r6 =>
    if (bI r6) = 0 then
      gI x1 4 <|
      cl (f_X3_has x1.toNatClampNeg x2 A) fun r11 =>
      if (bI r11) = 0 then
        cl2 (f_X5_longFinding 0 A) fun r18 A20 =>
        some (r18, A20)
      else
        gI x1 4 <|
        cl (f_X3_bitsAt x1.toNatClampNeg x2 A) fun r16 =>
        some (r16, A)
    else
      cl2 (f_X5_longFinding 5 A) fun r21 A23 =>
      some (r21, A23)
abbrev rm_X5_item : Room := { frames := 3, cells := 0, slots := 0, locals := 71 }
set_option maxHeartbeats 4000000 in
set_option maxRecDepth 100000 in
theorem b_X5_item {E : pfE} (X : CX cellsC E cX5_item RX5 rm_X5_item 3) (x1 : Int32) (x2 : Int32) (A : St) {out : Int64 × St} (hQ : Retl cellsC E cX5_item out.1 out.2) (h : f_X5_item x1 x2 A = some out) : GG cellsC E A 0 [(0, .ref (fAd (eF E) 0)), (1, .int x1), (2, .int x2)] [] := by
  unfold f_X5_item at h
  refine G_iload_n X dX5_item_0 rfl 1 rfl ?_
  obtain ⟨r1, hz2, h⟩ := cl_k h
  refine G_callS_i X (As := [.int x1]) (rest := []) ok_X5_isSheet qw540 ⟨rfl, rfl, Nat.le_of_ble_eq_true rfl, Nat.le_of_ble_eq_true rfl⟩ (m_X5_isSheet X.d hz2) rfl rfl (Nat.le_of_ble_eq_true rfl) dX5_item_1 ?_
  refine G_ifne X (tgt := 13) dX5_item_4 (by decide) (fun c3 => ?_) (fun c3 => ?_)
  · have h := if_t c3 h
    refine G_aload_n X dX5_item_7 rfl 0 rfl ?_
    refine G_iconst X (v := 0) dX5_item_8 rfl ?_
    obtain ⟨r24, A26, hz25, h⟩ := cl2_k h
    refine G_callV_l X (As := [.int 0]) (rest := []) ok_X5_longFinding qw260 0 (eC0 _ _ _) rfl rfl ⟨rfl, rfl, Nat.le_of_ble_eq_true rfl, Nat.le_of_ble_eq_true rfl⟩ (m_X5_longFinding X.d hz25) rfl rfl (Nat.le_of_ble_eq_true rfl) dX5_item_9 ?_
    have e := so h
    subst e
    exact hQ _ _ dX5_item_12
  · have h := if_f c3 h
    refine G_aload_n X dX5_item_13 rfl 0 rfl ?_
    refine G_getf X inX5 0 (eC0 _ _ _) rfl 6 (by decide) qw161 rfl dX5_item_14 ?_
    refine G_iload_n X dX5_item_17 rfl 1 rfl ?_
    have hi4 := gI_n h
    have h := gI_k h
    have hw5 := vlt hi4
    refine G_aald X (t0 := 7) (b := fAd (eF E) (56 + x1.toNatClampNeg)) 55 (eC55 _ _ _) rfl rfl hi4 (if_pos hw5) dX5_item_18 ?_
    obtain ⟨r6, hz7, h⟩ := cl_k h
    refine G_callV_i X (As := []) (rest := []) ok_X3_isMissing qw551 (56 + x1.toNatClampNeg) (eCf56 _ _ _ _ hw5) rfl rfl ⟨rfl, rfl, Nat.le_of_ble_eq_true rfl, Nat.le_of_ble_eq_true rfl⟩ (m_X3_isMissing X.d hw5 hz7) rfl rfl (Nat.le_of_ble_eq_true rfl) dX5_item_19 ?_
    refine G_ifeq X (tgt := 31) dX5_item_22 (by decide) (fun c8 => ?_) (fun c8 => ?_)
    · have h := if_t c8 h
      refine G_aload_n X dX5_item_31 rfl 0 rfl ?_
      refine G_getf X inX5 0 (eC0 _ _ _) rfl 6 (by decide) qw161 rfl dX5_item_32 ?_
      refine G_iload_n X dX5_item_35 rfl 1 rfl ?_
      have hi9 := gI_n h
      have h := gI_k h
      have hw10 := vlt hi9
      refine G_aald X (t0 := 7) (b := fAd (eF E) (56 + x1.toNatClampNeg)) 55 (eC55 _ _ _) rfl rfl hi9 (if_pos hw10) dX5_item_36 ?_
      refine G_iload_n X dX5_item_37 rfl 2 rfl ?_
      obtain ⟨r11, hz12, h⟩ := cl_k h
      refine G_callV_i X (As := [.int x2]) (rest := []) ok_X3_has qw555 (56 + x1.toNatClampNeg) (eCf56 _ _ _ _ hw10) rfl rfl ⟨rfl, rfl, Nat.le_of_ble_eq_true rfl, Nat.le_of_ble_eq_true rfl⟩ (m_X3_has X.d hw10 hz12) rfl rfl (Nat.le_of_ble_eq_true rfl) dX5_item_38 ?_
      refine G_ifne X (tgt := 50) dX5_item_41 (by decide) (fun c13 => ?_) (fun c13 => ?_)
      · have h := if_t c13 h
        refine G_aload_n X dX5_item_44 rfl 0 rfl ?_
        refine G_iconst X (v := 0) dX5_item_45 rfl ?_
        obtain ⟨r18, A20, hz19, h⟩ := cl2_k h
        refine G_callV_l X (As := [.int 0]) (rest := []) ok_X5_longFinding qw260 0 (eC0 _ _ _) rfl rfl ⟨rfl, rfl, Nat.le_of_ble_eq_true rfl, Nat.le_of_ble_eq_true rfl⟩ (m_X5_longFinding X.d hz19) rfl rfl (Nat.le_of_ble_eq_true rfl) dX5_item_46 ?_
        have e := so h
        subst e
        exact hQ _ _ dX5_item_49
      · have h := if_f c13 h
        refine G_aload_n X dX5_item_50 rfl 0 rfl ?_
        refine G_getf X inX5 0 (eC0 _ _ _) rfl 6 (by decide) qw161 rfl dX5_item_51 ?_
        refine G_iload_n X dX5_item_54 rfl 1 rfl ?_
        have hi14 := gI_n h
        have h := gI_k h
        have hw15 := vlt hi14
        refine G_aald X (t0 := 7) (b := fAd (eF E) (56 + x1.toNatClampNeg)) 55 (eC55 _ _ _) rfl rfl hi14 (if_pos hw15) dX5_item_55 ?_
        refine G_iload_n X dX5_item_56 rfl 2 rfl ?_
        obtain ⟨r16, hz17, h⟩ := cl_k h
        refine G_callV_l X (As := [.int x2]) (rest := []) ok_X3_bitsAt qw573 (56 + x1.toNatClampNeg) (eCf56 _ _ _ _ hw15) rfl rfl ⟨rfl, rfl, Nat.le_of_ble_eq_true rfl, Nat.le_of_ble_eq_true rfl⟩ (m_X3_bitsAt X.d hw15 hz17) rfl rfl (Nat.le_of_ble_eq_true rfl) dX5_item_57 ?_
        have e := so h
        subst e
        exact hQ _ _ dX5_item_60
    · have h := if_f c8 h
      refine G_aload_n X dX5_item_25 rfl 0 rfl ?_
      refine G_iconst X (v := 5) dX5_item_26 rfl ?_
      obtain ⟨r21, A23, hz22, h⟩ := cl2_k h
      refine G_callV_l X (As := [.int 5]) (rest := []) ok_X5_longFinding qw260 0 (eC0 _ _ _) rfl rfl ⟨rfl, rfl, Nat.le_of_ble_eq_true rfl, Nat.le_of_ble_eq_true rfl⟩ (m_X5_longFinding X.d hz22) rfl rfl (Nat.le_of_ble_eq_true rfl) dX5_item_27 ?_
      have e := so h
      subst e
      exact hQ _ _ dX5_item_30
theorem m_X5_item {l : Launch} {F : pfF} (hD : ∀ A, va_D (fA F) (cellsC (fAd F) (fCy F) A)) {x1 : Int32} {x2 : Int32} {A : St} {out : Int64 × St} (h : f_X5_item x1 x2 A = some out) : Mt l F cellsC yX5_item cX5_item 3 (some .long) rm_X5_item [.ref (fAd F 0), .int x1, .int x2] A (va_Ql (fun (r : Int64) (u : St) => r = out.1 ∧ u = out.2) (Wd cellsC F) (fA F)) := by
  refine Met_l (by decide +kernel) (Nat.le_of_ble_eq_true rfl) hD (fun E el ef X hQ => ?_)
  subst el
  subst ef
  exact b_X5_item X _ _ _ hQ h
theorem ok_X5_item : OkV yX5_item cX5_item 3 (some .long) 2 := ⟨qw570, qw571, qw1, qw572, by decide, by decide, by decide⟩
noncomputable def f_X3_hasRun (w : Nat) (x1 : Int32) (x2 : Int32) (A : St) : Option (Bool) :=
  if x1 < 0 then
    some false
  else
    if x2 < 0 then
      some false
    else
      if (A.1 (56 + w) 1) < x1 then
        some false
      else
        if ((A.1 (56 + w) 1) - x1) < x2 then
          some false
        else
          some true
abbrev rm_X3_hasRun : Room := { frames := 0, cells := 0, slots := 0, locals := 0 }
set_option maxHeartbeats 4000000 in
set_option maxRecDepth 100000 in
theorem b_X3_hasRun {E : pfE} (X : CX cellsC E cX3_hasRun RX3 rm_X3_hasRun 3) (w : Nat) (x1 : Int32) (x2 : Int32) (A : St) (hw : w < 4) {out : Bool} (hQ : Reti cellsC E cX3_hasRun (bI out) A) (h : f_X3_hasRun w x1 x2 A = some out) : GG cellsC E A 0 [(0, .ref (fAd (eF E) (56 + w))), (1, .int x1), (2, .int x2)] [] := by
  unfold f_X3_hasRun at h
  refine G_iload_n X dX3_hasRun_0 rfl 1 rfl ?_
  refine G_iflt X (tgt := 30) dX3_hasRun_1 (by decide) (fun c1 => ?_) (fun c1 => ?_)
  · have h := if_t c1 h
    refine G_iconst X (v := 0) dX3_hasRun_30 rfl ?_
    have e := so h
    subst e
    exact hQ _ _ dX3_hasRun_31
  · have h := if_f c1 h
    refine G_iload_n X dX3_hasRun_4 rfl 2 rfl ?_
    refine G_iflt X (tgt := 30) dX3_hasRun_5 (by decide) (fun c2 => ?_) (fun c2 => ?_)
    · have h := if_t c2 h
      refine G_iconst X (v := 0) dX3_hasRun_30 rfl ?_
      have e := so h
      subst e
      exact hQ _ _ dX3_hasRun_31
    · have h := if_f c2 h
      refine G_iload_n X dX3_hasRun_8 rfl 1 rfl ?_
      refine G_aload_n X dX3_hasRun_9 rfl 0 rfl ?_
      refine G_getf X inX3 (56 + w) (eCf56 _ _ _ _ hw) rfl 1 (by decide) qw144 rfl dX3_hasRun_10 ?_
      refine G_icgt X (tgt := 30) dX3_hasRun_13 (by decide) (fun c3 => ?_) (fun c3 => ?_)
      · have h := if_t c3 h
        refine G_iconst X (v := 0) dX3_hasRun_30 rfl ?_
        have e := so h
        subst e
        exact hQ _ _ dX3_hasRun_31
      · have h := if_f c3 h
        refine G_iload_n X dX3_hasRun_16 rfl 2 rfl ?_
        refine G_aload_n X dX3_hasRun_17 rfl 0 rfl ?_
        refine G_getf X inX3 (56 + w) (eCf56 _ _ _ _ hw) rfl 1 (by decide) qw144 rfl dX3_hasRun_18 ?_
        refine G_iload_n X dX3_hasRun_21 rfl 1 rfl ?_
        refine G_isub X dX3_hasRun_22 ?_
        refine G_icgt X (tgt := 30) dX3_hasRun_23 (by decide) (fun c4 => ?_) (fun c4 => ?_)
        · have h := if_t c4 h
          refine G_iconst X (v := 0) dX3_hasRun_30 rfl ?_
          have e := so h
          subst e
          exact hQ _ _ dX3_hasRun_31
        · have h := if_f c4 h
          refine G_iconst X (v := 1) dX3_hasRun_26 rfl ?_
          refine G_goto X (tgt := 31) dX3_hasRun_27 (by decide) ?_
          have e := so h
          subst e
          exact hQ _ _ dX3_hasRun_31
theorem m_X3_hasRun {l : Launch} {F : pfF} (hD : ∀ A, va_D (fA F) (cellsC (fAd F) (fCy F) A)) {w : Nat} {x1 : Int32} {x2 : Int32} {A : St} (hw : w < 4) {out : Bool} (h : f_X3_hasRun w x1 x2 A = some out) : Mt l F cellsC yX3_hasRun cX3_hasRun 3 (some .boolean) rm_X3_hasRun [.ref (fAd F (56 + w)), .int x1, .int x2] A (va_Qi (fun (r : Int32) (u : St) => r = bI out ∧ u = A) (Wd cellsC F) (fA F)) := by
  refine Met_iz (by decide +kernel) (Nat.le_of_ble_eq_true rfl) hD (nar_bI _) (fun E el ef X hQ => ?_)
  subst el
  subst ef
  exact b_X3_hasRun X _ _ _ _ hw hQ h
theorem ok_X3_hasRun : OkV yX3_hasRun cX3_hasRun 3 (some .boolean) 2 := ⟨qw584, qw585, qw5, qw586, by decide, by decide, by decide⟩
noncomputable def f_X5_copy (x1 : Int32) (x2 : Int32) (x3 : Int32) (x4 : Int32) (x5 : Int32) (A : St) : Option (Int32 × St) :=
  cl (f_X5_isSheet x1) fun r1 =>
  if (bI r1) = 0 then
    cl2 (f_X5_finding 0 A) fun r4 A6 =>
    some (r4, A6)
  else
    cl (f_X5_isSheet x3) fun r7 =>
    if (bI r7) = 0 then
      cl2 (f_X5_finding 0 A) fun r56 A58 =>
      some (r56, A58)
    else
      gI x1 4 <|
      cl (f_X3_isMissing x1.toNatClampNeg A) fun r12 =>
      if (bI r12) = 0 then
        gI x3 4 <|
        cl (f_X3_isMissing x3.toNatClampNeg A) fun r20 =>
        if (bI r20) = 0 then
          gI x1 4 <|
          gI x3 4 <|
          if (A.1 (56 + x1.toNatClampNeg) 0) = (A.1 (56 + x3.toNatClampNeg) 0) then
            gI x1 4 <|
            cl (f_X3_hasRun x1.toNatClampNeg x2 x5 A) fun r30 =>
            if (bI r30) = 0 then
              cl2 (f_X5_finding 0 A) fun r33 A35 =>
              some (r33, A35)
            else
              gI x3 4 <|
              cl (f_X3_hasRun x3.toNatClampNeg x4 x5 A) fun r38 =>
              if (bI r38) = 0 then
                cl2 (f_X5_finding 0 A) fun r47 A49 =>
                some (r47, A49)
              else
                gI x1 4 <|
                gI x3 4 <|
                gB (decide (¬ x2 < 0 ∧ ¬ x4 < 0 ∧ ¬ x5 < 0 ∧ x2.toNatClampNeg + x5.toNatClampNeg ≤ 40 ∧ x4.toNatClampNeg + x5.toNatClampNeg ≤ 40)) <|
                bv (rwD A (60 + x3.toNatClampNeg) (va_cpy (A.2.1 (60 + x1.toNatClampNeg)) (A.2.1 (60 + x3.toNatClampNeg)) x2.toNatClampNeg x4.toNatClampNeg x5.toNatClampNeg)) fun A45 =>
                some (x5, A45)
          else
            cl2 (f_X5_finding 2 A) fun r50 A52 =>
            some (r50, A52)
        else
          cl2 (f_X5_finding 5 A) fun r53 A55 =>
          some (r53, A55)
      else
        cl2 (f_X5_finding 5 A) fun r15 A17 =>
        some (r15, A17)
abbrev rm_X5_copy : Room := { frames := 2, cells := 0, slots := 0, locals := 42 }
set_option maxHeartbeats 4000000 in
set_option maxRecDepth 100000 in
theorem b_X5_copy {E : pfE} (X : CX cellsC E cX5_copy RX5 rm_X5_copy 6) (x1 : Int32) (x2 : Int32) (x3 : Int32) (x4 : Int32) (x5 : Int32) (A : St) {out : Int32 × St} (hQ : Reti cellsC E cX5_copy out.1 out.2) (h : f_X5_copy x1 x2 x3 x4 x5 A = some out) : GG cellsC E A 0 [(0, .ref (fAd (eF E) 0)), (1, .int x1), (2, .int x2), (3, .int x3), (4, .int x4), (5, .int x5)] [] := by
  unfold f_X5_copy at h
  refine G_iload_n X dX5_copy_0 rfl 1 rfl ?_
  obtain ⟨r1, hz2, h⟩ := cl_k h
  refine G_callS_i X (As := [.int x1]) (rest := []) ok_X5_isSheet qw540 ⟨rfl, rfl, Nat.le_of_ble_eq_true rfl, Nat.le_of_ble_eq_true rfl⟩ (m_X5_isSheet X.d hz2) rfl rfl (Nat.le_of_ble_eq_true rfl) dX5_copy_1 ?_
  refine G_ifeq X (tgt := 14) dX5_copy_4 (by decide) (fun c3 => ?_) (fun c3 => ?_)
  · have h := if_t c3 h
    refine G_aload_n X dX5_copy_14 rfl 0 rfl ?_
    refine G_iconst X (v := 0) dX5_copy_15 rfl ?_
    obtain ⟨r4, A6, hz5, h⟩ := cl2_k h
    refine G_callV_i X (As := [.int 0]) (rest := []) ok_X5_finding qw191 0 (eC0 _ _ _) rfl rfl ⟨rfl, rfl, Nat.le_of_ble_eq_true rfl, Nat.le_of_ble_eq_true rfl⟩ (m_X5_finding X.d hz5) rfl rfl (Nat.le_of_ble_eq_true rfl) dX5_copy_16 ?_
    have e := so h
    subst e
    exact hQ _ _ dX5_copy_19
  · have h := if_f c3 h
    refine G_iload_n X dX5_copy_7 rfl 3 rfl ?_
    obtain ⟨r7, hz8, h⟩ := cl_k h
    refine G_callS_i X (As := [.int x3]) (rest := []) ok_X5_isSheet qw540 ⟨rfl, rfl, Nat.le_of_ble_eq_true rfl, Nat.le_of_ble_eq_true rfl⟩ (m_X5_isSheet X.d hz8) rfl rfl (Nat.le_of_ble_eq_true rfl) dX5_copy_8 ?_
    refine G_ifne X (tgt := 20) dX5_copy_11 (by decide) (fun c9 => ?_) (fun c9 => ?_)
    · have h := if_t c9 h
      refine G_aload_n X dX5_copy_14 rfl 0 rfl ?_
      refine G_iconst X (v := 0) dX5_copy_15 rfl ?_
      obtain ⟨r56, A58, hz57, h⟩ := cl2_k h
      refine G_callV_i X (As := [.int 0]) (rest := []) ok_X5_finding qw191 0 (eC0 _ _ _) rfl rfl ⟨rfl, rfl, Nat.le_of_ble_eq_true rfl, Nat.le_of_ble_eq_true rfl⟩ (m_X5_finding X.d hz57) rfl rfl (Nat.le_of_ble_eq_true rfl) dX5_copy_16 ?_
      have e := so h
      subst e
      exact hQ _ _ dX5_copy_19
    · have h := if_f c9 h
      refine G_aload_n X dX5_copy_20 rfl 0 rfl ?_
      refine G_getf X inX5 0 (eC0 _ _ _) rfl 6 (by decide) qw161 rfl dX5_copy_21 ?_
      refine G_iload_n X dX5_copy_24 rfl 1 rfl ?_
      have hi10 := gI_n h
      have h := gI_k h
      have hw11 := vlt hi10
      refine G_aald X (t0 := 7) (b := fAd (eF E) (56 + x1.toNatClampNeg)) 55 (eC55 _ _ _) rfl rfl hi10 (if_pos hw11) dX5_copy_25 ?_
      obtain ⟨r12, hz13, h⟩ := cl_k h
      refine G_callV_i X (As := []) (rest := []) ok_X3_isMissing qw551 (56 + x1.toNatClampNeg) (eCf56 _ _ _ _ hw11) rfl rfl ⟨rfl, rfl, Nat.le_of_ble_eq_true rfl, Nat.le_of_ble_eq_true rfl⟩ (m_X3_isMissing X.d hw11 hz13) rfl rfl (Nat.le_of_ble_eq_true rfl) dX5_copy_26 ?_
      refine G_ifne X (tgt := 44) dX5_copy_29 (by decide) (fun c14 => ?_) (fun c14 => ?_)
      · have h := if_t c14 h
        refine G_aload_n X dX5_copy_32 rfl 0 rfl ?_
        refine G_getf X inX5 0 (eC0 _ _ _) rfl 6 (by decide) qw161 rfl dX5_copy_33 ?_
        refine G_iload_n X dX5_copy_36 rfl 3 rfl ?_
        have hi18 := gI_n h
        have h := gI_k h
        have hw19 := vlt hi18
        refine G_aald X (t0 := 7) (b := fAd (eF E) (56 + x3.toNatClampNeg)) 55 (eC55 _ _ _) rfl rfl hi18 (if_pos hw19) dX5_copy_37 ?_
        obtain ⟨r20, hz21, h⟩ := cl_k h
        refine G_callV_i X (As := []) (rest := []) ok_X3_isMissing qw551 (56 + x3.toNatClampNeg) (eCf56 _ _ _ _ hw19) rfl rfl ⟨rfl, rfl, Nat.le_of_ble_eq_true rfl, Nat.le_of_ble_eq_true rfl⟩ (m_X3_isMissing X.d hw19 hz21) rfl rfl (Nat.le_of_ble_eq_true rfl) dX5_copy_38 ?_
        refine G_ifeq X (tgt := 50) dX5_copy_41 (by decide) (fun c22 => ?_) (fun c22 => ?_)
        · have h := if_t c22 h
          refine G_aload_n X dX5_copy_50 rfl 0 rfl ?_
          refine G_getf X inX5 0 (eC0 _ _ _) rfl 6 (by decide) qw161 rfl dX5_copy_51 ?_
          refine G_iload_n X dX5_copy_54 rfl 1 rfl ?_
          have hi23 := gI_n h
          have h := gI_k h
          have hw24 := vlt hi23
          refine G_aald X (t0 := 7) (b := fAd (eF E) (56 + x1.toNatClampNeg)) 55 (eC55 _ _ _) rfl rfl hi23 (if_pos hw24) dX5_copy_55 ?_
          refine G_getf X inX3 (56 + x1.toNatClampNeg) (eCf56 _ _ _ _ hw24) rfl 0 (by decide) qw143 rfl dX5_copy_56 ?_
          refine G_aload_n X dX5_copy_59 rfl 0 rfl ?_
          refine G_getf X inX5 0 (eC0 _ _ _) rfl 6 (by decide) qw161 rfl dX5_copy_60 ?_
          refine G_iload_n X dX5_copy_63 rfl 3 rfl ?_
          have hi25 := gI_n h
          have h := gI_k h
          have hw26 := vlt hi25
          refine G_aald X (t0 := 7) (b := fAd (eF E) (56 + x3.toNatClampNeg)) 55 (eC55 _ _ _) rfl rfl hi25 (if_pos hw26) dX5_copy_64 ?_
          refine G_getf X inX3 (56 + x3.toNatClampNeg) (eCf56 _ _ _ _ hw26) rfl 0 (by decide) qw143 rfl dX5_copy_65 ?_
          refine G_iceq X (tgt := 77) dX5_copy_68 (by decide) (fun c27 => ?_) (fun c27 => ?_)
          · have h := if_t c27 h
            refine G_aload_n X dX5_copy_77 rfl 0 rfl ?_
            refine G_getf X inX5 0 (eC0 _ _ _) rfl 6 (by decide) qw161 rfl dX5_copy_78 ?_
            refine G_iload_n X dX5_copy_81 rfl 1 rfl ?_
            have hi28 := gI_n h
            have h := gI_k h
            have hw29 := vlt hi28
            refine G_aald X (t0 := 7) (b := fAd (eF E) (56 + x1.toNatClampNeg)) 55 (eC55 _ _ _) rfl rfl hi28 (if_pos hw29) dX5_copy_82 ?_
            refine G_iload_n X dX5_copy_83 rfl 2 rfl ?_
            refine G_iload X dX5_copy_84 5 rfl ?_
            obtain ⟨r30, hz31, h⟩ := cl_k h
            refine G_callV_i X (As := [.int x2, .int x5]) (rest := []) ok_X3_hasRun qw583 (56 + x1.toNatClampNeg) (eCf56 _ _ _ _ hw29) rfl rfl ⟨rfl, rfl, Nat.le_of_ble_eq_true rfl, Nat.le_of_ble_eq_true rfl⟩ (m_X3_hasRun X.d hw29 hz31) rfl rfl (Nat.le_of_ble_eq_true rfl) dX5_copy_86 ?_
            refine G_ifeq X (tgt := 108) dX5_copy_89 (by decide) (fun c32 => ?_) (fun c32 => ?_)
            · have h := if_t c32 h
              refine G_aload_n X dX5_copy_108 rfl 0 rfl ?_
              refine G_iconst X (v := 0) dX5_copy_109 rfl ?_
              obtain ⟨r33, A35, hz34, h⟩ := cl2_k h
              refine G_callV_i X (As := [.int 0]) (rest := []) ok_X5_finding qw191 0 (eC0 _ _ _) rfl rfl ⟨rfl, rfl, Nat.le_of_ble_eq_true rfl, Nat.le_of_ble_eq_true rfl⟩ (m_X5_finding X.d hz34) rfl rfl (Nat.le_of_ble_eq_true rfl) dX5_copy_110 ?_
              have e := so h
              subst e
              exact hQ _ _ dX5_copy_113
            · have h := if_f c32 h
              refine G_aload_n X dX5_copy_92 rfl 0 rfl ?_
              refine G_getf X inX5 0 (eC0 _ _ _) rfl 6 (by decide) qw161 rfl dX5_copy_93 ?_
              refine G_iload_n X dX5_copy_96 rfl 3 rfl ?_
              have hi36 := gI_n h
              have h := gI_k h
              have hw37 := vlt hi36
              refine G_aald X (t0 := 7) (b := fAd (eF E) (56 + x3.toNatClampNeg)) 55 (eC55 _ _ _) rfl rfl hi36 (if_pos hw37) dX5_copy_97 ?_
              refine G_iload X dX5_copy_98 4 rfl ?_
              refine G_iload X dX5_copy_100 5 rfl ?_
              obtain ⟨r38, hz39, h⟩ := cl_k h
              refine G_callV_i X (As := [.int x4, .int x5]) (rest := []) ok_X3_hasRun qw583 (56 + x3.toNatClampNeg) (eCf56 _ _ _ _ hw37) rfl rfl ⟨rfl, rfl, Nat.le_of_ble_eq_true rfl, Nat.le_of_ble_eq_true rfl⟩ (m_X3_hasRun X.d hw37 hz39) rfl rfl (Nat.le_of_ble_eq_true rfl) dX5_copy_102 ?_
              refine G_ifne X (tgt := 114) dX5_copy_105 (by decide) (fun c40 => ?_) (fun c40 => ?_)
              · have h := if_t c40 h
                refine G_aload_n X dX5_copy_108 rfl 0 rfl ?_
                refine G_iconst X (v := 0) dX5_copy_109 rfl ?_
                obtain ⟨r47, A49, hz48, h⟩ := cl2_k h
                refine G_callV_i X (As := [.int 0]) (rest := []) ok_X5_finding qw191 0 (eC0 _ _ _) rfl rfl ⟨rfl, rfl, Nat.le_of_ble_eq_true rfl, Nat.le_of_ble_eq_true rfl⟩ (m_X5_finding X.d hz48) rfl rfl (Nat.le_of_ble_eq_true rfl) dX5_copy_110 ?_
                have e := so h
                subst e
                exact hQ _ _ dX5_copy_113
              · have h := if_f c40 h
                refine G_aload_n X dX5_copy_114 rfl 0 rfl ?_
                refine G_getf X inX5 0 (eC0 _ _ _) rfl 6 (by decide) qw161 rfl dX5_copy_115 ?_
                refine G_iload_n X dX5_copy_118 rfl 1 rfl ?_
                have hi41 := gI_n h
                have h := gI_k h
                have hw42 := vlt hi41
                refine G_aald X (t0 := 7) (b := fAd (eF E) (56 + x1.toNatClampNeg)) 55 (eC55 _ _ _) rfl rfl hi41 (if_pos hw42) dX5_copy_119 ?_
                refine G_getf X inX3 (56 + x1.toNatClampNeg) (eCf56 _ _ _ _ hw42) rfl 2 (by decide) qw147 rfl dX5_copy_120 ?_
                refine G_iload_n X dX5_copy_123 rfl 2 rfl ?_
                refine G_aload_n X dX5_copy_124 rfl 0 rfl ?_
                refine G_getf X inX5 0 (eC0 _ _ _) rfl 6 (by decide) qw161 rfl dX5_copy_125 ?_
                refine G_iload_n X dX5_copy_128 rfl 3 rfl ?_
                have hi43 := gI_n h
                have h := gI_k h
                have hw44 := vlt hi43
                refine G_aald X (t0 := 7) (b := fAd (eF E) (56 + x3.toNatClampNeg)) 55 (eC55 _ _ _) rfl rfl hi43 (if_pos hw44) dX5_copy_129 ?_
                refine G_getf X inX3 (56 + x3.toNatClampNeg) (eCf56 _ _ _ _ hw44) rfl 2 (by decide) qw147 rfl dX5_copy_130 ?_
                refine G_iload X dX5_copy_133 4 rfl ?_
                refine G_iload X dX5_copy_135 5 rfl ?_
                have hg46 := of_decide_eq_true (gB_n h)
                have h := gB_k h
                refine G_copyd X (sp := x2) (dp := x4) (n := x5) qw587 qw589 qw588 qw12 (60 + x1.toNatClampNeg) (60 + x3.toNatClampNeg) (eCf60 _ _ _ _ hw42) (eCf60 _ _ _ _ hw44) (wCD _ _ _ _ _ _ (fun _ => fC60 _ _ _ _ hw44)) hg46.1 hg46.2.1 hg46.2.2.1 hg46.2.2.2.1 hg46.2.2.2.2 (Nat.le_of_ble_eq_true rfl) (Nat.le_of_ble_eq_true rfl) dX5_copy_137 ?_
                refine G_topS (fun A45 eA45 => ?_)
                have h := bv_k eA45 h
                refine G_iload X dX5_copy_140 5 rfl ?_
                have e := so h
                subst e
                exact hQ _ _ dX5_copy_142
          · have h := if_f c27 h
            refine G_aload_n X dX5_copy_71 rfl 0 rfl ?_
            refine G_iconst X (v := 2) dX5_copy_72 rfl ?_
            obtain ⟨r50, A52, hz51, h⟩ := cl2_k h
            refine G_callV_i X (As := [.int 2]) (rest := []) ok_X5_finding qw191 0 (eC0 _ _ _) rfl rfl ⟨rfl, rfl, Nat.le_of_ble_eq_true rfl, Nat.le_of_ble_eq_true rfl⟩ (m_X5_finding X.d hz51) rfl rfl (Nat.le_of_ble_eq_true rfl) dX5_copy_73 ?_
            have e := so h
            subst e
            exact hQ _ _ dX5_copy_76
        · have h := if_f c22 h
          refine G_aload_n X dX5_copy_44 rfl 0 rfl ?_
          refine G_iconst X (v := 5) dX5_copy_45 rfl ?_
          obtain ⟨r53, A55, hz54, h⟩ := cl2_k h
          refine G_callV_i X (As := [.int 5]) (rest := []) ok_X5_finding qw191 0 (eC0 _ _ _) rfl rfl ⟨rfl, rfl, Nat.le_of_ble_eq_true rfl, Nat.le_of_ble_eq_true rfl⟩ (m_X5_finding X.d hz54) rfl rfl (Nat.le_of_ble_eq_true rfl) dX5_copy_46 ?_
          have e := so h
          subst e
          exact hQ _ _ dX5_copy_49
      · have h := if_f c14 h
        refine G_aload_n X dX5_copy_44 rfl 0 rfl ?_
        refine G_iconst X (v := 5) dX5_copy_45 rfl ?_
        obtain ⟨r15, A17, hz16, h⟩ := cl2_k h
        refine G_callV_i X (As := [.int 5]) (rest := []) ok_X5_finding qw191 0 (eC0 _ _ _) rfl rfl ⟨rfl, rfl, Nat.le_of_ble_eq_true rfl, Nat.le_of_ble_eq_true rfl⟩ (m_X5_finding X.d hz16) rfl rfl (Nat.le_of_ble_eq_true rfl) dX5_copy_46 ?_
        have e := so h
        subst e
        exact hQ _ _ dX5_copy_49
theorem m_X5_copy {l : Launch} {F : pfF} (hD : ∀ A, va_D (fA F) (cellsC (fAd F) (fCy F) A)) {x1 : Int32} {x2 : Int32} {x3 : Int32} {x4 : Int32} {x5 : Int32} {A : St} {out : Int32 × St} (h : f_X5_copy x1 x2 x3 x4 x5 A = some out) : Mt l F cellsC yX5_copy cX5_copy 6 (some .int) rm_X5_copy [.ref (fAd F 0), .int x1, .int x2, .int x3, .int x4, .int x5] A (va_Qi (fun (r : Int32) (u : St) => r = out.1 ∧ u = out.2) (Wd cellsC F) (fA F)) := by
  refine Met_i (by decide +kernel) (Nat.le_of_ble_eq_true rfl) hD (fun E el ef X hQ => ?_)
  subst el
  subst ef
  exact b_X5_copy X _ _ _ _ _ _ hQ h
theorem ok_X5_copy : OkV yX5_copy cX5_copy 6 (some .int) 5 := ⟨qw580, qw581, qw1, qw582, by decide, by decide, by decide⟩
noncomputable def f_J9_min_7cf53 (x0 : Int32) (x1 : Int32) : Option (Int32) :=
  if x1 < x0 then
    some x1
  else
    some x0
abbrev rm_J9_min_7cf53 : Room := { frames := 0, cells := 0, slots := 0, locals := 0 }
set_option maxHeartbeats 4000000 in
set_option maxRecDepth 100000 in
theorem b_J9_min_7cf53 {wl : pfW} {E : pfE} (X : CX wl E cJ9_min_7cf53 RJ9 rm_J9_min_7cf53 2) (x0 : Int32) (x1 : Int32) {A : St} {out : Int32} (hQ : Reti wl E cJ9_min_7cf53 out A) (h : f_J9_min_7cf53 x0 x1 = some out) : GG wl E A 0 [(0, .int x0), (1, .int x1)] [] := by
  unfold f_J9_min_7cf53 at h
  refine G_iload_n X dJ9_min_7cf53_0 rfl 0 rfl ?_
  refine G_iload_n X dJ9_min_7cf53_1 rfl 1 rfl ?_
  refine G_icgt X (tgt := 9) dJ9_min_7cf53_2 (by decide) (fun c1 => ?_) (fun c1 => ?_)
  · have h := if_t c1 h
    refine G_iload_n X dJ9_min_7cf53_9 rfl 1 rfl ?_
    have e := so h
    subst e
    exact hQ _ _ dJ9_min_7cf53_10
  · have h := if_f c1 h
    refine G_iload_n X dJ9_min_7cf53_5 rfl 0 rfl ?_
    refine G_goto X (tgt := 10) dJ9_min_7cf53_6 (by decide) ?_
    have e := so h
    subst e
    exact hQ _ _ dJ9_min_7cf53_10
theorem m_J9_min_7cf53 {wl : pfW} {l : Launch} {F : pfF} (hD : ∀ A, va_D (fA F) (wl (fAd F) (fCy F) A)) {x0 : Int32} {x1 : Int32} {A : St} {out : Int32} (h : f_J9_min_7cf53 x0 x1 = some out) : Mt l F wl yJ9_min_7cf53 cJ9_min_7cf53 2 (some .int) rm_J9_min_7cf53 [.int x0, .int x1] A (va_Qi (fun (r : Int32) (u : St) => r = out ∧ u = A) (Wd wl F) (fA F)) := by
  refine Met_i (by decide +kernel) (Nat.le_of_ble_eq_true rfl) hD (fun E el ef X hQ => ?_)
  subst el
  subst ef
  exact b_J9_min_7cf53 X _ _ hQ h
theorem ok_J9_min_7cf53 : OkS yJ9_min_7cf53 cJ9_min_7cf53 2 (some .int) 2 := ⟨qw595, qw9, qw596, by decide, by decide, by decide⟩
noncomputable def f_X5_casts_L75 (l1 : Int32) (l2 : Int32) (l3 : Int32) (l4 : Int32) (A : St) : Option ((Int32 × St) ⊕ (St)) :=
  if l3 ≤ l4 then
    some (.inr A)
  else
    gI l2 4 <|
    gI l1 4 <|
    gI l4 40 <|
    cl (f_X3_put l2.toNatClampNeg l4 (A.2.1 (60 + l1.toNatClampNeg) l4.toNatClampNeg) A) fun A37 =>
    bv (l4 + 1) fun v38 =>
    some (.inl (v38, A37))
noncomputable def f_X5_casts_X110 (A : St) (m3 : Int32) : Option (Int32 × St) :=
  some (m3, A)
noncomputable def f_X5_casts (x1 : Int32) (x2 : Int32) (A : St) : Option (Int32 × St) :=
  cl (f_X5_isSheet x1) fun r1 =>
  if (bI r1) = 0 then
    cl2 (f_X5_finding 0 A) fun r4 A6 =>
    some (r4, A6)
  else
    cl (f_X5_isSheet x2) fun r7 =>
    if (bI r7) = 0 then
      cl2 (f_X5_finding 0 A) fun r43 A45 =>
      some (r43, A45)
    else
      gI x1 4 <|
      cl (f_X3_isMissing x1.toNatClampNeg A) fun r12 =>
      if (bI r12) = 0 then
        gI x2 4 <|
        cl (f_X3_isMissing x2.toNatClampNeg A) fun r20 =>
        if (bI r20) = 0 then
          gI x1 4 <|
          gI x2 4 <|
          cl (f_J9_min_7cf53 (A.1 (56 + x1.toNatClampNeg) 1) (A.1 (56 + x2.toNatClampNeg) 1)) fun r27 =>
          cl (loop (fun s => f_X5_casts_L75 x1 x2 r27 s.1 s.2) (0, A)) (fun s => f_X5_casts_X110 s r27)
        else
          cl2 (f_X5_finding 5 A) fun r40 A42 =>
          some (r40, A42)
      else
        cl2 (f_X5_finding 5 A) fun r15 A17 =>
        some (r15, A17)
abbrev rm_X5_casts : Room := { frames := 2, cells := 0, slots := 0, locals := 42 }
set_option maxHeartbeats 4000000 in
set_option maxRecDepth 100000 in
theorem g_X5_casts_L75 {E : pfE} (X : CX cellsC E cX5_casts RX5 rm_X5_casts 5) (l1 : Int32) (l2 : Int32) (l3 : Int32) : ∀ (n : Nat) (l4 : Int32) (A : St) (ρ : St), lp (fun s => f_X5_casts_L75 l1 l2 l3 s.1 s.2) n (l4, A) = some ρ → (∀ (B : St), ρ = B → GG cellsC E B 110 [(3, .int l3)] []) → GG cellsC E A 75 [(0, .ref (fAd (eF E) 0)), (1, .int l1), (2, .int l2), (3, .int l3), (4, .int l4)] [] := by
  intro n
  induction n with
  | zero =>
    intro l4 A ρ h
    cases h
  | succ n ih =>
    intro l4 A ρ h0 K
    obtain ⟨x, hb, hx⟩ := lp_step h0
    have h : f_X5_casts_L75 l1 l2 l3 l4 A = some x := hb
    unfold f_X5_casts_L75 at h
    clear hb h0
    refine G_iload X dX5_casts_75 4 rfl ?_
    refine G_iload_n X dX5_casts_77 rfl 3 rfl ?_
    refine G_icge X (tgt := 110) dX5_casts_78 (by decide) (fun c29 => ?_) (fun c29 => ?_)
    · have h := if_t c29 h
      exact G_sub [3] rfl (K _ (lpr (so h) hx).symm)
    · have h := if_f c29 h
      refine G_aload_n X dX5_casts_81 rfl 0 rfl ?_
      refine G_getf X inX5 0 (eC0 _ _ _) rfl 6 (by decide) qw161 rfl dX5_casts_82 ?_
      refine G_iload_n X dX5_casts_85 rfl 2 rfl ?_
      have hi30 := gI_n h
      have h := gI_k h
      have hw31 := vlt hi30
      refine G_aald X (t0 := 7) (b := fAd (eF E) (56 + l2.toNatClampNeg)) 55 (eC55 _ _ _) rfl rfl hi30 (if_pos hw31) dX5_casts_86 ?_
      refine G_iload X dX5_casts_87 4 rfl ?_
      refine G_aload_n X dX5_casts_89 rfl 0 rfl ?_
      refine G_getf X inX5 0 (eC0 _ _ _) rfl 6 (by decide) qw161 rfl dX5_casts_90 ?_
      refine G_iload_n X dX5_casts_93 rfl 1 rfl ?_
      have hi32 := gI_n h
      have h := gI_k h
      have hw33 := vlt hi32
      refine G_aald X (t0 := 7) (b := fAd (eF E) (56 + l1.toNatClampNeg)) 55 (eC55 _ _ _) rfl rfl hi32 (if_pos hw33) dX5_casts_94 ?_
      refine G_getf X inX3 (56 + l1.toNatClampNeg) (eCf56 _ _ _ _ hw33) rfl 2 (by decide) qw147 rfl dX5_casts_95 ?_
      refine G_iload X dX5_casts_98 4 rfl ?_
      have hi34 := gI_n h
      have h := gI_k h
      refine G_dald X (j := l4.toNatClampNeg) (60 + l1.toNatClampNeg) (eCf60 _ _ _ _ hw33) hi34 rfl dX5_casts_100 ?_
      obtain ⟨A37, hz36, h⟩ := cl_k h
      refine G_callV_v X (As := [.int l4, .double (A.2.1 (60 + l1.toNatClampNeg) l4.toNatClampNeg)]) (rest := []) ok_X3_put qw565 (56 + l2.toNatClampNeg) (eCf56 _ _ _ _ hw31) rfl rfl ⟨rfl, rfl, Nat.le_of_ble_eq_true rfl, Nat.le_of_ble_eq_true rfl⟩ (m_X3_put X.d hw31 hz36) rfl rfl (Nat.le_of_ble_eq_true rfl) dX5_casts_101 ?_
      obtain ⟨v38, ev38⟩ : ∃ y : Int32, y = l4 + 1 := ⟨_, rfl⟩
      have h := bv_k ev38 h
      refine G_iinc X (q := 4) (v := v38) (lv2 := [(4, .int v38), (0, .ref (fAd (eF E) 0)), (1, .int l1), (2, .int l2), (3, .int l3)]) dX5_casts_104 rfl (by rw [ev38]; rfl) (by decide) rfl ?_
      refine G_goto X (tgt := 75) dX5_casts_107 (by decide) ?_
      exact G_sub [1, 2, 3, 4, 0] rfl (ih _ _ _ (lpl (so h) hx) K)
set_option maxHeartbeats 4000000 in
set_option maxRecDepth 100000 in
theorem b_X5_casts {E : pfE} (X : CX cellsC E cX5_casts RX5 rm_X5_casts 5) (x1 : Int32) (x2 : Int32) (A : St) {out : Int32 × St} (hQ : Reti cellsC E cX5_casts out.1 out.2) (h : f_X5_casts x1 x2 A = some out) : GG cellsC E A 0 [(0, .ref (fAd (eF E) 0)), (1, .int x1), (2, .int x2)] [] := by
  unfold f_X5_casts at h
  refine G_iload_n X dX5_casts_0 rfl 1 rfl ?_
  obtain ⟨r1, hz2, h⟩ := cl_k h
  refine G_callS_i X (As := [.int x1]) (rest := []) ok_X5_isSheet qw540 ⟨rfl, rfl, Nat.le_of_ble_eq_true rfl, Nat.le_of_ble_eq_true rfl⟩ (m_X5_isSheet X.d hz2) rfl rfl (Nat.le_of_ble_eq_true rfl) dX5_casts_1 ?_
  refine G_ifeq X (tgt := 14) dX5_casts_4 (by decide) (fun c3 => ?_) (fun c3 => ?_)
  · have h := if_t c3 h
    refine G_aload_n X dX5_casts_14 rfl 0 rfl ?_
    refine G_iconst X (v := 0) dX5_casts_15 rfl ?_
    obtain ⟨r4, A6, hz5, h⟩ := cl2_k h
    refine G_callV_i X (As := [.int 0]) (rest := []) ok_X5_finding qw191 0 (eC0 _ _ _) rfl rfl ⟨rfl, rfl, Nat.le_of_ble_eq_true rfl, Nat.le_of_ble_eq_true rfl⟩ (m_X5_finding X.d hz5) rfl rfl (Nat.le_of_ble_eq_true rfl) dX5_casts_16 ?_
    have e := so h
    subst e
    exact hQ _ _ dX5_casts_19
  · have h := if_f c3 h
    refine G_iload_n X dX5_casts_7 rfl 2 rfl ?_
    obtain ⟨r7, hz8, h⟩ := cl_k h
    refine G_callS_i X (As := [.int x2]) (rest := []) ok_X5_isSheet qw540 ⟨rfl, rfl, Nat.le_of_ble_eq_true rfl, Nat.le_of_ble_eq_true rfl⟩ (m_X5_isSheet X.d hz8) rfl rfl (Nat.le_of_ble_eq_true rfl) dX5_casts_8 ?_
    refine G_ifne X (tgt := 20) dX5_casts_11 (by decide) (fun c9 => ?_) (fun c9 => ?_)
    · have h := if_t c9 h
      refine G_aload_n X dX5_casts_14 rfl 0 rfl ?_
      refine G_iconst X (v := 0) dX5_casts_15 rfl ?_
      obtain ⟨r43, A45, hz44, h⟩ := cl2_k h
      refine G_callV_i X (As := [.int 0]) (rest := []) ok_X5_finding qw191 0 (eC0 _ _ _) rfl rfl ⟨rfl, rfl, Nat.le_of_ble_eq_true rfl, Nat.le_of_ble_eq_true rfl⟩ (m_X5_finding X.d hz44) rfl rfl (Nat.le_of_ble_eq_true rfl) dX5_casts_16 ?_
      have e := so h
      subst e
      exact hQ _ _ dX5_casts_19
    · have h := if_f c9 h
      refine G_aload_n X dX5_casts_20 rfl 0 rfl ?_
      refine G_getf X inX5 0 (eC0 _ _ _) rfl 6 (by decide) qw161 rfl dX5_casts_21 ?_
      refine G_iload_n X dX5_casts_24 rfl 1 rfl ?_
      have hi10 := gI_n h
      have h := gI_k h
      have hw11 := vlt hi10
      refine G_aald X (t0 := 7) (b := fAd (eF E) (56 + x1.toNatClampNeg)) 55 (eC55 _ _ _) rfl rfl hi10 (if_pos hw11) dX5_casts_25 ?_
      obtain ⟨r12, hz13, h⟩ := cl_k h
      refine G_callV_i X (As := []) (rest := []) ok_X3_isMissing qw551 (56 + x1.toNatClampNeg) (eCf56 _ _ _ _ hw11) rfl rfl ⟨rfl, rfl, Nat.le_of_ble_eq_true rfl, Nat.le_of_ble_eq_true rfl⟩ (m_X3_isMissing X.d hw11 hz13) rfl rfl (Nat.le_of_ble_eq_true rfl) dX5_casts_26 ?_
      refine G_ifne X (tgt := 44) dX5_casts_29 (by decide) (fun c14 => ?_) (fun c14 => ?_)
      · have h := if_t c14 h
        refine G_aload_n X dX5_casts_32 rfl 0 rfl ?_
        refine G_getf X inX5 0 (eC0 _ _ _) rfl 6 (by decide) qw161 rfl dX5_casts_33 ?_
        refine G_iload_n X dX5_casts_36 rfl 2 rfl ?_
        have hi18 := gI_n h
        have h := gI_k h
        have hw19 := vlt hi18
        refine G_aald X (t0 := 7) (b := fAd (eF E) (56 + x2.toNatClampNeg)) 55 (eC55 _ _ _) rfl rfl hi18 (if_pos hw19) dX5_casts_37 ?_
        obtain ⟨r20, hz21, h⟩ := cl_k h
        refine G_callV_i X (As := []) (rest := []) ok_X3_isMissing qw551 (56 + x2.toNatClampNeg) (eCf56 _ _ _ _ hw19) rfl rfl ⟨rfl, rfl, Nat.le_of_ble_eq_true rfl, Nat.le_of_ble_eq_true rfl⟩ (m_X3_isMissing X.d hw19 hz21) rfl rfl (Nat.le_of_ble_eq_true rfl) dX5_casts_38 ?_
        refine G_ifeq X (tgt := 50) dX5_casts_41 (by decide) (fun c22 => ?_) (fun c22 => ?_)
        · have h := if_t c22 h
          refine G_aload_n X dX5_casts_50 rfl 0 rfl ?_
          refine G_getf X inX5 0 (eC0 _ _ _) rfl 6 (by decide) qw161 rfl dX5_casts_51 ?_
          refine G_iload_n X dX5_casts_54 rfl 1 rfl ?_
          have hi23 := gI_n h
          have h := gI_k h
          have hw24 := vlt hi23
          refine G_aald X (t0 := 7) (b := fAd (eF E) (56 + x1.toNatClampNeg)) 55 (eC55 _ _ _) rfl rfl hi23 (if_pos hw24) dX5_casts_55 ?_
          refine G_getf X inX3 (56 + x1.toNatClampNeg) (eCf56 _ _ _ _ hw24) rfl 1 (by decide) qw145 rfl dX5_casts_56 ?_
          refine G_aload_n X dX5_casts_59 rfl 0 rfl ?_
          refine G_getf X inX5 0 (eC0 _ _ _) rfl 6 (by decide) qw161 rfl dX5_casts_60 ?_
          refine G_iload_n X dX5_casts_63 rfl 2 rfl ?_
          have hi25 := gI_n h
          have h := gI_k h
          have hw26 := vlt hi25
          refine G_aald X (t0 := 7) (b := fAd (eF E) (56 + x2.toNatClampNeg)) 55 (eC55 _ _ _) rfl rfl hi25 (if_pos hw26) dX5_casts_64 ?_
          refine G_getf X inX3 (56 + x2.toNatClampNeg) (eCf56 _ _ _ _ hw26) rfl 1 (by decide) qw145 rfl dX5_casts_65 ?_
          obtain ⟨r27, hz28, h⟩ := cl_k h
          refine G_callS_i X (As := [.int (A.1 (56 + x1.toNatClampNeg) 1), .int (A.1 (56 + x2.toNatClampNeg) 1)]) (rest := []) ok_J9_min_7cf53 qw594 ⟨rfl, rfl, Nat.le_of_ble_eq_true rfl, Nat.le_of_ble_eq_true rfl⟩ (m_J9_min_7cf53 X.d hz28) rfl rfl (Nat.le_of_ble_eq_true rfl) dX5_casts_68 ?_
          refine G_istore_n X (lv2 := [(3, .int r27), (0, .ref (fAd (eF E) 0)), (1, .int x1), (2, .int x2)]) dX5_casts_71 rfl (by decide) rfl ?_
          refine G_iconst X (v := 0) dX5_casts_72 rfl ?_
          refine G_istore X (lv2 := [(4, .int 0), (3, .int r27), (0, .ref (fAd (eF E) 0)), (1, .int x1), (2, .int x2)]) dX5_casts_73 (by decide) rfl ?_
          obtain ⟨ρ, hl, h⟩ := cl_k h
          obtain ⟨n, hl⟩ := loop_some hl
          refine G_sub [2, 3, 4, 1, 0] rfl (g_X5_casts_L75 X x1 x2 r27 n _ _ ρ hl ?_)
          intro A39 e
          rw [e] at h
          have h : f_X5_casts_X110 A39 r27 = some _ := h
          unfold f_X5_casts_X110 at h
          refine G_iload_n X dX5_casts_110 rfl 0 rfl ?_
          have e := so h
          subst e
          exact hQ _ _ dX5_casts_111
        · have h := if_f c22 h
          refine G_aload_n X dX5_casts_44 rfl 0 rfl ?_
          refine G_iconst X (v := 5) dX5_casts_45 rfl ?_
          obtain ⟨r40, A42, hz41, h⟩ := cl2_k h
          refine G_callV_i X (As := [.int 5]) (rest := []) ok_X5_finding qw191 0 (eC0 _ _ _) rfl rfl ⟨rfl, rfl, Nat.le_of_ble_eq_true rfl, Nat.le_of_ble_eq_true rfl⟩ (m_X5_finding X.d hz41) rfl rfl (Nat.le_of_ble_eq_true rfl) dX5_casts_46 ?_
          have e := so h
          subst e
          exact hQ _ _ dX5_casts_49
      · have h := if_f c14 h
        refine G_aload_n X dX5_casts_44 rfl 0 rfl ?_
        refine G_iconst X (v := 5) dX5_casts_45 rfl ?_
        obtain ⟨r15, A17, hz16, h⟩ := cl2_k h
        refine G_callV_i X (As := [.int 5]) (rest := []) ok_X5_finding qw191 0 (eC0 _ _ _) rfl rfl ⟨rfl, rfl, Nat.le_of_ble_eq_true rfl, Nat.le_of_ble_eq_true rfl⟩ (m_X5_finding X.d hz16) rfl rfl (Nat.le_of_ble_eq_true rfl) dX5_casts_46 ?_
        have e := so h
        subst e
        exact hQ _ _ dX5_casts_49
theorem m_X5_casts {l : Launch} {F : pfF} (hD : ∀ A, va_D (fA F) (cellsC (fAd F) (fCy F) A)) {x1 : Int32} {x2 : Int32} {A : St} {out : Int32 × St} (h : f_X5_casts x1 x2 A = some out) : Mt l F cellsC yX5_casts cX5_casts 5 (some .int) rm_X5_casts [.ref (fAd F 0), .int x1, .int x2] A (va_Qi (fun (r : Int32) (u : St) => r = out.1 ∧ u = out.2) (Wd cellsC F) (fA F)) := by
  refine Met_i (by decide +kernel) (Nat.le_of_ble_eq_true rfl) hD (fun E el ef X hQ => ?_)
  subst el
  subst ef
  exact b_X5_casts X _ _ _ hQ h
theorem ok_X5_casts : OkV yX5_casts cX5_casts 5 (some .int) 2 := ⟨qw591, qw592, qw1, qw593, by decide, by decide, by decide⟩
noncomputable def f_X5_table_L63 (l1 : Int32) (l2 : Int32) (l4 : Int32) (l5 : Int32) (l6 : Int32) (A : St) : Option ((Int32 × Int32 × St) ⊕ ((St) ⊕ (Int32 × St))) :=
  gI l1 4 <|
  if (A.1 (56 + l1.toNatClampNeg) 1) ≤ l6 then
    some (.inr (.inl A))
  else
    cl (f_X5_isAbility l5) fun r30 =>
    if (bI r30) = 0 then
      some (.inr (.inr (l6, A)))
    else
      gI l1 4 <|
      cl (f_X0_tellsAt l2 l5 A) fun r35 =>
      cl (f_X3_put l1.toNatClampNeg l6 r35 A) fun A39 =>
      bv (l5 + l4) fun v40 =>
      bv (l6 + 1) fun v41 =>
      some (.inl (v40, v41, A39))
noncomputable def f_X5_table_X122 (A : St) (m1 : Int32) : Option (Int32 × St) :=
  gI m1 4 <|
  some (A.1 (56 + m1.toNatClampNeg) 1, A)
noncomputable def f_X5_table (x1 : Int32) (x2 : Int32) (x3 : Int32) (x4 : Int32) (A : St) : Option (Int32 × St) :=
  cl (f_X5_isSheet x1) fun r1 =>
  if (bI r1) = 0 then
    cl2 (f_X5_finding 0 A) fun r4 A6 =>
    some (r4, A6)
  else
    cl (f_X0_has x2 A) fun r7 =>
    if (bI r7) = 0 then
      cl2 (f_X5_finding 0 A) fun r10 A12 =>
      some (r10, A12)
    else
      cl (f_X5_isAbility x3) fun r13 =>
      if (bI r13) = 0 then
        cl2 (f_X5_finding 0 A) fun r16 A18 =>
        some (r16, A18)
      else
        cl (f_X5_isAbility x4) fun r19 =>
        if (bI r19) = 0 then
          cl2 (f_X5_finding 0 A) fun r50 A52 =>
          some (r50, A52)
        else
          gI x1 4 <|
          cl (f_X3_isMissing x1.toNatClampNeg A) fun r24 =>
          if (bI r24) = 0 then
            cl (loop (fun s => f_X5_table_L63 x1 x2 x4 s.1 s.2.1 s.2.2) (x3, 0, A)) (Sum.elim (fun s => f_X5_table_X122 s x1) (fun t => some t))
          else
            cl2 (f_X5_finding 5 A) fun r47 A49 =>
            some (r47, A49)
abbrev rm_X5_table : Room := { frames := 3, cells := 0, slots := 0, locals := 80 }
set_option maxHeartbeats 4000000 in
set_option maxRecDepth 100000 in
theorem g_X5_table_L63 {E : pfE} (X : CX cellsC E cX5_table RX5 rm_X5_table 7) (l1 : Int32) (l2 : Int32) (l4 : Int32) {out : Int32 × St} (hQ : Reti cellsC E cX5_table out.1 out.2) : ∀ (n : Nat) (l5 : Int32) (l6 : Int32) (A : St) (ρ : (St) ⊕ (Int32 × St)), lp (fun s => f_X5_table_L63 l1 l2 l4 s.1 s.2.1 s.2.2) n (l5, l6, A) = some ρ → (∀ (B : St), ρ = .inl B → GG cellsC E B 122 [(0, .ref (fAd (eF E) 0)), (1, .int l1)] []) → (∀ t, ρ = .inr t → t = out) → GG cellsC E A 63 [(0, .ref (fAd (eF E) 0)), (1, .int l1), (2, .int l2), (4, .int l4), (5, .int l5), (6, .int l6)] [] := by
  intro n
  induction n with
  | zero =>
    intro l5 l6 A ρ h
    cases h
  | succ n ih =>
    intro l5 l6 A ρ h0 K KR
    obtain ⟨x, hb, hx⟩ := lp_step h0
    have h : f_X5_table_L63 l1 l2 l4 l5 l6 A = some x := hb
    unfold f_X5_table_L63 at h
    clear hb h0
    refine G_iload X dX5_table_63 5 rfl ?_
    refine G_aload_n X dX5_table_65 rfl 0 rfl ?_
    refine G_getf X inX5 0 (eC0 _ _ _) rfl 6 (by decide) qw161 rfl dX5_table_66 ?_
    refine G_iload_n X dX5_table_69 rfl 1 rfl ?_
    have hi27 := gI_n h
    have h := gI_k h
    have hw28 := vlt hi27
    refine G_aald X (t0 := 7) (b := fAd (eF E) (56 + l1.toNatClampNeg)) 55 (eC55 _ _ _) rfl rfl hi27 (if_pos hw28) dX5_table_70 ?_
    refine G_getf X inX3 (56 + l1.toNatClampNeg) (eCf56 _ _ _ _ hw28) rfl 1 (by decide) qw145 rfl dX5_table_71 ?_
    refine G_icge X (tgt := 122) dX5_table_74 (by decide) (fun c29 => ?_) (fun c29 => ?_)
    · have h := if_t c29 h
      exact G_sub [0, 1] rfl (K _ (lpr (so h) hx).symm)
    · have h := if_f c29 h
      refine G_iload X dX5_table_77 4 rfl ?_
      obtain ⟨r30, hz31, h⟩ := cl_k h
      refine G_callS_i X (As := [.int l5]) (rest := []) ok_X5_isAbility qw257 ⟨rfl, rfl, Nat.le_of_ble_eq_true rfl, Nat.le_of_ble_eq_true rfl⟩ (m_X5_isAbility X.d hz31) rfl rfl (Nat.le_of_ble_eq_true rfl) dX5_table_79 ?_
      refine G_ifne X (tgt := 88) dX5_table_82 (by decide) (fun c32 => ?_) (fun c32 => ?_)
      · have h := if_t c32 h
        refine G_iload X dX5_table_85 5 rfl ?_
        have e := KR _ (lpr (so h) hx).symm
        subst e
        exact hQ _ _ dX5_table_87
      · have h := if_f c32 h
        refine G_aload_n X dX5_table_88 rfl 0 rfl ?_
        refine G_getf X inX5 0 (eC0 _ _ _) rfl 6 (by decide) qw161 rfl dX5_table_89 ?_
        refine G_iload_n X dX5_table_92 rfl 1 rfl ?_
        have hi33 := gI_n h
        have h := gI_k h
        have hw34 := vlt hi33
        refine G_aald X (t0 := 7) (b := fAd (eF E) (56 + l1.toNatClampNeg)) 55 (eC55 _ _ _) rfl rfl hi33 (if_pos hw34) dX5_table_93 ?_
        refine G_iload X dX5_table_94 5 rfl ?_
        refine G_aload_n X dX5_table_96 rfl 0 rfl ?_
        refine G_getf X inX5 0 (eC0 _ _ _) rfl 2 (by decide) qw157 rfl dX5_table_97 ?_
        refine G_iload_n X dX5_table_100 rfl 2 rfl ?_
        refine G_iload X dX5_table_101 4 rfl ?_
        obtain ⟨r35, hz36, h⟩ := cl_k h
        refine G_callV_d X (As := [.int l2, .int l5]) (rest := [.int l6, .ref (fAd (eF E) (56 + l1.toNatClampNeg))]) ok_X0_tellsAt qw265 3 (eC3 _ _ _) rfl rfl ⟨rfl, rfl, Nat.le_of_ble_eq_true rfl, Nat.le_of_ble_eq_true rfl⟩ (m_X0_tellsAt X.d hz36) rfl rfl (Nat.le_of_ble_eq_true rfl) dX5_table_103 ?_
        obtain ⟨A39, hz38, h⟩ := cl_k h
        refine G_callV_v X (As := [.int l6, .double r35]) (rest := []) ok_X3_put qw565 (56 + l1.toNatClampNeg) (eCf56 _ _ _ _ hw34) rfl rfl ⟨rfl, rfl, Nat.le_of_ble_eq_true rfl, Nat.le_of_ble_eq_true rfl⟩ (m_X3_put X.d hw34 hz38) rfl rfl (Nat.le_of_ble_eq_true rfl) dX5_table_106 ?_
        refine G_iload X dX5_table_109 4 rfl ?_
        refine G_iload X dX5_table_111 3 rfl ?_
        refine G_iadd X dX5_table_113 ?_
        refine G_topi (fun v40 ev40 => ?_)
        have h := bv_k ev40 h
        refine G_istore X (lv2 := [(5, .int v40), (0, .ref (fAd (eF E) 0)), (1, .int l1), (2, .int l2), (4, .int l4), (6, .int l6)]) dX5_table_114 (by decide) rfl ?_
        obtain ⟨v41, ev41⟩ : ∃ y : Int32, y = l6 + 1 := ⟨_, rfl⟩
        have h := bv_k ev41 h
        refine G_iinc X (q := 5) (v := v41) (lv2 := [(6, .int v41), (5, .int v40), (0, .ref (fAd (eF E) 0)), (1, .int l1), (2, .int l2), (4, .int l4)]) dX5_table_116 rfl (by rw [ev41]; rfl) (by decide) rfl ?_
        refine G_goto X (tgt := 63) dX5_table_119 (by decide) ?_
        exact G_sub [2, 3, 4, 5, 1, 0] rfl (ih _ _ _ _ (lpl (so h) hx) K KR)
set_option maxHeartbeats 4000000 in
set_option maxRecDepth 100000 in
theorem b_X5_table {E : pfE} (X : CX cellsC E cX5_table RX5 rm_X5_table 7) (x1 : Int32) (x2 : Int32) (x3 : Int32) (x4 : Int32) (A : St) {out : Int32 × St} (hQ : Reti cellsC E cX5_table out.1 out.2) (h : f_X5_table x1 x2 x3 x4 A = some out) : GG cellsC E A 0 [(0, .ref (fAd (eF E) 0)), (1, .int x1), (2, .int x2), (3, .int x3), (4, .int x4)] [] := by
  unfold f_X5_table at h
  refine G_iload_n X dX5_table_0 rfl 1 rfl ?_
  obtain ⟨r1, hz2, h⟩ := cl_k h
  refine G_callS_i X (As := [.int x1]) (rest := []) ok_X5_isSheet qw540 ⟨rfl, rfl, Nat.le_of_ble_eq_true rfl, Nat.le_of_ble_eq_true rfl⟩ (m_X5_isSheet X.d hz2) rfl rfl (Nat.le_of_ble_eq_true rfl) dX5_table_1 ?_
  refine G_ifeq X (tgt := 33) dX5_table_4 (by decide) (fun c3 => ?_) (fun c3 => ?_)
  · have h := if_t c3 h
    refine G_aload_n X dX5_table_33 rfl 0 rfl ?_
    refine G_iconst X (v := 0) dX5_table_34 rfl ?_
    obtain ⟨r4, A6, hz5, h⟩ := cl2_k h
    refine G_callV_i X (As := [.int 0]) (rest := []) ok_X5_finding qw191 0 (eC0 _ _ _) rfl rfl ⟨rfl, rfl, Nat.le_of_ble_eq_true rfl, Nat.le_of_ble_eq_true rfl⟩ (m_X5_finding X.d hz5) rfl rfl (Nat.le_of_ble_eq_true rfl) dX5_table_35 ?_
    have e := so h
    subst e
    exact hQ _ _ dX5_table_38
  · have h := if_f c3 h
    refine G_aload_n X dX5_table_7 rfl 0 rfl ?_
    refine G_getf X inX5 0 (eC0 _ _ _) rfl 2 (by decide) qw157 rfl dX5_table_8 ?_
    refine G_iload_n X dX5_table_11 rfl 2 rfl ?_
    obtain ⟨r7, hz8, h⟩ := cl_k h
    refine G_callV_i X (As := [.int x2]) (rest := []) ok_X0_has qw200 3 (eC3 _ _ _) rfl rfl ⟨rfl, rfl, Nat.le_of_ble_eq_true rfl, Nat.le_of_ble_eq_true rfl⟩ (m_X0_has X.d hz8) rfl rfl (Nat.le_of_ble_eq_true rfl) dX5_table_12 ?_
    refine G_ifeq X (tgt := 33) dX5_table_15 (by decide) (fun c9 => ?_) (fun c9 => ?_)
    · have h := if_t c9 h
      refine G_aload_n X dX5_table_33 rfl 0 rfl ?_
      refine G_iconst X (v := 0) dX5_table_34 rfl ?_
      obtain ⟨r10, A12, hz11, h⟩ := cl2_k h
      refine G_callV_i X (As := [.int 0]) (rest := []) ok_X5_finding qw191 0 (eC0 _ _ _) rfl rfl ⟨rfl, rfl, Nat.le_of_ble_eq_true rfl, Nat.le_of_ble_eq_true rfl⟩ (m_X5_finding X.d hz11) rfl rfl (Nat.le_of_ble_eq_true rfl) dX5_table_35 ?_
      have e := so h
      subst e
      exact hQ _ _ dX5_table_38
    · have h := if_f c9 h
      refine G_iload_n X dX5_table_18 rfl 3 rfl ?_
      obtain ⟨r13, hz14, h⟩ := cl_k h
      refine G_callS_i X (As := [.int x3]) (rest := []) ok_X5_isAbility qw257 ⟨rfl, rfl, Nat.le_of_ble_eq_true rfl, Nat.le_of_ble_eq_true rfl⟩ (m_X5_isAbility X.d hz14) rfl rfl (Nat.le_of_ble_eq_true rfl) dX5_table_19 ?_
      refine G_ifeq X (tgt := 33) dX5_table_22 (by decide) (fun c15 => ?_) (fun c15 => ?_)
      · have h := if_t c15 h
        refine G_aload_n X dX5_table_33 rfl 0 rfl ?_
        refine G_iconst X (v := 0) dX5_table_34 rfl ?_
        obtain ⟨r16, A18, hz17, h⟩ := cl2_k h
        refine G_callV_i X (As := [.int 0]) (rest := []) ok_X5_finding qw191 0 (eC0 _ _ _) rfl rfl ⟨rfl, rfl, Nat.le_of_ble_eq_true rfl, Nat.le_of_ble_eq_true rfl⟩ (m_X5_finding X.d hz17) rfl rfl (Nat.le_of_ble_eq_true rfl) dX5_table_35 ?_
        have e := so h
        subst e
        exact hQ _ _ dX5_table_38
      · have h := if_f c15 h
        refine G_iload X dX5_table_25 4 rfl ?_
        obtain ⟨r19, hz20, h⟩ := cl_k h
        refine G_callS_i X (As := [.int x4]) (rest := []) ok_X5_isAbility qw257 ⟨rfl, rfl, Nat.le_of_ble_eq_true rfl, Nat.le_of_ble_eq_true rfl⟩ (m_X5_isAbility X.d hz20) rfl rfl (Nat.le_of_ble_eq_true rfl) dX5_table_27 ?_
        refine G_ifne X (tgt := 39) dX5_table_30 (by decide) (fun c21 => ?_) (fun c21 => ?_)
        · have h := if_t c21 h
          refine G_aload_n X dX5_table_33 rfl 0 rfl ?_
          refine G_iconst X (v := 0) dX5_table_34 rfl ?_
          obtain ⟨r50, A52, hz51, h⟩ := cl2_k h
          refine G_callV_i X (As := [.int 0]) (rest := []) ok_X5_finding qw191 0 (eC0 _ _ _) rfl rfl ⟨rfl, rfl, Nat.le_of_ble_eq_true rfl, Nat.le_of_ble_eq_true rfl⟩ (m_X5_finding X.d hz51) rfl rfl (Nat.le_of_ble_eq_true rfl) dX5_table_35 ?_
          have e := so h
          subst e
          exact hQ _ _ dX5_table_38
        · have h := if_f c21 h
          refine G_aload_n X dX5_table_39 rfl 0 rfl ?_
          refine G_getf X inX5 0 (eC0 _ _ _) rfl 6 (by decide) qw161 rfl dX5_table_40 ?_
          refine G_iload_n X dX5_table_43 rfl 1 rfl ?_
          have hi22 := gI_n h
          have h := gI_k h
          have hw23 := vlt hi22
          refine G_aald X (t0 := 7) (b := fAd (eF E) (56 + x1.toNatClampNeg)) 55 (eC55 _ _ _) rfl rfl hi22 (if_pos hw23) dX5_table_44 ?_
          obtain ⟨r24, hz25, h⟩ := cl_k h
          refine G_callV_i X (As := []) (rest := []) ok_X3_isMissing qw551 (56 + x1.toNatClampNeg) (eCf56 _ _ _ _ hw23) rfl rfl ⟨rfl, rfl, Nat.le_of_ble_eq_true rfl, Nat.le_of_ble_eq_true rfl⟩ (m_X3_isMissing X.d hw23 hz25) rfl rfl (Nat.le_of_ble_eq_true rfl) dX5_table_45 ?_
          refine G_ifeq X (tgt := 57) dX5_table_48 (by decide) (fun c26 => ?_) (fun c26 => ?_)
          · have h := if_t c26 h
            refine G_iload_n X dX5_table_57 rfl 3 rfl ?_
            refine G_istore X (lv2 := [(5, .int x3), (0, .ref (fAd (eF E) 0)), (1, .int x1), (2, .int x2), (3, .int x3), (4, .int x4)]) dX5_table_58 (by decide) rfl ?_
            refine G_iconst X (v := 0) dX5_table_60 rfl ?_
            refine G_istore X (lv2 := [(6, .int 0), (5, .int x3), (0, .ref (fAd (eF E) 0)), (1, .int x1), (2, .int x2), (3, .int x3), (4, .int x4)]) dX5_table_61 (by decide) rfl ?_
            obtain ⟨ρ, hl, h⟩ := cl_k h
            obtain ⟨n, hl⟩ := loop_some hl
            refine G_sub [2, 3, 4, 6, 1, 0] rfl (g_X5_table_L63 X x1 x2 x4 hQ n _ _ _ ρ hl ?_ (fun t e => by subst e; exact so h))
            intro A42 e
            subst e
            have h : f_X5_table_X122 A42 x1 = some _ := h
            unfold f_X5_table_X122 at h
            refine G_aload_n X dX5_table_122 rfl 0 rfl ?_
            refine G_getf X inX5 0 (eC0 _ _ _) rfl 6 (by decide) qw161 rfl dX5_table_123 ?_
            refine G_iload_n X dX5_table_126 rfl 1 rfl ?_
            have hi43 := gI_n h
            have h := gI_k h
            have hw44 := vlt hi43
            refine G_aald X (t0 := 7) (b := fAd (eF E) (56 + x1.toNatClampNeg)) 55 (eC55 _ _ _) rfl rfl hi43 (if_pos hw44) dX5_table_127 ?_
            refine G_getf X inX3 (56 + x1.toNatClampNeg) (eCf56 _ _ _ _ hw44) rfl 1 (by decide) qw145 rfl dX5_table_128 ?_
            have e := so h
            subst e
            exact hQ _ _ dX5_table_131
          · have h := if_f c26 h
            refine G_aload_n X dX5_table_51 rfl 0 rfl ?_
            refine G_iconst X (v := 5) dX5_table_52 rfl ?_
            obtain ⟨r47, A49, hz48, h⟩ := cl2_k h
            refine G_callV_i X (As := [.int 5]) (rest := []) ok_X5_finding qw191 0 (eC0 _ _ _) rfl rfl ⟨rfl, rfl, Nat.le_of_ble_eq_true rfl, Nat.le_of_ble_eq_true rfl⟩ (m_X5_finding X.d hz48) rfl rfl (Nat.le_of_ble_eq_true rfl) dX5_table_53 ?_
            have e := so h
            subst e
            exact hQ _ _ dX5_table_56
theorem m_X5_table {l : Launch} {F : pfF} (hD : ∀ A, va_D (fA F) (cellsC (fAd F) (fCy F) A)) {x1 : Int32} {x2 : Int32} {x3 : Int32} {x4 : Int32} {A : St} {out : Int32 × St} (h : f_X5_table x1 x2 x3 x4 A = some out) : Mt l F cellsC yX5_table cX5_table 7 (some .int) rm_X5_table [.ref (fAd F 0), .int x1, .int x2, .int x3, .int x4] A (va_Qi (fun (r : Int32) (u : St) => r = out.1 ∧ u = out.2) (Wd cellsC F) (fA F)) := by
  refine Met_i (by decide +kernel) (Nat.le_of_ble_eq_true rfl) hD (fun E el ef X hQ => ?_)
  subst el
  subst ef
  exact b_X5_table X _ _ _ _ _ hQ h
theorem ok_X5_table : OkV yX5_table cX5_table 7 (some .int) 4 := ⟨qw598, qw599, qw1, qw600, by decide, by decide, by decide⟩
noncomputable def f_X5_rests_L56 (l1 : Int32) (l3 : UInt64) (l5 : Int32) (A : St) : Option ((Int32 × St) ⊕ (St)) :=
  gI l1 4 <|
  if (A.1 (56 + l1.toNatClampNeg) 1) ≤ l5 then
    some (.inr A)
  else
    gI l1 4 <|
    gI l1 4 <|
    gI l5 40 <|
    cl (f_X2_rest (A.2.1 (60 + l1.toNatClampNeg) l5.toNatClampNeg) l3) fun r27 =>
    cl (f_X3_put l1.toNatClampNeg l5 r27 A) fun A31 =>
    bv (l5 + 1) fun v32 =>
    some (.inl (v32, A31))
noncomputable def f_X5_rests_X103 (A : St) (m1 : Int32) : Option (Int32 × St) :=
  gI m1 4 <|
  some (A.1 (56 + m1.toNatClampNeg) 1, A)
noncomputable def f_X5_rests (x1 : Int32) (x2 : Int32) (A : St) : Option (Int32 × St) :=
  cl (f_X5_isSheet x1) fun r1 =>
  if (bI r1) = 0 then
    cl2 (f_X5_finding 0 A) fun r4 A6 =>
    some (r4, A6)
  else
    cl (f_X5_within x2 1 800) fun r7 =>
    if (bI r7) = 0 then
      cl2 (f_X5_finding 0 A) fun r41 A43 =>
      some (r41, A43)
    else
      gI x1 4 <|
      cl (f_X3_isMissing x1.toNatClampNeg A) fun r12 =>
      if (bI r12) = 0 then
        gI x1 4 <|
        cl (f_X3_eighths x1.toNatClampNeg x2 A) fun r17 =>
        cl (loop (fun s => f_X5_rests_L56 x1 r17 s.1 s.2) (0, A)) (fun s => f_X5_rests_X103 s x1)
      else
        cl2 (f_X5_finding 5 A) fun r38 A40 =>
        some (r38, A40)
abbrev rm_X5_rests : Room := { frames := 2, cells := 0, slots := 0, locals := 50 }
set_option maxHeartbeats 4000000 in
set_option maxRecDepth 100000 in
theorem g_X5_rests_L56 {E : pfE} (X : CX cellsC E cX5_rests RX5 rm_X5_rests 6) (l1 : Int32) (l3 : UInt64) : ∀ (n : Nat) (l5 : Int32) (A : St) (ρ : St), lp (fun s => f_X5_rests_L56 l1 l3 s.1 s.2) n (l5, A) = some ρ → (∀ (B : St), ρ = B → GG cellsC E B 103 [(0, .ref (fAd (eF E) 0)), (1, .int l1)] []) → GG cellsC E A 56 [(0, .ref (fAd (eF E) 0)), (1, .int l1), (3, .double l3), (5, .int l5)] [] := by
  intro n
  induction n with
  | zero =>
    intro l5 A ρ h
    cases h
  | succ n ih =>
    intro l5 A ρ h0 K
    obtain ⟨x, hb, hx⟩ := lp_step h0
    have h : f_X5_rests_L56 l1 l3 l5 A = some x := hb
    unfold f_X5_rests_L56 at h
    clear hb h0
    refine G_iload X dX5_rests_56 3 rfl ?_
    refine G_aload_n X dX5_rests_58 rfl 0 rfl ?_
    refine G_getf X inX5 0 (eC0 _ _ _) rfl 6 (by decide) qw161 rfl dX5_rests_59 ?_
    refine G_iload_n X dX5_rests_62 rfl 1 rfl ?_
    have hi19 := gI_n h
    have h := gI_k h
    have hw20 := vlt hi19
    refine G_aald X (t0 := 7) (b := fAd (eF E) (56 + l1.toNatClampNeg)) 55 (eC55 _ _ _) rfl rfl hi19 (if_pos hw20) dX5_rests_63 ?_
    refine G_getf X inX3 (56 + l1.toNatClampNeg) (eCf56 _ _ _ _ hw20) rfl 1 (by decide) qw145 rfl dX5_rests_64 ?_
    refine G_icge X (tgt := 103) dX5_rests_67 (by decide) (fun c21 => ?_) (fun c21 => ?_)
    · have h := if_t c21 h
      exact G_sub [0, 1] rfl (K _ (lpr (so h) hx).symm)
    · have h := if_f c21 h
      refine G_aload_n X dX5_rests_70 rfl 0 rfl ?_
      refine G_getf X inX5 0 (eC0 _ _ _) rfl 6 (by decide) qw161 rfl dX5_rests_71 ?_
      refine G_iload_n X dX5_rests_74 rfl 1 rfl ?_
      have hi22 := gI_n h
      have h := gI_k h
      have hw23 := vlt hi22
      refine G_aald X (t0 := 7) (b := fAd (eF E) (56 + l1.toNatClampNeg)) 55 (eC55 _ _ _) rfl rfl hi22 (if_pos hw23) dX5_rests_75 ?_
      refine G_iload X dX5_rests_76 3 rfl ?_
      refine G_aload_n X dX5_rests_78 rfl 0 rfl ?_
      refine G_getf X inX5 0 (eC0 _ _ _) rfl 6 (by decide) qw161 rfl dX5_rests_79 ?_
      refine G_iload_n X dX5_rests_82 rfl 1 rfl ?_
      have hi24 := gI_n h
      have h := gI_k h
      have hw25 := vlt hi24
      refine G_aald X (t0 := 7) (b := fAd (eF E) (56 + l1.toNatClampNeg)) 55 (eC55 _ _ _) rfl rfl hi24 (if_pos hw25) dX5_rests_83 ?_
      refine G_getf X inX3 (56 + l1.toNatClampNeg) (eCf56 _ _ _ _ hw25) rfl 2 (by decide) qw147 rfl dX5_rests_84 ?_
      refine G_iload X dX5_rests_87 3 rfl ?_
      have hi26 := gI_n h
      have h := gI_k h
      refine G_dald X (j := l5.toNatClampNeg) (60 + l1.toNatClampNeg) (eCf60 _ _ _ _ hw25) hi26 rfl dX5_rests_89 ?_
      refine G_dload_n X dX5_rests_90 rfl 2 rfl ?_
      obtain ⟨r27, hz28, h⟩ := cl_k h
      refine G_callS_d X (As := [.double (A.2.1 (60 + l1.toNatClampNeg) l5.toNatClampNeg), .double l3]) (rest := [.int l5, .ref (fAd (eF E) (56 + l1.toNatClampNeg))]) ok_X2_rest qw605 ⟨rfl, rfl, Nat.le_of_ble_eq_true rfl, Nat.le_of_ble_eq_true rfl⟩ (m_X2_rest X.d hz28) rfl rfl (Nat.le_of_ble_eq_true rfl) dX5_rests_91 ?_
      obtain ⟨A31, hz30, h⟩ := cl_k h
      refine G_callV_v X (As := [.int l5, .double r27]) (rest := []) ok_X3_put qw565 (56 + l1.toNatClampNeg) (eCf56 _ _ _ _ hw23) rfl rfl ⟨rfl, rfl, Nat.le_of_ble_eq_true rfl, Nat.le_of_ble_eq_true rfl⟩ (m_X3_put X.d hw23 hz30) rfl rfl (Nat.le_of_ble_eq_true rfl) dX5_rests_94 ?_
      obtain ⟨v32, ev32⟩ : ∃ y : Int32, y = l5 + 1 := ⟨_, rfl⟩
      have h := bv_k ev32 h
      refine G_iinc X (q := 3) (v := v32) (lv2 := [(5, .int v32), (0, .ref (fAd (eF E) 0)), (1, .int l1), (3, .double l3)]) dX5_rests_97 rfl (by rw [ev32]; rfl) (by decide) rfl ?_
      refine G_goto X (tgt := 56) dX5_rests_100 (by decide) ?_
      exact G_sub [1, 2, 3, 0] rfl (ih _ _ _ (lpl (so h) hx) K)
set_option maxHeartbeats 4000000 in
set_option maxRecDepth 100000 in
theorem b_X5_rests {E : pfE} (X : CX cellsC E cX5_rests RX5 rm_X5_rests 6) (x1 : Int32) (x2 : Int32) (A : St) {out : Int32 × St} (hQ : Reti cellsC E cX5_rests out.1 out.2) (h : f_X5_rests x1 x2 A = some out) : GG cellsC E A 0 [(0, .ref (fAd (eF E) 0)), (1, .int x1), (2, .int x2)] [] := by
  unfold f_X5_rests at h
  refine G_iload_n X dX5_rests_0 rfl 1 rfl ?_
  obtain ⟨r1, hz2, h⟩ := cl_k h
  refine G_callS_i X (As := [.int x1]) (rest := []) ok_X5_isSheet qw540 ⟨rfl, rfl, Nat.le_of_ble_eq_true rfl, Nat.le_of_ble_eq_true rfl⟩ (m_X5_isSheet X.d hz2) rfl rfl (Nat.le_of_ble_eq_true rfl) dX5_rests_1 ?_
  refine G_ifeq X (tgt := 18) dX5_rests_4 (by decide) (fun c3 => ?_) (fun c3 => ?_)
  · have h := if_t c3 h
    refine G_aload_n X dX5_rests_18 rfl 0 rfl ?_
    refine G_iconst X (v := 0) dX5_rests_19 rfl ?_
    obtain ⟨r4, A6, hz5, h⟩ := cl2_k h
    refine G_callV_i X (As := [.int 0]) (rest := []) ok_X5_finding qw191 0 (eC0 _ _ _) rfl rfl ⟨rfl, rfl, Nat.le_of_ble_eq_true rfl, Nat.le_of_ble_eq_true rfl⟩ (m_X5_finding X.d hz5) rfl rfl (Nat.le_of_ble_eq_true rfl) dX5_rests_20 ?_
    have e := so h
    subst e
    exact hQ _ _ dX5_rests_23
  · have h := if_f c3 h
    refine G_iload_n X dX5_rests_7 rfl 2 rfl ?_
    refine G_iconst X (v := 1) dX5_rests_8 rfl ?_
    refine G_sipush X (v := 800) dX5_rests_9 rfl ?_
    obtain ⟨r7, hz8, h⟩ := cl_k h
    refine G_callS_i X (As := [.int x2, .int 1, .int 800]) (rest := []) ok_X5_within qw184 ⟨rfl, rfl, Nat.le_of_ble_eq_true rfl, Nat.le_of_ble_eq_true rfl⟩ (m_X5_within X.d hz8) rfl rfl (Nat.le_of_ble_eq_true rfl) dX5_rests_12 ?_
    refine G_ifne X (tgt := 24) dX5_rests_15 (by decide) (fun c9 => ?_) (fun c9 => ?_)
    · have h := if_t c9 h
      refine G_aload_n X dX5_rests_18 rfl 0 rfl ?_
      refine G_iconst X (v := 0) dX5_rests_19 rfl ?_
      obtain ⟨r41, A43, hz42, h⟩ := cl2_k h
      refine G_callV_i X (As := [.int 0]) (rest := []) ok_X5_finding qw191 0 (eC0 _ _ _) rfl rfl ⟨rfl, rfl, Nat.le_of_ble_eq_true rfl, Nat.le_of_ble_eq_true rfl⟩ (m_X5_finding X.d hz42) rfl rfl (Nat.le_of_ble_eq_true rfl) dX5_rests_20 ?_
      have e := so h
      subst e
      exact hQ _ _ dX5_rests_23
    · have h := if_f c9 h
      refine G_aload_n X dX5_rests_24 rfl 0 rfl ?_
      refine G_getf X inX5 0 (eC0 _ _ _) rfl 6 (by decide) qw161 rfl dX5_rests_25 ?_
      refine G_iload_n X dX5_rests_28 rfl 1 rfl ?_
      have hi10 := gI_n h
      have h := gI_k h
      have hw11 := vlt hi10
      refine G_aald X (t0 := 7) (b := fAd (eF E) (56 + x1.toNatClampNeg)) 55 (eC55 _ _ _) rfl rfl hi10 (if_pos hw11) dX5_rests_29 ?_
      obtain ⟨r12, hz13, h⟩ := cl_k h
      refine G_callV_i X (As := []) (rest := []) ok_X3_isMissing qw551 (56 + x1.toNatClampNeg) (eCf56 _ _ _ _ hw11) rfl rfl ⟨rfl, rfl, Nat.le_of_ble_eq_true rfl, Nat.le_of_ble_eq_true rfl⟩ (m_X3_isMissing X.d hw11 hz13) rfl rfl (Nat.le_of_ble_eq_true rfl) dX5_rests_30 ?_
      refine G_ifeq X (tgt := 42) dX5_rests_33 (by decide) (fun c14 => ?_) (fun c14 => ?_)
      · have h := if_t c14 h
        refine G_aload_n X dX5_rests_42 rfl 0 rfl ?_
        refine G_getf X inX5 0 (eC0 _ _ _) rfl 6 (by decide) qw161 rfl dX5_rests_43 ?_
        refine G_iload_n X dX5_rests_46 rfl 1 rfl ?_
        have hi15 := gI_n h
        have h := gI_k h
        have hw16 := vlt hi15
        refine G_aald X (t0 := 7) (b := fAd (eF E) (56 + x1.toNatClampNeg)) 55 (eC55 _ _ _) rfl rfl hi15 (if_pos hw16) dX5_rests_47 ?_
        refine G_iload_n X dX5_rests_48 rfl 2 rfl ?_
        obtain ⟨r17, hz18, h⟩ := cl_k h
        refine G_callV_d X (As := [.int x2]) (rest := []) ok_X3_eighths qw559 (56 + x1.toNatClampNeg) (eCf56 _ _ _ _ hw16) rfl rfl ⟨rfl, rfl, Nat.le_of_ble_eq_true rfl, Nat.le_of_ble_eq_true rfl⟩ (m_X3_eighths X.d hw16 hz18) rfl rfl (Nat.le_of_ble_eq_true rfl) dX5_rests_49 ?_
        refine G_dstore_n X (lv2 := [(3, .double r17), (0, .ref (fAd (eF E) 0)), (1, .int x1), (2, .int x2)]) dX5_rests_52 rfl (by decide) rfl ?_
        refine G_iconst X (v := 0) dX5_rests_53 rfl ?_
        refine G_istore X (lv2 := [(5, .int 0), (3, .double r17), (0, .ref (fAd (eF E) 0)), (1, .int x1), (2, .int x2)]) dX5_rests_54 (by decide) rfl ?_
        obtain ⟨ρ, hl, h⟩ := cl_k h
        obtain ⟨n, hl⟩ := loop_some hl
        refine G_sub [2, 3, 1, 0] rfl (g_X5_rests_L56 X x1 r17 n _ _ ρ hl ?_)
        intro A33 e
        rw [e] at h
        have h : f_X5_rests_X103 A33 x1 = some _ := h
        unfold f_X5_rests_X103 at h
        refine G_aload_n X dX5_rests_103 rfl 0 rfl ?_
        refine G_getf X inX5 0 (eC0 _ _ _) rfl 6 (by decide) qw161 rfl dX5_rests_104 ?_
        refine G_iload_n X dX5_rests_107 rfl 1 rfl ?_
        have hi34 := gI_n h
        have h := gI_k h
        have hw35 := vlt hi34
        refine G_aald X (t0 := 7) (b := fAd (eF E) (56 + x1.toNatClampNeg)) 55 (eC55 _ _ _) rfl rfl hi34 (if_pos hw35) dX5_rests_108 ?_
        refine G_getf X inX3 (56 + x1.toNatClampNeg) (eCf56 _ _ _ _ hw35) rfl 1 (by decide) qw145 rfl dX5_rests_109 ?_
        have e := so h
        subst e
        exact hQ _ _ dX5_rests_112
      · have h := if_f c14 h
        refine G_aload_n X dX5_rests_36 rfl 0 rfl ?_
        refine G_iconst X (v := 5) dX5_rests_37 rfl ?_
        obtain ⟨r38, A40, hz39, h⟩ := cl2_k h
        refine G_callV_i X (As := [.int 5]) (rest := []) ok_X5_finding qw191 0 (eC0 _ _ _) rfl rfl ⟨rfl, rfl, Nat.le_of_ble_eq_true rfl, Nat.le_of_ble_eq_true rfl⟩ (m_X5_finding X.d hz39) rfl rfl (Nat.le_of_ble_eq_true rfl) dX5_rests_38 ?_
        have e := so h
        subst e
        exact hQ _ _ dX5_rests_41
theorem m_X5_rests {l : Launch} {F : pfF} (hD : ∀ A, va_D (fA F) (cellsC (fAd F) (fCy F) A)) {x1 : Int32} {x2 : Int32} {A : St} {out : Int32 × St} (h : f_X5_rests x1 x2 A = some out) : Mt l F cellsC yX5_rests cX5_rests 6 (some .int) rm_X5_rests [.ref (fAd F 0), .int x1, .int x2] A (va_Qi (fun (r : Int32) (u : St) => r = out.1 ∧ u = out.2) (Wd cellsC F) (fA F)) := by
  refine Met_i (by decide +kernel) (Nat.le_of_ble_eq_true rfl) hD (fun E el ef X hQ => ?_)
  subst el
  subst ef
  exact b_X5_rests X _ _ _ hQ h
theorem ok_X5_rests : OkV yX5_rests cX5_rests 6 (some .int) 2 := ⟨qw602, qw603, qw1, qw604, by decide, by decide, by decide⟩
noncomputable def f_X5_sum_L36 (A : St) (l1 : Int32) (l2 : UInt64) (l4 : Int32) : Option ((UInt64 × Int32) ⊕ (UInt64)) :=
  gI l1 4 <|
  if (A.1 (56 + l1.toNatClampNeg) 1) ≤ l4 then
    some (.inr l2)
  else
    gI l1 4 <|
    gI l4 40 <|
    g64 (FP.dadd l2 (A.2.1 (60 + l1.toNatClampNeg) l4.toNatClampNeg)) fun v16 =>
    bv (l4 + 1) fun v17 =>
    some (.inl (v16, v17))
noncomputable def f_X5_sum_X71 (A : St) (m2 : UInt64) : Option (Int64 × St) :=
  cl (f_X2_doubleBits m2) fun r21 =>
  some (r21, A)
noncomputable def f_X5_sum (x1 : Int32) (A : St) : Option (Int64 × St) :=
  cl (f_X5_isSheet x1) fun r1 =>
  if (bI r1) = 0 then
    cl2 (f_X5_longFinding 0 A) fun r26 A28 =>
    some (r26, A28)
  else
    gI x1 4 <|
    cl (f_X3_isMissing x1.toNatClampNeg A) fun r6 =>
    if (bI r6) = 0 then
      bv FP.dconst0 fun v9 =>
      cl (loop (fun s => f_X5_sum_L36 A x1 s.1 s.2) (v9, 0)) (fun s => f_X5_sum_X71 A s)
    else
      cl2 (f_X5_longFinding 5 A) fun r23 A25 =>
      some (r23, A25)
abbrev rm_X5_sum : Room := { frames := 2, cells := 0, slots := 0, locals := 50 }
set_option maxHeartbeats 4000000 in
set_option maxRecDepth 100000 in
theorem g_X5_sum_L36 {E : pfE} (X : CX cellsC E cX5_sum RX5 rm_X5_sum 5) (A : St) (l1 : Int32) : ∀ (n : Nat) (l2 : UInt64) (l4 : Int32) (ρ : UInt64), lp (fun s => f_X5_sum_L36 A l1 s.1 s.2) n (l2, l4) = some ρ → (∀ (q2 : UInt64), ρ = q2 → GG cellsC E A 71 [(2, .double q2)] []) → GG cellsC E A 36 [(0, .ref (fAd (eF E) 0)), (1, .int l1), (2, .double l2), (4, .int l4)] [] := by
  intro n
  induction n with
  | zero =>
    intro l2 l4 ρ h
    cases h
  | succ n ih =>
    intro l2 l4 ρ h0 K
    obtain ⟨x, hb, hx⟩ := lp_step h0
    have h : f_X5_sum_L36 A l1 l2 l4 = some x := hb
    unfold f_X5_sum_L36 at h
    clear hb h0
    refine G_iload X dX5_sum_36 3 rfl ?_
    refine G_aload_n X dX5_sum_38 rfl 0 rfl ?_
    refine G_getf X inX5 0 (eC0 _ _ _) rfl 6 (by decide) qw161 rfl dX5_sum_39 ?_
    refine G_iload_n X dX5_sum_42 rfl 1 rfl ?_
    have hi10 := gI_n h
    have h := gI_k h
    have hw11 := vlt hi10
    refine G_aald X (t0 := 7) (b := fAd (eF E) (56 + l1.toNatClampNeg)) 55 (eC55 _ _ _) rfl rfl hi10 (if_pos hw11) dX5_sum_43 ?_
    refine G_getf X inX3 (56 + l1.toNatClampNeg) (eCf56 _ _ _ _ hw11) rfl 1 (by decide) qw145 rfl dX5_sum_44 ?_
    refine G_icge X (tgt := 71) dX5_sum_47 (by decide) (fun c12 => ?_) (fun c12 => ?_)
    · have h := if_t c12 h
      exact G_sub [2] rfl (K _ (lpr (so h) hx).symm)
    · have h := if_f c12 h
      refine G_dload_n X dX5_sum_50 rfl 2 rfl ?_
      refine G_aload_n X dX5_sum_51 rfl 0 rfl ?_
      refine G_getf X inX5 0 (eC0 _ _ _) rfl 6 (by decide) qw161 rfl dX5_sum_52 ?_
      refine G_iload_n X dX5_sum_55 rfl 1 rfl ?_
      have hi13 := gI_n h
      have h := gI_k h
      have hw14 := vlt hi13
      refine G_aald X (t0 := 7) (b := fAd (eF E) (56 + l1.toNatClampNeg)) 55 (eC55 _ _ _) rfl rfl hi13 (if_pos hw14) dX5_sum_56 ?_
      refine G_getf X inX3 (56 + l1.toNatClampNeg) (eCf56 _ _ _ _ hw14) rfl 2 (by decide) qw147 rfl dX5_sum_57 ?_
      refine G_iload X dX5_sum_60 3 rfl ?_
      have hi15 := gI_n h
      have h := gI_k h
      refine G_dald X (j := l4.toNatClampNeg) (60 + l1.toNatClampNeg) (eCf60 _ _ _ _ hw14) hi15 rfl dX5_sum_62 ?_
      have hv16 := g64_n h
      refine G_dadd X dX5_sum_63 hv16 ?_
      refine G_topd (fun v16 ev16 => ?_)
      have h := g64_k ev16 h
      refine G_dstore_n X (lv2 := [(2, .double v16), (0, .ref (fAd (eF E) 0)), (1, .int l1), (4, .int l4)]) dX5_sum_64 rfl (by decide) rfl ?_
      obtain ⟨v17, ev17⟩ : ∃ y : Int32, y = l4 + 1 := ⟨_, rfl⟩
      have h := bv_k ev17 h
      refine G_iinc X (q := 3) (v := v17) (lv2 := [(4, .int v17), (2, .double v16), (0, .ref (fAd (eF E) 0)), (1, .int l1)]) dX5_sum_65 rfl (by rw [ev17]; rfl) (by decide) rfl ?_
      refine G_goto X (tgt := 36) dX5_sum_68 (by decide) ?_
      exact G_sub [2, 3, 1, 0] rfl (ih _ _ _ (lpl (so h) hx) K)
set_option maxHeartbeats 4000000 in
set_option maxRecDepth 100000 in
theorem b_X5_sum {E : pfE} (X : CX cellsC E cX5_sum RX5 rm_X5_sum 5) (x1 : Int32) (A : St) {out : Int64 × St} (hQ : Retl cellsC E cX5_sum out.1 out.2) (h : f_X5_sum x1 A = some out) : GG cellsC E A 0 [(0, .ref (fAd (eF E) 0)), (1, .int x1)] [] := by
  unfold f_X5_sum at h
  refine G_iload_n X dX5_sum_0 rfl 1 rfl ?_
  obtain ⟨r1, hz2, h⟩ := cl_k h
  refine G_callS_i X (As := [.int x1]) (rest := []) ok_X5_isSheet qw540 ⟨rfl, rfl, Nat.le_of_ble_eq_true rfl, Nat.le_of_ble_eq_true rfl⟩ (m_X5_isSheet X.d hz2) rfl rfl (Nat.le_of_ble_eq_true rfl) dX5_sum_1 ?_
  refine G_ifne X (tgt := 13) dX5_sum_4 (by decide) (fun c3 => ?_) (fun c3 => ?_)
  · have h := if_t c3 h
    refine G_aload_n X dX5_sum_7 rfl 0 rfl ?_
    refine G_iconst X (v := 0) dX5_sum_8 rfl ?_
    obtain ⟨r26, A28, hz27, h⟩ := cl2_k h
    refine G_callV_l X (As := [.int 0]) (rest := []) ok_X5_longFinding qw260 0 (eC0 _ _ _) rfl rfl ⟨rfl, rfl, Nat.le_of_ble_eq_true rfl, Nat.le_of_ble_eq_true rfl⟩ (m_X5_longFinding X.d hz27) rfl rfl (Nat.le_of_ble_eq_true rfl) dX5_sum_9 ?_
    have e := so h
    subst e
    exact hQ _ _ dX5_sum_12
  · have h := if_f c3 h
    refine G_aload_n X dX5_sum_13 rfl 0 rfl ?_
    refine G_getf X inX5 0 (eC0 _ _ _) rfl 6 (by decide) qw161 rfl dX5_sum_14 ?_
    refine G_iload_n X dX5_sum_17 rfl 1 rfl ?_
    have hi4 := gI_n h
    have h := gI_k h
    have hw5 := vlt hi4
    refine G_aald X (t0 := 7) (b := fAd (eF E) (56 + x1.toNatClampNeg)) 55 (eC55 _ _ _) rfl rfl hi4 (if_pos hw5) dX5_sum_18 ?_
    obtain ⟨r6, hz7, h⟩ := cl_k h
    refine G_callV_i X (As := []) (rest := []) ok_X3_isMissing qw551 (56 + x1.toNatClampNeg) (eCf56 _ _ _ _ hw5) rfl rfl ⟨rfl, rfl, Nat.le_of_ble_eq_true rfl, Nat.le_of_ble_eq_true rfl⟩ (m_X3_isMissing X.d hw5 hz7) rfl rfl (Nat.le_of_ble_eq_true rfl) dX5_sum_19 ?_
    refine G_ifeq X (tgt := 31) dX5_sum_22 (by decide) (fun c8 => ?_) (fun c8 => ?_)
    · have h := if_t c8 h
      refine G_dconst0 X dX5_sum_31 ?_
      refine G_topd (fun v9 ev9 => ?_)
      have h := bv_k ev9 h
      refine G_dstore_n X (lv2 := [(2, .double v9), (0, .ref (fAd (eF E) 0)), (1, .int x1)]) dX5_sum_32 rfl (by decide) rfl ?_
      refine G_iconst X (v := 0) dX5_sum_33 rfl ?_
      refine G_istore X (lv2 := [(4, .int 0), (2, .double v9), (0, .ref (fAd (eF E) 0)), (1, .int x1)]) dX5_sum_34 (by decide) rfl ?_
      obtain ⟨ρ, hl, h⟩ := cl_k h
      obtain ⟨n, hl⟩ := loop_some hl
      refine G_sub [2, 3, 1, 0] rfl (g_X5_sum_L36 X A x1 n _ _ ρ hl ?_)
      intro v18 e
      rw [e] at h
      have h : f_X5_sum_X71 A v18 = some _ := h
      unfold f_X5_sum_X71 at h
      refine G_dload_n X dX5_sum_71 rfl 0 rfl ?_
      obtain ⟨r19, hz20, h⟩ := cl_k h
      refine G_callS_l X (As := [.double v18]) (rest := []) ok_X2_doubleBits qw289 ⟨rfl, rfl, Nat.le_of_ble_eq_true rfl, Nat.le_of_ble_eq_true rfl⟩ (m_X2_doubleBits X.d hz20) rfl rfl (Nat.le_of_ble_eq_true rfl) dX5_sum_72 ?_
      have e := so h
      subst e
      exact hQ _ _ dX5_sum_75
    · have h := if_f c8 h
      refine G_aload_n X dX5_sum_25 rfl 0 rfl ?_
      refine G_iconst X (v := 5) dX5_sum_26 rfl ?_
      obtain ⟨r23, A25, hz24, h⟩ := cl2_k h
      refine G_callV_l X (As := [.int 5]) (rest := []) ok_X5_longFinding qw260 0 (eC0 _ _ _) rfl rfl ⟨rfl, rfl, Nat.le_of_ble_eq_true rfl, Nat.le_of_ble_eq_true rfl⟩ (m_X5_longFinding X.d hz24) rfl rfl (Nat.le_of_ble_eq_true rfl) dX5_sum_27 ?_
      have e := so h
      subst e
      exact hQ _ _ dX5_sum_30
theorem m_X5_sum {l : Launch} {F : pfF} (hD : ∀ A, va_D (fA F) (cellsC (fAd F) (fCy F) A)) {x1 : Int32} {A : St} {out : Int64 × St} (h : f_X5_sum x1 A = some out) : Mt l F cellsC yX5_sum cX5_sum 5 (some .long) rm_X5_sum [.ref (fAd F 0), .int x1] A (va_Ql (fun (r : Int64) (u : St) => r = out.1 ∧ u = out.2) (Wd cellsC F) (fA F)) := by
  refine Met_l (by decide +kernel) (Nat.le_of_ble_eq_true rfl) hD (fun E el ef X hQ => ?_)
  subst el
  subst ef
  exact b_X5_sum X _ _ hQ h
theorem ok_X5_sum : OkV yX5_sum cX5_sum 5 (some .long) 1 := ⟨qw607, qw608, qw1, qw609, by decide, by decide, by decide⟩
noncomputable def f_X0_become_L10 (l2 : Int32) (A : St) : Option ((Int32 × St) ⊕ (St)) :=
  if 7 < l2 then
    some (.inr A)
  else
    gI l2 8 <|
    gI l2 8 <|
    bv (rwI A (20 + l2.toNatClampNeg) (va_cpy (A.1 (5 + l2.toNatClampNeg)) (A.1 (20 + l2.toNatClampNeg)) 0 0 12)) fun A7 =>
    bv (l2 + 1) fun v8 =>
    some (.inl (v8, A7))
noncomputable def f_X0_become_X41 (A : St) : Option (St) :=
  bv (rwI A 28 (va_cpy (A.1 13) (A.1 28) 0 0 4)) fun A16 =>
  bv (rwI A16 29 (va_cpy (A16.1 14) (A16.1 29) 0 0 4)) fun A17 =>
  bv (rwI A17 30 (va_cpy (A17.1 15) (A17.1 30) 0 0 4)) fun A18 =>
  bv (rwI A18 31 (va_cpy (A18.1 16) (A18.1 31) 0 0 4)) fun A19 =>
  bv (rwI A19 32 (va_cpy (A19.1 17) (A19.1 32) 0 0 3)) fun A20 =>
  bv (upI A20 18 7 (A20.1 3 7)) fun A21 =>
  some A21
noncomputable def f_X0_become (A : St) : Option (St) :=
  bv (upI A 18 0 (A.1 3 0)) fun A1 =>
  cl (loop (fun s => f_X0_become_L10 s.1 s.2) (0, A1)) (fun s => f_X0_become_X41 s)
abbrev rm_X0_become : Room := { frames := 1, cells := 0, slots := 0, locals := 40 }
set_option maxHeartbeats 4000000 in
set_option maxRecDepth 100000 in
theorem g_X0_become_L10 {E : pfE} (X : CX cellsC E cX0_become RX0 rm_X0_become 3) : ∀ (n : Nat) (l2 : Int32) (A : St) (ρ : St), lp (fun s => f_X0_become_L10 s.1 s.2) n (l2, A) = some ρ → (∀ (B : St), ρ = B → GG cellsC E B 41 [(0, .ref (fAd (eF E) 18)), (1, .ref (fAd (eF E) 3))] []) → GG cellsC E A 10 [(0, .ref (fAd (eF E) 18)), (1, .ref (fAd (eF E) 3)), (2, .int l2)] [] := by
  intro n
  induction n with
  | zero =>
    intro l2 A ρ h
    cases h
  | succ n ih =>
    intro l2 A ρ h0 K
    obtain ⟨x, hb, hx⟩ := lp_step h0
    have h : f_X0_become_L10 l2 A = some x := hb
    unfold f_X0_become_L10 at h
    clear hb h0
    refine G_iload_n X dX0_become_10 rfl 2 rfl ?_
    refine G_bipush X (v := 7) dX0_become_11 rfl ?_
    refine G_icgt X (tgt := 41) dX0_become_13 (by decide) (fun c2 => ?_) (fun c2 => ?_)
    · have h := if_t c2 h
      exact G_sub [0, 1] rfl (K _ (lpr (so h) hx).symm)
    · have h := if_f c2 h
      refine G_aload_n X dX0_become_16 rfl 1 rfl ?_
      refine G_getf X inX0 3 (eC3 _ _ _) rfl 1 (by decide) qw38 rfl dX0_become_17 ?_
      refine G_iload_n X dX0_become_20 rfl 2 rfl ?_
      have hi3 := gI_n h
      have h := gI_k h
      have hw4 := vlt hi3
      refine G_aald X (t0 := 3) (b := fAd (eF E) (5 + l2.toNatClampNeg)) 4 (eC4 _ _ _) rfl rfl hi3 (if_pos hw4) dX0_become_21 ?_
      refine G_iconst X (v := 0) dX0_become_22 rfl ?_
      refine G_aload_n X dX0_become_23 rfl 0 rfl ?_
      refine G_getf X inX0 18 (eC18 _ _ _) rfl 1 (by decide) qw38 rfl dX0_become_24 ?_
      refine G_iload_n X dX0_become_27 rfl 2 rfl ?_
      have hi5 := gI_n h
      have h := gI_k h
      have hw6 := vlt hi5
      refine G_aald X (t0 := 3) (b := fAd (eF E) (20 + l2.toNatClampNeg)) 19 (eC19 _ _ _) rfl rfl hi5 (if_pos hw6) dX0_become_28 ?_
      refine G_iconst X (v := 0) dX0_become_29 rfl ?_
      refine G_bipush X (v := 12) dX0_become_30 rfl ?_
      refine G_copyi X (sp := 0) (dp := 0) (n := 12) qw618 qw589 qw588 qw12 (5 + l2.toNatClampNeg) (20 + l2.toNatClampNeg) (eCf5 _ _ _ _ hw4) (eCf20 _ _ _ _ hw6) (wCI _ _ _ _ _ _ (fun _ => fC20 _ _ _ _ hw6)) (by decide) (by decide) (by decide) (by decide) (by decide) (Nat.le_of_ble_eq_true rfl) (Nat.le_of_ble_eq_true rfl) dX0_become_32 ?_
      refine G_topS (fun A7 eA7 => ?_)
      have h := bv_k eA7 h
      obtain ⟨v8, ev8⟩ : ∃ y : Int32, y = l2 + 1 := ⟨_, rfl⟩
      have h := bv_k ev8 h
      refine G_iinc X (q := 2) (v := v8) (lv2 := [(2, .int v8), (0, .ref (fAd (eF E) 18)), (1, .ref (fAd (eF E) 3))]) dX0_become_35 rfl (by rw [ev8]; rfl) (by decide) rfl ?_
      refine G_goto X (tgt := 10) dX0_become_38 (by decide) ?_
      exact G_sub [1, 2, 0] rfl (ih _ _ _ (lpl (so h) hx) K)
set_option maxHeartbeats 4000000 in
set_option maxRecDepth 100000 in
theorem b_X0_become {E : pfE} (X : CX cellsC E cX0_become RX0 rm_X0_become 3) (A : St) {out : St} (hQ : Retv cellsC E cX0_become out) (h : f_X0_become A = some out) : GG cellsC E A 0 [(0, .ref (fAd (eF E) 18)), (1, .ref (fAd (eF E) 3))] [] := by
  unfold f_X0_become at h
  refine G_aload_n X dX0_become_0 rfl 0 rfl ?_
  refine G_aload_n X dX0_become_1 rfl 1 rfl ?_
  refine G_getf X inX0 3 (eC3 _ _ _) rfl 0 (by decide) qw35 rfl dX0_become_2 ?_
  refine G_putf X (ty := .int) tyX0 tyX0_ok nmX0 inX0 18 (eC18 _ _ _) rfl 0 (by decide) qw35 rfl (by decide +kernel) rfl rfl (Nat.le_of_ble_eq_true rfl) (oCI _ _ _ _ 0 (A.1 3 0) _ rfl) dX0_become_5 ?_
  refine G_topS (fun A1 eA1 => ?_)
  have h := bv_k eA1 h
  refine G_iconst X (v := 0) dX0_become_8 rfl ?_
  refine G_istore_n X (lv2 := [(2, .int 0), (0, .ref (fAd (eF E) 18)), (1, .ref (fAd (eF E) 3))]) dX0_become_9 rfl (by decide) rfl ?_
  obtain ⟨ρ, hl, h⟩ := cl_k h
  obtain ⟨n, hl⟩ := loop_some hl
  refine G_sub [1, 2, 0] rfl (g_X0_become_L10 X n _ _ ρ hl ?_)
  intro A9 e
  rw [e] at h
  have h : f_X0_become_X41 A9 = some _ := h
  unfold f_X0_become_X41 at h
  refine G_aload_n X dX0_become_41 rfl 1 rfl ?_
  refine G_getf X inX0 3 (eC3 _ _ _) rfl 2 (by decide) qw41 rfl dX0_become_42 ?_
  refine G_iconst X (v := 0) dX0_become_45 rfl ?_
  refine G_aload_n X dX0_become_46 rfl 0 rfl ?_
  refine G_getf X inX0 18 (eC18 _ _ _) rfl 2 (by decide) qw41 rfl dX0_become_47 ?_
  refine G_iconst X (v := 0) dX0_become_50 rfl ?_
  refine G_iconst X (v := 4) dX0_become_51 rfl ?_
  refine G_copyi X (sp := 0) (dp := 0) (n := 4) qw618 qw589 qw588 qw12 13 28 (eC13 _ _ _) (eC28 _ _ _) (wCI _ _ _ _ _ _ (fun _ => rfl)) (by decide) (by decide) (by decide) (by decide) (by decide) (Nat.le_of_ble_eq_true rfl) (Nat.le_of_ble_eq_true rfl) dX0_become_52 ?_
  refine G_topS (fun A10 eA10 => ?_)
  have h := bv_k eA10 h
  refine G_aload_n X dX0_become_55 rfl 1 rfl ?_
  refine G_getf X inX0 3 (eC3 _ _ _) rfl 3 (by decide) qw44 rfl dX0_become_56 ?_
  refine G_iconst X (v := 0) dX0_become_59 rfl ?_
  refine G_aload_n X dX0_become_60 rfl 0 rfl ?_
  refine G_getf X inX0 18 (eC18 _ _ _) rfl 3 (by decide) qw44 rfl dX0_become_61 ?_
  refine G_iconst X (v := 0) dX0_become_64 rfl ?_
  refine G_iconst X (v := 4) dX0_become_65 rfl ?_
  refine G_copyi X (sp := 0) (dp := 0) (n := 4) qw618 qw589 qw588 qw12 14 29 (eC14 _ _ _) (eC29 _ _ _) (wCI _ _ _ _ _ _ (fun _ => rfl)) (by decide) (by decide) (by decide) (by decide) (by decide) (Nat.le_of_ble_eq_true rfl) (Nat.le_of_ble_eq_true rfl) dX0_become_66 ?_
  refine G_topS (fun A11 eA11 => ?_)
  have h := bv_k eA11 h
  refine G_aload_n X dX0_become_69 rfl 1 rfl ?_
  refine G_getf X inX0 3 (eC3 _ _ _) rfl 4 (by decide) qw47 rfl dX0_become_70 ?_
  refine G_iconst X (v := 0) dX0_become_73 rfl ?_
  refine G_aload_n X dX0_become_74 rfl 0 rfl ?_
  refine G_getf X inX0 18 (eC18 _ _ _) rfl 4 (by decide) qw47 rfl dX0_become_75 ?_
  refine G_iconst X (v := 0) dX0_become_78 rfl ?_
  refine G_iconst X (v := 4) dX0_become_79 rfl ?_
  refine G_copyi X (sp := 0) (dp := 0) (n := 4) qw618 qw589 qw588 qw12 15 30 (eC15 _ _ _) (eC30 _ _ _) (wCI _ _ _ _ _ _ (fun _ => rfl)) (by decide) (by decide) (by decide) (by decide) (by decide) (Nat.le_of_ble_eq_true rfl) (Nat.le_of_ble_eq_true rfl) dX0_become_80 ?_
  refine G_topS (fun A12 eA12 => ?_)
  have h := bv_k eA12 h
  refine G_aload_n X dX0_become_83 rfl 1 rfl ?_
  refine G_getf X inX0 3 (eC3 _ _ _) rfl 5 (by decide) qw50 rfl dX0_become_84 ?_
  refine G_iconst X (v := 0) dX0_become_87 rfl ?_
  refine G_aload_n X dX0_become_88 rfl 0 rfl ?_
  refine G_getf X inX0 18 (eC18 _ _ _) rfl 5 (by decide) qw50 rfl dX0_become_89 ?_
  refine G_iconst X (v := 0) dX0_become_92 rfl ?_
  refine G_iconst X (v := 4) dX0_become_93 rfl ?_
  refine G_copyi X (sp := 0) (dp := 0) (n := 4) qw618 qw589 qw588 qw12 16 31 (eC16 _ _ _) (eC31 _ _ _) (wCI _ _ _ _ _ _ (fun _ => rfl)) (by decide) (by decide) (by decide) (by decide) (by decide) (Nat.le_of_ble_eq_true rfl) (Nat.le_of_ble_eq_true rfl) dX0_become_94 ?_
  refine G_topS (fun A13 eA13 => ?_)
  have h := bv_k eA13 h
  refine G_aload_n X dX0_become_97 rfl 1 rfl ?_
  refine G_getf X inX0 3 (eC3 _ _ _) rfl 6 (by decide) qw53 rfl dX0_become_98 ?_
  refine G_iconst X (v := 0) dX0_become_101 rfl ?_
  refine G_aload_n X dX0_become_102 rfl 0 rfl ?_
  refine G_getf X inX0 18 (eC18 _ _ _) rfl 6 (by decide) qw53 rfl dX0_become_103 ?_
  refine G_iconst X (v := 0) dX0_become_106 rfl ?_
  refine G_iconst X (v := 3) dX0_become_107 rfl ?_
  refine G_copyi X (sp := 0) (dp := 0) (n := 3) qw618 qw589 qw588 qw12 17 32 (eC17 _ _ _) (eC32 _ _ _) (wCI _ _ _ _ _ _ (fun _ => rfl)) (by decide) (by decide) (by decide) (by decide) (by decide) (Nat.le_of_ble_eq_true rfl) (Nat.le_of_ble_eq_true rfl) dX0_become_108 ?_
  refine G_topS (fun A14 eA14 => ?_)
  have h := bv_k eA14 h
  refine G_aload_n X dX0_become_111 rfl 0 rfl ?_
  refine G_aload_n X dX0_become_112 rfl 1 rfl ?_
  refine G_getf X inX0 3 (eC3 _ _ _) rfl 7 (by decide) qw56 rfl dX0_become_113 ?_
  refine G_putf X (ty := .int) tyX0 tyX0_ok nmX0 inX0 18 (eC18 _ _ _) rfl 7 (by decide) qw56 rfl (by decide +kernel) rfl rfl (Nat.le_of_ble_eq_true rfl) (oCI _ _ _ _ 7 (A14.1 3 7) _ rfl) dX0_become_116 ?_
  refine G_topS (fun A15 eA15 => ?_)
  have h := bv_k eA15 h
  have e := so h
  subst e
  exact hQ _ _ dX0_become_119
theorem m_X0_become {l : Launch} {F : pfF} (hD : ∀ A, va_D (fA F) (cellsC (fAd F) (fCy F) A)) {A : St} {out : St} (h : f_X0_become A = some out) : Mt l F cellsC yX0_become cX0_become 3 none rm_X0_become [.ref (fAd F 18), .ref (fAd F 3)] A (va_Qv (fun (u : St) => u = out) (Wd cellsC F) (fA F)) := by
  refine Met_v (by decide +kernel) (Nat.le_of_ble_eq_true rfl) hD (fun E el ef X hQ => ?_)
  subst el
  subst ef
  exact b_X0_become X _ hQ h
theorem ok_X0_become : OkV yX0_become cX0_become 3 none 1 := ⟨qw615, qw616, qw3, qw617, by decide, by decide, by decide⟩
noncomputable def f_X5_image (A : St) : Option (Int32 × St) :=
  cl (f_X0_become A) fun A3 =>
  bv (upI A3 0 4 1) fun A4 =>
  some (1, A4)
abbrev rm_X5_image : Room := { frames := 2, cells := 0, slots := 0, locals := 62 }
set_option maxHeartbeats 4000000 in
set_option maxRecDepth 100000 in
theorem b_X5_image {E : pfE} (X : CX cellsC E cX5_image RX5 rm_X5_image 1) (A : St) {out : Int32 × St} (hQ : Reti cellsC E cX5_image out.1 out.2) (h : f_X5_image A = some out) : GG cellsC E A 0 [(0, .ref (fAd (eF E) 0))] [] := by
  unfold f_X5_image at h
  refine G_aload_n X dX5_image_0 rfl 0 rfl ?_
  refine G_getf X inX5 0 (eC0 _ _ _) rfl 3 (by decide) qw158 rfl dX5_image_1 ?_
  refine G_aload_n X dX5_image_4 rfl 0 rfl ?_
  refine G_getf X inX5 0 (eC0 _ _ _) rfl 2 (by decide) qw157 rfl dX5_image_5 ?_
  obtain ⟨A3, hz2, h⟩ := cl_k h
  refine G_callV_v X (As := [.ref (fAd (eF E) 3)]) (rest := []) ok_X0_become qw614 18 (eC18 _ _ _) rfl rfl ⟨rfl, rfl, Nat.le_of_ble_eq_true rfl, Nat.le_of_ble_eq_true rfl⟩ (m_X0_become X.d hz2) rfl rfl (Nat.le_of_ble_eq_true rfl) dX5_image_8 ?_
  refine G_aload_n X dX5_image_11 rfl 0 rfl ?_
  refine G_iconst X (v := 1) dX5_image_12 rfl ?_
  refine G_putf X (ty := .boolean) tyX5 tyX5_ok nmX5 inX5 0 (eC0 _ _ _) rfl 4 (by decide) qw159 rfl (by decide +kernel) rfl rfl (Nat.le_of_ble_eq_true rfl) (oCI _ _ _ _ 4 1 _ rfl) dX5_image_13 ?_
  refine G_topS (fun A4 eA4 => ?_)
  have h := bv_k eA4 h
  refine G_iconst X (v := 1) dX5_image_16 rfl ?_
  have e := so h
  subst e
  exact hQ _ _ dX5_image_17
theorem m_X5_image {l : Launch} {F : pfF} (hD : ∀ A, va_D (fA F) (cellsC (fAd F) (fCy F) A)) {A : St} {out : Int32 × St} (h : f_X5_image A = some out) : Mt l F cellsC yX5_image cX5_image 1 (some .int) rm_X5_image [.ref (fAd F 0)] A (va_Qi (fun (r : Int32) (u : St) => r = out.1 ∧ u = out.2) (Wd cellsC F) (fA F)) := by
  refine Met_i (by decide +kernel) (Nat.le_of_ble_eq_true rfl) hD (fun E el ef X hQ => ?_)
  subst el
  subst ef
  exact b_X5_image X _ hQ h
theorem ok_X5_image : OkV yX5_image cX5_image 1 (some .int) 0 := ⟨qw611, qw612, qw1, qw613, by decide, by decide, by decide⟩
noncomputable def f_X0_becomea_L10 (l2 : Int32) (A : St) : Option ((Int32 × St) ⊕ (St)) :=
  if 7 < l2 then
    some (.inr A)
  else
    gI l2 8 <|
    gI l2 8 <|
    bv (rwI A (5 + l2.toNatClampNeg) (va_cpy (A.1 (20 + l2.toNatClampNeg)) (A.1 (5 + l2.toNatClampNeg)) 0 0 12)) fun A7 =>
    bv (l2 + 1) fun v8 =>
    some (.inl (v8, A7))
noncomputable def f_X0_becomea_X41 (A : St) : Option (St) :=
  bv (rwI A 13 (va_cpy (A.1 28) (A.1 13) 0 0 4)) fun A16 =>
  bv (rwI A16 14 (va_cpy (A16.1 29) (A16.1 14) 0 0 4)) fun A17 =>
  bv (rwI A17 15 (va_cpy (A17.1 30) (A17.1 15) 0 0 4)) fun A18 =>
  bv (rwI A18 16 (va_cpy (A18.1 31) (A18.1 16) 0 0 4)) fun A19 =>
  bv (rwI A19 17 (va_cpy (A19.1 32) (A19.1 17) 0 0 3)) fun A20 =>
  bv (upI A20 3 7 (A20.1 18 7)) fun A21 =>
  some A21
noncomputable def f_X0_becomea (A : St) : Option (St) :=
  bv (upI A 3 0 (A.1 18 0)) fun A1 =>
  cl (loop (fun s => f_X0_becomea_L10 s.1 s.2) (0, A1)) (fun s => f_X0_becomea_X41 s)
abbrev rm_X0_becomea : Room := { frames := 1, cells := 0, slots := 0, locals := 40 }
set_option maxHeartbeats 4000000 in
set_option maxRecDepth 100000 in
theorem g_X0_becomea_L10 {E : pfE} (X : CX cellsC E cX0_become RX0 rm_X0_becomea 3) : ∀ (n : Nat) (l2 : Int32) (A : St) (ρ : St), lp (fun s => f_X0_becomea_L10 s.1 s.2) n (l2, A) = some ρ → (∀ (B : St), ρ = B → GG cellsC E B 41 [(0, .ref (fAd (eF E) 3)), (1, .ref (fAd (eF E) 18))] []) → GG cellsC E A 10 [(0, .ref (fAd (eF E) 3)), (1, .ref (fAd (eF E) 18)), (2, .int l2)] [] := by
  intro n
  induction n with
  | zero =>
    intro l2 A ρ h
    cases h
  | succ n ih =>
    intro l2 A ρ h0 K
    obtain ⟨x, hb, hx⟩ := lp_step h0
    have h : f_X0_becomea_L10 l2 A = some x := hb
    unfold f_X0_becomea_L10 at h
    clear hb h0
    refine G_iload_n X dX0_become_10 rfl 2 rfl ?_
    refine G_bipush X (v := 7) dX0_become_11 rfl ?_
    refine G_icgt X (tgt := 41) dX0_become_13 (by decide) (fun c2 => ?_) (fun c2 => ?_)
    · have h := if_t c2 h
      exact G_sub [0, 1] rfl (K _ (lpr (so h) hx).symm)
    · have h := if_f c2 h
      refine G_aload_n X dX0_become_16 rfl 1 rfl ?_
      refine G_getf X inX0 18 (eC18 _ _ _) rfl 1 (by decide) qw38 rfl dX0_become_17 ?_
      refine G_iload_n X dX0_become_20 rfl 2 rfl ?_
      have hi3 := gI_n h
      have h := gI_k h
      have hw4 := vlt hi3
      refine G_aald X (t0 := 3) (b := fAd (eF E) (20 + l2.toNatClampNeg)) 19 (eC19 _ _ _) rfl rfl hi3 (if_pos hw4) dX0_become_21 ?_
      refine G_iconst X (v := 0) dX0_become_22 rfl ?_
      refine G_aload_n X dX0_become_23 rfl 0 rfl ?_
      refine G_getf X inX0 3 (eC3 _ _ _) rfl 1 (by decide) qw38 rfl dX0_become_24 ?_
      refine G_iload_n X dX0_become_27 rfl 2 rfl ?_
      have hi5 := gI_n h
      have h := gI_k h
      have hw6 := vlt hi5
      refine G_aald X (t0 := 3) (b := fAd (eF E) (5 + l2.toNatClampNeg)) 4 (eC4 _ _ _) rfl rfl hi5 (if_pos hw6) dX0_become_28 ?_
      refine G_iconst X (v := 0) dX0_become_29 rfl ?_
      refine G_bipush X (v := 12) dX0_become_30 rfl ?_
      refine G_copyi X (sp := 0) (dp := 0) (n := 12) qw618 qw589 qw588 qw12 (20 + l2.toNatClampNeg) (5 + l2.toNatClampNeg) (eCf20 _ _ _ _ hw4) (eCf5 _ _ _ _ hw6) (wCI _ _ _ _ _ _ (fun _ => fC5 _ _ _ _ hw6)) (by decide) (by decide) (by decide) (by decide) (by decide) (Nat.le_of_ble_eq_true rfl) (Nat.le_of_ble_eq_true rfl) dX0_become_32 ?_
      refine G_topS (fun A7 eA7 => ?_)
      have h := bv_k eA7 h
      obtain ⟨v8, ev8⟩ : ∃ y : Int32, y = l2 + 1 := ⟨_, rfl⟩
      have h := bv_k ev8 h
      refine G_iinc X (q := 2) (v := v8) (lv2 := [(2, .int v8), (0, .ref (fAd (eF E) 3)), (1, .ref (fAd (eF E) 18))]) dX0_become_35 rfl (by rw [ev8]; rfl) (by decide) rfl ?_
      refine G_goto X (tgt := 10) dX0_become_38 (by decide) ?_
      exact G_sub [1, 2, 0] rfl (ih _ _ _ (lpl (so h) hx) K)
set_option maxHeartbeats 4000000 in
set_option maxRecDepth 100000 in
theorem b_X0_becomea {E : pfE} (X : CX cellsC E cX0_become RX0 rm_X0_becomea 3) (A : St) {out : St} (hQ : Retv cellsC E cX0_become out) (h : f_X0_becomea A = some out) : GG cellsC E A 0 [(0, .ref (fAd (eF E) 3)), (1, .ref (fAd (eF E) 18))] [] := by
  unfold f_X0_becomea at h
  refine G_aload_n X dX0_become_0 rfl 0 rfl ?_
  refine G_aload_n X dX0_become_1 rfl 1 rfl ?_
  refine G_getf X inX0 18 (eC18 _ _ _) rfl 0 (by decide) qw35 rfl dX0_become_2 ?_
  refine G_putf X (ty := .int) tyX0 tyX0_ok nmX0 inX0 3 (eC3 _ _ _) rfl 0 (by decide) qw35 rfl (by decide +kernel) rfl rfl (Nat.le_of_ble_eq_true rfl) (oCI _ _ _ _ 0 (A.1 18 0) _ rfl) dX0_become_5 ?_
  refine G_topS (fun A1 eA1 => ?_)
  have h := bv_k eA1 h
  refine G_iconst X (v := 0) dX0_become_8 rfl ?_
  refine G_istore_n X (lv2 := [(2, .int 0), (0, .ref (fAd (eF E) 3)), (1, .ref (fAd (eF E) 18))]) dX0_become_9 rfl (by decide) rfl ?_
  obtain ⟨ρ, hl, h⟩ := cl_k h
  obtain ⟨n, hl⟩ := loop_some hl
  refine G_sub [1, 2, 0] rfl (g_X0_becomea_L10 X n _ _ ρ hl ?_)
  intro A9 e
  rw [e] at h
  have h : f_X0_becomea_X41 A9 = some _ := h
  unfold f_X0_becomea_X41 at h
  refine G_aload_n X dX0_become_41 rfl 1 rfl ?_
  refine G_getf X inX0 18 (eC18 _ _ _) rfl 2 (by decide) qw41 rfl dX0_become_42 ?_
  refine G_iconst X (v := 0) dX0_become_45 rfl ?_
  refine G_aload_n X dX0_become_46 rfl 0 rfl ?_
  refine G_getf X inX0 3 (eC3 _ _ _) rfl 2 (by decide) qw41 rfl dX0_become_47 ?_
  refine G_iconst X (v := 0) dX0_become_50 rfl ?_
  refine G_iconst X (v := 4) dX0_become_51 rfl ?_
  refine G_copyi X (sp := 0) (dp := 0) (n := 4) qw618 qw589 qw588 qw12 28 13 (eC28 _ _ _) (eC13 _ _ _) (wCI _ _ _ _ _ _ (fun _ => rfl)) (by decide) (by decide) (by decide) (by decide) (by decide) (Nat.le_of_ble_eq_true rfl) (Nat.le_of_ble_eq_true rfl) dX0_become_52 ?_
  refine G_topS (fun A10 eA10 => ?_)
  have h := bv_k eA10 h
  refine G_aload_n X dX0_become_55 rfl 1 rfl ?_
  refine G_getf X inX0 18 (eC18 _ _ _) rfl 3 (by decide) qw44 rfl dX0_become_56 ?_
  refine G_iconst X (v := 0) dX0_become_59 rfl ?_
  refine G_aload_n X dX0_become_60 rfl 0 rfl ?_
  refine G_getf X inX0 3 (eC3 _ _ _) rfl 3 (by decide) qw44 rfl dX0_become_61 ?_
  refine G_iconst X (v := 0) dX0_become_64 rfl ?_
  refine G_iconst X (v := 4) dX0_become_65 rfl ?_
  refine G_copyi X (sp := 0) (dp := 0) (n := 4) qw618 qw589 qw588 qw12 29 14 (eC29 _ _ _) (eC14 _ _ _) (wCI _ _ _ _ _ _ (fun _ => rfl)) (by decide) (by decide) (by decide) (by decide) (by decide) (Nat.le_of_ble_eq_true rfl) (Nat.le_of_ble_eq_true rfl) dX0_become_66 ?_
  refine G_topS (fun A11 eA11 => ?_)
  have h := bv_k eA11 h
  refine G_aload_n X dX0_become_69 rfl 1 rfl ?_
  refine G_getf X inX0 18 (eC18 _ _ _) rfl 4 (by decide) qw47 rfl dX0_become_70 ?_
  refine G_iconst X (v := 0) dX0_become_73 rfl ?_
  refine G_aload_n X dX0_become_74 rfl 0 rfl ?_
  refine G_getf X inX0 3 (eC3 _ _ _) rfl 4 (by decide) qw47 rfl dX0_become_75 ?_
  refine G_iconst X (v := 0) dX0_become_78 rfl ?_
  refine G_iconst X (v := 4) dX0_become_79 rfl ?_
  refine G_copyi X (sp := 0) (dp := 0) (n := 4) qw618 qw589 qw588 qw12 30 15 (eC30 _ _ _) (eC15 _ _ _) (wCI _ _ _ _ _ _ (fun _ => rfl)) (by decide) (by decide) (by decide) (by decide) (by decide) (Nat.le_of_ble_eq_true rfl) (Nat.le_of_ble_eq_true rfl) dX0_become_80 ?_
  refine G_topS (fun A12 eA12 => ?_)
  have h := bv_k eA12 h
  refine G_aload_n X dX0_become_83 rfl 1 rfl ?_
  refine G_getf X inX0 18 (eC18 _ _ _) rfl 5 (by decide) qw50 rfl dX0_become_84 ?_
  refine G_iconst X (v := 0) dX0_become_87 rfl ?_
  refine G_aload_n X dX0_become_88 rfl 0 rfl ?_
  refine G_getf X inX0 3 (eC3 _ _ _) rfl 5 (by decide) qw50 rfl dX0_become_89 ?_
  refine G_iconst X (v := 0) dX0_become_92 rfl ?_
  refine G_iconst X (v := 4) dX0_become_93 rfl ?_
  refine G_copyi X (sp := 0) (dp := 0) (n := 4) qw618 qw589 qw588 qw12 31 16 (eC31 _ _ _) (eC16 _ _ _) (wCI _ _ _ _ _ _ (fun _ => rfl)) (by decide) (by decide) (by decide) (by decide) (by decide) (Nat.le_of_ble_eq_true rfl) (Nat.le_of_ble_eq_true rfl) dX0_become_94 ?_
  refine G_topS (fun A13 eA13 => ?_)
  have h := bv_k eA13 h
  refine G_aload_n X dX0_become_97 rfl 1 rfl ?_
  refine G_getf X inX0 18 (eC18 _ _ _) rfl 6 (by decide) qw53 rfl dX0_become_98 ?_
  refine G_iconst X (v := 0) dX0_become_101 rfl ?_
  refine G_aload_n X dX0_become_102 rfl 0 rfl ?_
  refine G_getf X inX0 3 (eC3 _ _ _) rfl 6 (by decide) qw53 rfl dX0_become_103 ?_
  refine G_iconst X (v := 0) dX0_become_106 rfl ?_
  refine G_iconst X (v := 3) dX0_become_107 rfl ?_
  refine G_copyi X (sp := 0) (dp := 0) (n := 3) qw618 qw589 qw588 qw12 32 17 (eC32 _ _ _) (eC17 _ _ _) (wCI _ _ _ _ _ _ (fun _ => rfl)) (by decide) (by decide) (by decide) (by decide) (by decide) (Nat.le_of_ble_eq_true rfl) (Nat.le_of_ble_eq_true rfl) dX0_become_108 ?_
  refine G_topS (fun A14 eA14 => ?_)
  have h := bv_k eA14 h
  refine G_aload_n X dX0_become_111 rfl 0 rfl ?_
  refine G_aload_n X dX0_become_112 rfl 1 rfl ?_
  refine G_getf X inX0 18 (eC18 _ _ _) rfl 7 (by decide) qw56 rfl dX0_become_113 ?_
  refine G_putf X (ty := .int) tyX0 tyX0_ok nmX0 inX0 3 (eC3 _ _ _) rfl 7 (by decide) qw56 rfl (by decide +kernel) rfl rfl (Nat.le_of_ble_eq_true rfl) (oCI _ _ _ _ 7 (A14.1 18 7) _ rfl) dX0_become_116 ?_
  refine G_topS (fun A15 eA15 => ?_)
  have h := bv_k eA15 h
  have e := so h
  subst e
  exact hQ _ _ dX0_become_119
theorem m_X0_becomea {l : Launch} {F : pfF} (hD : ∀ A, va_D (fA F) (cellsC (fAd F) (fCy F) A)) {A : St} {out : St} (h : f_X0_becomea A = some out) : Mt l F cellsC yX0_become cX0_become 3 none rm_X0_becomea [.ref (fAd F 3), .ref (fAd F 18)] A (va_Qv (fun (u : St) => u = out) (Wd cellsC F) (fA F)) := by
  refine Met_v (by decide +kernel) (Nat.le_of_ble_eq_true rfl) hD (fun E el ef X hQ => ?_)
  subst el
  subst ef
  exact b_X0_becomea X _ hQ h
noncomputable def f_X5_back (A : St) : Option (Int32 × St) :=
  if (A.1 0 4) = 0 then
    cl2 (f_X5_finding 3 A) fun r5 A7 =>
    some (r5, A7)
  else
    cl (f_X0_becomea A) fun A4 =>
    some (A4.1 3 0, A4)
abbrev rm_X5_back : Room := { frames := 2, cells := 0, slots := 0, locals := 62 }
set_option maxHeartbeats 4000000 in
set_option maxRecDepth 100000 in
theorem b_X5_back {E : pfE} (X : CX cellsC E cX5_back RX5 rm_X5_back 1) (A : St) {out : Int32 × St} (hQ : Reti cellsC E cX5_back out.1 out.2) (h : f_X5_back A = some out) : GG cellsC E A 0 [(0, .ref (fAd (eF E) 0))] [] := by
  unfold f_X5_back at h
  refine G_aload_n X dX5_back_0 rfl 0 rfl ?_
  refine G_getf X inX5 0 (eC0 _ _ _) rfl 4 (by decide) qw159 rfl dX5_back_1 ?_
  refine G_ifne X (tgt := 13) dX5_back_4 (by decide) (fun c1 => ?_) (fun c1 => ?_)
  · have h := if_t c1 h
    refine G_aload_n X dX5_back_7 rfl 0 rfl ?_
    refine G_iconst X (v := 3) dX5_back_8 rfl ?_
    obtain ⟨r5, A7, hz6, h⟩ := cl2_k h
    refine G_callV_i X (As := [.int 3]) (rest := []) ok_X5_finding qw191 0 (eC0 _ _ _) rfl rfl ⟨rfl, rfl, Nat.le_of_ble_eq_true rfl, Nat.le_of_ble_eq_true rfl⟩ (m_X5_finding X.d hz6) rfl rfl (Nat.le_of_ble_eq_true rfl) dX5_back_9 ?_
    have e := so h
    subst e
    exact hQ _ _ dX5_back_12
  · have h := if_f c1 h
    refine G_aload_n X dX5_back_13 rfl 0 rfl ?_
    refine G_getf X inX5 0 (eC0 _ _ _) rfl 2 (by decide) qw157 rfl dX5_back_14 ?_
    refine G_aload_n X dX5_back_17 rfl 0 rfl ?_
    refine G_getf X inX5 0 (eC0 _ _ _) rfl 3 (by decide) qw158 rfl dX5_back_18 ?_
    obtain ⟨A4, hz3, h⟩ := cl_k h
    refine G_callV_v X (As := [.ref (fAd (eF E) 18)]) (rest := []) ok_X0_become qw614 3 (eC3 _ _ _) rfl rfl ⟨rfl, rfl, Nat.le_of_ble_eq_true rfl, Nat.le_of_ble_eq_true rfl⟩ (m_X0_becomea X.d hz3) rfl rfl (Nat.le_of_ble_eq_true rfl) dX5_back_21 ?_
    refine G_aload_n X dX5_back_24 rfl 0 rfl ?_
    refine G_getf X inX5 0 (eC0 _ _ _) rfl 2 (by decide) qw157 rfl dX5_back_25 ?_
    refine G_getf X inX0 3 (eC3 _ _ _) rfl 0 (by decide) qw36 rfl dX5_back_28 ?_
    have e := so h
    subst e
    exact hQ _ _ dX5_back_31
theorem m_X5_back {l : Launch} {F : pfF} (hD : ∀ A, va_D (fA F) (cellsC (fAd F) (fCy F) A)) {A : St} {out : Int32 × St} (h : f_X5_back A = some out) : Mt l F cellsC yX5_back cX5_back 1 (some .int) rm_X5_back [.ref (fAd F 0)] A (va_Qi (fun (r : Int32) (u : St) => r = out.1 ∧ u = out.2) (Wd cellsC F) (fA F)) := by
  refine Met_i (by decide +kernel) (Nat.le_of_ble_eq_true rfl) hD (fun E el ef X hQ => ?_)
  subst el
  subst ef
  exact b_X5_back X _ hQ h
theorem ok_X5_back : OkV yX5_back cX5_back 1 (some .int) 0 := ⟨qw620, qw621, qw1, qw622, by decide, by decide, by decide⟩
