noncomputable def f_X1_bestListed_L15 (A : St) (l1 : Int32) (l2 : Int32) (l3 : UInt64) (l5 : Int32) : Option ((Int32 × UInt64 × Int32) ⊕ (Int32)) :=
  if (A.1 2 9) ≤ l5 then
    some (.inr l2)
  else
    gI l5 924 <|
    if ((A.1 40 l5.toNatClampNeg) &&& l1) = 0 then
      if l2 < 0 then
        gI l5 924 <|
        bv (A.1 40 l5.toNatClampNeg) fun v10 =>
        gI l5 924 <|
        bv (A.2.1 41 l5.toNatClampNeg) fun v12 =>
        bv (l5 + 1) fun v13 =>
        some (.inl (v10, v12, v13))
      else
        gI l5 924 <|
        if (Op.cmpValue (FP.dcmp (A.2.1 41 l5.toNatClampNeg) l3) .l) ≤ 0 then
          bv (l5 + 1) fun v16 =>
          some (.inl (l2, l3, v16))
        else
          gI l5 924 <|
          bv (A.1 40 l5.toNatClampNeg) fun v18 =>
          gI l5 924 <|
          bv (A.2.1 41 l5.toNatClampNeg) fun v20 =>
          bv (l5 + 1) fun v21 =>
          some (.inl (v18, v20, v21))
    else
      bv (l5 + 1) fun v7 =>
      some (.inl (l2, l3, v7))
noncomputable def f_X1_bestListed_X74 (A : St) (m2 : Int32) : Option (Int32) :=
  some m2
noncomputable def f_X1_bestListed (A : St) : Option (Int32) :=
  cl (f_X0_wornItems A) fun r1 =>
  bv FP.dconst0 fun v3 =>
  cl (loop (fun s => f_X1_bestListed_L15 A r1 s.1 s.2.1 s.2.2) ((-1), v3, 0)) (fun s => f_X1_bestListed_X74 A s)
abbrev rm_X1_bestListed : Room := { frames := 1, cells := 0, slots := 0, locals := 22 }
set_option maxHeartbeats 4000000 in
set_option maxRecDepth 100000 in
theorem g_X1_bestListed_L15 {E : pfE} (X : CX cellsC E cX1_bestListed RX1 rm_X1_bestListed 6) (A : St) (l1 : Int32) : ∀ (n : Nat) (l2 : Int32) (l3 : UInt64) (l5 : Int32) (ρ : Int32), lp (fun s => f_X1_bestListed_L15 A l1 s.1 s.2.1 s.2.2) n (l2, l3, l5) = some ρ → (∀ (q2 : Int32), ρ = q2 → GG cellsC E A 74 [(2, .int q2)] []) → GG cellsC E A 15 [(0, .ref (fAd (eF E) 2)), (1, .int l1), (2, .int l2), (3, .double l3), (5, .int l5)] [] := by
  intro n
  induction n with
  | zero =>
    intro l2 l3 l5 ρ h
    cases h
  | succ n ih =>
    intro l2 l3 l5 ρ h0 K
    obtain ⟨x, hb, hx⟩ := lp_step h0
    have h : f_X1_bestListed_L15 A l1 l2 l3 l5 = some x := hb
    unfold f_X1_bestListed_L15 at h
    clear hb h0
    refine G_iload X dX1_bestListed_15 4 rfl ?_
    refine G_aload_n X dX1_bestListed_17 rfl 0 rfl ?_
    refine G_getf X inX1 2 (eC2 _ _ _) rfl 9 (by decide) qw90 rfl dX1_bestListed_18 ?_
    refine G_icge X (tgt := 74) dX1_bestListed_21 (by decide) (fun c4 => ?_) (fun c4 => ?_)
    · have h := if_t c4 h
      exact G_sub [2] rfl (K _ (lpr (so h) hx).symm)
    · have h := if_f c4 h
      refine G_aload_n X dX1_bestListed_24 rfl 0 rfl ?_
      refine G_getf X inX1 2 (eC2 _ _ _) rfl 7 (by decide) qw88 rfl dX1_bestListed_25 ?_
      refine G_iload X dX1_bestListed_28 4 rfl ?_
      have hi5 := gI_n h
      have h := gI_k h
      refine G_iald X (j := l5.toNatClampNeg) 40 (eC40 _ _ _) hi5 rfl dX1_bestListed_30 ?_
      refine G_iload_n X dX1_bestListed_31 rfl 1 rfl ?_
      refine G_iand X dX1_bestListed_32 ?_
      refine G_ifne X (tgt := 68) dX1_bestListed_33 (by decide) (fun c6 => ?_) (fun c6 => ?_)
      · have h := if_t c6 h
        refine G_iload_n X dX1_bestListed_36 rfl 2 rfl ?_
        refine G_iflt X (tgt := 52) dX1_bestListed_37 (by decide) (fun c8 => ?_) (fun c8 => ?_)
        · have h := if_t c8 h
          refine G_aload_n X dX1_bestListed_52 rfl 0 rfl ?_
          refine G_getf X inX1 2 (eC2 _ _ _) rfl 7 (by decide) qw88 rfl dX1_bestListed_53 ?_
          refine G_iload X dX1_bestListed_56 4 rfl ?_
          have hi9 := gI_n h
          have h := gI_k h
          refine G_iald X (j := l5.toNatClampNeg) 40 (eC40 _ _ _) hi9 rfl dX1_bestListed_58 ?_
          refine G_topi (fun v10 ev10 => ?_)
          have h := bv_k ev10 h
          refine G_istore_n X (lv2 := [(2, .int v10), (0, .ref (fAd (eF E) 2)), (1, .int l1), (3, .double l3), (5, .int l5)]) dX1_bestListed_59 rfl (by decide) rfl ?_
          refine G_aload_n X dX1_bestListed_60 rfl 1 rfl ?_
          refine G_getf X inX1 2 (eC2 _ _ _) rfl 8 (by decide) qw89 rfl dX1_bestListed_61 ?_
          refine G_iload X dX1_bestListed_64 4 rfl ?_
          have hi11 := gI_n h
          have h := gI_k h
          refine G_dald X (j := l5.toNatClampNeg) 41 (eC41 _ _ _) hi11 rfl dX1_bestListed_66 ?_
          refine G_topd (fun v12 ev12 => ?_)
          have h := bv_k ev12 h
          refine G_dstore_n X (lv2 := [(3, .double v12), (2, .int v10), (0, .ref (fAd (eF E) 2)), (1, .int l1), (5, .int l5)]) dX1_bestListed_67 rfl (by decide) rfl ?_
          obtain ⟨v13, ev13⟩ : ∃ y : Int32, y = l5 + 1 := ⟨_, rfl⟩
          have h := bv_k ev13 h
          refine G_iinc X (q := 4) (v := v13) (lv2 := [(5, .int v13), (3, .double v12), (2, .int v10), (0, .ref (fAd (eF E) 2)), (1, .int l1)]) dX1_bestListed_68 rfl (by rw [ev13]; rfl) (by decide) rfl ?_
          refine G_goto X (tgt := 15) dX1_bestListed_71 (by decide) ?_
          exact G_sub [3, 4, 2, 1, 0] rfl (ih _ _ _ _ (lpl (so h) hx) K)
        · have h := if_f c8 h
          refine G_aload_n X dX1_bestListed_40 rfl 0 rfl ?_
          refine G_getf X inX1 2 (eC2 _ _ _) rfl 8 (by decide) qw89 rfl dX1_bestListed_41 ?_
          refine G_iload X dX1_bestListed_44 4 rfl ?_
          have hi14 := gI_n h
          have h := gI_k h
          refine G_dald X (j := l5.toNatClampNeg) 41 (eC41 _ _ _) hi14 rfl dX1_bestListed_46 ?_
          refine G_dload_n X dX1_bestListed_47 rfl 3 rfl ?_
          refine G_dcmp X dX1_bestListed_48 ?_
          refine G_ifle X (tgt := 68) dX1_bestListed_49 (by decide) (fun c15 => ?_) (fun c15 => ?_)
          · have h := if_t c15 h
            obtain ⟨v16, ev16⟩ : ∃ y : Int32, y = l5 + 1 := ⟨_, rfl⟩
            have h := bv_k ev16 h
            refine G_iinc X (q := 4) (v := v16) (lv2 := [(5, .int v16), (0, .ref (fAd (eF E) 2)), (1, .int l1), (2, .int l2), (3, .double l3)]) dX1_bestListed_68 rfl (by rw [ev16]; rfl) (by decide) rfl ?_
            refine G_goto X (tgt := 15) dX1_bestListed_71 (by decide) ?_
            exact G_sub [1, 2, 3, 4, 0] rfl (ih _ _ _ _ (lpl (so h) hx) K)
          · have h := if_f c15 h
            refine G_aload_n X dX1_bestListed_52 rfl 0 rfl ?_
            refine G_getf X inX1 2 (eC2 _ _ _) rfl 7 (by decide) qw88 rfl dX1_bestListed_53 ?_
            refine G_iload X dX1_bestListed_56 4 rfl ?_
            have hi17 := gI_n h
            have h := gI_k h
            refine G_iald X (j := l5.toNatClampNeg) 40 (eC40 _ _ _) hi17 rfl dX1_bestListed_58 ?_
            refine G_topi (fun v18 ev18 => ?_)
            have h := bv_k ev18 h
            refine G_istore_n X (lv2 := [(2, .int v18), (0, .ref (fAd (eF E) 2)), (1, .int l1), (3, .double l3), (5, .int l5)]) dX1_bestListed_59 rfl (by decide) rfl ?_
            refine G_aload_n X dX1_bestListed_60 rfl 1 rfl ?_
            refine G_getf X inX1 2 (eC2 _ _ _) rfl 8 (by decide) qw89 rfl dX1_bestListed_61 ?_
            refine G_iload X dX1_bestListed_64 4 rfl ?_
            have hi19 := gI_n h
            have h := gI_k h
            refine G_dald X (j := l5.toNatClampNeg) 41 (eC41 _ _ _) hi19 rfl dX1_bestListed_66 ?_
            refine G_topd (fun v20 ev20 => ?_)
            have h := bv_k ev20 h
            refine G_dstore_n X (lv2 := [(3, .double v20), (2, .int v18), (0, .ref (fAd (eF E) 2)), (1, .int l1), (5, .int l5)]) dX1_bestListed_67 rfl (by decide) rfl ?_
            obtain ⟨v21, ev21⟩ : ∃ y : Int32, y = l5 + 1 := ⟨_, rfl⟩
            have h := bv_k ev21 h
            refine G_iinc X (q := 4) (v := v21) (lv2 := [(5, .int v21), (3, .double v20), (2, .int v18), (0, .ref (fAd (eF E) 2)), (1, .int l1)]) dX1_bestListed_68 rfl (by rw [ev21]; rfl) (by decide) rfl ?_
            refine G_goto X (tgt := 15) dX1_bestListed_71 (by decide) ?_
            exact G_sub [3, 4, 2, 1, 0] rfl (ih _ _ _ _ (lpl (so h) hx) K)
      · have h := if_f c6 h
        obtain ⟨v7, ev7⟩ : ∃ y : Int32, y = l5 + 1 := ⟨_, rfl⟩
        have h := bv_k ev7 h
        refine G_iinc X (q := 4) (v := v7) (lv2 := [(5, .int v7), (0, .ref (fAd (eF E) 2)), (1, .int l1), (2, .int l2), (3, .double l3)]) dX1_bestListed_68 rfl (by rw [ev7]; rfl) (by decide) rfl ?_
        refine G_goto X (tgt := 15) dX1_bestListed_71 (by decide) ?_
        exact G_sub [1, 2, 3, 4, 0] rfl (ih _ _ _ _ (lpl (so h) hx) K)
set_option maxHeartbeats 4000000 in
set_option maxRecDepth 100000 in
theorem b_X1_bestListed {E : pfE} (X : CX cellsC E cX1_bestListed RX1 rm_X1_bestListed 6) (A : St) {out : Int32} (hQ : Reti cellsC E cX1_bestListed out A) (h : f_X1_bestListed A = some out) : GG cellsC E A 0 [(0, .ref (fAd (eF E) 2))] [] := by
  unfold f_X1_bestListed at h
  refine G_aload_n X dX1_bestListed_0 rfl 0 rfl ?_
  refine G_getf X inX1 2 (eC2 _ _ _) rfl 0 (by decide) qw78 rfl dX1_bestListed_1 ?_
  obtain ⟨r1, hz2, h⟩ := cl_k h
  refine G_callV_i X (As := []) (rest := []) ok_X0_wornItems qw369 3 (eC3 _ _ _) rfl rfl ⟨rfl, rfl, Nat.le_of_ble_eq_true rfl, Nat.le_of_ble_eq_true rfl⟩ (m_X0_wornItems X.d hz2) rfl rfl (Nat.le_of_ble_eq_true rfl) dX1_bestListed_4 ?_
  refine G_istore_n X (lv2 := [(1, .int r1), (0, .ref (fAd (eF E) 2))]) dX1_bestListed_7 rfl (by decide) rfl ?_
  refine G_iconst X (v := (-1)) dX1_bestListed_8 rfl ?_
  refine G_istore_n X (lv2 := [(2, .int (-1)), (1, .int r1), (0, .ref (fAd (eF E) 2))]) dX1_bestListed_9 rfl (by decide) rfl ?_
  refine G_dconst0 X dX1_bestListed_10 ?_
  refine G_topd (fun v3 ev3 => ?_)
  have h := bv_k ev3 h
  refine G_dstore_n X (lv2 := [(3, .double v3), (2, .int (-1)), (1, .int r1), (0, .ref (fAd (eF E) 2))]) dX1_bestListed_11 rfl (by decide) rfl ?_
  refine G_iconst X (v := 0) dX1_bestListed_12 rfl ?_
  refine G_istore X (lv2 := [(5, .int 0), (3, .double v3), (2, .int (-1)), (1, .int r1), (0, .ref (fAd (eF E) 2))]) dX1_bestListed_13 (by decide) rfl ?_
  obtain ⟨ρ, hl, h⟩ := cl_k h
  obtain ⟨n, hl⟩ := loop_some hl
  refine G_sub [4, 3, 2, 1, 0] rfl (g_X1_bestListed_L15 X A r1 n _ _ _ ρ hl ?_)
  intro v22 e
  rw [e] at h
  have h : f_X1_bestListed_X74 A v22 = some _ := h
  unfold f_X1_bestListed_X74 at h
  refine G_iload_n X dX1_bestListed_74 rfl 0 rfl ?_
  have e := so h
  subst e
  exact hQ _ _ dX1_bestListed_75
theorem m_X1_bestListed {l : Launch} {F : pfF} (hD : ∀ A, va_D (fA F) (cellsC (fAd F) (fCy F) A)) {A : St} {out : Int32} (h : f_X1_bestListed A = some out) : Mt l F cellsC yX1_bestListed cX1_bestListed 6 (some .int) rm_X1_bestListed [.ref (fAd F 2)] A (va_Qi (fun (r : Int32) (u : St) => r = out ∧ u = A) (Wd cellsC F) (fA F)) := by
  refine Met_i (by decide +kernel) (Nat.le_of_ble_eq_true rfl) hD (fun E el ef X hQ => ?_)
  subst el
  subst ef
  exact b_X1_bestListed X _ hQ h
theorem ok_X1_bestListed : OkV yX1_bestListed cX1_bestListed 6 (some .int) 0 := ⟨qw428, qw429, qw2, qw430, by decide, by decide, by decide⟩
noncomputable def f_X5_best (A : St) : Option (Int32 × St) :=
  cl (f_X1_listPapers A) fun A3 =>
  cl (f_X1_bestListed A3) fun r4 =>
  if 0 ≤ r4 then
    some (r4, A3)
  else
    cl2 (f_X5_finding 3 A3) fun r7 A9 =>
    some (r7, A9)
abbrev rm_X5_best : Room := { frames := 5, cells := 0, slots := 0, locals := 123 }
set_option maxHeartbeats 4000000 in
set_option maxRecDepth 100000 in
theorem b_X5_best {E : pfE} (X : CX cellsC E cX5_best RX5 rm_X5_best 2) (A : St) {out : Int32 × St} (hQ : Reti cellsC E cX5_best out.1 out.2) (h : f_X5_best A = some out) : GG cellsC E A 0 [(0, .ref (fAd (eF E) 0))] [] := by
  unfold f_X5_best at h
  refine G_aload_n X dX5_best_0 rfl 0 rfl ?_
  refine G_getf X inX5 0 (eC0 _ _ _) rfl 1 (by decide) qw156 rfl dX5_best_1 ?_
  obtain ⟨A3, hz2, h⟩ := cl_k h
  refine G_callV_v X (As := []) (rest := []) ok_X1_listPapers qw420 2 (eC2 _ _ _) rfl rfl ⟨rfl, rfl, Nat.le_of_ble_eq_true rfl, Nat.le_of_ble_eq_true rfl⟩ (m_X1_listPapers X.d hz2) rfl rfl (Nat.le_of_ble_eq_true rfl) dX5_best_4 ?_
  refine G_aload_n X dX5_best_7 rfl 0 rfl ?_
  refine G_getf X inX5 0 (eC0 _ _ _) rfl 1 (by decide) qw156 rfl dX5_best_8 ?_
  obtain ⟨r4, hz5, h⟩ := cl_k h
  refine G_callV_i X (As := []) (rest := []) ok_X1_bestListed qw427 2 (eC2 _ _ _) rfl rfl ⟨rfl, rfl, Nat.le_of_ble_eq_true rfl, Nat.le_of_ble_eq_true rfl⟩ (m_X1_bestListed X.d hz5) rfl rfl (Nat.le_of_ble_eq_true rfl) dX5_best_11 ?_
  refine G_istore_n X (lv2 := [(1, .int r4), (0, .ref (fAd (eF E) 0))]) dX5_best_14 rfl (by decide) rfl ?_
  refine G_iload_n X dX5_best_15 rfl 0 rfl ?_
  refine G_ifge X (tgt := 27) dX5_best_16 (by decide) (fun c6 => ?_) (fun c6 => ?_)
  · have h := if_t c6 h
    refine G_iload_n X dX5_best_27 rfl 0 rfl ?_
    have e := so h
    subst e
    exact hQ _ _ dX5_best_28
  · have h := if_f c6 h
    refine G_aload_n X dX5_best_19 rfl 1 rfl ?_
    refine G_iconst X (v := 3) dX5_best_20 rfl ?_
    obtain ⟨r7, A9, hz8, h⟩ := cl2_k h
    refine G_callV_i X (As := [.int 3]) (rest := []) ok_X5_finding qw191 0 (eC0 _ _ _) rfl rfl ⟨rfl, rfl, Nat.le_of_ble_eq_true rfl, Nat.le_of_ble_eq_true rfl⟩ (m_X5_finding X.d hz8) rfl rfl (Nat.le_of_ble_eq_true rfl) dX5_best_21 ?_
    refine G_goto X (tgt := 28) dX5_best_24 (by decide) ?_
    have e := so h
    subst e
    exact hQ _ _ dX5_best_28
theorem m_X5_best {l : Launch} {F : pfF} (hD : ∀ A, va_D (fA F) (cellsC (fAd F) (fCy F) A)) {A : St} {out : Int32 × St} (h : f_X5_best A = some out) : Mt l F cellsC yX5_best cX5_best 2 (some .int) rm_X5_best [.ref (fAd F 0)] A (va_Qi (fun (r : Int32) (u : St) => r = out.1 ∧ u = out.2) (Wd cellsC F) (fA F)) := by
  refine Met_i (by decide +kernel) (Nat.le_of_ble_eq_true rfl) hD (fun E el ef X hQ => ?_)
  subst el
  subst ef
  exact b_X5_best X _ hQ h
theorem ok_X5_best : OkV yX5_best cX5_best 2 (some .int) 0 := ⟨qw417, qw418, qw1, qw419, by decide, by decide, by decide⟩
noncomputable def f_X1_countBetter_L5 (A : St) (l1 : UInt64) (l3 : Int32) (l4 : Int32) : Option ((Int32 × Int32) ⊕ (Int32)) :=
  if (A.1 2 9) ≤ l4 then
    some (.inr l3)
  else
    gI l4 924 <|
    if (Op.cmpValue (FP.dcmp (A.2.1 41 l4.toNatClampNeg) l1) .l) ≤ 0 then
      bv (l4 + 1) fun v4 =>
      some (.inl (l3, v4))
    else
      bv (l3 + 1) fun v5 =>
      bv (l4 + 1) fun v6 =>
      some (.inl (v5, v6))
noncomputable def f_X1_countBetter_X35 (A : St) (m3 : Int32) : Option (Int32) :=
  some m3
noncomputable def f_X1_countBetter (x1 : UInt64) (A : St) : Option (Int32) :=
  cl (loop (fun s => f_X1_countBetter_L5 A x1 s.1 s.2) (0, 0)) (fun s => f_X1_countBetter_X35 A s)
abbrev rm_X1_countBetter : Room := { frames := 0, cells := 0, slots := 0, locals := 0 }
set_option maxHeartbeats 4000000 in
set_option maxRecDepth 100000 in
theorem g_X1_countBetter_L5 {E : pfE} (X : CX cellsC E cX1_countBetter RX1 rm_X1_countBetter 5) (A : St) (l1 : UInt64) : ∀ (n : Nat) (l3 : Int32) (l4 : Int32) (ρ : Int32), lp (fun s => f_X1_countBetter_L5 A l1 s.1 s.2) n (l3, l4) = some ρ → (∀ (q3 : Int32), ρ = q3 → GG cellsC E A 35 [(3, .int q3)] []) → GG cellsC E A 5 [(0, .ref (fAd (eF E) 2)), (1, .double l1), (3, .int l3), (4, .int l4)] [] := by
  intro n
  induction n with
  | zero =>
    intro l3 l4 ρ h
    cases h
  | succ n ih =>
    intro l3 l4 ρ h0 K
    obtain ⟨x, hb, hx⟩ := lp_step h0
    have h : f_X1_countBetter_L5 A l1 l3 l4 = some x := hb
    unfold f_X1_countBetter_L5 at h
    clear hb h0
    refine G_iload X dX1_countBetter_5 3 rfl ?_
    refine G_aload_n X dX1_countBetter_7 rfl 0 rfl ?_
    refine G_getf X inX1 2 (eC2 _ _ _) rfl 9 (by decide) qw90 rfl dX1_countBetter_8 ?_
    refine G_icge X (tgt := 35) dX1_countBetter_11 (by decide) (fun c1 => ?_) (fun c1 => ?_)
    · have h := if_t c1 h
      exact G_sub [2] rfl (K _ (lpr (so h) hx).symm)
    · have h := if_f c1 h
      refine G_aload_n X dX1_countBetter_14 rfl 0 rfl ?_
      refine G_getf X inX1 2 (eC2 _ _ _) rfl 8 (by decide) qw89 rfl dX1_countBetter_15 ?_
      refine G_iload X dX1_countBetter_18 3 rfl ?_
      have hi2 := gI_n h
      have h := gI_k h
      refine G_dald X (j := l4.toNatClampNeg) 41 (eC41 _ _ _) hi2 rfl dX1_countBetter_20 ?_
      refine G_dload_n X dX1_countBetter_21 rfl 1 rfl ?_
      refine G_dcmp X dX1_countBetter_22 ?_
      refine G_ifle X (tgt := 29) dX1_countBetter_23 (by decide) (fun c3 => ?_) (fun c3 => ?_)
      · have h := if_t c3 h
        obtain ⟨v4, ev4⟩ : ∃ y : Int32, y = l4 + 1 := ⟨_, rfl⟩
        have h := bv_k ev4 h
        refine G_iinc X (q := 3) (v := v4) (lv2 := [(4, .int v4), (0, .ref (fAd (eF E) 2)), (1, .double l1), (3, .int l3)]) dX1_countBetter_29 rfl (by rw [ev4]; rfl) (by decide) rfl ?_
        refine G_goto X (tgt := 5) dX1_countBetter_32 (by decide) ?_
        exact G_sub [1, 2, 3, 0] rfl (ih _ _ _ (lpl (so h) hx) K)
      · have h := if_f c3 h
        obtain ⟨v5, ev5⟩ : ∃ y : Int32, y = l3 + 1 := ⟨_, rfl⟩
        have h := bv_k ev5 h
        refine G_iinc X (q := 2) (v := v5) (lv2 := [(3, .int v5), (0, .ref (fAd (eF E) 2)), (1, .double l1), (4, .int l4)]) dX1_countBetter_26 rfl (by rw [ev5]; rfl) (by decide) rfl ?_
        obtain ⟨v6, ev6⟩ : ∃ y : Int32, y = l4 + 1 := ⟨_, rfl⟩
        have h := bv_k ev6 h
        refine G_iinc X (q := 3) (v := v6) (lv2 := [(4, .int v6), (3, .int v5), (0, .ref (fAd (eF E) 2)), (1, .double l1)]) dX1_countBetter_29 rfl (by rw [ev6]; rfl) (by decide) rfl ?_
        refine G_goto X (tgt := 5) dX1_countBetter_32 (by decide) ?_
        exact G_sub [2, 3, 1, 0] rfl (ih _ _ _ (lpl (so h) hx) K)
set_option maxHeartbeats 4000000 in
set_option maxRecDepth 100000 in
theorem b_X1_countBetter {E : pfE} (X : CX cellsC E cX1_countBetter RX1 rm_X1_countBetter 5) (x1 : UInt64) (A : St) {out : Int32} (hQ : Reti cellsC E cX1_countBetter out A) (h : f_X1_countBetter x1 A = some out) : GG cellsC E A 0 [(0, .ref (fAd (eF E) 2)), (1, .double x1)] [] := by
  unfold f_X1_countBetter at h
  refine G_iconst X (v := 0) dX1_countBetter_0 rfl ?_
  refine G_istore_n X (lv2 := [(3, .int 0), (0, .ref (fAd (eF E) 2)), (1, .double x1)]) dX1_countBetter_1 rfl (by decide) rfl ?_
  refine G_iconst X (v := 0) dX1_countBetter_2 rfl ?_
  refine G_istore X (lv2 := [(4, .int 0), (3, .int 0), (0, .ref (fAd (eF E) 2)), (1, .double x1)]) dX1_countBetter_3 (by decide) rfl ?_
  obtain ⟨ρ, hl, h⟩ := cl_k h
  obtain ⟨n, hl⟩ := loop_some hl
  refine G_sub [2, 3, 1, 0] rfl (g_X1_countBetter_L5 X A x1 n _ _ ρ hl ?_)
  intro v7 e
  rw [e] at h
  have h : f_X1_countBetter_X35 A v7 = some _ := h
  unfold f_X1_countBetter_X35 at h
  refine G_iload_n X dX1_countBetter_35 rfl 0 rfl ?_
  have e := so h
  subst e
  exact hQ _ _ dX1_countBetter_36
theorem m_X1_countBetter {l : Launch} {F : pfF} (hD : ∀ A, va_D (fA F) (cellsC (fAd F) (fCy F) A)) {x1 : UInt64} {A : St} {out : Int32} (h : f_X1_countBetter x1 A = some out) : Mt l F cellsC yX1_countBetter cX1_countBetter 5 (some .int) rm_X1_countBetter [.ref (fAd F 2), .double x1] A (va_Qi (fun (r : Int32) (u : St) => r = out ∧ u = A) (Wd cellsC F) (fA F)) := by
  refine Met_i (by decide +kernel) (Nat.le_of_ble_eq_true rfl) hD (fun E el ef X hQ => ?_)
  subst el
  subst ef
  exact b_X1_countBetter X _ _ hQ h
theorem ok_X1_countBetter : OkV yX1_countBetter cX1_countBetter 5 (some .int) 1 := ⟨qw436, qw437, qw2, qw438, by decide, by decide, by decide⟩
noncomputable def f_X5_rank (x1 : Int32) (A : St) : Option (Int32 × St) :=
  cl (f_X0_hasAll x1 A) fun r1 =>
  if (bI r1) = 0 then
    cl2 (f_X5_finding 0 A) fun r11 A13 =>
    some (r11, A13)
  else
    cl (f_X1_listPapers A) fun A6 =>
    cl (f_X1_valueOf x1 A6) fun r7 =>
    cl (f_X1_countBetter r7 A6) fun r9 =>
    some (r9, A6)
abbrev rm_X5_rank : Room := { frames := 5, cells := 0, slots := 0, locals := 123 }
set_option maxHeartbeats 4000000 in
set_option maxRecDepth 100000 in
theorem b_X5_rank {E : pfE} (X : CX cellsC E cX5_rank RX5 rm_X5_rank 2) (x1 : Int32) (A : St) {out : Int32 × St} (hQ : Reti cellsC E cX5_rank out.1 out.2) (h : f_X5_rank x1 A = some out) : GG cellsC E A 0 [(0, .ref (fAd (eF E) 0)), (1, .int x1)] [] := by
  unfold f_X5_rank at h
  refine G_aload_n X dX5_rank_0 rfl 0 rfl ?_
  refine G_getf X inX5 0 (eC0 _ _ _) rfl 2 (by decide) qw157 rfl dX5_rank_1 ?_
  refine G_iload_n X dX5_rank_4 rfl 1 rfl ?_
  obtain ⟨r1, hz2, h⟩ := cl_k h
  refine G_callV_i X (As := [.int x1]) (rest := []) ok_X0_hasAll qw309 3 (eC3 _ _ _) rfl rfl ⟨rfl, rfl, Nat.le_of_ble_eq_true rfl, Nat.le_of_ble_eq_true rfl⟩ (m_X0_hasAll X.d hz2) rfl rfl (Nat.le_of_ble_eq_true rfl) dX5_rank_5 ?_
  refine G_ifne X (tgt := 17) dX5_rank_8 (by decide) (fun c3 => ?_) (fun c3 => ?_)
  · have h := if_t c3 h
    refine G_aload_n X dX5_rank_11 rfl 0 rfl ?_
    refine G_iconst X (v := 0) dX5_rank_12 rfl ?_
    obtain ⟨r11, A13, hz12, h⟩ := cl2_k h
    refine G_callV_i X (As := [.int 0]) (rest := []) ok_X5_finding qw191 0 (eC0 _ _ _) rfl rfl ⟨rfl, rfl, Nat.le_of_ble_eq_true rfl, Nat.le_of_ble_eq_true rfl⟩ (m_X5_finding X.d hz12) rfl rfl (Nat.le_of_ble_eq_true rfl) dX5_rank_13 ?_
    have e := so h
    subst e
    exact hQ _ _ dX5_rank_16
  · have h := if_f c3 h
    refine G_aload_n X dX5_rank_17 rfl 0 rfl ?_
    refine G_getf X inX5 0 (eC0 _ _ _) rfl 1 (by decide) qw156 rfl dX5_rank_18 ?_
    obtain ⟨A6, hz5, h⟩ := cl_k h
    refine G_callV_v X (As := []) (rest := []) ok_X1_listPapers qw420 2 (eC2 _ _ _) rfl rfl ⟨rfl, rfl, Nat.le_of_ble_eq_true rfl, Nat.le_of_ble_eq_true rfl⟩ (m_X1_listPapers X.d hz5) rfl rfl (Nat.le_of_ble_eq_true rfl) dX5_rank_21 ?_
    refine G_aload_n X dX5_rank_24 rfl 0 rfl ?_
    refine G_getf X inX5 0 (eC0 _ _ _) rfl 1 (by decide) qw156 rfl dX5_rank_25 ?_
    refine G_aload_n X dX5_rank_28 rfl 0 rfl ?_
    refine G_getf X inX5 0 (eC0 _ _ _) rfl 1 (by decide) qw156 rfl dX5_rank_29 ?_
    refine G_iload_n X dX5_rank_32 rfl 1 rfl ?_
    obtain ⟨r7, hz8, h⟩ := cl_k h
    refine G_callV_d X (As := [.int x1]) (rest := [.ref (fAd (eF E) 2)]) ok_X1_valueOf qw319 2 (eC2 _ _ _) rfl rfl ⟨rfl, rfl, Nat.le_of_ble_eq_true rfl, Nat.le_of_ble_eq_true rfl⟩ (m_X1_valueOf X.d hz8) rfl rfl (Nat.le_of_ble_eq_true rfl) dX5_rank_33 ?_
    obtain ⟨r9, hz10, h⟩ := cl_k h
    refine G_callV_i X (As := [.double r7]) (rest := []) ok_X1_countBetter qw435 2 (eC2 _ _ _) rfl rfl ⟨rfl, rfl, Nat.le_of_ble_eq_true rfl, Nat.le_of_ble_eq_true rfl⟩ (m_X1_countBetter X.d hz10) rfl rfl (Nat.le_of_ble_eq_true rfl) dX5_rank_36 ?_
    have e := so h
    subst e
    exact hQ _ _ dX5_rank_39
theorem m_X5_rank {l : Launch} {F : pfF} (hD : ∀ A, va_D (fA F) (cellsC (fAd F) (fCy F) A)) {x1 : Int32} {A : St} {out : Int32 × St} (h : f_X5_rank x1 A = some out) : Mt l F cellsC yX5_rank cX5_rank 2 (some .int) rm_X5_rank [.ref (fAd F 0), .int x1] A (va_Qi (fun (r : Int32) (u : St) => r = out.1 ∧ u = out.2) (Wd cellsC F) (fA F)) := by
  refine Met_i (by decide +kernel) (Nat.le_of_ble_eq_true rfl) hD (fun E el ef X hQ => ?_)
  subst el
  subst ef
  exact b_X5_rank X _ _ hQ h
theorem ok_X5_rank : OkV yX5_rank cX5_rank 2 (some .int) 1 := ⟨qw432, qw433, qw1, qw434, by decide, by decide, by decide⟩
noncomputable def f_X1_isPaper (x1 : Int32) (A : St) : Option (Bool) :=
  cl (f_X1_brokenRule x1 0 A) fun r1 =>
  if r1 = 0 then
    some true
  else
    some false
abbrev rm_X1_isPaper : Room := { frames := 4, cells := 0, slots := 0, locals := 88 }
set_option maxHeartbeats 4000000 in
set_option maxRecDepth 100000 in
theorem b_X1_isPaper {E : pfE} (X : CX cellsC E cX1_isPaper RX1 rm_X1_isPaper 2) (x1 : Int32) (A : St) {out : Bool} (hQ : Reti cellsC E cX1_isPaper (bI out) A) (h : f_X1_isPaper x1 A = some out) : GG cellsC E A 0 [(0, .ref (fAd (eF E) 2)), (1, .int x1)] [] := by
  unfold f_X1_isPaper at h
  refine G_aload_n X dX1_isPaper_0 rfl 0 rfl ?_
  refine G_iload_n X dX1_isPaper_1 rfl 1 rfl ?_
  refine G_iconst X (v := 0) dX1_isPaper_2 rfl ?_
  obtain ⟨r1, hz2, h⟩ := cl_k h
  refine G_callV_i X (As := [.int x1, .int 0]) (rest := []) ok_X1_brokenRule qw411 2 (eC2 _ _ _) rfl rfl ⟨rfl, rfl, Nat.le_of_ble_eq_true rfl, Nat.le_of_ble_eq_true rfl⟩ (m_X1_brokenRule X.d hz2) rfl rfl (Nat.le_of_ble_eq_true rfl) dX1_isPaper_3 ?_
  refine G_ifne X (tgt := 13) dX1_isPaper_6 (by decide) (fun c3 => ?_) (fun c3 => ?_)
  · have h := if_t c3 h
    refine G_iconst X (v := 1) dX1_isPaper_9 rfl ?_
    refine G_goto X (tgt := 14) dX1_isPaper_10 (by decide) ?_
    have e := so h
    subst e
    exact hQ _ _ dX1_isPaper_14
  · have h := if_f c3 h
    refine G_iconst X (v := 0) dX1_isPaper_13 rfl ?_
    have e := so h
    subst e
    exact hQ _ _ dX1_isPaper_14
theorem m_X1_isPaper {l : Launch} {F : pfF} (hD : ∀ A, va_D (fA F) (cellsC (fAd F) (fCy F) A)) {x1 : Int32} {A : St} {out : Bool} (h : f_X1_isPaper x1 A = some out) : Mt l F cellsC yX1_isPaper cX1_isPaper 2 (some .boolean) rm_X1_isPaper [.ref (fAd F 2), .int x1] A (va_Qi (fun (r : Int32) (u : St) => r = bI out ∧ u = A) (Wd cellsC F) (fA F)) := by
  refine Met_iz (by decide +kernel) (Nat.le_of_ble_eq_true rfl) hD (nar_bI _) (fun E el ef X hQ => ?_)
  subst el
  subst ef
  exact b_X1_isPaper X _ _ hQ h
theorem ok_X1_isPaper : OkV yX1_isPaper cX1_isPaper 2 (some .boolean) 1 := ⟨qw444, qw445, qw2, qw446, by decide, by decide, by decide⟩
noncomputable def f_X1_bestInsteadOf_L17 (A : St) (l1 : Int32) (l3 : Int32) (l4 : Int32) (l5 : UInt64) (l7 : Int32) : Option ((Int32 × UInt64 × Int32) ⊕ (Int32)) :=
  if (A.1 3 0) ≤ l7 then
    some (.inr l4)
  else
    bv (l3 ||| ((1 : Int32) <<< (l7 &&& 31))) fun v4 =>
    if ((l1 >>> (l7 &&& 31)) &&& 1) = 0 then
      cl (f_X1_isPaper v4 A) fun r7 =>
      if (bI r7) = 0 then
        bv (l7 + 1) fun v10 =>
        some (.inl (l4, l5, v10))
      else
        cl (f_X1_valueOf v4 A) fun r11 =>
        if l4 < 0 then
          bv (l7 + 1) fun v14 =>
          some (.inl (l7, r11, v14))
        else
          if (Op.cmpValue (FP.dcmp r11 l5) .l) ≤ 0 then
            bv (l7 + 1) fun v16 =>
            some (.inl (l4, l5, v16))
          else
            bv (l7 + 1) fun v17 =>
            some (.inl (l7, r11, v17))
    else
      bv (l7 + 1) fun v6 =>
      some (.inl (l4, l5, v6))
noncomputable def f_X1_bestInsteadOf_X90 (A : St) (m4 : Int32) : Option (Int32) :=
  some m4
noncomputable def f_X1_bestInsteadOf (x1 : Int32) (x2 : Int32) (A : St) : Option (Int32) :=
  bv (x1 &&& (((1 : Int32) <<< (x2 &&& 31)) ^^^ (-1))) fun v1 =>
  bv FP.dconst0 fun v2 =>
  cl (loop (fun s => f_X1_bestInsteadOf_L17 A x1 v1 s.1 s.2.1 s.2.2) ((-1), v2, 0)) (fun s => f_X1_bestInsteadOf_X90 A s)
abbrev rm_X1_bestInsteadOf : Room := { frames := 5, cells := 0, slots := 0, locals := 109 }
set_option maxHeartbeats 4000000 in
set_option maxRecDepth 100000 in
theorem g_X1_bestInsteadOf_L17 {E : pfE} (X : CX cellsC E cX1_bestInsteadOf RX1 rm_X1_bestInsteadOf 11) (A : St) (l1 : Int32) (l3 : Int32) : ∀ (n : Nat) (l4 : Int32) (l5 : UInt64) (l7 : Int32) (ρ : Int32), lp (fun s => f_X1_bestInsteadOf_L17 A l1 l3 s.1 s.2.1 s.2.2) n (l4, l5, l7) = some ρ → (∀ (q4 : Int32), ρ = q4 → GG cellsC E A 90 [(4, .int q4)] []) → GG cellsC E A 17 [(0, .ref (fAd (eF E) 2)), (1, .int l1), (3, .int l3), (4, .int l4), (5, .double l5), (7, .int l7)] [] := by
  intro n
  induction n with
  | zero =>
    intro l4 l5 l7 ρ h
    cases h
  | succ n ih =>
    intro l4 l5 l7 ρ h0 K
    obtain ⟨x, hb, hx⟩ := lp_step h0
    have h : f_X1_bestInsteadOf_L17 A l1 l3 l4 l5 l7 = some x := hb
    unfold f_X1_bestInsteadOf_L17 at h
    clear hb h0
    refine G_iload X dX1_bestInsteadOf_17 5 rfl ?_
    refine G_aload_n X dX1_bestInsteadOf_19 rfl 0 rfl ?_
    refine G_getf X inX1 2 (eC2 _ _ _) rfl 0 (by decide) qw78 rfl dX1_bestInsteadOf_20 ?_
    refine G_getf X inX0 3 (eC3 _ _ _) rfl 0 (by decide) qw37 rfl dX1_bestInsteadOf_23 ?_
    refine G_icge X (tgt := 90) dX1_bestInsteadOf_26 (by decide) (fun c3 => ?_) (fun c3 => ?_)
    · have h := if_t c3 h
      exact G_sub [3] rfl (K _ (lpr (so h) hx).symm)
    · have h := if_f c3 h
      refine G_iload_n X dX1_bestInsteadOf_29 rfl 2 rfl ?_
      refine G_iconst X (v := 1) dX1_bestInsteadOf_30 rfl ?_
      refine G_iload X dX1_bestInsteadOf_31 5 rfl ?_
      refine G_ishl X dX1_bestInsteadOf_33 ?_
      refine G_ior X dX1_bestInsteadOf_34 ?_
      refine G_topi (fun v4 ev4 => ?_)
      have h := bv_k ev4 h
      refine G_istore X (lv2 := [(8, .int v4), (0, .ref (fAd (eF E) 2)), (1, .int l1), (3, .int l3), (4, .int l4), (5, .double l5), (7, .int l7)]) dX1_bestInsteadOf_35 (by decide) rfl ?_
      refine G_iload_n X dX1_bestInsteadOf_37 rfl 2 rfl ?_
      refine G_iload X dX1_bestInsteadOf_38 6 rfl ?_
      refine G_ishr X dX1_bestInsteadOf_40 ?_
      refine G_iconst X (v := 1) dX1_bestInsteadOf_41 rfl ?_
      refine G_iand X dX1_bestInsteadOf_42 ?_
      refine G_ifne X (tgt := 84) dX1_bestInsteadOf_43 (by decide) (fun c5 => ?_) (fun c5 => ?_)
      · have h := if_t c5 h
        refine G_aload_n X dX1_bestInsteadOf_46 rfl 1 rfl ?_
        refine G_iload X dX1_bestInsteadOf_47 0 rfl ?_
        obtain ⟨r7, hz8, h⟩ := cl_k h
        refine G_callV_i X (As := [.int v4]) (rest := []) ok_X1_isPaper qw451 2 (eC2 _ _ _) rfl rfl ⟨rfl, rfl, Nat.le_of_ble_eq_true rfl, Nat.le_of_ble_eq_true rfl⟩ (m_X1_isPaper X.d hz8) rfl rfl (Nat.le_of_ble_eq_true rfl) dX1_bestInsteadOf_49 ?_
        refine G_ifeq X (tgt := 84) dX1_bestInsteadOf_52 (by decide) (fun c9 => ?_) (fun c9 => ?_)
        · have h := if_t c9 h
          obtain ⟨v10, ev10⟩ : ∃ y : Int32, y = l7 + 1 := ⟨_, rfl⟩
          have h := bv_k ev10 h
          refine G_iinc X (q := 6) (v := v10) (lv2 := [(7, .int v10), (8, .int v4), (0, .ref (fAd (eF E) 2)), (1, .int l1), (3, .int l3), (4, .int l4), (5, .double l5)]) dX1_bestInsteadOf_84 rfl (by rw [ev10]; rfl) (by decide) rfl ?_
          refine G_goto X (tgt := 17) dX1_bestInsteadOf_87 (by decide) ?_
          exact G_sub [2, 3, 4, 5, 6, 0] rfl (ih _ _ _ _ (lpl (so h) hx) K)
        · have h := if_f c9 h
          refine G_aload_n X dX1_bestInsteadOf_55 rfl 1 rfl ?_
          refine G_iload X dX1_bestInsteadOf_56 0 rfl ?_
          obtain ⟨r11, hz12, h⟩ := cl_k h
          refine G_callV_d X (As := [.int v4]) (rest := []) ok_X1_valueOf qw426 2 (eC2 _ _ _) rfl rfl ⟨rfl, rfl, Nat.le_of_ble_eq_true rfl, Nat.le_of_ble_eq_true rfl⟩ (m_X1_valueOf X.d hz12) rfl rfl (Nat.le_of_ble_eq_true rfl) dX1_bestInsteadOf_58 ?_
          refine G_dstore X (lv2 := [(9, .double r11), (8, .int v4), (0, .ref (fAd (eF E) 2)), (1, .int l1), (3, .int l3), (4, .int l4), (5, .double l5), (7, .int l7)]) dX1_bestInsteadOf_61 (by decide) rfl ?_
          refine G_iload X dX1_bestInsteadOf_63 5 rfl ?_
          refine G_iflt X (tgt := 76) dX1_bestInsteadOf_65 (by decide) (fun c13 => ?_) (fun c13 => ?_)
          · have h := if_t c13 h
            refine G_iload X dX1_bestInsteadOf_76 7 rfl ?_
            refine G_istore X (lv2 := [(4, .int l7), (9, .double r11), (8, .int v4), (0, .ref (fAd (eF E) 2)), (1, .int l1), (3, .int l3), (5, .double l5), (7, .int l7)]) dX1_bestInsteadOf_78 (by decide) rfl ?_
            refine G_dload X dX1_bestInsteadOf_80 1 rfl ?_
            refine G_dstore X (lv2 := [(5, .double r11), (4, .int l7), (9, .double r11), (8, .int v4), (0, .ref (fAd (eF E) 2)), (1, .int l1), (3, .int l3), (7, .int l7)]) dX1_bestInsteadOf_82 (by decide) rfl ?_
            obtain ⟨v14, ev14⟩ : ∃ y : Int32, y = l7 + 1 := ⟨_, rfl⟩
            have h := bv_k ev14 h
            refine G_iinc X (q := 7) (v := v14) (lv2 := [(7, .int v14), (5, .double r11), (4, .int l7), (9, .double r11), (8, .int v4), (0, .ref (fAd (eF E) 2)), (1, .int l1), (3, .int l3)]) dX1_bestInsteadOf_84 rfl (by rw [ev14]; rfl) (by decide) rfl ?_
            refine G_goto X (tgt := 17) dX1_bestInsteadOf_87 (by decide) ?_
            exact G_sub [5, 6, 7, 2, 1, 0] rfl (ih _ _ _ _ (lpl (so h) hx) K)
          · have h := if_f c13 h
            refine G_dload X dX1_bestInsteadOf_68 0 rfl ?_
            refine G_dload X dX1_bestInsteadOf_70 6 rfl ?_
            refine G_dcmp X dX1_bestInsteadOf_72 ?_
            refine G_ifle X (tgt := 84) dX1_bestInsteadOf_73 (by decide) (fun c15 => ?_) (fun c15 => ?_)
            · have h := if_t c15 h
              obtain ⟨v16, ev16⟩ : ∃ y : Int32, y = l7 + 1 := ⟨_, rfl⟩
              have h := bv_k ev16 h
              refine G_iinc X (q := 7) (v := v16) (lv2 := [(7, .int v16), (9, .double r11), (8, .int v4), (0, .ref (fAd (eF E) 2)), (1, .int l1), (3, .int l3), (4, .int l4), (5, .double l5)]) dX1_bestInsteadOf_84 rfl (by rw [ev16]; rfl) (by decide) rfl ?_
              refine G_goto X (tgt := 17) dX1_bestInsteadOf_87 (by decide) ?_
              exact G_sub [3, 4, 5, 6, 7, 0] rfl (ih _ _ _ _ (lpl (so h) hx) K)
            · have h := if_f c15 h
              refine G_iload X dX1_bestInsteadOf_76 7 rfl ?_
              refine G_istore X (lv2 := [(4, .int l7), (9, .double r11), (8, .int v4), (0, .ref (fAd (eF E) 2)), (1, .int l1), (3, .int l3), (5, .double l5), (7, .int l7)]) dX1_bestInsteadOf_78 (by decide) rfl ?_
              refine G_dload X dX1_bestInsteadOf_80 1 rfl ?_
              refine G_dstore X (lv2 := [(5, .double r11), (4, .int l7), (9, .double r11), (8, .int v4), (0, .ref (fAd (eF E) 2)), (1, .int l1), (3, .int l3), (7, .int l7)]) dX1_bestInsteadOf_82 (by decide) rfl ?_
              obtain ⟨v17, ev17⟩ : ∃ y : Int32, y = l7 + 1 := ⟨_, rfl⟩
              have h := bv_k ev17 h
              refine G_iinc X (q := 7) (v := v17) (lv2 := [(7, .int v17), (5, .double r11), (4, .int l7), (9, .double r11), (8, .int v4), (0, .ref (fAd (eF E) 2)), (1, .int l1), (3, .int l3)]) dX1_bestInsteadOf_84 rfl (by rw [ev17]; rfl) (by decide) rfl ?_
              refine G_goto X (tgt := 17) dX1_bestInsteadOf_87 (by decide) ?_
              exact G_sub [5, 6, 7, 2, 1, 0] rfl (ih _ _ _ _ (lpl (so h) hx) K)
      · have h := if_f c5 h
        obtain ⟨v6, ev6⟩ : ∃ y : Int32, y = l7 + 1 := ⟨_, rfl⟩
        have h := bv_k ev6 h
        refine G_iinc X (q := 6) (v := v6) (lv2 := [(7, .int v6), (8, .int v4), (0, .ref (fAd (eF E) 2)), (1, .int l1), (3, .int l3), (4, .int l4), (5, .double l5)]) dX1_bestInsteadOf_84 rfl (by rw [ev6]; rfl) (by decide) rfl ?_
        refine G_goto X (tgt := 17) dX1_bestInsteadOf_87 (by decide) ?_
        exact G_sub [2, 3, 4, 5, 6, 0] rfl (ih _ _ _ _ (lpl (so h) hx) K)
set_option maxHeartbeats 4000000 in
set_option maxRecDepth 100000 in
theorem b_X1_bestInsteadOf {E : pfE} (X : CX cellsC E cX1_bestInsteadOf RX1 rm_X1_bestInsteadOf 11) (x1 : Int32) (x2 : Int32) (A : St) {out : Int32} (hQ : Reti cellsC E cX1_bestInsteadOf out A) (h : f_X1_bestInsteadOf x1 x2 A = some out) : GG cellsC E A 0 [(0, .ref (fAd (eF E) 2)), (1, .int x1), (2, .int x2)] [] := by
  unfold f_X1_bestInsteadOf at h
  refine G_iload_n X dX1_bestInsteadOf_0 rfl 1 rfl ?_
  refine G_iconst X (v := 1) dX1_bestInsteadOf_1 rfl ?_
  refine G_iload_n X dX1_bestInsteadOf_2 rfl 2 rfl ?_
  refine G_ishl X dX1_bestInsteadOf_3 ?_
  refine G_iconst X (v := (-1)) dX1_bestInsteadOf_4 rfl ?_
  refine G_ixor X dX1_bestInsteadOf_5 ?_
  refine G_iand X dX1_bestInsteadOf_6 ?_
  refine G_topi (fun v1 ev1 => ?_)
  have h := bv_k ev1 h
  refine G_istore_n X (lv2 := [(3, .int v1), (0, .ref (fAd (eF E) 2)), (1, .int x1), (2, .int x2)]) dX1_bestInsteadOf_7 rfl (by decide) rfl ?_
  refine G_iconst X (v := (-1)) dX1_bestInsteadOf_8 rfl ?_
  refine G_istore X (lv2 := [(4, .int (-1)), (3, .int v1), (0, .ref (fAd (eF E) 2)), (1, .int x1), (2, .int x2)]) dX1_bestInsteadOf_9 (by decide) rfl ?_
  refine G_dconst0 X dX1_bestInsteadOf_11 ?_
  refine G_topd (fun v2 ev2 => ?_)
  have h := bv_k ev2 h
  refine G_dstore X (lv2 := [(5, .double v2), (4, .int (-1)), (3, .int v1), (0, .ref (fAd (eF E) 2)), (1, .int x1), (2, .int x2)]) dX1_bestInsteadOf_12 (by decide) rfl ?_
  refine G_iconst X (v := 0) dX1_bestInsteadOf_14 rfl ?_
  refine G_istore X (lv2 := [(7, .int 0), (5, .double v2), (4, .int (-1)), (3, .int v1), (0, .ref (fAd (eF E) 2)), (1, .int x1), (2, .int x2)]) dX1_bestInsteadOf_15 (by decide) rfl ?_
  obtain ⟨ρ, hl, h⟩ := cl_k h
  obtain ⟨n, hl⟩ := loop_some hl
  refine G_sub [4, 5, 3, 2, 1, 0] rfl (g_X1_bestInsteadOf_L17 X A x1 v1 n _ _ _ ρ hl ?_)
  intro v18 e
  rw [e] at h
  have h : f_X1_bestInsteadOf_X90 A v18 = some _ := h
  unfold f_X1_bestInsteadOf_X90 at h
  refine G_iload X dX1_bestInsteadOf_90 0 rfl ?_
  have e := so h
  subst e
  exact hQ _ _ dX1_bestInsteadOf_92
theorem m_X1_bestInsteadOf {l : Launch} {F : pfF} (hD : ∀ A, va_D (fA F) (cellsC (fAd F) (fCy F) A)) {x1 : Int32} {x2 : Int32} {A : St} {out : Int32} (h : f_X1_bestInsteadOf x1 x2 A = some out) : Mt l F cellsC yX1_bestInsteadOf cX1_bestInsteadOf 11 (some .int) rm_X1_bestInsteadOf [.ref (fAd F 2), .int x1, .int x2] A (va_Qi (fun (r : Int32) (u : St) => r = out ∧ u = A) (Wd cellsC F) (fA F)) := by
  refine Met_i (by decide +kernel) (Nat.le_of_ble_eq_true rfl) hD (fun E el ef X hQ => ?_)
  subst el
  subst ef
  exact b_X1_bestInsteadOf X _ _ _ hQ h
theorem ok_X1_bestInsteadOf : OkV yX1_bestInsteadOf cX1_bestInsteadOf 11 (some .int) 2 := ⟨qw448, qw449, qw2, qw450, by decide, by decide, by decide⟩
noncomputable def f_X5_swap (x1 : Int32) (x2 : Int32) (A : St) : Option (Int32 × St) :=
  cl (f_X0_hasAll x1 A) fun r1 =>
  if (bI r1) = 0 then
    cl2 (f_X5_finding 0 A) fun r4 A6 =>
    some (r4, A6)
  else
    cl (f_X0_has x2 A) fun r7 =>
    if (bI r7) = 0 then
      cl2 (f_X5_finding 0 A) fun r32 A34 =>
      some (r32, A34)
    else
      cl (f_X1_readRules A) fun A12 =>
      cl (f_X1_isPaper x1 A12) fun r13 =>
      if (bI r13) = 0 then
        cl2 (f_X5_finding 4 A12) fun r29 A31 =>
        some (r29, A31)
      else
        if ((x1 >>> (x2 &&& 31)) &&& 1) = 0 then
          cl2 (f_X5_finding 2 A12) fun r26 A28 =>
          some (r26, A28)
        else
          cl (f_X1_readAims A12) fun A19 =>
          cl (f_X1_bestInsteadOf x1 x2 A19) fun r20 =>
          if 0 ≤ r20 then
            some (r20, A19)
          else
            cl2 (f_X5_finding 3 A19) fun r23 A25 =>
            some (r23, A25)
abbrev rm_X5_swap : Room := { frames := 6, cells := 0, slots := 0, locals := 139 }
set_option maxHeartbeats 4000000 in
set_option maxRecDepth 100000 in
theorem b_X5_swap {E : pfE} (X : CX cellsC E cX5_swap RX5 rm_X5_swap 4) (x1 : Int32) (x2 : Int32) (A : St) {out : Int32 × St} (hQ : Reti cellsC E cX5_swap out.1 out.2) (h : f_X5_swap x1 x2 A = some out) : GG cellsC E A 0 [(0, .ref (fAd (eF E) 0)), (1, .int x1), (2, .int x2)] [] := by
  unfold f_X5_swap at h
  refine G_aload_n X dX5_swap_0 rfl 0 rfl ?_
  refine G_getf X inX5 0 (eC0 _ _ _) rfl 2 (by decide) qw157 rfl dX5_swap_1 ?_
  refine G_iload_n X dX5_swap_4 rfl 1 rfl ?_
  obtain ⟨r1, hz2, h⟩ := cl_k h
  refine G_callV_i X (As := [.int x1]) (rest := []) ok_X0_hasAll qw309 3 (eC3 _ _ _) rfl rfl ⟨rfl, rfl, Nat.le_of_ble_eq_true rfl, Nat.le_of_ble_eq_true rfl⟩ (m_X0_hasAll X.d hz2) rfl rfl (Nat.le_of_ble_eq_true rfl) dX5_swap_5 ?_
  refine G_ifeq X (tgt := 22) dX5_swap_8 (by decide) (fun c3 => ?_) (fun c3 => ?_)
  · have h := if_t c3 h
    refine G_aload_n X dX5_swap_22 rfl 0 rfl ?_
    refine G_iconst X (v := 0) dX5_swap_23 rfl ?_
    obtain ⟨r4, A6, hz5, h⟩ := cl2_k h
    refine G_callV_i X (As := [.int 0]) (rest := []) ok_X5_finding qw191 0 (eC0 _ _ _) rfl rfl ⟨rfl, rfl, Nat.le_of_ble_eq_true rfl, Nat.le_of_ble_eq_true rfl⟩ (m_X5_finding X.d hz5) rfl rfl (Nat.le_of_ble_eq_true rfl) dX5_swap_24 ?_
    have e := so h
    subst e
    exact hQ _ _ dX5_swap_27
  · have h := if_f c3 h
    refine G_aload_n X dX5_swap_11 rfl 0 rfl ?_
    refine G_getf X inX5 0 (eC0 _ _ _) rfl 2 (by decide) qw157 rfl dX5_swap_12 ?_
    refine G_iload_n X dX5_swap_15 rfl 2 rfl ?_
    obtain ⟨r7, hz8, h⟩ := cl_k h
    refine G_callV_i X (As := [.int x2]) (rest := []) ok_X0_has qw200 3 (eC3 _ _ _) rfl rfl ⟨rfl, rfl, Nat.le_of_ble_eq_true rfl, Nat.le_of_ble_eq_true rfl⟩ (m_X0_has X.d hz8) rfl rfl (Nat.le_of_ble_eq_true rfl) dX5_swap_16 ?_
    refine G_ifne X (tgt := 28) dX5_swap_19 (by decide) (fun c9 => ?_) (fun c9 => ?_)
    · have h := if_t c9 h
      refine G_aload_n X dX5_swap_22 rfl 0 rfl ?_
      refine G_iconst X (v := 0) dX5_swap_23 rfl ?_
      obtain ⟨r32, A34, hz33, h⟩ := cl2_k h
      refine G_callV_i X (As := [.int 0]) (rest := []) ok_X5_finding qw191 0 (eC0 _ _ _) rfl rfl ⟨rfl, rfl, Nat.le_of_ble_eq_true rfl, Nat.le_of_ble_eq_true rfl⟩ (m_X5_finding X.d hz33) rfl rfl (Nat.le_of_ble_eq_true rfl) dX5_swap_24 ?_
      have e := so h
      subst e
      exact hQ _ _ dX5_swap_27
    · have h := if_f c9 h
      refine G_aload_n X dX5_swap_28 rfl 0 rfl ?_
      refine G_getf X inX5 0 (eC0 _ _ _) rfl 1 (by decide) qw156 rfl dX5_swap_29 ?_
      obtain ⟨A12, hz11, h⟩ := cl_k h
      refine G_callV_v X (As := []) (rest := []) ok_X1_readRules qw361 2 (eC2 _ _ _) rfl rfl ⟨rfl, rfl, Nat.le_of_ble_eq_true rfl, Nat.le_of_ble_eq_true rfl⟩ (m_X1_readRules X.d hz11) rfl rfl (Nat.le_of_ble_eq_true rfl) dX5_swap_32 ?_
      refine G_aload_n X dX5_swap_35 rfl 0 rfl ?_
      refine G_getf X inX5 0 (eC0 _ _ _) rfl 1 (by decide) qw156 rfl dX5_swap_36 ?_
      refine G_iload_n X dX5_swap_39 rfl 1 rfl ?_
      obtain ⟨r13, hz14, h⟩ := cl_k h
      refine G_callV_i X (As := [.int x1]) (rest := []) ok_X1_isPaper qw443 2 (eC2 _ _ _) rfl rfl ⟨rfl, rfl, Nat.le_of_ble_eq_true rfl, Nat.le_of_ble_eq_true rfl⟩ (m_X1_isPaper X.d hz14) rfl rfl (Nat.le_of_ble_eq_true rfl) dX5_swap_40 ?_
      refine G_ifne X (tgt := 52) dX5_swap_43 (by decide) (fun c15 => ?_) (fun c15 => ?_)
      · have h := if_t c15 h
        refine G_aload_n X dX5_swap_46 rfl 0 rfl ?_
        refine G_iconst X (v := 4) dX5_swap_47 rfl ?_
        obtain ⟨r29, A31, hz30, h⟩ := cl2_k h
        refine G_callV_i X (As := [.int 4]) (rest := []) ok_X5_finding qw191 0 (eC0 _ _ _) rfl rfl ⟨rfl, rfl, Nat.le_of_ble_eq_true rfl, Nat.le_of_ble_eq_true rfl⟩ (m_X5_finding X.d hz30) rfl rfl (Nat.le_of_ble_eq_true rfl) dX5_swap_48 ?_
        have e := so h
        subst e
        exact hQ _ _ dX5_swap_51
      · have h := if_f c15 h
        refine G_iload_n X dX5_swap_52 rfl 1 rfl ?_
        refine G_iload_n X dX5_swap_53 rfl 2 rfl ?_
        refine G_ishr X dX5_swap_54 ?_
        refine G_iconst X (v := 1) dX5_swap_55 rfl ?_
        refine G_iand X dX5_swap_56 ?_
        refine G_ifne X (tgt := 66) dX5_swap_57 (by decide) (fun c16 => ?_) (fun c16 => ?_)
        · have h := if_t c16 h
          refine G_aload_n X dX5_swap_60 rfl 0 rfl ?_
          refine G_iconst X (v := 2) dX5_swap_61 rfl ?_
          obtain ⟨r26, A28, hz27, h⟩ := cl2_k h
          refine G_callV_i X (As := [.int 2]) (rest := []) ok_X5_finding qw191 0 (eC0 _ _ _) rfl rfl ⟨rfl, rfl, Nat.le_of_ble_eq_true rfl, Nat.le_of_ble_eq_true rfl⟩ (m_X5_finding X.d hz27) rfl rfl (Nat.le_of_ble_eq_true rfl) dX5_swap_62 ?_
          have e := so h
          subst e
          exact hQ _ _ dX5_swap_65
        · have h := if_f c16 h
          refine G_aload_n X dX5_swap_66 rfl 0 rfl ?_
          refine G_getf X inX5 0 (eC0 _ _ _) rfl 1 (by decide) qw156 rfl dX5_swap_67 ?_
          obtain ⟨A19, hz18, h⟩ := cl_k h
          refine G_callV_v X (As := []) (rest := []) ok_X1_readAims qw313 2 (eC2 _ _ _) rfl rfl ⟨rfl, rfl, Nat.le_of_ble_eq_true rfl, Nat.le_of_ble_eq_true rfl⟩ (m_X1_readAims X.d hz18) rfl rfl (Nat.le_of_ble_eq_true rfl) dX5_swap_70 ?_
          refine G_aload_n X dX5_swap_73 rfl 0 rfl ?_
          refine G_getf X inX5 0 (eC0 _ _ _) rfl 1 (by decide) qw156 rfl dX5_swap_74 ?_
          refine G_iload_n X dX5_swap_77 rfl 1 rfl ?_
          refine G_iload_n X dX5_swap_78 rfl 2 rfl ?_
          obtain ⟨r20, hz21, h⟩ := cl_k h
          refine G_callV_i X (As := [.int x1, .int x2]) (rest := []) ok_X1_bestInsteadOf qw447 2 (eC2 _ _ _) rfl rfl ⟨rfl, rfl, Nat.le_of_ble_eq_true rfl, Nat.le_of_ble_eq_true rfl⟩ (m_X1_bestInsteadOf X.d hz21) rfl rfl (Nat.le_of_ble_eq_true rfl) dX5_swap_79 ?_
          refine G_istore_n X (lv2 := [(3, .int r20), (0, .ref (fAd (eF E) 0)), (1, .int x1), (2, .int x2)]) dX5_swap_82 rfl (by decide) rfl ?_
          refine G_iload_n X dX5_swap_83 rfl 0 rfl ?_
          refine G_ifge X (tgt := 95) dX5_swap_84 (by decide) (fun c22 => ?_) (fun c22 => ?_)
          · have h := if_t c22 h
            refine G_iload_n X dX5_swap_95 rfl 0 rfl ?_
            have e := so h
            subst e
            exact hQ _ _ dX5_swap_96
          · have h := if_f c22 h
            refine G_aload_n X dX5_swap_87 rfl 1 rfl ?_
            refine G_iconst X (v := 3) dX5_swap_88 rfl ?_
            obtain ⟨r23, A25, hz24, h⟩ := cl2_k h
            refine G_callV_i X (As := [.int 3]) (rest := []) ok_X5_finding qw191 0 (eC0 _ _ _) rfl rfl ⟨rfl, rfl, Nat.le_of_ble_eq_true rfl, Nat.le_of_ble_eq_true rfl⟩ (m_X5_finding X.d hz24) rfl rfl (Nat.le_of_ble_eq_true rfl) dX5_swap_89 ?_
            refine G_goto X (tgt := 96) dX5_swap_92 (by decide) ?_
            have e := so h
            subst e
            exact hQ _ _ dX5_swap_96
theorem m_X5_swap {l : Launch} {F : pfF} (hD : ∀ A, va_D (fA F) (cellsC (fAd F) (fCy F) A)) {x1 : Int32} {x2 : Int32} {A : St} {out : Int32 × St} (h : f_X5_swap x1 x2 A = some out) : Mt l F cellsC yX5_swap cX5_swap 4 (some .int) rm_X5_swap [.ref (fAd F 0), .int x1, .int x2] A (va_Qi (fun (r : Int32) (u : St) => r = out.1 ∧ u = out.2) (Wd cellsC F) (fA F)) := by
  refine Met_i (by decide +kernel) (Nat.le_of_ble_eq_true rfl) hD (fun E el ef X hQ => ?_)
  subst el
  subst ef
  exact b_X5_swap X _ _ _ hQ h
theorem ok_X5_swap : OkV yX5_swap cX5_swap 4 (some .int) 2 := ⟨qw440, qw441, qw1, qw442, by decide, by decide, by decide⟩
noncomputable def f_X1_findForms_L23 (l3 : Int32) (l1 : UInt64) (l4 : Int32) (A : St) : Option ((UInt64 × Int32 × St) ⊕ (UInt64 × St)) :=
  if (A.1 2 9) ≤ l4 then
    some (.inr (l1, A))
  else
    gI l3 924 <|
    if (Op.cmpValue (FP.dcmp (A.2.1 41 l3.toNatClampNeg) l1) .l) ≤ 0 then
      some (.inr (l1, A))
    else
      gI l4 924 <|
      if (Op.cmpValue (FP.dcmp (A.2.1 41 l4.toNatClampNeg) l1) .l) ≤ 0 then
        bv (l4 + 1) fun v11 =>
        some (.inl (l1, v11, A))
      else
        gI l3 924 <|
        gI l4 924 <|
        if ((A.1 40 l3.toNatClampNeg) &&& (A.1 40 l4.toNatClampNeg)) = 0 then
          gI l3 924 <|
          gI l4 924 <|
          if 0 ≤ (Op.cmpValue (FP.dcmp (A.2.1 41 l3.toNatClampNeg) (A.2.1 41 l4.toNatClampNeg)) .g) then
            gI l4 924 <|
            bv (A.2.1 41 l4.toNatClampNeg) fun v20 =>
            gI l3 924 <|
            bv (upI A 2 1 (A.1 40 l3.toNatClampNeg)) fun A22 =>
            gI l4 924 <|
            bv (upI A22 2 2 (A22.1 40 l4.toNatClampNeg)) fun A24 =>
            bv (l4 + 1) fun v25 =>
            some (.inl (v20, v25, A24))
          else
            gI l3 924 <|
            bv (A.2.1 41 l3.toNatClampNeg) fun v27 =>
            gI l3 924 <|
            bv (upI A 2 1 (A.1 40 l3.toNatClampNeg)) fun A29 =>
            gI l4 924 <|
            bv (upI A29 2 2 (A29.1 40 l4.toNatClampNeg)) fun A31 =>
            bv (l4 + 1) fun v32 =>
            some (.inl (v27, v32, A31))
        else
          bv (l4 + 1) fun v15 =>
          some (.inl (l1, v15, A))
noncomputable def f_X1_findForms_X133_10 (A : St) (m1 : UInt64) (m3 : Int32) : Option ((UInt64 × Int32 × St) ⊕ (UInt64 × St)) :=
  bv (m3 + 1) fun v36 =>
  some (.inl (m1, v36, A))
noncomputable def f_X1_findForms_L10 (l1 : UInt64) (l3 : Int32) (A : St) : Option ((UInt64 × Int32 × St) ⊕ (UInt64 × St)) :=
  if (A.1 2 9) ≤ l3 then
    some (.inr (l1, A))
  else
    bv (l3 + 1) fun v5 =>
    cl (loop (fun s => f_X1_findForms_L23 l3 s.1 s.2.1 s.2.2) (l1, v5, A)) (fun s => f_X1_findForms_X133_10 s.2 s.1 l3)
noncomputable def f_X1_findForms_X139 (A : St) (m1 : UInt64) : Option (Bool × St) :=
  if (Op.cmpValue (FP.dcmp m1 FP.dconst0) .l) < 0 then
    some (false, A)
  else
    some (true, A)
noncomputable def f_X1_findForms (A : St) : Option (Bool × St) :=
  cl (f_X1_listPapers A) fun A3 =>
  cl (loop (fun s => f_X1_findForms_L10 s.1 s.2.1 s.2.2) (13830554455654793216, 0, A3)) (fun s => f_X1_findForms_X139 s.2 s.1)
abbrev rm_X1_findForms : Room := { frames := 5, cells := 0, slots := 0, locals := 123 }
set_option maxHeartbeats 4000000 in
set_option maxRecDepth 100000 in
theorem g_X1_findForms_L23 {E : pfE} (X : CX cellsC E cX1_findForms RX1 rm_X1_findForms 5) (l3 : Int32) : ∀ (n : Nat) (l1 : UInt64) (l4 : Int32) (A : St) (ρ : UInt64 × St), lp (fun s => f_X1_findForms_L23 l3 s.1 s.2.1 s.2.2) n (l1, l4, A) = some ρ → (∀ (q1 : UInt64) (B : St), ρ = (q1, B) → GG cellsC E B 133 [(0, .ref (fAd (eF E) 2)), (1, .double q1), (3, .int l3)] []) → GG cellsC E A 23 [(0, .ref (fAd (eF E) 2)), (1, .double l1), (3, .int l3), (4, .int l4)] [] := by
  intro n
  induction n with
  | zero =>
    intro l1 l4 A ρ h
    cases h
  | succ n ih =>
    intro l1 l4 A ρ h0 K
    obtain ⟨x, hb, hx⟩ := lp_step h0
    have h : f_X1_findForms_L23 l3 l1 l4 A = some x := hb
    unfold f_X1_findForms_L23 at h
    clear hb h0
    refine G_iload X dX1_findForms_23 3 rfl ?_
    refine G_aload_n X dX1_findForms_25 rfl 0 rfl ?_
    refine G_getf X inX1 2 (eC2 _ _ _) rfl 9 (by decide) qw90 rfl dX1_findForms_26 ?_
    refine G_icge X (tgt := 133) dX1_findForms_29 (by decide) (fun c6 => ?_) (fun c6 => ?_)
    · have h := if_t c6 h
      exact G_sub [0, 1, 2] rfl (K _ _ (lpr (so h) hx).symm)
    · have h := if_f c6 h
      refine G_aload_n X dX1_findForms_32 rfl 0 rfl ?_
      refine G_getf X inX1 2 (eC2 _ _ _) rfl 8 (by decide) qw89 rfl dX1_findForms_33 ?_
      refine G_iload_n X dX1_findForms_36 rfl 2 rfl ?_
      have hi7 := gI_n h
      have h := gI_k h
      refine G_dald X (j := l3.toNatClampNeg) 41 (eC41 _ _ _) hi7 rfl dX1_findForms_37 ?_
      refine G_dload_n X dX1_findForms_38 rfl 1 rfl ?_
      refine G_dcmp X dX1_findForms_39 ?_
      refine G_ifle X (tgt := 133) dX1_findForms_40 (by decide) (fun c8 => ?_) (fun c8 => ?_)
      · have h := if_t c8 h
        exact G_sub [0, 1, 2] rfl (K _ _ (lpr (so h) hx).symm)
      · have h := if_f c8 h
        refine G_aload_n X dX1_findForms_43 rfl 0 rfl ?_
        refine G_getf X inX1 2 (eC2 _ _ _) rfl 8 (by decide) qw89 rfl dX1_findForms_44 ?_
        refine G_iload X dX1_findForms_47 3 rfl ?_
        have hi9 := gI_n h
        have h := gI_k h
        refine G_dald X (j := l4.toNatClampNeg) 41 (eC41 _ _ _) hi9 rfl dX1_findForms_49 ?_
        refine G_dload_n X dX1_findForms_50 rfl 1 rfl ?_
        refine G_dcmp X dX1_findForms_51 ?_
        refine G_ifle X (tgt := 127) dX1_findForms_52 (by decide) (fun c10 => ?_) (fun c10 => ?_)
        · have h := if_t c10 h
          obtain ⟨v11, ev11⟩ : ∃ y : Int32, y = l4 + 1 := ⟨_, rfl⟩
          have h := bv_k ev11 h
          refine G_iinc X (q := 3) (v := v11) (lv2 := [(4, .int v11), (0, .ref (fAd (eF E) 2)), (1, .double l1), (3, .int l3)]) dX1_findForms_127 rfl (by rw [ev11]; rfl) (by decide) rfl ?_
          refine G_goto X (tgt := 23) dX1_findForms_130 (by decide) ?_
          exact G_sub [1, 2, 3, 0] rfl (ih _ _ _ _ (lpl (so h) hx) K)
        · have h := if_f c10 h
          refine G_aload_n X dX1_findForms_55 rfl 0 rfl ?_
          refine G_getf X inX1 2 (eC2 _ _ _) rfl 7 (by decide) qw88 rfl dX1_findForms_56 ?_
          refine G_iload_n X dX1_findForms_59 rfl 2 rfl ?_
          have hi12 := gI_n h
          have h := gI_k h
          refine G_iald X (j := l3.toNatClampNeg) 40 (eC40 _ _ _) hi12 rfl dX1_findForms_60 ?_
          refine G_aload_n X dX1_findForms_61 rfl 0 rfl ?_
          refine G_getf X inX1 2 (eC2 _ _ _) rfl 7 (by decide) qw88 rfl dX1_findForms_62 ?_
          refine G_iload X dX1_findForms_65 3 rfl ?_
          have hi13 := gI_n h
          have h := gI_k h
          refine G_iald X (j := l4.toNatClampNeg) 40 (eC40 _ _ _) hi13 rfl dX1_findForms_67 ?_
          refine G_iand X dX1_findForms_68 ?_
          refine G_ifne X (tgt := 127) dX1_findForms_69 (by decide) (fun c14 => ?_) (fun c14 => ?_)
          · have h := if_t c14 h
            refine G_aload_n X dX1_findForms_72 rfl 0 rfl ?_
            refine G_getf X inX1 2 (eC2 _ _ _) rfl 8 (by decide) qw89 rfl dX1_findForms_73 ?_
            refine G_iload_n X dX1_findForms_76 rfl 2 rfl ?_
            have hi16 := gI_n h
            have h := gI_k h
            refine G_dald X (j := l3.toNatClampNeg) 41 (eC41 _ _ _) hi16 rfl dX1_findForms_77 ?_
            refine G_aload_n X dX1_findForms_78 rfl 0 rfl ?_
            refine G_getf X inX1 2 (eC2 _ _ _) rfl 8 (by decide) qw89 rfl dX1_findForms_79 ?_
            refine G_iload X dX1_findForms_82 3 rfl ?_
            have hi17 := gI_n h
            have h := gI_k h
            refine G_dald X (j := l4.toNatClampNeg) 41 (eC41 _ _ _) hi17 rfl dX1_findForms_84 ?_
            refine G_dcmp X dX1_findForms_85 ?_
            refine G_ifge X (tgt := 98) dX1_findForms_86 (by decide) (fun c18 => ?_) (fun c18 => ?_)
            · have h := if_t c18 h
              refine G_aload_n X dX1_findForms_98 rfl 0 rfl ?_
              refine G_getf X inX1 2 (eC2 _ _ _) rfl 8 (by decide) qw89 rfl dX1_findForms_99 ?_
              refine G_iload X dX1_findForms_102 3 rfl ?_
              have hi19 := gI_n h
              have h := gI_k h
              refine G_dald X (j := l4.toNatClampNeg) 41 (eC41 _ _ _) hi19 rfl dX1_findForms_104 ?_
              refine G_topd (fun v20 ev20 => ?_)
              have h := bv_k ev20 h
              refine G_dstore_n X (lv2 := [(1, .double v20), (0, .ref (fAd (eF E) 2)), (3, .int l3), (4, .int l4)]) dX1_findForms_105 rfl (by decide) rfl ?_
              refine G_aload_n X dX1_findForms_106 rfl 1 rfl ?_
              refine G_aload_n X dX1_findForms_107 rfl 1 rfl ?_
              refine G_getf X inX1 2 (eC2 _ _ _) rfl 7 (by decide) qw88 rfl dX1_findForms_108 ?_
              refine G_iload_n X dX1_findForms_111 rfl 2 rfl ?_
              have hi21 := gI_n h
              have h := gI_k h
              refine G_iald X (j := l3.toNatClampNeg) 40 (eC40 _ _ _) hi21 rfl dX1_findForms_112 ?_
              refine G_putf X (ty := .int) tyX1 tyX1_ok nmX1 inX1 2 (eC2 _ _ _) rfl 1 (by decide) qw80 rfl (by decide +kernel) rfl rfl (Nat.le_of_ble_eq_true rfl) (oCI _ _ _ _ 1 (A.1 40 l3.toNatClampNeg) _ rfl) dX1_findForms_113 ?_
              refine G_topS (fun A22 eA22 => ?_)
              have h := bv_k eA22 h
              refine G_aload_n X dX1_findForms_116 rfl 1 rfl ?_
              refine G_aload_n X dX1_findForms_117 rfl 1 rfl ?_
              refine G_getf X inX1 2 (eC2 _ _ _) rfl 7 (by decide) qw88 rfl dX1_findForms_118 ?_
              refine G_iload X dX1_findForms_121 3 rfl ?_
              have hi23 := gI_n h
              have h := gI_k h
              refine G_iald X (j := l4.toNatClampNeg) 40 (eC40 _ _ _) hi23 rfl dX1_findForms_123 ?_
              refine G_putf X (ty := .int) tyX1 tyX1_ok nmX1 inX1 2 (eC2 _ _ _) rfl 2 (by decide) qw82 rfl (by decide +kernel) rfl rfl (Nat.le_of_ble_eq_true rfl) (oCI _ _ _ _ 2 (A22.1 40 l4.toNatClampNeg) _ rfl) dX1_findForms_124 ?_
              refine G_topS (fun A24 eA24 => ?_)
              have h := bv_k eA24 h
              obtain ⟨v25, ev25⟩ : ∃ y : Int32, y = l4 + 1 := ⟨_, rfl⟩
              have h := bv_k ev25 h
              refine G_iinc X (q := 3) (v := v25) (lv2 := [(4, .int v25), (1, .double v20), (0, .ref (fAd (eF E) 2)), (3, .int l3)]) dX1_findForms_127 rfl (by rw [ev25]; rfl) (by decide) rfl ?_
              refine G_goto X (tgt := 23) dX1_findForms_130 (by decide) ?_
              exact G_sub [2, 1, 3, 0] rfl (ih _ _ _ _ (lpl (so h) hx) K)
            · have h := if_f c18 h
              refine G_aload_n X dX1_findForms_89 rfl 0 rfl ?_
              refine G_getf X inX1 2 (eC2 _ _ _) rfl 8 (by decide) qw89 rfl dX1_findForms_90 ?_
              refine G_iload_n X dX1_findForms_93 rfl 2 rfl ?_
              have hi26 := gI_n h
              have h := gI_k h
              refine G_dald X (j := l3.toNatClampNeg) 41 (eC41 _ _ _) hi26 rfl dX1_findForms_94 ?_
              refine G_goto X (tgt := 105) dX1_findForms_95 (by decide) ?_
              refine G_topd (fun v27 ev27 => ?_)
              have h := bv_k ev27 h
              refine G_dstore_n X (lv2 := [(1, .double v27), (0, .ref (fAd (eF E) 2)), (3, .int l3), (4, .int l4)]) dX1_findForms_105 rfl (by decide) rfl ?_
              refine G_aload_n X dX1_findForms_106 rfl 1 rfl ?_
              refine G_aload_n X dX1_findForms_107 rfl 1 rfl ?_
              refine G_getf X inX1 2 (eC2 _ _ _) rfl 7 (by decide) qw88 rfl dX1_findForms_108 ?_
              refine G_iload_n X dX1_findForms_111 rfl 2 rfl ?_
              have hi28 := gI_n h
              have h := gI_k h
              refine G_iald X (j := l3.toNatClampNeg) 40 (eC40 _ _ _) hi28 rfl dX1_findForms_112 ?_
              refine G_putf X (ty := .int) tyX1 tyX1_ok nmX1 inX1 2 (eC2 _ _ _) rfl 1 (by decide) qw80 rfl (by decide +kernel) rfl rfl (Nat.le_of_ble_eq_true rfl) (oCI _ _ _ _ 1 (A.1 40 l3.toNatClampNeg) _ rfl) dX1_findForms_113 ?_
              refine G_topS (fun A29 eA29 => ?_)
              have h := bv_k eA29 h
              refine G_aload_n X dX1_findForms_116 rfl 1 rfl ?_
              refine G_aload_n X dX1_findForms_117 rfl 1 rfl ?_
              refine G_getf X inX1 2 (eC2 _ _ _) rfl 7 (by decide) qw88 rfl dX1_findForms_118 ?_
              refine G_iload X dX1_findForms_121 3 rfl ?_
              have hi30 := gI_n h
              have h := gI_k h
              refine G_iald X (j := l4.toNatClampNeg) 40 (eC40 _ _ _) hi30 rfl dX1_findForms_123 ?_
              refine G_putf X (ty := .int) tyX1 tyX1_ok nmX1 inX1 2 (eC2 _ _ _) rfl 2 (by decide) qw82 rfl (by decide +kernel) rfl rfl (Nat.le_of_ble_eq_true rfl) (oCI _ _ _ _ 2 (A29.1 40 l4.toNatClampNeg) _ rfl) dX1_findForms_124 ?_
              refine G_topS (fun A31 eA31 => ?_)
              have h := bv_k eA31 h
              obtain ⟨v32, ev32⟩ : ∃ y : Int32, y = l4 + 1 := ⟨_, rfl⟩
              have h := bv_k ev32 h
              refine G_iinc X (q := 3) (v := v32) (lv2 := [(4, .int v32), (1, .double v27), (0, .ref (fAd (eF E) 2)), (3, .int l3)]) dX1_findForms_127 rfl (by rw [ev32]; rfl) (by decide) rfl ?_
              refine G_goto X (tgt := 23) dX1_findForms_130 (by decide) ?_
              exact G_sub [2, 1, 3, 0] rfl (ih _ _ _ _ (lpl (so h) hx) K)
          · have h := if_f c14 h
            obtain ⟨v15, ev15⟩ : ∃ y : Int32, y = l4 + 1 := ⟨_, rfl⟩
            have h := bv_k ev15 h
            refine G_iinc X (q := 3) (v := v15) (lv2 := [(4, .int v15), (0, .ref (fAd (eF E) 2)), (1, .double l1), (3, .int l3)]) dX1_findForms_127 rfl (by rw [ev15]; rfl) (by decide) rfl ?_
            refine G_goto X (tgt := 23) dX1_findForms_130 (by decide) ?_
            exact G_sub [1, 2, 3, 0] rfl (ih _ _ _ _ (lpl (so h) hx) K)
set_option maxHeartbeats 4000000 in
set_option maxRecDepth 100000 in
theorem g_X1_findForms_L10 {E : pfE} (X : CX cellsC E cX1_findForms RX1 rm_X1_findForms 5) : ∀ (n : Nat) (l1 : UInt64) (l3 : Int32) (A : St) (ρ : UInt64 × St), lp (fun s => f_X1_findForms_L10 s.1 s.2.1 s.2.2) n (l1, l3, A) = some ρ → (∀ (q1 : UInt64) (B : St), ρ = (q1, B) → GG cellsC E B 139 [(1, .double q1)] []) → GG cellsC E A 10 [(0, .ref (fAd (eF E) 2)), (1, .double l1), (3, .int l3)] [] := by
  intro n
  induction n with
  | zero =>
    intro l1 l3 A ρ h
    cases h
  | succ n ih =>
    intro l1 l3 A ρ h0 K
    obtain ⟨x, hb, hx⟩ := lp_step h0
    have h : f_X1_findForms_L10 l1 l3 A = some x := hb
    unfold f_X1_findForms_L10 at h
    clear hb h0
    refine G_iload_n X dX1_findForms_10 rfl 2 rfl ?_
    refine G_aload_n X dX1_findForms_11 rfl 0 rfl ?_
    refine G_getf X inX1 2 (eC2 _ _ _) rfl 9 (by decide) qw90 rfl dX1_findForms_12 ?_
    refine G_icge X (tgt := 139) dX1_findForms_15 (by decide) (fun c4 => ?_) (fun c4 => ?_)
    · have h := if_t c4 h
      exact G_sub [1] rfl (K _ _ (lpr (so h) hx).symm)
    · have h := if_f c4 h
      refine G_iload_n X dX1_findForms_18 rfl 2 rfl ?_
      refine G_iconst X (v := 1) dX1_findForms_19 rfl ?_
      refine G_iadd X dX1_findForms_20 ?_
      refine G_topi (fun v5 ev5 => ?_)
      have h := bv_k ev5 h
      refine G_istore X (lv2 := [(4, .int v5), (0, .ref (fAd (eF E) 2)), (1, .double l1), (3, .int l3)]) dX1_findForms_21 (by decide) rfl ?_
      obtain ⟨ρ, hl, h⟩ := cl_k h
      obtain ⟨n, hl⟩ := loop_some hl
      refine G_sub [1, 2, 3, 0] rfl (g_X1_findForms_L23 X l3 n _ _ _ ρ hl ?_)
      intro v33 A34 e
      subst e
      have h : f_X1_findForms_X133_10 A34 v33 l3 = some _ := h
      unfold f_X1_findForms_X133_10 at h
      obtain ⟨v35, ev35⟩ : ∃ y : Int32, y = l3 + 1 := ⟨_, rfl⟩
      have h := bv_k ev35 h
      refine G_iinc X (q := 2) (v := v35) (lv2 := [(3, .int v35), (0, .ref (fAd (eF E) 2)), (1, .double v33)]) dX1_findForms_133 rfl (by rw [ev35]; rfl) (by decide) rfl ?_
      refine G_goto X (tgt := 10) dX1_findForms_136 (by decide) ?_
      exact G_sub [1, 2, 0] rfl (ih _ _ _ _ (lpl (so h) hx) K)
set_option maxHeartbeats 4000000 in
set_option maxRecDepth 100000 in
theorem b_X1_findForms {E : pfE} (X : CX cellsC E cX1_findForms RX1 rm_X1_findForms 5) (A : St) {out : Bool × St} (hQ : Reti cellsC E cX1_findForms (bI out.1) out.2) (h : f_X1_findForms A = some out) : GG cellsC E A 0 [(0, .ref (fAd (eF E) 2))] [] := by
  unfold f_X1_findForms at h
  refine G_aload_n X dX1_findForms_0 rfl 0 rfl ?_
  obtain ⟨A3, hz2, h⟩ := cl_k h
  refine G_callV_v X (As := []) (rest := []) ok_X1_listPapers qw460 2 (eC2 _ _ _) rfl rfl ⟨rfl, rfl, Nat.le_of_ble_eq_true rfl, Nat.le_of_ble_eq_true rfl⟩ (m_X1_listPapers X.d hz2) rfl rfl (Nat.le_of_ble_eq_true rfl) dX1_findForms_1 ?_
  refine G_ldc2d X (v := 13830554455654793216) qw461 dX1_findForms_4 ?_
  refine G_dstore_n X (lv2 := [(1, .double 13830554455654793216), (0, .ref (fAd (eF E) 2))]) dX1_findForms_7 rfl (by decide) rfl ?_
  refine G_iconst X (v := 0) dX1_findForms_8 rfl ?_
  refine G_istore_n X (lv2 := [(3, .int 0), (1, .double 13830554455654793216), (0, .ref (fAd (eF E) 2))]) dX1_findForms_9 rfl (by decide) rfl ?_
  obtain ⟨ρ, hl, h⟩ := cl_k h
  obtain ⟨n, hl⟩ := loop_some hl
  refine G_sub [2, 1, 0] rfl (g_X1_findForms_L10 X n _ _ _ ρ hl ?_)
  intro v37 A38 e
  subst e
  have h : f_X1_findForms_X139 A38 v37 = some _ := h
  unfold f_X1_findForms_X139 at h
  refine G_dload_n X dX1_findForms_139 rfl 0 rfl ?_
  refine G_dconst0 X dX1_findForms_140 ?_
  refine G_dcmp X dX1_findForms_141 ?_
  refine G_iflt X (tgt := 149) dX1_findForms_142 (by decide) (fun c39 => ?_) (fun c39 => ?_)
  · have h := if_t c39 h
    refine G_iconst X (v := 0) dX1_findForms_149 rfl ?_
    have e := so h
    subst e
    exact hQ _ _ dX1_findForms_150
  · have h := if_f c39 h
    refine G_iconst X (v := 1) dX1_findForms_145 rfl ?_
    refine G_goto X (tgt := 150) dX1_findForms_146 (by decide) ?_
    have e := so h
    subst e
    exact hQ _ _ dX1_findForms_150
theorem m_X1_findForms {l : Launch} {F : pfF} (hD : ∀ A, va_D (fA F) (cellsC (fAd F) (fCy F) A)) {A : St} {out : Bool × St} (h : f_X1_findForms A = some out) : Mt l F cellsC yX1_findForms cX1_findForms 5 (some .boolean) rm_X1_findForms [.ref (fAd F 2)] A (va_Qi (fun (r : Int32) (u : St) => r = bI out.1 ∧ u = out.2) (Wd cellsC F) (fA F)) := by
  refine Met_iz (by decide +kernel) (Nat.le_of_ble_eq_true rfl) hD (nar_bI _) (fun E el ef X hQ => ?_)
  subst el
  subst ef
  exact b_X1_findForms X _ hQ h
theorem ok_X1_findForms : OkV yX1_findForms cX1_findForms 5 (some .boolean) 0 := ⟨qw457, qw458, qw2, qw459, by decide, by decide, by decide⟩
noncomputable def f_X5_forms (x1 : Int32) (A : St) : Option (Int32 × St) :=
  cl (f_X5_within x1 0 1) fun r1 =>
  if (bI r1) = 0 then
    cl2 (f_X5_finding 0 A) fun r12 A14 =>
    some (r12, A14)
  else
    cl2 (f_X1_findForms A) fun r4 A6 =>
    if (bI r4) = 0 then
      cl2 (f_X5_finding 3 A6) fun r9 A11 =>
      some (r9, A11)
    else
      if x1 = 0 then
        some (A6.1 2 1, A6)
      else
        some (A6.1 2 2, A6)
abbrev rm_X5_forms : Room := { frames := 6, cells := 0, slots := 0, locals := 147 }
set_option maxHeartbeats 4000000 in
set_option maxRecDepth 100000 in
theorem b_X5_forms {E : pfE} (X : CX cellsC E cX5_forms RX5 rm_X5_forms 2) (x1 : Int32) (A : St) {out : Int32 × St} (hQ : Reti cellsC E cX5_forms out.1 out.2) (h : f_X5_forms x1 A = some out) : GG cellsC E A 0 [(0, .ref (fAd (eF E) 0)), (1, .int x1)] [] := by
  unfold f_X5_forms at h
  refine G_iload_n X dX5_forms_0 rfl 1 rfl ?_
  refine G_iconst X (v := 0) dX5_forms_1 rfl ?_
  refine G_iconst X (v := 1) dX5_forms_2 rfl ?_
  obtain ⟨r1, hz2, h⟩ := cl_k h
  refine G_callS_i X (As := [.int x1, .int 0, .int 1]) (rest := []) ok_X5_within qw184 ⟨rfl, rfl, Nat.le_of_ble_eq_true rfl, Nat.le_of_ble_eq_true rfl⟩ (m_X5_within X.d hz2) rfl rfl (Nat.le_of_ble_eq_true rfl) dX5_forms_3 ?_
  refine G_ifne X (tgt := 15) dX5_forms_6 (by decide) (fun c3 => ?_) (fun c3 => ?_)
  · have h := if_t c3 h
    refine G_aload_n X dX5_forms_9 rfl 0 rfl ?_
    refine G_iconst X (v := 0) dX5_forms_10 rfl ?_
    obtain ⟨r12, A14, hz13, h⟩ := cl2_k h
    refine G_callV_i X (As := [.int 0]) (rest := []) ok_X5_finding qw191 0 (eC0 _ _ _) rfl rfl ⟨rfl, rfl, Nat.le_of_ble_eq_true rfl, Nat.le_of_ble_eq_true rfl⟩ (m_X5_finding X.d hz13) rfl rfl (Nat.le_of_ble_eq_true rfl) dX5_forms_11 ?_
    have e := so h
    subst e
    exact hQ _ _ dX5_forms_14
  · have h := if_f c3 h
    refine G_aload_n X dX5_forms_15 rfl 0 rfl ?_
    refine G_getf X inX5 0 (eC0 _ _ _) rfl 1 (by decide) qw156 rfl dX5_forms_16 ?_
    obtain ⟨r4, A6, hz5, h⟩ := cl2_k h
    refine G_callV_i X (As := []) (rest := []) ok_X1_findForms qw456 2 (eC2 _ _ _) rfl rfl ⟨rfl, rfl, Nat.le_of_ble_eq_true rfl, Nat.le_of_ble_eq_true rfl⟩ (m_X1_findForms X.d hz5) rfl rfl (Nat.le_of_ble_eq_true rfl) dX5_forms_19 ?_
    refine G_ifne X (tgt := 31) dX5_forms_22 (by decide) (fun c7 => ?_) (fun c7 => ?_)
    · have h := if_t c7 h
      refine G_aload_n X dX5_forms_25 rfl 0 rfl ?_
      refine G_iconst X (v := 3) dX5_forms_26 rfl ?_
      obtain ⟨r9, A11, hz10, h⟩ := cl2_k h
      refine G_callV_i X (As := [.int 3]) (rest := []) ok_X5_finding qw191 0 (eC0 _ _ _) rfl rfl ⟨rfl, rfl, Nat.le_of_ble_eq_true rfl, Nat.le_of_ble_eq_true rfl⟩ (m_X5_finding X.d hz10) rfl rfl (Nat.le_of_ble_eq_true rfl) dX5_forms_27 ?_
      have e := so h
      subst e
      exact hQ _ _ dX5_forms_30
    · have h := if_f c7 h
      refine G_iload_n X dX5_forms_31 rfl 1 rfl ?_
      refine G_ifne X (tgt := 45) dX5_forms_32 (by decide) (fun c8 => ?_) (fun c8 => ?_)
      · have h := if_t c8 h
        refine G_aload_n X dX5_forms_35 rfl 0 rfl ?_
        refine G_getf X inX5 0 (eC0 _ _ _) rfl 1 (by decide) qw156 rfl dX5_forms_36 ?_
        refine G_getf X inX1 2 (eC2 _ _ _) rfl 1 (by decide) qw81 rfl dX5_forms_39 ?_
        refine G_goto X (tgt := 52) dX5_forms_42 (by decide) ?_
        have e := so h
        subst e
        exact hQ _ _ dX5_forms_52
      · have h := if_f c8 h
        refine G_aload_n X dX5_forms_45 rfl 0 rfl ?_
        refine G_getf X inX5 0 (eC0 _ _ _) rfl 1 (by decide) qw156 rfl dX5_forms_46 ?_
        refine G_getf X inX1 2 (eC2 _ _ _) rfl 2 (by decide) qw83 rfl dX5_forms_49 ?_
        have e := so h
        subst e
        exact hQ _ _ dX5_forms_52
theorem m_X5_forms {l : Launch} {F : pfF} (hD : ∀ A, va_D (fA F) (cellsC (fAd F) (fCy F) A)) {x1 : Int32} {A : St} {out : Int32 × St} (h : f_X5_forms x1 A = some out) : Mt l F cellsC yX5_forms cX5_forms 2 (some .int) rm_X5_forms [.ref (fAd F 0), .int x1] A (va_Qi (fun (r : Int32) (u : St) => r = out.1 ∧ u = out.2) (Wd cellsC F) (fA F)) := by
  refine Met_i (by decide +kernel) (Nat.le_of_ble_eq_true rfl) hD (fun E el ef X hQ => ?_)
  subst el
  subst ef
  exact b_X5_forms X _ _ hQ h
theorem ok_X5_forms : OkV yX5_forms cX5_forms 2 (some .int) 1 := ⟨qw453, qw454, qw1, qw455, by decide, by decide, by decide⟩
noncomputable def f_X1_formsGap (A : St) : Option (UInt64) :=
  cl (f_X1_valueOf (A.1 2 1) A) fun r1 =>
  cl (f_X1_valueOf (A.1 2 2) A) fun r3 =>
  g64 (FP.dsub r1 r3) fun v5 =>
  cl (f_X2_size v5) fun r6 =>
  some r6
abbrev rm_X1_formsGap : Room := { frames := 1, cells := 0, slots := 0, locals := 25 }
set_option maxHeartbeats 4000000 in
set_option maxRecDepth 100000 in
theorem b_X1_formsGap {E : pfE} (X : CX cellsC E cX1_formsGap RX1 rm_X1_formsGap 3) (A : St) {out : UInt64} (hQ : Retd cellsC E cX1_formsGap out A) (h : f_X1_formsGap A = some out) : GG cellsC E A 0 [(0, .ref (fAd (eF E) 2))] [] := by
  unfold f_X1_formsGap at h
  refine G_aload_n X dX1_formsGap_0 rfl 0 rfl ?_
  refine G_aload_n X dX1_formsGap_1 rfl 0 rfl ?_
  refine G_getf X inX1 2 (eC2 _ _ _) rfl 1 (by decide) qw80 rfl dX1_formsGap_2 ?_
  obtain ⟨r1, hz2, h⟩ := cl_k h
  refine G_callV_d X (As := [.int (A.1 2 1)]) (rest := []) ok_X1_valueOf qw426 2 (eC2 _ _ _) rfl rfl ⟨rfl, rfl, Nat.le_of_ble_eq_true rfl, Nat.le_of_ble_eq_true rfl⟩ (m_X1_valueOf X.d hz2) rfl rfl (Nat.le_of_ble_eq_true rfl) dX1_formsGap_5 ?_
  refine G_aload_n X dX1_formsGap_8 rfl 0 rfl ?_
  refine G_aload_n X dX1_formsGap_9 rfl 0 rfl ?_
  refine G_getf X inX1 2 (eC2 _ _ _) rfl 2 (by decide) qw82 rfl dX1_formsGap_10 ?_
  obtain ⟨r3, hz4, h⟩ := cl_k h
  refine G_callV_d X (As := [.int (A.1 2 2)]) (rest := [.double r1]) ok_X1_valueOf qw426 2 (eC2 _ _ _) rfl rfl ⟨rfl, rfl, Nat.le_of_ble_eq_true rfl, Nat.le_of_ble_eq_true rfl⟩ (m_X1_valueOf X.d hz4) rfl rfl (Nat.le_of_ble_eq_true rfl) dX1_formsGap_13 ?_
  have hv5 := g64_n h
  refine G_dsub X dX1_formsGap_16 hv5 ?_
  refine G_topd (fun v5 ev5 => ?_)
  have h := g64_k ev5 h
  refine G_dstore_n X (lv2 := [(1, .double v5), (0, .ref (fAd (eF E) 2))]) dX1_formsGap_17 rfl (by decide) rfl ?_
  refine G_dload_n X dX1_formsGap_18 rfl 0 rfl ?_
  obtain ⟨r6, hz7, h⟩ := cl_k h
  refine G_callS_d X (As := [.double v5]) (rest := []) ok_X2_size qw470 ⟨rfl, rfl, Nat.le_of_ble_eq_true rfl, Nat.le_of_ble_eq_true rfl⟩ (m_X2_size X.d hz7) rfl rfl (Nat.le_of_ble_eq_true rfl) dX1_formsGap_19 ?_
  have e := so h
  subst e
  exact hQ _ _ dX1_formsGap_22
theorem m_X1_formsGap {l : Launch} {F : pfF} (hD : ∀ A, va_D (fA F) (cellsC (fAd F) (fCy F) A)) {A : St} {out : UInt64} (h : f_X1_formsGap A = some out) : Mt l F cellsC yX1_formsGap cX1_formsGap 3 (some .double) rm_X1_formsGap [.ref (fAd F 2)] A (va_Qd (fun (r : UInt64) (u : St) => r = out ∧ u = A) (Wd cellsC F) (fA F)) := by
  refine Met_d (by decide +kernel) (Nat.le_of_ble_eq_true rfl) hD (fun E el ef X hQ => ?_)
  subst el
  subst ef
  exact b_X1_formsGap X _ hQ h
theorem ok_X1_formsGap : OkV yX1_formsGap cX1_formsGap 3 (some .double) 0 := ⟨qw467, qw468, qw2, qw469, by decide, by decide, by decide⟩
noncomputable def f_X5_gap (A : St) : Option (Int64 × St) :=
  cl2 (f_X1_findForms A) fun r1 A3 =>
  if (bI r1) = 0 then
    cl2 (f_X5_longFinding 3 A3) fun r9 A11 =>
    some (r9, A11)
  else
    cl (f_X1_formsGap A3) fun r5 =>
    cl (f_X2_doubleBits r5) fun r7 =>
    some (r7, A3)
abbrev rm_X5_gap : Room := { frames := 6, cells := 0, slots := 0, locals := 147 }
set_option maxHeartbeats 4000000 in
set_option maxRecDepth 100000 in
theorem b_X5_gap {E : pfE} (X : CX cellsC E cX5_gap RX5 rm_X5_gap 1) (A : St) {out : Int64 × St} (hQ : Retl cellsC E cX5_gap out.1 out.2) (h : f_X5_gap A = some out) : GG cellsC E A 0 [(0, .ref (fAd (eF E) 0))] [] := by
  unfold f_X5_gap at h
  refine G_aload_n X dX5_gap_0 rfl 0 rfl ?_
  refine G_getf X inX5 0 (eC0 _ _ _) rfl 1 (by decide) qw156 rfl dX5_gap_1 ?_
  obtain ⟨r1, A3, hz2, h⟩ := cl2_k h
  refine G_callV_i X (As := []) (rest := []) ok_X1_findForms qw456 2 (eC2 _ _ _) rfl rfl ⟨rfl, rfl, Nat.le_of_ble_eq_true rfl, Nat.le_of_ble_eq_true rfl⟩ (m_X1_findForms X.d hz2) rfl rfl (Nat.le_of_ble_eq_true rfl) dX5_gap_4 ?_
  refine G_ifne X (tgt := 16) dX5_gap_7 (by decide) (fun c4 => ?_) (fun c4 => ?_)
  · have h := if_t c4 h
    refine G_aload_n X dX5_gap_10 rfl 0 rfl ?_
    refine G_iconst X (v := 3) dX5_gap_11 rfl ?_
    obtain ⟨r9, A11, hz10, h⟩ := cl2_k h
    refine G_callV_l X (As := [.int 3]) (rest := []) ok_X5_longFinding qw260 0 (eC0 _ _ _) rfl rfl ⟨rfl, rfl, Nat.le_of_ble_eq_true rfl, Nat.le_of_ble_eq_true rfl⟩ (m_X5_longFinding X.d hz10) rfl rfl (Nat.le_of_ble_eq_true rfl) dX5_gap_12 ?_
    have e := so h
    subst e
    exact hQ _ _ dX5_gap_15
  · have h := if_f c4 h
    refine G_aload_n X dX5_gap_16 rfl 0 rfl ?_
    refine G_getf X inX5 0 (eC0 _ _ _) rfl 1 (by decide) qw156 rfl dX5_gap_17 ?_
    obtain ⟨r5, hz6, h⟩ := cl_k h
    refine G_callV_d X (As := []) (rest := []) ok_X1_formsGap qw466 2 (eC2 _ _ _) rfl rfl ⟨rfl, rfl, Nat.le_of_ble_eq_true rfl, Nat.le_of_ble_eq_true rfl⟩ (m_X1_formsGap X.d hz6) rfl rfl (Nat.le_of_ble_eq_true rfl) dX5_gap_20 ?_
    obtain ⟨r7, hz8, h⟩ := cl_k h
    refine G_callS_l X (As := [.double r5]) (rest := []) ok_X2_doubleBits qw289 ⟨rfl, rfl, Nat.le_of_ble_eq_true rfl, Nat.le_of_ble_eq_true rfl⟩ (m_X2_doubleBits X.d hz8) rfl rfl (Nat.le_of_ble_eq_true rfl) dX5_gap_23 ?_
    have e := so h
    subst e
    exact hQ _ _ dX5_gap_26
theorem m_X5_gap {l : Launch} {F : pfF} (hD : ∀ A, va_D (fA F) (cellsC (fAd F) (fCy F) A)) {A : St} {out : Int64 × St} (h : f_X5_gap A = some out) : Mt l F cellsC yX5_gap cX5_gap 1 (some .long) rm_X5_gap [.ref (fAd F 0)] A (va_Ql (fun (r : Int64) (u : St) => r = out.1 ∧ u = out.2) (Wd cellsC F) (fA F)) := by
  refine Met_l (by decide +kernel) (Nat.le_of_ble_eq_true rfl) hD (fun E el ef X hQ => ?_)
  subst el
  subst ef
  exact b_X5_gap X _ hQ h
theorem ok_X5_gap : OkV yX5_gap cX5_gap 1 (some .long) 0 := ⟨qw463, qw464, qw1, qw465, by decide, by decide, by decide⟩
noncomputable def f_X0_countUse_L2 (l1 : Int32) (l2 : Int32) (A : St) : Option ((Int32 × St) ⊕ (St)) :=
  if (A.1 3 0) ≤ l2 then
    some (.inr A)
  else
    gI l2 12 <|
    gI l2 12 <|
    bv (upI A 11 l2.toNatClampNeg ((A.1 11 l2.toNatClampNeg) + ((l1 >>> (l2 &&& 31)) &&& 1))) fun A4 =>
    bv (l2 + 1) fun v5 =>
    some (.inl (v5, A4))
noncomputable def f_X0_countUse_X33 (A : St) : Option (St) :=
  some A
noncomputable def f_X0_countUse (x1 : Int32) (A : St) : Option (St) :=
  cl (loop (fun s => f_X0_countUse_L2 x1 s.1 s.2) (0, A)) (fun s => f_X0_countUse_X33 s)
abbrev rm_X0_countUse : Room := { frames := 0, cells := 0, slots := 0, locals := 0 }
set_option maxHeartbeats 4000000 in
set_option maxRecDepth 100000 in
theorem g_X0_countUse_L2 {E : pfE} (X : CX cellsC E cX0_countUse RX0 rm_X0_countUse 3) (l1 : Int32) : ∀ (n : Nat) (l2 : Int32) (A : St) (ρ : St), lp (fun s => f_X0_countUse_L2 l1 s.1 s.2) n (l2, A) = some ρ → (∀ (B : St), ρ = B → GG cellsC E B 33 [] []) → GG cellsC E A 2 [(0, .ref (fAd (eF E) 3)), (1, .int l1), (2, .int l2)] [] := by
  intro n
  induction n with
  | zero =>
    intro l2 A ρ h
    cases h
  | succ n ih =>
    intro l2 A ρ h0 K
    obtain ⟨x, hb, hx⟩ := lp_step h0
    have h : f_X0_countUse_L2 l1 l2 A = some x := hb
    unfold f_X0_countUse_L2 at h
    clear hb h0
    refine G_iload_n X dX0_countUse_2 rfl 2 rfl ?_
    refine G_aload_n X dX0_countUse_3 rfl 0 rfl ?_
    refine G_getf X inX0 3 (eC3 _ _ _) rfl 0 (by decide) qw35 rfl dX0_countUse_4 ?_
    refine G_icge X (tgt := 33) dX0_countUse_7 (by decide) (fun c1 => ?_) (fun c1 => ?_)
    · have h := if_t c1 h
      exact G_sub [] rfl (K _ (lpr (so h) hx).symm)
    · have h := if_f c1 h
      refine G_aload_n X dX0_countUse_10 rfl 0 rfl ?_
      refine G_getf X inX0 3 (eC3 _ _ _) rfl 1 (by decide) qw38 rfl dX0_countUse_11 ?_
      refine G_bipush X (v := 6) dX0_countUse_14 rfl ?_
      refine G_aald X (t0 := 3) (b := fAd (eF E) 11) 4 (eC4 _ _ _) rfl rfl (vi rfl) rfl dX0_countUse_16 ?_
      refine G_iload_n X dX0_countUse_17 rfl 2 rfl ?_
      refine G_dup2 X dX0_countUse_18 rfl rfl ?_
      have hi2 := gI_n h
      have h := gI_k h
      refine G_iald X (j := l2.toNatClampNeg) 11 (eC11 _ _ _) hi2 rfl dX0_countUse_19 ?_
      refine G_iload_n X dX0_countUse_20 rfl 1 rfl ?_
      refine G_iload_n X dX0_countUse_21 rfl 2 rfl ?_
      refine G_ishr X dX0_countUse_22 ?_
      refine G_iconst X (v := 1) dX0_countUse_23 rfl ?_
      refine G_iand X dX0_countUse_24 ?_
      refine G_iadd X dX0_countUse_25 ?_
      have hi3 := gI_n h
      have h := gI_k h
      refine G_iast X (j := l2.toNatClampNeg) 11 (eC11 _ _ _) (sCI _ _ _ _ l2.toNatClampNeg _ _ (fun _ => rfl)) hi3 rfl dX0_countUse_26 ?_
      refine G_topS (fun A4 eA4 => ?_)
      have h := bv_k eA4 h
      obtain ⟨v5, ev5⟩ : ∃ y : Int32, y = l2 + 1 := ⟨_, rfl⟩
      have h := bv_k ev5 h
      refine G_iinc X (q := 2) (v := v5) (lv2 := [(2, .int v5), (0, .ref (fAd (eF E) 3)), (1, .int l1)]) dX0_countUse_27 rfl (by rw [ev5]; rfl) (by decide) rfl ?_
      refine G_goto X (tgt := 2) dX0_countUse_30 (by decide) ?_
      exact G_sub [1, 2, 0] rfl (ih _ _ _ (lpl (so h) hx) K)
set_option maxHeartbeats 4000000 in
set_option maxRecDepth 100000 in
theorem b_X0_countUse {E : pfE} (X : CX cellsC E cX0_countUse RX0 rm_X0_countUse 3) (x1 : Int32) (A : St) {out : St} (hQ : Retv cellsC E cX0_countUse out) (h : f_X0_countUse x1 A = some out) : GG cellsC E A 0 [(0, .ref (fAd (eF E) 3)), (1, .int x1)] [] := by
  unfold f_X0_countUse at h
  refine G_iconst X (v := 0) dX0_countUse_0 rfl ?_
  refine G_istore_n X (lv2 := [(2, .int 0), (0, .ref (fAd (eF E) 3)), (1, .int x1)]) dX0_countUse_1 rfl (by decide) rfl ?_
  obtain ⟨ρ, hl, h⟩ := cl_k h
  obtain ⟨n, hl⟩ := loop_some hl
  refine G_sub [1, 2, 0] rfl (g_X0_countUse_L2 X x1 n _ _ ρ hl ?_)
  intro A6 e
  rw [e] at h
  have h : f_X0_countUse_X33 A6 = some _ := h
  unfold f_X0_countUse_X33 at h
  have e := so h
  subst e
  exact hQ _ _ dX0_countUse_33
theorem m_X0_countUse {l : Launch} {F : pfF} (hD : ∀ A, va_D (fA F) (cellsC (fAd F) (fCy F) A)) {x1 : Int32} {A : St} {out : St} (h : f_X0_countUse x1 A = some out) : Mt l F cellsC yX0_countUse cX0_countUse 3 none rm_X0_countUse [.ref (fAd F 3), .int x1] A (va_Qv (fun (u : St) => u = out) (Wd cellsC F) (fA F)) := by
  refine Met_v (by decide +kernel) (Nat.le_of_ble_eq_true rfl) hD (fun E el ef X hQ => ?_)
  subst el
  subst ef
  exact b_X0_countUse X _ _ hQ h
theorem ok_X0_countUse : OkV yX0_countUse cX0_countUse 3 none 1 := ⟨qw476, qw477, qw3, qw478, by decide, by decide, by decide⟩
noncomputable def f_X5_use (x1 : Int32) (A : St) : Option (Int32 × St) :=
  cl (f_X0_hasAll x1 A) fun r1 =>
  if (bI r1) = 0 then
    cl2 (f_X5_finding 0 A) fun r20 A22 =>
    some (r20, A22)
  else
    cl (f_X1_readRules A) fun A6 =>
    cl (f_X1_isPaper x1 A6) fun r7 =>
    if (bI r7) = 0 then
      cl2 (f_X5_finding 4 A6) fun r17 A19 =>
      some (r17, A19)
    else
      cl (f_X0_countUse x1 A6) fun A12 =>
      cl (f_X0_wornItems A12) fun r13 =>
      cl (f_J6_bitCount_0f7a4 r13) fun r15 =>
      some (r15, A12)
abbrev rm_X5_use : Room := { frames := 5, cells := 0, slots := 0, locals := 109 }
set_option maxHeartbeats 4000000 in
set_option maxRecDepth 100000 in
theorem b_X5_use {E : pfE} (X : CX cellsC E cX5_use RX5 rm_X5_use 2) (x1 : Int32) (A : St) {out : Int32 × St} (hQ : Reti cellsC E cX5_use out.1 out.2) (h : f_X5_use x1 A = some out) : GG cellsC E A 0 [(0, .ref (fAd (eF E) 0)), (1, .int x1)] [] := by
  unfold f_X5_use at h
  refine G_aload_n X dX5_use_0 rfl 0 rfl ?_
  refine G_getf X inX5 0 (eC0 _ _ _) rfl 2 (by decide) qw157 rfl dX5_use_1 ?_
  refine G_iload_n X dX5_use_4 rfl 1 rfl ?_
  obtain ⟨r1, hz2, h⟩ := cl_k h
  refine G_callV_i X (As := [.int x1]) (rest := []) ok_X0_hasAll qw309 3 (eC3 _ _ _) rfl rfl ⟨rfl, rfl, Nat.le_of_ble_eq_true rfl, Nat.le_of_ble_eq_true rfl⟩ (m_X0_hasAll X.d hz2) rfl rfl (Nat.le_of_ble_eq_true rfl) dX5_use_5 ?_
  refine G_ifne X (tgt := 17) dX5_use_8 (by decide) (fun c3 => ?_) (fun c3 => ?_)
  · have h := if_t c3 h
    refine G_aload_n X dX5_use_11 rfl 0 rfl ?_
    refine G_iconst X (v := 0) dX5_use_12 rfl ?_
    obtain ⟨r20, A22, hz21, h⟩ := cl2_k h
    refine G_callV_i X (As := [.int 0]) (rest := []) ok_X5_finding qw191 0 (eC0 _ _ _) rfl rfl ⟨rfl, rfl, Nat.le_of_ble_eq_true rfl, Nat.le_of_ble_eq_true rfl⟩ (m_X5_finding X.d hz21) rfl rfl (Nat.le_of_ble_eq_true rfl) dX5_use_13 ?_
    have e := so h
    subst e
    exact hQ _ _ dX5_use_16
  · have h := if_f c3 h
    refine G_aload_n X dX5_use_17 rfl 0 rfl ?_
    refine G_getf X inX5 0 (eC0 _ _ _) rfl 1 (by decide) qw156 rfl dX5_use_18 ?_
    obtain ⟨A6, hz5, h⟩ := cl_k h
    refine G_callV_v X (As := []) (rest := []) ok_X1_readRules qw361 2 (eC2 _ _ _) rfl rfl ⟨rfl, rfl, Nat.le_of_ble_eq_true rfl, Nat.le_of_ble_eq_true rfl⟩ (m_X1_readRules X.d hz5) rfl rfl (Nat.le_of_ble_eq_true rfl) dX5_use_21 ?_
    refine G_aload_n X dX5_use_24 rfl 0 rfl ?_
    refine G_getf X inX5 0 (eC0 _ _ _) rfl 1 (by decide) qw156 rfl dX5_use_25 ?_
    refine G_iload_n X dX5_use_28 rfl 1 rfl ?_
    obtain ⟨r7, hz8, h⟩ := cl_k h
    refine G_callV_i X (As := [.int x1]) (rest := []) ok_X1_isPaper qw443 2 (eC2 _ _ _) rfl rfl ⟨rfl, rfl, Nat.le_of_ble_eq_true rfl, Nat.le_of_ble_eq_true rfl⟩ (m_X1_isPaper X.d hz8) rfl rfl (Nat.le_of_ble_eq_true rfl) dX5_use_29 ?_
    refine G_ifne X (tgt := 41) dX5_use_32 (by decide) (fun c9 => ?_) (fun c9 => ?_)
    · have h := if_t c9 h
      refine G_aload_n X dX5_use_35 rfl 0 rfl ?_
      refine G_iconst X (v := 4) dX5_use_36 rfl ?_
      obtain ⟨r17, A19, hz18, h⟩ := cl2_k h
      refine G_callV_i X (As := [.int 4]) (rest := []) ok_X5_finding qw191 0 (eC0 _ _ _) rfl rfl ⟨rfl, rfl, Nat.le_of_ble_eq_true rfl, Nat.le_of_ble_eq_true rfl⟩ (m_X5_finding X.d hz18) rfl rfl (Nat.le_of_ble_eq_true rfl) dX5_use_37 ?_
      have e := so h
      subst e
      exact hQ _ _ dX5_use_40
    · have h := if_f c9 h
      refine G_aload_n X dX5_use_41 rfl 0 rfl ?_
      refine G_getf X inX5 0 (eC0 _ _ _) rfl 2 (by decide) qw157 rfl dX5_use_42 ?_
      refine G_iload_n X dX5_use_45 rfl 1 rfl ?_
      obtain ⟨A12, hz11, h⟩ := cl_k h
      refine G_callV_v X (As := [.int x1]) (rest := []) ok_X0_countUse qw475 3 (eC3 _ _ _) rfl rfl ⟨rfl, rfl, Nat.le_of_ble_eq_true rfl, Nat.le_of_ble_eq_true rfl⟩ (m_X0_countUse X.d hz11) rfl rfl (Nat.le_of_ble_eq_true rfl) dX5_use_46 ?_
      refine G_aload_n X dX5_use_49 rfl 0 rfl ?_
      refine G_getf X inX5 0 (eC0 _ _ _) rfl 2 (by decide) qw157 rfl dX5_use_50 ?_
      obtain ⟨r13, hz14, h⟩ := cl_k h
      refine G_callV_i X (As := []) (rest := []) ok_X0_wornItems qw479 3 (eC3 _ _ _) rfl rfl ⟨rfl, rfl, Nat.le_of_ble_eq_true rfl, Nat.le_of_ble_eq_true rfl⟩ (m_X0_wornItems X.d hz14) rfl rfl (Nat.le_of_ble_eq_true rfl) dX5_use_53 ?_
      obtain ⟨r15, hz16, h⟩ := cl_k h
      refine G_callS_i X (As := [.int r13]) (rest := []) ok_J6_bitCount_0f7a4 qw480 ⟨rfl, rfl, Nat.le_of_ble_eq_true rfl, Nat.le_of_ble_eq_true rfl⟩ (m_J6_bitCount_0f7a4 X.d hz16) rfl rfl (Nat.le_of_ble_eq_true rfl) dX5_use_56 ?_
      have e := so h
      subst e
      exact hQ _ _ dX5_use_59
theorem m_X5_use {l : Launch} {F : pfF} (hD : ∀ A, va_D (fA F) (cellsC (fAd F) (fCy F) A)) {x1 : Int32} {A : St} {out : Int32 × St} (h : f_X5_use x1 A = some out) : Mt l F cellsC yX5_use cX5_use 2 (some .int) rm_X5_use [.ref (fAd F 0), .int x1] A (va_Qi (fun (r : Int32) (u : St) => r = out.1 ∧ u = out.2) (Wd cellsC F) (fA F)) := by
  refine Met_i (by decide +kernel) (Nat.le_of_ble_eq_true rfl) hD (fun E el ef X hQ => ?_)
  subst el
  subst ef
  exact b_X5_use X _ _ hQ h
theorem ok_X5_use : OkV yX5_use cX5_use 2 (some .int) 1 := ⟨qw472, qw473, qw1, qw474, by decide, by decide, by decide⟩
noncomputable def f_X5_uses_L25 (l1 : Int32) (l2 : Int32) (A : St) : Option ((Int32 × St) ⊕ ((St) ⊕ (Int32 × St))) :=
  if l1 ≤ l2 then
    some (.inr (.inl A))
  else
    cl (f_X1_bestListed A) fun r8 =>
    if 0 ≤ r8 then
      cl (f_X0_countUse r8 A) fun A13 =>
      bv (l2 + 1) fun v14 =>
      some (.inl (v14, A13))
    else
      some (.inr (.inr (l2, A)))
noncomputable def f_X5_uses_X58 (A : St) (m1 : Int32) : Option (Int32 × St) :=
  some (m1, A)
noncomputable def f_X5_uses (x1 : Int32) (A : St) : Option (Int32 × St) :=
  cl (f_X5_within x1 1 20) fun r1 =>
  if (bI r1) = 0 then
    cl2 (f_X5_finding 0 A) fun r16 A18 =>
    some (r16, A18)
  else
    cl (f_X1_listPapers A) fun A6 =>
    cl (loop (fun s => f_X5_uses_L25 x1 s.1 s.2) (0, A6)) (Sum.elim (fun s => f_X5_uses_X58 s x1) (fun t => some t))
abbrev rm_X5_uses : Room := { frames := 5, cells := 0, slots := 0, locals := 123 }
set_option maxHeartbeats 4000000 in
set_option maxRecDepth 100000 in
theorem g_X5_uses_L25 {E : pfE} (X : CX cellsC E cX5_uses RX5 rm_X5_uses 4) (l1 : Int32) {out : Int32 × St} (hQ : Reti cellsC E cX5_uses out.1 out.2) : ∀ (n : Nat) (l2 : Int32) (A : St) (ρ : (St) ⊕ (Int32 × St)), lp (fun s => f_X5_uses_L25 l1 s.1 s.2) n (l2, A) = some ρ → (∀ (B : St), ρ = .inl B → GG cellsC E B 58 [(1, .int l1)] []) → (∀ t, ρ = .inr t → t = out) → GG cellsC E A 25 [(0, .ref (fAd (eF E) 0)), (1, .int l1), (2, .int l2)] [] := by
  intro n
  induction n with
  | zero =>
    intro l2 A ρ h
    cases h
  | succ n ih =>
    intro l2 A ρ h0 K KR
    obtain ⟨x, hb, hx⟩ := lp_step h0
    have h : f_X5_uses_L25 l1 l2 A = some x := hb
    unfold f_X5_uses_L25 at h
    clear hb h0
    refine G_iload_n X dX5_uses_25 rfl 2 rfl ?_
    refine G_iload_n X dX5_uses_26 rfl 1 rfl ?_
    refine G_icge X (tgt := 58) dX5_uses_27 (by decide) (fun c7 => ?_) (fun c7 => ?_)
    · have h := if_t c7 h
      exact G_sub [1] rfl (K _ (lpr (so h) hx).symm)
    · have h := if_f c7 h
      refine G_aload_n X dX5_uses_30 rfl 0 rfl ?_
      refine G_getf X inX5 0 (eC0 _ _ _) rfl 1 (by decide) qw156 rfl dX5_uses_31 ?_
      obtain ⟨r8, hz9, h⟩ := cl_k h
      refine G_callV_i X (As := []) (rest := []) ok_X1_bestListed qw427 2 (eC2 _ _ _) rfl rfl ⟨rfl, rfl, Nat.le_of_ble_eq_true rfl, Nat.le_of_ble_eq_true rfl⟩ (m_X1_bestListed X.d hz9) rfl rfl (Nat.le_of_ble_eq_true rfl) dX5_uses_34 ?_
      refine G_istore_n X (lv2 := [(3, .int r8), (0, .ref (fAd (eF E) 0)), (1, .int l1), (2, .int l2)]) dX5_uses_37 rfl (by decide) rfl ?_
      refine G_iload_n X dX5_uses_38 rfl 0 rfl ?_
      refine G_ifge X (tgt := 44) dX5_uses_39 (by decide) (fun c10 => ?_) (fun c10 => ?_)
      · have h := if_t c10 h
        refine G_aload_n X dX5_uses_44 rfl 1 rfl ?_
        refine G_getf X inX5 0 (eC0 _ _ _) rfl 2 (by decide) qw157 rfl dX5_uses_45 ?_
        refine G_iload_n X dX5_uses_48 rfl 0 rfl ?_
        obtain ⟨A13, hz12, h⟩ := cl_k h
        refine G_callV_v X (As := [.int r8]) (rest := []) ok_X0_countUse qw475 3 (eC3 _ _ _) rfl rfl ⟨rfl, rfl, Nat.le_of_ble_eq_true rfl, Nat.le_of_ble_eq_true rfl⟩ (m_X0_countUse X.d hz12) rfl rfl (Nat.le_of_ble_eq_true rfl) dX5_uses_49 ?_
        obtain ⟨v14, ev14⟩ : ∃ y : Int32, y = l2 + 1 := ⟨_, rfl⟩
        have h := bv_k ev14 h
        refine G_iinc X (q := 3) (v := v14) (lv2 := [(2, .int v14), (3, .int r8), (0, .ref (fAd (eF E) 0)), (1, .int l1)]) dX5_uses_52 rfl (by rw [ev14]; rfl) (by decide) rfl ?_
        refine G_goto X (tgt := 25) dX5_uses_55 (by decide) ?_
        exact G_sub [2, 3, 0] rfl (ih _ _ _ (lpl (so h) hx) K KR)
      · have h := if_f c10 h
        refine G_iload_n X dX5_uses_42 rfl 3 rfl ?_
        have e := KR _ (lpr (so h) hx).symm
        subst e
        exact hQ _ _ dX5_uses_43
set_option maxHeartbeats 4000000 in
set_option maxRecDepth 100000 in
theorem b_X5_uses {E : pfE} (X : CX cellsC E cX5_uses RX5 rm_X5_uses 4) (x1 : Int32) (A : St) {out : Int32 × St} (hQ : Reti cellsC E cX5_uses out.1 out.2) (h : f_X5_uses x1 A = some out) : GG cellsC E A 0 [(0, .ref (fAd (eF E) 0)), (1, .int x1)] [] := by
  unfold f_X5_uses at h
  refine G_iload_n X dX5_uses_0 rfl 1 rfl ?_
  refine G_iconst X (v := 1) dX5_uses_1 rfl ?_
  refine G_bipush X (v := 20) dX5_uses_2 rfl ?_
  obtain ⟨r1, hz2, h⟩ := cl_k h
  refine G_callS_i X (As := [.int x1, .int 1, .int 20]) (rest := []) ok_X5_within qw184 ⟨rfl, rfl, Nat.le_of_ble_eq_true rfl, Nat.le_of_ble_eq_true rfl⟩ (m_X5_within X.d hz2) rfl rfl (Nat.le_of_ble_eq_true rfl) dX5_uses_4 ?_
  refine G_ifne X (tgt := 16) dX5_uses_7 (by decide) (fun c3 => ?_) (fun c3 => ?_)
  · have h := if_t c3 h
    refine G_aload_n X dX5_uses_10 rfl 0 rfl ?_
    refine G_iconst X (v := 0) dX5_uses_11 rfl ?_
    obtain ⟨r16, A18, hz17, h⟩ := cl2_k h
    refine G_callV_i X (As := [.int 0]) (rest := []) ok_X5_finding qw191 0 (eC0 _ _ _) rfl rfl ⟨rfl, rfl, Nat.le_of_ble_eq_true rfl, Nat.le_of_ble_eq_true rfl⟩ (m_X5_finding X.d hz17) rfl rfl (Nat.le_of_ble_eq_true rfl) dX5_uses_12 ?_
    have e := so h
    subst e
    exact hQ _ _ dX5_uses_15
  · have h := if_f c3 h
    refine G_aload_n X dX5_uses_16 rfl 0 rfl ?_
    refine G_getf X inX5 0 (eC0 _ _ _) rfl 1 (by decide) qw156 rfl dX5_uses_17 ?_
    obtain ⟨A6, hz5, h⟩ := cl_k h
    refine G_callV_v X (As := []) (rest := []) ok_X1_listPapers qw420 2 (eC2 _ _ _) rfl rfl ⟨rfl, rfl, Nat.le_of_ble_eq_true rfl, Nat.le_of_ble_eq_true rfl⟩ (m_X1_listPapers X.d hz5) rfl rfl (Nat.le_of_ble_eq_true rfl) dX5_uses_20 ?_
    refine G_iconst X (v := 0) dX5_uses_23 rfl ?_
    refine G_istore_n X (lv2 := [(2, .int 0), (0, .ref (fAd (eF E) 0)), (1, .int x1)]) dX5_uses_24 rfl (by decide) rfl ?_
    obtain ⟨ρ, hl, h⟩ := cl_k h
    obtain ⟨n, hl⟩ := loop_some hl
    refine G_sub [1, 2, 0] rfl (g_X5_uses_L25 X x1 hQ n _ _ ρ hl ?_ (fun t e => by subst e; exact so h))
    intro A15 e
    subst e
    have h : f_X5_uses_X58 A15 x1 = some _ := h
    unfold f_X5_uses_X58 at h
    refine G_iload_n X dX5_uses_58 rfl 0 rfl ?_
    have e := so h
    subst e
    exact hQ _ _ dX5_uses_59
theorem m_X5_uses {l : Launch} {F : pfF} (hD : ∀ A, va_D (fA F) (cellsC (fAd F) (fCy F) A)) {x1 : Int32} {A : St} {out : Int32 × St} (h : f_X5_uses x1 A = some out) : Mt l F cellsC yX5_uses cX5_uses 4 (some .int) rm_X5_uses [.ref (fAd F 0), .int x1] A (va_Qi (fun (r : Int32) (u : St) => r = out.1 ∧ u = out.2) (Wd cellsC F) (fA F)) := by
  refine Met_i (by decide +kernel) (Nat.le_of_ble_eq_true rfl) hD (fun E el ef X hQ => ?_)
  subst el
  subst ef
  exact b_X5_uses X _ _ hQ h
theorem ok_X5_uses : OkV yX5_uses cX5_uses 4 (some .int) 1 := ⟨qw482, qw483, qw1, qw484, by decide, by decide, by decide⟩
noncomputable def f_X0_drawSet (A : St) : Option (Int32 × St) :=
  bv (upI A 3 7 (((A.1 3 7) * 1103515245) + 12345)) fun A1 =>
  some (((((A1.1 3 7).toUInt32 >>> ((8 : Int32).toUInt32 &&& Int32.toUInt32 31)).toInt32) - (((A1.1 3 7).toUInt32 >>> ((8 : Int32).toUInt32 &&& Int32.toUInt32 31)).toInt32) / (4096 : Int32) * (4096 : Int32)) &&& (((1 : Int32) <<< ((A1.1 3 0) &&& 31)) - 1), A1)
abbrev rm_X0_drawSet : Room := { frames := 0, cells := 0, slots := 0, locals := 0 }
set_option maxHeartbeats 4000000 in
set_option maxRecDepth 100000 in
theorem b_X0_drawSet {E : pfE} (X : CX cellsC E cX0_drawSet RX0 rm_X0_drawSet 1) (A : St) {out : Int32 × St} (hQ : Reti cellsC E cX0_drawSet out.1 out.2) (h : f_X0_drawSet A = some out) : GG cellsC E A 0 [(0, .ref (fAd (eF E) 3))] [] := by
  unfold f_X0_drawSet at h
  refine G_aload_n X dX0_drawSet_0 rfl 0 rfl ?_
  refine G_aload_n X dX0_drawSet_1 rfl 0 rfl ?_
  refine G_getf X inX0 3 (eC3 _ _ _) rfl 7 (by decide) qw56 rfl dX0_drawSet_2 ?_
  refine G_ldc X (v := 1103515245) qw493 dX0_drawSet_5 ?_
  refine G_imul X dX0_drawSet_7 ?_
  refine G_sipush X (v := 12345) dX0_drawSet_8 rfl ?_
  refine G_iadd X dX0_drawSet_11 ?_
  refine G_putf X (ty := .int) tyX0 tyX0_ok nmX0 inX0 3 (eC3 _ _ _) rfl 7 (by decide) qw56 rfl (by decide +kernel) rfl rfl (Nat.le_of_ble_eq_true rfl) (oCI _ _ _ _ 7 (((A.1 3 7) * 1103515245) + 12345) _ rfl) dX0_drawSet_12 ?_
  refine G_topS (fun A1 eA1 => ?_)
  have h := bv_k eA1 h
  refine G_aload_n X dX0_drawSet_15 rfl 0 rfl ?_
  refine G_getf X inX0 3 (eC3 _ _ _) rfl 7 (by decide) qw56 rfl dX0_drawSet_16 ?_
  refine G_bipush X (v := 8) dX0_drawSet_19 rfl ?_
  refine G_iushr X dX0_drawSet_21 rfl ?_
  refine G_sipush X (v := 4096) dX0_drawSet_22 rfl ?_
  refine G_irem X dX0_drawSet_25 (by decide) ?_
  refine G_iconst X (v := 1) dX0_drawSet_26 rfl ?_
  refine G_aload_n X dX0_drawSet_27 rfl 0 rfl ?_
  refine G_getf X inX0 3 (eC3 _ _ _) rfl 0 (by decide) qw35 rfl dX0_drawSet_28 ?_
  refine G_ishl X dX0_drawSet_31 ?_
  refine G_iconst X (v := 1) dX0_drawSet_32 rfl ?_
  refine G_isub X dX0_drawSet_33 ?_
  refine G_iand X dX0_drawSet_34 ?_
  have e := so h
  subst e
  exact hQ _ _ dX0_drawSet_35
theorem m_X0_drawSet {l : Launch} {F : pfF} (hD : ∀ A, va_D (fA F) (cellsC (fAd F) (fCy F) A)) {A : St} {out : Int32 × St} (h : f_X0_drawSet A = some out) : Mt l F cellsC yX0_drawSet cX0_drawSet 1 (some .int) rm_X0_drawSet [.ref (fAd F 3)] A (va_Qi (fun (r : Int32) (u : St) => r = out.1 ∧ u = out.2) (Wd cellsC F) (fA F)) := by
  refine Met_i (by decide +kernel) (Nat.le_of_ble_eq_true rfl) hD (fun E el ef X hQ => ?_)
  subst el
  subst ef
  exact b_X0_drawSet X _ hQ h
theorem ok_X0_drawSet : OkV yX0_drawSet cX0_drawSet 1 (some .int) 0 := ⟨qw490, qw491, qw3, qw492, by decide, by decide, by decide⟩
noncomputable def f_X1_betterPaper (x1 : Int32) (x2 : Int32) (A : St) : Option (Int32) :=
  cl (f_X1_isPaper x2 A) fun r1 =>
  if (bI r1) = 0 then
    cl (f_X1_isPaper x1 A) fun r12 =>
    if (bI r12) = 0 then
      some (-1)
    else
      some x1
  else
    cl (f_X1_isPaper x1 A) fun r4 =>
    if (bI r4) = 0 then
      some x2
    else
      cl (f_X1_valueOf x2 A) fun r7 =>
      cl (f_X1_valueOf x1 A) fun r9 =>
      if (Op.cmpValue (FP.dcmp r7 r9) .l) ≤ 0 then
        some x1
      else
        some x2
abbrev rm_X1_betterPaper : Room := { frames := 5, cells := 0, slots := 0, locals := 109 }
set_option maxHeartbeats 4000000 in
set_option maxRecDepth 100000 in
theorem b_X1_betterPaper {E : pfE} (X : CX cellsC E cX1_betterPaper RX1 rm_X1_betterPaper 3) (x1 : Int32) (x2 : Int32) (A : St) {out : Int32} (hQ : Reti cellsC E cX1_betterPaper out A) (h : f_X1_betterPaper x1 x2 A = some out) : GG cellsC E A 0 [(0, .ref (fAd (eF E) 2)), (1, .int x1), (2, .int x2)] [] := by
  unfold f_X1_betterPaper at h
  refine G_aload_n X dX1_betterPaper_0 rfl 0 rfl ?_
  refine G_iload_n X dX1_betterPaper_1 rfl 2 rfl ?_
  obtain ⟨r1, hz2, h⟩ := cl_k h
  refine G_callV_i X (As := [.int x2]) (rest := []) ok_X1_isPaper qw451 2 (eC2 _ _ _) rfl rfl ⟨rfl, rfl, Nat.le_of_ble_eq_true rfl, Nat.le_of_ble_eq_true rfl⟩ (m_X1_isPaper X.d hz2) rfl rfl (Nat.le_of_ble_eq_true rfl) dX1_betterPaper_2 ?_
  refine G_ifne X (tgt := 22) dX1_betterPaper_5 (by decide) (fun c3 => ?_) (fun c3 => ?_)
  · have h := if_t c3 h
    refine G_aload_n X dX1_betterPaper_8 rfl 0 rfl ?_
    refine G_iload_n X dX1_betterPaper_9 rfl 1 rfl ?_
    obtain ⟨r12, hz13, h⟩ := cl_k h
    refine G_callV_i X (As := [.int x1]) (rest := []) ok_X1_isPaper qw451 2 (eC2 _ _ _) rfl rfl ⟨rfl, rfl, Nat.le_of_ble_eq_true rfl, Nat.le_of_ble_eq_true rfl⟩ (m_X1_isPaper X.d hz13) rfl rfl (Nat.le_of_ble_eq_true rfl) dX1_betterPaper_10 ?_
    refine G_ifeq X (tgt := 20) dX1_betterPaper_13 (by decide) (fun c14 => ?_) (fun c14 => ?_)
    · have h := if_t c14 h
      refine G_iconst X (v := (-1)) dX1_betterPaper_20 rfl ?_
      have e := so h
      subst e
      exact hQ _ _ dX1_betterPaper_21
    · have h := if_f c14 h
      refine G_iload_n X dX1_betterPaper_16 rfl 1 rfl ?_
      refine G_goto X (tgt := 21) dX1_betterPaper_17 (by decide) ?_
      have e := so h
      subst e
      exact hQ _ _ dX1_betterPaper_21
  · have h := if_f c3 h
    refine G_aload_n X dX1_betterPaper_22 rfl 0 rfl ?_
    refine G_iload_n X dX1_betterPaper_23 rfl 1 rfl ?_
    obtain ⟨r4, hz5, h⟩ := cl_k h
    refine G_callV_i X (As := [.int x1]) (rest := []) ok_X1_isPaper qw451 2 (eC2 _ _ _) rfl rfl ⟨rfl, rfl, Nat.le_of_ble_eq_true rfl, Nat.le_of_ble_eq_true rfl⟩ (m_X1_isPaper X.d hz5) rfl rfl (Nat.le_of_ble_eq_true rfl) dX1_betterPaper_24 ?_
    refine G_ifne X (tgt := 32) dX1_betterPaper_27 (by decide) (fun c6 => ?_) (fun c6 => ?_)
    · have h := if_t c6 h
      refine G_iload_n X dX1_betterPaper_30 rfl 2 rfl ?_
      have e := so h
      subst e
      exact hQ _ _ dX1_betterPaper_31
    · have h := if_f c6 h
      refine G_aload_n X dX1_betterPaper_32 rfl 0 rfl ?_
      refine G_iload_n X dX1_betterPaper_33 rfl 2 rfl ?_
      obtain ⟨r7, hz8, h⟩ := cl_k h
      refine G_callV_d X (As := [.int x2]) (rest := []) ok_X1_valueOf qw426 2 (eC2 _ _ _) rfl rfl ⟨rfl, rfl, Nat.le_of_ble_eq_true rfl, Nat.le_of_ble_eq_true rfl⟩ (m_X1_valueOf X.d hz8) rfl rfl (Nat.le_of_ble_eq_true rfl) dX1_betterPaper_34 ?_
      refine G_aload_n X dX1_betterPaper_37 rfl 0 rfl ?_
      refine G_iload_n X dX1_betterPaper_38 rfl 1 rfl ?_
      obtain ⟨r9, hz10, h⟩ := cl_k h
      refine G_callV_d X (As := [.int x1]) (rest := [.double r7]) ok_X1_valueOf qw426 2 (eC2 _ _ _) rfl rfl ⟨rfl, rfl, Nat.le_of_ble_eq_true rfl, Nat.le_of_ble_eq_true rfl⟩ (m_X1_valueOf X.d hz10) rfl rfl (Nat.le_of_ble_eq_true rfl) dX1_betterPaper_39 ?_
      refine G_dcmp X dX1_betterPaper_42 ?_
      refine G_ifle X (tgt := 50) dX1_betterPaper_43 (by decide) (fun c11 => ?_) (fun c11 => ?_)
      · have h := if_t c11 h
        refine G_iload_n X dX1_betterPaper_50 rfl 1 rfl ?_
        have e := so h
        subst e
        exact hQ _ _ dX1_betterPaper_51
      · have h := if_f c11 h
        refine G_iload_n X dX1_betterPaper_46 rfl 2 rfl ?_
        refine G_goto X (tgt := 51) dX1_betterPaper_47 (by decide) ?_
        have e := so h
        subst e
        exact hQ _ _ dX1_betterPaper_51
theorem m_X1_betterPaper {l : Launch} {F : pfF} (hD : ∀ A, va_D (fA F) (cellsC (fAd F) (fCy F) A)) {x1 : Int32} {x2 : Int32} {A : St} {out : Int32} (h : f_X1_betterPaper x1 x2 A = some out) : Mt l F cellsC yX1_betterPaper cX1_betterPaper 3 (some .int) rm_X1_betterPaper [.ref (fAd F 2), .int x1, .int x2] A (va_Qi (fun (r : Int32) (u : St) => r = out ∧ u = A) (Wd cellsC F) (fA F)) := by
  refine Met_i (by decide +kernel) (Nat.le_of_ble_eq_true rfl) hD (fun E el ef X hQ => ?_)
  subst el
  subst ef
  exact b_X1_betterPaper X _ _ _ hQ h
theorem ok_X1_betterPaper : OkV yX1_betterPaper cX1_betterPaper 3 (some .int) 2 := ⟨qw495, qw496, qw2, qw497, by decide, by decide, by decide⟩
noncomputable def f_X5_loose_L27 (l1 : Int32) (l2 : Int32) (l3 : Int32) (A : St) : Option ((Int32 × Int32 × St) ⊕ (Int32 × St)) :=
  if l1 ≤ l3 then
    some (.inr (l2, A))
  else
    cl (f_X1_readRules A) fun A10 =>
    cl2 (f_X0_drawSet A10) fun r11 A13 =>
    cl2 (f_X0_drawSet A13) fun r14 A16 =>
    cl (f_X1_betterPaper r11 r14 A16) fun r17 =>
    if r17 < 0 then
      bv (l3 + 1) fun v20 =>
      some (.inl (l2, v20, A16))
    else
      cl (f_X0_countUse r17 A16) fun A23 =>
      bv (l2 + 1) fun v24 =>
      bv (l3 + 1) fun v25 =>
      some (.inl (v24, v25, A23))
noncomputable def f_X5_loose_X93 (A : St) (m2 : Int32) : Option (Int32 × St) :=
  some (m2, A)
noncomputable def f_X5_loose (x1 : Int32) (A : St) : Option (Int32 × St) :=
  cl (f_X5_within x1 1 20) fun r1 =>
  if (bI r1) = 0 then
    cl2 (f_X5_finding 0 A) fun r28 A30 =>
    some (r28, A30)
  else
    cl (f_X1_readAims A) fun A6 =>
    cl (loop (fun s => f_X5_loose_L27 x1 s.1 s.2.1 s.2.2) (0, 0, A6)) (fun s => f_X5_loose_X93 s.2 s.1)
abbrev rm_X5_loose : Room := { frames := 6, cells := 0, slots := 0, locals := 131 }
set_option maxHeartbeats 4000000 in
set_option maxRecDepth 100000 in
theorem g_X5_loose_L27 {E : pfE} (X : CX cellsC E cX5_loose RX5 rm_X5_loose 7) (l1 : Int32) : ∀ (n : Nat) (l2 : Int32) (l3 : Int32) (A : St) (ρ : Int32 × St), lp (fun s => f_X5_loose_L27 l1 s.1 s.2.1 s.2.2) n (l2, l3, A) = some ρ → (∀ (q2 : Int32) (B : St), ρ = (q2, B) → GG cellsC E B 93 [(2, .int q2)] []) → GG cellsC E A 27 [(0, .ref (fAd (eF E) 0)), (1, .int l1), (2, .int l2), (3, .int l3)] [] := by
  intro n
  induction n with
  | zero =>
    intro l2 l3 A ρ h
    cases h
  | succ n ih =>
    intro l2 l3 A ρ h0 K
    obtain ⟨x, hb, hx⟩ := lp_step h0
    have h : f_X5_loose_L27 l1 l2 l3 A = some x := hb
    unfold f_X5_loose_L27 at h
    clear hb h0
    refine G_iload_n X dX5_loose_27 rfl 3 rfl ?_
    refine G_iload_n X dX5_loose_28 rfl 1 rfl ?_
    refine G_icge X (tgt := 93) dX5_loose_29 (by decide) (fun c7 => ?_) (fun c7 => ?_)
    · have h := if_t c7 h
      exact G_sub [2] rfl (K _ _ (lpr (so h) hx).symm)
    · have h := if_f c7 h
      refine G_aload_n X dX5_loose_32 rfl 0 rfl ?_
      refine G_getf X inX5 0 (eC0 _ _ _) rfl 1 (by decide) qw156 rfl dX5_loose_33 ?_
      obtain ⟨A10, hz9, h⟩ := cl_k h
      refine G_callV_v X (As := []) (rest := []) ok_X1_readRules qw361 2 (eC2 _ _ _) rfl rfl ⟨rfl, rfl, Nat.le_of_ble_eq_true rfl, Nat.le_of_ble_eq_true rfl⟩ (m_X1_readRules X.d hz9) rfl rfl (Nat.le_of_ble_eq_true rfl) dX5_loose_36 ?_
      refine G_aload_n X dX5_loose_39 rfl 0 rfl ?_
      refine G_getf X inX5 0 (eC0 _ _ _) rfl 2 (by decide) qw157 rfl dX5_loose_40 ?_
      obtain ⟨r11, A13, hz12, h⟩ := cl2_k h
      refine G_callV_i X (As := []) (rest := []) ok_X0_drawSet qw489 3 (eC3 _ _ _) rfl rfl ⟨rfl, rfl, Nat.le_of_ble_eq_true rfl, Nat.le_of_ble_eq_true rfl⟩ (m_X0_drawSet X.d hz12) rfl rfl (Nat.le_of_ble_eq_true rfl) dX5_loose_43 ?_
      refine G_istore X (lv2 := [(4, .int r11), (0, .ref (fAd (eF E) 0)), (1, .int l1), (2, .int l2), (3, .int l3)]) dX5_loose_46 (by decide) rfl ?_
      refine G_aload_n X dX5_loose_48 rfl 1 rfl ?_
      refine G_getf X inX5 0 (eC0 _ _ _) rfl 2 (by decide) qw157 rfl dX5_loose_49 ?_
      obtain ⟨r14, A16, hz15, h⟩ := cl2_k h
      refine G_callV_i X (As := []) (rest := []) ok_X0_drawSet qw489 3 (eC3 _ _ _) rfl rfl ⟨rfl, rfl, Nat.le_of_ble_eq_true rfl, Nat.le_of_ble_eq_true rfl⟩ (m_X0_drawSet X.d hz15) rfl rfl (Nat.le_of_ble_eq_true rfl) dX5_loose_52 ?_
      refine G_istore X (lv2 := [(5, .int r14), (4, .int r11), (0, .ref (fAd (eF E) 0)), (1, .int l1), (2, .int l2), (3, .int l3)]) dX5_loose_55 (by decide) rfl ?_
      refine G_aload_n X dX5_loose_57 rfl 2 rfl ?_
      refine G_getf X inX5 0 (eC0 _ _ _) rfl 1 (by decide) qw156 rfl dX5_loose_58 ?_
      refine G_iload X dX5_loose_61 1 rfl ?_
      refine G_iload X dX5_loose_63 0 rfl ?_
      obtain ⟨r17, hz18, h⟩ := cl_k h
      refine G_callV_i X (As := [.int r11, .int r14]) (rest := []) ok_X1_betterPaper qw494 2 (eC2 _ _ _) rfl rfl ⟨rfl, rfl, Nat.le_of_ble_eq_true rfl, Nat.le_of_ble_eq_true rfl⟩ (m_X1_betterPaper X.d hz18) rfl rfl (Nat.le_of_ble_eq_true rfl) dX5_loose_65 ?_
      refine G_istore X (lv2 := [(6, .int r17), (5, .int r14), (4, .int r11), (0, .ref (fAd (eF E) 0)), (1, .int l1), (2, .int l2), (3, .int l3)]) dX5_loose_68 (by decide) rfl ?_
      refine G_iload X dX5_loose_70 0 rfl ?_
      refine G_iflt X (tgt := 87) dX5_loose_72 (by decide) (fun c19 => ?_) (fun c19 => ?_)
      · have h := if_t c19 h
        obtain ⟨v20, ev20⟩ : ∃ y : Int32, y = l3 + 1 := ⟨_, rfl⟩
        have h := bv_k ev20 h
        refine G_iinc X (q := 6) (v := v20) (lv2 := [(3, .int v20), (6, .int r17), (5, .int r14), (4, .int r11), (0, .ref (fAd (eF E) 0)), (1, .int l1), (2, .int l2)]) dX5_loose_87 rfl (by rw [ev20]; rfl) (by decide) rfl ?_
        refine G_goto X (tgt := 27) dX5_loose_90 (by decide) ?_
        exact G_sub [4, 5, 6, 0] rfl (ih _ _ _ _ (lpl (so h) hx) K)
      · have h := if_f c19 h
        refine G_aload_n X dX5_loose_75 rfl 3 rfl ?_
        refine G_getf X inX5 0 (eC0 _ _ _) rfl 2 (by decide) qw157 rfl dX5_loose_76 ?_
        refine G_iload X dX5_loose_79 0 rfl ?_
        obtain ⟨A23, hz22, h⟩ := cl_k h
        refine G_callV_v X (As := [.int r17]) (rest := []) ok_X0_countUse qw475 3 (eC3 _ _ _) rfl rfl ⟨rfl, rfl, Nat.le_of_ble_eq_true rfl, Nat.le_of_ble_eq_true rfl⟩ (m_X0_countUse X.d hz22) rfl rfl (Nat.le_of_ble_eq_true rfl) dX5_loose_81 ?_
        obtain ⟨v24, ev24⟩ : ∃ y : Int32, y = l2 + 1 := ⟨_, rfl⟩
        have h := bv_k ev24 h
        refine G_iinc X (q := 5) (v := v24) (lv2 := [(2, .int v24), (6, .int r17), (5, .int r14), (4, .int r11), (0, .ref (fAd (eF E) 0)), (1, .int l1), (3, .int l3)]) dX5_loose_84 rfl (by rw [ev24]; rfl) (by decide) rfl ?_
        obtain ⟨v25, ev25⟩ : ∃ y : Int32, y = l3 + 1 := ⟨_, rfl⟩
        have h := bv_k ev25 h
        refine G_iinc X (q := 6) (v := v25) (lv2 := [(3, .int v25), (2, .int v24), (6, .int r17), (5, .int r14), (4, .int r11), (0, .ref (fAd (eF E) 0)), (1, .int l1)]) dX5_loose_87 rfl (by rw [ev25]; rfl) (by decide) rfl ?_
        refine G_goto X (tgt := 27) dX5_loose_90 (by decide) ?_
        exact G_sub [5, 6, 1, 0] rfl (ih _ _ _ _ (lpl (so h) hx) K)
set_option maxHeartbeats 4000000 in
set_option maxRecDepth 100000 in
theorem b_X5_loose {E : pfE} (X : CX cellsC E cX5_loose RX5 rm_X5_loose 7) (x1 : Int32) (A : St) {out : Int32 × St} (hQ : Reti cellsC E cX5_loose out.1 out.2) (h : f_X5_loose x1 A = some out) : GG cellsC E A 0 [(0, .ref (fAd (eF E) 0)), (1, .int x1)] [] := by
  unfold f_X5_loose at h
  refine G_iload_n X dX5_loose_0 rfl 1 rfl ?_
  refine G_iconst X (v := 1) dX5_loose_1 rfl ?_
  refine G_bipush X (v := 20) dX5_loose_2 rfl ?_
  obtain ⟨r1, hz2, h⟩ := cl_k h
  refine G_callS_i X (As := [.int x1, .int 1, .int 20]) (rest := []) ok_X5_within qw184 ⟨rfl, rfl, Nat.le_of_ble_eq_true rfl, Nat.le_of_ble_eq_true rfl⟩ (m_X5_within X.d hz2) rfl rfl (Nat.le_of_ble_eq_true rfl) dX5_loose_4 ?_
  refine G_ifne X (tgt := 16) dX5_loose_7 (by decide) (fun c3 => ?_) (fun c3 => ?_)
  · have h := if_t c3 h
    refine G_aload_n X dX5_loose_10 rfl 0 rfl ?_
    refine G_iconst X (v := 0) dX5_loose_11 rfl ?_
    obtain ⟨r28, A30, hz29, h⟩ := cl2_k h
    refine G_callV_i X (As := [.int 0]) (rest := []) ok_X5_finding qw191 0 (eC0 _ _ _) rfl rfl ⟨rfl, rfl, Nat.le_of_ble_eq_true rfl, Nat.le_of_ble_eq_true rfl⟩ (m_X5_finding X.d hz29) rfl rfl (Nat.le_of_ble_eq_true rfl) dX5_loose_12 ?_
    have e := so h
    subst e
    exact hQ _ _ dX5_loose_15
  · have h := if_f c3 h
    refine G_aload_n X dX5_loose_16 rfl 0 rfl ?_
    refine G_getf X inX5 0 (eC0 _ _ _) rfl 1 (by decide) qw156 rfl dX5_loose_17 ?_
    obtain ⟨A6, hz5, h⟩ := cl_k h
    refine G_callV_v X (As := []) (rest := []) ok_X1_readAims qw313 2 (eC2 _ _ _) rfl rfl ⟨rfl, rfl, Nat.le_of_ble_eq_true rfl, Nat.le_of_ble_eq_true rfl⟩ (m_X1_readAims X.d hz5) rfl rfl (Nat.le_of_ble_eq_true rfl) dX5_loose_20 ?_
    refine G_iconst X (v := 0) dX5_loose_23 rfl ?_
    refine G_istore_n X (lv2 := [(2, .int 0), (0, .ref (fAd (eF E) 0)), (1, .int x1)]) dX5_loose_24 rfl (by decide) rfl ?_
    refine G_iconst X (v := 0) dX5_loose_25 rfl ?_
    refine G_istore_n X (lv2 := [(3, .int 0), (2, .int 0), (0, .ref (fAd (eF E) 0)), (1, .int x1)]) dX5_loose_26 rfl (by decide) rfl ?_
    obtain ⟨ρ, hl, h⟩ := cl_k h
    obtain ⟨n, hl⟩ := loop_some hl
    refine G_sub [2, 3, 1, 0] rfl (g_X5_loose_L27 X x1 n _ _ _ ρ hl ?_)
    intro v26 A27 e
    subst e
    have h : f_X5_loose_X93 A27 v26 = some _ := h
    unfold f_X5_loose_X93 at h
    refine G_iload_n X dX5_loose_93 rfl 0 rfl ?_
    have e := so h
    subst e
    exact hQ _ _ dX5_loose_94
theorem m_X5_loose {l : Launch} {F : pfF} (hD : ∀ A, va_D (fA F) (cellsC (fAd F) (fCy F) A)) {x1 : Int32} {A : St} {out : Int32 × St} (h : f_X5_loose x1 A = some out) : Mt l F cellsC yX5_loose cX5_loose 7 (some .int) rm_X5_loose [.ref (fAd F 0), .int x1] A (va_Qi (fun (r : Int32) (u : St) => r = out.1 ∧ u = out.2) (Wd cellsC F) (fA F)) := by
  refine Met_i (by decide +kernel) (Nat.le_of_ble_eq_true rfl) hD (fun E el ef X hQ => ?_)
  subst el
  subst ef
  exact b_X5_loose X _ _ hQ h
theorem ok_X5_loose : OkV yX5_loose cX5_loose 7 (some .int) 1 := ⟨qw486, qw487, qw1, qw488, by decide, by decide, by decide⟩
noncomputable def f_X5_seed (x1 : Int32) (A : St) : Option (Int32 × St) :=
  bv (A.1 3 7) fun v1 =>
  bv (upI A 3 7 x1) fun A2 =>
  some (v1, A2)
abbrev rm_X5_seed : Room := { frames := 0, cells := 0, slots := 0, locals := 0 }
set_option maxHeartbeats 4000000 in
set_option maxRecDepth 100000 in
theorem b_X5_seed {E : pfE} (X : CX cellsC E cX5_seed RX5 rm_X5_seed 3) (x1 : Int32) (A : St) {out : Int32 × St} (hQ : Reti cellsC E cX5_seed out.1 out.2) (h : f_X5_seed x1 A = some out) : GG cellsC E A 0 [(0, .ref (fAd (eF E) 0)), (1, .int x1)] [] := by
  unfold f_X5_seed at h
  refine G_aload_n X dX5_seed_0 rfl 0 rfl ?_
  refine G_getf X inX5 0 (eC0 _ _ _) rfl 2 (by decide) qw157 rfl dX5_seed_1 ?_
  refine G_getf X inX0 3 (eC3 _ _ _) rfl 7 (by decide) qw57 rfl dX5_seed_4 ?_
  refine G_topi (fun v1 ev1 => ?_)
  have h := bv_k ev1 h
  refine G_istore_n X (lv2 := [(2, .int v1), (0, .ref (fAd (eF E) 0)), (1, .int x1)]) dX5_seed_7 rfl (by decide) rfl ?_
  refine G_aload_n X dX5_seed_8 rfl 1 rfl ?_
  refine G_getf X inX5 0 (eC0 _ _ _) rfl 2 (by decide) qw157 rfl dX5_seed_9 ?_
  refine G_iload_n X dX5_seed_12 rfl 2 rfl ?_
  refine G_putf X (ty := .int) tyX0 tyX0_ok nmX0 inX0 3 (eC3 _ _ _) rfl 7 (by decide) qw57 rfl (by decide +kernel) rfl rfl (Nat.le_of_ble_eq_true rfl) (oCI _ _ _ _ 7 x1 _ rfl) dX5_seed_13 ?_
  refine G_topS (fun A2 eA2 => ?_)
  have h := bv_k eA2 h
  refine G_iload_n X dX5_seed_16 rfl 0 rfl ?_
  have e := so h
  subst e
  exact hQ _ _ dX5_seed_17
theorem m_X5_seed {l : Launch} {F : pfF} (hD : ∀ A, va_D (fA F) (cellsC (fAd F) (fCy F) A)) {x1 : Int32} {A : St} {out : Int32 × St} (h : f_X5_seed x1 A = some out) : Mt l F cellsC yX5_seed cX5_seed 3 (some .int) rm_X5_seed [.ref (fAd F 0), .int x1] A (va_Qi (fun (r : Int32) (u : St) => r = out.1 ∧ u = out.2) (Wd cellsC F) (fA F)) := by
  refine Met_i (by decide +kernel) (Nat.le_of_ble_eq_true rfl) hD (fun E el ef X hQ => ?_)
  subst el
  subst ef
  exact b_X5_seed X _ _ hQ h
theorem ok_X5_seed : OkV yX5_seed cX5_seed 3 (some .int) 1 := ⟨qw499, qw500, qw1, qw501, by decide, by decide, by decide⟩
noncomputable def f_X4_isEmptyAt (w : Nat) (x1 : Int32) (A : St) : Option (Bool) :=
  gI x1 6 <|
  if 0 ≤ (A.1 (47 + w) x1.toNatClampNeg) then
    some false
  else
    some true
abbrev rm_X4_isEmptyAt : Room := { frames := 0, cells := 0, slots := 0, locals := 0 }
set_option maxHeartbeats 4000000 in
set_option maxRecDepth 100000 in
theorem b_X4_isEmptyAt {E : pfE} (X : CX cellsC E cX4_isEmptyAt RX4 rm_X4_isEmptyAt 2) (w : Nat) (x1 : Int32) (A : St) (hw : w < 4) {out : Bool} (hQ : Reti cellsC E cX4_isEmptyAt (bI out) A) (h : f_X4_isEmptyAt w x1 A = some out) : GG cellsC E A 0 [(0, .ref (fAd (eF E) (43 + w))), (1, .int x1)] [] := by
  unfold f_X4_isEmptyAt at h
  refine G_aload_n X dX4_isEmptyAt_0 rfl 0 rfl ?_
  refine G_getf X inX4 (43 + w) (eCf43 _ _ _ _ hw) rfl 1 (by decide) qw126 rfl dX4_isEmptyAt_1 ?_
  refine G_iload_n X dX4_isEmptyAt_4 rfl 1 rfl ?_
  have hi1 := gI_n h
  have h := gI_k h
  refine G_iald X (j := x1.toNatClampNeg) (47 + w) (eCf47 _ _ _ _ hw) hi1 rfl dX4_isEmptyAt_5 ?_
  refine G_ifge X (tgt := 13) dX4_isEmptyAt_6 (by decide) (fun c2 => ?_) (fun c2 => ?_)
  · have h := if_t c2 h
    refine G_iconst X (v := 0) dX4_isEmptyAt_13 rfl ?_
    have e := so h
    subst e
    exact hQ _ _ dX4_isEmptyAt_14
  · have h := if_f c2 h
    refine G_iconst X (v := 1) dX4_isEmptyAt_9 rfl ?_
    refine G_goto X (tgt := 14) dX4_isEmptyAt_10 (by decide) ?_
    have e := so h
    subst e
    exact hQ _ _ dX4_isEmptyAt_14
theorem m_X4_isEmptyAt {l : Launch} {F : pfF} (hD : ∀ A, va_D (fA F) (cellsC (fAd F) (fCy F) A)) {w : Nat} {x1 : Int32} {A : St} (hw : w < 4) {out : Bool} (h : f_X4_isEmptyAt w x1 A = some out) : Mt l F cellsC yX4_isEmptyAt cX4_isEmptyAt 2 (some .boolean) rm_X4_isEmptyAt [.ref (fAd F (43 + w)), .int x1] A (va_Qi (fun (r : Int32) (u : St) => r = bI out ∧ u = A) (Wd cellsC F) (fA F)) := by
  refine Met_iz (by decide +kernel) (Nat.le_of_ble_eq_true rfl) hD (nar_bI _) (fun E el ef X hQ => ?_)
  subst el
  subst ef
  exact b_X4_isEmptyAt X _ _ _ hw hQ h
theorem ok_X4_isEmptyAt : OkV yX4_isEmptyAt cX4_isEmptyAt 2 (some .boolean) 1 := ⟨qw511, qw512, qw4, qw513, by decide, by decide, by decide⟩
noncomputable def f_X4_standing_L4 (w : Nat) (A : St) (l1 : Int32) (l2 : Int32) : Option ((Int32 × Int32) ⊕ (Int32)) :=
  if 6 ≤ l2 then
    some (.inr l1)
  else
    cl (f_X4_isEmptyAt w l2 A) fun r2 =>
    if (bI r2) = 0 then
      bv (l1 + 1) fun v6 =>
      bv (l2 + 1) fun v7 =>
      some (.inl (v6, v7))
    else
      bv (l2 + 1) fun v5 =>
      some (.inl (l1, v5))
noncomputable def f_X4_standing_X27 (w : Nat) (A : St) (m1 : Int32) : Option (Int32) :=
  some m1
noncomputable def f_X4_standing (w : Nat) (A : St) : Option (Int32) :=
  cl (loop (fun s => f_X4_standing_L4 w A s.1 s.2) (0, 0)) (fun s => f_X4_standing_X27 w A s)
abbrev rm_X4_standing : Room := { frames := 1, cells := 0, slots := 0, locals := 21 }
set_option maxHeartbeats 4000000 in
set_option maxRecDepth 100000 in
theorem g_X4_standing_L4 {E : pfE} (X : CX cellsC E cX4_standing RX4 rm_X4_standing 3) (w : Nat) (hw : w < 4) (A : St) : ∀ (n : Nat) (l1 : Int32) (l2 : Int32) (ρ : Int32), lp (fun s => f_X4_standing_L4 w A s.1 s.2) n (l1, l2) = some ρ → (∀ (q1 : Int32), ρ = q1 → GG cellsC E A 27 [(1, .int q1)] []) → GG cellsC E A 4 [(0, .ref (fAd (eF E) (43 + w))), (1, .int l1), (2, .int l2)] [] := by
  intro n
  induction n with
  | zero =>
    intro l1 l2 ρ h
    cases h
  | succ n ih =>
    intro l1 l2 ρ h0 K
    obtain ⟨x, hb, hx⟩ := lp_step h0
    have h : f_X4_standing_L4 w A l1 l2 = some x := hb
    unfold f_X4_standing_L4 at h
    clear hb h0
    refine G_iload_n X dX4_standing_4 rfl 2 rfl ?_
    refine G_bipush X (v := 6) dX4_standing_5 rfl ?_
    refine G_icge X (tgt := 27) dX4_standing_7 (by decide) (fun c1 => ?_) (fun c1 => ?_)
    · have h := if_t c1 h
      exact G_sub [1] rfl (K _ (lpr (so h) hx).symm)
    · have h := if_f c1 h
      refine G_aload_n X dX4_standing_10 rfl 0 rfl ?_
      refine G_iload_n X dX4_standing_11 rfl 2 rfl ?_
      obtain ⟨r2, hz3, h⟩ := cl_k h
      refine G_callV_i X (As := [.int l2]) (rest := []) ok_X4_isEmptyAt qw510 (43 + w) (eCf43 _ _ _ _ hw) rfl rfl ⟨rfl, rfl, Nat.le_of_ble_eq_true rfl, Nat.le_of_ble_eq_true rfl⟩ (m_X4_isEmptyAt X.d hw hz3) rfl rfl (Nat.le_of_ble_eq_true rfl) dX4_standing_12 ?_
      refine G_ifne X (tgt := 21) dX4_standing_15 (by decide) (fun c4 => ?_) (fun c4 => ?_)
      · have h := if_t c4 h
        obtain ⟨v6, ev6⟩ : ∃ y : Int32, y = l1 + 1 := ⟨_, rfl⟩
        have h := bv_k ev6 h
        refine G_iinc X (q := 1) (v := v6) (lv2 := [(1, .int v6), (0, .ref (fAd (eF E) (43 + w))), (2, .int l2)]) dX4_standing_18 rfl (by rw [ev6]; rfl) (by decide) rfl ?_
        obtain ⟨v7, ev7⟩ : ∃ y : Int32, y = l2 + 1 := ⟨_, rfl⟩
        have h := bv_k ev7 h
        refine G_iinc X (q := 2) (v := v7) (lv2 := [(2, .int v7), (1, .int v6), (0, .ref (fAd (eF E) (43 + w)))]) dX4_standing_21 rfl (by rw [ev7]; rfl) (by decide) rfl ?_
        refine G_goto X (tgt := 4) dX4_standing_24 (by decide) ?_
        exact G_sub [2, 1, 0] rfl (ih _ _ _ (lpl (so h) hx) K)
      · have h := if_f c4 h
        obtain ⟨v5, ev5⟩ : ∃ y : Int32, y = l2 + 1 := ⟨_, rfl⟩
        have h := bv_k ev5 h
        refine G_iinc X (q := 2) (v := v5) (lv2 := [(2, .int v5), (0, .ref (fAd (eF E) (43 + w))), (1, .int l1)]) dX4_standing_21 rfl (by rw [ev5]; rfl) (by decide) rfl ?_
        refine G_goto X (tgt := 4) dX4_standing_24 (by decide) ?_
        exact G_sub [1, 2, 0] rfl (ih _ _ _ (lpl (so h) hx) K)
set_option maxHeartbeats 4000000 in
set_option maxRecDepth 100000 in
theorem b_X4_standing {E : pfE} (X : CX cellsC E cX4_standing RX4 rm_X4_standing 3) (w : Nat) (A : St) (hw : w < 4) {out : Int32} (hQ : Reti cellsC E cX4_standing out A) (h : f_X4_standing w A = some out) : GG cellsC E A 0 [(0, .ref (fAd (eF E) (43 + w)))] [] := by
  unfold f_X4_standing at h
  refine G_iconst X (v := 0) dX4_standing_0 rfl ?_
  refine G_istore_n X (lv2 := [(1, .int 0), (0, .ref (fAd (eF E) (43 + w)))]) dX4_standing_1 rfl (by decide) rfl ?_
  refine G_iconst X (v := 0) dX4_standing_2 rfl ?_
  refine G_istore_n X (lv2 := [(2, .int 0), (1, .int 0), (0, .ref (fAd (eF E) (43 + w)))]) dX4_standing_3 rfl (by decide) rfl ?_
  obtain ⟨ρ, hl, h⟩ := cl_k h
  obtain ⟨n, hl⟩ := loop_some hl
  refine G_sub [2, 1, 0] rfl (g_X4_standing_L4 X w hw A n _ _ ρ hl ?_)
  intro v8 e
  rw [e] at h
  have h : f_X4_standing_X27 w A v8 = some _ := h
  unfold f_X4_standing_X27 at h
  refine G_iload_n X dX4_standing_27 rfl 0 rfl ?_
  have e := so h
  subst e
  exact hQ _ _ dX4_standing_28
theorem m_X4_standing {l : Launch} {F : pfF} (hD : ∀ A, va_D (fA F) (cellsC (fAd F) (fCy F) A)) {w : Nat} {A : St} (hw : w < 4) {out : Int32} (h : f_X4_standing w A = some out) : Mt l F cellsC yX4_standing cX4_standing 3 (some .int) rm_X4_standing [.ref (fAd F (43 + w))] A (va_Qi (fun (r : Int32) (u : St) => r = out ∧ u = A) (Wd cellsC F) (fA F)) := by
  refine Met_i (by decide +kernel) (Nat.le_of_ble_eq_true rfl) hD (fun E el ef X hQ => ?_)
  subst el
  subst ef
  exact b_X4_standing X _ _ hw hQ h
theorem ok_X4_standing : OkV yX4_standing cX4_standing 3 (some .int) 0 := ⟨qw507, qw508, qw4, qw509, by decide, by decide, by decide⟩
noncomputable def f_X4_becomeFor_L7 (w : Nat) (l2 : Int32) (A : St) : Option ((Int32 × St) ⊕ (St)) :=
  if 6 ≤ l2 then
    some (.inr A)
  else
    gI l2 6 <|
    bv (upI A (47 + w) l2.toNatClampNeg (-1)) fun A4 =>
    bv (l2 + 1) fun v5 =>
    some (.inl (v5, A4))
noncomputable def f_X4_becomeFor_X26 (w : Nat) (A : St) : Option (St) :=
  some A
noncomputable def f_X4_becomeFor (w : Nat) (x1 : Int32) (A : St) : Option (St) :=
  bv (upI A (43 + w) 0 x1) fun A1 =>
  cl (loop (fun s => f_X4_becomeFor_L7 w s.1 s.2) (0, A1)) (fun s => f_X4_becomeFor_X26 w s)
abbrev rm_X4_becomeFor : Room := { frames := 0, cells := 0, slots := 0, locals := 0 }
set_option maxHeartbeats 4000000 in
set_option maxRecDepth 100000 in
theorem g_X4_becomeFor_L7 {E : pfE} (X : CX cellsC E cX4_becomeFor RX4 rm_X4_becomeFor 3) (w : Nat) (hw : w < 4) : ∀ (n : Nat) (l2 : Int32) (A : St) (ρ : St), lp (fun s => f_X4_becomeFor_L7 w s.1 s.2) n (l2, A) = some ρ → (∀ (B : St), ρ = B → GG cellsC E B 26 [] []) → GG cellsC E A 7 [(0, .ref (fAd (eF E) (43 + w))), (2, .int l2)] [] := by
  intro n
  induction n with
  | zero =>
    intro l2 A ρ h
    cases h
  | succ n ih =>
    intro l2 A ρ h0 K
    obtain ⟨x, hb, hx⟩ := lp_step h0
    have h : f_X4_becomeFor_L7 w l2 A = some x := hb
    unfold f_X4_becomeFor_L7 at h
    clear hb h0
    refine G_iload_n X dX4_becomeFor_7 rfl 1 rfl ?_
    refine G_bipush X (v := 6) dX4_becomeFor_8 rfl ?_
    refine G_icge X (tgt := 26) dX4_becomeFor_10 (by decide) (fun c2 => ?_) (fun c2 => ?_)
    · have h := if_t c2 h
      exact G_sub [] rfl (K _ (lpr (so h) hx).symm)
    · have h := if_f c2 h
      refine G_aload_n X dX4_becomeFor_13 rfl 0 rfl ?_
      refine G_getf X inX4 (43 + w) (eCf43 _ _ _ _ hw) rfl 1 (by decide) qw126 rfl dX4_becomeFor_14 ?_
      refine G_iload_n X dX4_becomeFor_17 rfl 1 rfl ?_
      refine G_iconst X (v := (-1)) dX4_becomeFor_18 rfl ?_
      have hi3 := gI_n h
      have h := gI_k h
      refine G_iast X (j := l2.toNatClampNeg) (47 + w) (eCf47 _ _ _ _ hw) (sCI _ _ _ _ l2.toNatClampNeg _ _ (fun _ => fC47 _ _ _ _ hw)) hi3 rfl dX4_becomeFor_19 ?_
      refine G_topS (fun A4 eA4 => ?_)
      have h := bv_k eA4 h
      obtain ⟨v5, ev5⟩ : ∃ y : Int32, y = l2 + 1 := ⟨_, rfl⟩
      have h := bv_k ev5 h
      refine G_iinc X (q := 1) (v := v5) (lv2 := [(2, .int v5), (0, .ref (fAd (eF E) (43 + w)))]) dX4_becomeFor_20 rfl (by rw [ev5]; rfl) (by decide) rfl ?_
      refine G_goto X (tgt := 7) dX4_becomeFor_23 (by decide) ?_
      exact G_sub [1, 0] rfl (ih _ _ _ (lpl (so h) hx) K)
set_option maxHeartbeats 4000000 in
set_option maxRecDepth 100000 in
theorem b_X4_becomeFor {E : pfE} (X : CX cellsC E cX4_becomeFor RX4 rm_X4_becomeFor 3) (w : Nat) (x1 : Int32) (A : St) (hw : w < 4) {out : St} (hQ : Retv cellsC E cX4_becomeFor out) (h : f_X4_becomeFor w x1 A = some out) : GG cellsC E A 0 [(0, .ref (fAd (eF E) (43 + w))), (1, .int x1)] [] := by
  unfold f_X4_becomeFor at h
  refine G_aload_n X dX4_becomeFor_0 rfl 0 rfl ?_
  refine G_iload_n X dX4_becomeFor_1 rfl 1 rfl ?_
  refine G_putf X (ty := .int) tyX4 tyX4_ok nmX4 inX4 (43 + w) (eCf43 _ _ _ _ hw) rfl 0 (by decide) qw124 rfl (by decide +kernel) rfl rfl (Nat.le_of_ble_eq_true rfl) (oCI _ _ _ _ 0 x1 _ (by rw [fC43 _ _ _ _ hw]; simp [upI, va_up, upd])) dX4_becomeFor_2 ?_
  refine G_topS (fun A1 eA1 => ?_)
  have h := bv_k eA1 h
  refine G_iconst X (v := 0) dX4_becomeFor_5 rfl ?_
  refine G_istore_n X (lv2 := [(2, .int 0), (0, .ref (fAd (eF E) (43 + w))), (1, .int x1)]) dX4_becomeFor_6 rfl (by decide) rfl ?_
  obtain ⟨ρ, hl, h⟩ := cl_k h
  obtain ⟨n, hl⟩ := loop_some hl
  refine G_sub [1, 0] rfl (g_X4_becomeFor_L7 X w hw n _ _ ρ hl ?_)
  intro A6 e
  rw [e] at h
  have h : f_X4_becomeFor_X26 w A6 = some _ := h
  unfold f_X4_becomeFor_X26 at h
  have e := so h
  subst e
  exact hQ _ _ dX4_becomeFor_26
theorem m_X4_becomeFor {l : Launch} {F : pfF} (hD : ∀ A, va_D (fA F) (cellsC (fAd F) (fCy F) A)) {w : Nat} {x1 : Int32} {A : St} (hw : w < 4) {out : St} (h : f_X4_becomeFor w x1 A = some out) : Mt l F cellsC yX4_becomeFor cX4_becomeFor 3 none rm_X4_becomeFor [.ref (fAd F (43 + w)), .int x1] A (va_Qv (fun (u : St) => u = out) (Wd cellsC F) (fA F)) := by
  refine Met_v (by decide +kernel) (Nat.le_of_ble_eq_true rfl) hD (fun E el ef X hQ => ?_)
  subst el
  subst ef
  exact b_X4_becomeFor X _ _ _ hw hQ h
theorem ok_X4_becomeFor : OkV yX4_becomeFor cX4_becomeFor 3 none 1 := ⟨qw515, qw516, qw4, qw517, by decide, by decide, by decide⟩
noncomputable def f_X5_shelf (x1 : Int32) (x2 : Int32) (A : St) : Option (Int32 × St) :=
  cl (f_X5_within x1 0 3) fun r1 =>
  if (bI r1) = 0 then
    cl2 (f_X5_finding 0 A) fun r4 A6 =>
    some (r4, A6)
  else
    cl (f_X5_factFits 0 x2) fun r7 =>
    if (bI r7) = 0 then
      cl2 (f_X5_finding 0 A) fun r19 A21 =>
      some (r19, A21)
    else
      gI x1 4 <|
      cl (f_X4_standing x1.toNatClampNeg A) fun r12 =>
      gI x1 4 <|
      cl (f_X4_becomeFor x1.toNatClampNeg x2 A) fun A18 =>
      some (r12, A18)
abbrev rm_X5_shelf : Room := { frames := 2, cells := 0, slots := 0, locals := 43 }
set_option maxHeartbeats 4000000 in
set_option maxRecDepth 100000 in
theorem b_X5_shelf {E : pfE} (X : CX cellsC E cX5_shelf RX5 rm_X5_shelf 4) (x1 : Int32) (x2 : Int32) (A : St) {out : Int32 × St} (hQ : Reti cellsC E cX5_shelf out.1 out.2) (h : f_X5_shelf x1 x2 A = some out) : GG cellsC E A 0 [(0, .ref (fAd (eF E) 0)), (1, .int x1), (2, .int x2)] [] := by
  unfold f_X5_shelf at h
  refine G_iload_n X dX5_shelf_0 rfl 1 rfl ?_
  refine G_iconst X (v := 0) dX5_shelf_1 rfl ?_
  refine G_iconst X (v := 3) dX5_shelf_2 rfl ?_
  obtain ⟨r1, hz2, h⟩ := cl_k h
  refine G_callS_i X (As := [.int x1, .int 0, .int 3]) (rest := []) ok_X5_within qw184 ⟨rfl, rfl, Nat.le_of_ble_eq_true rfl, Nat.le_of_ble_eq_true rfl⟩ (m_X5_within X.d hz2) rfl rfl (Nat.le_of_ble_eq_true rfl) dX5_shelf_3 ?_
  refine G_ifeq X (tgt := 17) dX5_shelf_6 (by decide) (fun c3 => ?_) (fun c3 => ?_)
  · have h := if_t c3 h
    refine G_aload_n X dX5_shelf_17 rfl 0 rfl ?_
    refine G_iconst X (v := 0) dX5_shelf_18 rfl ?_
    obtain ⟨r4, A6, hz5, h⟩ := cl2_k h
    refine G_callV_i X (As := [.int 0]) (rest := []) ok_X5_finding qw191 0 (eC0 _ _ _) rfl rfl ⟨rfl, rfl, Nat.le_of_ble_eq_true rfl, Nat.le_of_ble_eq_true rfl⟩ (m_X5_finding X.d hz5) rfl rfl (Nat.le_of_ble_eq_true rfl) dX5_shelf_19 ?_
    have e := so h
    subst e
    exact hQ _ _ dX5_shelf_22
  · have h := if_f c3 h
    refine G_iconst X (v := 0) dX5_shelf_9 rfl ?_
    refine G_iload_n X dX5_shelf_10 rfl 2 rfl ?_
    obtain ⟨r7, hz8, h⟩ := cl_k h
    refine G_callS_i X (As := [.int 0, .int x2]) (rest := []) ok_X5_factFits qw181 ⟨rfl, rfl, Nat.le_of_ble_eq_true rfl, Nat.le_of_ble_eq_true rfl⟩ (m_X5_factFits X.d hz8) rfl rfl (Nat.le_of_ble_eq_true rfl) dX5_shelf_11 ?_
    refine G_ifne X (tgt := 23) dX5_shelf_14 (by decide) (fun c9 => ?_) (fun c9 => ?_)
    · have h := if_t c9 h
      refine G_aload_n X dX5_shelf_17 rfl 0 rfl ?_
      refine G_iconst X (v := 0) dX5_shelf_18 rfl ?_
      obtain ⟨r19, A21, hz20, h⟩ := cl2_k h
      refine G_callV_i X (As := [.int 0]) (rest := []) ok_X5_finding qw191 0 (eC0 _ _ _) rfl rfl ⟨rfl, rfl, Nat.le_of_ble_eq_true rfl, Nat.le_of_ble_eq_true rfl⟩ (m_X5_finding X.d hz20) rfl rfl (Nat.le_of_ble_eq_true rfl) dX5_shelf_19 ?_
      have e := so h
      subst e
      exact hQ _ _ dX5_shelf_22
    · have h := if_f c9 h
      refine G_aload_n X dX5_shelf_23 rfl 0 rfl ?_
      refine G_getf X inX5 0 (eC0 _ _ _) rfl 5 (by decide) qw160 rfl dX5_shelf_24 ?_
      refine G_iload_n X dX5_shelf_27 rfl 1 rfl ?_
      have hi10 := gI_n h
      have h := gI_k h
      have hw11 := vlt hi10
      refine G_aald X (t0 := 6) (b := fAd (eF E) (43 + x1.toNatClampNeg)) 42 (eC42 _ _ _) rfl rfl hi10 (if_pos hw11) dX5_shelf_28 ?_
      obtain ⟨r12, hz13, h⟩ := cl_k h
      refine G_callV_i X (As := []) (rest := []) ok_X4_standing qw506 (43 + x1.toNatClampNeg) (eCf43 _ _ _ _ hw11) rfl rfl ⟨rfl, rfl, Nat.le_of_ble_eq_true rfl, Nat.le_of_ble_eq_true rfl⟩ (m_X4_standing X.d hw11 hz13) rfl rfl (Nat.le_of_ble_eq_true rfl) dX5_shelf_29 ?_
      refine G_istore_n X (lv2 := [(3, .int r12), (0, .ref (fAd (eF E) 0)), (1, .int x1), (2, .int x2)]) dX5_shelf_32 rfl (by decide) rfl ?_
      refine G_aload_n X dX5_shelf_33 rfl 1 rfl ?_
      refine G_getf X inX5 0 (eC0 _ _ _) rfl 5 (by decide) qw160 rfl dX5_shelf_34 ?_
      refine G_iload_n X dX5_shelf_37 rfl 2 rfl ?_
      have hi14 := gI_n h
      have h := gI_k h
      have hw15 := vlt hi14
      refine G_aald X (t0 := 6) (b := fAd (eF E) (43 + x1.toNatClampNeg)) 42 (eC42 _ _ _) rfl rfl hi14 (if_pos hw15) dX5_shelf_38 ?_
      refine G_iload_n X dX5_shelf_39 rfl 3 rfl ?_
      obtain ⟨A18, hz17, h⟩ := cl_k h
      refine G_callV_v X (As := [.int x2]) (rest := []) ok_X4_becomeFor qw514 (43 + x1.toNatClampNeg) (eCf43 _ _ _ _ hw15) rfl rfl ⟨rfl, rfl, Nat.le_of_ble_eq_true rfl, Nat.le_of_ble_eq_true rfl⟩ (m_X4_becomeFor X.d hw15 hz17) rfl rfl (Nat.le_of_ble_eq_true rfl) dX5_shelf_40 ?_
      refine G_iload_n X dX5_shelf_43 rfl 0 rfl ?_
      have e := so h
      subst e
      exact hQ _ _ dX5_shelf_44
theorem m_X5_shelf {l : Launch} {F : pfF} (hD : ∀ A, va_D (fA F) (cellsC (fAd F) (fCy F) A)) {x1 : Int32} {x2 : Int32} {A : St} {out : Int32 × St} (h : f_X5_shelf x1 x2 A = some out) : Mt l F cellsC yX5_shelf cX5_shelf 4 (some .int) rm_X5_shelf [.ref (fAd F 0), .int x1, .int x2] A (va_Qi (fun (r : Int32) (u : St) => r = out.1 ∧ u = out.2) (Wd cellsC F) (fA F)) := by
  refine Met_i (by decide +kernel) (Nat.le_of_ble_eq_true rfl) hD (fun E el ef X hQ => ?_)
  subst el
  subst ef
  exact b_X5_shelf X _ _ _ hQ h
theorem ok_X5_shelf : OkV yX5_shelf cX5_shelf 4 (some .int) 2 := ⟨qw503, qw504, qw1, qw505, by decide, by decide, by decide⟩
noncomputable def f_X5_lay (x1 : Int32) (x2 : Int32) (x3 : Int32) (A : St) : Option (Int32 × St) :=
  cl (f_X5_within x1 0 3) fun r1 =>
  if (bI r1) = 0 then
    cl2 (f_X5_finding 0 A) fun r4 A6 =>
    some (r4, A6)
  else
    cl (f_X5_within x2 0 5) fun r7 =>
    if (bI r7) = 0 then
      cl2 (f_X5_finding 0 A) fun r10 A12 =>
      some (r10, A12)
    else
      cl (f_X0_has x3 A) fun r13 =>
      if (bI r13) = 0 then
        cl2 (f_X5_finding 0 A) fun r38 A40 =>
        some (r38, A40)
      else
        gI x3 12 <|
        bv (A.1 5 x3.toNatClampNeg) fun v17 =>
        gI x1 4 <|
        cl (f_X5_isOfKind v17 (A.1 (43 + x1.toNatClampNeg) 0)) fun r20 =>
        if (bI r20) = 0 then
          cl2 (f_X5_finding 2 A) fun r35 A37 =>
          some (r35, A37)
        else
          gI x1 4 <|
          gI x2 6 <|
          bv (A.1 (47 + x1.toNatClampNeg) x2.toNatClampNeg) fun v26 =>
          gI x1 4 <|
          gI x2 6 <|
          bv (upI A (47 + x1.toNatClampNeg) x2.toNatClampNeg x3) fun A30 =>
          gI x1 4 <|
          gI x2 6 <|
          bv (upI A30 (51 + x1.toNatClampNeg) x2.toNatClampNeg v17) fun A34 =>
          some (v26, A34)
abbrev rm_X5_lay : Room := { frames := 1, cells := 0, slots := 0, locals := 23 }
set_option maxHeartbeats 4000000 in
set_option maxRecDepth 100000 in
theorem b_X5_lay {E : pfE} (X : CX cellsC E cX5_lay RX5 rm_X5_lay 6) (x1 : Int32) (x2 : Int32) (x3 : Int32) (A : St) {out : Int32 × St} (hQ : Reti cellsC E cX5_lay out.1 out.2) (h : f_X5_lay x1 x2 x3 A = some out) : GG cellsC E A 0 [(0, .ref (fAd (eF E) 0)), (1, .int x1), (2, .int x2), (3, .int x3)] [] := by
  unfold f_X5_lay at h
  refine G_iload_n X dX5_lay_0 rfl 1 rfl ?_
  refine G_iconst X (v := 0) dX5_lay_1 rfl ?_
  refine G_iconst X (v := 3) dX5_lay_2 rfl ?_
  obtain ⟨r1, hz2, h⟩ := cl_k h
  refine G_callS_i X (As := [.int x1, .int 0, .int 3]) (rest := []) ok_X5_within qw184 ⟨rfl, rfl, Nat.le_of_ble_eq_true rfl, Nat.le_of_ble_eq_true rfl⟩ (m_X5_within X.d hz2) rfl rfl (Nat.le_of_ble_eq_true rfl) dX5_lay_3 ?_
  refine G_ifeq X (tgt := 29) dX5_lay_6 (by decide) (fun c3 => ?_) (fun c3 => ?_)
  · have h := if_t c3 h
    refine G_aload_n X dX5_lay_29 rfl 0 rfl ?_
    refine G_iconst X (v := 0) dX5_lay_30 rfl ?_
    obtain ⟨r4, A6, hz5, h⟩ := cl2_k h
    refine G_callV_i X (As := [.int 0]) (rest := []) ok_X5_finding qw191 0 (eC0 _ _ _) rfl rfl ⟨rfl, rfl, Nat.le_of_ble_eq_true rfl, Nat.le_of_ble_eq_true rfl⟩ (m_X5_finding X.d hz5) rfl rfl (Nat.le_of_ble_eq_true rfl) dX5_lay_31 ?_
    have e := so h
    subst e
    exact hQ _ _ dX5_lay_34
  · have h := if_f c3 h
    refine G_iload_n X dX5_lay_9 rfl 2 rfl ?_
    refine G_iconst X (v := 0) dX5_lay_10 rfl ?_
    refine G_iconst X (v := 5) dX5_lay_11 rfl ?_
    obtain ⟨r7, hz8, h⟩ := cl_k h
    refine G_callS_i X (As := [.int x2, .int 0, .int 5]) (rest := []) ok_X5_within qw184 ⟨rfl, rfl, Nat.le_of_ble_eq_true rfl, Nat.le_of_ble_eq_true rfl⟩ (m_X5_within X.d hz8) rfl rfl (Nat.le_of_ble_eq_true rfl) dX5_lay_12 ?_
    refine G_ifeq X (tgt := 29) dX5_lay_15 (by decide) (fun c9 => ?_) (fun c9 => ?_)
    · have h := if_t c9 h
      refine G_aload_n X dX5_lay_29 rfl 0 rfl ?_
      refine G_iconst X (v := 0) dX5_lay_30 rfl ?_
      obtain ⟨r10, A12, hz11, h⟩ := cl2_k h
      refine G_callV_i X (As := [.int 0]) (rest := []) ok_X5_finding qw191 0 (eC0 _ _ _) rfl rfl ⟨rfl, rfl, Nat.le_of_ble_eq_true rfl, Nat.le_of_ble_eq_true rfl⟩ (m_X5_finding X.d hz11) rfl rfl (Nat.le_of_ble_eq_true rfl) dX5_lay_31 ?_
      have e := so h
      subst e
      exact hQ _ _ dX5_lay_34
    · have h := if_f c9 h
      refine G_aload_n X dX5_lay_18 rfl 0 rfl ?_
      refine G_getf X inX5 0 (eC0 _ _ _) rfl 2 (by decide) qw157 rfl dX5_lay_19 ?_
      refine G_iload_n X dX5_lay_22 rfl 3 rfl ?_
      obtain ⟨r13, hz14, h⟩ := cl_k h
      refine G_callV_i X (As := [.int x3]) (rest := []) ok_X0_has qw200 3 (eC3 _ _ _) rfl rfl ⟨rfl, rfl, Nat.le_of_ble_eq_true rfl, Nat.le_of_ble_eq_true rfl⟩ (m_X0_has X.d hz14) rfl rfl (Nat.le_of_ble_eq_true rfl) dX5_lay_23 ?_
      refine G_ifne X (tgt := 35) dX5_lay_26 (by decide) (fun c15 => ?_) (fun c15 => ?_)
      · have h := if_t c15 h
        refine G_aload_n X dX5_lay_29 rfl 0 rfl ?_
        refine G_iconst X (v := 0) dX5_lay_30 rfl ?_
        obtain ⟨r38, A40, hz39, h⟩ := cl2_k h
        refine G_callV_i X (As := [.int 0]) (rest := []) ok_X5_finding qw191 0 (eC0 _ _ _) rfl rfl ⟨rfl, rfl, Nat.le_of_ble_eq_true rfl, Nat.le_of_ble_eq_true rfl⟩ (m_X5_finding X.d hz39) rfl rfl (Nat.le_of_ble_eq_true rfl) dX5_lay_31 ?_
        have e := so h
        subst e
        exact hQ _ _ dX5_lay_34
      · have h := if_f c15 h
        refine G_aload_n X dX5_lay_35 rfl 0 rfl ?_
        refine G_getf X inX5 0 (eC0 _ _ _) rfl 2 (by decide) qw157 rfl dX5_lay_36 ?_
        refine G_getf X inX0 3 (eC3 _ _ _) rfl 1 (by decide) qw39 rfl dX5_lay_39 ?_
        refine G_iconst X (v := 0) dX5_lay_42 rfl ?_
        refine G_aald X (t0 := 3) (b := fAd (eF E) 5) 4 (eC4 _ _ _) rfl rfl (vi rfl) rfl dX5_lay_43 ?_
        refine G_iload_n X dX5_lay_44 rfl 3 rfl ?_
        have hi16 := gI_n h
        have h := gI_k h
        refine G_iald X (j := x3.toNatClampNeg) 5 (eC5 _ _ _) hi16 rfl dX5_lay_45 ?_
        refine G_topi (fun v17 ev17 => ?_)
        have h := bv_k ev17 h
        refine G_istore X (lv2 := [(4, .int v17), (0, .ref (fAd (eF E) 0)), (1, .int x1), (2, .int x2), (3, .int x3)]) dX5_lay_46 (by decide) rfl ?_
        refine G_iload X dX5_lay_48 0 rfl ?_
        refine G_aload_n X dX5_lay_50 rfl 1 rfl ?_
        refine G_getf X inX5 0 (eC0 _ _ _) rfl 5 (by decide) qw160 rfl dX5_lay_51 ?_
        refine G_iload_n X dX5_lay_54 rfl 2 rfl ?_
        have hi18 := gI_n h
        have h := gI_k h
        have hw19 := vlt hi18
        refine G_aald X (t0 := 6) (b := fAd (eF E) (43 + x1.toNatClampNeg)) 42 (eC42 _ _ _) rfl rfl hi18 (if_pos hw19) dX5_lay_55 ?_
        refine G_getf X inX4 (43 + x1.toNatClampNeg) (eCf43 _ _ _ _ hw19) rfl 0 (by decide) qw125 rfl dX5_lay_56 ?_
        obtain ⟨r20, hz21, h⟩ := cl_k h
        refine G_callS_i X (As := [.int v17, .int (A.1 (43 + x1.toNatClampNeg) 0)]) (rest := []) ok_X5_isOfKind qw220 ⟨rfl, rfl, Nat.le_of_ble_eq_true rfl, Nat.le_of_ble_eq_true rfl⟩ (m_X5_isOfKind X.d hz21) rfl rfl (Nat.le_of_ble_eq_true rfl) dX5_lay_59 ?_
        refine G_ifne X (tgt := 71) dX5_lay_62 (by decide) (fun c22 => ?_) (fun c22 => ?_)
        · have h := if_t c22 h
          refine G_aload_n X dX5_lay_65 rfl 1 rfl ?_
          refine G_iconst X (v := 2) dX5_lay_66 rfl ?_
          obtain ⟨r35, A37, hz36, h⟩ := cl2_k h
          refine G_callV_i X (As := [.int 2]) (rest := []) ok_X5_finding qw191 0 (eC0 _ _ _) rfl rfl ⟨rfl, rfl, Nat.le_of_ble_eq_true rfl, Nat.le_of_ble_eq_true rfl⟩ (m_X5_finding X.d hz36) rfl rfl (Nat.le_of_ble_eq_true rfl) dX5_lay_67 ?_
          have e := so h
          subst e
          exact hQ _ _ dX5_lay_70
        · have h := if_f c22 h
          refine G_aload_n X dX5_lay_71 rfl 1 rfl ?_
          refine G_getf X inX5 0 (eC0 _ _ _) rfl 5 (by decide) qw160 rfl dX5_lay_72 ?_
          refine G_iload_n X dX5_lay_75 rfl 2 rfl ?_
          have hi23 := gI_n h
          have h := gI_k h
          have hw24 := vlt hi23
          refine G_aald X (t0 := 6) (b := fAd (eF E) (43 + x1.toNatClampNeg)) 42 (eC42 _ _ _) rfl rfl hi23 (if_pos hw24) dX5_lay_76 ?_
          refine G_getf X inX4 (43 + x1.toNatClampNeg) (eCf43 _ _ _ _ hw24) rfl 1 (by decide) qw127 rfl dX5_lay_77 ?_
          refine G_iload_n X dX5_lay_80 rfl 3 rfl ?_
          have hi25 := gI_n h
          have h := gI_k h
          refine G_iald X (j := x2.toNatClampNeg) (47 + x1.toNatClampNeg) (eCf47 _ _ _ _ hw24) hi25 rfl dX5_lay_81 ?_
          refine G_topi (fun v26 ev26 => ?_)
          have h := bv_k ev26 h
          refine G_istore X (lv2 := [(5, .int v26), (4, .int v17), (0, .ref (fAd (eF E) 0)), (1, .int x1), (2, .int x2), (3, .int x3)]) dX5_lay_82 (by decide) rfl ?_
          refine G_aload_n X dX5_lay_84 rfl 2 rfl ?_
          refine G_getf X inX5 0 (eC0 _ _ _) rfl 5 (by decide) qw160 rfl dX5_lay_85 ?_
          refine G_iload_n X dX5_lay_88 rfl 3 rfl ?_
          have hi27 := gI_n h
          have h := gI_k h
          have hw28 := vlt hi27
          refine G_aald X (t0 := 6) (b := fAd (eF E) (43 + x1.toNatClampNeg)) 42 (eC42 _ _ _) rfl rfl hi27 (if_pos hw28) dX5_lay_89 ?_
          refine G_getf X inX4 (43 + x1.toNatClampNeg) (eCf43 _ _ _ _ hw28) rfl 1 (by decide) qw127 rfl dX5_lay_90 ?_
          refine G_iload_n X dX5_lay_93 rfl 4 rfl ?_
          refine G_iload_n X dX5_lay_94 rfl 5 rfl ?_
          have hi29 := gI_n h
          have h := gI_k h
          refine G_iast X (j := x2.toNatClampNeg) (47 + x1.toNatClampNeg) (eCf47 _ _ _ _ hw28) (sCI _ _ _ _ x2.toNatClampNeg _ _ (fun _ => fC47 _ _ _ _ hw28)) hi29 rfl dX5_lay_95 ?_
          refine G_topS (fun A30 eA30 => ?_)
          have h := bv_k eA30 h
          refine G_aload_n X dX5_lay_96 rfl 2 rfl ?_
          refine G_getf X inX5 0 (eC0 _ _ _) rfl 5 (by decide) qw160 rfl dX5_lay_97 ?_
          refine G_iload_n X dX5_lay_100 rfl 3 rfl ?_
          have hi31 := gI_n h
          have h := gI_k h
          have hw32 := vlt hi31
          refine G_aald X (t0 := 6) (b := fAd (eF E) (43 + x1.toNatClampNeg)) 42 (eC42 _ _ _) rfl rfl hi31 (if_pos hw32) dX5_lay_101 ?_
          refine G_getf X inX4 (43 + x1.toNatClampNeg) (eCf43 _ _ _ _ hw32) rfl 2 (by decide) qw129 rfl dX5_lay_102 ?_
          refine G_iload_n X dX5_lay_105 rfl 4 rfl ?_
          refine G_iload X dX5_lay_106 1 rfl ?_
          have hi33 := gI_n h
          have h := gI_k h
          refine G_iast X (j := x2.toNatClampNeg) (51 + x1.toNatClampNeg) (eCf51 _ _ _ _ hw32) (sCI _ _ _ _ x2.toNatClampNeg _ _ (fun _ => fC51 _ _ _ _ hw32)) hi33 rfl dX5_lay_108 ?_
          refine G_topS (fun A34 eA34 => ?_)
          have h := bv_k eA34 h
          refine G_iload X dX5_lay_109 0 rfl ?_
          have e := so h
          subst e
          exact hQ _ _ dX5_lay_111
theorem m_X5_lay {l : Launch} {F : pfF} (hD : ∀ A, va_D (fA F) (cellsC (fAd F) (fCy F) A)) {x1 : Int32} {x2 : Int32} {x3 : Int32} {A : St} {out : Int32 × St} (h : f_X5_lay x1 x2 x3 A = some out) : Mt l F cellsC yX5_lay cX5_lay 6 (some .int) rm_X5_lay [.ref (fAd F 0), .int x1, .int x2, .int x3] A (va_Qi (fun (r : Int32) (u : St) => r = out.1 ∧ u = out.2) (Wd cellsC F) (fA F)) := by
  refine Met_i (by decide +kernel) (Nat.le_of_ble_eq_true rfl) hD (fun E el ef X hQ => ?_)
  subst el
  subst ef
  exact b_X5_lay X _ _ _ _ hQ h
theorem ok_X5_lay : OkV yX5_lay cX5_lay 6 (some .int) 3 := ⟨qw519, qw520, qw1, qw521, by decide, by decide, by decide⟩
noncomputable def f_X5_stands (x1 : Int32) (x2 : Int32) (x3 : Int32) (A : St) : Option (Int32 × St) :=
  cl (f_X5_within x1 0 3) fun r1 =>
  if (bI r1) = 0 then
    cl2 (f_X5_finding 0 A) fun r4 A6 =>
    some (r4, A6)
  else
    cl (f_X5_within x2 0 5) fun r7 =>
    if (bI r7) = 0 then
      cl2 (f_X5_finding 0 A) fun r10 A12 =>
      some (r10, A12)
    else
      cl (f_X5_within x3 0 1) fun r13 =>
      if (bI r13) = 0 then
        cl2 (f_X5_finding 0 A) fun r31 A33 =>
        some (r31, A33)
      else
        gI x1 4 <|
        cl (f_X4_isEmptyAt x1.toNatClampNeg x2 A) fun r18 =>
        if (bI r18) = 0 then
          if x3 = 0 then
            gI x1 4 <|
            gI x2 6 <|
            some (A.1 (47 + x1.toNatClampNeg) x2.toNatClampNeg, A)
          else
            gI x1 4 <|
            gI x2 6 <|
            some (A.1 (51 + x1.toNatClampNeg) x2.toNatClampNeg, A)
        else
          cl2 (f_X5_finding 5 A) fun r28 A30 =>
          some (r28, A30)
abbrev rm_X5_stands : Room := { frames := 1, cells := 0, slots := 0, locals := 22 }
set_option maxHeartbeats 4000000 in
set_option maxRecDepth 100000 in
theorem b_X5_stands {E : pfE} (X : CX cellsC E cX5_stands RX5 rm_X5_stands 4) (x1 : Int32) (x2 : Int32) (x3 : Int32) (A : St) {out : Int32 × St} (hQ : Reti cellsC E cX5_stands out.1 out.2) (h : f_X5_stands x1 x2 x3 A = some out) : GG cellsC E A 0 [(0, .ref (fAd (eF E) 0)), (1, .int x1), (2, .int x2), (3, .int x3)] [] := by
  unfold f_X5_stands at h
  refine G_iload_n X dX5_stands_0 rfl 1 rfl ?_
  refine G_iconst X (v := 0) dX5_stands_1 rfl ?_
  refine G_iconst X (v := 3) dX5_stands_2 rfl ?_
  obtain ⟨r1, hz2, h⟩ := cl_k h
  refine G_callS_i X (As := [.int x1, .int 0, .int 3]) (rest := []) ok_X5_within qw184 ⟨rfl, rfl, Nat.le_of_ble_eq_true rfl, Nat.le_of_ble_eq_true rfl⟩ (m_X5_within X.d hz2) rfl rfl (Nat.le_of_ble_eq_true rfl) dX5_stands_3 ?_
  refine G_ifeq X (tgt := 27) dX5_stands_6 (by decide) (fun c3 => ?_) (fun c3 => ?_)
  · have h := if_t c3 h
    refine G_aload_n X dX5_stands_27 rfl 0 rfl ?_
    refine G_iconst X (v := 0) dX5_stands_28 rfl ?_
    obtain ⟨r4, A6, hz5, h⟩ := cl2_k h
    refine G_callV_i X (As := [.int 0]) (rest := []) ok_X5_finding qw191 0 (eC0 _ _ _) rfl rfl ⟨rfl, rfl, Nat.le_of_ble_eq_true rfl, Nat.le_of_ble_eq_true rfl⟩ (m_X5_finding X.d hz5) rfl rfl (Nat.le_of_ble_eq_true rfl) dX5_stands_29 ?_
    have e := so h
    subst e
    exact hQ _ _ dX5_stands_32
  · have h := if_f c3 h
    refine G_iload_n X dX5_stands_9 rfl 2 rfl ?_
    refine G_iconst X (v := 0) dX5_stands_10 rfl ?_
    refine G_iconst X (v := 5) dX5_stands_11 rfl ?_
    obtain ⟨r7, hz8, h⟩ := cl_k h
    refine G_callS_i X (As := [.int x2, .int 0, .int 5]) (rest := []) ok_X5_within qw184 ⟨rfl, rfl, Nat.le_of_ble_eq_true rfl, Nat.le_of_ble_eq_true rfl⟩ (m_X5_within X.d hz8) rfl rfl (Nat.le_of_ble_eq_true rfl) dX5_stands_12 ?_
    refine G_ifeq X (tgt := 27) dX5_stands_15 (by decide) (fun c9 => ?_) (fun c9 => ?_)
    · have h := if_t c9 h
      refine G_aload_n X dX5_stands_27 rfl 0 rfl ?_
      refine G_iconst X (v := 0) dX5_stands_28 rfl ?_
      obtain ⟨r10, A12, hz11, h⟩ := cl2_k h
      refine G_callV_i X (As := [.int 0]) (rest := []) ok_X5_finding qw191 0 (eC0 _ _ _) rfl rfl ⟨rfl, rfl, Nat.le_of_ble_eq_true rfl, Nat.le_of_ble_eq_true rfl⟩ (m_X5_finding X.d hz11) rfl rfl (Nat.le_of_ble_eq_true rfl) dX5_stands_29 ?_
      have e := so h
      subst e
      exact hQ _ _ dX5_stands_32
    · have h := if_f c9 h
      refine G_iload_n X dX5_stands_18 rfl 3 rfl ?_
      refine G_iconst X (v := 0) dX5_stands_19 rfl ?_
      refine G_iconst X (v := 1) dX5_stands_20 rfl ?_
      obtain ⟨r13, hz14, h⟩ := cl_k h
      refine G_callS_i X (As := [.int x3, .int 0, .int 1]) (rest := []) ok_X5_within qw184 ⟨rfl, rfl, Nat.le_of_ble_eq_true rfl, Nat.le_of_ble_eq_true rfl⟩ (m_X5_within X.d hz14) rfl rfl (Nat.le_of_ble_eq_true rfl) dX5_stands_21 ?_
      refine G_ifne X (tgt := 33) dX5_stands_24 (by decide) (fun c15 => ?_) (fun c15 => ?_)
      · have h := if_t c15 h
        refine G_aload_n X dX5_stands_27 rfl 0 rfl ?_
        refine G_iconst X (v := 0) dX5_stands_28 rfl ?_
        obtain ⟨r31, A33, hz32, h⟩ := cl2_k h
        refine G_callV_i X (As := [.int 0]) (rest := []) ok_X5_finding qw191 0 (eC0 _ _ _) rfl rfl ⟨rfl, rfl, Nat.le_of_ble_eq_true rfl, Nat.le_of_ble_eq_true rfl⟩ (m_X5_finding X.d hz32) rfl rfl (Nat.le_of_ble_eq_true rfl) dX5_stands_29 ?_
        have e := so h
        subst e
        exact hQ _ _ dX5_stands_32
      · have h := if_f c15 h
        refine G_aload_n X dX5_stands_33 rfl 0 rfl ?_
        refine G_getf X inX5 0 (eC0 _ _ _) rfl 5 (by decide) qw160 rfl dX5_stands_34 ?_
        refine G_iload_n X dX5_stands_37 rfl 1 rfl ?_
        have hi16 := gI_n h
        have h := gI_k h
        have hw17 := vlt hi16
        refine G_aald X (t0 := 6) (b := fAd (eF E) (43 + x1.toNatClampNeg)) 42 (eC42 _ _ _) rfl rfl hi16 (if_pos hw17) dX5_stands_38 ?_
        refine G_iload_n X dX5_stands_39 rfl 2 rfl ?_
        obtain ⟨r18, hz19, h⟩ := cl_k h
        refine G_callV_i X (As := [.int x2]) (rest := []) ok_X4_isEmptyAt qw526 (43 + x1.toNatClampNeg) (eCf43 _ _ _ _ hw17) rfl rfl ⟨rfl, rfl, Nat.le_of_ble_eq_true rfl, Nat.le_of_ble_eq_true rfl⟩ (m_X4_isEmptyAt X.d hw17 hz19) rfl rfl (Nat.le_of_ble_eq_true rfl) dX5_stands_40 ?_
        refine G_ifeq X (tgt := 52) dX5_stands_43 (by decide) (fun c20 => ?_) (fun c20 => ?_)
        · have h := if_t c20 h
          refine G_iload_n X dX5_stands_52 rfl 3 rfl ?_
          refine G_ifne X (tgt := 70) dX5_stands_53 (by decide) (fun c21 => ?_) (fun c21 => ?_)
          · have h := if_t c21 h
            refine G_aload_n X dX5_stands_56 rfl 0 rfl ?_
            refine G_getf X inX5 0 (eC0 _ _ _) rfl 5 (by decide) qw160 rfl dX5_stands_57 ?_
            refine G_iload_n X dX5_stands_60 rfl 1 rfl ?_
            have hi25 := gI_n h
            have h := gI_k h
            have hw26 := vlt hi25
            refine G_aald X (t0 := 6) (b := fAd (eF E) (43 + x1.toNatClampNeg)) 42 (eC42 _ _ _) rfl rfl hi25 (if_pos hw26) dX5_stands_61 ?_
            refine G_getf X inX4 (43 + x1.toNatClampNeg) (eCf43 _ _ _ _ hw26) rfl 1 (by decide) qw127 rfl dX5_stands_62 ?_
            refine G_iload_n X dX5_stands_65 rfl 2 rfl ?_
            have hi27 := gI_n h
            have h := gI_k h
            refine G_iald X (j := x2.toNatClampNeg) (47 + x1.toNatClampNeg) (eCf47 _ _ _ _ hw26) hi27 rfl dX5_stands_66 ?_
            refine G_goto X (tgt := 81) dX5_stands_67 (by decide) ?_
            have e := so h
            subst e
            exact hQ _ _ dX5_stands_81
          · have h := if_f c21 h
            refine G_aload_n X dX5_stands_70 rfl 0 rfl ?_
            refine G_getf X inX5 0 (eC0 _ _ _) rfl 5 (by decide) qw160 rfl dX5_stands_71 ?_
            refine G_iload_n X dX5_stands_74 rfl 1 rfl ?_
            have hi22 := gI_n h
            have h := gI_k h
            have hw23 := vlt hi22
            refine G_aald X (t0 := 6) (b := fAd (eF E) (43 + x1.toNatClampNeg)) 42 (eC42 _ _ _) rfl rfl hi22 (if_pos hw23) dX5_stands_75 ?_
            refine G_getf X inX4 (43 + x1.toNatClampNeg) (eCf43 _ _ _ _ hw23) rfl 2 (by decide) qw129 rfl dX5_stands_76 ?_
            refine G_iload_n X dX5_stands_79 rfl 2 rfl ?_
            have hi24 := gI_n h
            have h := gI_k h
            refine G_iald X (j := x2.toNatClampNeg) (51 + x1.toNatClampNeg) (eCf51 _ _ _ _ hw23) hi24 rfl dX5_stands_80 ?_
            have e := so h
            subst e
            exact hQ _ _ dX5_stands_81
        · have h := if_f c20 h
          refine G_aload_n X dX5_stands_46 rfl 0 rfl ?_
          refine G_iconst X (v := 5) dX5_stands_47 rfl ?_
          obtain ⟨r28, A30, hz29, h⟩ := cl2_k h
          refine G_callV_i X (As := [.int 5]) (rest := []) ok_X5_finding qw191 0 (eC0 _ _ _) rfl rfl ⟨rfl, rfl, Nat.le_of_ble_eq_true rfl, Nat.le_of_ble_eq_true rfl⟩ (m_X5_finding X.d hz29) rfl rfl (Nat.le_of_ble_eq_true rfl) dX5_stands_48 ?_
          have e := so h
          subst e
          exact hQ _ _ dX5_stands_51
theorem m_X5_stands {l : Launch} {F : pfF} (hD : ∀ A, va_D (fA F) (cellsC (fAd F) (fCy F) A)) {x1 : Int32} {x2 : Int32} {x3 : Int32} {A : St} {out : Int32 × St} (h : f_X5_stands x1 x2 x3 A = some out) : Mt l F cellsC yX5_stands cX5_stands 4 (some .int) rm_X5_stands [.ref (fAd F 0), .int x1, .int x2, .int x3] A (va_Qi (fun (r : Int32) (u : St) => r = out.1 ∧ u = out.2) (Wd cellsC F) (fA F)) := by
  refine Met_i (by decide +kernel) (Nat.le_of_ble_eq_true rfl) hD (fun E el ef X hQ => ?_)
  subst el
  subst ef
  exact b_X5_stands X _ _ _ _ hQ h
theorem ok_X5_stands : OkV yX5_stands cX5_stands 4 (some .int) 3 := ⟨qw523, qw524, qw1, qw525, by decide, by decide, by decide⟩
