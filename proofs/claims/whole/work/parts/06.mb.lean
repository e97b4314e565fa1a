noncomputable def f_X1_readAims_L9 (l1 : Int32) (l2 : Int32) (A : St) : Option ((Int32 × St) ⊕ (St)) :=
  if (A.1 3 0) ≤ l2 then
    some (.inr A)
  else
    gI l1 4 <|
    gI l1 4 <|
    cl (f_X0_tellsAt l2 (A.1 13 l1.toNatClampNeg) A) fun r6 =>
    gI l1 4 <|
    g32 (FP.fmul (FP.i2f (A.1 14 l1.toNatClampNeg)) 1036831949) fun v9 =>
    g64 (FP.f2d v9) fun v10 =>
    g64 (FP.dmul r6 v10) fun v11 =>
    gI l2 12 <|
    bv (upD A (36 + l1.toNatClampNeg) l2.toNatClampNeg v11) fun A13 =>
    bv (l2 + 1) fun v14 =>
    some (.inl (v14, A13))
noncomputable def f_X1_readAims_X66_2 (A : St) (m1 : Int32) : Option ((Int32 × St) ⊕ (St)) :=
  bv (m1 + 1) fun v17 =>
  some (.inl (v17, A))
noncomputable def f_X1_readAims_L2 (l1 : Int32) (A : St) : Option ((Int32 × St) ⊕ (St)) :=
  if 4 ≤ l1 then
    some (.inr A)
  else
    cl (loop (fun s => f_X1_readAims_L9 l1 s.1 s.2) (0, A)) (fun s => f_X1_readAims_X66_2 s l1)
noncomputable def f_X1_readAims_X72 (A : St) : Option (St) :=
  some A
noncomputable def f_X1_readAims (A : St) : Option (St) :=
  cl (loop (fun s => f_X1_readAims_L2 s.1 s.2) (0, A)) (fun s => f_X1_readAims_X72 s)
abbrev rm_X1_readAims : Room := { frames := 3, cells := 0, slots := 0, locals := 80 }
set_option maxHeartbeats 4000000 in
set_option maxRecDepth 100000 in
theorem g_X1_readAims_L9 {E : pfE} (X : CX cellsC E cX1_readAims RX1 rm_X1_readAims 3) (l1 : Int32) : ∀ (n : Nat) (l2 : Int32) (A : St) (ρ : St), lp (fun s => f_X1_readAims_L9 l1 s.1 s.2) n (l2, A) = some ρ → (∀ (B : St), ρ = B → GG cellsC E B 66 [(0, .ref (fAd (eF E) 2)), (1, .int l1)] []) → GG cellsC E A 9 [(0, .ref (fAd (eF E) 2)), (1, .int l1), (2, .int l2)] [] := by
  intro n
  induction n with
  | zero =>
    intro l2 A ρ h
    cases h
  | succ n ih =>
    intro l2 A ρ h0 K
    obtain ⟨x, hb, hx⟩ := lp_step h0
    have h : f_X1_readAims_L9 l1 l2 A = some x := hb
    unfold f_X1_readAims_L9 at h
    clear hb h0
    refine G_iload_n X dX1_readAims_9 rfl 2 rfl ?_
    refine G_aload_n X dX1_readAims_10 rfl 0 rfl ?_
    refine G_getf X inX1 2 (eC2 _ _ _) rfl 0 (by decide) qw78 rfl dX1_readAims_11 ?_
    refine G_getf X inX0 3 (eC3 _ _ _) rfl 0 (by decide) qw37 rfl dX1_readAims_14 ?_
    refine G_icge X (tgt := 66) dX1_readAims_17 (by decide) (fun c2 => ?_) (fun c2 => ?_)
    · have h := if_t c2 h
      exact G_sub [0, 1] rfl (K _ (lpr (so h) hx).symm)
    · have h := if_f c2 h
      refine G_aload_n X dX1_readAims_20 rfl 0 rfl ?_
      refine G_getf X inX1 2 (eC2 _ _ _) rfl 6 (by decide) qw87 rfl dX1_readAims_21 ?_
      refine G_iload_n X dX1_readAims_24 rfl 1 rfl ?_
      have hi3 := gI_n h
      have h := gI_k h
      have hw4 := vlt hi3
      refine G_aald X (t0 := 4) (b := fAd (eF E) (36 + l1.toNatClampNeg)) 35 (eC35 _ _ _) rfl rfl hi3 (if_pos hw4) dX1_readAims_25 ?_
      refine G_iload_n X dX1_readAims_26 rfl 2 rfl ?_
      refine G_aload_n X dX1_readAims_27 rfl 0 rfl ?_
      refine G_getf X inX1 2 (eC2 _ _ _) rfl 0 (by decide) qw78 rfl dX1_readAims_28 ?_
      refine G_iload_n X dX1_readAims_31 rfl 2 rfl ?_
      refine G_aload_n X dX1_readAims_32 rfl 0 rfl ?_
      refine G_getf X inX1 2 (eC2 _ _ _) rfl 0 (by decide) qw78 rfl dX1_readAims_33 ?_
      refine G_getf X inX0 3 (eC3 _ _ _) rfl 2 (by decide) qw42 rfl dX1_readAims_36 ?_
      refine G_iload_n X dX1_readAims_39 rfl 1 rfl ?_
      have hi5 := gI_n h
      have h := gI_k h
      refine G_iald X (j := l1.toNatClampNeg) 13 (eC13 _ _ _) hi5 rfl dX1_readAims_40 ?_
      obtain ⟨r6, hz7, h⟩ := cl_k h
      refine G_callV_d X (As := [.int l2, .int (A.1 13 l1.toNatClampNeg)]) (rest := [.int l2, .ref (fAd (eF E) (36 + l1.toNatClampNeg))]) ok_X0_tellsAt qw317 3 (eC3 _ _ _) rfl rfl ⟨rfl, rfl, Nat.le_of_ble_eq_true rfl, Nat.le_of_ble_eq_true rfl⟩ (m_X0_tellsAt X.d hz7) rfl rfl (Nat.le_of_ble_eq_true rfl) dX1_readAims_41 ?_
      refine G_aload_n X dX1_readAims_44 rfl 0 rfl ?_
      refine G_getf X inX1 2 (eC2 _ _ _) rfl 0 (by decide) qw78 rfl dX1_readAims_45 ?_
      refine G_getf X inX0 3 (eC3 _ _ _) rfl 3 (by decide) qw45 rfl dX1_readAims_48 ?_
      refine G_iload_n X dX1_readAims_51 rfl 1 rfl ?_
      have hi8 := gI_n h
      have h := gI_k h
      refine G_iald X (j := l1.toNatClampNeg) 14 (eC14 _ _ _) hi8 rfl dX1_readAims_52 ?_
      refine G_i2f X dX1_readAims_53 ?_
      refine G_ldcf X (v := 1036831949) qw318 dX1_readAims_54 ?_
      have hv9 := g32_n h
      refine G_fmul X dX1_readAims_56 hv9 ?_
      refine G_topf (fun v9 ev9 => ?_)
      have h := g32_k ev9 h
      have hv10 := g64_n h
      refine G_f2d X dX1_readAims_57 hv10 ?_
      refine G_topd (fun v10 ev10 => ?_)
      have h := g64_k ev10 h
      have hv11 := g64_n h
      refine G_dmul X dX1_readAims_58 hv11 ?_
      refine G_topd (fun v11 ev11 => ?_)
      have h := g64_k ev11 h
      have hi12 := gI_n h
      have h := gI_k h
      refine G_dast X (j := l2.toNatClampNeg) (36 + l1.toNatClampNeg) (eCf36 _ _ _ _ hw4) (sCD _ _ _ _ l2.toNatClampNeg _ _ (fun _ => fC36 _ _ _ _ hw4)) hi12 rfl dX1_readAims_59 ?_
      refine G_topS (fun A13 eA13 => ?_)
      have h := bv_k eA13 h
      obtain ⟨v14, ev14⟩ : ∃ y : Int32, y = l2 + 1 := ⟨_, rfl⟩
      have h := bv_k ev14 h
      refine G_iinc X (q := 2) (v := v14) (lv2 := [(2, .int v14), (0, .ref (fAd (eF E) 2)), (1, .int l1)]) dX1_readAims_60 rfl (by rw [ev14]; rfl) (by decide) rfl ?_
      refine G_goto X (tgt := 9) dX1_readAims_63 (by decide) ?_
      exact G_sub [1, 2, 0] rfl (ih _ _ _ (lpl (so h) hx) K)
set_option maxHeartbeats 4000000 in
set_option maxRecDepth 100000 in
theorem g_X1_readAims_L2 {E : pfE} (X : CX cellsC E cX1_readAims RX1 rm_X1_readAims 3) : ∀ (n : Nat) (l1 : Int32) (A : St) (ρ : St), lp (fun s => f_X1_readAims_L2 s.1 s.2) n (l1, A) = some ρ → (∀ (B : St), ρ = B → GG cellsC E B 72 [] []) → GG cellsC E A 2 [(0, .ref (fAd (eF E) 2)), (1, .int l1)] [] := by
  intro n
  induction n with
  | zero =>
    intro l1 A ρ h
    cases h
  | succ n ih =>
    intro l1 A ρ h0 K
    obtain ⟨x, hb, hx⟩ := lp_step h0
    have h : f_X1_readAims_L2 l1 A = some x := hb
    unfold f_X1_readAims_L2 at h
    clear hb h0
    refine G_iload_n X dX1_readAims_2 rfl 1 rfl ?_
    refine G_iconst X (v := 4) dX1_readAims_3 rfl ?_
    refine G_icge X (tgt := 72) dX1_readAims_4 (by decide) (fun c1 => ?_) (fun c1 => ?_)
    · have h := if_t c1 h
      exact G_sub [] rfl (K _ (lpr (so h) hx).symm)
    · have h := if_f c1 h
      refine G_iconst X (v := 0) dX1_readAims_7 rfl ?_
      refine G_istore_n X (lv2 := [(2, .int 0), (0, .ref (fAd (eF E) 2)), (1, .int l1)]) dX1_readAims_8 rfl (by decide) rfl ?_
      obtain ⟨ρ, hl, h⟩ := cl_k h
      obtain ⟨n, hl⟩ := loop_some hl
      refine G_sub [1, 2, 0] rfl (g_X1_readAims_L9 X l1 n _ _ ρ hl ?_)
      intro A15 e
      rw [e] at h
      have h : f_X1_readAims_X66_2 A15 l1 = some _ := h
      unfold f_X1_readAims_X66_2 at h
      obtain ⟨v16, ev16⟩ : ∃ y : Int32, y = l1 + 1 := ⟨_, rfl⟩
      have h := bv_k ev16 h
      refine G_iinc X (q := 1) (v := v16) (lv2 := [(1, .int v16), (0, .ref (fAd (eF E) 2))]) dX1_readAims_66 rfl (by rw [ev16]; rfl) (by decide) rfl ?_
      refine G_goto X (tgt := 2) dX1_readAims_69 (by decide) ?_
      exact G_sub [1, 0] rfl (ih _ _ _ (lpl (so h) hx) K)
set_option maxHeartbeats 4000000 in
set_option maxRecDepth 100000 in
theorem b_X1_readAims {E : pfE} (X : CX cellsC E cX1_readAims RX1 rm_X1_readAims 3) (A : St) {out : St} (hQ : Retv cellsC E cX1_readAims out) (h : f_X1_readAims A = some out) : GG cellsC E A 0 [(0, .ref (fAd (eF E) 2))] [] := by
  unfold f_X1_readAims at h
  refine G_iconst X (v := 0) dX1_readAims_0 rfl ?_
  refine G_istore_n X (lv2 := [(1, .int 0), (0, .ref (fAd (eF E) 2))]) dX1_readAims_1 rfl (by decide) rfl ?_
  obtain ⟨ρ, hl, h⟩ := cl_k h
  obtain ⟨n, hl⟩ := loop_some hl
  refine G_sub [1, 0] rfl (g_X1_readAims_L2 X n _ _ ρ hl ?_)
  intro A18 e
  rw [e] at h
  have h : f_X1_readAims_X72 A18 = some _ := h
  unfold f_X1_readAims_X72 at h
  have e := so h
  subst e
  exact hQ _ _ dX1_readAims_72
theorem m_X1_readAims {l : Launch} {F : pfF} (hD : ∀ A, va_D (fA F) (cellsC (fAd F) (fCy F) A)) {A : St} {out : St} (h : f_X1_readAims A = some out) : Mt l F cellsC yX1_readAims cX1_readAims 3 none rm_X1_readAims [.ref (fAd F 2)] A (va_Qv (fun (u : St) => u = out) (Wd cellsC F) (fA F)) := by
  refine Met_v (by decide +kernel) (Nat.le_of_ble_eq_true rfl) hD (fun E el ef X hQ => ?_)
  subst el
  subst ef
  exact b_X1_readAims X _ hQ h
theorem ok_X1_readAims : OkV yX1_readAims cX1_readAims 3 none 0 := ⟨qw314, qw315, qw2, qw316, by decide, by decide, by decide⟩
noncomputable def f_X1_valueOf_L14 (A : St) (l1 : Int32) (l4 : Int32) (l2 : UInt64) (l5 : Int32) : Option ((UInt64 × Int32) ⊕ (UInt64)) :=
  if (A.1 3 0) ≤ l5 then
    some (.inr l2)
  else
    if ((l1 >>> (l5 &&& 31)) &&& 1) = 0 then
      bv (l5 + 1) fun v5 =>
      some (.inl (l2, v5))
    else
      gI l4 4 <|
      gI l5 12 <|
      g64 (FP.dadd l2 (A.2.1 (36 + l4.toNatClampNeg) l5.toNatClampNeg)) fun v9 =>
      bv (l5 + 1) fun v10 =>
      some (.inl (v9, v10))
noncomputable def f_X1_valueOf_X54_5 (A : St) (m1 : Int32) (m2 : UInt64) (m4 : Int32) : Option ((UInt64 × Int32) ⊕ (UInt64)) :=
  bv (m4 + 1) fun v13 =>
  some (.inl (m2, v13))
noncomputable def f_X1_valueOf_L5 (A : St) (l1 : Int32) (l2 : UInt64) (l4 : Int32) : Option ((UInt64 × Int32) ⊕ (UInt64)) :=
  if 4 ≤ l4 then
    some (.inr l2)
  else
    cl (loop (fun s => f_X1_valueOf_L14 A l1 l4 s.1 s.2) (l2, 0)) (fun s => f_X1_valueOf_X54_5 A l1 s l4)
noncomputable def f_X1_valueOf_X60 (A : St) (m2 : UInt64) : Option (UInt64) :=
  some m2
noncomputable def f_X1_valueOf (x1 : Int32) (A : St) : Option (UInt64) :=
  bv FP.dconst0 fun v1 =>
  cl (loop (fun s => f_X1_valueOf_L5 A x1 s.1 s.2) (v1, 0)) (fun s => f_X1_valueOf_X60 A s)
abbrev rm_X1_valueOf : Room := { frames := 0, cells := 0, slots := 0, locals := 0 }
set_option maxHeartbeats 4000000 in
set_option maxRecDepth 100000 in
theorem g_X1_valueOf_L14 {E : pfE} (X : CX cellsC E cX1_valueOf RX1 rm_X1_valueOf 6) (A : St) (l1 : Int32) (l4 : Int32) : ∀ (n : Nat) (l2 : UInt64) (l5 : Int32) (ρ : UInt64), lp (fun s => f_X1_valueOf_L14 A l1 l4 s.1 s.2) n (l2, l5) = some ρ → (∀ (q2 : UInt64), ρ = q2 → GG cellsC E A 54 [(0, .ref (fAd (eF E) 2)), (1, .int l1), (2, .double q2), (4, .int l4)] []) → GG cellsC E A 14 [(0, .ref (fAd (eF E) 2)), (1, .int l1), (2, .double l2), (4, .int l4), (5, .int l5)] [] := by
  intro n
  induction n with
  | zero =>
    intro l2 l5 ρ h
    cases h
  | succ n ih =>
    intro l2 l5 ρ h0 K
    obtain ⟨x, hb, hx⟩ := lp_step h0
    have h : f_X1_valueOf_L14 A l1 l4 l2 l5 = some x := hb
    unfold f_X1_valueOf_L14 at h
    clear hb h0
    refine G_iload X dX1_valueOf_14 4 rfl ?_
    refine G_aload_n X dX1_valueOf_16 rfl 0 rfl ?_
    refine G_getf X inX1 2 (eC2 _ _ _) rfl 0 (by decide) qw78 rfl dX1_valueOf_17 ?_
    refine G_getf X inX0 3 (eC3 _ _ _) rfl 0 (by decide) qw37 rfl dX1_valueOf_20 ?_
    refine G_icge X (tgt := 54) dX1_valueOf_23 (by decide) (fun c3 => ?_) (fun c3 => ?_)
    · have h := if_t c3 h
      exact G_sub [0, 1, 2, 3] rfl (K _ (lpr (so h) hx).symm)
    · have h := if_f c3 h
      refine G_iload_n X dX1_valueOf_26 rfl 1 rfl ?_
      refine G_iload X dX1_valueOf_27 4 rfl ?_
      refine G_ishr X dX1_valueOf_29 ?_
      refine G_iconst X (v := 1) dX1_valueOf_30 rfl ?_
      refine G_iand X dX1_valueOf_31 ?_
      refine G_ifeq X (tgt := 48) dX1_valueOf_32 (by decide) (fun c4 => ?_) (fun c4 => ?_)
      · have h := if_t c4 h
        obtain ⟨v5, ev5⟩ : ∃ y : Int32, y = l5 + 1 := ⟨_, rfl⟩
        have h := bv_k ev5 h
        refine G_iinc X (q := 4) (v := v5) (lv2 := [(5, .int v5), (0, .ref (fAd (eF E) 2)), (1, .int l1), (2, .double l2), (4, .int l4)]) dX1_valueOf_48 rfl (by rw [ev5]; rfl) (by decide) rfl ?_
        refine G_goto X (tgt := 14) dX1_valueOf_51 (by decide) ?_
        exact G_sub [1, 2, 3, 4, 0] rfl (ih _ _ _ (lpl (so h) hx) K)
      · have h := if_f c4 h
        refine G_dload_n X dX1_valueOf_35 rfl 2 rfl ?_
        refine G_aload_n X dX1_valueOf_36 rfl 0 rfl ?_
        refine G_getf X inX1 2 (eC2 _ _ _) rfl 6 (by decide) qw87 rfl dX1_valueOf_37 ?_
        refine G_iload X dX1_valueOf_40 3 rfl ?_
        have hi6 := gI_n h
        have h := gI_k h
        have hw7 := vlt hi6
        refine G_aald X (t0 := 4) (b := fAd (eF E) (36 + l4.toNatClampNeg)) 35 (eC35 _ _ _) rfl rfl hi6 (if_pos hw7) dX1_valueOf_42 ?_
        refine G_iload X dX1_valueOf_43 4 rfl ?_
        have hi8 := gI_n h
        have h := gI_k h
        refine G_dald X (j := l5.toNatClampNeg) (36 + l4.toNatClampNeg) (eCf36 _ _ _ _ hw7) hi8 rfl dX1_valueOf_45 ?_
        have hv9 := g64_n h
        refine G_dadd X dX1_valueOf_46 hv9 ?_
        refine G_topd (fun v9 ev9 => ?_)
        have h := g64_k ev9 h
        refine G_dstore_n X (lv2 := [(2, .double v9), (0, .ref (fAd (eF E) 2)), (1, .int l1), (4, .int l4), (5, .int l5)]) dX1_valueOf_47 rfl (by decide) rfl ?_
        obtain ⟨v10, ev10⟩ : ∃ y : Int32, y = l5 + 1 := ⟨_, rfl⟩
        have h := bv_k ev10 h
        refine G_iinc X (q := 4) (v := v10) (lv2 := [(5, .int v10), (2, .double v9), (0, .ref (fAd (eF E) 2)), (1, .int l1), (4, .int l4)]) dX1_valueOf_48 rfl (by rw [ev10]; rfl) (by decide) rfl ?_
        refine G_goto X (tgt := 14) dX1_valueOf_51 (by decide) ?_
        exact G_sub [2, 3, 1, 4, 0] rfl (ih _ _ _ (lpl (so h) hx) K)
set_option maxHeartbeats 4000000 in
set_option maxRecDepth 100000 in
theorem g_X1_valueOf_L5 {E : pfE} (X : CX cellsC E cX1_valueOf RX1 rm_X1_valueOf 6) (A : St) (l1 : Int32) : ∀ (n : Nat) (l2 : UInt64) (l4 : Int32) (ρ : UInt64), lp (fun s => f_X1_valueOf_L5 A l1 s.1 s.2) n (l2, l4) = some ρ → (∀ (q2 : UInt64), ρ = q2 → GG cellsC E A 60 [(2, .double q2)] []) → GG cellsC E A 5 [(0, .ref (fAd (eF E) 2)), (1, .int l1), (2, .double l2), (4, .int l4)] [] := by
  intro n
  induction n with
  | zero =>
    intro l2 l4 ρ h
    cases h
  | succ n ih =>
    intro l2 l4 ρ h0 K
    obtain ⟨x, hb, hx⟩ := lp_step h0
    have h : f_X1_valueOf_L5 A l1 l2 l4 = some x := hb
    unfold f_X1_valueOf_L5 at h
    clear hb h0
    refine G_iload X dX1_valueOf_5 3 rfl ?_
    refine G_iconst X (v := 4) dX1_valueOf_7 rfl ?_
    refine G_icge X (tgt := 60) dX1_valueOf_8 (by decide) (fun c2 => ?_) (fun c2 => ?_)
    · have h := if_t c2 h
      exact G_sub [2] rfl (K _ (lpr (so h) hx).symm)
    · have h := if_f c2 h
      refine G_iconst X (v := 0) dX1_valueOf_11 rfl ?_
      refine G_istore X (lv2 := [(5, .int 0), (0, .ref (fAd (eF E) 2)), (1, .int l1), (2, .double l2), (4, .int l4)]) dX1_valueOf_12 (by decide) rfl ?_
      obtain ⟨ρ, hl, h⟩ := cl_k h
      obtain ⟨n, hl⟩ := loop_some hl
      refine G_sub [1, 2, 3, 4, 0] rfl (g_X1_valueOf_L14 X A l1 l4 n _ _ ρ hl ?_)
      intro v11 e
      rw [e] at h
      have h : f_X1_valueOf_X54_5 A l1 v11 l4 = some _ := h
      unfold f_X1_valueOf_X54_5 at h
      obtain ⟨v12, ev12⟩ : ∃ y : Int32, y = l4 + 1 := ⟨_, rfl⟩
      have h := bv_k ev12 h
      refine G_iinc X (q := 3) (v := v12) (lv2 := [(4, .int v12), (0, .ref (fAd (eF E) 2)), (1, .int l1), (2, .double v11)]) dX1_valueOf_54 rfl (by rw [ev12]; rfl) (by decide) rfl ?_
      refine G_goto X (tgt := 5) dX1_valueOf_57 (by decide) ?_
      exact G_sub [1, 2, 3, 0] rfl (ih _ _ _ (lpl (so h) hx) K)
set_option maxHeartbeats 4000000 in
set_option maxRecDepth 100000 in
theorem b_X1_valueOf {E : pfE} (X : CX cellsC E cX1_valueOf RX1 rm_X1_valueOf 6) (x1 : Int32) (A : St) {out : UInt64} (hQ : Retd cellsC E cX1_valueOf out A) (h : f_X1_valueOf x1 A = some out) : GG cellsC E A 0 [(0, .ref (fAd (eF E) 2)), (1, .int x1)] [] := by
  unfold f_X1_valueOf at h
  refine G_dconst0 X dX1_valueOf_0 ?_
  refine G_topd (fun v1 ev1 => ?_)
  have h := bv_k ev1 h
  refine G_dstore_n X (lv2 := [(2, .double v1), (0, .ref (fAd (eF E) 2)), (1, .int x1)]) dX1_valueOf_1 rfl (by decide) rfl ?_
  refine G_iconst X (v := 0) dX1_valueOf_2 rfl ?_
  refine G_istore X (lv2 := [(4, .int 0), (2, .double v1), (0, .ref (fAd (eF E) 2)), (1, .int x1)]) dX1_valueOf_3 (by decide) rfl ?_
  obtain ⟨ρ, hl, h⟩ := cl_k h
  obtain ⟨n, hl⟩ := loop_some hl
  refine G_sub [2, 3, 1, 0] rfl (g_X1_valueOf_L5 X A x1 n _ _ ρ hl ?_)
  intro v14 e
  rw [e] at h
  have h : f_X1_valueOf_X60 A v14 = some _ := h
  unfold f_X1_valueOf_X60 at h
  refine G_dload_n X dX1_valueOf_60 rfl 0 rfl ?_
  have e := so h
  subst e
  exact hQ _ _ dX1_valueOf_61
theorem m_X1_valueOf {l : Launch} {F : pfF} (hD : ∀ A, va_D (fA F) (cellsC (fAd F) (fCy F) A)) {x1 : Int32} {A : St} {out : UInt64} (h : f_X1_valueOf x1 A = some out) : Mt l F cellsC yX1_valueOf cX1_valueOf 6 (some .double) rm_X1_valueOf [.ref (fAd F 2), .int x1] A (va_Qd (fun (r : UInt64) (u : St) => r = out ∧ u = A) (Wd cellsC F) (fA F)) := by
  refine Met_d (by decide +kernel) (Nat.le_of_ble_eq_true rfl) hD (fun E el ef X hQ => ?_)
  subst el
  subst ef
  exact b_X1_valueOf X _ _ hQ h
theorem ok_X1_valueOf : OkV yX1_valueOf cX1_valueOf 6 (some .double) 1 := ⟨qw320, qw321, qw2, qw322, by decide, by decide, by decide⟩
noncomputable def f_X5_value (x1 : Int32) (A : St) : Option (Int64 × St) :=
  cl (f_X0_hasAll x1 A) fun r1 =>
  if (bI r1) = 0 then
    cl2 (f_X5_longFinding 0 A) fun r11 A13 =>
    some (r11, A13)
  else
    cl (f_X1_readAims A) fun A6 =>
    cl (f_X1_valueOf x1 A6) fun r7 =>
    cl (f_X2_doubleBits r7) fun r9 =>
    some (r9, A6)
abbrev rm_X5_value : Room := { frames := 4, cells := 0, slots := 0, locals := 102 }
set_option maxHeartbeats 4000000 in
set_option maxRecDepth 100000 in
theorem b_X5_value {E : pfE} (X : CX cellsC E cX5_value RX5 rm_X5_value 2) (x1 : Int32) (A : St) {out : Int64 × St} (hQ : Retl cellsC E cX5_value out.1 out.2) (h : f_X5_value x1 A = some out) : GG cellsC E A 0 [(0, .ref (fAd (eF E) 0)), (1, .int x1)] [] := by
  unfold f_X5_value at h
  refine G_aload_n X dX5_value_0 rfl 0 rfl ?_
  refine G_getf X inX5 0 (eC0 _ _ _) rfl 2 (by decide) qw157 rfl dX5_value_1 ?_
  refine G_iload_n X dX5_value_4 rfl 1 rfl ?_
  obtain ⟨r1, hz2, h⟩ := cl_k h
  refine G_callV_i X (As := [.int x1]) (rest := []) ok_X0_hasAll qw309 3 (eC3 _ _ _) rfl rfl ⟨rfl, rfl, Nat.le_of_ble_eq_true rfl, Nat.le_of_ble_eq_true rfl⟩ (m_X0_hasAll X.d hz2) rfl rfl (Nat.le_of_ble_eq_true rfl) dX5_value_5 ?_
  refine G_ifne X (tgt := 17) dX5_value_8 (by decide) (fun c3 => ?_) (fun c3 => ?_)
  · have h := if_t c3 h
    refine G_aload_n X dX5_value_11 rfl 0 rfl ?_
    refine G_iconst X (v := 0) dX5_value_12 rfl ?_
    obtain ⟨r11, A13, hz12, h⟩ := cl2_k h
    refine G_callV_l X (As := [.int 0]) (rest := []) ok_X5_longFinding qw260 0 (eC0 _ _ _) rfl rfl ⟨rfl, rfl, Nat.le_of_ble_eq_true rfl, Nat.le_of_ble_eq_true rfl⟩ (m_X5_longFinding X.d hz12) rfl rfl (Nat.le_of_ble_eq_true rfl) dX5_value_13 ?_
    have e := so h
    subst e
    exact hQ _ _ dX5_value_16
  · have h := if_f c3 h
    refine G_aload_n X dX5_value_17 rfl 0 rfl ?_
    refine G_getf X inX5 0 (eC0 _ _ _) rfl 1 (by decide) qw156 rfl dX5_value_18 ?_
    obtain ⟨A6, hz5, h⟩ := cl_k h
    refine G_callV_v X (As := []) (rest := []) ok_X1_readAims qw313 2 (eC2 _ _ _) rfl rfl ⟨rfl, rfl, Nat.le_of_ble_eq_true rfl, Nat.le_of_ble_eq_true rfl⟩ (m_X1_readAims X.d hz5) rfl rfl (Nat.le_of_ble_eq_true rfl) dX5_value_21 ?_
    refine G_aload_n X dX5_value_24 rfl 0 rfl ?_
    refine G_getf X inX5 0 (eC0 _ _ _) rfl 1 (by decide) qw156 rfl dX5_value_25 ?_
    refine G_iload_n X dX5_value_28 rfl 1 rfl ?_
    obtain ⟨r7, hz8, h⟩ := cl_k h
    refine G_callV_d X (As := [.int x1]) (rest := []) ok_X1_valueOf qw319 2 (eC2 _ _ _) rfl rfl ⟨rfl, rfl, Nat.le_of_ble_eq_true rfl, Nat.le_of_ble_eq_true rfl⟩ (m_X1_valueOf X.d hz8) rfl rfl (Nat.le_of_ble_eq_true rfl) dX5_value_29 ?_
    obtain ⟨r9, hz10, h⟩ := cl_k h
    refine G_callS_l X (As := [.double r7]) (rest := []) ok_X2_doubleBits qw289 ⟨rfl, rfl, Nat.le_of_ble_eq_true rfl, Nat.le_of_ble_eq_true rfl⟩ (m_X2_doubleBits X.d hz10) rfl rfl (Nat.le_of_ble_eq_true rfl) dX5_value_32 ?_
    have e := so h
    subst e
    exact hQ _ _ dX5_value_35
theorem m_X5_value {l : Launch} {F : pfF} (hD : ∀ A, va_D (fA F) (cellsC (fAd F) (fCy F) A)) {x1 : Int32} {A : St} {out : Int64 × St} (h : f_X5_value x1 A = some out) : Mt l F cellsC yX5_value cX5_value 2 (some .long) rm_X5_value [.ref (fAd F 0), .int x1] A (va_Ql (fun (r : Int64) (u : St) => r = out.1 ∧ u = out.2) (Wd cellsC F) (fA F)) := by
  refine Met_l (by decide +kernel) (Nat.le_of_ble_eq_true rfl) hD (fun E el ef X hQ => ?_)
  subst el
  subst ef
  exact b_X5_value X _ _ hQ h
theorem ok_X5_value : OkV yX5_value cX5_value 2 (some .long) 1 := ⟨qw306, qw307, qw1, qw308, by decide, by decide, by decide⟩
noncomputable def f_X5_worth (x1 : Int32) (A : St) : Option (Int32 × St) :=
  cl (f_X0_hasAll x1 A) fun r1 =>
  if (bI r1) = 0 then
    cl2 (f_X5_finding 0 A) fun r10 A12 =>
    some (r10, A12)
  else
    cl (f_X1_readAims A) fun A6 =>
    cl (f_X1_valueOf x1 A6) fun r7 =>
    g64 (FP.dmul r7 4652007308841189376) fun v9 =>
    some (FP.d2i v9, A6)
abbrev rm_X5_worth : Room := { frames := 4, cells := 0, slots := 0, locals := 102 }
set_option maxHeartbeats 4000000 in
set_option maxRecDepth 100000 in
theorem b_X5_worth {E : pfE} (X : CX cellsC E cX5_worth RX5 rm_X5_worth 2) (x1 : Int32) (A : St) {out : Int32 × St} (hQ : Reti cellsC E cX5_worth out.1 out.2) (h : f_X5_worth x1 A = some out) : GG cellsC E A 0 [(0, .ref (fAd (eF E) 0)), (1, .int x1)] [] := by
  unfold f_X5_worth at h
  refine G_aload_n X dX5_worth_0 rfl 0 rfl ?_
  refine G_getf X inX5 0 (eC0 _ _ _) rfl 2 (by decide) qw157 rfl dX5_worth_1 ?_
  refine G_iload_n X dX5_worth_4 rfl 1 rfl ?_
  obtain ⟨r1, hz2, h⟩ := cl_k h
  refine G_callV_i X (As := [.int x1]) (rest := []) ok_X0_hasAll qw309 3 (eC3 _ _ _) rfl rfl ⟨rfl, rfl, Nat.le_of_ble_eq_true rfl, Nat.le_of_ble_eq_true rfl⟩ (m_X0_hasAll X.d hz2) rfl rfl (Nat.le_of_ble_eq_true rfl) dX5_worth_5 ?_
  refine G_ifne X (tgt := 17) dX5_worth_8 (by decide) (fun c3 => ?_) (fun c3 => ?_)
  · have h := if_t c3 h
    refine G_aload_n X dX5_worth_11 rfl 0 rfl ?_
    refine G_iconst X (v := 0) dX5_worth_12 rfl ?_
    obtain ⟨r10, A12, hz11, h⟩ := cl2_k h
    refine G_callV_i X (As := [.int 0]) (rest := []) ok_X5_finding qw191 0 (eC0 _ _ _) rfl rfl ⟨rfl, rfl, Nat.le_of_ble_eq_true rfl, Nat.le_of_ble_eq_true rfl⟩ (m_X5_finding X.d hz11) rfl rfl (Nat.le_of_ble_eq_true rfl) dX5_worth_13 ?_
    have e := so h
    subst e
    exact hQ _ _ dX5_worth_16
  · have h := if_f c3 h
    refine G_aload_n X dX5_worth_17 rfl 0 rfl ?_
    refine G_getf X inX5 0 (eC0 _ _ _) rfl 1 (by decide) qw156 rfl dX5_worth_18 ?_
    obtain ⟨A6, hz5, h⟩ := cl_k h
    refine G_callV_v X (As := []) (rest := []) ok_X1_readAims qw313 2 (eC2 _ _ _) rfl rfl ⟨rfl, rfl, Nat.le_of_ble_eq_true rfl, Nat.le_of_ble_eq_true rfl⟩ (m_X1_readAims X.d hz5) rfl rfl (Nat.le_of_ble_eq_true rfl) dX5_worth_21 ?_
    refine G_aload_n X dX5_worth_24 rfl 0 rfl ?_
    refine G_getf X inX5 0 (eC0 _ _ _) rfl 1 (by decide) qw156 rfl dX5_worth_25 ?_
    refine G_iload_n X dX5_worth_28 rfl 1 rfl ?_
    obtain ⟨r7, hz8, h⟩ := cl_k h
    refine G_callV_d X (As := [.int x1]) (rest := []) ok_X1_valueOf qw319 2 (eC2 _ _ _) rfl rfl ⟨rfl, rfl, Nat.le_of_ble_eq_true rfl, Nat.le_of_ble_eq_true rfl⟩ (m_X1_valueOf X.d hz8) rfl rfl (Nat.le_of_ble_eq_true rfl) dX5_worth_29 ?_
    refine G_ldc2d X (v := 4652007308841189376) qw327 dX5_worth_32 ?_
    have hv9 := g64_n h
    refine G_dmul X dX5_worth_35 hv9 ?_
    refine G_topd (fun v9 ev9 => ?_)
    have h := g64_k ev9 h
    refine G_d2i X dX5_worth_36 ?_
    have e := so h
    subst e
    exact hQ _ _ dX5_worth_37
theorem m_X5_worth {l : Launch} {F : pfF} (hD : ∀ A, va_D (fA F) (cellsC (fAd F) (fCy F) A)) {x1 : Int32} {A : St} {out : Int32 × St} (h : f_X5_worth x1 A = some out) : Mt l F cellsC yX5_worth cX5_worth 2 (some .int) rm_X5_worth [.ref (fAd F 0), .int x1] A (va_Qi (fun (r : Int32) (u : St) => r = out.1 ∧ u = out.2) (Wd cellsC F) (fA F)) := by
  refine Met_i (by decide +kernel) (Nat.le_of_ble_eq_true rfl) hD (fun E el ef X hQ => ?_)
  subst el
  subst ef
  exact b_X5_worth X _ _ hQ h
theorem ok_X5_worth : OkV yX5_worth cX5_worth 2 (some .int) 1 := ⟨qw324, qw325, qw1, qw326, by decide, by decide, by decide⟩
noncomputable def f_X0_allTellAt_L5 (A : St) (l1 : Int32) (l2 : Int32) (l3 : UInt64) (l5 : Int32) : Option ((UInt64 × Int32) ⊕ (UInt64)) :=
  if (A.1 3 0) ≤ l5 then
    some (.inr l3)
  else
    if ((l1 >>> (l5 &&& 31)) &&& 1) = 0 then
      bv (l5 + 1) fun v4 =>
      some (.inl (l3, v4))
    else
      cl (f_X0_tellsAt l5 l2 A) fun r5 =>
      g64 (FP.dadd l3 r5) fun v7 =>
      bv (l5 + 1) fun v8 =>
      some (.inl (v7, v8))
noncomputable def f_X0_allTellAt_X39 (A : St) (m3 : UInt64) : Option (UInt64) :=
  some m3
noncomputable def f_X0_allTellAt (x1 : Int32) (x2 : Int32) (A : St) : Option (UInt64) :=
  bv FP.dconst0 fun v1 =>
  cl (loop (fun s => f_X0_allTellAt_L5 A x1 x2 s.1 s.2) (v1, 0)) (fun s => f_X0_allTellAt_X39 A s)
abbrev rm_X0_allTellAt : Room := { frames := 3, cells := 0, slots := 0, locals := 80 }
set_option maxHeartbeats 4000000 in
set_option maxRecDepth 100000 in
theorem g_X0_allTellAt_L5 {E : pfE} (X : CX cellsC E cX0_allTellAt RX0 rm_X0_allTellAt 6) (A : St) (l1 : Int32) (l2 : Int32) : ∀ (n : Nat) (l3 : UInt64) (l5 : Int32) (ρ : UInt64), lp (fun s => f_X0_allTellAt_L5 A l1 l2 s.1 s.2) n (l3, l5) = some ρ → (∀ (q3 : UInt64), ρ = q3 → GG cellsC E A 39 [(3, .double q3)] []) → GG cellsC E A 5 [(0, .ref (fAd (eF E) 3)), (1, .int l1), (2, .int l2), (3, .double l3), (5, .int l5)] [] := by
  intro n
  induction n with
  | zero =>
    intro l3 l5 ρ h
    cases h
  | succ n ih =>
    intro l3 l5 ρ h0 K
    obtain ⟨x, hb, hx⟩ := lp_step h0
    have h : f_X0_allTellAt_L5 A l1 l2 l3 l5 = some x := hb
    unfold f_X0_allTellAt_L5 at h
    clear hb h0
    refine G_iload X dX0_allTellAt_5 4 rfl ?_
    refine G_aload_n X dX0_allTellAt_7 rfl 0 rfl ?_
    refine G_getf X inX0 3 (eC3 _ _ _) rfl 0 (by decide) qw35 rfl dX0_allTellAt_8 ?_
    refine G_icge X (tgt := 39) dX0_allTellAt_11 (by decide) (fun c2 => ?_) (fun c2 => ?_)
    · have h := if_t c2 h
      exact G_sub [3] rfl (K _ (lpr (so h) hx).symm)
    · have h := if_f c2 h
      refine G_iload_n X dX0_allTellAt_14 rfl 1 rfl ?_
      refine G_iload X dX0_allTellAt_15 4 rfl ?_
      refine G_ishr X dX0_allTellAt_17 ?_
      refine G_iconst X (v := 1) dX0_allTellAt_18 rfl ?_
      refine G_iand X dX0_allTellAt_19 ?_
      refine G_ifeq X (tgt := 33) dX0_allTellAt_20 (by decide) (fun c3 => ?_) (fun c3 => ?_)
      · have h := if_t c3 h
        obtain ⟨v4, ev4⟩ : ∃ y : Int32, y = l5 + 1 := ⟨_, rfl⟩
        have h := bv_k ev4 h
        refine G_iinc X (q := 4) (v := v4) (lv2 := [(5, .int v4), (0, .ref (fAd (eF E) 3)), (1, .int l1), (2, .int l2), (3, .double l3)]) dX0_allTellAt_33 rfl (by rw [ev4]; rfl) (by decide) rfl ?_
        refine G_goto X (tgt := 5) dX0_allTellAt_36 (by decide) ?_
        exact G_sub [1, 2, 3, 4, 0] rfl (ih _ _ _ (lpl (so h) hx) K)
      · have h := if_f c3 h
        refine G_dload_n X dX0_allTellAt_23 rfl 3 rfl ?_
        refine G_aload_n X dX0_allTellAt_24 rfl 0 rfl ?_
        refine G_iload X dX0_allTellAt_25 4 rfl ?_
        refine G_iload_n X dX0_allTellAt_27 rfl 2 rfl ?_
        obtain ⟨r5, hz6, h⟩ := cl_k h
        refine G_callV_d X (As := [.int l5, .int l2]) (rest := [.double l3]) ok_X0_tellsAt qw336 3 (eC3 _ _ _) rfl rfl ⟨rfl, rfl, Nat.le_of_ble_eq_true rfl, Nat.le_of_ble_eq_true rfl⟩ (m_X0_tellsAt X.d hz6) rfl rfl (Nat.le_of_ble_eq_true rfl) dX0_allTellAt_28 ?_
        have hv7 := g64_n h
        refine G_dadd X dX0_allTellAt_31 hv7 ?_
        refine G_topd (fun v7 ev7 => ?_)
        have h := g64_k ev7 h
        refine G_dstore_n X (lv2 := [(3, .double v7), (0, .ref (fAd (eF E) 3)), (1, .int l1), (2, .int l2), (5, .int l5)]) dX0_allTellAt_32 rfl (by decide) rfl ?_
        obtain ⟨v8, ev8⟩ : ∃ y : Int32, y = l5 + 1 := ⟨_, rfl⟩
        have h := bv_k ev8 h
        refine G_iinc X (q := 4) (v := v8) (lv2 := [(5, .int v8), (3, .double v7), (0, .ref (fAd (eF E) 3)), (1, .int l1), (2, .int l2)]) dX0_allTellAt_33 rfl (by rw [ev8]; rfl) (by decide) rfl ?_
        refine G_goto X (tgt := 5) dX0_allTellAt_36 (by decide) ?_
        exact G_sub [2, 3, 4, 1, 0] rfl (ih _ _ _ (lpl (so h) hx) K)
set_option maxHeartbeats 4000000 in
set_option maxRecDepth 100000 in
theorem b_X0_allTellAt {E : pfE} (X : CX cellsC E cX0_allTellAt RX0 rm_X0_allTellAt 6) (x1 : Int32) (x2 : Int32) (A : St) {out : UInt64} (hQ : Retd cellsC E cX0_allTellAt out A) (h : f_X0_allTellAt x1 x2 A = some out) : GG cellsC E A 0 [(0, .ref (fAd (eF E) 3)), (1, .int x1), (2, .int x2)] [] := by
  unfold f_X0_allTellAt at h
  refine G_dconst0 X dX0_allTellAt_0 ?_
  refine G_topd (fun v1 ev1 => ?_)
  have h := bv_k ev1 h
  refine G_dstore_n X (lv2 := [(3, .double v1), (0, .ref (fAd (eF E) 3)), (1, .int x1), (2, .int x2)]) dX0_allTellAt_1 rfl (by decide) rfl ?_
  refine G_iconst X (v := 0) dX0_allTellAt_2 rfl ?_
  refine G_istore X (lv2 := [(5, .int 0), (3, .double v1), (0, .ref (fAd (eF E) 3)), (1, .int x1), (2, .int x2)]) dX0_allTellAt_3 (by decide) rfl ?_
  obtain ⟨ρ, hl, h⟩ := cl_k h
  obtain ⟨n, hl⟩ := loop_some hl
  refine G_sub [2, 3, 4, 1, 0] rfl (g_X0_allTellAt_L5 X A x1 x2 n _ _ ρ hl ?_)
  intro v9 e
  rw [e] at h
  have h : f_X0_allTellAt_X39 A v9 = some _ := h
  unfold f_X0_allTellAt_X39 at h
  refine G_dload_n X dX0_allTellAt_39 rfl 0 rfl ?_
  have e := so h
  subst e
  exact hQ _ _ dX0_allTellAt_40
theorem m_X0_allTellAt {l : Launch} {F : pfF} (hD : ∀ A, va_D (fA F) (cellsC (fAd F) (fCy F) A)) {x1 : Int32} {x2 : Int32} {A : St} {out : UInt64} (h : f_X0_allTellAt x1 x2 A = some out) : Mt l F cellsC yX0_allTellAt cX0_allTellAt 6 (some .double) rm_X0_allTellAt [.ref (fAd F 3), .int x1, .int x2] A (va_Qd (fun (r : UInt64) (u : St) => r = out ∧ u = A) (Wd cellsC F) (fA F)) := by
  refine Met_d (by decide +kernel) (Nat.le_of_ble_eq_true rfl) hD (fun E el ef X hQ => ?_)
  subst el
  subst ef
  exact b_X0_allTellAt X _ _ _ hQ h
theorem ok_X0_allTellAt : OkV yX0_allTellAt cX0_allTellAt 6 (some .double) 2 := ⟨qw333, qw334, qw3, qw335, by decide, by decide, by decide⟩
noncomputable def f_X5_peak_L55 (A : St) (l1 : Int32) (l3 : Int32) (l4 : Int32) (l5 : UInt64) (l7 : Int32) : Option ((Int32 × UInt64 × Int32) ⊕ (Int32)) :=
  if l3 < l7 then
    some (.inr l4)
  else
    cl (f_X0_allTellAt l1 l7 A) fun r24 =>
    if (Op.cmpValue (FP.dcmp r24 l5) .l) ≤ 0 then
      bv (l7 + 1) fun v27 =>
      some (.inl (l4, l5, v27))
    else
      bv (l7 + 1) fun v28 =>
      some (.inl (l7, r24, v28))
noncomputable def f_X5_peak_X95 (A : St) (m4 : Int32) : Option (Int32 × St) :=
  some (m4, A)
noncomputable def f_X5_peak (x1 : Int32) (x2 : Int32) (x3 : Int32) (A : St) : Option (Int32 × St) :=
  cl (f_X0_hasAll x1 A) fun r1 =>
  if (bI r1) = 0 then
    cl2 (f_X5_finding 0 A) fun r4 A6 =>
    some (r4, A6)
  else
    cl (f_X5_isAbility x2) fun r7 =>
    if (bI r7) = 0 then
      cl2 (f_X5_finding 0 A) fun r10 A12 =>
      some (r10, A12)
    else
      cl (f_X5_isAbility x3) fun r13 =>
      if (bI r13) = 0 then
        cl2 (f_X5_finding 0 A) fun r16 A18 =>
        some (r16, A18)
      else
        if x2 ≤ x3 then
          cl (f_X0_allTellAt x1 x2 A) fun r20 =>
          bv (x2 + 1) fun v22 =>
          cl (loop (fun s => f_X5_peak_L55 A x1 x3 s.1 s.2.1 s.2.2) (x2, r20, v22)) (fun s => f_X5_peak_X95 A s)
        else
          cl2 (f_X5_finding 0 A) fun r30 A32 =>
          some (r30, A32)
abbrev rm_X5_peak : Room := { frames := 4, cells := 0, slots := 0, locals := 105 }
set_option maxHeartbeats 4000000 in
set_option maxRecDepth 100000 in
theorem g_X5_peak_L55 {E : pfE} (X : CX cellsC E cX5_peak RX5 rm_X5_peak 10) (A : St) (l1 : Int32) (l3 : Int32) : ∀ (n : Nat) (l4 : Int32) (l5 : UInt64) (l7 : Int32) (ρ : Int32), lp (fun s => f_X5_peak_L55 A l1 l3 s.1 s.2.1 s.2.2) n (l4, l5, l7) = some ρ → (∀ (q4 : Int32), ρ = q4 → GG cellsC E A 95 [(4, .int q4)] []) → GG cellsC E A 55 [(0, .ref (fAd (eF E) 0)), (1, .int l1), (3, .int l3), (4, .int l4), (5, .double l5), (7, .int l7)] [] := by
  intro n
  induction n with
  | zero =>
    intro l4 l5 l7 ρ h
    cases h
  | succ n ih =>
    intro l4 l5 l7 ρ h0 K
    obtain ⟨x, hb, hx⟩ := lp_step h0
    have h : f_X5_peak_L55 A l1 l3 l4 l5 l7 = some x := hb
    unfold f_X5_peak_L55 at h
    clear hb h0
    refine G_iload X dX5_peak_55 5 rfl ?_
    refine G_iload_n X dX5_peak_57 rfl 2 rfl ?_
    refine G_icgt X (tgt := 95) dX5_peak_58 (by decide) (fun c23 => ?_) (fun c23 => ?_)
    · have h := if_t c23 h
      exact G_sub [3] rfl (K _ (lpr (so h) hx).symm)
    · have h := if_f c23 h
      refine G_aload_n X dX5_peak_61 rfl 0 rfl ?_
      refine G_getf X inX5 0 (eC0 _ _ _) rfl 2 (by decide) qw157 rfl dX5_peak_62 ?_
      refine G_iload_n X dX5_peak_65 rfl 1 rfl ?_
      refine G_iload X dX5_peak_66 5 rfl ?_
      obtain ⟨r24, hz25, h⟩ := cl_k h
      refine G_callV_d X (As := [.int l1, .int l7]) (rest := []) ok_X0_allTellAt qw332 3 (eC3 _ _ _) rfl rfl ⟨rfl, rfl, Nat.le_of_ble_eq_true rfl, Nat.le_of_ble_eq_true rfl⟩ (m_X0_allTellAt X.d hz25) rfl rfl (Nat.le_of_ble_eq_true rfl) dX5_peak_68 ?_
      refine G_dstore X (lv2 := [(8, .double r24), (0, .ref (fAd (eF E) 0)), (1, .int l1), (3, .int l3), (4, .int l4), (5, .double l5), (7, .int l7)]) dX5_peak_71 (by decide) rfl ?_
      refine G_dload X dX5_peak_73 0 rfl ?_
      refine G_dload X dX5_peak_75 5 rfl ?_
      refine G_dcmp X dX5_peak_77 ?_
      refine G_ifle X (tgt := 89) dX5_peak_78 (by decide) (fun c26 => ?_) (fun c26 => ?_)
      · have h := if_t c26 h
        obtain ⟨v27, ev27⟩ : ∃ y : Int32, y = l7 + 1 := ⟨_, rfl⟩
        have h := bv_k ev27 h
        refine G_iinc X (q := 6) (v := v27) (lv2 := [(7, .int v27), (8, .double r24), (0, .ref (fAd (eF E) 0)), (1, .int l1), (3, .int l3), (4, .int l4), (5, .double l5)]) dX5_peak_89 rfl (by rw [ev27]; rfl) (by decide) rfl ?_
        refine G_goto X (tgt := 55) dX5_peak_92 (by decide) ?_
        exact G_sub [2, 3, 4, 5, 6, 0] rfl (ih _ _ _ _ (lpl (so h) hx) K)
      · have h := if_f c26 h
        refine G_dload X dX5_peak_81 0 rfl ?_
        refine G_dstore X (lv2 := [(5, .double r24), (8, .double r24), (0, .ref (fAd (eF E) 0)), (1, .int l1), (3, .int l3), (4, .int l4), (7, .int l7)]) dX5_peak_83 (by decide) rfl ?_
        refine G_iload X dX5_peak_85 6 rfl ?_
        refine G_istore X (lv2 := [(4, .int l7), (5, .double r24), (8, .double r24), (0, .ref (fAd (eF E) 0)), (1, .int l1), (3, .int l3), (7, .int l7)]) dX5_peak_87 (by decide) rfl ?_
        obtain ⟨v28, ev28⟩ : ∃ y : Int32, y = l7 + 1 := ⟨_, rfl⟩
        have h := bv_k ev28 h
        refine G_iinc X (q := 6) (v := v28) (lv2 := [(7, .int v28), (4, .int l7), (5, .double r24), (8, .double r24), (0, .ref (fAd (eF E) 0)), (1, .int l1), (3, .int l3)]) dX5_peak_89 rfl (by rw [ev28]; rfl) (by decide) rfl ?_
        refine G_goto X (tgt := 55) dX5_peak_92 (by decide) ?_
        exact G_sub [4, 5, 6, 1, 2, 0] rfl (ih _ _ _ _ (lpl (so h) hx) K)
set_option maxHeartbeats 4000000 in
set_option maxRecDepth 100000 in
theorem b_X5_peak {E : pfE} (X : CX cellsC E cX5_peak RX5 rm_X5_peak 10) (x1 : Int32) (x2 : Int32) (x3 : Int32) (A : St) {out : Int32 × St} (hQ : Reti cellsC E cX5_peak out.1 out.2) (h : f_X5_peak x1 x2 x3 A = some out) : GG cellsC E A 0 [(0, .ref (fAd (eF E) 0)), (1, .int x1), (2, .int x2), (3, .int x3)] [] := by
  unfold f_X5_peak at h
  refine G_aload_n X dX5_peak_0 rfl 0 rfl ?_
  refine G_getf X inX5 0 (eC0 _ _ _) rfl 2 (by decide) qw157 rfl dX5_peak_1 ?_
  refine G_iload_n X dX5_peak_4 rfl 1 rfl ?_
  obtain ⟨r1, hz2, h⟩ := cl_k h
  refine G_callV_i X (As := [.int x1]) (rest := []) ok_X0_hasAll qw309 3 (eC3 _ _ _) rfl rfl ⟨rfl, rfl, Nat.le_of_ble_eq_true rfl, Nat.le_of_ble_eq_true rfl⟩ (m_X0_hasAll X.d hz2) rfl rfl (Nat.le_of_ble_eq_true rfl) dX5_peak_5 ?_
  refine G_ifeq X (tgt := 30) dX5_peak_8 (by decide) (fun c3 => ?_) (fun c3 => ?_)
  · have h := if_t c3 h
    refine G_aload_n X dX5_peak_30 rfl 0 rfl ?_
    refine G_iconst X (v := 0) dX5_peak_31 rfl ?_
    obtain ⟨r4, A6, hz5, h⟩ := cl2_k h
    refine G_callV_i X (As := [.int 0]) (rest := []) ok_X5_finding qw191 0 (eC0 _ _ _) rfl rfl ⟨rfl, rfl, Nat.le_of_ble_eq_true rfl, Nat.le_of_ble_eq_true rfl⟩ (m_X5_finding X.d hz5) rfl rfl (Nat.le_of_ble_eq_true rfl) dX5_peak_32 ?_
    have e := so h
    subst e
    exact hQ _ _ dX5_peak_35
  · have h := if_f c3 h
    refine G_iload_n X dX5_peak_11 rfl 2 rfl ?_
    obtain ⟨r7, hz8, h⟩ := cl_k h
    refine G_callS_i X (As := [.int x2]) (rest := []) ok_X5_isAbility qw257 ⟨rfl, rfl, Nat.le_of_ble_eq_true rfl, Nat.le_of_ble_eq_true rfl⟩ (m_X5_isAbility X.d hz8) rfl rfl (Nat.le_of_ble_eq_true rfl) dX5_peak_12 ?_
    refine G_ifeq X (tgt := 30) dX5_peak_15 (by decide) (fun c9 => ?_) (fun c9 => ?_)
    · have h := if_t c9 h
      refine G_aload_n X dX5_peak_30 rfl 0 rfl ?_
      refine G_iconst X (v := 0) dX5_peak_31 rfl ?_
      obtain ⟨r10, A12, hz11, h⟩ := cl2_k h
      refine G_callV_i X (As := [.int 0]) (rest := []) ok_X5_finding qw191 0 (eC0 _ _ _) rfl rfl ⟨rfl, rfl, Nat.le_of_ble_eq_true rfl, Nat.le_of_ble_eq_true rfl⟩ (m_X5_finding X.d hz11) rfl rfl (Nat.le_of_ble_eq_true rfl) dX5_peak_32 ?_
      have e := so h
      subst e
      exact hQ _ _ dX5_peak_35
    · have h := if_f c9 h
      refine G_iload_n X dX5_peak_18 rfl 3 rfl ?_
      obtain ⟨r13, hz14, h⟩ := cl_k h
      refine G_callS_i X (As := [.int x3]) (rest := []) ok_X5_isAbility qw257 ⟨rfl, rfl, Nat.le_of_ble_eq_true rfl, Nat.le_of_ble_eq_true rfl⟩ (m_X5_isAbility X.d hz14) rfl rfl (Nat.le_of_ble_eq_true rfl) dX5_peak_19 ?_
      refine G_ifeq X (tgt := 30) dX5_peak_22 (by decide) (fun c15 => ?_) (fun c15 => ?_)
      · have h := if_t c15 h
        refine G_aload_n X dX5_peak_30 rfl 0 rfl ?_
        refine G_iconst X (v := 0) dX5_peak_31 rfl ?_
        obtain ⟨r16, A18, hz17, h⟩ := cl2_k h
        refine G_callV_i X (As := [.int 0]) (rest := []) ok_X5_finding qw191 0 (eC0 _ _ _) rfl rfl ⟨rfl, rfl, Nat.le_of_ble_eq_true rfl, Nat.le_of_ble_eq_true rfl⟩ (m_X5_finding X.d hz17) rfl rfl (Nat.le_of_ble_eq_true rfl) dX5_peak_32 ?_
        have e := so h
        subst e
        exact hQ _ _ dX5_peak_35
      · have h := if_f c15 h
        refine G_iload_n X dX5_peak_25 rfl 2 rfl ?_
        refine G_iload_n X dX5_peak_26 rfl 3 rfl ?_
        refine G_icle X (tgt := 36) dX5_peak_27 (by decide) (fun c19 => ?_) (fun c19 => ?_)
        · have h := if_t c19 h
          refine G_iload_n X dX5_peak_36 rfl 2 rfl ?_
          refine G_istore X (lv2 := [(4, .int x2), (0, .ref (fAd (eF E) 0)), (1, .int x1), (2, .int x2), (3, .int x3)]) dX5_peak_37 (by decide) rfl ?_
          refine G_aload_n X dX5_peak_39 rfl 1 rfl ?_
          refine G_getf X inX5 0 (eC0 _ _ _) rfl 2 (by decide) qw157 rfl dX5_peak_40 ?_
          refine G_iload_n X dX5_peak_43 rfl 2 rfl ?_
          refine G_iload_n X dX5_peak_44 rfl 3 rfl ?_
          obtain ⟨r20, hz21, h⟩ := cl_k h
          refine G_callV_d X (As := [.int x1, .int x2]) (rest := []) ok_X0_allTellAt qw332 3 (eC3 _ _ _) rfl rfl ⟨rfl, rfl, Nat.le_of_ble_eq_true rfl, Nat.le_of_ble_eq_true rfl⟩ (m_X0_allTellAt X.d hz21) rfl rfl (Nat.le_of_ble_eq_true rfl) dX5_peak_45 ?_
          refine G_dstore X (lv2 := [(5, .double r20), (4, .int x2), (0, .ref (fAd (eF E) 0)), (1, .int x1), (2, .int x2), (3, .int x3)]) dX5_peak_48 (by decide) rfl ?_
          refine G_iload_n X dX5_peak_50 rfl 4 rfl ?_
          refine G_iconst X (v := 1) dX5_peak_51 rfl ?_
          refine G_iadd X dX5_peak_52 ?_
          refine G_topi (fun v22 ev22 => ?_)
          have h := bv_k ev22 h
          refine G_istore X (lv2 := [(7, .int v22), (5, .double r20), (4, .int x2), (0, .ref (fAd (eF E) 0)), (1, .int x1), (2, .int x2), (3, .int x3)]) dX5_peak_53 (by decide) rfl ?_
          obtain ⟨ρ, hl, h⟩ := cl_k h
          obtain ⟨n, hl⟩ := loop_some hl
          refine G_sub [3, 4, 6, 2, 1, 0] rfl (g_X5_peak_L55 X A x1 x3 n _ _ _ ρ hl ?_)
          intro v29 e
          rw [e] at h
          have h : f_X5_peak_X95 A v29 = some _ := h
          unfold f_X5_peak_X95 at h
          refine G_iload X dX5_peak_95 0 rfl ?_
          have e := so h
          subst e
          exact hQ _ _ dX5_peak_97
        · have h := if_f c19 h
          refine G_aload_n X dX5_peak_30 rfl 0 rfl ?_
          refine G_iconst X (v := 0) dX5_peak_31 rfl ?_
          obtain ⟨r30, A32, hz31, h⟩ := cl2_k h
          refine G_callV_i X (As := [.int 0]) (rest := []) ok_X5_finding qw191 0 (eC0 _ _ _) rfl rfl ⟨rfl, rfl, Nat.le_of_ble_eq_true rfl, Nat.le_of_ble_eq_true rfl⟩ (m_X5_finding X.d hz31) rfl rfl (Nat.le_of_ble_eq_true rfl) dX5_peak_32 ?_
          have e := so h
          subst e
          exact hQ _ _ dX5_peak_35
theorem m_X5_peak {l : Launch} {F : pfF} (hD : ∀ A, va_D (fA F) (cellsC (fAd F) (fCy F) A)) {x1 : Int32} {x2 : Int32} {x3 : Int32} {A : St} {out : Int32 × St} (h : f_X5_peak x1 x2 x3 A = some out) : Mt l F cellsC yX5_peak cX5_peak 10 (some .int) rm_X5_peak [.ref (fAd F 0), .int x1, .int x2, .int x3] A (va_Qi (fun (r : Int32) (u : St) => r = out.1 ∧ u = out.2) (Wd cellsC F) (fA F)) := by
  refine Met_i (by decide +kernel) (Nat.le_of_ble_eq_true rfl) hD (fun E el ef X hQ => ?_)
  subst el
  subst ef
  exact b_X5_peak X _ _ _ _ hQ h
theorem ok_X5_peak : OkV yX5_peak cX5_peak 10 (some .int) 3 := ⟨qw329, qw330, qw1, qw331, by decide, by decide, by decide⟩
noncomputable def f_X0_leastAndMost (x1 : Int32) (A : St) : Option (Int32) :=
  gI x1 4 <|
  gI x1 4 <|
  some (((10 : Int32) * (A.1 15 x1.toNatClampNeg)) + (A.1 16 x1.toNatClampNeg))
abbrev rm_X0_leastAndMost : Room := { frames := 0, cells := 0, slots := 0, locals := 0 }
set_option maxHeartbeats 4000000 in
set_option maxRecDepth 100000 in
theorem b_X0_leastAndMost {E : pfE} (X : CX cellsC E cX0_leastAndMost RX0 rm_X0_leastAndMost 2) (x1 : Int32) (A : St) {out : Int32} (hQ : Reti cellsC E cX0_leastAndMost out A) (h : f_X0_leastAndMost x1 A = some out) : GG cellsC E A 0 [(0, .ref (fAd (eF E) 3)), (1, .int x1)] [] := by
  unfold f_X0_leastAndMost at h
  refine G_bipush X (v := 10) dX0_leastAndMost_0 rfl ?_
  refine G_aload_n X dX0_leastAndMost_2 rfl 0 rfl ?_
  refine G_getf X inX0 3 (eC3 _ _ _) rfl 4 (by decide) qw47 rfl dX0_leastAndMost_3 ?_
  refine G_iload_n X dX0_leastAndMost_6 rfl 1 rfl ?_
  have hi1 := gI_n h
  have h := gI_k h
  refine G_iald X (j := x1.toNatClampNeg) 15 (eC15 _ _ _) hi1 rfl dX0_leastAndMost_7 ?_
  refine G_imul X dX0_leastAndMost_8 ?_
  refine G_aload_n X dX0_leastAndMost_9 rfl 0 rfl ?_
  refine G_getf X inX0 3 (eC3 _ _ _) rfl 5 (by decide) qw50 rfl dX0_leastAndMost_10 ?_
  refine G_iload_n X dX0_leastAndMost_13 rfl 1 rfl ?_
  have hi2 := gI_n h
  have h := gI_k h
  refine G_iald X (j := x1.toNatClampNeg) 16 (eC16 _ _ _) hi2 rfl dX0_leastAndMost_14 ?_
  refine G_iadd X dX0_leastAndMost_15 ?_
  have e := so h
  subst e
  exact hQ _ _ dX0_leastAndMost_16
theorem m_X0_leastAndMost {l : Launch} {F : pfF} (hD : ∀ A, va_D (fA F) (cellsC (fAd F) (fCy F) A)) {x1 : Int32} {A : St} {out : Int32} (h : f_X0_leastAndMost x1 A = some out) : Mt l F cellsC yX0_leastAndMost cX0_leastAndMost 2 (some .int) rm_X0_leastAndMost [.ref (fAd F 3), .int x1] A (va_Qi (fun (r : Int32) (u : St) => r = out ∧ u = A) (Wd cellsC F) (fA F)) := by
  refine Met_i (by decide +kernel) (Nat.le_of_ble_eq_true rfl) hD (fun E el ef X hQ => ?_)
  subst el
  subst ef
  exact b_X0_leastAndMost X _ _ hQ h
theorem ok_X0_leastAndMost : OkV yX0_leastAndMost cX0_leastAndMost 2 (some .int) 1 := ⟨qw342, qw343, qw3, qw344, by decide, by decide, by decide⟩
noncomputable def f_X5_topic (x1 : Int32) (x2 : Int32) (x3 : Int32) (A : St) : Option (Int32 × St) :=
  cl (f_X5_within x1 0 3) fun r1 =>
  if (bI r1) = 0 then
    cl2 (f_X5_finding 0 A) fun r4 A6 =>
    some (r4, A6)
  else
    cl (f_X5_within x2 0 6) fun r7 =>
    if (bI r7) = 0 then
      cl2 (f_X5_finding 0 A) fun r10 A12 =>
      some (r10, A12)
    else
      cl (f_X5_within x3 0 6) fun r13 =>
      if (bI r13) = 0 then
        cl2 (f_X5_finding 0 A) fun r16 A18 =>
        some (r16, A18)
      else
        if x2 ≤ x3 then
          cl (f_X0_leastAndMost x1 A) fun r20 =>
          gI x1 4 <|
          bv (upI A 15 x1.toNatClampNeg x2) fun A23 =>
          gI x1 4 <|
          bv (upI A23 16 x1.toNatClampNeg x3) fun A25 =>
          some (r20, A25)
        else
          cl2 (f_X5_finding 0 A) fun r26 A28 =>
          some (r26, A28)
abbrev rm_X5_topic : Room := { frames := 1, cells := 0, slots := 0, locals := 22 }
set_option maxHeartbeats 4000000 in
set_option maxRecDepth 100000 in
theorem b_X5_topic {E : pfE} (X : CX cellsC E cX5_topic RX5 rm_X5_topic 5) (x1 : Int32) (x2 : Int32) (x3 : Int32) (A : St) {out : Int32 × St} (hQ : Reti cellsC E cX5_topic out.1 out.2) (h : f_X5_topic x1 x2 x3 A = some out) : GG cellsC E A 0 [(0, .ref (fAd (eF E) 0)), (1, .int x1), (2, .int x2), (3, .int x3)] [] := by
  unfold f_X5_topic at h
  refine G_iload_n X dX5_topic_0 rfl 1 rfl ?_
  refine G_iconst X (v := 0) dX5_topic_1 rfl ?_
  refine G_iconst X (v := 3) dX5_topic_2 rfl ?_
  obtain ⟨r1, hz2, h⟩ := cl_k h
  refine G_callS_i X (As := [.int x1, .int 0, .int 3]) (rest := []) ok_X5_within qw184 ⟨rfl, rfl, Nat.le_of_ble_eq_true rfl, Nat.le_of_ble_eq_true rfl⟩ (m_X5_within X.d hz2) rfl rfl (Nat.le_of_ble_eq_true rfl) dX5_topic_3 ?_
  refine G_ifeq X (tgt := 34) dX5_topic_6 (by decide) (fun c3 => ?_) (fun c3 => ?_)
  · have h := if_t c3 h
    refine G_aload_n X dX5_topic_34 rfl 0 rfl ?_
    refine G_iconst X (v := 0) dX5_topic_35 rfl ?_
    obtain ⟨r4, A6, hz5, h⟩ := cl2_k h
    refine G_callV_i X (As := [.int 0]) (rest := []) ok_X5_finding qw191 0 (eC0 _ _ _) rfl rfl ⟨rfl, rfl, Nat.le_of_ble_eq_true rfl, Nat.le_of_ble_eq_true rfl⟩ (m_X5_finding X.d hz5) rfl rfl (Nat.le_of_ble_eq_true rfl) dX5_topic_36 ?_
    have e := so h
    subst e
    exact hQ _ _ dX5_topic_39
  · have h := if_f c3 h
    refine G_iload_n X dX5_topic_9 rfl 2 rfl ?_
    refine G_iconst X (v := 0) dX5_topic_10 rfl ?_
    refine G_bipush X (v := 6) dX5_topic_11 rfl ?_
    obtain ⟨r7, hz8, h⟩ := cl_k h
    refine G_callS_i X (As := [.int x2, .int 0, .int 6]) (rest := []) ok_X5_within qw184 ⟨rfl, rfl, Nat.le_of_ble_eq_true rfl, Nat.le_of_ble_eq_true rfl⟩ (m_X5_within X.d hz8) rfl rfl (Nat.le_of_ble_eq_true rfl) dX5_topic_13 ?_
    refine G_ifeq X (tgt := 34) dX5_topic_16 (by decide) (fun c9 => ?_) (fun c9 => ?_)
    · have h := if_t c9 h
      refine G_aload_n X dX5_topic_34 rfl 0 rfl ?_
      refine G_iconst X (v := 0) dX5_topic_35 rfl ?_
      obtain ⟨r10, A12, hz11, h⟩ := cl2_k h
      refine G_callV_i X (As := [.int 0]) (rest := []) ok_X5_finding qw191 0 (eC0 _ _ _) rfl rfl ⟨rfl, rfl, Nat.le_of_ble_eq_true rfl, Nat.le_of_ble_eq_true rfl⟩ (m_X5_finding X.d hz11) rfl rfl (Nat.le_of_ble_eq_true rfl) dX5_topic_36 ?_
      have e := so h
      subst e
      exact hQ _ _ dX5_topic_39
    · have h := if_f c9 h
      refine G_iload_n X dX5_topic_19 rfl 3 rfl ?_
      refine G_iconst X (v := 0) dX5_topic_20 rfl ?_
      refine G_bipush X (v := 6) dX5_topic_21 rfl ?_
      obtain ⟨r13, hz14, h⟩ := cl_k h
      refine G_callS_i X (As := [.int x3, .int 0, .int 6]) (rest := []) ok_X5_within qw184 ⟨rfl, rfl, Nat.le_of_ble_eq_true rfl, Nat.le_of_ble_eq_true rfl⟩ (m_X5_within X.d hz14) rfl rfl (Nat.le_of_ble_eq_true rfl) dX5_topic_23 ?_
      refine G_ifeq X (tgt := 34) dX5_topic_26 (by decide) (fun c15 => ?_) (fun c15 => ?_)
      · have h := if_t c15 h
        refine G_aload_n X dX5_topic_34 rfl 0 rfl ?_
        refine G_iconst X (v := 0) dX5_topic_35 rfl ?_
        obtain ⟨r16, A18, hz17, h⟩ := cl2_k h
        refine G_callV_i X (As := [.int 0]) (rest := []) ok_X5_finding qw191 0 (eC0 _ _ _) rfl rfl ⟨rfl, rfl, Nat.le_of_ble_eq_true rfl, Nat.le_of_ble_eq_true rfl⟩ (m_X5_finding X.d hz17) rfl rfl (Nat.le_of_ble_eq_true rfl) dX5_topic_36 ?_
        have e := so h
        subst e
        exact hQ _ _ dX5_topic_39
      · have h := if_f c15 h
        refine G_iload_n X dX5_topic_29 rfl 2 rfl ?_
        refine G_iload_n X dX5_topic_30 rfl 3 rfl ?_
        refine G_icle X (tgt := 40) dX5_topic_31 (by decide) (fun c19 => ?_) (fun c19 => ?_)
        · have h := if_t c19 h
          refine G_aload_n X dX5_topic_40 rfl 0 rfl ?_
          refine G_getf X inX5 0 (eC0 _ _ _) rfl 2 (by decide) qw157 rfl dX5_topic_41 ?_
          refine G_iload_n X dX5_topic_44 rfl 1 rfl ?_
          obtain ⟨r20, hz21, h⟩ := cl_k h
          refine G_callV_i X (As := [.int x1]) (rest := []) ok_X0_leastAndMost qw341 3 (eC3 _ _ _) rfl rfl ⟨rfl, rfl, Nat.le_of_ble_eq_true rfl, Nat.le_of_ble_eq_true rfl⟩ (m_X0_leastAndMost X.d hz21) rfl rfl (Nat.le_of_ble_eq_true rfl) dX5_topic_45 ?_
          refine G_istore X (lv2 := [(4, .int r20), (0, .ref (fAd (eF E) 0)), (1, .int x1), (2, .int x2), (3, .int x3)]) dX5_topic_48 (by decide) rfl ?_
          refine G_aload_n X dX5_topic_50 rfl 1 rfl ?_
          refine G_getf X inX5 0 (eC0 _ _ _) rfl 2 (by decide) qw157 rfl dX5_topic_51 ?_
          refine G_getf X inX0 3 (eC3 _ _ _) rfl 4 (by decide) qw49 rfl dX5_topic_54 ?_
          refine G_iload_n X dX5_topic_57 rfl 2 rfl ?_
          refine G_iload_n X dX5_topic_58 rfl 3 rfl ?_
          have hi22 := gI_n h
          have h := gI_k h
          refine G_iast X (j := x1.toNatClampNeg) 15 (eC15 _ _ _) (sCI _ _ _ _ x1.toNatClampNeg _ _ (fun _ => rfl)) hi22 rfl dX5_topic_59 ?_
          refine G_topS (fun A23 eA23 => ?_)
          have h := bv_k eA23 h
          refine G_aload_n X dX5_topic_60 rfl 1 rfl ?_
          refine G_getf X inX5 0 (eC0 _ _ _) rfl 2 (by decide) qw157 rfl dX5_topic_61 ?_
          refine G_getf X inX0 3 (eC3 _ _ _) rfl 5 (by decide) qw52 rfl dX5_topic_64 ?_
          refine G_iload_n X dX5_topic_67 rfl 2 rfl ?_
          refine G_iload_n X dX5_topic_68 rfl 4 rfl ?_
          have hi24 := gI_n h
          have h := gI_k h
          refine G_iast X (j := x1.toNatClampNeg) 16 (eC16 _ _ _) (sCI _ _ _ _ x1.toNatClampNeg _ _ (fun _ => rfl)) hi24 rfl dX5_topic_69 ?_
          refine G_topS (fun A25 eA25 => ?_)
          have h := bv_k eA25 h
          refine G_iload X dX5_topic_70 0 rfl ?_
          have e := so h
          subst e
          exact hQ _ _ dX5_topic_72
        · have h := if_f c19 h
          refine G_aload_n X dX5_topic_34 rfl 0 rfl ?_
          refine G_iconst X (v := 0) dX5_topic_35 rfl ?_
          obtain ⟨r26, A28, hz27, h⟩ := cl2_k h
          refine G_callV_i X (As := [.int 0]) (rest := []) ok_X5_finding qw191 0 (eC0 _ _ _) rfl rfl ⟨rfl, rfl, Nat.le_of_ble_eq_true rfl, Nat.le_of_ble_eq_true rfl⟩ (m_X5_finding X.d hz27) rfl rfl (Nat.le_of_ble_eq_true rfl) dX5_topic_36 ?_
          have e := so h
          subst e
          exact hQ _ _ dX5_topic_39
theorem m_X5_topic {l : Launch} {F : pfF} (hD : ∀ A, va_D (fA F) (cellsC (fAd F) (fCy F) A)) {x1 : Int32} {x2 : Int32} {x3 : Int32} {A : St} {out : Int32 × St} (h : f_X5_topic x1 x2 x3 A = some out) : Mt l F cellsC yX5_topic cX5_topic 5 (some .int) rm_X5_topic [.ref (fAd F 0), .int x1, .int x2, .int x3] A (va_Qi (fun (r : Int32) (u : St) => r = out.1 ∧ u = out.2) (Wd cellsC F) (fA F)) := by
  refine Met_i (by decide +kernel) (Nat.le_of_ble_eq_true rfl) hD (fun E el ef X hQ => ?_)
  subst el
  subst ef
  exact b_X5_topic X _ _ _ _ hQ h
theorem ok_X5_topic : OkV yX5_topic cX5_topic 5 (some .int) 3 := ⟨qw338, qw339, qw1, qw340, by decide, by decide, by decide⟩
noncomputable def f_X5_rule (x1 : Int32) (x2 : Int32) (A : St) : Option (Int32 × St) :=
  cl (f_X5_within x1 0 2) fun r1 =>
  if (bI r1) = 0 then
    cl2 (f_X5_finding 0 A) fun r4 A6 =>
    some (r4, A6)
  else
    gI x1 3 <|
    gI x1 3 <|
    cl (f_X5_within x2 (tb 3 x1.toNatClampNeg) (tb 4 x1.toNatClampNeg)) fun r9 =>
    if (bI r9) = 0 then
      cl2 (f_X5_finding 0 A) fun r16 A18 =>
      some (r16, A18)
    else
      gI x1 3 <|
      bv (A.1 17 x1.toNatClampNeg) fun v13 =>
      gI x1 3 <|
      bv (upI A 17 x1.toNatClampNeg x2) fun A15 =>
      some (v13, A15)
abbrev rm_X5_rule : Room := { frames := 1, cells := 0, slots := 0, locals := 22 }
set_option maxHeartbeats 4000000 in
set_option maxRecDepth 100000 in
theorem b_X5_rule {E : pfE} (X : CX cellsC E cX5_rule RX5 rm_X5_rule 4) (x1 : Int32) (x2 : Int32) (A : St) {out : Int32 × St} (hQ : Reti cellsC E cX5_rule out.1 out.2) (h : f_X5_rule x1 x2 A = some out) : GG cellsC E A 0 [(0, .ref (fAd (eF E) 0)), (1, .int x1), (2, .int x2)] [] := by
  unfold f_X5_rule at h
  refine G_iload_n X dX5_rule_0 rfl 1 rfl ?_
  refine G_iconst X (v := 0) dX5_rule_1 rfl ?_
  refine G_iconst X (v := 2) dX5_rule_2 rfl ?_
  obtain ⟨r1, hz2, h⟩ := cl_k h
  refine G_callS_i X (As := [.int x1, .int 0, .int 2]) (rest := []) ok_X5_within qw184 ⟨rfl, rfl, Nat.le_of_ble_eq_true rfl, Nat.le_of_ble_eq_true rfl⟩ (m_X5_within X.d hz2) rfl rfl (Nat.le_of_ble_eq_true rfl) dX5_rule_3 ?_
  refine G_ifeq X (tgt := 26) dX5_rule_6 (by decide) (fun c3 => ?_) (fun c3 => ?_)
  · have h := if_t c3 h
    refine G_aload_n X dX5_rule_26 rfl 0 rfl ?_
    refine G_iconst X (v := 0) dX5_rule_27 rfl ?_
    obtain ⟨r4, A6, hz5, h⟩ := cl2_k h
    refine G_callV_i X (As := [.int 0]) (rest := []) ok_X5_finding qw191 0 (eC0 _ _ _) rfl rfl ⟨rfl, rfl, Nat.le_of_ble_eq_true rfl, Nat.le_of_ble_eq_true rfl⟩ (m_X5_finding X.d hz5) rfl rfl (Nat.le_of_ble_eq_true rfl) dX5_rule_28 ?_
    have e := so h
    subst e
    exact hQ _ _ dX5_rule_31
  · have h := if_f c3 h
    refine G_iload_n X dX5_rule_9 rfl 2 rfl ?_
    refine G_tget X 3 (by decide) qw349 dX5_rule_10 ?_
    refine G_iload_n X dX5_rule_13 rfl 1 rfl ?_
    have hi7 := gI_n h
    have h := gI_k h
    refine G_tald X 3 (by decide) (j := x1.toNatClampNeg) rfl hi7 rfl dX5_rule_14 ?_
    refine G_tget X 4 (by decide) qw351 dX5_rule_15 ?_
    refine G_iload_n X dX5_rule_18 rfl 1 rfl ?_
    have hi8 := gI_n h
    have h := gI_k h
    refine G_tald X 4 (by decide) (j := x1.toNatClampNeg) rfl hi8 rfl dX5_rule_19 ?_
    obtain ⟨r9, hz10, h⟩ := cl_k h
    refine G_callS_i X (As := [.int x2, .int (tb 3 x1.toNatClampNeg), .int (tb 4 x1.toNatClampNeg)]) (rest := []) ok_X5_within qw184 ⟨rfl, rfl, Nat.le_of_ble_eq_true rfl, Nat.le_of_ble_eq_true rfl⟩ (m_X5_within X.d hz10) rfl rfl (Nat.le_of_ble_eq_true rfl) dX5_rule_20 ?_
    refine G_ifne X (tgt := 32) dX5_rule_23 (by decide) (fun c11 => ?_) (fun c11 => ?_)
    · have h := if_t c11 h
      refine G_aload_n X dX5_rule_26 rfl 0 rfl ?_
      refine G_iconst X (v := 0) dX5_rule_27 rfl ?_
      obtain ⟨r16, A18, hz17, h⟩ := cl2_k h
      refine G_callV_i X (As := [.int 0]) (rest := []) ok_X5_finding qw191 0 (eC0 _ _ _) rfl rfl ⟨rfl, rfl, Nat.le_of_ble_eq_true rfl, Nat.le_of_ble_eq_true rfl⟩ (m_X5_finding X.d hz17) rfl rfl (Nat.le_of_ble_eq_true rfl) dX5_rule_28 ?_
      have e := so h
      subst e
      exact hQ _ _ dX5_rule_31
    · have h := if_f c11 h
      refine G_aload_n X dX5_rule_32 rfl 0 rfl ?_
      refine G_getf X inX5 0 (eC0 _ _ _) rfl 2 (by decide) qw157 rfl dX5_rule_33 ?_
      refine G_getf X inX0 3 (eC3 _ _ _) rfl 6 (by decide) qw55 rfl dX5_rule_36 ?_
      refine G_iload_n X dX5_rule_39 rfl 1 rfl ?_
      have hi12 := gI_n h
      have h := gI_k h
      refine G_iald X (j := x1.toNatClampNeg) 17 (eC17 _ _ _) hi12 rfl dX5_rule_40 ?_
      refine G_topi (fun v13 ev13 => ?_)
      have h := bv_k ev13 h
      refine G_istore_n X (lv2 := [(3, .int v13), (0, .ref (fAd (eF E) 0)), (1, .int x1), (2, .int x2)]) dX5_rule_41 rfl (by decide) rfl ?_
      refine G_aload_n X dX5_rule_42 rfl 1 rfl ?_
      refine G_getf X inX5 0 (eC0 _ _ _) rfl 2 (by decide) qw157 rfl dX5_rule_43 ?_
      refine G_getf X inX0 3 (eC3 _ _ _) rfl 6 (by decide) qw55 rfl dX5_rule_46 ?_
      refine G_iload_n X dX5_rule_49 rfl 2 rfl ?_
      refine G_iload_n X dX5_rule_50 rfl 3 rfl ?_
      have hi14 := gI_n h
      have h := gI_k h
      refine G_iast X (j := x1.toNatClampNeg) 17 (eC17 _ _ _) (sCI _ _ _ _ x1.toNatClampNeg _ _ (fun _ => rfl)) hi14 rfl dX5_rule_51 ?_
      refine G_topS (fun A15 eA15 => ?_)
      have h := bv_k eA15 h
      refine G_iload_n X dX5_rule_52 rfl 0 rfl ?_
      have e := so h
      subst e
      exact hQ _ _ dX5_rule_53
theorem m_X5_rule {l : Launch} {F : pfF} (hD : ∀ A, va_D (fA F) (cellsC (fAd F) (fCy F) A)) {x1 : Int32} {x2 : Int32} {A : St} {out : Int32 × St} (h : f_X5_rule x1 x2 A = some out) : Mt l F cellsC yX5_rule cX5_rule 4 (some .int) rm_X5_rule [.ref (fAd F 0), .int x1, .int x2] A (va_Qi (fun (r : Int32) (u : St) => r = out.1 ∧ u = out.2) (Wd cellsC F) (fA F)) := by
  refine Met_i (by decide +kernel) (Nat.le_of_ble_eq_true rfl) hD (fun E el ef X hQ => ?_)
  subst el
  subst ef
  exact b_X5_rule X _ _ _ hQ h
theorem ok_X5_rule : OkV yX5_rule cX5_rule 4 (some .int) 2 := ⟨qw346, qw347, qw1, qw348, by decide, by decide, by decide⟩
noncomputable def f_X5_told (x1 : Int32) (A : St) : Option (Int32 × St) :=
  cl (f_X5_within x1 0 2) fun r1 =>
  if (bI r1) = 0 then
    cl (f_X5_within x1 10 13) fun r4 =>
    if (bI r4) = 0 then
      cl (f_X5_within x1 20 23) fun r7 =>
      if (bI r7) = 0 then
        cl (f_X5_within x1 30 33) fun r10 =>
        if (bI r10) = 0 then
          cl2 (f_X5_finding 0 A) fun r13 A15 =>
          some (r13, A15)
        else
          gI (x1 - 30) 4 <|
          some (A.1 14 (x1 - 30).toNatClampNeg, A)
      else
        gI (x1 - 20) 4 <|
        some (A.1 13 (x1 - 20).toNatClampNeg, A)
    else
      cl (f_X0_leastAndMost (x1 - 10) A) fun r18 =>
      some (r18, A)
  else
    gI x1 3 <|
    some (A.1 17 x1.toNatClampNeg, A)
abbrev rm_X5_told : Room := { frames := 1, cells := 0, slots := 0, locals := 22 }
set_option maxHeartbeats 4000000 in
set_option maxRecDepth 100000 in
theorem b_X5_told {E : pfE} (X : CX cellsC E cX5_told RX5 rm_X5_told 2) (x1 : Int32) (A : St) {out : Int32 × St} (hQ : Reti cellsC E cX5_told out.1 out.2) (h : f_X5_told x1 A = some out) : GG cellsC E A 0 [(0, .ref (fAd (eF E) 0)), (1, .int x1)] [] := by
  unfold f_X5_told at h
  refine G_iload_n X dX5_told_0 rfl 1 rfl ?_
  refine G_iconst X (v := 0) dX5_told_1 rfl ?_
  refine G_iconst X (v := 2) dX5_told_2 rfl ?_
  obtain ⟨r1, hz2, h⟩ := cl_k h
  refine G_callS_i X (As := [.int x1, .int 0, .int 2]) (rest := []) ok_X5_within qw184 ⟨rfl, rfl, Nat.le_of_ble_eq_true rfl, Nat.le_of_ble_eq_true rfl⟩ (m_X5_within X.d hz2) rfl rfl (Nat.le_of_ble_eq_true rfl) dX5_told_3 ?_
  refine G_ifeq X (tgt := 19) dX5_told_6 (by decide) (fun c3 => ?_) (fun c3 => ?_)
  · have h := if_t c3 h
    refine G_iload_n X dX5_told_19 rfl 1 rfl ?_
    refine G_bipush X (v := 10) dX5_told_20 rfl ?_
    refine G_bipush X (v := 13) dX5_told_22 rfl ?_
    obtain ⟨r4, hz5, h⟩ := cl_k h
    refine G_callS_i X (As := [.int x1, .int 10, .int 13]) (rest := []) ok_X5_within qw184 ⟨rfl, rfl, Nat.le_of_ble_eq_true rfl, Nat.le_of_ble_eq_true rfl⟩ (m_X5_within X.d hz5) rfl rfl (Nat.le_of_ble_eq_true rfl) dX5_told_24 ?_
    refine G_ifeq X (tgt := 42) dX5_told_27 (by decide) (fun c6 => ?_) (fun c6 => ?_)
    · have h := if_t c6 h
      refine G_iload_n X dX5_told_42 rfl 1 rfl ?_
      refine G_bipush X (v := 20) dX5_told_43 rfl ?_
      refine G_bipush X (v := 23) dX5_told_45 rfl ?_
      obtain ⟨r7, hz8, h⟩ := cl_k h
      refine G_callS_i X (As := [.int x1, .int 20, .int 23]) (rest := []) ok_X5_within qw184 ⟨rfl, rfl, Nat.le_of_ble_eq_true rfl, Nat.le_of_ble_eq_true rfl⟩ (m_X5_within X.d hz8) rfl rfl (Nat.le_of_ble_eq_true rfl) dX5_told_47 ?_
      refine G_ifeq X (tgt := 66) dX5_told_50 (by decide) (fun c9 => ?_) (fun c9 => ?_)
      · have h := if_t c9 h
        refine G_iload_n X dX5_told_66 rfl 1 rfl ?_
        refine G_bipush X (v := 30) dX5_told_67 rfl ?_
        refine G_bipush X (v := 33) dX5_told_69 rfl ?_
        obtain ⟨r10, hz11, h⟩ := cl_k h
        refine G_callS_i X (As := [.int x1, .int 30, .int 33]) (rest := []) ok_X5_within qw184 ⟨rfl, rfl, Nat.le_of_ble_eq_true rfl, Nat.le_of_ble_eq_true rfl⟩ (m_X5_within X.d hz11) rfl rfl (Nat.le_of_ble_eq_true rfl) dX5_told_71 ?_
        refine G_ifeq X (tgt := 90) dX5_told_74 (by decide) (fun c12 => ?_) (fun c12 => ?_)
        · have h := if_t c12 h
          refine G_aload_n X dX5_told_90 rfl 0 rfl ?_
          refine G_iconst X (v := 0) dX5_told_91 rfl ?_
          obtain ⟨r13, A15, hz14, h⟩ := cl2_k h
          refine G_callV_i X (As := [.int 0]) (rest := []) ok_X5_finding qw191 0 (eC0 _ _ _) rfl rfl ⟨rfl, rfl, Nat.le_of_ble_eq_true rfl, Nat.le_of_ble_eq_true rfl⟩ (m_X5_finding X.d hz14) rfl rfl (Nat.le_of_ble_eq_true rfl) dX5_told_92 ?_
          have e := so h
          subst e
          exact hQ _ _ dX5_told_95
        · have h := if_f c12 h
          refine G_aload_n X dX5_told_77 rfl 0 rfl ?_
          refine G_getf X inX5 0 (eC0 _ _ _) rfl 2 (by decide) qw157 rfl dX5_told_78 ?_
          refine G_getf X inX0 3 (eC3 _ _ _) rfl 3 (by decide) qw46 rfl dX5_told_81 ?_
          refine G_iload_n X dX5_told_84 rfl 1 rfl ?_
          refine G_bipush X (v := 30) dX5_told_85 rfl ?_
          refine G_isub X dX5_told_87 ?_
          have hi16 := gI_n h
          have h := gI_k h
          refine G_iald X (j := (x1 - 30).toNatClampNeg) 14 (eC14 _ _ _) hi16 rfl dX5_told_88 ?_
          have e := so h
          subst e
          exact hQ _ _ dX5_told_89
      · have h := if_f c9 h
        refine G_aload_n X dX5_told_53 rfl 0 rfl ?_
        refine G_getf X inX5 0 (eC0 _ _ _) rfl 2 (by decide) qw157 rfl dX5_told_54 ?_
        refine G_getf X inX0 3 (eC3 _ _ _) rfl 2 (by decide) qw43 rfl dX5_told_57 ?_
        refine G_iload_n X dX5_told_60 rfl 1 rfl ?_
        refine G_bipush X (v := 20) dX5_told_61 rfl ?_
        refine G_isub X dX5_told_63 ?_
        have hi17 := gI_n h
        have h := gI_k h
        refine G_iald X (j := (x1 - 20).toNatClampNeg) 13 (eC13 _ _ _) hi17 rfl dX5_told_64 ?_
        have e := so h
        subst e
        exact hQ _ _ dX5_told_65
    · have h := if_f c6 h
      refine G_aload_n X dX5_told_30 rfl 0 rfl ?_
      refine G_getf X inX5 0 (eC0 _ _ _) rfl 2 (by decide) qw157 rfl dX5_told_31 ?_
      refine G_iload_n X dX5_told_34 rfl 1 rfl ?_
      refine G_bipush X (v := 10) dX5_told_35 rfl ?_
      refine G_isub X dX5_told_37 ?_
      obtain ⟨r18, hz19, h⟩ := cl_k h
      refine G_callV_i X (As := [.int (x1 - 10)]) (rest := []) ok_X0_leastAndMost qw341 3 (eC3 _ _ _) rfl rfl ⟨rfl, rfl, Nat.le_of_ble_eq_true rfl, Nat.le_of_ble_eq_true rfl⟩ (m_X0_leastAndMost X.d hz19) rfl rfl (Nat.le_of_ble_eq_true rfl) dX5_told_38 ?_
      have e := so h
      subst e
      exact hQ _ _ dX5_told_41
  · have h := if_f c3 h
    refine G_aload_n X dX5_told_9 rfl 0 rfl ?_
    refine G_getf X inX5 0 (eC0 _ _ _) rfl 2 (by decide) qw157 rfl dX5_told_10 ?_
    refine G_getf X inX0 3 (eC3 _ _ _) rfl 6 (by decide) qw55 rfl dX5_told_13 ?_
    refine G_iload_n X dX5_told_16 rfl 1 rfl ?_
    have hi20 := gI_n h
    have h := gI_k h
    refine G_iald X (j := x1.toNatClampNeg) 17 (eC17 _ _ _) hi20 rfl dX5_told_17 ?_
    have e := so h
    subst e
    exact hQ _ _ dX5_told_18
theorem m_X5_told {l : Launch} {F : pfF} (hD : ∀ A, va_D (fA F) (cellsC (fAd F) (fCy F) A)) {x1 : Int32} {A : St} {out : Int32 × St} (h : f_X5_told x1 A = some out) : Mt l F cellsC yX5_told cX5_told 2 (some .int) rm_X5_told [.ref (fAd F 0), .int x1] A (va_Qi (fun (r : Int32) (u : St) => r = out.1 ∧ u = out.2) (Wd cellsC F) (fA F)) := by
  refine Met_i (by decide +kernel) (Nat.le_of_ble_eq_true rfl) hD (fun E el ef X hQ => ?_)
  subst el
  subst ef
  exact b_X5_told X _ _ hQ h
theorem ok_X5_told : OkV yX5_told cX5_told 2 (some .int) 1 := ⟨qw354, qw355, qw1, qw356, by decide, by decide, by decide⟩
noncomputable def f_X0_itemsWith_L5 (A : St) (l1 : Int32) (l2 : Int32) (l3 : Int32) (l4 : Int32) : Option ((Int32 × Int32) ⊕ (Int32)) :=
  if (A.1 3 0) ≤ l4 then
    some (.inr l3)
  else
    gI l1 8 <|
    gI l4 12 <|
    if (A.1 (5 + l1.toNatClampNeg) l4.toNatClampNeg) = l2 then
      bv (l3 ||| ((1 : Int32) <<< (l4 &&& 31))) fun v7 =>
      bv (l4 + 1) fun v8 =>
      some (.inl (v7, v8))
    else
      bv (l4 + 1) fun v6 =>
      some (.inl (l3, v6))
noncomputable def f_X0_itemsWith_X40 (A : St) (m3 : Int32) : Option (Int32) :=
  some m3
noncomputable def f_X0_itemsWith (x1 : Int32) (x2 : Int32) (A : St) : Option (Int32) :=
  cl (loop (fun s => f_X0_itemsWith_L5 A x1 x2 s.1 s.2) (0, 0)) (fun s => f_X0_itemsWith_X40 A s)
abbrev rm_X0_itemsWith : Room := { frames := 0, cells := 0, slots := 0, locals := 0 }
set_option maxHeartbeats 4000000 in
set_option maxRecDepth 100000 in
theorem g_X0_itemsWith_L5 {E : pfE} (X : CX cellsC E cX0_itemsWith RX0 rm_X0_itemsWith 5) (A : St) (l1 : Int32) (l2 : Int32) : ∀ (n : Nat) (l3 : Int32) (l4 : Int32) (ρ : Int32), lp (fun s => f_X0_itemsWith_L5 A l1 l2 s.1 s.2) n (l3, l4) = some ρ → (∀ (q3 : Int32), ρ = q3 → GG cellsC E A 40 [(3, .int q3)] []) → GG cellsC E A 5 [(0, .ref (fAd (eF E) 3)), (1, .int l1), (2, .int l2), (3, .int l3), (4, .int l4)] [] := by
  intro n
  induction n with
  | zero =>
    intro l3 l4 ρ h
    cases h
  | succ n ih =>
    intro l3 l4 ρ h0 K
    obtain ⟨x, hb, hx⟩ := lp_step h0
    have h : f_X0_itemsWith_L5 A l1 l2 l3 l4 = some x := hb
    unfold f_X0_itemsWith_L5 at h
    clear hb h0
    refine G_iload X dX0_itemsWith_5 4 rfl ?_
    refine G_aload_n X dX0_itemsWith_7 rfl 0 rfl ?_
    refine G_getf X inX0 3 (eC3 _ _ _) rfl 0 (by decide) qw35 rfl dX0_itemsWith_8 ?_
    refine G_icge X (tgt := 40) dX0_itemsWith_11 (by decide) (fun c1 => ?_) (fun c1 => ?_)
    · have h := if_t c1 h
      exact G_sub [3] rfl (K _ (lpr (so h) hx).symm)
    · have h := if_f c1 h
      refine G_aload_n X dX0_itemsWith_14 rfl 0 rfl ?_
      refine G_getf X inX0 3 (eC3 _ _ _) rfl 1 (by decide) qw38 rfl dX0_itemsWith_15 ?_
      refine G_iload_n X dX0_itemsWith_18 rfl 1 rfl ?_
      have hi2 := gI_n h
      have h := gI_k h
      have hw3 := vlt hi2
      refine G_aald X (t0 := 3) (b := fAd (eF E) (5 + l1.toNatClampNeg)) 4 (eC4 _ _ _) rfl rfl hi2 (if_pos hw3) dX0_itemsWith_19 ?_
      refine G_iload X dX0_itemsWith_20 4 rfl ?_
      have hi4 := gI_n h
      have h := gI_k h
      refine G_iald X (j := l4.toNatClampNeg) (5 + l1.toNatClampNeg) (eCf5 _ _ _ _ hw3) hi4 rfl dX0_itemsWith_22 ?_
      refine G_iload_n X dX0_itemsWith_23 rfl 2 rfl ?_
      refine G_icne X (tgt := 34) dX0_itemsWith_24 (by decide) (fun c5 => ?_) (fun c5 => ?_)
      · have h := if_t c5 h
        refine G_iload_n X dX0_itemsWith_27 rfl 3 rfl ?_
        refine G_iconst X (v := 1) dX0_itemsWith_28 rfl ?_
        refine G_iload X dX0_itemsWith_29 4 rfl ?_
        refine G_ishl X dX0_itemsWith_31 ?_
        refine G_ior X dX0_itemsWith_32 ?_
        refine G_topi (fun v7 ev7 => ?_)
        have h := bv_k ev7 h
        refine G_istore_n X (lv2 := [(3, .int v7), (0, .ref (fAd (eF E) 3)), (1, .int l1), (2, .int l2), (4, .int l4)]) dX0_itemsWith_33 rfl (by decide) rfl ?_
        obtain ⟨v8, ev8⟩ : ∃ y : Int32, y = l4 + 1 := ⟨_, rfl⟩
        have h := bv_k ev8 h
        refine G_iinc X (q := 4) (v := v8) (lv2 := [(4, .int v8), (3, .int v7), (0, .ref (fAd (eF E) 3)), (1, .int l1), (2, .int l2)]) dX0_itemsWith_34 rfl (by rw [ev8]; rfl) (by decide) rfl ?_
        refine G_goto X (tgt := 5) dX0_itemsWith_37 (by decide) ?_
        exact G_sub [2, 3, 4, 1, 0] rfl (ih _ _ _ (lpl (so h) hx) K)
      · have h := if_f c5 h
        obtain ⟨v6, ev6⟩ : ∃ y : Int32, y = l4 + 1 := ⟨_, rfl⟩
        have h := bv_k ev6 h
        refine G_iinc X (q := 4) (v := v6) (lv2 := [(4, .int v6), (0, .ref (fAd (eF E) 3)), (1, .int l1), (2, .int l2), (3, .int l3)]) dX0_itemsWith_34 rfl (by rw [ev6]; rfl) (by decide) rfl ?_
        refine G_goto X (tgt := 5) dX0_itemsWith_37 (by decide) ?_
        exact G_sub [1, 2, 3, 4, 0] rfl (ih _ _ _ (lpl (so h) hx) K)
set_option maxHeartbeats 4000000 in
set_option maxRecDepth 100000 in
theorem b_X0_itemsWith {E : pfE} (X : CX cellsC E cX0_itemsWith RX0 rm_X0_itemsWith 5) (x1 : Int32) (x2 : Int32) (A : St) {out : Int32} (hQ : Reti cellsC E cX0_itemsWith out A) (h : f_X0_itemsWith x1 x2 A = some out) : GG cellsC E A 0 [(0, .ref (fAd (eF E) 3)), (1, .int x1), (2, .int x2)] [] := by
  unfold f_X0_itemsWith at h
  refine G_iconst X (v := 0) dX0_itemsWith_0 rfl ?_
  refine G_istore_n X (lv2 := [(3, .int 0), (0, .ref (fAd (eF E) 3)), (1, .int x1), (2, .int x2)]) dX0_itemsWith_1 rfl (by decide) rfl ?_
  refine G_iconst X (v := 0) dX0_itemsWith_2 rfl ?_
  refine G_istore X (lv2 := [(4, .int 0), (3, .int 0), (0, .ref (fAd (eF E) 3)), (1, .int x1), (2, .int x2)]) dX0_itemsWith_3 (by decide) rfl ?_
  obtain ⟨ρ, hl, h⟩ := cl_k h
  obtain ⟨n, hl⟩ := loop_some hl
  refine G_sub [2, 3, 4, 1, 0] rfl (g_X0_itemsWith_L5 X A x1 x2 n _ _ ρ hl ?_)
  intro v9 e
  rw [e] at h
  have h : f_X0_itemsWith_X40 A v9 = some _ := h
  unfold f_X0_itemsWith_X40 at h
  refine G_iload_n X dX0_itemsWith_40 rfl 0 rfl ?_
  have e := so h
  subst e
  exact hQ _ _ dX0_itemsWith_41
theorem m_X0_itemsWith {l : Launch} {F : pfF} (hD : ∀ A, va_D (fA F) (cellsC (fAd F) (fCy F) A)) {x1 : Int32} {x2 : Int32} {A : St} {out : Int32} (h : f_X0_itemsWith x1 x2 A = some out) : Mt l F cellsC yX0_itemsWith cX0_itemsWith 5 (some .int) rm_X0_itemsWith [.ref (fAd F 3), .int x1, .int x2] A (va_Qi (fun (r : Int32) (u : St) => r = out ∧ u = A) (Wd cellsC F) (fA F)) := by
  refine Met_i (by decide +kernel) (Nat.le_of_ble_eq_true rfl) hD (fun E el ef X hQ => ?_)
  subst el
  subst ef
  exact b_X0_itemsWith X _ _ _ hQ h
theorem ok_X0_itemsWith : OkV yX0_itemsWith cX0_itemsWith 5 (some .int) 2 := ⟨qw366, qw367, qw3, qw368, by decide, by decide, by decide⟩
noncomputable def f_X0_wornItems_L4 (A : St) (l1 : Int32) (l2 : Int32) : Option ((Int32 × Int32) ⊕ (Int32)) :=
  if (A.1 3 0) ≤ l2 then
    some (.inr l1)
  else
    gI l2 12 <|
    if (A.1 11 l2.toNatClampNeg) < (A.1 17 2) then
      bv (l2 + 1) fun v4 =>
      some (.inl (l1, v4))
    else
      bv (l1 ||| ((1 : Int32) <<< (l2 &&& 31))) fun v5 =>
      bv (l2 + 1) fun v6 =>
      some (.inl (v5, v6))
noncomputable def f_X0_wornItems_X42 (A : St) (m1 : Int32) : Option (Int32) :=
  some m1
noncomputable def f_X0_wornItems (A : St) : Option (Int32) :=
  cl (loop (fun s => f_X0_wornItems_L4 A s.1 s.2) (0, 0)) (fun s => f_X0_wornItems_X42 A s)
abbrev rm_X0_wornItems : Room := { frames := 0, cells := 0, slots := 0, locals := 0 }
set_option maxHeartbeats 4000000 in
set_option maxRecDepth 100000 in
theorem g_X0_wornItems_L4 {E : pfE} (X : CX cellsC E cX0_wornItems RX0 rm_X0_wornItems 3) (A : St) : ∀ (n : Nat) (l1 : Int32) (l2 : Int32) (ρ : Int32), lp (fun s => f_X0_wornItems_L4 A s.1 s.2) n (l1, l2) = some ρ → (∀ (q1 : Int32), ρ = q1 → GG cellsC E A 42 [(1, .int q1)] []) → GG cellsC E A 4 [(0, .ref (fAd (eF E) 3)), (1, .int l1), (2, .int l2)] [] := by
  intro n
  induction n with
  | zero =>
    intro l1 l2 ρ h
    cases h
  | succ n ih =>
    intro l1 l2 ρ h0 K
    obtain ⟨x, hb, hx⟩ := lp_step h0
    have h : f_X0_wornItems_L4 A l1 l2 = some x := hb
    unfold f_X0_wornItems_L4 at h
    clear hb h0
    refine G_iload_n X dX0_wornItems_4 rfl 2 rfl ?_
    refine G_aload_n X dX0_wornItems_5 rfl 0 rfl ?_
    refine G_getf X inX0 3 (eC3 _ _ _) rfl 0 (by decide) qw35 rfl dX0_wornItems_6 ?_
    refine G_icge X (tgt := 42) dX0_wornItems_9 (by decide) (fun c1 => ?_) (fun c1 => ?_)
    · have h := if_t c1 h
      exact G_sub [1] rfl (K _ (lpr (so h) hx).symm)
    · have h := if_f c1 h
      refine G_aload_n X dX0_wornItems_12 rfl 0 rfl ?_
      refine G_getf X inX0 3 (eC3 _ _ _) rfl 1 (by decide) qw38 rfl dX0_wornItems_13 ?_
      refine G_bipush X (v := 6) dX0_wornItems_16 rfl ?_
      refine G_aald X (t0 := 3) (b := fAd (eF E) 11) 4 (eC4 _ _ _) rfl rfl (vi rfl) rfl dX0_wornItems_18 ?_
      refine G_iload_n X dX0_wornItems_19 rfl 2 rfl ?_
      have hi2 := gI_n h
      have h := gI_k h
      refine G_iald X (j := l2.toNatClampNeg) 11 (eC11 _ _ _) hi2 rfl dX0_wornItems_20 ?_
      refine G_aload_n X dX0_wornItems_21 rfl 0 rfl ?_
      refine G_getf X inX0 3 (eC3 _ _ _) rfl 6 (by decide) qw53 rfl dX0_wornItems_22 ?_
      refine G_iconst X (v := 2) dX0_wornItems_25 rfl ?_
      refine G_iald X (j := 2) 17 (eC17 _ _ _) (vi rfl) rfl dX0_wornItems_26 ?_
      refine G_iclt X (tgt := 36) dX0_wornItems_27 (by decide) (fun c3 => ?_) (fun c3 => ?_)
      · have h := if_t c3 h
        obtain ⟨v4, ev4⟩ : ∃ y : Int32, y = l2 + 1 := ⟨_, rfl⟩
        have h := bv_k ev4 h
        refine G_iinc X (q := 2) (v := v4) (lv2 := [(2, .int v4), (0, .ref (fAd (eF E) 3)), (1, .int l1)]) dX0_wornItems_36 rfl (by rw [ev4]; rfl) (by decide) rfl ?_
        refine G_goto X (tgt := 4) dX0_wornItems_39 (by decide) ?_
        exact G_sub [1, 2, 0] rfl (ih _ _ _ (lpl (so h) hx) K)
      · have h := if_f c3 h
        refine G_iload_n X dX0_wornItems_30 rfl 1 rfl ?_
        refine G_iconst X (v := 1) dX0_wornItems_31 rfl ?_
        refine G_iload_n X dX0_wornItems_32 rfl 2 rfl ?_
        refine G_ishl X dX0_wornItems_33 ?_
        refine G_ior X dX0_wornItems_34 ?_
        refine G_topi (fun v5 ev5 => ?_)
        have h := bv_k ev5 h
        refine G_istore_n X (lv2 := [(1, .int v5), (0, .ref (fAd (eF E) 3)), (2, .int l2)]) dX0_wornItems_35 rfl (by decide) rfl ?_
        obtain ⟨v6, ev6⟩ : ∃ y : Int32, y = l2 + 1 := ⟨_, rfl⟩
        have h := bv_k ev6 h
        refine G_iinc X (q := 2) (v := v6) (lv2 := [(2, .int v6), (1, .int v5), (0, .ref (fAd (eF E) 3))]) dX0_wornItems_36 rfl (by rw [ev6]; rfl) (by decide) rfl ?_
        refine G_goto X (tgt := 4) dX0_wornItems_39 (by decide) ?_
        exact G_sub [2, 1, 0] rfl (ih _ _ _ (lpl (so h) hx) K)
set_option maxHeartbeats 4000000 in
set_option maxRecDepth 100000 in
theorem b_X0_wornItems {E : pfE} (X : CX cellsC E cX0_wornItems RX0 rm_X0_wornItems 3) (A : St) {out : Int32} (hQ : Reti cellsC E cX0_wornItems out A) (h : f_X0_wornItems A = some out) : GG cellsC E A 0 [(0, .ref (fAd (eF E) 3))] [] := by
  unfold f_X0_wornItems at h
  refine G_iconst X (v := 0) dX0_wornItems_0 rfl ?_
  refine G_istore_n X (lv2 := [(1, .int 0), (0, .ref (fAd (eF E) 3))]) dX0_wornItems_1 rfl (by decide) rfl ?_
  refine G_iconst X (v := 0) dX0_wornItems_2 rfl ?_
  refine G_istore_n X (lv2 := [(2, .int 0), (1, .int 0), (0, .ref (fAd (eF E) 3))]) dX0_wornItems_3 rfl (by decide) rfl ?_
  obtain ⟨ρ, hl, h⟩ := cl_k h
  obtain ⟨n, hl⟩ := loop_some hl
  refine G_sub [2, 1, 0] rfl (g_X0_wornItems_L4 X A n _ _ ρ hl ?_)
  intro v7 e
  rw [e] at h
  have h : f_X0_wornItems_X42 A v7 = some _ := h
  unfold f_X0_wornItems_X42 at h
  refine G_iload_n X dX0_wornItems_42 rfl 0 rfl ?_
  have e := so h
  subst e
  exact hQ _ _ dX0_wornItems_43
theorem m_X0_wornItems {l : Launch} {F : pfF} (hD : ∀ A, va_D (fA F) (cellsC (fAd F) (fCy F) A)) {A : St} {out : Int32} (h : f_X0_wornItems A = some out) : Mt l F cellsC yX0_wornItems cX0_wornItems 3 (some .int) rm_X0_wornItems [.ref (fAd F 3)] A (va_Qi (fun (r : Int32) (u : St) => r = out ∧ u = A) (Wd cellsC F) (fA F)) := by
  refine Met_i (by decide +kernel) (Nat.le_of_ble_eq_true rfl) hD (fun E el ef X hQ => ?_)
  subst el
  subst ef
  exact b_X0_wornItems X _ hQ h
theorem ok_X0_wornItems : OkV yX0_wornItems cX0_wornItems 3 (some .int) 0 := ⟨qw370, qw371, qw3, qw372, by decide, by decide, by decide⟩
noncomputable def f_X1_readRules_L2 (l1 : Int32) (A : St) : Option ((Int32 × St) ⊕ (St)) :=
  if 4 ≤ l1 then
    some (.inr A)
  else
    cl (f_X0_itemsWith 1 l1 A) fun r2 =>
    gI l1 4 <|
    bv (upI A 33 l1.toNatClampNeg r2) fun A5 =>
    bv (l1 + 1) fun v6 =>
    some (.inl (v6, A5))
noncomputable def f_X1_readRules_L30 (l1 : Int32) (A : St) : Option ((Int32 × St) ⊕ (St)) :=
  if 4 ≤ l1 then
    some (.inr A)
  else
    cl (f_X0_itemsWith 5 l1 A) fun r9 =>
    gI l1 4 <|
    bv (upI A 34 l1.toNatClampNeg r9) fun A12 =>
    bv (l1 + 1) fun v13 =>
    some (.inl (v13, A12))
noncomputable def f_X1_readRules_X56 (A : St) : Option (St) :=
  cl (f_X0_wornItems A) fun r18 =>
  bv (upI A 2 5 r18) fun A20 =>
  some A20
noncomputable def f_X1_readRules_X28 (A : St) : Option (St) :=
  cl (loop (fun s => f_X1_readRules_L30 s.1 s.2) (0, A)) (fun s => f_X1_readRules_X56 s)
noncomputable def f_X1_readRules (A : St) : Option (St) :=
  cl (loop (fun s => f_X1_readRules_L2 s.1 s.2) (0, A)) (fun s => f_X1_readRules_X28 s)
abbrev rm_X1_readRules : Room := { frames := 1, cells := 0, slots := 0, locals := 24 }
set_option maxHeartbeats 4000000 in
set_option maxRecDepth 100000 in
theorem g_X1_readRules_L2 {E : pfE} (X : CX cellsC E cX1_readRules RX1 rm_X1_readRules 2) : ∀ (n : Nat) (l1 : Int32) (A : St) (ρ : St), lp (fun s => f_X1_readRules_L2 s.1 s.2) n (l1, A) = some ρ → (∀ (B : St), ρ = B → GG cellsC E B 28 [(0, .ref (fAd (eF E) 2))] []) → GG cellsC E A 2 [(0, .ref (fAd (eF E) 2)), (1, .int l1)] [] := by
  intro n
  induction n with
  | zero =>
    intro l1 A ρ h
    cases h
  | succ n ih =>
    intro l1 A ρ h0 K
    obtain ⟨x, hb, hx⟩ := lp_step h0
    have h : f_X1_readRules_L2 l1 A = some x := hb
    unfold f_X1_readRules_L2 at h
    clear hb h0
    refine G_iload_n X dX1_readRules_2 rfl 1 rfl ?_
    refine G_iconst X (v := 4) dX1_readRules_3 rfl ?_
    refine G_icge X (tgt := 28) dX1_readRules_4 (by decide) (fun c1 => ?_) (fun c1 => ?_)
    · have h := if_t c1 h
      exact G_sub [0] rfl (K _ (lpr (so h) hx).symm)
    · have h := if_f c1 h
      refine G_aload_n X dX1_readRules_7 rfl 0 rfl ?_
      refine G_getf X inX1 2 (eC2 _ _ _) rfl 3 (by decide) qw84 rfl dX1_readRules_8 ?_
      refine G_iload_n X dX1_readRules_11 rfl 1 rfl ?_
      refine G_aload_n X dX1_readRules_12 rfl 0 rfl ?_
      refine G_getf X inX1 2 (eC2 _ _ _) rfl 0 (by decide) qw78 rfl dX1_readRules_13 ?_
      refine G_iconst X (v := 1) dX1_readRules_16 rfl ?_
      refine G_iload_n X dX1_readRules_17 rfl 1 rfl ?_
      obtain ⟨r2, hz3, h⟩ := cl_k h
      refine G_callV_i X (As := [.int 1, .int l1]) (rest := [.int l1, .ref (fAd (eF E) 33)]) ok_X0_itemsWith qw365 3 (eC3 _ _ _) rfl rfl ⟨rfl, rfl, Nat.le_of_ble_eq_true rfl, Nat.le_of_ble_eq_true rfl⟩ (m_X0_itemsWith X.d hz3) rfl rfl (Nat.le_of_ble_eq_true rfl) dX1_readRules_18 ?_
      have hi4 := gI_n h
      have h := gI_k h
      refine G_iast X (j := l1.toNatClampNeg) 33 (eC33 _ _ _) (sCI _ _ _ _ l1.toNatClampNeg _ _ (fun _ => rfl)) hi4 rfl dX1_readRules_21 ?_
      refine G_topS (fun A5 eA5 => ?_)
      have h := bv_k eA5 h
      obtain ⟨v6, ev6⟩ : ∃ y : Int32, y = l1 + 1 := ⟨_, rfl⟩
      have h := bv_k ev6 h
      refine G_iinc X (q := 1) (v := v6) (lv2 := [(1, .int v6), (0, .ref (fAd (eF E) 2))]) dX1_readRules_22 rfl (by rw [ev6]; rfl) (by decide) rfl ?_
      refine G_goto X (tgt := 2) dX1_readRules_25 (by decide) ?_
      exact G_sub [1, 0] rfl (ih _ _ _ (lpl (so h) hx) K)
set_option maxHeartbeats 4000000 in
set_option maxRecDepth 100000 in
theorem g_X1_readRules_L30 {E : pfE} (X : CX cellsC E cX1_readRules RX1 rm_X1_readRules 2) : ∀ (n : Nat) (l1 : Int32) (A : St) (ρ : St), lp (fun s => f_X1_readRules_L30 s.1 s.2) n (l1, A) = some ρ → (∀ (B : St), ρ = B → GG cellsC E B 56 [(0, .ref (fAd (eF E) 2))] []) → GG cellsC E A 30 [(0, .ref (fAd (eF E) 2)), (1, .int l1)] [] := by
  intro n
  induction n with
  | zero =>
    intro l1 A ρ h
    cases h
  | succ n ih =>
    intro l1 A ρ h0 K
    obtain ⟨x, hb, hx⟩ := lp_step h0
    have h : f_X1_readRules_L30 l1 A = some x := hb
    unfold f_X1_readRules_L30 at h
    clear hb h0
    refine G_iload_n X dX1_readRules_30 rfl 1 rfl ?_
    refine G_iconst X (v := 4) dX1_readRules_31 rfl ?_
    refine G_icge X (tgt := 56) dX1_readRules_32 (by decide) (fun c8 => ?_) (fun c8 => ?_)
    · have h := if_t c8 h
      exact G_sub [0] rfl (K _ (lpr (so h) hx).symm)
    · have h := if_f c8 h
      refine G_aload_n X dX1_readRules_35 rfl 0 rfl ?_
      refine G_getf X inX1 2 (eC2 _ _ _) rfl 4 (by decide) qw85 rfl dX1_readRules_36 ?_
      refine G_iload_n X dX1_readRules_39 rfl 1 rfl ?_
      refine G_aload_n X dX1_readRules_40 rfl 0 rfl ?_
      refine G_getf X inX1 2 (eC2 _ _ _) rfl 0 (by decide) qw78 rfl dX1_readRules_41 ?_
      refine G_iconst X (v := 5) dX1_readRules_44 rfl ?_
      refine G_iload_n X dX1_readRules_45 rfl 1 rfl ?_
      obtain ⟨r9, hz10, h⟩ := cl_k h
      refine G_callV_i X (As := [.int 5, .int l1]) (rest := [.int l1, .ref (fAd (eF E) 34)]) ok_X0_itemsWith qw365 3 (eC3 _ _ _) rfl rfl ⟨rfl, rfl, Nat.le_of_ble_eq_true rfl, Nat.le_of_ble_eq_true rfl⟩ (m_X0_itemsWith X.d hz10) rfl rfl (Nat.le_of_ble_eq_true rfl) dX1_readRules_46 ?_
      have hi11 := gI_n h
      have h := gI_k h
      refine G_iast X (j := l1.toNatClampNeg) 34 (eC34 _ _ _) (sCI _ _ _ _ l1.toNatClampNeg _ _ (fun _ => rfl)) hi11 rfl dX1_readRules_49 ?_
      refine G_topS (fun A12 eA12 => ?_)
      have h := bv_k eA12 h
      obtain ⟨v13, ev13⟩ : ∃ y : Int32, y = l1 + 1 := ⟨_, rfl⟩
      have h := bv_k ev13 h
      refine G_iinc X (q := 1) (v := v13) (lv2 := [(1, .int v13), (0, .ref (fAd (eF E) 2))]) dX1_readRules_50 rfl (by rw [ev13]; rfl) (by decide) rfl ?_
      refine G_goto X (tgt := 30) dX1_readRules_53 (by decide) ?_
      exact G_sub [1, 0] rfl (ih _ _ _ (lpl (so h) hx) K)
set_option maxHeartbeats 4000000 in
set_option maxRecDepth 100000 in
theorem b_X1_readRules {E : pfE} (X : CX cellsC E cX1_readRules RX1 rm_X1_readRules 2) (A : St) {out : St} (hQ : Retv cellsC E cX1_readRules out) (h : f_X1_readRules A = some out) : GG cellsC E A 0 [(0, .ref (fAd (eF E) 2))] [] := by
  unfold f_X1_readRules at h
  refine G_iconst X (v := 0) dX1_readRules_0 rfl ?_
  refine G_istore_n X (lv2 := [(1, .int 0), (0, .ref (fAd (eF E) 2))]) dX1_readRules_1 rfl (by decide) rfl ?_
  obtain ⟨ρ, hl, h⟩ := cl_k h
  obtain ⟨n, hl⟩ := loop_some hl
  refine G_sub [1, 0] rfl (g_X1_readRules_L2 X n _ _ ρ hl ?_)
  intro A7 e
  rw [e] at h
  have h : f_X1_readRules_X28 A7 = some _ := h
  unfold f_X1_readRules_X28 at h
  refine G_iconst X (v := 0) dX1_readRules_28 rfl ?_
  refine G_istore_n X (lv2 := [(1, .int 0), (0, .ref (fAd (eF E) 2))]) dX1_readRules_29 rfl (by decide) rfl ?_
  obtain ⟨ρ, hl, h⟩ := cl_k h
  obtain ⟨n, hl⟩ := loop_some hl
  refine G_sub [1, 0] rfl (g_X1_readRules_L30 X n _ _ ρ hl ?_)
  intro A14 e
  rw [e] at h
  have h : f_X1_readRules_X56 A14 = some _ := h
  unfold f_X1_readRules_X56 at h
  refine G_aload_n X dX1_readRules_56 rfl 0 rfl ?_
  refine G_aload_n X dX1_readRules_57 rfl 0 rfl ?_
  refine G_getf X inX1 2 (eC2 _ _ _) rfl 0 (by decide) qw78 rfl dX1_readRules_58 ?_
  obtain ⟨r15, hz16, h⟩ := cl_k h
  refine G_callV_i X (As := []) (rest := [.ref (fAd (eF E) 2)]) ok_X0_wornItems qw369 3 (eC3 _ _ _) rfl rfl ⟨rfl, rfl, Nat.le_of_ble_eq_true rfl, Nat.le_of_ble_eq_true rfl⟩ (m_X0_wornItems X.d hz16) rfl rfl (Nat.le_of_ble_eq_true rfl) dX1_readRules_61 ?_
  refine G_putf X (ty := .int) tyX1 tyX1_ok nmX1 inX1 2 (eC2 _ _ _) rfl 5 (by decide) qw86 rfl (by decide +kernel) rfl rfl (Nat.le_of_ble_eq_true rfl) (oCI _ _ _ _ 5 r15 _ rfl) dX1_readRules_64 ?_
  refine G_topS (fun A17 eA17 => ?_)
  have h := bv_k eA17 h
  have e := so h
  subst e
  exact hQ _ _ dX1_readRules_67
theorem m_X1_readRules {l : Launch} {F : pfF} (hD : ∀ A, va_D (fA F) (cellsC (fAd F) (fCy F) A)) {A : St} {out : St} (h : f_X1_readRules A = some out) : Mt l F cellsC yX1_readRules cX1_readRules 2 none rm_X1_readRules [.ref (fAd F 2)] A (va_Qv (fun (u : St) => u = out) (Wd cellsC F) (fA F)) := by
  refine Met_v (by decide +kernel) (Nat.le_of_ble_eq_true rfl) hD (fun E el ef X hQ => ?_)
  subst el
  subst ef
  exact b_X1_readRules X _ hQ h
theorem ok_X1_readRules : OkV yX1_readRules cX1_readRules 2 none 0 := ⟨qw362, qw363, qw2, qw364, by decide, by decide, by decide⟩
noncomputable def f_J6_bitCount_0f7a4 (x0 : Int32) : Option (Int32) :=
  bv (x0 - (((x0.toUInt32 >>> ((1 : Int32).toUInt32 &&& Int32.toUInt32 31)).toInt32) &&& 1431655765)) fun v1 =>
  bv ((v1 &&& 858993459) + (((v1.toUInt32 >>> ((2 : Int32).toUInt32 &&& Int32.toUInt32 31)).toInt32) &&& 858993459)) fun v2 =>
  bv ((v2 + ((v2.toUInt32 >>> ((4 : Int32).toUInt32 &&& Int32.toUInt32 31)).toInt32)) &&& 252645135) fun v3 =>
  bv (v3 + ((v3.toUInt32 >>> ((8 : Int32).toUInt32 &&& Int32.toUInt32 31)).toInt32)) fun v4 =>
  bv (v4 + ((v4.toUInt32 >>> ((16 : Int32).toUInt32 &&& Int32.toUInt32 31)).toInt32)) fun v5 =>
  some (v5 &&& 63)
abbrev rm_J6_bitCount_0f7a4 : Room := { frames := 0, cells := 0, slots := 0, locals := 0 }
set_option maxHeartbeats 4000000 in
set_option maxRecDepth 100000 in
theorem b_J6_bitCount_0f7a4 {wl : pfW} {E : pfE} (X : CX wl E cJ6_bitCount_0f7a4 RJ6 rm_J6_bitCount_0f7a4 1) (x0 : Int32) {A : St} {out : Int32} (hQ : Reti wl E cJ6_bitCount_0f7a4 out A) (h : f_J6_bitCount_0f7a4 x0 = some out) : GG wl E A 0 [(0, .int x0)] [] := by
  unfold f_J6_bitCount_0f7a4 at h
  refine G_iload_n X dJ6_bitCount_0f7a4_0 rfl 0 rfl ?_
  refine G_iload_n X dJ6_bitCount_0f7a4_1 rfl 0 rfl ?_
  refine G_iconst X (v := 1) dJ6_bitCount_0f7a4_2 rfl ?_
  refine G_iushr X dJ6_bitCount_0f7a4_3 rfl ?_
  refine G_ldcw X (v := 1431655765) qw384 dJ6_bitCount_0f7a4_4 ?_
  refine G_iand X dJ6_bitCount_0f7a4_7 ?_
  refine G_isub X dJ6_bitCount_0f7a4_8 ?_
  refine G_topi (fun v1 ev1 => ?_)
  have h := bv_k ev1 h
  refine G_istore_n X (lv2 := [(0, .int v1)]) dJ6_bitCount_0f7a4_9 rfl (by decide) rfl ?_
  refine G_iload_n X dJ6_bitCount_0f7a4_10 rfl 0 rfl ?_
  refine G_ldcw X (v := 858993459) qw385 dJ6_bitCount_0f7a4_11 ?_
  refine G_iand X dJ6_bitCount_0f7a4_14 ?_
  refine G_iload_n X dJ6_bitCount_0f7a4_15 rfl 0 rfl ?_
  refine G_iconst X (v := 2) dJ6_bitCount_0f7a4_16 rfl ?_
  refine G_iushr X dJ6_bitCount_0f7a4_17 rfl ?_
  refine G_ldcw X (v := 858993459) qw385 dJ6_bitCount_0f7a4_18 ?_
  refine G_iand X dJ6_bitCount_0f7a4_21 ?_
  refine G_iadd X dJ6_bitCount_0f7a4_22 ?_
  refine G_topi (fun v2 ev2 => ?_)
  have h := bv_k ev2 h
  refine G_istore_n X (lv2 := [(0, .int v2)]) dJ6_bitCount_0f7a4_23 rfl (by decide) rfl ?_
  refine G_iload_n X dJ6_bitCount_0f7a4_24 rfl 0 rfl ?_
  refine G_iload_n X dJ6_bitCount_0f7a4_25 rfl 0 rfl ?_
  refine G_iconst X (v := 4) dJ6_bitCount_0f7a4_26 rfl ?_
  refine G_iushr X dJ6_bitCount_0f7a4_27 rfl ?_
  refine G_iadd X dJ6_bitCount_0f7a4_28 ?_
  refine G_ldcw X (v := 252645135) qw386 dJ6_bitCount_0f7a4_29 ?_
  refine G_iand X dJ6_bitCount_0f7a4_32 ?_
  refine G_topi (fun v3 ev3 => ?_)
  have h := bv_k ev3 h
  refine G_istore_n X (lv2 := [(0, .int v3)]) dJ6_bitCount_0f7a4_33 rfl (by decide) rfl ?_
  refine G_iload_n X dJ6_bitCount_0f7a4_34 rfl 0 rfl ?_
  refine G_iload_n X dJ6_bitCount_0f7a4_35 rfl 0 rfl ?_
  refine G_bipush X (v := 8) dJ6_bitCount_0f7a4_36 rfl ?_
  refine G_iushr X dJ6_bitCount_0f7a4_38 rfl ?_
  refine G_iadd X dJ6_bitCount_0f7a4_39 ?_
  refine G_topi (fun v4 ev4 => ?_)
  have h := bv_k ev4 h
  refine G_istore_n X (lv2 := [(0, .int v4)]) dJ6_bitCount_0f7a4_40 rfl (by decide) rfl ?_
  refine G_iload_n X dJ6_bitCount_0f7a4_41 rfl 0 rfl ?_
  refine G_iload_n X dJ6_bitCount_0f7a4_42 rfl 0 rfl ?_
  refine G_bipush X (v := 16) dJ6_bitCount_0f7a4_43 rfl ?_
  refine G_iushr X dJ6_bitCount_0f7a4_45 rfl ?_
  refine G_iadd X dJ6_bitCount_0f7a4_46 ?_
  refine G_topi (fun v5 ev5 => ?_)
  have h := bv_k ev5 h
  refine G_istore_n X (lv2 := [(0, .int v5)]) dJ6_bitCount_0f7a4_47 rfl (by decide) rfl ?_
  refine G_iload_n X dJ6_bitCount_0f7a4_48 rfl 0 rfl ?_
  refine G_bipush X (v := 63) dJ6_bitCount_0f7a4_49 rfl ?_
  refine G_iand X dJ6_bitCount_0f7a4_51 ?_
  have e := so h
  subst e
  exact hQ _ _ dJ6_bitCount_0f7a4_52
theorem m_J6_bitCount_0f7a4 {wl : pfW} {l : Launch} {F : pfF} (hD : ∀ A, va_D (fA F) (wl (fAd F) (fCy F) A)) {x0 : Int32} {A : St} {out : Int32} (h : f_J6_bitCount_0f7a4 x0 = some out) : Mt l F wl yJ6_bitCount_0f7a4 cJ6_bitCount_0f7a4 1 (some .int) rm_J6_bitCount_0f7a4 [.int x0] A (va_Qi (fun (r : Int32) (u : St) => r = out ∧ u = A) (Wd wl F) (fA F)) := by
  refine Met_i (by decide +kernel) (Nat.le_of_ble_eq_true rfl) hD (fun E el ef X hQ => ?_)
  subst el
  subst ef
  exact b_J6_bitCount_0f7a4 X _ hQ h
theorem ok_J6_bitCount_0f7a4 : OkS yJ6_bitCount_0f7a4 cJ6_bitCount_0f7a4 1 (some .int) 1 := ⟨qw382, qw11, qw383, by decide, by decide, by decide⟩
noncomputable def f_X1_sharesTexts_L2 (A : St) (l1 : Int32) (l2 : Int32) : Option ((Int32) ⊕ ((Unit) ⊕ (Bool))) :=
  if 4 ≤ l2 then
    some (.inr (.inl ()))
  else
    gI l2 4 <|
    cl (f_J6_bitCount_0f7a4 (l1 &&& (A.1 34 l2.toNatClampNeg))) fun r3 =>
    if r3 = 1 then
      some (.inr (.inr false))
    else
      bv (l2 + 1) fun v6 =>
      some (.inl v6)
noncomputable def f_X1_sharesTexts_X30 (A : St) : Option (Bool) :=
  some true
noncomputable def f_X1_sharesTexts (x1 : Int32) (A : St) : Option (Bool) :=
  cl (loop (fun s => f_X1_sharesTexts_L2 A x1 s) 0) (Sum.elim (fun _ => f_X1_sharesTexts_X30 A) (fun t => some t))
abbrev rm_X1_sharesTexts : Room := { frames := 1, cells := 0, slots := 0, locals := 20 }
set_option maxHeartbeats 4000000 in
set_option maxRecDepth 100000 in
theorem g_X1_sharesTexts_L2 {E : pfE} (X : CX cellsC E cX1_sharesTexts RX1 rm_X1_sharesTexts 3) (A : St) (l1 : Int32) {out : Bool} (hQ : Reti cellsC E cX1_sharesTexts (bI out) A) : ∀ (n : Nat) (l2 : Int32) (ρ : (Unit) ⊕ (Bool)), lp (fun s => f_X1_sharesTexts_L2 A l1 s) n l2 = some ρ → (ρ = .inl () → GG cellsC E A 30 [] []) → (∀ t, ρ = .inr t → t = out) → GG cellsC E A 2 [(0, .ref (fAd (eF E) 2)), (1, .int l1), (2, .int l2)] [] := by
  intro n
  induction n with
  | zero =>
    intro l2 ρ h
    cases h
  | succ n ih =>
    intro l2 ρ h0 K KR
    obtain ⟨x, hb, hx⟩ := lp_step h0
    have h : f_X1_sharesTexts_L2 A l1 l2 = some x := hb
    unfold f_X1_sharesTexts_L2 at h
    clear hb h0
    refine G_iload_n X dX1_sharesTexts_2 rfl 2 rfl ?_
    refine G_iconst X (v := 4) dX1_sharesTexts_3 rfl ?_
    refine G_icge X (tgt := 30) dX1_sharesTexts_4 (by decide) (fun c1 => ?_) (fun c1 => ?_)
    · have h := if_t c1 h
      exact G_sub [] rfl (K (lpr (so h) hx).symm)
    · have h := if_f c1 h
      refine G_iload_n X dX1_sharesTexts_7 rfl 1 rfl ?_
      refine G_aload_n X dX1_sharesTexts_8 rfl 0 rfl ?_
      refine G_getf X inX1 2 (eC2 _ _ _) rfl 4 (by decide) qw85 rfl dX1_sharesTexts_9 ?_
      refine G_iload_n X dX1_sharesTexts_12 rfl 2 rfl ?_
      have hi2 := gI_n h
      have h := gI_k h
      refine G_iald X (j := l2.toNatClampNeg) 34 (eC34 _ _ _) hi2 rfl dX1_sharesTexts_13 ?_
      refine G_iand X dX1_sharesTexts_14 ?_
      obtain ⟨r3, hz4, h⟩ := cl_k h
      refine G_callS_i X (As := [.int (l1 &&& (A.1 34 l2.toNatClampNeg))]) (rest := []) ok_J6_bitCount_0f7a4 qw381 ⟨rfl, rfl, Nat.le_of_ble_eq_true rfl, Nat.le_of_ble_eq_true rfl⟩ (m_J6_bitCount_0f7a4 X.d hz4) rfl rfl (Nat.le_of_ble_eq_true rfl) dX1_sharesTexts_15 ?_
      refine G_iconst X (v := 1) dX1_sharesTexts_18 rfl ?_
      refine G_icne X (tgt := 24) dX1_sharesTexts_19 (by decide) (fun c5 => ?_) (fun c5 => ?_)
      · have h := if_t c5 h
        refine G_iconst X (v := 0) dX1_sharesTexts_22 rfl ?_
        have e := KR _ (lpr (so h) hx).symm
        subst e
        exact hQ _ _ dX1_sharesTexts_23
      · have h := if_f c5 h
        obtain ⟨v6, ev6⟩ : ∃ y : Int32, y = l2 + 1 := ⟨_, rfl⟩
        have h := bv_k ev6 h
        refine G_iinc X (q := 2) (v := v6) (lv2 := [(2, .int v6), (0, .ref (fAd (eF E) 2)), (1, .int l1)]) dX1_sharesTexts_24 rfl (by rw [ev6]; rfl) (by decide) rfl ?_
        refine G_goto X (tgt := 2) dX1_sharesTexts_27 (by decide) ?_
        exact G_sub [1, 2, 0] rfl (ih _ _ (lpl (so h) hx) K KR)
set_option maxHeartbeats 4000000 in
set_option maxRecDepth 100000 in
theorem b_X1_sharesTexts {E : pfE} (X : CX cellsC E cX1_sharesTexts RX1 rm_X1_sharesTexts 3) (x1 : Int32) (A : St) {out : Bool} (hQ : Reti cellsC E cX1_sharesTexts (bI out) A) (h : f_X1_sharesTexts x1 A = some out) : GG cellsC E A 0 [(0, .ref (fAd (eF E) 2)), (1, .int x1)] [] := by
  unfold f_X1_sharesTexts at h
  refine G_iconst X (v := 0) dX1_sharesTexts_0 rfl ?_
  refine G_istore_n X (lv2 := [(2, .int 0), (0, .ref (fAd (eF E) 2)), (1, .int x1)]) dX1_sharesTexts_1 rfl (by decide) rfl ?_
  obtain ⟨ρ, hl, h⟩ := cl_k h
  obtain ⟨n, hl⟩ := loop_some hl
  refine G_sub [1, 2, 0] rfl (g_X1_sharesTexts_L2 X A x1 hQ n _ ρ hl ?_ (fun t e => by subst e; exact so h))
  intro e
  subst e
  have h : f_X1_sharesTexts_X30 A = some _ := h
  unfold f_X1_sharesTexts_X30 at h
  refine G_iconst X (v := 1) dX1_sharesTexts_30 rfl ?_
  have e := so h
  subst e
  exact hQ _ _ dX1_sharesTexts_31
theorem m_X1_sharesTexts {l : Launch} {F : pfF} (hD : ∀ A, va_D (fA F) (cellsC (fAd F) (fCy F) A)) {x1 : Int32} {A : St} {out : Bool} (h : f_X1_sharesTexts x1 A = some out) : Mt l F cellsC yX1_sharesTexts cX1_sharesTexts 3 (some .boolean) rm_X1_sharesTexts [.ref (fAd F 2), .int x1] A (va_Qi (fun (r : Int32) (u : St) => r = bI out ∧ u = A) (Wd cellsC F) (fA F)) := by
  refine Met_iz (by decide +kernel) (Nat.le_of_ble_eq_true rfl) hD (nar_bI _) (fun E el ef X hQ => ?_)
  subst el
  subst ef
  exact b_X1_sharesTexts X _ _ hQ h
theorem ok_X1_sharesTexts : OkV yX1_sharesTexts cX1_sharesTexts 3 (some .boolean) 1 := ⟨qw401, qs6, qw2, qw402, by decide, by decide, by decide⟩
noncomputable def f_X1_keepsPeace_L2 (A : St) (l1 : Int32) (l2 : Int32) : Option ((Int32) ⊕ ((Unit) ⊕ (Bool))) :=
  if (A.1 3 0) ≤ l2 then
    some (.inr (.inl ()))
  else
    if ((l1 >>> (l2 &&& 31)) &&& 1) = 0 then
      bv (l2 + 1) fun v3 =>
      some (.inl v3)
    else
      gI l2 12 <|
      if (l1 &&& (A.1 12 l2.toNatClampNeg)) = 0 then
        bv (l2 + 1) fun v6 =>
        some (.inl v6)
      else
        some (.inr (.inr false))
noncomputable def f_X1_keepsPeace_X46 (A : St) : Option (Bool) :=
  some true
noncomputable def f_X1_keepsPeace (x1 : Int32) (A : St) : Option (Bool) :=
  cl (loop (fun s => f_X1_keepsPeace_L2 A x1 s) 0) (Sum.elim (fun _ => f_X1_keepsPeace_X46 A) (fun t => some t))
abbrev rm_X1_keepsPeace : Room := { frames := 0, cells := 0, slots := 0, locals := 0 }
set_option maxHeartbeats 4000000 in
set_option maxRecDepth 100000 in
theorem g_X1_keepsPeace_L2 {E : pfE} (X : CX cellsC E cX1_keepsPeace RX1 rm_X1_keepsPeace 3) (A : St) (l1 : Int32) {out : Bool} (hQ : Reti cellsC E cX1_keepsPeace (bI out) A) : ∀ (n : Nat) (l2 : Int32) (ρ : (Unit) ⊕ (Bool)), lp (fun s => f_X1_keepsPeace_L2 A l1 s) n l2 = some ρ → (ρ = .inl () → GG cellsC E A 46 [] []) → (∀ t, ρ = .inr t → t = out) → GG cellsC E A 2 [(0, .ref (fAd (eF E) 2)), (1, .int l1), (2, .int l2)] [] := by
  intro n
  induction n with
  | zero =>
    intro l2 ρ h
    cases h
  | succ n ih =>
    intro l2 ρ h0 K KR
    obtain ⟨x, hb, hx⟩ := lp_step h0
    have h : f_X1_keepsPeace_L2 A l1 l2 = some x := hb
    unfold f_X1_keepsPeace_L2 at h
    clear hb h0
    refine G_iload_n X dX1_keepsPeace_2 rfl 2 rfl ?_
    refine G_aload_n X dX1_keepsPeace_3 rfl 0 rfl ?_
    refine G_getf X inX1 2 (eC2 _ _ _) rfl 0 (by decide) qw78 rfl dX1_keepsPeace_4 ?_
    refine G_getf X inX0 3 (eC3 _ _ _) rfl 0 (by decide) qw37 rfl dX1_keepsPeace_7 ?_
    refine G_icge X (tgt := 46) dX1_keepsPeace_10 (by decide) (fun c1 => ?_) (fun c1 => ?_)
    · have h := if_t c1 h
      exact G_sub [] rfl (K (lpr (so h) hx).symm)
    · have h := if_f c1 h
      refine G_iload_n X dX1_keepsPeace_13 rfl 1 rfl ?_
      refine G_iload_n X dX1_keepsPeace_14 rfl 2 rfl ?_
      refine G_ishr X dX1_keepsPeace_15 ?_
      refine G_iconst X (v := 1) dX1_keepsPeace_16 rfl ?_
      refine G_iand X dX1_keepsPeace_17 ?_
      refine G_ifeq X (tgt := 40) dX1_keepsPeace_18 (by decide) (fun c2 => ?_) (fun c2 => ?_)
      · have h := if_t c2 h
        obtain ⟨v3, ev3⟩ : ∃ y : Int32, y = l2 + 1 := ⟨_, rfl⟩
        have h := bv_k ev3 h
        refine G_iinc X (q := 2) (v := v3) (lv2 := [(2, .int v3), (0, .ref (fAd (eF E) 2)), (1, .int l1)]) dX1_keepsPeace_40 rfl (by rw [ev3]; rfl) (by decide) rfl ?_
        refine G_goto X (tgt := 2) dX1_keepsPeace_43 (by decide) ?_
        exact G_sub [1, 2, 0] rfl (ih _ _ (lpl (so h) hx) K KR)
      · have h := if_f c2 h
        refine G_iload_n X dX1_keepsPeace_21 rfl 1 rfl ?_
        refine G_aload_n X dX1_keepsPeace_22 rfl 0 rfl ?_
        refine G_getf X inX1 2 (eC2 _ _ _) rfl 0 (by decide) qw78 rfl dX1_keepsPeace_23 ?_
        refine G_getf X inX0 3 (eC3 _ _ _) rfl 1 (by decide) qw40 rfl dX1_keepsPeace_26 ?_
        refine G_bipush X (v := 7) dX1_keepsPeace_29 rfl ?_
        refine G_aald X (t0 := 3) (b := fAd (eF E) 12) 4 (eC4 _ _ _) rfl rfl (vi rfl) rfl dX1_keepsPeace_31 ?_
        refine G_iload_n X dX1_keepsPeace_32 rfl 2 rfl ?_
        have hi4 := gI_n h
        have h := gI_k h
        refine G_iald X (j := l2.toNatClampNeg) 12 (eC12 _ _ _) hi4 rfl dX1_keepsPeace_33 ?_
        refine G_iand X dX1_keepsPeace_34 ?_
        refine G_ifeq X (tgt := 40) dX1_keepsPeace_35 (by decide) (fun c5 => ?_) (fun c5 => ?_)
        · have h := if_t c5 h
          obtain ⟨v6, ev6⟩ : ∃ y : Int32, y = l2 + 1 := ⟨_, rfl⟩
          have h := bv_k ev6 h
          refine G_iinc X (q := 2) (v := v6) (lv2 := [(2, .int v6), (0, .ref (fAd (eF E) 2)), (1, .int l1)]) dX1_keepsPeace_40 rfl (by rw [ev6]; rfl) (by decide) rfl ?_
          refine G_goto X (tgt := 2) dX1_keepsPeace_43 (by decide) ?_
          exact G_sub [1, 2, 0] rfl (ih _ _ (lpl (so h) hx) K KR)
        · have h := if_f c5 h
          refine G_iconst X (v := 0) dX1_keepsPeace_38 rfl ?_
          have e := KR _ (lpr (so h) hx).symm
          subst e
          exact hQ _ _ dX1_keepsPeace_39
set_option maxHeartbeats 4000000 in
set_option maxRecDepth 100000 in
theorem b_X1_keepsPeace {E : pfE} (X : CX cellsC E cX1_keepsPeace RX1 rm_X1_keepsPeace 3) (x1 : Int32) (A : St) {out : Bool} (hQ : Reti cellsC E cX1_keepsPeace (bI out) A) (h : f_X1_keepsPeace x1 A = some out) : GG cellsC E A 0 [(0, .ref (fAd (eF E) 2)), (1, .int x1)] [] := by
  unfold f_X1_keepsPeace at h
  refine G_iconst X (v := 0) dX1_keepsPeace_0 rfl ?_
  refine G_istore_n X (lv2 := [(2, .int 0), (0, .ref (fAd (eF E) 2)), (1, .int x1)]) dX1_keepsPeace_1 rfl (by decide) rfl ?_
  obtain ⟨ρ, hl, h⟩ := cl_k h
  obtain ⟨n, hl⟩ := loop_some hl
  refine G_sub [1, 2, 0] rfl (g_X1_keepsPeace_L2 X A x1 hQ n _ ρ hl ?_ (fun t e => by subst e; exact so h))
  intro e
  subst e
  have h : f_X1_keepsPeace_X46 A = some _ := h
  unfold f_X1_keepsPeace_X46 at h
  refine G_iconst X (v := 1) dX1_keepsPeace_46 rfl ?_
  have e := so h
  subst e
  exact hQ _ _ dX1_keepsPeace_47
theorem m_X1_keepsPeace {l : Launch} {F : pfF} (hD : ∀ A, va_D (fA F) (cellsC (fAd F) (fCy F) A)) {x1 : Int32} {A : St} {out : Bool} (h : f_X1_keepsPeace x1 A = some out) : Mt l F cellsC yX1_keepsPeace cX1_keepsPeace 3 (some .boolean) rm_X1_keepsPeace [.ref (fAd F 2), .int x1] A (va_Qi (fun (r : Int32) (u : St) => r = bI out ∧ u = A) (Wd cellsC F) (fA F)) := by
  refine Met_iz (by decide +kernel) (Nat.le_of_ble_eq_true rfl) hD (nar_bI _) (fun E el ef X hQ => ?_)
  subst el
  subst ef
  exact b_X1_keepsPeace X _ _ hQ h
theorem ok_X1_keepsPeace : OkV yX1_keepsPeace cX1_keepsPeace 3 (some .boolean) 1 := ⟨qw397, qs5, qw2, qw398, by decide, by decide, by decide⟩
noncomputable def f_X1_minutesOf_L4 (A : St) (l1 : Int32) (l2 : Int32) (l3 : Int32) : Option ((Int32 × Int32) ⊕ (Int32)) :=
  if (A.1 3 0) ≤ l3 then
    some (.inr l2)
  else
    if ((l1 >>> (l3 &&& 31)) &&& 1) = 0 then
      bv (l3 + 1) fun v3 =>
      some (.inl (l2, v3))
    else
      gI l3 12 <|
      bv (l2 + (A.1 7 l3.toNatClampNeg)) fun v5 =>
      bv (l3 + 1) fun v6 =>
      some (.inl (v5, v6))
noncomputable def f_X1_minutesOf_X43 (A : St) (m2 : Int32) : Option (Int32) :=
  some m2
noncomputable def f_X1_minutesOf (x1 : Int32) (A : St) : Option (Int32) :=
  cl (loop (fun s => f_X1_minutesOf_L4 A x1 s.1 s.2) (0, 0)) (fun s => f_X1_minutesOf_X43 A s)
abbrev rm_X1_minutesOf : Room := { frames := 0, cells := 0, slots := 0, locals := 0 }
set_option maxHeartbeats 4000000 in
set_option maxRecDepth 100000 in
theorem g_X1_minutesOf_L4 {E : pfE} (X : CX cellsC E cX1_minutesOf RX1 rm_X1_minutesOf 4) (A : St) (l1 : Int32) : ∀ (n : Nat) (l2 : Int32) (l3 : Int32) (ρ : Int32), lp (fun s => f_X1_minutesOf_L4 A l1 s.1 s.2) n (l2, l3) = some ρ → (∀ (q2 : Int32), ρ = q2 → GG cellsC E A 43 [(2, .int q2)] []) → GG cellsC E A 4 [(0, .ref (fAd (eF E) 2)), (1, .int l1), (2, .int l2), (3, .int l3)] [] := by
  intro n
  induction n with
  | zero =>
    intro l2 l3 ρ h
    cases h
  | succ n ih =>
    intro l2 l3 ρ h0 K
    obtain ⟨x, hb, hx⟩ := lp_step h0
    have h : f_X1_minutesOf_L4 A l1 l2 l3 = some x := hb
    unfold f_X1_minutesOf_L4 at h
    clear hb h0
    refine G_iload_n X dX1_minutesOf_4 rfl 3 rfl ?_
    refine G_aload_n X dX1_minutesOf_5 rfl 0 rfl ?_
    refine G_getf X inX1 2 (eC2 _ _ _) rfl 0 (by decide) qw78 rfl dX1_minutesOf_6 ?_
    refine G_getf X inX0 3 (eC3 _ _ _) rfl 0 (by decide) qw37 rfl dX1_minutesOf_9 ?_
    refine G_icge X (tgt := 43) dX1_minutesOf_12 (by decide) (fun c1 => ?_) (fun c1 => ?_)
    · have h := if_t c1 h
      exact G_sub [2] rfl (K _ (lpr (so h) hx).symm)
    · have h := if_f c1 h
      refine G_iload_n X dX1_minutesOf_15 rfl 1 rfl ?_
      refine G_iload_n X dX1_minutesOf_16 rfl 3 rfl ?_
      refine G_ishr X dX1_minutesOf_17 ?_
      refine G_iconst X (v := 1) dX1_minutesOf_18 rfl ?_
      refine G_iand X dX1_minutesOf_19 ?_
      refine G_ifeq X (tgt := 37) dX1_minutesOf_20 (by decide) (fun c2 => ?_) (fun c2 => ?_)
      · have h := if_t c2 h
        obtain ⟨v3, ev3⟩ : ∃ y : Int32, y = l3 + 1 := ⟨_, rfl⟩
        have h := bv_k ev3 h
        refine G_iinc X (q := 3) (v := v3) (lv2 := [(3, .int v3), (0, .ref (fAd (eF E) 2)), (1, .int l1), (2, .int l2)]) dX1_minutesOf_37 rfl (by rw [ev3]; rfl) (by decide) rfl ?_
        refine G_goto X (tgt := 4) dX1_minutesOf_40 (by decide) ?_
        exact G_sub [1, 2, 3, 0] rfl (ih _ _ _ (lpl (so h) hx) K)
      · have h := if_f c2 h
        refine G_iload_n X dX1_minutesOf_23 rfl 2 rfl ?_
        refine G_aload_n X dX1_minutesOf_24 rfl 0 rfl ?_
        refine G_getf X inX1 2 (eC2 _ _ _) rfl 0 (by decide) qw78 rfl dX1_minutesOf_25 ?_
        refine G_getf X inX0 3 (eC3 _ _ _) rfl 1 (by decide) qw40 rfl dX1_minutesOf_28 ?_
        refine G_iconst X (v := 2) dX1_minutesOf_31 rfl ?_
        refine G_aald X (t0 := 3) (b := fAd (eF E) 7) 4 (eC4 _ _ _) rfl rfl (vi rfl) rfl dX1_minutesOf_32 ?_
        refine G_iload_n X dX1_minutesOf_33 rfl 3 rfl ?_
        have hi4 := gI_n h
        have h := gI_k h
        refine G_iald X (j := l3.toNatClampNeg) 7 (eC7 _ _ _) hi4 rfl dX1_minutesOf_34 ?_
        refine G_iadd X dX1_minutesOf_35 ?_
        refine G_topi (fun v5 ev5 => ?_)
        have h := bv_k ev5 h
        refine G_istore_n X (lv2 := [(2, .int v5), (0, .ref (fAd (eF E) 2)), (1, .int l1), (3, .int l3)]) dX1_minutesOf_36 rfl (by decide) rfl ?_
        obtain ⟨v6, ev6⟩ : ∃ y : Int32, y = l3 + 1 := ⟨_, rfl⟩
        have h := bv_k ev6 h
        refine G_iinc X (q := 3) (v := v6) (lv2 := [(3, .int v6), (2, .int v5), (0, .ref (fAd (eF E) 2)), (1, .int l1)]) dX1_minutesOf_37 rfl (by rw [ev6]; rfl) (by decide) rfl ?_
        refine G_goto X (tgt := 4) dX1_minutesOf_40 (by decide) ?_
        exact G_sub [2, 3, 1, 0] rfl (ih _ _ _ (lpl (so h) hx) K)
set_option maxHeartbeats 4000000 in
set_option maxRecDepth 100000 in
theorem b_X1_minutesOf {E : pfE} (X : CX cellsC E cX1_minutesOf RX1 rm_X1_minutesOf 4) (x1 : Int32) (A : St) {out : Int32} (hQ : Reti cellsC E cX1_minutesOf out A) (h : f_X1_minutesOf x1 A = some out) : GG cellsC E A 0 [(0, .ref (fAd (eF E) 2)), (1, .int x1)] [] := by
  unfold f_X1_minutesOf at h
  refine G_iconst X (v := 0) dX1_minutesOf_0 rfl ?_
  refine G_istore_n X (lv2 := [(2, .int 0), (0, .ref (fAd (eF E) 2)), (1, .int x1)]) dX1_minutesOf_1 rfl (by decide) rfl ?_
  refine G_iconst X (v := 0) dX1_minutesOf_2 rfl ?_
  refine G_istore_n X (lv2 := [(3, .int 0), (2, .int 0), (0, .ref (fAd (eF E) 2)), (1, .int x1)]) dX1_minutesOf_3 rfl (by decide) rfl ?_
  obtain ⟨ρ, hl, h⟩ := cl_k h
  obtain ⟨n, hl⟩ := loop_some hl
  refine G_sub [2, 3, 1, 0] rfl (g_X1_minutesOf_L4 X A x1 n _ _ ρ hl ?_)
  intro v7 e
  rw [e] at h
  have h : f_X1_minutesOf_X43 A v7 = some _ := h
  unfold f_X1_minutesOf_X43 at h
  refine G_iload_n X dX1_minutesOf_43 rfl 0 rfl ?_
  have e := so h
  subst e
  exact hQ _ _ dX1_minutesOf_44
theorem m_X1_minutesOf {l : Launch} {F : pfF} (hD : ∀ A, va_D (fA F) (cellsC (fAd F) (fCy F) A)) {x1 : Int32} {A : St} {out : Int32} (h : f_X1_minutesOf x1 A = some out) : Mt l F cellsC yX1_minutesOf cX1_minutesOf 4 (some .int) rm_X1_minutesOf [.ref (fAd F 2), .int x1] A (va_Qi (fun (r : Int32) (u : St) => r = out ∧ u = A) (Wd cellsC F) (fA F)) := by
  refine Met_i (by decide +kernel) (Nat.le_of_ble_eq_true rfl) hD (fun E el ef X hQ => ?_)
  subst el
  subst ef
  exact b_X1_minutesOf X _ _ hQ h
theorem ok_X1_minutesOf : OkV yX1_minutesOf cX1_minutesOf 4 (some .int) 1 := ⟨qw393, qs4, qw2, qw394, by decide, by decide, by decide⟩
noncomputable def f_X1_keepsTopics_L2 (A : St) (l1 : Int32) (l2 : Int32) : Option ((Int32) ⊕ ((Unit) ⊕ (Bool))) :=
  if 4 ≤ l2 then
    some (.inr (.inl ()))
  else
    gI l2 4 <|
    cl (f_J6_bitCount_0f7a4 (l1 &&& (A.1 33 l2.toNatClampNeg))) fun r3 =>
    gI l2 4 <|
    if r3 < (A.1 15 l2.toNatClampNeg) then
      some (.inr (.inr false))
    else
      gI l2 4 <|
      if r3 ≤ (A.1 16 l2.toNatClampNeg) then
        bv (l2 + 1) fun v9 =>
        some (.inl v9)
      else
        some (.inr (.inr false))
noncomputable def f_X1_keepsTopics_X53 (A : St) : Option (Bool) :=
  some true
noncomputable def f_X1_keepsTopics (x1 : Int32) (A : St) : Option (Bool) :=
  cl (loop (fun s => f_X1_keepsTopics_L2 A x1 s) 0) (Sum.elim (fun _ => f_X1_keepsTopics_X53 A) (fun t => some t))
abbrev rm_X1_keepsTopics : Room := { frames := 1, cells := 0, slots := 0, locals := 20 }
set_option maxHeartbeats 4000000 in
set_option maxRecDepth 100000 in
theorem g_X1_keepsTopics_L2 {E : pfE} (X : CX cellsC E cX1_keepsTopics RX1 rm_X1_keepsTopics 4) (A : St) (l1 : Int32) {out : Bool} (hQ : Reti cellsC E cX1_keepsTopics (bI out) A) : ∀ (n : Nat) (l2 : Int32) (ρ : (Unit) ⊕ (Bool)), lp (fun s => f_X1_keepsTopics_L2 A l1 s) n l2 = some ρ → (ρ = .inl () → GG cellsC E A 53 [] []) → (∀ t, ρ = .inr t → t = out) → GG cellsC E A 2 [(0, .ref (fAd (eF E) 2)), (1, .int l1), (2, .int l2)] [] := by
  intro n
  induction n with
  | zero =>
    intro l2 ρ h
    cases h
  | succ n ih =>
    intro l2 ρ h0 K KR
    obtain ⟨x, hb, hx⟩ := lp_step h0
    have h : f_X1_keepsTopics_L2 A l1 l2 = some x := hb
    unfold f_X1_keepsTopics_L2 at h
    clear hb h0
    refine G_iload_n X dX1_keepsTopics_2 rfl 2 rfl ?_
    refine G_iconst X (v := 4) dX1_keepsTopics_3 rfl ?_
    refine G_icge X (tgt := 53) dX1_keepsTopics_4 (by decide) (fun c1 => ?_) (fun c1 => ?_)
    · have h := if_t c1 h
      exact G_sub [] rfl (K (lpr (so h) hx).symm)
    · have h := if_f c1 h
      refine G_iload_n X dX1_keepsTopics_7 rfl 1 rfl ?_
      refine G_aload_n X dX1_keepsTopics_8 rfl 0 rfl ?_
      refine G_getf X inX1 2 (eC2 _ _ _) rfl 3 (by decide) qw84 rfl dX1_keepsTopics_9 ?_
      refine G_iload_n X dX1_keepsTopics_12 rfl 2 rfl ?_
      have hi2 := gI_n h
      have h := gI_k h
      refine G_iald X (j := l2.toNatClampNeg) 33 (eC33 _ _ _) hi2 rfl dX1_keepsTopics_13 ?_
      refine G_iand X dX1_keepsTopics_14 ?_
      obtain ⟨r3, hz4, h⟩ := cl_k h
      refine G_callS_i X (As := [.int (l1 &&& (A.1 33 l2.toNatClampNeg))]) (rest := []) ok_J6_bitCount_0f7a4 qw381 ⟨rfl, rfl, Nat.le_of_ble_eq_true rfl, Nat.le_of_ble_eq_true rfl⟩ (m_J6_bitCount_0f7a4 X.d hz4) rfl rfl (Nat.le_of_ble_eq_true rfl) dX1_keepsTopics_15 ?_
      refine G_istore_n X (lv2 := [(3, .int r3), (0, .ref (fAd (eF E) 2)), (1, .int l1), (2, .int l2)]) dX1_keepsTopics_18 rfl (by decide) rfl ?_
      refine G_iload_n X dX1_keepsTopics_19 rfl 0 rfl ?_
      refine G_aload_n X dX1_keepsTopics_20 rfl 1 rfl ?_
      refine G_getf X inX1 2 (eC2 _ _ _) rfl 0 (by decide) qw78 rfl dX1_keepsTopics_21 ?_
      refine G_getf X inX0 3 (eC3 _ _ _) rfl 4 (by decide) qw48 rfl dX1_keepsTopics_24 ?_
      refine G_iload_n X dX1_keepsTopics_27 rfl 3 rfl ?_
      have hi5 := gI_n h
      have h := gI_k h
      refine G_iald X (j := l2.toNatClampNeg) 15 (eC15 _ _ _) hi5 rfl dX1_keepsTopics_28 ?_
      refine G_iclt X (tgt := 45) dX1_keepsTopics_29 (by decide) (fun c6 => ?_) (fun c6 => ?_)
      · have h := if_t c6 h
        refine G_iconst X (v := 0) dX1_keepsTopics_45 rfl ?_
        have e := KR _ (lpr (so h) hx).symm
        subst e
        exact hQ _ _ dX1_keepsTopics_46
      · have h := if_f c6 h
        refine G_iload_n X dX1_keepsTopics_32 rfl 0 rfl ?_
        refine G_aload_n X dX1_keepsTopics_33 rfl 1 rfl ?_
        refine G_getf X inX1 2 (eC2 _ _ _) rfl 0 (by decide) qw78 rfl dX1_keepsTopics_34 ?_
        refine G_getf X inX0 3 (eC3 _ _ _) rfl 5 (by decide) qw51 rfl dX1_keepsTopics_37 ?_
        refine G_iload_n X dX1_keepsTopics_40 rfl 3 rfl ?_
        have hi7 := gI_n h
        have h := gI_k h
        refine G_iald X (j := l2.toNatClampNeg) 16 (eC16 _ _ _) hi7 rfl dX1_keepsTopics_41 ?_
        refine G_icle X (tgt := 47) dX1_keepsTopics_42 (by decide) (fun c8 => ?_) (fun c8 => ?_)
        · have h := if_t c8 h
          obtain ⟨v9, ev9⟩ : ∃ y : Int32, y = l2 + 1 := ⟨_, rfl⟩
          have h := bv_k ev9 h
          refine G_iinc X (q := 3) (v := v9) (lv2 := [(2, .int v9), (3, .int r3), (0, .ref (fAd (eF E) 2)), (1, .int l1)]) dX1_keepsTopics_47 rfl (by rw [ev9]; rfl) (by decide) rfl ?_
          refine G_goto X (tgt := 2) dX1_keepsTopics_50 (by decide) ?_
          exact G_sub [2, 3, 0] rfl (ih _ _ (lpl (so h) hx) K KR)
        · have h := if_f c8 h
          refine G_iconst X (v := 0) dX1_keepsTopics_45 rfl ?_
          have e := KR _ (lpr (so h) hx).symm
          subst e
          exact hQ _ _ dX1_keepsTopics_46
set_option maxHeartbeats 4000000 in
set_option maxRecDepth 100000 in
theorem b_X1_keepsTopics {E : pfE} (X : CX cellsC E cX1_keepsTopics RX1 rm_X1_keepsTopics 4) (x1 : Int32) (A : St) {out : Bool} (hQ : Reti cellsC E cX1_keepsTopics (bI out) A) (h : f_X1_keepsTopics x1 A = some out) : GG cellsC E A 0 [(0, .ref (fAd (eF E) 2)), (1, .int x1)] [] := by
  unfold f_X1_keepsTopics at h
  refine G_iconst X (v := 0) dX1_keepsTopics_0 rfl ?_
  refine G_istore_n X (lv2 := [(2, .int 0), (0, .ref (fAd (eF E) 2)), (1, .int x1)]) dX1_keepsTopics_1 rfl (by decide) rfl ?_
  obtain ⟨ρ, hl, h⟩ := cl_k h
  obtain ⟨n, hl⟩ := loop_some hl
  refine G_sub [1, 2, 0] rfl (g_X1_keepsTopics_L2 X A x1 hQ n _ ρ hl ?_ (fun t e => by subst e; exact so h))
  intro e
  subst e
  have h : f_X1_keepsTopics_X53 A = some _ := h
  unfold f_X1_keepsTopics_X53 at h
  refine G_iconst X (v := 1) dX1_keepsTopics_53 rfl ?_
  have e := so h
  subst e
  exact hQ _ _ dX1_keepsTopics_54
theorem m_X1_keepsTopics {l : Launch} {F : pfF} (hD : ∀ A, va_D (fA F) (cellsC (fAd F) (fCy F) A)) {x1 : Int32} {A : St} {out : Bool} (h : f_X1_keepsTopics x1 A = some out) : Mt l F cellsC yX1_keepsTopics cX1_keepsTopics 4 (some .boolean) rm_X1_keepsTopics [.ref (fAd F 2), .int x1] A (va_Qi (fun (r : Int32) (u : St) => r = bI out ∧ u = A) (Wd cellsC F) (fA F)) := by
  refine Met_iz (by decide +kernel) (Nat.le_of_ble_eq_true rfl) hD (nar_bI _) (fun E el ef X hQ => ?_)
  subst el
  subst ef
  exact b_X1_keepsTopics X _ _ hQ h
theorem ok_X1_keepsTopics : OkV yX1_keepsTopics cX1_keepsTopics 4 (some .boolean) 1 := ⟨qw389, qs3, qw2, qw390, by decide, by decide, by decide⟩
noncomputable def f_X1_keeps (x1 : Int32) (x2 : Int32) (A : St) : Option (Bool) :=
  if x2 = 1 then
    cl (f_J6_bitCount_0f7a4 x1) fun r16 =>
    if r16 = (A.1 17 0) then
      some true
    else
      some false
  else
    if x2 = 2 then
      cl (f_X1_keepsTopics x1 A) fun r14 =>
      some r14
    else
      if x2 = 3 then
        cl (f_X1_minutesOf x1 A) fun r11 =>
        if (A.1 17 1) < r11 then
          some false
        else
          some true
      else
        if x2 = 4 then
          cl (f_X1_keepsPeace x1 A) fun r9 =>
          some r9
        else
          if x2 = 5 then
            cl (f_X1_sharesTexts x1 A) fun r7 =>
            some r7
          else
            if (x1 &&& (A.1 2 5)) = 0 then
              some true
            else
              some false
abbrev rm_X1_keeps : Room := { frames := 2, cells := 0, slots := 0, locals := 43 }
set_option maxHeartbeats 4000000 in
set_option maxRecDepth 100000 in
theorem b_X1_keeps {E : pfE} (X : CX cellsC E cX1_keeps RX1 rm_X1_keeps 3) (x1 : Int32) (x2 : Int32) (A : St) {out : Bool} (hQ : Reti cellsC E cX1_keeps (bI out) A) (h : f_X1_keeps x1 x2 A = some out) : GG cellsC E A 0 [(0, .ref (fAd (eF E) 2)), (1, .int x1), (2, .int x2)] [] := by
  unfold f_X1_keeps at h
  refine G_iload_n X dX1_keeps_0 rfl 2 rfl ?_
  by_cases c1 : x2 = 1
  · have h := if_t c1 h
    refine G_tabIn X dX1_keeps_1 (by rw [c1]; decide) (by rw [c1]; decide) (off := 35) (by rw [c1]; rfl) (tgt := 36) (by decide) ?_
    refine G_iload_n X dX1_keeps_36 rfl 1 rfl ?_
    obtain ⟨r16, hz17, h⟩ := cl_k h
    refine G_callS_i X (As := [.int x1]) (rest := []) ok_J6_bitCount_0f7a4 qw381 ⟨rfl, rfl, Nat.le_of_ble_eq_true rfl, Nat.le_of_ble_eq_true rfl⟩ (m_J6_bitCount_0f7a4 X.d hz17) rfl rfl (Nat.le_of_ble_eq_true rfl) dX1_keeps_37 ?_
    refine G_aload_n X dX1_keeps_40 rfl 0 rfl ?_
    refine G_getf X inX1 2 (eC2 _ _ _) rfl 0 (by decide) qw78 rfl dX1_keeps_41 ?_
    refine G_getf X inX0 3 (eC3 _ _ _) rfl 6 (by decide) qw54 rfl dX1_keeps_44 ?_
    refine G_iconst X (v := 0) dX1_keeps_47 rfl ?_
    refine G_iald X (j := 0) 17 (eC17 _ _ _) (vi rfl) rfl dX1_keeps_48 ?_
    refine G_icne X (tgt := 56) dX1_keeps_49 (by decide) (fun c18 => ?_) (fun c18 => ?_)
    · have h := if_t c18 h
      refine G_iconst X (v := 1) dX1_keeps_52 rfl ?_
      refine G_goto X (tgt := 57) dX1_keeps_53 (by decide) ?_
      have e := so h
      subst e
      exact hQ _ _ dX1_keeps_57
    · have h := if_f c18 h
      refine G_iconst X (v := 0) dX1_keeps_56 rfl ?_
      have e := so h
      subst e
      exact hQ _ _ dX1_keeps_57
  · have h := if_f c1 h
    by_cases c2 : x2 = 2
    · have h := if_t c2 h
      refine G_tabIn X dX1_keeps_1 (by rw [c2]; decide) (by rw [c2]; decide) (off := 57) (by rw [c2]; rfl) (tgt := 58) (by decide) ?_
      refine G_aload_n X dX1_keeps_58 rfl 0 rfl ?_
      refine G_iload_n X dX1_keeps_59 rfl 1 rfl ?_
      obtain ⟨r14, hz15, h⟩ := cl_k h
      refine G_callV_i X (As := [.int x1]) (rest := []) ok_X1_keepsTopics qw387 2 (eC2 _ _ _) rfl rfl ⟨rfl, rfl, Nat.le_of_ble_eq_true rfl, Nat.le_of_ble_eq_true rfl⟩ (m_X1_keepsTopics X.d hz15) rfl rfl (Nat.le_of_ble_eq_true rfl) dX1_keeps_60 ?_
      have e := so h
      subst e
      exact hQ _ _ dX1_keeps_63
    · have h := if_f c2 h
      by_cases c3 : x2 = 3
      · have h := if_t c3 h
        refine G_tabIn X dX1_keeps_1 (by rw [c3]; decide) (by rw [c3]; decide) (off := 63) (by rw [c3]; rfl) (tgt := 64) (by decide) ?_
        refine G_aload_n X dX1_keeps_64 rfl 0 rfl ?_
        refine G_iload_n X dX1_keeps_65 rfl 1 rfl ?_
        obtain ⟨r11, hz12, h⟩ := cl_k h
        refine G_callV_i X (As := [.int x1]) (rest := []) ok_X1_minutesOf qw391 2 (eC2 _ _ _) rfl rfl ⟨rfl, rfl, Nat.le_of_ble_eq_true rfl, Nat.le_of_ble_eq_true rfl⟩ (m_X1_minutesOf X.d hz12) rfl rfl (Nat.le_of_ble_eq_true rfl) dX1_keeps_66 ?_
        refine G_aload_n X dX1_keeps_69 rfl 0 rfl ?_
        refine G_getf X inX1 2 (eC2 _ _ _) rfl 0 (by decide) qw78 rfl dX1_keeps_70 ?_
        refine G_getf X inX0 3 (eC3 _ _ _) rfl 6 (by decide) qw54 rfl dX1_keeps_73 ?_
        refine G_iconst X (v := 1) dX1_keeps_76 rfl ?_
        refine G_iald X (j := 1) 17 (eC17 _ _ _) (vi rfl) rfl dX1_keeps_77 ?_
        refine G_icgt X (tgt := 85) dX1_keeps_78 (by decide) (fun c13 => ?_) (fun c13 => ?_)
        · have h := if_t c13 h
          refine G_iconst X (v := 0) dX1_keeps_85 rfl ?_
          have e := so h
          subst e
          exact hQ _ _ dX1_keeps_86
        · have h := if_f c13 h
          refine G_iconst X (v := 1) dX1_keeps_81 rfl ?_
          refine G_goto X (tgt := 86) dX1_keeps_82 (by decide) ?_
          have e := so h
          subst e
          exact hQ _ _ dX1_keeps_86
      · have h := if_f c3 h
        by_cases c4 : x2 = 4
        · have h := if_t c4 h
          refine G_tabIn X dX1_keeps_1 (by rw [c4]; decide) (by rw [c4]; decide) (off := 86) (by rw [c4]; rfl) (tgt := 87) (by decide) ?_
          refine G_aload_n X dX1_keeps_87 rfl 0 rfl ?_
          refine G_iload_n X dX1_keeps_88 rfl 1 rfl ?_
          obtain ⟨r9, hz10, h⟩ := cl_k h
          refine G_callV_i X (As := [.int x1]) (rest := []) ok_X1_keepsPeace qw395 2 (eC2 _ _ _) rfl rfl ⟨rfl, rfl, Nat.le_of_ble_eq_true rfl, Nat.le_of_ble_eq_true rfl⟩ (m_X1_keepsPeace X.d hz10) rfl rfl (Nat.le_of_ble_eq_true rfl) dX1_keeps_89 ?_
          have e := so h
          subst e
          exact hQ _ _ dX1_keeps_92
        · have h := if_f c4 h
          by_cases c5 : x2 = 5
          · have h := if_t c5 h
            refine G_tabIn X dX1_keeps_1 (by rw [c5]; decide) (by rw [c5]; decide) (off := 92) (by rw [c5]; rfl) (tgt := 93) (by decide) ?_
            refine G_aload_n X dX1_keeps_93 rfl 0 rfl ?_
            refine G_iload_n X dX1_keeps_94 rfl 1 rfl ?_
            obtain ⟨r7, hz8, h⟩ := cl_k h
            refine G_callV_i X (As := [.int x1]) (rest := []) ok_X1_sharesTexts qw399 2 (eC2 _ _ _) rfl rfl ⟨rfl, rfl, Nat.le_of_ble_eq_true rfl, Nat.le_of_ble_eq_true rfl⟩ (m_X1_sharesTexts X.d hz8) rfl rfl (Nat.le_of_ble_eq_true rfl) dX1_keeps_95 ?_
            have e := so h
            subst e
            exact hQ _ _ dX1_keeps_98
          · have h := if_f c5 h
            refine G_tabOut X dX1_keeps_1 (by have t0 := lv_neT (k := 1) (a := 1) c1 (by decide); have t1 := lv_neT (k := 2) (a := 2) c2 (by decide); have t2 := lv_neT (k := 3) (a := 3) c3 (by decide); have t3 := lv_neT (k := 4) (a := 4) c4 (by decide); have t4 := lv_neT (k := 5) (a := 5) c5 (by decide); omega) (tgt := 99) (by decide) ?_
            refine G_iload_n X dX1_keeps_99 rfl 1 rfl ?_
            refine G_aload_n X dX1_keeps_100 rfl 0 rfl ?_
            refine G_getf X inX1 2 (eC2 _ _ _) rfl 5 (by decide) qw86 rfl dX1_keeps_101 ?_
            refine G_iand X dX1_keeps_104 ?_
            refine G_ifne X (tgt := 112) dX1_keeps_105 (by decide) (fun c6 => ?_) (fun c6 => ?_)
            · have h := if_t c6 h
              refine G_iconst X (v := 1) dX1_keeps_108 rfl ?_
              refine G_goto X (tgt := 113) dX1_keeps_109 (by decide) ?_
              have e := so h
              subst e
              exact hQ _ _ dX1_keeps_113
            · have h := if_f c6 h
              refine G_iconst X (v := 0) dX1_keeps_112 rfl ?_
              have e := so h
              subst e
              exact hQ _ _ dX1_keeps_113
theorem m_X1_keeps {l : Launch} {F : pfF} (hD : ∀ A, va_D (fA F) (cellsC (fAd F) (fCy F) A)) {x1 : Int32} {x2 : Int32} {A : St} {out : Bool} (h : f_X1_keeps x1 x2 A = some out) : Mt l F cellsC yX1_keeps cX1_keeps 3 (some .boolean) rm_X1_keeps [.ref (fAd F 2), .int x1, .int x2] A (va_Qi (fun (r : Int32) (u : St) => r = bI out ∧ u = A) (Wd cellsC F) (fA F)) := by
  refine Met_iz (by decide +kernel) (Nat.le_of_ble_eq_true rfl) hD (nar_bI _) (fun E el ef X hQ => ?_)
  subst el
  subst ef
  exact b_X1_keeps X _ _ _ hQ h
theorem ok_X1_keeps : OkV yX1_keeps cX1_keeps 3 (some .boolean) 2 := ⟨qw379, qs2, qw2, qw380, by decide, by decide, by decide⟩
noncomputable def f_X1_brokenRule_L2 (A : St) (l1 : Int32) (l2 : Int32) (l3 : Int32) : Option ((Int32) ⊕ ((Unit) ⊕ (Int32))) :=
  if 6 < l3 then
    some (.inr (.inl ()))
  else
    if l3 = l2 then
      bv (l3 + 1) fun v3 =>
      some (.inl v3)
    else
      cl (f_X1_keeps l1 l3 A) fun r4 =>
      if (bI r4) = 0 then
        some (.inr (.inr l3))
      else
        bv (l3 + 1) fun v7 =>
        some (.inl v7)
noncomputable def f_X1_brokenRule_X30 (A : St) : Option (Int32) :=
  some 0
noncomputable def f_X1_brokenRule (x1 : Int32) (x2 : Int32) (A : St) : Option (Int32) :=
  cl (loop (fun s => f_X1_brokenRule_L2 A x1 x2 s) 1) (Sum.elim (fun _ => f_X1_brokenRule_X30 A) (fun t => some t))
abbrev rm_X1_brokenRule : Room := { frames := 3, cells := 0, slots := 0, locals := 65 }
set_option maxHeartbeats 4000000 in
set_option maxRecDepth 100000 in
theorem g_X1_brokenRule_L2 {E : pfE} (X : CX cellsC E cX1_brokenRule RX1 rm_X1_brokenRule 4) (A : St) (l1 : Int32) (l2 : Int32) {out : Int32} (hQ : Reti cellsC E cX1_brokenRule out A) : ∀ (n : Nat) (l3 : Int32) (ρ : (Unit) ⊕ (Int32)), lp (fun s => f_X1_brokenRule_L2 A l1 l2 s) n l3 = some ρ → (ρ = .inl () → GG cellsC E A 30 [] []) → (∀ t, ρ = .inr t → t = out) → GG cellsC E A 2 [(0, .ref (fAd (eF E) 2)), (1, .int l1), (2, .int l2), (3, .int l3)] [] := by
  intro n
  induction n with
  | zero =>
    intro l3 ρ h
    cases h
  | succ n ih =>
    intro l3 ρ h0 K KR
    obtain ⟨x, hb, hx⟩ := lp_step h0
    have h : f_X1_brokenRule_L2 A l1 l2 l3 = some x := hb
    unfold f_X1_brokenRule_L2 at h
    clear hb h0
    refine G_iload_n X dX1_brokenRule_2 rfl 3 rfl ?_
    refine G_bipush X (v := 6) dX1_brokenRule_3 rfl ?_
    refine G_icgt X (tgt := 30) dX1_brokenRule_5 (by decide) (fun c1 => ?_) (fun c1 => ?_)
    · have h := if_t c1 h
      exact G_sub [] rfl (K (lpr (so h) hx).symm)
    · have h := if_f c1 h
      refine G_iload_n X dX1_brokenRule_8 rfl 3 rfl ?_
      refine G_iload_n X dX1_brokenRule_9 rfl 2 rfl ?_
      refine G_iceq X (tgt := 24) dX1_brokenRule_10 (by decide) (fun c2 => ?_) (fun c2 => ?_)
      · have h := if_t c2 h
        obtain ⟨v3, ev3⟩ : ∃ y : Int32, y = l3 + 1 := ⟨_, rfl⟩
        have h := bv_k ev3 h
        refine G_iinc X (q := 3) (v := v3) (lv2 := [(3, .int v3), (0, .ref (fAd (eF E) 2)), (1, .int l1), (2, .int l2)]) dX1_brokenRule_24 rfl (by rw [ev3]; rfl) (by decide) rfl ?_
        refine G_goto X (tgt := 2) dX1_brokenRule_27 (by decide) ?_
        exact G_sub [1, 2, 3, 0] rfl (ih _ _ (lpl (so h) hx) K KR)
      · have h := if_f c2 h
        refine G_aload_n X dX1_brokenRule_13 rfl 0 rfl ?_
        refine G_iload_n X dX1_brokenRule_14 rfl 1 rfl ?_
        refine G_iload_n X dX1_brokenRule_15 rfl 3 rfl ?_
        obtain ⟨r4, hz5, h⟩ := cl_k h
        refine G_callV_i X (As := [.int l1, .int l3]) (rest := []) ok_X1_keeps qw377 2 (eC2 _ _ _) rfl rfl ⟨rfl, rfl, Nat.le_of_ble_eq_true rfl, Nat.le_of_ble_eq_true rfl⟩ (m_X1_keeps X.d hz5) rfl rfl (Nat.le_of_ble_eq_true rfl) dX1_brokenRule_16 ?_
        refine G_ifne X (tgt := 24) dX1_brokenRule_19 (by decide) (fun c6 => ?_) (fun c6 => ?_)
        · have h := if_t c6 h
          refine G_iload_n X dX1_brokenRule_22 rfl 3 rfl ?_
          have e := KR _ (lpr (so h) hx).symm
          subst e
          exact hQ _ _ dX1_brokenRule_23
        · have h := if_f c6 h
          obtain ⟨v7, ev7⟩ : ∃ y : Int32, y = l3 + 1 := ⟨_, rfl⟩
          have h := bv_k ev7 h
          refine G_iinc X (q := 3) (v := v7) (lv2 := [(3, .int v7), (0, .ref (fAd (eF E) 2)), (1, .int l1), (2, .int l2)]) dX1_brokenRule_24 rfl (by rw [ev7]; rfl) (by decide) rfl ?_
          refine G_goto X (tgt := 2) dX1_brokenRule_27 (by decide) ?_
          exact G_sub [1, 2, 3, 0] rfl (ih _ _ (lpl (so h) hx) K KR)
set_option maxHeartbeats 4000000 in
set_option maxRecDepth 100000 in
theorem b_X1_brokenRule {E : pfE} (X : CX cellsC E cX1_brokenRule RX1 rm_X1_brokenRule 4) (x1 : Int32) (x2 : Int32) (A : St) {out : Int32} (hQ : Reti cellsC E cX1_brokenRule out A) (h : f_X1_brokenRule x1 x2 A = some out) : GG cellsC E A 0 [(0, .ref (fAd (eF E) 2)), (1, .int x1), (2, .int x2)] [] := by
  unfold f_X1_brokenRule at h
  refine G_iconst X (v := 1) dX1_brokenRule_0 rfl ?_
  refine G_istore_n X (lv2 := [(3, .int 1), (0, .ref (fAd (eF E) 2)), (1, .int x1), (2, .int x2)]) dX1_brokenRule_1 rfl (by decide) rfl ?_
  obtain ⟨ρ, hl, h⟩ := cl_k h
  obtain ⟨n, hl⟩ := loop_some hl
  refine G_sub [1, 2, 3, 0] rfl (g_X1_brokenRule_L2 X A x1 x2 hQ n _ ρ hl ?_ (fun t e => by subst e; exact so h))
  intro e
  subst e
  have h : f_X1_brokenRule_X30 A = some _ := h
  unfold f_X1_brokenRule_X30 at h
  refine G_iconst X (v := 0) dX1_brokenRule_30 rfl ?_
  have e := so h
  subst e
  exact hQ _ _ dX1_brokenRule_31
theorem m_X1_brokenRule {l : Launch} {F : pfF} (hD : ∀ A, va_D (fA F) (cellsC (fAd F) (fCy F) A)) {x1 : Int32} {x2 : Int32} {A : St} {out : Int32} (h : f_X1_brokenRule x1 x2 A = some out) : Mt l F cellsC yX1_brokenRule cX1_brokenRule 4 (some .int) rm_X1_brokenRule [.ref (fAd F 2), .int x1, .int x2] A (va_Qi (fun (r : Int32) (u : St) => r = out ∧ u = A) (Wd cellsC F) (fA F)) := by
  refine Met_i (by decide +kernel) (Nat.le_of_ble_eq_true rfl) hD (fun E el ef X hQ => ?_)
  subst el
  subst ef
  exact b_X1_brokenRule X _ _ _ hQ h
theorem ok_X1_brokenRule : OkV yX1_brokenRule cX1_brokenRule 4 (some .int) 2 := ⟨qw374, qw375, qw2, qw376, by decide, by decide, by decide⟩
noncomputable def f_X5_against (x1 : Int32) (A : St) : Option (Int32 × St) :=
  cl (f_X0_hasAll x1 A) fun r1 =>
  if (bI r1) = 0 then
    cl2 (f_X5_finding 0 A) fun r9 A11 =>
    some (r9, A11)
  else
    cl (f_X1_readRules A) fun A6 =>
    cl (f_X1_brokenRule x1 0 A6) fun r7 =>
    some (r7, A6)
abbrev rm_X5_against : Room := { frames := 4, cells := 0, slots := 0, locals := 88 }
set_option maxHeartbeats 4000000 in
set_option maxRecDepth 100000 in
theorem b_X5_against {E : pfE} (X : CX cellsC E cX5_against RX5 rm_X5_against 2) (x1 : Int32) (A : St) {out : Int32 × St} (hQ : Reti cellsC E cX5_against out.1 out.2) (h : f_X5_against x1 A = some out) : GG cellsC E A 0 [(0, .ref (fAd (eF E) 0)), (1, .int x1)] [] := by
  unfold f_X5_against at h
  refine G_aload_n X dX5_against_0 rfl 0 rfl ?_
  refine G_getf X inX5 0 (eC0 _ _ _) rfl 2 (by decide) qw157 rfl dX5_against_1 ?_
  refine G_iload_n X dX5_against_4 rfl 1 rfl ?_
  obtain ⟨r1, hz2, h⟩ := cl_k h
  refine G_callV_i X (As := [.int x1]) (rest := []) ok_X0_hasAll qw309 3 (eC3 _ _ _) rfl rfl ⟨rfl, rfl, Nat.le_of_ble_eq_true rfl, Nat.le_of_ble_eq_true rfl⟩ (m_X0_hasAll X.d hz2) rfl rfl (Nat.le_of_ble_eq_true rfl) dX5_against_5 ?_
  refine G_ifne X (tgt := 17) dX5_against_8 (by decide) (fun c3 => ?_) (fun c3 => ?_)
  · have h := if_t c3 h
    refine G_aload_n X dX5_against_11 rfl 0 rfl ?_
    refine G_iconst X (v := 0) dX5_against_12 rfl ?_
    obtain ⟨r9, A11, hz10, h⟩ := cl2_k h
    refine G_callV_i X (As := [.int 0]) (rest := []) ok_X5_finding qw191 0 (eC0 _ _ _) rfl rfl ⟨rfl, rfl, Nat.le_of_ble_eq_true rfl, Nat.le_of_ble_eq_true rfl⟩ (m_X5_finding X.d hz10) rfl rfl (Nat.le_of_ble_eq_true rfl) dX5_against_13 ?_
    have e := so h
    subst e
    exact hQ _ _ dX5_against_16
  · have h := if_f c3 h
    refine G_aload_n X dX5_against_17 rfl 0 rfl ?_
    refine G_getf X inX5 0 (eC0 _ _ _) rfl 1 (by decide) qw156 rfl dX5_against_18 ?_
    obtain ⟨A6, hz5, h⟩ := cl_k h
    refine G_callV_v X (As := []) (rest := []) ok_X1_readRules qw361 2 (eC2 _ _ _) rfl rfl ⟨rfl, rfl, Nat.le_of_ble_eq_true rfl, Nat.le_of_ble_eq_true rfl⟩ (m_X1_readRules X.d hz5) rfl rfl (Nat.le_of_ble_eq_true rfl) dX5_against_21 ?_
    refine G_aload_n X dX5_against_24 rfl 0 rfl ?_
    refine G_getf X inX5 0 (eC0 _ _ _) rfl 1 (by decide) qw156 rfl dX5_against_25 ?_
    refine G_iload_n X dX5_against_28 rfl 1 rfl ?_
    refine G_iconst X (v := 0) dX5_against_29 rfl ?_
    obtain ⟨r7, hz8, h⟩ := cl_k h
    refine G_callV_i X (As := [.int x1, .int 0]) (rest := []) ok_X1_brokenRule qw373 2 (eC2 _ _ _) rfl rfl ⟨rfl, rfl, Nat.le_of_ble_eq_true rfl, Nat.le_of_ble_eq_true rfl⟩ (m_X1_brokenRule X.d hz8) rfl rfl (Nat.le_of_ble_eq_true rfl) dX5_against_30 ?_
    have e := so h
    subst e
    exact hQ _ _ dX5_against_33
theorem m_X5_against {l : Launch} {F : pfF} (hD : ∀ A, va_D (fA F) (cellsC (fAd F) (fCy F) A)) {x1 : Int32} {A : St} {out : Int32 × St} (h : f_X5_against x1 A = some out) : Mt l F cellsC yX5_against cX5_against 2 (some .int) rm_X5_against [.ref (fAd F 0), .int x1] A (va_Qi (fun (r : Int32) (u : St) => r = out.1 ∧ u = out.2) (Wd cellsC F) (fA F)) := by
  refine Met_i (by decide +kernel) (Nat.le_of_ble_eq_true rfl) hD (fun E el ef X hQ => ?_)
  subst el
  subst ef
  exact b_X5_against X _ _ hQ h
theorem ok_X5_against : OkV yX5_against cX5_against 2 (some .int) 1 := ⟨qw358, qw359, qw1, qw360, by decide, by decide, by decide⟩
noncomputable def f_X1_countPapers_L4 (A : St) (l1 : Int32) (l2 : Int32) (l3 : Int32) : Option ((Int32 × Int32) ⊕ (Int32)) :=
  if ((1 : Int32) <<< ((A.1 3 0) &&& 31)) ≤ l3 then
    some (.inr l2)
  else
    cl (f_X1_brokenRule l3 l1 A) fun r2 =>
    if r2 = 0 then
      bv (l2 + 1) fun v6 =>
      bv (l3 + 1) fun v7 =>
      some (.inl (v6, v7))
    else
      bv (l3 + 1) fun v5 =>
      some (.inl (l2, v5))
noncomputable def f_X1_countPapers_X35 (A : St) (m2 : Int32) : Option (Int32) :=
  some m2
noncomputable def f_X1_countPapers (x1 : Int32) (A : St) : Option (Int32) :=
  cl (loop (fun s => f_X1_countPapers_L4 A x1 s.1 s.2) (0, 0)) (fun s => f_X1_countPapers_X35 A s)
abbrev rm_X1_countPapers : Room := { frames := 4, cells := 0, slots := 0, locals := 88 }
set_option maxHeartbeats 4000000 in
set_option maxRecDepth 100000 in
theorem g_X1_countPapers_L4 {E : pfE} (X : CX cellsC E cX1_countPapers RX1 rm_X1_countPapers 4) (A : St) (l1 : Int32) : ∀ (n : Nat) (l2 : Int32) (l3 : Int32) (ρ : Int32), lp (fun s => f_X1_countPapers_L4 A l1 s.1 s.2) n (l2, l3) = some ρ → (∀ (q2 : Int32), ρ = q2 → GG cellsC E A 35 [(2, .int q2)] []) → GG cellsC E A 4 [(0, .ref (fAd (eF E) 2)), (1, .int l1), (2, .int l2), (3, .int l3)] [] := by
  intro n
  induction n with
  | zero =>
    intro l2 l3 ρ h
    cases h
  | succ n ih =>
    intro l2 l3 ρ h0 K
    obtain ⟨x, hb, hx⟩ := lp_step h0
    have h : f_X1_countPapers_L4 A l1 l2 l3 = some x := hb
    unfold f_X1_countPapers_L4 at h
    clear hb h0
    refine G_iload_n X dX1_countPapers_4 rfl 3 rfl ?_
    refine G_iconst X (v := 1) dX1_countPapers_5 rfl ?_
    refine G_aload_n X dX1_countPapers_6 rfl 0 rfl ?_
    refine G_getf X inX1 2 (eC2 _ _ _) rfl 0 (by decide) qw78 rfl dX1_countPapers_7 ?_
    refine G_getf X inX0 3 (eC3 _ _ _) rfl 0 (by decide) qw37 rfl dX1_countPapers_10 ?_
    refine G_ishl X dX1_countPapers_13 ?_
    refine G_icge X (tgt := 35) dX1_countPapers_14 (by decide) (fun c1 => ?_) (fun c1 => ?_)
    · have h := if_t c1 h
      exact G_sub [2] rfl (K _ (lpr (so h) hx).symm)
    · have h := if_f c1 h
      refine G_aload_n X dX1_countPapers_17 rfl 0 rfl ?_
      refine G_iload_n X dX1_countPapers_18 rfl 3 rfl ?_
      refine G_iload_n X dX1_countPapers_19 rfl 1 rfl ?_
      obtain ⟨r2, hz3, h⟩ := cl_k h
      refine G_callV_i X (As := [.int l3, .int l1]) (rest := []) ok_X1_brokenRule qw411 2 (eC2 _ _ _) rfl rfl ⟨rfl, rfl, Nat.le_of_ble_eq_true rfl, Nat.le_of_ble_eq_true rfl⟩ (m_X1_brokenRule X.d hz3) rfl rfl (Nat.le_of_ble_eq_true rfl) dX1_countPapers_20 ?_
      refine G_ifne X (tgt := 29) dX1_countPapers_23 (by decide) (fun c4 => ?_) (fun c4 => ?_)
      · have h := if_t c4 h
        obtain ⟨v6, ev6⟩ : ∃ y : Int32, y = l2 + 1 := ⟨_, rfl⟩
        have h := bv_k ev6 h
        refine G_iinc X (q := 2) (v := v6) (lv2 := [(2, .int v6), (0, .ref (fAd (eF E) 2)), (1, .int l1), (3, .int l3)]) dX1_countPapers_26 rfl (by rw [ev6]; rfl) (by decide) rfl ?_
        obtain ⟨v7, ev7⟩ : ∃ y : Int32, y = l3 + 1 := ⟨_, rfl⟩
        have h := bv_k ev7 h
        refine G_iinc X (q := 3) (v := v7) (lv2 := [(3, .int v7), (2, .int v6), (0, .ref (fAd (eF E) 2)), (1, .int l1)]) dX1_countPapers_29 rfl (by rw [ev7]; rfl) (by decide) rfl ?_
        refine G_goto X (tgt := 4) dX1_countPapers_32 (by decide) ?_
        exact G_sub [2, 3, 1, 0] rfl (ih _ _ _ (lpl (so h) hx) K)
      · have h := if_f c4 h
        obtain ⟨v5, ev5⟩ : ∃ y : Int32, y = l3 + 1 := ⟨_, rfl⟩
        have h := bv_k ev5 h
        refine G_iinc X (q := 3) (v := v5) (lv2 := [(3, .int v5), (0, .ref (fAd (eF E) 2)), (1, .int l1), (2, .int l2)]) dX1_countPapers_29 rfl (by rw [ev5]; rfl) (by decide) rfl ?_
        refine G_goto X (tgt := 4) dX1_countPapers_32 (by decide) ?_
        exact G_sub [1, 2, 3, 0] rfl (ih _ _ _ (lpl (so h) hx) K)
set_option maxHeartbeats 4000000 in
set_option maxRecDepth 100000 in
theorem b_X1_countPapers {E : pfE} (X : CX cellsC E cX1_countPapers RX1 rm_X1_countPapers 4) (x1 : Int32) (A : St) {out : Int32} (hQ : Reti cellsC E cX1_countPapers out A) (h : f_X1_countPapers x1 A = some out) : GG cellsC E A 0 [(0, .ref (fAd (eF E) 2)), (1, .int x1)] [] := by
  unfold f_X1_countPapers at h
  refine G_iconst X (v := 0) dX1_countPapers_0 rfl ?_
  refine G_istore_n X (lv2 := [(2, .int 0), (0, .ref (fAd (eF E) 2)), (1, .int x1)]) dX1_countPapers_1 rfl (by decide) rfl ?_
  refine G_iconst X (v := 0) dX1_countPapers_2 rfl ?_
  refine G_istore_n X (lv2 := [(3, .int 0), (2, .int 0), (0, .ref (fAd (eF E) 2)), (1, .int x1)]) dX1_countPapers_3 rfl (by decide) rfl ?_
  obtain ⟨ρ, hl, h⟩ := cl_k h
  obtain ⟨n, hl⟩ := loop_some hl
  refine G_sub [2, 3, 1, 0] rfl (g_X1_countPapers_L4 X A x1 n _ _ ρ hl ?_)
  intro v8 e
  rw [e] at h
  have h : f_X1_countPapers_X35 A v8 = some _ := h
  unfold f_X1_countPapers_X35 at h
  refine G_iload_n X dX1_countPapers_35 rfl 0 rfl ?_
  have e := so h
  subst e
  exact hQ _ _ dX1_countPapers_36
theorem m_X1_countPapers {l : Launch} {F : pfF} (hD : ∀ A, va_D (fA F) (cellsC (fAd F) (fCy F) A)) {x1 : Int32} {A : St} {out : Int32} (h : f_X1_countPapers x1 A = some out) : Mt l F cellsC yX1_countPapers cX1_countPapers 4 (some .int) rm_X1_countPapers [.ref (fAd F 2), .int x1] A (va_Qi (fun (r : Int32) (u : St) => r = out ∧ u = A) (Wd cellsC F) (fA F)) := by
  refine Met_i (by decide +kernel) (Nat.le_of_ble_eq_true rfl) hD (fun E el ef X hQ => ?_)
  subst el
  subst ef
  exact b_X1_countPapers X _ _ hQ h
theorem ok_X1_countPapers : OkV yX1_countPapers cX1_countPapers 4 (some .int) 1 := ⟨qw408, qw409, qw2, qw410, by decide, by decide, by decide⟩
noncomputable def f_X5_papers (A : St) : Option (Int32 × St) :=
  cl (f_X1_readRules A) fun A3 =>
  cl (f_X1_countPapers 0 A3) fun r4 =>
  some (r4, A3)
abbrev rm_X5_papers : Room := { frames := 5, cells := 0, slots := 0, locals := 111 }
set_option maxHeartbeats 4000000 in
set_option maxRecDepth 100000 in
theorem b_X5_papers {E : pfE} (X : CX cellsC E cX5_papers RX5 rm_X5_papers 1) (A : St) {out : Int32 × St} (hQ : Reti cellsC E cX5_papers out.1 out.2) (h : f_X5_papers A = some out) : GG cellsC E A 0 [(0, .ref (fAd (eF E) 0))] [] := by
  unfold f_X5_papers at h
  refine G_aload_n X dX5_papers_0 rfl 0 rfl ?_
  refine G_getf X inX5 0 (eC0 _ _ _) rfl 1 (by decide) qw156 rfl dX5_papers_1 ?_
  obtain ⟨A3, hz2, h⟩ := cl_k h
  refine G_callV_v X (As := []) (rest := []) ok_X1_readRules qw361 2 (eC2 _ _ _) rfl rfl ⟨rfl, rfl, Nat.le_of_ble_eq_true rfl, Nat.le_of_ble_eq_true rfl⟩ (m_X1_readRules X.d hz2) rfl rfl (Nat.le_of_ble_eq_true rfl) dX5_papers_4 ?_
  refine G_aload_n X dX5_papers_7 rfl 0 rfl ?_
  refine G_getf X inX5 0 (eC0 _ _ _) rfl 1 (by decide) qw156 rfl dX5_papers_8 ?_
  refine G_iconst X (v := 0) dX5_papers_11 rfl ?_
  obtain ⟨r4, hz5, h⟩ := cl_k h
  refine G_callV_i X (As := [.int 0]) (rest := []) ok_X1_countPapers qw407 2 (eC2 _ _ _) rfl rfl ⟨rfl, rfl, Nat.le_of_ble_eq_true rfl, Nat.le_of_ble_eq_true rfl⟩ (m_X1_countPapers X.d hz5) rfl rfl (Nat.le_of_ble_eq_true rfl) dX5_papers_12 ?_
  have e := so h
  subst e
  exact hQ _ _ dX5_papers_15
theorem m_X5_papers {l : Launch} {F : pfF} (hD : ∀ A, va_D (fA F) (cellsC (fAd F) (fCy F) A)) {A : St} {out : Int32 × St} (h : f_X5_papers A = some out) : Mt l F cellsC yX5_papers cX5_papers 1 (some .int) rm_X5_papers [.ref (fAd F 0)] A (va_Qi (fun (r : Int32) (u : St) => r = out.1 ∧ u = out.2) (Wd cellsC F) (fA F)) := by
  refine Met_i (by decide +kernel) (Nat.le_of_ble_eq_true rfl) hD (fun E el ef X hQ => ?_)
  subst el
  subst ef
  exact b_X5_papers X _ hQ h
theorem ok_X5_papers : OkV yX5_papers cX5_papers 1 (some .int) 0 := ⟨qw404, qw405, qw1, qw406, by decide, by decide, by decide⟩
noncomputable def f_X5_without (x1 : Int32) (A : St) : Option (Int32 × St) :=
  cl (f_X5_within x1 1 6) fun r1 =>
  if (bI r1) = 0 then
    cl2 (f_X5_finding 0 A) fun r9 A11 =>
    some (r9, A11)
  else
    cl (f_X1_readRules A) fun A6 =>
    cl (f_X1_countPapers x1 A6) fun r7 =>
    some (r7, A6)
abbrev rm_X5_without : Room := { frames := 5, cells := 0, slots := 0, locals := 111 }
set_option maxHeartbeats 4000000 in
set_option maxRecDepth 100000 in
theorem b_X5_without {E : pfE} (X : CX cellsC E cX5_without RX5 rm_X5_without 2) (x1 : Int32) (A : St) {out : Int32 × St} (hQ : Reti cellsC E cX5_without out.1 out.2) (h : f_X5_without x1 A = some out) : GG cellsC E A 0 [(0, .ref (fAd (eF E) 0)), (1, .int x1)] [] := by
  unfold f_X5_without at h
  refine G_iload_n X dX5_without_0 rfl 1 rfl ?_
  refine G_iconst X (v := 1) dX5_without_1 rfl ?_
  refine G_bipush X (v := 6) dX5_without_2 rfl ?_
  obtain ⟨r1, hz2, h⟩ := cl_k h
  refine G_callS_i X (As := [.int x1, .int 1, .int 6]) (rest := []) ok_X5_within qw184 ⟨rfl, rfl, Nat.le_of_ble_eq_true rfl, Nat.le_of_ble_eq_true rfl⟩ (m_X5_within X.d hz2) rfl rfl (Nat.le_of_ble_eq_true rfl) dX5_without_4 ?_
  refine G_ifne X (tgt := 16) dX5_without_7 (by decide) (fun c3 => ?_) (fun c3 => ?_)
  · have h := if_t c3 h
    refine G_aload_n X dX5_without_10 rfl 0 rfl ?_
    refine G_iconst X (v := 0) dX5_without_11 rfl ?_
    obtain ⟨r9, A11, hz10, h⟩ := cl2_k h
    refine G_callV_i X (As := [.int 0]) (rest := []) ok_X5_finding qw191 0 (eC0 _ _ _) rfl rfl ⟨rfl, rfl, Nat.le_of_ble_eq_true rfl, Nat.le_of_ble_eq_true rfl⟩ (m_X5_finding X.d hz10) rfl rfl (Nat.le_of_ble_eq_true rfl) dX5_without_12 ?_
    have e := so h
    subst e
    exact hQ _ _ dX5_without_15
  · have h := if_f c3 h
    refine G_aload_n X dX5_without_16 rfl 0 rfl ?_
    refine G_getf X inX5 0 (eC0 _ _ _) rfl 1 (by decide) qw156 rfl dX5_without_17 ?_
    obtain ⟨A6, hz5, h⟩ := cl_k h
    refine G_callV_v X (As := []) (rest := []) ok_X1_readRules qw361 2 (eC2 _ _ _) rfl rfl ⟨rfl, rfl, Nat.le_of_ble_eq_true rfl, Nat.le_of_ble_eq_true rfl⟩ (m_X1_readRules X.d hz5) rfl rfl (Nat.le_of_ble_eq_true rfl) dX5_without_20 ?_
    refine G_aload_n X dX5_without_23 rfl 0 rfl ?_
    refine G_getf X inX5 0 (eC0 _ _ _) rfl 1 (by decide) qw156 rfl dX5_without_24 ?_
    refine G_iload_n X dX5_without_27 rfl 1 rfl ?_
    obtain ⟨r7, hz8, h⟩ := cl_k h
    refine G_callV_i X (As := [.int x1]) (rest := []) ok_X1_countPapers qw407 2 (eC2 _ _ _) rfl rfl ⟨rfl, rfl, Nat.le_of_ble_eq_true rfl, Nat.le_of_ble_eq_true rfl⟩ (m_X1_countPapers X.d hz8) rfl rfl (Nat.le_of_ble_eq_true rfl) dX5_without_28 ?_
    have e := so h
    subst e
    exact hQ _ _ dX5_without_31
theorem m_X5_without {l : Launch} {F : pfF} (hD : ∀ A, va_D (fA F) (cellsC (fAd F) (fCy F) A)) {x1 : Int32} {A : St} {out : Int32 × St} (h : f_X5_without x1 A = some out) : Mt l F cellsC yX5_without cX5_without 2 (some .int) rm_X5_without [.ref (fAd F 0), .int x1] A (va_Qi (fun (r : Int32) (u : St) => r = out.1 ∧ u = out.2) (Wd cellsC F) (fA F)) := by
  refine Met_i (by decide +kernel) (Nat.le_of_ble_eq_true rfl) hD (fun E el ef X hQ => ?_)
  subst el
  subst ef
  exact b_X5_without X _ _ hQ h
theorem ok_X5_without : OkV yX5_without cX5_without 2 (some .int) 1 := ⟨qw413, qw414, qw1, qw415, by decide, by decide, by decide⟩
noncomputable def f_X1_listPapers_L15 (l1 : Int32) (A : St) : Option ((Int32 × St) ⊕ (St)) :=
  if ((1 : Int32) <<< ((A.1 3 0) &&& 31)) ≤ l1 then
    some (.inr A)
  else
    if 924 ≤ (A.1 2 9) then
      some (.inr A)
    else
      cl (f_X1_brokenRule l1 0 A) fun r10 =>
      if r10 = 0 then
        gI (A.1 2 9) 924 <|
        bv (upI A 40 (A.1 2 9).toNatClampNeg l1) fun A15 =>
        cl (f_X1_valueOf l1 A15) fun r16 =>
        gI (A15.1 2 9) 924 <|
        bv (upD A15 41 (A15.1 2 9).toNatClampNeg r16) fun A19 =>
        bv (upI A19 2 9 ((A19.1 2 9) + 1)) fun A20 =>
        bv (l1 + 1) fun v21 =>
        some (.inl (v21, A20))
      else
        bv (l1 + 1) fun v13 =>
        some (.inl (v13, A))
noncomputable def f_X1_listPapers_X87 (A : St) : Option (St) :=
  some A
noncomputable def f_X1_listPapers (A : St) : Option (St) :=
  cl (f_X1_readRules A) fun A3 =>
  cl (f_X1_readAims A3) fun A6 =>
  bv (upI A6 2 9 0) fun A7 =>
  cl (loop (fun s => f_X1_listPapers_L15 s.1 s.2) (0, A7)) (fun s => f_X1_listPapers_X87 s)
abbrev rm_X1_listPapers : Room := { frames := 4, cells := 0, slots := 0, locals := 102 }
set_option maxHeartbeats 4000000 in
set_option maxRecDepth 100000 in
theorem g_X1_listPapers_L15 {E : pfE} (X : CX cellsC E cX1_listPapers RX1 rm_X1_listPapers 2) : ∀ (n : Nat) (l1 : Int32) (A : St) (ρ : St), lp (fun s => f_X1_listPapers_L15 s.1 s.2) n (l1, A) = some ρ → (∀ (B : St), ρ = B → GG cellsC E B 87 [] []) → GG cellsC E A 15 [(0, .ref (fAd (eF E) 2)), (1, .int l1)] [] := by
  intro n
  induction n with
  | zero =>
    intro l1 A ρ h
    cases h
  | succ n ih =>
    intro l1 A ρ h0 K
    obtain ⟨x, hb, hx⟩ := lp_step h0
    have h : f_X1_listPapers_L15 l1 A = some x := hb
    unfold f_X1_listPapers_L15 at h
    clear hb h0
    refine G_iload_n X dX1_listPapers_15 rfl 1 rfl ?_
    refine G_iconst X (v := 1) dX1_listPapers_16 rfl ?_
    refine G_aload_n X dX1_listPapers_17 rfl 0 rfl ?_
    refine G_getf X inX1 2 (eC2 _ _ _) rfl 0 (by decide) qw78 rfl dX1_listPapers_18 ?_
    refine G_getf X inX0 3 (eC3 _ _ _) rfl 0 (by decide) qw37 rfl dX1_listPapers_21 ?_
    refine G_ishl X dX1_listPapers_24 ?_
    refine G_icge X (tgt := 87) dX1_listPapers_25 (by decide) (fun c8 => ?_) (fun c8 => ?_)
    · have h := if_t c8 h
      exact G_sub [] rfl (K _ (lpr (so h) hx).symm)
    · have h := if_f c8 h
      refine G_aload_n X dX1_listPapers_28 rfl 0 rfl ?_
      refine G_getf X inX1 2 (eC2 _ _ _) rfl 9 (by decide) qw90 rfl dX1_listPapers_29 ?_
      refine G_sipush X (v := 924) dX1_listPapers_32 rfl ?_
      refine G_icge X (tgt := 87) dX1_listPapers_35 (by decide) (fun c9 => ?_) (fun c9 => ?_)
      · have h := if_t c9 h
        exact G_sub [] rfl (K _ (lpr (so h) hx).symm)
      · have h := if_f c9 h
        refine G_aload_n X dX1_listPapers_38 rfl 0 rfl ?_
        refine G_iload_n X dX1_listPapers_39 rfl 1 rfl ?_
        refine G_iconst X (v := 0) dX1_listPapers_40 rfl ?_
        obtain ⟨r10, hz11, h⟩ := cl_k h
        refine G_callV_i X (As := [.int l1, .int 0]) (rest := []) ok_X1_brokenRule qw411 2 (eC2 _ _ _) rfl rfl ⟨rfl, rfl, Nat.le_of_ble_eq_true rfl, Nat.le_of_ble_eq_true rfl⟩ (m_X1_brokenRule X.d hz11) rfl rfl (Nat.le_of_ble_eq_true rfl) dX1_listPapers_41 ?_
        refine G_ifne X (tgt := 81) dX1_listPapers_44 (by decide) (fun c12 => ?_) (fun c12 => ?_)
        · have h := if_t c12 h
          refine G_aload_n X dX1_listPapers_47 rfl 0 rfl ?_
          refine G_getf X inX1 2 (eC2 _ _ _) rfl 7 (by decide) qw88 rfl dX1_listPapers_48 ?_
          refine G_aload_n X dX1_listPapers_51 rfl 0 rfl ?_
          refine G_getf X inX1 2 (eC2 _ _ _) rfl 9 (by decide) qw90 rfl dX1_listPapers_52 ?_
          refine G_iload_n X dX1_listPapers_55 rfl 1 rfl ?_
          have hi14 := gI_n h
          have h := gI_k h
          refine G_iast X (j := (A.1 2 9).toNatClampNeg) 40 (eC40 _ _ _) (sCI _ _ _ _ (A.1 2 9).toNatClampNeg _ _ (fun _ => rfl)) hi14 rfl dX1_listPapers_56 ?_
          refine G_topS (fun A15 eA15 => ?_)
          have h := bv_k eA15 h
          refine G_aload_n X dX1_listPapers_57 rfl 0 rfl ?_
          refine G_getf X inX1 2 (eC2 _ _ _) rfl 8 (by decide) qw89 rfl dX1_listPapers_58 ?_
          refine G_aload_n X dX1_listPapers_61 rfl 0 rfl ?_
          refine G_getf X inX1 2 (eC2 _ _ _) rfl 9 (by decide) qw90 rfl dX1_listPapers_62 ?_
          refine G_aload_n X dX1_listPapers_65 rfl 0 rfl ?_
          refine G_iload_n X dX1_listPapers_66 rfl 1 rfl ?_
          obtain ⟨r16, hz17, h⟩ := cl_k h
          refine G_callV_d X (As := [.int l1]) (rest := [.int (A15.1 2 9), .ref (fAd (eF E) 41)]) ok_X1_valueOf qw426 2 (eC2 _ _ _) rfl rfl ⟨rfl, rfl, Nat.le_of_ble_eq_true rfl, Nat.le_of_ble_eq_true rfl⟩ (m_X1_valueOf X.d hz17) rfl rfl (Nat.le_of_ble_eq_true rfl) dX1_listPapers_67 ?_
          have hi18 := gI_n h
          have h := gI_k h
          refine G_dast X (j := (A15.1 2 9).toNatClampNeg) 41 (eC41 _ _ _) (sCD _ _ _ _ (A15.1 2 9).toNatClampNeg _ _ (fun _ => rfl)) hi18 rfl dX1_listPapers_70 ?_
          refine G_topS (fun A19 eA19 => ?_)
          have h := bv_k eA19 h
          refine G_aload_n X dX1_listPapers_71 rfl 0 rfl ?_
          refine G_dup X dX1_listPapers_72 rfl ?_
          refine G_getf X inX1 2 (eC2 _ _ _) rfl 9 (by decide) qw90 rfl dX1_listPapers_73 ?_
          refine G_iconst X (v := 1) dX1_listPapers_76 rfl ?_
          refine G_iadd X dX1_listPapers_77 ?_
          refine G_putf X (ty := .int) tyX1 tyX1_ok nmX1 inX1 2 (eC2 _ _ _) rfl 9 (by decide) qw90 rfl (by decide +kernel) rfl rfl (Nat.le_of_ble_eq_true rfl) (oCI _ _ _ _ 9 ((A19.1 2 9) + 1) _ rfl) dX1_listPapers_78 ?_
          refine G_topS (fun A20 eA20 => ?_)
          have h := bv_k eA20 h
          obtain ⟨v21, ev21⟩ : ∃ y : Int32, y = l1 + 1 := ⟨_, rfl⟩
          have h := bv_k ev21 h
          refine G_iinc X (q := 1) (v := v21) (lv2 := [(1, .int v21), (0, .ref (fAd (eF E) 2))]) dX1_listPapers_81 rfl (by rw [ev21]; rfl) (by decide) rfl ?_
          refine G_goto X (tgt := 15) dX1_listPapers_84 (by decide) ?_
          exact G_sub [1, 0] rfl (ih _ _ _ (lpl (so h) hx) K)
        · have h := if_f c12 h
          obtain ⟨v13, ev13⟩ : ∃ y : Int32, y = l1 + 1 := ⟨_, rfl⟩
          have h := bv_k ev13 h
          refine G_iinc X (q := 1) (v := v13) (lv2 := [(1, .int v13), (0, .ref (fAd (eF E) 2))]) dX1_listPapers_81 rfl (by rw [ev13]; rfl) (by decide) rfl ?_
          refine G_goto X (tgt := 15) dX1_listPapers_84 (by decide) ?_
          exact G_sub [1, 0] rfl (ih _ _ _ (lpl (so h) hx) K)
set_option maxHeartbeats 4000000 in
set_option maxRecDepth 100000 in
theorem b_X1_listPapers {E : pfE} (X : CX cellsC E cX1_listPapers RX1 rm_X1_listPapers 2) (A : St) {out : St} (hQ : Retv cellsC E cX1_listPapers out) (h : f_X1_listPapers A = some out) : GG cellsC E A 0 [(0, .ref (fAd (eF E) 2))] [] := by
  unfold f_X1_listPapers at h
  refine G_aload_n X dX1_listPapers_0 rfl 0 rfl ?_
  obtain ⟨A3, hz2, h⟩ := cl_k h
  refine G_callV_v X (As := []) (rest := []) ok_X1_readRules qw424 2 (eC2 _ _ _) rfl rfl ⟨rfl, rfl, Nat.le_of_ble_eq_true rfl, Nat.le_of_ble_eq_true rfl⟩ (m_X1_readRules X.d hz2) rfl rfl (Nat.le_of_ble_eq_true rfl) dX1_listPapers_1 ?_
  refine G_aload_n X dX1_listPapers_4 rfl 0 rfl ?_
  obtain ⟨A6, hz5, h⟩ := cl_k h
  refine G_callV_v X (As := []) (rest := []) ok_X1_readAims qw425 2 (eC2 _ _ _) rfl rfl ⟨rfl, rfl, Nat.le_of_ble_eq_true rfl, Nat.le_of_ble_eq_true rfl⟩ (m_X1_readAims X.d hz5) rfl rfl (Nat.le_of_ble_eq_true rfl) dX1_listPapers_5 ?_
  refine G_aload_n X dX1_listPapers_8 rfl 0 rfl ?_
  refine G_iconst X (v := 0) dX1_listPapers_9 rfl ?_
  refine G_putf X (ty := .int) tyX1 tyX1_ok nmX1 inX1 2 (eC2 _ _ _) rfl 9 (by decide) qw90 rfl (by decide +kernel) rfl rfl (Nat.le_of_ble_eq_true rfl) (oCI _ _ _ _ 9 0 _ rfl) dX1_listPapers_10 ?_
  refine G_topS (fun A7 eA7 => ?_)
  have h := bv_k eA7 h
  refine G_iconst X (v := 0) dX1_listPapers_13 rfl ?_
  refine G_istore_n X (lv2 := [(1, .int 0), (0, .ref (fAd (eF E) 2))]) dX1_listPapers_14 rfl (by decide) rfl ?_
  obtain ⟨ρ, hl, h⟩ := cl_k h
  obtain ⟨n, hl⟩ := loop_some hl
  refine G_sub [1, 0] rfl (g_X1_listPapers_L15 X n _ _ ρ hl ?_)
  intro A22 e
  rw [e] at h
  have h : f_X1_listPapers_X87 A22 = some _ := h
  unfold f_X1_listPapers_X87 at h
  have e := so h
  subst e
  exact hQ _ _ dX1_listPapers_87
theorem m_X1_listPapers {l : Launch} {F : pfF} (hD : ∀ A, va_D (fA F) (cellsC (fAd F) (fCy F) A)) {A : St} {out : St} (h : f_X1_listPapers A = some out) : Mt l F cellsC yX1_listPapers cX1_listPapers 2 none rm_X1_listPapers [.ref (fAd F 2)] A (va_Qv (fun (u : St) => u = out) (Wd cellsC F) (fA F)) := by
  refine Met_v (by decide +kernel) (Nat.le_of_ble_eq_true rfl) hD (fun E el ef X hQ => ?_)
  subst el
  subst ef
  exact b_X1_listPapers X _ hQ h
theorem ok_X1_listPapers : OkV yX1_listPapers cX1_listPapers 2 none 0 := ⟨qw421, qw422, qw2, qw423, by decide, by decide, by decide⟩
