noncomputable def f_X5_standingOnAll_L4 (A : St) (l1 : Int32) (l2 : Int32) : Option ((Int32 × Int32) ⊕ (Int32)) :=
  if 4 ≤ l2 then
    some (.inr l1)
  else
    gI l2 4 <|
    cl (f_X4_standing l2.toNatClampNeg A) fun r4 =>
    bv (l1 + r4) fun v6 =>
    bv (l2 + 1) fun v7 =>
    some (.inl (v6, v7))
noncomputable def f_X5_standingOnAll_X27 (A : St) (m1 : Int32) : Option (Int32) :=
  some m1
noncomputable def f_X5_standingOnAll (A : St) : Option (Int32) :=
  cl (loop (fun s => f_X5_standingOnAll_L4 A s.1 s.2) (0, 0)) (fun s => f_X5_standingOnAll_X27 A s)
abbrev rm_X5_standingOnAll : Room := { frames := 2, cells := 0, slots := 0, locals := 43 }
set_option maxHeartbeats 4000000 in
set_option maxRecDepth 100000 in
theorem g_X5_standingOnAll_L4 {E : pfE} (X : CX cellsC E cX5_standingOnAll RX5 rm_X5_standingOnAll 3) (A : St) : ∀ (n : Nat) (l1 : Int32) (l2 : Int32) (ρ : Int32), lp (fun s => f_X5_standingOnAll_L4 A s.1 s.2) n (l1, l2) = some ρ → (∀ (q1 : Int32), ρ = q1 → GG cellsC E A 27 [(1, .int q1)] []) → GG cellsC E A 4 [(0, .ref (fAd (eF E) 0)), (1, .int l1), (2, .int l2)] [] := by
  intro n
  induction n with
  | zero =>
    intro l1 l2 ρ h
    cases h
  | succ n ih =>
    intro l1 l2 ρ h0 K
    obtain ⟨x, hb, hx⟩ := lp_step h0
    have h : f_X5_standingOnAll_L4 A l1 l2 = some x := hb
    unfold f_X5_standingOnAll_L4 at h
    clear hb h0
    refine G_iload_n X dX5_standingOnAll_4 rfl 2 rfl ?_
    refine G_iconst X (v := 4) dX5_standingOnAll_5 rfl ?_
    refine G_icge X (tgt := 27) dX5_standingOnAll_6 (by decide) (fun c1 => ?_) (fun c1 => ?_)
    · have h := if_t c1 h
      exact G_sub [1] rfl (K _ (lpr (so h) hx).symm)
    · have h := if_f c1 h
      refine G_iload_n X dX5_standingOnAll_9 rfl 1 rfl ?_
      refine G_aload_n X dX5_standingOnAll_10 rfl 0 rfl ?_
      refine G_getf X inX5 0 (eC0 _ _ _) rfl 5 (by decide) qw160 rfl dX5_standingOnAll_11 ?_
      refine G_iload_n X dX5_standingOnAll_14 rfl 2 rfl ?_
      have hi2 := gI_n h
      have h := gI_k h
      have hw3 := vlt hi2
      refine G_aald X (t0 := 6) (b := fAd (eF E) (43 + l2.toNatClampNeg)) 42 (eC42 _ _ _) rfl rfl hi2 (if_pos hw3) dX5_standingOnAll_15 ?_
      obtain ⟨r4, hz5, h⟩ := cl_k h
      refine G_callV_i X (As := []) (rest := [.int l1]) ok_X4_standing qw506 (43 + l2.toNatClampNeg) (eCf43 _ _ _ _ hw3) rfl rfl ⟨rfl, rfl, Nat.le_of_ble_eq_true rfl, Nat.le_of_ble_eq_true rfl⟩ (m_X4_standing X.d hw3 hz5) rfl rfl (Nat.le_of_ble_eq_true rfl) dX5_standingOnAll_16 ?_
      refine G_iadd X dX5_standingOnAll_19 ?_
      refine G_topi (fun v6 ev6 => ?_)
      have h := bv_k ev6 h
      refine G_istore_n X (lv2 := [(1, .int v6), (0, .ref (fAd (eF E) 0)), (2, .int l2)]) dX5_standingOnAll_20 rfl (by decide) rfl ?_
      obtain ⟨v7, ev7⟩ : ∃ y : Int32, y = l2 + 1 := ⟨_, rfl⟩
      have h := bv_k ev7 h
      refine G_iinc X (q := 2) (v := v7) (lv2 := [(2, .int v7), (1, .int v6), (0, .ref (fAd (eF E) 0))]) dX5_standingOnAll_21 rfl (by rw [ev7]; rfl) (by decide) rfl ?_
      refine G_goto X (tgt := 4) dX5_standingOnAll_24 (by decide) ?_
      exact G_sub [2, 1, 0] rfl (ih _ _ _ (lpl (so h) hx) K)
set_option maxHeartbeats 4000000 in
set_option maxRecDepth 100000 in
theorem b_X5_standingOnAll {E : pfE} (X : CX cellsC E cX5_standingOnAll RX5 rm_X5_standingOnAll 3) (A : St) {out : Int32} (hQ : Reti cellsC E cX5_standingOnAll out A) (h : f_X5_standingOnAll A = some out) : GG cellsC E A 0 [(0, .ref (fAd (eF E) 0))] [] := by
  unfold f_X5_standingOnAll at h
  refine G_iconst X (v := 0) dX5_standingOnAll_0 rfl ?_
  refine G_istore_n X (lv2 := [(1, .int 0), (0, .ref (fAd (eF E) 0))]) dX5_standingOnAll_1 rfl (by decide) rfl ?_
  refine G_iconst X (v := 0) dX5_standingOnAll_2 rfl ?_
  refine G_istore_n X (lv2 := [(2, .int 0), (1, .int 0), (0, .ref (fAd (eF E) 0))]) dX5_standingOnAll_3 rfl (by decide) rfl ?_
  obtain ⟨ρ, hl, h⟩ := cl_k h
  obtain ⟨n, hl⟩ := loop_some hl
  refine G_sub [2, 1, 0] rfl (g_X5_standingOnAll_L4 X A n _ _ ρ hl ?_)
  intro v8 e
  rw [e] at h
  have h : f_X5_standingOnAll_X27 A v8 = some _ := h
  unfold f_X5_standingOnAll_X27 at h
  refine G_iload_n X dX5_standingOnAll_27 rfl 0 rfl ?_
  have e := so h
  subst e
  exact hQ _ _ dX5_standingOnAll_28
theorem m_X5_standingOnAll {l : Launch} {F : pfF} (hD : ∀ A, va_D (fA F) (cellsC (fAd F) (fCy F) A)) {A : St} {out : Int32} (h : f_X5_standingOnAll A = some out) : Mt l F cellsC yX5_standingOnAll cX5_standingOnAll 3 (some .int) rm_X5_standingOnAll [.ref (fAd F 0)] A (va_Qi (fun (r : Int32) (u : St) => r = out ∧ u = A) (Wd cellsC F) (fA F)) := by
  refine Met_i (by decide +kernel) (Nat.le_of_ble_eq_true rfl) hD (fun E el ef X hQ => ?_)
  subst el
  subst ef
  exact b_X5_standingOnAll X _ hQ h
theorem ok_X5_standingOnAll : OkV yX5_standingOnAll cX5_standingOnAll 3 (some .int) 0 := ⟨qw638, qs7, qw1, qw639, by decide, by decide, by decide⟩
noncomputable def f_X0_total_L4 (A : St) (l1 : Int32) (l2 : Int32) (l3 : Int32) : Option ((Int32 × Int32) ⊕ (Int32)) :=
  if (A.1 3 0) ≤ l3 then
    some (.inr l2)
  else
    gI l1 8 <|
    gI l3 12 <|
    bv (l2 + (A.1 (5 + l1.toNatClampNeg) l3.toNatClampNeg)) fun v5 =>
    bv (l3 + 1) fun v6 =>
    some (.inl (v5, v6))
noncomputable def f_X0_total_X29 (A : St) (m2 : Int32) : Option (Int32) :=
  some m2
noncomputable def f_X0_total (x1 : Int32) (A : St) : Option (Int32) :=
  cl (loop (fun s => f_X0_total_L4 A x1 s.1 s.2) (0, 0)) (fun s => f_X0_total_X29 A s)
abbrev rm_X0_total : Room := { frames := 0, cells := 0, slots := 0, locals := 0 }
set_option maxHeartbeats 4000000 in
set_option maxRecDepth 100000 in
theorem g_X0_total_L4 {E : pfE} (X : CX cellsC E cX0_total RX0 rm_X0_total 4) (A : St) (l1 : Int32) : ∀ (n : Nat) (l2 : Int32) (l3 : Int32) (ρ : Int32), lp (fun s => f_X0_total_L4 A l1 s.1 s.2) n (l2, l3) = some ρ → (∀ (q2 : Int32), ρ = q2 → GG cellsC E A 29 [(2, .int q2)] []) → GG cellsC E A 4 [(0, .ref (fAd (eF E) 3)), (1, .int l1), (2, .int l2), (3, .int l3)] [] := by
  intro n
  induction n with
  | zero =>
    intro l2 l3 ρ h
    cases h
  | succ n ih =>
    intro l2 l3 ρ h0 K
    obtain ⟨x, hb, hx⟩ := lp_step h0
    have h : f_X0_total_L4 A l1 l2 l3 = some x := hb
    unfold f_X0_total_L4 at h
    clear hb h0
    refine G_iload_n X dX0_total_4 rfl 3 rfl ?_
    refine G_aload_n X dX0_total_5 rfl 0 rfl ?_
    refine G_getf X inX0 3 (eC3 _ _ _) rfl 0 (by decide) qw35 rfl dX0_total_6 ?_
    refine G_icge X (tgt := 29) dX0_total_9 (by decide) (fun c1 => ?_) (fun c1 => ?_)
    · have h := if_t c1 h
      exact G_sub [2] rfl (K _ (lpr (so h) hx).symm)
    · have h := if_f c1 h
      refine G_iload_n X dX0_total_12 rfl 2 rfl ?_
      refine G_aload_n X dX0_total_13 rfl 0 rfl ?_
      refine G_getf X inX0 3 (eC3 _ _ _) rfl 1 (by decide) qw38 rfl dX0_total_14 ?_
      refine G_iload_n X dX0_total_17 rfl 1 rfl ?_
      have hi2 := gI_n h
      have h := gI_k h
      have hw3 := vlt hi2
      refine G_aald X (t0 := 3) (b := fAd (eF E) (5 + l1.toNatClampNeg)) 4 (eC4 _ _ _) rfl rfl hi2 (if_pos hw3) dX0_total_18 ?_
      refine G_iload_n X dX0_total_19 rfl 3 rfl ?_
      have hi4 := gI_n h
      have h := gI_k h
      refine G_iald X (j := l3.toNatClampNeg) (5 + l1.toNatClampNeg) (eCf5 _ _ _ _ hw3) hi4 rfl dX0_total_20 ?_
      refine G_iadd X dX0_total_21 ?_
      refine G_topi (fun v5 ev5 => ?_)
      have h := bv_k ev5 h
      refine G_istore_n X (lv2 := [(2, .int v5), (0, .ref (fAd (eF E) 3)), (1, .int l1), (3, .int l3)]) dX0_total_22 rfl (by decide) rfl ?_
      obtain ⟨v6, ev6⟩ : ∃ y : Int32, y = l3 + 1 := ⟨_, rfl⟩
      have h := bv_k ev6 h
      refine G_iinc X (q := 3) (v := v6) (lv2 := [(3, .int v6), (2, .int v5), (0, .ref (fAd (eF E) 3)), (1, .int l1)]) dX0_total_23 rfl (by rw [ev6]; rfl) (by decide) rfl ?_
      refine G_goto X (tgt := 4) dX0_total_26 (by decide) ?_
      exact G_sub [2, 3, 1, 0] rfl (ih _ _ _ (lpl (so h) hx) K)
set_option maxHeartbeats 4000000 in
set_option maxRecDepth 100000 in
theorem b_X0_total {E : pfE} (X : CX cellsC E cX0_total RX0 rm_X0_total 4) (x1 : Int32) (A : St) {out : Int32} (hQ : Reti cellsC E cX0_total out A) (h : f_X0_total x1 A = some out) : GG cellsC E A 0 [(0, .ref (fAd (eF E) 3)), (1, .int x1)] [] := by
  unfold f_X0_total at h
  refine G_iconst X (v := 0) dX0_total_0 rfl ?_
  refine G_istore_n X (lv2 := [(2, .int 0), (0, .ref (fAd (eF E) 3)), (1, .int x1)]) dX0_total_1 rfl (by decide) rfl ?_
  refine G_iconst X (v := 0) dX0_total_2 rfl ?_
  refine G_istore_n X (lv2 := [(3, .int 0), (2, .int 0), (0, .ref (fAd (eF E) 3)), (1, .int x1)]) dX0_total_3 rfl (by decide) rfl ?_
  obtain ⟨ρ, hl, h⟩ := cl_k h
  obtain ⟨n, hl⟩ := loop_some hl
  refine G_sub [2, 3, 1, 0] rfl (g_X0_total_L4 X A x1 n _ _ ρ hl ?_)
  intro v7 e
  rw [e] at h
  have h : f_X0_total_X29 A v7 = some _ := h
  unfold f_X0_total_X29 at h
  refine G_iload_n X dX0_total_29 rfl 0 rfl ?_
  have e := so h
  subst e
  exact hQ _ _ dX0_total_30
theorem m_X0_total {l : Launch} {F : pfF} (hD : ∀ A, va_D (fA F) (cellsC (fAd F) (fCy F) A)) {x1 : Int32} {A : St} {out : Int32} (h : f_X0_total x1 A = some out) : Mt l F cellsC yX0_total cX0_total 4 (some .int) rm_X0_total [.ref (fAd F 3), .int x1] A (va_Qi (fun (r : Int32) (u : St) => r = out ∧ u = A) (Wd cellsC F) (fA F)) := by
  refine Met_i (by decide +kernel) (Nat.le_of_ble_eq_true rfl) hD (fun E el ef X hQ => ?_)
  subst el
  subst ef
  exact b_X0_total X _ _ hQ h
theorem ok_X0_total : OkV yX0_total cX0_total 4 (some .int) 1 := ⟨qw633, qw634, qw3, qw635, by decide, by decide, by decide⟩
noncomputable def f_X0_twosOfEnemies_L4 (A : St) (l1 : Int32) (l2 : Int32) : Option ((Int32 × Int32) ⊕ (Int32)) :=
  if (A.1 3 0) ≤ l2 then
    some (.inr l1)
  else
    gI l2 12 <|
    cl (f_J6_bitCount_0f7a4 (A.1 12 l2.toNatClampNeg)) fun r3 =>
    bv (l1 + r3) fun v5 =>
    bv (l2 + 1) fun v6 =>
    some (.inl (v5, v6))
noncomputable def f_X0_twosOfEnemies_X33 (A : St) (m1 : Int32) : Option (Int32) :=
  some (m1 / (2 : Int32))
noncomputable def f_X0_twosOfEnemies (A : St) : Option (Int32) :=
  cl (loop (fun s => f_X0_twosOfEnemies_L4 A s.1 s.2) (0, 0)) (fun s => f_X0_twosOfEnemies_X33 A s)
abbrev rm_X0_twosOfEnemies : Room := { frames := 1, cells := 0, slots := 0, locals := 20 }
set_option maxHeartbeats 4000000 in
set_option maxRecDepth 100000 in
theorem g_X0_twosOfEnemies_L4 {E : pfE} (X : CX cellsC E cX0_twosOfEnemies RX0 rm_X0_twosOfEnemies 3) (A : St) : ∀ (n : Nat) (l1 : Int32) (l2 : Int32) (ρ : Int32), lp (fun s => f_X0_twosOfEnemies_L4 A s.1 s.2) n (l1, l2) = some ρ → (∀ (q1 : Int32), ρ = q1 → GG cellsC E A 33 [(1, .int q1)] []) → GG cellsC E A 4 [(0, .ref (fAd (eF E) 3)), (1, .int l1), (2, .int l2)] [] := by
  intro n
  induction n with
  | zero =>
    intro l1 l2 ρ h
    cases h
  | succ n ih =>
    intro l1 l2 ρ h0 K
    obtain ⟨x, hb, hx⟩ := lp_step h0
    have h : f_X0_twosOfEnemies_L4 A l1 l2 = some x := hb
    unfold f_X0_twosOfEnemies_L4 at h
    clear hb h0
    refine G_iload_n X dX0_twosOfEnemies_4 rfl 2 rfl ?_
    refine G_aload_n X dX0_twosOfEnemies_5 rfl 0 rfl ?_
    refine G_getf X inX0 3 (eC3 _ _ _) rfl 0 (by decide) qw35 rfl dX0_twosOfEnemies_6 ?_
    refine G_icge X (tgt := 33) dX0_twosOfEnemies_9 (by decide) (fun c1 => ?_) (fun c1 => ?_)
    · have h := if_t c1 h
      exact G_sub [1] rfl (K _ (lpr (so h) hx).symm)
    · have h := if_f c1 h
      refine G_iload_n X dX0_twosOfEnemies_12 rfl 1 rfl ?_
      refine G_aload_n X dX0_twosOfEnemies_13 rfl 0 rfl ?_
      refine G_getf X inX0 3 (eC3 _ _ _) rfl 1 (by decide) qw38 rfl dX0_twosOfEnemies_14 ?_
      refine G_bipush X (v := 7) dX0_twosOfEnemies_17 rfl ?_
      refine G_aald X (t0 := 3) (b := fAd (eF E) 12) 4 (eC4 _ _ _) rfl rfl (vi rfl) rfl dX0_twosOfEnemies_19 ?_
      refine G_iload_n X dX0_twosOfEnemies_20 rfl 2 rfl ?_
      have hi2 := gI_n h
      have h := gI_k h
      refine G_iald X (j := l2.toNatClampNeg) 12 (eC12 _ _ _) hi2 rfl dX0_twosOfEnemies_21 ?_
      obtain ⟨r3, hz4, h⟩ := cl_k h
      refine G_callS_i X (As := [.int (A.1 12 l2.toNatClampNeg)]) (rest := [.int l1]) ok_J6_bitCount_0f7a4 qw631 ⟨rfl, rfl, Nat.le_of_ble_eq_true rfl, Nat.le_of_ble_eq_true rfl⟩ (m_J6_bitCount_0f7a4 X.d hz4) rfl rfl (Nat.le_of_ble_eq_true rfl) dX0_twosOfEnemies_22 ?_
      refine G_iadd X dX0_twosOfEnemies_25 ?_
      refine G_topi (fun v5 ev5 => ?_)
      have h := bv_k ev5 h
      refine G_istore_n X (lv2 := [(1, .int v5), (0, .ref (fAd (eF E) 3)), (2, .int l2)]) dX0_twosOfEnemies_26 rfl (by decide) rfl ?_
      obtain ⟨v6, ev6⟩ : ∃ y : Int32, y = l2 + 1 := ⟨_, rfl⟩
      have h := bv_k ev6 h
      refine G_iinc X (q := 2) (v := v6) (lv2 := [(2, .int v6), (1, .int v5), (0, .ref (fAd (eF E) 3))]) dX0_twosOfEnemies_27 rfl (by rw [ev6]; rfl) (by decide) rfl ?_
      refine G_goto X (tgt := 4) dX0_twosOfEnemies_30 (by decide) ?_
      exact G_sub [2, 1, 0] rfl (ih _ _ _ (lpl (so h) hx) K)
set_option maxHeartbeats 4000000 in
set_option maxRecDepth 100000 in
theorem b_X0_twosOfEnemies {E : pfE} (X : CX cellsC E cX0_twosOfEnemies RX0 rm_X0_twosOfEnemies 3) (A : St) {out : Int32} (hQ : Reti cellsC E cX0_twosOfEnemies out A) (h : f_X0_twosOfEnemies A = some out) : GG cellsC E A 0 [(0, .ref (fAd (eF E) 3))] [] := by
  unfold f_X0_twosOfEnemies at h
  refine G_iconst X (v := 0) dX0_twosOfEnemies_0 rfl ?_
  refine G_istore_n X (lv2 := [(1, .int 0), (0, .ref (fAd (eF E) 3))]) dX0_twosOfEnemies_1 rfl (by decide) rfl ?_
  refine G_iconst X (v := 0) dX0_twosOfEnemies_2 rfl ?_
  refine G_istore_n X (lv2 := [(2, .int 0), (1, .int 0), (0, .ref (fAd (eF E) 3))]) dX0_twosOfEnemies_3 rfl (by decide) rfl ?_
  obtain ⟨ρ, hl, h⟩ := cl_k h
  obtain ⟨n, hl⟩ := loop_some hl
  refine G_sub [2, 1, 0] rfl (g_X0_twosOfEnemies_L4 X A n _ _ ρ hl ?_)
  intro v7 e
  rw [e] at h
  have h : f_X0_twosOfEnemies_X33 A v7 = some _ := h
  unfold f_X0_twosOfEnemies_X33 at h
  refine G_iload_n X dX0_twosOfEnemies_33 rfl 0 rfl ?_
  refine G_iconst X (v := 2) dX0_twosOfEnemies_34 rfl ?_
  refine G_idiv X dX0_twosOfEnemies_35 (by decide) ?_
  have e := so h
  subst e
  exact hQ _ _ dX0_twosOfEnemies_36
theorem m_X0_twosOfEnemies {l : Launch} {F : pfF} (hD : ∀ A, va_D (fA F) (cellsC (fAd F) (fCy F) A)) {A : St} {out : Int32} (h : f_X0_twosOfEnemies A = some out) : Mt l F cellsC yX0_twosOfEnemies cX0_twosOfEnemies 3 (some .int) rm_X0_twosOfEnemies [.ref (fAd F 3)] A (va_Qi (fun (r : Int32) (u : St) => r = out ∧ u = A) (Wd cellsC F) (fA F)) := by
  refine Met_i (by decide +kernel) (Nat.le_of_ble_eq_true rfl) hD (fun E el ef X hQ => ?_)
  subst el
  subst ef
  exact b_X0_twosOfEnemies X _ hQ h
theorem ok_X0_twosOfEnemies : OkV yX0_twosOfEnemies cX0_twosOfEnemies 3 (some .int) 0 := ⟨qw628, qw629, qw3, qw630, by decide, by decide, by decide⟩
noncomputable def f_X5_count (x1 : Int32) (A : St) : Option (Int32 × St) :=
  if x1 = 0 then
    some (A.1 3 0, A)
  else
    if x1 = 1 then
      cl (f_X0_twosOfEnemies A) fun r16 =>
      some (r16, A)
    else
      if x1 = 2 then
        cl (f_X0_total 6 A) fun r14 =>
        some (r14, A)
      else
        if x1 = 3 then
          cl (f_X0_total 2 A) fun r12 =>
          some (r12, A)
        else
          if x1 = 4 then
            some (A.1 3 7, A)
          else
            if x1 = 5 then
              cl (f_X5_standingOnAll A) fun r10 =>
              some (r10, A)
            else
              cl2 (f_X5_finding 0 A) fun r7 A9 =>
              some (r7, A9)
abbrev rm_X5_count : Room := { frames := 3, cells := 0, slots := 0, locals := 65 }
set_option maxHeartbeats 4000000 in
set_option maxRecDepth 100000 in
theorem b_X5_count {E : pfE} (X : CX cellsC E cX5_count RX5 rm_X5_count 2) (x1 : Int32) (A : St) {out : Int32 × St} (hQ : Reti cellsC E cX5_count out.1 out.2) (h : f_X5_count x1 A = some out) : GG cellsC E A 0 [(0, .ref (fAd (eF E) 0)), (1, .int x1)] [] := by
  unfold f_X5_count at h
  refine G_iload_n X dX5_count_0 rfl 1 rfl ?_
  by_cases c1 : x1 = 0
  · have h := if_t c1 h
    refine G_tabIn X dX5_count_1 (by rw [c1]; decide) (by rw [c1]; decide) (off := 39) (by rw [c1]; rfl) (tgt := 40) (by decide) ?_
    refine G_aload_n X dX5_count_40 rfl 0 rfl ?_
    refine G_getf X inX5 0 (eC0 _ _ _) rfl 2 (by decide) qw157 rfl dX5_count_41 ?_
    refine G_getf X inX0 3 (eC3 _ _ _) rfl 0 (by decide) qw36 rfl dX5_count_44 ?_
    have e := so h
    subst e
    exact hQ _ _ dX5_count_47
  · have h := if_f c1 h
    by_cases c2 : x1 = 1
    · have h := if_t c2 h
      refine G_tabIn X dX5_count_1 (by rw [c2]; decide) (by rw [c2]; decide) (off := 47) (by rw [c2]; rfl) (tgt := 48) (by decide) ?_
      refine G_aload_n X dX5_count_48 rfl 0 rfl ?_
      refine G_getf X inX5 0 (eC0 _ _ _) rfl 2 (by decide) qw157 rfl dX5_count_49 ?_
      obtain ⟨r16, hz17, h⟩ := cl_k h
      refine G_callV_i X (As := []) (rest := []) ok_X0_twosOfEnemies qw627 3 (eC3 _ _ _) rfl rfl ⟨rfl, rfl, Nat.le_of_ble_eq_true rfl, Nat.le_of_ble_eq_true rfl⟩ (m_X0_twosOfEnemies X.d hz17) rfl rfl (Nat.le_of_ble_eq_true rfl) dX5_count_52 ?_
      have e := so h
      subst e
      exact hQ _ _ dX5_count_55
    · have h := if_f c2 h
      by_cases c3 : x1 = 2
      · have h := if_t c3 h
        refine G_tabIn X dX5_count_1 (by rw [c3]; decide) (by rw [c3]; decide) (off := 55) (by rw [c3]; rfl) (tgt := 56) (by decide) ?_
        refine G_aload_n X dX5_count_56 rfl 0 rfl ?_
        refine G_getf X inX5 0 (eC0 _ _ _) rfl 2 (by decide) qw157 rfl dX5_count_57 ?_
        refine G_bipush X (v := 6) dX5_count_60 rfl ?_
        obtain ⟨r14, hz15, h⟩ := cl_k h
        refine G_callV_i X (As := [.int 6]) (rest := []) ok_X0_total qw632 3 (eC3 _ _ _) rfl rfl ⟨rfl, rfl, Nat.le_of_ble_eq_true rfl, Nat.le_of_ble_eq_true rfl⟩ (m_X0_total X.d hz15) rfl rfl (Nat.le_of_ble_eq_true rfl) dX5_count_62 ?_
        have e := so h
        subst e
        exact hQ _ _ dX5_count_65
      · have h := if_f c3 h
        by_cases c4 : x1 = 3
        · have h := if_t c4 h
          refine G_tabIn X dX5_count_1 (by rw [c4]; decide) (by rw [c4]; decide) (off := 65) (by rw [c4]; rfl) (tgt := 66) (by decide) ?_
          refine G_aload_n X dX5_count_66 rfl 0 rfl ?_
          refine G_getf X inX5 0 (eC0 _ _ _) rfl 2 (by decide) qw157 rfl dX5_count_67 ?_
          refine G_iconst X (v := 2) dX5_count_70 rfl ?_
          obtain ⟨r12, hz13, h⟩ := cl_k h
          refine G_callV_i X (As := [.int 2]) (rest := []) ok_X0_total qw632 3 (eC3 _ _ _) rfl rfl ⟨rfl, rfl, Nat.le_of_ble_eq_true rfl, Nat.le_of_ble_eq_true rfl⟩ (m_X0_total X.d hz13) rfl rfl (Nat.le_of_ble_eq_true rfl) dX5_count_71 ?_
          have e := so h
          subst e
          exact hQ _ _ dX5_count_74
        · have h := if_f c4 h
          by_cases c5 : x1 = 4
          · have h := if_t c5 h
            refine G_tabIn X dX5_count_1 (by rw [c5]; decide) (by rw [c5]; decide) (off := 74) (by rw [c5]; rfl) (tgt := 75) (by decide) ?_
            refine G_aload_n X dX5_count_75 rfl 0 rfl ?_
            refine G_getf X inX5 0 (eC0 _ _ _) rfl 2 (by decide) qw157 rfl dX5_count_76 ?_
            refine G_getf X inX0 3 (eC3 _ _ _) rfl 7 (by decide) qw57 rfl dX5_count_79 ?_
            have e := so h
            subst e
            exact hQ _ _ dX5_count_82
          · have h := if_f c5 h
            by_cases c6 : x1 = 5
            · have h := if_t c6 h
              refine G_tabIn X dX5_count_1 (by rw [c6]; decide) (by rw [c6]; decide) (off := 82) (by rw [c6]; rfl) (tgt := 83) (by decide) ?_
              refine G_aload_n X dX5_count_83 rfl 0 rfl ?_
              obtain ⟨r10, hz11, h⟩ := cl_k h
              refine G_callV_i X (As := []) (rest := []) ok_X5_standingOnAll qw636 0 (eC0 _ _ _) rfl rfl ⟨rfl, rfl, Nat.le_of_ble_eq_true rfl, Nat.le_of_ble_eq_true rfl⟩ (m_X5_standingOnAll X.d hz11) rfl rfl (Nat.le_of_ble_eq_true rfl) dX5_count_84 ?_
              have e := so h
              subst e
              exact hQ _ _ dX5_count_87
            · have h := if_f c6 h
              refine G_tabOut X dX5_count_1 (by have t0 := lv_neT (k := 0) (a := 0) c1 (by decide); have t1 := lv_neT (k := 1) (a := 1) c2 (by decide); have t2 := lv_neT (k := 2) (a := 2) c3 (by decide); have t3 := lv_neT (k := 3) (a := 3) c4 (by decide); have t4 := lv_neT (k := 4) (a := 4) c5 (by decide); have t5 := lv_neT (k := 5) (a := 5) c6 (by decide); omega) (tgt := 88) (by decide) ?_
              refine G_aload_n X dX5_count_88 rfl 0 rfl ?_
              refine G_iconst X (v := 0) dX5_count_89 rfl ?_
              obtain ⟨r7, A9, hz8, h⟩ := cl2_k h
              refine G_callV_i X (As := [.int 0]) (rest := []) ok_X5_finding qw191 0 (eC0 _ _ _) rfl rfl ⟨rfl, rfl, Nat.le_of_ble_eq_true rfl, Nat.le_of_ble_eq_true rfl⟩ (m_X5_finding X.d hz8) rfl rfl (Nat.le_of_ble_eq_true rfl) dX5_count_90 ?_
              have e := so h
              subst e
              exact hQ _ _ dX5_count_93
theorem m_X5_count {l : Launch} {F : pfF} (hD : ∀ A, va_D (fA F) (cellsC (fAd F) (fCy F) A)) {x1 : Int32} {A : St} {out : Int32 × St} (h : f_X5_count x1 A = some out) : Mt l F cellsC yX5_count cX5_count 2 (some .int) rm_X5_count [.ref (fAd F 0), .int x1] A (va_Qi (fun (r : Int32) (u : St) => r = out.1 ∧ u = out.2) (Wd cellsC F) (fA F)) := by
  refine Met_i (by decide +kernel) (Nat.le_of_ble_eq_true rfl) hD (fun E el ef X hQ => ?_)
  subst el
  subst ef
  exact b_X5_count X _ _ hQ h
theorem ok_X5_count : OkV yX5_count cX5_count 2 (some .int) 1 := ⟨qw624, qw625, qw1, qw626, by decide, by decide, by decide⟩
noncomputable def f_X5_status_L31 (A : St) (l2 : Int32) (l3 : Int32) : Option ((Int32 × Int32) ⊕ (Int32)) :=
  if 8 ≤ l3 then
    some (.inr l2)
  else
    gI l3 8 <|
    bv (l2 + (A.1 1 l3.toNatClampNeg)) fun v7 =>
    bv (l3 + 1) fun v8 =>
    some (.inl (v7, v8))
noncomputable def f_X5_status_X52 (A : St) (m2 : Int32) : Option (Int32 × St) :=
  some (m2, A)
noncomputable def f_X5_status (x1 : Int32) (A : St) : Option (Int32 × St) :=
  cl (f_X5_within x1 (-1) 7) fun r1 =>
  if (bI r1) = 0 then
    cl2 (f_X5_finding 0 A) fun r11 A13 =>
    some (r11, A13)
  else
    if x1 < 0 then
      cl (loop (fun s => f_X5_status_L31 A s.1 s.2) (0, 0)) (fun s => f_X5_status_X52 A s)
    else
      gI x1 8 <|
      some (A.1 1 x1.toNatClampNeg, A)
abbrev rm_X5_status : Room := { frames := 1, cells := 0, slots := 0, locals := 22 }
set_option maxHeartbeats 4000000 in
set_option maxRecDepth 100000 in
theorem g_X5_status_L31 {E : pfE} (X : CX cellsC E cX5_status RX5 rm_X5_status 4) (A : St) : ∀ (n : Nat) (l2 : Int32) (l3 : Int32) (ρ : Int32), lp (fun s => f_X5_status_L31 A s.1 s.2) n (l2, l3) = some ρ → (∀ (q2 : Int32), ρ = q2 → GG cellsC E A 52 [(2, .int q2)] []) → GG cellsC E A 31 [(0, .ref (fAd (eF E) 0)), (2, .int l2), (3, .int l3)] [] := by
  intro n
  induction n with
  | zero =>
    intro l2 l3 ρ h
    cases h
  | succ n ih =>
    intro l2 l3 ρ h0 K
    obtain ⟨x, hb, hx⟩ := lp_step h0
    have h : f_X5_status_L31 A l2 l3 = some x := hb
    unfold f_X5_status_L31 at h
    clear hb h0
    refine G_iload_n X dX5_status_31 rfl 2 rfl ?_
    refine G_bipush X (v := 8) dX5_status_32 rfl ?_
    refine G_icge X (tgt := 52) dX5_status_34 (by decide) (fun c5 => ?_) (fun c5 => ?_)
    · have h := if_t c5 h
      exact G_sub [1] rfl (K _ (lpr (so h) hx).symm)
    · have h := if_f c5 h
      refine G_iload_n X dX5_status_37 rfl 1 rfl ?_
      refine G_aload_n X dX5_status_38 rfl 0 rfl ?_
      refine G_getf X inX5 0 (eC0 _ _ _) rfl 0 (by decide) qw155 rfl dX5_status_39 ?_
      refine G_iload_n X dX5_status_42 rfl 2 rfl ?_
      have hi6 := gI_n h
      have h := gI_k h
      refine G_iald X (j := l3.toNatClampNeg) 1 (eC1 _ _ _) hi6 rfl dX5_status_43 ?_
      refine G_iadd X dX5_status_44 ?_
      refine G_topi (fun v7 ev7 => ?_)
      have h := bv_k ev7 h
      refine G_istore_n X (lv2 := [(2, .int v7), (0, .ref (fAd (eF E) 0)), (3, .int l3)]) dX5_status_45 rfl (by decide) rfl ?_
      obtain ⟨v8, ev8⟩ : ∃ y : Int32, y = l3 + 1 := ⟨_, rfl⟩
      have h := bv_k ev8 h
      refine G_iinc X (q := 2) (v := v8) (lv2 := [(3, .int v8), (2, .int v7), (0, .ref (fAd (eF E) 0))]) dX5_status_46 rfl (by rw [ev8]; rfl) (by decide) rfl ?_
      refine G_goto X (tgt := 31) dX5_status_49 (by decide) ?_
      exact G_sub [2, 1, 0] rfl (ih _ _ _ (lpl (so h) hx) K)
set_option maxHeartbeats 4000000 in
set_option maxRecDepth 100000 in
theorem b_X5_status {E : pfE} (X : CX cellsC E cX5_status RX5 rm_X5_status 4) (x1 : Int32) (A : St) {out : Int32 × St} (hQ : Reti cellsC E cX5_status out.1 out.2) (h : f_X5_status x1 A = some out) : GG cellsC E A 0 [(0, .ref (fAd (eF E) 0)), (1, .int x1)] [] := by
  unfold f_X5_status at h
  refine G_iload_n X dX5_status_0 rfl 1 rfl ?_
  refine G_iconst X (v := (-1)) dX5_status_1 rfl ?_
  refine G_bipush X (v := 7) dX5_status_2 rfl ?_
  obtain ⟨r1, hz2, h⟩ := cl_k h
  refine G_callS_i X (As := [.int x1, .int (-1), .int 7]) (rest := []) ok_X5_within qw184 ⟨rfl, rfl, Nat.le_of_ble_eq_true rfl, Nat.le_of_ble_eq_true rfl⟩ (m_X5_within X.d hz2) rfl rfl (Nat.le_of_ble_eq_true rfl) dX5_status_4 ?_
  refine G_ifne X (tgt := 16) dX5_status_7 (by decide) (fun c3 => ?_) (fun c3 => ?_)
  · have h := if_t c3 h
    refine G_aload_n X dX5_status_10 rfl 0 rfl ?_
    refine G_iconst X (v := 0) dX5_status_11 rfl ?_
    obtain ⟨r11, A13, hz12, h⟩ := cl2_k h
    refine G_callV_i X (As := [.int 0]) (rest := []) ok_X5_finding qw191 0 (eC0 _ _ _) rfl rfl ⟨rfl, rfl, Nat.le_of_ble_eq_true rfl, Nat.le_of_ble_eq_true rfl⟩ (m_X5_finding X.d hz12) rfl rfl (Nat.le_of_ble_eq_true rfl) dX5_status_12 ?_
    have e := so h
    subst e
    exact hQ _ _ dX5_status_15
  · have h := if_f c3 h
    refine G_iload_n X dX5_status_16 rfl 1 rfl ?_
    refine G_iflt X (tgt := 27) dX5_status_17 (by decide) (fun c4 => ?_) (fun c4 => ?_)
    · have h := if_t c4 h
      refine G_iconst X (v := 0) dX5_status_27 rfl ?_
      refine G_istore_n X (lv2 := [(2, .int 0), (0, .ref (fAd (eF E) 0)), (1, .int x1)]) dX5_status_28 rfl (by decide) rfl ?_
      refine G_iconst X (v := 0) dX5_status_29 rfl ?_
      refine G_istore_n X (lv2 := [(3, .int 0), (2, .int 0), (0, .ref (fAd (eF E) 0)), (1, .int x1)]) dX5_status_30 rfl (by decide) rfl ?_
      obtain ⟨ρ, hl, h⟩ := cl_k h
      obtain ⟨n, hl⟩ := loop_some hl
      refine G_sub [2, 1, 0] rfl (g_X5_status_L31 X A n _ _ ρ hl ?_)
      intro v9 e
      rw [e] at h
      have h : f_X5_status_X52 A v9 = some _ := h
      unfold f_X5_status_X52 at h
      refine G_iload_n X dX5_status_52 rfl 0 rfl ?_
      have e := so h
      subst e
      exact hQ _ _ dX5_status_53
    · have h := if_f c4 h
      refine G_aload_n X dX5_status_20 rfl 0 rfl ?_
      refine G_getf X inX5 0 (eC0 _ _ _) rfl 0 (by decide) qw155 rfl dX5_status_21 ?_
      refine G_iload_n X dX5_status_24 rfl 1 rfl ?_
      have hi10 := gI_n h
      have h := gI_k h
      refine G_iald X (j := x1.toNatClampNeg) 1 (eC1 _ _ _) hi10 rfl dX5_status_25 ?_
      have e := so h
      subst e
      exact hQ _ _ dX5_status_26
theorem m_X5_status {l : Launch} {F : pfF} (hD : ∀ A, va_D (fA F) (cellsC (fAd F) (fCy F) A)) {x1 : Int32} {A : St} {out : Int32 × St} (h : f_X5_status x1 A = some out) : Mt l F cellsC yX5_status cX5_status 4 (some .int) rm_X5_status [.ref (fAd F 0), .int x1] A (va_Qi (fun (r : Int32) (u : St) => r = out.1 ∧ u = out.2) (Wd cellsC F) (fA F)) := by
  refine Met_i (by decide +kernel) (Nat.le_of_ble_eq_true rfl) hD (fun E el ef X hQ => ?_)
  subst el
  subst ef
  exact b_X5_status X _ _ hQ h
theorem ok_X5_status : OkV yX5_status cX5_status 4 (some .int) 1 := ⟨qw641, qw642, qw1, qw643, by decide, by decide, by decide⟩
noncomputable def f_X6_in (x0 : Int64) (x2 : Int64) (x4 : Int64) : Option (Bool) :=
  if (lg_cmp x0 x2) < 0 then
    some false
  else
    if 0 < (lg_cmp x0 x4) then
      some false
    else
      some true
abbrev rm_X6_in : Room := { frames := 0, cells := 0, slots := 0, locals := 0 }
set_option maxHeartbeats 4000000 in
set_option maxRecDepth 100000 in
theorem b_X6_in {wl : pfW} {E : pfE} (X : CX wl E cX6_in RX6 rm_X6_in 6) (x0 : Int64) (x2 : Int64) (x4 : Int64) {A : St} {out : Bool} (hQ : Reti wl E cX6_in (bI out) A) (h : f_X6_in x0 x2 x4 = some out) : GG wl E A 0 [(0, .long x0), (2, .long x2), (4, .long x4)] [] := by
  unfold f_X6_in at h
  refine G_lload_n X dX6_in_0 rfl 0 rfl ?_
  refine G_lload_n X dX6_in_1 rfl 1 rfl ?_
  refine G_lcmp X dX6_in_2 ?_
  refine G_iflt X (tgt := 17) dX6_in_3 (by decide) (fun c1 => ?_) (fun c1 => ?_)
  · have h := if_t c1 h
    refine G_iconst X (v := 0) dX6_in_17 rfl ?_
    have e := so h
    subst e
    exact hQ _ _ dX6_in_18
  · have h := if_f c1 h
    refine G_lload_n X dX6_in_6 rfl 0 rfl ?_
    refine G_lload X dX6_in_7 2 rfl ?_
    refine G_lcmp X dX6_in_9 ?_
    refine G_ifgt X (tgt := 17) dX6_in_10 (by decide) (fun c2 => ?_) (fun c2 => ?_)
    · have h := if_t c2 h
      refine G_iconst X (v := 0) dX6_in_17 rfl ?_
      have e := so h
      subst e
      exact hQ _ _ dX6_in_18
    · have h := if_f c2 h
      refine G_iconst X (v := 1) dX6_in_13 rfl ?_
      refine G_goto X (tgt := 18) dX6_in_14 (by decide) ?_
      have e := so h
      subst e
      exact hQ _ _ dX6_in_18
theorem m_X6_in {wl : pfW} {l : Launch} {F : pfF} (hD : ∀ A, va_D (fA F) (wl (fAd F) (fCy F) A)) {x0 : Int64} {x2 : Int64} {x4 : Int64} {A : St} {out : Bool} (h : f_X6_in x0 x2 x4 = some out) : Mt l F wl yX6_in cX6_in 6 (some .boolean) rm_X6_in [.long x0, .long x2, .long x4] A (va_Qi (fun (r : Int32) (u : St) => r = bI out ∧ u = A) (Wd wl F) (fA F)) := by
  refine Met_iz (by decide +kernel) (Nat.le_of_ble_eq_true rfl) hD (nar_bI _) (fun E el ef X hQ => ?_)
  subst el
  subst ef
  exact b_X6_in X _ _ _ hQ h
theorem ok_X6_in : OkS yX6_in cX6_in 6 (some .boolean) 3 := ⟨qw728, qw6, qw729, by decide, by decide, by decide⟩
noncomputable def f_X6_isKind (x0 : Int32) : Option (Bool) :=
  cl (f_X6_in x0.toInt64 0 5) fun r1 =>
  some r1
abbrev rm_X6_isKind : Room := { frames := 1, cells := 0, slots := 0, locals := 25 }
set_option maxHeartbeats 4000000 in
set_option maxRecDepth 100000 in
theorem b_X6_isKind {wl : pfW} {E : pfE} (X : CX wl E cX6_isKind RX6 rm_X6_isKind 1) (x0 : Int32) {A : St} {out : Bool} (hQ : Reti wl E cX6_isKind (bI out) A) (h : f_X6_isKind x0 = some out) : GG wl E A 0 [(0, .int x0)] [] := by
  unfold f_X6_isKind at h
  refine G_iload_n X dX6_isKind_0 rfl 0 rfl ?_
  refine G_i2l X dX6_isKind_1 rfl ?_
  refine G_lconst X (v := 0) dX6_isKind_2 rfl ?_
  refine G_ldc2 X (v := 5) qw726 dX6_isKind_3 ?_
  obtain ⟨r1, hz2, h⟩ := cl_k h
  refine G_callS_i X (As := [.long x0.toInt64, .long 0, .long 5]) (rest := []) ok_X6_in qw727 ⟨rfl, rfl, Nat.le_of_ble_eq_true rfl, Nat.le_of_ble_eq_true rfl⟩ (m_X6_in X.d hz2) rfl rfl (Nat.le_of_ble_eq_true rfl) dX6_isKind_6 ?_
  have e := so h
  subst e
  exact hQ _ _ dX6_isKind_9
theorem m_X6_isKind {wl : pfW} {l : Launch} {F : pfF} (hD : ∀ A, va_D (fA F) (wl (fAd F) (fCy F) A)) {x0 : Int32} {A : St} {out : Bool} (h : f_X6_isKind x0 = some out) : Mt l F wl yX6_isKind cX6_isKind 1 (some .boolean) rm_X6_isKind [.int x0] A (va_Qi (fun (r : Int32) (u : St) => r = bI out ∧ u = A) (Wd wl F) (fA F)) := by
  refine Met_iz (by decide +kernel) (Nat.le_of_ble_eq_true rfl) hD (nar_bI _) (fun E el ef X hQ => ?_)
  subst el
  subst ef
  exact b_X6_isKind X _ hQ h
theorem ok_X6_isKind : OkS yX6_isKind cX6_isKind 1 (some .boolean) 1 := ⟨qw724, qw6, qw725, by decide, by decide, by decide⟩
noncomputable def f_X6_mayBe (x0 : Int32) (x1 : Int32) : Option (Bool) :=
  if x0 = 0 then
    cl (f_X6_isKind x1) fun r21 =>
    some r21
  else
    if x0 = 1 then
      cl (f_X6_in x1.toInt64 0 3) fun r19 =>
      some r19
    else
      if x0 = 2 then
        cl (f_X6_in x1.toInt64 1 20) fun r17 =>
        some r17
      else
        if x0 = 3 then
          cl (f_X6_in x1.toInt64 1 12) fun r15 =>
          some r15
        else
          if x0 = 4 then
            cl (f_X6_in x1.toInt64 (-32) 32) fun r13 =>
            some r13
          else
            if x0 = 5 then
              cl (f_X6_in x1.toInt64 (-1) 3) fun r11 =>
              some r11
            else
              if x0 = 6 then
                cl (f_X6_in x1.toInt64 0 999) fun r8 =>
                if (bI r8) = 0 then
                  some false
                else
                  some true
              else
                some false
abbrev rm_X6_mayBe : Room := { frames := 2, cells := 0, slots := 0, locals := 45 }
set_option maxHeartbeats 4000000 in
set_option maxRecDepth 100000 in
theorem b_X6_mayBe {wl : pfW} {E : pfE} (X : CX wl E cX6_mayBe RX6 rm_X6_mayBe 2) (x0 : Int32) (x1 : Int32) {A : St} {out : Bool} (hQ : Reti wl E cX6_mayBe (bI out) A) (h : f_X6_mayBe x0 x1 = some out) : GG wl E A 0 [(0, .int x0), (1, .int x1)] [] := by
  unfold f_X6_mayBe at h
  refine G_iload_n X dX6_mayBe_0 rfl 0 rfl ?_
  by_cases c1 : x0 = 0
  · have h := if_t c1 h
    refine G_tabIn X dX6_mayBe_1 (by rw [c1]; decide) (by rw [c1]; decide) (off := 39) (by rw [c1]; rfl) (tgt := 40) (by decide) ?_
    refine G_iload_n X dX6_mayBe_40 rfl 1 rfl ?_
    obtain ⟨r21, hz22, h⟩ := cl_k h
    refine G_callS_i X (As := [.int x1]) (rest := []) ok_X6_isKind qw723 ⟨rfl, rfl, Nat.le_of_ble_eq_true rfl, Nat.le_of_ble_eq_true rfl⟩ (m_X6_isKind X.d hz22) rfl rfl (Nat.le_of_ble_eq_true rfl) dX6_mayBe_41 ?_
    have e := so h
    subst e
    exact hQ _ _ dX6_mayBe_44
  · have h := if_f c1 h
    by_cases c2 : x0 = 1
    · have h := if_t c2 h
      refine G_tabIn X dX6_mayBe_1 (by rw [c2]; decide) (by rw [c2]; decide) (off := 44) (by rw [c2]; rfl) (tgt := 45) (by decide) ?_
      refine G_iload_n X dX6_mayBe_45 rfl 1 rfl ?_
      refine G_i2l X dX6_mayBe_46 rfl ?_
      refine G_lconst X (v := 0) dX6_mayBe_47 rfl ?_
      refine G_ldc2 X (v := 3) qw730 dX6_mayBe_48 ?_
      obtain ⟨r19, hz20, h⟩ := cl_k h
      refine G_callS_i X (As := [.long x1.toInt64, .long 0, .long 3]) (rest := []) ok_X6_in qw727 ⟨rfl, rfl, Nat.le_of_ble_eq_true rfl, Nat.le_of_ble_eq_true rfl⟩ (m_X6_in X.d hz20) rfl rfl (Nat.le_of_ble_eq_true rfl) dX6_mayBe_51 ?_
      have e := so h
      subst e
      exact hQ _ _ dX6_mayBe_54
    · have h := if_f c2 h
      by_cases c3 : x0 = 2
      · have h := if_t c3 h
        refine G_tabIn X dX6_mayBe_1 (by rw [c3]; decide) (by rw [c3]; decide) (off := 54) (by rw [c3]; rfl) (tgt := 55) (by decide) ?_
        refine G_iload_n X dX6_mayBe_55 rfl 1 rfl ?_
        refine G_i2l X dX6_mayBe_56 rfl ?_
        refine G_lconst X (v := 1) dX6_mayBe_57 rfl ?_
        refine G_ldc2 X (v := 20) qw731 dX6_mayBe_58 ?_
        obtain ⟨r17, hz18, h⟩ := cl_k h
        refine G_callS_i X (As := [.long x1.toInt64, .long 1, .long 20]) (rest := []) ok_X6_in qw727 ⟨rfl, rfl, Nat.le_of_ble_eq_true rfl, Nat.le_of_ble_eq_true rfl⟩ (m_X6_in X.d hz18) rfl rfl (Nat.le_of_ble_eq_true rfl) dX6_mayBe_61 ?_
        have e := so h
        subst e
        exact hQ _ _ dX6_mayBe_64
      · have h := if_f c3 h
        by_cases c4 : x0 = 3
        · have h := if_t c4 h
          refine G_tabIn X dX6_mayBe_1 (by rw [c4]; decide) (by rw [c4]; decide) (off := 64) (by rw [c4]; rfl) (tgt := 65) (by decide) ?_
          refine G_iload_n X dX6_mayBe_65 rfl 1 rfl ?_
          refine G_i2l X dX6_mayBe_66 rfl ?_
          refine G_lconst X (v := 1) dX6_mayBe_67 rfl ?_
          refine G_ldc2 X (v := 12) qw732 dX6_mayBe_68 ?_
          obtain ⟨r15, hz16, h⟩ := cl_k h
          refine G_callS_i X (As := [.long x1.toInt64, .long 1, .long 12]) (rest := []) ok_X6_in qw727 ⟨rfl, rfl, Nat.le_of_ble_eq_true rfl, Nat.le_of_ble_eq_true rfl⟩ (m_X6_in X.d hz16) rfl rfl (Nat.le_of_ble_eq_true rfl) dX6_mayBe_71 ?_
          have e := so h
          subst e
          exact hQ _ _ dX6_mayBe_74
        · have h := if_f c4 h
          by_cases c5 : x0 = 4
          · have h := if_t c5 h
            refine G_tabIn X dX6_mayBe_1 (by rw [c5]; decide) (by rw [c5]; decide) (off := 74) (by rw [c5]; rfl) (tgt := 75) (by decide) ?_
            refine G_iload_n X dX6_mayBe_75 rfl 1 rfl ?_
            refine G_i2l X dX6_mayBe_76 rfl ?_
            refine G_ldc2 X (v := (-32)) qw733 dX6_mayBe_77 ?_
            refine G_ldc2 X (v := 32) qw734 dX6_mayBe_80 ?_
            obtain ⟨r13, hz14, h⟩ := cl_k h
            refine G_callS_i X (As := [.long x1.toInt64, .long (-32), .long 32]) (rest := []) ok_X6_in qw727 ⟨rfl, rfl, Nat.le_of_ble_eq_true rfl, Nat.le_of_ble_eq_true rfl⟩ (m_X6_in X.d hz14) rfl rfl (Nat.le_of_ble_eq_true rfl) dX6_mayBe_83 ?_
            have e := so h
            subst e
            exact hQ _ _ dX6_mayBe_86
          · have h := if_f c5 h
            by_cases c6 : x0 = 5
            · have h := if_t c6 h
              refine G_tabIn X dX6_mayBe_1 (by rw [c6]; decide) (by rw [c6]; decide) (off := 86) (by rw [c6]; rfl) (tgt := 87) (by decide) ?_
              refine G_iload_n X dX6_mayBe_87 rfl 1 rfl ?_
              refine G_i2l X dX6_mayBe_88 rfl ?_
              refine G_ldc2 X (v := (-1)) qw735 dX6_mayBe_89 ?_
              refine G_ldc2 X (v := 3) qw730 dX6_mayBe_92 ?_
              obtain ⟨r11, hz12, h⟩ := cl_k h
              refine G_callS_i X (As := [.long x1.toInt64, .long (-1), .long 3]) (rest := []) ok_X6_in qw727 ⟨rfl, rfl, Nat.le_of_ble_eq_true rfl, Nat.le_of_ble_eq_true rfl⟩ (m_X6_in X.d hz12) rfl rfl (Nat.le_of_ble_eq_true rfl) dX6_mayBe_95 ?_
              have e := so h
              subst e
              exact hQ _ _ dX6_mayBe_98
            · have h := if_f c6 h
              refine G_tabOut X dX6_mayBe_1 (by have t0 := lv_neT (k := 0) (a := 0) c1 (by decide); have t1 := lv_neT (k := 1) (a := 1) c2 (by decide); have t2 := lv_neT (k := 2) (a := 2) c3 (by decide); have t3 := lv_neT (k := 3) (a := 3) c4 (by decide); have t4 := lv_neT (k := 4) (a := 4) c5 (by decide); have t5 := lv_neT (k := 5) (a := 5) c6 (by decide); omega) (tgt := 99) (by decide) ?_
              refine G_iload_n X dX6_mayBe_99 rfl 0 rfl ?_
              refine G_bipush X (v := 6) dX6_mayBe_100 rfl ?_
              refine G_icne X (tgt := 121) dX6_mayBe_102 (by decide) (fun c7 => ?_) (fun c7 => ?_)
              · have h := if_t c7 h
                refine G_iload_n X dX6_mayBe_105 rfl 1 rfl ?_
                refine G_i2l X dX6_mayBe_106 rfl ?_
                refine G_lconst X (v := 0) dX6_mayBe_107 rfl ?_
                refine G_ldc2 X (v := 999) qw736 dX6_mayBe_108 ?_
                obtain ⟨r8, hz9, h⟩ := cl_k h
                refine G_callS_i X (As := [.long x1.toInt64, .long 0, .long 999]) (rest := []) ok_X6_in qw727 ⟨rfl, rfl, Nat.le_of_ble_eq_true rfl, Nat.le_of_ble_eq_true rfl⟩ (m_X6_in X.d hz9) rfl rfl (Nat.le_of_ble_eq_true rfl) dX6_mayBe_111 ?_
                refine G_ifeq X (tgt := 121) dX6_mayBe_114 (by decide) (fun c10 => ?_) (fun c10 => ?_)
                · have h := if_t c10 h
                  refine G_iconst X (v := 0) dX6_mayBe_121 rfl ?_
                  have e := so h
                  subst e
                  exact hQ _ _ dX6_mayBe_122
                · have h := if_f c10 h
                  refine G_iconst X (v := 1) dX6_mayBe_117 rfl ?_
                  refine G_goto X (tgt := 122) dX6_mayBe_118 (by decide) ?_
                  have e := so h
                  subst e
                  exact hQ _ _ dX6_mayBe_122
              · have h := if_f c7 h
                refine G_iconst X (v := 0) dX6_mayBe_121 rfl ?_
                have e := so h
                subst e
                exact hQ _ _ dX6_mayBe_122
theorem m_X6_mayBe {wl : pfW} {l : Launch} {F : pfF} (hD : ∀ A, va_D (fA F) (wl (fAd F) (fCy F) A)) {x0 : Int32} {x1 : Int32} {A : St} {out : Bool} (h : f_X6_mayBe x0 x1 = some out) : Mt l F wl yX6_mayBe cX6_mayBe 2 (some .boolean) rm_X6_mayBe [.int x0, .int x1] A (va_Qi (fun (r : Int32) (u : St) => r = bI out ∧ u = A) (Wd wl F) (fA F)) := by
  refine Met_iz (by decide +kernel) (Nat.le_of_ble_eq_true rfl) hD (nar_bI _) (fun E el ef X hQ => ?_)
  subst el
  subst ef
  exact b_X6_mayBe X _ _ hQ h
theorem ok_X6_mayBe : OkS yX6_mayBe cX6_mayBe 2 (some .boolean) 2 := ⟨qw721, qw6, qw722, by decide, by decide, by decide⟩
noncomputable def f_X6_finds (x1 : Int32) (A : St) : Option (Int32 × St) :=
  gI x1 8 <|
  gI x1 8 <|
  bv (upI A 3 x1.toNatClampNeg ((A.1 3 x1.toNatClampNeg) + 1)) fun A3 =>
  some (((-1000001) : Int32) - x1, A3)
abbrev rm_X6_finds : Room := { frames := 0, cells := 0, slots := 0, locals := 0 }
set_option maxHeartbeats 4000000 in
set_option maxRecDepth 100000 in
theorem b_X6_finds {E : pfE} (X : CX cellsR E cX6_finds RX6 rm_X6_finds 2) (x1 : Int32) (A : St) {out : Int32 × St} (hQ : Reti cellsR E cX6_finds out.1 out.2) (h : f_X6_finds x1 A = some out) : GG cellsR E A 0 [(0, .ref (fAd (eF E) 0)), (1, .int x1)] [] := by
  unfold f_X6_finds at h
  refine G_aload_n X dX6_finds_0 rfl 0 rfl ?_
  refine G_getf X inX6 0 (eR0 _ _ _) rfl 3 (by decide) qw657 rfl dX6_finds_1 ?_
  refine G_iload_n X dX6_finds_4 rfl 1 rfl ?_
  refine G_dup2 X dX6_finds_5 rfl rfl ?_
  have hi1 := gI_n h
  have h := gI_k h
  refine G_iald X (j := x1.toNatClampNeg) 3 (eR3 _ _ _) hi1 rfl dX6_finds_6 ?_
  refine G_iconst X (v := 1) dX6_finds_7 rfl ?_
  refine G_iadd X dX6_finds_8 ?_
  have hi2 := gI_n h
  have h := gI_k h
  refine G_iast X (j := x1.toNatClampNeg) 3 (eR3 _ _ _) (sRI _ _ _ _ x1.toNatClampNeg _ _ (fun _ => rfl)) hi2 rfl dX6_finds_9 ?_
  refine G_topS (fun A3 eA3 => ?_)
  have h := bv_k eA3 h
  refine G_ldc X (v := (-1000001)) qw741 dX6_finds_10 ?_
  refine G_iload_n X dX6_finds_12 rfl 1 rfl ?_
  refine G_isub X dX6_finds_13 ?_
  have e := so h
  subst e
  exact hQ _ _ dX6_finds_14
theorem m_X6_finds {l : Launch} {F : pfF} (hD : ∀ A, va_D (fA F) (cellsR (fAd F) (fCy F) A)) {x1 : Int32} {A : St} {out : Int32 × St} (h : f_X6_finds x1 A = some out) : Mt l F cellsR yX6_finds cX6_finds 2 (some .int) rm_X6_finds [.ref (fAd F 0), .int x1] A (va_Qi (fun (r : Int32) (u : St) => r = out.1 ∧ u = out.2) (Wd cellsR F) (fA F)) := by
  refine Met_i (by decide +kernel) (Nat.le_of_ble_eq_true rfl) hD (fun E el ef X hQ => ?_)
  subst el
  subst ef
  exact b_X6_finds X _ _ hQ h
theorem ok_X6_finds : OkV yX6_finds cX6_finds 2 (some .int) 1 := ⟨qw739, qs8, qw6, qw740, by decide, by decide, by decide⟩
noncomputable def f_X6_add (x1 : Int32) (x2 : Int32) (x3 : Int32) (x4 : Int32) (x5 : Int32) (x6 : Int32) (A : St) : Option (Int32 × St) :=
  cl (f_X6_mayBe 0 x1) fun r1 =>
  if (bI r1) = 0 then
    cl2 (f_X6_finds 0 A) fun r4 A6 =>
    some (r4, A6)
  else
    cl (f_X6_mayBe 1 x2) fun r7 =>
    if (bI r7) = 0 then
      cl2 (f_X6_finds 0 A) fun r10 A12 =>
      some (r10, A12)
    else
      cl (f_X6_mayBe 2 x3) fun r13 =>
      if (bI r13) = 0 then
        cl2 (f_X6_finds 0 A) fun r16 A18 =>
        some (r16, A18)
      else
        cl (f_X6_mayBe 3 x4) fun r19 =>
        if (bI r19) = 0 then
          cl2 (f_X6_finds 0 A) fun r22 A24 =>
          some (r22, A24)
        else
          cl (f_X6_mayBe 4 x5) fun r25 =>
          if (bI r25) = 0 then
            cl2 (f_X6_finds 0 A) fun r28 A30 =>
            some (r28, A30)
          else
            cl (f_X6_mayBe 5 x6) fun r31 =>
            if (bI r31) = 0 then
              cl2 (f_X6_finds 0 A) fun r56 A58 =>
              some (r56, A58)
            else
              if (A.1 1 0) = 12 then
                cl2 (f_X6_finds 1 A) fun r53 A55 =>
                some (r53, A55)
              else
                bv ((1 : Int32) + ((8 : Int32) * (A.1 1 0))) fun v35 =>
                gI (v35 + 0) 117 <|
                bv (upI A 1 (v35 + 0).toNatClampNeg x1) fun A37 =>
                gI (v35 + 1) 117 <|
                bv (upI A37 1 (v35 + 1).toNatClampNeg x2) fun A39 =>
                gI (v35 + 2) 117 <|
                bv (upI A39 1 (v35 + 2).toNatClampNeg x3) fun A41 =>
                gI (v35 + 3) 117 <|
                bv (upI A41 1 (v35 + 3).toNatClampNeg x4) fun A43 =>
                gI (v35 + 4) 117 <|
                bv (upI A43 1 (v35 + 4).toNatClampNeg x5) fun A45 =>
                gI (v35 + 5) 117 <|
                bv (upI A45 1 (v35 + 5).toNatClampNeg x6) fun A47 =>
                gI (v35 + 6) 117 <|
                bv (upI A47 1 (v35 + 6).toNatClampNeg 0) fun A49 =>
                gI (v35 + 7) 117 <|
                bv (upI A49 1 (v35 + 7).toNatClampNeg 0) fun A51 =>
                bv (upI A51 1 0 ((A51.1 1 0) + 1)) fun A52 =>
                some ((A52.1 1 0) - 1, A52)
abbrev rm_X6_add : Room := { frames := 3, cells := 0, slots := 0, locals := 66 }
set_option maxHeartbeats 4000000 in
set_option maxRecDepth 100000 in
theorem b_X6_add {E : pfE} (X : CX cellsR E cX6_add RX6 rm_X6_add 8) (x1 : Int32) (x2 : Int32) (x3 : Int32) (x4 : Int32) (x5 : Int32) (x6 : Int32) (A : St) {out : Int32 × St} (hQ : Reti cellsR E cX6_add out.1 out.2) (h : f_X6_add x1 x2 x3 x4 x5 x6 A = some out) : GG cellsR E A 0 [(0, .ref (fAd (eF E) 0)), (1, .int x1), (2, .int x2), (3, .int x3), (4, .int x4), (5, .int x5), (6, .int x6)] [] := by
  unfold f_X6_add at h
  refine G_iconst X (v := 0) dX6_add_0 rfl ?_
  refine G_iload_n X dX6_add_1 rfl 1 rfl ?_
  obtain ⟨r1, hz2, h⟩ := cl_k h
  refine G_callS_i X (As := [.int 0, .int x1]) (rest := []) ok_X6_mayBe qw720 ⟨rfl, rfl, Nat.le_of_ble_eq_true rfl, Nat.le_of_ble_eq_true rfl⟩ (m_X6_mayBe X.d hz2) rfl rfl (Nat.le_of_ble_eq_true rfl) dX6_add_2 ?_
  refine G_ifeq X (tgt := 51) dX6_add_5 (by decide) (fun c3 => ?_) (fun c3 => ?_)
  · have h := if_t c3 h
    refine G_aload_n X dX6_add_51 rfl 0 rfl ?_
    refine G_iconst X (v := 0) dX6_add_52 rfl ?_
    obtain ⟨r4, A6, hz5, h⟩ := cl2_k h
    refine G_callV_i X (As := [.int 0]) (rest := []) ok_X6_finds qw737 0 (eR0 _ _ _) rfl rfl ⟨rfl, rfl, Nat.le_of_ble_eq_true rfl, Nat.le_of_ble_eq_true rfl⟩ (m_X6_finds X.d hz5) rfl rfl (Nat.le_of_ble_eq_true rfl) dX6_add_53 ?_
    have e := so h
    subst e
    exact hQ _ _ dX6_add_56
  · have h := if_f c3 h
    refine G_iconst X (v := 1) dX6_add_8 rfl ?_
    refine G_iload_n X dX6_add_9 rfl 2 rfl ?_
    obtain ⟨r7, hz8, h⟩ := cl_k h
    refine G_callS_i X (As := [.int 1, .int x2]) (rest := []) ok_X6_mayBe qw720 ⟨rfl, rfl, Nat.le_of_ble_eq_true rfl, Nat.le_of_ble_eq_true rfl⟩ (m_X6_mayBe X.d hz8) rfl rfl (Nat.le_of_ble_eq_true rfl) dX6_add_10 ?_
    refine G_ifeq X (tgt := 51) dX6_add_13 (by decide) (fun c9 => ?_) (fun c9 => ?_)
    · have h := if_t c9 h
      refine G_aload_n X dX6_add_51 rfl 0 rfl ?_
      refine G_iconst X (v := 0) dX6_add_52 rfl ?_
      obtain ⟨r10, A12, hz11, h⟩ := cl2_k h
      refine G_callV_i X (As := [.int 0]) (rest := []) ok_X6_finds qw737 0 (eR0 _ _ _) rfl rfl ⟨rfl, rfl, Nat.le_of_ble_eq_true rfl, Nat.le_of_ble_eq_true rfl⟩ (m_X6_finds X.d hz11) rfl rfl (Nat.le_of_ble_eq_true rfl) dX6_add_53 ?_
      have e := so h
      subst e
      exact hQ _ _ dX6_add_56
    · have h := if_f c9 h
      refine G_iconst X (v := 2) dX6_add_16 rfl ?_
      refine G_iload_n X dX6_add_17 rfl 3 rfl ?_
      obtain ⟨r13, hz14, h⟩ := cl_k h
      refine G_callS_i X (As := [.int 2, .int x3]) (rest := []) ok_X6_mayBe qw720 ⟨rfl, rfl, Nat.le_of_ble_eq_true rfl, Nat.le_of_ble_eq_true rfl⟩ (m_X6_mayBe X.d hz14) rfl rfl (Nat.le_of_ble_eq_true rfl) dX6_add_18 ?_
      refine G_ifeq X (tgt := 51) dX6_add_21 (by decide) (fun c15 => ?_) (fun c15 => ?_)
      · have h := if_t c15 h
        refine G_aload_n X dX6_add_51 rfl 0 rfl ?_
        refine G_iconst X (v := 0) dX6_add_52 rfl ?_
        obtain ⟨r16, A18, hz17, h⟩ := cl2_k h
        refine G_callV_i X (As := [.int 0]) (rest := []) ok_X6_finds qw737 0 (eR0 _ _ _) rfl rfl ⟨rfl, rfl, Nat.le_of_ble_eq_true rfl, Nat.le_of_ble_eq_true rfl⟩ (m_X6_finds X.d hz17) rfl rfl (Nat.le_of_ble_eq_true rfl) dX6_add_53 ?_
        have e := so h
        subst e
        exact hQ _ _ dX6_add_56
      · have h := if_f c15 h
        refine G_iconst X (v := 3) dX6_add_24 rfl ?_
        refine G_iload X dX6_add_25 4 rfl ?_
        obtain ⟨r19, hz20, h⟩ := cl_k h
        refine G_callS_i X (As := [.int 3, .int x4]) (rest := []) ok_X6_mayBe qw720 ⟨rfl, rfl, Nat.le_of_ble_eq_true rfl, Nat.le_of_ble_eq_true rfl⟩ (m_X6_mayBe X.d hz20) rfl rfl (Nat.le_of_ble_eq_true rfl) dX6_add_27 ?_
        refine G_ifeq X (tgt := 51) dX6_add_30 (by decide) (fun c21 => ?_) (fun c21 => ?_)
        · have h := if_t c21 h
          refine G_aload_n X dX6_add_51 rfl 0 rfl ?_
          refine G_iconst X (v := 0) dX6_add_52 rfl ?_
          obtain ⟨r22, A24, hz23, h⟩ := cl2_k h
          refine G_callV_i X (As := [.int 0]) (rest := []) ok_X6_finds qw737 0 (eR0 _ _ _) rfl rfl ⟨rfl, rfl, Nat.le_of_ble_eq_true rfl, Nat.le_of_ble_eq_true rfl⟩ (m_X6_finds X.d hz23) rfl rfl (Nat.le_of_ble_eq_true rfl) dX6_add_53 ?_
          have e := so h
          subst e
          exact hQ _ _ dX6_add_56
        · have h := if_f c21 h
          refine G_iconst X (v := 4) dX6_add_33 rfl ?_
          refine G_iload X dX6_add_34 5 rfl ?_
          obtain ⟨r25, hz26, h⟩ := cl_k h
          refine G_callS_i X (As := [.int 4, .int x5]) (rest := []) ok_X6_mayBe qw720 ⟨rfl, rfl, Nat.le_of_ble_eq_true rfl, Nat.le_of_ble_eq_true rfl⟩ (m_X6_mayBe X.d hz26) rfl rfl (Nat.le_of_ble_eq_true rfl) dX6_add_36 ?_
          refine G_ifeq X (tgt := 51) dX6_add_39 (by decide) (fun c27 => ?_) (fun c27 => ?_)
          · have h := if_t c27 h
            refine G_aload_n X dX6_add_51 rfl 0 rfl ?_
            refine G_iconst X (v := 0) dX6_add_52 rfl ?_
            obtain ⟨r28, A30, hz29, h⟩ := cl2_k h
            refine G_callV_i X (As := [.int 0]) (rest := []) ok_X6_finds qw737 0 (eR0 _ _ _) rfl rfl ⟨rfl, rfl, Nat.le_of_ble_eq_true rfl, Nat.le_of_ble_eq_true rfl⟩ (m_X6_finds X.d hz29) rfl rfl (Nat.le_of_ble_eq_true rfl) dX6_add_53 ?_
            have e := so h
            subst e
            exact hQ _ _ dX6_add_56
          · have h := if_f c27 h
            refine G_iconst X (v := 5) dX6_add_42 rfl ?_
            refine G_iload X dX6_add_43 6 rfl ?_
            obtain ⟨r31, hz32, h⟩ := cl_k h
            refine G_callS_i X (As := [.int 5, .int x6]) (rest := []) ok_X6_mayBe qw720 ⟨rfl, rfl, Nat.le_of_ble_eq_true rfl, Nat.le_of_ble_eq_true rfl⟩ (m_X6_mayBe X.d hz32) rfl rfl (Nat.le_of_ble_eq_true rfl) dX6_add_45 ?_
            refine G_ifne X (tgt := 57) dX6_add_48 (by decide) (fun c33 => ?_) (fun c33 => ?_)
            · have h := if_t c33 h
              refine G_aload_n X dX6_add_51 rfl 0 rfl ?_
              refine G_iconst X (v := 0) dX6_add_52 rfl ?_
              obtain ⟨r56, A58, hz57, h⟩ := cl2_k h
              refine G_callV_i X (As := [.int 0]) (rest := []) ok_X6_finds qw737 0 (eR0 _ _ _) rfl rfl ⟨rfl, rfl, Nat.le_of_ble_eq_true rfl, Nat.le_of_ble_eq_true rfl⟩ (m_X6_finds X.d hz57) rfl rfl (Nat.le_of_ble_eq_true rfl) dX6_add_53 ?_
              have e := so h
              subst e
              exact hQ _ _ dX6_add_56
            · have h := if_f c33 h
              refine G_aload_n X dX6_add_57 rfl 0 rfl ?_
              refine G_getf X inX6 0 (eR0 _ _ _) rfl 0 (by decide) qw654 rfl dX6_add_58 ?_
              refine G_iconst X (v := 0) dX6_add_61 rfl ?_
              refine G_iald X (j := 0) 1 (eR1 _ _ _) (vi rfl) rfl dX6_add_62 ?_
              refine G_bipush X (v := 12) dX6_add_63 rfl ?_
              refine G_icne X (tgt := 74) dX6_add_65 (by decide) (fun c34 => ?_) (fun c34 => ?_)
              · have h := if_t c34 h
                refine G_aload_n X dX6_add_68 rfl 0 rfl ?_
                refine G_iconst X (v := 1) dX6_add_69 rfl ?_
                obtain ⟨r53, A55, hz54, h⟩ := cl2_k h
                refine G_callV_i X (As := [.int 1]) (rest := []) ok_X6_finds qw737 0 (eR0 _ _ _) rfl rfl ⟨rfl, rfl, Nat.le_of_ble_eq_true rfl, Nat.le_of_ble_eq_true rfl⟩ (m_X6_finds X.d hz54) rfl rfl (Nat.le_of_ble_eq_true rfl) dX6_add_70 ?_
                have e := so h
                subst e
                exact hQ _ _ dX6_add_73
              · have h := if_f c34 h
                refine G_iconst X (v := 1) dX6_add_74 rfl ?_
                refine G_bipush X (v := 8) dX6_add_75 rfl ?_
                refine G_aload_n X dX6_add_77 rfl 0 rfl ?_
                refine G_getf X inX6 0 (eR0 _ _ _) rfl 0 (by decide) qw654 rfl dX6_add_78 ?_
                refine G_iconst X (v := 0) dX6_add_81 rfl ?_
                refine G_iald X (j := 0) 1 (eR1 _ _ _) (vi rfl) rfl dX6_add_82 ?_
                refine G_imul X dX6_add_83 ?_
                refine G_iadd X dX6_add_84 ?_
                refine G_topi (fun v35 ev35 => ?_)
                have h := bv_k ev35 h
                refine G_istore X (lv2 := [(7, .int v35), (0, .ref (fAd (eF E) 0)), (1, .int x1), (2, .int x2), (3, .int x3), (4, .int x4), (5, .int x5), (6, .int x6)]) dX6_add_85 (by decide) rfl ?_
                refine G_aload_n X dX6_add_87 rfl 1 rfl ?_
                refine G_getf X inX6 0 (eR0 _ _ _) rfl 0 (by decide) qw654 rfl dX6_add_88 ?_
                refine G_iload X dX6_add_91 0 rfl ?_
                refine G_iconst X (v := 0) dX6_add_93 rfl ?_
                refine G_iadd X dX6_add_94 ?_
                refine G_iload_n X dX6_add_95 rfl 2 rfl ?_
                have hi36 := gI_n h
                have h := gI_k h
                refine G_iast X (j := (v35 + 0).toNatClampNeg) 1 (eR1 _ _ _) (sRI _ _ _ _ (v35 + 0).toNatClampNeg _ _ (fun _ => rfl)) hi36 rfl dX6_add_96 ?_
                refine G_topS (fun A37 eA37 => ?_)
                have h := bv_k eA37 h
                refine G_aload_n X dX6_add_97 rfl 1 rfl ?_
                refine G_getf X inX6 0 (eR0 _ _ _) rfl 0 (by decide) qw654 rfl dX6_add_98 ?_
                refine G_iload X dX6_add_101 0 rfl ?_
                refine G_iconst X (v := 1) dX6_add_103 rfl ?_
                refine G_iadd X dX6_add_104 ?_
                refine G_iload_n X dX6_add_105 rfl 3 rfl ?_
                have hi38 := gI_n h
                have h := gI_k h
                refine G_iast X (j := (v35 + 1).toNatClampNeg) 1 (eR1 _ _ _) (sRI _ _ _ _ (v35 + 1).toNatClampNeg _ _ (fun _ => rfl)) hi38 rfl dX6_add_106 ?_
                refine G_topS (fun A39 eA39 => ?_)
                have h := bv_k eA39 h
                refine G_aload_n X dX6_add_107 rfl 1 rfl ?_
                refine G_getf X inX6 0 (eR0 _ _ _) rfl 0 (by decide) qw654 rfl dX6_add_108 ?_
                refine G_iload X dX6_add_111 0 rfl ?_
                refine G_iconst X (v := 2) dX6_add_113 rfl ?_
                refine G_iadd X dX6_add_114 ?_
                refine G_iload_n X dX6_add_115 rfl 4 rfl ?_
                have hi40 := gI_n h
                have h := gI_k h
                refine G_iast X (j := (v35 + 2).toNatClampNeg) 1 (eR1 _ _ _) (sRI _ _ _ _ (v35 + 2).toNatClampNeg _ _ (fun _ => rfl)) hi40 rfl dX6_add_116 ?_
                refine G_topS (fun A41 eA41 => ?_)
                have h := bv_k eA41 h
                refine G_aload_n X dX6_add_117 rfl 1 rfl ?_
                refine G_getf X inX6 0 (eR0 _ _ _) rfl 0 (by decide) qw654 rfl dX6_add_118 ?_
                refine G_iload X dX6_add_121 0 rfl ?_
                refine G_iconst X (v := 3) dX6_add_123 rfl ?_
                refine G_iadd X dX6_add_124 ?_
                refine G_iload X dX6_add_125 5 rfl ?_
                have hi42 := gI_n h
                have h := gI_k h
                refine G_iast X (j := (v35 + 3).toNatClampNeg) 1 (eR1 _ _ _) (sRI _ _ _ _ (v35 + 3).toNatClampNeg _ _ (fun _ => rfl)) hi42 rfl dX6_add_127 ?_
                refine G_topS (fun A43 eA43 => ?_)
                have h := bv_k eA43 h
                refine G_aload_n X dX6_add_128 rfl 1 rfl ?_
                refine G_getf X inX6 0 (eR0 _ _ _) rfl 0 (by decide) qw654 rfl dX6_add_129 ?_
                refine G_iload X dX6_add_132 0 rfl ?_
                refine G_iconst X (v := 4) dX6_add_134 rfl ?_
                refine G_iadd X dX6_add_135 ?_
                refine G_iload X dX6_add_136 6 rfl ?_
                have hi44 := gI_n h
                have h := gI_k h
                refine G_iast X (j := (v35 + 4).toNatClampNeg) 1 (eR1 _ _ _) (sRI _ _ _ _ (v35 + 4).toNatClampNeg _ _ (fun _ => rfl)) hi44 rfl dX6_add_138 ?_
                refine G_topS (fun A45 eA45 => ?_)
                have h := bv_k eA45 h
                refine G_aload_n X dX6_add_139 rfl 1 rfl ?_
                refine G_getf X inX6 0 (eR0 _ _ _) rfl 0 (by decide) qw654 rfl dX6_add_140 ?_
                refine G_iload X dX6_add_143 0 rfl ?_
                refine G_iconst X (v := 5) dX6_add_145 rfl ?_
                refine G_iadd X dX6_add_146 ?_
                refine G_iload X dX6_add_147 7 rfl ?_
                have hi46 := gI_n h
                have h := gI_k h
                refine G_iast X (j := (v35 + 5).toNatClampNeg) 1 (eR1 _ _ _) (sRI _ _ _ _ (v35 + 5).toNatClampNeg _ _ (fun _ => rfl)) hi46 rfl dX6_add_149 ?_
                refine G_topS (fun A47 eA47 => ?_)
                have h := bv_k eA47 h
                refine G_aload_n X dX6_add_150 rfl 1 rfl ?_
                refine G_getf X inX6 0 (eR0 _ _ _) rfl 0 (by decide) qw654 rfl dX6_add_151 ?_
                refine G_iload X dX6_add_154 0 rfl ?_
                refine G_bipush X (v := 6) dX6_add_156 rfl ?_
                refine G_iadd X dX6_add_158 ?_
                refine G_iconst X (v := 0) dX6_add_159 rfl ?_
                have hi48 := gI_n h
                have h := gI_k h
                refine G_iast X (j := (v35 + 6).toNatClampNeg) 1 (eR1 _ _ _) (sRI _ _ _ _ (v35 + 6).toNatClampNeg _ _ (fun _ => rfl)) hi48 rfl dX6_add_160 ?_
                refine G_topS (fun A49 eA49 => ?_)
                have h := bv_k eA49 h
                refine G_aload_n X dX6_add_161 rfl 1 rfl ?_
                refine G_getf X inX6 0 (eR0 _ _ _) rfl 0 (by decide) qw654 rfl dX6_add_162 ?_
                refine G_iload X dX6_add_165 0 rfl ?_
                refine G_bipush X (v := 7) dX6_add_167 rfl ?_
                refine G_iadd X dX6_add_169 ?_
                refine G_iconst X (v := 0) dX6_add_170 rfl ?_
                have hi50 := gI_n h
                have h := gI_k h
                refine G_iast X (j := (v35 + 7).toNatClampNeg) 1 (eR1 _ _ _) (sRI _ _ _ _ (v35 + 7).toNatClampNeg _ _ (fun _ => rfl)) hi50 rfl dX6_add_171 ?_
                refine G_topS (fun A51 eA51 => ?_)
                have h := bv_k eA51 h
                refine G_aload_n X dX6_add_172 rfl 1 rfl ?_
                refine G_getf X inX6 0 (eR0 _ _ _) rfl 0 (by decide) qw654 rfl dX6_add_173 ?_
                refine G_iconst X (v := 0) dX6_add_176 rfl ?_
                refine G_dup2 X dX6_add_177 rfl rfl ?_
                refine G_iald X (j := 0) 1 (eR1 _ _ _) (vi rfl) rfl dX6_add_178 ?_
                refine G_iconst X (v := 1) dX6_add_179 rfl ?_
                refine G_iadd X dX6_add_180 ?_
                refine G_iast X (j := 0) 1 (eR1 _ _ _) (sRI _ _ _ _ 0 _ _ (fun _ => rfl)) (vi rfl) rfl dX6_add_181 ?_
                refine G_topS (fun A52 eA52 => ?_)
                have h := bv_k eA52 h
                refine G_aload_n X dX6_add_182 rfl 1 rfl ?_
                refine G_getf X inX6 0 (eR0 _ _ _) rfl 0 (by decide) qw654 rfl dX6_add_183 ?_
                refine G_iconst X (v := 0) dX6_add_186 rfl ?_
                refine G_iald X (j := 0) 1 (eR1 _ _ _) (vi rfl) rfl dX6_add_187 ?_
                refine G_iconst X (v := 1) dX6_add_188 rfl ?_
                refine G_isub X dX6_add_189 ?_
                have e := so h
                subst e
                exact hQ _ _ dX6_add_190
theorem m_X6_add {l : Launch} {F : pfF} (hD : ∀ A, va_D (fA F) (cellsR (fAd F) (fCy F) A)) {x1 : Int32} {x2 : Int32} {x3 : Int32} {x4 : Int32} {x5 : Int32} {x6 : Int32} {A : St} {out : Int32 × St} (h : f_X6_add x1 x2 x3 x4 x5 x6 A = some out) : Mt l F cellsR yX6_add cX6_add 8 (some .int) rm_X6_add [.ref (fAd F 0), .int x1, .int x2, .int x3, .int x4, .int x5, .int x6] A (va_Qi (fun (r : Int32) (u : St) => r = out.1 ∧ u = out.2) (Wd cellsR F) (fA F)) := by
  refine Met_i (by decide +kernel) (Nat.le_of_ble_eq_true rfl) hD (fun E el ef X hQ => ?_)
  subst el
  subst ef
  exact b_X6_add X _ _ _ _ _ _ _ hQ h
theorem ok_X6_add : OkV yX6_add cX6_add 8 (some .int) 6 := ⟨qw717, qw718, qw6, qw719, by decide, by decide, by decide⟩
noncomputable def f_X6_isItem (x1 : Int32) (A : St) : Option (Bool) :=
  cl (f_X6_in x1.toInt64 0 (((A.1 1 0) - 1).toInt64)) fun r1 =>
  some r1
abbrev rm_X6_isItem : Room := { frames := 1, cells := 0, slots := 0, locals := 25 }
set_option maxHeartbeats 4000000 in
set_option maxRecDepth 100000 in
theorem b_X6_isItem {E : pfE} (X : CX cellsR E cX6_isItem RX6 rm_X6_isItem 2) (x1 : Int32) (A : St) {out : Bool} (hQ : Reti cellsR E cX6_isItem (bI out) A) (h : f_X6_isItem x1 A = some out) : GG cellsR E A 0 [(0, .ref (fAd (eF E) 0)), (1, .int x1)] [] := by
  unfold f_X6_isItem at h
  refine G_iload_n X dX6_isItem_0 rfl 1 rfl ?_
  refine G_i2l X dX6_isItem_1 rfl ?_
  refine G_lconst X (v := 0) dX6_isItem_2 rfl ?_
  refine G_aload_n X dX6_isItem_3 rfl 0 rfl ?_
  refine G_getf X inX6 0 (eR0 _ _ _) rfl 0 (by decide) qw654 rfl dX6_isItem_4 ?_
  refine G_iconst X (v := 0) dX6_isItem_7 rfl ?_
  refine G_iald X (j := 0) 1 (eR1 _ _ _) (vi rfl) rfl dX6_isItem_8 ?_
  refine G_iconst X (v := 1) dX6_isItem_9 rfl ?_
  refine G_isub X dX6_isItem_10 ?_
  refine G_i2l X dX6_isItem_11 rfl ?_
  obtain ⟨r1, hz2, h⟩ := cl_k h
  refine G_callS_i X (As := [.long x1.toInt64, .long 0, .long (((A.1 1 0) - 1).toInt64)]) (rest := []) ok_X6_in qw727 ⟨rfl, rfl, Nat.le_of_ble_eq_true rfl, Nat.le_of_ble_eq_true rfl⟩ (m_X6_in X.d hz2) rfl rfl (Nat.le_of_ble_eq_true rfl) dX6_isItem_12 ?_
  have e := so h
  subst e
  exact hQ _ _ dX6_isItem_15
theorem m_X6_isItem {l : Launch} {F : pfF} (hD : ∀ A, va_D (fA F) (cellsR (fAd F) (fCy F) A)) {x1 : Int32} {A : St} {out : Bool} (h : f_X6_isItem x1 A = some out) : Mt l F cellsR yX6_isItem cX6_isItem 2 (some .boolean) rm_X6_isItem [.ref (fAd F 0), .int x1] A (va_Qi (fun (r : Int32) (u : St) => r = bI out ∧ u = A) (Wd cellsR F) (fA F)) := by
  refine Met_iz (by decide +kernel) (Nat.le_of_ble_eq_true rfl) hD (nar_bI _) (fun E el ef X hQ => ?_)
  subst el
  subst ef
  exact b_X6_isItem X _ _ hQ h
theorem ok_X6_isItem : OkV yX6_isItem cX6_isItem 2 (some .boolean) 1 := ⟨qw748, qs9, qw6, qw749, by decide, by decide, by decide⟩
noncomputable def f_X6_it (x1 : Int32) (x2 : Int32) (A : St) : Option (Int32) :=
  gI (((1 : Int32) + ((8 : Int32) * x1)) + x2) 117 <|
  some (A.1 1 (((1 : Int32) + ((8 : Int32) * x1)) + x2).toNatClampNeg)
abbrev rm_X6_it : Room := { frames := 0, cells := 0, slots := 0, locals := 0 }
set_option maxHeartbeats 4000000 in
set_option maxRecDepth 100000 in
theorem b_X6_it {E : pfE} (X : CX cellsR E cX6_it RX6 rm_X6_it 3) (x1 : Int32) (x2 : Int32) (A : St) {out : Int32} (hQ : Reti cellsR E cX6_it out A) (h : f_X6_it x1 x2 A = some out) : GG cellsR E A 0 [(0, .ref (fAd (eF E) 0)), (1, .int x1), (2, .int x2)] [] := by
  unfold f_X6_it at h
  refine G_aload_n X dX6_it_0 rfl 0 rfl ?_
  refine G_getf X inX6 0 (eR0 _ _ _) rfl 0 (by decide) qw654 rfl dX6_it_1 ?_
  refine G_iconst X (v := 1) dX6_it_4 rfl ?_
  refine G_bipush X (v := 8) dX6_it_5 rfl ?_
  refine G_iload_n X dX6_it_7 rfl 1 rfl ?_
  refine G_imul X dX6_it_8 ?_
  refine G_iadd X dX6_it_9 ?_
  refine G_iload_n X dX6_it_10 rfl 2 rfl ?_
  refine G_iadd X dX6_it_11 ?_
  have hi1 := gI_n h
  have h := gI_k h
  refine G_iald X (j := (((1 : Int32) + ((8 : Int32) * x1)) + x2).toNatClampNeg) 1 (eR1 _ _ _) hi1 rfl dX6_it_12 ?_
  have e := so h
  subst e
  exact hQ _ _ dX6_it_13
theorem m_X6_it {l : Launch} {F : pfF} (hD : ∀ A, va_D (fA F) (cellsR (fAd F) (fCy F) A)) {x1 : Int32} {x2 : Int32} {A : St} {out : Int32} (h : f_X6_it x1 x2 A = some out) : Mt l F cellsR yX6_it cX6_it 3 (some .int) rm_X6_it [.ref (fAd F 0), .int x1, .int x2] A (va_Qi (fun (r : Int32) (u : St) => r = out ∧ u = A) (Wd cellsR F) (fA F)) := by
  refine Met_i (by decide +kernel) (Nat.le_of_ble_eq_true rfl) hD (fun E el ef X hQ => ?_)
  subst el
  subst ef
  exact b_X6_it X _ _ _ hQ h
theorem ok_X6_it : OkV yX6_it cX6_it 3 (some .int) 2 := ⟨qw753, qs10, qw6, qw754, by decide, by decide, by decide⟩
noncomputable def f_X6_of (x1 : Int32) (x2 : Int32) (A : St) : Option (Int32 × St) :=
  cl (f_X6_isItem x1 A) fun r1 =>
  if (bI r1) = 0 then
    cl2 (f_X6_finds 0 A) fun r4 A6 =>
    some (r4, A6)
  else
    cl (f_X6_in x2.toInt64 0 7) fun r7 =>
    if (bI r7) = 0 then
      cl2 (f_X6_finds 0 A) fun r10 A12 =>
      some (r10, A12)
    else
      cl (f_X6_it x1 x2 A) fun r13 =>
      some (r13, A)
abbrev rm_X6_of : Room := { frames := 2, cells := 0, slots := 0, locals := 46 }
set_option maxHeartbeats 4000000 in
set_option maxRecDepth 100000 in
theorem b_X6_of {E : pfE} (X : CX cellsR E cX6_of RX6 rm_X6_of 3) (x1 : Int32) (x2 : Int32) (A : St) {out : Int32 × St} (hQ : Reti cellsR E cX6_of out.1 out.2) (h : f_X6_of x1 x2 A = some out) : GG cellsR E A 0 [(0, .ref (fAd (eF E) 0)), (1, .int x1), (2, .int x2)] [] := by
  unfold f_X6_of at h
  refine G_aload_n X dX6_of_0 rfl 0 rfl ?_
  refine G_iload_n X dX6_of_1 rfl 1 rfl ?_
  obtain ⟨r1, hz2, h⟩ := cl_k h
  refine G_callV_i X (As := [.int x1]) (rest := []) ok_X6_isItem qw746 0 (eR0 _ _ _) rfl rfl ⟨rfl, rfl, Nat.le_of_ble_eq_true rfl, Nat.le_of_ble_eq_true rfl⟩ (m_X6_isItem X.d hz2) rfl rfl (Nat.le_of_ble_eq_true rfl) dX6_of_2 ?_
  refine G_ifeq X (tgt := 29) dX6_of_5 (by decide) (fun c3 => ?_) (fun c3 => ?_)
  · have h := if_t c3 h
    refine G_aload_n X dX6_of_29 rfl 0 rfl ?_
    refine G_iconst X (v := 0) dX6_of_30 rfl ?_
    obtain ⟨r4, A6, hz5, h⟩ := cl2_k h
    refine G_callV_i X (As := [.int 0]) (rest := []) ok_X6_finds qw737 0 (eR0 _ _ _) rfl rfl ⟨rfl, rfl, Nat.le_of_ble_eq_true rfl, Nat.le_of_ble_eq_true rfl⟩ (m_X6_finds X.d hz5) rfl rfl (Nat.le_of_ble_eq_true rfl) dX6_of_31 ?_
    have e := so h
    subst e
    exact hQ _ _ dX6_of_34
  · have h := if_f c3 h
    refine G_iload_n X dX6_of_8 rfl 2 rfl ?_
    refine G_i2l X dX6_of_9 rfl ?_
    refine G_lconst X (v := 0) dX6_of_10 rfl ?_
    refine G_ldc2 X (v := 7) qw750 dX6_of_11 ?_
    obtain ⟨r7, hz8, h⟩ := cl_k h
    refine G_callS_i X (As := [.long x2.toInt64, .long 0, .long 7]) (rest := []) ok_X6_in qw727 ⟨rfl, rfl, Nat.le_of_ble_eq_true rfl, Nat.le_of_ble_eq_true rfl⟩ (m_X6_in X.d hz8) rfl rfl (Nat.le_of_ble_eq_true rfl) dX6_of_14 ?_
    refine G_ifeq X (tgt := 29) dX6_of_17 (by decide) (fun c9 => ?_) (fun c9 => ?_)
    · have h := if_t c9 h
      refine G_aload_n X dX6_of_29 rfl 0 rfl ?_
      refine G_iconst X (v := 0) dX6_of_30 rfl ?_
      obtain ⟨r10, A12, hz11, h⟩ := cl2_k h
      refine G_callV_i X (As := [.int 0]) (rest := []) ok_X6_finds qw737 0 (eR0 _ _ _) rfl rfl ⟨rfl, rfl, Nat.le_of_ble_eq_true rfl, Nat.le_of_ble_eq_true rfl⟩ (m_X6_finds X.d hz11) rfl rfl (Nat.le_of_ble_eq_true rfl) dX6_of_31 ?_
      have e := so h
      subst e
      exact hQ _ _ dX6_of_34
    · have h := if_f c9 h
      refine G_aload_n X dX6_of_20 rfl 0 rfl ?_
      refine G_iload_n X dX6_of_21 rfl 1 rfl ?_
      refine G_iload_n X dX6_of_22 rfl 2 rfl ?_
      obtain ⟨r13, hz14, h⟩ := cl_k h
      refine G_callV_i X (As := [.int x1, .int x2]) (rest := []) ok_X6_it qw751 0 (eR0 _ _ _) rfl rfl ⟨rfl, rfl, Nat.le_of_ble_eq_true rfl, Nat.le_of_ble_eq_true rfl⟩ (m_X6_it X.d hz14) rfl rfl (Nat.le_of_ble_eq_true rfl) dX6_of_23 ?_
      refine G_goto X (tgt := 34) dX6_of_26 (by decide) ?_
      have e := so h
      subst e
      exact hQ _ _ dX6_of_34
theorem m_X6_of {l : Launch} {F : pfF} (hD : ∀ A, va_D (fA F) (cellsR (fAd F) (fCy F) A)) {x1 : Int32} {x2 : Int32} {A : St} {out : Int32 × St} (h : f_X6_of x1 x2 A = some out) : Mt l F cellsR yX6_of cX6_of 3 (some .int) rm_X6_of [.ref (fAd F 0), .int x1, .int x2] A (va_Qi (fun (r : Int32) (u : St) => r = out.1 ∧ u = out.2) (Wd cellsR F) (fA F)) := by
  refine Met_i (by decide +kernel) (Nat.le_of_ble_eq_true rfl) hD (fun E el ef X hQ => ?_)
  subst el
  subst ef
  exact b_X6_of X _ _ _ hQ h
theorem ok_X6_of : OkV yX6_of cX6_of 3 (some .int) 2 := ⟨qw743, qw744, qw6, qw745, by decide, by decide, by decide⟩
noncomputable def f_X6_change (x1 : Int32) (x2 : Int32) (x3 : Int32) (A : St) : Option (Int32 × St) :=
  cl (f_X6_isItem x1 A) fun r1 =>
  if (bI r1) = 0 then
    cl2 (f_X6_finds 0 A) fun r4 A6 =>
    some (r4, A6)
  else
    cl (f_X6_mayBe x2 x3) fun r7 =>
    if (bI r7) = 0 then
      cl2 (f_X6_finds 0 A) fun r14 A16 =>
      some (r14, A16)
    else
      cl (f_X6_it x1 x2 A) fun r10 =>
      gI (((1 : Int32) + ((8 : Int32) * x1)) + x2) 117 <|
      bv (upI A 1 (((1 : Int32) + ((8 : Int32) * x1)) + x2).toNatClampNeg x3) fun A13 =>
      some (r10, A13)
abbrev rm_X6_change : Room := { frames := 3, cells := 0, slots := 0, locals := 66 }
set_option maxHeartbeats 4000000 in
set_option maxRecDepth 100000 in
theorem b_X6_change {E : pfE} (X : CX cellsR E cX6_change RX6 rm_X6_change 5) (x1 : Int32) (x2 : Int32) (x3 : Int32) (A : St) {out : Int32 × St} (hQ : Reti cellsR E cX6_change out.1 out.2) (h : f_X6_change x1 x2 x3 A = some out) : GG cellsR E A 0 [(0, .ref (fAd (eF E) 0)), (1, .int x1), (2, .int x2), (3, .int x3)] [] := by
  unfold f_X6_change at h
  refine G_aload_n X dX6_change_0 rfl 0 rfl ?_
  refine G_iload_n X dX6_change_1 rfl 1 rfl ?_
  obtain ⟨r1, hz2, h⟩ := cl_k h
  refine G_callV_i X (As := [.int x1]) (rest := []) ok_X6_isItem qw746 0 (eR0 _ _ _) rfl rfl ⟨rfl, rfl, Nat.le_of_ble_eq_true rfl, Nat.le_of_ble_eq_true rfl⟩ (m_X6_isItem X.d hz2) rfl rfl (Nat.le_of_ble_eq_true rfl) dX6_change_2 ?_
  refine G_ifeq X (tgt := 16) dX6_change_5 (by decide) (fun c3 => ?_) (fun c3 => ?_)
  · have h := if_t c3 h
    refine G_aload_n X dX6_change_16 rfl 0 rfl ?_
    refine G_iconst X (v := 0) dX6_change_17 rfl ?_
    obtain ⟨r4, A6, hz5, h⟩ := cl2_k h
    refine G_callV_i X (As := [.int 0]) (rest := []) ok_X6_finds qw737 0 (eR0 _ _ _) rfl rfl ⟨rfl, rfl, Nat.le_of_ble_eq_true rfl, Nat.le_of_ble_eq_true rfl⟩ (m_X6_finds X.d hz5) rfl rfl (Nat.le_of_ble_eq_true rfl) dX6_change_18 ?_
    have e := so h
    subst e
    exact hQ _ _ dX6_change_21
  · have h := if_f c3 h
    refine G_iload_n X dX6_change_8 rfl 2 rfl ?_
    refine G_iload_n X dX6_change_9 rfl 3 rfl ?_
    obtain ⟨r7, hz8, h⟩ := cl_k h
    refine G_callS_i X (As := [.int x2, .int x3]) (rest := []) ok_X6_mayBe qw720 ⟨rfl, rfl, Nat.le_of_ble_eq_true rfl, Nat.le_of_ble_eq_true rfl⟩ (m_X6_mayBe X.d hz8) rfl rfl (Nat.le_of_ble_eq_true rfl) dX6_change_10 ?_
    refine G_ifne X (tgt := 22) dX6_change_13 (by decide) (fun c9 => ?_) (fun c9 => ?_)
    · have h := if_t c9 h
      refine G_aload_n X dX6_change_16 rfl 0 rfl ?_
      refine G_iconst X (v := 0) dX6_change_17 rfl ?_
      obtain ⟨r14, A16, hz15, h⟩ := cl2_k h
      refine G_callV_i X (As := [.int 0]) (rest := []) ok_X6_finds qw737 0 (eR0 _ _ _) rfl rfl ⟨rfl, rfl, Nat.le_of_ble_eq_true rfl, Nat.le_of_ble_eq_true rfl⟩ (m_X6_finds X.d hz15) rfl rfl (Nat.le_of_ble_eq_true rfl) dX6_change_18 ?_
      have e := so h
      subst e
      exact hQ _ _ dX6_change_21
    · have h := if_f c9 h
      refine G_aload_n X dX6_change_22 rfl 0 rfl ?_
      refine G_iload_n X dX6_change_23 rfl 1 rfl ?_
      refine G_iload_n X dX6_change_24 rfl 2 rfl ?_
      obtain ⟨r10, hz11, h⟩ := cl_k h
      refine G_callV_i X (As := [.int x1, .int x2]) (rest := []) ok_X6_it qw751 0 (eR0 _ _ _) rfl rfl ⟨rfl, rfl, Nat.le_of_ble_eq_true rfl, Nat.le_of_ble_eq_true rfl⟩ (m_X6_it X.d hz11) rfl rfl (Nat.le_of_ble_eq_true rfl) dX6_change_25 ?_
      refine G_istore X (lv2 := [(4, .int r10), (0, .ref (fAd (eF E) 0)), (1, .int x1), (2, .int x2), (3, .int x3)]) dX6_change_28 (by decide) rfl ?_
      refine G_aload_n X dX6_change_30 rfl 1 rfl ?_
      refine G_getf X inX6 0 (eR0 _ _ _) rfl 0 (by decide) qw654 rfl dX6_change_31 ?_
      refine G_iconst X (v := 1) dX6_change_34 rfl ?_
      refine G_bipush X (v := 8) dX6_change_35 rfl ?_
      refine G_iload_n X dX6_change_37 rfl 2 rfl ?_
      refine G_imul X dX6_change_38 ?_
      refine G_iadd X dX6_change_39 ?_
      refine G_iload_n X dX6_change_40 rfl 3 rfl ?_
      refine G_iadd X dX6_change_41 ?_
      refine G_iload_n X dX6_change_42 rfl 4 rfl ?_
      have hi12 := gI_n h
      have h := gI_k h
      refine G_iast X (j := (((1 : Int32) + ((8 : Int32) * x1)) + x2).toNatClampNeg) 1 (eR1 _ _ _) (sRI _ _ _ _ (((1 : Int32) + ((8 : Int32) * x1)) + x2).toNatClampNeg _ _ (fun _ => rfl)) hi12 rfl dX6_change_43 ?_
      refine G_topS (fun A13 eA13 => ?_)
      have h := bv_k eA13 h
      refine G_iload X dX6_change_44 0 rfl ?_
      have e := so h
      subst e
      exact hQ _ _ dX6_change_46
theorem m_X6_change {l : Launch} {F : pfF} (hD : ∀ A, va_D (fA F) (cellsR (fAd F) (fCy F) A)) {x1 : Int32} {x2 : Int32} {x3 : Int32} {A : St} {out : Int32 × St} (h : f_X6_change x1 x2 x3 A = some out) : Mt l F cellsR yX6_change cX6_change 5 (some .int) rm_X6_change [.ref (fAd F 0), .int x1, .int x2, .int x3] A (va_Qi (fun (r : Int32) (u : St) => r = out.1 ∧ u = out.2) (Wd cellsR F) (fA F)) := by
  refine Met_i (by decide +kernel) (Nat.le_of_ble_eq_true rfl) hD (fun E el ef X hQ => ?_)
  subst el
  subst ef
  exact b_X6_change X _ _ _ _ hQ h
theorem ok_X6_change : OkV yX6_change cX6_change 5 (some .int) 3 := ⟨qw756, qw757, qw6, qw758, by decide, by decide, by decide⟩
noncomputable def f_X6_drop_L27 (l1 : Int32) (A : St) : Option ((Int32 × St) ⊕ (St)) :=
  if (A.1 1 0) ≤ l1 then
    some (.inr A)
  else
    gI (((1 : Int32) + ((8 : Int32) * l1)) + 7) 117 <|
    gI (((1 : Int32) + ((8 : Int32) * l1)) + 7) 117 <|
    bv (upI A 1 (((1 : Int32) + ((8 : Int32) * l1)) + 7).toNatClampNeg ((A.1 1 (((1 : Int32) + ((8 : Int32) * l1)) + 7).toNatClampNeg) &&& (((1 : Int32) <<< ((A.1 1 0) &&& 31)) ^^^ (-1)))) fun A6 =>
    bv (l1 + 1) fun v7 =>
    some (.inl (v7, A6))
noncomputable def f_X6_drop_X70 (A : St) : Option (Int32 × St) :=
  some (A.1 1 0, A)
noncomputable def f_X6_drop (A : St) : Option (Int32 × St) :=
  if (A.1 1 0) = 0 then
    cl2 (f_X6_finds 3 A) fun r9 A11 =>
    some (r9, A11)
  else
    bv (upI A 1 0 ((A.1 1 0) - 1)) fun A2 =>
    cl (loop (fun s => f_X6_drop_L27 s.1 s.2) (0, A2)) (fun s => f_X6_drop_X70 s)
abbrev rm_X6_drop : Room := { frames := 1, cells := 0, slots := 0, locals := 21 }
set_option maxHeartbeats 4000000 in
set_option maxRecDepth 100000 in
theorem g_X6_drop_L27 {E : pfE} (X : CX cellsR E cX6_drop RX6 rm_X6_drop 2) : ∀ (n : Nat) (l1 : Int32) (A : St) (ρ : St), lp (fun s => f_X6_drop_L27 s.1 s.2) n (l1, A) = some ρ → (∀ (B : St), ρ = B → GG cellsR E B 70 [(0, .ref (fAd (eF E) 0))] []) → GG cellsR E A 27 [(0, .ref (fAd (eF E) 0)), (1, .int l1)] [] := by
  intro n
  induction n with
  | zero =>
    intro l1 A ρ h
    cases h
  | succ n ih =>
    intro l1 A ρ h0 K
    obtain ⟨x, hb, hx⟩ := lp_step h0
    have h : f_X6_drop_L27 l1 A = some x := hb
    unfold f_X6_drop_L27 at h
    clear hb h0
    refine G_iload_n X dX6_drop_27 rfl 1 rfl ?_
    refine G_aload_n X dX6_drop_28 rfl 0 rfl ?_
    refine G_getf X inX6 0 (eR0 _ _ _) rfl 0 (by decide) qw654 rfl dX6_drop_29 ?_
    refine G_iconst X (v := 0) dX6_drop_32 rfl ?_
    refine G_iald X (j := 0) 1 (eR1 _ _ _) (vi rfl) rfl dX6_drop_33 ?_
    refine G_icge X (tgt := 70) dX6_drop_34 (by decide) (fun c3 => ?_) (fun c3 => ?_)
    · have h := if_t c3 h
      exact G_sub [0] rfl (K _ (lpr (so h) hx).symm)
    · have h := if_f c3 h
      refine G_aload_n X dX6_drop_37 rfl 0 rfl ?_
      refine G_getf X inX6 0 (eR0 _ _ _) rfl 0 (by decide) qw654 rfl dX6_drop_38 ?_
      refine G_iconst X (v := 1) dX6_drop_41 rfl ?_
      refine G_bipush X (v := 8) dX6_drop_42 rfl ?_
      refine G_iload_n X dX6_drop_44 rfl 1 rfl ?_
      refine G_imul X dX6_drop_45 ?_
      refine G_iadd X dX6_drop_46 ?_
      refine G_bipush X (v := 7) dX6_drop_47 rfl ?_
      refine G_iadd X dX6_drop_49 ?_
      refine G_dup2 X dX6_drop_50 rfl rfl ?_
      have hi4 := gI_n h
      have h := gI_k h
      refine G_iald X (j := (((1 : Int32) + ((8 : Int32) * l1)) + 7).toNatClampNeg) 1 (eR1 _ _ _) hi4 rfl dX6_drop_51 ?_
      refine G_iconst X (v := 1) dX6_drop_52 rfl ?_
      refine G_aload_n X dX6_drop_53 rfl 0 rfl ?_
      refine G_getf X inX6 0 (eR0 _ _ _) rfl 0 (by decide) qw654 rfl dX6_drop_54 ?_
      refine G_iconst X (v := 0) dX6_drop_57 rfl ?_
      refine G_iald X (j := 0) 1 (eR1 _ _ _) (vi rfl) rfl dX6_drop_58 ?_
      refine G_ishl X dX6_drop_59 ?_
      refine G_iconst X (v := (-1)) dX6_drop_60 rfl ?_
      refine G_ixor X dX6_drop_61 ?_
      refine G_iand X dX6_drop_62 ?_
      have hi5 := gI_n h
      have h := gI_k h
      refine G_iast X (j := (((1 : Int32) + ((8 : Int32) * l1)) + 7).toNatClampNeg) 1 (eR1 _ _ _) (sRI _ _ _ _ (((1 : Int32) + ((8 : Int32) * l1)) + 7).toNatClampNeg _ _ (fun _ => rfl)) hi5 rfl dX6_drop_63 ?_
      refine G_topS (fun A6 eA6 => ?_)
      have h := bv_k eA6 h
      obtain ⟨v7, ev7⟩ : ∃ y : Int32, y = l1 + 1 := ⟨_, rfl⟩
      have h := bv_k ev7 h
      refine G_iinc X (q := 1) (v := v7) (lv2 := [(1, .int v7), (0, .ref (fAd (eF E) 0))]) dX6_drop_64 rfl (by rw [ev7]; rfl) (by decide) rfl ?_
      refine G_goto X (tgt := 27) dX6_drop_67 (by decide) ?_
      exact G_sub [1, 0] rfl (ih _ _ _ (lpl (so h) hx) K)
set_option maxHeartbeats 4000000 in
set_option maxRecDepth 100000 in
theorem b_X6_drop {E : pfE} (X : CX cellsR E cX6_drop RX6 rm_X6_drop 2) (A : St) {out : Int32 × St} (hQ : Reti cellsR E cX6_drop out.1 out.2) (h : f_X6_drop A = some out) : GG cellsR E A 0 [(0, .ref (fAd (eF E) 0))] [] := by
  unfold f_X6_drop at h
  refine G_aload_n X dX6_drop_0 rfl 0 rfl ?_
  refine G_getf X inX6 0 (eR0 _ _ _) rfl 0 (by decide) qw654 rfl dX6_drop_1 ?_
  refine G_iconst X (v := 0) dX6_drop_4 rfl ?_
  refine G_iald X (j := 0) 1 (eR1 _ _ _) (vi rfl) rfl dX6_drop_5 ?_
  refine G_ifne X (tgt := 15) dX6_drop_6 (by decide) (fun c1 => ?_) (fun c1 => ?_)
  · have h := if_t c1 h
    refine G_aload_n X dX6_drop_9 rfl 0 rfl ?_
    refine G_iconst X (v := 3) dX6_drop_10 rfl ?_
    obtain ⟨r9, A11, hz10, h⟩ := cl2_k h
    refine G_callV_i X (As := [.int 3]) (rest := []) ok_X6_finds qw737 0 (eR0 _ _ _) rfl rfl ⟨rfl, rfl, Nat.le_of_ble_eq_true rfl, Nat.le_of_ble_eq_true rfl⟩ (m_X6_finds X.d hz10) rfl rfl (Nat.le_of_ble_eq_true rfl) dX6_drop_11 ?_
    have e := so h
    subst e
    exact hQ _ _ dX6_drop_14
  · have h := if_f c1 h
    refine G_aload_n X dX6_drop_15 rfl 0 rfl ?_
    refine G_getf X inX6 0 (eR0 _ _ _) rfl 0 (by decide) qw654 rfl dX6_drop_16 ?_
    refine G_iconst X (v := 0) dX6_drop_19 rfl ?_
    refine G_dup2 X dX6_drop_20 rfl rfl ?_
    refine G_iald X (j := 0) 1 (eR1 _ _ _) (vi rfl) rfl dX6_drop_21 ?_
    refine G_iconst X (v := 1) dX6_drop_22 rfl ?_
    refine G_isub X dX6_drop_23 ?_
    refine G_iast X (j := 0) 1 (eR1 _ _ _) (sRI _ _ _ _ 0 _ _ (fun _ => rfl)) (vi rfl) rfl dX6_drop_24 ?_
    refine G_topS (fun A2 eA2 => ?_)
    have h := bv_k eA2 h
    refine G_iconst X (v := 0) dX6_drop_25 rfl ?_
    refine G_istore_n X (lv2 := [(1, .int 0), (0, .ref (fAd (eF E) 0))]) dX6_drop_26 rfl (by decide) rfl ?_
    obtain ⟨ρ, hl, h⟩ := cl_k h
    obtain ⟨n, hl⟩ := loop_some hl
    refine G_sub [1, 0] rfl (g_X6_drop_L27 X n _ _ ρ hl ?_)
    intro A8 e
    rw [e] at h
    have h : f_X6_drop_X70 A8 = some _ := h
    unfold f_X6_drop_X70 at h
    refine G_aload_n X dX6_drop_70 rfl 0 rfl ?_
    refine G_getf X inX6 0 (eR0 _ _ _) rfl 0 (by decide) qw654 rfl dX6_drop_71 ?_
    refine G_iconst X (v := 0) dX6_drop_74 rfl ?_
    refine G_iald X (j := 0) 1 (eR1 _ _ _) (vi rfl) rfl dX6_drop_75 ?_
    have e := so h
    subst e
    exact hQ _ _ dX6_drop_76
theorem m_X6_drop {l : Launch} {F : pfF} (hD : ∀ A, va_D (fA F) (cellsR (fAd F) (fCy F) A)) {A : St} {out : Int32 × St} (h : f_X6_drop A = some out) : Mt l F cellsR yX6_drop cX6_drop 2 (some .int) rm_X6_drop [.ref (fAd F 0)] A (va_Qi (fun (r : Int32) (u : St) => r = out.1 ∧ u = out.2) (Wd cellsR F) (fA F)) := by
  refine Met_i (by decide +kernel) (Nat.le_of_ble_eq_true rfl) hD (fun E el ef X hQ => ?_)
  subst el
  subst ef
  exact b_X6_drop X _ hQ h
theorem ok_X6_drop : OkV yX6_drop cX6_drop 2 (some .int) 0 := ⟨qw760, qw761, qw6, qw762, by decide, by decide, by decide⟩
noncomputable def f_X6_isUnder (x0 : Int32) (x1 : Int32) : Option (Bool) :=
  if x1 = 0 then
    some true
  else
    if x1 = x0 then
      some true
    else
      if x0 = 3 then
        if x1 = 1 then
          some true
        else
          if x0 = 4 then
            if x1 = 2 then
              some true
            else
              some false
          else
            some false
      else
        if x0 = 4 then
          if x1 = 2 then
            some true
          else
            some false
        else
          some false
abbrev rm_X6_isUnder : Room := { frames := 0, cells := 0, slots := 0, locals := 0 }
set_option maxHeartbeats 4000000 in
set_option maxRecDepth 100000 in
theorem b_X6_isUnder {wl : pfW} {E : pfE} (X : CX wl E cX6_isUnder RX6 rm_X6_isUnder 2) (x0 : Int32) (x1 : Int32) {A : St} {out : Bool} (hQ : Reti wl E cX6_isUnder (bI out) A) (h : f_X6_isUnder x0 x1 = some out) : GG wl E A 0 [(0, .int x0), (1, .int x1)] [] := by
  unfold f_X6_isUnder at h
  refine G_iload_n X dX6_isUnder_0 rfl 1 rfl ?_
  refine G_ifeq X (tgt := 29) dX6_isUnder_1 (by decide) (fun c1 => ?_) (fun c1 => ?_)
  · have h := if_t c1 h
    refine G_iconst X (v := 1) dX6_isUnder_29 rfl ?_
    refine G_goto X (tgt := 34) dX6_isUnder_30 (by decide) ?_
    have e := so h
    subst e
    exact hQ _ _ dX6_isUnder_34
  · have h := if_f c1 h
    refine G_iload_n X dX6_isUnder_4 rfl 1 rfl ?_
    refine G_iload_n X dX6_isUnder_5 rfl 0 rfl ?_
    refine G_iceq X (tgt := 29) dX6_isUnder_6 (by decide) (fun c2 => ?_) (fun c2 => ?_)
    · have h := if_t c2 h
      refine G_iconst X (v := 1) dX6_isUnder_29 rfl ?_
      refine G_goto X (tgt := 34) dX6_isUnder_30 (by decide) ?_
      have e := so h
      subst e
      exact hQ _ _ dX6_isUnder_34
    · have h := if_f c2 h
      refine G_iload_n X dX6_isUnder_9 rfl 0 rfl ?_
      refine G_iconst X (v := 3) dX6_isUnder_10 rfl ?_
      refine G_icne X (tgt := 19) dX6_isUnder_11 (by decide) (fun c3 => ?_) (fun c3 => ?_)
      · have h := if_t c3 h
        refine G_iload_n X dX6_isUnder_14 rfl 1 rfl ?_
        refine G_iconst X (v := 1) dX6_isUnder_15 rfl ?_
        refine G_iceq X (tgt := 29) dX6_isUnder_16 (by decide) (fun c6 => ?_) (fun c6 => ?_)
        · have h := if_t c6 h
          refine G_iconst X (v := 1) dX6_isUnder_29 rfl ?_
          refine G_goto X (tgt := 34) dX6_isUnder_30 (by decide) ?_
          have e := so h
          subst e
          exact hQ _ _ dX6_isUnder_34
        · have h := if_f c6 h
          refine G_iload_n X dX6_isUnder_19 rfl 0 rfl ?_
          refine G_iconst X (v := 4) dX6_isUnder_20 rfl ?_
          refine G_icne X (tgt := 33) dX6_isUnder_21 (by decide) (fun c7 => ?_) (fun c7 => ?_)
          · have h := if_t c7 h
            refine G_iload_n X dX6_isUnder_24 rfl 1 rfl ?_
            refine G_iconst X (v := 2) dX6_isUnder_25 rfl ?_
            refine G_icne X (tgt := 33) dX6_isUnder_26 (by decide) (fun c8 => ?_) (fun c8 => ?_)
            · have h := if_t c8 h
              refine G_iconst X (v := 1) dX6_isUnder_29 rfl ?_
              refine G_goto X (tgt := 34) dX6_isUnder_30 (by decide) ?_
              have e := so h
              subst e
              exact hQ _ _ dX6_isUnder_34
            · have h := if_f c8 h
              refine G_iconst X (v := 0) dX6_isUnder_33 rfl ?_
              have e := so h
              subst e
              exact hQ _ _ dX6_isUnder_34
          · have h := if_f c7 h
            refine G_iconst X (v := 0) dX6_isUnder_33 rfl ?_
            have e := so h
            subst e
            exact hQ _ _ dX6_isUnder_34
      · have h := if_f c3 h
        refine G_iload_n X dX6_isUnder_19 rfl 0 rfl ?_
        refine G_iconst X (v := 4) dX6_isUnder_20 rfl ?_
        refine G_icne X (tgt := 33) dX6_isUnder_21 (by decide) (fun c4 => ?_) (fun c4 => ?_)
        · have h := if_t c4 h
          refine G_iload_n X dX6_isUnder_24 rfl 1 rfl ?_
          refine G_iconst X (v := 2) dX6_isUnder_25 rfl ?_
          refine G_icne X (tgt := 33) dX6_isUnder_26 (by decide) (fun c5 => ?_) (fun c5 => ?_)
          · have h := if_t c5 h
            refine G_iconst X (v := 1) dX6_isUnder_29 rfl ?_
            refine G_goto X (tgt := 34) dX6_isUnder_30 (by decide) ?_
            have e := so h
            subst e
            exact hQ _ _ dX6_isUnder_34
          · have h := if_f c5 h
            refine G_iconst X (v := 0) dX6_isUnder_33 rfl ?_
            have e := so h
            subst e
            exact hQ _ _ dX6_isUnder_34
        · have h := if_f c4 h
          refine G_iconst X (v := 0) dX6_isUnder_33 rfl ?_
          have e := so h
          subst e
          exact hQ _ _ dX6_isUnder_34
theorem m_X6_isUnder {wl : pfW} {l : Launch} {F : pfF} (hD : ∀ A, va_D (fA F) (wl (fAd F) (fCy F) A)) {x0 : Int32} {x1 : Int32} {A : St} {out : Bool} (h : f_X6_isUnder x0 x1 = some out) : Mt l F wl yX6_isUnder cX6_isUnder 2 (some .boolean) rm_X6_isUnder [.int x0, .int x1] A (va_Qi (fun (r : Int32) (u : St) => r = bI out ∧ u = A) (Wd wl F) (fA F)) := by
  refine Met_iz (by decide +kernel) (Nat.le_of_ble_eq_true rfl) hD (nar_bI _) (fun E el ef X hQ => ?_)
  subst el
  subst ef
  exact b_X6_isUnder X _ _ hQ h
theorem ok_X6_isUnder : OkS yX6_isUnder cX6_isUnder 2 (some .boolean) 2 := ⟨qw768, qw6, qw769, by decide, by decide, by decide⟩
noncomputable def f_X6_as (x1 : Int32) (x2 : Int32) (A : St) : Option (Int32 × St) :=
  cl (f_X6_isItem x1 A) fun r1 =>
  if (bI r1) = 0 then
    cl2 (f_X6_finds 0 A) fun r4 A6 =>
    some (r4, A6)
  else
    cl (f_X6_isKind x2) fun r7 =>
    if (bI r7) = 0 then
      cl2 (f_X6_finds 0 A) fun r20 A22 =>
      some (r20, A22)
    else
      cl (f_X6_it x1 0 A) fun r10 =>
      cl (f_X6_isUnder r10 x2) fun r12 =>
      if (bI r12) = 0 then
        cl2 (f_X6_finds 2 A) fun r15 A17 =>
        some (r15, A17)
      else
        cl (f_X6_it x1 2 A) fun r18 =>
        some (r18, A)
abbrev rm_X6_as : Room := { frames := 2, cells := 0, slots := 0, locals := 46 }
set_option maxHeartbeats 4000000 in
set_option maxRecDepth 100000 in
theorem b_X6_as {E : pfE} (X : CX cellsR E cX6_as RX6 rm_X6_as 3) (x1 : Int32) (x2 : Int32) (A : St) {out : Int32 × St} (hQ : Reti cellsR E cX6_as out.1 out.2) (h : f_X6_as x1 x2 A = some out) : GG cellsR E A 0 [(0, .ref (fAd (eF E) 0)), (1, .int x1), (2, .int x2)] [] := by
  unfold f_X6_as at h
  refine G_aload_n X dX6_as_0 rfl 0 rfl ?_
  refine G_iload_n X dX6_as_1 rfl 1 rfl ?_
  obtain ⟨r1, hz2, h⟩ := cl_k h
  refine G_callV_i X (As := [.int x1]) (rest := []) ok_X6_isItem qw746 0 (eR0 _ _ _) rfl rfl ⟨rfl, rfl, Nat.le_of_ble_eq_true rfl, Nat.le_of_ble_eq_true rfl⟩ (m_X6_isItem X.d hz2) rfl rfl (Nat.le_of_ble_eq_true rfl) dX6_as_2 ?_
  refine G_ifeq X (tgt := 15) dX6_as_5 (by decide) (fun c3 => ?_) (fun c3 => ?_)
  · have h := if_t c3 h
    refine G_aload_n X dX6_as_15 rfl 0 rfl ?_
    refine G_iconst X (v := 0) dX6_as_16 rfl ?_
    obtain ⟨r4, A6, hz5, h⟩ := cl2_k h
    refine G_callV_i X (As := [.int 0]) (rest := []) ok_X6_finds qw737 0 (eR0 _ _ _) rfl rfl ⟨rfl, rfl, Nat.le_of_ble_eq_true rfl, Nat.le_of_ble_eq_true rfl⟩ (m_X6_finds X.d hz5) rfl rfl (Nat.le_of_ble_eq_true rfl) dX6_as_17 ?_
    have e := so h
    subst e
    exact hQ _ _ dX6_as_20
  · have h := if_f c3 h
    refine G_iload_n X dX6_as_8 rfl 2 rfl ?_
    obtain ⟨r7, hz8, h⟩ := cl_k h
    refine G_callS_i X (As := [.int x2]) (rest := []) ok_X6_isKind qw723 ⟨rfl, rfl, Nat.le_of_ble_eq_true rfl, Nat.le_of_ble_eq_true rfl⟩ (m_X6_isKind X.d hz8) rfl rfl (Nat.le_of_ble_eq_true rfl) dX6_as_9 ?_
    refine G_ifne X (tgt := 21) dX6_as_12 (by decide) (fun c9 => ?_) (fun c9 => ?_)
    · have h := if_t c9 h
      refine G_aload_n X dX6_as_15 rfl 0 rfl ?_
      refine G_iconst X (v := 0) dX6_as_16 rfl ?_
      obtain ⟨r20, A22, hz21, h⟩ := cl2_k h
      refine G_callV_i X (As := [.int 0]) (rest := []) ok_X6_finds qw737 0 (eR0 _ _ _) rfl rfl ⟨rfl, rfl, Nat.le_of_ble_eq_true rfl, Nat.le_of_ble_eq_true rfl⟩ (m_X6_finds X.d hz21) rfl rfl (Nat.le_of_ble_eq_true rfl) dX6_as_17 ?_
      have e := so h
      subst e
      exact hQ _ _ dX6_as_20
    · have h := if_f c9 h
      refine G_aload_n X dX6_as_21 rfl 0 rfl ?_
      refine G_iload_n X dX6_as_22 rfl 1 rfl ?_
      refine G_iconst X (v := 0) dX6_as_23 rfl ?_
      obtain ⟨r10, hz11, h⟩ := cl_k h
      refine G_callV_i X (As := [.int x1, .int 0]) (rest := []) ok_X6_it qw751 0 (eR0 _ _ _) rfl rfl ⟨rfl, rfl, Nat.le_of_ble_eq_true rfl, Nat.le_of_ble_eq_true rfl⟩ (m_X6_it X.d hz11) rfl rfl (Nat.le_of_ble_eq_true rfl) dX6_as_24 ?_
      refine G_iload_n X dX6_as_27 rfl 2 rfl ?_
      obtain ⟨r12, hz13, h⟩ := cl_k h
      refine G_callS_i X (As := [.int r10, .int x2]) (rest := []) ok_X6_isUnder qw767 ⟨rfl, rfl, Nat.le_of_ble_eq_true rfl, Nat.le_of_ble_eq_true rfl⟩ (m_X6_isUnder X.d hz13) rfl rfl (Nat.le_of_ble_eq_true rfl) dX6_as_28 ?_
      refine G_ifeq X (tgt := 43) dX6_as_31 (by decide) (fun c14 => ?_) (fun c14 => ?_)
      · have h := if_t c14 h
        refine G_aload_n X dX6_as_43 rfl 0 rfl ?_
        refine G_iconst X (v := 2) dX6_as_44 rfl ?_
        obtain ⟨r15, A17, hz16, h⟩ := cl2_k h
        refine G_callV_i X (As := [.int 2]) (rest := []) ok_X6_finds qw737 0 (eR0 _ _ _) rfl rfl ⟨rfl, rfl, Nat.le_of_ble_eq_true rfl, Nat.le_of_ble_eq_true rfl⟩ (m_X6_finds X.d hz16) rfl rfl (Nat.le_of_ble_eq_true rfl) dX6_as_45 ?_
        have e := so h
        subst e
        exact hQ _ _ dX6_as_48
      · have h := if_f c14 h
        refine G_aload_n X dX6_as_34 rfl 0 rfl ?_
        refine G_iload_n X dX6_as_35 rfl 1 rfl ?_
        refine G_iconst X (v := 2) dX6_as_36 rfl ?_
        obtain ⟨r18, hz19, h⟩ := cl_k h
        refine G_callV_i X (As := [.int x1, .int 2]) (rest := []) ok_X6_it qw751 0 (eR0 _ _ _) rfl rfl ⟨rfl, rfl, Nat.le_of_ble_eq_true rfl, Nat.le_of_ble_eq_true rfl⟩ (m_X6_it X.d hz19) rfl rfl (Nat.le_of_ble_eq_true rfl) dX6_as_37 ?_
        refine G_goto X (tgt := 48) dX6_as_40 (by decide) ?_
        have e := so h
        subst e
        exact hQ _ _ dX6_as_48
theorem m_X6_as {l : Launch} {F : pfF} (hD : ∀ A, va_D (fA F) (cellsR (fAd F) (fCy F) A)) {x1 : Int32} {x2 : Int32} {A : St} {out : Int32 × St} (h : f_X6_as x1 x2 A = some out) : Mt l F cellsR yX6_as cX6_as 3 (some .int) rm_X6_as [.ref (fAd F 0), .int x1, .int x2] A (va_Qi (fun (r : Int32) (u : St) => r = out.1 ∧ u = out.2) (Wd cellsR F) (fA F)) := by
  refine Met_i (by decide +kernel) (Nat.le_of_ble_eq_true rfl) hD (fun E el ef X hQ => ?_)
  subst el
  subst ef
  exact b_X6_as X _ _ _ hQ h
theorem ok_X6_as : OkV yX6_as cX6_as 3 (some .int) 2 := ⟨qw764, qw765, qw6, qw766, by decide, by decide, by decide⟩
noncomputable def f_X6_has (x0 : Int32) (x1 : Int32) : Option (Bool) :=
  if ((x0 >>> (x1 &&& 31)) &&& 1) = 1 then
    some true
  else
    some false
abbrev rm_X6_has : Room := { frames := 0, cells := 0, slots := 0, locals := 0 }
set_option maxHeartbeats 4000000 in
set_option maxRecDepth 100000 in
theorem b_X6_has {wl : pfW} {E : pfE} (X : CX wl E cX6_has RX6 rm_X6_has 2) (x0 : Int32) (x1 : Int32) {A : St} {out : Bool} (hQ : Reti wl E cX6_has (bI out) A) (h : f_X6_has x0 x1 = some out) : GG wl E A 0 [(0, .int x0), (1, .int x1)] [] := by
  unfold f_X6_has at h
  refine G_iload_n X dX6_has_0 rfl 0 rfl ?_
  refine G_iload_n X dX6_has_1 rfl 1 rfl ?_
  refine G_ishr X dX6_has_2 ?_
  refine G_iconst X (v := 1) dX6_has_3 rfl ?_
  refine G_iand X dX6_has_4 ?_
  refine G_iconst X (v := 1) dX6_has_5 rfl ?_
  refine G_icne X (tgt := 13) dX6_has_6 (by decide) (fun c1 => ?_) (fun c1 => ?_)
  · have h := if_t c1 h
    refine G_iconst X (v := 1) dX6_has_9 rfl ?_
    refine G_goto X (tgt := 14) dX6_has_10 (by decide) ?_
    have e := so h
    subst e
    exact hQ _ _ dX6_has_14
  · have h := if_f c1 h
    refine G_iconst X (v := 0) dX6_has_13 rfl ?_
    have e := so h
    subst e
    exact hQ _ _ dX6_has_14
theorem m_X6_has {wl : pfW} {l : Launch} {F : pfF} (hD : ∀ A, va_D (fA F) (wl (fAd F) (fCy F) A)) {x0 : Int32} {x1 : Int32} {A : St} {out : Bool} (h : f_X6_has x0 x1 = some out) : Mt l F wl yX6_has cX6_has 2 (some .boolean) rm_X6_has [.int x0, .int x1] A (va_Qi (fun (r : Int32) (u : St) => r = bI out ∧ u = A) (Wd wl F) (fA F)) := by
  refine Met_iz (by decide +kernel) (Nat.le_of_ble_eq_true rfl) hD (nar_bI _) (fun E el ef X hQ => ?_)
  subst el
  subst ef
  exact b_X6_has X _ _ hQ h
theorem ok_X6_has : OkS yX6_has cX6_has 2 (some .boolean) 2 := ⟨qw775, qw6, qw776, by decide, by decide, by decide⟩
noncomputable def f_X6_becomes (x1 : Int32) (x2 : Int32) (x3 : Int32) (A : St) : Option (St) :=
  bv (((1 : Int32) + ((8 : Int32) * x1)) + 7) fun v1 =>
  gI v1 117 <|
  if x3 = 0 then
    gI v1 117 <|
    bv (upI A 1 v1.toNatClampNeg (((A.1 1 v1.toNatClampNeg) &&& (((1 : Int32) <<< (x2 &&& 31)) ^^^ (-1))) ||| 0)) fun A5 =>
    some A5
  else
    gI v1 117 <|
    bv (upI A 1 v1.toNatClampNeg (((A.1 1 v1.toNatClampNeg) &&& (((1 : Int32) <<< (x2 &&& 31)) ^^^ (-1))) ||| ((1 : Int32) <<< (x2 &&& 31)))) fun A7 =>
    some A7
abbrev rm_X6_becomes : Room := { frames := 0, cells := 0, slots := 0, locals := 0 }
set_option maxHeartbeats 4000000 in
set_option maxRecDepth 100000 in
theorem b_X6_becomes {E : pfE} (X : CX cellsR E cX6_becomes RX6 rm_X6_becomes 5) (x1 : Int32) (x2 : Int32) (x3 : Int32) (A : St) {out : St} (hQ : Retv cellsR E cX6_becomes out) (h : f_X6_becomes x1 x2 x3 A = some out) : GG cellsR E A 0 [(0, .ref (fAd (eF E) 0)), (1, .int x1), (2, .int x2), (3, .int x3)] [] := by
  unfold f_X6_becomes at h
  refine G_iconst X (v := 1) dX6_becomes_0 rfl ?_
  refine G_bipush X (v := 8) dX6_becomes_1 rfl ?_
  refine G_iload_n X dX6_becomes_3 rfl 1 rfl ?_
  refine G_imul X dX6_becomes_4 ?_
  refine G_iadd X dX6_becomes_5 ?_
  refine G_bipush X (v := 7) dX6_becomes_6 rfl ?_
  refine G_iadd X dX6_becomes_8 ?_
  refine G_topi (fun v1 ev1 => ?_)
  have h := bv_k ev1 h
  refine G_istore X (lv2 := [(4, .int v1), (0, .ref (fAd (eF E) 0)), (1, .int x1), (2, .int x2), (3, .int x3)]) dX6_becomes_9 (by decide) rfl ?_
  refine G_aload_n X dX6_becomes_11 rfl 1 rfl ?_
  refine G_getf X inX6 0 (eR0 _ _ _) rfl 0 (by decide) qw654 rfl dX6_becomes_12 ?_
  refine G_iload X dX6_becomes_15 0 rfl ?_
  refine G_aload_n X dX6_becomes_17 rfl 1 rfl ?_
  refine G_getf X inX6 0 (eR0 _ _ _) rfl 0 (by decide) qw654 rfl dX6_becomes_18 ?_
  refine G_iload X dX6_becomes_21 0 rfl ?_
  have hi2 := gI_n h
  have h := gI_k h
  refine G_iald X (j := v1.toNatClampNeg) 1 (eR1 _ _ _) hi2 rfl dX6_becomes_23 ?_
  refine G_iconst X (v := 1) dX6_becomes_24 rfl ?_
  refine G_iload_n X dX6_becomes_25 rfl 3 rfl ?_
  refine G_ishl X dX6_becomes_26 ?_
  refine G_iconst X (v := (-1)) dX6_becomes_27 rfl ?_
  refine G_ixor X dX6_becomes_28 ?_
  refine G_iand X dX6_becomes_29 ?_
  refine G_iload_n X dX6_becomes_30 rfl 4 rfl ?_
  refine G_ifeq X (tgt := 40) dX6_becomes_31 (by decide) (fun c3 => ?_) (fun c3 => ?_)
  · have h := if_t c3 h
    refine G_iconst X (v := 0) dX6_becomes_40 rfl ?_
    refine G_ior X dX6_becomes_41 ?_
    have hi4 := gI_n h
    have h := gI_k h
    refine G_iast X (j := v1.toNatClampNeg) 1 (eR1 _ _ _) (sRI _ _ _ _ v1.toNatClampNeg _ _ (fun _ => rfl)) hi4 rfl dX6_becomes_42 ?_
    refine G_topS (fun A5 eA5 => ?_)
    have h := bv_k eA5 h
    have e := so h
    subst e
    exact hQ _ _ dX6_becomes_43
  · have h := if_f c3 h
    refine G_iconst X (v := 1) dX6_becomes_34 rfl ?_
    refine G_iload_n X dX6_becomes_35 rfl 3 rfl ?_
    refine G_ishl X dX6_becomes_36 ?_
    refine G_goto X (tgt := 41) dX6_becomes_37 (by decide) ?_
    refine G_ior X dX6_becomes_41 ?_
    have hi6 := gI_n h
    have h := gI_k h
    refine G_iast X (j := v1.toNatClampNeg) 1 (eR1 _ _ _) (sRI _ _ _ _ v1.toNatClampNeg _ _ (fun _ => rfl)) hi6 rfl dX6_becomes_42 ?_
    refine G_topS (fun A7 eA7 => ?_)
    have h := bv_k eA7 h
    have e := so h
    subst e
    exact hQ _ _ dX6_becomes_43
theorem m_X6_becomes {l : Launch} {F : pfF} (hD : ∀ A, va_D (fA F) (cellsR (fAd F) (fCy F) A)) {x1 : Int32} {x2 : Int32} {x3 : Int32} {A : St} {out : St} (h : f_X6_becomes x1 x2 x3 A = some out) : Mt l F cellsR yX6_becomes cX6_becomes 5 none rm_X6_becomes [.ref (fAd F 0), .int x1, .int x2, .int x3] A (va_Qv (fun (u : St) => u = out) (Wd cellsR F) (fA F)) := by
  refine Met_v (by decide +kernel) (Nat.le_of_ble_eq_true rfl) hD (fun E el ef X hQ => ?_)
  subst el
  subst ef
  exact b_X6_becomes X _ _ _ _ hQ h
theorem ok_X6_becomes : OkV yX6_becomes cX6_becomes 5 none 3 := ⟨qw779, qs11, qw6, qw780, by decide, by decide, by decide⟩
noncomputable def f_X6_enemy (x1 : Int32) (x2 : Int32) (x3 : Int32) (A : St) : Option (Int32 × St) :=
  cl (f_X6_isItem x1 A) fun r1 =>
  if (bI r1) = 0 then
    cl2 (f_X6_finds 0 A) fun r4 A6 =>
    some (r4, A6)
  else
    cl (f_X6_isItem x2 A) fun r7 =>
    if (bI r7) = 0 then
      cl2 (f_X6_finds 0 A) fun r10 A12 =>
      some (r10, A12)
    else
      if x1 = x2 then
        cl2 (f_X6_finds 0 A) fun r31 A33 =>
        some (r31, A33)
      else
        cl (f_X6_it x1 7 A) fun r14 =>
        cl (f_X6_has r14 x2) fun r16 =>
        if (bI r16) = 0 then
          cl (f_X6_becomes x1 x2 x3 A) fun A21 =>
          cl (f_X6_becomes x2 x1 x3 A21) fun A24 =>
          some (0, A24)
        else
          cl (f_X6_becomes x1 x2 x3 A) fun A27 =>
          cl (f_X6_becomes x2 x1 x3 A27) fun A30 =>
          some (1, A30)
abbrev rm_X6_enemy : Room := { frames := 2, cells := 0, slots := 0, locals := 46 }
set_option maxHeartbeats 4000000 in
set_option maxRecDepth 100000 in
theorem b_X6_enemy {E : pfE} (X : CX cellsR E cX6_enemy RX6 rm_X6_enemy 5) (x1 : Int32) (x2 : Int32) (x3 : Int32) (A : St) {out : Int32 × St} (hQ : Reti cellsR E cX6_enemy out.1 out.2) (h : f_X6_enemy x1 x2 x3 A = some out) : GG cellsR E A 0 [(0, .ref (fAd (eF E) 0)), (1, .int x1), (2, .int x2), (3, .int x3)] [] := by
  unfold f_X6_enemy at h
  refine G_aload_n X dX6_enemy_0 rfl 0 rfl ?_
  refine G_iload_n X dX6_enemy_1 rfl 1 rfl ?_
  obtain ⟨r1, hz2, h⟩ := cl_k h
  refine G_callV_i X (As := [.int x1]) (rest := []) ok_X6_isItem qw746 0 (eR0 _ _ _) rfl rfl ⟨rfl, rfl, Nat.le_of_ble_eq_true rfl, Nat.le_of_ble_eq_true rfl⟩ (m_X6_isItem X.d hz2) rfl rfl (Nat.le_of_ble_eq_true rfl) dX6_enemy_2 ?_
  refine G_ifeq X (tgt := 21) dX6_enemy_5 (by decide) (fun c3 => ?_) (fun c3 => ?_)
  · have h := if_t c3 h
    refine G_aload_n X dX6_enemy_21 rfl 0 rfl ?_
    refine G_iconst X (v := 0) dX6_enemy_22 rfl ?_
    obtain ⟨r4, A6, hz5, h⟩ := cl2_k h
    refine G_callV_i X (As := [.int 0]) (rest := []) ok_X6_finds qw737 0 (eR0 _ _ _) rfl rfl ⟨rfl, rfl, Nat.le_of_ble_eq_true rfl, Nat.le_of_ble_eq_true rfl⟩ (m_X6_finds X.d hz5) rfl rfl (Nat.le_of_ble_eq_true rfl) dX6_enemy_23 ?_
    have e := so h
    subst e
    exact hQ _ _ dX6_enemy_26
  · have h := if_f c3 h
    refine G_aload_n X dX6_enemy_8 rfl 0 rfl ?_
    refine G_iload_n X dX6_enemy_9 rfl 2 rfl ?_
    obtain ⟨r7, hz8, h⟩ := cl_k h
    refine G_callV_i X (As := [.int x2]) (rest := []) ok_X6_isItem qw746 0 (eR0 _ _ _) rfl rfl ⟨rfl, rfl, Nat.le_of_ble_eq_true rfl, Nat.le_of_ble_eq_true rfl⟩ (m_X6_isItem X.d hz8) rfl rfl (Nat.le_of_ble_eq_true rfl) dX6_enemy_10 ?_
    refine G_ifeq X (tgt := 21) dX6_enemy_13 (by decide) (fun c9 => ?_) (fun c9 => ?_)
    · have h := if_t c9 h
      refine G_aload_n X dX6_enemy_21 rfl 0 rfl ?_
      refine G_iconst X (v := 0) dX6_enemy_22 rfl ?_
      obtain ⟨r10, A12, hz11, h⟩ := cl2_k h
      refine G_callV_i X (As := [.int 0]) (rest := []) ok_X6_finds qw737 0 (eR0 _ _ _) rfl rfl ⟨rfl, rfl, Nat.le_of_ble_eq_true rfl, Nat.le_of_ble_eq_true rfl⟩ (m_X6_finds X.d hz11) rfl rfl (Nat.le_of_ble_eq_true rfl) dX6_enemy_23 ?_
      have e := so h
      subst e
      exact hQ _ _ dX6_enemy_26
    · have h := if_f c9 h
      refine G_iload_n X dX6_enemy_16 rfl 1 rfl ?_
      refine G_iload_n X dX6_enemy_17 rfl 2 rfl ?_
      refine G_icne X (tgt := 27) dX6_enemy_18 (by decide) (fun c13 => ?_) (fun c13 => ?_)
      · have h := if_t c13 h
        refine G_aload_n X dX6_enemy_21 rfl 0 rfl ?_
        refine G_iconst X (v := 0) dX6_enemy_22 rfl ?_
        obtain ⟨r31, A33, hz32, h⟩ := cl2_k h
        refine G_callV_i X (As := [.int 0]) (rest := []) ok_X6_finds qw737 0 (eR0 _ _ _) rfl rfl ⟨rfl, rfl, Nat.le_of_ble_eq_true rfl, Nat.le_of_ble_eq_true rfl⟩ (m_X6_finds X.d hz32) rfl rfl (Nat.le_of_ble_eq_true rfl) dX6_enemy_23 ?_
        have e := so h
        subst e
        exact hQ _ _ dX6_enemy_26
      · have h := if_f c13 h
        refine G_aload_n X dX6_enemy_27 rfl 0 rfl ?_
        refine G_iload_n X dX6_enemy_28 rfl 1 rfl ?_
        refine G_bipush X (v := 7) dX6_enemy_29 rfl ?_
        obtain ⟨r14, hz15, h⟩ := cl_k h
        refine G_callV_i X (As := [.int x1, .int 7]) (rest := []) ok_X6_it qw751 0 (eR0 _ _ _) rfl rfl ⟨rfl, rfl, Nat.le_of_ble_eq_true rfl, Nat.le_of_ble_eq_true rfl⟩ (m_X6_it X.d hz15) rfl rfl (Nat.le_of_ble_eq_true rfl) dX6_enemy_31 ?_
        refine G_iload_n X dX6_enemy_34 rfl 2 rfl ?_
        obtain ⟨r16, hz17, h⟩ := cl_k h
        refine G_callS_i X (As := [.int r14, .int x2]) (rest := []) ok_X6_has qw774 ⟨rfl, rfl, Nat.le_of_ble_eq_true rfl, Nat.le_of_ble_eq_true rfl⟩ (m_X6_has X.d hz17) rfl rfl (Nat.le_of_ble_eq_true rfl) dX6_enemy_35 ?_
        refine G_ifeq X (tgt := 45) dX6_enemy_38 (by decide) (fun c18 => ?_) (fun c18 => ?_)
        · have h := if_t c18 h
          refine G_iconst X (v := 0) dX6_enemy_45 rfl ?_
          refine G_istore X (lv2 := [(4, .int 0), (0, .ref (fAd (eF E) 0)), (1, .int x1), (2, .int x2), (3, .int x3)]) dX6_enemy_46 (by decide) rfl ?_
          refine G_aload_n X dX6_enemy_48 rfl 1 rfl ?_
          refine G_iload_n X dX6_enemy_49 rfl 2 rfl ?_
          refine G_iload_n X dX6_enemy_50 rfl 3 rfl ?_
          refine G_iload_n X dX6_enemy_51 rfl 4 rfl ?_
          obtain ⟨A21, hz20, h⟩ := cl_k h
          refine G_callV_v X (As := [.int x1, .int x2, .int x3]) (rest := []) ok_X6_becomes qw777 0 (eR0 _ _ _) rfl rfl ⟨rfl, rfl, Nat.le_of_ble_eq_true rfl, Nat.le_of_ble_eq_true rfl⟩ (m_X6_becomes X.d hz20) rfl rfl (Nat.le_of_ble_eq_true rfl) dX6_enemy_52 ?_
          refine G_aload_n X dX6_enemy_55 rfl 1 rfl ?_
          refine G_iload_n X dX6_enemy_56 rfl 3 rfl ?_
          refine G_iload_n X dX6_enemy_57 rfl 2 rfl ?_
          refine G_iload_n X dX6_enemy_58 rfl 4 rfl ?_
          obtain ⟨A24, hz23, h⟩ := cl_k h
          refine G_callV_v X (As := [.int x2, .int x1, .int x3]) (rest := []) ok_X6_becomes qw777 0 (eR0 _ _ _) rfl rfl ⟨rfl, rfl, Nat.le_of_ble_eq_true rfl, Nat.le_of_ble_eq_true rfl⟩ (m_X6_becomes X.d hz23) rfl rfl (Nat.le_of_ble_eq_true rfl) dX6_enemy_59 ?_
          refine G_iload X dX6_enemy_62 0 rfl ?_
          have e := so h
          subst e
          exact hQ _ _ dX6_enemy_64
        · have h := if_f c18 h
          refine G_iconst X (v := 1) dX6_enemy_41 rfl ?_
          refine G_goto X (tgt := 46) dX6_enemy_42 (by decide) ?_
          refine G_istore X (lv2 := [(4, .int 1), (0, .ref (fAd (eF E) 0)), (1, .int x1), (2, .int x2), (3, .int x3)]) dX6_enemy_46 (by decide) rfl ?_
          refine G_aload_n X dX6_enemy_48 rfl 1 rfl ?_
          refine G_iload_n X dX6_enemy_49 rfl 2 rfl ?_
          refine G_iload_n X dX6_enemy_50 rfl 3 rfl ?_
          refine G_iload_n X dX6_enemy_51 rfl 4 rfl ?_
          obtain ⟨A27, hz26, h⟩ := cl_k h
          refine G_callV_v X (As := [.int x1, .int x2, .int x3]) (rest := []) ok_X6_becomes qw777 0 (eR0 _ _ _) rfl rfl ⟨rfl, rfl, Nat.le_of_ble_eq_true rfl, Nat.le_of_ble_eq_true rfl⟩ (m_X6_becomes X.d hz26) rfl rfl (Nat.le_of_ble_eq_true rfl) dX6_enemy_52 ?_
          refine G_aload_n X dX6_enemy_55 rfl 1 rfl ?_
          refine G_iload_n X dX6_enemy_56 rfl 3 rfl ?_
          refine G_iload_n X dX6_enemy_57 rfl 2 rfl ?_
          refine G_iload_n X dX6_enemy_58 rfl 4 rfl ?_
          obtain ⟨A30, hz29, h⟩ := cl_k h
          refine G_callV_v X (As := [.int x2, .int x1, .int x3]) (rest := []) ok_X6_becomes qw777 0 (eR0 _ _ _) rfl rfl ⟨rfl, rfl, Nat.le_of_ble_eq_true rfl, Nat.le_of_ble_eq_true rfl⟩ (m_X6_becomes X.d hz29) rfl rfl (Nat.le_of_ble_eq_true rfl) dX6_enemy_59 ?_
          refine G_iload X dX6_enemy_62 0 rfl ?_
          have e := so h
          subst e
          exact hQ _ _ dX6_enemy_64
theorem m_X6_enemy {l : Launch} {F : pfF} (hD : ∀ A, va_D (fA F) (cellsR (fAd F) (fCy F) A)) {x1 : Int32} {x2 : Int32} {x3 : Int32} {A : St} {out : Int32 × St} (h : f_X6_enemy x1 x2 x3 A = some out) : Mt l F cellsR yX6_enemy cX6_enemy 5 (some .int) rm_X6_enemy [.ref (fAd F 0), .int x1, .int x2, .int x3] A (va_Qi (fun (r : Int32) (u : St) => r = out.1 ∧ u = out.2) (Wd cellsR F) (fA F)) := by
  refine Met_i (by decide +kernel) (Nat.le_of_ble_eq_true rfl) hD (fun E el ef X hQ => ?_)
  subst el
  subst ef
  exact b_X6_enemy X _ _ _ _ hQ h
theorem ok_X6_enemy : OkV yX6_enemy cX6_enemy 5 (some .int) 3 := ⟨qw771, qw772, qw6, qw773, by decide, by decide, by decide⟩
noncomputable def f_X6_slopeOf (x1 : Int32) (A : St) : Option (UInt32) :=
  cl (f_X6_it x1 3 A) fun r1 =>
  g32 (FP.fdiv (FP.i2f r1) 1082130432) fun v3 =>
  some v3
abbrev rm_X6_slopeOf : Room := { frames := 1, cells := 0, slots := 0, locals := 22 }
set_option maxHeartbeats 4000000 in
set_option maxRecDepth 100000 in
theorem b_X6_slopeOf {E : pfE} (X : CX cellsR E cX6_slopeOf RX6 rm_X6_slopeOf 2) (x1 : Int32) (A : St) {out : UInt32} (hQ : Retf cellsR E cX6_slopeOf out A) (h : f_X6_slopeOf x1 A = some out) : GG cellsR E A 0 [(0, .ref (fAd (eF E) 0)), (1, .int x1)] [] := by
  unfold f_X6_slopeOf at h
  refine G_aload_n X dX6_slopeOf_0 rfl 0 rfl ?_
  refine G_iload_n X dX6_slopeOf_1 rfl 1 rfl ?_
  refine G_iconst X (v := 3) dX6_slopeOf_2 rfl ?_
  obtain ⟨r1, hz2, h⟩ := cl_k h
  refine G_callV_i X (As := [.int x1, .int 3]) (rest := []) ok_X6_it qw751 0 (eR0 _ _ _) rfl rfl ⟨rfl, rfl, Nat.le_of_ble_eq_true rfl, Nat.le_of_ble_eq_true rfl⟩ (m_X6_it X.d hz2) rfl rfl (Nat.le_of_ble_eq_true rfl) dX6_slopeOf_3 ?_
  refine G_i2f X dX6_slopeOf_6 ?_
  refine G_ldcf X (v := 1082130432) qw789 dX6_slopeOf_7 ?_
  have hv3 := g32_n h
  refine G_fdiv X dX6_slopeOf_9 hv3 ?_
  refine G_topf (fun v3 ev3 => ?_)
  have h := g32_k ev3 h
  have e := so h
  subst e
  exact hQ _ _ dX6_slopeOf_10
theorem m_X6_slopeOf {l : Launch} {F : pfF} (hD : ∀ A, va_D (fA F) (cellsR (fAd F) (fCy F) A)) {x1 : Int32} {A : St} {out : UInt32} (h : f_X6_slopeOf x1 A = some out) : Mt l F cellsR yX6_slopeOf cX6_slopeOf 2 (some .float) rm_X6_slopeOf [.ref (fAd F 0), .int x1] A (va_Qf (fun (r : UInt32) (u : St) => r = out ∧ u = A) (Wd cellsR F) (fA F)) := by
  refine Met_f (by decide +kernel) (Nat.le_of_ble_eq_true rfl) hD (fun E el ef X hQ => ?_)
  subst el
  subst ef
  exact b_X6_slopeOf X _ _ hQ h
theorem ok_X6_slopeOf : OkV yX6_slopeOf cX6_slopeOf 2 (some .float) 1 := ⟨qw787, qs12, qw6, qw788, by decide, by decide, by decide⟩
noncomputable def f_Jxf58ca_isNaN_12338 (x0 : UInt32) : Option (Bool) :=
  if (Op.cmpValue (FP.fcmp x0 x0) .l) = 0 then
    some false
  else
    some true
abbrev rm_Jxf58ca_isNaN_12338 : Room := { frames := 0, cells := 0, slots := 0, locals := 0 }
set_option maxHeartbeats 4000000 in
set_option maxRecDepth 100000 in
theorem b_Jxf58ca_isNaN_12338 {wl : pfW} {E : pfE} (X : CX wl E cJxf58ca_isNaN_12338 RJxf58ca rm_Jxf58ca_isNaN_12338 1) (x0 : UInt32) {A : St} {out : Bool} (hQ : Reti wl E cJxf58ca_isNaN_12338 (bI out) A) (h : f_Jxf58ca_isNaN_12338 x0 = some out) : GG wl E A 0 [(0, .float x0)] [] := by
  unfold f_Jxf58ca_isNaN_12338 at h
  refine G_fload_n X dJxf58ca_isNaN_12338_0 rfl 0 rfl ?_
  refine G_fload_n X dJxf58ca_isNaN_12338_1 rfl 0 rfl ?_
  refine G_fcmp X dJxf58ca_isNaN_12338_2 ?_
  refine G_ifeq X (tgt := 10) dJxf58ca_isNaN_12338_3 (by decide) (fun c1 => ?_) (fun c1 => ?_)
  · have h := if_t c1 h
    refine G_iconst X (v := 0) dJxf58ca_isNaN_12338_10 rfl ?_
    have e := so h
    subst e
    exact hQ _ _ dJxf58ca_isNaN_12338_11
  · have h := if_f c1 h
    refine G_iconst X (v := 1) dJxf58ca_isNaN_12338_6 rfl ?_
    refine G_goto X (tgt := 11) dJxf58ca_isNaN_12338_7 (by decide) ?_
    have e := so h
    subst e
    exact hQ _ _ dJxf58ca_isNaN_12338_11
theorem m_Jxf58ca_isNaN_12338 {wl : pfW} {l : Launch} {F : pfF} (hD : ∀ A, va_D (fA F) (wl (fAd F) (fCy F) A)) {x0 : UInt32} {A : St} {out : Bool} (h : f_Jxf58ca_isNaN_12338 x0 = some out) : Mt l F wl yJxf58ca_isNaN_12338 cJxf58ca_isNaN_12338 1 (some .boolean) rm_Jxf58ca_isNaN_12338 [.float x0] A (va_Qi (fun (r : Int32) (u : St) => r = bI out ∧ u = A) (Wd wl F) (fA F)) := by
  refine Met_iz (by decide +kernel) (Nat.le_of_ble_eq_true rfl) hD (nar_bI _) (fun E el ef X hQ => ?_)
  subst el
  subst ef
  exact b_Jxf58ca_isNaN_12338 X _ hQ h
theorem ok_Jxf58ca_isNaN_12338 : OkS yJxf58ca_isNaN_12338 cJxf58ca_isNaN_12338 1 (some .boolean) 1 := ⟨qw794, qw8, qw795, by decide, by decide, by decide⟩
noncomputable def f_Jxf58ca_floatToIntBits_5c35a (x0 : UInt32) : Option (Int32) :=
  cl (f_Jxf58ca_isNaN_12338 x0) fun r1 =>
  if (bI r1) = 0 then
    some x0.toInt32
  else
    some 2143289344
abbrev rm_Jxf58ca_floatToIntBits_5c35a : Room := { frames := 1, cells := 0, slots := 0, locals := 40 }
set_option maxHeartbeats 4000000 in
set_option maxRecDepth 100000 in
theorem b_Jxf58ca_floatToIntBits_5c35a {wl : pfW} {E : pfE} (X : CX wl E cJxf58ca_floatToIntBits_5c35a RJxf58ca rm_Jxf58ca_floatToIntBits_5c35a 1) (x0 : UInt32) {A : St} {out : Int32} (hQ : Reti wl E cJxf58ca_floatToIntBits_5c35a out A) (h : f_Jxf58ca_floatToIntBits_5c35a x0 = some out) : GG wl E A 0 [(0, .float x0)] [] := by
  unfold f_Jxf58ca_floatToIntBits_5c35a at h
  refine G_fload_n X dJxf58ca_floatToIntBits_5c35a_0 rfl 0 rfl ?_
  obtain ⟨r1, hz2, h⟩ := cl_k h
  refine G_callS_i X (As := [.float x0]) (rest := []) ok_Jxf58ca_isNaN_12338 qw793 ⟨rfl, rfl, Nat.le_of_ble_eq_true rfl, Nat.le_of_ble_eq_true rfl⟩ (m_Jxf58ca_isNaN_12338 X.d hz2) rfl rfl (Nat.le_of_ble_eq_true rfl) dJxf58ca_floatToIntBits_5c35a_1 ?_
  refine G_ifne X (tgt := 12) dJxf58ca_floatToIntBits_5c35a_4 (by decide) (fun c3 => ?_) (fun c3 => ?_)
  · have h := if_t c3 h
    refine G_fload_n X dJxf58ca_floatToIntBits_5c35a_7 rfl 0 rfl ?_
    refine G_nf2i X qw796 qw798 qw797 qw8 (Nat.le_of_ble_eq_true rfl) (Nat.le_of_ble_eq_true rfl) dJxf58ca_floatToIntBits_5c35a_8 ?_
    have e := so h
    subst e
    exact hQ _ _ dJxf58ca_floatToIntBits_5c35a_11
  · have h := if_f c3 h
    refine G_ldc X (v := 2143289344) qw799 dJxf58ca_floatToIntBits_5c35a_12 ?_
    have e := so h
    subst e
    exact hQ _ _ dJxf58ca_floatToIntBits_5c35a_14
theorem m_Jxf58ca_floatToIntBits_5c35a {wl : pfW} {l : Launch} {F : pfF} (hD : ∀ A, va_D (fA F) (wl (fAd F) (fCy F) A)) {x0 : UInt32} {A : St} {out : Int32} (h : f_Jxf58ca_floatToIntBits_5c35a x0 = some out) : Mt l F wl yJxf58ca_floatToIntBits_5c35a cJxf58ca_floatToIntBits_5c35a 1 (some .int) rm_Jxf58ca_floatToIntBits_5c35a [.float x0] A (va_Qi (fun (r : Int32) (u : St) => r = out ∧ u = A) (Wd wl F) (fA F)) := by
  refine Met_i (by decide +kernel) (Nat.le_of_ble_eq_true rfl) hD (fun E el ef X hQ => ?_)
  subst el
  subst ef
  exact b_Jxf58ca_floatToIntBits_5c35a X _ hQ h
theorem ok_Jxf58ca_floatToIntBits_5c35a : OkS yJxf58ca_floatToIntBits_5c35a cJxf58ca_floatToIntBits_5c35a 1 (some .int) 1 := ⟨qw791, qw8, qw792, by decide, by decide, by decide⟩
noncomputable def f_X6_slope (x1 : Int32) (A : St) : Option (Int32 × St) :=
  cl (f_X6_isItem x1 A) fun r1 =>
  if (bI r1) = 0 then
    cl2 (f_X6_finds 0 A) fun r4 A6 =>
    some (r4, A6)
  else
    cl (f_X6_slopeOf x1 A) fun r7 =>
    cl (f_Jxf58ca_floatToIntBits_5c35a r7) fun r9 =>
    some (r9, A)
abbrev rm_X6_slope : Room := { frames := 2, cells := 0, slots := 0, locals := 60 }
set_option maxHeartbeats 4000000 in
set_option maxRecDepth 100000 in
theorem b_X6_slope {E : pfE} (X : CX cellsR E cX6_slope RX6 rm_X6_slope 2) (x1 : Int32) (A : St) {out : Int32 × St} (hQ : Reti cellsR E cX6_slope out.1 out.2) (h : f_X6_slope x1 A = some out) : GG cellsR E A 0 [(0, .ref (fAd (eF E) 0)), (1, .int x1)] [] := by
  unfold f_X6_slope at h
  refine G_aload_n X dX6_slope_0 rfl 0 rfl ?_
  refine G_iload_n X dX6_slope_1 rfl 1 rfl ?_
  obtain ⟨r1, hz2, h⟩ := cl_k h
  refine G_callV_i X (As := [.int x1]) (rest := []) ok_X6_isItem qw746 0 (eR0 _ _ _) rfl rfl ⟨rfl, rfl, Nat.le_of_ble_eq_true rfl, Nat.le_of_ble_eq_true rfl⟩ (m_X6_isItem X.d hz2) rfl rfl (Nat.le_of_ble_eq_true rfl) dX6_slope_2 ?_
  refine G_ifeq X (tgt := 19) dX6_slope_5 (by decide) (fun c3 => ?_) (fun c3 => ?_)
  · have h := if_t c3 h
    refine G_aload_n X dX6_slope_19 rfl 0 rfl ?_
    refine G_iconst X (v := 0) dX6_slope_20 rfl ?_
    obtain ⟨r4, A6, hz5, h⟩ := cl2_k h
    refine G_callV_i X (As := [.int 0]) (rest := []) ok_X6_finds qw737 0 (eR0 _ _ _) rfl rfl ⟨rfl, rfl, Nat.le_of_ble_eq_true rfl, Nat.le_of_ble_eq_true rfl⟩ (m_X6_finds X.d hz5) rfl rfl (Nat.le_of_ble_eq_true rfl) dX6_slope_21 ?_
    have e := so h
    subst e
    exact hQ _ _ dX6_slope_24
  · have h := if_f c3 h
    refine G_aload_n X dX6_slope_8 rfl 0 rfl ?_
    refine G_iload_n X dX6_slope_9 rfl 1 rfl ?_
    obtain ⟨r7, hz8, h⟩ := cl_k h
    refine G_callV_f X (As := [.int x1]) (rest := []) ok_X6_slopeOf qw785 0 (eR0 _ _ _) rfl rfl ⟨rfl, rfl, Nat.le_of_ble_eq_true rfl, Nat.le_of_ble_eq_true rfl⟩ (m_X6_slopeOf X.d hz8) rfl rfl (Nat.le_of_ble_eq_true rfl) dX6_slope_10 ?_
    obtain ⟨r9, hz10, h⟩ := cl_k h
    refine G_callS_i X (As := [.float r7]) (rest := []) ok_Jxf58ca_floatToIntBits_5c35a qw790 ⟨rfl, rfl, Nat.le_of_ble_eq_true rfl, Nat.le_of_ble_eq_true rfl⟩ (m_Jxf58ca_floatToIntBits_5c35a X.d hz10) rfl rfl (Nat.le_of_ble_eq_true rfl) dX6_slope_13 ?_
    refine G_goto X (tgt := 24) dX6_slope_16 (by decide) ?_
    have e := so h
    subst e
    exact hQ _ _ dX6_slope_24
theorem m_X6_slope {l : Launch} {F : pfF} (hD : ∀ A, va_D (fA F) (cellsR (fAd F) (fCy F) A)) {x1 : Int32} {A : St} {out : Int32 × St} (h : f_X6_slope x1 A = some out) : Mt l F cellsR yX6_slope cX6_slope 2 (some .int) rm_X6_slope [.ref (fAd F 0), .int x1] A (va_Qi (fun (r : Int32) (u : St) => r = out.1 ∧ u = out.2) (Wd cellsR F) (fA F)) := by
  refine Met_i (by decide +kernel) (Nat.le_of_ble_eq_true rfl) hD (fun E el ef X hQ => ?_)
  subst el
  subst ef
  exact b_X6_slope X _ _ hQ h
theorem ok_X6_slope : OkV yX6_slope cX6_slope 2 (some .int) 1 := ⟨qw782, qw783, qw6, qw784, by decide, by decide, by decide⟩
noncomputable def f_X6_findsLong (x1 : Int32) (A : St) : Option (Int64 × St) :=
  gI x1 8 <|
  gI x1 8 <|
  bv (upI A 3 x1.toNatClampNeg ((A.1 3 x1.toNatClampNeg) + 1)) fun A3 =>
  some ((-9000000000000000001) - x1.toInt64, A3)
abbrev rm_X6_findsLong : Room := { frames := 0, cells := 0, slots := 0, locals := 0 }
set_option maxHeartbeats 4000000 in
set_option maxRecDepth 100000 in
theorem b_X6_findsLong {E : pfE} (X : CX cellsR E cX6_findsLong RX6 rm_X6_findsLong 2) (x1 : Int32) (A : St) {out : Int64 × St} (hQ : Retl cellsR E cX6_findsLong out.1 out.2) (h : f_X6_findsLong x1 A = some out) : GG cellsR E A 0 [(0, .ref (fAd (eF E) 0)), (1, .int x1)] [] := by
  unfold f_X6_findsLong at h
  refine G_aload_n X dX6_findsLong_0 rfl 0 rfl ?_
  refine G_getf X inX6 0 (eR0 _ _ _) rfl 3 (by decide) qw657 rfl dX6_findsLong_1 ?_
  refine G_iload_n X dX6_findsLong_4 rfl 1 rfl ?_
  refine G_dup2 X dX6_findsLong_5 rfl rfl ?_
  have hi1 := gI_n h
  have h := gI_k h
  refine G_iald X (j := x1.toNatClampNeg) 3 (eR3 _ _ _) hi1 rfl dX6_findsLong_6 ?_
  refine G_iconst X (v := 1) dX6_findsLong_7 rfl ?_
  refine G_iadd X dX6_findsLong_8 ?_
  have hi2 := gI_n h
  have h := gI_k h
  refine G_iast X (j := x1.toNatClampNeg) 3 (eR3 _ _ _) (sRI _ _ _ _ x1.toNatClampNeg _ _ (fun _ => rfl)) hi2 rfl dX6_findsLong_9 ?_
  refine G_topS (fun A3 eA3 => ?_)
  have h := bv_k eA3 h
  refine G_ldc2 X (v := (-9000000000000000001)) qw859 dX6_findsLong_10 ?_
  refine G_iload_n X dX6_findsLong_13 rfl 1 rfl ?_
  refine G_i2l X dX6_findsLong_14 rfl ?_
  refine G_lsub X dX6_findsLong_15 ?_
  have e := so h
  subst e
  exact hQ _ _ dX6_findsLong_16
theorem m_X6_findsLong {l : Launch} {F : pfF} (hD : ∀ A, va_D (fA F) (cellsR (fAd F) (fCy F) A)) {x1 : Int32} {A : St} {out : Int64 × St} (h : f_X6_findsLong x1 A = some out) : Mt l F cellsR yX6_findsLong cX6_findsLong 2 (some .long) rm_X6_findsLong [.ref (fAd F 0), .int x1] A (va_Ql (fun (r : Int64) (u : St) => r = out.1 ∧ u = out.2) (Wd cellsR F) (fA F)) := by
  refine Met_l (by decide +kernel) (Nat.le_of_ble_eq_true rfl) hD (fun E el ef X hQ => ?_)
  subst el
  subst ef
  exact b_X6_findsLong X _ _ hQ h
theorem ok_X6_findsLong : OkV yX6_findsLong cX6_findsLong 2 (some .long) 1 := ⟨qw857, qs16, qw6, qw858, by decide, by decide, by decide⟩
noncomputable def f_X6_isAbility (x0 : Int32) : Option (Bool) :=
  cl (f_X6_in x0.toInt64 (-64) 64) fun r1 =>
  some r1
abbrev rm_X6_isAbility : Room := { frames := 1, cells := 0, slots := 0, locals := 25 }
set_option maxHeartbeats 4000000 in
set_option maxRecDepth 100000 in
theorem b_X6_isAbility {wl : pfW} {E : pfE} (X : CX wl E cX6_isAbility RX6 rm_X6_isAbility 1) (x0 : Int32) {A : St} {out : Bool} (hQ : Reti wl E cX6_isAbility (bI out) A) (h : f_X6_isAbility x0 = some out) : GG wl E A 0 [(0, .int x0)] [] := by
  unfold f_X6_isAbility at h
  refine G_iload_n X dX6_isAbility_0 rfl 0 rfl ?_
  refine G_i2l X dX6_isAbility_1 rfl ?_
  refine G_ldc2 X (v := (-64)) qw807 dX6_isAbility_2 ?_
  refine G_ldc2 X (v := 64) qw808 dX6_isAbility_5 ?_
  obtain ⟨r1, hz2, h⟩ := cl_k h
  refine G_callS_i X (As := [.long x0.toInt64, .long (-64), .long 64]) (rest := []) ok_X6_in qw727 ⟨rfl, rfl, Nat.le_of_ble_eq_true rfl, Nat.le_of_ble_eq_true rfl⟩ (m_X6_in X.d hz2) rfl rfl (Nat.le_of_ble_eq_true rfl) dX6_isAbility_8 ?_
  have e := so h
  subst e
  exact hQ _ _ dX6_isAbility_11
theorem m_X6_isAbility {wl : pfW} {l : Launch} {F : pfF} (hD : ∀ A, va_D (fA F) (wl (fAd F) (fCy F) A)) {x0 : Int32} {A : St} {out : Bool} (h : f_X6_isAbility x0 = some out) : Mt l F wl yX6_isAbility cX6_isAbility 1 (some .boolean) rm_X6_isAbility [.int x0] A (va_Qi (fun (r : Int32) (u : St) => r = bI out ∧ u = A) (Wd wl F) (fA F)) := by
  refine Met_iz (by decide +kernel) (Nat.le_of_ble_eq_true rfl) hD (nar_bI _) (fun E el ef X hQ => ?_)
  subst el
  subst ef
  exact b_X6_isAbility X _ hQ h
theorem ok_X6_isAbility : OkS yX6_isAbility cX6_isAbility 1 (some .boolean) 1 := ⟨qw805, qw6, qw806, by decide, by decide, by decide⟩
noncomputable def f_X6_offOf (x1 : Int32) (x2 : Int32) (A : St) : Option (UInt32) :=
  cl (f_X6_slopeOf x1 A) fun r1 =>
  g32 (FP.fdiv (FP.i2f x2) 1090519040) fun v3 =>
  cl (f_X6_it x1 4 A) fun r4 =>
  g32 (FP.fdiv (FP.i2f r4) 1090519040) fun v6 =>
  g32 (FP.fsub v3 v6) fun v7 =>
  g32 (FP.fmul r1 v7) fun v8 =>
  some v8
abbrev rm_X6_offOf : Room := { frames := 2, cells := 0, slots := 0, locals := 43 }
set_option maxHeartbeats 4000000 in
set_option maxRecDepth 100000 in
theorem b_X6_offOf {E : pfE} (X : CX cellsR E cX6_offOf RX6 rm_X6_offOf 3) (x1 : Int32) (x2 : Int32) (A : St) {out : UInt32} (hQ : Retf cellsR E cX6_offOf out A) (h : f_X6_offOf x1 x2 A = some out) : GG cellsR E A 0 [(0, .ref (fAd (eF E) 0)), (1, .int x1), (2, .int x2)] [] := by
  unfold f_X6_offOf at h
  refine G_aload_n X dX6_offOf_0 rfl 0 rfl ?_
  refine G_iload_n X dX6_offOf_1 rfl 1 rfl ?_
  obtain ⟨r1, hz2, h⟩ := cl_k h
  refine G_callV_f X (As := [.int x1]) (rest := []) ok_X6_slopeOf qw785 0 (eR0 _ _ _) rfl rfl ⟨rfl, rfl, Nat.le_of_ble_eq_true rfl, Nat.le_of_ble_eq_true rfl⟩ (m_X6_slopeOf X.d hz2) rfl rfl (Nat.le_of_ble_eq_true rfl) dX6_offOf_2 ?_
  refine G_iload_n X dX6_offOf_5 rfl 2 rfl ?_
  refine G_i2f X dX6_offOf_6 ?_
  refine G_ldcf X (v := 1090519040) qw821 dX6_offOf_7 ?_
  have hv3 := g32_n h
  refine G_fdiv X dX6_offOf_9 hv3 ?_
  refine G_topf (fun v3 ev3 => ?_)
  have h := g32_k ev3 h
  refine G_aload_n X dX6_offOf_10 rfl 0 rfl ?_
  refine G_iload_n X dX6_offOf_11 rfl 1 rfl ?_
  refine G_iconst X (v := 4) dX6_offOf_12 rfl ?_
  obtain ⟨r4, hz5, h⟩ := cl_k h
  refine G_callV_i X (As := [.int x1, .int 4]) (rest := [.float v3, .float r1]) ok_X6_it qw751 0 (eR0 _ _ _) rfl rfl ⟨rfl, rfl, Nat.le_of_ble_eq_true rfl, Nat.le_of_ble_eq_true rfl⟩ (m_X6_it X.d hz5) rfl rfl (Nat.le_of_ble_eq_true rfl) dX6_offOf_13 ?_
  refine G_i2f X dX6_offOf_16 ?_
  refine G_ldcf X (v := 1090519040) qw821 dX6_offOf_17 ?_
  have hv6 := g32_n h
  refine G_fdiv X dX6_offOf_19 hv6 ?_
  refine G_topf (fun v6 ev6 => ?_)
  have h := g32_k ev6 h
  have hv7 := g32_n h
  refine G_fsub X dX6_offOf_20 hv7 ?_
  refine G_topf (fun v7 ev7 => ?_)
  have h := g32_k ev7 h
  have hv8 := g32_n h
  refine G_fmul X dX6_offOf_21 hv8 ?_
  refine G_topf (fun v8 ev8 => ?_)
  have h := g32_k ev8 h
  have e := so h
  subst e
  exact hQ _ _ dX6_offOf_22
theorem m_X6_offOf {l : Launch} {F : pfF} (hD : ∀ A, va_D (fA F) (cellsR (fAd F) (fCy F) A)) {x1 : Int32} {x2 : Int32} {A : St} {out : UInt32} (h : f_X6_offOf x1 x2 A = some out) : Mt l F cellsR yX6_offOf cX6_offOf 3 (some .float) rm_X6_offOf [.ref (fAd F 0), .int x1, .int x2] A (va_Qf (fun (r : UInt32) (u : St) => r = out ∧ u = A) (Wd cellsR F) (fA F)) := by
  refine Met_f (by decide +kernel) (Nat.le_of_ble_eq_true rfl) hD (fun E el ef X hQ => ?_)
  subst el
  subst ef
  exact b_X6_offOf X _ _ _ hQ h
theorem ok_X6_offOf : OkV yX6_offOf cX6_offOf 3 (some .float) 2 := ⟨qw819, qs15, qw6, qw820, by decide, by decide, by decide⟩
noncomputable def f_X6_chanceOf (x1 : Int32) (x2 : Int32) (A : St) : Option (UInt64) :=
  cl (f_X6_offOf x1 x2 A) fun r1 =>
  g64 (FP.f2d r1) fun v3 =>
  g64 (FP.dmul 4602678819172646912 v3) fun v4 =>
  g32 (r1 &&& 0x7fffffff) fun v5 =>
  g64 (FP.f2d v5) fun v6 =>
  g64 (FP.dadd FP.dconst1 v6) fun v7 =>
  g64 (FP.ddiv v4 v7) fun v8 =>
  g64 (FP.dadd 4602678819172646912 v8) fun v9 =>
  some v9
abbrev rm_X6_chanceOf : Room := { frames := 3, cells := 0, slots := 0, locals := 65 }
set_option maxHeartbeats 4000000 in
set_option maxRecDepth 100000 in
theorem b_X6_chanceOf {E : pfE} (X : CX cellsR E cX6_chanceOf RX6 rm_X6_chanceOf 4) (x1 : Int32) (x2 : Int32) (A : St) {out : UInt64} (hQ : Retd cellsR E cX6_chanceOf out A) (h : f_X6_chanceOf x1 x2 A = some out) : GG cellsR E A 0 [(0, .ref (fAd (eF E) 0)), (1, .int x1), (2, .int x2)] [] := by
  unfold f_X6_chanceOf at h
  refine G_aload_n X dX6_chanceOf_0 rfl 0 rfl ?_
  refine G_iload_n X dX6_chanceOf_1 rfl 1 rfl ?_
  refine G_iload_n X dX6_chanceOf_2 rfl 2 rfl ?_
  obtain ⟨r1, hz2, h⟩ := cl_k h
  refine G_callV_f X (As := [.int x1, .int x2]) (rest := []) ok_X6_offOf qw817 0 (eR0 _ _ _) rfl rfl ⟨rfl, rfl, Nat.le_of_ble_eq_true rfl, Nat.le_of_ble_eq_true rfl⟩ (m_X6_offOf X.d hz2) rfl rfl (Nat.le_of_ble_eq_true rfl) dX6_chanceOf_3 ?_
  refine G_fstore_n X (lv2 := [(3, .float r1), (0, .ref (fAd (eF E) 0)), (1, .int x1), (2, .int x2)]) dX6_chanceOf_6 rfl (by decide) rfl ?_
  refine G_ldc2d X (v := 4602678819172646912) qw822 dX6_chanceOf_7 ?_
  refine G_ldc2d X (v := 4602678819172646912) qw822 dX6_chanceOf_10 ?_
  refine G_fload_n X dX6_chanceOf_13 rfl 0 rfl ?_
  have hv3 := g64_n h
  refine G_f2d X dX6_chanceOf_14 hv3 ?_
  refine G_topd (fun v3 ev3 => ?_)
  have h := g64_k ev3 h
  have hv4 := g64_n h
  refine G_dmul X dX6_chanceOf_15 hv4 ?_
  refine G_topd (fun v4 ev4 => ?_)
  have h := g64_k ev4 h
  refine G_dconst1 X dX6_chanceOf_16 ?_
  refine G_fload_n X dX6_chanceOf_17 rfl 0 rfl ?_
  have hv5 := g32_n h
  refine G_absF X ok_J9_abs_f6c48 qw823 hv5 (Nat.le_of_ble_eq_true rfl) (Nat.le_of_ble_eq_true rfl) dX6_chanceOf_18 ?_
  refine G_topf (fun v5 ev5 => ?_)
  have h := g32_k ev5 h
  have hv6 := g64_n h
  refine G_f2d X dX6_chanceOf_21 hv6 ?_
  refine G_topd (fun v6 ev6 => ?_)
  have h := g64_k ev6 h
  have hv7 := g64_n h
  refine G_dadd X dX6_chanceOf_22 hv7 ?_
  refine G_topd (fun v7 ev7 => ?_)
  have h := g64_k ev7 h
  have hv8 := g64_n h
  refine G_ddiv X dX6_chanceOf_23 hv8 ?_
  refine G_topd (fun v8 ev8 => ?_)
  have h := g64_k ev8 h
  have hv9 := g64_n h
  refine G_dadd X dX6_chanceOf_24 hv9 ?_
  refine G_topd (fun v9 ev9 => ?_)
  have h := g64_k ev9 h
  have e := so h
  subst e
  exact hQ _ _ dX6_chanceOf_25
theorem m_X6_chanceOf {l : Launch} {F : pfF} (hD : ∀ A, va_D (fA F) (cellsR (fAd F) (fCy F) A)) {x1 : Int32} {x2 : Int32} {A : St} {out : UInt64} (h : f_X6_chanceOf x1 x2 A = some out) : Mt l F cellsR yX6_chanceOf cX6_chanceOf 4 (some .double) rm_X6_chanceOf [.ref (fAd F 0), .int x1, .int x2] A (va_Qd (fun (r : UInt64) (u : St) => r = out ∧ u = A) (Wd cellsR F) (fA F)) := by
  refine Met_d (by decide +kernel) (Nat.le_of_ble_eq_true rfl) hD (fun E el ef X hQ => ?_)
  subst el
  subst ef
  exact b_X6_chanceOf X _ _ _ hQ h
theorem ok_X6_chanceOf : OkV yX6_chanceOf cX6_chanceOf 4 (some .double) 2 := ⟨qw815, qs14, qw6, qw816, by decide, by decide, by decide⟩
noncomputable def f_X6_tellsOf (x1 : Int32) (x2 : Int32) (A : St) : Option (UInt64) :=
  cl (f_X6_slopeOf x1 A) fun r1 =>
  g64 (FP.f2d r1) fun v3 =>
  cl (f_X6_chanceOf x1 x2 A) fun r4 =>
  g64 (FP.dmul v3 v3) fun v6 =>
  g64 (FP.dmul v6 r4) fun v7 =>
  g64 (FP.dsub FP.dconst1 r4) fun v8 =>
  g64 (FP.dmul v7 v8) fun v9 =>
  cl (f_X6_it x1 2 A) fun r10 =>
  cl (f_X6_it x1 0 A) fun r12 =>
  if r12 = 0 then
    some v9
  else
    if r12 = 1 then
      g64 (FP.dmul v9 4608308318706860032) fun v35 =>
      some v35
    else
      if r12 = 2 then
        g64 (FP.dmul v9 r4) fun v34 =>
        some v34
      else
        if r12 = 3 then
          g64 (FP.dmul v9 4608308318706860032) fun v31 =>
          g64 (FP.ddiv (FP.i2d r10) 4634204016564240384) fun v32 =>
          g64 (FP.dadd v31 v32) fun v33 =>
          some v33
        else
          if r12 = 4 then
            g64 (FP.dmul v9 r4) fun v27 =>
            g32 (FP.d2f v27) fun v28 =>
            g32 (FP.fmul v28 1050253722) fun v29 =>
            g64 (FP.f2d v29) fun v30 =>
            some v30
          else
            cl (f_X6_offOf x1 x2 A) fun r19 =>
            g64 (FP.f2d r19) fun v21 =>
            g64 (FP.ddiv (FP.i2d r10) 4625196817309499392) fun v22 =>
            g64 (v21 &&& 0x7fffffffffffffff) fun v23 =>
            g64 (FP.drem v23 4604930618986332160) fun v24 =>
            g64 (FP.ddiv v24 4616189618054758400) fun v25 =>
            g64 (FP.dadd v22 v25) fun v26 =>
            some v26
abbrev rm_X6_tellsOf : Room := { frames := 4, cells := 0, slots := 0, locals := 88 }
set_option maxHeartbeats 4000000 in
set_option maxRecDepth 100000 in
theorem b_X6_tellsOf {E : pfE} (X : CX cellsR E cX6_tellsOf RX6 rm_X6_tellsOf 12) (x1 : Int32) (x2 : Int32) (A : St) {out : UInt64} (hQ : Retd cellsR E cX6_tellsOf out A) (h : f_X6_tellsOf x1 x2 A = some out) : GG cellsR E A 0 [(0, .ref (fAd (eF E) 0)), (1, .int x1), (2, .int x2)] [] := by
  unfold f_X6_tellsOf at h
  refine G_aload_n X dX6_tellsOf_0 rfl 0 rfl ?_
  refine G_iload_n X dX6_tellsOf_1 rfl 1 rfl ?_
  obtain ⟨r1, hz2, h⟩ := cl_k h
  refine G_callV_f X (As := [.int x1]) (rest := []) ok_X6_slopeOf qw785 0 (eR0 _ _ _) rfl rfl ⟨rfl, rfl, Nat.le_of_ble_eq_true rfl, Nat.le_of_ble_eq_true rfl⟩ (m_X6_slopeOf X.d hz2) rfl rfl (Nat.le_of_ble_eq_true rfl) dX6_tellsOf_2 ?_
  have hv3 := g64_n h
  refine G_f2d X dX6_tellsOf_5 hv3 ?_
  refine G_topd (fun v3 ev3 => ?_)
  have h := g64_k ev3 h
  refine G_dstore_n X (lv2 := [(3, .double v3), (0, .ref (fAd (eF E) 0)), (1, .int x1), (2, .int x2)]) dX6_tellsOf_6 rfl (by decide) rfl ?_
  refine G_aload_n X dX6_tellsOf_7 rfl 1 rfl ?_
  refine G_iload_n X dX6_tellsOf_8 rfl 2 rfl ?_
  refine G_iload_n X dX6_tellsOf_9 rfl 3 rfl ?_
  obtain ⟨r4, hz5, h⟩ := cl_k h
  refine G_callV_d X (As := [.int x1, .int x2]) (rest := []) ok_X6_chanceOf qw813 0 (eR0 _ _ _) rfl rfl ⟨rfl, rfl, Nat.le_of_ble_eq_true rfl, Nat.le_of_ble_eq_true rfl⟩ (m_X6_chanceOf X.d hz5) rfl rfl (Nat.le_of_ble_eq_true rfl) dX6_tellsOf_10 ?_
  refine G_dstore X (lv2 := [(5, .double r4), (3, .double v3), (0, .ref (fAd (eF E) 0)), (1, .int x1), (2, .int x2)]) dX6_tellsOf_13 (by decide) rfl ?_
  refine G_dload_n X dX6_tellsOf_15 rfl 1 rfl ?_
  refine G_dload_n X dX6_tellsOf_16 rfl 1 rfl ?_
  have hv6 := g64_n h
  refine G_dmul X dX6_tellsOf_17 hv6 ?_
  refine G_topd (fun v6 ev6 => ?_)
  have h := g64_k ev6 h
  refine G_dload X dX6_tellsOf_18 0 rfl ?_
  have hv7 := g64_n h
  refine G_dmul X dX6_tellsOf_20 hv7 ?_
  refine G_topd (fun v7 ev7 => ?_)
  have h := g64_k ev7 h
  refine G_dconst1 X dX6_tellsOf_21 ?_
  refine G_dload X dX6_tellsOf_22 0 rfl ?_
  have hv8 := g64_n h
  refine G_dsub X dX6_tellsOf_24 hv8 ?_
  refine G_topd (fun v8 ev8 => ?_)
  have h := g64_k ev8 h
  have hv9 := g64_n h
  refine G_dmul X dX6_tellsOf_25 hv9 ?_
  refine G_topd (fun v9 ev9 => ?_)
  have h := g64_k ev9 h
  refine G_dstore X (lv2 := [(7, .double v9), (5, .double r4), (3, .double v3), (0, .ref (fAd (eF E) 0)), (1, .int x1), (2, .int x2)]) dX6_tellsOf_26 (by decide) rfl ?_
  refine G_aload_n X dX6_tellsOf_28 rfl 3 rfl ?_
  refine G_iload_n X dX6_tellsOf_29 rfl 4 rfl ?_
  refine G_iconst X (v := 2) dX6_tellsOf_30 rfl ?_
  obtain ⟨r10, hz11, h⟩ := cl_k h
  refine G_callV_i X (As := [.int x1, .int 2]) (rest := []) ok_X6_it qw751 0 (eR0 _ _ _) rfl rfl ⟨rfl, rfl, Nat.le_of_ble_eq_true rfl, Nat.le_of_ble_eq_true rfl⟩ (m_X6_it X.d hz11) rfl rfl (Nat.le_of_ble_eq_true rfl) dX6_tellsOf_31 ?_
  refine G_istore X (lv2 := [(9, .int r10), (7, .double v9), (5, .double r4), (3, .double v3), (0, .ref (fAd (eF E) 0)), (1, .int x1), (2, .int x2)]) dX6_tellsOf_34 (by decide) rfl ?_
  refine G_aload_n X dX6_tellsOf_36 rfl 4 rfl ?_
  refine G_iload_n X dX6_tellsOf_37 rfl 5 rfl ?_
  refine G_iconst X (v := 0) dX6_tellsOf_38 rfl ?_
  obtain ⟨r12, hz13, h⟩ := cl_k h
  refine G_callV_i X (As := [.int x1, .int 0]) (rest := []) ok_X6_it qw751 0 (eR0 _ _ _) rfl rfl ⟨rfl, rfl, Nat.le_of_ble_eq_true rfl, Nat.le_of_ble_eq_true rfl⟩ (m_X6_it X.d hz13) rfl rfl (Nat.le_of_ble_eq_true rfl) dX6_tellsOf_39 ?_
  by_cases c14 : r12 = 0
  · have h := if_t c14 h
    refine G_tabIn X dX6_tellsOf_42 (by rw [c14]; decide) (by rw [c14]; decide) (off := 34) (by rw [c14]; rfl) (tgt := 76) (by decide) ?_
    refine G_dload X dX6_tellsOf_76 1 rfl ?_
    have e := so h
    subst e
    exact hQ _ _ dX6_tellsOf_78
  · have h := if_f c14 h
    by_cases c15 : r12 = 1
    · have h := if_t c15 h
      refine G_tabIn X dX6_tellsOf_42 (by rw [c15]; decide) (by rw [c15]; decide) (off := 37) (by rw [c15]; rfl) (tgt := 79) (by decide) ?_
      refine G_dload X dX6_tellsOf_79 1 rfl ?_
      refine G_ldc2d X (v := 4608308318706860032) qw831 dX6_tellsOf_81 ?_
      have hv35 := g64_n h
      refine G_dmul X dX6_tellsOf_84 hv35 ?_
      refine G_topd (fun v35 ev35 => ?_)
      have h := g64_k ev35 h
      have e := so h
      subst e
      exact hQ _ _ dX6_tellsOf_85
    · have h := if_f c15 h
      by_cases c16 : r12 = 2
      · have h := if_t c16 h
        refine G_tabIn X dX6_tellsOf_42 (by rw [c16]; decide) (by rw [c16]; decide) (off := 44) (by rw [c16]; rfl) (tgt := 86) (by decide) ?_
        refine G_dload X dX6_tellsOf_86 1 rfl ?_
        refine G_dload X dX6_tellsOf_88 2 rfl ?_
        have hv34 := g64_n h
        refine G_dmul X dX6_tellsOf_90 hv34 ?_
        refine G_topd (fun v34 ev34 => ?_)
        have h := g64_k ev34 h
        have e := so h
        subst e
        exact hQ _ _ dX6_tellsOf_91
      · have h := if_f c16 h
        by_cases c17 : r12 = 3
        · have h := if_t c17 h
          refine G_tabIn X dX6_tellsOf_42 (by rw [c17]; decide) (by rw [c17]; decide) (off := 50) (by rw [c17]; rfl) (tgt := 92) (by decide) ?_
          refine G_dload X dX6_tellsOf_92 1 rfl ?_
          refine G_ldc2d X (v := 4608308318706860032) qw831 dX6_tellsOf_94 ?_
          have hv31 := g64_n h
          refine G_dmul X dX6_tellsOf_97 hv31 ?_
          refine G_topd (fun v31 ev31 => ?_)
          have h := g64_k ev31 h
          refine G_iload X dX6_tellsOf_98 0 rfl ?_
          refine G_i2d X dX6_tellsOf_100 ?_
          refine G_ldc2d X (v := 4634204016564240384) qw832 dX6_tellsOf_101 ?_
          have hv32 := g64_n h
          refine G_ddiv X dX6_tellsOf_104 hv32 ?_
          refine G_topd (fun v32 ev32 => ?_)
          have h := g64_k ev32 h
          have hv33 := g64_n h
          refine G_dadd X dX6_tellsOf_105 hv33 ?_
          refine G_topd (fun v33 ev33 => ?_)
          have h := g64_k ev33 h
          have e := so h
          subst e
          exact hQ _ _ dX6_tellsOf_106
        · have h := if_f c17 h
          by_cases c18 : r12 = 4
          · have h := if_t c18 h
            refine G_tabIn X dX6_tellsOf_42 (by rw [c18]; decide) (by rw [c18]; decide) (off := 65) (by rw [c18]; rfl) (tgt := 107) (by decide) ?_
            refine G_dload X dX6_tellsOf_107 1 rfl ?_
            refine G_dload X dX6_tellsOf_109 2 rfl ?_
            have hv27 := g64_n h
            refine G_dmul X dX6_tellsOf_111 hv27 ?_
            refine G_topd (fun v27 ev27 => ?_)
            have h := g64_k ev27 h
            have hv28 := g32_n h
            refine G_d2f X dX6_tellsOf_112 hv28 ?_
            refine G_topf (fun v28 ev28 => ?_)
            have h := g32_k ev28 h
            refine G_ldcf X (v := 1050253722) qw833 dX6_tellsOf_113 ?_
            have hv29 := g32_n h
            refine G_fmul X dX6_tellsOf_115 hv29 ?_
            refine G_topf (fun v29 ev29 => ?_)
            have h := g32_k ev29 h
            have hv30 := g64_n h
            refine G_f2d X dX6_tellsOf_116 hv30 ?_
            refine G_topd (fun v30 ev30 => ?_)
            have h := g64_k ev30 h
            have e := so h
            subst e
            exact hQ _ _ dX6_tellsOf_117
          · have h := if_f c18 h
            refine G_tabOut X dX6_tellsOf_42 (by have t0 := lv_neT (k := 0) (a := 0) c14 (by decide); have t1 := lv_neT (k := 1) (a := 1) c15 (by decide); have t2 := lv_neT (k := 2) (a := 2) c16 (by decide); have t3 := lv_neT (k := 3) (a := 3) c17 (by decide); have t4 := lv_neT (k := 4) (a := 4) c18 (by decide); omega) (tgt := 118) (by decide) ?_
            refine G_aload_n X dX6_tellsOf_118 rfl 4 rfl ?_
            refine G_iload_n X dX6_tellsOf_119 rfl 5 rfl ?_
            refine G_iload_n X dX6_tellsOf_120 rfl 6 rfl ?_
            obtain ⟨r19, hz20, h⟩ := cl_k h
            refine G_callV_f X (As := [.int x1, .int x2]) (rest := []) ok_X6_offOf qw817 0 (eR0 _ _ _) rfl rfl ⟨rfl, rfl, Nat.le_of_ble_eq_true rfl, Nat.le_of_ble_eq_true rfl⟩ (m_X6_offOf X.d hz20) rfl rfl (Nat.le_of_ble_eq_true rfl) dX6_tellsOf_121 ?_
            have hv21 := g64_n h
            refine G_f2d X dX6_tellsOf_124 hv21 ?_
            refine G_topd (fun v21 ev21 => ?_)
            have h := g64_k ev21 h
            refine G_dstore X (lv2 := [(10, .double v21), (9, .int r10), (7, .double v9), (5, .double r4), (3, .double v3), (0, .ref (fAd (eF E) 0)), (1, .int x1), (2, .int x2)]) dX6_tellsOf_125 (by decide) rfl ?_
            refine G_iload X dX6_tellsOf_127 1 rfl ?_
            refine G_i2d X dX6_tellsOf_129 ?_
            refine G_ldc2d X (v := 4625196817309499392) qw834 dX6_tellsOf_130 ?_
            have hv22 := g64_n h
            refine G_ddiv X dX6_tellsOf_133 hv22 ?_
            refine G_topd (fun v22 ev22 => ?_)
            have h := g64_k ev22 h
            refine G_dload X dX6_tellsOf_134 0 rfl ?_
            have hv23 := g64_n h
            refine G_absD X ok_J9_abs_294c1 qw835 hv23 (Nat.le_of_ble_eq_true rfl) (Nat.le_of_ble_eq_true rfl) dX6_tellsOf_136 ?_
            refine G_topd (fun v23 ev23 => ?_)
            have h := g64_k ev23 h
            refine G_ldc2d X (v := 4604930618986332160) qw845 dX6_tellsOf_139 ?_
            have hv24 := g64_n h
            refine G_drem X dX6_tellsOf_142 hv24 ?_
            refine G_topd (fun v24 ev24 => ?_)
            have h := g64_k ev24 h
            refine G_ldc2d X (v := 4616189618054758400) qw846 dX6_tellsOf_143 ?_
            have hv25 := g64_n h
            refine G_ddiv X dX6_tellsOf_146 hv25 ?_
            refine G_topd (fun v25 ev25 => ?_)
            have h := g64_k ev25 h
            have hv26 := g64_n h
            refine G_dadd X dX6_tellsOf_147 hv26 ?_
            refine G_topd (fun v26 ev26 => ?_)
            have h := g64_k ev26 h
            have e := so h
            subst e
            exact hQ _ _ dX6_tellsOf_148
theorem m_X6_tellsOf {l : Launch} {F : pfF} (hD : ∀ A, va_D (fA F) (cellsR (fAd F) (fCy F) A)) {x1 : Int32} {x2 : Int32} {A : St} {out : UInt64} (h : f_X6_tellsOf x1 x2 A = some out) : Mt l F cellsR yX6_tellsOf cX6_tellsOf 12 (some .double) rm_X6_tellsOf [.ref (fAd F 0), .int x1, .int x2] A (va_Qd (fun (r : UInt64) (u : St) => r = out ∧ u = A) (Wd cellsR F) (fA F)) := by
  refine Met_d (by decide +kernel) (Nat.le_of_ble_eq_true rfl) hD (fun E el ef X hQ => ?_)
  subst el
  subst ef
  exact b_X6_tellsOf X _ _ _ hQ h
theorem ok_X6_tellsOf : OkV yX6_tellsOf cX6_tellsOf 12 (some .double) 2 := ⟨qw811, qs13, qw6, qw812, by decide, by decide, by decide⟩
noncomputable def f_Jxe99ae_isNaN_b9ae7 (x0 : UInt64) : Option (Bool) :=
  if (Op.cmpValue (FP.dcmp x0 x0) .l) = 0 then
    some false
  else
    some true
abbrev rm_Jxe99ae_isNaN_b9ae7 : Room := { frames := 0, cells := 0, slots := 0, locals := 0 }
set_option maxHeartbeats 4000000 in
set_option maxRecDepth 100000 in
theorem b_Jxe99ae_isNaN_b9ae7 {wl : pfW} {E : pfE} (X : CX wl E cJxe99ae_isNaN_b9ae7 RJxe99ae rm_Jxe99ae_isNaN_b9ae7 2) (x0 : UInt64) {A : St} {out : Bool} (hQ : Reti wl E cJxe99ae_isNaN_b9ae7 (bI out) A) (h : f_Jxe99ae_isNaN_b9ae7 x0 = some out) : GG wl E A 0 [(0, .double x0)] [] := by
  unfold f_Jxe99ae_isNaN_b9ae7 at h
  refine G_dload_n X dJxe99ae_isNaN_b9ae7_0 rfl 0 rfl ?_
  refine G_dload_n X dJxe99ae_isNaN_b9ae7_1 rfl 0 rfl ?_
  refine G_dcmp X dJxe99ae_isNaN_b9ae7_2 ?_
  refine G_ifeq X (tgt := 10) dJxe99ae_isNaN_b9ae7_3 (by decide) (fun c1 => ?_) (fun c1 => ?_)
  · have h := if_t c1 h
    refine G_iconst X (v := 0) dJxe99ae_isNaN_b9ae7_10 rfl ?_
    have e := so h
    subst e
    exact hQ _ _ dJxe99ae_isNaN_b9ae7_11
  · have h := if_f c1 h
    refine G_iconst X (v := 1) dJxe99ae_isNaN_b9ae7_6 rfl ?_
    refine G_goto X (tgt := 11) dJxe99ae_isNaN_b9ae7_7 (by decide) ?_
    have e := so h
    subst e
    exact hQ _ _ dJxe99ae_isNaN_b9ae7_11
theorem m_Jxe99ae_isNaN_b9ae7 {wl : pfW} {l : Launch} {F : pfF} (hD : ∀ A, va_D (fA F) (wl (fAd F) (fCy F) A)) {x0 : UInt64} {A : St} {out : Bool} (h : f_Jxe99ae_isNaN_b9ae7 x0 = some out) : Mt l F wl yJxe99ae_isNaN_b9ae7 cJxe99ae_isNaN_b9ae7 2 (some .boolean) rm_Jxe99ae_isNaN_b9ae7 [.double x0] A (va_Qi (fun (r : Int32) (u : St) => r = bI out ∧ u = A) (Wd wl F) (fA F)) := by
  refine Met_iz (by decide +kernel) (Nat.le_of_ble_eq_true rfl) hD (nar_bI _) (fun E el ef X hQ => ?_)
  subst el
  subst ef
  exact b_Jxe99ae_isNaN_b9ae7 X _ hQ h
theorem ok_Jxe99ae_isNaN_b9ae7 : OkS yJxe99ae_isNaN_b9ae7 cJxe99ae_isNaN_b9ae7 2 (some .boolean) 1 := ⟨qw851, qw10, qw852, by decide, by decide, by decide⟩
noncomputable def f_Jxe99ae_doubleToLongBits_ccdee (x0 : UInt64) : Option (Int64) :=
  cl (f_Jxe99ae_isNaN_b9ae7 x0) fun r1 =>
  if (bI r1) = 0 then
    some x0.toInt64
  else
    some 9221120237041090560
abbrev rm_Jxe99ae_doubleToLongBits_ccdee : Room := { frames := 1, cells := 0, slots := 0, locals := 40 }
set_option maxHeartbeats 4000000 in
set_option maxRecDepth 100000 in
theorem b_Jxe99ae_doubleToLongBits_ccdee {wl : pfW} {E : pfE} (X : CX wl E cJxe99ae_doubleToLongBits_ccdee RJxe99ae rm_Jxe99ae_doubleToLongBits_ccdee 2) (x0 : UInt64) {A : St} {out : Int64} (hQ : Retl wl E cJxe99ae_doubleToLongBits_ccdee out A) (h : f_Jxe99ae_doubleToLongBits_ccdee x0 = some out) : GG wl E A 0 [(0, .double x0)] [] := by
  unfold f_Jxe99ae_doubleToLongBits_ccdee at h
  refine G_dload_n X dJxe99ae_doubleToLongBits_ccdee_0 rfl 0 rfl ?_
  obtain ⟨r1, hz2, h⟩ := cl_k h
  refine G_callS_i X (As := [.double x0]) (rest := []) ok_Jxe99ae_isNaN_b9ae7 qw850 ⟨rfl, rfl, Nat.le_of_ble_eq_true rfl, Nat.le_of_ble_eq_true rfl⟩ (m_Jxe99ae_isNaN_b9ae7 X.d hz2) rfl rfl (Nat.le_of_ble_eq_true rfl) dJxe99ae_doubleToLongBits_ccdee_1 ?_
  refine G_ifne X (tgt := 12) dJxe99ae_doubleToLongBits_ccdee_4 (by decide) (fun c3 => ?_) (fun c3 => ?_)
  · have h := if_t c3 h
    refine G_dload_n X dJxe99ae_doubleToLongBits_ccdee_7 rfl 0 rfl ?_
    refine G_nd2l X qw853 qw840 qw839 qw10 (Nat.le_of_ble_eq_true rfl) (Nat.le_of_ble_eq_true rfl) dJxe99ae_doubleToLongBits_ccdee_8 ?_
    have e := so h
    subst e
    exact hQ _ _ dJxe99ae_doubleToLongBits_ccdee_11
  · have h := if_f c3 h
    refine G_ldc2 X (v := 9221120237041090560) qw854 dJxe99ae_doubleToLongBits_ccdee_12 ?_
    have e := so h
    subst e
    exact hQ _ _ dJxe99ae_doubleToLongBits_ccdee_15
theorem m_Jxe99ae_doubleToLongBits_ccdee {wl : pfW} {l : Launch} {F : pfF} (hD : ∀ A, va_D (fA F) (wl (fAd F) (fCy F) A)) {x0 : UInt64} {A : St} {out : Int64} (h : f_Jxe99ae_doubleToLongBits_ccdee x0 = some out) : Mt l F wl yJxe99ae_doubleToLongBits_ccdee cJxe99ae_doubleToLongBits_ccdee 2 (some .long) rm_Jxe99ae_doubleToLongBits_ccdee [.double x0] A (va_Ql (fun (r : Int64) (u : St) => r = out ∧ u = A) (Wd wl F) (fA F)) := by
  refine Met_l (by decide +kernel) (Nat.le_of_ble_eq_true rfl) hD (fun E el ef X hQ => ?_)
  subst el
  subst ef
  exact b_Jxe99ae_doubleToLongBits_ccdee X _ hQ h
theorem ok_Jxe99ae_doubleToLongBits_ccdee : OkS yJxe99ae_doubleToLongBits_ccdee cJxe99ae_doubleToLongBits_ccdee 2 (some .long) 1 := ⟨qw848, qw10, qw849, by decide, by decide, by decide⟩
noncomputable def f_X6_tells (x1 : Int32) (x2 : Int32) (A : St) : Option (Int64 × St) :=
  cl (f_X6_isItem x1 A) fun r1 =>
  if (bI r1) = 0 then
    cl2 (f_X6_findsLong 0 A) fun r4 A6 =>
    some (r4, A6)
  else
    cl (f_X6_isAbility x2) fun r7 =>
    if (bI r7) = 0 then
      cl2 (f_X6_findsLong 0 A) fun r10 A12 =>
      some (r10, A12)
    else
      cl (f_X6_tellsOf x1 x2 A) fun r13 =>
      cl (f_Jxe99ae_doubleToLongBits_ccdee r13) fun r15 =>
      some (r15, A)
abbrev rm_X6_tells : Room := { frames := 5, cells := 0, slots := 0, locals := 119 }
set_option maxHeartbeats 4000000 in
set_option maxRecDepth 100000 in
theorem b_X6_tells {E : pfE} (X : CX cellsR E cX6_tells RX6 rm_X6_tells 3) (x1 : Int32) (x2 : Int32) (A : St) {out : Int64 × St} (hQ : Retl cellsR E cX6_tells out.1 out.2) (h : f_X6_tells x1 x2 A = some out) : GG cellsR E A 0 [(0, .ref (fAd (eF E) 0)), (1, .int x1), (2, .int x2)] [] := by
  unfold f_X6_tells at h
  refine G_aload_n X dX6_tells_0 rfl 0 rfl ?_
  refine G_iload_n X dX6_tells_1 rfl 1 rfl ?_
  obtain ⟨r1, hz2, h⟩ := cl_k h
  refine G_callV_i X (As := [.int x1]) (rest := []) ok_X6_isItem qw746 0 (eR0 _ _ _) rfl rfl ⟨rfl, rfl, Nat.le_of_ble_eq_true rfl, Nat.le_of_ble_eq_true rfl⟩ (m_X6_isItem X.d hz2) rfl rfl (Nat.le_of_ble_eq_true rfl) dX6_tells_2 ?_
  refine G_ifeq X (tgt := 27) dX6_tells_5 (by decide) (fun c3 => ?_) (fun c3 => ?_)
  · have h := if_t c3 h
    refine G_aload_n X dX6_tells_27 rfl 0 rfl ?_
    refine G_iconst X (v := 0) dX6_tells_28 rfl ?_
    obtain ⟨r4, A6, hz5, h⟩ := cl2_k h
    refine G_callV_l X (As := [.int 0]) (rest := []) ok_X6_findsLong qw855 0 (eR0 _ _ _) rfl rfl ⟨rfl, rfl, Nat.le_of_ble_eq_true rfl, Nat.le_of_ble_eq_true rfl⟩ (m_X6_findsLong X.d hz5) rfl rfl (Nat.le_of_ble_eq_true rfl) dX6_tells_29 ?_
    have e := so h
    subst e
    exact hQ _ _ dX6_tells_32
  · have h := if_f c3 h
    refine G_iload_n X dX6_tells_8 rfl 2 rfl ?_
    obtain ⟨r7, hz8, h⟩ := cl_k h
    refine G_callS_i X (As := [.int x2]) (rest := []) ok_X6_isAbility qw804 ⟨rfl, rfl, Nat.le_of_ble_eq_true rfl, Nat.le_of_ble_eq_true rfl⟩ (m_X6_isAbility X.d hz8) rfl rfl (Nat.le_of_ble_eq_true rfl) dX6_tells_9 ?_
    refine G_ifeq X (tgt := 27) dX6_tells_12 (by decide) (fun c9 => ?_) (fun c9 => ?_)
    · have h := if_t c9 h
      refine G_aload_n X dX6_tells_27 rfl 0 rfl ?_
      refine G_iconst X (v := 0) dX6_tells_28 rfl ?_
      obtain ⟨r10, A12, hz11, h⟩ := cl2_k h
      refine G_callV_l X (As := [.int 0]) (rest := []) ok_X6_findsLong qw855 0 (eR0 _ _ _) rfl rfl ⟨rfl, rfl, Nat.le_of_ble_eq_true rfl, Nat.le_of_ble_eq_true rfl⟩ (m_X6_findsLong X.d hz11) rfl rfl (Nat.le_of_ble_eq_true rfl) dX6_tells_29 ?_
      have e := so h
      subst e
      exact hQ _ _ dX6_tells_32
    · have h := if_f c9 h
      refine G_aload_n X dX6_tells_15 rfl 0 rfl ?_
      refine G_iload_n X dX6_tells_16 rfl 1 rfl ?_
      refine G_iload_n X dX6_tells_17 rfl 2 rfl ?_
      obtain ⟨r13, hz14, h⟩ := cl_k h
      refine G_callV_d X (As := [.int x1, .int x2]) (rest := []) ok_X6_tellsOf qw809 0 (eR0 _ _ _) rfl rfl ⟨rfl, rfl, Nat.le_of_ble_eq_true rfl, Nat.le_of_ble_eq_true rfl⟩ (m_X6_tellsOf X.d hz14) rfl rfl (Nat.le_of_ble_eq_true rfl) dX6_tells_18 ?_
      obtain ⟨r15, hz16, h⟩ := cl_k h
      refine G_callS_l X (As := [.double r13]) (rest := []) ok_Jxe99ae_doubleToLongBits_ccdee qw847 ⟨rfl, rfl, Nat.le_of_ble_eq_true rfl, Nat.le_of_ble_eq_true rfl⟩ (m_Jxe99ae_doubleToLongBits_ccdee X.d hz16) rfl rfl (Nat.le_of_ble_eq_true rfl) dX6_tells_21 ?_
      refine G_goto X (tgt := 32) dX6_tells_24 (by decide) ?_
      have e := so h
      subst e
      exact hQ _ _ dX6_tells_32
theorem m_X6_tells {l : Launch} {F : pfF} (hD : ∀ A, va_D (fA F) (cellsR (fAd F) (fCy F) A)) {x1 : Int32} {x2 : Int32} {A : St} {out : Int64 × St} (h : f_X6_tells x1 x2 A = some out) : Mt l F cellsR yX6_tells cX6_tells 3 (some .long) rm_X6_tells [.ref (fAd F 0), .int x1, .int x2] A (va_Ql (fun (r : Int64) (u : St) => r = out.1 ∧ u = out.2) (Wd cellsR F) (fA F)) := by
  refine Met_l (by decide +kernel) (Nat.le_of_ble_eq_true rfl) hD (fun E el ef X hQ => ?_)
  subst el
  subst ef
  exact b_X6_tells X _ _ _ hQ h
theorem ok_X6_tells : OkV yX6_tells cX6_tells 3 (some .long) 2 := ⟨qw801, qw802, qw6, qw803, by decide, by decide, by decide⟩
noncomputable def f_X6_chance (x1 : Int32) (x2 : Int32) (A : St) : Option (Int64 × St) :=
  cl (f_X6_isItem x1 A) fun r1 =>
  if (bI r1) = 0 then
    cl2 (f_X6_findsLong 0 A) fun r4 A6 =>
    some (r4, A6)
  else
    cl (f_X6_isAbility x2) fun r7 =>
    if (bI r7) = 0 then
      cl2 (f_X6_findsLong 0 A) fun r10 A12 =>
      some (r10, A12)
    else
      cl (f_X6_chanceOf x1 x2 A) fun r13 =>
      cl (f_Jxe99ae_doubleToLongBits_ccdee r13) fun r15 =>
      some (r15, A)
abbrev rm_X6_chance : Room := { frames := 4, cells := 0, slots := 0, locals := 88 }
set_option maxHeartbeats 4000000 in
set_option maxRecDepth 100000 in
theorem b_X6_chance {E : pfE} (X : CX cellsR E cX6_chance RX6 rm_X6_chance 3) (x1 : Int32) (x2 : Int32) (A : St) {out : Int64 × St} (hQ : Retl cellsR E cX6_chance out.1 out.2) (h : f_X6_chance x1 x2 A = some out) : GG cellsR E A 0 [(0, .ref (fAd (eF E) 0)), (1, .int x1), (2, .int x2)] [] := by
  unfold f_X6_chance at h
  refine G_aload_n X dX6_chance_0 rfl 0 rfl ?_
  refine G_iload_n X dX6_chance_1 rfl 1 rfl ?_
  obtain ⟨r1, hz2, h⟩ := cl_k h
  refine G_callV_i X (As := [.int x1]) (rest := []) ok_X6_isItem qw746 0 (eR0 _ _ _) rfl rfl ⟨rfl, rfl, Nat.le_of_ble_eq_true rfl, Nat.le_of_ble_eq_true rfl⟩ (m_X6_isItem X.d hz2) rfl rfl (Nat.le_of_ble_eq_true rfl) dX6_chance_2 ?_
  refine G_ifeq X (tgt := 27) dX6_chance_5 (by decide) (fun c3 => ?_) (fun c3 => ?_)
  · have h := if_t c3 h
    refine G_aload_n X dX6_chance_27 rfl 0 rfl ?_
    refine G_iconst X (v := 0) dX6_chance_28 rfl ?_
    obtain ⟨r4, A6, hz5, h⟩ := cl2_k h
    refine G_callV_l X (As := [.int 0]) (rest := []) ok_X6_findsLong qw855 0 (eR0 _ _ _) rfl rfl ⟨rfl, rfl, Nat.le_of_ble_eq_true rfl, Nat.le_of_ble_eq_true rfl⟩ (m_X6_findsLong X.d hz5) rfl rfl (Nat.le_of_ble_eq_true rfl) dX6_chance_29 ?_
    have e := so h
    subst e
    exact hQ _ _ dX6_chance_32
  · have h := if_f c3 h
    refine G_iload_n X dX6_chance_8 rfl 2 rfl ?_
    obtain ⟨r7, hz8, h⟩ := cl_k h
    refine G_callS_i X (As := [.int x2]) (rest := []) ok_X6_isAbility qw804 ⟨rfl, rfl, Nat.le_of_ble_eq_true rfl, Nat.le_of_ble_eq_true rfl⟩ (m_X6_isAbility X.d hz8) rfl rfl (Nat.le_of_ble_eq_true rfl) dX6_chance_9 ?_
    refine G_ifeq X (tgt := 27) dX6_chance_12 (by decide) (fun c9 => ?_) (fun c9 => ?_)
    · have h := if_t c9 h
      refine G_aload_n X dX6_chance_27 rfl 0 rfl ?_
      refine G_iconst X (v := 0) dX6_chance_28 rfl ?_
      obtain ⟨r10, A12, hz11, h⟩ := cl2_k h
      refine G_callV_l X (As := [.int 0]) (rest := []) ok_X6_findsLong qw855 0 (eR0 _ _ _) rfl rfl ⟨rfl, rfl, Nat.le_of_ble_eq_true rfl, Nat.le_of_ble_eq_true rfl⟩ (m_X6_findsLong X.d hz11) rfl rfl (Nat.le_of_ble_eq_true rfl) dX6_chance_29 ?_
      have e := so h
      subst e
      exact hQ _ _ dX6_chance_32
    · have h := if_f c9 h
      refine G_aload_n X dX6_chance_15 rfl 0 rfl ?_
      refine G_iload_n X dX6_chance_16 rfl 1 rfl ?_
      refine G_iload_n X dX6_chance_17 rfl 2 rfl ?_
      obtain ⟨r13, hz14, h⟩ := cl_k h
      refine G_callV_d X (As := [.int x1, .int x2]) (rest := []) ok_X6_chanceOf qw813 0 (eR0 _ _ _) rfl rfl ⟨rfl, rfl, Nat.le_of_ble_eq_true rfl, Nat.le_of_ble_eq_true rfl⟩ (m_X6_chanceOf X.d hz14) rfl rfl (Nat.le_of_ble_eq_true rfl) dX6_chance_18 ?_
      obtain ⟨r15, hz16, h⟩ := cl_k h
      refine G_callS_l X (As := [.double r13]) (rest := []) ok_Jxe99ae_doubleToLongBits_ccdee qw847 ⟨rfl, rfl, Nat.le_of_ble_eq_true rfl, Nat.le_of_ble_eq_true rfl⟩ (m_Jxe99ae_doubleToLongBits_ccdee X.d hz16) rfl rfl (Nat.le_of_ble_eq_true rfl) dX6_chance_21 ?_
      refine G_goto X (tgt := 32) dX6_chance_24 (by decide) ?_
      have e := so h
      subst e
      exact hQ _ _ dX6_chance_32
theorem m_X6_chance {l : Launch} {F : pfF} (hD : ∀ A, va_D (fA F) (cellsR (fAd F) (fCy F) A)) {x1 : Int32} {x2 : Int32} {A : St} {out : Int64 × St} (h : f_X6_chance x1 x2 A = some out) : Mt l F cellsR yX6_chance cX6_chance 3 (some .long) rm_X6_chance [.ref (fAd F 0), .int x1, .int x2] A (va_Ql (fun (r : Int64) (u : St) => r = out.1 ∧ u = out.2) (Wd cellsR F) (fA F)) := by
  refine Met_l (by decide +kernel) (Nat.le_of_ble_eq_true rfl) hD (fun E el ef X hQ => ?_)
  subst el
  subst ef
  exact b_X6_chance X _ _ _ hQ h
theorem ok_X6_chance : OkV yX6_chance cX6_chance 3 (some .long) 2 := ⟨qw861, qw862, qw6, qw863, by decide, by decide, by decide⟩
