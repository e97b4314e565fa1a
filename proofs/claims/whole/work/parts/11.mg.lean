noncomputable def f_X6_isPaper (x1 : Int32) (A : St) : Option (Bool) :=
  cl (f_X6_againstBut x1 0 A) fun r1 =>
  if r1 = 0 then
    some true
  else
    some false
abbrev rm_X6_isPaper : Room := { frames := 4, cells := 0, slots := 0, locals := 94 }
set_option maxHeartbeats 4000000 in
set_option maxRecDepth 100000 in
theorem b_X6_isPaper {E : pfE} (X : CX cellsR E cX6_isPaper RX6 rm_X6_isPaper 2) (x1 : Int32) (A : St) {out : Bool} (hQ : Reti cellsR E cX6_isPaper (bI out) A) (h : f_X6_isPaper x1 A = some out) : GG cellsR E A 0 [(0, .ref (fAd (eF E) 0)), (1, .int x1)] [] := by
  unfold f_X6_isPaper at h
  refine G_aload_n X dX6_isPaper_0 rfl 0 rfl ?_
  refine G_iload_n X dX6_isPaper_1 rfl 1 rfl ?_
  refine G_iconst X (v := 0) dX6_isPaper_2 rfl ?_
  obtain ⟨r1, hz2, h⟩ := cl_k h
  refine G_callV_i X (As := [.int x1, .int 0]) (rest := []) ok_X6_againstBut qw916 0 (eR0 _ _ _) rfl rfl ⟨rfl, rfl, Nat.le_of_ble_eq_true rfl, Nat.le_of_ble_eq_true rfl⟩ (m_X6_againstBut X.d hz2) rfl rfl (Nat.le_of_ble_eq_true rfl) dX6_isPaper_3 ?_
  refine G_ifne X (tgt := 13) dX6_isPaper_6 (by decide) (fun c3 => ?_) (fun c3 => ?_)
  · have h := if_t c3 h
    refine G_iconst X (v := 1) dX6_isPaper_9 rfl ?_
    refine G_goto X (tgt := 14) dX6_isPaper_10 (by decide) ?_
    have e := so h
    subst e
    exact hQ _ _ dX6_isPaper_14
  · have h := if_f c3 h
    refine G_iconst X (v := 0) dX6_isPaper_13 rfl ?_
    have e := so h
    subst e
    exact hQ _ _ dX6_isPaper_14
theorem m_X6_isPaper {l : Launch} {F : pfF} (hD : ∀ A, va_D (fA F) (cellsR (fAd F) (fCy F) A)) {x1 : Int32} {A : St} {out : Bool} (h : f_X6_isPaper x1 A = some out) : Mt l F cellsR yX6_isPaper cX6_isPaper 2 (some .boolean) rm_X6_isPaper [.ref (fAd F 0), .int x1] A (va_Qi (fun (r : Int32) (u : St) => r = bI out ∧ u = A) (Wd cellsR F) (fA F)) := by
  refine Met_iz (by decide +kernel) (Nat.le_of_ble_eq_true rfl) hD (nar_bI _) (fun E el ef X hQ => ?_)
  subst el
  subst ef
  exact b_X6_isPaper X _ _ hQ h
theorem ok_X6_isPaper : OkV yX6_isPaper cX6_isPaper 2 (some .boolean) 1 := ⟨qw969, qs28, qw6, qw970, by decide, by decide, by decide⟩
noncomputable def f_X6_bestOf_L7 (A : St) (l1 : Int32) (l2 : UInt64) (l4 : Int32) : Option ((Int32 × UInt64 × Int32) ⊕ (Int32)) :=
  if ((1 : Int32) <<< ((A.1 1 0) &&& 31)) ≤ l4 then
    some (.inr l1)
  else
    cl (f_X6_isPaper l4 A) fun r3 =>
    if (bI r3) = 0 then
      bv (l4 + 1) fun v13 =>
      some (.inl (l1, l2, v13))
    else
      cl (f_X6_valueOf l4 A) fun r6 =>
      if l1 < 0 then
        bv (l4 + 1) fun v9 =>
        some (.inl (l4, r6, v9))
      else
        if 0 < (Op.cmpValue (FP.dcmp r6 l2) .g) then
          bv (l4 + 1) fun v11 =>
          some (.inl (l4, r6, v11))
        else
          bv (l4 + 1) fun v12 =>
          some (.inl (l1, l2, v12))
noncomputable def f_X6_bestOf_X66 (A : St) (m1 : Int32) : Option (Int32) :=
  some m1
noncomputable def f_X6_bestOf (A : St) : Option (Int32) :=
  bv FP.dconst0 fun v1 =>
  cl (loop (fun s => f_X6_bestOf_L7 A s.1 s.2.1 s.2.2) ((-1), v1, 0)) (fun s => f_X6_bestOf_X66 A s)
abbrev rm_X6_bestOf : Room := { frames := 6, cells := 0, slots := 0, locals := 146 }
set_option maxHeartbeats 4000000 in
set_option maxRecDepth 100000 in
theorem g_X6_bestOf_L7 {E : pfE} (X : CX cellsR E cX6_bestOf RX6 rm_X6_bestOf 7) (A : St) : ∀ (n : Nat) (l1 : Int32) (l2 : UInt64) (l4 : Int32) (ρ : Int32), lp (fun s => f_X6_bestOf_L7 A s.1 s.2.1 s.2.2) n (l1, l2, l4) = some ρ → (∀ (q1 : Int32), ρ = q1 → GG cellsR E A 66 [(1, .int q1)] []) → GG cellsR E A 7 [(0, .ref (fAd (eF E) 0)), (1, .int l1), (2, .double l2), (4, .int l4)] [] := by
  intro n
  induction n with
  | zero =>
    intro l1 l2 l4 ρ h
    cases h
  | succ n ih =>
    intro l1 l2 l4 ρ h0 K
    obtain ⟨x, hb, hx⟩ := lp_step h0
    have h : f_X6_bestOf_L7 A l1 l2 l4 = some x := hb
    unfold f_X6_bestOf_L7 at h
    clear hb h0
    refine G_iload X dX6_bestOf_7 3 rfl ?_
    refine G_iconst X (v := 1) dX6_bestOf_9 rfl ?_
    refine G_aload_n X dX6_bestOf_10 rfl 0 rfl ?_
    refine G_getf X inX6 0 (eR0 _ _ _) rfl 0 (by decide) qw654 rfl dX6_bestOf_11 ?_
    refine G_iconst X (v := 0) dX6_bestOf_14 rfl ?_
    refine G_iald X (j := 0) 1 (eR1 _ _ _) (vi rfl) rfl dX6_bestOf_15 ?_
    refine G_ishl X dX6_bestOf_16 ?_
    refine G_icge X (tgt := 66) dX6_bestOf_17 (by decide) (fun c2 => ?_) (fun c2 => ?_)
    · have h := if_t c2 h
      exact G_sub [1] rfl (K _ (lpr (so h) hx).symm)
    · have h := if_f c2 h
      refine G_aload_n X dX6_bestOf_20 rfl 0 rfl ?_
      refine G_iload X dX6_bestOf_21 3 rfl ?_
      obtain ⟨r3, hz4, h⟩ := cl_k h
      refine G_callV_i X (As := [.int l4]) (rest := []) ok_X6_isPaper qw967 0 (eR0 _ _ _) rfl rfl ⟨rfl, rfl, Nat.le_of_ble_eq_true rfl, Nat.le_of_ble_eq_true rfl⟩ (m_X6_isPaper X.d hz4) rfl rfl (Nat.le_of_ble_eq_true rfl) dX6_bestOf_23 ?_
      refine G_ifne X (tgt := 32) dX6_bestOf_26 (by decide) (fun c5 => ?_) (fun c5 => ?_)
      · have h := if_t c5 h
        refine G_goto X (tgt := 60) dX6_bestOf_29 (by decide) ?_
        obtain ⟨v13, ev13⟩ : ∃ y : Int32, y = l4 + 1 := ⟨_, rfl⟩
        have h := bv_k ev13 h
        refine G_iinc X (q := 3) (v := v13) (lv2 := [(4, .int v13), (0, .ref (fAd (eF E) 0)), (1, .int l1), (2, .double l2)]) dX6_bestOf_60 rfl (by rw [ev13]; rfl) (by decide) rfl ?_
        refine G_goto X (tgt := 7) dX6_bestOf_63 (by decide) ?_
        exact G_sub [1, 2, 3, 0] rfl (ih _ _ _ _ (lpl (so h) hx) K)
      · have h := if_f c5 h
        refine G_aload_n X dX6_bestOf_32 rfl 0 rfl ?_
        refine G_iload X dX6_bestOf_33 3 rfl ?_
        obtain ⟨r6, hz7, h⟩ := cl_k h
        refine G_callV_d X (As := [.int l4]) (rest := []) ok_X6_valueOf qw877 0 (eR0 _ _ _) rfl rfl ⟨rfl, rfl, Nat.le_of_ble_eq_true rfl, Nat.le_of_ble_eq_true rfl⟩ (m_X6_valueOf X.d hz7) rfl rfl (Nat.le_of_ble_eq_true rfl) dX6_bestOf_35 ?_
        refine G_dstore X (lv2 := [(5, .double r6), (0, .ref (fAd (eF E) 0)), (1, .int l1), (2, .double l2), (4, .int l4)]) dX6_bestOf_38 (by decide) rfl ?_
        refine G_iload_n X dX6_bestOf_40 rfl 2 rfl ?_
        refine G_iflt X (tgt := 54) dX6_bestOf_41 (by decide) (fun c8 => ?_) (fun c8 => ?_)
        · have h := if_t c8 h
          refine G_iload X dX6_bestOf_54 4 rfl ?_
          refine G_istore_n X (lv2 := [(1, .int l4), (5, .double r6), (0, .ref (fAd (eF E) 0)), (2, .double l2), (4, .int l4)]) dX6_bestOf_56 rfl (by decide) rfl ?_
          refine G_dload X dX6_bestOf_57 1 rfl ?_
          refine G_dstore_n X (lv2 := [(2, .double r6), (1, .int l4), (5, .double r6), (0, .ref (fAd (eF E) 0)), (4, .int l4)]) dX6_bestOf_59 rfl (by decide) rfl ?_
          obtain ⟨v9, ev9⟩ : ∃ y : Int32, y = l4 + 1 := ⟨_, rfl⟩
          have h := bv_k ev9 h
          refine G_iinc X (q := 4) (v := v9) (lv2 := [(4, .int v9), (2, .double r6), (1, .int l4), (5, .double r6), (0, .ref (fAd (eF E) 0))]) dX6_bestOf_60 rfl (by rw [ev9]; rfl) (by decide) rfl ?_
          refine G_goto X (tgt := 7) dX6_bestOf_63 (by decide) ?_
          exact G_sub [4, 2, 1, 0] rfl (ih _ _ _ _ (lpl (so h) hx) K)
        · have h := if_f c8 h
          refine G_dload X dX6_bestOf_44 0 rfl ?_
          refine G_dload_n X dX6_bestOf_46 rfl 3 rfl ?_
          refine G_dcmp X dX6_bestOf_47 ?_
          refine G_ifgt X (tgt := 54) dX6_bestOf_48 (by decide) (fun c10 => ?_) (fun c10 => ?_)
          · have h := if_t c10 h
            refine G_iload X dX6_bestOf_54 4 rfl ?_
            refine G_istore_n X (lv2 := [(1, .int l4), (5, .double r6), (0, .ref (fAd (eF E) 0)), (2, .double l2), (4, .int l4)]) dX6_bestOf_56 rfl (by decide) rfl ?_
            refine G_dload X dX6_bestOf_57 1 rfl ?_
            refine G_dstore_n X (lv2 := [(2, .double r6), (1, .int l4), (5, .double r6), (0, .ref (fAd (eF E) 0)), (4, .int l4)]) dX6_bestOf_59 rfl (by decide) rfl ?_
            obtain ⟨v11, ev11⟩ : ∃ y : Int32, y = l4 + 1 := ⟨_, rfl⟩
            have h := bv_k ev11 h
            refine G_iinc X (q := 4) (v := v11) (lv2 := [(4, .int v11), (2, .double r6), (1, .int l4), (5, .double r6), (0, .ref (fAd (eF E) 0))]) dX6_bestOf_60 rfl (by rw [ev11]; rfl) (by decide) rfl ?_
            refine G_goto X (tgt := 7) dX6_bestOf_63 (by decide) ?_
            exact G_sub [4, 2, 1, 0] rfl (ih _ _ _ _ (lpl (so h) hx) K)
          · have h := if_f c10 h
            refine G_goto X (tgt := 60) dX6_bestOf_51 (by decide) ?_
            obtain ⟨v12, ev12⟩ : ∃ y : Int32, y = l4 + 1 := ⟨_, rfl⟩
            have h := bv_k ev12 h
            refine G_iinc X (q := 4) (v := v12) (lv2 := [(4, .int v12), (5, .double r6), (0, .ref (fAd (eF E) 0)), (1, .int l1), (2, .double l2)]) dX6_bestOf_60 rfl (by rw [ev12]; rfl) (by decide) rfl ?_
            refine G_goto X (tgt := 7) dX6_bestOf_63 (by decide) ?_
            exact G_sub [2, 3, 4, 0] rfl (ih _ _ _ _ (lpl (so h) hx) K)
set_option maxHeartbeats 4000000 in
set_option maxRecDepth 100000 in
theorem b_X6_bestOf {E : pfE} (X : CX cellsR E cX6_bestOf RX6 rm_X6_bestOf 7) (A : St) {out : Int32} (hQ : Reti cellsR E cX6_bestOf out A) (h : f_X6_bestOf A = some out) : GG cellsR E A 0 [(0, .ref (fAd (eF E) 0))] [] := by
  unfold f_X6_bestOf at h
  refine G_iconst X (v := (-1)) dX6_bestOf_0 rfl ?_
  refine G_istore_n X (lv2 := [(1, .int (-1)), (0, .ref (fAd (eF E) 0))]) dX6_bestOf_1 rfl (by decide) rfl ?_
  refine G_dconst0 X dX6_bestOf_2 ?_
  refine G_topd (fun v1 ev1 => ?_)
  have h := bv_k ev1 h
  refine G_dstore_n X (lv2 := [(2, .double v1), (1, .int (-1)), (0, .ref (fAd (eF E) 0))]) dX6_bestOf_3 rfl (by decide) rfl ?_
  refine G_iconst X (v := 0) dX6_bestOf_4 rfl ?_
  refine G_istore X (lv2 := [(4, .int 0), (2, .double v1), (1, .int (-1)), (0, .ref (fAd (eF E) 0))]) dX6_bestOf_5 (by decide) rfl ?_
  obtain ⟨ρ, hl, h⟩ := cl_k h
  obtain ⟨n, hl⟩ := loop_some hl
  refine G_sub [3, 2, 1, 0] rfl (g_X6_bestOf_L7 X A n _ _ _ ρ hl ?_)
  intro v14 e
  rw [e] at h
  have h : f_X6_bestOf_X66 A v14 = some _ := h
  unfold f_X6_bestOf_X66 at h
  refine G_iload_n X dX6_bestOf_66 rfl 0 rfl ?_
  have e := so h
  subst e
  exact hQ _ _ dX6_bestOf_67
theorem m_X6_bestOf {l : Launch} {F : pfF} (hD : ∀ A, va_D (fA F) (cellsR (fAd F) (fCy F) A)) {A : St} {out : Int32} (h : f_X6_bestOf A = some out) : Mt l F cellsR yX6_bestOf cX6_bestOf 7 (some .int) rm_X6_bestOf [.ref (fAd F 0)] A (va_Qi (fun (r : Int32) (u : St) => r = out ∧ u = A) (Wd cellsR F) (fA F)) := by
  refine Met_i (by decide +kernel) (Nat.le_of_ble_eq_true rfl) hD (fun E el ef X hQ => ?_)
  subst el
  subst ef
  exact b_X6_bestOf X _ hQ h
theorem ok_X6_bestOf : OkV yX6_bestOf cX6_bestOf 7 (some .int) 0 := ⟨qw965, qs27, qw6, qw966, by decide, by decide, by decide⟩
noncomputable def f_X6_best (A : St) : Option (Int32 × St) :=
  cl (f_X6_bestOf A) fun r1 =>
  if 0 ≤ r1 then
    some (r1, A)
  else
    cl2 (f_X6_finds 3 A) fun r4 A6 =>
    some (r4, A6)
abbrev rm_X6_best : Room := { frames := 7, cells := 0, slots := 0, locals := 172 }
set_option maxHeartbeats 4000000 in
set_option maxRecDepth 100000 in
theorem b_X6_best {E : pfE} (X : CX cellsR E cX6_best RX6 rm_X6_best 2) (A : St) {out : Int32 × St} (hQ : Reti cellsR E cX6_best out.1 out.2) (h : f_X6_best A = some out) : GG cellsR E A 0 [(0, .ref (fAd (eF E) 0))] [] := by
  unfold f_X6_best at h
  refine G_aload_n X dX6_best_0 rfl 0 rfl ?_
  obtain ⟨r1, hz2, h⟩ := cl_k h
  refine G_callV_i X (As := []) (rest := []) ok_X6_bestOf qw963 0 (eR0 _ _ _) rfl rfl ⟨rfl, rfl, Nat.le_of_ble_eq_true rfl, Nat.le_of_ble_eq_true rfl⟩ (m_X6_bestOf X.d hz2) rfl rfl (Nat.le_of_ble_eq_true rfl) dX6_best_1 ?_
  refine G_istore_n X (lv2 := [(1, .int r1), (0, .ref (fAd (eF E) 0))]) dX6_best_4 rfl (by decide) rfl ?_
  refine G_iload_n X dX6_best_5 rfl 0 rfl ?_
  refine G_ifge X (tgt := 17) dX6_best_6 (by decide) (fun c3 => ?_) (fun c3 => ?_)
  · have h := if_t c3 h
    refine G_iload_n X dX6_best_17 rfl 0 rfl ?_
    have e := so h
    subst e
    exact hQ _ _ dX6_best_18
  · have h := if_f c3 h
    refine G_aload_n X dX6_best_9 rfl 1 rfl ?_
    refine G_iconst X (v := 3) dX6_best_10 rfl ?_
    obtain ⟨r4, A6, hz5, h⟩ := cl2_k h
    refine G_callV_i X (As := [.int 3]) (rest := []) ok_X6_finds qw737 0 (eR0 _ _ _) rfl rfl ⟨rfl, rfl, Nat.le_of_ble_eq_true rfl, Nat.le_of_ble_eq_true rfl⟩ (m_X6_finds X.d hz5) rfl rfl (Nat.le_of_ble_eq_true rfl) dX6_best_11 ?_
    refine G_goto X (tgt := 18) dX6_best_14 (by decide) ?_
    have e := so h
    subst e
    exact hQ _ _ dX6_best_18
theorem m_X6_best {l : Launch} {F : pfF} (hD : ∀ A, va_D (fA F) (cellsR (fAd F) (fCy F) A)) {A : St} {out : Int32 × St} (h : f_X6_best A = some out) : Mt l F cellsR yX6_best cX6_best 2 (some .int) rm_X6_best [.ref (fAd F 0)] A (va_Qi (fun (r : Int32) (u : St) => r = out.1 ∧ u = out.2) (Wd cellsR F) (fA F)) := by
  refine Met_i (by decide +kernel) (Nat.le_of_ble_eq_true rfl) hD (fun E el ef X hQ => ?_)
  subst el
  subst ef
  exact b_X6_best X _ hQ h
theorem ok_X6_best : OkV yX6_best cX6_best 2 (some .int) 0 := ⟨qw960, qw961, qw6, qw962, by decide, by decide, by decide⟩
noncomputable def f_X6_rank_L26 (A : St) (l2 : UInt64) (l4 : Int32) (l5 : Int32) : Option ((Int32 × Int32) ⊕ (Int32)) :=
  if ((1 : Int32) <<< ((A.1 1 0) &&& 31)) ≤ l5 then
    some (.inr l4)
  else
    cl (f_X6_isPaper l5 A) fun r7 =>
    if (bI r7) = 0 then
      bv (l4 + 0) fun v10 =>
      bv (l5 + 1) fun v11 =>
      some (.inl (v10, v11))
    else
      cl (f_X6_valueOf l5 A) fun r12 =>
      if (Op.cmpValue (FP.dcmp r12 l2) .l) ≤ 0 then
        bv (l4 + 0) fun v15 =>
        bv (l5 + 1) fun v16 =>
        some (.inl (v15, v16))
      else
        bv (l4 + 1) fun v17 =>
        bv (l5 + 1) fun v18 =>
        some (.inl (v17, v18))
noncomputable def f_X6_rank_X75 (A : St) (m4 : Int32) : Option (Int32 × St) :=
  some (m4, A)
noncomputable def f_X6_rank (x1 : Int32) (A : St) : Option (Int32 × St) :=
  cl (f_X6_areItems x1 A) fun r1 =>
  if (bI r1) = 0 then
    cl2 (f_X6_finds 0 A) fun r20 A22 =>
    some (r20, A22)
  else
    cl (f_X6_valueOf x1 A) fun r4 =>
    cl (loop (fun s => f_X6_rank_L26 A r4 s.1 s.2) (0, 0)) (fun s => f_X6_rank_X75 A s)
abbrev rm_X6_rank : Room := { frames := 6, cells := 0, slots := 0, locals := 146 }
set_option maxHeartbeats 4000000 in
set_option maxRecDepth 100000 in
theorem g_X6_rank_L26 {E : pfE} (X : CX cellsR E cX6_rank RX6 rm_X6_rank 6) (A : St) (l2 : UInt64) : ∀ (n : Nat) (l4 : Int32) (l5 : Int32) (ρ : Int32), lp (fun s => f_X6_rank_L26 A l2 s.1 s.2) n (l4, l5) = some ρ → (∀ (q4 : Int32), ρ = q4 → GG cellsR E A 75 [(4, .int q4)] []) → GG cellsR E A 26 [(0, .ref (fAd (eF E) 0)), (2, .double l2), (4, .int l4), (5, .int l5)] [] := by
  intro n
  induction n with
  | zero =>
    intro l4 l5 ρ h
    cases h
  | succ n ih =>
    intro l4 l5 ρ h0 K
    obtain ⟨x, hb, hx⟩ := lp_step h0
    have h : f_X6_rank_L26 A l2 l4 l5 = some x := hb
    unfold f_X6_rank_L26 at h
    clear hb h0
    refine G_iload X dX6_rank_26 3 rfl ?_
    refine G_iconst X (v := 1) dX6_rank_28 rfl ?_
    refine G_aload_n X dX6_rank_29 rfl 0 rfl ?_
    refine G_getf X inX6 0 (eR0 _ _ _) rfl 0 (by decide) qw654 rfl dX6_rank_30 ?_
    refine G_iconst X (v := 0) dX6_rank_33 rfl ?_
    refine G_iald X (j := 0) 1 (eR1 _ _ _) (vi rfl) rfl dX6_rank_34 ?_
    refine G_ishl X dX6_rank_35 ?_
    refine G_icge X (tgt := 75) dX6_rank_36 (by decide) (fun c6 => ?_) (fun c6 => ?_)
    · have h := if_t c6 h
      exact G_sub [2] rfl (K _ (lpr (so h) hx).symm)
    · have h := if_f c6 h
      refine G_iload X dX6_rank_39 2 rfl ?_
      refine G_aload_n X dX6_rank_41 rfl 0 rfl ?_
      refine G_iload X dX6_rank_42 3 rfl ?_
      obtain ⟨r7, hz8, h⟩ := cl_k h
      refine G_callV_i X (As := [.int l5]) (rest := [.int l4]) ok_X6_isPaper qw967 0 (eR0 _ _ _) rfl rfl ⟨rfl, rfl, Nat.le_of_ble_eq_true rfl, Nat.le_of_ble_eq_true rfl⟩ (m_X6_isPaper X.d hz8) rfl rfl (Nat.le_of_ble_eq_true rfl) dX6_rank_44 ?_
      refine G_ifeq X (tgt := 65) dX6_rank_47 (by decide) (fun c9 => ?_) (fun c9 => ?_)
      · have h := if_t c9 h
        refine G_iconst X (v := 0) dX6_rank_65 rfl ?_
        refine G_iadd X dX6_rank_66 ?_
        refine G_topi (fun v10 ev10 => ?_)
        have h := bv_k ev10 h
        refine G_istore X (lv2 := [(4, .int v10), (0, .ref (fAd (eF E) 0)), (2, .double l2), (5, .int l5)]) dX6_rank_67 (by decide) rfl ?_
        obtain ⟨v11, ev11⟩ : ∃ y : Int32, y = l5 + 1 := ⟨_, rfl⟩
        have h := bv_k ev11 h
        refine G_iinc X (q := 3) (v := v11) (lv2 := [(5, .int v11), (4, .int v10), (0, .ref (fAd (eF E) 0)), (2, .double l2)]) dX6_rank_69 rfl (by rw [ev11]; rfl) (by decide) rfl ?_
        refine G_goto X (tgt := 26) dX6_rank_72 (by decide) ?_
        exact G_sub [2, 3, 1, 0] rfl (ih _ _ _ (lpl (so h) hx) K)
      · have h := if_f c9 h
        refine G_aload_n X dX6_rank_50 rfl 0 rfl ?_
        refine G_iload X dX6_rank_51 3 rfl ?_
        obtain ⟨r12, hz13, h⟩ := cl_k h
        refine G_callV_d X (As := [.int l5]) (rest := [.int l4]) ok_X6_valueOf qw877 0 (eR0 _ _ _) rfl rfl ⟨rfl, rfl, Nat.le_of_ble_eq_true rfl, Nat.le_of_ble_eq_true rfl⟩ (m_X6_valueOf X.d hz13) rfl rfl (Nat.le_of_ble_eq_true rfl) dX6_rank_53 ?_
        refine G_dload_n X dX6_rank_56 rfl 1 rfl ?_
        refine G_dcmp X dX6_rank_57 ?_
        refine G_ifle X (tgt := 65) dX6_rank_58 (by decide) (fun c14 => ?_) (fun c14 => ?_)
        · have h := if_t c14 h
          refine G_iconst X (v := 0) dX6_rank_65 rfl ?_
          refine G_iadd X dX6_rank_66 ?_
          refine G_topi (fun v15 ev15 => ?_)
          have h := bv_k ev15 h
          refine G_istore X (lv2 := [(4, .int v15), (0, .ref (fAd (eF E) 0)), (2, .double l2), (5, .int l5)]) dX6_rank_67 (by decide) rfl ?_
          obtain ⟨v16, ev16⟩ : ∃ y : Int32, y = l5 + 1 := ⟨_, rfl⟩
          have h := bv_k ev16 h
          refine G_iinc X (q := 3) (v := v16) (lv2 := [(5, .int v16), (4, .int v15), (0, .ref (fAd (eF E) 0)), (2, .double l2)]) dX6_rank_69 rfl (by rw [ev16]; rfl) (by decide) rfl ?_
          refine G_goto X (tgt := 26) dX6_rank_72 (by decide) ?_
          exact G_sub [2, 3, 1, 0] rfl (ih _ _ _ (lpl (so h) hx) K)
        · have h := if_f c14 h
          refine G_iconst X (v := 1) dX6_rank_61 rfl ?_
          refine G_goto X (tgt := 66) dX6_rank_62 (by decide) ?_
          refine G_iadd X dX6_rank_66 ?_
          refine G_topi (fun v17 ev17 => ?_)
          have h := bv_k ev17 h
          refine G_istore X (lv2 := [(4, .int v17), (0, .ref (fAd (eF E) 0)), (2, .double l2), (5, .int l5)]) dX6_rank_67 (by decide) rfl ?_
          obtain ⟨v18, ev18⟩ : ∃ y : Int32, y = l5 + 1 := ⟨_, rfl⟩
          have h := bv_k ev18 h
          refine G_iinc X (q := 3) (v := v18) (lv2 := [(5, .int v18), (4, .int v17), (0, .ref (fAd (eF E) 0)), (2, .double l2)]) dX6_rank_69 rfl (by rw [ev18]; rfl) (by decide) rfl ?_
          refine G_goto X (tgt := 26) dX6_rank_72 (by decide) ?_
          exact G_sub [2, 3, 1, 0] rfl (ih _ _ _ (lpl (so h) hx) K)
set_option maxHeartbeats 4000000 in
set_option maxRecDepth 100000 in
theorem b_X6_rank {E : pfE} (X : CX cellsR E cX6_rank RX6 rm_X6_rank 6) (x1 : Int32) (A : St) {out : Int32 × St} (hQ : Reti cellsR E cX6_rank out.1 out.2) (h : f_X6_rank x1 A = some out) : GG cellsR E A 0 [(0, .ref (fAd (eF E) 0)), (1, .int x1)] [] := by
  unfold f_X6_rank at h
  refine G_aload_n X dX6_rank_0 rfl 0 rfl ?_
  refine G_iload_n X dX6_rank_1 rfl 1 rfl ?_
  obtain ⟨r1, hz2, h⟩ := cl_k h
  refine G_callV_i X (As := [.int x1]) (rest := []) ok_X6_areItems qw873 0 (eR0 _ _ _) rfl rfl ⟨rfl, rfl, Nat.le_of_ble_eq_true rfl, Nat.le_of_ble_eq_true rfl⟩ (m_X6_areItems X.d hz2) rfl rfl (Nat.le_of_ble_eq_true rfl) dX6_rank_2 ?_
  refine G_ifne X (tgt := 14) dX6_rank_5 (by decide) (fun c3 => ?_) (fun c3 => ?_)
  · have h := if_t c3 h
    refine G_aload_n X dX6_rank_8 rfl 0 rfl ?_
    refine G_iconst X (v := 0) dX6_rank_9 rfl ?_
    obtain ⟨r20, A22, hz21, h⟩ := cl2_k h
    refine G_callV_i X (As := [.int 0]) (rest := []) ok_X6_finds qw737 0 (eR0 _ _ _) rfl rfl ⟨rfl, rfl, Nat.le_of_ble_eq_true rfl, Nat.le_of_ble_eq_true rfl⟩ (m_X6_finds X.d hz21) rfl rfl (Nat.le_of_ble_eq_true rfl) dX6_rank_10 ?_
    have e := so h
    subst e
    exact hQ _ _ dX6_rank_13
  · have h := if_f c3 h
    refine G_aload_n X dX6_rank_14 rfl 0 rfl ?_
    refine G_iload_n X dX6_rank_15 rfl 1 rfl ?_
    obtain ⟨r4, hz5, h⟩ := cl_k h
    refine G_callV_d X (As := [.int x1]) (rest := []) ok_X6_valueOf qw877 0 (eR0 _ _ _) rfl rfl ⟨rfl, rfl, Nat.le_of_ble_eq_true rfl, Nat.le_of_ble_eq_true rfl⟩ (m_X6_valueOf X.d hz5) rfl rfl (Nat.le_of_ble_eq_true rfl) dX6_rank_16 ?_
    refine G_dstore_n X (lv2 := [(2, .double r4), (0, .ref (fAd (eF E) 0)), (1, .int x1)]) dX6_rank_19 rfl (by decide) rfl ?_
    refine G_iconst X (v := 0) dX6_rank_20 rfl ?_
    refine G_istore X (lv2 := [(4, .int 0), (2, .double r4), (0, .ref (fAd (eF E) 0)), (1, .int x1)]) dX6_rank_21 (by decide) rfl ?_
    refine G_iconst X (v := 0) dX6_rank_23 rfl ?_
    refine G_istore X (lv2 := [(5, .int 0), (4, .int 0), (2, .double r4), (0, .ref (fAd (eF E) 0)), (1, .int x1)]) dX6_rank_24 (by decide) rfl ?_
    obtain ⟨ρ, hl, h⟩ := cl_k h
    obtain ⟨n, hl⟩ := loop_some hl
    refine G_sub [3, 2, 1, 0] rfl (g_X6_rank_L26 X A r4 n _ _ ρ hl ?_)
    intro v19 e
    rw [e] at h
    have h : f_X6_rank_X75 A v19 = some _ := h
    unfold f_X6_rank_X75 at h
    refine G_iload X dX6_rank_75 0 rfl ?_
    have e := so h
    subst e
    exact hQ _ _ dX6_rank_77
theorem m_X6_rank {l : Launch} {F : pfF} (hD : ∀ A, va_D (fA F) (cellsR (fAd F) (fCy F) A)) {x1 : Int32} {A : St} {out : Int32 × St} (h : f_X6_rank x1 A = some out) : Mt l F cellsR yX6_rank cX6_rank 6 (some .int) rm_X6_rank [.ref (fAd F 0), .int x1] A (va_Qi (fun (r : Int32) (u : St) => r = out.1 ∧ u = out.2) (Wd cellsR F) (fA F)) := by
  refine Met_i (by decide +kernel) (Nat.le_of_ble_eq_true rfl) hD (fun E el ef X hQ => ?_)
  subst el
  subst ef
  exact b_X6_rank X _ _ hQ h
theorem ok_X6_rank : OkV yX6_rank cX6_rank 6 (some .int) 1 := ⟨qw972, qw973, qw6, qw974, by decide, by decide, by decide⟩
noncomputable def f_X6_swap_L58 (A : St) (l1 : Int32) (l2 : Int32) (l3 : Int32) (l4 : UInt64) (l6 : Int32) : Option ((Int32 × UInt64 × Int32) ⊕ (Int32)) :=
  if (A.1 1 0) ≤ l6 then
    some (.inr l3)
  else
    bv ((l1 &&& (((1 : Int32) <<< (l2 &&& 31)) ^^^ (-1))) ||| ((1 : Int32) <<< (l6 &&& 31))) fun v18 =>
    cl (f_X6_has l1 l6) fun r19 =>
    if (bI r19) = 0 then
      cl (f_X6_isPaper v18 A) fun r23 =>
      if (bI r23) = 0 then
        bv (l6 + 1) fun v33 =>
        some (.inl (l3, l4, v33))
      else
        cl (f_X6_valueOf v18 A) fun r26 =>
        if l3 < 0 then
          bv (l6 + 1) fun v29 =>
          some (.inl (l6, r26, v29))
        else
          if 0 < (Op.cmpValue (FP.dcmp r26 l4) .g) then
            bv (l6 + 1) fun v31 =>
            some (.inl (l6, r26, v31))
          else
            bv (l6 + 1) fun v32 =>
            some (.inl (l3, l4, v32))
    else
      bv (l6 + 1) fun v22 =>
      some (.inl (l3, l4, v22))
noncomputable def f_X6_swap_X140 (A : St) (m3 : Int32) : Option (Int32 × St) :=
  if 0 ≤ m3 then
    some (m3, A)
  else
    cl2 (f_X6_finds 3 A) fun r40 A42 =>
    some (r40, A42)
noncomputable def f_X6_swap (x1 : Int32) (x2 : Int32) (A : St) : Option (Int32 × St) :=
  cl (f_X6_areItems x1 A) fun r1 =>
  if (bI r1) = 0 then
    cl2 (f_X6_finds 0 A) fun r4 A6 =>
    some (r4, A6)
  else
    cl (f_X6_isItem x2 A) fun r7 =>
    if (bI r7) = 0 then
      cl2 (f_X6_finds 0 A) fun r49 A51 =>
      some (r49, A51)
    else
      cl (f_X6_isPaper x1 A) fun r10 =>
      if (bI r10) = 0 then
        cl2 (f_X6_finds 4 A) fun r46 A48 =>
        some (r46, A48)
      else
        cl (f_X6_has x1 x2) fun r13 =>
        if (bI r13) = 0 then
          cl2 (f_X6_finds 2 A) fun r43 A45 =>
          some (r43, A45)
        else
          bv FP.dconst0 fun v16 =>
          cl (loop (fun s => f_X6_swap_L58 A x1 x2 s.1 s.2.1 s.2.2) ((-1), v16, 0)) (fun s => f_X6_swap_X140 A s)
abbrev rm_X6_swap : Room := { frames := 6, cells := 0, slots := 0, locals := 146 }
set_option maxHeartbeats 4000000 in
set_option maxRecDepth 100000 in
theorem g_X6_swap_L58 {E : pfE} (X : CX cellsR E cX6_swap RX6 rm_X6_swap 10) (A : St) (l1 : Int32) (l2 : Int32) : ∀ (n : Nat) (l3 : Int32) (l4 : UInt64) (l6 : Int32) (ρ : Int32), lp (fun s => f_X6_swap_L58 A l1 l2 s.1 s.2.1 s.2.2) n (l3, l4, l6) = some ρ → (∀ (q3 : Int32), ρ = q3 → GG cellsR E A 140 [(0, .ref (fAd (eF E) 0)), (3, .int q3)] []) → GG cellsR E A 58 [(0, .ref (fAd (eF E) 0)), (1, .int l1), (2, .int l2), (3, .int l3), (4, .double l4), (6, .int l6)] [] := by
  intro n
  induction n with
  | zero =>
    intro l3 l4 l6 ρ h
    cases h
  | succ n ih =>
    intro l3 l4 l6 ρ h0 K
    obtain ⟨x, hb, hx⟩ := lp_step h0
    have h : f_X6_swap_L58 A l1 l2 l3 l4 l6 = some x := hb
    unfold f_X6_swap_L58 at h
    clear hb h0
    refine G_iload X dX6_swap_58 5 rfl ?_
    refine G_aload_n X dX6_swap_60 rfl 0 rfl ?_
    refine G_getf X inX6 0 (eR0 _ _ _) rfl 0 (by decide) qw654 rfl dX6_swap_61 ?_
    refine G_iconst X (v := 0) dX6_swap_64 rfl ?_
    refine G_iald X (j := 0) 1 (eR1 _ _ _) (vi rfl) rfl dX6_swap_65 ?_
    refine G_icge X (tgt := 140) dX6_swap_66 (by decide) (fun c17 => ?_) (fun c17 => ?_)
    · have h := if_t c17 h
      exact G_sub [0, 3] rfl (K _ (lpr (so h) hx).symm)
    · have h := if_f c17 h
      refine G_iload_n X dX6_swap_69 rfl 1 rfl ?_
      refine G_iconst X (v := 1) dX6_swap_70 rfl ?_
      refine G_iload_n X dX6_swap_71 rfl 2 rfl ?_
      refine G_ishl X dX6_swap_72 ?_
      refine G_iconst X (v := (-1)) dX6_swap_73 rfl ?_
      refine G_ixor X dX6_swap_74 ?_
      refine G_iand X dX6_swap_75 ?_
      refine G_iconst X (v := 1) dX6_swap_76 rfl ?_
      refine G_iload X dX6_swap_77 5 rfl ?_
      refine G_ishl X dX6_swap_79 ?_
      refine G_ior X dX6_swap_80 ?_
      refine G_topi (fun v18 ev18 => ?_)
      have h := bv_k ev18 h
      refine G_istore X (lv2 := [(7, .int v18), (0, .ref (fAd (eF E) 0)), (1, .int l1), (2, .int l2), (3, .int l3), (4, .double l4), (6, .int l6)]) dX6_swap_81 (by decide) rfl ?_
      refine G_iload_n X dX6_swap_83 rfl 2 rfl ?_
      refine G_iload X dX6_swap_84 6 rfl ?_
      obtain ⟨r19, hz20, h⟩ := cl_k h
      refine G_callS_i X (As := [.int l1, .int l6]) (rest := []) ok_X6_has qw774 ⟨rfl, rfl, Nat.le_of_ble_eq_true rfl, Nat.le_of_ble_eq_true rfl⟩ (m_X6_has X.d hz20) rfl rfl (Nat.le_of_ble_eq_true rfl) dX6_swap_86 ?_
      refine G_ifne X (tgt := 134) dX6_swap_89 (by decide) (fun c21 => ?_) (fun c21 => ?_)
      · have h := if_t c21 h
        refine G_aload_n X dX6_swap_92 rfl 1 rfl ?_
        refine G_iload X dX6_swap_93 0 rfl ?_
        obtain ⟨r23, hz24, h⟩ := cl_k h
        refine G_callV_i X (As := [.int v18]) (rest := []) ok_X6_isPaper qw967 0 (eR0 _ _ _) rfl rfl ⟨rfl, rfl, Nat.le_of_ble_eq_true rfl, Nat.le_of_ble_eq_true rfl⟩ (m_X6_isPaper X.d hz24) rfl rfl (Nat.le_of_ble_eq_true rfl) dX6_swap_95 ?_
        refine G_ifne X (tgt := 104) dX6_swap_98 (by decide) (fun c25 => ?_) (fun c25 => ?_)
        · have h := if_t c25 h
          refine G_goto X (tgt := 134) dX6_swap_101 (by decide) ?_
          obtain ⟨v33, ev33⟩ : ∃ y : Int32, y = l6 + 1 := ⟨_, rfl⟩
          have h := bv_k ev33 h
          refine G_iinc X (q := 6) (v := v33) (lv2 := [(6, .int v33), (7, .int v18), (0, .ref (fAd (eF E) 0)), (1, .int l1), (2, .int l2), (3, .int l3), (4, .double l4)]) dX6_swap_134 rfl (by rw [ev33]; rfl) (by decide) rfl ?_
          refine G_goto X (tgt := 58) dX6_swap_137 (by decide) ?_
          exact G_sub [2, 3, 4, 5, 6, 0] rfl (ih _ _ _ _ (lpl (so h) hx) K)
        · have h := if_f c25 h
          refine G_aload_n X dX6_swap_104 rfl 1 rfl ?_
          refine G_iload X dX6_swap_105 0 rfl ?_
          obtain ⟨r26, hz27, h⟩ := cl_k h
          refine G_callV_d X (As := [.int v18]) (rest := []) ok_X6_valueOf qw877 0 (eR0 _ _ _) rfl rfl ⟨rfl, rfl, Nat.le_of_ble_eq_true rfl, Nat.le_of_ble_eq_true rfl⟩ (m_X6_valueOf X.d hz27) rfl rfl (Nat.le_of_ble_eq_true rfl) dX6_swap_107 ?_
          refine G_dstore X (lv2 := [(8, .double r26), (7, .int v18), (0, .ref (fAd (eF E) 0)), (1, .int l1), (2, .int l2), (3, .int l3), (4, .double l4), (6, .int l6)]) dX6_swap_110 (by decide) rfl ?_
          refine G_iload_n X dX6_swap_112 rfl 5 rfl ?_
          refine G_iflt X (tgt := 127) dX6_swap_113 (by decide) (fun c28 => ?_) (fun c28 => ?_)
          · have h := if_t c28 h
            refine G_iload X dX6_swap_127 7 rfl ?_
            refine G_istore_n X (lv2 := [(3, .int l6), (8, .double r26), (7, .int v18), (0, .ref (fAd (eF E) 0)), (1, .int l1), (2, .int l2), (4, .double l4), (6, .int l6)]) dX6_swap_129 rfl (by decide) rfl ?_
            refine G_dload X dX6_swap_130 1 rfl ?_
            refine G_dstore X (lv2 := [(4, .double r26), (3, .int l6), (8, .double r26), (7, .int v18), (0, .ref (fAd (eF E) 0)), (1, .int l1), (2, .int l2), (6, .int l6)]) dX6_swap_132 (by decide) rfl ?_
            obtain ⟨v29, ev29⟩ : ∃ y : Int32, y = l6 + 1 := ⟨_, rfl⟩
            have h := bv_k ev29 h
            refine G_iinc X (q := 7) (v := v29) (lv2 := [(6, .int v29), (4, .double r26), (3, .int l6), (8, .double r26), (7, .int v18), (0, .ref (fAd (eF E) 0)), (1, .int l1), (2, .int l2)]) dX6_swap_134 rfl (by rw [ev29]; rfl) (by decide) rfl ?_
            refine G_goto X (tgt := 58) dX6_swap_137 (by decide) ?_
            exact G_sub [5, 6, 7, 2, 1, 0] rfl (ih _ _ _ _ (lpl (so h) hx) K)
          · have h := if_f c28 h
            refine G_dload X dX6_swap_116 0 rfl ?_
            refine G_dload X dX6_swap_118 6 rfl ?_
            refine G_dcmp X dX6_swap_120 ?_
            refine G_ifgt X (tgt := 127) dX6_swap_121 (by decide) (fun c30 => ?_) (fun c30 => ?_)
            · have h := if_t c30 h
              refine G_iload X dX6_swap_127 7 rfl ?_
              refine G_istore_n X (lv2 := [(3, .int l6), (8, .double r26), (7, .int v18), (0, .ref (fAd (eF E) 0)), (1, .int l1), (2, .int l2), (4, .double l4), (6, .int l6)]) dX6_swap_129 rfl (by decide) rfl ?_
              refine G_dload X dX6_swap_130 1 rfl ?_
              refine G_dstore X (lv2 := [(4, .double r26), (3, .int l6), (8, .double r26), (7, .int v18), (0, .ref (fAd (eF E) 0)), (1, .int l1), (2, .int l2), (6, .int l6)]) dX6_swap_132 (by decide) rfl ?_
              obtain ⟨v31, ev31⟩ : ∃ y : Int32, y = l6 + 1 := ⟨_, rfl⟩
              have h := bv_k ev31 h
              refine G_iinc X (q := 7) (v := v31) (lv2 := [(6, .int v31), (4, .double r26), (3, .int l6), (8, .double r26), (7, .int v18), (0, .ref (fAd (eF E) 0)), (1, .int l1), (2, .int l2)]) dX6_swap_134 rfl (by rw [ev31]; rfl) (by decide) rfl ?_
              refine G_goto X (tgt := 58) dX6_swap_137 (by decide) ?_
              exact G_sub [5, 6, 7, 2, 1, 0] rfl (ih _ _ _ _ (lpl (so h) hx) K)
            · have h := if_f c30 h
              refine G_goto X (tgt := 134) dX6_swap_124 (by decide) ?_
              obtain ⟨v32, ev32⟩ : ∃ y : Int32, y = l6 + 1 := ⟨_, rfl⟩
              have h := bv_k ev32 h
              refine G_iinc X (q := 7) (v := v32) (lv2 := [(6, .int v32), (8, .double r26), (7, .int v18), (0, .ref (fAd (eF E) 0)), (1, .int l1), (2, .int l2), (3, .int l3), (4, .double l4)]) dX6_swap_134 rfl (by rw [ev32]; rfl) (by decide) rfl ?_
              refine G_goto X (tgt := 58) dX6_swap_137 (by decide) ?_
              exact G_sub [3, 4, 5, 6, 7, 0] rfl (ih _ _ _ _ (lpl (so h) hx) K)
      · have h := if_f c21 h
        obtain ⟨v22, ev22⟩ : ∃ y : Int32, y = l6 + 1 := ⟨_, rfl⟩
        have h := bv_k ev22 h
        refine G_iinc X (q := 6) (v := v22) (lv2 := [(6, .int v22), (7, .int v18), (0, .ref (fAd (eF E) 0)), (1, .int l1), (2, .int l2), (3, .int l3), (4, .double l4)]) dX6_swap_134 rfl (by rw [ev22]; rfl) (by decide) rfl ?_
        refine G_goto X (tgt := 58) dX6_swap_137 (by decide) ?_
        exact G_sub [2, 3, 4, 5, 6, 0] rfl (ih _ _ _ _ (lpl (so h) hx) K)
set_option maxHeartbeats 4000000 in
set_option maxRecDepth 100000 in
theorem b_X6_swap {E : pfE} (X : CX cellsR E cX6_swap RX6 rm_X6_swap 10) (x1 : Int32) (x2 : Int32) (A : St) {out : Int32 × St} (hQ : Reti cellsR E cX6_swap out.1 out.2) (h : f_X6_swap x1 x2 A = some out) : GG cellsR E A 0 [(0, .ref (fAd (eF E) 0)), (1, .int x1), (2, .int x2)] [] := by
  unfold f_X6_swap at h
  refine G_aload_n X dX6_swap_0 rfl 0 rfl ?_
  refine G_iload_n X dX6_swap_1 rfl 1 rfl ?_
  obtain ⟨r1, hz2, h⟩ := cl_k h
  refine G_callV_i X (As := [.int x1]) (rest := []) ok_X6_areItems qw873 0 (eR0 _ _ _) rfl rfl ⟨rfl, rfl, Nat.le_of_ble_eq_true rfl, Nat.le_of_ble_eq_true rfl⟩ (m_X6_areItems X.d hz2) rfl rfl (Nat.le_of_ble_eq_true rfl) dX6_swap_2 ?_
  refine G_ifeq X (tgt := 16) dX6_swap_5 (by decide) (fun c3 => ?_) (fun c3 => ?_)
  · have h := if_t c3 h
    refine G_aload_n X dX6_swap_16 rfl 0 rfl ?_
    refine G_iconst X (v := 0) dX6_swap_17 rfl ?_
    obtain ⟨r4, A6, hz5, h⟩ := cl2_k h
    refine G_callV_i X (As := [.int 0]) (rest := []) ok_X6_finds qw737 0 (eR0 _ _ _) rfl rfl ⟨rfl, rfl, Nat.le_of_ble_eq_true rfl, Nat.le_of_ble_eq_true rfl⟩ (m_X6_finds X.d hz5) rfl rfl (Nat.le_of_ble_eq_true rfl) dX6_swap_18 ?_
    have e := so h
    subst e
    exact hQ _ _ dX6_swap_21
  · have h := if_f c3 h
    refine G_aload_n X dX6_swap_8 rfl 0 rfl ?_
    refine G_iload_n X dX6_swap_9 rfl 2 rfl ?_
    obtain ⟨r7, hz8, h⟩ := cl_k h
    refine G_callV_i X (As := [.int x2]) (rest := []) ok_X6_isItem qw746 0 (eR0 _ _ _) rfl rfl ⟨rfl, rfl, Nat.le_of_ble_eq_true rfl, Nat.le_of_ble_eq_true rfl⟩ (m_X6_isItem X.d hz8) rfl rfl (Nat.le_of_ble_eq_true rfl) dX6_swap_10 ?_
    refine G_ifne X (tgt := 22) dX6_swap_13 (by decide) (fun c9 => ?_) (fun c9 => ?_)
    · have h := if_t c9 h
      refine G_aload_n X dX6_swap_16 rfl 0 rfl ?_
      refine G_iconst X (v := 0) dX6_swap_17 rfl ?_
      obtain ⟨r49, A51, hz50, h⟩ := cl2_k h
      refine G_callV_i X (As := [.int 0]) (rest := []) ok_X6_finds qw737 0 (eR0 _ _ _) rfl rfl ⟨rfl, rfl, Nat.le_of_ble_eq_true rfl, Nat.le_of_ble_eq_true rfl⟩ (m_X6_finds X.d hz50) rfl rfl (Nat.le_of_ble_eq_true rfl) dX6_swap_18 ?_
      have e := so h
      subst e
      exact hQ _ _ dX6_swap_21
    · have h := if_f c9 h
      refine G_aload_n X dX6_swap_22 rfl 0 rfl ?_
      refine G_iload_n X dX6_swap_23 rfl 1 rfl ?_
      obtain ⟨r10, hz11, h⟩ := cl_k h
      refine G_callV_i X (As := [.int x1]) (rest := []) ok_X6_isPaper qw967 0 (eR0 _ _ _) rfl rfl ⟨rfl, rfl, Nat.le_of_ble_eq_true rfl, Nat.le_of_ble_eq_true rfl⟩ (m_X6_isPaper X.d hz11) rfl rfl (Nat.le_of_ble_eq_true rfl) dX6_swap_24 ?_
      refine G_ifne X (tgt := 36) dX6_swap_27 (by decide) (fun c12 => ?_) (fun c12 => ?_)
      · have h := if_t c12 h
        refine G_aload_n X dX6_swap_30 rfl 0 rfl ?_
        refine G_iconst X (v := 4) dX6_swap_31 rfl ?_
        obtain ⟨r46, A48, hz47, h⟩ := cl2_k h
        refine G_callV_i X (As := [.int 4]) (rest := []) ok_X6_finds qw737 0 (eR0 _ _ _) rfl rfl ⟨rfl, rfl, Nat.le_of_ble_eq_true rfl, Nat.le_of_ble_eq_true rfl⟩ (m_X6_finds X.d hz47) rfl rfl (Nat.le_of_ble_eq_true rfl) dX6_swap_32 ?_
        have e := so h
        subst e
        exact hQ _ _ dX6_swap_35
      · have h := if_f c12 h
        refine G_iload_n X dX6_swap_36 rfl 1 rfl ?_
        refine G_iload_n X dX6_swap_37 rfl 2 rfl ?_
        obtain ⟨r13, hz14, h⟩ := cl_k h
        refine G_callS_i X (As := [.int x1, .int x2]) (rest := []) ok_X6_has qw774 ⟨rfl, rfl, Nat.le_of_ble_eq_true rfl, Nat.le_of_ble_eq_true rfl⟩ (m_X6_has X.d hz14) rfl rfl (Nat.le_of_ble_eq_true rfl) dX6_swap_38 ?_
        refine G_ifne X (tgt := 50) dX6_swap_41 (by decide) (fun c15 => ?_) (fun c15 => ?_)
        · have h := if_t c15 h
          refine G_aload_n X dX6_swap_44 rfl 0 rfl ?_
          refine G_iconst X (v := 2) dX6_swap_45 rfl ?_
          obtain ⟨r43, A45, hz44, h⟩ := cl2_k h
          refine G_callV_i X (As := [.int 2]) (rest := []) ok_X6_finds qw737 0 (eR0 _ _ _) rfl rfl ⟨rfl, rfl, Nat.le_of_ble_eq_true rfl, Nat.le_of_ble_eq_true rfl⟩ (m_X6_finds X.d hz44) rfl rfl (Nat.le_of_ble_eq_true rfl) dX6_swap_46 ?_
          have e := so h
          subst e
          exact hQ _ _ dX6_swap_49
        · have h := if_f c15 h
          refine G_iconst X (v := (-1)) dX6_swap_50 rfl ?_
          refine G_istore_n X (lv2 := [(3, .int (-1)), (0, .ref (fAd (eF E) 0)), (1, .int x1), (2, .int x2)]) dX6_swap_51 rfl (by decide) rfl ?_
          refine G_dconst0 X dX6_swap_52 ?_
          refine G_topd (fun v16 ev16 => ?_)
          have h := bv_k ev16 h
          refine G_dstore X (lv2 := [(4, .double v16), (3, .int (-1)), (0, .ref (fAd (eF E) 0)), (1, .int x1), (2, .int x2)]) dX6_swap_53 (by decide) rfl ?_
          refine G_iconst X (v := 0) dX6_swap_55 rfl ?_
          refine G_istore X (lv2 := [(6, .int 0), (4, .double v16), (3, .int (-1)), (0, .ref (fAd (eF E) 0)), (1, .int x1), (2, .int x2)]) dX6_swap_56 (by decide) rfl ?_
          obtain ⟨ρ, hl, h⟩ := cl_k h
          obtain ⟨n, hl⟩ := loop_some hl
          refine G_sub [3, 4, 5, 2, 1, 0] rfl (g_X6_swap_L58 X A x1 x2 n _ _ _ ρ hl ?_)
          intro v34 e
          rw [e] at h
          have h : f_X6_swap_X140 A v34 = some _ := h
          unfold f_X6_swap_X140 at h
          refine G_iload_n X dX6_swap_140 rfl 1 rfl ?_
          refine G_ifge X (tgt := 152) dX6_swap_141 (by decide) (fun c35 => ?_) (fun c35 => ?_)
          · have h := if_t c35 h
            refine G_iload_n X dX6_swap_152 rfl 1 rfl ?_
            have e := so h
            subst e
            exact hQ _ _ dX6_swap_153
          · have h := if_f c35 h
            refine G_aload_n X dX6_swap_144 rfl 0 rfl ?_
            refine G_iconst X (v := 3) dX6_swap_145 rfl ?_
            obtain ⟨r36, A38, hz37, h⟩ := cl2_k h
            refine G_callV_i X (As := [.int 3]) (rest := []) ok_X6_finds qw737 0 (eR0 _ _ _) rfl rfl ⟨rfl, rfl, Nat.le_of_ble_eq_true rfl, Nat.le_of_ble_eq_true rfl⟩ (m_X6_finds X.d hz37) rfl rfl (Nat.le_of_ble_eq_true rfl) dX6_swap_146 ?_
            refine G_goto X (tgt := 153) dX6_swap_149 (by decide) ?_
            have e := so h
            subst e
            exact hQ _ _ dX6_swap_153
theorem m_X6_swap {l : Launch} {F : pfF} (hD : ∀ A, va_D (fA F) (cellsR (fAd F) (fCy F) A)) {x1 : Int32} {x2 : Int32} {A : St} {out : Int32 × St} (h : f_X6_swap x1 x2 A = some out) : Mt l F cellsR yX6_swap cX6_swap 10 (some .int) rm_X6_swap [.ref (fAd F 0), .int x1, .int x2] A (va_Qi (fun (r : Int32) (u : St) => r = out.1 ∧ u = out.2) (Wd cellsR F) (fA F)) := by
  refine Met_i (by decide +kernel) (Nat.le_of_ble_eq_true rfl) hD (fun E el ef X hQ => ?_)
  subst el
  subst ef
  exact b_X6_swap X _ _ _ hQ h
theorem ok_X6_swap : OkV yX6_swap cX6_swap 10 (some .int) 2 := ⟨qw976, qw977, qw6, qw978, by decide, by decide, by decide⟩
noncomputable def f_X6_areForms_L4 (l1 : Int32) (l2 : Int32) (A : St) : Option ((Int32 × Int32 × St) ⊕ (Int32 × St)) :=
  if ((1 : Int32) <<< ((A.1 1 0) &&& 31)) ≤ l2 then
    some (.inr (l1, A))
  else
    cl (f_X6_isPaper l2 A) fun r2 =>
    if (bI r2) = 0 then
      bv (l2 + 1) fun v13 =>
      some (.inl (l1, v13, A))
    else
      gI l1 4096 <|
      bv (upI A 4 l1.toNatClampNeg l2) fun A6 =>
      cl (f_X6_valueOf l2 A6) fun r7 =>
      gI l1 4096 <|
      bv (upD A6 5 l1.toNatClampNeg r7) fun A10 =>
      bv (l1 + 1) fun v11 =>
      bv (l2 + 1) fun v12 =>
      some (.inl (v11, v12, A10))
noncomputable def f_X6_areForms_L73 (l1 : Int32) (l5 : Int32) (l2 : Int32) (l3 : UInt64) (l6 : Int32) (A : St) : Option ((Int32 × UInt64 × Int32 × St) ⊕ (Int32 × UInt64 × St)) :=
  if l1 ≤ l6 then
    some (.inr (l2, l3, A))
  else
    gI l5 4096 <|
    gI l6 4096 <|
    if ((A.1 4 l5.toNatClampNeg) &&& (A.1 4 l6.toNatClampNeg)) = 0 then
      gI l5 4096 <|
      gI l6 4096 <|
      gB (decide (FP.dIsNaN (A.2.1 5 l5.toNatClampNeg) = false ∧ FP.dIsNaN (A.2.1 5 l6.toNatClampNeg) = false)) <|
      bv (Native.java_lang_Math.nans.pick64 false (A.2.1 5 l5.toNatClampNeg) (A.2.1 5 l6.toNatClampNeg)) fun v25 =>
      if l2 = 0 then
        gI l5 4096 <|
        bv (upI A 0 6 (A.1 4 l5.toNatClampNeg)) fun A28 =>
        gI l6 4096 <|
        bv (upI A28 0 7 (A28.1 4 l6.toNatClampNeg)) fun A30 =>
        gI l5 4096 <|
        gI l6 4096 <|
        gB (decide (FP.dIsNaN (A30.2.1 5 l5.toNatClampNeg) = false ∧ FP.dIsNaN (A30.2.1 5 l6.toNatClampNeg) = false)) <|
        bv (Native.java_lang_Math.nans.pick64 true (A30.2.1 5 l5.toNatClampNeg) (A30.2.1 5 l6.toNatClampNeg)) fun v33 =>
        g64 (FP.dsub v33 v25) fun v34 =>
        bv (upD A30 0 8 v34) fun A35 =>
        bv (l6 + 1) fun v36 =>
        some (.inl (1, v25, v36, A35))
      else
        if 0 < (Op.cmpValue (FP.dcmp v25 l3) .g) then
          gI l5 4096 <|
          bv (upI A 0 6 (A.1 4 l5.toNatClampNeg)) fun A39 =>
          gI l6 4096 <|
          bv (upI A39 0 7 (A39.1 4 l6.toNatClampNeg)) fun A41 =>
          gI l5 4096 <|
          gI l6 4096 <|
          gB (decide (FP.dIsNaN (A41.2.1 5 l5.toNatClampNeg) = false ∧ FP.dIsNaN (A41.2.1 5 l6.toNatClampNeg) = false)) <|
          bv (Native.java_lang_Math.nans.pick64 true (A41.2.1 5 l5.toNatClampNeg) (A41.2.1 5 l6.toNatClampNeg)) fun v44 =>
          g64 (FP.dsub v44 v25) fun v45 =>
          bv (upD A41 0 8 v45) fun A46 =>
          bv (l6 + 1) fun v47 =>
          some (.inl (1, v25, v47, A46))
        else
          bv (l6 + 1) fun v48 =>
          some (.inl (l2, l3, v48, A))
    else
      bv (l6 + 1) fun v49 =>
      some (.inl (l2, l3, v49, A))
noncomputable def f_X6_areForms_X190_61 (A : St) (m1 : Int32) (m2 : Int32) (m3 : UInt64) (m5 : Int32) : Option ((Int32 × UInt64 × Int32 × St) ⊕ (Int32 × St)) :=
  bv (m5 + 1) fun v54 =>
  some (.inl (m2, m3, v54, A))
noncomputable def f_X6_areForms_L61 (l1 : Int32) (l2 : Int32) (l3 : UInt64) (l5 : Int32) (A : St) : Option ((Int32 × UInt64 × Int32 × St) ⊕ (Int32 × St)) :=
  if l1 ≤ l5 then
    some (.inr (l2, A))
  else
    bv (l5 + 1) fun v18 =>
    cl (loop (fun s => f_X6_areForms_L73 l1 l5 s.1 s.2.1 s.2.2.1 s.2.2.2) (l2, l3, v18, A)) (fun s => f_X6_areForms_X190_61 s.2.2 l1 s.1 s.2.1 l5)
noncomputable def f_X6_areForms_X196 (A : St) (m2 : Int32) : Option (Bool × St) :=
  gB (decide (m2 = 0 ∨ m2 = 1)) <|
  some (decide (m2 = 1), A)
noncomputable def f_X6_areForms_X54 (A : St) (m1 : Int32) : Option (Bool × St) :=
  bv FP.dconst0 fun v57 =>
  cl (loop (fun s => f_X6_areForms_L61 m1 s.1 s.2.1 s.2.2.1 s.2.2.2) (0, v57, 0, A)) (fun s => f_X6_areForms_X196 s.2 s.1)
noncomputable def f_X6_areForms (A : St) : Option (Bool × St) :=
  cl (loop (fun s => f_X6_areForms_L4 s.1 s.2.1 s.2.2) (0, 0, A)) (fun s => f_X6_areForms_X54 s.2 s.1)
abbrev rm_X6_areForms : Room := { frames := 6, cells := 0, slots := 0, locals := 146 }
set_option maxHeartbeats 4000000 in
set_option maxRecDepth 100000 in
theorem g_X6_areForms_L4 {E : pfE} (X : CX cellsR E cX6_areForms RX6 rm_X6_areForms 9) : ∀ (n : Nat) (l1 : Int32) (l2 : Int32) (A : St) (ρ : Int32 × St), lp (fun s => f_X6_areForms_L4 s.1 s.2.1 s.2.2) n (l1, l2, A) = some ρ → (∀ (q1 : Int32) (B : St), ρ = (q1, B) → GG cellsR E B 54 [(0, .ref (fAd (eF E) 0)), (1, .int q1)] []) → GG cellsR E A 4 [(0, .ref (fAd (eF E) 0)), (1, .int l1), (2, .int l2)] [] := by
  intro n
  induction n with
  | zero =>
    intro l1 l2 A ρ h
    cases h
  | succ n ih =>
    intro l1 l2 A ρ h0 K
    obtain ⟨x, hb, hx⟩ := lp_step h0
    have h : f_X6_areForms_L4 l1 l2 A = some x := hb
    unfold f_X6_areForms_L4 at h
    clear hb h0
    refine G_iload_n X dX6_areForms_4 rfl 2 rfl ?_
    refine G_iconst X (v := 1) dX6_areForms_5 rfl ?_
    refine G_aload_n X dX6_areForms_6 rfl 0 rfl ?_
    refine G_getf X inX6 0 (eR0 _ _ _) rfl 0 (by decide) qw654 rfl dX6_areForms_7 ?_
    refine G_iconst X (v := 0) dX6_areForms_10 rfl ?_
    refine G_iald X (j := 0) 1 (eR1 _ _ _) (vi rfl) rfl dX6_areForms_11 ?_
    refine G_ishl X dX6_areForms_12 ?_
    refine G_icge X (tgt := 54) dX6_areForms_13 (by decide) (fun c1 => ?_) (fun c1 => ?_)
    · have h := if_t c1 h
      exact G_sub [0, 1] rfl (K _ _ (lpr (so h) hx).symm)
    · have h := if_f c1 h
      refine G_aload_n X dX6_areForms_16 rfl 0 rfl ?_
      refine G_iload_n X dX6_areForms_17 rfl 2 rfl ?_
      obtain ⟨r2, hz3, h⟩ := cl_k h
      refine G_callV_i X (As := [.int l2]) (rest := []) ok_X6_isPaper qw967 0 (eR0 _ _ _) rfl rfl ⟨rfl, rfl, Nat.le_of_ble_eq_true rfl, Nat.le_of_ble_eq_true rfl⟩ (m_X6_isPaper X.d hz3) rfl rfl (Nat.le_of_ble_eq_true rfl) dX6_areForms_18 ?_
      refine G_ifne X (tgt := 27) dX6_areForms_21 (by decide) (fun c4 => ?_) (fun c4 => ?_)
      · have h := if_t c4 h
        refine G_goto X (tgt := 48) dX6_areForms_24 (by decide) ?_
        obtain ⟨v13, ev13⟩ : ∃ y : Int32, y = l2 + 1 := ⟨_, rfl⟩
        have h := bv_k ev13 h
        refine G_iinc X (q := 2) (v := v13) (lv2 := [(2, .int v13), (0, .ref (fAd (eF E) 0)), (1, .int l1)]) dX6_areForms_48 rfl (by rw [ev13]; rfl) (by decide) rfl ?_
        refine G_goto X (tgt := 4) dX6_areForms_51 (by decide) ?_
        exact G_sub [1, 2, 0] rfl (ih _ _ _ _ (lpl (so h) hx) K)
      · have h := if_f c4 h
        refine G_aload_n X dX6_areForms_27 rfl 0 rfl ?_
        refine G_getf X inX6 0 (eR0 _ _ _) rfl 4 (by decide) qw658 rfl dX6_areForms_28 ?_
        refine G_iload_n X dX6_areForms_31 rfl 1 rfl ?_
        refine G_iload_n X dX6_areForms_32 rfl 2 rfl ?_
        have hi5 := gI_n h
        have h := gI_k h
        refine G_iast X (j := l1.toNatClampNeg) 4 (eR4 _ _ _) (sRI _ _ _ _ l1.toNatClampNeg _ _ (fun _ => rfl)) hi5 rfl dX6_areForms_33 ?_
        refine G_topS (fun A6 eA6 => ?_)
        have h := bv_k eA6 h
        refine G_aload_n X dX6_areForms_34 rfl 0 rfl ?_
        refine G_getf X inX6 0 (eR0 _ _ _) rfl 5 (by decide) qw659 rfl dX6_areForms_35 ?_
        refine G_iload_n X dX6_areForms_38 rfl 1 rfl ?_
        refine G_aload_n X dX6_areForms_39 rfl 0 rfl ?_
        refine G_iload_n X dX6_areForms_40 rfl 2 rfl ?_
        obtain ⟨r7, hz8, h⟩ := cl_k h
        refine G_callV_d X (As := [.int l2]) (rest := [.int l1, .ref (fAd (eF E) 5)]) ok_X6_valueOf qw877 0 (eR0 _ _ _) rfl rfl ⟨rfl, rfl, Nat.le_of_ble_eq_true rfl, Nat.le_of_ble_eq_true rfl⟩ (m_X6_valueOf X.d hz8) rfl rfl (Nat.le_of_ble_eq_true rfl) dX6_areForms_41 ?_
        have hi9 := gI_n h
        have h := gI_k h
        refine G_dast X (j := l1.toNatClampNeg) 5 (eR5 _ _ _) (sRD _ _ _ _ l1.toNatClampNeg _ _ (fun _ => rfl)) hi9 rfl dX6_areForms_44 ?_
        refine G_topS (fun A10 eA10 => ?_)
        have h := bv_k eA10 h
        obtain ⟨v11, ev11⟩ : ∃ y : Int32, y = l1 + 1 := ⟨_, rfl⟩
        have h := bv_k ev11 h
        refine G_iinc X (q := 1) (v := v11) (lv2 := [(1, .int v11), (0, .ref (fAd (eF E) 0)), (2, .int l2)]) dX6_areForms_45 rfl (by rw [ev11]; rfl) (by decide) rfl ?_
        obtain ⟨v12, ev12⟩ : ∃ y : Int32, y = l2 + 1 := ⟨_, rfl⟩
        have h := bv_k ev12 h
        refine G_iinc X (q := 2) (v := v12) (lv2 := [(2, .int v12), (1, .int v11), (0, .ref (fAd (eF E) 0))]) dX6_areForms_48 rfl (by rw [ev12]; rfl) (by decide) rfl ?_
        refine G_goto X (tgt := 4) dX6_areForms_51 (by decide) ?_
        exact G_sub [2, 1, 0] rfl (ih _ _ _ _ (lpl (so h) hx) K)
set_option maxHeartbeats 4000000 in
set_option maxRecDepth 100000 in
theorem g_X6_areForms_L73 {E : pfE} (X : CX cellsR E cX6_areForms RX6 rm_X6_areForms 9) (l1 : Int32) (l5 : Int32) : ∀ (n : Nat) (l2 : Int32) (l3 : UInt64) (l6 : Int32) (A : St) (ρ : Int32 × UInt64 × St), lp (fun s => f_X6_areForms_L73 l1 l5 s.1 s.2.1 s.2.2.1 s.2.2.2) n (l2, l3, l6, A) = some ρ → (∀ (q2 : Int32) (q3 : UInt64) (B : St), ρ = (q2, q3, B) → GG cellsR E B 190 [(0, .ref (fAd (eF E) 0)), (1, .int l1), (2, .int q2), (3, .double q3), (5, .int l5)] []) → GG cellsR E A 73 [(0, .ref (fAd (eF E) 0)), (1, .int l1), (2, .int l2), (3, .double l3), (5, .int l5), (6, .int l6)] [] := by
  intro n
  induction n with
  | zero =>
    intro l2 l3 l6 A ρ h
    cases h
  | succ n ih =>
    intro l2 l3 l6 A ρ h0 K
    obtain ⟨x, hb, hx⟩ := lp_step h0
    have h : f_X6_areForms_L73 l1 l5 l2 l3 l6 A = some x := hb
    unfold f_X6_areForms_L73 at h
    clear hb h0
    refine G_iload X dX6_areForms_73 5 rfl ?_
    refine G_iload_n X dX6_areForms_75 rfl 1 rfl ?_
    refine G_icge X (tgt := 190) dX6_areForms_76 (by decide) (fun c19 => ?_) (fun c19 => ?_)
    · have h := if_t c19 h
      exact G_sub [0, 1, 2, 3, 4] rfl (K _ _ _ (lpr (so h) hx).symm)
    · have h := if_f c19 h
      refine G_aload_n X dX6_areForms_79 rfl 0 rfl ?_
      refine G_getf X inX6 0 (eR0 _ _ _) rfl 4 (by decide) qw658 rfl dX6_areForms_80 ?_
      refine G_iload X dX6_areForms_83 4 rfl ?_
      have hi20 := gI_n h
      have h := gI_k h
      refine G_iald X (j := l5.toNatClampNeg) 4 (eR4 _ _ _) hi20 rfl dX6_areForms_85 ?_
      refine G_aload_n X dX6_areForms_86 rfl 0 rfl ?_
      refine G_getf X inX6 0 (eR0 _ _ _) rfl 4 (by decide) qw658 rfl dX6_areForms_87 ?_
      refine G_iload X dX6_areForms_90 5 rfl ?_
      have hi21 := gI_n h
      have h := gI_k h
      refine G_iald X (j := l6.toNatClampNeg) 4 (eR4 _ _ _) hi21 rfl dX6_areForms_92 ?_
      refine G_iand X dX6_areForms_93 ?_
      refine G_ifeq X (tgt := 100) dX6_areForms_94 (by decide) (fun c22 => ?_) (fun c22 => ?_)
      · have h := if_t c22 h
        refine G_aload_n X dX6_areForms_100 rfl 0 rfl ?_
        refine G_getf X inX6 0 (eR0 _ _ _) rfl 5 (by decide) qw659 rfl dX6_areForms_101 ?_
        refine G_iload X dX6_areForms_104 4 rfl ?_
        have hi23 := gI_n h
        have h := gI_k h
        refine G_dald X (j := l5.toNatClampNeg) 5 (eR5 _ _ _) hi23 rfl dX6_areForms_106 ?_
        refine G_aload_n X dX6_areForms_107 rfl 0 rfl ?_
        refine G_getf X inX6 0 (eR0 _ _ _) rfl 5 (by decide) qw659 rfl dX6_areForms_108 ?_
        refine G_iload X dX6_areForms_111 5 rfl ?_
        have hi24 := gI_n h
        have h := gI_k h
        refine G_dald X (j := l6.toNatClampNeg) 5 (eR5 _ _ _) hi24 rfl dX6_areForms_113 ?_
        have hv25 := of_decide_eq_true (gB_n h)
        have h := gB_k h
        refine G_minD X ok_J9_min_eb370 qw987 hv25 (Nat.le_of_ble_eq_true rfl) (Nat.le_of_ble_eq_true rfl) dX6_areForms_114 ?_
        refine G_topd (fun v25 ev25 => ?_)
        have h := bv_k ev25 h
        refine G_dstore X (lv2 := [(7, .double v25), (0, .ref (fAd (eF E) 0)), (1, .int l1), (2, .int l2), (3, .double l3), (5, .int l5), (6, .int l6)]) dX6_areForms_117 (by decide) rfl ?_
        refine G_iload_n X dX6_areForms_119 rfl 3 rfl ?_
        refine G_ifeq X (tgt := 133) dX6_areForms_120 (by decide) (fun c26 => ?_) (fun c26 => ?_)
        · have h := if_t c26 h
          refine G_iconst X (v := 1) dX6_areForms_133 rfl ?_
          refine G_istore_n X (lv2 := [(2, .int 1), (7, .double v25), (0, .ref (fAd (eF E) 0)), (1, .int l1), (3, .double l3), (5, .int l5), (6, .int l6)]) dX6_areForms_134 rfl (by decide) rfl ?_
          refine G_dload X dX6_areForms_135 1 rfl ?_
          refine G_dstore_n X (lv2 := [(3, .double v25), (2, .int 1), (7, .double v25), (0, .ref (fAd (eF E) 0)), (1, .int l1), (5, .int l5), (6, .int l6)]) dX6_areForms_137 rfl (by decide) rfl ?_
          refine G_aload_n X dX6_areForms_138 rfl 3 rfl ?_
          refine G_aload_n X dX6_areForms_139 rfl 3 rfl ?_
          refine G_getf X inX6 0 (eR0 _ _ _) rfl 4 (by decide) qw658 rfl dX6_areForms_140 ?_
          refine G_iload X dX6_areForms_143 5 rfl ?_
          have hi27 := gI_n h
          have h := gI_k h
          refine G_iald X (j := l5.toNatClampNeg) 4 (eR4 _ _ _) hi27 rfl dX6_areForms_145 ?_
          refine G_putf X (ty := .int) tyX6 tyX6_ok nmX6 inX6 0 (eR0 _ _ _) rfl 6 (by decide) qw660 rfl (by decide +kernel) rfl rfl (Nat.le_of_ble_eq_true rfl) (oRI _ _ _ _ 6 (A.1 4 l5.toNatClampNeg) _ rfl) dX6_areForms_146 ?_
          refine G_topS (fun A28 eA28 => ?_)
          have h := bv_k eA28 h
          refine G_aload_n X dX6_areForms_149 rfl 3 rfl ?_
          refine G_aload_n X dX6_areForms_150 rfl 3 rfl ?_
          refine G_getf X inX6 0 (eR0 _ _ _) rfl 4 (by decide) qw658 rfl dX6_areForms_151 ?_
          refine G_iload X dX6_areForms_154 6 rfl ?_
          have hi29 := gI_n h
          have h := gI_k h
          refine G_iald X (j := l6.toNatClampNeg) 4 (eR4 _ _ _) hi29 rfl dX6_areForms_156 ?_
          refine G_putf X (ty := .int) tyX6 tyX6_ok nmX6 inX6 0 (eR0 _ _ _) rfl 7 (by decide) qw661 rfl (by decide +kernel) rfl rfl (Nat.le_of_ble_eq_true rfl) (oRI _ _ _ _ 7 (A28.1 4 l6.toNatClampNeg) _ rfl) dX6_areForms_157 ?_
          refine G_topS (fun A30 eA30 => ?_)
          have h := bv_k eA30 h
          refine G_aload_n X dX6_areForms_160 rfl 3 rfl ?_
          refine G_aload_n X dX6_areForms_161 rfl 3 rfl ?_
          refine G_getf X inX6 0 (eR0 _ _ _) rfl 5 (by decide) qw659 rfl dX6_areForms_162 ?_
          refine G_iload X dX6_areForms_165 5 rfl ?_
          have hi31 := gI_n h
          have h := gI_k h
          refine G_dald X (j := l5.toNatClampNeg) 5 (eR5 _ _ _) hi31 rfl dX6_areForms_167 ?_
          refine G_aload_n X dX6_areForms_168 rfl 3 rfl ?_
          refine G_getf X inX6 0 (eR0 _ _ _) rfl 5 (by decide) qw659 rfl dX6_areForms_169 ?_
          refine G_iload X dX6_areForms_172 6 rfl ?_
          have hi32 := gI_n h
          have h := gI_k h
          refine G_dald X (j := l6.toNatClampNeg) 5 (eR5 _ _ _) hi32 rfl dX6_areForms_174 ?_
          have hv33 := of_decide_eq_true (gB_n h)
          have h := gB_k h
          refine G_maxD X ok_J9_max_eb370 qw992 hv33 (Nat.le_of_ble_eq_true rfl) (Nat.le_of_ble_eq_true rfl) dX6_areForms_175 ?_
          refine G_topd (fun v33 ev33 => ?_)
          have h := bv_k ev33 h
          refine G_dload X dX6_areForms_178 2 rfl ?_
          have hv34 := g64_n h
          refine G_dsub X dX6_areForms_180 hv34 ?_
          refine G_topd (fun v34 ev34 => ?_)
          have h := g64_k ev34 h
          refine G_putf X (ty := .double) tyX6 tyX6_ok nmX6 inX6 0 (eR0 _ _ _) rfl 8 (by decide) qw662 rfl (by decide +kernel) rfl rfl (Nat.le_of_ble_eq_true rfl) (oRD _ _ _ _ 8 v34 _ rfl) dX6_areForms_181 ?_
          refine G_topS (fun A35 eA35 => ?_)
          have h := bv_k eA35 h
          obtain ⟨v36, ev36⟩ : ∃ y : Int32, y = l6 + 1 := ⟨_, rfl⟩
          have h := bv_k ev36 h
          refine G_iinc X (q := 6) (v := v36) (lv2 := [(6, .int v36), (3, .double v25), (2, .int 1), (7, .double v25), (0, .ref (fAd (eF E) 0)), (1, .int l1), (5, .int l5)]) dX6_areForms_184 rfl (by rw [ev36]; rfl) (by decide) rfl ?_
          refine G_goto X (tgt := 73) dX6_areForms_187 (by decide) ?_
          exact G_sub [4, 5, 2, 1, 6, 0] rfl (ih _ _ _ _ _ (lpl (so h) hx) K)
        · have h := if_f c26 h
          refine G_dload X dX6_areForms_123 0 rfl ?_
          refine G_dload_n X dX6_areForms_125 rfl 4 rfl ?_
          refine G_dcmp X dX6_areForms_126 ?_
          refine G_ifgt X (tgt := 133) dX6_areForms_127 (by decide) (fun c37 => ?_) (fun c37 => ?_)
          · have h := if_t c37 h
            refine G_iconst X (v := 1) dX6_areForms_133 rfl ?_
            refine G_istore_n X (lv2 := [(2, .int 1), (7, .double v25), (0, .ref (fAd (eF E) 0)), (1, .int l1), (3, .double l3), (5, .int l5), (6, .int l6)]) dX6_areForms_134 rfl (by decide) rfl ?_
            refine G_dload X dX6_areForms_135 1 rfl ?_
            refine G_dstore_n X (lv2 := [(3, .double v25), (2, .int 1), (7, .double v25), (0, .ref (fAd (eF E) 0)), (1, .int l1), (5, .int l5), (6, .int l6)]) dX6_areForms_137 rfl (by decide) rfl ?_
            refine G_aload_n X dX6_areForms_138 rfl 3 rfl ?_
            refine G_aload_n X dX6_areForms_139 rfl 3 rfl ?_
            refine G_getf X inX6 0 (eR0 _ _ _) rfl 4 (by decide) qw658 rfl dX6_areForms_140 ?_
            refine G_iload X dX6_areForms_143 5 rfl ?_
            have hi38 := gI_n h
            have h := gI_k h
            refine G_iald X (j := l5.toNatClampNeg) 4 (eR4 _ _ _) hi38 rfl dX6_areForms_145 ?_
            refine G_putf X (ty := .int) tyX6 tyX6_ok nmX6 inX6 0 (eR0 _ _ _) rfl 6 (by decide) qw660 rfl (by decide +kernel) rfl rfl (Nat.le_of_ble_eq_true rfl) (oRI _ _ _ _ 6 (A.1 4 l5.toNatClampNeg) _ rfl) dX6_areForms_146 ?_
            refine G_topS (fun A39 eA39 => ?_)
            have h := bv_k eA39 h
            refine G_aload_n X dX6_areForms_149 rfl 3 rfl ?_
            refine G_aload_n X dX6_areForms_150 rfl 3 rfl ?_
            refine G_getf X inX6 0 (eR0 _ _ _) rfl 4 (by decide) qw658 rfl dX6_areForms_151 ?_
            refine G_iload X dX6_areForms_154 6 rfl ?_
            have hi40 := gI_n h
            have h := gI_k h
            refine G_iald X (j := l6.toNatClampNeg) 4 (eR4 _ _ _) hi40 rfl dX6_areForms_156 ?_
            refine G_putf X (ty := .int) tyX6 tyX6_ok nmX6 inX6 0 (eR0 _ _ _) rfl 7 (by decide) qw661 rfl (by decide +kernel) rfl rfl (Nat.le_of_ble_eq_true rfl) (oRI _ _ _ _ 7 (A39.1 4 l6.toNatClampNeg) _ rfl) dX6_areForms_157 ?_
            refine G_topS (fun A41 eA41 => ?_)
            have h := bv_k eA41 h
            refine G_aload_n X dX6_areForms_160 rfl 3 rfl ?_
            refine G_aload_n X dX6_areForms_161 rfl 3 rfl ?_
            refine G_getf X inX6 0 (eR0 _ _ _) rfl 5 (by decide) qw659 rfl dX6_areForms_162 ?_
            refine G_iload X dX6_areForms_165 5 rfl ?_
            have hi42 := gI_n h
            have h := gI_k h
            refine G_dald X (j := l5.toNatClampNeg) 5 (eR5 _ _ _) hi42 rfl dX6_areForms_167 ?_
            refine G_aload_n X dX6_areForms_168 rfl 3 rfl ?_
            refine G_getf X inX6 0 (eR0 _ _ _) rfl 5 (by decide) qw659 rfl dX6_areForms_169 ?_
            refine G_iload X dX6_areForms_172 6 rfl ?_
            have hi43 := gI_n h
            have h := gI_k h
            refine G_dald X (j := l6.toNatClampNeg) 5 (eR5 _ _ _) hi43 rfl dX6_areForms_174 ?_
            have hv44 := of_decide_eq_true (gB_n h)
            have h := gB_k h
            refine G_maxD X ok_J9_max_eb370 qw992 hv44 (Nat.le_of_ble_eq_true rfl) (Nat.le_of_ble_eq_true rfl) dX6_areForms_175 ?_
            refine G_topd (fun v44 ev44 => ?_)
            have h := bv_k ev44 h
            refine G_dload X dX6_areForms_178 2 rfl ?_
            have hv45 := g64_n h
            refine G_dsub X dX6_areForms_180 hv45 ?_
            refine G_topd (fun v45 ev45 => ?_)
            have h := g64_k ev45 h
            refine G_putf X (ty := .double) tyX6 tyX6_ok nmX6 inX6 0 (eR0 _ _ _) rfl 8 (by decide) qw662 rfl (by decide +kernel) rfl rfl (Nat.le_of_ble_eq_true rfl) (oRD _ _ _ _ 8 v45 _ rfl) dX6_areForms_181 ?_
            refine G_topS (fun A46 eA46 => ?_)
            have h := bv_k eA46 h
            obtain ⟨v47, ev47⟩ : ∃ y : Int32, y = l6 + 1 := ⟨_, rfl⟩
            have h := bv_k ev47 h
            refine G_iinc X (q := 6) (v := v47) (lv2 := [(6, .int v47), (3, .double v25), (2, .int 1), (7, .double v25), (0, .ref (fAd (eF E) 0)), (1, .int l1), (5, .int l5)]) dX6_areForms_184 rfl (by rw [ev47]; rfl) (by decide) rfl ?_
            refine G_goto X (tgt := 73) dX6_areForms_187 (by decide) ?_
            exact G_sub [4, 5, 2, 1, 6, 0] rfl (ih _ _ _ _ _ (lpl (so h) hx) K)
          · have h := if_f c37 h
            refine G_goto X (tgt := 184) dX6_areForms_130 (by decide) ?_
            obtain ⟨v48, ev48⟩ : ∃ y : Int32, y = l6 + 1 := ⟨_, rfl⟩
            have h := bv_k ev48 h
            refine G_iinc X (q := 6) (v := v48) (lv2 := [(6, .int v48), (7, .double v25), (0, .ref (fAd (eF E) 0)), (1, .int l1), (2, .int l2), (3, .double l3), (5, .int l5)]) dX6_areForms_184 rfl (by rw [ev48]; rfl) (by decide) rfl ?_
            refine G_goto X (tgt := 73) dX6_areForms_187 (by decide) ?_
            exact G_sub [2, 3, 4, 5, 6, 0] rfl (ih _ _ _ _ _ (lpl (so h) hx) K)
      · have h := if_f c22 h
        refine G_goto X (tgt := 184) dX6_areForms_97 (by decide) ?_
        obtain ⟨v49, ev49⟩ : ∃ y : Int32, y = l6 + 1 := ⟨_, rfl⟩
        have h := bv_k ev49 h
        refine G_iinc X (q := 5) (v := v49) (lv2 := [(6, .int v49), (0, .ref (fAd (eF E) 0)), (1, .int l1), (2, .int l2), (3, .double l3), (5, .int l5)]) dX6_areForms_184 rfl (by rw [ev49]; rfl) (by decide) rfl ?_
        refine G_goto X (tgt := 73) dX6_areForms_187 (by decide) ?_
        exact G_sub [1, 2, 3, 4, 5, 0] rfl (ih _ _ _ _ _ (lpl (so h) hx) K)
set_option maxHeartbeats 4000000 in
set_option maxRecDepth 100000 in
theorem g_X6_areForms_L61 {E : pfE} (X : CX cellsR E cX6_areForms RX6 rm_X6_areForms 9) (l1 : Int32) : ∀ (n : Nat) (l2 : Int32) (l3 : UInt64) (l5 : Int32) (A : St) (ρ : Int32 × St), lp (fun s => f_X6_areForms_L61 l1 s.1 s.2.1 s.2.2.1 s.2.2.2) n (l2, l3, l5, A) = some ρ → (∀ (q2 : Int32) (B : St), ρ = (q2, B) → GG cellsR E B 196 [(2, .int q2)] []) → GG cellsR E A 61 [(0, .ref (fAd (eF E) 0)), (1, .int l1), (2, .int l2), (3, .double l3), (5, .int l5)] [] := by
  intro n
  induction n with
  | zero =>
    intro l2 l3 l5 A ρ h
    cases h
  | succ n ih =>
    intro l2 l3 l5 A ρ h0 K
    obtain ⟨x, hb, hx⟩ := lp_step h0
    have h : f_X6_areForms_L61 l1 l2 l3 l5 A = some x := hb
    unfold f_X6_areForms_L61 at h
    clear hb h0
    refine G_iload X dX6_areForms_61 4 rfl ?_
    refine G_iload_n X dX6_areForms_63 rfl 1 rfl ?_
    refine G_icge X (tgt := 196) dX6_areForms_64 (by decide) (fun c17 => ?_) (fun c17 => ?_)
    · have h := if_t c17 h
      exact G_sub [2] rfl (K _ _ (lpr (so h) hx).symm)
    · have h := if_f c17 h
      refine G_iload X dX6_areForms_67 4 rfl ?_
      refine G_iconst X (v := 1) dX6_areForms_69 rfl ?_
      refine G_iadd X dX6_areForms_70 ?_
      refine G_topi (fun v18 ev18 => ?_)
      have h := bv_k ev18 h
      refine G_istore X (lv2 := [(6, .int v18), (0, .ref (fAd (eF E) 0)), (1, .int l1), (2, .int l2), (3, .double l3), (5, .int l5)]) dX6_areForms_71 (by decide) rfl ?_
      obtain ⟨ρ, hl, h⟩ := cl_k h
      obtain ⟨n, hl⟩ := loop_some hl
      refine G_sub [1, 2, 3, 4, 5, 0] rfl (g_X6_areForms_L73 X l1 l5 n _ _ _ _ ρ hl ?_)
      intro v50 v51 A52 e
      subst e
      have h : f_X6_areForms_X190_61 A52 l1 v50 v51 l5 = some _ := h
      unfold f_X6_areForms_X190_61 at h
      obtain ⟨v53, ev53⟩ : ∃ y : Int32, y = l5 + 1 := ⟨_, rfl⟩
      have h := bv_k ev53 h
      refine G_iinc X (q := 4) (v := v53) (lv2 := [(5, .int v53), (0, .ref (fAd (eF E) 0)), (1, .int l1), (2, .int v50), (3, .double v51)]) dX6_areForms_190 rfl (by rw [ev53]; rfl) (by decide) rfl ?_
      refine G_goto X (tgt := 61) dX6_areForms_193 (by decide) ?_
      exact G_sub [1, 2, 3, 4, 0] rfl (ih _ _ _ _ _ (lpl (so h) hx) K)
set_option maxHeartbeats 4000000 in
set_option maxRecDepth 100000 in
theorem b_X6_areForms {E : pfE} (X : CX cellsR E cX6_areForms RX6 rm_X6_areForms 9) (A : St) {out : Bool × St} (hQ : Reti cellsR E cX6_areForms (bI out.1) out.2) (h : f_X6_areForms A = some out) : GG cellsR E A 0 [(0, .ref (fAd (eF E) 0))] [] := by
  unfold f_X6_areForms at h
  refine G_iconst X (v := 0) dX6_areForms_0 rfl ?_
  refine G_istore_n X (lv2 := [(1, .int 0), (0, .ref (fAd (eF E) 0))]) dX6_areForms_1 rfl (by decide) rfl ?_
  refine G_iconst X (v := 0) dX6_areForms_2 rfl ?_
  refine G_istore_n X (lv2 := [(2, .int 0), (1, .int 0), (0, .ref (fAd (eF E) 0))]) dX6_areForms_3 rfl (by decide) rfl ?_
  obtain ⟨ρ, hl, h⟩ := cl_k h
  obtain ⟨n, hl⟩ := loop_some hl
  refine G_sub [2, 1, 0] rfl (g_X6_areForms_L4 X n _ _ _ ρ hl ?_)
  intro v14 A15 e
  subst e
  have h : f_X6_areForms_X54 A15 v14 = some _ := h
  unfold f_X6_areForms_X54 at h
  refine G_iconst X (v := 0) dX6_areForms_54 rfl ?_
  refine G_istore_n X (lv2 := [(2, .int 0), (0, .ref (fAd (eF E) 0)), (1, .int v14)]) dX6_areForms_55 rfl (by decide) rfl ?_
  refine G_dconst0 X dX6_areForms_56 ?_
  refine G_topd (fun v16 ev16 => ?_)
  have h := bv_k ev16 h
  refine G_dstore_n X (lv2 := [(3, .double v16), (2, .int 0), (0, .ref (fAd (eF E) 0)), (1, .int v14)]) dX6_areForms_57 rfl (by decide) rfl ?_
  refine G_iconst X (v := 0) dX6_areForms_58 rfl ?_
  refine G_istore X (lv2 := [(5, .int 0), (3, .double v16), (2, .int 0), (0, .ref (fAd (eF E) 0)), (1, .int v14)]) dX6_areForms_59 (by decide) rfl ?_
  obtain ⟨ρ, hl, h⟩ := cl_k h
  obtain ⟨n, hl⟩ := loop_some hl
  refine G_sub [3, 4, 2, 1, 0] rfl (g_X6_areForms_L61 X v14 n _ _ _ _ ρ hl ?_)
  intro v55 A56 e
  subst e
  have h : f_X6_areForms_X196 A56 v55 = some _ := h
  unfold f_X6_areForms_X196 at h
  refine G_iload_n X dX6_areForms_196 rfl 0 rfl ?_
  have hb9 := of_decide_eq_true (gB_n h)
  have h := gB_k h
  refine G_eqi (isb_e hb9) ?_
  have e := so h
  subst e
  exact hQ _ _ dX6_areForms_197
theorem m_X6_areForms {l : Launch} {F : pfF} (hD : ∀ A, va_D (fA F) (cellsR (fAd F) (fCy F) A)) {A : St} {out : Bool × St} (h : f_X6_areForms A = some out) : Mt l F cellsR yX6_areForms cX6_areForms 9 (some .boolean) rm_X6_areForms [.ref (fAd F 0)] A (va_Qi (fun (r : Int32) (u : St) => r = bI out.1 ∧ u = out.2) (Wd cellsR F) (fA F)) := by
  refine Met_iz (by decide +kernel) (Nat.le_of_ble_eq_true rfl) hD (nar_bI _) (fun E el ef X hQ => ?_)
  subst el
  subst ef
  exact b_X6_areForms X _ hQ h
theorem ok_X6_areForms : OkV yX6_areForms cX6_areForms 9 (some .boolean) 0 := ⟨qw985, qs29, qw6, qw986, by decide, by decide, by decide⟩
noncomputable def f_X6_forms (x1 : Int32) (A : St) : Option (Int32 × St) :=
  cl (f_X6_in x1.toInt64 0 1) fun r1 =>
  if (bI r1) = 0 then
    cl2 (f_X6_finds 0 A) fun r12 A14 =>
    some (r12, A14)
  else
    cl2 (f_X6_areForms A) fun r4 A6 =>
    if (bI r4) = 0 then
      cl2 (f_X6_finds 3 A6) fun r9 A11 =>
      some (r9, A11)
    else
      if x1 = 0 then
        some (A6.1 0 6, A6)
      else
        some (A6.1 0 7, A6)
abbrev rm_X6_forms : Room := { frames := 7, cells := 0, slots := 0, locals := 174 }
set_option maxHeartbeats 4000000 in
set_option maxRecDepth 100000 in
theorem b_X6_forms {E : pfE} (X : CX cellsR E cX6_forms RX6 rm_X6_forms 2) (x1 : Int32) (A : St) {out : Int32 × St} (hQ : Reti cellsR E cX6_forms out.1 out.2) (h : f_X6_forms x1 A = some out) : GG cellsR E A 0 [(0, .ref (fAd (eF E) 0)), (1, .int x1)] [] := by
  unfold f_X6_forms at h
  refine G_iload_n X dX6_forms_0 rfl 1 rfl ?_
  refine G_i2l X dX6_forms_1 rfl ?_
  refine G_lconst X (v := 0) dX6_forms_2 rfl ?_
  refine G_lconst X (v := 1) dX6_forms_3 rfl ?_
  obtain ⟨r1, hz2, h⟩ := cl_k h
  refine G_callS_i X (As := [.long x1.toInt64, .long 0, .long 1]) (rest := []) ok_X6_in qw727 ⟨rfl, rfl, Nat.le_of_ble_eq_true rfl, Nat.le_of_ble_eq_true rfl⟩ (m_X6_in X.d hz2) rfl rfl (Nat.le_of_ble_eq_true rfl) dX6_forms_4 ?_
  refine G_ifne X (tgt := 16) dX6_forms_7 (by decide) (fun c3 => ?_) (fun c3 => ?_)
  · have h := if_t c3 h
    refine G_aload_n X dX6_forms_10 rfl 0 rfl ?_
    refine G_iconst X (v := 0) dX6_forms_11 rfl ?_
    obtain ⟨r12, A14, hz13, h⟩ := cl2_k h
    refine G_callV_i X (As := [.int 0]) (rest := []) ok_X6_finds qw737 0 (eR0 _ _ _) rfl rfl ⟨rfl, rfl, Nat.le_of_ble_eq_true rfl, Nat.le_of_ble_eq_true rfl⟩ (m_X6_finds X.d hz13) rfl rfl (Nat.le_of_ble_eq_true rfl) dX6_forms_12 ?_
    have e := so h
    subst e
    exact hQ _ _ dX6_forms_15
  · have h := if_f c3 h
    refine G_aload_n X dX6_forms_16 rfl 0 rfl ?_
    obtain ⟨r4, A6, hz5, h⟩ := cl2_k h
    refine G_callV_i X (As := []) (rest := []) ok_X6_areForms qw983 0 (eR0 _ _ _) rfl rfl ⟨rfl, rfl, Nat.le_of_ble_eq_true rfl, Nat.le_of_ble_eq_true rfl⟩ (m_X6_areForms X.d hz5) rfl rfl (Nat.le_of_ble_eq_true rfl) dX6_forms_17 ?_
    refine G_ifne X (tgt := 29) dX6_forms_20 (by decide) (fun c7 => ?_) (fun c7 => ?_)
    · have h := if_t c7 h
      refine G_aload_n X dX6_forms_23 rfl 0 rfl ?_
      refine G_iconst X (v := 3) dX6_forms_24 rfl ?_
      obtain ⟨r9, A11, hz10, h⟩ := cl2_k h
      refine G_callV_i X (As := [.int 3]) (rest := []) ok_X6_finds qw737 0 (eR0 _ _ _) rfl rfl ⟨rfl, rfl, Nat.le_of_ble_eq_true rfl, Nat.le_of_ble_eq_true rfl⟩ (m_X6_finds X.d hz10) rfl rfl (Nat.le_of_ble_eq_true rfl) dX6_forms_25 ?_
      have e := so h
      subst e
      exact hQ _ _ dX6_forms_28
    · have h := if_f c7 h
      refine G_iload_n X dX6_forms_29 rfl 1 rfl ?_
      refine G_ifne X (tgt := 40) dX6_forms_30 (by decide) (fun c8 => ?_) (fun c8 => ?_)
      · have h := if_t c8 h
        refine G_aload_n X dX6_forms_33 rfl 0 rfl ?_
        refine G_getf X inX6 0 (eR0 _ _ _) rfl 6 (by decide) qw660 rfl dX6_forms_34 ?_
        refine G_goto X (tgt := 44) dX6_forms_37 (by decide) ?_
        have e := so h
        subst e
        exact hQ _ _ dX6_forms_44
      · have h := if_f c8 h
        refine G_aload_n X dX6_forms_40 rfl 0 rfl ?_
        refine G_getf X inX6 0 (eR0 _ _ _) rfl 7 (by decide) qw661 rfl dX6_forms_41 ?_
        have e := so h
        subst e
        exact hQ _ _ dX6_forms_44
theorem m_X6_forms {l : Launch} {F : pfF} (hD : ∀ A, va_D (fA F) (cellsR (fAd F) (fCy F) A)) {x1 : Int32} {A : St} {out : Int32 × St} (h : f_X6_forms x1 A = some out) : Mt l F cellsR yX6_forms cX6_forms 2 (some .int) rm_X6_forms [.ref (fAd F 0), .int x1] A (va_Qi (fun (r : Int32) (u : St) => r = out.1 ∧ u = out.2) (Wd cellsR F) (fA F)) := by
  refine Met_i (by decide +kernel) (Nat.le_of_ble_eq_true rfl) hD (fun E el ef X hQ => ?_)
  subst el
  subst ef
  exact b_X6_forms X _ _ hQ h
theorem ok_X6_forms : OkV yX6_forms cX6_forms 2 (some .int) 1 := ⟨qw980, qw981, qw6, qw982, by decide, by decide, by decide⟩
noncomputable def f_X6_gap (A : St) : Option (Int64 × St) :=
  cl2 (f_X6_areForms A) fun r1 A3 =>
  if (bI r1) = 0 then
    cl2 (f_X6_findsLong 3 A3) fun r5 A7 =>
    some (r5, A7)
  else
    cl (f_Jxe99ae_doubleToLongBits_ccdee (A3.2.1 0 8)) fun r8 =>
    some (r8, A3)
abbrev rm_X6_gap : Room := { frames := 7, cells := 0, slots := 0, locals := 174 }
set_option maxHeartbeats 4000000 in
set_option maxRecDepth 100000 in
theorem b_X6_gap {E : pfE} (X : CX cellsR E cX6_gap RX6 rm_X6_gap 1) (A : St) {out : Int64 × St} (hQ : Retl cellsR E cX6_gap out.1 out.2) (h : f_X6_gap A = some out) : GG cellsR E A 0 [(0, .ref (fAd (eF E) 0))] [] := by
  unfold f_X6_gap at h
  refine G_aload_n X dX6_gap_0 rfl 0 rfl ?_
  obtain ⟨r1, A3, hz2, h⟩ := cl2_k h
  refine G_callV_i X (As := []) (rest := []) ok_X6_areForms qw983 0 (eR0 _ _ _) rfl rfl ⟨rfl, rfl, Nat.le_of_ble_eq_true rfl, Nat.le_of_ble_eq_true rfl⟩ (m_X6_areForms X.d hz2) rfl rfl (Nat.le_of_ble_eq_true rfl) dX6_gap_1 ?_
  refine G_ifeq X (tgt := 17) dX6_gap_4 (by decide) (fun c4 => ?_) (fun c4 => ?_)
  · have h := if_t c4 h
    refine G_aload_n X dX6_gap_17 rfl 0 rfl ?_
    refine G_iconst X (v := 3) dX6_gap_18 rfl ?_
    obtain ⟨r5, A7, hz6, h⟩ := cl2_k h
    refine G_callV_l X (As := [.int 3]) (rest := []) ok_X6_findsLong qw855 0 (eR0 _ _ _) rfl rfl ⟨rfl, rfl, Nat.le_of_ble_eq_true rfl, Nat.le_of_ble_eq_true rfl⟩ (m_X6_findsLong X.d hz6) rfl rfl (Nat.le_of_ble_eq_true rfl) dX6_gap_19 ?_
    have e := so h
    subst e
    exact hQ _ _ dX6_gap_22
  · have h := if_f c4 h
    refine G_aload_n X dX6_gap_7 rfl 0 rfl ?_
    refine G_getf X inX6 0 (eR0 _ _ _) rfl 8 (by decide) qw662 rfl dX6_gap_8 ?_
    obtain ⟨r8, hz9, h⟩ := cl_k h
    refine G_callS_l X (As := [.double (A3.2.1 0 8)]) (rest := []) ok_Jxe99ae_doubleToLongBits_ccdee qw847 ⟨rfl, rfl, Nat.le_of_ble_eq_true rfl, Nat.le_of_ble_eq_true rfl⟩ (m_Jxe99ae_doubleToLongBits_ccdee X.d hz9) rfl rfl (Nat.le_of_ble_eq_true rfl) dX6_gap_11 ?_
    refine G_goto X (tgt := 22) dX6_gap_14 (by decide) ?_
    have e := so h
    subst e
    exact hQ _ _ dX6_gap_22
theorem m_X6_gap {l : Launch} {F : pfF} (hD : ∀ A, va_D (fA F) (cellsR (fAd F) (fCy F) A)) {A : St} {out : Int64 × St} (h : f_X6_gap A = some out) : Mt l F cellsR yX6_gap cX6_gap 1 (some .long) rm_X6_gap [.ref (fAd F 0)] A (va_Ql (fun (r : Int64) (u : St) => r = out.1 ∧ u = out.2) (Wd cellsR F) (fA F)) := by
  refine Met_l (by decide +kernel) (Nat.le_of_ble_eq_true rfl) hD (fun E el ef X hQ => ?_)
  subst el
  subst ef
  exact b_X6_gap X _ hQ h
theorem ok_X6_gap : OkV yX6_gap cX6_gap 1 (some .long) 0 := ⟨qw996, qw997, qw6, qw998, by decide, by decide, by decide⟩
noncomputable def f_X6_isUsed_L2 (l1 : Int32) (l2 : Int32) (A : St) : Option ((Int32 × St) ⊕ (St)) :=
  if (A.1 1 0) ≤ l2 then
    some (.inr A)
  else
    cl (f_X6_has l1 l2) fun r2 =>
    if (bI r2) = 0 then
      bv (l2 + 1) fun v5 =>
      some (.inl (v5, A))
    else
      gI (((1 : Int32) + ((8 : Int32) * l2)) + 6) 117 <|
      gI (((1 : Int32) + ((8 : Int32) * l2)) + 6) 117 <|
      bv (upI A 1 (((1 : Int32) + ((8 : Int32) * l2)) + 6).toNatClampNeg ((A.1 1 (((1 : Int32) + ((8 : Int32) * l2)) + 6).toNatClampNeg) + 1)) fun A8 =>
      bv (l2 + 1) fun v9 =>
      some (.inl (v9, A8))
noncomputable def f_X6_isUsed_X44 (A : St) : Option (St) :=
  some A
noncomputable def f_X6_isUsed (x1 : Int32) (A : St) : Option (St) :=
  cl (loop (fun s => f_X6_isUsed_L2 x1 s.1 s.2) (0, A)) (fun s => f_X6_isUsed_X44 s)
abbrev rm_X6_isUsed : Room := { frames := 1, cells := 0, slots := 0, locals := 21 }
set_option maxHeartbeats 4000000 in
set_option maxRecDepth 100000 in
theorem g_X6_isUsed_L2 {E : pfE} (X : CX cellsR E cX6_isUsed RX6 rm_X6_isUsed 3) (l1 : Int32) : ∀ (n : Nat) (l2 : Int32) (A : St) (ρ : St), lp (fun s => f_X6_isUsed_L2 l1 s.1 s.2) n (l2, A) = some ρ → (∀ (B : St), ρ = B → GG cellsR E B 44 [] []) → GG cellsR E A 2 [(0, .ref (fAd (eF E) 0)), (1, .int l1), (2, .int l2)] [] := by
  intro n
  induction n with
  | zero =>
    intro l2 A ρ h
    cases h
  | succ n ih =>
    intro l2 A ρ h0 K
    obtain ⟨x, hb, hx⟩ := lp_step h0
    have h : f_X6_isUsed_L2 l1 l2 A = some x := hb
    unfold f_X6_isUsed_L2 at h
    clear hb h0
    refine G_iload_n X dX6_isUsed_2 rfl 2 rfl ?_
    refine G_aload_n X dX6_isUsed_3 rfl 0 rfl ?_
    refine G_getf X inX6 0 (eR0 _ _ _) rfl 0 (by decide) qw654 rfl dX6_isUsed_4 ?_
    refine G_iconst X (v := 0) dX6_isUsed_7 rfl ?_
    refine G_iald X (j := 0) 1 (eR1 _ _ _) (vi rfl) rfl dX6_isUsed_8 ?_
    refine G_icge X (tgt := 44) dX6_isUsed_9 (by decide) (fun c1 => ?_) (fun c1 => ?_)
    · have h := if_t c1 h
      exact G_sub [] rfl (K _ (lpr (so h) hx).symm)
    · have h := if_f c1 h
      refine G_iload_n X dX6_isUsed_12 rfl 1 rfl ?_
      refine G_iload_n X dX6_isUsed_13 rfl 2 rfl ?_
      obtain ⟨r2, hz3, h⟩ := cl_k h
      refine G_callS_i X (As := [.int l1, .int l2]) (rest := []) ok_X6_has qw774 ⟨rfl, rfl, Nat.le_of_ble_eq_true rfl, Nat.le_of_ble_eq_true rfl⟩ (m_X6_has X.d hz3) rfl rfl (Nat.le_of_ble_eq_true rfl) dX6_isUsed_14 ?_
      refine G_ifeq X (tgt := 38) dX6_isUsed_17 (by decide) (fun c4 => ?_) (fun c4 => ?_)
      · have h := if_t c4 h
        obtain ⟨v5, ev5⟩ : ∃ y : Int32, y = l2 + 1 := ⟨_, rfl⟩
        have h := bv_k ev5 h
        refine G_iinc X (q := 2) (v := v5) (lv2 := [(2, .int v5), (0, .ref (fAd (eF E) 0)), (1, .int l1)]) dX6_isUsed_38 rfl (by rw [ev5]; rfl) (by decide) rfl ?_
        refine G_goto X (tgt := 2) dX6_isUsed_41 (by decide) ?_
        exact G_sub [1, 2, 0] rfl (ih _ _ _ (lpl (so h) hx) K)
      · have h := if_f c4 h
        refine G_aload_n X dX6_isUsed_20 rfl 0 rfl ?_
        refine G_getf X inX6 0 (eR0 _ _ _) rfl 0 (by decide) qw654 rfl dX6_isUsed_21 ?_
        refine G_iconst X (v := 1) dX6_isUsed_24 rfl ?_
        refine G_bipush X (v := 8) dX6_isUsed_25 rfl ?_
        refine G_iload_n X dX6_isUsed_27 rfl 2 rfl ?_
        refine G_imul X dX6_isUsed_28 ?_
        refine G_iadd X dX6_isUsed_29 ?_
        refine G_bipush X (v := 6) dX6_isUsed_30 rfl ?_
        refine G_iadd X dX6_isUsed_32 ?_
        refine G_dup2 X dX6_isUsed_33 rfl rfl ?_
        have hi6 := gI_n h
        have h := gI_k h
        refine G_iald X (j := (((1 : Int32) + ((8 : Int32) * l2)) + 6).toNatClampNeg) 1 (eR1 _ _ _) hi6 rfl dX6_isUsed_34 ?_
        refine G_iconst X (v := 1) dX6_isUsed_35 rfl ?_
        refine G_iadd X dX6_isUsed_36 ?_
        have hi7 := gI_n h
        have h := gI_k h
        refine G_iast X (j := (((1 : Int32) + ((8 : Int32) * l2)) + 6).toNatClampNeg) 1 (eR1 _ _ _) (sRI _ _ _ _ (((1 : Int32) + ((8 : Int32) * l2)) + 6).toNatClampNeg _ _ (fun _ => rfl)) hi7 rfl dX6_isUsed_37 ?_
        refine G_topS (fun A8 eA8 => ?_)
        have h := bv_k eA8 h
        obtain ⟨v9, ev9⟩ : ∃ y : Int32, y = l2 + 1 := ⟨_, rfl⟩
        have h := bv_k ev9 h
        refine G_iinc X (q := 2) (v := v9) (lv2 := [(2, .int v9), (0, .ref (fAd (eF E) 0)), (1, .int l1)]) dX6_isUsed_38 rfl (by rw [ev9]; rfl) (by decide) rfl ?_
        refine G_goto X (tgt := 2) dX6_isUsed_41 (by decide) ?_
        exact G_sub [1, 2, 0] rfl (ih _ _ _ (lpl (so h) hx) K)
set_option maxHeartbeats 4000000 in
set_option maxRecDepth 100000 in
theorem b_X6_isUsed {E : pfE} (X : CX cellsR E cX6_isUsed RX6 rm_X6_isUsed 3) (x1 : Int32) (A : St) {out : St} (hQ : Retv cellsR E cX6_isUsed out) (h : f_X6_isUsed x1 A = some out) : GG cellsR E A 0 [(0, .ref (fAd (eF E) 0)), (1, .int x1)] [] := by
  unfold f_X6_isUsed at h
  refine G_iconst X (v := 0) dX6_isUsed_0 rfl ?_
  refine G_istore_n X (lv2 := [(2, .int 0), (0, .ref (fAd (eF E) 0)), (1, .int x1)]) dX6_isUsed_1 rfl (by decide) rfl ?_
  obtain ⟨ρ, hl, h⟩ := cl_k h
  obtain ⟨n, hl⟩ := loop_some hl
  refine G_sub [1, 2, 0] rfl (g_X6_isUsed_L2 X x1 n _ _ ρ hl ?_)
  intro A10 e
  rw [e] at h
  have h : f_X6_isUsed_X44 A10 = some _ := h
  unfold f_X6_isUsed_X44 at h
  have e := so h
  subst e
  exact hQ _ _ dX6_isUsed_44
theorem m_X6_isUsed {l : Launch} {F : pfF} (hD : ∀ A, va_D (fA F) (cellsR (fAd F) (fCy F) A)) {x1 : Int32} {A : St} {out : St} (h : f_X6_isUsed x1 A = some out) : Mt l F cellsR yX6_isUsed cX6_isUsed 3 none rm_X6_isUsed [.ref (fAd F 0), .int x1] A (va_Qv (fun (u : St) => u = out) (Wd cellsR F) (fA F)) := by
  refine Met_v (by decide +kernel) (Nat.le_of_ble_eq_true rfl) hD (fun E el ef X hQ => ?_)
  subst el
  subst ef
  exact b_X6_isUsed X _ _ hQ h
theorem ok_X6_isUsed : OkV yX6_isUsed cX6_isUsed 3 none 1 := ⟨qw1005, qs30, qw6, qw1006, by decide, by decide, by decide⟩
noncomputable def f_X6_use_L37 (A : St) (l2 : Int32) (l3 : Int32) : Option ((Int32 × Int32) ⊕ (Int32)) :=
  if (A.1 1 0) ≤ l3 then
    some (.inr l2)
  else
    cl (f_X6_it l3 6 A) fun r11 =>
    if r11 < (A.1 1 115) then
      bv (l2 + 0) fun v14 =>
      bv (l3 + 1) fun v15 =>
      some (.inl (v14, v15))
    else
      bv (l2 + 1) fun v16 =>
      bv (l3 + 1) fun v17 =>
      some (.inl (v16, v17))
noncomputable def f_X6_use_X78 (A : St) (m2 : Int32) : Option (Int32 × St) :=
  some (m2, A)
noncomputable def f_X6_use (x1 : Int32) (A : St) : Option (Int32 × St) :=
  cl (f_X6_areItems x1 A) fun r1 =>
  if (bI r1) = 0 then
    cl2 (f_X6_finds 0 A) fun r22 A24 =>
    some (r22, A24)
  else
    cl (f_X6_isPaper x1 A) fun r4 =>
    if (bI r4) = 0 then
      cl2 (f_X6_finds 4 A) fun r19 A21 =>
      some (r19, A21)
    else
      cl (f_X6_isUsed x1 A) fun A9 =>
      cl (loop (fun s => f_X6_use_L37 A9 s.1 s.2) (0, 0)) (fun s => f_X6_use_X78 A9 s)
abbrev rm_X6_use : Room := { frames := 5, cells := 0, slots := 0, locals := 115 }
set_option maxHeartbeats 4000000 in
set_option maxRecDepth 100000 in
theorem g_X6_use_L37 {E : pfE} (X : CX cellsR E cX6_use RX6 rm_X6_use 4) (A : St) : ∀ (n : Nat) (l2 : Int32) (l3 : Int32) (ρ : Int32), lp (fun s => f_X6_use_L37 A s.1 s.2) n (l2, l3) = some ρ → (∀ (q2 : Int32), ρ = q2 → GG cellsR E A 78 [(2, .int q2)] []) → GG cellsR E A 37 [(0, .ref (fAd (eF E) 0)), (2, .int l2), (3, .int l3)] [] := by
  intro n
  induction n with
  | zero =>
    intro l2 l3 ρ h
    cases h
  | succ n ih =>
    intro l2 l3 ρ h0 K
    obtain ⟨x, hb, hx⟩ := lp_step h0
    have h : f_X6_use_L37 A l2 l3 = some x := hb
    unfold f_X6_use_L37 at h
    clear hb h0
    refine G_iload_n X dX6_use_37 rfl 2 rfl ?_
    refine G_aload_n X dX6_use_38 rfl 0 rfl ?_
    refine G_getf X inX6 0 (eR0 _ _ _) rfl 0 (by decide) qw654 rfl dX6_use_39 ?_
    refine G_iconst X (v := 0) dX6_use_42 rfl ?_
    refine G_iald X (j := 0) 1 (eR1 _ _ _) (vi rfl) rfl dX6_use_43 ?_
    refine G_icge X (tgt := 78) dX6_use_44 (by decide) (fun c10 => ?_) (fun c10 => ?_)
    · have h := if_t c10 h
      exact G_sub [1] rfl (K _ (lpr (so h) hx).symm)
    · have h := if_f c10 h
      refine G_iload_n X dX6_use_47 rfl 1 rfl ?_
      refine G_aload_n X dX6_use_48 rfl 0 rfl ?_
      refine G_iload_n X dX6_use_49 rfl 2 rfl ?_
      refine G_bipush X (v := 6) dX6_use_50 rfl ?_
      obtain ⟨r11, hz12, h⟩ := cl_k h
      refine G_callV_i X (As := [.int l3, .int 6]) (rest := [.int l2]) ok_X6_it qw751 0 (eR0 _ _ _) rfl rfl ⟨rfl, rfl, Nat.le_of_ble_eq_true rfl, Nat.le_of_ble_eq_true rfl⟩ (m_X6_it X.d hz12) rfl rfl (Nat.le_of_ble_eq_true rfl) dX6_use_52 ?_
      refine G_aload_n X dX6_use_55 rfl 0 rfl ?_
      refine G_getf X inX6 0 (eR0 _ _ _) rfl 0 (by decide) qw654 rfl dX6_use_56 ?_
      refine G_bipush X (v := 115) dX6_use_59 rfl ?_
      refine G_iald X (j := 115) 1 (eR1 _ _ _) (vi rfl) rfl dX6_use_61 ?_
      refine G_iclt X (tgt := 69) dX6_use_62 (by decide) (fun c13 => ?_) (fun c13 => ?_)
      · have h := if_t c13 h
        refine G_iconst X (v := 0) dX6_use_69 rfl ?_
        refine G_iadd X dX6_use_70 ?_
        refine G_topi (fun v14 ev14 => ?_)
        have h := bv_k ev14 h
        refine G_istore_n X (lv2 := [(2, .int v14), (0, .ref (fAd (eF E) 0)), (3, .int l3)]) dX6_use_71 rfl (by decide) rfl ?_
        obtain ⟨v15, ev15⟩ : ∃ y : Int32, y = l3 + 1 := ⟨_, rfl⟩
        have h := bv_k ev15 h
        refine G_iinc X (q := 2) (v := v15) (lv2 := [(3, .int v15), (2, .int v14), (0, .ref (fAd (eF E) 0))]) dX6_use_72 rfl (by rw [ev15]; rfl) (by decide) rfl ?_
        refine G_goto X (tgt := 37) dX6_use_75 (by decide) ?_
        exact G_sub [2, 1, 0] rfl (ih _ _ _ (lpl (so h) hx) K)
      · have h := if_f c13 h
        refine G_iconst X (v := 1) dX6_use_65 rfl ?_
        refine G_goto X (tgt := 70) dX6_use_66 (by decide) ?_
        refine G_iadd X dX6_use_70 ?_
        refine G_topi (fun v16 ev16 => ?_)
        have h := bv_k ev16 h
        refine G_istore_n X (lv2 := [(2, .int v16), (0, .ref (fAd (eF E) 0)), (3, .int l3)]) dX6_use_71 rfl (by decide) rfl ?_
        obtain ⟨v17, ev17⟩ : ∃ y : Int32, y = l3 + 1 := ⟨_, rfl⟩
        have h := bv_k ev17 h
        refine G_iinc X (q := 2) (v := v17) (lv2 := [(3, .int v17), (2, .int v16), (0, .ref (fAd (eF E) 0))]) dX6_use_72 rfl (by rw [ev17]; rfl) (by decide) rfl ?_
        refine G_goto X (tgt := 37) dX6_use_75 (by decide) ?_
        exact G_sub [2, 1, 0] rfl (ih _ _ _ (lpl (so h) hx) K)
set_option maxHeartbeats 4000000 in
set_option maxRecDepth 100000 in
theorem b_X6_use {E : pfE} (X : CX cellsR E cX6_use RX6 rm_X6_use 4) (x1 : Int32) (A : St) {out : Int32 × St} (hQ : Reti cellsR E cX6_use out.1 out.2) (h : f_X6_use x1 A = some out) : GG cellsR E A 0 [(0, .ref (fAd (eF E) 0)), (1, .int x1)] [] := by
  unfold f_X6_use at h
  refine G_aload_n X dX6_use_0 rfl 0 rfl ?_
  refine G_iload_n X dX6_use_1 rfl 1 rfl ?_
  obtain ⟨r1, hz2, h⟩ := cl_k h
  refine G_callV_i X (As := [.int x1]) (rest := []) ok_X6_areItems qw873 0 (eR0 _ _ _) rfl rfl ⟨rfl, rfl, Nat.le_of_ble_eq_true rfl, Nat.le_of_ble_eq_true rfl⟩ (m_X6_areItems X.d hz2) rfl rfl (Nat.le_of_ble_eq_true rfl) dX6_use_2 ?_
  refine G_ifne X (tgt := 14) dX6_use_5 (by decide) (fun c3 => ?_) (fun c3 => ?_)
  · have h := if_t c3 h
    refine G_aload_n X dX6_use_8 rfl 0 rfl ?_
    refine G_iconst X (v := 0) dX6_use_9 rfl ?_
    obtain ⟨r22, A24, hz23, h⟩ := cl2_k h
    refine G_callV_i X (As := [.int 0]) (rest := []) ok_X6_finds qw737 0 (eR0 _ _ _) rfl rfl ⟨rfl, rfl, Nat.le_of_ble_eq_true rfl, Nat.le_of_ble_eq_true rfl⟩ (m_X6_finds X.d hz23) rfl rfl (Nat.le_of_ble_eq_true rfl) dX6_use_10 ?_
    have e := so h
    subst e
    exact hQ _ _ dX6_use_13
  · have h := if_f c3 h
    refine G_aload_n X dX6_use_14 rfl 0 rfl ?_
    refine G_iload_n X dX6_use_15 rfl 1 rfl ?_
    obtain ⟨r4, hz5, h⟩ := cl_k h
    refine G_callV_i X (As := [.int x1]) (rest := []) ok_X6_isPaper qw967 0 (eR0 _ _ _) rfl rfl ⟨rfl, rfl, Nat.le_of_ble_eq_true rfl, Nat.le_of_ble_eq_true rfl⟩ (m_X6_isPaper X.d hz5) rfl rfl (Nat.le_of_ble_eq_true rfl) dX6_use_16 ?_
    refine G_ifne X (tgt := 28) dX6_use_19 (by decide) (fun c6 => ?_) (fun c6 => ?_)
    · have h := if_t c6 h
      refine G_aload_n X dX6_use_22 rfl 0 rfl ?_
      refine G_iconst X (v := 4) dX6_use_23 rfl ?_
      obtain ⟨r19, A21, hz20, h⟩ := cl2_k h
      refine G_callV_i X (As := [.int 4]) (rest := []) ok_X6_finds qw737 0 (eR0 _ _ _) rfl rfl ⟨rfl, rfl, Nat.le_of_ble_eq_true rfl, Nat.le_of_ble_eq_true rfl⟩ (m_X6_finds X.d hz20) rfl rfl (Nat.le_of_ble_eq_true rfl) dX6_use_24 ?_
      have e := so h
      subst e
      exact hQ _ _ dX6_use_27
    · have h := if_f c6 h
      refine G_aload_n X dX6_use_28 rfl 0 rfl ?_
      refine G_iload_n X dX6_use_29 rfl 1 rfl ?_
      obtain ⟨A9, hz8, h⟩ := cl_k h
      refine G_callV_v X (As := [.int x1]) (rest := []) ok_X6_isUsed qw1003 0 (eR0 _ _ _) rfl rfl ⟨rfl, rfl, Nat.le_of_ble_eq_true rfl, Nat.le_of_ble_eq_true rfl⟩ (m_X6_isUsed X.d hz8) rfl rfl (Nat.le_of_ble_eq_true rfl) dX6_use_30 ?_
      refine G_iconst X (v := 0) dX6_use_33 rfl ?_
      refine G_istore_n X (lv2 := [(2, .int 0), (0, .ref (fAd (eF E) 0)), (1, .int x1)]) dX6_use_34 rfl (by decide) rfl ?_
      refine G_iconst X (v := 0) dX6_use_35 rfl ?_
      refine G_istore_n X (lv2 := [(3, .int 0), (2, .int 0), (0, .ref (fAd (eF E) 0)), (1, .int x1)]) dX6_use_36 rfl (by decide) rfl ?_
      obtain ⟨ρ, hl, h⟩ := cl_k h
      obtain ⟨n, hl⟩ := loop_some hl
      refine G_sub [2, 1, 0] rfl (g_X6_use_L37 X A9 n _ _ ρ hl ?_)
      intro v18 e
      rw [e] at h
      have h : f_X6_use_X78 A9 v18 = some _ := h
      unfold f_X6_use_X78 at h
      refine G_iload_n X dX6_use_78 rfl 0 rfl ?_
      have e := so h
      subst e
      exact hQ _ _ dX6_use_79
theorem m_X6_use {l : Launch} {F : pfF} (hD : ∀ A, va_D (fA F) (cellsR (fAd F) (fCy F) A)) {x1 : Int32} {A : St} {out : Int32 × St} (h : f_X6_use x1 A = some out) : Mt l F cellsR yX6_use cX6_use 4 (some .int) rm_X6_use [.ref (fAd F 0), .int x1] A (va_Qi (fun (r : Int32) (u : St) => r = out.1 ∧ u = out.2) (Wd cellsR F) (fA F)) := by
  refine Met_i (by decide +kernel) (Nat.le_of_ble_eq_true rfl) hD (fun E el ef X hQ => ?_)
  subst el
  subst ef
  exact b_X6_use X _ _ hQ h
theorem ok_X6_use : OkV yX6_use cX6_use 4 (some .int) 1 := ⟨qw1000, qw1001, qw6, qw1002, by decide, by decide, by decide⟩
noncomputable def f_X6_uses_L25 (l1 : Int32) (l2 : Int32) (l3 : Int32) (A : St) : Option ((Int32 × Int32 × St) ⊕ (Int32 × St)) :=
  if l1 ≤ l2 then
    some (.inr (l2, A))
  else
    if l3 < 0 then
      some (.inr (l2, A))
    else
      cl (f_X6_isUsed l3 A) fun A10 =>
      bv (l2 + 1) fun v11 =>
      cl (f_X6_bestOf A10) fun r12 =>
      some (.inl (v11, r12, A10))
noncomputable def f_X6_uses_X50 (A : St) (m2 : Int32) : Option (Int32 × St) :=
  some (m2, A)
noncomputable def f_X6_uses (x1 : Int32) (A : St) : Option (Int32 × St) :=
  cl (f_X6_in x1.toInt64 1 20) fun r1 =>
  if (bI r1) = 0 then
    cl2 (f_X6_finds 0 A) fun r16 A18 =>
    some (r16, A18)
  else
    cl (f_X6_bestOf A) fun r4 =>
    cl (loop (fun s => f_X6_uses_L25 x1 s.1 s.2.1 s.2.2) (0, r4, A)) (fun s => f_X6_uses_X50 s.2 s.1)
abbrev rm_X6_uses : Room := { frames := 7, cells := 0, slots := 0, locals := 172 }
set_option maxHeartbeats 4000000 in
set_option maxRecDepth 100000 in
theorem g_X6_uses_L25 {E : pfE} (X : CX cellsR E cX6_uses RX6 rm_X6_uses 4) (l1 : Int32) : ∀ (n : Nat) (l2 : Int32) (l3 : Int32) (A : St) (ρ : Int32 × St), lp (fun s => f_X6_uses_L25 l1 s.1 s.2.1 s.2.2) n (l2, l3, A) = some ρ → (∀ (q2 : Int32) (B : St), ρ = (q2, B) → GG cellsR E B 50 [(2, .int q2)] []) → GG cellsR E A 25 [(0, .ref (fAd (eF E) 0)), (1, .int l1), (2, .int l2), (3, .int l3)] [] := by
  intro n
  induction n with
  | zero =>
    intro l2 l3 A ρ h
    cases h
  | succ n ih =>
    intro l2 l3 A ρ h0 K
    obtain ⟨x, hb, hx⟩ := lp_step h0
    have h : f_X6_uses_L25 l1 l2 l3 A = some x := hb
    unfold f_X6_uses_L25 at h
    clear hb h0
    refine G_iload_n X dX6_uses_25 rfl 2 rfl ?_
    refine G_iload_n X dX6_uses_26 rfl 1 rfl ?_
    refine G_icge X (tgt := 50) dX6_uses_27 (by decide) (fun c6 => ?_) (fun c6 => ?_)
    · have h := if_t c6 h
      exact G_sub [2] rfl (K _ _ (lpr (so h) hx).symm)
    · have h := if_f c6 h
      refine G_iload_n X dX6_uses_30 rfl 3 rfl ?_
      refine G_iflt X (tgt := 50) dX6_uses_31 (by decide) (fun c7 => ?_) (fun c7 => ?_)
      · have h := if_t c7 h
        exact G_sub [2] rfl (K _ _ (lpr (so h) hx).symm)
      · have h := if_f c7 h
        refine G_aload_n X dX6_uses_34 rfl 0 rfl ?_
        refine G_iload_n X dX6_uses_35 rfl 3 rfl ?_
        obtain ⟨A10, hz9, h⟩ := cl_k h
        refine G_callV_v X (As := [.int l3]) (rest := []) ok_X6_isUsed qw1003 0 (eR0 _ _ _) rfl rfl ⟨rfl, rfl, Nat.le_of_ble_eq_true rfl, Nat.le_of_ble_eq_true rfl⟩ (m_X6_isUsed X.d hz9) rfl rfl (Nat.le_of_ble_eq_true rfl) dX6_uses_36 ?_
        obtain ⟨v11, ev11⟩ : ∃ y : Int32, y = l2 + 1 := ⟨_, rfl⟩
        have h := bv_k ev11 h
        refine G_iinc X (q := 2) (v := v11) (lv2 := [(2, .int v11), (0, .ref (fAd (eF E) 0)), (1, .int l1), (3, .int l3)]) dX6_uses_39 rfl (by rw [ev11]; rfl) (by decide) rfl ?_
        refine G_aload_n X dX6_uses_42 rfl 1 rfl ?_
        obtain ⟨r12, hz13, h⟩ := cl_k h
        refine G_callV_i X (As := []) (rest := []) ok_X6_bestOf qw963 0 (eR0 _ _ _) rfl rfl ⟨rfl, rfl, Nat.le_of_ble_eq_true rfl, Nat.le_of_ble_eq_true rfl⟩ (m_X6_bestOf X.d hz13) rfl rfl (Nat.le_of_ble_eq_true rfl) dX6_uses_43 ?_
        refine G_istore_n X (lv2 := [(3, .int r12), (2, .int v11), (0, .ref (fAd (eF E) 0)), (1, .int l1)]) dX6_uses_46 rfl (by decide) rfl ?_
        refine G_goto X (tgt := 25) dX6_uses_47 (by decide) ?_
        exact G_sub [2, 3, 1, 0] rfl (ih _ _ _ _ (lpl (so h) hx) K)
set_option maxHeartbeats 4000000 in
set_option maxRecDepth 100000 in
theorem b_X6_uses {E : pfE} (X : CX cellsR E cX6_uses RX6 rm_X6_uses 4) (x1 : Int32) (A : St) {out : Int32 × St} (hQ : Reti cellsR E cX6_uses out.1 out.2) (h : f_X6_uses x1 A = some out) : GG cellsR E A 0 [(0, .ref (fAd (eF E) 0)), (1, .int x1)] [] := by
  unfold f_X6_uses at h
  refine G_iload_n X dX6_uses_0 rfl 1 rfl ?_
  refine G_i2l X dX6_uses_1 rfl ?_
  refine G_lconst X (v := 1) dX6_uses_2 rfl ?_
  refine G_ldc2 X (v := 20) qw731 dX6_uses_3 ?_
  obtain ⟨r1, hz2, h⟩ := cl_k h
  refine G_callS_i X (As := [.long x1.toInt64, .long 1, .long 20]) (rest := []) ok_X6_in qw727 ⟨rfl, rfl, Nat.le_of_ble_eq_true rfl, Nat.le_of_ble_eq_true rfl⟩ (m_X6_in X.d hz2) rfl rfl (Nat.le_of_ble_eq_true rfl) dX6_uses_6 ?_
  refine G_ifne X (tgt := 18) dX6_uses_9 (by decide) (fun c3 => ?_) (fun c3 => ?_)
  · have h := if_t c3 h
    refine G_aload_n X dX6_uses_12 rfl 0 rfl ?_
    refine G_iconst X (v := 0) dX6_uses_13 rfl ?_
    obtain ⟨r16, A18, hz17, h⟩ := cl2_k h
    refine G_callV_i X (As := [.int 0]) (rest := []) ok_X6_finds qw737 0 (eR0 _ _ _) rfl rfl ⟨rfl, rfl, Nat.le_of_ble_eq_true rfl, Nat.le_of_ble_eq_true rfl⟩ (m_X6_finds X.d hz17) rfl rfl (Nat.le_of_ble_eq_true rfl) dX6_uses_14 ?_
    have e := so h
    subst e
    exact hQ _ _ dX6_uses_17
  · have h := if_f c3 h
    refine G_iconst X (v := 0) dX6_uses_18 rfl ?_
    refine G_istore_n X (lv2 := [(2, .int 0), (0, .ref (fAd (eF E) 0)), (1, .int x1)]) dX6_uses_19 rfl (by decide) rfl ?_
    refine G_aload_n X dX6_uses_20 rfl 1 rfl ?_
    obtain ⟨r4, hz5, h⟩ := cl_k h
    refine G_callV_i X (As := []) (rest := []) ok_X6_bestOf qw963 0 (eR0 _ _ _) rfl rfl ⟨rfl, rfl, Nat.le_of_ble_eq_true rfl, Nat.le_of_ble_eq_true rfl⟩ (m_X6_bestOf X.d hz5) rfl rfl (Nat.le_of_ble_eq_true rfl) dX6_uses_21 ?_
    refine G_istore_n X (lv2 := [(3, .int r4), (2, .int 0), (0, .ref (fAd (eF E) 0)), (1, .int x1)]) dX6_uses_24 rfl (by decide) rfl ?_
    obtain ⟨ρ, hl, h⟩ := cl_k h
    obtain ⟨n, hl⟩ := loop_some hl
    refine G_sub [2, 3, 1, 0] rfl (g_X6_uses_L25 X x1 n _ _ _ ρ hl ?_)
    intro v14 A15 e
    subst e
    have h : f_X6_uses_X50 A15 v14 = some _ := h
    unfold f_X6_uses_X50 at h
    refine G_iload_n X dX6_uses_50 rfl 0 rfl ?_
    have e := so h
    subst e
    exact hQ _ _ dX6_uses_51
theorem m_X6_uses {l : Launch} {F : pfF} (hD : ∀ A, va_D (fA F) (cellsR (fAd F) (fCy F) A)) {x1 : Int32} {A : St} {out : Int32 × St} (h : f_X6_uses x1 A = some out) : Mt l F cellsR yX6_uses cX6_uses 4 (some .int) rm_X6_uses [.ref (fAd F 0), .int x1] A (va_Qi (fun (r : Int32) (u : St) => r = out.1 ∧ u = out.2) (Wd cellsR F) (fA F)) := by
  refine Met_i (by decide +kernel) (Nat.le_of_ble_eq_true rfl) hD (fun E el ef X hQ => ?_)
  subst el
  subst ef
  exact b_X6_uses X _ _ hQ h
theorem ok_X6_uses : OkV yX6_uses cX6_uses 4 (some .int) 1 := ⟨qw1008, qw1009, qw6, qw1010, by decide, by decide, by decide⟩
noncomputable def f_X6_drawn (A : St) : Option (Int32 × St) :=
  bv (upI A 1 116 (((A.1 1 116) * 1103515245) + 12345)) fun A1 =>
  some (((((A1.1 1 116).toUInt32 >>> ((8 : Int32).toUInt32 &&& Int32.toUInt32 31)).toInt32) - (((A1.1 1 116).toUInt32 >>> ((8 : Int32).toUInt32 &&& Int32.toUInt32 31)).toInt32) / (4096 : Int32) * (4096 : Int32)) &&& (((1 : Int32) <<< ((A1.1 1 0) &&& 31)) - 1), A1)
abbrev rm_X6_drawn : Room := { frames := 0, cells := 0, slots := 0, locals := 0 }
set_option maxHeartbeats 4000000 in
set_option maxRecDepth 100000 in
theorem b_X6_drawn {E : pfE} (X : CX cellsR E cX6_drawn RX6 rm_X6_drawn 1) (A : St) {out : Int32 × St} (hQ : Reti cellsR E cX6_drawn out.1 out.2) (h : f_X6_drawn A = some out) : GG cellsR E A 0 [(0, .ref (fAd (eF E) 0))] [] := by
  unfold f_X6_drawn at h
  refine G_aload_n X dX6_drawn_0 rfl 0 rfl ?_
  refine G_getf X inX6 0 (eR0 _ _ _) rfl 0 (by decide) qw654 rfl dX6_drawn_1 ?_
  refine G_bipush X (v := 116) dX6_drawn_4 rfl ?_
  refine G_aload_n X dX6_drawn_6 rfl 0 rfl ?_
  refine G_getf X inX6 0 (eR0 _ _ _) rfl 0 (by decide) qw654 rfl dX6_drawn_7 ?_
  refine G_bipush X (v := 116) dX6_drawn_10 rfl ?_
  refine G_iald X (j := 116) 1 (eR1 _ _ _) (vi rfl) rfl dX6_drawn_12 ?_
  refine G_ldcw X (v := 1103515245) qw1019 dX6_drawn_13 ?_
  refine G_imul X dX6_drawn_16 ?_
  refine G_sipush X (v := 12345) dX6_drawn_17 rfl ?_
  refine G_iadd X dX6_drawn_20 ?_
  refine G_iast X (j := 116) 1 (eR1 _ _ _) (sRI _ _ _ _ 116 _ _ (fun _ => rfl)) (vi rfl) rfl dX6_drawn_21 ?_
  refine G_topS (fun A1 eA1 => ?_)
  have h := bv_k eA1 h
  refine G_aload_n X dX6_drawn_22 rfl 0 rfl ?_
  refine G_getf X inX6 0 (eR0 _ _ _) rfl 0 (by decide) qw654 rfl dX6_drawn_23 ?_
  refine G_bipush X (v := 116) dX6_drawn_26 rfl ?_
  refine G_iald X (j := 116) 1 (eR1 _ _ _) (vi rfl) rfl dX6_drawn_28 ?_
  refine G_bipush X (v := 8) dX6_drawn_29 rfl ?_
  refine G_iushr X dX6_drawn_31 rfl ?_
  refine G_sipush X (v := 4096) dX6_drawn_32 rfl ?_
  refine G_irem X dX6_drawn_35 (by decide) ?_
  refine G_iconst X (v := 1) dX6_drawn_36 rfl ?_
  refine G_aload_n X dX6_drawn_37 rfl 0 rfl ?_
  refine G_getf X inX6 0 (eR0 _ _ _) rfl 0 (by decide) qw654 rfl dX6_drawn_38 ?_
  refine G_iconst X (v := 0) dX6_drawn_41 rfl ?_
  refine G_iald X (j := 0) 1 (eR1 _ _ _) (vi rfl) rfl dX6_drawn_42 ?_
  refine G_ishl X dX6_drawn_43 ?_
  refine G_iconst X (v := 1) dX6_drawn_44 rfl ?_
  refine G_isub X dX6_drawn_45 ?_
  refine G_iand X dX6_drawn_46 ?_
  have e := so h
  subst e
  exact hQ _ _ dX6_drawn_47
theorem m_X6_drawn {l : Launch} {F : pfF} (hD : ∀ A, va_D (fA F) (cellsR (fAd F) (fCy F) A)) {A : St} {out : Int32 × St} (h : f_X6_drawn A = some out) : Mt l F cellsR yX6_drawn cX6_drawn 1 (some .int) rm_X6_drawn [.ref (fAd F 0)] A (va_Qi (fun (r : Int32) (u : St) => r = out.1 ∧ u = out.2) (Wd cellsR F) (fA F)) := by
  refine Met_i (by decide +kernel) (Nat.le_of_ble_eq_true rfl) hD (fun E el ef X hQ => ?_)
  subst el
  subst ef
  exact b_X6_drawn X _ hQ h
theorem ok_X6_drawn : OkV yX6_drawn cX6_drawn 1 (some .int) 0 := ⟨qw1017, qs31, qw6, qw1018, by decide, by decide, by decide⟩
noncomputable def f_X6_loose_L22 (l1 : Int32) (l2 : Int32) (l3 : Int32) (A : St) : Option ((Int32 × Int32 × St) ⊕ (Int32 × St)) :=
  if l1 ≤ l3 then
    some (.inr (l2, A))
  else
    cl2 (f_X6_drawn A) fun r5 A7 =>
    cl2 (f_X6_drawn A7) fun r8 A10 =>
    cl (f_X6_isPaper r5 A10) fun r11 =>
    bv (bI r11) fun v13 =>
    cl (f_X6_isPaper r8 A10) fun r14 =>
    bv (bI r14) fun v16 =>
    if v13 = 0 then
      if v16 = 0 then
        bv (l3 + 1) fun v73 =>
        some (.inl (l2, v73, A10))
      else
        if v13 = 0 then
          cl (f_X6_isUsed r8 A10) fun A49 =>
          bv (l2 + 1) fun v50 =>
          bv (l3 + 1) fun v51 =>
          some (.inl (v50, v51, A49))
        else
          if v16 = 0 then
            cl (f_X6_isUsed r5 A10) fun A55 =>
            bv (l2 + 1) fun v56 =>
            bv (l3 + 1) fun v57 =>
            some (.inl (v56, v57, A55))
          else
            cl (f_X6_valueOf r5 A10) fun r58 =>
            cl (f_X6_valueOf r8 A10) fun r60 =>
            if (Op.cmpValue (FP.dcmp r58 r60) .l) < 0 then
              cl (f_X6_isUsed r8 A10) fun A65 =>
              bv (l2 + 1) fun v66 =>
              bv (l3 + 1) fun v67 =>
              some (.inl (v66, v67, A65))
            else
              cl (f_X6_isUsed r5 A10) fun A70 =>
              bv (l2 + 1) fun v71 =>
              bv (l3 + 1) fun v72 =>
              some (.inl (v71, v72, A70))
    else
      if v13 = 0 then
        cl (f_X6_isUsed r8 A10) fun A21 =>
        bv (l2 + 1) fun v22 =>
        bv (l3 + 1) fun v23 =>
        some (.inl (v22, v23, A21))
      else
        if v16 = 0 then
          cl (f_X6_isUsed r5 A10) fun A27 =>
          bv (l2 + 1) fun v28 =>
          bv (l3 + 1) fun v29 =>
          some (.inl (v28, v29, A27))
        else
          cl (f_X6_valueOf r5 A10) fun r30 =>
          cl (f_X6_valueOf r8 A10) fun r32 =>
          if (Op.cmpValue (FP.dcmp r30 r32) .l) < 0 then
            cl (f_X6_isUsed r8 A10) fun A37 =>
            bv (l2 + 1) fun v38 =>
            bv (l3 + 1) fun v39 =>
            some (.inl (v38, v39, A37))
          else
            cl (f_X6_isUsed r5 A10) fun A42 =>
            bv (l2 + 1) fun v43 =>
            bv (l3 + 1) fun v44 =>
            some (.inl (v43, v44, A42))
noncomputable def f_X6_loose_X114 (A : St) (m2 : Int32) : Option (Int32 × St) :=
  some (m2, A)
noncomputable def f_X6_loose (x1 : Int32) (A : St) : Option (Int32 × St) :=
  cl (f_X6_in x1.toInt64 1 20) fun r1 =>
  if (bI r1) = 0 then
    cl2 (f_X6_finds 0 A) fun r76 A78 =>
    some (r76, A78)
  else
    cl (loop (fun s => f_X6_loose_L22 x1 s.1 s.2.1 s.2.2) (0, 0, A)) (fun s => f_X6_loose_X114 s.2 s.1)
abbrev rm_X6_loose : Room := { frames := 6, cells := 0, slots := 0, locals := 146 }
set_option maxHeartbeats 4000000 in
set_option maxRecDepth 100000 in
theorem g_X6_loose_L22 {E : pfE} (X : CX cellsR E cX6_loose RX6 rm_X6_loose 8) (l1 : Int32) : ∀ (n : Nat) (l2 : Int32) (l3 : Int32) (A : St) (ρ : Int32 × St), lp (fun s => f_X6_loose_L22 l1 s.1 s.2.1 s.2.2) n (l2, l3, A) = some ρ → (∀ (q2 : Int32) (B : St), ρ = (q2, B) → GG cellsR E B 114 [(2, .int q2)] []) → GG cellsR E A 22 [(0, .ref (fAd (eF E) 0)), (1, .int l1), (2, .int l2), (3, .int l3)] [] := by
  intro n
  induction n with
  | zero =>
    intro l2 l3 A ρ h
    cases h
  | succ n ih =>
    intro l2 l3 A ρ h0 K
    obtain ⟨x, hb, hx⟩ := lp_step h0
    have h : f_X6_loose_L22 l1 l2 l3 A = some x := hb
    unfold f_X6_loose_L22 at h
    clear hb h0
    refine G_iload_n X dX6_loose_22 rfl 3 rfl ?_
    refine G_iload_n X dX6_loose_23 rfl 1 rfl ?_
    refine G_icge X (tgt := 114) dX6_loose_24 (by decide) (fun c4 => ?_) (fun c4 => ?_)
    · have h := if_t c4 h
      exact G_sub [2] rfl (K _ _ (lpr (so h) hx).symm)
    · have h := if_f c4 h
      refine G_aload_n X dX6_loose_27 rfl 0 rfl ?_
      obtain ⟨r5, A7, hz6, h⟩ := cl2_k h
      refine G_callV_i X (As := []) (rest := []) ok_X6_drawn qw1015 0 (eR0 _ _ _) rfl rfl ⟨rfl, rfl, Nat.le_of_ble_eq_true rfl, Nat.le_of_ble_eq_true rfl⟩ (m_X6_drawn X.d hz6) rfl rfl (Nat.le_of_ble_eq_true rfl) dX6_loose_28 ?_
      refine G_istore X (lv2 := [(4, .int r5), (0, .ref (fAd (eF E) 0)), (1, .int l1), (2, .int l2), (3, .int l3)]) dX6_loose_31 (by decide) rfl ?_
      refine G_aload_n X dX6_loose_33 rfl 1 rfl ?_
      obtain ⟨r8, A10, hz9, h⟩ := cl2_k h
      refine G_callV_i X (As := []) (rest := []) ok_X6_drawn qw1015 0 (eR0 _ _ _) rfl rfl ⟨rfl, rfl, Nat.le_of_ble_eq_true rfl, Nat.le_of_ble_eq_true rfl⟩ (m_X6_drawn X.d hz9) rfl rfl (Nat.le_of_ble_eq_true rfl) dX6_loose_34 ?_
      refine G_istore X (lv2 := [(5, .int r8), (4, .int r5), (0, .ref (fAd (eF E) 0)), (1, .int l1), (2, .int l2), (3, .int l3)]) dX6_loose_37 (by decide) rfl ?_
      refine G_aload_n X dX6_loose_39 rfl 2 rfl ?_
      refine G_iload X dX6_loose_40 1 rfl ?_
      obtain ⟨r11, hz12, h⟩ := cl_k h
      refine G_callV_i X (As := [.int r5]) (rest := []) ok_X6_isPaper qw967 0 (eR0 _ _ _) rfl rfl ⟨rfl, rfl, Nat.le_of_ble_eq_true rfl, Nat.le_of_ble_eq_true rfl⟩ (m_X6_isPaper X.d hz12) rfl rfl (Nat.le_of_ble_eq_true rfl) dX6_loose_42 ?_
      refine G_topi (fun v13 ev13 => ?_)
      have h := bv_k ev13 h
      refine G_istore X (lv2 := [(6, .int v13), (5, .int r8), (4, .int r5), (0, .ref (fAd (eF E) 0)), (1, .int l1), (2, .int l2), (3, .int l3)]) dX6_loose_45 (by decide) rfl ?_
      refine G_aload_n X dX6_loose_47 rfl 3 rfl ?_
      refine G_iload X dX6_loose_48 1 rfl ?_
      obtain ⟨r14, hz15, h⟩ := cl_k h
      refine G_callV_i X (As := [.int r8]) (rest := []) ok_X6_isPaper qw967 0 (eR0 _ _ _) rfl rfl ⟨rfl, rfl, Nat.le_of_ble_eq_true rfl, Nat.le_of_ble_eq_true rfl⟩ (m_X6_isPaper X.d hz15) rfl rfl (Nat.le_of_ble_eq_true rfl) dX6_loose_50 ?_
      refine G_topi (fun v16 ev16 => ?_)
      have h := bv_k ev16 h
      refine G_istore X (lv2 := [(7, .int v16), (6, .int v13), (5, .int r8), (4, .int r5), (0, .ref (fAd (eF E) 0)), (1, .int l1), (2, .int l2), (3, .int l3)]) dX6_loose_53 (by decide) rfl ?_
      refine G_iload X dX6_loose_55 1 rfl ?_
      refine G_ifne X (tgt := 68) dX6_loose_57 (by decide) (fun c17 => ?_) (fun c17 => ?_)
      · have h := if_t c17 h
        refine G_iload X dX6_loose_60 0 rfl ?_
        refine G_ifne X (tgt := 68) dX6_loose_62 (by decide) (fun c45 => ?_) (fun c45 => ?_)
        · have h := if_t c45 h
          refine G_goto X (tgt := 108) dX6_loose_65 (by decide) ?_
          obtain ⟨v73, ev73⟩ : ∃ y : Int32, y = l3 + 1 := ⟨_, rfl⟩
          have h := bv_k ev73 h
          refine G_iinc X (q := 7) (v := v73) (lv2 := [(3, .int v73), (7, .int v16), (6, .int v13), (5, .int r8), (4, .int r5), (0, .ref (fAd (eF E) 0)), (1, .int l1), (2, .int l2)]) dX6_loose_108 rfl (by rw [ev73]; rfl) (by decide) rfl ?_
          refine G_goto X (tgt := 22) dX6_loose_111 (by decide) ?_
          exact G_sub [5, 6, 7, 0] rfl (ih _ _ _ _ (lpl (so h) hx) K)
        · have h := if_f c45 h
          refine G_aload_n X dX6_loose_68 rfl 4 rfl ?_
          refine G_iload X dX6_loose_69 1 rfl ?_
          refine G_ifeq X (tgt := 100) dX6_loose_71 (by decide) (fun c46 => ?_) (fun c46 => ?_)
          · have h := if_t c46 h
            refine G_iload X dX6_loose_100 2 rfl ?_
            obtain ⟨A49, hz48, h⟩ := cl_k h
            refine G_callV_v X (As := [.int r8]) (rest := []) ok_X6_isUsed qw1003 0 (eR0 _ _ _) rfl rfl ⟨rfl, rfl, Nat.le_of_ble_eq_true rfl, Nat.le_of_ble_eq_true rfl⟩ (m_X6_isUsed X.d hz48) rfl rfl (Nat.le_of_ble_eq_true rfl) dX6_loose_102 ?_
            obtain ⟨v50, ev50⟩ : ∃ y : Int32, y = l2 + 1 := ⟨_, rfl⟩
            have h := bv_k ev50 h
            refine G_iinc X (q := 6) (v := v50) (lv2 := [(2, .int v50), (7, .int v16), (6, .int v13), (5, .int r8), (4, .int r5), (0, .ref (fAd (eF E) 0)), (1, .int l1), (3, .int l3)]) dX6_loose_105 rfl (by rw [ev50]; rfl) (by decide) rfl ?_
            obtain ⟨v51, ev51⟩ : ∃ y : Int32, y = l3 + 1 := ⟨_, rfl⟩
            have h := bv_k ev51 h
            refine G_iinc X (q := 7) (v := v51) (lv2 := [(3, .int v51), (2, .int v50), (7, .int v16), (6, .int v13), (5, .int r8), (4, .int r5), (0, .ref (fAd (eF E) 0)), (1, .int l1)]) dX6_loose_108 rfl (by rw [ev51]; rfl) (by decide) rfl ?_
            refine G_goto X (tgt := 22) dX6_loose_111 (by decide) ?_
            exact G_sub [6, 7, 1, 0] rfl (ih _ _ _ _ (lpl (so h) hx) K)
          · have h := if_f c46 h
            refine G_iload X dX6_loose_74 0 rfl ?_
            refine G_ifeq X (tgt := 95) dX6_loose_76 (by decide) (fun c52 => ?_) (fun c52 => ?_)
            · have h := if_t c52 h
              refine G_iload X dX6_loose_95 3 rfl ?_
              refine G_goto X (tgt := 102) dX6_loose_97 (by decide) ?_
              obtain ⟨A55, hz54, h⟩ := cl_k h
              refine G_callV_v X (As := [.int r5]) (rest := []) ok_X6_isUsed qw1003 0 (eR0 _ _ _) rfl rfl ⟨rfl, rfl, Nat.le_of_ble_eq_true rfl, Nat.le_of_ble_eq_true rfl⟩ (m_X6_isUsed X.d hz54) rfl rfl (Nat.le_of_ble_eq_true rfl) dX6_loose_102 ?_
              obtain ⟨v56, ev56⟩ : ∃ y : Int32, y = l2 + 1 := ⟨_, rfl⟩
              have h := bv_k ev56 h
              refine G_iinc X (q := 6) (v := v56) (lv2 := [(2, .int v56), (7, .int v16), (6, .int v13), (5, .int r8), (4, .int r5), (0, .ref (fAd (eF E) 0)), (1, .int l1), (3, .int l3)]) dX6_loose_105 rfl (by rw [ev56]; rfl) (by decide) rfl ?_
              obtain ⟨v57, ev57⟩ : ∃ y : Int32, y = l3 + 1 := ⟨_, rfl⟩
              have h := bv_k ev57 h
              refine G_iinc X (q := 7) (v := v57) (lv2 := [(3, .int v57), (2, .int v56), (7, .int v16), (6, .int v13), (5, .int r8), (4, .int r5), (0, .ref (fAd (eF E) 0)), (1, .int l1)]) dX6_loose_108 rfl (by rw [ev57]; rfl) (by decide) rfl ?_
              refine G_goto X (tgt := 22) dX6_loose_111 (by decide) ?_
              exact G_sub [6, 7, 1, 0] rfl (ih _ _ _ _ (lpl (so h) hx) K)
            · have h := if_f c52 h
              refine G_aload_n X dX6_loose_79 rfl 4 rfl ?_
              refine G_iload X dX6_loose_80 3 rfl ?_
              obtain ⟨r58, hz59, h⟩ := cl_k h
              refine G_callV_d X (As := [.int r5]) (rest := [.ref (fAd (eF E) 0)]) ok_X6_valueOf qw877 0 (eR0 _ _ _) rfl rfl ⟨rfl, rfl, Nat.le_of_ble_eq_true rfl, Nat.le_of_ble_eq_true rfl⟩ (m_X6_valueOf X.d hz59) rfl rfl (Nat.le_of_ble_eq_true rfl) dX6_loose_82 ?_
              refine G_aload_n X dX6_loose_85 rfl 4 rfl ?_
              refine G_iload X dX6_loose_86 2 rfl ?_
              obtain ⟨r60, hz61, h⟩ := cl_k h
              refine G_callV_d X (As := [.int r8]) (rest := [.double r58, .ref (fAd (eF E) 0)]) ok_X6_valueOf qw877 0 (eR0 _ _ _) rfl rfl ⟨rfl, rfl, Nat.le_of_ble_eq_true rfl, Nat.le_of_ble_eq_true rfl⟩ (m_X6_valueOf X.d hz61) rfl rfl (Nat.le_of_ble_eq_true rfl) dX6_loose_88 ?_
              refine G_dcmp X dX6_loose_91 ?_
              refine G_iflt X (tgt := 100) dX6_loose_92 (by decide) (fun c62 => ?_) (fun c62 => ?_)
              · have h := if_t c62 h
                refine G_iload X dX6_loose_100 2 rfl ?_
                obtain ⟨A65, hz64, h⟩ := cl_k h
                refine G_callV_v X (As := [.int r8]) (rest := []) ok_X6_isUsed qw1003 0 (eR0 _ _ _) rfl rfl ⟨rfl, rfl, Nat.le_of_ble_eq_true rfl, Nat.le_of_ble_eq_true rfl⟩ (m_X6_isUsed X.d hz64) rfl rfl (Nat.le_of_ble_eq_true rfl) dX6_loose_102 ?_
                obtain ⟨v66, ev66⟩ : ∃ y : Int32, y = l2 + 1 := ⟨_, rfl⟩
                have h := bv_k ev66 h
                refine G_iinc X (q := 6) (v := v66) (lv2 := [(2, .int v66), (7, .int v16), (6, .int v13), (5, .int r8), (4, .int r5), (0, .ref (fAd (eF E) 0)), (1, .int l1), (3, .int l3)]) dX6_loose_105 rfl (by rw [ev66]; rfl) (by decide) rfl ?_
                obtain ⟨v67, ev67⟩ : ∃ y : Int32, y = l3 + 1 := ⟨_, rfl⟩
                have h := bv_k ev67 h
                refine G_iinc X (q := 7) (v := v67) (lv2 := [(3, .int v67), (2, .int v66), (7, .int v16), (6, .int v13), (5, .int r8), (4, .int r5), (0, .ref (fAd (eF E) 0)), (1, .int l1)]) dX6_loose_108 rfl (by rw [ev67]; rfl) (by decide) rfl ?_
                refine G_goto X (tgt := 22) dX6_loose_111 (by decide) ?_
                exact G_sub [6, 7, 1, 0] rfl (ih _ _ _ _ (lpl (so h) hx) K)
              · have h := if_f c62 h
                refine G_iload X dX6_loose_95 3 rfl ?_
                refine G_goto X (tgt := 102) dX6_loose_97 (by decide) ?_
                obtain ⟨A70, hz69, h⟩ := cl_k h
                refine G_callV_v X (As := [.int r5]) (rest := []) ok_X6_isUsed qw1003 0 (eR0 _ _ _) rfl rfl ⟨rfl, rfl, Nat.le_of_ble_eq_true rfl, Nat.le_of_ble_eq_true rfl⟩ (m_X6_isUsed X.d hz69) rfl rfl (Nat.le_of_ble_eq_true rfl) dX6_loose_102 ?_
                obtain ⟨v71, ev71⟩ : ∃ y : Int32, y = l2 + 1 := ⟨_, rfl⟩
                have h := bv_k ev71 h
                refine G_iinc X (q := 6) (v := v71) (lv2 := [(2, .int v71), (7, .int v16), (6, .int v13), (5, .int r8), (4, .int r5), (0, .ref (fAd (eF E) 0)), (1, .int l1), (3, .int l3)]) dX6_loose_105 rfl (by rw [ev71]; rfl) (by decide) rfl ?_
                obtain ⟨v72, ev72⟩ : ∃ y : Int32, y = l3 + 1 := ⟨_, rfl⟩
                have h := bv_k ev72 h
                refine G_iinc X (q := 7) (v := v72) (lv2 := [(3, .int v72), (2, .int v71), (7, .int v16), (6, .int v13), (5, .int r8), (4, .int r5), (0, .ref (fAd (eF E) 0)), (1, .int l1)]) dX6_loose_108 rfl (by rw [ev72]; rfl) (by decide) rfl ?_
                refine G_goto X (tgt := 22) dX6_loose_111 (by decide) ?_
                exact G_sub [6, 7, 1, 0] rfl (ih _ _ _ _ (lpl (so h) hx) K)
      · have h := if_f c17 h
        refine G_aload_n X dX6_loose_68 rfl 4 rfl ?_
        refine G_iload X dX6_loose_69 1 rfl ?_
        refine G_ifeq X (tgt := 100) dX6_loose_71 (by decide) (fun c18 => ?_) (fun c18 => ?_)
        · have h := if_t c18 h
          refine G_iload X dX6_loose_100 2 rfl ?_
          obtain ⟨A21, hz20, h⟩ := cl_k h
          refine G_callV_v X (As := [.int r8]) (rest := []) ok_X6_isUsed qw1003 0 (eR0 _ _ _) rfl rfl ⟨rfl, rfl, Nat.le_of_ble_eq_true rfl, Nat.le_of_ble_eq_true rfl⟩ (m_X6_isUsed X.d hz20) rfl rfl (Nat.le_of_ble_eq_true rfl) dX6_loose_102 ?_
          obtain ⟨v22, ev22⟩ : ∃ y : Int32, y = l2 + 1 := ⟨_, rfl⟩
          have h := bv_k ev22 h
          refine G_iinc X (q := 6) (v := v22) (lv2 := [(2, .int v22), (7, .int v16), (6, .int v13), (5, .int r8), (4, .int r5), (0, .ref (fAd (eF E) 0)), (1, .int l1), (3, .int l3)]) dX6_loose_105 rfl (by rw [ev22]; rfl) (by decide) rfl ?_
          obtain ⟨v23, ev23⟩ : ∃ y : Int32, y = l3 + 1 := ⟨_, rfl⟩
          have h := bv_k ev23 h
          refine G_iinc X (q := 7) (v := v23) (lv2 := [(3, .int v23), (2, .int v22), (7, .int v16), (6, .int v13), (5, .int r8), (4, .int r5), (0, .ref (fAd (eF E) 0)), (1, .int l1)]) dX6_loose_108 rfl (by rw [ev23]; rfl) (by decide) rfl ?_
          refine G_goto X (tgt := 22) dX6_loose_111 (by decide) ?_
          exact G_sub [6, 7, 1, 0] rfl (ih _ _ _ _ (lpl (so h) hx) K)
        · have h := if_f c18 h
          refine G_iload X dX6_loose_74 0 rfl ?_
          refine G_ifeq X (tgt := 95) dX6_loose_76 (by decide) (fun c24 => ?_) (fun c24 => ?_)
          · have h := if_t c24 h
            refine G_iload X dX6_loose_95 3 rfl ?_
            refine G_goto X (tgt := 102) dX6_loose_97 (by decide) ?_
            obtain ⟨A27, hz26, h⟩ := cl_k h
            refine G_callV_v X (As := [.int r5]) (rest := []) ok_X6_isUsed qw1003 0 (eR0 _ _ _) rfl rfl ⟨rfl, rfl, Nat.le_of_ble_eq_true rfl, Nat.le_of_ble_eq_true rfl⟩ (m_X6_isUsed X.d hz26) rfl rfl (Nat.le_of_ble_eq_true rfl) dX6_loose_102 ?_
            obtain ⟨v28, ev28⟩ : ∃ y : Int32, y = l2 + 1 := ⟨_, rfl⟩
            have h := bv_k ev28 h
            refine G_iinc X (q := 6) (v := v28) (lv2 := [(2, .int v28), (7, .int v16), (6, .int v13), (5, .int r8), (4, .int r5), (0, .ref (fAd (eF E) 0)), (1, .int l1), (3, .int l3)]) dX6_loose_105 rfl (by rw [ev28]; rfl) (by decide) rfl ?_
            obtain ⟨v29, ev29⟩ : ∃ y : Int32, y = l3 + 1 := ⟨_, rfl⟩
            have h := bv_k ev29 h
            refine G_iinc X (q := 7) (v := v29) (lv2 := [(3, .int v29), (2, .int v28), (7, .int v16), (6, .int v13), (5, .int r8), (4, .int r5), (0, .ref (fAd (eF E) 0)), (1, .int l1)]) dX6_loose_108 rfl (by rw [ev29]; rfl) (by decide) rfl ?_
            refine G_goto X (tgt := 22) dX6_loose_111 (by decide) ?_
            exact G_sub [6, 7, 1, 0] rfl (ih _ _ _ _ (lpl (so h) hx) K)
          · have h := if_f c24 h
            refine G_aload_n X dX6_loose_79 rfl 4 rfl ?_
            refine G_iload X dX6_loose_80 3 rfl ?_
            obtain ⟨r30, hz31, h⟩ := cl_k h
            refine G_callV_d X (As := [.int r5]) (rest := [.ref (fAd (eF E) 0)]) ok_X6_valueOf qw877 0 (eR0 _ _ _) rfl rfl ⟨rfl, rfl, Nat.le_of_ble_eq_true rfl, Nat.le_of_ble_eq_true rfl⟩ (m_X6_valueOf X.d hz31) rfl rfl (Nat.le_of_ble_eq_true rfl) dX6_loose_82 ?_
            refine G_aload_n X dX6_loose_85 rfl 4 rfl ?_
            refine G_iload X dX6_loose_86 2 rfl ?_
            obtain ⟨r32, hz33, h⟩ := cl_k h
            refine G_callV_d X (As := [.int r8]) (rest := [.double r30, .ref (fAd (eF E) 0)]) ok_X6_valueOf qw877 0 (eR0 _ _ _) rfl rfl ⟨rfl, rfl, Nat.le_of_ble_eq_true rfl, Nat.le_of_ble_eq_true rfl⟩ (m_X6_valueOf X.d hz33) rfl rfl (Nat.le_of_ble_eq_true rfl) dX6_loose_88 ?_
            refine G_dcmp X dX6_loose_91 ?_
            refine G_iflt X (tgt := 100) dX6_loose_92 (by decide) (fun c34 => ?_) (fun c34 => ?_)
            · have h := if_t c34 h
              refine G_iload X dX6_loose_100 2 rfl ?_
              obtain ⟨A37, hz36, h⟩ := cl_k h
              refine G_callV_v X (As := [.int r8]) (rest := []) ok_X6_isUsed qw1003 0 (eR0 _ _ _) rfl rfl ⟨rfl, rfl, Nat.le_of_ble_eq_true rfl, Nat.le_of_ble_eq_true rfl⟩ (m_X6_isUsed X.d hz36) rfl rfl (Nat.le_of_ble_eq_true rfl) dX6_loose_102 ?_
              obtain ⟨v38, ev38⟩ : ∃ y : Int32, y = l2 + 1 := ⟨_, rfl⟩
              have h := bv_k ev38 h
              refine G_iinc X (q := 6) (v := v38) (lv2 := [(2, .int v38), (7, .int v16), (6, .int v13), (5, .int r8), (4, .int r5), (0, .ref (fAd (eF E) 0)), (1, .int l1), (3, .int l3)]) dX6_loose_105 rfl (by rw [ev38]; rfl) (by decide) rfl ?_
              obtain ⟨v39, ev39⟩ : ∃ y : Int32, y = l3 + 1 := ⟨_, rfl⟩
              have h := bv_k ev39 h
              refine G_iinc X (q := 7) (v := v39) (lv2 := [(3, .int v39), (2, .int v38), (7, .int v16), (6, .int v13), (5, .int r8), (4, .int r5), (0, .ref (fAd (eF E) 0)), (1, .int l1)]) dX6_loose_108 rfl (by rw [ev39]; rfl) (by decide) rfl ?_
              refine G_goto X (tgt := 22) dX6_loose_111 (by decide) ?_
              exact G_sub [6, 7, 1, 0] rfl (ih _ _ _ _ (lpl (so h) hx) K)
            · have h := if_f c34 h
              refine G_iload X dX6_loose_95 3 rfl ?_
              refine G_goto X (tgt := 102) dX6_loose_97 (by decide) ?_
              obtain ⟨A42, hz41, h⟩ := cl_k h
              refine G_callV_v X (As := [.int r5]) (rest := []) ok_X6_isUsed qw1003 0 (eR0 _ _ _) rfl rfl ⟨rfl, rfl, Nat.le_of_ble_eq_true rfl, Nat.le_of_ble_eq_true rfl⟩ (m_X6_isUsed X.d hz41) rfl rfl (Nat.le_of_ble_eq_true rfl) dX6_loose_102 ?_
              obtain ⟨v43, ev43⟩ : ∃ y : Int32, y = l2 + 1 := ⟨_, rfl⟩
              have h := bv_k ev43 h
              refine G_iinc X (q := 6) (v := v43) (lv2 := [(2, .int v43), (7, .int v16), (6, .int v13), (5, .int r8), (4, .int r5), (0, .ref (fAd (eF E) 0)), (1, .int l1), (3, .int l3)]) dX6_loose_105 rfl (by rw [ev43]; rfl) (by decide) rfl ?_
              obtain ⟨v44, ev44⟩ : ∃ y : Int32, y = l3 + 1 := ⟨_, rfl⟩
              have h := bv_k ev44 h
              refine G_iinc X (q := 7) (v := v44) (lv2 := [(3, .int v44), (2, .int v43), (7, .int v16), (6, .int v13), (5, .int r8), (4, .int r5), (0, .ref (fAd (eF E) 0)), (1, .int l1)]) dX6_loose_108 rfl (by rw [ev44]; rfl) (by decide) rfl ?_
              refine G_goto X (tgt := 22) dX6_loose_111 (by decide) ?_
              exact G_sub [6, 7, 1, 0] rfl (ih _ _ _ _ (lpl (so h) hx) K)
set_option maxHeartbeats 4000000 in
set_option maxRecDepth 100000 in
theorem b_X6_loose {E : pfE} (X : CX cellsR E cX6_loose RX6 rm_X6_loose 8) (x1 : Int32) (A : St) {out : Int32 × St} (hQ : Reti cellsR E cX6_loose out.1 out.2) (h : f_X6_loose x1 A = some out) : GG cellsR E A 0 [(0, .ref (fAd (eF E) 0)), (1, .int x1)] [] := by
  unfold f_X6_loose at h
  refine G_iload_n X dX6_loose_0 rfl 1 rfl ?_
  refine G_i2l X dX6_loose_1 rfl ?_
  refine G_lconst X (v := 1) dX6_loose_2 rfl ?_
  refine G_ldc2 X (v := 20) qw731 dX6_loose_3 ?_
  obtain ⟨r1, hz2, h⟩ := cl_k h
  refine G_callS_i X (As := [.long x1.toInt64, .long 1, .long 20]) (rest := []) ok_X6_in qw727 ⟨rfl, rfl, Nat.le_of_ble_eq_true rfl, Nat.le_of_ble_eq_true rfl⟩ (m_X6_in X.d hz2) rfl rfl (Nat.le_of_ble_eq_true rfl) dX6_loose_6 ?_
  refine G_ifne X (tgt := 18) dX6_loose_9 (by decide) (fun c3 => ?_) (fun c3 => ?_)
  · have h := if_t c3 h
    refine G_aload_n X dX6_loose_12 rfl 0 rfl ?_
    refine G_iconst X (v := 0) dX6_loose_13 rfl ?_
    obtain ⟨r76, A78, hz77, h⟩ := cl2_k h
    refine G_callV_i X (As := [.int 0]) (rest := []) ok_X6_finds qw737 0 (eR0 _ _ _) rfl rfl ⟨rfl, rfl, Nat.le_of_ble_eq_true rfl, Nat.le_of_ble_eq_true rfl⟩ (m_X6_finds X.d hz77) rfl rfl (Nat.le_of_ble_eq_true rfl) dX6_loose_14 ?_
    have e := so h
    subst e
    exact hQ _ _ dX6_loose_17
  · have h := if_f c3 h
    refine G_iconst X (v := 0) dX6_loose_18 rfl ?_
    refine G_istore_n X (lv2 := [(2, .int 0), (0, .ref (fAd (eF E) 0)), (1, .int x1)]) dX6_loose_19 rfl (by decide) rfl ?_
    refine G_iconst X (v := 0) dX6_loose_20 rfl ?_
    refine G_istore_n X (lv2 := [(3, .int 0), (2, .int 0), (0, .ref (fAd (eF E) 0)), (1, .int x1)]) dX6_loose_21 rfl (by decide) rfl ?_
    obtain ⟨ρ, hl, h⟩ := cl_k h
    obtain ⟨n, hl⟩ := loop_some hl
    refine G_sub [2, 3, 1, 0] rfl (g_X6_loose_L22 X x1 n _ _ _ ρ hl ?_)
    intro v74 A75 e
    subst e
    have h : f_X6_loose_X114 A75 v74 = some _ := h
    unfold f_X6_loose_X114 at h
    refine G_iload_n X dX6_loose_114 rfl 0 rfl ?_
    have e := so h
    subst e
    exact hQ _ _ dX6_loose_115
theorem m_X6_loose {l : Launch} {F : pfF} (hD : ∀ A, va_D (fA F) (cellsR (fAd F) (fCy F) A)) {x1 : Int32} {A : St} {out : Int32 × St} (h : f_X6_loose x1 A = some out) : Mt l F cellsR yX6_loose cX6_loose 8 (some .int) rm_X6_loose [.ref (fAd F 0), .int x1] A (va_Qi (fun (r : Int32) (u : St) => r = out.1 ∧ u = out.2) (Wd cellsR F) (fA F)) := by
  refine Met_i (by decide +kernel) (Nat.le_of_ble_eq_true rfl) hD (fun E el ef X hQ => ?_)
  subst el
  subst ef
  exact b_X6_loose X _ _ hQ h
theorem ok_X6_loose : OkV yX6_loose cX6_loose 8 (some .int) 1 := ⟨qw1012, qw1013, qw6, qw1014, by decide, by decide, by decide⟩
noncomputable def f_X6_seed (x1 : Int32) (A : St) : Option (Int32 × St) :=
  bv (A.1 1 116) fun v1 =>
  bv (upI A 1 116 x1) fun A2 =>
  some (v1, A2)
abbrev rm_X6_seed : Room := { frames := 0, cells := 0, slots := 0, locals := 0 }
set_option maxHeartbeats 4000000 in
set_option maxRecDepth 100000 in
theorem b_X6_seed {E : pfE} (X : CX cellsR E cX6_seed RX6 rm_X6_seed 3) (x1 : Int32) (A : St) {out : Int32 × St} (hQ : Reti cellsR E cX6_seed out.1 out.2) (h : f_X6_seed x1 A = some out) : GG cellsR E A 0 [(0, .ref (fAd (eF E) 0)), (1, .int x1)] [] := by
  unfold f_X6_seed at h
  refine G_aload_n X dX6_seed_0 rfl 0 rfl ?_
  refine G_getf X inX6 0 (eR0 _ _ _) rfl 0 (by decide) qw654 rfl dX6_seed_1 ?_
  refine G_bipush X (v := 116) dX6_seed_4 rfl ?_
  refine G_iald X (j := 116) 1 (eR1 _ _ _) (vi rfl) rfl dX6_seed_6 ?_
  refine G_topi (fun v1 ev1 => ?_)
  have h := bv_k ev1 h
  refine G_istore_n X (lv2 := [(2, .int v1), (0, .ref (fAd (eF E) 0)), (1, .int x1)]) dX6_seed_7 rfl (by decide) rfl ?_
  refine G_aload_n X dX6_seed_8 rfl 1 rfl ?_
  refine G_getf X inX6 0 (eR0 _ _ _) rfl 0 (by decide) qw654 rfl dX6_seed_9 ?_
  refine G_bipush X (v := 116) dX6_seed_12 rfl ?_
  refine G_iload_n X dX6_seed_14 rfl 2 rfl ?_
  refine G_iast X (j := 116) 1 (eR1 _ _ _) (sRI _ _ _ _ 116 _ _ (fun _ => rfl)) (vi rfl) rfl dX6_seed_15 ?_
  refine G_topS (fun A2 eA2 => ?_)
  have h := bv_k eA2 h
  refine G_iload_n X dX6_seed_16 rfl 0 rfl ?_
  have e := so h
  subst e
  exact hQ _ _ dX6_seed_17
theorem m_X6_seed {l : Launch} {F : pfF} (hD : ∀ A, va_D (fA F) (cellsR (fAd F) (fCy F) A)) {x1 : Int32} {A : St} {out : Int32 × St} (h : f_X6_seed x1 A = some out) : Mt l F cellsR yX6_seed cX6_seed 3 (some .int) rm_X6_seed [.ref (fAd F 0), .int x1] A (va_Qi (fun (r : Int32) (u : St) => r = out.1 ∧ u = out.2) (Wd cellsR F) (fA F)) := by
  refine Met_i (by decide +kernel) (Nat.le_of_ble_eq_true rfl) hD (fun E el ef X hQ => ?_)
  subst el
  subst ef
  exact b_X6_seed X _ _ hQ h
theorem ok_X6_seed : OkV yX6_seed cX6_seed 3 (some .int) 1 := ⟨qw1021, qw1022, qw6, qw1023, by decide, by decide, by decide⟩
noncomputable def f_X6_isShelf (x0 : Int32) : Option (Bool) :=
  cl (f_X6_in x0.toInt64 0 3) fun r1 =>
  some r1
abbrev rm_X6_isShelf : Room := { frames := 1, cells := 0, slots := 0, locals := 25 }
set_option maxHeartbeats 4000000 in
set_option maxRecDepth 100000 in
theorem b_X6_isShelf {wl : pfW} {E : pfE} (X : CX wl E cX6_isShelf RX6 rm_X6_isShelf 1) (x0 : Int32) {A : St} {out : Bool} (hQ : Reti wl E cX6_isShelf (bI out) A) (h : f_X6_isShelf x0 = some out) : GG wl E A 0 [(0, .int x0)] [] := by
  unfold f_X6_isShelf at h
  refine G_iload_n X dX6_isShelf_0 rfl 0 rfl ?_
  refine G_i2l X dX6_isShelf_1 rfl ?_
  refine G_lconst X (v := 0) dX6_isShelf_2 rfl ?_
  refine G_ldc2 X (v := 3) qw730 dX6_isShelf_3 ?_
  obtain ⟨r1, hz2, h⟩ := cl_k h
  refine G_callS_i X (As := [.long x0.toInt64, .long 0, .long 3]) (rest := []) ok_X6_in qw727 ⟨rfl, rfl, Nat.le_of_ble_eq_true rfl, Nat.le_of_ble_eq_true rfl⟩ (m_X6_in X.d hz2) rfl rfl (Nat.le_of_ble_eq_true rfl) dX6_isShelf_6 ?_
  have e := so h
  subst e
  exact hQ _ _ dX6_isShelf_9
theorem m_X6_isShelf {wl : pfW} {l : Launch} {F : pfF} (hD : ∀ A, va_D (fA F) (wl (fAd F) (fCy F) A)) {x0 : Int32} {A : St} {out : Bool} (h : f_X6_isShelf x0 = some out) : Mt l F wl yX6_isShelf cX6_isShelf 1 (some .boolean) rm_X6_isShelf [.int x0] A (va_Qi (fun (r : Int32) (u : St) => r = bI out ∧ u = A) (Wd wl F) (fA F)) := by
  refine Met_iz (by decide +kernel) (Nat.le_of_ble_eq_true rfl) hD (nar_bI _) (fun E el ef X hQ => ?_)
  subst el
  subst ef
  exact b_X6_isShelf X _ hQ h
theorem ok_X6_isShelf : OkS yX6_isShelf cX6_isShelf 1 (some .boolean) 1 := ⟨qw1029, qw6, qw1030, by decide, by decide, by decide⟩
noncomputable def f_X6_standing_L4 (A : St) (l1 : Int32) (l2 : Int32) (l3 : Int32) : Option ((Int32 × Int32) ⊕ (Int32)) :=
  if 6 ≤ l3 then
    some (.inr l2)
  else
    gI l1 4 <|
    gI l3 6 <|
    if (A.1 (8 + l1.toNatClampNeg) l3.toNatClampNeg) ≤ 0 then
      bv (l2 + 0) fun v6 =>
      bv (l3 + 1) fun v7 =>
      some (.inl (v6, v7))
    else
      bv (l2 + 1) fun v8 =>
      bv (l3 + 1) fun v9 =>
      some (.inl (v8, v9))
noncomputable def f_X6_standing_X35 (A : St) (m2 : Int32) : Option (Int32) :=
  some m2
noncomputable def f_X6_standing (x1 : Int32) (A : St) : Option (Int32) :=
  cl (loop (fun s => f_X6_standing_L4 A x1 s.1 s.2) (0, 0)) (fun s => f_X6_standing_X35 A s)
abbrev rm_X6_standing : Room := { frames := 0, cells := 0, slots := 0, locals := 0 }
set_option maxHeartbeats 4000000 in
set_option maxRecDepth 100000 in
theorem g_X6_standing_L4 {E : pfE} (X : CX cellsR E cX6_standing RX6 rm_X6_standing 4) (A : St) (l1 : Int32) : ∀ (n : Nat) (l2 : Int32) (l3 : Int32) (ρ : Int32), lp (fun s => f_X6_standing_L4 A l1 s.1 s.2) n (l2, l3) = some ρ → (∀ (q2 : Int32), ρ = q2 → GG cellsR E A 35 [(2, .int q2)] []) → GG cellsR E A 4 [(0, .ref (fAd (eF E) 0)), (1, .int l1), (2, .int l2), (3, .int l3)] [] := by
  intro n
  induction n with
  | zero =>
    intro l2 l3 ρ h
    cases h
  | succ n ih =>
    intro l2 l3 ρ h0 K
    obtain ⟨x, hb, hx⟩ := lp_step h0
    have h : f_X6_standing_L4 A l1 l2 l3 = some x := hb
    unfold f_X6_standing_L4 at h
    clear hb h0
    refine G_iload_n X dX6_standing_4 rfl 3 rfl ?_
    refine G_bipush X (v := 6) dX6_standing_5 rfl ?_
    refine G_icge X (tgt := 35) dX6_standing_7 (by decide) (fun c1 => ?_) (fun c1 => ?_)
    · have h := if_t c1 h
      exact G_sub [2] rfl (K _ (lpr (so h) hx).symm)
    · have h := if_f c1 h
      refine G_iload_n X dX6_standing_10 rfl 2 rfl ?_
      refine G_aload_n X dX6_standing_11 rfl 0 rfl ?_
      refine G_getf X inX6 0 (eR0 _ _ _) rfl 10 (by decide) qw664 rfl dX6_standing_12 ?_
      refine G_iload_n X dX6_standing_15 rfl 1 rfl ?_
      have hi2 := gI_n h
      have h := gI_k h
      have hw3 := vlt hi2
      refine G_aald X (t0 := 3) (b := fAd (eF E) (8 + l1.toNatClampNeg)) 7 (eR7 _ _ _) rfl rfl hi2 (if_pos hw3) dX6_standing_16 ?_
      refine G_iload_n X dX6_standing_17 rfl 3 rfl ?_
      have hi4 := gI_n h
      have h := gI_k h
      refine G_iald X (j := l3.toNatClampNeg) (8 + l1.toNatClampNeg) (eRf8 _ _ _ _ hw3) hi4 rfl dX6_standing_18 ?_
      refine G_ifle X (tgt := 26) dX6_standing_19 (by decide) (fun c5 => ?_) (fun c5 => ?_)
      · have h := if_t c5 h
        refine G_iconst X (v := 0) dX6_standing_26 rfl ?_
        refine G_iadd X dX6_standing_27 ?_
        refine G_topi (fun v6 ev6 => ?_)
        have h := bv_k ev6 h
        refine G_istore_n X (lv2 := [(2, .int v6), (0, .ref (fAd (eF E) 0)), (1, .int l1), (3, .int l3)]) dX6_standing_28 rfl (by decide) rfl ?_
        obtain ⟨v7, ev7⟩ : ∃ y : Int32, y = l3 + 1 := ⟨_, rfl⟩
        have h := bv_k ev7 h
        refine G_iinc X (q := 3) (v := v7) (lv2 := [(3, .int v7), (2, .int v6), (0, .ref (fAd (eF E) 0)), (1, .int l1)]) dX6_standing_29 rfl (by rw [ev7]; rfl) (by decide) rfl ?_
        refine G_goto X (tgt := 4) dX6_standing_32 (by decide) ?_
        exact G_sub [2, 3, 1, 0] rfl (ih _ _ _ (lpl (so h) hx) K)
      · have h := if_f c5 h
        refine G_iconst X (v := 1) dX6_standing_22 rfl ?_
        refine G_goto X (tgt := 27) dX6_standing_23 (by decide) ?_
        refine G_iadd X dX6_standing_27 ?_
        refine G_topi (fun v8 ev8 => ?_)
        have h := bv_k ev8 h
        refine G_istore_n X (lv2 := [(2, .int v8), (0, .ref (fAd (eF E) 0)), (1, .int l1), (3, .int l3)]) dX6_standing_28 rfl (by decide) rfl ?_
        obtain ⟨v9, ev9⟩ : ∃ y : Int32, y = l3 + 1 := ⟨_, rfl⟩
        have h := bv_k ev9 h
        refine G_iinc X (q := 3) (v := v9) (lv2 := [(3, .int v9), (2, .int v8), (0, .ref (fAd (eF E) 0)), (1, .int l1)]) dX6_standing_29 rfl (by rw [ev9]; rfl) (by decide) rfl ?_
        refine G_goto X (tgt := 4) dX6_standing_32 (by decide) ?_
        exact G_sub [2, 3, 1, 0] rfl (ih _ _ _ (lpl (so h) hx) K)
set_option maxHeartbeats 4000000 in
set_option maxRecDepth 100000 in
theorem b_X6_standing {E : pfE} (X : CX cellsR E cX6_standing RX6 rm_X6_standing 4) (x1 : Int32) (A : St) {out : Int32} (hQ : Reti cellsR E cX6_standing out A) (h : f_X6_standing x1 A = some out) : GG cellsR E A 0 [(0, .ref (fAd (eF E) 0)), (1, .int x1)] [] := by
  unfold f_X6_standing at h
  refine G_iconst X (v := 0) dX6_standing_0 rfl ?_
  refine G_istore_n X (lv2 := [(2, .int 0), (0, .ref (fAd (eF E) 0)), (1, .int x1)]) dX6_standing_1 rfl (by decide) rfl ?_
  refine G_iconst X (v := 0) dX6_standing_2 rfl ?_
  refine G_istore_n X (lv2 := [(3, .int 0), (2, .int 0), (0, .ref (fAd (eF E) 0)), (1, .int x1)]) dX6_standing_3 rfl (by decide) rfl ?_
  obtain ⟨ρ, hl, h⟩ := cl_k h
  obtain ⟨n, hl⟩ := loop_some hl
  refine G_sub [2, 3, 1, 0] rfl (g_X6_standing_L4 X A x1 n _ _ ρ hl ?_)
  intro v10 e
  rw [e] at h
  have h : f_X6_standing_X35 A v10 = some _ := h
  unfold f_X6_standing_X35 at h
  refine G_iload_n X dX6_standing_35 rfl 0 rfl ?_
  have e := so h
  subst e
  exact hQ _ _ dX6_standing_36
theorem m_X6_standing {l : Launch} {F : pfF} (hD : ∀ A, va_D (fA F) (cellsR (fAd F) (fCy F) A)) {x1 : Int32} {A : St} {out : Int32} (h : f_X6_standing x1 A = some out) : Mt l F cellsR yX6_standing cX6_standing 4 (some .int) rm_X6_standing [.ref (fAd F 0), .int x1] A (va_Qi (fun (r : Int32) (u : St) => r = out ∧ u = A) (Wd cellsR F) (fA F)) := by
  refine Met_i (by decide +kernel) (Nat.le_of_ble_eq_true rfl) hD (fun E el ef X hQ => ?_)
  subst el
  subst ef
  exact b_X6_standing X _ _ hQ h
theorem ok_X6_standing : OkV yX6_standing cX6_standing 4 (some .int) 1 := ⟨qw1033, qs32, qw6, qw1034, by decide, by decide, by decide⟩
noncomputable def f_X6_shelf_L36 (l1 : Int32) (l3 : Int32) (l4 : Int32) (A : St) : Option ((Int32 × St) ⊕ (St)) :=
  if 6 ≤ l4 then
    some (.inr A)
  else
    gI l1 4 <|
    gI l4 6 <|
    bv (upI A (8 + l1.toNatClampNeg) l4.toNatClampNeg 0) fun A18 =>
    bv (l4 + 1) fun v19 =>
    some (.inl (v19, A18))
noncomputable def f_X6_shelf_X59 (A : St) (m3 : Int32) : Option (Int32 × St) :=
  some (m3, A)
noncomputable def f_X6_shelf (x1 : Int32) (x2 : Int32) (A : St) : Option (Int32 × St) :=
  cl (f_X6_isShelf x1) fun r1 =>
  if (bI r1) = 0 then
    cl2 (f_X6_finds 0 A) fun r4 A6 =>
    some (r4, A6)
  else
    cl (f_X6_isKind x2) fun r7 =>
    if (bI r7) = 0 then
      cl2 (f_X6_finds 0 A) fun r21 A23 =>
      some (r21, A23)
    else
      cl (f_X6_standing x1 A) fun r10 =>
      gI x1 4 <|
      bv (upI A 6 x1.toNatClampNeg x2) fun A13 =>
      cl (loop (fun s => f_X6_shelf_L36 x1 r10 s.1 s.2) (0, A13)) (fun s => f_X6_shelf_X59 s r10)
abbrev rm_X6_shelf : Room := { frames := 2, cells := 0, slots := 0, locals := 45 }
set_option maxHeartbeats 4000000 in
set_option maxRecDepth 100000 in
theorem g_X6_shelf_L36 {E : pfE} (X : CX cellsR E cX6_shelf RX6 rm_X6_shelf 5) (l1 : Int32) (l3 : Int32) : ∀ (n : Nat) (l4 : Int32) (A : St) (ρ : St), lp (fun s => f_X6_shelf_L36 l1 l3 s.1 s.2) n (l4, A) = some ρ → (∀ (B : St), ρ = B → GG cellsR E B 59 [(3, .int l3)] []) → GG cellsR E A 36 [(0, .ref (fAd (eF E) 0)), (1, .int l1), (3, .int l3), (4, .int l4)] [] := by
  intro n
  induction n with
  | zero =>
    intro l4 A ρ h
    cases h
  | succ n ih =>
    intro l4 A ρ h0 K
    obtain ⟨x, hb, hx⟩ := lp_step h0
    have h : f_X6_shelf_L36 l1 l3 l4 A = some x := hb
    unfold f_X6_shelf_L36 at h
    clear hb h0
    refine G_iload X dX6_shelf_36 3 rfl ?_
    refine G_bipush X (v := 6) dX6_shelf_38 rfl ?_
    refine G_icge X (tgt := 59) dX6_shelf_40 (by decide) (fun c14 => ?_) (fun c14 => ?_)
    · have h := if_t c14 h
      exact G_sub [2] rfl (K _ (lpr (so h) hx).symm)
    · have h := if_f c14 h
      refine G_aload_n X dX6_shelf_43 rfl 0 rfl ?_
      refine G_getf X inX6 0 (eR0 _ _ _) rfl 10 (by decide) qw664 rfl dX6_shelf_44 ?_
      refine G_iload_n X dX6_shelf_47 rfl 1 rfl ?_
      have hi15 := gI_n h
      have h := gI_k h
      have hw16 := vlt hi15
      refine G_aald X (t0 := 3) (b := fAd (eF E) (8 + l1.toNatClampNeg)) 7 (eR7 _ _ _) rfl rfl hi15 (if_pos hw16) dX6_shelf_48 ?_
      refine G_iload X dX6_shelf_49 3 rfl ?_
      refine G_iconst X (v := 0) dX6_shelf_51 rfl ?_
      have hi17 := gI_n h
      have h := gI_k h
      refine G_iast X (j := l4.toNatClampNeg) (8 + l1.toNatClampNeg) (eRf8 _ _ _ _ hw16) (sRI _ _ _ _ l4.toNatClampNeg _ _ (fun _ => fR8 _ _ _ _ hw16)) hi17 rfl dX6_shelf_52 ?_
      refine G_topS (fun A18 eA18 => ?_)
      have h := bv_k eA18 h
      obtain ⟨v19, ev19⟩ : ∃ y : Int32, y = l4 + 1 := ⟨_, rfl⟩
      have h := bv_k ev19 h
      refine G_iinc X (q := 3) (v := v19) (lv2 := [(4, .int v19), (0, .ref (fAd (eF E) 0)), (1, .int l1), (3, .int l3)]) dX6_shelf_53 rfl (by rw [ev19]; rfl) (by decide) rfl ?_
      refine G_goto X (tgt := 36) dX6_shelf_56 (by decide) ?_
      exact G_sub [1, 2, 3, 0] rfl (ih _ _ _ (lpl (so h) hx) K)
set_option maxHeartbeats 4000000 in
set_option maxRecDepth 100000 in
theorem b_X6_shelf {E : pfE} (X : CX cellsR E cX6_shelf RX6 rm_X6_shelf 5) (x1 : Int32) (x2 : Int32) (A : St) {out : Int32 × St} (hQ : Reti cellsR E cX6_shelf out.1 out.2) (h : f_X6_shelf x1 x2 A = some out) : GG cellsR E A 0 [(0, .ref (fAd (eF E) 0)), (1, .int x1), (2, .int x2)] [] := by
  unfold f_X6_shelf at h
  refine G_iload_n X dX6_shelf_0 rfl 1 rfl ?_
  obtain ⟨r1, hz2, h⟩ := cl_k h
  refine G_callS_i X (As := [.int x1]) (rest := []) ok_X6_isShelf qw1028 ⟨rfl, rfl, Nat.le_of_ble_eq_true rfl, Nat.le_of_ble_eq_true rfl⟩ (m_X6_isShelf X.d hz2) rfl rfl (Nat.le_of_ble_eq_true rfl) dX6_shelf_1 ?_
  refine G_ifeq X (tgt := 14) dX6_shelf_4 (by decide) (fun c3 => ?_) (fun c3 => ?_)
  · have h := if_t c3 h
    refine G_aload_n X dX6_shelf_14 rfl 0 rfl ?_
    refine G_iconst X (v := 0) dX6_shelf_15 rfl ?_
    obtain ⟨r4, A6, hz5, h⟩ := cl2_k h
    refine G_callV_i X (As := [.int 0]) (rest := []) ok_X6_finds qw737 0 (eR0 _ _ _) rfl rfl ⟨rfl, rfl, Nat.le_of_ble_eq_true rfl, Nat.le_of_ble_eq_true rfl⟩ (m_X6_finds X.d hz5) rfl rfl (Nat.le_of_ble_eq_true rfl) dX6_shelf_16 ?_
    have e := so h
    subst e
    exact hQ _ _ dX6_shelf_19
  · have h := if_f c3 h
    refine G_iload_n X dX6_shelf_7 rfl 2 rfl ?_
    obtain ⟨r7, hz8, h⟩ := cl_k h
    refine G_callS_i X (As := [.int x2]) (rest := []) ok_X6_isKind qw723 ⟨rfl, rfl, Nat.le_of_ble_eq_true rfl, Nat.le_of_ble_eq_true rfl⟩ (m_X6_isKind X.d hz8) rfl rfl (Nat.le_of_ble_eq_true rfl) dX6_shelf_8 ?_
    refine G_ifne X (tgt := 20) dX6_shelf_11 (by decide) (fun c9 => ?_) (fun c9 => ?_)
    · have h := if_t c9 h
      refine G_aload_n X dX6_shelf_14 rfl 0 rfl ?_
      refine G_iconst X (v := 0) dX6_shelf_15 rfl ?_
      obtain ⟨r21, A23, hz22, h⟩ := cl2_k h
      refine G_callV_i X (As := [.int 0]) (rest := []) ok_X6_finds qw737 0 (eR0 _ _ _) rfl rfl ⟨rfl, rfl, Nat.le_of_ble_eq_true rfl, Nat.le_of_ble_eq_true rfl⟩ (m_X6_finds X.d hz22) rfl rfl (Nat.le_of_ble_eq_true rfl) dX6_shelf_16 ?_
      have e := so h
      subst e
      exact hQ _ _ dX6_shelf_19
    · have h := if_f c9 h
      refine G_aload_n X dX6_shelf_20 rfl 0 rfl ?_
      refine G_iload_n X dX6_shelf_21 rfl 1 rfl ?_
      obtain ⟨r10, hz11, h⟩ := cl_k h
      refine G_callV_i X (As := [.int x1]) (rest := []) ok_X6_standing qw1031 0 (eR0 _ _ _) rfl rfl ⟨rfl, rfl, Nat.le_of_ble_eq_true rfl, Nat.le_of_ble_eq_true rfl⟩ (m_X6_standing X.d hz11) rfl rfl (Nat.le_of_ble_eq_true rfl) dX6_shelf_22 ?_
      refine G_istore_n X (lv2 := [(3, .int r10), (0, .ref (fAd (eF E) 0)), (1, .int x1), (2, .int x2)]) dX6_shelf_25 rfl (by decide) rfl ?_
      refine G_aload_n X dX6_shelf_26 rfl 1 rfl ?_
      refine G_getf X inX6 0 (eR0 _ _ _) rfl 9 (by decide) qw663 rfl dX6_shelf_27 ?_
      refine G_iload_n X dX6_shelf_30 rfl 2 rfl ?_
      refine G_iload_n X dX6_shelf_31 rfl 3 rfl ?_
      have hi12 := gI_n h
      have h := gI_k h
      refine G_iast X (j := x1.toNatClampNeg) 6 (eR6 _ _ _) (sRI _ _ _ _ x1.toNatClampNeg _ _ (fun _ => rfl)) hi12 rfl dX6_shelf_32 ?_
      refine G_topS (fun A13 eA13 => ?_)
      have h := bv_k eA13 h
      refine G_iconst X (v := 0) dX6_shelf_33 rfl ?_
      refine G_istore X (lv2 := [(4, .int 0), (3, .int r10), (0, .ref (fAd (eF E) 0)), (1, .int x1), (2, .int x2)]) dX6_shelf_34 (by decide) rfl ?_
      obtain ⟨ρ, hl, h⟩ := cl_k h
      obtain ⟨n, hl⟩ := loop_some hl
      refine G_sub [2, 3, 1, 0] rfl (g_X6_shelf_L36 X x1 r10 n _ _ ρ hl ?_)
      intro A20 e
      rw [e] at h
      have h : f_X6_shelf_X59 A20 r10 = some _ := h
      unfold f_X6_shelf_X59 at h
      refine G_iload_n X dX6_shelf_59 rfl 0 rfl ?_
      have e := so h
      subst e
      exact hQ _ _ dX6_shelf_60
theorem m_X6_shelf {l : Launch} {F : pfF} (hD : ∀ A, va_D (fA F) (cellsR (fAd F) (fCy F) A)) {x1 : Int32} {x2 : Int32} {A : St} {out : Int32 × St} (h : f_X6_shelf x1 x2 A = some out) : Mt l F cellsR yX6_shelf cX6_shelf 5 (some .int) rm_X6_shelf [.ref (fAd F 0), .int x1, .int x2] A (va_Qi (fun (r : Int32) (u : St) => r = out.1 ∧ u = out.2) (Wd cellsR F) (fA F)) := by
  refine Met_i (by decide +kernel) (Nat.le_of_ble_eq_true rfl) hD (fun E el ef X hQ => ?_)
  subst el
  subst ef
  exact b_X6_shelf X _ _ _ hQ h
theorem ok_X6_shelf : OkV yX6_shelf cX6_shelf 5 (some .int) 2 := ⟨qw1025, qw1026, qw6, qw1027, by decide, by decide, by decide⟩
noncomputable def f_X6_lay (x1 : Int32) (x2 : Int32) (x3 : Int32) (A : St) : Option (Int32 × St) :=
  cl (f_X6_isShelf x1) fun r1 =>
  if (bI r1) = 0 then
    cl2 (f_X6_finds 0 A) fun r4 A6 =>
    some (r4, A6)
  else
    cl (f_X6_in x2.toInt64 0 5) fun r7 =>
    if (bI r7) = 0 then
      cl2 (f_X6_finds 0 A) fun r10 A12 =>
      some (r10, A12)
    else
      cl (f_X6_isItem x3 A) fun r13 =>
      if (bI r13) = 0 then
        cl2 (f_X6_finds 0 A) fun r39 A41 =>
        some (r39, A41)
      else
        cl (f_X6_it x3 0 A) fun r16 =>
        gI x1 4 <|
        cl (f_X6_isUnder r16 (A.1 6 x1.toNatClampNeg)) fun r19 =>
        if (bI r19) = 0 then
          cl2 (f_X6_finds 2 A) fun r36 A38 =>
          some (r36, A38)
        else
          gI x1 4 <|
          gI x2 6 <|
          bv ((A.1 (8 + x1.toNatClampNeg) x2.toNatClampNeg) - 1) fun v25 =>
          gI x1 4 <|
          gI x2 6 <|
          bv (upI A (8 + x1.toNatClampNeg) x2.toNatClampNeg (x3 + 1)) fun A29 =>
          gI x1 4 <|
          cl (f_X6_it x3 0 A29) fun r32 =>
          gI x2 6 <|
          bv (upI A29 (13 + x1.toNatClampNeg) x2.toNatClampNeg r32) fun A35 =>
          some (v25, A35)
abbrev rm_X6_lay : Room := { frames := 2, cells := 0, slots := 0, locals := 46 }
set_option maxHeartbeats 4000000 in
set_option maxRecDepth 100000 in
theorem b_X6_lay {E : pfE} (X : CX cellsR E cX6_lay RX6 rm_X6_lay 5) (x1 : Int32) (x2 : Int32) (x3 : Int32) (A : St) {out : Int32 × St} (hQ : Reti cellsR E cX6_lay out.1 out.2) (h : f_X6_lay x1 x2 x3 A = some out) : GG cellsR E A 0 [(0, .ref (fAd (eF E) 0)), (1, .int x1), (2, .int x2), (3, .int x3)] [] := by
  unfold f_X6_lay at h
  refine G_iload_n X dX6_lay_0 rfl 1 rfl ?_
  obtain ⟨r1, hz2, h⟩ := cl_k h
  refine G_callS_i X (As := [.int x1]) (rest := []) ok_X6_isShelf qw1028 ⟨rfl, rfl, Nat.le_of_ble_eq_true rfl, Nat.le_of_ble_eq_true rfl⟩ (m_X6_isShelf X.d hz2) rfl rfl (Nat.le_of_ble_eq_true rfl) dX6_lay_1 ?_
  refine G_ifeq X (tgt := 27) dX6_lay_4 (by decide) (fun c3 => ?_) (fun c3 => ?_)
  · have h := if_t c3 h
    refine G_aload_n X dX6_lay_27 rfl 0 rfl ?_
    refine G_iconst X (v := 0) dX6_lay_28 rfl ?_
    obtain ⟨r4, A6, hz5, h⟩ := cl2_k h
    refine G_callV_i X (As := [.int 0]) (rest := []) ok_X6_finds qw737 0 (eR0 _ _ _) rfl rfl ⟨rfl, rfl, Nat.le_of_ble_eq_true rfl, Nat.le_of_ble_eq_true rfl⟩ (m_X6_finds X.d hz5) rfl rfl (Nat.le_of_ble_eq_true rfl) dX6_lay_29 ?_
    have e := so h
    subst e
    exact hQ _ _ dX6_lay_32
  · have h := if_f c3 h
    refine G_iload_n X dX6_lay_7 rfl 2 rfl ?_
    refine G_i2l X dX6_lay_8 rfl ?_
    refine G_lconst X (v := 0) dX6_lay_9 rfl ?_
    refine G_ldc2 X (v := 5) qw726 dX6_lay_10 ?_
    obtain ⟨r7, hz8, h⟩ := cl_k h
    refine G_callS_i X (As := [.long x2.toInt64, .long 0, .long 5]) (rest := []) ok_X6_in qw727 ⟨rfl, rfl, Nat.le_of_ble_eq_true rfl, Nat.le_of_ble_eq_true rfl⟩ (m_X6_in X.d hz8) rfl rfl (Nat.le_of_ble_eq_true rfl) dX6_lay_13 ?_
    refine G_ifeq X (tgt := 27) dX6_lay_16 (by decide) (fun c9 => ?_) (fun c9 => ?_)
    · have h := if_t c9 h
      refine G_aload_n X dX6_lay_27 rfl 0 rfl ?_
      refine G_iconst X (v := 0) dX6_lay_28 rfl ?_
      obtain ⟨r10, A12, hz11, h⟩ := cl2_k h
      refine G_callV_i X (As := [.int 0]) (rest := []) ok_X6_finds qw737 0 (eR0 _ _ _) rfl rfl ⟨rfl, rfl, Nat.le_of_ble_eq_true rfl, Nat.le_of_ble_eq_true rfl⟩ (m_X6_finds X.d hz11) rfl rfl (Nat.le_of_ble_eq_true rfl) dX6_lay_29 ?_
      have e := so h
      subst e
      exact hQ _ _ dX6_lay_32
    · have h := if_f c9 h
      refine G_aload_n X dX6_lay_19 rfl 0 rfl ?_
      refine G_iload_n X dX6_lay_20 rfl 3 rfl ?_
      obtain ⟨r13, hz14, h⟩ := cl_k h
      refine G_callV_i X (As := [.int x3]) (rest := []) ok_X6_isItem qw746 0 (eR0 _ _ _) rfl rfl ⟨rfl, rfl, Nat.le_of_ble_eq_true rfl, Nat.le_of_ble_eq_true rfl⟩ (m_X6_isItem X.d hz14) rfl rfl (Nat.le_of_ble_eq_true rfl) dX6_lay_21 ?_
      refine G_ifne X (tgt := 33) dX6_lay_24 (by decide) (fun c15 => ?_) (fun c15 => ?_)
      · have h := if_t c15 h
        refine G_aload_n X dX6_lay_27 rfl 0 rfl ?_
        refine G_iconst X (v := 0) dX6_lay_28 rfl ?_
        obtain ⟨r39, A41, hz40, h⟩ := cl2_k h
        refine G_callV_i X (As := [.int 0]) (rest := []) ok_X6_finds qw737 0 (eR0 _ _ _) rfl rfl ⟨rfl, rfl, Nat.le_of_ble_eq_true rfl, Nat.le_of_ble_eq_true rfl⟩ (m_X6_finds X.d hz40) rfl rfl (Nat.le_of_ble_eq_true rfl) dX6_lay_29 ?_
        have e := so h
        subst e
        exact hQ _ _ dX6_lay_32
      · have h := if_f c15 h
        refine G_aload_n X dX6_lay_33 rfl 0 rfl ?_
        refine G_iload_n X dX6_lay_34 rfl 3 rfl ?_
        refine G_iconst X (v := 0) dX6_lay_35 rfl ?_
        obtain ⟨r16, hz17, h⟩ := cl_k h
        refine G_callV_i X (As := [.int x3, .int 0]) (rest := []) ok_X6_it qw751 0 (eR0 _ _ _) rfl rfl ⟨rfl, rfl, Nat.le_of_ble_eq_true rfl, Nat.le_of_ble_eq_true rfl⟩ (m_X6_it X.d hz17) rfl rfl (Nat.le_of_ble_eq_true rfl) dX6_lay_36 ?_
        refine G_aload_n X dX6_lay_39 rfl 0 rfl ?_
        refine G_getf X inX6 0 (eR0 _ _ _) rfl 9 (by decide) qw663 rfl dX6_lay_40 ?_
        refine G_iload_n X dX6_lay_43 rfl 1 rfl ?_
        have hi18 := gI_n h
        have h := gI_k h
        refine G_iald X (j := x1.toNatClampNeg) 6 (eR6 _ _ _) hi18 rfl dX6_lay_44 ?_
        obtain ⟨r19, hz20, h⟩ := cl_k h
        refine G_callS_i X (As := [.int r16, .int (A.1 6 x1.toNatClampNeg)]) (rest := []) ok_X6_isUnder qw767 ⟨rfl, rfl, Nat.le_of_ble_eq_true rfl, Nat.le_of_ble_eq_true rfl⟩ (m_X6_isUnder X.d hz20) rfl rfl (Nat.le_of_ble_eq_true rfl) dX6_lay_45 ?_
        refine G_ifne X (tgt := 57) dX6_lay_48 (by decide) (fun c21 => ?_) (fun c21 => ?_)
        · have h := if_t c21 h
          refine G_aload_n X dX6_lay_51 rfl 0 rfl ?_
          refine G_iconst X (v := 2) dX6_lay_52 rfl ?_
          obtain ⟨r36, A38, hz37, h⟩ := cl2_k h
          refine G_callV_i X (As := [.int 2]) (rest := []) ok_X6_finds qw737 0 (eR0 _ _ _) rfl rfl ⟨rfl, rfl, Nat.le_of_ble_eq_true rfl, Nat.le_of_ble_eq_true rfl⟩ (m_X6_finds X.d hz37) rfl rfl (Nat.le_of_ble_eq_true rfl) dX6_lay_53 ?_
          have e := so h
          subst e
          exact hQ _ _ dX6_lay_56
        · have h := if_f c21 h
          refine G_aload_n X dX6_lay_57 rfl 0 rfl ?_
          refine G_getf X inX6 0 (eR0 _ _ _) rfl 10 (by decide) qw664 rfl dX6_lay_58 ?_
          refine G_iload_n X dX6_lay_61 rfl 1 rfl ?_
          have hi22 := gI_n h
          have h := gI_k h
          have hw23 := vlt hi22
          refine G_aald X (t0 := 3) (b := fAd (eF E) (8 + x1.toNatClampNeg)) 7 (eR7 _ _ _) rfl rfl hi22 (if_pos hw23) dX6_lay_62 ?_
          refine G_iload_n X dX6_lay_63 rfl 2 rfl ?_
          have hi24 := gI_n h
          have h := gI_k h
          refine G_iald X (j := x2.toNatClampNeg) (8 + x1.toNatClampNeg) (eRf8 _ _ _ _ hw23) hi24 rfl dX6_lay_64 ?_
          refine G_iconst X (v := 1) dX6_lay_65 rfl ?_
          refine G_isub X dX6_lay_66 ?_
          refine G_topi (fun v25 ev25 => ?_)
          have h := bv_k ev25 h
          refine G_istore X (lv2 := [(4, .int v25), (0, .ref (fAd (eF E) 0)), (1, .int x1), (2, .int x2), (3, .int x3)]) dX6_lay_67 (by decide) rfl ?_
          refine G_aload_n X dX6_lay_69 rfl 1 rfl ?_
          refine G_getf X inX6 0 (eR0 _ _ _) rfl 10 (by decide) qw664 rfl dX6_lay_70 ?_
          refine G_iload_n X dX6_lay_73 rfl 2 rfl ?_
          have hi26 := gI_n h
          have h := gI_k h
          have hw27 := vlt hi26
          refine G_aald X (t0 := 3) (b := fAd (eF E) (8 + x1.toNatClampNeg)) 7 (eR7 _ _ _) rfl rfl hi26 (if_pos hw27) dX6_lay_74 ?_
          refine G_iload_n X dX6_lay_75 rfl 3 rfl ?_
          refine G_iload_n X dX6_lay_76 rfl 4 rfl ?_
          refine G_iconst X (v := 1) dX6_lay_77 rfl ?_
          refine G_iadd X dX6_lay_78 ?_
          have hi28 := gI_n h
          have h := gI_k h
          refine G_iast X (j := x2.toNatClampNeg) (8 + x1.toNatClampNeg) (eRf8 _ _ _ _ hw27) (sRI _ _ _ _ x2.toNatClampNeg _ _ (fun _ => fR8 _ _ _ _ hw27)) hi28 rfl dX6_lay_79 ?_
          refine G_topS (fun A29 eA29 => ?_)
          have h := bv_k eA29 h
          refine G_aload_n X dX6_lay_80 rfl 1 rfl ?_
          refine G_getf X inX6 0 (eR0 _ _ _) rfl 11 (by decide) qw665 rfl dX6_lay_81 ?_
          refine G_iload_n X dX6_lay_84 rfl 2 rfl ?_
          have hi30 := gI_n h
          have h := gI_k h
          have hw31 := vlt hi30
          refine G_aald X (t0 := 3) (b := fAd (eF E) (13 + x1.toNatClampNeg)) 12 (eR12 _ _ _) rfl rfl hi30 (if_pos hw31) dX6_lay_85 ?_
          refine G_iload_n X dX6_lay_86 rfl 3 rfl ?_
          refine G_aload_n X dX6_lay_87 rfl 1 rfl ?_
          refine G_iload_n X dX6_lay_88 rfl 4 rfl ?_
          refine G_iconst X (v := 0) dX6_lay_89 rfl ?_
          obtain ⟨r32, hz33, h⟩ := cl_k h
          refine G_callV_i X (As := [.int x3, .int 0]) (rest := [.int x2, .ref (fAd (eF E) (13 + x1.toNatClampNeg))]) ok_X6_it qw751 0 (eR0 _ _ _) rfl rfl ⟨rfl, rfl, Nat.le_of_ble_eq_true rfl, Nat.le_of_ble_eq_true rfl⟩ (m_X6_it X.d hz33) rfl rfl (Nat.le_of_ble_eq_true rfl) dX6_lay_90 ?_
          have hi34 := gI_n h
          have h := gI_k h
          refine G_iast X (j := x2.toNatClampNeg) (13 + x1.toNatClampNeg) (eRf13 _ _ _ _ hw31) (sRI _ _ _ _ x2.toNatClampNeg _ _ (fun _ => fR13 _ _ _ _ hw31)) hi34 rfl dX6_lay_93 ?_
          refine G_topS (fun A35 eA35 => ?_)
          have h := bv_k eA35 h
          refine G_iload X dX6_lay_94 0 rfl ?_
          have e := so h
          subst e
          exact hQ _ _ dX6_lay_96
theorem m_X6_lay {l : Launch} {F : pfF} (hD : ∀ A, va_D (fA F) (cellsR (fAd F) (fCy F) A)) {x1 : Int32} {x2 : Int32} {x3 : Int32} {A : St} {out : Int32 × St} (h : f_X6_lay x1 x2 x3 A = some out) : Mt l F cellsR yX6_lay cX6_lay 5 (some .int) rm_X6_lay [.ref (fAd F 0), .int x1, .int x2, .int x3] A (va_Qi (fun (r : Int32) (u : St) => r = out.1 ∧ u = out.2) (Wd cellsR F) (fA F)) := by
  refine Met_i (by decide +kernel) (Nat.le_of_ble_eq_true rfl) hD (fun E el ef X hQ => ?_)
  subst el
  subst ef
  exact b_X6_lay X _ _ _ _ hQ h
theorem ok_X6_lay : OkV yX6_lay cX6_lay 5 (some .int) 3 := ⟨qw1036, qw1037, qw6, qw1038, by decide, by decide, by decide⟩
