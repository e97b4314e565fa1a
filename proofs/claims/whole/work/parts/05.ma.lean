theorem isb_e {x : Int32} (h : x = 0 ∨ x = 1) : x = bI (decide (x = 1)) := by rcases h with rfl | rfl <;> rfl
theorem G_eqi {wl : pfW} {E : pfE} {A : St} {pc : Nat} {lv : List (Nat × Value)} {rest : List Value} {x y : Int32} (e : x = y) (k : GG wl E A pc lv (.int y :: rest)) : GG wl E A pc lv (.int x :: rest) := e ▸ k
theorem nar_bI (b : Bool) : narrow .boolean (.int (bI b)) = .int (bI b) := by cases b <;> rfl
noncomputable def f_X5_within (x0 : Int32) (x1 : Int32) (x2 : Int32) : Option (Bool) :=
  if x0 < x1 then
    some false
  else
    if x2 < x0 then
      some false
    else
      some true
abbrev rm_X5_within : Room := { frames := 0, cells := 0, slots := 0, locals := 0 }
set_option maxHeartbeats 4000000 in
set_option maxRecDepth 100000 in
theorem b_X5_within {wl : pfW} {E : pfE} (X : CX wl E cX5_within RX5 rm_X5_within 3) (x0 : Int32) (x1 : Int32) (x2 : Int32) {A : St} {out : Bool} (hQ : Reti wl E cX5_within (bI out) A) (h : f_X5_within x0 x1 x2 = some out) : GG wl E A 0 [(0, .int x0), (1, .int x1), (2, .int x2)] [] := by
  unfold f_X5_within at h
  refine G_iload_n X dX5_within_0 rfl 0 rfl ?_
  refine G_iload_n X dX5_within_1 rfl 1 rfl ?_
  refine G_iclt X (tgt := 14) dX5_within_2 (by decide) (fun c1 => ?_) (fun c1 => ?_)
  · have h := if_t c1 h
    refine G_iconst X (v := 0) dX5_within_14 rfl ?_
    have e := so h
    subst e
    exact hQ _ _ dX5_within_15
  · have h := if_f c1 h
    refine G_iload_n X dX5_within_5 rfl 0 rfl ?_
    refine G_iload_n X dX5_within_6 rfl 2 rfl ?_
    refine G_icgt X (tgt := 14) dX5_within_7 (by decide) (fun c2 => ?_) (fun c2 => ?_)
    · have h := if_t c2 h
      refine G_iconst X (v := 0) dX5_within_14 rfl ?_
      have e := so h
      subst e
      exact hQ _ _ dX5_within_15
    · have h := if_f c2 h
      refine G_iconst X (v := 1) dX5_within_10 rfl ?_
      refine G_goto X (tgt := 15) dX5_within_11 (by decide) ?_
      have e := so h
      subst e
      exact hQ _ _ dX5_within_15
theorem m_X5_within {wl : pfW} {l : Launch} {F : pfF} (hD : ∀ A, va_D (fA F) (wl (fAd F) (fCy F) A)) {x0 : Int32} {x1 : Int32} {x2 : Int32} {A : St} {out : Bool} (h : f_X5_within x0 x1 x2 = some out) : Mt l F wl yX5_within cX5_within 3 (some .boolean) rm_X5_within [.int x0, .int x1, .int x2] A (va_Qi (fun (r : Int32) (u : St) => r = bI out ∧ u = A) (Wd wl F) (fA F)) := by
  refine Met_iz (by decide) (Nat.le_of_ble_eq_true rfl) hD (nar_bI _) (fun E el ef X hQ => ?_)
  subst el
  subst ef
  exact b_X5_within X _ _ _ hQ h
theorem ok_X5_within : OkS yX5_within cX5_within 3 (some .boolean) 3 := ⟨qw185, qw1, qw186, by decide, by decide, by decide⟩
noncomputable def f_X5_factFits (x0 : Int32) (x1 : Int32) : Option (Bool) :=
  cl (f_X5_within x0 0 6) fun r1 =>
  if (bI r1) = 0 then
    some false
  else
    gI x0 7 <|
    gI x0 7 <|
    cl (f_X5_within x1 (tb 0 x0.toNatClampNeg) (tb 1 x0.toNatClampNeg)) fun r6 =>
    if (bI r6) = 0 then
      some false
    else
      some true
abbrev rm_X5_factFits : Room := { frames := 1, cells := 0, slots := 0, locals := 22 }
set_option maxHeartbeats 4000000 in
set_option maxRecDepth 100000 in
theorem b_X5_factFits {wl : pfW} {E : pfE} (X : CX wl E cX5_factFits RX5 rm_X5_factFits 2) (x0 : Int32) (x1 : Int32) {A : St} {out : Bool} (hQ : Reti wl E cX5_factFits (bI out) A) (h : f_X5_factFits x0 x1 = some out) : GG wl E A 0 [(0, .int x0), (1, .int x1)] [] := by
  unfold f_X5_factFits at h
  refine G_iload_n X dX5_factFits_0 rfl 0 rfl ?_
  refine G_iconst X (v := 0) dX5_factFits_1 rfl ?_
  refine G_bipush X (v := 6) dX5_factFits_2 rfl ?_
  obtain ⟨r1, hz2, h⟩ := cl_k h
  refine G_callS_i X (As := [.int x0, .int 0, .int 6]) (rest := []) ok_X5_within qw184 ⟨rfl, rfl, Nat.le_of_ble_eq_true rfl, Nat.le_of_ble_eq_true rfl⟩ (m_X5_within X.d hz2) rfl rfl (Nat.le_of_ble_eq_true rfl) dX5_factFits_4 ?_
  refine G_ifeq X (tgt := 31) dX5_factFits_7 (by decide) (fun c3 => ?_) (fun c3 => ?_)
  · have h := if_t c3 h
    refine G_iconst X (v := 0) dX5_factFits_31 rfl ?_
    have e := so h
    subst e
    exact hQ _ _ dX5_factFits_32
  · have h := if_f c3 h
    refine G_iload_n X dX5_factFits_10 rfl 1 rfl ?_
    refine G_tget X 0 (by decide) qw187 dX5_factFits_11 ?_
    refine G_iload_n X dX5_factFits_14 rfl 0 rfl ?_
    have hi4 := gI_n h
    have h := gI_k h
    refine G_tald X 0 (by decide) (j := x0.toNatClampNeg) rfl hi4 rfl dX5_factFits_15 ?_
    refine G_tget X 1 (by decide) qw189 dX5_factFits_16 ?_
    refine G_iload_n X dX5_factFits_19 rfl 0 rfl ?_
    have hi5 := gI_n h
    have h := gI_k h
    refine G_tald X 1 (by decide) (j := x0.toNatClampNeg) rfl hi5 rfl dX5_factFits_20 ?_
    obtain ⟨r6, hz7, h⟩ := cl_k h
    refine G_callS_i X (As := [.int x1, .int (tb 0 x0.toNatClampNeg), .int (tb 1 x0.toNatClampNeg)]) (rest := []) ok_X5_within qw184 ⟨rfl, rfl, Nat.le_of_ble_eq_true rfl, Nat.le_of_ble_eq_true rfl⟩ (m_X5_within X.d hz7) rfl rfl (Nat.le_of_ble_eq_true rfl) dX5_factFits_21 ?_
    refine G_ifeq X (tgt := 31) dX5_factFits_24 (by decide) (fun c8 => ?_) (fun c8 => ?_)
    · have h := if_t c8 h
      refine G_iconst X (v := 0) dX5_factFits_31 rfl ?_
      have e := so h
      subst e
      exact hQ _ _ dX5_factFits_32
    · have h := if_f c8 h
      refine G_iconst X (v := 1) dX5_factFits_27 rfl ?_
      refine G_goto X (tgt := 32) dX5_factFits_28 (by decide) ?_
      have e := so h
      subst e
      exact hQ _ _ dX5_factFits_32
theorem m_X5_factFits {wl : pfW} {l : Launch} {F : pfF} (hD : ∀ A, va_D (fA F) (wl (fAd F) (fCy F) A)) {x0 : Int32} {x1 : Int32} {A : St} {out : Bool} (h : f_X5_factFits x0 x1 = some out) : Mt l F wl yX5_factFits cX5_factFits 2 (some .boolean) rm_X5_factFits [.int x0, .int x1] A (va_Qi (fun (r : Int32) (u : St) => r = bI out ∧ u = A) (Wd wl F) (fA F)) := by
  refine Met_iz (by decide) (Nat.le_of_ble_eq_true rfl) hD (nar_bI _) (fun E el ef X hQ => ?_)
  subst el
  subst ef
  exact b_X5_factFits X _ _ hQ h
theorem ok_X5_factFits : OkS yX5_factFits cX5_factFits 2 (some .boolean) 2 := ⟨qw182, qw1, qw183, by decide, by decide, by decide⟩
noncomputable def f_X5_finding (x1 : Int32) (A : St) : Option (Int32 × St) :=
  gI x1 8 <|
  gI x1 8 <|
  bv (upI A 1 x1.toNatClampNeg ((A.1 1 x1.toNatClampNeg) + 1)) fun A3 =>
  some ((-1000001) - x1, A3)
abbrev rm_X5_finding : Room := { frames := 0, cells := 0, slots := 0, locals := 0 }
set_option maxHeartbeats 4000000 in
set_option maxRecDepth 100000 in
theorem b_X5_finding {E : pfE} (X : CX cellsC E cX5_finding RX5 rm_X5_finding 2) (x1 : Int32) (A : St) {out : Int32 × St} (hQ : Reti cellsC E cX5_finding out.1 out.2) (h : f_X5_finding x1 A = some out) : GG cellsC E A 0 [(0, .ref (fAd (eF E) 0)), (1, .int x1)] [] := by
  unfold f_X5_finding at h
  refine G_aload_n X dX5_finding_0 rfl 0 rfl ?_
  refine G_getf X inX5 0 (eC0 _ _ _) rfl 0 (by decide) qw155 rfl dX5_finding_1 ?_
  refine G_iload_n X dX5_finding_4 rfl 1 rfl ?_
  refine G_dup2 X dX5_finding_5 rfl rfl ?_
  have hi1 := gI_n h
  have h := gI_k h
  refine G_iald X (j := x1.toNatClampNeg) 1 (eC1 _ _ _) hi1 rfl dX5_finding_6 ?_
  refine G_iconst X (v := 1) dX5_finding_7 rfl ?_
  refine G_iadd X dX5_finding_8 ?_
  have hi2 := gI_n h
  have h := gI_k h
  refine G_iast X (j := x1.toNatClampNeg) 1 (eC1 _ _ _) (sCI _ _ _ _ x1.toNatClampNeg _ _ (fun _ => rfl)) hi2 rfl dX5_finding_9 ?_
  refine G_topS (fun A3 eA3 => ?_)
  have h := bv_k eA3 h
  refine G_ldcw X (v := (-1000001)) qw195 dX5_finding_10 ?_
  refine G_iload_n X dX5_finding_13 rfl 1 rfl ?_
  refine G_isub X dX5_finding_14 ?_
  have e := so h
  subst e
  exact hQ _ _ dX5_finding_15
theorem m_X5_finding {l : Launch} {F : pfF} (hD : ∀ A, va_D (fA F) (cellsC (fAd F) (fCy F) A)) {x1 : Int32} {A : St} {out : Int32 × St} (h : f_X5_finding x1 A = some out) : Mt l F cellsC yX5_finding cX5_finding 2 (some .int) rm_X5_finding [.ref (fAd F 0), .int x1] A (va_Qi (fun (r : Int32) (u : St) => r = out.1 ∧ u = out.2) (Wd cellsC F) (fA F)) := by
  refine Met_i (by decide) (Nat.le_of_ble_eq_true rfl) hD (fun E el ef X hQ => ?_)
  subst el
  subst ef
  exact b_X5_finding X _ _ hQ h
theorem ok_X5_finding : OkV yX5_finding cX5_finding 2 (some .int) 1 := ⟨qw193, qs0, qw1, qw194, by decide, by decide, by decide⟩
noncomputable def f_X5_add (x1 : Int32) (x2 : Int32) (x3 : Int32) (x4 : Int32) (x5 : Int32) (x6 : Int32) (A : St) : Option (Int32 × St) :=
  cl (f_X5_factFits 0 x1) fun r1 =>
  if (bI r1) = 0 then
    cl2 (f_X5_finding 0 A) fun r4 A6 =>
    some (r4, A6)
  else
    cl (f_X5_factFits 1 x2) fun r7 =>
    if (bI r7) = 0 then
      cl2 (f_X5_finding 0 A) fun r10 A12 =>
      some (r10, A12)
    else
      cl (f_X5_factFits 2 x3) fun r13 =>
      if (bI r13) = 0 then
        cl2 (f_X5_finding 0 A) fun r16 A18 =>
        some (r16, A18)
      else
        cl (f_X5_factFits 3 x4) fun r19 =>
        if (bI r19) = 0 then
          cl2 (f_X5_finding 0 A) fun r22 A24 =>
          some (r22, A24)
        else
          cl (f_X5_factFits 4 x5) fun r25 =>
          if (bI r25) = 0 then
            cl2 (f_X5_finding 0 A) fun r28 A30 =>
            some (r28, A30)
          else
            cl (f_X5_factFits 5 x6) fun r31 =>
            if (bI r31) = 0 then
              cl2 (f_X5_finding 0 A) fun r56 A58 =>
              some (r56, A58)
            else
              if (A.1 3 0) < 12 then
                bv (A.1 3 0) fun v35 =>
                bv (upI A 3 0 ((A.1 3 0) + 1)) fun A36 =>
                gI v35 12 <|
                bv (upI A36 5 v35.toNatClampNeg x1) fun A38 =>
                gI v35 12 <|
                bv (upI A38 6 v35.toNatClampNeg x2) fun A40 =>
                gI v35 12 <|
                bv (upI A40 7 v35.toNatClampNeg x3) fun A42 =>
                gI v35 12 <|
                bv (upI A42 8 v35.toNatClampNeg x4) fun A44 =>
                gI v35 12 <|
                bv (upI A44 9 v35.toNatClampNeg x5) fun A46 =>
                gI v35 12 <|
                bv (upI A46 10 v35.toNatClampNeg x6) fun A48 =>
                gI v35 12 <|
                bv (upI A48 11 v35.toNatClampNeg 0) fun A50 =>
                gI v35 12 <|
                bv (upI A50 12 v35.toNatClampNeg 0) fun A52 =>
                some (v35, A52)
              else
                cl2 (f_X5_finding 1 A) fun r53 A55 =>
                some (r53, A55)
abbrev rm_X5_add : Room := { frames := 2, cells := 0, slots := 0, locals := 43 }
set_option maxHeartbeats 4000000 in
set_option maxRecDepth 100000 in
theorem b_X5_add {E : pfE} (X : CX cellsC E cX5_add RX5 rm_X5_add 8) (x1 : Int32) (x2 : Int32) (x3 : Int32) (x4 : Int32) (x5 : Int32) (x6 : Int32) (A : St) {out : Int32 × St} (hQ : Reti cellsC E cX5_add out.1 out.2) (h : f_X5_add x1 x2 x3 x4 x5 x6 A = some out) : GG cellsC E A 0 [(0, .ref (fAd (eF E) 0)), (1, .int x1), (2, .int x2), (3, .int x3), (4, .int x4), (5, .int x5), (6, .int x6)] [] := by
  unfold f_X5_add at h
  refine G_iconst X (v := 0) dX5_add_0 rfl ?_
  refine G_iload_n X dX5_add_1 rfl 1 rfl ?_
  obtain ⟨r1, hz2, h⟩ := cl_k h
  refine G_callS_i X (As := [.int 0, .int x1]) (rest := []) ok_X5_factFits qw181 ⟨rfl, rfl, Nat.le_of_ble_eq_true rfl, Nat.le_of_ble_eq_true rfl⟩ (m_X5_factFits X.d hz2) rfl rfl (Nat.le_of_ble_eq_true rfl) dX5_add_2 ?_
  refine G_ifeq X (tgt := 51) dX5_add_5 (by decide) (fun c3 => ?_) (fun c3 => ?_)
  · have h := if_t c3 h
    refine G_aload_n X dX5_add_51 rfl 0 rfl ?_
    refine G_iconst X (v := 0) dX5_add_52 rfl ?_
    obtain ⟨r4, A6, hz5, h⟩ := cl2_k h
    refine G_callV_i X (As := [.int 0]) (rest := []) ok_X5_finding qw191 0 (eC0 _ _ _) rfl rfl ⟨rfl, rfl, Nat.le_of_ble_eq_true rfl, Nat.le_of_ble_eq_true rfl⟩ (m_X5_finding X.d hz5) rfl rfl (Nat.le_of_ble_eq_true rfl) dX5_add_53 ?_
    have e := so h
    subst e
    exact hQ _ _ dX5_add_56
  · have h := if_f c3 h
    refine G_iconst X (v := 1) dX5_add_8 rfl ?_
    refine G_iload_n X dX5_add_9 rfl 2 rfl ?_
    obtain ⟨r7, hz8, h⟩ := cl_k h
    refine G_callS_i X (As := [.int 1, .int x2]) (rest := []) ok_X5_factFits qw181 ⟨rfl, rfl, Nat.le_of_ble_eq_true rfl, Nat.le_of_ble_eq_true rfl⟩ (m_X5_factFits X.d hz8) rfl rfl (Nat.le_of_ble_eq_true rfl) dX5_add_10 ?_
    refine G_ifeq X (tgt := 51) dX5_add_13 (by decide) (fun c9 => ?_) (fun c9 => ?_)
    · have h := if_t c9 h
      refine G_aload_n X dX5_add_51 rfl 0 rfl ?_
      refine G_iconst X (v := 0) dX5_add_52 rfl ?_
      obtain ⟨r10, A12, hz11, h⟩ := cl2_k h
      refine G_callV_i X (As := [.int 0]) (rest := []) ok_X5_finding qw191 0 (eC0 _ _ _) rfl rfl ⟨rfl, rfl, Nat.le_of_ble_eq_true rfl, Nat.le_of_ble_eq_true rfl⟩ (m_X5_finding X.d hz11) rfl rfl (Nat.le_of_ble_eq_true rfl) dX5_add_53 ?_
      have e := so h
      subst e
      exact hQ _ _ dX5_add_56
    · have h := if_f c9 h
      refine G_iconst X (v := 2) dX5_add_16 rfl ?_
      refine G_iload_n X dX5_add_17 rfl 3 rfl ?_
      obtain ⟨r13, hz14, h⟩ := cl_k h
      refine G_callS_i X (As := [.int 2, .int x3]) (rest := []) ok_X5_factFits qw181 ⟨rfl, rfl, Nat.le_of_ble_eq_true rfl, Nat.le_of_ble_eq_true rfl⟩ (m_X5_factFits X.d hz14) rfl rfl (Nat.le_of_ble_eq_true rfl) dX5_add_18 ?_
      refine G_ifeq X (tgt := 51) dX5_add_21 (by decide) (fun c15 => ?_) (fun c15 => ?_)
      · have h := if_t c15 h
        refine G_aload_n X dX5_add_51 rfl 0 rfl ?_
        refine G_iconst X (v := 0) dX5_add_52 rfl ?_
        obtain ⟨r16, A18, hz17, h⟩ := cl2_k h
        refine G_callV_i X (As := [.int 0]) (rest := []) ok_X5_finding qw191 0 (eC0 _ _ _) rfl rfl ⟨rfl, rfl, Nat.le_of_ble_eq_true rfl, Nat.le_of_ble_eq_true rfl⟩ (m_X5_finding X.d hz17) rfl rfl (Nat.le_of_ble_eq_true rfl) dX5_add_53 ?_
        have e := so h
        subst e
        exact hQ _ _ dX5_add_56
      · have h := if_f c15 h
        refine G_iconst X (v := 3) dX5_add_24 rfl ?_
        refine G_iload X dX5_add_25 4 rfl ?_
        obtain ⟨r19, hz20, h⟩ := cl_k h
        refine G_callS_i X (As := [.int 3, .int x4]) (rest := []) ok_X5_factFits qw181 ⟨rfl, rfl, Nat.le_of_ble_eq_true rfl, Nat.le_of_ble_eq_true rfl⟩ (m_X5_factFits X.d hz20) rfl rfl (Nat.le_of_ble_eq_true rfl) dX5_add_27 ?_
        refine G_ifeq X (tgt := 51) dX5_add_30 (by decide) (fun c21 => ?_) (fun c21 => ?_)
        · have h := if_t c21 h
          refine G_aload_n X dX5_add_51 rfl 0 rfl ?_
          refine G_iconst X (v := 0) dX5_add_52 rfl ?_
          obtain ⟨r22, A24, hz23, h⟩ := cl2_k h
          refine G_callV_i X (As := [.int 0]) (rest := []) ok_X5_finding qw191 0 (eC0 _ _ _) rfl rfl ⟨rfl, rfl, Nat.le_of_ble_eq_true rfl, Nat.le_of_ble_eq_true rfl⟩ (m_X5_finding X.d hz23) rfl rfl (Nat.le_of_ble_eq_true rfl) dX5_add_53 ?_
          have e := so h
          subst e
          exact hQ _ _ dX5_add_56
        · have h := if_f c21 h
          refine G_iconst X (v := 4) dX5_add_33 rfl ?_
          refine G_iload X dX5_add_34 5 rfl ?_
          obtain ⟨r25, hz26, h⟩ := cl_k h
          refine G_callS_i X (As := [.int 4, .int x5]) (rest := []) ok_X5_factFits qw181 ⟨rfl, rfl, Nat.le_of_ble_eq_true rfl, Nat.le_of_ble_eq_true rfl⟩ (m_X5_factFits X.d hz26) rfl rfl (Nat.le_of_ble_eq_true rfl) dX5_add_36 ?_
          refine G_ifeq X (tgt := 51) dX5_add_39 (by decide) (fun c27 => ?_) (fun c27 => ?_)
          · have h := if_t c27 h
            refine G_aload_n X dX5_add_51 rfl 0 rfl ?_
            refine G_iconst X (v := 0) dX5_add_52 rfl ?_
            obtain ⟨r28, A30, hz29, h⟩ := cl2_k h
            refine G_callV_i X (As := [.int 0]) (rest := []) ok_X5_finding qw191 0 (eC0 _ _ _) rfl rfl ⟨rfl, rfl, Nat.le_of_ble_eq_true rfl, Nat.le_of_ble_eq_true rfl⟩ (m_X5_finding X.d hz29) rfl rfl (Nat.le_of_ble_eq_true rfl) dX5_add_53 ?_
            have e := so h
            subst e
            exact hQ _ _ dX5_add_56
          · have h := if_f c27 h
            refine G_iconst X (v := 5) dX5_add_42 rfl ?_
            refine G_iload X dX5_add_43 6 rfl ?_
            obtain ⟨r31, hz32, h⟩ := cl_k h
            refine G_callS_i X (As := [.int 5, .int x6]) (rest := []) ok_X5_factFits qw181 ⟨rfl, rfl, Nat.le_of_ble_eq_true rfl, Nat.le_of_ble_eq_true rfl⟩ (m_X5_factFits X.d hz32) rfl rfl (Nat.le_of_ble_eq_true rfl) dX5_add_45 ?_
            refine G_ifne X (tgt := 57) dX5_add_48 (by decide) (fun c33 => ?_) (fun c33 => ?_)
            · have h := if_t c33 h
              refine G_aload_n X dX5_add_51 rfl 0 rfl ?_
              refine G_iconst X (v := 0) dX5_add_52 rfl ?_
              obtain ⟨r56, A58, hz57, h⟩ := cl2_k h
              refine G_callV_i X (As := [.int 0]) (rest := []) ok_X5_finding qw191 0 (eC0 _ _ _) rfl rfl ⟨rfl, rfl, Nat.le_of_ble_eq_true rfl, Nat.le_of_ble_eq_true rfl⟩ (m_X5_finding X.d hz57) rfl rfl (Nat.le_of_ble_eq_true rfl) dX5_add_53 ?_
              have e := so h
              subst e
              exact hQ _ _ dX5_add_56
            · have h := if_f c33 h
              refine G_aload_n X dX5_add_57 rfl 0 rfl ?_
              refine G_getf X inX5 0 (eC0 _ _ _) rfl 2 (by decide) qw157 rfl dX5_add_58 ?_
              refine G_getf X inX0 3 (eC3 _ _ _) rfl 0 (by decide) qw36 rfl dX5_add_61 ?_
              refine G_bipush X (v := 12) dX5_add_64 rfl ?_
              refine G_iclt X (tgt := 75) dX5_add_66 (by decide) (fun c34 => ?_) (fun c34 => ?_)
              · have h := if_t c34 h
                refine G_aload_n X dX5_add_75 rfl 0 rfl ?_
                refine G_getf X inX5 0 (eC0 _ _ _) rfl 2 (by decide) qw157 rfl dX5_add_76 ?_
                refine G_getf X inX0 3 (eC3 _ _ _) rfl 0 (by decide) qw36 rfl dX5_add_79 ?_
                refine G_topi (fun v35 ev35 => ?_)
                have h := bv_k ev35 h
                refine G_istore X (lv2 := [(7, .int v35), (0, .ref (fAd (eF E) 0)), (1, .int x1), (2, .int x2), (3, .int x3), (4, .int x4), (5, .int x5), (6, .int x6)]) dX5_add_82 (by decide) rfl ?_
                refine G_aload_n X dX5_add_84 rfl 1 rfl ?_
                refine G_getf X inX5 0 (eC0 _ _ _) rfl 2 (by decide) qw157 rfl dX5_add_85 ?_
                refine G_dup X dX5_add_88 rfl ?_
                refine G_getf X inX0 3 (eC3 _ _ _) rfl 0 (by decide) qw36 rfl dX5_add_89 ?_
                refine G_iconst X (v := 1) dX5_add_92 rfl ?_
                refine G_iadd X dX5_add_93 ?_
                refine G_putf X (ty := .int) tyX0 tyX0_ok nmX0 inX0 3 (eC3 _ _ _) rfl 0 (by decide) qw36 rfl (by decide +kernel) rfl rfl (Nat.le_of_ble_eq_true rfl) (oCI _ _ _ _ 0 ((A.1 3 0) + 1) _ rfl) dX5_add_94 ?_
                refine G_topS (fun A36 eA36 => ?_)
                have h := bv_k eA36 h
                refine G_aload_n X dX5_add_97 rfl 1 rfl ?_
                refine G_getf X inX5 0 (eC0 _ _ _) rfl 2 (by decide) qw157 rfl dX5_add_98 ?_
                refine G_getf X inX0 3 (eC3 _ _ _) rfl 1 (by decide) qw39 rfl dX5_add_101 ?_
                refine G_iconst X (v := 0) dX5_add_104 rfl ?_
                refine G_aald X (t0 := 3) (b := fAd (eF E) 5) 4 (eC4 _ _ _) rfl rfl (vi rfl) rfl dX5_add_105 ?_
                refine G_iload X dX5_add_106 0 rfl ?_
                refine G_iload_n X dX5_add_108 rfl 2 rfl ?_
                have hi37 := gI_n h
                have h := gI_k h
                refine G_iast X (j := v35.toNatClampNeg) 5 (eC5 _ _ _) (sCI _ _ _ _ v35.toNatClampNeg _ _ (fun _ => rfl)) hi37 rfl dX5_add_109 ?_
                refine G_topS (fun A38 eA38 => ?_)
                have h := bv_k eA38 h
                refine G_aload_n X dX5_add_110 rfl 1 rfl ?_
                refine G_getf X inX5 0 (eC0 _ _ _) rfl 2 (by decide) qw157 rfl dX5_add_111 ?_
                refine G_getf X inX0 3 (eC3 _ _ _) rfl 1 (by decide) qw39 rfl dX5_add_114 ?_
                refine G_iconst X (v := 1) dX5_add_117 rfl ?_
                refine G_aald X (t0 := 3) (b := fAd (eF E) 6) 4 (eC4 _ _ _) rfl rfl (vi rfl) rfl dX5_add_118 ?_
                refine G_iload X dX5_add_119 0 rfl ?_
                refine G_iload_n X dX5_add_121 rfl 3 rfl ?_
                have hi39 := gI_n h
                have h := gI_k h
                refine G_iast X (j := v35.toNatClampNeg) 6 (eC6 _ _ _) (sCI _ _ _ _ v35.toNatClampNeg _ _ (fun _ => rfl)) hi39 rfl dX5_add_122 ?_
                refine G_topS (fun A40 eA40 => ?_)
                have h := bv_k eA40 h
                refine G_aload_n X dX5_add_123 rfl 1 rfl ?_
                refine G_getf X inX5 0 (eC0 _ _ _) rfl 2 (by decide) qw157 rfl dX5_add_124 ?_
                refine G_getf X inX0 3 (eC3 _ _ _) rfl 1 (by decide) qw39 rfl dX5_add_127 ?_
                refine G_iconst X (v := 2) dX5_add_130 rfl ?_
                refine G_aald X (t0 := 3) (b := fAd (eF E) 7) 4 (eC4 _ _ _) rfl rfl (vi rfl) rfl dX5_add_131 ?_
                refine G_iload X dX5_add_132 0 rfl ?_
                refine G_iload_n X dX5_add_134 rfl 4 rfl ?_
                have hi41 := gI_n h
                have h := gI_k h
                refine G_iast X (j := v35.toNatClampNeg) 7 (eC7 _ _ _) (sCI _ _ _ _ v35.toNatClampNeg _ _ (fun _ => rfl)) hi41 rfl dX5_add_135 ?_
                refine G_topS (fun A42 eA42 => ?_)
                have h := bv_k eA42 h
                refine G_aload_n X dX5_add_136 rfl 1 rfl ?_
                refine G_getf X inX5 0 (eC0 _ _ _) rfl 2 (by decide) qw157 rfl dX5_add_137 ?_
                refine G_getf X inX0 3 (eC3 _ _ _) rfl 1 (by decide) qw39 rfl dX5_add_140 ?_
                refine G_iconst X (v := 3) dX5_add_143 rfl ?_
                refine G_aald X (t0 := 3) (b := fAd (eF E) 8) 4 (eC4 _ _ _) rfl rfl (vi rfl) rfl dX5_add_144 ?_
                refine G_iload X dX5_add_145 0 rfl ?_
                refine G_iload X dX5_add_147 5 rfl ?_
                have hi43 := gI_n h
                have h := gI_k h
                refine G_iast X (j := v35.toNatClampNeg) 8 (eC8 _ _ _) (sCI _ _ _ _ v35.toNatClampNeg _ _ (fun _ => rfl)) hi43 rfl dX5_add_149 ?_
                refine G_topS (fun A44 eA44 => ?_)
                have h := bv_k eA44 h
                refine G_aload_n X dX5_add_150 rfl 1 rfl ?_
                refine G_getf X inX5 0 (eC0 _ _ _) rfl 2 (by decide) qw157 rfl dX5_add_151 ?_
                refine G_getf X inX0 3 (eC3 _ _ _) rfl 1 (by decide) qw39 rfl dX5_add_154 ?_
                refine G_iconst X (v := 4) dX5_add_157 rfl ?_
                refine G_aald X (t0 := 3) (b := fAd (eF E) 9) 4 (eC4 _ _ _) rfl rfl (vi rfl) rfl dX5_add_158 ?_
                refine G_iload X dX5_add_159 0 rfl ?_
                refine G_iload X dX5_add_161 6 rfl ?_
                have hi45 := gI_n h
                have h := gI_k h
                refine G_iast X (j := v35.toNatClampNeg) 9 (eC9 _ _ _) (sCI _ _ _ _ v35.toNatClampNeg _ _ (fun _ => rfl)) hi45 rfl dX5_add_163 ?_
                refine G_topS (fun A46 eA46 => ?_)
                have h := bv_k eA46 h
                refine G_aload_n X dX5_add_164 rfl 1 rfl ?_
                refine G_getf X inX5 0 (eC0 _ _ _) rfl 2 (by decide) qw157 rfl dX5_add_165 ?_
                refine G_getf X inX0 3 (eC3 _ _ _) rfl 1 (by decide) qw39 rfl dX5_add_168 ?_
                refine G_iconst X (v := 5) dX5_add_171 rfl ?_
                refine G_aald X (t0 := 3) (b := fAd (eF E) 10) 4 (eC4 _ _ _) rfl rfl (vi rfl) rfl dX5_add_172 ?_
                refine G_iload X dX5_add_173 0 rfl ?_
                refine G_iload X dX5_add_175 7 rfl ?_
                have hi47 := gI_n h
                have h := gI_k h
                refine G_iast X (j := v35.toNatClampNeg) 10 (eC10 _ _ _) (sCI _ _ _ _ v35.toNatClampNeg _ _ (fun _ => rfl)) hi47 rfl dX5_add_177 ?_
                refine G_topS (fun A48 eA48 => ?_)
                have h := bv_k eA48 h
                refine G_aload_n X dX5_add_178 rfl 1 rfl ?_
                refine G_getf X inX5 0 (eC0 _ _ _) rfl 2 (by decide) qw157 rfl dX5_add_179 ?_
                refine G_getf X inX0 3 (eC3 _ _ _) rfl 1 (by decide) qw39 rfl dX5_add_182 ?_
                refine G_bipush X (v := 6) dX5_add_185 rfl ?_
                refine G_aald X (t0 := 3) (b := fAd (eF E) 11) 4 (eC4 _ _ _) rfl rfl (vi rfl) rfl dX5_add_187 ?_
                refine G_iload X dX5_add_188 0 rfl ?_
                refine G_iconst X (v := 0) dX5_add_190 rfl ?_
                have hi49 := gI_n h
                have h := gI_k h
                refine G_iast X (j := v35.toNatClampNeg) 11 (eC11 _ _ _) (sCI _ _ _ _ v35.toNatClampNeg _ _ (fun _ => rfl)) hi49 rfl dX5_add_191 ?_
                refine G_topS (fun A50 eA50 => ?_)
                have h := bv_k eA50 h
                refine G_aload_n X dX5_add_192 rfl 1 rfl ?_
                refine G_getf X inX5 0 (eC0 _ _ _) rfl 2 (by decide) qw157 rfl dX5_add_193 ?_
                refine G_getf X inX0 3 (eC3 _ _ _) rfl 1 (by decide) qw39 rfl dX5_add_196 ?_
                refine G_bipush X (v := 7) dX5_add_199 rfl ?_
                refine G_aald X (t0 := 3) (b := fAd (eF E) 12) 4 (eC4 _ _ _) rfl rfl (vi rfl) rfl dX5_add_201 ?_
                refine G_iload X dX5_add_202 0 rfl ?_
                refine G_iconst X (v := 0) dX5_add_204 rfl ?_
                have hi51 := gI_n h
                have h := gI_k h
                refine G_iast X (j := v35.toNatClampNeg) 12 (eC12 _ _ _) (sCI _ _ _ _ v35.toNatClampNeg _ _ (fun _ => rfl)) hi51 rfl dX5_add_205 ?_
                refine G_topS (fun A52 eA52 => ?_)
                have h := bv_k eA52 h
                refine G_iload X dX5_add_206 0 rfl ?_
                have e := so h
                subst e
                exact hQ _ _ dX5_add_208
              · have h := if_f c34 h
                refine G_aload_n X dX5_add_69 rfl 0 rfl ?_
                refine G_iconst X (v := 1) dX5_add_70 rfl ?_
                obtain ⟨r53, A55, hz54, h⟩ := cl2_k h
                refine G_callV_i X (As := [.int 1]) (rest := []) ok_X5_finding qw191 0 (eC0 _ _ _) rfl rfl ⟨rfl, rfl, Nat.le_of_ble_eq_true rfl, Nat.le_of_ble_eq_true rfl⟩ (m_X5_finding X.d hz54) rfl rfl (Nat.le_of_ble_eq_true rfl) dX5_add_71 ?_
                have e := so h
                subst e
                exact hQ _ _ dX5_add_74
theorem m_X5_add {l : Launch} {F : pfF} (hD : ∀ A, va_D (fA F) (cellsC (fAd F) (fCy F) A)) {x1 : Int32} {x2 : Int32} {x3 : Int32} {x4 : Int32} {x5 : Int32} {x6 : Int32} {A : St} {out : Int32 × St} (h : f_X5_add x1 x2 x3 x4 x5 x6 A = some out) : Mt l F cellsC yX5_add cX5_add 8 (some .int) rm_X5_add [.ref (fAd F 0), .int x1, .int x2, .int x3, .int x4, .int x5, .int x6] A (va_Qi (fun (r : Int32) (u : St) => r = out.1 ∧ u = out.2) (Wd cellsC F) (fA F)) := by
  refine Met_i (by decide) (Nat.le_of_ble_eq_true rfl) hD (fun E el ef X hQ => ?_)
  subst el
  subst ef
  exact b_X5_add X _ _ _ _ _ _ _ hQ h
theorem ok_X5_add : OkV yX5_add cX5_add 8 (some .int) 6 := ⟨qw178, qw179, qw1, qw180, by decide, by decide, by decide⟩
noncomputable def f_X0_has (x1 : Int32) (A : St) : Option (Bool) :=
  if x1 < 0 then
    some false
  else
    if (A.1 3 0) ≤ x1 then
      some false
    else
      some true
abbrev rm_X0_has : Room := { frames := 0, cells := 0, slots := 0, locals := 0 }
set_option maxHeartbeats 4000000 in
set_option maxRecDepth 100000 in
theorem b_X0_has {E : pfE} (X : CX cellsC E cX0_has RX0 rm_X0_has 2) (x1 : Int32) (A : St) {out : Bool} (hQ : Reti cellsC E cX0_has (bI out) A) (h : f_X0_has x1 A = some out) : GG cellsC E A 0 [(0, .ref (fAd (eF E) 3)), (1, .int x1)] [] := by
  unfold f_X0_has at h
  refine G_iload_n X dX0_has_0 rfl 1 rfl ?_
  refine G_iflt X (tgt := 16) dX0_has_1 (by decide) (fun c1 => ?_) (fun c1 => ?_)
  · have h := if_t c1 h
    refine G_iconst X (v := 0) dX0_has_16 rfl ?_
    have e := so h
    subst e
    exact hQ _ _ dX0_has_17
  · have h := if_f c1 h
    refine G_iload_n X dX0_has_4 rfl 1 rfl ?_
    refine G_aload_n X dX0_has_5 rfl 0 rfl ?_
    refine G_getf X inX0 3 (eC3 _ _ _) rfl 0 (by decide) qw35 rfl dX0_has_6 ?_
    refine G_icge X (tgt := 16) dX0_has_9 (by decide) (fun c2 => ?_) (fun c2 => ?_)
    · have h := if_t c2 h
      refine G_iconst X (v := 0) dX0_has_16 rfl ?_
      have e := so h
      subst e
      exact hQ _ _ dX0_has_17
    · have h := if_f c2 h
      refine G_iconst X (v := 1) dX0_has_12 rfl ?_
      refine G_goto X (tgt := 17) dX0_has_13 (by decide) ?_
      have e := so h
      subst e
      exact hQ _ _ dX0_has_17
theorem m_X0_has {l : Launch} {F : pfF} (hD : ∀ A, va_D (fA F) (cellsC (fAd F) (fCy F) A)) {x1 : Int32} {A : St} {out : Bool} (h : f_X0_has x1 A = some out) : Mt l F cellsC yX0_has cX0_has 2 (some .boolean) rm_X0_has [.ref (fAd F 3), .int x1] A (va_Qi (fun (r : Int32) (u : St) => r = bI out ∧ u = A) (Wd cellsC F) (fA F)) := by
  refine Met_iz (by decide) (Nat.le_of_ble_eq_true rfl) hD (nar_bI _) (fun E el ef X hQ => ?_)
  subst el
  subst ef
  exact b_X0_has X _ _ hQ h
theorem ok_X0_has : OkV yX0_has cX0_has 2 (some .boolean) 1 := ⟨qw201, qw202, qw3, qw203, by decide, by decide, by decide⟩
noncomputable def f_X5_of (x1 : Int32) (x2 : Int32) (A : St) : Option (Int32 × St) :=
  cl (f_X0_has x1 A) fun r1 =>
  if (bI r1) = 0 then
    cl2 (f_X5_finding 0 A) fun r4 A6 =>
    some (r4, A6)
  else
    cl (f_X5_within x2 0 7) fun r7 =>
    if (bI r7) = 0 then
      cl2 (f_X5_finding 0 A) fun r13 A15 =>
      some (r13, A15)
    else
      gI x2 8 <|
      gI x1 12 <|
      some (A.1 (5 + x2.toNatClampNeg) x1.toNatClampNeg, A)
abbrev rm_X5_of : Room := { frames := 1, cells := 0, slots := 0, locals := 22 }
set_option maxHeartbeats 4000000 in
set_option maxRecDepth 100000 in
theorem b_X5_of {E : pfE} (X : CX cellsC E cX5_of RX5 rm_X5_of 3) (x1 : Int32) (x2 : Int32) (A : St) {out : Int32 × St} (hQ : Reti cellsC E cX5_of out.1 out.2) (h : f_X5_of x1 x2 A = some out) : GG cellsC E A 0 [(0, .ref (fAd (eF E) 0)), (1, .int x1), (2, .int x2)] [] := by
  unfold f_X5_of at h
  refine G_aload_n X dX5_of_0 rfl 0 rfl ?_
  refine G_getf X inX5 0 (eC0 _ _ _) rfl 2 (by decide) qw157 rfl dX5_of_1 ?_
  refine G_iload_n X dX5_of_4 rfl 1 rfl ?_
  obtain ⟨r1, hz2, h⟩ := cl_k h
  refine G_callV_i X (As := [.int x1]) (rest := []) ok_X0_has qw200 3 (eC3 _ _ _) rfl rfl ⟨rfl, rfl, Nat.le_of_ble_eq_true rfl, Nat.le_of_ble_eq_true rfl⟩ (m_X0_has X.d hz2) rfl rfl (Nat.le_of_ble_eq_true rfl) dX5_of_5 ?_
  refine G_ifeq X (tgt := 21) dX5_of_8 (by decide) (fun c3 => ?_) (fun c3 => ?_)
  · have h := if_t c3 h
    refine G_aload_n X dX5_of_21 rfl 0 rfl ?_
    refine G_iconst X (v := 0) dX5_of_22 rfl ?_
    obtain ⟨r4, A6, hz5, h⟩ := cl2_k h
    refine G_callV_i X (As := [.int 0]) (rest := []) ok_X5_finding qw191 0 (eC0 _ _ _) rfl rfl ⟨rfl, rfl, Nat.le_of_ble_eq_true rfl, Nat.le_of_ble_eq_true rfl⟩ (m_X5_finding X.d hz5) rfl rfl (Nat.le_of_ble_eq_true rfl) dX5_of_23 ?_
    have e := so h
    subst e
    exact hQ _ _ dX5_of_26
  · have h := if_f c3 h
    refine G_iload_n X dX5_of_11 rfl 2 rfl ?_
    refine G_iconst X (v := 0) dX5_of_12 rfl ?_
    refine G_bipush X (v := 7) dX5_of_13 rfl ?_
    obtain ⟨r7, hz8, h⟩ := cl_k h
    refine G_callS_i X (As := [.int x2, .int 0, .int 7]) (rest := []) ok_X5_within qw184 ⟨rfl, rfl, Nat.le_of_ble_eq_true rfl, Nat.le_of_ble_eq_true rfl⟩ (m_X5_within X.d hz8) rfl rfl (Nat.le_of_ble_eq_true rfl) dX5_of_15 ?_
    refine G_ifne X (tgt := 27) dX5_of_18 (by decide) (fun c9 => ?_) (fun c9 => ?_)
    · have h := if_t c9 h
      refine G_aload_n X dX5_of_21 rfl 0 rfl ?_
      refine G_iconst X (v := 0) dX5_of_22 rfl ?_
      obtain ⟨r13, A15, hz14, h⟩ := cl2_k h
      refine G_callV_i X (As := [.int 0]) (rest := []) ok_X5_finding qw191 0 (eC0 _ _ _) rfl rfl ⟨rfl, rfl, Nat.le_of_ble_eq_true rfl, Nat.le_of_ble_eq_true rfl⟩ (m_X5_finding X.d hz14) rfl rfl (Nat.le_of_ble_eq_true rfl) dX5_of_23 ?_
      have e := so h
      subst e
      exact hQ _ _ dX5_of_26
    · have h := if_f c9 h
      refine G_aload_n X dX5_of_27 rfl 0 rfl ?_
      refine G_getf X inX5 0 (eC0 _ _ _) rfl 2 (by decide) qw157 rfl dX5_of_28 ?_
      refine G_getf X inX0 3 (eC3 _ _ _) rfl 1 (by decide) qw39 rfl dX5_of_31 ?_
      refine G_iload_n X dX5_of_34 rfl 2 rfl ?_
      have hi10 := gI_n h
      have h := gI_k h
      have hw11 := vlt hi10
      refine G_aald X (t0 := 3) (b := fAd (eF E) (5 + x2.toNatClampNeg)) 4 (eC4 _ _ _) rfl rfl hi10 (if_pos hw11) dX5_of_35 ?_
      refine G_iload_n X dX5_of_36 rfl 1 rfl ?_
      have hi12 := gI_n h
      have h := gI_k h
      refine G_iald X (j := x1.toNatClampNeg) (5 + x2.toNatClampNeg) (eCf5 _ _ _ _ hw11) hi12 rfl dX5_of_37 ?_
      have e := so h
      subst e
      exact hQ _ _ dX5_of_38
theorem m_X5_of {l : Launch} {F : pfF} (hD : ∀ A, va_D (fA F) (cellsC (fAd F) (fCy F) A)) {x1 : Int32} {x2 : Int32} {A : St} {out : Int32 × St} (h : f_X5_of x1 x2 A = some out) : Mt l F cellsC yX5_of cX5_of 3 (some .int) rm_X5_of [.ref (fAd F 0), .int x1, .int x2] A (va_Qi (fun (r : Int32) (u : St) => r = out.1 ∧ u = out.2) (Wd cellsC F) (fA F)) := by
  refine Met_i (by decide) (Nat.le_of_ble_eq_true rfl) hD (fun E el ef X hQ => ?_)
  subst el
  subst ef
  exact b_X5_of X _ _ _ hQ h
theorem ok_X5_of : OkV yX5_of cX5_of 3 (some .int) 2 := ⟨qw197, qw198, qw1, qw199, by decide, by decide, by decide⟩
noncomputable def f_X5_change (x1 : Int32) (x2 : Int32) (x3 : Int32) (A : St) : Option (Int32 × St) :=
  cl (f_X0_has x1 A) fun r1 =>
  if (bI r1) = 0 then
    cl2 (f_X5_finding 0 A) fun r4 A6 =>
    some (r4, A6)
  else
    cl (f_X5_factFits x2 x3) fun r7 =>
    if (bI r7) = 0 then
      cl2 (f_X5_finding 0 A) fun r18 A20 =>
      some (r18, A20)
    else
      gI x2 8 <|
      gI x1 12 <|
      bv (A.1 (5 + x2.toNatClampNeg) x1.toNatClampNeg) fun v13 =>
      gI x2 8 <|
      gI x1 12 <|
      bv (upI A (5 + x2.toNatClampNeg) x1.toNatClampNeg x3) fun A17 =>
      some (v13, A17)
abbrev rm_X5_change : Room := { frames := 2, cells := 0, slots := 0, locals := 43 }
set_option maxHeartbeats 4000000 in
set_option maxRecDepth 100000 in
theorem b_X5_change {E : pfE} (X : CX cellsC E cX5_change RX5 rm_X5_change 5) (x1 : Int32) (x2 : Int32) (x3 : Int32) (A : St) {out : Int32 × St} (hQ : Reti cellsC E cX5_change out.1 out.2) (h : f_X5_change x1 x2 x3 A = some out) : GG cellsC E A 0 [(0, .ref (fAd (eF E) 0)), (1, .int x1), (2, .int x2), (3, .int x3)] [] := by
  unfold f_X5_change at h
  refine G_aload_n X dX5_change_0 rfl 0 rfl ?_
  refine G_getf X inX5 0 (eC0 _ _ _) rfl 2 (by decide) qw157 rfl dX5_change_1 ?_
  refine G_iload_n X dX5_change_4 rfl 1 rfl ?_
  obtain ⟨r1, hz2, h⟩ := cl_k h
  refine G_callV_i X (As := [.int x1]) (rest := []) ok_X0_has qw200 3 (eC3 _ _ _) rfl rfl ⟨rfl, rfl, Nat.le_of_ble_eq_true rfl, Nat.le_of_ble_eq_true rfl⟩ (m_X0_has X.d hz2) rfl rfl (Nat.le_of_ble_eq_true rfl) dX5_change_5 ?_
  refine G_ifeq X (tgt := 19) dX5_change_8 (by decide) (fun c3 => ?_) (fun c3 => ?_)
  · have h := if_t c3 h
    refine G_aload_n X dX5_change_19 rfl 0 rfl ?_
    refine G_iconst X (v := 0) dX5_change_20 rfl ?_
    obtain ⟨r4, A6, hz5, h⟩ := cl2_k h
    refine G_callV_i X (As := [.int 0]) (rest := []) ok_X5_finding qw191 0 (eC0 _ _ _) rfl rfl ⟨rfl, rfl, Nat.le_of_ble_eq_true rfl, Nat.le_of_ble_eq_true rfl⟩ (m_X5_finding X.d hz5) rfl rfl (Nat.le_of_ble_eq_true rfl) dX5_change_21 ?_
    have e := so h
    subst e
    exact hQ _ _ dX5_change_24
  · have h := if_f c3 h
    refine G_iload_n X dX5_change_11 rfl 2 rfl ?_
    refine G_iload_n X dX5_change_12 rfl 3 rfl ?_
    obtain ⟨r7, hz8, h⟩ := cl_k h
    refine G_callS_i X (As := [.int x2, .int x3]) (rest := []) ok_X5_factFits qw181 ⟨rfl, rfl, Nat.le_of_ble_eq_true rfl, Nat.le_of_ble_eq_true rfl⟩ (m_X5_factFits X.d hz8) rfl rfl (Nat.le_of_ble_eq_true rfl) dX5_change_13 ?_
    refine G_ifne X (tgt := 25) dX5_change_16 (by decide) (fun c9 => ?_) (fun c9 => ?_)
    · have h := if_t c9 h
      refine G_aload_n X dX5_change_19 rfl 0 rfl ?_
      refine G_iconst X (v := 0) dX5_change_20 rfl ?_
      obtain ⟨r18, A20, hz19, h⟩ := cl2_k h
      refine G_callV_i X (As := [.int 0]) (rest := []) ok_X5_finding qw191 0 (eC0 _ _ _) rfl rfl ⟨rfl, rfl, Nat.le_of_ble_eq_true rfl, Nat.le_of_ble_eq_true rfl⟩ (m_X5_finding X.d hz19) rfl rfl (Nat.le_of_ble_eq_true rfl) dX5_change_21 ?_
      have e := so h
      subst e
      exact hQ _ _ dX5_change_24
    · have h := if_f c9 h
      refine G_aload_n X dX5_change_25 rfl 0 rfl ?_
      refine G_getf X inX5 0 (eC0 _ _ _) rfl 2 (by decide) qw157 rfl dX5_change_26 ?_
      refine G_getf X inX0 3 (eC3 _ _ _) rfl 1 (by decide) qw39 rfl dX5_change_29 ?_
      refine G_iload_n X dX5_change_32 rfl 2 rfl ?_
      have hi10 := gI_n h
      have h := gI_k h
      have hw11 := vlt hi10
      refine G_aald X (t0 := 3) (b := fAd (eF E) (5 + x2.toNatClampNeg)) 4 (eC4 _ _ _) rfl rfl hi10 (if_pos hw11) dX5_change_33 ?_
      refine G_iload_n X dX5_change_34 rfl 1 rfl ?_
      have hi12 := gI_n h
      have h := gI_k h
      refine G_iald X (j := x1.toNatClampNeg) (5 + x2.toNatClampNeg) (eCf5 _ _ _ _ hw11) hi12 rfl dX5_change_35 ?_
      refine G_topi (fun v13 ev13 => ?_)
      have h := bv_k ev13 h
      refine G_istore X (lv2 := [(4, .int v13), (0, .ref (fAd (eF E) 0)), (1, .int x1), (2, .int x2), (3, .int x3)]) dX5_change_36 (by decide) rfl ?_
      refine G_aload_n X dX5_change_38 rfl 1 rfl ?_
      refine G_getf X inX5 0 (eC0 _ _ _) rfl 2 (by decide) qw157 rfl dX5_change_39 ?_
      refine G_getf X inX0 3 (eC3 _ _ _) rfl 1 (by decide) qw39 rfl dX5_change_42 ?_
      refine G_iload_n X dX5_change_45 rfl 3 rfl ?_
      have hi14 := gI_n h
      have h := gI_k h
      have hw15 := vlt hi14
      refine G_aald X (t0 := 3) (b := fAd (eF E) (5 + x2.toNatClampNeg)) 4 (eC4 _ _ _) rfl rfl hi14 (if_pos hw15) dX5_change_46 ?_
      refine G_iload_n X dX5_change_47 rfl 2 rfl ?_
      refine G_iload_n X dX5_change_48 rfl 4 rfl ?_
      have hi16 := gI_n h
      have h := gI_k h
      refine G_iast X (j := x1.toNatClampNeg) (5 + x2.toNatClampNeg) (eCf5 _ _ _ _ hw15) (sCI _ _ _ _ x1.toNatClampNeg _ _ (fun _ => fC5 _ _ _ _ hw15)) hi16 rfl dX5_change_49 ?_
      refine G_topS (fun A17 eA17 => ?_)
      have h := bv_k eA17 h
      refine G_iload X dX5_change_50 0 rfl ?_
      have e := so h
      subst e
      exact hQ _ _ dX5_change_52
theorem m_X5_change {l : Launch} {F : pfF} (hD : ∀ A, va_D (fA F) (cellsC (fAd F) (fCy F) A)) {x1 : Int32} {x2 : Int32} {x3 : Int32} {A : St} {out : Int32 × St} (h : f_X5_change x1 x2 x3 A = some out) : Mt l F cellsC yX5_change cX5_change 5 (some .int) rm_X5_change [.ref (fAd F 0), .int x1, .int x2, .int x3] A (va_Qi (fun (r : Int32) (u : St) => r = out.1 ∧ u = out.2) (Wd cellsC F) (fA F)) := by
  refine Met_i (by decide) (Nat.le_of_ble_eq_true rfl) hD (fun E el ef X hQ => ?_)
  subst el
  subst ef
  exact b_X5_change X _ _ _ _ hQ h
theorem ok_X5_change : OkV yX5_change cX5_change 5 (some .int) 3 := ⟨qw205, qw206, qw1, qw207, by decide, by decide, by decide⟩
noncomputable def f_X0_dropLast_L21 (l1 : Int32) (l2 : Int32) (A : St) : Option ((Int32 × St) ⊕ (St)) :=
  if (A.1 3 0) ≤ l2 then
    some (.inr A)
  else
    gI l2 12 <|
    gI l2 12 <|
    bv (upI A 12 l2.toNatClampNeg ((A.1 12 l2.toNatClampNeg) &&& l1)) fun A6 =>
    bv (l2 + 1) fun v7 =>
    some (.inl (v7, A6))
noncomputable def f_X0_dropLast_X48 (A : St) : Option (St) :=
  some A
noncomputable def f_X0_dropLast (A : St) : Option (St) :=
  bv (upI A 3 0 ((A.1 3 0) - 1)) fun A1 =>
  bv ((1 <<< ((A1.1 3 0) &&& 31)) - 1) fun v2 =>
  cl (loop (fun s => f_X0_dropLast_L21 v2 s.1 s.2) (0, A1)) (fun s => f_X0_dropLast_X48 s)
abbrev rm_X0_dropLast : Room := { frames := 0, cells := 0, slots := 0, locals := 0 }
set_option maxHeartbeats 4000000 in
set_option maxRecDepth 100000 in
theorem g_X0_dropLast_L21 {E : pfE} (X : CX cellsC E cX0_dropLast RX0 rm_X0_dropLast 3) (l1 : Int32) : ∀ (n : Nat) (l2 : Int32) (A : St) (ρ : St), lp (fun s => f_X0_dropLast_L21 l1 s.1 s.2) n (l2, A) = some ρ → (∀ (B : St), ρ = B → GG cellsC E B 48 [] []) → GG cellsC E A 21 [(0, .ref (fAd (eF E) 3)), (1, .int l1), (2, .int l2)] [] := by
  intro n
  induction n with
  | zero =>
    intro l2 A ρ h
    cases h
  | succ n ih =>
    intro l2 A ρ h0 K
    obtain ⟨x, hb, hx⟩ := lp_step h0
    have h : f_X0_dropLast_L21 l1 l2 A = some x := hb
    unfold f_X0_dropLast_L21 at h
    clear hb h0
    refine G_iload_n X dX0_dropLast_21 rfl 2 rfl ?_
    refine G_aload_n X dX0_dropLast_22 rfl 0 rfl ?_
    refine G_getf X inX0 3 (eC3 _ _ _) rfl 0 (by decide) qw35 rfl dX0_dropLast_23 ?_
    refine G_icge X (tgt := 48) dX0_dropLast_26 (by decide) (fun c3 => ?_) (fun c3 => ?_)
    · have h := if_t c3 h
      exact G_sub [] rfl (K _ (lpr (so h) hx).symm)
    · have h := if_f c3 h
      refine G_aload_n X dX0_dropLast_29 rfl 0 rfl ?_
      refine G_getf X inX0 3 (eC3 _ _ _) rfl 1 (by decide) qw38 rfl dX0_dropLast_30 ?_
      refine G_bipush X (v := 7) dX0_dropLast_33 rfl ?_
      refine G_aald X (t0 := 3) (b := fAd (eF E) 12) 4 (eC4 _ _ _) rfl rfl (vi rfl) rfl dX0_dropLast_35 ?_
      refine G_iload_n X dX0_dropLast_36 rfl 2 rfl ?_
      refine G_dup2 X dX0_dropLast_37 rfl rfl ?_
      have hi4 := gI_n h
      have h := gI_k h
      refine G_iald X (j := l2.toNatClampNeg) 12 (eC12 _ _ _) hi4 rfl dX0_dropLast_38 ?_
      refine G_iload_n X dX0_dropLast_39 rfl 1 rfl ?_
      refine G_iand X dX0_dropLast_40 ?_
      have hi5 := gI_n h
      have h := gI_k h
      refine G_iast X (j := l2.toNatClampNeg) 12 (eC12 _ _ _) (sCI _ _ _ _ l2.toNatClampNeg _ _ (fun _ => rfl)) hi5 rfl dX0_dropLast_41 ?_
      refine G_topS (fun A6 eA6 => ?_)
      have h := bv_k eA6 h
      obtain ⟨v7, ev7⟩ : ∃ y : Int32, y = l2 + 1 := ⟨_, rfl⟩
      have h := bv_k ev7 h
      refine G_iinc X (q := 2) (v := v7) (lv2 := [(2, .int v7), (0, .ref (fAd (eF E) 3)), (1, .int l1)]) dX0_dropLast_42 rfl (by rw [ev7]; rfl) (by decide) rfl ?_
      refine G_goto X (tgt := 21) dX0_dropLast_45 (by decide) ?_
      exact G_sub [1, 2, 0] rfl (ih _ _ ρ (lpl (so h) hx) K)
set_option maxHeartbeats 4000000 in
set_option maxRecDepth 100000 in
theorem b_X0_dropLast {E : pfE} (X : CX cellsC E cX0_dropLast RX0 rm_X0_dropLast 3) (A : St) {out : St} (hQ : Retv cellsC E cX0_dropLast out) (h : f_X0_dropLast A = some out) : GG cellsC E A 0 [(0, .ref (fAd (eF E) 3))] [] := by
  unfold f_X0_dropLast at h
  refine G_aload_n X dX0_dropLast_0 rfl 0 rfl ?_
  refine G_dup X dX0_dropLast_1 rfl ?_
  refine G_getf X inX0 3 (eC3 _ _ _) rfl 0 (by decide) qw35 rfl dX0_dropLast_2 ?_
  refine G_iconst X (v := 1) dX0_dropLast_5 rfl ?_
  refine G_isub X dX0_dropLast_6 ?_
  refine G_putf X (ty := .int) tyX0 tyX0_ok nmX0 inX0 3 (eC3 _ _ _) rfl 0 (by decide) qw35 rfl (by decide +kernel) rfl rfl (Nat.le_of_ble_eq_true rfl) (oCI _ _ _ _ 0 ((A.1 3 0) - 1) _ rfl) dX0_dropLast_7 ?_
  refine G_topS (fun A1 eA1 => ?_)
  have h := bv_k eA1 h
  refine G_iconst X (v := 1) dX0_dropLast_10 rfl ?_
  refine G_aload_n X dX0_dropLast_11 rfl 0 rfl ?_
  refine G_getf X inX0 3 (eC3 _ _ _) rfl 0 (by decide) qw35 rfl dX0_dropLast_12 ?_
  refine G_ishl X dX0_dropLast_15 ?_
  refine G_iconst X (v := 1) dX0_dropLast_16 rfl ?_
  refine G_isub X dX0_dropLast_17 ?_
  refine G_topi (fun v2 ev2 => ?_)
  have h := bv_k ev2 h
  refine G_istore_n X (lv2 := [(1, .int v2), (0, .ref (fAd (eF E) 3))]) dX0_dropLast_18 rfl (by decide) rfl ?_
  refine G_iconst X (v := 0) dX0_dropLast_19 rfl ?_
  refine G_istore_n X (lv2 := [(2, .int 0), (1, .int v2), (0, .ref (fAd (eF E) 3))]) dX0_dropLast_20 rfl (by decide) rfl ?_
  obtain ⟨ρ, hl, h⟩ := cl_k h
  obtain ⟨n, hl⟩ := loop_some hl
  refine G_sub [2, 1, 0] rfl (g_X0_dropLast_L21 X v2 n _ _ ρ hl ?_)
  intro A8 e
  rw [e] at h
  have h : f_X0_dropLast_X48 A8 = some _ := h
  unfold f_X0_dropLast_X48 at h
  have e := so h
  subst e
  exact hQ _ _ dX0_dropLast_48
theorem m_X0_dropLast {l : Launch} {F : pfF} (hD : ∀ A, va_D (fA F) (cellsC (fAd F) (fCy F) A)) {A : St} {out : St} (h : f_X0_dropLast A = some out) : Mt l F cellsC yX0_dropLast cX0_dropLast 3 none rm_X0_dropLast [.ref (fAd F 3)] A (va_Qv (fun (u : St) => u = out) (Wd cellsC F) (fA F)) := by
  refine Met_v (by decide) (Nat.le_of_ble_eq_true rfl) hD (fun E el ef X hQ => ?_)
  subst el
  subst ef
  exact b_X0_dropLast X _ hQ h
theorem ok_X0_dropLast : OkV yX0_dropLast cX0_dropLast 3 none 0 := ⟨qw213, qw214, qw3, qw215, by decide, by decide, by decide⟩
noncomputable def f_X5_drop (A : St) : Option (Int32 × St) :=
  if (A.1 3 0) = 0 then
    cl2 (f_X5_finding 3 A) fun r5 A7 =>
    some (r5, A7)
  else
    cl (f_X0_dropLast A) fun A4 =>
    some (A4.1 3 0, A4)
abbrev rm_X5_drop : Room := { frames := 1, cells := 0, slots := 0, locals := 22 }
set_option maxHeartbeats 4000000 in
set_option maxRecDepth 100000 in
theorem b_X5_drop {E : pfE} (X : CX cellsC E cX5_drop RX5 rm_X5_drop 1) (A : St) {out : Int32 × St} (hQ : Reti cellsC E cX5_drop out.1 out.2) (h : f_X5_drop A = some out) : GG cellsC E A 0 [(0, .ref (fAd (eF E) 0))] [] := by
  unfold f_X5_drop at h
  refine G_aload_n X dX5_drop_0 rfl 0 rfl ?_
  refine G_getf X inX5 0 (eC0 _ _ _) rfl 2 (by decide) qw157 rfl dX5_drop_1 ?_
  refine G_getf X inX0 3 (eC3 _ _ _) rfl 0 (by decide) qw36 rfl dX5_drop_4 ?_
  refine G_ifne X (tgt := 16) dX5_drop_7 (by decide) (fun c1 => ?_) (fun c1 => ?_)
  · have h := if_t c1 h
    refine G_aload_n X dX5_drop_10 rfl 0 rfl ?_
    refine G_iconst X (v := 3) dX5_drop_11 rfl ?_
    obtain ⟨r5, A7, hz6, h⟩ := cl2_k h
    refine G_callV_i X (As := [.int 3]) (rest := []) ok_X5_finding qw191 0 (eC0 _ _ _) rfl rfl ⟨rfl, rfl, Nat.le_of_ble_eq_true rfl, Nat.le_of_ble_eq_true rfl⟩ (m_X5_finding X.d hz6) rfl rfl (Nat.le_of_ble_eq_true rfl) dX5_drop_12 ?_
    have e := so h
    subst e
    exact hQ _ _ dX5_drop_15
  · have h := if_f c1 h
    refine G_aload_n X dX5_drop_16 rfl 0 rfl ?_
    refine G_getf X inX5 0 (eC0 _ _ _) rfl 2 (by decide) qw157 rfl dX5_drop_17 ?_
    obtain ⟨A4, hz3, h⟩ := cl_k h
    refine G_callV_v X (As := []) (rest := []) ok_X0_dropLast qw212 3 (eC3 _ _ _) rfl rfl ⟨rfl, rfl, Nat.le_of_ble_eq_true rfl, Nat.le_of_ble_eq_true rfl⟩ (m_X0_dropLast X.d hz3) rfl rfl (Nat.le_of_ble_eq_true rfl) dX5_drop_20 ?_
    refine G_aload_n X dX5_drop_23 rfl 0 rfl ?_
    refine G_getf X inX5 0 (eC0 _ _ _) rfl 2 (by decide) qw157 rfl dX5_drop_24 ?_
    refine G_getf X inX0 3 (eC3 _ _ _) rfl 0 (by decide) qw36 rfl dX5_drop_27 ?_
    have e := so h
    subst e
    exact hQ _ _ dX5_drop_30
theorem m_X5_drop {l : Launch} {F : pfF} (hD : ∀ A, va_D (fA F) (cellsC (fAd F) (fCy F) A)) {A : St} {out : Int32 × St} (h : f_X5_drop A = some out) : Mt l F cellsC yX5_drop cX5_drop 1 (some .int) rm_X5_drop [.ref (fAd F 0)] A (va_Qi (fun (r : Int32) (u : St) => r = out.1 ∧ u = out.2) (Wd cellsC F) (fA F)) := by
  refine Met_i (by decide) (Nat.le_of_ble_eq_true rfl) hD (fun E el ef X hQ => ?_)
  subst el
  subst ef
  exact b_X5_drop X _ hQ h
theorem ok_X5_drop : OkV yX5_drop cX5_drop 1 (some .int) 0 := ⟨qw209, qw210, qw1, qw211, by decide, by decide, by decide⟩
noncomputable def f_X5_isOfKind_L4 (l1 : Int32) (l2 : Int32) (l3 : Int32) : Option ((Int32 × Int32) ⊕ ((Unit) ⊕ (Bool))) :=
  if 6 ≤ l3 then
    some (.inr (.inl ()))
  else
    if l2 = l1 then
      some (.inr (.inr true))
    else
      if l2 < 0 then
        some (.inr (.inr false))
      else
        if l2 < 6 then
          gI l2 6 <|
          bv (tb 2 l2.toNatClampNeg) fun v6 =>
          bv (l3 + 1) fun v7 =>
          some (.inl (v6, v7))
        else
          some (.inr (.inr false))
noncomputable def f_X5_isOfKind_X45 : Option (Bool) :=
  some false
noncomputable def f_X5_isOfKind (x0 : Int32) (x1 : Int32) : Option (Bool) :=
  cl (loop (fun s => f_X5_isOfKind_L4 x1 s.1 s.2) (x0, 0)) (Sum.elim (fun _ => f_X5_isOfKind_X45) (fun t => some t))
abbrev rm_X5_isOfKind : Room := { frames := 0, cells := 0, slots := 0, locals := 0 }
set_option maxHeartbeats 4000000 in
set_option maxRecDepth 100000 in
theorem g_X5_isOfKind_L4 {wl : pfW} {E : pfE} (X : CX wl E cX5_isOfKind RX5 rm_X5_isOfKind 4) {A : St} (l1 : Int32) {out : Bool} (hQ : Reti wl E cX5_isOfKind (bI out) A) : ∀ (n : Nat) (l2 : Int32) (l3 : Int32) (ρ : (Unit) ⊕ (Bool)), lp (fun s => f_X5_isOfKind_L4 l1 s.1 s.2) n (l2, l3) = some ρ → (ρ = .inl () → GG wl E A 45 [] []) → (∀ t, ρ = .inr t → t = out) → GG wl E A 4 [(1, .int l1), (2, .int l2), (3, .int l3)] [] := by
  intro n
  induction n with
  | zero =>
    intro l2 l3 ρ h
    cases h
  | succ n ih =>
    intro l2 l3 ρ h0 K KR
    obtain ⟨x, hb, hx⟩ := lp_step h0
    have h : f_X5_isOfKind_L4 l1 l2 l3 = some x := hb
    unfold f_X5_isOfKind_L4 at h
    clear hb h0
    refine G_iload_n X dX5_isOfKind_4 rfl 2 rfl ?_
    refine G_tget X 2 (by decide) qw223 dX5_isOfKind_5 ?_
    refine G_tlen X 2 (by decide) (v := 6) rfl dX5_isOfKind_8 ?_
    refine G_icge X (tgt := 45) dX5_isOfKind_9 (by decide) (fun c1 => ?_) (fun c1 => ?_)
    · have h := if_t c1 h
      exact G_sub [] rfl (K (lpr (so h) hx).symm)
    · have h := if_f c1 h
      refine G_iload_n X dX5_isOfKind_12 rfl 1 rfl ?_
      refine G_iload_n X dX5_isOfKind_13 rfl 0 rfl ?_
      refine G_icne X (tgt := 19) dX5_isOfKind_14 (by decide) (fun c2 => ?_) (fun c2 => ?_)
      · have h := if_t c2 h
        refine G_iconst X (v := 1) dX5_isOfKind_17 rfl ?_
        have e := KR _ (lpr (so h) hx).symm
        subst e
        exact hQ _ _ dX5_isOfKind_18
      · have h := if_f c2 h
        refine G_iload_n X dX5_isOfKind_19 rfl 1 rfl ?_
        refine G_iflt X (tgt := 31) dX5_isOfKind_20 (by decide) (fun c3 => ?_) (fun c3 => ?_)
        · have h := if_t c3 h
          refine G_iconst X (v := 0) dX5_isOfKind_31 rfl ?_
          have e := KR _ (lpr (so h) hx).symm
          subst e
          exact hQ _ _ dX5_isOfKind_32
        · have h := if_f c3 h
          refine G_iload_n X dX5_isOfKind_23 rfl 1 rfl ?_
          refine G_tget X 2 (by decide) qw223 dX5_isOfKind_24 ?_
          refine G_tlen X 2 (by decide) (v := 6) rfl dX5_isOfKind_27 ?_
          refine G_iclt X (tgt := 33) dX5_isOfKind_28 (by decide) (fun c4 => ?_) (fun c4 => ?_)
          · have h := if_t c4 h
            refine G_tget X 2 (by decide) qw223 dX5_isOfKind_33 ?_
            refine G_iload_n X dX5_isOfKind_36 rfl 1 rfl ?_
            have hi5 := gI_n h
            have h := gI_k h
            refine G_tald X 2 (by decide) (j := l2.toNatClampNeg) rfl hi5 rfl dX5_isOfKind_37 ?_
            refine G_topi (fun v6 ev6 => ?_)
            have h := bv_k ev6 h
            refine G_istore_n X (lv2 := [(2, .int v6), (1, .int l1), (3, .int l3)]) dX5_isOfKind_38 rfl (by decide) rfl ?_
            obtain ⟨v7, ev7⟩ : ∃ y : Int32, y = l3 + 1 := ⟨_, rfl⟩
            have h := bv_k ev7 h
            refine G_iinc X (q := 2) (v := v7) (lv2 := [(3, .int v7), (2, .int v6), (1, .int l1)]) dX5_isOfKind_39 rfl (by rw [ev7]; rfl) (by decide) rfl ?_
            refine G_goto X (tgt := 4) dX5_isOfKind_42 (by decide) ?_
            exact G_sub [2, 1, 0] rfl (ih _ _ ρ (lpl (so h) hx) K KR)
          · have h := if_f c4 h
            refine G_iconst X (v := 0) dX5_isOfKind_31 rfl ?_
            have e := KR _ (lpr (so h) hx).symm
            subst e
            exact hQ _ _ dX5_isOfKind_32
set_option maxHeartbeats 4000000 in
set_option maxRecDepth 100000 in
theorem b_X5_isOfKind {wl : pfW} {E : pfE} (X : CX wl E cX5_isOfKind RX5 rm_X5_isOfKind 4) (x0 : Int32) (x1 : Int32) {A : St} {out : Bool} (hQ : Reti wl E cX5_isOfKind (bI out) A) (h : f_X5_isOfKind x0 x1 = some out) : GG wl E A 0 [(0, .int x0), (1, .int x1)] [] := by
  unfold f_X5_isOfKind at h
  refine G_iload_n X dX5_isOfKind_0 rfl 0 rfl ?_
  refine G_istore_n X (lv2 := [(2, .int x0), (0, .int x0), (1, .int x1)]) dX5_isOfKind_1 rfl (by decide) rfl ?_
  refine G_iconst X (v := 0) dX5_isOfKind_2 rfl ?_
  refine G_istore_n X (lv2 := [(3, .int 0), (2, .int x0), (0, .int x0), (1, .int x1)]) dX5_isOfKind_3 rfl (by decide) rfl ?_
  obtain ⟨ρ, hl, h⟩ := cl_k h
  obtain ⟨n, hl⟩ := loop_some hl
  refine G_sub [3, 1, 0] rfl (g_X5_isOfKind_L4 X x1 hQ n _ _ ρ hl ?_ (fun t e => by subst e; exact so h))
  intro e
  subst e
  have h : f_X5_isOfKind_X45 = some _ := h
  unfold f_X5_isOfKind_X45 at h
  refine G_iconst X (v := 0) dX5_isOfKind_45 rfl ?_
  have e := so h
  subst e
  exact hQ _ _ dX5_isOfKind_46
theorem m_X5_isOfKind {wl : pfW} {l : Launch} {F : pfF} (hD : ∀ A, va_D (fA F) (wl (fAd F) (fCy F) A)) {x0 : Int32} {x1 : Int32} {A : St} {out : Bool} (h : f_X5_isOfKind x0 x1 = some out) : Mt l F wl yX5_isOfKind cX5_isOfKind 4 (some .boolean) rm_X5_isOfKind [.int x0, .int x1] A (va_Qi (fun (r : Int32) (u : St) => r = bI out ∧ u = A) (Wd wl F) (fA F)) := by
  refine Met_iz (by decide) (Nat.le_of_ble_eq_true rfl) hD (nar_bI _) (fun E el ef X hQ => ?_)
  subst el
  subst ef
  exact b_X5_isOfKind X _ _ hQ h
theorem ok_X5_isOfKind : OkS yX5_isOfKind cX5_isOfKind 4 (some .boolean) 2 := ⟨qw221, qw1, qw222, by decide, by decide, by decide⟩
noncomputable def f_X5_as (x1 : Int32) (x2 : Int32) (A : St) : Option (Int32 × St) :=
  cl (f_X0_has x1 A) fun r1 =>
  if (bI r1) = 0 then
    cl2 (f_X5_finding 0 A) fun r4 A6 =>
    some (r4, A6)
  else
    cl (f_X5_factFits 0 x2) fun r7 =>
    if (bI r7) = 0 then
      cl2 (f_X5_finding 0 A) fun r18 A20 =>
      some (r18, A20)
    else
      gI x1 12 <|
      cl (f_X5_isOfKind (A.1 5 x1.toNatClampNeg) x2) fun r11 =>
      if (bI r11) = 0 then
        cl2 (f_X5_finding 2 A) fun r15 A17 =>
        some (r15, A17)
      else
        gI x1 12 <|
        some (A.1 7 x1.toNatClampNeg, A)
abbrev rm_X5_as : Room := { frames := 2, cells := 0, slots := 0, locals := 43 }
set_option maxHeartbeats 4000000 in
set_option maxRecDepth 100000 in
theorem b_X5_as {E : pfE} (X : CX cellsC E cX5_as RX5 rm_X5_as 3) (x1 : Int32) (x2 : Int32) (A : St) {out : Int32 × St} (hQ : Reti cellsC E cX5_as out.1 out.2) (h : f_X5_as x1 x2 A = some out) : GG cellsC E A 0 [(0, .ref (fAd (eF E) 0)), (1, .int x1), (2, .int x2)] [] := by
  unfold f_X5_as at h
  refine G_aload_n X dX5_as_0 rfl 0 rfl ?_
  refine G_getf X inX5 0 (eC0 _ _ _) rfl 2 (by decide) qw157 rfl dX5_as_1 ?_
  refine G_iload_n X dX5_as_4 rfl 1 rfl ?_
  obtain ⟨r1, hz2, h⟩ := cl_k h
  refine G_callV_i X (As := [.int x1]) (rest := []) ok_X0_has qw200 3 (eC3 _ _ _) rfl rfl ⟨rfl, rfl, Nat.le_of_ble_eq_true rfl, Nat.le_of_ble_eq_true rfl⟩ (m_X0_has X.d hz2) rfl rfl (Nat.le_of_ble_eq_true rfl) dX5_as_5 ?_
  refine G_ifeq X (tgt := 19) dX5_as_8 (by decide) (fun c3 => ?_) (fun c3 => ?_)
  · have h := if_t c3 h
    refine G_aload_n X dX5_as_19 rfl 0 rfl ?_
    refine G_iconst X (v := 0) dX5_as_20 rfl ?_
    obtain ⟨r4, A6, hz5, h⟩ := cl2_k h
    refine G_callV_i X (As := [.int 0]) (rest := []) ok_X5_finding qw191 0 (eC0 _ _ _) rfl rfl ⟨rfl, rfl, Nat.le_of_ble_eq_true rfl, Nat.le_of_ble_eq_true rfl⟩ (m_X5_finding X.d hz5) rfl rfl (Nat.le_of_ble_eq_true rfl) dX5_as_21 ?_
    have e := so h
    subst e
    exact hQ _ _ dX5_as_24
  · have h := if_f c3 h
    refine G_iconst X (v := 0) dX5_as_11 rfl ?_
    refine G_iload_n X dX5_as_12 rfl 2 rfl ?_
    obtain ⟨r7, hz8, h⟩ := cl_k h
    refine G_callS_i X (As := [.int 0, .int x2]) (rest := []) ok_X5_factFits qw181 ⟨rfl, rfl, Nat.le_of_ble_eq_true rfl, Nat.le_of_ble_eq_true rfl⟩ (m_X5_factFits X.d hz8) rfl rfl (Nat.le_of_ble_eq_true rfl) dX5_as_13 ?_
    refine G_ifne X (tgt := 25) dX5_as_16 (by decide) (fun c9 => ?_) (fun c9 => ?_)
    · have h := if_t c9 h
      refine G_aload_n X dX5_as_19 rfl 0 rfl ?_
      refine G_iconst X (v := 0) dX5_as_20 rfl ?_
      obtain ⟨r18, A20, hz19, h⟩ := cl2_k h
      refine G_callV_i X (As := [.int 0]) (rest := []) ok_X5_finding qw191 0 (eC0 _ _ _) rfl rfl ⟨rfl, rfl, Nat.le_of_ble_eq_true rfl, Nat.le_of_ble_eq_true rfl⟩ (m_X5_finding X.d hz19) rfl rfl (Nat.le_of_ble_eq_true rfl) dX5_as_21 ?_
      have e := so h
      subst e
      exact hQ _ _ dX5_as_24
    · have h := if_f c9 h
      refine G_aload_n X dX5_as_25 rfl 0 rfl ?_
      refine G_getf X inX5 0 (eC0 _ _ _) rfl 2 (by decide) qw157 rfl dX5_as_26 ?_
      refine G_getf X inX0 3 (eC3 _ _ _) rfl 1 (by decide) qw39 rfl dX5_as_29 ?_
      refine G_iconst X (v := 0) dX5_as_32 rfl ?_
      refine G_aald X (t0 := 3) (b := fAd (eF E) 5) 4 (eC4 _ _ _) rfl rfl (vi rfl) rfl dX5_as_33 ?_
      refine G_iload_n X dX5_as_34 rfl 1 rfl ?_
      have hi10 := gI_n h
      have h := gI_k h
      refine G_iald X (j := x1.toNatClampNeg) 5 (eC5 _ _ _) hi10 rfl dX5_as_35 ?_
      refine G_iload_n X dX5_as_36 rfl 2 rfl ?_
      obtain ⟨r11, hz12, h⟩ := cl_k h
      refine G_callS_i X (As := [.int (A.1 5 x1.toNatClampNeg), .int x2]) (rest := []) ok_X5_isOfKind qw220 ⟨rfl, rfl, Nat.le_of_ble_eq_true rfl, Nat.le_of_ble_eq_true rfl⟩ (m_X5_isOfKind X.d hz12) rfl rfl (Nat.le_of_ble_eq_true rfl) dX5_as_37 ?_
      refine G_ifne X (tgt := 49) dX5_as_40 (by decide) (fun c13 => ?_) (fun c13 => ?_)
      · have h := if_t c13 h
        refine G_aload_n X dX5_as_43 rfl 0 rfl ?_
        refine G_iconst X (v := 2) dX5_as_44 rfl ?_
        obtain ⟨r15, A17, hz16, h⟩ := cl2_k h
        refine G_callV_i X (As := [.int 2]) (rest := []) ok_X5_finding qw191 0 (eC0 _ _ _) rfl rfl ⟨rfl, rfl, Nat.le_of_ble_eq_true rfl, Nat.le_of_ble_eq_true rfl⟩ (m_X5_finding X.d hz16) rfl rfl (Nat.le_of_ble_eq_true rfl) dX5_as_45 ?_
        have e := so h
        subst e
        exact hQ _ _ dX5_as_48
      · have h := if_f c13 h
        refine G_aload_n X dX5_as_49 rfl 0 rfl ?_
        refine G_getf X inX5 0 (eC0 _ _ _) rfl 2 (by decide) qw157 rfl dX5_as_50 ?_
        refine G_getf X inX0 3 (eC3 _ _ _) rfl 1 (by decide) qw39 rfl dX5_as_53 ?_
        refine G_iconst X (v := 2) dX5_as_56 rfl ?_
        refine G_aald X (t0 := 3) (b := fAd (eF E) 7) 4 (eC4 _ _ _) rfl rfl (vi rfl) rfl dX5_as_57 ?_
        refine G_iload_n X dX5_as_58 rfl 1 rfl ?_
        have hi14 := gI_n h
        have h := gI_k h
        refine G_iald X (j := x1.toNatClampNeg) 7 (eC7 _ _ _) hi14 rfl dX5_as_59 ?_
        have e := so h
        subst e
        exact hQ _ _ dX5_as_60
theorem m_X5_as {l : Launch} {F : pfF} (hD : ∀ A, va_D (fA F) (cellsC (fAd F) (fCy F) A)) {x1 : Int32} {x2 : Int32} {A : St} {out : Int32 × St} (h : f_X5_as x1 x2 A = some out) : Mt l F cellsC yX5_as cX5_as 3 (some .int) rm_X5_as [.ref (fAd F 0), .int x1, .int x2] A (va_Qi (fun (r : Int32) (u : St) => r = out.1 ∧ u = out.2) (Wd cellsC F) (fA F)) := by
  refine Met_i (by decide) (Nat.le_of_ble_eq_true rfl) hD (fun E el ef X hQ => ?_)
  subst el
  subst ef
  exact b_X5_as X _ _ _ hQ h
theorem ok_X5_as : OkV yX5_as cX5_as 3 (some .int) 2 := ⟨qw217, qw218, qw1, qw219, by decide, by decide, by decide⟩
noncomputable def f_X5_enemy (x1 : Int32) (x2 : Int32) (x3 : Int32) (A : St) : Option (Int32 × St) :=
  cl (f_X0_has x1 A) fun r1 =>
  if (bI r1) = 0 then
    cl2 (f_X5_finding 0 A) fun r4 A6 =>
    some (r4, A6)
  else
    cl (f_X0_has x2 A) fun r7 =>
    if (bI r7) = 0 then
      cl2 (f_X5_finding 0 A) fun r10 A12 =>
      some (r10, A12)
    else
      if x1 = x2 then
        cl2 (f_X5_finding 0 A) fun r29 A31 =>
        some (r29, A31)
      else
        gI x1 12 <|
        bv (((A.1 12 x1.toNatClampNeg) >>> (x2 &&& 31)) &&& 1) fun v15 =>
        if x3 = 0 then
          gI x1 12 <|
          gI x1 12 <|
          bv (upI A 12 x1.toNatClampNeg ((A.1 12 x1.toNatClampNeg) &&& ((1 <<< (x2 &&& 31)) ^^^ (-1)))) fun A19 =>
          gI x2 12 <|
          gI x2 12 <|
          bv (upI A19 12 x2.toNatClampNeg ((A19.1 12 x2.toNatClampNeg) &&& ((1 <<< (x1 &&& 31)) ^^^ (-1)))) fun A22 =>
          some (v15, A22)
        else
          gI x1 12 <|
          gI x1 12 <|
          bv (upI A 12 x1.toNatClampNeg ((A.1 12 x1.toNatClampNeg) ||| (1 <<< (x2 &&& 31)))) fun A25 =>
          gI x2 12 <|
          gI x2 12 <|
          bv (upI A25 12 x2.toNatClampNeg ((A25.1 12 x2.toNatClampNeg) ||| (1 <<< (x1 &&& 31)))) fun A28 =>
          some (v15, A28)
abbrev rm_X5_enemy : Room := { frames := 1, cells := 0, slots := 0, locals := 21 }
set_option maxHeartbeats 4000000 in
set_option maxRecDepth 100000 in
theorem b_X5_enemy {E : pfE} (X : CX cellsC E cX5_enemy RX5 rm_X5_enemy 6) (x1 : Int32) (x2 : Int32) (x3 : Int32) (A : St) {out : Int32 × St} (hQ : Reti cellsC E cX5_enemy out.1 out.2) (h : f_X5_enemy x1 x2 x3 A = some out) : GG cellsC E A 0 [(0, .ref (fAd (eF E) 0)), (1, .int x1), (2, .int x2), (3, .int x3)] [] := by
  unfold f_X5_enemy at h
  refine G_aload_n X dX5_enemy_0 rfl 0 rfl ?_
  refine G_getf X inX5 0 (eC0 _ _ _) rfl 2 (by decide) qw157 rfl dX5_enemy_1 ?_
  refine G_iload_n X dX5_enemy_4 rfl 1 rfl ?_
  obtain ⟨r1, hz2, h⟩ := cl_k h
  refine G_callV_i X (As := [.int x1]) (rest := []) ok_X0_has qw200 3 (eC3 _ _ _) rfl rfl ⟨rfl, rfl, Nat.le_of_ble_eq_true rfl, Nat.le_of_ble_eq_true rfl⟩ (m_X0_has X.d hz2) rfl rfl (Nat.le_of_ble_eq_true rfl) dX5_enemy_5 ?_
  refine G_ifeq X (tgt := 27) dX5_enemy_8 (by decide) (fun c3 => ?_) (fun c3 => ?_)
  · have h := if_t c3 h
    refine G_aload_n X dX5_enemy_27 rfl 0 rfl ?_
    refine G_iconst X (v := 0) dX5_enemy_28 rfl ?_
    obtain ⟨r4, A6, hz5, h⟩ := cl2_k h
    refine G_callV_i X (As := [.int 0]) (rest := []) ok_X5_finding qw191 0 (eC0 _ _ _) rfl rfl ⟨rfl, rfl, Nat.le_of_ble_eq_true rfl, Nat.le_of_ble_eq_true rfl⟩ (m_X5_finding X.d hz5) rfl rfl (Nat.le_of_ble_eq_true rfl) dX5_enemy_29 ?_
    have e := so h
    subst e
    exact hQ _ _ dX5_enemy_32
  · have h := if_f c3 h
    refine G_aload_n X dX5_enemy_11 rfl 0 rfl ?_
    refine G_getf X inX5 0 (eC0 _ _ _) rfl 2 (by decide) qw157 rfl dX5_enemy_12 ?_
    refine G_iload_n X dX5_enemy_15 rfl 2 rfl ?_
    obtain ⟨r7, hz8, h⟩ := cl_k h
    refine G_callV_i X (As := [.int x2]) (rest := []) ok_X0_has qw200 3 (eC3 _ _ _) rfl rfl ⟨rfl, rfl, Nat.le_of_ble_eq_true rfl, Nat.le_of_ble_eq_true rfl⟩ (m_X0_has X.d hz8) rfl rfl (Nat.le_of_ble_eq_true rfl) dX5_enemy_16 ?_
    refine G_ifeq X (tgt := 27) dX5_enemy_19 (by decide) (fun c9 => ?_) (fun c9 => ?_)
    · have h := if_t c9 h
      refine G_aload_n X dX5_enemy_27 rfl 0 rfl ?_
      refine G_iconst X (v := 0) dX5_enemy_28 rfl ?_
      obtain ⟨r10, A12, hz11, h⟩ := cl2_k h
      refine G_callV_i X (As := [.int 0]) (rest := []) ok_X5_finding qw191 0 (eC0 _ _ _) rfl rfl ⟨rfl, rfl, Nat.le_of_ble_eq_true rfl, Nat.le_of_ble_eq_true rfl⟩ (m_X5_finding X.d hz11) rfl rfl (Nat.le_of_ble_eq_true rfl) dX5_enemy_29 ?_
      have e := so h
      subst e
      exact hQ _ _ dX5_enemy_32
    · have h := if_f c9 h
      refine G_iload_n X dX5_enemy_22 rfl 1 rfl ?_
      refine G_iload_n X dX5_enemy_23 rfl 2 rfl ?_
      refine G_icne X (tgt := 33) dX5_enemy_24 (by decide) (fun c13 => ?_) (fun c13 => ?_)
      · have h := if_t c13 h
        refine G_aload_n X dX5_enemy_27 rfl 0 rfl ?_
        refine G_iconst X (v := 0) dX5_enemy_28 rfl ?_
        obtain ⟨r29, A31, hz30, h⟩ := cl2_k h
        refine G_callV_i X (As := [.int 0]) (rest := []) ok_X5_finding qw191 0 (eC0 _ _ _) rfl rfl ⟨rfl, rfl, Nat.le_of_ble_eq_true rfl, Nat.le_of_ble_eq_true rfl⟩ (m_X5_finding X.d hz30) rfl rfl (Nat.le_of_ble_eq_true rfl) dX5_enemy_29 ?_
        have e := so h
        subst e
        exact hQ _ _ dX5_enemy_32
      · have h := if_f c13 h
        refine G_aload_n X dX5_enemy_33 rfl 0 rfl ?_
        refine G_getf X inX5 0 (eC0 _ _ _) rfl 2 (by decide) qw157 rfl dX5_enemy_34 ?_
        refine G_getf X inX0 3 (eC3 _ _ _) rfl 1 (by decide) qw39 rfl dX5_enemy_37 ?_
        refine G_bipush X (v := 7) dX5_enemy_40 rfl ?_
        refine G_aald X (t0 := 3) (b := fAd (eF E) 12) 4 (eC4 _ _ _) rfl rfl (vi rfl) rfl dX5_enemy_42 ?_
        refine G_astore X (lv2 := [(4, .ref (fAd (eF E) 12)), (0, .ref (fAd (eF E) 0)), (1, .int x1), (2, .int x2), (3, .int x3)]) dX5_enemy_43 (by decide) rfl ?_
        refine G_aload X dX5_enemy_45 0 rfl ?_
        refine G_iload_n X dX5_enemy_47 rfl 2 rfl ?_
        have hi14 := gI_n h
        have h := gI_k h
        refine G_iald X (j := x1.toNatClampNeg) 12 (eC12 _ _ _) hi14 rfl dX5_enemy_48 ?_
        refine G_iload_n X dX5_enemy_49 rfl 3 rfl ?_
        refine G_ishr X dX5_enemy_50 ?_
        refine G_iconst X (v := 1) dX5_enemy_51 rfl ?_
        refine G_iand X dX5_enemy_52 ?_
        refine G_topi (fun v15 ev15 => ?_)
        have h := bv_k ev15 h
        refine G_istore X (lv2 := [(5, .int v15), (4, .ref (fAd (eF E) 12)), (0, .ref (fAd (eF E) 0)), (1, .int x1), (2, .int x2), (3, .int x3)]) dX5_enemy_53 (by decide) rfl ?_
        refine G_iload_n X dX5_enemy_55 rfl 5 rfl ?_
        refine G_ifeq X (tgt := 82) dX5_enemy_56 (by decide) (fun c16 => ?_) (fun c16 => ?_)
        · have h := if_t c16 h
          refine G_aload X dX5_enemy_82 1 rfl ?_
          refine G_iload_n X dX5_enemy_84 rfl 3 rfl ?_
          refine G_dup2 X dX5_enemy_85 rfl rfl ?_
          have hi17 := gI_n h
          have h := gI_k h
          refine G_iald X (j := x1.toNatClampNeg) 12 (eC12 _ _ _) hi17 rfl dX5_enemy_86 ?_
          refine G_iconst X (v := 1) dX5_enemy_87 rfl ?_
          refine G_iload_n X dX5_enemy_88 rfl 4 rfl ?_
          refine G_ishl X dX5_enemy_89 ?_
          refine G_iconst X (v := (-1)) dX5_enemy_90 rfl ?_
          refine G_ixor X dX5_enemy_91 ?_
          refine G_iand X dX5_enemy_92 ?_
          have hi18 := gI_n h
          have h := gI_k h
          refine G_iast X (j := x1.toNatClampNeg) 12 (eC12 _ _ _) (sCI _ _ _ _ x1.toNatClampNeg _ _ (fun _ => rfl)) hi18 rfl dX5_enemy_93 ?_
          refine G_topS (fun A19 eA19 => ?_)
          have h := bv_k eA19 h
          refine G_aload X dX5_enemy_94 1 rfl ?_
          refine G_iload_n X dX5_enemy_96 rfl 4 rfl ?_
          refine G_dup2 X dX5_enemy_97 rfl rfl ?_
          have hi20 := gI_n h
          have h := gI_k h
          refine G_iald X (j := x2.toNatClampNeg) 12 (eC12 _ _ _) hi20 rfl dX5_enemy_98 ?_
          refine G_iconst X (v := 1) dX5_enemy_99 rfl ?_
          refine G_iload_n X dX5_enemy_100 rfl 3 rfl ?_
          refine G_ishl X dX5_enemy_101 ?_
          refine G_iconst X (v := (-1)) dX5_enemy_102 rfl ?_
          refine G_ixor X dX5_enemy_103 ?_
          refine G_iand X dX5_enemy_104 ?_
          have hi21 := gI_n h
          have h := gI_k h
          refine G_iast X (j := x2.toNatClampNeg) 12 (eC12 _ _ _) (sCI _ _ _ _ x2.toNatClampNeg _ _ (fun _ => rfl)) hi21 rfl dX5_enemy_105 ?_
          refine G_topS (fun A22 eA22 => ?_)
          have h := bv_k eA22 h
          refine G_iload X dX5_enemy_106 0 rfl ?_
          have e := so h
          subst e
          exact hQ _ _ dX5_enemy_108
        · have h := if_f c16 h
          refine G_aload X dX5_enemy_59 1 rfl ?_
          refine G_iload_n X dX5_enemy_61 rfl 3 rfl ?_
          refine G_dup2 X dX5_enemy_62 rfl rfl ?_
          have hi23 := gI_n h
          have h := gI_k h
          refine G_iald X (j := x1.toNatClampNeg) 12 (eC12 _ _ _) hi23 rfl dX5_enemy_63 ?_
          refine G_iconst X (v := 1) dX5_enemy_64 rfl ?_
          refine G_iload_n X dX5_enemy_65 rfl 4 rfl ?_
          refine G_ishl X dX5_enemy_66 ?_
          refine G_ior X dX5_enemy_67 ?_
          have hi24 := gI_n h
          have h := gI_k h
          refine G_iast X (j := x1.toNatClampNeg) 12 (eC12 _ _ _) (sCI _ _ _ _ x1.toNatClampNeg _ _ (fun _ => rfl)) hi24 rfl dX5_enemy_68 ?_
          refine G_topS (fun A25 eA25 => ?_)
          have h := bv_k eA25 h
          refine G_aload X dX5_enemy_69 1 rfl ?_
          refine G_iload_n X dX5_enemy_71 rfl 4 rfl ?_
          refine G_dup2 X dX5_enemy_72 rfl rfl ?_
          have hi26 := gI_n h
          have h := gI_k h
          refine G_iald X (j := x2.toNatClampNeg) 12 (eC12 _ _ _) hi26 rfl dX5_enemy_73 ?_
          refine G_iconst X (v := 1) dX5_enemy_74 rfl ?_
          refine G_iload_n X dX5_enemy_75 rfl 3 rfl ?_
          refine G_ishl X dX5_enemy_76 ?_
          refine G_ior X dX5_enemy_77 ?_
          have hi27 := gI_n h
          have h := gI_k h
          refine G_iast X (j := x2.toNatClampNeg) 12 (eC12 _ _ _) (sCI _ _ _ _ x2.toNatClampNeg _ _ (fun _ => rfl)) hi27 rfl dX5_enemy_78 ?_
          refine G_topS (fun A28 eA28 => ?_)
          have h := bv_k eA28 h
          refine G_goto X (tgt := 106) dX5_enemy_79 (by decide) ?_
          refine G_iload X dX5_enemy_106 0 rfl ?_
          have e := so h
          subst e
          exact hQ _ _ dX5_enemy_108
theorem m_X5_enemy {l : Launch} {F : pfF} (hD : ∀ A, va_D (fA F) (cellsC (fAd F) (fCy F) A)) {x1 : Int32} {x2 : Int32} {x3 : Int32} {A : St} {out : Int32 × St} (h : f_X5_enemy x1 x2 x3 A = some out) : Mt l F cellsC yX5_enemy cX5_enemy 6 (some .int) rm_X5_enemy [.ref (fAd F 0), .int x1, .int x2, .int x3] A (va_Qi (fun (r : Int32) (u : St) => r = out.1 ∧ u = out.2) (Wd cellsC F) (fA F)) := by
  refine Met_i (by decide) (Nat.le_of_ble_eq_true rfl) hD (fun E el ef X hQ => ?_)
  subst el
  subst ef
  exact b_X5_enemy X _ _ _ _ hQ h
theorem ok_X5_enemy : OkV yX5_enemy cX5_enemy 6 (some .int) 3 := ⟨qw226, qw227, qw1, qw228, by decide, by decide, by decide⟩
