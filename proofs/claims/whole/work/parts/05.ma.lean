theorem isb_e {x : Int32} (h : x = 0 ∨ x = 1) : x = bI (decide (x = 1)) := by rcases h with rfl | rfl <;> rfl
theorem G_eqi {wl : pfW} {E : pfE} {A : St} {pc : Nat} {lv : List (Nat × Value)} {rest : List Value} {x y : Int32} (e : x = y) (k : GG wl E A pc lv (.int y :: rest)) : GG wl E A pc lv (.int x :: rest) := e ▸ k
theorem nar_bI (b : Bool) : narrow .boolean (.int (bI b)) = .int (bI b) := by cases b <;> rfl
theorem ok_J9_abs_f6c48 : OkS yJ9_abs_f6c48 cJ9_abs_f6c48 1 (some .float) 1 := ⟨qw824, qw9, qw825, by decide, by decide, by decide⟩
theorem ok_J9_abs_294c1 : OkS yJ9_abs_294c1 cJ9_abs_294c1 2 (some .double) 1 := ⟨qw836, qw9, qw837, by decide, by decide, by decide⟩
theorem ok_J9_max_eb370 : OkS yJ9_max_eb370 cJ9_max_eb370 4 (some .double) 2 := ⟨qw993, qw9, qw994, by decide, by decide, by decide⟩
theorem ok_J9_min_eb370 : OkS yJ9_min_eb370 cJ9_min_eb370 4 (some .double) 2 := ⟨qw988, qw9, qw989, by decide, by decide, by decide⟩
noncomputable def f_X5_within (x0 : Int32) (x1 : Int32) (x2 : Int32) : Option (Bool) :=
  if x0 < x1 then
    some false
  else
    if x2 < x0 then
      some false
    else
      some true
abbrev rm_X5_within : Room := { frames := 0, cells := 0, slots := 0, locals := 0 }
set_option maxHeartbeats 4000000 in
set_option maxRecDepth 100000 in
theorem b_X5_within {wl : pfW} {E : pfE} (X : CX wl E cX5_within RX5 rm_X5_within 3) (x0 : Int32) (x1 : Int32) (x2 : Int32) {A : St} {out : Bool} (hQ : Reti wl E cX5_within (bI out) A) (h : f_X5_within x0 x1 x2 = some out) : GG wl E A 0 [(0, .int x0), (1, .int x1), (2, .int x2)] [] := by
  unfold f_X5_within at h
  refine G_iload_n X dX5_within_0 rfl 0 rfl ?_
  refine G_iload_n X dX5_within_1 rfl 1 rfl ?_
  refine G_iclt X (tgt := 14) dX5_within_2 (by decide) (fun c1 => ?_) (fun c1 => ?_)
  · have h := if_t c1 h
    refine G_iconst X (v := 0) dX5_within_14 rfl ?_
    have e := so h
    subst e
    exact hQ _ _ dX5_within_15
  · have h := if_f c1 h
    refine G_iload_n X dX5_within_5 rfl 0 rfl ?_
    refine G_iload_n X dX5_within_6 rfl 2 rfl ?_
    refine G_icgt X (tgt := 14) dX5_within_7 (by decide) (fun c2 => ?_) (fun c2 => ?_)
    · have h := if_t c2 h
      refine G_iconst X (v := 0) dX5_within_14 rfl ?_
      have e := so h
      subst e
      exact hQ _ _ dX5_within_15
    · have h := if_f c2 h
      refine G_iconst X (v := 1) dX5_within_10 rfl ?_
      refine G_goto X (tgt := 15) dX5_within_11 (by decide) ?_
      have e := so h
      subst e
      exact hQ _ _ dX5_within_15
theorem m_X5_within {wl : pfW} {l : Launch} {F : pfF} (hD : ∀ A, va_D (fA F) (wl (fAd F) (fCy F) A)) {x0 : Int32} {x1 : Int32} {x2 : Int32} {A : St} {out : Bool} (h : f_X5_within x0 x1 x2 = some out) : Mt l F wl yX5_within cX5_within 3 (some .boolean) rm_X5_within [.int x0, .int x1, .int x2] A (va_Qi (fun (r : Int32) (u : St) => r = bI out ∧ u = A) (Wd wl F) (fA F)) := by
  refine Met_iz (by decide +kernel) (Nat.le_of_ble_eq_true rfl) hD (nar_bI _) (fun E el ef X hQ => ?_)
  subst el
  subst ef
  exact b_X5_within X _ _ _ hQ h
theorem ok_X5_within : OkS yX5_within cX5_within 3 (some .boolean) 3 := ⟨qw185, qw1, qw186, by decide, by decide, by decide⟩
noncomputable def f_X5_factFits (x0 : Int32) (x1 : Int32) : Option (Bool) :=
  cl (f_X5_within x0 0 6) fun r1 =>
  if (bI r1) = 0 then
    some false
  else
    gI x0 7 <|
    gI x0 7 <|
    cl (f_X5_within x1 (tb 0 x0.toNatClampNeg) (tb 1 x0.toNatClampNeg)) fun r6 =>
    if (bI r6) = 0 then
      some false
    else
      some true
abbrev rm_X5_factFits : Room := { frames := 1, cells := 0, slots := 0, locals := 22 }
set_option maxHeartbeats 4000000 in
set_option maxRecDepth 100000 in
theorem b_X5_factFits {wl : pfW} {E : pfE} (X : CX wl E cX5_factFits RX5 rm_X5_factFits 2) (x0 : Int32) (x1 : Int32) {A : St} {out : Bool} (hQ : Reti wl E cX5_factFits (bI out) A) (h : f_X5_factFits x0 x1 = some out) : GG wl E A 0 [(0, .int x0), (1, .int x1)] [] := by
  unfold f_X5_factFits at h
  refine G_iload_n X dX5_factFits_0 rfl 0 rfl ?_
  refine G_iconst X (v := 0) dX5_factFits_1 rfl ?_
  refine G_bipush X (v := 6) dX5_factFits_2 rfl ?_
  obtain ⟨r1, hz2, h⟩ := cl_k h
  refine G_callS_i X (As := [.int x0, .int 0, .int 6]) (rest := []) ok_X5_within qw184 ⟨rfl, rfl, Nat.le_of_ble_eq_true rfl, Nat.le_of_ble_eq_true rfl⟩ (m_X5_within X.d hz2) rfl rfl (Nat.le_of_ble_eq_true rfl) dX5_factFits_4 ?_
  refine G_ifeq X (tgt := 31) dX5_factFits_7 (by decide) (fun c3 => ?_) (fun c3 => ?_)
  · have h := if_t c3 h
    refine G_iconst X (v := 0) dX5_factFits_31 rfl ?_
    have e := so h
    subst e
    exact hQ _ _ dX5_factFits_32
  · have h := if_f c3 h
    refine G_iload_n X dX5_factFits_10 rfl 1 rfl ?_
    refine G_tget X 0 (by decide) qw187 dX5_factFits_11 ?_
    refine G_iload_n X dX5_factFits_14 rfl 0 rfl ?_
    have hi4 := gI_n h
    have h := gI_k h
    refine G_tald X 0 (by decide) (j := x0.toNatClampNeg) rfl hi4 rfl dX5_factFits_15 ?_
    refine G_tget X 1 (by decide) qw189 dX5_factFits_16 ?_
    refine G_iload_n X dX5_factFits_19 rfl 0 rfl ?_
    have hi5 := gI_n h
    have h := gI_k h
    refine G_tald X 1 (by decide) (j := x0.toNatClampNeg) rfl hi5 rfl dX5_factFits_20 ?_
    obtain ⟨r6, hz7, h⟩ := cl_k h
    refine G_callS_i X (As := [.int x1, .int (tb 0 x0.toNatClampNeg), .int (tb 1 x0.toNatClampNeg)]) (rest := []) ok_X5_within qw184 ⟨rfl, rfl, Nat.le_of_ble_eq_true rfl, Nat.le_of_ble_eq_true rfl⟩ (m_X5_within X.d hz7) rfl rfl (Nat.le_of_ble_eq_true rfl) dX5_factFits_21 ?_
    refine G_ifeq X (tgt := 31) dX5_factFits_24 (by decide) (fun c8 => ?_) (fun c8 => ?_)
    · have h := if_t c8 h
      refine G_iconst X (v := 0) dX5_factFits_31 rfl ?_
      have e := so h
      subst e
      exact hQ _ _ dX5_factFits_32
    · have h := if_f c8 h
      refine G_iconst X (v := 1) dX5_factFits_27 rfl ?_
      refine G_goto X (tgt := 32) dX5_factFits_28 (by decide) ?_
      have e := so h
      subst e
      exact hQ _ _ dX5_factFits_32
theorem m_X5_factFits {wl : pfW} {l : Launch} {F : pfF} (hD : ∀ A, va_D (fA F) (wl (fAd F) (fCy F) A)) {x0 : Int32} {x1 : Int32} {A : St} {out : Bool} (h : f_X5_factFits x0 x1 = some out) : Mt l F wl yX5_factFits cX5_factFits 2 (some .boolean) rm_X5_factFits [.int x0, .int x1] A (va_Qi (fun (r : Int32) (u : St) => r = bI out ∧ u = A) (Wd wl F) (fA F)) := by
  refine Met_iz (by decide +kernel) (Nat.le_of_ble_eq_true rfl) hD (nar_bI _) (fun E el ef X hQ => ?_)
  subst el
  subst ef
  exact b_X5_factFits X _ _ hQ h
theorem ok_X5_factFits : OkS yX5_factFits cX5_factFits 2 (some .boolean) 2 := ⟨qw182, qw1, qw183, by decide, by decide, by decide⟩
noncomputable def f_X5_finding (x1 : Int32) (A : St) : Option (Int32 × St) :=
  gI x1 8 <|
  gI x1 8 <|
  bv (upI A 1 x1.toNatClampNeg ((A.1 1 x1.toNatClampNeg) + 1)) fun A3 =>
  some (((-1000001) : Int32) - x1, A3)
abbrev rm_X5_finding : Room := { frames := 0, cells := 0, slots := 0, locals := 0 }
set_option maxHeartbeats 4000000 in
set_option maxRecDepth 100000 in
theorem b_X5_finding {E : pfE} (X : CX cellsC E cX5_finding RX5 rm_X5_finding 2) (x1 : Int32) (A : St) {out : Int32 × St} (hQ : Reti cellsC E cX5_finding out.1 out.2) (h : f_X5_finding x1 A = some out) : GG cellsC E A 0 [(0, .ref (fAd (eF E) 0)), (1, .int x1)] [] := by
  unfold f_X5_finding at h
  refine G_aload_n X dX5_finding_0 rfl 0 rfl ?_
  refine G_getf X inX5 0 (eC0 _ _ _) rfl 0 (by decide) qw155 rfl dX5_finding_1 ?_
  refine G_iload_n X dX5_finding_4 rfl 1 rfl ?_
  refine G_dup2 X dX5_finding_5 rfl rfl ?_
  have hi1 := gI_n h
  have h := gI_k h
  refine G_iald X (j := x1.toNatClampNeg) 1 (eC1 _ _ _) hi1 rfl dX5_finding_6 ?_
  refine G_iconst X (v := 1) dX5_finding_7 rfl ?_
  refine G_iadd X dX5_finding_8 ?_
  have hi2 := gI_n h
  have h := gI_k h
  refine G_iast X (j := x1.toNatClampNeg) 1 (eC1 _ _ _) (sCI _ _ _ _ x1.toNatClampNeg _ _ (fun _ => rfl)) hi2 rfl dX5_finding_9 ?_
  refine G_topS (fun A3 eA3 => ?_)
  have h := bv_k eA3 h
  refine G_ldcw X (v := (-1000001)) qw195 dX5_finding_10 ?_
  refine G_iload_n X dX5_finding_13 rfl 1 rfl ?_
  refine G_isub X dX5_finding_14 ?_
  have e := so h
  subst e
  exact hQ _ _ dX5_finding_15
theorem m_X5_finding {l : Launch} {F : pfF} (hD : ∀ A, va_D (fA F) (cellsC (fAd F) (fCy F) A)) {x1 : Int32} {A : St} {out : Int32 × St} (h : f_X5_finding x1 A = some out) : Mt l F cellsC yX5_finding cX5_finding 2 (some .int) rm_X5_finding [.ref (fAd F 0), .int x1] A (va_Qi (fun (r : Int32) (u : St) => r = out.1 ∧ u = out.2) (Wd cellsC F) (fA F)) := by
  refine Met_i (by decide +kernel) (Nat.le_of_ble_eq_true rfl) hD (fun E el ef X hQ => ?_)
  subst el
  subst ef
  exact b_X5_finding X _ _ hQ h
theorem ok_X5_finding : OkV yX5_finding cX5_finding 2 (some .int) 1 := ⟨qw193, qs0, qw1, qw194, by decide, by decide, by decide⟩
noncomputable def f_X5_add (x1 : Int32) (x2 : Int32) (x3 : Int32) (x4 : Int32) (x5 : Int32) (x6 : Int32) (A : St) : Option (Int32 × St) :=
  cl (f_X5_factFits 0 x1) fun r1 =>
  if (bI r1) = 0 then
    cl2 (f_X5_finding 0 A) fun r4 A6 =>
    some (r4, A6)
  else
    cl (f_X5_factFits 1 x2) fun r7 =>
    if (bI r7) = 0 then
      cl2 (f_X5_finding 0 A) fun r10 A12 =>
      some (r10, A12)
    else
      cl (f_X5_factFits 2 x3) fun r13 =>
      if (bI r13) = 0 then
        cl2 (f_X5_finding 0 A) fun r16 A18 =>
        some (r16, A18)
      else
        cl (f_X5_factFits 3 x4) fun r19 =>
        if (bI r19) = 0 then
          cl2 (f_X5_finding 0 A) fun r22 A24 =>
          some (r22, A24)
        else
          cl (f_X5_factFits 4 x5) fun r25 =>
          if (bI r25) = 0 then
            cl2 (f_X5_finding 0 A) fun r28 A30 =>
            some (r28, A30)
          else
            cl (f_X5_factFits 5 x6) fun r31 =>
            if (bI r31) = 0 then
              cl2 (f_X5_finding 0 A) fun r56 A58 =>
              some (r56, A58)
            else
              if (A.1 3 0) < 12 then
                bv (A.1 3 0) fun v35 =>
                bv (upI A 3 0 ((A.1 3 0) + 1)) fun A36 =>
                gI v35 12 <|
                bv (upI A36 5 v35.toNatClampNeg x1) fun A38 =>
                gI v35 12 <|
                bv (upI A38 6 v35.toNatClampNeg x2) fun A40 =>
                gI v35 12 <|
                bv (upI A40 7 v35.toNatClampNeg x3) fun A42 =>
                gI v35 12 <|
                bv (upI A42 8 v35.toNatClampNeg x4) fun A44 =>
                gI v35 12 <|
                bv (upI A44 9 v35.toNatClampNeg x5) fun A46 =>
                gI v35 12 <|
                bv (upI A46 10 v35.toNatClampNeg x6) fun A48 =>
                gI v35 12 <|
                bv (upI A48 11 v35.toNatClampNeg 0) fun A50 =>
                gI v35 12 <|
                bv (upI A50 12 v35.toNatClampNeg 0) fun A52 =>
                some (v35, A52)
              else
                cl2 (f_X5_finding 1 A) fun r53 A55 =>
                some (r53, A55)
abbrev rm_X5_add : Room := { frames := 2, cells := 0, slots := 0, locals := 43 }
set_option maxHeartbeats 4000000 in
set_option maxRecDepth 100000 in
theorem b_X5_add {E : pfE} (X : CX cellsC E cX5_add RX5 rm_X5_add 8) (x1 : Int32) (x2 : Int32) (x3 : Int32) (x4 : Int32) (x5 : Int32) (x6 : Int32) (A : St) {out : Int32 × St} (hQ : Reti cellsC E cX5_add out.1 out.2) (h : f_X5_add x1 x2 x3 x4 x5 x6 A = some out) : GG cellsC E A 0 [(0, .ref (fAd (eF E) 0)), (1, .int x1), (2, .int x2), (3, .int x3), (4, .int x4), (5, .int x5), (6, .int x6)] [] := by
  unfold f_X5_add at h
  refine G_iconst X (v := 0) dX5_add_0 rfl ?_
  refine G_iload_n X dX5_add_1 rfl 1 rfl ?_
  obtain ⟨r1, hz2, h⟩ := cl_k h
  refine G_callS_i X (As := [.int 0, .int x1]) (rest := []) ok_X5_factFits qw181 ⟨rfl, rfl, Nat.le_of_ble_eq_true rfl, Nat.le_of_ble_eq_true rfl⟩ (m_X5_factFits X.d hz2) rfl rfl (Nat.le_of_ble_eq_true rfl) dX5_add_2 ?_
  refine G_ifeq X (tgt := 51) dX5_add_5 (by decide) (fun c3 => ?_) (fun c3 => ?_)
  · have h := if_t c3 h
    refine G_aload_n X dX5_add_51 rfl 0 rfl ?_
    refine G_iconst X (v := 0) dX5_add_52 rfl ?_
    obtain ⟨r4, A6, hz5, h⟩ := cl2_k h
    refine G_callV_i X (As := [.int 0]) (rest := []) ok_X5_finding qw191 0 (eC0 _ _ _) rfl rfl ⟨rfl, rfl, Nat.le_of_ble_eq_true rfl, Nat.le_of_ble_eq_true rfl⟩ (m_X5_finding X.d hz5) rfl rfl (Nat.le_of_ble_eq_true rfl) dX5_add_53 ?_
    have e := so h
    subst e
    exact hQ _ _ dX5_add_56
  · have h := if_f c3 h
    refine G_iconst X (v := 1) dX5_add_8 rfl ?_
    refine G_iload_n X dX5_add_9 rfl 2 rfl ?_
    obtain ⟨r7, hz8, h⟩ := cl_k h
    refine G_callS_i X (As := [.int 1, .int x2]) (rest := []) ok_X5_factFits qw181 ⟨rfl, rfl, Nat.le_of_ble_eq_true rfl, Nat.le_of_ble_eq_true rfl⟩ (m_X5_factFits X.d hz8) rfl rfl (Nat.le_of_ble_eq_true rfl) dX5_add_10 ?_
    refine G_ifeq X (tgt := 51) dX5_add_13 (by decide) (fun c9 => ?_) (fun c9 => ?_)
    · have h := if_t c9 h
      refine G_aload_n X dX5_add_51 rfl 0 rfl ?_
      refine G_iconst X (v := 0) dX5_add_52 rfl ?_
      obtain ⟨r10, A12, hz11, h⟩ := cl2_k h
      refine G_callV_i X (As := [.int 0]) (rest := []) ok_X5_finding qw191 0 (eC0 _ _ _) rfl rfl ⟨rfl, rfl, Nat.le_of_ble_eq_true rfl, Nat.le_of_ble_eq_true rfl⟩ (m_X5_finding X.d hz11) rfl rfl (Nat.le_of_ble_eq_true rfl) dX5_add_53 ?_
      have e := so h
      subst e
      exact hQ _ _ dX5_add_56
    · have h := if_f c9 h
      refine G_iconst X (v := 2) dX5_add_16 rfl ?_
      refine G_iload_n X dX5_add_17 rfl 3 rfl ?_
      obtain ⟨r13, hz14, h⟩ := cl_k h
      refine G_callS_i X (As := [.int 2, .int x3]) (rest := []) ok_X5_factFits qw181 ⟨rfl, rfl, Nat.le_of_ble_eq_true rfl, Nat.le_of_ble_eq_true rfl⟩ (m_X5_factFits X.d hz14) rfl rfl (Nat.le_of_ble_eq_true rfl) dX5_add_18 ?_
      refine G_ifeq X (tgt := 51) dX5_add_21 (by decide) (fun c15 => ?_) (fun c15 => ?_)
      · have h := if_t c15 h
        refine G_aload_n X dX5_add_51 rfl 0 rfl ?_
        refine G_iconst X (v := 0) dX5_add_52 rfl ?_
        obtain ⟨r16, A18, hz17, h⟩ := cl2_k h
        refine G_callV_i X (As := [.int 0]) (rest := []) ok_X5_finding qw191 0 (eC0 _ _ _) rfl rfl ⟨rfl, rfl, Nat.le_of_ble_eq_true rfl, Nat.le_of_ble_eq_true rfl⟩ (m_X5_finding X.d hz17) rfl rfl (Nat.le_of_ble_eq_true rfl) dX5_add_53 ?_
        have e := so h
        subst e
        exact hQ _ _ dX5_add_56
      · have h := if_f c15 h
        refine G_iconst X (v := 3) dX5_add_24 rfl ?_
        refine G_iload X dX5_add_25 4 rfl ?_
        obtain ⟨r19, hz20, h⟩ := cl_k h
        refine G_callS_i X (As := [.int 3, .int x4]) (rest := []) ok_X5_factFits qw181 ⟨rfl, rfl, Nat.le_of_ble_eq_true rfl, Nat.le_of_ble_eq_true rfl⟩ (m_X5_factFits X.d hz20) rfl rfl (Nat.le_of_ble_eq_true rfl) dX5_add_27 ?_
        refine G_ifeq X (tgt := 51) dX5_add_30 (by decide) (fun c21 => ?_) (fun c21 => ?_)
        · have h := if_t c21 h
          refine G_aload_n X dX5_add_51 rfl 0 rfl ?_
          refine G_iconst X (v := 0) dX5_add_52 rfl ?_
          obtain ⟨r22, A24, hz23, h⟩ := cl2_k h
          refine G_callV_i X (As := [.int 0]) (rest := []) ok_X5_finding qw191 0 (eC0 _ _ _) rfl rfl ⟨rfl, rfl, Nat.le_of_ble_eq_true rfl, Nat.le_of_ble_eq_true rfl⟩ (m_X5_finding X.d hz23) rfl rfl (Nat.le_of_ble_eq_true rfl) dX5_add_53 ?_
          have e := so h
          subst e
          exact hQ _ _ dX5_add_56
        · have h := if_f c21 h
          refine G_iconst X (v := 4) dX5_add_33 rfl ?_
          refine G_iload X dX5_add_34 5 rfl ?_
          obtain ⟨r25, hz26, h⟩ := cl_k h
          refine G_callS_i X (As := [.int 4, .int x5]) (rest := []) ok_X5_factFits qw181 ⟨rfl, rfl, Nat.le_of_ble_eq_true rfl, Nat.le_of_ble_eq_true rfl⟩ (m_X5_factFits X.d hz26) rfl rfl (Nat.le_of_ble_eq_true rfl) dX5_add_36 ?_
          refine G_ifeq X (tgt := 51) dX5_add_39 (by decide) (fun c27 => ?_) (fun c27 => ?_)
          · have h := if_t c27 h
            refine G_aload_n X dX5_add_51 rfl 0 rfl ?_
            refine G_iconst X (v := 0) dX5_add_52 rfl ?_
            obtain ⟨r28, A30, hz29, h⟩ := cl2_k h
            refine G_callV_i X (As := [.int 0]) (rest := []) ok_X5_finding qw191 0 (eC0 _ _ _) rfl rfl ⟨rfl, rfl, Nat.le_of_ble_eq_true rfl, Nat.le_of_ble_eq_true rfl⟩ (m_X5_finding X.d hz29) rfl rfl (Nat.le_of_ble_eq_true rfl) dX5_add_53 ?_
            have e := so h
            subst e
            exact hQ _ _ dX5_add_56
          · have h := if_f c27 h
            refine G_iconst X (v := 5) dX5_add_42 rfl ?_
            refine G_iload X dX5_add_43 6 rfl ?_
            obtain ⟨r31, hz32, h⟩ := cl_k h
            refine G_callS_i X (As := [.int 5, .int x6]) (rest := []) ok_X5_factFits qw181 ⟨rfl, rfl, Nat.le_of_ble_eq_true rfl, Nat.le_of_ble_eq_true rfl⟩ (m_X5_factFits X.d hz32) rfl rfl (Nat.le_of_ble_eq_true rfl) dX5_add_45 ?_
            refine G_ifne X (tgt := 57) dX5_add_48 (by decide) (fun c33 => ?_) (fun c33 => ?_)
            · have h := if_t c33 h
              refine G_aload_n X dX5_add_51 rfl 0 rfl ?_
              refine G_iconst X (v := 0) dX5_add_52 rfl ?_
              obtain ⟨r56, A58, hz57, h⟩ := cl2_k h
              refine G_callV_i X (As := [.int 0]) (rest := []) ok_X5_finding qw191 0 (eC0 _ _ _) rfl rfl ⟨rfl, rfl, Nat.le_of_ble_eq_true rfl, Nat.le_of_ble_eq_true rfl⟩ (m_X5_finding X.d hz57) rfl rfl (Nat.le_of_ble_eq_true rfl) dX5_add_53 ?_
              have e := so h
              subst e
              exact hQ _ _ dX5_add_56
            · have h := if_f c33 h
              refine G_aload_n X dX5_add_57 rfl 0 rfl ?_
              refine G_getf X inX5 0 (eC0 _ _ _) rfl 2 (by decide) qw157 rfl dX5_add_58 ?_
              refine G_getf X inX0 3 (eC3 _ _ _) rfl 0 (by decide) qw36 rfl dX5_add_61 ?_
              refine G_bipush X (v := 12) dX5_add_64 rfl ?_
              refine G_iclt X (tgt := 75) dX5_add_66 (by decide) (fun c34 => ?_) (fun c34 => ?_)
              · have h := if_t c34 h
                refine G_aload_n X dX5_add_75 rfl 0 rfl ?_
                refine G_getf X inX5 0 (eC0 _ _ _) rfl 2 (by decide) qw157 rfl dX5_add_76 ?_
                refine G_getf X inX0 3 (eC3 _ _ _) rfl 0 (by decide) qw36 rfl dX5_add_79 ?_
                refine G_topi (fun v35 ev35 => ?_)
                have h := bv_k ev35 h
                refine G_istore X (lv2 := [(7, .int v35), (0, .ref (fAd (eF E) 0)), (1, .int x1), (2, .int x2), (3, .int x3), (4, .int x4), (5, .int x5), (6, .int x6)]) dX5_add_82 (by decide) rfl ?_
                refine G_aload_n X dX5_add_84 rfl 1 rfl ?_
                refine G_getf X inX5 0 (eC0 _ _ _) rfl 2 (by decide) qw157 rfl dX5_add_85 ?_
                refine G_dup X dX5_add_88 rfl ?_
                refine G_getf X inX0 3 (eC3 _ _ _) rfl 0 (by decide) qw36 rfl dX5_add_89 ?_
                refine G_iconst X (v := 1) dX5_add_92 rfl ?_
                refine G_iadd X dX5_add_93 ?_
                refine G_putf X (ty := .int) tyX0 tyX0_ok nmX0 inX0 3 (eC3 _ _ _) rfl 0 (by decide) qw36 rfl (by decide +kernel) rfl rfl (Nat.le_of_ble_eq_true rfl) (oCI _ _ _ _ 0 ((A.1 3 0) + 1) _ rfl) dX5_add_94 ?_
                refine G_topS (fun A36 eA36 => ?_)
                have h := bv_k eA36 h
                refine G_aload_n X dX5_add_97 rfl 1 rfl ?_
                refine G_getf X inX5 0 (eC0 _ _ _) rfl 2 (by decide) qw157 rfl dX5_add_98 ?_
                refine G_getf X inX0 3 (eC3 _ _ _) rfl 1 (by decide) qw39 rfl dX5_add_101 ?_
                refine G_iconst X (v := 0) dX5_add_104 rfl ?_
                refine G_aald X (t0 := 3) (b := fAd (eF E) 5) 4 (eC4 _ _ _) rfl rfl (vi rfl) rfl dX5_add_105 ?_
                refine G_iload X dX5_add_106 0 rfl ?_
                refine G_iload_n X dX5_add_108 rfl 2 rfl ?_
                have hi37 := gI_n h
                have h := gI_k h
                refine G_iast X (j := v35.toNatClampNeg) 5 (eC5 _ _ _) (sCI _ _ _ _ v35.toNatClampNeg _ _ (fun _ => rfl)) hi37 rfl dX5_add_109 ?_
                refine G_topS (fun A38 eA38 => ?_)
                have h := bv_k eA38 h
                refine G_aload_n X dX5_add_110 rfl 1 rfl ?_
                refine G_getf X inX5 0 (eC0 _ _ _) rfl 2 (by decide) qw157 rfl dX5_add_111 ?_
                refine G_getf X inX0 3 (eC3 _ _ _) rfl 1 (by decide) qw39 rfl dX5_add_114 ?_
                refine G_iconst X (v := 1) dX5_add_117 rfl ?_
                refine G_aald X (t0 := 3) (b := fAd (eF E) 6) 4 (eC4 _ _ _) rfl rfl (vi rfl) rfl dX5_add_118 ?_
                refine G_iload X dX5_add_119 0 rfl ?_
                refine G_iload_n X dX5_add_121 rfl 3 rfl ?_
                have hi39 := gI_n h
                have h := gI_k h
                refine G_iast X (j := v35.toNatClampNeg) 6 (eC6 _ _ _) (sCI _ _ _ _ v35.toNatClampNeg _ _ (fun _ => rfl)) hi39 rfl dX5_add_122 ?_
                refine G_topS (fun A40 eA40 => ?_)
                have h := bv_k eA40 h
                refine G_aload_n X dX5_add_123 rfl 1 rfl ?_
                refine G_getf X inX5 0 (eC0 _ _ _) rfl 2 (by decide) qw157 rfl dX5_add_124 ?_
                refine G_getf X inX0 3 (eC3 _ _ _) rfl 1 (by decide) qw39 rfl dX5_add_127 ?_
                refine G_iconst X (v := 2) dX5_add_130 rfl ?_
                refine G_aald X (t0 := 3) (b := fAd (eF E) 7) 4 (eC4 _ _ _) rfl rfl (vi rfl) rfl dX5_add_131 ?_
                refine G_iload X dX5_add_132 0 rfl ?_
                refine G_iload_n X dX5_add_134 rfl 4 rfl ?_
                have hi41 := gI_n h
                have h := gI_k h
                refine G_iast X (j := v35.toNatClampNeg) 7 (eC7 _ _ _) (sCI _ _ _ _ v35.toNatClampNeg _ _ (fun _ => rfl)) hi41 rfl dX5_add_135 ?_
                refine G_topS (fun A42 eA42 => ?_)
                have h := bv_k eA42 h
                refine G_aload_n X dX5_add_136 rfl 1 rfl ?_
                refine G_getf X inX5 0 (eC0 _ _ _) rfl 2 (by decide) qw157 rfl dX5_add_137 ?_
                refine G_getf X inX0 3 (eC3 _ _ _) rfl 1 (by decide) qw39 rfl dX5_add_140 ?_
                refine G_iconst X (v := 3) dX5_add_143 rfl ?_
                refine G_aald X (t0 := 3) (b := fAd (eF E) 8) 4 (eC4 _ _ _) rfl rfl (vi rfl) rfl dX5_add_144 ?_
                refine G_iload X dX5_add_145 0 rfl ?_
                refine G_iload X dX5_add_147 5 rfl ?_
                have hi43 := gI_n h
                have h := gI_k h
                refine G_iast X (j := v35.toNatClampNeg) 8 (eC8 _ _ _) (sCI _ _ _ _ v35.toNatClampNeg _ _ (fun _ => rfl)) hi43 rfl dX5_add_149 ?_
                refine G_topS (fun A44 eA44 => ?_)
                have h := bv_k eA44 h
                refine G_aload_n X dX5_add_150 rfl 1 rfl ?_
                refine G_getf X inX5 0 (eC0 _ _ _) rfl 2 (by decide) qw157 rfl dX5_add_151 ?_
                refine G_getf X inX0 3 (eC3 _ _ _) rfl 1 (by decide) qw39 rfl dX5_add_154 ?_
                refine G_iconst X (v := 4) dX5_add_157 rfl ?_
                refine G_aald X (t0 := 3) (b := fAd (eF E) 9) 4 (eC4 _ _ _) rfl rfl (vi rfl) rfl dX5_add_158 ?_
                refine G_iload X dX5_add_159 0 rfl ?_
                refine G_iload X dX5_add_161 6 rfl ?_
                have hi45 := gI_n h
                have h := gI_k h
                refine G_iast X (j := v35.toNatClampNeg) 9 (eC9 _ _ _) (sCI _ _ _ _ v35.toNatClampNeg _ _ (fun _ => rfl)) hi45 rfl dX5_add_163 ?_
                refine G_topS (fun A46 eA46 => ?_)
                have h := bv_k eA46 h
                refine G_aload_n X dX5_add_164 rfl 1 rfl ?_
                refine G_getf X inX5 0 (eC0 _ _ _) rfl 2 (by decide) qw157 rfl dX5_add_165 ?_
                refine G_getf X inX0 3 (eC3 _ _ _) rfl 1 (by decide) qw39 rfl dX5_add_168 ?_
                refine G_iconst X (v := 5) dX5_add_171 rfl ?_
                refine G_aald X (t0 := 3) (b := fAd (eF E) 10) 4 (eC4 _ _ _) rfl rfl (vi rfl) rfl dX5_add_172 ?_
                refine G_iload X dX5_add_173 0 rfl ?_
                refine G_iload X dX5_add_175 7 rfl ?_
                have hi47 := gI_n h
                have h := gI_k h
                refine G_iast X (j := v35.toNatClampNeg) 10 (eC10 _ _ _) (sCI _ _ _ _ v35.toNatClampNeg _ _ (fun _ => rfl)) hi47 rfl dX5_add_177 ?_
                refine G_topS (fun A48 eA48 => ?_)
                have h := bv_k eA48 h
                refine G_aload_n X dX5_add_178 rfl 1 rfl ?_
                refine G_getf X inX5 0 (eC0 _ _ _) rfl 2 (by decide) qw157 rfl dX5_add_179 ?_
                refine G_getf X inX0 3 (eC3 _ _ _) rfl 1 (by decide) qw39 rfl dX5_add_182 ?_
                refine G_bipush X (v := 6) dX5_add_185 rfl ?_
                refine G_aald X (t0 := 3) (b := fAd (eF E) 11) 4 (eC4 _ _ _) rfl rfl (vi rfl) rfl dX5_add_187 ?_
                refine G_iload X dX5_add_188 0 rfl ?_
                refine G_iconst X (v := 0) dX5_add_190 rfl ?_
                have hi49 := gI_n h
                have h := gI_k h
                refine G_iast X (j := v35.toNatClampNeg) 11 (eC11 _ _ _) (sCI _ _ _ _ v35.toNatClampNeg _ _ (fun _ => rfl)) hi49 rfl dX5_add_191 ?_
                refine G_topS (fun A50 eA50 => ?_)
                have h := bv_k eA50 h
                refine G_aload_n X dX5_add_192 rfl 1 rfl ?_
                refine G_getf X inX5 0 (eC0 _ _ _) rfl 2 (by decide) qw157 rfl dX5_add_193 ?_
                refine G_getf X inX0 3 (eC3 _ _ _) rfl 1 (by decide) qw39 rfl dX5_add_196 ?_
                refine G_bipush X (v := 7) dX5_add_199 rfl ?_
                refine G_aald X (t0 := 3) (b := fAd (eF E) 12) 4 (eC4 _ _ _) rfl rfl (vi rfl) rfl dX5_add_201 ?_
                refine G_iload X dX5_add_202 0 rfl ?_
                refine G_iconst X (v := 0) dX5_add_204 rfl ?_
                have hi51 := gI_n h
                have h := gI_k h
                refine G_iast X (j := v35.toNatClampNeg) 12 (eC12 _ _ _) (sCI _ _ _ _ v35.toNatClampNeg _ _ (fun _ => rfl)) hi51 rfl dX5_add_205 ?_
                refine G_topS (fun A52 eA52 => ?_)
                have h := bv_k eA52 h
                refine G_iload X dX5_add_206 0 rfl ?_
                have e := so h
                subst e
                exact hQ _ _ dX5_add_208
              · have h := if_f c34 h
                refine G_aload_n X dX5_add_69 rfl 0 rfl ?_
                refine G_iconst X (v := 1) dX5_add_70 rfl ?_
                obtain ⟨r53, A55, hz54, h⟩ := cl2_k h
                refine G_callV_i X (As := [.int 1]) (rest := []) ok_X5_finding qw191 0 (eC0 _ _ _) rfl rfl ⟨rfl, rfl, Nat.le_of_ble_eq_true rfl, Nat.le_of_ble_eq_true rfl⟩ (m_X5_finding X.d hz54) rfl rfl (Nat.le_of_ble_eq_true rfl) dX5_add_71 ?_
                have e := so h
                subst e
                exact hQ _ _ dX5_add_74
theorem m_X5_add {l : Launch} {F : pfF} (hD : ∀ A, va_D (fA F) (cellsC (fAd F) (fCy F) A)) {x1 : Int32} {x2 : Int32} {x3 : Int32} {x4 : Int32} {x5 : Int32} {x6 : Int32} {A : St} {out : Int32 × St} (h : f_X5_add x1 x2 x3 x4 x5 x6 A = some out) : Mt l F cellsC yX5_add cX5_add 8 (some .int) rm_X5_add [.ref (fAd F 0), .int x1, .int x2, .int x3, .int x4, .int x5, .int x6] A (va_Qi (fun (r : Int32) (u : St) => r = out.1 ∧ u = out.2) (Wd cellsC F) (fA F)) := by
  refine Met_i (by decide +kernel) (Nat.le_of_ble_eq_true rfl) hD (fun E el ef X hQ => ?_)
  subst el
  subst ef
  exact b_X5_add X _ _ _ _ _ _ _ hQ h
theorem ok_X5_add : OkV yX5_add cX5_add 8 (some .int) 6 := ⟨qw178, qw179, qw1, qw180, by decide, by decide, by decide⟩
noncomputable def f_X0_has (x1 : Int32) (A : St) : Option (Bool) :=
  if x1 < 0 then
    some false
  else
    if (A.1 3 0) ≤ x1 then
      some false
    else
      some true
abbrev rm_X0_has : Room := { frames := 0, cells := 0, slots := 0, locals := 0 }
set_option maxHeartbeats 4000000 in
set_option maxRecDepth 100000 in
theorem b_X0_has {E : pfE} (X : CX cellsC E cX0_has RX0 rm_X0_has 2) (x1 : Int32) (A : St) {out : Bool} (hQ : Reti cellsC E cX0_has (bI out) A) (h : f_X0_has x1 A = some out) : GG cellsC E A 0 [(0, .ref (fAd (eF E) 3)), (1, .int x1)] [] := by
  unfold f_X0_has at h
  refine G_iload_n X dX0_has_0 rfl 1 rfl ?_
  refine G_iflt X (tgt := 16) dX0_has_1 (by decide) (fun c1 => ?_) (fun c1 => ?_)
  · have h := if_t c1 h
    refine G_iconst X (v := 0) dX0_has_16 rfl ?_
    have e := so h
    subst e
    exact hQ _ _ dX0_has_17
  · have h := if_f c1 h
    refine G_iload_n X dX0_has_4 rfl 1 rfl ?_
    refine G_aload_n X dX0_has_5 rfl 0 rfl ?_
    refine G_getf X inX0 3 (eC3 _ _ _) rfl 0 (by decide) qw35 rfl dX0_has_6 ?_
    refine G_icge X (tgt := 16) dX0_has_9 (by decide) (fun c2 => ?_) (fun c2 => ?_)
    · have h := if_t c2 h
      refine G_iconst X (v := 0) dX0_has_16 rfl ?_
      have e := so h
      subst e
      exact hQ _ _ dX0_has_17
    · have h := if_f c2 h
      refine G_iconst X (v := 1) dX0_has_12 rfl ?_
      refine G_goto X (tgt := 17) dX0_has_13 (by decide) ?_
      have e := so h
      subst e
      exact hQ _ _ dX0_has_17
theorem m_X0_has {l : Launch} {F : pfF} (hD : ∀ A, va_D (fA F) (cellsC (fAd F) (fCy F) A)) {x1 : Int32} {A : St} {out : Bool} (h : f_X0_has x1 A = some out) : Mt l F cellsC yX0_has cX0_has 2 (some .boolean) rm_X0_has [.ref (fAd F 3), .int x1] A (va_Qi (fun (r : Int32) (u : St) => r = bI out ∧ u = A) (Wd cellsC F) (fA F)) := by
  refine Met_iz (by decide +kernel) (Nat.le_of_ble_eq_true rfl) hD (nar_bI _) (fun E el ef X hQ => ?_)
  subst el
  subst ef
  exact b_X0_has X _ _ hQ h
theorem ok_X0_has : OkV yX0_has cX0_has 2 (some .boolean) 1 := ⟨qw201, qw202, qw3, qw203, by decide, by decide, by decide⟩
noncomputable def f_X5_of (x1 : Int32) (x2 : Int32) (A : St) : Option (Int32 × St) :=
  cl (f_X0_has x1 A) fun r1 =>
  if (bI r1) = 0 then
    cl2 (f_X5_finding 0 A) fun r4 A6 =>
    some (r4, A6)
  else
    cl (f_X5_within x2 0 7) fun r7 =>
    if (bI r7) = 0 then
      cl2 (f_X5_finding 0 A) fun r13 A15 =>
      some (r13, A15)
    else
      gI x2 8 <|
      gI x1 12 <|
      some (A.1 (5 + x2.toNatClampNeg) x1.toNatClampNeg, A)
abbrev rm_X5_of : Room := { frames := 1, cells := 0, slots := 0, locals := 22 }
set_option maxHeartbeats 4000000 in
set_option maxRecDepth 100000 in
theorem b_X5_of {E : pfE} (X : CX cellsC E cX5_of RX5 rm_X5_of 3) (x1 : Int32) (x2 : Int32) (A : St) {out : Int32 × St} (hQ : Reti cellsC E cX5_of out.1 out.2) (h : f_X5_of x1 x2 A = some out) : GG cellsC E A 0 [(0, .ref (fAd (eF E) 0)), (1, .int x1), (2, .int x2)] [] := by
  unfold f_X5_of at h
  refine G_aload_n X dX5_of_0 rfl 0 rfl ?_
  refine G_getf X inX5 0 (eC0 _ _ _) rfl 2 (by decide) qw157 rfl dX5_of_1 ?_
  refine G_iload_n X dX5_of_4 rfl 1 rfl ?_
  obtain ⟨r1, hz2, h⟩ := cl_k h
  refine G_callV_i X (As := [.int x1]) (rest := []) ok_X0_has qw200 3 (eC3 _ _ _) rfl rfl ⟨rfl, rfl, Nat.le_of_ble_eq_true rfl, Nat.le_of_ble_eq_true rfl⟩ (m_X0_has X.d hz2) rfl rfl (Nat.le_of_ble_eq_true rfl) dX5_of_5 ?_
  refine G_ifeq X (tgt := 21) dX5_of_8 (by decide) (fun c3 => ?_) (fun c3 => ?_)
  · have h := if_t c3 h
    refine G_aload_n X dX5_of_21 rfl 0 rfl ?_
    refine G_iconst X (v := 0) dX5_of_22 rfl ?_
    obtain ⟨r4, A6, hz5, h⟩ := cl2_k h
    refine G_callV_i X (As := [.int 0]) (rest := []) ok_X5_finding qw191 0 (eC0 _ _ _) rfl rfl ⟨rfl, rfl, Nat.le_of_ble_eq_true rfl, Nat.le_of_ble_eq_true rfl⟩ (m_X5_finding X.d hz5) rfl rfl (Nat.le_of_ble_eq_true rfl) dX5_of_23 ?_
    have e := so h
    subst e
    exact hQ _ _ dX5_of_26
  · have h := if_f c3 h
    refine G_iload_n X dX5_of_11 rfl 2 rfl ?_
    refine G_iconst X (v := 0) dX5_of_12 rfl ?_
    refine G_bipush X (v := 7) dX5_of_13 rfl ?_
    obtain ⟨r7, hz8, h⟩ := cl_k h
    refine G_callS_i X (As := [.int x2, .int 0, .int 7]) (rest := []) ok_X5_within qw184 ⟨rfl, rfl, Nat.le_of_ble_eq_true rfl, Nat.le_of_ble_eq_true rfl⟩ (m_X5_within X.d hz8) rfl rfl (Nat.le_of_ble_eq_true rfl) dX5_of_15 ?_
    refine G_ifne X (tgt := 27) dX5_of_18 (by decide) (fun c9 => ?_) (fun c9 => ?_)
    · have h := if_t c9 h
      refine G_aload_n X dX5_of_21 rfl 0 rfl ?_
      refine G_iconst X (v := 0) dX5_of_22 rfl ?_
      obtain ⟨r13, A15, hz14, h⟩ := cl2_k h
      refine G_callV_i X (As := [.int 0]) (rest := []) ok_X5_finding qw191 0 (eC0 _ _ _) rfl rfl ⟨rfl, rfl, Nat.le_of_ble_eq_true rfl, Nat.le_of_ble_eq_true rfl⟩ (m_X5_finding X.d hz14) rfl rfl (Nat.le_of_ble_eq_true rfl) dX5_of_23 ?_
      have e := so h
      subst e
      exact hQ _ _ dX5_of_26
    · have h := if_f c9 h
      refine G_aload_n X dX5_of_27 rfl 0 rfl ?_
      refine G_getf X inX5 0 (eC0 _ _ _) rfl 2 (by decide) qw157 rfl dX5_of_28 ?_
      refine G_getf X inX0 3 (eC3 _ _ _) rfl 1 (by decide) qw39 rfl dX5_of_31 ?_
      refine G_iload_n X dX5_of_34 rfl 2 rfl ?_
      have hi10 := gI_n h
      have h := gI_k h
      have hw11 := vlt hi10
      refine G_aald X (t0 := 3) (b := fAd (eF E) (5 + x2.toNatClampNeg)) 4 (eC4 _ _ _) rfl rfl hi10 (if_pos hw11) dX5_of_35 ?_
      refine G_iload_n X dX5_of_36 rfl 1 rfl ?_
      have hi12 := gI_n h
      have h := gI_k h
      refine G_iald X (j := x1.toNatClampNeg) (5 + x2.toNatClampNeg) (eCf5 _ _ _ _ hw11) hi12 rfl dX5_of_37 ?_
      have e := so h
      subst e
      exact hQ _ _ dX5_of_38
theorem m_X5_of {l : Launch} {F : pfF} (hD : ∀ A, va_D (fA F) (cellsC (fAd F) (fCy F) A)) {x1 : Int32} {x2 : Int32} {A : St} {out : Int32 × St} (h : f_X5_of x1 x2 A = some out) : Mt l F cellsC yX5_of cX5_of 3 (some .int) rm_X5_of [.ref (fAd F 0), .int x1, .int x2] A (va_Qi (fun (r : Int32) (u : St) => r = out.1 ∧ u = out.2) (Wd cellsC F) (fA F)) := by
  refine Met_i (by decide +kernel) (Nat.le_of_ble_eq_true rfl) hD (fun E el ef X hQ => ?_)
  subst el
  subst ef
  exact b_X5_of X _ _ _ hQ h
theorem ok_X5_of : OkV yX5_of cX5_of 3 (some .int) 2 := ⟨qw197, qw198, qw1, qw199, by decide, by decide, by decide⟩
noncomputable def f_X5_change (x1 : Int32) (x2 : Int32) (x3 : Int32) (A : St) : Option (Int32 × St) :=
  cl (f_X0_has x1 A) fun r1 =>
  if (bI r1) = 0 then
    cl2 (f_X5_finding 0 A) fun r4 A6 =>
    some (r4, A6)
  else
    cl (f_X5_factFits x2 x3) fun r7 =>
    if (bI r7) = 0 then
      cl2 (f_X5_finding 0 A) fun r18 A20 =>
      some (r18, A20)
    else
      gI x2 8 <|
      gI x1 12 <|
      bv (A.1 (5 + x2.toNatClampNeg) x1.toNatClampNeg) fun v13 =>
      gI x2 8 <|
      gI x1 12 <|
      bv (upI A (5 + x2.toNatClampNeg) x1.toNatClampNeg x3) fun A17 =>
      some (v13, A17)
abbrev rm_X5_change : Room := { frames := 2, cells := 0, slots := 0, locals := 43 }
set_option maxHeartbeats 4000000 in
set_option maxRecDepth 100000 in
theorem b_X5_change {E : pfE} (X : CX cellsC E cX5_change RX5 rm_X5_change 5) (x1 : Int32) (x2 : Int32) (x3 : Int32) (A : St) {out : Int32 × St} (hQ : Reti cellsC E cX5_change out.1 out.2) (h : f_X5_change x1 x2 x3 A = some out) : GG cellsC E A 0 [(0, .ref (fAd (eF E) 0)), (1, .int x1), (2, .int x2), (3, .int x3)] [] := by
  unfold f_X5_change at h
  refine G_aload_n X dX5_change_0 rfl 0 rfl ?_
  refine G_getf X inX5 0 (eC0 _ _ _) rfl 2 (by decide) qw157 rfl dX5_change_1 ?_
  refine G_iload_n X dX5_change_4 rfl 1 rfl ?_
  obtain ⟨r1, hz2, h⟩ := cl_k h
  refine G_callV_i X (As := [.int x1]) (rest := []) ok_X0_has qw200 3 (eC3 _ _ _) rfl rfl ⟨rfl, rfl, Nat.le_of_ble_eq_true rfl, Nat.le_of_ble_eq_true rfl⟩ (m_X0_has X.d hz2) rfl rfl (Nat.le_of_ble_eq_true rfl) dX5_change_5 ?_
  refine G_ifeq X (tgt := 19) dX5_change_8 (by decide) (fun c3 => ?_) (fun c3 => ?_)
  · have h := if_t c3 h
    refine G_aload_n X dX5_change_19 rfl 0 rfl ?_
    refine G_iconst X (v := 0) dX5_change_20 rfl ?_
    obtain ⟨r4, A6, hz5, h⟩ := cl2_k h
    refine G_callV_i X (As := [.int 0]) (rest := []) ok_X5_finding qw191 0 (eC0 _ _ _) rfl rfl ⟨rfl, rfl, Nat.le_of_ble_eq_true rfl, Nat.le_of_ble_eq_true rfl⟩ (m_X5_finding X.d hz5) rfl rfl (Nat.le_of_ble_eq_true rfl) dX5_change_21 ?_
    have e := so h
    subst e
    exact hQ _ _ dX5_change_24
  · have h := if_f c3 h
    refine G_iload_n X dX5_change_11 rfl 2 rfl ?_
    refine G_iload_n X dX5_change_12 rfl 3 rfl ?_
    obtain ⟨r7, hz8, h⟩ := cl_k h
    refine G_callS_i X (As := [.int x2, .int x3]) (rest := []) ok_X5_factFits qw181 ⟨rfl, rfl, Nat.le_of_ble_eq_true rfl, Nat.le_of_ble_eq_true rfl⟩ (m_X5_factFits X.d hz8) rfl rfl (Nat.le_of_ble_eq_true rfl) dX5_change_13 ?_
    refine G_ifne X (tgt := 25) dX5_change_16 (by decide) (fun c9 => ?_) (fun c9 => ?_)
    · have h := if_t c9 h
      refine G_aload_n X dX5_change_19 rfl 0 rfl ?_
      refine G_iconst X (v := 0) dX5_change_20 rfl ?_
      obtain ⟨r18, A20, hz19, h⟩ := cl2_k h
      refine G_callV_i X (As := [.int 0]) (rest := []) ok_X5_finding qw191 0 (eC0 _ _ _) rfl rfl ⟨rfl, rfl, Nat.le_of_ble_eq_true rfl, Nat.le_of_ble_eq_true rfl⟩ (m_X5_finding X.d hz19) rfl rfl (Nat.le_of_ble_eq_true rfl) dX5_change_21 ?_
      have e := so h
      subst e
      exact hQ _ _ dX5_change_24
    · have h := if_f c9 h
      refine G_aload_n X dX5_change_25 rfl 0 rfl ?_
      refine G_getf X inX5 0 (eC0 _ _ _) rfl 2 (by decide) qw157 rfl dX5_change_26 ?_
      refine G_getf X inX0 3 (eC3 _ _ _) rfl 1 (by decide) qw39 rfl dX5_change_29 ?_
      refine G_iload_n X dX5_change_32 rfl 2 rfl ?_
      have hi10 := gI_n h
      have h := gI_k h
      have hw11 := vlt hi10
      refine G_aald X (t0 := 3) (b := fAd (eF E) (5 + x2.toNatClampNeg)) 4 (eC4 _ _ _) rfl rfl hi10 (if_pos hw11) dX5_change_33 ?_
      refine G_iload_n X dX5_change_34 rfl 1 rfl ?_
      have hi12 := gI_n h
      have h := gI_k h
      refine G_iald X (j := x1.toNatClampNeg) (5 + x2.toNatClampNeg) (eCf5 _ _ _ _ hw11) hi12 rfl dX5_change_35 ?_
      refine G_topi (fun v13 ev13 => ?_)
      have h := bv_k ev13 h
      refine G_istore X (lv2 := [(4, .int v13), (0, .ref (fAd (eF E) 0)), (1, .int x1), (2, .int x2), (3, .int x3)]) dX5_change_36 (by decide) rfl ?_
      refine G_aload_n X dX5_change_38 rfl 1 rfl ?_
      refine G_getf X inX5 0 (eC0 _ _ _) rfl 2 (by decide) qw157 rfl dX5_change_39 ?_
      refine G_getf X inX0 3 (eC3 _ _ _) rfl 1 (by decide) qw39 rfl dX5_change_42 ?_
      refine G_iload_n X dX5_change_45 rfl 3 rfl ?_
      have hi14 := gI_n h
      have h := gI_k h
      have hw15 := vlt hi14
      refine G_aald X (t0 := 3) (b := fAd (eF E) (5 + x2.toNatClampNeg)) 4 (eC4 _ _ _) rfl rfl hi14 (if_pos hw15) dX5_change_46 ?_
      refine G_iload_n X dX5_change_47 rfl 2 rfl ?_
      refine G_iload_n X dX5_change_48 rfl 4 rfl ?_
      have hi16 := gI_n h
      have h := gI_k h
      refine G_iast X (j := x1.toNatClampNeg) (5 + x2.toNatClampNeg) (eCf5 _ _ _ _ hw15) (sCI _ _ _ _ x1.toNatClampNeg _ _ (fun _ => fC5 _ _ _ _ hw15)) hi16 rfl dX5_change_49 ?_
      refine G_topS (fun A17 eA17 => ?_)
      have h := bv_k eA17 h
      refine G_iload X dX5_change_50 0 rfl ?_
      have e := so h
      subst e
      exact hQ _ _ dX5_change_52
theorem m_X5_change {l : Launch} {F : pfF} (hD : ∀ A, va_D (fA F) (cellsC (fAd F) (fCy F) A)) {x1 : Int32} {x2 : Int32} {x3 : Int32} {A : St} {out : Int32 × St} (h : f_X5_change x1 x2 x3 A = some out) : Mt l F cellsC yX5_change cX5_change 5 (some .int) rm_X5_change [.ref (fAd F 0), .int x1, .int x2, .int x3] A (va_Qi (fun (r : Int32) (u : St) => r = out.1 ∧ u = out.2) (Wd cellsC F) (fA F)) := by
  refine Met_i (by decide +kernel) (Nat.le_of_ble_eq_true rfl) hD (fun E el ef X hQ => ?_)
  subst el
  subst ef
  exact b_X5_change X _ _ _ _ hQ h
theorem ok_X5_change : OkV yX5_change cX5_change 5 (some .int) 3 := ⟨qw205, qw206, qw1, qw207, by decide, by decide, by decide⟩
noncomputable def f_X0_dropLast_L21 (l1 : Int32) (l2 : Int32) (A : St) : Option ((Int32 × St) ⊕ (St)) :=
  if (A.1 3 0) ≤ l2 then
    some (.inr A)
  else
    gI l2 12 <|
    gI l2 12 <|
    bv (upI A 12 l2.toNatClampNeg ((A.1 12 l2.toNatClampNeg) &&& l1)) fun A6 =>
    bv (l2 + 1) fun v7 =>
    some (.inl (v7, A6))
noncomputable def f_X0_dropLast_X48 (A : St) : Option (St) :=
  some A
noncomputable def f_X0_dropLast (A : St) : Option (St) :=
  bv (upI A 3 0 ((A.1 3 0) - 1)) fun A1 =>
  bv (((1 : Int32) <<< ((A1.1 3 0) &&& 31)) - 1) fun v2 =>
  cl (loop (fun s => f_X0_dropLast_L21 v2 s.1 s.2) (0, A1)) (fun s => f_X0_dropLast_X48 s)
abbrev rm_X0_dropLast : Room := { frames := 0, cells := 0, slots := 0, locals := 0 }
set_option maxHeartbeats 4000000 in
set_option maxRecDepth 100000 in
theorem g_X0_dropLast_L21 {E : pfE} (X : CX cellsC E cX0_dropLast RX0 rm_X0_dropLast 3) (l1 : Int32) : ∀ (n : Nat) (l2 : Int32) (A : St) (ρ : St), lp (fun s => f_X0_dropLast_L21 l1 s.1 s.2) n (l2, A) = some ρ → (∀ (B : St), ρ = B → GG cellsC E B 48 [] []) → GG cellsC E A 21 [(0, .ref (fAd (eF E) 3)), (1, .int l1), (2, .int l2)] [] := by
  intro n
  induction n with
  | zero =>
    intro l2 A ρ h
    cases h
  | succ n ih =>
    intro l2 A ρ h0 K
    obtain ⟨x, hb, hx⟩ := lp_step h0
    have h : f_X0_dropLast_L21 l1 l2 A = some x := hb
    unfold f_X0_dropLast_L21 at h
    clear hb h0
    refine G_iload_n X dX0_dropLast_21 rfl 2 rfl ?_
    refine G_aload_n X dX0_dropLast_22 rfl 0 rfl ?_
    refine G_getf X inX0 3 (eC3 _ _ _) rfl 0 (by decide) qw35 rfl dX0_dropLast_23 ?_
    refine G_icge X (tgt := 48) dX0_dropLast_26 (by decide) (fun c3 => ?_) (fun c3 => ?_)
    · have h := if_t c3 h
      exact G_sub [] rfl (K _ (lpr (so h) hx).symm)
    · have h := if_f c3 h
      refine G_aload_n X dX0_dropLast_29 rfl 0 rfl ?_
      refine G_getf X inX0 3 (eC3 _ _ _) rfl 1 (by decide) qw38 rfl dX0_dropLast_30 ?_
      refine G_bipush X (v := 7) dX0_dropLast_33 rfl ?_
      refine G_aald X (t0 := 3) (b := fAd (eF E) 12) 4 (eC4 _ _ _) rfl rfl (vi rfl) rfl dX0_dropLast_35 ?_
      refine G_iload_n X dX0_dropLast_36 rfl 2 rfl ?_
      refine G_dup2 X dX0_dropLast_37 rfl rfl ?_
      have hi4 := gI_n h
      have h := gI_k h
      refine G_iald X (j := l2.toNatClampNeg) 12 (eC12 _ _ _) hi4 rfl dX0_dropLast_38 ?_
      refine G_iload_n X dX0_dropLast_39 rfl 1 rfl ?_
      refine G_iand X dX0_dropLast_40 ?_
      have hi5 := gI_n h
      have h := gI_k h
      refine G_iast X (j := l2.toNatClampNeg) 12 (eC12 _ _ _) (sCI _ _ _ _ l2.toNatClampNeg _ _ (fun _ => rfl)) hi5 rfl dX0_dropLast_41 ?_
      refine G_topS (fun A6 eA6 => ?_)
      have h := bv_k eA6 h
      obtain ⟨v7, ev7⟩ : ∃ y : Int32, y = l2 + 1 := ⟨_, rfl⟩
      have h := bv_k ev7 h
      refine G_iinc X (q := 2) (v := v7) (lv2 := [(2, .int v7), (0, .ref (fAd (eF E) 3)), (1, .int l1)]) dX0_dropLast_42 rfl (by rw [ev7]; rfl) (by decide) rfl ?_
      refine G_goto X (tgt := 21) dX0_dropLast_45 (by decide) ?_
      exact G_sub [1, 2, 0] rfl (ih _ _ _ (lpl (so h) hx) K)
set_option maxHeartbeats 4000000 in
set_option maxRecDepth 100000 in
theorem b_X0_dropLast {E : pfE} (X : CX cellsC E cX0_dropLast RX0 rm_X0_dropLast 3) (A : St) {out : St} (hQ : Retv cellsC E cX0_dropLast out) (h : f_X0_dropLast A = some out) : GG cellsC E A 0 [(0, .ref (fAd (eF E) 3))] [] := by
  unfold f_X0_dropLast at h
  refine G_aload_n X dX0_dropLast_0 rfl 0 rfl ?_
  refine G_dup X dX0_dropLast_1 rfl ?_
  refine G_getf X inX0 3 (eC3 _ _ _) rfl 0 (by decide) qw35 rfl dX0_dropLast_2 ?_
  refine G_iconst X (v := 1) dX0_dropLast_5 rfl ?_
  refine G_isub X dX0_dropLast_6 ?_
  refine G_putf X (ty := .int) tyX0 tyX0_ok nmX0 inX0 3 (eC3 _ _ _) rfl 0 (by decide) qw35 rfl (by decide +kernel) rfl rfl (Nat.le_of_ble_eq_true rfl) (oCI _ _ _ _ 0 ((A.1 3 0) - 1) _ rfl) dX0_dropLast_7 ?_
  refine G_topS (fun A1 eA1 => ?_)
  have h := bv_k eA1 h
  refine G_iconst X (v := 1) dX0_dropLast_10 rfl ?_
  refine G_aload_n X dX0_dropLast_11 rfl 0 rfl ?_
  refine G_getf X inX0 3 (eC3 _ _ _) rfl 0 (by decide) qw35 rfl dX0_dropLast_12 ?_
  refine G_ishl X dX0_dropLast_15 ?_
  refine G_iconst X (v := 1) dX0_dropLast_16 rfl ?_
  refine G_isub X dX0_dropLast_17 ?_
  refine G_topi (fun v2 ev2 => ?_)
  have h := bv_k ev2 h
  refine G_istore_n X (lv2 := [(1, .int v2), (0, .ref (fAd (eF E) 3))]) dX0_dropLast_18 rfl (by decide) rfl ?_
  refine G_iconst X (v := 0) dX0_dropLast_19 rfl ?_
  refine G_istore_n X (lv2 := [(2, .int 0), (1, .int v2), (0, .ref (fAd (eF E) 3))]) dX0_dropLast_20 rfl (by decide) rfl ?_
  obtain ⟨ρ, hl, h⟩ := cl_k h
  obtain ⟨n, hl⟩ := loop_some hl
  refine G_sub [2, 1, 0] rfl (g_X0_dropLast_L21 X v2 n _ _ ρ hl ?_)
  intro A8 e
  rw [e] at h
  have h : f_X0_dropLast_X48 A8 = some _ := h
  unfold f_X0_dropLast_X48 at h
  have e := so h
  subst e
  exact hQ _ _ dX0_dropLast_48
theorem m_X0_dropLast {l : Launch} {F : pfF} (hD : ∀ A, va_D (fA F) (cellsC (fAd F) (fCy F) A)) {A : St} {out : St} (h : f_X0_dropLast A = some out) : Mt l F cellsC yX0_dropLast cX0_dropLast 3 none rm_X0_dropLast [.ref (fAd F 3)] A (va_Qv (fun (u : St) => u = out) (Wd cellsC F) (fA F)) := by
  refine Met_v (by decide +kernel) (Nat.le_of_ble_eq_true rfl) hD (fun E el ef X hQ => ?_)
  subst el
  subst ef
  exact b_X0_dropLast X _ hQ h
theorem ok_X0_dropLast : OkV yX0_dropLast cX0_dropLast 3 none 0 := ⟨qw213, qw214, qw3, qw215, by decide, by decide, by decide⟩
noncomputable def f_X5_drop (A : St) : Option (Int32 × St) :=
  if (A.1 3 0) = 0 then
    cl2 (f_X5_finding 3 A) fun r5 A7 =>
    some (r5, A7)
  else
    cl (f_X0_dropLast A) fun A4 =>
    some (A4.1 3 0, A4)
abbrev rm_X5_drop : Room := { frames := 1, cells := 0, slots := 0, locals := 22 }
set_option maxHeartbeats 4000000 in
set_option maxRecDepth 100000 in
theorem b_X5_drop {E : pfE} (X : CX cellsC E cX5_drop RX5 rm_X5_drop 1) (A : St) {out : Int32 × St} (hQ : Reti cellsC E cX5_drop out.1 out.2) (h : f_X5_drop A = some out) : GG cellsC E A 0 [(0, .ref (fAd (eF E) 0))] [] := by
  unfold f_X5_drop at h
  refine G_aload_n X dX5_drop_0 rfl 0 rfl ?_
  refine G_getf X inX5 0 (eC0 _ _ _) rfl 2 (by decide) qw157 rfl dX5_drop_1 ?_
  refine G_getf X inX0 3 (eC3 _ _ _) rfl 0 (by decide) qw36 rfl dX5_drop_4 ?_
  refine G_ifne X (tgt := 16) dX5_drop_7 (by decide) (fun c1 => ?_) (fun c1 => ?_)
  · have h := if_t c1 h
    refine G_aload_n X dX5_drop_10 rfl 0 rfl ?_
    refine G_iconst X (v := 3) dX5_drop_11 rfl ?_
    obtain ⟨r5, A7, hz6, h⟩ := cl2_k h
    refine G_callV_i X (As := [.int 3]) (rest := []) ok_X5_finding qw191 0 (eC0 _ _ _) rfl rfl ⟨rfl, rfl, Nat.le_of_ble_eq_true rfl, Nat.le_of_ble_eq_true rfl⟩ (m_X5_finding X.d hz6) rfl rfl (Nat.le_of_ble_eq_true rfl) dX5_drop_12 ?_
    have e := so h
    subst e
    exact hQ _ _ dX5_drop_15
  · have h := if_f c1 h
    refine G_aload_n X dX5_drop_16 rfl 0 rfl ?_
    refine G_getf X inX5 0 (eC0 _ _ _) rfl 2 (by decide) qw157 rfl dX5_drop_17 ?_
    obtain ⟨A4, hz3, h⟩ := cl_k h
    refine G_callV_v X (As := []) (rest := []) ok_X0_dropLast qw212 3 (eC3 _ _ _) rfl rfl ⟨rfl, rfl, Nat.le_of_ble_eq_true rfl, Nat.le_of_ble_eq_true rfl⟩ (m_X0_dropLast X.d hz3) rfl rfl (Nat.le_of_ble_eq_true rfl) dX5_drop_20 ?_
    refine G_aload_n X dX5_drop_23 rfl 0 rfl ?_
    refine G_getf X inX5 0 (eC0 _ _ _) rfl 2 (by decide) qw157 rfl dX5_drop_24 ?_
    refine G_getf X inX0 3 (eC3 _ _ _) rfl 0 (by decide) qw36 rfl dX5_drop_27 ?_
    have e := so h
    subst e
    exact hQ _ _ dX5_drop_30
theorem m_X5_drop {l : Launch} {F : pfF} (hD : ∀ A, va_D (fA F) (cellsC (fAd F) (fCy F) A)) {A : St} {out : Int32 × St} (h : f_X5_drop A = some out) : Mt l F cellsC yX5_drop cX5_drop 1 (some .int) rm_X5_drop [.ref (fAd F 0)] A (va_Qi (fun (r : Int32) (u : St) => r = out.1 ∧ u = out.2) (Wd cellsC F) (fA F)) := by
  refine Met_i (by decide +kernel) (Nat.le_of_ble_eq_true rfl) hD (fun E el ef X hQ => ?_)
  subst el
  subst ef
  exact b_X5_drop X _ hQ h
theorem ok_X5_drop : OkV yX5_drop cX5_drop 1 (some .int) 0 := ⟨qw209, qw210, qw1, qw211, by decide, by decide, by decide⟩
noncomputable def f_X5_isOfKind_L4 (l1 : Int32) (l2 : Int32) (l3 : Int32) : Option ((Int32 × Int32) ⊕ ((Unit) ⊕ (Bool))) :=
  if 6 ≤ l3 then
    some (.inr (.inl ()))
  else
    if l2 = l1 then
      some (.inr (.inr true))
    else
      if l2 < 0 then
        some (.inr (.inr false))
      else
        if l2 < 6 then
          gI l2 6 <|
          bv (tb 2 l2.toNatClampNeg) fun v6 =>
          bv (l3 + 1) fun v7 =>
          some (.inl (v6, v7))
        else
          some (.inr (.inr false))
noncomputable def f_X5_isOfKind_X45 : Option (Bool) :=
  some false
noncomputable def f_X5_isOfKind (x0 : Int32) (x1 : Int32) : Option (Bool) :=
  cl (loop (fun s => f_X5_isOfKind_L4 x1 s.1 s.2) (x0, 0)) (Sum.elim (fun _ => f_X5_isOfKind_X45) (fun t => some t))
abbrev rm_X5_isOfKind : Room := { frames := 0, cells := 0, slots := 0, locals := 0 }
set_option maxHeartbeats 4000000 in
set_option maxRecDepth 100000 in
theorem g_X5_isOfKind_L4 {wl : pfW} {E : pfE} (X : CX wl E cX5_isOfKind RX5 rm_X5_isOfKind 4) {A : St} (l1 : Int32) {out : Bool} (hQ : Reti wl E cX5_isOfKind (bI out) A) : ∀ (n : Nat) (l2 : Int32) (l3 : Int32) (ρ : (Unit) ⊕ (Bool)), lp (fun s => f_X5_isOfKind_L4 l1 s.1 s.2) n (l2, l3) = some ρ → (ρ = .inl () → GG wl E A 45 [] []) → (∀ t, ρ = .inr t → t = out) → GG wl E A 4 [(1, .int l1), (2, .int l2), (3, .int l3)] [] := by
  intro n
  induction n with
  | zero =>
    intro l2 l3 ρ h
    cases h
  | succ n ih =>
    intro l2 l3 ρ h0 K KR
    obtain ⟨x, hb, hx⟩ := lp_step h0
    have h : f_X5_isOfKind_L4 l1 l2 l3 = some x := hb
    unfold f_X5_isOfKind_L4 at h
    clear hb h0
    refine G_iload_n X dX5_isOfKind_4 rfl 2 rfl ?_
    refine G_tget X 2 (by decide) qw223 dX5_isOfKind_5 ?_
    refine G_tlen X 2 (by decide) (v := 6) rfl dX5_isOfKind_8 ?_
    refine G_icge X (tgt := 45) dX5_isOfKind_9 (by decide) (fun c1 => ?_) (fun c1 => ?_)
    · have h := if_t c1 h
      exact G_sub [] rfl (K (lpr (so h) hx).symm)
    · have h := if_f c1 h
      refine G_iload_n X dX5_isOfKind_12 rfl 1 rfl ?_
      refine G_iload_n X dX5_isOfKind_13 rfl 0 rfl ?_
      refine G_icne X (tgt := 19) dX5_isOfKind_14 (by decide) (fun c2 => ?_) (fun c2 => ?_)
      · have h := if_t c2 h
        refine G_iconst X (v := 1) dX5_isOfKind_17 rfl ?_
        have e := KR _ (lpr (so h) hx).symm
        subst e
        exact hQ _ _ dX5_isOfKind_18
      · have h := if_f c2 h
        refine G_iload_n X dX5_isOfKind_19 rfl 1 rfl ?_
        refine G_iflt X (tgt := 31) dX5_isOfKind_20 (by decide) (fun c3 => ?_) (fun c3 => ?_)
        · have h := if_t c3 h
          refine G_iconst X (v := 0) dX5_isOfKind_31 rfl ?_
          have e := KR _ (lpr (so h) hx).symm
          subst e
          exact hQ _ _ dX5_isOfKind_32
        · have h := if_f c3 h
          refine G_iload_n X dX5_isOfKind_23 rfl 1 rfl ?_
          refine G_tget X 2 (by decide) qw223 dX5_isOfKind_24 ?_
          refine G_tlen X 2 (by decide) (v := 6) rfl dX5_isOfKind_27 ?_
          refine G_iclt X (tgt := 33) dX5_isOfKind_28 (by decide) (fun c4 => ?_) (fun c4 => ?_)
          · have h := if_t c4 h
            refine G_tget X 2 (by decide) qw223 dX5_isOfKind_33 ?_
            refine G_iload_n X dX5_isOfKind_36 rfl 1 rfl ?_
            have hi5 := gI_n h
            have h := gI_k h
            refine G_tald X 2 (by decide) (j := l2.toNatClampNeg) rfl hi5 rfl dX5_isOfKind_37 ?_
            refine G_topi (fun v6 ev6 => ?_)
            have h := bv_k ev6 h
            refine G_istore_n X (lv2 := [(2, .int v6), (1, .int l1), (3, .int l3)]) dX5_isOfKind_38 rfl (by decide) rfl ?_
            obtain ⟨v7, ev7⟩ : ∃ y : Int32, y = l3 + 1 := ⟨_, rfl⟩
            have h := bv_k ev7 h
            refine G_iinc X (q := 2) (v := v7) (lv2 := [(3, .int v7), (2, .int v6), (1, .int l1)]) dX5_isOfKind_39 rfl (by rw [ev7]; rfl) (by decide) rfl ?_
            refine G_goto X (tgt := 4) dX5_isOfKind_42 (by decide) ?_
            exact G_sub [2, 1, 0] rfl (ih _ _ _ (lpl (so h) hx) K KR)
          · have h := if_f c4 h
            refine G_iconst X (v := 0) dX5_isOfKind_31 rfl ?_
            have e := KR _ (lpr (so h) hx).symm
            subst e
            exact hQ _ _ dX5_isOfKind_32
set_option maxHeartbeats 4000000 in
set_option maxRecDepth 100000 in
theorem b_X5_isOfKind {wl : pfW} {E : pfE} (X : CX wl E cX5_isOfKind RX5 rm_X5_isOfKind 4) (x0 : Int32) (x1 : Int32) {A : St} {out : Bool} (hQ : Reti wl E cX5_isOfKind (bI out) A) (h : f_X5_isOfKind x0 x1 = some out) : GG wl E A 0 [(0, .int x0), (1, .int x1)] [] := by
  unfold f_X5_isOfKind at h
  refine G_iload_n X dX5_isOfKind_0 rfl 0 rfl ?_
  refine G_istore_n X (lv2 := [(2, .int x0), (0, .int x0), (1, .int x1)]) dX5_isOfKind_1 rfl (by decide) rfl ?_
  refine G_iconst X (v := 0) dX5_isOfKind_2 rfl ?_
  refine G_istore_n X (lv2 := [(3, .int 0), (2, .int x0), (0, .int x0), (1, .int x1)]) dX5_isOfKind_3 rfl (by decide) rfl ?_
  obtain ⟨ρ, hl, h⟩ := cl_k h
  obtain ⟨n, hl⟩ := loop_some hl
  refine G_sub [3, 1, 0] rfl (g_X5_isOfKind_L4 X x1 hQ n _ _ ρ hl ?_ (fun t e => by subst e; exact so h))
  intro e
  subst e
  have h : f_X5_isOfKind_X45 = some _ := h
  unfold f_X5_isOfKind_X45 at h
  refine G_iconst X (v := 0) dX5_isOfKind_45 rfl ?_
  have e := so h
  subst e
  exact hQ _ _ dX5_isOfKind_46
theorem m_X5_isOfKind {wl : pfW} {l : Launch} {F : pfF} (hD : ∀ A, va_D (fA F) (wl (fAd F) (fCy F) A)) {x0 : Int32} {x1 : Int32} {A : St} {out : Bool} (h : f_X5_isOfKind x0 x1 = some out) : Mt l F wl yX5_isOfKind cX5_isOfKind 4 (some .boolean) rm_X5_isOfKind [.int x0, .int x1] A (va_Qi (fun (r : Int32) (u : St) => r = bI out ∧ u = A) (Wd wl F) (fA F)) := by
  refine Met_iz (by decide +kernel) (Nat.le_of_ble_eq_true rfl) hD (nar_bI _) (fun E el ef X hQ => ?_)
  subst el
  subst ef
  exact b_X5_isOfKind X _ _ hQ h
theorem ok_X5_isOfKind : OkS yX5_isOfKind cX5_isOfKind 4 (some .boolean) 2 := ⟨qw221, qw1, qw222, by decide, by decide, by decide⟩
noncomputable def f_X5_as (x1 : Int32) (x2 : Int32) (A : St) : Option (Int32 × St) :=
  cl (f_X0_has x1 A) fun r1 =>
  if (bI r1) = 0 then
    cl2 (f_X5_finding 0 A) fun r4 A6 =>
    some (r4, A6)
  else
    cl (f_X5_factFits 0 x2) fun r7 =>
    if (bI r7) = 0 then
      cl2 (f_X5_finding 0 A) fun r18 A20 =>
      some (r18, A20)
    else
      gI x1 12 <|
      cl (f_X5_isOfKind (A.1 5 x1.toNatClampNeg) x2) fun r11 =>
      if (bI r11) = 0 then
        cl2 (f_X5_finding 2 A) fun r15 A17 =>
        some (r15, A17)
      else
        gI x1 12 <|
        some (A.1 7 x1.toNatClampNeg, A)
abbrev rm_X5_as : Room := { frames := 2, cells := 0, slots := 0, locals := 43 }
set_option maxHeartbeats 4000000 in
set_option maxRecDepth 100000 in
theorem b_X5_as {E : pfE} (X : CX cellsC E cX5_as RX5 rm_X5_as 3) (x1 : Int32) (x2 : Int32) (A : St) {out : Int32 × St} (hQ : Reti cellsC E cX5_as out.1 out.2) (h : f_X5_as x1 x2 A = some out) : GG cellsC E A 0 [(0, .ref (fAd (eF E) 0)), (1, .int x1), (2, .int x2)] [] := by
  unfold f_X5_as at h
  refine G_aload_n X dX5_as_0 rfl 0 rfl ?_
  refine G_getf X inX5 0 (eC0 _ _ _) rfl 2 (by decide) qw157 rfl dX5_as_1 ?_
  refine G_iload_n X dX5_as_4 rfl 1 rfl ?_
  obtain ⟨r1, hz2, h⟩ := cl_k h
  refine G_callV_i X (As := [.int x1]) (rest := []) ok_X0_has qw200 3 (eC3 _ _ _) rfl rfl ⟨rfl, rfl, Nat.le_of_ble_eq_true rfl, Nat.le_of_ble_eq_true rfl⟩ (m_X0_has X.d hz2) rfl rfl (Nat.le_of_ble_eq_true rfl) dX5_as_5 ?_
  refine G_ifeq X (tgt := 19) dX5_as_8 (by decide) (fun c3 => ?_) (fun c3 => ?_)
  · have h := if_t c3 h
    refine G_aload_n X dX5_as_19 rfl 0 rfl ?_
    refine G_iconst X (v := 0) dX5_as_20 rfl ?_
    obtain ⟨r4, A6, hz5, h⟩ := cl2_k h
    refine G_callV_i X (As := [.int 0]) (rest := []) ok_X5_finding qw191 0 (eC0 _ _ _) rfl rfl ⟨rfl, rfl, Nat.le_of_ble_eq_true rfl, Nat.le_of_ble_eq_true rfl⟩ (m_X5_finding X.d hz5) rfl rfl (Nat.le_of_ble_eq_true rfl) dX5_as_21 ?_
    have e := so h
    subst e
    exact hQ _ _ dX5_as_24
  · have h := if_f c3 h
    refine G_iconst X (v := 0) dX5_as_11 rfl ?_
    refine G_iload_n X dX5_as_12 rfl 2 rfl ?_
    obtain ⟨r7, hz8, h⟩ := cl_k h
    refine G_callS_i X (As := [.int 0, .int x2]) (rest := []) ok_X5_factFits qw181 ⟨rfl, rfl, Nat.le_of_ble_eq_true rfl, Nat.le_of_ble_eq_true rfl⟩ (m_X5_factFits X.d hz8) rfl rfl (Nat.le_of_ble_eq_true rfl) dX5_as_13 ?_
    refine G_ifne X (tgt := 25) dX5_as_16 (by decide) (fun c9 => ?_) (fun c9 => ?_)
    · have h := if_t c9 h
      refine G_aload_n X dX5_as_19 rfl 0 rfl ?_
      refine G_iconst X (v := 0) dX5_as_20 rfl ?_
      obtain ⟨r18, A20, hz19, h⟩ := cl2_k h
      refine G_callV_i X (As := [.int 0]) (rest := []) ok_X5_finding qw191 0 (eC0 _ _ _) rfl rfl ⟨rfl, rfl, Nat.le_of_ble_eq_true rfl, Nat.le_of_ble_eq_true rfl⟩ (m_X5_finding X.d hz19) rfl rfl (Nat.le_of_ble_eq_true rfl) dX5_as_21 ?_
      have e := so h
      subst e
      exact hQ _ _ dX5_as_24
    · have h := if_f c9 h
      refine G_aload_n X dX5_as_25 rfl 0 rfl ?_
      refine G_getf X inX5 0 (eC0 _ _ _) rfl 2 (by decide) qw157 rfl dX5_as_26 ?_
      refine G_getf X inX0 3 (eC3 _ _ _) rfl 1 (by decide) qw39 rfl dX5_as_29 ?_
      refine G_iconst X (v := 0) dX5_as_32 rfl ?_
      refine G_aald X (t0 := 3) (b := fAd (eF E) 5) 4 (eC4 _ _ _) rfl rfl (vi rfl) rfl dX5_as_33 ?_
      refine G_iload_n X dX5_as_34 rfl 1 rfl ?_
      have hi10 := gI_n h
      have h := gI_k h
      refine G_iald X (j := x1.toNatClampNeg) 5 (eC5 _ _ _) hi10 rfl dX5_as_35 ?_
      refine G_iload_n X dX5_as_36 rfl 2 rfl ?_
      obtain ⟨r11, hz12, h⟩ := cl_k h
      refine G_callS_i X (As := [.int (A.1 5 x1.toNatClampNeg), .int x2]) (rest := []) ok_X5_isOfKind qw220 ⟨rfl, rfl, Nat.le_of_ble_eq_true rfl, Nat.le_of_ble_eq_true rfl⟩ (m_X5_isOfKind X.d hz12) rfl rfl (Nat.le_of_ble_eq_true rfl) dX5_as_37 ?_
      refine G_ifne X (tgt := 49) dX5_as_40 (by decide) (fun c13 => ?_) (fun c13 => ?_)
      · have h := if_t c13 h
        refine G_aload_n X dX5_as_43 rfl 0 rfl ?_
        refine G_iconst X (v := 2) dX5_as_44 rfl ?_
        obtain ⟨r15, A17, hz16, h⟩ := cl2_k h
        refine G_callV_i X (As := [.int 2]) (rest := []) ok_X5_finding qw191 0 (eC0 _ _ _) rfl rfl ⟨rfl, rfl, Nat.le_of_ble_eq_true rfl, Nat.le_of_ble_eq_true rfl⟩ (m_X5_finding X.d hz16) rfl rfl (Nat.le_of_ble_eq_true rfl) dX5_as_45 ?_
        have e := so h
        subst e
        exact hQ _ _ dX5_as_48
      · have h := if_f c13 h
        refine G_aload_n X dX5_as_49 rfl 0 rfl ?_
        refine G_getf X inX5 0 (eC0 _ _ _) rfl 2 (by decide) qw157 rfl dX5_as_50 ?_
        refine G_getf X inX0 3 (eC3 _ _ _) rfl 1 (by decide) qw39 rfl dX5_as_53 ?_
        refine G_iconst X (v := 2) dX5_as_56 rfl ?_
        refine G_aald X (t0 := 3) (b := fAd (eF E) 7) 4 (eC4 _ _ _) rfl rfl (vi rfl) rfl dX5_as_57 ?_
        refine G_iload_n X dX5_as_58 rfl 1 rfl ?_
        have hi14 := gI_n h
        have h := gI_k h
        refine G_iald X (j := x1.toNatClampNeg) 7 (eC7 _ _ _) hi14 rfl dX5_as_59 ?_
        have e := so h
        subst e
        exact hQ _ _ dX5_as_60
theorem m_X5_as {l : Launch} {F : pfF} (hD : ∀ A, va_D (fA F) (cellsC (fAd F) (fCy F) A)) {x1 : Int32} {x2 : Int32} {A : St} {out : Int32 × St} (h : f_X5_as x1 x2 A = some out) : Mt l F cellsC yX5_as cX5_as 3 (some .int) rm_X5_as [.ref (fAd F 0), .int x1, .int x2] A (va_Qi (fun (r : Int32) (u : St) => r = out.1 ∧ u = out.2) (Wd cellsC F) (fA F)) := by
  refine Met_i (by decide +kernel) (Nat.le_of_ble_eq_true rfl) hD (fun E el ef X hQ => ?_)
  subst el
  subst ef
  exact b_X5_as X _ _ _ hQ h
theorem ok_X5_as : OkV yX5_as cX5_as 3 (some .int) 2 := ⟨qw217, qw218, qw1, qw219, by decide, by decide, by decide⟩
noncomputable def f_X5_enemy (x1 : Int32) (x2 : Int32) (x3 : Int32) (A : St) : Option (Int32 × St) :=
  cl (f_X0_has x1 A) fun r1 =>
  if (bI r1) = 0 then
    cl2 (f_X5_finding 0 A) fun r4 A6 =>
    some (r4, A6)
  else
    cl (f_X0_has x2 A) fun r7 =>
    if (bI r7) = 0 then
      cl2 (f_X5_finding 0 A) fun r10 A12 =>
      some (r10, A12)
    else
      if x1 = x2 then
        cl2 (f_X5_finding 0 A) fun r29 A31 =>
        some (r29, A31)
      else
        gI x1 12 <|
        bv (((A.1 12 x1.toNatClampNeg) >>> (x2 &&& 31)) &&& 1) fun v15 =>
        if x3 = 0 then
          gI x1 12 <|
          gI x1 12 <|
          bv (upI A 12 x1.toNatClampNeg ((A.1 12 x1.toNatClampNeg) &&& (((1 : Int32) <<< (x2 &&& 31)) ^^^ (-1)))) fun A19 =>
          gI x2 12 <|
          gI x2 12 <|
          bv (upI A19 12 x2.toNatClampNeg ((A19.1 12 x2.toNatClampNeg) &&& (((1 : Int32) <<< (x1 &&& 31)) ^^^ (-1)))) fun A22 =>
          some (v15, A22)
        else
          gI x1 12 <|
          gI x1 12 <|
          bv (upI A 12 x1.toNatClampNeg ((A.1 12 x1.toNatClampNeg) ||| ((1 : Int32) <<< (x2 &&& 31)))) fun A25 =>
          gI x2 12 <|
          gI x2 12 <|
          bv (upI A25 12 x2.toNatClampNeg ((A25.1 12 x2.toNatClampNeg) ||| ((1 : Int32) <<< (x1 &&& 31)))) fun A28 =>
          some (v15, A28)
abbrev rm_X5_enemy : Room := { frames := 1, cells := 0, slots := 0, locals := 21 }
set_option maxHeartbeats 4000000 in
set_option maxRecDepth 100000 in
theorem b_X5_enemy {E : pfE} (X : CX cellsC E cX5_enemy RX5 rm_X5_enemy 6) (x1 : Int32) (x2 : Int32) (x3 : Int32) (A : St) {out : Int32 × St} (hQ : Reti cellsC E cX5_enemy out.1 out.2) (h : f_X5_enemy x1 x2 x3 A = some out) : GG cellsC E A 0 [(0, .ref (fAd (eF E) 0)), (1, .int x1), (2, .int x2), (3, .int x3)] [] := by
  unfold f_X5_enemy at h
  refine G_aload_n X dX5_enemy_0 rfl 0 rfl ?_
  refine G_getf X inX5 0 (eC0 _ _ _) rfl 2 (by decide) qw157 rfl dX5_enemy_1 ?_
  refine G_iload_n X dX5_enemy_4 rfl 1 rfl ?_
  obtain ⟨r1, hz2, h⟩ := cl_k h
  refine G_callV_i X (As := [.int x1]) (rest := []) ok_X0_has qw200 3 (eC3 _ _ _) rfl rfl ⟨rfl, rfl, Nat.le_of_ble_eq_true rfl, Nat.le_of_ble_eq_true rfl⟩ (m_X0_has X.d hz2) rfl rfl (Nat.le_of_ble_eq_true rfl) dX5_enemy_5 ?_
  refine G_ifeq X (tgt := 27) dX5_enemy_8 (by decide) (fun c3 => ?_) (fun c3 => ?_)
  · have h := if_t c3 h
    refine G_aload_n X dX5_enemy_27 rfl 0 rfl ?_
    refine G_iconst X (v := 0) dX5_enemy_28 rfl ?_
    obtain ⟨r4, A6, hz5, h⟩ := cl2_k h
    refine G_callV_i X (As := [.int 0]) (rest := []) ok_X5_finding qw191 0 (eC0 _ _ _) rfl rfl ⟨rfl, rfl, Nat.le_of_ble_eq_true rfl, Nat.le_of_ble_eq_true rfl⟩ (m_X5_finding X.d hz5) rfl rfl (Nat.le_of_ble_eq_true rfl) dX5_enemy_29 ?_
    have e := so h
    subst e
    exact hQ _ _ dX5_enemy_32
  · have h := if_f c3 h
    refine G_aload_n X dX5_enemy_11 rfl 0 rfl ?_
    refine G_getf X inX5 0 (eC0 _ _ _) rfl 2 (by decide) qw157 rfl dX5_enemy_12 ?_
    refine G_iload_n X dX5_enemy_15 rfl 2 rfl ?_
    obtain ⟨r7, hz8, h⟩ := cl_k h
    refine G_callV_i X (As := [.int x2]) (rest := []) ok_X0_has qw200 3 (eC3 _ _ _) rfl rfl ⟨rfl, rfl, Nat.le_of_ble_eq_true rfl, Nat.le_of_ble_eq_true rfl⟩ (m_X0_has X.d hz8) rfl rfl (Nat.le_of_ble_eq_true rfl) dX5_enemy_16 ?_
    refine G_ifeq X (tgt := 27) dX5_enemy_19 (by decide) (fun c9 => ?_) (fun c9 => ?_)
    · have h := if_t c9 h
      refine G_aload_n X dX5_enemy_27 rfl 0 rfl ?_
      refine G_iconst X (v := 0) dX5_enemy_28 rfl ?_
      obtain ⟨r10, A12, hz11, h⟩ := cl2_k h
      refine G_callV_i X (As := [.int 0]) (rest := []) ok_X5_finding qw191 0 (eC0 _ _ _) rfl rfl ⟨rfl, rfl, Nat.le_of_ble_eq_true rfl, Nat.le_of_ble_eq_true rfl⟩ (m_X5_finding X.d hz11) rfl rfl (Nat.le_of_ble_eq_true rfl) dX5_enemy_29 ?_
      have e := so h
      subst e
      exact hQ _ _ dX5_enemy_32
    · have h := if_f c9 h
      refine G_iload_n X dX5_enemy_22 rfl 1 rfl ?_
      refine G_iload_n X dX5_enemy_23 rfl 2 rfl ?_
      refine G_icne X (tgt := 33) dX5_enemy_24 (by decide) (fun c13 => ?_) (fun c13 => ?_)
      · have h := if_t c13 h
        refine G_aload_n X dX5_enemy_27 rfl 0 rfl ?_
        refine G_iconst X (v := 0) dX5_enemy_28 rfl ?_
        obtain ⟨r29, A31, hz30, h⟩ := cl2_k h
        refine G_callV_i X (As := [.int 0]) (rest := []) ok_X5_finding qw191 0 (eC0 _ _ _) rfl rfl ⟨rfl, rfl, Nat.le_of_ble_eq_true rfl, Nat.le_of_ble_eq_true rfl⟩ (m_X5_finding X.d hz30) rfl rfl (Nat.le_of_ble_eq_true rfl) dX5_enemy_29 ?_
        have e := so h
        subst e
        exact hQ _ _ dX5_enemy_32
      · have h := if_f c13 h
        refine G_aload_n X dX5_enemy_33 rfl 0 rfl ?_
        refine G_getf X inX5 0 (eC0 _ _ _) rfl 2 (by decide) qw157 rfl dX5_enemy_34 ?_
        refine G_getf X inX0 3 (eC3 _ _ _) rfl 1 (by decide) qw39 rfl dX5_enemy_37 ?_
        refine G_bipush X (v := 7) dX5_enemy_40 rfl ?_
        refine G_aald X (t0 := 3) (b := fAd (eF E) 12) 4 (eC4 _ _ _) rfl rfl (vi rfl) rfl dX5_enemy_42 ?_
        refine G_astore X (lv2 := [(4, .ref (fAd (eF E) 12)), (0, .ref (fAd (eF E) 0)), (1, .int x1), (2, .int x2), (3, .int x3)]) dX5_enemy_43 (by decide) rfl ?_
        refine G_aload X dX5_enemy_45 0 rfl ?_
        refine G_iload_n X dX5_enemy_47 rfl 2 rfl ?_
        have hi14 := gI_n h
        have h := gI_k h
        refine G_iald X (j := x1.toNatClampNeg) 12 (eC12 _ _ _) hi14 rfl dX5_enemy_48 ?_
        refine G_iload_n X dX5_enemy_49 rfl 3 rfl ?_
        refine G_ishr X dX5_enemy_50 ?_
        refine G_iconst X (v := 1) dX5_enemy_51 rfl ?_
        refine G_iand X dX5_enemy_52 ?_
        refine G_topi (fun v15 ev15 => ?_)
        have h := bv_k ev15 h
        refine G_istore X (lv2 := [(5, .int v15), (4, .ref (fAd (eF E) 12)), (0, .ref (fAd (eF E) 0)), (1, .int x1), (2, .int x2), (3, .int x3)]) dX5_enemy_53 (by decide) rfl ?_
        refine G_iload_n X dX5_enemy_55 rfl 5 rfl ?_
        refine G_ifeq X (tgt := 82) dX5_enemy_56 (by decide) (fun c16 => ?_) (fun c16 => ?_)
        · have h := if_t c16 h
          refine G_aload X dX5_enemy_82 1 rfl ?_
          refine G_iload_n X dX5_enemy_84 rfl 3 rfl ?_
          refine G_dup2 X dX5_enemy_85 rfl rfl ?_
          have hi17 := gI_n h
          have h := gI_k h
          refine G_iald X (j := x1.toNatClampNeg) 12 (eC12 _ _ _) hi17 rfl dX5_enemy_86 ?_
          refine G_iconst X (v := 1) dX5_enemy_87 rfl ?_
          refine G_iload_n X dX5_enemy_88 rfl 4 rfl ?_
          refine G_ishl X dX5_enemy_89 ?_
          refine G_iconst X (v := (-1)) dX5_enemy_90 rfl ?_
          refine G_ixor X dX5_enemy_91 ?_
          refine G_iand X dX5_enemy_92 ?_
          have hi18 := gI_n h
          have h := gI_k h
          refine G_iast X (j := x1.toNatClampNeg) 12 (eC12 _ _ _) (sCI _ _ _ _ x1.toNatClampNeg _ _ (fun _ => rfl)) hi18 rfl dX5_enemy_93 ?_
          refine G_topS (fun A19 eA19 => ?_)
          have h := bv_k eA19 h
          refine G_aload X dX5_enemy_94 1 rfl ?_
          refine G_iload_n X dX5_enemy_96 rfl 4 rfl ?_
          refine G_dup2 X dX5_enemy_97 rfl rfl ?_
          have hi20 := gI_n h
          have h := gI_k h
          refine G_iald X (j := x2.toNatClampNeg) 12 (eC12 _ _ _) hi20 rfl dX5_enemy_98 ?_
          refine G_iconst X (v := 1) dX5_enemy_99 rfl ?_
          refine G_iload_n X dX5_enemy_100 rfl 3 rfl ?_
          refine G_ishl X dX5_enemy_101 ?_
          refine G_iconst X (v := (-1)) dX5_enemy_102 rfl ?_
          refine G_ixor X dX5_enemy_103 ?_
          refine G_iand X dX5_enemy_104 ?_
          have hi21 := gI_n h
          have h := gI_k h
          refine G_iast X (j := x2.toNatClampNeg) 12 (eC12 _ _ _) (sCI _ _ _ _ x2.toNatClampNeg _ _ (fun _ => rfl)) hi21 rfl dX5_enemy_105 ?_
          refine G_topS (fun A22 eA22 => ?_)
          have h := bv_k eA22 h
          refine G_iload X dX5_enemy_106 0 rfl ?_
          have e := so h
          subst e
          exact hQ _ _ dX5_enemy_108
        · have h := if_f c16 h
          refine G_aload X dX5_enemy_59 1 rfl ?_
          refine G_iload_n X dX5_enemy_61 rfl 3 rfl ?_
          refine G_dup2 X dX5_enemy_62 rfl rfl ?_
          have hi23 := gI_n h
          have h := gI_k h
          refine G_iald X (j := x1.toNatClampNeg) 12 (eC12 _ _ _) hi23 rfl dX5_enemy_63 ?_
          refine G_iconst X (v := 1) dX5_enemy_64 rfl ?_
          refine G_iload_n X dX5_enemy_65 rfl 4 rfl ?_
          refine G_ishl X dX5_enemy_66 ?_
          refine G_ior X dX5_enemy_67 ?_
          have hi24 := gI_n h
          have h := gI_k h
          refine G_iast X (j := x1.toNatClampNeg) 12 (eC12 _ _ _) (sCI _ _ _ _ x1.toNatClampNeg _ _ (fun _ => rfl)) hi24 rfl dX5_enemy_68 ?_
          refine G_topS (fun A25 eA25 => ?_)
          have h := bv_k eA25 h
          refine G_aload X dX5_enemy_69 1 rfl ?_
          refine G_iload_n X dX5_enemy_71 rfl 4 rfl ?_
          refine G_dup2 X dX5_enemy_72 rfl rfl ?_
          have hi26 := gI_n h
          have h := gI_k h
          refine G_iald X (j := x2.toNatClampNeg) 12 (eC12 _ _ _) hi26 rfl dX5_enemy_73 ?_
          refine G_iconst X (v := 1) dX5_enemy_74 rfl ?_
          refine G_iload_n X dX5_enemy_75 rfl 3 rfl ?_
          refine G_ishl X dX5_enemy_76 ?_
          refine G_ior X dX5_enemy_77 ?_
          have hi27 := gI_n h
          have h := gI_k h
          refine G_iast X (j := x2.toNatClampNeg) 12 (eC12 _ _ _) (sCI _ _ _ _ x2.toNatClampNeg _ _ (fun _ => rfl)) hi27 rfl dX5_enemy_78 ?_
          refine G_topS (fun A28 eA28 => ?_)
          have h := bv_k eA28 h
          refine G_goto X (tgt := 106) dX5_enemy_79 (by decide) ?_
          refine G_iload X dX5_enemy_106 0 rfl ?_
          have e := so h
          subst e
          exact hQ _ _ dX5_enemy_108
theorem m_X5_enemy {l : Launch} {F : pfF} (hD : ∀ A, va_D (fA F) (cellsC (fAd F) (fCy F) A)) {x1 : Int32} {x2 : Int32} {x3 : Int32} {A : St} {out : Int32 × St} (h : f_X5_enemy x1 x2 x3 A = some out) : Mt l F cellsC yX5_enemy cX5_enemy 6 (some .int) rm_X5_enemy [.ref (fAd F 0), .int x1, .int x2, .int x3] A (va_Qi (fun (r : Int32) (u : St) => r = out.1 ∧ u = out.2) (Wd cellsC F) (fA F)) := by
  refine Met_i (by decide +kernel) (Nat.le_of_ble_eq_true rfl) hD (fun E el ef X hQ => ?_)
  subst el
  subst ef
  exact b_X5_enemy X _ _ _ _ hQ h
theorem ok_X5_enemy : OkV yX5_enemy cX5_enemy 6 (some .int) 3 := ⟨qw226, qw227, qw1, qw228, by decide, by decide, by decide⟩
noncomputable def f_X0_steepness (x1 : Int32) (A : St) : Option (UInt32) :=
  gI x1 12 <|
  g32 (FP.fdiv (FP.i2f (A.1 8 x1.toNatClampNeg)) 1082130432) fun v2 =>
  some v2
abbrev rm_X0_steepness : Room := { frames := 0, cells := 0, slots := 0, locals := 0 }
set_option maxHeartbeats 4000000 in
set_option maxRecDepth 100000 in
theorem b_X0_steepness {E : pfE} (X : CX cellsC E cX0_steepness RX0 rm_X0_steepness 2) (x1 : Int32) (A : St) {out : UInt32} (hQ : Retf cellsC E cX0_steepness out A) (h : f_X0_steepness x1 A = some out) : GG cellsC E A 0 [(0, .ref (fAd (eF E) 3)), (1, .int x1)] [] := by
  unfold f_X0_steepness at h
  refine G_aload_n X dX0_steepness_0 rfl 0 rfl ?_
  refine G_getf X inX0 3 (eC3 _ _ _) rfl 1 (by decide) qw38 rfl dX0_steepness_1 ?_
  refine G_iconst X (v := 3) dX0_steepness_4 rfl ?_
  refine G_aald X (t0 := 3) (b := fAd (eF E) 8) 4 (eC4 _ _ _) rfl rfl (vi rfl) rfl dX0_steepness_5 ?_
  refine G_iload_n X dX0_steepness_6 rfl 1 rfl ?_
  have hi1 := gI_n h
  have h := gI_k h
  refine G_iald X (j := x1.toNatClampNeg) 8 (eC8 _ _ _) hi1 rfl dX0_steepness_7 ?_
  refine G_i2f X dX0_steepness_8 ?_
  refine G_ldcf X (v := 1082130432) qw237 dX0_steepness_9 ?_
  have hv2 := g32_n h
  refine G_fdiv X dX0_steepness_11 hv2 ?_
  refine G_topf (fun v2 ev2 => ?_)
  have h := g32_k ev2 h
  have e := so h
  subst e
  exact hQ _ _ dX0_steepness_12
theorem m_X0_steepness {l : Launch} {F : pfF} (hD : ∀ A, va_D (fA F) (cellsC (fAd F) (fCy F) A)) {x1 : Int32} {A : St} {out : UInt32} (h : f_X0_steepness x1 A = some out) : Mt l F cellsC yX0_steepness cX0_steepness 2 (some .float) rm_X0_steepness [.ref (fAd F 3), .int x1] A (va_Qf (fun (r : UInt32) (u : St) => r = out ∧ u = A) (Wd cellsC F) (fA F)) := by
  refine Met_f (by decide +kernel) (Nat.le_of_ble_eq_true rfl) hD (fun E el ef X hQ => ?_)
  subst el
  subst ef
  exact b_X0_steepness X _ _ hQ h
theorem ok_X0_steepness : OkV yX0_steepness cX0_steepness 2 (some .float) 1 := ⟨qw234, qw235, qw3, qw236, by decide, by decide, by decide⟩
noncomputable def f_X2_size (x0 : UInt64) : Option (UInt64) :=
  if 0 ≤ (Op.cmpValue (FP.dcmp x0 FP.dconst0) .g) then
    some x0
  else
    some (FP.dneg x0)
abbrev rm_X2_size : Room := { frames := 0, cells := 0, slots := 0, locals := 0 }
set_option maxHeartbeats 4000000 in
set_option maxRecDepth 100000 in
theorem b_X2_size {wl : pfW} {E : pfE} (X : CX wl E cX2_size RX2 rm_X2_size 2) (x0 : UInt64) {A : St} {out : UInt64} (hQ : Retd wl E cX2_size out A) (h : f_X2_size x0 = some out) : GG wl E A 0 [(0, .double x0)] [] := by
  unfold f_X2_size at h
  refine G_dload_n X dX2_size_0 rfl 0 rfl ?_
  refine G_dconst0 X dX2_size_1 ?_
  refine G_dcmp X dX2_size_2 ?_
  refine G_ifge X (tgt := 11) dX2_size_3 (by decide) (fun c1 => ?_) (fun c1 => ?_)
  · have h := if_t c1 h
    refine G_dload_n X dX2_size_11 rfl 0 rfl ?_
    have e := so h
    subst e
    exact hQ _ _ dX2_size_12
  · have h := if_f c1 h
    refine G_dload_n X dX2_size_6 rfl 0 rfl ?_
    refine G_dneg X dX2_size_7 ?_
    refine G_goto X (tgt := 12) dX2_size_8 (by decide) ?_
    have e := so h
    subst e
    exact hQ _ _ dX2_size_12
theorem m_X2_size {wl : pfW} {l : Launch} {F : pfF} (hD : ∀ A, va_D (fA F) (wl (fAd F) (fCy F) A)) {x0 : UInt64} {A : St} {out : UInt64} (h : f_X2_size x0 = some out) : Mt l F wl yX2_size cX2_size 2 (some .double) rm_X2_size [.double x0] A (va_Qd (fun (r : UInt64) (u : St) => r = out ∧ u = A) (Wd wl F) (fA F)) := by
  refine Met_d (by decide +kernel) (Nat.le_of_ble_eq_true rfl) hD (fun E el ef X hQ => ?_)
  subst el
  subst ef
  exact b_X2_size X _ hQ h
theorem ok_X2_size : OkS yX2_size cX2_size 2 (some .double) 1 := ⟨qw242, qw7, qw243, by decide, by decide, by decide⟩
noncomputable def f_X2_sizeBits_L15 (l2 : Int32) (l3 : Int32) (l4 : UInt64) (l6 : Int64) : Option ((UInt64 × Int64) ⊕ (UInt64 × Int64)) :=
  if (Op.cmpValue (FP.dcmp l4 4611686018427387904) .l) < 0 then
    some (.inr (l4, l6))
  else
    if 0 ≤ (lg_cmp l6 (((2 : Int32) * l3).toInt64)) then
      some (.inr (l4, l6))
    else
      g64 (FP.dmul l4 4602678819172646912) fun v5 =>
      bv (l6 + 1) fun v6 =>
      some (.inl (v5, v6))
noncomputable def f_X2_sizeBits_L51 (l2 : Int32) (l4 : UInt64) (l6 : Int64) : Option ((UInt64 × Int64) ⊕ (UInt64 × Int64)) :=
  if 0 ≤ (Op.cmpValue (FP.dcmp l4 FP.dconst1) .g) then
    some (.inr (l4, l6))
  else
    if (lg_cmp l6 1) ≤ 0 then
      some (.inr (l4, l6))
    else
      g64 (FP.dmul l4 4611686018427387904) fun v11 =>
      bv (l6 - 1) fun v12 =>
      some (.inl (v11, v12))
noncomputable def f_X2_sizeBits_X82 (m2 : Int32) (m4 : UInt64) (m6 : Int64) : Option (Int64) :=
  g64 (FP.dsub m4 FP.dconst1) fun v17 =>
  g64 (FP.dmul v17 (FP.l2d (1 <<< (m2.toInt64 &&& 63)))) fun v18 =>
  some ((m6 <<< (m2.toInt64 &&& 63)) + (FP.d2l v18))
noncomputable def f_X2_sizeBits_X51 (m2 : Int32) (m4 : UInt64) (m6 : Int64) : Option (Int64) :=
  cl (loop (fun s => f_X2_sizeBits_L51 m2 s.1 s.2) (m4, m6)) (fun s => f_X2_sizeBits_X82 m2 s.1 s.2)
noncomputable def f_X2_sizeBits (x0 : UInt64) (x2 : Int32) (x3 : Int32) : Option (Int64) :=
  if (Op.cmpValue (FP.dcmp x0 FP.dconst0) .l) = 0 then
    some 0
  else
    bv x3.toInt64 fun v2 =>
    cl (loop (fun s => f_X2_sizeBits_L15 x2 x3 s.1 s.2) (x0, v2)) (fun s => f_X2_sizeBits_X51 x2 s.1 s.2)
abbrev rm_X2_sizeBits : Room := { frames := 0, cells := 0, slots := 0, locals := 0 }
set_option maxHeartbeats 4000000 in
set_option maxRecDepth 100000 in
theorem g_X2_sizeBits_L15 {wl : pfW} {E : pfE} (X : CX wl E cX2_sizeBits RX2 rm_X2_sizeBits 8) {A : St} (l2 : Int32) (l3 : Int32) : ∀ (n : Nat) (l4 : UInt64) (l6 : Int64) (ρ : UInt64 × Int64), lp (fun s => f_X2_sizeBits_L15 l2 l3 s.1 s.2) n (l4, l6) = some ρ → (∀ (q4 : UInt64) (q6 : Int64), ρ = (q4, q6) → GG wl E A 51 [(2, .int l2), (4, .double q4), (6, .long q6)] []) → GG wl E A 15 [(2, .int l2), (3, .int l3), (4, .double l4), (6, .long l6)] [] := by
  intro n
  induction n with
  | zero =>
    intro l4 l6 ρ h
    cases h
  | succ n ih =>
    intro l4 l6 ρ h0 K
    obtain ⟨x, hb, hx⟩ := lp_step h0
    have h : f_X2_sizeBits_L15 l2 l3 l4 l6 = some x := hb
    unfold f_X2_sizeBits_L15 at h
    clear hb h0
    refine G_dload X dX2_sizeBits_15 2 rfl ?_
    refine G_ldc2d X (v := 4611686018427387904) qw247 dX2_sizeBits_17 ?_
    refine G_dcmp X dX2_sizeBits_20 ?_
    refine G_iflt X (tgt := 51) dX2_sizeBits_21 (by decide) (fun c3 => ?_) (fun c3 => ?_)
    · have h := if_t c3 h
      exact G_sub [0, 2, 3] rfl (K _ _ (lpr (so h) hx).symm)
    · have h := if_f c3 h
      refine G_lload X dX2_sizeBits_24 3 rfl ?_
      refine G_iconst X (v := 2) dX2_sizeBits_26 rfl ?_
      refine G_iload_n X dX2_sizeBits_27 rfl 1 rfl ?_
      refine G_imul X dX2_sizeBits_28 ?_
      refine G_i2l X dX2_sizeBits_29 rfl ?_
      refine G_lcmp X dX2_sizeBits_30 ?_
      refine G_ifge X (tgt := 51) dX2_sizeBits_31 (by decide) (fun c4 => ?_) (fun c4 => ?_)
      · have h := if_t c4 h
        exact G_sub [0, 2, 3] rfl (K _ _ (lpr (so h) hx).symm)
      · have h := if_f c4 h
        refine G_dload X dX2_sizeBits_34 2 rfl ?_
        refine G_ldc2d X (v := 4602678819172646912) qw248 dX2_sizeBits_36 ?_
        have hv5 := g64_n h
        refine G_dmul X dX2_sizeBits_39 hv5 ?_
        refine G_topd (fun v5 ev5 => ?_)
        have h := g64_k ev5 h
        refine G_dstore X (lv2 := [(4, .double v5), (2, .int l2), (3, .int l3), (6, .long l6)]) dX2_sizeBits_40 (by decide) rfl ?_
        refine G_lload X dX2_sizeBits_42 3 rfl ?_
        refine G_lconst X (v := 1) dX2_sizeBits_44 rfl ?_
        refine G_ladd X dX2_sizeBits_45 ?_
        refine G_topl (fun v6 ev6 => ?_)
        have h := bv_k ev6 h
        refine G_lstore X (lv2 := [(6, .long v6), (4, .double v5), (2, .int l2), (3, .int l3)]) dX2_sizeBits_46 (by decide) rfl ?_
        refine G_goto X (tgt := 15) dX2_sizeBits_48 (by decide) ?_
        exact G_sub [2, 3, 1, 0] rfl (ih _ _ _ (lpl (so h) hx) K)
set_option maxHeartbeats 4000000 in
set_option maxRecDepth 100000 in
theorem g_X2_sizeBits_L51 {wl : pfW} {E : pfE} (X : CX wl E cX2_sizeBits RX2 rm_X2_sizeBits 8) {A : St} (l2 : Int32) : ∀ (n : Nat) (l4 : UInt64) (l6 : Int64) (ρ : UInt64 × Int64), lp (fun s => f_X2_sizeBits_L51 l2 s.1 s.2) n (l4, l6) = some ρ → (∀ (q4 : UInt64) (q6 : Int64), ρ = (q4, q6) → GG wl E A 82 [(2, .int l2), (4, .double q4), (6, .long q6)] []) → GG wl E A 51 [(2, .int l2), (4, .double l4), (6, .long l6)] [] := by
  intro n
  induction n with
  | zero =>
    intro l4 l6 ρ h
    cases h
  | succ n ih =>
    intro l4 l6 ρ h0 K
    obtain ⟨x, hb, hx⟩ := lp_step h0
    have h : f_X2_sizeBits_L51 l2 l4 l6 = some x := hb
    unfold f_X2_sizeBits_L51 at h
    clear hb h0
    refine G_dload X dX2_sizeBits_51 1 rfl ?_
    refine G_dconst1 X dX2_sizeBits_53 ?_
    refine G_dcmp X dX2_sizeBits_54 ?_
    refine G_ifge X (tgt := 82) dX2_sizeBits_55 (by decide) (fun c9 => ?_) (fun c9 => ?_)
    · have h := if_t c9 h
      exact G_sub [0, 1, 2] rfl (K _ _ (lpr (so h) hx).symm)
    · have h := if_f c9 h
      refine G_lload X dX2_sizeBits_58 2 rfl ?_
      refine G_lconst X (v := 1) dX2_sizeBits_60 rfl ?_
      refine G_lcmp X dX2_sizeBits_61 ?_
      refine G_ifle X (tgt := 82) dX2_sizeBits_62 (by decide) (fun c10 => ?_) (fun c10 => ?_)
      · have h := if_t c10 h
        exact G_sub [0, 1, 2] rfl (K _ _ (lpr (so h) hx).symm)
      · have h := if_f c10 h
        refine G_dload X dX2_sizeBits_65 1 rfl ?_
        refine G_ldc2d X (v := 4611686018427387904) qw247 dX2_sizeBits_67 ?_
        have hv11 := g64_n h
        refine G_dmul X dX2_sizeBits_70 hv11 ?_
        refine G_topd (fun v11 ev11 => ?_)
        have h := g64_k ev11 h
        refine G_dstore X (lv2 := [(4, .double v11), (2, .int l2), (6, .long l6)]) dX2_sizeBits_71 (by decide) rfl ?_
        refine G_lload X dX2_sizeBits_73 2 rfl ?_
        refine G_lconst X (v := 1) dX2_sizeBits_75 rfl ?_
        refine G_lsub X dX2_sizeBits_76 ?_
        refine G_topl (fun v12 ev12 => ?_)
        have h := bv_k ev12 h
        refine G_lstore X (lv2 := [(6, .long v12), (4, .double v11), (2, .int l2)]) dX2_sizeBits_77 (by decide) rfl ?_
        refine G_goto X (tgt := 51) dX2_sizeBits_79 (by decide) ?_
        exact G_sub [2, 1, 0] rfl (ih _ _ _ (lpl (so h) hx) K)
set_option maxHeartbeats 4000000 in
set_option maxRecDepth 100000 in
theorem b_X2_sizeBits {wl : pfW} {E : pfE} (X : CX wl E cX2_sizeBits RX2 rm_X2_sizeBits 8) (x0 : UInt64) (x2 : Int32) (x3 : Int32) {A : St} {out : Int64} (hQ : Retl wl E cX2_sizeBits out A) (h : f_X2_sizeBits x0 x2 x3 = some out) : GG wl E A 0 [(0, .double x0), (2, .int x2), (3, .int x3)] [] := by
  unfold f_X2_sizeBits at h
  refine G_dload_n X dX2_sizeBits_0 rfl 0 rfl ?_
  refine G_dconst0 X dX2_sizeBits_1 ?_
  refine G_dcmp X dX2_sizeBits_2 ?_
  refine G_ifne X (tgt := 8) dX2_sizeBits_3 (by decide) (fun c1 => ?_) (fun c1 => ?_)
  · have h := if_t c1 h
    refine G_lconst X (v := 0) dX2_sizeBits_6 rfl ?_
    have e := so h
    subst e
    exact hQ _ _ dX2_sizeBits_7
  · have h := if_f c1 h
    refine G_dload_n X dX2_sizeBits_8 rfl 0 rfl ?_
    refine G_dstore X (lv2 := [(4, .double x0), (0, .double x0), (2, .int x2), (3, .int x3)]) dX2_sizeBits_9 (by decide) rfl ?_
    refine G_iload_n X dX2_sizeBits_11 rfl 3 rfl ?_
    refine G_i2l X dX2_sizeBits_12 rfl ?_
    refine G_topl (fun v2 ev2 => ?_)
    have h := bv_k ev2 h
    refine G_lstore X (lv2 := [(6, .long v2), (4, .double x0), (0, .double x0), (2, .int x2), (3, .int x3)]) dX2_sizeBits_13 (by decide) rfl ?_
    obtain ⟨ρ, hl, h⟩ := cl_k h
    obtain ⟨n, hl⟩ := loop_some hl
    refine G_sub [3, 4, 1, 0] rfl (g_X2_sizeBits_L15 X x2 x3 n _ _ ρ hl ?_)
    intro v8 v7 e
    subst e
    have h : f_X2_sizeBits_X51 x2 v8 v7 = some _ := h
    unfold f_X2_sizeBits_X51 at h
    obtain ⟨ρ, hl, h⟩ := cl_k h
    obtain ⟨n, hl⟩ := loop_some hl
    refine G_sub [0, 1, 2] rfl (g_X2_sizeBits_L51 X x2 n _ _ ρ hl ?_)
    intro v13 v14 e
    subst e
    have h : f_X2_sizeBits_X82 x2 v13 v14 = some _ := h
    unfold f_X2_sizeBits_X82 at h
    refine G_lload X dX2_sizeBits_82 2 rfl ?_
    refine G_iload_n X dX2_sizeBits_84 rfl 0 rfl ?_
    refine G_lshl X dX2_sizeBits_85 rfl ?_
    refine G_dload X dX2_sizeBits_86 1 rfl ?_
    refine G_dconst1 X dX2_sizeBits_88 ?_
    have hv15 := g64_n h
    refine G_dsub X dX2_sizeBits_89 hv15 ?_
    refine G_topd (fun v15 ev15 => ?_)
    have h := g64_k ev15 h
    refine G_lconst X (v := 1) dX2_sizeBits_90 rfl ?_
    refine G_iload_n X dX2_sizeBits_91 rfl 0 rfl ?_
    refine G_lshl X dX2_sizeBits_92 rfl ?_
    refine G_l2d X dX2_sizeBits_93 ?_
    have hv16 := g64_n h
    refine G_dmul X dX2_sizeBits_94 hv16 ?_
    refine G_topd (fun v16 ev16 => ?_)
    have h := g64_k ev16 h
    refine G_d2l X dX2_sizeBits_95 ?_
    refine G_ladd X dX2_sizeBits_96 ?_
    have e := so h
    subst e
    exact hQ _ _ dX2_sizeBits_97
theorem m_X2_sizeBits {wl : pfW} {l : Launch} {F : pfF} (hD : ∀ A, va_D (fA F) (wl (fAd F) (fCy F) A)) {x0 : UInt64} {x2 : Int32} {x3 : Int32} {A : St} {out : Int64} (h : f_X2_sizeBits x0 x2 x3 = some out) : Mt l F wl yX2_sizeBits cX2_sizeBits 8 (some .long) rm_X2_sizeBits [.double x0, .int x2, .int x3] A (va_Ql (fun (r : Int64) (u : St) => r = out ∧ u = A) (Wd wl F) (fA F)) := by
  refine Met_l (by decide +kernel) (Nat.le_of_ble_eq_true rfl) hD (fun E el ef X hQ => ?_)
  subst el
  subst ef
  exact b_X2_sizeBits X _ _ _ hQ h
theorem ok_X2_sizeBits : OkS yX2_sizeBits cX2_sizeBits 8 (some .long) 3 := ⟨qw245, qw7, qw246, by decide, by decide, by decide⟩
noncomputable def f_X2_isMinus (x0 : UInt64) : Option (Bool) :=
  if (Op.cmpValue (FP.dcmp x0 FP.dconst0) .g) < 0 then
    some true
  else
    if (Op.cmpValue (FP.dcmp x0 FP.dconst0) .l) = 0 then
      g64 (FP.ddiv FP.dconst1 x0) fun v3 =>
      if 0 ≤ (Op.cmpValue (FP.dcmp v3 FP.dconst0) .g) then
        some false
      else
        some true
    else
      some false
abbrev rm_X2_isMinus : Room := { frames := 0, cells := 0, slots := 0, locals := 0 }
set_option maxHeartbeats 4000000 in
set_option maxRecDepth 100000 in
theorem b_X2_isMinus {wl : pfW} {E : pfE} (X : CX wl E cX2_isMinus RX2 rm_X2_isMinus 2) (x0 : UInt64) {A : St} {out : Bool} (hQ : Reti wl E cX2_isMinus (bI out) A) (h : f_X2_isMinus x0 = some out) : GG wl E A 0 [(0, .double x0)] [] := by
  unfold f_X2_isMinus at h
  refine G_dload_n X dX2_isMinus_0 rfl 0 rfl ?_
  refine G_dconst0 X dX2_isMinus_1 ?_
  refine G_dcmp X dX2_isMinus_2 ?_
  refine G_iflt X (tgt := 20) dX2_isMinus_3 (by decide) (fun c1 => ?_) (fun c1 => ?_)
  · have h := if_t c1 h
    refine G_iconst X (v := 1) dX2_isMinus_20 rfl ?_
    refine G_goto X (tgt := 25) dX2_isMinus_21 (by decide) ?_
    have e := so h
    subst e
    exact hQ _ _ dX2_isMinus_25
  · have h := if_f c1 h
    refine G_dload_n X dX2_isMinus_6 rfl 0 rfl ?_
    refine G_dconst0 X dX2_isMinus_7 ?_
    refine G_dcmp X dX2_isMinus_8 ?_
    refine G_ifne X (tgt := 24) dX2_isMinus_9 (by decide) (fun c2 => ?_) (fun c2 => ?_)
    · have h := if_t c2 h
      refine G_dconst1 X dX2_isMinus_12 ?_
      refine G_dload_n X dX2_isMinus_13 rfl 0 rfl ?_
      have hv3 := g64_n h
      refine G_ddiv X dX2_isMinus_14 hv3 ?_
      refine G_topd (fun v3 ev3 => ?_)
      have h := g64_k ev3 h
      refine G_dconst0 X dX2_isMinus_15 ?_
      refine G_dcmp X dX2_isMinus_16 ?_
      refine G_ifge X (tgt := 24) dX2_isMinus_17 (by decide) (fun c4 => ?_) (fun c4 => ?_)
      · have h := if_t c4 h
        refine G_iconst X (v := 0) dX2_isMinus_24 rfl ?_
        have e := so h
        subst e
        exact hQ _ _ dX2_isMinus_25
      · have h := if_f c4 h
        refine G_iconst X (v := 1) dX2_isMinus_20 rfl ?_
        refine G_goto X (tgt := 25) dX2_isMinus_21 (by decide) ?_
        have e := so h
        subst e
        exact hQ _ _ dX2_isMinus_25
    · have h := if_f c2 h
      refine G_iconst X (v := 0) dX2_isMinus_24 rfl ?_
      have e := so h
      subst e
      exact hQ _ _ dX2_isMinus_25
theorem m_X2_isMinus {wl : pfW} {l : Launch} {F : pfF} (hD : ∀ A, va_D (fA F) (wl (fAd F) (fCy F) A)) {x0 : UInt64} {A : St} {out : Bool} (h : f_X2_isMinus x0 = some out) : Mt l F wl yX2_isMinus cX2_isMinus 2 (some .boolean) rm_X2_isMinus [.double x0] A (va_Qi (fun (r : Int32) (u : St) => r = bI out ∧ u = A) (Wd wl F) (fA F)) := by
  refine Met_iz (by decide +kernel) (Nat.le_of_ble_eq_true rfl) hD (nar_bI _) (fun E el ef X hQ => ?_)
  subst el
  subst ef
  exact b_X2_isMinus X _ hQ h
theorem ok_X2_isMinus : OkS yX2_isMinus cX2_isMinus 2 (some .boolean) 1 := ⟨qw250, qw7, qw251, by decide, by decide, by decide⟩
noncomputable def f_X2_floatBits (x0 : UInt32) : Option (Int32) :=
  g64 (FP.f2d x0) fun v1 =>
  cl (f_X2_size v1) fun r2 =>
  cl (f_X2_sizeBits r2 23 127) fun r4 =>
  bv r4.toInt32 fun v6 =>
  g64 (FP.f2d x0) fun v7 =>
  cl (f_X2_isMinus v7) fun r8 =>
  if (bI r8) = 0 then
    some v6
  else
    some (v6 ||| (-2147483648))
abbrev rm_X2_floatBits : Room := { frames := 1, cells := 0, slots := 0, locals := 27 }
set_option maxHeartbeats 4000000 in
set_option maxRecDepth 100000 in
theorem b_X2_floatBits {wl : pfW} {E : pfE} (X : CX wl E cX2_floatBits RX2 rm_X2_floatBits 2) (x0 : UInt32) {A : St} {out : Int32} (hQ : Reti wl E cX2_floatBits out A) (h : f_X2_floatBits x0 = some out) : GG wl E A 0 [(0, .float x0)] [] := by
  unfold f_X2_floatBits at h
  refine G_fload_n X dX2_floatBits_0 rfl 0 rfl ?_
  have hv1 := g64_n h
  refine G_f2d X dX2_floatBits_1 hv1 ?_
  refine G_topd (fun v1 ev1 => ?_)
  have h := g64_k ev1 h
  obtain ⟨r2, hz3, h⟩ := cl_k h
  refine G_callS_d X (As := [.double v1]) (rest := []) ok_X2_size qw241 ⟨rfl, rfl, Nat.le_of_ble_eq_true rfl, Nat.le_of_ble_eq_true rfl⟩ (m_X2_size X.d hz3) rfl rfl (Nat.le_of_ble_eq_true rfl) dX2_floatBits_2 ?_
  refine G_bipush X (v := 23) dX2_floatBits_5 rfl ?_
  refine G_bipush X (v := 127) dX2_floatBits_7 rfl ?_
  obtain ⟨r4, hz5, h⟩ := cl_k h
  refine G_callS_l X (As := [.double r2, .int 23, .int 127]) (rest := []) ok_X2_sizeBits qw244 ⟨rfl, rfl, Nat.le_of_ble_eq_true rfl, Nat.le_of_ble_eq_true rfl⟩ (m_X2_sizeBits X.d hz5) rfl rfl (Nat.le_of_ble_eq_true rfl) dX2_floatBits_9 ?_
  refine G_l2i X dX2_floatBits_12 rfl ?_
  refine G_topi (fun v6 ev6 => ?_)
  have h := bv_k ev6 h
  refine G_istore_n X (lv2 := [(1, .int v6), (0, .float x0)]) dX2_floatBits_13 rfl (by decide) rfl ?_
  refine G_fload_n X dX2_floatBits_14 rfl 1 rfl ?_
  have hv7 := g64_n h
  refine G_f2d X dX2_floatBits_15 hv7 ?_
  refine G_topd (fun v7 ev7 => ?_)
  have h := g64_k ev7 h
  obtain ⟨r8, hz9, h⟩ := cl_k h
  refine G_callS_i X (As := [.double v7]) (rest := []) ok_X2_isMinus qw249 ⟨rfl, rfl, Nat.le_of_ble_eq_true rfl, Nat.le_of_ble_eq_true rfl⟩ (m_X2_isMinus X.d hz9) rfl rfl (Nat.le_of_ble_eq_true rfl) dX2_floatBits_16 ?_
  refine G_ifeq X (tgt := 29) dX2_floatBits_19 (by decide) (fun c10 => ?_) (fun c10 => ?_)
  · have h := if_t c10 h
    refine G_iload_n X dX2_floatBits_29 rfl 0 rfl ?_
    have e := so h
    subst e
    exact hQ _ _ dX2_floatBits_30
  · have h := if_f c10 h
    refine G_iload_n X dX2_floatBits_22 rfl 0 rfl ?_
    refine G_ldc X (v := (-2147483648)) qw252 dX2_floatBits_23 ?_
    refine G_ior X dX2_floatBits_25 ?_
    refine G_goto X (tgt := 30) dX2_floatBits_26 (by decide) ?_
    have e := so h
    subst e
    exact hQ _ _ dX2_floatBits_30
theorem m_X2_floatBits {wl : pfW} {l : Launch} {F : pfF} (hD : ∀ A, va_D (fA F) (wl (fAd F) (fCy F) A)) {x0 : UInt32} {A : St} {out : Int32} (h : f_X2_floatBits x0 = some out) : Mt l F wl yX2_floatBits cX2_floatBits 2 (some .int) rm_X2_floatBits [.float x0] A (va_Qi (fun (r : Int32) (u : St) => r = out ∧ u = A) (Wd wl F) (fA F)) := by
  refine Met_i (by decide +kernel) (Nat.le_of_ble_eq_true rfl) hD (fun E el ef X hQ => ?_)
  subst el
  subst ef
  exact b_X2_floatBits X _ hQ h
theorem ok_X2_floatBits : OkS yX2_floatBits cX2_floatBits 2 (some .int) 1 := ⟨qw239, qw7, qw240, by decide, by decide, by decide⟩
noncomputable def f_X5_slope (x1 : Int32) (A : St) : Option (Int32 × St) :=
  cl (f_X0_has x1 A) fun r1 =>
  if (bI r1) = 0 then
    cl2 (f_X5_finding 0 A) fun r8 A10 =>
    some (r8, A10)
  else
    cl (f_X0_steepness x1 A) fun r4 =>
    cl (f_X2_floatBits r4) fun r6 =>
    some (r6, A)
abbrev rm_X5_slope : Room := { frames := 2, cells := 0, slots := 0, locals := 48 }
set_option maxHeartbeats 4000000 in
set_option maxRecDepth 100000 in
theorem b_X5_slope {E : pfE} (X : CX cellsC E cX5_slope RX5 rm_X5_slope 2) (x1 : Int32) (A : St) {out : Int32 × St} (hQ : Reti cellsC E cX5_slope out.1 out.2) (h : f_X5_slope x1 A = some out) : GG cellsC E A 0 [(0, .ref (fAd (eF E) 0)), (1, .int x1)] [] := by
  unfold f_X5_slope at h
  refine G_aload_n X dX5_slope_0 rfl 0 rfl ?_
  refine G_getf X inX5 0 (eC0 _ _ _) rfl 2 (by decide) qw157 rfl dX5_slope_1 ?_
  refine G_iload_n X dX5_slope_4 rfl 1 rfl ?_
  obtain ⟨r1, hz2, h⟩ := cl_k h
  refine G_callV_i X (As := [.int x1]) (rest := []) ok_X0_has qw200 3 (eC3 _ _ _) rfl rfl ⟨rfl, rfl, Nat.le_of_ble_eq_true rfl, Nat.le_of_ble_eq_true rfl⟩ (m_X0_has X.d hz2) rfl rfl (Nat.le_of_ble_eq_true rfl) dX5_slope_5 ?_
  refine G_ifne X (tgt := 17) dX5_slope_8 (by decide) (fun c3 => ?_) (fun c3 => ?_)
  · have h := if_t c3 h
    refine G_aload_n X dX5_slope_11 rfl 0 rfl ?_
    refine G_iconst X (v := 0) dX5_slope_12 rfl ?_
    obtain ⟨r8, A10, hz9, h⟩ := cl2_k h
    refine G_callV_i X (As := [.int 0]) (rest := []) ok_X5_finding qw191 0 (eC0 _ _ _) rfl rfl ⟨rfl, rfl, Nat.le_of_ble_eq_true rfl, Nat.le_of_ble_eq_true rfl⟩ (m_X5_finding X.d hz9) rfl rfl (Nat.le_of_ble_eq_true rfl) dX5_slope_13 ?_
    have e := so h
    subst e
    exact hQ _ _ dX5_slope_16
  · have h := if_f c3 h
    refine G_aload_n X dX5_slope_17 rfl 0 rfl ?_
    refine G_getf X inX5 0 (eC0 _ _ _) rfl 2 (by decide) qw157 rfl dX5_slope_18 ?_
    refine G_iload_n X dX5_slope_21 rfl 1 rfl ?_
    obtain ⟨r4, hz5, h⟩ := cl_k h
    refine G_callV_f X (As := [.int x1]) (rest := []) ok_X0_steepness qw233 3 (eC3 _ _ _) rfl rfl ⟨rfl, rfl, Nat.le_of_ble_eq_true rfl, Nat.le_of_ble_eq_true rfl⟩ (m_X0_steepness X.d hz5) rfl rfl (Nat.le_of_ble_eq_true rfl) dX5_slope_22 ?_
    obtain ⟨r6, hz7, h⟩ := cl_k h
    refine G_callS_i X (As := [.float r4]) (rest := []) ok_X2_floatBits qw238 ⟨rfl, rfl, Nat.le_of_ble_eq_true rfl, Nat.le_of_ble_eq_true rfl⟩ (m_X2_floatBits X.d hz7) rfl rfl (Nat.le_of_ble_eq_true rfl) dX5_slope_25 ?_
    have e := so h
    subst e
    exact hQ _ _ dX5_slope_28
theorem m_X5_slope {l : Launch} {F : pfF} (hD : ∀ A, va_D (fA F) (cellsC (fAd F) (fCy F) A)) {x1 : Int32} {A : St} {out : Int32 × St} (h : f_X5_slope x1 A = some out) : Mt l F cellsC yX5_slope cX5_slope 2 (some .int) rm_X5_slope [.ref (fAd F 0), .int x1] A (va_Qi (fun (r : Int32) (u : St) => r = out.1 ∧ u = out.2) (Wd cellsC F) (fA F)) := by
  refine Met_i (by decide +kernel) (Nat.le_of_ble_eq_true rfl) hD (fun E el ef X hQ => ?_)
  subst el
  subst ef
  exact b_X5_slope X _ _ hQ h
theorem ok_X5_slope : OkV yX5_slope cX5_slope 2 (some .int) 1 := ⟨qw230, qw231, qw1, qw232, by decide, by decide, by decide⟩
noncomputable def f_X5_longFinding (x1 : Int32) (A : St) : Option (Int64 × St) :=
  gI x1 8 <|
  gI x1 8 <|
  bv (upI A 1 x1.toNatClampNeg ((A.1 1 x1.toNatClampNeg) + 1)) fun A3 =>
  some ((-9000000000000000001) - x1.toInt64, A3)
abbrev rm_X5_longFinding : Room := { frames := 0, cells := 0, slots := 0, locals := 0 }
set_option maxHeartbeats 4000000 in
set_option maxRecDepth 100000 in
theorem b_X5_longFinding {E : pfE} (X : CX cellsC E cX5_longFinding RX5 rm_X5_longFinding 2) (x1 : Int32) (A : St) {out : Int64 × St} (hQ : Retl cellsC E cX5_longFinding out.1 out.2) (h : f_X5_longFinding x1 A = some out) : GG cellsC E A 0 [(0, .ref (fAd (eF E) 0)), (1, .int x1)] [] := by
  unfold f_X5_longFinding at h
  refine G_aload_n X dX5_longFinding_0 rfl 0 rfl ?_
  refine G_getf X inX5 0 (eC0 _ _ _) rfl 0 (by decide) qw155 rfl dX5_longFinding_1 ?_
  refine G_iload_n X dX5_longFinding_4 rfl 1 rfl ?_
  refine G_dup2 X dX5_longFinding_5 rfl rfl ?_
  have hi1 := gI_n h
  have h := gI_k h
  refine G_iald X (j := x1.toNatClampNeg) 1 (eC1 _ _ _) hi1 rfl dX5_longFinding_6 ?_
  refine G_iconst X (v := 1) dX5_longFinding_7 rfl ?_
  refine G_iadd X dX5_longFinding_8 ?_
  have hi2 := gI_n h
  have h := gI_k h
  refine G_iast X (j := x1.toNatClampNeg) 1 (eC1 _ _ _) (sCI _ _ _ _ x1.toNatClampNeg _ _ (fun _ => rfl)) hi2 rfl dX5_longFinding_9 ?_
  refine G_topS (fun A3 eA3 => ?_)
  have h := bv_k eA3 h
  refine G_ldc2 X (v := (-9000000000000000001)) qw264 dX5_longFinding_10 ?_
  refine G_iload_n X dX5_longFinding_13 rfl 1 rfl ?_
  refine G_i2l X dX5_longFinding_14 rfl ?_
  refine G_lsub X dX5_longFinding_15 ?_
  have e := so h
  subst e
  exact hQ _ _ dX5_longFinding_16
theorem m_X5_longFinding {l : Launch} {F : pfF} (hD : ∀ A, va_D (fA F) (cellsC (fAd F) (fCy F) A)) {x1 : Int32} {A : St} {out : Int64 × St} (h : f_X5_longFinding x1 A = some out) : Mt l F cellsC yX5_longFinding cX5_longFinding 2 (some .long) rm_X5_longFinding [.ref (fAd F 0), .int x1] A (va_Ql (fun (r : Int64) (u : St) => r = out.1 ∧ u = out.2) (Wd cellsC F) (fA F)) := by
  refine Met_l (by decide +kernel) (Nat.le_of_ble_eq_true rfl) hD (fun E el ef X hQ => ?_)
  subst el
  subst ef
  exact b_X5_longFinding X _ _ hQ h
theorem ok_X5_longFinding : OkV yX5_longFinding cX5_longFinding 2 (some .long) 1 := ⟨qw262, qs1, qw1, qw263, by decide, by decide, by decide⟩
noncomputable def f_X5_isAbility (x0 : Int32) : Option (Bool) :=
  cl (f_X5_within x0 (-64) 64) fun r1 =>
  some r1
abbrev rm_X5_isAbility : Room := { frames := 1, cells := 0, slots := 0, locals := 22 }
set_option maxHeartbeats 4000000 in
set_option maxRecDepth 100000 in
theorem b_X5_isAbility {wl : pfW} {E : pfE} (X : CX wl E cX5_isAbility RX5 rm_X5_isAbility 1) (x0 : Int32) {A : St} {out : Bool} (hQ : Reti wl E cX5_isAbility (bI out) A) (h : f_X5_isAbility x0 = some out) : GG wl E A 0 [(0, .int x0)] [] := by
  unfold f_X5_isAbility at h
  refine G_iload_n X dX5_isAbility_0 rfl 0 rfl ?_
  refine G_bipush X (v := (-64)) dX5_isAbility_1 rfl ?_
  refine G_bipush X (v := 64) dX5_isAbility_3 rfl ?_
  obtain ⟨r1, hz2, h⟩ := cl_k h
  refine G_callS_i X (As := [.int x0, .int (-64), .int 64]) (rest := []) ok_X5_within qw184 ⟨rfl, rfl, Nat.le_of_ble_eq_true rfl, Nat.le_of_ble_eq_true rfl⟩ (m_X5_within X.d hz2) rfl rfl (Nat.le_of_ble_eq_true rfl) dX5_isAbility_5 ?_
  have e := so h
  subst e
  exact hQ _ _ dX5_isAbility_8
theorem m_X5_isAbility {wl : pfW} {l : Launch} {F : pfF} (hD : ∀ A, va_D (fA F) (wl (fAd F) (fCy F) A)) {x0 : Int32} {A : St} {out : Bool} (h : f_X5_isAbility x0 = some out) : Mt l F wl yX5_isAbility cX5_isAbility 1 (some .boolean) rm_X5_isAbility [.int x0] A (va_Qi (fun (r : Int32) (u : St) => r = bI out ∧ u = A) (Wd wl F) (fA F)) := by
  refine Met_iz (by decide +kernel) (Nat.le_of_ble_eq_true rfl) hD (nar_bI _) (fun E el ef X hQ => ?_)
  subst el
  subst ef
  exact b_X5_isAbility X _ hQ h
theorem ok_X5_isAbility : OkS yX5_isAbility cX5_isAbility 1 (some .boolean) 1 := ⟨qw258, qw1, qw259, by decide, by decide, by decide⟩
noncomputable def f_X0_distance (x1 : Int32) (x2 : Int32) (A : St) : Option (UInt32) :=
  cl (f_X0_steepness x1 A) fun r1 =>
  g32 (FP.fdiv (FP.i2f x2) 1090519040) fun v3 =>
  gI x1 12 <|
  g32 (FP.fdiv (FP.i2f (A.1 9 x1.toNatClampNeg)) 1090519040) fun v5 =>
  g32 (FP.fsub v3 v5) fun v6 =>
  g32 (FP.fmul r1 v6) fun v7 =>
  some v7
abbrev rm_X0_distance : Room := { frames := 1, cells := 0, slots := 0, locals := 21 }
set_option maxHeartbeats 4000000 in
set_option maxRecDepth 100000 in
theorem b_X0_distance {E : pfE} (X : CX cellsC E cX0_distance RX0 rm_X0_distance 3) (x1 : Int32) (x2 : Int32) (A : St) {out : UInt32} (hQ : Retf cellsC E cX0_distance out A) (h : f_X0_distance x1 x2 A = some out) : GG cellsC E A 0 [(0, .ref (fAd (eF E) 3)), (1, .int x1), (2, .int x2)] [] := by
  unfold f_X0_distance at h
  refine G_aload_n X dX0_distance_0 rfl 0 rfl ?_
  refine G_iload_n X dX0_distance_1 rfl 1 rfl ?_
  obtain ⟨r1, hz2, h⟩ := cl_k h
  refine G_callV_f X (As := [.int x1]) (rest := []) ok_X0_steepness qw269 3 (eC3 _ _ _) rfl rfl ⟨rfl, rfl, Nat.le_of_ble_eq_true rfl, Nat.le_of_ble_eq_true rfl⟩ (m_X0_steepness X.d hz2) rfl rfl (Nat.le_of_ble_eq_true rfl) dX0_distance_2 ?_
  refine G_iload_n X dX0_distance_5 rfl 2 rfl ?_
  refine G_i2f X dX0_distance_6 ?_
  refine G_ldcf X (v := 1090519040) qw274 dX0_distance_7 ?_
  have hv3 := g32_n h
  refine G_fdiv X dX0_distance_9 hv3 ?_
  refine G_topf (fun v3 ev3 => ?_)
  have h := g32_k ev3 h
  refine G_aload_n X dX0_distance_10 rfl 0 rfl ?_
  refine G_getf X inX0 3 (eC3 _ _ _) rfl 1 (by decide) qw38 rfl dX0_distance_11 ?_
  refine G_iconst X (v := 4) dX0_distance_14 rfl ?_
  refine G_aald X (t0 := 3) (b := fAd (eF E) 9) 4 (eC4 _ _ _) rfl rfl (vi rfl) rfl dX0_distance_15 ?_
  refine G_iload_n X dX0_distance_16 rfl 1 rfl ?_
  have hi4 := gI_n h
  have h := gI_k h
  refine G_iald X (j := x1.toNatClampNeg) 9 (eC9 _ _ _) hi4 rfl dX0_distance_17 ?_
  refine G_i2f X dX0_distance_18 ?_
  refine G_ldcf X (v := 1090519040) qw274 dX0_distance_19 ?_
  have hv5 := g32_n h
  refine G_fdiv X dX0_distance_21 hv5 ?_
  refine G_topf (fun v5 ev5 => ?_)
  have h := g32_k ev5 h
  have hv6 := g32_n h
  refine G_fsub X dX0_distance_22 hv6 ?_
  refine G_topf (fun v6 ev6 => ?_)
  have h := g32_k ev6 h
  have hv7 := g32_n h
  refine G_fmul X dX0_distance_23 hv7 ?_
  refine G_topf (fun v7 ev7 => ?_)
  have h := g32_k ev7 h
  have e := so h
  subst e
  exact hQ _ _ dX0_distance_24
theorem m_X0_distance {l : Launch} {F : pfF} (hD : ∀ A, va_D (fA F) (cellsC (fAd F) (fCy F) A)) {x1 : Int32} {x2 : Int32} {A : St} {out : UInt32} (h : f_X0_distance x1 x2 A = some out) : Mt l F cellsC yX0_distance cX0_distance 3 (some .float) rm_X0_distance [.ref (fAd F 3), .int x1, .int x2] A (va_Qf (fun (r : UInt32) (u : St) => r = out ∧ u = A) (Wd cellsC F) (fA F)) := by
  refine Met_f (by decide +kernel) (Nat.le_of_ble_eq_true rfl) hD (fun E el ef X hQ => ?_)
  subst el
  subst ef
  exact b_X0_distance X _ _ _ hQ h
theorem ok_X0_distance : OkV yX0_distance cX0_distance 3 (some .float) 2 := ⟨qw271, qw272, qw3, qw273, by decide, by decide, by decide⟩
noncomputable def f_X0_chanceAtDistance (x0 : UInt32) : Option (UInt64) :=
  g64 (FP.f2d x0) fun v1 =>
  g64 (FP.dmul 4602678819172646912 v1) fun v2 =>
  g64 (FP.f2d x0) fun v3 =>
  cl (f_X2_size v3) fun r4 =>
  g64 (FP.dadd FP.dconst1 r4) fun v6 =>
  g64 (FP.ddiv v2 v6) fun v7 =>
  g64 (FP.dadd 4602678819172646912 v7) fun v8 =>
  some v8
abbrev rm_X0_chanceAtDistance : Room := { frames := 1, cells := 0, slots := 0, locals := 21 }
set_option maxHeartbeats 4000000 in
set_option maxRecDepth 100000 in
theorem b_X0_chanceAtDistance {wl : pfW} {E : pfE} (X : CX wl E cX0_chanceAtDistance RX0 rm_X0_chanceAtDistance 1) (x0 : UInt32) {A : St} {out : UInt64} (hQ : Retd wl E cX0_chanceAtDistance out A) (h : f_X0_chanceAtDistance x0 = some out) : GG wl E A 0 [(0, .float x0)] [] := by
  unfold f_X0_chanceAtDistance at h
  refine G_ldc2d X (v := 4602678819172646912) qw278 dX0_chanceAtDistance_0 ?_
  refine G_ldc2d X (v := 4602678819172646912) qw278 dX0_chanceAtDistance_3 ?_
  refine G_fload_n X dX0_chanceAtDistance_6 rfl 0 rfl ?_
  have hv1 := g64_n h
  refine G_f2d X dX0_chanceAtDistance_7 hv1 ?_
  refine G_topd (fun v1 ev1 => ?_)
  have h := g64_k ev1 h
  have hv2 := g64_n h
  refine G_dmul X dX0_chanceAtDistance_8 hv2 ?_
  refine G_topd (fun v2 ev2 => ?_)
  have h := g64_k ev2 h
  refine G_dconst1 X dX0_chanceAtDistance_9 ?_
  refine G_fload_n X dX0_chanceAtDistance_10 rfl 0 rfl ?_
  have hv3 := g64_n h
  refine G_f2d X dX0_chanceAtDistance_11 hv3 ?_
  refine G_topd (fun v3 ev3 => ?_)
  have h := g64_k ev3 h
  obtain ⟨r4, hz5, h⟩ := cl_k h
  refine G_callS_d X (As := [.double v3]) (rest := [.double FP.dconst1, .double v2, .double 4602678819172646912]) ok_X2_size qw279 ⟨rfl, rfl, Nat.le_of_ble_eq_true rfl, Nat.le_of_ble_eq_true rfl⟩ (m_X2_size X.d hz5) rfl rfl (Nat.le_of_ble_eq_true rfl) dX0_chanceAtDistance_12 ?_
  have hv6 := g64_n h
  refine G_dadd X dX0_chanceAtDistance_15 hv6 ?_
  refine G_topd (fun v6 ev6 => ?_)
  have h := g64_k ev6 h
  have hv7 := g64_n h
  refine G_ddiv X dX0_chanceAtDistance_16 hv7 ?_
  refine G_topd (fun v7 ev7 => ?_)
  have h := g64_k ev7 h
  have hv8 := g64_n h
  refine G_dadd X dX0_chanceAtDistance_17 hv8 ?_
  refine G_topd (fun v8 ev8 => ?_)
  have h := g64_k ev8 h
  have e := so h
  subst e
  exact hQ _ _ dX0_chanceAtDistance_18
theorem m_X0_chanceAtDistance {wl : pfW} {l : Launch} {F : pfF} (hD : ∀ A, va_D (fA F) (wl (fAd F) (fCy F) A)) {x0 : UInt32} {A : St} {out : UInt64} (h : f_X0_chanceAtDistance x0 = some out) : Mt l F wl yX0_chanceAtDistance cX0_chanceAtDistance 1 (some .double) rm_X0_chanceAtDistance [.float x0] A (va_Qd (fun (r : UInt64) (u : St) => r = out ∧ u = A) (Wd wl F) (fA F)) := by
  refine Met_d (by decide +kernel) (Nat.le_of_ble_eq_true rfl) hD (fun E el ef X hQ => ?_)
  subst el
  subst ef
  exact b_X0_chanceAtDistance X _ hQ h
theorem ok_X0_chanceAtDistance : OkS yX0_chanceAtDistance cX0_chanceAtDistance 1 (some .double) 1 := ⟨qw276, qw3, qw277, by decide, by decide, by decide⟩
noncomputable def f_X2_rest_L21 (l0 : UInt64) (l4 : UInt64) (l6 : UInt64) (l8 : Int32) : Option ((UInt64 × Int32) ⊕ (UInt64 × Int32)) :=
  g64 (FP.dmul l4 4602678819172646912) fun v4 =>
  if 0 < (Op.cmpValue (FP.dcmp l6 v4) .g) then
    some (.inr (l6, l8))
  else
    if 1023 ≤ l8 then
      some (.inr (l6, l8))
    else
      g64 (FP.dmul l6 4611686018427387904) fun v7 =>
      bv (l8 + 1) fun v8 =>
      some (.inl (v7, v8))
noncomputable def f_X2_rest_L59 (l0 : UInt64) (l4 : UInt64) (l6 : UInt64) (l9 : Int32) : Option ((UInt64 × UInt64 × Int32) ⊕ (UInt64)) :=
  if l9 < 0 then
    some (.inr l4)
  else
    if (Op.cmpValue (FP.dcmp l4 l6) .l) < 0 then
      g64 (FP.dmul l6 4602678819172646912) fun v13 =>
      bv (l9 + (-1)) fun v14 =>
      some (.inl (l4, v13, v14))
    else
      g64 (FP.dsub l4 l6) fun v15 =>
      g64 (FP.dmul l6 4602678819172646912) fun v16 =>
      bv (l9 + (-1)) fun v17 =>
      some (.inl (v15, v16, v17))
noncomputable def f_X2_rest_X93 (m0 : UInt64) (m4 : UInt64) : Option (UInt64) :=
  if 0 ≤ (Op.cmpValue (FP.dcmp m0 FP.dconst0) .g) then
    some m4
  else
    some (FP.dneg m4)
noncomputable def f_X2_rest_X55 (m0 : UInt64) (m4 : UInt64) (m6 : UInt64) (m8 : Int32) : Option (UInt64) :=
  cl (loop (fun s => f_X2_rest_L59 m0 s.1 s.2.1 s.2.2) (m4, m6, m8)) (fun s => f_X2_rest_X93 m0 s)
noncomputable def f_X2_rest (x0 : UInt64) (x2 : UInt64) : Option (UInt64) :=
  cl (f_X2_size x0) fun r1 =>
  if 0 ≤ (Op.cmpValue (FP.dcmp r1 x2) .g) then
    cl (loop (fun s => f_X2_rest_L21 x0 r1 s.1 s.2) (x2, 0)) (fun s => f_X2_rest_X55 x0 r1 s.1 s.2)
  else
    some x0
abbrev rm_X2_rest : Room := { frames := 1, cells := 0, slots := 0, locals := 21 }
set_option maxHeartbeats 4000000 in
set_option maxRecDepth 100000 in
theorem g_X2_rest_L21 {wl : pfW} {E : pfE} (X : CX wl E cX2_rest RX2 rm_X2_rest 10) {A : St} (l0 : UInt64) (l4 : UInt64) : ∀ (n : Nat) (l6 : UInt64) (l8 : Int32) (ρ : UInt64 × Int32), lp (fun s => f_X2_rest_L21 l0 l4 s.1 s.2) n (l6, l8) = some ρ → (∀ (q6 : UInt64) (q8 : Int32), ρ = (q6, q8) → GG wl E A 55 [(0, .double l0), (4, .double l4), (6, .double q6), (8, .int q8)] []) → GG wl E A 21 [(0, .double l0), (4, .double l4), (6, .double l6), (8, .int l8)] [] := by
  intro n
  induction n with
  | zero =>
    intro l6 l8 ρ h
    cases h
  | succ n ih =>
    intro l6 l8 ρ h0 K
    obtain ⟨x, hb, hx⟩ := lp_step h0
    have h : f_X2_rest_L21 l0 l4 l6 l8 = some x := hb
    unfold f_X2_rest_L21 at h
    clear hb h0
    refine G_dload X dX2_rest_21 2 rfl ?_
    refine G_dload X dX2_rest_23 1 rfl ?_
    refine G_ldc2d X (v := 4602678819172646912) qw248 dX2_rest_25 ?_
    have hv4 := g64_n h
    refine G_dmul X dX2_rest_28 hv4 ?_
    refine G_topd (fun v4 ev4 => ?_)
    have h := g64_k ev4 h
    refine G_dcmp X dX2_rest_29 ?_
    refine G_ifgt X (tgt := 55) dX2_rest_30 (by decide) (fun c5 => ?_) (fun c5 => ?_)
    · have h := if_t c5 h
      exact G_sub [0, 1, 2, 3] rfl (K _ _ (lpr (so h) hx).symm)
    · have h := if_f c5 h
      refine G_iload X dX2_rest_33 3 rfl ?_
      refine G_sipush X (v := 1023) dX2_rest_35 rfl ?_
      refine G_icge X (tgt := 55) dX2_rest_38 (by decide) (fun c6 => ?_) (fun c6 => ?_)
      · have h := if_t c6 h
        exact G_sub [0, 1, 2, 3] rfl (K _ _ (lpr (so h) hx).symm)
      · have h := if_f c6 h
        refine G_dload X dX2_rest_41 2 rfl ?_
        refine G_ldc2d X (v := 4611686018427387904) qw247 dX2_rest_43 ?_
        have hv7 := g64_n h
        refine G_dmul X dX2_rest_46 hv7 ?_
        refine G_topd (fun v7 ev7 => ?_)
        have h := g64_k ev7 h
        refine G_dstore X (lv2 := [(6, .double v7), (0, .double l0), (4, .double l4), (8, .int l8)]) dX2_rest_47 (by decide) rfl ?_
        obtain ⟨v8, ev8⟩ : ∃ y : Int32, y = l8 + 1 := ⟨_, rfl⟩
        have h := bv_k ev8 h
        refine G_iinc X (q := 3) (v := v8) (lv2 := [(8, .int v8), (6, .double v7), (0, .double l0), (4, .double l4)]) dX2_rest_49 rfl (by rw [ev8]; rfl) (by decide) rfl ?_
        refine G_goto X (tgt := 21) dX2_rest_52 (by decide) ?_
        exact G_sub [2, 3, 1, 0] rfl (ih _ _ _ (lpl (so h) hx) K)
set_option maxHeartbeats 4000000 in
set_option maxRecDepth 100000 in
theorem g_X2_rest_L59 {wl : pfW} {E : pfE} (X : CX wl E cX2_rest RX2 rm_X2_rest 10) {A : St} (l0 : UInt64) : ∀ (n : Nat) (l4 : UInt64) (l6 : UInt64) (l9 : Int32) (ρ : UInt64), lp (fun s => f_X2_rest_L59 l0 s.1 s.2.1 s.2.2) n (l4, l6, l9) = some ρ → (∀ (q4 : UInt64), ρ = q4 → GG wl E A 93 [(0, .double l0), (4, .double q4)] []) → GG wl E A 59 [(0, .double l0), (4, .double l4), (6, .double l6), (9, .int l9)] [] := by
  intro n
  induction n with
  | zero =>
    intro l4 l6 l9 ρ h
    cases h
  | succ n ih =>
    intro l4 l6 l9 ρ h0 K
    obtain ⟨x, hb, hx⟩ := lp_step h0
    have h : f_X2_rest_L59 l0 l4 l6 l9 = some x := hb
    unfold f_X2_rest_L59 at h
    clear hb h0
    refine G_iload X dX2_rest_59 3 rfl ?_
    refine G_iflt X (tgt := 93) dX2_rest_61 (by decide) (fun c11 => ?_) (fun c11 => ?_)
    · have h := if_t c11 h
      exact G_sub [0, 1] rfl (K _ (lpr (so h) hx).symm)
    · have h := if_f c11 h
      refine G_dload X dX2_rest_64 1 rfl ?_
      refine G_dload X dX2_rest_66 2 rfl ?_
      refine G_dcmp X dX2_rest_68 ?_
      refine G_iflt X (tgt := 79) dX2_rest_69 (by decide) (fun c12 => ?_) (fun c12 => ?_)
      · have h := if_t c12 h
        refine G_dload X dX2_rest_79 2 rfl ?_
        refine G_ldc2d X (v := 4602678819172646912) qw248 dX2_rest_81 ?_
        have hv13 := g64_n h
        refine G_dmul X dX2_rest_84 hv13 ?_
        refine G_topd (fun v13 ev13 => ?_)
        have h := g64_k ev13 h
        refine G_dstore X (lv2 := [(6, .double v13), (0, .double l0), (4, .double l4), (9, .int l9)]) dX2_rest_85 (by decide) rfl ?_
        obtain ⟨v14, ev14⟩ : ∃ y : Int32, y = l9 + (-1) := ⟨_, rfl⟩
        have h := bv_k ev14 h
        refine G_iinc X (q := 3) (v := v14) (lv2 := [(9, .int v14), (6, .double v13), (0, .double l0), (4, .double l4)]) dX2_rest_87 rfl (by rw [ev14]; rfl) (by decide) rfl ?_
        refine G_goto X (tgt := 59) dX2_rest_90 (by decide) ?_
        exact G_sub [2, 3, 1, 0] rfl (ih _ _ _ _ (lpl (so h) hx) K)
      · have h := if_f c12 h
        refine G_dload X dX2_rest_72 1 rfl ?_
        refine G_dload X dX2_rest_74 2 rfl ?_
        have hv15 := g64_n h
        refine G_dsub X dX2_rest_76 hv15 ?_
        refine G_topd (fun v15 ev15 => ?_)
        have h := g64_k ev15 h
        refine G_dstore X (lv2 := [(4, .double v15), (0, .double l0), (6, .double l6), (9, .int l9)]) dX2_rest_77 (by decide) rfl ?_
        refine G_dload X dX2_rest_79 2 rfl ?_
        refine G_ldc2d X (v := 4602678819172646912) qw248 dX2_rest_81 ?_
        have hv16 := g64_n h
        refine G_dmul X dX2_rest_84 hv16 ?_
        refine G_topd (fun v16 ev16 => ?_)
        have h := g64_k ev16 h
        refine G_dstore X (lv2 := [(6, .double v16), (4, .double v15), (0, .double l0), (9, .int l9)]) dX2_rest_85 (by decide) rfl ?_
        obtain ⟨v17, ev17⟩ : ∃ y : Int32, y = l9 + (-1) := ⟨_, rfl⟩
        have h := bv_k ev17 h
        refine G_iinc X (q := 3) (v := v17) (lv2 := [(9, .int v17), (6, .double v16), (4, .double v15), (0, .double l0)]) dX2_rest_87 rfl (by rw [ev17]; rfl) (by decide) rfl ?_
        refine G_goto X (tgt := 59) dX2_rest_90 (by decide) ?_
        exact G_sub [3, 2, 1, 0] rfl (ih _ _ _ _ (lpl (so h) hx) K)
set_option maxHeartbeats 4000000 in
set_option maxRecDepth 100000 in
theorem b_X2_rest {wl : pfW} {E : pfE} (X : CX wl E cX2_rest RX2 rm_X2_rest 10) (x0 : UInt64) (x2 : UInt64) {A : St} {out : UInt64} (hQ : Retd wl E cX2_rest out A) (h : f_X2_rest x0 x2 = some out) : GG wl E A 0 [(0, .double x0), (2, .double x2)] [] := by
  unfold f_X2_rest at h
  refine G_dload_n X dX2_rest_0 rfl 0 rfl ?_
  obtain ⟨r1, hz2, h⟩ := cl_k h
  refine G_callS_d X (As := [.double x0]) (rest := []) ok_X2_size qw241 ⟨rfl, rfl, Nat.le_of_ble_eq_true rfl, Nat.le_of_ble_eq_true rfl⟩ (m_X2_size X.d hz2) rfl rfl (Nat.le_of_ble_eq_true rfl) dX2_rest_1 ?_
  refine G_dstore X (lv2 := [(4, .double r1), (0, .double x0), (2, .double x2)]) dX2_rest_4 (by decide) rfl ?_
  refine G_dload X dX2_rest_6 0 rfl ?_
  refine G_dload_n X dX2_rest_8 rfl 2 rfl ?_
  refine G_dcmp X dX2_rest_9 ?_
  refine G_ifge X (tgt := 15) dX2_rest_10 (by decide) (fun c3 => ?_) (fun c3 => ?_)
  · have h := if_t c3 h
    refine G_dload_n X dX2_rest_15 rfl 2 rfl ?_
    refine G_dstore X (lv2 := [(6, .double x2), (4, .double r1), (0, .double x0), (2, .double x2)]) dX2_rest_16 (by decide) rfl ?_
    refine G_iconst X (v := 0) dX2_rest_18 rfl ?_
    refine G_istore X (lv2 := [(8, .int 0), (6, .double x2), (4, .double r1), (0, .double x0), (2, .double x2)]) dX2_rest_19 (by decide) rfl ?_
    obtain ⟨ρ, hl, h⟩ := cl_k h
    obtain ⟨n, hl⟩ := loop_some hl
    refine G_sub [3, 2, 1, 0] rfl (g_X2_rest_L21 X x0 r1 n _ _ ρ hl ?_)
    intro v10 v9 e
    subst e
    have h : f_X2_rest_X55 x0 r1 v10 v9 = some _ := h
    unfold f_X2_rest_X55 at h
    refine G_iload X dX2_rest_55 3 rfl ?_
    refine G_istore X (lv2 := [(9, .int v9), (0, .double x0), (4, .double r1), (6, .double v10), (8, .int v9)]) dX2_rest_57 (by decide) rfl ?_
    obtain ⟨ρ, hl, h⟩ := cl_k h
    obtain ⟨n, hl⟩ := loop_some hl
    refine G_sub [1, 2, 3, 0] rfl (g_X2_rest_L59 X x0 n _ _ _ ρ hl ?_)
    intro v18 e
    rw [e] at h
    have h : f_X2_rest_X93 x0 v18 = some _ := h
    unfold f_X2_rest_X93 at h
    refine G_dload_n X dX2_rest_93 rfl 0 rfl ?_
    refine G_dconst0 X dX2_rest_94 ?_
    refine G_dcmp X dX2_rest_95 ?_
    refine G_ifge X (tgt := 105) dX2_rest_96 (by decide) (fun c19 => ?_) (fun c19 => ?_)
    · have h := if_t c19 h
      refine G_dload X dX2_rest_105 1 rfl ?_
      have e := so h
      subst e
      exact hQ _ _ dX2_rest_107
    · have h := if_f c19 h
      refine G_dload X dX2_rest_99 1 rfl ?_
      refine G_dneg X dX2_rest_101 ?_
      refine G_goto X (tgt := 107) dX2_rest_102 (by decide) ?_
      have e := so h
      subst e
      exact hQ _ _ dX2_rest_107
  · have h := if_f c3 h
    refine G_dload_n X dX2_rest_13 rfl 1 rfl ?_
    have e := so h
    subst e
    exact hQ _ _ dX2_rest_14
theorem m_X2_rest {wl : pfW} {l : Launch} {F : pfF} (hD : ∀ A, va_D (fA F) (wl (fAd F) (fCy F) A)) {x0 : UInt64} {x2 : UInt64} {A : St} {out : UInt64} (h : f_X2_rest x0 x2 = some out) : Mt l F wl yX2_rest cX2_rest 10 (some .double) rm_X2_rest [.double x0, .double x2] A (va_Qd (fun (r : UInt64) (u : St) => r = out ∧ u = A) (Wd wl F) (fA F)) := by
  refine Met_d (by decide +kernel) (Nat.le_of_ble_eq_true rfl) hD (fun E el ef X hQ => ?_)
  subst el
  subst ef
  exact b_X2_rest X _ _ hQ h
theorem ok_X2_rest : OkS yX2_rest cX2_rest 10 (some .double) 2 := ⟨qw286, qw7, qw287, by decide, by decide, by decide⟩
noncomputable def f_X0_tellsAt (x1 : Int32) (x2 : Int32) (A : St) : Option (UInt64) :=
  cl (f_X0_steepness x1 A) fun r1 =>
  g64 (FP.f2d r1) fun v3 =>
  cl (f_X0_distance x1 x2 A) fun r4 =>
  cl (f_X0_chanceAtDistance r4) fun r6 =>
  g64 (FP.dmul v3 v3) fun v8 =>
  g64 (FP.dmul v8 r6) fun v9 =>
  g64 (FP.dsub FP.dconst1 r6) fun v10 =>
  g64 (FP.dmul v9 v10) fun v11 =>
  gI x1 12 <|
  bv (A.1 7 x1.toNatClampNeg) fun v13 =>
  gI x1 12 <|
  bv (A.1 5 x1.toNatClampNeg) fun v15 =>
  if v15 = 1 then
    g64 (FP.dmul v11 4608308318706860032) fun v37 =>
    some v37
  else
    if v15 = 2 then
      g64 (FP.dmul v11 r6) fun v36 =>
      some v36
    else
      if v15 = 3 then
        g64 (FP.dmul v11 4608308318706860032) fun v33 =>
        g64 (FP.ddiv (FP.i2d v13) 4634204016564240384) fun v34 =>
        g64 (FP.dadd v33 v34) fun v35 =>
        some v35
      else
        if v15 = 4 then
          g64 (FP.dmul v11 r6) fun v29 =>
          g32 (FP.d2f v29) fun v30 =>
          g32 (FP.fmul v30 1050253722) fun v31 =>
          g64 (FP.f2d v31) fun v32 =>
          some v32
        else
          if v15 = 5 then
            g64 (FP.ddiv (FP.i2d v13) 4625196817309499392) fun v21 =>
            g64 (FP.f2d r4) fun v22 =>
            cl (f_X2_size v22) fun r23 =>
            cl (f_X2_rest r23 4604930618986332160) fun r25 =>
            g64 (FP.ddiv r25 4616189618054758400) fun v27 =>
            g64 (FP.dadd v21 v27) fun v28 =>
            some v28
          else
            some v11
abbrev rm_X0_tellsAt : Room := { frames := 2, cells := 0, slots := 0, locals := 50 }
set_option maxHeartbeats 4000000 in
set_option maxRecDepth 100000 in
theorem b_X0_tellsAt {E : pfE} (X : CX cellsC E cX0_tellsAt RX0 rm_X0_tellsAt 11) (x1 : Int32) (x2 : Int32) (A : St) {out : UInt64} (hQ : Retd cellsC E cX0_tellsAt out A) (h : f_X0_tellsAt x1 x2 A = some out) : GG cellsC E A 0 [(0, .ref (fAd (eF E) 3)), (1, .int x1), (2, .int x2)] [] := by
  unfold f_X0_tellsAt at h
  refine G_aload_n X dX0_tellsAt_0 rfl 0 rfl ?_
  refine G_iload_n X dX0_tellsAt_1 rfl 1 rfl ?_
  obtain ⟨r1, hz2, h⟩ := cl_k h
  refine G_callV_f X (As := [.int x1]) (rest := []) ok_X0_steepness qw269 3 (eC3 _ _ _) rfl rfl ⟨rfl, rfl, Nat.le_of_ble_eq_true rfl, Nat.le_of_ble_eq_true rfl⟩ (m_X0_steepness X.d hz2) rfl rfl (Nat.le_of_ble_eq_true rfl) dX0_tellsAt_2 ?_
  have hv3 := g64_n h
  refine G_f2d X dX0_tellsAt_5 hv3 ?_
  refine G_topd (fun v3 ev3 => ?_)
  have h := g64_k ev3 h
  refine G_dstore_n X (lv2 := [(3, .double v3), (0, .ref (fAd (eF E) 3)), (1, .int x1), (2, .int x2)]) dX0_tellsAt_6 rfl (by decide) rfl ?_
  refine G_aload_n X dX0_tellsAt_7 rfl 1 rfl ?_
  refine G_iload_n X dX0_tellsAt_8 rfl 2 rfl ?_
  refine G_iload_n X dX0_tellsAt_9 rfl 3 rfl ?_
  obtain ⟨r4, hz5, h⟩ := cl_k h
  refine G_callV_f X (As := [.int x1, .int x2]) (rest := []) ok_X0_distance qw270 3 (eC3 _ _ _) rfl rfl ⟨rfl, rfl, Nat.le_of_ble_eq_true rfl, Nat.le_of_ble_eq_true rfl⟩ (m_X0_distance X.d hz5) rfl rfl (Nat.le_of_ble_eq_true rfl) dX0_tellsAt_10 ?_
  refine G_fstore X (lv2 := [(5, .float r4), (3, .double v3), (0, .ref (fAd (eF E) 3)), (1, .int x1), (2, .int x2)]) dX0_tellsAt_13 (by decide) rfl ?_
  refine G_fload X dX0_tellsAt_15 0 rfl ?_
  obtain ⟨r6, hz7, h⟩ := cl_k h
  refine G_callS_d X (As := [.float r4]) (rest := []) ok_X0_chanceAtDistance qw275 ⟨rfl, rfl, Nat.le_of_ble_eq_true rfl, Nat.le_of_ble_eq_true rfl⟩ (m_X0_chanceAtDistance X.d hz7) rfl rfl (Nat.le_of_ble_eq_true rfl) dX0_tellsAt_17 ?_
  refine G_dstore X (lv2 := [(6, .double r6), (5, .float r4), (3, .double v3), (0, .ref (fAd (eF E) 3)), (1, .int x1), (2, .int x2)]) dX0_tellsAt_20 (by decide) rfl ?_
  refine G_dload_n X dX0_tellsAt_22 rfl 2 rfl ?_
  refine G_dload_n X dX0_tellsAt_23 rfl 2 rfl ?_
  have hv8 := g64_n h
  refine G_dmul X dX0_tellsAt_24 hv8 ?_
  refine G_topd (fun v8 ev8 => ?_)
  have h := g64_k ev8 h
  refine G_dload X dX0_tellsAt_25 0 rfl ?_
  have hv9 := g64_n h
  refine G_dmul X dX0_tellsAt_27 hv9 ?_
  refine G_topd (fun v9 ev9 => ?_)
  have h := g64_k ev9 h
  refine G_dconst1 X dX0_tellsAt_28 ?_
  refine G_dload X dX0_tellsAt_29 0 rfl ?_
  have hv10 := g64_n h
  refine G_dsub X dX0_tellsAt_31 hv10 ?_
  refine G_topd (fun v10 ev10 => ?_)
  have h := g64_k ev10 h
  have hv11 := g64_n h
  refine G_dmul X dX0_tellsAt_32 hv11 ?_
  refine G_topd (fun v11 ev11 => ?_)
  have h := g64_k ev11 h
  refine G_dstore X (lv2 := [(8, .double v11), (6, .double r6), (5, .float r4), (3, .double v3), (0, .ref (fAd (eF E) 3)), (1, .int x1), (2, .int x2)]) dX0_tellsAt_33 (by decide) rfl ?_
  refine G_aload_n X dX0_tellsAt_35 rfl 4 rfl ?_
  refine G_getf X inX0 3 (eC3 _ _ _) rfl 1 (by decide) qw38 rfl dX0_tellsAt_36 ?_
  refine G_iconst X (v := 2) dX0_tellsAt_39 rfl ?_
  refine G_aald X (t0 := 3) (b := fAd (eF E) 7) 4 (eC4 _ _ _) rfl rfl (vi rfl) rfl dX0_tellsAt_40 ?_
  refine G_iload_n X dX0_tellsAt_41 rfl 5 rfl ?_
  have hi12 := gI_n h
  have h := gI_k h
  refine G_iald X (j := x1.toNatClampNeg) 7 (eC7 _ _ _) hi12 rfl dX0_tellsAt_42 ?_
  refine G_topi (fun v13 ev13 => ?_)
  have h := bv_k ev13 h
  refine G_istore X (lv2 := [(10, .int v13), (8, .double v11), (6, .double r6), (5, .float r4), (3, .double v3), (0, .ref (fAd (eF E) 3)), (1, .int x1), (2, .int x2)]) dX0_tellsAt_43 (by decide) rfl ?_
  refine G_aload_n X dX0_tellsAt_45 rfl 5 rfl ?_
  refine G_getf X inX0 3 (eC3 _ _ _) rfl 1 (by decide) qw38 rfl dX0_tellsAt_46 ?_
  refine G_iconst X (v := 0) dX0_tellsAt_49 rfl ?_
  refine G_aald X (t0 := 3) (b := fAd (eF E) 5) 4 (eC4 _ _ _) rfl rfl (vi rfl) rfl dX0_tellsAt_50 ?_
  refine G_iload_n X dX0_tellsAt_51 rfl 6 rfl ?_
  have hi14 := gI_n h
  have h := gI_k h
  refine G_iald X (j := x1.toNatClampNeg) 5 (eC5 _ _ _) hi14 rfl dX0_tellsAt_52 ?_
  refine G_topi (fun v15 ev15 => ?_)
  have h := bv_k ev15 h
  by_cases c16 : v15 = 1
  · have h := if_t c16 h
    refine G_tabIn X dX0_tellsAt_53 (by rw [c16]; decide) (by rw [c16]; decide) (off := 35) (by rw [c16]; rfl) (tgt := 88) (by decide) ?_
    refine G_dload X dX0_tellsAt_88 1 rfl ?_
    refine G_ldc2d X (v := 4608308318706860032) qw280 dX0_tellsAt_90 ?_
    have hv37 := g64_n h
    refine G_dmul X dX0_tellsAt_93 hv37 ?_
    refine G_topd (fun v37 ev37 => ?_)
    have h := g64_k ev37 h
    have e := so h
    subst e
    exact hQ _ _ dX0_tellsAt_94
  · have h := if_f c16 h
    by_cases c17 : v15 = 2
    · have h := if_t c17 h
      refine G_tabIn X dX0_tellsAt_53 (by rw [c17]; decide) (by rw [c17]; decide) (off := 42) (by rw [c17]; rfl) (tgt := 95) (by decide) ?_
      refine G_dload X dX0_tellsAt_95 1 rfl ?_
      refine G_dload X dX0_tellsAt_97 2 rfl ?_
      have hv36 := g64_n h
      refine G_dmul X dX0_tellsAt_99 hv36 ?_
      refine G_topd (fun v36 ev36 => ?_)
      have h := g64_k ev36 h
      have e := so h
      subst e
      exact hQ _ _ dX0_tellsAt_100
    · have h := if_f c17 h
      by_cases c18 : v15 = 3
      · have h := if_t c18 h
        refine G_tabIn X dX0_tellsAt_53 (by rw [c18]; decide) (by rw [c18]; decide) (off := 48) (by rw [c18]; rfl) (tgt := 101) (by decide) ?_
        refine G_dload X dX0_tellsAt_101 1 rfl ?_
        refine G_ldc2d X (v := 4608308318706860032) qw280 dX0_tellsAt_103 ?_
        have hv33 := g64_n h
        refine G_dmul X dX0_tellsAt_106 hv33 ?_
        refine G_topd (fun v33 ev33 => ?_)
        have h := g64_k ev33 h
        refine G_iload X dX0_tellsAt_107 0 rfl ?_
        refine G_i2d X dX0_tellsAt_109 ?_
        refine G_ldc2d X (v := 4634204016564240384) qw281 dX0_tellsAt_110 ?_
        have hv34 := g64_n h
        refine G_ddiv X dX0_tellsAt_113 hv34 ?_
        refine G_topd (fun v34 ev34 => ?_)
        have h := g64_k ev34 h
        have hv35 := g64_n h
        refine G_dadd X dX0_tellsAt_114 hv35 ?_
        refine G_topd (fun v35 ev35 => ?_)
        have h := g64_k ev35 h
        have e := so h
        subst e
        exact hQ _ _ dX0_tellsAt_115
      · have h := if_f c18 h
        by_cases c19 : v15 = 4
        · have h := if_t c19 h
          refine G_tabIn X dX0_tellsAt_53 (by rw [c19]; decide) (by rw [c19]; decide) (off := 63) (by rw [c19]; rfl) (tgt := 116) (by decide) ?_
          refine G_dload X dX0_tellsAt_116 1 rfl ?_
          refine G_dload X dX0_tellsAt_118 2 rfl ?_
          have hv29 := g64_n h
          refine G_dmul X dX0_tellsAt_120 hv29 ?_
          refine G_topd (fun v29 ev29 => ?_)
          have h := g64_k ev29 h
          have hv30 := g32_n h
          refine G_d2f X dX0_tellsAt_121 hv30 ?_
          refine G_topf (fun v30 ev30 => ?_)
          have h := g32_k ev30 h
          refine G_ldcf X (v := 1050253722) qw282 dX0_tellsAt_122 ?_
          have hv31 := g32_n h
          refine G_fmul X dX0_tellsAt_124 hv31 ?_
          refine G_topf (fun v31 ev31 => ?_)
          have h := g32_k ev31 h
          have hv32 := g64_n h
          refine G_f2d X dX0_tellsAt_125 hv32 ?_
          refine G_topd (fun v32 ev32 => ?_)
          have h := g64_k ev32 h
          have e := so h
          subst e
          exact hQ _ _ dX0_tellsAt_126
        · have h := if_f c19 h
          by_cases c20 : v15 = 5
          · have h := if_t c20 h
            refine G_tabIn X dX0_tellsAt_53 (by rw [c20]; decide) (by rw [c20]; decide) (off := 74) (by rw [c20]; rfl) (tgt := 127) (by decide) ?_
            refine G_iload X dX0_tellsAt_127 0 rfl ?_
            refine G_i2d X dX0_tellsAt_129 ?_
            refine G_ldc2d X (v := 4625196817309499392) qw283 dX0_tellsAt_130 ?_
            have hv21 := g64_n h
            refine G_ddiv X dX0_tellsAt_133 hv21 ?_
            refine G_topd (fun v21 ev21 => ?_)
            have h := g64_k ev21 h
            refine G_fload X dX0_tellsAt_134 3 rfl ?_
            have hv22 := g64_n h
            refine G_f2d X dX0_tellsAt_136 hv22 ?_
            refine G_topd (fun v22 ev22 => ?_)
            have h := g64_k ev22 h
            obtain ⟨r23, hz24, h⟩ := cl_k h
            refine G_callS_d X (As := [.double v22]) (rest := [.double v21]) ok_X2_size qw279 ⟨rfl, rfl, Nat.le_of_ble_eq_true rfl, Nat.le_of_ble_eq_true rfl⟩ (m_X2_size X.d hz24) rfl rfl (Nat.le_of_ble_eq_true rfl) dX0_tellsAt_137 ?_
            refine G_ldc2d X (v := 4604930618986332160) qw284 dX0_tellsAt_140 ?_
            obtain ⟨r25, hz26, h⟩ := cl_k h
            refine G_callS_d X (As := [.double r23, .double 4604930618986332160]) (rest := [.double v21]) ok_X2_rest qw285 ⟨rfl, rfl, Nat.le_of_ble_eq_true rfl, Nat.le_of_ble_eq_true rfl⟩ (m_X2_rest X.d hz26) rfl rfl (Nat.le_of_ble_eq_true rfl) dX0_tellsAt_143 ?_
            refine G_ldc2d X (v := 4616189618054758400) qw288 dX0_tellsAt_146 ?_
            have hv27 := g64_n h
            refine G_ddiv X dX0_tellsAt_149 hv27 ?_
            refine G_topd (fun v27 ev27 => ?_)
            have h := g64_k ev27 h
            have hv28 := g64_n h
            refine G_dadd X dX0_tellsAt_150 hv28 ?_
            refine G_topd (fun v28 ev28 => ?_)
            have h := g64_k ev28 h
            have e := so h
            subst e
            exact hQ _ _ dX0_tellsAt_151
          · have h := if_f c20 h
            refine G_tabOut X dX0_tellsAt_53 (by have t0 := lv_neT (k := 1) (a := 1) c16 (by decide); have t1 := lv_neT (k := 2) (a := 2) c17 (by decide); have t2 := lv_neT (k := 3) (a := 3) c18 (by decide); have t3 := lv_neT (k := 4) (a := 4) c19 (by decide); have t4 := lv_neT (k := 5) (a := 5) c20 (by decide); omega) (tgt := 152) (by decide) ?_
            refine G_dload X dX0_tellsAt_152 1 rfl ?_
            have e := so h
            subst e
            exact hQ _ _ dX0_tellsAt_154
theorem m_X0_tellsAt {l : Launch} {F : pfF} (hD : ∀ A, va_D (fA F) (cellsC (fAd F) (fCy F) A)) {x1 : Int32} {x2 : Int32} {A : St} {out : UInt64} (h : f_X0_tellsAt x1 x2 A = some out) : Mt l F cellsC yX0_tellsAt cX0_tellsAt 11 (some .double) rm_X0_tellsAt [.ref (fAd F 3), .int x1, .int x2] A (va_Qd (fun (r : UInt64) (u : St) => r = out ∧ u = A) (Wd cellsC F) (fA F)) := by
  refine Met_d (by decide +kernel) (Nat.le_of_ble_eq_true rfl) hD (fun E el ef X hQ => ?_)
  subst el
  subst ef
  exact b_X0_tellsAt X _ _ _ hQ h
theorem ok_X0_tellsAt : OkV yX0_tellsAt cX0_tellsAt 11 (some .double) 2 := ⟨qw266, qw267, qw3, qw268, by decide, by decide, by decide⟩
noncomputable def f_X2_doubleBits (x0 : UInt64) : Option (Int64) :=
  cl (f_X2_size x0) fun r1 =>
  cl (f_X2_sizeBits r1 52 1023) fun r3 =>
  cl (f_X2_isMinus x0) fun r5 =>
  if (bI r5) = 0 then
    some r3
  else
    some (r3 ||| (-9223372036854775808))
abbrev rm_X2_doubleBits : Room := { frames := 1, cells := 0, slots := 0, locals := 27 }
set_option maxHeartbeats 4000000 in
set_option maxRecDepth 100000 in
theorem b_X2_doubleBits {wl : pfW} {E : pfE} (X : CX wl E cX2_doubleBits RX2 rm_X2_doubleBits 4) (x0 : UInt64) {A : St} {out : Int64} (hQ : Retl wl E cX2_doubleBits out A) (h : f_X2_doubleBits x0 = some out) : GG wl E A 0 [(0, .double x0)] [] := by
  unfold f_X2_doubleBits at h
  refine G_dload_n X dX2_doubleBits_0 rfl 0 rfl ?_
  obtain ⟨r1, hz2, h⟩ := cl_k h
  refine G_callS_d X (As := [.double x0]) (rest := []) ok_X2_size qw241 ⟨rfl, rfl, Nat.le_of_ble_eq_true rfl, Nat.le_of_ble_eq_true rfl⟩ (m_X2_size X.d hz2) rfl rfl (Nat.le_of_ble_eq_true rfl) dX2_doubleBits_1 ?_
  refine G_bipush X (v := 52) dX2_doubleBits_4 rfl ?_
  refine G_sipush X (v := 1023) dX2_doubleBits_6 rfl ?_
  obtain ⟨r3, hz4, h⟩ := cl_k h
  refine G_callS_l X (As := [.double r1, .int 52, .int 1023]) (rest := []) ok_X2_sizeBits qw244 ⟨rfl, rfl, Nat.le_of_ble_eq_true rfl, Nat.le_of_ble_eq_true rfl⟩ (m_X2_sizeBits X.d hz4) rfl rfl (Nat.le_of_ble_eq_true rfl) dX2_doubleBits_9 ?_
  refine G_lstore_n X (lv2 := [(2, .long r3), (0, .double x0)]) dX2_doubleBits_12 rfl (by decide) rfl ?_
  refine G_dload_n X dX2_doubleBits_13 rfl 1 rfl ?_
  obtain ⟨r5, hz6, h⟩ := cl_k h
  refine G_callS_i X (As := [.double x0]) (rest := []) ok_X2_isMinus qw249 ⟨rfl, rfl, Nat.le_of_ble_eq_true rfl, Nat.le_of_ble_eq_true rfl⟩ (m_X2_isMinus X.d hz6) rfl rfl (Nat.le_of_ble_eq_true rfl) dX2_doubleBits_14 ?_
  refine G_ifeq X (tgt := 28) dX2_doubleBits_17 (by decide) (fun c7 => ?_) (fun c7 => ?_)
  · have h := if_t c7 h
    refine G_lload_n X dX2_doubleBits_28 rfl 0 rfl ?_
    have e := so h
    subst e
    exact hQ _ _ dX2_doubleBits_29
  · have h := if_f c7 h
    refine G_lload_n X dX2_doubleBits_20 rfl 0 rfl ?_
    refine G_ldc2 X (v := (-9223372036854775808)) qw292 dX2_doubleBits_21 ?_
    refine G_lor X dX2_doubleBits_24 ?_
    refine G_goto X (tgt := 29) dX2_doubleBits_25 (by decide) ?_
    have e := so h
    subst e
    exact hQ _ _ dX2_doubleBits_29
theorem m_X2_doubleBits {wl : pfW} {l : Launch} {F : pfF} (hD : ∀ A, va_D (fA F) (wl (fAd F) (fCy F) A)) {x0 : UInt64} {A : St} {out : Int64} (h : f_X2_doubleBits x0 = some out) : Mt l F wl yX2_doubleBits cX2_doubleBits 4 (some .long) rm_X2_doubleBits [.double x0] A (va_Ql (fun (r : Int64) (u : St) => r = out ∧ u = A) (Wd wl F) (fA F)) := by
  refine Met_l (by decide +kernel) (Nat.le_of_ble_eq_true rfl) hD (fun E el ef X hQ => ?_)
  subst el
  subst ef
  exact b_X2_doubleBits X _ hQ h
theorem ok_X2_doubleBits : OkS yX2_doubleBits cX2_doubleBits 4 (some .long) 1 := ⟨qw290, qw7, qw291, by decide, by decide, by decide⟩
noncomputable def f_X5_tells (x1 : Int32) (x2 : Int32) (A : St) : Option (Int64 × St) :=
  cl (f_X0_has x1 A) fun r1 =>
  if (bI r1) = 0 then
    cl2 (f_X5_longFinding 0 A) fun r4 A6 =>
    some (r4, A6)
  else
    cl (f_X5_isAbility x2) fun r7 =>
    if (bI r7) = 0 then
      cl2 (f_X5_longFinding 0 A) fun r14 A16 =>
      some (r14, A16)
    else
      cl (f_X0_tellsAt x1 x2 A) fun r10 =>
      cl (f_X2_doubleBits r10) fun r12 =>
      some (r12, A)
abbrev rm_X5_tells : Room := { frames := 3, cells := 0, slots := 0, locals := 80 }
set_option maxHeartbeats 4000000 in
set_option maxRecDepth 100000 in
theorem b_X5_tells {E : pfE} (X : CX cellsC E cX5_tells RX5 rm_X5_tells 3) (x1 : Int32) (x2 : Int32) (A : St) {out : Int64 × St} (hQ : Retl cellsC E cX5_tells out.1 out.2) (h : f_X5_tells x1 x2 A = some out) : GG cellsC E A 0 [(0, .ref (fAd (eF E) 0)), (1, .int x1), (2, .int x2)] [] := by
  unfold f_X5_tells at h
  refine G_aload_n X dX5_tells_0 rfl 0 rfl ?_
  refine G_getf X inX5 0 (eC0 _ _ _) rfl 2 (by decide) qw157 rfl dX5_tells_1 ?_
  refine G_iload_n X dX5_tells_4 rfl 1 rfl ?_
  obtain ⟨r1, hz2, h⟩ := cl_k h
  refine G_callV_i X (As := [.int x1]) (rest := []) ok_X0_has qw200 3 (eC3 _ _ _) rfl rfl ⟨rfl, rfl, Nat.le_of_ble_eq_true rfl, Nat.le_of_ble_eq_true rfl⟩ (m_X0_has X.d hz2) rfl rfl (Nat.le_of_ble_eq_true rfl) dX5_tells_5 ?_
  refine G_ifeq X (tgt := 18) dX5_tells_8 (by decide) (fun c3 => ?_) (fun c3 => ?_)
  · have h := if_t c3 h
    refine G_aload_n X dX5_tells_18 rfl 0 rfl ?_
    refine G_iconst X (v := 0) dX5_tells_19 rfl ?_
    obtain ⟨r4, A6, hz5, h⟩ := cl2_k h
    refine G_callV_l X (As := [.int 0]) (rest := []) ok_X5_longFinding qw260 0 (eC0 _ _ _) rfl rfl ⟨rfl, rfl, Nat.le_of_ble_eq_true rfl, Nat.le_of_ble_eq_true rfl⟩ (m_X5_longFinding X.d hz5) rfl rfl (Nat.le_of_ble_eq_true rfl) dX5_tells_20 ?_
    have e := so h
    subst e
    exact hQ _ _ dX5_tells_23
  · have h := if_f c3 h
    refine G_iload_n X dX5_tells_11 rfl 2 rfl ?_
    obtain ⟨r7, hz8, h⟩ := cl_k h
    refine G_callS_i X (As := [.int x2]) (rest := []) ok_X5_isAbility qw257 ⟨rfl, rfl, Nat.le_of_ble_eq_true rfl, Nat.le_of_ble_eq_true rfl⟩ (m_X5_isAbility X.d hz8) rfl rfl (Nat.le_of_ble_eq_true rfl) dX5_tells_12 ?_
    refine G_ifne X (tgt := 24) dX5_tells_15 (by decide) (fun c9 => ?_) (fun c9 => ?_)
    · have h := if_t c9 h
      refine G_aload_n X dX5_tells_18 rfl 0 rfl ?_
      refine G_iconst X (v := 0) dX5_tells_19 rfl ?_
      obtain ⟨r14, A16, hz15, h⟩ := cl2_k h
      refine G_callV_l X (As := [.int 0]) (rest := []) ok_X5_longFinding qw260 0 (eC0 _ _ _) rfl rfl ⟨rfl, rfl, Nat.le_of_ble_eq_true rfl, Nat.le_of_ble_eq_true rfl⟩ (m_X5_longFinding X.d hz15) rfl rfl (Nat.le_of_ble_eq_true rfl) dX5_tells_20 ?_
      have e := so h
      subst e
      exact hQ _ _ dX5_tells_23
    · have h := if_f c9 h
      refine G_aload_n X dX5_tells_24 rfl 0 rfl ?_
      refine G_getf X inX5 0 (eC0 _ _ _) rfl 2 (by decide) qw157 rfl dX5_tells_25 ?_
      refine G_iload_n X dX5_tells_28 rfl 1 rfl ?_
      refine G_iload_n X dX5_tells_29 rfl 2 rfl ?_
      obtain ⟨r10, hz11, h⟩ := cl_k h
      refine G_callV_d X (As := [.int x1, .int x2]) (rest := []) ok_X0_tellsAt qw265 3 (eC3 _ _ _) rfl rfl ⟨rfl, rfl, Nat.le_of_ble_eq_true rfl, Nat.le_of_ble_eq_true rfl⟩ (m_X0_tellsAt X.d hz11) rfl rfl (Nat.le_of_ble_eq_true rfl) dX5_tells_30 ?_
      obtain ⟨r12, hz13, h⟩ := cl_k h
      refine G_callS_l X (As := [.double r10]) (rest := []) ok_X2_doubleBits qw289 ⟨rfl, rfl, Nat.le_of_ble_eq_true rfl, Nat.le_of_ble_eq_true rfl⟩ (m_X2_doubleBits X.d hz13) rfl rfl (Nat.le_of_ble_eq_true rfl) dX5_tells_33 ?_
      have e := so h
      subst e
      exact hQ _ _ dX5_tells_36
theorem m_X5_tells {l : Launch} {F : pfF} (hD : ∀ A, va_D (fA F) (cellsC (fAd F) (fCy F) A)) {x1 : Int32} {x2 : Int32} {A : St} {out : Int64 × St} (h : f_X5_tells x1 x2 A = some out) : Mt l F cellsC yX5_tells cX5_tells 3 (some .long) rm_X5_tells [.ref (fAd F 0), .int x1, .int x2] A (va_Ql (fun (r : Int64) (u : St) => r = out.1 ∧ u = out.2) (Wd cellsC F) (fA F)) := by
  refine Met_l (by decide +kernel) (Nat.le_of_ble_eq_true rfl) hD (fun E el ef X hQ => ?_)
  subst el
  subst ef
  exact b_X5_tells X _ _ _ hQ h
theorem ok_X5_tells : OkV yX5_tells cX5_tells 3 (some .long) 2 := ⟨qw254, qw255, qw1, qw256, by decide, by decide, by decide⟩
noncomputable def f_X0_chanceAt (x1 : Int32) (x2 : Int32) (A : St) : Option (UInt64) :=
  cl (f_X0_distance x1 x2 A) fun r1 =>
  cl (f_X0_chanceAtDistance r1) fun r3 =>
  some r3
abbrev rm_X0_chanceAt : Room := { frames := 2, cells := 0, slots := 0, locals := 43 }
set_option maxHeartbeats 4000000 in
set_option maxRecDepth 100000 in
theorem b_X0_chanceAt {E : pfE} (X : CX cellsC E cX0_chanceAt RX0 rm_X0_chanceAt 3) (x1 : Int32) (x2 : Int32) (A : St) {out : UInt64} (hQ : Retd cellsC E cX0_chanceAt out A) (h : f_X0_chanceAt x1 x2 A = some out) : GG cellsC E A 0 [(0, .ref (fAd (eF E) 3)), (1, .int x1), (2, .int x2)] [] := by
  unfold f_X0_chanceAt at h
  refine G_aload_n X dX0_chanceAt_0 rfl 0 rfl ?_
  refine G_iload_n X dX0_chanceAt_1 rfl 1 rfl ?_
  refine G_iload_n X dX0_chanceAt_2 rfl 2 rfl ?_
  obtain ⟨r1, hz2, h⟩ := cl_k h
  refine G_callV_f X (As := [.int x1, .int x2]) (rest := []) ok_X0_distance qw270 3 (eC3 _ _ _) rfl rfl ⟨rfl, rfl, Nat.le_of_ble_eq_true rfl, Nat.le_of_ble_eq_true rfl⟩ (m_X0_distance X.d hz2) rfl rfl (Nat.le_of_ble_eq_true rfl) dX0_chanceAt_3 ?_
  obtain ⟨r3, hz4, h⟩ := cl_k h
  refine G_callS_d X (As := [.float r1]) (rest := []) ok_X0_chanceAtDistance qw275 ⟨rfl, rfl, Nat.le_of_ble_eq_true rfl, Nat.le_of_ble_eq_true rfl⟩ (m_X0_chanceAtDistance X.d hz4) rfl rfl (Nat.le_of_ble_eq_true rfl) dX0_chanceAt_6 ?_
  have e := so h
  subst e
  exact hQ _ _ dX0_chanceAt_9
theorem m_X0_chanceAt {l : Launch} {F : pfF} (hD : ∀ A, va_D (fA F) (cellsC (fAd F) (fCy F) A)) {x1 : Int32} {x2 : Int32} {A : St} {out : UInt64} (h : f_X0_chanceAt x1 x2 A = some out) : Mt l F cellsC yX0_chanceAt cX0_chanceAt 3 (some .double) rm_X0_chanceAt [.ref (fAd F 3), .int x1, .int x2] A (va_Qd (fun (r : UInt64) (u : St) => r = out ∧ u = A) (Wd cellsC F) (fA F)) := by
  refine Met_d (by decide +kernel) (Nat.le_of_ble_eq_true rfl) hD (fun E el ef X hQ => ?_)
  subst el
  subst ef
  exact b_X0_chanceAt X _ _ _ hQ h
theorem ok_X0_chanceAt : OkV yX0_chanceAt cX0_chanceAt 3 (some .double) 2 := ⟨qw298, qw299, qw3, qw300, by decide, by decide, by decide⟩
noncomputable def f_X5_chance (x1 : Int32) (x2 : Int32) (A : St) : Option (Int64 × St) :=
  cl (f_X0_has x1 A) fun r1 =>
  if (bI r1) = 0 then
    cl2 (f_X5_longFinding 0 A) fun r4 A6 =>
    some (r4, A6)
  else
    cl (f_X5_isAbility x2) fun r7 =>
    if (bI r7) = 0 then
      cl2 (f_X5_longFinding 0 A) fun r14 A16 =>
      some (r14, A16)
    else
      cl (f_X0_chanceAt x1 x2 A) fun r10 =>
      cl (f_X2_doubleBits r10) fun r12 =>
      some (r12, A)
abbrev rm_X5_chance : Room := { frames := 3, cells := 0, slots := 0, locals := 65 }
set_option maxHeartbeats 4000000 in
set_option maxRecDepth 100000 in
theorem b_X5_chance {E : pfE} (X : CX cellsC E cX5_chance RX5 rm_X5_chance 3) (x1 : Int32) (x2 : Int32) (A : St) {out : Int64 × St} (hQ : Retl cellsC E cX5_chance out.1 out.2) (h : f_X5_chance x1 x2 A = some out) : GG cellsC E A 0 [(0, .ref (fAd (eF E) 0)), (1, .int x1), (2, .int x2)] [] := by
  unfold f_X5_chance at h
  refine G_aload_n X dX5_chance_0 rfl 0 rfl ?_
  refine G_getf X inX5 0 (eC0 _ _ _) rfl 2 (by decide) qw157 rfl dX5_chance_1 ?_
  refine G_iload_n X dX5_chance_4 rfl 1 rfl ?_
  obtain ⟨r1, hz2, h⟩ := cl_k h
  refine G_callV_i X (As := [.int x1]) (rest := []) ok_X0_has qw200 3 (eC3 _ _ _) rfl rfl ⟨rfl, rfl, Nat.le_of_ble_eq_true rfl, Nat.le_of_ble_eq_true rfl⟩ (m_X0_has X.d hz2) rfl rfl (Nat.le_of_ble_eq_true rfl) dX5_chance_5 ?_
  refine G_ifeq X (tgt := 18) dX5_chance_8 (by decide) (fun c3 => ?_) (fun c3 => ?_)
  · have h := if_t c3 h
    refine G_aload_n X dX5_chance_18 rfl 0 rfl ?_
    refine G_iconst X (v := 0) dX5_chance_19 rfl ?_
    obtain ⟨r4, A6, hz5, h⟩ := cl2_k h
    refine G_callV_l X (As := [.int 0]) (rest := []) ok_X5_longFinding qw260 0 (eC0 _ _ _) rfl rfl ⟨rfl, rfl, Nat.le_of_ble_eq_true rfl, Nat.le_of_ble_eq_true rfl⟩ (m_X5_longFinding X.d hz5) rfl rfl (Nat.le_of_ble_eq_true rfl) dX5_chance_20 ?_
    have e := so h
    subst e
    exact hQ _ _ dX5_chance_23
  · have h := if_f c3 h
    refine G_iload_n X dX5_chance_11 rfl 2 rfl ?_
    obtain ⟨r7, hz8, h⟩ := cl_k h
    refine G_callS_i X (As := [.int x2]) (rest := []) ok_X5_isAbility qw257 ⟨rfl, rfl, Nat.le_of_ble_eq_true rfl, Nat.le_of_ble_eq_true rfl⟩ (m_X5_isAbility X.d hz8) rfl rfl (Nat.le_of_ble_eq_true rfl) dX5_chance_12 ?_
    refine G_ifne X (tgt := 24) dX5_chance_15 (by decide) (fun c9 => ?_) (fun c9 => ?_)
    · have h := if_t c9 h
      refine G_aload_n X dX5_chance_18 rfl 0 rfl ?_
      refine G_iconst X (v := 0) dX5_chance_19 rfl ?_
      obtain ⟨r14, A16, hz15, h⟩ := cl2_k h
      refine G_callV_l X (As := [.int 0]) (rest := []) ok_X5_longFinding qw260 0 (eC0 _ _ _) rfl rfl ⟨rfl, rfl, Nat.le_of_ble_eq_true rfl, Nat.le_of_ble_eq_true rfl⟩ (m_X5_longFinding X.d hz15) rfl rfl (Nat.le_of_ble_eq_true rfl) dX5_chance_20 ?_
      have e := so h
      subst e
      exact hQ _ _ dX5_chance_23
    · have h := if_f c9 h
      refine G_aload_n X dX5_chance_24 rfl 0 rfl ?_
      refine G_getf X inX5 0 (eC0 _ _ _) rfl 2 (by decide) qw157 rfl dX5_chance_25 ?_
      refine G_iload_n X dX5_chance_28 rfl 1 rfl ?_
      refine G_iload_n X dX5_chance_29 rfl 2 rfl ?_
      obtain ⟨r10, hz11, h⟩ := cl_k h
      refine G_callV_d X (As := [.int x1, .int x2]) (rest := []) ok_X0_chanceAt qw297 3 (eC3 _ _ _) rfl rfl ⟨rfl, rfl, Nat.le_of_ble_eq_true rfl, Nat.le_of_ble_eq_true rfl⟩ (m_X0_chanceAt X.d hz11) rfl rfl (Nat.le_of_ble_eq_true rfl) dX5_chance_30 ?_
      obtain ⟨r12, hz13, h⟩ := cl_k h
      refine G_callS_l X (As := [.double r10]) (rest := []) ok_X2_doubleBits qw289 ⟨rfl, rfl, Nat.le_of_ble_eq_true rfl, Nat.le_of_ble_eq_true rfl⟩ (m_X2_doubleBits X.d hz13) rfl rfl (Nat.le_of_ble_eq_true rfl) dX5_chance_33 ?_
      have e := so h
      subst e
      exact hQ _ _ dX5_chance_36
theorem m_X5_chance {l : Launch} {F : pfF} (hD : ∀ A, va_D (fA F) (cellsC (fAd F) (fCy F) A)) {x1 : Int32} {x2 : Int32} {A : St} {out : Int64 × St} (h : f_X5_chance x1 x2 A = some out) : Mt l F cellsC yX5_chance cX5_chance 3 (some .long) rm_X5_chance [.ref (fAd F 0), .int x1, .int x2] A (va_Ql (fun (r : Int64) (u : St) => r = out.1 ∧ u = out.2) (Wd cellsC F) (fA F)) := by
  refine Met_l (by decide +kernel) (Nat.le_of_ble_eq_true rfl) hD (fun E el ef X hQ => ?_)
  subst el
  subst ef
  exact b_X5_chance X _ _ _ hQ h
theorem ok_X5_chance : OkV yX5_chance cX5_chance 3 (some .long) 2 := ⟨qw294, qw295, qw1, qw296, by decide, by decide, by decide⟩
noncomputable def f_X5_aim (x1 : Int32) (x2 : Int32) (x3 : Int32) (A : St) : Option (Int32 × St) :=
  cl (f_X5_within x1 0 3) fun r1 =>
  if (bI r1) = 0 then
    cl2 (f_X5_finding 0 A) fun r4 A6 =>
    some (r4, A6)
  else
    cl (f_X5_isAbility x2) fun r7 =>
    if (bI r7) = 0 then
      cl2 (f_X5_finding 0 A) fun r10 A12 =>
      some (r10, A12)
    else
      cl (f_X5_within x3 0 9) fun r13 =>
      if (bI r13) = 0 then
        cl2 (f_X5_finding 0 A) fun r22 A24 =>
        some (r22, A24)
      else
        gI x1 4 <|
        bv (A.1 14 x1.toNatClampNeg) fun v17 =>
        gI x1 4 <|
        bv (upI A 13 x1.toNatClampNeg x2) fun A19 =>
        gI x1 4 <|
        bv (upI A19 14 x1.toNatClampNeg x3) fun A21 =>
        some (v17, A21)
abbrev rm_X5_aim : Room := { frames := 2, cells := 0, slots := 0, locals := 42 }
set_option maxHeartbeats 4000000 in
set_option maxRecDepth 100000 in
theorem b_X5_aim {E : pfE} (X : CX cellsC E cX5_aim RX5 rm_X5_aim 5) (x1 : Int32) (x2 : Int32) (x3 : Int32) (A : St) {out : Int32 × St} (hQ : Reti cellsC E cX5_aim out.1 out.2) (h : f_X5_aim x1 x2 x3 A = some out) : GG cellsC E A 0 [(0, .ref (fAd (eF E) 0)), (1, .int x1), (2, .int x2), (3, .int x3)] [] := by
  unfold f_X5_aim at h
  refine G_iload_n X dX5_aim_0 rfl 1 rfl ?_
  refine G_iconst X (v := 0) dX5_aim_1 rfl ?_
  refine G_iconst X (v := 3) dX5_aim_2 rfl ?_
  obtain ⟨r1, hz2, h⟩ := cl_k h
  refine G_callS_i X (As := [.int x1, .int 0, .int 3]) (rest := []) ok_X5_within qw184 ⟨rfl, rfl, Nat.le_of_ble_eq_true rfl, Nat.le_of_ble_eq_true rfl⟩ (m_X5_within X.d hz2) rfl rfl (Nat.le_of_ble_eq_true rfl) dX5_aim_3 ?_
  refine G_ifeq X (tgt := 26) dX5_aim_6 (by decide) (fun c3 => ?_) (fun c3 => ?_)
  · have h := if_t c3 h
    refine G_aload_n X dX5_aim_26 rfl 0 rfl ?_
    refine G_iconst X (v := 0) dX5_aim_27 rfl ?_
    obtain ⟨r4, A6, hz5, h⟩ := cl2_k h
    refine G_callV_i X (As := [.int 0]) (rest := []) ok_X5_finding qw191 0 (eC0 _ _ _) rfl rfl ⟨rfl, rfl, Nat.le_of_ble_eq_true rfl, Nat.le_of_ble_eq_true rfl⟩ (m_X5_finding X.d hz5) rfl rfl (Nat.le_of_ble_eq_true rfl) dX5_aim_28 ?_
    have e := so h
    subst e
    exact hQ _ _ dX5_aim_31
  · have h := if_f c3 h
    refine G_iload_n X dX5_aim_9 rfl 2 rfl ?_
    obtain ⟨r7, hz8, h⟩ := cl_k h
    refine G_callS_i X (As := [.int x2]) (rest := []) ok_X5_isAbility qw257 ⟨rfl, rfl, Nat.le_of_ble_eq_true rfl, Nat.le_of_ble_eq_true rfl⟩ (m_X5_isAbility X.d hz8) rfl rfl (Nat.le_of_ble_eq_true rfl) dX5_aim_10 ?_
    refine G_ifeq X (tgt := 26) dX5_aim_13 (by decide) (fun c9 => ?_) (fun c9 => ?_)
    · have h := if_t c9 h
      refine G_aload_n X dX5_aim_26 rfl 0 rfl ?_
      refine G_iconst X (v := 0) dX5_aim_27 rfl ?_
      obtain ⟨r10, A12, hz11, h⟩ := cl2_k h
      refine G_callV_i X (As := [.int 0]) (rest := []) ok_X5_finding qw191 0 (eC0 _ _ _) rfl rfl ⟨rfl, rfl, Nat.le_of_ble_eq_true rfl, Nat.le_of_ble_eq_true rfl⟩ (m_X5_finding X.d hz11) rfl rfl (Nat.le_of_ble_eq_true rfl) dX5_aim_28 ?_
      have e := so h
      subst e
      exact hQ _ _ dX5_aim_31
    · have h := if_f c9 h
      refine G_iload_n X dX5_aim_16 rfl 3 rfl ?_
      refine G_iconst X (v := 0) dX5_aim_17 rfl ?_
      refine G_bipush X (v := 9) dX5_aim_18 rfl ?_
      obtain ⟨r13, hz14, h⟩ := cl_k h
      refine G_callS_i X (As := [.int x3, .int 0, .int 9]) (rest := []) ok_X5_within qw184 ⟨rfl, rfl, Nat.le_of_ble_eq_true rfl, Nat.le_of_ble_eq_true rfl⟩ (m_X5_within X.d hz14) rfl rfl (Nat.le_of_ble_eq_true rfl) dX5_aim_20 ?_
      refine G_ifne X (tgt := 32) dX5_aim_23 (by decide) (fun c15 => ?_) (fun c15 => ?_)
      · have h := if_t c15 h
        refine G_aload_n X dX5_aim_26 rfl 0 rfl ?_
        refine G_iconst X (v := 0) dX5_aim_27 rfl ?_
        obtain ⟨r22, A24, hz23, h⟩ := cl2_k h
        refine G_callV_i X (As := [.int 0]) (rest := []) ok_X5_finding qw191 0 (eC0 _ _ _) rfl rfl ⟨rfl, rfl, Nat.le_of_ble_eq_true rfl, Nat.le_of_ble_eq_true rfl⟩ (m_X5_finding X.d hz23) rfl rfl (Nat.le_of_ble_eq_true rfl) dX5_aim_28 ?_
        have e := so h
        subst e
        exact hQ _ _ dX5_aim_31
      · have h := if_f c15 h
        refine G_aload_n X dX5_aim_32 rfl 0 rfl ?_
        refine G_getf X inX5 0 (eC0 _ _ _) rfl 2 (by decide) qw157 rfl dX5_aim_33 ?_
        refine G_getf X inX0 3 (eC3 _ _ _) rfl 3 (by decide) qw46 rfl dX5_aim_36 ?_
        refine G_iload_n X dX5_aim_39 rfl 1 rfl ?_
        have hi16 := gI_n h
        have h := gI_k h
        refine G_iald X (j := x1.toNatClampNeg) 14 (eC14 _ _ _) hi16 rfl dX5_aim_40 ?_
        refine G_topi (fun v17 ev17 => ?_)
        have h := bv_k ev17 h
        refine G_istore X (lv2 := [(4, .int v17), (0, .ref (fAd (eF E) 0)), (1, .int x1), (2, .int x2), (3, .int x3)]) dX5_aim_41 (by decide) rfl ?_
        refine G_aload_n X dX5_aim_43 rfl 1 rfl ?_
        refine G_getf X inX5 0 (eC0 _ _ _) rfl 2 (by decide) qw157 rfl dX5_aim_44 ?_
        refine G_getf X inX0 3 (eC3 _ _ _) rfl 2 (by decide) qw43 rfl dX5_aim_47 ?_
        refine G_iload_n X dX5_aim_50 rfl 2 rfl ?_
        refine G_iload_n X dX5_aim_51 rfl 3 rfl ?_
        have hi18 := gI_n h
        have h := gI_k h
        refine G_iast X (j := x1.toNatClampNeg) 13 (eC13 _ _ _) (sCI _ _ _ _ x1.toNatClampNeg _ _ (fun _ => rfl)) hi18 rfl dX5_aim_52 ?_
        refine G_topS (fun A19 eA19 => ?_)
        have h := bv_k eA19 h
        refine G_aload_n X dX5_aim_53 rfl 1 rfl ?_
        refine G_getf X inX5 0 (eC0 _ _ _) rfl 2 (by decide) qw157 rfl dX5_aim_54 ?_
        refine G_getf X inX0 3 (eC3 _ _ _) rfl 3 (by decide) qw46 rfl dX5_aim_57 ?_
        refine G_iload_n X dX5_aim_60 rfl 2 rfl ?_
        refine G_iload_n X dX5_aim_61 rfl 4 rfl ?_
        have hi20 := gI_n h
        have h := gI_k h
        refine G_iast X (j := x1.toNatClampNeg) 14 (eC14 _ _ _) (sCI _ _ _ _ x1.toNatClampNeg _ _ (fun _ => rfl)) hi20 rfl dX5_aim_62 ?_
        refine G_topS (fun A21 eA21 => ?_)
        have h := bv_k eA21 h
        refine G_iload X dX5_aim_63 0 rfl ?_
        have e := so h
        subst e
        exact hQ _ _ dX5_aim_65
theorem m_X5_aim {l : Launch} {F : pfF} (hD : ∀ A, va_D (fA F) (cellsC (fAd F) (fCy F) A)) {x1 : Int32} {x2 : Int32} {x3 : Int32} {A : St} {out : Int32 × St} (h : f_X5_aim x1 x2 x3 A = some out) : Mt l F cellsC yX5_aim cX5_aim 5 (some .int) rm_X5_aim [.ref (fAd F 0), .int x1, .int x2, .int x3] A (va_Qi (fun (r : Int32) (u : St) => r = out.1 ∧ u = out.2) (Wd cellsC F) (fA F)) := by
  refine Met_i (by decide +kernel) (Nat.le_of_ble_eq_true rfl) hD (fun E el ef X hQ => ?_)
  subst el
  subst ef
  exact b_X5_aim X _ _ _ _ hQ h
theorem ok_X5_aim : OkV yX5_aim cX5_aim 5 (some .int) 3 := ⟨qw302, qw303, qw1, qw304, by decide, by decide, by decide⟩
noncomputable def f_X0_hasAll (x1 : Int32) (A : St) : Option (Bool) :=
  if x1 < 0 then
    some false
  else
    if ((1 : Int32) <<< ((A.1 3 0) &&& 31)) ≤ x1 then
      some false
    else
      some true
abbrev rm_X0_hasAll : Room := { frames := 0, cells := 0, slots := 0, locals := 0 }
set_option maxHeartbeats 4000000 in
set_option maxRecDepth 100000 in
theorem b_X0_hasAll {E : pfE} (X : CX cellsC E cX0_hasAll RX0 rm_X0_hasAll 2) (x1 : Int32) (A : St) {out : Bool} (hQ : Reti cellsC E cX0_hasAll (bI out) A) (h : f_X0_hasAll x1 A = some out) : GG cellsC E A 0 [(0, .ref (fAd (eF E) 3)), (1, .int x1)] [] := by
  unfold f_X0_hasAll at h
  refine G_iload_n X dX0_hasAll_0 rfl 1 rfl ?_
  refine G_iflt X (tgt := 18) dX0_hasAll_1 (by decide) (fun c1 => ?_) (fun c1 => ?_)
  · have h := if_t c1 h
    refine G_iconst X (v := 0) dX0_hasAll_18 rfl ?_
    have e := so h
    subst e
    exact hQ _ _ dX0_hasAll_19
  · have h := if_f c1 h
    refine G_iload_n X dX0_hasAll_4 rfl 1 rfl ?_
    refine G_iconst X (v := 1) dX0_hasAll_5 rfl ?_
    refine G_aload_n X dX0_hasAll_6 rfl 0 rfl ?_
    refine G_getf X inX0 3 (eC3 _ _ _) rfl 0 (by decide) qw35 rfl dX0_hasAll_7 ?_
    refine G_ishl X dX0_hasAll_10 ?_
    refine G_icge X (tgt := 18) dX0_hasAll_11 (by decide) (fun c2 => ?_) (fun c2 => ?_)
    · have h := if_t c2 h
      refine G_iconst X (v := 0) dX0_hasAll_18 rfl ?_
      have e := so h
      subst e
      exact hQ _ _ dX0_hasAll_19
    · have h := if_f c2 h
      refine G_iconst X (v := 1) dX0_hasAll_14 rfl ?_
      refine G_goto X (tgt := 19) dX0_hasAll_15 (by decide) ?_
      have e := so h
      subst e
      exact hQ _ _ dX0_hasAll_19
theorem m_X0_hasAll {l : Launch} {F : pfF} (hD : ∀ A, va_D (fA F) (cellsC (fAd F) (fCy F) A)) {x1 : Int32} {A : St} {out : Bool} (h : f_X0_hasAll x1 A = some out) : Mt l F cellsC yX0_hasAll cX0_hasAll 2 (some .boolean) rm_X0_hasAll [.ref (fAd F 3), .int x1] A (va_Qi (fun (r : Int32) (u : St) => r = bI out ∧ u = A) (Wd cellsC F) (fA F)) := by
  refine Met_iz (by decide +kernel) (Nat.le_of_ble_eq_true rfl) hD (nar_bI _) (fun E el ef X hQ => ?_)
  subst el
  subst ef
  exact b_X0_hasAll X _ _ hQ h
theorem ok_X0_hasAll : OkV yX0_hasAll cX0_hasAll 2 (some .boolean) 1 := ⟨qw310, qw311, qw3, qw312, by decide, by decide, by decide⟩
