/-! The calls without loops. -/
theorem SM_of {A B : St} (h : Rel A B) (x1 x2 : Int32) : SM (f_X5_of x1 x2 A) (f_X6_of x1 x2 B) := by
  have h0 := h
  obtain ⟨⟨k, hb⟩, _⟩ := h0
  have hk := hb.1
  unfold f_X5_of f_X6_of
  refine SM_chk (has_eq hb x1) (isItem_eq hb x1) (fun _ => SM_find h 0 (by decide)) fun h1 => ?_
  refine SM_chk (within_eq x2 0 7) (in_eq x2 0 7) (fun _ => SM_find h 0 (by decide)) fun h2 => ?_
  obtain ⟨n, hn, rfl⟩ := item_of h1
  obtain ⟨w, hw, rfl⟩ := nat_of (M := 7) h2.1 h2.2
  rw [it_eq (by omega) (by omega), gI_ok (by omega) (by decide), gI_ok (by omega) (by decide), nIc (by omega), nIc (by omega)]
  exact SM_ret (hb.2.2.2.1 n hn w (by omega)) h
/-- a fact of an item set -/
theorem bankRel.put {A B : St} {k w n : Nat} (hb : bankRel 3 1 k A B) (hw : w < 8) (hn : n < k) (v : Int32) (hv : okF (fun u => if u = w then v else A.1 (5 + u) n) k) : bankRel 3 1 k (upI A (5 + w) n v) (upI B 1 (1 + 8 * n + w) v) := by
  obtain ⟨h1, h2, h3, h4, h5, h6, h7, h8, h9, h10⟩ := hb
  refine ⟨h1, ?_, ?_, fun i hi u hu => ?_, fun i hi => ?_, fun j hj => ?_, fun j hj => ?_, fun j hj => ?_, ?_, ?_⟩
  · rw [upI_o (by omega)]; exact h2
  · rw [upI_o (by omega)]; exact h3
  · rw [upI_if, upI_if]
    by_cases q : 3 + 2 + u = 5 + w ∧ i = n
    · rw [if_pos q, if_pos (by omega)]
    · rw [if_neg q, if_neg (by omega)]
      exact h4 i hi u hu
  · by_cases q : i = n
    · have e : (fun u => (upI A (5 + w) n v).1 (3 + 2 + u) i) = (fun u => if u = w then v else A.1 (5 + u) n) := by
        funext u
        rw [upI_if]
        by_cases q2 : u = w
        · rw [if_pos q2, if_pos (by omega)]
        · rw [if_neg q2, if_neg (by omega), q]
      rw [e]; exact hv
    · have e : (fun u => (upI A (5 + w) n v).1 (3 + 2 + u) i) = (fun u => A.1 (3 + 2 + u) i) := by
        funext u
        rw [upI_o (by omega)]
      rw [e]; exact h5 i hi
  · rw [upI_o (by omega), upI_o (by omega), upI_o (by omega), upI_o (by omega), upI_o (by omega), upI_o (by omega), upI_o (by omega), upI_o (by omega)]
    exact h6 j hj
  · rw [upI_o (by omega), upI_o (by omega)]
    exact h7 j hj
  · rw [upI_o (by omega), upI_o (by omega)]
    exact h8 j hj
  · rw [upI_o (by omega)]; exact h9
  · rw [upI_o (by omega), upI_o (by omega)]; exact h10
theorem Rel.put {A B : St} (h : Rel A B) {k w n : Nat} (hb : bankRel 3 1 k A B) (hw : w < 8) (hn : n < k) (v : Int32) (hv : okF (fun u => if u = w then v else A.1 (5 + u) n) k) : Rel (upI A (5 + w) n v) (upI B 1 (1 + 8 * n + w) v) :=
  h.bank (fun c hc => upI_r (by omega)) rfl (fun c hc => upI_r hc) rfl (hb.put hw hn v hv)
theorem SM_change {A B : St} (h : Rel A B) (x1 x2 x3 : Int32) : SM (f_X5_change x1 x2 x3 A) (f_X6_change x1 x2 x3 B) := by
  have h0 := h
  obtain ⟨⟨k, hb⟩, _⟩ := h0
  have hk := hb.1
  unfold f_X5_change f_X6_change
  refine SM_chk (has_eq hb x1) (isItem_eq hb x1) (fun _ => SM_find h 0 (by decide)) fun h1 => ?_
  by_cases hc : (0 : Int) ≤ x2.toInt ∧ x2.toInt ≤ 6
  · obtain ⟨w, hw, rfl⟩ := nat_of (M := 6) hc.1 hc.2
    refine SM_chk (fits_eq (by omega) x3) (mayBe_eq (by omega) x3) (fun _ => SM_find h 0 (by decide)) fun h2 => ?_
    obtain ⟨n, hn, rfl⟩ := item_of h1
    have e : (1 : Int32) + 8 * nI n + nI w = nI (1 + 8 * n + w) := by
      rw [fa_lit, fa_lit, pk_mul, nI_add, nI_add]
    rw [it_eq (by omega) (by omega), cl_i, e]
    simp only [bv_i]
    rw [gI_ok (by omega) (by decide), gI_ok (by omega) (by decide), gI_ok (by omega) (by decide), gI_ok (by omega) (by decide), gI_ok (by omega) (by decide), nIc (by omega), nIc (by omega), nIc (by omega)]
    refine SM_ret (hb.2.2.2.1 n hn w (by omega)) (h.put hb (by omega) hn x3 ?_)
    have o := hb.2.2.2.2.1 n hn
    unfold okF at o ⊢
    obtain ⟨o0, o1, o2, o3, o4, o5, o7⟩ := o
    unfold lo hi at h2
    have hc : w = 0 ∨ w = 1 ∨ w = 2 ∨ w = 3 ∨ w = 4 ∨ w = 5 ∨ w = 6 := by omega
    rcases hc with rfl | rfl | rfl | rfl | rfl | rfl | rfl
    · exact ⟨⟨(fa_le _ _).mpr h2.1, (fa_le _ _).mpr h2.2⟩, o1, o2, o3, o4, o5, o7⟩
    · exact ⟨o0, ⟨(fa_le _ _).mpr h2.1, (fa_le _ _).mpr h2.2⟩, o2, o3, o4, o5, o7⟩
    · exact ⟨o0, o1, ⟨(fa_le _ _).mpr h2.1, (fa_le _ _).mpr h2.2⟩, o3, o4, o5, o7⟩
    · exact ⟨o0, o1, o2, ⟨(fa_le _ _).mpr h2.1, (fa_le _ _).mpr h2.2⟩, o4, o5, o7⟩
    · exact ⟨o0, o1, o2, o3, ⟨(fa_le _ _).mpr h2.1, (fa_le _ _).mpr h2.2⟩, o5, o7⟩
    · exact ⟨o0, o1, o2, o3, o4, ⟨(fa_le _ _).mpr h2.1, (fa_le _ _).mpr h2.2⟩, o7⟩
    · exact ⟨o0, o1, o2, o3, o4, o5, o7⟩
  · obtain ⟨e1, e2⟩ := fits_no (y := x3) hc
    rw [e1, e2, cl_i, cl_i]
    exact SM_find h 0 (by decide)
theorem kinds_of {A B : St} {k n : Nat} (hb : bankRel 3 1 k A B) (hn : n < k) : ∃ c, c < 6 ∧ A.1 5 n = nI c ∧ B.1 1 (1 + 8 * n + 0) = nI c := by
  have o := (hb.2.2.2.2.1 n hn).1
  obtain ⟨c, hc, e⟩ := nat_of (x := A.1 5 n) (M := 5) ((fa_le _ _).mp o.1) ((fa_le _ _).mp o.2)
  exact ⟨c, by omega, e, (hb.2.2.2.1 n hn 0 (by omega)).symm.trans e⟩
theorem SM_as {A B : St} (h : Rel A B) (x1 x2 : Int32) : SM (f_X5_as x1 x2 A) (f_X6_as x1 x2 B) := by
  have h0 := h
  obtain ⟨⟨k, hb⟩, _⟩ := h0
  have hk := hb.1
  unfold f_X5_as f_X6_as
  refine SM_chk (has_eq hb x1) (isItem_eq hb x1) (fun _ => SM_find h 0 (by decide)) fun h1 => ?_
  refine SM_chk (fits_eq (w := 0) (by omega) x2) (isKind_eq x2) (fun _ => SM_find h 0 (by decide)) fun h2 => ?_
  obtain ⟨n, hn, rfl⟩ := item_of h1
  obtain ⟨c, hc, e1, e2⟩ := kinds_of hb hn
  obtain ⟨d, hd, rfl⟩ := nat_of (M := 5) h2.1 h2.2
  have i0 : f_X6_it (nI n) 0 B = some (B.1 1 (1 + 8 * n + 0)) := it_eq (w := 0) (by omega) (by omega)
  have i2 : f_X6_it (nI n) 2 B = some (B.1 1 (1 + 8 * n + 2)) := it_eq (w := 2) (by omega) (by omega)
  rw [cl_s i0, gI_ok (by omega) (by decide), nIc (by omega), e1, e2]
  refine SM_b (kind_eq hc (by omega)) (SM_find h 2 (by decide)) ?_
  rw [cl_s i2, gI_ok (by omega) (by decide)]
  exact SM_ret (hb.2.2.2.1 n hn 2 (by omega)) h
theorem SM_seed {A B : St} (h : Rel A B) (x1 : Int32) : SM (f_X5_seed x1 A) (f_X6_seed x1 B) := by
  have h0 := h
  obtain ⟨⟨k, hb⟩, _⟩ := h0
  obtain ⟨h1, h2, h3, h4, h5, h6, h7, h8, h9, h10⟩ := hb
  refine SM_ret h10 (h.bank (k := k) (fun c hc => upI_r (by omega)) rfl (fun c hc => upI_r hc) rfl ⟨h1, ?_, ?_, fun i hi u hu => ?_, fun i hi => ?_, fun j hj => ?_, fun j hj => ?_, fun j hj => ?_, ?_, ?_⟩)
  · rw [upI_o (by omega)]; exact h2
  · rw [upI_o (by omega)]; exact h3
  · rw [upI_o (by omega), upI_o (by omega)]; exact h4 i hi u hu
  · have e : (fun u => (upI A 3 7 x1).1 (3 + 2 + u) i) = (fun u => A.1 (3 + 2 + u) i) := by
      funext u
      rw [upI_o (by omega)]
    rw [e]; exact h5 i hi
  · rw [upI_o (by omega), upI_o (by omega), upI_o (by omega), upI_o (by omega), upI_o (by omega), upI_o (by omega), upI_o (by omega), upI_o (by omega)]
    exact h6 j hj
  · rw [upI_o (by omega), upI_o (by omega)]; exact h7 j hj
  · rw [upI_o (by omega), upI_o (by omega)]; exact h8 j hj
  · rw [upI_o (by omega)]; exact h9
  · rw [upI_s, upI_s]
theorem SM_aim {A B : St} (h : Rel A B) (x1 x2 x3 : Int32) : SM (f_X5_aim x1 x2 x3 A) (f_X6_aim x1 x2 x3 B) := by
  have h0 := h
  obtain ⟨⟨k, hb⟩, _⟩ := h0
  have hk := hb.1
  unfold f_X5_aim f_X6_aim
  refine SM_chk (within_eq x1 0 3) (in_eq x1 0 3) (fun _ => SM_find h 0 (by decide)) fun q1 => ?_
  refine SM_chk (abil_eq x2) (abil_eq6 x2) (fun _ => SM_find h 0 (by decide)) fun q2 => ?_
  refine SM_chk (within_eq x3 0 9) (in_eq x3 0 9) (fun _ => SM_find h 0 (by decide)) fun q3 => ?_
  obtain ⟨n, hn, rfl⟩ := nat_of (M := 3) q1.1 q1.2
  have e : (97 : Int32) + 2 * nI n = nI (97 + 2 * n) := by rw [fa_lit, fa_lit, pk_mul, nI_add]
  have e2 : nI (97 + 2 * n) + 1 = nI (98 + 2 * n) := (nI_1 _).trans (congrArg nI (by omega))
  simp only [bv_i]
  rw [e, e2, gI_ok (by omega) (by decide), gI_ok (by omega) (by decide), gI_ok (by omega) (by decide), gI_ok (by omega) (by decide), gI_ok (by omega) (by decide), gI_ok (by omega) (by decide), nIc (by omega), nIc (by omega), nIc (by omega)]
  obtain ⟨h1, h2, h3, h4, h5, h6, h7, h8, h9, h10⟩ := hb
  refine SM_ret ((h6 n (by omega)).2.1) (h.bank (k := k) (fun c hc => ?_) rfl (fun c hc => ?_) rfl ⟨h1, ?_, ?_, fun i hi u hu => ?_, fun i hi => ?_, fun j hj => ?_, fun j hj => ?_, fun j hj => ?_, ?_, ?_⟩)
  · rw [upI_r (by omega), upI_r (by omega)]
  · rw [upI_r (by omega), upI_r (by omega)]
  · rw [upI_o (by omega), upI_o (by omega)]; exact h2
  · rw [upI_o (by omega), upI_o (by omega)]; exact h3
  · rw [upI_o (by omega), upI_o (by omega), upI_o (by omega), upI_o (by omega)]; exact h4 i hi u hu
  · have o := h5 i hi
    unfold okF at o ⊢
    simp (disch := omega) only [upI_o] at o ⊢
    exact o
  · by_cases q : j = n
    · subst q
      simp (disch := omega) only [upI_o, upI_s]
      exact ⟨trivial, trivial, (h6 j hj).2.2⟩
    · simp (disch := omega) only [upI_o]
      exact h6 j hj
  · by_cases q : j = n
    · subst q
      simp (disch := omega) only [upI_o, upI_s]
      exact ⟨⟨(fa_le _ _).mpr q2.1, (fa_le _ _).mpr q2.2⟩, ⟨(fa_le _ _).mpr q3.1, (fa_le _ _).mpr q3.2⟩⟩
    · simp (disch := omega) only [upI_o]
      exact h7 j hj
  · simp (disch := omega) only [upI_o]
    exact h8 j hj
  · simp (disch := omega) only [upI_o]
    exact h9
  · simp (disch := omega) only [upI_o]
    exact h10
