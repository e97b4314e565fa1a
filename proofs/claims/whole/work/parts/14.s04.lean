theorem SM_topic {A B : St} (h : Rel A B) (x1 x2 x3 : Int32) : SM (f_X5_topic x1 x2 x3 A) (f_X6_topic x1 x2 x3 B) := by
  have h0 := h
  obtain ⟨⟨k, hb⟩, _⟩ := h0
  have hk := hb.1
  unfold f_X5_topic f_X6_topic
  refine SM_chk (within_eq x1 0 3) (in_eq x1 0 3) (fun _ => SM_find h 0 (by decide)) fun q1 => ?_
  refine SM_chk (within_eq x2 0 6) (in_eq x2 0 6) (fun _ => SM_find h 0 (by decide)) fun q2 => ?_
  rw [cl_s (within_eq x3 0 6), cl_s (in_eq x3 x2 6)]
  by_cases q3 : x2.toInt ≤ x3.toInt ∧ x3.toInt ≤ (6 : Int32).toInt
  · have q4 : (0 : Int32).toInt ≤ x3.toInt ∧ x3.toInt ≤ (6 : Int32).toInt := by omega
    rw [decide_eq_true q3, decide_eq_true q4, if_neg (show ¬ bI true = 0 by decide), if_neg (show ¬ bI true = 0 by decide), if_pos ((fa_le _ _).mpr q3.1)]
    obtain ⟨n, hn, rfl⟩ := nat_of (M := 3) q1.1 q1.2
    have e : (105 : Int32) + 2 * nI n = nI (105 + 2 * n) := by rw [fa_lit, fa_lit, pk_mul, nI_add]
    have e2 : nI (105 + 2 * n) + 1 = nI (106 + 2 * n) := (nI_1 _).trans (congrArg nI (by omega))
    unfold f_X0_leastAndMost
    simp only [bv_i]
    rw [e, e2]
    rw [gI_ok (n := n) (by omega) (by decide), gI_ok (n := n) (by omega) (by decide), cl_i]
    rw [gI_ok (n := n) (by omega) (by decide), gI_ok (n := n) (by omega) (by decide), gI_ok (by omega) (by decide), gI_ok (by omega) (by decide), gI_ok (by omega) (by decide), gI_ok (by omega) (by decide), nIc (by omega), nIc (by omega), nIc (by omega)]
    obtain ⟨h1, h2, h3, h4, h5, h6, h7, h8, h9, h10⟩ := hb
    refine SM_ret ?_ (h.bank (k := k) (fun c hc => ?_) rfl (fun c hc => ?_) rfl ⟨h1, ?_, ?_, fun i hi u hu => ?_, fun i hi => ?_, fun j hj => ?_, fun j hj => ?_, fun j hj => ?_, ?_, ?_⟩)
    · have a := (h6 n (by omega)).2.2.1
      have b := (h6 n (by omega)).2.2.2
      simp only [Nat.reduceAdd] at a b
      rw [a, b]
    · rw [upI_r (by omega), upI_r (by omega)]
    · rw [upI_r (by omega), upI_r (by omega)]
    · rw [upI_o (by omega), upI_o (by omega)]; exact h2
    · rw [upI_o (by omega), upI_o (by omega)]; exact h3
    · rw [upI_o (by omega), upI_o (by omega), upI_o (by omega), upI_o (by omega)]; exact h4 i hi u hu
    · have o := h5 i hi
      unfold okF at o ⊢
      simp (disch := omega) only [upI_o] at o ⊢
      exact o
    · by_cases q : j = n
      · subst q
        simp (disch := omega) only [upI_o, upI_s]
        exact ⟨(h6 j hj).1, (h6 j hj).2.1, trivial, trivial⟩
      · simp (disch := omega) only [upI_o]
        exact h6 j hj
    · simp (disch := omega) only [upI_o]
      exact h7 j hj
    · simp (disch := omega) only [upI_o]
      exact h8 j hj
    · simp (disch := omega) only [upI_o]
      exact h9
    · simp (disch := omega) only [upI_o]
      exact h10
  · rw [decide_eq_false q3, if_pos (show bI false = 0 by decide)]
    by_cases q4 : (0 : Int32).toInt ≤ x3.toInt ∧ x3.toInt ≤ (6 : Int32).toInt
    · rw [decide_eq_true q4, if_neg (by decide), if_neg (fun q => q3 (by have := (fa_le _ _).mp q; omega))]
      exact SM_find h 0 (by decide)
    · rw [decide_eq_false q4, if_pos (by decide)]
      exact SM_find h 0 (by decide)
theorem bankRel.lim {A B : St} {k w : Nat} (hb : bankRel 3 1 k A B) (hw : w < 3) (v : Int32) (hv : w = 0 → 1 ≤ v ∧ v ≤ 6) : bankRel 3 1 k (upI A 17 w v) (upI B 1 (113 + w) v) := by
  obtain ⟨h1, h2, h3, h4, h5, h6, h7, h8, h9, h10⟩ := hb
  refine ⟨h1, ?_, ?_, fun i hi u hu => ?_, fun i hi => ?_, fun j hj => ?_, fun j hj => ?_, fun j hj => ?_, ?_, ?_⟩
  · rw [upI_o (by omega)]; exact h2
  · rw [upI_o (by omega)]; exact h3
  · rw [upI_o (by omega), upI_o (by omega)]; exact h4 i hi u hu
  · have o := h5 i hi
    unfold okF at o ⊢
    simp (disch := omega) only [upI_o] at o ⊢
    exact o
  · simp (disch := omega) only [upI_o]
    exact h6 j hj
  · simp (disch := omega) only [upI_o]
    exact h7 j hj
  · by_cases q : j = w
    · subst q
      rw [show 3 + 14 = 17 from rfl, upI_s, upI_s]
    · simp (disch := omega) only [upI_o]
      exact h8 j hj
  · by_cases q : w = 0
    · subst q
      rw [show 3 + 14 = 17 from rfl, upI_s]
      exact hv rfl
    · simp (disch := omega) only [upI_o]
      exact h9
  · simp (disch := omega) only [upI_o]
    exact h10
theorem SM_rule {A B : St} (h : Rel A B) (x1 x2 : Int32) : SM (f_X5_rule x1 x2 A) (f_X6_rule x1 x2 B) := by
  have h0 := h
  obtain ⟨⟨k, hb⟩, _⟩ := h0
  have hk := hb.1
  unfold f_X5_rule f_X6_rule
  rw [cl_s (within_eq x1 0 2)]
  by_cases q1 : (0 : Int32).toInt ≤ x1.toInt ∧ x1.toInt ≤ (2 : Int32).toInt
  · rw [decide_eq_true q1, if_neg (by decide)]
    obtain ⟨w, hw, rfl⟩ := nat_of (M := 2) q1.1 q1.2
    have e : (113 : Int32) + nI w = nI (113 + w) := by rw [fa_lit, nI_add]
    have last : ∀ v, (w = 0 → 1 ≤ v ∧ v ≤ 6) → SM (gI (nI w) 3 <| bv (A.1 17 (nI w).toNatClampNeg) fun v13 => gI (nI w) 3 <| bv (upI A 17 (nI w).toNatClampNeg v) fun A15 => some (v13, A15)) (gI ((113 : Int32) + nI w) 117 <| bv (B.1 1 ((113 : Int32) + nI w).toNatClampNeg) fun v47 => gI ((113 : Int32) + nI w) 117 <| bv (upI B 1 ((113 : Int32) + nI w).toNatClampNeg v) fun A49 => some (v47, A49)) := by
      intro v hv
      simp only [bv_i]
      rw [e, gI_ok (n := w) (by omega) (by decide), gI_ok (n := w) (by omega) (by decide), gI_ok (by omega) (by decide), gI_ok (by omega) (by decide), nIc (by omega), nIc (by omega)]
      exact SM_ret (hb.2.2.2.2.2.2.2.1 w (by omega)) (h.bank (fun c hc => upI_r (by omega)) rfl (fun c hc => upI_r hc) rfl (hb.lim (by omega) v hv))
    rw [gI_ok (n := w) (by omega) (by decide), gI_ok (n := w) (by omega) (by decide)]
    have hc : w = 0 ∨ w = 1 ∨ w = 2 := by omega
    rcases hc with rfl | rfl | rfl
    · rw [if_pos (show nI 0 = 0 from rfl)]
      simp only [bv_i]
      refine SM_chk (within_eq x2 1 6) (in_eq x2 1 6) (fun _ => SM_find h 0 (by decide)) fun q => last x2 fun _ => ⟨(fa_le _ _).mpr q.1, (fa_le _ _).mpr q.2⟩
    · rw [if_neg (show ¬ nI 1 = 0 by decide), if_pos (show nI 1 = 1 from rfl)]
      simp only [bv_i]
      refine SM_chk (within_eq x2 0 240) (in_eq x2 0 240) (fun _ => SM_find h 0 (by decide)) fun q => last x2 fun q => absurd q (by decide)
    · rw [if_neg (show ¬ nI 2 = 0 by decide), if_neg (show ¬ nI 2 = 1 by decide), if_pos (show nI 2 = 2 from rfl)]
      refine SM_chk (within_eq x2 0 999) (in_eq x2 0 999) (fun _ => ?_) fun q => ?_
      · rw [if_pos rfl]
        exact SM_find h 0 (by decide)
      · rw [if_neg (by decide)]
        exact last x2 fun q => absurd q (by decide)
  · rw [decide_eq_false q1, if_pos (by decide)]
    have e : ∀ c : Nat, c < 3 → ¬ x1 = nI c := fun c hc q => q1 (by rw [q, nIt (by omega)]; have a : (0 : Int32).toInt = 0 := rfl; have b : (2 : Int32).toInt = 2 := rfl; omega)
    rw [if_neg (show ¬ x1 = 0 from e 0 (by omega)), if_neg (show ¬ x1 = 1 from e 1 (by omega)), if_neg (show ¬ x1 = 2 from e 2 (by omega)), if_pos rfl]
    exact SM_find h 0 (by decide)
theorem SM_told {A B : St} (h : Rel A B) (x1 : Int32) : SM (f_X5_told x1 A) (f_X6_told x1 B) := by
  have h0 := h
  obtain ⟨⟨k, hb⟩, _⟩ := h0
  obtain ⟨h1, h2, h3, h4, h5, h6, h7, h8, h9, h10⟩ := hb
  unfold f_X5_told f_X6_told
  refine SM_chk (within_eq x1 0 2) (in_eq x1 0 2) (fun _ => ?_) fun q => ?_
  · refine SM_chk (within_eq x1 10 13) (in_eq x1 10 13) (fun _ => ?_) fun q => ?_
    · refine SM_chk (within_eq x1 20 23) (in_eq x1 20 23) (fun _ => ?_) fun q => ?_
      · refine SM_chk (within_eq x1 30 33) (in_eq x1 30 33) (fun _ => SM_find h 0 (by decide)) fun q => ?_
        have a : (30 : Int32).toInt = 30 := rfl
        have b : (33 : Int32).toInt = 33 := rfl
        obtain ⟨m, hm, rfl⟩ := nat_of (x := x1) (M := 33) (by omega) q.2
        rw [nIt (by omega)] at q
        have e : nI m - 30 = nI (m - 30) := nI_sub (b := 30) (by omega)
        have e2 : (97 : Int32) + 2 * nI (m - 30) + 1 = nI (98 + 2 * (m - 30)) := by
          show nI 97 + nI 2 * nI (m - 30) + nI 1 = _
          rw [pk_mul, nI_add, nI_add]
          exact congrArg nI (by omega)
        rw [e, e2, gI_ok (by omega) (by decide), gI_ok (by omega) (by decide), nIc (by omega), nIc (by omega)]
        exact SM_ret ((h6 (m - 30) (by omega)).2.1) h
      · have a : (20 : Int32).toInt = 20 := rfl
        have b : (23 : Int32).toInt = 23 := rfl
        obtain ⟨m, hm, rfl⟩ := nat_of (x := x1) (M := 23) (by omega) q.2
        rw [nIt (by omega)] at q
        have e : nI m - 20 = nI (m - 20) := nI_sub (b := 20) (by omega)
        have e2 : (97 : Int32) + 2 * nI (m - 20) = nI (97 + 2 * (m - 20)) := by
          rw [fa_lit, fa_lit, pk_mul, nI_add]
        rw [e, e2, gI_ok (by omega) (by decide), gI_ok (by omega) (by decide), nIc (by omega), nIc (by omega)]
        exact SM_ret ((h6 (m - 20) (by omega)).1) h
    · have a : (10 : Int32).toInt = 10 := rfl
      have b : (13 : Int32).toInt = 13 := rfl
      obtain ⟨m, hm, rfl⟩ := nat_of (x := x1) (M := 13) (by omega) q.2
      rw [nIt (by omega)] at q
      have e : nI m - 10 = nI (m - 10) := nI_sub (b := 10) (by omega)
      have e2 : (105 : Int32) + 2 * nI (m - 10) = nI (105 + 2 * (m - 10)) := by
        rw [fa_lit, fa_lit, pk_mul, nI_add]
      have e3 : nI (105 + 2 * (m - 10)) + 1 = nI (106 + 2 * (m - 10)) := (nI_1 _).trans (congrArg nI (by omega))
      unfold f_X0_leastAndMost
      rw [e, e2, e3, gI_ok (by omega) (by decide), gI_ok (by omega) (by decide), gI_ok (by omega) (by decide), gI_ok (by omega) (by decide), nIc (by omega), nIc (by omega), nIc (by omega)]
      refine SM_ret ?_ h
      have a := (h6 (m - 10) (by omega)).2.2.1
      have b := (h6 (m - 10) (by omega)).2.2.2
      simp only [Nat.reduceAdd] at a b
      rw [a, b]
  · obtain ⟨m, hm, rfl⟩ := nat_of (x := x1) (M := 2) q.1 q.2
    have e : (113 : Int32) + nI m = nI (113 + m) := by rw [fa_lit, nI_add]
    rw [e, gI_ok (by omega) (by decide), gI_ok (by omega) (by decide), nIc (by omega), nIc (by omega)]
    exact SM_ret (h8 m (by omega)) h
theorem SM_stands {A B : St} (h : Rel A B) (x1 x2 x3 : Int32) : SM (f_X5_stands x1 x2 x3 A) (f_X6_stands x1 x2 x3 B) := by
  have h0 := h
  obtain ⟨_, _, _, hs, _⟩ := h0
  unfold f_X5_stands f_X6_stands
  refine SM_chk (within_eq x1 0 3) (four_eq7 x1) (fun _ => SM_find h 0 (by decide)) fun q1 => ?_
  refine SM_chk (within_eq x2 0 5) (in_eq x2 0 5) (fun _ => SM_find h 0 (by decide)) fun q2 => ?_
  refine SM_chk (within_eq x3 0 1) (in_eq x3 0 1) (fun _ => SM_find h 0 (by decide)) fun q3 => ?_
  obtain ⟨s, hs1, rfl⟩ := nat_of (M := 3) q1.1 q1.2
  obtain ⟨p, hp1, rfl⟩ := nat_of (M := 5) q2.1 q2.2
  obtain ⟨s1, s2, s3⟩ := hs s (by omega)
  obtain ⟨p1, p2, p3, p4⟩ := s3 p (by omega)
  unfold f_X4_isEmptyAt
  simp (disch := omega) only [gI_ok, nIc]
  obtain ⟨m, hm, em⟩ := nat_of (x := B.1 (8 + s) p) (M := 12) ((fa_le _ _).mp p2.1) ((fa_le _ _).mp p2.2)
  by_cases q : m = 0
  · subst q
    have e : A.1 (47 + s) p = -1 := by rw [p1, em]; rfl
    rw [e, if_neg (show ¬ (0 : Int32) ≤ -1 by decide), cl_i, if_neg (show ¬ bI true = 0 by decide), em, if_pos (show nI 0 = 0 from rfl)]
    exact SM_find h 5 (by decide)
  · have e : A.1 (47 + s) p = nI (m - 1) := by
      rw [p1, em]; exact nI_sub (b := 1) (by omega)
    rw [if_pos (show 0 ≤ A.1 (47 + s) p by rw [e]; exact nI_pos' (by omega)), cl_i, if_pos (show bI false = 0 by decide), if_neg (show ¬ B.1 (8 + s) p = 0 by rw [em]; exact nI_ne0 (by omega) (by omega))]
    by_cases r : x3 = 0
    · rw [if_pos r, if_pos r]
      exact SM_ret p1 h
    · rw [if_neg r, if_neg r]
      exact SM_ret p3 h
theorem shelfRel.put {A B : St} {s t p : Nat} (h : shelfRel t A B) (hs : s < 4) (ht : t < 4) (hp : p < 6) {x y : Nat} (hx : x < 12) (hy : y < 6) : shelfRel t (upI (upI A (47 + s) p (nI x)) (51 + s) p (nI y)) (upI (upI B (8 + s) p (nI x + 1)) (13 + s) p (nI y)) := by
  obtain ⟨h1, h2, h3⟩ := h
  refine ⟨?_, ?_, fun q hq => ?_⟩
  · simp (disch := omega) only [upI_o]
    exact h1
  · simp (disch := omega) only [upI_o]
    exact h2
  · by_cases c : t = s ∧ q = p
    · obtain ⟨rfl, rfl⟩ := c
      simp (disch := omega) only [upI_o, upI_s]
      have hx1 : nI x + 1 = nI (x + 1) := nI_1 x
      refine ⟨?_, ?_, trivial, ?_⟩
      · rw [hx1, nI_pred]
      · rw [hx1]
        exact ⟨nI_pos' (by omega), nI_le (b := 12) (by omega) (by decide)⟩
      · exact ⟨nI_pos' (by omega), nI_le (b := 5) (by omega) (by decide)⟩
    · simp (disch := omega) only [upI_o]
      exact h3 q hq
theorem SM_lay {A B : St} (h : Rel A B) (x1 x2 x3 : Int32) : SM (f_X5_lay x1 x2 x3 A) (f_X6_lay x1 x2 x3 B) := by
  have h0 := h
  obtain ⟨⟨k, hb⟩, _, _, hs, _⟩ := h0
  have hk := hb.1
  unfold f_X5_lay f_X6_lay
  refine SM_chk (within_eq x1 0 3) (four_eq7 x1) (fun _ => SM_find h 0 (by decide)) fun q1 => ?_
  refine SM_chk (within_eq x2 0 5) (in_eq x2 0 5) (fun _ => SM_find h 0 (by decide)) fun q2 => ?_
  refine SM_chk (has_eq hb x3) (isItem_eq hb x3) (fun _ => SM_find h 0 (by decide)) fun q3 => ?_
  obtain ⟨s, hs1, rfl⟩ := nat_of (M := 3) q1.1 q1.2
  obtain ⟨p, hp1, rfl⟩ := nat_of (M := 5) q2.1 q2.2
  obtain ⟨n, hn, rfl⟩ := item_of q3
  obtain ⟨s1, s2, s3⟩ := hs s (by omega)
  obtain ⟨p1, p2, p3, p4⟩ := s3 p (by omega)
  obtain ⟨c, hc, e1, e2⟩ := kinds_of hb hn
  obtain ⟨d, hd, ed⟩ := nat_of (x := B.1 6 s) (M := 5) ((fa_le _ _).mp s2.1) ((fa_le _ _).mp s2.2)
  have i0 : ∀ B2 : St, f_X6_it (nI n) 0 B2 = some (B2.1 1 (1 + 8 * n + 0)) := fun B2 => it_eq (w := 0) (by omega) (by omega)
  simp (disch := omega) only [gI_ok, nIc, bv_i, i0, cl_i]
  rw [e1, e2, s1, ed]
  refine SM_b (kind_eq hc (by omega)) (SM_find h 2 (by decide)) ?_
  rw [upI_o (by omega), e2]
  refine SM_ret p1 (h.shelf (fun c hc => ?_) rfl (fun c hc => ?_) rfl fun t ht => (hs t ht).put (by omega) ht (by omega) (by omega) hc)
  · rw [upI_r (by omega), upI_r (by omega)]
  · rw [upI_r (by omega), upI_r (by omega)]
