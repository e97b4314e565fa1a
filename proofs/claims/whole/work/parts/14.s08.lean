theorem SM_shelf {A B : St} (h : Rel A B) (x1 x2 : Int32) : SM (f_X5_shelf x1 x2 A) (f_X6_shelf x1 x2 B) := by
  have h0 := h
  obtain ⟨_, _, _, hs, _⟩ := h0
  unfold f_X5_shelf f_X6_shelf f_X4_becomeFor
  refine SM_chk (within_eq x1 0 3) (four_eq7 x1) (fun _ => SM_find h 0 (by decide)) fun q1 => ?_
  refine SM_chk (fits_eq (w := 0) (by omega) x2) (isKind_eq x2) (fun _ => SM_find h 0 (by decide)) fun q2 => ?_
  obtain ⟨s, hs1, rfl⟩ := nat_of (M := 3) q1.1 q1.2
  obtain ⟨r, st1, st2⟩ := stand_eq (hs s (by omega)) (by omega)
  simp (disch := omega) only [gI_ok, nIc, bv_i]
  rw [cl_s st1, cl_s st2]
  obtain ⟨A2, e1, g1, g2, g3, g4⟩ := loop1 (b := fun t : Int32 × St => f_X4_becomeFor_L7 s t.1 t.2) (s := (0, upI A (43 + s) 0 x2))
    (fun i t => t.1 = nI i ∧ (∀ c, c ≠ 47 + s → t.2.1 c = (upI A (43 + s) 0 x2).1 c) ∧ (∀ j, i ≤ j → t.2.1 (47 + s) j = A.1 (47 + s) j) ∧ t.2.2 = A.2 ∧ ∀ j, j < i → t.2.1 (47 + s) j = -1)
    (fun r => (∀ c, c ≠ 47 + s → r.1 c = (upI A (43 + s) 0 x2).1 c) ∧ (∀ j, 6 ≤ j → r.1 (47 + s) j = A.1 (47 + s) j) ∧ r.2 = A.2 ∧ ∀ j, j < 6 → r.1 (47 + s) j = -1) 6 ⟨rfl, fun _ _ => rfl, fun j _ => by rw [upI_o (by omega)], rfl, fun j hj => absurd hj (by omega)⟩ (by
    rintro i ⟨x, A1⟩ hi ⟨rfl, g1, g2, g3, g4⟩
    by_cases hi6 : i = 6
    · subst hi6
      refine Or.inr ⟨A1, ?_, g1, g2, g3, g4⟩
      show f_X4_becomeFor_L7 s (nI 6) A1 = _
      unfold f_X4_becomeFor_L7
      rw [if_pos (show 6 ≤ nI 6 by decide)]
    · refine Or.inl ⟨(nI (i + 1), upI A1 (47 + s) i (-1)), ?_, by omega, rfl, fun c hc => ?_, fun j hj => ?_, g3, fun j hj => ?_⟩
      · show f_X4_becomeFor_L7 s (nI i) A1 = _
        unfold f_X4_becomeFor_L7
        have ei : nI i + 1 = nI (i + 1) := nI_1 i
        rw [if_neg (show ¬ 6 ≤ nI i from nI_ge (b := 6) (by omega) (by decide))]
        simp (disch := omega) only [gI_ok, nIc, bv_i, ei]
      · rw [upI_r hc]; exact g1 c hc
      · rw [upI_o (by omega)]; exact g2 j (by omega)
      · by_cases q : j = i
        · subst q; exact upI_s _ _ _ _
        · rw [upI_o (by omega)]; exact g4 j (by omega))
  obtain ⟨B2, e2, k1, k2, k3, k4⟩ := loop1 (b := fun t : Int32 × St => f_X6_shelf_L36 (nI s) r t.1 t.2) (s := (0, upI B 6 s x2))
    (fun i t => t.1 = nI i ∧ (∀ c, c ≠ 8 + s → t.2.1 c = (upI B 6 s x2).1 c) ∧ (∀ j, i ≤ j → t.2.1 (8 + s) j = B.1 (8 + s) j) ∧ t.2.2 = B.2 ∧ ∀ j, j < i → t.2.1 (8 + s) j = 0)
    (fun r => (∀ c, c ≠ 8 + s → r.1 c = (upI B 6 s x2).1 c) ∧ (∀ j, 6 ≤ j → r.1 (8 + s) j = B.1 (8 + s) j) ∧ r.2 = B.2 ∧ ∀ j, j < 6 → r.1 (8 + s) j = 0) 6 ⟨rfl, fun _ _ => rfl, fun j _ => by rw [upI_o (by omega)], rfl, fun j hj => absurd hj (by omega)⟩ (by
    rintro i ⟨x, A1⟩ hi ⟨rfl, g1, g2, g3, g4⟩
    by_cases hi6 : i = 6
    · subst hi6
      refine Or.inr ⟨A1, ?_, g1, g2, g3, g4⟩
      show f_X6_shelf_L36 (nI s) r (nI 6) A1 = _
      unfold f_X6_shelf_L36
      rw [if_pos (show 6 ≤ nI 6 by decide)]
    · refine Or.inl ⟨(nI (i + 1), upI A1 (8 + s) i 0), ?_, by omega, rfl, fun c hc => ?_, fun j hj => ?_, g3, fun j hj => ?_⟩
      · show f_X6_shelf_L36 (nI s) r (nI i) A1 = _
        unfold f_X6_shelf_L36
        have ei : nI i + 1 = nI (i + 1) := nI_1 i
        rw [if_neg (show ¬ 6 ≤ nI i from nI_ge (b := 6) (by omega) (by decide))]
        simp (disch := omega) only [gI_ok, nIc, bv_i, ei]
      · rw [upI_r hc]; exact g1 c hc
      · rw [upI_o (by omega)]; exact g2 j (by omega)
      · by_cases q : j = i
        · subst q; exact upI_s _ _ _ _
        · rw [upI_o (by omega)]; exact g4 j (by omega))
  rw [cl_s e1, cl_s e2]
  refine SM_ret rfl (h.shelf (fun c hc => ?_) g3 (fun c hc => ?_) k3 fun t ht => ?_)
  · rw [g1 c (by omega), upI_r (by omega)]
  · rw [k1 c (by omega), upI_r (by omega)]
  · obtain ⟨s1, s2, s3⟩ := hs t ht
    by_cases q : t = s
    · subst q
      refine ⟨?_, ?_, fun p hp => ?_⟩
      · rw [g1 _ (by omega), k1 _ (by omega), upI_s, upI_s]
      · rw [k1 _ (by omega), upI_s]
        exact ⟨(fa_le _ _).mpr q2.1, (fa_le _ _).mpr q2.2⟩
      · obtain ⟨p1, p2, p3, p4⟩ := s3 p hp
        rw [g4 p hp, k4 p hp, g1 _ (by omega), k1 _ (by omega), upI_r (by omega), upI_r (by omega)]
        exact ⟨rfl, ⟨by decide, by decide⟩, p3, p4⟩
    · refine ⟨?_, ?_, fun p hp => ?_⟩
      · rw [g1 _ (by omega), k1 _ (by omega), upI_o (by omega), upI_o (by omega)]; exact s1
      · rw [k1 _ (by omega), upI_o (by omega)]; exact s2
      · rw [g1 _ (by omega), g1 _ (by omega), k1 _ (by omega), k1 _ (by omega), upI_r (by omega), upI_r (by omega), upI_r (by omega), upI_r (by omega)]
        exact s3 p hp
theorem shelfRel.put2 {A B : St} {s t p : Nat} (h : shelfRel t A B) (hs : s < 4) (ht : t < 4) (hp : p < 6) {x y v w : Int32} (hv : x = v - 1) (hv2 : 0 ≤ v ∧ v ≤ 12) (hw : y = w) (hw2 : 0 ≤ w ∧ w ≤ 5) : shelfRel t (upI (upI A (47 + s) p x) (51 + s) p y) (upI (upI B (8 + s) p v) (13 + s) p w) := by
  obtain ⟨h1, h2, h3⟩ := h
  refine ⟨?_, ?_, fun q hq => ?_⟩
  · simp (disch := omega) only [upI_o]
    exact h1
  · simp (disch := omega) only [upI_o]
    exact h2
  · by_cases c : t = s ∧ q = p
    · obtain ⟨rfl, rfl⟩ := c
      simp (disch := omega) only [upI_o, upI_s]
      exact ⟨hv, hv2, hw, hw2⟩
    · simp (disch := omega) only [upI_o]
      exact h3 q hq
theorem SM_moves {A B : St} (h : Rel A B) (x1 x2 : Int32) : SM (f_X5_moves x1 x2 A) (f_X6_moves x1 x2 B) := by
  unfold f_X5_moves f_X6_moves f_X4_takeFrom
  refine SM_chk (within_eq x1 0 3) (four_eq7 x1) (fun _ => SM_find h 0 (by decide)) fun q1 => ?_
  refine SM_chk (within_eq x2 0 3) (four_eq7 x2) (fun _ => SM_find h 0 (by decide)) fun q2 => ?_
  obtain ⟨u, hu, rfl⟩ := nat_of (M := 3) q1.1 q1.2
  obtain ⟨w, hw, rfl⟩ := nat_of (M := 3) q2.1 q2.2
  simp (disch := omega) only [gI_ok, nIc]
  obtain ⟨r, p, e1, e2, e3⟩ := loop2 (b := fun t : Int32 × St => f_X4_takeFrom_L2 w u t.1 t.2) (c := fun t : Int32 × St => f_X6_moves_L22 (nI u) (nI w) t.1 t.2) (s := (0, A)) (t := (0, B))
    (fun i s t => s.1 = nI i ∧ t.1 = nI i ∧ Rel s.2 t.2)
    (fun r p => (∃ A2 B2, r = .inl A2 ∧ p = .inl B2 ∧ Rel A2 B2) ∨ ∃ x A2 B2, r = .inr (x, A2) ∧ p = .inr (x, B2) ∧ Rel A2 B2) 6 ⟨rfl, rfl, h⟩ (by
    rintro i ⟨x, A1⟩ ⟨y, B1⟩ hi ⟨rfl, rfl, hR⟩
    dsimp only
    by_cases hi6 : i = 6
    · subst hi6
      refine Or.inr ⟨.inl A1, .inl B1, ?_, ?_, Or.inl ⟨A1, B1, rfl, rfl, hR⟩⟩
      · unfold f_X4_takeFrom_L2
        rw [if_pos (show 6 ≤ nI 6 by decide)]
      · unfold f_X6_moves_L22
        rw [if_pos (show 6 ≤ nI 6 by decide)]
    · have hs := hR.2.2.2.1
      obtain ⟨m, hm, em, ea, c1, c2⟩ := shelf_at (hs u (by omega)) (show i < 6 by omega)
      obtain ⟨p1, p2, p3, p4⟩ := (hs u (by omega)).2.2 i (by omega)
      have ei : nI i + 1 = nI (i + 1) := nI_1 i
      have n6 : ¬ 6 ≤ nI i := nI_ge (b := 6) (by omega) (by decide)
      have hR2 : Rel (upI (upI A1 (47 + w) i (A1.1 (47 + u) i)) (51 + w) i (A1.1 (51 + u) i)) (upI (upI B1 (8 + w) i (B1.1 (8 + u) i)) (13 + w) i (B1.1 (13 + u) i)) := by
        refine hR.shelf (fun c hc => ?_) rfl (fun c hc => ?_) rfl fun t ht => (hs t ht).put2 (by omega) ht (by omega) p1 p2 p3 p4
        · rw [upI_r (by omega), upI_r (by omega)]
        · rw [upI_r (by omega), upI_r (by omega)]
      unfold f_X4_takeFrom_L2 f_X6_moves_L22
      rw [if_neg n6, if_neg n6, cl_s (empt_eq (by omega))]
      simp (disch := omega) only [gI_ok, nIc, bv_i, ei, upI_o]
      by_cases q : m = 0
      · rw [decide_eq_true (show ¬ 0 ≤ A1.1 (47 + u) i from fun z => by have := c1.mp z; omega), if_neg (show ¬ bI true = 0 by decide), if_pos (c2.mpr q)]
        exact Or.inl ⟨_, _, rfl, rfl, by omega, rfl, rfl, hR2⟩
      · rw [decide_eq_false (show ¬ ¬ 0 ≤ A1.1 (47 + u) i from fun z => z (c1.mpr (by omega))), if_pos (show bI false = 0 by decide), if_neg (show ¬ B1.1 (8 + u) i ≤ 0 from fun z => q (c2.mp z))]
        obtain ⟨c, hc, ec⟩ := nat_of (x := B1.1 (13 + u) i) (M := 5) ((fa_le _ _).mp p4.1) ((fa_le _ _).mp p4.2)
        obtain ⟨t1, t2, _⟩ := hs w (by omega)
        obtain ⟨d, hd, ed⟩ := nat_of (x := B1.1 6 w) (M := 5) ((fa_le _ _).mp t2.1) ((fa_le _ _).mp t2.2)
        obtain ⟨b, k1, k2⟩ := kind_eq (x := c) (y := d) (by omega) (by omega)
        have k1' : f_X5_isOfKind (A1.1 (51 + u) i) (A1.1 (43 + w) 0) = some b := by rw [p3, ec, t1, ed]; exact k1
        have k2' : f_X6_isUnder (B1.1 (13 + u) i) (B1.1 6 w) = some b := by rw [ec, ed]; exact k2
        rw [cl_s k1', cl_s k2']
        cases b
        · rw [if_pos (show bI false = 0 by decide), if_pos (show bI false = 0 by decide)]
          exact Or.inr ⟨_, _, rfl, rfl, Or.inr ⟨_, _, _, rfl, rfl, hR⟩⟩
        · rw [if_neg (show ¬ bI true = 0 by decide), if_neg (show ¬ bI true = 0 by decide)]
          exact Or.inl ⟨_, _, rfl, rfl, by omega, rfl, rfl, hR2⟩)
  rw [cl_s e1, cl_s e2]
  rcases e3 with ⟨A2, B2, rfl, rfl, hR⟩ | ⟨x, A2, B2, rfl, rfl, hR⟩
  · exact SM_ret rfl hR
  · exact SM_ret rfl hR
/-! Images. -/
theorem bankRel.as {a b a2 b2 k : Nat} {A B A2 B2 : St} (h : bankRel a b k A B) (hA : ∀ w j, w < 13 → j < (if w < 8 then 12 else if w < 12 then 4 else 3) → A2.1 (a2 + 2 + w) j = A.1 (a + 2 + w) j) (h0 : A2.1 a2 0 = A.1 a 0) (h7 : A2.1 a2 7 = A.1 a 7) (hB : ∀ j, j < 117 → B2.1 b2 j = B.1 b j) : bankRel a2 b2 k A2 B2 := by
  obtain ⟨g1, g2, g3, g4, g5, g6, g7, g8, g9, g10⟩ := h
  have hA1 : ∀ w j, w < 8 → j < 12 → A2.1 (a2 + 2 + w) j = A.1 (a + 2 + w) j := fun w j hw hj => hA w j (by omega) (by rw [if_pos hw]; exact hj)
  have hA2 : ∀ w j, w < 12 → j < 4 → A2.1 (a2 + 2 + w) j = A.1 (a + 2 + w) j := fun w j hw hj => hA w j (by omega) (by by_cases q : w < 8; (rw [if_pos q]; omega); (rw [if_neg q, if_pos hw]; exact hj))
  have hA3 : ∀ j, j < 3 → A2.1 (a2 + 14) j = A.1 (a + 14) j := fun j hj => hA 12 j (by omega) (by rw [if_neg (by omega), if_neg (by omega)]; exact hj)
  refine ⟨g1, ?_, ?_, fun i hi u hu => ?_, fun i hi => ?_, fun j hj => ?_, fun j hj => ?_, fun j hj => ?_, ?_, ?_⟩
  · rw [h0]; exact g2
  · rw [hB 0 (by omega)]; exact g3
  · rw [hA1 u i hu (by omega), hB _ (by omega)]
    exact g4 i hi u hu
  · obtain ⟨m, hm, em⟩ := (g5 i hi).2.2.2.2.2.2
    exact (g5 i hi).of (fun w hw => hA1 w i (by omega) (by omega)) hm ((hA1 7 i (by omega) (by omega)).trans em)
  · have q1 : A2.1 (a2 + 10) j = A.1 (a + 10) j := hA2 8 j (by omega) hj
    have q2 : A2.1 (a2 + 11) j = A.1 (a + 11) j := hA2 9 j (by omega) hj
    have q3 : A2.1 (a2 + 12) j = A.1 (a + 12) j := hA2 10 j (by omega) hj
    have q4 : A2.1 (a2 + 13) j = A.1 (a + 13) j := hA2 11 j (by omega) hj
    rw [q1, q2, q3, q4, hB _ (by omega), hB _ (by omega), hB _ (by omega), hB _ (by omega)]
    exact g6 j hj
  · have q1 : A2.1 (a2 + 10) j = A.1 (a + 10) j := hA2 8 j (by omega) hj
    have q2 : A2.1 (a2 + 11) j = A.1 (a + 11) j := hA2 9 j (by omega) hj
    rw [q1, q2]
    exact g7 j hj
  · rw [hA3 j hj, hB _ (by omega)]
    exact g8 j hj
  · rw [hA3 0 (by omega)]
    exact g9
  · rw [h7, hB _ (by omega)]
    exact g10
