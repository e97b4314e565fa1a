theorem okF.more {f : Nat → Int32} {k : Nat} (h : okF f k) : okF f (k + 1) := by
  obtain ⟨h0, h1, h2, h3, h4, h5, m, hm, e⟩ := h
  exact ⟨h0, h1, h2, h3, h4, h5, m, by rw [Nat.pow_succ]; omega, e⟩
theorem SM_add {A B : St} (h : Rel A B) (x1 x2 x3 x4 x5 x6 : Int32) : SM (f_X5_add x1 x2 x3 x4 x5 x6 A) (f_X6_add x1 x2 x3 x4 x5 x6 B) := by
  have h0 := h
  obtain ⟨⟨k, hb⟩, _⟩ := h0
  have hk := hb.1
  unfold f_X5_add f_X6_add
  refine SM_chk (fits_eq (w := 0) (by omega) x1) (mayBe_eq (w := 0) (by omega) x1) (fun _ => SM_find h 0 (by decide)) fun q1 => ?_
  refine SM_chk (fits_eq (w := 1) (by omega) x2) (mayBe_eq (w := 1) (by omega) x2) (fun _ => SM_find h 0 (by decide)) fun q2 => ?_
  refine SM_chk (fits_eq (w := 2) (by omega) x3) (mayBe_eq (w := 2) (by omega) x3) (fun _ => SM_find h 0 (by decide)) fun q3 => ?_
  refine SM_chk (fits_eq (w := 3) (by omega) x4) (mayBe_eq (w := 3) (by omega) x4) (fun _ => SM_find h 0 (by decide)) fun q4 => ?_
  refine SM_chk (fits_eq (w := 4) (by omega) x5) (mayBe_eq (w := 4) (by omega) x5) (fun _ => SM_find h 0 (by decide)) fun q5 => ?_
  refine SM_chk (fits_eq (w := 5) (by omega) x6) (mayBe_eq (w := 5) (by omega) x6) (fun _ => SM_find h 0 (by decide)) fun q6 => ?_
  obtain ⟨h1, h2, h3, h4, h5, h6, h7, h8, h9, h10⟩ := hb
  simp only [bv_i, h2, h3]
  by_cases hc : k = 12
  · subst hc
    rw [if_neg (show ¬ nI 12 < 12 by decide), if_pos (show nI 12 = 12 from rfl)]
    exact SM_find h 1 (by decide)
  · rw [if_pos (show nI k < 12 from nI_lt (b := 12) (by omega) (by decide)), if_neg (show ¬ nI k = 12 from fun q => hc ((nI_eq (b := 12) (by omega) (by decide)).mp q))]
    have e : (1 : Int32) + 8 * nI k = nI (1 + 8 * k) := by
      show nI 1 + nI 8 * nI k = _
      rw [pk_mul, nI_add]
    have e0 : nI (1 + 8 * k) + 0 = nI (1 + 8 * k + 0) := nI_add _ 0
    have e1 : nI (1 + 8 * k) + 1 = nI (1 + 8 * k + 1) := nI_add _ 1
    have e2 : nI (1 + 8 * k) + 2 = nI (1 + 8 * k + 2) := nI_add _ 2
    have e3 : nI (1 + 8 * k) + 3 = nI (1 + 8 * k + 3) := nI_add _ 3
    have e4 : nI (1 + 8 * k) + 4 = nI (1 + 8 * k + 4) := nI_add _ 4
    have e5 : nI (1 + 8 * k) + 5 = nI (1 + 8 * k + 5) := nI_add _ 5
    have e6 : nI (1 + 8 * k) + 6 = nI (1 + 8 * k + 6) := nI_add _ 6
    have e7 : nI (1 + 8 * k) + 7 = nI (1 + 8 * k + 7) := nI_add _ 7
    rw [e, e0, e1, e2, e3, e4, e5, e6, e7]
    have ek : nI k + 1 = nI (k + 1) := nI_1 k
    simp (disch := omega) only [gI_ok, nIc, upI_o, h3, upI_s, ek]
    rw [nI_pred]
    unfold lo hi at q1 q2 q3 q4 q5 q6
    refine SM_ret rfl (h.bank (k := k + 1) (fun c hc => ?_) rfl (fun c hc => ?_) rfl ⟨by omega, ?_, ?_, fun i hi u hu => ?_, fun i hi => ?_, fun j hj => ?_, fun j hj => ?_, fun j hj => ?_, ?_, ?_⟩)
    · simp (disch := omega) only [upI_r]
    · simp (disch := omega) only [upI_r]
    · simp (disch := omega) only [upI_o, upI_s]
    · simp (disch := omega) only [upI_o, upI_s]
    · by_cases q : i = k
      · subst q
        have hc : u = 0 ∨ u = 1 ∨ u = 2 ∨ u = 3 ∨ u = 4 ∨ u = 5 ∨ u = 6 ∨ u = 7 := by omega
        rcases hc with rfl | rfl | rfl | rfl | rfl | rfl | rfl | rfl <;> simp (disch := omega) only [upI_o, upI_s, Nat.reduceAdd]
      · simp (disch := omega) only [upI_o]
        exact h4 i (by omega) u hu
    · by_cases q : i = k
      · subst q
        unfold okF
        simp (disch := omega) only [upI_o, upI_s, Nat.reduceAdd]
        exact ⟨⟨(fa_le _ _).mpr q1.1, (fa_le _ _).mpr q1.2⟩, ⟨(fa_le _ _).mpr q2.1, (fa_le _ _).mpr q2.2⟩, ⟨(fa_le _ _).mpr q3.1, (fa_le _ _).mpr q3.2⟩, ⟨(fa_le _ _).mpr q4.1, (fa_le _ _).mpr q4.2⟩, ⟨(fa_le _ _).mpr q5.1, (fa_le _ _).mpr q5.2⟩, ⟨(fa_le _ _).mpr q6.1, (fa_le _ _).mpr q6.2⟩, 0, Nat.two_pow_pos _, rfl⟩
      · have o := (h5 i (by omega)).more
        unfold okF at o ⊢
        simp (disch := omega) only [upI_o] at o ⊢
        exact o
    · simp (disch := omega) only [upI_o]
      exact h6 j hj
    · simp (disch := omega) only [upI_o]
      exact h7 j hj
    · simp (disch := omega) only [upI_o]
      exact h8 j hj
    · simp (disch := omega) only [upI_o]
      exact h9
    · simp (disch := omega) only [upI_o]
      exact h10
theorem SM_status {A B : St} (h : Rel A B) (x1 : Int32) : SM (f_X5_status x1 A) (f_X6_status x1 B) := by
  have hf := h.2.2.1
  unfold f_X5_status f_X6_status
  refine SM_chk (within_eq x1 (-1) 7) (in_eq x1 (-1) 7) (fun _ => SM_find h 0 (by decide)) fun q => ?_
  have step6 : ∀ (i : Nat), i < 8 → ∀ v : Int32, f_X6_status_L24 B x1 v (nI i) = some (.inl (v + (if x1 < 0 then B.1 3 i else if x1 = nI i then B.1 3 i else 0), nI (i + 1))) := by
    intro i hi v
    unfold f_X6_status_L24
    rw [if_neg (show ¬ 8 ≤ nI i from nI_ge (b := 8) hi (by decide))]
    have ei : nI i + 1 = nI (i + 1) := nI_1 i
    simp (disch := omega) only [gI_ok, nIc, bv_i, ei]
    by_cases c1 : x1 < 0
    · rw [if_pos c1, if_pos c1]
    · rw [if_neg c1, if_neg c1]
      by_cases c2 : x1 = nI i
      · rw [if_pos c2, if_pos c2]
      · rw [if_neg c2, if_neg c2]
  have end6 : ∀ v : Int32, f_X6_status_L24 B x1 v (nI 8) = some (.inr v) := fun v => by
    unfold f_X6_status_L24
    rw [if_pos (show 8 ≤ nI 8 by decide)]
  by_cases c1 : x1 < 0
  · rw [if_pos c1]
    obtain ⟨r, p, e1, e2, e3⟩ := loop2 (b := fun s : Int32 × Int32 => f_X5_status_L31 A s.1 s.2) (c := fun s : Int32 × Int32 => f_X6_status_L24 B x1 s.1 s.2) (s := (0, 0)) (t := (0, 0)) (fun i s t => s = t ∧ s.2 = nI i) (fun r p => r = p) 8 ⟨rfl, rfl⟩ (by
      rintro i ⟨v, j⟩ t hi ⟨rfl, rfl⟩
      by_cases hi8 : i = 8
      · subst hi8
        refine Or.inr ⟨v, v, ?_, end6 v, rfl⟩
        show f_X5_status_L31 A v (nI 8) = _
        unfold f_X5_status_L31
        rw [if_pos (show 8 ≤ nI 8 by decide)]
      · refine Or.inl ⟨(v + A.1 1 i, nI (i + 1)), _, ?_, step6 i (by omega) v, by omega, ?_⟩
        · show f_X5_status_L31 A v (nI i) = _
          unfold f_X5_status_L31
          have ei : nI i + 1 = nI (i + 1) := nI_1 i
          rw [if_neg (show ¬ 8 ≤ nI i from nI_ge (b := 8) (by omega) (by decide))]
          simp (disch := omega) only [gI_ok, nIc, bv_i, ei]
        · rw [if_pos c1, hf i (by omega)]
          exact ⟨rfl, rfl⟩)
    rw [cl_s e1, cl_s e2]
    exact SM_ret e3 h
  · rw [if_neg c1]
    have z : (0 : Int32).toInt = 0 := rfl
    have q0 : 0 ≤ x1.toInt := Int.not_lt.mp fun q => c1 ((fa_lt x1 0).mpr q)
    obtain ⟨n, hn, rfl⟩ := nat_of (M := 7) q0 q.2
    obtain ⟨r, e2, e3⟩ := loop1 (b := fun s : Int32 × Int32 => f_X6_status_L24 B (nI n) s.1 s.2) (s := (0, 0)) (fun i s => s = (if n < i then B.1 3 n else 0, nI i)) (fun r => r = B.1 3 n) 8 rfl (by
      rintro i s hi rfl
      by_cases hi8 : i = 8
      · subst hi8
        refine Or.inr ⟨_, end6 _, ?_⟩
        rw [if_pos (by omega)]
      · refine Or.inl ⟨_, step6 i (by omega) _, by omega, ?_⟩
        rw [if_neg c1]
        by_cases c2 : n = i
        · subst c2
          rw [if_pos rfl, if_neg (by omega), if_pos (by omega), Int32.zero_add]
        · rw [if_neg (fun q => c2 ((nI_eq (by omega) (by omega)).mp q)), Int32.add_zero]
          by_cases c3 : n < i
          · rw [if_pos c3, if_pos (by omega)]
          · rw [if_neg c3, if_neg (by omega)])
    rw [cl_s e2, gI_ok (by omega) (by decide), nIc (by omega), e3]
    exact SM_ret (hf n (by omega)) h
