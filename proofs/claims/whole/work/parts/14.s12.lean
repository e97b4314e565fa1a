/-! A loop that asks all of some; the first that fails ends it. -/
theorem loop_all {b : Int32 → Option (Int32 ⊕ (Unit ⊕ Bool))} (n : Nat) (p : Nat → Prop) (h1 : ∀ i, i < n → p i → b (nI i) = some (.inl (nI (i + 1)))) (h0 : ∀ i, i < n → ¬ p i → b (nI i) = some (.inr (.inr false))) (he : b (nI n) = some (.inr (.inl ()))) : ∃ q, cl (loop b 0) (Sum.elim (fun _ => some true) (fun t => some t)) = some q ∧ (q = true ↔ ∀ i, i < n → p i) := by
  obtain ⟨r, e, q⟩ := loop1 (b := b) (s := 0) (fun i s => s = nI i ∧ ∀ j, j < i → p j) (fun r => (r = .inl () ∧ ∀ j, j < n → p j) ∨ (r = .inr false ∧ ¬ ∀ j, j < n → p j)) n ⟨rfl, fun j hj => absurd hj (by omega)⟩ (by
    rintro i s hi ⟨rfl, hj⟩
    by_cases hin : i = n
    · subst hin
      exact Or.inr ⟨_, he, Or.inl ⟨rfl, hj⟩⟩
    · by_cases q : p i
      · refine Or.inl ⟨_, h1 i (by omega) q, by omega, rfl, fun j hj2 => ?_⟩
        by_cases z : j = i
        · rw [z]; exact q
        · exact hj j (by omega)
      · exact Or.inr ⟨_, h0 i (by omega) q, Or.inr ⟨rfl, fun z => q (z i (by omega))⟩⟩)
  rw [cl_s e]
  rcases q with ⟨rfl, q⟩ | ⟨rfl, q⟩
  · exact ⟨true, rfl, by simp; exact q⟩
  · exact ⟨false, rfl, by simp; exact Classical.not_forall.mp q |>.elim fun x hx => ⟨x, Classical.not_imp.mp hx⟩⟩
/-- how many of a set lie in a mask -/
theorem pc_mask {A : St} {k m M c : Nat} {v : Int32} (hk : k ≤ 12) (hm : m < 2 ^ k) (hM : ∀ j, j < k → (M.testBit j = true ↔ A.1 c j = v)) : pc (m &&& M) = cnt A c k m v := by
  unfold pc cnt
  obtain ⟨d, hd⟩ : ∃ d, 12 = k + d := ⟨12 - k, by omega⟩
  have hz : fb_ct (fun j => (m &&& M).testBit (k + j)) d = 0 := fb_ct_zero.mpr fun j hj => by rw [Nat.testBit_and, bit_hi hm (by omega)]; rfl
  rw [hd, fb_ct_split, hz, Nat.add_zero]
  refine fb_ct_cong fun j hj => ?_
  rw [Nat.testBit_and]
  by_cases q : A.1 c j = v
  · rw [(hM j hj).mpr q, decide_eq_true q]
  · rw [decide_eq_false q, Bool.eq_false_iff.mpr (fun z => q ((hM j hj).mp z))]
theorem cnt_le (A : St) (c k m : Nat) (v : Int32) : cnt A c k m v ≤ k := fb_ct_le _ _
/-- counting by a loop over the items, as the reference does -/
theorem cnt_loop {A : St} {b : Int32 × Int32 → Option ((Int32 × Int32) ⊕ Int32)} {c k m : Nat} {v : Int32} (h1 : ∀ i, i < k → ∀ x, b (x, nI i) = some (.inl (x + nI (if (m.testBit i && decide (A.1 c i = v)) then 1 else 0), nI (i + 1)))) (he : ∀ x, b (x, nI k) = some (.inr x)) : loop b (0, 0) = some (nI (cnt A c k m v)) := by
  rw [loop_sum _ k h1 he, sI_ct]
  rfl
section
variable {A B : St} {k m : Nat}
theorem and_zero_iff {W : Nat} (hk : k ≤ 12) (hm : m < 2 ^ k) : nI m &&& nI W = 0 ↔ ∀ i, i < k → m.testBit i = true → W.testBit i = false := by
  have hp := pow_le hk
  have hle : m &&& W ≤ m := Nat.and_le_left
  rw [fa_and]
  constructor
  · intro h i hi hb
    have h2 : m &&& W = 0 := (nI_eq (b := 0) (by omega) (by decide)).mp h
    have h3 : (m &&& W).testBit i = false := by rw [h2]; exact Nat.zero_testBit i
    rw [Nat.testBit_and, hb] at h3
    exact h3
  · intro h
    have h2 : m &&& W = 0 := by
      apply Nat.eq_of_testBit_eq
      intro i
      rw [Nat.testBit_and, Nat.zero_testBit]
      by_cases hi : i < k
      · cases hb : m.testBit i
        · rfl
        · rw [h i hi hb]; rfl
      · rw [bit_hi hm (by omega)]; rfl
    rw [h2]; rfl
theorem r2_eq (hA : A.1 3 0 = nI k) (hk : k ≤ 12) (hR : RR A k) (hm : m < 2 ^ k) : ∃ q, f_X1_keepsTopics (nI m) A = some q ∧ (q = true ↔ rl A k m 2) := by
  have hp := pow_le hk
  exact loop_all (b := fun s => f_X1_keepsTopics_L2 A (nI m) s) 4 (fun t => A.1 15 t ≤ nI (cnt A 6 k m (nI t)) ∧ nI (cnt A 6 k m (nI t)) ≤ A.1 16 t) (fun t ht q => by
    unfold f_X1_keepsTopics_L2
    obtain ⟨M, hM, eM, hj⟩ := hR.1 t ht
    have hle : m &&& M ≤ m := Nat.and_le_left
    have ei : nI t + 1 = nI (t + 1) := nI_1 t
    rw [if_neg (show ¬ 4 ≤ nI t from nI_ge (b := 4) ht (by decide))]
    simp (disch := omega) only [gI_ok, nIc, bv_i, ei]
    rw [eM, fa_and, cl_s (bc_eq (by omega)), pc_mask hk hm hj, if_neg (fun z => (fa_of_lt z).2.1 q.1), if_pos q.2]) (fun t ht q => by
    unfold f_X1_keepsTopics_L2
    obtain ⟨M, hM, eM, hj⟩ := hR.1 t ht
    have hle : m &&& M ≤ m := Nat.and_le_left
    have ei : nI t + 1 = nI (t + 1) := nI_1 t
    rw [if_neg (show ¬ 4 ≤ nI t from nI_ge (b := 4) ht (by decide))]
    simp (disch := omega) only [gI_ok, nIc, bv_i, ei]
    rw [eM, fa_and, cl_s (bc_eq (by omega)), pc_mask hk hm hj]
    by_cases z : nI (cnt A 6 k m (nI t)) < A.1 15 t
    · rw [if_pos z]
    · rw [if_neg z, if_neg (fun y => q ⟨fa_of_nlt z, y⟩)]) (by
    unfold f_X1_keepsTopics_L2
    rw [if_pos (show 4 ≤ nI 4 by decide)])
theorem r5_eq (hA : A.1 3 0 = nI k) (hk : k ≤ 12) (hR : RR A k) (hm : m < 2 ^ k) : ∃ q, f_X1_sharesTexts (nI m) A = some q ∧ (q = true ↔ rl A k m 5) := by
  have hp := pow_le hk
  exact loop_all (b := fun s => f_X1_sharesTexts_L2 A (nI m) s) 4 (fun t => cnt A 10 k m (nI t) ≠ 1) (fun t ht q => by
    unfold f_X1_sharesTexts_L2
    obtain ⟨M, hM, eM, hj⟩ := hR.2.1 t ht
    have hle : m &&& M ≤ m := Nat.and_le_left
    have hc := cnt_le A 10 k m (nI t)
    have ei : nI t + 1 = nI (t + 1) := nI_1 t
    rw [if_neg (show ¬ 4 ≤ nI t from nI_ge (b := 4) ht (by decide))]
    simp (disch := omega) only [gI_ok, nIc, bv_i, ei]
    rw [eM, fa_and, cl_s (bc_eq (by omega)), pc_mask hk hm hj, if_neg (show ¬ nI (cnt A 10 k m (nI t)) = 1 from fun z => q ((nI_eq (b := 1) (by omega) (by decide)).mp z))]) (fun t ht q => by
    unfold f_X1_sharesTexts_L2
    obtain ⟨M, hM, eM, hj⟩ := hR.2.1 t ht
    have hle : m &&& M ≤ m := Nat.and_le_left
    have ei : nI t + 1 = nI (t + 1) := nI_1 t
    rw [if_neg (show ¬ 4 ≤ nI t from nI_ge (b := 4) ht (by decide))]
    simp (disch := omega) only [gI_ok, nIc, bv_i, ei]
    rw [eM, fa_and, cl_s (bc_eq (by omega)), pc_mask hk hm hj, Decidable.not_not.mp q, if_pos (show nI 1 = 1 from rfl)]) (by
    unfold f_X1_sharesTexts_L2
    rw [if_pos (show 4 ≤ nI 4 by decide)])
theorem r4_eq (hA : A.1 3 0 = nI k) (hk : k ≤ 12) (hm : m < 2 ^ k) : ∃ q, f_X1_keepsPeace (nI m) A = some q ∧ (q = true ↔ rl A k m 4) := by
  have hp := pow_le hk
  exact loop_all (b := fun s => f_X1_keepsPeace_L2 A (nI m) s) k (fun i => m.testBit i = true → nI m &&& A.1 12 i = 0) (fun i hi q => by
    unfold f_X1_keepsPeace_L2
    have ei : nI i + 1 = nI (i + 1) := nI_1 i
    rw [if_neg (nI_ends hA hk hi), bit_eq (by omega) (by omega)]
    simp (disch := omega) only [gI_ok, nIc, bv_i, ei]
    cases hb : m.testBit i
    · rw [if_pos (by decide)]
    · rw [if_neg (by decide), if_pos (q hb)]) (fun i hi q => by
    unfold f_X1_keepsPeace_L2
    obtain ⟨hb, q⟩ := Classical.not_imp.mp q
    rw [if_neg (nI_ends hA hk hi), bit_eq (by omega) (by omega)]
    simp (disch := omega) only [gI_ok, nIc, bv_i, hb]
    rw [if_neg (by decide), if_neg q]) (by
    unfold f_X1_keepsPeace_L2
    rw [if_pos (nI_end hA)])
theorem keeps_eq (hA : A.1 3 0 = nI k) (hk : k ≤ 12) (hR : RR A k) (hm : m < 2 ^ k) {r : Nat} (h1 : 1 ≤ r) (h6 : r ≤ 6) : ∃ q, f_X1_keeps (nI m) (nI r) A = some q ∧ (q = true ↔ rl A k m r) := by
  have hp := pow_le hk
  have hc : r = 1 ∨ r = 2 ∨ r = 3 ∨ r = 4 ∨ r = 5 ∨ r = 6 := by omega
  unfold f_X1_keeps
  rcases hc with rfl | rfl | rfl | rfl | rfl | rfl
  · rw [if_pos (show nI 1 = 1 from rfl), cl_s (bc_eq (by omega))]
    by_cases q : nI (pc m) = A.1 17 0
    · rw [if_pos q]; exact ⟨true, rfl, by simp; exact q⟩
    · rw [if_neg q]; exact ⟨false, rfl, by simp; exact q⟩
  · rw [if_neg (show ¬ nI 2 = 1 by decide), if_pos (show nI 2 = 2 from rfl)]
    obtain ⟨q, e, hq⟩ := r2_eq hA hk hR hm
    rw [cl_s e]; exact ⟨q, rfl, hq⟩
  · rw [if_neg (show ¬ nI 3 = 1 by decide), if_neg (show ¬ nI 3 = 2 by decide), if_pos (show nI 3 = 3 from rfl), cl_s (mins_eq hA hk (by omega))]
    by_cases q : A.1 17 1 < mins A k m
    · rw [if_pos q]; exact ⟨false, rfl, by simp; exact (fa_of_lt q).2.1⟩
    · rw [if_neg q]; exact ⟨true, rfl, by simp; exact fa_of_nlt q⟩
  · rw [if_neg (show ¬ nI 4 = 1 by decide), if_neg (show ¬ nI 4 = 2 by decide), if_neg (show ¬ nI 4 = 3 by decide), if_pos (show nI 4 = 4 from rfl)]
    obtain ⟨q, e, hq⟩ := r4_eq hA hk hm
    rw [cl_s e]; exact ⟨q, rfl, hq⟩
  · rw [if_neg (show ¬ nI 5 = 1 by decide), if_neg (show ¬ nI 5 = 2 by decide), if_neg (show ¬ nI 5 = 3 by decide), if_neg (show ¬ nI 5 = 4 by decide), if_pos (show nI 5 = 5 from rfl)]
    obtain ⟨q, e, hq⟩ := r5_eq hA hk hR hm
    rw [cl_s e]; exact ⟨q, rfl, hq⟩
  · rw [if_neg (show ¬ nI 6 = 1 by decide), if_neg (show ¬ nI 6 = 2 by decide), if_neg (show ¬ nI 6 = 3 by decide), if_neg (show ¬ nI 6 = 4 by decide), if_neg (show ¬ nI 6 = 5 by decide)]
    obtain ⟨W, hW, eW, hj⟩ := hR.2.2
    rw [eW]
    have hz : nI m &&& nI W = 0 ↔ rl A k m 6 := by
      rw [and_zero_iff hk hm]
      show _ ↔ ∀ i, i < k → m.testBit i = true → A.1 11 i < A.1 17 2
      constructor
      · intro h i hi hb
        have := h i hi hb
        exact Decidable.not_not.mp (fun z => by rw [(hj i hi).mpr z] at this; cases this)
      · intro h i hi hb
        exact Bool.eq_false_iff.mpr fun z => (hj i hi).mp z (h i hi hb)
    by_cases q : nI m &&& nI W = 0
    · rw [if_pos q]; exact ⟨true, rfl, by simp; exact hz.mp q⟩
    · rw [if_neg q]; exact ⟨false, rfl, by simp; exact fun z => q (hz.mpr z)⟩
end
