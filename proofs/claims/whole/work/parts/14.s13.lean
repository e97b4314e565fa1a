section
variable {A B : St} {k m : Nat}
theorem r2_eq6 (hb : bankRel 3 1 k A B) (hm : m < 2 ^ k) : ∃ q, f_X6_areTopics (nI m) B = some q ∧ (q = true ↔ rl A k m 2) := by
  have hk := hb.1
  have hB := hb.2.2.1
  have hp := pow_le hk
  have inner : ∀ t, t < 4 → f_X6_areTopics_L2 B (nI m) (nI t) = f_X6_areTopics_X57_2 B (nI m) (nI t) (nI (cnt A 6 k m (nI t))) := fun t ht => by
    unfold f_X6_areTopics_L2
    rw [if_neg (show ¬ 4 ≤ nI t from nI_ge (b := 4) ht (by decide))]
    rw [cl_s (cnt_loop (A := A) (c := 6) (k := k) (m := m) (v := nI t) (b := fun s : Int32 × Int32 => f_X6_areTopics_L12 B (nI m) (nI t) s.1 s.2) (fun i hi x => by
      dsimp only
      unfold f_X6_areTopics_L12
      have ei : nI i + 1 = nI (i + 1) := nI_1 i
      have i2 : f_X6_it (nI i) 1 B = some (B.1 1 (1 + 8 * i + 1)) := it_eq (w := 1) (by omega) (by omega)
      have e2 : A.1 6 i = B.1 1 (1 + 8 * i + 1) := hb.2.2.2.1 i hi 1 (by omega)
      rw [if_neg (nI_ends hB hk hi), cl_s (has6_eq (by omega) (by omega)), cl_s i2, ← e2]
      simp only [bv_i, ei]
      cases m.testBit i
      · rw [if_pos (by decide)]; rfl
      · rw [if_neg (by decide)]
        by_cases q : A.1 6 i = nI t
        · rw [if_pos q, decide_eq_true q]; rfl
        · rw [if_neg q, decide_eq_false q]; rfl) (fun x => by
      dsimp only
      unfold f_X6_areTopics_L12
      rw [if_pos (nI_end hB)]))]
  have outer : ∀ t, t < 4 → f_X6_areTopics_X57_2 B (nI m) (nI t) (nI (cnt A 6 k m (nI t))) = if (A.1 15 t ≤ nI (cnt A 6 k m (nI t)) ∧ nI (cnt A 6 k m (nI t)) ≤ A.1 16 t) then some (.inl (nI (t + 1))) else some (.inr (.inr false)) := fun t ht => by
    unfold f_X6_areTopics_X57_2
    have ei : nI t + 1 = nI (t + 1) := nI_1 t
    have e : (105 : Int32) + 2 * nI t = nI (105 + 2 * t) := by
      show nI 105 + nI 2 * nI t = _
      rw [pk_mul, nI_add]
    have e2 : nI (105 + 2 * t) + 1 = nI (106 + 2 * t) := (nI_1 _).trans (congrArg nI (by omega))
    have v1 : A.1 15 t = B.1 1 (105 + 2 * t) := (hb.2.2.2.2.2.1 t ht).2.2.1
    have v2 : A.1 16 t = B.1 1 (106 + 2 * t) := (hb.2.2.2.2.2.1 t ht).2.2.2
    rw [e, e2]
    simp (disch := omega) only [gI_ok, nIc, bv_i, ei]
    rw [in_eqL, cl_i, Int32.toInt_toInt64, Int32.toInt_toInt64, Int32.toInt_toInt64, ← v1, ← v2]
    by_cases q : A.1 15 t ≤ nI (cnt A 6 k m (nI t)) ∧ nI (cnt A 6 k m (nI t)) ≤ A.1 16 t
    · rw [if_pos q, decide_eq_true ⟨(fa_le _ _).mp q.1, (fa_le _ _).mp q.2⟩, if_neg (by decide)]
    · rw [if_neg q, decide_eq_false (fun z => q ⟨(fa_le _ _).mpr z.1, (fa_le _ _).mpr z.2⟩), if_pos (by decide)]
  exact loop_all (b := fun s => f_X6_areTopics_L2 B (nI m) s) 4 (fun t => A.1 15 t ≤ nI (cnt A 6 k m (nI t)) ∧ nI (cnt A 6 k m (nI t)) ≤ A.1 16 t) (fun t ht q => by
    rw [inner t ht, outer t ht, if_pos q]) (fun t ht q => by
    rw [inner t ht, outer t ht, if_neg q]) (by
    unfold f_X6_areTopics_L2
    rw [if_pos (show 4 ≤ nI 4 by decide)])
theorem r5_eq6 (hb : bankRel 3 1 k A B) (hm : m < 2 ^ k) : ∃ q, f_X6_areTexts (nI m) B = some q ∧ (q = true ↔ rl A k m 5) := by
  have hk := hb.1
  have hB := hb.2.2.1
  have hp := pow_le hk
  have inner : ∀ t, t < 4 → f_X6_areTexts_L2 B (nI m) (nI t) = f_X6_areTexts_X57_2 B (nI m) (nI t) (nI (cnt A 10 k m (nI t))) := fun t ht => by
    unfold f_X6_areTexts_L2
    rw [if_neg (show ¬ 4 ≤ nI t from nI_ge (b := 4) ht (by decide))]
    rw [cl_s (cnt_loop (A := A) (c := 10) (k := k) (m := m) (v := nI t) (b := fun s : Int32 × Int32 => f_X6_areTexts_L12 B (nI m) (nI t) s.1 s.2) (fun i hi x => by
      dsimp only
      unfold f_X6_areTexts_L12
      have ei : nI i + 1 = nI (i + 1) := nI_1 i
      have i2 : f_X6_it (nI i) 5 B = some (B.1 1 (1 + 8 * i + 5)) := it_eq (w := 5) (by omega) (by omega)
      have e2 : A.1 10 i = B.1 1 (1 + 8 * i + 5) := hb.2.2.2.1 i hi 5 (by omega)
      rw [if_neg (nI_ends hB hk hi), cl_s (has6_eq (by omega) (by omega)), cl_s i2, ← e2]
      simp only [bv_i, ei]
      cases m.testBit i
      · rw [if_pos (by decide)]; rfl
      · rw [if_neg (by decide)]
        by_cases q : A.1 10 i = nI t
        · rw [if_pos q, decide_eq_true q]; rfl
        · rw [if_neg q, decide_eq_false q]; rfl) (fun x => by
      dsimp only
      unfold f_X6_areTexts_L12
      rw [if_pos (nI_end hB)]))]
  have outer : ∀ t, t < 4 → f_X6_areTexts_X57_2 B (nI m) (nI t) (nI (cnt A 10 k m (nI t))) = if cnt A 10 k m (nI t) ≠ 1 then some (.inl (nI (t + 1))) else some (.inr (.inr false)) := fun t ht => by
    unfold f_X6_areTexts_X57_2
    have ei : nI t + 1 = nI (t + 1) := nI_1 t
    have hc := cnt_le A 10 k m (nI t)
    simp only [bv_i, ei]
    by_cases q : cnt A 10 k m (nI t) = 1
    · rw [q, if_pos (show nI 1 = 1 from rfl), if_neg (by simp)]
    · rw [if_neg (show ¬ nI (cnt A 10 k m (nI t)) = 1 from fun z => q ((nI_eq (b := 1) (by omega) (by decide)).mp z)), if_pos q]
  exact loop_all (b := fun s => f_X6_areTexts_L2 B (nI m) s) 4 (fun t => cnt A 10 k m (nI t) ≠ 1) (fun t ht q => by
    rw [inner t ht, outer t ht, if_pos q]) (fun t ht q => by
    rw [inner t ht, outer t ht, if_neg q]) (by
    unfold f_X6_areTexts_L2
    rw [if_pos (show 4 ≤ nI 4 by decide)])
theorem and_comm32 (x y : Int32) : x &&& y = y &&& x := Int32.toBitVec_inj.mp (by rw [Int32.toBitVec_and, Int32.toBitVec_and, BitVec.and_comm])
theorem r4_eq6 (hb : bankRel 3 1 k A B) (hm : m < 2 ^ k) : ∃ q, f_X6_areFriends (nI m) B = some q ∧ (q = true ↔ rl A k m 4) := by
  have hk := hb.1
  have hB := hb.2.2.1
  have hp := pow_le hk
  exact loop_all (b := fun s => f_X6_areFriends_L2 B (nI m) s) k (fun i => m.testBit i = true → nI m &&& A.1 12 i = 0) (fun i hi q => by
    unfold f_X6_areFriends_L2
    have ei : nI i + 1 = nI (i + 1) := nI_1 i
    have i2 : f_X6_it (nI i) 7 B = some (B.1 1 (1 + 8 * i + 7)) := it_eq (w := 7) (by omega) (by omega)
    have e2 : A.1 12 i = B.1 1 (1 + 8 * i + 7) := hb.2.2.2.1 i hi 7 (by omega)
    rw [if_neg (nI_ends hB hk hi), cl_s (has6_eq (by omega) (by omega)), cl_s i2, ← e2, and_comm32]
    simp only [bv_i, ei]
    cases hb : m.testBit i
    · rw [if_pos (by decide)]
    · rw [if_neg (by decide), if_pos (q hb)]) (fun i hi q => by
    unfold f_X6_areFriends_L2
    obtain ⟨hb2, q⟩ := Classical.not_imp.mp q
    have i2 : f_X6_it (nI i) 7 B = some (B.1 1 (1 + 8 * i + 7)) := it_eq (w := 7) (by omega) (by omega)
    have e2 : A.1 12 i = B.1 1 (1 + 8 * i + 7) := hb.2.2.2.1 i hi 7 (by omega)
    rw [if_neg (nI_ends hB hk hi), cl_s (has6_eq (by omega) (by omega)), cl_s i2, ← e2, and_comm32, hb2, if_neg (by decide), if_neg q]) (by
    unfold f_X6_areFriends_L2
    rw [if_pos (nI_end hB)])
theorem r6_eq6 (hb : bankRel 3 1 k A B) (hm : m < 2 ^ k) : ∃ q, f_X6_areFresh (nI m) B = some q ∧ (q = true ↔ rl A k m 6) := by
  have hk := hb.1
  have hB := hb.2.2.1
  have hp := pow_le hk
  have e3 : A.1 17 2 = B.1 1 115 := hb.2.2.2.2.2.2.2.1 2 (by omega)
  exact loop_all (b := fun s => f_X6_areFresh_L2 B (nI m) s) k (fun i => m.testBit i = true → A.1 11 i < A.1 17 2) (fun i hi q => by
    unfold f_X6_areFresh_L2
    have ei : nI i + 1 = nI (i + 1) := nI_1 i
    have i2 : f_X6_it (nI i) 6 B = some (B.1 1 (1 + 8 * i + 6)) := it_eq (w := 6) (by omega) (by omega)
    have e2 : A.1 11 i = B.1 1 (1 + 8 * i + 6) := hb.2.2.2.1 i hi 6 (by omega)
    rw [if_neg (nI_ends hB hk hi), cl_s (has6_eq (by omega) (by omega)), cl_s i2, ← e2, ← e3]
    simp only [bv_i, ei]
    cases hb : m.testBit i
    · rw [if_pos (by decide)]
    · rw [if_neg (by decide), if_pos (q hb)]) (fun i hi q => by
    unfold f_X6_areFresh_L2
    obtain ⟨hb2, q⟩ := Classical.not_imp.mp q
    have i2 : f_X6_it (nI i) 6 B = some (B.1 1 (1 + 8 * i + 6)) := it_eq (w := 6) (by omega) (by omega)
    have e2 : A.1 11 i = B.1 1 (1 + 8 * i + 6) := hb.2.2.2.1 i hi 6 (by omega)
    rw [if_neg (nI_ends hB hk hi), cl_s (has6_eq (by omega) (by omega)), cl_s i2, ← e2, ← e3, hb2, if_neg (by decide), if_neg q]) (by
    unfold f_X6_areFresh_L2
    rw [if_pos (nI_end hB)])
theorem isSo_eq (hb : bankRel 3 1 k A B) (hm : m < 2 ^ k) {r : Nat} (h1 : 1 ≤ r) (h6 : r ≤ 6) : ∃ q, f_X6_isSo (nI r) (nI m) B = some q ∧ (q = true ↔ rl A k m r) := by
  have hk := hb.1
  have hp := pow_le hk
  have hc : r = 1 ∨ r = 2 ∨ r = 3 ∨ r = 4 ∨ r = 5 ∨ r = 6 := by omega
  unfold f_X6_isSo
  rcases hc with rfl | rfl | rfl | rfl | rfl | rfl
  · have e : A.1 17 0 = B.1 1 113 := hb.2.2.2.2.2.2.2.1 0 (by omega)
    rw [if_pos (show nI 1 = 1 from rfl), cl_s (bits_eq (by omega)), ← e]
    by_cases q : nI (pc m) = A.1 17 0
    · rw [if_pos q]; exact ⟨true, rfl, by simp; exact q⟩
    · rw [if_neg q]; exact ⟨false, rfl, by simp; exact q⟩
  · rw [if_neg (show ¬ nI 2 = 1 by decide), if_pos (show nI 2 = 2 from rfl)]
    obtain ⟨q, e, hq⟩ := r2_eq6 hb hm
    rw [cl_s e]; exact ⟨q, rfl, hq⟩
  · have e : A.1 17 1 = B.1 1 114 := hb.2.2.2.2.2.2.2.1 1 (by omega)
    rw [if_neg (show ¬ nI 3 = 1 by decide), if_neg (show ¬ nI 3 = 2 by decide), if_pos (show nI 3 = 3 from rfl), cl_s (mins6_eq hb (by omega)), ← e]
    by_cases q : A.1 17 1 < mins A k m
    · rw [if_pos q]; exact ⟨false, rfl, by simp; exact (fa_of_lt q).2.1⟩
    · rw [if_neg q]; exact ⟨true, rfl, by simp; exact fa_of_nlt q⟩
  · rw [if_neg (show ¬ nI 4 = 1 by decide), if_neg (show ¬ nI 4 = 2 by decide), if_neg (show ¬ nI 4 = 3 by decide), if_pos (show nI 4 = 4 from rfl)]
    obtain ⟨q, e, hq⟩ := r4_eq6 hb hm
    rw [cl_s e]; exact ⟨q, rfl, hq⟩
  · rw [if_neg (show ¬ nI 5 = 1 by decide), if_neg (show ¬ nI 5 = 2 by decide), if_neg (show ¬ nI 5 = 3 by decide), if_neg (show ¬ nI 5 = 4 by decide), if_pos (show nI 5 = 5 from rfl)]
    obtain ⟨q, e, hq⟩ := r5_eq6 hb hm
    rw [cl_s e]; exact ⟨q, rfl, hq⟩
  · rw [if_neg (show ¬ nI 6 = 1 by decide), if_neg (show ¬ nI 6 = 2 by decide), if_neg (show ¬ nI 6 = 3 by decide), if_neg (show ¬ nI 6 = 4 by decide), if_neg (show ¬ nI 6 = 5 by decide)]
    obtain ⟨q, e, hq⟩ := r6_eq6 hb hm
    rw [cl_s e]; exact ⟨q, rfl, hq⟩
/-- the least rule that isn't so, but for one; 0: none -/
def IsBr (A : St) (k m sp : Nat) (r : Nat) : Prop := (r = 0 ∧ ∀ q, 1 ≤ q → q ≤ 6 → q ≠ sp → rl A k m q) ∨ (1 ≤ r ∧ r ≤ 6 ∧ r ≠ sp ∧ ¬ rl A k m r ∧ ∀ q, 1 ≤ q → q < r → q ≠ sp → rl A k m q)
theorem IsBr.one {sp r r2 : Nat} (h : IsBr A k m sp r) (h2 : IsBr A k m sp r2) : r = r2 := by
  rcases h with ⟨rfl, h⟩ | ⟨h1, h6, hs, hn, h⟩
  · rcases h2 with ⟨rfl, g⟩ | ⟨g1, g6, gs, gn, g⟩
    · rfl
    · exact absurd (h r2 g1 g6 gs) gn
  · rcases h2 with ⟨rfl, g⟩ | ⟨g1, g6, gs, gn, g⟩
    · exact absurd (g r h1 h6 hs) hn
    · rcases Nat.lt_trichotomy r r2 with z | z | z
      · exact absurd (g r h1 z hs) hn
      · exact z
      · exact absurd (h r2 g1 z gs) gn
theorem loop_br {b : Int32 → Option (Int32 ⊕ (Unit ⊕ Int32))} {sp : Nat} (h0 : ∀ r, 1 ≤ r → r ≤ 6 → r ≠ sp → ¬ rl A k m r → b (nI r) = some (.inr (.inr (nI r)))) (h1 : ∀ r, 1 ≤ r → r ≤ 6 → (r = sp ∨ rl A k m r) → b (nI r) = some (.inl (nI (r + 1)))) (he : b (nI 7) = some (.inr (.inl ()))) : ∃ r, cl (loop b 1) (Sum.elim (fun _ => some 0) (fun t => some t)) = some (nI r) ∧ IsBr A k m sp r := by
  obtain ⟨r, e, q⟩ := loop1 (b := b) (s := 1) (fun i s => s = nI (i + 1) ∧ ∀ q, 1 ≤ q → q ≤ i → q ≠ sp → rl A k m q) (fun r => (r = .inl () ∧ IsBr A k m sp 0) ∨ ∃ q, r = .inr (nI q) ∧ IsBr A k m sp q) 6 ⟨rfl, fun q h1 h2 => absurd h1 (by omega)⟩ (by
    rintro i s hi ⟨rfl, hj⟩
    by_cases hin : i = 6
    · subst hin
      exact Or.inr ⟨_, he, Or.inl ⟨rfl, Or.inl ⟨rfl, hj⟩⟩⟩
    · by_cases q : (i + 1 = sp ∨ rl A k m (i + 1))
      · refine Or.inl ⟨_, h1 (i + 1) (by omega) (by omega) q, by omega, rfl, fun j hj1 hj2 hjs => ?_⟩
        by_cases z : j = i + 1
        · subst z
          rcases q with q | q
          · exact absurd q hjs
          · exact q
        · exact hj j hj1 (by omega) hjs
      · have q1 : i + 1 ≠ sp := fun z => q (Or.inl z)
        have q2 : ¬ rl A k m (i + 1) := fun z => q (Or.inr z)
        exact Or.inr ⟨_, h0 (i + 1) (by omega) (by omega) q1 q2, Or.inr ⟨i + 1, rfl, Or.inr ⟨by omega, by omega, q1, q2, fun q h1 h2 h3 => hj q h1 (by omega) h3⟩⟩⟩)
  rw [cl_s e]
  rcases q with ⟨rfl, q⟩ | ⟨r, rfl, q⟩
  · exact ⟨0, rfl, q⟩
  · exact ⟨r, rfl, q⟩
theorem broken_eq (hA : A.1 3 0 = nI k) (hk : k ≤ 12) (hR : RR A k) (hm : m < 2 ^ k) {sp : Nat} (hs : sp ≤ 6) : ∃ r, f_X1_brokenRule (nI m) (nI sp) A = some (nI r) ∧ IsBr A k m sp r := by
  exact loop_br (b := fun s => f_X1_brokenRule_L2 A (nI m) (nI sp) s) (fun r h1 h6 hs2 hn => by
    obtain ⟨q, e, hq⟩ := keeps_eq hA hk hR hm h1 h6
    unfold f_X1_brokenRule_L2
    rw [if_neg (show ¬ 6 < nI r from nI_nlt (a := 6) (by omega) (by decide)), if_neg (fun z => hs2 ((nI_eq (by omega) (by omega)).mp z)), cl_s e, Bool.eq_false_iff.mpr (fun z => hn (hq.mp z)), if_pos (by decide)]) (fun r h1 h6 h => by
    obtain ⟨q, e, hq⟩ := keeps_eq hA hk hR hm h1 h6
    have ei : nI r + 1 = nI (r + 1) := nI_1 r
    unfold f_X1_brokenRule_L2
    rw [if_neg (show ¬ 6 < nI r from nI_nlt (a := 6) (by omega) (by decide))]
    simp only [bv_i, ei]
    by_cases z : r = sp
    · rw [if_pos (by rw [z])]
    · rcases h with h | h
      · exact absurd h z
      · rw [if_neg (fun y => z ((nI_eq (by omega) (by omega)).mp y)), cl_s e, hq.mpr h, if_neg (by decide)]) (by
    unfold f_X1_brokenRule_L2
    rw [if_pos (show 6 < nI 7 by decide)])
theorem broken_eq6 (hb : bankRel 3 1 k A B) (hm : m < 2 ^ k) {sp : Nat} (hs : sp ≤ 6) : ∃ r, f_X6_againstBut (nI m) (nI sp) B = some (nI r) ∧ IsBr A k m sp r := by
  exact loop_br (b := fun s => f_X6_againstBut_L2 B (nI m) (nI sp) s) (fun r h1 h6 hs2 hn => by
    obtain ⟨q, e, hq⟩ := isSo_eq hb hm h1 h6
    unfold f_X6_againstBut_L2
    rw [if_neg (show ¬ 6 < nI r from nI_nlt (a := 6) (by omega) (by decide)), if_neg (fun z => hs2 ((nI_eq (by omega) (by omega)).mp z)), cl_s e, Bool.eq_false_iff.mpr (fun z => hn (hq.mp z)), if_pos (by decide)]) (fun r h1 h6 h => by
    obtain ⟨q, e, hq⟩ := isSo_eq hb hm h1 h6
    have ei : nI r + 1 = nI (r + 1) := nI_1 r
    unfold f_X6_againstBut_L2
    rw [if_neg (show ¬ 6 < nI r from nI_nlt (a := 6) (by omega) (by decide))]
    simp only [bv_i, ei]
    by_cases z : r = sp
    · rw [if_pos (by rw [z])]
    · rcases h with h | h
      · exact absurd h z
      · rw [if_neg (fun y => z ((nI_eq (by omega) (by omega)).mp y)), cl_s e, hq.mpr h, if_neg (by decide)]) (by
    unfold f_X6_againstBut_L2
    rw [if_pos (show 6 < nI 7 by decide)])
end
