/-! Sums, counts. -/
def sI (f : Nat → Int32) : Nat → Int32
  | 0 => 0
  | n + 1 => sI f n + f n
theorem sI_succ (f : Nat → Int32) (n : Nat) : sI f (n + 1) = sI f n + f n := rfl
theorem sI_cong {f g : Nat → Int32} : ∀ {n : Nat}, (∀ i, i < n → f i = g i) → sI f n = sI g n
  | 0, _ => rfl
  | n + 1, h => by
    unfold sI
    rw [sI_cong fun i hi => h i (by omega), h n (by omega)]
theorem loop_sum {b : Int32 × Int32 → Option ((Int32 × Int32) ⊕ Int32)} (f : Nat → Int32) (n : Nat) (h : ∀ i, i < n → ∀ v, b (v, nI i) = some (.inl (v + f i, nI (i + 1)))) (he : ∀ v, b (v, nI n) = some (.inr v)) : loop b (0, 0) = some (sI f n) :=
  loop_run n (fun i => (sI f i, nI i)) rfl (fun i hi => h i hi _) (he _)
theorem bc_eq {m : Nat} (hm : m < 4096) : f_J6_bitCount_0f7a4 (nI m) = some (nI (pc m)) := by
  have h := bc_tab (m / 64) (by omega) (m % 64) (by omega)
  rw [show 64 * (m / 64) + m % 64 = m by omega] at h
  exact h
theorem pc_le (m : Nat) : pc m ≤ 12 := fb_ct_le _ _
theorem sI_ct (p : Nat → Bool) : ∀ n, sI (fun i => nI (if p i then 1 else 0)) n = nI (fb_ct p n)
  | 0 => rfl
  | n + 1 => by
    unfold sI
    rw [sI_ct p n, nI_add]
    rfl
theorem bits_eq {m : Nat} (hm : m < 4096) : f_X6_bits (nI m) = some (nI (pc m)) := by
  unfold f_X6_bits
  have := loop_sum (b := fun s : Int32 × Int32 => f_X6_bits_L4 (nI m) s.1 s.2) (fun i => nI (if m.testBit i then 1 else 0)) 12 (fun i hi v => by
    dsimp only
    unfold f_X6_bits_L4
    have ei : nI i + 1 = nI (i + 1) := nI_1 i
    rw [if_neg (show ¬ 12 ≤ nI i from nI_ge (b := 12) hi (by decide)), bit_eq hm (by omega)]
    simp only [bv_i, ei]) (fun v => by
    dsimp only
    unfold f_X6_bits_L4
    rw [if_pos (show 12 ≤ nI 12 by decide)])
  rw [cl_s this, sI_ct]
  rfl
theorem nI_ends {A : St} {c : Nat} {k i : Nat} (h : A.1 c 0 = nI k) (hk : k ≤ 12) (hi : i < k) : ¬ A.1 c 0 ≤ nI i := by
  rw [h]; exact nI_ge hi (by omega)
theorem nI_end {A : St} {c : Nat} {k : Nat} (h : A.1 c 0 = nI k) : A.1 c 0 ≤ nI k := by
  rw [h]; exact Int32.le_refl _
theorem total_eq {A : St} {k w : Nat} (h : A.1 3 0 = nI k) (hk : k ≤ 12) (hw : w < 8) : f_X0_total (nI w) A = some (sI (fun i => A.1 (5 + w) i) k) := by
  unfold f_X0_total
  have := loop_sum (b := fun s : Int32 × Int32 => f_X0_total_L4 A (nI w) s.1 s.2) (fun i => A.1 (5 + w) i) k (fun i hi v => by
    dsimp only
    unfold f_X0_total_L4
    have ei : nI i + 1 = nI (i + 1) := nI_1 i
    rw [if_neg (nI_ends h hk hi)]
    simp (disch := omega) only [gI_ok, nIc, bv_i, ei]) (fun v => by
    dsimp only
    unfold f_X0_total_L4
    rw [if_pos (nI_end h)])
  rw [cl_s this]
  rfl
/-- the minutes of a set -/
def mins (A : St) (k m : Nat) : Int32 := sI (fun i => if m.testBit i then A.1 7 i else 0) k
theorem mins_eq {A : St} {k m : Nat} (h : A.1 3 0 = nI k) (hk : k ≤ 12) (hm : m < 4096) : f_X1_minutesOf (nI m) A = some (mins A k m) := by
  unfold f_X1_minutesOf
  have := loop_sum (b := fun s : Int32 × Int32 => f_X1_minutesOf_L4 A (nI m) s.1 s.2) (fun i => if m.testBit i then A.1 7 i else 0) k (fun i hi v => by
    dsimp only
    unfold f_X1_minutesOf_L4
    have ei : nI i + 1 = nI (i + 1) := nI_1 i
    rw [if_neg (nI_ends h hk hi), bit_eq hm (by omega)]
    simp (disch := omega) only [gI_ok, nIc, bv_i, ei]
    cases m.testBit i
    · rw [if_pos (by decide), if_neg (by decide), Int32.add_zero]
    · rw [if_neg (by decide), if_pos rfl]) (fun v => by
    dsimp only
    unfold f_X1_minutesOf_L4
    rw [if_pos (nI_end h)])
  rw [cl_s this]
  rfl
theorem mins6_eq {A B : St} {k m : Nat} (hb : bankRel 3 1 k A B) (hm : m < 4096) : f_X6_minutesOf (nI m) B = some (mins A k m) := by
  have hk := hb.1
  have h := hb.2.2.1
  unfold f_X6_minutesOf
  have := loop_sum (b := fun s : Int32 × Int32 => f_X6_minutesOf_L4 B (nI m) s.1 s.2) (fun i => if m.testBit i then A.1 7 i else 0) k (fun i hi v => by
    dsimp only
    unfold f_X6_minutesOf_L4
    have ei : nI i + 1 = nI (i + 1) := nI_1 i
    have i2 : f_X6_it (nI i) 2 B = some (B.1 1 (1 + 8 * i + 2)) := it_eq (w := 2) (by omega) (by omega)
    have e2 : A.1 7 i = B.1 1 (1 + 8 * i + 2) := hb.2.2.2.1 i hi 2 (by omega)
    rw [if_neg (nI_ends h hk hi), cl_s (has6_eq hm (by omega)), cl_s i2, e2]
    simp only [bv_i, ei]
    cases m.testBit i
    · rw [if_pos (by decide), if_neg (by decide)]
    · rw [if_neg (by decide), if_pos rfl]) (fun v => by
    dsimp only
    unfold f_X6_minutesOf_L4
    rw [if_pos (nI_end h)])
  rw [cl_s this]
  rfl
theorem SM_count {A B : St} (h : Rel A B) (x1 : Int32) : SM (f_X5_count x1 A) (f_X6_count x1 B) := by
  have h0 := h
  obtain ⟨⟨k, hb⟩, _, _, hs, _⟩ := h0
  have hb0 := hb
  obtain ⟨h1, h2, h3, h4, h5, h6, h7, h8, h9, h10⟩ := hb
  have hp := pow_le h1
  have em : ∀ i, i < k → ∃ m, m < 4096 ∧ A.1 12 i = nI m ∧ B.1 1 (1 + 8 * i + 7) = nI m := fun i hi => by
    obtain ⟨m, hm, e1, e2⟩ := enem_of hb0 hi
    exact ⟨m, by omega, e1, e2⟩
  unfold f_X6_count
  have l10 := loop_run (b := fun s : Int32 × Int32 × Int32 => f_X6_count_L10 B x1 0 s.1 s.2.1 s.2.2) (s := (0, 0, 0)) (r := (sI (fun i => nI (pc (A.1 12 i).toNatClampNeg)) k, sI (fun i => A.1 11 i) k)) k (fun i => (sI (fun i => nI (pc (A.1 12 i).toNatClampNeg)) i, sI (fun i => A.1 11 i) i, nI i)) rfl (fun i hi => by
    dsimp only
    unfold f_X6_count_L10
    obtain ⟨m, hm, e1, e2⟩ := em i hi
    have ei : nI i + 1 = nI (i + 1) := nI_1 i
    have i7 : f_X6_it (nI i) 7 B = some (B.1 1 (1 + 8 * i + 7)) := it_eq (w := 7) (by omega) (by omega)
    have i6 : f_X6_it (nI i) 6 B = some (B.1 1 (1 + 8 * i + 6)) := it_eq (w := 6) (by omega) (by omega)
    have e6 : A.1 11 i = B.1 1 (1 + 8 * i + 6) := h4 i hi 6 (by omega)
    rw [if_neg (nI_ends h3 h1 hi), cl_s i7, e2, cl_s (bits_eq hm), bv_i, cl_s i6, ← e6]
    simp only [bv_i, ei]
    rw [sI_succ, sI_succ, e1, nIc (by omega)]) (by
    dsimp only
    unfold f_X6_count_L10
    rw [if_pos (nI_end h3)])
  have st : ∀ s, s < 4 → ∃ r, f_X4_standing s A = some r ∧ f_X6_standing (nI s) B = some r := fun s hs' => stand_eq (hs s hs') hs'
  obtain ⟨st0, st0a, st0b⟩ := st 0 (by omega)
  obtain ⟨st1, st1a, st1b⟩ := st 1 (by omega)
  obtain ⟨st2, st2a, st2b⟩ := st 2 (by omega)
  obtain ⟨st3, st3a, st3b⟩ := st 3 (by omega)
  have sts : ∀ i, i < 4 → f_X4_standing i A = some ((fun i => if i = 0 then st0 else if i = 1 then st1 else if i = 2 then st2 else st3) i) ∧ f_X6_standing (nI i) B = some ((fun i => if i = 0 then st0 else if i = 1 then st1 else if i = 2 then st2 else st3) i) := fun i hi => by
    have hc : i = 0 ∨ i = 1 ∨ i = 2 ∨ i = 3 := by omega
    rcases hc with rfl | rfl | rfl | rfl
    · exact ⟨st0a, st0b⟩
    · exact ⟨st1a, st1b⟩
    · exact ⟨st2a, st2b⟩
    · exact ⟨st3a, st3b⟩
  generalize (fun i => if i = 0 then st0 else if i = 1 then st1 else if i = 2 then st2 else st3) = F at sts
  rw [cl_s l10]
  unfold f_X6_count_X52
  have l55 := loop_sum (b := fun s : Int32 × Int32 => f_X6_count_L55 B x1 (sI (fun i => nI (pc (A.1 12 i).toNatClampNeg)) k) (sI (fun i => A.1 11 i) k) s.1 s.2) F 4 (fun i hi v => by
    dsimp only
    unfold f_X6_count_L55
    have ei : nI i + 1 = nI (i + 1) := nI_1 i
    rw [if_neg (show ¬ 4 ≤ nI i from nI_ge (b := 4) hi (by decide)), cl_s (sts i hi).2]
    simp only [bv_i, ei]) (fun v => by
    dsimp only
    unfold f_X6_count_L55
    rw [if_pos (show 4 ≤ nI 4 by decide)])
  rw [cl_s l55]
  unfold f_X5_count f_X6_count_X78
  by_cases c0 : x1 = 0
  · rw [if_pos c0, if_pos c0]
    exact SM_ret (h2.trans h3.symm) h
  rw [if_neg c0, if_neg c0]
  by_cases c1 : x1 = 1
  · rw [if_pos c1, if_pos c1]
    unfold f_X0_twosOfEnemies
    have l4 := loop_sum (b := fun s : Int32 × Int32 => f_X0_twosOfEnemies_L4 A s.1 s.2) (fun i => nI (pc (A.1 12 i).toNatClampNeg)) k (fun i hi v => by
      dsimp only
      unfold f_X0_twosOfEnemies_L4
      obtain ⟨m, hm, e1, e2⟩ := em i hi
      have ei : nI i + 1 = nI (i + 1) := nI_1 i
      rw [if_neg (nI_ends h2 h1 hi)]
      simp (disch := omega) only [gI_ok, nIc]
      rw [e1, cl_s (bc_eq hm), nIc (by omega)]
      simp only [bv_i, ei]) (fun v => by
      dsimp only
      unfold f_X0_twosOfEnemies_L4
      rw [if_pos (nI_end h2)])
    rw [cl_s l4]
    exact SM_ret rfl h
  rw [if_neg c1, if_neg c1]
  by_cases c2 : x1 = 2
  · rw [if_pos c2, if_pos c2]
    have : f_X0_total 6 A = _ := total_eq (w := 6) h2 h1 (by omega)
    rw [cl_s this]
    exact SM_ret rfl h
  rw [if_neg c2, if_neg c2]
  by_cases c3 : x1 = 3
  · rw [if_pos c3, if_pos c3]
    have : f_X0_total 2 A = _ := total_eq (w := 2) h2 h1 (by omega)
    rw [cl_s this, h3, left_eq (by omega), cl_s (mins6_eq hb0 (by omega))]
    refine SM_ret ?_ h
    unfold mins
    refine sI_cong fun i hi => ?_
    rw [Nat.testBit_two_pow_sub_one, if_pos (decide_eq_true hi)]
  rw [if_neg c3, if_neg c3]
  by_cases c4 : x1 = 4
  · rw [if_pos c4, if_pos c4]
    exact SM_ret h10 h
  rw [if_neg c4, if_neg c4]
  by_cases c5 : x1 = 5
  · rw [if_pos c5, if_pos c5]
    unfold f_X5_standingOnAll
    have l4 := loop_sum (b := fun s : Int32 × Int32 => f_X5_standingOnAll_L4 A s.1 s.2) F 4 (fun i hi v => by
      dsimp only
      unfold f_X5_standingOnAll_L4
      have ei : nI i + 1 = nI (i + 1) := nI_1 i
      rw [if_neg (show ¬ 4 ≤ nI i from nI_ge (b := 4) hi (by decide))]
      simp (disch := omega) only [gI_ok, nIc]
      rw [cl_s (sts i hi).1]
      simp only [bv_i, ei]) (fun v => by
      dsimp only
      unfold f_X5_standingOnAll_L4
      rw [if_pos (show 4 ≤ nI 4 by decide)])
    rw [cl_s l4]
    exact SM_ret rfl h
  rw [if_neg c5, if_neg c5]
  exact SM_find h 0 (by decide)
