/-! Uses: the list stays, what is worn grows. -/
theorem valueOf_congr {A A2 : St} (h2 : A2.2 = A.2) (h3 : A2.1 3 = A.1 3) (x : Int32) : f_X1_valueOf x A2 = f_X1_valueOf x A := by
  unfold f_X1_valueOf f_X1_valueOf_L5 f_X1_valueOf_L14 f_X1_valueOf_X54_5 f_X1_valueOf_X60
  simp only [h2, h3]
theorem rl_keep {A A2 : St} {k m r : Nat} (h : ∀ c, c ≠ 11 → A2.1 c = A.1 c) (hr : r ≤ 5) (h1 : 1 ≤ r) : rl A2 k m r ↔ rl A k m r := by
  have hc : r = 1 ∨ r = 2 ∨ r = 3 ∨ r = 4 ∨ r = 5 := by omega
  rcases hc with rfl | rfl | rfl | rfl | rfl
  · show nI (pc m) = A2.1 17 0 ↔ nI (pc m) = A.1 17 0
    rw [h 17 (by omega)]
  · show (∀ t, t < 4 → A2.1 15 t ≤ nI (cnt A2 6 k m (nI t)) ∧ nI (cnt A2 6 k m (nI t)) ≤ A2.1 16 t) ↔ _
    unfold cnt
    rw [h 15 (by omega), h 16 (by omega), h 6 (by omega)]
    exact Iff.rfl
  · show mins A2 k m ≤ A2.1 17 1 ↔ _
    unfold mins
    rw [h 17 (by omega), h 7 (by omega)]
    exact Iff.rfl
  · show (∀ i, i < k → m.testBit i = true → nI m &&& A2.1 12 i = 0) ↔ _
    rw [h 12 (by omega)]
    exact Iff.rfl
  · show (∀ t, t < 4 → cnt A2 10 k m (nI t) ≠ 1) ↔ _
    unfold cnt
    rw [h 10 (by omega)]
    exact Iff.rfl
theorem pap_split {A : St} {k m : Nat} : Pap A k m ↔ (∀ q, 1 ≤ q → q ≤ 5 → rl A k m q) ∧ rl A k m 6 := by
  constructor
  · intro h
    exact ⟨fun q h1 h2 => h q h1 (by omega), h 6 (by omega) (by omega)⟩
  · rintro ⟨h1, h2⟩ q g1 g2
    by_cases z : q = 6
    · rw [z]; exact h2
    · exact h1 q g1 (by omega)
/-- a paper used: what is fresh then was fresh before -/
theorem fresh_back {A A2 : St} {k u m : Nat} (hu : used A A2 k u) (hp : rl A k u 6) (h : rl A2 k m 6) : rl A k m 6 := by
  have hp' : ∀ i, i < k → u.testBit i = true → A.1 11 i < A.1 17 2 := hp
  have h' : ∀ i, i < k → m.testBit i = true → A2.1 11 i < A2.1 17 2 := h
  show ∀ i, i < k → m.testBit i = true → A.1 11 i < A.1 17 2
  intro i hi hb
  have g := h' i hi hb
  rw [hu.2.1 17 (by omega), hu.2.2 i] at g
  by_cases z : i < k ∧ u.testBit i = true
  · exact hp' i hi z.2
  · rw [if_neg z] at g
    exact g
theorem SM_uses {A B : St} (h : Rel A B) (x1 : Int32) : SM (f_X5_uses x1 A) (f_X6_uses x1 B) := by
  have h0 := h
  obtain ⟨⟨k, hb⟩, _⟩ := h0
  have hk := hb.1
  have hp := pow_le hk
  unfold f_X5_uses f_X6_uses
  refine SM_chk (within_eq x1 1 20) (in_eq x1 1 20) (fun _ => SM_find h 0 (by decide)) fun q1 => ?_
  have p1 : (1 : Int32).toInt = 1 := rfl
  obtain ⟨N, hN, rfl⟩ := nat_of (x := x1) (M := 20) (by omega) q1.2
  obtain ⟨A6, e6, hR6, hb6, hRR6, hRA6, hL6⟩ := list_rel h hb
  rw [cl_s e6, cl_s (bestOf_eq hb6 hRA6)]
  have same : ∀ (A1 B1 : St), bankRel 3 1 k A1 B1 → RA A1 B1 k → Lst A1 B k → (∀ m, m < 2 ^ k → vB B1 m = vB B m) → (∀ m, m < 2 ^ k → (Pap A1 k m ↔ pB B m = true ∧ rl A1 k m 6)) → f_X1_bestListed A1 = some (scan (pB B1) (bst B1) (-1, FP.dconst0) (2 ^ k)).1 := by
    intro A1 B1 hb1 hRA1 hL1 hv hpap
    obtain ⟨W, hW, w1, w2⟩ := worn_eq hb1.2.1 hk
    rw [bestListed_eq hk hL1 w1 (fun m hm => (vB_eq hb6 hRA6 hm).2.2.1)]
    have es := scan_cong (s0 := ((-1 : Int32), FP.dconst0)) (p := pB B) (p2 := pB B1) (st := fun s m => if nI m &&& nI W = 0 then bst B s m else s) (st2 := bst B1) (N := 2 ^ k) (fun m hm s => by
      have hbst : bst B1 s m = bst B s m := by unfold bst; rw [hv m hm]
      rw [hbst]
      have i1 := (pB_iff hb1 hm).2
      have i2 := hpap m hm
      have i3 := rl6 hk hm w2
      cases hq : pB B m
      · have : pB B1 m = false := Bool.eq_false_iff.mpr fun z => by
          have := (i2.mp (i1.mp z)).1
          rw [hq] at this
          cases this
        rw [this]
        rfl
      · rw [if_pos rfl]
        by_cases y : nI m &&& nI W = 0
        · rw [if_pos y, i1.mpr (i2.mpr ⟨hq, i3.mp y⟩), if_pos rfl]
        · have : pB B1 m = false := Bool.eq_false_iff.mpr fun z => y (i3.mpr (i2.mp (i1.mp z)).2)
          rw [if_neg y, this]
          rfl) (2 ^ k) (Nat.le_refl _)
    rw [es]
  have isP : ∀ (A1 B1 : St), bankRel 3 1 k A1 B1 → 0 ≤ (scan (pB B1) (bst B1) ((-1 : Int32), FP.dconst0) (2 ^ k)).1 → ∃ u, u < 2 ^ k ∧ (scan (pB B1) (bst B1) ((-1 : Int32), FP.dconst0) (2 ^ k)).1 = nI u ∧ pB B1 u = true := by
    intro A1 B1 hb1
    have : ∀ n, n ≤ 2 ^ k → (scan (pB B1) (bst B1) ((-1 : Int32), FP.dconst0) n).1 = -1 ∨ ∃ u, u < 2 ^ k ∧ (scan (pB B1) (bst B1) ((-1 : Int32), FP.dconst0) n).1 = nI u ∧ pB B1 u = true := by
      intro n
      induction n with
      | zero => exact fun _ => Or.inl rfl
      | succ n ih =>
        intro hn
        have ih := ih (by omega)
        cases hq : pB B1 n
        · rw [scan_no hq]; exact ih
        · rw [scan_yes hq]
          generalize scan (pB B1) (bst B1) ((-1 : Int32), FP.dconst0) n = sc at ih
          unfold bst
          by_cases z : sc.1 < 0
          · rw [if_pos z]; exact Or.inr ⟨n, by omega, rfl, hq⟩
          · rw [if_neg z]
            by_cases y : Op.cmpValue (FP.dcmp (vB B1 n) sc.2) .l ≤ 0
            · rw [if_pos y]; exact ih
            · rw [if_neg y]; exact Or.inr ⟨n, by omega, rfl, hq⟩
    intro hz
    rcases this (2 ^ k) (Nat.le_refl _) with c | c
    · rw [c] at hz; exact absurd hz (by decide)
    · exact c
  obtain ⟨r, p, e1, e2, e3⟩ := loop2 (b := fun s : Int32 × St => f_X5_uses_L25 (nI N) s.1 s.2) (c := fun s : Int32 × Int32 × St => f_X6_uses_L25 (nI N) s.1 s.2.1 s.2.2) (s := (0, A6)) (t := (0, (scan (pB B) (bst B) (-1, FP.dconst0) (2 ^ k)).1, B))
    (fun i s t => s.1 = nI i ∧ t.1 = nI i ∧ t.2.1 = (scan (pB t.2.2) (bst t.2.2) (-1, FP.dconst0) (2 ^ k)).1 ∧ Rel s.2 t.2.2 ∧ bankRel 3 1 k s.2 t.2.2 ∧ RA s.2 t.2.2 k ∧ Lst s.2 B k ∧ (∀ m, m < 2 ^ k → vB t.2.2 m = vB B m) ∧ (∀ m, m < 2 ^ k → (Pap s.2 k m ↔ pB B m = true ∧ rl s.2 k m 6)))
    (fun r p => (∃ A2 B2, r = .inl A2 ∧ p = (nI N, B2) ∧ Rel A2 B2) ∨ ∃ x A2 B2, r = .inr (x, A2) ∧ p = (x, B2) ∧ Rel A2 B2) N
    ⟨rfl, rfl, rfl, hR6, hb6, hRA6, hL6, fun _ _ => rfl, fun m hm => ⟨fun z => ⟨(pB_iff hb6 hm).2.mpr z, z 6 (by omega) (by omega)⟩, fun z => (pB_iff hb6 hm).2.mp z.1⟩⟩ (by
    rintro i ⟨x, A1⟩ ⟨y, be, B1⟩ hi ⟨rfl, rfl, hbe, hR, hb1, hRA, hL, hv, hpap⟩
    dsimp only at hbe hR hb1 hRA hL hv hpap ⊢
    unfold f_X5_uses_L25 f_X6_uses_L25
    by_cases hin : i = N
    · subst hin
      rw [if_pos (Int32.le_refl _), if_pos (Int32.le_refl _)]
      exact Or.inr ⟨_, _, rfl, rfl, Or.inl ⟨_, _, rfl, rfl, hR⟩⟩
    · have hi2 : i < N := by omega
      have ei : nI i + 1 = nI (i + 1) := nI_1 i
      rw [if_neg (show ¬ nI N ≤ nI i from nI_ge hi2 (by omega)), if_neg (show ¬ nI N ≤ nI i from nI_ge hi2 (by omega)), cl_s (same A1 B1 hb1 hRA hL hv hpap), ← hbe]
      by_cases z : 0 ≤ be
      · rw [if_pos z, if_neg (show ¬ be < 0 from fun w => (fa_of_lt w).2.1 z)]
        obtain ⟨u, hu, eu, hpu⟩ := isP A1 B1 hb1 (by rw [← hbe]; exact z)
        rw [← hbe] at eu
        subst eu
        have hfresh : rl A1 k u 6 := ((pB_iff hb1 hu).2.mp hpu) 6 (by omega) (by omega)
        obtain ⟨A5, u1, hus⟩ := use_eq hb1.2.1 hk (show u < 4096 by omega)
        obtain ⟨B5, u2, hR5, hb5⟩ := use_eq6 hR hb1 (by omega) hus
        have hRA5 : RA A5 B5 k := hRA.keep hb1 hb5 (fun c hc => hus.2.1 c (by omega)) (fun c _ _ => by rw [hus.1])
        have hL5 : Lst A5 B k := by
          unfold Lst at hL ⊢
          rw [hus.2.1 2 (by omega), hus.2.1 40 (by omega), hus.1]
          exact hL
        rw [cl_s u1, cl_s u2]
        simp only [bv_i, ei]
        rw [cl_s (bestOf_eq hb5 hRA5)]
        refine Or.inl ⟨_, _, rfl, rfl, hi2, rfl, rfl, rfl, hR5, hb5, hRA5, hL5, fun m hm => ?_, fun m hm => ?_⟩
        · rw [← hv m hm]
          have a1 := (vB_eq hb5 hRA5 hm).1
          have a2 := (vB_eq hb1 hRA hm).1
          rw [valueOf_congr hus.1 (hus.2.1 3 (by omega)), a2] at a1
          exact (Option.some.inj a1).symm
        · have old := hpap m hm
          have keep : (∀ q, 1 ≤ q → q ≤ 5 → rl A5 k m q) ↔ (∀ q, 1 ≤ q → q ≤ 5 → rl A1 k m q) := ⟨fun w q g1 g2 => (rl_keep hus.2.1 g2 g1).mp (w q g1 g2), fun w q g1 g2 => (rl_keep hus.2.1 g2 g1).mpr (w q g1 g2)⟩
          rw [pap_split, keep]
          rw [pap_split] at old
          constructor
          · rintro ⟨w1, w2⟩
            exact ⟨(old.mp ⟨w1, fresh_back hus hfresh w2⟩).1, w2⟩
          · rintro ⟨w1, w2⟩
            exact ⟨(old.mpr ⟨w1, fresh_back hus hfresh w2⟩).1, w2⟩
      · rw [if_neg z, if_pos (show be < 0 from fa_of_nle z)]
        exact Or.inr ⟨_, _, rfl, rfl, Or.inr ⟨_, _, _, rfl, rfl, hR⟩⟩)
  rw [cl_s e1, cl_s e2]
  rcases e3 with ⟨A2, B2, rfl, rfl, hR⟩ | ⟨x, A2, B2, rfl, rfl, hR⟩
  · exact SM_ret rfl hR
  · exact SM_ret rfl hR
