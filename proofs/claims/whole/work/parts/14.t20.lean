/-! The two forms: the reference's own list. -/
theorem flist {A B : St} {k : Nat} (hb : bankRel 3 1 k A B) (hRR : RR A k) (hRA : RA A B k) : ∃ B2, loop (fun s : Int32 × Int32 × St => f_X6_areForms_L4 s.1 s.2.1 s.2.2) (0, 0, B) = some (nI (fb_ct (pB B) (2 ^ k)), B2) ∧ (∀ c, c ≠ 4 → B2.1 c = B.1 c) ∧ (∀ c, c ≠ 5 → B2.2.1 c = B.2.1 c) ∧ B2.2.2 = B.2.2 ∧ ∀ m, m < 2 ^ k → pB B m = true → B2.1 4 (fb_ct (pB B) m) = nI m ∧ B2.2.1 5 (fb_ct (pB B) m) = vB B m := by
  have hk := hb.1
  have hp := pow_le hk
  have hfew := few hb hRR
  have alike : ∀ B1 : St, (∀ c, c ≠ 4 → B1.1 c = B.1 c) → bankRel 3 1 k A B1 ∧ RA A B1 k ∧ (∀ m, m < 2 ^ k → pB B1 m = pB B m ∧ vB B1 m = vB B m) := fun B1 f1 => by
    have hb1 : bankRel 3 1 k A B1 := hb.to (fun _ _ _ => rfl) (f1 1 (by omega))
    have hRA1 : RA A B1 k := hRA.keep hb hb1 (fun _ _ => rfl) (fun _ _ _ => rfl)
    refine ⟨hb1, hRA1, fun m hm => ⟨?_, ?_⟩⟩
    · have i1 := (pB_iff hb1 hm).2
      have i2 := (pB_iff hb hm).2
      cases h1 : pB B m
      · exact Bool.eq_false_iff.mpr fun z => by
          have := i2.mpr (i1.mp z)
          rw [h1] at this
          cases this
      · exact i1.mpr (i2.mp h1)
    · have a1 := (vB_eq hb1 hRA1 hm).1
      rw [(vB_eq hb hRA hm).1] at a1
      exact (Option.some.inj a1).symm
  obtain ⟨r, e, n0, g0, g1, g2, g3, g4⟩ := loop1 (b := fun s : Int32 × Int32 × St => f_X6_areForms_L4 s.1 s.2.1 s.2.2) (s := (0, 0, B)) (fun n s => s.1 = nI (fb_ct (pB B) n) ∧ s.2.1 = nI n ∧ (∀ c, c ≠ 4 → s.2.2.1 c = B.1 c) ∧ (∀ c, c ≠ 5 → s.2.2.2.1 c = B.2.1 c) ∧ s.2.2.2.2 = B.2.2 ∧ ∀ m, m < n → pB B m = true → s.2.2.1 4 (fb_ct (pB B) m) = nI m ∧ s.2.2.2.1 5 (fb_ct (pB B) m) = vB B m) (fun r => r.1 = nI (fb_ct (pB B) (2 ^ k)) ∧ True ∧ (∀ c, c ≠ 4 → r.2.1 c = B.1 c) ∧ (∀ c, c ≠ 5 → r.2.2.1 c = B.2.1 c) ∧ r.2.2.2 = B.2.2 ∧ ∀ m, m < 2 ^ k → pB B m = true → r.2.1 4 (fb_ct (pB B) m) = nI m ∧ r.2.2.1 5 (fb_ct (pB B) m) = vB B m) (2 ^ k) ⟨rfl, rfl, fun _ _ => rfl, fun _ _ => rfl, rfl, fun m hm => absurd hm (by omega)⟩ (by
    rintro n ⟨x, y, B1⟩ hn ⟨rfl, rfl, f1, f2, f3, f4⟩
    dsimp only at f1 f2 f3 f4 ⊢
    obtain ⟨hb1, hRA1, al⟩ := alike B1 f1
    unfold f_X6_areForms_L4
    by_cases hin : n = 2 ^ k
    · subst hin
      rw [if_pos (sets_end hb1.2.2.1 hk)]
      exact Or.inr ⟨_, rfl, rfl, trivial, f1, f2, f3, f4⟩
    · have hn2 : n < 2 ^ k := by omega
      have hmono := fb_ct_mono (pB B) (show n ≤ 2 ^ k by omega)
      have ei : nI n + 1 = nI (n + 1) := nI_1 n
      have ec : nI (fb_ct (pB B) n) + 1 = nI (fb_ct (pB B) n + 1) := nI_1 _
      rw [if_neg (sets_on hb1.2.2.1 hk hn2), cl_s (pB_iff hb1 hn2).1, (al n hn2).1]
      cases hq : pB B n
      · rw [if_pos (show bI false = 0 by decide), bv_i, ei]
        refine Or.inl ⟨_, rfl, hn2, ?_, rfl, f1, f2, f3, fun m hm hpm => ?_⟩
        · show nI _ = nI _
          rw [fb_ct_succ, hq, if_neg (by decide), Nat.add_zero]
        · by_cases q : m = n
          · subst q; rw [hq] at hpm; cases hpm
          · exact f4 m (by omega) hpm
      · rw [if_neg (show ¬ bI true = 0 by decide)]
        simp (disch := omega) only [gI_ok, nIc, bv_i, ei, ec]
        obtain ⟨hb7, hRA7, al7⟩ := alike (upI B1 4 (fb_ct (pB B) n) (nI n)) (fun c hc => by rw [upI_r hc]; exact f1 c hc)
        rw [cl_s (vB_eq hb7 hRA7 hn2).2.1, (al7 n hn2).2]
        refine Or.inl ⟨_, rfl, hn2, ?_, rfl, fun c hc => ?_, fun c hc => ?_, f3, fun m hm hpm => ?_⟩
        · show nI _ = nI _
          rw [fb_ct_succ, hq, if_pos rfl]
        · rw [upD_1, upI_r hc]; exact f1 c hc
        · rw [upD_r hc]; exact f2 c hc
        · by_cases q : m = n
          · subst q
            rw [upD_1, upI_s, upD_s]
            exact ⟨rfl, rfl⟩
          · have h1 := fb_ct_mono (pB B) (show m + 1 ≤ n by omega)
            rw [fb_ct_succ, hpm, if_pos rfl] at h1
            rw [upD_1, upI_o (by omega), upD_o (by omega)]
            exact f4 m (by omega) hpm)
  obtain ⟨r1, B2⟩ := r
  dsimp only at n0 g1 g2 g3 g4
  subst n0
  exact ⟨B2, e, g1, g2, g3, g4⟩
