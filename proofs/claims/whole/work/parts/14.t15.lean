theorem tells_congr {B B2 : St} {i : Nat} (hi : i < 12) (h : ∀ w, w < 5 → B2.1 1 (1 + 8 * i + w) = B.1 1 (1 + 8 * i + w)) (v : Int32) : f_X6_tellsOf (nI i) v B2 = f_X6_tellsOf (nI i) v B := by
  have it : ∀ w, w < 5 → f_X6_it (nI i) (nI w) B2 = f_X6_it (nI i) (nI w) B := fun w hw => by
    rw [it_eq hi (by omega), it_eq hi (by omega), h w hw]
  have i0 : f_X6_it (nI i) 0 B2 = f_X6_it (nI i) 0 B := it 0 (by omega)
  have i2 : f_X6_it (nI i) 2 B2 = f_X6_it (nI i) 2 B := it 2 (by omega)
  have i3 : f_X6_it (nI i) 3 B2 = f_X6_it (nI i) 3 B := it 3 (by omega)
  have i4 : f_X6_it (nI i) 4 B2 = f_X6_it (nI i) 4 B := it 4 (by omega)
  unfold f_X6_tellsOf f_X6_chanceOf f_X6_offOf f_X6_slopeOf
  rw [i0, i2, i3, i4]
theorem RA.keep {A B A2 B2 : St} {k : Nat} (h : RA A B k) (hb : bankRel 3 1 k A B) (hb2 : bankRel 3 1 k A2 B2) (hA : ∀ c, (5 ≤ c ∧ c ≤ 9) ∨ c = 13 ∨ c = 14 → A2.1 c = A.1 c) (hD : ∀ c, 36 ≤ c → c ≤ 39 → A2.2.1 c = A.2.1 c) : RA A2 B2 k := by
  intro a ha i hi
  have hk := hb.1
  obtain ⟨d, h1, h2, h3⟩ := h a ha i hi
  refine ⟨d, ?_, ?_, ?_⟩
  · rw [hA 13 (by omega), tells_congr (B := B) (by omega) (fun w hw => ?_)]
    · exact h1
    · have e1 : A.1 (5 + w) i = B.1 1 (1 + 8 * i + w) := hb.2.2.2.1 i hi w (by omega)
      have e2 : A2.1 (5 + w) i = B2.1 1 (1 + 8 * i + w) := hb2.2.2.2.1 i hi w (by omega)
      rw [← e1, ← e2, hA _ (by omega)]
  · rw [hA 14 (by omega), hD _ (by omega) (by omega)]; exact h2
  · rw [hD _ (by omega) (by omega)]; exact h3
theorem Rel.z {A B : St} (h : Rel A B) (x : Int32) : Rel (upI A 3 7 x) (upI B 1 116 x) := by
  obtain ⟨r, A2, B2, e1, e2, hR⟩ := SM_seed h x
  unfold f_X5_seed at e1
  unfold f_X6_seed at e2
  simp only [bv_i] at e1 e2
  have a1 := (Prod.mk.inj (Option.some.inj e1)).2
  have a2 := (Prod.mk.inj (Option.some.inj e2)).2
  rw [a1, a2]
  exact hR
theorem Rel.bank_k {A B : St} (h : Rel A B) {k : Nat} (hk : k ≤ 12) (e : A.1 3 0 = nI k) : bankRel 3 1 k A B := by
  obtain ⟨k2, hb⟩ := h.1
  have : k2 = k := (nI_eq (by have := hb.1; omega) (by omega)).mp (hb.2.1.symm.trans e)
  subst this
  exact hb
theorem draw_both {A B : St} {k : Nat} (h : Rel A B) (hb : bankRel 3 1 k A B) : ∃ m z, m < 2 ^ k ∧ f_X0_drawSet A = some (nI m, upI A 3 7 z) ∧ f_X6_drawn B = some (nI m, upI B 1 116 z) ∧ Rel (upI A 3 7 z) (upI B 1 116 z) ∧ bankRel 3 1 k (upI A 3 7 z) (upI B 1 116 z) := by
  have hk := hb.1
  have ez : A.1 3 7 = B.1 1 116 := hb.2.2.2.2.2.2.2.2.2
  unfold f_X0_drawSet f_X6_drawn
  simp only [bv_i]
  rw [← ez]
  have hR := h.z (A.1 3 7 * 1103515245 + 12345)
  have hb2 := hR.bank_k hk (by rw [upI_o (by omega)]; exact hb.2.1)
  rw [hb2.2.1, hb2.2.2.1, upI_s, upI_s, left_eq (by omega)]
  have hp := pow_le hk
  have hpos := Nat.two_pow_pos k
  obtain ⟨j, hj, e⟩ := pk_andE ((((A.1 3 7 * 1103515245 + 12345).toUInt32 >>> ((8 : Int32).toUInt32 &&& Int32.toUInt32 31)).toInt32) - (((A.1 3 7 * 1103515245 + 12345).toUInt32 >>> ((8 : Int32).toUInt32 &&& Int32.toUInt32 31)).toInt32) / (4096 : Int32) * (4096 : Int32)) (m := nI (2 ^ k - 1)) k (pk_tn (by omega))
  rw [e]
  exact ⟨j, _, hj, rfl, rfl, hR, hb2⟩
theorem SM_loose {A B : St} (h : Rel A B) (x1 : Int32) : SM (f_X5_loose x1 A) (f_X6_loose x1 B) := by
  have h0 := h
  obtain ⟨⟨k, hb⟩, _⟩ := h0
  have hk := hb.1
  have hp := pow_le hk
  unfold f_X5_loose f_X6_loose
  refine SM_chk (within_eq x1 1 20) (in_eq x1 1 20) (fun _ => SM_find h 0 (by decide)) fun q1 => ?_
  have p1 : (1 : Int32).toInt = 1 := rfl
  obtain ⟨N, hN, rfl⟩ := nat_of (x := x1) (M := 20) (by omega) q1.2
  obtain ⟨A6, e6, hR6, hb6, hRA6, _⟩ := aims_rel h hb
  rw [cl_s e6]
  obtain ⟨r, p, e1, e2, e3, e4⟩ := loop2 (b := fun s : Int32 × Int32 × St => f_X5_loose_L27 (nI N) s.1 s.2.1 s.2.2) (c := fun s : Int32 × Int32 × St => f_X6_loose_L22 (nI N) s.1 s.2.1 s.2.2) (s := (0, 0, A6)) (t := (0, 0, B)) (fun i s t => s.1 = t.1 ∧ s.2.1 = nI i ∧ t.2.1 = nI i ∧ Rel s.2.2 t.2.2 ∧ bankRel 3 1 k s.2.2 t.2.2 ∧ RA s.2.2 t.2.2 k) (fun r p => r.1 = p.1 ∧ Rel r.2 p.2) N ⟨rfl, rfl, rfl, hR6, hb6, hRA6⟩ (by
    rintro i ⟨dn, x, A1⟩ ⟨dn2, y, B1⟩ hi ⟨hdn, rfl, rfl, hR, hb1, hRA⟩
    dsimp only at hdn hR hb1 hRA ⊢
    subst hdn
    unfold f_X5_loose_L27 f_X6_loose_L22
    by_cases hin : i = N
    · subst hin
      rw [if_pos (Int32.le_refl _), if_pos (Int32.le_refl _)]
      exact Or.inr ⟨_, _, rfl, rfl, rfl, hR⟩
    · have hi2 : i < N := by omega
      have ei : nI i + 1 = nI (i + 1) := nI_1 i
      rw [if_neg (show ¬ nI N ≤ nI i from nI_ge hi2 (by omega)), if_neg (show ¬ nI N ≤ nI i from nI_ge hi2 (by omega))]
      obtain ⟨A2, r1, hR2, hb2, hRR2, f1, f2, f3⟩ := rules_rel hR hb1
      obtain ⟨m1, z1, hm1, d1, d2, hR3, hb3⟩ := draw_both hR2 hb2
      obtain ⟨m2, z2, hm2, d3, d4, hR4, hb4⟩ := draw_both hR3 hb3
      have fr : ∀ c, c ≠ 3 → (upI (upI A2 3 7 z1) 3 7 z2).1 c = A2.1 c := fun c hc => by rw [upI_r hc, upI_r hc]
      have hRR4 : RR (upI (upI A2 3 7 z1) 3 7 z2) k := by
        unfold RR msk at hRR2 ⊢
        rw [fr 6 (by omega), fr 33 (by omega), fr 10 (by omega), fr 34 (by omega), fr 11 (by omega), fr 17 (by omega), fr 2 (by omega)]
        exact hRR2
      have hRA4 : RA (upI (upI A2 3 7 z1) 3 7 z2) (upI (upI B1 1 116 z1) 1 116 z2) k := hRA.keep hb1 hb4 (fun c hc => by rw [fr c (by omega), f3 c (by omega) (by omega) (by omega)]) (fun c _ _ => by show A2.2.1 c = _; rw [f1])
      rw [cl_s r1, cl2_s d1, cl2_s d3, cl2_s d2, cl2_s d4]
      generalize upI (upI A2 3 7 z1) 3 7 z2 = A4 at hR4 hb4 hRR4 hRA4
      generalize upI (upI B1 1 116 z1) 1 116 z2 = B4 at hR4 hb4 hRA4
      obtain ⟨qa, pa1, pa2, _⟩ := paper_both hb4 hRR4 hm1
      obtain ⟨qb, pb1, pb2, _⟩ := paper_both hb4 hRR4 hm2
      obtain ⟨va, va1, va2, mva, _⟩ := value_both hb4 hRA4 hm1
      obtain ⟨vb, vb1, vb2, mvb, _⟩ := value_both hb4 hRA4 hm2
      have useIt : ∀ m, m < 2 ^ k → ∃ A5 B5, f_X0_countUse (nI m) A4 = some A5 ∧ f_X6_isUsed (nI m) B4 = some B5 ∧ Rel A5 B5 ∧ bankRel 3 1 k A5 B5 ∧ RA A5 B5 k := fun m hm => by
        obtain ⟨A5, u1, hu⟩ := use_eq hb4.2.1 hk (show m < 4096 by omega)
        obtain ⟨B5, u2, hR5, hb5⟩ := use_eq6 hR4 hb4 (by omega) hu
        exact ⟨A5, B5, u1, u2, hR5, hb5, hRA4.keep hb4 hb5 (fun c hc => hu.2.1 c (by omega)) (fun c _ _ => by rw [hu.1])⟩
      obtain ⟨A5, B5, u1, u2, hR5, hb5, hRA5⟩ := useIt m1 hm1
      obtain ⟨A7, B7, w1, w2, hR7, hb7, hRA7⟩ := useIt m2 hm2
      unfold f_X1_betterPaper
      have n1 : (nI m1 < 0) = False := eq_false (nI_pos (by omega))
      have n2 : (nI m2 < 0) = False := eq_false (nI_pos (by omega))
      have n3 : ((-1 : Int32) < 0) = True := eq_true (by decide)
      have b0 : (bI false = 0) = True := eq_true (by decide)
      have b1 : (bI true = 0) = False := eq_false (by decide)
      simp only [pb1, pa1, pa2, pb2, vb1, va1, va2, vb2, cl_i, bv_i, ei]
      cases qa <;> cases qb
      · simp only [b0, b1, if_true, if_false, cl_i, n3]
        exact Or.inl ⟨_, _, rfl, rfl, hi2, rfl, rfl, rfl, hR4, hb4, hRA4⟩
      · simp only [b0, b1, if_true, if_false, cl_i, n2, w1, w2]
        exact Or.inl ⟨_, _, rfl, rfl, hi2, rfl, rfl, rfl, hR7, hb7, hRA7⟩
      · simp only [b0, b1, if_true, if_false, cl_i, n1, u1, u2]
        exact Or.inl ⟨_, _, rfl, rfl, hi2, rfl, rfl, rfl, hR5, hb5, hRA5⟩
      · simp only [b0, b1, if_true, if_false, cl_i]
        have cmp : Op.cmpValue (FP.dcmp vb va) .l ≤ 0 ↔ ¬ Op.cmpValue (FP.dcmp va vb) .l < 0 := by
          obtain ⟨s1, Z1, hZ1⟩ := Dv.ofFin (mva.fin (by decide))
          obtain ⟨s2, Z2, hZ2⟩ := Dv.ofFin (mvb.fin (by decide))
          rw [hZ1.cmp hZ2, hZ2.cmp hZ1, cv_le, cv_lt]
          omega
        by_cases c : Op.cmpValue (FP.dcmp vb va) .l ≤ 0
        · rw [if_pos c, if_neg (cmp.mp c)]
          simp only [cl_i, n1, u1, u2, if_false]
          exact Or.inl ⟨_, _, rfl, rfl, hi2, rfl, rfl, rfl, hR5, hb5, hRA5⟩
        · rw [if_neg c, if_pos (Decidable.not_not.mp fun w => c (cmp.mpr w))]
          simp only [cl_i, n2, w1, w2, if_false]
          exact Or.inl ⟨_, _, rfl, rfl, hi2, rfl, rfl, rfl, hR7, hb7, hRA7⟩)
  rw [cl_s e1, cl_s e2]
  exact SM_ret e3 e4
