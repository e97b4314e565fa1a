theorem long_bits {d : UInt64} (h : FP.Core.DFin d) : f_Jxe99ae_doubleToLongBits_ccdee d = some d.toInt64 := by
  unfold f_Jxe99ae_doubleToLongBits_ccdee f_Jxe99ae_isNaN_b9ae7
  have e : FP.dcmp d d = some .eq := FP.Core.dcmp_self h.ne_nan
  rw [e, if_pos (show Op.cmpValue (some Ordering.eq) .l = 0 from rfl), cl_i, if_pos (show bI false = 0 by decide)]
theorem int_bits {f : UInt32} (h : FP.Core.FFin f) : f_Jxf58ca_floatToIntBits_5c35a f = some f.toInt32 := by
  unfold f_Jxf58ca_floatToIntBits_5c35a f_Jxf58ca_isNaN_12338
  have e : FP.fcmp f f = some .eq := FP.Core.fcmp_self h.ne_nan
  rw [e, if_pos (show Op.cmpValue (some Ordering.eq) .l = 0 from rfl), cl_i, if_pos (show bI false = 0 by decide)]
theorem SM_slope {A B : St} (h : Rel A B) (x1 : Int32) : SM (f_X5_slope x1 A) (f_X6_slope x1 B) := by
  have h0 := h
  obtain ⟨⟨k, hb⟩, _⟩ := h0
  unfold f_X5_slope f_X6_slope
  refine SM_chk (has_eq hb x1) (isItem_eq hb x1) (fun _ => SM_find h 0 (by decide)) fun q1 => ?_
  obtain ⟨i, hi, rfl⟩ := item_of q1
  obtain ⟨f, s1, s2, mf, _⟩ := steep_both hb hi
  rw [cl_s s1, cl_s s2, cl_s (bits_float (mf.fin (by decide))), cl_s (int_bits (mf.fin (by decide)))]
  exact SM_ret rfl h
theorem SM_tells {A B : St} (h : Rel A B) (x1 x2 : Int32) : SM (f_X5_tells x1 x2 A) (f_X6_tells x1 x2 B) := by
  have h0 := h
  obtain ⟨⟨k, hb⟩, _⟩ := h0
  unfold f_X5_tells f_X6_tells
  refine SM_chk (has_eq hb x1) (isItem_eq hb x1) (fun _ => SM_findL h 0 (by decide)) fun q1 => ?_
  refine SM_chk (abil_eq x2) (abil_eq6 x2) (fun _ => SM_findL h 0 (by decide)) fun q2 => ?_
  obtain ⟨i, hi, rfl⟩ := item_of q1
  obtain ⟨d, s1, s2, md, _⟩ := tells_both hb hi q2
  rw [cl_s s1, cl_s s2, cl_s (bits_double (md.fin (by decide))), cl_s (long_bits (md.fin (by decide)))]
  exact SM_ret rfl h
theorem SM_chance {A B : St} (h : Rel A B) (x1 x2 : Int32) : SM (f_X5_chance x1 x2 A) (f_X6_chance x1 x2 B) := by
  have h0 := h
  obtain ⟨⟨k, hb⟩, _⟩ := h0
  unfold f_X5_chance f_X6_chance
  refine SM_chk (has_eq hb x1) (isItem_eq hb x1) (fun _ => SM_findL h 0 (by decide)) fun q1 => ?_
  refine SM_chk (abil_eq x2) (abil_eq6 x2) (fun _ => SM_findL h 0 (by decide)) fun q2 => ?_
  obtain ⟨i, hi, rfl⟩ := item_of q1
  obtain ⟨x, p, d1, d2, mx, c1, c2, np, lp⟩ := chance_both hb hi q2
  have mp : Md 1024 p := by
    unfold Md
    have := Nat.mod_le p.toNat (2 ^ 63)
    omega
  unfold f_X0_chanceAt
  rw [cl_s d1, cl_s c1, cl_i, cl_s c2, cl_s (bits_double (mp.fin (by decide))), cl_s (long_bits (mp.fin (by decide)))]
  exact SM_ret rfl h
/-! Values. -/
theorem weight_tab : ∀ n, n < 10 → (FP.fmul (FP.i2f (nI n)) 1036831949).toNat < 127 * 2 ^ 23 := by decide +kernel
theorem weight_ok {w : Int32} (h : 0 ≤ w ∧ w ≤ 9) : Mf 127 (FP.fmul (FP.i2f w) 1036831949) ∧ (FP.fmul (FP.i2f w) 1036831949).toNat < 2 ^ 31 := by
  obtain ⟨n, hn, rfl⟩ := nat_of (x := w) (M := 9) ((fa_le _ _).mp h.1) ((fa_le _ _).mp h.2)
  have t := weight_tab n (by omega)
  exact ⟨Nat.lt_of_le_of_lt (Nat.mod_le _ _) t, by omega⟩
/-- what an item gives to a value, by an aim -/
def Shr (A B : St) (a i : Nat) (y : UInt64) : Prop := ∃ d, f_X6_tellsOf (nI i) (A.1 13 a) B = some d ∧ y = FP.dmul d (FP.f2d (FP.fmul (FP.i2f (A.1 14 a)) 1036831949)) ∧ Md 1045 y ∧ Nn y
/-- what readAims leaves -/
def RA (A B : St) (k : Nat) : Prop := ∀ a, a < 4 → ∀ i, i < k → Shr A B a i (A.2.1 (36 + a) i)
theorem aims_eq {A B : St} {k : Nat} (hb : bankRel 3 1 k A B) : ∃ A2, f_X1_readAims A = some A2 ∧ A2.1 = A.1 ∧ (∀ c, (c < 36 ∨ 39 < c) → A2.2.1 c = A.2.1 c) ∧ A2.2.2 = A.2.2 ∧ RA A2 B k := by
  have hk := hb.1
  unfold f_X1_readAims
  obtain ⟨A2, e, g1, g2, g3, g4⟩ := loop1 (b := fun s : Int32 × St => f_X1_readAims_L2 s.1 s.2) (s := (0, A)) (fun a s => s.1 = nI a ∧ s.2.1 = A.1 ∧ (∀ c, (c < 36 ∨ 39 < c) → s.2.2.1 c = A.2.1 c) ∧ s.2.2.2 = A.2.2 ∧ ∀ b, b < a → ∀ i, i < k → Shr A B b i (s.2.2.1 (36 + b) i)) (fun s => s.1 = A.1 ∧ (∀ c, (c < 36 ∨ 39 < c) → s.2.1 c = A.2.1 c) ∧ s.2.2 = A.2.2 ∧ ∀ b, b < 4 → ∀ i, i < k → Shr A B b i (s.2.1 (36 + b) i)) 4 ⟨rfl, rfl, fun _ _ => rfl, rfl, fun b hb => absurd hb (by omega)⟩ (by
    rintro a ⟨x, A1⟩ ha ⟨rfl, g1, g2, g3, g4⟩
    dsimp only at g1 g2 g3 g4 ⊢
    unfold f_X1_readAims_L2
    by_cases ha4 : a = 4
    · subst ha4
      rw [if_pos (show 4 ≤ nI 4 by decide)]
      exact Or.inr ⟨A1, rfl, g1, g2, g3, g4⟩
    · have ha3 : a < 4 := by omega
      rw [if_neg (show ¬ 4 ≤ nI a from nI_ge (b := 4) ha3 (by decide))]
      obtain ⟨o1, o2⟩ := hb.2.2.2.2.2.2.1 a ha3
      have wok := weight_ok o2
      have wf := wok.1.f2d (by decide) (by decide)
      have wn := nn_f2d (wok.1.fin (by decide)) wok.2
      obtain ⟨A3, e3, k1, k2, k3, k4⟩ := loop1 (b := fun s : Int32 × St => f_X1_readAims_L9 (nI a) s.1 s.2) (s := (0, A1)) (fun i s => s.1 = nI i ∧ s.2.1 = A.1 ∧ (∀ c, c ≠ 36 + a → s.2.2.1 c = A1.2.1 c) ∧ s.2.2.2 = A.2.2 ∧ ∀ j, j < i → Shr A B a j (s.2.2.1 (36 + a) j)) (fun s => s.1 = A.1 ∧ (∀ c, c ≠ 36 + a → s.2.1 c = A1.2.1 c) ∧ s.2.2 = A.2.2 ∧ ∀ j, j < k → Shr A B a j (s.2.1 (36 + a) j)) k ⟨rfl, g1, fun _ _ => rfl, g3, fun j hj => absurd hj (by omega)⟩ (by
        rintro i ⟨x, A4⟩ hi ⟨rfl, k1, k2, k3, k4⟩
        dsimp only at k1 k2 k3 k4 ⊢
        unfold f_X1_readAims_L9
        have h3 : A4.1 3 0 = nI k := by rw [k1]; exact hb.2.1
        by_cases hik : i = k
        · subst hik
          rw [if_pos (nI_end h3)]
          exact Or.inr ⟨A4, rfl, k1, k2, k3, k4⟩
        · have hik2 : i < k := by omega
          have hb4 : bankRel 3 1 k A4 B := hb.to (fun c _ _ => by rw [k1]) rfl
          obtain ⟨d, t1, t2, md, nd⟩ := tells_both hb4 hik2 (v := A4.1 13 a) (by rw [k1]; exact ⟨(fa_le _ _).mp o1.1, (fa_le _ _).mp o1.2⟩)
          have ei : nI i + 1 = nI (i + 1) := nI_1 i
          have my : Md 1045 (FP.dmul d (FP.f2d (FP.fmul (FP.i2f (A.1 14 a)) 1036831949))) := md.mul wf.1 (by decide) (by decide) (by decide)
          have ny := nn_mul (md.fin (by decide)) wf.2 nd wn
          rw [if_neg (nI_ends h3 hk hik2)]
          simp (disch := omega) only [gI_ok, nIc, bv_i, ei]
          rw [cl_s t1, k1, g32_fin (wok.1.fin (by decide)), g64_fin wf.2, g64_fin (my.fin (by decide))]
          rw [k1] at t2
          refine Or.inl ⟨_, rfl, by omega, rfl, k1, fun c hc => ?_, k3, fun j hj => ?_⟩
          · rw [upD_r hc]; exact k2 c hc
          · by_cases z : j = i
            · subst z
              rw [upD_s]
              exact ⟨d, t2, rfl, my, ny⟩
            · rw [upD_o (by omega)]; exact k4 j (by omega))
      rw [cl_s e3]
      unfold f_X1_readAims_X66_2
      rw [bv_i, show nI a + 1 = nI (a + 1) from nI_1 a]
      refine Or.inl ⟨_, rfl, by omega, rfl, k1, fun c hc => ?_, k3, fun b hb2 i hi => ?_⟩
      · rw [k2 c (by omega)]; exact g2 c hc
      · by_cases z : b = a
        · subst z; exact k4 i hi
        · rw [k2 _ (by omega)]; exact g4 b (by omega) i hi)
  rw [cl_s e]
  refine ⟨A2, rfl, g1, g2, g3, fun a ha i hi => ?_⟩
  obtain ⟨d, h1, h2, h3⟩ := g4 a ha i hi
  exact ⟨d, by rw [g1]; exact h1, by rw [g1]; exact h2, h3⟩
theorem md_zero : Md 1 FP.dconst0 := by unfold Md; decide
theorem value_both {A B : St} {k m : Nat} (hb : bankRel 3 1 k A B) (hA : RA A B k) (hm : m < 2 ^ k) : ∃ d, f_X1_valueOf (nI m) A = some d ∧ f_X6_valueOf (nI m) B = some d ∧ Md 1142 d ∧ Nn d := by
  have hk := hb.1
  have hp := pow_le hk
  unfold f_X1_valueOf f_X6_valueOf
  rw [bv_i, bv_i]
  obtain ⟨r, p, e1, e2, e3, e4, e5⟩ := loop2 (b := fun s : UInt64 × Int32 => f_X1_valueOf_L5 A (nI m) s.1 s.2) (c := fun s : UInt64 × Int32 => f_X6_valueOf_L5 B (nI m) s.1 s.2) (s := (FP.dconst0, 0)) (t := (FP.dconst0, 0)) (fun a s t => s = t ∧ s.2 = nI a ∧ Md (1046 + 24 * a) s.1 ∧ Nn s.1) (fun r p => r = p ∧ Md 1142 r ∧ Nn r) 4 ⟨rfl, rfl, md_zero.le (by decide), by unfold Nn; decide⟩ (by
    rintro a ⟨v, x⟩ t ha ⟨rfl, rfl, mv, nv⟩
    dsimp only at mv nv ⊢
    unfold f_X1_valueOf_L5 f_X6_valueOf_L5
    by_cases ha4 : a = 4
    · subst ha4
      rw [if_pos (show 4 ≤ nI 4 by decide), if_pos (show 4 ≤ nI 4 by decide)]
      exact Or.inr ⟨_, _, rfl, rfl, rfl, mv, nv⟩
    · have ha3 : a < 4 := by omega
      rw [if_neg (show ¬ 4 ≤ nI a from nI_ge (b := 4) ha3 (by decide)), if_neg (show ¬ 4 ≤ nI a from nI_ge (b := 4) ha3 (by decide))]
      obtain ⟨o1, o2⟩ := hb.2.2.2.2.2.2.1 a ha3
      have wok := weight_ok o2
      have wf := wok.1.f2d (by decide) (by decide)
      have ea : (97 : Int32) + 2 * nI a = nI (97 + 2 * a) := by
        show nI 97 + nI 2 * nI a = _
        rw [pk_mul, nI_add]
      have ea2 : nI (97 + 2 * a) + 1 = nI (98 + 2 * a) := (nI_1 _).trans (congrArg nI (by omega))
      have v1 : A.1 13 a = B.1 1 (97 + 2 * a) := (hb.2.2.2.2.2.1 a ha3).1
      have v2 : A.1 14 a = B.1 1 (98 + 2 * a) := (hb.2.2.2.2.2.1 a ha3).2.1
      rw [ea, ea2]
      simp (disch := omega) only [gI_ok, nIc, bv_i]
      rw [← v1, ← v2, g32_fin (wok.1.fin (by decide))]
      obtain ⟨r, p, e1, e2, e3, e4, e5⟩ := loop2 (b := fun s : UInt64 × Int32 => f_X1_valueOf_L14 A (nI m) (nI a) s.1 s.2) (c := fun s : UInt64 × Int32 => f_X6_valueOf_L48 B (nI m) (nI a) (A.1 13 a) (FP.fmul (FP.i2f (A.1 14 a)) 1036831949) s.1 s.2) (s := (v, 0)) (t := (v, 0)) (fun i s t => s = t ∧ s.2 = nI i ∧ Md (1046 + 24 * a + 2 * i) s.1 ∧ Nn s.1) (fun r p => r = p ∧ Md (1046 + 24 * (a + 1)) r ∧ Nn r) k ⟨rfl, rfl, mv, nv⟩ (by
        rintro i ⟨v, x⟩ t hi ⟨rfl, rfl, mv, nv⟩
        dsimp only at mv nv ⊢
        unfold f_X1_valueOf_L14 f_X6_valueOf_L48
        by_cases hik : i = k
        · subst hik
          rw [if_pos (nI_end hb.2.1), if_pos (nI_end hb.2.2.1)]
          exact Or.inr ⟨_, _, rfl, rfl, rfl, mv.le (by omega), nv⟩
        · have hik2 : i < k := by omega
          have ei : nI i + 1 = nI (i + 1) := nI_1 i
          obtain ⟨d, t1, t2, my, ny⟩ := hA a ha3 i hik2
          rw [if_neg (nI_ends hb.2.1 hk hik2), if_neg (nI_ends hb.2.2.1 hk hik2), bit_eq (by omega) (by omega), cl_s (has6_eq (by omega) (by omega))]
          simp (disch := omega) only [gI_ok, nIc, bv_i, ei]
          cases m.testBit i
          · rw [if_pos (show nI (if false = true then 1 else 0) = 0 by decide), if_pos (show bI false = 0 by decide)]
            exact Or.inl ⟨_, _, rfl, rfl, hik2, rfl, rfl, mv.le (by omega), nv⟩
          · rw [if_neg (show ¬ nI (if true = true then 1 else 0) = 0 by decide), if_neg (show ¬ bI true = 0 by decide), cl_s t1, g64_fin wf.2, ← t2]
            have ms : Md (1046 + 24 * a + 2 * (i + 1)) (FP.dadd v (A.2.1 (36 + a) i)) := mv.add (my.le (by omega)) (by omega) (by omega)
            have ns := nn_add2 (mv.fin (by omega)) (my.fin (by decide)) nv ny
            rw [g64_fin (my.fin (by decide)), g64_fin (ms.fin (by omega))]
            exact Or.inl ⟨_, _, rfl, rfl, hik2, rfl, rfl, ms, ns⟩)
      subst e3
      rw [cl_s e1, cl_s e2]
      unfold f_X1_valueOf_X54_5 f_X6_valueOf_X89_5
      rw [bv_i, show nI a + 1 = nI (a + 1) from nI_1 a]
      exact Or.inl ⟨_, _, rfl, rfl, by omega, rfl, rfl, e4, e5⟩)
  subst e3
  rw [cl_s e1, cl_s e2]
  exact ⟨r, rfl, rfl, e4, e5⟩
theorem aims_rel {A B : St} {k : Nat} (h : Rel A B) (hb : bankRel 3 1 k A B) : ∃ A2, f_X1_readAims A = some A2 ∧ Rel A2 B ∧ bankRel 3 1 k A2 B ∧ RA A2 B k ∧ A2.1 = A.1 := by
  obtain ⟨A2, e, g1, g2, g3, g4⟩ := aims_eq hb
  exact ⟨A2, e, h.to ⟨fun c _ => by rw [g1], by rw [g1], fun c h1 h2 => g2 c (by omega)⟩ (eqR.rfl' B), hb.to (fun c _ _ => by rw [g1]) rfl, g4, g1⟩
theorem SM_value {A B : St} (h : Rel A B) (x1 : Int32) : SM (f_X5_value x1 A) (f_X6_value x1 B) := by
  have h0 := h
  obtain ⟨⟨k, hb⟩, _⟩ := h0
  unfold f_X5_value f_X6_value
  refine SM_chk (hasAll_eq hb x1) (areItems_eq hb x1) (fun _ => SM_findL h 0 (by decide)) fun q1 => ?_
  obtain ⟨m, hm, rfl⟩ := set_of hb.1 q1
  obtain ⟨A2, e, hR2, hb2, hRA, _⟩ := aims_rel h hb
  obtain ⟨d, v1, v2, md, nd⟩ := value_both hb2 hRA hm
  rw [cl_s e, cl_s v1, cl_s v2, cl_s (bits_double (md.fin (by decide))), cl_s (long_bits (md.fin (by decide)))]
  exact SM_ret rfl hR2
theorem SM_worth {A B : St} (h : Rel A B) (x1 : Int32) : SM (f_X5_worth x1 A) (f_X6_worth x1 B) := by
  have h0 := h
  obtain ⟨⟨k, hb⟩, _⟩ := h0
  unfold f_X5_worth f_X6_worth
  refine SM_chk (hasAll_eq hb x1) (areItems_eq hb x1) (fun _ => SM_find h 0 (by decide)) fun q1 => ?_
  obtain ⟨m, hm, rfl⟩ := set_of hb.1 q1
  obtain ⟨A2, e, hR2, hb2, hRA, _⟩ := aims_rel h hb
  obtain ⟨d, v1, v2, md, nd⟩ := value_both hb2 hRA hm
  have m2 : Md 1160 (FP.dmul d 4652007308841189376) := md.mul (L := 1033) (by unfold Md; decide) (by decide) (by decide) (by decide)
  rw [cl_s e, cl_s v1, cl_s v2]
  simp only [g64_fin (m2.fin (by decide))]
  exact SM_ret rfl hR2
