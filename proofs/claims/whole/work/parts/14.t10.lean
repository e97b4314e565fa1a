/-! Sheets. -/
theorem okFl_iff (f : UInt32) : okFl f ↔ f.toNat % 2 ^ 31 ≤ 167 * 2 ^ 23 := by
  unfold okFl
  rw [UInt32.le_iff_toNat_le, FP.Core.mask_toNat32]
  exact Iff.rfl
theorem okDb_iff (d : UInt64) : okDb d ↔ d.toNat % 2 ^ 63 ≤ 1063 * 2 ^ 52 := by
  unfold okDb
  rw [UInt64.le_iff_toNat_le, FP.Core.mask_toNat]
  exact Iff.rfl
theorem okFl.mf {f : UInt32} (h : okFl f) : Mf 168 f := by
  have := (okFl_iff f).mp h
  unfold Mf
  omega
theorem okDb.md {d : UInt64} (h : okDb d) : Md 1064 d := by
  have := (okDb_iff d).mp h
  unfold Md
  omega
theorem okDb_of {d : UInt64} (h : Md 1063 d) : okDb d := (okDb_iff d).mpr (Nat.le_of_lt h)
theorem okFl_of {f : UInt32} (h : Mf 167 f) : okFl f := (okFl_iff f).mpr (Nat.le_of_lt h)
theorem okFl_d2f {d : UInt64} (h : okDb d) : okFl (FP.d2f d) := (okFl_iff _).mpr (d2f_md (K := 167) ((okDb_iff d).mp h) (by decide) (by decide))
theorem okDb_i2d (x : Int32) : okDb (FP.i2d x) := okDb_of (Md.le (FP.Core.i2d_mag x) (by decide))
theorem okFl_i2f (x : Int32) : okFl (FP.i2f x) := okFl_of (Mf.le (FP.Core.i2f_mag x) (by decide))
theorem okDb_f2d {f : UInt32} (h : okFl f) : okDb (FP.f2d f) := by
  obtain ⟨s, c, q, e⟩ := h.mf.fin (by decide)
  have hq := fit_q32 e
  have hD := Dv.f2d e
  have h1 : FP.Core.unitsOf FP.Core.b32 (f.toNat % 2 ^ 31) = c * 2 ^ (q + 149).toNat := by
    rw [← FP.Core.zmag_toNat32 (by rw [e]; intro z; cases z), e]
    unfold FP.Core.zmag FP.Core.inUnits
    dsimp only
    rw [qmin32, Int.sub_neg]
  have h2 : FP.Core.unitsOf FP.Core.b32 (167 * 2 ^ 23) = 2 ^ 189 := by decide +kernel
  have h3 : c * 2 ^ (q + 149).toNat ≤ 2 ^ 189 := by
    rw [← h1, ← h2, FP.Core.unitsOf_le_iff]
    exact (okFl_iff f).mp h
  have h4 : FP.Core.unitsOf FP.Core.b64 (1063 * 2 ^ 52) = 2 ^ 189 * 2 ^ 925 := by decide +kernel
  rw [okDb_iff, ← FP.Core.unitsOf_le_iff (f := FP.Core.b64), hD.units, h4, show (q + 1074).toNat = (q + 149).toNat + 925 by omega, Nat.pow_add, ← Nat.mul_assoc]
  exact Nat.mul_le_mul_right _ h3
theorem d2i_f2d {f : UInt32} (h : FP.Core.FFin f) : FP.d2i (FP.f2d f) = FP.f2i f := by
  obtain ⟨s, c, q, e⟩ := h
  have hq := fit_q32 e
  obtain ⟨c', q', e1, e2⟩ := Dv.f2d e
  apply Int32.toInt_inj.mp
  rw [show (FP.d2i (FP.f2d f)).toInt = _ from FP.Core.d2i_val (by rw [e1]; intro z; cases z), show (FP.f2i f).toInt = _ from FP.Core.f2i_val (by rw [e]; intro z; cases z), e1, e]
  unfold FP.Core.sgn FP.Core.zmag FP.Core.one64 FP.Core.one32
  dsimp only
  rw [qmin64, qmin32, e2]
  unfold FP.Core.inUnits
  rw [Int.sub_neg, show (q + 1074).toNat = (q + 149).toNat + 925 by omega, Nat.pow_add, ← Nat.mul_assoc, show (2 : Nat) ^ 1074 = 2 ^ 149 * 2 ^ 925 by rw [← Nat.pow_add], Nat.mul_div_mul_right _ _ (Nat.two_pow_pos 925)]
theorem d2f_f2d' {f : UInt32} (h : FP.Core.FFin f) : FP.d2f (FP.f2d f) = f := by
  have hn := h.notNaN
  rw [FP.d2f_core (by rw [FP.f2d_nan]; exact hn), FP.f2d_core hn]
  exact FP.Core.d2f_f2d h.ne_nan
theorem d2f_i2d (x : Int32) : FP.d2f (FP.i2d x) = FP.i2f x := by
  rw [FP.d2f_core (FP.Core.i2d_fin x).notNaN]
  show FP.Core.d2f (FP.Core.i2d x) = FP.Core.i2f x
  rw [FP.Core.i2d_l2d, FP.Core.i2f_l2f]
  refine FP.Core.d2f_l2d ?_
  have := FP.Core.int32_abs x
  rw [Int32.toInt_toInt64]
  omega
/-- a number put into a sheet, by the sheet's sort -/
def cv (so : Int32) (d : UInt64) : UInt64 := if so = 0 then FP.i2d (FP.d2i d) else if so = 1 then FP.f2d (FP.d2f d) else d
def putR (so : Int32) (B : St) (s i : Nat) (xi : Int32) (xf : UInt32) (xd : UInt64) : St := if so = 0 then upI B (20 + s) i xi else if so = 1 then upF B (25 + s) i xf else upD B (30 + s) i xd
/-- what a sheet is like -/
def Sh (A B : St) (s : Nat) (so : Int32) (n : Nat) : Prop := A.1 (56 + s) 0 = so ∧ A.1 (56 + s) 1 = nI n ∧ B.1 17 s = so ∧ B.1 18 s = nI n ∧ (so = -1 ∨ so = 0 ∨ so = 1 ∨ so = 2) ∧ n ≤ 40 ∧ (so = -1 → n = 0) ∧ ∀ i, i < n → numRel so (A.2.1 (60 + s) i) (B.1 (20 + s) i) (B.2.2 (25 + s) i) (B.2.1 (30 + s) i)
theorem Rel.sh {A B : St} (h : Rel A B) {s : Nat} (hs : s < 4) : ∃ so n, Sh A B s so n := by
  obtain ⟨h1, h2, h3, n, h4, h5, h6, h7⟩ := h.2.2.2.2 s hs
  exact ⟨B.1 17 s, n, h1, h2.trans h5, rfl, h5, h3, h4, h6, h7⟩
theorem Sh.rel {A B : St} {s n : Nat} {so : Int32} (h : Sh A B s so n) : sheetRel s A B := by
  obtain ⟨h1, h2, h3, h4, h5, h6, h7, h8⟩ := h
  unfold sheetRel
  rw [h3]
  exact ⟨h1, h2.trans h4.symm, h5, n, h6, h4, h7, h8⟩
theorem putR_ints {so : Int32} {B : St} {s i : Nat} {xi : Int32} {xf : UInt32} {xd : UInt64} {c : Nat} (hc : c ≠ 20 + s) : (putR so B s i xi xf xd).1 c = B.1 c := by
  unfold putR
  by_cases h0 : so = 0
  · rw [if_pos h0, upI_r hc]
  · rw [if_neg h0]
    by_cases h1 : so = 1
    · rw [if_pos h1]; rfl
    · rw [if_neg h1]; rfl
theorem Rel.putS {A B : St} (h : Rel A B) {s n i : Nat} {so : Int32} (hs : s < 4) (hS : Sh A B s so n) (hi : i < n) {y : UInt64} {xi : Int32} {xf : UInt32} {xd : UInt64} (hy : numRel so y xi xf xd) : Rel (upD A (60 + s) i y) (putR so B s i xi xf xd) ∧ Sh (upD A (60 + s) i y) (putR so B s i xi xf xd) s so n := by
  have hS2 : Sh (upD A (60 + s) i y) (putR so B s i xi xf xd) s so n := by
    obtain ⟨h1, h2, h3, h4, h5, h6, h7, h8⟩ := hS
    refine ⟨h1, h2, ?_, ?_, h5, h6, h7, fun j hj => ?_⟩
    · rw [putR_ints (by omega)]; exact h3
    · rw [putR_ints (by omega)]; exact h4
    · have o := h8 j hj
      by_cases q : j = i
      · subst q
        rw [upD_s]
        unfold numRel putR at *
        refine ⟨fun z => ?_, fun z => ?_, fun z => ?_⟩
        · subst z
          rw [if_pos rfl, upI_s]; exact hy.1 rfl
        · subst z
          rw [if_neg (by decide), if_pos rfl, upF_s]; exact hy.2.1 rfl
        · subst z
          rw [if_neg (by decide), if_neg (by decide), upD_s]; exact hy.2.2 rfl
      · rw [upD_o (by omega)]
        unfold numRel putR at *
        refine ⟨fun z => ?_, fun z => ?_, fun z => ?_⟩
        · subst z
          rw [if_pos rfl, upI_o (by omega)]; exact o.1 rfl
        · subst z
          rw [if_neg (by decide), if_pos rfl, upF_o (by omega)]; exact o.2.1 rfl
        · subst z
          rw [if_neg (by decide), if_neg (by decide), upD_o (by omega)]; exact o.2.2 rfl
  refine ⟨h.sheet (fun c hc => rfl) (fun c hc => putR_ints (by omega)) fun t ht => ?_, hS2⟩
  by_cases q : t = s
  · subst q; exact hS2.rel
  · refine (h.2.2.2.2 t ht).to rfl (upD_r (by omega)) (putR_ints (by omega)) (putR_ints (by omega)) ?_ ?_ ?_
    · unfold putR
      by_cases h0 : so = 0
      · rw [if_pos h0, upI_r (by omega)]
      · rw [if_neg h0]
        by_cases h1 : so = 1
        · rw [if_pos h1]; rfl
        · rw [if_neg h1]; rfl
    · unfold putR
      by_cases h0 : so = 0
      · rw [if_pos h0]; rfl
      · rw [if_neg h0]
        by_cases h1 : so = 1
        · rw [if_pos h1, upF_r (by omega)]
        · rw [if_neg h1]; rfl
    · unfold putR
      by_cases h0 : so = 0
      · rw [if_pos h0]; rfl
      · rw [if_neg h0]
        by_cases h1 : so = 1
        · rw [if_pos h1]; rfl
        · rw [if_neg h1, upD_r (by omega)]
theorem put_eq {A : St} {s i : Nat} {so : Int32} (hso : A.1 (56 + s) 0 = so) (hi : i < 40) {d : UInt64} (hd : okDb d) : f_X3_put s (nI i) d A = some (upD A (60 + s) i (cv so d)) := by
  unfold f_X3_put cv
  rw [hso]
  have f1 := (okFl_d2f hd).mf
  have f2 := f1.f2d (by decide) (by decide)
  simp (disch := omega) only [gI_ok, nIc, bv_i]
  by_cases h0 : so = 0
  · rw [if_pos h0, if_pos h0]
  · rw [if_neg h0, if_neg h0]
    by_cases h1 : so = 1
    · rw [if_pos h1, if_pos h1, g32_fin (f1.fin (by decide)), g64_fin f2.2]
    · rw [if_neg h1, if_neg h1]
theorem num_double {so : Int32} {d : UInt64} (hd : okDb d) : numRel so (cv so d) (FP.d2i d) (FP.d2f d) d := by
  unfold numRel cv
  refine ⟨fun z => ?_, fun z => ?_, fun z => ?_⟩
  · subst z; rw [if_pos rfl]
  · subst z; rw [if_neg (by decide), if_pos rfl]; exact ⟨rfl, okFl_d2f hd⟩
  · subst z; rw [if_neg (by decide), if_neg (by decide)]; exact ⟨rfl, hd⟩
theorem num_float {so : Int32} {f : UInt32} (hf : okFl f) : numRel so (cv so (FP.f2d f)) (FP.f2i f) f (FP.f2d f) := by
  have ff := hf.mf.fin (by decide)
  unfold numRel cv
  refine ⟨fun z => ?_, fun z => ?_, fun z => ?_⟩
  · subst z; rw [if_pos rfl, d2i_f2d ff]
  · subst z; rw [if_neg (by decide), if_pos rfl, d2f_f2d' ff]; exact ⟨rfl, hf⟩
  · subst z; rw [if_neg (by decide), if_neg (by decide)]; exact ⟨rfl, okDb_f2d hf⟩
theorem num_int {so : Int32} (x : Int32) : numRel so (cv so (FP.i2d x)) x (FP.i2f x) (FP.i2d x) := by
  unfold numRel cv
  refine ⟨fun z => ?_, fun z => ?_, fun z => ?_⟩
  · subst z; rw [if_pos rfl, show FP.d2i (FP.i2d x) = x from FP.Core.d2i_i2d x]
  · subst z; rw [if_neg (by decide), if_pos rfl, d2f_i2d]; exact ⟨rfl, okFl_i2f x⟩
  · subst z; rw [if_neg (by decide), if_neg (by decide)]; exact ⟨rfl, okDb_i2d x⟩
theorem comesD_eq {B : St} {s i : Nat} {so : Int32} (hs : s < 4) (hso : B.1 17 s = so) (hi : i < 40) {d : UInt64} (hd : okDb d) : f_X6_comesDouble (nI s) (nI i) d B = some (putR so B s i (FP.d2i d) (FP.d2f d) d) := by
  unfold f_X6_comesDouble putR
  have f1 := (okFl_d2f hd).mf
  simp (disch := omega) only [gI_ok, nIc, bv_i]
  rw [hso]
  by_cases h0 : so = 0
  · rw [if_pos h0, if_pos h0]
  · rw [if_neg h0, if_neg h0]
    by_cases h1 : so = 1
    · rw [if_pos h1, if_pos h1, g32_fin (f1.fin (by decide))]
    · rw [if_neg h1, if_neg h1]
theorem comesF_eq {B : St} {s i : Nat} {so : Int32} (hs : s < 4) (hso : B.1 17 s = so) (hi : i < 40) {f : UInt32} (hf : okFl f) : f_X6_comesFloat (nI s) (nI i) f B = some (putR so B s i (FP.f2i f) f (FP.f2d f)) := by
  unfold f_X6_comesFloat putR
  have f1 := hf.mf.f2d (by decide) (by decide)
  simp (disch := omega) only [gI_ok, nIc, bv_i]
  rw [hso]
  by_cases h0 : so = 0
  · rw [if_pos h0, if_pos h0]
  · rw [if_neg h0, if_neg h0]
    by_cases h1 : so = 1
    · rw [if_pos h1, if_pos h1]
    · rw [if_neg h1, if_neg h1, g64_fin f1.2]
theorem comesI_eq {B : St} {s i : Nat} {so : Int32} (hs : s < 4) (hso : B.1 17 s = so) (hi : i < 40) (x : Int32) : f_X6_comesInt (nI s) (nI i) x B = some (putR so B s i x (FP.i2f x) (FP.i2d x)) := by
  unfold f_X6_comesInt putR
  simp (disch := omega) only [gI_ok, nIc, bv_i]
  rw [hso]
  by_cases h0 : so = 0
  · rw [if_pos h0, if_pos h0]
  · rw [if_neg h0, if_neg h0]
    by_cases h1 : so = 1
    · rw [if_pos h1, if_pos h1]
    · rw [if_neg h1, if_neg h1]
theorem num_ok {so : Int32} {d : UInt64} {xi : Int32} {xf : UInt32} {xd : UInt64} (h : numRel so d xi xf xd) (hso : so = 0 ∨ so = 1 ∨ so = 2) : okDb d := by
  rcases hso with z | z | z
  · rw [h.1 z]; exact okDb_i2d _
  · rw [(h.2.1 z).1]; exact okDb_f2d (h.2.1 z).2
  · rw [(h.2.2 z).1]; exact (h.2.2 z).2
theorem miss_eq {A B : St} {s n : Nat} {so : Int32} (hS : Sh A B s so n) : f_X3_isMissing s A = some (decide (so = -1)) := by
  unfold f_X3_isMissing
  rw [hS.1]
  by_cases z : so = -1
  · rw [if_pos z, decide_eq_true z]
  · rw [if_neg z, decide_eq_false z]
theorem Sh.sorts {A B : St} {s n : Nat} {so : Int32} (hS : Sh A B s so n) (h : ¬ so = -1) : (so = 0 ∨ so = 1 ∨ so = 2) ∧ 0 ≤ so ∧ ¬ so < 0 := by
  rcases hS.2.2.2.2.1 with z | z | z | z
  · exact absurd z h
  · subst z; exact ⟨Or.inl rfl, by decide, by decide⟩
  · subst z; exact ⟨Or.inr (Or.inl rfl), by decide, by decide⟩
  · subst z; exact ⟨Or.inr (Or.inr rfl), by decide, by decide⟩
