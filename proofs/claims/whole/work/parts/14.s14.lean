theorem rules_rel {A B : St} {k : Nat} (h : Rel A B) (hb : bankRel 3 1 k A B) : ∃ A2, f_X1_readRules A = some A2 ∧ Rel A2 B ∧ bankRel 3 1 k A2 B ∧ RR A2 k ∧ A2.2 = A.2 ∧ (∀ c j, c ≠ 33 → c ≠ 34 → (c ≠ 2 ∨ j ≠ 5) → A2.1 c j = A.1 c j) ∧ (∀ c, c ≠ 33 → c ≠ 34 → c ≠ 2 → A2.1 c = A.1 c) := by
  obtain ⟨A2, e, h2, h3, h4, hR⟩ := rules_eq hb.2.1 hb.1
  exact ⟨A2, e, h.to ⟨fun c hc => h4 c (by omega) (by omega) (by omega), h3 0 4 (by omega) (by omega) (by omega), fun c _ _ => by rw [h2]⟩ (eqR.rfl' B), hb.to (fun c h1 h2 => h4 c (by omega) (by omega) (by omega)) rfl, hR, h2, h3, h4⟩
theorem br_both {A B : St} {k m sp : Nat} (hb : bankRel 3 1 k A B) (hR : RR A k) (hm : m < 2 ^ k) (hs : sp ≤ 6) : ∃ r, r ≤ 6 ∧ f_X1_brokenRule (nI m) (nI sp) A = some (nI r) ∧ f_X6_againstBut (nI m) (nI sp) B = some (nI r) ∧ IsBr A k m sp r := by
  obtain ⟨r, e1, i1⟩ := broken_eq hb.2.1 hb.1 hR hm hs
  obtain ⟨r2, e2, i2⟩ := broken_eq6 hb hm hs
  have := i1.one i2
  subst this
  refine ⟨r, ?_, e1, e2, i1⟩
  rcases i1 with ⟨z, _⟩ | ⟨_, z, _⟩ <;> omega
/-- a paper -/
def Pap (A : St) (k m : Nat) : Prop := ∀ q, 1 ≤ q → q ≤ 6 → rl A k m q
theorem IsBr.pap {A : St} {k m r : Nat} (h : IsBr A k m 0 r) : r = 0 ↔ Pap A k m := by
  rcases h with ⟨z, h⟩ | ⟨z1, z2, z3, z4, _⟩
  · exact ⟨fun _ q h1 h2 => h q h1 h2 (by omega), fun _ => z⟩
  · exact ⟨fun z => by omega, fun p => absurd (p r z1 z2) z4⟩
theorem paper_both {A B : St} {k m : Nat} (hb : bankRel 3 1 k A B) (hR : RR A k) (hm : m < 2 ^ k) : ∃ q, f_X1_isPaper (nI m) A = some q ∧ f_X6_isPaper (nI m) B = some q ∧ (q = true ↔ Pap A k m) := by
  obtain ⟨r, h6, e1, e2, i⟩ := br_both (sp := 0) hb hR hm (by omega)
  have e1' : f_X1_brokenRule (nI m) 0 A = some (nI r) := e1
  have e2' : f_X6_againstBut (nI m) 0 B = some (nI r) := e2
  unfold f_X1_isPaper f_X6_isPaper
  rw [cl_s e1', cl_s e2']
  by_cases q : r = 0
  · have q2 : nI r = 0 := by rw [q]; rfl
    rw [if_pos q2]
    exact ⟨true, rfl, rfl, by simp; exact i.pap.mp q⟩
  · have q2 : ¬ nI r = 0 := nI_ne0 (by omega) (by omega)
    rw [if_neg q2]
    exact ⟨false, rfl, rfl, by simp; exact fun z => q (i.pap.mpr z)⟩
theorem SM_against {A B : St} (h : Rel A B) (x1 : Int32) : SM (f_X5_against x1 A) (f_X6_against x1 B) := by
  have h0 := h
  obtain ⟨⟨k, hb⟩, _⟩ := h0
  unfold f_X5_against f_X6_against
  refine SM_chk (hasAll_eq hb x1) (areItems_eq hb x1) (fun _ => SM_find h 0 (by decide)) fun q1 => ?_
  obtain ⟨m, hm, rfl⟩ := set_of hb.1 q1
  obtain ⟨A2, e, hR2, hb2, hRR, _⟩ := rules_rel h hb
  obtain ⟨r, h6, e1, e2, i⟩ := br_both (sp := 0) hb2 hRR hm (by omega)
  have e1' : f_X1_brokenRule (nI m) 0 A2 = some (nI r) := e1
  have e2' : f_X6_againstBut (nI m) 0 B = some (nI r) := e2
  rw [cl_s e, cl_s e1', cl_s e2']
  exact SM_ret rfl hR2
/-- all sets, one after another -/
theorem sets_end {A : St} {c k : Nat} (h : A.1 c 0 = nI k) (hk : k ≤ 12) : (1 : Int32) <<< (A.1 c 0 &&& 31) ≤ nI (2 ^ k) := by
  rw [h, one_eq (by omega)]; exact Int32.le_refl _
theorem sets_on {A : St} {c k m : Nat} (h : A.1 c 0 = nI k) (hk : k ≤ 12) (hm : m < 2 ^ k) : ¬ (1 : Int32) <<< (A.1 c 0 &&& 31) ≤ nI m := by
  have hp := pow_le hk
  rw [h, one_eq (by omega)]; exact nI_ge hm (by omega)
theorem many_both {A B : St} {k sp : Nat} (hb : bankRel 3 1 k A B) (hR : RR A k) (hs : sp ≤ 6) : ∃ r, f_X1_countPapers (nI sp) A = some r ∧ f_X6_manyBut (nI sp) B = some r := by
  have hk := hb.1
  unfold f_X1_countPapers f_X6_manyBut
  obtain ⟨r, p, e1, e2, e3⟩ := loop2 (b := fun s : Int32 × Int32 => f_X1_countPapers_L4 A (nI sp) s.1 s.2) (c := fun s : Int32 × Int32 => f_X6_manyBut_L4 B (nI sp) s.1 s.2) (s := (0, 0)) (t := (0, 0)) (fun i s t => s = t ∧ s.2 = nI i) (fun r p => r = p) (2 ^ k) ⟨rfl, rfl⟩ (by
    rintro m ⟨v, x⟩ t hi ⟨rfl, rfl⟩
    dsimp only
    unfold f_X1_countPapers_L4 f_X6_manyBut_L4
    by_cases hm : m = 2 ^ k
    · subst hm
      rw [if_pos (sets_end hb.2.1 hk), if_pos (sets_end hb.2.2.1 hk)]
      exact Or.inr ⟨_, _, rfl, rfl, rfl⟩
    · have hm2 : m < 2 ^ k := by omega
      obtain ⟨r, h6, e1, e2, i⟩ := br_both hb hR hm2 hs
      have ei : nI m + 1 = nI (m + 1) := nI_1 m
      rw [if_neg (sets_on hb.2.1 hk hm2), if_neg (sets_on hb.2.2.1 hk hm2), cl_s e1, cl_s e2]
      simp only [bv_i, ei]
      by_cases q : nI r = 0
      · rw [if_pos q, if_pos q]
        exact Or.inl ⟨_, _, rfl, rfl, hm2, rfl, rfl⟩
      · rw [if_neg q, if_neg q]
        exact Or.inl ⟨_, _, rfl, rfl, hm2, by rw [Int32.add_zero], rfl⟩)
  subst e3
  rw [cl_s e1, cl_s e2]
  exact ⟨r, rfl, rfl⟩
theorem SM_papers {A B : St} (h : Rel A B) : ∃ (r : Int32) (A2 : St), f_X5_papers A = some (r, A2) ∧ f_X6_papers B = some r ∧ Rel A2 B := by
  have h0 := h
  obtain ⟨⟨k, hb⟩, _⟩ := h0
  unfold f_X5_papers f_X6_papers
  obtain ⟨A2, e, hR2, hb2, hRR, _⟩ := rules_rel h hb
  obtain ⟨r, e1, e2⟩ := many_both (sp := 0) hb2 hRR (by omega)
  have e1' : f_X1_countPapers 0 A2 = some r := e1
  have e2' : f_X6_manyBut 0 B = some r := e2
  rw [cl_s e, cl_s e1', cl_s e2']
  exact ⟨r, A2, rfl, rfl, hR2⟩
theorem SM_without {A B : St} (h : Rel A B) (x1 : Int32) : SM (f_X5_without x1 A) (f_X6_without x1 B) := by
  have h0 := h
  obtain ⟨⟨k, hb⟩, _⟩ := h0
  unfold f_X5_without f_X6_without
  refine SM_chk (within_eq x1 1 6) (in_eq x1 1 6) (fun _ => SM_find h 0 (by decide)) fun q1 => ?_
  have a : (1 : Int32).toInt = 1 := rfl
  obtain ⟨sp, hsp, rfl⟩ := nat_of (x := x1) (M := 6) (by omega) q1.2
  obtain ⟨A2, e, hR2, hb2, hRR, _⟩ := rules_rel h hb
  obtain ⟨r, e1, e2⟩ := many_both hb2 hRR hsp
  rw [cl_s e, cl_s e1, cl_s e2]
  exact SM_ret rfl hR2
/-! A paper's items counted as used. -/
def used (A A2 : St) (k m : Nat) : Prop := A2.2 = A.2 ∧ (∀ c, c ≠ 11 → A2.1 c = A.1 c) ∧ ∀ j, A2.1 11 j = if j < k ∧ m.testBit j = true then A.1 11 j + 1 else A.1 11 j
theorem use_eq {A : St} {k m : Nat} (h : A.1 3 0 = nI k) (hk : k ≤ 12) (hm : m < 4096) : ∃ A2, f_X0_countUse (nI m) A = some A2 ∧ used A A2 k m := by
  unfold f_X0_countUse
  obtain ⟨A2, e, g⟩ := loop1 (b := fun s : Int32 × St => f_X0_countUse_L2 (nI m) s.1 s.2) (s := (0, A)) (fun i s => s.1 = nI i ∧ used A s.2 i m) (fun s => used A s k m) k ⟨rfl, rfl, fun _ _ => rfl, fun j => by rw [if_neg (by omega)]⟩ (by
    rintro i ⟨x, A1⟩ hi ⟨rfl, g1, g2, g3⟩
    dsimp only at g1 g2 g3 ⊢
    unfold f_X0_countUse_L2
    have h1 : A1.1 3 0 = nI k := by rw [g2 3 (by omega)]; exact h
    by_cases hik : i = k
    · subst hik
      rw [if_pos (nI_end h1)]
      exact Or.inr ⟨A1, rfl, g1, g2, g3⟩
    · have ei : nI i + 1 = nI (i + 1) := nI_1 i
      rw [if_neg (nI_ends h1 hk (by omega)), bit_eq hm (by omega)]
      simp (disch := omega) only [gI_ok, nIc, bv_i, ei]
      refine Or.inl ⟨_, rfl, by omega, rfl, g1, fun c hc => ?_, fun j => ?_⟩
      · rw [upI_r hc]; exact g2 c hc
      · by_cases q : j = i
        · subst q
          rw [upI_s, g3 j, if_neg (by omega)]
          cases m.testBit j
          · rw [if_neg (by simp), if_neg (by simp)]
            exact Int32.add_zero _
          · rw [if_pos rfl, if_pos ⟨by omega, rfl⟩]
            rfl
        · rw [upI_o (by omega), g3 j]
          by_cases z : j < i ∧ m.testBit j = true
          · rw [if_pos z, if_pos ⟨by omega, z.2⟩]
          · rw [if_neg z, if_neg (fun y => z ⟨by omega, y.2⟩)])
  rw [cl_s e]
  exact ⟨A2, rfl, g⟩
theorem use_eq6 {A B A2 : St} {k m : Nat} (h : Rel A B) (hb : bankRel 3 1 k A B) (hm : m < 4096) (hu : used A A2 k m) : ∃ B2, f_X6_isUsed (nI m) B = some B2 ∧ Rel A2 B2 ∧ bankRel 3 1 k A2 B2 := by
  have hk := hb.1
  unfold f_X6_isUsed
  obtain ⟨B2, e, g1, g2, g3, g4⟩ := loop1 (b := fun s : Int32 × St => f_X6_isUsed_L2 (nI m) s.1 s.2) (s := (0, B)) (fun i s => s.1 = nI i ∧ s.2.2 = B.2 ∧ (∀ c, c ≠ 1 → s.2.1 c = B.1 c) ∧ (∀ j, (∀ a, a < i → j ≠ 1 + 8 * a + 6) → s.2.1 1 j = B.1 1 j) ∧ ∀ a, a < i → s.2.1 1 (1 + 8 * a + 6) = A2.1 11 a) (fun s => s.2 = B.2 ∧ (∀ c, c ≠ 1 → s.1 c = B.1 c) ∧ (∀ j, (∀ a, a < k → j ≠ 1 + 8 * a + 6) → s.1 1 j = B.1 1 j) ∧ ∀ a, a < k → s.1 1 (1 + 8 * a + 6) = A2.1 11 a) k ⟨rfl, rfl, fun _ _ => rfl, fun _ _ => rfl, fun a ha => absurd ha (by omega)⟩ (by
    rintro i ⟨x, B1⟩ hi ⟨rfl, g1, g2, g3, g4⟩
    dsimp only at g1 g2 g3 g4 ⊢
    unfold f_X6_isUsed_L2
    have h1 : B1.1 1 0 = nI k := by rw [g3 0 (by omega)]; exact hb.2.2.1
    by_cases hik : i = k
    · subst hik
      rw [if_pos (nI_end h1)]
      exact Or.inr ⟨B1, rfl, g1, g2, g3, g4⟩
    · have ei : nI i + 1 = nI (i + 1) := nI_1 i
      have e8 : (1 : Int32) + 8 * nI i + 6 = nI (1 + 8 * i + 6) := by
        show nI 1 + nI 8 * nI i + nI 6 = _
        rw [pk_mul, nI_add, nI_add]
      have eu := hu.2.2 i
      have eb : A.1 11 i = B.1 1 (1 + 8 * i + 6) := hb.2.2.2.1 i (by omega) 6 (by omega)
      have eb1 : B1.1 1 (1 + 8 * i + 6) = A.1 11 i := by rw [g3 _ (by omega)]; exact eb.symm
      rw [if_neg (nI_ends h1 hk (by omega)), cl_s (has6_eq hm (by omega)), e8]
      simp (disch := omega) only [gI_ok, nIc, bv_i, ei]
      cases hbit : m.testBit i
      · rw [hbit, if_neg (by simp)] at eu
        rw [if_pos (by decide)]
        refine Or.inl ⟨_, rfl, by omega, rfl, g1, g2, fun j hj => g3 j fun a ha => hj a (by omega), fun a ha => ?_⟩
        by_cases q : a = i
        · subst q
          exact eb1.trans eu.symm
        · exact g4 a (by omega)
      · rw [hbit, if_pos ⟨by omega, rfl⟩] at eu
        rw [if_neg (by decide)]
        refine Or.inl ⟨_, rfl, by omega, rfl, g1, fun c hc => ?_, fun j hj => ?_, fun a ha => ?_⟩
        · rw [upI_r hc]; exact g2 c hc
        · have := hj i (by omega)
          rw [upI_o (by omega)]; exact g3 j fun a ha => hj a (by omega)
        · by_cases q : a = i
          · subst q
            rw [upI_s, eb1, eu]
          · rw [upI_o (by omega)]; exact g4 a (by omega))
  have hb2 : bankRel 3 1 k A2 B2 := by
    obtain ⟨h1, h2, h3, h4, h5, h6, h7, h8, h9, h10⟩ := hb
    obtain ⟨u1, u2, u3⟩ := hu
    refine ⟨h1, ?_, ?_, fun i hi u hu => ?_, fun i hi => ?_, fun j hj => ?_, fun j hj => ?_, fun j hj => ?_, ?_, ?_⟩
    · rw [u2 3 (by omega)]; exact h2
    · rw [g3 0 (by omega)]; exact h3
    · by_cases q : u = 6
      · subst q
        exact (g4 i hi).symm
      · rw [u2 _ (by omega), g3 _ (by omega)]
        exact h4 i hi u hu
    · obtain ⟨e, he, e2⟩ := (h5 i hi).2.2.2.2.2.2
      exact (h5 i hi).of (fun w hw => by show A2.1 (3 + 2 + w) i = _; rw [u2 _ (by omega)]) he (by show A2.1 (3 + 2 + 7) i = _; rw [u2 _ (by omega)]; exact e2)
    · rw [u2 _ (by omega), u2 _ (by omega), u2 _ (by omega), u2 _ (by omega), g3 _ (by omega), g3 _ (by omega), g3 _ (by omega), g3 _ (by omega)]
      exact h6 j hj
    · rw [u2 _ (by omega), u2 _ (by omega)]
      exact h7 j hj
    · rw [u2 _ (by omega), g3 _ (by omega)]
      exact h8 j hj
    · rw [u2 _ (by omega)]; exact h9
    · rw [u2 _ (by omega), g3 _ (by omega)]; exact h10
  rw [cl_s e]
  exact ⟨B2, rfl, h.bank (fun c hc => hu.2.1 c (by omega)) hu.1 g2 g1 hb2, hb2⟩
theorem SM_use {A B : St} (h : Rel A B) (x1 : Int32) : SM (f_X5_use x1 A) (f_X6_use x1 B) := by
  have h0 := h
  obtain ⟨⟨k, hb⟩, _⟩ := h0
  have hk := hb.1
  have hp := pow_le hk
  unfold f_X5_use f_X6_use
  refine SM_chk (hasAll_eq hb x1) (areItems_eq hb x1) (fun _ => SM_find h 0 (by decide)) fun q1 => ?_
  obtain ⟨m, hm, rfl⟩ := set_of hb.1 q1
  obtain ⟨A2, e, hR2, hb2, hRR, _⟩ := rules_rel h hb
  obtain ⟨q, e1, e2, _⟩ := paper_both hb2 hRR hm
  rw [cl_s e, cl_s e1, cl_s e2]
  cases q
  · rw [if_pos (show bI false = 0 by decide), if_pos (show bI false = 0 by decide)]
    exact SM_find hR2 4 (by decide)
  · rw [if_neg (show ¬ bI true = 0 by decide), if_neg (show ¬ bI true = 0 by decide)]
    obtain ⟨A3, e3, hu⟩ := use_eq hb2.2.1 hk (show m < 4096 by omega)
    obtain ⟨B3, e4, hR3, hb3⟩ := use_eq6 hR2 hb2 (by omega) hu
    obtain ⟨W, hW, e5, hj⟩ := worn_eq hb3.2.1 hk
    rw [cl_s e3, cl_s e4, cl_s e5, cl_s (bc_eq (by omega))]
    have e6 : A3.1 17 2 = B3.1 1 115 := hb3.2.2.2.2.2.2.2.1 2 (by omega)
    have l := loop_sum (b := fun s : Int32 × Int32 => f_X6_use_L37 B3 s.1 s.2) (fun i => nI (if W.testBit i then 1 else 0)) k (fun i hi v => by
      dsimp only
      unfold f_X6_use_L37
      have ei : nI i + 1 = nI (i + 1) := nI_1 i
      have i2 : f_X6_it (nI i) 6 B3 = some (B3.1 1 (1 + 8 * i + 6)) := it_eq (w := 6) (by omega) (by omega)
      have e2 : A3.1 11 i = B3.1 1 (1 + 8 * i + 6) := hb3.2.2.2.1 i hi 6 (by omega)
      rw [if_neg (nI_ends hb3.2.2.1 hk hi), cl_s i2, ← e2, ← e6]
      simp only [bv_i, ei]
      by_cases z : A3.1 11 i < A3.1 17 2
      · rw [if_pos z, Bool.eq_false_iff.mpr (fun y => (hj i hi).mp y z)]
        rfl
      · rw [if_neg z, (hj i hi).mpr z]
        rfl) (fun v => by
      dsimp only
      unfold f_X6_use_L37
      rw [if_pos (nI_end hb3.2.2.1)])
    rw [cl_s l, sI_ct]
    refine SM_ret ?_ hR3
    unfold pc
    obtain ⟨d, hd⟩ : ∃ d, 12 = k + d := ⟨12 - k, by omega⟩
    have hz : fb_ct (fun j => W.testBit (k + j)) d = 0 := fb_ct_zero.mpr fun j hj => bit_hi hW (by omega)
    rw [hd, fb_ct_split, hz, Nat.add_zero]
