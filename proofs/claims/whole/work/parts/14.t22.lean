/-! The two forms: both loops make the same fold. -/
def okS (F : Nat → Int32) (V : Nat → UInt64) (L : Nat) (S : FS) : Prop := S.1 = true → ∃ a b, a < L ∧ b < L ∧ S.2.1 = mnV (V a) (V b) ∧ S.2.2.1 = F a ∧ S.2.2.2.1 = F b ∧ S.2.2.2.2 = FP.dsub (mxV (V a) (V b)) (mnV (V a) (V b))
theorem fstep_yes {F : Nat → Int32} {V : Nat → UInt64} {a b : Nat} {S : FS} (h1 : F a &&& F b = 0) (h2 : S.1 = false ∨ S.2.1.toNat < (mnV (V a) (V b)).toNat) : fstep F V a S b = (true, mnV (V a) (V b), F a, F b, FP.dsub (mxV (V a) (V b)) (mnV (V a) (V b))) := by
  unfold fstep
  exact if_pos ⟨h1, h2⟩
theorem fstep_no {F : Nat → Int32} {V : Nat → UInt64} {a b : Nat} {S : FS} (h : ¬ (F a &&& F b = 0 ∧ (S.1 = false ∨ S.2.1.toNat < (mnV (V a) (V b)).toNat))) : fstep F V a S b = S := by
  unfold fstep
  exact if_neg h
theorem mnV_le (a b : UInt64) : (mnV a b).toNat ≤ a.toNat ∧ (mnV a b).toNat ≤ b.toNat := by
  unfold mnV
  by_cases z : a.toNat ≤ b.toNat
  · rw [if_pos z]; exact ⟨Nat.le_refl _, z⟩
  · rw [if_neg z]; exact ⟨by omega, Nat.le_refl _⟩
theorem mnV_gt {a b : UInt64} {x : Nat} (h1 : x < a.toNat) (h2 : x < b.toNat) : x < (mnV a b).toNat := by
  unfold mnV
  by_cases z : a.toNat ≤ b.toNat
  · rw [if_pos z]; exact h1
  · rw [if_neg z]; exact h2
theorem mnV_of {a b : UInt64} {p : UInt64 → Prop} (h1 : p a) (h2 : p b) : p (mnV a b) := by
  unfold mnV
  by_cases z : a.toNat ≤ b.toNat
  · rw [if_pos z]; exact h1
  · rw [if_neg z]; exact h2
theorem mxV_of {a b : UInt64} {p : UInt64 → Prop} (h1 : p a) (h2 : p b) : p (mxV a b) := by
  unfold mxV
  by_cases z : a.toNat ≤ b.toNat
  · rw [if_pos z]; exact h2
  · rw [if_neg z]; exact h1
theorem okS_step {F : Nat → Int32} {V : Nat → UInt64} {L a b : Nat} {S : FS} (h : okS F V L S) (ha : a < L) (hb : b < L) : okS F V L (fstep F V a S b) := by
  by_cases z : F a &&& F b = 0 ∧ (S.1 = false ∨ S.2.1.toNat < (mnV (V a) (V b)).toNat)
  · rw [fstep_yes z.1 z.2]
    exact fun _ => ⟨a, b, ha, hb, rfl, rfl, rfl, rfl⟩
  · rw [fstep_no z]; exact h
theorem okS_fin1 {F : Nat → Int32} {V : Nat → UInt64} {L a : Nat} {S : FS} (h : okS F V L S) (ha : a < L) : ∀ n, a + 1 + n ≤ L → okS F V L (fin1 F V a S n)
  | 0, _ => h
  | n + 1, hn => okS_step (okS_fin1 h ha n (by omega)) ha (by omega)
theorem okS_fin2 {F : Nat → Int32} {V : Nat → UInt64} {L : Nat} {S : FS} (h : okS F V L S) : ∀ a, a ≤ L → okS F V L (fin2 F V L S a)
  | 0, _ => h
  | a + 1, ha => okS_fin1 (okS_fin2 h a (by omega)) (by omega) _ (by omega)
/-- values that are numbers from 0 on -/
def okV (V : Nat → UInt64) (L : Nat) : Prop := ∀ j, j < L → Md 1142 (V j) ∧ Nn (V j)
theorem okS.num {F : Nat → Int32} {V : Nat → UInt64} {L : Nat} {S : FS} (h : okS F V L S) (hV : okV V L) (hS : S.1 = true) : Md 1142 S.2.1 ∧ Nn S.2.1 := by
  obtain ⟨a, b, ha, hb, e, _⟩ := h hS
  rw [e]
  exact mnV_of (p := fun x => Md 1142 x ∧ Nn x) (hV a ha) (hV b hb)
theorem fin1_stop {F : Nat → Int32} {V : Nat → UInt64} {a n : Nat} {S : FS} (h1 : (fin1 F V a S n).1 = true) (h2 : (V a).toNat ≤ (fin1 F V a S n).2.1.toNat) : ∀ j, fin1 F V a S (n + j) = fin1 F V a S n
  | 0 => rfl
  | j + 1 => by
    show fstep F V a (fin1 F V a S (n + j)) (a + 1 + (n + j)) = _
    rw [fin1_stop h1 h2 j]
    refine fstep_no ?_
    rintro ⟨_, z | z⟩
    · rw [h1] at z; cases z
    · have := (mnV_le (V a) (V (a + 1 + (n + j)))).1
      omega
/-- the reference's side -/
def refS (B0 : St) (S : FS) (fl : Int32) (le : UInt64) (B1 : St) : Prop := fl = bI S.1 ∧ (S.1 = true → le = S.2.1 ∧ B1.1 0 6 = S.2.2.1 ∧ B1.1 0 7 = S.2.2.2.1 ∧ B1.2.1 0 8 = S.2.2.2.2) ∧ (∀ c, c ≠ 0 → B1.1 c = B0.1 c) ∧ B1.1 0 2 = B0.1 0 2 ∧ (∀ c, c ≠ 0 → B1.2.1 c = B0.2.1 c) ∧ B1.2.2 = B0.2.2
theorem gB_t {α : Type} {b : Bool} {k : Option α} (h : b = true) : gB b k = k := by
  unfold gB
  exact if_pos h
theorem refIn {F : Nat → Int32} {V : Nat → UInt64} {L a : Nat} {B0 : St} (hL : L ≤ 924) (hV : okV V L) (ha : a < L) (h4 : ∀ j, j < L → B0.1 4 j = F j) (h5 : ∀ j, j < L → B0.2.1 5 j = V j) {S : FS} (hS : okS F V L S) {fl : Int32} {le : UInt64} {B1 : St} (hr : refS B0 S fl le B1) : ∃ fl2 le2 B2, loop (fun s : Int32 × UInt64 × Int32 × St => f_X6_areForms_L73 (nI L) (nI a) s.1 s.2.1 s.2.2.1 s.2.2.2) (fl, le, nI (a + 1), B1) = some (fl2, le2, B2) ∧ refS B0 (fin1 F V a S (L - (a + 1))) fl2 le2 B2 := by
  obtain ⟨r, e, g⟩ := loop1 (b := fun s : Int32 × UInt64 × Int32 × St => f_X6_areForms_L73 (nI L) (nI a) s.1 s.2.1 s.2.2.1 s.2.2.2) (s := (fl, le, nI (a + 1), B1)) (fun n s => refS B0 (fin1 F V a S n) s.1 s.2.1 s.2.2.2 ∧ s.2.2.1 = nI (a + 1 + n)) (fun r => refS B0 (fin1 F V a S (L - (a + 1))) r.1 r.2.1 r.2.2) (L - (a + 1)) ⟨hr, rfl⟩ (by
    rintro n ⟨fl', le', y, B2⟩ hn ⟨hr2, rfl⟩
    dsimp only at hr2 ⊢
    unfold f_X6_areForms_L73
    by_cases hin : n = L - (a + 1)
    · rw [if_pos (show nI L ≤ nI (a + 1 + n) by rw [show a + 1 + n = L by omega]; exact Int32.le_refl _), ← hin]
      exact Or.inr ⟨_, rfl, hr2⟩
    · have hb : a + 1 + n < L := by omega
      generalize hbb : a + 1 + n = b at hb
      have hok := okS_fin1 hS ha n (by omega)
      have hstep : fin1 F V a S (n + 1) = fstep F V a (fin1 F V a S n) b := by rw [← hbb]; rfl
      rw [show a + 1 + (n + 1) = b + 1 by omega, hstep]
      generalize fin1 F V a S n = T at hok hr2
      obtain ⟨g1, g2, g3, g4, g5, g6⟩ := hr2
      have ei : nI b + 1 = nI (b + 1) := nI_1 b
      have c4 : ∀ j, j < L → B2.1 4 j = F j := fun j hj => by rw [g3 4 (by omega)]; exact h4 j hj
      have c5 : ∀ j, j < L → B2.2.1 5 j = V j := fun j hj => by rw [g5 5 (by omega)]; exact h5 j hj
      have va := hV a ha
      have vb := hV b hb
      have fa := va.1.fin (by decide)
      have fb := vb.1.fin (by decide)
      have pk := pick_min fa fb va.2 vb.2
      have pk1 : Native.java_lang_Math.nans.pick64 false (V a) (V b) = mnV (V a) (V b) := pk.1
      have pk2 : Native.java_lang_Math.nans.pick64 true (V a) (V b) = mxV (V a) (V b) := pk.2
      have mmn := mnV_of (p := fun x => Md 1142 x ∧ Nn x) va vb
      have mmx := mxV_of (p := fun x => Md 1142 x ∧ Nn x) va vb
      have mds : Md 1144 (FP.dsub (mxV (V a) (V b)) (mnV (V a) (V b))) := mmx.1.sub mmn.1 (by decide) (by decide)
      have fds := mds.fin (by decide)
      have hnan : decide (FP.dIsNaN (V a) = false ∧ FP.dIsNaN (V b) = false) = true := decide_eq_true ⟨fa.notNaN, fb.notNaN⟩
      rw [if_neg (show ¬ nI L ≤ nI b from nI_ge hb (by omega))]
      simp (disch := omega) only [gI_ok, nIc, bv_i, upI_2, upI_o, c4, c5, gB_t hnan, pk1, pk2, g64_fin fds, ei]
      have done : refS B0 (true, mnV (V a) (V b), F a, F b, FP.dsub (mxV (V a) (V b)) (mnV (V a) (V b))) 1 (mnV (V a) (V b)) (upD (upI (upI B2 0 6 (F a)) 0 7 (F b)) 0 8 (FP.dsub (mxV (V a) (V b)) (mnV (V a) (V b)))) := by
        refine ⟨rfl, fun _ => ⟨rfl, ?_, ?_, ?_⟩, fun c hc => ?_, ?_, fun c hc => ?_, ?_⟩
        · rw [upD_1, upI_o (by omega), upI_s]
        · rw [upD_1, upI_s]
        · rw [upD_s]
        · rw [upD_1, upI_r hc, upI_r hc]; exact g3 c hc
        · rw [upD_1, upI_o (by omega), upI_o (by omega)]; exact g4
        · rw [upD_r hc, upI_2, upI_2]; exact g5 c hc
        · rw [upD_2, upI_2, upI_2]; exact g6
      by_cases z : F a &&& F b = 0
      · rw [if_pos z]
        cases hT : T.1
        · rw [if_pos (show fl' = 0 by rw [g1, hT]; rfl), fstep_yes z (Or.inl hT)]
          exact Or.inl ⟨_, rfl, by omega, done, rfl⟩
        · have hn1 := hok.num hV hT
          have hcmp := nn_cmp (mmn.1.fin (by decide)) (hn1.1.fin (by decide)) mmn.2 hn1.2 .g
          rw [if_neg (show ¬ fl' = 0 by rw [g1, hT]; decide), (g2 hT).1]
          by_cases w : T.2.1.toNat < (mnV (V a) (V b)).toNat
          · rw [if_pos (hcmp.2.1.mpr w), fstep_yes z (Or.inr w)]
            exact Or.inl ⟨_, rfl, by omega, done, rfl⟩
          · rw [if_neg (fun q => w (hcmp.2.1.mp q)), fstep_no (fun q => by
              rcases q.2 with q | q
              · rw [hT] at q; cases q
              · exact w q)]
            exact Or.inl ⟨_, rfl, by omega, ⟨g1, fun q => ⟨rfl, (g2 q).2⟩, g3, g4, g5, g6⟩, rfl⟩
      · rw [if_neg z, fstep_no (fun q => z q.1)]
        exact Or.inl ⟨_, rfl, by omega, ⟨g1, g2, g3, g4, g5, g6⟩, rfl⟩)
  obtain ⟨r1, r2, r3⟩ := r
  exact ⟨r1, r2, r3, e, g⟩
theorem refOut {F : Nat → Int32} {V : Nat → UInt64} {L : Nat} {B0 : St} (hL : L ≤ 924) (hV : okV V L) (h4 : ∀ j, j < L → B0.1 4 j = F j) (h5 : ∀ j, j < L → B0.2.1 5 j = V j) {S : FS} (hS : okS F V L S) {le : UInt64} (hr : refS B0 S 0 le B0) : ∃ fl2 le2 B2, loop (fun s : Int32 × UInt64 × Int32 × St => f_X6_areForms_L61 (nI L) s.1 s.2.1 s.2.2.1 s.2.2.2) (0, le, 0, B0) = some (fl2, B2) ∧ refS B0 (fin2 F V L S L) fl2 le2 B2 := by
  obtain ⟨r, e, le2, g⟩ := loop1 (b := fun s : Int32 × UInt64 × Int32 × St => f_X6_areForms_L61 (nI L) s.1 s.2.1 s.2.2.1 s.2.2.2) (s := (0, le, 0, B0)) (fun n s => refS B0 (fin2 F V L S n) s.1 s.2.1 s.2.2.2 ∧ s.2.2.1 = nI n) (fun r => ∃ le2, refS B0 (fin2 F V L S L) r.1 le2 r.2) L ⟨hr, rfl⟩ (by
    rintro a ⟨fl', le', y, B2⟩ hn ⟨hr2, rfl⟩
    dsimp only at hr2 ⊢
    unfold f_X6_areForms_L61
    by_cases hin : a = L
    · subst hin
      rw [if_pos (Int32.le_refl _)]
      exact Or.inr ⟨_, rfl, _, hr2⟩
    · have ha : a < L := by omega
      have ei : nI a + 1 = nI (a + 1) := nI_1 a
      obtain ⟨f2, l2, B3, e2, k2⟩ := refIn hL hV ha h4 h5 (okS_fin2 hS a (by omega)) hr2
      rw [if_neg (show ¬ nI L ≤ nI a from nI_ge ha (by omega)), bv_i, ei, cl_s e2]
      unfold f_X6_areForms_X190_61
      rw [bv_i, ei]
      exact Or.inl ⟨_, rfl, ha, k2, rfl⟩)
  obtain ⟨r1, r2⟩ := r
  exact ⟨r1, le2, r2, e, g⟩
/-- the class's side -/
def clsS (A0 : St) (S : FS) (le : UInt64) (A1 : St) : Prop := (S.1 = false → le = 13830554455654793216) ∧ (S.1 = true → le = S.2.1 ∧ A1.1 2 1 = S.2.2.1 ∧ A1.1 2 2 = S.2.2.2.1) ∧ (∀ c, c ≠ 2 → A1.1 c = A0.1 c) ∧ A1.1 2 9 = A0.1 2 9 ∧ A1.2 = A0.2
theorem le_m1 {v : UInt64} (h : Md 1142 v ∧ Nn v) (op : CmpOp) : ¬ Op.cmpValue (FP.dcmp v 13830554455654793216) op ≤ 0 := by
  obtain ⟨s, Z, hD⟩ := Dv.ofFin (h.1.fin (by decide))
  have h1 := hD.nn.mp h.2
  subst h1
  rw [hD.cmp dvm1, cv_le]
  show ¬ ((Z : Nat) : Int) ≤ -((2 ^ 1074 : Nat) : Int)
  have := Nat.two_pow_pos 1074
  generalize 2 ^ 1074 = X at this
  omega
theorem clsS.le {A0 A1 : St} {F : Nat → Int32} {V : Nat → UInt64} {L : Nat} {S : FS} {le v : UInt64} (h : clsS A0 S le A1) (hS : okS F V L S) (hV : okV V L) (hv : Md 1142 v ∧ Nn v) (op : CmpOp) : Op.cmpValue (FP.dcmp v le) op ≤ 0 ↔ S.1 = true ∧ v.toNat ≤ S.2.1.toNat := by
  cases hT : S.1
  · rw [h.1 hT]
    exact ⟨fun z => absurd z (le_m1 hv op), fun z => by cases z.1⟩
  · have hn := hS.num hV hT
    rw [(h.2.1 hT).1, (nn_cmp (hv.1.fin (by decide)) (hn.1.fin (by decide)) hv.2 hn.2 op).1]
    exact ⟨fun z => ⟨rfl, z⟩, fun z => z.2⟩
theorem clsIn {F : Nat → Int32} {V : Nat → UInt64} {L a : Nat} {A0 : St} (hL : L ≤ 924) (hV : okV V L) (ha : a < L) (h9 : A0.1 2 9 = nI L) (h4 : ∀ j, j < L → A0.1 40 j = F j) (h5 : ∀ j, j < L → A0.2.1 41 j = V j) {S : FS} (hS : okS F V L S) {le : UInt64} {A1 : St} (hr : clsS A0 S le A1) : ∃ le2 A2, loop (fun s : UInt64 × Int32 × St => f_X1_findForms_L23 (nI a) s.1 s.2.1 s.2.2) (le, nI (a + 1), A1) = some (le2, A2) ∧ clsS A0 (fin1 F V a S (L - (a + 1))) le2 A2 := by
  obtain ⟨r, e, g⟩ := loop1 (b := fun s : UInt64 × Int32 × St => f_X1_findForms_L23 (nI a) s.1 s.2.1 s.2.2) (s := (le, nI (a + 1), A1)) (fun n s => clsS A0 (fin1 F V a S n) s.1 s.2.2 ∧ s.2.1 = nI (a + 1 + n)) (fun r => clsS A0 (fin1 F V a S (L - (a + 1))) r.1 r.2) (L - (a + 1)) ⟨hr, rfl⟩ (by
    rintro n ⟨le', y, A2⟩ hn ⟨hr2, rfl⟩
    dsimp only at hr2 ⊢
    unfold f_X1_findForms_L23
    have e9 : A2.1 2 9 = nI L := hr2.2.2.2.1.trans h9
    rw [e9]
    by_cases hin : n = L - (a + 1)
    · rw [if_pos (show nI L ≤ nI (a + 1 + n) by rw [show a + 1 + n = L by omega]; exact Int32.le_refl _), ← hin]
      exact Or.inr ⟨_, rfl, hr2⟩
    · have hb : a + 1 + n < L := by omega
      have hok := okS_fin1 hS ha n (by omega)
      have va := hV a ha
      have hla := hr2.le hok hV va .l
      have hstop := fun (p : (fin1 F V a S n).1 = true) (q : (V a).toNat ≤ (fin1 F V a S n).2.1.toNat) => fin1_stop p q (L - (a + 1) - n)
      rw [show n + (L - (a + 1) - n) = L - (a + 1) by omega] at hstop
      generalize hbb : a + 1 + n = b at hb
      have vb := hV b hb
      have hlb := hr2.le hok hV vb .l
      have hstep : fin1 F V a S (n + 1) = fstep F V a (fin1 F V a S n) b := by rw [← hbb]; rfl
      rw [show a + 1 + (n + 1) = b + 1 by omega, hstep]
      generalize fin1 F V a S n = T at hok hr2 hla hlb hstop
      have hr3 := hr2
      obtain ⟨g0, g2, g3, g4, g5⟩ := hr2
      have ei : nI b + 1 = nI (b + 1) := nI_1 b
      have c4 : ∀ j, j < L → A2.1 40 j = F j := fun j hj => by rw [g3 40 (by omega)]; exact h4 j hj
      have c5 : ∀ j, j < L → A2.2.1 41 j = V j := fun j hj => by rw [g5]; exact h5 j hj
      rw [if_neg (show ¬ nI L ≤ nI b from nI_ge hb (by omega))]
      simp (disch := omega) only [gI_ok, nIc, bv_i, upI_o, c4, c5, ei]
      by_cases z1 : Op.cmpValue (FP.dcmp (V a) le') .l ≤ 0
      · rw [if_pos z1]
        have w := hla.mp z1
        rw [hstop w.1 w.2]
        exact Or.inr ⟨_, rfl, hr3⟩
      · rw [if_neg z1]
        by_cases z2 : Op.cmpValue (FP.dcmp (V b) le') .l ≤ 0
        · have w := hlb.mp z2
          rw [if_pos z2, fstep_no (fun q => by
            rcases q.2 with q | q
            · rw [w.1] at q; cases q
            · have := (mnV_le (V a) (V b)).2
              omega)]
          exact Or.inl ⟨_, rfl, by omega, hr3, rfl⟩
        · rw [if_neg z2]
          by_cases z : F a &&& F b = 0
          · have hup : T.1 = false ∨ T.2.1.toNat < (mnV (V a) (V b)).toNat := by
              cases hT : T.1
              · exact Or.inl rfl
              · refine Or.inr (mnV_gt ?_ ?_)
                · exact Nat.lt_of_not_le fun q => z1 (hla.mpr ⟨hT, q⟩)
                · exact Nat.lt_of_not_le fun q => z2 (hlb.mpr ⟨hT, q⟩)
            have done : clsS A0 (true, mnV (V a) (V b), F a, F b, FP.dsub (mxV (V a) (V b)) (mnV (V a) (V b))) (mnV (V a) (V b)) (upI (upI A2 2 1 (F a)) 2 2 (F b)) := by
              refine ⟨(fun q => by cases q), fun _ => ⟨rfl, ?_, ?_⟩, fun c hc => ?_, ?_, ?_⟩
              · rw [upI_o (by omega), upI_s]
              · rw [upI_s]
              · rw [upI_r hc, upI_r hc]; exact g3 c hc
              · rw [upI_o (by omega), upI_o (by omega)]; exact g4
              · rw [upI_2, upI_2]; exact g5
            have hcmp := (nn_cmp (va.1.fin (by decide)) (vb.1.fin (by decide)) va.2 vb.2 .g).2.2
            rw [if_pos z, fstep_yes z hup]
            by_cases y : (V b).toNat ≤ (V a).toNat
            · have em : mnV (V a) (V b) = V b := by
                unfold mnV
                by_cases x : (V a).toNat ≤ (V b).toNat
                · rw [if_pos x]; exact UInt64.toNat_inj.mp (by omega)
                · rw [if_neg x]
              rw [if_pos (hcmp.mpr y)]
              rw [em] at done ⊢
              exact Or.inl ⟨_, rfl, by omega, done, rfl⟩
            · have em : mnV (V a) (V b) = V a := by
                unfold mnV
                rw [if_pos (by omega)]
              rw [if_neg (fun q => y (hcmp.mp q))]
              rw [em] at done ⊢
              exact Or.inl ⟨_, rfl, by omega, done, rfl⟩
          · rw [if_neg z, fstep_no (fun q => z q.1)]
            exact Or.inl ⟨_, rfl, by omega, hr3, rfl⟩)
  obtain ⟨r1, r2⟩ := r
  exact ⟨r1, r2, e, g⟩
theorem clsOut {F : Nat → Int32} {V : Nat → UInt64} {L : Nat} {A0 : St} (hL : L ≤ 924) (hV : okV V L) (h9 : A0.1 2 9 = nI L) (h4 : ∀ j, j < L → A0.1 40 j = F j) (h5 : ∀ j, j < L → A0.2.1 41 j = V j) {S : FS} (hS : okS F V L S) {le : UInt64} (hr : clsS A0 S le A0) : ∃ le2 A2, loop (fun s : UInt64 × Int32 × St => f_X1_findForms_L10 s.1 s.2.1 s.2.2) (le, 0, A0) = some (le2, A2) ∧ clsS A0 (fin2 F V L S L) le2 A2 := by
  obtain ⟨r, e, g⟩ := loop1 (b := fun s : UInt64 × Int32 × St => f_X1_findForms_L10 s.1 s.2.1 s.2.2) (s := (le, 0, A0)) (fun n s => clsS A0 (fin2 F V L S n) s.1 s.2.2 ∧ s.2.1 = nI n) (fun r => clsS A0 (fin2 F V L S L) r.1 r.2) L ⟨hr, rfl⟩ (by
    rintro a ⟨le', y, A2⟩ hn ⟨hr2, rfl⟩
    dsimp only at hr2 ⊢
    unfold f_X1_findForms_L10
    have e9 : A2.1 2 9 = nI L := hr2.2.2.2.1.trans h9
    rw [e9]
    by_cases hin : a = L
    · subst hin
      rw [if_pos (Int32.le_refl _)]
      exact Or.inr ⟨_, rfl, hr2⟩
    · have ha : a < L := by omega
      have ei : nI a + 1 = nI (a + 1) := nI_1 a
      obtain ⟨l2, A3, e2, k2⟩ := clsIn hL hV ha h9 h4 h5 (okS_fin2 hS a (by omega)) hr2
      rw [if_neg (show ¬ nI L ≤ nI a from nI_ge ha (by omega)), bv_i, ei, cl_s e2]
      unfold f_X1_findForms_X133_10
      rw [bv_i, ei]
      exact Or.inl ⟨_, rfl, ha, k2, rfl⟩)
  obtain ⟨r1, r2⟩ := r
  exact ⟨r1, r2, e, g⟩
