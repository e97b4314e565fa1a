/-! All papers, one after another: over all sets, over the list. -/
noncomputable def pB (B : St) (m : Nat) : Bool := (f_X6_isPaper (nI m) B).getD false
noncomputable def vB (B : St) (m : Nat) : UInt64 := (f_X6_valueOf (nI m) B).getD 0
theorem pB_eq {A B : St} {k m : Nat} (hb : bankRel 3 1 k A B) (hR : RR A k) (hm : m < 2 ^ k) : f_X1_isPaper (nI m) A = some (pB B m) ∧ f_X6_isPaper (nI m) B = some (pB B m) ∧ (pB B m = true ↔ Pap A k m) := by
  obtain ⟨q, e1, e2, e3⟩ := paper_both hb hR hm
  have : pB B m = q := by unfold pB; rw [e2]; rfl
  rw [this]
  exact ⟨e1, e2, e3⟩
theorem vB_eq {A B : St} {k m : Nat} (hb : bankRel 3 1 k A B) (hA : RA A B k) (hm : m < 2 ^ k) : f_X1_valueOf (nI m) A = some (vB B m) ∧ f_X6_valueOf (nI m) B = some (vB B m) ∧ Md 1142 (vB B m) ∧ Nn (vB B m) := by
  obtain ⟨d, e1, e2, e3, e4⟩ := value_both hb hA hm
  have : vB B m = d := by unfold vB; rw [e2]; rfl
  rw [this]
  exact ⟨e1, e2, e3, e4⟩
def scan {σ : Type} (p : Nat → Bool) (st : σ → Nat → σ) (s0 : σ) : Nat → σ
  | 0 => s0
  | n + 1 => if p n then st (scan p st s0 n) n else scan p st s0 n
theorem scan_ct {σ : Type} {p : Nat → Bool} {st : σ → Nat → σ} {s0 : σ} : ∀ {m n : Nat}, m ≤ n → fb_ct p m = fb_ct p n → scan p st s0 m = scan p st s0 n
  | m, 0, h, _ => by rw [show m = 0 by omega]
  | m, n + 1, h, e => by
    by_cases q : m = n + 1
    · rw [q]
    · have h1 := fb_ct_mono p (show m ≤ n by omega)
      rw [fb_ct_succ] at e
      have hp : p n = false := by
        cases z : p n
        · rfl
        · rw [z, if_pos rfl] at e; omega
      rw [hp, if_neg (by decide), Nat.add_zero] at e
      rw [scan_ct (show m ≤ n by omega) e]
      show _ = if p n then _ else _
      rw [hp, if_neg (by decide)]
theorem scan_same {σ : Type} {p : Nat → Bool} {st : σ → Nat → σ} {s0 : σ} {m n : Nat} (e : fb_ct p m = fb_ct p n) : scan p st s0 m = scan p st s0 n := by
  rcases Nat.le_total m n with h | h
  · exact scan_ct h e
  · exact (scan_ct h e.symm).symm
theorem scan_yes {σ : Type} {p : Nat → Bool} {st : σ → Nat → σ} {s0 : σ} {n : Nat} (h : p n = true) : scan p st s0 (n + 1) = st (scan p st s0 n) n := by
  show (if p n then _ else _) = _
  rw [h, if_pos rfl]
theorem scan_no {σ : Type} {p : Nat → Bool} {st : σ → Nat → σ} {s0 : σ} {n : Nat} (h : p n = false) : scan p st s0 (n + 1) = scan p st s0 n := by
  show (if p n then _ else _) = _
  rw [h, if_neg (by decide)]
theorem loop_list {σ τ ρ : Type} {b : τ → Option (τ ⊕ ρ)} {p : Nat → Bool} {st : σ → Nat → σ} {s0 : σ} (N : Nat) (I : σ → Prop) (hI : I s0) (emb : σ → Nat → τ) (out : σ → ρ)
    (h1 : ∀ s m, I s → m < N → p m = true → b (emb s (fb_ct p m)) = some (.inl (emb (st s m) (fb_ct p m + 1))) ∧ I (st s m))
    (he : ∀ s, I s → b (emb s (fb_ct p N)) = some (.inr (out s))) : loop b (emb s0 0) = some (out (scan p st s0 N)) := by
  obtain ⟨r, e, q⟩ := loop1 (b := b) (s := emb s0 0) (fun j t => ∃ n, n ≤ N ∧ fb_ct p n = j ∧ t = emb (scan p st s0 n) j ∧ I (scan p st s0 n)) (fun r => r = out (scan p st s0 N)) (fb_ct p N) ⟨0, by omega, rfl, rfl, hI⟩ (by
    rintro j t hj ⟨n, hn, rfl, rfl, hI⟩
    by_cases q : fb_ct p n = fb_ct p N
    · refine Or.inr ⟨_, ?_, rfl⟩
      rw [q, scan_same (σ := σ) q]
      rw [scan_same (σ := σ) q] at hI
      exact he _ hI
    · obtain ⟨i, hi, hp, hc⟩ := fb_ct_kth (p := p) (show fb_ct p n < fb_ct p N by omega)
      have es := scan_same (st := st) (s0 := s0) hc
      rw [← es] at hI
      obtain ⟨g1, g2⟩ := h1 (scan p st s0 i) i hI hi hp
      refine Or.inl ⟨emb (st (scan p st s0 i) i) (fb_ct p i + 1), ?_, by omega, i + 1, by omega, ?_, ?_, ?_⟩
      · rw [← es, ← hc]; exact g1
      · rw [fb_ct_succ, hp, if_pos rfl, hc]
      · rw [scan_yes hp, hc]
      · rw [scan_yes hp]; exact g2)
  rw [e, q]
theorem loop_sets {σ τ ρ : Type} {b : τ → Option (τ ⊕ ρ)} {p : Nat → Bool} {st : σ → Nat → σ} {s0 : σ} (N : Nat) (I : σ → Prop) (hI : I s0) (emb : σ → Nat → τ) (out : σ → ρ)
    (h1 : ∀ s m, I s → m < N → p m = true → b (emb s m) = some (.inl (emb (st s m) (m + 1))) ∧ I (st s m))
    (h0 : ∀ s m, I s → m < N → p m = false → b (emb s m) = some (.inl (emb s (m + 1))))
    (he : ∀ s, I s → b (emb s N) = some (.inr (out s))) : loop b (emb s0 0) = some (out (scan p st s0 N)) := by
  obtain ⟨r, e, q⟩ := loop1 (b := b) (s := emb s0 0) (fun j t => t = emb (scan p st s0 j) j ∧ I (scan p st s0 j)) (fun r => r = out (scan p st s0 N)) N ⟨rfl, hI⟩ (by
    rintro j t hj ⟨rfl, hI⟩
    by_cases q : j = N
    · subst q
      exact Or.inr ⟨_, he _ hI, rfl⟩
    · cases hp : p j
      · refine Or.inl ⟨_, h0 _ _ hI (by omega) hp, by omega, ?_, ?_⟩
        · rw [scan_no hp]
        · rw [scan_no hp]; exact hI
      · obtain ⟨g1, g2⟩ := h1 _ _ hI (by omega) hp
        refine Or.inl ⟨_, g1, by omega, ?_, ?_⟩
        · rw [scan_yes hp]
        · rw [scan_yes hp]; exact g2)
  rw [e, q]
/-! At most 924 papers. -/
def rc : Nat → Nat → Nat → Nat
  | 0, a, s => if pc a = s then 1 else 0
  | d + 1, a, s => rc d a s + rc d (a + 2 ^ d) s
theorem rc_eq : ∀ (d a s : Nat), fb_ct (fun j => decide (pc (a + j) = s)) (2 ^ d) = rc d a s
  | 0, a, s => by
    show fb_ct _ (0 + 1) = _
    rw [fb_ct_succ]
    show 0 + _ = _
    unfold rc
    rw [Nat.add_zero, Nat.zero_add]
    by_cases q : pc a = s
    · rw [if_pos q, if_pos (decide_eq_true q)]
    · rw [if_neg q, if_neg (by rw [decide_eq_false q]; decide)]
  | d + 1, a, s => by
    have h2 : fb_ct (fun j => decide (pc (a + (2 ^ d + j)) = s)) (2 ^ d) = rc d (a + 2 ^ d) s := by
      rw [← rc_eq d (a + 2 ^ d) s]
      exact fb_ct_cong fun j hj => by simp only [Nat.add_assoc]
    rw [Nat.pow_succ, Nat.mul_two, fb_ct_split, rc_eq d a s, h2]
    rfl
theorem rc_tab : ∀ s, s < 7 → rc 12 0 s ≤ 924 := by decide +kernel
theorem few {A B : St} {k : Nat} (hb : bankRel 3 1 k A B) (hR : RR A k) : fb_ct (pB B) (2 ^ k) ≤ 924 := by
  have hk := hb.1
  have hp := pow_le hk
  have o := hb.2.2.2.2.2.2.2.2.1
  have o1 : (1 : Int) ≤ (A.1 17 0).toInt := (fa_le _ _).mp o.1
  obtain ⟨s, hs, es⟩ := nat_of (x := A.1 17 0) (M := 6) (by omega) ((fa_le _ _).mp o.2)
  have h1 : fb_ct (pB B) (2 ^ k) ≤ fb_ct (fun j => decide (pc (0 + j) = s)) (2 ^ k) := fb_ct_sub fun m hm hpm => by
    have := ((pB_eq hb hR hm).2.2.mp hpm) 1 (by omega) (by omega)
    have h2 : nI (pc m) = A.1 17 0 := this
    rw [es] at h2
    have hpc := pc_le m
    have := (nI_eq (by omega) (by omega)).mp h2
    rw [Nat.zero_add]
    exact decide_eq_true this
  have h2 : fb_ct (fun j => decide (pc (0 + j) = s)) (2 ^ k) ≤ fb_ct (fun j => decide (pc (0 + j) = s)) (2 ^ 12) := fb_ct_mono _ hp
  have h4 := rc_eq 12 0 s
  have h3 := rc_tab s (by omega)
  omega
/-- the list, as the class holds it -/
def Lst (A B : St) (k : Nat) : Prop := A.1 2 9 = nI (fb_ct (pB B) (2 ^ k)) ∧ fb_ct (pB B) (2 ^ k) ≤ 924 ∧ ∀ m, m < 2 ^ k → pB B m = true → A.1 40 (fb_ct (pB B) m) = nI m ∧ A.2.1 41 (fb_ct (pB B) m) = vB B m
theorem list_rel {A B : St} {k : Nat} (h : Rel A B) (hb : bankRel 3 1 k A B) : ∃ A2, f_X1_listPapers A = some A2 ∧ Rel A2 B ∧ bankRel 3 1 k A2 B ∧ RR A2 k ∧ RA A2 B k ∧ Lst A2 B k := by
  have hk := hb.1
  unfold f_X1_listPapers
  obtain ⟨A3, e3, hR3, hb3, hRR3, _⟩ := rules_rel h hb
  obtain ⟨A6, e6, hR6, hb6, hRA6, eA⟩ := aims_rel hR3 hb3
  rw [cl_s e3, cl_s e6, bv_i]
  have hRR6 : RR A6 k := by unfold RR msk at hRR3 ⊢; rw [eA]; exact hRR3
  have hfew := few hb6 hRR6
  have keep : ∀ A1 : St, (∀ c j, c ≠ 40 → (c ≠ 2 ∨ j ≠ 9) → A1.1 c j = A6.1 c j) → (∀ c, c ≠ 41 → A1.2.1 c = A6.2.1 c) → Rel A1 B ∧ bankRel 3 1 k A1 B ∧ RR A1 k ∧ RA A1 B k := fun A1 f1 f2 => by
    have f3 : ∀ c, c ≠ 40 → c ≠ 2 → A1.1 c = A6.1 c := fun c h1 h2 => funext fun j => f1 c j h1 (Or.inl h2)
    have hb1 : bankRel 3 1 k A1 B := hb6.to (fun c h1 h2 => f3 c (by omega) (by omega)) rfl
    refine ⟨hR6.to ⟨fun c hc => f3 c (by omega) (by omega), f1 0 4 (by omega) (by omega), fun c h1 h2 => f2 c (by omega)⟩ (eqR.rfl' B), hb1, ?_, hRA6.keep hb6 hb1 (fun c hc => f3 c (by omega) (by omega)) (fun c h1 h2 => f2 c (by omega))⟩
    unfold RR msk at hRR6 ⊢
    rw [f3 6 (by omega) (by omega), f3 33 (by omega) (by omega), f3 10 (by omega) (by omega), f3 34 (by omega) (by omega), f3 11 (by omega) (by omega), f3 17 (by omega) (by omega), f1 2 5 (by omega) (by omega)]
    exact hRR6
  obtain ⟨A2, e, g1, g2, g3⟩ := loop1 (b := fun s : Int32 × St => f_X1_listPapers_L15 s.1 s.2) (s := (0, upI A6 2 9 0)) (fun n s => s.1 = nI n ∧ (∀ c j, c ≠ 40 → (c ≠ 2 ∨ j ≠ 9) → s.2.1 c j = A6.1 c j) ∧ (∀ c, c ≠ 41 → s.2.2.1 c = A6.2.1 c) ∧ s.2.1 2 9 = nI (fb_ct (pB B) n) ∧ ∀ m, m < n → pB B m = true → s.2.1 40 (fb_ct (pB B) m) = nI m ∧ s.2.2.1 41 (fb_ct (pB B) m) = vB B m) (fun s => (∀ c j, c ≠ 40 → (c ≠ 2 ∨ j ≠ 9) → s.1 c j = A6.1 c j) ∧ (∀ c, c ≠ 41 → s.2.1 c = A6.2.1 c) ∧ Lst s B k) (2 ^ k) ⟨rfl, fun c j h1 h2 => upI_o (by omega), fun _ _ => rfl, upI_s _ _ _ _, fun m hm => absurd hm (by omega)⟩ (by
    rintro n ⟨x, A1⟩ hn ⟨rfl, f1, f2, f3, f4⟩
    dsimp only at f1 f2 f3 f4 ⊢
    obtain ⟨hR1, hb1, hRR1, hRA1⟩ := keep A1 f1 f2
    unfold f_X1_listPapers_L15
    by_cases hin : n = 2 ^ k
    · subst hin
      rw [if_pos (sets_end hb1.2.1 hk)]
      exact Or.inr ⟨_, rfl, f1, f2, f3, hfew, f4⟩
    · have hn2 : n < 2 ^ k := by omega
      have hmono := fb_ct_mono (pB B) (show n ≤ 2 ^ k by omega)
      rw [if_neg (sets_on hb1.2.1 hk hn2), f3]
      by_cases full : fb_ct (pB B) n = 924
      · rw [full, if_pos (show 924 ≤ nI 924 by decide)]
        have heq : fb_ct (pB B) n = fb_ct (pB B) (2 ^ k) := by omega
        refine Or.inr ⟨_, rfl, f1, f2, by rw [f3, heq], hfew, fun m hm hp => ?_⟩
        by_cases q : m < n
        · exact f4 m q hp
        · have h1 := fb_ct_mono (pB B) (show n ≤ m by omega)
          have h2 := fb_ct_mono (pB B) (show m + 1 ≤ 2 ^ k by omega)
          rw [fb_ct_succ, hp, if_pos rfl] at h2
          omega
      · have lt : fb_ct (pB B) n < 924 := by omega
        obtain ⟨p1, p2, _⟩ := pB_eq hb1 hRR1 hn2
        obtain ⟨br, _, e1, _, _⟩ := br_both (sp := 0) hb1 hRR1 hn2 (by omega)
        have e1' : f_X1_brokenRule (nI n) 0 A1 = some (nI br) := e1
        have pz : pB B n = true ↔ nI br = 0 := by
          unfold f_X1_isPaper at p1
          rw [cl_s e1'] at p1
          by_cases z : nI br = 0
          · rw [if_pos z] at p1
            exact ⟨fun _ => z, fun _ => (Option.some.inj p1).symm⟩
          · rw [if_neg z] at p1
            rw [← Option.some.inj p1]
            exact ⟨fun h => (by cases h), fun h => absurd h z⟩
        have ei : nI n + 1 = nI (n + 1) := nI_1 n
        rw [if_neg (show ¬ 924 ≤ nI (fb_ct (pB B) n) from nI_ge (b := 924) lt (by decide)), cl_s e1']
        cases hp : pB B n
        · rw [if_neg (show ¬ nI br = 0 from fun z => by have := pz.mpr z; rw [hp] at this; cases this), bv_i, ei]
          refine Or.inl ⟨_, rfl, hn2, rfl, f1, f2, ?_, fun m hm hpm => ?_⟩
          · rw [f3, fb_ct_succ, hp, if_neg (by decide), Nat.add_zero]
          · by_cases q : m = n
            · subst q; rw [hp] at hpm; cases hpm
            · exact f4 m (by omega) hpm
        · rw [if_pos (pz.mp hp)]
          simp (disch := omega) only [gI_ok, nIc, bv_i, ei, upI_o, f3]
          obtain ⟨_, hb7, _, hRA7⟩ := keep (upI A1 40 (fb_ct (pB B) n) (nI n)) (fun c j h1 h2 => by rw [upI_o (by omega)]; exact f1 c j h1 h2) f2
          obtain ⟨v1, v2, _⟩ := vB_eq hb7 hRA7 hn2
          rw [cl_s v1]
          simp (disch := omega) only [gI_ok, nIc, bv_i, ei, upI_o, f3, upD_1]
          refine Or.inl ⟨_, rfl, hn2, rfl, fun c j h1 h2 => ?_, fun c hc => ?_, ?_, fun m hm hpm => ?_⟩
          · rw [upI_o (by omega), upD_1, upI_o (by omega)]; exact f1 c j h1 h2
          · show (upD _ 41 _ _).2.1 c = _
            rw [upD_r hc]; exact f2 c hc
          · rw [upI_s, fb_ct_succ, hp, if_pos rfl]; exact nI_1 _
          · rw [upI_o (by omega), upD_1]
            by_cases q : m = n
            · subst q
              rw [upI_s]
              exact ⟨rfl, upD_s _ _ _ _⟩
            · have h1 := fb_ct_mono (pB B) (show m + 1 ≤ n by omega)
              rw [fb_ct_succ, hpm, if_pos rfl] at h1
              rw [upI_o (by omega)]
              refine ⟨(f4 m (by omega) hpm).1, ?_⟩
              show (upD _ 41 _ _).2.1 41 _ = _
              rw [upD_o (by omega)]
              exact (f4 m (by omega) hpm).2)
  rw [cl_s e]
  obtain ⟨k1, k2, k3, k4⟩ := keep A2 g1 g2
  exact ⟨A2, rfl, k1, k2, k3, k4, g3⟩
