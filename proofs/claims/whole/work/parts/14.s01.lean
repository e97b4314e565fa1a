/-! Loops, run out. -/
theorem lp_run {σ ρ : Type} {b : σ → Option (σ ⊕ ρ)} : ∀ (n : Nat) (f : Nat → σ) {r : ρ}, (∀ i, i < n → b (f i) = some (.inl (f (i + 1)))) → b (f n) = some (.inr r) → lp b (n + 1) (f 0) = some r
  | 0, f, r, _, he => by unfold lp; rw [he]
  | n + 1, f, r, h, he => by
    unfold lp
    rw [h 0 (by omega)]
    exact lp_run n (fun i => f (i + 1)) (fun i hi => h (i + 1) (by omega)) he
theorem loop_run {σ ρ : Type} {b : σ → Option (σ ⊕ ρ)} {s : σ} {r : ρ} (n : Nat) (f : Nat → σ) (h0 : f 0 = s) (h : ∀ i, i < n → b (f i) = some (.inl (f (i + 1)))) (he : b (f n) = some (.inr r)) : loop b s = some r := by
  subst h0
  exact loop_of (lp_run n f h he)
theorem loop1_aux {σ ρ : Type} {b : σ → Option (σ ⊕ ρ)} (I : Nat → σ → Prop) (Q : ρ → Prop) (N : Nat)
    (step : ∀ i s, i ≤ N → I i s → (∃ s', b s = some (.inl s') ∧ i < N ∧ I (i + 1) s') ∨ (∃ r, b s = some (.inr r) ∧ Q r)) :
    ∀ (m i : Nat) (s : σ), i + m = N → I i s → ∃ r, lp b (m + 1) s = some r ∧ Q r
  | 0, i, s, e, h => by
    rcases step i s (by omega) h with ⟨s', _, hl, _⟩ | ⟨r, e1, q⟩
    · omega
    · exact ⟨r, by unfold lp; rw [e1], q⟩
  | m + 1, i, s, e, h => by
    rcases step i s (by omega) h with ⟨s', e1, hl, h2⟩ | ⟨r, e1, q⟩
    · obtain ⟨r, e2, q⟩ := loop1_aux I Q N step m (i + 1) s' (by omega) h2
      exact ⟨r, by unfold lp; rw [e1]; exact e2, q⟩
    · exact ⟨r, by unfold lp; rw [e1], q⟩
theorem loop1 {σ ρ : Type} {b : σ → Option (σ ⊕ ρ)} {s : σ} (I : Nat → σ → Prop) (Q : ρ → Prop) (N : Nat) (h : I 0 s)
    (step : ∀ i s, i ≤ N → I i s → (∃ s', b s = some (.inl s') ∧ i < N ∧ I (i + 1) s') ∨ (∃ r, b s = some (.inr r) ∧ Q r)) :
    ∃ r, loop b s = some r ∧ Q r := by
  obtain ⟨r, e, q⟩ := loop1_aux I Q N step N 0 s (by omega) h
  exact ⟨r, loop_of e, q⟩
theorem loop2_aux {σ τ ρ π : Type} {b : σ → Option (σ ⊕ ρ)} {c : τ → Option (τ ⊕ π)} (I : Nat → σ → τ → Prop) (Q : ρ → π → Prop) (N : Nat)
    (step : ∀ i s t, i ≤ N → I i s t → (∃ s' t', b s = some (.inl s') ∧ c t = some (.inl t') ∧ i < N ∧ I (i + 1) s' t') ∨ (∃ r p, b s = some (.inr r) ∧ c t = some (.inr p) ∧ Q r p)) :
    ∀ (m i : Nat) (s : σ) (t : τ), i + m = N → I i s t → ∃ r p, lp b (m + 1) s = some r ∧ lp c (m + 1) t = some p ∧ Q r p
  | 0, i, s, t, e, h => by
    rcases step i s t (by omega) h with ⟨s', t', _, _, hl, _⟩ | ⟨r, p, e1, e2, q⟩
    · omega
    · exact ⟨r, p, by unfold lp; rw [e1], by unfold lp; rw [e2], q⟩
  | m + 1, i, s, t, e, h => by
    rcases step i s t (by omega) h with ⟨s', t', e1, e2, hl, h2⟩ | ⟨r, p, e1, e2, q⟩
    · obtain ⟨r, p, e3, e4, q⟩ := loop2_aux I Q N step m (i + 1) s' t' (by omega) h2
      exact ⟨r, p, by unfold lp; rw [e1]; exact e3, by unfold lp; rw [e2]; exact e4, q⟩
    · exact ⟨r, p, by unfold lp; rw [e1], by unfold lp; rw [e2], q⟩
theorem loop2 {σ τ ρ π : Type} {b : σ → Option (σ ⊕ ρ)} {c : τ → Option (τ ⊕ π)} {s : σ} {t : τ} (I : Nat → σ → τ → Prop) (Q : ρ → π → Prop) (N : Nat) (h : I 0 s t)
    (step : ∀ i s t, i ≤ N → I i s t → (∃ s' t', b s = some (.inl s') ∧ c t = some (.inl t') ∧ i < N ∧ I (i + 1) s' t') ∨ (∃ r p, b s = some (.inr r) ∧ c t = some (.inr p) ∧ Q r p)) :
    ∃ r p, loop b s = some r ∧ loop c t = some p ∧ Q r p := by
  obtain ⟨r, p, e, e2, q⟩ := loop2_aux I Q N step N 0 s t (by omega) h
  exact ⟨r, p, loop_of e, loop_of e2, q⟩
/-! Small steps. -/
theorem nI_sub {a b : Nat} (h : b ≤ a) : nI a - nI b = nI (a - b) := pk_sub h
theorem nIc {n : Nat} (h : n < 2147483648) : (nI n).toNatClampNeg = n := nI_clamp h
theorem nIt {n : Nat} (h : n < 2147483648) : (nI n).toInt = (n : Int) := nI_toInt h
theorem gI_ok {α : Type} {n N : Nat} {k : Option α} (h : n < N) (hN : N < 2147483648) : gI (nI n) N k = k := by
  unfold gI
  exact if_neg (nI_in h hN)
theorem g64_ok {α : Type} {r : UInt64} {k : UInt64 → Option α} (h : r &&& 0x7fffffffffffffff ≤ 0x7ff0000000000000) : g64 r k = k r := by
  unfold g64
  rw [if_pos h]
theorem g32_ok {α : Type} {r : UInt32} {k : UInt32 → Option α} (h : r &&& 0x7fffffff ≤ 0x7f800000) : g32 r k = k r := by
  unfold g32
  rw [if_pos h]
theorem cl_s {α β : Type} {o : Option α} {x : α} {k : α → Option β} (h : o = some x) : cl o k = k x := by subst h; rfl
theorem cl2_s {α β γ : Type} {o : Option (α × γ)} {x : α} {y : γ} {k : α → γ → Option β} (h : o = some (x, y)) : cl2 o k = k x y := by subst h; rfl
theorem cl_i {α β : Type} (x : α) (k : α → Option β) : cl (some x) k = k x := rfl
theorem cl2_i {α β γ : Type} (x : α) (y : γ) (k : α → γ → Option β) : cl2 (some (x, y)) k = k x y := rfl
theorem bv_i {α β : Type} (x : α) (k : α → Option β) : bv x k = k x := rfl
theorem bI_0 (b : Bool) : (bI b = 0) ↔ b = false := by cases b <;> decide
theorem nat_of {x : Int32} {M : Nat} (h0 : 0 ≤ x.toInt) (h1 : x.toInt ≤ M) : ∃ n : Nat, n ≤ M ∧ x = nI n := by
  obtain ⟨r1, r2⟩ := fb_rng x
  refine ⟨x.toInt.toNat, by omega, Int32.toInt_inj.mp ?_⟩
  rw [nIt (by omega)]
  omega
/-! Cells written. -/
theorem upI_s (A : St) (k j : Nat) (v : Int32) : (upI A k j v).1 k j = v := by simp [upI, va_up, upd]
theorem upI_o {A : St} {k j c i : Nat} {v : Int32} (h : c ≠ k ∨ i ≠ j) : (upI A k j v).1 c i = A.1 c i := by
  unfold upI va_up upd
  by_cases h1 : c = k
  · subst h1
    rcases h with h | h
    · exact absurd rfl h
    · simp [h]
  · simp [h1]
theorem upI_r {A : St} {k j c : Nat} {v : Int32} (h : c ≠ k) : (upI A k j v).1 c = A.1 c := by simp [upI, va_up, h]
theorem upI_if (A : St) (k j c i : Nat) (v : Int32) : (upI A k j v).1 c i = if c = k ∧ i = j then v else A.1 c i := by
  by_cases h : c = k ∧ i = j
  · obtain ⟨rfl, rfl⟩ := h
    rw [upI_s, if_pos ⟨rfl, rfl⟩]
  · rw [upI_o (by omega), if_neg h]
theorem upI_2 (A : St) (k j : Nat) (v : Int32) : (upI A k j v).2 = A.2 := rfl
theorem upD_1 (A : St) (k j : Nat) (v : UInt64) : (upD A k j v).1 = A.1 := rfl
theorem upD_2 (A : St) (k j : Nat) (v : UInt64) : (upD A k j v).2.2 = A.2.2 := rfl
theorem upD_s (A : St) (k j : Nat) (v : UInt64) : (upD A k j v).2.1 k j = v := by simp [upD, va_up, vf_upd]
theorem upD_o {A : St} {k j c i : Nat} {v : UInt64} (h : c ≠ k ∨ i ≠ j) : (upD A k j v).2.1 c i = A.2.1 c i := by
  unfold upD va_up vf_upd
  by_cases h1 : c = k
  · subst h1
    rcases h with h | h
    · exact absurd rfl h
    · simp [h]
  · simp [h1]
theorem upD_r {A : St} {k j c : Nat} {v : UInt64} (h : c ≠ k) : (upD A k j v).2.1 c = A.2.1 c := by simp [upD, va_up, h]
theorem upF_1 (A : St) (k j : Nat) (v : UInt32) : (upF A k j v).1 = A.1 := rfl
theorem upF_2 (A : St) (k j : Nat) (v : UInt32) : (upF A k j v).2.1 = A.2.1 := rfl
theorem upF_s (A : St) (k j : Nat) (v : UInt32) : (upF A k j v).2.2 k j = v := by simp [upF, va_up, vf_upd]
theorem upF_o {A : St} {k j c i : Nat} {v : UInt32} (h : c ≠ k ∨ i ≠ j) : (upF A k j v).2.2 c i = A.2.2 c i := by
  unfold upF va_up vf_upd
  by_cases h1 : c = k
  · subst h1
    rcases h with h | h
    · exact absurd rfl h
    · simp [h]
  · simp [h1]
theorem upF_r {A : St} {k j c : Nat} {v : UInt32} (h : c ≠ k) : (upF A k j v).2.2 c = A.2.2 c := by simp [upF, va_up, h]
/-! Frames of the relation. -/
theorem bankRel.to {a b k : Nat} {A B A2 B2 : St} (h : bankRel a b k A B) (hA : ∀ c, a ≤ c → c ≤ a + 14 → A2.1 c = A.1 c) (hB : B2.1 b = B.1 b) : bankRel a b k A2 B2 := by
  unfold bankRel at h ⊢
  have e : ∀ w, w ≤ 14 → A2.1 (a + w) = A.1 (a + w) := fun w hw => hA (a + w) (by omega) (by omega)
  have e0 : A2.1 a = A.1 a := hA a (by omega) (by omega)
  rw [hB, e0, e 10 (by omega), e 11 (by omega), e 12 (by omega), e 13 (by omega), e 14 (by omega)]
  obtain ⟨h1, h2, h3, h4, h5, h6⟩ := h
  refine ⟨h1, h2, h3, fun i hi w hw => ?_, fun i hi => ?_, h6⟩
  · rw [Nat.add_assoc, e (2 + w) (by omega), ← Nat.add_assoc]
    exact h4 i hi w hw
  · have q : (fun w => A2.1 (a + 2 + w) i) = (fun w => if w < 13 then A.1 (a + 2 + w) i else A2.1 (a + 2 + w) i) := by
      funext w
      by_cases hw : w < 13
      · rw [if_pos hw, Nat.add_assoc, e (2 + w) (by omega)]
      · rw [if_neg hw]
    have := h5 i hi
    unfold okF at this ⊢
    simp only [Nat.add_assoc] at this ⊢
    rw [e (2 + 0) (by omega), e (2 + 1) (by omega), e (2 + 2) (by omega), e (2 + 3) (by omega), e (2 + 4) (by omega), e (2 + 5) (by omega), e (2 + 7) (by omega)]
    exact this
theorem shelfRel.to {s : Nat} {A B A2 B2 : St} (h : shelfRel s A B) (h1 : A2.1 (43 + s) = A.1 (43 + s)) (h2 : A2.1 (47 + s) = A.1 (47 + s)) (h3 : A2.1 (51 + s) = A.1 (51 + s)) (g1 : B2.1 6 = B.1 6) (g2 : B2.1 (8 + s) = B.1 (8 + s)) (g3 : B2.1 (13 + s) = B.1 (13 + s)) : shelfRel s A2 B2 := by
  unfold shelfRel at h ⊢
  rw [h1, h2, h3, g1, g2, g3]
  exact h
theorem sheetRel.to {s : Nat} {A B A2 B2 : St} (h : sheetRel s A B) (h1 : A2.1 (56 + s) = A.1 (56 + s)) (h2 : A2.2.1 (60 + s) = A.2.1 (60 + s)) (g1 : B2.1 17 = B.1 17) (g2 : B2.1 18 = B.1 18) (g3 : B2.1 (20 + s) = B.1 (20 + s)) (g4 : B2.2.2 (25 + s) = B.2.2 (25 + s)) (g5 : B2.2.1 (30 + s) = B.2.1 (30 + s)) : sheetRel s A2 B2 := by
  unfold sheetRel at h ⊢
  rw [h1, h2, g1, g2, g3, g4, g5]
  exact h
/-- nothing of what is tied has changed -/
def eqC (A A2 : St) : Prop := (∀ c, (c = 1 ∨ (3 ≤ c ∧ c ≤ 32) ∨ (43 ≤ c ∧ c ≤ 59)) → A2.1 c = A.1 c) ∧ A2.1 0 4 = A.1 0 4 ∧ ∀ c, 60 ≤ c → c ≤ 63 → A2.2.1 c = A.2.1 c
def eqR (B B2 : St) : Prop := (∀ c, (1 ≤ c ∧ c ≤ 3) ∨ (6 ≤ c ∧ c ≤ 33) → B2.1 c = B.1 c) ∧ B2.1 0 2 = B.1 0 2 ∧ (∀ c, 30 ≤ c → c ≤ 33 → B2.2.1 c = B.2.1 c) ∧ B2.2.2 = B.2.2
theorem eqC.rfl' (A : St) : eqC A A := ⟨fun _ _ => rfl, rfl, fun _ _ _ => rfl⟩
theorem eqR.rfl' (A : St) : eqR A A := ⟨fun _ _ => rfl, rfl, fun _ _ _ => rfl, rfl⟩
theorem eqC.tr {A B C : St} (h : eqC A B) (g : eqC B C) : eqC A C := ⟨fun c hc => (g.1 c hc).trans (h.1 c hc), g.2.1.trans h.2.1, fun c h1 h2 => (g.2.2 c h1 h2).trans (h.2.2 c h1 h2)⟩
theorem eqR.tr {A B C : St} (h : eqR A B) (g : eqR B C) : eqR A C := ⟨fun c hc => (g.1 c hc).trans (h.1 c hc), g.2.1.trans h.2.1, fun c h1 h2 => (g.2.2.1 c h1 h2).trans (h.2.2.1 c h1 h2), g.2.2.2.trans h.2.2.2⟩
theorem Rel.to {A B A2 B2 : St} (h : Rel A B) (hA : eqC A A2) (hB : eqR B B2) : Rel A2 B2 := by
  obtain ⟨⟨k, hb⟩, ⟨hk, hk2⟩, hf, hs, ht⟩ := h
  refine ⟨⟨k, hb.to (fun c h1 h2 => hA.1 c (by omega)) (hB.1 1 (by omega))⟩, ⟨?_, ?_⟩, fun j hj => ?_, fun s hs' => ?_, fun s hs' => ?_⟩
  · rw [hA.2.1, hB.2.1]; exact hk
  · rw [hB.2.1]
    rcases hk2 with q | ⟨q, k2, hb2⟩
    · exact Or.inl q
    · exact Or.inr ⟨q, k2, hb2.to (fun c h1 h2 => hA.1 c (by omega)) (hB.1 2 (by omega))⟩
  · rw [hA.1 1 (by omega), hB.1 3 (by omega)]; exact hf j hj
  · exact (hs s hs').to (hA.1 _ (by omega)) (hA.1 _ (by omega)) (hA.1 _ (by omega)) (hB.1 _ (by omega)) (hB.1 _ (by omega)) (hB.1 _ (by omega))
  · exact (ht s hs').to (hA.1 _ (by omega)) (hA.2.2 _ (by omega) (by omega)) (hB.1 _ (by omega)) (hB.1 _ (by omega)) (hB.1 _ (by omega)) (by rw [hB.2.2.2]) (hB.2.2.1 _ (by omega) (by omega))
/-- the bank alone has changed -/
theorem Rel.bank {A B A2 B2 : St} (h : Rel A B) (hA : ∀ c, (c ≤ 1 ∨ (18 ≤ c ∧ c ≤ 32) ∨ (43 ≤ c ∧ c ≤ 59)) → A2.1 c = A.1 c) (hA2 : A2.2 = A.2) (hB : ∀ c, c ≠ 1 → B2.1 c = B.1 c) (hB2 : B2.2 = B.2) {k : Nat} (hb : bankRel 3 1 k A2 B2) : Rel A2 B2 := by
  obtain ⟨_, ⟨hk, hk2⟩, hf, hs, ht⟩ := h
  refine ⟨⟨k, hb⟩, ⟨?_, ?_⟩, fun j hj => ?_, fun s hs' => ?_, fun s hs' => ?_⟩
  · rw [hA 0 (by omega), hB 0 (by omega)]; exact hk
  · rw [hB 0 (by omega)]
    rcases hk2 with q | ⟨q, k2, hb2⟩
    · exact Or.inl q
    · exact Or.inr ⟨q, k2, hb2.to (fun c h1 h2 => hA c (by omega)) (hB 2 (by omega))⟩
  · rw [hA 1 (by omega), hB 3 (by omega)]; exact hf j hj
  · exact (hs s hs').to (hA _ (by omega)) (hA _ (by omega)) (hA _ (by omega)) (hB _ (by omega)) (hB _ (by omega)) (hB _ (by omega))
  · exact (ht s hs').to (hA _ (by omega)) (by rw [hA2]) (hB _ (by omega)) (hB _ (by omega)) (hB _ (by omega)) (by rw [hB2]) (by rw [hB2])
/-- the shelves alone -/
theorem Rel.shelf {A B A2 B2 : St} (h : Rel A B) (hA : ∀ c, (c ≤ 32 ∨ 55 ≤ c) → A2.1 c = A.1 c) (hA2 : A2.2 = A.2) (hB : ∀ c, (c ≤ 5 ∨ 17 ≤ c) → B2.1 c = B.1 c) (hB2 : B2.2 = B.2) (hs : ∀ s, s < 4 → shelfRel s A2 B2) : Rel A2 B2 := by
  obtain ⟨⟨k, hb⟩, ⟨hk, hk2⟩, hf, _, ht⟩ := h
  refine ⟨⟨k, hb.to (fun c h1 h2 => hA c (by omega)) (hB 1 (by omega))⟩, ⟨?_, ?_⟩, fun j hj => ?_, hs, fun s hs' => ?_⟩
  · rw [hA 0 (by omega), hB 0 (by omega)]; exact hk
  · rw [hB 0 (by omega)]
    rcases hk2 with q | ⟨q, k2, hb2⟩
    · exact Or.inl q
    · exact Or.inr ⟨q, k2, hb2.to (fun c h1 h2 => hA c (by omega)) (hB 2 (by omega))⟩
  · rw [hA 1 (by omega), hB 3 (by omega)]; exact hf j hj
  · exact (ht s hs').to (hA _ (by omega)) (by rw [hA2]) (hB _ (by omega)) (hB _ (by omega)) (hB _ (by omega)) (by rw [hB2]) (by rw [hB2])
/-- the sheets alone -/
theorem Rel.sheet {A B A2 B2 : St} (h : Rel A B) (hA : ∀ c, c ≤ 54 → A2.1 c = A.1 c) (hB : ∀ c, c ≤ 16 → B2.1 c = B.1 c) (ht : ∀ s, s < 4 → sheetRel s A2 B2) : Rel A2 B2 := by
  obtain ⟨⟨k, hb⟩, ⟨hk, hk2⟩, hf, hs, _⟩ := h
  refine ⟨⟨k, hb.to (fun c h1 h2 => hA c (by omega)) (hB 1 (by omega))⟩, ⟨?_, ?_⟩, fun j hj => ?_, fun s hs' => ?_, ht⟩
  · rw [hA 0 (by omega), hB 0 (by omega)]; exact hk
  · rw [hB 0 (by omega)]
    rcases hk2 with q | ⟨q, k2, hb2⟩
    · exact Or.inl q
    · exact Or.inr ⟨q, k2, hb2.to (fun c h1 h2 => hA c (by omega)) (hB 2 (by omega))⟩
  · rw [hA 1 (by omega), hB 3 (by omega)]; exact hf j hj
  · exact (hs s hs').to (hA _ (by omega)) (hA _ (by omega)) (hA _ (by omega)) (hB _ (by omega)) (hB _ (by omega)) (hB _ (by omega))
/-- a finding counted -/
theorem Rel.find {A B : St} (h : Rel A B) (j : Nat) (v w : Int32) (e : v = w) : Rel (upI A 1 j v) (upI B 3 j w) := by
  subst e
  obtain ⟨⟨k, hb⟩, ⟨hk, hk2⟩, hf, hs, ht⟩ := h
  refine ⟨⟨k, hb.to (fun c h1 h2 => upI_r (by omega)) (upI_r (by omega))⟩, ⟨?_, ?_⟩, fun i hi => ?_, fun s hs' => ?_, fun s hs' => ?_⟩
  · rw [upI_r (by omega), upI_r (by omega)]; exact hk
  · rw [upI_r (by omega)]
    rcases hk2 with q | ⟨q, k2, hb2⟩
    · exact Or.inl q
    · exact Or.inr ⟨q, k2, hb2.to (fun c h1 h2 => upI_r (by omega)) (upI_r (by omega))⟩
  · rw [upI_if, upI_if]
    by_cases q : i = j
    · rw [if_pos ⟨rfl, q⟩, if_pos ⟨rfl, q⟩]
    · rw [if_neg (by omega), if_neg (by omega)]; exact hf i hi
  · exact (hs s hs').to (upI_r (by omega)) (upI_r (by omega)) (upI_r (by omega)) (upI_r (by omega)) (upI_r (by omega)) (upI_r (by omega))
  · exact (ht s hs').to (upI_r (by omega)) rfl (upI_r (by omega)) (upI_r (by omega)) (upI_r (by omega)) rfl rfl
/-! Two calls that answer alike. -/
def SM {α : Type} (P Q : Option (α × St)) : Prop := ∃ (r : α) (A2 B2 : St), P = some (r, A2) ∧ Q = some (r, B2) ∧ Rel A2 B2
theorem SM_ret {α : Type} {r r2 : α} {A B : St} (e : r = r2) (h : Rel A B) : SM (some (r, A)) (some (r2, B)) := by
  subst e
  exact ⟨r, A, B, rfl, rfl, h⟩
theorem SM_find {A B : St} (h : Rel A B) (c : Nat) (hc : c < 8) : SM (cl2 (f_X5_finding (nI c) A) fun r A2 => some (r, A2)) (cl2 (f_X6_finds (nI c) B) fun r A2 => some (r, A2)) := by
  unfold f_X5_finding f_X6_finds
  rw [gI_ok hc (by decide), gI_ok hc (by decide), gI_ok hc (by decide), gI_ok hc (by decide), nIc (by omega)]
  exact SM_ret rfl (h.find c _ _ (by rw [h.2.2.1 c hc]))
theorem SM_findL {A B : St} (h : Rel A B) (c : Nat) (hc : c < 8) : SM (cl2 (f_X5_longFinding (nI c) A) fun r A2 => some (r, A2)) (cl2 (f_X6_findsLong (nI c) B) fun r A2 => some (r, A2)) := by
  unfold f_X5_longFinding f_X6_findsLong
  rw [gI_ok hc (by decide), gI_ok hc (by decide), gI_ok hc (by decide), gI_ok hc (by decide), nIc (by omega)]
  exact SM_ret rfl (h.find c _ _ (by rw [h.2.2.1 c hc]))
theorem SM_chk {α : Type} {p : Prop} [Decidable p] {P Q : Option Bool} {a b c d : Bool → Option (α × St)} (hP : P = some (decide p)) (hQ : Q = some (decide p)) (h0 : ¬ p → SM (a false) (c false)) (h1 : p → SM (b true) (d true)) : SM (cl P fun r => if bI r = 0 then a r else b r) (cl Q fun r => if bI r = 0 then c r else d r) := by
  subst hP hQ
  by_cases hp : p
  · have e : decide p = true := decide_eq_true hp
    rw [cl_i, cl_i, e]
    exact h1 hp
  · have e : decide p = false := decide_eq_false hp
    rw [cl_i, cl_i, e]
    exact h0 hp
theorem within_eq (x a b : Int32) : f_X5_within x a b = some (decide (a.toInt ≤ x.toInt ∧ x.toInt ≤ b.toInt)) := by
  unfold f_X5_within
  by_cases h1 : x.toInt < a.toInt
  · rw [if_pos ((fa_lt _ _).mpr h1), decide_eq_false (by omega)]
  · rw [if_neg (fun q => h1 ((fa_lt _ _).mp q))]
    by_cases h2 : b.toInt < x.toInt
    · rw [if_pos ((fa_lt _ _).mpr h2), decide_eq_false (by omega)]
    · rw [if_neg (fun q => h2 ((fa_lt _ _).mp q)), decide_eq_true (by omega)]
theorem in_eqL (x a b : Int64) : f_X6_in x a b = some (decide (a.toInt ≤ x.toInt ∧ x.toInt ≤ b.toInt)) := by
  unfold f_X6_in
  by_cases h1 : x.toInt < a.toInt
  · rw [if_pos ((lg_cmp_lt _ _).mpr ((fa_lt64 _ _).mpr h1)), decide_eq_false (by omega)]
  · rw [if_neg (fun q => h1 ((fa_lt64 _ _).mp ((lg_cmp_lt _ _).mp q)))]
    by_cases h2 : b.toInt < x.toInt
    · rw [if_pos ((lg_cmp_gt _ _).mpr ((fa_lt64 _ _).mpr h2)), decide_eq_false (by omega)]
    · rw [if_neg (fun q => h2 ((fa_lt64 _ _).mp ((lg_cmp_gt _ _).mp q))), decide_eq_true (by omega)]
theorem in_eq (x a b : Int32) {a2 b2 : Int64} (ha : a2 = a.toInt64 := by rfl) (hb : b2 = b.toInt64 := by rfl) : f_X6_in x.toInt64 a2 b2 = some (decide (a.toInt ≤ x.toInt ∧ x.toInt ≤ b.toInt)) := by
  subst ha hb
  rw [in_eqL, Int32.toInt_toInt64, Int32.toInt_toInt64, Int32.toInt_toInt64]
theorem in_eq1 (x a b : Int32) {a2 b2 : Int64} (ha : a2 = a.toInt64 := by rfl) (hb : b2 = b.toInt64 := by rfl) : (cl (f_X6_in x.toInt64 a2 b2) fun r => some r) = some (decide (a.toInt ≤ x.toInt ∧ x.toInt ≤ b.toInt)) := by
  rw [in_eq x a b ha hb]; rfl
