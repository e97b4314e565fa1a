theorem pB_iff {A B : St} {k m : Nat} (hb : bankRel 3 1 k A B) (hm : m < 2 ^ k) : f_X6_isPaper (nI m) B = some (pB B m) ∧ (pB B m = true ↔ Pap A k m) := by
  obtain ⟨r, e, i⟩ := broken_eq6 (sp := 0) hb hm (by omega)
  have e' : f_X6_againstBut (nI m) 0 B = some (nI r) := e
  have hr : r ≤ 6 := by rcases i with ⟨z, _⟩ | ⟨_, z, _⟩ <;> omega
  have h2 : f_X6_isPaper (nI m) B = some (decide (r = 0)) := by
    unfold f_X6_isPaper
    rw [cl_s e']
    by_cases q : r = 0
    · rw [if_pos (by rw [q]; rfl), decide_eq_true q]
    · rw [if_neg (nI_ne0 (by omega) (by omega)), decide_eq_false q]
  have h3 : pB B m = decide (r = 0) := by unfold pB; rw [h2]; rfl
  rw [h3]
  exact ⟨h2, by rw [decide_eq_true_iff]; exact i.pap⟩
/-- the better one of the best so far and another -/
noncomputable def bst (B : St) (s : Int32 × UInt64) (m : Nat) : Int32 × UInt64 := if s.1 < 0 then (nI m, vB B m) else if Op.cmpValue (FP.dcmp (vB B m) s.2) .l ≤ 0 then s else (nI m, vB B m)
theorem bestOf_eq {A B : St} {k : Nat} (hb : bankRel 3 1 k A B) (hA : RA A B k) : f_X6_bestOf B = some (scan (pB B) (bst B) (-1, FP.dconst0) (2 ^ k)).1 := by
  have hk := hb.1
  unfold f_X6_bestOf
  rw [bv_i]
  have l := loop_sets (b := fun s : Int32 × UInt64 × Int32 => f_X6_bestOf_L7 B s.1 s.2.1 s.2.2) (p := pB B) (st := bst B) (s0 := ((-1 : Int32), FP.dconst0)) (2 ^ k) (fun s => FP.Core.DFin s.2) dv0.fin (fun s n => (s.1, s.2, nI n)) (fun s => s.1) (fun s m fs hm hp => by
    dsimp only
    unfold f_X6_bestOf_L7 bst
    obtain ⟨p1, _⟩ := pB_iff hb hm
    obtain ⟨_, v2, mv, _⟩ := vB_eq hb hA hm
    have fv := mv.fin (by decide)
    have ei : nI m + 1 = nI (m + 1) := nI_1 m
    rw [if_neg (sets_on hb.2.2.1 hk hm), cl_s p1, hp, if_neg (show ¬ bI true = 0 by decide), cl_s v2]
    simp only [bv_i, ei]
    by_cases z : s.1 < 0
    · rw [if_pos z, if_pos z]; exact ⟨rfl, fv⟩
    · rw [if_neg z, if_neg z]
      by_cases y : Op.cmpValue (FP.dcmp (vB B m) s.2) .l ≤ 0
      · rw [if_pos y, if_neg ((gt_both fv fs).mp y)]; exact ⟨rfl, fs⟩
      · rw [if_neg y, if_pos (Decidable.not_not.mp fun w => y ((gt_both fv fs).mpr w))]; exact ⟨rfl, fv⟩) (fun s m fs hm hp => by
    dsimp only
    unfold f_X6_bestOf_L7
    obtain ⟨p1, _⟩ := pB_iff hb hm
    have ei : nI m + 1 = nI (m + 1) := nI_1 m
    rw [if_neg (sets_on hb.2.2.1 hk hm), cl_s p1, hp, if_pos (show bI false = 0 by decide), bv_i, ei]) (fun s fs => by
    dsimp only
    unfold f_X6_bestOf_L7
    rw [if_pos (sets_end hb.2.2.1 hk)])
  have l' : loop (fun s : Int32 × UInt64 × Int32 => f_X6_bestOf_L7 B s.1 s.2.1 s.2.2) (-1, FP.dconst0, 0) = _ := l
  rw [cl_s l']
  rfl
/-- the best of the list: W, what is worn by now -/
theorem bestListed_eq {A B : St} {k W : Nat} (hk : k ≤ 12) (hL : Lst A B k) (hW : f_X0_wornItems A = some (nI W)) (hV : ∀ m, m < 2 ^ k → Md 1142 (vB B m)) : f_X1_bestListed A = some (scan (pB B) (fun s m => if nI m &&& nI W = 0 then bst B s m else s) (-1, FP.dconst0) (2 ^ k)).1 := by
  unfold f_X1_bestListed
  rw [cl_s hW, bv_i]
  obtain ⟨h1, h2, h3⟩ := hL
  have l := loop_list (b := fun s : Int32 × UInt64 × Int32 => f_X1_bestListed_L15 A (nI W) s.1 s.2.1 s.2.2) (p := pB B) (st := fun s m => if nI m &&& nI W = 0 then bst B s m else s) (s0 := ((-1 : Int32), FP.dconst0)) (2 ^ k) (fun s => FP.Core.DFin s.2) dv0.fin (fun s n => (s.1, s.2, nI n)) (fun s => s.1) (fun s m fs hm hp => by
    dsimp only
    obtain ⟨g1, g2⟩ := h3 m hm hp
    have hmono := fb_ct_mono (pB B) (show m + 1 ≤ 2 ^ k by omega)
    rw [fb_ct_succ, hp, if_pos rfl] at hmono
    have ei : nI (fb_ct (pB B) m) + 1 = nI (fb_ct (pB B) m + 1) := nI_1 _
    have fv := (hV m hm).fin (by decide)
    unfold f_X1_bestListed_L15 bst
    rw [h1, if_neg (show ¬ nI (fb_ct (pB B) (2 ^ k)) ≤ nI (fb_ct (pB B) m) from nI_ge (by omega) (by omega))]
    simp (disch := omega) only [gI_ok, nIc, bv_i, ei]
    rw [g1, g2]
    by_cases w : nI m &&& nI W = 0
    · rw [if_pos w, if_pos w]
      by_cases z : s.1 < 0
      · rw [if_pos z, if_pos z]; exact ⟨rfl, fv⟩
      · rw [if_neg z, if_neg z]
        by_cases y : Op.cmpValue (FP.dcmp (vB B m) s.2) .l ≤ 0
        · rw [if_pos y, if_pos y]; exact ⟨rfl, fs⟩
        · rw [if_neg y, if_neg y]; exact ⟨rfl, fv⟩
    · rw [if_neg w, if_neg w]; exact ⟨rfl, fs⟩) (fun s fs => by
    dsimp only
    unfold f_X1_bestListed_L15
    rw [h1, if_pos (Int32.le_refl _)])
  have l' : loop (fun s : Int32 × UInt64 × Int32 => f_X1_bestListed_L15 A (nI W) s.1 s.2.1 s.2.2) (-1, FP.dconst0, 0) = _ := l
  rw [cl_s l']
  rfl
theorem rl6 {A : St} {k m W : Nat} (hk : k ≤ 12) (hm : m < 2 ^ k) (hj : ∀ j, j < k → (W.testBit j = true ↔ ¬ A.1 11 j < A.1 17 2)) : nI m &&& nI W = 0 ↔ rl A k m 6 := by
  rw [and_zero_iff hk hm]
  show _ ↔ ∀ i, i < k → m.testBit i = true → A.1 11 i < A.1 17 2
  constructor
  · intro h i hi hb
    have := h i hi hb
    exact Decidable.not_not.mp (fun z => by rw [(hj i hi).mpr z] at this; cases this)
  · intro h i hi hb
    exact Bool.eq_false_iff.mpr fun z => (hj i hi).mp z (h i hi hb)
theorem scan_cong {σ : Type} {p p2 : Nat → Bool} {st st2 : σ → Nat → σ} {s0 : σ} {N : Nat} (h : ∀ m, m < N → ∀ s, (if p m then st s m else s) = (if p2 m then st2 s m else s)) : ∀ n, n ≤ N → scan p st s0 n = scan p2 st2 s0 n
  | 0, _ => rfl
  | n + 1, hn => by
    show (if p n then _ else _) = (if p2 n then _ else _)
    rw [scan_cong h n (by omega)]
    exact h n (by omega) _
theorem SM_best {A B : St} (h : Rel A B) : SM (f_X5_best A) (f_X6_best B) := by
  have h0 := h
  obtain ⟨⟨k, hb⟩, _⟩ := h0
  have hk := hb.1
  unfold f_X5_best f_X6_best
  obtain ⟨A2, e, hR2, hb2, hRR, hRA, hL⟩ := list_rel h hb
  obtain ⟨W, hW, w1, w2⟩ := worn_eq hb2.2.1 hk
  rw [cl_s e, cl_s (bestListed_eq hk hL w1 (fun m hm => (vB_eq hb2 hRA hm).2.2.1)), cl_s (bestOf_eq hb2 hRA)]
  have es := scan_cong (s0 := ((-1 : Int32), FP.dconst0)) (p := pB B) (p2 := pB B) (st := fun s m => if nI m &&& nI W = 0 then bst B s m else s) (st2 := bst B) (N := 2 ^ k) (fun m hm s => by
    cases hp : pB B m
    · rfl
    · rw [if_pos rfl, if_pos rfl, if_pos ((rl6 hk hm w2).mpr ((pB_iff hb2 hm).2.mp hp 6 (by omega) (by omega)))]) (2 ^ k) (Nat.le_refl _)
  rw [es]
  by_cases z : 0 ≤ (scan (pB B) (bst B) (-1, FP.dconst0) (2 ^ k)).1
  · rw [if_pos z, if_pos z]
    exact SM_ret rfl hR2
  · rw [if_neg z, if_neg z]
    exact SM_find hR2 3 (by decide)
theorem SM_rank {A B : St} (h : Rel A B) (x1 : Int32) : SM (f_X5_rank x1 A) (f_X6_rank x1 B) := by
  have h0 := h
  obtain ⟨⟨k, hb⟩, _⟩ := h0
  have hk := hb.1
  unfold f_X5_rank f_X6_rank
  refine SM_chk (hasAll_eq hb x1) (areItems_eq hb x1) (fun _ => SM_find h 0 (by decide)) fun q1 => ?_
  obtain ⟨m0, hm0, rfl⟩ := set_of hb.1 q1
  obtain ⟨A2, e, hR2, hb2, hRR, hRA, hL⟩ := list_rel h hb
  obtain ⟨v1, v2, _⟩ := vB_eq hb2 hRA hm0
  rw [cl_s e, cl_s v1, cl_s v2]
  unfold f_X1_countBetter
  obtain ⟨h1, h2, h3⟩ := hL
  have l := loop_list (b := fun s : Int32 × Int32 => f_X1_countBetter_L5 A2 (vB B m0) s.1 s.2) (p := pB B) (st := fun (s : Int32) m => if Op.cmpValue (FP.dcmp (vB B m) (vB B m0)) .l ≤ 0 then s else s + 1) (s0 := (0 : Int32)) (2 ^ k) (fun _ => True) trivial (fun s n => (s, nI n)) (fun s => s) (fun s m _ hm hp => by
    dsimp only
    obtain ⟨g1, g2⟩ := h3 m hm hp
    have hmono := fb_ct_mono (pB B) (show m + 1 ≤ 2 ^ k by omega)
    rw [fb_ct_succ, hp, if_pos rfl] at hmono
    have ei : nI (fb_ct (pB B) m) + 1 = nI (fb_ct (pB B) m + 1) := nI_1 _
    unfold f_X1_countBetter_L5
    rw [h1, if_neg (show ¬ nI (fb_ct (pB B) (2 ^ k)) ≤ nI (fb_ct (pB B) m) from nI_ge (by omega) (by omega))]
    simp (disch := omega) only [gI_ok, nIc, bv_i, ei]
    rw [g2]
    by_cases y : Op.cmpValue (FP.dcmp (vB B m) (vB B m0)) .l ≤ 0
    · rw [if_pos y, if_pos y]; exact ⟨rfl, trivial⟩
    · rw [if_neg y, if_neg y]; exact ⟨rfl, trivial⟩) (fun s _ => by
    dsimp only
    unfold f_X1_countBetter_L5
    rw [h1, if_pos (Int32.le_refl _)])
  have l2 := loop_sets (b := fun s : Int32 × Int32 => f_X6_rank_L26 B (vB B m0) s.1 s.2) (p := pB B) (st := fun (s : Int32) m => if Op.cmpValue (FP.dcmp (vB B m) (vB B m0)) .l ≤ 0 then s else s + 1) (s0 := (0 : Int32)) (2 ^ k) (fun _ => True) trivial (fun s n => (s, nI n)) (fun s => s) (fun s m _ hm hp => by
    dsimp only
    unfold f_X6_rank_L26
    obtain ⟨p1, _⟩ := pB_iff hb2 hm
    obtain ⟨_, w2, _⟩ := vB_eq hb2 hRA hm
    have ei : nI m + 1 = nI (m + 1) := nI_1 m
    rw [if_neg (sets_on hb2.2.2.1 hk hm), cl_s p1, hp, if_neg (show ¬ bI true = 0 by decide), cl_s w2]
    simp only [bv_i, ei]
    by_cases y : Op.cmpValue (FP.dcmp (vB B m) (vB B m0)) .l ≤ 0
    · rw [if_pos y, if_pos y, Int32.add_zero]; exact ⟨rfl, trivial⟩
    · rw [if_neg y, if_neg y]; exact ⟨rfl, trivial⟩) (fun s m _ hm hp => by
    dsimp only
    unfold f_X6_rank_L26
    obtain ⟨p1, _⟩ := pB_iff hb2 hm
    have ei : nI m + 1 = nI (m + 1) := nI_1 m
    rw [if_neg (sets_on hb2.2.2.1 hk hm), cl_s p1, hp, if_pos (show bI false = 0 by decide)]
    simp only [bv_i, ei, Int32.add_zero]) (fun s _ => by
    dsimp only
    unfold f_X6_rank_L26
    rw [if_pos (sets_end hb2.2.2.1 hk)])
  have l' : loop (fun s : Int32 × Int32 => f_X1_countBetter_L5 A2 (vB B m0) s.1 s.2) (0, 0) = _ := l
  have l2' : loop (fun s : Int32 × Int32 => f_X6_rank_L26 B (vB B m0) s.1 s.2) (0, 0) = _ := l2
  rw [cl_s l', cl_s l2']
  exact SM_ret rfl hR2
