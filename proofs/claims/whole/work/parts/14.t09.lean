theorem loop_step {σ ρ : Type} {b : σ → Option (σ ⊕ ρ)} {s s2 : σ} {r : ρ} (h : b s = some (.inl s2)) (h2 : loop b s2 = some r) : loop b s = some r := by
  obtain ⟨n, hn⟩ := loop_some h2
  exact loop_of (n := n + 1) (by unfold lp; rw [h]; exact hn)
/-- what all of a set tell at an ability -/
theorem all_both {A B : St} {k m : Nat} (hb : bankRel 3 1 k A B) (hm : m < 2 ^ k) {v : Int32} (hv : (-64 : Int) ≤ v.toInt ∧ v.toInt ≤ 64) : ∃ d, f_X0_allTellAt (nI m) v A = some d ∧ (∀ y1 y2 y3, loop (fun s : UInt64 × Int32 => f_X6_peak_L56 B (nI m) y1 y2 y3 v s.1 s.2) (FP.dconst0, 0) = some d) ∧ Md 1100 d ∧ Nn d := by
  have hk := hb.1
  have hp := pow_le hk
  have key : ∀ y1 y2 y3, ∃ d, f_X0_allTellAt (nI m) v A = some d ∧ loop (fun s : UInt64 × Int32 => f_X6_peak_L56 B (nI m) y1 y2 y3 v s.1 s.2) (FP.dconst0, 0) = some d ∧ Md 1100 d ∧ Nn d := fun y1 y2 y3 => by
    unfold f_X0_allTellAt
    rw [bv_i]
    obtain ⟨r, p, e1, e2, e3, e4, e5⟩ := loop2 (b := fun s : UInt64 × Int32 => f_X0_allTellAt_L5 A (nI m) v s.1 s.2) (c := fun s : UInt64 × Int32 => f_X6_peak_L56 B (nI m) y1 y2 y3 v s.1 s.2) (s := (FP.dconst0, 0)) (t := (FP.dconst0, 0)) (fun i s t => s = t ∧ s.2 = nI i ∧ Md (1046 + 2 * i) s.1 ∧ Nn s.1) (fun r p => r = p ∧ Md 1100 r ∧ Nn r) k ⟨rfl, rfl, md_zero.le (by decide), by unfold Nn; decide⟩ (by
      rintro i ⟨w, x⟩ t hi ⟨rfl, rfl, mv, nv⟩
      dsimp only at mv nv ⊢
      unfold f_X0_allTellAt_L5 f_X6_peak_L56
      by_cases hik : i = k
      · subst hik
        rw [if_pos (nI_end hb.2.1), if_pos (nI_end hb.2.2.1)]
        exact Or.inr ⟨_, _, rfl, rfl, rfl, mv.le (by omega), nv⟩
      · have hik2 : i < k := by omega
        have ei : nI i + 1 = nI (i + 1) := nI_1 i
        obtain ⟨d, t1, t2, my, ny⟩ := tells_both hb hik2 hv
        rw [if_neg (nI_ends hb.2.1 hk hik2), if_neg (nI_ends hb.2.2.1 hk hik2), bit_eq (by omega) (by omega), cl_s (has6_eq (by omega) (by omega))]
        simp (disch := omega) only [bv_i, ei]
        cases m.testBit i
        · rw [if_pos (show nI (if false = true then 1 else 0) = 0 by decide), if_pos (show bI false = 0 by decide)]
          exact Or.inl ⟨_, _, rfl, rfl, hik2, rfl, rfl, mv.le (by omega), nv⟩
        · rw [if_neg (show ¬ nI (if true = true then 1 else 0) = 0 by decide), if_neg (show ¬ bI true = 0 by decide), cl_s t1, cl_s t2]
          have ms : Md (1046 + 2 * (i + 1)) (FP.dadd w d) := mv.add (my.le (by omega)) (by omega) (by omega)
          have ns := nn_add2 (mv.fin (by omega)) (my.fin (by decide)) nv ny
          simp only [g64_fin (ms.fin (by omega))]
          exact Or.inl ⟨_, _, rfl, rfl, hik2, rfl, rfl, ms, ns⟩)
    subst e3
    rw [cl_s e1]
    exact ⟨r, rfl, e2, e4, e5⟩
  obtain ⟨d, h1, h2, h3, h4⟩ := key 0 0 0
  refine ⟨d, h1, fun y1 y2 y3 => ?_, h3, h4⟩
  obtain ⟨d2, g1, g2, _⟩ := key y1 y2 y3
  rw [h1] at g1
  cases g1
  exact g2
theorem dvm1 : Dv 13830554455654793216 true (2 ^ 1074) := ⟨2 ^ 52, -52, by decide +kernel, by decide +kernel⟩
theorem SM_peak {A B : St} (h : Rel A B) (x1 x2 x3 : Int32) : SM (f_X5_peak x1 x2 x3 A) (f_X6_peak x1 x2 x3 B) := by
  have h0 := h
  obtain ⟨⟨k, hb⟩, _⟩ := h0
  unfold f_X5_peak f_X6_peak
  refine SM_chk (hasAll_eq hb x1) (areItems_eq hb x1) (fun _ => SM_find h 0 (by decide)) fun q1 => ?_
  refine SM_chk (abil_eq x2) (abil_eq6 x2) (fun _ => SM_find h 0 (by decide)) fun q2 => ?_
  refine SM_chk (abil_eq x3) (abil_eq6 x3) (fun _ => SM_find h 0 (by decide)) fun q3 => ?_
  obtain ⟨m, hm, rfl⟩ := set_of hb.1 q1
  by_cases hle : x2 ≤ x3
  · rw [if_pos hle, if_pos hle]
    have hle2 := (fa_le _ _).mp hle
    obtain ⟨d0, a1, a2, md0, nd0⟩ := all_both hb hm q2
    rw [cl_s a1, bv_i]
    have one : (1 : Int32).toInt = 1 := rfl
    have inc : ∀ v : Int32, (-64 : Int) ≤ v.toInt ∧ v.toInt ≤ 64 → (v + 1).toInt = v.toInt + 1 := fun v hv => by
      rw [fb_addI (by rw [one]; omega) (by rw [one]; omega), one]
    have first : f_X6_peak_L44 B (nI m) x3 x2 13830554455654793216 x2 = some (.inl (x2, d0, x2 + 1)) := by
      unfold f_X6_peak_L44
      rw [if_neg (fun z => by have := (fa_lt _ _).mp z; omega), bv_i, cl_s (a2 x3 x2 13830554455654793216)]
      unfold f_X6_peak_X95_44
      obtain ⟨s, Z, hD⟩ := Dv.ofFin (md0.fin (by decide))
      have hs := hD.nn.mp nd0
      subst hs
      have hp := Nat.two_pow_pos 1074
      have c : ¬ Op.cmpValue (FP.dcmp d0 13830554455654793216) .l ≤ 0 := by
        rw [hD.cmp dvm1, cv_le]
        show ¬ ((Z : Nat) : Int) ≤ -((2 ^ 1074 : Nat) : Int)
        omega
      rw [if_neg c, if_neg c, bv_i]
    obtain ⟨r, p, e1, e2, e3⟩ := loop2 (b := fun s : Int32 × UInt64 × Int32 => f_X5_peak_L55 A (nI m) x3 s.1 s.2.1 s.2.2) (c := fun s : Int32 × UInt64 × Int32 => f_X6_peak_L44 B (nI m) x3 s.1 s.2.1 s.2.2) (s := (x2, d0, x2 + 1)) (t := (x2, d0, x2 + 1)) (fun i s t => s = t ∧ s.2.2.toInt = x2.toInt + 1 + i ∧ (i : Int) ≤ x3.toInt - x2.toInt) (fun r p => r = p) 200 ⟨rfl, by rw [inc x2 q2]; omega, by omega⟩ (by
      rintro i ⟨pk, mo, v⟩ t hi ⟨rfl, hv, hi2⟩
      dsimp only at hv ⊢
      unfold f_X5_peak_L55 f_X6_peak_L44
      by_cases z : x3 < v
      · rw [if_pos z, if_pos z]
        exact Or.inr ⟨_, _, rfl, rfl, rfl⟩
      · have z2 : v.toInt ≤ x3.toInt := Int.not_lt.mp fun y => z ((fa_lt _ _).mpr y)
        have hv2 : (-64 : Int) ≤ v.toInt ∧ v.toInt ≤ 64 := by omega
        obtain ⟨d, b1, b2, _⟩ := all_both hb hm hv2
        rw [if_neg z, if_neg z, cl_s b1]
        simp only [bv_i]
        rw [cl_s (b2 x3 pk mo)]
        unfold f_X6_peak_X95_44
        simp only [bv_i]
        by_cases c : Op.cmpValue (FP.dcmp d mo) .l ≤ 0
        · rw [if_pos c, if_pos c, if_pos c]
          exact Or.inl ⟨_, _, rfl, rfl, by omega, rfl, by rw [inc v hv2]; omega, by omega⟩
        · rw [if_neg c, if_neg c, if_neg c]
          exact Or.inl ⟨_, _, rfl, rfl, by omega, rfl, by rw [inc v hv2]; omega, by omega⟩)
    subst e3
    have e2' := loop_step (b := fun s : Int32 × UInt64 × Int32 => f_X6_peak_L44 B (nI m) x3 s.1 s.2.1 s.2.2) (s := (x2, 13830554455654793216, x2)) first e2
    rw [cl_s e1, cl_s e2']
    exact SM_ret rfl h
  · rw [if_neg hle, if_neg hle]
    exact SM_find h 0 (by decide)
/-- a value greater than another: alike on both sides -/
theorem gt_both {a b : UInt64} (ha : FP.Core.DFin a) (hb : FP.Core.DFin b) : (Op.cmpValue (FP.dcmp a b) .l ≤ 0 ↔ ¬ 0 < Op.cmpValue (FP.dcmp a b) .g) := by
  obtain ⟨s, Z, hA⟩ := Dv.ofFin ha
  obtain ⟨t, W, hB⟩ := Dv.ofFin hb
  rw [hA.cmp hB, cv_le, cv_gt]
  omega
theorem SM_swap {A B : St} (h : Rel A B) (x1 x2 : Int32) : SM (f_X5_swap x1 x2 A) (f_X6_swap x1 x2 B) := by
  have h0 := h
  obtain ⟨⟨k, hb⟩, _⟩ := h0
  have hk := hb.1
  have hp := pow_le hk
  unfold f_X5_swap f_X6_swap
  refine SM_chk (hasAll_eq hb x1) (areItems_eq hb x1) (fun _ => SM_find h 0 (by decide)) fun q1 => ?_
  refine SM_chk (has_eq hb x2) (isItem_eq hb x2) (fun _ => SM_find h 0 (by decide)) fun q2 => ?_
  obtain ⟨m, hm, rfl⟩ := set_of hb.1 q1
  obtain ⟨n, hn, rfl⟩ := item_of q2
  obtain ⟨A2, e, hR2, hb2, hRR, f1, f2, f3⟩ := rules_rel h hb
  obtain ⟨q, e1, e2, _⟩ := paper_both hb2 hRR hm
  rw [cl_s e, cl_s e1, cl_s e2]
  cases q
  · rw [if_pos (show bI false = 0 by decide), if_pos (show bI false = 0 by decide)]
    exact SM_find hR2 4 (by decide)
  · rw [if_neg (show ¬ bI true = 0 by decide), if_neg (show ¬ bI true = 0 by decide), bit_eq (by omega) (by omega), cl_s (has6_eq (by omega) (by omega))]
    cases m.testBit n
    · rw [if_pos (show nI (if false = true then 1 else 0) = 0 by decide), if_pos (show bI false = 0 by decide)]
      exact SM_find hR2 2 (by decide)
    · rw [if_neg (show ¬ nI (if true = true then 1 else 0) = 0 by decide), if_neg (show ¬ bI true = 0 by decide)]
      obtain ⟨A3, e3, hR3, hb3, hRA, eA⟩ := aims_rel hR2 hb2
      have hRR3 : RR A3 k := by
        unfold RR msk at hRR ⊢
        rw [eA]
        exact hRR
      rw [cl_s e3]
      unfold f_X1_bestInsteadOf
      simp only [bv_i]
      rw [clr_eq (by omega)]
      have hcl : clr m n < 2 ^ k := Nat.lt_of_le_of_lt (clr_le m n) hm
      obtain ⟨r, p, g1, g2, g3⟩ := loop2 (b := fun s : Int32 × UInt64 × Int32 => f_X1_bestInsteadOf_L17 A3 (nI m) (nI (clr m n)) s.1 s.2.1 s.2.2) (c := fun s : Int32 × UInt64 × Int32 => f_X6_swap_L58 B (nI m) (nI n) s.1 s.2.1 s.2.2) (s := (-1, FP.dconst0, 0)) (t := (-1, FP.dconst0, 0)) (fun i s t => s = t ∧ s.2.2 = nI i ∧ FP.Core.DFin s.2.1) (fun r p => r = p) k ⟨rfl, rfl, dv0.fin⟩ (by
        rintro i ⟨be, mo, x⟩ t hi ⟨rfl, rfl, fmo⟩
        dsimp only at fmo ⊢
        unfold f_X1_bestInsteadOf_L17 f_X6_swap_L58
        by_cases hik : i = k
        · subst hik
          rw [if_pos (nI_end hb3.2.1), if_pos (nI_end hb3.2.2.1)]
          exact Or.inr ⟨_, _, rfl, rfl, rfl⟩
        · have hik2 : i < k := by omega
          have ei : nI i + 1 = nI (i + 1) := nI_1 i
          rw [if_neg (nI_ends hb3.2.1 hk hik2), if_neg (nI_ends hb3.2.2.1 hk hik2)]
          simp only [bv_i, ei]
          rw [bit_eq (by omega) (by omega), cl_s (has6_eq (m := m) (i := i) (by omega) (by omega)), clr_eq (by omega), one_eq (by omega), fa_or]
          have hset : clr m n ||| 2 ^ i < 2 ^ k := Nat.or_lt_two_pow hcl (Nat.pow_lt_pow_right (by decide) hik2)
          cases m.testBit i
          · rw [if_pos (show nI (if false = true then 1 else 0) = 0 by decide), if_pos (show bI false = 0 by decide)]
            obtain ⟨q, p1, p2, _⟩ := paper_both hb3 hRR3 hset
            rw [cl_s p1, cl_s p2]
            cases q
            · rw [if_pos (show bI false = 0 by decide), if_pos (show bI false = 0 by decide)]
              exact Or.inl ⟨_, _, rfl, rfl, hik2, rfl, rfl, fmo⟩
            · rw [if_neg (show ¬ bI true = 0 by decide), if_neg (show ¬ bI true = 0 by decide)]
              obtain ⟨d, v1, v2, md, nd⟩ := value_both hb3 hRA hset
              have fd := md.fin (by decide)
              rw [cl_s v1, cl_s v2]
              by_cases z : be < 0
              · rw [if_pos z, if_pos z]
                exact Or.inl ⟨_, _, rfl, rfl, hik2, rfl, rfl, fd⟩
              · rw [if_neg z, if_neg z]
                by_cases y : Op.cmpValue (FP.dcmp d mo) .l ≤ 0
                · rw [if_pos y, if_neg ((gt_both fd fmo).mp y)]
                  exact Or.inl ⟨_, _, rfl, rfl, hik2, rfl, rfl, fmo⟩
                · rw [if_neg y, if_pos (Decidable.not_not.mp fun w => y ((gt_both fd fmo).mpr w))]
                  exact Or.inl ⟨_, _, rfl, rfl, hik2, rfl, rfl, fd⟩
          · rw [if_neg (show ¬ nI (if true = true then 1 else 0) = 0 by decide), if_neg (show ¬ bI true = 0 by decide)]
            exact Or.inl ⟨_, _, rfl, rfl, hik2, rfl, rfl, fmo⟩)
      subst g3
      rw [cl_s g1, cl_s g2]
      unfold f_X1_bestInsteadOf_X90 f_X6_swap_X140
      rw [cl_i]
      by_cases z : 0 ≤ r
      · rw [if_pos z, if_pos z]
        exact SM_ret rfl hR3
      · rw [if_neg z, if_neg z]
        exact SM_find hR3 3 (by decide)
