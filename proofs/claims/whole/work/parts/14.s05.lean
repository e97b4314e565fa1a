/-! Sets of items, by their bits. -/
theorem one_eq {i : Nat} (hi : i < 13) : (1 : Int32) <<< (nI i &&& 31) = nI (2 ^ i) := by
  have := (by decide : ∀ i, i < 13 → (1 : Int32) <<< (nI i &&& 31) = nI (2 ^ i))
  exact this i hi
theorem left_eq {i : Nat} (hi : i < 13) : (1 : Int32) <<< (nI i &&& 31) - 1 = nI (2 ^ i - 1) := by
  have := (by decide : ∀ i, i < 13 → (1 : Int32) <<< (nI i &&& 31) - 1 = nI (2 ^ i - 1))
  exact this i hi
theorem non_eq {i : Nat} (hi : i < 13) : ((1 : Int32) <<< (nI i &&& 31)) ^^^ (-1) = nI (2 ^ 32 - 1 - 2 ^ i) := by
  have := (by decide : ∀ i, i < 13 → ((1 : Int32) <<< (nI i &&& 31)) ^^^ (-1) = nI (2 ^ 32 - 1 - 2 ^ i))
  exact this i hi
theorem non_bit {i j : Nat} (hi : i < 13) (hj : j < 32) : (2 ^ 32 - 1 - 2 ^ i).testBit j = decide (j ≠ i) := by
  have := (by decide +kernel : ∀ i, i < 13 → ∀ j, j < 32 → (2 ^ 32 - 1 - 2 ^ i).testBit j = decide (j ≠ i))
  exact this i hi j hj
theorem bit_eq {m i : Nat} (hm : m < 4096) (hi : i < 13) : (nI m >>> (nI i &&& 31)) &&& 1 = nI (if m.testBit i then 1 else 0) := by
  have hs := (by decide : ∀ i, i < 13 → ((nI i &&& 31).toBitVec.smod 32).toNat = i) i hi
  have h2 : m / 2 ^ i ≤ m := Nat.div_le_self _ _
  rw [pk_shrN (by omega) _ i hs, pk_andN (by omega) 1 rfl, Nat.testBit_eq_decide_div_mod_eq]
  have h3 : m / 2 ^ i % 2 < 2 := Nat.mod_lt _ (by decide)
  by_cases q : m / 2 ^ i % 2 = 1
  · simp [q]
  · have : m / 2 ^ i % 2 = 0 := by omega
    simp [this]
theorem has6_eq {m i : Nat} (hm : m < 4096) (hi : i < 13) : f_X6_has (nI m) (nI i) = some (m.testBit i) := by
  unfold f_X6_has
  rw [bit_eq hm hi]
  cases m.testBit i
  · rw [if_neg (by decide)]
  · rw [if_pos (by decide)]
def clr (m i : Nat) : Nat := m &&& (2 ^ 32 - 1 - 2 ^ i)
theorem clr_le (m i : Nat) : clr m i ≤ m := Nat.and_le_left
theorem clr_eq {m i : Nat} (hi : i < 13) : nI m &&& (((1 : Int32) <<< (nI i &&& 31)) ^^^ (-1)) = nI (clr m i) := by
  rw [non_eq hi, fa_and]; rfl
theorem bit_hi {m k : Nat} (hm : m < 2 ^ k) {j : Nat} (hj : k ≤ j) : m.testBit j = false := Nat.testBit_lt_two_pow (Nat.lt_of_lt_of_le hm (Nat.pow_le_pow_right (by decide) hj))
theorem clr_bit {m i : Nat} (hm : m < 4096) (hi : i < 13) (j : Nat) : (clr m i).testBit j = (m.testBit j && decide (j ≠ i)) := by
  unfold clr
  rw [Nat.testBit_and]
  by_cases hj : j < 32
  · rw [non_bit hi hj]
  · rw [bit_hi (k := 12) hm (by omega)]; rfl
theorem set_eq {m i : Nat} (hm : m < 4096) (hi : i < 13) : clr m i ||| 2 ^ i = m ||| 2 ^ i := by
  apply Nat.eq_of_testBit_eq
  intro j
  rw [fb_bit_set, fb_bit_set, clr_bit hm hi]
  by_cases q : j = i
  · simp [q]
  · simp [q]
theorem pow_le {k : Nat} (hk : k ≤ 12) : 2 ^ k ≤ 4096 := Nat.pow_le_pow_right (n := 2) (by decide) hk
theorem becomes_eq {B : St} {n i m : Nat} (hn : n < 12) (hi : i < 13) (x3 : Int32) (e : B.1 1 (1 + 8 * n + 7) = nI m) (hm : m < 4096) : f_X6_becomes (nI n) (nI i) x3 B = some (upI B 1 (1 + 8 * n + 7) (nI (if x3 = 0 then clr m i else m ||| 2 ^ i))) := by
  unfold f_X6_becomes
  have e1 : (1 : Int32) + 8 * nI n + 7 = nI (1 + 8 * n + 7) := by
    show nI 1 + nI 8 * nI n + nI 7 = _
    rw [pk_mul, nI_add, nI_add]
  simp only [bv_i]
  simp (disch := omega) only [e1, gI_ok, nIc]
  rw [e, clr_eq hi, one_eq hi, fa_or, set_eq hm hi]
  by_cases q : x3 = 0
  · rw [if_pos q, if_pos q, Int32.or_zero]
  · rw [if_neg q, if_neg q]
theorem enem_of {A B : St} {k n : Nat} (hb : bankRel 3 1 k A B) (hn : n < k) : ∃ m, m < 2 ^ k ∧ A.1 12 n = nI m ∧ B.1 1 (1 + 8 * n + 7) = nI m := by
  obtain ⟨m, hm, e⟩ := (hb.2.2.2.2.1 n hn).2.2.2.2.2.2
  exact ⟨m, hm, e, (hb.2.2.2.1 n hn 7 (by omega)).symm.trans e⟩
theorem okF.enem {f : Nat → Int32} {k m : Nat} (h : okF f k) (hm : m < 2 ^ k) : okF (fun u => if u = 7 then nI m else f u) k := by
  obtain ⟨h0, h1, h2, h3, h4, h5, _⟩ := h
  exact ⟨h0, h1, h2, h3, h4, h5, m, hm, rfl⟩
theorem SM_enemy {A B : St} (h : Rel A B) (x1 x2 x3 : Int32) (hx : x3 = 0 ∨ x3 = 1) : SM (f_X5_enemy x1 x2 x3 A) (f_X6_enemy x1 x2 x3 B) := by
  have h0 := h
  obtain ⟨⟨k, hb⟩, _⟩ := h0
  have hk := hb.1
  have hp := pow_le hk
  unfold f_X5_enemy f_X6_enemy
  refine SM_chk (has_eq hb x1) (isItem_eq hb x1) (fun _ => SM_find h 0 (by decide)) fun q1 => ?_
  refine SM_chk (has_eq hb x2) (isItem_eq hb x2) (fun _ => SM_find h 0 (by decide)) fun q2 => ?_
  by_cases hne : x1 = x2
  · rw [if_pos hne, if_pos hne]
    exact SM_find h 0 (by decide)
  · rw [if_neg hne, if_neg hne]
    obtain ⟨n, hn, rfl⟩ := item_of q1
    obtain ⟨i, hi, rfl⟩ := item_of q2
    have hni : n ≠ i := fun q => hne (by rw [q])
    obtain ⟨m, hm, em, em2⟩ := enem_of hb hn
    obtain ⟨m3, hm3, em3, em4⟩ := enem_of hb hi
    have it7 : f_X6_it (nI n) 7 B = some (B.1 1 (1 + 8 * n + 7)) := it_eq (w := 7) (by omega) (by omega)
    rw [cl_s it7, em2, cl_s (has6_eq (by omega) (by omega))]
    have b1 := becomes_eq (B := B) (n := n) (i := i) (by omega) (by omega) x3 em2 (by omega)
    have b2 := becomes_eq (B := upI B 1 (1 + 8 * n + 7) (nI (if x3 = 0 then clr m i else m ||| 2 ^ i))) (n := i) (i := n) (by omega) (by omega) x3 (m := m3) (by rw [upI_o (by omega)]; exact em4) (by omega)
    have hv : (if x3 = 0 then clr m i else m ||| 2 ^ i) < 2 ^ k := by
      by_cases q : x3 = 0
      · rw [if_pos q]; exact Nat.lt_of_le_of_lt (clr_le m i) hm
      · rw [if_neg q]; exact Nat.or_lt_two_pow hm (Nat.pow_lt_pow_right (by decide) hi)
    have hv3 : (if x3 = 0 then clr m3 n else m3 ||| 2 ^ n) < 2 ^ k := by
      by_cases q : x3 = 0
      · rw [if_pos q]; exact Nat.lt_of_le_of_lt (clr_le m3 n) hm3
      · rw [if_neg q]; exact Nat.or_lt_two_pow hm3 (Nat.pow_lt_pow_right (by decide) hn)
    have hb2 := hb.put (w := 7) (by omega) hn (nI (if x3 = 0 then clr m i else m ||| 2 ^ i)) ((hb.2.2.2.2.1 n hn).enem hv)
    have r2 := h.put hb (w := 7) (by omega) hn (nI (if x3 = 0 then clr m i else m ||| 2 ^ i)) ((hb.2.2.2.2.1 n hn).enem hv)
    have r3 := r2.put hb2 (w := 7) (by omega) hi (nI (if x3 = 0 then clr m3 n else m3 ||| 2 ^ n)) ((hb2.2.2.2.2.1 i hi).enem hv3)
    simp only [Nat.reduceAdd] at r3
    have eA : (if x3 = 0 then
          (gI (nI n) 12 <| gI (nI n) 12 <| bv (upI A 12 (nI n).toNatClampNeg ((A.1 12 (nI n).toNatClampNeg) &&& (((1 : Int32) <<< (nI i &&& 31)) ^^^ (-1)))) fun A19 =>
          gI (nI i) 12 <| gI (nI i) 12 <| bv (upI A19 12 (nI i).toNatClampNeg ((A19.1 12 (nI i).toNatClampNeg) &&& (((1 : Int32) <<< (nI n &&& 31)) ^^^ (-1)))) fun A22 =>
          some (nI (if m.testBit i then 1 else 0), A22))
        else
          (gI (nI n) 12 <| gI (nI n) 12 <| bv (upI A 12 (nI n).toNatClampNeg ((A.1 12 (nI n).toNatClampNeg) ||| ((1 : Int32) <<< (nI i &&& 31)))) fun A25 =>
          gI (nI i) 12 <| gI (nI i) 12 <| bv (upI A25 12 (nI i).toNatClampNeg ((A25.1 12 (nI i).toNatClampNeg) ||| ((1 : Int32) <<< (nI n &&& 31)))) fun A28 =>
          some (nI (if m.testBit i then 1 else 0), A28))) = some (nI (if m.testBit i then 1 else 0), upI (upI A 12 n (nI (if x3 = 0 then clr m i else m ||| 2 ^ i))) 12 i (nI (if x3 = 0 then clr m3 n else m3 ||| 2 ^ n))) := by
      simp (disch := omega) only [gI_ok, nIc, bv_i, upI_o, em, em3]
      rw [clr_eq (by omega), clr_eq (by omega), one_eq (by omega), one_eq (by omega), fa_or, fa_or]
      by_cases q : x3 = 0
      · simp only [q, if_true]
      · simp only [q, if_false]
    simp only [bv_i]
    rw [gI_ok (by omega) (by decide), nIc (by omega), em, bit_eq (by omega) (by omega)]
    simp only [bv_i, em, nIc (show n < 2147483648 by omega)] at eA
    rw [eA]
    cases hbit : m.testBit i
    · rw [if_pos (show bI false = 0 by decide), cl_s b1, cl_s b2]
      exact SM_ret rfl r3
    · rw [if_neg (show ¬ bI true = 0 by decide), cl_s b1, cl_s b2]
      exact SM_ret rfl r3
