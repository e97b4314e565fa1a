/-! What the calls look at first. -/
theorem has_eq {A B : St} {k : Nat} (hb : bankRel 3 1 k A B) (x : Int32) : f_X0_has x A = some (decide ((0 : Int) ≤ x.toInt ∧ x.toInt ≤ (k : Int) - 1)) := by
  have hk := hb.1
  unfold f_X0_has
  rw [hb.2.1]
  have z : (0 : Int32).toInt = 0 := rfl
  have e := nIt (n := k) (by omega)
  by_cases h1 : x.toInt < 0
  · rw [if_pos ((fa_lt _ _).mpr h1), decide_eq_false (by omega)]
  · rw [if_neg (fun q => h1 ((fa_lt _ _).mp q))]
    by_cases h2 : (k : Int) ≤ x.toInt
    · rw [if_pos ((fa_le _ _).mpr (by omega)), decide_eq_false (by omega)]
    · rw [if_neg (fun q => h2 (by have := (fa_le _ _).mp q; omega)), decide_eq_true (by omega)]
theorem isItem_eq {A B : St} {k : Nat} (hb : bankRel 3 1 k A B) (x : Int32) : f_X6_isItem x B = some (decide ((0 : Int) ≤ x.toInt ∧ x.toInt ≤ (k : Int) - 1)) := by
  have hk := hb.1
  unfold f_X6_isItem
  rw [hb.2.2.1, in_eqL, Int32.toInt_toInt64, Int32.toInt_toInt64]
  have e : (nI k - 1).toInt = (k : Int) - 1 := pk_sub_toInt (b := 1) (by omega) (by omega)
  rw [e]
  rfl
theorem hasAll_eq {A B : St} {k : Nat} (hb : bankRel 3 1 k A B) (x : Int32) : f_X0_hasAll x A = some (decide ((0 : Int) ≤ x.toInt ∧ x.toInt ≤ ((2 ^ k : Nat) : Int) - 1)) := by
  have hk := hb.1
  unfold f_X0_hasAll
  rw [hb.2.1]
  have z : (0 : Int32).toInt = 0 := rfl
  have e : ((1 : Int32) <<< (nI k &&& 31)).toInt = ((2 ^ k : Nat) : Int) := by
    have := (by decide : ∀ k, k ≤ 12 → ((1 : Int32) <<< (nI k &&& 31)).toInt = ((2 ^ k : Nat) : Int))
    exact this k hk
  by_cases h1 : x.toInt < 0
  · rw [if_pos ((fa_lt _ _).mpr h1), decide_eq_false (by omega)]
  · rw [if_neg (fun q => h1 ((fa_lt _ _).mp q))]
    by_cases h2 : ((2 ^ k : Nat) : Int) ≤ x.toInt
    · rw [if_pos ((fa_le _ _).mpr (by omega)), decide_eq_false (by omega)]
    · rw [if_neg (fun q => h2 (by have := (fa_le _ _).mp q; omega)), decide_eq_true (by omega)]
theorem areItems_eq {A B : St} {k : Nat} (hb : bankRel 3 1 k A B) (x : Int32) : f_X6_areItems x B = some (decide ((0 : Int) ≤ x.toInt ∧ x.toInt ≤ ((2 ^ k : Nat) : Int) - 1)) := by
  have hk := hb.1
  unfold f_X6_areItems
  rw [hb.2.2.1, in_eqL, Int32.toInt_toInt64, Int32.toInt_toInt64]
  have e : ((1 : Int32) <<< (nI k &&& 31) - 1).toInt = ((2 ^ k : Nat) : Int) - 1 := by
    have := (by decide : ∀ k, k ≤ 12 → ((1 : Int32) <<< (nI k &&& 31) - 1).toInt = ((2 ^ k : Nat) : Int) - 1)
    exact this k hk
  rw [e]
  rfl
theorem set_of {x : Int32} {k : Nat} (hk : k ≤ 12) (h : (0 : Int) ≤ x.toInt ∧ x.toInt ≤ ((2 ^ k : Nat) : Int) - 1) : ∃ n : Nat, n < 2 ^ k ∧ x = nI n := by
  have hp := Nat.two_pow_pos k
  obtain ⟨n, h1, h2⟩ := nat_of (x := x) (M := 2 ^ k - 1) h.1 (by omega)
  exact ⟨n, by omega, h2⟩
theorem item_of {x : Int32} {k : Nat} (h : (0 : Int) ≤ x.toInt ∧ x.toInt ≤ (k : Int) - 1) : ∃ n : Nat, n < k ∧ x = nI n := by
  obtain ⟨n, h1, h2⟩ := nat_of (x := x) (M := k - 1) h.1 (by omega)
  exact ⟨n, by omega, h2⟩
/-- what a fact may be, by the class's tables -/
def lo (w : Nat) : Int := (tb 0 w).toInt
def hi (w : Nat) : Int := (tb 1 w).toInt
theorem fits_eq {w : Nat} (hw : w < 7) (x : Int32) : f_X5_factFits (nI w) x = some (decide (lo w ≤ x.toInt ∧ x.toInt ≤ hi w)) := by
  unfold f_X5_factFits
  rw [within_eq, cl_i, gI_ok (by omega) (by decide), gI_ok (by omega) (by decide), within_eq, cl_i, nIc (by omega)]
  have e : decide ((0 : Int32).toInt ≤ (nI w).toInt ∧ (nI w).toInt ≤ (6 : Int32).toInt) = true := by
    rw [nIt (by omega)]
    exact decide_eq_true (by have a : (0 : Int32).toInt = 0 := rfl
                             have b : (6 : Int32).toInt = 6 := rfl
                             omega)
  rw [e, if_neg (by decide)]
  unfold lo hi
  by_cases h : (tb 0 w).toInt ≤ x.toInt ∧ x.toInt ≤ (tb 1 w).toInt
  · rw [decide_eq_true h, if_neg (by decide)]
  · rw [decide_eq_false h, if_pos (by decide)]
theorem mayBe_eq {w : Nat} (hw : w < 7) (x : Int32) : f_X6_mayBe (nI w) x = some (decide (lo w ≤ x.toInt ∧ x.toInt ≤ hi w)) := by
  have hc : w = 0 ∨ w = 1 ∨ w = 2 ∨ w = 3 ∨ w = 4 ∨ w = 5 ∨ w = 6 := by omega
  unfold f_X6_mayBe
  rcases hc with rfl | rfl | rfl | rfl | rfl | rfl | rfl
  · rw [if_pos (by decide)]
    unfold f_X6_isKind
    rw [in_eq x 0 5]; rfl
  · rw [if_neg (by decide), if_pos (by decide), in_eq x 0 3]; rfl
  · rw [if_neg (by decide), if_neg (by decide), if_pos (by decide), in_eq x 1 20]; rfl
  · rw [if_neg (by decide), if_neg (by decide), if_neg (by decide), if_pos (by decide), in_eq x 1 12]; rfl
  · rw [if_neg (by decide), if_neg (by decide), if_neg (by decide), if_neg (by decide), if_pos (by decide), in_eq x (-32) 32]; rfl
  · rw [if_neg (by decide), if_neg (by decide), if_neg (by decide), if_neg (by decide), if_neg (by decide), if_pos (by decide), in_eq x (-1) 3]; rfl
  · rw [if_neg (by decide), if_neg (by decide), if_neg (by decide), if_neg (by decide), if_neg (by decide), if_neg (by decide), if_pos (by decide), in_eq x 0 999, cl_i]
    by_cases h : (0 : Int32).toInt ≤ x.toInt ∧ x.toInt ≤ (999 : Int32).toInt
    · rw [decide_eq_true h, if_neg (by decide)]
      exact congrArg some (decide_eq_true h).symm
    · rw [decide_eq_false h, if_pos (by decide)]
      exact congrArg some (decide_eq_false h).symm
theorem isKind_eq (x : Int32) : f_X6_isKind x = some (decide (lo 0 ≤ x.toInt ∧ x.toInt ≤ hi 0)) := by
  unfold f_X6_isKind
  rw [in_eq x 0 5]; rfl
/-- a number that is none of the seven -/
theorem fits_no {x y : Int32} (h : ¬ ((0 : Int) ≤ x.toInt ∧ x.toInt ≤ 6)) : f_X5_factFits x y = some false ∧ f_X6_mayBe x y = some false := by
  constructor
  · unfold f_X5_factFits
    rw [within_eq, cl_i]
    have e : decide ((0 : Int32).toInt ≤ x.toInt ∧ x.toInt ≤ (6 : Int32).toInt) = false := decide_eq_false h
    rw [e, if_pos (by decide)]
  · unfold f_X6_mayBe
    have e : ∀ c : Nat, c < 7 → ¬ x = nI c := fun c hc q => h (by rw [q, nIt (by omega)]; omega)
    rw [if_neg (show ¬ x = 0 from e 0 (by omega)), if_neg (show ¬ x = 1 from e 1 (by omega)), if_neg (show ¬ x = 2 from e 2 (by omega)), if_neg (show ¬ x = 3 from e 3 (by omega)), if_neg (show ¬ x = 4 from e 4 (by omega)), if_neg (show ¬ x = 5 from e 5 (by omega)), if_neg (show ¬ x = 6 from e 6 (by omega))]
theorem abil_eq (x : Int32) : f_X5_isAbility x = some (decide ((-64 : Int) ≤ x.toInt ∧ x.toInt ≤ 64)) := by
  unfold f_X5_isAbility
  rw [within_eq]; rfl
theorem abil_eq6 (x : Int32) : f_X6_isAbility x = some (decide ((-64 : Int) ≤ x.toInt ∧ x.toInt ≤ 64)) := by
  unfold f_X6_isAbility
  rw [in_eq x (-64) 64]; rfl
theorem four_eq (x : Int32) : f_X5_isSheet x = some (decide ((0 : Int) ≤ x.toInt ∧ x.toInt ≤ 3)) := by
  unfold f_X5_isSheet
  rw [within_eq]; rfl
theorem four_eq6 (x : Int32) : f_X6_isSheet x = some (decide ((0 : Int) ≤ x.toInt ∧ x.toInt ≤ 3)) := by
  unfold f_X6_isSheet
  rw [in_eq x 0 3]; rfl
theorem four_eq7 (x : Int32) : f_X6_isShelf x = some (decide ((0 : Int) ≤ x.toInt ∧ x.toInt ≤ 3)) := by
  unfold f_X6_isShelf
  rw [in_eq x 0 3]; rfl
/-- a fact of an item, as the reference reads it -/
theorem it_eq {B : St} {n w : Nat} (hn : n < 12) (hw : w < 8) : f_X6_it (nI n) (nI w) B = some (B.1 1 (1 + 8 * n + w)) := by
  unfold f_X6_it
  have e : (1 : Int32) + 8 * nI n + nI w = nI (1 + 8 * n + w) := by
    rw [fa_lit, fa_lit, pk_mul, nI_add, nI_add]
  rw [e, gI_ok (by omega) (by decide), nIc (by omega)]
theorem kind_tab : ∀ x, x < 6 → ∀ y, y < 6 → (lp (fun s => f_X5_isOfKind_L4 (nI y) s.1 s.2) 8 (nI x, 0)).map (Sum.elim (fun _ => false) id) = f_X6_isUnder (nI x) (nI y) ∧ (f_X6_isUnder (nI x) (nI y)).isSome = true := by decide +kernel
theorem kind_eq {x y : Nat} (hx : x < 6) (hy : y < 6) : ∃ b, f_X5_isOfKind (nI x) (nI y) = some b ∧ f_X6_isUnder (nI x) (nI y) = some b := by
  obtain ⟨h1, h2⟩ := kind_tab x hx y hy
  cases hl : lp (fun s => f_X5_isOfKind_L4 (nI y) s.1 s.2) 8 (nI x, 0) with
  | none => rw [hl] at h1; rw [← h1] at h2; cases h2
  | some z =>
    rw [hl] at h1
    unfold f_X5_isOfKind
    rw [loop_of hl, cl_i]
    refine ⟨_, ?_, h1.symm⟩
    cases z <;> rfl
theorem SM_b {α : Type} {P Q : Option Bool} {a b c d : Bool → Option (α × St)} (hPQ : ∃ r, P = some r ∧ Q = some r) (h0 : SM (a false) (c false)) (h1 : SM (b true) (d true)) : SM (cl P fun r => if bI r = 0 then a r else b r) (cl Q fun r => if bI r = 0 then c r else d r) := by
  obtain ⟨r, hP, hQ⟩ := hPQ
  subst hP hQ
  cases r
  · exact h0
  · exact h1
