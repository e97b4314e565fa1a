/-- a float, a double that is a number, of a size of at most 2 ^ 40 -/
def okFl (f : UInt32) : Prop := f &&& 0x7fffffff ≤ 0x53800000
def okDb (d : UInt64) : Prop := d &&& 0x7fffffffffffffff ≤ 0x4270000000000000
/-! What ties the class's state A to the reference's state B. -/
/-- what may be told of an item; k: how many items there are (its enemies are a set of these) -/
def okF (f : Nat → Int32) (k : Nat) : Prop := (0 ≤ f 0 ∧ f 0 ≤ 5) ∧ (0 ≤ f 1 ∧ f 1 ≤ 3) ∧ (1 ≤ f 2 ∧ f 2 ≤ 20) ∧ (1 ≤ f 3 ∧ f 3 ≤ 12) ∧ (-32 ≤ f 4 ∧ f 4 ≤ 32) ∧ (-1 ≤ f 5 ∧ f 5 ≤ 3) ∧ ∃ e : Nat, e < 2 ^ k ∧ f 7 = nI e
/-- the bank at the cell a of the class, the row b of the reference, k items -/
def bankRel (a b k : Nat) (A B : St) : Prop :=
  k ≤ 12 ∧ A.1 a 0 = nI k ∧ B.1 b 0 = nI k ∧ (∀ i, i < k → ∀ w, w < 8 → A.1 (a + 2 + w) i = B.1 b (1 + 8 * i + w)) ∧ (∀ i, i < k → okF (fun w => A.1 (a + 2 + w) i) k) ∧
  (∀ j, j < 4 → A.1 (a + 10) j = B.1 b (97 + 2 * j) ∧ A.1 (a + 11) j = B.1 b (98 + 2 * j) ∧ A.1 (a + 12) j = B.1 b (105 + 2 * j) ∧ A.1 (a + 13) j = B.1 b (106 + 2 * j)) ∧
  (∀ j, j < 4 → (-64 ≤ A.1 (a + 10) j ∧ A.1 (a + 10) j ≤ 64) ∧ (0 ≤ A.1 (a + 11) j ∧ A.1 (a + 11) j ≤ 9)) ∧
  (∀ j, j < 3 → A.1 (a + 14) j = B.1 b (113 + j)) ∧ (1 ≤ A.1 (a + 14) 0 ∧ A.1 (a + 14) 0 ≤ 6) ∧ A.1 a 7 = B.1 b 116
/-- a shelf -/
def shelfRel (s : Nat) (A B : St) : Prop :=
  A.1 (43 + s) 0 = B.1 6 s ∧ (0 ≤ B.1 6 s ∧ B.1 6 s ≤ 5) ∧ ∀ p, p < 6 → A.1 (47 + s) p = B.1 (8 + s) p - 1 ∧ (0 ≤ B.1 (8 + s) p ∧ B.1 (8 + s) p ≤ 12) ∧ A.1 (51 + s) p = B.1 (13 + s) p ∧ (0 ≤ B.1 (13 + s) p ∧ B.1 (13 + s) p ≤ 5)
/-- a number of a sheet, as the class holds it: d; as the reference holds it: by its sort -/
def numRel (sort : Int32) (d : UInt64) (i : Int32) (f : UInt32) (e : UInt64) : Prop :=
  (sort = 0 → d = FP.i2d i) ∧ (sort = 1 → d = FP.f2d f ∧ okFl f) ∧ (sort = 2 → d = e ∧ okDb e)
def sheetRel (s : Nat) (A B : St) : Prop :=
  A.1 (56 + s) 0 = B.1 17 s ∧ A.1 (56 + s) 1 = B.1 18 s ∧ (B.1 17 s = -1 ∨ B.1 17 s = 0 ∨ B.1 17 s = 1 ∨ B.1 17 s = 2) ∧ ∃ n : Nat, n ≤ 40 ∧ B.1 18 s = nI n ∧ (B.1 17 s = -1 → n = 0) ∧ ∀ i, i < n → numRel (B.1 17 s) (A.2.1 (60 + s) i) (B.1 (20 + s) i) (B.2.2 (25 + s) i) (B.2.1 (30 + s) i)
def Rel (A B : St) : Prop :=
  (∃ k, bankRel 3 1 k A B) ∧ (A.1 0 4 = B.1 0 2 ∧ (B.1 0 2 = 0 ∨ (B.1 0 2 = 1 ∧ ∃ k, bankRel 18 2 k A B))) ∧ (∀ j, j < 8 → A.1 1 j = B.1 3 j) ∧ (∀ s, s < 4 → shelfRel s A B) ∧ (∀ s, s < 4 → sheetRel s A B)
