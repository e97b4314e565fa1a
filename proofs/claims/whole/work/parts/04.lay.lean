theorem set_gen (N : Nat) (ad : Nat → Nat) (cf : St → Nat → va_E) (A A2 : St) (k : Nat) (e : va_E) (h1 : cf A2 k = e) (h2 : ∀ i, i ≠ k → cf A2 i = cf A i) : ((List.range N).map (fun i => (ad i, cf A i))).set k (ad k, e) = (List.range N).map (fun i => (ad i, cf A2 i)) := by
  apply List.ext_getElem
  · simp
  · intro i h3 h4
    simp only [List.length_set, List.length_map, List.length_range] at h3
    rw [List.getElem_set]
    by_cases q : k = i
    · subst q
      simp [h1]
    · simp [q, h2 i (fun z => q z.symm)]
theorem get_gen (N : Nat) (ad : Nat → Nat) (f : Nat → va_E) (k : Nat) (hk : k < N) (e : va_E) (h : f k = e) : ((List.range N).map (fun i => (ad i, f i)))[k]? = some (ad k, e) := by
  simp [hk, h]
theorem apart_gen (N : Nat) (ad : Nat → Nat) (f : Nat → va_E) (hi : ∀ i j, i < N → j < N → ad i = ad j → i = j) : va_D (fun q => ∃ k, k < N ∧ q = ad k) ((List.range N).map (fun i => (ad i, f i))) := by
  have key : ∀ (k : Nat) (q : Nat × va_E), ((List.range N).map (fun i => (ad i, f i)))[k]? = some q → k < N ∧ q = (ad k, f k) := by
    intro k q h
    by_cases hk : k < N
    · rw [get_gen N ad f k hk _ rfl] at h
      cases h
      exact ⟨hk, rfl⟩
    · rw [List.getElem?_eq_none (by simp; omega)] at h
      cases h
  refine ⟨fun i j p q hp hq e => ?_, fun k q h => ?_⟩
  · obtain ⟨a1, rfl⟩ := key i p hp
    obtain ⟨a2, rfl⟩ := key j q hq
    exact hi i j a1 a2 e
  · obtain ⟨a1, rfl⟩ := key k q h
    exact ⟨k, a1, rfl⟩
theorem up_ne {α : Type} {f : Nat → α} {k i : Nat} {v : α} (h : i ≠ k) : va_up f k v i = f i := if_neg h
theorem up_eq {α : Type} {f : Nat → α} {k : Nat} {v : α} : va_up f k v k = v := if_pos rfl
def ceC (ad : Nat → Nat) (cy : Nat → ClassId) (A : St) (k : Nat) : va_E := match k with
  | 0 => .inr (4, [.ref (ad 1), .ref (ad 2), .ref (ad 3), .ref (ad 18), .int (A.1 0 4), .ref (ad 42), .ref (ad 55)])
  | 1 => .inl (cy 0, 8, .inl (A.1 1))
  | 2 => .inr (1, [.ref (ad 3), .int (A.1 2 1), .int (A.1 2 2), .ref (ad 33), .ref (ad 34), .int (A.1 2 5), .ref (ad 35), .ref (ad 40), .ref (ad 41), .int (A.1 2 9)])
  | 3 => .inr (0, [.int (A.1 3 0), .ref (ad 4), .ref (ad 13), .ref (ad 14), .ref (ad 15), .ref (ad 16), .ref (ad 17), .int (A.1 3 7)])
  | 4 => .inl (cy 3, 8, .inr (.inr (.inr (.inr (fun i => if i < 8 then some (ad (5 + i)) else none)))))
  | 5 => .inl (cy 0, 12, .inl (A.1 5))
  | 6 => .inl (cy 0, 12, .inl (A.1 6))
  | 7 => .inl (cy 0, 12, .inl (A.1 7))
  | 8 => .inl (cy 0, 12, .inl (A.1 8))
  | 9 => .inl (cy 0, 12, .inl (A.1 9))
  | 10 => .inl (cy 0, 12, .inl (A.1 10))
  | 11 => .inl (cy 0, 12, .inl (A.1 11))
  | 12 => .inl (cy 0, 12, .inl (A.1 12))
  | 13 => .inl (cy 0, 4, .inl (A.1 13))
  | 14 => .inl (cy 0, 4, .inl (A.1 14))
  | 15 => .inl (cy 0, 4, .inl (A.1 15))
  | 16 => .inl (cy 0, 4, .inl (A.1 16))
  | 17 => .inl (cy 0, 3, .inl (A.1 17))
  | 18 => .inr (0, [.int (A.1 18 0), .ref (ad 19), .ref (ad 28), .ref (ad 29), .ref (ad 30), .ref (ad 31), .ref (ad 32), .int (A.1 18 7)])
  | 19 => .inl (cy 3, 8, .inr (.inr (.inr (.inr (fun i => if i < 8 then some (ad (20 + i)) else none)))))
  | 20 => .inl (cy 0, 12, .inl (A.1 20))
  | 21 => .inl (cy 0, 12, .inl (A.1 21))
  | 22 => .inl (cy 0, 12, .inl (A.1 22))
  | 23 => .inl (cy 0, 12, .inl (A.1 23))
  | 24 => .inl (cy 0, 12, .inl (A.1 24))
  | 25 => .inl (cy 0, 12, .inl (A.1 25))
  | 26 => .inl (cy 0, 12, .inl (A.1 26))
  | 27 => .inl (cy 0, 12, .inl (A.1 27))
  | 28 => .inl (cy 0, 4, .inl (A.1 28))
  | 29 => .inl (cy 0, 4, .inl (A.1 29))
  | 30 => .inl (cy 0, 4, .inl (A.1 30))
  | 31 => .inl (cy 0, 4, .inl (A.1 31))
  | 32 => .inl (cy 0, 3, .inl (A.1 32))
  | 33 => .inl (cy 0, 4, .inl (A.1 33))
  | 34 => .inl (cy 0, 4, .inl (A.1 34))
  | 35 => .inl (cy 4, 4, .inr (.inr (.inr (.inr (fun i => if i < 4 then some (ad (36 + i)) else none)))))
  | 36 => .inl (cy 1, 12, .inr (.inr (.inr (.inl (A.2.1 36)))))
  | 37 => .inl (cy 1, 12, .inr (.inr (.inr (.inl (A.2.1 37)))))
  | 38 => .inl (cy 1, 12, .inr (.inr (.inr (.inl (A.2.1 38)))))
  | 39 => .inl (cy 1, 12, .inr (.inr (.inr (.inl (A.2.1 39)))))
  | 40 => .inl (cy 0, 924, .inl (A.1 40))
  | 41 => .inl (cy 1, 924, .inr (.inr (.inr (.inl (A.2.1 41)))))
  | 42 => .inl (cy 6, 4, .inr (.inr (.inr (.inr (fun i => if i < 4 then some (ad (43 + i)) else none)))))
  | 43 => .inr (3, [.int (A.1 43 0), .ref (ad 47), .ref (ad 51)])
  | 44 => .inr (3, [.int (A.1 44 0), .ref (ad 48), .ref (ad 52)])
  | 45 => .inr (3, [.int (A.1 45 0), .ref (ad 49), .ref (ad 53)])
  | 46 => .inr (3, [.int (A.1 46 0), .ref (ad 50), .ref (ad 54)])
  | 47 => .inl (cy 0, 6, .inl (A.1 47))
  | 48 => .inl (cy 0, 6, .inl (A.1 48))
  | 49 => .inl (cy 0, 6, .inl (A.1 49))
  | 50 => .inl (cy 0, 6, .inl (A.1 50))
  | 51 => .inl (cy 0, 6, .inl (A.1 51))
  | 52 => .inl (cy 0, 6, .inl (A.1 52))
  | 53 => .inl (cy 0, 6, .inl (A.1 53))
  | 54 => .inl (cy 0, 6, .inl (A.1 54))
  | 55 => .inl (cy 7, 4, .inr (.inr (.inr (.inr (fun i => if i < 4 then some (ad (56 + i)) else none)))))
  | 56 => .inr (2, [.int (A.1 56 0), .int (A.1 56 1), .ref (ad 60)])
  | 57 => .inr (2, [.int (A.1 57 0), .int (A.1 57 1), .ref (ad 61)])
  | 58 => .inr (2, [.int (A.1 58 0), .int (A.1 58 1), .ref (ad 62)])
  | 59 => .inr (2, [.int (A.1 59 0), .int (A.1 59 1), .ref (ad 63)])
  | 60 => .inl (cy 1, 40, .inr (.inr (.inr (.inl (A.2.1 60)))))
  | 61 => .inl (cy 1, 40, .inr (.inr (.inr (.inl (A.2.1 61)))))
  | 62 => .inl (cy 1, 40, .inr (.inr (.inr (.inl (A.2.1 62)))))
  | 63 => .inl (cy 1, 40, .inr (.inr (.inr (.inl (A.2.1 63)))))
  | _ => .inr (0, [])
def cellsC : pfW := fun ad cy A => (List.range 64).map (fun i => (ad i, ceC ad cy A i))
theorem locC (ad : Nat → Nat) (cy : Nat → ClassId) (A A2 : St) (k : Nat) (h1 : A2.1 k = A.1 k) (h2 : A2.2.1 k = A.2.1 k) (h3 : A2.2.2 k = A.2.2 k) : ceC ad cy A2 k = ceC ad cy A k := by
  unfold ceC
  split <;> simp only [h1, h2, h3]
theorem eC0 (ad : Nat → Nat) (cy : Nat → ClassId) (A : St) : (cellsC ad cy A)[0]? = some (ad 0, .inr (4, [.ref (ad 1), .ref (ad 2), .ref (ad 3), .ref (ad 18), .int (A.1 0 4), .ref (ad 42), .ref (ad 55)])) := get_gen 64 ad _ 0 (by decide) _ rfl
theorem eC1 (ad : Nat → Nat) (cy : Nat → ClassId) (A : St) : (cellsC ad cy A)[1]? = some (ad 1, .inl (cy 0, 8, .inl (A.1 1))) := get_gen 64 ad _ 1 (by decide) _ rfl
theorem eC2 (ad : Nat → Nat) (cy : Nat → ClassId) (A : St) : (cellsC ad cy A)[2]? = some (ad 2, .inr (1, [.ref (ad 3), .int (A.1 2 1), .int (A.1 2 2), .ref (ad 33), .ref (ad 34), .int (A.1 2 5), .ref (ad 35), .ref (ad 40), .ref (ad 41), .int (A.1 2 9)])) := get_gen 64 ad _ 2 (by decide) _ rfl
theorem eC3 (ad : Nat → Nat) (cy : Nat → ClassId) (A : St) : (cellsC ad cy A)[3]? = some (ad 3, .inr (0, [.int (A.1 3 0), .ref (ad 4), .ref (ad 13), .ref (ad 14), .ref (ad 15), .ref (ad 16), .ref (ad 17), .int (A.1 3 7)])) := get_gen 64 ad _ 3 (by decide) _ rfl
theorem eC4 (ad : Nat → Nat) (cy : Nat → ClassId) (A : St) : (cellsC ad cy A)[4]? = some (ad 4, .inl (cy 3, 8, .inr (.inr (.inr (.inr (fun i => if i < 8 then some (ad (5 + i)) else none)))))) := get_gen 64 ad _ 4 (by decide) _ rfl
theorem eC5 (ad : Nat → Nat) (cy : Nat → ClassId) (A : St) : (cellsC ad cy A)[5]? = some (ad 5, .inl (cy 0, 12, .inl (A.1 5))) := get_gen 64 ad _ 5 (by decide) _ rfl
theorem eC6 (ad : Nat → Nat) (cy : Nat → ClassId) (A : St) : (cellsC ad cy A)[6]? = some (ad 6, .inl (cy 0, 12, .inl (A.1 6))) := get_gen 64 ad _ 6 (by decide) _ rfl
theorem eC7 (ad : Nat → Nat) (cy : Nat → ClassId) (A : St) : (cellsC ad cy A)[7]? = some (ad 7, .inl (cy 0, 12, .inl (A.1 7))) := get_gen 64 ad _ 7 (by decide) _ rfl
theorem eC8 (ad : Nat → Nat) (cy : Nat → ClassId) (A : St) : (cellsC ad cy A)[8]? = some (ad 8, .inl (cy 0, 12, .inl (A.1 8))) := get_gen 64 ad _ 8 (by decide) _ rfl
theorem eC9 (ad : Nat → Nat) (cy : Nat → ClassId) (A : St) : (cellsC ad cy A)[9]? = some (ad 9, .inl (cy 0, 12, .inl (A.1 9))) := get_gen 64 ad _ 9 (by decide) _ rfl
theorem eC10 (ad : Nat → Nat) (cy : Nat → ClassId) (A : St) : (cellsC ad cy A)[10]? = some (ad 10, .inl (cy 0, 12, .inl (A.1 10))) := get_gen 64 ad _ 10 (by decide) _ rfl
theorem eC11 (ad : Nat → Nat) (cy : Nat → ClassId) (A : St) : (cellsC ad cy A)[11]? = some (ad 11, .inl (cy 0, 12, .inl (A.1 11))) := get_gen 64 ad _ 11 (by decide) _ rfl
theorem eC12 (ad : Nat → Nat) (cy : Nat → ClassId) (A : St) : (cellsC ad cy A)[12]? = some (ad 12, .inl (cy 0, 12, .inl (A.1 12))) := get_gen 64 ad _ 12 (by decide) _ rfl
theorem eC13 (ad : Nat → Nat) (cy : Nat → ClassId) (A : St) : (cellsC ad cy A)[13]? = some (ad 13, .inl (cy 0, 4, .inl (A.1 13))) := get_gen 64 ad _ 13 (by decide) _ rfl
theorem eC14 (ad : Nat → Nat) (cy : Nat → ClassId) (A : St) : (cellsC ad cy A)[14]? = some (ad 14, .inl (cy 0, 4, .inl (A.1 14))) := get_gen 64 ad _ 14 (by decide) _ rfl
theorem eC15 (ad : Nat → Nat) (cy : Nat → ClassId) (A : St) : (cellsC ad cy A)[15]? = some (ad 15, .inl (cy 0, 4, .inl (A.1 15))) := get_gen 64 ad _ 15 (by decide) _ rfl
theorem eC16 (ad : Nat → Nat) (cy : Nat → ClassId) (A : St) : (cellsC ad cy A)[16]? = some (ad 16, .inl (cy 0, 4, .inl (A.1 16))) := get_gen 64 ad _ 16 (by decide) _ rfl
theorem eC17 (ad : Nat → Nat) (cy : Nat → ClassId) (A : St) : (cellsC ad cy A)[17]? = some (ad 17, .inl (cy 0, 3, .inl (A.1 17))) := get_gen 64 ad _ 17 (by decide) _ rfl
theorem eC18 (ad : Nat → Nat) (cy : Nat → ClassId) (A : St) : (cellsC ad cy A)[18]? = some (ad 18, .inr (0, [.int (A.1 18 0), .ref (ad 19), .ref (ad 28), .ref (ad 29), .ref (ad 30), .ref (ad 31), .ref (ad 32), .int (A.1 18 7)])) := get_gen 64 ad _ 18 (by decide) _ rfl
theorem eC19 (ad : Nat → Nat) (cy : Nat → ClassId) (A : St) : (cellsC ad cy A)[19]? = some (ad 19, .inl (cy 3, 8, .inr (.inr (.inr (.inr (fun i => if i < 8 then some (ad (20 + i)) else none)))))) := get_gen 64 ad _ 19 (by decide) _ rfl
theorem eC20 (ad : Nat → Nat) (cy : Nat → ClassId) (A : St) : (cellsC ad cy A)[20]? = some (ad 20, .inl (cy 0, 12, .inl (A.1 20))) := get_gen 64 ad _ 20 (by decide) _ rfl
theorem eC21 (ad : Nat → Nat) (cy : Nat → ClassId) (A : St) : (cellsC ad cy A)[21]? = some (ad 21, .inl (cy 0, 12, .inl (A.1 21))) := get_gen 64 ad _ 21 (by decide) _ rfl
theorem eC22 (ad : Nat → Nat) (cy : Nat → ClassId) (A : St) : (cellsC ad cy A)[22]? = some (ad 22, .inl (cy 0, 12, .inl (A.1 22))) := get_gen 64 ad _ 22 (by decide) _ rfl
theorem eC23 (ad : Nat → Nat) (cy : Nat → ClassId) (A : St) : (cellsC ad cy A)[23]? = some (ad 23, .inl (cy 0, 12, .inl (A.1 23))) := get_gen 64 ad _ 23 (by decide) _ rfl
theorem eC24 (ad : Nat → Nat) (cy : Nat → ClassId) (A : St) : (cellsC ad cy A)[24]? = some (ad 24, .inl (cy 0, 12, .inl (A.1 24))) := get_gen 64 ad _ 24 (by decide) _ rfl
theorem eC25 (ad : Nat → Nat) (cy : Nat → ClassId) (A : St) : (cellsC ad cy A)[25]? = some (ad 25, .inl (cy 0, 12, .inl (A.1 25))) := get_gen 64 ad _ 25 (by decide) _ rfl
theorem eC26 (ad : Nat → Nat) (cy : Nat → ClassId) (A : St) : (cellsC ad cy A)[26]? = some (ad 26, .inl (cy 0, 12, .inl (A.1 26))) := get_gen 64 ad _ 26 (by decide) _ rfl
theorem eC27 (ad : Nat → Nat) (cy : Nat → ClassId) (A : St) : (cellsC ad cy A)[27]? = some (ad 27, .inl (cy 0, 12, .inl (A.1 27))) := get_gen 64 ad _ 27 (by decide) _ rfl
theorem eC28 (ad : Nat → Nat) (cy : Nat → ClassId) (A : St) : (cellsC ad cy A)[28]? = some (ad 28, .inl (cy 0, 4, .inl (A.1 28))) := get_gen 64 ad _ 28 (by decide) _ rfl
theorem eC29 (ad : Nat → Nat) (cy : Nat → ClassId) (A : St) : (cellsC ad cy A)[29]? = some (ad 29, .inl (cy 0, 4, .inl (A.1 29))) := get_gen 64 ad _ 29 (by decide) _ rfl
theorem eC30 (ad : Nat → Nat) (cy : Nat → ClassId) (A : St) : (cellsC ad cy A)[30]? = some (ad 30, .inl (cy 0, 4, .inl (A.1 30))) := get_gen 64 ad _ 30 (by decide) _ rfl
theorem eC31 (ad : Nat → Nat) (cy : Nat → ClassId) (A : St) : (cellsC ad cy A)[31]? = some (ad 31, .inl (cy 0, 4, .inl (A.1 31))) := get_gen 64 ad _ 31 (by decide) _ rfl
theorem eC32 (ad : Nat → Nat) (cy : Nat → ClassId) (A : St) : (cellsC ad cy A)[32]? = some (ad 32, .inl (cy 0, 3, .inl (A.1 32))) := get_gen 64 ad _ 32 (by decide) _ rfl
theorem eC33 (ad : Nat → Nat) (cy : Nat → ClassId) (A : St) : (cellsC ad cy A)[33]? = some (ad 33, .inl (cy 0, 4, .inl (A.1 33))) := get_gen 64 ad _ 33 (by decide) _ rfl
theorem eC34 (ad : Nat → Nat) (cy : Nat → ClassId) (A : St) : (cellsC ad cy A)[34]? = some (ad 34, .inl (cy 0, 4, .inl (A.1 34))) := get_gen 64 ad _ 34 (by decide) _ rfl
theorem eC35 (ad : Nat → Nat) (cy : Nat → ClassId) (A : St) : (cellsC ad cy A)[35]? = some (ad 35, .inl (cy 4, 4, .inr (.inr (.inr (.inr (fun i => if i < 4 then some (ad (36 + i)) else none)))))) := get_gen 64 ad _ 35 (by decide) _ rfl
theorem eC36 (ad : Nat → Nat) (cy : Nat → ClassId) (A : St) : (cellsC ad cy A)[36]? = some (ad 36, .inl (cy 1, 12, .inr (.inr (.inr (.inl (A.2.1 36)))))) := get_gen 64 ad _ 36 (by decide) _ rfl
theorem eC37 (ad : Nat → Nat) (cy : Nat → ClassId) (A : St) : (cellsC ad cy A)[37]? = some (ad 37, .inl (cy 1, 12, .inr (.inr (.inr (.inl (A.2.1 37)))))) := get_gen 64 ad _ 37 (by decide) _ rfl
theorem eC38 (ad : Nat → Nat) (cy : Nat → ClassId) (A : St) : (cellsC ad cy A)[38]? = some (ad 38, .inl (cy 1, 12, .inr (.inr (.inr (.inl (A.2.1 38)))))) := get_gen 64 ad _ 38 (by decide) _ rfl
theorem eC39 (ad : Nat → Nat) (cy : Nat → ClassId) (A : St) : (cellsC ad cy A)[39]? = some (ad 39, .inl (cy 1, 12, .inr (.inr (.inr (.inl (A.2.1 39)))))) := get_gen 64 ad _ 39 (by decide) _ rfl
theorem eC40 (ad : Nat → Nat) (cy : Nat → ClassId) (A : St) : (cellsC ad cy A)[40]? = some (ad 40, .inl (cy 0, 924, .inl (A.1 40))) := get_gen 64 ad _ 40 (by decide) _ rfl
theorem eC41 (ad : Nat → Nat) (cy : Nat → ClassId) (A : St) : (cellsC ad cy A)[41]? = some (ad 41, .inl (cy 1, 924, .inr (.inr (.inr (.inl (A.2.1 41)))))) := get_gen 64 ad _ 41 (by decide) _ rfl
theorem eC42 (ad : Nat → Nat) (cy : Nat → ClassId) (A : St) : (cellsC ad cy A)[42]? = some (ad 42, .inl (cy 6, 4, .inr (.inr (.inr (.inr (fun i => if i < 4 then some (ad (43 + i)) else none)))))) := get_gen 64 ad _ 42 (by decide) _ rfl
theorem eC43 (ad : Nat → Nat) (cy : Nat → ClassId) (A : St) : (cellsC ad cy A)[43]? = some (ad 43, .inr (3, [.int (A.1 43 0), .ref (ad 47), .ref (ad 51)])) := get_gen 64 ad _ 43 (by decide) _ rfl
theorem eC44 (ad : Nat → Nat) (cy : Nat → ClassId) (A : St) : (cellsC ad cy A)[44]? = some (ad 44, .inr (3, [.int (A.1 44 0), .ref (ad 48), .ref (ad 52)])) := get_gen 64 ad _ 44 (by decide) _ rfl
theorem eC45 (ad : Nat → Nat) (cy : Nat → ClassId) (A : St) : (cellsC ad cy A)[45]? = some (ad 45, .inr (3, [.int (A.1 45 0), .ref (ad 49), .ref (ad 53)])) := get_gen 64 ad _ 45 (by decide) _ rfl
theorem eC46 (ad : Nat → Nat) (cy : Nat → ClassId) (A : St) : (cellsC ad cy A)[46]? = some (ad 46, .inr (3, [.int (A.1 46 0), .ref (ad 50), .ref (ad 54)])) := get_gen 64 ad _ 46 (by decide) _ rfl
theorem eC47 (ad : Nat → Nat) (cy : Nat → ClassId) (A : St) : (cellsC ad cy A)[47]? = some (ad 47, .inl (cy 0, 6, .inl (A.1 47))) := get_gen 64 ad _ 47 (by decide) _ rfl
theorem eC48 (ad : Nat → Nat) (cy : Nat → ClassId) (A : St) : (cellsC ad cy A)[48]? = some (ad 48, .inl (cy 0, 6, .inl (A.1 48))) := get_gen 64 ad _ 48 (by decide) _ rfl
theorem eC49 (ad : Nat → Nat) (cy : Nat → ClassId) (A : St) : (cellsC ad cy A)[49]? = some (ad 49, .inl (cy 0, 6, .inl (A.1 49))) := get_gen 64 ad _ 49 (by decide) _ rfl
theorem eC50 (ad : Nat → Nat) (cy : Nat → ClassId) (A : St) : (cellsC ad cy A)[50]? = some (ad 50, .inl (cy 0, 6, .inl (A.1 50))) := get_gen 64 ad _ 50 (by decide) _ rfl
theorem eC51 (ad : Nat → Nat) (cy : Nat → ClassId) (A : St) : (cellsC ad cy A)[51]? = some (ad 51, .inl (cy 0, 6, .inl (A.1 51))) := get_gen 64 ad _ 51 (by decide) _ rfl
theorem eC52 (ad : Nat → Nat) (cy : Nat → ClassId) (A : St) : (cellsC ad cy A)[52]? = some (ad 52, .inl (cy 0, 6, .inl (A.1 52))) := get_gen 64 ad _ 52 (by decide) _ rfl
theorem eC53 (ad : Nat → Nat) (cy : Nat → ClassId) (A : St) : (cellsC ad cy A)[53]? = some (ad 53, .inl (cy 0, 6, .inl (A.1 53))) := get_gen 64 ad _ 53 (by decide) _ rfl
theorem eC54 (ad : Nat → Nat) (cy : Nat → ClassId) (A : St) : (cellsC ad cy A)[54]? = some (ad 54, .inl (cy 0, 6, .inl (A.1 54))) := get_gen 64 ad _ 54 (by decide) _ rfl
theorem eC55 (ad : Nat → Nat) (cy : Nat → ClassId) (A : St) : (cellsC ad cy A)[55]? = some (ad 55, .inl (cy 7, 4, .inr (.inr (.inr (.inr (fun i => if i < 4 then some (ad (56 + i)) else none)))))) := get_gen 64 ad _ 55 (by decide) _ rfl
theorem eC56 (ad : Nat → Nat) (cy : Nat → ClassId) (A : St) : (cellsC ad cy A)[56]? = some (ad 56, .inr (2, [.int (A.1 56 0), .int (A.1 56 1), .ref (ad 60)])) := get_gen 64 ad _ 56 (by decide) _ rfl
theorem eC57 (ad : Nat → Nat) (cy : Nat → ClassId) (A : St) : (cellsC ad cy A)[57]? = some (ad 57, .inr (2, [.int (A.1 57 0), .int (A.1 57 1), .ref (ad 61)])) := get_gen 64 ad _ 57 (by decide) _ rfl
theorem eC58 (ad : Nat → Nat) (cy : Nat → ClassId) (A : St) : (cellsC ad cy A)[58]? = some (ad 58, .inr (2, [.int (A.1 58 0), .int (A.1 58 1), .ref (ad 62)])) := get_gen 64 ad _ 58 (by decide) _ rfl
theorem eC59 (ad : Nat → Nat) (cy : Nat → ClassId) (A : St) : (cellsC ad cy A)[59]? = some (ad 59, .inr (2, [.int (A.1 59 0), .int (A.1 59 1), .ref (ad 63)])) := get_gen 64 ad _ 59 (by decide) _ rfl
theorem eC60 (ad : Nat → Nat) (cy : Nat → ClassId) (A : St) : (cellsC ad cy A)[60]? = some (ad 60, .inl (cy 1, 40, .inr (.inr (.inr (.inl (A.2.1 60)))))) := get_gen 64 ad _ 60 (by decide) _ rfl
theorem eC61 (ad : Nat → Nat) (cy : Nat → ClassId) (A : St) : (cellsC ad cy A)[61]? = some (ad 61, .inl (cy 1, 40, .inr (.inr (.inr (.inl (A.2.1 61)))))) := get_gen 64 ad _ 61 (by decide) _ rfl
theorem eC62 (ad : Nat → Nat) (cy : Nat → ClassId) (A : St) : (cellsC ad cy A)[62]? = some (ad 62, .inl (cy 1, 40, .inr (.inr (.inr (.inl (A.2.1 62)))))) := get_gen 64 ad _ 62 (by decide) _ rfl
theorem eC63 (ad : Nat → Nat) (cy : Nat → ClassId) (A : St) : (cellsC ad cy A)[63]? = some (ad 63, .inl (cy 1, 40, .inr (.inr (.inr (.inl (A.2.1 63)))))) := get_gen 64 ad _ 63 (by decide) _ rfl
theorem sCI (ad : Nat → Nat) (cy : Nat → ClassId) (A : St) (k j n : Nat) (v : Int32) (h : ∀ B : St, ceC ad cy B k = .inl (cy 0, n, .inl (B.1 k))) : (cellsC ad cy A).set k (ad k, .inl (cy 0, n, .inl (upd (A.1 k) j v))) = cellsC ad cy (upI A k j v) := set_gen 64 ad (ceC ad cy) A (upI A k j v) k _ (by rw [h]; simp [upI, up_eq]) (fun i hi => locC ad cy A _ i (by simp [upI, up_ne hi]) (by simp [upI, up_ne hi]) (by simp [upI, up_ne hi]))
theorem wCI (ad : Nat → Nat) (cy : Nat → ClassId) (A : St) (k n : Nat) (f : Nat → Int32) (h : ∀ B : St, ceC ad cy B k = .inl (cy 0, n, .inl (B.1 k))) : (cellsC ad cy A).set k (ad k, .inl (cy 0, n, .inl f)) = cellsC ad cy (rwI A k f) := set_gen 64 ad (ceC ad cy) A (rwI A k f) k _ (by rw [h]; simp [rwI, up_eq]) (fun i hi => locC ad cy A _ i (by simp [rwI, up_ne hi]) (by simp [rwI, up_ne hi]) (by simp [rwI, up_ne hi]))
theorem oCI (ad : Nat → Nat) (cy : Nat → ClassId) (A : St) (k j : Nat) (v : Int32) (e : va_E) (h : ceC ad cy (upI A k j v) k = e) : (cellsC ad cy A).set k (ad k, e) = cellsC ad cy (upI A k j v) := set_gen 64 ad (ceC ad cy) A (upI A k j v) k _ h (fun i hi => locC ad cy A _ i (by simp [upI, up_ne hi]) (by simp [upI, up_ne hi]) (by simp [upI, up_ne hi]))
theorem sCD (ad : Nat → Nat) (cy : Nat → ClassId) (A : St) (k j n : Nat) (v : UInt64) (h : ∀ B : St, ceC ad cy B k = .inl (cy 1, n, .inr (.inr (.inr (.inl (B.2.1 k)))))) : (cellsC ad cy A).set k (ad k, .inl (cy 1, n, .inr (.inr (.inr (.inl (vf_upd (A.2.1 k) j v)))))) = cellsC ad cy (upD A k j v) := set_gen 64 ad (ceC ad cy) A (upD A k j v) k _ (by rw [h]; simp [upD, up_eq]) (fun i hi => locC ad cy A _ i (by simp [upD, up_ne hi]) (by simp [upD, up_ne hi]) (by simp [upD, up_ne hi]))
theorem wCD (ad : Nat → Nat) (cy : Nat → ClassId) (A : St) (k n : Nat) (f : Nat → UInt64) (h : ∀ B : St, ceC ad cy B k = .inl (cy 1, n, .inr (.inr (.inr (.inl (B.2.1 k)))))) : (cellsC ad cy A).set k (ad k, .inl (cy 1, n, .inr (.inr (.inr (.inl f))))) = cellsC ad cy (rwD A k f) := set_gen 64 ad (ceC ad cy) A (rwD A k f) k _ (by rw [h]; simp [rwD, up_eq]) (fun i hi => locC ad cy A _ i (by simp [rwD, up_ne hi]) (by simp [rwD, up_ne hi]) (by simp [rwD, up_ne hi]))
theorem oCD (ad : Nat → Nat) (cy : Nat → ClassId) (A : St) (k j : Nat) (v : UInt64) (e : va_E) (h : ceC ad cy (upD A k j v) k = e) : (cellsC ad cy A).set k (ad k, e) = cellsC ad cy (upD A k j v) := set_gen 64 ad (ceC ad cy) A (upD A k j v) k _ h (fun i hi => locC ad cy A _ i (by simp [upD, up_ne hi]) (by simp [upD, up_ne hi]) (by simp [upD, up_ne hi]))
theorem sCF (ad : Nat → Nat) (cy : Nat → ClassId) (A : St) (k j n : Nat) (v : UInt32) (h : ∀ B : St, ceC ad cy B k = .inl (cy 2, n, .inr (.inr (.inl (B.2.2 k))))) : (cellsC ad cy A).set k (ad k, .inl (cy 2, n, .inr (.inr (.inl (vf_upd (A.2.2 k) j v))))) = cellsC ad cy (upF A k j v) := set_gen 64 ad (ceC ad cy) A (upF A k j v) k _ (by rw [h]; simp [upF, up_eq]) (fun i hi => locC ad cy A _ i (by simp [upF, up_ne hi]) (by simp [upF, up_ne hi]) (by simp [upF, up_ne hi]))
theorem fC5 (ad : Nat → Nat) (cy : Nat → ClassId) (A : St) (w : Nat) (hw : w < 8) : ceC ad cy A (5 + w) = .inl (cy 0, 12, .inl (A.1 (5 + w))) := by
  match w, hw with
  | 0, _ => rfl
  | 1, _ => rfl
  | 2, _ => rfl
  | 3, _ => rfl
  | 4, _ => rfl
  | 5, _ => rfl
  | 6, _ => rfl
  | 7, _ => rfl
theorem eCf5 (ad : Nat → Nat) (cy : Nat → ClassId) (A : St) (w : Nat) (hw : w < 8) : (cellsC ad cy A)[5 + w]? = some (ad (5 + w), .inl (cy 0, 12, .inl (A.1 (5 + w)))) := get_gen 64 ad _ (5 + w) (by omega) _ (fC5 ad cy A w hw)
theorem fC20 (ad : Nat → Nat) (cy : Nat → ClassId) (A : St) (w : Nat) (hw : w < 8) : ceC ad cy A (20 + w) = .inl (cy 0, 12, .inl (A.1 (20 + w))) := by
  match w, hw with
  | 0, _ => rfl
  | 1, _ => rfl
  | 2, _ => rfl
  | 3, _ => rfl
  | 4, _ => rfl
  | 5, _ => rfl
  | 6, _ => rfl
  | 7, _ => rfl
theorem eCf20 (ad : Nat → Nat) (cy : Nat → ClassId) (A : St) (w : Nat) (hw : w < 8) : (cellsC ad cy A)[20 + w]? = some (ad (20 + w), .inl (cy 0, 12, .inl (A.1 (20 + w)))) := get_gen 64 ad _ (20 + w) (by omega) _ (fC20 ad cy A w hw)
theorem fC36 (ad : Nat → Nat) (cy : Nat → ClassId) (A : St) (w : Nat) (hw : w < 4) : ceC ad cy A (36 + w) = .inl (cy 1, 12, .inr (.inr (.inr (.inl (A.2.1 (36 + w)))))) := by
  match w, hw with
  | 0, _ => rfl
  | 1, _ => rfl
  | 2, _ => rfl
  | 3, _ => rfl
theorem eCf36 (ad : Nat → Nat) (cy : Nat → ClassId) (A : St) (w : Nat) (hw : w < 4) : (cellsC ad cy A)[36 + w]? = some (ad (36 + w), .inl (cy 1, 12, .inr (.inr (.inr (.inl (A.2.1 (36 + w))))))) := get_gen 64 ad _ (36 + w) (by omega) _ (fC36 ad cy A w hw)
theorem fC43 (ad : Nat → Nat) (cy : Nat → ClassId) (A : St) (w : Nat) (hw : w < 4) : ceC ad cy A (43 + w) = .inr (3, [.int (A.1 (43 + w) 0), .ref (ad (47 + w)), .ref (ad (51 + w))]) := by
  match w, hw with
  | 0, _ => rfl
  | 1, _ => rfl
  | 2, _ => rfl
  | 3, _ => rfl
theorem eCf43 (ad : Nat → Nat) (cy : Nat → ClassId) (A : St) (w : Nat) (hw : w < 4) : (cellsC ad cy A)[43 + w]? = some (ad (43 + w), .inr (3, [.int (A.1 (43 + w) 0), .ref (ad (47 + w)), .ref (ad (51 + w))])) := get_gen 64 ad _ (43 + w) (by omega) _ (fC43 ad cy A w hw)
theorem fC47 (ad : Nat → Nat) (cy : Nat → ClassId) (A : St) (w : Nat) (hw : w < 4) : ceC ad cy A (47 + w) = .inl (cy 0, 6, .inl (A.1 (47 + w))) := by
  match w, hw with
  | 0, _ => rfl
  | 1, _ => rfl
  | 2, _ => rfl
  | 3, _ => rfl
theorem eCf47 (ad : Nat → Nat) (cy : Nat → ClassId) (A : St) (w : Nat) (hw : w < 4) : (cellsC ad cy A)[47 + w]? = some (ad (47 + w), .inl (cy 0, 6, .inl (A.1 (47 + w)))) := get_gen 64 ad _ (47 + w) (by omega) _ (fC47 ad cy A w hw)
theorem fC51 (ad : Nat → Nat) (cy : Nat → ClassId) (A : St) (w : Nat) (hw : w < 4) : ceC ad cy A (51 + w) = .inl (cy 0, 6, .inl (A.1 (51 + w))) := by
  match w, hw with
  | 0, _ => rfl
  | 1, _ => rfl
  | 2, _ => rfl
  | 3, _ => rfl
theorem eCf51 (ad : Nat → Nat) (cy : Nat → ClassId) (A : St) (w : Nat) (hw : w < 4) : (cellsC ad cy A)[51 + w]? = some (ad (51 + w), .inl (cy 0, 6, .inl (A.1 (51 + w)))) := get_gen 64 ad _ (51 + w) (by omega) _ (fC51 ad cy A w hw)
theorem fC56 (ad : Nat → Nat) (cy : Nat → ClassId) (A : St) (w : Nat) (hw : w < 4) : ceC ad cy A (56 + w) = .inr (2, [.int (A.1 (56 + w) 0), .int (A.1 (56 + w) 1), .ref (ad (60 + w))]) := by
  match w, hw with
  | 0, _ => rfl
  | 1, _ => rfl
  | 2, _ => rfl
  | 3, _ => rfl
theorem eCf56 (ad : Nat → Nat) (cy : Nat → ClassId) (A : St) (w : Nat) (hw : w < 4) : (cellsC ad cy A)[56 + w]? = some (ad (56 + w), .inr (2, [.int (A.1 (56 + w) 0), .int (A.1 (56 + w) 1), .ref (ad (60 + w))])) := get_gen 64 ad _ (56 + w) (by omega) _ (fC56 ad cy A w hw)
theorem fC60 (ad : Nat → Nat) (cy : Nat → ClassId) (A : St) (w : Nat) (hw : w < 4) : ceC ad cy A (60 + w) = .inl (cy 1, 40, .inr (.inr (.inr (.inl (A.2.1 (60 + w)))))) := by
  match w, hw with
  | 0, _ => rfl
  | 1, _ => rfl
  | 2, _ => rfl
  | 3, _ => rfl
theorem eCf60 (ad : Nat → Nat) (cy : Nat → ClassId) (A : St) (w : Nat) (hw : w < 4) : (cellsC ad cy A)[60 + w]? = some (ad (60 + w), .inl (cy 1, 40, .inr (.inr (.inr (.inl (A.2.1 (60 + w))))))) := get_gen 64 ad _ (60 + w) (by omega) _ (fC60 ad cy A w hw)
def ceR (ad : Nat → Nat) (cy : Nat → ClassId) (A : St) (k : Nat) : va_E := match k with
  | 0 => .inr (5, [.ref (ad 1), .ref (ad 2), .int (A.1 0 2), .ref (ad 3), .ref (ad 4), .ref (ad 5), .int (A.1 0 6), .int (A.1 0 7), .double (A.2.1 0 8), .ref (ad 6), .ref (ad 7), .ref (ad 12), .ref (ad 17), .ref (ad 18), .ref (ad 19), .ref (ad 24), .ref (ad 29), .ref (ad 34), .ref (ad 35), .ref (ad 36)])
  | 1 => .inl (cy 0, 117, .inl (A.1 1))
  | 2 => .inl (cy 0, 117, .inl (A.1 2))
  | 3 => .inl (cy 0, 8, .inl (A.1 3))
  | 4 => .inl (cy 0, 4096, .inl (A.1 4))
  | 5 => .inl (cy 1, 4096, .inr (.inr (.inr (.inl (A.2.1 5)))))
  | 6 => .inl (cy 0, 4, .inl (A.1 6))
  | 7 => .inl (cy 3, 4, .inr (.inr (.inr (.inr (fun i => if i < 4 then some (ad (8 + i)) else none)))))
  | 8 => .inl (cy 0, 6, .inl (A.1 8))
  | 9 => .inl (cy 0, 6, .inl (A.1 9))
  | 10 => .inl (cy 0, 6, .inl (A.1 10))
  | 11 => .inl (cy 0, 6, .inl (A.1 11))
  | 12 => .inl (cy 3, 4, .inr (.inr (.inr (.inr (fun i => if i < 4 then some (ad (13 + i)) else none)))))
  | 13 => .inl (cy 0, 6, .inl (A.1 13))
  | 14 => .inl (cy 0, 6, .inl (A.1 14))
  | 15 => .inl (cy 0, 6, .inl (A.1 15))
  | 16 => .inl (cy 0, 6, .inl (A.1 16))
  | 17 => .inl (cy 0, 4, .inl (A.1 17))
  | 18 => .inl (cy 0, 4, .inl (A.1 18))
  | 19 => .inl (cy 3, 4, .inr (.inr (.inr (.inr (fun i => if i < 4 then some (ad (20 + i)) else none)))))
  | 20 => .inl (cy 0, 40, .inl (A.1 20))
  | 21 => .inl (cy 0, 40, .inl (A.1 21))
  | 22 => .inl (cy 0, 40, .inl (A.1 22))
  | 23 => .inl (cy 0, 40, .inl (A.1 23))
  | 24 => .inl (cy 5, 4, .inr (.inr (.inr (.inr (fun i => if i < 4 then some (ad (25 + i)) else none)))))
  | 25 => .inl (cy 2, 40, .inr (.inr (.inl (A.2.2 25))))
  | 26 => .inl (cy 2, 40, .inr (.inr (.inl (A.2.2 26))))
  | 27 => .inl (cy 2, 40, .inr (.inr (.inl (A.2.2 27))))
  | 28 => .inl (cy 2, 40, .inr (.inr (.inl (A.2.2 28))))
  | 29 => .inl (cy 4, 4, .inr (.inr (.inr (.inr (fun i => if i < 4 then some (ad (30 + i)) else none)))))
  | 30 => .inl (cy 1, 40, .inr (.inr (.inr (.inl (A.2.1 30)))))
  | 31 => .inl (cy 1, 40, .inr (.inr (.inr (.inl (A.2.1 31)))))
  | 32 => .inl (cy 1, 40, .inr (.inr (.inr (.inl (A.2.1 32)))))
  | 33 => .inl (cy 1, 40, .inr (.inr (.inr (.inl (A.2.1 33)))))
  | 34 => .inl (cy 0, 40, .inl (A.1 34))
  | 35 => .inl (cy 2, 40, .inr (.inr (.inl (A.2.2 35))))
  | 36 => .inl (cy 1, 40, .inr (.inr (.inr (.inl (A.2.1 36)))))
  | _ => .inr (0, [])
def cellsR : pfW := fun ad cy A => (List.range 37).map (fun i => (ad i, ceR ad cy A i))
theorem locR (ad : Nat → Nat) (cy : Nat → ClassId) (A A2 : St) (k : Nat) (h1 : A2.1 k = A.1 k) (h2 : A2.2.1 k = A.2.1 k) (h3 : A2.2.2 k = A.2.2 k) : ceR ad cy A2 k = ceR ad cy A k := by
  unfold ceR
  split <;> simp only [h1, h2, h3]
theorem eR0 (ad : Nat → Nat) (cy : Nat → ClassId) (A : St) : (cellsR ad cy A)[0]? = some (ad 0, .inr (5, [.ref (ad 1), .ref (ad 2), .int (A.1 0 2), .ref (ad 3), .ref (ad 4), .ref (ad 5), .int (A.1 0 6), .int (A.1 0 7), .double (A.2.1 0 8), .ref (ad 6), .ref (ad 7), .ref (ad 12), .ref (ad 17), .ref (ad 18), .ref (ad 19), .ref (ad 24), .ref (ad 29), .ref (ad 34), .ref (ad 35), .ref (ad 36)])) := get_gen 37 ad _ 0 (by decide) _ rfl
theorem eR1 (ad : Nat → Nat) (cy : Nat → ClassId) (A : St) : (cellsR ad cy A)[1]? = some (ad 1, .inl (cy 0, 117, .inl (A.1 1))) := get_gen 37 ad _ 1 (by decide) _ rfl
theorem eR2 (ad : Nat → Nat) (cy : Nat → ClassId) (A : St) : (cellsR ad cy A)[2]? = some (ad 2, .inl (cy 0, 117, .inl (A.1 2))) := get_gen 37 ad _ 2 (by decide) _ rfl
theorem eR3 (ad : Nat → Nat) (cy : Nat → ClassId) (A : St) : (cellsR ad cy A)[3]? = some (ad 3, .inl (cy 0, 8, .inl (A.1 3))) := get_gen 37 ad _ 3 (by decide) _ rfl
theorem eR4 (ad : Nat → Nat) (cy : Nat → ClassId) (A : St) : (cellsR ad cy A)[4]? = some (ad 4, .inl (cy 0, 4096, .inl (A.1 4))) := get_gen 37 ad _ 4 (by decide) _ rfl
theorem eR5 (ad : Nat → Nat) (cy : Nat → ClassId) (A : St) : (cellsR ad cy A)[5]? = some (ad 5, .inl (cy 1, 4096, .inr (.inr (.inr (.inl (A.2.1 5)))))) := get_gen 37 ad _ 5 (by decide) _ rfl
theorem eR6 (ad : Nat → Nat) (cy : Nat → ClassId) (A : St) : (cellsR ad cy A)[6]? = some (ad 6, .inl (cy 0, 4, .inl (A.1 6))) := get_gen 37 ad _ 6 (by decide) _ rfl
theorem eR7 (ad : Nat → Nat) (cy : Nat → ClassId) (A : St) : (cellsR ad cy A)[7]? = some (ad 7, .inl (cy 3, 4, .inr (.inr (.inr (.inr (fun i => if i < 4 then some (ad (8 + i)) else none)))))) := get_gen 37 ad _ 7 (by decide) _ rfl
theorem eR8 (ad : Nat → Nat) (cy : Nat → ClassId) (A : St) : (cellsR ad cy A)[8]? = some (ad 8, .inl (cy 0, 6, .inl (A.1 8))) := get_gen 37 ad _ 8 (by decide) _ rfl
theorem eR9 (ad : Nat → Nat) (cy : Nat → ClassId) (A : St) : (cellsR ad cy A)[9]? = some (ad 9, .inl (cy 0, 6, .inl (A.1 9))) := get_gen 37 ad _ 9 (by decide) _ rfl
theorem eR10 (ad : Nat → Nat) (cy : Nat → ClassId) (A : St) : (cellsR ad cy A)[10]? = some (ad 10, .inl (cy 0, 6, .inl (A.1 10))) := get_gen 37 ad _ 10 (by decide) _ rfl
theorem eR11 (ad : Nat → Nat) (cy : Nat → ClassId) (A : St) : (cellsR ad cy A)[11]? = some (ad 11, .inl (cy 0, 6, .inl (A.1 11))) := get_gen 37 ad _ 11 (by decide) _ rfl
theorem eR12 (ad : Nat → Nat) (cy : Nat → ClassId) (A : St) : (cellsR ad cy A)[12]? = some (ad 12, .inl (cy 3, 4, .inr (.inr (.inr (.inr (fun i => if i < 4 then some (ad (13 + i)) else none)))))) := get_gen 37 ad _ 12 (by decide) _ rfl
theorem eR13 (ad : Nat → Nat) (cy : Nat → ClassId) (A : St) : (cellsR ad cy A)[13]? = some (ad 13, .inl (cy 0, 6, .inl (A.1 13))) := get_gen 37 ad _ 13 (by decide) _ rfl
theorem eR14 (ad : Nat → Nat) (cy : Nat → ClassId) (A : St) : (cellsR ad cy A)[14]? = some (ad 14, .inl (cy 0, 6, .inl (A.1 14))) := get_gen 37 ad _ 14 (by decide) _ rfl
theorem eR15 (ad : Nat → Nat) (cy : Nat → ClassId) (A : St) : (cellsR ad cy A)[15]? = some (ad 15, .inl (cy 0, 6, .inl (A.1 15))) := get_gen 37 ad _ 15 (by decide) _ rfl
theorem eR16 (ad : Nat → Nat) (cy : Nat → ClassId) (A : St) : (cellsR ad cy A)[16]? = some (ad 16, .inl (cy 0, 6, .inl (A.1 16))) := get_gen 37 ad _ 16 (by decide) _ rfl
theorem eR17 (ad : Nat → Nat) (cy : Nat → ClassId) (A : St) : (cellsR ad cy A)[17]? = some (ad 17, .inl (cy 0, 4, .inl (A.1 17))) := get_gen 37 ad _ 17 (by decide) _ rfl
theorem eR18 (ad : Nat → Nat) (cy : Nat → ClassId) (A : St) : (cellsR ad cy A)[18]? = some (ad 18, .inl (cy 0, 4, .inl (A.1 18))) := get_gen 37 ad _ 18 (by decide) _ rfl
theorem eR19 (ad : Nat → Nat) (cy : Nat → ClassId) (A : St) : (cellsR ad cy A)[19]? = some (ad 19, .inl (cy 3, 4, .inr (.inr (.inr (.inr (fun i => if i < 4 then some (ad (20 + i)) else none)))))) := get_gen 37 ad _ 19 (by decide) _ rfl
theorem eR20 (ad : Nat → Nat) (cy : Nat → ClassId) (A : St) : (cellsR ad cy A)[20]? = some (ad 20, .inl (cy 0, 40, .inl (A.1 20))) := get_gen 37 ad _ 20 (by decide) _ rfl
theorem eR21 (ad : Nat → Nat) (cy : Nat → ClassId) (A : St) : (cellsR ad cy A)[21]? = some (ad 21, .inl (cy 0, 40, .inl (A.1 21))) := get_gen 37 ad _ 21 (by decide) _ rfl
theorem eR22 (ad : Nat → Nat) (cy : Nat → ClassId) (A : St) : (cellsR ad cy A)[22]? = some (ad 22, .inl (cy 0, 40, .inl (A.1 22))) := get_gen 37 ad _ 22 (by decide) _ rfl
theorem eR23 (ad : Nat → Nat) (cy : Nat → ClassId) (A : St) : (cellsR ad cy A)[23]? = some (ad 23, .inl (cy 0, 40, .inl (A.1 23))) := get_gen 37 ad _ 23 (by decide) _ rfl
theorem eR24 (ad : Nat → Nat) (cy : Nat → ClassId) (A : St) : (cellsR ad cy A)[24]? = some (ad 24, .inl (cy 5, 4, .inr (.inr (.inr (.inr (fun i => if i < 4 then some (ad (25 + i)) else none)))))) := get_gen 37 ad _ 24 (by decide) _ rfl
theorem eR25 (ad : Nat → Nat) (cy : Nat → ClassId) (A : St) : (cellsR ad cy A)[25]? = some (ad 25, .inl (cy 2, 40, .inr (.inr (.inl (A.2.2 25))))) := get_gen 37 ad _ 25 (by decide) _ rfl
theorem eR26 (ad : Nat → Nat) (cy : Nat → ClassId) (A : St) : (cellsR ad cy A)[26]? = some (ad 26, .inl (cy 2, 40, .inr (.inr (.inl (A.2.2 26))))) := get_gen 37 ad _ 26 (by decide) _ rfl
theorem eR27 (ad : Nat → Nat) (cy : Nat → ClassId) (A : St) : (cellsR ad cy A)[27]? = some (ad 27, .inl (cy 2, 40, .inr (.inr (.inl (A.2.2 27))))) := get_gen 37 ad _ 27 (by decide) _ rfl
theorem eR28 (ad : Nat → Nat) (cy : Nat → ClassId) (A : St) : (cellsR ad cy A)[28]? = some (ad 28, .inl (cy 2, 40, .inr (.inr (.inl (A.2.2 28))))) := get_gen 37 ad _ 28 (by decide) _ rfl
theorem eR29 (ad : Nat → Nat) (cy : Nat → ClassId) (A : St) : (cellsR ad cy A)[29]? = some (ad 29, .inl (cy 4, 4, .inr (.inr (.inr (.inr (fun i => if i < 4 then some (ad (30 + i)) else none)))))) := get_gen 37 ad _ 29 (by decide) _ rfl
theorem eR30 (ad : Nat → Nat) (cy : Nat → ClassId) (A : St) : (cellsR ad cy A)[30]? = some (ad 30, .inl (cy 1, 40, .inr (.inr (.inr (.inl (A.2.1 30)))))) := get_gen 37 ad _ 30 (by decide) _ rfl
theorem eR31 (ad : Nat → Nat) (cy : Nat → ClassId) (A : St) : (cellsR ad cy A)[31]? = some (ad 31, .inl (cy 1, 40, .inr (.inr (.inr (.inl (A.2.1 31)))))) := get_gen 37 ad _ 31 (by decide) _ rfl
theorem eR32 (ad : Nat → Nat) (cy : Nat → ClassId) (A : St) : (cellsR ad cy A)[32]? = some (ad 32, .inl (cy 1, 40, .inr (.inr (.inr (.inl (A.2.1 32)))))) := get_gen 37 ad _ 32 (by decide) _ rfl
theorem eR33 (ad : Nat → Nat) (cy : Nat → ClassId) (A : St) : (cellsR ad cy A)[33]? = some (ad 33, .inl (cy 1, 40, .inr (.inr (.inr (.inl (A.2.1 33)))))) := get_gen 37 ad _ 33 (by decide) _ rfl
theorem eR34 (ad : Nat → Nat) (cy : Nat → ClassId) (A : St) : (cellsR ad cy A)[34]? = some (ad 34, .inl (cy 0, 40, .inl (A.1 34))) := get_gen 37 ad _ 34 (by decide) _ rfl
theorem eR35 (ad : Nat → Nat) (cy : Nat → ClassId) (A : St) : (cellsR ad cy A)[35]? = some (ad 35, .inl (cy 2, 40, .inr (.inr (.inl (A.2.2 35))))) := get_gen 37 ad _ 35 (by decide) _ rfl
theorem eR36 (ad : Nat → Nat) (cy : Nat → ClassId) (A : St) : (cellsR ad cy A)[36]? = some (ad 36, .inl (cy 1, 40, .inr (.inr (.inr (.inl (A.2.1 36)))))) := get_gen 37 ad _ 36 (by decide) _ rfl
theorem sRI (ad : Nat → Nat) (cy : Nat → ClassId) (A : St) (k j n : Nat) (v : Int32) (h : ∀ B : St, ceR ad cy B k = .inl (cy 0, n, .inl (B.1 k))) : (cellsR ad cy A).set k (ad k, .inl (cy 0, n, .inl (upd (A.1 k) j v))) = cellsR ad cy (upI A k j v) := set_gen 37 ad (ceR ad cy) A (upI A k j v) k _ (by rw [h]; simp [upI, up_eq]) (fun i hi => locR ad cy A _ i (by simp [upI, up_ne hi]) (by simp [upI, up_ne hi]) (by simp [upI, up_ne hi]))
theorem wRI (ad : Nat → Nat) (cy : Nat → ClassId) (A : St) (k n : Nat) (f : Nat → Int32) (h : ∀ B : St, ceR ad cy B k = .inl (cy 0, n, .inl (B.1 k))) : (cellsR ad cy A).set k (ad k, .inl (cy 0, n, .inl f)) = cellsR ad cy (rwI A k f) := set_gen 37 ad (ceR ad cy) A (rwI A k f) k _ (by rw [h]; simp [rwI, up_eq]) (fun i hi => locR ad cy A _ i (by simp [rwI, up_ne hi]) (by simp [rwI, up_ne hi]) (by simp [rwI, up_ne hi]))
theorem oRI (ad : Nat → Nat) (cy : Nat → ClassId) (A : St) (k j : Nat) (v : Int32) (e : va_E) (h : ceR ad cy (upI A k j v) k = e) : (cellsR ad cy A).set k (ad k, e) = cellsR ad cy (upI A k j v) := set_gen 37 ad (ceR ad cy) A (upI A k j v) k _ h (fun i hi => locR ad cy A _ i (by simp [upI, up_ne hi]) (by simp [upI, up_ne hi]) (by simp [upI, up_ne hi]))
theorem sRD (ad : Nat → Nat) (cy : Nat → ClassId) (A : St) (k j n : Nat) (v : UInt64) (h : ∀ B : St, ceR ad cy B k = .inl (cy 1, n, .inr (.inr (.inr (.inl (B.2.1 k)))))) : (cellsR ad cy A).set k (ad k, .inl (cy 1, n, .inr (.inr (.inr (.inl (vf_upd (A.2.1 k) j v)))))) = cellsR ad cy (upD A k j v) := set_gen 37 ad (ceR ad cy) A (upD A k j v) k _ (by rw [h]; simp [upD, up_eq]) (fun i hi => locR ad cy A _ i (by simp [upD, up_ne hi]) (by simp [upD, up_ne hi]) (by simp [upD, up_ne hi]))
theorem wRD (ad : Nat → Nat) (cy : Nat → ClassId) (A : St) (k n : Nat) (f : Nat → UInt64) (h : ∀ B : St, ceR ad cy B k = .inl (cy 1, n, .inr (.inr (.inr (.inl (B.2.1 k)))))) : (cellsR ad cy A).set k (ad k, .inl (cy 1, n, .inr (.inr (.inr (.inl f))))) = cellsR ad cy (rwD A k f) := set_gen 37 ad (ceR ad cy) A (rwD A k f) k _ (by rw [h]; simp [rwD, up_eq]) (fun i hi => locR ad cy A _ i (by simp [rwD, up_ne hi]) (by simp [rwD, up_ne hi]) (by simp [rwD, up_ne hi]))
theorem oRD (ad : Nat → Nat) (cy : Nat → ClassId) (A : St) (k j : Nat) (v : UInt64) (e : va_E) (h : ceR ad cy (upD A k j v) k = e) : (cellsR ad cy A).set k (ad k, e) = cellsR ad cy (upD A k j v) := set_gen 37 ad (ceR ad cy) A (upD A k j v) k _ h (fun i hi => locR ad cy A _ i (by simp [upD, up_ne hi]) (by simp [upD, up_ne hi]) (by simp [upD, up_ne hi]))
theorem sRF (ad : Nat → Nat) (cy : Nat → ClassId) (A : St) (k j n : Nat) (v : UInt32) (h : ∀ B : St, ceR ad cy B k = .inl (cy 2, n, .inr (.inr (.inl (B.2.2 k))))) : (cellsR ad cy A).set k (ad k, .inl (cy 2, n, .inr (.inr (.inl (vf_upd (A.2.2 k) j v))))) = cellsR ad cy (upF A k j v) := set_gen 37 ad (ceR ad cy) A (upF A k j v) k _ (by rw [h]; simp [upF, up_eq]) (fun i hi => locR ad cy A _ i (by simp [upF, up_ne hi]) (by simp [upF, up_ne hi]) (by simp [upF, up_ne hi]))
theorem fR8 (ad : Nat → Nat) (cy : Nat → ClassId) (A : St) (w : Nat) (hw : w < 4) : ceR ad cy A (8 + w) = .inl (cy 0, 6, .inl (A.1 (8 + w))) := by
  match w, hw with
  | 0, _ => rfl
  | 1, _ => rfl
  | 2, _ => rfl
  | 3, _ => rfl
theorem eRf8 (ad : Nat → Nat) (cy : Nat → ClassId) (A : St) (w : Nat) (hw : w < 4) : (cellsR ad cy A)[8 + w]? = some (ad (8 + w), .inl (cy 0, 6, .inl (A.1 (8 + w)))) := get_gen 37 ad _ (8 + w) (by omega) _ (fR8 ad cy A w hw)
theorem fR13 (ad : Nat → Nat) (cy : Nat → ClassId) (A : St) (w : Nat) (hw : w < 4) : ceR ad cy A (13 + w) = .inl (cy 0, 6, .inl (A.1 (13 + w))) := by
  match w, hw with
  | 0, _ => rfl
  | 1, _ => rfl
  | 2, _ => rfl
  | 3, _ => rfl
theorem eRf13 (ad : Nat → Nat) (cy : Nat → ClassId) (A : St) (w : Nat) (hw : w < 4) : (cellsR ad cy A)[13 + w]? = some (ad (13 + w), .inl (cy 0, 6, .inl (A.1 (13 + w)))) := get_gen 37 ad _ (13 + w) (by omega) _ (fR13 ad cy A w hw)
theorem fR20 (ad : Nat → Nat) (cy : Nat → ClassId) (A : St) (w : Nat) (hw : w < 4) : ceR ad cy A (20 + w) = .inl (cy 0, 40, .inl (A.1 (20 + w))) := by
  match w, hw with
  | 0, _ => rfl
  | 1, _ => rfl
  | 2, _ => rfl
  | 3, _ => rfl
theorem eRf20 (ad : Nat → Nat) (cy : Nat → ClassId) (A : St) (w : Nat) (hw : w < 4) : (cellsR ad cy A)[20 + w]? = some (ad (20 + w), .inl (cy 0, 40, .inl (A.1 (20 + w)))) := get_gen 37 ad _ (20 + w) (by omega) _ (fR20 ad cy A w hw)
theorem fR25 (ad : Nat → Nat) (cy : Nat → ClassId) (A : St) (w : Nat) (hw : w < 4) : ceR ad cy A (25 + w) = .inl (cy 2, 40, .inr (.inr (.inl (A.2.2 (25 + w))))) := by
  match w, hw with
  | 0, _ => rfl
  | 1, _ => rfl
  | 2, _ => rfl
  | 3, _ => rfl
theorem eRf25 (ad : Nat → Nat) (cy : Nat → ClassId) (A : St) (w : Nat) (hw : w < 4) : (cellsR ad cy A)[25 + w]? = some (ad (25 + w), .inl (cy 2, 40, .inr (.inr (.inl (A.2.2 (25 + w)))))) := get_gen 37 ad _ (25 + w) (by omega) _ (fR25 ad cy A w hw)
theorem fR30 (ad : Nat → Nat) (cy : Nat → ClassId) (A : St) (w : Nat) (hw : w < 4) : ceR ad cy A (30 + w) = .inl (cy 1, 40, .inr (.inr (.inr (.inl (A.2.1 (30 + w)))))) := by
  match w, hw with
  | 0, _ => rfl
  | 1, _ => rfl
  | 2, _ => rfl
  | 3, _ => rfl
theorem eRf30 (ad : Nat → Nat) (cy : Nat → ClassId) (A : St) (w : Nat) (hw : w < 4) : (cellsR ad cy A)[30 + w]? = some (ad (30 + w), .inl (cy 1, 40, .inr (.inr (.inr (.inl (A.2.1 (30 + w))))))) := get_gen 37 ad _ (30 + w) (by omega) _ (fR30 ad cy A w hw)
