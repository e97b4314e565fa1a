/-! The first states are tied. -/
def iC0 (k : Nat) : Nat → Int32 := match k with
  | 3 => fun j => if j = 7 then 1 else 0
  | 16 => upd (upd (upd (upd (fun _ => 0) 0 6) 1 6) 2 6) 3 6
  | 17 => upd (upd (upd (fun _ => 0) 0 2) 1 60) 2 999
  | 18 => fun j => if j = 7 then 1 else 0
  | 31 => upd (upd (upd (upd (fun _ => 0) 0 6) 1 6) 2 6) 3 6
  | 32 => upd (upd (upd (fun _ => 0) 0 2) 1 60) 2 999
  | 47 => upd (upd (upd (upd (upd (upd (fun _ => 0) 0 (-1)) 1 (-1)) 2 (-1)) 3 (-1)) 4 (-1)) 5 (-1)
  | 48 => upd (upd (upd (upd (upd (upd (fun _ => 0) 0 (-1)) 1 (-1)) 2 (-1)) 3 (-1)) 4 (-1)) 5 (-1)
  | 49 => upd (upd (upd (upd (upd (upd (fun _ => 0) 0 (-1)) 1 (-1)) 2 (-1)) 3 (-1)) 4 (-1)) 5 (-1)
  | 50 => upd (upd (upd (upd (upd (upd (fun _ => 0) 0 (-1)) 1 (-1)) 2 (-1)) 3 (-1)) 4 (-1)) 5 (-1)
  | 56 => fun j => if j = 0 then (-1) else 0
  | 57 => fun j => if j = 0 then (-1) else 0
  | 58 => fun j => if j = 0 then (-1) else 0
  | 59 => fun j => if j = 0 then (-1) else 0
  | _ => fun _ => 0
def stC0 : St := (iC0, fun _ _ => 0, fun _ _ => 0)
def iR0 (k : Nat) : Nat → Int32 := match k with
  | 1 => upd (upd (upd (upd (upd (upd (upd (upd (fun _ => 0) 106 6) 108 6) 110 6) 112 6) 113 2) 114 60) 115 999) 116 1
  | 17 => upd (upd (upd (upd (fun _ => 0) 0 (-1)) 1 (-1)) 2 (-1)) 3 (-1)
  | _ => fun _ => 0
def stR0 : St := (iR0, fun _ _ => 0, fun _ _ => 0)
theorem four {P : Nat → Prop} (h0 : P 0) (h1 : P 1) (h2 : P 2) (h3 : P 3) : ∀ j, j < 4 → P j := fun j hj => by
  have hc : j = 0 ∨ j = 1 ∨ j = 2 ∨ j = 3 := by omega
  rcases hc with rfl | rfl | rfl | rfl
  · exact h0
  · exact h1
  · exact h2
  · exact h3
theorem rel0 : Rel stC0 stR0 := by
  refine ⟨⟨0, by omega, by decide, by decide, fun i hi => absurd hi (by omega), fun i hi => absurd hi (by omega), four (by decide) (by decide) (by decide) (by decide), four (by decide) (by decide) (by decide) (by decide), fun j hj => ?_, by decide, by decide⟩, ⟨by decide, Or.inl (by decide)⟩, fun j hj => ?_, fun s hs => ?_, fun s hs => ?_⟩
  · have hc : j = 0 ∨ j = 1 ∨ j = 2 := by omega
    rcases hc with rfl | rfl | rfl <;> decide
  · have hc : j = 0 ∨ j = 1 ∨ j = 2 ∨ j = 3 ∨ j = 4 ∨ j = 5 ∨ j = 6 ∨ j = 7 := by omega
    rcases hc with rfl | rfl | rfl | rfl | rfl | rfl | rfl | rfl <;> decide
  · revert hs s
    refine four ?_ ?_ ?_ ?_ <;> refine ⟨by decide, by decide, fun p hp => ?_⟩ <;>
    · have hc : p = 0 ∨ p = 1 ∨ p = 2 ∨ p = 3 ∨ p = 4 ∨ p = 5 := by omega
      rcases hc with rfl | rfl | rfl | rfl | rfl | rfl <;> decide
  · revert hs s
    refine four ?_ ?_ ?_ ?_ <;> exact ⟨by decide, by decide, Or.inl (by decide), 0, by omega, by decide, fun _ => rfl, fun i hi => absurd hi (by omega)⟩
