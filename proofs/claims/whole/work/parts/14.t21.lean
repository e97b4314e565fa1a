/-! The two forms: a step over two places of the list. -/
/-- the lesser, the greater of two numbers from 0 on -/
theorem pick_min {a b : UInt64} (fa : FP.Core.DFin a) (fb : FP.Core.DFin b) (na : Nn a) (nb : Nn b) : Native.java_lang_Math.nans.pick64 false a b = (if a.toNat ≤ b.toNat then a else b) ∧ Native.java_lang_Math.nans.pick64 true a b = (if a.toNat ≤ b.toNat then b else a) := by
  obtain ⟨m1, m2, m3⟩ := FP.Core.mono_bits fa.ne_nan fb.ne_nan na nb
  have m1' : FP.dcmp a b = some .lt ↔ a.toNat < b.toNat := m1
  have m2' : FP.dcmp a b = some .eq ↔ a.toNat = b.toNat := m2
  have m3' : FP.dcmp a b = some .gt ↔ b.toNat < a.toNat := m3
  unfold Native.java_lang_Math.nans.pick64
  rcases Nat.lt_trichotomy a.toNat b.toNat with z | z | z
  · rw [m1'.mpr z, if_pos (show a.toNat ≤ b.toNat by omega), if_pos (show a.toNat ≤ b.toNat by omega)]
    exact ⟨rfl, rfl⟩
  · have e : a = b := UInt64.toNat_inj.mp z
    subst e
    rw [m2'.mpr rfl, if_pos (show a.toNat ≤ a.toNat from Nat.le_refl _)]
    constructor
    · dsimp only; split <;> rfl
    · dsimp only; split <;> rfl
  · rw [m3'.mpr z, if_neg (show ¬ a.toNat ≤ b.toNat by omega), if_neg (show ¬ a.toNat ≤ b.toNat by omega)]
    exact ⟨rfl, rfl⟩
theorem nn_cmp {a b : UInt64} (fa : FP.Core.DFin a) (fb : FP.Core.DFin b) (na : Nn a) (nb : Nn b) (op : CmpOp) : (Op.cmpValue (FP.dcmp a b) op ≤ 0 ↔ a.toNat ≤ b.toNat) ∧ (0 < Op.cmpValue (FP.dcmp a b) op ↔ b.toNat < a.toNat) ∧ (0 ≤ Op.cmpValue (FP.dcmp a b) op ↔ b.toNat ≤ a.toNat) := by
  obtain ⟨s, Z, hA⟩ := Dv.ofFin fa
  obtain ⟨t, W, hB⟩ := Dv.ofFin fb
  have h1 := hA.nn.mp na
  have h2 := hB.nn.mp nb
  subst h1 h2
  have le1 := hA.bits_le hB
  have le2 := hB.bits_le hA
  unfold Nn at na nb
  rw [Nat.mod_eq_of_lt na, Nat.mod_eq_of_lt nb] at le1
  rw [Nat.mod_eq_of_lt na, Nat.mod_eq_of_lt nb] at le2
  rw [hA.cmp hB, cv_le, cv_gt, cv_ge]
  refine ⟨?_, ?_, ?_⟩
  · show ((Z : Nat) : Int) ≤ ((W : Nat) : Int) ↔ _
    rw [le1]; omega
  · show ((W : Nat) : Int) < ((Z : Nat) : Int) ↔ _
    have : b.toNat < a.toNat ↔ ¬ a.toNat ≤ b.toNat := by omega
    rw [this, le1]; omega
  · show ((W : Nat) : Int) ≤ ((Z : Nat) : Int) ↔ _
    rw [le2]; omega
/-- flag, lesser, first, second, gap -/
abbrev FS : Type := Bool × UInt64 × Int32 × Int32 × UInt64
def mnV (a b : UInt64) : UInt64 := if a.toNat ≤ b.toNat then a else b
def mxV (a b : UInt64) : UInt64 := if a.toNat ≤ b.toNat then b else a
noncomputable def fstep (F : Nat → Int32) (V : Nat → UInt64) (a : Nat) (S : FS) (b : Nat) : FS := @ite _ (F a &&& F b = 0 ∧ (S.1 = false ∨ S.2.1.toNat < (mnV (V a) (V b)).toNat)) (Classical.propDecidable _) (true, mnV (V a) (V b), F a, F b, FP.dsub (mxV (V a) (V b)) (mnV (V a) (V b))) S
noncomputable def fin1 (F : Nat → Int32) (V : Nat → UInt64) (a : Nat) (S : FS) : Nat → FS
  | 0 => S
  | n + 1 => fstep F V a (fin1 F V a S n) (a + 1 + n)
noncomputable def fin2 (F : Nat → Int32) (V : Nat → UInt64) (L : Nat) (S : FS) : Nat → FS
  | 0 => S
  | a + 1 => fin1 F V a (fin2 F V L S a) (L - (a + 1))
