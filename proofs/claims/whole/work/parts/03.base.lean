/-! States: ints, doubles, floats by cell and place. -/
abbrev St : Type := (Nat → Nat → Int32) × (Nat → Nat → UInt64) × (Nat → Nat → UInt32)
def upI (A : St) (k j : Nat) (v : Int32) : St := (va_up A.1 k (upd (A.1 k) j v), A.2)
def upD (A : St) (k j : Nat) (v : UInt64) : St := (A.1, va_up A.2.1 k (vf_upd (A.2.1 k) j v), A.2.2)
def upF (A : St) (k j : Nat) (v : UInt32) : St := (A.1, A.2.1, va_up A.2.2 k (vf_upd (A.2.2 k) j v))
/-- a whole row of ints, of doubles put in -/
def rwI (A : St) (k : Nat) (f : Nat → Int32) : St := (va_up A.1 k f, A.2)
def rwD (A : St) (k : Nat) (f : Nat → UInt64) : St := (A.1, va_up A.2.1 k f, A.2.2)
/-! What stays over a run: addresses, array classes, classes, the addresses that may change, the static tables. -/
abbrev pfF : Type := (Nat → Nat) × (Nat → ClassId) × va_G × (Nat → Prop) × (Nat → Nat)
abbrev fAd (F : pfF) : Nat → Nat := F.1
abbrev fCy (F : pfF) : Nat → ClassId := F.2.1
abbrev fD (F : pfF) : va_G := F.2.2.1
abbrev fA (F : pfF) : Nat → Prop := F.2.2.2.1
abbrev fT (F : pfF) : Nat → Nat := F.2.2.2.2
abbrev pfW : Type := (Nat → Nat) → (Nat → ClassId) → St → va_W
abbrev tysOf (cy : Nat → ClassId) : List (ClassId × FieldType) := [(cy 0, .int), (cy 1, .double), (cy 2, .float), (cy 3, .array .int), (cy 4, .array .double), (cy 5, .array .float), (cy 6, .object "PaperForms$Shelf"), (cy 7, .object "PaperForms$Sheet")]
/-- the static tables -/
def tbN (t : Nat) : Nat := match t with
  | 0 => 7
  | 1 => 7
  | 2 => 6
  | 3 => 3
  | _ => 3
def tbV (t : Nat) : List Int32 := match t with
  | 0 => [0, 0, 1, 1, -32, -1, 0]
  | 1 => [5, 3, 20, 12, 32, 3, 999]
  | 2 => [-1, 0, 0, 1, 2, 0]
  | 3 => [1, 0, 0]
  | _ => [6, 240, 999]
def tb (t j : Nat) : Int32 := (tbV t).getD j 0
def tbNm (t : Nat) : String := match t with
  | 0 => "FACT_LOWEST"
  | 1 => "FACT_HIGHEST"
  | 2 => "KIND_OVER"
  | 3 => "LIMIT_LOWEST"
  | _ => "LIMIT_HIGHEST"
def Fz (F : pfF) (U : State) (H : Heap) : Prop := (∀ t, t < 5 → va_Z "PaperForms" (tbNm t) "[I" (.ref (fT F t)) (fA F) U H ∧ va_T .int (fT F t) (tbN t) (fun j => .int (tb t j)) (fA F) U H) ∧ va_Z "java/lang/Math" "negativeZeroDoubleBits" "J" (.long (-9223372036854775808)) (fA F) U H ∧ va_Nw (.methodLinkNest RX4 26 yX5_isOfKind "PaperForms") U
def Fx (F : pfF) (U : State) (H : Heap) : Prop := va_K (fD F) vwCl (tysOf (fCy F)) U ∧ Fz F U H
def Wd (wl : pfW) (F : pfF) (A : St) (U : State) : Prop := va_P (fD F) vwCl (wl (fAd F) (fCy F) A) U.heap ∧ Fx F U U.heap
theorem Fx.go {F : pfF} {s U : State} {H : Heap} {locs : List Loc} (h : Fx F s s.heap) (hS : va_S (fA F) s.heap H locs) (hU : U.heap = H) (hW : s.WarmedH U.vm) : Fx F U U.heap := by
  obtain ⟨hK, h1, h2, h3⟩ := h
  rw [hU]
  exact ⟨va_K.moved hW.alike hK, fun t ht => ⟨((h1 t ht).1.moved hW.alike).kept hS.2.1, ((h1 t ht).2.moved hW.alike).kept hS.2.1⟩, (h2.moved hW.alike).kept hS.2.1, h3.warmM hW⟩
theorem Fx.calling {F : pfF} {U : State} (g : JFrame) (mk : MethodId) (a : Array Value) (h : Fx F U U.heap) : Fx F (U.calling g mk a) (U.calling g mk a).heap := by
  obtain ⟨hK, h1, h2, h3⟩ := h
  exact ⟨va_K.moved (u := U) (U := U.calling g mk a) (Vm.Alike.refl U.vm) hK, fun t ht => ⟨(h1 t ht).1.moved (u := U) (U := U.calling g mk a) (Vm.Alike.refl U.vm), (h1 t ht).2.moved (u := U) (U := U.calling g mk a) (Vm.Alike.refl U.vm)⟩, h2.moved (u := U) (U := U.calling g mk a) (Vm.Alike.refl U.vm), h3.same rfl (u := U) (U := U.calling g mk a) rfl⟩
theorem Wd.blind (wl : pfW) (F : pfF) (A : St) (vs : List Value) : FrameBlind (va_Pc vs (Wd wl F A)) := fun a U g mk q => ⟨q.1, q.2.1, Fx.calling g mk a q.2.2⟩
/-! The judgement. -/
abbrev pfE : Type := Program × Launch × Jvm.Env × Room × State × MethodId × Array Value × List Frame × Method × Code × (State → Prop) × Nat × pfF
abbrev eP (E : pfE) := E.1
abbrev eL (E : pfE) := E.2.1
abbrev eE (E : pfE) := E.2.2.1
abbrev eR (E : pfE) := E.2.2.2.1
abbrev eS (E : pfE) := E.2.2.2.2.1
abbrev eM (E : pfE) := E.2.2.2.2.2.1
abbrev eV (E : pfE) := E.2.2.2.2.2.2.1
abbrev eB (E : pfE) := E.2.2.2.2.2.2.2.1
abbrev eMe (E : pfE) := E.2.2.2.2.2.2.2.2.1
abbrev eC (E : pfE) := E.2.2.2.2.2.2.2.2.2.1
abbrev eQ (E : pfE) := E.2.2.2.2.2.2.2.2.2.2.1
abbrev eN (E : pfE) := E.2.2.2.2.2.2.2.2.2.2.2.1
abbrev eF (E : pfE) : pfF := E.2.2.2.2.2.2.2.2.2.2.2.2
def GG (wl : pfW) (E : pfE) (A : St) (pc : Nat) (lv : List (Nat × Value)) (st : List Value) : Prop :=
  ∀ (H : Heap) (locs : List Loc) (ls : Array Slot), va_P (fD (eF E)) vwCl (wl (fAd (eF E)) (fCy (eF E)) A) H → va_S (fA (eF E)) (eS E).heap H locs → lv_has ls (eN E) lv → W (eP E) (eL E) (eE E) (eR E) (eS E) (eM E) (eV E) (eB E) (eMe E) (eC E) H locs 0 0 (eQ E) (F0 (eM E) pc ls st)
def CX (wl : pfW) (E : pfE) (cc : ByteArray) (own : String) (rm : Room) (nL : Nat) : Prop :=
  (eP E).tables.exec = Jvm.exec ∧ (eC E).code = cc ∧ (eC E).maxLocals = nL ∧ eN E = nL ∧ (eS E).vm.findClass own = some (eM E).cls ∧ (∀ w ∈ lw_all, w.before (eV E) (eS E) = true) ∧ eR E = rm ∧ Fx (eF E) (eS E) (eS E).heap ∧ ∀ A, va_D (fA (eF E)) (wl (fAd (eF E)) (fCy (eF E)) A)
section
variable {wl : pfW} {E : pfE} {cc : ByteArray} {own : String} {rm : Room} {nL : Nat}
theorem CX.ex (X : CX wl E cc own rm nL) : (eP E).tables.exec = Jvm.exec := X.1
theorem CX.cd (X : CX wl E cc own rm nL) : (eC E).code = cc := X.2.1
theorem CX.ml (X : CX wl E cc own rm nL) : (eC E).maxLocals = nL := X.2.2.1
theorem CX.nl (X : CX wl E cc own rm nL) : eN E = nL := X.2.2.2.1
theorem CX.ow (X : CX wl E cc own rm nL) : (eS E).vm.findClass own = some (eM E).cls := X.2.2.2.2.1
theorem CX.ws (X : CX wl E cc own rm nL) : ∀ w ∈ lw_all, w.before (eV E) (eS E) = true := X.2.2.2.2.2.1
theorem CX.r (X : CX wl E cc own rm nL) : eR E = rm := X.2.2.2.2.2.2.1
theorem CX.fx (X : CX wl E cc own rm nL) : Fx (eF E) (eS E) (eS E).heap := X.2.2.2.2.2.2.2.1
theorem CX.k (X : CX wl E cc own rm nL) : va_K (fD (eF E)) vwCl (tysOf (fCy (eF E))) (eS E) := X.fx.1
theorem CX.d (X : CX wl E cc own rm nL) (A : St) : va_D (fA (eF E)) (wl (fAd (eF E)) (fCy (eF E)) A) := X.2.2.2.2.2.2.2.2 A
end
/-! Guards of the functions that say what a method does. -/
def gI {α : Type} (i : Int32) (n : Nat) (k : Option α) : Option α := if i < 0 ∨ n ≤ i.toNatClampNeg then none else k
def gZ {α : Type} (y : Int32) (k : Option α) : Option α := if y = 0 then none else k
def g64 {α : Type} (r : UInt64) (k : UInt64 → Option α) : Option α := if r &&& 0x7fffffffffffffff ≤ 0x7ff0000000000000 then k r else none
def g32 {α : Type} (r : UInt32) (k : UInt32 → Option α) : Option α := if r &&& 0x7fffffff ≤ 0x7f800000 then k r else none
def gB {α : Type} (b : Bool) (k : Option α) : Option α := if b = true then k else none
def bv {α β : Type} (x : α) (k : α → Option β) : Option β := k x
def cl {α β : Type} (o : Option α) (k : α → Option β) : Option β := match o with
  | some x => k x
  | none => none
def cl2 {α β γ : Type} (o : Option (α × γ)) (k : α → γ → Option β) : Option β := match o with
  | some x => k x.1 x.2
  | none => none
def bI (b : Bool) : Int32 := if b then 1 else 0
section
variable {α β : Type} {out : β}
theorem gI_n {i : Int32} {n : Nat} {k : Option β} (h : gI i n k = some out) : vp_in i n := fun q => by
  unfold gI at h
  rw [if_pos q] at h
  cases h
theorem gI_k {i : Int32} {n : Nat} {k : Option β} (h : gI i n k = some out) : k = some out := by
  have hn := gI_n h
  unfold gI at h
  rwa [if_neg hn] at h
theorem gZ_n {y : Int32} {k : Option β} (h : gZ y k = some out) : ¬ y = 0 := fun q => by
  unfold gZ at h
  rw [if_pos q] at h
  cases h
theorem gZ_k {y : Int32} {k : Option β} (h : gZ y k = some out) : k = some out := by
  have hn := gZ_n h
  unfold gZ at h
  rwa [if_neg hn] at h
theorem g64_n {r : UInt64} {k : UInt64 → Option β} (h : g64 r k = some out) : vf_n64 r := by
  unfold g64 at h
  by_cases q : r &&& 0x7fffffffffffffff ≤ 0x7ff0000000000000
  · exact q
  · rw [if_neg q] at h
    cases h
theorem g64_k {r v : UInt64} {k : UInt64 → Option β} (e : v = r) (h : g64 r k = some out) : k v = some out := by
  have hn : r &&& 0x7fffffffffffffff ≤ 0x7ff0000000000000 := g64_n h
  subst e
  unfold g64 at h
  rwa [if_pos hn] at h
theorem g32_n {r : UInt32} {k : UInt32 → Option β} (h : g32 r k = some out) : vf_n32 r := by
  unfold g32 at h
  by_cases q : r &&& 0x7fffffff ≤ 0x7f800000
  · exact q
  · rw [if_neg q] at h
    cases h
theorem g32_k {r v : UInt32} {k : UInt32 → Option β} (e : v = r) (h : g32 r k = some out) : k v = some out := by
  have hn : r &&& 0x7fffffff ≤ 0x7f800000 := g32_n h
  subst e
  unfold g32 at h
  rwa [if_pos hn] at h
theorem gB_n {b : Bool} {k : Option β} (h : gB b k = some out) : b = true := by
  unfold gB at h
  by_cases q : b = true
  · exact q
  · rw [if_neg q] at h
    cases h
theorem gB_k {b : Bool} {k : Option β} (h : gB b k = some out) : k = some out := by
  have hn := gB_n h
  unfold gB at h
  rwa [if_pos hn] at h
theorem bv_k {x v : α} {k : α → Option β} (e : v = x) (h : bv x k = some out) : k v = some out := by
  subst e
  exact h
theorem cl_k {o : Option α} {k : α → Option β} (h : cl o k = some out) : ∃ x, o = some x ∧ k x = some out := by
  cases o with
  | none => cases h
  | some x => exact ⟨x, rfl, h⟩
theorem if_t {c : Prop} {d : Decidable c} {a b : Option β} (hc : c) (h : (@ite _ c d a b) = some out) : a = some out := by rwa [if_pos hc] at h
theorem if_f {c : Prop} {d : Decidable c} {a b : Option β} (hc : ¬ c) (h : (@ite _ c d a b) = some out) : b = some out := by rwa [if_neg hc] at h
theorem so {a : β} (h : some a = some out) : a = out := Option.some.inj h
theorem cl2_k {γ : Type} {o : Option (α × γ)} {k : α → γ → Option β} (h : cl2 o k = some out) : ∃ x y, o = some (x, y) ∧ k x y = some out := by
  cases o with
  | none => cases h
  | some x => exact ⟨x.1, x.2, rfl, h⟩
theorem vi {i : Int32} {n : Nat} (h : decide (i < 0 ∨ n ≤ i.toNatClampNeg) = false) : vp_in i n := of_decide_eq_false h
theorem vlt {i : Int32} {n : Nat} (h : vp_in i n) : i.toNatClampNeg < n := Nat.not_le.mp fun q => h (Or.inr q)
end
/-! Loops. -/
def lp {σ ρ : Type} (b : σ → Option (σ ⊕ ρ)) : Nat → σ → Option ρ
  | 0, _ => none
  | n + 1, s => match b s with
    | none => none
    | some (.inl s') => lp b n s'
    | some (.inr r) => some r
noncomputable def loop {σ ρ : Type} (b : σ → Option (σ ⊕ ρ)) (s : σ) : Option ρ := @dite _ (∃ r n, lp b n s = some r) (Classical.propDecidable _) (fun h => some h.choose) (fun _ => none)
theorem lp_mono {σ ρ : Type} {b : σ → Option (σ ⊕ ρ)} : ∀ {n m : Nat} {s : σ} {r : ρ}, n ≤ m → lp b n s = some r → lp b m s = some r
  | 0, _, _, _, _, h => by cases h
  | n + 1, 0, _, _, h, _ => absurd h (by omega)
  | n + 1, m + 1, s, r, h, e => by
    unfold lp at e ⊢
    cases hb : b s with
    | none => rw [hb] at e; cases e
    | some x =>
      rw [hb] at e
      cases x with
      | inl s' => exact lp_mono (by omega) e
      | inr r' => exact e
theorem loop_of {σ ρ : Type} {b : σ → Option (σ ⊕ ρ)} {n : Nat} {s : σ} {r : ρ} (h : lp b n s = some r) : loop b s = some r := by
  have hx : ∃ r n, lp b n s = some r := ⟨r, n, h⟩
  unfold loop
  rw [dif_pos hx]
  obtain ⟨m, hm⟩ := hx.choose_spec
  have h1 := lp_mono (Nat.le_max_left n m) h
  have h2 := lp_mono (Nat.le_max_right n m) hm
  exact h2.symm.trans h1
theorem loop_some {σ ρ : Type} {b : σ → Option (σ ⊕ ρ)} {s : σ} {r : ρ} (h : loop b s = some r) : ∃ n, lp b n s = some r := by
  unfold loop at h
  by_cases hx : ∃ r n, lp b n s = some r
  · rw [dif_pos hx] at h
    obtain ⟨m, hm⟩ := hx.choose_spec
    cases h
    exact ⟨m, hm⟩
  · rw [dif_neg hx] at h
    cases h
theorem lp_step {σ ρ : Type} {b : σ → Option (σ ⊕ ρ)} {n : Nat} {s : σ} {r : ρ} (h : lp b (n + 1) s = some r) : ∃ x, b s = some x ∧ ((∃ s', x = .inl s' ∧ lp b n s' = some r) ∨ x = .inr r) := by
  unfold lp at h
  cases hb : b s with
  | none => rw [hb] at h; cases h
  | some x =>
    rw [hb] at h
    cases x with
    | inl s' => exact ⟨_, rfl, Or.inl ⟨s', rfl, h⟩⟩
    | inr r' => cases h; exact ⟨_, rfl, Or.inr rfl⟩
theorem lpl {σ ρ : Type} {b : σ → Option (σ ⊕ ρ)} {n : Nat} {s : σ} {r : ρ} {x : σ ⊕ ρ} (e : .inl s = x) (h : (∃ s', x = .inl s' ∧ lp b n s' = some r) ∨ x = .inr r) : lp b n s = some r := by
  subst e
  rcases h with ⟨s', h1, h2⟩ | h
  · cases h1
    exact h2
  · cases h
theorem lpr {σ ρ : Type} {b : σ → Option (σ ⊕ ρ)} {n : Nat} {r r2 : ρ} {x : σ ⊕ ρ} (e : .inr r2 = x) (h : (∃ s', x = .inl s' ∧ lp b n s' = some r) ∨ x = .inr r) : r2 = r := by
  subst e
  rcases h with ⟨s', h1, h2⟩ | h
  · cases h1
  · cases h
    rfl

theorem G_iconst {wl : pfW} {E : pfE} {cc : ByteArray} {own : String} {rm : Room} {nL : Nat} {A : St} {pc : Nat} {lv : List (Nat × Value)} {rest : List Value} {n : Int} {v : Int32} (X : CX wl E cc own rm nL) (d : decode cc pc = .ok (.iconst n, 1)) (hv : Int32.ofInt n = v) (k : GG wl E A (pc + 1) lv (.int v :: rest)) : GG wl E A pc lv (rest) := fun H locs ls hP hS hl => lv_iconst X.ex X.cd d hv (k H locs ls hP hS hl)
theorem G_bipush {wl : pfW} {E : pfE} {cc : ByteArray} {own : String} {rm : Room} {nL : Nat} {A : St} {pc : Nat} {lv : List (Nat × Value)} {rest : List Value} {n : Int} {v : Int32} (X : CX wl E cc own rm nL) (d : decode cc pc = .ok (.bipush n, 2)) (hv : (Int8.ofInt n).toInt32 = v) (k : GG wl E A (pc + 2) lv (.int v :: rest)) : GG wl E A pc lv (rest) := fun H locs ls hP hS hl => lv_bipush X.ex X.cd d hv (k H locs ls hP hS hl)
theorem G_sipush {wl : pfW} {E : pfE} {cc : ByteArray} {own : String} {rm : Room} {nL : Nat} {A : St} {pc : Nat} {lv : List (Nat × Value)} {rest : List Value} {n : Int} {v : Int32} (X : CX wl E cc own rm nL) (d : decode cc pc = .ok (.sipush n, 3)) (hv : (Int16.ofInt n).toInt32 = v) (k : GG wl E A (pc + 3) lv (.int v :: rest)) : GG wl E A pc lv (rest) := fun H locs ls hP hS hl => lv_sipush X.ex X.cd d hv (k H locs ls hP hS hl)
theorem G_lconst {wl : pfW} {E : pfE} {cc : ByteArray} {own : String} {rm : Room} {nL : Nat} {A : St} {pc : Nat} {lv : List (Nat × Value)} {rest : List Value} {n : Fin 2} {v : Int64} (X : CX wl E cc own rm nL) (d : decode cc pc = .ok (.lconst n, 1)) (hv : Int64.ofNat (n : Nat) = v) (k : GG wl E A (pc + 1) lv (.long v :: rest)) : GG wl E A pc lv (rest) := fun H locs ls hP hS hl => lv_lconst X.ex X.cd d hv (k H locs ls hP hS hl)
theorem G_iadd {wl : pfW} {E : pfE} {cc : ByteArray} {own : String} {rm : Room} {nL : Nat} {A : St} {pc : Nat} {lv : List (Nat × Value)} {rest : List Value} {x y : Int32} (X : CX wl E cc own rm nL) (d : decode cc pc = .ok (.iadd, 1))  (k : GG wl E A (pc + 1) lv (.int (x + y) :: rest)) : GG wl E A pc lv (.int y :: .int x :: rest) := fun H locs ls hP hS hl => lv_iadd X.ex X.cd d  (k H locs ls hP hS hl)
theorem G_isub {wl : pfW} {E : pfE} {cc : ByteArray} {own : String} {rm : Room} {nL : Nat} {A : St} {pc : Nat} {lv : List (Nat × Value)} {rest : List Value} {x y : Int32} (X : CX wl E cc own rm nL) (d : decode cc pc = .ok (.isub, 1))  (k : GG wl E A (pc + 1) lv (.int (x - y) :: rest)) : GG wl E A pc lv (.int y :: .int x :: rest) := fun H locs ls hP hS hl => lv_isub X.ex X.cd d  (k H locs ls hP hS hl)
theorem G_imul {wl : pfW} {E : pfE} {cc : ByteArray} {own : String} {rm : Room} {nL : Nat} {A : St} {pc : Nat} {lv : List (Nat × Value)} {rest : List Value} {x y : Int32} (X : CX wl E cc own rm nL) (d : decode cc pc = .ok (.imul, 1))  (k : GG wl E A (pc + 1) lv (.int (x * y) :: rest)) : GG wl E A pc lv (.int y :: .int x :: rest) := fun H locs ls hP hS hl => lv_imul X.ex X.cd d  (k H locs ls hP hS hl)
theorem G_iand {wl : pfW} {E : pfE} {cc : ByteArray} {own : String} {rm : Room} {nL : Nat} {A : St} {pc : Nat} {lv : List (Nat × Value)} {rest : List Value} {x y : Int32} (X : CX wl E cc own rm nL) (d : decode cc pc = .ok (.iand, 1))  (k : GG wl E A (pc + 1) lv (.int (x &&& y) :: rest)) : GG wl E A pc lv (.int y :: .int x :: rest) := fun H locs ls hP hS hl => lv_iand X.ex X.cd d  (k H locs ls hP hS hl)
theorem G_ior {wl : pfW} {E : pfE} {cc : ByteArray} {own : String} {rm : Room} {nL : Nat} {A : St} {pc : Nat} {lv : List (Nat × Value)} {rest : List Value} {x y : Int32} (X : CX wl E cc own rm nL) (d : decode cc pc = .ok (.ior, 1))  (k : GG wl E A (pc + 1) lv (.int (x ||| y) :: rest)) : GG wl E A pc lv (.int y :: .int x :: rest) := fun H locs ls hP hS hl => lv_ior X.ex X.cd d  (k H locs ls hP hS hl)
theorem G_ixor {wl : pfW} {E : pfE} {cc : ByteArray} {own : String} {rm : Room} {nL : Nat} {A : St} {pc : Nat} {lv : List (Nat × Value)} {rest : List Value} {x y : Int32} (X : CX wl E cc own rm nL) (d : decode cc pc = .ok (.ixor, 1))  (k : GG wl E A (pc + 1) lv (.int (x ^^^ y) :: rest)) : GG wl E A pc lv (.int y :: .int x :: rest) := fun H locs ls hP hS hl => lv_ixor X.ex X.cd d  (k H locs ls hP hS hl)
theorem G_ishl {wl : pfW} {E : pfE} {cc : ByteArray} {own : String} {rm : Room} {nL : Nat} {A : St} {pc : Nat} {lv : List (Nat × Value)} {rest : List Value} {x y : Int32} (X : CX wl E cc own rm nL) (d : decode cc pc = .ok (.ishl, 1))  (k : GG wl E A (pc + 1) lv (.int (x <<< (y &&& 31)) :: rest)) : GG wl E A pc lv (.int y :: .int x :: rest) := fun H locs ls hP hS hl => lv_ishl X.ex X.cd d  (k H locs ls hP hS hl)
theorem G_ishr {wl : pfW} {E : pfE} {cc : ByteArray} {own : String} {rm : Room} {nL : Nat} {A : St} {pc : Nat} {lv : List (Nat × Value)} {rest : List Value} {x y : Int32} (X : CX wl E cc own rm nL) (d : decode cc pc = .ok (.ishr, 1))  (k : GG wl E A (pc + 1) lv (.int (x >>> (y &&& 31)) :: rest)) : GG wl E A pc lv (.int y :: .int x :: rest) := fun H locs ls hP hS hl => lv_ishr X.ex X.cd d  (k H locs ls hP hS hl)
theorem G_ladd {wl : pfW} {E : pfE} {cc : ByteArray} {own : String} {rm : Room} {nL : Nat} {A : St} {pc : Nat} {lv : List (Nat × Value)} {rest : List Value} {x y : Int64} (X : CX wl E cc own rm nL) (d : decode cc pc = .ok (.ladd, 1))  (k : GG wl E A (pc + 1) lv (.long (x + y) :: rest)) : GG wl E A pc lv (.long y :: .long x :: rest) := fun H locs ls hP hS hl => lv_ladd X.ex X.cd d  (k H locs ls hP hS hl)
theorem G_lsub {wl : pfW} {E : pfE} {cc : ByteArray} {own : String} {rm : Room} {nL : Nat} {A : St} {pc : Nat} {lv : List (Nat × Value)} {rest : List Value} {x y : Int64} (X : CX wl E cc own rm nL) (d : decode cc pc = .ok (.lsub, 1))  (k : GG wl E A (pc + 1) lv (.long (x - y) :: rest)) : GG wl E A pc lv (.long y :: .long x :: rest) := fun H locs ls hP hS hl => lv_lsub X.ex X.cd d  (k H locs ls hP hS hl)
theorem G_land {wl : pfW} {E : pfE} {cc : ByteArray} {own : String} {rm : Room} {nL : Nat} {A : St} {pc : Nat} {lv : List (Nat × Value)} {rest : List Value} {x y : Int64} (X : CX wl E cc own rm nL) (d : decode cc pc = .ok (.land, 1))  (k : GG wl E A (pc + 1) lv (.long (x &&& y) :: rest)) : GG wl E A pc lv (.long y :: .long x :: rest) := fun H locs ls hP hS hl => lv_land X.ex X.cd d  (k H locs ls hP hS hl)
theorem G_lor {wl : pfW} {E : pfE} {cc : ByteArray} {own : String} {rm : Room} {nL : Nat} {A : St} {pc : Nat} {lv : List (Nat × Value)} {rest : List Value} {x y : Int64} (X : CX wl E cc own rm nL) (d : decode cc pc = .ok (.lor, 1))  (k : GG wl E A (pc + 1) lv (.long (x ||| y) :: rest)) : GG wl E A pc lv (.long y :: .long x :: rest) := fun H locs ls hP hS hl => lv_lor X.ex X.cd d  (k H locs ls hP hS hl)
theorem G_idiv {wl : pfW} {E : pfE} {cc : ByteArray} {own : String} {rm : Room} {nL : Nat} {A : St} {pc : Nat} {lv : List (Nat × Value)} {rest : List Value} {x y : Int32} (X : CX wl E cc own rm nL) (d : decode cc pc = .ok (.idiv, 1)) (hne : ¬ y = 0) (k : GG wl E A (pc + 1) lv (.int (x / y) :: rest)) : GG wl E A pc lv (.int y :: .int x :: rest) := fun H locs ls hP hS hl => lv_idiv X.ex X.cd d hne (k H locs ls hP hS hl)
theorem G_irem {wl : pfW} {E : pfE} {cc : ByteArray} {own : String} {rm : Room} {nL : Nat} {A : St} {pc : Nat} {lv : List (Nat × Value)} {rest : List Value} {x y : Int32} (X : CX wl E cc own rm nL) (d : decode cc pc = .ok (.irem, 1)) (hne : ¬ y = 0) (k : GG wl E A (pc + 1) lv (.int (x - x / y * y) :: rest)) : GG wl E A pc lv (.int y :: .int x :: rest) := fun H locs ls hP hS hl => lv_irem X.ex X.cd d hne (k H locs ls hP hS hl)
theorem G_iushr {wl : pfW} {E : pfE} {cc : ByteArray} {own : String} {rm : Room} {nL : Nat} {A : St} {pc : Nat} {lv : List (Nat × Value)} {rest : List Value} {x y v : Int32} (X : CX wl E cc own rm nL) (d : decode cc pc = .ok (.iushr, 1)) (hv : (x.toUInt32 >>> (y.toUInt32 &&& Int32.toUInt32 31)).toInt32 = v) (k : GG wl E A (pc + 1) lv (.int v :: rest)) : GG wl E A pc lv (.int y :: .int x :: rest) := fun H locs ls hP hS hl => lv_iushr X.ex X.cd d hv (k H locs ls hP hS hl)
theorem G_lshl {wl : pfW} {E : pfE} {cc : ByteArray} {own : String} {rm : Room} {nL : Nat} {A : St} {pc : Nat} {lv : List (Nat × Value)} {rest : List Value} {x v : Int64} {y : Int32} (X : CX wl E cc own rm nL) (d : decode cc pc = .ok (.lshl, 1)) (hv : x <<< (y.toInt64 &&& 63) = v) (k : GG wl E A (pc + 1) lv (.long v :: rest)) : GG wl E A pc lv (.int y :: .long x :: rest) := fun H locs ls hP hS hl => lv_lshl X.ex X.cd d hv (k H locs ls hP hS hl)
theorem G_i2l {wl : pfW} {E : pfE} {cc : ByteArray} {own : String} {rm : Room} {nL : Nat} {A : St} {pc : Nat} {lv : List (Nat × Value)} {rest : List Value} {x : Int32} {v : Int64} (X : CX wl E cc own rm nL) (d : decode cc pc = .ok (.i2l, 1)) (hv : x.toInt64 = v) (k : GG wl E A (pc + 1) lv (.long v :: rest)) : GG wl E A pc lv (.int x :: rest) := fun H locs ls hP hS hl => lv_i2l X.ex X.cd d hv (k H locs ls hP hS hl)
theorem G_l2i {wl : pfW} {E : pfE} {cc : ByteArray} {own : String} {rm : Room} {nL : Nat} {A : St} {pc : Nat} {lv : List (Nat × Value)} {rest : List Value} {x : Int64} {v : Int32} (X : CX wl E cc own rm nL) (d : decode cc pc = .ok (.l2i, 1)) (hv : x.toInt32 = v) (k : GG wl E A (pc + 1) lv (.int v :: rest)) : GG wl E A pc lv (.long x :: rest) := fun H locs ls hP hS hl => lv_l2i X.ex X.cd d hv (k H locs ls hP hS hl)
theorem G_lcmp {wl : pfW} {E : pfE} {cc : ByteArray} {own : String} {rm : Room} {nL : Nat} {A : St} {pc : Nat} {lv : List (Nat × Value)} {rest : List Value} {x y : Int64} (X : CX wl E cc own rm nL) (d : decode cc pc = .ok (.lcmp, 1))  (k : GG wl E A (pc + 1) lv (.int (lg_cmp x y) :: rest)) : GG wl E A pc lv (.long y :: .long x :: rest) := fun H locs ls hP hS hl => W.lcmp X.ex X.cd d  (k H locs ls hP hS hl)
theorem G_i2f {wl : pfW} {E : pfE} {cc : ByteArray} {own : String} {rm : Room} {nL : Nat} {A : St} {pc : Nat} {lv : List (Nat × Value)} {rest : List Value} {x : Int32} (X : CX wl E cc own rm nL) (d : decode cc pc = .ok (.i2f, 1))  (k : GG wl E A (pc + 1) lv (.float (FP.i2f x) :: rest)) : GG wl E A pc lv (.int x :: rest) := fun H locs ls hP hS hl => lv_i2f X.ex X.cd d  (k H locs ls hP hS hl)
theorem G_i2d {wl : pfW} {E : pfE} {cc : ByteArray} {own : String} {rm : Room} {nL : Nat} {A : St} {pc : Nat} {lv : List (Nat × Value)} {rest : List Value} {x : Int32} (X : CX wl E cc own rm nL) (d : decode cc pc = .ok (.i2d, 1))  (k : GG wl E A (pc + 1) lv (.double (FP.i2d x) :: rest)) : GG wl E A pc lv (.int x :: rest) := fun H locs ls hP hS hl => lv_i2d X.ex X.cd d  (k H locs ls hP hS hl)
theorem G_l2d {wl : pfW} {E : pfE} {cc : ByteArray} {own : String} {rm : Room} {nL : Nat} {A : St} {pc : Nat} {lv : List (Nat × Value)} {rest : List Value} {x : Int64} (X : CX wl E cc own rm nL) (d : decode cc pc = .ok (.l2d, 1))  (k : GG wl E A (pc + 1) lv (.double (FP.l2d x) :: rest)) : GG wl E A pc lv (.long x :: rest) := fun H locs ls hP hS hl => lv_l2d X.ex X.cd d  (k H locs ls hP hS hl)
theorem G_f2i {wl : pfW} {E : pfE} {cc : ByteArray} {own : String} {rm : Room} {nL : Nat} {A : St} {pc : Nat} {lv : List (Nat × Value)} {rest : List Value} {x : UInt32} (X : CX wl E cc own rm nL) (d : decode cc pc = .ok (.f2i, 1))  (k : GG wl E A (pc + 1) lv (.int (FP.f2i x) :: rest)) : GG wl E A pc lv (.float x :: rest) := fun H locs ls hP hS hl => lv_f2i X.ex X.cd d  (k H locs ls hP hS hl)
theorem G_d2i {wl : pfW} {E : pfE} {cc : ByteArray} {own : String} {rm : Room} {nL : Nat} {A : St} {pc : Nat} {lv : List (Nat × Value)} {rest : List Value} {x : UInt64} (X : CX wl E cc own rm nL) (d : decode cc pc = .ok (.d2i, 1))  (k : GG wl E A (pc + 1) lv (.int (FP.d2i x) :: rest)) : GG wl E A pc lv (.double x :: rest) := fun H locs ls hP hS hl => lv_d2i X.ex X.cd d  (k H locs ls hP hS hl)
theorem G_d2l {wl : pfW} {E : pfE} {cc : ByteArray} {own : String} {rm : Room} {nL : Nat} {A : St} {pc : Nat} {lv : List (Nat × Value)} {rest : List Value} {x : UInt64} (X : CX wl E cc own rm nL) (d : decode cc pc = .ok (.d2l, 1))  (k : GG wl E A (pc + 1) lv (.long (FP.d2l x) :: rest)) : GG wl E A pc lv (.double x :: rest) := fun H locs ls hP hS hl => lv_d2l X.ex X.cd d  (k H locs ls hP hS hl)
theorem G_dneg {wl : pfW} {E : pfE} {cc : ByteArray} {own : String} {rm : Room} {nL : Nat} {A : St} {pc : Nat} {lv : List (Nat × Value)} {rest : List Value} {x : UInt64} (X : CX wl E cc own rm nL) (d : decode cc pc = .ok (.dneg, 1))  (k : GG wl E A (pc + 1) lv (.double (FP.dneg x) :: rest)) : GG wl E A pc lv (.double x :: rest) := fun H locs ls hP hS hl => lv_dneg X.ex X.cd d  (k H locs ls hP hS hl)
theorem G_dcmp {wl : pfW} {E : pfE} {cc : ByteArray} {own : String} {rm : Room} {nL : Nat} {A : St} {pc : Nat} {lv : List (Nat × Value)} {rest : List Value} {x y : UInt64} {op : CmpOp} (X : CX wl E cc own rm nL) (d : decode cc pc = .ok (.dcmp op, 1))  (k : GG wl E A (pc + 1) lv (.int (Op.cmpValue (FP.dcmp x y) op) :: rest)) : GG wl E A pc lv (.double y :: .double x :: rest) := fun H locs ls hP hS hl => lv_dcmp X.ex X.cd d  (k H locs ls hP hS hl)
theorem G_fcmp {wl : pfW} {E : pfE} {cc : ByteArray} {own : String} {rm : Room} {nL : Nat} {A : St} {pc : Nat} {lv : List (Nat × Value)} {rest : List Value} {x y : UInt32} {op : CmpOp} (X : CX wl E cc own rm nL) (d : decode cc pc = .ok (.fcmp op, 1))  (k : GG wl E A (pc + 1) lv (.int (Op.cmpValue (FP.fcmp x y) op) :: rest)) : GG wl E A pc lv (.float y :: .float x :: rest) := fun H locs ls hP hS hl => lv_fcmp X.ex X.cd d  (k H locs ls hP hS hl)
theorem G_f2d {wl : pfW} {E : pfE} {cc : ByteArray} {own : String} {rm : Room} {nL : Nat} {A : St} {pc : Nat} {lv : List (Nat × Value)} {rest : List Value} {x : UInt32} (X : CX wl E cc own rm nL) (d : decode cc pc = .ok (.f2d, 1)) (hne : vf_n64 (FP.f2d x)) (k : GG wl E A (pc + 1) lv (.double (FP.f2d x) :: rest)) : GG wl E A pc lv (.float x :: rest) := fun H locs ls hP hS hl => lv_f2d X.ex X.cd d hne (k H locs ls hP hS hl)
theorem G_d2f {wl : pfW} {E : pfE} {cc : ByteArray} {own : String} {rm : Room} {nL : Nat} {A : St} {pc : Nat} {lv : List (Nat × Value)} {rest : List Value} {x : UInt64} (X : CX wl E cc own rm nL) (d : decode cc pc = .ok (.d2f, 1)) (hne : vf_n32 (FP.d2f x)) (k : GG wl E A (pc + 1) lv (.float (FP.d2f x) :: rest)) : GG wl E A pc lv (.double x :: rest) := fun H locs ls hP hS hl => lv_d2f X.ex X.cd d hne (k H locs ls hP hS hl)
theorem G_dadd {wl : pfW} {E : pfE} {cc : ByteArray} {own : String} {rm : Room} {nL : Nat} {A : St} {pc : Nat} {lv : List (Nat × Value)} {rest : List Value} {x y : UInt64} (X : CX wl E cc own rm nL) (d : decode cc pc = .ok (.dadd, 1)) (hne : vf_n64 (FP.dadd x y)) (k : GG wl E A (pc + 1) lv (.double (FP.dadd x y) :: rest)) : GG wl E A pc lv (.double y :: .double x :: rest) := fun H locs ls hP hS hl => lv_dadd X.ex X.cd d hne (k H locs ls hP hS hl)
theorem G_dsub {wl : pfW} {E : pfE} {cc : ByteArray} {own : String} {rm : Room} {nL : Nat} {A : St} {pc : Nat} {lv : List (Nat × Value)} {rest : List Value} {x y : UInt64} (X : CX wl E cc own rm nL) (d : decode cc pc = .ok (.dsub, 1)) (hne : vf_n64 (FP.dsub x y)) (k : GG wl E A (pc + 1) lv (.double (FP.dsub x y) :: rest)) : GG wl E A pc lv (.double y :: .double x :: rest) := fun H locs ls hP hS hl => lv_dsub X.ex X.cd d hne (k H locs ls hP hS hl)
theorem G_dmul {wl : pfW} {E : pfE} {cc : ByteArray} {own : String} {rm : Room} {nL : Nat} {A : St} {pc : Nat} {lv : List (Nat × Value)} {rest : List Value} {x y : UInt64} (X : CX wl E cc own rm nL) (d : decode cc pc = .ok (.dmul, 1)) (hne : vf_n64 (FP.dmul x y)) (k : GG wl E A (pc + 1) lv (.double (FP.dmul x y) :: rest)) : GG wl E A pc lv (.double y :: .double x :: rest) := fun H locs ls hP hS hl => lv_dmul X.ex X.cd d hne (k H locs ls hP hS hl)
theorem G_ddiv {wl : pfW} {E : pfE} {cc : ByteArray} {own : String} {rm : Room} {nL : Nat} {A : St} {pc : Nat} {lv : List (Nat × Value)} {rest : List Value} {x y : UInt64} (X : CX wl E cc own rm nL) (d : decode cc pc = .ok (.ddiv, 1)) (hne : vf_n64 (FP.ddiv x y)) (k : GG wl E A (pc + 1) lv (.double (FP.ddiv x y) :: rest)) : GG wl E A pc lv (.double y :: .double x :: rest) := fun H locs ls hP hS hl => lv_ddiv X.ex X.cd d hne (k H locs ls hP hS hl)
theorem G_drem {wl : pfW} {E : pfE} {cc : ByteArray} {own : String} {rm : Room} {nL : Nat} {A : St} {pc : Nat} {lv : List (Nat × Value)} {rest : List Value} {x y : UInt64} (X : CX wl E cc own rm nL) (d : decode cc pc = .ok (.drem, 1)) (hne : vf_n64 (FP.drem x y)) (k : GG wl E A (pc + 1) lv (.double (FP.drem x y) :: rest)) : GG wl E A pc lv (.double y :: .double x :: rest) := fun H locs ls hP hS hl => lv_drem X.ex X.cd d hne (k H locs ls hP hS hl)
theorem G_fadd {wl : pfW} {E : pfE} {cc : ByteArray} {own : String} {rm : Room} {nL : Nat} {A : St} {pc : Nat} {lv : List (Nat × Value)} {rest : List Value} {x y : UInt32} (X : CX wl E cc own rm nL) (d : decode cc pc = .ok (.fadd, 1)) (hne : vf_n32 (FP.fadd x y)) (k : GG wl E A (pc + 1) lv (.float (FP.fadd x y) :: rest)) : GG wl E A pc lv (.float y :: .float x :: rest) := fun H locs ls hP hS hl => lv_fadd X.ex X.cd d hne (k H locs ls hP hS hl)
theorem G_fsub {wl : pfW} {E : pfE} {cc : ByteArray} {own : String} {rm : Room} {nL : Nat} {A : St} {pc : Nat} {lv : List (Nat × Value)} {rest : List Value} {x y : UInt32} (X : CX wl E cc own rm nL) (d : decode cc pc = .ok (.fsub, 1)) (hne : vf_n32 (FP.fsub x y)) (k : GG wl E A (pc + 1) lv (.float (FP.fsub x y) :: rest)) : GG wl E A pc lv (.float y :: .float x :: rest) := fun H locs ls hP hS hl => lv_fsub X.ex X.cd d hne (k H locs ls hP hS hl)
theorem G_fmul {wl : pfW} {E : pfE} {cc : ByteArray} {own : String} {rm : Room} {nL : Nat} {A : St} {pc : Nat} {lv : List (Nat × Value)} {rest : List Value} {x y : UInt32} (X : CX wl E cc own rm nL) (d : decode cc pc = .ok (.fmul, 1)) (hne : vf_n32 (FP.fmul x y)) (k : GG wl E A (pc + 1) lv (.float (FP.fmul x y) :: rest)) : GG wl E A pc lv (.float y :: .float x :: rest) := fun H locs ls hP hS hl => lv_fmul X.ex X.cd d hne (k H locs ls hP hS hl)
theorem G_fdiv {wl : pfW} {E : pfE} {cc : ByteArray} {own : String} {rm : Room} {nL : Nat} {A : St} {pc : Nat} {lv : List (Nat × Value)} {rest : List Value} {x y : UInt32} (X : CX wl E cc own rm nL) (d : decode cc pc = .ok (.fdiv, 1)) (hne : vf_n32 (FP.fdiv x y)) (k : GG wl E A (pc + 1) lv (.float (FP.fdiv x y) :: rest)) : GG wl E A pc lv (.float y :: .float x :: rest) := fun H locs ls hP hS hl => lv_fdiv X.ex X.cd d hne (k H locs ls hP hS hl)
theorem G_frem {wl : pfW} {E : pfE} {cc : ByteArray} {own : String} {rm : Room} {nL : Nat} {A : St} {pc : Nat} {lv : List (Nat × Value)} {rest : List Value} {x y : UInt32} (X : CX wl E cc own rm nL) (d : decode cc pc = .ok (.frem, 1)) (hne : vf_n32 (FP.frem x y)) (k : GG wl E A (pc + 1) lv (.float (FP.frem x y) :: rest)) : GG wl E A pc lv (.float y :: .float x :: rest) := fun H locs ls hP hS hl => lv_frem X.ex X.cd d hne (k H locs ls hP hS hl)
theorem G_dconst0 {wl : pfW} {E : pfE} {cc : ByteArray} {own : String} {rm : Room} {nL : Nat} {A : St} {pc : Nat} {lv : List (Nat × Value)} {rest : List Value}  (X : CX wl E cc own rm nL) (d : decode cc pc = .ok (.dconst 0, 1))  (k : GG wl E A (pc + 1) lv (.double FP.dconst0 :: rest)) : GG wl E A pc lv (rest) := fun H locs ls hP hS hl => lv_dconst0 X.ex X.cd d  (k H locs ls hP hS hl)
theorem G_dconst1 {wl : pfW} {E : pfE} {cc : ByteArray} {own : String} {rm : Room} {nL : Nat} {A : St} {pc : Nat} {lv : List (Nat × Value)} {rest : List Value}  (X : CX wl E cc own rm nL) (d : decode cc pc = .ok (.dconst 1, 1))  (k : GG wl E A (pc + 1) lv (.double FP.dconst1 :: rest)) : GG wl E A pc lv (rest) := fun H locs ls hP hS hl => lv_dconst1 X.ex X.cd d  (k H locs ls hP hS hl)
theorem G_fconst0 {wl : pfW} {E : pfE} {cc : ByteArray} {own : String} {rm : Room} {nL : Nat} {A : St} {pc : Nat} {lv : List (Nat × Value)} {rest : List Value}  (X : CX wl E cc own rm nL) (d : decode cc pc = .ok (.fconst 0, 1))  (k : GG wl E A (pc + 1) lv (.float FP.fconst0 :: rest)) : GG wl E A pc lv (rest) := fun H locs ls hP hS hl => lv_fconst0 X.ex X.cd d  (k H locs ls hP hS hl)
theorem G_dup {wl : pfW} {E : pfE} {cc : ByteArray} {own : String} {rm : Room} {nL : Nat} {A : St} {pc : Nat} {lv : List (Nat × Value)} {rest : List Value} {va : Value} (X : CX wl E cc own rm nL) (d : decode cc pc = .ok (.dup, 1)) (hva : va.category = 1) (k : GG wl E A (pc + 1) lv (va :: va :: rest)) : GG wl E A pc lv (va :: rest) := fun H locs ls hP hS hl => lv_dup X.ex X.cd d hva (k H locs ls hP hS hl)
theorem G_dup2 {wl : pfW} {E : pfE} {cc : ByteArray} {own : String} {rm : Room} {nL : Nat} {A : St} {pc : Nat} {lv : List (Nat × Value)} {rest : List Value} {va vb : Value} (X : CX wl E cc own rm nL) (d : decode cc pc = .ok (.dup2, 1)) (hva : va.category = 1) (hvb : vb.category = 1) (k : GG wl E A (pc + 1) lv (va :: vb :: va :: vb :: rest)) : GG wl E A pc lv (va :: vb :: rest) := fun H locs ls hP hS hl => lv_dup2_11 X.ex X.cd d hva hvb (k H locs ls hP hS hl)
theorem G_pop {wl : pfW} {E : pfE} {cc : ByteArray} {own : String} {rm : Room} {nL : Nat} {A : St} {pc : Nat} {lv : List (Nat × Value)} {rest : List Value} {va : Value} (X : CX wl E cc own rm nL) (d : decode cc pc = .ok (.pop, 1)) (hva : va.category = 1) (k : GG wl E A (pc + 1) lv (rest)) : GG wl E A pc lv (va :: rest) := fun H locs ls hP hS hl => lv_pop X.ex X.cd d hva (k H locs ls hP hS hl)
theorem G_iload_n {wl : pfW} {E : pfE} {cc : ByteArray} {own : String} {rm : Room} {nL : Nat} {A : St} {pc : Nat} {lv : List (Nat × Value)} {rest : List Value} {n : Fin 4} {i : Nat} {x : Int32} (X : CX wl E cc own rm nL) (d : decode cc pc = .ok (.iload_n n, 1)) (hi : (n : Nat) = i) (q : Nat) (hq : lv[q]? = some (i, .int x)) (k : GG wl E A (pc + 1) lv (.int x :: rest)) : GG wl E A pc lv rest := fun H locs ls hP hS hl => lv_iload_n X.ex X.cd d hi (lv_at hl q hq) (k H locs ls hP hS hl)
theorem G_iload {wl : pfW} {E : pfE} {cc : ByteArray} {own : String} {rm : Room} {nL : Nat} {A : St} {pc : Nat} {lv : List (Nat × Value)} {rest : List Value} {i : Nat} {x : Int32} (X : CX wl E cc own rm nL) (d : decode cc pc = .ok (.iload i, 2)) (q : Nat) (hq : lv[q]? = some (i, .int x)) (k : GG wl E A (pc + 2) lv (.int x :: rest)) : GG wl E A pc lv rest := fun H locs ls hP hS hl => lv_iload X.ex X.cd d (lv_at hl q hq) (k H locs ls hP hS hl)
theorem G_istore_n {wl : pfW} {E : pfE} {cc : ByteArray} {own : String} {rm : Room} {nL : Nat} {A : St} {pc : Nat} {lv : List (Nat × Value)} {rest : List Value} {n : Fin 4} {i : Nat} {x : Int32} {lv2 : List (Nat × Value)} (X : CX wl E cc own rm nL) (d : decode cc pc = .ok (.istore_n n, 1)) (hi : (n : Nat) = i) (hn : i < nL) (hv : (i, Value.int x) :: lv.filter (fun q => !(q.1 == i) && !(q.1 + 1 == i && q.2.category == 2)) = lv2) (k : GG wl E A (pc + 1) lv2 rest) : GG wl E A pc lv (.int x :: rest) := fun H locs ls hP hS hl => lv_istore_n X.ex X.cd d hi hl (by rw [X.nl]; exact hn) hv (fun ls hl => k H locs ls hP hS hl)
theorem G_istore {wl : pfW} {E : pfE} {cc : ByteArray} {own : String} {rm : Room} {nL : Nat} {A : St} {pc : Nat} {lv : List (Nat × Value)} {rest : List Value} {i : Nat} {x : Int32} {lv2 : List (Nat × Value)} (X : CX wl E cc own rm nL) (d : decode cc pc = .ok (.istore i, 2)) (hn : i < nL) (hv : (i, Value.int x) :: lv.filter (fun q => !(q.1 == i) && !(q.1 + 1 == i && q.2.category == 2)) = lv2) (k : GG wl E A (pc + 2) lv2 rest) : GG wl E A pc lv (.int x :: rest) := fun H locs ls hP hS hl => lv_istore X.ex X.cd d hl (by rw [X.nl]; exact hn) hv (fun ls hl => k H locs ls hP hS hl)
theorem G_lload_n {wl : pfW} {E : pfE} {cc : ByteArray} {own : String} {rm : Room} {nL : Nat} {A : St} {pc : Nat} {lv : List (Nat × Value)} {rest : List Value} {n : Fin 4} {i : Nat} {x : Int64} (X : CX wl E cc own rm nL) (d : decode cc pc = .ok (.lload_n n, 1)) (hi : (n : Nat) = i) (q : Nat) (hq : lv[q]? = some (i, .long x)) (k : GG wl E A (pc + 1) lv (.long x :: rest)) : GG wl E A pc lv rest := fun H locs ls hP hS hl => lv_lload_n X.ex X.cd d hi (lv_at hl q hq) (k H locs ls hP hS hl)
theorem G_lload {wl : pfW} {E : pfE} {cc : ByteArray} {own : String} {rm : Room} {nL : Nat} {A : St} {pc : Nat} {lv : List (Nat × Value)} {rest : List Value} {i : Nat} {x : Int64} (X : CX wl E cc own rm nL) (d : decode cc pc = .ok (.lload i, 2)) (q : Nat) (hq : lv[q]? = some (i, .long x)) (k : GG wl E A (pc + 2) lv (.long x :: rest)) : GG wl E A pc lv rest := fun H locs ls hP hS hl => lv_lload X.ex X.cd d (lv_at hl q hq) (k H locs ls hP hS hl)
theorem G_lstore_n {wl : pfW} {E : pfE} {cc : ByteArray} {own : String} {rm : Room} {nL : Nat} {A : St} {pc : Nat} {lv : List (Nat × Value)} {rest : List Value} {n : Fin 4} {i : Nat} {x : Int64} {lv2 : List (Nat × Value)} (X : CX wl E cc own rm nL) (d : decode cc pc = .ok (.lstore_n n, 1)) (hi : (n : Nat) = i) (hn : i + 1 < nL) (hv : (i, Value.long x) :: lv.filter (fun q => !(q.1 == i) && (!(q.1 == i + 1) && !(q.1 + 1 == i && q.2.category == 2))) = lv2) (k : GG wl E A (pc + 1) lv2 rest) : GG wl E A pc lv (.long x :: rest) := fun H locs ls hP hS hl => lv_lstore_n X.ex X.cd d hi hl (by rw [X.nl]; exact hn) hv (fun ls hl => k H locs ls hP hS hl)
theorem G_lstore {wl : pfW} {E : pfE} {cc : ByteArray} {own : String} {rm : Room} {nL : Nat} {A : St} {pc : Nat} {lv : List (Nat × Value)} {rest : List Value} {i : Nat} {x : Int64} {lv2 : List (Nat × Value)} (X : CX wl E cc own rm nL) (d : decode cc pc = .ok (.lstore i, 2)) (hn : i + 1 < nL) (hv : (i, Value.long x) :: lv.filter (fun q => !(q.1 == i) && (!(q.1 == i + 1) && !(q.1 + 1 == i && q.2.category == 2))) = lv2) (k : GG wl E A (pc + 2) lv2 rest) : GG wl E A pc lv (.long x :: rest) := fun H locs ls hP hS hl => lv_lstore X.ex X.cd d hl (by rw [X.nl]; exact hn) hv (fun ls hl => k H locs ls hP hS hl)
theorem G_fload_n {wl : pfW} {E : pfE} {cc : ByteArray} {own : String} {rm : Room} {nL : Nat} {A : St} {pc : Nat} {lv : List (Nat × Value)} {rest : List Value} {n : Fin 4} {i : Nat} {x : UInt32} (X : CX wl E cc own rm nL) (d : decode cc pc = .ok (.fload_n n, 1)) (hi : (n : Nat) = i) (q : Nat) (hq : lv[q]? = some (i, .float x)) (k : GG wl E A (pc + 1) lv (.float x :: rest)) : GG wl E A pc lv rest := fun H locs ls hP hS hl => lv_fload_n X.ex X.cd d hi (lv_at hl q hq) (k H locs ls hP hS hl)
theorem G_fload {wl : pfW} {E : pfE} {cc : ByteArray} {own : String} {rm : Room} {nL : Nat} {A : St} {pc : Nat} {lv : List (Nat × Value)} {rest : List Value} {i : Nat} {x : UInt32} (X : CX wl E cc own rm nL) (d : decode cc pc = .ok (.fload i, 2)) (q : Nat) (hq : lv[q]? = some (i, .float x)) (k : GG wl E A (pc + 2) lv (.float x :: rest)) : GG wl E A pc lv rest := fun H locs ls hP hS hl => lv_fload X.ex X.cd d (lv_at hl q hq) (k H locs ls hP hS hl)
theorem G_fstore_n {wl : pfW} {E : pfE} {cc : ByteArray} {own : String} {rm : Room} {nL : Nat} {A : St} {pc : Nat} {lv : List (Nat × Value)} {rest : List Value} {n : Fin 4} {i : Nat} {x : UInt32} {lv2 : List (Nat × Value)} (X : CX wl E cc own rm nL) (d : decode cc pc = .ok (.fstore_n n, 1)) (hi : (n : Nat) = i) (hn : i < nL) (hv : (i, Value.float x) :: lv.filter (fun q => !(q.1 == i) && !(q.1 + 1 == i && q.2.category == 2)) = lv2) (k : GG wl E A (pc + 1) lv2 rest) : GG wl E A pc lv (.float x :: rest) := fun H locs ls hP hS hl => lv_fstore_n X.ex X.cd d hi hl (by rw [X.nl]; exact hn) hv (fun ls hl => k H locs ls hP hS hl)
theorem G_fstore {wl : pfW} {E : pfE} {cc : ByteArray} {own : String} {rm : Room} {nL : Nat} {A : St} {pc : Nat} {lv : List (Nat × Value)} {rest : List Value} {i : Nat} {x : UInt32} {lv2 : List (Nat × Value)} (X : CX wl E cc own rm nL) (d : decode cc pc = .ok (.fstore i, 2)) (hn : i < nL) (hv : (i, Value.float x) :: lv.filter (fun q => !(q.1 == i) && !(q.1 + 1 == i && q.2.category == 2)) = lv2) (k : GG wl E A (pc + 2) lv2 rest) : GG wl E A pc lv (.float x :: rest) := fun H locs ls hP hS hl => lv_fstore X.ex X.cd d hl (by rw [X.nl]; exact hn) hv (fun ls hl => k H locs ls hP hS hl)
theorem G_dload_n {wl : pfW} {E : pfE} {cc : ByteArray} {own : String} {rm : Room} {nL : Nat} {A : St} {pc : Nat} {lv : List (Nat × Value)} {rest : List Value} {n : Fin 4} {i : Nat} {x : UInt64} (X : CX wl E cc own rm nL) (d : decode cc pc = .ok (.dload_n n, 1)) (hi : (n : Nat) = i) (q : Nat) (hq : lv[q]? = some (i, .double x)) (k : GG wl E A (pc + 1) lv (.double x :: rest)) : GG wl E A pc lv rest := fun H locs ls hP hS hl => lv_dload_n X.ex X.cd d hi (lv_at hl q hq) (k H locs ls hP hS hl)
theorem G_dload {wl : pfW} {E : pfE} {cc : ByteArray} {own : String} {rm : Room} {nL : Nat} {A : St} {pc : Nat} {lv : List (Nat × Value)} {rest : List Value} {i : Nat} {x : UInt64} (X : CX wl E cc own rm nL) (d : decode cc pc = .ok (.dload i, 2)) (q : Nat) (hq : lv[q]? = some (i, .double x)) (k : GG wl E A (pc + 2) lv (.double x :: rest)) : GG wl E A pc lv rest := fun H locs ls hP hS hl => lv_dload X.ex X.cd d (lv_at hl q hq) (k H locs ls hP hS hl)
theorem G_dstore_n {wl : pfW} {E : pfE} {cc : ByteArray} {own : String} {rm : Room} {nL : Nat} {A : St} {pc : Nat} {lv : List (Nat × Value)} {rest : List Value} {n : Fin 4} {i : Nat} {x : UInt64} {lv2 : List (Nat × Value)} (X : CX wl E cc own rm nL) (d : decode cc pc = .ok (.dstore_n n, 1)) (hi : (n : Nat) = i) (hn : i + 1 < nL) (hv : (i, Value.double x) :: lv.filter (fun q => !(q.1 == i) && (!(q.1 == i + 1) && !(q.1 + 1 == i && q.2.category == 2))) = lv2) (k : GG wl E A (pc + 1) lv2 rest) : GG wl E A pc lv (.double x :: rest) := fun H locs ls hP hS hl => lv_dstore_n X.ex X.cd d hi hl (by rw [X.nl]; exact hn) hv (fun ls hl => k H locs ls hP hS hl)
theorem G_dstore {wl : pfW} {E : pfE} {cc : ByteArray} {own : String} {rm : Room} {nL : Nat} {A : St} {pc : Nat} {lv : List (Nat × Value)} {rest : List Value} {i : Nat} {x : UInt64} {lv2 : List (Nat × Value)} (X : CX wl E cc own rm nL) (d : decode cc pc = .ok (.dstore i, 2)) (hn : i + 1 < nL) (hv : (i, Value.double x) :: lv.filter (fun q => !(q.1 == i) && (!(q.1 == i + 1) && !(q.1 + 1 == i && q.2.category == 2))) = lv2) (k : GG wl E A (pc + 2) lv2 rest) : GG wl E A pc lv (.double x :: rest) := fun H locs ls hP hS hl => lv_dstore X.ex X.cd d hl (by rw [X.nl]; exact hn) hv (fun ls hl => k H locs ls hP hS hl)
theorem G_aload_n {wl : pfW} {E : pfE} {cc : ByteArray} {own : String} {rm : Room} {nL : Nat} {A : St} {pc : Nat} {lv : List (Nat × Value)} {rest : List Value} {n : Fin 4} {i : Nat} {x : Nat} (X : CX wl E cc own rm nL) (d : decode cc pc = .ok (.aload_n n, 1)) (hi : (n : Nat) = i) (q : Nat) (hq : lv[q]? = some (i, .ref x)) (k : GG wl E A (pc + 1) lv (.ref x :: rest)) : GG wl E A pc lv rest := fun H locs ls hP hS hl => lv_aload_n X.ex X.cd d hi (lv_at hl q hq) (k H locs ls hP hS hl)
theorem G_aload {wl : pfW} {E : pfE} {cc : ByteArray} {own : String} {rm : Room} {nL : Nat} {A : St} {pc : Nat} {lv : List (Nat × Value)} {rest : List Value} {i : Nat} {x : Nat} (X : CX wl E cc own rm nL) (d : decode cc pc = .ok (.aload i, 2)) (q : Nat) (hq : lv[q]? = some (i, .ref x)) (k : GG wl E A (pc + 2) lv (.ref x :: rest)) : GG wl E A pc lv rest := fun H locs ls hP hS hl => lv_aload X.ex X.cd d (lv_at hl q hq) (k H locs ls hP hS hl)
theorem G_astore_n {wl : pfW} {E : pfE} {cc : ByteArray} {own : String} {rm : Room} {nL : Nat} {A : St} {pc : Nat} {lv : List (Nat × Value)} {rest : List Value} {n : Fin 4} {i : Nat} {x : Nat} {lv2 : List (Nat × Value)} (X : CX wl E cc own rm nL) (d : decode cc pc = .ok (.astore_n n, 1)) (hi : (n : Nat) = i) (hn : i < nL) (hv : (i, Value.ref x) :: lv.filter (fun q => !(q.1 == i) && !(q.1 + 1 == i && q.2.category == 2)) = lv2) (k : GG wl E A (pc + 1) lv2 rest) : GG wl E A pc lv (.ref x :: rest) := fun H locs ls hP hS hl => lv_astore_n X.ex X.cd d hi hl (by rw [X.nl]; exact hn) hv (fun ls hl => k H locs ls hP hS hl)
theorem G_astore {wl : pfW} {E : pfE} {cc : ByteArray} {own : String} {rm : Room} {nL : Nat} {A : St} {pc : Nat} {lv : List (Nat × Value)} {rest : List Value} {i : Nat} {x : Nat} {lv2 : List (Nat × Value)} (X : CX wl E cc own rm nL) (d : decode cc pc = .ok (.astore i, 2)) (hn : i < nL) (hv : (i, Value.ref x) :: lv.filter (fun q => !(q.1 == i) && !(q.1 + 1 == i && q.2.category == 2)) = lv2) (k : GG wl E A (pc + 2) lv2 rest) : GG wl E A pc lv (.ref x :: rest) := fun H locs ls hP hS hl => lv_astore X.ex X.cd d hl (by rw [X.nl]; exact hn) hv (fun ls hl => k H locs ls hP hS hl)
theorem G_iinc {wl : pfW} {E : pfE} {cc : ByteArray} {own : String} {rm : Room} {nL : Nat} {A : St} {pc : Nat} {lv : List (Nat × Value)} {rest : List Value} {i q : Nat} {n : Int} {x v : Int32} {lv2 : List (Nat × Value)} (X : CX wl E cc own rm nL) (d : decode cc pc = .ok (.iinc i n, 3)) (hq : lv[q]? = some (i, .int x)) (hv : x + Int32.ofInt n = v) (hn : i < nL) (hl2 : (i, Value.int v) :: lv.filter (fun q => !(q.1 == i) && !(q.1 + 1 == i && q.2.category == 2)) = lv2) (k : GG wl E A (pc + 3) lv2 rest) : GG wl E A pc lv rest := fun H locs ls hP hS hl => lv_iinc X.ex X.cd d hl hq hv (by rw [X.nl]; exact hn) hl2 (fun ls hl => k H locs ls hP hS hl)
theorem G_sub {wl : pfW} {E : pfE} {A : St} {pc : Nat} {lv : List (Nat × Value)} {lv2 : List (Nat × Value)} {st : List Value} (is : List Nat) (hs : lv_pick lv is = lv2) (k : GG wl E A pc lv2 st) : GG wl E A pc lv st := fun H locs ls hP hS hl => k H locs ls hP hS (lv_sub hl is hs)
theorem G_ifeq {wl : pfW} {E : pfE} {cc : ByteArray} {own : String} {rm : Room} {nL : Nat} {A : St} {pc : Nat} {lv : List (Nat × Value)} {rest : List Value} {x : Int32} {off : Int} {tgt : Nat} (X : CX wl E cc own rm nL) (d : decode cc pc = .ok (.ifCond .eq off, 3)) (ht : (pc : Int) + off = (tgt : Int)) (kt : x = 0 → GG wl E A tgt lv rest) (kf : ¬ (x = 0) → GG wl E A (pc + 3) lv rest) : GG wl E A pc lv (.int x :: rest) := fun H locs ls hP hS hl => lv_if_eq X.ex X.cd d ht (fun h => kt h H locs ls hP hS hl) (fun h => kf h H locs ls hP hS hl)
theorem G_iceq {wl : pfW} {E : pfE} {cc : ByteArray} {own : String} {rm : Room} {nL : Nat} {A : St} {pc : Nat} {lv : List (Nat × Value)} {rest : List Value} {x y : Int32} {off : Int} {tgt : Nat} (X : CX wl E cc own rm nL) (d : decode cc pc = .ok (.if_icmp .eq off, 3)) (ht : (pc : Int) + off = (tgt : Int)) (kt : x = y → GG wl E A tgt lv rest) (kf : ¬ (x = y) → GG wl E A (pc + 3) lv rest) : GG wl E A pc lv (.int y :: .int x :: rest) := fun H locs ls hP hS hl => lv_icmp_eq X.ex X.cd d ht (fun h => kt h H locs ls hP hS hl) (fun h => kf h H locs ls hP hS hl)
theorem G_ifne {wl : pfW} {E : pfE} {cc : ByteArray} {own : String} {rm : Room} {nL : Nat} {A : St} {pc : Nat} {lv : List (Nat × Value)} {rest : List Value} {x : Int32} {off : Int} {tgt : Nat} (X : CX wl E cc own rm nL) (d : decode cc pc = .ok (.ifCond .ne off, 3)) (ht : (pc : Int) + off = (tgt : Int)) (kf : x = 0 → GG wl E A (pc + 3) lv rest) (kt : ¬ x = 0 → GG wl E A tgt lv rest) : GG wl E A pc lv (.int x :: rest) := fun H locs ls hP hS hl => lv_if_ne X.ex X.cd d ht (fun h => kt h H locs ls hP hS hl) (fun h => kf h H locs ls hP hS hl)
theorem G_icne {wl : pfW} {E : pfE} {cc : ByteArray} {own : String} {rm : Room} {nL : Nat} {A : St} {pc : Nat} {lv : List (Nat × Value)} {rest : List Value} {x y : Int32} {off : Int} {tgt : Nat} (X : CX wl E cc own rm nL) (d : decode cc pc = .ok (.if_icmp .ne off, 3)) (ht : (pc : Int) + off = (tgt : Int)) (kf : x = y → GG wl E A (pc + 3) lv rest) (kt : ¬ x = y → GG wl E A tgt lv rest) : GG wl E A pc lv (.int y :: .int x :: rest) := fun H locs ls hP hS hl => lv_icmp_ne X.ex X.cd d ht (fun h => kt h H locs ls hP hS hl) (fun h => kf h H locs ls hP hS hl)
theorem G_iflt {wl : pfW} {E : pfE} {cc : ByteArray} {own : String} {rm : Room} {nL : Nat} {A : St} {pc : Nat} {lv : List (Nat × Value)} {rest : List Value} {x : Int32} {off : Int} {tgt : Nat} (X : CX wl E cc own rm nL) (d : decode cc pc = .ok (.ifCond .lt off, 3)) (ht : (pc : Int) + off = (tgt : Int)) (kt : x < 0 → GG wl E A tgt lv rest) (kf : ¬ (x < 0) → GG wl E A (pc + 3) lv rest) : GG wl E A pc lv (.int x :: rest) := fun H locs ls hP hS hl => lv_if_lt X.ex X.cd d ht (fun h => kt h H locs ls hP hS hl) (fun h => kf h H locs ls hP hS hl)
theorem G_iclt {wl : pfW} {E : pfE} {cc : ByteArray} {own : String} {rm : Room} {nL : Nat} {A : St} {pc : Nat} {lv : List (Nat × Value)} {rest : List Value} {x y : Int32} {off : Int} {tgt : Nat} (X : CX wl E cc own rm nL) (d : decode cc pc = .ok (.if_icmp .lt off, 3)) (ht : (pc : Int) + off = (tgt : Int)) (kt : x < y → GG wl E A tgt lv rest) (kf : ¬ (x < y) → GG wl E A (pc + 3) lv rest) : GG wl E A pc lv (.int y :: .int x :: rest) := fun H locs ls hP hS hl => lv_icmp_lt X.ex X.cd d ht (fun h => kt h H locs ls hP hS hl) (fun h => kf h H locs ls hP hS hl)
theorem G_ifge {wl : pfW} {E : pfE} {cc : ByteArray} {own : String} {rm : Room} {nL : Nat} {A : St} {pc : Nat} {lv : List (Nat × Value)} {rest : List Value} {x : Int32} {off : Int} {tgt : Nat} (X : CX wl E cc own rm nL) (d : decode cc pc = .ok (.ifCond .ge off, 3)) (ht : (pc : Int) + off = (tgt : Int)) (kt : 0 ≤ x → GG wl E A tgt lv rest) (kf : ¬ (0 ≤ x) → GG wl E A (pc + 3) lv rest) : GG wl E A pc lv (.int x :: rest) := fun H locs ls hP hS hl => lv_if_ge X.ex X.cd d ht (fun h => kt h H locs ls hP hS hl) (fun h => kf h H locs ls hP hS hl)
theorem G_icge {wl : pfW} {E : pfE} {cc : ByteArray} {own : String} {rm : Room} {nL : Nat} {A : St} {pc : Nat} {lv : List (Nat × Value)} {rest : List Value} {x y : Int32} {off : Int} {tgt : Nat} (X : CX wl E cc own rm nL) (d : decode cc pc = .ok (.if_icmp .ge off, 3)) (ht : (pc : Int) + off = (tgt : Int)) (kt : y ≤ x → GG wl E A tgt lv rest) (kf : ¬ (y ≤ x) → GG wl E A (pc + 3) lv rest) : GG wl E A pc lv (.int y :: .int x :: rest) := fun H locs ls hP hS hl => lv_icmp_ge X.ex X.cd d ht (fun h => kt h H locs ls hP hS hl) (fun h => kf h H locs ls hP hS hl)
theorem G_ifgt {wl : pfW} {E : pfE} {cc : ByteArray} {own : String} {rm : Room} {nL : Nat} {A : St} {pc : Nat} {lv : List (Nat × Value)} {rest : List Value} {x : Int32} {off : Int} {tgt : Nat} (X : CX wl E cc own rm nL) (d : decode cc pc = .ok (.ifCond .gt off, 3)) (ht : (pc : Int) + off = (tgt : Int)) (kt : 0 < x → GG wl E A tgt lv rest) (kf : ¬ (0 < x) → GG wl E A (pc + 3) lv rest) : GG wl E A pc lv (.int x :: rest) := fun H locs ls hP hS hl => lv_if_gt X.ex X.cd d ht (fun h => kt h H locs ls hP hS hl) (fun h => kf h H locs ls hP hS hl)
theorem G_icgt {wl : pfW} {E : pfE} {cc : ByteArray} {own : String} {rm : Room} {nL : Nat} {A : St} {pc : Nat} {lv : List (Nat × Value)} {rest : List Value} {x y : Int32} {off : Int} {tgt : Nat} (X : CX wl E cc own rm nL) (d : decode cc pc = .ok (.if_icmp .gt off, 3)) (ht : (pc : Int) + off = (tgt : Int)) (kt : y < x → GG wl E A tgt lv rest) (kf : ¬ (y < x) → GG wl E A (pc + 3) lv rest) : GG wl E A pc lv (.int y :: .int x :: rest) := fun H locs ls hP hS hl => lv_icmp_gt X.ex X.cd d ht (fun h => kt h H locs ls hP hS hl) (fun h => kf h H locs ls hP hS hl)
theorem G_ifle {wl : pfW} {E : pfE} {cc : ByteArray} {own : String} {rm : Room} {nL : Nat} {A : St} {pc : Nat} {lv : List (Nat × Value)} {rest : List Value} {x : Int32} {off : Int} {tgt : Nat} (X : CX wl E cc own rm nL) (d : decode cc pc = .ok (.ifCond .le off, 3)) (ht : (pc : Int) + off = (tgt : Int)) (kt : x ≤ 0 → GG wl E A tgt lv rest) (kf : ¬ (x ≤ 0) → GG wl E A (pc + 3) lv rest) : GG wl E A pc lv (.int x :: rest) := fun H locs ls hP hS hl => lv_if_le X.ex X.cd d ht (fun h => kt h H locs ls hP hS hl) (fun h => kf h H locs ls hP hS hl)
theorem G_icle {wl : pfW} {E : pfE} {cc : ByteArray} {own : String} {rm : Room} {nL : Nat} {A : St} {pc : Nat} {lv : List (Nat × Value)} {rest : List Value} {x y : Int32} {off : Int} {tgt : Nat} (X : CX wl E cc own rm nL) (d : decode cc pc = .ok (.if_icmp .le off, 3)) (ht : (pc : Int) + off = (tgt : Int)) (kt : x ≤ y → GG wl E A tgt lv rest) (kf : ¬ (x ≤ y) → GG wl E A (pc + 3) lv rest) : GG wl E A pc lv (.int y :: .int x :: rest) := fun H locs ls hP hS hl => lv_icmp_le X.ex X.cd d ht (fun h => kt h H locs ls hP hS hl) (fun h => kf h H locs ls hP hS hl)
theorem G_goto {wl : pfW} {E : pfE} {cc : ByteArray} {own : String} {rm : Room} {nL : Nat} {A : St} {pc : Nat} {lv : List (Nat × Value)} {rest : List Value} {off : Int} {tgt : Nat} (X : CX wl E cc own rm nL) (d : decode cc pc = .ok (.goto off, 3)) (ht : (pc : Int) + off = (tgt : Int)) (k : GG wl E A tgt lv rest) : GG wl E A pc lv rest := fun H locs ls hP hS hl => lv_goto X.ex X.cd d ht (k H locs ls hP hS hl)
theorem G_tabIn {wl : pfW} {E : pfE} {cc : ByteArray} {own : String} {rm : Room} {nL : Nat} {A : St} {pc : Nat} {lv : List (Nat × Value)} {rest : List Value} {dflt lo hi : Int} {offs : Array Int} {len : Nat} {x : Int32} {off : Int} {tgt : Nat} (X : CX wl E cc own rm nL) (d : decode cc pc = .ok (.tableswitch dflt lo hi offs, len)) (h1 : ¬ x.toInt < lo) (h2 : ¬ hi < x.toInt) (ho : offs[(x.toInt - lo).toNat]? = some off) (ht : (pc : Int) + off = (tgt : Int)) (k : GG wl E A tgt lv rest) : GG wl E A pc lv (.int x :: rest) := fun H locs ls hP hS hl => lv_tableIn X.ex X.cd d h1 h2 ho ht (k H locs ls hP hS hl)
theorem G_tabOut {wl : pfW} {E : pfE} {cc : ByteArray} {own : String} {rm : Room} {nL : Nat} {A : St} {pc : Nat} {lv : List (Nat × Value)} {rest : List Value} {dflt lo hi : Int} {offs : Array Int} {len : Nat} {x : Int32} {tgt : Nat} (X : CX wl E cc own rm nL) (d : decode cc pc = .ok (.tableswitch dflt lo hi offs, len)) (h : x.toInt < lo ∨ hi < x.toInt) (ht : (pc : Int) + dflt = (tgt : Int)) (k : GG wl E A tgt lv rest) : GG wl E A pc lv (.int x :: rest) := fun H locs ls hP hS hl => lv_tableOut X.ex X.cd d h ht (k H locs ls hP hS hl)
theorem G_ldc {wl : pfW} {E : pfE} {cc : ByteArray} {own : String} {rm : Room} {nL : Nat} {A : St} {pc : Nat} {lv : List (Nat × Value)} {rest : List Value} {index : Nat} {v : Int32} (X : CX wl E cc own rm nL) (hw : (Cond.constant own index v) ∈ lw_all) (d : decode cc pc = .ok (.ldc index, 2)) (k : GG wl E A (pc + 2) lv (.int v :: rest)) : GG wl E A pc lv rest := fun H locs ls hP hS hl => lv_ldc X.ex X.cd X.ow (X.ws _ hw) d (k H locs ls hP hS hl)
theorem G_ldcw {wl : pfW} {E : pfE} {cc : ByteArray} {own : String} {rm : Room} {nL : Nat} {A : St} {pc : Nat} {lv : List (Nat × Value)} {rest : List Value} {index : Nat} {v : Int32} (X : CX wl E cc own rm nL) (hw : (Cond.constant own index v) ∈ lw_all) (d : decode cc pc = .ok (.ldc_w index, 3)) (k : GG wl E A (pc + 3) lv (.int v :: rest)) : GG wl E A pc lv rest := fun H locs ls hP hS hl => lv_ldcw X.ex X.cd X.ow (X.ws _ hw) d (k H locs ls hP hS hl)
theorem G_ldcf {wl : pfW} {E : pfE} {cc : ByteArray} {own : String} {rm : Room} {nL : Nat} {A : St} {pc : Nat} {lv : List (Nat × Value)} {rest : List Value} {index : Nat} {v : UInt32} (X : CX wl E cc own rm nL) (hw : (Cond.constantFloat own index v) ∈ lw_all) (d : decode cc pc = .ok (.ldc index, 2)) (k : GG wl E A (pc + 2) lv (.float v :: rest)) : GG wl E A pc lv rest := fun H locs ls hP hS hl => lv_ldcf X.ex X.cd X.ow (X.ws _ hw) d (k H locs ls hP hS hl)
theorem G_ldc2 {wl : pfW} {E : pfE} {cc : ByteArray} {own : String} {rm : Room} {nL : Nat} {A : St} {pc : Nat} {lv : List (Nat × Value)} {rest : List Value} {index : Nat} {v : Int64} (X : CX wl E cc own rm nL) (hw : (Cond.constantLong own index v) ∈ lw_all) (d : decode cc pc = .ok (.ldc2_w index, 3)) (k : GG wl E A (pc + 3) lv (.long v :: rest)) : GG wl E A pc lv rest := fun H locs ls hP hS hl => lv_ldc2 X.ex X.cd X.ow (X.ws _ hw) d (k H locs ls hP hS hl)
theorem G_ldc2d {wl : pfW} {E : pfE} {cc : ByteArray} {own : String} {rm : Room} {nL : Nat} {A : St} {pc : Nat} {lv : List (Nat × Value)} {rest : List Value} {index : Nat} {v : UInt64} (X : CX wl E cc own rm nL) (hw : (Cond.constantDouble own index v) ∈ lw_all) (d : decode cc pc = .ok (.ldc2_w index, 3)) (k : GG wl E A (pc + 3) lv (.double v :: rest)) : GG wl E A pc lv rest := fun H locs ls hP hS hl => lv_ldc2d X.ex X.cd X.ow (X.ws _ hw) d (k H locs ls hP hS hl)
theorem G_topi {wl : pfW} {E : pfE} {A : St} {pc : Nat} {lv : List (Nat × Value)} {rest : List Value} {x : Int32} (k : ∀ y : Int32, y = x → GG wl E A pc lv (.int y :: rest)) : GG wl E A pc lv (.int x :: rest) := k x rfl
theorem G_topl {wl : pfW} {E : pfE} {A : St} {pc : Nat} {lv : List (Nat × Value)} {rest : List Value} {x : Int64} (k : ∀ y : Int64, y = x → GG wl E A pc lv (.long y :: rest)) : GG wl E A pc lv (.long x :: rest) := k x rfl
theorem G_topf {wl : pfW} {E : pfE} {A : St} {pc : Nat} {lv : List (Nat × Value)} {rest : List Value} {x : UInt32} (k : ∀ y : UInt32, y = x → GG wl E A pc lv (.float y :: rest)) : GG wl E A pc lv (.float x :: rest) := k x rfl
theorem G_topd {wl : pfW} {E : pfE} {A : St} {pc : Nat} {lv : List (Nat × Value)} {rest : List Value} {x : UInt64} (k : ∀ y : UInt64, y = x → GG wl E A pc lv (.double y :: rest)) : GG wl E A pc lv (.double x :: rest) := k x rfl
theorem G_topS {wl : pfW} {E : pfE} {A : St} {pc : Nat} {lv : List (Nat × Value)} {st : List Value} (k : ∀ B : St, B = A → GG wl E B pc lv st) : GG wl E A pc lv st := k A rfl
theorem G_getf {wl : pfW} {E : pfE} {cc : ByteArray} {own : String} {rm : Room} {nL : Nat} {A : St} {pc : Nat} {lv : List (Nat × Value)} {rest : List Value} {C : String} {T : u_T} {N ci index : Nat} {a : Nat} {fs : List Value} {v : Value} (X : CX wl E cc own rm nL) (hin : ∀ w ∈ u_ws C T N, w ∈ lw_all) (q : Nat) (he : (wl (fAd (eF E)) (fCy (eF E)) A)[q]? = some (a, .inr (ci, fs))) (hc : vwCl[ci]? = some (C, T, N)) (j : Nat) (hj : j < N) (hw : (Cond.fieldLink own index (T j).1 (T j).2.1 (T j).2.2.1) ∈ lw_all) (hv : fs[j]? = some v) (d : decode cc pc = .ok (.getfield index, 3)) (k : GG wl E A (pc + 3) lv (v :: rest)) : GG wl E A pc lv (.ref a :: rest) := fun H locs ls hP hS hl => va_get X.ex X.cd X.ws hin X.ow X.k hP q he hc j hj (X.ws _ hw) (fun _ h => h) hv d (k H locs ls hP hS hl)
theorem G_putf {wl : pfW} {E : pfE} {cc : ByteArray} {own : String} {rm : Room} {nL : Nat} {A : St} {pc : Nat} {lv : List (Nat × Value)} {rest : List Value} {C : String} {T : u_T} {N ci index : Nat} {a : Nat} {fs : List Value} {v : Value} {ty : FieldType} {A2 : St} (X : CX wl E cc own rm nL) (ty0 : Nat → FieldType) (hty : ∀ k, k < N → parseFieldDescriptor (T k).2.2.1 = some (ty0 k)) (hnm : ∀ a, a < N → ∀ b, b < N → a ≠ b → (T a).2.1 ≠ (T b).2.1) (hin : ∀ w ∈ u_ws C T N, w ∈ lw_all) (q : Nat) (he : (wl (fAd (eF E)) (fCy (eF E)) A)[q]? = some (a, .inr (ci, fs))) (hc : vwCl[ci]? = some (C, T, N)) (j : Nat) (hj : j < N) (hw : (Cond.fieldLink own index (T j).1 (T j).2.1 (T j).2.2.1) ∈ lw_all) (hfin : (T j).2.2.2 = false) (hd : parseFieldDescriptor (T j).2.2.1 = some ty) (hn : narrow ty v = v) (hfit : fits ty v = true) (hlen : j < fs.length) (hset : (wl (fAd (eF E)) (fCy (eF E)) A).set q (a, .inr (ci, fs.set j v)) = wl (fAd (eF E)) (fCy (eF E)) A2) (d : decode cc pc = .ok (.putfield index, 3)) (k : GG wl E A2 (pc + 3) lv rest) : GG wl E A pc lv (v :: .ref a :: rest) := fun H locs ls hP hS hl => va_put X.ex X.cd X.ws hin ty0 hty hnm X.ow X.k hP (X.d A) hS q he hc j hj (X.ws _ hw) (fun _ h => h) hfin hd hn hfit hlen d (fun H1 locs1 hP1 _ hS1 => k H1 locs1 ls (by rw [hset] at hP1; exact hP1) hS1 hl)
theorem G_iald {wl : pfW} {E : pfE} {cc : ByteArray} {own : String} {rm : Room} {nL : Nat} {A : St} {pc : Nat} {lv : List (Nat × Value)} {rest : List Value} {n j : Nat} {f : Nat → Int32} {a : Nat} {i : Int32} (X : CX wl E cc own rm nL) (q : Nat) (he : (wl (fAd (eF E)) (fCy (eF E)) A)[q]? = some (a, .inl (fCy (eF E) 0, n, .inl f))) (hin : vp_in i n) (hj : i.toNatClampNeg = j) (d : decode cc pc = .ok (.iaload, 1)) (k : GG wl E A (pc + 1) lv (.int (f j) :: rest)) : GG wl E A pc lv (.int i :: .ref a :: rest) := by
  subst hj
  exact fun H locs ls hP hS hl => va_iald X.ex X.cd X.k hP q 0 he rfl hin d (k H locs ls hP hS hl)
theorem G_iast {wl : pfW} {E : pfE} {cc : ByteArray} {own : String} {rm : Room} {nL : Nat} {A : St} {pc : Nat} {lv : List (Nat × Value)} {rest : List Value} {n j : Nat} {f : Nat → Int32} {a : Nat} {i : Int32} {x : Int32} {A2 : St} (X : CX wl E cc own rm nL) (q : Nat) (he : (wl (fAd (eF E)) (fCy (eF E)) A)[q]? = some (a, .inl (fCy (eF E) 0, n, .inl f))) (hset : (wl (fAd (eF E)) (fCy (eF E)) A).set q (a, .inl (fCy (eF E) 0, n, .inl (upd f j x))) = wl (fAd (eF E)) (fCy (eF E)) A2) (hin : vp_in i n) (hj : i.toNatClampNeg = j) (d : decode cc pc = .ok (.iastore, 1)) (k : GG wl E A2 (pc + 1) lv rest) : GG wl E A pc lv (.int x :: .int i :: .ref a :: rest) := by
  subst hj
  exact fun H locs ls hP hS hl => va_iast X.ex X.cd X.k hP (X.d A) hS q 0 he rfl hin d (fun H1 locs1 hP1 _ hS1 => k H1 locs1 ls (by rw [hset] at hP1; exact hP1) hS1 hl)
theorem G_copyi {wl : pfW} {E : pfE} {cc : ByteArray} {own : String} {rm : Room} {nL : Nat} {A : St} {pc : Nat} {lv : List (Nat × Value)} {rest : List Value} {n0 n1 : Nat} {f g : Nat → Int32} {a a0 : Nat} {sp dp n : Int32} {index : Nat} {A2 : St} (X : CX wl E cc own rm nL) (hw : (Cond.methodLink own index arraycopyName) ∈ lw_all) (h0 : (Cond.native arraycopyName) ∈ lw_all) (h00 : (Cond.static arraycopyName) ∈ lw_all) (h01 : (Cond.initialized "java/lang/System") ∈ lw_all) (q0 q1 : Nat) (he0 : (wl (fAd (eF E)) (fCy (eF E)) A)[q0]? = some (a0, .inl (fCy (eF E) 0, n0, .inl f))) (he1 : (wl (fAd (eF E)) (fCy (eF E)) A)[q1]? = some (a, .inl (fCy (eF E) 0, n1, .inl g))) (hset : (wl (fAd (eF E)) (fCy (eF E)) A).set q1 (a, .inl (fCy (eF E) 0, n1, .inl (va_cpy f g sp.toNatClampNeg dp.toNatClampNeg n.toNatClampNeg))) = wl (fAd (eF E)) (fCy (eF E)) A2) (h1 : ¬ sp < 0) (h2 : ¬ dp < 0) (h3 : ¬ n < 0) (h4 : sp.toNatClampNeg + n.toNatClampNeg ≤ n0) (h5 : dp.toNatClampNeg + n.toNatClampNeg ≤ n1) (hfr : 1 ≤ rm.frames) (hlo : (rest.map fun v => v.category).sum + (nativeFrameWords "java/lang/System" "arraycopy" 5 + 11) ≤ rm.locals) (d : decode cc pc = .ok (.invokestatic index, 3)) (k : GG wl E A2 (pc + 3) lv rest) : GG wl E A pc lv (.int n :: .int dp :: .ref a :: .int sp :: .ref a0 :: rest) := fun H locs ls hP hS hl => va_copyi X.ex X.cd (by rw [X.ml, ← X.nl]; exact hl.1.symm) X.ow (X.ws _ hw) (X.ws _ h0) (X.ws _ h00) (X.ws _ h01) X.k hP (X.d A) hS q0 q1 0 0 he0 he1 rfl rfl rfl h1 h2 h3 h4 h5 (fun _ _ => rfl) (by rw [X.r]; exact hfr) (by rw [X.r]; exact hlo) d (fun H1 locs1 hP1 _ hS1 => k H1 locs1 ls (by rw [hset] at hP1; exact hP1) hS1 hl)
theorem G_dald {wl : pfW} {E : pfE} {cc : ByteArray} {own : String} {rm : Room} {nL : Nat} {A : St} {pc : Nat} {lv : List (Nat × Value)} {rest : List Value} {n j : Nat} {f : Nat → UInt64} {a : Nat} {i : Int32} (X : CX wl E cc own rm nL) (q : Nat) (he : (wl (fAd (eF E)) (fCy (eF E)) A)[q]? = some (a, .inl (fCy (eF E) 1, n, .inr (.inr (.inr (.inl f)))))) (hin : vp_in i n) (hj : i.toNatClampNeg = j) (d : decode cc pc = .ok (.daload, 1)) (k : GG wl E A (pc + 1) lv (.double (f j) :: rest)) : GG wl E A pc lv (.int i :: .ref a :: rest) := by
  subst hj
  exact fun H locs ls hP hS hl => va_dald X.ex X.cd X.k hP q 1 he rfl hin d (k H locs ls hP hS hl)
theorem G_dast {wl : pfW} {E : pfE} {cc : ByteArray} {own : String} {rm : Room} {nL : Nat} {A : St} {pc : Nat} {lv : List (Nat × Value)} {rest : List Value} {n j : Nat} {f : Nat → UInt64} {a : Nat} {i : Int32} {x : UInt64} {A2 : St} (X : CX wl E cc own rm nL) (q : Nat) (he : (wl (fAd (eF E)) (fCy (eF E)) A)[q]? = some (a, .inl (fCy (eF E) 1, n, .inr (.inr (.inr (.inl f)))))) (hset : (wl (fAd (eF E)) (fCy (eF E)) A).set q (a, .inl (fCy (eF E) 1, n, .inr (.inr (.inr (.inl (vf_upd f j x)))))) = wl (fAd (eF E)) (fCy (eF E)) A2) (hin : vp_in i n) (hj : i.toNatClampNeg = j) (d : decode cc pc = .ok (.dastore, 1)) (k : GG wl E A2 (pc + 1) lv rest) : GG wl E A pc lv (.double x :: .int i :: .ref a :: rest) := by
  subst hj
  exact fun H locs ls hP hS hl => va_dast X.ex X.cd X.k hP (X.d A) hS q 1 he rfl hin d (fun H1 locs1 hP1 _ hS1 => k H1 locs1 ls (by rw [hset] at hP1; exact hP1) hS1 hl)
theorem G_copyd {wl : pfW} {E : pfE} {cc : ByteArray} {own : String} {rm : Room} {nL : Nat} {A : St} {pc : Nat} {lv : List (Nat × Value)} {rest : List Value} {n0 n1 : Nat} {f g : Nat → UInt64} {a a0 : Nat} {sp dp n : Int32} {index : Nat} {A2 : St} (X : CX wl E cc own rm nL) (hw : (Cond.methodLink own index arraycopyName) ∈ lw_all) (h0 : (Cond.native arraycopyName) ∈ lw_all) (h00 : (Cond.static arraycopyName) ∈ lw_all) (h01 : (Cond.initialized "java/lang/System") ∈ lw_all) (q0 q1 : Nat) (he0 : (wl (fAd (eF E)) (fCy (eF E)) A)[q0]? = some (a0, .inl (fCy (eF E) 1, n0, .inr (.inr (.inr (.inl f)))))) (he1 : (wl (fAd (eF E)) (fCy (eF E)) A)[q1]? = some (a, .inl (fCy (eF E) 1, n1, .inr (.inr (.inr (.inl g)))))) (hset : (wl (fAd (eF E)) (fCy (eF E)) A).set q1 (a, .inl (fCy (eF E) 1, n1, .inr (.inr (.inr (.inl (va_cpy f g sp.toNatClampNeg dp.toNatClampNeg n.toNatClampNeg)))))) = wl (fAd (eF E)) (fCy (eF E)) A2) (h1 : ¬ sp < 0) (h2 : ¬ dp < 0) (h3 : ¬ n < 0) (h4 : sp.toNatClampNeg + n.toNatClampNeg ≤ n0) (h5 : dp.toNatClampNeg + n.toNatClampNeg ≤ n1) (hfr : 1 ≤ rm.frames) (hlo : (rest.map fun v => v.category).sum + (nativeFrameWords "java/lang/System" "arraycopy" 5 + 11) ≤ rm.locals) (d : decode cc pc = .ok (.invokestatic index, 3)) (k : GG wl E A2 (pc + 3) lv rest) : GG wl E A pc lv (.int n :: .int dp :: .ref a :: .int sp :: .ref a0 :: rest) := fun H locs ls hP hS hl => va_copyd X.ex X.cd (by rw [X.ml, ← X.nl]; exact hl.1.symm) X.ow (X.ws _ hw) (X.ws _ h0) (X.ws _ h00) (X.ws _ h01) X.k hP (X.d A) hS q0 q1 1 1 he0 he1 rfl rfl rfl h1 h2 h3 h4 h5 (fun _ _ => rfl) (by rw [X.r]; exact hfr) (by rw [X.r]; exact hlo) d (fun H1 locs1 hP1 _ hS1 => k H1 locs1 ls (by rw [hset] at hP1; exact hP1) hS1 hl)
theorem G_fald {wl : pfW} {E : pfE} {cc : ByteArray} {own : String} {rm : Room} {nL : Nat} {A : St} {pc : Nat} {lv : List (Nat × Value)} {rest : List Value} {n j : Nat} {f : Nat → UInt32} {a : Nat} {i : Int32} (X : CX wl E cc own rm nL) (q : Nat) (he : (wl (fAd (eF E)) (fCy (eF E)) A)[q]? = some (a, .inl (fCy (eF E) 2, n, .inr (.inr (.inl f))))) (hin : vp_in i n) (hj : i.toNatClampNeg = j) (d : decode cc pc = .ok (.faload, 1)) (k : GG wl E A (pc + 1) lv (.float (f j) :: rest)) : GG wl E A pc lv (.int i :: .ref a :: rest) := by
  subst hj
  exact fun H locs ls hP hS hl => va_fald X.ex X.cd X.k hP q 2 he rfl hin d (k H locs ls hP hS hl)
theorem G_fast {wl : pfW} {E : pfE} {cc : ByteArray} {own : String} {rm : Room} {nL : Nat} {A : St} {pc : Nat} {lv : List (Nat × Value)} {rest : List Value} {n j : Nat} {f : Nat → UInt32} {a : Nat} {i : Int32} {x : UInt32} {A2 : St} (X : CX wl E cc own rm nL) (q : Nat) (he : (wl (fAd (eF E)) (fCy (eF E)) A)[q]? = some (a, .inl (fCy (eF E) 2, n, .inr (.inr (.inl f))))) (hset : (wl (fAd (eF E)) (fCy (eF E)) A).set q (a, .inl (fCy (eF E) 2, n, .inr (.inr (.inl (vf_upd f j x))))) = wl (fAd (eF E)) (fCy (eF E)) A2) (hin : vp_in i n) (hj : i.toNatClampNeg = j) (d : decode cc pc = .ok (.fastore, 1)) (k : GG wl E A2 (pc + 1) lv rest) : GG wl E A pc lv (.float x :: .int i :: .ref a :: rest) := by
  subst hj
  exact fun H locs ls hP hS hl => va_fast X.ex X.cd X.k hP (X.d A) hS q 2 he rfl hin d (fun H1 locs1 hP1 _ hS1 => k H1 locs1 ls (by rw [hset] at hP1; exact hP1) hS1 hl)
theorem G_aald {wl : pfW} {E : pfE} {cc : ByteArray} {own : String} {rm : Room} {nL : Nat} {A : St} {pc : Nat} {lv : List (Nat × Value)} {rest : List Value} {n t0 : Nat} {ty : FieldType} {cA : ClassId} {f : Nat → Option Nat} {a b : Nat} {i : Int32} (X : CX wl E cc own rm nL) (q : Nat) (he : (wl (fAd (eF E)) (fCy (eF E)) A)[q]? = some (a, .inl (cA, n, .inr (.inr (.inr (.inr f)))))) (ht : (tysOf (fCy (eF E)))[t0]? = some (cA, ty)) (hty : ty.isReference = true) (hin : vp_in i n) (hb : f i.toNatClampNeg = some b) (d : decode cc pc = .ok (.aaload, 1)) (k : GG wl E A (pc + 1) lv (.ref b :: rest)) : GG wl E A pc lv (.int i :: .ref a :: rest) := by
  intro H locs ls hP hS hl
  have hlt : i.toNatClampNeg < n := Nat.not_le.mp fun q => hin (Or.inr q)
  exact W.aald (v := .ref b) (ty := ty) X.ex X.cd (hP q _ he) ((X.k.2 t0 _ ht).1 n (fun j => va_rf (f j))) hty (fun q => by cases q) (by show ¬ (i < 0 ∨ (arrV _ _ _).slots.size ≤ _); rw [arrV_size]; exact hin) (by show (arrV _ _ _).slots[_]? = _; rw [arrV_read _ _ hlt, hb]; rfl) rfl rfl d (k H locs ls hP hS hl)
theorem G_tget {wl : pfW} {E : pfE} {cc : ByteArray} {own : String} {rm : Room} {nL : Nat} {A : St} {pc : Nat} {lv : List (Nat × Value)} {rest : List Value} {index : Nat} (X : CX wl E cc own rm nL) (t : Nat) (ht : t < 5) (hw : (Cond.fieldLink own index "PaperForms" (tbNm t) "[I") ∈ lw_all) (d : decode cc pc = .ok (.getstatic index, 3)) (k : GG wl E A (pc + 3) lv (.ref (fT (eF E) t) :: rest)) : GG wl E A pc lv rest := fun H locs ls hP hS hl => va_gets X.ex X.cd (X.fx.2.1 t ht).1 hS X.ow (X.ws _ hw) (fun _ h => h) d (k H locs ls hP hS hl)
theorem G_tnz {wl : pfW} {E : pfE} {cc : ByteArray} {own : String} {rm : Room} {nL : Nat} {A : St} {pc : Nat} {lv : List (Nat × Value)} {rest : List Value} {index : Nat} (X : CX wl E cc own rm nL) (hw : (Cond.fieldLink own index "java/lang/Math" "negativeZeroDoubleBits" "J") ∈ lw_all) (d : decode cc pc = .ok (.getstatic index, 3)) (k : GG wl E A (pc + 3) lv (.long (-9223372036854775808) :: rest)) : GG wl E A pc lv rest := fun H locs ls hP hS hl => va_gets X.ex X.cd X.fx.2.2.1 hS X.ow (X.ws _ hw) (fun _ h => h) d (k H locs ls hP hS hl)
theorem G_tald {wl : pfW} {E : pfE} {cc : ByteArray} {own : String} {rm : Room} {nL : Nat} {A : St} {pc : Nat} {lv : List (Nat × Value)} {rest : List Value} {i : Int32} (X : CX wl E cc own rm nL) (t : Nat) (ht : t < 5) {n j : Nat} (hn : tbN t = n) (hin : vp_in i n) (hj : i.toNatClampNeg = j) (d : decode cc pc = .ok (.iaload, 1)) (k : GG wl E A (pc + 1) lv (.int (tb t j) :: rest)) : GG wl E A pc lv (.int i :: .ref (fT (eF E) t) :: rest) := fun H locs ls hP hS hl => va_ti X.ex X.cd (X.fx.2.1 t ht).2 hS (by rw [hn]; exact hin) (by rw [hj]) d (k H locs ls hP hS hl)
theorem G_tlen {wl : pfW} {E : pfE} {cc : ByteArray} {own : String} {rm : Room} {nL : Nat} {A : St} {pc : Nat} {lv : List (Nat × Value)} {rest : List Value} (X : CX wl E cc own rm nL) (t : Nat) (ht : t < 5) {v : Int32} (hv : Int32.ofNat (tbN t) = v) (d : decode cc pc = .ok (.arraylength, 1)) (k : GG wl E A (pc + 1) lv (.int v :: rest)) : GG wl E A pc lv (.ref (fT (eF E) t) :: rest) := fun H locs ls hP hS hl => va_tlen X.ex X.cd (X.fx.2.1 t ht).2 hS hv d (k H locs ls hP hS hl)
theorem G_nd2l {wl : pfW} {E : pfE} {cc : ByteArray} {own : String} {rm : Room} {nL : Nat} {A : St} {pc : Nat} {lv : List (Nat × Value)} {rest : List Value} {index : Nat} {b : UInt64} (X : CX wl E cc own rm nL) (hw : (Cond.methodLink own index ⟨"java/lang/Double", "doubleToRawLongBits", "(D)J"⟩) ∈ lw_all) (h0 : (Cond.native ⟨"java/lang/Double", "doubleToRawLongBits", "(D)J"⟩) ∈ lw_all) (h1 : (Cond.static ⟨"java/lang/Double", "doubleToRawLongBits", "(D)J"⟩) ∈ lw_all) (h2 : (Cond.initialized "java/lang/Double") ∈ lw_all)  (hfr : 1 ≤ rm.frames) (hlo : (rest.map fun v => v.category).sum + 15 ≤ rm.locals) (d : decode cc pc = .ok (.invokestatic index, 3)) (k : GG wl E A (pc + 3) lv (.long b.toInt64 :: rest)) : GG wl E A pc lv (.double b :: rest) := fun H locs ls hP hS hl => vn_d2l X.ex X.cd (by rw [X.ml, ← X.nl]; exact hl.1.symm) X.ow (X.ws _ hw) (X.ws _ h0) (X.ws _ h1) (X.ws _ h2) (by rw [X.r]; exact hfr) (by rw [X.r]; exact hlo) d (k H locs ls hP hS hl)
theorem G_nl2d {wl : pfW} {E : pfE} {cc : ByteArray} {own : String} {rm : Room} {nL : Nat} {A : St} {pc : Nat} {lv : List (Nat × Value)} {rest : List Value} {index : Nat} {b : Int64} (X : CX wl E cc own rm nL) (hw : (Cond.methodLink own index ⟨"java/lang/Double", "longBitsToDouble", "(J)D"⟩) ∈ lw_all) (h0 : (Cond.native ⟨"java/lang/Double", "longBitsToDouble", "(J)D"⟩) ∈ lw_all) (h1 : (Cond.static ⟨"java/lang/Double", "longBitsToDouble", "(J)D"⟩) ∈ lw_all) (h2 : (Cond.initialized "java/lang/Double") ∈ lw_all) (hv : vn_snl2d b = false) (hfr : 1 ≤ rm.frames) (hlo : (rest.map fun v => v.category).sum + 15 ≤ rm.locals) (d : decode cc pc = .ok (.invokestatic index, 3)) (k : GG wl E A (pc + 3) lv (.double b.toUInt64 :: rest)) : GG wl E A pc lv (.long b :: rest) := fun H locs ls hP hS hl => vn_l2d X.ex X.cd (by rw [X.ml, ← X.nl]; exact hl.1.symm) X.ow (X.ws _ hw) (X.ws _ h0) (X.ws _ h1) (X.ws _ h2) hv (by rw [X.r]; exact hfr) (by rw [X.r]; exact hlo) d (k H locs ls hP hS hl)
theorem G_nf2i {wl : pfW} {E : pfE} {cc : ByteArray} {own : String} {rm : Room} {nL : Nat} {A : St} {pc : Nat} {lv : List (Nat × Value)} {rest : List Value} {index : Nat} {b : UInt32} (X : CX wl E cc own rm nL) (hw : (Cond.methodLink own index ⟨"java/lang/Float", "floatToRawIntBits", "(F)I"⟩) ∈ lw_all) (h0 : (Cond.native ⟨"java/lang/Float", "floatToRawIntBits", "(F)I"⟩) ∈ lw_all) (h1 : (Cond.static ⟨"java/lang/Float", "floatToRawIntBits", "(F)I"⟩) ∈ lw_all) (h2 : (Cond.initialized "java/lang/Float") ∈ lw_all)  (hfr : 1 ≤ rm.frames) (hlo : (rest.map fun v => v.category).sum + 15 ≤ rm.locals) (d : decode cc pc = .ok (.invokestatic index, 3)) (k : GG wl E A (pc + 3) lv (.int b.toInt32 :: rest)) : GG wl E A pc lv (.float b :: rest) := fun H locs ls hP hS hl => vn_f2i X.ex X.cd (by rw [X.ml, ← X.nl]; exact hl.1.symm) X.ow (X.ws _ hw) (X.ws _ h0) (X.ws _ h1) (X.ws _ h2) (by rw [X.r]; exact hfr) (by rw [X.r]; exact hlo) d (k H locs ls hP hS hl)
theorem G_ni2f {wl : pfW} {E : pfE} {cc : ByteArray} {own : String} {rm : Room} {nL : Nat} {A : St} {pc : Nat} {lv : List (Nat × Value)} {rest : List Value} {index : Nat} {b : Int32} (X : CX wl E cc own rm nL) (hw : (Cond.methodLink own index ⟨"java/lang/Float", "intBitsToFloat", "(I)F"⟩) ∈ lw_all) (h0 : (Cond.native ⟨"java/lang/Float", "intBitsToFloat", "(I)F"⟩) ∈ lw_all) (h1 : (Cond.static ⟨"java/lang/Float", "intBitsToFloat", "(I)F"⟩) ∈ lw_all) (h2 : (Cond.initialized "java/lang/Float") ∈ lw_all) (hv : vn_sni2f b = false) (hfr : 1 ≤ rm.frames) (hlo : (rest.map fun v => v.category).sum + 15 ≤ rm.locals) (d : decode cc pc = .ok (.invokestatic index, 3)) (k : GG wl E A (pc + 3) lv (.float b.toUInt32 :: rest)) : GG wl E A pc lv (.int b :: rest) := fun H locs ls hP hS hl => vn_i2f X.ex X.cd (by rw [X.ml, ← X.nl]; exact hl.1.symm) X.ow (X.ws _ hw) (X.ws _ h0) (X.ws _ h1) (X.ws _ h2) hv (by rw [X.r]; exact hfr) (by rw [X.r]; exact hlo) d (k H locs ls hP hS hl)
/-! Contracts: from the state A, with the arguments vs, the method returns r and leaves A2. -/
abbrev Mt (l : Launch) (F : pfF) (wl : pfW) (y : MethodName) (bytes : ByteArray) (maxL : Nat) (ret : Option FieldType) (rz : Room) (vs : List Value) (A : St) (Qc : Array Value → State → Outcome → State → Prop) : Prop := Met l y (Cond.code y bytes maxL ret :: lw_all) rz (va_Pc vs (Wd wl F A)) Qc 0 0 (fA F)
def OkV (y : MethodName) (bytes : ByteArray) (maxL : Nat) (ret : Option FieldType) (n : Nat) : Prop := (Cond.instanceMethod y) ∈ lw_all ∧ (Cond.selects y.cls y y) ∈ lw_all ∧ (Cond.initialized y.cls) ∈ lw_all ∧ (Cond.code y bytes maxL ret) ∈ lw_all ∧ y.cls ≠ "java/lang/invoke/MethodHandle" ∧ y.cls ≠ "java/lang/invoke/VarHandle" ∧ (parseMethodDescriptor y.desc).map (fun d => d.parameters.length) = some n
def OkS (y : MethodName) (bytes : ByteArray) (maxL : Nat) (ret : Option FieldType) (n : Nat) : Prop := (Cond.static y) ∈ lw_all ∧ (Cond.initialized y.cls) ∈ lw_all ∧ (Cond.code y bytes maxL ret) ∈ lw_all ∧ y.cls ≠ "java/lang/invoke/MethodHandle" ∧ y.cls ≠ "java/lang/invoke/VarHandle" ∧ (parseMethodDescriptor y.desc).map (fun d => d.parameters.length) = some n
def RmOk (rz rm : Room) (maxL : Nat) : Prop := rz.cells = 0 ∧ rz.slots = 0 ∧ rz.frames + 1 ≤ rm.frames ∧ 8 + (maxL + 11) + rz.locals ≤ rm.locals
theorem okW {y : MethodName} {bytes : ByteArray} {maxL : Nat} {ret : Option FieldType} (h : (Cond.code y bytes maxL ret) ∈ lw_all) : GoodIn lw_all (Cond.code y bytes maxL ret :: lw_all) := fun w hw => by
  rcases List.mem_cons.mp hw with rfl | hw
  · exact lw_all_good _ h
  · exact lw_all_good _ hw
theorem G_callV_i {wl : pfW} {E : pfE} {cc : ByteArray} {own : String} {rm : Room} {nL : Nat} {A : St} {pc : Nat} {lv : List (Nat × Value)} {rest : List Value} {y : MethodName} {bytes : ByteArray} {maxL n index : Nat} {ret : Option FieldType} {rz : Room} {st As : List Value} {b ci : Nat} {fs : List Value} {q9 : vw_C} {r0 : Int32} {A2 : St} (X : CX wl E cc own rm nL) (ok : OkV y bytes maxL ret n) (hw : (Cond.methodLink own index y) ∈ lw_all) (q : Nat) (he : (wl (fAd (eF E)) (fCy (eF E)) A)[q]? = some (b, .inr (ci, fs))) (hc : vwCl[ci]? = some q9) (hcl : q9.1 = y.cls) (hrm : RmOk rz rm maxL) (hM : Mt (eL E) (eF E) wl y bytes maxL ret rz (.ref b :: As) A (va_Qi (fun (r : Int32) (u : St) => r = r0 ∧ u = A2) (Wd wl (eF E)) (fA (eF E)))) (hst : st = As.reverse ++ .ref b :: rest) (hn : As.length = n) (hW : (rest.map fun v => v.category).sum ≤ 8) (d : decode cc pc = .ok (.invokevirtual index, 3)) (k : GG wl E A2 (pc + 3) lv (.int r0 :: rest)) : GG wl E A pc lv st := by
  intro H locs ls hP hS hl
  refine va_calli (va_runV (C := y.cls) (As := As) (rest := rest) ⟨X.ex, X.cd, X.ml, X.ow, X.ws⟩ hM ⟨callB_of n X.ws (okW ok.2.2.2.1) rfl hrm.1 hrm.2.1 (X.ws _ ok.2.2.1) (X.ws _ hw) ⟨ok.2.2.2.2.1, ok.2.2.2.2.2.1, ok.2.2.2.2.2.2⟩ (by rw [X.r]; exact ⟨hrm.2.2.1, hrm.2.2.2⟩), X.ws _ ok.1, X.ws _ ok.2.1⟩ ⟨Wd.blind _ _ _ _, hcl ▸ va_recv X.k hP hc he, fun U hU hW => ⟨rfl, by rw [hU]; exact hP, X.fx.go hS hU hW⟩⟩ rfl hn (by rw [hl.1]; exact X.nl) hst (lv_room hW) d ⟨(by rw [X.r]; omega), (by rw [X.r]; omega)⟩) hS (fun q _ h => h) (fun q h => h) (fun r u t H1 locs1 ht hvm hw1 hB hz hk1 hS1 => ?_)
  obtain ⟨rfl, rfl⟩ := hw1
  exact k H1 locs1 ls (by rw [← ht]; exact hB.1) hS1 hl
theorem G_callS_i {wl : pfW} {E : pfE} {cc : ByteArray} {own : String} {rm : Room} {nL : Nat} {A : St} {pc : Nat} {lv : List (Nat × Value)} {rest : List Value} {y : MethodName} {bytes : ByteArray} {maxL n index : Nat} {ret : Option FieldType} {rz : Room} {st As : List Value}  {r0 : Int32} {A2 : St} (X : CX wl E cc own rm nL) (ok : OkS y bytes maxL ret n) (hw : (Cond.methodLink own index y) ∈ lw_all) (hrm : RmOk rz rm maxL) (hM : Mt (eL E) (eF E) wl y bytes maxL ret rz As A (va_Qi (fun (r : Int32) (u : St) => r = r0 ∧ u = A2) (Wd wl (eF E)) (fA (eF E)))) (hst : st = As.reverse ++ rest) (hn : As.length = n) (hW : (rest.map fun v => v.category).sum ≤ 8) (d : decode cc pc = .ok (.invokestatic index, 3)) (k : GG wl E A2 (pc + 3) lv (.int r0 :: rest)) : GG wl E A pc lv st := by
  intro H locs ls hP hS hl
  refine va_calli (va_runS (As := As) (rest := rest) ⟨X.ex, X.cd, X.ml, X.ow, X.ws⟩ hM ⟨callB_of n X.ws (okW ok.2.2.1) rfl hrm.1 hrm.2.1 (X.ws _ ok.2.1) (X.ws _ hw) ⟨ok.2.2.2.1, ok.2.2.2.2.1, ok.2.2.2.2.2⟩ (by rw [X.r]; exact ⟨hrm.2.2.1, hrm.2.2.2⟩), X.ws _ ok.1⟩ ⟨Wd.blind _ _ _ _, fun U hU hW => ⟨rfl, by rw [hU]; exact hP, X.fx.go hS hU hW⟩⟩ rfl hn (by rw [hl.1]; exact X.nl) hst (lv_room hW) d ⟨(by rw [X.r]; omega), (by rw [X.r]; omega)⟩) hS (fun q _ h => h) (fun q h => h) (fun r u t H1 locs1 ht hvm hw1 hB hz hk1 hS1 => ?_)
  obtain ⟨rfl, rfl⟩ := hw1
  exact k H1 locs1 ls (by rw [← ht]; exact hB.1) hS1 hl
theorem G_callSN_i {wl : pfW} {E : pfE} {cc : ByteArray} {own : String} {rm : Room} {nL : Nat} {A : St} {pc : Nat} {lv : List (Nat × Value)} {rest : List Value} {y : MethodName} {bytes : ByteArray} {maxL n index : Nat} {ret : Option FieldType} {rz : Room} {st As : List Value} {host : String} {r0 : Int32} {A2 : St} (X : CX wl E cc own rm nL) (ok : OkS y bytes maxL ret n) (hw : va_Nw (.methodLinkNest own index y host) (eS E)) (hrm : RmOk rz rm maxL) (hM : Mt (eL E) (eF E) wl y bytes maxL ret rz As A (va_Qi (fun (r : Int32) (u : St) => r = r0 ∧ u = A2) (Wd wl (eF E)) (fA (eF E)))) (hst : st = As.reverse ++ rest) (hn : As.length = n) (hW : (rest.map fun v => v.category).sum ≤ 8) (d : decode cc pc = .ok (.invokestatic index, 3)) (k : GG wl E A2 (pc + 3) lv (.int r0 :: rest)) : GG wl E A pc lv st := by
  intro H locs ls hP hS hl
  refine va_calli (va_runSN (As := As) (rest := rest) ⟨X.ex, X.cd, X.ml, X.ow, X.ws⟩ hM ⟨va_cnB n X.ws (okW ok.2.2.1) rfl hrm.1 hrm.2.1 hw (X.ws _ ok.2.1) ⟨ok.2.2.2.1, ok.2.2.2.2.1, ok.2.2.2.2.2⟩ (by rw [X.r]; exact ⟨hrm.2.2.1, hrm.2.2.2⟩), X.ws _ ok.1, trivial⟩ ⟨Wd.blind _ _ _ _, fun U hU hW => ⟨rfl, by rw [hU]; exact hP, X.fx.go hS hU hW⟩⟩ rfl hn (by rw [hl.1]; exact X.nl) hst (lv_room hW) d ⟨(by rw [X.r]; omega), (by rw [X.r]; omega)⟩) hS (fun q _ h => h) (fun q h => h) (fun r u t H1 locs1 ht hvm hw1 hB hz hk1 hS1 => ?_)
  obtain ⟨rfl, rfl⟩ := hw1
  exact k H1 locs1 ls (by rw [← ht]; exact hB.1) hS1 hl
theorem G_callV_l {wl : pfW} {E : pfE} {cc : ByteArray} {own : String} {rm : Room} {nL : Nat} {A : St} {pc : Nat} {lv : List (Nat × Value)} {rest : List Value} {y : MethodName} {bytes : ByteArray} {maxL n index : Nat} {ret : Option FieldType} {rz : Room} {st As : List Value} {b ci : Nat} {fs : List Value} {q9 : vw_C} {r0 : Int64} {A2 : St} (X : CX wl E cc own rm nL) (ok : OkV y bytes maxL ret n) (hw : (Cond.methodLink own index y) ∈ lw_all) (q : Nat) (he : (wl (fAd (eF E)) (fCy (eF E)) A)[q]? = some (b, .inr (ci, fs))) (hc : vwCl[ci]? = some q9) (hcl : q9.1 = y.cls) (hrm : RmOk rz rm maxL) (hM : Mt (eL E) (eF E) wl y bytes maxL ret rz (.ref b :: As) A (va_Ql (fun (r : Int64) (u : St) => r = r0 ∧ u = A2) (Wd wl (eF E)) (fA (eF E)))) (hst : st = As.reverse ++ .ref b :: rest) (hn : As.length = n) (hW : (rest.map fun v => v.category).sum ≤ 8) (d : decode cc pc = .ok (.invokevirtual index, 3)) (k : GG wl E A2 (pc + 3) lv (.long r0 :: rest)) : GG wl E A pc lv st := by
  intro H locs ls hP hS hl
  refine va_calll (va_runV (C := y.cls) (As := As) (rest := rest) ⟨X.ex, X.cd, X.ml, X.ow, X.ws⟩ hM ⟨callB_of n X.ws (okW ok.2.2.2.1) rfl hrm.1 hrm.2.1 (X.ws _ ok.2.2.1) (X.ws _ hw) ⟨ok.2.2.2.2.1, ok.2.2.2.2.2.1, ok.2.2.2.2.2.2⟩ (by rw [X.r]; exact ⟨hrm.2.2.1, hrm.2.2.2⟩), X.ws _ ok.1, X.ws _ ok.2.1⟩ ⟨Wd.blind _ _ _ _, hcl ▸ va_recv X.k hP hc he, fun U hU hW => ⟨rfl, by rw [hU]; exact hP, X.fx.go hS hU hW⟩⟩ rfl hn (by rw [hl.1]; exact X.nl) hst (lv_room hW) d ⟨(by rw [X.r]; omega), (by rw [X.r]; omega)⟩) hS (fun q _ h => h) (fun q h => h) (fun r u t H1 locs1 ht hvm hw1 hB hz hk1 hS1 => ?_)
  obtain ⟨rfl, rfl⟩ := hw1
  exact k H1 locs1 ls (by rw [← ht]; exact hB.1) hS1 hl
theorem G_callS_l {wl : pfW} {E : pfE} {cc : ByteArray} {own : String} {rm : Room} {nL : Nat} {A : St} {pc : Nat} {lv : List (Nat × Value)} {rest : List Value} {y : MethodName} {bytes : ByteArray} {maxL n index : Nat} {ret : Option FieldType} {rz : Room} {st As : List Value}  {r0 : Int64} {A2 : St} (X : CX wl E cc own rm nL) (ok : OkS y bytes maxL ret n) (hw : (Cond.methodLink own index y) ∈ lw_all) (hrm : RmOk rz rm maxL) (hM : Mt (eL E) (eF E) wl y bytes maxL ret rz As A (va_Ql (fun (r : Int64) (u : St) => r = r0 ∧ u = A2) (Wd wl (eF E)) (fA (eF E)))) (hst : st = As.reverse ++ rest) (hn : As.length = n) (hW : (rest.map fun v => v.category).sum ≤ 8) (d : decode cc pc = .ok (.invokestatic index, 3)) (k : GG wl E A2 (pc + 3) lv (.long r0 :: rest)) : GG wl E A pc lv st := by
  intro H locs ls hP hS hl
  refine va_calll (va_runS (As := As) (rest := rest) ⟨X.ex, X.cd, X.ml, X.ow, X.ws⟩ hM ⟨callB_of n X.ws (okW ok.2.2.1) rfl hrm.1 hrm.2.1 (X.ws _ ok.2.1) (X.ws _ hw) ⟨ok.2.2.2.1, ok.2.2.2.2.1, ok.2.2.2.2.2⟩ (by rw [X.r]; exact ⟨hrm.2.2.1, hrm.2.2.2⟩), X.ws _ ok.1⟩ ⟨Wd.blind _ _ _ _, fun U hU hW => ⟨rfl, by rw [hU]; exact hP, X.fx.go hS hU hW⟩⟩ rfl hn (by rw [hl.1]; exact X.nl) hst (lv_room hW) d ⟨(by rw [X.r]; omega), (by rw [X.r]; omega)⟩) hS (fun q _ h => h) (fun q h => h) (fun r u t H1 locs1 ht hvm hw1 hB hz hk1 hS1 => ?_)
  obtain ⟨rfl, rfl⟩ := hw1
  exact k H1 locs1 ls (by rw [← ht]; exact hB.1) hS1 hl
theorem G_callV_f {wl : pfW} {E : pfE} {cc : ByteArray} {own : String} {rm : Room} {nL : Nat} {A : St} {pc : Nat} {lv : List (Nat × Value)} {rest : List Value} {y : MethodName} {bytes : ByteArray} {maxL n index : Nat} {ret : Option FieldType} {rz : Room} {st As : List Value} {b ci : Nat} {fs : List Value} {q9 : vw_C} {r0 : UInt32} {A2 : St} (X : CX wl E cc own rm nL) (ok : OkV y bytes maxL ret n) (hw : (Cond.methodLink own index y) ∈ lw_all) (q : Nat) (he : (wl (fAd (eF E)) (fCy (eF E)) A)[q]? = some (b, .inr (ci, fs))) (hc : vwCl[ci]? = some q9) (hcl : q9.1 = y.cls) (hrm : RmOk rz rm maxL) (hM : Mt (eL E) (eF E) wl y bytes maxL ret rz (.ref b :: As) A (va_Qf (fun (r : UInt32) (u : St) => r = r0 ∧ u = A2) (Wd wl (eF E)) (fA (eF E)))) (hst : st = As.reverse ++ .ref b :: rest) (hn : As.length = n) (hW : (rest.map fun v => v.category).sum ≤ 8) (d : decode cc pc = .ok (.invokevirtual index, 3)) (k : GG wl E A2 (pc + 3) lv (.float r0 :: rest)) : GG wl E A pc lv st := by
  intro H locs ls hP hS hl
  refine va_callf (va_runV (C := y.cls) (As := As) (rest := rest) ⟨X.ex, X.cd, X.ml, X.ow, X.ws⟩ hM ⟨callB_of n X.ws (okW ok.2.2.2.1) rfl hrm.1 hrm.2.1 (X.ws _ ok.2.2.1) (X.ws _ hw) ⟨ok.2.2.2.2.1, ok.2.2.2.2.2.1, ok.2.2.2.2.2.2⟩ (by rw [X.r]; exact ⟨hrm.2.2.1, hrm.2.2.2⟩), X.ws _ ok.1, X.ws _ ok.2.1⟩ ⟨Wd.blind _ _ _ _, hcl ▸ va_recv X.k hP hc he, fun U hU hW => ⟨rfl, by rw [hU]; exact hP, X.fx.go hS hU hW⟩⟩ rfl hn (by rw [hl.1]; exact X.nl) hst (lv_room hW) d ⟨(by rw [X.r]; omega), (by rw [X.r]; omega)⟩) hS (fun q _ h => h) (fun q h => h) (fun r u t H1 locs1 ht hvm hw1 hB hz hk1 hS1 => ?_)
  obtain ⟨rfl, rfl⟩ := hw1
  exact k H1 locs1 ls (by rw [← ht]; exact hB.1) hS1 hl
theorem G_callS_f {wl : pfW} {E : pfE} {cc : ByteArray} {own : String} {rm : Room} {nL : Nat} {A : St} {pc : Nat} {lv : List (Nat × Value)} {rest : List Value} {y : MethodName} {bytes : ByteArray} {maxL n index : Nat} {ret : Option FieldType} {rz : Room} {st As : List Value}  {r0 : UInt32} {A2 : St} (X : CX wl E cc own rm nL) (ok : OkS y bytes maxL ret n) (hw : (Cond.methodLink own index y) ∈ lw_all) (hrm : RmOk rz rm maxL) (hM : Mt (eL E) (eF E) wl y bytes maxL ret rz As A (va_Qf (fun (r : UInt32) (u : St) => r = r0 ∧ u = A2) (Wd wl (eF E)) (fA (eF E)))) (hst : st = As.reverse ++ rest) (hn : As.length = n) (hW : (rest.map fun v => v.category).sum ≤ 8) (d : decode cc pc = .ok (.invokestatic index, 3)) (k : GG wl E A2 (pc + 3) lv (.float r0 :: rest)) : GG wl E A pc lv st := by
  intro H locs ls hP hS hl
  refine va_callf (va_runS (As := As) (rest := rest) ⟨X.ex, X.cd, X.ml, X.ow, X.ws⟩ hM ⟨callB_of n X.ws (okW ok.2.2.1) rfl hrm.1 hrm.2.1 (X.ws _ ok.2.1) (X.ws _ hw) ⟨ok.2.2.2.1, ok.2.2.2.2.1, ok.2.2.2.2.2⟩ (by rw [X.r]; exact ⟨hrm.2.2.1, hrm.2.2.2⟩), X.ws _ ok.1⟩ ⟨Wd.blind _ _ _ _, fun U hU hW => ⟨rfl, by rw [hU]; exact hP, X.fx.go hS hU hW⟩⟩ rfl hn (by rw [hl.1]; exact X.nl) hst (lv_room hW) d ⟨(by rw [X.r]; omega), (by rw [X.r]; omega)⟩) hS (fun q _ h => h) (fun q h => h) (fun r u t H1 locs1 ht hvm hw1 hB hz hk1 hS1 => ?_)
  obtain ⟨rfl, rfl⟩ := hw1
  exact k H1 locs1 ls (by rw [← ht]; exact hB.1) hS1 hl
theorem G_callV_d {wl : pfW} {E : pfE} {cc : ByteArray} {own : String} {rm : Room} {nL : Nat} {A : St} {pc : Nat} {lv : List (Nat × Value)} {rest : List Value} {y : MethodName} {bytes : ByteArray} {maxL n index : Nat} {ret : Option FieldType} {rz : Room} {st As : List Value} {b ci : Nat} {fs : List Value} {q9 : vw_C} {r0 : UInt64} {A2 : St} (X : CX wl E cc own rm nL) (ok : OkV y bytes maxL ret n) (hw : (Cond.methodLink own index y) ∈ lw_all) (q : Nat) (he : (wl (fAd (eF E)) (fCy (eF E)) A)[q]? = some (b, .inr (ci, fs))) (hc : vwCl[ci]? = some q9) (hcl : q9.1 = y.cls) (hrm : RmOk rz rm maxL) (hM : Mt (eL E) (eF E) wl y bytes maxL ret rz (.ref b :: As) A (va_Qd (fun (r : UInt64) (u : St) => r = r0 ∧ u = A2) (Wd wl (eF E)) (fA (eF E)))) (hst : st = As.reverse ++ .ref b :: rest) (hn : As.length = n) (hW : (rest.map fun v => v.category).sum ≤ 8) (d : decode cc pc = .ok (.invokevirtual index, 3)) (k : GG wl E A2 (pc + 3) lv (.double r0 :: rest)) : GG wl E A pc lv st := by
  intro H locs ls hP hS hl
  refine va_calld (va_runV (C := y.cls) (As := As) (rest := rest) ⟨X.ex, X.cd, X.ml, X.ow, X.ws⟩ hM ⟨callB_of n X.ws (okW ok.2.2.2.1) rfl hrm.1 hrm.2.1 (X.ws _ ok.2.2.1) (X.ws _ hw) ⟨ok.2.2.2.2.1, ok.2.2.2.2.2.1, ok.2.2.2.2.2.2⟩ (by rw [X.r]; exact ⟨hrm.2.2.1, hrm.2.2.2⟩), X.ws _ ok.1, X.ws _ ok.2.1⟩ ⟨Wd.blind _ _ _ _, hcl ▸ va_recv X.k hP hc he, fun U hU hW => ⟨rfl, by rw [hU]; exact hP, X.fx.go hS hU hW⟩⟩ rfl hn (by rw [hl.1]; exact X.nl) hst (lv_room hW) d ⟨(by rw [X.r]; omega), (by rw [X.r]; omega)⟩) hS (fun q _ h => h) (fun q h => h) (fun r u t H1 locs1 ht hvm hw1 hB hz hk1 hS1 => ?_)
  obtain ⟨rfl, rfl⟩ := hw1
  exact k H1 locs1 ls (by rw [← ht]; exact hB.1) hS1 hl
theorem G_callS_d {wl : pfW} {E : pfE} {cc : ByteArray} {own : String} {rm : Room} {nL : Nat} {A : St} {pc : Nat} {lv : List (Nat × Value)} {rest : List Value} {y : MethodName} {bytes : ByteArray} {maxL n index : Nat} {ret : Option FieldType} {rz : Room} {st As : List Value}  {r0 : UInt64} {A2 : St} (X : CX wl E cc own rm nL) (ok : OkS y bytes maxL ret n) (hw : (Cond.methodLink own index y) ∈ lw_all) (hrm : RmOk rz rm maxL) (hM : Mt (eL E) (eF E) wl y bytes maxL ret rz As A (va_Qd (fun (r : UInt64) (u : St) => r = r0 ∧ u = A2) (Wd wl (eF E)) (fA (eF E)))) (hst : st = As.reverse ++ rest) (hn : As.length = n) (hW : (rest.map fun v => v.category).sum ≤ 8) (d : decode cc pc = .ok (.invokestatic index, 3)) (k : GG wl E A2 (pc + 3) lv (.double r0 :: rest)) : GG wl E A pc lv st := by
  intro H locs ls hP hS hl
  refine va_calld (va_runS (As := As) (rest := rest) ⟨X.ex, X.cd, X.ml, X.ow, X.ws⟩ hM ⟨callB_of n X.ws (okW ok.2.2.1) rfl hrm.1 hrm.2.1 (X.ws _ ok.2.1) (X.ws _ hw) ⟨ok.2.2.2.1, ok.2.2.2.2.1, ok.2.2.2.2.2⟩ (by rw [X.r]; exact ⟨hrm.2.2.1, hrm.2.2.2⟩), X.ws _ ok.1⟩ ⟨Wd.blind _ _ _ _, fun U hU hW => ⟨rfl, by rw [hU]; exact hP, X.fx.go hS hU hW⟩⟩ rfl hn (by rw [hl.1]; exact X.nl) hst (lv_room hW) d ⟨(by rw [X.r]; omega), (by rw [X.r]; omega)⟩) hS (fun q _ h => h) (fun q h => h) (fun r u t H1 locs1 ht hvm hw1 hB hz hk1 hS1 => ?_)
  obtain ⟨rfl, rfl⟩ := hw1
  exact k H1 locs1 ls (by rw [← ht]; exact hB.1) hS1 hl
theorem G_callV_v {wl : pfW} {E : pfE} {cc : ByteArray} {own : String} {rm : Room} {nL : Nat} {A : St} {pc : Nat} {lv : List (Nat × Value)} {rest : List Value} {y : MethodName} {bytes : ByteArray} {maxL n index : Nat} {ret : Option FieldType} {rz : Room} {st As : List Value} {b ci : Nat} {fs : List Value} {q9 : vw_C} {A2 : St} (X : CX wl E cc own rm nL) (ok : OkV y bytes maxL ret n) (hw : (Cond.methodLink own index y) ∈ lw_all) (q : Nat) (he : (wl (fAd (eF E)) (fCy (eF E)) A)[q]? = some (b, .inr (ci, fs))) (hc : vwCl[ci]? = some q9) (hcl : q9.1 = y.cls) (hrm : RmOk rz rm maxL) (hM : Mt (eL E) (eF E) wl y bytes maxL ret rz (.ref b :: As) A (va_Qv (fun (u : St) => u = A2) (Wd wl (eF E)) (fA (eF E)))) (hst : st = As.reverse ++ .ref b :: rest) (hn : As.length = n) (hW : (rest.map fun v => v.category).sum ≤ 8) (d : decode cc pc = .ok (.invokevirtual index, 3)) (k : GG wl E A2 (pc + 3) lv (rest)) : GG wl E A pc lv st := by
  intro H locs ls hP hS hl
  refine va_callv (va_runV (C := y.cls) (As := As) (rest := rest) ⟨X.ex, X.cd, X.ml, X.ow, X.ws⟩ hM ⟨callB_of n X.ws (okW ok.2.2.2.1) rfl hrm.1 hrm.2.1 (X.ws _ ok.2.2.1) (X.ws _ hw) ⟨ok.2.2.2.2.1, ok.2.2.2.2.2.1, ok.2.2.2.2.2.2⟩ (by rw [X.r]; exact ⟨hrm.2.2.1, hrm.2.2.2⟩), X.ws _ ok.1, X.ws _ ok.2.1⟩ ⟨Wd.blind _ _ _ _, hcl ▸ va_recv X.k hP hc he, fun U hU hW => ⟨rfl, by rw [hU]; exact hP, X.fx.go hS hU hW⟩⟩ rfl hn (by rw [hl.1]; exact X.nl) hst (lv_room hW) d ⟨(by rw [X.r]; omega), (by rw [X.r]; omega)⟩) hS (fun q _ h => h) (fun q h => h) (fun u t H1 locs1 ht hvm hw1 hB hz hk1 hS1 => ?_)
  obtain rfl := hw1
  exact k H1 locs1 ls (by rw [← ht]; exact hB.1) hS1 hl
theorem G_callS_v {wl : pfW} {E : pfE} {cc : ByteArray} {own : String} {rm : Room} {nL : Nat} {A : St} {pc : Nat} {lv : List (Nat × Value)} {rest : List Value} {y : MethodName} {bytes : ByteArray} {maxL n index : Nat} {ret : Option FieldType} {rz : Room} {st As : List Value}  {A2 : St} (X : CX wl E cc own rm nL) (ok : OkS y bytes maxL ret n) (hw : (Cond.methodLink own index y) ∈ lw_all) (hrm : RmOk rz rm maxL) (hM : Mt (eL E) (eF E) wl y bytes maxL ret rz As A (va_Qv (fun (u : St) => u = A2) (Wd wl (eF E)) (fA (eF E)))) (hst : st = As.reverse ++ rest) (hn : As.length = n) (hW : (rest.map fun v => v.category).sum ≤ 8) (d : decode cc pc = .ok (.invokestatic index, 3)) (k : GG wl E A2 (pc + 3) lv (rest)) : GG wl E A pc lv st := by
  intro H locs ls hP hS hl
  refine va_callv (va_runS (As := As) (rest := rest) ⟨X.ex, X.cd, X.ml, X.ow, X.ws⟩ hM ⟨callB_of n X.ws (okW ok.2.2.1) rfl hrm.1 hrm.2.1 (X.ws _ ok.2.1) (X.ws _ hw) ⟨ok.2.2.2.1, ok.2.2.2.2.1, ok.2.2.2.2.2⟩ (by rw [X.r]; exact ⟨hrm.2.2.1, hrm.2.2.2⟩), X.ws _ ok.1⟩ ⟨Wd.blind _ _ _ _, fun U hU hW => ⟨rfl, by rw [hU]; exact hP, X.fx.go hS hU hW⟩⟩ rfl hn (by rw [hl.1]; exact X.nl) hst (lv_room hW) d ⟨(by rw [X.r]; omega), (by rw [X.r]; omega)⟩) hS (fun q _ h => h) (fun q h => h) (fun u t H1 locs1 ht hvm hw1 hB hz hk1 hS1 => ?_)
  obtain rfl := hw1
  exact k H1 locs1 ls (by rw [← ht]; exact hB.1) hS1 hl
theorem Met.ofWF {l : Launch} {y : MethodName} {ws ws' : List Cond} {rm : Room} {Pc : Array Value → State → Prop} {Qc : Array Value → State → Outcome → State → Prop} {mc ms : Nat} {free : Addr → Prop} {cc : ByteArray} {maxL : Nat} {ret : Option FieldType}
    (hy : plainFor y = true) (hw : ws = Cond.code y cc maxL ret :: ws')
    (body : ∀ p e s m args below meth c s₁, BodyLoose p l y (headSpec ws rm) cc maxL ret e s m args below meth c s₁ → c.maxLocals = maxL → Pc args s →
      W p l e (headSpec ws rm).room s m args below meth c s.heap [] 0 0 (MQ below Qc args s mc ms free) (entryFrame m args maxL)) : Met l y ws rm Pc Qc mc ms free := by
  refine MetFree.of_bodySF (code := cc) (maxLocals := maxL) (ret := ret) hy ?_ ?_
  · intro args s m h hn
    obtain ⟨meth, c, h1, h2, h3, h4, h5, h6, -, -⟩ := Cond.code_spec hn (atoms_spec (ws := ws) h _ (by rw [hw]; exact List.mem_cons_self))
    exact ⟨meth, c, h1, h2, h3, h4, h5, h6⟩
  · intro p e s m args below meth c s₁ B hml hP _
    have hh0 : s₁.heap = s.heap := by rw [B.state]; rfl
    obtain ⟨t, a1, o, b1, b2, b3⟩ := body p e s m args below meth c s₁ B hml hP s₁ hh0 (Stand.of_body B)
    exact ⟨t, o, a1, b1, b2, ⟨b3.1, b3.2⟩⟩
/-! Returns. -/
def Reti (wl : pfW) (E : pfE) (cc : ByteArray) (r : Int32) (A : St) : Prop := ∀ (pc : Nat) (lv : List (Nat × Value)), decode cc pc = .ok (.ireturn, 1) → GG wl E A pc lv [.int r]
def Retl (wl : pfW) (E : pfE) (cc : ByteArray) (r : Int64) (A : St) : Prop := ∀ (pc : Nat) (lv : List (Nat × Value)), decode cc pc = .ok (.lreturn, 1) → GG wl E A pc lv [.long r]
def Retf (wl : pfW) (E : pfE) (cc : ByteArray) (r : UInt32) (A : St) : Prop := ∀ (pc : Nat) (lv : List (Nat × Value)), decode cc pc = .ok (.freturn, 1) → GG wl E A pc lv [.float r]
def Retd (wl : pfW) (E : pfE) (cc : ByteArray) (r : UInt64) (A : St) : Prop := ∀ (pc : Nat) (lv : List (Nat × Value)), decode cc pc = .ok (.dreturn, 1) → GG wl E A pc lv [.double r]
def Retv (wl : pfW) (E : pfE) (cc : ByteArray) (A : St) : Prop := ∀ (pc : Nat) (lv : List (Nat × Value)), decode cc pc = .ok (.return_, 1) → GG wl E A pc lv []
set_option maxHeartbeats 1000000 in
theorem Met_i {l : Launch} {F : pfF} {wl : pfW} {y : MethodName} {bytes : ByteArray} {maxL : Nat} {rz : Room} {vs : List Value} {A A2 : St} {r0 : Int32} (hy : plainFor y = true) (hlen : (lg_sl vs).length ≤ maxL) (hD : ∀ A, va_D (fA F) (wl (fAd F) (fCy F) A)) (body : ∀ E : pfE, eL E = l → eF E = F → CX wl E bytes y.cls rz maxL → Reti wl E bytes r0 A2 → GG wl E A 0 (lv_args 0 vs) []) : Mt l F wl y bytes maxL (some .int) rz vs A (va_Qi (fun (r : Int32) (u : St) => r = r0 ∧ u = A2) (Wd wl F) (fA F)) := by
  refine Met.ofWF (cc := bytes) (maxL := maxL) (ret := (some .int)) hy rfl ?_
  intro p e s m args below meth c s₁ B hml hv
  obtain ⟨rfl, hP0, hfx⟩ := hv
  have hts := atoms_spec (ws := Cond.code y bytes maxL (some .int) :: lw_all) B.pre
  have hown : s.vm.findClass y.cls = some m.cls := findClass_of_methodNamed B.named
  have hlocks := B.notSynchronized
  have hl := lv_entry vs (n := maxL) hlen
  rw [lg_entry_eq]
  generalize (lg_sl vs ++ List.replicate (maxL - (lg_sl vs).length) Slot.unset).toArray = ls at hl ⊢
  refine body (p, l, e, _, s, m, vs.toArray, below, meth, c, _, maxL, F) rfl rfl ⟨B.exec, B.bytes, hml, rfl, hown, fun w hw => hts w (List.mem_cons_of_mem _ hw), rfl, hfx, hD⟩ ?_ s.heap [] ls hP0 va_S.rf hl
  intro pc lv d H locs ls hP hS hl
  exact W.iret (v := r0) B.exec B.bytes B.returns (fun t ht hW => ⟨⟨r0, A2, rfl, ⟨rfl, rfl⟩, by rw [ht]; exact hP, (hfx).go hS ht hW⟩, hS.F ht⟩) hS.2.2 d
set_option maxHeartbeats 1000000 in
theorem Met_iz {l : Launch} {F : pfF} {wl : pfW} {y : MethodName} {bytes : ByteArray} {maxL : Nat} {rz : Room} {vs : List Value} {A A2 : St} {r0 : Int32} (hy : plainFor y = true) (hlen : (lg_sl vs).length ≤ maxL) (hD : ∀ A, va_D (fA F) (wl (fAd F) (fCy F) A)) (hz : narrow .boolean (.int r0) = .int r0) (body : ∀ E : pfE, eL E = l → eF E = F → CX wl E bytes y.cls rz maxL → Reti wl E bytes r0 A2 → GG wl E A 0 (lv_args 0 vs) []) : Mt l F wl y bytes maxL (some .boolean) rz vs A (va_Qi (fun (r : Int32) (u : St) => r = r0 ∧ u = A2) (Wd wl F) (fA F)) := by
  refine Met.ofWF (cc := bytes) (maxL := maxL) (ret := (some .boolean)) hy rfl ?_
  intro p e s m args below meth c s₁ B hml hv
  obtain ⟨rfl, hP0, hfx⟩ := hv
  have hts := atoms_spec (ws := Cond.code y bytes maxL (some .boolean) :: lw_all) B.pre
  have hown : s.vm.findClass y.cls = some m.cls := findClass_of_methodNamed B.named
  have hlocks := B.notSynchronized
  have hl := lv_entry vs (n := maxL) hlen
  rw [lg_entry_eq]
  generalize (lg_sl vs ++ List.replicate (maxL - (lg_sl vs).length) Slot.unset).toArray = ls at hl ⊢
  refine body (p, l, e, _, s, m, vs.toArray, below, meth, c, _, maxL, F) rfl rfl ⟨B.exec, B.bytes, hml, rfl, hown, fun w hw => hts w (List.mem_cons_of_mem _ hw), rfl, hfx, hD⟩ ?_ s.heap [] ls hP0 va_S.rf hl
  intro pc lv d H locs ls hP hS hl
  exact W.zret (v := r0) B.exec B.bytes B.returns hz (fun t ht hW => ⟨⟨r0, A2, rfl, ⟨rfl, rfl⟩, by rw [ht]; exact hP, (hfx).go hS ht hW⟩, hS.F ht⟩) hS.2.2 d
set_option maxHeartbeats 1000000 in
theorem Met_l {l : Launch} {F : pfF} {wl : pfW} {y : MethodName} {bytes : ByteArray} {maxL : Nat} {rz : Room} {vs : List Value} {A A2 : St} {r0 : Int64} (hy : plainFor y = true) (hlen : (lg_sl vs).length ≤ maxL) (hD : ∀ A, va_D (fA F) (wl (fAd F) (fCy F) A)) (body : ∀ E : pfE, eL E = l → eF E = F → CX wl E bytes y.cls rz maxL → Retl wl E bytes r0 A2 → GG wl E A 0 (lv_args 0 vs) []) : Mt l F wl y bytes maxL (some .long) rz vs A (va_Ql (fun (r : Int64) (u : St) => r = r0 ∧ u = A2) (Wd wl F) (fA F)) := by
  refine Met.ofWF (cc := bytes) (maxL := maxL) (ret := (some .long)) hy rfl ?_
  intro p e s m args below meth c s₁ B hml hv
  obtain ⟨rfl, hP0, hfx⟩ := hv
  have hts := atoms_spec (ws := Cond.code y bytes maxL (some .long) :: lw_all) B.pre
  have hown : s.vm.findClass y.cls = some m.cls := findClass_of_methodNamed B.named
  have hlocks := B.notSynchronized
  have hl := lv_entry vs (n := maxL) hlen
  rw [lg_entry_eq]
  generalize (lg_sl vs ++ List.replicate (maxL - (lg_sl vs).length) Slot.unset).toArray = ls at hl ⊢
  refine body (p, l, e, _, s, m, vs.toArray, below, meth, c, _, maxL, F) rfl rfl ⟨B.exec, B.bytes, hml, rfl, hown, fun w hw => hts w (List.mem_cons_of_mem _ hw), rfl, hfx, hD⟩ ?_ s.heap [] ls hP0 va_S.rf hl
  intro pc lv d H locs ls hP hS hl
  exact W.lret (v := r0) B.exec B.bytes B.returns (fun t ht hW => ⟨⟨r0, A2, rfl, ⟨rfl, rfl⟩, by rw [ht]; exact hP, (hfx).go hS ht hW⟩, hS.F ht⟩) hS.2.2 d
set_option maxHeartbeats 1000000 in
theorem Met_f {l : Launch} {F : pfF} {wl : pfW} {y : MethodName} {bytes : ByteArray} {maxL : Nat} {rz : Room} {vs : List Value} {A A2 : St} {r0 : UInt32} (hy : plainFor y = true) (hlen : (lg_sl vs).length ≤ maxL) (hD : ∀ A, va_D (fA F) (wl (fAd F) (fCy F) A)) (body : ∀ E : pfE, eL E = l → eF E = F → CX wl E bytes y.cls rz maxL → Retf wl E bytes r0 A2 → GG wl E A 0 (lv_args 0 vs) []) : Mt l F wl y bytes maxL (some .float) rz vs A (va_Qf (fun (r : UInt32) (u : St) => r = r0 ∧ u = A2) (Wd wl F) (fA F)) := by
  refine Met.ofWF (cc := bytes) (maxL := maxL) (ret := (some .float)) hy rfl ?_
  intro p e s m args below meth c s₁ B hml hv
  obtain ⟨rfl, hP0, hfx⟩ := hv
  have hts := atoms_spec (ws := Cond.code y bytes maxL (some .float) :: lw_all) B.pre
  have hown : s.vm.findClass y.cls = some m.cls := findClass_of_methodNamed B.named
  have hlocks := B.notSynchronized
  have hl := lv_entry vs (n := maxL) hlen
  rw [lg_entry_eq]
  generalize (lg_sl vs ++ List.replicate (maxL - (lg_sl vs).length) Slot.unset).toArray = ls at hl ⊢
  refine body (p, l, e, _, s, m, vs.toArray, below, meth, c, _, maxL, F) rfl rfl ⟨B.exec, B.bytes, hml, rfl, hown, fun w hw => hts w (List.mem_cons_of_mem _ hw), rfl, hfx, hD⟩ ?_ s.heap [] ls hP0 va_S.rf hl
  intro pc lv d H locs ls hP hS hl
  exact W.fret (v := r0) B.exec B.bytes B.returns (fun t ht hW => ⟨⟨r0, A2, rfl, ⟨rfl, rfl⟩, by rw [ht]; exact hP, (hfx).go hS ht hW⟩, hS.F ht⟩) hS.2.2 d
set_option maxHeartbeats 1000000 in
theorem Met_d {l : Launch} {F : pfF} {wl : pfW} {y : MethodName} {bytes : ByteArray} {maxL : Nat} {rz : Room} {vs : List Value} {A A2 : St} {r0 : UInt64} (hy : plainFor y = true) (hlen : (lg_sl vs).length ≤ maxL) (hD : ∀ A, va_D (fA F) (wl (fAd F) (fCy F) A)) (body : ∀ E : pfE, eL E = l → eF E = F → CX wl E bytes y.cls rz maxL → Retd wl E bytes r0 A2 → GG wl E A 0 (lv_args 0 vs) []) : Mt l F wl y bytes maxL (some .double) rz vs A (va_Qd (fun (r : UInt64) (u : St) => r = r0 ∧ u = A2) (Wd wl F) (fA F)) := by
  refine Met.ofWF (cc := bytes) (maxL := maxL) (ret := (some .double)) hy rfl ?_
  intro p e s m args below meth c s₁ B hml hv
  obtain ⟨rfl, hP0, hfx⟩ := hv
  have hts := atoms_spec (ws := Cond.code y bytes maxL (some .double) :: lw_all) B.pre
  have hown : s.vm.findClass y.cls = some m.cls := findClass_of_methodNamed B.named
  have hlocks := B.notSynchronized
  have hl := lv_entry vs (n := maxL) hlen
  rw [lg_entry_eq]
  generalize (lg_sl vs ++ List.replicate (maxL - (lg_sl vs).length) Slot.unset).toArray = ls at hl ⊢
  refine body (p, l, e, _, s, m, vs.toArray, below, meth, c, _, maxL, F) rfl rfl ⟨B.exec, B.bytes, hml, rfl, hown, fun w hw => hts w (List.mem_cons_of_mem _ hw), rfl, hfx, hD⟩ ?_ s.heap [] ls hP0 va_S.rf hl
  intro pc lv d H locs ls hP hS hl
  exact W.dret (v := r0) B.exec B.bytes B.returns (fun t ht hW => ⟨⟨r0, A2, rfl, ⟨rfl, rfl⟩, by rw [ht]; exact hP, (hfx).go hS ht hW⟩, hS.F ht⟩) hS.2.2 d
set_option maxHeartbeats 1000000 in
theorem Met_v {l : Launch} {F : pfF} {wl : pfW} {y : MethodName} {bytes : ByteArray} {maxL : Nat} {rz : Room} {vs : List Value} {A A2 : St} (hy : plainFor y = true) (hlen : (lg_sl vs).length ≤ maxL) (hD : ∀ A, va_D (fA F) (wl (fAd F) (fCy F) A)) (body : ∀ E : pfE, eL E = l → eF E = F → CX wl E bytes y.cls rz maxL → Retv wl E bytes A2 → GG wl E A 0 (lv_args 0 vs) []) : Mt l F wl y bytes maxL none rz vs A (va_Qv (fun (u : St) => u = A2) (Wd wl F) (fA F)) := by
  refine Met.ofWF (cc := bytes) (maxL := maxL) (ret := none) hy rfl ?_
  intro p e s m args below meth c s₁ B hml hv
  obtain ⟨rfl, hP0, hfx⟩ := hv
  have hts := atoms_spec (ws := Cond.code y bytes maxL none :: lw_all) B.pre
  have hown : s.vm.findClass y.cls = some m.cls := findClass_of_methodNamed B.named
  have hlocks := B.notSynchronized
  have hl := lv_entry vs (n := maxL) hlen
  rw [lg_entry_eq]
  generalize (lg_sl vs ++ List.replicate (maxL - (lg_sl vs).length) Slot.unset).toArray = ls at hl ⊢
  refine body (p, l, e, _, s, m, vs.toArray, below, meth, c, _, maxL, F) rfl rfl ⟨B.exec, B.bytes, hml, rfl, hown, fun w hw => hts w (List.mem_cons_of_mem _ hw), rfl, hfx, hD⟩ ?_ s.heap [] ls hP0 va_S.rf hl
  intro pc lv d H locs ls hP hS hl
  exact W.vret B.exec B.bytes B.returns (fun t ht hW => ⟨⟨A2, rfl, rfl, by rw [ht]; exact hP, (hfx).go hS ht hW⟩, hS.F ht⟩) hS.2.2 d
