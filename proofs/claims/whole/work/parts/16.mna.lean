/-! new T[n][m]: the outer array and its rows, at addresses in a row -/
theorem mn_outer (c : ClassId) (N h0 : Nat) : ∀ i : Nat, Jvm.Free.Multi.outerC c N h0 i = arrV c N (fun j => va_rf (if j < i then some (h0 + 1 + j) else none))
  | 0 => by
    show ({ cls := c, slots := Array.replicate N .null, vm := .none } : Cell) = _
    rw [arrV_new]
    refine congrArg (arrV c N) (funext fun j => ?_)
    simp [va_rf]
  | i + 1 => by
    show (Jvm.Free.Multi.outerC c N h0 i).setSlot i (.ref (h0 + 1 + i)) = _
    rw [mn_outer c N h0 i, arrV_store]
    refine congrArg (arrV c N) (funext fun j => ?_)
    by_cases e : j = i
    · subst e
      simp [updV, va_rf]
    · by_cases h : j < i
      · simp [updV, e, h, Nat.lt_succ_of_lt h]
      · simp [updV, e, h, show ¬ j < i + 1 by omega]
theorem H_mna {E : pfE} {cc : ByteArray} {own : String} {rm : Room} {nL : Nat} {ws : va_W} {k n pc N K c1 c2 index : Nat} {lv : List (Nat × Value)} {rest : List Value} {i j : Int32} {ty : FieldType} {z : vp_A} (X : HX E cc own rm nL) (hao : va_Ao (.array ty) (eS E)) (h1 : (Cond.classLink own index ("[" ++ (FieldType.array ty).toString)) ∈ lw_all) (h2 : (Cond.arrayClass ty) ∈ lw_all)
    (hc1 : (eS E).vm.findClass ("[" ++ (FieldType.array ty).toString) = some (fCy (eF E) c1)) (hc2 : (eS E).vm.findClass (FieldType.array ty).toString = some (fCy (eF E) c2)) (hi : ¬ i < 0) (hj : ¬ j < 0) (hN : i.toNatClampNeg = N) (hK : j.toNatClampNeg = K) (hb1 : N * 4 ≤ 536870912) (hb2 : K * componentBytes ty ≤ 536870912) (hb3 : K ≤ 536870912) (hdf : fits ty (defaultValue ty) = true) (hdd : (defaultValue ty).isDefault = true) (hz : ∀ c : ClassId, Jvm.Free.Multi.innerC c K (defaultValue ty) = vp_cell c z)
    (hk : k + (1 + N) ≤ rm.cells) (hn : n + (N + N * K) ≤ rm.slots) (d : decode cc pc = .ok (.multianewarray index 2, 4))
    (kk : ∀ q : Nat, HH E (ws ++ ((q, .inl (fCy (eF E) c1, N, .inr (.inr (.inr (.inr (fun i => if i < N then some (q + 1 + i) else none)))))) :: (List.range N).map (fun i => (q + 1 + i, .inl (fCy (eF E) c2, z))))) (k + 1 + N) (n + N + N * K) (pc + 4) lv (.ref q :: rest)) : HH E ws k n pc lv (.int j :: .int i :: rest) := by
  subst hN
  subst hK
  intro H locs ls hP hD hS hl T hT Xs
  obtain ⟨vm₁, cA, comp, -, fA1, fC1, hO, -, X', step⟩ := Xs.multianewarray2F X.ex X.ow (X.wo _ h1) hao.use (X.wo _ h2) (g := F0 (eM E) pc ls (.int j :: .int i :: rest)) rfl (by rw [X.cd]; exact d) rfl hi hj hb1 hb2 hb3 hdf hdd (by rw [X.r]; exact hk) (by rw [X.r]; exact hn)
  have e1 : cA = fCy (eF E) c1 := Option.some.inj (fA1.symm.trans hc1)
  have e2 : comp = fCy (eF E) c2 := Option.some.inj (fC1.symm.trans hc2)
  subst e1
  subst e2
  have hTh : (T.setVm vm₁).heap = H := hT
  generalize hF : Jvm.Free.Multi.fill (T.setVm vm₁) (fCy (eF E) c1) (fCy (eF E) c2) i.toNatClampNeg j.toNatClampNeg (defaultValue ty) i.toNatClampNeg = F at X' step
  obtain ⟨f1, f2, -, -⟩ := Jvm.Free.Multi.fill_facts (T.setVm vm₁) (fCy (eF E) c1) (fCy (eF E) c2) i.toNatClampNeg j.toNatClampNeg (defaultValue ty) i.toNatClampNeg
  rw [hF, hTh] at f1 f2
  have hold : ∀ x : Nat, x < H.size → F.heap[x]? = H[x]? := fun x hx => by
    have := Jvm.Free.Multi.fill_old (T.setVm vm₁) (fCy (eF E) c1) (fCy (eF E) c2) i.toNatClampNeg j.toNatClampNeg (defaultValue ty) (a := x) (by rw [hTh]; exact hx) i.toNatClampNeg
    rw [hF, hTh] at this
    exact this
  have hrow : ∀ r : Nat, r < i.toNatClampNeg → F.heap[H.size + 1 + r]? = some (vp_cell (fCy (eF E) c2) z) := fun r hr => by
    have := Jvm.Free.Multi.fill_inner (T.setVm vm₁) (fCy (eF E) c1) (fCy (eF E) c2) i.toNatClampNeg j.toNatClampNeg (defaultValue ty) i.toNatClampNeg r hr
    rw [hF, hTh, hz] at this
    exact this
  have hout : Jvm.Free.Multi.outerC (fCy (eF E) c1) i.toNatClampNeg H.size i.toNatClampNeg = vp_cell (fCy (eF E) c1) (i.toNatClampNeg, .inr (.inr (.inr (.inr (fun r => if r < i.toNatClampNeg then some (H.size + 1 + r) else none))))) := by
    rw [vp_cell_q]
    exact mn_outer (fCy (eF E) c1) i.toNatClampNeg H.size i.toNatClampNeg
  rw [hout] at f2
  have hnew : ∀ (k9 : Nat) (x : Nat × va_E), ((H.size, Sum.inl (fCy (eF E) c1, i.toNatClampNeg, .inr (.inr (.inr (.inr (fun r => if r < i.toNatClampNeg then some (H.size + 1 + r) else none)))))) :: (List.range i.toNatClampNeg).map (fun r => (H.size + 1 + r, (Sum.inl (fCy (eF E) c2, z) : va_E))) : va_W)[k9]? = some x → x.1 = H.size + k9 ∧ va_at (fD (eF E)) vwCl x F.heap := by
    intro k9 x hx
    cases k9 with
    | zero => cases hx; exact ⟨rfl, f2⟩
    | succ r =>
      rw [List.getElem?_cons_succ, List.getElem?_map] at hx
      by_cases hr : r < i.toNatClampNeg
      · rw [List.getElem?_range hr] at hx
        cases hx
        exact ⟨by show H.size + 1 + r = _; omega, hrow r hr⟩
      · rw [List.getElem?_eq_none (by simp; omega)] at hx
        cases hx
  have hP2 := (hP.kept (H1 := F.heap) (fun k9 x hx => hold x.1 ((hP k9 x hx).lt))).app (fun k9 x hx => (hnew k9 x hx).2)
  have hD2 : va_D (fA (eF E)) (ws ++ ((H.size, Sum.inl (fCy (eF E) c1, i.toNatClampNeg, .inr (.inr (.inr (.inr (fun r => if r < i.toNatClampNeg then some (H.size + 1 + r) else none)))))) :: (List.range i.toNatClampNeg).map (fun r => (H.size + 1 + r, (Sum.inl (fCy (eF E) c2, z) : va_E))) : va_W)) := by
    refine va_D.app hD ⟨fun a b x y hx hy hxy => ?_, fun k9 x hx => ?_⟩ (fun a b x y hx hy hxy => ?_)
    · have q1 := (hnew a x hx).1
      have q2 := (hnew b y hy).1
      omega
    · have q1 := (hnew k9 x hx).1
      exact X.hA _ (by have := hS.1; omega)
    · have q1 := (hP a x hx).lt
      have q2 := (hnew b y hy).1
      omega
  obtain ⟨t, a1, b1⟩ := kk H.size F.heap locs ls hP2 hD2 ⟨by rw [f1]; have := hS.1; omega, fun x h1 h2 => (hold x (by have := hS.1; omega)).trans (hS.2.1 x h1 h2), hS.2.2⟩ hl F rfl X'
  refine ⟨t, step t ?_, b1⟩
  have e : T.heap.size = H.size := by rw [hT]
  rw [e]
  exact a1
