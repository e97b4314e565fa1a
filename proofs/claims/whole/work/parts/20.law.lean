theorem lg_self (r : Int64) : lg_cmp r r = 0 := by unfold lg_cmp; simp
theorem lt_seven {L j : Nat} (hL : L ≤ 3584) (hj : 7 * j < 2 ^ 31) (h : L < 7 * j + 7) : nI L - 7 < nI (7 * j) := by
  have e : (7 : Int32) = nI 7 := rfl
  rw [fa_lt, e, pk_sub_toInt (by omega) (by omega), nI_toInt hj]
  omega
abbrev lwE : Type := Program × Launch × Jvm.Env × State × MethodId × List Frame × Method × Code × Nat × Nat × (Nat → Int32) × pfF × pfF
abbrev wP (E : lwE) := E.1
abbrev wL (E : lwE) := E.2.1
abbrev wE (E : lwE) := E.2.2.1
abbrev wS (E : lwE) := E.2.2.2.1
abbrev wM (E : lwE) := E.2.2.2.2.1
abbrev wB (E : lwE) := E.2.2.2.2.2.1
abbrev wMe (E : lwE) := E.2.2.2.2.2.2.1
abbrev wC (E : lwE) := E.2.2.2.2.2.2.2.1
abbrev wb (E : lwE) := E.2.2.2.2.2.2.2.2.1
abbrev wN (E : lwE) := E.2.2.2.2.2.2.2.2.2.1
abbrev wX (E : lwE) := E.2.2.2.2.2.2.2.2.2.2.1
abbrev wF (E : lwE) : pfF := E.2.2.2.2.2.2.2.2.2.2.2.1
abbrev wG (E : lwE) : pfF := E.2.2.2.2.2.2.2.2.2.2.2.2
def LG (E : lwE) (A B : St) (pc : Nat) (lv : List (Nat × Value)) (st : List Value) : Prop :=
  ∀ (H : Heap) (locs : List Loc) (ls : Array Slot), va_P (fD (wF E)) vwCl (cellsC (fAd (wF E)) (fCy (wF E)) A) H → va_P (fD (wG E)) vwCl (cellsR (fAd (wG E)) (fCy (wG E)) B) H → va_S (fun q => (wS E).heap.size ≤ q) (wS E).heap H locs → lv_has ls 4 lv → W (wP E) (wL E) (wE E) room_1 (wS E) (wM E) #[Value.ref (wb E)] (wB E) (wMe E) (wC E) H locs 600000 7302250 (lw_Z (wB E) #[Value.ref (wb E)] (wS E)) (F0 (wM E) pc ls st)
/-- what holds of the law's frame, of the two worlds' addresses, of what stays -/
def LX (E : lwE) : Prop := (wP E).tables.exec = Jvm.exec ∧ (wC E).code = code ∧ (wMe E).sig.returnType = ret ∧ (wC E).maxLocals = 4 ∧ (wS E).vm.findClass R_law = some (wM E).cls ∧ (∀ w ∈ lw_all, w.before #[Value.ref (wb E)] (wS E) = true) ∧ va_X (wb E) (wN E) (wX E) (wS E) (wS E).heap ∧ wb E < (wS E).heap.size ∧ (wMe E).locks = false ∧ wN E ≤ 3584 ∧ Fx (wF E) (wS E) (wS E).heap ∧ Fx (wG E) (wS E) (wS E).heap ∧ (∀ A, va_D (fA (wF E)) (cellsC (fAd (wF E)) (fCy (wF E)) A)) ∧ (∀ A, va_D (fA (wG E)) (cellsR (fAd (wG E)) (fCy (wG E)) A)) ∧ (∀ q, fA (wF E) q → (wS E).heap.size ≤ q) ∧ (∀ q, fA (wG E) q → (wS E).heap.size ≤ q) ∧ (∀ q, fA (wF E) q → ¬ fA (wG E) q)
section
variable {E : lwE} {A B : St} {pc : Nat} {lv : List (Nat × Value)} {rest : List Value}
theorem LX.ex (X : LX E) : (wP E).tables.exec = Jvm.exec := X.1
theorem LX.cd (X : LX E) : (wC E).code = code := X.2.1
theorem LX.rt (X : LX E) : (wMe E).sig.returnType = ret := X.2.2.1
theorem LX.ml (X : LX E) : (wC E).maxLocals = 4 := X.2.2.2.1
theorem LX.ow (X : LX E) : (wS E).vm.findClass R_law = some (wM E).cls := X.2.2.2.2.1
theorem LX.ws (X : LX E) : ∀ w ∈ lw_all, w.before #[Value.ref (wb E)] (wS E) = true := X.2.2.2.2.2.1
theorem LX.sx (X : LX E) : va_X (wb E) (wN E) (wX E) (wS E) (wS E).heap := X.2.2.2.2.2.2.1
theorem LX.bl (X : LX E) : wb E < (wS E).heap.size := X.2.2.2.2.2.2.2.1
theorem LX.lk (X : LX E) : (wMe E).locks = false := X.2.2.2.2.2.2.2.2.1
theorem LX.nn (X : LX E) : wN E ≤ 3584 := X.2.2.2.2.2.2.2.2.2.1
theorem LX.fc (X : LX E) : Fx (wF E) (wS E) (wS E).heap := X.2.2.2.2.2.2.2.2.2.2.1
theorem LX.fr (X : LX E) : Fx (wG E) (wS E) (wS E).heap := X.2.2.2.2.2.2.2.2.2.2.2.1
theorem LX.dc (X : LX E) : ∀ A, va_D (fA (wF E)) (cellsC (fAd (wF E)) (fCy (wF E)) A) := X.2.2.2.2.2.2.2.2.2.2.2.2.1
theorem LX.dr (X : LX E) : ∀ A, va_D (fA (wG E)) (cellsR (fAd (wG E)) (fCy (wG E)) A) := X.2.2.2.2.2.2.2.2.2.2.2.2.2.1
theorem LX.hc (X : LX E) : ∀ q, fA (wF E) q → (wS E).heap.size ≤ q := X.2.2.2.2.2.2.2.2.2.2.2.2.2.2.1
theorem LX.hr (X : LX E) : ∀ q, fA (wG E) q → (wS E).heap.size ≤ q := X.2.2.2.2.2.2.2.2.2.2.2.2.2.2.2.1
theorem LX.ap (X : LX E) : ∀ q, fA (wF E) q → ¬ fA (wG E) q := X.2.2.2.2.2.2.2.2.2.2.2.2.2.2.2.2
theorem Fx.goL {F : pfF} {s U : State} {H : Heap} {locs : List Loc} (h : Fx F s s.heap) (hS : va_S (fun q => s.heap.size ≤ q) s.heap H locs) (hU : U.heap = H) (hW : s.WarmedH U.vm) : Fx F U U.heap := by
  obtain ⟨hK, h1, h2, h3⟩ := h
  have hk : ∀ a : Nat, a < s.heap.size → ¬ fA F a → H[a]? = s.heap[a]? := fun a ha _ => hS.2.1 a ha (Nat.not_le.mpr ha)
  rw [hU]
  exact ⟨va_K.moved hW.alike hK, fun t ht => ⟨((h1 t ht).1.moved hW.alike).kept hk, ((h1 t ht).2.moved hW.alike).kept hk⟩, (h2.moved hW.alike).kept hk, h3.warmM hW⟩
theorem L_aload {n : Fin 4} {i : Nat} {x : Nat} (X : LX E) (d : decode code pc = .ok (.aload_n n, 1)) (hi : (n : Nat) = i) (q : Nat) (hq : lv[q]? = some (i, .ref x)) (k : LG E A B (pc + 1) lv (.ref x :: rest)) : LG E A B pc lv rest := fun H locs ls hC hR hS hl => lv_aload_n X.ex X.cd d hi (lv_at hl q hq) (k H locs ls hC hR hS hl)
theorem L_iload {n : Fin 4} {i : Nat} {x : Int32} (X : LX E) (d : decode code pc = .ok (.iload_n n, 1)) (hi : (n : Nat) = i) (q : Nat) (hq : lv[q]? = some (i, .int x)) (k : LG E A B (pc + 1) lv (.int x :: rest)) : LG E A B pc lv rest := fun H locs ls hC hR hS hl => lv_iload_n X.ex X.cd d hi (lv_at hl q hq) (k H locs ls hC hR hS hl)
theorem L_iconst {n : Int} {v : Int32} (X : LX E) (d : decode code pc = .ok (.iconst n, 1)) (hv : Int32.ofInt n = v) (k : LG E A B (pc + 1) lv (.int v :: rest)) : LG E A B pc lv rest := fun H locs ls hC hR hS hl => lv_iconst X.ex X.cd d hv (k H locs ls hC hR hS hl)
theorem L_bipush {n : Int} {v : Int32} (X : LX E) (d : decode code pc = .ok (.bipush n, 2)) (hv : (Int8.ofInt n).toInt32 = v) (k : LG E A B (pc + 2) lv (.int v :: rest)) : LG E A B pc lv rest := fun H locs ls hC hR hS hl => lv_bipush X.ex X.cd d hv (k H locs ls hC hR hS hl)
theorem L_iadd {x y : Int32} (X : LX E) (d : decode code pc = .ok (.iadd, 1)) (k : LG E A B (pc + 1) lv (.int (x + y) :: rest)) : LG E A B pc lv (.int y :: .int x :: rest) := fun H locs ls hC hR hS hl => lv_iadd X.ex X.cd d (k H locs ls hC hR hS hl)
theorem L_isub {x y : Int32} (X : LX E) (d : decode code pc = .ok (.isub, 1)) (k : LG E A B (pc + 1) lv (.int (x - y) :: rest)) : LG E A B pc lv (.int y :: .int x :: rest) := fun H locs ls hC hR hS hl => lv_isub X.ex X.cd d (k H locs ls hC hR hS hl)
theorem L_iand {x y : Int32} (X : LX E) (d : decode code pc = .ok (.iand, 1)) (k : LG E A B (pc + 1) lv (.int (x &&& y) :: rest)) : LG E A B pc lv (.int y :: .int x :: rest) := fun H locs ls hC hR hS hl => lv_iand X.ex X.cd d (k H locs ls hC hR hS hl)
theorem L_lcmp {x y : Int64} (X : LX E) (d : decode code pc = .ok (.lcmp, 1)) (k : LG E A B (pc + 1) lv (.int (lg_cmp x y) :: rest)) : LG E A B pc lv (.long y :: .long x :: rest) := fun H locs ls hC hR hS hl => W.lcmp X.ex X.cd d (k H locs ls hC hR hS hl)
theorem L_sld {i : Int32} {j : Nat} (X : LX E) (hin : vp_in i (wN E)) (hj : i.toNatClampNeg = j) (d : decode code pc = .ok (.iaload, 1)) (k : LG E A B (pc + 1) lv (.int (wX E j) :: rest)) : LG E A B pc lv (.int i :: .ref (wb E) :: rest) := by
  subst hj
  exact fun H locs ls hC hR hS hl => va_sld X.ex X.cd X.sx X.bl (Nat.not_le.mpr X.bl) hS hin d (k H locs ls hC hR hS hl)
theorem L_slen (X : LX E) (d : decode code pc = .ok (.arraylength, 1)) (k : LG E A B (pc + 1) lv (.int (nI (wN E)) :: rest)) : LG E A B pc lv (.ref (wb E) :: rest) := fun H locs ls hC hR hS hl => va_slen X.ex X.cd X.sx X.bl (Nat.not_le.mpr X.bl) hS d (k H locs ls hC hR hS hl)
theorem L_goto {off : Int} {tgt : Nat} (X : LX E) (d : decode code pc = .ok (.goto off, 3)) (ht : (pc : Int) + off = (tgt : Int)) (k : LG E A B tgt lv rest) : LG E A B pc lv rest := fun H locs ls hC hR hS hl => lv_goto X.ex X.cd d ht (k H locs ls hC hR hS hl)
theorem L_iceq {x y : Int32} {off : Int} {tgt : Nat} (X : LX E) (e : x = y) (d : decode code pc = .ok (.if_icmp .eq off, 3)) (ht : (pc : Int) + off = (tgt : Int)) (k : LG E A B tgt lv rest) : LG E A B pc lv (.int y :: .int x :: rest) := fun H locs ls hC hR hS hl => lv_icmp_eq X.ex X.cd d ht (fun _ => k H locs ls hC hR hS hl) (fun q => absurd e q)
theorem L_icgt {x y : Int32} {off : Int} {tgt : Nat} (X : LX E) (d : decode code pc = .ok (.if_icmp .gt off, 3)) (ht : (pc : Int) + off = (tgt : Int)) (kt : y < x → LG E A B tgt lv rest) (kf : ¬ y < x → LG E A B (pc + 3) lv rest) : LG E A B pc lv (.int y :: .int x :: rest) := fun H locs ls hC hR hS hl => lv_icmp_gt X.ex X.cd d ht (fun q => kt q H locs ls hC hR hS hl) (fun q => kf q H locs ls hC hR hS hl)
theorem L_ifeq {x : Int32} {off : Int} {tgt : Nat} (X : LX E) (d : decode code pc = .ok (.ifCond .eq off, 3)) (ht : (pc : Int) + off = (tgt : Int)) (kt : x = 0 → LG E A B tgt lv rest) (kf : ¬ x = 0 → LG E A B (pc + 3) lv rest) : LG E A B pc lv (.int x :: rest) := fun H locs ls hC hR hS hl => lv_if_eq X.ex X.cd d ht (fun q => kt q H locs ls hC hR hS hl) (fun q => kf q H locs ls hC hR hS hl)
theorem L_iinc {i q : Nat} {n : Int} {x v : Int32} {lv2 : List (Nat × Value)} (X : LX E) (d : decode code pc = .ok (.iinc i n, 3)) (hq : lv[q]? = some (i, .int x)) (hv : x + Int32.ofInt n = v) (hn : i < 4) (hl2 : (i, Value.int v) :: lv.filter (fun q => !(q.1 == i) && !(q.1 + 1 == i && q.2.category == 2)) = lv2) (k : LG E A B (pc + 3) lv2 rest) : LG E A B pc lv rest := fun H locs ls hC hR hS hl => lv_iinc X.ex X.cd d hl hq hv hn hl2 (fun ls hl => k H locs ls hC hR hS hl)
theorem L_sub {lv2 : List (Nat × Value)} {st : List Value} (is : List Nat) (hs : lv_pick lv is = lv2) (k : LG E A B pc lv2 st) : LG E A B pc lv st := fun H locs ls hC hR hS hl => k H locs ls hC hR hS (lv_sub hl is hs)
theorem L_tabIn {dflt lo hi : Int} {offs : Array Int} {len : Nat} {x : Int32} {off : Int} {tgt : Nat} (X : LX E) (d : decode code pc = .ok (.tableswitch dflt lo hi offs, len)) (h1 : ¬ x.toInt < lo) (h2 : ¬ hi < x.toInt) (ho : offs[(x.toInt - lo).toNat]? = some off) (ht : (pc : Int) + off = (tgt : Int)) (k : LG E A B tgt lv rest) : LG E A B pc lv (.int x :: rest) := fun H locs ls hC hR hS hl => lv_tableIn X.ex X.cd d h1 h2 ho ht (k H locs ls hC hR hS hl)
theorem L_tabOut {dflt lo hi : Int} {offs : Array Int} {len : Nat} {x : Int32} {tgt : Nat} (X : LX E) (d : decode code pc = .ok (.tableswitch dflt lo hi offs, len)) (h : x.toInt < lo ∨ hi < x.toInt) (ht : (pc : Int) + dflt = (tgt : Int)) (k : LG E A B tgt lv rest) : LG E A B pc lv (.int x :: rest) := fun H locs ls hC hR hS hl => lv_tableOut X.ex X.cd d h ht (k H locs ls hC hR hS hl)
theorem L_end {st : List Value} (X : LX E) (hst : st = [.int 1]) (d : decode code pc = .ok (.ireturn, 1)) : LG E A B pc lv st := fun H locs ls hC hR hS hl => by
  subst hst
  refine va_forget (fun q hq => hS.2.2 q hq) ?_
  exact lw_ret (d0 := (wS E).drawn) (Drawn.sameBut.refl (wS E).drawn lw_cs) X.ex X.cd X.rt X.lk d
/-- argument c of the call at the place j -/
theorem L_arg1 {j cn : Nat} {n : Int} {v : Int32} (X : LX E) (hj : 7 * j + 7 ≤ wN E) (hq0 : lv[0]? = some (0, .ref (wb E))) (hq3 : lv[3]? = some (3, .int (nI (7 * j)))) (d0 : decode code pc = .ok (.aload_n 0, 1)) (d1 : decode code (pc + 1) = .ok (.iload_n 3, 1)) (d2 : decode code (pc + 1 + 1) = .ok (.iconst n, 1)) (hv : Int32.ofInt n = v) (hc : v = nI cn) (hcn : cn < 7) (d3 : decode code (pc + 1 + 1 + 1) = .ok (.iadd, 1)) (d4 : decode code (pc + 1 + 1 + 1 + 1) = .ok (.iaload, 1)) (k : LG E A B (pc + 1 + 1 + 1 + 1 + 1) lv (.int (wX E (7 * j + cn)) :: rest)) : LG E A B pc lv rest := by
  have hN := X.nn
  refine L_aload X d0 rfl 0 hq0 (L_iload X d1 rfl 3 hq3 (L_iconst X d2 hv (L_iadd X d3 (L_sld (j := 7 * j + cn) X ?_ ?_ d4 k))))
  · rw [hc, nI_add]; exact vp_in_nI (by omega) (by omega)
  · rw [hc, nI_add]; exact nI_clamp (by omega)
theorem L_arg2 {j cn : Nat} {n : Int} {v : Int32} (X : LX E) (hj : 7 * j + 7 ≤ wN E) (hq0 : lv[0]? = some (0, .ref (wb E))) (hq3 : lv[3]? = some (3, .int (nI (7 * j)))) (d0 : decode code pc = .ok (.aload_n 0, 1)) (d1 : decode code (pc + 1) = .ok (.iload_n 3, 1)) (d2 : decode code (pc + 1 + 1) = .ok (.bipush n, 2)) (hv : (Int8.ofInt n).toInt32 = v) (hc : v = nI cn) (hcn : cn < 7) (d3 : decode code (pc + 1 + 1 + 2) = .ok (.iadd, 1)) (d4 : decode code (pc + 1 + 1 + 2 + 1) = .ok (.iaload, 1)) (k : LG E A B (pc + 1 + 1 + 2 + 1 + 1) lv (.int (wX E (7 * j + cn)) :: rest)) : LG E A B pc lv rest := by
  have hN := X.nn
  refine L_aload X d0 rfl 0 hq0 (L_iload X d1 rfl 3 hq3 (L_bipush X d2 hv (L_iadd X d3 (L_sld (j := 7 * j + cn) X ?_ ?_ d4 k))))
  · rw [hc, nI_add]; exact vp_in_nI (by omega) (by omega)
  · rw [hc, nI_add]; exact nI_clamp (by omega)
end
theorem L_callC_i {E : lwE} {A B A2 : St} {pc : Nat} {lv : List (Nat × Value)} {rest : List Value} {y : MethodName} {bytes : ByteArray} {maxL n index : Nat} {ret : Option FieldType} {rz : Room} {st As : List Value} {r0 : Int32} (X : LX E) (ok : OkV y bytes maxL ret n) (hw : (Cond.methodLink R_law index y) ∈ lw_all) (hcl : y.cls = RX5) (hrm : RmOk rz room_1 maxL) (hM : Mt (wL E) (wF E) cellsC y bytes maxL ret rz (.ref (fAd (wF E) 0) :: As) A (va_Qi (fun (r : Int32) (u : St) => r = r0 ∧ u = A2) (Wd cellsC (wF E)) (fA (wF E)))) (hst : st = As.reverse ++ .ref (fAd (wF E) 0) :: rest) (hn : As.length = n) (hW : (rest.map fun v => v.category).sum ≤ 8) (d : decode code pc = .ok (.invokevirtual index, 3)) (k : LG E A2 B (pc + 3) lv (.int r0 :: rest)) : LG E A B pc lv st := by
  intro H locs ls hC hR hS hl
  refine va_calli (va_runV (C := y.cls) (As := As) (rest := rest) ⟨X.ex, X.cd, X.ml, X.ow, X.ws⟩ hM ⟨callB_of n X.ws (okW ok.2.2.2.1) rfl hrm.1 hrm.2.1 (X.ws _ ok.2.2.1) (X.ws _ hw) ⟨ok.2.2.2.2.1, ok.2.2.2.2.2.1, ok.2.2.2.2.2.2⟩ ⟨hrm.2.2.1, hrm.2.2.2⟩, X.ws _ ok.1, X.ws _ ok.2.1⟩ ⟨Wd.blind _ _ _ _, hcl ▸ va_recv X.fc.1 hC (ci := 4) rfl (eC0 _ _ _), fun U hU hW => ⟨rfl, by rw [hU]; exact hC, X.fc.goL hS hU hW⟩⟩ rfl hn hl.1 hst (lv_room hW) d ⟨Nat.le_of_ble_eq_true rfl, Nat.le_of_ble_eq_true rfl⟩) hS (fun q _ h => X.hc q h) (fun q h => X.hc q h) (fun r u t H1 locs1 ht hvm hw1 hB hz hk1 hS1 => ?_)
  obtain ⟨rfl, rfl⟩ := hw1
  exact k H1 locs1 ls (by rw [← ht]; exact hB.1) (hR.kept (fun k9 q9 hq9 => hk1 q9.1 (hR k9 q9 hq9).lt (fun z => X.ap _ z ((X.dr B).2 k9 q9 hq9)))) hS1 hl
theorem L_callC_l {E : lwE} {A B A2 : St} {pc : Nat} {lv : List (Nat × Value)} {rest : List Value} {y : MethodName} {bytes : ByteArray} {maxL n index : Nat} {ret : Option FieldType} {rz : Room} {st As : List Value} {r0 : Int64} (X : LX E) (ok : OkV y bytes maxL ret n) (hw : (Cond.methodLink R_law index y) ∈ lw_all) (hcl : y.cls = RX5) (hrm : RmOk rz room_1 maxL) (hM : Mt (wL E) (wF E) cellsC y bytes maxL ret rz (.ref (fAd (wF E) 0) :: As) A (va_Ql (fun (r : Int64) (u : St) => r = r0 ∧ u = A2) (Wd cellsC (wF E)) (fA (wF E)))) (hst : st = As.reverse ++ .ref (fAd (wF E) 0) :: rest) (hn : As.length = n) (hW : (rest.map fun v => v.category).sum ≤ 8) (d : decode code pc = .ok (.invokevirtual index, 3)) (k : LG E A2 B (pc + 3) lv (.long r0 :: rest)) : LG E A B pc lv st := by
  intro H locs ls hC hR hS hl
  refine va_calll (va_runV (C := y.cls) (As := As) (rest := rest) ⟨X.ex, X.cd, X.ml, X.ow, X.ws⟩ hM ⟨callB_of n X.ws (okW ok.2.2.2.1) rfl hrm.1 hrm.2.1 (X.ws _ ok.2.2.1) (X.ws _ hw) ⟨ok.2.2.2.2.1, ok.2.2.2.2.2.1, ok.2.2.2.2.2.2⟩ ⟨hrm.2.2.1, hrm.2.2.2⟩, X.ws _ ok.1, X.ws _ ok.2.1⟩ ⟨Wd.blind _ _ _ _, hcl ▸ va_recv X.fc.1 hC (ci := 4) rfl (eC0 _ _ _), fun U hU hW => ⟨rfl, by rw [hU]; exact hC, X.fc.goL hS hU hW⟩⟩ rfl hn hl.1 hst (lv_room hW) d ⟨Nat.le_of_ble_eq_true rfl, Nat.le_of_ble_eq_true rfl⟩) hS (fun q _ h => X.hc q h) (fun q h => X.hc q h) (fun r u t H1 locs1 ht hvm hw1 hB hz hk1 hS1 => ?_)
  obtain ⟨rfl, rfl⟩ := hw1
  exact k H1 locs1 ls (by rw [← ht]; exact hB.1) (hR.kept (fun k9 q9 hq9 => hk1 q9.1 (hR k9 q9 hq9).lt (fun z => X.ap _ z ((X.dr B).2 k9 q9 hq9)))) hS1 hl
theorem L_callR_i {E : lwE} {A B B2 : St} {pc : Nat} {lv : List (Nat × Value)} {rest : List Value} {y : MethodName} {bytes : ByteArray} {maxL n index : Nat} {ret : Option FieldType} {rz : Room} {st As : List Value} {r0 : Int32} (X : LX E) (ok : OkV y bytes maxL ret n) (hw : (Cond.methodLink R_law index y) ∈ lw_all) (hcl : y.cls = RX6) (hrm : RmOk rz room_1 maxL) (hM : Mt (wL E) (wG E) cellsR y bytes maxL ret rz (.ref (fAd (wG E) 0) :: As) B (va_Qi (fun (r : Int32) (u : St) => r = r0 ∧ u = B2) (Wd cellsR (wG E)) (fA (wG E)))) (hst : st = As.reverse ++ .ref (fAd (wG E) 0) :: rest) (hn : As.length = n) (hW : (rest.map fun v => v.category).sum ≤ 8) (d : decode code pc = .ok (.invokevirtual index, 3)) (k : LG E A B2 (pc + 3) lv (.int r0 :: rest)) : LG E A B pc lv st := by
  intro H locs ls hC hR hS hl
  refine va_calli (va_runV (C := y.cls) (As := As) (rest := rest) ⟨X.ex, X.cd, X.ml, X.ow, X.ws⟩ hM ⟨callB_of n X.ws (okW ok.2.2.2.1) rfl hrm.1 hrm.2.1 (X.ws _ ok.2.2.1) (X.ws _ hw) ⟨ok.2.2.2.2.1, ok.2.2.2.2.2.1, ok.2.2.2.2.2.2⟩ ⟨hrm.2.2.1, hrm.2.2.2⟩, X.ws _ ok.1, X.ws _ ok.2.1⟩ ⟨Wd.blind _ _ _ _, hcl ▸ va_recv X.fr.1 hR (ci := 5) rfl (eR0 _ _ _), fun U hU hW => ⟨rfl, by rw [hU]; exact hR, X.fr.goL hS hU hW⟩⟩ rfl hn hl.1 hst (lv_room hW) d ⟨Nat.le_of_ble_eq_true rfl, Nat.le_of_ble_eq_true rfl⟩) hS (fun q _ h => X.hr q h) (fun q h => X.hr q h) (fun r u t H1 locs1 ht hvm hw1 hB hz hk1 hS1 => ?_)
  obtain ⟨rfl, rfl⟩ := hw1
  exact k H1 locs1 ls (hC.kept (fun k9 q9 hq9 => hk1 q9.1 (hC k9 q9 hq9).lt (fun z => X.ap _ ((X.dc A).2 k9 q9 hq9) z))) (by rw [← ht]; exact hB.1) hS1 hl
theorem L_callR_l {E : lwE} {A B B2 : St} {pc : Nat} {lv : List (Nat × Value)} {rest : List Value} {y : MethodName} {bytes : ByteArray} {maxL n index : Nat} {ret : Option FieldType} {rz : Room} {st As : List Value} {r0 : Int64} (X : LX E) (ok : OkV y bytes maxL ret n) (hw : (Cond.methodLink R_law index y) ∈ lw_all) (hcl : y.cls = RX6) (hrm : RmOk rz room_1 maxL) (hM : Mt (wL E) (wG E) cellsR y bytes maxL ret rz (.ref (fAd (wG E) 0) :: As) B (va_Ql (fun (r : Int64) (u : St) => r = r0 ∧ u = B2) (Wd cellsR (wG E)) (fA (wG E)))) (hst : st = As.reverse ++ .ref (fAd (wG E) 0) :: rest) (hn : As.length = n) (hW : (rest.map fun v => v.category).sum ≤ 8) (d : decode code pc = .ok (.invokevirtual index, 3)) (k : LG E A B2 (pc + 3) lv (.long r0 :: rest)) : LG E A B pc lv st := by
  intro H locs ls hC hR hS hl
  refine va_calll (va_runV (C := y.cls) (As := As) (rest := rest) ⟨X.ex, X.cd, X.ml, X.ow, X.ws⟩ hM ⟨callB_of n X.ws (okW ok.2.2.2.1) rfl hrm.1 hrm.2.1 (X.ws _ ok.2.2.1) (X.ws _ hw) ⟨ok.2.2.2.2.1, ok.2.2.2.2.2.1, ok.2.2.2.2.2.2⟩ ⟨hrm.2.2.1, hrm.2.2.2⟩, X.ws _ ok.1, X.ws _ ok.2.1⟩ ⟨Wd.blind _ _ _ _, hcl ▸ va_recv X.fr.1 hR (ci := 5) rfl (eR0 _ _ _), fun U hU hW => ⟨rfl, by rw [hU]; exact hR, X.fr.goL hS hU hW⟩⟩ rfl hn hl.1 hst (lv_room hW) d ⟨Nat.le_of_ble_eq_true rfl, Nat.le_of_ble_eq_true rfl⟩) hS (fun q _ h => X.hr q h) (fun q h => X.hr q h) (fun r u t H1 locs1 ht hvm hw1 hB hz hk1 hS1 => ?_)
  obtain ⟨rfl, rfl⟩ := hw1
  exact k H1 locs1 ls (hC.kept (fun k9 q9 hq9 => hk1 q9.1 (hC k9 q9 hq9).lt (fun z => X.ap _ ((X.dc A).2 k9 q9 hq9) z))) (by rw [← ht]; exact hB.1) hS1 hl
set_option maxRecDepth 100000 in
theorem law_add {E : lwE} (X : LX E) {j : Nat} (hj : 7 * j + 7 ≤ wN E) {A B : St} (h : Rel A B) (K : ∀ A2 B2 : St, Rel A2 B2 → LG E A2 B2 1610 [(0, .ref (wb E)), (1, .ref (fAd (wF E) 0)), (2, .ref (fAd (wG E) 0)), (3, .int (nI (7 * j)))] []) : LG E A B 224 [(0, .ref (wb E)), (1, .ref (fAd (wF E) 0)), (2, .ref (fAd (wG E) 0)), (3, .int (nI (7 * j)))] [] := by
  obtain ⟨r, A2, B2, hC, hR, hRel⟩ := sim_add h (wX E (7 * j + 1)) (wX E (7 * j + 2)) (wX E (7 * j + 3)) (wX E (7 * j + 4)) (wX E (7 * j + 5)) (wX E (7 * j + 6))
  refine L_aload X dL_law_224 rfl 1 rfl ?_
  refine L_arg1 (cn := 1) X hj rfl rfl dL_law_225 dL_law_226 dL_law_227 rfl rfl (by decide) dL_law_228 dL_law_229 ?_
  refine L_arg1 (cn := 2) X hj rfl rfl dL_law_230 dL_law_231 dL_law_232 rfl rfl (by decide) dL_law_233 dL_law_234 ?_
  refine L_arg1 (cn := 3) X hj rfl rfl dL_law_235 dL_law_236 dL_law_237 rfl rfl (by decide) dL_law_238 dL_law_239 ?_
  refine L_arg1 (cn := 4) X hj rfl rfl dL_law_240 dL_law_241 dL_law_242 rfl rfl (by decide) dL_law_243 dL_law_244 ?_
  refine L_arg1 (cn := 5) X hj rfl rfl dL_law_245 dL_law_246 dL_law_247 rfl rfl (by decide) dL_law_248 dL_law_249 ?_
  refine L_arg2 (cn := 6) X hj rfl rfl dL_law_250 dL_law_251 dL_law_252 rfl rfl (by decide) dL_law_254 dL_law_255 ?_
  refine L_callC_i X (As := [.int (wX E (7 * j + 1)), .int (wX E (7 * j + 2)), .int (wX E (7 * j + 3)), .int (wX E (7 * j + 4)), .int (wX E (7 * j + 5)), .int (wX E (7 * j + 6))]) (rest := []) ok_X5_add qw177 rfl ⟨rfl, rfl, Nat.le_of_ble_eq_true rfl, Nat.le_of_ble_eq_true rfl⟩ (m_X5_add X.dc hC) rfl rfl (Nat.le_of_ble_eq_true rfl) dL_law_256 ?_
  refine L_aload X dL_law_259 rfl 2 rfl ?_
  refine L_arg1 (cn := 1) X hj rfl rfl dL_law_260 dL_law_261 dL_law_262 rfl rfl (by decide) dL_law_263 dL_law_264 ?_
  refine L_arg1 (cn := 2) X hj rfl rfl dL_law_265 dL_law_266 dL_law_267 rfl rfl (by decide) dL_law_268 dL_law_269 ?_
  refine L_arg1 (cn := 3) X hj rfl rfl dL_law_270 dL_law_271 dL_law_272 rfl rfl (by decide) dL_law_273 dL_law_274 ?_
  refine L_arg1 (cn := 4) X hj rfl rfl dL_law_275 dL_law_276 dL_law_277 rfl rfl (by decide) dL_law_278 dL_law_279 ?_
  refine L_arg1 (cn := 5) X hj rfl rfl dL_law_280 dL_law_281 dL_law_282 rfl rfl (by decide) dL_law_283 dL_law_284 ?_
  refine L_arg2 (cn := 6) X hj rfl rfl dL_law_285 dL_law_286 dL_law_287 rfl rfl (by decide) dL_law_289 dL_law_290 ?_
  refine L_callR_i X (As := [.int (wX E (7 * j + 1)), .int (wX E (7 * j + 2)), .int (wX E (7 * j + 3)), .int (wX E (7 * j + 4)), .int (wX E (7 * j + 5)), .int (wX E (7 * j + 6))]) (rest := [.int r]) ok_X6_add qw716 rfl ⟨rfl, rfl, Nat.le_of_ble_eq_true rfl, Nat.le_of_ble_eq_true rfl⟩ (m_X6_add X.dr hR) rfl rfl (Nat.le_of_ble_eq_true rfl) dL_law_291 ?_
  refine L_iceq X rfl (tgt := 1610) dL_law_294 (by decide) ?_
  exact K A2 B2 hRel
set_option maxRecDepth 100000 in
theorem law_of {E : lwE} (X : LX E) {j : Nat} (hj : 7 * j + 7 ≤ wN E) {A B : St} (h : Rel A B) (K : ∀ A2 B2 : St, Rel A2 B2 → LG E A2 B2 1610 [(0, .ref (wb E)), (1, .ref (fAd (wF E) 0)), (2, .ref (fAd (wG E) 0)), (3, .int (nI (7 * j)))] []) : LG E A B 299 [(0, .ref (wb E)), (1, .ref (fAd (wF E) 0)), (2, .ref (fAd (wG E) 0)), (3, .int (nI (7 * j)))] [] := by
  obtain ⟨r, A2, B2, hC, hR, hRel⟩ := sim_of h (wX E (7 * j + 1)) (wX E (7 * j + 2))
  refine L_aload X dL_law_299 rfl 1 rfl ?_
  refine L_arg1 (cn := 1) X hj rfl rfl dL_law_300 dL_law_301 dL_law_302 rfl rfl (by decide) dL_law_303 dL_law_304 ?_
  refine L_arg1 (cn := 2) X hj rfl rfl dL_law_305 dL_law_306 dL_law_307 rfl rfl (by decide) dL_law_308 dL_law_309 ?_
  refine L_callC_i X (As := [.int (wX E (7 * j + 1)), .int (wX E (7 * j + 2))]) (rest := []) ok_X5_of qw196 rfl ⟨rfl, rfl, Nat.le_of_ble_eq_true rfl, Nat.le_of_ble_eq_true rfl⟩ (m_X5_of X.dc hC) rfl rfl (Nat.le_of_ble_eq_true rfl) dL_law_310 ?_
  refine L_aload X dL_law_313 rfl 2 rfl ?_
  refine L_arg1 (cn := 1) X hj rfl rfl dL_law_314 dL_law_315 dL_law_316 rfl rfl (by decide) dL_law_317 dL_law_318 ?_
  refine L_arg1 (cn := 2) X hj rfl rfl dL_law_319 dL_law_320 dL_law_321 rfl rfl (by decide) dL_law_322 dL_law_323 ?_
  refine L_callR_i X (As := [.int (wX E (7 * j + 1)), .int (wX E (7 * j + 2))]) (rest := [.int r]) ok_X6_of qw742 rfl ⟨rfl, rfl, Nat.le_of_ble_eq_true rfl, Nat.le_of_ble_eq_true rfl⟩ (m_X6_of X.dr hR) rfl rfl (Nat.le_of_ble_eq_true rfl) dL_law_324 ?_
  refine L_iceq X rfl (tgt := 1610) dL_law_327 (by decide) ?_
  exact K A2 B2 hRel
set_option maxRecDepth 100000 in
theorem law_change {E : lwE} (X : LX E) {j : Nat} (hj : 7 * j + 7 ≤ wN E) {A B : St} (h : Rel A B) (K : ∀ A2 B2 : St, Rel A2 B2 → LG E A2 B2 1610 [(0, .ref (wb E)), (1, .ref (fAd (wF E) 0)), (2, .ref (fAd (wG E) 0)), (3, .int (nI (7 * j)))] []) : LG E A B 332 [(0, .ref (wb E)), (1, .ref (fAd (wF E) 0)), (2, .ref (fAd (wG E) 0)), (3, .int (nI (7 * j)))] [] := by
  obtain ⟨r, A2, B2, hC, hR, hRel⟩ := sim_change h (wX E (7 * j + 1)) (wX E (7 * j + 2)) (wX E (7 * j + 3))
  refine L_aload X dL_law_332 rfl 1 rfl ?_
  refine L_arg1 (cn := 1) X hj rfl rfl dL_law_333 dL_law_334 dL_law_335 rfl rfl (by decide) dL_law_336 dL_law_337 ?_
  refine L_arg1 (cn := 2) X hj rfl rfl dL_law_338 dL_law_339 dL_law_340 rfl rfl (by decide) dL_law_341 dL_law_342 ?_
  refine L_arg1 (cn := 3) X hj rfl rfl dL_law_343 dL_law_344 dL_law_345 rfl rfl (by decide) dL_law_346 dL_law_347 ?_
  refine L_callC_i X (As := [.int (wX E (7 * j + 1)), .int (wX E (7 * j + 2)), .int (wX E (7 * j + 3))]) (rest := []) ok_X5_change qw204 rfl ⟨rfl, rfl, Nat.le_of_ble_eq_true rfl, Nat.le_of_ble_eq_true rfl⟩ (m_X5_change X.dc hC) rfl rfl (Nat.le_of_ble_eq_true rfl) dL_law_348 ?_
  refine L_aload X dL_law_351 rfl 2 rfl ?_
  refine L_arg1 (cn := 1) X hj rfl rfl dL_law_352 dL_law_353 dL_law_354 rfl rfl (by decide) dL_law_355 dL_law_356 ?_
  refine L_arg1 (cn := 2) X hj rfl rfl dL_law_357 dL_law_358 dL_law_359 rfl rfl (by decide) dL_law_360 dL_law_361 ?_
  refine L_arg1 (cn := 3) X hj rfl rfl dL_law_362 dL_law_363 dL_law_364 rfl rfl (by decide) dL_law_365 dL_law_366 ?_
  refine L_callR_i X (As := [.int (wX E (7 * j + 1)), .int (wX E (7 * j + 2)), .int (wX E (7 * j + 3))]) (rest := [.int r]) ok_X6_change qw755 rfl ⟨rfl, rfl, Nat.le_of_ble_eq_true rfl, Nat.le_of_ble_eq_true rfl⟩ (m_X6_change X.dr hR) rfl rfl (Nat.le_of_ble_eq_true rfl) dL_law_367 ?_
  refine L_iceq X rfl (tgt := 1610) dL_law_370 (by decide) ?_
  exact K A2 B2 hRel
set_option maxRecDepth 100000 in
theorem law_drop {E : lwE} (X : LX E) {j : Nat} (hj : 7 * j + 7 ≤ wN E) {A B : St} (h : Rel A B) (K : ∀ A2 B2 : St, Rel A2 B2 → LG E A2 B2 1610 [(0, .ref (wb E)), (1, .ref (fAd (wF E) 0)), (2, .ref (fAd (wG E) 0)), (3, .int (nI (7 * j)))] []) : LG E A B 375 [(0, .ref (wb E)), (1, .ref (fAd (wF E) 0)), (2, .ref (fAd (wG E) 0)), (3, .int (nI (7 * j)))] [] := by
  obtain ⟨r, A2, B2, hC, hR, hRel⟩ := sim_drop h
  refine L_aload X dL_law_375 rfl 1 rfl ?_
  refine L_callC_i X (As := []) (rest := []) ok_X5_drop qw208 rfl ⟨rfl, rfl, Nat.le_of_ble_eq_true rfl, Nat.le_of_ble_eq_true rfl⟩ (m_X5_drop X.dc hC) rfl rfl (Nat.le_of_ble_eq_true rfl) dL_law_376 ?_
  refine L_aload X dL_law_379 rfl 2 rfl ?_
  refine L_callR_i X (As := []) (rest := [.int r]) ok_X6_drop qw759 rfl ⟨rfl, rfl, Nat.le_of_ble_eq_true rfl, Nat.le_of_ble_eq_true rfl⟩ (m_X6_drop X.dr hR) rfl rfl (Nat.le_of_ble_eq_true rfl) dL_law_380 ?_
  refine L_iceq X rfl (tgt := 1610) dL_law_383 (by decide) ?_
  exact K A2 B2 hRel
set_option maxRecDepth 100000 in
theorem law_as {E : lwE} (X : LX E) {j : Nat} (hj : 7 * j + 7 ≤ wN E) {A B : St} (h : Rel A B) (K : ∀ A2 B2 : St, Rel A2 B2 → LG E A2 B2 1610 [(0, .ref (wb E)), (1, .ref (fAd (wF E) 0)), (2, .ref (fAd (wG E) 0)), (3, .int (nI (7 * j)))] []) : LG E A B 388 [(0, .ref (wb E)), (1, .ref (fAd (wF E) 0)), (2, .ref (fAd (wG E) 0)), (3, .int (nI (7 * j)))] [] := by
  obtain ⟨r, A2, B2, hC, hR, hRel⟩ := sim_as h (wX E (7 * j + 1)) (wX E (7 * j + 2))
  refine L_aload X dL_law_388 rfl 1 rfl ?_
  refine L_arg1 (cn := 1) X hj rfl rfl dL_law_389 dL_law_390 dL_law_391 rfl rfl (by decide) dL_law_392 dL_law_393 ?_
  refine L_arg1 (cn := 2) X hj rfl rfl dL_law_394 dL_law_395 dL_law_396 rfl rfl (by decide) dL_law_397 dL_law_398 ?_
  refine L_callC_i X (As := [.int (wX E (7 * j + 1)), .int (wX E (7 * j + 2))]) (rest := []) ok_X5_as qw216 rfl ⟨rfl, rfl, Nat.le_of_ble_eq_true rfl, Nat.le_of_ble_eq_true rfl⟩ (m_X5_as X.dc hC) rfl rfl (Nat.le_of_ble_eq_true rfl) dL_law_399 ?_
  refine L_aload X dL_law_402 rfl 2 rfl ?_
  refine L_arg1 (cn := 1) X hj rfl rfl dL_law_403 dL_law_404 dL_law_405 rfl rfl (by decide) dL_law_406 dL_law_407 ?_
  refine L_arg1 (cn := 2) X hj rfl rfl dL_law_408 dL_law_409 dL_law_410 rfl rfl (by decide) dL_law_411 dL_law_412 ?_
  refine L_callR_i X (As := [.int (wX E (7 * j + 1)), .int (wX E (7 * j + 2))]) (rest := [.int r]) ok_X6_as qw763 rfl ⟨rfl, rfl, Nat.le_of_ble_eq_true rfl, Nat.le_of_ble_eq_true rfl⟩ (m_X6_as X.dr hR) rfl rfl (Nat.le_of_ble_eq_true rfl) dL_law_413 ?_
  refine L_iceq X rfl (tgt := 1610) dL_law_416 (by decide) ?_
  exact K A2 B2 hRel
set_option maxRecDepth 100000 in
theorem law_enemy {E : lwE} (X : LX E) {j : Nat} (hj : 7 * j + 7 ≤ wN E) {A B : St} (h : Rel A B) (K : ∀ A2 B2 : St, Rel A2 B2 → LG E A2 B2 1610 [(0, .ref (wb E)), (1, .ref (fAd (wF E) 0)), (2, .ref (fAd (wG E) 0)), (3, .int (nI (7 * j)))] []) : LG E A B 421 [(0, .ref (wb E)), (1, .ref (fAd (wF E) 0)), (2, .ref (fAd (wG E) 0)), (3, .int (nI (7 * j)))] [] := by
  by_cases hz : wX E (7 * j + 3) = 0
  · obtain ⟨r, A2, B2, hC, hR, hRel⟩ := sim_enemy h (wX E (7 * j + 1)) (wX E (7 * j + 2)) 0 (Or.inl rfl)
    refine L_aload X dL_law_421 rfl 1 rfl ?_
    refine L_arg1 (cn := 1) X hj rfl rfl dL_law_422 dL_law_423 dL_law_424 rfl rfl (by decide) dL_law_425 dL_law_426 ?_
    refine L_arg1 (cn := 2) X hj rfl rfl dL_law_427 dL_law_428 dL_law_429 rfl rfl (by decide) dL_law_430 dL_law_431 ?_
    refine L_arg1 (cn := 3) X hj rfl rfl dL_law_432 dL_law_433 dL_law_434 rfl rfl (by decide) dL_law_435 dL_law_436 ?_
    refine L_ifeq X (tgt := 444) dL_law_437 (by decide) (fun _ => ?_) (fun c => absurd hz c)
    refine L_iconst X (v := 0) dL_law_444 rfl ?_
    refine L_callC_i X (As := [.int (wX E (7 * j + 1)), .int (wX E (7 * j + 2)), .int 0]) (rest := []) ok_X5_enemy qw225 rfl ⟨rfl, rfl, Nat.le_of_ble_eq_true rfl, Nat.le_of_ble_eq_true rfl⟩ (m_X5_enemy X.dc hC) rfl rfl (Nat.le_of_ble_eq_true rfl) dL_law_445 ?_
    refine L_aload X dL_law_448 rfl 2 rfl ?_
    refine L_arg1 (cn := 1) X hj rfl rfl dL_law_449 dL_law_450 dL_law_451 rfl rfl (by decide) dL_law_452 dL_law_453 ?_
    refine L_arg1 (cn := 2) X hj rfl rfl dL_law_454 dL_law_455 dL_law_456 rfl rfl (by decide) dL_law_457 dL_law_458 ?_
    refine L_arg1 (cn := 3) X hj rfl rfl dL_law_459 dL_law_460 dL_law_461 rfl rfl (by decide) dL_law_462 dL_law_463 ?_
    refine L_ifeq X (tgt := 471) dL_law_464 (by decide) (fun _ => ?_) (fun c => absurd hz c)
    refine L_iconst X (v := 0) dL_law_471 rfl ?_
    refine L_callR_i X (As := [.int (wX E (7 * j + 1)), .int (wX E (7 * j + 2)), .int 0]) (rest := [.int r]) ok_X6_enemy qw770 rfl ⟨rfl, rfl, Nat.le_of_ble_eq_true rfl, Nat.le_of_ble_eq_true rfl⟩ (m_X6_enemy X.dr hR) rfl rfl (Nat.le_of_ble_eq_true rfl) dL_law_472 ?_
    refine L_iceq X rfl (tgt := 1610) dL_law_475 (by decide) ?_
    exact K A2 B2 hRel
  · obtain ⟨r, A2, B2, hC, hR, hRel⟩ := sim_enemy h (wX E (7 * j + 1)) (wX E (7 * j + 2)) 1 (Or.inr rfl)
    refine L_aload X dL_law_421 rfl 1 rfl ?_
    refine L_arg1 (cn := 1) X hj rfl rfl dL_law_422 dL_law_423 dL_law_424 rfl rfl (by decide) dL_law_425 dL_law_426 ?_
    refine L_arg1 (cn := 2) X hj rfl rfl dL_law_427 dL_law_428 dL_law_429 rfl rfl (by decide) dL_law_430 dL_law_431 ?_
    refine L_arg1 (cn := 3) X hj rfl rfl dL_law_432 dL_law_433 dL_law_434 rfl rfl (by decide) dL_law_435 dL_law_436 ?_
    refine L_ifeq X (tgt := 444) dL_law_437 (by decide) (fun c => absurd c hz) (fun _ => ?_)
    refine L_iconst X (v := 1) dL_law_440 rfl ?_
    refine L_goto X (tgt := 445) dL_law_441 (by decide) ?_
    refine L_callC_i X (As := [.int (wX E (7 * j + 1)), .int (wX E (7 * j + 2)), .int 1]) (rest := []) ok_X5_enemy qw225 rfl ⟨rfl, rfl, Nat.le_of_ble_eq_true rfl, Nat.le_of_ble_eq_true rfl⟩ (m_X5_enemy X.dc hC) rfl rfl (Nat.le_of_ble_eq_true rfl) dL_law_445 ?_
    refine L_aload X dL_law_448 rfl 2 rfl ?_
    refine L_arg1 (cn := 1) X hj rfl rfl dL_law_449 dL_law_450 dL_law_451 rfl rfl (by decide) dL_law_452 dL_law_453 ?_
    refine L_arg1 (cn := 2) X hj rfl rfl dL_law_454 dL_law_455 dL_law_456 rfl rfl (by decide) dL_law_457 dL_law_458 ?_
    refine L_arg1 (cn := 3) X hj rfl rfl dL_law_459 dL_law_460 dL_law_461 rfl rfl (by decide) dL_law_462 dL_law_463 ?_
    refine L_ifeq X (tgt := 471) dL_law_464 (by decide) (fun c => absurd c hz) (fun _ => ?_)
    refine L_iconst X (v := 1) dL_law_467 rfl ?_
    refine L_goto X (tgt := 472) dL_law_468 (by decide) ?_
    refine L_callR_i X (As := [.int (wX E (7 * j + 1)), .int (wX E (7 * j + 2)), .int 1]) (rest := [.int r]) ok_X6_enemy qw770 rfl ⟨rfl, rfl, Nat.le_of_ble_eq_true rfl, Nat.le_of_ble_eq_true rfl⟩ (m_X6_enemy X.dr hR) rfl rfl (Nat.le_of_ble_eq_true rfl) dL_law_472 ?_
    refine L_iceq X rfl (tgt := 1610) dL_law_475 (by decide) ?_
    exact K A2 B2 hRel
set_option maxRecDepth 100000 in
theorem law_slope {E : lwE} (X : LX E) {j : Nat} (hj : 7 * j + 7 ≤ wN E) {A B : St} (h : Rel A B) (K : ∀ A2 B2 : St, Rel A2 B2 → LG E A2 B2 1610 [(0, .ref (wb E)), (1, .ref (fAd (wF E) 0)), (2, .ref (fAd (wG E) 0)), (3, .int (nI (7 * j)))] []) : LG E A B 480 [(0, .ref (wb E)), (1, .ref (fAd (wF E) 0)), (2, .ref (fAd (wG E) 0)), (3, .int (nI (7 * j)))] [] := by
  obtain ⟨r, A2, B2, hC, hR, hRel⟩ := sim_slope h (wX E (7 * j + 1))
  refine L_aload X dL_law_480 rfl 1 rfl ?_
  refine L_arg1 (cn := 1) X hj rfl rfl dL_law_481 dL_law_482 dL_law_483 rfl rfl (by decide) dL_law_484 dL_law_485 ?_
  refine L_callC_i X (As := [.int (wX E (7 * j + 1))]) (rest := []) ok_X5_slope qw229 rfl ⟨rfl, rfl, Nat.le_of_ble_eq_true rfl, Nat.le_of_ble_eq_true rfl⟩ (m_X5_slope X.dc hC) rfl rfl (Nat.le_of_ble_eq_true rfl) dL_law_486 ?_
  refine L_aload X dL_law_489 rfl 2 rfl ?_
  refine L_arg1 (cn := 1) X hj rfl rfl dL_law_490 dL_law_491 dL_law_492 rfl rfl (by decide) dL_law_493 dL_law_494 ?_
  refine L_callR_i X (As := [.int (wX E (7 * j + 1))]) (rest := [.int r]) ok_X6_slope qw781 rfl ⟨rfl, rfl, Nat.le_of_ble_eq_true rfl, Nat.le_of_ble_eq_true rfl⟩ (m_X6_slope X.dr hR) rfl rfl (Nat.le_of_ble_eq_true rfl) dL_law_495 ?_
  refine L_iceq X rfl (tgt := 1610) dL_law_498 (by decide) ?_
  exact K A2 B2 hRel
set_option maxRecDepth 100000 in
theorem law_tells {E : lwE} (X : LX E) {j : Nat} (hj : 7 * j + 7 ≤ wN E) {A B : St} (h : Rel A B) (K : ∀ A2 B2 : St, Rel A2 B2 → LG E A2 B2 1610 [(0, .ref (wb E)), (1, .ref (fAd (wF E) 0)), (2, .ref (fAd (wG E) 0)), (3, .int (nI (7 * j)))] []) : LG E A B 503 [(0, .ref (wb E)), (1, .ref (fAd (wF E) 0)), (2, .ref (fAd (wG E) 0)), (3, .int (nI (7 * j)))] [] := by
  obtain ⟨r, A2, B2, hC, hR, hRel⟩ := sim_tells h (wX E (7 * j + 1)) (wX E (7 * j + 2))
  refine L_aload X dL_law_503 rfl 1 rfl ?_
  refine L_arg1 (cn := 1) X hj rfl rfl dL_law_504 dL_law_505 dL_law_506 rfl rfl (by decide) dL_law_507 dL_law_508 ?_
  refine L_arg1 (cn := 2) X hj rfl rfl dL_law_509 dL_law_510 dL_law_511 rfl rfl (by decide) dL_law_512 dL_law_513 ?_
  refine L_callC_l X (As := [.int (wX E (7 * j + 1)), .int (wX E (7 * j + 2))]) (rest := []) ok_X5_tells qw253 rfl ⟨rfl, rfl, Nat.le_of_ble_eq_true rfl, Nat.le_of_ble_eq_true rfl⟩ (m_X5_tells X.dc hC) rfl rfl (Nat.le_of_ble_eq_true rfl) dL_law_514 ?_
  refine L_aload X dL_law_517 rfl 2 rfl ?_
  refine L_arg1 (cn := 1) X hj rfl rfl dL_law_518 dL_law_519 dL_law_520 rfl rfl (by decide) dL_law_521 dL_law_522 ?_
  refine L_arg1 (cn := 2) X hj rfl rfl dL_law_523 dL_law_524 dL_law_525 rfl rfl (by decide) dL_law_526 dL_law_527 ?_
  refine L_callR_l X (As := [.int (wX E (7 * j + 1)), .int (wX E (7 * j + 2))]) (rest := [.long r]) ok_X6_tells qw800 rfl ⟨rfl, rfl, Nat.le_of_ble_eq_true rfl, Nat.le_of_ble_eq_true rfl⟩ (m_X6_tells X.dr hR) rfl rfl (Nat.le_of_ble_eq_true rfl) dL_law_528 ?_
  refine L_lcmp X dL_law_531 ?_
  refine L_ifeq X (tgt := 1610) dL_law_532 (by decide) (fun _ => ?_) (fun q => absurd (lg_self r) q)
  exact K A2 B2 hRel
set_option maxRecDepth 100000 in
theorem law_chance {E : lwE} (X : LX E) {j : Nat} (hj : 7 * j + 7 ≤ wN E) {A B : St} (h : Rel A B) (K : ∀ A2 B2 : St, Rel A2 B2 → LG E A2 B2 1610 [(0, .ref (wb E)), (1, .ref (fAd (wF E) 0)), (2, .ref (fAd (wG E) 0)), (3, .int (nI (7 * j)))] []) : LG E A B 537 [(0, .ref (wb E)), (1, .ref (fAd (wF E) 0)), (2, .ref (fAd (wG E) 0)), (3, .int (nI (7 * j)))] [] := by
  obtain ⟨r, A2, B2, hC, hR, hRel⟩ := sim_chance h (wX E (7 * j + 1)) (wX E (7 * j + 2))
  refine L_aload X dL_law_537 rfl 1 rfl ?_
  refine L_arg1 (cn := 1) X hj rfl rfl dL_law_538 dL_law_539 dL_law_540 rfl rfl (by decide) dL_law_541 dL_law_542 ?_
  refine L_arg1 (cn := 2) X hj rfl rfl dL_law_543 dL_law_544 dL_law_545 rfl rfl (by decide) dL_law_546 dL_law_547 ?_
  refine L_callC_l X (As := [.int (wX E (7 * j + 1)), .int (wX E (7 * j + 2))]) (rest := []) ok_X5_chance qw293 rfl ⟨rfl, rfl, Nat.le_of_ble_eq_true rfl, Nat.le_of_ble_eq_true rfl⟩ (m_X5_chance X.dc hC) rfl rfl (Nat.le_of_ble_eq_true rfl) dL_law_548 ?_
  refine L_aload X dL_law_551 rfl 2 rfl ?_
  refine L_arg1 (cn := 1) X hj rfl rfl dL_law_552 dL_law_553 dL_law_554 rfl rfl (by decide) dL_law_555 dL_law_556 ?_
  refine L_arg1 (cn := 2) X hj rfl rfl dL_law_557 dL_law_558 dL_law_559 rfl rfl (by decide) dL_law_560 dL_law_561 ?_
  refine L_callR_l X (As := [.int (wX E (7 * j + 1)), .int (wX E (7 * j + 2))]) (rest := [.long r]) ok_X6_chance qw860 rfl ⟨rfl, rfl, Nat.le_of_ble_eq_true rfl, Nat.le_of_ble_eq_true rfl⟩ (m_X6_chance X.dr hR) rfl rfl (Nat.le_of_ble_eq_true rfl) dL_law_562 ?_
  refine L_lcmp X dL_law_565 ?_
  refine L_ifeq X (tgt := 1610) dL_law_566 (by decide) (fun _ => ?_) (fun q => absurd (lg_self r) q)
  exact K A2 B2 hRel
set_option maxRecDepth 100000 in
theorem law_aim {E : lwE} (X : LX E) {j : Nat} (hj : 7 * j + 7 ≤ wN E) {A B : St} (h : Rel A B) (K : ∀ A2 B2 : St, Rel A2 B2 → LG E A2 B2 1610 [(0, .ref (wb E)), (1, .ref (fAd (wF E) 0)), (2, .ref (fAd (wG E) 0)), (3, .int (nI (7 * j)))] []) : LG E A B 571 [(0, .ref (wb E)), (1, .ref (fAd (wF E) 0)), (2, .ref (fAd (wG E) 0)), (3, .int (nI (7 * j)))] [] := by
  obtain ⟨r, A2, B2, hC, hR, hRel⟩ := sim_aim h (wX E (7 * j + 1)) (wX E (7 * j + 2)) (wX E (7 * j + 3))
  refine L_aload X dL_law_571 rfl 1 rfl ?_
  refine L_arg1 (cn := 1) X hj rfl rfl dL_law_572 dL_law_573 dL_law_574 rfl rfl (by decide) dL_law_575 dL_law_576 ?_
  refine L_arg1 (cn := 2) X hj rfl rfl dL_law_577 dL_law_578 dL_law_579 rfl rfl (by decide) dL_law_580 dL_law_581 ?_
  refine L_arg1 (cn := 3) X hj rfl rfl dL_law_582 dL_law_583 dL_law_584 rfl rfl (by decide) dL_law_585 dL_law_586 ?_
  refine L_callC_i X (As := [.int (wX E (7 * j + 1)), .int (wX E (7 * j + 2)), .int (wX E (7 * j + 3))]) (rest := []) ok_X5_aim qw301 rfl ⟨rfl, rfl, Nat.le_of_ble_eq_true rfl, Nat.le_of_ble_eq_true rfl⟩ (m_X5_aim X.dc hC) rfl rfl (Nat.le_of_ble_eq_true rfl) dL_law_587 ?_
  refine L_aload X dL_law_590 rfl 2 rfl ?_
  refine L_arg1 (cn := 1) X hj rfl rfl dL_law_591 dL_law_592 dL_law_593 rfl rfl (by decide) dL_law_594 dL_law_595 ?_
  refine L_arg1 (cn := 2) X hj rfl rfl dL_law_596 dL_law_597 dL_law_598 rfl rfl (by decide) dL_law_599 dL_law_600 ?_
  refine L_arg1 (cn := 3) X hj rfl rfl dL_law_601 dL_law_602 dL_law_603 rfl rfl (by decide) dL_law_604 dL_law_605 ?_
  refine L_callR_i X (As := [.int (wX E (7 * j + 1)), .int (wX E (7 * j + 2)), .int (wX E (7 * j + 3))]) (rest := [.int r]) ok_X6_aim qw864 rfl ⟨rfl, rfl, Nat.le_of_ble_eq_true rfl, Nat.le_of_ble_eq_true rfl⟩ (m_X6_aim X.dr hR) rfl rfl (Nat.le_of_ble_eq_true rfl) dL_law_606 ?_
  refine L_iceq X rfl (tgt := 1610) dL_law_609 (by decide) ?_
  exact K A2 B2 hRel
set_option maxRecDepth 100000 in
theorem law_value {E : lwE} (X : LX E) {j : Nat} (hj : 7 * j + 7 ≤ wN E) {A B : St} (h : Rel A B) (K : ∀ A2 B2 : St, Rel A2 B2 → LG E A2 B2 1610 [(0, .ref (wb E)), (1, .ref (fAd (wF E) 0)), (2, .ref (fAd (wG E) 0)), (3, .int (nI (7 * j)))] []) : LG E A B 614 [(0, .ref (wb E)), (1, .ref (fAd (wF E) 0)), (2, .ref (fAd (wG E) 0)), (3, .int (nI (7 * j)))] [] := by
  obtain ⟨r, A2, B2, hC, hR, hRel⟩ := sim_value h (wX E (7 * j + 1))
  refine L_aload X dL_law_614 rfl 1 rfl ?_
  refine L_arg1 (cn := 1) X hj rfl rfl dL_law_615 dL_law_616 dL_law_617 rfl rfl (by decide) dL_law_618 dL_law_619 ?_
  refine L_callC_l X (As := [.int (wX E (7 * j + 1))]) (rest := []) ok_X5_value qw305 rfl ⟨rfl, rfl, Nat.le_of_ble_eq_true rfl, Nat.le_of_ble_eq_true rfl⟩ (m_X5_value X.dc hC) rfl rfl (Nat.le_of_ble_eq_true rfl) dL_law_620 ?_
  refine L_aload X dL_law_623 rfl 2 rfl ?_
  refine L_arg1 (cn := 1) X hj rfl rfl dL_law_624 dL_law_625 dL_law_626 rfl rfl (by decide) dL_law_627 dL_law_628 ?_
  refine L_callR_l X (As := [.int (wX E (7 * j + 1))]) (rest := [.long r]) ok_X6_value qw869 rfl ⟨rfl, rfl, Nat.le_of_ble_eq_true rfl, Nat.le_of_ble_eq_true rfl⟩ (m_X6_value X.dr hR) rfl rfl (Nat.le_of_ble_eq_true rfl) dL_law_629 ?_
  refine L_lcmp X dL_law_632 ?_
  refine L_ifeq X (tgt := 1610) dL_law_633 (by decide) (fun _ => ?_) (fun q => absurd (lg_self r) q)
  exact K A2 B2 hRel
set_option maxRecDepth 100000 in
theorem law_worth {E : lwE} (X : LX E) {j : Nat} (hj : 7 * j + 7 ≤ wN E) {A B : St} (h : Rel A B) (K : ∀ A2 B2 : St, Rel A2 B2 → LG E A2 B2 1610 [(0, .ref (wb E)), (1, .ref (fAd (wF E) 0)), (2, .ref (fAd (wG E) 0)), (3, .int (nI (7 * j)))] []) : LG E A B 638 [(0, .ref (wb E)), (1, .ref (fAd (wF E) 0)), (2, .ref (fAd (wG E) 0)), (3, .int (nI (7 * j)))] [] := by
  obtain ⟨r, A2, B2, hC, hR, hRel⟩ := sim_worth h (wX E (7 * j + 1))
  refine L_aload X dL_law_638 rfl 1 rfl ?_
  refine L_arg1 (cn := 1) X hj rfl rfl dL_law_639 dL_law_640 dL_law_641 rfl rfl (by decide) dL_law_642 dL_law_643 ?_
  refine L_callC_i X (As := [.int (wX E (7 * j + 1))]) (rest := []) ok_X5_worth qw323 rfl ⟨rfl, rfl, Nat.le_of_ble_eq_true rfl, Nat.le_of_ble_eq_true rfl⟩ (m_X5_worth X.dc hC) rfl rfl (Nat.le_of_ble_eq_true rfl) dL_law_644 ?_
  refine L_aload X dL_law_647 rfl 2 rfl ?_
  refine L_arg1 (cn := 1) X hj rfl rfl dL_law_648 dL_law_649 dL_law_650 rfl rfl (by decide) dL_law_651 dL_law_652 ?_
  refine L_callR_i X (As := [.int (wX E (7 * j + 1))]) (rest := [.int r]) ok_X6_worth qw882 rfl ⟨rfl, rfl, Nat.le_of_ble_eq_true rfl, Nat.le_of_ble_eq_true rfl⟩ (m_X6_worth X.dr hR) rfl rfl (Nat.le_of_ble_eq_true rfl) dL_law_653 ?_
  refine L_iceq X rfl (tgt := 1610) dL_law_656 (by decide) ?_
  exact K A2 B2 hRel
set_option maxRecDepth 100000 in
theorem law_peak {E : lwE} (X : LX E) {j : Nat} (hj : 7 * j + 7 ≤ wN E) {A B : St} (h : Rel A B) (K : ∀ A2 B2 : St, Rel A2 B2 → LG E A2 B2 1610 [(0, .ref (wb E)), (1, .ref (fAd (wF E) 0)), (2, .ref (fAd (wG E) 0)), (3, .int (nI (7 * j)))] []) : LG E A B 661 [(0, .ref (wb E)), (1, .ref (fAd (wF E) 0)), (2, .ref (fAd (wG E) 0)), (3, .int (nI (7 * j)))] [] := by
  obtain ⟨r, A2, B2, hC, hR, hRel⟩ := sim_peak h (wX E (7 * j + 1)) (wX E (7 * j + 2)) (wX E (7 * j + 3))
  refine L_aload X dL_law_661 rfl 1 rfl ?_
  refine L_arg1 (cn := 1) X hj rfl rfl dL_law_662 dL_law_663 dL_law_664 rfl rfl (by decide) dL_law_665 dL_law_666 ?_
  refine L_arg1 (cn := 2) X hj rfl rfl dL_law_667 dL_law_668 dL_law_669 rfl rfl (by decide) dL_law_670 dL_law_671 ?_
  refine L_arg1 (cn := 3) X hj rfl rfl dL_law_672 dL_law_673 dL_law_674 rfl rfl (by decide) dL_law_675 dL_law_676 ?_
  refine L_callC_i X (As := [.int (wX E (7 * j + 1)), .int (wX E (7 * j + 2)), .int (wX E (7 * j + 3))]) (rest := []) ok_X5_peak qw328 rfl ⟨rfl, rfl, Nat.le_of_ble_eq_true rfl, Nat.le_of_ble_eq_true rfl⟩ (m_X5_peak X.dc hC) rfl rfl (Nat.le_of_ble_eq_true rfl) dL_law_677 ?_
  refine L_aload X dL_law_680 rfl 2 rfl ?_
  refine L_arg1 (cn := 1) X hj rfl rfl dL_law_681 dL_law_682 dL_law_683 rfl rfl (by decide) dL_law_684 dL_law_685 ?_
  refine L_arg1 (cn := 2) X hj rfl rfl dL_law_686 dL_law_687 dL_law_688 rfl rfl (by decide) dL_law_689 dL_law_690 ?_
  refine L_arg1 (cn := 3) X hj rfl rfl dL_law_691 dL_law_692 dL_law_693 rfl rfl (by decide) dL_law_694 dL_law_695 ?_
  refine L_callR_i X (As := [.int (wX E (7 * j + 1)), .int (wX E (7 * j + 2)), .int (wX E (7 * j + 3))]) (rest := [.int r]) ok_X6_peak qw887 rfl ⟨rfl, rfl, Nat.le_of_ble_eq_true rfl, Nat.le_of_ble_eq_true rfl⟩ (m_X6_peak X.dr hR) rfl rfl (Nat.le_of_ble_eq_true rfl) dL_law_696 ?_
  refine L_iceq X rfl (tgt := 1610) dL_law_699 (by decide) ?_
  exact K A2 B2 hRel
set_option maxRecDepth 100000 in
theorem law_topic {E : lwE} (X : LX E) {j : Nat} (hj : 7 * j + 7 ≤ wN E) {A B : St} (h : Rel A B) (K : ∀ A2 B2 : St, Rel A2 B2 → LG E A2 B2 1610 [(0, .ref (wb E)), (1, .ref (fAd (wF E) 0)), (2, .ref (fAd (wG E) 0)), (3, .int (nI (7 * j)))] []) : LG E A B 704 [(0, .ref (wb E)), (1, .ref (fAd (wF E) 0)), (2, .ref (fAd (wG E) 0)), (3, .int (nI (7 * j)))] [] := by
  obtain ⟨r, A2, B2, hC, hR, hRel⟩ := sim_topic h (wX E (7 * j + 1)) (wX E (7 * j + 2)) (wX E (7 * j + 3))
  refine L_aload X dL_law_704 rfl 1 rfl ?_
  refine L_arg1 (cn := 1) X hj rfl rfl dL_law_705 dL_law_706 dL_law_707 rfl rfl (by decide) dL_law_708 dL_law_709 ?_
  refine L_arg1 (cn := 2) X hj rfl rfl dL_law_710 dL_law_711 dL_law_712 rfl rfl (by decide) dL_law_713 dL_law_714 ?_
  refine L_arg1 (cn := 3) X hj rfl rfl dL_law_715 dL_law_716 dL_law_717 rfl rfl (by decide) dL_law_718 dL_law_719 ?_
  refine L_callC_i X (As := [.int (wX E (7 * j + 1)), .int (wX E (7 * j + 2)), .int (wX E (7 * j + 3))]) (rest := []) ok_X5_topic qw337 rfl ⟨rfl, rfl, Nat.le_of_ble_eq_true rfl, Nat.le_of_ble_eq_true rfl⟩ (m_X5_topic X.dc hC) rfl rfl (Nat.le_of_ble_eq_true rfl) dL_law_720 ?_
  refine L_aload X dL_law_723 rfl 2 rfl ?_
  refine L_arg1 (cn := 1) X hj rfl rfl dL_law_724 dL_law_725 dL_law_726 rfl rfl (by decide) dL_law_727 dL_law_728 ?_
  refine L_arg1 (cn := 2) X hj rfl rfl dL_law_729 dL_law_730 dL_law_731 rfl rfl (by decide) dL_law_732 dL_law_733 ?_
  refine L_arg1 (cn := 3) X hj rfl rfl dL_law_734 dL_law_735 dL_law_736 rfl rfl (by decide) dL_law_737 dL_law_738 ?_
  refine L_callR_i X (As := [.int (wX E (7 * j + 1)), .int (wX E (7 * j + 2)), .int (wX E (7 * j + 3))]) (rest := [.int r]) ok_X6_topic qw892 rfl ⟨rfl, rfl, Nat.le_of_ble_eq_true rfl, Nat.le_of_ble_eq_true rfl⟩ (m_X6_topic X.dr hR) rfl rfl (Nat.le_of_ble_eq_true rfl) dL_law_739 ?_
  refine L_iceq X rfl (tgt := 1610) dL_law_742 (by decide) ?_
  exact K A2 B2 hRel
set_option maxRecDepth 100000 in
theorem law_rule {E : lwE} (X : LX E) {j : Nat} (hj : 7 * j + 7 ≤ wN E) {A B : St} (h : Rel A B) (K : ∀ A2 B2 : St, Rel A2 B2 → LG E A2 B2 1610 [(0, .ref (wb E)), (1, .ref (fAd (wF E) 0)), (2, .ref (fAd (wG E) 0)), (3, .int (nI (7 * j)))] []) : LG E A B 747 [(0, .ref (wb E)), (1, .ref (fAd (wF E) 0)), (2, .ref (fAd (wG E) 0)), (3, .int (nI (7 * j)))] [] := by
  obtain ⟨r, A2, B2, hC, hR, hRel⟩ := sim_rule h (wX E (7 * j + 1)) (wX E (7 * j + 2))
  refine L_aload X dL_law_747 rfl 1 rfl ?_
  refine L_arg1 (cn := 1) X hj rfl rfl dL_law_748 dL_law_749 dL_law_750 rfl rfl (by decide) dL_law_751 dL_law_752 ?_
  refine L_arg1 (cn := 2) X hj rfl rfl dL_law_753 dL_law_754 dL_law_755 rfl rfl (by decide) dL_law_756 dL_law_757 ?_
  refine L_callC_i X (As := [.int (wX E (7 * j + 1)), .int (wX E (7 * j + 2))]) (rest := []) ok_X5_rule qw345 rfl ⟨rfl, rfl, Nat.le_of_ble_eq_true rfl, Nat.le_of_ble_eq_true rfl⟩ (m_X5_rule X.dc hC) rfl rfl (Nat.le_of_ble_eq_true rfl) dL_law_758 ?_
  refine L_aload X dL_law_761 rfl 2 rfl ?_
  refine L_arg1 (cn := 1) X hj rfl rfl dL_law_762 dL_law_763 dL_law_764 rfl rfl (by decide) dL_law_765 dL_law_766 ?_
  refine L_arg1 (cn := 2) X hj rfl rfl dL_law_767 dL_law_768 dL_law_769 rfl rfl (by decide) dL_law_770 dL_law_771 ?_
  refine L_callR_i X (As := [.int (wX E (7 * j + 1)), .int (wX E (7 * j + 2))]) (rest := [.int r]) ok_X6_rule qw897 rfl ⟨rfl, rfl, Nat.le_of_ble_eq_true rfl, Nat.le_of_ble_eq_true rfl⟩ (m_X6_rule X.dr hR) rfl rfl (Nat.le_of_ble_eq_true rfl) dL_law_772 ?_
  refine L_iceq X rfl (tgt := 1610) dL_law_775 (by decide) ?_
  exact K A2 B2 hRel
set_option maxRecDepth 100000 in
theorem law_told {E : lwE} (X : LX E) {j : Nat} (hj : 7 * j + 7 ≤ wN E) {A B : St} (h : Rel A B) (K : ∀ A2 B2 : St, Rel A2 B2 → LG E A2 B2 1610 [(0, .ref (wb E)), (1, .ref (fAd (wF E) 0)), (2, .ref (fAd (wG E) 0)), (3, .int (nI (7 * j)))] []) : LG E A B 780 [(0, .ref (wb E)), (1, .ref (fAd (wF E) 0)), (2, .ref (fAd (wG E) 0)), (3, .int (nI (7 * j)))] [] := by
  obtain ⟨r, A2, B2, hC, hR, hRel⟩ := sim_told h (wX E (7 * j + 1))
  refine L_aload X dL_law_780 rfl 1 rfl ?_
  refine L_arg1 (cn := 1) X hj rfl rfl dL_law_781 dL_law_782 dL_law_783 rfl rfl (by decide) dL_law_784 dL_law_785 ?_
  refine L_callC_i X (As := [.int (wX E (7 * j + 1))]) (rest := []) ok_X5_told qw353 rfl ⟨rfl, rfl, Nat.le_of_ble_eq_true rfl, Nat.le_of_ble_eq_true rfl⟩ (m_X5_told X.dc hC) rfl rfl (Nat.le_of_ble_eq_true rfl) dL_law_786 ?_
  refine L_aload X dL_law_789 rfl 2 rfl ?_
  refine L_arg1 (cn := 1) X hj rfl rfl dL_law_790 dL_law_791 dL_law_792 rfl rfl (by decide) dL_law_793 dL_law_794 ?_
  refine L_callR_i X (As := [.int (wX E (7 * j + 1))]) (rest := [.int r]) ok_X6_told qw902 rfl ⟨rfl, rfl, Nat.le_of_ble_eq_true rfl, Nat.le_of_ble_eq_true rfl⟩ (m_X6_told X.dr hR) rfl rfl (Nat.le_of_ble_eq_true rfl) dL_law_795 ?_
  refine L_iceq X rfl (tgt := 1610) dL_law_798 (by decide) ?_
  exact K A2 B2 hRel
set_option maxRecDepth 100000 in
theorem law_against {E : lwE} (X : LX E) {j : Nat} (hj : 7 * j + 7 ≤ wN E) {A B : St} (h : Rel A B) (K : ∀ A2 B2 : St, Rel A2 B2 → LG E A2 B2 1610 [(0, .ref (wb E)), (1, .ref (fAd (wF E) 0)), (2, .ref (fAd (wG E) 0)), (3, .int (nI (7 * j)))] []) : LG E A B 803 [(0, .ref (wb E)), (1, .ref (fAd (wF E) 0)), (2, .ref (fAd (wG E) 0)), (3, .int (nI (7 * j)))] [] := by
  obtain ⟨r, A2, B2, hC, hR, hRel⟩ := sim_against h (wX E (7 * j + 1))
  refine L_aload X dL_law_803 rfl 1 rfl ?_
  refine L_arg1 (cn := 1) X hj rfl rfl dL_law_804 dL_law_805 dL_law_806 rfl rfl (by decide) dL_law_807 dL_law_808 ?_
  refine L_callC_i X (As := [.int (wX E (7 * j + 1))]) (rest := []) ok_X5_against qw357 rfl ⟨rfl, rfl, Nat.le_of_ble_eq_true rfl, Nat.le_of_ble_eq_true rfl⟩ (m_X5_against X.dc hC) rfl rfl (Nat.le_of_ble_eq_true rfl) dL_law_809 ?_
  refine L_aload X dL_law_812 rfl 2 rfl ?_
  refine L_arg1 (cn := 1) X hj rfl rfl dL_law_813 dL_law_814 dL_law_815 rfl rfl (by decide) dL_law_816 dL_law_817 ?_
  refine L_callR_i X (As := [.int (wX E (7 * j + 1))]) (rest := [.int r]) ok_X6_against qw912 rfl ⟨rfl, rfl, Nat.le_of_ble_eq_true rfl, Nat.le_of_ble_eq_true rfl⟩ (m_X6_against X.dr hR) rfl rfl (Nat.le_of_ble_eq_true rfl) dL_law_818 ?_
  refine L_iceq X rfl (tgt := 1610) dL_law_821 (by decide) ?_
  exact K A2 B2 hRel
set_option maxRecDepth 100000 in
theorem law_papers {E : lwE} (X : LX E) {j : Nat} (hj : 7 * j + 7 ≤ wN E) {A B : St} (h : Rel A B) (K : ∀ A2 B2 : St, Rel A2 B2 → LG E A2 B2 1610 [(0, .ref (wb E)), (1, .ref (fAd (wF E) 0)), (2, .ref (fAd (wG E) 0)), (3, .int (nI (7 * j)))] []) : LG E A B 826 [(0, .ref (wb E)), (1, .ref (fAd (wF E) 0)), (2, .ref (fAd (wG E) 0)), (3, .int (nI (7 * j)))] [] := by
  obtain ⟨r, A2, hC, hR, hRel⟩ := sim_papers h
  refine L_aload X dL_law_826 rfl 1 rfl ?_
  refine L_callC_i X (As := []) (rest := []) ok_X5_papers qw403 rfl ⟨rfl, rfl, Nat.le_of_ble_eq_true rfl, Nat.le_of_ble_eq_true rfl⟩ (m_X5_papers X.dc hC) rfl rfl (Nat.le_of_ble_eq_true rfl) dL_law_827 ?_
  refine L_aload X dL_law_830 rfl 2 rfl ?_
  refine L_callR_i X (As := []) (rest := [.int r]) ok_X6_papers qw947 rfl ⟨rfl, rfl, Nat.le_of_ble_eq_true rfl, Nat.le_of_ble_eq_true rfl⟩ (m_X6_papers X.dr hR) rfl rfl (Nat.le_of_ble_eq_true rfl) dL_law_831 ?_
  refine L_iceq X rfl (tgt := 1610) dL_law_834 (by decide) ?_
  exact K A2 B hRel
set_option maxRecDepth 100000 in
theorem law_without {E : lwE} (X : LX E) {j : Nat} (hj : 7 * j + 7 ≤ wN E) {A B : St} (h : Rel A B) (K : ∀ A2 B2 : St, Rel A2 B2 → LG E A2 B2 1610 [(0, .ref (wb E)), (1, .ref (fAd (wF E) 0)), (2, .ref (fAd (wG E) 0)), (3, .int (nI (7 * j)))] []) : LG E A B 839 [(0, .ref (wb E)), (1, .ref (fAd (wF E) 0)), (2, .ref (fAd (wG E) 0)), (3, .int (nI (7 * j)))] [] := by
  obtain ⟨r, A2, B2, hC, hR, hRel⟩ := sim_without h (wX E (7 * j + 1))
  refine L_aload X dL_law_839 rfl 1 rfl ?_
  refine L_arg1 (cn := 1) X hj rfl rfl dL_law_840 dL_law_841 dL_law_842 rfl rfl (by decide) dL_law_843 dL_law_844 ?_
  refine L_callC_i X (As := [.int (wX E (7 * j + 1))]) (rest := []) ok_X5_without qw412 rfl ⟨rfl, rfl, Nat.le_of_ble_eq_true rfl, Nat.le_of_ble_eq_true rfl⟩ (m_X5_without X.dc hC) rfl rfl (Nat.le_of_ble_eq_true rfl) dL_law_845 ?_
  refine L_aload X dL_law_848 rfl 2 rfl ?_
  refine L_arg1 (cn := 1) X hj rfl rfl dL_law_849 dL_law_850 dL_law_851 rfl rfl (by decide) dL_law_852 dL_law_853 ?_
  refine L_callR_i X (As := [.int (wX E (7 * j + 1))]) (rest := [.int r]) ok_X6_without qw955 rfl ⟨rfl, rfl, Nat.le_of_ble_eq_true rfl, Nat.le_of_ble_eq_true rfl⟩ (m_X6_without X.dr hR) rfl rfl (Nat.le_of_ble_eq_true rfl) dL_law_854 ?_
  refine L_iceq X rfl (tgt := 1610) dL_law_857 (by decide) ?_
  exact K A2 B2 hRel
set_option maxRecDepth 100000 in
theorem law_best {E : lwE} (X : LX E) {j : Nat} (hj : 7 * j + 7 ≤ wN E) {A B : St} (h : Rel A B) (K : ∀ A2 B2 : St, Rel A2 B2 → LG E A2 B2 1610 [(0, .ref (wb E)), (1, .ref (fAd (wF E) 0)), (2, .ref (fAd (wG E) 0)), (3, .int (nI (7 * j)))] []) : LG E A B 862 [(0, .ref (wb E)), (1, .ref (fAd (wF E) 0)), (2, .ref (fAd (wG E) 0)), (3, .int (nI (7 * j)))] [] := by
  obtain ⟨r, A2, B2, hC, hR, hRel⟩ := sim_best h
  refine L_aload X dL_law_862 rfl 1 rfl ?_
  refine L_callC_i X (As := []) (rest := []) ok_X5_best qw416 rfl ⟨rfl, rfl, Nat.le_of_ble_eq_true rfl, Nat.le_of_ble_eq_true rfl⟩ (m_X5_best X.dc hC) rfl rfl (Nat.le_of_ble_eq_true rfl) dL_law_863 ?_
  refine L_aload X dL_law_866 rfl 2 rfl ?_
  refine L_callR_i X (As := []) (rest := [.int r]) ok_X6_best qw959 rfl ⟨rfl, rfl, Nat.le_of_ble_eq_true rfl, Nat.le_of_ble_eq_true rfl⟩ (m_X6_best X.dr hR) rfl rfl (Nat.le_of_ble_eq_true rfl) dL_law_867 ?_
  refine L_iceq X rfl (tgt := 1610) dL_law_870 (by decide) ?_
  exact K A2 B2 hRel
set_option maxRecDepth 100000 in
theorem law_rank {E : lwE} (X : LX E) {j : Nat} (hj : 7 * j + 7 ≤ wN E) {A B : St} (h : Rel A B) (K : ∀ A2 B2 : St, Rel A2 B2 → LG E A2 B2 1610 [(0, .ref (wb E)), (1, .ref (fAd (wF E) 0)), (2, .ref (fAd (wG E) 0)), (3, .int (nI (7 * j)))] []) : LG E A B 875 [(0, .ref (wb E)), (1, .ref (fAd (wF E) 0)), (2, .ref (fAd (wG E) 0)), (3, .int (nI (7 * j)))] [] := by
  obtain ⟨r, A2, B2, hC, hR, hRel⟩ := sim_rank h (wX E (7 * j + 1))
  refine L_aload X dL_law_875 rfl 1 rfl ?_
  refine L_arg1 (cn := 1) X hj rfl rfl dL_law_876 dL_law_877 dL_law_878 rfl rfl (by decide) dL_law_879 dL_law_880 ?_
  refine L_callC_i X (As := [.int (wX E (7 * j + 1))]) (rest := []) ok_X5_rank qw431 rfl ⟨rfl, rfl, Nat.le_of_ble_eq_true rfl, Nat.le_of_ble_eq_true rfl⟩ (m_X5_rank X.dc hC) rfl rfl (Nat.le_of_ble_eq_true rfl) dL_law_881 ?_
  refine L_aload X dL_law_884 rfl 2 rfl ?_
  refine L_arg1 (cn := 1) X hj rfl rfl dL_law_885 dL_law_886 dL_law_887 rfl rfl (by decide) dL_law_888 dL_law_889 ?_
  refine L_callR_i X (As := [.int (wX E (7 * j + 1))]) (rest := [.int r]) ok_X6_rank qw971 rfl ⟨rfl, rfl, Nat.le_of_ble_eq_true rfl, Nat.le_of_ble_eq_true rfl⟩ (m_X6_rank X.dr hR) rfl rfl (Nat.le_of_ble_eq_true rfl) dL_law_890 ?_
  refine L_iceq X rfl (tgt := 1610) dL_law_893 (by decide) ?_
  exact K A2 B2 hRel
set_option maxRecDepth 100000 in
theorem law_swap {E : lwE} (X : LX E) {j : Nat} (hj : 7 * j + 7 ≤ wN E) {A B : St} (h : Rel A B) (K : ∀ A2 B2 : St, Rel A2 B2 → LG E A2 B2 1610 [(0, .ref (wb E)), (1, .ref (fAd (wF E) 0)), (2, .ref (fAd (wG E) 0)), (3, .int (nI (7 * j)))] []) : LG E A B 898 [(0, .ref (wb E)), (1, .ref (fAd (wF E) 0)), (2, .ref (fAd (wG E) 0)), (3, .int (nI (7 * j)))] [] := by
  obtain ⟨r, A2, B2, hC, hR, hRel⟩ := sim_swap h (wX E (7 * j + 1)) (wX E (7 * j + 2))
  refine L_aload X dL_law_898 rfl 1 rfl ?_
  refine L_arg1 (cn := 1) X hj rfl rfl dL_law_899 dL_law_900 dL_law_901 rfl rfl (by decide) dL_law_902 dL_law_903 ?_
  refine L_arg1 (cn := 2) X hj rfl rfl dL_law_904 dL_law_905 dL_law_906 rfl rfl (by decide) dL_law_907 dL_law_908 ?_
  refine L_callC_i X (As := [.int (wX E (7 * j + 1)), .int (wX E (7 * j + 2))]) (rest := []) ok_X5_swap qw439 rfl ⟨rfl, rfl, Nat.le_of_ble_eq_true rfl, Nat.le_of_ble_eq_true rfl⟩ (m_X5_swap X.dc hC) rfl rfl (Nat.le_of_ble_eq_true rfl) dL_law_909 ?_
  refine L_aload X dL_law_912 rfl 2 rfl ?_
  refine L_arg1 (cn := 1) X hj rfl rfl dL_law_913 dL_law_914 dL_law_915 rfl rfl (by decide) dL_law_916 dL_law_917 ?_
  refine L_arg1 (cn := 2) X hj rfl rfl dL_law_918 dL_law_919 dL_law_920 rfl rfl (by decide) dL_law_921 dL_law_922 ?_
  refine L_callR_i X (As := [.int (wX E (7 * j + 1)), .int (wX E (7 * j + 2))]) (rest := [.int r]) ok_X6_swap qw975 rfl ⟨rfl, rfl, Nat.le_of_ble_eq_true rfl, Nat.le_of_ble_eq_true rfl⟩ (m_X6_swap X.dr hR) rfl rfl (Nat.le_of_ble_eq_true rfl) dL_law_923 ?_
  refine L_iceq X rfl (tgt := 1610) dL_law_926 (by decide) ?_
  exact K A2 B2 hRel
set_option maxRecDepth 100000 in
theorem law_forms {E : lwE} (X : LX E) {j : Nat} (hj : 7 * j + 7 ≤ wN E) {A B : St} (h : Rel A B) (K : ∀ A2 B2 : St, Rel A2 B2 → LG E A2 B2 1610 [(0, .ref (wb E)), (1, .ref (fAd (wF E) 0)), (2, .ref (fAd (wG E) 0)), (3, .int (nI (7 * j)))] []) : LG E A B 931 [(0, .ref (wb E)), (1, .ref (fAd (wF E) 0)), (2, .ref (fAd (wG E) 0)), (3, .int (nI (7 * j)))] [] := by
  obtain ⟨r, A2, B2, hC, hR, hRel⟩ := sim_forms h (wX E (7 * j + 1))
  refine L_aload X dL_law_931 rfl 1 rfl ?_
  refine L_arg1 (cn := 1) X hj rfl rfl dL_law_932 dL_law_933 dL_law_934 rfl rfl (by decide) dL_law_935 dL_law_936 ?_
  refine L_callC_i X (As := [.int (wX E (7 * j + 1))]) (rest := []) ok_X5_forms qw452 rfl ⟨rfl, rfl, Nat.le_of_ble_eq_true rfl, Nat.le_of_ble_eq_true rfl⟩ (m_X5_forms X.dc hC) rfl rfl (Nat.le_of_ble_eq_true rfl) dL_law_937 ?_
  refine L_aload X dL_law_940 rfl 2 rfl ?_
  refine L_arg1 (cn := 1) X hj rfl rfl dL_law_941 dL_law_942 dL_law_943 rfl rfl (by decide) dL_law_944 dL_law_945 ?_
  refine L_callR_i X (As := [.int (wX E (7 * j + 1))]) (rest := [.int r]) ok_X6_forms qw979 rfl ⟨rfl, rfl, Nat.le_of_ble_eq_true rfl, Nat.le_of_ble_eq_true rfl⟩ (m_X6_forms X.dr hR) rfl rfl (Nat.le_of_ble_eq_true rfl) dL_law_946 ?_
  refine L_iceq X rfl (tgt := 1610) dL_law_949 (by decide) ?_
  exact K A2 B2 hRel
set_option maxRecDepth 100000 in
theorem law_gap {E : lwE} (X : LX E) {j : Nat} (hj : 7 * j + 7 ≤ wN E) {A B : St} (h : Rel A B) (K : ∀ A2 B2 : St, Rel A2 B2 → LG E A2 B2 1610 [(0, .ref (wb E)), (1, .ref (fAd (wF E) 0)), (2, .ref (fAd (wG E) 0)), (3, .int (nI (7 * j)))] []) : LG E A B 954 [(0, .ref (wb E)), (1, .ref (fAd (wF E) 0)), (2, .ref (fAd (wG E) 0)), (3, .int (nI (7 * j)))] [] := by
  obtain ⟨r, A2, B2, hC, hR, hRel⟩ := sim_gap h
  refine L_aload X dL_law_954 rfl 1 rfl ?_
  refine L_callC_l X (As := []) (rest := []) ok_X5_gap qw462 rfl ⟨rfl, rfl, Nat.le_of_ble_eq_true rfl, Nat.le_of_ble_eq_true rfl⟩ (m_X5_gap X.dc hC) rfl rfl (Nat.le_of_ble_eq_true rfl) dL_law_955 ?_
  refine L_aload X dL_law_958 rfl 2 rfl ?_
  refine L_callR_l X (As := []) (rest := [.long r]) ok_X6_gap qw995 rfl ⟨rfl, rfl, Nat.le_of_ble_eq_true rfl, Nat.le_of_ble_eq_true rfl⟩ (m_X6_gap X.dr hR) rfl rfl (Nat.le_of_ble_eq_true rfl) dL_law_959 ?_
  refine L_lcmp X dL_law_962 ?_
  refine L_ifeq X (tgt := 1610) dL_law_963 (by decide) (fun _ => ?_) (fun q => absurd (lg_self r) q)
  exact K A2 B2 hRel
set_option maxRecDepth 100000 in
theorem law_use {E : lwE} (X : LX E) {j : Nat} (hj : 7 * j + 7 ≤ wN E) {A B : St} (h : Rel A B) (K : ∀ A2 B2 : St, Rel A2 B2 → LG E A2 B2 1610 [(0, .ref (wb E)), (1, .ref (fAd (wF E) 0)), (2, .ref (fAd (wG E) 0)), (3, .int (nI (7 * j)))] []) : LG E A B 968 [(0, .ref (wb E)), (1, .ref (fAd (wF E) 0)), (2, .ref (fAd (wG E) 0)), (3, .int (nI (7 * j)))] [] := by
  obtain ⟨r, A2, B2, hC, hR, hRel⟩ := sim_use h (wX E (7 * j + 1))
  refine L_aload X dL_law_968 rfl 1 rfl ?_
  refine L_arg1 (cn := 1) X hj rfl rfl dL_law_969 dL_law_970 dL_law_971 rfl rfl (by decide) dL_law_972 dL_law_973 ?_
  refine L_callC_i X (As := [.int (wX E (7 * j + 1))]) (rest := []) ok_X5_use qw471 rfl ⟨rfl, rfl, Nat.le_of_ble_eq_true rfl, Nat.le_of_ble_eq_true rfl⟩ (m_X5_use X.dc hC) rfl rfl (Nat.le_of_ble_eq_true rfl) dL_law_974 ?_
  refine L_aload X dL_law_977 rfl 2 rfl ?_
  refine L_arg1 (cn := 1) X hj rfl rfl dL_law_978 dL_law_979 dL_law_980 rfl rfl (by decide) dL_law_981 dL_law_982 ?_
  refine L_callR_i X (As := [.int (wX E (7 * j + 1))]) (rest := [.int r]) ok_X6_use qw999 rfl ⟨rfl, rfl, Nat.le_of_ble_eq_true rfl, Nat.le_of_ble_eq_true rfl⟩ (m_X6_use X.dr hR) rfl rfl (Nat.le_of_ble_eq_true rfl) dL_law_983 ?_
  refine L_iceq X rfl (tgt := 1610) dL_law_986 (by decide) ?_
  exact K A2 B2 hRel
set_option maxRecDepth 100000 in
theorem law_uses {E : lwE} (X : LX E) {j : Nat} (hj : 7 * j + 7 ≤ wN E) {A B : St} (h : Rel A B) (K : ∀ A2 B2 : St, Rel A2 B2 → LG E A2 B2 1610 [(0, .ref (wb E)), (1, .ref (fAd (wF E) 0)), (2, .ref (fAd (wG E) 0)), (3, .int (nI (7 * j)))] []) : LG E A B 991 [(0, .ref (wb E)), (1, .ref (fAd (wF E) 0)), (2, .ref (fAd (wG E) 0)), (3, .int (nI (7 * j)))] [] := by
  obtain ⟨r, A2, B2, hC, hR, hRel⟩ := sim_uses h (wX E (7 * j + 1))
  refine L_aload X dL_law_991 rfl 1 rfl ?_
  refine L_arg1 (cn := 1) X hj rfl rfl dL_law_992 dL_law_993 dL_law_994 rfl rfl (by decide) dL_law_995 dL_law_996 ?_
  refine L_callC_i X (As := [.int (wX E (7 * j + 1))]) (rest := []) ok_X5_uses qw481 rfl ⟨rfl, rfl, Nat.le_of_ble_eq_true rfl, Nat.le_of_ble_eq_true rfl⟩ (m_X5_uses X.dc hC) rfl rfl (Nat.le_of_ble_eq_true rfl) dL_law_997 ?_
  refine L_aload X dL_law_1000 rfl 2 rfl ?_
  refine L_arg1 (cn := 1) X hj rfl rfl dL_law_1001 dL_law_1002 dL_law_1003 rfl rfl (by decide) dL_law_1004 dL_law_1005 ?_
  refine L_callR_i X (As := [.int (wX E (7 * j + 1))]) (rest := [.int r]) ok_X6_uses qw1007 rfl ⟨rfl, rfl, Nat.le_of_ble_eq_true rfl, Nat.le_of_ble_eq_true rfl⟩ (m_X6_uses X.dr hR) rfl rfl (Nat.le_of_ble_eq_true rfl) dL_law_1006 ?_
  refine L_iceq X rfl (tgt := 1610) dL_law_1009 (by decide) ?_
  exact K A2 B2 hRel
set_option maxRecDepth 100000 in
theorem law_loose {E : lwE} (X : LX E) {j : Nat} (hj : 7 * j + 7 ≤ wN E) {A B : St} (h : Rel A B) (K : ∀ A2 B2 : St, Rel A2 B2 → LG E A2 B2 1610 [(0, .ref (wb E)), (1, .ref (fAd (wF E) 0)), (2, .ref (fAd (wG E) 0)), (3, .int (nI (7 * j)))] []) : LG E A B 1014 [(0, .ref (wb E)), (1, .ref (fAd (wF E) 0)), (2, .ref (fAd (wG E) 0)), (3, .int (nI (7 * j)))] [] := by
  obtain ⟨r, A2, B2, hC, hR, hRel⟩ := sim_loose h (wX E (7 * j + 1))
  refine L_aload X dL_law_1014 rfl 1 rfl ?_
  refine L_arg1 (cn := 1) X hj rfl rfl dL_law_1015 dL_law_1016 dL_law_1017 rfl rfl (by decide) dL_law_1018 dL_law_1019 ?_
  refine L_callC_i X (As := [.int (wX E (7 * j + 1))]) (rest := []) ok_X5_loose qw485 rfl ⟨rfl, rfl, Nat.le_of_ble_eq_true rfl, Nat.le_of_ble_eq_true rfl⟩ (m_X5_loose X.dc hC) rfl rfl (Nat.le_of_ble_eq_true rfl) dL_law_1020 ?_
  refine L_aload X dL_law_1023 rfl 2 rfl ?_
  refine L_arg1 (cn := 1) X hj rfl rfl dL_law_1024 dL_law_1025 dL_law_1026 rfl rfl (by decide) dL_law_1027 dL_law_1028 ?_
  refine L_callR_i X (As := [.int (wX E (7 * j + 1))]) (rest := [.int r]) ok_X6_loose qw1011 rfl ⟨rfl, rfl, Nat.le_of_ble_eq_true rfl, Nat.le_of_ble_eq_true rfl⟩ (m_X6_loose X.dr hR) rfl rfl (Nat.le_of_ble_eq_true rfl) dL_law_1029 ?_
  refine L_iceq X rfl (tgt := 1610) dL_law_1032 (by decide) ?_
  exact K A2 B2 hRel
set_option maxRecDepth 100000 in
theorem law_seed {E : lwE} (X : LX E) {j : Nat} (hj : 7 * j + 7 ≤ wN E) {A B : St} (h : Rel A B) (K : ∀ A2 B2 : St, Rel A2 B2 → LG E A2 B2 1610 [(0, .ref (wb E)), (1, .ref (fAd (wF E) 0)), (2, .ref (fAd (wG E) 0)), (3, .int (nI (7 * j)))] []) : LG E A B 1037 [(0, .ref (wb E)), (1, .ref (fAd (wF E) 0)), (2, .ref (fAd (wG E) 0)), (3, .int (nI (7 * j)))] [] := by
  obtain ⟨r, A2, B2, hC, hR, hRel⟩ := sim_seed h (wX E (7 * j + 1))
  refine L_aload X dL_law_1037 rfl 1 rfl ?_
  refine L_arg1 (cn := 1) X hj rfl rfl dL_law_1038 dL_law_1039 dL_law_1040 rfl rfl (by decide) dL_law_1041 dL_law_1042 ?_
  refine L_callC_i X (As := [.int (wX E (7 * j + 1))]) (rest := []) ok_X5_seed qw498 rfl ⟨rfl, rfl, Nat.le_of_ble_eq_true rfl, Nat.le_of_ble_eq_true rfl⟩ (m_X5_seed X.dc hC) rfl rfl (Nat.le_of_ble_eq_true rfl) dL_law_1043 ?_
  refine L_aload X dL_law_1046 rfl 2 rfl ?_
  refine L_arg1 (cn := 1) X hj rfl rfl dL_law_1047 dL_law_1048 dL_law_1049 rfl rfl (by decide) dL_law_1050 dL_law_1051 ?_
  refine L_callR_i X (As := [.int (wX E (7 * j + 1))]) (rest := [.int r]) ok_X6_seed qw1020 rfl ⟨rfl, rfl, Nat.le_of_ble_eq_true rfl, Nat.le_of_ble_eq_true rfl⟩ (m_X6_seed X.dr hR) rfl rfl (Nat.le_of_ble_eq_true rfl) dL_law_1052 ?_
  refine L_iceq X rfl (tgt := 1610) dL_law_1055 (by decide) ?_
  exact K A2 B2 hRel
set_option maxRecDepth 100000 in
theorem law_shelf {E : lwE} (X : LX E) {j : Nat} (hj : 7 * j + 7 ≤ wN E) {A B : St} (h : Rel A B) (K : ∀ A2 B2 : St, Rel A2 B2 → LG E A2 B2 1610 [(0, .ref (wb E)), (1, .ref (fAd (wF E) 0)), (2, .ref (fAd (wG E) 0)), (3, .int (nI (7 * j)))] []) : LG E A B 1060 [(0, .ref (wb E)), (1, .ref (fAd (wF E) 0)), (2, .ref (fAd (wG E) 0)), (3, .int (nI (7 * j)))] [] := by
  obtain ⟨r, A2, B2, hC, hR, hRel⟩ := sim_shelf h (wX E (7 * j + 1)) (wX E (7 * j + 2))
  refine L_aload X dL_law_1060 rfl 1 rfl ?_
  refine L_arg1 (cn := 1) X hj rfl rfl dL_law_1061 dL_law_1062 dL_law_1063 rfl rfl (by decide) dL_law_1064 dL_law_1065 ?_
  refine L_arg1 (cn := 2) X hj rfl rfl dL_law_1066 dL_law_1067 dL_law_1068 rfl rfl (by decide) dL_law_1069 dL_law_1070 ?_
  refine L_callC_i X (As := [.int (wX E (7 * j + 1)), .int (wX E (7 * j + 2))]) (rest := []) ok_X5_shelf qw502 rfl ⟨rfl, rfl, Nat.le_of_ble_eq_true rfl, Nat.le_of_ble_eq_true rfl⟩ (m_X5_shelf X.dc hC) rfl rfl (Nat.le_of_ble_eq_true rfl) dL_law_1071 ?_
  refine L_aload X dL_law_1074 rfl 2 rfl ?_
  refine L_arg1 (cn := 1) X hj rfl rfl dL_law_1075 dL_law_1076 dL_law_1077 rfl rfl (by decide) dL_law_1078 dL_law_1079 ?_
  refine L_arg1 (cn := 2) X hj rfl rfl dL_law_1080 dL_law_1081 dL_law_1082 rfl rfl (by decide) dL_law_1083 dL_law_1084 ?_
  refine L_callR_i X (As := [.int (wX E (7 * j + 1)), .int (wX E (7 * j + 2))]) (rest := [.int r]) ok_X6_shelf qw1024 rfl ⟨rfl, rfl, Nat.le_of_ble_eq_true rfl, Nat.le_of_ble_eq_true rfl⟩ (m_X6_shelf X.dr hR) rfl rfl (Nat.le_of_ble_eq_true rfl) dL_law_1085 ?_
  refine L_iceq X rfl (tgt := 1610) dL_law_1088 (by decide) ?_
  exact K A2 B2 hRel
set_option maxRecDepth 100000 in
theorem law_lay {E : lwE} (X : LX E) {j : Nat} (hj : 7 * j + 7 ≤ wN E) {A B : St} (h : Rel A B) (K : ∀ A2 B2 : St, Rel A2 B2 → LG E A2 B2 1610 [(0, .ref (wb E)), (1, .ref (fAd (wF E) 0)), (2, .ref (fAd (wG E) 0)), (3, .int (nI (7 * j)))] []) : LG E A B 1093 [(0, .ref (wb E)), (1, .ref (fAd (wF E) 0)), (2, .ref (fAd (wG E) 0)), (3, .int (nI (7 * j)))] [] := by
  obtain ⟨r, A2, B2, hC, hR, hRel⟩ := sim_lay h (wX E (7 * j + 1)) (wX E (7 * j + 2)) (wX E (7 * j + 3))
  refine L_aload X dL_law_1093 rfl 1 rfl ?_
  refine L_arg1 (cn := 1) X hj rfl rfl dL_law_1094 dL_law_1095 dL_law_1096 rfl rfl (by decide) dL_law_1097 dL_law_1098 ?_
  refine L_arg1 (cn := 2) X hj rfl rfl dL_law_1099 dL_law_1100 dL_law_1101 rfl rfl (by decide) dL_law_1102 dL_law_1103 ?_
  refine L_arg1 (cn := 3) X hj rfl rfl dL_law_1104 dL_law_1105 dL_law_1106 rfl rfl (by decide) dL_law_1107 dL_law_1108 ?_
  refine L_callC_i X (As := [.int (wX E (7 * j + 1)), .int (wX E (7 * j + 2)), .int (wX E (7 * j + 3))]) (rest := []) ok_X5_lay qw518 rfl ⟨rfl, rfl, Nat.le_of_ble_eq_true rfl, Nat.le_of_ble_eq_true rfl⟩ (m_X5_lay X.dc hC) rfl rfl (Nat.le_of_ble_eq_true rfl) dL_law_1109 ?_
  refine L_aload X dL_law_1112 rfl 2 rfl ?_
  refine L_arg1 (cn := 1) X hj rfl rfl dL_law_1113 dL_law_1114 dL_law_1115 rfl rfl (by decide) dL_law_1116 dL_law_1117 ?_
  refine L_arg1 (cn := 2) X hj rfl rfl dL_law_1118 dL_law_1119 dL_law_1120 rfl rfl (by decide) dL_law_1121 dL_law_1122 ?_
  refine L_arg1 (cn := 3) X hj rfl rfl dL_law_1123 dL_law_1124 dL_law_1125 rfl rfl (by decide) dL_law_1126 dL_law_1127 ?_
  refine L_callR_i X (As := [.int (wX E (7 * j + 1)), .int (wX E (7 * j + 2)), .int (wX E (7 * j + 3))]) (rest := [.int r]) ok_X6_lay qw1035 rfl ⟨rfl, rfl, Nat.le_of_ble_eq_true rfl, Nat.le_of_ble_eq_true rfl⟩ (m_X6_lay X.dr hR) rfl rfl (Nat.le_of_ble_eq_true rfl) dL_law_1128 ?_
  refine L_iceq X rfl (tgt := 1610) dL_law_1131 (by decide) ?_
  exact K A2 B2 hRel
set_option maxRecDepth 100000 in
theorem law_stands {E : lwE} (X : LX E) {j : Nat} (hj : 7 * j + 7 ≤ wN E) {A B : St} (h : Rel A B) (K : ∀ A2 B2 : St, Rel A2 B2 → LG E A2 B2 1610 [(0, .ref (wb E)), (1, .ref (fAd (wF E) 0)), (2, .ref (fAd (wG E) 0)), (3, .int (nI (7 * j)))] []) : LG E A B 1136 [(0, .ref (wb E)), (1, .ref (fAd (wF E) 0)), (2, .ref (fAd (wG E) 0)), (3, .int (nI (7 * j)))] [] := by
  obtain ⟨r, A2, B2, hC, hR, hRel⟩ := sim_stands h (wX E (7 * j + 1)) (wX E (7 * j + 2)) (wX E (7 * j + 3))
  refine L_aload X dL_law_1136 rfl 1 rfl ?_
  refine L_arg1 (cn := 1) X hj rfl rfl dL_law_1137 dL_law_1138 dL_law_1139 rfl rfl (by decide) dL_law_1140 dL_law_1141 ?_
  refine L_arg1 (cn := 2) X hj rfl rfl dL_law_1142 dL_law_1143 dL_law_1144 rfl rfl (by decide) dL_law_1145 dL_law_1146 ?_
  refine L_arg1 (cn := 3) X hj rfl rfl dL_law_1147 dL_law_1148 dL_law_1149 rfl rfl (by decide) dL_law_1150 dL_law_1151 ?_
  refine L_callC_i X (As := [.int (wX E (7 * j + 1)), .int (wX E (7 * j + 2)), .int (wX E (7 * j + 3))]) (rest := []) ok_X5_stands qw522 rfl ⟨rfl, rfl, Nat.le_of_ble_eq_true rfl, Nat.le_of_ble_eq_true rfl⟩ (m_X5_stands X.dc hC) rfl rfl (Nat.le_of_ble_eq_true rfl) dL_law_1152 ?_
  refine L_aload X dL_law_1155 rfl 2 rfl ?_
  refine L_arg1 (cn := 1) X hj rfl rfl dL_law_1156 dL_law_1157 dL_law_1158 rfl rfl (by decide) dL_law_1159 dL_law_1160 ?_
  refine L_arg1 (cn := 2) X hj rfl rfl dL_law_1161 dL_law_1162 dL_law_1163 rfl rfl (by decide) dL_law_1164 dL_law_1165 ?_
  refine L_arg1 (cn := 3) X hj rfl rfl dL_law_1166 dL_law_1167 dL_law_1168 rfl rfl (by decide) dL_law_1169 dL_law_1170 ?_
  refine L_callR_i X (As := [.int (wX E (7 * j + 1)), .int (wX E (7 * j + 2)), .int (wX E (7 * j + 3))]) (rest := [.int r]) ok_X6_stands qw1039 rfl ⟨rfl, rfl, Nat.le_of_ble_eq_true rfl, Nat.le_of_ble_eq_true rfl⟩ (m_X6_stands X.dr hR) rfl rfl (Nat.le_of_ble_eq_true rfl) dL_law_1171 ?_
  refine L_iceq X rfl (tgt := 1610) dL_law_1174 (by decide) ?_
  exact K A2 B2 hRel
set_option maxRecDepth 100000 in
theorem law_moves {E : lwE} (X : LX E) {j : Nat} (hj : 7 * j + 7 ≤ wN E) {A B : St} (h : Rel A B) (K : ∀ A2 B2 : St, Rel A2 B2 → LG E A2 B2 1610 [(0, .ref (wb E)), (1, .ref (fAd (wF E) 0)), (2, .ref (fAd (wG E) 0)), (3, .int (nI (7 * j)))] []) : LG E A B 1179 [(0, .ref (wb E)), (1, .ref (fAd (wF E) 0)), (2, .ref (fAd (wG E) 0)), (3, .int (nI (7 * j)))] [] := by
  obtain ⟨r, A2, B2, hC, hR, hRel⟩ := sim_moves h (wX E (7 * j + 1)) (wX E (7 * j + 2))
  refine L_aload X dL_law_1179 rfl 1 rfl ?_
  refine L_arg1 (cn := 1) X hj rfl rfl dL_law_1180 dL_law_1181 dL_law_1182 rfl rfl (by decide) dL_law_1183 dL_law_1184 ?_
  refine L_arg1 (cn := 2) X hj rfl rfl dL_law_1185 dL_law_1186 dL_law_1187 rfl rfl (by decide) dL_law_1188 dL_law_1189 ?_
  refine L_callC_i X (As := [.int (wX E (7 * j + 1)), .int (wX E (7 * j + 2))]) (rest := []) ok_X5_moves qw527 rfl ⟨rfl, rfl, Nat.le_of_ble_eq_true rfl, Nat.le_of_ble_eq_true rfl⟩ (m_X5_moves X.dc hC) rfl rfl (Nat.le_of_ble_eq_true rfl) dL_law_1190 ?_
  refine L_aload X dL_law_1193 rfl 2 rfl ?_
  refine L_arg1 (cn := 1) X hj rfl rfl dL_law_1194 dL_law_1195 dL_law_1196 rfl rfl (by decide) dL_law_1197 dL_law_1198 ?_
  refine L_arg1 (cn := 2) X hj rfl rfl dL_law_1199 dL_law_1200 dL_law_1201 rfl rfl (by decide) dL_law_1202 dL_law_1203 ?_
  refine L_callR_i X (As := [.int (wX E (7 * j + 1)), .int (wX E (7 * j + 2))]) (rest := [.int r]) ok_X6_moves qw1043 rfl ⟨rfl, rfl, Nat.le_of_ble_eq_true rfl, Nat.le_of_ble_eq_true rfl⟩ (m_X6_moves X.dr hR) rfl rfl (Nat.le_of_ble_eq_true rfl) dL_law_1204 ?_
  refine L_iceq X rfl (tgt := 1610) dL_law_1207 (by decide) ?_
  exact K A2 B2 hRel
set_option maxRecDepth 100000 in
theorem law_sheet {E : lwE} (X : LX E) {j : Nat} (hj : 7 * j + 7 ≤ wN E) {A B : St} (h : Rel A B) (K : ∀ A2 B2 : St, Rel A2 B2 → LG E A2 B2 1610 [(0, .ref (wb E)), (1, .ref (fAd (wF E) 0)), (2, .ref (fAd (wG E) 0)), (3, .int (nI (7 * j)))] []) : LG E A B 1212 [(0, .ref (wb E)), (1, .ref (fAd (wF E) 0)), (2, .ref (fAd (wG E) 0)), (3, .int (nI (7 * j)))] [] := by
  obtain ⟨r, A2, B2, hC, hR, hRel⟩ := sim_sheet h (wX E (7 * j + 1)) (wX E (7 * j + 2)) (wX E (7 * j + 3))
  refine L_aload X dL_law_1212 rfl 1 rfl ?_
  refine L_arg1 (cn := 1) X hj rfl rfl dL_law_1213 dL_law_1214 dL_law_1215 rfl rfl (by decide) dL_law_1216 dL_law_1217 ?_
  refine L_arg1 (cn := 2) X hj rfl rfl dL_law_1218 dL_law_1219 dL_law_1220 rfl rfl (by decide) dL_law_1221 dL_law_1222 ?_
  refine L_arg1 (cn := 3) X hj rfl rfl dL_law_1223 dL_law_1224 dL_law_1225 rfl rfl (by decide) dL_law_1226 dL_law_1227 ?_
  refine L_callC_i X (As := [.int (wX E (7 * j + 1)), .int (wX E (7 * j + 2)), .int (wX E (7 * j + 3))]) (rest := []) ok_X5_sheet qw536 rfl ⟨rfl, rfl, Nat.le_of_ble_eq_true rfl, Nat.le_of_ble_eq_true rfl⟩ (m_X5_sheet X.dc hC) rfl rfl (Nat.le_of_ble_eq_true rfl) dL_law_1228 ?_
  refine L_aload X dL_law_1231 rfl 2 rfl ?_
  refine L_arg1 (cn := 1) X hj rfl rfl dL_law_1232 dL_law_1233 dL_law_1234 rfl rfl (by decide) dL_law_1235 dL_law_1236 ?_
  refine L_arg1 (cn := 2) X hj rfl rfl dL_law_1237 dL_law_1238 dL_law_1239 rfl rfl (by decide) dL_law_1240 dL_law_1241 ?_
  refine L_arg1 (cn := 3) X hj rfl rfl dL_law_1242 dL_law_1243 dL_law_1244 rfl rfl (by decide) dL_law_1245 dL_law_1246 ?_
  refine L_callR_i X (As := [.int (wX E (7 * j + 1)), .int (wX E (7 * j + 2)), .int (wX E (7 * j + 3))]) (rest := [.int r]) ok_X6_sheet qw1047 rfl ⟨rfl, rfl, Nat.le_of_ble_eq_true rfl, Nat.le_of_ble_eq_true rfl⟩ (m_X6_sheet X.dr hR) rfl rfl (Nat.le_of_ble_eq_true rfl) dL_law_1247 ?_
  refine L_iceq X rfl (tgt := 1610) dL_law_1250 (by decide) ?_
  exact K A2 B2 hRel
set_option maxRecDepth 100000 in
theorem law_write {E : lwE} (X : LX E) {j : Nat} (hj : 7 * j + 7 ≤ wN E) {A B : St} (h : Rel A B) (K : ∀ A2 B2 : St, Rel A2 B2 → LG E A2 B2 1610 [(0, .ref (wb E)), (1, .ref (fAd (wF E) 0)), (2, .ref (fAd (wG E) 0)), (3, .int (nI (7 * j)))] []) : LG E A B 1255 [(0, .ref (wb E)), (1, .ref (fAd (wF E) 0)), (2, .ref (fAd (wG E) 0)), (3, .int (nI (7 * j)))] [] := by
  obtain ⟨r, A2, B2, hC, hR, hRel⟩ := sim_write h (wX E (7 * j + 1)) (wX E (7 * j + 2)) (wX E (7 * j + 3))
  refine L_aload X dL_law_1255 rfl 1 rfl ?_
  refine L_arg1 (cn := 1) X hj rfl rfl dL_law_1256 dL_law_1257 dL_law_1258 rfl rfl (by decide) dL_law_1259 dL_law_1260 ?_
  refine L_arg1 (cn := 2) X hj rfl rfl dL_law_1261 dL_law_1262 dL_law_1263 rfl rfl (by decide) dL_law_1264 dL_law_1265 ?_
  refine L_arg1 (cn := 3) X hj rfl rfl dL_law_1266 dL_law_1267 dL_law_1268 rfl rfl (by decide) dL_law_1269 dL_law_1270 ?_
  refine L_callC_i X (As := [.int (wX E (7 * j + 1)), .int (wX E (7 * j + 2)), .int (wX E (7 * j + 3))]) (rest := []) ok_X5_write qw547 rfl ⟨rfl, rfl, Nat.le_of_ble_eq_true rfl, Nat.le_of_ble_eq_true rfl⟩ (m_X5_write X.dc hC) rfl rfl (Nat.le_of_ble_eq_true rfl) dL_law_1271 ?_
  refine L_aload X dL_law_1274 rfl 2 rfl ?_
  refine L_arg1 (cn := 1) X hj rfl rfl dL_law_1275 dL_law_1276 dL_law_1277 rfl rfl (by decide) dL_law_1278 dL_law_1279 ?_
  refine L_arg1 (cn := 2) X hj rfl rfl dL_law_1280 dL_law_1281 dL_law_1282 rfl rfl (by decide) dL_law_1283 dL_law_1284 ?_
  refine L_arg1 (cn := 3) X hj rfl rfl dL_law_1285 dL_law_1286 dL_law_1287 rfl rfl (by decide) dL_law_1288 dL_law_1289 ?_
  refine L_callR_i X (As := [.int (wX E (7 * j + 1)), .int (wX E (7 * j + 2)), .int (wX E (7 * j + 3))]) (rest := [.int r]) ok_X6_write qw1054 rfl ⟨rfl, rfl, Nat.le_of_ble_eq_true rfl, Nat.le_of_ble_eq_true rfl⟩ (m_X6_write X.dr hR) rfl rfl (Nat.le_of_ble_eq_true rfl) dL_law_1290 ?_
  refine L_iceq X rfl (tgt := 1610) dL_law_1293 (by decide) ?_
  exact K A2 B2 hRel
set_option maxRecDepth 100000 in
theorem law_item {E : lwE} (X : LX E) {j : Nat} (hj : 7 * j + 7 ≤ wN E) {A B : St} (h : Rel A B) (K : ∀ A2 B2 : St, Rel A2 B2 → LG E A2 B2 1610 [(0, .ref (wb E)), (1, .ref (fAd (wF E) 0)), (2, .ref (fAd (wG E) 0)), (3, .int (nI (7 * j)))] []) : LG E A B 1298 [(0, .ref (wb E)), (1, .ref (fAd (wF E) 0)), (2, .ref (fAd (wG E) 0)), (3, .int (nI (7 * j)))] [] := by
  obtain ⟨r, A2, B2, hC, hR, hRel⟩ := sim_item h (wX E (7 * j + 1)) (wX E (7 * j + 2))
  refine L_aload X dL_law_1298 rfl 1 rfl ?_
  refine L_arg1 (cn := 1) X hj rfl rfl dL_law_1299 dL_law_1300 dL_law_1301 rfl rfl (by decide) dL_law_1302 dL_law_1303 ?_
  refine L_arg1 (cn := 2) X hj rfl rfl dL_law_1304 dL_law_1305 dL_law_1306 rfl rfl (by decide) dL_law_1307 dL_law_1308 ?_
  refine L_callC_l X (As := [.int (wX E (7 * j + 1)), .int (wX E (7 * j + 2))]) (rest := []) ok_X5_item qw569 rfl ⟨rfl, rfl, Nat.le_of_ble_eq_true rfl, Nat.le_of_ble_eq_true rfl⟩ (m_X5_item X.dc hC) rfl rfl (Nat.le_of_ble_eq_true rfl) dL_law_1309 ?_
  refine L_aload X dL_law_1312 rfl 2 rfl ?_
  refine L_arg1 (cn := 1) X hj rfl rfl dL_law_1313 dL_law_1314 dL_law_1315 rfl rfl (by decide) dL_law_1316 dL_law_1317 ?_
  refine L_arg1 (cn := 2) X hj rfl rfl dL_law_1318 dL_law_1319 dL_law_1320 rfl rfl (by decide) dL_law_1321 dL_law_1322 ?_
  refine L_callR_l X (As := [.int (wX E (7 * j + 1)), .int (wX E (7 * j + 2))]) (rest := [.long r]) ok_X6_item qw1063 rfl ⟨rfl, rfl, Nat.le_of_ble_eq_true rfl, Nat.le_of_ble_eq_true rfl⟩ (m_X6_item X.dr hR) rfl rfl (Nat.le_of_ble_eq_true rfl) dL_law_1323 ?_
  refine L_lcmp X dL_law_1326 ?_
  refine L_ifeq X (tgt := 1610) dL_law_1327 (by decide) (fun _ => ?_) (fun q => absurd (lg_self r) q)
  exact K A2 B2 hRel
set_option maxRecDepth 100000 in
theorem law_copy {E : lwE} (X : LX E) {j : Nat} (hj : 7 * j + 7 ≤ wN E) {A B : St} (h : Rel A B) (K : ∀ A2 B2 : St, Rel A2 B2 → LG E A2 B2 1610 [(0, .ref (wb E)), (1, .ref (fAd (wF E) 0)), (2, .ref (fAd (wG E) 0)), (3, .int (nI (7 * j)))] []) : LG E A B 1332 [(0, .ref (wb E)), (1, .ref (fAd (wF E) 0)), (2, .ref (fAd (wG E) 0)), (3, .int (nI (7 * j)))] [] := by
  obtain ⟨r, A2, B2, hC, hR, hRel⟩ := sim_copy h (wX E (7 * j + 1)) (wX E (7 * j + 2)) (wX E (7 * j + 3)) (wX E (7 * j + 4)) (wX E (7 * j + 5))
  refine L_aload X dL_law_1332 rfl 1 rfl ?_
  refine L_arg1 (cn := 1) X hj rfl rfl dL_law_1333 dL_law_1334 dL_law_1335 rfl rfl (by decide) dL_law_1336 dL_law_1337 ?_
  refine L_arg1 (cn := 2) X hj rfl rfl dL_law_1338 dL_law_1339 dL_law_1340 rfl rfl (by decide) dL_law_1341 dL_law_1342 ?_
  refine L_arg1 (cn := 3) X hj rfl rfl dL_law_1343 dL_law_1344 dL_law_1345 rfl rfl (by decide) dL_law_1346 dL_law_1347 ?_
  refine L_arg1 (cn := 4) X hj rfl rfl dL_law_1348 dL_law_1349 dL_law_1350 rfl rfl (by decide) dL_law_1351 dL_law_1352 ?_
  refine L_arg1 (cn := 5) X hj rfl rfl dL_law_1353 dL_law_1354 dL_law_1355 rfl rfl (by decide) dL_law_1356 dL_law_1357 ?_
  refine L_callC_i X (As := [.int (wX E (7 * j + 1)), .int (wX E (7 * j + 2)), .int (wX E (7 * j + 3)), .int (wX E (7 * j + 4)), .int (wX E (7 * j + 5))]) (rest := []) ok_X5_copy qw579 rfl ⟨rfl, rfl, Nat.le_of_ble_eq_true rfl, Nat.le_of_ble_eq_true rfl⟩ (m_X5_copy X.dc hC) rfl rfl (Nat.le_of_ble_eq_true rfl) dL_law_1358 ?_
  refine L_aload X dL_law_1361 rfl 2 rfl ?_
  refine L_arg1 (cn := 1) X hj rfl rfl dL_law_1362 dL_law_1363 dL_law_1364 rfl rfl (by decide) dL_law_1365 dL_law_1366 ?_
  refine L_arg1 (cn := 2) X hj rfl rfl dL_law_1367 dL_law_1368 dL_law_1369 rfl rfl (by decide) dL_law_1370 dL_law_1371 ?_
  refine L_arg1 (cn := 3) X hj rfl rfl dL_law_1372 dL_law_1373 dL_law_1374 rfl rfl (by decide) dL_law_1375 dL_law_1376 ?_
  refine L_arg1 (cn := 4) X hj rfl rfl dL_law_1377 dL_law_1378 dL_law_1379 rfl rfl (by decide) dL_law_1380 dL_law_1381 ?_
  refine L_arg1 (cn := 5) X hj rfl rfl dL_law_1382 dL_law_1383 dL_law_1384 rfl rfl (by decide) dL_law_1385 dL_law_1386 ?_
  refine L_callR_i X (As := [.int (wX E (7 * j + 1)), .int (wX E (7 * j + 2)), .int (wX E (7 * j + 3)), .int (wX E (7 * j + 4)), .int (wX E (7 * j + 5))]) (rest := [.int r]) ok_X6_copy qw1067 rfl ⟨rfl, rfl, Nat.le_of_ble_eq_true rfl, Nat.le_of_ble_eq_true rfl⟩ (m_X6_copy X.dr hR) rfl rfl (Nat.le_of_ble_eq_true rfl) dL_law_1387 ?_
  refine L_iceq X rfl (tgt := 1610) dL_law_1390 (by decide) ?_
  exact K A2 B2 hRel
set_option maxRecDepth 100000 in
theorem law_casts {E : lwE} (X : LX E) {j : Nat} (hj : 7 * j + 7 ≤ wN E) {A B : St} (h : Rel A B) (K : ∀ A2 B2 : St, Rel A2 B2 → LG E A2 B2 1610 [(0, .ref (wb E)), (1, .ref (fAd (wF E) 0)), (2, .ref (fAd (wG E) 0)), (3, .int (nI (7 * j)))] []) : LG E A B 1395 [(0, .ref (wb E)), (1, .ref (fAd (wF E) 0)), (2, .ref (fAd (wG E) 0)), (3, .int (nI (7 * j)))] [] := by
  obtain ⟨r, A2, B2, hC, hR, hRel⟩ := sim_casts h (wX E (7 * j + 1)) (wX E (7 * j + 2))
  refine L_aload X dL_law_1395 rfl 1 rfl ?_
  refine L_arg1 (cn := 1) X hj rfl rfl dL_law_1396 dL_law_1397 dL_law_1398 rfl rfl (by decide) dL_law_1399 dL_law_1400 ?_
  refine L_arg1 (cn := 2) X hj rfl rfl dL_law_1401 dL_law_1402 dL_law_1403 rfl rfl (by decide) dL_law_1404 dL_law_1405 ?_
  refine L_callC_i X (As := [.int (wX E (7 * j + 1)), .int (wX E (7 * j + 2))]) (rest := []) ok_X5_casts qw590 rfl ⟨rfl, rfl, Nat.le_of_ble_eq_true rfl, Nat.le_of_ble_eq_true rfl⟩ (m_X5_casts X.dc hC) rfl rfl (Nat.le_of_ble_eq_true rfl) dL_law_1406 ?_
  refine L_aload X dL_law_1409 rfl 2 rfl ?_
  refine L_arg1 (cn := 1) X hj rfl rfl dL_law_1410 dL_law_1411 dL_law_1412 rfl rfl (by decide) dL_law_1413 dL_law_1414 ?_
  refine L_arg1 (cn := 2) X hj rfl rfl dL_law_1415 dL_law_1416 dL_law_1417 rfl rfl (by decide) dL_law_1418 dL_law_1419 ?_
  refine L_callR_i X (As := [.int (wX E (7 * j + 1)), .int (wX E (7 * j + 2))]) (rest := [.int r]) ok_X6_casts qw1075 rfl ⟨rfl, rfl, Nat.le_of_ble_eq_true rfl, Nat.le_of_ble_eq_true rfl⟩ (m_X6_casts X.dr hR) rfl rfl (Nat.le_of_ble_eq_true rfl) dL_law_1420 ?_
  refine L_iceq X rfl (tgt := 1610) dL_law_1423 (by decide) ?_
  exact K A2 B2 hRel
set_option maxRecDepth 100000 in
theorem law_table {E : lwE} (X : LX E) {j : Nat} (hj : 7 * j + 7 ≤ wN E) {A B : St} (h : Rel A B) (K : ∀ A2 B2 : St, Rel A2 B2 → LG E A2 B2 1610 [(0, .ref (wb E)), (1, .ref (fAd (wF E) 0)), (2, .ref (fAd (wG E) 0)), (3, .int (nI (7 * j)))] []) : LG E A B 1428 [(0, .ref (wb E)), (1, .ref (fAd (wF E) 0)), (2, .ref (fAd (wG E) 0)), (3, .int (nI (7 * j)))] [] := by
  obtain ⟨r, A2, B2, hC, hR, hRel⟩ := sim_table h (wX E (7 * j + 1)) (wX E (7 * j + 2)) (wX E (7 * j + 3)) (wX E (7 * j + 4))
  refine L_aload X dL_law_1428 rfl 1 rfl ?_
  refine L_arg1 (cn := 1) X hj rfl rfl dL_law_1429 dL_law_1430 dL_law_1431 rfl rfl (by decide) dL_law_1432 dL_law_1433 ?_
  refine L_arg1 (cn := 2) X hj rfl rfl dL_law_1434 dL_law_1435 dL_law_1436 rfl rfl (by decide) dL_law_1437 dL_law_1438 ?_
  refine L_arg1 (cn := 3) X hj rfl rfl dL_law_1439 dL_law_1440 dL_law_1441 rfl rfl (by decide) dL_law_1442 dL_law_1443 ?_
  refine L_arg1 (cn := 4) X hj rfl rfl dL_law_1444 dL_law_1445 dL_law_1446 rfl rfl (by decide) dL_law_1447 dL_law_1448 ?_
  refine L_callC_i X (As := [.int (wX E (7 * j + 1)), .int (wX E (7 * j + 2)), .int (wX E (7 * j + 3)), .int (wX E (7 * j + 4))]) (rest := []) ok_X5_table qw597 rfl ⟨rfl, rfl, Nat.le_of_ble_eq_true rfl, Nat.le_of_ble_eq_true rfl⟩ (m_X5_table X.dc hC) rfl rfl (Nat.le_of_ble_eq_true rfl) dL_law_1449 ?_
  refine L_aload X dL_law_1452 rfl 2 rfl ?_
  refine L_arg1 (cn := 1) X hj rfl rfl dL_law_1453 dL_law_1454 dL_law_1455 rfl rfl (by decide) dL_law_1456 dL_law_1457 ?_
  refine L_arg1 (cn := 2) X hj rfl rfl dL_law_1458 dL_law_1459 dL_law_1460 rfl rfl (by decide) dL_law_1461 dL_law_1462 ?_
  refine L_arg1 (cn := 3) X hj rfl rfl dL_law_1463 dL_law_1464 dL_law_1465 rfl rfl (by decide) dL_law_1466 dL_law_1467 ?_
  refine L_arg1 (cn := 4) X hj rfl rfl dL_law_1468 dL_law_1469 dL_law_1470 rfl rfl (by decide) dL_law_1471 dL_law_1472 ?_
  refine L_callR_i X (As := [.int (wX E (7 * j + 1)), .int (wX E (7 * j + 2)), .int (wX E (7 * j + 3)), .int (wX E (7 * j + 4))]) (rest := [.int r]) ok_X6_table qw1092 rfl ⟨rfl, rfl, Nat.le_of_ble_eq_true rfl, Nat.le_of_ble_eq_true rfl⟩ (m_X6_table X.dr hR) rfl rfl (Nat.le_of_ble_eq_true rfl) dL_law_1473 ?_
  refine L_iceq X rfl (tgt := 1610) dL_law_1476 (by decide) ?_
  exact K A2 B2 hRel
set_option maxRecDepth 100000 in
theorem law_rests {E : lwE} (X : LX E) {j : Nat} (hj : 7 * j + 7 ≤ wN E) {A B : St} (h : Rel A B) (K : ∀ A2 B2 : St, Rel A2 B2 → LG E A2 B2 1610 [(0, .ref (wb E)), (1, .ref (fAd (wF E) 0)), (2, .ref (fAd (wG E) 0)), (3, .int (nI (7 * j)))] []) : LG E A B 1481 [(0, .ref (wb E)), (1, .ref (fAd (wF E) 0)), (2, .ref (fAd (wG E) 0)), (3, .int (nI (7 * j)))] [] := by
  obtain ⟨r, A2, B2, hC, hR, hRel⟩ := sim_rests h (wX E (7 * j + 1)) (wX E (7 * j + 2))
  refine L_aload X dL_law_1481 rfl 1 rfl ?_
  refine L_arg1 (cn := 1) X hj rfl rfl dL_law_1482 dL_law_1483 dL_law_1484 rfl rfl (by decide) dL_law_1485 dL_law_1486 ?_
  refine L_arg1 (cn := 2) X hj rfl rfl dL_law_1487 dL_law_1488 dL_law_1489 rfl rfl (by decide) dL_law_1490 dL_law_1491 ?_
  refine L_callC_i X (As := [.int (wX E (7 * j + 1)), .int (wX E (7 * j + 2))]) (rest := []) ok_X5_rests qw601 rfl ⟨rfl, rfl, Nat.le_of_ble_eq_true rfl, Nat.le_of_ble_eq_true rfl⟩ (m_X5_rests X.dc hC) rfl rfl (Nat.le_of_ble_eq_true rfl) dL_law_1492 ?_
  refine L_aload X dL_law_1495 rfl 2 rfl ?_
  refine L_arg1 (cn := 1) X hj rfl rfl dL_law_1496 dL_law_1497 dL_law_1498 rfl rfl (by decide) dL_law_1499 dL_law_1500 ?_
  refine L_arg1 (cn := 2) X hj rfl rfl dL_law_1501 dL_law_1502 dL_law_1503 rfl rfl (by decide) dL_law_1504 dL_law_1505 ?_
  refine L_callR_i X (As := [.int (wX E (7 * j + 1)), .int (wX E (7 * j + 2))]) (rest := [.int r]) ok_X6_rests qw1096 rfl ⟨rfl, rfl, Nat.le_of_ble_eq_true rfl, Nat.le_of_ble_eq_true rfl⟩ (m_X6_rests X.dr hR) rfl rfl (Nat.le_of_ble_eq_true rfl) dL_law_1506 ?_
  refine L_iceq X rfl (tgt := 1610) dL_law_1509 (by decide) ?_
  exact K A2 B2 hRel
set_option maxRecDepth 100000 in
theorem law_sum {E : lwE} (X : LX E) {j : Nat} (hj : 7 * j + 7 ≤ wN E) {A B : St} (h : Rel A B) (K : ∀ A2 B2 : St, Rel A2 B2 → LG E A2 B2 1610 [(0, .ref (wb E)), (1, .ref (fAd (wF E) 0)), (2, .ref (fAd (wG E) 0)), (3, .int (nI (7 * j)))] []) : LG E A B 1514 [(0, .ref (wb E)), (1, .ref (fAd (wF E) 0)), (2, .ref (fAd (wG E) 0)), (3, .int (nI (7 * j)))] [] := by
  obtain ⟨r, A2, B2, hC, hR, hRel⟩ := sim_sum h (wX E (7 * j + 1))
  refine L_aload X dL_law_1514 rfl 1 rfl ?_
  refine L_arg1 (cn := 1) X hj rfl rfl dL_law_1515 dL_law_1516 dL_law_1517 rfl rfl (by decide) dL_law_1518 dL_law_1519 ?_
  refine L_callC_l X (As := [.int (wX E (7 * j + 1))]) (rest := []) ok_X5_sum qw606 rfl ⟨rfl, rfl, Nat.le_of_ble_eq_true rfl, Nat.le_of_ble_eq_true rfl⟩ (m_X5_sum X.dc hC) rfl rfl (Nat.le_of_ble_eq_true rfl) dL_law_1520 ?_
  refine L_aload X dL_law_1523 rfl 2 rfl ?_
  refine L_arg1 (cn := 1) X hj rfl rfl dL_law_1524 dL_law_1525 dL_law_1526 rfl rfl (by decide) dL_law_1527 dL_law_1528 ?_
  refine L_callR_l X (As := [.int (wX E (7 * j + 1))]) (rest := [.long r]) ok_X6_sum qw1101 rfl ⟨rfl, rfl, Nat.le_of_ble_eq_true rfl, Nat.le_of_ble_eq_true rfl⟩ (m_X6_sum X.dr hR) rfl rfl (Nat.le_of_ble_eq_true rfl) dL_law_1529 ?_
  refine L_lcmp X dL_law_1532 ?_
  refine L_ifeq X (tgt := 1610) dL_law_1533 (by decide) (fun _ => ?_) (fun q => absurd (lg_self r) q)
  exact K A2 B2 hRel
set_option maxRecDepth 100000 in
theorem law_image {E : lwE} (X : LX E) {j : Nat} (hj : 7 * j + 7 ≤ wN E) {A B : St} (h : Rel A B) (K : ∀ A2 B2 : St, Rel A2 B2 → LG E A2 B2 1610 [(0, .ref (wb E)), (1, .ref (fAd (wF E) 0)), (2, .ref (fAd (wG E) 0)), (3, .int (nI (7 * j)))] []) : LG E A B 1538 [(0, .ref (wb E)), (1, .ref (fAd (wF E) 0)), (2, .ref (fAd (wG E) 0)), (3, .int (nI (7 * j)))] [] := by
  obtain ⟨r, A2, B2, hC, hR, hRel⟩ := sim_image h
  refine L_aload X dL_law_1538 rfl 1 rfl ?_
  refine L_callC_i X (As := []) (rest := []) ok_X5_image qw610 rfl ⟨rfl, rfl, Nat.le_of_ble_eq_true rfl, Nat.le_of_ble_eq_true rfl⟩ (m_X5_image X.dc hC) rfl rfl (Nat.le_of_ble_eq_true rfl) dL_law_1539 ?_
  refine L_aload X dL_law_1542 rfl 2 rfl ?_
  refine L_callR_i X (As := []) (rest := [.int r]) ok_X6_image qw1105 rfl ⟨rfl, rfl, Nat.le_of_ble_eq_true rfl, Nat.le_of_ble_eq_true rfl⟩ (m_X6_image X.dr hR) rfl rfl (Nat.le_of_ble_eq_true rfl) dL_law_1543 ?_
  refine L_iceq X rfl (tgt := 1610) dL_law_1546 (by decide) ?_
  exact K A2 B2 hRel
set_option maxRecDepth 100000 in
theorem law_back {E : lwE} (X : LX E) {j : Nat} (hj : 7 * j + 7 ≤ wN E) {A B : St} (h : Rel A B) (K : ∀ A2 B2 : St, Rel A2 B2 → LG E A2 B2 1610 [(0, .ref (wb E)), (1, .ref (fAd (wF E) 0)), (2, .ref (fAd (wG E) 0)), (3, .int (nI (7 * j)))] []) : LG E A B 1551 [(0, .ref (wb E)), (1, .ref (fAd (wF E) 0)), (2, .ref (fAd (wG E) 0)), (3, .int (nI (7 * j)))] [] := by
  obtain ⟨r, A2, B2, hC, hR, hRel⟩ := sim_back h
  refine L_aload X dL_law_1551 rfl 1 rfl ?_
  refine L_callC_i X (As := []) (rest := []) ok_X5_back qw619 rfl ⟨rfl, rfl, Nat.le_of_ble_eq_true rfl, Nat.le_of_ble_eq_true rfl⟩ (m_X5_back X.dc hC) rfl rfl (Nat.le_of_ble_eq_true rfl) dL_law_1552 ?_
  refine L_aload X dL_law_1555 rfl 2 rfl ?_
  refine L_callR_i X (As := []) (rest := [.int r]) ok_X6_back qw1109 rfl ⟨rfl, rfl, Nat.le_of_ble_eq_true rfl, Nat.le_of_ble_eq_true rfl⟩ (m_X6_back X.dr hR) rfl rfl (Nat.le_of_ble_eq_true rfl) dL_law_1556 ?_
  refine L_iceq X rfl (tgt := 1610) dL_law_1559 (by decide) ?_
  exact K A2 B2 hRel
set_option maxRecDepth 100000 in
theorem law_count {E : lwE} (X : LX E) {j : Nat} (hj : 7 * j + 7 ≤ wN E) {A B : St} (h : Rel A B) (K : ∀ A2 B2 : St, Rel A2 B2 → LG E A2 B2 1610 [(0, .ref (wb E)), (1, .ref (fAd (wF E) 0)), (2, .ref (fAd (wG E) 0)), (3, .int (nI (7 * j)))] []) : LG E A B 1564 [(0, .ref (wb E)), (1, .ref (fAd (wF E) 0)), (2, .ref (fAd (wG E) 0)), (3, .int (nI (7 * j)))] [] := by
  obtain ⟨r, A2, B2, hC, hR, hRel⟩ := sim_count h (wX E (7 * j + 1))
  refine L_aload X dL_law_1564 rfl 1 rfl ?_
  refine L_arg1 (cn := 1) X hj rfl rfl dL_law_1565 dL_law_1566 dL_law_1567 rfl rfl (by decide) dL_law_1568 dL_law_1569 ?_
  refine L_callC_i X (As := [.int (wX E (7 * j + 1))]) (rest := []) ok_X5_count qw623 rfl ⟨rfl, rfl, Nat.le_of_ble_eq_true rfl, Nat.le_of_ble_eq_true rfl⟩ (m_X5_count X.dc hC) rfl rfl (Nat.le_of_ble_eq_true rfl) dL_law_1570 ?_
  refine L_aload X dL_law_1573 rfl 2 rfl ?_
  refine L_arg1 (cn := 1) X hj rfl rfl dL_law_1574 dL_law_1575 dL_law_1576 rfl rfl (by decide) dL_law_1577 dL_law_1578 ?_
  refine L_callR_i X (As := [.int (wX E (7 * j + 1))]) (rest := [.int r]) ok_X6_count qw1113 rfl ⟨rfl, rfl, Nat.le_of_ble_eq_true rfl, Nat.le_of_ble_eq_true rfl⟩ (m_X6_count X.dr hR) rfl rfl (Nat.le_of_ble_eq_true rfl) dL_law_1579 ?_
  refine L_iceq X rfl (tgt := 1610) dL_law_1582 (by decide) ?_
  exact K A2 B2 hRel
set_option maxRecDepth 100000 in
theorem law_status {E : lwE} (X : LX E) {j : Nat} (hj : 7 * j + 7 ≤ wN E) {A B : St} (h : Rel A B) (K : ∀ A2 B2 : St, Rel A2 B2 → LG E A2 B2 1610 [(0, .ref (wb E)), (1, .ref (fAd (wF E) 0)), (2, .ref (fAd (wG E) 0)), (3, .int (nI (7 * j)))] []) : LG E A B 1587 [(0, .ref (wb E)), (1, .ref (fAd (wF E) 0)), (2, .ref (fAd (wG E) 0)), (3, .int (nI (7 * j)))] [] := by
  obtain ⟨r, A2, B2, hC, hR, hRel⟩ := sim_status h (wX E (7 * j + 1))
  refine L_aload X dL_law_1587 rfl 1 rfl ?_
  refine L_arg1 (cn := 1) X hj rfl rfl dL_law_1588 dL_law_1589 dL_law_1590 rfl rfl (by decide) dL_law_1591 dL_law_1592 ?_
  refine L_callC_i X (As := [.int (wX E (7 * j + 1))]) (rest := []) ok_X5_status qw640 rfl ⟨rfl, rfl, Nat.le_of_ble_eq_true rfl, Nat.le_of_ble_eq_true rfl⟩ (m_X5_status X.dc hC) rfl rfl (Nat.le_of_ble_eq_true rfl) dL_law_1593 ?_
  refine L_aload X dL_law_1596 rfl 2 rfl ?_
  refine L_arg1 (cn := 1) X hj rfl rfl dL_law_1597 dL_law_1598 dL_law_1599 rfl rfl (by decide) dL_law_1600 dL_law_1601 ?_
  refine L_callR_i X (As := [.int (wX E (7 * j + 1))]) (rest := [.int r]) ok_X6_status qw1117 rfl ⟨rfl, rfl, Nat.le_of_ble_eq_true rfl, Nat.le_of_ble_eq_true rfl⟩ (m_X6_status X.dr hR) rfl rfl (Nat.le_of_ble_eq_true rfl) dL_law_1602 ?_
  refine L_iceq X rfl (tgt := 1610) dL_law_1605 (by decide) ?_
  exact K A2 B2 hRel
set_option maxRecDepth 100000 in
theorem law_loop {E : lwE} (X : LX E) : ∀ (n j : Nat) (A B : St), 7 * j ≤ 3591 → wN E < 7 * (j + n) → Rel A B → LG E A B 18 [(0, .ref (wb E)), (1, .ref (fAd (wF E) 0)), (2, .ref (fAd (wG E) 0)), (3, .int (nI (7 * j)))] [] := by
  intro n
  induction n with
  | zero =>
    intro j A B hj0 hn h
    have hN := X.nn
    refine L_iload X dL_law_18 rfl 3 rfl ?_
    refine L_aload X dL_law_19 rfl 0 rfl ?_
    refine L_slen X dL_law_20 ?_
    refine L_bipush X (v := 7) dL_law_21 rfl ?_
    refine L_isub X dL_law_23 ?_
    refine L_icgt X (tgt := 1616) dL_law_24 (by decide) (fun _ => ?_) (fun c => absurd (lt_seven (by omega) (by omega) (by omega)) c)
    refine L_iconst X (v := 1) dL_law_1616 rfl ?_
    exact L_end X rfl dL_law_1617
  | succ n ih =>
    intro j A B hj0 hn h
    have hN := X.nn
    refine L_iload X dL_law_18 rfl 3 rfl ?_
    refine L_aload X dL_law_19 rfl 0 rfl ?_
    refine L_slen X dL_law_20 ?_
    refine L_bipush X (v := 7) dL_law_21 rfl ?_
    refine L_isub X dL_law_23 ?_
    refine L_icgt X (tgt := 1616) dL_law_24 (by decide) (fun _ => ?_) (fun c => ?_)
    · refine L_iconst X (v := 1) dL_law_1616 rfl ?_
      exact L_end X rfl dL_law_1617
    · have hj : 7 * j + 7 ≤ wN E := by
        rcases Nat.lt_or_ge (wN E) (7 * j + 7) with q | q
        · exact absurd (lt_seven (by omega) (by omega) q) c
        · exact q
      have K : ∀ A2 B2 : St, Rel A2 B2 → LG E A2 B2 1610 [(0, .ref (wb E)), (1, .ref (fAd (wF E) 0)), (2, .ref (fAd (wG E) 0)), (3, .int (nI (7 * j)))] [] := by
        intro A2 B2 h2
        refine L_iinc X (q := 3) (v := nI (7 * (j + 1))) dL_law_1610 rfl (by rw [show (7 * (j + 1)) = 7 * j + 7 by omega, ← nI_add]; rfl) (by decide) rfl ?_
        refine L_goto X (tgt := 18) dL_law_1613 (by decide) ?_
        exact L_sub [1, 2, 3, 0] rfl (ih (j + 1) A2 B2 (by omega) (by omega) h2)
      refine L_aload X dL_law_27 rfl 0 rfl ?_
      refine L_iload X dL_law_28 rfl 3 rfl ?_
      refine L_sld (j := 7 * j) X (vp_in_nI (by omega) (by omega)) (nI_clamp (by omega)) dL_law_29 ?_
      refine L_bipush X (v := 63) dL_law_30 rfl ?_
      refine L_iand X dL_law_32 ?_
      generalize wX E (7 * j) &&& 63 = x
      by_cases c0 : x = 0
      · subst c0
        refine L_tabIn X dL_law_33 (by decide) (by decide) (off := 191) rfl (tgt := 224) (by decide) ?_
        exact law_add X hj h K
      by_cases c1 : x = 1
      · subst c1
        refine L_tabIn X dL_law_33 (by decide) (by decide) (off := 266) rfl (tgt := 299) (by decide) ?_
        exact law_of X hj h K
      by_cases c2 : x = 2
      · subst c2
        refine L_tabIn X dL_law_33 (by decide) (by decide) (off := 299) rfl (tgt := 332) (by decide) ?_
        exact law_change X hj h K
      by_cases c3 : x = 3
      · subst c3
        refine L_tabIn X dL_law_33 (by decide) (by decide) (off := 342) rfl (tgt := 375) (by decide) ?_
        exact law_drop X hj h K
      by_cases c4 : x = 4
      · subst c4
        refine L_tabIn X dL_law_33 (by decide) (by decide) (off := 355) rfl (tgt := 388) (by decide) ?_
        exact law_as X hj h K
      by_cases c5 : x = 5
      · subst c5
        refine L_tabIn X dL_law_33 (by decide) (by decide) (off := 388) rfl (tgt := 421) (by decide) ?_
        exact law_enemy X hj h K
      by_cases c6 : x = 6
      · subst c6
        refine L_tabIn X dL_law_33 (by decide) (by decide) (off := 447) rfl (tgt := 480) (by decide) ?_
        exact law_slope X hj h K
      by_cases c7 : x = 7
      · subst c7
        refine L_tabIn X dL_law_33 (by decide) (by decide) (off := 470) rfl (tgt := 503) (by decide) ?_
        exact law_tells X hj h K
      by_cases c8 : x = 8
      · subst c8
        refine L_tabIn X dL_law_33 (by decide) (by decide) (off := 504) rfl (tgt := 537) (by decide) ?_
        exact law_chance X hj h K
      by_cases c9 : x = 9
      · subst c9
        refine L_tabIn X dL_law_33 (by decide) (by decide) (off := 538) rfl (tgt := 571) (by decide) ?_
        exact law_aim X hj h K
      by_cases c10 : x = 10
      · subst c10
        refine L_tabIn X dL_law_33 (by decide) (by decide) (off := 581) rfl (tgt := 614) (by decide) ?_
        exact law_value X hj h K
      by_cases c11 : x = 11
      · subst c11
        refine L_tabIn X dL_law_33 (by decide) (by decide) (off := 605) rfl (tgt := 638) (by decide) ?_
        exact law_worth X hj h K
      by_cases c12 : x = 12
      · subst c12
        refine L_tabIn X dL_law_33 (by decide) (by decide) (off := 628) rfl (tgt := 661) (by decide) ?_
        exact law_peak X hj h K
      by_cases c13 : x = 13
      · subst c13
        refine L_tabIn X dL_law_33 (by decide) (by decide) (off := 671) rfl (tgt := 704) (by decide) ?_
        exact law_topic X hj h K
      by_cases c14 : x = 14
      · subst c14
        refine L_tabIn X dL_law_33 (by decide) (by decide) (off := 714) rfl (tgt := 747) (by decide) ?_
        exact law_rule X hj h K
      by_cases c15 : x = 15
      · subst c15
        refine L_tabIn X dL_law_33 (by decide) (by decide) (off := 747) rfl (tgt := 780) (by decide) ?_
        exact law_told X hj h K
      by_cases c16 : x = 16
      · subst c16
        refine L_tabIn X dL_law_33 (by decide) (by decide) (off := 770) rfl (tgt := 803) (by decide) ?_
        exact law_against X hj h K
      by_cases c17 : x = 17
      · subst c17
        refine L_tabIn X dL_law_33 (by decide) (by decide) (off := 793) rfl (tgt := 826) (by decide) ?_
        exact law_papers X hj h K
      by_cases c18 : x = 18
      · subst c18
        refine L_tabIn X dL_law_33 (by decide) (by decide) (off := 806) rfl (tgt := 839) (by decide) ?_
        exact law_without X hj h K
      by_cases c19 : x = 19
      · subst c19
        refine L_tabIn X dL_law_33 (by decide) (by decide) (off := 829) rfl (tgt := 862) (by decide) ?_
        exact law_best X hj h K
      by_cases c20 : x = 20
      · subst c20
        refine L_tabIn X dL_law_33 (by decide) (by decide) (off := 842) rfl (tgt := 875) (by decide) ?_
        exact law_rank X hj h K
      by_cases c21 : x = 21
      · subst c21
        refine L_tabIn X dL_law_33 (by decide) (by decide) (off := 865) rfl (tgt := 898) (by decide) ?_
        exact law_swap X hj h K
      by_cases c22 : x = 22
      · subst c22
        refine L_tabIn X dL_law_33 (by decide) (by decide) (off := 898) rfl (tgt := 931) (by decide) ?_
        exact law_forms X hj h K
      by_cases c23 : x = 23
      · subst c23
        refine L_tabIn X dL_law_33 (by decide) (by decide) (off := 921) rfl (tgt := 954) (by decide) ?_
        exact law_gap X hj h K
      by_cases c24 : x = 24
      · subst c24
        refine L_tabIn X dL_law_33 (by decide) (by decide) (off := 935) rfl (tgt := 968) (by decide) ?_
        exact law_use X hj h K
      by_cases c25 : x = 25
      · subst c25
        refine L_tabIn X dL_law_33 (by decide) (by decide) (off := 958) rfl (tgt := 991) (by decide) ?_
        exact law_uses X hj h K
      by_cases c26 : x = 26
      · subst c26
        refine L_tabIn X dL_law_33 (by decide) (by decide) (off := 981) rfl (tgt := 1014) (by decide) ?_
        exact law_loose X hj h K
      by_cases c27 : x = 27
      · subst c27
        refine L_tabIn X dL_law_33 (by decide) (by decide) (off := 1004) rfl (tgt := 1037) (by decide) ?_
        exact law_seed X hj h K
      by_cases c28 : x = 28
      · subst c28
        refine L_tabIn X dL_law_33 (by decide) (by decide) (off := 1027) rfl (tgt := 1060) (by decide) ?_
        exact law_shelf X hj h K
      by_cases c29 : x = 29
      · subst c29
        refine L_tabIn X dL_law_33 (by decide) (by decide) (off := 1060) rfl (tgt := 1093) (by decide) ?_
        exact law_lay X hj h K
      by_cases c30 : x = 30
      · subst c30
        refine L_tabIn X dL_law_33 (by decide) (by decide) (off := 1103) rfl (tgt := 1136) (by decide) ?_
        exact law_stands X hj h K
      by_cases c31 : x = 31
      · subst c31
        refine L_tabIn X dL_law_33 (by decide) (by decide) (off := 1146) rfl (tgt := 1179) (by decide) ?_
        exact law_moves X hj h K
      by_cases c32 : x = 32
      · subst c32
        refine L_tabIn X dL_law_33 (by decide) (by decide) (off := 1179) rfl (tgt := 1212) (by decide) ?_
        exact law_sheet X hj h K
      by_cases c33 : x = 33
      · subst c33
        refine L_tabIn X dL_law_33 (by decide) (by decide) (off := 1222) rfl (tgt := 1255) (by decide) ?_
        exact law_write X hj h K
      by_cases c34 : x = 34
      · subst c34
        refine L_tabIn X dL_law_33 (by decide) (by decide) (off := 1265) rfl (tgt := 1298) (by decide) ?_
        exact law_item X hj h K
      by_cases c35 : x = 35
      · subst c35
        refine L_tabIn X dL_law_33 (by decide) (by decide) (off := 1299) rfl (tgt := 1332) (by decide) ?_
        exact law_copy X hj h K
      by_cases c36 : x = 36
      · subst c36
        refine L_tabIn X dL_law_33 (by decide) (by decide) (off := 1362) rfl (tgt := 1395) (by decide) ?_
        exact law_casts X hj h K
      by_cases c37 : x = 37
      · subst c37
        refine L_tabIn X dL_law_33 (by decide) (by decide) (off := 1395) rfl (tgt := 1428) (by decide) ?_
        exact law_table X hj h K
      by_cases c38 : x = 38
      · subst c38
        refine L_tabIn X dL_law_33 (by decide) (by decide) (off := 1448) rfl (tgt := 1481) (by decide) ?_
        exact law_rests X hj h K
      by_cases c39 : x = 39
      · subst c39
        refine L_tabIn X dL_law_33 (by decide) (by decide) (off := 1481) rfl (tgt := 1514) (by decide) ?_
        exact law_sum X hj h K
      by_cases c40 : x = 40
      · subst c40
        refine L_tabIn X dL_law_33 (by decide) (by decide) (off := 1505) rfl (tgt := 1538) (by decide) ?_
        exact law_image X hj h K
      by_cases c41 : x = 41
      · subst c41
        refine L_tabIn X dL_law_33 (by decide) (by decide) (off := 1518) rfl (tgt := 1551) (by decide) ?_
        exact law_back X hj h K
      by_cases c42 : x = 42
      · subst c42
        refine L_tabIn X dL_law_33 (by decide) (by decide) (off := 1531) rfl (tgt := 1564) (by decide) ?_
        exact law_count X hj h K
      by_cases c43 : x = 43
      · subst c43
        refine L_tabIn X dL_law_33 (by decide) (by decide) (off := 1554) rfl (tgt := 1587) (by decide) ?_
        exact law_status X hj h K
      refine L_tabOut X dL_law_33 (by have t0 := lv_neT (k := 0) (a := 0) c0 (by decide); have t1 := lv_neT (k := 1) (a := 1) c1 (by decide); have t2 := lv_neT (k := 2) (a := 2) c2 (by decide); have t3 := lv_neT (k := 3) (a := 3) c3 (by decide); have t4 := lv_neT (k := 4) (a := 4) c4 (by decide); have t5 := lv_neT (k := 5) (a := 5) c5 (by decide); have t6 := lv_neT (k := 6) (a := 6) c6 (by decide); have t7 := lv_neT (k := 7) (a := 7) c7 (by decide); have t8 := lv_neT (k := 8) (a := 8) c8 (by decide); have t9 := lv_neT (k := 9) (a := 9) c9 (by decide); have t10 := lv_neT (k := 10) (a := 10) c10 (by decide); have t11 := lv_neT (k := 11) (a := 11) c11 (by decide); have t12 := lv_neT (k := 12) (a := 12) c12 (by decide); have t13 := lv_neT (k := 13) (a := 13) c13 (by decide); have t14 := lv_neT (k := 14) (a := 14) c14 (by decide); have t15 := lv_neT (k := 15) (a := 15) c15 (by decide); have t16 := lv_neT (k := 16) (a := 16) c16 (by decide); have t17 := lv_neT (k := 17) (a := 17) c17 (by decide); have t18 := lv_neT (k := 18) (a := 18) c18 (by decide); have t19 := lv_neT (k := 19) (a := 19) c19 (by decide); have t20 := lv_neT (k := 20) (a := 20) c20 (by decide); have t21 := lv_neT (k := 21) (a := 21) c21 (by decide); have t22 := lv_neT (k := 22) (a := 22) c22 (by decide); have t23 := lv_neT (k := 23) (a := 23) c23 (by decide); have t24 := lv_neT (k := 24) (a := 24) c24 (by decide); have t25 := lv_neT (k := 25) (a := 25) c25 (by decide); have t26 := lv_neT (k := 26) (a := 26) c26 (by decide); have t27 := lv_neT (k := 27) (a := 27) c27 (by decide); have t28 := lv_neT (k := 28) (a := 28) c28 (by decide); have t29 := lv_neT (k := 29) (a := 29) c29 (by decide); have t30 := lv_neT (k := 30) (a := 30) c30 (by decide); have t31 := lv_neT (k := 31) (a := 31) c31 (by decide); have t32 := lv_neT (k := 32) (a := 32) c32 (by decide); have t33 := lv_neT (k := 33) (a := 33) c33 (by decide); have t34 := lv_neT (k := 34) (a := 34) c34 (by decide); have t35 := lv_neT (k := 35) (a := 35) c35 (by decide); have t36 := lv_neT (k := 36) (a := 36) c36 (by decide); have t37 := lv_neT (k := 37) (a := 37) c37 (by decide); have t38 := lv_neT (k := 38) (a := 38) c38 (by decide); have t39 := lv_neT (k := 39) (a := 39) c39 (by decide); have t40 := lv_neT (k := 40) (a := 40) c40 (by decide); have t41 := lv_neT (k := 41) (a := 41) c41 (by decide); have t42 := lv_neT (k := 42) (a := 42) c42 (by decide); have t43 := lv_neT (k := 43) (a := 43) c43 (by decide); omega) (tgt := 1610) (by decide) ?_
      exact K A B h
