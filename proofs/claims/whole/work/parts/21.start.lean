theorem st_tab0 {a : Array Value} {s : State} (h : (Jvm.Cond.and given_1 narrow_1).before a s = true) (hl : (Cond.laysStatic "PaperForms" "FACT_LOWEST" "[I").before a s = true) (hi : (Cond.initialized "PaperForms").before a s = true) {A : Nat → Prop} (hA : ∀ q : Nat, q < s.heap.size → ¬ A q) : ∃ t : Nat, va_Z "PaperForms" (tbNm 0) "[I" (.ref t) A s s.heap ∧ va_T .int t (tbN 0) (fun j => .int (tb 0 j)) A s s.heap := by
  have hs := flat_of_before _ h
  obtain ⟨t, h1, h2⟩ := va_Tof (tm := (.static "PaperForms" "FACT_LOWEST" "[I")) (ty := .int) (N := 7) (f := fun j => .int (tb 0 j)) (A := A) (by decide) (hs (.arrayOf (.static "PaperForms" "FACT_LOWEST" "[I") .int) (by decide +kernel)) (va_eqt (hs (.eq (.length (.static "PaperForms" "FACT_LOWEST" "[I")) (.int 7)) (by decide +kernel))) (fun j hj => by
    match j, hj with
    | 0, _ => exact va_eqt (hs (.eq (.elem (.static "PaperForms" "FACT_LOWEST" "[I") (.int 0)) (.int 0)) (by decide +kernel))
    | 1, _ => exact va_eqt (hs (.eq (.elem (.static "PaperForms" "FACT_LOWEST" "[I") (.int 1)) (.int 0)) (by decide +kernel))
    | 2, _ => exact va_eqt (hs (.eq (.elem (.static "PaperForms" "FACT_LOWEST" "[I") (.int 2)) (.int 1)) (by decide +kernel))
    | 3, _ => exact va_eqt (hs (.eq (.elem (.static "PaperForms" "FACT_LOWEST" "[I") (.int 3)) (.int 1)) (by decide +kernel))
    | 4, _ => exact va_eqt (hs (.eq (.elem (.static "PaperForms" "FACT_LOWEST" "[I") (.int 4)) (.int (-32))) (by decide +kernel))
    | 5, _ => exact va_eqt (hs (.eq (.elem (.static "PaperForms" "FACT_LOWEST" "[I") (.int 5)) (.int (-1))) (by decide +kernel))
    | 6, _ => exact va_eqt (hs (.eq (.elem (.static "PaperForms" "FACT_LOWEST" "[I") (.int 6)) (.int 0)) (by decide +kernel))) hA
  exact ⟨t, va_Zref hl hi h1 hA, h2⟩
theorem st_tab1 {a : Array Value} {s : State} (h : (Jvm.Cond.and given_1 narrow_1).before a s = true) (hl : (Cond.laysStatic "PaperForms" "FACT_HIGHEST" "[I").before a s = true) (hi : (Cond.initialized "PaperForms").before a s = true) {A : Nat → Prop} (hA : ∀ q : Nat, q < s.heap.size → ¬ A q) : ∃ t : Nat, va_Z "PaperForms" (tbNm 1) "[I" (.ref t) A s s.heap ∧ va_T .int t (tbN 1) (fun j => .int (tb 1 j)) A s s.heap := by
  have hs := flat_of_before _ h
  obtain ⟨t, h1, h2⟩ := va_Tof (tm := (.static "PaperForms" "FACT_HIGHEST" "[I")) (ty := .int) (N := 7) (f := fun j => .int (tb 1 j)) (A := A) (by decide) (hs (.arrayOf (.static "PaperForms" "FACT_HIGHEST" "[I") .int) (by decide +kernel)) (va_eqt (hs (.eq (.length (.static "PaperForms" "FACT_HIGHEST" "[I")) (.int 7)) (by decide +kernel))) (fun j hj => by
    match j, hj with
    | 0, _ => exact va_eqt (hs (.eq (.elem (.static "PaperForms" "FACT_HIGHEST" "[I") (.int 0)) (.int 5)) (by decide +kernel))
    | 1, _ => exact va_eqt (hs (.eq (.elem (.static "PaperForms" "FACT_HIGHEST" "[I") (.int 1)) (.int 3)) (by decide +kernel))
    | 2, _ => exact va_eqt (hs (.eq (.elem (.static "PaperForms" "FACT_HIGHEST" "[I") (.int 2)) (.int 20)) (by decide +kernel))
    | 3, _ => exact va_eqt (hs (.eq (.elem (.static "PaperForms" "FACT_HIGHEST" "[I") (.int 3)) (.int 12)) (by decide +kernel))
    | 4, _ => exact va_eqt (hs (.eq (.elem (.static "PaperForms" "FACT_HIGHEST" "[I") (.int 4)) (.int 32)) (by decide +kernel))
    | 5, _ => exact va_eqt (hs (.eq (.elem (.static "PaperForms" "FACT_HIGHEST" "[I") (.int 5)) (.int 3)) (by decide +kernel))
    | 6, _ => exact va_eqt (hs (.eq (.elem (.static "PaperForms" "FACT_HIGHEST" "[I") (.int 6)) (.int 999)) (by decide +kernel))) hA
  exact ⟨t, va_Zref hl hi h1 hA, h2⟩
theorem st_tab2 {a : Array Value} {s : State} (h : (Jvm.Cond.and given_1 narrow_1).before a s = true) (hl : (Cond.laysStatic "PaperForms" "KIND_OVER" "[I").before a s = true) (hi : (Cond.initialized "PaperForms").before a s = true) {A : Nat → Prop} (hA : ∀ q : Nat, q < s.heap.size → ¬ A q) : ∃ t : Nat, va_Z "PaperForms" (tbNm 2) "[I" (.ref t) A s s.heap ∧ va_T .int t (tbN 2) (fun j => .int (tb 2 j)) A s s.heap := by
  have hs := flat_of_before _ h
  obtain ⟨t, h1, h2⟩ := va_Tof (tm := (.static "PaperForms" "KIND_OVER" "[I")) (ty := .int) (N := 6) (f := fun j => .int (tb 2 j)) (A := A) (by decide) (hs (.arrayOf (.static "PaperForms" "KIND_OVER" "[I") .int) (by decide +kernel)) (va_eqt (hs (.eq (.length (.static "PaperForms" "KIND_OVER" "[I")) (.int 6)) (by decide +kernel))) (fun j hj => by
    match j, hj with
    | 0, _ => exact va_eqt (hs (.eq (.elem (.static "PaperForms" "KIND_OVER" "[I") (.int 0)) (.int (-1))) (by decide +kernel))
    | 1, _ => exact va_eqt (hs (.eq (.elem (.static "PaperForms" "KIND_OVER" "[I") (.int 1)) (.int 0)) (by decide +kernel))
    | 2, _ => exact va_eqt (hs (.eq (.elem (.static "PaperForms" "KIND_OVER" "[I") (.int 2)) (.int 0)) (by decide +kernel))
    | 3, _ => exact va_eqt (hs (.eq (.elem (.static "PaperForms" "KIND_OVER" "[I") (.int 3)) (.int 1)) (by decide +kernel))
    | 4, _ => exact va_eqt (hs (.eq (.elem (.static "PaperForms" "KIND_OVER" "[I") (.int 4)) (.int 2)) (by decide +kernel))
    | 5, _ => exact va_eqt (hs (.eq (.elem (.static "PaperForms" "KIND_OVER" "[I") (.int 5)) (.int 0)) (by decide +kernel))) hA
  exact ⟨t, va_Zref hl hi h1 hA, h2⟩
theorem st_tab3 {a : Array Value} {s : State} (h : (Jvm.Cond.and given_1 narrow_1).before a s = true) (hl : (Cond.laysStatic "PaperForms" "LIMIT_LOWEST" "[I").before a s = true) (hi : (Cond.initialized "PaperForms").before a s = true) {A : Nat → Prop} (hA : ∀ q : Nat, q < s.heap.size → ¬ A q) : ∃ t : Nat, va_Z "PaperForms" (tbNm 3) "[I" (.ref t) A s s.heap ∧ va_T .int t (tbN 3) (fun j => .int (tb 3 j)) A s s.heap := by
  have hs := flat_of_before _ h
  obtain ⟨t, h1, h2⟩ := va_Tof (tm := (.static "PaperForms" "LIMIT_LOWEST" "[I")) (ty := .int) (N := 3) (f := fun j => .int (tb 3 j)) (A := A) (by decide) (hs (.arrayOf (.static "PaperForms" "LIMIT_LOWEST" "[I") .int) (by decide +kernel)) (va_eqt (hs (.eq (.length (.static "PaperForms" "LIMIT_LOWEST" "[I")) (.int 3)) (by decide +kernel))) (fun j hj => by
    match j, hj with
    | 0, _ => exact va_eqt (hs (.eq (.elem (.static "PaperForms" "LIMIT_LOWEST" "[I") (.int 0)) (.int 1)) (by decide +kernel))
    | 1, _ => exact va_eqt (hs (.eq (.elem (.static "PaperForms" "LIMIT_LOWEST" "[I") (.int 1)) (.int 0)) (by decide +kernel))
    | 2, _ => exact va_eqt (hs (.eq (.elem (.static "PaperForms" "LIMIT_LOWEST" "[I") (.int 2)) (.int 0)) (by decide +kernel))) hA
  exact ⟨t, va_Zref hl hi h1 hA, h2⟩
theorem st_tab4 {a : Array Value} {s : State} (h : (Jvm.Cond.and given_1 narrow_1).before a s = true) (hl : (Cond.laysStatic "PaperForms" "LIMIT_HIGHEST" "[I").before a s = true) (hi : (Cond.initialized "PaperForms").before a s = true) {A : Nat → Prop} (hA : ∀ q : Nat, q < s.heap.size → ¬ A q) : ∃ t : Nat, va_Z "PaperForms" (tbNm 4) "[I" (.ref t) A s s.heap ∧ va_T .int t (tbN 4) (fun j => .int (tb 4 j)) A s s.heap := by
  have hs := flat_of_before _ h
  obtain ⟨t, h1, h2⟩ := va_Tof (tm := (.static "PaperForms" "LIMIT_HIGHEST" "[I")) (ty := .int) (N := 3) (f := fun j => .int (tb 4 j)) (A := A) (by decide) (hs (.arrayOf (.static "PaperForms" "LIMIT_HIGHEST" "[I") .int) (by decide +kernel)) (va_eqt (hs (.eq (.length (.static "PaperForms" "LIMIT_HIGHEST" "[I")) (.int 3)) (by decide +kernel))) (fun j hj => by
    match j, hj with
    | 0, _ => exact va_eqt (hs (.eq (.elem (.static "PaperForms" "LIMIT_HIGHEST" "[I") (.int 0)) (.int 6)) (by decide +kernel))
    | 1, _ => exact va_eqt (hs (.eq (.elem (.static "PaperForms" "LIMIT_HIGHEST" "[I") (.int 1)) (.int 240)) (by decide +kernel))
    | 2, _ => exact va_eqt (hs (.eq (.elem (.static "PaperForms" "LIMIT_HIGHEST" "[I") (.int 2)) (.int 999)) (by decide +kernel))) hA
  exact ⟨t, va_Zref hl hi h1 hA, h2⟩
theorem am_tb {w : Cond} (i : Nat) (h : tables_1[i]? = some w) : w ∈ lw_tbl := List.mem_append_right _ (List.mem_of_getElem? h)
theorem cyOf {a : Array Value} {s : State} {ty : FieldType} (h : (Cond.arrayClass ty).before a s = true) (ho : ∀ C, ty ≠ .object C) : ∃ c : ClassId, ArrOfT s c ty ∧ va_RA s c ty := by
  obtain ⟨c, k, comp, h1, h2, h3⟩ := Cond.arrayClass_spec h
  refine ⟨c, fun n z => ⟨fun k h => (by cases h), k, h2, comp, h3⟩, ?_⟩
  cases ty with
  | object C => exact absurd rfl (ho C)
  | _ => exact h1
theorem cyOfA {a : Array Value} {s : State} {t : FieldType} (h : (Cond.arrayOver (.array t)).before a s = true) : ∃ c : ClassId, ArrOfT s c (.array t) ∧ va_RA s c (.array t) := by
  obtain ⟨comp, c, k, -, h2, h3, h4⟩ := Cond.arrayOver_specA h
  exact ⟨c, fun n z => ⟨fun k h => (by cases h), k, h2, comp, h3⟩, h4⟩
theorem cyOfO {a : Array Value} {s : State} {n : String} (h : (Cond.arrayOver (.object n)).before a s = true) : ∃ c : ClassId, ArrOfT s c (.object n) ∧ va_RA s c (.object n) := by
  obtain ⟨comp, c, k, h1, -, h2, h3, h4⟩ := Cond.arrayOver_spec h
  exact ⟨c, fun n z => ⟨fun k h => (by cases h), k, h2, comp, h3⟩, k, comp, h2, h3, h1, h4⟩
theorem dis_of {ws1 ws2 : va_W} {A : Nat → Prop} (h : va_D A (ws1 ++ ws2)) {i j : Nat} {x y : Nat × va_E} (hx : ws1[i]? = some x) (hy : ws2[j]? = some y) : x.1 ≠ y.1 := fun e => by
  have hi := (List.getElem?_eq_some_iff.mp hx).1
  have := h.1 i (ws1.length + j) x y (by rw [List.getElem?_append_left hi]; exact hx) (by rw [List.getElem?_append_right (by omega)]; simpa using hy) e
  omega
theorem inj_of {N : Nat} {ad : Nat → Nat} {f : Nat → va_E} {A : Nat → Prop} (h : va_D A ((List.range N).map (fun i => (ad i, f i)))) : ∀ i j, i < N → j < N → ad i = ad j → i = j := fun i j hi hj e => h.1 i j _ _ (get_gen N ad f i hi _ rfl) (get_gen N ad f j hj _ rfl) e
set_option maxHeartbeats 8000000 in
set_option maxRecDepth 100000 in
theorem whole_start {p : Program} {e : Env} {s : State} {m : MethodId} {below : List Frame} {meth : Method} {c : Code} (l : Launch) (hflags : l.flags = flags0) {b L : Nat} {xs : Nat → Int32} (hL : L ≤ 3584) (C0 : lw_At p s m meth c b L xs) : W p l e room_1 s m #[Value.ref b] below meth c s.heap [] 0 0 (lw_Z below #[Value.ref b] s) (entryFrame m ([Value.ref b] : List Value).toArray 4) := by
  obtain ⟨hx, hb, hr, hml, hown, hts, hX, hbl, hlocks, hgv⟩ := C0
  have hall : ∀ w ∈ lw_all, w.before #[Value.ref b] s = true := fun w hw => hts w (lw_all_tbl hw)
  obtain ⟨c0, iS0, hKn0⟩ := u_known (C := RX0) (T := TX0) (N := 8) (n := 8) hall inX0 (hall _ qw28)
  obtain ⟨c1, iS1, hKn1⟩ := u_known (C := RX1) (T := TX1) (N := 10) (n := 10) hall inX1 (hall _ qw22)
  obtain ⟨c2, iS2, hKn2⟩ := u_known (C := RX3) (T := TX3) (N := 3) (n := 3) hall inX3 (hall _ qw137)
  obtain ⟨c3, iS3, hKn3⟩ := u_known (C := RX4) (T := TX4) (N := 3) (n := 3) hall inX4 (hall _ qw119)
  obtain ⟨c4, iS4, hKn4⟩ := u_known (C := RX5) (T := TX5) (N := 7) (n := 7) hall inX5 (hall _ qw14)
  obtain ⟨c5, iS5, hKn5⟩ := u_known (C := RX6) (T := TX6) (N := 20) (n := 20) hall inX6 (hall _ qw645)
  obtain ⟨y0, hy0⟩ := cyOf (hall _ qw75) (fun _ h => by cases h)
  obtain ⟨y1, hy1⟩ := cyOf (hall _ qw112) (fun _ h => by cases h)
  obtain ⟨y2, hy2⟩ := cyOf (hall _ qw715) (fun _ h => by cases h)
  have w3 := (hts (Cond.arrayOver (.array .int)) (am_tb 34 (by decide +kernel)))
  obtain ⟨y3, hy3⟩ := cyOfA w3
  have w4 := (hts (Cond.arrayOver (.array .double)) (am_tb 77 (by decide +kernel)))
  obtain ⟨y4, hy4⟩ := cyOfA w4
  have w5 := (hts (Cond.arrayOver (.array .float)) (am_tb 652 (by decide +kernel)))
  obtain ⟨y5, hy5⟩ := cyOfA w5
  have w6 := (hts (Cond.arrayOver (.object "PaperForms$Shelf")) (am_tb 116 (by decide +kernel)))
  obtain ⟨y6, hy6⟩ := cyOfO w6
  have w7 := (hts (Cond.arrayOver (.object "PaperForms$Sheet")) (am_tb 118 (by decide +kernel)))
  obtain ⟨y7, hy7⟩ := cyOfO w7
  obtain ⟨cy, hcy⟩ : ∃ cy : Nat → ClassId, cy = fun k => match k with | 0 => y0 | 1 => y1 | 2 => y2 | 3 => y3 | 4 => y4 | 5 => y5 | 6 => y6 | _ => y7 := ⟨_, rfl⟩
  obtain ⟨D, hKc⟩ : ∃ D : va_G, ∀ (k : Nat) (q : vw_C), vwCl[k]? = some q → u_Kn s q.1 q.2.1 q.2.2 (D.1 k) (D.2 k) := by
    refine ⟨(fun k => match k with | 0 => c0 | 1 => c1 | 2 => c2 | 3 => c3 | 4 => c4 | _ => c5, fun k => match k with | 0 => iS0 | 1 => iS1 | 2 => iS2 | 3 => iS3 | 4 => iS4 | _ => iS5), ?_⟩
    intro k q hq
    match k, hq with
    | 0, hq => cases hq; exact hKn0
    | 1, hq => cases hq; exact hKn1
    | 2, hq => cases hq; exact hKn2
    | 3, hq => cases hq; exact hKn3
    | 4, hq => cases hq; exact hKn4
    | 5, hq => cases hq; exact hKn5
    | k + 6, hq => simp [vwCl] at hq
  have hK : va_K D vwCl (tysOf cy) s := by
    refine ⟨hKc, fun k q h => ?_⟩
    subst hcy
    match k, h with
    | 0, h => cases h; exact hy0
    | 1, h => cases h; exact hy1
    | 2, h => cases h; exact hy2
    | 3, h => cases h; exact hy3
    | 4, h => cases h; exact hy4
    | 5, h => cases h; exact hy5
    | 6, h => cases h; exact hy6
    | 7, h => cases h; exact hy7
    | k + 8, h => simp [tysOf] at h
  have hXF : XF s := ⟨⟨va_Ao.of w3, va_Ao.of w4, va_Ao.of w5, va_Ao.of w6, va_Ao.of w7⟩, va_Nw.of rfl (hts (Cond.methodLinkNest "PaperForms" 15 ⟨"PaperForms$Maker", "<init>", "()V"⟩ "PaperForms") (am_tb 23 (by decide +kernel))), va_Nw.of rfl (hts (Cond.methodLinkNest "PaperForms$Maker" 11 ⟨"PaperForms$Bank", "<init>", "()V"⟩ "PaperForms") (am_tb 29 (by decide +kernel))), va_Nw.of rfl (hts (Cond.methodLinkNest "PaperForms" 27 ⟨"PaperForms$Bank", "<init>", "()V"⟩ "PaperForms") (am_tb 114 (by decide +kernel))), va_Nw.of rfl (hts (Cond.methodLinkNest "PaperForms" 43 ⟨"PaperForms$Shelf", "<init>", "()V"⟩ "PaperForms") (am_tb 120 (by decide +kernel))), va_Nw.of rfl (hts (Cond.methodLinkNest "PaperForms" 44 ⟨"PaperForms$Sheet", "<init>", "()V"⟩ "PaperForms") (am_tb 138 (by decide +kernel)))⟩
  have hno : ∀ q : Nat, q < s.heap.size → ¬ (fun q : Nat => s.heap.size ≤ q) q := fun q h => Nat.not_le.mpr h
  obtain ⟨t0, hz0, hv0⟩ := st_tab0 hgv (hts (Cond.laysStatic "PaperForms" "FACT_LOWEST" "[I") (am_tb 188 (by decide +kernel))) (hall _ qw1) hno
  obtain ⟨t1, hz1, hv1⟩ := st_tab1 hgv (hts (Cond.laysStatic "PaperForms" "FACT_HIGHEST" "[I") (am_tb 190 (by decide +kernel))) (hall _ qw1) hno
  obtain ⟨t2, hz2, hv2⟩ := st_tab2 hgv (hts (Cond.laysStatic "PaperForms" "KIND_OVER" "[I") (am_tb 224 (by decide +kernel))) (hall _ qw1) hno
  obtain ⟨t3, hz3, hv3⟩ := st_tab3 hgv (hts (Cond.laysStatic "PaperForms" "LIMIT_LOWEST" "[I") (am_tb 350 (by decide +kernel))) (hall _ qw1) hno
  obtain ⟨t4, hz4, hv4⟩ := st_tab4 hgv (hts (Cond.laysStatic "PaperForms" "LIMIT_HIGHEST" "[I") (am_tb 352 (by decide +kernel))) (hall _ qw1) hno
  have hnz : va_Z "java/lang/Math" "negativeZeroDoubleBits" "J" (.long (-9223372036854775808)) (fun q : Nat => s.heap.size ≤ q) s s.heap := va_Zof (hts (Cond.laysStatic "java/lang/Math" "negativeZeroDoubleBits" "J") (am_tb 991 (by decide +kernel))) (hall _ qw9) (va_eql (flat_of_before _ hgv (.eq (.static "java/lang/Math" "negativeZeroDoubleBits" "J") (.long (-9223372036854775808))) (by decide +kernel))) hno
  obtain ⟨tt, htt⟩ : ∃ tt : Nat → Nat, tt = fun k => match k with | 0 => t0 | 1 => t1 | 2 => t2 | 3 => t3 | _ => t4 := ⟨_, rfl⟩
  have hnest : va_Nw (.methodLinkNest RX4 26 yX5_isOfKind "PaperForms") s := va_Nw.of rfl (hts (Cond.methodLinkNest "PaperForms$Shelf" 26 ⟨"PaperForms", "isOfKind", "(II)Z"⟩ "PaperForms") (am_tb 535 (by decide +kernel)))
  have hFx : ∀ (ad : Nat → Nat) (A : Nat → Prop), (∀ q, A q → s.heap.size ≤ q) → Fx (ad, cy, D, A, tt) s s.heap := by
    intro ad A hA
    refine ⟨hK, fun t ht => ?_, hnz.narrow hA, hnest⟩
    subst htt
    match t, ht with
    | 0, _ => exact ⟨hz0.narrow hA, hv0.narrow hA⟩
    | 1, _ => exact ⟨hz1.narrow hA, hv1.narrow hA⟩
    | 2, _ => exact ⟨hz2.narrow hA, hv2.narrow hA⟩
    | 3, _ => exact ⟨hz3.narrow hA, hv3.narrow hA⟩
    | 4, _ => exact ⟨hz4.narrow hA, hv4.narrow hA⟩
  have hl := lv_entry ([.ref b]) (n := 4) (Nat.le_of_ble_eq_true rfl)
  rw [lg_entry_eq]
  generalize (lg_sl ([.ref b]) ++ List.replicate (4 - (lg_sl ([.ref b])).length) Slot.unset).toArray = ls at hl ⊢
  have hl : lv_has ls 4 [(0, .ref b)] := hl
  have X : HX (p, l, e, room_1, s, m, #[Value.ref b], below, meth, c, lw_Z below #[Value.ref b] s, 4, ((fun _ => 0, cy, D, (fun q : Nat => s.heap.size ≤ q), tt) : pfF)) code R_law room_1 4 := ⟨hx, hb, hml, rfl, hown, hall, rfl, ⟨hK, hXF⟩, fun _ h => h, Or.inr rfl⟩
  generalize hE : ((p, l, e, room_1, s, m, #[Value.ref b], below, meth, c, lw_Z below #[Value.ref b] s, 4, ((fun _ => 0, cy, D, (fun q : Nat => s.heap.size ≤ q), tt) : pfF)) : pfE) = E at X
  have main : HH E [] 0 0 0 [(0, .ref b)] [] := by
    refine H_new X (ci := 4) (fs := [.null, .null, .null, .null, .int 0, .null, .null]) inX5 tyX5 tyX5_ok qw13 qw14 qw1 rfl (fun j hj => by match j, hj with | 0, _ => rfl | 1, _ => rfl | 2, _ => rfl | 3, _ => rfl | 4, _ => rfl | 5, _ => rfl | 6, _ => rfl) (Nat.le_of_ble_eq_true rfl) (Nat.le_of_ble_eq_true rfl) dL_law_0 (fun h5 => ?_)
    show HH E [(h5, .inr (4, [.null, .null, .null, .null, .int 0, .null, .null]))] 1 7 3 [(0, .ref b)] [.ref h5]
    refine H_dup X dL_law_3 rfl ?_
    refine H_call X ok_X5_init qw15 rfl rfl ⟨Nat.le_of_ble_eq_true rfl, Nat.le_of_ble_eq_true rfl⟩ (fun sz => n_X5_init) (wr := []) [0] [] rfl rfl (by decide) (by decide) (by decide) rfl (Nat.le_of_ble_eq_true rfl) (Nat.le_of_ble_eq_true rfl) (Nat.le_of_ble_eq_true rfl) dL_law_4 (fun u hu => ?_)
    obtain ⟨aC, rfl, h5e⟩ := hu
    show HH E (cellsC aC (fCy (eF E)) stC0) 64 2435 7 [(0, .ref b)] [.ref h5]
    refine H_astore X (lv2 := [(1, .ref h5), (0, .ref b)]) dL_law_7 rfl (by decide) rfl ?_
    refine H_new X (ci := 5) (fs := [.null, .null, .int 0, .null, .null, .null, .int 0, .int 0, .double 0, .null, .null, .null, .null, .null, .null, .null, .null, .null, .null, .null]) inX6 tyX6 tyX6_ok qw644 qw645 qw6 rfl (fun j hj => by match j, hj with | 0, _ => rfl | 1, _ => rfl | 2, _ => rfl | 3, _ => rfl | 4, _ => rfl | 5, _ => rfl | 6, _ => rfl | 7, _ => rfl | 8, _ => rfl | 9, _ => rfl | 10, _ => rfl | 11, _ => rfl | 12, _ => rfl | 13, _ => rfl | 14, _ => rfl | 15, _ => rfl | 16, _ => rfl | 17, _ => rfl | 18, _ => rfl | 19, _ => rfl | j + 20, hj => exact absurd hj (by omega)) (Nat.le_of_ble_eq_true rfl) (Nat.le_of_ble_eq_true rfl) dL_law_8 (fun h6 => ?_)
    show HH E (cellsC aC (fCy (eF E)) stC0 ++ [(h6, .inr (5, [.null, .null, .int 0, .null, .null, .null, .int 0, .int 0, .double 0, .null, .null, .null, .null, .null, .null, .null, .null, .null, .null, .null]))]) 65 2455 11 [(1, .ref h5), (0, .ref b)] [.ref h6]
    refine H_dup X dL_law_11 rfl ?_
    refine H_call X ok_X6_init qw646 rfl rfl ⟨Nat.le_of_ble_eq_true rfl, Nat.le_of_ble_eq_true rfl⟩ (fun sz => n_X6_init) (wr := cellsC aC (fCy (eF E)) stC0) [64] (List.range 64) rfl rfl (by decide) (by decide +kernel) (by decide +kernel) rfl (Nat.le_of_ble_eq_true rfl) (Nat.le_of_ble_eq_true rfl) (Nat.le_of_ble_eq_true rfl) dL_law_12 (fun u hu => ?_)
    obtain ⟨aR, rfl, h6e⟩ := hu
    show HH E (cellsC aC (fCy (eF E)) stC0 ++ cellsR aR (fCy (eF E)) stR0) 101 11569 15 [(1, .ref h5), (0, .ref b)] [.ref h6]
    refine H_astore X (lv2 := [(2, .ref h6), (1, .ref h5), (0, .ref b)]) dL_law_15 rfl (by decide) rfl ?_
    refine H_iconst X (v := 0) dL_law_16 rfl ?_
    refine H_istore X (lv2 := [(3, .int 0), (2, .ref h6), (1, .ref h5), (0, .ref b)]) dL_law_17 rfl (by decide) rfl ?_
    subst h5e
    subst h6e
    subst hE
    intro H locs ls hP hD hS hl
    refine W.widen (k := 600000) (n := 7302250) (Nat.le_of_ble_eq_true rfl) (Nat.le_of_ble_eq_true rfl) ?_
    have hlen : (cellsC aC cy stC0).length = 64 := by simp [cellsC]
    have hPC : va_P D vwCl (cellsC aC cy stC0) H := fun k q hq => hP k q (by rw [List.getElem?_append_left (List.getElem?_eq_some_iff.mp hq).1]; exact hq)
    have hPR : va_P D vwCl (cellsR aR cy stR0) H := fun k q hq => hP (64 + k) q (by rw [List.getElem?_append_right (by show (cellsC aC cy stC0).length ≤ _; omega)]; show (cellsR aR cy stR0)[64 + k - (cellsC aC cy stC0).length]? = _; rw [hlen, Nat.add_sub_cancel_left]; exact hq)
    have hDC : va_D (fun q : Nat => s.heap.size ≤ q) (cellsC aC cy stC0) := ⟨fun i j p q hp hq e => hD.1 i j p q (by rw [List.getElem?_append_left (List.getElem?_eq_some_iff.mp hp).1]; exact hp) (by rw [List.getElem?_append_left (List.getElem?_eq_some_iff.mp hq).1]; exact hq) e, fun k q hq => hD.2 k q (by rw [List.getElem?_append_left (List.getElem?_eq_some_iff.mp hq).1]; exact hq)⟩
    have atR : ∀ (k : Nat) (q : Nat × va_E), (cellsR aR cy stR0)[k]? = some q → (cellsC aC cy stC0 ++ cellsR aR cy stR0)[64 + k]? = some q := fun k q hq => by rw [List.getElem?_append_right (by omega), hlen, Nat.add_sub_cancel_left]; exact hq
    have hDR : va_D (fun q : Nat => s.heap.size ≤ q) (cellsR aR cy stR0) := ⟨fun i j p q hp hq e => by have := hD.1 (64 + i) (64 + j) p q (atR i p hp) (atR j q hq) e; omega, fun k q hq => hD.2 (64 + k) q (atR k q hq)⟩
    have injC := inj_of (N := 64) (ad := aC) (f := ceC aC cy stC0) hDC
    have injR := inj_of (N := 37) (ad := aR) (f := ceR aR cy stR0) hDR
    have geC : ∀ q, (∃ k, k < 64 ∧ q = aC k) → s.heap.size ≤ q := fun q hq => by obtain ⟨k, hk, rfl⟩ := hq; exact hDC.2 k _ (get_gen 64 aC (ceC aC cy stC0) k hk _ rfl)
    have geR : ∀ q, (∃ k, k < 37 ∧ q = aR k) → s.heap.size ≤ q := fun q hq => by obtain ⟨k, hk, rfl⟩ := hq; exact hDR.2 k _ (get_gen 37 aR (ceR aR cy stR0) k hk _ rfl)
    have dis : ∀ q, (∃ k, k < 64 ∧ q = aC k) → ¬ (∃ k, k < 37 ∧ q = aR k) := fun q h1 h2 => by
      obtain ⟨i, hi, rfl⟩ := h1
      obtain ⟨j, hj, e⟩ := h2
      exact dis_of hD (get_gen 64 aC (ceC aC cy stC0) i hi _ rfl) (get_gen 37 aR (ceR aR cy stR0) j hj _ rfl) e
    have XL : LX (p, l, e, s, m, below, meth, c, b, L, xs, ((aC, cy, D, (fun q => ∃ k, k < 64 ∧ q = aC k), tt) : pfF), ((aR, cy, D, (fun q => ∃ k, k < 37 ∧ q = aR k), tt) : pfF)) := ⟨hx, hb, hr, hml, hown, hall, hX, hbl, hlocks, hL, hFx aC _ geC, hFx aR _ geR, fun A => apart_gen 64 aC _ injC, fun A => apart_gen 37 aR _ injR, geC, geR, dis⟩
    exact law_loop XL 513 0 stC0 stR0 (by omega) (by show L < _; omega) rel0 H locs ls hPC hPR hS (lv_sub hl [3, 2, 1, 0] rfl)
  subst hE
  exact main s.heap [] ls (fun k q h => by simp at h) ⟨fun i j p q h => by simp at h, fun k q h => by simp at h⟩ va_S.rf hl
