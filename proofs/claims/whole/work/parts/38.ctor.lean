section NEWA
variable {p : Program} {l : Launch} {e : Env} {R : Room} {s : State} {m : MethodId} {args : Array Value} {below : List Frame} {meth : Method} {c : Code} {H : Heap} {locs : List Loc} {cells slots : Nat} {Q : State → Prop}
variable {cc : ByteArray} {pc : Nat} {ls : Array Slot} {rest : List Value} {A : Nat → Prop} {g : GT} {ws : va_W} {n : Int32} {N : Nat}
theorem nw_0 (hx : p.tables.exec = Jvm.exec) (hb : c.code = cc) (hT : ∀ w ∈ TB, w.before args s = true) (hK : va_K (gD g) vwCl (tyl g) s) (hP : va_P (gD g) vwCl ws H) (hD : va_D A ws) (hS : va_S A s.heap H locs) (hA : ∀ q : Nat, s.heap.size ≤ q → A q) (hn : n = nI N) (hN : N < 134217728) (hc : cells + 1 ≤ R.cells) (hs : slots + N ≤ R.slots) (hdg : decode cc pc = .ok (.newarray .byte, 2))
    (kk : ∀ (q : Nat) (H : Heap), va_P (gD g) vwCl (ws ++ [(q, .inl (g.2.2.1 0, N, .inl (fun _ => 0)))]) H → va_D A (ws ++ [(q, .inl (g.2.2.1 0, N, .inl (fun _ => 0)))]) → va_S A s.heap H locs → W p l e R s m args below meth c H locs (cells + 1) (slots + N) Q (F0 m (pc + 2) ls (.ref q :: rest))) : W p l e R s m args below meth c H locs cells slots Q (F0 m pc ls (.int n :: rest)) := by
  subst hn
  refine va_newa (atype := .byte) (N' := N) (a0 := (N, .inl (fun _ => 0))) (ty := .byte) hx hb (hT _ mw3_18) rfl hK hP hD hS hA (fun _ => rfl) (nI_pos (by omega)) (nI_clamp (by omega)) (by simp [componentBytes]; omega) hc hs hdg (fun q cA H hK2 hP hD hS => ?_)
  have hcA : g.2.2.1 0 = cA := by
    have h1 := (hK2.2 0 (g.2.2.1 0, .byte) rfl).2
    have h2 := (hK2.2 5 (cA, .byte) rfl).2
    exact Option.some.inj (h1.symm.trans h2)
  subst hcA
  exact kk q H hP hD hS
theorem nw_1 (hx : p.tables.exec = Jvm.exec) (hb : c.code = cc) (hT : ∀ w ∈ TB, w.before args s = true) (hK : va_K (gD g) vwCl (tyl g) s) (hP : va_P (gD g) vwCl ws H) (hD : va_D A ws) (hS : va_S A s.heap H locs) (hA : ∀ q : Nat, s.heap.size ≤ q → A q) (hn : n = nI N) (hN : N < 134217728) (hc : cells + 1 ≤ R.cells) (hs : slots + N ≤ R.slots) (hdg : decode cc pc = .ok (.newarray .char, 2))
    (kk : ∀ (q : Nat) (H : Heap), va_P (gD g) vwCl (ws ++ [(q, .inl (g.2.2.1 1, N, .inl (fun _ => 0)))]) H → va_D A (ws ++ [(q, .inl (g.2.2.1 1, N, .inl (fun _ => 0)))]) → va_S A s.heap H locs → W p l e R s m args below meth c H locs (cells + 1) (slots + N) Q (F0 m (pc + 2) ls (.ref q :: rest))) : W p l e R s m args below meth c H locs cells slots Q (F0 m pc ls (.int n :: rest)) := by
  subst hn
  refine va_newa (atype := .char) (N' := N) (a0 := (N, .inl (fun _ => 0))) (ty := .char) hx hb (hT _ mw6_14) rfl hK hP hD hS hA (fun _ => rfl) (nI_pos (by omega)) (nI_clamp (by omega)) (by simp [componentBytes]; omega) hc hs hdg (fun q cA H hK2 hP hD hS => ?_)
  have hcA : g.2.2.1 1 = cA := by
    have h1 := (hK2.2 1 (g.2.2.1 1, .char) rfl).2
    have h2 := (hK2.2 5 (cA, .char) rfl).2
    exact Option.some.inj (h1.symm.trans h2)
  subst hcA
  exact kk q H hP hD hS
theorem nw_2 (hx : p.tables.exec = Jvm.exec) (hb : c.code = cc) (hT : ∀ w ∈ TB, w.before args s = true) (hK : va_K (gD g) vwCl (tyl g) s) (hP : va_P (gD g) vwCl ws H) (hD : va_D A ws) (hS : va_S A s.heap H locs) (hA : ∀ q : Nat, s.heap.size ≤ q → A q) (hn : n = nI N) (hN : N < 134217728) (hc : cells + 1 ≤ R.cells) (hs : slots + N ≤ R.slots) (hdg : decode cc pc = .ok (.newarray .int, 2))
    (kk : ∀ (q : Nat) (H : Heap), va_P (gD g) vwCl (ws ++ [(q, .inl (g.2.2.1 2, N, .inl (fun _ => 0)))]) H → va_D A (ws ++ [(q, .inl (g.2.2.1 2, N, .inl (fun _ => 0)))]) → va_S A s.heap H locs → W p l e R s m args below meth c H locs (cells + 1) (slots + N) Q (F0 m (pc + 2) ls (.ref q :: rest))) : W p l e R s m args below meth c H locs cells slots Q (F0 m pc ls (.int n :: rest)) := by
  subst hn
  refine va_newa (atype := .int) (N' := N) (a0 := (N, .inl (fun _ => 0))) (ty := .int) hx hb (hT _ mw3_13) rfl hK hP hD hS hA (fun _ => rfl) (nI_pos (by omega)) (nI_clamp (by omega)) (by simp [componentBytes]; omega) hc hs hdg (fun q cA H hK2 hP hD hS => ?_)
  have hcA : g.2.2.1 2 = cA := by
    have h1 := (hK2.2 2 (g.2.2.1 2, .int) rfl).2
    have h2 := (hK2.2 5 (cA, .int) rfl).2
    exact Option.some.inj (h1.symm.trans h2)
  subst hcA
  exact kk q H hP hD hS
theorem nw_3 (hx : p.tables.exec = Jvm.exec) (hb : c.code = cc) (hT : ∀ w ∈ TB, w.before args s = true) (hK : va_K (gD g) vwCl (tyl g) s) (hP : va_P (gD g) vwCl ws H) (hD : va_D A ws) (hS : va_S A s.heap H locs) (hA : ∀ q : Nat, s.heap.size ≤ q → A q) (hn : n = nI N) (hN : N < 134217728) (hc : cells + 1 ≤ R.cells) (hs : slots + N ≤ R.slots) (hdg : decode cc pc = .ok (.newarray .boolean, 2))
    (kk : ∀ (q : Nat) (H : Heap), va_P (gD g) vwCl (ws ++ [(q, .inl (g.2.2.1 3, N, .inl (fun _ => 0)))]) H → va_D A (ws ++ [(q, .inl (g.2.2.1 3, N, .inl (fun _ => 0)))]) → va_S A s.heap H locs → W p l e R s m args below meth c H locs (cells + 1) (slots + N) Q (F0 m (pc + 2) ls (.ref q :: rest))) : W p l e R s m args below meth c H locs cells slots Q (F0 m pc ls (.int n :: rest)) := by
  subst hn
  refine va_newa (atype := .boolean) (N' := N) (a0 := (N, .inl (fun _ => 0))) (ty := .boolean) hx hb (hT _ mw4_18) rfl hK hP hD hS hA (fun _ => rfl) (nI_pos (by omega)) (nI_clamp (by omega)) (by simp [componentBytes]; omega) hc hs hdg (fun q cA H hK2 hP hD hS => ?_)
  have hcA : g.2.2.1 3 = cA := by
    have h1 := (hK2.2 3 (g.2.2.1 3, .boolean) rfl).2
    have h2 := (hK2.2 5 (cA, .boolean) rfl).2
    exact Option.some.inj (h1.symm.trans h2)
  subst hcA
  exact kk q H hP hD hS
end NEWA
set_option maxHeartbeats 8000000 in
set_option maxRecDepth 100000 in
theorem kX3_init (l : Launch) (g : GT) (sz : Nat) (a N : Nat) (hN : N ≤ 1024) : Met l yX3_init (wx yX3_init cX3_init 2 none) ({ frames := 1, cells := 1, slots := (N * 128), locals := 12 } : Room) (va_Pc [.ref a, .int (nI N)] (fun U => U.heap.size = sz ∧ va_P (gD g) vwCl [(a, .inr (2, [.int 0, .null]))] U.heap ∧ va_K (gD g) vwCl (tyl g) U ∧ va_D (fun _ => True) [(a, .inr (2, [.int 0, .null]))])) (va_Qv (fun (_ : Unit) => True) (fun _ t => ∃ q1 : Nat, va_P (gD g) vwCl [(a, .inr (2, [.int (nI N), .ref q1])), (q1, .inl (g.2.2.1 2, (N * 128), .inl (fun _ => 0)))] t.heap ∧ va_D (va_A [(a, .inr (2, [.int 0, .null]))] sz) [(a, .inr (2, [.int (nI N), .ref q1])), (q1, .inl (g.2.2.1 2, (N * 128), .inl (fun _ => 0)))]) (va_A [(a, .inr (2, [.int 0, .null]))] sz)) (1) ((N * 128)) (va_A [(a, .inr (2, [.int 0, .null]))] sz) := by
  refine Met.ofW (cc := cX3_init) (maxL := 2) (ret := none) (by decide) rfl ?_
  intro p e s m args below meth c s₁ B hml hv
  obtain ⟨rfl, hsz, hP, hK, hD0⟩ := hv
  have hx := B.exec
  have hb := B.bytes
  have hr := B.returns
  have hts := atoms_spec (ws := (wx yX3_init cX3_init 2 none)) B.pre
  have hT : ∀ w ∈ TB, w.before _ s = true := fun w h => hts w (List.mem_cons_of_mem _ h)
  have hown : s.vm.findClass RX3 = some m.cls := findClass_of_methodNamed B.named
  have hlocks := B.notSynchronized
  have hinit : meth.name = "<init>" := (name_of_methodNamed B.named B.method).1
  subst hsz
  have hD := hD0.self (sz := s.heap.size)
  generalize hAe : va_A [(a, .inr (2, [.int 0, .null]))] s.heap.size = A at hD ⊢
  have hA : ∀ q : Nat, s.heap.size ≤ q → A q := fun q h => by rw [← hAe]; exact Or.inr h
  have hS : va_S A s.heap s.heap [] := va_S.rf
  have hl := lv_entry ([.ref a, .int (nI N)]) (n := 2) (Nat.le_of_ble_eq_true rfl)
  rw [lg_entry_eq]
  generalize (lg_sl ([.ref a, .int (nI N)]) ++ List.replicate (2 - (lg_sl ([.ref a, .int (nI N)])).length) Slot.unset).toArray = ls at hl ⊢
  have hl : lv_has ls 2 [(0, .ref a), (1, .int (nI N))] := hl
  refine lv_aload_n hx hb dX3_init_0 rfl (lv_at hl 0 rfl) ?_
  refine W.objInit hx hb hown (hT _ mw3_11) (hT _ mw1_15) (hT _ mw1_16) rfl (by rw [hml]; exact hl.1) rfl dX3_init_1 (Nat.le_of_ble_eq_true rfl) (Nat.le_of_ble_eq_true rfl) ?_
  refine W.eq (g2 := F0 m 4 ls []) rfl ?_
  refine lv_aload_n hx hb dX3_init_4 rfl (lv_at hl 0 rfl) ?_
  refine lv_iload_n hx hb dX3_init_5 rfl (lv_at hl 1 rfl) ?_
  refine va_putF (ci := 2) (v := .int (nI N)) (ty := .int) (C := RX3) (T := TX3) (N := 2) hx hb hT inTX30 tyX3 tyX3_ok nmX3 hown hK hP hD hS 0 rfl rfl 0 (by decide) (hT _ mw3_12) (fun _ h => h) rfl hinit rfl (by decide +kernel) rfl rfl (Nat.le_of_ble_eq_true rfl) dX3_init_6 (fun H locs hP hD hS => ?_)
  have hP : va_P (gD g) vwCl [(a, .inr (2, [.int (nI N), .null]))] H := hP
  have hD : va_D A [(a, .inr (2, [.int (nI N), .null]))] := hD
  refine lv_aload_n hx hb dX3_init_9 rfl (lv_at hl 0 rfl) ?_
  refine lv_iload_n hx hb dX3_init_10 rfl (lv_at hl 1 rfl) ?_
  refine lv_sipush (v := (128 : Int32)) hx hb dX3_init_11 (by decide) ?_
  refine lv_imul hx hb dX3_init_14 ?_
  refine nw_2 (N := (N * 128)) hx hb hT hK hP hD hS hA (pk_mul N 128) (by omega) (by show _ ≤ 1; omega) (by show _ ≤ ((N * 128)); omega) dX3_init_15 (fun q1 H hP hD hS => ?_)
  have hP : va_P (gD g) vwCl [(a, .inr (2, [.int (nI N), .null])), (q1, .inl (g.2.2.1 2, (N * 128), .inl (fun _ => 0)))] H := hP
  have hD : va_D A [(a, .inr (2, [.int (nI N), .null])), (q1, .inl (g.2.2.1 2, (N * 128), .inl (fun _ => 0)))] := hD
  refine va_putF (ci := 2) (v := .ref q1) (ty := .array .int) (C := RX3) (T := TX3) (N := 2) hx hb hT inTX30 tyX3 tyX3_ok nmX3 hown hK hP hD hS 0 rfl rfl 1 (by decide) (hT _ mw3_14) (fun _ h => h) rfl hinit rfl (by decide +kernel) rfl rfl (Nat.le_of_ble_eq_true rfl) dX3_init_17 (fun H locs hP hD hS => ?_)
  have hP : va_P (gD g) vwCl [(a, .inr (2, [.int (nI N), .ref q1])), (q1, .inl (g.2.2.1 2, (N * 128), .inl (fun _ => 0)))] H := hP
  have hD : va_D A [(a, .inr (2, [.int (nI N), .ref q1])), (q1, .inl (g.2.2.1 2, (N * 128), .inl (fun _ => 0)))] := hD
  refine W.widen (k := 1) (n := ((N * 128))) (by omega) (by omega) ?_
  exact W.vret hx hb hr (fun t ht _ => ⟨⟨(), rfl, trivial, q1, by rw [ht]; exact hP, hD⟩, hS.F ht⟩) hS.2.2 dX3_init_20
set_option maxHeartbeats 8000000 in
set_option maxRecDepth 100000 in
theorem kX8_init (l : Launch) (g : GT) (sz : Nat) (a : Nat) : Met l yX8_init (wx yX8_init cX8_init 1 none) ({ frames := 1, cells := 2, slots := 4096 + 5, locals := 12 } : Room) (va_Pc [.ref a] (fun U => U.heap.size = sz ∧ va_P (gD g) vwCl [(a, .inr (6, [.null, .null, .int 0]))] U.heap ∧ va_K (gD g) vwCl (tyl g) U ∧ va_D (fun _ => True) [(a, .inr (6, [.null, .null, .int 0]))])) (va_Qv (fun (_ : Unit) => True) (fun _ t => ∃ q1 q2 : Nat, va_P (gD g) vwCl [(a, .inr (6, [.ref q1, .ref q2, .int 0])), (q1, .inl (g.2.2.1 0, 4096, .inl (fun _ => 0))), (q2, .inl (g.2.2.1 2, 5, .inl (fun _ => 0)))] t.heap ∧ va_D (va_A [(a, .inr (6, [.null, .null, .int 0]))] sz) [(a, .inr (6, [.ref q1, .ref q2, .int 0])), (q1, .inl (g.2.2.1 0, 4096, .inl (fun _ => 0))), (q2, .inl (g.2.2.1 2, 5, .inl (fun _ => 0)))]) (va_A [(a, .inr (6, [.null, .null, .int 0]))] sz)) (2) (4096 + 5) (va_A [(a, .inr (6, [.null, .null, .int 0]))] sz) := by
  refine Met.ofW (cc := cX8_init) (maxL := 1) (ret := none) (by decide) rfl ?_
  intro p e s m args below meth c s₁ B hml hv
  obtain ⟨rfl, hsz, hP, hK, hD0⟩ := hv
  have hx := B.exec
  have hb := B.bytes
  have hr := B.returns
  have hts := atoms_spec (ws := (wx yX8_init cX8_init 1 none)) B.pre
  have hT : ∀ w ∈ TB, w.before _ s = true := fun w h => hts w (List.mem_cons_of_mem _ h)
  have hown : s.vm.findClass RX8 = some m.cls := findClass_of_methodNamed B.named
  have hlocks := B.notSynchronized
  have hinit : meth.name = "<init>" := (name_of_methodNamed B.named B.method).1
  subst hsz
  have hD := hD0.self (sz := s.heap.size)
  generalize hAe : va_A [(a, .inr (6, [.null, .null, .int 0]))] s.heap.size = A at hD ⊢
  have hA : ∀ q : Nat, s.heap.size ≤ q → A q := fun q h => by rw [← hAe]; exact Or.inr h
  have hS : va_S A s.heap s.heap [] := va_S.rf
  have hl := lv_entry ([.ref a]) (n := 1) (Nat.le_of_ble_eq_true rfl)
  rw [lg_entry_eq]
  generalize (lg_sl ([.ref a]) ++ List.replicate (1 - (lg_sl ([.ref a])).length) Slot.unset).toArray = ls at hl ⊢
  have hl : lv_has ls 1 [(0, .ref a)] := hl
  refine lv_aload_n hx hb dX8_init_0 rfl (lv_at hl 0 rfl) ?_
  refine W.objInit hx hb hown (hT _ mw3_17) (hT _ mw1_15) (hT _ mw1_16) rfl (by rw [hml]; exact hl.1) rfl dX8_init_1 (Nat.le_of_ble_eq_true rfl) (Nat.le_of_ble_eq_true rfl) ?_
  refine W.eq (g2 := F0 m 4 ls []) rfl ?_
  refine lv_aload_n hx hb dX8_init_4 rfl (lv_at hl 0 rfl) ?_
  refine lv_sipush (v := (4096 : Int32)) hx hb dX8_init_5 (by decide) ?_
  refine nw_0 (N := 4096) hx hb hT hK hP hD hS hA rfl (by omega) (by show _ ≤ 2; omega) (by show _ ≤ (4096 + 5); omega) dX8_init_8 (fun q1 H hP hD hS => ?_)
  have hP : va_P (gD g) vwCl [(a, .inr (6, [.null, .null, .int 0])), (q1, .inl (g.2.2.1 0, 4096, .inl (fun _ => 0)))] H := hP
  have hD : va_D A [(a, .inr (6, [.null, .null, .int 0])), (q1, .inl (g.2.2.1 0, 4096, .inl (fun _ => 0)))] := hD
  refine va_putF (ci := 6) (v := .ref q1) (ty := .array .byte) (C := RX8) (T := TX8) (N := 3) hx hb hT inTX80 tyX8 tyX8_ok nmX8 hown hK hP hD hS 0 rfl rfl 0 (by decide) (hT _ mw3_19) (fun _ h => h) rfl hinit rfl (by decide +kernel) rfl rfl (Nat.le_of_ble_eq_true rfl) dX8_init_10 (fun H locs hP hD hS => ?_)
  have hP : va_P (gD g) vwCl [(a, .inr (6, [.ref q1, .null, .int 0])), (q1, .inl (g.2.2.1 0, 4096, .inl (fun _ => 0)))] H := hP
  have hD : va_D A [(a, .inr (6, [.ref q1, .null, .int 0])), (q1, .inl (g.2.2.1 0, 4096, .inl (fun _ => 0)))] := hD
  refine lv_aload_n hx hb dX8_init_13 rfl (lv_at hl 0 rfl) ?_
  refine lv_iconst (v := (5 : Int32)) hx hb dX8_init_14 (by decide) ?_
  refine nw_2 (N := 5) hx hb hT hK hP hD hS hA rfl (by omega) (by show _ ≤ 2; omega) (by show _ ≤ (4096 + 5); omega) dX8_init_15 (fun q2 H hP hD hS => ?_)
  have hP : va_P (gD g) vwCl [(a, .inr (6, [.ref q1, .null, .int 0])), (q1, .inl (g.2.2.1 0, 4096, .inl (fun _ => 0))), (q2, .inl (g.2.2.1 2, 5, .inl (fun _ => 0)))] H := hP
  have hD : va_D A [(a, .inr (6, [.ref q1, .null, .int 0])), (q1, .inl (g.2.2.1 0, 4096, .inl (fun _ => 0))), (q2, .inl (g.2.2.1 2, 5, .inl (fun _ => 0)))] := hD
  refine va_putF (ci := 6) (v := .ref q2) (ty := .array .int) (C := RX8) (T := TX8) (N := 3) hx hb hT inTX80 tyX8 tyX8_ok nmX8 hown hK hP hD hS 0 rfl rfl 1 (by decide) (hT _ mw3_20) (fun _ h => h) rfl hinit rfl (by decide +kernel) rfl rfl (Nat.le_of_ble_eq_true rfl) dX8_init_17 (fun H locs hP hD hS => ?_)
  have hP : va_P (gD g) vwCl [(a, .inr (6, [.ref q1, .ref q2, .int 0])), (q1, .inl (g.2.2.1 0, 4096, .inl (fun _ => 0))), (q2, .inl (g.2.2.1 2, 5, .inl (fun _ => 0)))] H := hP
  have hD : va_D A [(a, .inr (6, [.ref q1, .ref q2, .int 0])), (q1, .inl (g.2.2.1 0, 4096, .inl (fun _ => 0))), (q2, .inl (g.2.2.1 2, 5, .inl (fun _ => 0)))] := hD
  refine W.widen (k := 2) (n := (4096 + 5)) (by omega) (by omega) ?_
  exact W.vret hx hb hr (fun t ht _ => ⟨⟨(), rfl, trivial, q1, q2, by rw [ht]; exact hP, hD⟩, hS.F ht⟩) hS.2.2 dX8_init_20
set_option maxHeartbeats 8000000 in
set_option maxRecDepth 100000 in
theorem kX6_init (l : Launch) (g : GT) (sz : Nat) (a : Nat) : Met l yX6_init (wx yX6_init cX6_init 1 none) ({ frames := 1, cells := 1, slots := 260, locals := 12 } : Room) (va_Pc [.ref a] (fun U => U.heap.size = sz ∧ va_P (gD g) vwCl [(a, .inr (4, [.null, .int 0]))] U.heap ∧ va_K (gD g) vwCl (tyl g) U ∧ va_D (fun _ => True) [(a, .inr (4, [.null, .int 0]))])) (va_Qv (fun (_ : Unit) => True) (fun _ t => ∃ q1 : Nat, va_P (gD g) vwCl [(a, .inr (4, [.ref q1, .int 0])), (q1, .inl (g.2.2.1 2, 260, .inl (fun _ => 0)))] t.heap ∧ va_D (va_A [(a, .inr (4, [.null, .int 0]))] sz) [(a, .inr (4, [.ref q1, .int 0])), (q1, .inl (g.2.2.1 2, 260, .inl (fun _ => 0)))]) (va_A [(a, .inr (4, [.null, .int 0]))] sz)) (1) (260) (va_A [(a, .inr (4, [.null, .int 0]))] sz) := by
  refine Met.ofW (cc := cX6_init) (maxL := 1) (ret := none) (by decide) rfl ?_
  intro p e s m args below meth c s₁ B hml hv
  obtain ⟨rfl, hsz, hP, hK, hD0⟩ := hv
  have hx := B.exec
  have hb := B.bytes
  have hr := B.returns
  have hts := atoms_spec (ws := (wx yX6_init cX6_init 1 none)) B.pre
  have hT : ∀ w ∈ TB, w.before _ s = true := fun w h => hts w (List.mem_cons_of_mem _ h)
  have hown : s.vm.findClass RX6 = some m.cls := findClass_of_methodNamed B.named
  have hlocks := B.notSynchronized
  have hinit : meth.name = "<init>" := (name_of_methodNamed B.named B.method).1
  subst hsz
  have hD := hD0.self (sz := s.heap.size)
  generalize hAe : va_A [(a, .inr (4, [.null, .int 0]))] s.heap.size = A at hD ⊢
  have hA : ∀ q : Nat, s.heap.size ≤ q → A q := fun q h => by rw [← hAe]; exact Or.inr h
  have hS : va_S A s.heap s.heap [] := va_S.rf
  have hl := lv_entry ([.ref a]) (n := 1) (Nat.le_of_ble_eq_true rfl)
  rw [lg_entry_eq]
  generalize (lg_sl ([.ref a]) ++ List.replicate (1 - (lg_sl ([.ref a])).length) Slot.unset).toArray = ls at hl ⊢
  have hl : lv_has ls 1 [(0, .ref a)] := hl
  refine lv_aload_n hx hb dX6_init_0 rfl (lv_at hl 0 rfl) ?_
  refine W.objInit hx hb hown (hT _ mw5_0) (hT _ mw1_15) (hT _ mw1_16) rfl (by rw [hml]; exact hl.1) rfl dX6_init_1 (Nat.le_of_ble_eq_true rfl) (Nat.le_of_ble_eq_true rfl) ?_
  refine W.eq (g2 := F0 m 4 ls []) rfl ?_
  refine lv_aload_n hx hb dX6_init_4 rfl (lv_at hl 0 rfl) ?_
  refine lv_sipush (v := (260 : Int32)) hx hb dX6_init_5 (by decide) ?_
  refine nw_2 (N := 260) hx hb hT hK hP hD hS hA rfl (by omega) (by show _ ≤ 1; omega) (by show _ ≤ (260); omega) dX6_init_8 (fun q1 H hP hD hS => ?_)
  have hP : va_P (gD g) vwCl [(a, .inr (4, [.null, .int 0])), (q1, .inl (g.2.2.1 2, 260, .inl (fun _ => 0)))] H := hP
  have hD : va_D A [(a, .inr (4, [.null, .int 0])), (q1, .inl (g.2.2.1 2, 260, .inl (fun _ => 0)))] := hD
  refine va_putF (ci := 4) (v := .ref q1) (ty := .array .int) (C := RX6) (T := TX6) (N := 2) hx hb hT inTX60 tyX6 tyX6_ok nmX6 hown hK hP hD hS 0 rfl rfl 0 (by decide) (hT _ mw5_1) (fun _ h => h) rfl hinit rfl (by decide +kernel) rfl rfl (Nat.le_of_ble_eq_true rfl) dX6_init_10 (fun H locs hP hD hS => ?_)
  have hP : va_P (gD g) vwCl [(a, .inr (4, [.ref q1, .int 0])), (q1, .inl (g.2.2.1 2, 260, .inl (fun _ => 0)))] H := hP
  have hD : va_D A [(a, .inr (4, [.ref q1, .int 0])), (q1, .inl (g.2.2.1 2, 260, .inl (fun _ => 0)))] := hD
  refine W.widen (k := 1) (n := (260)) (by omega) (by omega) ?_
  exact W.vret hx hb hr (fun t ht _ => ⟨⟨(), rfl, trivial, q1, by rw [ht]; exact hP, hD⟩, hS.F ht⟩) hS.2.2 dX6_init_13
set_option maxHeartbeats 8000000 in
set_option maxRecDepth 100000 in
theorem kX7_init (l : Launch) (g : GT) (sz : Nat) (a : Nat) : Met l yX7_init (wx yX7_init cX7_init 1 none) ({ frames := 1, cells := 2, slots := 11 + 6, locals := 12 } : Room) (va_Pc [.ref a] (fun U => U.heap.size = sz ∧ va_P (gD g) vwCl [(a, .inr (5, [.null, .null, .int 0]))] U.heap ∧ va_K (gD g) vwCl (tyl g) U ∧ va_D (fun _ => True) [(a, .inr (5, [.null, .null, .int 0]))])) (va_Qv (fun (_ : Unit) => True) (fun _ t => ∃ q1 q2 : Nat, va_P (gD g) vwCl [(a, .inr (5, [.ref q1, .ref q2, .int 0])), (q1, .inl (g.2.2.1 2, 11, .inl (fun _ => 0))), (q2, .inl (g.2.2.1 2, 6, .inl (fun _ => 0)))] t.heap ∧ va_D (va_A [(a, .inr (5, [.null, .null, .int 0]))] sz) [(a, .inr (5, [.ref q1, .ref q2, .int 0])), (q1, .inl (g.2.2.1 2, 11, .inl (fun _ => 0))), (q2, .inl (g.2.2.1 2, 6, .inl (fun _ => 0)))]) (va_A [(a, .inr (5, [.null, .null, .int 0]))] sz)) (2) (11 + 6) (va_A [(a, .inr (5, [.null, .null, .int 0]))] sz) := by
  refine Met.ofW (cc := cX7_init) (maxL := 1) (ret := none) (by decide) rfl ?_
  intro p e s m args below meth c s₁ B hml hv
  obtain ⟨rfl, hsz, hP, hK, hD0⟩ := hv
  have hx := B.exec
  have hb := B.bytes
  have hr := B.returns
  have hts := atoms_spec (ws := (wx yX7_init cX7_init 1 none)) B.pre
  have hT : ∀ w ∈ TB, w.before _ s = true := fun w h => hts w (List.mem_cons_of_mem _ h)
  have hown : s.vm.findClass RX7 = some m.cls := findClass_of_methodNamed B.named
  have hlocks := B.notSynchronized
  have hinit : meth.name = "<init>" := (name_of_methodNamed B.named B.method).1
  subst hsz
  have hD := hD0.self (sz := s.heap.size)
  generalize hAe : va_A [(a, .inr (5, [.null, .null, .int 0]))] s.heap.size = A at hD ⊢
  have hA : ∀ q : Nat, s.heap.size ≤ q → A q := fun q h => by rw [← hAe]; exact Or.inr h
  have hS : va_S A s.heap s.heap [] := va_S.rf
  have hl := lv_entry ([.ref a]) (n := 1) (Nat.le_of_ble_eq_true rfl)
  rw [lg_entry_eq]
  generalize (lg_sl ([.ref a]) ++ List.replicate (1 - (lg_sl ([.ref a])).length) Slot.unset).toArray = ls at hl ⊢
  have hl : lv_has ls 1 [(0, .ref a)] := hl
  refine lv_aload_n hx hb dX7_init_0 rfl (lv_at hl 0 rfl) ?_
  refine W.objInit hx hb hown (hT _ mw5_4) (hT _ mw1_15) (hT _ mw1_16) rfl (by rw [hml]; exact hl.1) rfl dX7_init_1 (Nat.le_of_ble_eq_true rfl) (Nat.le_of_ble_eq_true rfl) ?_
  refine W.eq (g2 := F0 m 4 ls []) rfl ?_
  refine lv_aload_n hx hb dX7_init_4 rfl (lv_at hl 0 rfl) ?_
  refine lv_bipush (v := (11 : Int32)) hx hb dX7_init_5 (by decide) ?_
  refine nw_2 (N := 11) hx hb hT hK hP hD hS hA rfl (by omega) (by show _ ≤ 2; omega) (by show _ ≤ (11 + 6); omega) dX7_init_7 (fun q1 H hP hD hS => ?_)
  have hP : va_P (gD g) vwCl [(a, .inr (5, [.null, .null, .int 0])), (q1, .inl (g.2.2.1 2, 11, .inl (fun _ => 0)))] H := hP
  have hD : va_D A [(a, .inr (5, [.null, .null, .int 0])), (q1, .inl (g.2.2.1 2, 11, .inl (fun _ => 0)))] := hD
  refine va_putF (ci := 5) (v := .ref q1) (ty := .array .int) (C := RX7) (T := TX7) (N := 3) hx hb hT inTX70 tyX7 tyX7_ok nmX7 hown hK hP hD hS 0 rfl rfl 0 (by decide) (hT _ mw5_5) (fun _ h => h) rfl hinit rfl (by decide +kernel) rfl rfl (Nat.le_of_ble_eq_true rfl) dX7_init_9 (fun H locs hP hD hS => ?_)
  have hP : va_P (gD g) vwCl [(a, .inr (5, [.ref q1, .null, .int 0])), (q1, .inl (g.2.2.1 2, 11, .inl (fun _ => 0)))] H := hP
  have hD : va_D A [(a, .inr (5, [.ref q1, .null, .int 0])), (q1, .inl (g.2.2.1 2, 11, .inl (fun _ => 0)))] := hD
  refine lv_aload_n hx hb dX7_init_12 rfl (lv_at hl 0 rfl) ?_
  refine lv_bipush (v := (6 : Int32)) hx hb dX7_init_13 (by decide) ?_
  refine nw_2 (N := 6) hx hb hT hK hP hD hS hA rfl (by omega) (by show _ ≤ 2; omega) (by show _ ≤ (11 + 6); omega) dX7_init_15 (fun q2 H hP hD hS => ?_)
  have hP : va_P (gD g) vwCl [(a, .inr (5, [.ref q1, .null, .int 0])), (q1, .inl (g.2.2.1 2, 11, .inl (fun _ => 0))), (q2, .inl (g.2.2.1 2, 6, .inl (fun _ => 0)))] H := hP
  have hD : va_D A [(a, .inr (5, [.ref q1, .null, .int 0])), (q1, .inl (g.2.2.1 2, 11, .inl (fun _ => 0))), (q2, .inl (g.2.2.1 2, 6, .inl (fun _ => 0)))] := hD
  refine va_putF (ci := 5) (v := .ref q2) (ty := .array .int) (C := RX7) (T := TX7) (N := 3) hx hb hT inTX70 tyX7 tyX7_ok nmX7 hown hK hP hD hS 0 rfl rfl 1 (by decide) (hT _ mw5_6) (fun _ h => h) rfl hinit rfl (by decide +kernel) rfl rfl (Nat.le_of_ble_eq_true rfl) dX7_init_17 (fun H locs hP hD hS => ?_)
  have hP : va_P (gD g) vwCl [(a, .inr (5, [.ref q1, .ref q2, .int 0])), (q1, .inl (g.2.2.1 2, 11, .inl (fun _ => 0))), (q2, .inl (g.2.2.1 2, 6, .inl (fun _ => 0)))] H := hP
  have hD : va_D A [(a, .inr (5, [.ref q1, .ref q2, .int 0])), (q1, .inl (g.2.2.1 2, 11, .inl (fun _ => 0))), (q2, .inl (g.2.2.1 2, 6, .inl (fun _ => 0)))] := hD
  refine W.widen (k := 2) (n := (11 + 6)) (by omega) (by omega) ?_
  exact W.vret hx hb hr (fun t ht _ => ⟨⟨(), rfl, trivial, q1, q2, by rw [ht]; exact hP, hD⟩, hS.F ht⟩) hS.2.2 dX7_init_20
set_option maxHeartbeats 8000000 in
set_option maxRecDepth 100000 in
theorem kX9_init (l : Launch) (g : GT) (sz : Nat) (a ds : Nat) : Met l yX9_init (wx yX9_init cX9_init 2 none) ({ frames := 1, cells := 0, slots := 0, locals := 12 } : Room) (va_Pc [.ref a, .ref ds] (fun U => U.heap.size = sz ∧ va_P (gD g) vwCl [(a, .inr (7, [.null, .int 0, .int 0, .int 0, .int 0, .int 0, .int 0, .int 0]))] U.heap ∧ va_K (gD g) vwCl (tyl g) U ∧ va_D (fun _ => True) [(a, .inr (7, [.null, .int 0, .int 0, .int 0, .int 0, .int 0, .int 0, .int 0]))])) (va_Qv (fun (_ : Unit) => True) (fun _ t => va_P (gD g) vwCl [(a, .inr (7, [.ref ds, .int 0, .int 0, .int (1 : Int32), .int 0, .int 0, .int 0, .int 0]))] t.heap ∧ va_D (va_A [(a, .inr (7, [.null, .int 0, .int 0, .int 0, .int 0, .int 0, .int 0, .int 0]))] sz) [(a, .inr (7, [.ref ds, .int 0, .int 0, .int (1 : Int32), .int 0, .int 0, .int 0, .int 0]))]) (va_A [(a, .inr (7, [.null, .int 0, .int 0, .int 0, .int 0, .int 0, .int 0, .int 0]))] sz)) (0) (0) (va_A [(a, .inr (7, [.null, .int 0, .int 0, .int 0, .int 0, .int 0, .int 0, .int 0]))] sz) := by
  refine Met.ofW (cc := cX9_init) (maxL := 2) (ret := none) (by decide) rfl ?_
  intro p e s m args below meth c s₁ B hml hv
  obtain ⟨rfl, hsz, hP, hK, hD0⟩ := hv
  have hx := B.exec
  have hb := B.bytes
  have hr := B.returns
  have hts := atoms_spec (ws := (wx yX9_init cX9_init 2 none)) B.pre
  have hT : ∀ w ∈ TB, w.before _ s = true := fun w h => hts w (List.mem_cons_of_mem _ h)
  have hown : s.vm.findClass RX9 = some m.cls := findClass_of_methodNamed B.named
  have hlocks := B.notSynchronized
  have hinit : meth.name = "<init>" := (name_of_methodNamed B.named B.method).1
  subst hsz
  have hD := hD0.self (sz := s.heap.size)
  generalize hAe : va_A [(a, .inr (7, [.null, .int 0, .int 0, .int 0, .int 0, .int 0, .int 0, .int 0]))] s.heap.size = A at hD ⊢
  have hA : ∀ q : Nat, s.heap.size ≤ q → A q := fun q h => by rw [← hAe]; exact Or.inr h
  have hS : va_S A s.heap s.heap [] := va_S.rf
  have hl := lv_entry ([.ref a, .ref ds]) (n := 2) (Nat.le_of_ble_eq_true rfl)
  rw [lg_entry_eq]
  generalize (lg_sl ([.ref a, .ref ds]) ++ List.replicate (2 - (lg_sl ([.ref a, .ref ds])).length) Slot.unset).toArray = ls at hl ⊢
  have hl : lv_has ls 2 [(0, .ref a), (1, .ref ds)] := hl
  refine lv_aload_n hx hb dX9_init_0 rfl (lv_at hl 0 rfl) ?_
  refine W.objInit hx hb hown (hT _ mw4_0) (hT _ mw1_15) (hT _ mw1_16) rfl (by rw [hml]; exact hl.1) rfl dX9_init_1 (Nat.le_of_ble_eq_true rfl) (Nat.le_of_ble_eq_true rfl) ?_
  refine W.eq (g2 := F0 m 4 ls []) rfl ?_
  refine lv_aload_n hx hb dX9_init_4 rfl (lv_at hl 0 rfl) ?_
  refine lv_iconst (v := (1 : Int32)) hx hb dX9_init_5 (by decide) ?_
  refine va_put (ci := 7) (v := .int (1 : Int32)) (ty := .int) (C := RX9) (T := TX9) (N := 8) hx hb hT inTX90 tyX9 tyX9_ok nmX9 hown hK hP hD hS 0 rfl rfl 3 (by decide) (hT _ mw4_1) (fun _ h => h) rfl (by decide +kernel) rfl rfl (Nat.le_of_ble_eq_true rfl) dX9_init_6 (fun H locs hP hD hS => ?_)
  have hP : va_P (gD g) vwCl [(a, .inr (7, [.null, .int 0, .int 0, .int (1 : Int32), .int 0, .int 0, .int 0, .int 0]))] H := hP
  have hD : va_D A [(a, .inr (7, [.null, .int 0, .int 0, .int (1 : Int32), .int 0, .int 0, .int 0, .int 0]))] := hD
  refine lv_aload_n hx hb dX9_init_9 rfl (lv_at hl 0 rfl) ?_
  refine lv_aload_n hx hb dX9_init_10 rfl (lv_at hl 1 rfl) ?_
  refine va_putF (ci := 7) (v := .ref ds) (ty := .object "TableVolumes$Disk") (C := RX9) (T := TX9) (N := 8) hx hb hT inTX90 tyX9 tyX9_ok nmX9 hown hK hP hD hS 0 rfl rfl 0 (by decide) (hT _ mw4_2) (fun _ h => h) rfl hinit rfl (by decide +kernel) rfl rfl (Nat.le_of_ble_eq_true rfl) dX9_init_11 (fun H locs hP hD hS => ?_)
  have hP : va_P (gD g) vwCl [(a, .inr (7, [.ref ds, .int 0, .int 0, .int (1 : Int32), .int 0, .int 0, .int 0, .int 0]))] H := hP
  have hD : va_D A [(a, .inr (7, [.ref ds, .int 0, .int 0, .int (1 : Int32), .int 0, .int 0, .int 0, .int 0]))] := hD
  refine W.widen (k := 0) (n := (0)) (by omega) (by omega) ?_
  exact W.vret hx hb hr (fun t ht _ => ⟨⟨(), rfl, trivial, by rw [ht]; exact hP, hD⟩, hS.F ht⟩) hS.2.2 dX9_init_14
set_option maxHeartbeats 8000000 in
set_option maxRecDepth 100000 in
theorem kX2_init (l : Launch) (g : GT) (sz : Nat) (a vo ds wo N : Nat) (hN : N ≤ 1024) (hHalf : (nI N) / (2 : Int32) = nI (N / 2)) (hHalf2 : ((nI N) / (2 : Int32)) + (2 : Int32) = nI (N / 2 + 2)) : Met l yX2_init (wx yX2_init cX2_init 2 none) ({ frames := 1, cells := 4, slots := 64 + 64 + 64 + (N / 2), locals := 12 } : Room) (va_Pc [.ref a, .ref vo] (fun U => U.heap.size = sz ∧ va_P (gD g) vwCl [(a, .inr (1, [.null, .int 0, .int 0, .int 0, .null, .null, .int 0, .int 0, .int 0, .null, .null, .null])), (vo, .inr (7, [.ref ds, .int 0, .int 0, .int (1 : Int32), .int 0, .int 0, .int 0, .int 0])), (ds, .inr (2, [.int (nI N), .ref wo]))] U.heap ∧ va_K (gD g) vwCl (tyl g) U ∧ va_D (fun _ => True) [(a, .inr (1, [.null, .int 0, .int 0, .int 0, .null, .null, .int 0, .int 0, .int 0, .null, .null, .null])), (vo, .inr (7, [.ref ds, .int 0, .int 0, .int (1 : Int32), .int 0, .int 0, .int 0, .int 0])), (ds, .inr (2, [.int (nI N), .ref wo]))])) (va_Qv (fun (_ : Unit) => True) (fun _ t => ∃ q1 q2 q3 q4 : Nat, va_P (gD g) vwCl [(a, .inr (1, [.ref ds, .int 0, .int 0, .int 0, .ref vo, .ref q4, .int 0, .int 0, .int 0, .ref q1, .ref q2, .ref q3])), (vo, .inr (7, [.ref ds, .int 0, .int 0, .int (1 : Int32), .int 0, .int 0, .int 0, .int 0])), (ds, .inr (2, [.int (nI N), .ref wo])), (q1, .inl (g.2.2.1 2, 64, .inl (fun _ => 0))), (q2, .inl (g.2.2.1 2, 64, .inl (fun _ => 0))), (q3, .inl (g.2.2.1 2, 64, .inl (fun _ => 0))), (q4, .inl (g.2.2.1 2, (N / 2), .inl (fun _ => 0)))] t.heap ∧ va_D (va_A [(a, .inr (1, [.null, .int 0, .int 0, .int 0, .null, .null, .int 0, .int 0, .int 0, .null, .null, .null])), (vo, .inr (7, [.ref ds, .int 0, .int 0, .int (1 : Int32), .int 0, .int 0, .int 0, .int 0])), (ds, .inr (2, [.int (nI N), .ref wo]))] sz) [(a, .inr (1, [.ref ds, .int 0, .int 0, .int 0, .ref vo, .ref q4, .int 0, .int 0, .int 0, .ref q1, .ref q2, .ref q3])), (vo, .inr (7, [.ref ds, .int 0, .int 0, .int (1 : Int32), .int 0, .int 0, .int 0, .int 0])), (ds, .inr (2, [.int (nI N), .ref wo])), (q1, .inl (g.2.2.1 2, 64, .inl (fun _ => 0))), (q2, .inl (g.2.2.1 2, 64, .inl (fun _ => 0))), (q3, .inl (g.2.2.1 2, 64, .inl (fun _ => 0))), (q4, .inl (g.2.2.1 2, (N / 2), .inl (fun _ => 0)))]) (va_A [(a, .inr (1, [.null, .int 0, .int 0, .int 0, .null, .null, .int 0, .int 0, .int 0, .null, .null, .null])), (vo, .inr (7, [.ref ds, .int 0, .int 0, .int (1 : Int32), .int 0, .int 0, .int 0, .int 0])), (ds, .inr (2, [.int (nI N), .ref wo]))] sz)) (4) (64 + 64 + 64 + (N / 2)) (va_A [(a, .inr (1, [.null, .int 0, .int 0, .int 0, .null, .null, .int 0, .int 0, .int 0, .null, .null, .null])), (vo, .inr (7, [.ref ds, .int 0, .int 0, .int (1 : Int32), .int 0, .int 0, .int 0, .int 0])), (ds, .inr (2, [.int (nI N), .ref wo]))] sz) := by
  refine Met.ofW (cc := cX2_init) (maxL := 2) (ret := none) (by decide) rfl ?_
  intro p e s m args below meth c s₁ B hml hv
  obtain ⟨rfl, hsz, hP, hK, hD0⟩ := hv
  have hx := B.exec
  have hb := B.bytes
  have hr := B.returns
  have hts := atoms_spec (ws := (wx yX2_init cX2_init 2 none)) B.pre
  have hT : ∀ w ∈ TB, w.before _ s = true := fun w h => hts w (List.mem_cons_of_mem _ h)
  have hown : s.vm.findClass RX2 = some m.cls := findClass_of_methodNamed B.named
  have hlocks := B.notSynchronized
  have hinit : meth.name = "<init>" := (name_of_methodNamed B.named B.method).1
  subst hsz
  have hD := hD0.self (sz := s.heap.size)
  generalize hAe : va_A [(a, .inr (1, [.null, .int 0, .int 0, .int 0, .null, .null, .int 0, .int 0, .int 0, .null, .null, .null])), (vo, .inr (7, [.ref ds, .int 0, .int 0, .int (1 : Int32), .int 0, .int 0, .int 0, .int 0])), (ds, .inr (2, [.int (nI N), .ref wo]))] s.heap.size = A at hD ⊢
  have hA : ∀ q : Nat, s.heap.size ≤ q → A q := fun q h => by rw [← hAe]; exact Or.inr h
  have hS : va_S A s.heap s.heap [] := va_S.rf
  have hl := lv_entry ([.ref a, .ref vo]) (n := 2) (Nat.le_of_ble_eq_true rfl)
  rw [lg_entry_eq]
  generalize (lg_sl ([.ref a, .ref vo]) ++ List.replicate (2 - (lg_sl ([.ref a, .ref vo])).length) Slot.unset).toArray = ls at hl ⊢
  have hl : lv_has ls 2 [(0, .ref a), (1, .ref vo)] := hl
  refine lv_aload_n hx hb dX2_init_0 rfl (lv_at hl 0 rfl) ?_
  refine W.objInit hx hb hown (hT _ mw5_10) (hT _ mw1_15) (hT _ mw1_16) rfl (by rw [hml]; exact hl.1) rfl dX2_init_1 (Nat.le_of_ble_eq_true rfl) (Nat.le_of_ble_eq_true rfl) ?_
  refine W.eq (g2 := F0 m 4 ls []) rfl ?_
  refine lv_aload_n hx hb dX2_init_4 rfl (lv_at hl 0 rfl) ?_
  refine lv_bipush (v := (64 : Int32)) hx hb dX2_init_5 (by decide) ?_
  refine nw_2 (N := 64) hx hb hT hK hP hD hS hA rfl (by omega) (by show _ ≤ 4; omega) (by show _ ≤ (64 + 64 + 64 + (N / 2)); omega) dX2_init_7 (fun q1 H hP hD hS => ?_)
  have hP : va_P (gD g) vwCl [(a, .inr (1, [.null, .int 0, .int 0, .int 0, .null, .null, .int 0, .int 0, .int 0, .null, .null, .null])), (vo, .inr (7, [.ref ds, .int 0, .int 0, .int (1 : Int32), .int 0, .int 0, .int 0, .int 0])), (ds, .inr (2, [.int (nI N), .ref wo])), (q1, .inl (g.2.2.1 2, 64, .inl (fun _ => 0)))] H := hP
  have hD : va_D A [(a, .inr (1, [.null, .int 0, .int 0, .int 0, .null, .null, .int 0, .int 0, .int 0, .null, .null, .null])), (vo, .inr (7, [.ref ds, .int 0, .int 0, .int (1 : Int32), .int 0, .int 0, .int 0, .int 0])), (ds, .inr (2, [.int (nI N), .ref wo])), (q1, .inl (g.2.2.1 2, 64, .inl (fun _ => 0)))] := hD
  refine va_put (ci := 1) (v := .ref q1) (ty := .array .int) (C := RX2) (T := TX2) (N := 12) hx hb hT inTX20 tyX2 tyX2_ok nmX2 hown hK hP hD hS 0 rfl rfl 9 (by decide) (hT _ mw5_11) (fun _ h => h) rfl (by decide +kernel) rfl rfl (Nat.le_of_ble_eq_true rfl) dX2_init_9 (fun H locs hP hD hS => ?_)
  have hP : va_P (gD g) vwCl [(a, .inr (1, [.null, .int 0, .int 0, .int 0, .null, .null, .int 0, .int 0, .int 0, .ref q1, .null, .null])), (vo, .inr (7, [.ref ds, .int 0, .int 0, .int (1 : Int32), .int 0, .int 0, .int 0, .int 0])), (ds, .inr (2, [.int (nI N), .ref wo])), (q1, .inl (g.2.2.1 2, 64, .inl (fun _ => 0)))] H := hP
  have hD : va_D A [(a, .inr (1, [.null, .int 0, .int 0, .int 0, .null, .null, .int 0, .int 0, .int 0, .ref q1, .null, .null])), (vo, .inr (7, [.ref ds, .int 0, .int 0, .int (1 : Int32), .int 0, .int 0, .int 0, .int 0])), (ds, .inr (2, [.int (nI N), .ref wo])), (q1, .inl (g.2.2.1 2, 64, .inl (fun _ => 0)))] := hD
  refine lv_aload_n hx hb dX2_init_12 rfl (lv_at hl 0 rfl) ?_
  refine lv_bipush (v := (64 : Int32)) hx hb dX2_init_13 (by decide) ?_
  refine nw_2 (N := 64) hx hb hT hK hP hD hS hA rfl (by omega) (by show _ ≤ 4; omega) (by show _ ≤ (64 + 64 + 64 + (N / 2)); omega) dX2_init_15 (fun q2 H hP hD hS => ?_)
  have hP : va_P (gD g) vwCl [(a, .inr (1, [.null, .int 0, .int 0, .int 0, .null, .null, .int 0, .int 0, .int 0, .ref q1, .null, .null])), (vo, .inr (7, [.ref ds, .int 0, .int 0, .int (1 : Int32), .int 0, .int 0, .int 0, .int 0])), (ds, .inr (2, [.int (nI N), .ref wo])), (q1, .inl (g.2.2.1 2, 64, .inl (fun _ => 0))), (q2, .inl (g.2.2.1 2, 64, .inl (fun _ => 0)))] H := hP
  have hD : va_D A [(a, .inr (1, [.null, .int 0, .int 0, .int 0, .null, .null, .int 0, .int 0, .int 0, .ref q1, .null, .null])), (vo, .inr (7, [.ref ds, .int 0, .int 0, .int (1 : Int32), .int 0, .int 0, .int 0, .int 0])), (ds, .inr (2, [.int (nI N), .ref wo])), (q1, .inl (g.2.2.1 2, 64, .inl (fun _ => 0))), (q2, .inl (g.2.2.1 2, 64, .inl (fun _ => 0)))] := hD
  refine va_put (ci := 1) (v := .ref q2) (ty := .array .int) (C := RX2) (T := TX2) (N := 12) hx hb hT inTX20 tyX2 tyX2_ok nmX2 hown hK hP hD hS 0 rfl rfl 10 (by decide) (hT _ mw5_12) (fun _ h => h) rfl (by decide +kernel) rfl rfl (Nat.le_of_ble_eq_true rfl) dX2_init_17 (fun H locs hP hD hS => ?_)
  have hP : va_P (gD g) vwCl [(a, .inr (1, [.null, .int 0, .int 0, .int 0, .null, .null, .int 0, .int 0, .int 0, .ref q1, .ref q2, .null])), (vo, .inr (7, [.ref ds, .int 0, .int 0, .int (1 : Int32), .int 0, .int 0, .int 0, .int 0])), (ds, .inr (2, [.int (nI N), .ref wo])), (q1, .inl (g.2.2.1 2, 64, .inl (fun _ => 0))), (q2, .inl (g.2.2.1 2, 64, .inl (fun _ => 0)))] H := hP
  have hD : va_D A [(a, .inr (1, [.null, .int 0, .int 0, .int 0, .null, .null, .int 0, .int 0, .int 0, .ref q1, .ref q2, .null])), (vo, .inr (7, [.ref ds, .int 0, .int 0, .int (1 : Int32), .int 0, .int 0, .int 0, .int 0])), (ds, .inr (2, [.int (nI N), .ref wo])), (q1, .inl (g.2.2.1 2, 64, .inl (fun _ => 0))), (q2, .inl (g.2.2.1 2, 64, .inl (fun _ => 0)))] := hD
  refine lv_aload_n hx hb dX2_init_20 rfl (lv_at hl 0 rfl) ?_
  refine lv_bipush (v := (64 : Int32)) hx hb dX2_init_21 (by decide) ?_
  refine nw_2 (N := 64) hx hb hT hK hP hD hS hA rfl (by omega) (by show _ ≤ 4; omega) (by show _ ≤ (64 + 64 + 64 + (N / 2)); omega) dX2_init_23 (fun q3 H hP hD hS => ?_)
  have hP : va_P (gD g) vwCl [(a, .inr (1, [.null, .int 0, .int 0, .int 0, .null, .null, .int 0, .int 0, .int 0, .ref q1, .ref q2, .null])), (vo, .inr (7, [.ref ds, .int 0, .int 0, .int (1 : Int32), .int 0, .int 0, .int 0, .int 0])), (ds, .inr (2, [.int (nI N), .ref wo])), (q1, .inl (g.2.2.1 2, 64, .inl (fun _ => 0))), (q2, .inl (g.2.2.1 2, 64, .inl (fun _ => 0))), (q3, .inl (g.2.2.1 2, 64, .inl (fun _ => 0)))] H := hP
  have hD : va_D A [(a, .inr (1, [.null, .int 0, .int 0, .int 0, .null, .null, .int 0, .int 0, .int 0, .ref q1, .ref q2, .null])), (vo, .inr (7, [.ref ds, .int 0, .int 0, .int (1 : Int32), .int 0, .int 0, .int 0, .int 0])), (ds, .inr (2, [.int (nI N), .ref wo])), (q1, .inl (g.2.2.1 2, 64, .inl (fun _ => 0))), (q2, .inl (g.2.2.1 2, 64, .inl (fun _ => 0))), (q3, .inl (g.2.2.1 2, 64, .inl (fun _ => 0)))] := hD
  refine va_put (ci := 1) (v := .ref q3) (ty := .array .int) (C := RX2) (T := TX2) (N := 12) hx hb hT inTX20 tyX2 tyX2_ok nmX2 hown hK hP hD hS 0 rfl rfl 11 (by decide) (hT _ mw5_13) (fun _ h => h) rfl (by decide +kernel) rfl rfl (Nat.le_of_ble_eq_true rfl) dX2_init_25 (fun H locs hP hD hS => ?_)
  have hP : va_P (gD g) vwCl [(a, .inr (1, [.null, .int 0, .int 0, .int 0, .null, .null, .int 0, .int 0, .int 0, .ref q1, .ref q2, .ref q3])), (vo, .inr (7, [.ref ds, .int 0, .int 0, .int (1 : Int32), .int 0, .int 0, .int 0, .int 0])), (ds, .inr (2, [.int (nI N), .ref wo])), (q1, .inl (g.2.2.1 2, 64, .inl (fun _ => 0))), (q2, .inl (g.2.2.1 2, 64, .inl (fun _ => 0))), (q3, .inl (g.2.2.1 2, 64, .inl (fun _ => 0)))] H := hP
  have hD : va_D A [(a, .inr (1, [.null, .int 0, .int 0, .int 0, .null, .null, .int 0, .int 0, .int 0, .ref q1, .ref q2, .ref q3])), (vo, .inr (7, [.ref ds, .int 0, .int 0, .int (1 : Int32), .int 0, .int 0, .int 0, .int 0])), (ds, .inr (2, [.int (nI N), .ref wo])), (q1, .inl (g.2.2.1 2, 64, .inl (fun _ => 0))), (q2, .inl (g.2.2.1 2, 64, .inl (fun _ => 0))), (q3, .inl (g.2.2.1 2, 64, .inl (fun _ => 0)))] := hD
  refine lv_aload_n hx hb dX2_init_28 rfl (lv_at hl 0 rfl) ?_
  refine lv_aload_n hx hb dX2_init_29 rfl (lv_at hl 1 rfl) ?_
  refine va_putF (ci := 1) (v := .ref vo) (ty := .object "TableVolumes$Volume") (C := RX2) (T := TX2) (N := 12) hx hb hT inTX20 tyX2 tyX2_ok nmX2 hown hK hP hD hS 0 rfl rfl 4 (by decide) (hT _ mw5_14) (fun _ h => h) rfl hinit rfl (by decide +kernel) rfl rfl (Nat.le_of_ble_eq_true rfl) dX2_init_30 (fun H locs hP hD hS => ?_)
  have hP : va_P (gD g) vwCl [(a, .inr (1, [.null, .int 0, .int 0, .int 0, .ref vo, .null, .int 0, .int 0, .int 0, .ref q1, .ref q2, .ref q3])), (vo, .inr (7, [.ref ds, .int 0, .int 0, .int (1 : Int32), .int 0, .int 0, .int 0, .int 0])), (ds, .inr (2, [.int (nI N), .ref wo])), (q1, .inl (g.2.2.1 2, 64, .inl (fun _ => 0))), (q2, .inl (g.2.2.1 2, 64, .inl (fun _ => 0))), (q3, .inl (g.2.2.1 2, 64, .inl (fun _ => 0)))] H := hP
  have hD : va_D A [(a, .inr (1, [.null, .int 0, .int 0, .int 0, .ref vo, .null, .int 0, .int 0, .int 0, .ref q1, .ref q2, .ref q3])), (vo, .inr (7, [.ref ds, .int 0, .int 0, .int (1 : Int32), .int 0, .int 0, .int 0, .int 0])), (ds, .inr (2, [.int (nI N), .ref wo])), (q1, .inl (g.2.2.1 2, 64, .inl (fun _ => 0))), (q2, .inl (g.2.2.1 2, 64, .inl (fun _ => 0))), (q3, .inl (g.2.2.1 2, 64, .inl (fun _ => 0)))] := hD
  refine lv_aload_n hx hb dX2_init_33 rfl (lv_at hl 0 rfl) ?_
  refine lv_aload_n hx hb dX2_init_34 rfl (lv_at hl 1 rfl) ?_
  refine va_get (ci := 7) (v := .ref ds) (C := RX9) (T := TX9) (N := 8) hx hb hT inTX90 hown hK hP 1 rfl rfl 0 (by decide) (hT _ mw5_15) (fun _ h => h) rfl dX2_init_35 ?_
  refine va_putF (ci := 1) (v := .ref ds) (ty := .object "TableVolumes$Disk") (C := RX2) (T := TX2) (N := 12) hx hb hT inTX20 tyX2 tyX2_ok nmX2 hown hK hP hD hS 0 rfl rfl 0 (by decide) (hT _ mw5_16) (fun _ h => h) rfl hinit rfl (by decide +kernel) rfl rfl (Nat.le_of_ble_eq_true rfl) dX2_init_38 (fun H locs hP hD hS => ?_)
  have hP : va_P (gD g) vwCl [(a, .inr (1, [.ref ds, .int 0, .int 0, .int 0, .ref vo, .null, .int 0, .int 0, .int 0, .ref q1, .ref q2, .ref q3])), (vo, .inr (7, [.ref ds, .int 0, .int 0, .int (1 : Int32), .int 0, .int 0, .int 0, .int 0])), (ds, .inr (2, [.int (nI N), .ref wo])), (q1, .inl (g.2.2.1 2, 64, .inl (fun _ => 0))), (q2, .inl (g.2.2.1 2, 64, .inl (fun _ => 0))), (q3, .inl (g.2.2.1 2, 64, .inl (fun _ => 0)))] H := hP
  have hD : va_D A [(a, .inr (1, [.ref ds, .int 0, .int 0, .int 0, .ref vo, .null, .int 0, .int 0, .int 0, .ref q1, .ref q2, .ref q3])), (vo, .inr (7, [.ref ds, .int 0, .int 0, .int (1 : Int32), .int 0, .int 0, .int 0, .int 0])), (ds, .inr (2, [.int (nI N), .ref wo])), (q1, .inl (g.2.2.1 2, 64, .inl (fun _ => 0))), (q2, .inl (g.2.2.1 2, 64, .inl (fun _ => 0))), (q3, .inl (g.2.2.1 2, 64, .inl (fun _ => 0)))] := hD
  refine lv_aload_n hx hb dX2_init_41 rfl (lv_at hl 0 rfl) ?_
  refine lv_aload_n hx hb dX2_init_42 rfl (lv_at hl 0 rfl) ?_
  refine va_get (ci := 1) (v := .ref ds) (C := RX2) (T := TX2) (N := 12) hx hb hT inTX20 hown hK hP 0 rfl rfl 0 (by decide) (hT _ mw5_16) (fun _ h => h) rfl dX2_init_43 ?_
  refine va_get (ci := 2) (v := .int (nI N)) (C := RX3) (T := TX3) (N := 2) hx hb hT inTX30 hown hK hP 2 rfl rfl 0 (by decide) (hT _ mw5_17) (fun _ h => h) rfl dX2_init_46 ?_
  refine lv_iconst (v := (2 : Int32)) hx hb dX2_init_49 (by decide) ?_
  refine lv_idiv hx hb dX2_init_50 (by decide) ?_
  refine nw_2 (N := (N / 2)) hx hb hT hK hP hD hS hA hHalf (by omega) (by show _ ≤ 4; omega) (by show _ ≤ (64 + 64 + 64 + (N / 2)); omega) dX2_init_51 (fun q4 H hP hD hS => ?_)
  have hP : va_P (gD g) vwCl [(a, .inr (1, [.ref ds, .int 0, .int 0, .int 0, .ref vo, .null, .int 0, .int 0, .int 0, .ref q1, .ref q2, .ref q3])), (vo, .inr (7, [.ref ds, .int 0, .int 0, .int (1 : Int32), .int 0, .int 0, .int 0, .int 0])), (ds, .inr (2, [.int (nI N), .ref wo])), (q1, .inl (g.2.2.1 2, 64, .inl (fun _ => 0))), (q2, .inl (g.2.2.1 2, 64, .inl (fun _ => 0))), (q3, .inl (g.2.2.1 2, 64, .inl (fun _ => 0))), (q4, .inl (g.2.2.1 2, (N / 2), .inl (fun _ => 0)))] H := hP
  have hD : va_D A [(a, .inr (1, [.ref ds, .int 0, .int 0, .int 0, .ref vo, .null, .int 0, .int 0, .int 0, .ref q1, .ref q2, .ref q3])), (vo, .inr (7, [.ref ds, .int 0, .int 0, .int (1 : Int32), .int 0, .int 0, .int 0, .int 0])), (ds, .inr (2, [.int (nI N), .ref wo])), (q1, .inl (g.2.2.1 2, 64, .inl (fun _ => 0))), (q2, .inl (g.2.2.1 2, 64, .inl (fun _ => 0))), (q3, .inl (g.2.2.1 2, 64, .inl (fun _ => 0))), (q4, .inl (g.2.2.1 2, (N / 2), .inl (fun _ => 0)))] := hD
  refine va_putF (ci := 1) (v := .ref q4) (ty := .array .int) (C := RX2) (T := TX2) (N := 12) hx hb hT inTX20 tyX2 tyX2_ok nmX2 hown hK hP hD hS 0 rfl rfl 5 (by decide) (hT _ mw5_18) (fun _ h => h) rfl hinit rfl (by decide +kernel) rfl rfl (Nat.le_of_ble_eq_true rfl) dX2_init_53 (fun H locs hP hD hS => ?_)
  have hP : va_P (gD g) vwCl [(a, .inr (1, [.ref ds, .int 0, .int 0, .int 0, .ref vo, .ref q4, .int 0, .int 0, .int 0, .ref q1, .ref q2, .ref q3])), (vo, .inr (7, [.ref ds, .int 0, .int 0, .int (1 : Int32), .int 0, .int 0, .int 0, .int 0])), (ds, .inr (2, [.int (nI N), .ref wo])), (q1, .inl (g.2.2.1 2, 64, .inl (fun _ => 0))), (q2, .inl (g.2.2.1 2, 64, .inl (fun _ => 0))), (q3, .inl (g.2.2.1 2, 64, .inl (fun _ => 0))), (q4, .inl (g.2.2.1 2, (N / 2), .inl (fun _ => 0)))] H := hP
  have hD : va_D A [(a, .inr (1, [.ref ds, .int 0, .int 0, .int 0, .ref vo, .ref q4, .int 0, .int 0, .int 0, .ref q1, .ref q2, .ref q3])), (vo, .inr (7, [.ref ds, .int 0, .int 0, .int (1 : Int32), .int 0, .int 0, .int 0, .int 0])), (ds, .inr (2, [.int (nI N), .ref wo])), (q1, .inl (g.2.2.1 2, 64, .inl (fun _ => 0))), (q2, .inl (g.2.2.1 2, 64, .inl (fun _ => 0))), (q3, .inl (g.2.2.1 2, 64, .inl (fun _ => 0))), (q4, .inl (g.2.2.1 2, (N / 2), .inl (fun _ => 0)))] := hD
  refine W.widen (k := 4) (n := (64 + 64 + 64 + (N / 2))) (by omega) (by omega) ?_
  exact W.vret hx hb hr (fun t ht _ => ⟨⟨(), rfl, trivial, q1, q2, q3, q4, by rw [ht]; exact hP, hD⟩, hS.F ht⟩) hS.2.2 dX2_init_56
set_option maxHeartbeats 8000000 in
set_option maxRecDepth 100000 in
theorem kX0_init (l : Launch) (g : GT) (sz : Nat) (a vo ds wo N : Nat) (hN : N ≤ 1024) (hHalf : (nI N) / (2 : Int32) = nI (N / 2)) (hHalf2 : ((nI N) / (2 : Int32)) + (2 : Int32) = nI (N / 2 + 2)) : Met l yX0_init (wx yX0_init cX0_init 2 none) ({ frames := 2, cells := 15, slots := 2 + (260) + 2 + (260) + 3 + (11 + 6) + 12 + (64 + 64 + 64 + (N / 2)) + (N / 2 + 2) + (N / 2 + 2) + (N / 2 + 2), locals := 33 } : Room) (va_Pc [.ref a, .ref vo] (fun U => U.heap.size = sz ∧ va_P (gD g) vwCl [(a, .inr (0, [.null, .null, .null, .null, .null, .null, .null, .null, .null, .int 0])), (vo, .inr (7, [.ref ds, .int 0, .int 0, .int (1 : Int32), .int 0, .int 0, .int 0, .int 0])), (ds, .inr (2, [.int (nI N), .ref wo]))] U.heap ∧ va_K (gD g) vwCl (tyl g) U ∧ va_D (fun _ => True) [(a, .inr (0, [.null, .null, .null, .null, .null, .null, .null, .null, .null, .int 0])), (vo, .inr (7, [.ref ds, .int 0, .int 0, .int (1 : Int32), .int 0, .int 0, .int 0, .int 0])), (ds, .inr (2, [.int (nI N), .ref wo]))] ∧ va_Nw (.methodLinkNest RX0 11 yX6_init "TableVolumes") U ∧ va_Nw (.methodLinkNest RX0 23 yX7_init "TableVolumes") U)) (va_Qv (fun (_ : Unit) => True) (fun _ t => ∃ q1 q2 q3 q4 q5 q6 q7 q8 q9 q10 q11 q12 q13 q14 q15 : Nat, va_P (gD g) vwCl [(a, .inr (0, [.ref vo, .ref ds, .ref q8, .ref q1, .ref q3, .ref q5, .ref q13, .ref q14, .ref q15, .int 0])), (q1, .inr (4, [.ref q2, .int 0])), (q2, .inl (g.2.2.1 2, 260, .inl (fun _ => 0))), (q3, .inr (4, [.ref q4, .int 0])), (q4, .inl (g.2.2.1 2, 260, .inl (fun _ => 0))), (q5, .inr (5, [.ref q6, .ref q7, .int 0])), (q6, .inl (g.2.2.1 2, 11, .inl (fun _ => 0))), (q7, .inl (g.2.2.1 2, 6, .inl (fun _ => 0))), (q8, .inr (1, [.ref ds, .int 0, .int 0, .int 0, .ref vo, .ref q12, .int 0, .int 0, .int 0, .ref q9, .ref q10, .ref q11])), (vo, .inr (7, [.ref ds, .int 0, .int 0, .int (1 : Int32), .int 0, .int 0, .int 0, .int 0])), (ds, .inr (2, [.int (nI N), .ref wo])), (q9, .inl (g.2.2.1 2, 64, .inl (fun _ => 0))), (q10, .inl (g.2.2.1 2, 64, .inl (fun _ => 0))), (q11, .inl (g.2.2.1 2, 64, .inl (fun _ => 0))), (q12, .inl (g.2.2.1 2, (N / 2), .inl (fun _ => 0))), (q13, .inl (g.2.2.1 3, (N / 2 + 2), .inl (fun _ => 0))), (q14, .inl (g.2.2.1 2, (N / 2 + 2), .inl (fun _ => 0))), (q15, .inl (g.2.2.1 2, (N / 2 + 2), .inl (fun _ => 0)))] t.heap ∧ va_D (va_A [(a, .inr (0, [.null, .null, .null, .null, .null, .null, .null, .null, .null, .int 0])), (vo, .inr (7, [.ref ds, .int 0, .int 0, .int (1 : Int32), .int 0, .int 0, .int 0, .int 0])), (ds, .inr (2, [.int (nI N), .ref wo]))] sz) [(a, .inr (0, [.ref vo, .ref ds, .ref q8, .ref q1, .ref q3, .ref q5, .ref q13, .ref q14, .ref q15, .int 0])), (q1, .inr (4, [.ref q2, .int 0])), (q2, .inl (g.2.2.1 2, 260, .inl (fun _ => 0))), (q3, .inr (4, [.ref q4, .int 0])), (q4, .inl (g.2.2.1 2, 260, .inl (fun _ => 0))), (q5, .inr (5, [.ref q6, .ref q7, .int 0])), (q6, .inl (g.2.2.1 2, 11, .inl (fun _ => 0))), (q7, .inl (g.2.2.1 2, 6, .inl (fun _ => 0))), (q8, .inr (1, [.ref ds, .int 0, .int 0, .int 0, .ref vo, .ref q12, .int 0, .int 0, .int 0, .ref q9, .ref q10, .ref q11])), (vo, .inr (7, [.ref ds, .int 0, .int 0, .int (1 : Int32), .int 0, .int 0, .int 0, .int 0])), (ds, .inr (2, [.int (nI N), .ref wo])), (q9, .inl (g.2.2.1 2, 64, .inl (fun _ => 0))), (q10, .inl (g.2.2.1 2, 64, .inl (fun _ => 0))), (q11, .inl (g.2.2.1 2, 64, .inl (fun _ => 0))), (q12, .inl (g.2.2.1 2, (N / 2), .inl (fun _ => 0))), (q13, .inl (g.2.2.1 3, (N / 2 + 2), .inl (fun _ => 0))), (q14, .inl (g.2.2.1 2, (N / 2 + 2), .inl (fun _ => 0))), (q15, .inl (g.2.2.1 2, (N / 2 + 2), .inl (fun _ => 0)))]) (va_A [(a, .inr (0, [.null, .null, .null, .null, .null, .null, .null, .null, .null, .int 0])), (vo, .inr (7, [.ref ds, .int 0, .int 0, .int (1 : Int32), .int 0, .int 0, .int 0, .int 0])), (ds, .inr (2, [.int (nI N), .ref wo]))] sz)) (15) (2 + (260) + 2 + (260) + 3 + (11 + 6) + 12 + (64 + 64 + 64 + (N / 2)) + (N / 2 + 2) + (N / 2 + 2) + (N / 2 + 2)) (va_A [(a, .inr (0, [.null, .null, .null, .null, .null, .null, .null, .null, .null, .int 0])), (vo, .inr (7, [.ref ds, .int 0, .int 0, .int (1 : Int32), .int 0, .int 0, .int 0, .int 0])), (ds, .inr (2, [.int (nI N), .ref wo]))] sz) := by
  refine Met.ofW (cc := cX0_init) (maxL := 2) (ret := none) (by decide) rfl ?_
  intro p e s m args below meth c s₁ B hml hv
  obtain ⟨rfl, hsz, hP, hK, hD0, hn_X0_11, hn_X0_23⟩ := hv
  have hx := B.exec
  have hb := B.bytes
  have hr := B.returns
  have hts := atoms_spec (ws := (wx yX0_init cX0_init 2 none)) B.pre
  have hT : ∀ w ∈ TB, w.before _ s = true := fun w h => hts w (List.mem_cons_of_mem _ h)
  have hown : s.vm.findClass RX0 = some m.cls := findClass_of_methodNamed B.named
  have hlocks := B.notSynchronized
  have hinit : meth.name = "<init>" := (name_of_methodNamed B.named B.method).1
  subst hsz
  have hD := hD0.self (sz := s.heap.size)
  generalize hAe : va_A [(a, .inr (0, [.null, .null, .null, .null, .null, .null, .null, .null, .null, .int 0])), (vo, .inr (7, [.ref ds, .int 0, .int 0, .int (1 : Int32), .int 0, .int 0, .int 0, .int 0])), (ds, .inr (2, [.int (nI N), .ref wo]))] s.heap.size = A at hD ⊢
  have hA : ∀ q : Nat, s.heap.size ≤ q → A q := fun q h => by rw [← hAe]; exact Or.inr h
  have hS : va_S A s.heap s.heap [] := va_S.rf
  have hl := lv_entry ([.ref a, .ref vo]) (n := 2) (Nat.le_of_ble_eq_true rfl)
  rw [lg_entry_eq]
  generalize (lg_sl ([.ref a, .ref vo]) ++ List.replicate (2 - (lg_sl ([.ref a, .ref vo])).length) Slot.unset).toArray = ls at hl ⊢
  have hl : lv_has ls 2 [(0, .ref a), (1, .ref vo)] := hl
  refine lv_aload_n hx hb dX0_init_0 rfl (lv_at hl 0 rfl) ?_
  refine W.objInit hx hb hown (hT _ mw4_6) (hT _ mw1_15) (hT _ mw1_16) rfl (by rw [hml]; exact hl.1) rfl dX0_init_1 (Nat.le_of_ble_eq_true rfl) (Nat.le_of_ble_eq_true rfl) ?_
  refine W.eq (g2 := F0 m 4 ls []) rfl ?_
  refine lv_aload_n hx hb dX0_init_4 rfl (lv_at hl 0 rfl) ?_
  refine va_new (ci := 4) (fs := [.null, .int 0]) (C := RX6) (T := TX6) (N := 2) hx hb hT inTX60 tyX6 tyX6_ok hown (hT _ mw4_7) (hT _ mw2_22) (hT _ mw2_23) hK hP hD hS hA rfl (fun j hj => by rcases (show j = 0 ∨ j = 1 by omega) with rfl | rfl <;> rfl) (by show _ ≤ 15; omega) (by show _ ≤ (2 + (260) + 2 + (260) + 3 + (11 + 6) + 12 + (64 + 64 + 64 + (N / 2)) + (N / 2 + 2) + (N / 2 + 2) + (N / 2 + 2)); omega) dX0_init_5 (fun q1 H hP hD hS => ?_)
  have hP : va_P (gD g) vwCl [(a, .inr (0, [.null, .null, .null, .null, .null, .null, .null, .null, .null, .int 0])), (vo, .inr (7, [.ref ds, .int 0, .int 0, .int (1 : Int32), .int 0, .int 0, .int 0, .int 0])), (ds, .inr (2, [.int (nI N), .ref wo])), (q1, .inr (4, [.null, .int 0]))] H := hP
  have hD : va_D A [(a, .inr (0, [.null, .null, .null, .null, .null, .null, .null, .null, .null, .int 0])), (vo, .inr (7, [.ref ds, .int 0, .int 0, .int (1 : Int32), .int 0, .int 0, .int 0, .int 0])), (ds, .inr (2, [.int (nI N), .ref wo])), (q1, .inr (4, [.null, .int 0]))] := hD
  refine lv_dup hx hb dX0_init_8 rfl ?_
  have hPc := hP.sub (ws' := [(q1, .inr (4, [.null, .int 0]))]) [3] rfl
  have hDc := hD.sub (ws' := [(q1, .inr (4, [.null, .int 0]))]) [3] (by decide) rfl
  have hFc := va_free (wc := [(q1, .inr (4, [.null, .int 0]))]) hD hS hA [3] rfl
  refine va_callv (va_runIN (Ts := TB) (As := []) (rest := [.ref q1, .ref a]) ⟨hx, hb, hml, hown, hT⟩ (kX6_init l g H.size q1) ⟨va_cnB (host := "TableVolumes") 0 hT (TB_in1 mw4_23) rfl rfl rfl hn_X0_11 (hT _ mw2_23) (by decide +kernel) ⟨Nat.le_of_ble_eq_true rfl, Nat.le_of_ble_eq_true rfl⟩, rfl, hT _ mw4_22⟩ ⟨fun a U f mk q => ⟨q.1, q.2.1, q.2.2.1, va_K.moved (u := U) (U := U.calling f mk a) (Vm.Alike.refl U.vm) q.2.2.2.1, q.2.2.2.2⟩, fun U hU hW => ⟨rfl, by rw [hU], by rw [hU]; exact hPc, va_K.moved hW.alike hK, hDc.weaken (fun _ _ _ _ => trivial)⟩⟩ rfl rfl hl.1 rfl (lv_room (Nat.le_of_ble_eq_true rfl)) dX0_init_9 ⟨by show _ ≤ 15; omega, by show _ ≤ (2 + (260) + 2 + (260) + 3 + (11 + 6) + 12 + (64 + 64 + 64 + (N / 2)) + (N / 2 + 2) + (N / 2 + 2) + (N / 2 + 2)); omega⟩) hS (fun q _ h => hFc q h) hFc (fun u t H1 locs ht hvm hw hB hz1 hk1 hS => ?_)
  obtain ⟨q2, hP1, hD1⟩ := hB
  rw [ht] at hP1
  obtain ⟨hP, hD⟩ := va_join (wr := [(a, .inr (0, [.null, .null, .null, .null, .null, .null, .null, .null, .null, .int 0])), (vo, .inr (7, [.ref ds, .int 0, .int 0, .int (1 : Int32), .int 0, .int 0, .int 0, .int 0])), (ds, .inr (2, [.int (nI N), .ref wo]))]) (w1 := [(q1, .inr (4, [.ref q2, .int 0])), (q2, .inl (g.2.2.1 2, 260, .inl (fun _ => 0)))]) hP hD [3] [0, 1, 2] rfl rfl (by decide) (by decide) hk1 hFc hP1 hD1
  clear hPc hDc hFc hP1 hD1 hk1
  generalize H1 = H at hP hS ⊢
  have hP : va_P (gD g) vwCl [(a, .inr (0, [.null, .null, .null, .null, .null, .null, .null, .null, .null, .int 0])), (vo, .inr (7, [.ref ds, .int 0, .int 0, .int (1 : Int32), .int 0, .int 0, .int 0, .int 0])), (ds, .inr (2, [.int (nI N), .ref wo])), (q1, .inr (4, [.ref q2, .int 0])), (q2, .inl (g.2.2.1 2, 260, .inl (fun _ => 0)))] H := hP
  have hD : va_D A [(a, .inr (0, [.null, .null, .null, .null, .null, .null, .null, .null, .null, .int 0])), (vo, .inr (7, [.ref ds, .int 0, .int 0, .int (1 : Int32), .int 0, .int 0, .int 0, .int 0])), (ds, .inr (2, [.int (nI N), .ref wo])), (q1, .inr (4, [.ref q2, .int 0])), (q2, .inl (g.2.2.1 2, 260, .inl (fun _ => 0)))] := hD
  refine va_putF (ci := 0) (v := .ref q1) (ty := .object "TableVolumes$Name") (C := RX0) (T := TX0) (N := 10) hx hb hT inTX00 tyX0 tyX0_ok nmX0 hown hK hP hD hS 0 rfl rfl 3 (by decide) (hT _ mw4_8) (fun _ h => h) rfl hinit rfl (by decide +kernel) rfl rfl (Nat.le_of_ble_eq_true rfl) dX0_init_12 (fun H locs hP hD hS => ?_)
  have hP : va_P (gD g) vwCl [(a, .inr (0, [.null, .null, .null, .ref q1, .null, .null, .null, .null, .null, .int 0])), (vo, .inr (7, [.ref ds, .int 0, .int 0, .int (1 : Int32), .int 0, .int 0, .int 0, .int 0])), (ds, .inr (2, [.int (nI N), .ref wo])), (q1, .inr (4, [.ref q2, .int 0])), (q2, .inl (g.2.2.1 2, 260, .inl (fun _ => 0)))] H := hP
  have hD : va_D A [(a, .inr (0, [.null, .null, .null, .ref q1, .null, .null, .null, .null, .null, .int 0])), (vo, .inr (7, [.ref ds, .int 0, .int 0, .int (1 : Int32), .int 0, .int 0, .int 0, .int 0])), (ds, .inr (2, [.int (nI N), .ref wo])), (q1, .inr (4, [.ref q2, .int 0])), (q2, .inl (g.2.2.1 2, 260, .inl (fun _ => 0)))] := hD
  refine lv_aload_n hx hb dX0_init_15 rfl (lv_at hl 0 rfl) ?_
  refine va_new (ci := 4) (fs := [.null, .int 0]) (C := RX6) (T := TX6) (N := 2) hx hb hT inTX60 tyX6 tyX6_ok hown (hT _ mw4_7) (hT _ mw2_22) (hT _ mw2_23) hK hP hD hS hA rfl (fun j hj => by rcases (show j = 0 ∨ j = 1 by omega) with rfl | rfl <;> rfl) (by show _ ≤ 15; omega) (by show _ ≤ (2 + (260) + 2 + (260) + 3 + (11 + 6) + 12 + (64 + 64 + 64 + (N / 2)) + (N / 2 + 2) + (N / 2 + 2) + (N / 2 + 2)); omega) dX0_init_16 (fun q3 H hP hD hS => ?_)
  have hP : va_P (gD g) vwCl [(a, .inr (0, [.null, .null, .null, .ref q1, .null, .null, .null, .null, .null, .int 0])), (vo, .inr (7, [.ref ds, .int 0, .int 0, .int (1 : Int32), .int 0, .int 0, .int 0, .int 0])), (ds, .inr (2, [.int (nI N), .ref wo])), (q1, .inr (4, [.ref q2, .int 0])), (q2, .inl (g.2.2.1 2, 260, .inl (fun _ => 0))), (q3, .inr (4, [.null, .int 0]))] H := hP
  have hD : va_D A [(a, .inr (0, [.null, .null, .null, .ref q1, .null, .null, .null, .null, .null, .int 0])), (vo, .inr (7, [.ref ds, .int 0, .int 0, .int (1 : Int32), .int 0, .int 0, .int 0, .int 0])), (ds, .inr (2, [.int (nI N), .ref wo])), (q1, .inr (4, [.ref q2, .int 0])), (q2, .inl (g.2.2.1 2, 260, .inl (fun _ => 0))), (q3, .inr (4, [.null, .int 0]))] := hD
  refine lv_dup hx hb dX0_init_19 rfl ?_
  have hPc := hP.sub (ws' := [(q3, .inr (4, [.null, .int 0]))]) [5] rfl
  have hDc := hD.sub (ws' := [(q3, .inr (4, [.null, .int 0]))]) [5] (by decide) rfl
  have hFc := va_free (wc := [(q3, .inr (4, [.null, .int 0]))]) hD hS hA [5] rfl
  refine va_callv (va_runIN (Ts := TB) (As := []) (rest := [.ref q3, .ref a]) ⟨hx, hb, hml, hown, hT⟩ (kX6_init l g H.size q3) ⟨va_cnB (host := "TableVolumes") 0 hT (TB_in1 mw4_23) rfl rfl rfl hn_X0_11 (hT _ mw2_23) (by decide +kernel) ⟨Nat.le_of_ble_eq_true rfl, Nat.le_of_ble_eq_true rfl⟩, rfl, hT _ mw4_22⟩ ⟨fun a U f mk q => ⟨q.1, q.2.1, q.2.2.1, va_K.moved (u := U) (U := U.calling f mk a) (Vm.Alike.refl U.vm) q.2.2.2.1, q.2.2.2.2⟩, fun U hU hW => ⟨rfl, by rw [hU], by rw [hU]; exact hPc, va_K.moved hW.alike hK, hDc.weaken (fun _ _ _ _ => trivial)⟩⟩ rfl rfl hl.1 rfl (lv_room (Nat.le_of_ble_eq_true rfl)) dX0_init_20 ⟨by show _ ≤ 15; omega, by show _ ≤ (2 + (260) + 2 + (260) + 3 + (11 + 6) + 12 + (64 + 64 + 64 + (N / 2)) + (N / 2 + 2) + (N / 2 + 2) + (N / 2 + 2)); omega⟩) hS (fun q _ h => hFc q h) hFc (fun u t H1 locs ht hvm hw hB hz1 hk1 hS => ?_)
  obtain ⟨q4, hP1, hD1⟩ := hB
  rw [ht] at hP1
  obtain ⟨hP, hD⟩ := va_join (wr := [(a, .inr (0, [.null, .null, .null, .ref q1, .null, .null, .null, .null, .null, .int 0])), (vo, .inr (7, [.ref ds, .int 0, .int 0, .int (1 : Int32), .int 0, .int 0, .int 0, .int 0])), (ds, .inr (2, [.int (nI N), .ref wo])), (q1, .inr (4, [.ref q2, .int 0])), (q2, .inl (g.2.2.1 2, 260, .inl (fun _ => 0)))]) (w1 := [(q3, .inr (4, [.ref q4, .int 0])), (q4, .inl (g.2.2.1 2, 260, .inl (fun _ => 0)))]) hP hD [5] [0, 1, 2, 3, 4] rfl rfl (by decide) (by decide) hk1 hFc hP1 hD1
  clear hPc hDc hFc hP1 hD1 hk1
  generalize H1 = H at hP hS ⊢
  have hP : va_P (gD g) vwCl [(a, .inr (0, [.null, .null, .null, .ref q1, .null, .null, .null, .null, .null, .int 0])), (vo, .inr (7, [.ref ds, .int 0, .int 0, .int (1 : Int32), .int 0, .int 0, .int 0, .int 0])), (ds, .inr (2, [.int (nI N), .ref wo])), (q1, .inr (4, [.ref q2, .int 0])), (q2, .inl (g.2.2.1 2, 260, .inl (fun _ => 0))), (q3, .inr (4, [.ref q4, .int 0])), (q4, .inl (g.2.2.1 2, 260, .inl (fun _ => 0)))] H := hP
  have hD : va_D A [(a, .inr (0, [.null, .null, .null, .ref q1, .null, .null, .null, .null, .null, .int 0])), (vo, .inr (7, [.ref ds, .int 0, .int 0, .int (1 : Int32), .int 0, .int 0, .int 0, .int 0])), (ds, .inr (2, [.int (nI N), .ref wo])), (q1, .inr (4, [.ref q2, .int 0])), (q2, .inl (g.2.2.1 2, 260, .inl (fun _ => 0))), (q3, .inr (4, [.ref q4, .int 0])), (q4, .inl (g.2.2.1 2, 260, .inl (fun _ => 0)))] := hD
  refine va_putF (ci := 0) (v := .ref q3) (ty := .object "TableVolumes$Name") (C := RX0) (T := TX0) (N := 10) hx hb hT inTX00 tyX0 tyX0_ok nmX0 hown hK hP hD hS 0 rfl rfl 4 (by decide) (hT _ mw4_9) (fun _ h => h) rfl hinit rfl (by decide +kernel) rfl rfl (Nat.le_of_ble_eq_true rfl) dX0_init_23 (fun H locs hP hD hS => ?_)
  have hP : va_P (gD g) vwCl [(a, .inr (0, [.null, .null, .null, .ref q1, .ref q3, .null, .null, .null, .null, .int 0])), (vo, .inr (7, [.ref ds, .int 0, .int 0, .int (1 : Int32), .int 0, .int 0, .int 0, .int 0])), (ds, .inr (2, [.int (nI N), .ref wo])), (q1, .inr (4, [.ref q2, .int 0])), (q2, .inl (g.2.2.1 2, 260, .inl (fun _ => 0))), (q3, .inr (4, [.ref q4, .int 0])), (q4, .inl (g.2.2.1 2, 260, .inl (fun _ => 0)))] H := hP
  have hD : va_D A [(a, .inr (0, [.null, .null, .null, .ref q1, .ref q3, .null, .null, .null, .null, .int 0])), (vo, .inr (7, [.ref ds, .int 0, .int 0, .int (1 : Int32), .int 0, .int 0, .int 0, .int 0])), (ds, .inr (2, [.int (nI N), .ref wo])), (q1, .inr (4, [.ref q2, .int 0])), (q2, .inl (g.2.2.1 2, 260, .inl (fun _ => 0))), (q3, .inr (4, [.ref q4, .int 0])), (q4, .inl (g.2.2.1 2, 260, .inl (fun _ => 0)))] := hD
  refine lv_aload_n hx hb dX0_init_26 rfl (lv_at hl 0 rfl) ?_
  refine va_new (ci := 5) (fs := [.null, .null, .int 0]) (C := RX7) (T := TX7) (N := 3) hx hb hT inTX70 tyX7 tyX7_ok hown (hT _ mw4_10) (hT _ mw3_3) (hT _ mw3_4) hK hP hD hS hA rfl (fun j hj => by rcases (show j = 0 ∨ j = 1 ∨ j = 2 by omega) with rfl | rfl | rfl <;> rfl) (by show _ ≤ 15; omega) (by show _ ≤ (2 + (260) + 2 + (260) + 3 + (11 + 6) + 12 + (64 + 64 + 64 + (N / 2)) + (N / 2 + 2) + (N / 2 + 2) + (N / 2 + 2)); omega) dX0_init_27 (fun q5 H hP hD hS => ?_)
  have hP : va_P (gD g) vwCl [(a, .inr (0, [.null, .null, .null, .ref q1, .ref q3, .null, .null, .null, .null, .int 0])), (vo, .inr (7, [.ref ds, .int 0, .int 0, .int (1 : Int32), .int 0, .int 0, .int 0, .int 0])), (ds, .inr (2, [.int (nI N), .ref wo])), (q1, .inr (4, [.ref q2, .int 0])), (q2, .inl (g.2.2.1 2, 260, .inl (fun _ => 0))), (q3, .inr (4, [.ref q4, .int 0])), (q4, .inl (g.2.2.1 2, 260, .inl (fun _ => 0))), (q5, .inr (5, [.null, .null, .int 0]))] H := hP
  have hD : va_D A [(a, .inr (0, [.null, .null, .null, .ref q1, .ref q3, .null, .null, .null, .null, .int 0])), (vo, .inr (7, [.ref ds, .int 0, .int 0, .int (1 : Int32), .int 0, .int 0, .int 0, .int 0])), (ds, .inr (2, [.int (nI N), .ref wo])), (q1, .inr (4, [.ref q2, .int 0])), (q2, .inl (g.2.2.1 2, 260, .inl (fun _ => 0))), (q3, .inr (4, [.ref q4, .int 0])), (q4, .inl (g.2.2.1 2, 260, .inl (fun _ => 0))), (q5, .inr (5, [.null, .null, .int 0]))] := hD
  refine lv_dup hx hb dX0_init_30 rfl ?_
  have hPc := hP.sub (ws' := [(q5, .inr (5, [.null, .null, .int 0]))]) [7] rfl
  have hDc := hD.sub (ws' := [(q5, .inr (5, [.null, .null, .int 0]))]) [7] (by decide) rfl
  have hFc := va_free (wc := [(q5, .inr (5, [.null, .null, .int 0]))]) hD hS hA [7] rfl
  refine va_callv (va_runIN (Ts := TB) (As := []) (rest := [.ref q5, .ref a]) ⟨hx, hb, hml, hown, hT⟩ (kX7_init l g H.size q5) ⟨va_cnB (host := "TableVolumes") 0 hT (TB_in1 mw5_3) rfl rfl rfl hn_X0_23 (hT _ mw3_4) (by decide +kernel) ⟨Nat.le_of_ble_eq_true rfl, Nat.le_of_ble_eq_true rfl⟩, rfl, hT _ mw5_2⟩ ⟨fun a U f mk q => ⟨q.1, q.2.1, q.2.2.1, va_K.moved (u := U) (U := U.calling f mk a) (Vm.Alike.refl U.vm) q.2.2.2.1, q.2.2.2.2⟩, fun U hU hW => ⟨rfl, by rw [hU], by rw [hU]; exact hPc, va_K.moved hW.alike hK, hDc.weaken (fun _ _ _ _ => trivial)⟩⟩ rfl rfl hl.1 rfl (lv_room (Nat.le_of_ble_eq_true rfl)) dX0_init_31 ⟨by show _ ≤ 15; omega, by show _ ≤ (2 + (260) + 2 + (260) + 3 + (11 + 6) + 12 + (64 + 64 + 64 + (N / 2)) + (N / 2 + 2) + (N / 2 + 2) + (N / 2 + 2)); omega⟩) hS (fun q _ h => hFc q h) hFc (fun u t H1 locs ht hvm hw hB hz1 hk1 hS => ?_)
  obtain ⟨q6, q7, hP1, hD1⟩ := hB
  rw [ht] at hP1
  obtain ⟨hP, hD⟩ := va_join (wr := [(a, .inr (0, [.null, .null, .null, .ref q1, .ref q3, .null, .null, .null, .null, .int 0])), (vo, .inr (7, [.ref ds, .int 0, .int 0, .int (1 : Int32), .int 0, .int 0, .int 0, .int 0])), (ds, .inr (2, [.int (nI N), .ref wo])), (q1, .inr (4, [.ref q2, .int 0])), (q2, .inl (g.2.2.1 2, 260, .inl (fun _ => 0))), (q3, .inr (4, [.ref q4, .int 0])), (q4, .inl (g.2.2.1 2, 260, .inl (fun _ => 0)))]) (w1 := [(q5, .inr (5, [.ref q6, .ref q7, .int 0])), (q6, .inl (g.2.2.1 2, 11, .inl (fun _ => 0))), (q7, .inl (g.2.2.1 2, 6, .inl (fun _ => 0)))]) hP hD [7] [0, 1, 2, 3, 4, 5, 6] rfl rfl (by decide) (by decide) hk1 hFc hP1 hD1
  clear hPc hDc hFc hP1 hD1 hk1
  generalize H1 = H at hP hS ⊢
  have hP : va_P (gD g) vwCl [(a, .inr (0, [.null, .null, .null, .ref q1, .ref q3, .null, .null, .null, .null, .int 0])), (vo, .inr (7, [.ref ds, .int 0, .int 0, .int (1 : Int32), .int 0, .int 0, .int 0, .int 0])), (ds, .inr (2, [.int (nI N), .ref wo])), (q1, .inr (4, [.ref q2, .int 0])), (q2, .inl (g.2.2.1 2, 260, .inl (fun _ => 0))), (q3, .inr (4, [.ref q4, .int 0])), (q4, .inl (g.2.2.1 2, 260, .inl (fun _ => 0))), (q5, .inr (5, [.ref q6, .ref q7, .int 0])), (q6, .inl (g.2.2.1 2, 11, .inl (fun _ => 0))), (q7, .inl (g.2.2.1 2, 6, .inl (fun _ => 0)))] H := hP
  have hD : va_D A [(a, .inr (0, [.null, .null, .null, .ref q1, .ref q3, .null, .null, .null, .null, .int 0])), (vo, .inr (7, [.ref ds, .int 0, .int 0, .int (1 : Int32), .int 0, .int 0, .int 0, .int 0])), (ds, .inr (2, [.int (nI N), .ref wo])), (q1, .inr (4, [.ref q2, .int 0])), (q2, .inl (g.2.2.1 2, 260, .inl (fun _ => 0))), (q3, .inr (4, [.ref q4, .int 0])), (q4, .inl (g.2.2.1 2, 260, .inl (fun _ => 0))), (q5, .inr (5, [.ref q6, .ref q7, .int 0])), (q6, .inl (g.2.2.1 2, 11, .inl (fun _ => 0))), (q7, .inl (g.2.2.1 2, 6, .inl (fun _ => 0)))] := hD
  refine va_putF (ci := 0) (v := .ref q5) (ty := .object "TableVolumes$ShortName") (C := RX0) (T := TX0) (N := 10) hx hb hT inTX00 tyX0 tyX0_ok nmX0 hown hK hP hD hS 0 rfl rfl 5 (by decide) (hT _ mw4_11) (fun _ h => h) rfl hinit rfl (by decide +kernel) rfl rfl (Nat.le_of_ble_eq_true rfl) dX0_init_34 (fun H locs hP hD hS => ?_)
  have hP : va_P (gD g) vwCl [(a, .inr (0, [.null, .null, .null, .ref q1, .ref q3, .ref q5, .null, .null, .null, .int 0])), (vo, .inr (7, [.ref ds, .int 0, .int 0, .int (1 : Int32), .int 0, .int 0, .int 0, .int 0])), (ds, .inr (2, [.int (nI N), .ref wo])), (q1, .inr (4, [.ref q2, .int 0])), (q2, .inl (g.2.2.1 2, 260, .inl (fun _ => 0))), (q3, .inr (4, [.ref q4, .int 0])), (q4, .inl (g.2.2.1 2, 260, .inl (fun _ => 0))), (q5, .inr (5, [.ref q6, .ref q7, .int 0])), (q6, .inl (g.2.2.1 2, 11, .inl (fun _ => 0))), (q7, .inl (g.2.2.1 2, 6, .inl (fun _ => 0)))] H := hP
  have hD : va_D A [(a, .inr (0, [.null, .null, .null, .ref q1, .ref q3, .ref q5, .null, .null, .null, .int 0])), (vo, .inr (7, [.ref ds, .int 0, .int 0, .int (1 : Int32), .int 0, .int 0, .int 0, .int 0])), (ds, .inr (2, [.int (nI N), .ref wo])), (q1, .inr (4, [.ref q2, .int 0])), (q2, .inl (g.2.2.1 2, 260, .inl (fun _ => 0))), (q3, .inr (4, [.ref q4, .int 0])), (q4, .inl (g.2.2.1 2, 260, .inl (fun _ => 0))), (q5, .inr (5, [.ref q6, .ref q7, .int 0])), (q6, .inl (g.2.2.1 2, 11, .inl (fun _ => 0))), (q7, .inl (g.2.2.1 2, 6, .inl (fun _ => 0)))] := hD
  refine lv_aload_n hx hb dX0_init_37 rfl (lv_at hl 0 rfl) ?_
  refine lv_aload_n hx hb dX0_init_38 rfl (lv_at hl 1 rfl) ?_
  refine va_putF (ci := 0) (v := .ref vo) (ty := .object "TableVolumes$Volume") (C := RX0) (T := TX0) (N := 10) hx hb hT inTX00 tyX0 tyX0_ok nmX0 hown hK hP hD hS 0 rfl rfl 0 (by decide) (hT _ mw4_12) (fun _ h => h) rfl hinit rfl (by decide +kernel) rfl rfl (Nat.le_of_ble_eq_true rfl) dX0_init_39 (fun H locs hP hD hS => ?_)
  have hP : va_P (gD g) vwCl [(a, .inr (0, [.ref vo, .null, .null, .ref q1, .ref q3, .ref q5, .null, .null, .null, .int 0])), (vo, .inr (7, [.ref ds, .int 0, .int 0, .int (1 : Int32), .int 0, .int 0, .int 0, .int 0])), (ds, .inr (2, [.int (nI N), .ref wo])), (q1, .inr (4, [.ref q2, .int 0])), (q2, .inl (g.2.2.1 2, 260, .inl (fun _ => 0))), (q3, .inr (4, [.ref q4, .int 0])), (q4, .inl (g.2.2.1 2, 260, .inl (fun _ => 0))), (q5, .inr (5, [.ref q6, .ref q7, .int 0])), (q6, .inl (g.2.2.1 2, 11, .inl (fun _ => 0))), (q7, .inl (g.2.2.1 2, 6, .inl (fun _ => 0)))] H := hP
  have hD : va_D A [(a, .inr (0, [.ref vo, .null, .null, .ref q1, .ref q3, .ref q5, .null, .null, .null, .int 0])), (vo, .inr (7, [.ref ds, .int 0, .int 0, .int (1 : Int32), .int 0, .int 0, .int 0, .int 0])), (ds, .inr (2, [.int (nI N), .ref wo])), (q1, .inr (4, [.ref q2, .int 0])), (q2, .inl (g.2.2.1 2, 260, .inl (fun _ => 0))), (q3, .inr (4, [.ref q4, .int 0])), (q4, .inl (g.2.2.1 2, 260, .inl (fun _ => 0))), (q5, .inr (5, [.ref q6, .ref q7, .int 0])), (q6, .inl (g.2.2.1 2, 11, .inl (fun _ => 0))), (q7, .inl (g.2.2.1 2, 6, .inl (fun _ => 0)))] := hD
  refine lv_aload_n hx hb dX0_init_42 rfl (lv_at hl 0 rfl) ?_
  refine lv_aload_n hx hb dX0_init_43 rfl (lv_at hl 1 rfl) ?_
  refine va_get (ci := 7) (v := .ref ds) (C := RX9) (T := TX9) (N := 8) hx hb hT inTX90 hown hK hP 1 rfl rfl 0 (by decide) (hT _ mw4_13) (fun _ h => h) rfl dX0_init_44 ?_
  refine va_putF (ci := 0) (v := .ref ds) (ty := .object "TableVolumes$Disk") (C := RX0) (T := TX0) (N := 10) hx hb hT inTX00 tyX0 tyX0_ok nmX0 hown hK hP hD hS 0 rfl rfl 1 (by decide) (hT _ mw4_14) (fun _ h => h) rfl hinit rfl (by decide +kernel) rfl rfl (Nat.le_of_ble_eq_true rfl) dX0_init_47 (fun H locs hP hD hS => ?_)
  have hP : va_P (gD g) vwCl [(a, .inr (0, [.ref vo, .ref ds, .null, .ref q1, .ref q3, .ref q5, .null, .null, .null, .int 0])), (vo, .inr (7, [.ref ds, .int 0, .int 0, .int (1 : Int32), .int 0, .int 0, .int 0, .int 0])), (ds, .inr (2, [.int (nI N), .ref wo])), (q1, .inr (4, [.ref q2, .int 0])), (q2, .inl (g.2.2.1 2, 260, .inl (fun _ => 0))), (q3, .inr (4, [.ref q4, .int 0])), (q4, .inl (g.2.2.1 2, 260, .inl (fun _ => 0))), (q5, .inr (5, [.ref q6, .ref q7, .int 0])), (q6, .inl (g.2.2.1 2, 11, .inl (fun _ => 0))), (q7, .inl (g.2.2.1 2, 6, .inl (fun _ => 0)))] H := hP
  have hD : va_D A [(a, .inr (0, [.ref vo, .ref ds, .null, .ref q1, .ref q3, .ref q5, .null, .null, .null, .int 0])), (vo, .inr (7, [.ref ds, .int 0, .int 0, .int (1 : Int32), .int 0, .int 0, .int 0, .int 0])), (ds, .inr (2, [.int (nI N), .ref wo])), (q1, .inr (4, [.ref q2, .int 0])), (q2, .inl (g.2.2.1 2, 260, .inl (fun _ => 0))), (q3, .inr (4, [.ref q4, .int 0])), (q4, .inl (g.2.2.1 2, 260, .inl (fun _ => 0))), (q5, .inr (5, [.ref q6, .ref q7, .int 0])), (q6, .inl (g.2.2.1 2, 11, .inl (fun _ => 0))), (q7, .inl (g.2.2.1 2, 6, .inl (fun _ => 0)))] := hD
  refine lv_aload_n hx hb dX0_init_50 rfl (lv_at hl 0 rfl) ?_
  refine va_new (ci := 1) (fs := [.null, .int 0, .int 0, .int 0, .null, .null, .int 0, .int 0, .int 0, .null, .null, .null]) (C := RX2) (T := TX2) (N := 12) hx hb hT inTX20 tyX2 tyX2_ok hown (hT _ mw4_15) (hT _ mw2_17) (hT _ mw2_18) hK hP hD hS hA rfl (fun j hj => by rcases (show j = 0 ∨ j = 1 ∨ j = 2 ∨ j = 3 ∨ j = 4 ∨ j = 5 ∨ j = 6 ∨ j = 7 ∨ j = 8 ∨ j = 9 ∨ j = 10 ∨ j = 11 by omega) with rfl | rfl | rfl | rfl | rfl | rfl | rfl | rfl | rfl | rfl | rfl | rfl <;> rfl) (by show _ ≤ 15; omega) (by show _ ≤ (2 + (260) + 2 + (260) + 3 + (11 + 6) + 12 + (64 + 64 + 64 + (N / 2)) + (N / 2 + 2) + (N / 2 + 2) + (N / 2 + 2)); omega) dX0_init_51 (fun q8 H hP hD hS => ?_)
  have hP : va_P (gD g) vwCl [(a, .inr (0, [.ref vo, .ref ds, .null, .ref q1, .ref q3, .ref q5, .null, .null, .null, .int 0])), (vo, .inr (7, [.ref ds, .int 0, .int 0, .int (1 : Int32), .int 0, .int 0, .int 0, .int 0])), (ds, .inr (2, [.int (nI N), .ref wo])), (q1, .inr (4, [.ref q2, .int 0])), (q2, .inl (g.2.2.1 2, 260, .inl (fun _ => 0))), (q3, .inr (4, [.ref q4, .int 0])), (q4, .inl (g.2.2.1 2, 260, .inl (fun _ => 0))), (q5, .inr (5, [.ref q6, .ref q7, .int 0])), (q6, .inl (g.2.2.1 2, 11, .inl (fun _ => 0))), (q7, .inl (g.2.2.1 2, 6, .inl (fun _ => 0))), (q8, .inr (1, [.null, .int 0, .int 0, .int 0, .null, .null, .int 0, .int 0, .int 0, .null, .null, .null]))] H := hP
  have hD : va_D A [(a, .inr (0, [.ref vo, .ref ds, .null, .ref q1, .ref q3, .ref q5, .null, .null, .null, .int 0])), (vo, .inr (7, [.ref ds, .int 0, .int 0, .int (1 : Int32), .int 0, .int 0, .int 0, .int 0])), (ds, .inr (2, [.int (nI N), .ref wo])), (q1, .inr (4, [.ref q2, .int 0])), (q2, .inl (g.2.2.1 2, 260, .inl (fun _ => 0))), (q3, .inr (4, [.ref q4, .int 0])), (q4, .inl (g.2.2.1 2, 260, .inl (fun _ => 0))), (q5, .inr (5, [.ref q6, .ref q7, .int 0])), (q6, .inl (g.2.2.1 2, 11, .inl (fun _ => 0))), (q7, .inl (g.2.2.1 2, 6, .inl (fun _ => 0))), (q8, .inr (1, [.null, .int 0, .int 0, .int 0, .null, .null, .int 0, .int 0, .int 0, .null, .null, .null]))] := hD
  refine lv_dup hx hb dX0_init_54 rfl ?_
  refine lv_aload_n hx hb dX0_init_55 rfl (lv_at hl 1 rfl) ?_
  have hPc := hP.sub (ws' := [(q8, .inr (1, [.null, .int 0, .int 0, .int 0, .null, .null, .int 0, .int 0, .int 0, .null, .null, .null])), (vo, .inr (7, [.ref ds, .int 0, .int 0, .int (1 : Int32), .int 0, .int 0, .int 0, .int 0])), (ds, .inr (2, [.int (nI N), .ref wo]))]) [10, 1, 2] rfl
  have hDc := hD.sub (ws' := [(q8, .inr (1, [.null, .int 0, .int 0, .int 0, .null, .null, .int 0, .int 0, .int 0, .null, .null, .null])), (vo, .inr (7, [.ref ds, .int 0, .int 0, .int (1 : Int32), .int 0, .int 0, .int 0, .int 0])), (ds, .inr (2, [.int (nI N), .ref wo]))]) [10, 1, 2] (by decide) rfl
  have hFc := va_free (wc := [(q8, .inr (1, [.null, .int 0, .int 0, .int 0, .null, .null, .int 0, .int 0, .int 0, .null, .null, .null])), (vo, .inr (7, [.ref ds, .int 0, .int 0, .int (1 : Int32), .int 0, .int 0, .int 0, .int 0])), (ds, .inr (2, [.int (nI N), .ref wo]))]) hD hS hA [10, 1, 2] rfl
  refine va_callv (va_runI (Ts := TB) (As := [.ref vo]) (rest := [.ref q8, .ref a]) ⟨hx, hb, hml, hown, hT⟩ (kX2_init l g H.size q8 vo ds wo N hN hHalf hHalf2) (cwI 1 hT (TB_in1 mw5_9) rfl rfl rfl (hT _ mw2_18) (hT _ mw5_7) (hT _ mw5_8) rfl (by decide +kernel) ⟨Nat.le_of_ble_eq_true rfl, Nat.le_of_ble_eq_true rfl⟩) ⟨fun a U f mk q => ⟨q.1, q.2.1, q.2.2.1, va_K.moved (u := U) (U := U.calling f mk a) (Vm.Alike.refl U.vm) q.2.2.2.1, q.2.2.2.2⟩, fun U hU hW => ⟨rfl, by rw [hU], by rw [hU]; exact hPc, va_K.moved hW.alike hK, hDc.weaken (fun _ _ _ _ => trivial)⟩⟩ rfl rfl hl.1 rfl (lv_room (Nat.le_of_ble_eq_true rfl)) dX0_init_56 ⟨by show _ ≤ 15; omega, by show _ ≤ (2 + (260) + 2 + (260) + 3 + (11 + 6) + 12 + (64 + 64 + 64 + (N / 2)) + (N / 2 + 2) + (N / 2 + 2) + (N / 2 + 2)); omega⟩) hS (fun q _ h => hFc q h) hFc (fun u t H1 locs ht hvm hw hB hz1 hk1 hS => ?_)
  obtain ⟨q9, q10, q11, q12, hP1, hD1⟩ := hB
  rw [ht] at hP1
  obtain ⟨hP, hD⟩ := va_join (wr := [(a, .inr (0, [.ref vo, .ref ds, .null, .ref q1, .ref q3, .ref q5, .null, .null, .null, .int 0])), (q1, .inr (4, [.ref q2, .int 0])), (q2, .inl (g.2.2.1 2, 260, .inl (fun _ => 0))), (q3, .inr (4, [.ref q4, .int 0])), (q4, .inl (g.2.2.1 2, 260, .inl (fun _ => 0))), (q5, .inr (5, [.ref q6, .ref q7, .int 0])), (q6, .inl (g.2.2.1 2, 11, .inl (fun _ => 0))), (q7, .inl (g.2.2.1 2, 6, .inl (fun _ => 0)))]) (w1 := [(q8, .inr (1, [.ref ds, .int 0, .int 0, .int 0, .ref vo, .ref q12, .int 0, .int 0, .int 0, .ref q9, .ref q10, .ref q11])), (vo, .inr (7, [.ref ds, .int 0, .int 0, .int (1 : Int32), .int 0, .int 0, .int 0, .int 0])), (ds, .inr (2, [.int (nI N), .ref wo])), (q9, .inl (g.2.2.1 2, 64, .inl (fun _ => 0))), (q10, .inl (g.2.2.1 2, 64, .inl (fun _ => 0))), (q11, .inl (g.2.2.1 2, 64, .inl (fun _ => 0))), (q12, .inl (g.2.2.1 2, (N / 2), .inl (fun _ => 0)))]) hP hD [10, 1, 2] [0, 3, 4, 5, 6, 7, 8, 9] rfl rfl (by decide) (by decide) hk1 hFc hP1 hD1
  clear hPc hDc hFc hP1 hD1 hk1
  generalize H1 = H at hP hS ⊢
  have hP : va_P (gD g) vwCl [(a, .inr (0, [.ref vo, .ref ds, .null, .ref q1, .ref q3, .ref q5, .null, .null, .null, .int 0])), (q1, .inr (4, [.ref q2, .int 0])), (q2, .inl (g.2.2.1 2, 260, .inl (fun _ => 0))), (q3, .inr (4, [.ref q4, .int 0])), (q4, .inl (g.2.2.1 2, 260, .inl (fun _ => 0))), (q5, .inr (5, [.ref q6, .ref q7, .int 0])), (q6, .inl (g.2.2.1 2, 11, .inl (fun _ => 0))), (q7, .inl (g.2.2.1 2, 6, .inl (fun _ => 0))), (q8, .inr (1, [.ref ds, .int 0, .int 0, .int 0, .ref vo, .ref q12, .int 0, .int 0, .int 0, .ref q9, .ref q10, .ref q11])), (vo, .inr (7, [.ref ds, .int 0, .int 0, .int (1 : Int32), .int 0, .int 0, .int 0, .int 0])), (ds, .inr (2, [.int (nI N), .ref wo])), (q9, .inl (g.2.2.1 2, 64, .inl (fun _ => 0))), (q10, .inl (g.2.2.1 2, 64, .inl (fun _ => 0))), (q11, .inl (g.2.2.1 2, 64, .inl (fun _ => 0))), (q12, .inl (g.2.2.1 2, (N / 2), .inl (fun _ => 0)))] H := hP
  have hD : va_D A [(a, .inr (0, [.ref vo, .ref ds, .null, .ref q1, .ref q3, .ref q5, .null, .null, .null, .int 0])), (q1, .inr (4, [.ref q2, .int 0])), (q2, .inl (g.2.2.1 2, 260, .inl (fun _ => 0))), (q3, .inr (4, [.ref q4, .int 0])), (q4, .inl (g.2.2.1 2, 260, .inl (fun _ => 0))), (q5, .inr (5, [.ref q6, .ref q7, .int 0])), (q6, .inl (g.2.2.1 2, 11, .inl (fun _ => 0))), (q7, .inl (g.2.2.1 2, 6, .inl (fun _ => 0))), (q8, .inr (1, [.ref ds, .int 0, .int 0, .int 0, .ref vo, .ref q12, .int 0, .int 0, .int 0, .ref q9, .ref q10, .ref q11])), (vo, .inr (7, [.ref ds, .int 0, .int 0, .int (1 : Int32), .int 0, .int 0, .int 0, .int 0])), (ds, .inr (2, [.int (nI N), .ref wo])), (q9, .inl (g.2.2.1 2, 64, .inl (fun _ => 0))), (q10, .inl (g.2.2.1 2, 64, .inl (fun _ => 0))), (q11, .inl (g.2.2.1 2, 64, .inl (fun _ => 0))), (q12, .inl (g.2.2.1 2, (N / 2), .inl (fun _ => 0)))] := hD
  refine va_putF (ci := 0) (v := .ref q8) (ty := .object "TableVolumes$Directory") (C := RX0) (T := TX0) (N := 10) hx hb hT inTX00 tyX0 tyX0_ok nmX0 hown hK hP hD hS 0 rfl rfl 2 (by decide) (hT _ mw4_16) (fun _ h => h) rfl hinit rfl (by decide +kernel) rfl rfl (Nat.le_of_ble_eq_true rfl) dX0_init_59 (fun H locs hP hD hS => ?_)
  have hP : va_P (gD g) vwCl [(a, .inr (0, [.ref vo, .ref ds, .ref q8, .ref q1, .ref q3, .ref q5, .null, .null, .null, .int 0])), (q1, .inr (4, [.ref q2, .int 0])), (q2, .inl (g.2.2.1 2, 260, .inl (fun _ => 0))), (q3, .inr (4, [.ref q4, .int 0])), (q4, .inl (g.2.2.1 2, 260, .inl (fun _ => 0))), (q5, .inr (5, [.ref q6, .ref q7, .int 0])), (q6, .inl (g.2.2.1 2, 11, .inl (fun _ => 0))), (q7, .inl (g.2.2.1 2, 6, .inl (fun _ => 0))), (q8, .inr (1, [.ref ds, .int 0, .int 0, .int 0, .ref vo, .ref q12, .int 0, .int 0, .int 0, .ref q9, .ref q10, .ref q11])), (vo, .inr (7, [.ref ds, .int 0, .int 0, .int (1 : Int32), .int 0, .int 0, .int 0, .int 0])), (ds, .inr (2, [.int (nI N), .ref wo])), (q9, .inl (g.2.2.1 2, 64, .inl (fun _ => 0))), (q10, .inl (g.2.2.1 2, 64, .inl (fun _ => 0))), (q11, .inl (g.2.2.1 2, 64, .inl (fun _ => 0))), (q12, .inl (g.2.2.1 2, (N / 2), .inl (fun _ => 0)))] H := hP
  have hD : va_D A [(a, .inr (0, [.ref vo, .ref ds, .ref q8, .ref q1, .ref q3, .ref q5, .null, .null, .null, .int 0])), (q1, .inr (4, [.ref q2, .int 0])), (q2, .inl (g.2.2.1 2, 260, .inl (fun _ => 0))), (q3, .inr (4, [.ref q4, .int 0])), (q4, .inl (g.2.2.1 2, 260, .inl (fun _ => 0))), (q5, .inr (5, [.ref q6, .ref q7, .int 0])), (q6, .inl (g.2.2.1 2, 11, .inl (fun _ => 0))), (q7, .inl (g.2.2.1 2, 6, .inl (fun _ => 0))), (q8, .inr (1, [.ref ds, .int 0, .int 0, .int 0, .ref vo, .ref q12, .int 0, .int 0, .int 0, .ref q9, .ref q10, .ref q11])), (vo, .inr (7, [.ref ds, .int 0, .int 0, .int (1 : Int32), .int 0, .int 0, .int 0, .int 0])), (ds, .inr (2, [.int (nI N), .ref wo])), (q9, .inl (g.2.2.1 2, 64, .inl (fun _ => 0))), (q10, .inl (g.2.2.1 2, 64, .inl (fun _ => 0))), (q11, .inl (g.2.2.1 2, 64, .inl (fun _ => 0))), (q12, .inl (g.2.2.1 2, (N / 2), .inl (fun _ => 0)))] := hD
  refine lv_aload_n hx hb dX0_init_62 rfl (lv_at hl 0 rfl) ?_
  refine lv_aload_n hx hb dX0_init_63 rfl (lv_at hl 0 rfl) ?_
  refine va_get (ci := 0) (v := .ref ds) (C := RX0) (T := TX0) (N := 10) hx hb hT inTX00 hown hK hP 0 rfl rfl 1 (by decide) (hT _ mw4_14) (fun _ h => h) rfl dX0_init_64 ?_
  refine va_get (ci := 2) (v := .int (nI N)) (C := RX3) (T := TX3) (N := 2) hx hb hT inTX30 hown hK hP 10 rfl rfl 0 (by decide) (hT _ mw4_17) (fun _ h => h) rfl dX0_init_67 ?_
  refine lv_iconst (v := (2 : Int32)) hx hb dX0_init_70 (by decide) ?_
  refine lv_idiv hx hb dX0_init_71 (by decide) ?_
  refine lv_iconst (v := (2 : Int32)) hx hb dX0_init_72 (by decide) ?_
  refine lv_iadd hx hb dX0_init_73 ?_
  refine nw_3 (N := (N / 2 + 2)) hx hb hT hK hP hD hS hA hHalf2 (by omega) (by show _ ≤ 15; omega) (by show _ ≤ (2 + (260) + 2 + (260) + 3 + (11 + 6) + 12 + (64 + 64 + 64 + (N / 2)) + (N / 2 + 2) + (N / 2 + 2) + (N / 2 + 2)); omega) dX0_init_74 (fun q13 H hP hD hS => ?_)
  have hP : va_P (gD g) vwCl [(a, .inr (0, [.ref vo, .ref ds, .ref q8, .ref q1, .ref q3, .ref q5, .null, .null, .null, .int 0])), (q1, .inr (4, [.ref q2, .int 0])), (q2, .inl (g.2.2.1 2, 260, .inl (fun _ => 0))), (q3, .inr (4, [.ref q4, .int 0])), (q4, .inl (g.2.2.1 2, 260, .inl (fun _ => 0))), (q5, .inr (5, [.ref q6, .ref q7, .int 0])), (q6, .inl (g.2.2.1 2, 11, .inl (fun _ => 0))), (q7, .inl (g.2.2.1 2, 6, .inl (fun _ => 0))), (q8, .inr (1, [.ref ds, .int 0, .int 0, .int 0, .ref vo, .ref q12, .int 0, .int 0, .int 0, .ref q9, .ref q10, .ref q11])), (vo, .inr (7, [.ref ds, .int 0, .int 0, .int (1 : Int32), .int 0, .int 0, .int 0, .int 0])), (ds, .inr (2, [.int (nI N), .ref wo])), (q9, .inl (g.2.2.1 2, 64, .inl (fun _ => 0))), (q10, .inl (g.2.2.1 2, 64, .inl (fun _ => 0))), (q11, .inl (g.2.2.1 2, 64, .inl (fun _ => 0))), (q12, .inl (g.2.2.1 2, (N / 2), .inl (fun _ => 0))), (q13, .inl (g.2.2.1 3, (N / 2 + 2), .inl (fun _ => 0)))] H := hP
  have hD : va_D A [(a, .inr (0, [.ref vo, .ref ds, .ref q8, .ref q1, .ref q3, .ref q5, .null, .null, .null, .int 0])), (q1, .inr (4, [.ref q2, .int 0])), (q2, .inl (g.2.2.1 2, 260, .inl (fun _ => 0))), (q3, .inr (4, [.ref q4, .int 0])), (q4, .inl (g.2.2.1 2, 260, .inl (fun _ => 0))), (q5, .inr (5, [.ref q6, .ref q7, .int 0])), (q6, .inl (g.2.2.1 2, 11, .inl (fun _ => 0))), (q7, .inl (g.2.2.1 2, 6, .inl (fun _ => 0))), (q8, .inr (1, [.ref ds, .int 0, .int 0, .int 0, .ref vo, .ref q12, .int 0, .int 0, .int 0, .ref q9, .ref q10, .ref q11])), (vo, .inr (7, [.ref ds, .int 0, .int 0, .int (1 : Int32), .int 0, .int 0, .int 0, .int 0])), (ds, .inr (2, [.int (nI N), .ref wo])), (q9, .inl (g.2.2.1 2, 64, .inl (fun _ => 0))), (q10, .inl (g.2.2.1 2, 64, .inl (fun _ => 0))), (q11, .inl (g.2.2.1 2, 64, .inl (fun _ => 0))), (q12, .inl (g.2.2.1 2, (N / 2), .inl (fun _ => 0))), (q13, .inl (g.2.2.1 3, (N / 2 + 2), .inl (fun _ => 0)))] := hD
  refine va_putF (ci := 0) (v := .ref q13) (ty := .array .boolean) (C := RX0) (T := TX0) (N := 10) hx hb hT inTX00 tyX0 tyX0_ok nmX0 hown hK hP hD hS 0 rfl rfl 6 (by decide) (hT _ mw4_19) (fun _ h => h) rfl hinit rfl (by decide +kernel) rfl rfl (Nat.le_of_ble_eq_true rfl) dX0_init_76 (fun H locs hP hD hS => ?_)
  have hP : va_P (gD g) vwCl [(a, .inr (0, [.ref vo, .ref ds, .ref q8, .ref q1, .ref q3, .ref q5, .ref q13, .null, .null, .int 0])), (q1, .inr (4, [.ref q2, .int 0])), (q2, .inl (g.2.2.1 2, 260, .inl (fun _ => 0))), (q3, .inr (4, [.ref q4, .int 0])), (q4, .inl (g.2.2.1 2, 260, .inl (fun _ => 0))), (q5, .inr (5, [.ref q6, .ref q7, .int 0])), (q6, .inl (g.2.2.1 2, 11, .inl (fun _ => 0))), (q7, .inl (g.2.2.1 2, 6, .inl (fun _ => 0))), (q8, .inr (1, [.ref ds, .int 0, .int 0, .int 0, .ref vo, .ref q12, .int 0, .int 0, .int 0, .ref q9, .ref q10, .ref q11])), (vo, .inr (7, [.ref ds, .int 0, .int 0, .int (1 : Int32), .int 0, .int 0, .int 0, .int 0])), (ds, .inr (2, [.int (nI N), .ref wo])), (q9, .inl (g.2.2.1 2, 64, .inl (fun _ => 0))), (q10, .inl (g.2.2.1 2, 64, .inl (fun _ => 0))), (q11, .inl (g.2.2.1 2, 64, .inl (fun _ => 0))), (q12, .inl (g.2.2.1 2, (N / 2), .inl (fun _ => 0))), (q13, .inl (g.2.2.1 3, (N / 2 + 2), .inl (fun _ => 0)))] H := hP
  have hD : va_D A [(a, .inr (0, [.ref vo, .ref ds, .ref q8, .ref q1, .ref q3, .ref q5, .ref q13, .null, .null, .int 0])), (q1, .inr (4, [.ref q2, .int 0])), (q2, .inl (g.2.2.1 2, 260, .inl (fun _ => 0))), (q3, .inr (4, [.ref q4, .int 0])), (q4, .inl (g.2.2.1 2, 260, .inl (fun _ => 0))), (q5, .inr (5, [.ref q6, .ref q7, .int 0])), (q6, .inl (g.2.2.1 2, 11, .inl (fun _ => 0))), (q7, .inl (g.2.2.1 2, 6, .inl (fun _ => 0))), (q8, .inr (1, [.ref ds, .int 0, .int 0, .int 0, .ref vo, .ref q12, .int 0, .int 0, .int 0, .ref q9, .ref q10, .ref q11])), (vo, .inr (7, [.ref ds, .int 0, .int 0, .int (1 : Int32), .int 0, .int 0, .int 0, .int 0])), (ds, .inr (2, [.int (nI N), .ref wo])), (q9, .inl (g.2.2.1 2, 64, .inl (fun _ => 0))), (q10, .inl (g.2.2.1 2, 64, .inl (fun _ => 0))), (q11, .inl (g.2.2.1 2, 64, .inl (fun _ => 0))), (q12, .inl (g.2.2.1 2, (N / 2), .inl (fun _ => 0))), (q13, .inl (g.2.2.1 3, (N / 2 + 2), .inl (fun _ => 0)))] := hD
  refine lv_aload_n hx hb dX0_init_79 rfl (lv_at hl 0 rfl) ?_
  refine lv_aload_n hx hb dX0_init_80 rfl (lv_at hl 0 rfl) ?_
  refine va_get (ci := 0) (v := .ref ds) (C := RX0) (T := TX0) (N := 10) hx hb hT inTX00 hown hK hP 0 rfl rfl 1 (by decide) (hT _ mw4_14) (fun _ h => h) rfl dX0_init_81 ?_
  refine va_get (ci := 2) (v := .int (nI N)) (C := RX3) (T := TX3) (N := 2) hx hb hT inTX30 hown hK hP 10 rfl rfl 0 (by decide) (hT _ mw4_17) (fun _ h => h) rfl dX0_init_84 ?_
  refine lv_iconst (v := (2 : Int32)) hx hb dX0_init_87 (by decide) ?_
  refine lv_idiv hx hb dX0_init_88 (by decide) ?_
  refine lv_iconst (v := (2 : Int32)) hx hb dX0_init_89 (by decide) ?_
  refine lv_iadd hx hb dX0_init_90 ?_
  refine nw_2 (N := (N / 2 + 2)) hx hb hT hK hP hD hS hA hHalf2 (by omega) (by show _ ≤ 15; omega) (by show _ ≤ (2 + (260) + 2 + (260) + 3 + (11 + 6) + 12 + (64 + 64 + 64 + (N / 2)) + (N / 2 + 2) + (N / 2 + 2) + (N / 2 + 2)); omega) dX0_init_91 (fun q14 H hP hD hS => ?_)
  have hP : va_P (gD g) vwCl [(a, .inr (0, [.ref vo, .ref ds, .ref q8, .ref q1, .ref q3, .ref q5, .ref q13, .null, .null, .int 0])), (q1, .inr (4, [.ref q2, .int 0])), (q2, .inl (g.2.2.1 2, 260, .inl (fun _ => 0))), (q3, .inr (4, [.ref q4, .int 0])), (q4, .inl (g.2.2.1 2, 260, .inl (fun _ => 0))), (q5, .inr (5, [.ref q6, .ref q7, .int 0])), (q6, .inl (g.2.2.1 2, 11, .inl (fun _ => 0))), (q7, .inl (g.2.2.1 2, 6, .inl (fun _ => 0))), (q8, .inr (1, [.ref ds, .int 0, .int 0, .int 0, .ref vo, .ref q12, .int 0, .int 0, .int 0, .ref q9, .ref q10, .ref q11])), (vo, .inr (7, [.ref ds, .int 0, .int 0, .int (1 : Int32), .int 0, .int 0, .int 0, .int 0])), (ds, .inr (2, [.int (nI N), .ref wo])), (q9, .inl (g.2.2.1 2, 64, .inl (fun _ => 0))), (q10, .inl (g.2.2.1 2, 64, .inl (fun _ => 0))), (q11, .inl (g.2.2.1 2, 64, .inl (fun _ => 0))), (q12, .inl (g.2.2.1 2, (N / 2), .inl (fun _ => 0))), (q13, .inl (g.2.2.1 3, (N / 2 + 2), .inl (fun _ => 0))), (q14, .inl (g.2.2.1 2, (N / 2 + 2), .inl (fun _ => 0)))] H := hP
  have hD : va_D A [(a, .inr (0, [.ref vo, .ref ds, .ref q8, .ref q1, .ref q3, .ref q5, .ref q13, .null, .null, .int 0])), (q1, .inr (4, [.ref q2, .int 0])), (q2, .inl (g.2.2.1 2, 260, .inl (fun _ => 0))), (q3, .inr (4, [.ref q4, .int 0])), (q4, .inl (g.2.2.1 2, 260, .inl (fun _ => 0))), (q5, .inr (5, [.ref q6, .ref q7, .int 0])), (q6, .inl (g.2.2.1 2, 11, .inl (fun _ => 0))), (q7, .inl (g.2.2.1 2, 6, .inl (fun _ => 0))), (q8, .inr (1, [.ref ds, .int 0, .int 0, .int 0, .ref vo, .ref q12, .int 0, .int 0, .int 0, .ref q9, .ref q10, .ref q11])), (vo, .inr (7, [.ref ds, .int 0, .int 0, .int (1 : Int32), .int 0, .int 0, .int 0, .int 0])), (ds, .inr (2, [.int (nI N), .ref wo])), (q9, .inl (g.2.2.1 2, 64, .inl (fun _ => 0))), (q10, .inl (g.2.2.1 2, 64, .inl (fun _ => 0))), (q11, .inl (g.2.2.1 2, 64, .inl (fun _ => 0))), (q12, .inl (g.2.2.1 2, (N / 2), .inl (fun _ => 0))), (q13, .inl (g.2.2.1 3, (N / 2 + 2), .inl (fun _ => 0))), (q14, .inl (g.2.2.1 2, (N / 2 + 2), .inl (fun _ => 0)))] := hD
  refine va_putF (ci := 0) (v := .ref q14) (ty := .array .int) (C := RX0) (T := TX0) (N := 10) hx hb hT inTX00 tyX0 tyX0_ok nmX0 hown hK hP hD hS 0 rfl rfl 7 (by decide) (hT _ mw4_20) (fun _ h => h) rfl hinit rfl (by decide +kernel) rfl rfl (Nat.le_of_ble_eq_true rfl) dX0_init_93 (fun H locs hP hD hS => ?_)
  have hP : va_P (gD g) vwCl [(a, .inr (0, [.ref vo, .ref ds, .ref q8, .ref q1, .ref q3, .ref q5, .ref q13, .ref q14, .null, .int 0])), (q1, .inr (4, [.ref q2, .int 0])), (q2, .inl (g.2.2.1 2, 260, .inl (fun _ => 0))), (q3, .inr (4, [.ref q4, .int 0])), (q4, .inl (g.2.2.1 2, 260, .inl (fun _ => 0))), (q5, .inr (5, [.ref q6, .ref q7, .int 0])), (q6, .inl (g.2.2.1 2, 11, .inl (fun _ => 0))), (q7, .inl (g.2.2.1 2, 6, .inl (fun _ => 0))), (q8, .inr (1, [.ref ds, .int 0, .int 0, .int 0, .ref vo, .ref q12, .int 0, .int 0, .int 0, .ref q9, .ref q10, .ref q11])), (vo, .inr (7, [.ref ds, .int 0, .int 0, .int (1 : Int32), .int 0, .int 0, .int 0, .int 0])), (ds, .inr (2, [.int (nI N), .ref wo])), (q9, .inl (g.2.2.1 2, 64, .inl (fun _ => 0))), (q10, .inl (g.2.2.1 2, 64, .inl (fun _ => 0))), (q11, .inl (g.2.2.1 2, 64, .inl (fun _ => 0))), (q12, .inl (g.2.2.1 2, (N / 2), .inl (fun _ => 0))), (q13, .inl (g.2.2.1 3, (N / 2 + 2), .inl (fun _ => 0))), (q14, .inl (g.2.2.1 2, (N / 2 + 2), .inl (fun _ => 0)))] H := hP
  have hD : va_D A [(a, .inr (0, [.ref vo, .ref ds, .ref q8, .ref q1, .ref q3, .ref q5, .ref q13, .ref q14, .null, .int 0])), (q1, .inr (4, [.ref q2, .int 0])), (q2, .inl (g.2.2.1 2, 260, .inl (fun _ => 0))), (q3, .inr (4, [.ref q4, .int 0])), (q4, .inl (g.2.2.1 2, 260, .inl (fun _ => 0))), (q5, .inr (5, [.ref q6, .ref q7, .int 0])), (q6, .inl (g.2.2.1 2, 11, .inl (fun _ => 0))), (q7, .inl (g.2.2.1 2, 6, .inl (fun _ => 0))), (q8, .inr (1, [.ref ds, .int 0, .int 0, .int 0, .ref vo, .ref q12, .int 0, .int 0, .int 0, .ref q9, .ref q10, .ref q11])), (vo, .inr (7, [.ref ds, .int 0, .int 0, .int (1 : Int32), .int 0, .int 0, .int 0, .int 0])), (ds, .inr (2, [.int (nI N), .ref wo])), (q9, .inl (g.2.2.1 2, 64, .inl (fun _ => 0))), (q10, .inl (g.2.2.1 2, 64, .inl (fun _ => 0))), (q11, .inl (g.2.2.1 2, 64, .inl (fun _ => 0))), (q12, .inl (g.2.2.1 2, (N / 2), .inl (fun _ => 0))), (q13, .inl (g.2.2.1 3, (N / 2 + 2), .inl (fun _ => 0))), (q14, .inl (g.2.2.1 2, (N / 2 + 2), .inl (fun _ => 0)))] := hD
  refine lv_aload_n hx hb dX0_init_96 rfl (lv_at hl 0 rfl) ?_
  refine lv_aload_n hx hb dX0_init_97 rfl (lv_at hl 0 rfl) ?_
  refine va_get (ci := 0) (v := .ref ds) (C := RX0) (T := TX0) (N := 10) hx hb hT inTX00 hown hK hP 0 rfl rfl 1 (by decide) (hT _ mw4_14) (fun _ h => h) rfl dX0_init_98 ?_
  refine va_get (ci := 2) (v := .int (nI N)) (C := RX3) (T := TX3) (N := 2) hx hb hT inTX30 hown hK hP 10 rfl rfl 0 (by decide) (hT _ mw4_17) (fun _ h => h) rfl dX0_init_101 ?_
  refine lv_iconst (v := (2 : Int32)) hx hb dX0_init_104 (by decide) ?_
  refine lv_idiv hx hb dX0_init_105 (by decide) ?_
  refine lv_iconst (v := (2 : Int32)) hx hb dX0_init_106 (by decide) ?_
  refine lv_iadd hx hb dX0_init_107 ?_
  refine nw_2 (N := (N / 2 + 2)) hx hb hT hK hP hD hS hA hHalf2 (by omega) (by show _ ≤ 15; omega) (by show _ ≤ (2 + (260) + 2 + (260) + 3 + (11 + 6) + 12 + (64 + 64 + 64 + (N / 2)) + (N / 2 + 2) + (N / 2 + 2) + (N / 2 + 2)); omega) dX0_init_108 (fun q15 H hP hD hS => ?_)
  have hP : va_P (gD g) vwCl [(a, .inr (0, [.ref vo, .ref ds, .ref q8, .ref q1, .ref q3, .ref q5, .ref q13, .ref q14, .null, .int 0])), (q1, .inr (4, [.ref q2, .int 0])), (q2, .inl (g.2.2.1 2, 260, .inl (fun _ => 0))), (q3, .inr (4, [.ref q4, .int 0])), (q4, .inl (g.2.2.1 2, 260, .inl (fun _ => 0))), (q5, .inr (5, [.ref q6, .ref q7, .int 0])), (q6, .inl (g.2.2.1 2, 11, .inl (fun _ => 0))), (q7, .inl (g.2.2.1 2, 6, .inl (fun _ => 0))), (q8, .inr (1, [.ref ds, .int 0, .int 0, .int 0, .ref vo, .ref q12, .int 0, .int 0, .int 0, .ref q9, .ref q10, .ref q11])), (vo, .inr (7, [.ref ds, .int 0, .int 0, .int (1 : Int32), .int 0, .int 0, .int 0, .int 0])), (ds, .inr (2, [.int (nI N), .ref wo])), (q9, .inl (g.2.2.1 2, 64, .inl (fun _ => 0))), (q10, .inl (g.2.2.1 2, 64, .inl (fun _ => 0))), (q11, .inl (g.2.2.1 2, 64, .inl (fun _ => 0))), (q12, .inl (g.2.2.1 2, (N / 2), .inl (fun _ => 0))), (q13, .inl (g.2.2.1 3, (N / 2 + 2), .inl (fun _ => 0))), (q14, .inl (g.2.2.1 2, (N / 2 + 2), .inl (fun _ => 0))), (q15, .inl (g.2.2.1 2, (N / 2 + 2), .inl (fun _ => 0)))] H := hP
  have hD : va_D A [(a, .inr (0, [.ref vo, .ref ds, .ref q8, .ref q1, .ref q3, .ref q5, .ref q13, .ref q14, .null, .int 0])), (q1, .inr (4, [.ref q2, .int 0])), (q2, .inl (g.2.2.1 2, 260, .inl (fun _ => 0))), (q3, .inr (4, [.ref q4, .int 0])), (q4, .inl (g.2.2.1 2, 260, .inl (fun _ => 0))), (q5, .inr (5, [.ref q6, .ref q7, .int 0])), (q6, .inl (g.2.2.1 2, 11, .inl (fun _ => 0))), (q7, .inl (g.2.2.1 2, 6, .inl (fun _ => 0))), (q8, .inr (1, [.ref ds, .int 0, .int 0, .int 0, .ref vo, .ref q12, .int 0, .int 0, .int 0, .ref q9, .ref q10, .ref q11])), (vo, .inr (7, [.ref ds, .int 0, .int 0, .int (1 : Int32), .int 0, .int 0, .int 0, .int 0])), (ds, .inr (2, [.int (nI N), .ref wo])), (q9, .inl (g.2.2.1 2, 64, .inl (fun _ => 0))), (q10, .inl (g.2.2.1 2, 64, .inl (fun _ => 0))), (q11, .inl (g.2.2.1 2, 64, .inl (fun _ => 0))), (q12, .inl (g.2.2.1 2, (N / 2), .inl (fun _ => 0))), (q13, .inl (g.2.2.1 3, (N / 2 + 2), .inl (fun _ => 0))), (q14, .inl (g.2.2.1 2, (N / 2 + 2), .inl (fun _ => 0))), (q15, .inl (g.2.2.1 2, (N / 2 + 2), .inl (fun _ => 0)))] := hD
  refine va_putF (ci := 0) (v := .ref q15) (ty := .array .int) (C := RX0) (T := TX0) (N := 10) hx hb hT inTX00 tyX0 tyX0_ok nmX0 hown hK hP hD hS 0 rfl rfl 8 (by decide) (hT _ mw4_21) (fun _ h => h) rfl hinit rfl (by decide +kernel) rfl rfl (Nat.le_of_ble_eq_true rfl) dX0_init_110 (fun H locs hP hD hS => ?_)
  have hP : va_P (gD g) vwCl [(a, .inr (0, [.ref vo, .ref ds, .ref q8, .ref q1, .ref q3, .ref q5, .ref q13, .ref q14, .ref q15, .int 0])), (q1, .inr (4, [.ref q2, .int 0])), (q2, .inl (g.2.2.1 2, 260, .inl (fun _ => 0))), (q3, .inr (4, [.ref q4, .int 0])), (q4, .inl (g.2.2.1 2, 260, .inl (fun _ => 0))), (q5, .inr (5, [.ref q6, .ref q7, .int 0])), (q6, .inl (g.2.2.1 2, 11, .inl (fun _ => 0))), (q7, .inl (g.2.2.1 2, 6, .inl (fun _ => 0))), (q8, .inr (1, [.ref ds, .int 0, .int 0, .int 0, .ref vo, .ref q12, .int 0, .int 0, .int 0, .ref q9, .ref q10, .ref q11])), (vo, .inr (7, [.ref ds, .int 0, .int 0, .int (1 : Int32), .int 0, .int 0, .int 0, .int 0])), (ds, .inr (2, [.int (nI N), .ref wo])), (q9, .inl (g.2.2.1 2, 64, .inl (fun _ => 0))), (q10, .inl (g.2.2.1 2, 64, .inl (fun _ => 0))), (q11, .inl (g.2.2.1 2, 64, .inl (fun _ => 0))), (q12, .inl (g.2.2.1 2, (N / 2), .inl (fun _ => 0))), (q13, .inl (g.2.2.1 3, (N / 2 + 2), .inl (fun _ => 0))), (q14, .inl (g.2.2.1 2, (N / 2 + 2), .inl (fun _ => 0))), (q15, .inl (g.2.2.1 2, (N / 2 + 2), .inl (fun _ => 0)))] H := hP
  have hD : va_D A [(a, .inr (0, [.ref vo, .ref ds, .ref q8, .ref q1, .ref q3, .ref q5, .ref q13, .ref q14, .ref q15, .int 0])), (q1, .inr (4, [.ref q2, .int 0])), (q2, .inl (g.2.2.1 2, 260, .inl (fun _ => 0))), (q3, .inr (4, [.ref q4, .int 0])), (q4, .inl (g.2.2.1 2, 260, .inl (fun _ => 0))), (q5, .inr (5, [.ref q6, .ref q7, .int 0])), (q6, .inl (g.2.2.1 2, 11, .inl (fun _ => 0))), (q7, .inl (g.2.2.1 2, 6, .inl (fun _ => 0))), (q8, .inr (1, [.ref ds, .int 0, .int 0, .int 0, .ref vo, .ref q12, .int 0, .int 0, .int 0, .ref q9, .ref q10, .ref q11])), (vo, .inr (7, [.ref ds, .int 0, .int 0, .int (1 : Int32), .int 0, .int 0, .int 0, .int 0])), (ds, .inr (2, [.int (nI N), .ref wo])), (q9, .inl (g.2.2.1 2, 64, .inl (fun _ => 0))), (q10, .inl (g.2.2.1 2, 64, .inl (fun _ => 0))), (q11, .inl (g.2.2.1 2, 64, .inl (fun _ => 0))), (q12, .inl (g.2.2.1 2, (N / 2), .inl (fun _ => 0))), (q13, .inl (g.2.2.1 3, (N / 2 + 2), .inl (fun _ => 0))), (q14, .inl (g.2.2.1 2, (N / 2 + 2), .inl (fun _ => 0))), (q15, .inl (g.2.2.1 2, (N / 2 + 2), .inl (fun _ => 0)))] := hD
  refine W.widen (k := 15) (n := (2 + (260) + 2 + (260) + 3 + (11 + 6) + 12 + (64 + 64 + 64 + (N / 2)) + (N / 2 + 2) + (N / 2 + 2) + (N / 2 + 2))) (by omega) (by omega) ?_
  exact W.vret hx hb hr (fun t ht _ => ⟨⟨(), rfl, trivial, q1, q2, q3, q4, q5, q6, q7, q8, q9, q10, q11, q12, q13, q14, q15, by rw [ht]; exact hP, hD⟩, hS.F ht⟩) hS.2.2 dX0_init_113
