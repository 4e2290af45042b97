def WF (g : GT) (ad rd : Nat → Nat) (ln : LN) (fe : Nat) (q1 q2 : Value) (fi : FI) (ar : AR) : va_W := WC g ad rd ln fi ar ++ [(fe, .inr (3, [q1, q2, .int (fi 80), .int (fi 81), .int (fi 82)]))]
def AF (ad rd : Nat → Nat) (fe : Nat) (sz : Nat) : Nat → Prop := fun q => q ∈ acL ad rd ++ [fe] ∨ sz ≤ q
theorem wf_len {g : GT} {ad rd : Nat → Nat} {ln : LN} {fi : FI} {ar : AR} : (WC g ad rd ln fi ar).length = 40 := rfl
theorem wf_map {g : GT} {ad rd : Nat → Nat} {ln : LN} {fe : Nat} {q1 q2 : Value} {fi : FI} {ar : AR} : (WF g ad rd ln fe q1 q2 fi ar).map (fun q => q.1) = acL ad rd ++ [fe] := rfl
theorem wf_in {g : GT} {ad rd : Nat → Nat} {ln : LN} {fe : Nat} {q1 q2 : Value} {fi : FI} {ar : AR} {k : Nat} {c : Nat × va_E} (h : (WC g ad rd ln fi ar)[k]? = some c) : (WF g ad rd ln fe q1 q2 fi ar)[k]? = some c := by
  unfold WF
  rw [List.getElem?_append_left (List.getElem?_eq_some_iff.mp h).1]
  exact h
theorem wf_at {g : GT} {ad rd : Nat → Nat} {ln : LN} {fe : Nat} {q1 q2 : Value} {fi : FI} {ar : AR} : (WF g ad rd ln fe q1 q2 fi ar)[40]? = some (fe, .inr (3, [q1, q2, .int (fi 80), .int (fi 81), .int (fi 82)])) := rfl
theorem va_P.wc {g : GT} {ad rd : Nat → Nat} {ln : LN} {fe : Nat} {q1 q2 : Value} {fi : FI} {ar : AR} {H : Heap} (h : va_P (gD g) vwCl (WF g ad rd ln fe q1 q2 fi ar) H) : va_P (gD g) vwCl (WC g ad rd ln fi ar) H := fun k q hk => h k q (wf_in hk)
theorem va_D.wc {A : Nat → Prop} {g : GT} {ad rd : Nat → Nat} {ln : LN} {fe : Nat} {q1 q2 : Value} {fi : FI} {ar : AR} (h : va_D A (WF g ad rd ln fe q1 q2 fi ar)) : va_D A (WC g ad rd ln fi ar) := ⟨fun i j x y hi hj e => h.1 i j x y (wf_in hi) (wf_in hj) e, fun k q hk => h.2 k q (wf_in hk)⟩
theorem dF {A : Nat → Prop} {g : GT} {ad rd : Nat → Nat} {ln : LN} {fe : Nat} {q1 q2 : Value} {fi : FI} {ar : AR} (h : va_D A (WF g ad rd ln fe q1 q2 fi ar)) (sz : Nat) : ∀ (q1 q2 : Value) (ln : LN) (fi : FI) (ar : AR), va_D (AF ad rd fe sz) (WF g ad rd ln fe q1 q2 fi ar) := fun q1 q2 ln fi ar => va_D.re h rfl (fun _ ha => Or.inl ha)
theorem dFre {A A1 : Nat → Prop} {g : GT} {ad rd : Nat → Nat} {ln : LN} {fe : Nat} {q1 q2 : Value} {fi : FI} {ar : AR} (h : va_D A1 (WF g ad rd ln fe q1 q2 fi ar)) (hA : ∀ q, A1 q → A q) : ∀ (q1 q2 : Value) (ln : LN) (fi : FI) (ar : AR), va_D A (WF g ad rd ln fe q1 q2 fi ar) := fun q3 q4 ln2 fi2 ar2 => va_D.re h rfl (fun a ha => by
  obtain ⟨c, hc, rfl⟩ := List.mem_map.mp (show a ∈ (WF g ad rd ln fe q1 q2 fi ar).map (fun q => q.1) from ha)
  obtain ⟨k, hk⟩ := List.getElem?_of_mem hc
  exact hA _ (h.2 k c hk))
theorem AF_in {A : Nat → Prop} {g : GT} {ad rd : Nat → Nat} {fe : Nat} {q1 q2 : Value} {ln : LN} {fi : FI} {ar : AR} (h : va_D A (WF g ad rd ln fe q1 q2 fi ar)) {sz sz' : Nat} (hz : sz ≤ sz') (hA : ∀ q : Nat, sz ≤ q → A q) : ∀ q, AF ad rd fe sz' q → A q := by
  intro q hq
  rcases hq with hq | hq
  · have h2 : q ∈ (WF g ad rd ln fe q1 q2 fi ar).map (fun q => q.1) := hq
    obtain ⟨c, hc, rfl⟩ := List.mem_map.mp h2
    obtain ⟨k, hk⟩ := List.getElem?_of_mem hc
    exact h.2 k c hk
  · exact hA q (Nat.le_trans hz hq)
theorem fe_out {A : Nat → Prop} {g : GT} {ad rd : Nat → Nat} {fe : Nat} {q1 q2 : Value} {ln : LN} {fi : FI} {ar : AR} {H : Heap} (h : va_D A (WF g ad rd ln fe q1 q2 fi ar)) (hP : va_P (gD g) vwCl (WF g ad rd ln fe q1 q2 fi ar) H) : fe < H.size ∧ ¬ AC ad rd H.size fe := by
  have hl := (hP 40 _ wf_at).lt
  refine ⟨hl, fun hq => ?_⟩
  rcases hq with hq | hq
  · have h2 : fe ∈ (WC g ad rd ln fi ar).map (fun q => q.1) := hq
    obtain ⟨c, hc, e⟩ := List.mem_map.mp h2
    obtain ⟨k, hk⟩ := List.getElem?_of_mem hc
    have h3 := h.1 k 40 c _ (wf_in hk) wf_at e
    have h4 := (List.getElem?_eq_some_iff.mp hk).1
    rw [wf_len] at h4
    omega
  · omega
abbrev PF (g : GT) (ad rd : Nat → Nat) (ln : LN) (fe : Nat) (q1 q2 : Value) (sz : Nat) (fi : FI) (ar : AR) : State → Prop := fun U => U.heap.size = sz ∧ va_P (gD g) vwCl (WF g ad rd ln fe q1 q2 fi ar) U.heap ∧ va_K (gD g) vwCl (tyl g) U ∧ va_D (fun _ => True) (WF g ad rd ln fe q1 q2 fi ar) ∧ EV g (AF ad rd fe sz) U U.heap
abbrev BF (g : GT) (ad rd : Nat → Nat) (ln : LN) (fe : Nat) : FI × AR → State → Prop := fun u t => va_P (gD g) vwCl (WF g ad rd ln fe (.ref (ad (6))) (.ref (ad (1))) u.1 u.2) t.heap
abbrev QFv (g : GT) (ad rd : Nat → Nat) (ln : LN) (fe : Nat) (sz : Nat) (_ : Unit) (fi' : FI) (ar' : AR) : Array Value → State → Outcome → State → Prop := va_Qv (fun (u : FI × AR) => u = (fi', ar')) (BF g ad rd ln fe) (AF ad rd fe sz)
section FELIB
variable {p : Program} {l : Launch} {e : Env} {R : Room} {s : State} {m : MethodId} {args : Array Value} {below : List Frame} {meth : Method} {c : Code} {H : Heap} {locs : List Loc} {cells slots : Nat} {Q : State → Prop}
variable {cc : ByteArray} {pc : Nat} {ls : Array Slot} {rest : List Value} {A : Nat → Prop} {g : GT} {ad rd : Nat → Nat} {ln : LN} {fi fi' : FI} {ar ar' : AR} {index fe : Nat} {own : String} {q1 q2 : Value}
theorem fg_X10_disk (hx : p.tables.exec = Jvm.exec) (hb : c.code = cc) (hT : ∀ w ∈ TB, w.before args s = true) (hown : s.vm.findClass own = some m.cls) (hK : va_K (gD g) vwCl (tyl g) s) (hP : va_P (gD g) vwCl (WF g ad rd ln fe q1 q2 fi ar) H) (hl : Cond.fieldLink own index "TableVolumes" "disk" "LTableVolumes$Disk;" ∈ TB) (hdg : decode cc pc = .ok (.getfield index, 3)) (kk : W p l e R s m args below meth c H locs cells slots Q (F0 m (pc + 3) ls (.ref (ad (1)) :: rest))) : W p l e R s m args below meth c H locs cells slots Q (F0 m pc ls (.ref (ad (0)) :: rest)) := va_get (ci := 8) (C := RX10) (T := TX10) (N := 11) hx hb hT inTX100 hown hK hP (0) (wf_in wc_X10) rfl 0 (by decide) (hT _ hl) (fun _ h => h) rfl hdg kk
theorem fg_X10_tape (hx : p.tables.exec = Jvm.exec) (hb : c.code = cc) (hT : ∀ w ∈ TB, w.before args s = true) (hown : s.vm.findClass own = some m.cls) (hK : va_K (gD g) vwCl (tyl g) s) (hP : va_P (gD g) vwCl (WF g ad rd ln fe q1 q2 fi ar) H) (hl : Cond.fieldLink own index "TableVolumes" "tape" "LTableVolumes$Tape;" ∈ TB) (hdg : decode cc pc = .ok (.getfield index, 3)) (kk : W p l e R s m args below meth c H locs cells slots Q (F0 m (pc + 3) ls (.ref (ad (3)) :: rest))) : W p l e R s m args below meth c H locs cells slots Q (F0 m pc ls (.ref (ad (0)) :: rest)) := va_get (ci := 8) (C := RX10) (T := TX10) (N := 11) hx hb hT inTX100 hown hK hP (0) (wf_in wc_X10) rfl 1 (by decide) (hT _ hl) (fun _ h => h) rfl hdg kk
theorem fg_X10_volume (hx : p.tables.exec = Jvm.exec) (hb : c.code = cc) (hT : ∀ w ∈ TB, w.before args s = true) (hown : s.vm.findClass own = some m.cls) (hK : va_K (gD g) vwCl (tyl g) s) (hP : va_P (gD g) vwCl (WF g ad rd ln fe q1 q2 fi ar) H) (hl : Cond.fieldLink own index "TableVolumes" "volume" "LTableVolumes$Volume;" ∈ TB) (hdg : decode cc pc = .ok (.getfield index, 3)) (kk : W p l e R s m args below meth c H locs cells slots Q (F0 m (pc + 3) ls (.ref (ad (6)) :: rest))) : W p l e R s m args below meth c H locs cells slots Q (F0 m pc ls (.ref (ad (0)) :: rest)) := va_get (ci := 8) (C := RX10) (T := TX10) (N := 11) hx hb hT inTX100 hown hK hP (0) (wf_in wc_X10) rfl 2 (by decide) (hT _ hl) (fun _ h => h) rfl hdg kk
theorem fg_X9_disk (hx : p.tables.exec = Jvm.exec) (hb : c.code = cc) (hT : ∀ w ∈ TB, w.before args s = true) (hown : s.vm.findClass own = some m.cls) (hK : va_K (gD g) vwCl (tyl g) s) (hP : va_P (gD g) vwCl (WF g ad rd ln fe q1 q2 fi ar) H) (hl : Cond.fieldLink own index "TableVolumes$Volume" "disk" "LTableVolumes$Disk;" ∈ TB) (hdg : decode cc pc = .ok (.getfield index, 3)) (kk : W p l e R s m args below meth c H locs cells slots Q (F0 m (pc + 3) ls (.ref (ad (1)) :: rest))) : W p l e R s m args below meth c H locs cells slots Q (F0 m pc ls (.ref (ad (6)) :: rest)) := va_get (ci := 7) (C := RX9) (T := TX9) (N := 8) hx hb hT inTX90 hown hK hP (6) (wf_in wc_X9) rfl 0 (by decide) (hT _ hl) (fun _ h => h) rfl hdg kk
theorem fg_X4_volume (hx : p.tables.exec = Jvm.exec) (hb : c.code = cc) (hT : ∀ w ∈ TB, w.before args s = true) (hown : s.vm.findClass RX4 = some m.cls) (hK : va_K (gD g) vwCl (tyl g) s) (hP : va_P (gD g) vwCl (WF g ad rd ln fe q1 q2 fi ar) H) (hl : Cond.fieldLink RX4 index "TableVolumes$FileEnd" "volume" "LTableVolumes$Volume;" ∈ TB) (hdg : decode cc pc = .ok (.getfield index, 3)) (kk : W p l e R s m args below meth c H locs cells slots Q (F0 m (pc + 3) ls (q1 :: rest))) : W p l e R s m args below meth c H locs cells slots Q (F0 m pc ls (.ref fe :: rest)) := va_get (ci := 3) (C := RX4) (T := TX4) (N := 5) hx hb hT inTX40 hown hK hP 40 wf_at rfl 0 (by decide) (hT _ hl) (fun _ h => h) rfl hdg kk
theorem fp_X4_volume {a : Nat} (hx : p.tables.exec = Jvm.exec) (hb : c.code = cc) (hT : ∀ w ∈ TB, w.before args s = true) (hown : s.vm.findClass RX4 = some m.cls) (hK : va_K (gD g) vwCl (tyl g) s) (hP : va_P (gD g) vwCl (WF g ad rd ln fe q1 q2 fi ar) H) (hD : ∀ (q1 q2 : Value) (ln : LN) (fi : FI) (ar : AR), va_D A (WF g ad rd ln fe q1 q2 fi ar)) (hS : va_S A s.heap H locs) (hl : Cond.fieldLink RX4 index "TableVolumes$FileEnd" "volume" "LTableVolumes$Volume;" ∈ TB) (hin2 : meth.name = "<init>") (hdg : decode cc pc = .ok (.putfield index, 3)) (kk : ∀ (H : Heap) (locs : List Loc), va_P (gD g) vwCl (WF g ad rd ln fe (.ref a) q2 fi ar) H → va_S A s.heap H locs → W p l e R s m args below meth c H locs cells slots Q (F0 m (pc + 3) ls rest)) : W p l e R s m args below meth c H locs cells slots Q (F0 m pc ls (.ref a :: .ref fe :: rest)) := va_putF (ci := 3) (v := .ref a) (ty := .object "TableVolumes$Volume") (C := RX4) (T := TX4) (N := 5) hx hb hT inTX40 tyX4 tyX4_ok nmX4 hown hK hP (hD _ _ _ _ _) hS 40 wf_at rfl 0 (by decide) (hT _ hl) (fun _ h => h) rfl hin2 rfl (by decide +kernel) rfl rfl (Nat.le_of_ble_eq_true rfl) hdg (fun H locs hP _ hS => kk H locs hP hS)
theorem fg_X4_disk (hx : p.tables.exec = Jvm.exec) (hb : c.code = cc) (hT : ∀ w ∈ TB, w.before args s = true) (hown : s.vm.findClass RX4 = some m.cls) (hK : va_K (gD g) vwCl (tyl g) s) (hP : va_P (gD g) vwCl (WF g ad rd ln fe q1 q2 fi ar) H) (hl : Cond.fieldLink RX4 index "TableVolumes$FileEnd" "disk" "LTableVolumes$Disk;" ∈ TB) (hdg : decode cc pc = .ok (.getfield index, 3)) (kk : W p l e R s m args below meth c H locs cells slots Q (F0 m (pc + 3) ls (q2 :: rest))) : W p l e R s m args below meth c H locs cells slots Q (F0 m pc ls (.ref fe :: rest)) := va_get (ci := 3) (C := RX4) (T := TX4) (N := 5) hx hb hT inTX40 hown hK hP 40 wf_at rfl 1 (by decide) (hT _ hl) (fun _ h => h) rfl hdg kk
theorem fp_X4_disk {a : Nat} (hx : p.tables.exec = Jvm.exec) (hb : c.code = cc) (hT : ∀ w ∈ TB, w.before args s = true) (hown : s.vm.findClass RX4 = some m.cls) (hK : va_K (gD g) vwCl (tyl g) s) (hP : va_P (gD g) vwCl (WF g ad rd ln fe q1 q2 fi ar) H) (hD : ∀ (q1 q2 : Value) (ln : LN) (fi : FI) (ar : AR), va_D A (WF g ad rd ln fe q1 q2 fi ar)) (hS : va_S A s.heap H locs) (hl : Cond.fieldLink RX4 index "TableVolumes$FileEnd" "disk" "LTableVolumes$Disk;" ∈ TB) (hin2 : meth.name = "<init>") (hdg : decode cc pc = .ok (.putfield index, 3)) (kk : ∀ (H : Heap) (locs : List Loc), va_P (gD g) vwCl (WF g ad rd ln fe q1 (.ref a) fi ar) H → va_S A s.heap H locs → W p l e R s m args below meth c H locs cells slots Q (F0 m (pc + 3) ls rest)) : W p l e R s m args below meth c H locs cells slots Q (F0 m pc ls (.ref a :: .ref fe :: rest)) := va_putF (ci := 3) (v := .ref a) (ty := .object "TableVolumes$Disk") (C := RX4) (T := TX4) (N := 5) hx hb hT inTX40 tyX4 tyX4_ok nmX4 hown hK hP (hD _ _ _ _ _) hS 40 wf_at rfl 1 (by decide) (hT _ hl) (fun _ h => h) rfl hin2 rfl (by decide +kernel) rfl rfl (Nat.le_of_ble_eq_true rfl) hdg (fun H locs hP _ hS => kk H locs hP hS)
theorem fg_X4_cluster (hx : p.tables.exec = Jvm.exec) (hb : c.code = cc) (hT : ∀ w ∈ TB, w.before args s = true) (hown : s.vm.findClass RX4 = some m.cls) (hK : va_K (gD g) vwCl (tyl g) s) (hP : va_P (gD g) vwCl (WF g ad rd ln fe q1 q2 fi ar) H) (hl : Cond.fieldLink RX4 index "TableVolumes$FileEnd" "cluster" "I" ∈ TB) (hdg : decode cc pc = .ok (.getfield index, 3)) (kk : W p l e R s m args below meth c H locs cells slots Q (F0 m (pc + 3) ls (.int (fi 80) :: rest))) : W p l e R s m args below meth c H locs cells slots Q (F0 m pc ls (.ref fe :: rest)) := va_get (ci := 3) (C := RX4) (T := TX4) (N := 5) hx hb hT inTX40 hown hK hP 40 wf_at rfl 2 (by decide) (hT _ hl) (fun _ h => h) rfl hdg kk
theorem fp_X4_cluster {x : Int32} (hx : p.tables.exec = Jvm.exec) (hb : c.code = cc) (hT : ∀ w ∈ TB, w.before args s = true) (hown : s.vm.findClass RX4 = some m.cls) (hK : va_K (gD g) vwCl (tyl g) s) (hP : va_P (gD g) vwCl (WF g ad rd ln fe q1 q2 fi ar) H) (hD : ∀ (q1 q2 : Value) (ln : LN) (fi : FI) (ar : AR), va_D A (WF g ad rd ln fe q1 q2 fi ar)) (hS : va_S A s.heap H locs) (hl : Cond.fieldLink RX4 index "TableVolumes$FileEnd" "cluster" "I" ∈ TB) (hdg : decode cc pc = .ok (.putfield index, 3)) (kk : ∀ (H : Heap) (locs : List Loc), va_P (gD g) vwCl (WF g ad rd ln fe q1 q2 (va_up fi 80 x) ar) H → va_S A s.heap H locs → W p l e R s m args below meth c H locs cells slots Q (F0 m (pc + 3) ls rest)) : W p l e R s m args below meth c H locs cells slots Q (F0 m pc ls (.int x :: .ref fe :: rest)) := va_put (ci := 3) (v := .int x) (ty := .int) (C := RX4) (T := TX4) (N := 5) hx hb hT inTX40 tyX4 tyX4_ok nmX4 hown hK hP (hD _ _ _ _ _) hS 40 wf_at rfl 2 (by decide) (hT _ hl) (fun _ h => h) rfl (by decide +kernel) rfl rfl (Nat.le_of_ble_eq_true rfl) hdg (fun H locs hP _ hS => kk H locs hP hS)
theorem fg_X4_at (hx : p.tables.exec = Jvm.exec) (hb : c.code = cc) (hT : ∀ w ∈ TB, w.before args s = true) (hown : s.vm.findClass RX4 = some m.cls) (hK : va_K (gD g) vwCl (tyl g) s) (hP : va_P (gD g) vwCl (WF g ad rd ln fe q1 q2 fi ar) H) (hl : Cond.fieldLink RX4 index "TableVolumes$FileEnd" "at" "I" ∈ TB) (hdg : decode cc pc = .ok (.getfield index, 3)) (kk : W p l e R s m args below meth c H locs cells slots Q (F0 m (pc + 3) ls (.int (fi 81) :: rest))) : W p l e R s m args below meth c H locs cells slots Q (F0 m pc ls (.ref fe :: rest)) := va_get (ci := 3) (C := RX4) (T := TX4) (N := 5) hx hb hT inTX40 hown hK hP 40 wf_at rfl 3 (by decide) (hT _ hl) (fun _ h => h) rfl hdg kk
theorem fp_X4_at {x : Int32} (hx : p.tables.exec = Jvm.exec) (hb : c.code = cc) (hT : ∀ w ∈ TB, w.before args s = true) (hown : s.vm.findClass RX4 = some m.cls) (hK : va_K (gD g) vwCl (tyl g) s) (hP : va_P (gD g) vwCl (WF g ad rd ln fe q1 q2 fi ar) H) (hD : ∀ (q1 q2 : Value) (ln : LN) (fi : FI) (ar : AR), va_D A (WF g ad rd ln fe q1 q2 fi ar)) (hS : va_S A s.heap H locs) (hl : Cond.fieldLink RX4 index "TableVolumes$FileEnd" "at" "I" ∈ TB) (hdg : decode cc pc = .ok (.putfield index, 3)) (kk : ∀ (H : Heap) (locs : List Loc), va_P (gD g) vwCl (WF g ad rd ln fe q1 q2 (va_up fi 81 x) ar) H → va_S A s.heap H locs → W p l e R s m args below meth c H locs cells slots Q (F0 m (pc + 3) ls rest)) : W p l e R s m args below meth c H locs cells slots Q (F0 m pc ls (.int x :: .ref fe :: rest)) := va_put (ci := 3) (v := .int x) (ty := .int) (C := RX4) (T := TX4) (N := 5) hx hb hT inTX40 tyX4 tyX4_ok nmX4 hown hK hP (hD _ _ _ _ _) hS 40 wf_at rfl 3 (by decide) (hT _ hl) (fun _ h => h) rfl (by decide +kernel) rfl rfl (Nat.le_of_ble_eq_true rfl) hdg (fun H locs hP _ hS => kk H locs hP hS)
theorem fg_X4_left (hx : p.tables.exec = Jvm.exec) (hb : c.code = cc) (hT : ∀ w ∈ TB, w.before args s = true) (hown : s.vm.findClass RX4 = some m.cls) (hK : va_K (gD g) vwCl (tyl g) s) (hP : va_P (gD g) vwCl (WF g ad rd ln fe q1 q2 fi ar) H) (hl : Cond.fieldLink RX4 index "TableVolumes$FileEnd" "left" "I" ∈ TB) (hdg : decode cc pc = .ok (.getfield index, 3)) (kk : W p l e R s m args below meth c H locs cells slots Q (F0 m (pc + 3) ls (.int (fi 82) :: rest))) : W p l e R s m args below meth c H locs cells slots Q (F0 m pc ls (.ref fe :: rest)) := va_get (ci := 3) (C := RX4) (T := TX4) (N := 5) hx hb hT inTX40 hown hK hP 40 wf_at rfl 4 (by decide) (hT _ hl) (fun _ h => h) rfl hdg kk
theorem fp_X4_left {x : Int32} (hx : p.tables.exec = Jvm.exec) (hb : c.code = cc) (hT : ∀ w ∈ TB, w.before args s = true) (hown : s.vm.findClass RX4 = some m.cls) (hK : va_K (gD g) vwCl (tyl g) s) (hP : va_P (gD g) vwCl (WF g ad rd ln fe q1 q2 fi ar) H) (hD : ∀ (q1 q2 : Value) (ln : LN) (fi : FI) (ar : AR), va_D A (WF g ad rd ln fe q1 q2 fi ar)) (hS : va_S A s.heap H locs) (hl : Cond.fieldLink RX4 index "TableVolumes$FileEnd" "left" "I" ∈ TB) (hdg : decode cc pc = .ok (.putfield index, 3)) (kk : ∀ (H : Heap) (locs : List Loc), va_P (gD g) vwCl (WF g ad rd ln fe q1 q2 (va_up fi 82 x) ar) H → va_S A s.heap H locs → W p l e R s m args below meth c H locs cells slots Q (F0 m (pc + 3) ls rest)) : W p l e R s m args below meth c H locs cells slots Q (F0 m pc ls (.int x :: .ref fe :: rest)) := va_put (ci := 3) (v := .int x) (ty := .int) (C := RX4) (T := TX4) (N := 5) hx hb hT inTX40 tyX4 tyX4_ok nmX4 hown hK hP (hD _ _ _ _ _) hS 40 wf_at rfl 4 (by decide) (hT _ hl) (fun _ h => h) rfl (by decide +kernel) rfl rfl (Nat.le_of_ble_eq_true rfl) hdg (fun H locs hP _ hS => kk H locs hP hS)
theorem cCF_i {C : String} {a : Nat} {y : MethodName} {bytes : ByteArray} {maxL nL n : Nat} {ret : Option FieldType} {rm : Room} {As st : List Value} {r : Int32}
    (hx : p.tables.exec = Jvm.exec) (hb : c.code = cc) (hml : c.maxLocals = nL) (hT : ∀ w ∈ TB, w.before args s = true) (hown : s.vm.findClass own = some m.cls) (hK : va_K (gD g) vwCl (tyl g) s) (hE : EV g A s s.heap) (hD : ∀ (q1 q2 : Value) (ln : LN) (fi : FI) (ar : AR), va_D A (WF g ad rd ln fe q1 q2 fi ar)) (hA : ∀ q : Nat, s.heap.size ≤ q → A q)
    (hP : va_P (gD g) vwCl (WF g ad rd ln fe q1 q2 fi ar) H) (hS : va_S A s.heap H locs) (hrc : ∃ cell : Cell, H[a]? = some cell ∧ cell.vm.isStatics = false ∧ s.vm.findClass C = some cell.cls)
    (hM : Met l y (wx y bytes maxL ret) rm (va_Pc (.ref a :: As) (PC g ad rd ln H.size fi ar)) (QCi g ad rd ln H.size r fi' ar') 0 0 (AC ad rd H.size))
    (hg : fi' 80 = fi 80 ∧ fi' 81 = fi 81 ∧ fi' 82 = fi 82)
    (hw : (Cond.instanceMethod y ∈ TB ∧ Cond.selects C y y ∈ TB ∧ Cond.code y bytes maxL ret ∈ TB ∧ Cond.initialized C ∈ TB) ∧ (y.cls = C ∧ y.cls ≠ "java/lang/invoke/MethodHandle" ∧ y.cls ≠ "java/lang/invoke/VarHandle" ∧ (parseMethodDescriptor y.desc).map (fun d => d.parameters.length) = some n))
    (hl : Cond.methodLink own index y ∈ TB) (hR : (rm.cells = 0 ∧ rm.slots = 0) ∧ rm.frames + 1 ≤ R.frames ∧ 8 + (maxL + 11) + rm.locals ≤ R.locals) (hn : As.length = n) (hls : ls.size = nL) (hst : st = As.reverse ++ .ref a :: rest) (hW : (rest.map fun v => v.category).sum ≤ 8)
    (hdg : decode cc pc = .ok (.invokevirtual index, 3)) (hcs : cells ≤ R.cells ∧ slots ≤ R.slots)
    (kk : ∀ (H : Heap) (locs : List Loc), va_P (gD g) vwCl (WF g ad rd ln fe q1 q2 fi' ar') H → va_S A s.heap H locs → W p l e R s m args below meth c H locs cells slots Q (F0 m (pc + 3) ls (.int r :: rest))) : W p l e R s m args below meth c H locs cells slots Q (F0 m pc ls st) := by
  subst hst
  have hDc : ∀ (fi : FI) (ar : AR), va_D A (WC g ad rd ln fi ar) := fun fi ar => (hD q1 q2 ln fi ar).wc
  have hin := AC_in hDc hS.1 hA
  have hfe := fe_out (hD q1 q2 ln fi ar) hP
  refine va_calli (va_runV (Ts := TB) (As := As) (rest := rest) ⟨hx, hb, hml, hown, hT⟩ hM (cwV n hT (fun w h => by
      rcases List.mem_append.mp h with h | h
      · have hi : w ∈ TB := by
          simp only [List.mem_cons, List.not_mem_nil, or_false] at h
          rcases h with rfl | rfl | rfl | rfl
          · exact hl
          · exact hw.1.1
          · exact hw.1.2.1
          · exact hw.1.2.2.2
        exact ⟨hi, good_of_word (TB_good w hi)⟩
      · exact TB_in1 hw.1.2.2.1 w h) rfl hR.1.1 hR.1.2 hw.2 hR.2) ⟨fun a U f mk q => ⟨q.1, q.2.1, q.2.2.1, va_K.moved (u := U) (U := U.calling f mk a) (Vm.Alike.refl U.vm) q.2.2.2.1, q.2.2.2.2.1, q.2.2.2.2.2.blind⟩, hrc, fun U hU hW => ⟨rfl, by rw [hU], by rw [hU]; exact hP.wc, va_K.moved hW.alike hK, dCt hDc fi ar, EV.call hE hS hin hU hW⟩⟩ rfl hn hls rfl (lv_room hW) hdg hcs) hS (fun q _ h => hin q h) hin (fun r1 u t H1 locs1 ht hvm hw hB hz1 hk1 hS => ?_)
  obtain ⟨rfl, rfl⟩ := hw
  have hP1 : va_P (gD g) vwCl (WC g ad rd ln fi' ar') H1 := by rw [← ht]; exact hB
  have hF1 : va_P (gD g) vwCl [(fe, .inr (3, [q1, q2, .int (fi' 80), .int (fi' 81), .int (fi' 82)]))] H1 := by
    rw [hg.1, hg.2.1, hg.2.2]
    intro k q hk
    have h1 := (List.getElem?_eq_some_iff.mp hk).1
    simp only [List.length_cons, List.length_nil] at h1
    have h0 : k = 0 := by omega
    subst h0
    cases hk
    exact (hP 40 _ wf_at).kept (hk1 fe hfe.1 hfe.2)
  exact kk H1 locs1 (va_P.app hP1 hF1) hS
theorem cCF_v {C : String} {a : Nat} {y : MethodName} {bytes : ByteArray} {maxL nL n : Nat} {ret : Option FieldType} {rm : Room} {As st : List Value} {r : Unit}
    (hx : p.tables.exec = Jvm.exec) (hb : c.code = cc) (hml : c.maxLocals = nL) (hT : ∀ w ∈ TB, w.before args s = true) (hown : s.vm.findClass own = some m.cls) (hK : va_K (gD g) vwCl (tyl g) s) (hE : EV g A s s.heap) (hD : ∀ (q1 q2 : Value) (ln : LN) (fi : FI) (ar : AR), va_D A (WF g ad rd ln fe q1 q2 fi ar)) (hA : ∀ q : Nat, s.heap.size ≤ q → A q)
    (hP : va_P (gD g) vwCl (WF g ad rd ln fe q1 q2 fi ar) H) (hS : va_S A s.heap H locs) (hrc : ∃ cell : Cell, H[a]? = some cell ∧ cell.vm.isStatics = false ∧ s.vm.findClass C = some cell.cls)
    (hM : Met l y (wx y bytes maxL ret) rm (va_Pc (.ref a :: As) (PC g ad rd ln H.size fi ar)) (QCv g ad rd ln H.size r fi' ar') 0 0 (AC ad rd H.size))
    (hg : fi' 80 = fi 80 ∧ fi' 81 = fi 81 ∧ fi' 82 = fi 82)
    (hw : (Cond.instanceMethod y ∈ TB ∧ Cond.selects C y y ∈ TB ∧ Cond.code y bytes maxL ret ∈ TB ∧ Cond.initialized C ∈ TB) ∧ (y.cls = C ∧ y.cls ≠ "java/lang/invoke/MethodHandle" ∧ y.cls ≠ "java/lang/invoke/VarHandle" ∧ (parseMethodDescriptor y.desc).map (fun d => d.parameters.length) = some n))
    (hl : Cond.methodLink own index y ∈ TB) (hR : (rm.cells = 0 ∧ rm.slots = 0) ∧ rm.frames + 1 ≤ R.frames ∧ 8 + (maxL + 11) + rm.locals ≤ R.locals) (hn : As.length = n) (hls : ls.size = nL) (hst : st = As.reverse ++ .ref a :: rest) (hW : (rest.map fun v => v.category).sum ≤ 8)
    (hdg : decode cc pc = .ok (.invokevirtual index, 3)) (hcs : cells ≤ R.cells ∧ slots ≤ R.slots)
    (kk : ∀ (H : Heap) (locs : List Loc), va_P (gD g) vwCl (WF g ad rd ln fe q1 q2 fi' ar') H → va_S A s.heap H locs → W p l e R s m args below meth c H locs cells slots Q (F0 m (pc + 3) ls (rest))) : W p l e R s m args below meth c H locs cells slots Q (F0 m pc ls st) := by
  subst hst
  have hDc : ∀ (fi : FI) (ar : AR), va_D A (WC g ad rd ln fi ar) := fun fi ar => (hD q1 q2 ln fi ar).wc
  have hin := AC_in hDc hS.1 hA
  have hfe := fe_out (hD q1 q2 ln fi ar) hP
  refine va_callv (va_runV (Ts := TB) (As := As) (rest := rest) ⟨hx, hb, hml, hown, hT⟩ hM (cwV n hT (fun w h => by
      rcases List.mem_append.mp h with h | h
      · have hi : w ∈ TB := by
          simp only [List.mem_cons, List.not_mem_nil, or_false] at h
          rcases h with rfl | rfl | rfl | rfl
          · exact hl
          · exact hw.1.1
          · exact hw.1.2.1
          · exact hw.1.2.2.2
        exact ⟨hi, good_of_word (TB_good w hi)⟩
      · exact TB_in1 hw.1.2.2.1 w h) rfl hR.1.1 hR.1.2 hw.2 hR.2) ⟨fun a U f mk q => ⟨q.1, q.2.1, q.2.2.1, va_K.moved (u := U) (U := U.calling f mk a) (Vm.Alike.refl U.vm) q.2.2.2.1, q.2.2.2.2.1, q.2.2.2.2.2.blind⟩, hrc, fun U hU hW => ⟨rfl, by rw [hU], by rw [hU]; exact hP.wc, va_K.moved hW.alike hK, dCt hDc fi ar, EV.call hE hS hin hU hW⟩⟩ rfl hn hls rfl (lv_room hW) hdg hcs) hS (fun q _ h => hin q h) hin (fun  u t H1 locs1 ht hvm hw hB hz1 hk1 hS => ?_)
  subst hw
  have hP1 : va_P (gD g) vwCl (WC g ad rd ln fi' ar') H1 := by rw [← ht]; exact hB
  have hF1 : va_P (gD g) vwCl [(fe, .inr (3, [q1, q2, .int (fi' 80), .int (fi' 81), .int (fi' 82)]))] H1 := by
    rw [hg.1, hg.2.1, hg.2.2]
    intro k q hk
    have h1 := (List.getElem?_eq_some_iff.mp hk).1
    simp only [List.length_cons, List.length_nil] at h1
    have h0 : k = 0 := by omega
    subst h0
    cases hk
    exact (hP 40 _ wf_at).kept (hk1 fe hfe.1 hfe.2)
  exact kk H1 locs1 (va_P.app hP1 hF1) hS
theorem rF_v {r : Unit} (hx : p.tables.exec = Jvm.exec) (hb : c.code = cc) (hr : meth.sig.returnType = none) (hlocks : meth.locks = false) (hF : some ((), fi, ar) = some (r, fi', ar')) (hP : va_P (gD g) vwCl (WF g ad rd ln fe (.ref (ad (6))) (.ref (ad (1))) fi ar) H) (hS : va_S (AF ad rd fe s.heap.size) s.heap H locs) (hdg : decode cc pc = .ok (.return_, 1)) : W p l e R s m args below meth c H locs 0 0 (MQ below (QFv g ad rd ln fe s.heap.size r fi' ar') args s 0 0 (AF ad rd fe s.heap.size)) (F0 m pc ls []) :=
  W.vret hx hb hr (fun t ht _ => ⟨⟨(fi, ar), rfl, (ret_of hF).2, by show va_P _ _ _ t.heap; rw [ht]; exact hP⟩, hS.F ht⟩) hS.2.2 hdg hlocks
/-- FileEnd.append, called from the class -/
theorem cFE {y : MethodName} {bytes : ByteArray} {maxL nL n : Nat} {ret : Option FieldType} {rm : Room} {As st : List Value} {r : Unit}
    (hx : p.tables.exec = Jvm.exec) (hb : c.code = cc) (hml : c.maxLocals = nL) (hT : ∀ w ∈ TB, w.before args s = true) (hown : s.vm.findClass own = some m.cls) (hK : va_K (gD g) vwCl (tyl g) s) (hE : EV g A s s.heap) (hD : ∀ (q1 q2 : Value) (ln : LN) (fi : FI) (ar : AR), va_D A (WF g ad rd ln fe q1 q2 fi ar)) (hA : ∀ q : Nat, s.heap.size ≤ q → A q)
    (hP : va_P (gD g) vwCl (WF g ad rd ln fe (.ref (ad (6))) (.ref (ad (1))) fi ar) H) (hS : va_S A s.heap H locs)
    (hM : Met l y (wx y bytes maxL ret) rm (va_Pc (.ref fe :: As) (PF g ad rd ln fe (.ref (ad (6))) (.ref (ad (1))) H.size fi ar)) (QFv g ad rd ln fe H.size r fi' ar') 0 0 (AF ad rd fe H.size))
    (hw : (Cond.instanceMethod y ∈ TB ∧ Cond.selects RX4 y y ∈ TB ∧ Cond.code y bytes maxL ret ∈ TB ∧ Cond.initialized RX4 ∈ TB) ∧ (y.cls = RX4 ∧ y.cls ≠ "java/lang/invoke/MethodHandle" ∧ y.cls ≠ "java/lang/invoke/VarHandle" ∧ (parseMethodDescriptor y.desc).map (fun d => d.parameters.length) = some n))
    (hl : Cond.methodLink own index y ∈ TB) (hR : (rm.cells = 0 ∧ rm.slots = 0) ∧ rm.frames + 1 ≤ R.frames ∧ 8 + (maxL + 11) + rm.locals ≤ R.locals) (hn : As.length = n) (hls : ls.size = nL) (hst : st = As.reverse ++ .ref fe :: rest) (hW : (rest.map fun v => v.category).sum ≤ 8)
    (hdg : decode cc pc = .ok (.invokevirtual index, 3)) (hcs : cells ≤ R.cells ∧ slots ≤ R.slots)
    (kk : ∀ (H : Heap) (locs : List Loc), va_P (gD g) vwCl (WF g ad rd ln fe (.ref (ad (6))) (.ref (ad (1))) fi' ar') H → va_S A s.heap H locs → W p l e R s m args below meth c H locs cells slots Q (F0 m (pc + 3) ls rest)) : W p l e R s m args below meth c H locs cells slots Q (F0 m pc ls st) := by
  subst hst
  have hin := AF_in (hD .null .null ln fi ar) hS.1 hA
  refine va_callv (va_runV (Ts := TB) (As := As) (rest := rest) ⟨hx, hb, hml, hown, hT⟩ hM (cwV n hT (fun w h => by
      rcases List.mem_append.mp h with h | h
      · have hi : w ∈ TB := by
          simp only [List.mem_cons, List.not_mem_nil, or_false] at h
          rcases h with rfl | rfl | rfl | rfl
          · exact hl
          · exact hw.1.1
          · exact hw.1.2.1
          · exact hw.1.2.2.2
        exact ⟨hi, good_of_word (TB_good w hi)⟩
      · exact TB_in1 hw.1.2.2.1 w h) rfl hR.1.1 hR.1.2 hw.2 hR.2) ⟨fun a U f mk q => ⟨q.1, q.2.1, q.2.2.1, va_K.moved (u := U) (U := U.calling f mk a) (Vm.Alike.refl U.vm) q.2.2.2.1, q.2.2.2.2.1, q.2.2.2.2.2.blind⟩, va_recv (q := (RX4, TX4, 5)) hK hP (ci := 3) (q0 := 40) rfl wf_at, fun U hU hW => ⟨rfl, by rw [hU], by rw [hU]; exact hP, va_K.moved hW.alike hK, (hD _ _ ln fi ar).weaken (fun _ _ _ _ => trivial), EV.call hE hS hin hU hW⟩⟩ rfl hn hls rfl (lv_room hW) hdg hcs) hS (fun q _ h => hin q h) hin (fun u t H1 locs1 ht hvm hw hB hz1 hk1 hS => ?_)
  subst hw
  have hP1 : va_P (gD g) vwCl (WF g ad rd ln fe (.ref (ad (6))) (.ref (ad (1))) fi' ar') H1 := by rw [← ht]; exact hB
  exact kk H1 locs1 hP1 hS
theorem cFI {y : MethodName} {bytes : ByteArray} {maxL nL n : Nat} {rm : Room} {As st : List Value} {r : Unit}
    (hx : p.tables.exec = Jvm.exec) (hb : c.code = cc) (hml : c.maxLocals = nL) (hT : ∀ w ∈ TB, w.before args s = true) (hown : s.vm.findClass own = some m.cls) (hK : va_K (gD g) vwCl (tyl g) s) (hE : EV g A s s.heap) (hD : ∀ (q1 q2 : Value) (ln : LN) (fi : FI) (ar : AR), va_D A (WF g ad rd ln fe q1 q2 fi ar)) (hA : ∀ q : Nat, s.heap.size ≤ q → A q)
    (hP : va_P (gD g) vwCl (WF g ad rd ln fe .null .null fi ar) H) (hS : va_S A s.heap H locs)
    (hM : Met l y (wx y bytes maxL none) rm (va_Pc (.ref fe :: As) (PF g ad rd ln fe .null .null H.size fi ar)) (QFv g ad rd ln fe H.size r fi' ar') 0 0 (AF ad rd fe H.size))
    (hw : (Cond.instanceMethod y ∈ TB ∧ Cond.code y bytes maxL none ∈ TB ∧ Cond.initialized y.cls ∈ TB) ∧ (y.name = "<init>" ∧ y.cls ≠ "java/lang/invoke/MethodHandle" ∧ y.cls ≠ "java/lang/invoke/VarHandle" ∧ (parseMethodDescriptor y.desc).map (fun d => d.parameters.length) = some n))
    (hl : Cond.methodLink own index y ∈ TB) (hR : (rm.cells = 0 ∧ rm.slots = 0) ∧ rm.frames + 1 ≤ R.frames ∧ 8 + (maxL + 11) + rm.locals ≤ R.locals) (hn : As.length = n) (hls : ls.size = nL) (hst : st = As.reverse ++ .ref fe :: rest) (hW : (rest.map fun v => v.category).sum ≤ 8)
    (hdg : decode cc pc = .ok (.invokespecial index, 3)) (hcs : cells ≤ R.cells ∧ slots ≤ R.slots)
    (kk : ∀ (H : Heap) (locs : List Loc), va_P (gD g) vwCl (WF g ad rd ln fe (.ref (ad (6))) (.ref (ad (1))) fi' ar') H → va_S A s.heap H locs → W p l e R s m args below meth c H locs cells slots Q (F0 m (pc + 3) ls rest)) : W p l e R s m args below meth c H locs cells slots Q (F0 m pc ls st) := by
  subst hst
  have hin := AF_in (hD .null .null ln fi ar) hS.1 hA
  refine va_callv (va_runI (Ts := TB) (As := As) (rest := rest) ⟨hx, hb, hml, hown, hT⟩ hM ⟨callB_of n hT (TB_in1 hw.1.2.1) rfl hR.1.1 hR.1.2 (hT _ hw.1.2.2) (hT _ hl) hw.2.2 hR.2, hw.2.1, hT _ hw.1.1⟩ ⟨fun a U f mk q => ⟨q.1, q.2.1, q.2.2.1, va_K.moved (u := U) (U := U.calling f mk a) (Vm.Alike.refl U.vm) q.2.2.2.1, q.2.2.2.2.1, q.2.2.2.2.2.blind⟩, fun U hU hW => ⟨rfl, by rw [hU], by rw [hU]; exact hP, va_K.moved hW.alike hK, (hD _ _ ln fi ar).weaken (fun _ _ _ _ => trivial), EV.call hE hS hin hU hW⟩⟩ rfl hn hls rfl (lv_room hW) hdg hcs) hS (fun q _ h => hin q h) hin (fun u t H1 locs1 ht hvm hw hB hz1 hk1 hS => ?_)
  subst hw
  have hP1 : va_P (gD g) vwCl (WF g ad rd ln fe (.ref (ad (6))) (.ref (ad (1))) fi' ar') H1 := by rw [← ht]; exact hB
  exact kk H1 locs1 hP1 hS
end FELIB
