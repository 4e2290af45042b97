/-! X9_next -/
noncomputable def FX9_next (nf : Nat) (ln : LN) (fi : FI) (ar : AR) (x1 : Int32) : Option (Int32 × FI × AR) :=
  obnd3 (FX3_four nf ln fi ar (((fi (7)) * (512 : Int32)) + ((4 : Int32) * (x1)))) fun r4 fi2 ar3 => some (((r4) &&& (268435455 : Int32)), fi2, ar3)
set_option maxHeartbeats 4000000 in
set_option maxRecDepth 100000 in
theorem kX9_next (l : Launch) (g : GT) (ad rd : Nat → Nat) (sz : Nat) (nf : Nat) (ln : LN) (fi : FI) (ar : AR) (p1 : Int32) (r : Int32) (fi' : FI) (ar' : AR) (hF : FX9_next nf ln fi ar p1 = some (r, fi', ar')) : Met l yX9_next (wx yX9_next cX9_next 2 (some .int)) ({ frames := 1, cells := 0, slots := 0, locals := 22 } : Room) (va_Pc [.ref (ad (6)), .int p1] (PC g ad rd ln sz fi ar)) (QCi g ad rd ln sz r fi' ar') 0 0 (AC ad rd sz) := by
  refine Met.ofW (cc := cX9_next) (maxL := 2) (ret := (some .int)) (by decide) rfl ?_
  intro p e s m args below meth c s₁ B hml hv
  obtain ⟨rfl, hsz, hP, hK, hD0, hE⟩ := hv
  have hx := B.exec
  have hb := B.bytes
  have hr := B.returns
  have hts := atoms_spec (ws := (wx yX9_next cX9_next 2 (some .int))) B.pre
  have hT : ∀ w ∈ TB, w.before _ s = true := fun w h => hts w (List.mem_cons_of_mem _ h)
  have hown : s.vm.findClass RX9 = some m.cls := findClass_of_methodNamed B.named
  have hlocks := B.notSynchronized
  subst hsz
  have hD := dC hD0 s.heap.size
  have hA : ∀ q : Nat, s.heap.size ≤ q → AC ad rd s.heap.size q := fun q h => Or.inr h
  have hS : va_S (AC ad rd s.heap.size) s.heap s.heap [] := va_S.rf
  have hl := lv_entry ([.ref (ad (6)), .int p1]) (n := 2) (Nat.le_of_ble_eq_true rfl)
  rw [lg_entry_eq]
  generalize (lg_sl ([.ref (ad (6)), .int p1]) ++ List.replicate (2 - (lg_sl ([.ref (ad (6)), .int p1])).length) Slot.unset).toArray = ls at hl ⊢
  have hl : lv_has ls 2 [(0, .ref (ad (6))), (1, .int p1)] := hl
  unfold FX9_next at hF
  replace hl := lv_sub hl [0, 1] rfl
  refine lv_aload_n hx hb dX9_next_0 rfl (lv_at hl 0 rfl) ?_
  refine cg_X9_disk hx hb hT hown hK hP mw4_2 dX9_next_1 ?_
  refine lv_aload_n hx hb dX9_next_4 rfl (lv_at hl 0 rfl) ?_
  refine cg_X9_before hx hb hT hown hK hP mw15_21 dX9_next_5 ?_
  refine lv_sipush (v := (512 : Int32)) hx hb dX9_next_8 (by decide) ?_
  refine lv_imul hx hb dX9_next_11 ?_
  refine lv_iconst (v := (4 : Int32)) hx hb dX9_next_12 (by decide) ?_
  refine lv_iload_n hx hb dX9_next_13 rfl (lv_at hl 1 rfl) ?_
  refine lv_imul hx hb dX9_next_14 ?_
  refine lv_iadd hx hb dX9_next_15 ?_
  replace hF := obnd3_of hF
  obtain ⟨r4, fi2, ar3, h1, hF⟩ := hF
  refine cC_i (As := [.int (((fi (7)) * (512 : Int32)) + ((4 : Int32) * (p1)))]) (rest := []) hx hb hml hT hown hK hE hD hA hP hS (rcv_X3 hK hP) (kX3_four l g ad rd _ nf ln fi ar (((fi (7)) * (512 : Int32)) + ((4 : Int32) * (p1))) r4 fi2 ar3 h1) cw_X3_four mw16_8 ⟨⟨rfl, rfl⟩, Nat.le_of_ble_eq_true rfl, Nat.le_of_ble_eq_true rfl⟩ rfl hl.1 rfl (Nat.le_of_ble_eq_true rfl) dX9_next_16 ⟨Nat.zero_le _, Nat.zero_le _⟩ (fun H locs hP hS => ?_)
  refine lv_ldc (v := (268435455 : Int32)) hx hb hown (hT _ mw14_14) dX9_next_19 ?_
  refine lv_iand hx hb dX9_next_21 ?_
  exact rC_i hx hb hr hlocks hF hP hS dX9_next_22
theorem cw_X9_next : (Cond.instanceMethod yX9_next ∈ TB ∧ Cond.selects RX9 yX9_next yX9_next ∈ TB ∧ Cond.code yX9_next cX9_next 2 (some .int) ∈ TB ∧ Cond.initialized RX9 ∈ TB) ∧ (yX9_next.cls = RX9 ∧ yX9_next.cls ≠ "java/lang/invoke/MethodHandle" ∧ yX9_next.cls ≠ "java/lang/invoke/VarHandle" ∧ (parseMethodDescriptor yX9_next.desc).map (fun d => d.parameters.length) = some 1) := ⟨⟨mw22_12, mw22_13, mw22_14, mw2_10⟩, by decide +kernel⟩
/-! X9_isCluster -/
noncomputable def FX9_isCluster_20 (nf : Nat) (ln : LN) (t0 : Int32) (fi : FI) (ar : AR) : Option (Int32 × FI × AR) :=
  gd ((t0) &&& 1 = (t0)) (some ((t0), fi, ar))
noncomputable def FX9_isCluster_19 (nf : Nat) (ln : LN)  (fi : FI) (ar : AR) : Option (Int32 × FI × AR) :=
  FX9_isCluster_20 nf ln  (0 : Int32) fi ar
noncomputable def FX9_isCluster (nf : Nat) (ln : LN) (fi : FI) (ar : AR) (x1 : Int32) : Option (Int32 × FI × AR) :=
  br ((x1) < (2 : Int32)) (FX9_isCluster_19 nf ln  fi ar) (br (((fi (5)) + (1 : Int32)) < (x1)) (FX9_isCluster_19 nf ln  fi ar) (FX9_isCluster_20 nf ln  (1 : Int32) fi ar))
set_option maxHeartbeats 4000000 in
set_option maxRecDepth 100000 in
theorem kX9_isCluster (l : Launch) (g : GT) (ad rd : Nat → Nat) (sz : Nat) (nf : Nat) (ln : LN) (fi : FI) (ar : AR) (p1 : Int32) (r : Int32) (fi' : FI) (ar' : AR) (hF : FX9_isCluster nf ln fi ar p1 = some (r, fi', ar')) : Met l yX9_isCluster (wx yX9_isCluster cX9_isCluster 2 (some .boolean)) ({ frames := 0, cells := 0, slots := 0, locals := 0 } : Room) (va_Pc [.ref (ad (6)), .int p1] (PC g ad rd ln sz fi ar)) (QCi g ad rd ln sz r fi' ar') 0 0 (AC ad rd sz) := by
  refine Met.ofW (cc := cX9_isCluster) (maxL := 2) (ret := (some .boolean)) (by decide) rfl ?_
  intro p e s m args below meth c s₁ B hml hv
  obtain ⟨rfl, hsz, hP, hK, hD0, hE⟩ := hv
  have hx := B.exec
  have hb := B.bytes
  have hr := B.returns
  have hts := atoms_spec (ws := (wx yX9_isCluster cX9_isCluster 2 (some .boolean))) B.pre
  have hT : ∀ w ∈ TB, w.before _ s = true := fun w h => hts w (List.mem_cons_of_mem _ h)
  have hown : s.vm.findClass RX9 = some m.cls := findClass_of_methodNamed B.named
  have hlocks := B.notSynchronized
  subst hsz
  have hD := dC hD0 s.heap.size
  have hA : ∀ q : Nat, s.heap.size ≤ q → AC ad rd s.heap.size q := fun q h => Or.inr h
  have hS : va_S (AC ad rd s.heap.size) s.heap s.heap [] := va_S.rf
  have hl := lv_entry ([.ref (ad (6)), .int p1]) (n := 2) (Nat.le_of_ble_eq_true rfl)
  rw [lg_entry_eq]
  generalize (lg_sl ([.ref (ad (6)), .int p1]) ++ List.replicate (2 - (lg_sl ([.ref (ad (6)), .int p1])).length) Slot.unset).toArray = ls at hl ⊢
  have hl : lv_has ls 2 [(0, .ref (ad (6))), (1, .int p1)] := hl
  unfold FX9_isCluster at hF
  have J20 : ∀ (t0 : Int32) (fi : FI) (ar : AR) (H : Heap) (locs : List Loc) (ls : Array Slot), FX9_isCluster_20 nf ln t0 fi ar = some (r, fi', ar') → lv_has ls 2 [(0, .ref (ad (6)))] → va_P (gD g) vwCl (WC g ad rd ln fi ar) H → va_S (AC ad rd s.heap.size) s.heap H locs → W p l e (headSpec (wx yX9_isCluster cX9_isCluster 2 (some .boolean)) ({ frames := 0, cells := 0, slots := 0, locals := 0 } : Room)).room s m ([.ref (ad (6)), .int p1] : List Value).toArray below meth c H locs 0 0 (MQ below (QCi g ad rd ln s.heap.size r fi' ar') ([.ref (ad (6)), .int p1] : List Value).toArray s 0 0 (AC ad rd s.heap.size)) (F0 m 20 ls [.int t0]) := by
    intro t0 fi ar H locs ls hF hl hP hS
    unfold FX9_isCluster_20 at hF
    replace hF := gd_of hF
    obtain ⟨hz1, hF⟩ := hF
    exact rC_z hx hb hr hlocks (nar_z hz1) hF hP hS dX9_isCluster_20
  have J19 : ∀  (fi : FI) (ar : AR) (H : Heap) (locs : List Loc) (ls : Array Slot), FX9_isCluster_19 nf ln fi ar = some (r, fi', ar') → lv_has ls 2 [(0, .ref (ad (6)))] → va_P (gD g) vwCl (WC g ad rd ln fi ar) H → va_S (AC ad rd s.heap.size) s.heap H locs → W p l e (headSpec (wx yX9_isCluster cX9_isCluster 2 (some .boolean)) ({ frames := 0, cells := 0, slots := 0, locals := 0 } : Room)).room s m ([.ref (ad (6)), .int p1] : List Value).toArray below meth c H locs 0 0 (MQ below (QCi g ad rd ln s.heap.size r fi' ar') ([.ref (ad (6)), .int p1] : List Value).toArray s 0 0 (AC ad rd s.heap.size)) (F0 m 19 ls []) := by
    intro fi ar H locs ls hF hl hP hS
    unfold FX9_isCluster_19 at hF
    refine lv_iconst (v := (0 : Int32)) hx hb dX9_isCluster_19 (by decide) ?_
    exact J20 (0 : Int32) _ _ _ _ _ hF (lv_sub hl [0] rfl) hP hS
  replace hl := lv_sub hl [0, 1] rfl
  refine lv_iload_n hx hb dX9_isCluster_0 rfl (lv_at hl 1 rfl) ?_
  refine lv_iconst (v := (2 : Int32)) hx hb dX9_isCluster_1 (by decide) ?_
  refine lv_icmp_lt (tgt := 19) hx hb dX9_isCluster_2 (by decide) (fun hc2 => ?_) (fun hc2 => ?_)
  · replace hF := br_yes hF hc2
    exact J19  _ _ _ _ _ hF (lv_sub hl [0] rfl) hP hS
  · replace hF := br_no hF hc2
    refine lv_iload_n hx hb dX9_isCluster_5 rfl (lv_at hl 1 rfl) ?_
    refine lv_aload_n hx hb dX9_isCluster_6 rfl (lv_at hl 0 rfl) ?_
    refine cg_X9_clusters hx hb hT hown hK hP mw16_1 dX9_isCluster_7 ?_
    refine lv_iconst (v := (1 : Int32)) hx hb dX9_isCluster_10 (by decide) ?_
    refine lv_iadd hx hb dX9_isCluster_11 ?_
    refine lv_icmp_gt (tgt := 19) hx hb dX9_isCluster_12 (by decide) (fun hc3 => ?_) (fun hc3 => ?_)
    · replace hF := br_yes hF hc3
      exact J19  _ _ _ _ _ hF (lv_sub hl [0] rfl) hP hS
    · replace hF := br_no hF hc3
      refine lv_iconst (v := (1 : Int32)) hx hb dX9_isCluster_15 (by decide) ?_
      refine lv_goto (tgt := 20) hx hb dX9_isCluster_16 (by decide) ?_
      exact J20 (1 : Int32) _ _ _ _ _ hF (lv_sub hl [0] rfl) hP hS
theorem cw_X9_isCluster : (Cond.instanceMethod yX9_isCluster ∈ TB ∧ Cond.selects RX9 yX9_isCluster yX9_isCluster ∈ TB ∧ Cond.code yX9_isCluster cX9_isCluster 2 (some .boolean) ∈ TB ∧ Cond.initialized RX9 ∈ TB) ∧ (yX9_isCluster.cls = RX9 ∧ yX9_isCluster.cls ≠ "java/lang/invoke/MethodHandle" ∧ yX9_isCluster.cls ≠ "java/lang/invoke/VarHandle" ∧ (parseMethodDescriptor yX9_isCluster.desc).map (fun d => d.parameters.length) = some 1) := ⟨⟨mw22_16, mw22_17, mw22_18, mw2_10⟩, by decide +kernel⟩
/-! X9_tablesAsTold -/
noncomputable def FX9_tablesAsTold_111 (K24 : Int32 → FI → AR → Option (Int32 × FI × AR)) (nf : Nat) (ln : LN) (x1 : Int32) (fi : FI) (ar : AR) : Option (Int32 × FI × AR) :=
  bnd ((x1) + (1 : Int32)) fun x1_1 => K24 (x1_1) fi ar
noncomputable def FX9_tablesAsTold_60 (K24 : Int32 → FI → AR → Option (Int32 × FI × AR)) (nf : Nat) (ln : LN) (x1 : Int32) (fi : FI) (ar : AR) : Option (Int32 × FI × AR) :=
  bnd (((fi (7)) * (512 : Int32)) + ((4 : Int32) * (x1))) fun x3_2 => br ((fi (8)) = (2 : Int32)) (obnd3 (FX3_four nf ln fi ar (x3_2)) fun r7 fi5 ar6 => obnd3 (FX3_four nf ln fi5 ar6 ((x3_2) + ((fi5 (9)) * (512 : Int32)))) fun r11 fi9 ar10 => br ((r7) = (r11)) (FX9_tablesAsTold_111 K24 nf ln  (x1) fi9 ar10) (some ((0 : Int32), fi9, ar10))) (FX9_tablesAsTold_111 K24 nf ln  (x1) fi ar)
noncomputable def FX9_tablesAsTold_24b (K24 : Int32 → FI → AR → Option (Int32 × FI × AR)) (nf : Nat) (ln : LN) (x1 : Int32) (fi : FI) (ar : AR) : Option (Int32 × FI × AR) :=
  br (((fi (5)) + (1 : Int32)) < (x1)) (some ((1 : Int32), fi, ar)) (obnd3 (FX9_next nf ln fi ar (x1)) fun r17 fi15 ar16 => br ((r17) = 0) (FX9_tablesAsTold_60 K24 nf ln  (x1) fi15 ar16) (obnd3 (FX9_isCluster nf ln fi15 ar16 (r17)) fun r22 fi20 ar21 => br ((r22) = 0) (br ((268435448 : Int32) ≤ (r17)) (FX9_tablesAsTold_60 K24 nf ln  (x1) fi20 ar21) (some ((0 : Int32), fi20, ar21))) (FX9_tablesAsTold_60 K24 nf ln  (x1) fi20 ar21)))
noncomputable def FX9_tablesAsTold_24 (nf : Nat) (ln : LN) (kf : Nat) : Int32 → FI → AR → Option (Int32 × FI × AR) := Nat.rec (fun _ _ _ => none) (fun _ K24 => FX9_tablesAsTold_24b K24 nf ln) kf
noncomputable def FX9_tablesAsTold_20 (nf : Nat) (ln : LN)  (fi : FI) (ar : AR) : Option (Int32 × FI × AR) :=
  some ((0 : Int32), fi, ar)
noncomputable def FX9_tablesAsTold (nf : Nat) (ln : LN) (fi : FI) (ar : AR)  : Option (Int32 × FI × AR) :=
  obnd3 (FX9_next nf ln fi ar (0 : Int32)) fun r28 fi26 ar27 => br ((r28) = (268435448 : Int32)) (obnd3 (FX9_next nf ln fi26 ar27 (1 : Int32)) fun r33 fi31 ar32 => br ((r33) = (268435455 : Int32)) (FX9_tablesAsTold_24 nf ln nf (0 : Int32) fi31 ar32) (FX9_tablesAsTold_20 nf ln  fi31 ar32)) (FX9_tablesAsTold_20 nf ln  fi26 ar27)
set_option maxHeartbeats 4000000 in
set_option maxRecDepth 100000 in
theorem kX9_tablesAsTold (l : Launch) (g : GT) (ad rd : Nat → Nat) (sz : Nat) (nf : Nat) (ln : LN) (fi : FI) (ar : AR)  (r : Int32) (fi' : FI) (ar' : AR) (hF : FX9_tablesAsTold nf ln fi ar  = some (r, fi', ar')) : Met l yX9_tablesAsTold (wx yX9_tablesAsTold cX9_tablesAsTold 4 (some .boolean)) ({ frames := 2, cells := 0, slots := 0, locals := 43 } : Room) (va_Pc [.ref (ad (6))] (PC g ad rd ln sz fi ar)) (QCi g ad rd ln sz r fi' ar') 0 0 (AC ad rd sz) := by
  refine Met.ofW (cc := cX9_tablesAsTold) (maxL := 4) (ret := (some .boolean)) (by decide) rfl ?_
  intro p e s m args below meth c s₁ B hml hv
  obtain ⟨rfl, hsz, hP, hK, hD0, hE⟩ := hv
  have hx := B.exec
  have hb := B.bytes
  have hr := B.returns
  have hts := atoms_spec (ws := (wx yX9_tablesAsTold cX9_tablesAsTold 4 (some .boolean))) B.pre
  have hT : ∀ w ∈ TB, w.before _ s = true := fun w h => hts w (List.mem_cons_of_mem _ h)
  have hown : s.vm.findClass RX9 = some m.cls := findClass_of_methodNamed B.named
  have hlocks := B.notSynchronized
  subst hsz
  have hD := dC hD0 s.heap.size
  have hA : ∀ q : Nat, s.heap.size ≤ q → AC ad rd s.heap.size q := fun q h => Or.inr h
  have hS : va_S (AC ad rd s.heap.size) s.heap s.heap [] := va_S.rf
  have hl := lv_entry ([.ref (ad (6))]) (n := 4) (Nat.le_of_ble_eq_true rfl)
  rw [lg_entry_eq]
  generalize (lg_sl ([.ref (ad (6))]) ++ List.replicate (4 - (lg_sl ([.ref (ad (6))])).length) Slot.unset).toArray = ls at hl ⊢
  have hl : lv_has ls 4 [(0, .ref (ad (6)))] := hl
  unfold FX9_tablesAsTold at hF
  have L24 : ∀ kf : Nat, ∀ (x1 : Int32) (fi : FI) (ar : AR) (H : Heap) (locs : List Loc) (ls : Array Slot), FX9_tablesAsTold_24 nf ln kf x1 fi ar = some (r, fi', ar') → lv_has ls 4 [(0, .ref (ad (6))), (1, .int x1)] → va_P (gD g) vwCl (WC g ad rd ln fi ar) H → va_S (AC ad rd s.heap.size) s.heap H locs → W p l e (headSpec (wx yX9_tablesAsTold cX9_tablesAsTold 4 (some .boolean)) ({ frames := 2, cells := 0, slots := 0, locals := 43 } : Room)).room s m ([.ref (ad (6))] : List Value).toArray below meth c H locs 0 0 (MQ below (QCi g ad rd ln s.heap.size r fi' ar') ([.ref (ad (6))] : List Value).toArray s 0 0 (AC ad rd s.heap.size)) (F0 m 24 ls []) := by
    intro kf
    induction kf with
    | zero => intro x1 fi ar H locs ls hF hl hP hS; cases (show (none : Option (Int32 × FI × AR)) = _ from hF)
    | succ kf ih24 =>
      intro x1 fi ar H locs ls hF hl hP hS
      obtain ⟨K24, hK24⟩ : ∃ K : Int32 → FI → AR → Option (Int32 × FI × AR), K = FX9_tablesAsTold_24 nf ln kf := ⟨_, rfl⟩
      replace hF : FX9_tablesAsTold_24b K24 nf ln x1 fi ar = some (r, fi', ar') := by rw [hK24]; exact hF
      rw [← hK24] at ih24
      clear hK24
      have J111 : ∀ (x1 : Int32) (fi : FI) (ar : AR) (H : Heap) (locs : List Loc) (ls : Array Slot), FX9_tablesAsTold_111 K24 nf ln x1 fi ar = some (r, fi', ar') → lv_has ls 4 [(0, .ref (ad (6))), (1, .int x1)] → va_P (gD g) vwCl (WC g ad rd ln fi ar) H → va_S (AC ad rd s.heap.size) s.heap H locs → W p l e (headSpec (wx yX9_tablesAsTold cX9_tablesAsTold 4 (some .boolean)) ({ frames := 2, cells := 0, slots := 0, locals := 43 } : Room)).room s m ([.ref (ad (6))] : List Value).toArray below meth c H locs 0 0 (MQ below (QCi g ad rd ln s.heap.size r fi' ar') ([.ref (ad (6))] : List Value).toArray s 0 0 (AC ad rd s.heap.size)) (F0 m 111 ls []) := by
        intro x1 fi ar H locs ls hF hl hP hS
        unfold FX9_tablesAsTold_111 at hF
        obtain ⟨x1_1, ex1_1⟩ : ∃ y : Int32, y = (x1) + (1 : Int32) := ⟨_, rfl⟩
        replace hF := bnd_of hF ex1_1
        refine lv_iinc (v := x1_1) (lv' := [(1, .int (x1_1)), (0, .ref (ad (6)))]) hx hb dX9_tablesAsTold_111 hl (k := 1) rfl (by rw [ex1_1]; rfl) (by decide) rfl (fun ls hl => ?_)
        refine lv_goto (tgt := 24) hx hb dX9_tablesAsTold_114 (by decide) ?_
        exact ih24 (x1_1) _ _ _ _ _ hF (lv_sub hl [1, 0] rfl) hP hS
      have J60 : ∀ (x1 : Int32) (fi : FI) (ar : AR) (H : Heap) (locs : List Loc) (ls : Array Slot), FX9_tablesAsTold_60 K24 nf ln x1 fi ar = some (r, fi', ar') → lv_has ls 4 [(0, .ref (ad (6))), (1, .int x1)] → va_P (gD g) vwCl (WC g ad rd ln fi ar) H → va_S (AC ad rd s.heap.size) s.heap H locs → W p l e (headSpec (wx yX9_tablesAsTold cX9_tablesAsTold 4 (some .boolean)) ({ frames := 2, cells := 0, slots := 0, locals := 43 } : Room)).room s m ([.ref (ad (6))] : List Value).toArray below meth c H locs 0 0 (MQ below (QCi g ad rd ln s.heap.size r fi' ar') ([.ref (ad (6))] : List Value).toArray s 0 0 (AC ad rd s.heap.size)) (F0 m 60 ls []) := by
        intro x1 fi ar H locs ls hF hl hP hS
        unfold FX9_tablesAsTold_60 at hF
        refine lv_aload_n hx hb dX9_tablesAsTold_60 rfl (lv_at hl 0 rfl) ?_
        refine cg_X9_before hx hb hT hown hK hP mw15_21 dX9_tablesAsTold_61 ?_
        refine lv_sipush (v := (512 : Int32)) hx hb dX9_tablesAsTold_64 (by decide) ?_
        refine lv_imul hx hb dX9_tablesAsTold_67 ?_
        refine lv_iconst (v := (4 : Int32)) hx hb dX9_tablesAsTold_68 (by decide) ?_
        refine lv_iload_n hx hb dX9_tablesAsTold_69 rfl (lv_at hl 1 rfl) ?_
        refine lv_imul hx hb dX9_tablesAsTold_70 ?_
        refine lv_iadd hx hb dX9_tablesAsTold_71 ?_
        obtain ⟨x3_2, ex3_2⟩ : ∃ y : Int32, y = (((fi (7)) * (512 : Int32)) + ((4 : Int32) * (x1))) := ⟨_, rfl⟩
        rw [← ex3_2]
        replace hF := bnd_of hF ex3_2
        refine lv_istore_n (lv' := [(3, .int (x3_2)), (0, .ref (ad (6))), (1, .int (x1))]) hx hb dX9_tablesAsTold_72 rfl hl (by decide) rfl (fun ls hl => ?_)
        refine lv_aload_n hx hb dX9_tablesAsTold_73 rfl (lv_at hl 1 rfl) ?_
        refine cg_X9_tables hx hb hT hown hK hP mw15_22 dX9_tablesAsTold_74 ?_
        refine lv_iconst (v := (2 : Int32)) hx hb dX9_tablesAsTold_77 (by decide) ?_
        refine lv_icmp_ne (tgt := 111) hx hb dX9_tablesAsTold_78 (by decide) (fun hc3 => ?_) (fun hc3 => ?_)
        · replace hF := br_no hF hc3
          exact J111 (x1) _ _ _ _ _ hF (lv_sub hl [1, 2] rfl) hP hS
        · replace hF := br_yes hF hc3
          refine lv_aload_n hx hb dX9_tablesAsTold_81 rfl (lv_at hl 1 rfl) ?_
          refine cg_X9_disk hx hb hT hown hK hP mw4_2 dX9_tablesAsTold_82 ?_
          refine lv_iload_n hx hb dX9_tablesAsTold_85 rfl (lv_at hl 0 rfl) ?_
          replace hF := obnd3_of hF
          obtain ⟨r7, fi5, ar6, h4, hF⟩ := hF
          refine cC_i (As := [.int (x3_2)]) (rest := []) hx hb hml hT hown hK hE hD hA hP hS (rcv_X3 hK hP) (kX3_four l g ad rd _ nf ln fi ar (x3_2) r7 fi5 ar6 h4) cw_X3_four mw16_8 ⟨⟨rfl, rfl⟩, Nat.le_of_ble_eq_true rfl, Nat.le_of_ble_eq_true rfl⟩ rfl hl.1 rfl (Nat.le_of_ble_eq_true rfl) dX9_tablesAsTold_86 ⟨Nat.zero_le _, Nat.zero_le _⟩ (fun H locs hP hS => ?_)
          refine lv_aload_n hx hb dX9_tablesAsTold_89 rfl (lv_at hl 1 rfl) ?_
          refine cg_X9_disk hx hb hT hown hK hP mw4_2 dX9_tablesAsTold_90 ?_
          refine lv_iload_n hx hb dX9_tablesAsTold_93 rfl (lv_at hl 0 rfl) ?_
          refine lv_aload_n hx hb dX9_tablesAsTold_94 rfl (lv_at hl 1 rfl) ?_
          refine cg_X9_tableSectors hx hb hT hown hK hP mw15_23 dX9_tablesAsTold_95 ?_
          refine lv_sipush (v := (512 : Int32)) hx hb dX9_tablesAsTold_98 (by decide) ?_
          refine lv_imul hx hb dX9_tablesAsTold_101 ?_
          refine lv_iadd hx hb dX9_tablesAsTold_102 ?_
          replace hF := obnd3_of hF
          obtain ⟨r11, fi9, ar10, h8, hF⟩ := hF
          refine cC_i (As := [.int ((x3_2) + ((fi5 (9)) * (512 : Int32)))]) (rest := [.int (r7)]) hx hb hml hT hown hK hE hD hA hP hS (rcv_X3 hK hP) (kX3_four l g ad rd _ nf ln fi5 ar6 ((x3_2) + ((fi5 (9)) * (512 : Int32))) r11 fi9 ar10 h8) cw_X3_four mw16_8 ⟨⟨rfl, rfl⟩, Nat.le_of_ble_eq_true rfl, Nat.le_of_ble_eq_true rfl⟩ rfl hl.1 rfl (Nat.le_of_ble_eq_true rfl) dX9_tablesAsTold_103 ⟨Nat.zero_le _, Nat.zero_le _⟩ (fun H locs hP hS => ?_)
          refine lv_icmp_eq (tgt := 111) hx hb dX9_tablesAsTold_106 (by decide) (fun hc12 => ?_) (fun hc12 => ?_)
          · replace hF := br_yes hF hc12
            exact J111 (x1) _ _ _ _ _ hF (lv_sub hl [1, 2] rfl) hP hS
          · replace hF := br_no hF hc12
            refine lv_iconst (v := (0 : Int32)) hx hb dX9_tablesAsTold_109 (by decide) ?_
            exact rC_z hx hb hr hlocks rfl hF hP hS dX9_tablesAsTold_110
      unfold FX9_tablesAsTold_24b at hF
      refine lv_iload_n hx hb dX9_tablesAsTold_24 rfl (lv_at hl 1 rfl) ?_
      refine lv_aload_n hx hb dX9_tablesAsTold_25 rfl (lv_at hl 0 rfl) ?_
      refine cg_X9_clusters hx hb hT hown hK hP mw16_1 dX9_tablesAsTold_26 ?_
      refine lv_iconst (v := (1 : Int32)) hx hb dX9_tablesAsTold_29 (by decide) ?_
      refine lv_iadd hx hb dX9_tablesAsTold_30 ?_
      refine lv_icmp_gt (tgt := 117) hx hb dX9_tablesAsTold_31 (by decide) (fun hc13 => ?_) (fun hc13 => ?_)
      · replace hF := br_yes hF hc13
        refine lv_iconst (v := (1 : Int32)) hx hb dX9_tablesAsTold_117 (by decide) ?_
        exact rC_z hx hb hr hlocks rfl hF hP hS dX9_tablesAsTold_118
      · replace hF := br_no hF hc13
        refine lv_aload_n hx hb dX9_tablesAsTold_34 rfl (lv_at hl 0 rfl) ?_
        refine lv_iload_n hx hb dX9_tablesAsTold_35 rfl (lv_at hl 1 rfl) ?_
        replace hF := obnd3_of hF
        obtain ⟨r17, fi15, ar16, h14, hF⟩ := hF
        refine cC_i (As := [.int (x1)]) (rest := []) hx hb hml hT hown hK hE hD hA hP hS (rcv_X9 hK hP) (kX9_next l g ad rd _ nf ln fi ar (x1) r17 fi15 ar16 h14) cw_X9_next mw22_11 ⟨⟨rfl, rfl⟩, Nat.le_of_ble_eq_true rfl, Nat.le_of_ble_eq_true rfl⟩ rfl hl.1 rfl (Nat.le_of_ble_eq_true rfl) dX9_tablesAsTold_36 ⟨Nat.zero_le _, Nat.zero_le _⟩ (fun H locs hP hS => ?_)
        refine lv_istore_n (lv' := [(2, .int (r17)), (0, .ref (ad (6))), (1, .int (x1))]) hx hb dX9_tablesAsTold_39 rfl hl (by decide) rfl (fun ls hl => ?_)
        refine lv_iload_n hx hb dX9_tablesAsTold_40 rfl (lv_at hl 0 rfl) ?_
        refine lv_if_eq (tgt := 60) hx hb dX9_tablesAsTold_41 (by decide) (fun hc18 => ?_) (fun hc18 => ?_)
        · replace hF := br_yes hF hc18
          exact J60 (x1) _ _ _ _ _ hF (lv_sub hl [1, 2] rfl) hP hS
        · replace hF := br_no hF hc18
          refine lv_aload_n hx hb dX9_tablesAsTold_44 rfl (lv_at hl 1 rfl) ?_
          refine lv_iload_n hx hb dX9_tablesAsTold_45 rfl (lv_at hl 0 rfl) ?_
          replace hF := obnd3_of hF
          obtain ⟨r22, fi20, ar21, h19, hF⟩ := hF
          refine cC_i (As := [.int (r17)]) (rest := []) hx hb hml hT hown hK hE hD hA hP hS (rcv_X9 hK hP) (kX9_isCluster l g ad rd _ nf ln fi15 ar16 (r17) r22 fi20 ar21 h19) cw_X9_isCluster mw22_15 ⟨⟨rfl, rfl⟩, Nat.le_of_ble_eq_true rfl, Nat.le_of_ble_eq_true rfl⟩ rfl hl.1 rfl (Nat.le_of_ble_eq_true rfl) dX9_tablesAsTold_46 ⟨Nat.zero_le _, Nat.zero_le _⟩ (fun H locs hP hS => ?_)
          refine lv_if_ne (tgt := 60) hx hb dX9_tablesAsTold_49 (by decide) (fun hc23 => ?_) (fun hc23 => ?_)
          · replace hF := br_no hF hc23
            exact J60 (x1) _ _ _ _ _ hF (lv_sub hl [1, 2] rfl) hP hS
          · replace hF := br_yes hF hc23
            refine lv_iload_n hx hb dX9_tablesAsTold_52 rfl (lv_at hl 0 rfl) ?_
            refine lv_ldc (v := (268435448 : Int32)) hx hb hown (hT _ mw14_13) dX9_tablesAsTold_53 ?_
            refine lv_icmp_ge (tgt := 60) hx hb dX9_tablesAsTold_55 (by decide) (fun hc24 => ?_) (fun hc24 => ?_)
            · replace hF := br_yes hF hc24
              exact J60 (x1) _ _ _ _ _ hF (lv_sub hl [1, 2] rfl) hP hS
            · replace hF := br_no hF hc24
              refine lv_iconst (v := (0 : Int32)) hx hb dX9_tablesAsTold_58 (by decide) ?_
              exact rC_z hx hb hr hlocks rfl hF hP hS dX9_tablesAsTold_59
  have J20 : ∀  (fi : FI) (ar : AR) (H : Heap) (locs : List Loc) (ls : Array Slot), FX9_tablesAsTold_20 nf ln fi ar = some (r, fi', ar') → lv_has ls 4 [(0, .ref (ad (6)))] → va_P (gD g) vwCl (WC g ad rd ln fi ar) H → va_S (AC ad rd s.heap.size) s.heap H locs → W p l e (headSpec (wx yX9_tablesAsTold cX9_tablesAsTold 4 (some .boolean)) ({ frames := 2, cells := 0, slots := 0, locals := 43 } : Room)).room s m ([.ref (ad (6))] : List Value).toArray below meth c H locs 0 0 (MQ below (QCi g ad rd ln s.heap.size r fi' ar') ([.ref (ad (6))] : List Value).toArray s 0 0 (AC ad rd s.heap.size)) (F0 m 20 ls []) := by
    intro fi ar H locs ls hF hl hP hS
    unfold FX9_tablesAsTold_20 at hF
    refine lv_iconst (v := (0 : Int32)) hx hb dX9_tablesAsTold_20 (by decide) ?_
    exact rC_z hx hb hr hlocks rfl hF hP hS dX9_tablesAsTold_21
  replace hl := lv_sub hl [0] rfl
  refine lv_aload_n hx hb dX9_tablesAsTold_0 rfl (lv_at hl 0 rfl) ?_
  refine lv_iconst (v := (0 : Int32)) hx hb dX9_tablesAsTold_1 (by decide) ?_
  replace hF := obnd3_of hF
  obtain ⟨r28, fi26, ar27, h25, hF⟩ := hF
  refine cC_i (As := [.int (0 : Int32)]) (rest := []) hx hb hml hT hown hK hE hD hA hP hS (rcv_X9 hK hP) (kX9_next l g ad rd _ nf ln fi ar (0 : Int32) r28 fi26 ar27 h25) cw_X9_next mw22_11 ⟨⟨rfl, rfl⟩, Nat.le_of_ble_eq_true rfl, Nat.le_of_ble_eq_true rfl⟩ rfl hl.1 rfl (Nat.le_of_ble_eq_true rfl) dX9_tablesAsTold_2 ⟨Nat.zero_le _, Nat.zero_le _⟩ (fun H locs hP hS => ?_)
  refine lv_ldc (v := (268435448 : Int32)) hx hb hown (hT _ mw14_13) dX9_tablesAsTold_5 ?_
  refine lv_icmp_ne (tgt := 20) hx hb dX9_tablesAsTold_7 (by decide) (fun hc29 => ?_) (fun hc29 => ?_)
  · replace hF := br_no hF hc29
    exact J20  _ _ _ _ _ hF (lv_sub hl [0] rfl) hP hS
  · replace hF := br_yes hF hc29
    refine lv_aload_n hx hb dX9_tablesAsTold_10 rfl (lv_at hl 0 rfl) ?_
    refine lv_iconst (v := (1 : Int32)) hx hb dX9_tablesAsTold_11 (by decide) ?_
    replace hF := obnd3_of hF
    obtain ⟨r33, fi31, ar32, h30, hF⟩ := hF
    refine cC_i (As := [.int (1 : Int32)]) (rest := []) hx hb hml hT hown hK hE hD hA hP hS (rcv_X9 hK hP) (kX9_next l g ad rd _ nf ln fi26 ar27 (1 : Int32) r33 fi31 ar32 h30) cw_X9_next mw22_11 ⟨⟨rfl, rfl⟩, Nat.le_of_ble_eq_true rfl, Nat.le_of_ble_eq_true rfl⟩ rfl hl.1 rfl (Nat.le_of_ble_eq_true rfl) dX9_tablesAsTold_12 ⟨Nat.zero_le _, Nat.zero_le _⟩ (fun H locs hP hS => ?_)
    refine lv_ldc (v := (268435455 : Int32)) hx hb hown (hT _ mw14_14) dX9_tablesAsTold_15 ?_
    refine lv_icmp_eq (tgt := 22) hx hb dX9_tablesAsTold_17 (by decide) (fun hc34 => ?_) (fun hc34 => ?_)
    · replace hF := br_yes hF hc34
      refine lv_iconst (v := (0 : Int32)) hx hb dX9_tablesAsTold_22 (by decide) ?_
      refine lv_istore_n (lv' := [(1, .int (0 : Int32)), (0, .ref (ad (6)))]) hx hb dX9_tablesAsTold_23 rfl hl (by decide) rfl (fun ls hl => ?_)
      exact L24 nf (0 : Int32) _ _ _ _ _ hF (lv_sub hl [1, 0] rfl) hP hS
    · replace hF := br_no hF hc34
      exact J20  _ _ _ _ _ hF (lv_sub hl [0] rfl) hP hS
theorem cw_X9_tablesAsTold : (Cond.instanceMethod yX9_tablesAsTold ∈ TB ∧ Cond.selects RX9 yX9_tablesAsTold yX9_tablesAsTold ∈ TB ∧ Cond.code yX9_tablesAsTold cX9_tablesAsTold 4 (some .boolean) ∈ TB ∧ Cond.initialized RX9 ∈ TB) ∧ (yX9_tablesAsTold.cls = RX9 ∧ yX9_tablesAsTold.cls ≠ "java/lang/invoke/MethodHandle" ∧ yX9_tablesAsTold.cls ≠ "java/lang/invoke/VarHandle" ∧ (parseMethodDescriptor yX9_tablesAsTold.desc).map (fun d => d.parameters.length) = some 0) := ⟨⟨mw22_8, mw22_9, mw22_10, mw2_10⟩, by decide +kernel⟩
/-! X0_enqueue -/
noncomputable def FX0_enqueue_42 (nf : Nat) (ln : LN)  (fi : FI) (ar : AR) : Option (Unit × FI × AR) :=
  some ((), fi, ar)
noncomputable def FX0_enqueue (nf : Nat) (ln : LN) (fi : FI) (ar : AR) (x1 : Int32) (x2 : Int32) : Option (Unit × FI × AR) :=
  br ((Int32.ofNat (ln (4))) ≤ (fi (11))) (FX0_enqueue_42 nf ln  fi ar) (gd (¬ ((fi (11)) < 0 ∨ ln (4) ≤ (fi (11)).toNatClampNeg)) (bnd (va_up ar (4) (upd (ar (4)) (fi (11)).toNatClampNeg (x1))) fun ar3 => gd (¬ ((fi (11)) < 0 ∨ ln (5) ≤ (fi (11)).toNatClampNeg)) (bnd (va_up ar3 (5) (upd (ar3 (5)) (fi (11)).toNatClampNeg (x2))) fun ar5 => bnd (va_up fi (11) ((fi (11)) + (1 : Int32))) fun fi6 => FX0_enqueue_42 nf ln  fi6 ar5)))
set_option maxHeartbeats 4000000 in
set_option maxRecDepth 100000 in
theorem kX0_enqueue (l : Launch) (g : GT) (ad rd : Nat → Nat) (sz : Nat) (nf : Nat) (ln : LN) (fi : FI) (ar : AR) (p1 : Int32) (p2 : Int32) (r : Unit) (fi' : FI) (ar' : AR) (hF : FX0_enqueue nf ln fi ar p1 p2 = some (r, fi', ar')) : Met l yX0_enqueue (wx yX0_enqueue cX0_enqueue 3 none) ({ frames := 0, cells := 0, slots := 0, locals := 0 } : Room) (va_Pc [.ref (ad (7)), .int p1, .int p2] (PC g ad rd ln sz fi ar)) (QCv g ad rd ln sz r fi' ar') 0 0 (AC ad rd sz) := by
  refine Met.ofW (cc := cX0_enqueue) (maxL := 3) (ret := none) (by decide) rfl ?_
  intro p e s m args below meth c s₁ B hml hv
  obtain ⟨rfl, hsz, hP, hK, hD0, hE⟩ := hv
  have hx := B.exec
  have hb := B.bytes
  have hr := B.returns
  have hts := atoms_spec (ws := (wx yX0_enqueue cX0_enqueue 3 none)) B.pre
  have hT : ∀ w ∈ TB, w.before _ s = true := fun w h => hts w (List.mem_cons_of_mem _ h)
  have hown : s.vm.findClass RX0 = some m.cls := findClass_of_methodNamed B.named
  have hlocks := B.notSynchronized
  subst hsz
  have hD := dC hD0 s.heap.size
  have hA : ∀ q : Nat, s.heap.size ≤ q → AC ad rd s.heap.size q := fun q h => Or.inr h
  have hS : va_S (AC ad rd s.heap.size) s.heap s.heap [] := va_S.rf
  have hl := lv_entry ([.ref (ad (7)), .int p1, .int p2]) (n := 3) (Nat.le_of_ble_eq_true rfl)
  rw [lg_entry_eq]
  generalize (lg_sl ([.ref (ad (7)), .int p1, .int p2]) ++ List.replicate (3 - (lg_sl ([.ref (ad (7)), .int p1, .int p2])).length) Slot.unset).toArray = ls at hl ⊢
  have hl : lv_has ls 3 [(0, .ref (ad (7))), (1, .int p1), (2, .int p2)] := hl
  unfold FX0_enqueue at hF
  have J42 : ∀  (fi : FI) (ar : AR) (H : Heap) (locs : List Loc) (ls : Array Slot), FX0_enqueue_42 nf ln fi ar = some (r, fi', ar') → lv_has ls 3 [(0, .ref (ad (7)))] → va_P (gD g) vwCl (WC g ad rd ln fi ar) H → va_S (AC ad rd s.heap.size) s.heap H locs → W p l e (headSpec (wx yX0_enqueue cX0_enqueue 3 none) ({ frames := 0, cells := 0, slots := 0, locals := 0 } : Room)).room s m ([.ref (ad (7)), .int p1, .int p2] : List Value).toArray below meth c H locs 0 0 (MQ below (QCv g ad rd ln s.heap.size r fi' ar') ([.ref (ad (7)), .int p1, .int p2] : List Value).toArray s 0 0 (AC ad rd s.heap.size)) (F0 m 42 ls []) := by
    intro fi ar H locs ls hF hl hP hS
    unfold FX0_enqueue_42 at hF
    exact rC_v hx hb hr hlocks hF hP hS dX0_enqueue_42
  replace hl := lv_sub hl [0, 1, 2] rfl
  refine lv_aload_n hx hb dX0_enqueue_0 rfl (lv_at hl 0 rfl) ?_
  refine cg_X0_queued hx hb hT hown hK hP mw21_19 dX0_enqueue_1 ?_
  refine lv_aload_n hx hb dX0_enqueue_4 rfl (lv_at hl 0 rfl) ?_
  refine cg_X0_queue hx hb hT hown hK hP mw4_20 dX0_enqueue_5 ?_
  refine ca_queue hx hb hK hP dX0_enqueue_8 ?_
  refine lv_icmp_ge (tgt := 42) hx hb dX0_enqueue_9 (by decide) (fun hc1 => ?_) (fun hc1 => ?_)
  · replace hF := br_yes hF hc1
    exact J42  _ _ _ _ _ hF (lv_sub hl [0] rfl) hP hS
  · replace hF := br_no hF hc1
    refine lv_aload_n hx hb dX0_enqueue_12 rfl (lv_at hl 0 rfl) ?_
    refine cg_X0_queue hx hb hT hown hK hP mw4_20 dX0_enqueue_13 ?_
    refine lv_aload_n hx hb dX0_enqueue_16 rfl (lv_at hl 0 rfl) ?_
    refine cg_X0_queued hx hb hT hown hK hP mw21_19 dX0_enqueue_17 ?_
    refine lv_iload_n hx hb dX0_enqueue_20 rfl (lv_at hl 1 rfl) ?_
    replace hF := gd_of hF
    obtain ⟨hi2, hF⟩ := hF
    obtain ⟨ar3, ear3⟩ : ∃ y : AR, y = va_up ar (4) (upd (ar (4)) (fi (11)).toNatClampNeg (p1)) := ⟨_, rfl⟩
    replace hF := bnd_of hF ear3
    refine cs_queue hx hb hK hP hD hS hi2 dX0_enqueue_21 (fun H locs hP hS => ?_)
    rw [← ear3] at hP
    refine lv_aload_n hx hb dX0_enqueue_22 rfl (lv_at hl 0 rfl) ?_
    refine cg_X0_parents hx hb hT hown hK hP mw4_21 dX0_enqueue_23 ?_
    refine lv_aload_n hx hb dX0_enqueue_26 rfl (lv_at hl 0 rfl) ?_
    refine cg_X0_queued hx hb hT hown hK hP mw21_19 dX0_enqueue_27 ?_
    refine lv_iload_n hx hb dX0_enqueue_30 rfl (lv_at hl 2 rfl) ?_
    replace hF := gd_of hF
    obtain ⟨hi4, hF⟩ := hF
    obtain ⟨ar5, ear5⟩ : ∃ y : AR, y = va_up ar3 (5) (upd (ar3 (5)) (fi (11)).toNatClampNeg (p2)) := ⟨_, rfl⟩
    replace hF := bnd_of hF ear5
    refine cs_parents hx hb hK hP hD hS hi4 dX0_enqueue_31 (fun H locs hP hS => ?_)
    rw [← ear5] at hP
    refine lv_aload_n hx hb dX0_enqueue_32 rfl (lv_at hl 0 rfl) ?_
    refine lv_dup hx hb dX0_enqueue_33 rfl ?_
    refine cg_X0_queued hx hb hT hown hK hP mw21_19 dX0_enqueue_34 ?_
    refine lv_iconst (v := (1 : Int32)) hx hb dX0_enqueue_37 (by decide) ?_
    refine lv_iadd hx hb dX0_enqueue_38 ?_
    obtain ⟨fi6, efi6⟩ : ∃ y : FI, y = va_up fi (11) ((fi (11)) + (1 : Int32)) := ⟨_, rfl⟩
    replace hF := bnd_of hF efi6
    refine cp_X0_queued hx hb hT hown hK hP hD hS mw21_19 dX0_enqueue_39 (fun H locs hP hS => ?_)
    rw [← efi6] at hP
    exact J42  _ _ _ _ _ hF (lv_sub hl [0] rfl) hP hS
theorem cw_X0_enqueue : (Cond.instanceMethod yX0_enqueue ∈ TB ∧ Cond.selects RX0 yX0_enqueue yX0_enqueue ∈ TB ∧ Cond.code yX0_enqueue cX0_enqueue 3 none ∈ TB ∧ Cond.initialized RX0 ∈ TB) ∧ (yX0_enqueue.cls = RX0 ∧ yX0_enqueue.cls ≠ "java/lang/invoke/MethodHandle" ∧ yX0_enqueue.cls ≠ "java/lang/invoke/VarHandle" ∧ (parseMethodDescriptor yX0_enqueue.desc).map (fun d => d.parameters.length) = some 2) := ⟨⟨mw22_20, mw22_21, mw22_22, mw2_14⟩, by decide +kernel⟩
/-! X0_claimChain -/
noncomputable def FX0_claimChain_35 (nf : Nat) (ln : LN)  (fi : FI) (ar : AR) : Option (Int32 × FI × AR) :=
  some ((-1 : Int32), fi, ar)
noncomputable def FX0_claimChain_4b (K4 : Int32 → Int32 → FI → AR → Option (Int32 × FI × AR)) (nf : Nat) (ln : LN) (x2 : Int32) (x3 : Int32) (fi : FI) (ar : AR) : Option (Int32 × FI × AR) :=
  br ((fi (5)) < (x3)) (some ((-1 : Int32), fi, ar)) (obnd3 (FX9_isCluster nf ln fi ar (x2)) fun r5 fi3 ar4 => br ((r5) = 0) (FX0_claimChain_35 nf ln  fi3 ar4) (gd (¬ ((x2) < 0 ∨ ln (3) ≤ (x2).toNatClampNeg)) (br ((ar4 (3) (x2).toNatClampNeg) = 0) (obnd3 (FX9_next nf ln fi3 ar4 (x2)) fun r12 fi10 ar11 => br ((r12) = 0) (some ((-1 : Int32), fi10, ar11)) (gd (¬ ((x2) < 0 ∨ ln (3) ≤ (x2).toNatClampNeg)) (bnd (va_up ar11 (3) (upd (ar11 (3)) (x2).toNatClampNeg (vp_nar .boolean (1 : Int32)))) fun ar15 => br ((r12) < (268435448 : Int32)) (bnd ((x3) + (1 : Int32)) fun x3_17 => K4 (r12) (x3_17) fi10 ar15) (some ((x3), fi10, ar15))))) (FX0_claimChain_35 nf ln  fi3 ar4))))
noncomputable def FX0_claimChain_4 (nf : Nat) (ln : LN) (kf : Nat) : Int32 → Int32 → FI → AR → Option (Int32 × FI × AR) := Nat.rec (fun _ _ _ _ => none) (fun _ K4 => FX0_claimChain_4b K4 nf ln) kf
noncomputable def FX0_claimChain (nf : Nat) (ln : LN) (fi : FI) (ar : AR) (x1 : Int32) : Option (Int32 × FI × AR) :=
  FX0_claimChain_4 nf ln nf (x1) (1 : Int32) fi ar
set_option maxHeartbeats 4000000 in
set_option maxRecDepth 100000 in
theorem kX0_claimChain (l : Launch) (g : GT) (ad rd : Nat → Nat) (sz : Nat) (nf : Nat) (ln : LN) (fi : FI) (ar : AR) (p1 : Int32) (r : Int32) (fi' : FI) (ar' : AR) (hF : FX0_claimChain nf ln fi ar p1 = some (r, fi', ar')) : Met l yX0_claimChain (wx yX0_claimChain cX0_claimChain 5 (some .int)) ({ frames := 2, cells := 0, slots := 0, locals := 43 } : Room) (va_Pc [.ref (ad (7)), .int p1] (PC g ad rd ln sz fi ar)) (QCi g ad rd ln sz r fi' ar') 0 0 (AC ad rd sz) := by
  refine Met.ofW (cc := cX0_claimChain) (maxL := 5) (ret := (some .int)) (by decide) rfl ?_
  intro p e s m args below meth c s₁ B hml hv
  obtain ⟨rfl, hsz, hP, hK, hD0, hE⟩ := hv
  have hx := B.exec
  have hb := B.bytes
  have hr := B.returns
  have hts := atoms_spec (ws := (wx yX0_claimChain cX0_claimChain 5 (some .int))) B.pre
  have hT : ∀ w ∈ TB, w.before _ s = true := fun w h => hts w (List.mem_cons_of_mem _ h)
  have hown : s.vm.findClass RX0 = some m.cls := findClass_of_methodNamed B.named
  have hlocks := B.notSynchronized
  subst hsz
  have hD := dC hD0 s.heap.size
  have hA : ∀ q : Nat, s.heap.size ≤ q → AC ad rd s.heap.size q := fun q h => Or.inr h
  have hS : va_S (AC ad rd s.heap.size) s.heap s.heap [] := va_S.rf
  have hl := lv_entry ([.ref (ad (7)), .int p1]) (n := 5) (Nat.le_of_ble_eq_true rfl)
  rw [lg_entry_eq]
  generalize (lg_sl ([.ref (ad (7)), .int p1]) ++ List.replicate (5 - (lg_sl ([.ref (ad (7)), .int p1])).length) Slot.unset).toArray = ls at hl ⊢
  have hl : lv_has ls 5 [(0, .ref (ad (7))), (1, .int p1)] := hl
  unfold FX0_claimChain at hF
  have J35 : ∀  (fi : FI) (ar : AR) (H : Heap) (locs : List Loc) (ls : Array Slot), FX0_claimChain_35 nf ln fi ar = some (r, fi', ar') → lv_has ls 5 [(0, .ref (ad (7)))] → va_P (gD g) vwCl (WC g ad rd ln fi ar) H → va_S (AC ad rd s.heap.size) s.heap H locs → W p l e (headSpec (wx yX0_claimChain cX0_claimChain 5 (some .int)) ({ frames := 2, cells := 0, slots := 0, locals := 43 } : Room)).room s m ([.ref (ad (7)), .int p1] : List Value).toArray below meth c H locs 0 0 (MQ below (QCi g ad rd ln s.heap.size r fi' ar') ([.ref (ad (7)), .int p1] : List Value).toArray s 0 0 (AC ad rd s.heap.size)) (F0 m 35 ls []) := by
    intro fi ar H locs ls hF hl hP hS
    unfold FX0_claimChain_35 at hF
    refine lv_iconst (v := (-1 : Int32)) hx hb dX0_claimChain_35 (by decide) ?_
    exact rC_i hx hb hr hlocks hF hP hS dX0_claimChain_36
  have L4 : ∀ kf : Nat, ∀ (x2 : Int32) (x3 : Int32) (fi : FI) (ar : AR) (H : Heap) (locs : List Loc) (ls : Array Slot), FX0_claimChain_4 nf ln kf x2 x3 fi ar = some (r, fi', ar') → lv_has ls 5 [(0, .ref (ad (7))), (2, .int x2), (3, .int x3)] → va_P (gD g) vwCl (WC g ad rd ln fi ar) H → va_S (AC ad rd s.heap.size) s.heap H locs → W p l e (headSpec (wx yX0_claimChain cX0_claimChain 5 (some .int)) ({ frames := 2, cells := 0, slots := 0, locals := 43 } : Room)).room s m ([.ref (ad (7)), .int p1] : List Value).toArray below meth c H locs 0 0 (MQ below (QCi g ad rd ln s.heap.size r fi' ar') ([.ref (ad (7)), .int p1] : List Value).toArray s 0 0 (AC ad rd s.heap.size)) (F0 m 4 ls []) := by
    intro kf
    induction kf with
    | zero => intro x2 x3 fi ar H locs ls hF hl hP hS; cases (show (none : Option (Int32 × FI × AR)) = _ from hF)
    | succ kf ih4 =>
      intro x2 x3 fi ar H locs ls hF hl hP hS
      obtain ⟨K4, hK4⟩ : ∃ K : Int32 → Int32 → FI → AR → Option (Int32 × FI × AR), K = FX0_claimChain_4 nf ln kf := ⟨_, rfl⟩
      replace hF : FX0_claimChain_4b K4 nf ln x2 x3 fi ar = some (r, fi', ar') := by rw [hK4]; exact hF
      rw [← hK4] at ih4
      clear hK4
      unfold FX0_claimChain_4b at hF
      refine lv_iload_n hx hb dX0_claimChain_4 rfl (lv_at hl 2 rfl) ?_
      refine lv_aload_n hx hb dX0_claimChain_5 rfl (lv_at hl 0 rfl) ?_
      refine cg_X0_volume hx hb hT hown hK hP mw4_12 dX0_claimChain_6 ?_
      refine cg_X9_clusters hx hb hT hown hK hP mw23_8 dX0_claimChain_9 ?_
      refine lv_icmp_gt (tgt := 79) hx hb dX0_claimChain_12 (by decide) (fun hc1 => ?_) (fun hc1 => ?_)
      · replace hF := br_yes hF hc1
        refine lv_iconst (v := (-1 : Int32)) hx hb dX0_claimChain_79 (by decide) ?_
        exact rC_i hx hb hr hlocks hF hP hS dX0_claimChain_80
      · replace hF := br_no hF hc1
        refine lv_aload_n hx hb dX0_claimChain_15 rfl (lv_at hl 0 rfl) ?_
        refine cg_X0_volume hx hb hT hown hK hP mw4_12 dX0_claimChain_16 ?_
        refine lv_iload_n hx hb dX0_claimChain_19 rfl (lv_at hl 1 rfl) ?_
        replace hF := obnd3_of hF
        obtain ⟨r5, fi3, ar4, h2, hF⟩ := hF
        refine cC_i (As := [.int (x2)]) (rest := []) hx hb hml hT hown hK hE hD hA hP hS (rcv_X9 hK hP) (kX9_isCluster l g ad rd _ nf ln fi ar (x2) r5 fi3 ar4 h2) cw_X9_isCluster mw23_10 ⟨⟨rfl, rfl⟩, Nat.le_of_ble_eq_true rfl, Nat.le_of_ble_eq_true rfl⟩ rfl hl.1 rfl (Nat.le_of_ble_eq_true rfl) dX0_claimChain_20 ⟨Nat.zero_le _, Nat.zero_le _⟩ (fun H locs hP hS => ?_)
        refine lv_if_eq (tgt := 35) hx hb dX0_claimChain_23 (by decide) (fun hc6 => ?_) (fun hc6 => ?_)
        · replace hF := br_yes hF hc6
          exact J35  _ _ _ _ _ hF (lv_sub hl [0] rfl) hP hS
        · replace hF := br_no hF hc6
          refine lv_aload_n hx hb dX0_claimChain_26 rfl (lv_at hl 0 rfl) ?_
          refine cg_X0_claimed hx hb hT hown hK hP mw4_19 dX0_claimChain_27 ?_
          refine lv_iload_n hx hb dX0_claimChain_30 rfl (lv_at hl 1 rfl) ?_
          replace hF := gd_of hF
          obtain ⟨hi7, hF⟩ := hF
          refine cl_claimed hx hb hK hP hi7 dX0_claimChain_31 ?_
          refine lv_if_eq (tgt := 37) hx hb dX0_claimChain_32 (by decide) (fun hc8 => ?_) (fun hc8 => ?_)
          · replace hF := br_yes hF hc8
            refine lv_aload_n hx hb dX0_claimChain_37 rfl (lv_at hl 0 rfl) ?_
            refine cg_X0_volume hx hb hT hown hK hP mw4_12 dX0_claimChain_38 ?_
            refine lv_iload_n hx hb dX0_claimChain_41 rfl (lv_at hl 1 rfl) ?_
            replace hF := obnd3_of hF
            obtain ⟨r12, fi10, ar11, h9, hF⟩ := hF
            refine cC_i (As := [.int (x2)]) (rest := []) hx hb hml hT hown hK hE hD hA hP hS (rcv_X9 hK hP) (kX9_next l g ad rd _ nf ln fi3 ar4 (x2) r12 fi10 ar11 h9) cw_X9_next mw23_11 ⟨⟨rfl, rfl⟩, Nat.le_of_ble_eq_true rfl, Nat.le_of_ble_eq_true rfl⟩ rfl hl.1 rfl (Nat.le_of_ble_eq_true rfl) dX0_claimChain_42 ⟨Nat.zero_le _, Nat.zero_le _⟩ (fun H locs hP hS => ?_)
            refine lv_istore (lv' := [(4, .int (r12)), (0, .ref (ad (7))), (2, .int (x2)), (3, .int (x3))]) hx hb dX0_claimChain_45 hl (by decide) rfl (fun ls hl => ?_)
            refine lv_iload hx hb dX0_claimChain_47 (lv_at hl 0 rfl) ?_
            refine lv_if_ne (tgt := 54) hx hb dX0_claimChain_49 (by decide) (fun hc13 => ?_) (fun hc13 => ?_)
            · replace hF := br_no hF hc13
              refine lv_aload_n hx hb dX0_claimChain_54 rfl (lv_at hl 1 rfl) ?_
              refine cg_X0_claimed hx hb hT hown hK hP mw4_19 dX0_claimChain_55 ?_
              refine lv_iload_n hx hb dX0_claimChain_58 rfl (lv_at hl 2 rfl) ?_
              refine lv_iconst (v := (1 : Int32)) hx hb dX0_claimChain_59 (by decide) ?_
              replace hF := gd_of hF
              obtain ⟨hi14, hF⟩ := hF
              obtain ⟨ar15, ear15⟩ : ∃ y : AR, y = va_up ar11 (3) (upd (ar11 (3)) (x2).toNatClampNeg (vp_nar .boolean (1 : Int32))) := ⟨_, rfl⟩
              replace hF := bnd_of hF ear15
              refine cs_claimed hx hb hK hP hD hS hi14 dX0_claimChain_60 (fun H locs hP hS => ?_)
              rw [← ear15] at hP
              refine lv_iload hx hb dX0_claimChain_61 (lv_at hl 0 rfl) ?_
              refine lv_ldc (v := (268435448 : Int32)) hx hb hown (hT _ mw23_9) dX0_claimChain_63 ?_
              refine lv_icmp_lt (tgt := 70) hx hb dX0_claimChain_65 (by decide) (fun hc16 => ?_) (fun hc16 => ?_)
              · replace hF := br_yes hF hc16
                refine lv_iload hx hb dX0_claimChain_70 (lv_at hl 0 rfl) ?_
                refine lv_istore_n (lv' := [(2, .int (r12)), (4, .int (r12)), (0, .ref (ad (7))), (3, .int (x3))]) hx hb dX0_claimChain_72 rfl hl (by decide) rfl (fun ls hl => ?_)
                obtain ⟨x3_17, ex3_17⟩ : ∃ y : Int32, y = (x3) + (1 : Int32) := ⟨_, rfl⟩
                replace hF := bnd_of hF ex3_17
                refine lv_iinc (v := x3_17) (lv' := [(3, .int (x3_17)), (2, .int (r12)), (4, .int (r12)), (0, .ref (ad (7)))]) hx hb dX0_claimChain_73 hl (k := 3) rfl (by rw [ex3_17]; rfl) (by decide) rfl (fun ls hl => ?_)
                refine lv_goto (tgt := 4) hx hb dX0_claimChain_76 (by decide) ?_
                exact ih4 (r12) (x3_17) _ _ _ _ _ hF (lv_sub hl [3, 1, 0] rfl) hP hS
              · replace hF := br_no hF hc16
                refine lv_iload_n hx hb dX0_claimChain_68 rfl (lv_at hl 3 rfl) ?_
                exact rC_i hx hb hr hlocks hF hP hS dX0_claimChain_69
            · replace hF := br_yes hF hc13
              refine lv_iconst (v := (-1 : Int32)) hx hb dX0_claimChain_52 (by decide) ?_
              exact rC_i hx hb hr hlocks hF hP hS dX0_claimChain_53
          · replace hF := br_no hF hc8
            exact J35  _ _ _ _ _ hF (lv_sub hl [0] rfl) hP hS
  replace hl := lv_sub hl [0, 1] rfl
  refine lv_iload_n hx hb dX0_claimChain_0 rfl (lv_at hl 1 rfl) ?_
  refine lv_istore_n (lv' := [(2, .int (p1)), (0, .ref (ad (7))), (1, .int (p1))]) hx hb dX0_claimChain_1 rfl hl (by decide) rfl (fun ls hl => ?_)
  refine lv_iconst (v := (1 : Int32)) hx hb dX0_claimChain_2 (by decide) ?_
  refine lv_istore_n (lv' := [(3, .int (1 : Int32)), (2, .int (p1)), (0, .ref (ad (7))), (1, .int (p1))]) hx hb dX0_claimChain_3 rfl hl (by decide) rfl (fun ls hl => ?_)
  exact L4 nf (p1) (1 : Int32) _ _ _ _ _ hF (lv_sub hl [2, 1, 0] rfl) hP hS
theorem cw_X0_claimChain : (Cond.instanceMethod yX0_claimChain ∈ TB ∧ Cond.selects RX0 yX0_claimChain yX0_claimChain ∈ TB ∧ Cond.code yX0_claimChain cX0_claimChain 5 (some .int) ∈ TB ∧ Cond.initialized RX0 ∈ TB) ∧ (yX0_claimChain.cls = RX0 ∧ yX0_claimChain.cls ≠ "java/lang/invoke/MethodHandle" ∧ yX0_claimChain.cls ≠ "java/lang/invoke/VarHandle" ∧ (parseMethodDescriptor yX0_claimChain.desc).map (fun d => d.parameters.length) = some 1) := ⟨⟨mw23_5, mw23_6, mw23_7, mw2_14⟩, by decide +kernel⟩
/-! X9_addressOf -/
noncomputable def FX9_addressOf (nf : Nat) (ln : LN) (fi : FI) (ar : AR) (x1 : Int32) : Option (Int32 × FI × AR) :=
  some ((((fi (10)) + (((x1) - (2 : Int32)) <<< ((fi (6)) &&& 31))) <<< ((9 : Int32) &&& 31)), fi, ar)
set_option maxHeartbeats 4000000 in
set_option maxRecDepth 100000 in
theorem kX9_addressOf (l : Launch) (g : GT) (ad rd : Nat → Nat) (sz : Nat) (nf : Nat) (ln : LN) (fi : FI) (ar : AR) (p1 : Int32) (r : Int32) (fi' : FI) (ar' : AR) (hF : FX9_addressOf nf ln fi ar p1 = some (r, fi', ar')) : Met l yX9_addressOf (wx yX9_addressOf cX9_addressOf 2 (some .int)) ({ frames := 0, cells := 0, slots := 0, locals := 0 } : Room) (va_Pc [.ref (ad (6)), .int p1] (PC g ad rd ln sz fi ar)) (QCi g ad rd ln sz r fi' ar') 0 0 (AC ad rd sz) := by
  refine Met.ofW (cc := cX9_addressOf) (maxL := 2) (ret := (some .int)) (by decide) rfl ?_
  intro p e s m args below meth c s₁ B hml hv
  obtain ⟨rfl, hsz, hP, hK, hD0, hE⟩ := hv
  have hx := B.exec
  have hb := B.bytes
  have hr := B.returns
  have hts := atoms_spec (ws := (wx yX9_addressOf cX9_addressOf 2 (some .int))) B.pre
  have hT : ∀ w ∈ TB, w.before _ s = true := fun w h => hts w (List.mem_cons_of_mem _ h)
  have hown : s.vm.findClass RX9 = some m.cls := findClass_of_methodNamed B.named
  have hlocks := B.notSynchronized
  subst hsz
  have hD := dC hD0 s.heap.size
  have hA : ∀ q : Nat, s.heap.size ≤ q → AC ad rd s.heap.size q := fun q h => Or.inr h
  have hS : va_S (AC ad rd s.heap.size) s.heap s.heap [] := va_S.rf
  have hl := lv_entry ([.ref (ad (6)), .int p1]) (n := 2) (Nat.le_of_ble_eq_true rfl)
  rw [lg_entry_eq]
  generalize (lg_sl ([.ref (ad (6)), .int p1]) ++ List.replicate (2 - (lg_sl ([.ref (ad (6)), .int p1])).length) Slot.unset).toArray = ls at hl ⊢
  have hl : lv_has ls 2 [(0, .ref (ad (6))), (1, .int p1)] := hl
  unfold FX9_addressOf at hF
  replace hl := lv_sub hl [0, 1] rfl
  refine lv_aload_n hx hb dX9_addressOf_0 rfl (lv_at hl 0 rfl) ?_
  refine cg_X9_start hx hb hT hown hK hP mw16_0 dX9_addressOf_1 ?_
  refine lv_iload_n hx hb dX9_addressOf_4 rfl (lv_at hl 1 rfl) ?_
  refine lv_iconst (v := (2 : Int32)) hx hb dX9_addressOf_5 (by decide) ?_
  refine lv_isub hx hb dX9_addressOf_6 ?_
  refine lv_aload_n hx hb dX9_addressOf_7 rfl (lv_at hl 0 rfl) ?_
  refine cg_X9_shift hx hb hT hown hK hP mw4_1 dX9_addressOf_8 ?_
  refine lv_ishl hx hb dX9_addressOf_11 ?_
  refine lv_iadd hx hb dX9_addressOf_12 ?_
  refine lv_bipush (v := (9 : Int32)) hx hb dX9_addressOf_13 (by decide) ?_
  refine lv_ishl hx hb dX9_addressOf_15 ?_
  exact rC_i hx hb hr hlocks hF hP hS dX9_addressOf_16
theorem cw_X9_addressOf : (Cond.instanceMethod yX9_addressOf ∈ TB ∧ Cond.selects RX9 yX9_addressOf yX9_addressOf ∈ TB ∧ Cond.code yX9_addressOf cX9_addressOf 2 (some .int) ∈ TB ∧ Cond.initialized RX9 ∈ TB) ∧ (yX9_addressOf.cls = RX9 ∧ yX9_addressOf.cls ≠ "java/lang/invoke/MethodHandle" ∧ yX9_addressOf.cls ≠ "java/lang/invoke/VarHandle" ∧ (parseMethodDescriptor yX9_addressOf.desc).map (fun d => d.parameters.length) = some 1) := ⟨⟨mw16_13, mw16_14, mw16_15, mw2_10⟩, by decide +kernel⟩
/-! X9_slotShift -/
noncomputable def FX9_slotShift (nf : Nat) (ln : LN) (fi : FI) (ar : AR)  : Option (Int32 × FI × AR) :=
  some (((fi (6)) + (4 : Int32)), fi, ar)
set_option maxHeartbeats 4000000 in
set_option maxRecDepth 100000 in
theorem kX9_slotShift (l : Launch) (g : GT) (ad rd : Nat → Nat) (sz : Nat) (nf : Nat) (ln : LN) (fi : FI) (ar : AR)  (r : Int32) (fi' : FI) (ar' : AR) (hF : FX9_slotShift nf ln fi ar  = some (r, fi', ar')) : Met l yX9_slotShift (wx yX9_slotShift cX9_slotShift 1 (some .int)) ({ frames := 0, cells := 0, slots := 0, locals := 0 } : Room) (va_Pc [.ref (ad (6))] (PC g ad rd ln sz fi ar)) (QCi g ad rd ln sz r fi' ar') 0 0 (AC ad rd sz) := by
  refine Met.ofW (cc := cX9_slotShift) (maxL := 1) (ret := (some .int)) (by decide) rfl ?_
  intro p e s m args below meth c s₁ B hml hv
  obtain ⟨rfl, hsz, hP, hK, hD0, hE⟩ := hv
  have hx := B.exec
  have hb := B.bytes
  have hr := B.returns
  have hts := atoms_spec (ws := (wx yX9_slotShift cX9_slotShift 1 (some .int))) B.pre
  have hT : ∀ w ∈ TB, w.before _ s = true := fun w h => hts w (List.mem_cons_of_mem _ h)
  have hown : s.vm.findClass RX9 = some m.cls := findClass_of_methodNamed B.named
  have hlocks := B.notSynchronized
  subst hsz
  have hD := dC hD0 s.heap.size
  have hA : ∀ q : Nat, s.heap.size ≤ q → AC ad rd s.heap.size q := fun q h => Or.inr h
  have hS : va_S (AC ad rd s.heap.size) s.heap s.heap [] := va_S.rf
  have hl := lv_entry ([.ref (ad (6))]) (n := 1) (Nat.le_of_ble_eq_true rfl)
  rw [lg_entry_eq]
  generalize (lg_sl ([.ref (ad (6))]) ++ List.replicate (1 - (lg_sl ([.ref (ad (6))])).length) Slot.unset).toArray = ls at hl ⊢
  have hl : lv_has ls 1 [(0, .ref (ad (6)))] := hl
  unfold FX9_slotShift at hF
  replace hl := lv_sub hl [0] rfl
  refine lv_aload_n hx hb dX9_slotShift_0 rfl (lv_at hl 0 rfl) ?_
  refine cg_X9_shift hx hb hT hown hK hP mw4_1 dX9_slotShift_1 ?_
  refine lv_iconst (v := (4 : Int32)) hx hb dX9_slotShift_4 (by decide) ?_
  refine lv_iadd hx hb dX9_slotShift_5 ?_
  exact rC_i hx hb hr hlocks hF hP hS dX9_slotShift_6
theorem cw_X9_slotShift : (Cond.instanceMethod yX9_slotShift ∈ TB ∧ Cond.selects RX9 yX9_slotShift yX9_slotShift ∈ TB ∧ Cond.code yX9_slotShift cX9_slotShift 1 (some .int) ∈ TB ∧ Cond.initialized RX9 ∈ TB) ∧ (yX9_slotShift.cls = RX9 ∧ yX9_slotShift.cls ≠ "java/lang/invoke/MethodHandle" ∧ yX9_slotShift.cls ≠ "java/lang/invoke/VarHandle" ∧ (parseMethodDescriptor yX9_slotShift.desc).map (fun d => d.parameters.length) = some 0) := ⟨⟨mw24_2, mw24_3, mw24_4, mw2_10⟩, by decide +kernel⟩
/-! X2_openChain -/
noncomputable def FX2_openChain_84 (nf : Nat) (ln : LN) (i0 : Nat)  (fi : FI) (ar : AR) : Option (Unit × FI × AR) :=
  obnd3 (FX9_slotShift nf ln fi ar) fun r4 fi2 ar3 => bnd (va_up fi2 (25 + 10 * i0) (r4)) fun fi5 => bnd (va_up fi5 (21 + 10 * i0) ((fi5 (23 + 10 * i0)) <<< ((fi5 (25 + 10 * i0)) &&& 31))) fun fi6 => bnd (va_up fi6 (22 + 10 * i0) (fi6 (21 + 10 * i0))) fun fi7 => some ((), fi7, ar3)
noncomputable def FX2_openChain_17b (K17 : Int32 → FI → AR → Option (Unit × FI × AR)) (nf : Nat) (ln : LN) (i0 : Nat) (x2 : Int32) (fi : FI) (ar : AR) : Option (Unit × FI × AR) :=
  br ((Int32.ofNat (ln (10 + 4 * i0))) ≤ (fi (23 + 10 * i0))) (FX2_openChain_84 nf ln i0  fi ar) (obnd3 (FX9_isCluster nf ln fi ar (x2)) fun r12 fi10 ar11 => br ((r12) = 0) (FX2_openChain_84 nf ln i0  fi10 ar11) (obnd3 (FX9_addressOf nf ln fi10 ar11 (x2)) fun r17 fi15 ar16 => gd (¬ ((fi10 (23 + 10 * i0)) < 0 ∨ ln (10 + 4 * i0) ≤ (fi10 (23 + 10 * i0)).toNatClampNeg)) (bnd (va_up ar16 (10 + 4 * i0) (upd (ar16 (10 + 4 * i0)) (fi10 (23 + 10 * i0)).toNatClampNeg (r17))) fun ar19 => bnd (va_up fi15 (23 + 10 * i0) ((fi15 (23 + 10 * i0)) + (1 : Int32))) fun fi20 => bnd (va_up fi20 (24 + 10 * i0) (x2)) fun fi21 => obnd3 (FX9_next nf ln fi21 ar19 (x2)) fun r25 fi23 ar24 => K17 (r25) fi23 ar24)))
noncomputable def FX2_openChain_17 (nf : Nat) (ln : LN) (i0 : Nat) (kf : Nat) : Int32 → FI → AR → Option (Unit × FI × AR) := Nat.rec (fun _ _ _ => none) (fun _ K17 => FX2_openChain_17b K17 nf ln i0) kf
noncomputable def FX2_openChain (nf : Nat) (ln : LN) (i0 : Nat) (fi : FI) (ar : AR) (x1 : Int32) : Option (Unit × FI × AR) :=
  bnd (va_up fi (20 + 10 * i0) (0 : Int32)) fun fi26 => bnd (va_up fi26 (23 + 10 * i0) (0 : Int32)) fun fi27 => bnd (va_up fi27 (24 + 10 * i0) (0 : Int32)) fun fi28 => FX2_openChain_17 nf ln i0 nf (x1) fi28 ar
set_option maxHeartbeats 4000000 in
set_option maxRecDepth 100000 in
theorem kX2_openChain (l : Launch) (g : GT) (ad rd : Nat → Nat) (sz : Nat) (nf : Nat) (ln : LN) (i0 : Nat) (hi0 : i0 < 3) (fi : FI) (ar : AR) (p1 : Int32) (r : Unit) (fi' : FI) (ar' : AR) (hF : FX2_openChain nf ln i0 fi ar p1 = some (r, fi', ar')) : Met l yX2_openChain (wx yX2_openChain cX2_openChain 3 none) ({ frames := 2, cells := 0, slots := 0, locals := 43 } : Room) (va_Pc [.ref (ad (11 + 5 * i0)), .int p1] (PC g ad rd ln sz fi ar)) (QCv g ad rd ln sz r fi' ar') 0 0 (AC ad rd sz) := by
  refine Met.ofW (cc := cX2_openChain) (maxL := 3) (ret := none) (by decide) rfl ?_
  intro p e s m args below meth c s₁ B hml hv
  obtain ⟨rfl, hsz, hP, hK, hD0, hE⟩ := hv
  have hx := B.exec
  have hb := B.bytes
  have hr := B.returns
  have hts := atoms_spec (ws := (wx yX2_openChain cX2_openChain 3 none)) B.pre
  have hT : ∀ w ∈ TB, w.before _ s = true := fun w h => hts w (List.mem_cons_of_mem _ h)
  have hown : s.vm.findClass RX2 = some m.cls := findClass_of_methodNamed B.named
  have hlocks := B.notSynchronized
  subst hsz
  have hD := dC hD0 s.heap.size
  have hA : ∀ q : Nat, s.heap.size ≤ q → AC ad rd s.heap.size q := fun q h => Or.inr h
  have hS : va_S (AC ad rd s.heap.size) s.heap s.heap [] := va_S.rf
  have hl := lv_entry ([.ref (ad (11 + 5 * i0)), .int p1]) (n := 3) (Nat.le_of_ble_eq_true rfl)
  rw [lg_entry_eq]
  generalize (lg_sl ([.ref (ad (11 + 5 * i0)), .int p1]) ++ List.replicate (3 - (lg_sl ([.ref (ad (11 + 5 * i0)), .int p1])).length) Slot.unset).toArray = ls at hl ⊢
  have hl : lv_has ls 3 [(0, .ref (ad (11 + 5 * i0))), (1, .int p1)] := hl
  unfold FX2_openChain at hF
  have J84 : ∀  (fi : FI) (ar : AR) (H : Heap) (locs : List Loc) (ls : Array Slot), FX2_openChain_84 nf ln i0 fi ar = some (r, fi', ar') → lv_has ls 3 [(0, .ref (ad (11 + 5 * i0)))] → va_P (gD g) vwCl (WC g ad rd ln fi ar) H → va_S (AC ad rd s.heap.size) s.heap H locs → W p l e (headSpec (wx yX2_openChain cX2_openChain 3 none) ({ frames := 2, cells := 0, slots := 0, locals := 43 } : Room)).room s m ([.ref (ad (11 + 5 * i0)), .int p1] : List Value).toArray below meth c H locs 0 0 (MQ below (QCv g ad rd ln s.heap.size r fi' ar') ([.ref (ad (11 + 5 * i0)), .int p1] : List Value).toArray s 0 0 (AC ad rd s.heap.size)) (F0 m 84 ls []) := by
    intro fi ar H locs ls hF hl hP hS
    unfold FX2_openChain_84 at hF
    refine lv_aload_n hx hb dX2_openChain_84 rfl (lv_at hl 0 rfl) ?_
    refine lv_aload_n hx hb dX2_openChain_85 rfl (lv_at hl 0 rfl) ?_
    refine cg_X2_volume hi0 hx hb hT hown hK hP mw5_14 dX2_openChain_86 ?_
    replace hF := obnd3_of hF
    obtain ⟨r4, fi2, ar3, h1, hF⟩ := hF
    refine cC_i (As := []) (rest := [.ref (ad (11 + 5 * i0))]) hx hb hml hT hown hK hE hD hA hP hS (rcv_X9 hK hP) (kX9_slotShift l g ad rd _ nf ln fi ar r4 fi2 ar3 h1) cw_X9_slotShift mw24_1 ⟨⟨rfl, rfl⟩, Nat.le_of_ble_eq_true rfl, Nat.le_of_ble_eq_true rfl⟩ rfl hl.1 rfl (Nat.le_of_ble_eq_true rfl) dX2_openChain_89 ⟨Nat.zero_le _, Nat.zero_le _⟩ (fun H locs hP hS => ?_)
    obtain ⟨fi5, efi5⟩ : ∃ y : FI, y = va_up fi2 (25 + 10 * i0) (r4) := ⟨_, rfl⟩
    replace hF := bnd_of hF efi5
    refine cp_X2_slotShift hi0 hx hb hT hown hK hP hD hS mw23_19 dX2_openChain_92 (fun H locs hP hS => ?_)
    rw [← efi5] at hP
    refine lv_aload_n hx hb dX2_openChain_95 rfl (lv_at hl 0 rfl) ?_
    refine lv_aload_n hx hb dX2_openChain_96 rfl (lv_at hl 0 rfl) ?_
    refine cg_X2_length hi0 hx hb hT hown hK hP mw23_17 dX2_openChain_97 ?_
    refine lv_aload_n hx hb dX2_openChain_100 rfl (lv_at hl 0 rfl) ?_
    refine cg_X2_slotShift hi0 hx hb hT hown hK hP mw23_19 dX2_openChain_101 ?_
    refine lv_ishl hx hb dX2_openChain_104 ?_
    obtain ⟨fi6, efi6⟩ : ∃ y : FI, y = va_up fi5 (21 + 10 * i0) ((fi5 (23 + 10 * i0)) <<< ((fi5 (25 + 10 * i0)) &&& 31)) := ⟨_, rfl⟩
    replace hF := bnd_of hF efi6
    refine cp_X2_slots hi0 hx hb hT hown hK hP hD hS mw23_20 dX2_openChain_105 (fun H locs hP hS => ?_)
    rw [← efi6] at hP
    refine lv_aload_n hx hb dX2_openChain_108 rfl (lv_at hl 0 rfl) ?_
    refine lv_aload_n hx hb dX2_openChain_109 rfl (lv_at hl 0 rfl) ?_
    refine cg_X2_slots hi0 hx hb hT hown hK hP mw23_20 dX2_openChain_110 ?_
    obtain ⟨fi7, efi7⟩ : ∃ y : FI, y = va_up fi6 (22 + 10 * i0) (fi6 (21 + 10 * i0)) := ⟨_, rfl⟩
    replace hF := bnd_of hF efi7
    refine cp_X2_looked hi0 hx hb hT hown hK hP hD hS mw23_21 dX2_openChain_113 (fun H locs hP hS => ?_)
    rw [← efi7] at hP
    exact rC_v hx hb hr hlocks hF hP hS dX2_openChain_116
  have L17 : ∀ kf : Nat, ∀ (x2 : Int32) (fi : FI) (ar : AR) (H : Heap) (locs : List Loc) (ls : Array Slot), FX2_openChain_17 nf ln i0 kf x2 fi ar = some (r, fi', ar') → lv_has ls 3 [(0, .ref (ad (11 + 5 * i0))), (2, .int x2)] → va_P (gD g) vwCl (WC g ad rd ln fi ar) H → va_S (AC ad rd s.heap.size) s.heap H locs → W p l e (headSpec (wx yX2_openChain cX2_openChain 3 none) ({ frames := 2, cells := 0, slots := 0, locals := 43 } : Room)).room s m ([.ref (ad (11 + 5 * i0)), .int p1] : List Value).toArray below meth c H locs 0 0 (MQ below (QCv g ad rd ln s.heap.size r fi' ar') ([.ref (ad (11 + 5 * i0)), .int p1] : List Value).toArray s 0 0 (AC ad rd s.heap.size)) (F0 m 17 ls []) := by
    intro kf
    induction kf with
    | zero => intro x2 fi ar H locs ls hF hl hP hS; cases (show (none : Option (Unit × FI × AR)) = _ from hF)
    | succ kf ih17 =>
      intro x2 fi ar H locs ls hF hl hP hS
      obtain ⟨K17, hK17⟩ : ∃ K : Int32 → FI → AR → Option (Unit × FI × AR), K = FX2_openChain_17 nf ln i0 kf := ⟨_, rfl⟩
      replace hF : FX2_openChain_17b K17 nf ln i0 x2 fi ar = some (r, fi', ar') := by rw [hK17]; exact hF
      rw [← hK17] at ih17
      clear hK17
      unfold FX2_openChain_17b at hF
      refine lv_aload_n hx hb dX2_openChain_17 rfl (lv_at hl 0 rfl) ?_
      refine cg_X2_length hi0 hx hb hT hown hK hP mw23_17 dX2_openChain_18 ?_
      refine lv_aload_n hx hb dX2_openChain_21 rfl (lv_at hl 0 rfl) ?_
      refine cg_X2_addresses hi0 hx hb hT hown hK hP mw5_18 dX2_openChain_22 ?_
      refine ca_addresses hi0 hx hb hK hP dX2_openChain_25 ?_
      refine lv_icmp_ge (tgt := 84) hx hb dX2_openChain_26 (by decide) (fun hc8 => ?_) (fun hc8 => ?_)
      · replace hF := br_yes hF hc8
        exact J84  _ _ _ _ _ hF (lv_sub hl [0] rfl) hP hS
      · replace hF := br_no hF hc8
        refine lv_aload_n hx hb dX2_openChain_29 rfl (lv_at hl 0 rfl) ?_
        refine cg_X2_volume hi0 hx hb hT hown hK hP mw5_14 dX2_openChain_30 ?_
        refine lv_iload_n hx hb dX2_openChain_33 rfl (lv_at hl 1 rfl) ?_
        replace hF := obnd3_of hF
        obtain ⟨r12, fi10, ar11, h9, hF⟩ := hF
        refine cC_i (As := [.int (x2)]) (rest := []) hx hb hml hT hown hK hE hD hA hP hS (rcv_X9 hK hP) (kX9_isCluster l g ad rd _ nf ln fi ar (x2) r12 fi10 ar11 h9) cw_X9_isCluster mw23_22 ⟨⟨rfl, rfl⟩, Nat.le_of_ble_eq_true rfl, Nat.le_of_ble_eq_true rfl⟩ rfl hl.1 rfl (Nat.le_of_ble_eq_true rfl) dX2_openChain_34 ⟨Nat.zero_le _, Nat.zero_le _⟩ (fun H locs hP hS => ?_)
        refine lv_if_eq (tgt := 84) hx hb dX2_openChain_37 (by decide) (fun hc13 => ?_) (fun hc13 => ?_)
        · replace hF := br_yes hF hc13
          exact J84  _ _ _ _ _ hF (lv_sub hl [0] rfl) hP hS
        · replace hF := br_no hF hc13
          refine lv_aload_n hx hb dX2_openChain_40 rfl (lv_at hl 0 rfl) ?_
          refine cg_X2_addresses hi0 hx hb hT hown hK hP mw5_18 dX2_openChain_41 ?_
          refine lv_aload_n hx hb dX2_openChain_44 rfl (lv_at hl 0 rfl) ?_
          refine cg_X2_length hi0 hx hb hT hown hK hP mw23_17 dX2_openChain_45 ?_
          refine lv_aload_n hx hb dX2_openChain_48 rfl (lv_at hl 0 rfl) ?_
          refine cg_X2_volume hi0 hx hb hT hown hK hP mw5_14 dX2_openChain_49 ?_
          refine lv_iload_n hx hb dX2_openChain_52 rfl (lv_at hl 1 rfl) ?_
          replace hF := obnd3_of hF
          obtain ⟨r17, fi15, ar16, h14, hF⟩ := hF
          refine cC_i (As := [.int (x2)]) (rest := [.int (fi10 (23 + 10 * i0)), .ref (ad (12 + 5 * i0))]) hx hb hml hT hown hK hE hD hA hP hS (rcv_X9 hK hP) (kX9_addressOf l g ad rd _ nf ln fi10 ar11 (x2) r17 fi15 ar16 h14) cw_X9_addressOf mw23_23 ⟨⟨rfl, rfl⟩, Nat.le_of_ble_eq_true rfl, Nat.le_of_ble_eq_true rfl⟩ rfl hl.1 rfl (Nat.le_of_ble_eq_true rfl) dX2_openChain_53 ⟨Nat.zero_le _, Nat.zero_le _⟩ (fun H locs hP hS => ?_)
          replace hF := gd_of hF
          obtain ⟨hi18, hF⟩ := hF
          obtain ⟨ar19, ear19⟩ : ∃ y : AR, y = va_up ar16 (10 + 4 * i0) (upd (ar16 (10 + 4 * i0)) (fi10 (23 + 10 * i0)).toNatClampNeg (r17)) := ⟨_, rfl⟩
          replace hF := bnd_of hF ear19
          refine cs_addresses hi0 hx hb hK hP hD hS hi18 dX2_openChain_56 (fun H locs hP hS => ?_)
          rw [← ear19] at hP
          refine lv_aload_n hx hb dX2_openChain_57 rfl (lv_at hl 0 rfl) ?_
          refine lv_dup hx hb dX2_openChain_58 rfl ?_
          refine cg_X2_length hi0 hx hb hT hown hK hP mw23_17 dX2_openChain_59 ?_
          refine lv_iconst (v := (1 : Int32)) hx hb dX2_openChain_62 (by decide) ?_
          refine lv_iadd hx hb dX2_openChain_63 ?_
          obtain ⟨fi20, efi20⟩ : ∃ y : FI, y = va_up fi15 (23 + 10 * i0) ((fi15 (23 + 10 * i0)) + (1 : Int32)) := ⟨_, rfl⟩
          replace hF := bnd_of hF efi20
          refine cp_X2_length hi0 hx hb hT hown hK hP hD hS mw23_17 dX2_openChain_64 (fun H locs hP hS => ?_)
          rw [← efi20] at hP
          refine lv_aload_n hx hb dX2_openChain_67 rfl (lv_at hl 0 rfl) ?_
          refine lv_iload_n hx hb dX2_openChain_68 rfl (lv_at hl 1 rfl) ?_
          obtain ⟨fi21, efi21⟩ : ∃ y : FI, y = va_up fi20 (24 + 10 * i0) (x2) := ⟨_, rfl⟩
          replace hF := bnd_of hF efi21
          refine cp_X2_lastCluster hi0 hx hb hT hown hK hP hD hS mw23_18 dX2_openChain_69 (fun H locs hP hS => ?_)
          rw [← efi21] at hP
          refine lv_aload_n hx hb dX2_openChain_72 rfl (lv_at hl 0 rfl) ?_
          refine cg_X2_volume hi0 hx hb hT hown hK hP mw5_14 dX2_openChain_73 ?_
          refine lv_iload_n hx hb dX2_openChain_76 rfl (lv_at hl 1 rfl) ?_
          replace hF := obnd3_of hF
          obtain ⟨r25, fi23, ar24, h22, hF⟩ := hF
          refine cC_i (As := [.int (x2)]) (rest := []) hx hb hml hT hown hK hE hD hA hP hS (rcv_X9 hK hP) (kX9_next l g ad rd _ nf ln fi21 ar19 (x2) r25 fi23 ar24 h22) cw_X9_next mw24_0 ⟨⟨rfl, rfl⟩, Nat.le_of_ble_eq_true rfl, Nat.le_of_ble_eq_true rfl⟩ rfl hl.1 rfl (Nat.le_of_ble_eq_true rfl) dX2_openChain_77 ⟨Nat.zero_le _, Nat.zero_le _⟩ (fun H locs hP hS => ?_)
          refine lv_istore_n (lv' := [(2, .int (r25)), (0, .ref (ad (11 + 5 * i0)))]) hx hb dX2_openChain_80 rfl hl (by decide) rfl (fun ls hl => ?_)
          refine lv_goto (tgt := 17) hx hb dX2_openChain_81 (by decide) ?_
          exact ih17 (r25) _ _ _ _ _ hF (lv_sub hl [1, 0] rfl) hP hS
  replace hl := lv_sub hl [0, 1] rfl
  refine lv_aload_n hx hb dX2_openChain_0 rfl (lv_at hl 0 rfl) ?_
  refine lv_iconst (v := (0 : Int32)) hx hb dX2_openChain_1 (by decide) ?_
  obtain ⟨fi26, efi26⟩ : ∃ y : FI, y = va_up fi (20 + 10 * i0) (0 : Int32) := ⟨_, rfl⟩
  replace hF := bnd_of hF efi26
  refine cp_X2_count hi0 hx hb hT hown hK hP hD hS mw23_16 dX2_openChain_2 (fun H locs hP hS => ?_)
  rw [← efi26] at hP
  refine lv_aload_n hx hb dX2_openChain_5 rfl (lv_at hl 0 rfl) ?_
  refine lv_iconst (v := (0 : Int32)) hx hb dX2_openChain_6 (by decide) ?_
  obtain ⟨fi27, efi27⟩ : ∃ y : FI, y = va_up fi26 (23 + 10 * i0) (0 : Int32) := ⟨_, rfl⟩
  replace hF := bnd_of hF efi27
  refine cp_X2_length hi0 hx hb hT hown hK hP hD hS mw23_17 dX2_openChain_7 (fun H locs hP hS => ?_)
  rw [← efi27] at hP
  refine lv_aload_n hx hb dX2_openChain_10 rfl (lv_at hl 0 rfl) ?_
  refine lv_iconst (v := (0 : Int32)) hx hb dX2_openChain_11 (by decide) ?_
  obtain ⟨fi28, efi28⟩ : ∃ y : FI, y = va_up fi27 (24 + 10 * i0) (0 : Int32) := ⟨_, rfl⟩
  replace hF := bnd_of hF efi28
  refine cp_X2_lastCluster hi0 hx hb hT hown hK hP hD hS mw23_18 dX2_openChain_12 (fun H locs hP hS => ?_)
  rw [← efi28] at hP
  refine lv_iload_n hx hb dX2_openChain_15 rfl (lv_at hl 1 rfl) ?_
  refine lv_istore_n (lv' := [(2, .int (p1)), (0, .ref (ad (11 + 5 * i0))), (1, .int (p1))]) hx hb dX2_openChain_16 rfl hl (by decide) rfl (fun ls hl => ?_)
  exact L17 nf (p1) _ _ _ _ _ hF (lv_sub hl [1, 0] rfl) hP hS
theorem cw_X2_openChain : (Cond.instanceMethod yX2_openChain ∈ TB ∧ Cond.selects RX2 yX2_openChain yX2_openChain ∈ TB ∧ Cond.code yX2_openChain cX2_openChain 3 none ∈ TB ∧ Cond.initialized RX2 ∈ TB) ∧ (yX2_openChain.cls = RX2 ∧ yX2_openChain.cls ≠ "java/lang/invoke/MethodHandle" ∧ yX2_openChain.cls ≠ "java/lang/invoke/VarHandle" ∧ (parseMethodDescriptor yX2_openChain.desc).map (fun d => d.parameters.length) = some 1) := ⟨⟨mw23_13, mw23_14, mw23_15, mw2_18⟩, by decide +kernel⟩
/-! X2_slotAddress -/
noncomputable def FX2_slotAddress_19 (nf : Nat) (ln : LN) (i0 : Nat)  (fi : FI) (ar : AR) : Option (Int32 × FI × AR) :=
  some ((-1 : Int32), fi, ar)
noncomputable def FX2_slotAddress (nf : Nat) (ln : LN) (i0 : Nat) (fi : FI) (ar : AR) (x1 : Int32) : Option (Int32 × FI × AR) :=
  bnd ((x1) >>> ((fi (25 + 10 * i0)) &&& 31)) fun x2_1 => br ((x2_1) < 0) (FX2_slotAddress_19 nf ln i0  fi ar) (br ((x2_1) < (fi (23 + 10 * i0))) (gd (¬ ((x2_1) < 0 ∨ ln (10 + 4 * i0) ≤ (x2_1).toNatClampNeg)) (some (((ar (10 + 4 * i0) (x2_1).toNatClampNeg) + (((x1) - ((x2_1) <<< ((fi (25 + 10 * i0)) &&& 31))) * (32 : Int32))), fi, ar))) (FX2_slotAddress_19 nf ln i0  fi ar))
set_option maxHeartbeats 4000000 in
set_option maxRecDepth 100000 in
theorem kX2_slotAddress (l : Launch) (g : GT) (ad rd : Nat → Nat) (sz : Nat) (nf : Nat) (ln : LN) (i0 : Nat) (hi0 : i0 < 3) (fi : FI) (ar : AR) (p1 : Int32) (r : Int32) (fi' : FI) (ar' : AR) (hF : FX2_slotAddress nf ln i0 fi ar p1 = some (r, fi', ar')) : Met l yX2_slotAddress (wx yX2_slotAddress cX2_slotAddress 3 (some .int)) ({ frames := 0, cells := 0, slots := 0, locals := 0 } : Room) (va_Pc [.ref (ad (11 + 5 * i0)), .int p1] (PC g ad rd ln sz fi ar)) (QCi g ad rd ln sz r fi' ar') 0 0 (AC ad rd sz) := by
  refine Met.ofW (cc := cX2_slotAddress) (maxL := 3) (ret := (some .int)) (by decide) rfl ?_
  intro p e s m args below meth c s₁ B hml hv
  obtain ⟨rfl, hsz, hP, hK, hD0, hE⟩ := hv
  have hx := B.exec
  have hb := B.bytes
  have hr := B.returns
  have hts := atoms_spec (ws := (wx yX2_slotAddress cX2_slotAddress 3 (some .int))) B.pre
  have hT : ∀ w ∈ TB, w.before _ s = true := fun w h => hts w (List.mem_cons_of_mem _ h)
  have hown : s.vm.findClass RX2 = some m.cls := findClass_of_methodNamed B.named
  have hlocks := B.notSynchronized
  subst hsz
  have hD := dC hD0 s.heap.size
  have hA : ∀ q : Nat, s.heap.size ≤ q → AC ad rd s.heap.size q := fun q h => Or.inr h
  have hS : va_S (AC ad rd s.heap.size) s.heap s.heap [] := va_S.rf
  have hl := lv_entry ([.ref (ad (11 + 5 * i0)), .int p1]) (n := 3) (Nat.le_of_ble_eq_true rfl)
  rw [lg_entry_eq]
  generalize (lg_sl ([.ref (ad (11 + 5 * i0)), .int p1]) ++ List.replicate (3 - (lg_sl ([.ref (ad (11 + 5 * i0)), .int p1])).length) Slot.unset).toArray = ls at hl ⊢
  have hl : lv_has ls 3 [(0, .ref (ad (11 + 5 * i0))), (1, .int p1)] := hl
  unfold FX2_slotAddress at hF
  have J19 : ∀  (fi : FI) (ar : AR) (H : Heap) (locs : List Loc) (ls : Array Slot), FX2_slotAddress_19 nf ln i0 fi ar = some (r, fi', ar') → lv_has ls 3 [(0, .ref (ad (11 + 5 * i0)))] → va_P (gD g) vwCl (WC g ad rd ln fi ar) H → va_S (AC ad rd s.heap.size) s.heap H locs → W p l e (headSpec (wx yX2_slotAddress cX2_slotAddress 3 (some .int)) ({ frames := 0, cells := 0, slots := 0, locals := 0 } : Room)).room s m ([.ref (ad (11 + 5 * i0)), .int p1] : List Value).toArray below meth c H locs 0 0 (MQ below (QCi g ad rd ln s.heap.size r fi' ar') ([.ref (ad (11 + 5 * i0)), .int p1] : List Value).toArray s 0 0 (AC ad rd s.heap.size)) (F0 m 19 ls []) := by
    intro fi ar H locs ls hF hl hP hS
    unfold FX2_slotAddress_19 at hF
    refine lv_iconst (v := (-1 : Int32)) hx hb dX2_slotAddress_19 (by decide) ?_
    exact rC_i hx hb hr hlocks hF hP hS dX2_slotAddress_20
  replace hl := lv_sub hl [0, 1] rfl
  refine lv_iload_n hx hb dX2_slotAddress_0 rfl (lv_at hl 1 rfl) ?_
  refine lv_aload_n hx hb dX2_slotAddress_1 rfl (lv_at hl 0 rfl) ?_
  refine cg_X2_slotShift hi0 hx hb hT hown hK hP mw23_19 dX2_slotAddress_2 ?_
  refine lv_ishr hx hb dX2_slotAddress_5 ?_
  obtain ⟨x2_1, ex2_1⟩ : ∃ y : Int32, y = ((p1) >>> ((fi (25 + 10 * i0)) &&& 31)) := ⟨_, rfl⟩
  rw [← ex2_1]
  replace hF := bnd_of hF ex2_1
  refine lv_istore_n (lv' := [(2, .int (x2_1)), (0, .ref (ad (11 + 5 * i0))), (1, .int (p1))]) hx hb dX2_slotAddress_6 rfl hl (by decide) rfl (fun ls hl => ?_)
  refine lv_iload_n hx hb dX2_slotAddress_7 rfl (lv_at hl 0 rfl) ?_
  refine lv_if_lt (tgt := 19) hx hb dX2_slotAddress_8 (by decide) (fun hc2 => ?_) (fun hc2 => ?_)
  · replace hF := br_yes hF hc2
    exact J19  _ _ _ _ _ hF (lv_sub hl [1] rfl) hP hS
  · replace hF := br_no hF hc2
    refine lv_iload_n hx hb dX2_slotAddress_11 rfl (lv_at hl 0 rfl) ?_
    refine lv_aload_n hx hb dX2_slotAddress_12 rfl (lv_at hl 1 rfl) ?_
    refine cg_X2_length hi0 hx hb hT hown hK hP mw23_17 dX2_slotAddress_13 ?_
    refine lv_icmp_lt (tgt := 21) hx hb dX2_slotAddress_16 (by decide) (fun hc3 => ?_) (fun hc3 => ?_)
    · replace hF := br_yes hF hc3
      refine lv_aload_n hx hb dX2_slotAddress_21 rfl (lv_at hl 1 rfl) ?_
      refine cg_X2_addresses hi0 hx hb hT hown hK hP mw5_18 dX2_slotAddress_22 ?_
      refine lv_iload_n hx hb dX2_slotAddress_25 rfl (lv_at hl 0 rfl) ?_
      replace hF := gd_of hF
      obtain ⟨hi4, hF⟩ := hF
      refine cl_addresses hi0 hx hb hK hP hi4 dX2_slotAddress_26 ?_
      refine lv_iload_n hx hb dX2_slotAddress_27 rfl (lv_at hl 2 rfl) ?_
      refine lv_iload_n hx hb dX2_slotAddress_28 rfl (lv_at hl 0 rfl) ?_
      refine lv_aload_n hx hb dX2_slotAddress_29 rfl (lv_at hl 1 rfl) ?_
      refine cg_X2_slotShift hi0 hx hb hT hown hK hP mw23_19 dX2_slotAddress_30 ?_
      refine lv_ishl hx hb dX2_slotAddress_33 ?_
      refine lv_isub hx hb dX2_slotAddress_34 ?_
      refine lv_bipush (v := (32 : Int32)) hx hb dX2_slotAddress_35 (by decide) ?_
      refine lv_imul hx hb dX2_slotAddress_37 ?_
      refine lv_iadd hx hb dX2_slotAddress_38 ?_
      exact rC_i hx hb hr hlocks hF hP hS dX2_slotAddress_39
    · replace hF := br_no hF hc3
      exact J19  _ _ _ _ _ hF (lv_sub hl [1] rfl) hP hS
theorem cw_X2_slotAddress : (Cond.instanceMethod yX2_slotAddress ∈ TB ∧ Cond.selects RX2 yX2_slotAddress yX2_slotAddress ∈ TB ∧ Cond.code yX2_slotAddress cX2_slotAddress 3 (some .int) ∈ TB ∧ Cond.initialized RX2 ∈ TB) ∧ (yX2_slotAddress.cls = RX2 ∧ yX2_slotAddress.cls ≠ "java/lang/invoke/MethodHandle" ∧ yX2_slotAddress.cls ≠ "java/lang/invoke/VarHandle" ∧ (parseMethodDescriptor yX2_slotAddress.desc).map (fun d => d.parameters.length) = some 1) := ⟨⟨mw24_10, mw24_11, mw24_12, mw2_18⟩, by decide +kernel⟩
