/-! X3_firstCluster -/
noncomputable def FX3_firstCluster (nf : Nat) (ln : LN) (fi : FI) (ar : AR) (x1 : Int32) : Option (Int32 × FI × AR) :=
  obnd3 (FX3_two nf ln fi ar ((x1) + (20 : Int32))) fun r4 fi2 ar3 => obnd3 (FX3_two nf ln fi2 ar3 ((x1) + (26 : Int32))) fun r8 fi6 ar7 => some ((((r4) <<< ((16 : Int32) &&& 31)) ||| (r8)), fi6, ar7)
set_option maxHeartbeats 4000000 in
set_option maxRecDepth 100000 in
theorem kX3_firstCluster (l : Launch) (g : GT) (ad rd : Nat → Nat) (sz : Nat) (nf : Nat) (ln : LN) (fi : FI) (ar : AR) (p1 : Int32) (r : Int32) (fi' : FI) (ar' : AR) (hF : FX3_firstCluster nf ln fi ar p1 = some (r, fi', ar')) : Met l yX3_firstCluster (wx yX3_firstCluster cX3_firstCluster 2 (some .int)) ({ frames := 1, cells := 0, slots := 0, locals := 24 } : Room) (va_Pc [.ref (ad (1)), .int p1] (PC g ad rd ln sz fi ar)) (QCi g ad rd ln sz r fi' ar') 0 0 (AC ad rd sz) := by
  refine Met.ofW (cc := cX3_firstCluster) (maxL := 2) (ret := (some .int)) (by decide) rfl ?_
  intro p e s m args below meth c s₁ B hml hv
  obtain ⟨rfl, hsz, hP, hK, hD0, hE⟩ := hv
  have hx := B.exec
  have hb := B.bytes
  have hr := B.returns
  have hts := atoms_spec (ws := (wx yX3_firstCluster cX3_firstCluster 2 (some .int))) B.pre
  have hT : ∀ w ∈ TB, w.before _ s = true := fun w h => hts w (List.mem_cons_of_mem _ h)
  have hown : s.vm.findClass RX3 = some m.cls := findClass_of_methodNamed B.named
  have hlocks := B.notSynchronized
  subst hsz
  have hD := dC hD0 s.heap.size
  have hA : ∀ q : Nat, s.heap.size ≤ q → AC ad rd s.heap.size q := fun q h => Or.inr h
  have hS : va_S (AC ad rd s.heap.size) s.heap s.heap [] := va_S.rf
  have hl := lv_entry ([.ref (ad (1)), .int p1]) (n := 2) (Nat.le_of_ble_eq_true rfl)
  rw [lg_entry_eq]
  generalize (lg_sl ([.ref (ad (1)), .int p1]) ++ List.replicate (2 - (lg_sl ([.ref (ad (1)), .int p1])).length) Slot.unset).toArray = ls at hl ⊢
  have hl : lv_has ls 2 [(0, .ref (ad (1))), (1, .int p1)] := hl
  unfold FX3_firstCluster at hF
  replace hl := lv_sub hl [0, 1] rfl
  refine lv_aload_n hx hb dX3_firstCluster_0 rfl (lv_at hl 0 rfl) ?_
  refine lv_iload_n hx hb dX3_firstCluster_1 rfl (lv_at hl 1 rfl) ?_
  refine lv_bipush (v := (20 : Int32)) hx hb dX3_firstCluster_2 (by decide) ?_
  refine lv_iadd hx hb dX3_firstCluster_4 ?_
  replace hF := obnd3_of hF
  obtain ⟨r4, fi2, ar3, h1, hF⟩ := hF
  refine cC_i (As := [.int ((p1) + (20 : Int32))]) (rest := []) hx hb hml hT hown hK hE hD hA hP hS (rcv_X3 hK hP) (kX3_two l g ad rd _ nf ln fi ar ((p1) + (20 : Int32)) r4 fi2 ar3 h1) cw_X3_two mw24_18 ⟨⟨rfl, rfl⟩, Nat.le_of_ble_eq_true rfl, Nat.le_of_ble_eq_true rfl⟩ rfl hl.1 rfl (Nat.le_of_ble_eq_true rfl) dX3_firstCluster_5 ⟨Nat.zero_le _, Nat.zero_le _⟩ (fun H locs hP hS => ?_)
  refine lv_bipush (v := (16 : Int32)) hx hb dX3_firstCluster_8 (by decide) ?_
  refine lv_ishl hx hb dX3_firstCluster_10 ?_
  refine lv_aload_n hx hb dX3_firstCluster_11 rfl (lv_at hl 0 rfl) ?_
  refine lv_iload_n hx hb dX3_firstCluster_12 rfl (lv_at hl 1 rfl) ?_
  refine lv_bipush (v := (26 : Int32)) hx hb dX3_firstCluster_13 (by decide) ?_
  refine lv_iadd hx hb dX3_firstCluster_15 ?_
  replace hF := obnd3_of hF
  obtain ⟨r8, fi6, ar7, h5, hF⟩ := hF
  refine cC_i (As := [.int ((p1) + (26 : Int32))]) (rest := [.int ((r4) <<< ((16 : Int32) &&& 31))]) hx hb hml hT hown hK hE hD hA hP hS (rcv_X3 hK hP) (kX3_two l g ad rd _ nf ln fi2 ar3 ((p1) + (26 : Int32)) r8 fi6 ar7 h5) cw_X3_two mw24_18 ⟨⟨rfl, rfl⟩, Nat.le_of_ble_eq_true rfl, Nat.le_of_ble_eq_true rfl⟩ rfl hl.1 rfl (Nat.le_of_ble_eq_true rfl) dX3_firstCluster_16 ⟨Nat.zero_le _, Nat.zero_le _⟩ (fun H locs hP hS => ?_)
  refine lv_ior hx hb dX3_firstCluster_19 ?_
  exact rC_i hx hb hr hlocks hF hP hS dX3_firstCluster_20
theorem cw_X3_firstCluster : (Cond.instanceMethod yX3_firstCluster ∈ TB ∧ Cond.selects RX3 yX3_firstCluster yX3_firstCluster ∈ TB ∧ Cond.code yX3_firstCluster cX3_firstCluster 2 (some .int) ∈ TB ∧ Cond.initialized RX3 ∈ TB) ∧ (yX3_firstCluster.cls = RX3 ∧ yX3_firstCluster.cls ≠ "java/lang/invoke/MethodHandle" ∧ yX3_firstCluster.cls ≠ "java/lang/invoke/VarHandle" ∧ (parseMethodDescriptor yX3_firstCluster.desc).map (fun d => d.parameters.length) = some 1) := ⟨⟨mw24_15, mw24_16, mw24_17, mw2_2⟩, by decide +kernel⟩
/-! X0_pointsAsTold -/
noncomputable def FX0_pointsAsTold_87 (nf : Nat) (ln : LN) (t0 : Int32) (fi : FI) (ar : AR) : Option (Int32 × FI × AR) :=
  gd ((t0) &&& 1 = (t0)) (some ((t0), fi, ar))
noncomputable def FX0_pointsAsTold_86 (nf : Nat) (ln : LN)  (fi : FI) (ar : AR) : Option (Int32 × FI × AR) :=
  FX0_pointsAsTold_87 nf ln  (0 : Int32) fi ar
noncomputable def FX0_pointsAsTold_43 (K12 : Int32 → Int32 → Int32 → Int32 → FI → AR → Option (Int32 × FI × AR)) (nf : Nat) (ln : LN) (x1 : Int32) (x2 : Int32) (x3 : Int32) (x4 : Int32) (t0 : Int32) (t1 : Int32) (fi : FI) (ar : AR) : Option (Int32 × FI × AR) :=
  br ((t0) = (t1)) (bnd ((x4) + (1 : Int32)) fun x4_3 => K12 (x1) (x2) (x3) (x4_3) fi ar) (some ((0 : Int32), fi, ar))
noncomputable def FX0_pointsAsTold_12b (K12 : Int32 → Int32 → Int32 → Int32 → FI → AR → Option (Int32 × FI × AR)) (nf : Nat) (ln : LN) (x1 : Int32) (x2 : Int32) (x3 : Int32) (x4 : Int32) (fi : FI) (ar : AR) : Option (Int32 × FI × AR) :=
  br ((11 : Int32) ≤ (x4)) (obnd3 (FX3_one nf ln fi ar ((x3) + (11 : Int32))) fun r8 fi6 ar7 => br ((r8) = (16 : Int32)) (obnd3 (FX3_firstCluster nf ln fi6 ar7 (x3)) fun r13 fi11 ar12 => br ((r13) = (x2)) (FX0_pointsAsTold_87 nf ln  (1 : Int32) fi11 ar12) (FX0_pointsAsTold_86 nf ln  fi11 ar12)) (FX0_pointsAsTold_86 nf ln  fi6 ar7)) (obnd3 (FX3_one nf ln fi ar ((x3) + (x4))) fun r18 fi16 ar17 => br ((x1) < (x4)) (FX0_pointsAsTold_43 K12 nf ln  (x1) (x2) (x3) (x4) (r18) (32 : Int32) fi16 ar17) (FX0_pointsAsTold_43 K12 nf ln  (x1) (x2) (x3) (x4) (r18) (46 : Int32) fi16 ar17))
noncomputable def FX0_pointsAsTold_12 (nf : Nat) (ln : LN) (kf : Nat) : Int32 → Int32 → Int32 → Int32 → FI → AR → Option (Int32 × FI × AR) := Nat.rec (fun _ _ _ _ _ _ => none) (fun _ K12 => FX0_pointsAsTold_12b K12 nf ln) kf
noncomputable def FX0_pointsAsTold (nf : Nat) (ln : LN) (fi : FI) (ar : AR) (x1 : Int32) (x2 : Int32) : Option (Int32 × FI × AR) :=
  obnd3 (FX2_slotAddress nf ln 2 fi ar (x1)) fun r23 fi21 ar22 => FX0_pointsAsTold_12 nf ln nf (x1) (x2) (r23) (0 : Int32) fi21 ar22
set_option maxHeartbeats 4000000 in
set_option maxRecDepth 100000 in
theorem kX0_pointsAsTold (l : Launch) (g : GT) (ad rd : Nat → Nat) (sz : Nat) (nf : Nat) (ln : LN) (fi : FI) (ar : AR) (p1 : Int32) (p2 : Int32) (r : Int32) (fi' : FI) (ar' : AR) (hF : FX0_pointsAsTold nf ln fi ar p1 p2 = some (r, fi', ar')) : Met l yX0_pointsAsTold (wx yX0_pointsAsTold cX0_pointsAsTold 5 (some .boolean)) ({ frames := 2, cells := 0, slots := 0, locals := 45 } : Room) (va_Pc [.ref (ad (7)), .int p1, .int p2] (PC g ad rd ln sz fi ar)) (QCi g ad rd ln sz r fi' ar') 0 0 (AC ad rd sz) := by
  refine Met.ofW (cc := cX0_pointsAsTold) (maxL := 5) (ret := (some .boolean)) (by decide) rfl ?_
  intro p e s m args below meth c s₁ B hml hv
  obtain ⟨rfl, hsz, hP, hK, hD0, hE⟩ := hv
  have hx := B.exec
  have hb := B.bytes
  have hr := B.returns
  have hts := atoms_spec (ws := (wx yX0_pointsAsTold cX0_pointsAsTold 5 (some .boolean))) B.pre
  have hT : ∀ w ∈ TB, w.before _ s = true := fun w h => hts w (List.mem_cons_of_mem _ h)
  have hown : s.vm.findClass RX0 = some m.cls := findClass_of_methodNamed B.named
  have hlocks := B.notSynchronized
  subst hsz
  have hD := dC hD0 s.heap.size
  have hA : ∀ q : Nat, s.heap.size ≤ q → AC ad rd s.heap.size q := fun q h => Or.inr h
  have hS : va_S (AC ad rd s.heap.size) s.heap s.heap [] := va_S.rf
  have hl := lv_entry ([.ref (ad (7)), .int p1, .int p2]) (n := 5) (Nat.le_of_ble_eq_true rfl)
  rw [lg_entry_eq]
  generalize (lg_sl ([.ref (ad (7)), .int p1, .int p2]) ++ List.replicate (5 - (lg_sl ([.ref (ad (7)), .int p1, .int p2])).length) Slot.unset).toArray = ls at hl ⊢
  have hl : lv_has ls 5 [(0, .ref (ad (7))), (1, .int p1), (2, .int p2)] := hl
  unfold FX0_pointsAsTold at hF
  have J87 : ∀ (t0 : Int32) (fi : FI) (ar : AR) (H : Heap) (locs : List Loc) (ls : Array Slot), FX0_pointsAsTold_87 nf ln t0 fi ar = some (r, fi', ar') → lv_has ls 5 [(0, .ref (ad (7)))] → va_P (gD g) vwCl (WC g ad rd ln fi ar) H → va_S (AC ad rd s.heap.size) s.heap H locs → W p l e (headSpec (wx yX0_pointsAsTold cX0_pointsAsTold 5 (some .boolean)) ({ frames := 2, cells := 0, slots := 0, locals := 45 } : Room)).room s m ([.ref (ad (7)), .int p1, .int p2] : List Value).toArray below meth c H locs 0 0 (MQ below (QCi g ad rd ln s.heap.size r fi' ar') ([.ref (ad (7)), .int p1, .int p2] : List Value).toArray s 0 0 (AC ad rd s.heap.size)) (F0 m 87 ls [.int t0]) := by
    intro t0 fi ar H locs ls hF hl hP hS
    unfold FX0_pointsAsTold_87 at hF
    replace hF := gd_of hF
    obtain ⟨hz1, hF⟩ := hF
    exact rC_z hx hb hr hlocks (nar_z hz1) hF hP hS dX0_pointsAsTold_87
  have J86 : ∀  (fi : FI) (ar : AR) (H : Heap) (locs : List Loc) (ls : Array Slot), FX0_pointsAsTold_86 nf ln fi ar = some (r, fi', ar') → lv_has ls 5 [(0, .ref (ad (7)))] → va_P (gD g) vwCl (WC g ad rd ln fi ar) H → va_S (AC ad rd s.heap.size) s.heap H locs → W p l e (headSpec (wx yX0_pointsAsTold cX0_pointsAsTold 5 (some .boolean)) ({ frames := 2, cells := 0, slots := 0, locals := 45 } : Room)).room s m ([.ref (ad (7)), .int p1, .int p2] : List Value).toArray below meth c H locs 0 0 (MQ below (QCi g ad rd ln s.heap.size r fi' ar') ([.ref (ad (7)), .int p1, .int p2] : List Value).toArray s 0 0 (AC ad rd s.heap.size)) (F0 m 86 ls []) := by
    intro fi ar H locs ls hF hl hP hS
    unfold FX0_pointsAsTold_86 at hF
    refine lv_iconst (v := (0 : Int32)) hx hb dX0_pointsAsTold_86 (by decide) ?_
    exact J87 (0 : Int32) _ _ _ _ _ hF (lv_sub hl [0] rfl) hP hS
  have L12 : ∀ kf : Nat, ∀ (x1 : Int32) (x2 : Int32) (x3 : Int32) (x4 : Int32) (fi : FI) (ar : AR) (H : Heap) (locs : List Loc) (ls : Array Slot), FX0_pointsAsTold_12 nf ln kf x1 x2 x3 x4 fi ar = some (r, fi', ar') → lv_has ls 5 [(0, .ref (ad (7))), (1, .int x1), (2, .int x2), (3, .int x3), (4, .int x4)] → va_P (gD g) vwCl (WC g ad rd ln fi ar) H → va_S (AC ad rd s.heap.size) s.heap H locs → W p l e (headSpec (wx yX0_pointsAsTold cX0_pointsAsTold 5 (some .boolean)) ({ frames := 2, cells := 0, slots := 0, locals := 45 } : Room)).room s m ([.ref (ad (7)), .int p1, .int p2] : List Value).toArray below meth c H locs 0 0 (MQ below (QCi g ad rd ln s.heap.size r fi' ar') ([.ref (ad (7)), .int p1, .int p2] : List Value).toArray s 0 0 (AC ad rd s.heap.size)) (F0 m 12 ls []) := by
    intro kf
    induction kf with
    | zero => intro x1 x2 x3 x4 fi ar H locs ls hF hl hP hS; cases (show (none : Option (Int32 × FI × AR)) = _ from hF)
    | succ kf ih12 =>
      intro x1 x2 x3 x4 fi ar H locs ls hF hl hP hS
      obtain ⟨K12, hK12⟩ : ∃ K : Int32 → Int32 → Int32 → Int32 → FI → AR → Option (Int32 × FI × AR), K = FX0_pointsAsTold_12 nf ln kf := ⟨_, rfl⟩
      replace hF : FX0_pointsAsTold_12b K12 nf ln x1 x2 x3 x4 fi ar = some (r, fi', ar') := by rw [hK12]; exact hF
      rw [← hK12] at ih12
      clear hK12
      have J43 : ∀ (x1 : Int32) (x2 : Int32) (x3 : Int32) (x4 : Int32) (t0 : Int32) (t1 : Int32) (fi : FI) (ar : AR) (H : Heap) (locs : List Loc) (ls : Array Slot), FX0_pointsAsTold_43 K12 nf ln x1 x2 x3 x4 t0 t1 fi ar = some (r, fi', ar') → lv_has ls 5 [(0, .ref (ad (7))), (1, .int x1), (2, .int x2), (3, .int x3), (4, .int x4)] → va_P (gD g) vwCl (WC g ad rd ln fi ar) H → va_S (AC ad rd s.heap.size) s.heap H locs → W p l e (headSpec (wx yX0_pointsAsTold cX0_pointsAsTold 5 (some .boolean)) ({ frames := 2, cells := 0, slots := 0, locals := 45 } : Room)).room s m ([.ref (ad (7)), .int p1, .int p2] : List Value).toArray below meth c H locs 0 0 (MQ below (QCi g ad rd ln s.heap.size r fi' ar') ([.ref (ad (7)), .int p1, .int p2] : List Value).toArray s 0 0 (AC ad rd s.heap.size)) (F0 m 43 ls [.int t1, .int t0]) := by
        intro x1 x2 x3 x4 t0 t1 fi ar H locs ls hF hl hP hS
        unfold FX0_pointsAsTold_43 at hF
        refine lv_icmp_eq (tgt := 48) hx hb dX0_pointsAsTold_43 (by decide) (fun hc2 => ?_) (fun hc2 => ?_)
        · replace hF := br_yes hF hc2
          obtain ⟨x4_3, ex4_3⟩ : ∃ y : Int32, y = (x4) + (1 : Int32) := ⟨_, rfl⟩
          replace hF := bnd_of hF ex4_3
          refine lv_iinc (v := x4_3) (lv' := [(4, .int (x4_3)), (0, .ref (ad (7))), (1, .int (x1)), (2, .int (x2)), (3, .int (x3))]) hx hb dX0_pointsAsTold_48 hl (k := 4) rfl (by rw [ex4_3]; rfl) (by decide) rfl (fun ls hl => ?_)
          refine lv_goto (tgt := 12) hx hb dX0_pointsAsTold_51 (by decide) ?_
          exact ih12 (x1) (x2) (x3) (x4_3) _ _ _ _ _ hF (lv_sub hl [1, 2, 3, 4, 0] rfl) hP hS
        · replace hF := br_no hF hc2
          refine lv_iconst (v := (0 : Int32)) hx hb dX0_pointsAsTold_46 (by decide) ?_
          exact rC_z hx hb hr hlocks rfl hF hP hS dX0_pointsAsTold_47
      unfold FX0_pointsAsTold_12b at hF
      refine lv_iload hx hb dX0_pointsAsTold_12 (lv_at hl 4 rfl) ?_
      refine lv_bipush (v := (11 : Int32)) hx hb dX0_pointsAsTold_14 (by decide) ?_
      refine lv_icmp_ge (tgt := 54) hx hb dX0_pointsAsTold_16 (by decide) (fun hc4 => ?_) (fun hc4 => ?_)
      · replace hF := br_yes hF hc4
        refine lv_aload_n hx hb dX0_pointsAsTold_54 rfl (lv_at hl 0 rfl) ?_
        refine cg_X0_disk hx hb hT hown hK hP mw4_14 dX0_pointsAsTold_55 ?_
        refine lv_iload_n hx hb dX0_pointsAsTold_58 rfl (lv_at hl 3 rfl) ?_
        refine lv_bipush (v := (11 : Int32)) hx hb dX0_pointsAsTold_59 (by decide) ?_
        refine lv_iadd hx hb dX0_pointsAsTold_61 ?_
        replace hF := obnd3_of hF
        obtain ⟨r8, fi6, ar7, h5, hF⟩ := hF
        refine cC_i (As := [.int ((x3) + (11 : Int32))]) (rest := []) hx hb hml hT hown hK hE hD hA hP hS (rcv_X3 hK hP) (kX3_one l g ad rd _ nf ln fi ar ((x3) + (11 : Int32)) r8 fi6 ar7 h5) cw_X3_one mw24_13 ⟨⟨rfl, rfl⟩, Nat.le_of_ble_eq_true rfl, Nat.le_of_ble_eq_true rfl⟩ rfl hl.1 rfl (Nat.le_of_ble_eq_true rfl) dX0_pointsAsTold_62 ⟨Nat.zero_le _, Nat.zero_le _⟩ (fun H locs hP hS => ?_)
        refine lv_bipush (v := (16 : Int32)) hx hb dX0_pointsAsTold_65 (by decide) ?_
        refine lv_icmp_ne (tgt := 86) hx hb dX0_pointsAsTold_67 (by decide) (fun hc9 => ?_) (fun hc9 => ?_)
        · replace hF := br_no hF hc9
          exact J86  _ _ _ _ _ hF (lv_sub hl [0] rfl) hP hS
        · replace hF := br_yes hF hc9
          refine lv_aload_n hx hb dX0_pointsAsTold_70 rfl (lv_at hl 0 rfl) ?_
          refine cg_X0_disk hx hb hT hown hK hP mw4_14 dX0_pointsAsTold_71 ?_
          refine lv_iload_n hx hb dX0_pointsAsTold_74 rfl (lv_at hl 3 rfl) ?_
          replace hF := obnd3_of hF
          obtain ⟨r13, fi11, ar12, h10, hF⟩ := hF
          refine cC_i (As := [.int (x3)]) (rest := []) hx hb hml hT hown hK hE hD hA hP hS (rcv_X3 hK hP) (kX3_firstCluster l g ad rd _ nf ln fi6 ar7 (x3) r13 fi11 ar12 h10) cw_X3_firstCluster mw24_14 ⟨⟨rfl, rfl⟩, Nat.le_of_ble_eq_true rfl, Nat.le_of_ble_eq_true rfl⟩ rfl hl.1 rfl (Nat.le_of_ble_eq_true rfl) dX0_pointsAsTold_75 ⟨Nat.zero_le _, Nat.zero_le _⟩ (fun H locs hP hS => ?_)
          refine lv_iload_n hx hb dX0_pointsAsTold_78 rfl (lv_at hl 2 rfl) ?_
          refine lv_icmp_ne (tgt := 86) hx hb dX0_pointsAsTold_79 (by decide) (fun hc14 => ?_) (fun hc14 => ?_)
          · replace hF := br_no hF hc14
            exact J86  _ _ _ _ _ hF (lv_sub hl [0] rfl) hP hS
          · replace hF := br_yes hF hc14
            refine lv_iconst (v := (1 : Int32)) hx hb dX0_pointsAsTold_82 (by decide) ?_
            refine lv_goto (tgt := 87) hx hb dX0_pointsAsTold_83 (by decide) ?_
            exact J87 (1 : Int32) _ _ _ _ _ hF (lv_sub hl [0] rfl) hP hS
      · replace hF := br_no hF hc4
        refine lv_aload_n hx hb dX0_pointsAsTold_19 rfl (lv_at hl 0 rfl) ?_
        refine cg_X0_disk hx hb hT hown hK hP mw4_14 dX0_pointsAsTold_20 ?_
        refine lv_iload_n hx hb dX0_pointsAsTold_23 rfl (lv_at hl 3 rfl) ?_
        refine lv_iload hx hb dX0_pointsAsTold_24 (lv_at hl 4 rfl) ?_
        refine lv_iadd hx hb dX0_pointsAsTold_26 ?_
        replace hF := obnd3_of hF
        obtain ⟨r18, fi16, ar17, h15, hF⟩ := hF
        refine cC_i (As := [.int ((x3) + (x4))]) (rest := []) hx hb hml hT hown hK hE hD hA hP hS (rcv_X3 hK hP) (kX3_one l g ad rd _ nf ln fi ar ((x3) + (x4)) r18 fi16 ar17 h15) cw_X3_one mw24_13 ⟨⟨rfl, rfl⟩, Nat.le_of_ble_eq_true rfl, Nat.le_of_ble_eq_true rfl⟩ rfl hl.1 rfl (Nat.le_of_ble_eq_true rfl) dX0_pointsAsTold_27 ⟨Nat.zero_le _, Nat.zero_le _⟩ (fun H locs hP hS => ?_)
        refine lv_iload hx hb dX0_pointsAsTold_30 (lv_at hl 4 rfl) ?_
        refine lv_iload_n hx hb dX0_pointsAsTold_32 rfl (lv_at hl 1 rfl) ?_
        refine lv_icmp_gt (tgt := 41) hx hb dX0_pointsAsTold_33 (by decide) (fun hc19 => ?_) (fun hc19 => ?_)
        · replace hF := br_yes hF hc19
          refine lv_bipush (v := (32 : Int32)) hx hb dX0_pointsAsTold_41 (by decide) ?_
          exact J43 (x1) (x2) (x3) (x4) (r18) (32 : Int32) _ _ _ _ _ hF (lv_sub hl [0, 1, 2, 3, 4] rfl) hP hS
        · replace hF := br_no hF hc19
          refine lv_bipush (v := (46 : Int32)) hx hb dX0_pointsAsTold_36 (by decide) ?_
          refine lv_goto (tgt := 43) hx hb dX0_pointsAsTold_38 (by decide) ?_
          exact J43 (x1) (x2) (x3) (x4) (r18) (46 : Int32) _ _ _ _ _ hF (lv_sub hl [0, 1, 2, 3, 4] rfl) hP hS
  replace hl := lv_sub hl [0, 1, 2] rfl
  refine lv_aload_n hx hb dX0_pointsAsTold_0 rfl (lv_at hl 0 rfl) ?_
  refine cg_X0_directory hx hb hT hown hK hP mw4_16 dX0_pointsAsTold_1 ?_
  refine lv_iload_n hx hb dX0_pointsAsTold_4 rfl (lv_at hl 1 rfl) ?_
  replace hF := obnd3_of hF
  obtain ⟨r23, fi21, ar22, h20, hF⟩ := hF
  refine cC_i (As := [.int (p1)]) (rest := []) hx hb hml hT hown hK hE hD hA hP hS (rcv_X2 (by decide) hK hP) (kX2_slotAddress l g ad rd _ nf ln 2 (by decide) fi ar (p1) r23 fi21 ar22 h20) cw_X2_slotAddress mw24_9 ⟨⟨rfl, rfl⟩, Nat.le_of_ble_eq_true rfl, Nat.le_of_ble_eq_true rfl⟩ rfl hl.1 rfl (Nat.le_of_ble_eq_true rfl) dX0_pointsAsTold_5 ⟨Nat.zero_le _, Nat.zero_le _⟩ (fun H locs hP hS => ?_)
  refine lv_istore_n (lv' := [(3, .int (r23)), (0, .ref (ad (7))), (1, .int (p1)), (2, .int (p2))]) hx hb dX0_pointsAsTold_8 rfl hl (by decide) rfl (fun ls hl => ?_)
  refine lv_iconst (v := (0 : Int32)) hx hb dX0_pointsAsTold_9 (by decide) ?_
  refine lv_istore (lv' := [(4, .int (0 : Int32)), (3, .int (r23)), (0, .ref (ad (7))), (1, .int (p1)), (2, .int (p2))]) hx hb dX0_pointsAsTold_10 hl (by decide) rfl (fun ls hl => ?_)
  exact L12 nf (p1) (p2) (r23) (0 : Int32) _ _ _ _ _ hF (lv_sub hl [2, 3, 4, 1, 0] rfl) hP hS
theorem cw_X0_pointsAsTold : (Cond.instanceMethod yX0_pointsAsTold ∈ TB ∧ Cond.selects RX0 yX0_pointsAsTold yX0_pointsAsTold ∈ TB ∧ Cond.code yX0_pointsAsTold cX0_pointsAsTold 5 (some .boolean) ∈ TB ∧ Cond.initialized RX0 ∈ TB) ∧ (yX0_pointsAsTold.cls = RX0 ∧ yX0_pointsAsTold.cls ≠ "java/lang/invoke/MethodHandle" ∧ yX0_pointsAsTold.cls ≠ "java/lang/invoke/VarHandle" ∧ (parseMethodDescriptor yX0_pointsAsTold.desc).map (fun d => d.parameters.length) = some 2) := ⟨⟨mw24_6, mw24_7, mw24_8, mw2_14⟩, by decide +kernel⟩
/-! X1_daysOfMonth -/
noncomputable def FX1_daysOfMonth_61 (nf : Nat) (t0 : Int32) : Option Int32 :=
  some (t0)
noncomputable def FX1_daysOfMonth_54 (nf : Nat) (x1 : Int32) : Option Int32 :=
  gd (¬ (((x1) - (1 : Int32)) < 0 ∨ 12 ≤ ((x1) - (1 : Int32)).toNatClampNeg)) (FX1_daysOfMonth_61 nf  (tMon.getD ((x1) - (1 : Int32)).toNatClampNeg 0))
noncomputable def FX1_daysOfMonth_39 (nf : Nat) (x1 : Int32) (t0 : Int32) : Option Int32 :=
  br ((x1) = (2 : Int32)) (br ((t0) = 0) (FX1_daysOfMonth_54 nf  (x1)) (FX1_daysOfMonth_61 nf  (29 : Int32))) (FX1_daysOfMonth_54 nf  (x1))
noncomputable def FX1_daysOfMonth_38 (nf : Nat) (x1 : Int32) : Option Int32 :=
  FX1_daysOfMonth_39 nf  (x1) (0 : Int32)
noncomputable def FX1_daysOfMonth_34 (nf : Nat) (x1 : Int32) : Option Int32 :=
  FX1_daysOfMonth_39 nf  (x1) (1 : Int32)
noncomputable def FX1_daysOfMonth_11 (nf : Nat)  : Option Int32 :=
  some (0 : Int32)
noncomputable def FX1_daysOfMonth (nf : Nat) (x0 : Int32) (x1 : Int32) : Option Int32 :=
  br ((x1) < (1 : Int32)) (FX1_daysOfMonth_11 nf) (br ((x1) ≤ (12 : Int32)) (br (((x0) - (x0) / (4 : Int32) * (4 : Int32)) = 0) (br (((x0) - (x0) / (100 : Int32) * (100 : Int32)) = 0) (br (((x0) - (x0) / (400 : Int32) * (400 : Int32)) = 0) (FX1_daysOfMonth_34 nf  (x1)) (FX1_daysOfMonth_38 nf  (x1))) (FX1_daysOfMonth_34 nf  (x1))) (FX1_daysOfMonth_38 nf  (x1))) (FX1_daysOfMonth_11 nf))
set_option maxHeartbeats 4000000 in
set_option maxRecDepth 100000 in
theorem kX1_daysOfMonth (l : Launch) (g : GT) (nf : Nat) (p0 : Int32) (p1 : Int32) (r : Int32) (hF : FX1_daysOfMonth nf p0 p1 = some r) : Met l yX1_daysOfMonth (wx yX1_daysOfMonth cX1_daysOfMonth 3 (some .int)) ({ frames := 0, cells := 0, slots := 0, locals := 0 } : Room) (va_Pc [.int p0, .int p1] (PS g)) (QSi r) 0 0 noA := by
  refine Met.ofW (cc := cX1_daysOfMonth) (maxL := 3) (ret := (some .int)) (by decide) rfl ?_
  intro p e s m args below meth c s₁ B hml hv
  obtain ⟨rfl, hE⟩ := hv
  have hx := B.exec
  have hb := B.bytes
  have hr := B.returns
  have hts := atoms_spec (ws := (wx yX1_daysOfMonth cX1_daysOfMonth 3 (some .int))) B.pre
  have hT : ∀ w ∈ TB, w.before _ s = true := fun w h => hts w (List.mem_cons_of_mem _ h)
  have hown : s.vm.findClass RX1 = some m.cls := findClass_of_methodNamed B.named
  have hlocks := B.notSynchronized
  have hS : va_S noA s.heap s.heap [] := va_S.rf
  have hP : va_P (gD g) vwCl [] s.heap := fun k q h => by cases h
  have hl := lv_entry ([.int p0, .int p1]) (n := 3) (Nat.le_of_ble_eq_true rfl)
  rw [lg_entry_eq]
  generalize (lg_sl ([.int p0, .int p1]) ++ List.replicate (3 - (lg_sl ([.int p0, .int p1])).length) Slot.unset).toArray = ls at hl ⊢
  have hl : lv_has ls 3 [(0, .int p0), (1, .int p1)] := hl
  unfold FX1_daysOfMonth at hF
  have J61 : ∀ (t0 : Int32) (H : Heap) (locs : List Loc) (ls : Array Slot), FX1_daysOfMonth_61 nf t0 = some r → lv_has ls 3 [] → va_P (gD g) vwCl [] H → va_S noA s.heap H locs → W p l e (headSpec (wx yX1_daysOfMonth cX1_daysOfMonth 3 (some .int)) ({ frames := 0, cells := 0, slots := 0, locals := 0 } : Room)).room s m ([.int p0, .int p1] : List Value).toArray below meth c H locs 0 0 (MQ below (QSi r) ([.int p0, .int p1] : List Value).toArray s 0 0 noA) (F0 m 61 ls [.int t0]) := by
    intro t0 H locs ls hF hl hP hS
    unfold FX1_daysOfMonth_61 at hF
    exact rS_i hx hb hr hlocks hF hS dX1_daysOfMonth_61
  have J54 : ∀ (x1 : Int32) (H : Heap) (locs : List Loc) (ls : Array Slot), FX1_daysOfMonth_54 nf x1 = some r → lv_has ls 3 [(1, .int x1)] → va_P (gD g) vwCl [] H → va_S noA s.heap H locs → W p l e (headSpec (wx yX1_daysOfMonth cX1_daysOfMonth 3 (some .int)) ({ frames := 0, cells := 0, slots := 0, locals := 0 } : Room)).room s m ([.int p0, .int p1] : List Value).toArray below meth c H locs 0 0 (MQ below (QSi r) ([.int p0, .int p1] : List Value).toArray s 0 0 noA) (F0 m 54 ls []) := by
    intro x1 H locs ls hF hl hP hS
    unfold FX1_daysOfMonth_54 at hF
    refine va_gets hx hb hE.1.2.2.1 hS hown (hT _ mw25_11) (fun _ h => h) dX1_daysOfMonth_54 ?_
    refine lv_iload_n hx hb dX1_daysOfMonth_57 rfl (lv_at hl 0 rfl) ?_
    refine lv_iconst (v := (1 : Int32)) hx hb dX1_daysOfMonth_58 (by decide) ?_
    refine lv_isub hx hb dX1_daysOfMonth_59 ?_
    replace hF := gd_of hF
    obtain ⟨hi1, hF⟩ := hF
    refine va_ti hx hb hE.1.2.2.2.1 hS hi1 rfl dX1_daysOfMonth_60 ?_
    exact J61 (tMon.getD ((x1) - (1 : Int32)).toNatClampNeg 0)  _ _ _ hF (lv_sub hl [] rfl) hP hS
  have J39 : ∀ (x1 : Int32) (t0 : Int32) (H : Heap) (locs : List Loc) (ls : Array Slot), FX1_daysOfMonth_39 nf x1 t0 = some r → lv_has ls 3 [(1, .int x1)] → va_P (gD g) vwCl [] H → va_S noA s.heap H locs → W p l e (headSpec (wx yX1_daysOfMonth cX1_daysOfMonth 3 (some .int)) ({ frames := 0, cells := 0, slots := 0, locals := 0 } : Room)).room s m ([.int p0, .int p1] : List Value).toArray below meth c H locs 0 0 (MQ below (QSi r) ([.int p0, .int p1] : List Value).toArray s 0 0 noA) (F0 m 39 ls [.int t0]) := by
    intro x1 t0 H locs ls hF hl hP hS
    unfold FX1_daysOfMonth_39 at hF
    refine lv_istore_n (lv' := [(2, .int (t0)), (1, .int (x1))]) hx hb dX1_daysOfMonth_39 rfl hl (by decide) rfl (fun ls hl => ?_)
    refine lv_iload_n hx hb dX1_daysOfMonth_40 rfl (lv_at hl 1 rfl) ?_
    refine lv_iconst (v := (2 : Int32)) hx hb dX1_daysOfMonth_41 (by decide) ?_
    refine lv_icmp_ne (tgt := 54) hx hb dX1_daysOfMonth_42 (by decide) (fun hc2 => ?_) (fun hc2 => ?_)
    · replace hF := br_no hF hc2
      exact J54 (x1)  _ _ _ hF (lv_sub hl [1] rfl) hP hS
    · replace hF := br_yes hF hc2
      refine lv_iload_n hx hb dX1_daysOfMonth_45 rfl (lv_at hl 0 rfl) ?_
      refine lv_if_eq (tgt := 54) hx hb dX1_daysOfMonth_46 (by decide) (fun hc3 => ?_) (fun hc3 => ?_)
      · replace hF := br_yes hF hc3
        exact J54 (x1)  _ _ _ hF (lv_sub hl [1] rfl) hP hS
      · replace hF := br_no hF hc3
        refine lv_bipush (v := (29 : Int32)) hx hb dX1_daysOfMonth_49 (by decide) ?_
        refine lv_goto (tgt := 61) hx hb dX1_daysOfMonth_51 (by decide) ?_
        exact J61 (29 : Int32)  _ _ _ hF (lv_sub hl [] rfl) hP hS
  have J38 : ∀ (x1 : Int32) (H : Heap) (locs : List Loc) (ls : Array Slot), FX1_daysOfMonth_38 nf x1 = some r → lv_has ls 3 [(1, .int x1)] → va_P (gD g) vwCl [] H → va_S noA s.heap H locs → W p l e (headSpec (wx yX1_daysOfMonth cX1_daysOfMonth 3 (some .int)) ({ frames := 0, cells := 0, slots := 0, locals := 0 } : Room)).room s m ([.int p0, .int p1] : List Value).toArray below meth c H locs 0 0 (MQ below (QSi r) ([.int p0, .int p1] : List Value).toArray s 0 0 noA) (F0 m 38 ls []) := by
    intro x1 H locs ls hF hl hP hS
    unfold FX1_daysOfMonth_38 at hF
    refine lv_iconst (v := (0 : Int32)) hx hb dX1_daysOfMonth_38 (by decide) ?_
    exact J39 (x1) (0 : Int32)  _ _ _ hF (lv_sub hl [0] rfl) hP hS
  have J34 : ∀ (x1 : Int32) (H : Heap) (locs : List Loc) (ls : Array Slot), FX1_daysOfMonth_34 nf x1 = some r → lv_has ls 3 [(1, .int x1)] → va_P (gD g) vwCl [] H → va_S noA s.heap H locs → W p l e (headSpec (wx yX1_daysOfMonth cX1_daysOfMonth 3 (some .int)) ({ frames := 0, cells := 0, slots := 0, locals := 0 } : Room)).room s m ([.int p0, .int p1] : List Value).toArray below meth c H locs 0 0 (MQ below (QSi r) ([.int p0, .int p1] : List Value).toArray s 0 0 noA) (F0 m 34 ls []) := by
    intro x1 H locs ls hF hl hP hS
    unfold FX1_daysOfMonth_34 at hF
    refine lv_iconst (v := (1 : Int32)) hx hb dX1_daysOfMonth_34 (by decide) ?_
    refine lv_goto (tgt := 39) hx hb dX1_daysOfMonth_35 (by decide) ?_
    exact J39 (x1) (1 : Int32)  _ _ _ hF (lv_sub hl [0] rfl) hP hS
  have J11 : ∀  (H : Heap) (locs : List Loc) (ls : Array Slot), FX1_daysOfMonth_11 nf  = some r → lv_has ls 3 [] → va_P (gD g) vwCl [] H → va_S noA s.heap H locs → W p l e (headSpec (wx yX1_daysOfMonth cX1_daysOfMonth 3 (some .int)) ({ frames := 0, cells := 0, slots := 0, locals := 0 } : Room)).room s m ([.int p0, .int p1] : List Value).toArray below meth c H locs 0 0 (MQ below (QSi r) ([.int p0, .int p1] : List Value).toArray s 0 0 noA) (F0 m 11 ls []) := by
    intro H locs ls hF hl hP hS
    unfold FX1_daysOfMonth_11 at hF
    refine lv_iconst (v := (0 : Int32)) hx hb dX1_daysOfMonth_11 (by decide) ?_
    exact rS_i hx hb hr hlocks hF hS dX1_daysOfMonth_12
  replace hl := lv_sub hl [0, 1] rfl
  refine lv_iload_n hx hb dX1_daysOfMonth_0 rfl (lv_at hl 1 rfl) ?_
  refine lv_iconst (v := (1 : Int32)) hx hb dX1_daysOfMonth_1 (by decide) ?_
  refine lv_icmp_lt (tgt := 11) hx hb dX1_daysOfMonth_2 (by decide) (fun hc4 => ?_) (fun hc4 => ?_)
  · replace hF := br_yes hF hc4
    exact J11   _ _ _ hF (lv_sub hl [] rfl) hP hS
  · replace hF := br_no hF hc4
    refine lv_iload_n hx hb dX1_daysOfMonth_5 rfl (lv_at hl 1 rfl) ?_
    refine lv_bipush (v := (12 : Int32)) hx hb dX1_daysOfMonth_6 (by decide) ?_
    refine lv_icmp_le (tgt := 13) hx hb dX1_daysOfMonth_8 (by decide) (fun hc5 => ?_) (fun hc5 => ?_)
    · replace hF := br_yes hF hc5
      refine lv_iload_n hx hb dX1_daysOfMonth_13 rfl (lv_at hl 0 rfl) ?_
      refine lv_iconst (v := (4 : Int32)) hx hb dX1_daysOfMonth_14 (by decide) ?_
      refine lv_irem hx hb dX1_daysOfMonth_15 (by decide) ?_
      refine lv_if_ne (tgt := 38) hx hb dX1_daysOfMonth_16 (by decide) (fun hc6 => ?_) (fun hc6 => ?_)
      · replace hF := br_no hF hc6
        exact J38 (p1)  _ _ _ hF (lv_sub hl [1] rfl) hP hS
      · replace hF := br_yes hF hc6
        refine lv_iload_n hx hb dX1_daysOfMonth_19 rfl (lv_at hl 0 rfl) ?_
        refine lv_bipush (v := (100 : Int32)) hx hb dX1_daysOfMonth_20 (by decide) ?_
        refine lv_irem hx hb dX1_daysOfMonth_22 (by decide) ?_
        refine lv_if_ne (tgt := 34) hx hb dX1_daysOfMonth_23 (by decide) (fun hc7 => ?_) (fun hc7 => ?_)
        · replace hF := br_no hF hc7
          exact J34 (p1)  _ _ _ hF (lv_sub hl [1] rfl) hP hS
        · replace hF := br_yes hF hc7
          refine lv_iload_n hx hb dX1_daysOfMonth_26 rfl (lv_at hl 0 rfl) ?_
          refine lv_sipush (v := (400 : Int32)) hx hb dX1_daysOfMonth_27 (by decide) ?_
          refine lv_irem hx hb dX1_daysOfMonth_30 (by decide) ?_
          refine lv_if_ne (tgt := 38) hx hb dX1_daysOfMonth_31 (by decide) (fun hc8 => ?_) (fun hc8 => ?_)
          · replace hF := br_no hF hc8
            exact J38 (p1)  _ _ _ hF (lv_sub hl [1] rfl) hP hS
          · replace hF := br_yes hF hc8
            exact J34 (p1)  _ _ _ hF (lv_sub hl [1] rfl) hP hS
    · replace hF := br_no hF hc5
      exact J11   _ _ _ hF (lv_sub hl [] rfl) hP hS
theorem cw_X1_daysOfMonth : (Cond.static yX1_daysOfMonth ∈ TB ∧ Cond.code yX1_daysOfMonth cX1_daysOfMonth 3 (some .int) ∈ TB ∧ Cond.initialized yX1_daysOfMonth.cls ∈ TB) ∧ (yX1_daysOfMonth.cls ≠ "java/lang/invoke/MethodHandle" ∧ yX1_daysOfMonth.cls ≠ "java/lang/invoke/VarHandle" ∧ (parseMethodDescriptor yX1_daysOfMonth.desc).map (fun d => d.parameters.length) = some 2) := ⟨⟨mw25_9, mw25_10, mw25_2⟩, by decide +kernel⟩
/-! X1_dayAsTold -/
noncomputable def FX1_dayAsTold_48 (nf : Nat) (t0 : Int32) : Option Int32 :=
  gd ((t0) &&& 1 = (t0)) (some (t0))
noncomputable def FX1_dayAsTold_47 (nf : Nat)  : Option Int32 :=
  FX1_dayAsTold_48 nf  (0 : Int32)
noncomputable def FX1_dayAsTold_10 (nf : Nat)  : Option Int32 :=
  some (0 : Int32)
noncomputable def FX1_dayAsTold (nf : Nat) (x0 : Int32) : Option Int32 :=
  br ((x0) < 0) (FX1_dayAsTold_10 nf) (br ((x0) ≤ (65535 : Int32)) (bnd ((x0) &&& (31 : Int32)) fun x1_4 => br ((x1_4) < (1 : Int32)) (FX1_dayAsTold_47 nf) (obnd (FX1_daysOfMonth nf ((1980 : Int32) + ((x0) >>> ((9 : Int32) &&& 31))) (((x0) >>> ((5 : Int32) &&& 31)) &&& (15 : Int32))) fun r7 => br ((r7) < (x1_4)) (FX1_dayAsTold_47 nf) (FX1_dayAsTold_48 nf  (1 : Int32)))) (FX1_dayAsTold_10 nf))
set_option maxHeartbeats 4000000 in
set_option maxRecDepth 100000 in
theorem kX1_dayAsTold (l : Launch) (g : GT) (nf : Nat) (p0 : Int32) (r : Int32) (hF : FX1_dayAsTold nf p0 = some r) : Met l yX1_dayAsTold (wx yX1_dayAsTold cX1_dayAsTold 2 (some .boolean)) ({ frames := 1, cells := 0, slots := 0, locals := 22 } : Room) (va_Pc [.int p0] (PS g)) (QSi r) 0 0 noA := by
  refine Met.ofW (cc := cX1_dayAsTold) (maxL := 2) (ret := (some .boolean)) (by decide) rfl ?_
  intro p e s m args below meth c s₁ B hml hv
  obtain ⟨rfl, hE⟩ := hv
  have hx := B.exec
  have hb := B.bytes
  have hr := B.returns
  have hts := atoms_spec (ws := (wx yX1_dayAsTold cX1_dayAsTold 2 (some .boolean))) B.pre
  have hT : ∀ w ∈ TB, w.before _ s = true := fun w h => hts w (List.mem_cons_of_mem _ h)
  have hown : s.vm.findClass RX1 = some m.cls := findClass_of_methodNamed B.named
  have hlocks := B.notSynchronized
  have hS : va_S noA s.heap s.heap [] := va_S.rf
  have hP : va_P (gD g) vwCl [] s.heap := fun k q h => by cases h
  have hl := lv_entry ([.int p0]) (n := 2) (Nat.le_of_ble_eq_true rfl)
  rw [lg_entry_eq]
  generalize (lg_sl ([.int p0]) ++ List.replicate (2 - (lg_sl ([.int p0])).length) Slot.unset).toArray = ls at hl ⊢
  have hl : lv_has ls 2 [(0, .int p0)] := hl
  unfold FX1_dayAsTold at hF
  have J48 : ∀ (t0 : Int32) (H : Heap) (locs : List Loc) (ls : Array Slot), FX1_dayAsTold_48 nf t0 = some r → lv_has ls 2 [] → va_P (gD g) vwCl [] H → va_S noA s.heap H locs → W p l e (headSpec (wx yX1_dayAsTold cX1_dayAsTold 2 (some .boolean)) ({ frames := 1, cells := 0, slots := 0, locals := 22 } : Room)).room s m ([.int p0] : List Value).toArray below meth c H locs 0 0 (MQ below (QSi r) ([.int p0] : List Value).toArray s 0 0 noA) (F0 m 48 ls [.int t0]) := by
    intro t0 H locs ls hF hl hP hS
    unfold FX1_dayAsTold_48 at hF
    replace hF := gd_of hF
    obtain ⟨hz1, hF⟩ := hF
    exact rS_z hx hb hr hlocks (nar_z hz1) hF hS dX1_dayAsTold_48
  have J47 : ∀  (H : Heap) (locs : List Loc) (ls : Array Slot), FX1_dayAsTold_47 nf  = some r → lv_has ls 2 [] → va_P (gD g) vwCl [] H → va_S noA s.heap H locs → W p l e (headSpec (wx yX1_dayAsTold cX1_dayAsTold 2 (some .boolean)) ({ frames := 1, cells := 0, slots := 0, locals := 22 } : Room)).room s m ([.int p0] : List Value).toArray below meth c H locs 0 0 (MQ below (QSi r) ([.int p0] : List Value).toArray s 0 0 noA) (F0 m 47 ls []) := by
    intro H locs ls hF hl hP hS
    unfold FX1_dayAsTold_47 at hF
    refine lv_iconst (v := (0 : Int32)) hx hb dX1_dayAsTold_47 (by decide) ?_
    exact J48 (0 : Int32)  _ _ _ hF (lv_sub hl [] rfl) hP hS
  have J10 : ∀  (H : Heap) (locs : List Loc) (ls : Array Slot), FX1_dayAsTold_10 nf  = some r → lv_has ls 2 [] → va_P (gD g) vwCl [] H → va_S noA s.heap H locs → W p l e (headSpec (wx yX1_dayAsTold cX1_dayAsTold 2 (some .boolean)) ({ frames := 1, cells := 0, slots := 0, locals := 22 } : Room)).room s m ([.int p0] : List Value).toArray below meth c H locs 0 0 (MQ below (QSi r) ([.int p0] : List Value).toArray s 0 0 noA) (F0 m 10 ls []) := by
    intro H locs ls hF hl hP hS
    unfold FX1_dayAsTold_10 at hF
    refine lv_iconst (v := (0 : Int32)) hx hb dX1_dayAsTold_10 (by decide) ?_
    exact rS_z hx hb hr hlocks rfl hF hS dX1_dayAsTold_11
  replace hl := lv_sub hl [0] rfl
  refine lv_iload_n hx hb dX1_dayAsTold_0 rfl (lv_at hl 0 rfl) ?_
  refine lv_if_lt (tgt := 10) hx hb dX1_dayAsTold_1 (by decide) (fun hc2 => ?_) (fun hc2 => ?_)
  · replace hF := br_yes hF hc2
    exact J10   _ _ _ hF (lv_sub hl [] rfl) hP hS
  · replace hF := br_no hF hc2
    refine lv_iload_n hx hb dX1_dayAsTold_4 rfl (lv_at hl 0 rfl) ?_
    refine lv_ldc (v := (65535 : Int32)) hx hb hown (hT _ mw25_7) dX1_dayAsTold_5 ?_
    refine lv_icmp_le (tgt := 12) hx hb dX1_dayAsTold_7 (by decide) (fun hc3 => ?_) (fun hc3 => ?_)
    · replace hF := br_yes hF hc3
      refine lv_iload_n hx hb dX1_dayAsTold_12 rfl (lv_at hl 0 rfl) ?_
      refine lv_bipush (v := (31 : Int32)) hx hb dX1_dayAsTold_13 (by decide) ?_
      refine lv_iand hx hb dX1_dayAsTold_15 ?_
      obtain ⟨x1_4, ex1_4⟩ : ∃ y : Int32, y = ((p0) &&& (31 : Int32)) := ⟨_, rfl⟩
      rw [← ex1_4]
      replace hF := bnd_of hF ex1_4
      refine lv_istore_n (lv' := [(1, .int (x1_4)), (0, .int (p0))]) hx hb dX1_dayAsTold_16 rfl hl (by decide) rfl (fun ls hl => ?_)
      refine lv_iload_n hx hb dX1_dayAsTold_17 rfl (lv_at hl 0 rfl) ?_
      refine lv_iconst (v := (1 : Int32)) hx hb dX1_dayAsTold_18 (by decide) ?_
      refine lv_icmp_lt (tgt := 47) hx hb dX1_dayAsTold_19 (by decide) (fun hc5 => ?_) (fun hc5 => ?_)
      · replace hF := br_yes hF hc5
        exact J47   _ _ _ hF (lv_sub hl [] rfl) hP hS
      · replace hF := br_no hF hc5
        refine lv_iload_n hx hb dX1_dayAsTold_22 rfl (lv_at hl 0 rfl) ?_
        refine lv_sipush (v := (1980 : Int32)) hx hb dX1_dayAsTold_23 (by decide) ?_
        refine lv_iload_n hx hb dX1_dayAsTold_26 rfl (lv_at hl 1 rfl) ?_
        refine lv_bipush (v := (9 : Int32)) hx hb dX1_dayAsTold_27 (by decide) ?_
        refine lv_ishr hx hb dX1_dayAsTold_29 ?_
        refine lv_iadd hx hb dX1_dayAsTold_30 ?_
        refine lv_iload_n hx hb dX1_dayAsTold_31 rfl (lv_at hl 1 rfl) ?_
        refine lv_iconst (v := (5 : Int32)) hx hb dX1_dayAsTold_32 (by decide) ?_
        refine lv_ishr hx hb dX1_dayAsTold_33 ?_
        refine lv_bipush (v := (15 : Int32)) hx hb dX1_dayAsTold_34 (by decide) ?_
        refine lv_iand hx hb dX1_dayAsTold_36 ?_
        replace hF := obnd_of hF
        obtain ⟨r7, h6, hF⟩ := hF
        refine cS_i (As := [.int ((1980 : Int32) + ((p0) >>> ((9 : Int32) &&& 31))), .int (((p0) >>> ((5 : Int32) &&& 31)) &&& (15 : Int32))]) (rest := [.int (x1_4)]) hx hb hml hT hown hE hP hS (kX1_daysOfMonth l g nf ((1980 : Int32) + ((p0) >>> ((9 : Int32) &&& 31))) (((p0) >>> ((5 : Int32) &&& 31)) &&& (15 : Int32)) r7 h6) cw_X1_daysOfMonth mw25_8 ⟨⟨rfl, rfl⟩, Nat.le_of_ble_eq_true rfl, Nat.le_of_ble_eq_true rfl⟩ rfl hl.1 rfl (Nat.le_of_ble_eq_true rfl) dX1_dayAsTold_37 ⟨Nat.zero_le _, Nat.zero_le _⟩ (fun H locs hP hS => ?_)
        refine lv_icmp_gt (tgt := 47) hx hb dX1_dayAsTold_40 (by decide) (fun hc8 => ?_) (fun hc8 => ?_)
        · replace hF := br_yes hF hc8
          exact J47   _ _ _ hF (lv_sub hl [] rfl) hP hS
        · replace hF := br_no hF hc8
          refine lv_iconst (v := (1 : Int32)) hx hb dX1_dayAsTold_43 (by decide) ?_
          refine lv_goto (tgt := 48) hx hb dX1_dayAsTold_44 (by decide) ?_
          exact J48 (1 : Int32)  _ _ _ hF (lv_sub hl [] rfl) hP hS
    · replace hF := br_no hF hc3
      exact J10   _ _ _ hF (lv_sub hl [] rfl) hP hS
theorem cw_X1_dayAsTold : (Cond.static yX1_dayAsTold ∈ TB ∧ Cond.code yX1_dayAsTold cX1_dayAsTold 2 (some .boolean) ∈ TB ∧ Cond.initialized yX1_dayAsTold.cls ∈ TB) ∧ (yX1_dayAsTold.cls ≠ "java/lang/invoke/MethodHandle" ∧ yX1_dayAsTold.cls ≠ "java/lang/invoke/VarHandle" ∧ (parseMethodDescriptor yX1_dayAsTold.desc).map (fun d => d.parameters.length) = some 1) := ⟨⟨mw25_5, mw25_6, mw25_2⟩, by decide +kernel⟩
/-! X1_timeAsTold -/
noncomputable def FX1_timeAsTold_38 (nf : Nat) (t0 : Int32) : Option Int32 :=
  gd ((t0) &&& 1 = (t0)) (some (t0))
noncomputable def FX1_timeAsTold_37 (nf : Nat)  : Option Int32 :=
  FX1_timeAsTold_38 nf  (0 : Int32)
noncomputable def FX1_timeAsTold (nf : Nat) (x0 : Int32) : Option Int32 :=
  br ((x0) < 0) (FX1_timeAsTold_37 nf) (br ((24 : Int32) ≤ ((x0) >>> ((11 : Int32) &&& 31))) (FX1_timeAsTold_37 nf) (br ((60 : Int32) ≤ (((x0) >>> ((5 : Int32) &&& 31)) &&& (63 : Int32))) (FX1_timeAsTold_37 nf) (br ((30 : Int32) ≤ ((x0) &&& (31 : Int32))) (FX1_timeAsTold_37 nf) (FX1_timeAsTold_38 nf  (1 : Int32)))))
set_option maxHeartbeats 4000000 in
set_option maxRecDepth 100000 in
theorem kX1_timeAsTold (l : Launch) (g : GT) (nf : Nat) (p0 : Int32) (r : Int32) (hF : FX1_timeAsTold nf p0 = some r) : Met l yX1_timeAsTold (wx yX1_timeAsTold cX1_timeAsTold 1 (some .boolean)) ({ frames := 0, cells := 0, slots := 0, locals := 0 } : Room) (va_Pc [.int p0] (PS g)) (QSi r) 0 0 noA := by
  refine Met.ofW (cc := cX1_timeAsTold) (maxL := 1) (ret := (some .boolean)) (by decide) rfl ?_
  intro p e s m args below meth c s₁ B hml hv
  obtain ⟨rfl, hE⟩ := hv
  have hx := B.exec
  have hb := B.bytes
  have hr := B.returns
  have hts := atoms_spec (ws := (wx yX1_timeAsTold cX1_timeAsTold 1 (some .boolean))) B.pre
  have hT : ∀ w ∈ TB, w.before _ s = true := fun w h => hts w (List.mem_cons_of_mem _ h)
  have hown : s.vm.findClass RX1 = some m.cls := findClass_of_methodNamed B.named
  have hlocks := B.notSynchronized
  have hS : va_S noA s.heap s.heap [] := va_S.rf
  have hP : va_P (gD g) vwCl [] s.heap := fun k q h => by cases h
  have hl := lv_entry ([.int p0]) (n := 1) (Nat.le_of_ble_eq_true rfl)
  rw [lg_entry_eq]
  generalize (lg_sl ([.int p0]) ++ List.replicate (1 - (lg_sl ([.int p0])).length) Slot.unset).toArray = ls at hl ⊢
  have hl : lv_has ls 1 [(0, .int p0)] := hl
  unfold FX1_timeAsTold at hF
  have J38 : ∀ (t0 : Int32) (H : Heap) (locs : List Loc) (ls : Array Slot), FX1_timeAsTold_38 nf t0 = some r → lv_has ls 1 [] → va_P (gD g) vwCl [] H → va_S noA s.heap H locs → W p l e (headSpec (wx yX1_timeAsTold cX1_timeAsTold 1 (some .boolean)) ({ frames := 0, cells := 0, slots := 0, locals := 0 } : Room)).room s m ([.int p0] : List Value).toArray below meth c H locs 0 0 (MQ below (QSi r) ([.int p0] : List Value).toArray s 0 0 noA) (F0 m 38 ls [.int t0]) := by
    intro t0 H locs ls hF hl hP hS
    unfold FX1_timeAsTold_38 at hF
    replace hF := gd_of hF
    obtain ⟨hz1, hF⟩ := hF
    exact rS_z hx hb hr hlocks (nar_z hz1) hF hS dX1_timeAsTold_38
  have J37 : ∀  (H : Heap) (locs : List Loc) (ls : Array Slot), FX1_timeAsTold_37 nf  = some r → lv_has ls 1 [] → va_P (gD g) vwCl [] H → va_S noA s.heap H locs → W p l e (headSpec (wx yX1_timeAsTold cX1_timeAsTold 1 (some .boolean)) ({ frames := 0, cells := 0, slots := 0, locals := 0 } : Room)).room s m ([.int p0] : List Value).toArray below meth c H locs 0 0 (MQ below (QSi r) ([.int p0] : List Value).toArray s 0 0 noA) (F0 m 37 ls []) := by
    intro H locs ls hF hl hP hS
    unfold FX1_timeAsTold_37 at hF
    refine lv_iconst (v := (0 : Int32)) hx hb dX1_timeAsTold_37 (by decide) ?_
    exact J38 (0 : Int32)  _ _ _ hF (lv_sub hl [] rfl) hP hS
  replace hl := lv_sub hl [0] rfl
  refine lv_iload_n hx hb dX1_timeAsTold_0 rfl (lv_at hl 0 rfl) ?_
  refine lv_if_lt (tgt := 37) hx hb dX1_timeAsTold_1 (by decide) (fun hc2 => ?_) (fun hc2 => ?_)
  · replace hF := br_yes hF hc2
    exact J37   _ _ _ hF (lv_sub hl [] rfl) hP hS
  · replace hF := br_no hF hc2
    refine lv_iload_n hx hb dX1_timeAsTold_4 rfl (lv_at hl 0 rfl) ?_
    refine lv_bipush (v := (11 : Int32)) hx hb dX1_timeAsTold_5 (by decide) ?_
    refine lv_ishr hx hb dX1_timeAsTold_7 ?_
    refine lv_bipush (v := (24 : Int32)) hx hb dX1_timeAsTold_8 (by decide) ?_
    refine lv_icmp_ge (tgt := 37) hx hb dX1_timeAsTold_10 (by decide) (fun hc3 => ?_) (fun hc3 => ?_)
    · replace hF := br_yes hF hc3
      exact J37   _ _ _ hF (lv_sub hl [] rfl) hP hS
    · replace hF := br_no hF hc3
      refine lv_iload_n hx hb dX1_timeAsTold_13 rfl (lv_at hl 0 rfl) ?_
      refine lv_iconst (v := (5 : Int32)) hx hb dX1_timeAsTold_14 (by decide) ?_
      refine lv_ishr hx hb dX1_timeAsTold_15 ?_
      refine lv_bipush (v := (63 : Int32)) hx hb dX1_timeAsTold_16 (by decide) ?_
      refine lv_iand hx hb dX1_timeAsTold_18 ?_
      refine lv_bipush (v := (60 : Int32)) hx hb dX1_timeAsTold_19 (by decide) ?_
      refine lv_icmp_ge (tgt := 37) hx hb dX1_timeAsTold_21 (by decide) (fun hc4 => ?_) (fun hc4 => ?_)
      · replace hF := br_yes hF hc4
        exact J37   _ _ _ hF (lv_sub hl [] rfl) hP hS
      · replace hF := br_no hF hc4
        refine lv_iload_n hx hb dX1_timeAsTold_24 rfl (lv_at hl 0 rfl) ?_
        refine lv_bipush (v := (31 : Int32)) hx hb dX1_timeAsTold_25 (by decide) ?_
        refine lv_iand hx hb dX1_timeAsTold_27 ?_
        refine lv_bipush (v := (30 : Int32)) hx hb dX1_timeAsTold_28 (by decide) ?_
        refine lv_icmp_ge (tgt := 37) hx hb dX1_timeAsTold_30 (by decide) (fun hc5 => ?_) (fun hc5 => ?_)
        · replace hF := br_yes hF hc5
          exact J37   _ _ _ hF (lv_sub hl [] rfl) hP hS
        · replace hF := br_no hF hc5
          refine lv_iconst (v := (1 : Int32)) hx hb dX1_timeAsTold_33 (by decide) ?_
          refine lv_goto (tgt := 38) hx hb dX1_timeAsTold_34 (by decide) ?_
          exact J38 (1 : Int32)  _ _ _ hF (lv_sub hl [] rfl) hP hS
theorem cw_X1_timeAsTold : (Cond.static yX1_timeAsTold ∈ TB ∧ Cond.code yX1_timeAsTold cX1_timeAsTold 1 (some .boolean) ∈ TB ∧ Cond.initialized yX1_timeAsTold.cls ∈ TB) ∧ (yX1_timeAsTold.cls ≠ "java/lang/invoke/MethodHandle" ∧ yX1_timeAsTold.cls ≠ "java/lang/invoke/VarHandle" ∧ (parseMethodDescriptor yX1_timeAsTold.desc).map (fun d => d.parameters.length) = some 1) := ⟨⟨mw25_13, mw25_14, mw25_2⟩, by decide +kernel⟩
/-! X1_madeAsTold -/
noncomputable def FX1_madeAsTold_48 (nf : Nat) (t0 : Int32) : Option Int32 :=
  gd ((t0) &&& 1 = (t0)) (some (t0))
noncomputable def FX1_madeAsTold_47 (nf : Nat)  : Option Int32 :=
  FX1_madeAsTold_48 nf  (0 : Int32)
noncomputable def FX1_madeAsTold_17 (nf : Nat) (t0 : Int32) : Option Int32 :=
  gd ((t0) &&& 1 = (t0)) (some (t0))
noncomputable def FX1_madeAsTold_16 (nf : Nat)  : Option Int32 :=
  FX1_madeAsTold_17 nf  (0 : Int32)
noncomputable def FX1_madeAsTold (nf : Nat) (x0 : Int32) (x1 : Int32) (x2 : Int32) : Option Int32 :=
  br ((x0) = 0) (br ((x1) = 0) (br ((x2) = 0) (FX1_madeAsTold_17 nf  (1 : Int32)) (FX1_madeAsTold_16 nf)) (FX1_madeAsTold_16 nf)) (obnd (FX1_dayAsTold nf (x0)) fun r5 => br ((r5) = 0) (FX1_madeAsTold_47 nf) (obnd (FX1_timeAsTold nf (x1)) fun r8 => br ((r8) = 0) (FX1_madeAsTold_47 nf) (br ((x2) < 0) (FX1_madeAsTold_47 nf) (br ((199 : Int32) < (x2)) (FX1_madeAsTold_47 nf) (FX1_madeAsTold_48 nf  (1 : Int32))))))
set_option maxHeartbeats 4000000 in
set_option maxRecDepth 100000 in
theorem kX1_madeAsTold (l : Launch) (g : GT) (nf : Nat) (p0 : Int32) (p1 : Int32) (p2 : Int32) (r : Int32) (hF : FX1_madeAsTold nf p0 p1 p2 = some r) : Met l yX1_madeAsTold (wx yX1_madeAsTold cX1_madeAsTold 3 (some .boolean)) ({ frames := 2, cells := 0, slots := 0, locals := 43 } : Room) (va_Pc [.int p0, .int p1, .int p2] (PS g)) (QSi r) 0 0 noA := by
  refine Met.ofW (cc := cX1_madeAsTold) (maxL := 3) (ret := (some .boolean)) (by decide) rfl ?_
  intro p e s m args below meth c s₁ B hml hv
  obtain ⟨rfl, hE⟩ := hv
  have hx := B.exec
  have hb := B.bytes
  have hr := B.returns
  have hts := atoms_spec (ws := (wx yX1_madeAsTold cX1_madeAsTold 3 (some .boolean))) B.pre
  have hT : ∀ w ∈ TB, w.before _ s = true := fun w h => hts w (List.mem_cons_of_mem _ h)
  have hown : s.vm.findClass RX1 = some m.cls := findClass_of_methodNamed B.named
  have hlocks := B.notSynchronized
  have hS : va_S noA s.heap s.heap [] := va_S.rf
  have hP : va_P (gD g) vwCl [] s.heap := fun k q h => by cases h
  have hl := lv_entry ([.int p0, .int p1, .int p2]) (n := 3) (Nat.le_of_ble_eq_true rfl)
  rw [lg_entry_eq]
  generalize (lg_sl ([.int p0, .int p1, .int p2]) ++ List.replicate (3 - (lg_sl ([.int p0, .int p1, .int p2])).length) Slot.unset).toArray = ls at hl ⊢
  have hl : lv_has ls 3 [(0, .int p0), (1, .int p1), (2, .int p2)] := hl
  unfold FX1_madeAsTold at hF
  have J48 : ∀ (t0 : Int32) (H : Heap) (locs : List Loc) (ls : Array Slot), FX1_madeAsTold_48 nf t0 = some r → lv_has ls 3 [] → va_P (gD g) vwCl [] H → va_S noA s.heap H locs → W p l e (headSpec (wx yX1_madeAsTold cX1_madeAsTold 3 (some .boolean)) ({ frames := 2, cells := 0, slots := 0, locals := 43 } : Room)).room s m ([.int p0, .int p1, .int p2] : List Value).toArray below meth c H locs 0 0 (MQ below (QSi r) ([.int p0, .int p1, .int p2] : List Value).toArray s 0 0 noA) (F0 m 48 ls [.int t0]) := by
    intro t0 H locs ls hF hl hP hS
    unfold FX1_madeAsTold_48 at hF
    replace hF := gd_of hF
    obtain ⟨hz1, hF⟩ := hF
    exact rS_z hx hb hr hlocks (nar_z hz1) hF hS dX1_madeAsTold_48
  have J47 : ∀  (H : Heap) (locs : List Loc) (ls : Array Slot), FX1_madeAsTold_47 nf  = some r → lv_has ls 3 [] → va_P (gD g) vwCl [] H → va_S noA s.heap H locs → W p l e (headSpec (wx yX1_madeAsTold cX1_madeAsTold 3 (some .boolean)) ({ frames := 2, cells := 0, slots := 0, locals := 43 } : Room)).room s m ([.int p0, .int p1, .int p2] : List Value).toArray below meth c H locs 0 0 (MQ below (QSi r) ([.int p0, .int p1, .int p2] : List Value).toArray s 0 0 noA) (F0 m 47 ls []) := by
    intro H locs ls hF hl hP hS
    unfold FX1_madeAsTold_47 at hF
    refine lv_iconst (v := (0 : Int32)) hx hb dX1_madeAsTold_47 (by decide) ?_
    exact J48 (0 : Int32)  _ _ _ hF (lv_sub hl [] rfl) hP hS
  have J17 : ∀ (t0 : Int32) (H : Heap) (locs : List Loc) (ls : Array Slot), FX1_madeAsTold_17 nf t0 = some r → lv_has ls 3 [] → va_P (gD g) vwCl [] H → va_S noA s.heap H locs → W p l e (headSpec (wx yX1_madeAsTold cX1_madeAsTold 3 (some .boolean)) ({ frames := 2, cells := 0, slots := 0, locals := 43 } : Room)).room s m ([.int p0, .int p1, .int p2] : List Value).toArray below meth c H locs 0 0 (MQ below (QSi r) ([.int p0, .int p1, .int p2] : List Value).toArray s 0 0 noA) (F0 m 17 ls [.int t0]) := by
    intro t0 H locs ls hF hl hP hS
    unfold FX1_madeAsTold_17 at hF
    replace hF := gd_of hF
    obtain ⟨hz2, hF⟩ := hF
    exact rS_z hx hb hr hlocks (nar_z hz2) hF hS dX1_madeAsTold_17
  have J16 : ∀  (H : Heap) (locs : List Loc) (ls : Array Slot), FX1_madeAsTold_16 nf  = some r → lv_has ls 3 [] → va_P (gD g) vwCl [] H → va_S noA s.heap H locs → W p l e (headSpec (wx yX1_madeAsTold cX1_madeAsTold 3 (some .boolean)) ({ frames := 2, cells := 0, slots := 0, locals := 43 } : Room)).room s m ([.int p0, .int p1, .int p2] : List Value).toArray below meth c H locs 0 0 (MQ below (QSi r) ([.int p0, .int p1, .int p2] : List Value).toArray s 0 0 noA) (F0 m 16 ls []) := by
    intro H locs ls hF hl hP hS
    unfold FX1_madeAsTold_16 at hF
    refine lv_iconst (v := (0 : Int32)) hx hb dX1_madeAsTold_16 (by decide) ?_
    exact J17 (0 : Int32)  _ _ _ hF (lv_sub hl [] rfl) hP hS
  replace hl := lv_sub hl [0, 1, 2] rfl
  refine lv_iload_n hx hb dX1_madeAsTold_0 rfl (lv_at hl 0 rfl) ?_
  refine lv_if_ne (tgt := 18) hx hb dX1_madeAsTold_1 (by decide) (fun hc3 => ?_) (fun hc3 => ?_)
  · replace hF := br_no hF hc3
    refine lv_iload_n hx hb dX1_madeAsTold_18 rfl (lv_at hl 0 rfl) ?_
    replace hF := obnd_of hF
    obtain ⟨r5, h4, hF⟩ := hF
    refine cS_i (As := [.int (p0)]) (rest := []) hx hb hml hT hown hE hP hS (kX1_dayAsTold l g nf (p0) r5 h4) cw_X1_dayAsTold mw25_4 ⟨⟨rfl, rfl⟩, Nat.le_of_ble_eq_true rfl, Nat.le_of_ble_eq_true rfl⟩ rfl hl.1 rfl (Nat.le_of_ble_eq_true rfl) dX1_madeAsTold_19 ⟨Nat.zero_le _, Nat.zero_le _⟩ (fun H locs hP hS => ?_)
    refine lv_if_eq (tgt := 47) hx hb dX1_madeAsTold_22 (by decide) (fun hc6 => ?_) (fun hc6 => ?_)
    · replace hF := br_yes hF hc6
      exact J47   _ _ _ hF (lv_sub hl [] rfl) hP hS
    · replace hF := br_no hF hc6
      refine lv_iload_n hx hb dX1_madeAsTold_25 rfl (lv_at hl 1 rfl) ?_
      replace hF := obnd_of hF
      obtain ⟨r8, h7, hF⟩ := hF
      refine cS_i (As := [.int (p1)]) (rest := []) hx hb hml hT hown hE hP hS (kX1_timeAsTold l g nf (p1) r8 h7) cw_X1_timeAsTold mw25_12 ⟨⟨rfl, rfl⟩, Nat.le_of_ble_eq_true rfl, Nat.le_of_ble_eq_true rfl⟩ rfl hl.1 rfl (Nat.le_of_ble_eq_true rfl) dX1_madeAsTold_26 ⟨Nat.zero_le _, Nat.zero_le _⟩ (fun H locs hP hS => ?_)
      refine lv_if_eq (tgt := 47) hx hb dX1_madeAsTold_29 (by decide) (fun hc9 => ?_) (fun hc9 => ?_)
      · replace hF := br_yes hF hc9
        exact J47   _ _ _ hF (lv_sub hl [] rfl) hP hS
      · replace hF := br_no hF hc9
        refine lv_iload_n hx hb dX1_madeAsTold_32 rfl (lv_at hl 2 rfl) ?_
        refine lv_if_lt (tgt := 47) hx hb dX1_madeAsTold_33 (by decide) (fun hc10 => ?_) (fun hc10 => ?_)
        · replace hF := br_yes hF hc10
          exact J47   _ _ _ hF (lv_sub hl [] rfl) hP hS
        · replace hF := br_no hF hc10
          refine lv_iload_n hx hb dX1_madeAsTold_36 rfl (lv_at hl 2 rfl) ?_
          refine lv_sipush (v := (199 : Int32)) hx hb dX1_madeAsTold_37 (by decide) ?_
          refine lv_icmp_gt (tgt := 47) hx hb dX1_madeAsTold_40 (by decide) (fun hc11 => ?_) (fun hc11 => ?_)
          · replace hF := br_yes hF hc11
            exact J47   _ _ _ hF (lv_sub hl [] rfl) hP hS
          · replace hF := br_no hF hc11
            refine lv_iconst (v := (1 : Int32)) hx hb dX1_madeAsTold_43 (by decide) ?_
            refine lv_goto (tgt := 48) hx hb dX1_madeAsTold_44 (by decide) ?_
            exact J48 (1 : Int32)  _ _ _ hF (lv_sub hl [] rfl) hP hS
  · replace hF := br_yes hF hc3
    refine lv_iload_n hx hb dX1_madeAsTold_4 rfl (lv_at hl 1 rfl) ?_
    refine lv_if_ne (tgt := 16) hx hb dX1_madeAsTold_5 (by decide) (fun hc12 => ?_) (fun hc12 => ?_)
    · replace hF := br_no hF hc12
      exact J16   _ _ _ hF (lv_sub hl [] rfl) hP hS
    · replace hF := br_yes hF hc12
      refine lv_iload_n hx hb dX1_madeAsTold_8 rfl (lv_at hl 2 rfl) ?_
      refine lv_if_ne (tgt := 16) hx hb dX1_madeAsTold_9 (by decide) (fun hc13 => ?_) (fun hc13 => ?_)
      · replace hF := br_no hF hc13
        exact J16   _ _ _ hF (lv_sub hl [] rfl) hP hS
      · replace hF := br_yes hF hc13
        refine lv_iconst (v := (1 : Int32)) hx hb dX1_madeAsTold_12 (by decide) ?_
        refine lv_goto (tgt := 17) hx hb dX1_madeAsTold_13 (by decide) ?_
        exact J17 (1 : Int32)  _ _ _ hF (lv_sub hl [] rfl) hP hS
theorem cw_X1_madeAsTold : (Cond.static yX1_madeAsTold ∈ TB ∧ Cond.code yX1_madeAsTold cX1_madeAsTold 3 (some .boolean) ∈ TB ∧ Cond.initialized yX1_madeAsTold.cls ∈ TB) ∧ (yX1_madeAsTold.cls ≠ "java/lang/invoke/MethodHandle" ∧ yX1_madeAsTold.cls ≠ "java/lang/invoke/VarHandle" ∧ (parseMethodDescriptor yX1_madeAsTold.desc).map (fun d => d.parameters.length) = some 3) := ⟨⟨mw25_1, mw25_3, mw25_2⟩, by decide +kernel⟩
/-! X0_timesAsTold -/
noncomputable def FX0_timesAsTold_101 (nf : Nat) (ln : LN) (t0 : Int32) (fi : FI) (ar : AR) : Option (Int32 × FI × AR) :=
  gd ((t0) &&& 1 = (t0)) (some ((t0), fi, ar))
noncomputable def FX0_timesAsTold_100 (nf : Nat) (ln : LN)  (fi : FI) (ar : AR) : Option (Int32 × FI × AR) :=
  FX0_timesAsTold_101 nf ln  (0 : Int32) fi ar
noncomputable def FX0_timesAsTold_62 (nf : Nat) (ln : LN) (x1 : Int32) (fi : FI) (ar : AR) : Option (Int32 × FI × AR) :=
  obnd3 (FX3_two nf ln fi ar ((x1) + (24 : Int32))) fun r5 fi3 ar4 => obnd (FX1_dayAsTold nf (r5)) fun r7 => br ((r7) = 0) (FX0_timesAsTold_100 nf ln  fi3 ar4) (obnd3 (FX3_two nf ln fi3 ar4 ((x1) + (22 : Int32))) fun r12 fi10 ar11 => obnd (FX1_timeAsTold nf (r12)) fun r14 => br ((r14) = 0) (FX0_timesAsTold_100 nf ln  fi10 ar11) (FX0_timesAsTold_101 nf ln  (1 : Int32) fi10 ar11))
noncomputable def FX0_timesAsTold (nf : Nat) (ln : LN) (fi : FI) (ar : AR) (x1 : Int32) : Option (Int32 × FI × AR) :=
  obnd3 (FX3_two nf ln fi ar ((x1) + (18 : Int32))) fun r19 fi17 ar18 => obnd3 (FX3_two nf ln fi17 ar18 ((x1) + (16 : Int32))) fun r23 fi21 ar22 => obnd3 (FX3_two nf ln fi21 ar22 ((x1) + (14 : Int32))) fun r27 fi25 ar26 => obnd3 (FX3_one nf ln fi25 ar26 ((x1) + (13 : Int32))) fun r31 fi29 ar30 => obnd (FX1_madeAsTold nf (r23) (r27) (r31)) fun r33 => br ((r33) = 0) (FX0_timesAsTold_100 nf ln  fi29 ar30) (br ((r19) = 0) (FX0_timesAsTold_62 nf ln  (x1) fi29 ar30) (obnd (FX1_dayAsTold nf (r19)) fun r37 => br ((r37) = 0) (FX0_timesAsTold_100 nf ln  fi29 ar30) (FX0_timesAsTold_62 nf ln  (x1) fi29 ar30)))
set_option maxHeartbeats 4000000 in
set_option maxRecDepth 100000 in
theorem kX0_timesAsTold (l : Launch) (g : GT) (ad rd : Nat → Nat) (sz : Nat) (nf : Nat) (ln : LN) (fi : FI) (ar : AR) (p1 : Int32) (r : Int32) (fi' : FI) (ar' : AR) (hF : FX0_timesAsTold nf ln fi ar p1 = some (r, fi', ar')) : Met l yX0_timesAsTold (wx yX0_timesAsTold cX0_timesAsTold 3 (some .boolean)) ({ frames := 3, cells := 0, slots := 0, locals := 65 } : Room) (va_Pc [.ref (ad (7)), .int p1] (PC g ad rd ln sz fi ar)) (QCi g ad rd ln sz r fi' ar') 0 0 (AC ad rd sz) := by
  refine Met.ofW (cc := cX0_timesAsTold) (maxL := 3) (ret := (some .boolean)) (by decide) rfl ?_
  intro p e s m args below meth c s₁ B hml hv
  obtain ⟨rfl, hsz, hP, hK, hD0, hE⟩ := hv
  have hx := B.exec
  have hb := B.bytes
  have hr := B.returns
  have hts := atoms_spec (ws := (wx yX0_timesAsTold cX0_timesAsTold 3 (some .boolean))) B.pre
  have hT : ∀ w ∈ TB, w.before _ s = true := fun w h => hts w (List.mem_cons_of_mem _ h)
  have hown : s.vm.findClass RX0 = some m.cls := findClass_of_methodNamed B.named
  have hlocks := B.notSynchronized
  subst hsz
  have hD := dC hD0 s.heap.size
  have hA : ∀ q : Nat, s.heap.size ≤ q → AC ad rd s.heap.size q := fun q h => Or.inr h
  have hS : va_S (AC ad rd s.heap.size) s.heap s.heap [] := va_S.rf
  have hl := lv_entry ([.ref (ad (7)), .int p1]) (n := 3) (Nat.le_of_ble_eq_true rfl)
  rw [lg_entry_eq]
  generalize (lg_sl ([.ref (ad (7)), .int p1]) ++ List.replicate (3 - (lg_sl ([.ref (ad (7)), .int p1])).length) Slot.unset).toArray = ls at hl ⊢
  have hl : lv_has ls 3 [(0, .ref (ad (7))), (1, .int p1)] := hl
  unfold FX0_timesAsTold at hF
  have J101 : ∀ (t0 : Int32) (fi : FI) (ar : AR) (H : Heap) (locs : List Loc) (ls : Array Slot), FX0_timesAsTold_101 nf ln t0 fi ar = some (r, fi', ar') → lv_has ls 3 [(0, .ref (ad (7)))] → va_P (gD g) vwCl (WC g ad rd ln fi ar) H → va_S (AC ad rd s.heap.size) s.heap H locs → W p l e (headSpec (wx yX0_timesAsTold cX0_timesAsTold 3 (some .boolean)) ({ frames := 3, cells := 0, slots := 0, locals := 65 } : Room)).room s m ([.ref (ad (7)), .int p1] : List Value).toArray below meth c H locs 0 0 (MQ below (QCi g ad rd ln s.heap.size r fi' ar') ([.ref (ad (7)), .int p1] : List Value).toArray s 0 0 (AC ad rd s.heap.size)) (F0 m 101 ls [.int t0]) := by
    intro t0 fi ar H locs ls hF hl hP hS
    unfold FX0_timesAsTold_101 at hF
    replace hF := gd_of hF
    obtain ⟨hz1, hF⟩ := hF
    exact rC_z hx hb hr hlocks (nar_z hz1) hF hP hS dX0_timesAsTold_101
  have J100 : ∀  (fi : FI) (ar : AR) (H : Heap) (locs : List Loc) (ls : Array Slot), FX0_timesAsTold_100 nf ln fi ar = some (r, fi', ar') → lv_has ls 3 [(0, .ref (ad (7)))] → va_P (gD g) vwCl (WC g ad rd ln fi ar) H → va_S (AC ad rd s.heap.size) s.heap H locs → W p l e (headSpec (wx yX0_timesAsTold cX0_timesAsTold 3 (some .boolean)) ({ frames := 3, cells := 0, slots := 0, locals := 65 } : Room)).room s m ([.ref (ad (7)), .int p1] : List Value).toArray below meth c H locs 0 0 (MQ below (QCi g ad rd ln s.heap.size r fi' ar') ([.ref (ad (7)), .int p1] : List Value).toArray s 0 0 (AC ad rd s.heap.size)) (F0 m 100 ls []) := by
    intro fi ar H locs ls hF hl hP hS
    unfold FX0_timesAsTold_100 at hF
    refine lv_iconst (v := (0 : Int32)) hx hb dX0_timesAsTold_100 (by decide) ?_
    exact J101 (0 : Int32) _ _ _ _ _ hF (lv_sub hl [0] rfl) hP hS
  have J62 : ∀ (x1 : Int32) (fi : FI) (ar : AR) (H : Heap) (locs : List Loc) (ls : Array Slot), FX0_timesAsTold_62 nf ln x1 fi ar = some (r, fi', ar') → lv_has ls 3 [(0, .ref (ad (7))), (1, .int x1)] → va_P (gD g) vwCl (WC g ad rd ln fi ar) H → va_S (AC ad rd s.heap.size) s.heap H locs → W p l e (headSpec (wx yX0_timesAsTold cX0_timesAsTold 3 (some .boolean)) ({ frames := 3, cells := 0, slots := 0, locals := 65 } : Room)).room s m ([.ref (ad (7)), .int p1] : List Value).toArray below meth c H locs 0 0 (MQ below (QCi g ad rd ln s.heap.size r fi' ar') ([.ref (ad (7)), .int p1] : List Value).toArray s 0 0 (AC ad rd s.heap.size)) (F0 m 62 ls []) := by
    intro x1 fi ar H locs ls hF hl hP hS
    unfold FX0_timesAsTold_62 at hF
    refine lv_aload_n hx hb dX0_timesAsTold_62 rfl (lv_at hl 0 rfl) ?_
    refine cg_X0_disk hx hb hT hown hK hP mw4_14 dX0_timesAsTold_63 ?_
    refine lv_iload_n hx hb dX0_timesAsTold_66 rfl (lv_at hl 1 rfl) ?_
    refine lv_bipush (v := (24 : Int32)) hx hb dX0_timesAsTold_67 (by decide) ?_
    refine lv_iadd hx hb dX0_timesAsTold_69 ?_
    replace hF := obnd3_of hF
    obtain ⟨r5, fi3, ar4, h2, hF⟩ := hF
    refine cC_i (As := [.int ((x1) + (24 : Int32))]) (rest := []) hx hb hml hT hown hK hE hD hA hP hS (rcv_X3 hK hP) (kX3_two l g ad rd _ nf ln fi ar ((x1) + (24 : Int32)) r5 fi3 ar4 h2) cw_X3_two mw24_23 ⟨⟨rfl, rfl⟩, Nat.le_of_ble_eq_true rfl, Nat.le_of_ble_eq_true rfl⟩ rfl hl.1 rfl (Nat.le_of_ble_eq_true rfl) dX0_timesAsTold_70 ⟨Nat.zero_le _, Nat.zero_le _⟩ (fun H locs hP hS => ?_)
    replace hF := obnd_of hF
    obtain ⟨r7, h6, hF⟩ := hF
    refine cS_i (As := [.int (r5)]) (rest := []) hx hb hml hT hown hE hP hS (kX1_dayAsTold l g nf (r5) r7 h6) cw_X1_dayAsTold mw25_15 ⟨⟨rfl, rfl⟩, Nat.le_of_ble_eq_true rfl, Nat.le_of_ble_eq_true rfl⟩ rfl hl.1 rfl (Nat.le_of_ble_eq_true rfl) dX0_timesAsTold_73 ⟨Nat.zero_le _, Nat.zero_le _⟩ (fun H locs hP hS => ?_)
    refine lv_if_eq (tgt := 100) hx hb dX0_timesAsTold_76 (by decide) (fun hc8 => ?_) (fun hc8 => ?_)
    · replace hF := br_yes hF hc8
      exact J100  _ _ _ _ _ hF (lv_sub hl [0] rfl) hP hS
    · replace hF := br_no hF hc8
      refine lv_aload_n hx hb dX0_timesAsTold_79 rfl (lv_at hl 0 rfl) ?_
      refine cg_X0_disk hx hb hT hown hK hP mw4_14 dX0_timesAsTold_80 ?_
      refine lv_iload_n hx hb dX0_timesAsTold_83 rfl (lv_at hl 1 rfl) ?_
      refine lv_bipush (v := (22 : Int32)) hx hb dX0_timesAsTold_84 (by decide) ?_
      refine lv_iadd hx hb dX0_timesAsTold_86 ?_
      replace hF := obnd3_of hF
      obtain ⟨r12, fi10, ar11, h9, hF⟩ := hF
      refine cC_i (As := [.int ((x1) + (22 : Int32))]) (rest := []) hx hb hml hT hown hK hE hD hA hP hS (rcv_X3 hK hP) (kX3_two l g ad rd _ nf ln fi3 ar4 ((x1) + (22 : Int32)) r12 fi10 ar11 h9) cw_X3_two mw24_23 ⟨⟨rfl, rfl⟩, Nat.le_of_ble_eq_true rfl, Nat.le_of_ble_eq_true rfl⟩ rfl hl.1 rfl (Nat.le_of_ble_eq_true rfl) dX0_timesAsTold_87 ⟨Nat.zero_le _, Nat.zero_le _⟩ (fun H locs hP hS => ?_)
      replace hF := obnd_of hF
      obtain ⟨r14, h13, hF⟩ := hF
      refine cS_i (As := [.int (r12)]) (rest := []) hx hb hml hT hown hE hP hS (kX1_timeAsTold l g nf (r12) r14 h13) cw_X1_timeAsTold mw25_16 ⟨⟨rfl, rfl⟩, Nat.le_of_ble_eq_true rfl, Nat.le_of_ble_eq_true rfl⟩ rfl hl.1 rfl (Nat.le_of_ble_eq_true rfl) dX0_timesAsTold_90 ⟨Nat.zero_le _, Nat.zero_le _⟩ (fun H locs hP hS => ?_)
      refine lv_if_eq (tgt := 100) hx hb dX0_timesAsTold_93 (by decide) (fun hc15 => ?_) (fun hc15 => ?_)
      · replace hF := br_yes hF hc15
        exact J100  _ _ _ _ _ hF (lv_sub hl [0] rfl) hP hS
      · replace hF := br_no hF hc15
        refine lv_iconst (v := (1 : Int32)) hx hb dX0_timesAsTold_96 (by decide) ?_
        refine lv_goto (tgt := 101) hx hb dX0_timesAsTold_97 (by decide) ?_
        exact J101 (1 : Int32) _ _ _ _ _ hF (lv_sub hl [0] rfl) hP hS
  replace hl := lv_sub hl [0, 1] rfl
  refine lv_aload_n hx hb dX0_timesAsTold_0 rfl (lv_at hl 0 rfl) ?_
  refine cg_X0_disk hx hb hT hown hK hP mw4_14 dX0_timesAsTold_1 ?_
  refine lv_iload_n hx hb dX0_timesAsTold_4 rfl (lv_at hl 1 rfl) ?_
  refine lv_bipush (v := (18 : Int32)) hx hb dX0_timesAsTold_5 (by decide) ?_
  refine lv_iadd hx hb dX0_timesAsTold_7 ?_
  replace hF := obnd3_of hF
  obtain ⟨r19, fi17, ar18, h16, hF⟩ := hF
  refine cC_i (As := [.int ((p1) + (18 : Int32))]) (rest := []) hx hb hml hT hown hK hE hD hA hP hS (rcv_X3 hK hP) (kX3_two l g ad rd _ nf ln fi ar ((p1) + (18 : Int32)) r19 fi17 ar18 h16) cw_X3_two mw24_23 ⟨⟨rfl, rfl⟩, Nat.le_of_ble_eq_true rfl, Nat.le_of_ble_eq_true rfl⟩ rfl hl.1 rfl (Nat.le_of_ble_eq_true rfl) dX0_timesAsTold_8 ⟨Nat.zero_le _, Nat.zero_le _⟩ (fun H locs hP hS => ?_)
  refine lv_istore_n (lv' := [(2, .int (r19)), (0, .ref (ad (7))), (1, .int (p1))]) hx hb dX0_timesAsTold_11 rfl hl (by decide) rfl (fun ls hl => ?_)
  refine lv_aload_n hx hb dX0_timesAsTold_12 rfl (lv_at hl 1 rfl) ?_
  refine cg_X0_disk hx hb hT hown hK hP mw4_14 dX0_timesAsTold_13 ?_
  refine lv_iload_n hx hb dX0_timesAsTold_16 rfl (lv_at hl 2 rfl) ?_
  refine lv_bipush (v := (16 : Int32)) hx hb dX0_timesAsTold_17 (by decide) ?_
  refine lv_iadd hx hb dX0_timesAsTold_19 ?_
  replace hF := obnd3_of hF
  obtain ⟨r23, fi21, ar22, h20, hF⟩ := hF
  refine cC_i (As := [.int ((p1) + (16 : Int32))]) (rest := []) hx hb hml hT hown hK hE hD hA hP hS (rcv_X3 hK hP) (kX3_two l g ad rd _ nf ln fi17 ar18 ((p1) + (16 : Int32)) r23 fi21 ar22 h20) cw_X3_two mw24_23 ⟨⟨rfl, rfl⟩, Nat.le_of_ble_eq_true rfl, Nat.le_of_ble_eq_true rfl⟩ rfl hl.1 rfl (Nat.le_of_ble_eq_true rfl) dX0_timesAsTold_20 ⟨Nat.zero_le _, Nat.zero_le _⟩ (fun H locs hP hS => ?_)
  refine lv_aload_n hx hb dX0_timesAsTold_23 rfl (lv_at hl 1 rfl) ?_
  refine cg_X0_disk hx hb hT hown hK hP mw4_14 dX0_timesAsTold_24 ?_
  refine lv_iload_n hx hb dX0_timesAsTold_27 rfl (lv_at hl 2 rfl) ?_
  refine lv_bipush (v := (14 : Int32)) hx hb dX0_timesAsTold_28 (by decide) ?_
  refine lv_iadd hx hb dX0_timesAsTold_30 ?_
  replace hF := obnd3_of hF
  obtain ⟨r27, fi25, ar26, h24, hF⟩ := hF
  refine cC_i (As := [.int ((p1) + (14 : Int32))]) (rest := [.int (r23)]) hx hb hml hT hown hK hE hD hA hP hS (rcv_X3 hK hP) (kX3_two l g ad rd _ nf ln fi21 ar22 ((p1) + (14 : Int32)) r27 fi25 ar26 h24) cw_X3_two mw24_23 ⟨⟨rfl, rfl⟩, Nat.le_of_ble_eq_true rfl, Nat.le_of_ble_eq_true rfl⟩ rfl hl.1 rfl (Nat.le_of_ble_eq_true rfl) dX0_timesAsTold_31 ⟨Nat.zero_le _, Nat.zero_le _⟩ (fun H locs hP hS => ?_)
  refine lv_aload_n hx hb dX0_timesAsTold_34 rfl (lv_at hl 1 rfl) ?_
  refine cg_X0_disk hx hb hT hown hK hP mw4_14 dX0_timesAsTold_35 ?_
  refine lv_iload_n hx hb dX0_timesAsTold_38 rfl (lv_at hl 2 rfl) ?_
  refine lv_bipush (v := (13 : Int32)) hx hb dX0_timesAsTold_39 (by decide) ?_
  refine lv_iadd hx hb dX0_timesAsTold_41 ?_
  replace hF := obnd3_of hF
  obtain ⟨r31, fi29, ar30, h28, hF⟩ := hF
  refine cC_i (As := [.int ((p1) + (13 : Int32))]) (rest := [.int (r27), .int (r23)]) hx hb hml hT hown hK hE hD hA hP hS (rcv_X3 hK hP) (kX3_one l g ad rd _ nf ln fi25 ar26 ((p1) + (13 : Int32)) r31 fi29 ar30 h28) cw_X3_one mw24_13 ⟨⟨rfl, rfl⟩, Nat.le_of_ble_eq_true rfl, Nat.le_of_ble_eq_true rfl⟩ rfl hl.1 rfl (Nat.le_of_ble_eq_true rfl) dX0_timesAsTold_42 ⟨Nat.zero_le _, Nat.zero_le _⟩ (fun H locs hP hS => ?_)
  replace hF := obnd_of hF
  obtain ⟨r33, h32, hF⟩ := hF
  refine cS_i (As := [.int (r23), .int (r27), .int (r31)]) (rest := []) hx hb hml hT hown hE hP hS (kX1_madeAsTold l g nf (r23) (r27) (r31) r33 h32) cw_X1_madeAsTold mw25_0 ⟨⟨rfl, rfl⟩, Nat.le_of_ble_eq_true rfl, Nat.le_of_ble_eq_true rfl⟩ rfl hl.1 rfl (Nat.le_of_ble_eq_true rfl) dX0_timesAsTold_45 ⟨Nat.zero_le _, Nat.zero_le _⟩ (fun H locs hP hS => ?_)
  refine lv_if_eq (tgt := 100) hx hb dX0_timesAsTold_48 (by decide) (fun hc34 => ?_) (fun hc34 => ?_)
  · replace hF := br_yes hF hc34
    exact J100  _ _ _ _ _ hF (lv_sub hl [1] rfl) hP hS
  · replace hF := br_no hF hc34
    refine lv_iload_n hx hb dX0_timesAsTold_51 rfl (lv_at hl 0 rfl) ?_
    refine lv_if_eq (tgt := 62) hx hb dX0_timesAsTold_52 (by decide) (fun hc35 => ?_) (fun hc35 => ?_)
    · replace hF := br_yes hF hc35
      exact J62 (p1) _ _ _ _ _ hF (lv_sub hl [1, 2] rfl) hP hS
    · replace hF := br_no hF hc35
      refine lv_iload_n hx hb dX0_timesAsTold_55 rfl (lv_at hl 0 rfl) ?_
      replace hF := obnd_of hF
      obtain ⟨r37, h36, hF⟩ := hF
      refine cS_i (As := [.int (r19)]) (rest := []) hx hb hml hT hown hE hP hS (kX1_dayAsTold l g nf (r19) r37 h36) cw_X1_dayAsTold mw25_15 ⟨⟨rfl, rfl⟩, Nat.le_of_ble_eq_true rfl, Nat.le_of_ble_eq_true rfl⟩ rfl hl.1 rfl (Nat.le_of_ble_eq_true rfl) dX0_timesAsTold_56 ⟨Nat.zero_le _, Nat.zero_le _⟩ (fun H locs hP hS => ?_)
      refine lv_if_eq (tgt := 100) hx hb dX0_timesAsTold_59 (by decide) (fun hc38 => ?_) (fun hc38 => ?_)
      · replace hF := br_yes hF hc38
        exact J100  _ _ _ _ _ hF (lv_sub hl [1] rfl) hP hS
      · replace hF := br_no hF hc38
        exact J62 (p1) _ _ _ _ _ hF (lv_sub hl [1, 2] rfl) hP hS
theorem cw_X0_timesAsTold : (Cond.instanceMethod yX0_timesAsTold ∈ TB ∧ Cond.selects RX0 yX0_timesAsTold yX0_timesAsTold ∈ TB ∧ Cond.code yX0_timesAsTold cX0_timesAsTold 3 (some .boolean) ∈ TB ∧ Cond.initialized RX0 ∈ TB) ∧ (yX0_timesAsTold.cls = RX0 ∧ yX0_timesAsTold.cls ≠ "java/lang/invoke/MethodHandle" ∧ yX0_timesAsTold.cls ≠ "java/lang/invoke/VarHandle" ∧ (parseMethodDescriptor yX0_timesAsTold.desc).map (fun d => d.parameters.length) = some 1) := ⟨⟨mw24_20, mw24_21, mw24_22, mw2_14⟩, by decide +kernel⟩
/-! X7_load -/
noncomputable def FX7_load_2b (K2 : Int32 → Int32 → FI → AR → Option (Unit × FI × AR)) (nf : Nat) (ln : LN) (i0 : Nat) (x2 : Int32) (x3 : Int32) (fi : FI) (ar : AR) : Option (Unit × FI × AR) :=
  br ((11 : Int32) ≤ (x3)) (some ((), fi, ar)) (obnd3 (FX3_one nf ln fi ar ((x2) + (x3))) fun r5 fi3 ar4 => gd (¬ ((x3) < 0 ∨ ln (40 + 2 * i0) ≤ (x3).toNatClampNeg)) (bnd (va_up ar4 (40 + 2 * i0) (upd (ar4 (40 + 2 * i0)) (x3).toNatClampNeg (r5))) fun ar7 => bnd ((x3) + (1 : Int32)) fun x3_8 => K2 (x2) (x3_8) fi3 ar7))
noncomputable def FX7_load_2 (nf : Nat) (ln : LN) (i0 : Nat) (kf : Nat) : Int32 → Int32 → FI → AR → Option (Unit × FI × AR) := Nat.rec (fun _ _ _ _ => none) (fun _ K2 => FX7_load_2b K2 nf ln i0) kf
noncomputable def FX7_load (nf : Nat) (ln : LN) (i0 : Nat) (fi : FI) (ar : AR) (x2 : Int32) : Option (Unit × FI × AR) :=
  FX7_load_2 nf ln i0 nf (x2) (0 : Int32) fi ar
set_option maxHeartbeats 4000000 in
set_option maxRecDepth 100000 in
theorem kX7_load (l : Launch) (g : GT) (ad rd : Nat → Nat) (sz : Nat) (nf : Nat) (ln : LN) (i0 : Nat) (hi0 : i0 < 2) (fi : FI) (ar : AR) (p2 : Int32) (r : Unit) (fi' : FI) (ar' : AR) (hF : FX7_load nf ln i0 fi ar p2 = some (r, fi', ar')) : Met l yX7_load (wx yX7_load cX7_load 4 none) ({ frames := 1, cells := 0, slots := 0, locals := 22 } : Room) (va_Pc [.ref (ad (34 + 3 * i0)), .ref (ad (1)), .int p2] (PC g ad rd ln sz fi ar)) (QCv g ad rd ln sz r fi' ar') 0 0 (AC ad rd sz) := by
  refine Met.ofW (cc := cX7_load) (maxL := 4) (ret := none) (by decide) rfl ?_
  intro p e s m args below meth c s₁ B hml hv
  obtain ⟨rfl, hsz, hP, hK, hD0, hE⟩ := hv
  have hx := B.exec
  have hb := B.bytes
  have hr := B.returns
  have hts := atoms_spec (ws := (wx yX7_load cX7_load 4 none)) B.pre
  have hT : ∀ w ∈ TB, w.before _ s = true := fun w h => hts w (List.mem_cons_of_mem _ h)
  have hown : s.vm.findClass RX7 = some m.cls := findClass_of_methodNamed B.named
  have hlocks := B.notSynchronized
  subst hsz
  have hD := dC hD0 s.heap.size
  have hA : ∀ q : Nat, s.heap.size ≤ q → AC ad rd s.heap.size q := fun q h => Or.inr h
  have hS : va_S (AC ad rd s.heap.size) s.heap s.heap [] := va_S.rf
  have hl := lv_entry ([.ref (ad (34 + 3 * i0)), .ref (ad (1)), .int p2]) (n := 4) (Nat.le_of_ble_eq_true rfl)
  rw [lg_entry_eq]
  generalize (lg_sl ([.ref (ad (34 + 3 * i0)), .ref (ad (1)), .int p2]) ++ List.replicate (4 - (lg_sl ([.ref (ad (34 + 3 * i0)), .ref (ad (1)), .int p2])).length) Slot.unset).toArray = ls at hl ⊢
  have hl : lv_has ls 4 [(0, .ref (ad (34 + 3 * i0))), (1, .ref (ad (1))), (2, .int p2)] := hl
  unfold FX7_load at hF
  have L2 : ∀ kf : Nat, ∀ (x2 : Int32) (x3 : Int32) (fi : FI) (ar : AR) (H : Heap) (locs : List Loc) (ls : Array Slot), FX7_load_2 nf ln i0 kf x2 x3 fi ar = some (r, fi', ar') → lv_has ls 4 [(0, .ref (ad (34 + 3 * i0))), (1, .ref (ad (1))), (2, .int x2), (3, .int x3)] → va_P (gD g) vwCl (WC g ad rd ln fi ar) H → va_S (AC ad rd s.heap.size) s.heap H locs → W p l e (headSpec (wx yX7_load cX7_load 4 none) ({ frames := 1, cells := 0, slots := 0, locals := 22 } : Room)).room s m ([.ref (ad (34 + 3 * i0)), .ref (ad (1)), .int p2] : List Value).toArray below meth c H locs 0 0 (MQ below (QCv g ad rd ln s.heap.size r fi' ar') ([.ref (ad (34 + 3 * i0)), .ref (ad (1)), .int p2] : List Value).toArray s 0 0 (AC ad rd s.heap.size)) (F0 m 2 ls []) := by
    intro kf
    induction kf with
    | zero => intro x2 x3 fi ar H locs ls hF hl hP hS; cases (show (none : Option (Unit × FI × AR)) = _ from hF)
    | succ kf ih2 =>
      intro x2 x3 fi ar H locs ls hF hl hP hS
      obtain ⟨K2, hK2⟩ : ∃ K : Int32 → Int32 → FI → AR → Option (Unit × FI × AR), K = FX7_load_2 nf ln i0 kf := ⟨_, rfl⟩
      replace hF : FX7_load_2b K2 nf ln i0 x2 x3 fi ar = some (r, fi', ar') := by rw [hK2]; exact hF
      rw [← hK2] at ih2
      clear hK2
      unfold FX7_load_2b at hF
      refine lv_iload_n hx hb dX7_load_2 rfl (lv_at hl 3 rfl) ?_
      refine lv_bipush (v := (11 : Int32)) hx hb dX7_load_3 (by decide) ?_
      refine lv_icmp_ge (tgt := 27) hx hb dX7_load_5 (by decide) (fun hc1 => ?_) (fun hc1 => ?_)
      · replace hF := br_yes hF hc1
        exact rC_v hx hb hr hlocks hF hP hS dX7_load_27
      · replace hF := br_no hF hc1
        refine lv_aload_n hx hb dX7_load_8 rfl (lv_at hl 0 rfl) ?_
        refine cg_X7_bytes hi0 hx hb hT hown hK hP mw5_5 dX7_load_9 ?_
        refine lv_iload_n hx hb dX7_load_12 rfl (lv_at hl 3 rfl) ?_
        refine lv_aload_n hx hb dX7_load_13 rfl (lv_at hl 1 rfl) ?_
        refine lv_iload_n hx hb dX7_load_14 rfl (lv_at hl 2 rfl) ?_
        refine lv_iload_n hx hb dX7_load_15 rfl (lv_at hl 3 rfl) ?_
        refine lv_iadd hx hb dX7_load_16 ?_
        replace hF := obnd3_of hF
        obtain ⟨r5, fi3, ar4, h2, hF⟩ := hF
        refine cC_i (As := [.int ((x2) + (x3))]) (rest := [.int (x3), .ref (ad (35 + 3 * i0))]) hx hb hml hT hown hK hE hD hA hP hS (rcv_X3 hK hP) (kX3_one l g ad rd _ nf ln fi ar ((x2) + (x3)) r5 fi3 ar4 h2) cw_X3_one mw26_1 ⟨⟨rfl, rfl⟩, Nat.le_of_ble_eq_true rfl, Nat.le_of_ble_eq_true rfl⟩ rfl hl.1 rfl (Nat.le_of_ble_eq_true rfl) dX7_load_17 ⟨Nat.zero_le _, Nat.zero_le _⟩ (fun H locs hP hS => ?_)
        replace hF := gd_of hF
        obtain ⟨hi6, hF⟩ := hF
        obtain ⟨ar7, ear7⟩ : ∃ y : AR, y = va_up ar4 (40 + 2 * i0) (upd (ar4 (40 + 2 * i0)) (x3).toNatClampNeg (r5)) := ⟨_, rfl⟩
        replace hF := bnd_of hF ear7
        refine cs_sbytes hi0 hx hb hK hP hD hS hi6 dX7_load_20 (fun H locs hP hS => ?_)
        rw [← ear7] at hP
        obtain ⟨x3_8, ex3_8⟩ : ∃ y : Int32, y = (x3) + (1 : Int32) := ⟨_, rfl⟩
        replace hF := bnd_of hF ex3_8
        refine lv_iinc (v := x3_8) (lv' := [(3, .int (x3_8)), (0, .ref (ad (34 + 3 * i0))), (1, .ref (ad (1))), (2, .int (x2))]) hx hb dX7_load_21 hl (k := 3) rfl (by rw [ex3_8]; rfl) (by decide) rfl (fun ls hl => ?_)
        refine lv_goto (tgt := 2) hx hb dX7_load_24 (by decide) ?_
        exact ih2 (x2) (x3_8) _ _ _ _ _ hF (lv_sub hl [1, 2, 3, 0] rfl) hP hS
  replace hl := lv_sub hl [0, 1, 2] rfl
  refine lv_iconst (v := (0 : Int32)) hx hb dX7_load_0 (by decide) ?_
  refine lv_istore_n (lv' := [(3, .int (0 : Int32)), (0, .ref (ad (34 + 3 * i0))), (1, .ref (ad (1))), (2, .int (p2))]) hx hb dX7_load_1 rfl hl (by decide) rfl (fun ls hl => ?_)
  exact L2 nf (p2) (0 : Int32) _ _ _ _ _ hF (lv_sub hl [1, 2, 3, 0] rfl) hP hS
theorem cw_X7_load : (Cond.instanceMethod yX7_load ∈ TB ∧ Cond.selects RX7 yX7_load yX7_load ∈ TB ∧ Cond.code yX7_load cX7_load 4 none ∈ TB ∧ Cond.initialized RX7 ∈ TB) ∧ (yX7_load.cls = RX7 ∧ yX7_load.cls ≠ "java/lang/invoke/MethodHandle" ∧ yX7_load.cls ≠ "java/lang/invoke/VarHandle" ∧ (parseMethodDescriptor yX7_load.desc).map (fun d => d.parameters.length) = some 2) := ⟨⟨mw25_22, mw25_23, mw26_0, mw3_4⟩, by decide +kernel⟩
/-! X5_mayStandInShortName -/
noncomputable def FX5_mayStandInShortName_50 (nf : Nat) (t0 : Int32) : Option Int32 :=
  gd ((t0) &&& 1 = (t0)) (some (t0))
noncomputable def FX5_mayStandInShortName_49 (nf : Nat)  : Option Int32 :=
  FX5_mayStandInShortName_50 nf  (0 : Int32)
noncomputable def FX5_mayStandInShortName_45 (nf : Nat)  : Option Int32 :=
  FX5_mayStandInShortName_50 nf  (1 : Int32)
noncomputable def FX5_mayStandInShortName_24 (nf : Nat) (x0 : Int32) : Option Int32 :=
  br ((128 : Int32) ≤ (x0)) (FX5_mayStandInShortName_49 nf) (br ((x0) < 0) (FX5_mayStandInShortName_49 nf) (obnd (FJ0_indexOf_0f7a4 nf 0 (((x0).toUInt32 % 65536).toInt32)) fun r5 => br ((r5) < 0) (FX5_mayStandInShortName_49 nf) (FX5_mayStandInShortName_45 nf)))
noncomputable def FX5_mayStandInShortName_12 (nf : Nat) (x0 : Int32) : Option Int32 :=
  br ((x0) < (48 : Int32)) (FX5_mayStandInShortName_24 nf  (x0)) (br ((x0) ≤ (57 : Int32)) (FX5_mayStandInShortName_45 nf) (FX5_mayStandInShortName_24 nf  (x0)))
noncomputable def FX5_mayStandInShortName (nf : Nat) (x0 : Int32) : Option Int32 :=
  br ((x0) < (65 : Int32)) (FX5_mayStandInShortName_12 nf  (x0)) (br ((x0) ≤ (90 : Int32)) (FX5_mayStandInShortName_45 nf) (FX5_mayStandInShortName_12 nf  (x0)))
set_option maxHeartbeats 4000000 in
set_option maxRecDepth 100000 in
theorem kX5_mayStandInShortName (l : Launch) (g : GT) (nf : Nat) (p0 : Int32) (r : Int32) (hF : FX5_mayStandInShortName nf p0 = some r) : Met l yX5_mayStandInShortName (wx yX5_mayStandInShortName cX5_mayStandInShortName 1 (some .boolean)) ({ frames := 4, cells := 0, slots := 0, locals := 91 } : Room) (va_Pc [.int p0] (PS g)) (QSi r) 0 0 noA := by
  refine Met.ofW (cc := cX5_mayStandInShortName) (maxL := 1) (ret := (some .boolean)) (by decide) rfl ?_
  intro p e s m args below meth c s₁ B hml hv
  obtain ⟨rfl, hE⟩ := hv
  have hx := B.exec
  have hb := B.bytes
  have hr := B.returns
  have hts := atoms_spec (ws := (wx yX5_mayStandInShortName cX5_mayStandInShortName 1 (some .boolean))) B.pre
  have hT : ∀ w ∈ TB, w.before _ s = true := fun w h => hts w (List.mem_cons_of_mem _ h)
  have hown : s.vm.findClass RX5 = some m.cls := findClass_of_methodNamed B.named
  have hlocks := B.notSynchronized
  have hS : va_S noA s.heap s.heap [] := va_S.rf
  have hP : va_P (gD g) vwCl [] s.heap := fun k q h => by cases h
  have hl := lv_entry ([.int p0]) (n := 1) (Nat.le_of_ble_eq_true rfl)
  rw [lg_entry_eq]
  generalize (lg_sl ([.int p0]) ++ List.replicate (1 - (lg_sl ([.int p0])).length) Slot.unset).toArray = ls at hl ⊢
  have hl : lv_has ls 1 [(0, .int p0)] := hl
  unfold FX5_mayStandInShortName at hF
  have J50 : ∀ (t0 : Int32) (H : Heap) (locs : List Loc) (ls : Array Slot), FX5_mayStandInShortName_50 nf t0 = some r → lv_has ls 1 [] → va_P (gD g) vwCl [] H → va_S noA s.heap H locs → W p l e (headSpec (wx yX5_mayStandInShortName cX5_mayStandInShortName 1 (some .boolean)) ({ frames := 4, cells := 0, slots := 0, locals := 91 } : Room)).room s m ([.int p0] : List Value).toArray below meth c H locs 0 0 (MQ below (QSi r) ([.int p0] : List Value).toArray s 0 0 noA) (F0 m 50 ls [.int t0]) := by
    intro t0 H locs ls hF hl hP hS
    unfold FX5_mayStandInShortName_50 at hF
    replace hF := gd_of hF
    obtain ⟨hz1, hF⟩ := hF
    exact rS_z hx hb hr hlocks (nar_z hz1) hF hS dX5_mayStandInShortName_50
  have J49 : ∀  (H : Heap) (locs : List Loc) (ls : Array Slot), FX5_mayStandInShortName_49 nf  = some r → lv_has ls 1 [] → va_P (gD g) vwCl [] H → va_S noA s.heap H locs → W p l e (headSpec (wx yX5_mayStandInShortName cX5_mayStandInShortName 1 (some .boolean)) ({ frames := 4, cells := 0, slots := 0, locals := 91 } : Room)).room s m ([.int p0] : List Value).toArray below meth c H locs 0 0 (MQ below (QSi r) ([.int p0] : List Value).toArray s 0 0 noA) (F0 m 49 ls []) := by
    intro H locs ls hF hl hP hS
    unfold FX5_mayStandInShortName_49 at hF
    refine lv_iconst (v := (0 : Int32)) hx hb dX5_mayStandInShortName_49 (by decide) ?_
    exact J50 (0 : Int32)  _ _ _ hF (lv_sub hl [] rfl) hP hS
  have J45 : ∀  (H : Heap) (locs : List Loc) (ls : Array Slot), FX5_mayStandInShortName_45 nf  = some r → lv_has ls 1 [] → va_P (gD g) vwCl [] H → va_S noA s.heap H locs → W p l e (headSpec (wx yX5_mayStandInShortName cX5_mayStandInShortName 1 (some .boolean)) ({ frames := 4, cells := 0, slots := 0, locals := 91 } : Room)).room s m ([.int p0] : List Value).toArray below meth c H locs 0 0 (MQ below (QSi r) ([.int p0] : List Value).toArray s 0 0 noA) (F0 m 45 ls []) := by
    intro H locs ls hF hl hP hS
    unfold FX5_mayStandInShortName_45 at hF
    refine lv_iconst (v := (1 : Int32)) hx hb dX5_mayStandInShortName_45 (by decide) ?_
    refine lv_goto (tgt := 50) hx hb dX5_mayStandInShortName_46 (by decide) ?_
    exact J50 (1 : Int32)  _ _ _ hF (lv_sub hl [] rfl) hP hS
  have J24 : ∀ (x0 : Int32) (H : Heap) (locs : List Loc) (ls : Array Slot), FX5_mayStandInShortName_24 nf x0 = some r → lv_has ls 1 [(0, .int x0)] → va_P (gD g) vwCl [] H → va_S noA s.heap H locs → W p l e (headSpec (wx yX5_mayStandInShortName cX5_mayStandInShortName 1 (some .boolean)) ({ frames := 4, cells := 0, slots := 0, locals := 91 } : Room)).room s m ([.int p0] : List Value).toArray below meth c H locs 0 0 (MQ below (QSi r) ([.int p0] : List Value).toArray s 0 0 noA) (F0 m 24 ls []) := by
    intro x0 H locs ls hF hl hP hS
    unfold FX5_mayStandInShortName_24 at hF
    refine lv_iload_n hx hb dX5_mayStandInShortName_24 rfl (lv_at hl 0 rfl) ?_
    refine lv_sipush (v := (128 : Int32)) hx hb dX5_mayStandInShortName_25 (by decide) ?_
    refine lv_icmp_ge (tgt := 49) hx hb dX5_mayStandInShortName_28 (by decide) (fun hc2 => ?_) (fun hc2 => ?_)
    · replace hF := br_yes hF hc2
      exact J49   _ _ _ hF (lv_sub hl [] rfl) hP hS
    · replace hF := br_no hF hc2
      refine lv_iload_n hx hb dX5_mayStandInShortName_31 rfl (lv_at hl 0 rfl) ?_
      refine lv_if_lt (tgt := 49) hx hb dX5_mayStandInShortName_32 (by decide) (fun hc3 => ?_) (fun hc3 => ?_)
      · replace hF := br_yes hF hc3
        exact J49   _ _ _ hF (lv_sub hl [] rfl) hP hS
      · replace hF := br_no hF hc3
        refine va_ldcS (q := g.2.2.2 0) hx hb hown hE.2.2.2.1 dX5_mayStandInShortName_35 ?_
        refine lv_iload_n hx hb dX5_mayStandInShortName_37 rfl (lv_at hl 0 rfl) ?_
        refine lv_i2c hx hb dX5_mayStandInShortName_38 rfl ?_
        replace hF := obnd_of hF
        obtain ⟨r5, h4, hF⟩ := hF
        refine cT_i (As := [.int (((x0).toUInt32 % 65536).toInt32)]) (rest := []) (by decide) hx hb hml hT hown hE hP hS (kJ0_indexOf_0f7a4 l g nf 0 (by decide) (((x0).toUInt32 % 65536).toInt32) r5 h4) cw_J0_indexOf_0f7a4 mw10_12 ⟨⟨rfl, rfl⟩, Nat.le_of_ble_eq_true rfl, Nat.le_of_ble_eq_true rfl⟩ rfl hl.1 rfl (Nat.le_of_ble_eq_true rfl) dX5_mayStandInShortName_39 ⟨Nat.zero_le _, Nat.zero_le _⟩ (fun H locs hP hS => ?_)
        refine lv_if_lt (tgt := 49) hx hb dX5_mayStandInShortName_42 (by decide) (fun hc6 => ?_) (fun hc6 => ?_)
        · replace hF := br_yes hF hc6
          exact J49   _ _ _ hF (lv_sub hl [] rfl) hP hS
        · replace hF := br_no hF hc6
          exact J45   _ _ _ hF (lv_sub hl [] rfl) hP hS
  have J12 : ∀ (x0 : Int32) (H : Heap) (locs : List Loc) (ls : Array Slot), FX5_mayStandInShortName_12 nf x0 = some r → lv_has ls 1 [(0, .int x0)] → va_P (gD g) vwCl [] H → va_S noA s.heap H locs → W p l e (headSpec (wx yX5_mayStandInShortName cX5_mayStandInShortName 1 (some .boolean)) ({ frames := 4, cells := 0, slots := 0, locals := 91 } : Room)).room s m ([.int p0] : List Value).toArray below meth c H locs 0 0 (MQ below (QSi r) ([.int p0] : List Value).toArray s 0 0 noA) (F0 m 12 ls []) := by
    intro x0 H locs ls hF hl hP hS
    unfold FX5_mayStandInShortName_12 at hF
    refine lv_iload_n hx hb dX5_mayStandInShortName_12 rfl (lv_at hl 0 rfl) ?_
    refine lv_bipush (v := (48 : Int32)) hx hb dX5_mayStandInShortName_13 (by decide) ?_
    refine lv_icmp_lt (tgt := 24) hx hb dX5_mayStandInShortName_15 (by decide) (fun hc7 => ?_) (fun hc7 => ?_)
    · replace hF := br_yes hF hc7
      exact J24 (x0)  _ _ _ hF (lv_sub hl [0] rfl) hP hS
    · replace hF := br_no hF hc7
      refine lv_iload_n hx hb dX5_mayStandInShortName_18 rfl (lv_at hl 0 rfl) ?_
      refine lv_bipush (v := (57 : Int32)) hx hb dX5_mayStandInShortName_19 (by decide) ?_
      refine lv_icmp_le (tgt := 45) hx hb dX5_mayStandInShortName_21 (by decide) (fun hc8 => ?_) (fun hc8 => ?_)
      · replace hF := br_yes hF hc8
        exact J45   _ _ _ hF (lv_sub hl [] rfl) hP hS
      · replace hF := br_no hF hc8
        exact J24 (x0)  _ _ _ hF (lv_sub hl [0] rfl) hP hS
  replace hl := lv_sub hl [0] rfl
  refine lv_iload_n hx hb dX5_mayStandInShortName_0 rfl (lv_at hl 0 rfl) ?_
  refine lv_bipush (v := (65 : Int32)) hx hb dX5_mayStandInShortName_1 (by decide) ?_
  refine lv_icmp_lt (tgt := 12) hx hb dX5_mayStandInShortName_3 (by decide) (fun hc9 => ?_) (fun hc9 => ?_)
  · replace hF := br_yes hF hc9
    exact J12 (p0)  _ _ _ hF (lv_sub hl [0] rfl) hP hS
  · replace hF := br_no hF hc9
    refine lv_iload_n hx hb dX5_mayStandInShortName_6 rfl (lv_at hl 0 rfl) ?_
    refine lv_bipush (v := (90 : Int32)) hx hb dX5_mayStandInShortName_7 (by decide) ?_
    refine lv_icmp_le (tgt := 45) hx hb dX5_mayStandInShortName_9 (by decide) (fun hc10 => ?_) (fun hc10 => ?_)
    · replace hF := br_yes hF hc10
      exact J45   _ _ _ hF (lv_sub hl [] rfl) hP hS
    · replace hF := br_no hF hc10
      exact J12 (p0)  _ _ _ hF (lv_sub hl [0] rfl) hP hS
theorem cw_X5_mayStandInShortName : (Cond.static yX5_mayStandInShortName ∈ TB ∧ Cond.code yX5_mayStandInShortName cX5_mayStandInShortName 1 (some .boolean) ∈ TB ∧ Cond.initialized yX5_mayStandInShortName.cls ∈ TB) ∧ (yX5_mayStandInShortName.cls ≠ "java/lang/invoke/MethodHandle" ∧ yX5_mayStandInShortName.cls ≠ "java/lang/invoke/VarHandle" ∧ (parseMethodDescriptor yX5_mayStandInShortName.desc).map (fun d => d.parameters.length) = some 1) := ⟨⟨mw10_9, mw10_11, mw10_10⟩, by decide +kernel⟩
