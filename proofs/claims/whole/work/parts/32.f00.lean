/-! X4_init -/
noncomputable def FX4_init (nf : Nat) (ln : LN) (fi : FI) (ar : AR) (x2 : Int32) : Option (Unit × FI × AR) :=
  obnd3 (FX3_four nf ln fi ar ((x2) + (28 : Int32))) fun r4 fi2 ar3 => gd (fi2 80 = fi 80 ∧ fi2 81 = fi 81 ∧ fi2 82 = fi 82) (obnd3 (FX9_byteMask nf ln fi2 ar3) fun r9 fi7 ar8 => gd (fi7 80 = fi2 80 ∧ fi7 81 = fi2 81 ∧ fi7 82 = fi2 82) (bnd ((r4) &&& (r9)) fun x4_11 => obnd3 (FX3_firstCluster nf ln fi7 ar8 (x2)) fun r15 fi13 ar14 => gd (fi13 80 = fi7 80 ∧ fi13 81 = fi7 81 ∧ fi13 82 = fi7 82) (obnd3 (FX9_byteShift nf ln fi13 ar14) fun r20 fi18 ar19 => gd (fi18 80 = fi13 80 ∧ fi18 81 = fi13 81 ∧ fi18 82 = fi13 82) (obnd3 (FX9_later nf ln fi18 ar19 (r15) ((r4) >>> ((r20) &&& 31))) fun r25 fi23 ar24 => gd (fi23 80 = fi18 80 ∧ fi23 81 = fi18 81 ∧ fi23 82 = fi18 82) (bnd (va_up fi23 80 (r25)) fun fi27 => obnd3 (FX9_addressOf nf ln fi27 ar24 (fi27 80)) fun r31 fi29 ar30 => gd (fi29 80 = fi27 80 ∧ fi29 81 = fi27 81 ∧ fi29 82 = fi27 82) (bnd (va_up fi29 81 ((r31) + (x4_11))) fun fi33 => obnd3 (FX9_byteMask nf ln fi33 ar30) fun r37 fi35 ar36 => gd (fi35 80 = fi33 80 ∧ fi35 81 = fi33 81 ∧ fi35 82 = fi33 82) (bnd (va_up fi35 82 (((r37) + (1 : Int32)) - (x4_11))) fun fi39 => some ((), fi39, ar36))))))))
set_option maxHeartbeats 4000000 in
set_option maxRecDepth 100000 in
theorem kX4_init (l : Launch) (g : GT) (ad rd : Nat → Nat) (fe : Nat) (sz : Nat) (nf : Nat) (ln : LN) (fi : FI) (ar : AR) (p2 : Int32) (r : Unit) (fi' : FI) (ar' : AR) (hF : FX4_init nf ln fi ar p2 = some (r, fi', ar')) : Met l yX4_init (wx yX4_init cX4_init 5 none) ({ frames := 3, cells := 0, slots := 0, locals := 67 } : Room) (va_Pc [.ref (fe), .ref (ad (6)), .int p2] (PF g ad rd ln fe .null .null sz fi ar)) (QFv g ad rd ln fe sz r fi' ar') 0 0 (AF ad rd fe sz) := by
  refine Met.ofW (cc := cX4_init) (maxL := 5) (ret := none) (by decide) rfl ?_
  intro p e s m args below meth c s₁ B hml hv
  obtain ⟨rfl, hsz, hP, hK, hD0, hE⟩ := hv
  have hx := B.exec
  have hb := B.bytes
  have hr := B.returns
  have hts := atoms_spec (ws := (wx yX4_init cX4_init 5 none)) B.pre
  have hT : ∀ w ∈ TB, w.before _ s = true := fun w h => hts w (List.mem_cons_of_mem _ h)
  have hown : s.vm.findClass RX4 = some m.cls := findClass_of_methodNamed B.named
  have hlocks := B.notSynchronized
  have hinit : meth.name = "<init>" := (name_of_methodNamed B.named B.method).1
  subst hsz
  have hD := dF hD0 s.heap.size
  have hA : ∀ q : Nat, s.heap.size ≤ q → AF ad rd fe s.heap.size q := fun q h => Or.inr h
  have hS : va_S (AF ad rd fe s.heap.size) s.heap s.heap [] := va_S.rf
  have hl := lv_entry ([.ref (fe), .ref (ad (6)), .int p2]) (n := 5) (Nat.le_of_ble_eq_true rfl)
  rw [lg_entry_eq]
  generalize (lg_sl ([.ref (fe), .ref (ad (6)), .int p2]) ++ List.replicate (5 - (lg_sl ([.ref (fe), .ref (ad (6)), .int p2])).length) Slot.unset).toArray = ls at hl ⊢
  have hl : lv_has ls 5 [(0, .ref (fe)), (1, .ref (ad (6))), (2, .int p2)] := hl
  unfold FX4_init at hF
  replace hl := lv_sub hl [0, 1, 2] rfl
  refine lv_aload_n hx hb dX4_init_0 rfl (lv_at hl 0 rfl) ?_
  refine W.objInit hx hb hown (hT _ mw51_21) (hT _ mw1_15) (hT _ mw1_16) rfl (by rw [hml]; exact hl.1) rfl dX4_init_1 (Nat.le_of_ble_eq_true rfl) (Nat.le_of_ble_eq_true rfl) ?_
  refine W.eq (g2 := F0 m 4 ls []) rfl ?_
  refine lv_aload_n hx hb dX4_init_4 rfl (lv_at hl 0 rfl) ?_
  refine lv_aload_n hx hb dX4_init_5 rfl (lv_at hl 1 rfl) ?_
  refine fp_X4_volume hx hb hT hown hK hP hD hS mw51_22 hinit dX4_init_6 (fun H locs hP hS => ?_)
  refine lv_aload_n hx hb dX4_init_9 rfl (lv_at hl 0 rfl) ?_
  refine lv_aload_n hx hb dX4_init_10 rfl (lv_at hl 1 rfl) ?_
  refine fg_X9_disk hx hb hT hown hK hP mw51_23 dX4_init_11 ?_
  refine fp_X4_disk hx hb hT hown hK hP hD hS mw52_0 hinit dX4_init_14 (fun H locs hP hS => ?_)
  refine lv_aload_n hx hb dX4_init_17 rfl (lv_at hl 0 rfl) ?_
  refine fg_X4_disk hx hb hT hown hK hP mw52_0 dX4_init_18 ?_
  refine lv_iload_n hx hb dX4_init_21 rfl (lv_at hl 2 rfl) ?_
  refine lv_bipush (v := (28 : Int32)) hx hb dX4_init_22 (by decide) ?_
  refine lv_iadd hx hb dX4_init_24 ?_
  replace hF := obnd3_of hF
  obtain ⟨r4, fi2, ar3, h1, hF⟩ := hF
  replace hF := gd_of hF
  obtain ⟨hg5, hF⟩ := hF
  refine cCF_i (As := [.int ((p2) + (28 : Int32))]) (rest := []) hx hb hml hT hown hK hE hD hA hP hS (rcv_X3 hK hP.wc) (kX3_four l g ad rd _ nf ln fi ar ((p2) + (28 : Int32)) r4 fi2 ar3 h1) hg5 cw_X3_four mw52_4 ⟨⟨rfl, rfl⟩, Nat.le_of_ble_eq_true rfl, Nat.le_of_ble_eq_true rfl⟩ rfl hl.1 rfl (Nat.le_of_ble_eq_true rfl) dX4_init_25 ⟨Nat.zero_le _, Nat.zero_le _⟩ (fun H locs hP hS => ?_)
  refine lv_istore_n (lv' := [(3, .int (r4)), (0, .ref (fe)), (1, .ref (ad (6))), (2, .int (p2))]) hx hb dX4_init_28 rfl hl (by decide) rfl (fun ls hl => ?_)
  refine lv_iload_n hx hb dX4_init_29 rfl (lv_at hl 0 rfl) ?_
  refine lv_aload_n hx hb dX4_init_30 rfl (lv_at hl 2 rfl) ?_
  replace hF := obnd3_of hF
  obtain ⟨r9, fi7, ar8, h6, hF⟩ := hF
  replace hF := gd_of hF
  obtain ⟨hg10, hF⟩ := hF
  refine cCF_i (As := []) (rest := [.int (r4)]) hx hb hml hT hown hK hE hD hA hP hS (rcv_X9 hK hP.wc) (kX9_byteMask l g ad rd _ nf ln fi2 ar3 r9 fi7 ar8 h6) hg10 cw_X9_byteMask mw52_5 ⟨⟨rfl, rfl⟩, Nat.le_of_ble_eq_true rfl, Nat.le_of_ble_eq_true rfl⟩ rfl hl.1 rfl (Nat.le_of_ble_eq_true rfl) dX4_init_31 ⟨Nat.zero_le _, Nat.zero_le _⟩ (fun H locs hP hS => ?_)
  refine lv_iand hx hb dX4_init_34 ?_
  obtain ⟨x4_11, ex4_11⟩ : ∃ y : Int32, y = ((r4) &&& (r9)) := ⟨_, rfl⟩
  rw [← ex4_11]
  replace hF := bnd_of hF ex4_11
  refine lv_istore (lv' := [(4, .int (x4_11)), (3, .int (r4)), (0, .ref (fe)), (1, .ref (ad (6))), (2, .int (p2))]) hx hb dX4_init_35 hl (by decide) rfl (fun ls hl => ?_)
  refine lv_aload_n hx hb dX4_init_37 rfl (lv_at hl 2 rfl) ?_
  refine lv_aload_n hx hb dX4_init_38 rfl (lv_at hl 3 rfl) ?_
  refine lv_aload_n hx hb dX4_init_39 rfl (lv_at hl 2 rfl) ?_
  refine fg_X4_disk hx hb hT hown hK hP mw52_0 dX4_init_40 ?_
  refine lv_iload_n hx hb dX4_init_43 rfl (lv_at hl 4 rfl) ?_
  replace hF := obnd3_of hF
  obtain ⟨r15, fi13, ar14, h12, hF⟩ := hF
  replace hF := gd_of hF
  obtain ⟨hg16, hF⟩ := hF
  refine cCF_i (As := [.int (p2)]) (rest := [.ref (ad (6)), .ref (fe)]) hx hb hml hT hown hK hE hD hA hP hS (rcv_X3 hK hP.wc) (kX3_firstCluster l g ad rd _ nf ln fi7 ar8 (p2) r15 fi13 ar14 h12) hg16 cw_X3_firstCluster mw52_6 ⟨⟨rfl, rfl⟩, Nat.le_of_ble_eq_true rfl, Nat.le_of_ble_eq_true rfl⟩ rfl hl.1 rfl (Nat.le_of_ble_eq_true rfl) dX4_init_44 ⟨Nat.zero_le _, Nat.zero_le _⟩ (fun H locs hP hS => ?_)
  refine lv_iload_n hx hb dX4_init_47 rfl (lv_at hl 1 rfl) ?_
  refine lv_aload_n hx hb dX4_init_48 rfl (lv_at hl 3 rfl) ?_
  replace hF := obnd3_of hF
  obtain ⟨r20, fi18, ar19, h17, hF⟩ := hF
  replace hF := gd_of hF
  obtain ⟨hg21, hF⟩ := hF
  refine cCF_i (As := []) (rest := [.int (r4), .int (r15), .ref (ad (6)), .ref (fe)]) hx hb hml hT hown hK hE hD hA hP hS (rcv_X9 hK hP.wc) (kX9_byteShift l g ad rd _ nf ln fi13 ar14 r20 fi18 ar19 h17) hg21 cw_X9_byteShift mw52_7 ⟨⟨rfl, rfl⟩, Nat.le_of_ble_eq_true rfl, Nat.le_of_ble_eq_true rfl⟩ rfl hl.1 rfl (Nat.le_of_ble_eq_true rfl) dX4_init_49 ⟨Nat.zero_le _, Nat.zero_le _⟩ (fun H locs hP hS => ?_)
  refine lv_ishr hx hb dX4_init_52 ?_
  replace hF := obnd3_of hF
  obtain ⟨r25, fi23, ar24, h22, hF⟩ := hF
  replace hF := gd_of hF
  obtain ⟨hg26, hF⟩ := hF
  refine cCF_i (As := [.int (r15), .int ((r4) >>> ((r20) &&& 31))]) (rest := [.ref (fe)]) hx hb hml hT hown hK hE hD hA hP hS (rcv_X9 hK hP.wc) (kX9_later l g ad rd _ nf ln fi18 ar19 (r15) ((r4) >>> ((r20) &&& 31)) r25 fi23 ar24 h22) hg26 cw_X9_later mw52_8 ⟨⟨rfl, rfl⟩, Nat.le_of_ble_eq_true rfl, Nat.le_of_ble_eq_true rfl⟩ rfl hl.1 rfl (Nat.le_of_ble_eq_true rfl) dX4_init_53 ⟨Nat.zero_le _, Nat.zero_le _⟩ (fun H locs hP hS => ?_)
  obtain ⟨fi27, efi27⟩ : ∃ y : FI, y = va_up fi23 80 (r25) := ⟨_, rfl⟩
  replace hF := bnd_of hF efi27
  refine fp_X4_cluster hx hb hT hown hK hP hD hS mw52_1 dX4_init_56 (fun H locs hP hS => ?_)
  rw [← efi27] at hP
  refine lv_aload_n hx hb dX4_init_59 rfl (lv_at hl 2 rfl) ?_
  refine lv_aload_n hx hb dX4_init_60 rfl (lv_at hl 3 rfl) ?_
  refine lv_aload_n hx hb dX4_init_61 rfl (lv_at hl 2 rfl) ?_
  refine fg_X4_cluster hx hb hT hown hK hP mw52_1 dX4_init_62 ?_
  replace hF := obnd3_of hF
  obtain ⟨r31, fi29, ar30, h28, hF⟩ := hF
  replace hF := gd_of hF
  obtain ⟨hg32, hF⟩ := hF
  refine cCF_i (As := [.int (fi27 80)]) (rest := [.ref (fe)]) hx hb hml hT hown hK hE hD hA hP hS (rcv_X9 hK hP.wc) (kX9_addressOf l g ad rd _ nf ln fi27 ar24 (fi27 80) r31 fi29 ar30 h28) hg32 cw_X9_addressOf mw52_9 ⟨⟨rfl, rfl⟩, Nat.le_of_ble_eq_true rfl, Nat.le_of_ble_eq_true rfl⟩ rfl hl.1 rfl (Nat.le_of_ble_eq_true rfl) dX4_init_65 ⟨Nat.zero_le _, Nat.zero_le _⟩ (fun H locs hP hS => ?_)
  refine lv_iload hx hb dX4_init_68 (lv_at hl 0 rfl) ?_
  refine lv_iadd hx hb dX4_init_70 ?_
  obtain ⟨fi33, efi33⟩ : ∃ y : FI, y = va_up fi29 81 ((r31) + (x4_11)) := ⟨_, rfl⟩
  replace hF := bnd_of hF efi33
  refine fp_X4_at hx hb hT hown hK hP hD hS mw52_2 dX4_init_71 (fun H locs hP hS => ?_)
  rw [← efi33] at hP
  refine lv_aload_n hx hb dX4_init_74 rfl (lv_at hl 2 rfl) ?_
  refine lv_aload_n hx hb dX4_init_75 rfl (lv_at hl 3 rfl) ?_
  replace hF := obnd3_of hF
  obtain ⟨r37, fi35, ar36, h34, hF⟩ := hF
  replace hF := gd_of hF
  obtain ⟨hg38, hF⟩ := hF
  refine cCF_i (As := []) (rest := [.ref (fe)]) hx hb hml hT hown hK hE hD hA hP hS (rcv_X9 hK hP.wc) (kX9_byteMask l g ad rd _ nf ln fi33 ar30 r37 fi35 ar36 h34) hg38 cw_X9_byteMask mw52_5 ⟨⟨rfl, rfl⟩, Nat.le_of_ble_eq_true rfl, Nat.le_of_ble_eq_true rfl⟩ rfl hl.1 rfl (Nat.le_of_ble_eq_true rfl) dX4_init_76 ⟨Nat.zero_le _, Nat.zero_le _⟩ (fun H locs hP hS => ?_)
  refine lv_iconst (v := (1 : Int32)) hx hb dX4_init_79 (by decide) ?_
  refine lv_iadd hx hb dX4_init_80 ?_
  refine lv_iload hx hb dX4_init_81 (lv_at hl 0 rfl) ?_
  refine lv_isub hx hb dX4_init_83 ?_
  obtain ⟨fi39, efi39⟩ : ∃ y : FI, y = va_up fi35 82 (((r37) + (1 : Int32)) - (x4_11)) := ⟨_, rfl⟩
  replace hF := bnd_of hF efi39
  refine fp_X4_left hx hb hT hown hK hP hD hS mw52_3 dX4_init_84 (fun H locs hP hS => ?_)
  rw [← efi39] at hP
  exact rF_v hx hb hr hlocks hF hP hS dX4_init_87
theorem cw_X4_init : (Cond.instanceMethod yX4_init ∈ TB ∧ Cond.code yX4_init cX4_init 5 none ∈ TB ∧ Cond.initialized yX4_init.cls ∈ TB) ∧ (yX4_init.name = "<init>" ∧ yX4_init.cls ≠ "java/lang/invoke/MethodHandle" ∧ yX4_init.cls ≠ "java/lang/invoke/VarHandle" ∧ (parseMethodDescriptor yX4_init.desc).map (fun d => d.parameters.length) = some 2) := ⟨⟨mw51_19, mw51_20, mw51_7⟩, by decide +kernel⟩
/-! X4_append -/
noncomputable def FX4_append_50 (nf : Nat) (ln : LN) (x1 : Int32) (fi : FI) (ar : AR) : Option (Unit × FI × AR) :=
  obnd3 (FX3_putOne nf ln fi ar (fi 81) (x1)) fun r4 fi2 ar3 => gd (fi2 80 = fi 80 ∧ fi2 81 = fi 81 ∧ fi2 82 = fi 82) (bnd (va_up fi2 81 ((fi2 81) + (1 : Int32))) fun fi6 => bnd (va_up fi6 82 ((fi6 82) - (1 : Int32))) fun fi7 => some ((), fi7, ar3))
noncomputable def FX4_append (nf : Nat) (ln : LN) (fi : FI) (ar : AR) (x1 : Int32) : Option (Unit × FI × AR) :=
  br ((fi 82) = 0) (obnd3 (FX9_next nf ln fi ar (fi 80)) fun r12 fi10 ar11 => gd (fi10 80 = fi 80 ∧ fi10 81 = fi 81 ∧ fi10 82 = fi 82) (bnd (va_up fi10 80 (r12)) fun fi14 => obnd3 (FX9_addressOf nf ln fi14 ar11 (fi14 80)) fun r18 fi16 ar17 => gd (fi16 80 = fi14 80 ∧ fi16 81 = fi14 81 ∧ fi16 82 = fi14 82) (bnd (va_up fi16 81 (r18)) fun fi20 => obnd3 (FX9_byteMask nf ln fi20 ar17) fun r24 fi22 ar23 => gd (fi22 80 = fi20 80 ∧ fi22 81 = fi20 81 ∧ fi22 82 = fi20 82) (bnd (va_up fi22 82 ((r24) + (1 : Int32))) fun fi26 => FX4_append_50 nf ln  (x1) fi26 ar23)))) (FX4_append_50 nf ln  (x1) fi ar)
set_option maxHeartbeats 4000000 in
set_option maxRecDepth 100000 in
theorem kX4_append (l : Launch) (g : GT) (ad rd : Nat → Nat) (fe : Nat) (sz : Nat) (nf : Nat) (ln : LN) (fi : FI) (ar : AR) (p1 : Int32) (r : Unit) (fi' : FI) (ar' : AR) (hF : FX4_append nf ln fi ar p1 = some (r, fi', ar')) : Met l yX4_append (wx yX4_append cX4_append 2 none) ({ frames := 2, cells := 0, slots := 0, locals := 43 } : Room) (va_Pc [.ref (fe), .int p1] (PF g ad rd ln fe (.ref (ad (6))) (.ref (ad (1))) sz fi ar)) (QFv g ad rd ln fe sz r fi' ar') 0 0 (AF ad rd fe sz) := by
  refine Met.ofW (cc := cX4_append) (maxL := 2) (ret := none) (by decide) rfl ?_
  intro p e s m args below meth c s₁ B hml hv
  obtain ⟨rfl, hsz, hP, hK, hD0, hE⟩ := hv
  have hx := B.exec
  have hb := B.bytes
  have hr := B.returns
  have hts := atoms_spec (ws := (wx yX4_append cX4_append 2 none)) B.pre
  have hT : ∀ w ∈ TB, w.before _ s = true := fun w h => hts w (List.mem_cons_of_mem _ h)
  have hown : s.vm.findClass RX4 = some m.cls := findClass_of_methodNamed B.named
  have hlocks := B.notSynchronized
  subst hsz
  have hD := dF hD0 s.heap.size
  have hA : ∀ q : Nat, s.heap.size ≤ q → AF ad rd fe s.heap.size q := fun q h => Or.inr h
  have hS : va_S (AF ad rd fe s.heap.size) s.heap s.heap [] := va_S.rf
  have hl := lv_entry ([.ref (fe), .int p1]) (n := 2) (Nat.le_of_ble_eq_true rfl)
  rw [lg_entry_eq]
  generalize (lg_sl ([.ref (fe), .int p1]) ++ List.replicate (2 - (lg_sl ([.ref (fe), .int p1])).length) Slot.unset).toArray = ls at hl ⊢
  have hl : lv_has ls 2 [(0, .ref (fe)), (1, .int p1)] := hl
  unfold FX4_append at hF
  have J50 : ∀ (x1 : Int32) (fi : FI) (ar : AR) (H : Heap) (locs : List Loc) (ls : Array Slot), FX4_append_50 nf ln x1 fi ar = some (r, fi', ar') → lv_has ls 2 [(0, .ref (fe)), (1, .int x1)] → va_P (gD g) vwCl (WF g ad rd ln fe (.ref (ad (6))) (.ref (ad (1))) fi ar) H → va_S (AF ad rd fe s.heap.size) s.heap H locs → W p l e (headSpec (wx yX4_append cX4_append 2 none) ({ frames := 2, cells := 0, slots := 0, locals := 43 } : Room)).room s m ([.ref (fe), .int p1] : List Value).toArray below meth c H locs 0 0 (MQ below (QFv g ad rd ln fe s.heap.size r fi' ar') ([.ref (fe), .int p1] : List Value).toArray s 0 0 (AF ad rd fe s.heap.size)) (F0 m 50 ls []) := by
    intro x1 fi ar H locs ls hF hl hP hS
    unfold FX4_append_50 at hF
    refine lv_aload_n hx hb dX4_append_50 rfl (lv_at hl 0 rfl) ?_
    refine fg_X4_disk hx hb hT hown hK hP mw52_0 dX4_append_51 ?_
    refine lv_aload_n hx hb dX4_append_54 rfl (lv_at hl 0 rfl) ?_
    refine fg_X4_at hx hb hT hown hK hP mw52_2 dX4_append_55 ?_
    refine lv_iload_n hx hb dX4_append_58 rfl (lv_at hl 1 rfl) ?_
    replace hF := obnd3_of hF
    obtain ⟨r4, fi2, ar3, h1, hF⟩ := hF
    replace hF := gd_of hF
    obtain ⟨hg5, hF⟩ := hF
    refine cCF_v (As := [.int (fi 81), .int (x1)]) (rest := []) hx hb hml hT hown hK hE hD hA hP hS (rcv_X3 hK hP.wc) (kX3_putOne l g ad rd _ nf ln fi ar (fi 81) (x1) r4 fi2 ar3 h1) hg5 cw_X3_putOne mw52_16 ⟨⟨rfl, rfl⟩, Nat.le_of_ble_eq_true rfl, Nat.le_of_ble_eq_true rfl⟩ rfl hl.1 rfl (Nat.le_of_ble_eq_true rfl) dX4_append_59 ⟨Nat.zero_le _, Nat.zero_le _⟩ (fun H locs hP hS => ?_)
    refine lv_aload_n hx hb dX4_append_62 rfl (lv_at hl 0 rfl) ?_
    refine lv_dup hx hb dX4_append_63 rfl ?_
    refine fg_X4_at hx hb hT hown hK hP mw52_2 dX4_append_64 ?_
    refine lv_iconst (v := (1 : Int32)) hx hb dX4_append_67 (by decide) ?_
    refine lv_iadd hx hb dX4_append_68 ?_
    obtain ⟨fi6, efi6⟩ : ∃ y : FI, y = va_up fi2 81 ((fi2 81) + (1 : Int32)) := ⟨_, rfl⟩
    replace hF := bnd_of hF efi6
    refine fp_X4_at hx hb hT hown hK hP hD hS mw52_2 dX4_append_69 (fun H locs hP hS => ?_)
    rw [← efi6] at hP
    refine lv_aload_n hx hb dX4_append_72 rfl (lv_at hl 0 rfl) ?_
    refine lv_dup hx hb dX4_append_73 rfl ?_
    refine fg_X4_left hx hb hT hown hK hP mw52_3 dX4_append_74 ?_
    refine lv_iconst (v := (1 : Int32)) hx hb dX4_append_77 (by decide) ?_
    refine lv_isub hx hb dX4_append_78 ?_
    obtain ⟨fi7, efi7⟩ : ∃ y : FI, y = va_up fi6 82 ((fi6 82) - (1 : Int32)) := ⟨_, rfl⟩
    replace hF := bnd_of hF efi7
    refine fp_X4_left hx hb hT hown hK hP hD hS mw52_3 dX4_append_79 (fun H locs hP hS => ?_)
    rw [← efi7] at hP
    exact rF_v hx hb hr hlocks hF hP hS dX4_append_82
  replace hl := lv_sub hl [0, 1] rfl
  refine lv_aload_n hx hb dX4_append_0 rfl (lv_at hl 0 rfl) ?_
  refine fg_X4_left hx hb hT hown hK hP mw52_3 dX4_append_1 ?_
  refine lv_if_ne (tgt := 50) hx hb dX4_append_4 (by decide) (fun hc8 => ?_) (fun hc8 => ?_)
  · replace hF := br_no hF hc8
    exact J50 (p1) _ _ _ _ _ hF (lv_sub hl [0, 1] rfl) hP hS
  · replace hF := br_yes hF hc8
    refine lv_aload_n hx hb dX4_append_7 rfl (lv_at hl 0 rfl) ?_
    refine lv_aload_n hx hb dX4_append_8 rfl (lv_at hl 0 rfl) ?_
    refine fg_X4_volume hx hb hT hown hK hP mw51_22 dX4_append_9 ?_
    refine lv_aload_n hx hb dX4_append_12 rfl (lv_at hl 0 rfl) ?_
    refine fg_X4_cluster hx hb hT hown hK hP mw52_1 dX4_append_13 ?_
    replace hF := obnd3_of hF
    obtain ⟨r12, fi10, ar11, h9, hF⟩ := hF
    replace hF := gd_of hF
    obtain ⟨hg13, hF⟩ := hF
    refine cCF_i (As := [.int (fi 80)]) (rest := [.ref (fe)]) hx hb hml hT hown hK hE hD hA hP hS (rcv_X9 hK hP.wc) (kX9_next l g ad rd _ nf ln fi ar (fi 80) r12 fi10 ar11 h9) hg13 cw_X9_next mw52_15 ⟨⟨rfl, rfl⟩, Nat.le_of_ble_eq_true rfl, Nat.le_of_ble_eq_true rfl⟩ rfl hl.1 rfl (Nat.le_of_ble_eq_true rfl) dX4_append_16 ⟨Nat.zero_le _, Nat.zero_le _⟩ (fun H locs hP hS => ?_)
    obtain ⟨fi14, efi14⟩ : ∃ y : FI, y = va_up fi10 80 (r12) := ⟨_, rfl⟩
    replace hF := bnd_of hF efi14
    refine fp_X4_cluster hx hb hT hown hK hP hD hS mw52_1 dX4_append_19 (fun H locs hP hS => ?_)
    rw [← efi14] at hP
    refine lv_aload_n hx hb dX4_append_22 rfl (lv_at hl 0 rfl) ?_
    refine lv_aload_n hx hb dX4_append_23 rfl (lv_at hl 0 rfl) ?_
    refine fg_X4_volume hx hb hT hown hK hP mw51_22 dX4_append_24 ?_
    refine lv_aload_n hx hb dX4_append_27 rfl (lv_at hl 0 rfl) ?_
    refine fg_X4_cluster hx hb hT hown hK hP mw52_1 dX4_append_28 ?_
    replace hF := obnd3_of hF
    obtain ⟨r18, fi16, ar17, h15, hF⟩ := hF
    replace hF := gd_of hF
    obtain ⟨hg19, hF⟩ := hF
    refine cCF_i (As := [.int (fi14 80)]) (rest := [.ref (fe)]) hx hb hml hT hown hK hE hD hA hP hS (rcv_X9 hK hP.wc) (kX9_addressOf l g ad rd _ nf ln fi14 ar11 (fi14 80) r18 fi16 ar17 h15) hg19 cw_X9_addressOf mw52_9 ⟨⟨rfl, rfl⟩, Nat.le_of_ble_eq_true rfl, Nat.le_of_ble_eq_true rfl⟩ rfl hl.1 rfl (Nat.le_of_ble_eq_true rfl) dX4_append_31 ⟨Nat.zero_le _, Nat.zero_le _⟩ (fun H locs hP hS => ?_)
    obtain ⟨fi20, efi20⟩ : ∃ y : FI, y = va_up fi16 81 (r18) := ⟨_, rfl⟩
    replace hF := bnd_of hF efi20
    refine fp_X4_at hx hb hT hown hK hP hD hS mw52_2 dX4_append_34 (fun H locs hP hS => ?_)
    rw [← efi20] at hP
    refine lv_aload_n hx hb dX4_append_37 rfl (lv_at hl 0 rfl) ?_
    refine lv_aload_n hx hb dX4_append_38 rfl (lv_at hl 0 rfl) ?_
    refine fg_X4_volume hx hb hT hown hK hP mw51_22 dX4_append_39 ?_
    replace hF := obnd3_of hF
    obtain ⟨r24, fi22, ar23, h21, hF⟩ := hF
    replace hF := gd_of hF
    obtain ⟨hg25, hF⟩ := hF
    refine cCF_i (As := []) (rest := [.ref (fe)]) hx hb hml hT hown hK hE hD hA hP hS (rcv_X9 hK hP.wc) (kX9_byteMask l g ad rd _ nf ln fi20 ar17 r24 fi22 ar23 h21) hg25 cw_X9_byteMask mw52_5 ⟨⟨rfl, rfl⟩, Nat.le_of_ble_eq_true rfl, Nat.le_of_ble_eq_true rfl⟩ rfl hl.1 rfl (Nat.le_of_ble_eq_true rfl) dX4_append_42 ⟨Nat.zero_le _, Nat.zero_le _⟩ (fun H locs hP hS => ?_)
    refine lv_iconst (v := (1 : Int32)) hx hb dX4_append_45 (by decide) ?_
    refine lv_iadd hx hb dX4_append_46 ?_
    obtain ⟨fi26, efi26⟩ : ∃ y : FI, y = va_up fi22 82 ((r24) + (1 : Int32)) := ⟨_, rfl⟩
    replace hF := bnd_of hF efi26
    refine fp_X4_left hx hb hT hown hK hP hD hS mw52_3 dX4_append_47 (fun H locs hP hS => ?_)
    rw [← efi26] at hP
    exact J50 (p1) _ _ _ _ _ hF (lv_sub hl [0, 1] rfl) hP hS
theorem cw_X4_append : (Cond.instanceMethod yX4_append ∈ TB ∧ Cond.selects RX4 yX4_append yX4_append ∈ TB ∧ Cond.code yX4_append cX4_append 2 none ∈ TB ∧ Cond.initialized RX4 ∈ TB) ∧ (yX4_append.cls = RX4 ∧ yX4_append.cls ≠ "java/lang/invoke/MethodHandle" ∧ yX4_append.cls ≠ "java/lang/invoke/VarHandle" ∧ (parseMethodDescriptor yX4_append.desc).map (fun d => d.parameters.length) = some 1) := ⟨⟨mw52_12, mw52_13, mw52_14, mw51_7⟩, by decide +kernel⟩
/-! X10_lengthenFile -/
noncomputable def FX10_lengthenFile_74 (K36 : Int32 → Int32 → Int32 → Int32 → Int32 → Int32 → FI → AR → LN → Option ((Int32 ⊕ Nat) × FI × AR × LN × Nat × Nat)) (nf : Nat) (x1 : Int32) (x2 : Int32) (x3 : Int32) (x4 : Int32) (x5 : Int32) (x7 : Int32) (t1 : Int32) (fi : FI) (ar : AR) (ln : LN) : Option ((Int32 ⊕ Nat) × FI × AR × LN × Nat × Nat) :=
  obnd3 (FX4_append nf ln fi ar (t1)) fun r4 fi2 ar3 => bnd ((x7) + (1 : Int32)) fun x7_5 => K36 (x1) (x2) (x3) (x4) (x5) (x7_5) fi2 ar3 ln
noncomputable def FX10_lengthenFile_36b (K36 : Int32 → Int32 → Int32 → Int32 → Int32 → Int32 → FI → AR → LN → Option ((Int32 ⊕ Nat) × FI × AR × LN × Nat × Nat)) (nf : Nat) (x1 : Int32) (x2 : Int32) (x3 : Int32) (x4 : Int32) (x5 : Int32) (x7 : Int32) (fi : FI) (ar : AR) (ln : LN) : Option ((Int32 ⊕ Nat) × FI × AR × LN × Nat × Nat) :=
  br ((x2) ≤ (x7)) (obnd3 (FX3_putFour nf ln fi ar ((x1) + (28 : Int32)) ((x5) + (x2))) fun r10 fi8 ar9 => gd (fi8 80 = fi 80 ∧ fi8 81 = fi 81 ∧ fi8 82 = fi 82) (some (Sum.inl ((x5) + (x2)), fi8, ar9, ln, 0, 0))) (br ((x3) = 0) (FX10_lengthenFile_74 K36 nf  (x1) (x2) (x3) (x4) (x5) (x7) (((x4) + ((x7) * (x7))) + ((x7) >>> ((8 : Int32) &&& 31))) fi ar ln) (obnd3 (FX8_at nf ln fi ar (x7)) fun r16 fi14 ar15 => gd (fi14 80 = fi 80 ∧ fi14 81 = fi 81 ∧ fi14 82 = fi 82) (FX10_lengthenFile_74 K36 nf  (x1) (x2) (x3) (x4) (x5) (x7) (r16) fi14 ar15 ln)))
noncomputable def FX10_lengthenFile_36 (nf : Nat) (kf : Nat) : Int32 → Int32 → Int32 → Int32 → Int32 → Int32 → FI → AR → LN → Option ((Int32 ⊕ Nat) × FI × AR × LN × Nat × Nat) := Nat.rec (fun _ _ _ _ _ _ _ _ _ => none) (fun _ K36 => FX10_lengthenFile_36b K36 nf) kf
noncomputable def FX10_lengthenFile (nf : Nat) (fi : FI) (ar : AR) (ln : LN) (x1 : Int32) (x2 : Int32) (x3 : Int32) (x4 : Int32) : Option ((Int32 ⊕ Nat) × FI × AR × LN × Nat × Nat) :=
  obnd3 (FX3_four nf ln fi ar ((x1) + (28 : Int32))) fun r21 fi19 ar20 => obnd6 (FX10_makeRoom nf fi19 ar20 ln (x1) (x2)) fun r26 fi23 ar24 ln25 kc28 ks29 => addc (kc28) (ks29) (sumc r26 (fun v27 => bnd (va_up (va_up (va_up fi23 80 0) 81 0) 82 0) fun fi34 => addc (1) (5) (obnd3 (FX4_init nf ln25 fi34 ar24 (x1)) fun r41 fi39 ar40 => FX10_lengthenFile_36 nf nf (x1) (x2) (x3) (x4) (r21) (0 : Int32) fi39 ar40 ln25)) (fun k30 => some (Sum.inr k30, fi23, ar24, ln25, 0, 0)))
set_option maxHeartbeats 8000000 in
set_option maxRecDepth 100000 in
theorem kX10_lengthenFile (l : Launch) (g : GT) (ad rd0 : Nat → Nat) (sz : Nat) (nf : Nat) (hlt : l.stackTraces = false) (fi : FI) (ar : AR) (ln : LN) (p1 : Int32) (p2 : Int32) (p3 : Int32) (p4 : Int32) (r : (Int32 ⊕ Nat)) (fi' : FI) (ar' : AR) (ln' : LN) (KC KS : Nat) (hF : FX10_lengthenFile nf fi ar ln p1 p2 p3 p4 = some (r, fi', ar', ln', KC, KS)) : vx_Met l yX10_lengthenFile (wxX yX10_lengthenFile cX10_lengthenFile 8 (some .int)) ({ frames := 7, cells := KC, slots := KS, locals := 142 } : Room) (va_Pc [.ref (ad (0)), .int p1, .int p2, .int p3, .int p4] (PX g ad rd0 ln sz fi ar)) (QXi g ad (AC ad rd0 sz) r fi' ar' ln') (XX g ad (AC ad rd0 sz) r fi' ar' ln') KC KS (AC ad rd0 sz) := by
  refine vx_ofW (cc := cX10_lengthenFile) (maxL := 8) (ret := (some .int)) (by decide) rfl ?_
  intro p e s m args below meth c s₁ B hml hout hv
  obtain ⟨rfl, ⟨hsz, hP, hK, hD0, hE⟩, hEX⟩ := hv
  have hx := B.exec
  have hb := B.bytes
  have hr := B.returns
  have hts := atoms_spec (ws := (wxX yX10_lengthenFile cX10_lengthenFile 8 (some .int))) B.pre
  have hTX : ∀ w ∈ TBX, w.before _ s = true := fun w h => hts w (List.mem_cons_of_mem _ h)
  have hT : ∀ w ∈ TB, w.before _ s = true := fun w h => hTX w (tbx0 w h)
  have hown : s.vm.findClass RX10 = some m.cls := findClass_of_methodNamed B.named
  have hlocks := B.notSynchronized
  subst hsz
  have hD : ∀ (ln : LN) (fi : FI) (ar : AR), va_D (AC ad rd0 s.heap.size) (WC g ad rd0 ln fi ar) := dCre (dC hD0 s.heap.size fi ar) (fun _ h => h)
  have hA : ∀ q : Nat, s.heap.size ≤ q → AC ad rd0 s.heap.size q := fun q h => Or.inr h
  have hS : va_S (AC ad rd0 s.heap.size) s.heap s.heap [] := va_S.rf
  have hl := lv_entry ([.ref (ad (0)), .int p1, .int p2, .int p3, .int p4]) (n := 8) (Nat.le_of_ble_eq_true rfl)
  rw [lg_entry_eq]
  generalize (lg_sl ([.ref (ad (0)), .int p1, .int p2, .int p3, .int p4]) ++ List.replicate (8 - (lg_sl ([.ref (ad (0)), .int p1, .int p2, .int p3, .int p4])).length) Slot.unset).toArray = ls at hl ⊢
  have hl : lv_has ls 8 [(0, .ref (ad (0))), (1, .int p1), (2, .int p2), (3, .int p3), (4, .int p4)] := hl
  unfold FX10_lengthenFile at hF
  have L36 : ∀ kf : Nat, ∀ (x1 : Int32) (x2 : Int32) (x3 : Int32) (x4 : Int32) (x5 : Int32) (x7 : Int32) (fi : FI) (ar : AR) (ln : LN) (kc ks cells slots : Nat) (rd : Nat → Nat) (fe : Nat) (H : Heap) (locs : List Loc) (ls : Array Slot), FX10_lengthenFile_36 nf kf x1 x2 x3 x4 x5 x7 fi ar ln = some (r, fi', ar', ln', kc, ks) → cells + kc ≤ KC → slots + ks ≤ KS → lv_has ls 8 [(0, .ref (ad (0))), (6, .ref (fe)), (1, .int x1), (2, .int x2), (3, .int x3), (4, .int x4), (5, .int x5), (7, .int x7)] → va_P (gD g) vwCl (WF g ad rd ln fe (.ref (ad (6))) (.ref (ad (1))) fi ar) H → (∀ (q1 q2 : Value) (ln : LN) (fi : FI) (ar : AR), va_D (AC ad rd0 s.heap.size) (WF g ad rd ln fe q1 q2 fi ar)) → va_S (AC ad rd0 s.heap.size) s.heap H locs → W p l e (headSpec (wxX yX10_lengthenFile cX10_lengthenFile 8 (some .int)) ({ frames := 7, cells := KC, slots := KS, locals := 142 } : Room)).room s m ([.ref (ad (0)), .int p1, .int p2, .int p3, .int p4] : List Value).toArray below meth c H locs cells slots (vx_MQ below (QXi g ad (AC ad rd0 s.heap.size) r fi' ar' ln') (XX g ad (AC ad rd0 s.heap.size) r fi' ar' ln') ([.ref (ad (0)), .int p1, .int p2, .int p3, .int p4] : List Value).toArray s KC KS (AC ad rd0 s.heap.size)) (F0 m 36 ls []) := by
    intro kf
    induction kf with
    | zero => intro x1 x2 x3 x4 x5 x7 fi ar ln kc ks cells slots rd fe H locs ls hF hkc hks hl hP hD hS; cases (show (none : Option ((Int32 ⊕ Nat) × FI × AR × LN × Nat × Nat)) = _ from hF)
    | succ kf ih36 =>
      intro x1 x2 x3 x4 x5 x7 fi ar ln kc ks cells slots rd fe H locs ls hF hkc hks hl hP hD hS
      obtain ⟨K36, hK36⟩ : ∃ K : Int32 → Int32 → Int32 → Int32 → Int32 → Int32 → FI → AR → LN → Option ((Int32 ⊕ Nat) × FI × AR × LN × Nat × Nat), K = FX10_lengthenFile_36 nf kf := ⟨_, rfl⟩
      replace hF : FX10_lengthenFile_36b K36 nf x1 x2 x3 x4 x5 x7 fi ar ln = some (r, fi', ar', ln', kc, ks) := by rw [hK36]; exact hF
      rw [← hK36] at ih36
      clear hK36
      have J74 : ∀ (x1 : Int32) (x2 : Int32) (x3 : Int32) (x4 : Int32) (x5 : Int32) (x7 : Int32) (t1 : Int32) (fi : FI) (ar : AR) (ln : LN) (kc ks cells slots : Nat) (rd : Nat → Nat) (fe : Nat) (H : Heap) (locs : List Loc) (ls : Array Slot), FX10_lengthenFile_74 K36 nf x1 x2 x3 x4 x5 x7 t1 fi ar ln = some (r, fi', ar', ln', kc, ks) → cells + kc ≤ KC → slots + ks ≤ KS → lv_has ls 8 [(0, .ref (ad (0))), (6, .ref (fe)), (1, .int x1), (2, .int x2), (3, .int x3), (4, .int x4), (5, .int x5), (7, .int x7)] → va_P (gD g) vwCl (WF g ad rd ln fe (.ref (ad (6))) (.ref (ad (1))) fi ar) H → (∀ (q1 q2 : Value) (ln : LN) (fi : FI) (ar : AR), va_D (AC ad rd0 s.heap.size) (WF g ad rd ln fe q1 q2 fi ar)) → va_S (AC ad rd0 s.heap.size) s.heap H locs → W p l e (headSpec (wxX yX10_lengthenFile cX10_lengthenFile 8 (some .int)) ({ frames := 7, cells := KC, slots := KS, locals := 142 } : Room)).room s m ([.ref (ad (0)), .int p1, .int p2, .int p3, .int p4] : List Value).toArray below meth c H locs cells slots (vx_MQ below (QXi g ad (AC ad rd0 s.heap.size) r fi' ar' ln') (XX g ad (AC ad rd0 s.heap.size) r fi' ar' ln') ([.ref (ad (0)), .int p1, .int p2, .int p3, .int p4] : List Value).toArray s KC KS (AC ad rd0 s.heap.size)) (F0 m 74 ls [.int t1, .ref (fe)]) := by
        intro x1 x2 x3 x4 x5 x7 t1 fi ar ln kc ks cells slots rd fe H locs ls hF hkc hks hl hP hD hS
        unfold FX10_lengthenFile_74 at hF
        replace hF := obnd3_of hF
        obtain ⟨r4, fi2, ar3, h1, hF⟩ := hF
        refine cFE (As := [.int (t1)]) (rest := []) hx hb hml hT hown hK hE hD hA hP hS (kX4_append l g ad rd fe _ nf ln fi ar (t1) r4 fi2 ar3 h1) cw_X4_append mw52_11 ⟨⟨rfl, rfl⟩, Nat.le_of_ble_eq_true rfl, Nat.le_of_ble_eq_true rfl⟩ rfl hl.1 rfl (Nat.le_of_ble_eq_true rfl) dX10_lengthenFile_74 ⟨by show _ ≤ KC; omega, by show _ ≤ KS; omega⟩ (fun H locs hP hS => ?_)
        obtain ⟨x7_5, ex7_5⟩ : ∃ y : Int32, y = (x7) + (1 : Int32) := ⟨_, rfl⟩
        replace hF := bnd_of hF ex7_5
        refine lv_iinc (v := x7_5) (lv' := [(7, .int (x7_5)), (0, .ref (ad (0))), (6, .ref (fe)), (1, .int (x1)), (2, .int (x2)), (3, .int (x3)), (4, .int (x4)), (5, .int (x5))]) hx hb dX10_lengthenFile_77 hl (k := 7) rfl (by rw [ex7_5]; rfl) (by decide) rfl (fun ls hl => ?_)
        refine lv_goto (tgt := 36) hx hb dX10_lengthenFile_80 (by decide) ?_
        exact ih36 (x1) (x2) (x3) (x4) (x5) (x7_5) _ _ _ _ _ _ _ _ _ _ _ _ hF hkc hks (lv_sub hl [1, 2, 3, 4, 5, 6, 7, 0] rfl) hP hD hS
      unfold FX10_lengthenFile_36b at hF
      refine lv_iload hx hb dX10_lengthenFile_36 (lv_at hl 7 rfl) ?_
      refine lv_iload_n hx hb dX10_lengthenFile_38 rfl (lv_at hl 3 rfl) ?_
      refine lv_icmp_ge (tgt := 83) hx hb dX10_lengthenFile_39 (by decide) (fun hc6 => ?_) (fun hc6 => ?_)
      · replace hF := br_yes hF hc6
        refine lv_aload_n hx hb dX10_lengthenFile_83 rfl (lv_at hl 0 rfl) ?_
        refine fg_X10_disk hx hb hT hown hK hP mw2_3 dX10_lengthenFile_84 ?_
        refine lv_iload_n hx hb dX10_lengthenFile_87 rfl (lv_at hl 2 rfl) ?_
        refine lv_bipush (v := (28 : Int32)) hx hb dX10_lengthenFile_88 (by decide) ?_
        refine lv_iadd hx hb dX10_lengthenFile_90 ?_
        refine lv_iload hx hb dX10_lengthenFile_91 (lv_at hl 6 rfl) ?_
        refine lv_iload_n hx hb dX10_lengthenFile_93 rfl (lv_at hl 3 rfl) ?_
        refine lv_iadd hx hb dX10_lengthenFile_94 ?_
        replace hF := obnd3_of hF
        obtain ⟨r10, fi8, ar9, h7, hF⟩ := hF
        replace hF := gd_of hF
        obtain ⟨hg11, hF⟩ := hF
        refine cCF_v (As := [.int ((x1) + (28 : Int32)), .int ((x5) + (x2))]) (rest := []) hx hb hml hT hown hK hE hD hA hP hS (rcv_X3 hK hP.wc) (kX3_putFour l g ad rd _ nf ln fi ar ((x1) + (28 : Int32)) ((x5) + (x2)) r10 fi8 ar9 h7) hg11 cw_X3_putFour mw52_17 ⟨⟨rfl, rfl⟩, Nat.le_of_ble_eq_true rfl, Nat.le_of_ble_eq_true rfl⟩ rfl hl.1 rfl (Nat.le_of_ble_eq_true rfl) dX10_lengthenFile_95 ⟨by show _ ≤ KC; omega, by show _ ≤ KS; omega⟩ (fun H locs hP hS => ?_)
        refine lv_iload hx hb dX10_lengthenFile_98 (lv_at hl 6 rfl) ?_
        refine lv_iload_n hx hb dX10_lengthenFile_100 rfl (lv_at hl 3 rfl) ?_
        refine lv_iadd hx hb dX10_lengthenFile_101 ?_
        replace hP := hP.wc
        replace hD := fun (ln : LN) (fi : FI) (ar : AR) => (hD .null .null ln fi ar).wc
        refine W.widen (k := KC) (n := KS) (by omega) (by omega) ?_
        exact rX_i hx hb hr hlocks hF hP hD hS dX10_lengthenFile_102
      · replace hF := br_no hF hc6
        refine lv_aload hx hb dX10_lengthenFile_42 (lv_at hl 1 rfl) ?_
        refine lv_iload_n hx hb dX10_lengthenFile_44 rfl (lv_at hl 4 rfl) ?_
        refine lv_if_eq (tgt := 60) hx hb dX10_lengthenFile_45 (by decide) (fun hc12 => ?_) (fun hc12 => ?_)
        · replace hF := br_yes hF hc12
          refine lv_iload hx hb dX10_lengthenFile_60 (lv_at hl 5 rfl) ?_
          refine lv_iload hx hb dX10_lengthenFile_62 (lv_at hl 7 rfl) ?_
          refine lv_iload hx hb dX10_lengthenFile_64 (lv_at hl 7 rfl) ?_
          refine lv_imul hx hb dX10_lengthenFile_66 ?_
          refine lv_iadd hx hb dX10_lengthenFile_67 ?_
          refine lv_iload hx hb dX10_lengthenFile_68 (lv_at hl 7 rfl) ?_
          refine lv_bipush (v := (8 : Int32)) hx hb dX10_lengthenFile_70 (by decide) ?_
          refine lv_ishr hx hb dX10_lengthenFile_72 ?_
          refine lv_iadd hx hb dX10_lengthenFile_73 ?_
          exact J74 (x1) (x2) (x3) (x4) (x5) (x7) (((x4) + ((x7) * (x7))) + ((x7) >>> ((8 : Int32) &&& 31))) _ _ _ _ _ _ _ _ _ _ _ _ hF hkc hks (lv_sub hl [0, 1, 2, 3, 4, 5, 6, 7] rfl) hP hD hS
        · replace hF := br_no hF hc12
          refine lv_aload_n hx hb dX10_lengthenFile_48 rfl (lv_at hl 0 rfl) ?_
          refine fg_X10_tape hx hb hT hown hK hP mw2_7 dX10_lengthenFile_49 ?_
          refine lv_iload hx hb dX10_lengthenFile_52 (lv_at hl 7 rfl) ?_
          replace hF := obnd3_of hF
          obtain ⟨r16, fi14, ar15, h13, hF⟩ := hF
          replace hF := gd_of hF
          obtain ⟨hg17, hF⟩ := hF
          refine cCF_i (As := [.int (x7)]) (rest := [.ref (fe)]) hx hb hml hT hown hK hE hD hA hP hS (rcv_X8 hK hP.wc) (kX8_at l g ad rd _ nf ln fi ar (x7) r16 fi14 ar15 h13) hg17 cw_X8_at mw52_10 ⟨⟨rfl, rfl⟩, Nat.le_of_ble_eq_true rfl, Nat.le_of_ble_eq_true rfl⟩ rfl hl.1 rfl (Nat.le_of_ble_eq_true rfl) dX10_lengthenFile_54 ⟨by show _ ≤ KC; omega, by show _ ≤ KS; omega⟩ (fun H locs hP hS => ?_)
          refine lv_goto (tgt := 74) hx hb dX10_lengthenFile_57 (by decide) ?_
          exact J74 (x1) (x2) (x3) (x4) (x5) (x7) (r16) _ _ _ _ _ _ _ _ _ _ _ _ hF hkc hks (lv_sub hl [0, 1, 2, 3, 4, 5, 6, 7] rfl) hP hD hS
  replace hl := lv_sub hl [0, 1, 2, 3, 4] rfl
  obtain ⟨cells, ecells⟩ : ∃ z : Nat, z = 0 := ⟨_, rfl⟩
  obtain ⟨slots, eslots⟩ : ∃ z : Nat, z = 0 := ⟨_, rfl⟩
  obtain ⟨kc, ekc⟩ : ∃ z : Nat, z = KC := ⟨_, rfl⟩
  obtain ⟨ks, eks⟩ : ∃ z : Nat, z = KS := ⟨_, rfl⟩
  have hkc : cells + kc ≤ KC := by omega
  have hks : slots + ks ≤ KS := by omega
  replace hF := kcks_of hF ekc eks
  suffices hgo : W p l e (headSpec (wxX yX10_lengthenFile cX10_lengthenFile 8 (some .int)) ({ frames := 7, cells := KC, slots := KS, locals := 142 } : Room)).room s m ([.ref (ad (0)), .int p1, .int p2, .int p3, .int p4] : List Value).toArray below meth c s.heap [] cells slots (vx_MQ below (QXi g ad (AC ad rd0 s.heap.size) r fi' ar' ln') (XX g ad (AC ad rd0 s.heap.size) r fi' ar' ln') ([.ref (ad (0)), .int p1, .int p2, .int p3, .int p4] : List Value).toArray s KC KS (AC ad rd0 s.heap.size)) (F0 m 0 ls []) by rw [ecells, eslots] at hgo; exact hgo
  obtain ⟨rd, erd⟩ : ∃ z : Nat → Nat, z = rd0 := ⟨_, rfl⟩
  have hP : va_P (gD g) vwCl (WC g ad rd ln fi ar) s.heap := by rw [erd]; exact hP
  have hD : ∀ (ln : LN) (fi : FI) (ar : AR), va_D (AC ad rd0 s.heap.size) (WC g ad rd ln fi ar) := by rw [erd]; exact hD
  clear erd
  refine lv_aload_n hx hb dX10_lengthenFile_0 rfl (lv_at hl 0 rfl) ?_
  refine cg_X10_disk hx hb hT hown hK hP mw2_3 dX10_lengthenFile_1 ?_
  refine lv_iload_n hx hb dX10_lengthenFile_4 rfl (lv_at hl 1 rfl) ?_
  refine lv_bipush (v := (28 : Int32)) hx hb dX10_lengthenFile_5 (by decide) ?_
  refine lv_iadd hx hb dX10_lengthenFile_7 ?_
  replace hF := obnd3_of hF
  obtain ⟨r21, fi19, ar20, h18, hF⟩ := hF
  refine cC_i (As := [.int ((p1) + (28 : Int32))]) (rest := []) hx hb hml hT hown hK hE (hD _) hA hP hS (rcv_X3 hK hP) (kX3_four l g ad rd _ nf ln fi ar ((p1) + (28 : Int32)) r21 fi19 ar20 h18) cw_X3_four mw41_22 ⟨⟨rfl, rfl⟩, Nat.le_of_ble_eq_true rfl, Nat.le_of_ble_eq_true rfl⟩ rfl hl.1 rfl (Nat.le_of_ble_eq_true rfl) dX10_lengthenFile_8 ⟨by show _ ≤ KC; omega, by show _ ≤ KS; omega⟩ (fun H locs hP hS => ?_)
  refine lv_istore (lv' := [(5, .int (r21)), (0, .ref (ad (0))), (1, .int (p1)), (2, .int (p2)), (3, .int (p3)), (4, .int (p4))]) hx hb dX10_lengthenFile_11 hl (by decide) rfl (fun ls hl => ?_)
  refine lv_aload_n hx hb dX10_lengthenFile_13 rfl (lv_at hl 1 rfl) ?_
  refine lv_iload_n hx hb dX10_lengthenFile_14 rfl (lv_at hl 2 rfl) ?_
  refine lv_iload_n hx hb dX10_lengthenFile_15 rfl (lv_at hl 3 rfl) ?_
  replace hF := obnd6_of hF
  obtain ⟨r26, fi23, ar24, ln25, kc28, ks29, h22, hF⟩ := hF
  replace hF := addc_of hF
  obtain ⟨kc31, ks32, e33c, e33s, hF⟩ := hF
  rcases r26 with v27 | k30
  rotate_left
  · replace hF := sumc_r hF
    exact cX_vt (As := [.int (p1), .int (p2)]) (rest := []) hx hb hml hTX hown hK hE hEX hD hA hP hS (rcv_X10 hK hP) (kX10_makeRoom l g ad rd _ nf hlt fi19 ar20 ln (p1) (p2) (Sum.inr k30) fi23 ar24 ln25 kc28 ks29 h22) cw_X10_makeRoom mw51_8 ⟨⟨rfl, rfl⟩, Nat.le_of_ble_eq_true rfl, Nat.le_of_ble_eq_true rfl⟩ rfl hl.1 rfl (Nat.le_of_ble_eq_true rfl) dX10_lengthenFile_16 ⟨by show _ ≤ KC; omega, by show _ ≤ KS; omega⟩ ⟨hout, hlocks, by omega, by omega, fun rd H locs t ht hP hD hS => xx_of hF (by rw [ht]; exact hP) hD (hS.F ht)⟩
  replace hF := sumc_l hF
  refine cX_v (As := [.int (p1), .int (p2)]) (rest := []) hx hb hml hTX hown hK hE hEX hD hA hP hS (rcv_X10 hK hP) (kX10_makeRoom l g ad rd _ nf hlt fi19 ar20 ln (p1) (p2) (Sum.inl v27) fi23 ar24 ln25 kc28 ks29 h22) cw_X10_makeRoom mw51_8 ⟨⟨rfl, rfl⟩, Nat.le_of_ble_eq_true rfl, Nat.le_of_ble_eq_true rfl⟩ rfl hl.1 rfl (Nat.le_of_ble_eq_true rfl) dX10_lengthenFile_16 ⟨by show _ ≤ KC; omega, by show _ ≤ KS; omega⟩ (fun rd H locs hP hD hS => ?_)
  replace hkc : cells + kc28 + kc31 ≤ KC := by omega
  replace hks : slots + ks29 + ks32 ≤ KS := by omega
  obtain ⟨fi34, efi34⟩ : ∃ y : FI, y = va_up (va_up (va_up fi23 80 0) 81 0) 82 0 := ⟨_, rfl⟩
  replace hF := bnd_of hF efi34
  replace hF := addc_of hF
  obtain ⟨kc35, ks36, e37c, e37s, hF⟩ := hF
  refine va_new (ci := 3) (fs := [.null, .null, .int 0, .int 0, .int 0]) (C := RX4) (T := TX4) (N := 5) hx hb hT inTX40 tyX4 tyX4_ok hown (hT _ mw51_5) (hT _ mw51_6) (hT _ mw51_7) hK hP (hD _ _ _) hS hA rfl (fun j hj => by rcases (show j = 0 ∨ j = 1 ∨ j = 2 ∨ j = 3 ∨ j = 4 by omega) with rfl | rfl | rfl | rfl | rfl <;> rfl) (by show _ ≤ KC; omega) (by show _ ≤ KS; omega) dX10_lengthenFile_19 (fun fe H hP hD1 hS => ?_)
  replace hP : va_P (gD g) vwCl (WF g ad rd ln25 fe .null .null fi34 ar24) H := by rw [efi34]; exact hP
  have hD : ∀ (q1 q2 : Value) (ln : LN) (fi : FI) (ar : AR), va_D (AC ad rd0 s.heap.size) (WF g ad rd ln fe q1 q2 fi ar) := dFre (q1 := .null) (q2 := .null) (ln := ln25) (fi := fi34) (ar := ar24) (by rw [efi34]; exact hD1) (fun _ h => h)
  replace hkc : cells + kc28 + 1 + kc35 ≤ KC := by omega
  replace hks : slots + ks29 + 5 + ks36 ≤ KS := by omega
  refine lv_dup hx hb dX10_lengthenFile_22 rfl ?_
  refine lv_aload_n hx hb dX10_lengthenFile_23 rfl (lv_at hl 1 rfl) ?_
  refine fg_X10_volume hx hb hT hown hK hP mw2_11 dX10_lengthenFile_24 ?_
  refine lv_iload_n hx hb dX10_lengthenFile_27 rfl (lv_at hl 2 rfl) ?_
  replace hF := obnd3_of hF
  obtain ⟨r41, fi39, ar40, h38, hF⟩ := hF
  refine cFI (As := [.ref (ad (6)), .int (p1)]) (rest := [.ref (fe)]) hx hb hml hT hown hK hE hD hA hP hS (kX4_init l g ad rd fe _ nf ln25 fi34 ar24 (p1) r41 fi39 ar40 h38) cw_X4_init mw51_18 ⟨⟨rfl, rfl⟩, Nat.le_of_ble_eq_true rfl, Nat.le_of_ble_eq_true rfl⟩ rfl hl.1 rfl (Nat.le_of_ble_eq_true rfl) dX10_lengthenFile_28 ⟨by show _ ≤ KC; omega, by show _ ≤ KS; omega⟩ (fun H locs hP hS => ?_)
  refine lv_astore (lv' := [(6, .ref (fe)), (5, .int (r21)), (0, .ref (ad (0))), (1, .int (p1)), (2, .int (p2)), (3, .int (p3)), (4, .int (p4))]) hx hb dX10_lengthenFile_31 hl (by decide) rfl (fun ls hl => ?_)
  refine lv_iconst (v := (0 : Int32)) hx hb dX10_lengthenFile_33 (by decide) ?_
  refine lv_istore (lv' := [(7, .int (0 : Int32)), (6, .ref (fe)), (5, .int (r21)), (0, .ref (ad (0))), (1, .int (p1)), (2, .int (p2)), (3, .int (p3)), (4, .int (p4))]) hx hb dX10_lengthenFile_34 hl (by decide) rfl (fun ls hl => ?_)
  exact L36 nf (p1) (p2) (p3) (p4) (r21) (0 : Int32) _ _ _ _ _ _ _ _ _ _ _ _ hF hkc hks (lv_sub hl [3, 1, 4, 5, 6, 7, 2, 0] rfl) hP hD hS
theorem cw_X10_lengthenFile : (Cond.instanceMethod yX10_lengthenFile ∈ TB ∧ Cond.selects RX10 yX10_lengthenFile yX10_lengthenFile ∈ TB ∧ Cond.code yX10_lengthenFile cX10_lengthenFile 8 (some .int) ∈ TB ∧ Cond.initialized RX10 ∈ TB) ∧ (yX10_lengthenFile.cls = RX10 ∧ yX10_lengthenFile.cls ≠ "java/lang/invoke/MethodHandle" ∧ yX10_lengthenFile.cls ≠ "java/lang/invoke/VarHandle" ∧ (parseMethodDescriptor yX10_lengthenFile.desc).map (fun d => d.parameters.length) = some 4) := ⟨⟨mw51_2, mw51_3, mw51_4, mw1_2⟩, by decide +kernel⟩
/-! X10_write -/
noncomputable def FX10_write (nf : Nat) (fi : FI) (ar : AR) (ln : LN) (x1 : Int32) : Option ((Int32 ⊕ Nat) × FI × AR × LN × Nat × Nat) :=
  obnd3 (FX8_take nf ln fi ar) fun r4 fi2 ar3 => obnd6 (FX10_openHere nf fi2 ar3 ln) fun r9 fi6 ar7 ln8 kc11 ks12 => addc (kc11) (ks12) (sumc r9 (fun v10 => obnd6 (FX10_fileAt nf fi6 ar7 ln8 (x1)) fun r21 fi18 ar19 ln20 kc23 ks24 => addc (kc23) (ks24) (sumc r21 (fun v22 => obnd6 (FX10_lengthenFile nf fi18 ar19 ln20 (v22) (r4) (1 : Int32) (0 : Int32)) fun r33 fi30 ar31 ln32 kc35 ks36 => addc (kc35) (ks36) (sumc r33 (fun v34 => some (Sum.inl (v34), fi30, ar31, ln32, 0, 0)) (fun k37 => some (Sum.inr k37, fi30, ar31, ln32, 0, 0)))) (fun k25 => some (Sum.inr k25, fi18, ar19, ln20, 0, 0)))) (fun k13 => some (Sum.inr k13, fi6, ar7, ln8, 0, 0)))
set_option maxHeartbeats 8000000 in
set_option maxRecDepth 100000 in
theorem kX10_write (l : Launch) (g : GT) (ad rd0 : Nat → Nat) (sz : Nat) (nf : Nat) (hlt : l.stackTraces = false) (fi : FI) (ar : AR) (ln : LN) (p1 : Int32) (r : (Int32 ⊕ Nat)) (fi' : FI) (ar' : AR) (ln' : LN) (KC KS : Nat) (hF : FX10_write nf fi ar ln p1 = some (r, fi', ar', ln', KC, KS)) : vx_Met l yX10_write (wxX yX10_write cX10_write 3 (some .int)) ({ frames := 10, cells := KC, slots := KS, locals := 233 } : Room) (va_Pc [.ref (ad (0)), .int p1] (PX g ad rd0 ln sz fi ar)) (QXi g ad (AC ad rd0 sz) r fi' ar' ln') (XX g ad (AC ad rd0 sz) r fi' ar' ln') KC KS (AC ad rd0 sz) := by
  refine vx_ofW (cc := cX10_write) (maxL := 3) (ret := (some .int)) (by decide) rfl ?_
  intro p e s m args below meth c s₁ B hml hout hv
  obtain ⟨rfl, ⟨hsz, hP, hK, hD0, hE⟩, hEX⟩ := hv
  have hx := B.exec
  have hb := B.bytes
  have hr := B.returns
  have hts := atoms_spec (ws := (wxX yX10_write cX10_write 3 (some .int))) B.pre
  have hTX : ∀ w ∈ TBX, w.before _ s = true := fun w h => hts w (List.mem_cons_of_mem _ h)
  have hT : ∀ w ∈ TB, w.before _ s = true := fun w h => hTX w (tbx0 w h)
  have hown : s.vm.findClass RX10 = some m.cls := findClass_of_methodNamed B.named
  have hlocks := B.notSynchronized
  subst hsz
  have hD : ∀ (ln : LN) (fi : FI) (ar : AR), va_D (AC ad rd0 s.heap.size) (WC g ad rd0 ln fi ar) := dCre (dC hD0 s.heap.size fi ar) (fun _ h => h)
  have hA : ∀ q : Nat, s.heap.size ≤ q → AC ad rd0 s.heap.size q := fun q h => Or.inr h
  have hS : va_S (AC ad rd0 s.heap.size) s.heap s.heap [] := va_S.rf
  have hl := lv_entry ([.ref (ad (0)), .int p1]) (n := 3) (Nat.le_of_ble_eq_true rfl)
  rw [lg_entry_eq]
  generalize (lg_sl ([.ref (ad (0)), .int p1]) ++ List.replicate (3 - (lg_sl ([.ref (ad (0)), .int p1])).length) Slot.unset).toArray = ls at hl ⊢
  have hl : lv_has ls 3 [(0, .ref (ad (0))), (1, .int p1)] := hl
  unfold FX10_write at hF
  replace hl := lv_sub hl [0, 1] rfl
  obtain ⟨cells, ecells⟩ : ∃ z : Nat, z = 0 := ⟨_, rfl⟩
  obtain ⟨slots, eslots⟩ : ∃ z : Nat, z = 0 := ⟨_, rfl⟩
  obtain ⟨kc, ekc⟩ : ∃ z : Nat, z = KC := ⟨_, rfl⟩
  obtain ⟨ks, eks⟩ : ∃ z : Nat, z = KS := ⟨_, rfl⟩
  have hkc : cells + kc ≤ KC := by omega
  have hks : slots + ks ≤ KS := by omega
  replace hF := kcks_of hF ekc eks
  suffices hgo : W p l e (headSpec (wxX yX10_write cX10_write 3 (some .int)) ({ frames := 10, cells := KC, slots := KS, locals := 233 } : Room)).room s m ([.ref (ad (0)), .int p1] : List Value).toArray below meth c s.heap [] cells slots (vx_MQ below (QXi g ad (AC ad rd0 s.heap.size) r fi' ar' ln') (XX g ad (AC ad rd0 s.heap.size) r fi' ar' ln') ([.ref (ad (0)), .int p1] : List Value).toArray s KC KS (AC ad rd0 s.heap.size)) (F0 m 0 ls []) by rw [ecells, eslots] at hgo; exact hgo
  obtain ⟨rd, erd⟩ : ∃ z : Nat → Nat, z = rd0 := ⟨_, rfl⟩
  have hP : va_P (gD g) vwCl (WC g ad rd ln fi ar) s.heap := by rw [erd]; exact hP
  have hD : ∀ (ln : LN) (fi : FI) (ar : AR), va_D (AC ad rd0 s.heap.size) (WC g ad rd ln fi ar) := by rw [erd]; exact hD
  clear erd
  refine lv_aload_n hx hb dX10_write_0 rfl (lv_at hl 0 rfl) ?_
  refine cg_X10_tape hx hb hT hown hK hP mw2_7 dX10_write_1 ?_
  replace hF := obnd3_of hF
  obtain ⟨r4, fi2, ar3, h1, hF⟩ := hF
  refine cC_i (As := []) (rest := []) hx hb hml hT hown hK hE (hD _) hA hP hS (rcv_X8 hK hP) (kX8_take l g ad rd _ nf ln fi ar r4 fi2 ar3 h1) cw_X8_take mw8_11 ⟨⟨rfl, rfl⟩, Nat.le_of_ble_eq_true rfl, Nat.le_of_ble_eq_true rfl⟩ rfl hl.1 rfl (Nat.le_of_ble_eq_true rfl) dX10_write_4 ⟨by show _ ≤ KC; omega, by show _ ≤ KS; omega⟩ (fun H locs hP hS => ?_)
  refine lv_istore_n (lv' := [(2, .int (r4)), (0, .ref (ad (0))), (1, .int (p1))]) hx hb dX10_write_7 rfl hl (by decide) rfl (fun ls hl => ?_)
  refine lv_aload_n hx hb dX10_write_8 rfl (lv_at hl 1 rfl) ?_
  replace hF := obnd6_of hF
  obtain ⟨r9, fi6, ar7, ln8, kc11, ks12, h5, hF⟩ := hF
  replace hF := addc_of hF
  obtain ⟨kc14, ks15, e16c, e16s, hF⟩ := hF
  rcases r9 with v10 | k13
  rotate_left
  · replace hF := sumc_r hF
    exact cX_vt (As := []) (rest := []) hx hb hml hTX hown hK hE hEX hD hA hP hS (rcv_X10 hK hP) (kX10_openHere l g ad rd _ nf hlt fi2 ar3 ln (Sum.inr k13) fi6 ar7 ln8 kc11 ks12 h5) cw_X10_openHere mw37_16 ⟨⟨rfl, rfl⟩, Nat.le_of_ble_eq_true rfl, Nat.le_of_ble_eq_true rfl⟩ rfl hl.1 rfl (Nat.le_of_ble_eq_true rfl) dX10_write_9 ⟨by show _ ≤ KC; omega, by show _ ≤ KS; omega⟩ ⟨hout, hlocks, by omega, by omega, fun rd H locs t ht hP hD hS => xx_of hF (by rw [ht]; exact hP) hD (hS.F ht)⟩
  replace hF := sumc_l hF
  refine cX_v (As := []) (rest := []) hx hb hml hTX hown hK hE hEX hD hA hP hS (rcv_X10 hK hP) (kX10_openHere l g ad rd _ nf hlt fi2 ar3 ln (Sum.inl v10) fi6 ar7 ln8 kc11 ks12 h5) cw_X10_openHere mw37_16 ⟨⟨rfl, rfl⟩, Nat.le_of_ble_eq_true rfl, Nat.le_of_ble_eq_true rfl⟩ rfl hl.1 rfl (Nat.le_of_ble_eq_true rfl) dX10_write_9 ⟨by show _ ≤ KC; omega, by show _ ≤ KS; omega⟩ (fun rd H locs hP hD hS => ?_)
  replace hkc : cells + kc11 + kc14 ≤ KC := by omega
  replace hks : slots + ks12 + ks15 ≤ KS := by omega
  refine lv_aload_n hx hb dX10_write_12 rfl (lv_at hl 1 rfl) ?_
  refine lv_aload_n hx hb dX10_write_13 rfl (lv_at hl 1 rfl) ?_
  refine lv_iload_n hx hb dX10_write_14 rfl (lv_at hl 2 rfl) ?_
  replace hF := obnd6_of hF
  obtain ⟨r21, fi18, ar19, ln20, kc23, ks24, h17, hF⟩ := hF
  replace hF := addc_of hF
  obtain ⟨kc26, ks27, e28c, e28s, hF⟩ := hF
  rcases r21 with v22 | k25
  rotate_left
  · replace hF := sumc_r hF
    exact cX_it (As := [.int (p1)]) (rest := [.ref (ad (0))]) hx hb hml hTX hown hK hE hEX hD hA hP hS (rcv_X10 hK hP) (kX10_fileAt l g ad rd _ nf hlt fi6 ar7 ln8 (p1) (Sum.inr k25) fi18 ar19 ln20 kc23 ks24 h17) cw_X10_fileAt mw50_21 ⟨⟨rfl, rfl⟩, Nat.le_of_ble_eq_true rfl, Nat.le_of_ble_eq_true rfl⟩ rfl hl.1 rfl (Nat.le_of_ble_eq_true rfl) dX10_write_15 ⟨by show _ ≤ KC; omega, by show _ ≤ KS; omega⟩ ⟨hout, hlocks, by omega, by omega, fun rd H locs t ht hP hD hS => xx_of hF (by rw [ht]; exact hP) hD (hS.F ht)⟩
  replace hF := sumc_l hF
  refine cX_i (As := [.int (p1)]) (rest := [.ref (ad (0))]) hx hb hml hTX hown hK hE hEX hD hA hP hS (rcv_X10 hK hP) (kX10_fileAt l g ad rd _ nf hlt fi6 ar7 ln8 (p1) (Sum.inl v22) fi18 ar19 ln20 kc23 ks24 h17) cw_X10_fileAt mw50_21 ⟨⟨rfl, rfl⟩, Nat.le_of_ble_eq_true rfl, Nat.le_of_ble_eq_true rfl⟩ rfl hl.1 rfl (Nat.le_of_ble_eq_true rfl) dX10_write_15 ⟨by show _ ≤ KC; omega, by show _ ≤ KS; omega⟩ (fun rd H locs hP hD hS => ?_)
  replace hkc : cells + kc11 + kc23 + kc26 ≤ KC := by omega
  replace hks : slots + ks12 + ks24 + ks27 ≤ KS := by omega
  refine lv_iload_n hx hb dX10_write_18 rfl (lv_at hl 0 rfl) ?_
  refine lv_iconst (v := (1 : Int32)) hx hb dX10_write_19 (by decide) ?_
  refine lv_iconst (v := (0 : Int32)) hx hb dX10_write_20 (by decide) ?_
  replace hF := obnd6_of hF
  obtain ⟨r33, fi30, ar31, ln32, kc35, ks36, h29, hF⟩ := hF
  replace hF := addc_of hF
  obtain ⟨kc38, ks39, e40c, e40s, hF⟩ := hF
  rcases r33 with v34 | k37
  rotate_left
  · replace hF := sumc_r hF
    exact cX_it (As := [.int (v22), .int (r4), .int (1 : Int32), .int (0 : Int32)]) (rest := []) hx hb hml hTX hown hK hE hEX hD hA hP hS (rcv_X10 hK hP) (kX10_lengthenFile l g ad rd _ nf hlt fi18 ar19 ln20 (v22) (r4) (1 : Int32) (0 : Int32) (Sum.inr k37) fi30 ar31 ln32 kc35 ks36 h29) cw_X10_lengthenFile mw51_1 ⟨⟨rfl, rfl⟩, Nat.le_of_ble_eq_true rfl, Nat.le_of_ble_eq_true rfl⟩ rfl hl.1 rfl (Nat.le_of_ble_eq_true rfl) dX10_write_21 ⟨by show _ ≤ KC; omega, by show _ ≤ KS; omega⟩ ⟨hout, hlocks, by omega, by omega, fun rd H locs t ht hP hD hS => xx_of hF (by rw [ht]; exact hP) hD (hS.F ht)⟩
  replace hF := sumc_l hF
  refine cX_i (As := [.int (v22), .int (r4), .int (1 : Int32), .int (0 : Int32)]) (rest := []) hx hb hml hTX hown hK hE hEX hD hA hP hS (rcv_X10 hK hP) (kX10_lengthenFile l g ad rd _ nf hlt fi18 ar19 ln20 (v22) (r4) (1 : Int32) (0 : Int32) (Sum.inl v34) fi30 ar31 ln32 kc35 ks36 h29) cw_X10_lengthenFile mw51_1 ⟨⟨rfl, rfl⟩, Nat.le_of_ble_eq_true rfl, Nat.le_of_ble_eq_true rfl⟩ rfl hl.1 rfl (Nat.le_of_ble_eq_true rfl) dX10_write_21 ⟨by show _ ≤ KC; omega, by show _ ≤ KS; omega⟩ (fun rd H locs hP hD hS => ?_)
  replace hkc : cells + kc11 + kc23 + kc35 + kc38 ≤ KC := by omega
  replace hks : slots + ks12 + ks24 + ks36 + ks39 ≤ KS := by omega
  refine W.widen (k := KC) (n := KS) (by omega) (by omega) ?_
  exact rX_i hx hb hr hlocks hF hP hD hS dX10_write_24
theorem cw_X10_write : (Cond.instanceMethod yX10_write ∈ TB ∧ Cond.selects RX10 yX10_write yX10_write ∈ TB ∧ Cond.code yX10_write cX10_write 3 (some .int) ∈ TB ∧ Cond.initialized RX10 ∈ TB) ∧ (yX10_write.cls = RX10 ∧ yX10_write.cls ≠ "java/lang/invoke/MethodHandle" ∧ yX10_write.cls ≠ "java/lang/invoke/VarHandle" ∧ (parseMethodDescriptor yX10_write.desc).map (fun d => d.parameters.length) = some 1) := ⟨⟨mw50_18, mw50_19, mw50_20, mw1_2⟩, by decide +kernel⟩
/-! X10_grow -/
noncomputable def FX10_grow_22 (nf : Nat)  (fi : FI) (ar : AR) (ln : LN) : Option ((Int32 ⊕ Nat) × FI × AR × LN × Nat × Nat) :=
  some (Sum.inr 2, fi, ar, ln, 1, 6)
noncomputable def FX10_grow (nf : Nat) (fi : FI) (ar : AR) (ln : LN) (x1 : Int32) (x2 : Int32) (x3 : Int32) : Option ((Int32 ⊕ Nat) × FI × AR × LN × Nat × Nat) :=
  obnd6 (FX10_openHere nf fi ar ln) fun r5 fi2 ar3 ln4 kc7 ks8 => addc (kc7) (ks8) (sumc r5 (fun v6 => obnd6 (FX10_fileAt nf fi2 ar3 ln4 (x1)) fun r17 fi14 ar15 ln16 kc19 ks20 => addc (kc19) (ks20) (sumc r17 (fun v18 => br ((x2) < 0) (FX10_grow_22 nf  fi14 ar15 ln16) (br ((x2) ≤ (400000 : Int32)) (obnd6 (FX10_lengthenFile nf fi14 ar15 ln16 (v18) (x2) (0 : Int32) (x3)) fun r31 fi28 ar29 ln30 kc33 ks34 => addc (kc33) (ks34) (sumc r31 (fun v32 => some (Sum.inl (v32), fi28, ar29, ln30, 0, 0)) (fun k35 => some (Sum.inr k35, fi28, ar29, ln30, 0, 0)))) (FX10_grow_22 nf  fi14 ar15 ln16))) (fun k21 => some (Sum.inr k21, fi14, ar15, ln16, 0, 0)))) (fun k9 => some (Sum.inr k9, fi2, ar3, ln4, 0, 0)))
set_option maxHeartbeats 8000000 in
set_option maxRecDepth 100000 in
theorem kX10_grow (l : Launch) (g : GT) (ad rd0 : Nat → Nat) (sz : Nat) (nf : Nat) (hlt : l.stackTraces = false) (fi : FI) (ar : AR) (ln : LN) (p1 : Int32) (p2 : Int32) (p3 : Int32) (r : (Int32 ⊕ Nat)) (fi' : FI) (ar' : AR) (ln' : LN) (KC KS : Nat) (hF : FX10_grow nf fi ar ln p1 p2 p3 = some (r, fi', ar', ln', KC, KS)) : vx_Met l yX10_grow (wxX yX10_grow cX10_grow 5 (some .int)) ({ frames := 10, cells := KC, slots := KS, locals := 233 } : Room) (va_Pc [.ref (ad (0)), .int p1, .int p2, .int p3] (PX g ad rd0 ln sz fi ar)) (QXi g ad (AC ad rd0 sz) r fi' ar' ln') (XX g ad (AC ad rd0 sz) r fi' ar' ln') KC KS (AC ad rd0 sz) := by
  refine vx_ofW (cc := cX10_grow) (maxL := 5) (ret := (some .int)) (by decide) rfl ?_
  intro p e s m args below meth c s₁ B hml hout hv
  obtain ⟨rfl, ⟨hsz, hP, hK, hD0, hE⟩, hEX⟩ := hv
  have hx := B.exec
  have hb := B.bytes
  have hr := B.returns
  have hts := atoms_spec (ws := (wxX yX10_grow cX10_grow 5 (some .int))) B.pre
  have hTX : ∀ w ∈ TBX, w.before _ s = true := fun w h => hts w (List.mem_cons_of_mem _ h)
  have hT : ∀ w ∈ TB, w.before _ s = true := fun w h => hTX w (tbx0 w h)
  have hown : s.vm.findClass RX10 = some m.cls := findClass_of_methodNamed B.named
  have hlocks := B.notSynchronized
  subst hsz
  have hD : ∀ (ln : LN) (fi : FI) (ar : AR), va_D (AC ad rd0 s.heap.size) (WC g ad rd0 ln fi ar) := dCre (dC hD0 s.heap.size fi ar) (fun _ h => h)
  have hA : ∀ q : Nat, s.heap.size ≤ q → AC ad rd0 s.heap.size q := fun q h => Or.inr h
  have hS : va_S (AC ad rd0 s.heap.size) s.heap s.heap [] := va_S.rf
  have hl := lv_entry ([.ref (ad (0)), .int p1, .int p2, .int p3]) (n := 5) (Nat.le_of_ble_eq_true rfl)
  rw [lg_entry_eq]
  generalize (lg_sl ([.ref (ad (0)), .int p1, .int p2, .int p3]) ++ List.replicate (5 - (lg_sl ([.ref (ad (0)), .int p1, .int p2, .int p3])).length) Slot.unset).toArray = ls at hl ⊢
  have hl : lv_has ls 5 [(0, .ref (ad (0))), (1, .int p1), (2, .int p2), (3, .int p3)] := hl
  unfold FX10_grow at hF
  have J22 : ∀  (fi : FI) (ar : AR) (ln : LN) (kc ks cells slots : Nat) (rd : Nat → Nat) (H : Heap) (locs : List Loc) (ls : Array Slot), FX10_grow_22 nf fi ar ln = some (r, fi', ar', ln', kc, ks) → cells + kc ≤ KC → slots + ks ≤ KS → lv_has ls 5 [(0, .ref (ad (0)))] → va_P (gD g) vwCl (WC g ad rd ln fi ar) H → (∀ (ln : LN) (fi : FI) (ar : AR), va_D (AC ad rd0 s.heap.size) (WC g ad rd ln fi ar)) → va_S (AC ad rd0 s.heap.size) s.heap H locs → W p l e (headSpec (wxX yX10_grow cX10_grow 5 (some .int)) ({ frames := 10, cells := KC, slots := KS, locals := 233 } : Room)).room s m ([.ref (ad (0)), .int p1, .int p2, .int p3] : List Value).toArray below meth c H locs cells slots (vx_MQ below (QXi g ad (AC ad rd0 s.heap.size) r fi' ar' ln') (XX g ad (AC ad rd0 s.heap.size) r fi' ar' ln') ([.ref (ad (0)), .int p1, .int p2, .int p3] : List Value).toArray s KC KS (AC ad rd0 s.heap.size)) (F0 m 22 ls []) := by
    intro fi ar ln kc ks cells slots rd H locs ls hF hkc hks hl hP hD hS
    unfold FX10_grow_22 at hF
    obtain ⟨sa, hsa⟩ := hEX.1.2.2.2.2.2.2.2.2.2.2.2.1
    obtain ⟨hq1, hq2⟩ := cost_of hF
    refine vx_throwSW (cls := "java/lang/IllegalArgumentException") (names := ["java/lang/RuntimeException", "java/lang/Exception"]) (sa := sa) (A := AC ad rd0 s.heap.size) hx hb hlt hown (by decide) (by decide) (hT _ mw9_3) (hT _ mw9_4) hsa (vx_hat (fun w h => hTX w (tbx3 w h)) (by rw [vxb_2]; exact fun _ h => h) (vx_c (va_tabs rfl rfl hEX.2.2.2.2.2.1) (vx_c (va_tabs rfl rfl hEX.2.2.2.2.2.2.1) (vx_c (va_tabs rfl rfl hEX.2.2.2.2.2.2.2) (vx_c (va_tabs rfl rfl hEX.2.2.2.1) vx_n))))) vxg_2 hEX.1.1 hEX.1.2.1 hS (by rw [hml]; exact hl.1) dX10_grow_22 dX10_grow_25 dX10_grow_26 dX10_grow_29 dX10_grow_32 (fun x hx => (hout x hx).elim) (Nat.le_of_ble_eq_true rfl) (Nat.le_of_ble_eq_true rfl) (by show _ ≤ KC; omega) (by show _ ≤ KS; omega) hlocks (fun t _ hz hk => ?_) hS.2.2 (by omega) (by omega)
    exact xx_of (k := 2) hF (hP.kept (fun k q h => hk q.1 (hP k q h).lt)) hD ⟨Nat.le_trans hS.1 hz, fun q h1 h2 => by rw [hk q (Nat.lt_of_lt_of_le h1 hS.1)]; exact hS.2.1 q h1 h2⟩
  replace hl := lv_sub hl [0, 1, 2, 3] rfl
  obtain ⟨cells, ecells⟩ : ∃ z : Nat, z = 0 := ⟨_, rfl⟩
  obtain ⟨slots, eslots⟩ : ∃ z : Nat, z = 0 := ⟨_, rfl⟩
  obtain ⟨kc, ekc⟩ : ∃ z : Nat, z = KC := ⟨_, rfl⟩
  obtain ⟨ks, eks⟩ : ∃ z : Nat, z = KS := ⟨_, rfl⟩
  have hkc : cells + kc ≤ KC := by omega
  have hks : slots + ks ≤ KS := by omega
  replace hF := kcks_of hF ekc eks
  suffices hgo : W p l e (headSpec (wxX yX10_grow cX10_grow 5 (some .int)) ({ frames := 10, cells := KC, slots := KS, locals := 233 } : Room)).room s m ([.ref (ad (0)), .int p1, .int p2, .int p3] : List Value).toArray below meth c s.heap [] cells slots (vx_MQ below (QXi g ad (AC ad rd0 s.heap.size) r fi' ar' ln') (XX g ad (AC ad rd0 s.heap.size) r fi' ar' ln') ([.ref (ad (0)), .int p1, .int p2, .int p3] : List Value).toArray s KC KS (AC ad rd0 s.heap.size)) (F0 m 0 ls []) by rw [ecells, eslots] at hgo; exact hgo
  obtain ⟨rd, erd⟩ : ∃ z : Nat → Nat, z = rd0 := ⟨_, rfl⟩
  have hP : va_P (gD g) vwCl (WC g ad rd ln fi ar) s.heap := by rw [erd]; exact hP
  have hD : ∀ (ln : LN) (fi : FI) (ar : AR), va_D (AC ad rd0 s.heap.size) (WC g ad rd ln fi ar) := by rw [erd]; exact hD
  clear erd
  refine lv_aload_n hx hb dX10_grow_0 rfl (lv_at hl 0 rfl) ?_
  replace hF := obnd6_of hF
  obtain ⟨r5, fi2, ar3, ln4, kc7, ks8, h1, hF⟩ := hF
  replace hF := addc_of hF
  obtain ⟨kc10, ks11, e12c, e12s, hF⟩ := hF
  rcases r5 with v6 | k9
  rotate_left
  · replace hF := sumc_r hF
    exact cX_vt (As := []) (rest := []) hx hb hml hTX hown hK hE hEX hD hA hP hS (rcv_X10 hK hP) (kX10_openHere l g ad rd _ nf hlt fi ar ln (Sum.inr k9) fi2 ar3 ln4 kc7 ks8 h1) cw_X10_openHere mw37_16 ⟨⟨rfl, rfl⟩, Nat.le_of_ble_eq_true rfl, Nat.le_of_ble_eq_true rfl⟩ rfl hl.1 rfl (Nat.le_of_ble_eq_true rfl) dX10_grow_1 ⟨by show _ ≤ KC; omega, by show _ ≤ KS; omega⟩ ⟨hout, hlocks, by omega, by omega, fun rd H locs t ht hP hD hS => xx_of hF (by rw [ht]; exact hP) hD (hS.F ht)⟩
  replace hF := sumc_l hF
  refine cX_v (As := []) (rest := []) hx hb hml hTX hown hK hE hEX hD hA hP hS (rcv_X10 hK hP) (kX10_openHere l g ad rd _ nf hlt fi ar ln (Sum.inl v6) fi2 ar3 ln4 kc7 ks8 h1) cw_X10_openHere mw37_16 ⟨⟨rfl, rfl⟩, Nat.le_of_ble_eq_true rfl, Nat.le_of_ble_eq_true rfl⟩ rfl hl.1 rfl (Nat.le_of_ble_eq_true rfl) dX10_grow_1 ⟨by show _ ≤ KC; omega, by show _ ≤ KS; omega⟩ (fun rd H locs hP hD hS => ?_)
  replace hkc : cells + kc7 + kc10 ≤ KC := by omega
  replace hks : slots + ks8 + ks11 ≤ KS := by omega
  refine lv_aload_n hx hb dX10_grow_4 rfl (lv_at hl 0 rfl) ?_
  refine lv_iload_n hx hb dX10_grow_5 rfl (lv_at hl 1 rfl) ?_
  replace hF := obnd6_of hF
  obtain ⟨r17, fi14, ar15, ln16, kc19, ks20, h13, hF⟩ := hF
  replace hF := addc_of hF
  obtain ⟨kc22, ks23, e24c, e24s, hF⟩ := hF
  rcases r17 with v18 | k21
  rotate_left
  · replace hF := sumc_r hF
    exact cX_it (As := [.int (p1)]) (rest := []) hx hb hml hTX hown hK hE hEX hD hA hP hS (rcv_X10 hK hP) (kX10_fileAt l g ad rd _ nf hlt fi2 ar3 ln4 (p1) (Sum.inr k21) fi14 ar15 ln16 kc19 ks20 h13) cw_X10_fileAt mw50_21 ⟨⟨rfl, rfl⟩, Nat.le_of_ble_eq_true rfl, Nat.le_of_ble_eq_true rfl⟩ rfl hl.1 rfl (Nat.le_of_ble_eq_true rfl) dX10_grow_6 ⟨by show _ ≤ KC; omega, by show _ ≤ KS; omega⟩ ⟨hout, hlocks, by omega, by omega, fun rd H locs t ht hP hD hS => xx_of hF (by rw [ht]; exact hP) hD (hS.F ht)⟩
  replace hF := sumc_l hF
  refine cX_i (As := [.int (p1)]) (rest := []) hx hb hml hTX hown hK hE hEX hD hA hP hS (rcv_X10 hK hP) (kX10_fileAt l g ad rd _ nf hlt fi2 ar3 ln4 (p1) (Sum.inl v18) fi14 ar15 ln16 kc19 ks20 h13) cw_X10_fileAt mw50_21 ⟨⟨rfl, rfl⟩, Nat.le_of_ble_eq_true rfl, Nat.le_of_ble_eq_true rfl⟩ rfl hl.1 rfl (Nat.le_of_ble_eq_true rfl) dX10_grow_6 ⟨by show _ ≤ KC; omega, by show _ ≤ KS; omega⟩ (fun rd H locs hP hD hS => ?_)
  replace hkc : cells + kc7 + kc19 + kc22 ≤ KC := by omega
  replace hks : slots + ks8 + ks20 + ks23 ≤ KS := by omega
  refine lv_istore (lv' := [(4, .int (v18)), (0, .ref (ad (0))), (1, .int (p1)), (2, .int (p2)), (3, .int (p3))]) hx hb dX10_grow_9 hl (by decide) rfl (fun ls hl => ?_)
  refine lv_iload_n hx hb dX10_grow_11 rfl (lv_at hl 3 rfl) ?_
  refine lv_if_lt (tgt := 22) hx hb dX10_grow_12 (by decide) (fun hc25 => ?_) (fun hc25 => ?_)
  · replace hF := br_yes hF hc25
    exact J22  _ _ _ _ _ _ _ _ _ _ _ hF hkc hks (lv_sub hl [1] rfl) hP hD hS
  · replace hF := br_no hF hc25
    refine lv_iload_n hx hb dX10_grow_15 rfl (lv_at hl 3 rfl) ?_
    refine lv_ldcw (v := (400000 : Int32)) hx hb hown (hT _ mw53_13) dX10_grow_16 ?_
    refine lv_icmp_le (tgt := 33) hx hb dX10_grow_19 (by decide) (fun hc26 => ?_) (fun hc26 => ?_)
    · replace hF := br_yes hF hc26
      refine lv_aload_n hx hb dX10_grow_33 rfl (lv_at hl 1 rfl) ?_
      refine lv_iload hx hb dX10_grow_34 (lv_at hl 0 rfl) ?_
      refine lv_iload_n hx hb dX10_grow_36 rfl (lv_at hl 3 rfl) ?_
      refine lv_iconst (v := (0 : Int32)) hx hb dX10_grow_37 (by decide) ?_
      refine lv_iload_n hx hb dX10_grow_38 rfl (lv_at hl 4 rfl) ?_
      replace hF := obnd6_of hF
      obtain ⟨r31, fi28, ar29, ln30, kc33, ks34, h27, hF⟩ := hF
      replace hF := addc_of hF
      obtain ⟨kc36, ks37, e38c, e38s, hF⟩ := hF
      rcases r31 with v32 | k35
      rotate_left
      · replace hF := sumc_r hF
        exact cX_it (As := [.int (v18), .int (p2), .int (0 : Int32), .int (p3)]) (rest := []) hx hb hml hTX hown hK hE hEX hD hA hP hS (rcv_X10 hK hP) (kX10_lengthenFile l g ad rd _ nf hlt fi14 ar15 ln16 (v18) (p2) (0 : Int32) (p3) (Sum.inr k35) fi28 ar29 ln30 kc33 ks34 h27) cw_X10_lengthenFile mw51_1 ⟨⟨rfl, rfl⟩, Nat.le_of_ble_eq_true rfl, Nat.le_of_ble_eq_true rfl⟩ rfl hl.1 rfl (Nat.le_of_ble_eq_true rfl) dX10_grow_39 ⟨by show _ ≤ KC; omega, by show _ ≤ KS; omega⟩ ⟨hout, hlocks, by omega, by omega, fun rd H locs t ht hP hD hS => xx_of hF (by rw [ht]; exact hP) hD (hS.F ht)⟩
      replace hF := sumc_l hF
      refine cX_i (As := [.int (v18), .int (p2), .int (0 : Int32), .int (p3)]) (rest := []) hx hb hml hTX hown hK hE hEX hD hA hP hS (rcv_X10 hK hP) (kX10_lengthenFile l g ad rd _ nf hlt fi14 ar15 ln16 (v18) (p2) (0 : Int32) (p3) (Sum.inl v32) fi28 ar29 ln30 kc33 ks34 h27) cw_X10_lengthenFile mw51_1 ⟨⟨rfl, rfl⟩, Nat.le_of_ble_eq_true rfl, Nat.le_of_ble_eq_true rfl⟩ rfl hl.1 rfl (Nat.le_of_ble_eq_true rfl) dX10_grow_39 ⟨by show _ ≤ KC; omega, by show _ ≤ KS; omega⟩ (fun rd H locs hP hD hS => ?_)
      replace hkc : cells + kc7 + kc19 + kc33 + kc36 ≤ KC := by omega
      replace hks : slots + ks8 + ks20 + ks34 + ks37 ≤ KS := by omega
      refine W.widen (k := KC) (n := KS) (by omega) (by omega) ?_
      exact rX_i hx hb hr hlocks hF hP hD hS dX10_grow_42
    · replace hF := br_no hF hc26
      exact J22  _ _ _ _ _ _ _ _ _ _ _ hF hkc hks (lv_sub hl [1] rfl) hP hD hS
theorem cw_X10_grow : (Cond.instanceMethod yX10_grow ∈ TB ∧ Cond.selects RX10 yX10_grow yX10_grow ∈ TB ∧ Cond.code yX10_grow cX10_grow 5 (some .int) ∈ TB ∧ Cond.initialized RX10 ∈ TB) ∧ (yX10_grow.cls = RX10 ∧ yX10_grow.cls ≠ "java/lang/invoke/MethodHandle" ∧ yX10_grow.cls ≠ "java/lang/invoke/VarHandle" ∧ (parseMethodDescriptor yX10_grow.desc).map (fun d => d.parameters.length) = some 3) := ⟨⟨mw53_10, mw53_11, mw53_12, mw1_2⟩, by decide +kernel⟩
