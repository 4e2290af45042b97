/-! X7_store -/
noncomputable def FX7_store_2b (K2 : Int32 → Int32 → FI → AR → Option (Unit × FI × AR)) (nf : Nat) (ln : LN) (i0 : Nat) (x2 : Int32) (x3 : Int32) (fi : FI) (ar : AR) : Option (Unit × FI × AR) :=
  br ((11 : Int32) ≤ (x3)) (some ((), fi, ar)) (gd (¬ ((x3) < 0 ∨ ln (40 + 2 * i0) ≤ (x3).toNatClampNeg)) (obnd3 (FX3_putOne nf ln fi ar ((x2) + (x3)) (ar (40 + 2 * i0) (x3).toNatClampNeg)) fun r6 fi4 ar5 => bnd ((x3) + (1 : Int32)) fun x3_7 => K2 (x2) (x3_7) fi4 ar5))
noncomputable def FX7_store_2 (nf : Nat) (ln : LN) (i0 : Nat) (kf : Nat) : Int32 → Int32 → FI → AR → Option (Unit × FI × AR) := Nat.rec (fun _ _ _ _ => none) (fun _ K2 => FX7_store_2b K2 nf ln i0) kf
noncomputable def FX7_store (nf : Nat) (ln : LN) (i0 : Nat) (fi : FI) (ar : AR) (x2 : Int32) : Option (Unit × FI × AR) :=
  FX7_store_2 nf ln i0 nf (x2) (0 : Int32) fi ar
set_option maxHeartbeats 4000000 in
set_option maxRecDepth 100000 in
theorem kX7_store (l : Launch) (g : GT) (ad rd : Nat → Nat) (sz : Nat) (nf : Nat) (ln : LN) (i0 : Nat) (hi0 : i0 < 2) (fi : FI) (ar : AR) (p2 : Int32) (r : Unit) (fi' : FI) (ar' : AR) (hF : FX7_store nf ln i0 fi ar p2 = some (r, fi', ar')) : Met l yX7_store (wx yX7_store cX7_store 4 none) ({ frames := 1, cells := 0, slots := 0, locals := 24 } : Room) (va_Pc [.ref (ad (34 + 3 * i0)), .ref (ad (1)), .int p2] (PC g ad rd ln sz fi ar)) (QCv g ad rd ln sz r fi' ar') 0 0 (AC ad rd sz) := by
  refine Met.ofW (cc := cX7_store) (maxL := 4) (ret := none) (by decide) rfl ?_
  intro p e s m args below meth c s₁ B hml hv
  obtain ⟨rfl, hsz, hP, hK, hD0, hE⟩ := hv
  have hx := B.exec
  have hb := B.bytes
  have hr := B.returns
  have hts := atoms_spec (ws := (wx yX7_store cX7_store 4 none)) B.pre
  have hT : ∀ w ∈ TB, w.before _ s = true := fun w h => hts w (List.mem_cons_of_mem _ h)
  have hown : s.vm.findClass RX7 = some m.cls := findClass_of_methodNamed B.named
  have hlocks := B.notSynchronized
  subst hsz
  have hD := dC hD0 s.heap.size
  have hA : ∀ q : Nat, s.heap.size ≤ q → AC ad rd s.heap.size q := fun q h => Or.inr h
  have hS : va_S (AC ad rd s.heap.size) s.heap s.heap [] := va_S.rf
  have hl := lv_entry ([.ref (ad (34 + 3 * i0)), .ref (ad (1)), .int p2]) (n := 4) (Nat.le_of_ble_eq_true rfl)
  rw [lg_entry_eq]
  generalize (lg_sl ([.ref (ad (34 + 3 * i0)), .ref (ad (1)), .int p2]) ++ List.replicate (4 - (lg_sl ([.ref (ad (34 + 3 * i0)), .ref (ad (1)), .int p2])).length) Slot.unset).toArray = ls at hl ⊢
  have hl : lv_has ls 4 [(0, .ref (ad (34 + 3 * i0))), (1, .ref (ad (1))), (2, .int p2)] := hl
  unfold FX7_store at hF
  have L2 : ∀ kf : Nat, ∀ (x2 : Int32) (x3 : Int32) (fi : FI) (ar : AR) (H : Heap) (locs : List Loc) (ls : Array Slot), FX7_store_2 nf ln i0 kf x2 x3 fi ar = some (r, fi', ar') → lv_has ls 4 [(0, .ref (ad (34 + 3 * i0))), (1, .ref (ad (1))), (2, .int x2), (3, .int x3)] → va_P (gD g) vwCl (WC g ad rd ln fi ar) H → va_S (AC ad rd s.heap.size) s.heap H locs → W p l e (headSpec (wx yX7_store cX7_store 4 none) ({ frames := 1, cells := 0, slots := 0, locals := 24 } : Room)).room s m ([.ref (ad (34 + 3 * i0)), .ref (ad (1)), .int p2] : List Value).toArray below meth c H locs 0 0 (MQ below (QCv g ad rd ln s.heap.size r fi' ar') ([.ref (ad (34 + 3 * i0)), .ref (ad (1)), .int p2] : List Value).toArray s 0 0 (AC ad rd s.heap.size)) (F0 m 2 ls []) := by
    intro kf
    induction kf with
    | zero => intro x2 x3 fi ar H locs ls hF hl hP hS; cases (show (none : Option (Unit × FI × AR)) = _ from hF)
    | succ kf ih2 =>
      intro x2 x3 fi ar H locs ls hF hl hP hS
      obtain ⟨K2, hK2⟩ : ∃ K : Int32 → Int32 → FI → AR → Option (Unit × FI × AR), K = FX7_store_2 nf ln i0 kf := ⟨_, rfl⟩
      replace hF : FX7_store_2b K2 nf ln i0 x2 x3 fi ar = some (r, fi', ar') := by rw [hK2]; exact hF
      rw [← hK2] at ih2
      clear hK2
      unfold FX7_store_2b at hF
      refine lv_iload_n hx hb dX7_store_2 rfl (lv_at hl 3 rfl) ?_
      refine lv_bipush (v := (11 : Int32)) hx hb dX7_store_3 (by decide) ?_
      refine lv_icmp_ge (tgt := 27) hx hb dX7_store_5 (by decide) (fun hc1 => ?_) (fun hc1 => ?_)
      · replace hF := br_yes hF hc1
        exact rC_v hx hb hr hlocks hF hP hS dX7_store_27
      · replace hF := br_no hF hc1
        refine lv_aload_n hx hb dX7_store_8 rfl (lv_at hl 1 rfl) ?_
        refine lv_iload_n hx hb dX7_store_9 rfl (lv_at hl 2 rfl) ?_
        refine lv_iload_n hx hb dX7_store_10 rfl (lv_at hl 3 rfl) ?_
        refine lv_iadd hx hb dX7_store_11 ?_
        refine lv_aload_n hx hb dX7_store_12 rfl (lv_at hl 0 rfl) ?_
        refine cg_X7_bytes hi0 hx hb hT hown hK hP mw5_5 dX7_store_13 ?_
        refine lv_iload_n hx hb dX7_store_16 rfl (lv_at hl 3 rfl) ?_
        replace hF := gd_of hF
        obtain ⟨hi2, hF⟩ := hF
        refine cl_sbytes hi0 hx hb hK hP hi2 dX7_store_17 ?_
        replace hF := obnd3_of hF
        obtain ⟨r6, fi4, ar5, h3, hF⟩ := hF
        refine cC_v (As := [.int ((x2) + (x3)), .int (ar (40 + 2 * i0) (x3).toNatClampNeg)]) (rest := []) hx hb hml hT hown hK hE hD hA hP hS (rcv_X3 hK hP) (kX3_putOne l g ad rd _ nf ln fi ar ((x2) + (x3)) (ar (40 + 2 * i0) (x3).toNatClampNeg) r6 fi4 ar5 h3) cw_X3_putOne mw17_1 ⟨⟨rfl, rfl⟩, Nat.le_of_ble_eq_true rfl, Nat.le_of_ble_eq_true rfl⟩ rfl hl.1 rfl (Nat.le_of_ble_eq_true rfl) dX7_store_18 ⟨Nat.zero_le _, Nat.zero_le _⟩ (fun H locs hP hS => ?_)
        obtain ⟨x3_7, ex3_7⟩ : ∃ y : Int32, y = (x3) + (1 : Int32) := ⟨_, rfl⟩
        replace hF := bnd_of hF ex3_7
        refine lv_iinc (v := x3_7) (lv' := [(3, .int (x3_7)), (0, .ref (ad (34 + 3 * i0))), (1, .ref (ad (1))), (2, .int (x2))]) hx hb dX7_store_21 hl (k := 3) rfl (by rw [ex3_7]; rfl) (by decide) rfl (fun ls hl => ?_)
        refine lv_goto (tgt := 2) hx hb dX7_store_24 (by decide) ?_
        exact ih2 (x2) (x3_7) _ _ _ _ _ hF (lv_sub hl [1, 2, 3, 0] rfl) hP hS
  replace hl := lv_sub hl [0, 1, 2] rfl
  refine lv_iconst (v := (0 : Int32)) hx hb dX7_store_0 (by decide) ?_
  refine lv_istore_n (lv' := [(3, .int (0 : Int32)), (0, .ref (ad (34 + 3 * i0))), (1, .ref (ad (1))), (2, .int (p2))]) hx hb dX7_store_1 rfl hl (by decide) rfl (fun ls hl => ?_)
  exact L2 nf (p2) (0 : Int32) _ _ _ _ _ hF (lv_sub hl [1, 2, 3, 0] rfl) hP hS
theorem cw_X7_store : (Cond.instanceMethod yX7_store ∈ TB ∧ Cond.selects RX7 yX7_store yX7_store ∈ TB ∧ Cond.code yX7_store cX7_store 4 none ∈ TB ∧ Cond.initialized RX7 ∈ TB) ∧ (yX7_store.cls = RX7 ∧ yX7_store.cls ≠ "java/lang/invoke/MethodHandle" ∧ yX7_store.cls ≠ "java/lang/invoke/VarHandle" ∧ (parseMethodDescriptor yX7_store.desc).map (fun d => d.parameters.length) = some 2) := ⟨⟨mw16_22, mw16_23, mw17_0, mw3_4⟩, by decide +kernel⟩
/-! X8_prepare -/
noncomputable def FX8_prepare (nf : Nat) (ln : LN) (fi : FI) (ar : AR) (x1 : Int32) (x2 : Int32) (x3 : Int32) (x4 : Int32) (x5 : Int32) : Option (Unit × FI × AR) :=
  gd (¬ ((0 : Int32) < 0 ∨ ln (2) ≤ (0 : Int32).toNatClampNeg)) (bnd (va_up ar (2) (upd (ar (2)) (0 : Int32).toNatClampNeg (x1))) fun ar2 => gd (¬ ((1 : Int32) < 0 ∨ ln (2) ≤ (1 : Int32).toNatClampNeg)) (bnd (va_up ar2 (2) (upd (ar2 (2)) (1 : Int32).toNatClampNeg (x2))) fun ar4 => gd (¬ ((2 : Int32) < 0 ∨ ln (2) ≤ (2 : Int32).toNatClampNeg)) (bnd (va_up ar4 (2) (upd (ar4 (2)) (2 : Int32).toNatClampNeg (x3))) fun ar6 => gd (¬ ((3 : Int32) < 0 ∨ ln (2) ≤ (3 : Int32).toNatClampNeg)) (bnd (va_up ar6 (2) (upd (ar6 (2)) (3 : Int32).toNatClampNeg (x4))) fun ar8 => gd (¬ ((4 : Int32) < 0 ∨ ln (2) ≤ (4 : Int32).toNatClampNeg)) (bnd (va_up ar8 (2) (upd (ar8 (2)) (4 : Int32).toNatClampNeg (x5))) fun ar10 => some ((), fi, ar10))))))
set_option maxHeartbeats 4000000 in
set_option maxRecDepth 100000 in
theorem kX8_prepare (l : Launch) (g : GT) (ad rd : Nat → Nat) (sz : Nat) (nf : Nat) (ln : LN) (fi : FI) (ar : AR) (p1 : Int32) (p2 : Int32) (p3 : Int32) (p4 : Int32) (p5 : Int32) (r : Unit) (fi' : FI) (ar' : AR) (hF : FX8_prepare nf ln fi ar p1 p2 p3 p4 p5 = some (r, fi', ar')) : Met l yX8_prepare (wx yX8_prepare cX8_prepare 6 none) ({ frames := 0, cells := 0, slots := 0, locals := 0 } : Room) (va_Pc [.ref (ad (3)), .int p1, .int p2, .int p3, .int p4, .int p5] (PC g ad rd ln sz fi ar)) (QCv g ad rd ln sz r fi' ar') 0 0 (AC ad rd sz) := by
  refine Met.ofW (cc := cX8_prepare) (maxL := 6) (ret := none) (by decide) rfl ?_
  intro p e s m args below meth c s₁ B hml hv
  obtain ⟨rfl, hsz, hP, hK, hD0, hE⟩ := hv
  have hx := B.exec
  have hb := B.bytes
  have hr := B.returns
  have hts := atoms_spec (ws := (wx yX8_prepare cX8_prepare 6 none)) B.pre
  have hT : ∀ w ∈ TB, w.before _ s = true := fun w h => hts w (List.mem_cons_of_mem _ h)
  have hown : s.vm.findClass RX8 = some m.cls := findClass_of_methodNamed B.named
  have hlocks := B.notSynchronized
  subst hsz
  have hD := dC hD0 s.heap.size
  have hA : ∀ q : Nat, s.heap.size ≤ q → AC ad rd s.heap.size q := fun q h => Or.inr h
  have hS : va_S (AC ad rd s.heap.size) s.heap s.heap [] := va_S.rf
  have hl := lv_entry ([.ref (ad (3)), .int p1, .int p2, .int p3, .int p4, .int p5]) (n := 6) (Nat.le_of_ble_eq_true rfl)
  rw [lg_entry_eq]
  generalize (lg_sl ([.ref (ad (3)), .int p1, .int p2, .int p3, .int p4, .int p5]) ++ List.replicate (6 - (lg_sl ([.ref (ad (3)), .int p1, .int p2, .int p3, .int p4, .int p5])).length) Slot.unset).toArray = ls at hl ⊢
  have hl : lv_has ls 6 [(0, .ref (ad (3))), (1, .int p1), (2, .int p2), (3, .int p3), (4, .int p4), (5, .int p5)] := hl
  unfold FX8_prepare at hF
  replace hl := lv_sub hl [0, 1, 2, 3, 4, 5] rfl
  refine lv_aload_n hx hb dX8_prepare_0 rfl (lv_at hl 0 rfl) ?_
  refine cg_X8_ready hx hb hT hown hK hP mw3_20 dX8_prepare_1 ?_
  refine lv_iconst (v := (0 : Int32)) hx hb dX8_prepare_4 (by decide) ?_
  refine lv_iload_n hx hb dX8_prepare_5 rfl (lv_at hl 1 rfl) ?_
  replace hF := gd_of hF
  obtain ⟨hi1, hF⟩ := hF
  obtain ⟨ar2, ear2⟩ : ∃ y : AR, y = va_up ar (2) (upd (ar (2)) (0 : Int32).toNatClampNeg (p1)) := ⟨_, rfl⟩
  replace hF := bnd_of hF ear2
  refine cs_tready hx hb hK hP hD hS hi1 dX8_prepare_6 (fun H locs hP hS => ?_)
  rw [← ear2] at hP
  refine lv_aload_n hx hb dX8_prepare_7 rfl (lv_at hl 0 rfl) ?_
  refine cg_X8_ready hx hb hT hown hK hP mw3_20 dX8_prepare_8 ?_
  refine lv_iconst (v := (1 : Int32)) hx hb dX8_prepare_11 (by decide) ?_
  refine lv_iload_n hx hb dX8_prepare_12 rfl (lv_at hl 2 rfl) ?_
  replace hF := gd_of hF
  obtain ⟨hi3, hF⟩ := hF
  obtain ⟨ar4, ear4⟩ : ∃ y : AR, y = va_up ar2 (2) (upd (ar2 (2)) (1 : Int32).toNatClampNeg (p2)) := ⟨_, rfl⟩
  replace hF := bnd_of hF ear4
  refine cs_tready hx hb hK hP hD hS hi3 dX8_prepare_13 (fun H locs hP hS => ?_)
  rw [← ear4] at hP
  refine lv_aload_n hx hb dX8_prepare_14 rfl (lv_at hl 0 rfl) ?_
  refine cg_X8_ready hx hb hT hown hK hP mw3_20 dX8_prepare_15 ?_
  refine lv_iconst (v := (2 : Int32)) hx hb dX8_prepare_18 (by decide) ?_
  refine lv_iload_n hx hb dX8_prepare_19 rfl (lv_at hl 3 rfl) ?_
  replace hF := gd_of hF
  obtain ⟨hi5, hF⟩ := hF
  obtain ⟨ar6, ear6⟩ : ∃ y : AR, y = va_up ar4 (2) (upd (ar4 (2)) (2 : Int32).toNatClampNeg (p3)) := ⟨_, rfl⟩
  replace hF := bnd_of hF ear6
  refine cs_tready hx hb hK hP hD hS hi5 dX8_prepare_20 (fun H locs hP hS => ?_)
  rw [← ear6] at hP
  refine lv_aload_n hx hb dX8_prepare_21 rfl (lv_at hl 0 rfl) ?_
  refine cg_X8_ready hx hb hT hown hK hP mw3_20 dX8_prepare_22 ?_
  refine lv_iconst (v := (3 : Int32)) hx hb dX8_prepare_25 (by decide) ?_
  refine lv_iload hx hb dX8_prepare_26 (lv_at hl 4 rfl) ?_
  replace hF := gd_of hF
  obtain ⟨hi7, hF⟩ := hF
  obtain ⟨ar8, ear8⟩ : ∃ y : AR, y = va_up ar6 (2) (upd (ar6 (2)) (3 : Int32).toNatClampNeg (p4)) := ⟨_, rfl⟩
  replace hF := bnd_of hF ear8
  refine cs_tready hx hb hK hP hD hS hi7 dX8_prepare_28 (fun H locs hP hS => ?_)
  rw [← ear8] at hP
  refine lv_aload_n hx hb dX8_prepare_29 rfl (lv_at hl 0 rfl) ?_
  refine cg_X8_ready hx hb hT hown hK hP mw3_20 dX8_prepare_30 ?_
  refine lv_iconst (v := (4 : Int32)) hx hb dX8_prepare_33 (by decide) ?_
  refine lv_iload hx hb dX8_prepare_34 (lv_at hl 5 rfl) ?_
  replace hF := gd_of hF
  obtain ⟨hi9, hF⟩ := hF
  obtain ⟨ar10, ear10⟩ : ∃ y : AR, y = va_up ar8 (2) (upd (ar8 (2)) (4 : Int32).toNatClampNeg (p5)) := ⟨_, rfl⟩
  replace hF := bnd_of hF ear10
  refine cs_tready hx hb hK hP hD hS hi9 dX8_prepare_36 (fun H locs hP hS => ?_)
  rw [← ear10] at hP
  exact rC_v hx hb hr hlocks hF hP hS dX8_prepare_37
theorem cw_X8_prepare : (Cond.instanceMethod yX8_prepare ∈ TB ∧ Cond.selects RX8 yX8_prepare yX8_prepare ∈ TB ∧ Cond.code yX8_prepare cX8_prepare 6 none ∈ TB ∧ Cond.initialized RX8 ∈ TB) ∧ (yX8_prepare.cls = RX8 ∧ yX8_prepare.cls ≠ "java/lang/invoke/MethodHandle" ∧ yX8_prepare.cls ≠ "java/lang/invoke/VarHandle" ∧ (parseMethodDescriptor yX8_prepare.desc).map (fun d => d.parameters.length) = some 5) := ⟨⟨mw7_4, mw7_5, mw7_6, mw2_6⟩, by decide +kernel⟩
/-! X8_append -/
noncomputable def FX8_append_26b (K26 : Int32 → Int32 → FI → AR → Option (Int32 × FI × AR)) (nf : Nat) (ln : LN) (x1 : Int32) (x2 : Int32) (fi : FI) (ar : AR) : Option (Int32 × FI × AR) :=
  br ((x1) ≤ (x2)) (bnd (va_up fi (3) ((fi (3)) + (x1))) fun fi2 => gd (ln (2) < 2 ^ 31) (bnd (va_up ar (2) (fillN (ar (2)) (0 : Int32) (ln (2)))) fun ar4 => some ((fi2 (3)), fi2, ar4))) (gd (¬ (((x2) >>> ((2 : Int32) &&& 31)) < 0 ∨ ln (2) ≤ ((x2) >>> ((2 : Int32) &&& 31)).toNatClampNeg)) (gd (¬ (((fi (3)) + (x2)) < 0 ∨ ln (1) ≤ ((fi (3)) + (x2)).toNatClampNeg)) (bnd (va_up ar (1) (upd (ar (1)) ((fi (3)) + (x2)).toNatClampNeg (vp_nar .byte (((ar (2) ((x2) >>> ((2 : Int32) &&& 31)).toNatClampNeg) >>> (((24 : Int32) - (((x2) &&& (3 : Int32)) <<< ((3 : Int32) &&& 31))) &&& 31)).toInt8.toInt32)))) fun ar7 => bnd ((x2) + (1 : Int32)) fun x2_8 => K26 (x1) (x2_8) fi ar7)))
noncomputable def FX8_append_26 (nf : Nat) (ln : LN) (kf : Nat) : Int32 → Int32 → FI → AR → Option (Int32 × FI × AR) := Nat.rec (fun _ _ _ _ => none) (fun _ K26 => FX8_append_26b K26 nf ln) kf
noncomputable def FX8_append_22 (nf : Nat) (ln : LN)  (fi : FI) (ar : AR) : Option (Int32 × FI × AR) :=
  some ((-1 : Int32), fi, ar)
noncomputable def FX8_append (nf : Nat) (ln : LN) (fi : FI) (ar : AR) (x1 : Int32) : Option (Int32 × FI × AR) :=
  br ((x1) < 0) (FX8_append_22 nf ln  fi ar) (br ((20 : Int32) < (x1)) (FX8_append_22 nf ln  fi ar) (br (((fi (3)) + (x1)) ≤ (4096 : Int32)) (FX8_append_26 nf ln nf (x1) (0 : Int32) fi ar) (FX8_append_22 nf ln  fi ar)))
set_option maxHeartbeats 4000000 in
set_option maxRecDepth 100000 in
theorem kX8_append (l : Launch) (g : GT) (ad rd : Nat → Nat) (sz : Nat) (nf : Nat) (ln : LN) (fi : FI) (ar : AR) (p1 : Int32) (r : Int32) (fi' : FI) (ar' : AR) (hF : FX8_append nf ln fi ar p1 = some (r, fi', ar')) : Met l yX8_append (wx yX8_append cX8_append 3 (some .int)) ({ frames := 1, cells := 0, slots := 0, locals := 23 } : Room) (va_Pc [.ref (ad (3)), .int p1] (PC g ad rd ln sz fi ar)) (QCi g ad rd ln sz r fi' ar') 0 0 (AC ad rd sz) := by
  refine Met.ofW (cc := cX8_append) (maxL := 3) (ret := (some .int)) (by decide) rfl ?_
  intro p e s m args below meth c s₁ B hml hv
  obtain ⟨rfl, hsz, hP, hK, hD0, hE⟩ := hv
  have hx := B.exec
  have hb := B.bytes
  have hr := B.returns
  have hts := atoms_spec (ws := (wx yX8_append cX8_append 3 (some .int))) B.pre
  have hT : ∀ w ∈ TB, w.before _ s = true := fun w h => hts w (List.mem_cons_of_mem _ h)
  have hown : s.vm.findClass RX8 = some m.cls := findClass_of_methodNamed B.named
  have hlocks := B.notSynchronized
  subst hsz
  have hD := dC hD0 s.heap.size
  have hA : ∀ q : Nat, s.heap.size ≤ q → AC ad rd s.heap.size q := fun q h => Or.inr h
  have hS : va_S (AC ad rd s.heap.size) s.heap s.heap [] := va_S.rf
  have hl := lv_entry ([.ref (ad (3)), .int p1]) (n := 3) (Nat.le_of_ble_eq_true rfl)
  rw [lg_entry_eq]
  generalize (lg_sl ([.ref (ad (3)), .int p1]) ++ List.replicate (3 - (lg_sl ([.ref (ad (3)), .int p1])).length) Slot.unset).toArray = ls at hl ⊢
  have hl : lv_has ls 3 [(0, .ref (ad (3))), (1, .int p1)] := hl
  unfold FX8_append at hF
  have L26 : ∀ kf : Nat, ∀ (x1 : Int32) (x2 : Int32) (fi : FI) (ar : AR) (H : Heap) (locs : List Loc) (ls : Array Slot), FX8_append_26 nf ln kf x1 x2 fi ar = some (r, fi', ar') → lv_has ls 3 [(0, .ref (ad (3))), (1, .int x1), (2, .int x2)] → va_P (gD g) vwCl (WC g ad rd ln fi ar) H → va_S (AC ad rd s.heap.size) s.heap H locs → W p l e (headSpec (wx yX8_append cX8_append 3 (some .int)) ({ frames := 1, cells := 0, slots := 0, locals := 23 } : Room)).room s m ([.ref (ad (3)), .int p1] : List Value).toArray below meth c H locs 0 0 (MQ below (QCi g ad rd ln s.heap.size r fi' ar') ([.ref (ad (3)), .int p1] : List Value).toArray s 0 0 (AC ad rd s.heap.size)) (F0 m 26 ls []) := by
    intro kf
    induction kf with
    | zero => intro x1 x2 fi ar H locs ls hF hl hP hS; cases (show (none : Option (Int32 × FI × AR)) = _ from hF)
    | succ kf ih26 =>
      intro x1 x2 fi ar H locs ls hF hl hP hS
      obtain ⟨K26, hK26⟩ : ∃ K : Int32 → Int32 → FI → AR → Option (Int32 × FI × AR), K = FX8_append_26 nf ln kf := ⟨_, rfl⟩
      replace hF : FX8_append_26b K26 nf ln x1 x2 fi ar = some (r, fi', ar') := by rw [hK26]; exact hF
      rw [← hK26] at ih26
      clear hK26
      unfold FX8_append_26b at hF
      refine lv_iload_n hx hb dX8_append_26 rfl (lv_at hl 2 rfl) ?_
      refine lv_iload_n hx hb dX8_append_27 rfl (lv_at hl 1 rfl) ?_
      refine lv_icmp_ge (tgt := 66) hx hb dX8_append_28 (by decide) (fun hc1 => ?_) (fun hc1 => ?_)
      · replace hF := br_yes hF hc1
        refine lv_aload_n hx hb dX8_append_66 rfl (lv_at hl 0 rfl) ?_
        refine lv_dup hx hb dX8_append_67 rfl ?_
        refine cg_X8_length hx hb hT hown hK hP mw7_21 dX8_append_68 ?_
        refine lv_iload_n hx hb dX8_append_71 rfl (lv_at hl 1 rfl) ?_
        refine lv_iadd hx hb dX8_append_72 ?_
        obtain ⟨fi2, efi2⟩ : ∃ y : FI, y = va_up fi (3) ((fi (3)) + (x1)) := ⟨_, rfl⟩
        replace hF := bnd_of hF efi2
        refine cp_X8_length hx hb hT hown hK hP hD hS mw7_21 dX8_append_73 (fun H locs hP hS => ?_)
        rw [← efi2] at hP
        refine lv_aload_n hx hb dX8_append_76 rfl (lv_at hl 0 rfl) ?_
        refine cg_X8_ready hx hb hT hown hK hP mw3_20 dX8_append_77 ?_
        refine lv_iconst (v := (0 : Int32)) hx hb dX8_append_80 (by decide) ?_
        replace hF := gd_of hF
        obtain ⟨hn3, hF⟩ := hF
        obtain ⟨ar4, ear4⟩ : ∃ y : AR, y = va_up ar (2) (fillN (ar (2)) (0 : Int32) (ln (2))) := ⟨_, rfl⟩
        replace hF := bnd_of hF ear4
        refine cFill (rest := []) hx hb hml hT hown hK hA hP (hD _ _) hS (wa_tready) hn3 (wt_tready _) mw7_22 ⟨Nat.le_of_ble_eq_true rfl, Nat.le_of_ble_eq_true rfl⟩ hl.1 (Nat.le_of_ble_eq_true rfl) dX8_append_81 ⟨Nat.zero_le _, Nat.zero_le _⟩ (fun H locs hP hS => ?_)
        rw [← ear4] at hP
        refine lv_aload_n hx hb dX8_append_84 rfl (lv_at hl 0 rfl) ?_
        refine cg_X8_length hx hb hT hown hK hP mw7_21 dX8_append_85 ?_
        exact rC_i hx hb hr hlocks hF hP hS dX8_append_88
      · replace hF := br_no hF hc1
        refine lv_aload_n hx hb dX8_append_31 rfl (lv_at hl 0 rfl) ?_
        refine cg_X8_bytes hx hb hT hown hK hP mw3_19 dX8_append_32 ?_
        refine lv_aload_n hx hb dX8_append_35 rfl (lv_at hl 0 rfl) ?_
        refine cg_X8_length hx hb hT hown hK hP mw7_21 dX8_append_36 ?_
        refine lv_iload_n hx hb dX8_append_39 rfl (lv_at hl 2 rfl) ?_
        refine lv_iadd hx hb dX8_append_40 ?_
        refine lv_aload_n hx hb dX8_append_41 rfl (lv_at hl 0 rfl) ?_
        refine cg_X8_ready hx hb hT hown hK hP mw3_20 dX8_append_42 ?_
        refine lv_iload_n hx hb dX8_append_45 rfl (lv_at hl 2 rfl) ?_
        refine lv_iconst (v := (2 : Int32)) hx hb dX8_append_46 (by decide) ?_
        refine lv_ishr hx hb dX8_append_47 ?_
        replace hF := gd_of hF
        obtain ⟨hi5, hF⟩ := hF
        refine cl_tready hx hb hK hP hi5 dX8_append_48 ?_
        refine lv_bipush (v := (24 : Int32)) hx hb dX8_append_49 (by decide) ?_
        refine lv_iload_n hx hb dX8_append_51 rfl (lv_at hl 2 rfl) ?_
        refine lv_iconst (v := (3 : Int32)) hx hb dX8_append_52 (by decide) ?_
        refine lv_iand hx hb dX8_append_53 ?_
        refine lv_iconst (v := (3 : Int32)) hx hb dX8_append_54 (by decide) ?_
        refine lv_ishl hx hb dX8_append_55 ?_
        refine lv_isub hx hb dX8_append_56 ?_
        refine lv_ishr hx hb dX8_append_57 ?_
        refine lv_i2b hx hb dX8_append_58 rfl ?_
        replace hF := gd_of hF
        obtain ⟨hi6, hF⟩ := hF
        obtain ⟨ar7, ear7⟩ : ∃ y : AR, y = va_up ar (1) (upd (ar (1)) ((fi (3)) + (x2)).toNatClampNeg (vp_nar .byte (((ar (2) ((x2) >>> ((2 : Int32) &&& 31)).toNatClampNeg) >>> (((24 : Int32) - (((x2) &&& (3 : Int32)) <<< ((3 : Int32) &&& 31))) &&& 31)).toInt8.toInt32))) := ⟨_, rfl⟩
        replace hF := bnd_of hF ear7
        refine cs_tbytes hx hb hK hP hD hS hi6 dX8_append_59 (fun H locs hP hS => ?_)
        rw [← ear7] at hP
        obtain ⟨x2_8, ex2_8⟩ : ∃ y : Int32, y = (x2) + (1 : Int32) := ⟨_, rfl⟩
        replace hF := bnd_of hF ex2_8
        refine lv_iinc (v := x2_8) (lv' := [(2, .int (x2_8)), (0, .ref (ad (3))), (1, .int (x1))]) hx hb dX8_append_60 hl (k := 2) rfl (by rw [ex2_8]; rfl) (by decide) rfl (fun ls hl => ?_)
        refine lv_goto (tgt := 26) hx hb dX8_append_63 (by decide) ?_
        exact ih26 (x1) (x2_8) _ _ _ _ _ hF (lv_sub hl [1, 2, 0] rfl) hP hS
  have J22 : ∀  (fi : FI) (ar : AR) (H : Heap) (locs : List Loc) (ls : Array Slot), FX8_append_22 nf ln fi ar = some (r, fi', ar') → lv_has ls 3 [(0, .ref (ad (3)))] → va_P (gD g) vwCl (WC g ad rd ln fi ar) H → va_S (AC ad rd s.heap.size) s.heap H locs → W p l e (headSpec (wx yX8_append cX8_append 3 (some .int)) ({ frames := 1, cells := 0, slots := 0, locals := 23 } : Room)).room s m ([.ref (ad (3)), .int p1] : List Value).toArray below meth c H locs 0 0 (MQ below (QCi g ad rd ln s.heap.size r fi' ar') ([.ref (ad (3)), .int p1] : List Value).toArray s 0 0 (AC ad rd s.heap.size)) (F0 m 22 ls []) := by
    intro fi ar H locs ls hF hl hP hS
    unfold FX8_append_22 at hF
    refine lv_iconst (v := (-1 : Int32)) hx hb dX8_append_22 (by decide) ?_
    exact rC_i hx hb hr hlocks hF hP hS dX8_append_23
  replace hl := lv_sub hl [0, 1] rfl
  refine lv_iload_n hx hb dX8_append_0 rfl (lv_at hl 1 rfl) ?_
  refine lv_if_lt (tgt := 22) hx hb dX8_append_1 (by decide) (fun hc9 => ?_) (fun hc9 => ?_)
  · replace hF := br_yes hF hc9
    exact J22  _ _ _ _ _ hF (lv_sub hl [0] rfl) hP hS
  · replace hF := br_no hF hc9
    refine lv_iload_n hx hb dX8_append_4 rfl (lv_at hl 1 rfl) ?_
    refine lv_bipush (v := (20 : Int32)) hx hb dX8_append_5 (by decide) ?_
    refine lv_icmp_gt (tgt := 22) hx hb dX8_append_7 (by decide) (fun hc10 => ?_) (fun hc10 => ?_)
    · replace hF := br_yes hF hc10
      exact J22  _ _ _ _ _ hF (lv_sub hl [0] rfl) hP hS
    · replace hF := br_no hF hc10
      refine lv_aload_n hx hb dX8_append_10 rfl (lv_at hl 0 rfl) ?_
      refine cg_X8_length hx hb hT hown hK hP mw7_21 dX8_append_11 ?_
      refine lv_iload_n hx hb dX8_append_14 rfl (lv_at hl 1 rfl) ?_
      refine lv_iadd hx hb dX8_append_15 ?_
      refine lv_sipush (v := (4096 : Int32)) hx hb dX8_append_16 (by decide) ?_
      refine lv_icmp_le (tgt := 24) hx hb dX8_append_19 (by decide) (fun hc11 => ?_) (fun hc11 => ?_)
      · replace hF := br_yes hF hc11
        refine lv_iconst (v := (0 : Int32)) hx hb dX8_append_24 (by decide) ?_
        refine lv_istore_n (lv' := [(2, .int (0 : Int32)), (0, .ref (ad (3))), (1, .int (p1))]) hx hb dX8_append_25 rfl hl (by decide) rfl (fun ls hl => ?_)
        exact L26 nf (p1) (0 : Int32) _ _ _ _ _ hF (lv_sub hl [1, 2, 0] rfl) hP hS
      · replace hF := br_no hF hc11
        exact J22  _ _ _ _ _ hF (lv_sub hl [0] rfl) hP hS
theorem cw_X8_append : (Cond.instanceMethod yX8_append ∈ TB ∧ Cond.selects RX8 yX8_append yX8_append ∈ TB ∧ Cond.code yX8_append cX8_append 3 (some .int) ∈ TB ∧ Cond.initialized RX8 ∈ TB) ∧ (yX8_append.cls = RX8 ∧ yX8_append.cls ≠ "java/lang/invoke/MethodHandle" ∧ yX8_append.cls ≠ "java/lang/invoke/VarHandle" ∧ (parseMethodDescriptor yX8_append.desc).map (fun d => d.parameters.length) = some 1) := ⟨⟨mw7_18, mw7_19, mw7_20, mw2_6⟩, by decide +kernel⟩
/-! X8_take -/
noncomputable def FX8_take (nf : Nat) (ln : LN) (fi : FI) (ar : AR)  : Option (Int32 × FI × AR) :=
  bnd (fi (3)) fun x1_1 => bnd (va_up fi (3) (0 : Int32)) fun fi2 => some ((x1_1), fi2, ar)
set_option maxHeartbeats 4000000 in
set_option maxRecDepth 100000 in
theorem kX8_take (l : Launch) (g : GT) (ad rd : Nat → Nat) (sz : Nat) (nf : Nat) (ln : LN) (fi : FI) (ar : AR)  (r : Int32) (fi' : FI) (ar' : AR) (hF : FX8_take nf ln fi ar  = some (r, fi', ar')) : Met l yX8_take (wx yX8_take cX8_take 2 (some .int)) ({ frames := 0, cells := 0, slots := 0, locals := 0 } : Room) (va_Pc [.ref (ad (3))] (PC g ad rd ln sz fi ar)) (QCi g ad rd ln sz r fi' ar') 0 0 (AC ad rd sz) := by
  refine Met.ofW (cc := cX8_take) (maxL := 2) (ret := (some .int)) (by decide) rfl ?_
  intro p e s m args below meth c s₁ B hml hv
  obtain ⟨rfl, hsz, hP, hK, hD0, hE⟩ := hv
  have hx := B.exec
  have hb := B.bytes
  have hr := B.returns
  have hts := atoms_spec (ws := (wx yX8_take cX8_take 2 (some .int))) B.pre
  have hT : ∀ w ∈ TB, w.before _ s = true := fun w h => hts w (List.mem_cons_of_mem _ h)
  have hown : s.vm.findClass RX8 = some m.cls := findClass_of_methodNamed B.named
  have hlocks := B.notSynchronized
  subst hsz
  have hD := dC hD0 s.heap.size
  have hA : ∀ q : Nat, s.heap.size ≤ q → AC ad rd s.heap.size q := fun q h => Or.inr h
  have hS : va_S (AC ad rd s.heap.size) s.heap s.heap [] := va_S.rf
  have hl := lv_entry ([.ref (ad (3))]) (n := 2) (Nat.le_of_ble_eq_true rfl)
  rw [lg_entry_eq]
  generalize (lg_sl ([.ref (ad (3))]) ++ List.replicate (2 - (lg_sl ([.ref (ad (3))])).length) Slot.unset).toArray = ls at hl ⊢
  have hl : lv_has ls 2 [(0, .ref (ad (3)))] := hl
  unfold FX8_take at hF
  replace hl := lv_sub hl [0] rfl
  refine lv_aload_n hx hb dX8_take_0 rfl (lv_at hl 0 rfl) ?_
  refine cg_X8_length hx hb hT hown hK hP mw7_21 dX8_take_1 ?_
  obtain ⟨x1_1, ex1_1⟩ : ∃ y : Int32, y = (fi (3)) := ⟨_, rfl⟩
  rw [← ex1_1]
  replace hF := bnd_of hF ex1_1
  refine lv_istore_n (lv' := [(1, .int (x1_1)), (0, .ref (ad (3)))]) hx hb dX8_take_4 rfl hl (by decide) rfl (fun ls hl => ?_)
  refine lv_aload_n hx hb dX8_take_5 rfl (lv_at hl 1 rfl) ?_
  refine lv_iconst (v := (0 : Int32)) hx hb dX8_take_6 (by decide) ?_
  obtain ⟨fi2, efi2⟩ : ∃ y : FI, y = va_up fi (3) (0 : Int32) := ⟨_, rfl⟩
  replace hF := bnd_of hF efi2
  refine cp_X8_length hx hb hT hown hK hP hD hS mw7_21 dX8_take_7 (fun H locs hP hS => ?_)
  rw [← efi2] at hP
  refine lv_iload_n hx hb dX8_take_10 rfl (lv_at hl 0 rfl) ?_
  exact rC_i hx hb hr hlocks hF hP hS dX8_take_11
theorem cw_X8_take : (Cond.instanceMethod yX8_take ∈ TB ∧ Cond.selects RX8 yX8_take yX8_take ∈ TB ∧ Cond.code yX8_take cX8_take 2 (some .int) ∈ TB ∧ Cond.initialized RX8 ∈ TB) ∧ (yX8_take.cls = RX8 ∧ yX8_take.cls ≠ "java/lang/invoke/MethodHandle" ∧ yX8_take.cls ≠ "java/lang/invoke/VarHandle" ∧ (parseMethodDescriptor yX8_take.desc).map (fun d => d.parameters.length) = some 0) := ⟨⟨mw8_12, mw8_13, mw8_14, mw2_6⟩, by decide +kernel⟩
/-! X9_leastTable -/
noncomputable def FX9_leastTable_3b (K3 : Int32 → Int32 → Int32 → Int32 → FI → AR → Option (Int32 × FI × AR)) (nf : Nat) (ln : LN) (x1 : Int32) (x2 : Int32) (x3 : Int32) (x4 : Int32) (fi : FI) (ar : AR) : Option (Int32 × FI × AR) :=
  br ((32 : Int32) < (x4)) (some ((0 : Int32), fi, ar)) (obnd3 (FX9_tableFits nf ln fi ar (x1) (x2) (x3) (x4)) fun r5 fi3 ar4 => br ((r5) = 0) (bnd ((x4) + (1 : Int32)) fun x4_7 => K3 (x1) (x2) (x3) (x4_7) fi3 ar4) (some ((x4), fi3, ar4)))
noncomputable def FX9_leastTable_3 (nf : Nat) (ln : LN) (kf : Nat) : Int32 → Int32 → Int32 → Int32 → FI → AR → Option (Int32 × FI × AR) := Nat.rec (fun _ _ _ _ _ _ => none) (fun _ K3 => FX9_leastTable_3b K3 nf ln) kf
noncomputable def FX9_leastTable (nf : Nat) (ln : LN) (fi : FI) (ar : AR) (x1 : Int32) (x2 : Int32) (x3 : Int32) : Option (Int32 × FI × AR) :=
  FX9_leastTable_3 nf ln nf (x1) (x2) (x3) (1 : Int32) fi ar
set_option maxHeartbeats 4000000 in
set_option maxRecDepth 100000 in
theorem kX9_leastTable (l : Launch) (g : GT) (ad rd : Nat → Nat) (sz : Nat) (nf : Nat) (ln : LN) (fi : FI) (ar : AR) (p1 : Int32) (p2 : Int32) (p3 : Int32) (r : Int32) (fi' : FI) (ar' : AR) (hF : FX9_leastTable nf ln fi ar p1 p2 p3 = some (r, fi', ar')) : Met l yX9_leastTable (wx yX9_leastTable cX9_leastTable 5 (some .int)) ({ frames := 3, cells := 0, slots := 0, locals := 68 } : Room) (va_Pc [.ref (ad (6)), .int p1, .int p2, .int p3] (PC g ad rd ln sz fi ar)) (QCi g ad rd ln sz r fi' ar') 0 0 (AC ad rd sz) := by
  refine Met.ofW (cc := cX9_leastTable) (maxL := 5) (ret := (some .int)) (by decide) rfl ?_
  intro p e s m args below meth c s₁ B hml hv
  obtain ⟨rfl, hsz, hP, hK, hD0, hE⟩ := hv
  have hx := B.exec
  have hb := B.bytes
  have hr := B.returns
  have hts := atoms_spec (ws := (wx yX9_leastTable cX9_leastTable 5 (some .int))) B.pre
  have hT : ∀ w ∈ TB, w.before _ s = true := fun w h => hts w (List.mem_cons_of_mem _ h)
  have hown : s.vm.findClass RX9 = some m.cls := findClass_of_methodNamed B.named
  have hlocks := B.notSynchronized
  subst hsz
  have hD := dC hD0 s.heap.size
  have hA : ∀ q : Nat, s.heap.size ≤ q → AC ad rd s.heap.size q := fun q h => Or.inr h
  have hS : va_S (AC ad rd s.heap.size) s.heap s.heap [] := va_S.rf
  have hl := lv_entry ([.ref (ad (6)), .int p1, .int p2, .int p3]) (n := 5) (Nat.le_of_ble_eq_true rfl)
  rw [lg_entry_eq]
  generalize (lg_sl ([.ref (ad (6)), .int p1, .int p2, .int p3]) ++ List.replicate (5 - (lg_sl ([.ref (ad (6)), .int p1, .int p2, .int p3])).length) Slot.unset).toArray = ls at hl ⊢
  have hl : lv_has ls 5 [(0, .ref (ad (6))), (1, .int p1), (2, .int p2), (3, .int p3)] := hl
  unfold FX9_leastTable at hF
  have L3 : ∀ kf : Nat, ∀ (x1 : Int32) (x2 : Int32) (x3 : Int32) (x4 : Int32) (fi : FI) (ar : AR) (H : Heap) (locs : List Loc) (ls : Array Slot), FX9_leastTable_3 nf ln kf x1 x2 x3 x4 fi ar = some (r, fi', ar') → lv_has ls 5 [(0, .ref (ad (6))), (1, .int x1), (2, .int x2), (3, .int x3), (4, .int x4)] → va_P (gD g) vwCl (WC g ad rd ln fi ar) H → va_S (AC ad rd s.heap.size) s.heap H locs → W p l e (headSpec (wx yX9_leastTable cX9_leastTable 5 (some .int)) ({ frames := 3, cells := 0, slots := 0, locals := 68 } : Room)).room s m ([.ref (ad (6)), .int p1, .int p2, .int p3] : List Value).toArray below meth c H locs 0 0 (MQ below (QCi g ad rd ln s.heap.size r fi' ar') ([.ref (ad (6)), .int p1, .int p2, .int p3] : List Value).toArray s 0 0 (AC ad rd s.heap.size)) (F0 m 3 ls []) := by
    intro kf
    induction kf with
    | zero => intro x1 x2 x3 x4 fi ar H locs ls hF hl hP hS; cases (show (none : Option (Int32 × FI × AR)) = _ from hF)
    | succ kf ih3 =>
      intro x1 x2 x3 x4 fi ar H locs ls hF hl hP hS
      obtain ⟨K3, hK3⟩ : ∃ K : Int32 → Int32 → Int32 → Int32 → FI → AR → Option (Int32 × FI × AR), K = FX9_leastTable_3 nf ln kf := ⟨_, rfl⟩
      replace hF : FX9_leastTable_3b K3 nf ln x1 x2 x3 x4 fi ar = some (r, fi', ar') := by rw [hK3]; exact hF
      rw [← hK3] at ih3
      clear hK3
      unfold FX9_leastTable_3b at hF
      refine lv_iload hx hb dX9_leastTable_3 (lv_at hl 4 rfl) ?_
      refine lv_bipush (v := (32 : Int32)) hx hb dX9_leastTable_5 (by decide) ?_
      refine lv_icmp_gt (tgt := 31) hx hb dX9_leastTable_7 (by decide) (fun hc1 => ?_) (fun hc1 => ?_)
      · replace hF := br_yes hF hc1
        refine lv_iconst (v := (0 : Int32)) hx hb dX9_leastTable_31 (by decide) ?_
        exact rC_i hx hb hr hlocks hF hP hS dX9_leastTable_32
      · replace hF := br_no hF hc1
        refine lv_aload_n hx hb dX9_leastTable_10 rfl (lv_at hl 0 rfl) ?_
        refine lv_iload_n hx hb dX9_leastTable_11 rfl (lv_at hl 1 rfl) ?_
        refine lv_iload_n hx hb dX9_leastTable_12 rfl (lv_at hl 2 rfl) ?_
        refine lv_iload_n hx hb dX9_leastTable_13 rfl (lv_at hl 3 rfl) ?_
        refine lv_iload hx hb dX9_leastTable_14 (lv_at hl 4 rfl) ?_
        replace hF := obnd3_of hF
        obtain ⟨r5, fi3, ar4, h2, hF⟩ := hF
        refine cC_i (As := [.int (x1), .int (x2), .int (x3), .int (x4)]) (rest := []) hx hb hml hT hown hK hE hD hA hP hS (rcv_X9 hK hP) (kX9_tableFits l g ad rd _ nf ln fi ar (x1) (x2) (x3) (x4) r5 fi3 ar4 h2) cw_X9_tableFits mw9_11 ⟨⟨rfl, rfl⟩, Nat.le_of_ble_eq_true rfl, Nat.le_of_ble_eq_true rfl⟩ rfl hl.1 rfl (Nat.le_of_ble_eq_true rfl) dX9_leastTable_16 ⟨Nat.zero_le _, Nat.zero_le _⟩ (fun H locs hP hS => ?_)
        refine lv_if_eq (tgt := 25) hx hb dX9_leastTable_19 (by decide) (fun hc6 => ?_) (fun hc6 => ?_)
        · replace hF := br_yes hF hc6
          obtain ⟨x4_7, ex4_7⟩ : ∃ y : Int32, y = (x4) + (1 : Int32) := ⟨_, rfl⟩
          replace hF := bnd_of hF ex4_7
          refine lv_iinc (v := x4_7) (lv' := [(4, .int (x4_7)), (0, .ref (ad (6))), (1, .int (x1)), (2, .int (x2)), (3, .int (x3))]) hx hb dX9_leastTable_25 hl (k := 4) rfl (by rw [ex4_7]; rfl) (by decide) rfl (fun ls hl => ?_)
          refine lv_goto (tgt := 3) hx hb dX9_leastTable_28 (by decide) ?_
          exact ih3 (x1) (x2) (x3) (x4_7) _ _ _ _ _ hF (lv_sub hl [1, 2, 3, 4, 0] rfl) hP hS
        · replace hF := br_no hF hc6
          refine lv_iload hx hb dX9_leastTable_22 (lv_at hl 4 rfl) ?_
          exact rC_i hx hb hr hlocks hF hP hS dX9_leastTable_24
  replace hl := lv_sub hl [0, 1, 2, 3] rfl
  refine lv_iconst (v := (1 : Int32)) hx hb dX9_leastTable_0 (by decide) ?_
  refine lv_istore (lv' := [(4, .int (1 : Int32)), (0, .ref (ad (6))), (1, .int (p1)), (2, .int (p2)), (3, .int (p3))]) hx hb dX9_leastTable_1 hl (by decide) rfl (fun ls hl => ?_)
  exact L3 nf (p1) (p2) (p3) (1 : Int32) _ _ _ _ _ hF (lv_sub hl [1, 2, 3, 4, 0] rfl) hP hS
theorem cw_X9_leastTable : (Cond.instanceMethod yX9_leastTable ∈ TB ∧ Cond.selects RX9 yX9_leastTable yX9_leastTable ∈ TB ∧ Cond.code yX9_leastTable cX9_leastTable 5 (some .int) ∈ TB ∧ Cond.initialized RX9 ∈ TB) ∧ (yX9_leastTable.cls = RX9 ∧ yX9_leastTable.cls ≠ "java/lang/invoke/MethodHandle" ∧ yX9_leastTable.cls ≠ "java/lang/invoke/VarHandle" ∧ (parseMethodDescriptor yX9_leastTable.desc).map (fun d => d.parameters.length) = some 3) := ⟨⟨mw9_8, mw9_9, mw9_10, mw2_10⟩, by decide +kernel⟩
/-! X9_lay -/
noncomputable def FX9_lay (nf : Nat) (ln : LN) (fi : FI) (ar : AR) (x1 : Int32) (x2 : Int32) (x3 : Int32) (x4 : Int32) (x5 : Int32) : Option (Unit × FI × AR) :=
  obnd3 (FX3_fill nf ln fi ar (3 : Int32) (8 : Int32) (32 : Int32)) fun r4 fi2 ar3 => obnd3 (FX3_putTwo nf ln fi2 ar3 (11 : Int32) (512 : Int32)) fun r8 fi6 ar7 => obnd3 (FX3_putOne nf ln fi6 ar7 (13 : Int32) (x1)) fun r12 fi10 ar11 => obnd3 (FX3_putTwo nf ln fi10 ar11 (14 : Int32) (x2)) fun r16 fi14 ar15 => obnd3 (FX3_putOne nf ln fi14 ar15 (16 : Int32) (x3)) fun r20 fi18 ar19 => obnd3 (FX3_putFour nf ln fi18 ar19 (32 : Int32) (fi18 (2))) fun r24 fi22 ar23 => obnd3 (FX3_putFour nf ln fi22 ar23 (36 : Int32) (x4)) fun r28 fi26 ar27 => obnd3 (FX3_putFour nf ln fi26 ar27 (44 : Int32) (2 : Int32)) fun r32 fi30 ar31 => obnd3 (FX3_putTwo nf ln fi30 ar31 (48 : Int32) (1 : Int32)) fun r36 fi34 ar35 => obnd3 (FX3_putTwo nf ln fi34 ar35 (50 : Int32) (6 : Int32)) fun r40 fi38 ar39 => obnd3 (FX3_putFour nf ln fi38 ar39 (67 : Int32) (x5)) fun r44 fi42 ar43 => obnd3 (FX3_putTwo nf ln fi42 ar43 (510 : Int32) (43605 : Int32)) fun r48 fi46 ar47 => obnd3 (FX3_copySector nf ln fi46 ar47 (0 : Int32) (6 : Int32)) fun r52 fi50 ar51 => obnd3 (FX3_putFour nf ln fi50 ar51 (512 : Int32) (1096897106 : Int32)) fun r56 fi54 ar55 => obnd3 (FX3_putFour nf ln fi54 ar55 (996 : Int32) (1631679090 : Int32)) fun r60 fi58 ar59 => obnd3 (FX3_putFour nf ln fi58 ar59 (1000 : Int32) (-1 : Int32)) fun r64 fi62 ar63 => obnd3 (FX3_putFour nf ln fi62 ar63 (1004 : Int32) (-1 : Int32)) fun r68 fi66 ar67 => obnd3 (FX3_putFour nf ln fi66 ar67 (1020 : Int32) (-1437270016 : Int32)) fun r72 fi70 ar71 => obnd3 (FX9_adopt nf ln fi70 ar71 (x1) (x2) (x3) (x4) (2 : Int32)) fun r76 fi74 ar75 => obnd3 (FX9_link nf ln fi74 ar75 (0 : Int32) (268435448 : Int32)) fun r80 fi78 ar79 => obnd3 (FX9_link nf ln fi78 ar79 (1 : Int32) (268435455 : Int32)) fun r84 fi82 ar83 => obnd3 (FX9_link nf ln fi82 ar83 (2 : Int32) (268435455 : Int32)) fun r88 fi86 ar87 => some ((), fi86, ar87)
set_option maxHeartbeats 4000000 in
set_option maxRecDepth 100000 in
theorem kX9_lay (l : Launch) (g : GT) (ad rd : Nat → Nat) (sz : Nat) (nf : Nat) (ln : LN) (fi : FI) (ar : AR) (p1 : Int32) (p2 : Int32) (p3 : Int32) (p4 : Int32) (p5 : Int32) (r : Unit) (fi' : FI) (ar' : AR) (hF : FX9_lay nf ln fi ar p1 p2 p3 p4 p5 = some (r, fi', ar')) : Met l yX9_lay (wx yX9_lay cX9_lay 6 none) ({ frames := 4, cells := 0, slots := 0, locals := 92 } : Room) (va_Pc [.ref (ad (6)), .int p1, .int p2, .int p3, .int p4, .int p5] (PC g ad rd ln sz fi ar)) (QCv g ad rd ln sz r fi' ar') 0 0 (AC ad rd sz) := by
  refine Met.ofW (cc := cX9_lay) (maxL := 6) (ret := none) (by decide) rfl ?_
  intro p e s m args below meth c s₁ B hml hv
  obtain ⟨rfl, hsz, hP, hK, hD0, hE⟩ := hv
  have hx := B.exec
  have hb := B.bytes
  have hr := B.returns
  have hts := atoms_spec (ws := (wx yX9_lay cX9_lay 6 none)) B.pre
  have hT : ∀ w ∈ TB, w.before _ s = true := fun w h => hts w (List.mem_cons_of_mem _ h)
  have hown : s.vm.findClass RX9 = some m.cls := findClass_of_methodNamed B.named
  have hlocks := B.notSynchronized
  subst hsz
  have hD := dC hD0 s.heap.size
  have hA : ∀ q : Nat, s.heap.size ≤ q → AC ad rd s.heap.size q := fun q h => Or.inr h
  have hS : va_S (AC ad rd s.heap.size) s.heap s.heap [] := va_S.rf
  have hl := lv_entry ([.ref (ad (6)), .int p1, .int p2, .int p3, .int p4, .int p5]) (n := 6) (Nat.le_of_ble_eq_true rfl)
  rw [lg_entry_eq]
  generalize (lg_sl ([.ref (ad (6)), .int p1, .int p2, .int p3, .int p4, .int p5]) ++ List.replicate (6 - (lg_sl ([.ref (ad (6)), .int p1, .int p2, .int p3, .int p4, .int p5])).length) Slot.unset).toArray = ls at hl ⊢
  have hl : lv_has ls 6 [(0, .ref (ad (6))), (1, .int p1), (2, .int p2), (3, .int p3), (4, .int p4), (5, .int p5)] := hl
  unfold FX9_lay at hF
  replace hl := lv_sub hl [0, 1, 2, 3, 4, 5] rfl
  refine lv_aload_n hx hb dX9_lay_0 rfl (lv_at hl 0 rfl) ?_
  refine cg_X9_disk hx hb hT hown hK hP mw4_2 dX9_lay_1 ?_
  refine lv_iconst (v := (3 : Int32)) hx hb dX9_lay_4 (by decide) ?_
  refine lv_bipush (v := (8 : Int32)) hx hb dX9_lay_5 (by decide) ?_
  refine lv_bipush (v := (32 : Int32)) hx hb dX9_lay_7 (by decide) ?_
  replace hF := obnd3_of hF
  obtain ⟨r4, fi2, ar3, h1, hF⟩ := hF
  refine cC_v (As := [.int (3 : Int32), .int (8 : Int32), .int (32 : Int32)]) (rest := []) hx hb hml hT hown hK hE hD hA hP hS (rcv_X3 hK hP) (kX3_fill l g ad rd _ nf ln fi ar (3 : Int32) (8 : Int32) (32 : Int32) r4 fi2 ar3 h1) cw_X3_fill mw14_15 ⟨⟨rfl, rfl⟩, Nat.le_of_ble_eq_true rfl, Nat.le_of_ble_eq_true rfl⟩ rfl hl.1 rfl (Nat.le_of_ble_eq_true rfl) dX9_lay_9 ⟨Nat.zero_le _, Nat.zero_le _⟩ (fun H locs hP hS => ?_)
  refine lv_aload_n hx hb dX9_lay_12 rfl (lv_at hl 0 rfl) ?_
  refine cg_X9_disk hx hb hT hown hK hP mw4_2 dX9_lay_13 ?_
  refine lv_bipush (v := (11 : Int32)) hx hb dX9_lay_16 (by decide) ?_
  refine lv_sipush (v := (512 : Int32)) hx hb dX9_lay_18 (by decide) ?_
  replace hF := obnd3_of hF
  obtain ⟨r8, fi6, ar7, h5, hF⟩ := hF
  refine cC_v (As := [.int (11 : Int32), .int (512 : Int32)]) (rest := []) hx hb hml hT hown hK hE hD hA hP hS (rcv_X3 hK hP) (kX3_putTwo l g ad rd _ nf ln fi2 ar3 (11 : Int32) (512 : Int32) r8 fi6 ar7 h5) cw_X3_putTwo mw14_23 ⟨⟨rfl, rfl⟩, Nat.le_of_ble_eq_true rfl, Nat.le_of_ble_eq_true rfl⟩ rfl hl.1 rfl (Nat.le_of_ble_eq_true rfl) dX9_lay_21 ⟨Nat.zero_le _, Nat.zero_le _⟩ (fun H locs hP hS => ?_)
  refine lv_aload_n hx hb dX9_lay_24 rfl (lv_at hl 0 rfl) ?_
  refine cg_X9_disk hx hb hT hown hK hP mw4_2 dX9_lay_25 ?_
  refine lv_bipush (v := (13 : Int32)) hx hb dX9_lay_28 (by decide) ?_
  refine lv_iload_n hx hb dX9_lay_30 rfl (lv_at hl 1 rfl) ?_
  replace hF := obnd3_of hF
  obtain ⟨r12, fi10, ar11, h9, hF⟩ := hF
  refine cC_v (As := [.int (13 : Int32), .int (p1)]) (rest := []) hx hb hml hT hown hK hE hD hA hP hS (rcv_X3 hK hP) (kX3_putOne l g ad rd _ nf ln fi6 ar7 (13 : Int32) (p1) r12 fi10 ar11 h9) cw_X3_putOne mw15_3 ⟨⟨rfl, rfl⟩, Nat.le_of_ble_eq_true rfl, Nat.le_of_ble_eq_true rfl⟩ rfl hl.1 rfl (Nat.le_of_ble_eq_true rfl) dX9_lay_31 ⟨Nat.zero_le _, Nat.zero_le _⟩ (fun H locs hP hS => ?_)
  refine lv_aload_n hx hb dX9_lay_34 rfl (lv_at hl 0 rfl) ?_
  refine cg_X9_disk hx hb hT hown hK hP mw4_2 dX9_lay_35 ?_
  refine lv_bipush (v := (14 : Int32)) hx hb dX9_lay_38 (by decide) ?_
  refine lv_iload_n hx hb dX9_lay_40 rfl (lv_at hl 2 rfl) ?_
  replace hF := obnd3_of hF
  obtain ⟨r16, fi14, ar15, h13, hF⟩ := hF
  refine cC_v (As := [.int (14 : Int32), .int (p2)]) (rest := []) hx hb hml hT hown hK hE hD hA hP hS (rcv_X3 hK hP) (kX3_putTwo l g ad rd _ nf ln fi10 ar11 (14 : Int32) (p2) r16 fi14 ar15 h13) cw_X3_putTwo mw14_23 ⟨⟨rfl, rfl⟩, Nat.le_of_ble_eq_true rfl, Nat.le_of_ble_eq_true rfl⟩ rfl hl.1 rfl (Nat.le_of_ble_eq_true rfl) dX9_lay_41 ⟨Nat.zero_le _, Nat.zero_le _⟩ (fun H locs hP hS => ?_)
  refine lv_aload_n hx hb dX9_lay_44 rfl (lv_at hl 0 rfl) ?_
  refine cg_X9_disk hx hb hT hown hK hP mw4_2 dX9_lay_45 ?_
  refine lv_bipush (v := (16 : Int32)) hx hb dX9_lay_48 (by decide) ?_
  refine lv_iload_n hx hb dX9_lay_50 rfl (lv_at hl 3 rfl) ?_
  replace hF := obnd3_of hF
  obtain ⟨r20, fi18, ar19, h17, hF⟩ := hF
  refine cC_v (As := [.int (16 : Int32), .int (p3)]) (rest := []) hx hb hml hT hown hK hE hD hA hP hS (rcv_X3 hK hP) (kX3_putOne l g ad rd _ nf ln fi14 ar15 (16 : Int32) (p3) r20 fi18 ar19 h17) cw_X3_putOne mw15_3 ⟨⟨rfl, rfl⟩, Nat.le_of_ble_eq_true rfl, Nat.le_of_ble_eq_true rfl⟩ rfl hl.1 rfl (Nat.le_of_ble_eq_true rfl) dX9_lay_51 ⟨Nat.zero_le _, Nat.zero_le _⟩ (fun H locs hP hS => ?_)
  refine lv_aload_n hx hb dX9_lay_54 rfl (lv_at hl 0 rfl) ?_
  refine cg_X9_disk hx hb hT hown hK hP mw4_2 dX9_lay_55 ?_
  refine lv_bipush (v := (32 : Int32)) hx hb dX9_lay_58 (by decide) ?_
  refine lv_aload_n hx hb dX9_lay_60 rfl (lv_at hl 0 rfl) ?_
  refine cg_X9_disk hx hb hT hown hK hP mw4_2 dX9_lay_61 ?_
  refine cg_X3_sectors hx hb hT hown hK hP mw9_19 dX9_lay_64 ?_
  replace hF := obnd3_of hF
  obtain ⟨r24, fi22, ar23, h21, hF⟩ := hF
  refine cC_v (As := [.int (32 : Int32), .int (fi18 (2))]) (rest := []) hx hb hml hT hown hK hE hD hA hP hS (rcv_X3 hK hP) (kX3_putFour l g ad rd _ nf ln fi18 ar19 (32 : Int32) (fi18 (2)) r24 fi22 ar23 h21) cw_X3_putFour mw15_4 ⟨⟨rfl, rfl⟩, Nat.le_of_ble_eq_true rfl, Nat.le_of_ble_eq_true rfl⟩ rfl hl.1 rfl (Nat.le_of_ble_eq_true rfl) dX9_lay_67 ⟨Nat.zero_le _, Nat.zero_le _⟩ (fun H locs hP hS => ?_)
  refine lv_aload_n hx hb dX9_lay_70 rfl (lv_at hl 0 rfl) ?_
  refine cg_X9_disk hx hb hT hown hK hP mw4_2 dX9_lay_71 ?_
  refine lv_bipush (v := (36 : Int32)) hx hb dX9_lay_74 (by decide) ?_
  refine lv_iload hx hb dX9_lay_76 (lv_at hl 4 rfl) ?_
  replace hF := obnd3_of hF
  obtain ⟨r28, fi26, ar27, h25, hF⟩ := hF
  refine cC_v (As := [.int (36 : Int32), .int (p4)]) (rest := []) hx hb hml hT hown hK hE hD hA hP hS (rcv_X3 hK hP) (kX3_putFour l g ad rd _ nf ln fi22 ar23 (36 : Int32) (p4) r28 fi26 ar27 h25) cw_X3_putFour mw15_4 ⟨⟨rfl, rfl⟩, Nat.le_of_ble_eq_true rfl, Nat.le_of_ble_eq_true rfl⟩ rfl hl.1 rfl (Nat.le_of_ble_eq_true rfl) dX9_lay_78 ⟨Nat.zero_le _, Nat.zero_le _⟩ (fun H locs hP hS => ?_)
  refine lv_aload_n hx hb dX9_lay_81 rfl (lv_at hl 0 rfl) ?_
  refine cg_X9_disk hx hb hT hown hK hP mw4_2 dX9_lay_82 ?_
  refine lv_bipush (v := (44 : Int32)) hx hb dX9_lay_85 (by decide) ?_
  refine lv_iconst (v := (2 : Int32)) hx hb dX9_lay_87 (by decide) ?_
  replace hF := obnd3_of hF
  obtain ⟨r32, fi30, ar31, h29, hF⟩ := hF
  refine cC_v (As := [.int (44 : Int32), .int (2 : Int32)]) (rest := []) hx hb hml hT hown hK hE hD hA hP hS (rcv_X3 hK hP) (kX3_putFour l g ad rd _ nf ln fi26 ar27 (44 : Int32) (2 : Int32) r32 fi30 ar31 h29) cw_X3_putFour mw15_4 ⟨⟨rfl, rfl⟩, Nat.le_of_ble_eq_true rfl, Nat.le_of_ble_eq_true rfl⟩ rfl hl.1 rfl (Nat.le_of_ble_eq_true rfl) dX9_lay_88 ⟨Nat.zero_le _, Nat.zero_le _⟩ (fun H locs hP hS => ?_)
  refine lv_aload_n hx hb dX9_lay_91 rfl (lv_at hl 0 rfl) ?_
  refine cg_X9_disk hx hb hT hown hK hP mw4_2 dX9_lay_92 ?_
  refine lv_bipush (v := (48 : Int32)) hx hb dX9_lay_95 (by decide) ?_
  refine lv_iconst (v := (1 : Int32)) hx hb dX9_lay_97 (by decide) ?_
  replace hF := obnd3_of hF
  obtain ⟨r36, fi34, ar35, h33, hF⟩ := hF
  refine cC_v (As := [.int (48 : Int32), .int (1 : Int32)]) (rest := []) hx hb hml hT hown hK hE hD hA hP hS (rcv_X3 hK hP) (kX3_putTwo l g ad rd _ nf ln fi30 ar31 (48 : Int32) (1 : Int32) r36 fi34 ar35 h33) cw_X3_putTwo mw14_23 ⟨⟨rfl, rfl⟩, Nat.le_of_ble_eq_true rfl, Nat.le_of_ble_eq_true rfl⟩ rfl hl.1 rfl (Nat.le_of_ble_eq_true rfl) dX9_lay_98 ⟨Nat.zero_le _, Nat.zero_le _⟩ (fun H locs hP hS => ?_)
  refine lv_aload_n hx hb dX9_lay_101 rfl (lv_at hl 0 rfl) ?_
  refine cg_X9_disk hx hb hT hown hK hP mw4_2 dX9_lay_102 ?_
  refine lv_bipush (v := (50 : Int32)) hx hb dX9_lay_105 (by decide) ?_
  refine lv_bipush (v := (6 : Int32)) hx hb dX9_lay_107 (by decide) ?_
  replace hF := obnd3_of hF
  obtain ⟨r40, fi38, ar39, h37, hF⟩ := hF
  refine cC_v (As := [.int (50 : Int32), .int (6 : Int32)]) (rest := []) hx hb hml hT hown hK hE hD hA hP hS (rcv_X3 hK hP) (kX3_putTwo l g ad rd _ nf ln fi34 ar35 (50 : Int32) (6 : Int32) r40 fi38 ar39 h37) cw_X3_putTwo mw14_23 ⟨⟨rfl, rfl⟩, Nat.le_of_ble_eq_true rfl, Nat.le_of_ble_eq_true rfl⟩ rfl hl.1 rfl (Nat.le_of_ble_eq_true rfl) dX9_lay_109 ⟨Nat.zero_le _, Nat.zero_le _⟩ (fun H locs hP hS => ?_)
  refine lv_aload_n hx hb dX9_lay_112 rfl (lv_at hl 0 rfl) ?_
  refine cg_X9_disk hx hb hT hown hK hP mw4_2 dX9_lay_113 ?_
  refine lv_bipush (v := (67 : Int32)) hx hb dX9_lay_116 (by decide) ?_
  refine lv_iload hx hb dX9_lay_118 (lv_at hl 5 rfl) ?_
  replace hF := obnd3_of hF
  obtain ⟨r44, fi42, ar43, h41, hF⟩ := hF
  refine cC_v (As := [.int (67 : Int32), .int (p5)]) (rest := []) hx hb hml hT hown hK hE hD hA hP hS (rcv_X3 hK hP) (kX3_putFour l g ad rd _ nf ln fi38 ar39 (67 : Int32) (p5) r44 fi42 ar43 h41) cw_X3_putFour mw15_4 ⟨⟨rfl, rfl⟩, Nat.le_of_ble_eq_true rfl, Nat.le_of_ble_eq_true rfl⟩ rfl hl.1 rfl (Nat.le_of_ble_eq_true rfl) dX9_lay_120 ⟨Nat.zero_le _, Nat.zero_le _⟩ (fun H locs hP hS => ?_)
  refine lv_aload_n hx hb dX9_lay_123 rfl (lv_at hl 0 rfl) ?_
  refine cg_X9_disk hx hb hT hown hK hP mw4_2 dX9_lay_124 ?_
  refine lv_sipush (v := (510 : Int32)) hx hb dX9_lay_127 (by decide) ?_
  refine lv_ldc (v := (43605 : Int32)) hx hb hown (hT _ mw14_9) dX9_lay_130 ?_
  replace hF := obnd3_of hF
  obtain ⟨r48, fi46, ar47, h45, hF⟩ := hF
  refine cC_v (As := [.int (510 : Int32), .int (43605 : Int32)]) (rest := []) hx hb hml hT hown hK hE hD hA hP hS (rcv_X3 hK hP) (kX3_putTwo l g ad rd _ nf ln fi42 ar43 (510 : Int32) (43605 : Int32) r48 fi46 ar47 h45) cw_X3_putTwo mw14_23 ⟨⟨rfl, rfl⟩, Nat.le_of_ble_eq_true rfl, Nat.le_of_ble_eq_true rfl⟩ rfl hl.1 rfl (Nat.le_of_ble_eq_true rfl) dX9_lay_132 ⟨Nat.zero_le _, Nat.zero_le _⟩ (fun H locs hP hS => ?_)
  refine lv_aload_n hx hb dX9_lay_135 rfl (lv_at hl 0 rfl) ?_
  refine cg_X9_disk hx hb hT hown hK hP mw4_2 dX9_lay_136 ?_
  refine lv_iconst (v := (0 : Int32)) hx hb dX9_lay_139 (by decide) ?_
  refine lv_bipush (v := (6 : Int32)) hx hb dX9_lay_140 (by decide) ?_
  replace hF := obnd3_of hF
  obtain ⟨r52, fi50, ar51, h49, hF⟩ := hF
  refine cC_v (As := [.int (0 : Int32), .int (6 : Int32)]) (rest := []) hx hb hml hT hown hK hE hD hA hP hS (rcv_X3 hK hP) (kX3_copySector l g ad rd _ nf ln fi46 ar47 (0 : Int32) (6 : Int32) r52 fi50 ar51 h49) cw_X3_copySector mw15_9 ⟨⟨rfl, rfl⟩, Nat.le_of_ble_eq_true rfl, Nat.le_of_ble_eq_true rfl⟩ rfl hl.1 rfl (Nat.le_of_ble_eq_true rfl) dX9_lay_142 ⟨Nat.zero_le _, Nat.zero_le _⟩ (fun H locs hP hS => ?_)
  refine lv_aload_n hx hb dX9_lay_145 rfl (lv_at hl 0 rfl) ?_
  refine cg_X9_disk hx hb hT hown hK hP mw4_2 dX9_lay_146 ?_
  refine lv_sipush (v := (512 : Int32)) hx hb dX9_lay_149 (by decide) ?_
  refine lv_ldc (v := (1096897106 : Int32)) hx hb hown (hT _ mw14_10) dX9_lay_152 ?_
  replace hF := obnd3_of hF
  obtain ⟨r56, fi54, ar55, h53, hF⟩ := hF
  refine cC_v (As := [.int (512 : Int32), .int (1096897106 : Int32)]) (rest := []) hx hb hml hT hown hK hE hD hA hP hS (rcv_X3 hK hP) (kX3_putFour l g ad rd _ nf ln fi50 ar51 (512 : Int32) (1096897106 : Int32) r56 fi54 ar55 h53) cw_X3_putFour mw15_4 ⟨⟨rfl, rfl⟩, Nat.le_of_ble_eq_true rfl, Nat.le_of_ble_eq_true rfl⟩ rfl hl.1 rfl (Nat.le_of_ble_eq_true rfl) dX9_lay_154 ⟨Nat.zero_le _, Nat.zero_le _⟩ (fun H locs hP hS => ?_)
  refine lv_aload_n hx hb dX9_lay_157 rfl (lv_at hl 0 rfl) ?_
  refine cg_X9_disk hx hb hT hown hK hP mw4_2 dX9_lay_158 ?_
  refine lv_sipush (v := (996 : Int32)) hx hb dX9_lay_161 (by decide) ?_
  refine lv_ldc (v := (1631679090 : Int32)) hx hb hown (hT _ mw14_11) dX9_lay_164 ?_
  replace hF := obnd3_of hF
  obtain ⟨r60, fi58, ar59, h57, hF⟩ := hF
  refine cC_v (As := [.int (996 : Int32), .int (1631679090 : Int32)]) (rest := []) hx hb hml hT hown hK hE hD hA hP hS (rcv_X3 hK hP) (kX3_putFour l g ad rd _ nf ln fi54 ar55 (996 : Int32) (1631679090 : Int32) r60 fi58 ar59 h57) cw_X3_putFour mw15_4 ⟨⟨rfl, rfl⟩, Nat.le_of_ble_eq_true rfl, Nat.le_of_ble_eq_true rfl⟩ rfl hl.1 rfl (Nat.le_of_ble_eq_true rfl) dX9_lay_166 ⟨Nat.zero_le _, Nat.zero_le _⟩ (fun H locs hP hS => ?_)
  refine lv_aload_n hx hb dX9_lay_169 rfl (lv_at hl 0 rfl) ?_
  refine cg_X9_disk hx hb hT hown hK hP mw4_2 dX9_lay_170 ?_
  refine lv_sipush (v := (1000 : Int32)) hx hb dX9_lay_173 (by decide) ?_
  refine lv_iconst (v := (-1 : Int32)) hx hb dX9_lay_176 (by decide) ?_
  replace hF := obnd3_of hF
  obtain ⟨r64, fi62, ar63, h61, hF⟩ := hF
  refine cC_v (As := [.int (1000 : Int32), .int (-1 : Int32)]) (rest := []) hx hb hml hT hown hK hE hD hA hP hS (rcv_X3 hK hP) (kX3_putFour l g ad rd _ nf ln fi58 ar59 (1000 : Int32) (-1 : Int32) r64 fi62 ar63 h61) cw_X3_putFour mw15_4 ⟨⟨rfl, rfl⟩, Nat.le_of_ble_eq_true rfl, Nat.le_of_ble_eq_true rfl⟩ rfl hl.1 rfl (Nat.le_of_ble_eq_true rfl) dX9_lay_177 ⟨Nat.zero_le _, Nat.zero_le _⟩ (fun H locs hP hS => ?_)
  refine lv_aload_n hx hb dX9_lay_180 rfl (lv_at hl 0 rfl) ?_
  refine cg_X9_disk hx hb hT hown hK hP mw4_2 dX9_lay_181 ?_
  refine lv_sipush (v := (1004 : Int32)) hx hb dX9_lay_184 (by decide) ?_
  refine lv_iconst (v := (-1 : Int32)) hx hb dX9_lay_187 (by decide) ?_
  replace hF := obnd3_of hF
  obtain ⟨r68, fi66, ar67, h65, hF⟩ := hF
  refine cC_v (As := [.int (1004 : Int32), .int (-1 : Int32)]) (rest := []) hx hb hml hT hown hK hE hD hA hP hS (rcv_X3 hK hP) (kX3_putFour l g ad rd _ nf ln fi62 ar63 (1004 : Int32) (-1 : Int32) r68 fi66 ar67 h65) cw_X3_putFour mw15_4 ⟨⟨rfl, rfl⟩, Nat.le_of_ble_eq_true rfl, Nat.le_of_ble_eq_true rfl⟩ rfl hl.1 rfl (Nat.le_of_ble_eq_true rfl) dX9_lay_188 ⟨Nat.zero_le _, Nat.zero_le _⟩ (fun H locs hP hS => ?_)
  refine lv_aload_n hx hb dX9_lay_191 rfl (lv_at hl 0 rfl) ?_
  refine cg_X9_disk hx hb hT hown hK hP mw4_2 dX9_lay_192 ?_
  refine lv_sipush (v := (1020 : Int32)) hx hb dX9_lay_195 (by decide) ?_
  refine lv_ldc (v := (-1437270016 : Int32)) hx hb hown (hT _ mw14_12) dX9_lay_198 ?_
  replace hF := obnd3_of hF
  obtain ⟨r72, fi70, ar71, h69, hF⟩ := hF
  refine cC_v (As := [.int (1020 : Int32), .int (-1437270016 : Int32)]) (rest := []) hx hb hml hT hown hK hE hD hA hP hS (rcv_X3 hK hP) (kX3_putFour l g ad rd _ nf ln fi66 ar67 (1020 : Int32) (-1437270016 : Int32) r72 fi70 ar71 h69) cw_X3_putFour mw15_4 ⟨⟨rfl, rfl⟩, Nat.le_of_ble_eq_true rfl, Nat.le_of_ble_eq_true rfl⟩ rfl hl.1 rfl (Nat.le_of_ble_eq_true rfl) dX9_lay_200 ⟨Nat.zero_le _, Nat.zero_le _⟩ (fun H locs hP hS => ?_)
  refine lv_aload_n hx hb dX9_lay_203 rfl (lv_at hl 0 rfl) ?_
  refine lv_iload_n hx hb dX9_lay_204 rfl (lv_at hl 1 rfl) ?_
  refine lv_iload_n hx hb dX9_lay_205 rfl (lv_at hl 2 rfl) ?_
  refine lv_iload_n hx hb dX9_lay_206 rfl (lv_at hl 3 rfl) ?_
  refine lv_iload hx hb dX9_lay_207 (lv_at hl 4 rfl) ?_
  refine lv_iconst (v := (2 : Int32)) hx hb dX9_lay_209 (by decide) ?_
  replace hF := obnd3_of hF
  obtain ⟨r76, fi74, ar75, h73, hF⟩ := hF
  refine cC_v (As := [.int (p1), .int (p2), .int (p3), .int (p4), .int (2 : Int32)]) (rest := []) hx hb hml hT hown hK hE hD hA hP hS (rcv_X9 hK hP) (kX9_adopt l g ad rd _ nf ln fi70 ar71 (p1) (p2) (p3) (p4) (2 : Int32) r76 fi74 ar75 h73) cw_X9_adopt mw15_17 ⟨⟨rfl, rfl⟩, Nat.le_of_ble_eq_true rfl, Nat.le_of_ble_eq_true rfl⟩ rfl hl.1 rfl (Nat.le_of_ble_eq_true rfl) dX9_lay_210 ⟨Nat.zero_le _, Nat.zero_le _⟩ (fun H locs hP hS => ?_)
  refine lv_aload_n hx hb dX9_lay_213 rfl (lv_at hl 0 rfl) ?_
  refine lv_iconst (v := (0 : Int32)) hx hb dX9_lay_214 (by decide) ?_
  refine lv_ldc (v := (268435448 : Int32)) hx hb hown (hT _ mw14_13) dX9_lay_215 ?_
  replace hF := obnd3_of hF
  obtain ⟨r80, fi78, ar79, h77, hF⟩ := hF
  refine cC_v (As := [.int (0 : Int32), .int (268435448 : Int32)]) (rest := []) hx hb hml hT hown hK hE hD hA hP hS (rcv_X9 hK hP) (kX9_link l g ad rd _ nf ln fi74 ar75 (0 : Int32) (268435448 : Int32) r80 fi78 ar79 h77) cw_X9_link mw16_3 ⟨⟨rfl, rfl⟩, Nat.le_of_ble_eq_true rfl, Nat.le_of_ble_eq_true rfl⟩ rfl hl.1 rfl (Nat.le_of_ble_eq_true rfl) dX9_lay_217 ⟨Nat.zero_le _, Nat.zero_le _⟩ (fun H locs hP hS => ?_)
  refine lv_aload_n hx hb dX9_lay_220 rfl (lv_at hl 0 rfl) ?_
  refine lv_iconst (v := (1 : Int32)) hx hb dX9_lay_221 (by decide) ?_
  refine lv_ldc (v := (268435455 : Int32)) hx hb hown (hT _ mw14_14) dX9_lay_222 ?_
  replace hF := obnd3_of hF
  obtain ⟨r84, fi82, ar83, h81, hF⟩ := hF
  refine cC_v (As := [.int (1 : Int32), .int (268435455 : Int32)]) (rest := []) hx hb hml hT hown hK hE hD hA hP hS (rcv_X9 hK hP) (kX9_link l g ad rd _ nf ln fi78 ar79 (1 : Int32) (268435455 : Int32) r84 fi82 ar83 h81) cw_X9_link mw16_3 ⟨⟨rfl, rfl⟩, Nat.le_of_ble_eq_true rfl, Nat.le_of_ble_eq_true rfl⟩ rfl hl.1 rfl (Nat.le_of_ble_eq_true rfl) dX9_lay_224 ⟨Nat.zero_le _, Nat.zero_le _⟩ (fun H locs hP hS => ?_)
  refine lv_aload_n hx hb dX9_lay_227 rfl (lv_at hl 0 rfl) ?_
  refine lv_iconst (v := (2 : Int32)) hx hb dX9_lay_228 (by decide) ?_
  refine lv_ldc (v := (268435455 : Int32)) hx hb hown (hT _ mw14_14) dX9_lay_229 ?_
  replace hF := obnd3_of hF
  obtain ⟨r88, fi86, ar87, h85, hF⟩ := hF
  refine cC_v (As := [.int (2 : Int32), .int (268435455 : Int32)]) (rest := []) hx hb hml hT hown hK hE hD hA hP hS (rcv_X9 hK hP) (kX9_link l g ad rd _ nf ln fi82 ar83 (2 : Int32) (268435455 : Int32) r88 fi86 ar87 h85) cw_X9_link mw16_3 ⟨⟨rfl, rfl⟩, Nat.le_of_ble_eq_true rfl, Nat.le_of_ble_eq_true rfl⟩ rfl hl.1 rfl (Nat.le_of_ble_eq_true rfl) dX9_lay_231 ⟨Nat.zero_le _, Nat.zero_le _⟩ (fun H locs hP hS => ?_)
  exact rC_v hx hb hr hlocks hF hP hS dX9_lay_234
theorem cw_X9_lay : (Cond.instanceMethod yX9_lay ∈ TB ∧ Cond.selects RX9 yX9_lay yX9_lay ∈ TB ∧ Cond.code yX9_lay cX9_lay 6 none ∈ TB ∧ Cond.initialized RX9 ∈ TB) ∧ (yX9_lay.cls = RX9 ∧ yX9_lay.cls ≠ "java/lang/invoke/MethodHandle" ∧ yX9_lay.cls ≠ "java/lang/invoke/VarHandle" ∧ (parseMethodDescriptor yX9_lay.desc).map (fun d => d.parameters.length) = some 5) := ⟨⟨mw14_6, mw14_7, mw14_8, mw2_10⟩, by decide +kernel⟩
/-! X9_inUse -/
noncomputable def FX9_inUse_45 (nf : Nat) (ln : LN) (t0 : Int32) (fi : FI) (ar : AR) : Option (Int32 × FI × AR) :=
  gd ((t0) &&& 1 = (t0)) (some ((t0), fi, ar))
noncomputable def FX9_inUse_44 (nf : Nat) (ln : LN)  (fi : FI) (ar : AR) : Option (Int32 × FI × AR) :=
  FX9_inUse_45 nf ln  (0 : Int32) fi ar
noncomputable def FX9_inUse (nf : Nat) (ln : LN) (fi : FI) (ar : AR) (x1 : Int32) : Option (Int32 × FI × AR) :=
  br ((fi (10)) ≤ (x1)) (bnd ((((x1) - (fi (10))) >>> ((fi (6)) &&& 31)) + (2 : Int32)) fun x2_3 => obnd3 (FX9_isCluster nf ln fi ar (x2_3)) fun r7 fi5 ar6 => br ((r7) = 0) (FX9_inUse_44 nf ln  fi5 ar6) (obnd3 (FX9_next nf ln fi5 ar6 (x2_3)) fun r12 fi10 ar11 => br ((r12) = 0) (FX9_inUse_44 nf ln  fi10 ar11) (FX9_inUse_45 nf ln  (1 : Int32) fi10 ar11))) (some ((1 : Int32), fi, ar))
set_option maxHeartbeats 4000000 in
set_option maxRecDepth 100000 in
theorem kX9_inUse (l : Launch) (g : GT) (ad rd : Nat → Nat) (sz : Nat) (nf : Nat) (ln : LN) (fi : FI) (ar : AR) (p1 : Int32) (r : Int32) (fi' : FI) (ar' : AR) (hF : FX9_inUse nf ln fi ar p1 = some (r, fi', ar')) : Met l yX9_inUse (wx yX9_inUse cX9_inUse 3 (some .boolean)) ({ frames := 2, cells := 0, slots := 0, locals := 43 } : Room) (va_Pc [.ref (ad (6)), .int p1] (PC g ad rd ln sz fi ar)) (QCi g ad rd ln sz r fi' ar') 0 0 (AC ad rd sz) := by
  refine Met.ofW (cc := cX9_inUse) (maxL := 3) (ret := (some .boolean)) (by decide) rfl ?_
  intro p e s m args below meth c s₁ B hml hv
  obtain ⟨rfl, hsz, hP, hK, hD0, hE⟩ := hv
  have hx := B.exec
  have hb := B.bytes
  have hr := B.returns
  have hts := atoms_spec (ws := (wx yX9_inUse cX9_inUse 3 (some .boolean))) B.pre
  have hT : ∀ w ∈ TB, w.before _ s = true := fun w h => hts w (List.mem_cons_of_mem _ h)
  have hown : s.vm.findClass RX9 = some m.cls := findClass_of_methodNamed B.named
  have hlocks := B.notSynchronized
  subst hsz
  have hD := dC hD0 s.heap.size
  have hA : ∀ q : Nat, s.heap.size ≤ q → AC ad rd s.heap.size q := fun q h => Or.inr h
  have hS : va_S (AC ad rd s.heap.size) s.heap s.heap [] := va_S.rf
  have hl := lv_entry ([.ref (ad (6)), .int p1]) (n := 3) (Nat.le_of_ble_eq_true rfl)
  rw [lg_entry_eq]
  generalize (lg_sl ([.ref (ad (6)), .int p1]) ++ List.replicate (3 - (lg_sl ([.ref (ad (6)), .int p1])).length) Slot.unset).toArray = ls at hl ⊢
  have hl : lv_has ls 3 [(0, .ref (ad (6))), (1, .int p1)] := hl
  unfold FX9_inUse at hF
  have J45 : ∀ (t0 : Int32) (fi : FI) (ar : AR) (H : Heap) (locs : List Loc) (ls : Array Slot), FX9_inUse_45 nf ln t0 fi ar = some (r, fi', ar') → lv_has ls 3 [(0, .ref (ad (6)))] → va_P (gD g) vwCl (WC g ad rd ln fi ar) H → va_S (AC ad rd s.heap.size) s.heap H locs → W p l e (headSpec (wx yX9_inUse cX9_inUse 3 (some .boolean)) ({ frames := 2, cells := 0, slots := 0, locals := 43 } : Room)).room s m ([.ref (ad (6)), .int p1] : List Value).toArray below meth c H locs 0 0 (MQ below (QCi g ad rd ln s.heap.size r fi' ar') ([.ref (ad (6)), .int p1] : List Value).toArray s 0 0 (AC ad rd s.heap.size)) (F0 m 45 ls [.int t0]) := by
    intro t0 fi ar H locs ls hF hl hP hS
    unfold FX9_inUse_45 at hF
    replace hF := gd_of hF
    obtain ⟨hz1, hF⟩ := hF
    exact rC_z hx hb hr hlocks (nar_z hz1) hF hP hS dX9_inUse_45
  have J44 : ∀  (fi : FI) (ar : AR) (H : Heap) (locs : List Loc) (ls : Array Slot), FX9_inUse_44 nf ln fi ar = some (r, fi', ar') → lv_has ls 3 [(0, .ref (ad (6)))] → va_P (gD g) vwCl (WC g ad rd ln fi ar) H → va_S (AC ad rd s.heap.size) s.heap H locs → W p l e (headSpec (wx yX9_inUse cX9_inUse 3 (some .boolean)) ({ frames := 2, cells := 0, slots := 0, locals := 43 } : Room)).room s m ([.ref (ad (6)), .int p1] : List Value).toArray below meth c H locs 0 0 (MQ below (QCi g ad rd ln s.heap.size r fi' ar') ([.ref (ad (6)), .int p1] : List Value).toArray s 0 0 (AC ad rd s.heap.size)) (F0 m 44 ls []) := by
    intro fi ar H locs ls hF hl hP hS
    unfold FX9_inUse_44 at hF
    refine lv_iconst (v := (0 : Int32)) hx hb dX9_inUse_44 (by decide) ?_
    exact J45 (0 : Int32) _ _ _ _ _ hF (lv_sub hl [0] rfl) hP hS
  replace hl := lv_sub hl [0, 1] rfl
  refine lv_iload_n hx hb dX9_inUse_0 rfl (lv_at hl 1 rfl) ?_
  refine lv_aload_n hx hb dX9_inUse_1 rfl (lv_at hl 0 rfl) ?_
  refine cg_X9_start hx hb hT hown hK hP mw16_0 dX9_inUse_2 ?_
  refine lv_icmp_ge (tgt := 10) hx hb dX9_inUse_5 (by decide) (fun hc2 => ?_) (fun hc2 => ?_)
  · replace hF := br_yes hF hc2
    refine lv_iload_n hx hb dX9_inUse_10 rfl (lv_at hl 1 rfl) ?_
    refine lv_aload_n hx hb dX9_inUse_11 rfl (lv_at hl 0 rfl) ?_
    refine cg_X9_start hx hb hT hown hK hP mw16_0 dX9_inUse_12 ?_
    refine lv_isub hx hb dX9_inUse_15 ?_
    refine lv_aload_n hx hb dX9_inUse_16 rfl (lv_at hl 0 rfl) ?_
    refine cg_X9_shift hx hb hT hown hK hP mw4_1 dX9_inUse_17 ?_
    refine lv_ishr hx hb dX9_inUse_20 ?_
    refine lv_iconst (v := (2 : Int32)) hx hb dX9_inUse_21 (by decide) ?_
    refine lv_iadd hx hb dX9_inUse_22 ?_
    obtain ⟨x2_3, ex2_3⟩ : ∃ y : Int32, y = ((((p1) - (fi (10))) >>> ((fi (6)) &&& 31)) + (2 : Int32)) := ⟨_, rfl⟩
    rw [← ex2_3]
    replace hF := bnd_of hF ex2_3
    refine lv_istore_n (lv' := [(2, .int (x2_3)), (0, .ref (ad (6))), (1, .int (p1))]) hx hb dX9_inUse_23 rfl hl (by decide) rfl (fun ls hl => ?_)
    refine lv_aload_n hx hb dX9_inUse_24 rfl (lv_at hl 1 rfl) ?_
    refine lv_iload_n hx hb dX9_inUse_25 rfl (lv_at hl 0 rfl) ?_
    replace hF := obnd3_of hF
    obtain ⟨r7, fi5, ar6, h4, hF⟩ := hF
    refine cC_i (As := [.int (x2_3)]) (rest := []) hx hb hml hT hown hK hE hD hA hP hS (rcv_X9 hK hP) (kX9_isCluster l g ad rd _ nf ln fi ar (x2_3) r7 fi5 ar6 h4) cw_X9_isCluster mw22_15 ⟨⟨rfl, rfl⟩, Nat.le_of_ble_eq_true rfl, Nat.le_of_ble_eq_true rfl⟩ rfl hl.1 rfl (Nat.le_of_ble_eq_true rfl) dX9_inUse_26 ⟨Nat.zero_le _, Nat.zero_le _⟩ (fun H locs hP hS => ?_)
    refine lv_if_eq (tgt := 44) hx hb dX9_inUse_29 (by decide) (fun hc8 => ?_) (fun hc8 => ?_)
    · replace hF := br_yes hF hc8
      exact J44  _ _ _ _ _ hF (lv_sub hl [1] rfl) hP hS
    · replace hF := br_no hF hc8
      refine lv_aload_n hx hb dX9_inUse_32 rfl (lv_at hl 1 rfl) ?_
      refine lv_iload_n hx hb dX9_inUse_33 rfl (lv_at hl 0 rfl) ?_
      replace hF := obnd3_of hF
      obtain ⟨r12, fi10, ar11, h9, hF⟩ := hF
      refine cC_i (As := [.int (x2_3)]) (rest := []) hx hb hml hT hown hK hE hD hA hP hS (rcv_X9 hK hP) (kX9_next l g ad rd _ nf ln fi5 ar6 (x2_3) r12 fi10 ar11 h9) cw_X9_next mw22_11 ⟨⟨rfl, rfl⟩, Nat.le_of_ble_eq_true rfl, Nat.le_of_ble_eq_true rfl⟩ rfl hl.1 rfl (Nat.le_of_ble_eq_true rfl) dX9_inUse_34 ⟨Nat.zero_le _, Nat.zero_le _⟩ (fun H locs hP hS => ?_)
      refine lv_if_eq (tgt := 44) hx hb dX9_inUse_37 (by decide) (fun hc13 => ?_) (fun hc13 => ?_)
      · replace hF := br_yes hF hc13
        exact J44  _ _ _ _ _ hF (lv_sub hl [1] rfl) hP hS
      · replace hF := br_no hF hc13
        refine lv_iconst (v := (1 : Int32)) hx hb dX9_inUse_40 (by decide) ?_
        refine lv_goto (tgt := 45) hx hb dX9_inUse_41 (by decide) ?_
        exact J45 (1 : Int32) _ _ _ _ _ hF (lv_sub hl [1] rfl) hP hS
  · replace hF := br_no hF hc2
    refine lv_iconst (v := (1 : Int32)) hx hb dX9_inUse_8 (by decide) ?_
    exact rC_z hx hb hr hlocks rfl hF hP hS dX9_inUse_9
theorem cw_X9_inUse : (Cond.instanceMethod yX9_inUse ∈ TB ∧ Cond.selects RX9 yX9_inUse yX9_inUse ∈ TB ∧ Cond.code yX9_inUse cX9_inUse 3 (some .boolean) ∈ TB ∧ Cond.initialized RX9 ∈ TB) ∧ (yX9_inUse.cls = RX9 ∧ yX9_inUse.cls ≠ "java/lang/invoke/MethodHandle" ∧ yX9_inUse.cls ≠ "java/lang/invoke/VarHandle" ∧ (parseMethodDescriptor yX9_inUse.desc).map (fun d => d.parameters.length) = some 1) := ⟨⟨mw36_7, mw36_8, mw36_9, mw2_10⟩, by decide +kernel⟩
