/-! X3_two -/
noncomputable def FX3_two_79 (nf : Nat) (ln : LN) (t0 : Int32) (fi : FI) (ar : AR) : Option (Int32 × FI × AR) :=
  some (((t0) &&& (65535 : Int32)), fi, ar)
noncomputable def FX3_two_55 (nf : Nat) (ln : LN) (x2 : Int32) (x3 : Int32) (t0 : Int32) (fi : FI) (ar : AR) : Option (Int32 × FI × AR) :=
  br ((t0) = 0) (FX3_two_79 nf ln  (x3) fi ar) (gd (¬ (((x2) + (1 : Int32)) < 0 ∨ ln (0) ≤ ((x2) + (1 : Int32)).toNatClampNeg)) (FX3_two_79 nf ln  ((x3) ||| ((ar (0) ((x2) + (1 : Int32)).toNatClampNeg) <<< ((8 : Int32) &&& 31))) fi ar))
noncomputable def FX3_two_54 (nf : Nat) (ln : LN) (x2 : Int32) (x3 : Int32) (fi : FI) (ar : AR) : Option (Int32 × FI × AR) :=
  FX3_two_55 nf ln  (x2) (x3) (0 : Int32) fi ar
noncomputable def FX3_two_17 (nf : Nat) (ln : LN)  (fi : FI) (ar : AR) : Option (Int32 × FI × AR) :=
  some ((0 : Int32), fi, ar)
noncomputable def FX3_two (nf : Nat) (ln : LN) (fi : FI) (ar : AR) (x1 : Int32) : Option (Int32 × FI × AR) :=
  bnd ((x1) >>> ((2 : Int32) &&& 31)) fun x2_3 => br ((x2_3) < 0) (FX3_two_17 nf ln  fi ar) (br ((x2_3) < (Int32.ofNat (ln (0)))) (gd (¬ ((x2_3) < 0 ∨ ln (0) ≤ (x2_3).toNatClampNeg)) (bnd ((((ar (0) (x2_3).toNatClampNeg) : Int32).toUInt32 >>> ((((x1) &&& (3)) <<< ((3) &&& 31) : Int32).toUInt32 &&& Int32.toUInt32 31)).toInt32) fun x3_7 => br (((x1) &&& (3 : Int32)) = (3 : Int32)) (br ((Int32.ofNat (ln (0))) ≤ ((x2_3) + (1 : Int32))) (FX3_two_54 nf ln  (x2_3) (x3_7) fi ar) (FX3_two_55 nf ln  (x2_3) (x3_7) (1 : Int32) fi ar)) (FX3_two_54 nf ln  (x2_3) (x3_7) fi ar))) (FX3_two_17 nf ln  fi ar))
set_option maxHeartbeats 4000000 in
set_option maxRecDepth 100000 in
theorem kX3_two (l : Launch) (g : GT) (ad rd : Nat → Nat) (sz : Nat) (nf : Nat) (ln : LN) (fi : FI) (ar : AR) (p1 : Int32) (r : Int32) (fi' : FI) (ar' : AR) (hF : FX3_two nf ln fi ar p1 = some (r, fi', ar')) : Met l yX3_two (wx yX3_two cX3_two 5 (some .int)) ({ frames := 0, cells := 0, slots := 0, locals := 0 } : Room) (va_Pc [.ref (ad (1)), .int p1] (PC g ad rd ln sz fi ar)) (QCi g ad rd ln sz r fi' ar') 0 0 (AC ad rd sz) := by
  refine Met.ofW (cc := cX3_two) (maxL := 5) (ret := (some .int)) (by decide) rfl ?_
  intro p e s m args below meth c s₁ B hml hv
  obtain ⟨rfl, hsz, hP, hK, hD0, hE⟩ := hv
  have hx := B.exec
  have hb := B.bytes
  have hr := B.returns
  have hts := atoms_spec (ws := (wx yX3_two cX3_two 5 (some .int))) B.pre
  have hT : ∀ w ∈ TB, w.before _ s = true := fun w h => hts w (List.mem_cons_of_mem _ h)
  have hown : s.vm.findClass RX3 = some m.cls := findClass_of_methodNamed B.named
  have hlocks := B.notSynchronized
  subst hsz
  have hD := dC hD0 s.heap.size
  have hA : ∀ q : Nat, s.heap.size ≤ q → AC ad rd s.heap.size q := fun q h => Or.inr h
  have hS : va_S (AC ad rd s.heap.size) s.heap s.heap [] := va_S.rf
  have hl := lv_entry ([.ref (ad (1)), .int p1]) (n := 5) (Nat.le_of_ble_eq_true rfl)
  rw [lg_entry_eq]
  generalize (lg_sl ([.ref (ad (1)), .int p1]) ++ List.replicate (5 - (lg_sl ([.ref (ad (1)), .int p1])).length) Slot.unset).toArray = ls at hl ⊢
  have hl : lv_has ls 5 [(0, .ref (ad (1))), (1, .int p1)] := hl
  unfold FX3_two at hF
  have J79 : ∀ (t0 : Int32) (fi : FI) (ar : AR) (H : Heap) (locs : List Loc) (ls : Array Slot), FX3_two_79 nf ln t0 fi ar = some (r, fi', ar') → lv_has ls 5 [(0, .ref (ad (1)))] → va_P (gD g) vwCl (WC g ad rd ln fi ar) H → va_S (AC ad rd s.heap.size) s.heap H locs → W p l e (headSpec (wx yX3_two cX3_two 5 (some .int)) ({ frames := 0, cells := 0, slots := 0, locals := 0 } : Room)).room s m ([.ref (ad (1)), .int p1] : List Value).toArray below meth c H locs 0 0 (MQ below (QCi g ad rd ln s.heap.size r fi' ar') ([.ref (ad (1)), .int p1] : List Value).toArray s 0 0 (AC ad rd s.heap.size)) (F0 m 79 ls [.int t0]) := by
    intro t0 fi ar H locs ls hF hl hP hS
    unfold FX3_two_79 at hF
    refine lv_ldc (v := (65535 : Int32)) hx hb hown (hT _ mw22_5) dX3_two_79 ?_
    refine lv_iand hx hb dX3_two_81 ?_
    exact rC_i hx hb hr hlocks hF hP hS dX3_two_82
  have J55 : ∀ (x2 : Int32) (x3 : Int32) (t0 : Int32) (fi : FI) (ar : AR) (H : Heap) (locs : List Loc) (ls : Array Slot), FX3_two_55 nf ln x2 x3 t0 fi ar = some (r, fi', ar') → lv_has ls 5 [(0, .ref (ad (1))), (2, .int x2), (3, .int x3)] → va_P (gD g) vwCl (WC g ad rd ln fi ar) H → va_S (AC ad rd s.heap.size) s.heap H locs → W p l e (headSpec (wx yX3_two cX3_two 5 (some .int)) ({ frames := 0, cells := 0, slots := 0, locals := 0 } : Room)).room s m ([.ref (ad (1)), .int p1] : List Value).toArray below meth c H locs 0 0 (MQ below (QCi g ad rd ln s.heap.size r fi' ar') ([.ref (ad (1)), .int p1] : List Value).toArray s 0 0 (AC ad rd s.heap.size)) (F0 m 55 ls [.int t0]) := by
    intro x2 x3 t0 fi ar H locs ls hF hl hP hS
    unfold FX3_two_55 at hF
    refine lv_istore (lv' := [(4, .int (t0)), (0, .ref (ad (1))), (2, .int (x2)), (3, .int (x3))]) hx hb dX3_two_55 hl (by decide) rfl (fun ls hl => ?_)
    refine lv_iload hx hb dX3_two_57 (lv_at hl 0 rfl) ?_
    refine lv_if_eq (tgt := 78) hx hb dX3_two_59 (by decide) (fun hc1 => ?_) (fun hc1 => ?_)
    · replace hF := br_yes hF hc1
      refine lv_iload_n hx hb dX3_two_78 rfl (lv_at hl 3 rfl) ?_
      exact J79 (x3) _ _ _ _ _ hF (lv_sub hl [1] rfl) hP hS
    · replace hF := br_no hF hc1
      refine lv_iload_n hx hb dX3_two_62 rfl (lv_at hl 3 rfl) ?_
      refine lv_aload_n hx hb dX3_two_63 rfl (lv_at hl 1 rfl) ?_
      refine cg_X3_words hx hb hT hown hK hP mw3_14 dX3_two_64 ?_
      refine lv_iload_n hx hb dX3_two_67 rfl (lv_at hl 2 rfl) ?_
      refine lv_iconst (v := (1 : Int32)) hx hb dX3_two_68 (by decide) ?_
      refine lv_iadd hx hb dX3_two_69 ?_
      replace hF := gd_of hF
      obtain ⟨hi2, hF⟩ := hF
      refine cl_words hx hb hK hP hi2 dX3_two_70 ?_
      refine lv_bipush (v := (8 : Int32)) hx hb dX3_two_71 (by decide) ?_
      refine lv_ishl hx hb dX3_two_73 ?_
      refine lv_ior hx hb dX3_two_74 ?_
      refine lv_goto (tgt := 79) hx hb dX3_two_75 (by decide) ?_
      exact J79 ((x3) ||| ((ar (0) ((x2) + (1 : Int32)).toNatClampNeg) <<< ((8 : Int32) &&& 31))) _ _ _ _ _ hF (lv_sub hl [1] rfl) hP hS
  have J54 : ∀ (x2 : Int32) (x3 : Int32) (fi : FI) (ar : AR) (H : Heap) (locs : List Loc) (ls : Array Slot), FX3_two_54 nf ln x2 x3 fi ar = some (r, fi', ar') → lv_has ls 5 [(0, .ref (ad (1))), (2, .int x2), (3, .int x3)] → va_P (gD g) vwCl (WC g ad rd ln fi ar) H → va_S (AC ad rd s.heap.size) s.heap H locs → W p l e (headSpec (wx yX3_two cX3_two 5 (some .int)) ({ frames := 0, cells := 0, slots := 0, locals := 0 } : Room)).room s m ([.ref (ad (1)), .int p1] : List Value).toArray below meth c H locs 0 0 (MQ below (QCi g ad rd ln s.heap.size r fi' ar') ([.ref (ad (1)), .int p1] : List Value).toArray s 0 0 (AC ad rd s.heap.size)) (F0 m 54 ls []) := by
    intro x2 x3 fi ar H locs ls hF hl hP hS
    unfold FX3_two_54 at hF
    refine lv_iconst (v := (0 : Int32)) hx hb dX3_two_54 (by decide) ?_
    exact J55 (x2) (x3) (0 : Int32) _ _ _ _ _ hF (lv_sub hl [0, 1, 2] rfl) hP hS
  have J17 : ∀  (fi : FI) (ar : AR) (H : Heap) (locs : List Loc) (ls : Array Slot), FX3_two_17 nf ln fi ar = some (r, fi', ar') → lv_has ls 5 [(0, .ref (ad (1)))] → va_P (gD g) vwCl (WC g ad rd ln fi ar) H → va_S (AC ad rd s.heap.size) s.heap H locs → W p l e (headSpec (wx yX3_two cX3_two 5 (some .int)) ({ frames := 0, cells := 0, slots := 0, locals := 0 } : Room)).room s m ([.ref (ad (1)), .int p1] : List Value).toArray below meth c H locs 0 0 (MQ below (QCi g ad rd ln s.heap.size r fi' ar') ([.ref (ad (1)), .int p1] : List Value).toArray s 0 0 (AC ad rd s.heap.size)) (F0 m 17 ls []) := by
    intro fi ar H locs ls hF hl hP hS
    unfold FX3_two_17 at hF
    refine lv_iconst (v := (0 : Int32)) hx hb dX3_two_17 (by decide) ?_
    exact rC_i hx hb hr hlocks hF hP hS dX3_two_18
  replace hl := lv_sub hl [0, 1] rfl
  refine lv_iload_n hx hb dX3_two_0 rfl (lv_at hl 1 rfl) ?_
  refine lv_iconst (v := (2 : Int32)) hx hb dX3_two_1 (by decide) ?_
  refine lv_ishr hx hb dX3_two_2 ?_
  obtain ⟨x2_3, ex2_3⟩ : ∃ y : Int32, y = ((p1) >>> ((2 : Int32) &&& 31)) := ⟨_, rfl⟩
  rw [← ex2_3]
  replace hF := bnd_of hF ex2_3
  refine lv_istore_n (lv' := [(2, .int (x2_3)), (0, .ref (ad (1))), (1, .int (p1))]) hx hb dX3_two_3 rfl hl (by decide) rfl (fun ls hl => ?_)
  refine lv_iload_n hx hb dX3_two_4 rfl (lv_at hl 0 rfl) ?_
  refine lv_if_lt (tgt := 17) hx hb dX3_two_5 (by decide) (fun hc4 => ?_) (fun hc4 => ?_)
  · replace hF := br_yes hF hc4
    exact J17  _ _ _ _ _ hF (lv_sub hl [1] rfl) hP hS
  · replace hF := br_no hF hc4
    refine lv_iload_n hx hb dX3_two_8 rfl (lv_at hl 0 rfl) ?_
    refine lv_aload_n hx hb dX3_two_9 rfl (lv_at hl 1 rfl) ?_
    refine cg_X3_words hx hb hT hown hK hP mw3_14 dX3_two_10 ?_
    refine ca_words hx hb hK hP dX3_two_13 ?_
    refine lv_icmp_lt (tgt := 19) hx hb dX3_two_14 (by decide) (fun hc5 => ?_) (fun hc5 => ?_)
    · replace hF := br_yes hF hc5
      refine lv_aload_n hx hb dX3_two_19 rfl (lv_at hl 1 rfl) ?_
      refine cg_X3_words hx hb hT hown hK hP mw3_14 dX3_two_20 ?_
      refine lv_iload_n hx hb dX3_two_23 rfl (lv_at hl 0 rfl) ?_
      replace hF := gd_of hF
      obtain ⟨hi6, hF⟩ := hF
      refine cl_words hx hb hK hP hi6 dX3_two_24 ?_
      refine lv_iload_n hx hb dX3_two_25 rfl (lv_at hl 2 rfl) ?_
      refine lv_iconst (v := (3 : Int32)) hx hb dX3_two_26 (by decide) ?_
      refine lv_iand hx hb dX3_two_27 ?_
      refine lv_iconst (v := (3 : Int32)) hx hb dX3_two_28 (by decide) ?_
      refine lv_ishl hx hb dX3_two_29 ?_
      refine lv_iushr hx hb dX3_two_30 rfl ?_
      obtain ⟨x3_7, ex3_7⟩ : ∃ y : Int32, y = ((((ar (0) (x2_3).toNatClampNeg) : Int32).toUInt32 >>> ((((p1) &&& (3)) <<< ((3) &&& 31) : Int32).toUInt32 &&& Int32.toUInt32 31)).toInt32) := ⟨_, rfl⟩
      rw [← ex3_7]
      replace hF := bnd_of hF ex3_7
      refine lv_istore_n (lv' := [(3, .int (x3_7)), (2, .int (x2_3)), (0, .ref (ad (1))), (1, .int (p1))]) hx hb dX3_two_31 rfl hl (by decide) rfl (fun ls hl => ?_)
      refine lv_iload_n hx hb dX3_two_32 rfl (lv_at hl 3 rfl) ?_
      refine lv_iconst (v := (3 : Int32)) hx hb dX3_two_33 (by decide) ?_
      refine lv_iand hx hb dX3_two_34 ?_
      refine lv_iconst (v := (3 : Int32)) hx hb dX3_two_35 (by decide) ?_
      refine lv_icmp_ne (tgt := 54) hx hb dX3_two_36 (by decide) (fun hc8 => ?_) (fun hc8 => ?_)
      · replace hF := br_no hF hc8
        exact J54 (x2_3) (x3_7) _ _ _ _ _ hF (lv_sub hl [2, 1, 0] rfl) hP hS
      · replace hF := br_yes hF hc8
        refine lv_iload_n hx hb dX3_two_39 rfl (lv_at hl 1 rfl) ?_
        refine lv_iconst (v := (1 : Int32)) hx hb dX3_two_40 (by decide) ?_
        refine lv_iadd hx hb dX3_two_41 ?_
        refine lv_aload_n hx hb dX3_two_42 rfl (lv_at hl 2 rfl) ?_
        refine cg_X3_words hx hb hT hown hK hP mw3_14 dX3_two_43 ?_
        refine ca_words hx hb hK hP dX3_two_46 ?_
        refine lv_icmp_ge (tgt := 54) hx hb dX3_two_47 (by decide) (fun hc9 => ?_) (fun hc9 => ?_)
        · replace hF := br_yes hF hc9
          exact J54 (x2_3) (x3_7) _ _ _ _ _ hF (lv_sub hl [2, 1, 0] rfl) hP hS
        · replace hF := br_no hF hc9
          refine lv_iconst (v := (1 : Int32)) hx hb dX3_two_50 (by decide) ?_
          refine lv_goto (tgt := 55) hx hb dX3_two_51 (by decide) ?_
          exact J55 (x2_3) (x3_7) (1 : Int32) _ _ _ _ _ hF (lv_sub hl [2, 1, 0] rfl) hP hS
    · replace hF := br_no hF hc5
      exact J17  _ _ _ _ _ hF (lv_sub hl [1] rfl) hP hS
theorem cw_X3_two : (Cond.instanceMethod yX3_two ∈ TB ∧ Cond.selects RX3 yX3_two yX3_two ∈ TB ∧ Cond.code yX3_two cX3_two 5 (some .int) ∈ TB ∧ Cond.initialized RX3 ∈ TB) ∧ (yX3_two.cls = RX3 ∧ yX3_two.cls ≠ "java/lang/invoke/MethodHandle" ∧ yX3_two.cls ≠ "java/lang/invoke/VarHandle" ∧ (parseMethodDescriptor yX3_two.desc).map (fun d => d.parameters.length) = some 1) := ⟨⟨mw22_2, mw22_3, mw22_4, mw2_2⟩, by decide +kernel⟩
/-! X3_four -/
noncomputable def FX3_four_27 (nf : Nat) (ln : LN) (t0 : Int32) (fi : FI) (ar : AR) : Option (Int32 × FI × AR) :=
  some ((t0), fi, ar)
noncomputable def FX3_four_17 (nf : Nat) (ln : LN)  (fi : FI) (ar : AR) : Option (Int32 × FI × AR) :=
  FX3_four_27 nf ln  (0 : Int32) fi ar
noncomputable def FX3_four (nf : Nat) (ln : LN) (fi : FI) (ar : AR) (x1 : Int32) : Option (Int32 × FI × AR) :=
  bnd ((x1) >>> ((2 : Int32) &&& 31)) fun x2_1 => br ((x2_1) < 0) (FX3_four_17 nf ln  fi ar) (br ((x2_1) < (Int32.ofNat (ln (0)))) (gd (¬ ((x2_1) < 0 ∨ ln (0) ≤ (x2_1).toNatClampNeg)) (FX3_four_27 nf ln  (ar (0) (x2_1).toNatClampNeg) fi ar)) (FX3_four_17 nf ln  fi ar))
set_option maxHeartbeats 4000000 in
set_option maxRecDepth 100000 in
theorem kX3_four (l : Launch) (g : GT) (ad rd : Nat → Nat) (sz : Nat) (nf : Nat) (ln : LN) (fi : FI) (ar : AR) (p1 : Int32) (r : Int32) (fi' : FI) (ar' : AR) (hF : FX3_four nf ln fi ar p1 = some (r, fi', ar')) : Met l yX3_four (wx yX3_four cX3_four 3 (some .int)) ({ frames := 0, cells := 0, slots := 0, locals := 0 } : Room) (va_Pc [.ref (ad (1)), .int p1] (PC g ad rd ln sz fi ar)) (QCi g ad rd ln sz r fi' ar') 0 0 (AC ad rd sz) := by
  refine Met.ofW (cc := cX3_four) (maxL := 3) (ret := (some .int)) (by decide) rfl ?_
  intro p e s m args below meth c s₁ B hml hv
  obtain ⟨rfl, hsz, hP, hK, hD0, hE⟩ := hv
  have hx := B.exec
  have hb := B.bytes
  have hr := B.returns
  have hts := atoms_spec (ws := (wx yX3_four cX3_four 3 (some .int))) B.pre
  have hT : ∀ w ∈ TB, w.before _ s = true := fun w h => hts w (List.mem_cons_of_mem _ h)
  have hown : s.vm.findClass RX3 = some m.cls := findClass_of_methodNamed B.named
  have hlocks := B.notSynchronized
  subst hsz
  have hD := dC hD0 s.heap.size
  have hA : ∀ q : Nat, s.heap.size ≤ q → AC ad rd s.heap.size q := fun q h => Or.inr h
  have hS : va_S (AC ad rd s.heap.size) s.heap s.heap [] := va_S.rf
  have hl := lv_entry ([.ref (ad (1)), .int p1]) (n := 3) (Nat.le_of_ble_eq_true rfl)
  rw [lg_entry_eq]
  generalize (lg_sl ([.ref (ad (1)), .int p1]) ++ List.replicate (3 - (lg_sl ([.ref (ad (1)), .int p1])).length) Slot.unset).toArray = ls at hl ⊢
  have hl : lv_has ls 3 [(0, .ref (ad (1))), (1, .int p1)] := hl
  unfold FX3_four at hF
  have J27 : ∀ (t0 : Int32) (fi : FI) (ar : AR) (H : Heap) (locs : List Loc) (ls : Array Slot), FX3_four_27 nf ln t0 fi ar = some (r, fi', ar') → lv_has ls 3 [(0, .ref (ad (1)))] → va_P (gD g) vwCl (WC g ad rd ln fi ar) H → va_S (AC ad rd s.heap.size) s.heap H locs → W p l e (headSpec (wx yX3_four cX3_four 3 (some .int)) ({ frames := 0, cells := 0, slots := 0, locals := 0 } : Room)).room s m ([.ref (ad (1)), .int p1] : List Value).toArray below meth c H locs 0 0 (MQ below (QCi g ad rd ln s.heap.size r fi' ar') ([.ref (ad (1)), .int p1] : List Value).toArray s 0 0 (AC ad rd s.heap.size)) (F0 m 27 ls [.int t0]) := by
    intro t0 fi ar H locs ls hF hl hP hS
    unfold FX3_four_27 at hF
    exact rC_i hx hb hr hlocks hF hP hS dX3_four_27
  have J17 : ∀  (fi : FI) (ar : AR) (H : Heap) (locs : List Loc) (ls : Array Slot), FX3_four_17 nf ln fi ar = some (r, fi', ar') → lv_has ls 3 [(0, .ref (ad (1)))] → va_P (gD g) vwCl (WC g ad rd ln fi ar) H → va_S (AC ad rd s.heap.size) s.heap H locs → W p l e (headSpec (wx yX3_four cX3_four 3 (some .int)) ({ frames := 0, cells := 0, slots := 0, locals := 0 } : Room)).room s m ([.ref (ad (1)), .int p1] : List Value).toArray below meth c H locs 0 0 (MQ below (QCi g ad rd ln s.heap.size r fi' ar') ([.ref (ad (1)), .int p1] : List Value).toArray s 0 0 (AC ad rd s.heap.size)) (F0 m 17 ls []) := by
    intro fi ar H locs ls hF hl hP hS
    unfold FX3_four_17 at hF
    refine lv_iconst (v := (0 : Int32)) hx hb dX3_four_17 (by decide) ?_
    refine lv_goto (tgt := 27) hx hb dX3_four_18 (by decide) ?_
    exact J27 (0 : Int32) _ _ _ _ _ hF (lv_sub hl [0] rfl) hP hS
  replace hl := lv_sub hl [0, 1] rfl
  refine lv_iload_n hx hb dX3_four_0 rfl (lv_at hl 1 rfl) ?_
  refine lv_iconst (v := (2 : Int32)) hx hb dX3_four_1 (by decide) ?_
  refine lv_ishr hx hb dX3_four_2 ?_
  obtain ⟨x2_1, ex2_1⟩ : ∃ y : Int32, y = ((p1) >>> ((2 : Int32) &&& 31)) := ⟨_, rfl⟩
  rw [← ex2_1]
  replace hF := bnd_of hF ex2_1
  refine lv_istore_n (lv' := [(2, .int (x2_1)), (0, .ref (ad (1))), (1, .int (p1))]) hx hb dX3_four_3 rfl hl (by decide) rfl (fun ls hl => ?_)
  refine lv_iload_n hx hb dX3_four_4 rfl (lv_at hl 0 rfl) ?_
  refine lv_if_lt (tgt := 17) hx hb dX3_four_5 (by decide) (fun hc2 => ?_) (fun hc2 => ?_)
  · replace hF := br_yes hF hc2
    exact J17  _ _ _ _ _ hF (lv_sub hl [1] rfl) hP hS
  · replace hF := br_no hF hc2
    refine lv_iload_n hx hb dX3_four_8 rfl (lv_at hl 0 rfl) ?_
    refine lv_aload_n hx hb dX3_four_9 rfl (lv_at hl 1 rfl) ?_
    refine cg_X3_words hx hb hT hown hK hP mw3_14 dX3_four_10 ?_
    refine ca_words hx hb hK hP dX3_four_13 ?_
    refine lv_icmp_lt (tgt := 21) hx hb dX3_four_14 (by decide) (fun hc3 => ?_) (fun hc3 => ?_)
    · replace hF := br_yes hF hc3
      refine lv_aload_n hx hb dX3_four_21 rfl (lv_at hl 1 rfl) ?_
      refine cg_X3_words hx hb hT hown hK hP mw3_14 dX3_four_22 ?_
      refine lv_iload_n hx hb dX3_four_25 rfl (lv_at hl 0 rfl) ?_
      replace hF := gd_of hF
      obtain ⟨hi4, hF⟩ := hF
      refine cl_words hx hb hK hP hi4 dX3_four_26 ?_
      exact J27 (ar (0) (x2_1).toNatClampNeg) _ _ _ _ _ hF (lv_sub hl [1] rfl) hP hS
    · replace hF := br_no hF hc3
      exact J17  _ _ _ _ _ hF (lv_sub hl [1] rfl) hP hS
theorem cw_X3_four : (Cond.instanceMethod yX3_four ∈ TB ∧ Cond.selects RX3 yX3_four yX3_four ∈ TB ∧ Cond.code yX3_four cX3_four 3 (some .int) ∈ TB ∧ Cond.initialized RX3 ∈ TB) ∧ (yX3_four.cls = RX3 ∧ yX3_four.cls ≠ "java/lang/invoke/MethodHandle" ∧ yX3_four.cls ≠ "java/lang/invoke/VarHandle" ∧ (parseMethodDescriptor yX3_four.desc).map (fun d => d.parameters.length) = some 1) := ⟨⟨mw16_9, mw16_10, mw16_11, mw2_2⟩, by decide +kernel⟩
/-! X3_one -/
noncomputable def FX3_one_17 (nf : Nat) (ln : LN)  (fi : FI) (ar : AR) : Option (Int32 × FI × AR) :=
  some ((0 : Int32), fi, ar)
noncomputable def FX3_one (nf : Nat) (ln : LN) (fi : FI) (ar : AR) (x1 : Int32) : Option (Int32 × FI × AR) :=
  bnd ((x1) >>> ((2 : Int32) &&& 31)) fun x2_1 => br ((x2_1) < 0) (FX3_one_17 nf ln  fi ar) (br ((x2_1) < (Int32.ofNat (ln (0)))) (gd (¬ ((x2_1) < 0 ∨ ln (0) ≤ (x2_1).toNatClampNeg)) (some ((((((ar (0) (x2_1).toNatClampNeg) : Int32).toUInt32 >>> ((((x1) &&& (3)) <<< ((3) &&& 31) : Int32).toUInt32 &&& Int32.toUInt32 31)).toInt32) &&& (255 : Int32)), fi, ar))) (FX3_one_17 nf ln  fi ar))
set_option maxHeartbeats 4000000 in
set_option maxRecDepth 100000 in
theorem kX3_one (l : Launch) (g : GT) (ad rd : Nat → Nat) (sz : Nat) (nf : Nat) (ln : LN) (fi : FI) (ar : AR) (p1 : Int32) (r : Int32) (fi' : FI) (ar' : AR) (hF : FX3_one nf ln fi ar p1 = some (r, fi', ar')) : Met l yX3_one (wx yX3_one cX3_one 3 (some .int)) ({ frames := 0, cells := 0, slots := 0, locals := 0 } : Room) (va_Pc [.ref (ad (1)), .int p1] (PC g ad rd ln sz fi ar)) (QCi g ad rd ln sz r fi' ar') 0 0 (AC ad rd sz) := by
  refine Met.ofW (cc := cX3_one) (maxL := 3) (ret := (some .int)) (by decide) rfl ?_
  intro p e s m args below meth c s₁ B hml hv
  obtain ⟨rfl, hsz, hP, hK, hD0, hE⟩ := hv
  have hx := B.exec
  have hb := B.bytes
  have hr := B.returns
  have hts := atoms_spec (ws := (wx yX3_one cX3_one 3 (some .int))) B.pre
  have hT : ∀ w ∈ TB, w.before _ s = true := fun w h => hts w (List.mem_cons_of_mem _ h)
  have hown : s.vm.findClass RX3 = some m.cls := findClass_of_methodNamed B.named
  have hlocks := B.notSynchronized
  subst hsz
  have hD := dC hD0 s.heap.size
  have hA : ∀ q : Nat, s.heap.size ≤ q → AC ad rd s.heap.size q := fun q h => Or.inr h
  have hS : va_S (AC ad rd s.heap.size) s.heap s.heap [] := va_S.rf
  have hl := lv_entry ([.ref (ad (1)), .int p1]) (n := 3) (Nat.le_of_ble_eq_true rfl)
  rw [lg_entry_eq]
  generalize (lg_sl ([.ref (ad (1)), .int p1]) ++ List.replicate (3 - (lg_sl ([.ref (ad (1)), .int p1])).length) Slot.unset).toArray = ls at hl ⊢
  have hl : lv_has ls 3 [(0, .ref (ad (1))), (1, .int p1)] := hl
  unfold FX3_one at hF
  have J17 : ∀  (fi : FI) (ar : AR) (H : Heap) (locs : List Loc) (ls : Array Slot), FX3_one_17 nf ln fi ar = some (r, fi', ar') → lv_has ls 3 [(0, .ref (ad (1)))] → va_P (gD g) vwCl (WC g ad rd ln fi ar) H → va_S (AC ad rd s.heap.size) s.heap H locs → W p l e (headSpec (wx yX3_one cX3_one 3 (some .int)) ({ frames := 0, cells := 0, slots := 0, locals := 0 } : Room)).room s m ([.ref (ad (1)), .int p1] : List Value).toArray below meth c H locs 0 0 (MQ below (QCi g ad rd ln s.heap.size r fi' ar') ([.ref (ad (1)), .int p1] : List Value).toArray s 0 0 (AC ad rd s.heap.size)) (F0 m 17 ls []) := by
    intro fi ar H locs ls hF hl hP hS
    unfold FX3_one_17 at hF
    refine lv_iconst (v := (0 : Int32)) hx hb dX3_one_17 (by decide) ?_
    exact rC_i hx hb hr hlocks hF hP hS dX3_one_18
  replace hl := lv_sub hl [0, 1] rfl
  refine lv_iload_n hx hb dX3_one_0 rfl (lv_at hl 1 rfl) ?_
  refine lv_iconst (v := (2 : Int32)) hx hb dX3_one_1 (by decide) ?_
  refine lv_ishr hx hb dX3_one_2 ?_
  obtain ⟨x2_1, ex2_1⟩ : ∃ y : Int32, y = ((p1) >>> ((2 : Int32) &&& 31)) := ⟨_, rfl⟩
  rw [← ex2_1]
  replace hF := bnd_of hF ex2_1
  refine lv_istore_n (lv' := [(2, .int (x2_1)), (0, .ref (ad (1))), (1, .int (p1))]) hx hb dX3_one_3 rfl hl (by decide) rfl (fun ls hl => ?_)
  refine lv_iload_n hx hb dX3_one_4 rfl (lv_at hl 0 rfl) ?_
  refine lv_if_lt (tgt := 17) hx hb dX3_one_5 (by decide) (fun hc2 => ?_) (fun hc2 => ?_)
  · replace hF := br_yes hF hc2
    exact J17  _ _ _ _ _ hF (lv_sub hl [1] rfl) hP hS
  · replace hF := br_no hF hc2
    refine lv_iload_n hx hb dX3_one_8 rfl (lv_at hl 0 rfl) ?_
    refine lv_aload_n hx hb dX3_one_9 rfl (lv_at hl 1 rfl) ?_
    refine cg_X3_words hx hb hT hown hK hP mw3_14 dX3_one_10 ?_
    refine ca_words hx hb hK hP dX3_one_13 ?_
    refine lv_icmp_lt (tgt := 19) hx hb dX3_one_14 (by decide) (fun hc3 => ?_) (fun hc3 => ?_)
    · replace hF := br_yes hF hc3
      refine lv_aload_n hx hb dX3_one_19 rfl (lv_at hl 1 rfl) ?_
      refine cg_X3_words hx hb hT hown hK hP mw3_14 dX3_one_20 ?_
      refine lv_iload_n hx hb dX3_one_23 rfl (lv_at hl 0 rfl) ?_
      replace hF := gd_of hF
      obtain ⟨hi4, hF⟩ := hF
      refine cl_words hx hb hK hP hi4 dX3_one_24 ?_
      refine lv_iload_n hx hb dX3_one_25 rfl (lv_at hl 2 rfl) ?_
      refine lv_iconst (v := (3 : Int32)) hx hb dX3_one_26 (by decide) ?_
      refine lv_iand hx hb dX3_one_27 ?_
      refine lv_iconst (v := (3 : Int32)) hx hb dX3_one_28 (by decide) ?_
      refine lv_ishl hx hb dX3_one_29 ?_
      refine lv_iushr hx hb dX3_one_30 rfl ?_
      refine lv_sipush (v := (255 : Int32)) hx hb dX3_one_31 (by decide) ?_
      refine lv_iand hx hb dX3_one_34 ?_
      exact rC_i hx hb hr hlocks hF hP hS dX3_one_35
    · replace hF := br_no hF hc3
      exact J17  _ _ _ _ _ hF (lv_sub hl [1] rfl) hP hS
theorem cw_X3_one : (Cond.instanceMethod yX3_one ∈ TB ∧ Cond.selects RX3 yX3_one yX3_one ∈ TB ∧ Cond.code yX3_one cX3_one 3 (some .int) ∈ TB ∧ Cond.initialized RX3 ∈ TB) ∧ (yX3_one.cls = RX3 ∧ yX3_one.cls ≠ "java/lang/invoke/MethodHandle" ∧ yX3_one.cls ≠ "java/lang/invoke/VarHandle" ∧ (parseMethodDescriptor yX3_one.desc).map (fun d => d.parameters.length) = some 1) := ⟨⟨mw15_14, mw15_15, mw15_16, mw2_2⟩, by decide +kernel⟩
/-! X9_shiftOf -/
noncomputable def FX9_shiftOf_20 (nf : Nat) (t0 : Int32) : Option Int32 :=
  some (t0)
noncomputable def FX9_shiftOf (nf : Nat) (x0 : Int32) : Option Int32 :=
  br ((x0) = (8 : Int32)) (FX9_shiftOf_20 nf  (3 : Int32)) (br ((x0) = (4 : Int32)) (FX9_shiftOf_20 nf  (2 : Int32)) (FX9_shiftOf_20 nf  (1 : Int32)))
set_option maxHeartbeats 4000000 in
set_option maxRecDepth 100000 in
theorem kX9_shiftOf (l : Launch) (g : GT) (nf : Nat) (p0 : Int32) (r : Int32) (hF : FX9_shiftOf nf p0 = some r) : Met l yX9_shiftOf (wx yX9_shiftOf cX9_shiftOf 1 (some .int)) ({ frames := 0, cells := 0, slots := 0, locals := 0 } : Room) (va_Pc [.int p0] (PS g)) (QSi r) 0 0 noA := by
  refine Met.ofW (cc := cX9_shiftOf) (maxL := 1) (ret := (some .int)) (by decide) rfl ?_
  intro p e s m args below meth c s₁ B hml hv
  obtain ⟨rfl, hE⟩ := hv
  have hx := B.exec
  have hb := B.bytes
  have hr := B.returns
  have hts := atoms_spec (ws := (wx yX9_shiftOf cX9_shiftOf 1 (some .int))) B.pre
  have hT : ∀ w ∈ TB, w.before _ s = true := fun w h => hts w (List.mem_cons_of_mem _ h)
  have hown : s.vm.findClass RX9 = some m.cls := findClass_of_methodNamed B.named
  have hlocks := B.notSynchronized
  have hS : va_S noA s.heap s.heap [] := va_S.rf
  have hP : va_P (gD g) vwCl [] s.heap := fun k q h => by cases h
  have hl := lv_entry ([.int p0]) (n := 1) (Nat.le_of_ble_eq_true rfl)
  rw [lg_entry_eq]
  generalize (lg_sl ([.int p0]) ++ List.replicate (1 - (lg_sl ([.int p0])).length) Slot.unset).toArray = ls at hl ⊢
  have hl : lv_has ls 1 [(0, .int p0)] := hl
  unfold FX9_shiftOf at hF
  have J20 : ∀ (t0 : Int32) (H : Heap) (locs : List Loc) (ls : Array Slot), FX9_shiftOf_20 nf t0 = some r → lv_has ls 1 [] → va_P (gD g) vwCl [] H → va_S noA s.heap H locs → W p l e (headSpec (wx yX9_shiftOf cX9_shiftOf 1 (some .int)) ({ frames := 0, cells := 0, slots := 0, locals := 0 } : Room)).room s m ([.int p0] : List Value).toArray below meth c H locs 0 0 (MQ below (QSi r) ([.int p0] : List Value).toArray s 0 0 noA) (F0 m 20 ls [.int t0]) := by
    intro t0 H locs ls hF hl hP hS
    unfold FX9_shiftOf_20 at hF
    exact rS_i hx hb hr hlocks hF hS dX9_shiftOf_20
  replace hl := lv_sub hl [0] rfl
  refine lv_iload_n hx hb dX9_shiftOf_0 rfl (lv_at hl 0 rfl) ?_
  refine lv_bipush (v := (8 : Int32)) hx hb dX9_shiftOf_1 (by decide) ?_
  refine lv_icmp_ne (tgt := 10) hx hb dX9_shiftOf_3 (by decide) (fun hc1 => ?_) (fun hc1 => ?_)
  · replace hF := br_no hF hc1
    refine lv_iload_n hx hb dX9_shiftOf_10 rfl (lv_at hl 0 rfl) ?_
    refine lv_iconst (v := (4 : Int32)) hx hb dX9_shiftOf_11 (by decide) ?_
    refine lv_icmp_ne (tgt := 19) hx hb dX9_shiftOf_12 (by decide) (fun hc2 => ?_) (fun hc2 => ?_)
    · replace hF := br_no hF hc2
      refine lv_iconst (v := (1 : Int32)) hx hb dX9_shiftOf_19 (by decide) ?_
      exact J20 (1 : Int32)  _ _ _ hF (lv_sub hl [] rfl) hP hS
    · replace hF := br_yes hF hc2
      refine lv_iconst (v := (2 : Int32)) hx hb dX9_shiftOf_15 (by decide) ?_
      refine lv_goto (tgt := 20) hx hb dX9_shiftOf_16 (by decide) ?_
      exact J20 (2 : Int32)  _ _ _ hF (lv_sub hl [] rfl) hP hS
  · replace hF := br_yes hF hc1
    refine lv_iconst (v := (3 : Int32)) hx hb dX9_shiftOf_6 (by decide) ?_
    refine lv_goto (tgt := 20) hx hb dX9_shiftOf_7 (by decide) ?_
    exact J20 (3 : Int32)  _ _ _ hF (lv_sub hl [] rfl) hP hS
theorem cw_X9_shiftOf : (Cond.static yX9_shiftOf ∈ TB ∧ Cond.code yX9_shiftOf cX9_shiftOf 1 (some .int) ∈ TB ∧ Cond.initialized yX9_shiftOf.cls ∈ TB) ∧ (yX9_shiftOf.cls ≠ "java/lang/invoke/MethodHandle" ∧ yX9_shiftOf.cls ≠ "java/lang/invoke/VarHandle" ∧ (parseMethodDescriptor yX9_shiftOf.desc).map (fun d => d.parameters.length) = some 1) := ⟨⟨mw9_21, mw9_22, mw2_10⟩, by decide +kernel⟩
/-! X9_clusterCount -/
noncomputable def FX9_clusterCount (nf : Nat) (ln : LN) (fi : FI) (ar : AR) (x1 : Int32) (x2 : Int32) : Option (Int32 × FI × AR) :=
  obnd (FX9_shiftOf nf (x1)) fun r2 => some ((((fi (2)) - (x2)) >>> ((r2) &&& 31)), fi, ar)
set_option maxHeartbeats 4000000 in
set_option maxRecDepth 100000 in
theorem kX9_clusterCount (l : Launch) (g : GT) (ad rd : Nat → Nat) (sz : Nat) (nf : Nat) (ln : LN) (fi : FI) (ar : AR) (p1 : Int32) (p2 : Int32) (r : Int32) (fi' : FI) (ar' : AR) (hF : FX9_clusterCount nf ln fi ar p1 p2 = some (r, fi', ar')) : Met l yX9_clusterCount (wx yX9_clusterCount cX9_clusterCount 3 (some .int)) ({ frames := 1, cells := 0, slots := 0, locals := 20 } : Room) (va_Pc [.ref (ad (6)), .int p1, .int p2] (PC g ad rd ln sz fi ar)) (QCi g ad rd ln sz r fi' ar') 0 0 (AC ad rd sz) := by
  refine Met.ofW (cc := cX9_clusterCount) (maxL := 3) (ret := (some .int)) (by decide) rfl ?_
  intro p e s m args below meth c s₁ B hml hv
  obtain ⟨rfl, hsz, hP, hK, hD0, hE⟩ := hv
  have hx := B.exec
  have hb := B.bytes
  have hr := B.returns
  have hts := atoms_spec (ws := (wx yX9_clusterCount cX9_clusterCount 3 (some .int))) B.pre
  have hT : ∀ w ∈ TB, w.before _ s = true := fun w h => hts w (List.mem_cons_of_mem _ h)
  have hown : s.vm.findClass RX9 = some m.cls := findClass_of_methodNamed B.named
  have hlocks := B.notSynchronized
  subst hsz
  have hD := dC hD0 s.heap.size
  have hA : ∀ q : Nat, s.heap.size ≤ q → AC ad rd s.heap.size q := fun q h => Or.inr h
  have hS : va_S (AC ad rd s.heap.size) s.heap s.heap [] := va_S.rf
  have hl := lv_entry ([.ref (ad (6)), .int p1, .int p2]) (n := 3) (Nat.le_of_ble_eq_true rfl)
  rw [lg_entry_eq]
  generalize (lg_sl ([.ref (ad (6)), .int p1, .int p2]) ++ List.replicate (3 - (lg_sl ([.ref (ad (6)), .int p1, .int p2])).length) Slot.unset).toArray = ls at hl ⊢
  have hl : lv_has ls 3 [(0, .ref (ad (6))), (1, .int p1), (2, .int p2)] := hl
  unfold FX9_clusterCount at hF
  replace hl := lv_sub hl [0, 1, 2] rfl
  refine lv_aload_n hx hb dX9_clusterCount_0 rfl (lv_at hl 0 rfl) ?_
  refine cg_X9_disk hx hb hT hown hK hP mw4_2 dX9_clusterCount_1 ?_
  refine cg_X3_sectors hx hb hT hown hK hP mw9_19 dX9_clusterCount_4 ?_
  refine lv_iload_n hx hb dX9_clusterCount_7 rfl (lv_at hl 2 rfl) ?_
  refine lv_isub hx hb dX9_clusterCount_8 ?_
  refine lv_iload_n hx hb dX9_clusterCount_9 rfl (lv_at hl 1 rfl) ?_
  replace hF := obnd_of hF
  obtain ⟨r2, h1, hF⟩ := hF
  refine cS_i (As := [.int (p1)]) (rest := [.int ((fi (2)) - (p2))]) hx hb hml hT hown hE hP hS (kX9_shiftOf l g nf (p1) r2 h1) cw_X9_shiftOf mw9_20 ⟨⟨rfl, rfl⟩, Nat.le_of_ble_eq_true rfl, Nat.le_of_ble_eq_true rfl⟩ rfl hl.1 rfl (Nat.le_of_ble_eq_true rfl) dX9_clusterCount_10 ⟨Nat.zero_le _, Nat.zero_le _⟩ (fun H locs hP hS => ?_)
  refine lv_ishr hx hb dX9_clusterCount_13 ?_
  exact rC_i hx hb hr hlocks hF hP hS dX9_clusterCount_14
theorem cw_X9_clusterCount : (Cond.instanceMethod yX9_clusterCount ∈ TB ∧ Cond.selects RX9 yX9_clusterCount yX9_clusterCount ∈ TB ∧ Cond.code yX9_clusterCount cX9_clusterCount 3 (some .int) ∈ TB ∧ Cond.initialized RX9 ∈ TB) ∧ (yX9_clusterCount.cls = RX9 ∧ yX9_clusterCount.cls ≠ "java/lang/invoke/MethodHandle" ∧ yX9_clusterCount.cls ≠ "java/lang/invoke/VarHandle" ∧ (parseMethodDescriptor yX9_clusterCount.desc).map (fun d => d.parameters.length) = some 2) := ⟨⟨mw9_16, mw9_17, mw9_18, mw2_10⟩, by decide +kernel⟩
/-! X9_tableFits -/
noncomputable def FX9_tableFits_102 (nf : Nat) (ln : LN) (t0 : Int32) (fi : FI) (ar : AR) : Option (Int32 × FI × AR) :=
  gd ((t0) &&& 1 = (t0)) (some ((t0), fi, ar))
noncomputable def FX9_tableFits_101 (nf : Nat) (ln : LN)  (fi : FI) (ar : AR) : Option (Int32 × FI × AR) :=
  FX9_tableFits_102 nf ln  (0 : Int32) fi ar
noncomputable def FX9_tableFits_56 (nf : Nat) (ln : LN) (x1 : Int32) (x2 : Int32) (x3 : Int32) (x4 : Int32) (t0 : Int32) (fi : FI) (ar : AR) : Option (Int32 × FI × AR) :=
  br ((t0) = 0) (some ((0 : Int32), fi, ar)) (obnd3 (FX9_clusterCount nf ln fi ar (x1) ((x2) + ((x3) * (x4)))) fun r6 fi4 ar5 => br ((r6) < (4 : Int32)) (FX9_tableFits_101 nf ln  fi4 ar5) (br (((128 : Int32) * (x4)) < ((r6) + (2 : Int32))) (FX9_tableFits_101 nf ln  fi4 ar5) (FX9_tableFits_102 nf ln  (1 : Int32) fi4 ar5)))
noncomputable def FX9_tableFits_55 (nf : Nat) (ln : LN) (x1 : Int32) (x2 : Int32) (x3 : Int32) (x4 : Int32) (fi : FI) (ar : AR) : Option (Int32 × FI × AR) :=
  FX9_tableFits_56 nf ln  (x1) (x2) (x3) (x4) (0 : Int32) fi ar
noncomputable def FX9_tableFits_38 (nf : Nat) (ln : LN) (x1 : Int32) (x2 : Int32) (x3 : Int32) (x4 : Int32) (fi : FI) (ar : AR) : Option (Int32 × FI × AR) :=
  br ((x4) < (1 : Int32)) (FX9_tableFits_55 nf ln  (x1) (x2) (x3) (x4) fi ar) (br ((32 : Int32) < (x4)) (FX9_tableFits_55 nf ln  (x1) (x2) (x3) (x4) fi ar) (FX9_tableFits_56 nf ln  (x1) (x2) (x3) (x4) (1 : Int32) fi ar))
noncomputable def FX9_tableFits_16 (nf : Nat) (ln : LN) (x1 : Int32) (x2 : Int32) (x3 : Int32) (x4 : Int32) (fi : FI) (ar : AR) : Option (Int32 × FI × AR) :=
  br ((x2) < (8 : Int32)) (FX9_tableFits_55 nf ln  (x1) (x2) (x3) (x4) fi ar) (br ((64 : Int32) < (x2)) (FX9_tableFits_55 nf ln  (x1) (x2) (x3) (x4) fi ar) (br ((x3) = (1 : Int32)) (FX9_tableFits_38 nf ln  (x1) (x2) (x3) (x4) fi ar) (br ((x3) = (2 : Int32)) (FX9_tableFits_38 nf ln  (x1) (x2) (x3) (x4) fi ar) (FX9_tableFits_55 nf ln  (x1) (x2) (x3) (x4) fi ar))))
noncomputable def FX9_tableFits (nf : Nat) (ln : LN) (fi : FI) (ar : AR) (x1 : Int32) (x2 : Int32) (x3 : Int32) (x4 : Int32) : Option (Int32 × FI × AR) :=
  br ((x1) = (2 : Int32)) (FX9_tableFits_16 nf ln  (x1) (x2) (x3) (x4) fi ar) (br ((x1) = (4 : Int32)) (FX9_tableFits_16 nf ln  (x1) (x2) (x3) (x4) fi ar) (br ((x1) = (8 : Int32)) (FX9_tableFits_16 nf ln  (x1) (x2) (x3) (x4) fi ar) (FX9_tableFits_55 nf ln  (x1) (x2) (x3) (x4) fi ar)))
set_option maxHeartbeats 4000000 in
set_option maxRecDepth 100000 in
theorem kX9_tableFits (l : Launch) (g : GT) (ad rd : Nat → Nat) (sz : Nat) (nf : Nat) (ln : LN) (fi : FI) (ar : AR) (p1 : Int32) (p2 : Int32) (p3 : Int32) (p4 : Int32) (r : Int32) (fi' : FI) (ar' : AR) (hF : FX9_tableFits nf ln fi ar p1 p2 p3 p4 = some (r, fi', ar')) : Met l yX9_tableFits (wx yX9_tableFits cX9_tableFits 7 (some .boolean)) ({ frames := 2, cells := 0, slots := 0, locals := 42 } : Room) (va_Pc [.ref (ad (6)), .int p1, .int p2, .int p3, .int p4] (PC g ad rd ln sz fi ar)) (QCi g ad rd ln sz r fi' ar') 0 0 (AC ad rd sz) := by
  refine Met.ofW (cc := cX9_tableFits) (maxL := 7) (ret := (some .boolean)) (by decide) rfl ?_
  intro p e s m args below meth c s₁ B hml hv
  obtain ⟨rfl, hsz, hP, hK, hD0, hE⟩ := hv
  have hx := B.exec
  have hb := B.bytes
  have hr := B.returns
  have hts := atoms_spec (ws := (wx yX9_tableFits cX9_tableFits 7 (some .boolean))) B.pre
  have hT : ∀ w ∈ TB, w.before _ s = true := fun w h => hts w (List.mem_cons_of_mem _ h)
  have hown : s.vm.findClass RX9 = some m.cls := findClass_of_methodNamed B.named
  have hlocks := B.notSynchronized
  subst hsz
  have hD := dC hD0 s.heap.size
  have hA : ∀ q : Nat, s.heap.size ≤ q → AC ad rd s.heap.size q := fun q h => Or.inr h
  have hS : va_S (AC ad rd s.heap.size) s.heap s.heap [] := va_S.rf
  have hl := lv_entry ([.ref (ad (6)), .int p1, .int p2, .int p3, .int p4]) (n := 7) (Nat.le_of_ble_eq_true rfl)
  rw [lg_entry_eq]
  generalize (lg_sl ([.ref (ad (6)), .int p1, .int p2, .int p3, .int p4]) ++ List.replicate (7 - (lg_sl ([.ref (ad (6)), .int p1, .int p2, .int p3, .int p4])).length) Slot.unset).toArray = ls at hl ⊢
  have hl : lv_has ls 7 [(0, .ref (ad (6))), (1, .int p1), (2, .int p2), (3, .int p3), (4, .int p4)] := hl
  unfold FX9_tableFits at hF
  have J102 : ∀ (t0 : Int32) (fi : FI) (ar : AR) (H : Heap) (locs : List Loc) (ls : Array Slot), FX9_tableFits_102 nf ln t0 fi ar = some (r, fi', ar') → lv_has ls 7 [(0, .ref (ad (6)))] → va_P (gD g) vwCl (WC g ad rd ln fi ar) H → va_S (AC ad rd s.heap.size) s.heap H locs → W p l e (headSpec (wx yX9_tableFits cX9_tableFits 7 (some .boolean)) ({ frames := 2, cells := 0, slots := 0, locals := 42 } : Room)).room s m ([.ref (ad (6)), .int p1, .int p2, .int p3, .int p4] : List Value).toArray below meth c H locs 0 0 (MQ below (QCi g ad rd ln s.heap.size r fi' ar') ([.ref (ad (6)), .int p1, .int p2, .int p3, .int p4] : List Value).toArray s 0 0 (AC ad rd s.heap.size)) (F0 m 102 ls [.int t0]) := by
    intro t0 fi ar H locs ls hF hl hP hS
    unfold FX9_tableFits_102 at hF
    replace hF := gd_of hF
    obtain ⟨hz1, hF⟩ := hF
    exact rC_z hx hb hr hlocks (nar_z hz1) hF hP hS dX9_tableFits_102
  have J101 : ∀  (fi : FI) (ar : AR) (H : Heap) (locs : List Loc) (ls : Array Slot), FX9_tableFits_101 nf ln fi ar = some (r, fi', ar') → lv_has ls 7 [(0, .ref (ad (6)))] → va_P (gD g) vwCl (WC g ad rd ln fi ar) H → va_S (AC ad rd s.heap.size) s.heap H locs → W p l e (headSpec (wx yX9_tableFits cX9_tableFits 7 (some .boolean)) ({ frames := 2, cells := 0, slots := 0, locals := 42 } : Room)).room s m ([.ref (ad (6)), .int p1, .int p2, .int p3, .int p4] : List Value).toArray below meth c H locs 0 0 (MQ below (QCi g ad rd ln s.heap.size r fi' ar') ([.ref (ad (6)), .int p1, .int p2, .int p3, .int p4] : List Value).toArray s 0 0 (AC ad rd s.heap.size)) (F0 m 101 ls []) := by
    intro fi ar H locs ls hF hl hP hS
    unfold FX9_tableFits_101 at hF
    refine lv_iconst (v := (0 : Int32)) hx hb dX9_tableFits_101 (by decide) ?_
    exact J102 (0 : Int32) _ _ _ _ _ hF (lv_sub hl [0] rfl) hP hS
  have J56 : ∀ (x1 : Int32) (x2 : Int32) (x3 : Int32) (x4 : Int32) (t0 : Int32) (fi : FI) (ar : AR) (H : Heap) (locs : List Loc) (ls : Array Slot), FX9_tableFits_56 nf ln x1 x2 x3 x4 t0 fi ar = some (r, fi', ar') → lv_has ls 7 [(0, .ref (ad (6))), (1, .int x1), (2, .int x2), (3, .int x3), (4, .int x4)] → va_P (gD g) vwCl (WC g ad rd ln fi ar) H → va_S (AC ad rd s.heap.size) s.heap H locs → W p l e (headSpec (wx yX9_tableFits cX9_tableFits 7 (some .boolean)) ({ frames := 2, cells := 0, slots := 0, locals := 42 } : Room)).room s m ([.ref (ad (6)), .int p1, .int p2, .int p3, .int p4] : List Value).toArray below meth c H locs 0 0 (MQ below (QCi g ad rd ln s.heap.size r fi' ar') ([.ref (ad (6)), .int p1, .int p2, .int p3, .int p4] : List Value).toArray s 0 0 (AC ad rd s.heap.size)) (F0 m 56 ls [.int t0]) := by
    intro x1 x2 x3 x4 t0 fi ar H locs ls hF hl hP hS
    unfold FX9_tableFits_56 at hF
    refine lv_istore (lv' := [(5, .int (t0)), (0, .ref (ad (6))), (1, .int (x1)), (2, .int (x2)), (3, .int (x3)), (4, .int (x4))]) hx hb dX9_tableFits_56 hl (by decide) rfl (fun ls hl => ?_)
    refine lv_iload hx hb dX9_tableFits_58 (lv_at hl 0 rfl) ?_
    refine lv_if_ne (tgt := 65) hx hb dX9_tableFits_60 (by decide) (fun hc2 => ?_) (fun hc2 => ?_)
    · replace hF := br_no hF hc2
      refine lv_aload_n hx hb dX9_tableFits_65 rfl (lv_at hl 1 rfl) ?_
      refine lv_iload_n hx hb dX9_tableFits_66 rfl (lv_at hl 2 rfl) ?_
      refine lv_iload_n hx hb dX9_tableFits_67 rfl (lv_at hl 3 rfl) ?_
      refine lv_iload_n hx hb dX9_tableFits_68 rfl (lv_at hl 4 rfl) ?_
      refine lv_iload hx hb dX9_tableFits_69 (lv_at hl 5 rfl) ?_
      refine lv_imul hx hb dX9_tableFits_71 ?_
      refine lv_iadd hx hb dX9_tableFits_72 ?_
      replace hF := obnd3_of hF
      obtain ⟨r6, fi4, ar5, h3, hF⟩ := hF
      refine cC_i (As := [.int (x1), .int ((x2) + ((x3) * (x4)))]) (rest := []) hx hb hml hT hown hK hE hD hA hP hS (rcv_X9 hK hP) (kX9_clusterCount l g ad rd _ nf ln fi ar (x1) ((x2) + ((x3) * (x4))) r6 fi4 ar5 h3) cw_X9_clusterCount mw9_15 ⟨⟨rfl, rfl⟩, Nat.le_of_ble_eq_true rfl, Nat.le_of_ble_eq_true rfl⟩ rfl hl.1 rfl (Nat.le_of_ble_eq_true rfl) dX9_tableFits_73 ⟨Nat.zero_le _, Nat.zero_le _⟩ (fun H locs hP hS => ?_)
      refine lv_istore (lv' := [(6, .int (r6)), (5, .int (t0)), (0, .ref (ad (6))), (1, .int (x1)), (2, .int (x2)), (3, .int (x3)), (4, .int (x4))]) hx hb dX9_tableFits_76 hl (by decide) rfl (fun ls hl => ?_)
      refine lv_iload hx hb dX9_tableFits_78 (lv_at hl 0 rfl) ?_
      refine lv_iconst (v := (4 : Int32)) hx hb dX9_tableFits_80 (by decide) ?_
      refine lv_icmp_lt (tgt := 101) hx hb dX9_tableFits_81 (by decide) (fun hc7 => ?_) (fun hc7 => ?_)
      · replace hF := br_yes hF hc7
        exact J101  _ _ _ _ _ hF (lv_sub hl [2] rfl) hP hS
      · replace hF := br_no hF hc7
        refine lv_sipush (v := (128 : Int32)) hx hb dX9_tableFits_84 (by decide) ?_
        refine lv_iload hx hb dX9_tableFits_87 (lv_at hl 6 rfl) ?_
        refine lv_imul hx hb dX9_tableFits_89 ?_
        refine lv_iload hx hb dX9_tableFits_90 (lv_at hl 0 rfl) ?_
        refine lv_iconst (v := (2 : Int32)) hx hb dX9_tableFits_92 (by decide) ?_
        refine lv_iadd hx hb dX9_tableFits_93 ?_
        refine lv_icmp_lt (tgt := 101) hx hb dX9_tableFits_94 (by decide) (fun hc8 => ?_) (fun hc8 => ?_)
        · replace hF := br_yes hF hc8
          exact J101  _ _ _ _ _ hF (lv_sub hl [2] rfl) hP hS
        · replace hF := br_no hF hc8
          refine lv_iconst (v := (1 : Int32)) hx hb dX9_tableFits_97 (by decide) ?_
          refine lv_goto (tgt := 102) hx hb dX9_tableFits_98 (by decide) ?_
          exact J102 (1 : Int32) _ _ _ _ _ hF (lv_sub hl [2] rfl) hP hS
    · replace hF := br_yes hF hc2
      refine lv_iconst (v := (0 : Int32)) hx hb dX9_tableFits_63 (by decide) ?_
      exact rC_z hx hb hr hlocks rfl hF hP hS dX9_tableFits_64
  have J55 : ∀ (x1 : Int32) (x2 : Int32) (x3 : Int32) (x4 : Int32) (fi : FI) (ar : AR) (H : Heap) (locs : List Loc) (ls : Array Slot), FX9_tableFits_55 nf ln x1 x2 x3 x4 fi ar = some (r, fi', ar') → lv_has ls 7 [(0, .ref (ad (6))), (1, .int x1), (2, .int x2), (3, .int x3), (4, .int x4)] → va_P (gD g) vwCl (WC g ad rd ln fi ar) H → va_S (AC ad rd s.heap.size) s.heap H locs → W p l e (headSpec (wx yX9_tableFits cX9_tableFits 7 (some .boolean)) ({ frames := 2, cells := 0, slots := 0, locals := 42 } : Room)).room s m ([.ref (ad (6)), .int p1, .int p2, .int p3, .int p4] : List Value).toArray below meth c H locs 0 0 (MQ below (QCi g ad rd ln s.heap.size r fi' ar') ([.ref (ad (6)), .int p1, .int p2, .int p3, .int p4] : List Value).toArray s 0 0 (AC ad rd s.heap.size)) (F0 m 55 ls []) := by
    intro x1 x2 x3 x4 fi ar H locs ls hF hl hP hS
    unfold FX9_tableFits_55 at hF
    refine lv_iconst (v := (0 : Int32)) hx hb dX9_tableFits_55 (by decide) ?_
    exact J56 (x1) (x2) (x3) (x4) (0 : Int32) _ _ _ _ _ hF (lv_sub hl [0, 1, 2, 3, 4] rfl) hP hS
  have J38 : ∀ (x1 : Int32) (x2 : Int32) (x3 : Int32) (x4 : Int32) (fi : FI) (ar : AR) (H : Heap) (locs : List Loc) (ls : Array Slot), FX9_tableFits_38 nf ln x1 x2 x3 x4 fi ar = some (r, fi', ar') → lv_has ls 7 [(0, .ref (ad (6))), (1, .int x1), (2, .int x2), (3, .int x3), (4, .int x4)] → va_P (gD g) vwCl (WC g ad rd ln fi ar) H → va_S (AC ad rd s.heap.size) s.heap H locs → W p l e (headSpec (wx yX9_tableFits cX9_tableFits 7 (some .boolean)) ({ frames := 2, cells := 0, slots := 0, locals := 42 } : Room)).room s m ([.ref (ad (6)), .int p1, .int p2, .int p3, .int p4] : List Value).toArray below meth c H locs 0 0 (MQ below (QCi g ad rd ln s.heap.size r fi' ar') ([.ref (ad (6)), .int p1, .int p2, .int p3, .int p4] : List Value).toArray s 0 0 (AC ad rd s.heap.size)) (F0 m 38 ls []) := by
    intro x1 x2 x3 x4 fi ar H locs ls hF hl hP hS
    unfold FX9_tableFits_38 at hF
    refine lv_iload hx hb dX9_tableFits_38 (lv_at hl 4 rfl) ?_
    refine lv_iconst (v := (1 : Int32)) hx hb dX9_tableFits_40 (by decide) ?_
    refine lv_icmp_lt (tgt := 55) hx hb dX9_tableFits_41 (by decide) (fun hc9 => ?_) (fun hc9 => ?_)
    · replace hF := br_yes hF hc9
      exact J55 (x1) (x2) (x3) (x4) _ _ _ _ _ hF (lv_sub hl [0, 1, 2, 3, 4] rfl) hP hS
    · replace hF := br_no hF hc9
      refine lv_iload hx hb dX9_tableFits_44 (lv_at hl 4 rfl) ?_
      refine lv_bipush (v := (32 : Int32)) hx hb dX9_tableFits_46 (by decide) ?_
      refine lv_icmp_gt (tgt := 55) hx hb dX9_tableFits_48 (by decide) (fun hc10 => ?_) (fun hc10 => ?_)
      · replace hF := br_yes hF hc10
        exact J55 (x1) (x2) (x3) (x4) _ _ _ _ _ hF (lv_sub hl [0, 1, 2, 3, 4] rfl) hP hS
      · replace hF := br_no hF hc10
        refine lv_iconst (v := (1 : Int32)) hx hb dX9_tableFits_51 (by decide) ?_
        refine lv_goto (tgt := 56) hx hb dX9_tableFits_52 (by decide) ?_
        exact J56 (x1) (x2) (x3) (x4) (1 : Int32) _ _ _ _ _ hF (lv_sub hl [0, 1, 2, 3, 4] rfl) hP hS
  have J16 : ∀ (x1 : Int32) (x2 : Int32) (x3 : Int32) (x4 : Int32) (fi : FI) (ar : AR) (H : Heap) (locs : List Loc) (ls : Array Slot), FX9_tableFits_16 nf ln x1 x2 x3 x4 fi ar = some (r, fi', ar') → lv_has ls 7 [(0, .ref (ad (6))), (1, .int x1), (2, .int x2), (3, .int x3), (4, .int x4)] → va_P (gD g) vwCl (WC g ad rd ln fi ar) H → va_S (AC ad rd s.heap.size) s.heap H locs → W p l e (headSpec (wx yX9_tableFits cX9_tableFits 7 (some .boolean)) ({ frames := 2, cells := 0, slots := 0, locals := 42 } : Room)).room s m ([.ref (ad (6)), .int p1, .int p2, .int p3, .int p4] : List Value).toArray below meth c H locs 0 0 (MQ below (QCi g ad rd ln s.heap.size r fi' ar') ([.ref (ad (6)), .int p1, .int p2, .int p3, .int p4] : List Value).toArray s 0 0 (AC ad rd s.heap.size)) (F0 m 16 ls []) := by
    intro x1 x2 x3 x4 fi ar H locs ls hF hl hP hS
    unfold FX9_tableFits_16 at hF
    refine lv_iload_n hx hb dX9_tableFits_16 rfl (lv_at hl 2 rfl) ?_
    refine lv_bipush (v := (8 : Int32)) hx hb dX9_tableFits_17 (by decide) ?_
    refine lv_icmp_lt (tgt := 55) hx hb dX9_tableFits_19 (by decide) (fun hc11 => ?_) (fun hc11 => ?_)
    · replace hF := br_yes hF hc11
      exact J55 (x1) (x2) (x3) (x4) _ _ _ _ _ hF (lv_sub hl [0, 1, 2, 3, 4] rfl) hP hS
    · replace hF := br_no hF hc11
      refine lv_iload_n hx hb dX9_tableFits_22 rfl (lv_at hl 2 rfl) ?_
      refine lv_bipush (v := (64 : Int32)) hx hb dX9_tableFits_23 (by decide) ?_
      refine lv_icmp_gt (tgt := 55) hx hb dX9_tableFits_25 (by decide) (fun hc12 => ?_) (fun hc12 => ?_)
      · replace hF := br_yes hF hc12
        exact J55 (x1) (x2) (x3) (x4) _ _ _ _ _ hF (lv_sub hl [0, 1, 2, 3, 4] rfl) hP hS
      · replace hF := br_no hF hc12
        refine lv_iload_n hx hb dX9_tableFits_28 rfl (lv_at hl 3 rfl) ?_
        refine lv_iconst (v := (1 : Int32)) hx hb dX9_tableFits_29 (by decide) ?_
        refine lv_icmp_eq (tgt := 38) hx hb dX9_tableFits_30 (by decide) (fun hc13 => ?_) (fun hc13 => ?_)
        · replace hF := br_yes hF hc13
          exact J38 (x1) (x2) (x3) (x4) _ _ _ _ _ hF (lv_sub hl [0, 1, 2, 3, 4] rfl) hP hS
        · replace hF := br_no hF hc13
          refine lv_iload_n hx hb dX9_tableFits_33 rfl (lv_at hl 3 rfl) ?_
          refine lv_iconst (v := (2 : Int32)) hx hb dX9_tableFits_34 (by decide) ?_
          refine lv_icmp_ne (tgt := 55) hx hb dX9_tableFits_35 (by decide) (fun hc14 => ?_) (fun hc14 => ?_)
          · replace hF := br_no hF hc14
            exact J55 (x1) (x2) (x3) (x4) _ _ _ _ _ hF (lv_sub hl [0, 1, 2, 3, 4] rfl) hP hS
          · replace hF := br_yes hF hc14
            exact J38 (x1) (x2) (x3) (x4) _ _ _ _ _ hF (lv_sub hl [0, 1, 2, 3, 4] rfl) hP hS
  replace hl := lv_sub hl [0, 1, 2, 3, 4] rfl
  refine lv_iload_n hx hb dX9_tableFits_0 rfl (lv_at hl 1 rfl) ?_
  refine lv_iconst (v := (2 : Int32)) hx hb dX9_tableFits_1 (by decide) ?_
  refine lv_icmp_eq (tgt := 16) hx hb dX9_tableFits_2 (by decide) (fun hc15 => ?_) (fun hc15 => ?_)
  · replace hF := br_yes hF hc15
    exact J16 (p1) (p2) (p3) (p4) _ _ _ _ _ hF (lv_sub hl [0, 1, 2, 3, 4] rfl) hP hS
  · replace hF := br_no hF hc15
    refine lv_iload_n hx hb dX9_tableFits_5 rfl (lv_at hl 1 rfl) ?_
    refine lv_iconst (v := (4 : Int32)) hx hb dX9_tableFits_6 (by decide) ?_
    refine lv_icmp_eq (tgt := 16) hx hb dX9_tableFits_7 (by decide) (fun hc16 => ?_) (fun hc16 => ?_)
    · replace hF := br_yes hF hc16
      exact J16 (p1) (p2) (p3) (p4) _ _ _ _ _ hF (lv_sub hl [0, 1, 2, 3, 4] rfl) hP hS
    · replace hF := br_no hF hc16
      refine lv_iload_n hx hb dX9_tableFits_10 rfl (lv_at hl 1 rfl) ?_
      refine lv_bipush (v := (8 : Int32)) hx hb dX9_tableFits_11 (by decide) ?_
      refine lv_icmp_ne (tgt := 55) hx hb dX9_tableFits_13 (by decide) (fun hc17 => ?_) (fun hc17 => ?_)
      · replace hF := br_no hF hc17
        exact J55 (p1) (p2) (p3) (p4) _ _ _ _ _ hF (lv_sub hl [0, 1, 2, 3, 4] rfl) hP hS
      · replace hF := br_yes hF hc17
        exact J16 (p1) (p2) (p3) (p4) _ _ _ _ _ hF (lv_sub hl [0, 1, 2, 3, 4] rfl) hP hS
theorem cw_X9_tableFits : (Cond.instanceMethod yX9_tableFits ∈ TB ∧ Cond.selects RX9 yX9_tableFits yX9_tableFits ∈ TB ∧ Cond.code yX9_tableFits cX9_tableFits 7 (some .boolean) ∈ TB ∧ Cond.initialized RX9 ∈ TB) ∧ (yX9_tableFits.cls = RX9 ∧ yX9_tableFits.cls ≠ "java/lang/invoke/MethodHandle" ∧ yX9_tableFits.cls ≠ "java/lang/invoke/VarHandle" ∧ (parseMethodDescriptor yX9_tableFits.desc).map (fun d => d.parameters.length) = some 4) := ⟨⟨mw9_12, mw9_13, mw9_14, mw2_10⟩, by decide +kernel⟩
/-! X9_adopt -/
noncomputable def FX9_adopt (nf : Nat) (ln : LN) (fi : FI) (ar : AR) (x1 : Int32) (x2 : Int32) (x3 : Int32) (x4 : Int32) (x5 : Int32) : Option (Unit × FI × AR) :=
  obnd (FX9_shiftOf nf (x1)) fun r2 => bnd (va_up fi (6) (r2)) fun fi3 => bnd (va_up fi3 (7) (x2)) fun fi4 => bnd (va_up fi4 (8) (x3)) fun fi5 => bnd (va_up fi5 (9) (x4)) fun fi6 => bnd (va_up fi6 (10) ((x2) + ((x3) * (x4)))) fun fi7 => obnd3 (FX9_clusterCount nf ln fi7 ar (x1) (fi7 (10))) fun r11 fi9 ar10 => bnd (va_up fi9 (5) (r11)) fun fi12 => bnd (va_up fi12 (4) (x5)) fun fi13 => some ((), fi13, ar10)
set_option maxHeartbeats 4000000 in
set_option maxRecDepth 100000 in
theorem kX9_adopt (l : Launch) (g : GT) (ad rd : Nat → Nat) (sz : Nat) (nf : Nat) (ln : LN) (fi : FI) (ar : AR) (p1 : Int32) (p2 : Int32) (p3 : Int32) (p4 : Int32) (p5 : Int32) (r : Unit) (fi' : FI) (ar' : AR) (hF : FX9_adopt nf ln fi ar p1 p2 p3 p4 p5 = some (r, fi', ar')) : Met l yX9_adopt (wx yX9_adopt cX9_adopt 6 none) ({ frames := 2, cells := 0, slots := 0, locals := 42 } : Room) (va_Pc [.ref (ad (6)), .int p1, .int p2, .int p3, .int p4, .int p5] (PC g ad rd ln sz fi ar)) (QCv g ad rd ln sz r fi' ar') 0 0 (AC ad rd sz) := by
  refine Met.ofW (cc := cX9_adopt) (maxL := 6) (ret := none) (by decide) rfl ?_
  intro p e s m args below meth c s₁ B hml hv
  obtain ⟨rfl, hsz, hP, hK, hD0, hE⟩ := hv
  have hx := B.exec
  have hb := B.bytes
  have hr := B.returns
  have hts := atoms_spec (ws := (wx yX9_adopt cX9_adopt 6 none)) B.pre
  have hT : ∀ w ∈ TB, w.before _ s = true := fun w h => hts w (List.mem_cons_of_mem _ h)
  have hown : s.vm.findClass RX9 = some m.cls := findClass_of_methodNamed B.named
  have hlocks := B.notSynchronized
  subst hsz
  have hD := dC hD0 s.heap.size
  have hA : ∀ q : Nat, s.heap.size ≤ q → AC ad rd s.heap.size q := fun q h => Or.inr h
  have hS : va_S (AC ad rd s.heap.size) s.heap s.heap [] := va_S.rf
  have hl := lv_entry ([.ref (ad (6)), .int p1, .int p2, .int p3, .int p4, .int p5]) (n := 6) (Nat.le_of_ble_eq_true rfl)
  rw [lg_entry_eq]
  generalize (lg_sl ([.ref (ad (6)), .int p1, .int p2, .int p3, .int p4, .int p5]) ++ List.replicate (6 - (lg_sl ([.ref (ad (6)), .int p1, .int p2, .int p3, .int p4, .int p5])).length) Slot.unset).toArray = ls at hl ⊢
  have hl : lv_has ls 6 [(0, .ref (ad (6))), (1, .int p1), (2, .int p2), (3, .int p3), (4, .int p4), (5, .int p5)] := hl
  unfold FX9_adopt at hF
  replace hl := lv_sub hl [0, 1, 2, 3, 4, 5] rfl
  refine lv_aload_n hx hb dX9_adopt_0 rfl (lv_at hl 0 rfl) ?_
  refine lv_iload_n hx hb dX9_adopt_1 rfl (lv_at hl 1 rfl) ?_
  replace hF := obnd_of hF
  obtain ⟨r2, h1, hF⟩ := hF
  refine cS_i (As := [.int (p1)]) (rest := [.ref (ad (6))]) hx hb hml hT hown hE hP hS (kX9_shiftOf l g nf (p1) r2 h1) cw_X9_shiftOf mw9_20 ⟨⟨rfl, rfl⟩, Nat.le_of_ble_eq_true rfl, Nat.le_of_ble_eq_true rfl⟩ rfl hl.1 rfl (Nat.le_of_ble_eq_true rfl) dX9_adopt_2 ⟨Nat.zero_le _, Nat.zero_le _⟩ (fun H locs hP hS => ?_)
  obtain ⟨fi3, efi3⟩ : ∃ y : FI, y = va_up fi (6) (r2) := ⟨_, rfl⟩
  replace hF := bnd_of hF efi3
  refine cp_X9_shift hx hb hT hown hK hP hD hS mw4_1 dX9_adopt_5 (fun H locs hP hS => ?_)
  rw [← efi3] at hP
  refine lv_aload_n hx hb dX9_adopt_8 rfl (lv_at hl 0 rfl) ?_
  refine lv_iload_n hx hb dX9_adopt_9 rfl (lv_at hl 2 rfl) ?_
  obtain ⟨fi4, efi4⟩ : ∃ y : FI, y = va_up fi3 (7) (p2) := ⟨_, rfl⟩
  replace hF := bnd_of hF efi4
  refine cp_X9_before hx hb hT hown hK hP hD hS mw15_21 dX9_adopt_10 (fun H locs hP hS => ?_)
  rw [← efi4] at hP
  refine lv_aload_n hx hb dX9_adopt_13 rfl (lv_at hl 0 rfl) ?_
  refine lv_iload_n hx hb dX9_adopt_14 rfl (lv_at hl 3 rfl) ?_
  obtain ⟨fi5, efi5⟩ : ∃ y : FI, y = va_up fi4 (8) (p3) := ⟨_, rfl⟩
  replace hF := bnd_of hF efi5
  refine cp_X9_tables hx hb hT hown hK hP hD hS mw15_22 dX9_adopt_15 (fun H locs hP hS => ?_)
  rw [← efi5] at hP
  refine lv_aload_n hx hb dX9_adopt_18 rfl (lv_at hl 0 rfl) ?_
  refine lv_iload hx hb dX9_adopt_19 (lv_at hl 4 rfl) ?_
  obtain ⟨fi6, efi6⟩ : ∃ y : FI, y = va_up fi5 (9) (p4) := ⟨_, rfl⟩
  replace hF := bnd_of hF efi6
  refine cp_X9_tableSectors hx hb hT hown hK hP hD hS mw15_23 dX9_adopt_21 (fun H locs hP hS => ?_)
  rw [← efi6] at hP
  refine lv_aload_n hx hb dX9_adopt_24 rfl (lv_at hl 0 rfl) ?_
  refine lv_iload_n hx hb dX9_adopt_25 rfl (lv_at hl 2 rfl) ?_
  refine lv_iload_n hx hb dX9_adopt_26 rfl (lv_at hl 3 rfl) ?_
  refine lv_iload hx hb dX9_adopt_27 (lv_at hl 4 rfl) ?_
  refine lv_imul hx hb dX9_adopt_29 ?_
  refine lv_iadd hx hb dX9_adopt_30 ?_
  obtain ⟨fi7, efi7⟩ : ∃ y : FI, y = va_up fi6 (10) ((p2) + ((p3) * (p4))) := ⟨_, rfl⟩
  replace hF := bnd_of hF efi7
  refine cp_X9_start hx hb hT hown hK hP hD hS mw16_0 dX9_adopt_31 (fun H locs hP hS => ?_)
  rw [← efi7] at hP
  refine lv_aload_n hx hb dX9_adopt_34 rfl (lv_at hl 0 rfl) ?_
  refine lv_aload_n hx hb dX9_adopt_35 rfl (lv_at hl 0 rfl) ?_
  refine lv_iload_n hx hb dX9_adopt_36 rfl (lv_at hl 1 rfl) ?_
  refine lv_aload_n hx hb dX9_adopt_37 rfl (lv_at hl 0 rfl) ?_
  refine cg_X9_start hx hb hT hown hK hP mw16_0 dX9_adopt_38 ?_
  replace hF := obnd3_of hF
  obtain ⟨r11, fi9, ar10, h8, hF⟩ := hF
  refine cC_i (As := [.int (p1), .int (fi7 (10))]) (rest := [.ref (ad (6))]) hx hb hml hT hown hK hE hD hA hP hS (rcv_X9 hK hP) (kX9_clusterCount l g ad rd _ nf ln fi7 ar (p1) (fi7 (10)) r11 fi9 ar10 h8) cw_X9_clusterCount mw9_15 ⟨⟨rfl, rfl⟩, Nat.le_of_ble_eq_true rfl, Nat.le_of_ble_eq_true rfl⟩ rfl hl.1 rfl (Nat.le_of_ble_eq_true rfl) dX9_adopt_41 ⟨Nat.zero_le _, Nat.zero_le _⟩ (fun H locs hP hS => ?_)
  obtain ⟨fi12, efi12⟩ : ∃ y : FI, y = va_up fi9 (5) (r11) := ⟨_, rfl⟩
  replace hF := bnd_of hF efi12
  refine cp_X9_clusters hx hb hT hown hK hP hD hS mw16_1 dX9_adopt_44 (fun H locs hP hS => ?_)
  rw [← efi12] at hP
  refine lv_aload_n hx hb dX9_adopt_47 rfl (lv_at hl 0 rfl) ?_
  refine lv_iload hx hb dX9_adopt_48 (lv_at hl 5 rfl) ?_
  obtain ⟨fi13, efi13⟩ : ∃ y : FI, y = va_up fi12 (4) (p5) := ⟨_, rfl⟩
  replace hF := bnd_of hF efi13
  refine cp_X9_root hx hb hT hown hK hP hD hS mw16_2 dX9_adopt_50 (fun H locs hP hS => ?_)
  rw [← efi13] at hP
  exact rC_v hx hb hr hlocks hF hP hS dX9_adopt_53
theorem cw_X9_adopt : (Cond.instanceMethod yX9_adopt ∈ TB ∧ Cond.selects RX9 yX9_adopt yX9_adopt ∈ TB ∧ Cond.code yX9_adopt cX9_adopt 6 none ∈ TB ∧ Cond.initialized RX9 ∈ TB) ∧ (yX9_adopt.cls = RX9 ∧ yX9_adopt.cls ≠ "java/lang/invoke/MethodHandle" ∧ yX9_adopt.cls ≠ "java/lang/invoke/VarHandle" ∧ (parseMethodDescriptor yX9_adopt.desc).map (fun d => d.parameters.length) = some 5) := ⟨⟨mw15_18, mw15_19, mw15_20, mw2_10⟩, by decide +kernel⟩
/-! X9_readSectorZero -/
noncomputable def FX9_readSectorZero_221 (nf : Nat) (ln : LN)  (fi : FI) (ar : AR) : Option (Int32 × FI × AR) :=
  some ((0 : Int32), fi, ar)
noncomputable def FX9_readSectorZero_181 (nf : Nat) (ln : LN)  (fi : FI) (ar : AR) : Option (Int32 × FI × AR) :=
  some ((0 : Int32), fi, ar)
noncomputable def FX9_readSectorZero_117 (nf : Nat) (ln : LN) (t0 : Int32) (fi : FI) (ar : AR) : Option (Int32 × FI × AR) :=
  obnd3 (FX3_one nf ln fi ar (13 : Int32)) fun r4 fi2 ar3 => obnd3 (FX3_four nf ln fi2 ar3 (44 : Int32)) fun r8 fi6 ar7 => obnd3 (FX3_four nf ln fi6 ar7 (36 : Int32)) fun r12 fi10 ar11 => br ((t0) = 0) (FX9_readSectorZero_181 nf ln  fi10 ar11) (obnd3 (FX3_two nf ln fi10 ar11 (14 : Int32)) fun r17 fi15 ar16 => obnd3 (FX3_one nf ln fi15 ar16 (16 : Int32)) fun r21 fi19 ar20 => obnd3 (FX9_tableFits nf ln fi19 ar20 (r4) (r17) (r21) (r12)) fun r25 fi23 ar24 => br ((r25) = 0) (FX9_readSectorZero_181 nf ln  fi23 ar24) (br ((r8) < (2 : Int32)) (FX9_readSectorZero_221 nf ln  fi23 ar24) (obnd3 (FX3_two nf ln fi23 ar24 (14 : Int32)) fun r31 fi29 ar30 => obnd3 (FX3_one nf ln fi29 ar30 (16 : Int32)) fun r35 fi33 ar34 => obnd3 (FX9_clusterCount nf ln fi33 ar34 (r4) ((r31) + ((r35) * (r12)))) fun r39 fi37 ar38 => br ((r8) ≤ ((r39) + (1 : Int32))) (obnd3 (FX3_two nf ln fi37 ar38 (14 : Int32)) fun r44 fi42 ar43 => obnd3 (FX3_one nf ln fi42 ar43 (16 : Int32)) fun r48 fi46 ar47 => obnd3 (FX9_adopt nf ln fi46 ar47 (r4) (r44) (r48) (r12) (r8)) fun r52 fi50 ar51 => some ((1 : Int32), fi50, ar51)) (FX9_readSectorZero_221 nf ln  fi37 ar38))))
noncomputable def FX9_readSectorZero_116 (nf : Nat) (ln : LN)  (fi : FI) (ar : AR) : Option (Int32 × FI × AR) :=
  FX9_readSectorZero_117 nf ln  (0 : Int32) fi ar
noncomputable def FX9_readSectorZero (nf : Nat) (ln : LN) (fi : FI) (ar : AR)  : Option (Int32 × FI × AR) :=
  obnd3 (FX3_two nf ln fi ar (11 : Int32)) fun r56 fi54 ar55 => br ((r56) = (512 : Int32)) (obnd3 (FX3_two nf ln fi54 ar55 (17 : Int32)) fun r61 fi59 ar60 => br ((r61) = 0) (obnd3 (FX3_two nf ln fi59 ar60 (19 : Int32)) fun r66 fi64 ar65 => br ((r66) = 0) (obnd3 (FX3_two nf ln fi64 ar65 (22 : Int32)) fun r71 fi69 ar70 => br ((r71) = 0) (obnd3 (FX3_four nf ln fi69 ar70 (32 : Int32)) fun r76 fi74 ar75 => br ((r76) = (fi74 (2))) (obnd3 (FX3_two nf ln fi74 ar75 (48 : Int32)) fun r81 fi79 ar80 => br ((r81) = (1 : Int32)) (obnd3 (FX3_two nf ln fi79 ar80 (50 : Int32)) fun r86 fi84 ar85 => br ((r86) = (6 : Int32)) (obnd3 (FX3_two nf ln fi84 ar85 (510 : Int32)) fun r91 fi89 ar90 => br ((r91) = (43605 : Int32)) (FX9_readSectorZero_117 nf ln  (1 : Int32) fi89 ar90) (FX9_readSectorZero_116 nf ln  fi89 ar90)) (FX9_readSectorZero_116 nf ln  fi84 ar85)) (FX9_readSectorZero_116 nf ln  fi79 ar80)) (FX9_readSectorZero_116 nf ln  fi74 ar75)) (FX9_readSectorZero_116 nf ln  fi69 ar70)) (FX9_readSectorZero_116 nf ln  fi64 ar65)) (FX9_readSectorZero_116 nf ln  fi59 ar60)) (FX9_readSectorZero_116 nf ln  fi54 ar55)
set_option maxHeartbeats 4000000 in
set_option maxRecDepth 100000 in
theorem kX9_readSectorZero (l : Launch) (g : GT) (ad rd : Nat → Nat) (sz : Nat) (nf : Nat) (ln : LN) (fi : FI) (ar : AR)  (r : Int32) (fi' : FI) (ar' : AR) (hF : FX9_readSectorZero nf ln fi ar  = some (r, fi', ar')) : Met l yX9_readSectorZero (wx yX9_readSectorZero cX9_readSectorZero 5 (some .boolean)) ({ frames := 3, cells := 0, slots := 0, locals := 68 } : Room) (va_Pc [.ref (ad (6))] (PC g ad rd ln sz fi ar)) (QCi g ad rd ln sz r fi' ar') 0 0 (AC ad rd sz) := by
  refine Met.ofW (cc := cX9_readSectorZero) (maxL := 5) (ret := (some .boolean)) (by decide) rfl ?_
  intro p e s m args below meth c s₁ B hml hv
  obtain ⟨rfl, hsz, hP, hK, hD0, hE⟩ := hv
  have hx := B.exec
  have hb := B.bytes
  have hr := B.returns
  have hts := atoms_spec (ws := (wx yX9_readSectorZero cX9_readSectorZero 5 (some .boolean))) B.pre
  have hT : ∀ w ∈ TB, w.before _ s = true := fun w h => hts w (List.mem_cons_of_mem _ h)
  have hown : s.vm.findClass RX9 = some m.cls := findClass_of_methodNamed B.named
  have hlocks := B.notSynchronized
  subst hsz
  have hD := dC hD0 s.heap.size
  have hA : ∀ q : Nat, s.heap.size ≤ q → AC ad rd s.heap.size q := fun q h => Or.inr h
  have hS : va_S (AC ad rd s.heap.size) s.heap s.heap [] := va_S.rf
  have hl := lv_entry ([.ref (ad (6))]) (n := 5) (Nat.le_of_ble_eq_true rfl)
  rw [lg_entry_eq]
  generalize (lg_sl ([.ref (ad (6))]) ++ List.replicate (5 - (lg_sl ([.ref (ad (6))])).length) Slot.unset).toArray = ls at hl ⊢
  have hl : lv_has ls 5 [(0, .ref (ad (6)))] := hl
  unfold FX9_readSectorZero at hF
  have J221 : ∀  (fi : FI) (ar : AR) (H : Heap) (locs : List Loc) (ls : Array Slot), FX9_readSectorZero_221 nf ln fi ar = some (r, fi', ar') → lv_has ls 5 [(0, .ref (ad (6)))] → va_P (gD g) vwCl (WC g ad rd ln fi ar) H → va_S (AC ad rd s.heap.size) s.heap H locs → W p l e (headSpec (wx yX9_readSectorZero cX9_readSectorZero 5 (some .boolean)) ({ frames := 3, cells := 0, slots := 0, locals := 68 } : Room)).room s m ([.ref (ad (6))] : List Value).toArray below meth c H locs 0 0 (MQ below (QCi g ad rd ln s.heap.size r fi' ar') ([.ref (ad (6))] : List Value).toArray s 0 0 (AC ad rd s.heap.size)) (F0 m 221 ls []) := by
    intro fi ar H locs ls hF hl hP hS
    unfold FX9_readSectorZero_221 at hF
    refine lv_iconst (v := (0 : Int32)) hx hb dX9_readSectorZero_221 (by decide) ?_
    exact rC_z hx hb hr hlocks rfl hF hP hS dX9_readSectorZero_222
  have J181 : ∀  (fi : FI) (ar : AR) (H : Heap) (locs : List Loc) (ls : Array Slot), FX9_readSectorZero_181 nf ln fi ar = some (r, fi', ar') → lv_has ls 5 [(0, .ref (ad (6)))] → va_P (gD g) vwCl (WC g ad rd ln fi ar) H → va_S (AC ad rd s.heap.size) s.heap H locs → W p l e (headSpec (wx yX9_readSectorZero cX9_readSectorZero 5 (some .boolean)) ({ frames := 3, cells := 0, slots := 0, locals := 68 } : Room)).room s m ([.ref (ad (6))] : List Value).toArray below meth c H locs 0 0 (MQ below (QCi g ad rd ln s.heap.size r fi' ar') ([.ref (ad (6))] : List Value).toArray s 0 0 (AC ad rd s.heap.size)) (F0 m 181 ls []) := by
    intro fi ar H locs ls hF hl hP hS
    unfold FX9_readSectorZero_181 at hF
    refine lv_iconst (v := (0 : Int32)) hx hb dX9_readSectorZero_181 (by decide) ?_
    exact rC_z hx hb hr hlocks rfl hF hP hS dX9_readSectorZero_182
  have J117 : ∀ (t0 : Int32) (fi : FI) (ar : AR) (H : Heap) (locs : List Loc) (ls : Array Slot), FX9_readSectorZero_117 nf ln t0 fi ar = some (r, fi', ar') → lv_has ls 5 [(0, .ref (ad (6)))] → va_P (gD g) vwCl (WC g ad rd ln fi ar) H → va_S (AC ad rd s.heap.size) s.heap H locs → W p l e (headSpec (wx yX9_readSectorZero cX9_readSectorZero 5 (some .boolean)) ({ frames := 3, cells := 0, slots := 0, locals := 68 } : Room)).room s m ([.ref (ad (6))] : List Value).toArray below meth c H locs 0 0 (MQ below (QCi g ad rd ln s.heap.size r fi' ar') ([.ref (ad (6))] : List Value).toArray s 0 0 (AC ad rd s.heap.size)) (F0 m 117 ls [.int t0]) := by
    intro t0 fi ar H locs ls hF hl hP hS
    unfold FX9_readSectorZero_117 at hF
    refine lv_istore_n (lv' := [(1, .int (t0)), (0, .ref (ad (6)))]) hx hb dX9_readSectorZero_117 rfl hl (by decide) rfl (fun ls hl => ?_)
    refine lv_aload_n hx hb dX9_readSectorZero_118 rfl (lv_at hl 1 rfl) ?_
    refine cg_X9_disk hx hb hT hown hK hP mw4_2 dX9_readSectorZero_119 ?_
    refine lv_bipush (v := (13 : Int32)) hx hb dX9_readSectorZero_122 (by decide) ?_
    replace hF := obnd3_of hF
    obtain ⟨r4, fi2, ar3, h1, hF⟩ := hF
    refine cC_i (As := [.int (13 : Int32)]) (rest := []) hx hb hml hT hown hK hE hD hA hP hS (rcv_X3 hK hP) (kX3_one l g ad rd _ nf ln fi ar (13 : Int32) r4 fi2 ar3 h1) cw_X3_one mw22_6 ⟨⟨rfl, rfl⟩, Nat.le_of_ble_eq_true rfl, Nat.le_of_ble_eq_true rfl⟩ rfl hl.1 rfl (Nat.le_of_ble_eq_true rfl) dX9_readSectorZero_124 ⟨Nat.zero_le _, Nat.zero_le _⟩ (fun H locs hP hS => ?_)
    refine lv_istore_n (lv' := [(2, .int (r4)), (1, .int (t0)), (0, .ref (ad (6)))]) hx hb dX9_readSectorZero_127 rfl hl (by decide) rfl (fun ls hl => ?_)
    refine lv_aload_n hx hb dX9_readSectorZero_128 rfl (lv_at hl 2 rfl) ?_
    refine cg_X9_disk hx hb hT hown hK hP mw4_2 dX9_readSectorZero_129 ?_
    refine lv_bipush (v := (44 : Int32)) hx hb dX9_readSectorZero_132 (by decide) ?_
    replace hF := obnd3_of hF
    obtain ⟨r8, fi6, ar7, h5, hF⟩ := hF
    refine cC_i (As := [.int (44 : Int32)]) (rest := []) hx hb hml hT hown hK hE hD hA hP hS (rcv_X3 hK hP) (kX3_four l g ad rd _ nf ln fi2 ar3 (44 : Int32) r8 fi6 ar7 h5) cw_X3_four mw16_8 ⟨⟨rfl, rfl⟩, Nat.le_of_ble_eq_true rfl, Nat.le_of_ble_eq_true rfl⟩ rfl hl.1 rfl (Nat.le_of_ble_eq_true rfl) dX9_readSectorZero_134 ⟨Nat.zero_le _, Nat.zero_le _⟩ (fun H locs hP hS => ?_)
    refine lv_istore_n (lv' := [(3, .int (r8)), (2, .int (r4)), (1, .int (t0)), (0, .ref (ad (6)))]) hx hb dX9_readSectorZero_137 rfl hl (by decide) rfl (fun ls hl => ?_)
    refine lv_aload_n hx hb dX9_readSectorZero_138 rfl (lv_at hl 3 rfl) ?_
    refine cg_X9_disk hx hb hT hown hK hP mw4_2 dX9_readSectorZero_139 ?_
    refine lv_bipush (v := (36 : Int32)) hx hb dX9_readSectorZero_142 (by decide) ?_
    replace hF := obnd3_of hF
    obtain ⟨r12, fi10, ar11, h9, hF⟩ := hF
    refine cC_i (As := [.int (36 : Int32)]) (rest := []) hx hb hml hT hown hK hE hD hA hP hS (rcv_X3 hK hP) (kX3_four l g ad rd _ nf ln fi6 ar7 (36 : Int32) r12 fi10 ar11 h9) cw_X3_four mw16_8 ⟨⟨rfl, rfl⟩, Nat.le_of_ble_eq_true rfl, Nat.le_of_ble_eq_true rfl⟩ rfl hl.1 rfl (Nat.le_of_ble_eq_true rfl) dX9_readSectorZero_144 ⟨Nat.zero_le _, Nat.zero_le _⟩ (fun H locs hP hS => ?_)
    refine lv_istore (lv' := [(4, .int (r12)), (3, .int (r8)), (2, .int (r4)), (1, .int (t0)), (0, .ref (ad (6)))]) hx hb dX9_readSectorZero_147 hl (by decide) rfl (fun ls hl => ?_)
    refine lv_iload_n hx hb dX9_readSectorZero_149 rfl (lv_at hl 3 rfl) ?_
    refine lv_if_eq (tgt := 181) hx hb dX9_readSectorZero_150 (by decide) (fun hc13 => ?_) (fun hc13 => ?_)
    · replace hF := br_yes hF hc13
      exact J181  _ _ _ _ _ hF (lv_sub hl [4] rfl) hP hS
    · replace hF := br_no hF hc13
      refine lv_aload_n hx hb dX9_readSectorZero_153 rfl (lv_at hl 4 rfl) ?_
      refine lv_iload_n hx hb dX9_readSectorZero_154 rfl (lv_at hl 2 rfl) ?_
      refine lv_aload_n hx hb dX9_readSectorZero_155 rfl (lv_at hl 4 rfl) ?_
      refine cg_X9_disk hx hb hT hown hK hP mw4_2 dX9_readSectorZero_156 ?_
      refine lv_bipush (v := (14 : Int32)) hx hb dX9_readSectorZero_159 (by decide) ?_
      replace hF := obnd3_of hF
      obtain ⟨r17, fi15, ar16, h14, hF⟩ := hF
      refine cC_i (As := [.int (14 : Int32)]) (rest := [.int (r4), .ref (ad (6))]) hx hb hml hT hown hK hE hD hA hP hS (rcv_X3 hK hP) (kX3_two l g ad rd _ nf ln fi10 ar11 (14 : Int32) r17 fi15 ar16 h14) cw_X3_two mw22_1 ⟨⟨rfl, rfl⟩, Nat.le_of_ble_eq_true rfl, Nat.le_of_ble_eq_true rfl⟩ rfl hl.1 rfl (Nat.le_of_ble_eq_true rfl) dX9_readSectorZero_161 ⟨Nat.zero_le _, Nat.zero_le _⟩ (fun H locs hP hS => ?_)
      refine lv_aload_n hx hb dX9_readSectorZero_164 rfl (lv_at hl 4 rfl) ?_
      refine cg_X9_disk hx hb hT hown hK hP mw4_2 dX9_readSectorZero_165 ?_
      refine lv_bipush (v := (16 : Int32)) hx hb dX9_readSectorZero_168 (by decide) ?_
      replace hF := obnd3_of hF
      obtain ⟨r21, fi19, ar20, h18, hF⟩ := hF
      refine cC_i (As := [.int (16 : Int32)]) (rest := [.int (r17), .int (r4), .ref (ad (6))]) hx hb hml hT hown hK hE hD hA hP hS (rcv_X3 hK hP) (kX3_one l g ad rd _ nf ln fi15 ar16 (16 : Int32) r21 fi19 ar20 h18) cw_X3_one mw22_6 ⟨⟨rfl, rfl⟩, Nat.le_of_ble_eq_true rfl, Nat.le_of_ble_eq_true rfl⟩ rfl hl.1 rfl (Nat.le_of_ble_eq_true rfl) dX9_readSectorZero_170 ⟨Nat.zero_le _, Nat.zero_le _⟩ (fun H locs hP hS => ?_)
      refine lv_iload hx hb dX9_readSectorZero_173 (lv_at hl 0 rfl) ?_
      replace hF := obnd3_of hF
      obtain ⟨r25, fi23, ar24, h22, hF⟩ := hF
      refine cC_i (As := [.int (r4), .int (r17), .int (r21), .int (r12)]) (rest := []) hx hb hml hT hown hK hE hD hA hP hS (rcv_X9 hK hP) (kX9_tableFits l g ad rd _ nf ln fi19 ar20 (r4) (r17) (r21) (r12) r25 fi23 ar24 h22) cw_X9_tableFits mw9_11 ⟨⟨rfl, rfl⟩, Nat.le_of_ble_eq_true rfl, Nat.le_of_ble_eq_true rfl⟩ rfl hl.1 rfl (Nat.le_of_ble_eq_true rfl) dX9_readSectorZero_175 ⟨Nat.zero_le _, Nat.zero_le _⟩ (fun H locs hP hS => ?_)
      refine lv_if_ne (tgt := 183) hx hb dX9_readSectorZero_178 (by decide) (fun hc26 => ?_) (fun hc26 => ?_)
      · replace hF := br_no hF hc26
        refine lv_iload_n hx hb dX9_readSectorZero_183 rfl (lv_at hl 1 rfl) ?_
        refine lv_iconst (v := (2 : Int32)) hx hb dX9_readSectorZero_184 (by decide) ?_
        refine lv_icmp_lt (tgt := 221) hx hb dX9_readSectorZero_185 (by decide) (fun hc27 => ?_) (fun hc27 => ?_)
        · replace hF := br_yes hF hc27
          exact J221  _ _ _ _ _ hF (lv_sub hl [4] rfl) hP hS
        · replace hF := br_no hF hc27
          refine lv_iload_n hx hb dX9_readSectorZero_188 rfl (lv_at hl 1 rfl) ?_
          refine lv_aload_n hx hb dX9_readSectorZero_189 rfl (lv_at hl 4 rfl) ?_
          refine lv_iload_n hx hb dX9_readSectorZero_190 rfl (lv_at hl 2 rfl) ?_
          refine lv_aload_n hx hb dX9_readSectorZero_191 rfl (lv_at hl 4 rfl) ?_
          refine cg_X9_disk hx hb hT hown hK hP mw4_2 dX9_readSectorZero_192 ?_
          refine lv_bipush (v := (14 : Int32)) hx hb dX9_readSectorZero_195 (by decide) ?_
          replace hF := obnd3_of hF
          obtain ⟨r31, fi29, ar30, h28, hF⟩ := hF
          refine cC_i (As := [.int (14 : Int32)]) (rest := [.int (r4), .ref (ad (6)), .int (r8)]) hx hb hml hT hown hK hE hD hA hP hS (rcv_X3 hK hP) (kX3_two l g ad rd _ nf ln fi23 ar24 (14 : Int32) r31 fi29 ar30 h28) cw_X3_two mw22_1 ⟨⟨rfl, rfl⟩, Nat.le_of_ble_eq_true rfl, Nat.le_of_ble_eq_true rfl⟩ rfl hl.1 rfl (Nat.le_of_ble_eq_true rfl) dX9_readSectorZero_197 ⟨Nat.zero_le _, Nat.zero_le _⟩ (fun H locs hP hS => ?_)
          refine lv_aload_n hx hb dX9_readSectorZero_200 rfl (lv_at hl 4 rfl) ?_
          refine cg_X9_disk hx hb hT hown hK hP mw4_2 dX9_readSectorZero_201 ?_
          refine lv_bipush (v := (16 : Int32)) hx hb dX9_readSectorZero_204 (by decide) ?_
          replace hF := obnd3_of hF
          obtain ⟨r35, fi33, ar34, h32, hF⟩ := hF
          refine cC_i (As := [.int (16 : Int32)]) (rest := [.int (r31), .int (r4), .ref (ad (6)), .int (r8)]) hx hb hml hT hown hK hE hD hA hP hS (rcv_X3 hK hP) (kX3_one l g ad rd _ nf ln fi29 ar30 (16 : Int32) r35 fi33 ar34 h32) cw_X3_one mw22_6 ⟨⟨rfl, rfl⟩, Nat.le_of_ble_eq_true rfl, Nat.le_of_ble_eq_true rfl⟩ rfl hl.1 rfl (Nat.le_of_ble_eq_true rfl) dX9_readSectorZero_206 ⟨Nat.zero_le _, Nat.zero_le _⟩ (fun H locs hP hS => ?_)
          refine lv_iload hx hb dX9_readSectorZero_209 (lv_at hl 0 rfl) ?_
          refine lv_imul hx hb dX9_readSectorZero_211 ?_
          refine lv_iadd hx hb dX9_readSectorZero_212 ?_
          replace hF := obnd3_of hF
          obtain ⟨r39, fi37, ar38, h36, hF⟩ := hF
          refine cC_i (As := [.int (r4), .int ((r31) + ((r35) * (r12)))]) (rest := [.int (r8)]) hx hb hml hT hown hK hE hD hA hP hS (rcv_X9 hK hP) (kX9_clusterCount l g ad rd _ nf ln fi33 ar34 (r4) ((r31) + ((r35) * (r12))) r39 fi37 ar38 h36) cw_X9_clusterCount mw9_15 ⟨⟨rfl, rfl⟩, Nat.le_of_ble_eq_true rfl, Nat.le_of_ble_eq_true rfl⟩ rfl hl.1 rfl (Nat.le_of_ble_eq_true rfl) dX9_readSectorZero_213 ⟨Nat.zero_le _, Nat.zero_le _⟩ (fun H locs hP hS => ?_)
          refine lv_iconst (v := (1 : Int32)) hx hb dX9_readSectorZero_216 (by decide) ?_
          refine lv_iadd hx hb dX9_readSectorZero_217 ?_
          refine lv_icmp_le (tgt := 223) hx hb dX9_readSectorZero_218 (by decide) (fun hc40 => ?_) (fun hc40 => ?_)
          · replace hF := br_yes hF hc40
            refine lv_aload_n hx hb dX9_readSectorZero_223 rfl (lv_at hl 4 rfl) ?_
            refine lv_iload_n hx hb dX9_readSectorZero_224 rfl (lv_at hl 2 rfl) ?_
            refine lv_aload_n hx hb dX9_readSectorZero_225 rfl (lv_at hl 4 rfl) ?_
            refine cg_X9_disk hx hb hT hown hK hP mw4_2 dX9_readSectorZero_226 ?_
            refine lv_bipush (v := (14 : Int32)) hx hb dX9_readSectorZero_229 (by decide) ?_
            replace hF := obnd3_of hF
            obtain ⟨r44, fi42, ar43, h41, hF⟩ := hF
            refine cC_i (As := [.int (14 : Int32)]) (rest := [.int (r4), .ref (ad (6))]) hx hb hml hT hown hK hE hD hA hP hS (rcv_X3 hK hP) (kX3_two l g ad rd _ nf ln fi37 ar38 (14 : Int32) r44 fi42 ar43 h41) cw_X3_two mw22_1 ⟨⟨rfl, rfl⟩, Nat.le_of_ble_eq_true rfl, Nat.le_of_ble_eq_true rfl⟩ rfl hl.1 rfl (Nat.le_of_ble_eq_true rfl) dX9_readSectorZero_231 ⟨Nat.zero_le _, Nat.zero_le _⟩ (fun H locs hP hS => ?_)
            refine lv_aload_n hx hb dX9_readSectorZero_234 rfl (lv_at hl 4 rfl) ?_
            refine cg_X9_disk hx hb hT hown hK hP mw4_2 dX9_readSectorZero_235 ?_
            refine lv_bipush (v := (16 : Int32)) hx hb dX9_readSectorZero_238 (by decide) ?_
            replace hF := obnd3_of hF
            obtain ⟨r48, fi46, ar47, h45, hF⟩ := hF
            refine cC_i (As := [.int (16 : Int32)]) (rest := [.int (r44), .int (r4), .ref (ad (6))]) hx hb hml hT hown hK hE hD hA hP hS (rcv_X3 hK hP) (kX3_one l g ad rd _ nf ln fi42 ar43 (16 : Int32) r48 fi46 ar47 h45) cw_X3_one mw22_6 ⟨⟨rfl, rfl⟩, Nat.le_of_ble_eq_true rfl, Nat.le_of_ble_eq_true rfl⟩ rfl hl.1 rfl (Nat.le_of_ble_eq_true rfl) dX9_readSectorZero_240 ⟨Nat.zero_le _, Nat.zero_le _⟩ (fun H locs hP hS => ?_)
            refine lv_iload hx hb dX9_readSectorZero_243 (lv_at hl 0 rfl) ?_
            refine lv_iload_n hx hb dX9_readSectorZero_245 rfl (lv_at hl 1 rfl) ?_
            replace hF := obnd3_of hF
            obtain ⟨r52, fi50, ar51, h49, hF⟩ := hF
            refine cC_v (As := [.int (r4), .int (r44), .int (r48), .int (r12), .int (r8)]) (rest := []) hx hb hml hT hown hK hE hD hA hP hS (rcv_X9 hK hP) (kX9_adopt l g ad rd _ nf ln fi46 ar47 (r4) (r44) (r48) (r12) (r8) r52 fi50 ar51 h49) cw_X9_adopt mw15_17 ⟨⟨rfl, rfl⟩, Nat.le_of_ble_eq_true rfl, Nat.le_of_ble_eq_true rfl⟩ rfl hl.1 rfl (Nat.le_of_ble_eq_true rfl) dX9_readSectorZero_246 ⟨Nat.zero_le _, Nat.zero_le _⟩ (fun H locs hP hS => ?_)
            refine lv_iconst (v := (1 : Int32)) hx hb dX9_readSectorZero_249 (by decide) ?_
            exact rC_z hx hb hr hlocks rfl hF hP hS dX9_readSectorZero_250
          · replace hF := br_no hF hc40
            exact J221  _ _ _ _ _ hF (lv_sub hl [4] rfl) hP hS
      · replace hF := br_yes hF hc26
        exact J181  _ _ _ _ _ hF (lv_sub hl [4] rfl) hP hS
  have J116 : ∀  (fi : FI) (ar : AR) (H : Heap) (locs : List Loc) (ls : Array Slot), FX9_readSectorZero_116 nf ln fi ar = some (r, fi', ar') → lv_has ls 5 [(0, .ref (ad (6)))] → va_P (gD g) vwCl (WC g ad rd ln fi ar) H → va_S (AC ad rd s.heap.size) s.heap H locs → W p l e (headSpec (wx yX9_readSectorZero cX9_readSectorZero 5 (some .boolean)) ({ frames := 3, cells := 0, slots := 0, locals := 68 } : Room)).room s m ([.ref (ad (6))] : List Value).toArray below meth c H locs 0 0 (MQ below (QCi g ad rd ln s.heap.size r fi' ar') ([.ref (ad (6))] : List Value).toArray s 0 0 (AC ad rd s.heap.size)) (F0 m 116 ls []) := by
    intro fi ar H locs ls hF hl hP hS
    unfold FX9_readSectorZero_116 at hF
    refine lv_iconst (v := (0 : Int32)) hx hb dX9_readSectorZero_116 (by decide) ?_
    exact J117 (0 : Int32) _ _ _ _ _ hF (lv_sub hl [0] rfl) hP hS
  replace hl := lv_sub hl [0] rfl
  refine lv_aload_n hx hb dX9_readSectorZero_0 rfl (lv_at hl 0 rfl) ?_
  refine cg_X9_disk hx hb hT hown hK hP mw4_2 dX9_readSectorZero_1 ?_
  refine lv_bipush (v := (11 : Int32)) hx hb dX9_readSectorZero_4 (by decide) ?_
  replace hF := obnd3_of hF
  obtain ⟨r56, fi54, ar55, h53, hF⟩ := hF
  refine cC_i (As := [.int (11 : Int32)]) (rest := []) hx hb hml hT hown hK hE hD hA hP hS (rcv_X3 hK hP) (kX3_two l g ad rd _ nf ln fi ar (11 : Int32) r56 fi54 ar55 h53) cw_X3_two mw22_1 ⟨⟨rfl, rfl⟩, Nat.le_of_ble_eq_true rfl, Nat.le_of_ble_eq_true rfl⟩ rfl hl.1 rfl (Nat.le_of_ble_eq_true rfl) dX9_readSectorZero_6 ⟨Nat.zero_le _, Nat.zero_le _⟩ (fun H locs hP hS => ?_)
  refine lv_sipush (v := (512 : Int32)) hx hb dX9_readSectorZero_9 (by decide) ?_
  refine lv_icmp_ne (tgt := 116) hx hb dX9_readSectorZero_12 (by decide) (fun hc57 => ?_) (fun hc57 => ?_)
  · replace hF := br_no hF hc57
    exact J116  _ _ _ _ _ hF (lv_sub hl [0] rfl) hP hS
  · replace hF := br_yes hF hc57
    refine lv_aload_n hx hb dX9_readSectorZero_15 rfl (lv_at hl 0 rfl) ?_
    refine cg_X9_disk hx hb hT hown hK hP mw4_2 dX9_readSectorZero_16 ?_
    refine lv_bipush (v := (17 : Int32)) hx hb dX9_readSectorZero_19 (by decide) ?_
    replace hF := obnd3_of hF
    obtain ⟨r61, fi59, ar60, h58, hF⟩ := hF
    refine cC_i (As := [.int (17 : Int32)]) (rest := []) hx hb hml hT hown hK hE hD hA hP hS (rcv_X3 hK hP) (kX3_two l g ad rd _ nf ln fi54 ar55 (17 : Int32) r61 fi59 ar60 h58) cw_X3_two mw22_1 ⟨⟨rfl, rfl⟩, Nat.le_of_ble_eq_true rfl, Nat.le_of_ble_eq_true rfl⟩ rfl hl.1 rfl (Nat.le_of_ble_eq_true rfl) dX9_readSectorZero_21 ⟨Nat.zero_le _, Nat.zero_le _⟩ (fun H locs hP hS => ?_)
    refine lv_if_ne (tgt := 116) hx hb dX9_readSectorZero_24 (by decide) (fun hc62 => ?_) (fun hc62 => ?_)
    · replace hF := br_no hF hc62
      exact J116  _ _ _ _ _ hF (lv_sub hl [0] rfl) hP hS
    · replace hF := br_yes hF hc62
      refine lv_aload_n hx hb dX9_readSectorZero_27 rfl (lv_at hl 0 rfl) ?_
      refine cg_X9_disk hx hb hT hown hK hP mw4_2 dX9_readSectorZero_28 ?_
      refine lv_bipush (v := (19 : Int32)) hx hb dX9_readSectorZero_31 (by decide) ?_
      replace hF := obnd3_of hF
      obtain ⟨r66, fi64, ar65, h63, hF⟩ := hF
      refine cC_i (As := [.int (19 : Int32)]) (rest := []) hx hb hml hT hown hK hE hD hA hP hS (rcv_X3 hK hP) (kX3_two l g ad rd _ nf ln fi59 ar60 (19 : Int32) r66 fi64 ar65 h63) cw_X3_two mw22_1 ⟨⟨rfl, rfl⟩, Nat.le_of_ble_eq_true rfl, Nat.le_of_ble_eq_true rfl⟩ rfl hl.1 rfl (Nat.le_of_ble_eq_true rfl) dX9_readSectorZero_33 ⟨Nat.zero_le _, Nat.zero_le _⟩ (fun H locs hP hS => ?_)
      refine lv_if_ne (tgt := 116) hx hb dX9_readSectorZero_36 (by decide) (fun hc67 => ?_) (fun hc67 => ?_)
      · replace hF := br_no hF hc67
        exact J116  _ _ _ _ _ hF (lv_sub hl [0] rfl) hP hS
      · replace hF := br_yes hF hc67
        refine lv_aload_n hx hb dX9_readSectorZero_39 rfl (lv_at hl 0 rfl) ?_
        refine cg_X9_disk hx hb hT hown hK hP mw4_2 dX9_readSectorZero_40 ?_
        refine lv_bipush (v := (22 : Int32)) hx hb dX9_readSectorZero_43 (by decide) ?_
        replace hF := obnd3_of hF
        obtain ⟨r71, fi69, ar70, h68, hF⟩ := hF
        refine cC_i (As := [.int (22 : Int32)]) (rest := []) hx hb hml hT hown hK hE hD hA hP hS (rcv_X3 hK hP) (kX3_two l g ad rd _ nf ln fi64 ar65 (22 : Int32) r71 fi69 ar70 h68) cw_X3_two mw22_1 ⟨⟨rfl, rfl⟩, Nat.le_of_ble_eq_true rfl, Nat.le_of_ble_eq_true rfl⟩ rfl hl.1 rfl (Nat.le_of_ble_eq_true rfl) dX9_readSectorZero_45 ⟨Nat.zero_le _, Nat.zero_le _⟩ (fun H locs hP hS => ?_)
        refine lv_if_ne (tgt := 116) hx hb dX9_readSectorZero_48 (by decide) (fun hc72 => ?_) (fun hc72 => ?_)
        · replace hF := br_no hF hc72
          exact J116  _ _ _ _ _ hF (lv_sub hl [0] rfl) hP hS
        · replace hF := br_yes hF hc72
          refine lv_aload_n hx hb dX9_readSectorZero_51 rfl (lv_at hl 0 rfl) ?_
          refine cg_X9_disk hx hb hT hown hK hP mw4_2 dX9_readSectorZero_52 ?_
          refine lv_bipush (v := (32 : Int32)) hx hb dX9_readSectorZero_55 (by decide) ?_
          replace hF := obnd3_of hF
          obtain ⟨r76, fi74, ar75, h73, hF⟩ := hF
          refine cC_i (As := [.int (32 : Int32)]) (rest := []) hx hb hml hT hown hK hE hD hA hP hS (rcv_X3 hK hP) (kX3_four l g ad rd _ nf ln fi69 ar70 (32 : Int32) r76 fi74 ar75 h73) cw_X3_four mw16_8 ⟨⟨rfl, rfl⟩, Nat.le_of_ble_eq_true rfl, Nat.le_of_ble_eq_true rfl⟩ rfl hl.1 rfl (Nat.le_of_ble_eq_true rfl) dX9_readSectorZero_57 ⟨Nat.zero_le _, Nat.zero_le _⟩ (fun H locs hP hS => ?_)
          refine lv_aload_n hx hb dX9_readSectorZero_60 rfl (lv_at hl 0 rfl) ?_
          refine cg_X9_disk hx hb hT hown hK hP mw4_2 dX9_readSectorZero_61 ?_
          refine cg_X3_sectors hx hb hT hown hK hP mw9_19 dX9_readSectorZero_64 ?_
          refine lv_icmp_ne (tgt := 116) hx hb dX9_readSectorZero_67 (by decide) (fun hc77 => ?_) (fun hc77 => ?_)
          · replace hF := br_no hF hc77
            exact J116  _ _ _ _ _ hF (lv_sub hl [0] rfl) hP hS
          · replace hF := br_yes hF hc77
            refine lv_aload_n hx hb dX9_readSectorZero_70 rfl (lv_at hl 0 rfl) ?_
            refine cg_X9_disk hx hb hT hown hK hP mw4_2 dX9_readSectorZero_71 ?_
            refine lv_bipush (v := (48 : Int32)) hx hb dX9_readSectorZero_74 (by decide) ?_
            replace hF := obnd3_of hF
            obtain ⟨r81, fi79, ar80, h78, hF⟩ := hF
            refine cC_i (As := [.int (48 : Int32)]) (rest := []) hx hb hml hT hown hK hE hD hA hP hS (rcv_X3 hK hP) (kX3_two l g ad rd _ nf ln fi74 ar75 (48 : Int32) r81 fi79 ar80 h78) cw_X3_two mw22_1 ⟨⟨rfl, rfl⟩, Nat.le_of_ble_eq_true rfl, Nat.le_of_ble_eq_true rfl⟩ rfl hl.1 rfl (Nat.le_of_ble_eq_true rfl) dX9_readSectorZero_76 ⟨Nat.zero_le _, Nat.zero_le _⟩ (fun H locs hP hS => ?_)
            refine lv_iconst (v := (1 : Int32)) hx hb dX9_readSectorZero_79 (by decide) ?_
            refine lv_icmp_ne (tgt := 116) hx hb dX9_readSectorZero_80 (by decide) (fun hc82 => ?_) (fun hc82 => ?_)
            · replace hF := br_no hF hc82
              exact J116  _ _ _ _ _ hF (lv_sub hl [0] rfl) hP hS
            · replace hF := br_yes hF hc82
              refine lv_aload_n hx hb dX9_readSectorZero_83 rfl (lv_at hl 0 rfl) ?_
              refine cg_X9_disk hx hb hT hown hK hP mw4_2 dX9_readSectorZero_84 ?_
              refine lv_bipush (v := (50 : Int32)) hx hb dX9_readSectorZero_87 (by decide) ?_
              replace hF := obnd3_of hF
              obtain ⟨r86, fi84, ar85, h83, hF⟩ := hF
              refine cC_i (As := [.int (50 : Int32)]) (rest := []) hx hb hml hT hown hK hE hD hA hP hS (rcv_X3 hK hP) (kX3_two l g ad rd _ nf ln fi79 ar80 (50 : Int32) r86 fi84 ar85 h83) cw_X3_two mw22_1 ⟨⟨rfl, rfl⟩, Nat.le_of_ble_eq_true rfl, Nat.le_of_ble_eq_true rfl⟩ rfl hl.1 rfl (Nat.le_of_ble_eq_true rfl) dX9_readSectorZero_89 ⟨Nat.zero_le _, Nat.zero_le _⟩ (fun H locs hP hS => ?_)
              refine lv_bipush (v := (6 : Int32)) hx hb dX9_readSectorZero_92 (by decide) ?_
              refine lv_icmp_ne (tgt := 116) hx hb dX9_readSectorZero_94 (by decide) (fun hc87 => ?_) (fun hc87 => ?_)
              · replace hF := br_no hF hc87
                exact J116  _ _ _ _ _ hF (lv_sub hl [0] rfl) hP hS
              · replace hF := br_yes hF hc87
                refine lv_aload_n hx hb dX9_readSectorZero_97 rfl (lv_at hl 0 rfl) ?_
                refine cg_X9_disk hx hb hT hown hK hP mw4_2 dX9_readSectorZero_98 ?_
                refine lv_sipush (v := (510 : Int32)) hx hb dX9_readSectorZero_101 (by decide) ?_
                replace hF := obnd3_of hF
                obtain ⟨r91, fi89, ar90, h88, hF⟩ := hF
                refine cC_i (As := [.int (510 : Int32)]) (rest := []) hx hb hml hT hown hK hE hD hA hP hS (rcv_X3 hK hP) (kX3_two l g ad rd _ nf ln fi84 ar85 (510 : Int32) r91 fi89 ar90 h88) cw_X3_two mw22_1 ⟨⟨rfl, rfl⟩, Nat.le_of_ble_eq_true rfl, Nat.le_of_ble_eq_true rfl⟩ rfl hl.1 rfl (Nat.le_of_ble_eq_true rfl) dX9_readSectorZero_104 ⟨Nat.zero_le _, Nat.zero_le _⟩ (fun H locs hP hS => ?_)
                refine lv_ldc (v := (43605 : Int32)) hx hb hown (hT _ mw14_9) dX9_readSectorZero_107 ?_
                refine lv_icmp_ne (tgt := 116) hx hb dX9_readSectorZero_109 (by decide) (fun hc92 => ?_) (fun hc92 => ?_)
                · replace hF := br_no hF hc92
                  exact J116  _ _ _ _ _ hF (lv_sub hl [0] rfl) hP hS
                · replace hF := br_yes hF hc92
                  refine lv_iconst (v := (1 : Int32)) hx hb dX9_readSectorZero_112 (by decide) ?_
                  refine lv_goto (tgt := 117) hx hb dX9_readSectorZero_113 (by decide) ?_
                  exact J117 (1 : Int32) _ _ _ _ _ hF (lv_sub hl [0] rfl) hP hS
theorem cw_X9_readSectorZero : (Cond.instanceMethod yX9_readSectorZero ∈ TB ∧ Cond.selects RX9 yX9_readSectorZero yX9_readSectorZero ∈ TB ∧ Cond.code yX9_readSectorZero cX9_readSectorZero 5 (some .boolean) ∈ TB ∧ Cond.initialized RX9 ∈ TB) ∧ (yX9_readSectorZero.cls = RX9 ∧ yX9_readSectorZero.cls ≠ "java/lang/invoke/MethodHandle" ∧ yX9_readSectorZero.cls ≠ "java/lang/invoke/VarHandle" ∧ (parseMethodDescriptor yX9_readSectorZero.desc).map (fun d => d.parameters.length) = some 0) := ⟨⟨mw21_22, mw21_23, mw22_0, mw2_10⟩, by decide +kernel⟩
