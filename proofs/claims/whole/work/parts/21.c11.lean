/-! X10_isAlikeHere -/
noncomputable def FX10_isAlikeHere_2b (K2 : Int32 → FI → AR → Option (Int32 × FI × AR)) (nf : Nat) (ln : LN) (x1 : Int32) (fi : FI) (ar : AR) : Option (Int32 × FI × AR) :=
  br ((fi (20 + 10 * 0)) ≤ (x1)) (some ((0 : Int32), fi, ar)) (obnd3 (FX2_slotOf nf ln 0 fi ar (x1)) fun r5 fi3 ar4 => obnd3 (FX2_partsOf nf ln 0 fi3 ar4 (x1)) fun r9 fi7 ar8 => obnd3 (FX6_read nf ln 1 0 fi7 ar8 (r5) (r9)) fun r13 fi11 ar12 => obnd3 (FX6_isAlike nf ln 0 1 fi11 ar12) fun r17 fi15 ar16 => br ((r17) = 0) (bnd ((x1) + (1 : Int32)) fun x1_19 => K2 (x1_19) fi15 ar16) (some ((1 : Int32), fi15, ar16)))
noncomputable def FX10_isAlikeHere_2 (nf : Nat) (ln : LN) (kf : Nat) : Int32 → FI → AR → Option (Int32 × FI × AR) := Nat.rec (fun _ _ _ => none) (fun _ K2 => FX10_isAlikeHere_2b K2 nf ln) kf
noncomputable def FX10_isAlikeHere (nf : Nat) (ln : LN) (fi : FI) (ar : AR)  : Option (Int32 × FI × AR) :=
  FX10_isAlikeHere_2 nf ln nf (0 : Int32) fi ar
set_option maxHeartbeats 4000000 in
set_option maxRecDepth 100000 in
theorem kX10_isAlikeHere (l : Launch) (g : GT) (ad rd : Nat → Nat) (sz : Nat) (nf : Nat) (ln : LN) (fi : FI) (ar : AR)  (r : Int32) (fi' : FI) (ar' : AR) (hF : FX10_isAlikeHere nf ln fi ar  = some (r, fi', ar')) : Met l yX10_isAlikeHere (wx yX10_isAlikeHere cX10_isAlikeHere 2 (some .boolean)) ({ frames := 2, cells := 0, slots := 0, locals := 51 } : Room) (va_Pc [.ref (ad (0))] (PC g ad rd ln sz fi ar)) (QCi g ad rd ln sz r fi' ar') 0 0 (AC ad rd sz) := by
  refine Met.ofW (cc := cX10_isAlikeHere) (maxL := 2) (ret := (some .boolean)) (by decide) rfl ?_
  intro p e s m args below meth c s₁ B hml hv
  obtain ⟨rfl, hsz, hP, hK, hD0, hE⟩ := hv
  have hx := B.exec
  have hb := B.bytes
  have hr := B.returns
  have hts := atoms_spec (ws := (wx yX10_isAlikeHere cX10_isAlikeHere 2 (some .boolean))) B.pre
  have hT : ∀ w ∈ TB, w.before _ s = true := fun w h => hts w (List.mem_cons_of_mem _ h)
  have hown : s.vm.findClass RX10 = some m.cls := findClass_of_methodNamed B.named
  have hlocks := B.notSynchronized
  subst hsz
  have hD := dC hD0 s.heap.size
  have hA : ∀ q : Nat, s.heap.size ≤ q → AC ad rd s.heap.size q := fun q h => Or.inr h
  have hS : va_S (AC ad rd s.heap.size) s.heap s.heap [] := va_S.rf
  have hl := lv_entry ([.ref (ad (0))]) (n := 2) (Nat.le_of_ble_eq_true rfl)
  rw [lg_entry_eq]
  generalize (lg_sl ([.ref (ad (0))]) ++ List.replicate (2 - (lg_sl ([.ref (ad (0))])).length) Slot.unset).toArray = ls at hl ⊢
  have hl : lv_has ls 2 [(0, .ref (ad (0)))] := hl
  unfold FX10_isAlikeHere at hF
  have L2 : ∀ kf : Nat, ∀ (x1 : Int32) (fi : FI) (ar : AR) (H : Heap) (locs : List Loc) (ls : Array Slot), FX10_isAlikeHere_2 nf ln kf x1 fi ar = some (r, fi', ar') → lv_has ls 2 [(0, .ref (ad (0))), (1, .int x1)] → va_P (gD g) vwCl (WC g ad rd ln fi ar) H → va_S (AC ad rd s.heap.size) s.heap H locs → W p l e (headSpec (wx yX10_isAlikeHere cX10_isAlikeHere 2 (some .boolean)) ({ frames := 2, cells := 0, slots := 0, locals := 51 } : Room)).room s m ([.ref (ad (0))] : List Value).toArray below meth c H locs 0 0 (MQ below (QCi g ad rd ln s.heap.size r fi' ar') ([.ref (ad (0))] : List Value).toArray s 0 0 (AC ad rd s.heap.size)) (F0 m 2 ls []) := by
    intro kf
    induction kf with
    | zero => intro x1 fi ar H locs ls hF hl hP hS; cases (show (none : Option (Int32 × FI × AR)) = _ from hF)
    | succ kf ih2 =>
      intro x1 fi ar H locs ls hF hl hP hS
      obtain ⟨K2, hK2⟩ : ∃ K : Int32 → FI → AR → Option (Int32 × FI × AR), K = FX10_isAlikeHere_2 nf ln kf := ⟨_, rfl⟩
      replace hF : FX10_isAlikeHere_2b K2 nf ln x1 fi ar = some (r, fi', ar') := by rw [hK2]; exact hF
      rw [← hK2] at ih2
      clear hK2
      unfold FX10_isAlikeHere_2b at hF
      refine lv_iload_n hx hb dX10_isAlikeHere_2 rfl (lv_at hl 1 rfl) ?_
      refine lv_aload_n hx hb dX10_isAlikeHere_3 rfl (lv_at hl 0 rfl) ?_
      refine cg_X10_here hx hb hT hown hK hP mw2_19 dX10_isAlikeHere_4 ?_
      refine cg_X2_count (by decide) hx hb hT hown hK hP mw37_15 dX10_isAlikeHere_7 ?_
      refine lv_icmp_ge (tgt := 62) hx hb dX10_isAlikeHere_10 (by decide) (fun hc1 => ?_) (fun hc1 => ?_)
      · replace hF := br_yes hF hc1
        refine lv_iconst (v := (0 : Int32)) hx hb dX10_isAlikeHere_62 (by decide) ?_
        exact rC_z hx hb hr hlocks rfl hF hP hS dX10_isAlikeHere_63
      · replace hF := br_no hF hc1
        refine lv_aload_n hx hb dX10_isAlikeHere_13 rfl (lv_at hl 0 rfl) ?_
        refine cg_X10_otherName hx hb hT hown hK hP mw3_1 dX10_isAlikeHere_14 ?_
        refine lv_aload_n hx hb dX10_isAlikeHere_17 rfl (lv_at hl 0 rfl) ?_
        refine cg_X10_here hx hb hT hown hK hP mw2_19 dX10_isAlikeHere_18 ?_
        refine lv_aload_n hx hb dX10_isAlikeHere_21 rfl (lv_at hl 0 rfl) ?_
        refine cg_X10_here hx hb hT hown hK hP mw2_19 dX10_isAlikeHere_22 ?_
        refine lv_iload_n hx hb dX10_isAlikeHere_25 rfl (lv_at hl 1 rfl) ?_
        replace hF := obnd3_of hF
        obtain ⟨r5, fi3, ar4, h2, hF⟩ := hF
        refine cC_i (As := [.int (x1)]) (rest := [.ref (ad (11 + 5 * 0)), .ref (ad (26 + 2 * 1))]) hx hb hml hT hown hK hE hD hA hP hS (rcv_X2 (by decide) hK hP) (kX2_slotOf l g ad rd _ nf ln 0 (by decide) fi ar (x1) r5 fi3 ar4 h2) cw_X2_slotOf mw39_12 ⟨⟨rfl, rfl⟩, Nat.le_of_ble_eq_true rfl, Nat.le_of_ble_eq_true rfl⟩ rfl hl.1 rfl (Nat.le_of_ble_eq_true rfl) dX10_isAlikeHere_26 ⟨Nat.zero_le _, Nat.zero_le _⟩ (fun H locs hP hS => ?_)
        refine lv_aload_n hx hb dX10_isAlikeHere_29 rfl (lv_at hl 0 rfl) ?_
        refine cg_X10_here hx hb hT hown hK hP mw2_19 dX10_isAlikeHere_30 ?_
        refine lv_iload_n hx hb dX10_isAlikeHere_33 rfl (lv_at hl 1 rfl) ?_
        replace hF := obnd3_of hF
        obtain ⟨r9, fi7, ar8, h6, hF⟩ := hF
        refine cC_i (As := [.int (x1)]) (rest := [.int (r5), .ref (ad (11 + 5 * 0)), .ref (ad (26 + 2 * 1))]) hx hb hml hT hown hK hE hD hA hP hS (rcv_X2 (by decide) hK hP) (kX2_partsOf l g ad rd _ nf ln 0 (by decide) fi3 ar4 (x1) r9 fi7 ar8 h6) cw_X2_partsOf mw39_14 ⟨⟨rfl, rfl⟩, Nat.le_of_ble_eq_true rfl, Nat.le_of_ble_eq_true rfl⟩ rfl hl.1 rfl (Nat.le_of_ble_eq_true rfl) dX10_isAlikeHere_34 ⟨Nat.zero_le _, Nat.zero_le _⟩ (fun H locs hP hS => ?_)
        replace hF := obnd3_of hF
        obtain ⟨r13, fi11, ar12, h10, hF⟩ := hF
        refine cC_v (As := [.ref (ad (11 + 5 * 0)), .int (r5), .int (r9)]) (rest := []) hx hb hml hT hown hK hE hD hA hP hS (rcv_X6 (by decide) hK hP) (kX6_read l g ad rd _ nf ln 1 0 (by decide) (by decide) fi7 ar8 (r5) (r9) r13 fi11 ar12 h10) cw_X6_read mw39_15 ⟨⟨rfl, rfl⟩, Nat.le_of_ble_eq_true rfl, Nat.le_of_ble_eq_true rfl⟩ rfl hl.1 rfl (Nat.le_of_ble_eq_true rfl) dX10_isAlikeHere_37 ⟨Nat.zero_le _, Nat.zero_le _⟩ (fun H locs hP hS => ?_)
        refine lv_aload_n hx hb dX10_isAlikeHere_40 rfl (lv_at hl 0 rfl) ?_
        refine cg_X10_name hx hb hT hown hK hP mw3_0 dX10_isAlikeHere_41 ?_
        refine lv_aload_n hx hb dX10_isAlikeHere_44 rfl (lv_at hl 0 rfl) ?_
        refine cg_X10_otherName hx hb hT hown hK hP mw3_1 dX10_isAlikeHere_45 ?_
        replace hF := obnd3_of hF
        obtain ⟨r17, fi15, ar16, h14, hF⟩ := hF
        refine cC_i (As := [.ref (ad (26 + 2 * 1))]) (rest := []) hx hb hml hT hown hK hE hD hA hP hS (rcv_X6 (by decide) hK hP) (kX6_isAlike l g ad rd _ nf ln 0 1 (by decide) (by decide) fi11 ar12 r17 fi15 ar16 h14) cw_X6_isAlike mw45_7 ⟨⟨rfl, rfl⟩, Nat.le_of_ble_eq_true rfl, Nat.le_of_ble_eq_true rfl⟩ rfl hl.1 rfl (Nat.le_of_ble_eq_true rfl) dX10_isAlikeHere_48 ⟨Nat.zero_le _, Nat.zero_le _⟩ (fun H locs hP hS => ?_)
        refine lv_if_eq (tgt := 56) hx hb dX10_isAlikeHere_51 (by decide) (fun hc18 => ?_) (fun hc18 => ?_)
        · replace hF := br_yes hF hc18
          obtain ⟨x1_19, ex1_19⟩ : ∃ y : Int32, y = (x1) + (1 : Int32) := ⟨_, rfl⟩
          replace hF := bnd_of hF ex1_19
          refine lv_iinc (v := x1_19) (lv' := [(1, .int (x1_19)), (0, .ref (ad (0)))]) hx hb dX10_isAlikeHere_56 hl (k := 1) rfl (by rw [ex1_19]; rfl) (by decide) rfl (fun ls hl => ?_)
          refine lv_goto (tgt := 2) hx hb dX10_isAlikeHere_59 (by decide) ?_
          exact ih2 (x1_19) _ _ _ _ _ hF (lv_sub hl [1, 0] rfl) hP hS
        · replace hF := br_no hF hc18
          refine lv_iconst (v := (1 : Int32)) hx hb dX10_isAlikeHere_54 (by decide) ?_
          exact rC_z hx hb hr hlocks rfl hF hP hS dX10_isAlikeHere_55
  replace hl := lv_sub hl [0] rfl
  refine lv_iconst (v := (0 : Int32)) hx hb dX10_isAlikeHere_0 (by decide) ?_
  refine lv_istore_n (lv' := [(1, .int (0 : Int32)), (0, .ref (ad (0)))]) hx hb dX10_isAlikeHere_1 rfl hl (by decide) rfl (fun ls hl => ?_)
  exact L2 nf (0 : Int32) _ _ _ _ _ hF (lv_sub hl [1, 0] rfl) hP hS
theorem cw_X10_isAlikeHere : (Cond.instanceMethod yX10_isAlikeHere ∈ TB ∧ Cond.selects RX10 yX10_isAlikeHere yX10_isAlikeHere ∈ TB ∧ Cond.code yX10_isAlikeHere cX10_isAlikeHere 2 (some .boolean) ∈ TB ∧ Cond.initialized RX10 ∈ TB) ∧ (yX10_isAlikeHere.cls = RX10 ∧ yX10_isAlikeHere.cls ≠ "java/lang/invoke/MethodHandle" ∧ yX10_isAlikeHere.cls ≠ "java/lang/invoke/VarHandle" ∧ (parseMethodDescriptor yX10_isAlikeHere.desc).map (fun d => d.parameters.length) = some 0) := ⟨⟨mw45_4, mw45_5, mw45_6, mw1_2⟩, by decide +kernel⟩
/-! X10_chooseTail -/
noncomputable def FX10_chooseTail_13b (K13 : Int32 → FI → AR → Option (Unit × FI × AR)) (nf : Nat) (ln : LN) (x1 : Int32) (fi : FI) (ar : AR) : Option (Unit × FI × AR) :=
  br (((fi (20 + 10 * 0)) + (1 : Int32)) < (x1)) (some ((), fi, ar)) (obnd3 (FX7_setTail nf ln 0 fi ar (x1)) fun r5 fi3 ar4 => obnd3 (FX2_hasShort nf ln 0 0 fi3 ar4) fun r9 fi7 ar8 => br ((r9) = 0) (some ((), fi7, ar8)) (bnd ((x1) + (1 : Int32)) fun x1_11 => K13 (x1_11) fi7 ar8))
noncomputable def FX10_chooseTail_13 (nf : Nat) (ln : LN) (kf : Nat) : Int32 → FI → AR → Option (Unit × FI × AR) := Nat.rec (fun _ _ _ => none) (fun _ K13 => FX10_chooseTail_13b K13 nf ln) kf
noncomputable def FX10_chooseTail (nf : Nat) (ln : LN) (fi : FI) (ar : AR)  : Option (Unit × FI × AR) :=
  obnd3 (FX7_readLong nf ln 0 0 fi ar) fun r15 fi13 ar14 => FX10_chooseTail_13 nf ln nf (1 : Int32) fi13 ar14
set_option maxHeartbeats 4000000 in
set_option maxRecDepth 100000 in
theorem kX10_chooseTail (l : Launch) (g : GT) (ad rd : Nat → Nat) (sz : Nat) (nf : Nat) (ln : LN) (fi : FI) (ar : AR)  (r : Unit) (fi' : FI) (ar' : AR) (hF : FX10_chooseTail nf ln fi ar  = some (r, fi', ar')) : Met l yX10_chooseTail (wx yX10_chooseTail cX10_chooseTail 2 none) ({ frames := 7, cells := 0, slots := 0, locals := 158 } : Room) (va_Pc [.ref (ad (0))] (PC g ad rd ln sz fi ar)) (QCv g ad rd ln sz r fi' ar') 0 0 (AC ad rd sz) := by
  refine Met.ofW (cc := cX10_chooseTail) (maxL := 2) (ret := none) (by decide) rfl ?_
  intro p e s m args below meth c s₁ B hml hv
  obtain ⟨rfl, hsz, hP, hK, hD0, hE⟩ := hv
  have hx := B.exec
  have hb := B.bytes
  have hr := B.returns
  have hts := atoms_spec (ws := (wx yX10_chooseTail cX10_chooseTail 2 none)) B.pre
  have hT : ∀ w ∈ TB, w.before _ s = true := fun w h => hts w (List.mem_cons_of_mem _ h)
  have hown : s.vm.findClass RX10 = some m.cls := findClass_of_methodNamed B.named
  have hlocks := B.notSynchronized
  subst hsz
  have hD := dC hD0 s.heap.size
  have hA : ∀ q : Nat, s.heap.size ≤ q → AC ad rd s.heap.size q := fun q h => Or.inr h
  have hS : va_S (AC ad rd s.heap.size) s.heap s.heap [] := va_S.rf
  have hl := lv_entry ([.ref (ad (0))]) (n := 2) (Nat.le_of_ble_eq_true rfl)
  rw [lg_entry_eq]
  generalize (lg_sl ([.ref (ad (0))]) ++ List.replicate (2 - (lg_sl ([.ref (ad (0))])).length) Slot.unset).toArray = ls at hl ⊢
  have hl : lv_has ls 2 [(0, .ref (ad (0)))] := hl
  unfold FX10_chooseTail at hF
  have L13 : ∀ kf : Nat, ∀ (x1 : Int32) (fi : FI) (ar : AR) (H : Heap) (locs : List Loc) (ls : Array Slot), FX10_chooseTail_13 nf ln kf x1 fi ar = some (r, fi', ar') → lv_has ls 2 [(0, .ref (ad (0))), (1, .int x1)] → va_P (gD g) vwCl (WC g ad rd ln fi ar) H → va_S (AC ad rd s.heap.size) s.heap H locs → W p l e (headSpec (wx yX10_chooseTail cX10_chooseTail 2 none) ({ frames := 7, cells := 0, slots := 0, locals := 158 } : Room)).room s m ([.ref (ad (0))] : List Value).toArray below meth c H locs 0 0 (MQ below (QCv g ad rd ln s.heap.size r fi' ar') ([.ref (ad (0))] : List Value).toArray s 0 0 (AC ad rd s.heap.size)) (F0 m 13 ls []) := by
    intro kf
    induction kf with
    | zero => intro x1 fi ar H locs ls hF hl hP hS; cases (show (none : Option (Unit × FI × AR)) = _ from hF)
    | succ kf ih13 =>
      intro x1 fi ar H locs ls hF hl hP hS
      obtain ⟨K13, hK13⟩ : ∃ K : Int32 → FI → AR → Option (Unit × FI × AR), K = FX10_chooseTail_13 nf ln kf := ⟨_, rfl⟩
      replace hF : FX10_chooseTail_13b K13 nf ln x1 fi ar = some (r, fi', ar') := by rw [hK13]; exact hF
      rw [← hK13] at ih13
      clear hK13
      unfold FX10_chooseTail_13b at hF
      refine lv_iload_n hx hb dX10_chooseTail_13 rfl (lv_at hl 1 rfl) ?_
      refine lv_aload_n hx hb dX10_chooseTail_14 rfl (lv_at hl 0 rfl) ?_
      refine cg_X10_here hx hb hT hown hK hP mw2_19 dX10_chooseTail_15 ?_
      refine cg_X2_count (by decide) hx hb hT hown hK hP mw37_15 dX10_chooseTail_18 ?_
      refine lv_iconst (v := (1 : Int32)) hx hb dX10_chooseTail_21 (by decide) ?_
      refine lv_iadd hx hb dX10_chooseTail_22 ?_
      refine lv_icmp_gt (tgt := 55) hx hb dX10_chooseTail_23 (by decide) (fun hc1 => ?_) (fun hc1 => ?_)
      · replace hF := br_yes hF hc1
        exact rC_v hx hb hr hlocks hF hP hS dX10_chooseTail_55
      · replace hF := br_no hF hc1
        refine lv_aload_n hx hb dX10_chooseTail_26 rfl (lv_at hl 0 rfl) ?_
        refine cg_X10_shortName hx hb hT hown hK hP mw3_5 dX10_chooseTail_27 ?_
        refine lv_iload_n hx hb dX10_chooseTail_30 rfl (lv_at hl 1 rfl) ?_
        replace hF := obnd3_of hF
        obtain ⟨r5, fi3, ar4, h2, hF⟩ := hF
        refine cC_v (As := [.int (x1)]) (rest := []) hx hb hml hT hown hK hE hD hA hP hS (rcv_X7 (by decide) hK hP) (kX7_setTail l g ad rd _ nf ln 0 (by decide) fi ar (x1) r5 fi3 ar4 h2) cw_X7_setTail mw46_16 ⟨⟨rfl, rfl⟩, Nat.le_of_ble_eq_true rfl, Nat.le_of_ble_eq_true rfl⟩ rfl hl.1 rfl (Nat.le_of_ble_eq_true rfl) dX10_chooseTail_31 ⟨Nat.zero_le _, Nat.zero_le _⟩ (fun H locs hP hS => ?_)
        refine lv_aload_n hx hb dX10_chooseTail_34 rfl (lv_at hl 0 rfl) ?_
        refine cg_X10_here hx hb hT hown hK hP mw2_19 dX10_chooseTail_35 ?_
        refine lv_aload_n hx hb dX10_chooseTail_38 rfl (lv_at hl 0 rfl) ?_
        refine cg_X10_shortName hx hb hT hown hK hP mw3_5 dX10_chooseTail_39 ?_
        replace hF := obnd3_of hF
        obtain ⟨r9, fi7, ar8, h6, hF⟩ := hF
        refine cC_i (As := [.ref (ad (34 + 3 * 0))]) (rest := []) hx hb hml hT hown hK hE hD hA hP hS (rcv_X2 (by decide) hK hP) (kX2_hasShort l g ad rd _ nf ln 0 0 (by decide) (by decide) fi3 ar4 r9 fi7 ar8 h6) cw_X2_hasShort mw45_14 ⟨⟨rfl, rfl⟩, Nat.le_of_ble_eq_true rfl, Nat.le_of_ble_eq_true rfl⟩ rfl hl.1 rfl (Nat.le_of_ble_eq_true rfl) dX10_chooseTail_42 ⟨Nat.zero_le _, Nat.zero_le _⟩ (fun H locs hP hS => ?_)
        refine lv_if_ne (tgt := 49) hx hb dX10_chooseTail_45 (by decide) (fun hc10 => ?_) (fun hc10 => ?_)
        · replace hF := br_no hF hc10
          obtain ⟨x1_11, ex1_11⟩ : ∃ y : Int32, y = (x1) + (1 : Int32) := ⟨_, rfl⟩
          replace hF := bnd_of hF ex1_11
          refine lv_iinc (v := x1_11) (lv' := [(1, .int (x1_11)), (0, .ref (ad (0)))]) hx hb dX10_chooseTail_49 hl (k := 1) rfl (by rw [ex1_11]; rfl) (by decide) rfl (fun ls hl => ?_)
          refine lv_goto (tgt := 13) hx hb dX10_chooseTail_52 (by decide) ?_
          exact ih13 (x1_11) _ _ _ _ _ hF (lv_sub hl [1, 0] rfl) hP hS
        · replace hF := br_yes hF hc10
          exact rC_v hx hb hr hlocks hF hP hS dX10_chooseTail_48
  replace hl := lv_sub hl [0] rfl
  refine lv_aload_n hx hb dX10_chooseTail_0 rfl (lv_at hl 0 rfl) ?_
  refine cg_X10_shortName hx hb hT hown hK hP mw3_5 dX10_chooseTail_1 ?_
  refine lv_aload_n hx hb dX10_chooseTail_4 rfl (lv_at hl 0 rfl) ?_
  refine cg_X10_name hx hb hT hown hK hP mw3_0 dX10_chooseTail_5 ?_
  replace hF := obnd3_of hF
  obtain ⟨r15, fi13, ar14, h12, hF⟩ := hF
  refine cC_v (As := [.ref (ad (26 + 2 * 0))]) (rest := []) hx hb hml hT hown hK hE hD hA hP hS (rcv_X7 (by decide) hK hP) (kX7_readLong l g ad rd _ nf ln 0 0 (by decide) (by decide) fi ar r15 fi13 ar14 h12) cw_X7_readLong mw46_2 ⟨⟨rfl, rfl⟩, Nat.le_of_ble_eq_true rfl, Nat.le_of_ble_eq_true rfl⟩ rfl hl.1 rfl (Nat.le_of_ble_eq_true rfl) dX10_chooseTail_8 ⟨Nat.zero_le _, Nat.zero_le _⟩ (fun H locs hP hS => ?_)
  refine lv_iconst (v := (1 : Int32)) hx hb dX10_chooseTail_11 (by decide) ?_
  refine lv_istore_n (lv' := [(1, .int (1 : Int32)), (0, .ref (ad (0)))]) hx hb dX10_chooseTail_12 rfl hl (by decide) rfl (fun ls hl => ?_)
  exact L13 nf (1 : Int32) _ _ _ _ _ hF (lv_sub hl [1, 0] rfl) hP hS
theorem cw_X10_chooseTail : (Cond.instanceMethod yX10_chooseTail ∈ TB ∧ Cond.selects RX10 yX10_chooseTail yX10_chooseTail ∈ TB ∧ Cond.code yX10_chooseTail cX10_chooseTail 2 none ∈ TB ∧ Cond.initialized RX10 ∈ TB) ∧ (yX10_chooseTail.cls = RX10 ∧ yX10_chooseTail.cls ≠ "java/lang/invoke/MethodHandle" ∧ yX10_chooseTail.cls ≠ "java/lang/invoke/VarHandle" ∧ (parseMethodDescriptor yX10_chooseTail.desc).map (fun d => d.parameters.length) = some 0) := ⟨⟨mw45_23, mw46_0, mw46_1, mw1_2⟩, by decide +kernel⟩
/-! X10_writePoints -/
noncomputable def FX10_writePoints (nf : Nat) (ln : LN) (fi : FI) (ar : AR) (x1 : Int32) (x2 : Int32) (x3 : Int32) : Option (Unit × FI × AR) :=
  obnd3 (FX3_fill nf ln fi ar (x1) (11 : Int32) (32 : Int32)) fun r4 fi2 ar3 => obnd3 (FX3_fill nf ln fi2 ar3 (x1) (x2) (46 : Int32)) fun r8 fi6 ar7 => obnd3 (FX3_putOne nf ln fi6 ar7 ((x1) + (11 : Int32)) (16 : Int32)) fun r12 fi10 ar11 => obnd3 (FX3_putFirstCluster nf ln fi10 ar11 (x1) (x3)) fun r16 fi14 ar15 => obnd3 (FX3_putTwo nf ln fi14 ar15 ((x1) + (24 : Int32)) (33 : Int32)) fun r20 fi18 ar19 => some ((), fi18, ar19)
set_option maxHeartbeats 4000000 in
set_option maxRecDepth 100000 in
theorem kX10_writePoints (l : Launch) (g : GT) (ad rd : Nat → Nat) (sz : Nat) (nf : Nat) (ln : LN) (fi : FI) (ar : AR) (p1 : Int32) (p2 : Int32) (p3 : Int32) (r : Unit) (fi' : FI) (ar' : AR) (hF : FX10_writePoints nf ln fi ar p1 p2 p3 = some (r, fi', ar')) : Met l yX10_writePoints (wx yX10_writePoints cX10_writePoints 4 none) ({ frames := 3, cells := 0, slots := 0, locals := 68 } : Room) (va_Pc [.ref (ad (0)), .int p1, .int p2, .int p3] (PC g ad rd ln sz fi ar)) (QCv g ad rd ln sz r fi' ar') 0 0 (AC ad rd sz) := by
  refine Met.ofW (cc := cX10_writePoints) (maxL := 4) (ret := none) (by decide) rfl ?_
  intro p e s m args below meth c s₁ B hml hv
  obtain ⟨rfl, hsz, hP, hK, hD0, hE⟩ := hv
  have hx := B.exec
  have hb := B.bytes
  have hr := B.returns
  have hts := atoms_spec (ws := (wx yX10_writePoints cX10_writePoints 4 none)) B.pre
  have hT : ∀ w ∈ TB, w.before _ s = true := fun w h => hts w (List.mem_cons_of_mem _ h)
  have hown : s.vm.findClass RX10 = some m.cls := findClass_of_methodNamed B.named
  have hlocks := B.notSynchronized
  subst hsz
  have hD := dC hD0 s.heap.size
  have hA : ∀ q : Nat, s.heap.size ≤ q → AC ad rd s.heap.size q := fun q h => Or.inr h
  have hS : va_S (AC ad rd s.heap.size) s.heap s.heap [] := va_S.rf
  have hl := lv_entry ([.ref (ad (0)), .int p1, .int p2, .int p3]) (n := 4) (Nat.le_of_ble_eq_true rfl)
  rw [lg_entry_eq]
  generalize (lg_sl ([.ref (ad (0)), .int p1, .int p2, .int p3]) ++ List.replicate (4 - (lg_sl ([.ref (ad (0)), .int p1, .int p2, .int p3])).length) Slot.unset).toArray = ls at hl ⊢
  have hl : lv_has ls 4 [(0, .ref (ad (0))), (1, .int p1), (2, .int p2), (3, .int p3)] := hl
  unfold FX10_writePoints at hF
  replace hl := lv_sub hl [0, 1, 2, 3] rfl
  refine lv_aload_n hx hb dX10_writePoints_0 rfl (lv_at hl 0 rfl) ?_
  refine cg_X10_disk hx hb hT hown hK hP mw2_3 dX10_writePoints_1 ?_
  refine lv_iload_n hx hb dX10_writePoints_4 rfl (lv_at hl 1 rfl) ?_
  refine lv_bipush (v := (11 : Int32)) hx hb dX10_writePoints_5 (by decide) ?_
  refine lv_bipush (v := (32 : Int32)) hx hb dX10_writePoints_7 (by decide) ?_
  replace hF := obnd3_of hF
  obtain ⟨r4, fi2, ar3, h1, hF⟩ := hF
  refine cC_v (As := [.int (p1), .int (11 : Int32), .int (32 : Int32)]) (rest := []) hx hb hml hT hown hK hE hD hA hP hS (rcv_X3 hK hP) (kX3_fill l g ad rd _ nf ln fi ar (p1) (11 : Int32) (32 : Int32) r4 fi2 ar3 h1) cw_X3_fill mw16_20 ⟨⟨rfl, rfl⟩, Nat.le_of_ble_eq_true rfl, Nat.le_of_ble_eq_true rfl⟩ rfl hl.1 rfl (Nat.le_of_ble_eq_true rfl) dX10_writePoints_9 ⟨Nat.zero_le _, Nat.zero_le _⟩ (fun H locs hP hS => ?_)
  refine lv_aload_n hx hb dX10_writePoints_12 rfl (lv_at hl 0 rfl) ?_
  refine cg_X10_disk hx hb hT hown hK hP mw2_3 dX10_writePoints_13 ?_
  refine lv_iload_n hx hb dX10_writePoints_16 rfl (lv_at hl 1 rfl) ?_
  refine lv_iload_n hx hb dX10_writePoints_17 rfl (lv_at hl 2 rfl) ?_
  refine lv_bipush (v := (46 : Int32)) hx hb dX10_writePoints_18 (by decide) ?_
  replace hF := obnd3_of hF
  obtain ⟨r8, fi6, ar7, h5, hF⟩ := hF
  refine cC_v (As := [.int (p1), .int (p2), .int (46 : Int32)]) (rest := []) hx hb hml hT hown hK hE hD hA hP hS (rcv_X3 hK hP) (kX3_fill l g ad rd _ nf ln fi2 ar3 (p1) (p2) (46 : Int32) r8 fi6 ar7 h5) cw_X3_fill mw16_20 ⟨⟨rfl, rfl⟩, Nat.le_of_ble_eq_true rfl, Nat.le_of_ble_eq_true rfl⟩ rfl hl.1 rfl (Nat.le_of_ble_eq_true rfl) dX10_writePoints_20 ⟨Nat.zero_le _, Nat.zero_le _⟩ (fun H locs hP hS => ?_)
  refine lv_aload_n hx hb dX10_writePoints_23 rfl (lv_at hl 0 rfl) ?_
  refine cg_X10_disk hx hb hT hown hK hP mw2_3 dX10_writePoints_24 ?_
  refine lv_iload_n hx hb dX10_writePoints_27 rfl (lv_at hl 1 rfl) ?_
  refine lv_bipush (v := (11 : Int32)) hx hb dX10_writePoints_28 (by decide) ?_
  refine lv_iadd hx hb dX10_writePoints_30 ?_
  refine lv_bipush (v := (16 : Int32)) hx hb dX10_writePoints_31 (by decide) ?_
  replace hF := obnd3_of hF
  obtain ⟨r12, fi10, ar11, h9, hF⟩ := hF
  refine cC_v (As := [.int ((p1) + (11 : Int32)), .int (16 : Int32)]) (rest := []) hx hb hml hT hown hK hE hD hA hP hS (rcv_X3 hK hP) (kX3_putOne l g ad rd _ nf ln fi6 ar7 ((p1) + (11 : Int32)) (16 : Int32) r12 fi10 ar11 h9) cw_X3_putOne mw17_2 ⟨⟨rfl, rfl⟩, Nat.le_of_ble_eq_true rfl, Nat.le_of_ble_eq_true rfl⟩ rfl hl.1 rfl (Nat.le_of_ble_eq_true rfl) dX10_writePoints_33 ⟨Nat.zero_le _, Nat.zero_le _⟩ (fun H locs hP hS => ?_)
  refine lv_aload_n hx hb dX10_writePoints_36 rfl (lv_at hl 0 rfl) ?_
  refine cg_X10_disk hx hb hT hown hK hP mw2_3 dX10_writePoints_37 ?_
  refine lv_iload_n hx hb dX10_writePoints_40 rfl (lv_at hl 1 rfl) ?_
  refine lv_iload_n hx hb dX10_writePoints_41 rfl (lv_at hl 3 rfl) ?_
  replace hF := obnd3_of hF
  obtain ⟨r16, fi14, ar15, h13, hF⟩ := hF
  refine cC_v (As := [.int (p1), .int (p3)]) (rest := []) hx hb hml hT hown hK hE hD hA hP hS (rcv_X3 hK hP) (kX3_putFirstCluster l g ad rd _ nf ln fi10 ar11 (p1) (p3) r16 fi14 ar15 h13) cw_X3_putFirstCluster mw17_4 ⟨⟨rfl, rfl⟩, Nat.le_of_ble_eq_true rfl, Nat.le_of_ble_eq_true rfl⟩ rfl hl.1 rfl (Nat.le_of_ble_eq_true rfl) dX10_writePoints_42 ⟨Nat.zero_le _, Nat.zero_le _⟩ (fun H locs hP hS => ?_)
  refine lv_aload_n hx hb dX10_writePoints_45 rfl (lv_at hl 0 rfl) ?_
  refine cg_X10_disk hx hb hT hown hK hP mw2_3 dX10_writePoints_46 ?_
  refine lv_iload_n hx hb dX10_writePoints_49 rfl (lv_at hl 1 rfl) ?_
  refine lv_bipush (v := (24 : Int32)) hx hb dX10_writePoints_50 (by decide) ?_
  refine lv_iadd hx hb dX10_writePoints_52 ?_
  refine lv_bipush (v := (33 : Int32)) hx hb dX10_writePoints_53 (by decide) ?_
  replace hF := obnd3_of hF
  obtain ⟨r20, fi18, ar19, h17, hF⟩ := hF
  refine cC_v (As := [.int ((p1) + (24 : Int32)), .int (33 : Int32)]) (rest := []) hx hb hml hT hown hK hE hD hA hP hS (rcv_X3 hK hP) (kX3_putTwo l g ad rd _ nf ln fi14 ar15 ((p1) + (24 : Int32)) (33 : Int32) r20 fi18 ar19 h17) cw_X3_putTwo mw17_3 ⟨⟨rfl, rfl⟩, Nat.le_of_ble_eq_true rfl, Nat.le_of_ble_eq_true rfl⟩ rfl hl.1 rfl (Nat.le_of_ble_eq_true rfl) dX10_writePoints_55 ⟨Nat.zero_le _, Nat.zero_le _⟩ (fun H locs hP hS => ?_)
  exact rC_v hx hb hr hlocks hF hP hS dX10_writePoints_58
theorem cw_X10_writePoints : (Cond.instanceMethod yX10_writePoints ∈ TB ∧ Cond.selects RX10 yX10_writePoints yX10_writePoints ∈ TB ∧ Cond.code yX10_writePoints cX10_writePoints 4 none ∈ TB ∧ Cond.initialized RX10 ∈ TB) ∧ (yX10_writePoints.cls = RX10 ∧ yX10_writePoints.cls ≠ "java/lang/invoke/MethodHandle" ∧ yX10_writePoints.cls ≠ "java/lang/invoke/VarHandle" ∧ (parseMethodDescriptor yX10_writePoints.desc).map (fun d => d.parameters.length) = some 3) := ⟨⟨mw47_19, mw47_20, mw47_21, mw1_2⟩, by decide +kernel⟩
/-! X10_makeDirectory -/
noncomputable def FX10_makeDirectory (nf : Nat) (ln : LN) (fi : FI) (ar : AR)  : Option (Int32 × FI × AR) :=
  obnd3 (FX9_claimLowest nf ln fi ar) fun r4 fi2 ar3 => obnd3 (FX9_addressOf nf ln fi2 ar3 (r4)) fun r8 fi6 ar7 => obnd3 (FX10_writePoints nf ln fi6 ar7 (r8) (1 : Int32) (r4)) fun r12 fi10 ar11 => obnd3 (FX10_writePoints nf ln fi10 ar11 ((r8) + (32 : Int32)) (2 : Int32) (fi10 (0))) fun r16 fi14 ar15 => some ((r4), fi14, ar15)
set_option maxHeartbeats 4000000 in
set_option maxRecDepth 100000 in
theorem kX10_makeDirectory (l : Launch) (g : GT) (ad rd : Nat → Nat) (sz : Nat) (nf : Nat) (ln : LN) (fi : FI) (ar : AR)  (r : Int32) (fi' : FI) (ar' : AR) (hF : FX10_makeDirectory nf ln fi ar  = some (r, fi', ar')) : Met l yX10_makeDirectory (wx yX10_makeDirectory cX10_makeDirectory 3 (some .int)) ({ frames := 5, cells := 0, slots := 0, locals := 115 } : Room) (va_Pc [.ref (ad (0))] (PC g ad rd ln sz fi ar)) (QCi g ad rd ln sz r fi' ar') 0 0 (AC ad rd sz) := by
  refine Met.ofW (cc := cX10_makeDirectory) (maxL := 3) (ret := (some .int)) (by decide) rfl ?_
  intro p e s m args below meth c s₁ B hml hv
  obtain ⟨rfl, hsz, hP, hK, hD0, hE⟩ := hv
  have hx := B.exec
  have hb := B.bytes
  have hr := B.returns
  have hts := atoms_spec (ws := (wx yX10_makeDirectory cX10_makeDirectory 3 (some .int))) B.pre
  have hT : ∀ w ∈ TB, w.before _ s = true := fun w h => hts w (List.mem_cons_of_mem _ h)
  have hown : s.vm.findClass RX10 = some m.cls := findClass_of_methodNamed B.named
  have hlocks := B.notSynchronized
  subst hsz
  have hD := dC hD0 s.heap.size
  have hA : ∀ q : Nat, s.heap.size ≤ q → AC ad rd s.heap.size q := fun q h => Or.inr h
  have hS : va_S (AC ad rd s.heap.size) s.heap s.heap [] := va_S.rf
  have hl := lv_entry ([.ref (ad (0))]) (n := 3) (Nat.le_of_ble_eq_true rfl)
  rw [lg_entry_eq]
  generalize (lg_sl ([.ref (ad (0))]) ++ List.replicate (3 - (lg_sl ([.ref (ad (0))])).length) Slot.unset).toArray = ls at hl ⊢
  have hl : lv_has ls 3 [(0, .ref (ad (0)))] := hl
  unfold FX10_makeDirectory at hF
  replace hl := lv_sub hl [0] rfl
  refine lv_aload_n hx hb dX10_makeDirectory_0 rfl (lv_at hl 0 rfl) ?_
  refine cg_X10_volume hx hb hT hown hK hP mw2_11 dX10_makeDirectory_1 ?_
  replace hF := obnd3_of hF
  obtain ⟨r4, fi2, ar3, h1, hF⟩ := hF
  refine cC_i (As := []) (rest := []) hx hb hml hT hown hK hE hD hA hP hS (rcv_X9 hK hP) (kX9_claimLowest l g ad rd _ nf ln fi ar r4 fi2 ar3 h1) cw_X9_claimLowest mw47_10 ⟨⟨rfl, rfl⟩, Nat.le_of_ble_eq_true rfl, Nat.le_of_ble_eq_true rfl⟩ rfl hl.1 rfl (Nat.le_of_ble_eq_true rfl) dX10_makeDirectory_4 ⟨Nat.zero_le _, Nat.zero_le _⟩ (fun H locs hP hS => ?_)
  refine lv_istore_n (lv' := [(1, .int (r4)), (0, .ref (ad (0)))]) hx hb dX10_makeDirectory_7 rfl hl (by decide) rfl (fun ls hl => ?_)
  refine lv_aload_n hx hb dX10_makeDirectory_8 rfl (lv_at hl 1 rfl) ?_
  refine cg_X10_volume hx hb hT hown hK hP mw2_11 dX10_makeDirectory_9 ?_
  refine lv_iload_n hx hb dX10_makeDirectory_12 rfl (lv_at hl 0 rfl) ?_
  replace hF := obnd3_of hF
  obtain ⟨r8, fi6, ar7, h5, hF⟩ := hF
  refine cC_i (As := [.int (r4)]) (rest := []) hx hb hml hT hown hK hE hD hA hP hS (rcv_X9 hK hP) (kX9_addressOf l g ad rd _ nf ln fi2 ar3 (r4) r8 fi6 ar7 h5) cw_X9_addressOf mw16_12 ⟨⟨rfl, rfl⟩, Nat.le_of_ble_eq_true rfl, Nat.le_of_ble_eq_true rfl⟩ rfl hl.1 rfl (Nat.le_of_ble_eq_true rfl) dX10_makeDirectory_13 ⟨Nat.zero_le _, Nat.zero_le _⟩ (fun H locs hP hS => ?_)
  refine lv_istore_n (lv' := [(2, .int (r8)), (1, .int (r4)), (0, .ref (ad (0)))]) hx hb dX10_makeDirectory_16 rfl hl (by decide) rfl (fun ls hl => ?_)
  refine lv_aload_n hx hb dX10_makeDirectory_17 rfl (lv_at hl 2 rfl) ?_
  refine lv_iload_n hx hb dX10_makeDirectory_18 rfl (lv_at hl 0 rfl) ?_
  refine lv_iconst (v := (1 : Int32)) hx hb dX10_makeDirectory_19 (by decide) ?_
  refine lv_iload_n hx hb dX10_makeDirectory_20 rfl (lv_at hl 1 rfl) ?_
  replace hF := obnd3_of hF
  obtain ⟨r12, fi10, ar11, h9, hF⟩ := hF
  refine cC_v (As := [.int (r8), .int (1 : Int32), .int (r4)]) (rest := []) hx hb hml hT hown hK hE hD hA hP hS (rcv_X10 hK hP) (kX10_writePoints l g ad rd _ nf ln fi6 ar7 (r8) (1 : Int32) (r4) r12 fi10 ar11 h9) cw_X10_writePoints mw47_18 ⟨⟨rfl, rfl⟩, Nat.le_of_ble_eq_true rfl, Nat.le_of_ble_eq_true rfl⟩ rfl hl.1 rfl (Nat.le_of_ble_eq_true rfl) dX10_makeDirectory_21 ⟨Nat.zero_le _, Nat.zero_le _⟩ (fun H locs hP hS => ?_)
  refine lv_aload_n hx hb dX10_makeDirectory_24 rfl (lv_at hl 2 rfl) ?_
  refine lv_iload_n hx hb dX10_makeDirectory_25 rfl (lv_at hl 0 rfl) ?_
  refine lv_bipush (v := (32 : Int32)) hx hb dX10_makeDirectory_26 (by decide) ?_
  refine lv_iadd hx hb dX10_makeDirectory_28 ?_
  refine lv_iconst (v := (2 : Int32)) hx hb dX10_makeDirectory_29 (by decide) ?_
  refine lv_aload_n hx hb dX10_makeDirectory_30 rfl (lv_at hl 2 rfl) ?_
  refine cg_X10_place hx hb hT hown hK hP mw3_6 dX10_makeDirectory_31 ?_
  replace hF := obnd3_of hF
  obtain ⟨r16, fi14, ar15, h13, hF⟩ := hF
  refine cC_v (As := [.int ((r8) + (32 : Int32)), .int (2 : Int32), .int (fi10 (0))]) (rest := []) hx hb hml hT hown hK hE hD hA hP hS (rcv_X10 hK hP) (kX10_writePoints l g ad rd _ nf ln fi10 ar11 ((r8) + (32 : Int32)) (2 : Int32) (fi10 (0)) r16 fi14 ar15 h13) cw_X10_writePoints mw47_18 ⟨⟨rfl, rfl⟩, Nat.le_of_ble_eq_true rfl, Nat.le_of_ble_eq_true rfl⟩ rfl hl.1 rfl (Nat.le_of_ble_eq_true rfl) dX10_makeDirectory_34 ⟨Nat.zero_le _, Nat.zero_le _⟩ (fun H locs hP hS => ?_)
  refine lv_iload_n hx hb dX10_makeDirectory_37 rfl (lv_at hl 1 rfl) ?_
  exact rC_i hx hb hr hlocks hF hP hS dX10_makeDirectory_38
theorem cw_X10_makeDirectory : (Cond.instanceMethod yX10_makeDirectory ∈ TB ∧ Cond.selects RX10 yX10_makeDirectory yX10_makeDirectory ∈ TB ∧ Cond.code yX10_makeDirectory cX10_makeDirectory 3 (some .int) ∈ TB ∧ Cond.initialized RX10 ∈ TB) ∧ (yX10_makeDirectory.cls = RX10 ∧ yX10_makeDirectory.cls ≠ "java/lang/invoke/MethodHandle" ∧ yX10_makeDirectory.cls ≠ "java/lang/invoke/VarHandle" ∧ (parseMethodDescriptor yX10_makeDirectory.desc).map (fun d => d.parameters.length) = some 0) := ⟨⟨mw47_7, mw47_8, mw47_9, mw1_2⟩, by decide +kernel⟩
/-! X10_placeEntry -/
noncomputable def FX10_placeEntry_135 (nf : Nat) (ln : LN)  (fi : FI) (ar : AR) : Option (Unit × FI × AR) :=
  some ((), fi, ar)
noncomputable def FX10_placeEntry_46 (K24 : Int32 → Int32 → Int32 → FI → AR → Option (Unit × FI × AR)) (nf : Nat) (ln : LN) (x2 : Int32) (x5 : Int32) (x6 : Int32) (t0 : Int32) (fi : FI) (ar : AR) : Option (Unit × FI × AR) :=
  obnd3 (FX2_slotAddress nf ln 0 fi ar ((x5) - (x6))) fun r4 fi2 ar3 => obnd3 (FX7_sum nf ln 0 fi2 ar3) fun r8 fi6 ar7 => obnd3 (FX6_writePart nf ln 0 fi6 ar7 (r4) (x6) (t0) (r8)) fun r12 fi10 ar11 => bnd ((x6) + (1 : Int32)) fun x6_13 => K24 (x2) (x5) (x6_13) fi10 ar11
noncomputable def FX10_placeEntry_24b (K24 : Int32 → Int32 → Int32 → FI → AR → Option (Unit × FI × AR)) (nf : Nat) (ln : LN) (x2 : Int32) (x5 : Int32) (x6 : Int32) (fi : FI) (ar : AR) : Option (Unit × FI × AR) :=
  br ((x2) < (x6)) (bnd ((x5) + (1 : Int32)) fun x6_15 => br ((x6_15) < (fi (22 + 10 * 0))) (FX10_placeEntry_135 nf ln  fi ar) (br ((fi (21 + 10 * 0)) ≤ (x6_15)) (FX10_placeEntry_135 nf ln  fi ar) (obnd3 (FX2_slotAddress nf ln 0 fi ar (x6_15)) fun r21 fi19 ar20 => obnd3 (FX3_putOne nf ln fi19 ar20 (r21) (0 : Int32)) fun r25 fi23 ar24 => FX10_placeEntry_135 nf ln  fi23 ar24))) (br ((x6) = (x2)) (FX10_placeEntry_46 K24 nf ln  (x2) (x5) (x6) ((x6) + (64 : Int32)) fi ar) (FX10_placeEntry_46 K24 nf ln  (x2) (x5) (x6) (x6) fi ar))
noncomputable def FX10_placeEntry_24 (nf : Nat) (ln : LN) (kf : Nat) : Int32 → Int32 → Int32 → FI → AR → Option (Unit × FI × AR) := Nat.rec (fun _ _ _ _ _ => none) (fun _ K24 => FX10_placeEntry_24b K24 nf ln) kf
noncomputable def FX10_placeEntry (nf : Nat) (ln : LN) (fi : FI) (ar : AR) (x1 : Int32) (x2 : Int32) (x3 : Int32) (x4 : Int32) : Option (Unit × FI × AR) :=
  bnd ((x1) + (x2)) fun x5_27 => obnd3 (FX2_slotAddress nf ln 0 fi ar (x5_27)) fun r31 fi29 ar30 => obnd3 (FX10_writeEntry nf ln fi29 ar30 (r31) (x3) (x4)) fun r35 fi33 ar34 => FX10_placeEntry_24 nf ln nf (x2) (x5_27) (1 : Int32) fi33 ar34
set_option maxHeartbeats 4000000 in
set_option maxRecDepth 100000 in
theorem kX10_placeEntry (l : Launch) (g : GT) (ad rd : Nat → Nat) (sz : Nat) (nf : Nat) (ln : LN) (fi : FI) (ar : AR) (p1 : Int32) (p2 : Int32) (p3 : Int32) (p4 : Int32) (r : Unit) (fi' : FI) (ar' : AR) (hF : FX10_placeEntry nf ln fi ar p1 p2 p3 p4 = some (r, fi', ar')) : Met l yX10_placeEntry (wx yX10_placeEntry cX10_placeEntry 8 none) ({ frames := 4, cells := 0, slots := 0, locals := 91 } : Room) (va_Pc [.ref (ad (0)), .int p1, .int p2, .int p3, .int p4] (PC g ad rd ln sz fi ar)) (QCv g ad rd ln sz r fi' ar') 0 0 (AC ad rd sz) := by
  refine Met.ofW (cc := cX10_placeEntry) (maxL := 8) (ret := none) (by decide) rfl ?_
  intro p e s m args below meth c s₁ B hml hv
  obtain ⟨rfl, hsz, hP, hK, hD0, hE⟩ := hv
  have hx := B.exec
  have hb := B.bytes
  have hr := B.returns
  have hts := atoms_spec (ws := (wx yX10_placeEntry cX10_placeEntry 8 none)) B.pre
  have hT : ∀ w ∈ TB, w.before _ s = true := fun w h => hts w (List.mem_cons_of_mem _ h)
  have hown : s.vm.findClass RX10 = some m.cls := findClass_of_methodNamed B.named
  have hlocks := B.notSynchronized
  subst hsz
  have hD := dC hD0 s.heap.size
  have hA : ∀ q : Nat, s.heap.size ≤ q → AC ad rd s.heap.size q := fun q h => Or.inr h
  have hS : va_S (AC ad rd s.heap.size) s.heap s.heap [] := va_S.rf
  have hl := lv_entry ([.ref (ad (0)), .int p1, .int p2, .int p3, .int p4]) (n := 8) (Nat.le_of_ble_eq_true rfl)
  rw [lg_entry_eq]
  generalize (lg_sl ([.ref (ad (0)), .int p1, .int p2, .int p3, .int p4]) ++ List.replicate (8 - (lg_sl ([.ref (ad (0)), .int p1, .int p2, .int p3, .int p4])).length) Slot.unset).toArray = ls at hl ⊢
  have hl : lv_has ls 8 [(0, .ref (ad (0))), (1, .int p1), (2, .int p2), (3, .int p3), (4, .int p4)] := hl
  unfold FX10_placeEntry at hF
  have J135 : ∀  (fi : FI) (ar : AR) (H : Heap) (locs : List Loc) (ls : Array Slot), FX10_placeEntry_135 nf ln fi ar = some (r, fi', ar') → lv_has ls 8 [(0, .ref (ad (0)))] → va_P (gD g) vwCl (WC g ad rd ln fi ar) H → va_S (AC ad rd s.heap.size) s.heap H locs → W p l e (headSpec (wx yX10_placeEntry cX10_placeEntry 8 none) ({ frames := 4, cells := 0, slots := 0, locals := 91 } : Room)).room s m ([.ref (ad (0)), .int p1, .int p2, .int p3, .int p4] : List Value).toArray below meth c H locs 0 0 (MQ below (QCv g ad rd ln s.heap.size r fi' ar') ([.ref (ad (0)), .int p1, .int p2, .int p3, .int p4] : List Value).toArray s 0 0 (AC ad rd s.heap.size)) (F0 m 135 ls []) := by
    intro fi ar H locs ls hF hl hP hS
    unfold FX10_placeEntry_135 at hF
    exact rC_v hx hb hr hlocks hF hP hS dX10_placeEntry_135
  have L24 : ∀ kf : Nat, ∀ (x2 : Int32) (x5 : Int32) (x6 : Int32) (fi : FI) (ar : AR) (H : Heap) (locs : List Loc) (ls : Array Slot), FX10_placeEntry_24 nf ln kf x2 x5 x6 fi ar = some (r, fi', ar') → lv_has ls 8 [(0, .ref (ad (0))), (2, .int x2), (5, .int x5), (6, .int x6)] → va_P (gD g) vwCl (WC g ad rd ln fi ar) H → va_S (AC ad rd s.heap.size) s.heap H locs → W p l e (headSpec (wx yX10_placeEntry cX10_placeEntry 8 none) ({ frames := 4, cells := 0, slots := 0, locals := 91 } : Room)).room s m ([.ref (ad (0)), .int p1, .int p2, .int p3, .int p4] : List Value).toArray below meth c H locs 0 0 (MQ below (QCv g ad rd ln s.heap.size r fi' ar') ([.ref (ad (0)), .int p1, .int p2, .int p3, .int p4] : List Value).toArray s 0 0 (AC ad rd s.heap.size)) (F0 m 24 ls []) := by
    intro kf
    induction kf with
    | zero => intro x2 x5 x6 fi ar H locs ls hF hl hP hS; cases (show (none : Option (Unit × FI × AR)) = _ from hF)
    | succ kf ih24 =>
      intro x2 x5 x6 fi ar H locs ls hF hl hP hS
      obtain ⟨K24, hK24⟩ : ∃ K : Int32 → Int32 → Int32 → FI → AR → Option (Unit × FI × AR), K = FX10_placeEntry_24 nf ln kf := ⟨_, rfl⟩
      replace hF : FX10_placeEntry_24b K24 nf ln x2 x5 x6 fi ar = some (r, fi', ar') := by rw [hK24]; exact hF
      rw [← hK24] at ih24
      clear hK24
      have J46 : ∀ (x2 : Int32) (x5 : Int32) (x6 : Int32) (t0 : Int32) (fi : FI) (ar : AR) (H : Heap) (locs : List Loc) (ls : Array Slot), FX10_placeEntry_46 K24 nf ln x2 x5 x6 t0 fi ar = some (r, fi', ar') → lv_has ls 8 [(0, .ref (ad (0))), (2, .int x2), (5, .int x5), (6, .int x6)] → va_P (gD g) vwCl (WC g ad rd ln fi ar) H → va_S (AC ad rd s.heap.size) s.heap H locs → W p l e (headSpec (wx yX10_placeEntry cX10_placeEntry 8 none) ({ frames := 4, cells := 0, slots := 0, locals := 91 } : Room)).room s m ([.ref (ad (0)), .int p1, .int p2, .int p3, .int p4] : List Value).toArray below meth c H locs 0 0 (MQ below (QCv g ad rd ln s.heap.size r fi' ar') ([.ref (ad (0)), .int p1, .int p2, .int p3, .int p4] : List Value).toArray s 0 0 (AC ad rd s.heap.size)) (F0 m 46 ls [.int t0]) := by
        intro x2 x5 x6 t0 fi ar H locs ls hF hl hP hS
        unfold FX10_placeEntry_46 at hF
        refine lv_istore (lv' := [(7, .int (t0)), (0, .ref (ad (0))), (2, .int (x2)), (5, .int (x5)), (6, .int (x6))]) hx hb dX10_placeEntry_46 hl (by decide) rfl (fun ls hl => ?_)
        refine lv_aload_n hx hb dX10_placeEntry_48 rfl (lv_at hl 1 rfl) ?_
        refine cg_X10_name hx hb hT hown hK hP mw3_0 dX10_placeEntry_49 ?_
        refine lv_aload_n hx hb dX10_placeEntry_52 rfl (lv_at hl 1 rfl) ?_
        refine cg_X10_disk hx hb hT hown hK hP mw2_3 dX10_placeEntry_53 ?_
        refine lv_aload_n hx hb dX10_placeEntry_56 rfl (lv_at hl 1 rfl) ?_
        refine cg_X10_here hx hb hT hown hK hP mw2_19 dX10_placeEntry_57 ?_
        refine lv_iload hx hb dX10_placeEntry_60 (lv_at hl 3 rfl) ?_
        refine lv_iload hx hb dX10_placeEntry_62 (lv_at hl 4 rfl) ?_
        refine lv_isub hx hb dX10_placeEntry_64 ?_
        replace hF := obnd3_of hF
        obtain ⟨r4, fi2, ar3, h1, hF⟩ := hF
        refine cC_i (As := [.int ((x5) - (x6))]) (rest := [.ref (ad (1)), .ref (ad (26 + 2 * 0))]) hx hb hml hT hown hK hE hD hA hP hS (rcv_X2 (by decide) hK hP) (kX2_slotAddress l g ad rd _ nf ln 0 (by decide) fi ar ((x5) - (x6)) r4 fi2 ar3 h1) cw_X2_slotAddress mw39_13 ⟨⟨rfl, rfl⟩, Nat.le_of_ble_eq_true rfl, Nat.le_of_ble_eq_true rfl⟩ rfl hl.1 rfl (Nat.le_of_ble_eq_true rfl) dX10_placeEntry_65 ⟨Nat.zero_le _, Nat.zero_le _⟩ (fun H locs hP hS => ?_)
        refine lv_iload hx hb dX10_placeEntry_68 (lv_at hl 4 rfl) ?_
        refine lv_iload hx hb dX10_placeEntry_70 (lv_at hl 0 rfl) ?_
        refine lv_aload_n hx hb dX10_placeEntry_72 rfl (lv_at hl 1 rfl) ?_
        refine cg_X10_shortName hx hb hT hown hK hP mw3_5 dX10_placeEntry_73 ?_
        replace hF := obnd3_of hF
        obtain ⟨r8, fi6, ar7, h5, hF⟩ := hF
        refine cC_i (As := []) (rest := [.int (t0), .int (x6), .int (r4), .ref (ad (1)), .ref (ad (26 + 2 * 0))]) hx hb hml hT hown hK hE hD hA hP hS (rcv_X7 (by decide) hK hP) (kX7_sum l g ad rd _ nf ln 0 (by decide) fi2 ar3 r8 fi6 ar7 h5) cw_X7_sum mw48_10 ⟨⟨rfl, rfl⟩, Nat.le_of_ble_eq_true rfl, Nat.le_of_ble_eq_true rfl⟩ rfl hl.1 rfl (Nat.le_of_ble_eq_true rfl) dX10_placeEntry_76 ⟨Nat.zero_le _, Nat.zero_le _⟩ (fun H locs hP hS => ?_)
        replace hF := obnd3_of hF
        obtain ⟨r12, fi10, ar11, h9, hF⟩ := hF
        refine cC_v (As := [.ref (ad (1)), .int (r4), .int (x6), .int (t0), .int (r8)]) (rest := []) hx hb hml hT hown hK hE hD hA hP hS (rcv_X6 (by decide) hK hP) (kX6_writePart l g ad rd _ nf ln 0 (by decide) fi6 ar7 (r4) (x6) (t0) (r8) r12 fi10 ar11 h9) cw_X6_writePart mw48_11 ⟨⟨rfl, rfl⟩, Nat.le_of_ble_eq_true rfl, Nat.le_of_ble_eq_true rfl⟩ rfl hl.1 rfl (Nat.le_of_ble_eq_true rfl) dX10_placeEntry_79 ⟨Nat.zero_le _, Nat.zero_le _⟩ (fun H locs hP hS => ?_)
        obtain ⟨x6_13, ex6_13⟩ : ∃ y : Int32, y = (x6) + (1 : Int32) := ⟨_, rfl⟩
        replace hF := bnd_of hF ex6_13
        refine lv_iinc (v := x6_13) (lv' := [(6, .int (x6_13)), (7, .int (t0)), (0, .ref (ad (0))), (2, .int (x2)), (5, .int (x5))]) hx hb dX10_placeEntry_82 hl (k := 4) rfl (by rw [ex6_13]; rfl) (by decide) rfl (fun ls hl => ?_)
        refine lv_goto (tgt := 24) hx hb dX10_placeEntry_85 (by decide) ?_
        exact ih24 (x2) (x5) (x6_13) _ _ _ _ _ hF (lv_sub hl [2, 3, 4, 0] rfl) hP hS
      unfold FX10_placeEntry_24b at hF
      refine lv_iload hx hb dX10_placeEntry_24 (lv_at hl 3 rfl) ?_
      refine lv_iload_n hx hb dX10_placeEntry_26 rfl (lv_at hl 1 rfl) ?_
      refine lv_icmp_gt (tgt := 88) hx hb dX10_placeEntry_27 (by decide) (fun hc14 => ?_) (fun hc14 => ?_)
      · replace hF := br_yes hF hc14
        refine lv_iload hx hb dX10_placeEntry_88 (lv_at hl 2 rfl) ?_
        refine lv_iconst (v := (1 : Int32)) hx hb dX10_placeEntry_90 (by decide) ?_
        refine lv_iadd hx hb dX10_placeEntry_91 ?_
        obtain ⟨x6_15, ex6_15⟩ : ∃ y : Int32, y = ((x5) + (1 : Int32)) := ⟨_, rfl⟩
        rw [← ex6_15]
        replace hF := bnd_of hF ex6_15
        refine lv_istore (lv' := [(6, .int (x6_15)), (0, .ref (ad (0))), (2, .int (x2)), (5, .int (x5))]) hx hb dX10_placeEntry_92 hl (by decide) rfl (fun ls hl => ?_)
        refine lv_iload hx hb dX10_placeEntry_94 (lv_at hl 0 rfl) ?_
        refine lv_aload_n hx hb dX10_placeEntry_96 rfl (lv_at hl 1 rfl) ?_
        refine cg_X10_here hx hb hT hown hK hP mw2_19 dX10_placeEntry_97 ?_
        refine cg_X2_looked (by decide) hx hb hT hown hK hP mw48_8 dX10_placeEntry_100 ?_
        refine lv_icmp_lt (tgt := 135) hx hb dX10_placeEntry_103 (by decide) (fun hc16 => ?_) (fun hc16 => ?_)
        · replace hF := br_yes hF hc16
          exact J135  _ _ _ _ _ hF (lv_sub hl [1] rfl) hP hS
        · replace hF := br_no hF hc16
          refine lv_iload hx hb dX10_placeEntry_106 (lv_at hl 0 rfl) ?_
          refine lv_aload_n hx hb dX10_placeEntry_108 rfl (lv_at hl 1 rfl) ?_
          refine cg_X10_here hx hb hT hown hK hP mw2_19 dX10_placeEntry_109 ?_
          refine cg_X2_slots (by decide) hx hb hT hown hK hP mw48_9 dX10_placeEntry_112 ?_
          refine lv_icmp_ge (tgt := 135) hx hb dX10_placeEntry_115 (by decide) (fun hc17 => ?_) (fun hc17 => ?_)
          · replace hF := br_yes hF hc17
            exact J135  _ _ _ _ _ hF (lv_sub hl [1] rfl) hP hS
          · replace hF := br_no hF hc17
            refine lv_aload_n hx hb dX10_placeEntry_118 rfl (lv_at hl 1 rfl) ?_
            refine cg_X10_disk hx hb hT hown hK hP mw2_3 dX10_placeEntry_119 ?_
            refine lv_aload_n hx hb dX10_placeEntry_122 rfl (lv_at hl 1 rfl) ?_
            refine cg_X10_here hx hb hT hown hK hP mw2_19 dX10_placeEntry_123 ?_
            refine lv_iload hx hb dX10_placeEntry_126 (lv_at hl 0 rfl) ?_
            replace hF := obnd3_of hF
            obtain ⟨r21, fi19, ar20, h18, hF⟩ := hF
            refine cC_i (As := [.int (x6_15)]) (rest := [.ref (ad (1))]) hx hb hml hT hown hK hE hD hA hP hS (rcv_X2 (by decide) hK hP) (kX2_slotAddress l g ad rd _ nf ln 0 (by decide) fi ar (x6_15) r21 fi19 ar20 h18) cw_X2_slotAddress mw39_13 ⟨⟨rfl, rfl⟩, Nat.le_of_ble_eq_true rfl, Nat.le_of_ble_eq_true rfl⟩ rfl hl.1 rfl (Nat.le_of_ble_eq_true rfl) dX10_placeEntry_128 ⟨Nat.zero_le _, Nat.zero_le _⟩ (fun H locs hP hS => ?_)
            refine lv_iconst (v := (0 : Int32)) hx hb dX10_placeEntry_131 (by decide) ?_
            replace hF := obnd3_of hF
            obtain ⟨r25, fi23, ar24, h22, hF⟩ := hF
            refine cC_v (As := [.int (r21), .int (0 : Int32)]) (rest := []) hx hb hml hT hown hK hE hD hA hP hS (rcv_X3 hK hP) (kX3_putOne l g ad rd _ nf ln fi19 ar20 (r21) (0 : Int32) r25 fi23 ar24 h22) cw_X3_putOne mw17_2 ⟨⟨rfl, rfl⟩, Nat.le_of_ble_eq_true rfl, Nat.le_of_ble_eq_true rfl⟩ rfl hl.1 rfl (Nat.le_of_ble_eq_true rfl) dX10_placeEntry_132 ⟨Nat.zero_le _, Nat.zero_le _⟩ (fun H locs hP hS => ?_)
            exact J135  _ _ _ _ _ hF (lv_sub hl [1] rfl) hP hS
      · replace hF := br_no hF hc14
        refine lv_iload hx hb dX10_placeEntry_30 (lv_at hl 3 rfl) ?_
        refine lv_iload_n hx hb dX10_placeEntry_32 rfl (lv_at hl 1 rfl) ?_
        refine lv_icmp_ne (tgt := 44) hx hb dX10_placeEntry_33 (by decide) (fun hc26 => ?_) (fun hc26 => ?_)
        · replace hF := br_no hF hc26
          refine lv_iload hx hb dX10_placeEntry_44 (lv_at hl 3 rfl) ?_
          exact J46 (x2) (x5) (x6) (x6) _ _ _ _ _ hF (lv_sub hl [0, 1, 2, 3] rfl) hP hS
        · replace hF := br_yes hF hc26
          refine lv_iload hx hb dX10_placeEntry_36 (lv_at hl 3 rfl) ?_
          refine lv_bipush (v := (64 : Int32)) hx hb dX10_placeEntry_38 (by decide) ?_
          refine lv_iadd hx hb dX10_placeEntry_40 ?_
          refine lv_goto (tgt := 46) hx hb dX10_placeEntry_41 (by decide) ?_
          exact J46 (x2) (x5) (x6) ((x6) + (64 : Int32)) _ _ _ _ _ hF (lv_sub hl [0, 1, 2, 3] rfl) hP hS
  replace hl := lv_sub hl [0, 1, 2, 3, 4] rfl
  refine lv_iload_n hx hb dX10_placeEntry_0 rfl (lv_at hl 1 rfl) ?_
  refine lv_iload_n hx hb dX10_placeEntry_1 rfl (lv_at hl 2 rfl) ?_
  refine lv_iadd hx hb dX10_placeEntry_2 ?_
  obtain ⟨x5_27, ex5_27⟩ : ∃ y : Int32, y = ((p1) + (p2)) := ⟨_, rfl⟩
  rw [← ex5_27]
  replace hF := bnd_of hF ex5_27
  refine lv_istore (lv' := [(5, .int (x5_27)), (0, .ref (ad (0))), (1, .int (p1)), (2, .int (p2)), (3, .int (p3)), (4, .int (p4))]) hx hb dX10_placeEntry_3 hl (by decide) rfl (fun ls hl => ?_)
  refine lv_aload_n hx hb dX10_placeEntry_5 rfl (lv_at hl 1 rfl) ?_
  refine lv_aload_n hx hb dX10_placeEntry_6 rfl (lv_at hl 1 rfl) ?_
  refine cg_X10_here hx hb hT hown hK hP mw2_19 dX10_placeEntry_7 ?_
  refine lv_iload hx hb dX10_placeEntry_10 (lv_at hl 0 rfl) ?_
  replace hF := obnd3_of hF
  obtain ⟨r31, fi29, ar30, h28, hF⟩ := hF
  refine cC_i (As := [.int (x5_27)]) (rest := [.ref (ad (0))]) hx hb hml hT hown hK hE hD hA hP hS (rcv_X2 (by decide) hK hP) (kX2_slotAddress l g ad rd _ nf ln 0 (by decide) fi ar (x5_27) r31 fi29 ar30 h28) cw_X2_slotAddress mw39_13 ⟨⟨rfl, rfl⟩, Nat.le_of_ble_eq_true rfl, Nat.le_of_ble_eq_true rfl⟩ rfl hl.1 rfl (Nat.le_of_ble_eq_true rfl) dX10_placeEntry_12 ⟨Nat.zero_le _, Nat.zero_le _⟩ (fun H locs hP hS => ?_)
  refine lv_iload_n hx hb dX10_placeEntry_15 rfl (lv_at hl 4 rfl) ?_
  refine lv_iload hx hb dX10_placeEntry_16 (lv_at hl 5 rfl) ?_
  replace hF := obnd3_of hF
  obtain ⟨r35, fi33, ar34, h32, hF⟩ := hF
  refine cC_v (As := [.int (r31), .int (p3), .int (p4)]) (rest := []) hx hb hml hT hown hK hE hD hA hP hS (rcv_X10 hK hP) (kX10_writeEntry l g ad rd _ nf ln fi29 ar30 (r31) (p3) (p4) r35 fi33 ar34 h32) cw_X10_writeEntry mw16_16 ⟨⟨rfl, rfl⟩, Nat.le_of_ble_eq_true rfl, Nat.le_of_ble_eq_true rfl⟩ rfl hl.1 rfl (Nat.le_of_ble_eq_true rfl) dX10_placeEntry_18 ⟨Nat.zero_le _, Nat.zero_le _⟩ (fun H locs hP hS => ?_)
  refine lv_iconst (v := (1 : Int32)) hx hb dX10_placeEntry_21 (by decide) ?_
  refine lv_istore (lv' := [(6, .int (1 : Int32)), (5, .int (x5_27)), (0, .ref (ad (0))), (1, .int (p1)), (2, .int (p2)), (3, .int (p3)), (4, .int (p4))]) hx hb dX10_placeEntry_22 hl (by decide) rfl (fun ls hl => ?_)
  exact L24 nf (p2) (x5_27) (1 : Int32) _ _ _ _ _ hF (lv_sub hl [2, 4, 1, 0] rfl) hP hS
theorem cw_X10_placeEntry : (Cond.instanceMethod yX10_placeEntry ∈ TB ∧ Cond.selects RX10 yX10_placeEntry yX10_placeEntry ∈ TB ∧ Cond.code yX10_placeEntry cX10_placeEntry 8 none ∈ TB ∧ Cond.initialized RX10 ∈ TB) ∧ (yX10_placeEntry.cls = RX10 ∧ yX10_placeEntry.cls ≠ "java/lang/invoke/MethodHandle" ∧ yX10_placeEntry.cls ≠ "java/lang/invoke/VarHandle" ∧ (parseMethodDescriptor yX10_placeEntry.desc).map (fun d => d.parameters.length) = some 4) := ⟨⟨mw48_5, mw48_6, mw48_7, mw1_2⟩, by decide +kernel⟩
/-! X10_shorten -/
noncomputable def FX10_shorten (nf : Nat) (ln : LN) (fi : FI) (ar : AR) (x1 : Int32) (x2 : Int32) : Option (Unit × FI × AR) :=
  obnd3 (FX3_firstCluster nf ln fi ar (x1)) fun r4 fi2 ar3 => br ((x2) = 0) (obnd3 (FX3_putFirstCluster nf ln fi2 ar3 (x1) (0 : Int32)) fun r25 fi23 ar24 => obnd3 (FX9_release nf ln fi23 ar24 (r4)) fun r29 fi27 ar28 => some ((), fi27, ar28)) (obnd3 (FX9_later nf ln fi2 ar3 (r4) ((x2) - (1 : Int32))) fun r9 fi7 ar8 => obnd3 (FX9_next nf ln fi7 ar8 (r9)) fun r13 fi11 ar12 => obnd3 (FX9_link nf ln fi11 ar12 (r9) (268435455 : Int32)) fun r17 fi15 ar16 => obnd3 (FX9_release nf ln fi15 ar16 (r13)) fun r21 fi19 ar20 => some ((), fi19, ar20))
set_option maxHeartbeats 4000000 in
set_option maxRecDepth 100000 in
theorem kX10_shorten (l : Launch) (g : GT) (ad rd : Nat → Nat) (sz : Nat) (nf : Nat) (ln : LN) (fi : FI) (ar : AR) (p1 : Int32) (p2 : Int32) (r : Unit) (fi' : FI) (ar' : AR) (hF : FX10_shorten nf ln fi ar p1 p2 = some (r, fi', ar')) : Met l yX10_shorten (wx yX10_shorten cX10_shorten 6 none) ({ frames := 5, cells := 0, slots := 0, locals := 116 } : Room) (va_Pc [.ref (ad (0)), .int p1, .int p2] (PC g ad rd ln sz fi ar)) (QCv g ad rd ln sz r fi' ar') 0 0 (AC ad rd sz) := by
  refine Met.ofW (cc := cX10_shorten) (maxL := 6) (ret := none) (by decide) rfl ?_
  intro p e s m args below meth c s₁ B hml hv
  obtain ⟨rfl, hsz, hP, hK, hD0, hE⟩ := hv
  have hx := B.exec
  have hb := B.bytes
  have hr := B.returns
  have hts := atoms_spec (ws := (wx yX10_shorten cX10_shorten 6 none)) B.pre
  have hT : ∀ w ∈ TB, w.before _ s = true := fun w h => hts w (List.mem_cons_of_mem _ h)
  have hown : s.vm.findClass RX10 = some m.cls := findClass_of_methodNamed B.named
  have hlocks := B.notSynchronized
  subst hsz
  have hD := dC hD0 s.heap.size
  have hA : ∀ q : Nat, s.heap.size ≤ q → AC ad rd s.heap.size q := fun q h => Or.inr h
  have hS : va_S (AC ad rd s.heap.size) s.heap s.heap [] := va_S.rf
  have hl := lv_entry ([.ref (ad (0)), .int p1, .int p2]) (n := 6) (Nat.le_of_ble_eq_true rfl)
  rw [lg_entry_eq]
  generalize (lg_sl ([.ref (ad (0)), .int p1, .int p2]) ++ List.replicate (6 - (lg_sl ([.ref (ad (0)), .int p1, .int p2])).length) Slot.unset).toArray = ls at hl ⊢
  have hl : lv_has ls 6 [(0, .ref (ad (0))), (1, .int p1), (2, .int p2)] := hl
  unfold FX10_shorten at hF
  replace hl := lv_sub hl [0, 1, 2] rfl
  refine lv_aload_n hx hb dX10_shorten_0 rfl (lv_at hl 0 rfl) ?_
  refine cg_X10_disk hx hb hT hown hK hP mw2_3 dX10_shorten_1 ?_
  refine lv_iload_n hx hb dX10_shorten_4 rfl (lv_at hl 1 rfl) ?_
  replace hF := obnd3_of hF
  obtain ⟨r4, fi2, ar3, h1, hF⟩ := hF
  refine cC_i (As := [.int (p1)]) (rest := []) hx hb hml hT hown hK hE hD hA hP hS (rcv_X3 hK hP) (kX3_firstCluster l g ad rd _ nf ln fi ar (p1) r4 fi2 ar3 h1) cw_X3_firstCluster mw42_22 ⟨⟨rfl, rfl⟩, Nat.le_of_ble_eq_true rfl, Nat.le_of_ble_eq_true rfl⟩ rfl hl.1 rfl (Nat.le_of_ble_eq_true rfl) dX10_shorten_5 ⟨Nat.zero_le _, Nat.zero_le _⟩ (fun H locs hP hS => ?_)
  refine lv_istore_n (lv' := [(3, .int (r4)), (0, .ref (ad (0))), (1, .int (p1)), (2, .int (p2))]) hx hb dX10_shorten_8 rfl hl (by decide) rfl (fun ls hl => ?_)
  refine lv_iload_n hx hb dX10_shorten_9 rfl (lv_at hl 3 rfl) ?_
  refine lv_if_ne (tgt := 31) hx hb dX10_shorten_10 (by decide) (fun hc5 => ?_) (fun hc5 => ?_)
  · replace hF := br_no hF hc5
    refine lv_aload_n hx hb dX10_shorten_31 rfl (lv_at hl 1 rfl) ?_
    refine cg_X10_volume hx hb hT hown hK hP mw2_11 dX10_shorten_32 ?_
    refine lv_iload_n hx hb dX10_shorten_35 rfl (lv_at hl 0 rfl) ?_
    refine lv_iload_n hx hb dX10_shorten_36 rfl (lv_at hl 3 rfl) ?_
    refine lv_iconst (v := (1 : Int32)) hx hb dX10_shorten_37 (by decide) ?_
    refine lv_isub hx hb dX10_shorten_38 ?_
    replace hF := obnd3_of hF
    obtain ⟨r9, fi7, ar8, h6, hF⟩ := hF
    refine cC_i (As := [.int (r4), .int ((p2) - (1 : Int32))]) (rest := []) hx hb hml hT hown hK hE hD hA hP hS (rcv_X9 hK hP) (kX9_later l g ad rd _ nf ln fi2 ar3 (r4) ((p2) - (1 : Int32)) r9 fi7 ar8 h6) cw_X9_later mw43_0 ⟨⟨rfl, rfl⟩, Nat.le_of_ble_eq_true rfl, Nat.le_of_ble_eq_true rfl⟩ rfl hl.1 rfl (Nat.le_of_ble_eq_true rfl) dX10_shorten_39 ⟨Nat.zero_le _, Nat.zero_le _⟩ (fun H locs hP hS => ?_)
    refine lv_istore (lv' := [(4, .int (r9)), (3, .int (r4)), (0, .ref (ad (0))), (1, .int (p1)), (2, .int (p2))]) hx hb dX10_shorten_42 hl (by decide) rfl (fun ls hl => ?_)
    refine lv_aload_n hx hb dX10_shorten_44 rfl (lv_at hl 2 rfl) ?_
    refine cg_X10_volume hx hb hT hown hK hP mw2_11 dX10_shorten_45 ?_
    refine lv_iload hx hb dX10_shorten_48 (lv_at hl 0 rfl) ?_
    replace hF := obnd3_of hF
    obtain ⟨r13, fi11, ar12, h10, hF⟩ := hF
    refine cC_i (As := [.int (r9)]) (rest := []) hx hb hml hT hown hK hE hD hA hP hS (rcv_X9 hK hP) (kX9_next l g ad rd _ nf ln fi7 ar8 (r9) r13 fi11 ar12 h10) cw_X9_next mw54_11 ⟨⟨rfl, rfl⟩, Nat.le_of_ble_eq_true rfl, Nat.le_of_ble_eq_true rfl⟩ rfl hl.1 rfl (Nat.le_of_ble_eq_true rfl) dX10_shorten_50 ⟨Nat.zero_le _, Nat.zero_le _⟩ (fun H locs hP hS => ?_)
    refine lv_istore (lv' := [(5, .int (r13)), (4, .int (r9)), (3, .int (r4)), (0, .ref (ad (0))), (1, .int (p1)), (2, .int (p2))]) hx hb dX10_shorten_53 hl (by decide) rfl (fun ls hl => ?_)
    refine lv_aload_n hx hb dX10_shorten_55 rfl (lv_at hl 3 rfl) ?_
    refine cg_X10_volume hx hb hT hown hK hP mw2_11 dX10_shorten_56 ?_
    refine lv_iload hx hb dX10_shorten_59 (lv_at hl 1 rfl) ?_
    refine lv_ldcw (v := (268435455 : Int32)) hx hb hown (hT _ mw54_6) dX10_shorten_61 ?_
    replace hF := obnd3_of hF
    obtain ⟨r17, fi15, ar16, h14, hF⟩ := hF
    refine cC_v (As := [.int (r9), .int (268435455 : Int32)]) (rest := []) hx hb hml hT hown hK hE hD hA hP hS (rcv_X9 hK hP) (kX9_link l g ad rd _ nf ln fi11 ar12 (r9) (268435455 : Int32) r17 fi15 ar16 h14) cw_X9_link mw51_17 ⟨⟨rfl, rfl⟩, Nat.le_of_ble_eq_true rfl, Nat.le_of_ble_eq_true rfl⟩ rfl hl.1 rfl (Nat.le_of_ble_eq_true rfl) dX10_shorten_64 ⟨Nat.zero_le _, Nat.zero_le _⟩ (fun H locs hP hS => ?_)
    refine lv_aload_n hx hb dX10_shorten_67 rfl (lv_at hl 3 rfl) ?_
    refine cg_X10_volume hx hb hT hown hK hP mw2_11 dX10_shorten_68 ?_
    refine lv_iload hx hb dX10_shorten_71 (lv_at hl 0 rfl) ?_
    replace hF := obnd3_of hF
    obtain ⟨r21, fi19, ar20, h18, hF⟩ := hF
    refine cC_v (As := [.int (r13)]) (rest := []) hx hb hml hT hown hK hE hD hA hP hS (rcv_X9 hK hP) (kX9_release l g ad rd _ nf ln fi15 ar16 (r13) r21 fi19 ar20 h18) cw_X9_release mw54_7 ⟨⟨rfl, rfl⟩, Nat.le_of_ble_eq_true rfl, Nat.le_of_ble_eq_true rfl⟩ rfl hl.1 rfl (Nat.le_of_ble_eq_true rfl) dX10_shorten_73 ⟨Nat.zero_le _, Nat.zero_le _⟩ (fun H locs hP hS => ?_)
    exact rC_v hx hb hr hlocks hF hP hS dX10_shorten_76
  · replace hF := br_yes hF hc5
    refine lv_aload_n hx hb dX10_shorten_13 rfl (lv_at hl 1 rfl) ?_
    refine cg_X10_disk hx hb hT hown hK hP mw2_3 dX10_shorten_14 ?_
    refine lv_iload_n hx hb dX10_shorten_17 rfl (lv_at hl 2 rfl) ?_
    refine lv_iconst (v := (0 : Int32)) hx hb dX10_shorten_18 (by decide) ?_
    replace hF := obnd3_of hF
    obtain ⟨r25, fi23, ar24, h22, hF⟩ := hF
    refine cC_v (As := [.int (p1), .int (0 : Int32)]) (rest := []) hx hb hml hT hown hK hE hD hA hP hS (rcv_X3 hK hP) (kX3_putFirstCluster l g ad rd _ nf ln fi2 ar3 (p1) (0 : Int32) r25 fi23 ar24 h22) cw_X3_putFirstCluster mw17_4 ⟨⟨rfl, rfl⟩, Nat.le_of_ble_eq_true rfl, Nat.le_of_ble_eq_true rfl⟩ rfl hl.1 rfl (Nat.le_of_ble_eq_true rfl) dX10_shorten_19 ⟨Nat.zero_le _, Nat.zero_le _⟩ (fun H locs hP hS => ?_)
    refine lv_aload_n hx hb dX10_shorten_22 rfl (lv_at hl 1 rfl) ?_
    refine cg_X10_volume hx hb hT hown hK hP mw2_11 dX10_shorten_23 ?_
    refine lv_iload_n hx hb dX10_shorten_26 rfl (lv_at hl 0 rfl) ?_
    replace hF := obnd3_of hF
    obtain ⟨r29, fi27, ar28, h26, hF⟩ := hF
    refine cC_v (As := [.int (r4)]) (rest := []) hx hb hml hT hown hK hE hD hA hP hS (rcv_X9 hK hP) (kX9_release l g ad rd _ nf ln fi23 ar24 (r4) r29 fi27 ar28 h26) cw_X9_release mw54_7 ⟨⟨rfl, rfl⟩, Nat.le_of_ble_eq_true rfl, Nat.le_of_ble_eq_true rfl⟩ rfl hl.1 rfl (Nat.le_of_ble_eq_true rfl) dX10_shorten_27 ⟨Nat.zero_le _, Nat.zero_le _⟩ (fun H locs hP hS => ?_)
    exact rC_v hx hb hr hlocks hF hP hS dX10_shorten_30
theorem cw_X10_shorten : (Cond.instanceMethod yX10_shorten ∈ TB ∧ Cond.selects RX10 yX10_shorten yX10_shorten ∈ TB ∧ Cond.code yX10_shorten cX10_shorten 6 none ∈ TB ∧ Cond.initialized RX10 ∈ TB) ∧ (yX10_shorten.cls = RX10 ∧ yX10_shorten.cls ≠ "java/lang/invoke/MethodHandle" ∧ yX10_shorten.cls ≠ "java/lang/invoke/VarHandle" ∧ (parseMethodDescriptor yX10_shorten.desc).map (fun d => d.parameters.length) = some 2) := ⟨⟨mw54_3, mw54_4, mw54_5, mw1_2⟩, by decide +kernel⟩
/-! X10_stampFits -/
noncomputable def FX10_stampFits_141 (nf : Nat) (ln : LN) (t0 : Int32) (fi : FI) (ar : AR) : Option (Int32 × FI × AR) :=
  gd ((t0) &&& 1 = (t0)) (some ((t0), fi, ar))
noncomputable def FX10_stampFits_136 (nf : Nat) (ln : LN)  (fi : FI) (ar : AR) : Option (Int32 × FI × AR) :=
  FX10_stampFits_141 nf ln  (1 : Int32) fi ar
noncomputable def FX10_stampFits_96 (nf : Nat) (ln : LN) (t0 : Int32) (fi : FI) (ar : AR) : Option (Int32 × FI × AR) :=
  gd ((t0) &&& 1 = (t0)) (some ((t0), fi, ar))
noncomputable def FX10_stampFits_95 (nf : Nat) (ln : LN)  (fi : FI) (ar : AR) : Option (Int32 × FI × AR) :=
  FX10_stampFits_96 nf ln  (0 : Int32) fi ar
noncomputable def FX10_stampFits_75 (nf : Nat) (ln : LN) (t0 : Int32) (fi : FI) (ar : AR) : Option (Int32 × FI × AR) :=
  gd ((t0) &&& 1 = (t0)) (some ((t0), fi, ar))
noncomputable def FX10_stampFits_74 (nf : Nat) (ln : LN)  (fi : FI) (ar : AR) : Option (Int32 × FI × AR) :=
  FX10_stampFits_75 nf ln  (0 : Int32) fi ar
noncomputable def FX10_stampFits_70 (nf : Nat) (ln : LN)  (fi : FI) (ar : AR) : Option (Int32 × FI × AR) :=
  FX10_stampFits_75 nf ln  (1 : Int32) fi ar
noncomputable def FX10_stampFits (nf : Nat) (ln : LN) (fi : FI) (ar : AR) (x1 : Int32) (x2 : Int32) (x3 : Int32) (x4 : Int32) : Option (Int32 × FI × AR) :=
  br ((x2) = (0 : Int32)) (obnd3 (FX3_one nf ln fi ar ((x1) + (13 : Int32))) fun r8 fi6 ar7 => obnd (FX1_madeAsTold nf (x3) (x4) (r8)) fun r10 => gd ((r10) &&& 1 = (r10)) (some ((r10), fi6, ar7))) (br ((x2) = (1 : Int32)) (br ((x4) = 0) (br ((x3) = 0) (FX10_stampFits_70 nf ln  fi ar) (obnd (FX1_dayAsTold nf (x3)) fun r16 => br ((r16) = 0) (FX10_stampFits_74 nf ln  fi ar) (FX10_stampFits_70 nf ln  fi ar))) (FX10_stampFits_74 nf ln  fi ar)) (br ((x2) = (2 : Int32)) (obnd (FX1_dayAsTold nf (x3)) fun r20 => br ((r20) = 0) (FX10_stampFits_95 nf ln  fi ar) (obnd (FX1_timeAsTold nf (x4)) fun r23 => br ((r23) = 0) (FX10_stampFits_95 nf ln  fi ar) (FX10_stampFits_96 nf ln  (1 : Int32) fi ar))) (br ((x2) = (3 : Int32)) (obnd3 (FX3_two nf ln fi ar ((x1) + (16 : Int32))) fun r29 fi27 ar28 => obnd3 (FX3_two nf ln fi27 ar28 ((x1) + (14 : Int32))) fun r33 fi31 ar32 => obnd (FX1_madeAsTold nf (r29) (r33) (x4)) fun r35 => gd ((r35) &&& 1 = (r35)) (some ((r35), fi31, ar32))) (br ((x2) = (4 : Int32)) (br ((x4) = 0) (FX10_stampFits_136 nf ln  fi ar) (br ((x4) = (1 : Int32)) (FX10_stampFits_136 nf ln  fi ar) (FX10_stampFits_141 nf ln  (0 : Int32) fi ar))) (some ((0 : Int32), fi, ar))))))
set_option maxHeartbeats 4000000 in
set_option maxRecDepth 100000 in
theorem kX10_stampFits (l : Launch) (g : GT) (ad rd : Nat → Nat) (sz : Nat) (nf : Nat) (ln : LN) (fi : FI) (ar : AR) (p1 : Int32) (p2 : Int32) (p3 : Int32) (p4 : Int32) (r : Int32) (fi' : FI) (ar' : AR) (hF : FX10_stampFits nf ln fi ar p1 p2 p3 p4 = some (r, fi', ar')) : Met l yX10_stampFits (wx yX10_stampFits cX10_stampFits 5 (some .boolean)) ({ frames := 3, cells := 0, slots := 0, locals := 65 } : Room) (va_Pc [.ref (ad (0)), .int p1, .int p2, .int p3, .int p4] (PC g ad rd ln sz fi ar)) (QCi g ad rd ln sz r fi' ar') 0 0 (AC ad rd sz) := by
  refine Met.ofW (cc := cX10_stampFits) (maxL := 5) (ret := (some .boolean)) (by decide) rfl ?_
  intro p e s m args below meth c s₁ B hml hv
  obtain ⟨rfl, hsz, hP, hK, hD0, hE⟩ := hv
  have hx := B.exec
  have hb := B.bytes
  have hr := B.returns
  have hts := atoms_spec (ws := (wx yX10_stampFits cX10_stampFits 5 (some .boolean))) B.pre
  have hT : ∀ w ∈ TB, w.before _ s = true := fun w h => hts w (List.mem_cons_of_mem _ h)
  have hown : s.vm.findClass RX10 = some m.cls := findClass_of_methodNamed B.named
  have hlocks := B.notSynchronized
  subst hsz
  have hD := dC hD0 s.heap.size
  have hA : ∀ q : Nat, s.heap.size ≤ q → AC ad rd s.heap.size q := fun q h => Or.inr h
  have hS : va_S (AC ad rd s.heap.size) s.heap s.heap [] := va_S.rf
  have hl := lv_entry ([.ref (ad (0)), .int p1, .int p2, .int p3, .int p4]) (n := 5) (Nat.le_of_ble_eq_true rfl)
  rw [lg_entry_eq]
  generalize (lg_sl ([.ref (ad (0)), .int p1, .int p2, .int p3, .int p4]) ++ List.replicate (5 - (lg_sl ([.ref (ad (0)), .int p1, .int p2, .int p3, .int p4])).length) Slot.unset).toArray = ls at hl ⊢
  have hl : lv_has ls 5 [(0, .ref (ad (0))), (1, .int p1), (2, .int p2), (3, .int p3), (4, .int p4)] := hl
  unfold FX10_stampFits at hF
  have J141 : ∀ (t0 : Int32) (fi : FI) (ar : AR) (H : Heap) (locs : List Loc) (ls : Array Slot), FX10_stampFits_141 nf ln t0 fi ar = some (r, fi', ar') → lv_has ls 5 [(0, .ref (ad (0)))] → va_P (gD g) vwCl (WC g ad rd ln fi ar) H → va_S (AC ad rd s.heap.size) s.heap H locs → W p l e (headSpec (wx yX10_stampFits cX10_stampFits 5 (some .boolean)) ({ frames := 3, cells := 0, slots := 0, locals := 65 } : Room)).room s m ([.ref (ad (0)), .int p1, .int p2, .int p3, .int p4] : List Value).toArray below meth c H locs 0 0 (MQ below (QCi g ad rd ln s.heap.size r fi' ar') ([.ref (ad (0)), .int p1, .int p2, .int p3, .int p4] : List Value).toArray s 0 0 (AC ad rd s.heap.size)) (F0 m 141 ls [.int t0]) := by
    intro t0 fi ar H locs ls hF hl hP hS
    unfold FX10_stampFits_141 at hF
    replace hF := gd_of hF
    obtain ⟨hz1, hF⟩ := hF
    exact rC_z hx hb hr hlocks (nar_z hz1) hF hP hS dX10_stampFits_141
  have J136 : ∀  (fi : FI) (ar : AR) (H : Heap) (locs : List Loc) (ls : Array Slot), FX10_stampFits_136 nf ln fi ar = some (r, fi', ar') → lv_has ls 5 [(0, .ref (ad (0)))] → va_P (gD g) vwCl (WC g ad rd ln fi ar) H → va_S (AC ad rd s.heap.size) s.heap H locs → W p l e (headSpec (wx yX10_stampFits cX10_stampFits 5 (some .boolean)) ({ frames := 3, cells := 0, slots := 0, locals := 65 } : Room)).room s m ([.ref (ad (0)), .int p1, .int p2, .int p3, .int p4] : List Value).toArray below meth c H locs 0 0 (MQ below (QCi g ad rd ln s.heap.size r fi' ar') ([.ref (ad (0)), .int p1, .int p2, .int p3, .int p4] : List Value).toArray s 0 0 (AC ad rd s.heap.size)) (F0 m 136 ls []) := by
    intro fi ar H locs ls hF hl hP hS
    unfold FX10_stampFits_136 at hF
    refine lv_iconst (v := (1 : Int32)) hx hb dX10_stampFits_136 (by decide) ?_
    refine lv_goto (tgt := 141) hx hb dX10_stampFits_137 (by decide) ?_
    exact J141 (1 : Int32) _ _ _ _ _ hF (lv_sub hl [0] rfl) hP hS
  have J96 : ∀ (t0 : Int32) (fi : FI) (ar : AR) (H : Heap) (locs : List Loc) (ls : Array Slot), FX10_stampFits_96 nf ln t0 fi ar = some (r, fi', ar') → lv_has ls 5 [(0, .ref (ad (0)))] → va_P (gD g) vwCl (WC g ad rd ln fi ar) H → va_S (AC ad rd s.heap.size) s.heap H locs → W p l e (headSpec (wx yX10_stampFits cX10_stampFits 5 (some .boolean)) ({ frames := 3, cells := 0, slots := 0, locals := 65 } : Room)).room s m ([.ref (ad (0)), .int p1, .int p2, .int p3, .int p4] : List Value).toArray below meth c H locs 0 0 (MQ below (QCi g ad rd ln s.heap.size r fi' ar') ([.ref (ad (0)), .int p1, .int p2, .int p3, .int p4] : List Value).toArray s 0 0 (AC ad rd s.heap.size)) (F0 m 96 ls [.int t0]) := by
    intro t0 fi ar H locs ls hF hl hP hS
    unfold FX10_stampFits_96 at hF
    replace hF := gd_of hF
    obtain ⟨hz2, hF⟩ := hF
    exact rC_z hx hb hr hlocks (nar_z hz2) hF hP hS dX10_stampFits_96
  have J95 : ∀  (fi : FI) (ar : AR) (H : Heap) (locs : List Loc) (ls : Array Slot), FX10_stampFits_95 nf ln fi ar = some (r, fi', ar') → lv_has ls 5 [(0, .ref (ad (0)))] → va_P (gD g) vwCl (WC g ad rd ln fi ar) H → va_S (AC ad rd s.heap.size) s.heap H locs → W p l e (headSpec (wx yX10_stampFits cX10_stampFits 5 (some .boolean)) ({ frames := 3, cells := 0, slots := 0, locals := 65 } : Room)).room s m ([.ref (ad (0)), .int p1, .int p2, .int p3, .int p4] : List Value).toArray below meth c H locs 0 0 (MQ below (QCi g ad rd ln s.heap.size r fi' ar') ([.ref (ad (0)), .int p1, .int p2, .int p3, .int p4] : List Value).toArray s 0 0 (AC ad rd s.heap.size)) (F0 m 95 ls []) := by
    intro fi ar H locs ls hF hl hP hS
    unfold FX10_stampFits_95 at hF
    refine lv_iconst (v := (0 : Int32)) hx hb dX10_stampFits_95 (by decide) ?_
    exact J96 (0 : Int32) _ _ _ _ _ hF (lv_sub hl [0] rfl) hP hS
  have J75 : ∀ (t0 : Int32) (fi : FI) (ar : AR) (H : Heap) (locs : List Loc) (ls : Array Slot), FX10_stampFits_75 nf ln t0 fi ar = some (r, fi', ar') → lv_has ls 5 [(0, .ref (ad (0)))] → va_P (gD g) vwCl (WC g ad rd ln fi ar) H → va_S (AC ad rd s.heap.size) s.heap H locs → W p l e (headSpec (wx yX10_stampFits cX10_stampFits 5 (some .boolean)) ({ frames := 3, cells := 0, slots := 0, locals := 65 } : Room)).room s m ([.ref (ad (0)), .int p1, .int p2, .int p3, .int p4] : List Value).toArray below meth c H locs 0 0 (MQ below (QCi g ad rd ln s.heap.size r fi' ar') ([.ref (ad (0)), .int p1, .int p2, .int p3, .int p4] : List Value).toArray s 0 0 (AC ad rd s.heap.size)) (F0 m 75 ls [.int t0]) := by
    intro t0 fi ar H locs ls hF hl hP hS
    unfold FX10_stampFits_75 at hF
    replace hF := gd_of hF
    obtain ⟨hz3, hF⟩ := hF
    exact rC_z hx hb hr hlocks (nar_z hz3) hF hP hS dX10_stampFits_75
  have J74 : ∀  (fi : FI) (ar : AR) (H : Heap) (locs : List Loc) (ls : Array Slot), FX10_stampFits_74 nf ln fi ar = some (r, fi', ar') → lv_has ls 5 [(0, .ref (ad (0)))] → va_P (gD g) vwCl (WC g ad rd ln fi ar) H → va_S (AC ad rd s.heap.size) s.heap H locs → W p l e (headSpec (wx yX10_stampFits cX10_stampFits 5 (some .boolean)) ({ frames := 3, cells := 0, slots := 0, locals := 65 } : Room)).room s m ([.ref (ad (0)), .int p1, .int p2, .int p3, .int p4] : List Value).toArray below meth c H locs 0 0 (MQ below (QCi g ad rd ln s.heap.size r fi' ar') ([.ref (ad (0)), .int p1, .int p2, .int p3, .int p4] : List Value).toArray s 0 0 (AC ad rd s.heap.size)) (F0 m 74 ls []) := by
    intro fi ar H locs ls hF hl hP hS
    unfold FX10_stampFits_74 at hF
    refine lv_iconst (v := (0 : Int32)) hx hb dX10_stampFits_74 (by decide) ?_
    exact J75 (0 : Int32) _ _ _ _ _ hF (lv_sub hl [0] rfl) hP hS
  have J70 : ∀  (fi : FI) (ar : AR) (H : Heap) (locs : List Loc) (ls : Array Slot), FX10_stampFits_70 nf ln fi ar = some (r, fi', ar') → lv_has ls 5 [(0, .ref (ad (0)))] → va_P (gD g) vwCl (WC g ad rd ln fi ar) H → va_S (AC ad rd s.heap.size) s.heap H locs → W p l e (headSpec (wx yX10_stampFits cX10_stampFits 5 (some .boolean)) ({ frames := 3, cells := 0, slots := 0, locals := 65 } : Room)).room s m ([.ref (ad (0)), .int p1, .int p2, .int p3, .int p4] : List Value).toArray below meth c H locs 0 0 (MQ below (QCi g ad rd ln s.heap.size r fi' ar') ([.ref (ad (0)), .int p1, .int p2, .int p3, .int p4] : List Value).toArray s 0 0 (AC ad rd s.heap.size)) (F0 m 70 ls []) := by
    intro fi ar H locs ls hF hl hP hS
    unfold FX10_stampFits_70 at hF
    refine lv_iconst (v := (1 : Int32)) hx hb dX10_stampFits_70 (by decide) ?_
    refine lv_goto (tgt := 75) hx hb dX10_stampFits_71 (by decide) ?_
    exact J75 (1 : Int32) _ _ _ _ _ hF (lv_sub hl [0] rfl) hP hS
  replace hl := lv_sub hl [0, 1, 2, 3, 4] rfl
  refine lv_iload_n hx hb dX10_stampFits_0 rfl (lv_at hl 2 rfl) ?_
  by_cases hc4 : (p2) = (0 : Int32)
  · replace hF := br_yes hF hc4
    refine lv_tableIn (tgt := 36) (off := 35) hx hb dX10_stampFits_1 (by rw [hc4]; decide) (by rw [hc4]; decide) (by rw [hc4]; rfl) (by decide) ?_
    refine lv_iload_n hx hb dX10_stampFits_36 rfl (lv_at hl 3 rfl) ?_
    refine lv_iload hx hb dX10_stampFits_37 (lv_at hl 4 rfl) ?_
    refine lv_aload_n hx hb dX10_stampFits_39 rfl (lv_at hl 0 rfl) ?_
    refine cg_X10_disk hx hb hT hown hK hP mw2_3 dX10_stampFits_40 ?_
    refine lv_iload_n hx hb dX10_stampFits_43 rfl (lv_at hl 1 rfl) ?_
    refine lv_bipush (v := (13 : Int32)) hx hb dX10_stampFits_44 (by decide) ?_
    refine lv_iadd hx hb dX10_stampFits_46 ?_
    replace hF := obnd3_of hF
    obtain ⟨r8, fi6, ar7, h5, hF⟩ := hF
    refine cC_i (As := [.int ((p1) + (13 : Int32))]) (rest := [.int (p4), .int (p3)]) hx hb hml hT hown hK hE hD hA hP hS (rcv_X3 hK hP) (kX3_one l g ad rd _ nf ln fi ar ((p1) + (13 : Int32)) r8 fi6 ar7 h5) cw_X3_one mw36_10 ⟨⟨rfl, rfl⟩, Nat.le_of_ble_eq_true rfl, Nat.le_of_ble_eq_true rfl⟩ rfl hl.1 rfl (Nat.le_of_ble_eq_true rfl) dX10_stampFits_47 ⟨Nat.zero_le _, Nat.zero_le _⟩ (fun H locs hP hS => ?_)
    replace hF := obnd_of hF
    obtain ⟨r10, h9, hF⟩ := hF
    refine cS_i (As := [.int (p3), .int (p4), .int (r8)]) (rest := []) hx hb hml hT hown hE hP hS (kX1_madeAsTold l g nf (p3) (p4) (r8) r10 h9) cw_X1_madeAsTold mw55_14 ⟨⟨rfl, rfl⟩, Nat.le_of_ble_eq_true rfl, Nat.le_of_ble_eq_true rfl⟩ rfl hl.1 rfl (Nat.le_of_ble_eq_true rfl) dX10_stampFits_50 ⟨Nat.zero_le _, Nat.zero_le _⟩ (fun H locs hP hS => ?_)
    replace hF := gd_of hF
    obtain ⟨hz11, hF⟩ := hF
    exact rC_z hx hb hr hlocks (nar_z hz11) hF hP hS dX10_stampFits_53
  · replace hF := br_no hF hc4
    by_cases hc12 : (p2) = (1 : Int32)
    · replace hF := br_yes hF hc12
      refine lv_tableIn (tgt := 54) (off := 53) hx hb dX10_stampFits_1 (by rw [hc12]; decide) (by rw [hc12]; decide) (by rw [hc12]; rfl) (by decide) ?_
      refine lv_iload hx hb dX10_stampFits_54 (lv_at hl 4 rfl) ?_
      refine lv_if_ne (tgt := 74) hx hb dX10_stampFits_56 (by decide) (fun hc13 => ?_) (fun hc13 => ?_)
      · replace hF := br_no hF hc13
        exact J74  _ _ _ _ _ hF (lv_sub hl [0] rfl) hP hS
      · replace hF := br_yes hF hc13
        refine lv_iload_n hx hb dX10_stampFits_59 rfl (lv_at hl 3 rfl) ?_
        refine lv_if_eq (tgt := 70) hx hb dX10_stampFits_60 (by decide) (fun hc14 => ?_) (fun hc14 => ?_)
        · replace hF := br_yes hF hc14
          exact J70  _ _ _ _ _ hF (lv_sub hl [0] rfl) hP hS
        · replace hF := br_no hF hc14
          refine lv_iload_n hx hb dX10_stampFits_63 rfl (lv_at hl 3 rfl) ?_
          replace hF := obnd_of hF
          obtain ⟨r16, h15, hF⟩ := hF
          refine cS_i (As := [.int (p3)]) (rest := []) hx hb hml hT hown hE hP hS (kX1_dayAsTold l g nf (p3) r16 h15) cw_X1_dayAsTold mw55_15 ⟨⟨rfl, rfl⟩, Nat.le_of_ble_eq_true rfl, Nat.le_of_ble_eq_true rfl⟩ rfl hl.1 rfl (Nat.le_of_ble_eq_true rfl) dX10_stampFits_64 ⟨Nat.zero_le _, Nat.zero_le _⟩ (fun H locs hP hS => ?_)
          refine lv_if_eq (tgt := 74) hx hb dX10_stampFits_67 (by decide) (fun hc17 => ?_) (fun hc17 => ?_)
          · replace hF := br_yes hF hc17
            exact J74  _ _ _ _ _ hF (lv_sub hl [0] rfl) hP hS
          · replace hF := br_no hF hc17
            exact J70  _ _ _ _ _ hF (lv_sub hl [0] rfl) hP hS
    · replace hF := br_no hF hc12
      by_cases hc18 : (p2) = (2 : Int32)
      · replace hF := br_yes hF hc18
        refine lv_tableIn (tgt := 76) (off := 75) hx hb dX10_stampFits_1 (by rw [hc18]; decide) (by rw [hc18]; decide) (by rw [hc18]; rfl) (by decide) ?_
        refine lv_iload_n hx hb dX10_stampFits_76 rfl (lv_at hl 3 rfl) ?_
        replace hF := obnd_of hF
        obtain ⟨r20, h19, hF⟩ := hF
        refine cS_i (As := [.int (p3)]) (rest := []) hx hb hml hT hown hE hP hS (kX1_dayAsTold l g nf (p3) r20 h19) cw_X1_dayAsTold mw55_15 ⟨⟨rfl, rfl⟩, Nat.le_of_ble_eq_true rfl, Nat.le_of_ble_eq_true rfl⟩ rfl hl.1 rfl (Nat.le_of_ble_eq_true rfl) dX10_stampFits_77 ⟨Nat.zero_le _, Nat.zero_le _⟩ (fun H locs hP hS => ?_)
        refine lv_if_eq (tgt := 95) hx hb dX10_stampFits_80 (by decide) (fun hc21 => ?_) (fun hc21 => ?_)
        · replace hF := br_yes hF hc21
          exact J95  _ _ _ _ _ hF (lv_sub hl [0] rfl) hP hS
        · replace hF := br_no hF hc21
          refine lv_iload hx hb dX10_stampFits_83 (lv_at hl 4 rfl) ?_
          replace hF := obnd_of hF
          obtain ⟨r23, h22, hF⟩ := hF
          refine cS_i (As := [.int (p4)]) (rest := []) hx hb hml hT hown hE hP hS (kX1_timeAsTold l g nf (p4) r23 h22) cw_X1_timeAsTold mw55_16 ⟨⟨rfl, rfl⟩, Nat.le_of_ble_eq_true rfl, Nat.le_of_ble_eq_true rfl⟩ rfl hl.1 rfl (Nat.le_of_ble_eq_true rfl) dX10_stampFits_85 ⟨Nat.zero_le _, Nat.zero_le _⟩ (fun H locs hP hS => ?_)
          refine lv_if_eq (tgt := 95) hx hb dX10_stampFits_88 (by decide) (fun hc24 => ?_) (fun hc24 => ?_)
          · replace hF := br_yes hF hc24
            exact J95  _ _ _ _ _ hF (lv_sub hl [0] rfl) hP hS
          · replace hF := br_no hF hc24
            refine lv_iconst (v := (1 : Int32)) hx hb dX10_stampFits_91 (by decide) ?_
            refine lv_goto (tgt := 96) hx hb dX10_stampFits_92 (by decide) ?_
            exact J96 (1 : Int32) _ _ _ _ _ hF (lv_sub hl [0] rfl) hP hS
      · replace hF := br_no hF hc18
        by_cases hc25 : (p2) = (3 : Int32)
        · replace hF := br_yes hF hc25
          refine lv_tableIn (tgt := 97) (off := 96) hx hb dX10_stampFits_1 (by rw [hc25]; decide) (by rw [hc25]; decide) (by rw [hc25]; rfl) (by decide) ?_
          refine lv_aload_n hx hb dX10_stampFits_97 rfl (lv_at hl 0 rfl) ?_
          refine cg_X10_disk hx hb hT hown hK hP mw2_3 dX10_stampFits_98 ?_
          refine lv_iload_n hx hb dX10_stampFits_101 rfl (lv_at hl 1 rfl) ?_
          refine lv_bipush (v := (16 : Int32)) hx hb dX10_stampFits_102 (by decide) ?_
          refine lv_iadd hx hb dX10_stampFits_104 ?_
          replace hF := obnd3_of hF
          obtain ⟨r29, fi27, ar28, h26, hF⟩ := hF
          refine cC_i (As := [.int ((p1) + (16 : Int32))]) (rest := []) hx hb hml hT hown hK hE hD hA hP hS (rcv_X3 hK hP) (kX3_two l g ad rd _ nf ln fi ar ((p1) + (16 : Int32)) r29 fi27 ar28 h26) cw_X3_two mw41_9 ⟨⟨rfl, rfl⟩, Nat.le_of_ble_eq_true rfl, Nat.le_of_ble_eq_true rfl⟩ rfl hl.1 rfl (Nat.le_of_ble_eq_true rfl) dX10_stampFits_105 ⟨Nat.zero_le _, Nat.zero_le _⟩ (fun H locs hP hS => ?_)
          refine lv_aload_n hx hb dX10_stampFits_108 rfl (lv_at hl 0 rfl) ?_
          refine cg_X10_disk hx hb hT hown hK hP mw2_3 dX10_stampFits_109 ?_
          refine lv_iload_n hx hb dX10_stampFits_112 rfl (lv_at hl 1 rfl) ?_
          refine lv_bipush (v := (14 : Int32)) hx hb dX10_stampFits_113 (by decide) ?_
          refine lv_iadd hx hb dX10_stampFits_115 ?_
          replace hF := obnd3_of hF
          obtain ⟨r33, fi31, ar32, h30, hF⟩ := hF
          refine cC_i (As := [.int ((p1) + (14 : Int32))]) (rest := [.int (r29)]) hx hb hml hT hown hK hE hD hA hP hS (rcv_X3 hK hP) (kX3_two l g ad rd _ nf ln fi27 ar28 ((p1) + (14 : Int32)) r33 fi31 ar32 h30) cw_X3_two mw41_9 ⟨⟨rfl, rfl⟩, Nat.le_of_ble_eq_true rfl, Nat.le_of_ble_eq_true rfl⟩ rfl hl.1 rfl (Nat.le_of_ble_eq_true rfl) dX10_stampFits_116 ⟨Nat.zero_le _, Nat.zero_le _⟩ (fun H locs hP hS => ?_)
          refine lv_iload hx hb dX10_stampFits_119 (lv_at hl 4 rfl) ?_
          replace hF := obnd_of hF
          obtain ⟨r35, h34, hF⟩ := hF
          refine cS_i (As := [.int (r29), .int (r33), .int (p4)]) (rest := []) hx hb hml hT hown hE hP hS (kX1_madeAsTold l g nf (r29) (r33) (p4) r35 h34) cw_X1_madeAsTold mw55_14 ⟨⟨rfl, rfl⟩, Nat.le_of_ble_eq_true rfl, Nat.le_of_ble_eq_true rfl⟩ rfl hl.1 rfl (Nat.le_of_ble_eq_true rfl) dX10_stampFits_121 ⟨Nat.zero_le _, Nat.zero_le _⟩ (fun H locs hP hS => ?_)
          replace hF := gd_of hF
          obtain ⟨hz36, hF⟩ := hF
          exact rC_z hx hb hr hlocks (nar_z hz36) hF hP hS dX10_stampFits_124
        · replace hF := br_no hF hc25
          by_cases hc37 : (p2) = (4 : Int32)
          · replace hF := br_yes hF hc37
            refine lv_tableIn (tgt := 125) (off := 124) hx hb dX10_stampFits_1 (by rw [hc37]; decide) (by rw [hc37]; decide) (by rw [hc37]; rfl) (by decide) ?_
            refine lv_iload hx hb dX10_stampFits_125 (lv_at hl 4 rfl) ?_
            refine lv_if_eq (tgt := 136) hx hb dX10_stampFits_127 (by decide) (fun hc38 => ?_) (fun hc38 => ?_)
            · replace hF := br_yes hF hc38
              exact J136  _ _ _ _ _ hF (lv_sub hl [0] rfl) hP hS
            · replace hF := br_no hF hc38
              refine lv_iload hx hb dX10_stampFits_130 (lv_at hl 4 rfl) ?_
              refine lv_iconst (v := (1 : Int32)) hx hb dX10_stampFits_132 (by decide) ?_
              refine lv_icmp_ne (tgt := 140) hx hb dX10_stampFits_133 (by decide) (fun hc39 => ?_) (fun hc39 => ?_)
              · replace hF := br_no hF hc39
                refine lv_iconst (v := (0 : Int32)) hx hb dX10_stampFits_140 (by decide) ?_
                exact J141 (0 : Int32) _ _ _ _ _ hF (lv_sub hl [0] rfl) hP hS
              · replace hF := br_yes hF hc39
                exact J136  _ _ _ _ _ hF (lv_sub hl [0] rfl) hP hS
          · replace hF := br_no hF hc37
            refine lv_tableOut (tgt := 142) hx hb dX10_stampFits_1 (tsw_out (n := 4) (by decide) (fun k hk => by
              have hk2 : k = 0 ∨ k = 1 ∨ k = 2 ∨ k = 3 ∨ k = 4 := by omega
              rcases hk2 with rfl | rfl | rfl | rfl | rfl
              · exact hc4
              · exact hc12
              · exact hc18
              · exact hc25
              · exact hc37)) (by decide) ?_
            refine lv_iconst (v := (0 : Int32)) hx hb dX10_stampFits_142 (by decide) ?_
            exact rC_z hx hb hr hlocks rfl hF hP hS dX10_stampFits_143
theorem cw_X10_stampFits : (Cond.instanceMethod yX10_stampFits ∈ TB ∧ Cond.selects RX10 yX10_stampFits yX10_stampFits ∈ TB ∧ Cond.code yX10_stampFits cX10_stampFits 5 (some .boolean) ∈ TB ∧ Cond.initialized RX10 ∈ TB) ∧ (yX10_stampFits.cls = RX10 ∧ yX10_stampFits.cls ≠ "java/lang/invoke/MethodHandle" ∧ yX10_stampFits.cls ≠ "java/lang/invoke/VarHandle" ∧ (parseMethodDescriptor yX10_stampFits.desc).map (fun d => d.parameters.length) = some 4) := ⟨⟨mw55_11, mw55_12, mw55_13, mw1_2⟩, by decide +kernel⟩
