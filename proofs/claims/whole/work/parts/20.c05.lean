/-! X6_isAlike -/
noncomputable def FX6_isAlike_15b (K15 : Int32 → FI → AR → Option (Int32 × FI × AR)) (nf : Nat) (ln : LN) (i0 : Nat) (i1 : Nat) (x2 : Int32) (fi : FI) (ar : AR) : Option (Int32 × FI × AR) :=
  br ((fi (60 + i0)) ≤ (x2)) (some ((1 : Int32), fi, ar)) (obnd3 (FX6_unit nf ln i0 fi ar (x2)) fun r5 fi3 ar4 => obnd (FX5_capital nf (r5)) fun r7 => obnd3 (FX6_unit nf ln i1 fi3 ar4 (x2)) fun r11 fi9 ar10 => obnd (FX5_capital nf (r11)) fun r13 => br ((r7) = (r13)) (bnd ((x2) + (1 : Int32)) fun x2_15 => K15 (x2_15) fi9 ar10) (some ((0 : Int32), fi9, ar10)))
noncomputable def FX6_isAlike_15 (nf : Nat) (ln : LN) (i0 : Nat) (i1 : Nat) (kf : Nat) : Int32 → FI → AR → Option (Int32 × FI × AR) := Nat.rec (fun _ _ _ => none) (fun _ K15 => FX6_isAlike_15b K15 nf ln i0 i1) kf
noncomputable def FX6_isAlike (nf : Nat) (ln : LN) (i0 : Nat) (i1 : Nat) (fi : FI) (ar : AR)  : Option (Int32 × FI × AR) :=
  br ((fi (60 + i0)) = (fi (60 + i1))) (FX6_isAlike_15 nf ln i0 i1 nf (0 : Int32) fi ar) (some ((0 : Int32), fi, ar))
set_option maxHeartbeats 4000000 in
set_option maxRecDepth 100000 in
theorem kX6_isAlike (l : Launch) (g : GT) (ad rd : Nat → Nat) (sz : Nat) (nf : Nat) (ln : LN) (i0 : Nat) (i1 : Nat) (hi0 : i0 < 4) (hi1 : i1 < 4) (fi : FI) (ar : AR)  (r : Int32) (fi' : FI) (ar' : AR) (hF : FX6_isAlike nf ln i0 i1 fi ar  = some (r, fi', ar')) : Met l yX6_isAlike (wx yX6_isAlike cX6_isAlike 3 (some .boolean)) ({ frames := 1, cells := 0, slots := 0, locals := 21 } : Room) (va_Pc [.ref (ad (26 + 2 * i0)), .ref (ad (26 + 2 * i1))] (PC g ad rd ln sz fi ar)) (QCi g ad rd ln sz r fi' ar') 0 0 (AC ad rd sz) := by
  refine Met.ofW (cc := cX6_isAlike) (maxL := 3) (ret := (some .boolean)) (by decide) rfl ?_
  intro p e s m args below meth c s₁ B hml hv
  obtain ⟨rfl, hsz, hP, hK, hD0, hE⟩ := hv
  have hx := B.exec
  have hb := B.bytes
  have hr := B.returns
  have hts := atoms_spec (ws := (wx yX6_isAlike cX6_isAlike 3 (some .boolean))) B.pre
  have hT : ∀ w ∈ TB, w.before _ s = true := fun w h => hts w (List.mem_cons_of_mem _ h)
  have hown : s.vm.findClass RX6 = some m.cls := findClass_of_methodNamed B.named
  have hlocks := B.notSynchronized
  subst hsz
  have hD := dC hD0 s.heap.size
  have hA : ∀ q : Nat, s.heap.size ≤ q → AC ad rd s.heap.size q := fun q h => Or.inr h
  have hS : va_S (AC ad rd s.heap.size) s.heap s.heap [] := va_S.rf
  have hl := lv_entry ([.ref (ad (26 + 2 * i0)), .ref (ad (26 + 2 * i1))]) (n := 3) (Nat.le_of_ble_eq_true rfl)
  rw [lg_entry_eq]
  generalize (lg_sl ([.ref (ad (26 + 2 * i0)), .ref (ad (26 + 2 * i1))]) ++ List.replicate (3 - (lg_sl ([.ref (ad (26 + 2 * i0)), .ref (ad (26 + 2 * i1))])).length) Slot.unset).toArray = ls at hl ⊢
  have hl : lv_has ls 3 [(0, .ref (ad (26 + 2 * i0))), (1, .ref (ad (26 + 2 * i1)))] := hl
  unfold FX6_isAlike at hF
  have L15 : ∀ kf : Nat, ∀ (x2 : Int32) (fi : FI) (ar : AR) (H : Heap) (locs : List Loc) (ls : Array Slot), FX6_isAlike_15 nf ln i0 i1 kf x2 fi ar = some (r, fi', ar') → lv_has ls 3 [(0, .ref (ad (26 + 2 * i0))), (1, .ref (ad (26 + 2 * i1))), (2, .int x2)] → va_P (gD g) vwCl (WC g ad rd ln fi ar) H → va_S (AC ad rd s.heap.size) s.heap H locs → W p l e (headSpec (wx yX6_isAlike cX6_isAlike 3 (some .boolean)) ({ frames := 1, cells := 0, slots := 0, locals := 21 } : Room)).room s m ([.ref (ad (26 + 2 * i0)), .ref (ad (26 + 2 * i1))] : List Value).toArray below meth c H locs 0 0 (MQ below (QCi g ad rd ln s.heap.size r fi' ar') ([.ref (ad (26 + 2 * i0)), .ref (ad (26 + 2 * i1))] : List Value).toArray s 0 0 (AC ad rd s.heap.size)) (F0 m 15 ls []) := by
    intro kf
    induction kf with
    | zero => intro x2 fi ar H locs ls hF hl hP hS; cases (show (none : Option (Int32 × FI × AR)) = _ from hF)
    | succ kf ih15 =>
      intro x2 fi ar H locs ls hF hl hP hS
      obtain ⟨K15, hK15⟩ : ∃ K : Int32 → FI → AR → Option (Int32 × FI × AR), K = FX6_isAlike_15 nf ln i0 i1 kf := ⟨_, rfl⟩
      replace hF : FX6_isAlike_15b K15 nf ln i0 i1 x2 fi ar = some (r, fi', ar') := by rw [hK15]; exact hF
      rw [← hK15] at ih15
      clear hK15
      unfold FX6_isAlike_15b at hF
      refine lv_iload_n hx hb dX6_isAlike_15 rfl (lv_at hl 2 rfl) ?_
      refine lv_aload_n hx hb dX6_isAlike_16 rfl (lv_at hl 0 rfl) ?_
      refine cg_X6_length hi0 hx hb hT hown hK hP mw26_19 dX6_isAlike_17 ?_
      refine lv_icmp_ge (tgt := 50) hx hb dX6_isAlike_20 (by decide) (fun hc1 => ?_) (fun hc1 => ?_)
      · replace hF := br_yes hF hc1
        refine lv_iconst (v := (1 : Int32)) hx hb dX6_isAlike_50 (by decide) ?_
        exact rC_z hx hb hr hlocks rfl hF hP hS dX6_isAlike_51
      · replace hF := br_no hF hc1
        refine lv_aload_n hx hb dX6_isAlike_23 rfl (lv_at hl 0 rfl) ?_
        refine lv_iload_n hx hb dX6_isAlike_24 rfl (lv_at hl 2 rfl) ?_
        replace hF := obnd3_of hF
        obtain ⟨r5, fi3, ar4, h2, hF⟩ := hF
        refine cC_i (As := [.int (x2)]) (rest := []) hx hb hml hT hown hK hE hD hA hP hS (rcv_X6 hi0 hK hP) (kX6_unit l g ad rd _ nf ln i0 hi0 fi ar (x2) r5 fi3 ar4 h2) cw_X6_unit mw29_7 ⟨⟨rfl, rfl⟩, Nat.le_of_ble_eq_true rfl, Nat.le_of_ble_eq_true rfl⟩ rfl hl.1 rfl (Nat.le_of_ble_eq_true rfl) dX6_isAlike_25 ⟨Nat.zero_le _, Nat.zero_le _⟩ (fun H locs hP hS => ?_)
        replace hF := obnd_of hF
        obtain ⟨r7, h6, hF⟩ := hF
        refine cS_i (As := [.int (r5)]) (rest := []) hx hb hml hT hown hE hP hS (kX5_capital l g nf (r5) r7 h6) cw_X5_capital mw28_1 ⟨⟨rfl, rfl⟩, Nat.le_of_ble_eq_true rfl, Nat.le_of_ble_eq_true rfl⟩ rfl hl.1 rfl (Nat.le_of_ble_eq_true rfl) dX6_isAlike_28 ⟨Nat.zero_le _, Nat.zero_le _⟩ (fun H locs hP hS => ?_)
        refine lv_aload_n hx hb dX6_isAlike_31 rfl (lv_at hl 1 rfl) ?_
        refine lv_iload_n hx hb dX6_isAlike_32 rfl (lv_at hl 2 rfl) ?_
        replace hF := obnd3_of hF
        obtain ⟨r11, fi9, ar10, h8, hF⟩ := hF
        refine cC_i (As := [.int (x2)]) (rest := [.int (r7)]) hx hb hml hT hown hK hE hD hA hP hS (rcv_X6 hi1 hK hP) (kX6_unit l g ad rd _ nf ln i1 hi1 fi3 ar4 (x2) r11 fi9 ar10 h8) cw_X6_unit mw29_7 ⟨⟨rfl, rfl⟩, Nat.le_of_ble_eq_true rfl, Nat.le_of_ble_eq_true rfl⟩ rfl hl.1 rfl (Nat.le_of_ble_eq_true rfl) dX6_isAlike_33 ⟨Nat.zero_le _, Nat.zero_le _⟩ (fun H locs hP hS => ?_)
        replace hF := obnd_of hF
        obtain ⟨r13, h12, hF⟩ := hF
        refine cS_i (As := [.int (r11)]) (rest := [.int (r7)]) hx hb hml hT hown hE hP hS (kX5_capital l g nf (r11) r13 h12) cw_X5_capital mw28_1 ⟨⟨rfl, rfl⟩, Nat.le_of_ble_eq_true rfl, Nat.le_of_ble_eq_true rfl⟩ rfl hl.1 rfl (Nat.le_of_ble_eq_true rfl) dX6_isAlike_36 ⟨Nat.zero_le _, Nat.zero_le _⟩ (fun H locs hP hS => ?_)
        refine lv_icmp_eq (tgt := 44) hx hb dX6_isAlike_39 (by decide) (fun hc14 => ?_) (fun hc14 => ?_)
        · replace hF := br_yes hF hc14
          obtain ⟨x2_15, ex2_15⟩ : ∃ y : Int32, y = (x2) + (1 : Int32) := ⟨_, rfl⟩
          replace hF := bnd_of hF ex2_15
          refine lv_iinc (v := x2_15) (lv' := [(2, .int (x2_15)), (0, .ref (ad (26 + 2 * i0))), (1, .ref (ad (26 + 2 * i1)))]) hx hb dX6_isAlike_44 hl (k := 2) rfl (by rw [ex2_15]; rfl) (by decide) rfl (fun ls hl => ?_)
          refine lv_goto (tgt := 15) hx hb dX6_isAlike_47 (by decide) ?_
          exact ih15 (x2_15) _ _ _ _ _ hF (lv_sub hl [1, 2, 0] rfl) hP hS
        · replace hF := br_no hF hc14
          refine lv_iconst (v := (0 : Int32)) hx hb dX6_isAlike_42 (by decide) ?_
          exact rC_z hx hb hr hlocks rfl hF hP hS dX6_isAlike_43
  replace hl := lv_sub hl [0, 1] rfl
  refine lv_aload_n hx hb dX6_isAlike_0 rfl (lv_at hl 0 rfl) ?_
  refine cg_X6_length hi0 hx hb hT hown hK hP mw26_19 dX6_isAlike_1 ?_
  refine lv_aload_n hx hb dX6_isAlike_4 rfl (lv_at hl 1 rfl) ?_
  refine cg_X6_length hi1 hx hb hT hown hK hP mw26_19 dX6_isAlike_5 ?_
  refine lv_icmp_eq (tgt := 13) hx hb dX6_isAlike_8 (by decide) (fun hc16 => ?_) (fun hc16 => ?_)
  · replace hF := br_yes hF hc16
    refine lv_iconst (v := (0 : Int32)) hx hb dX6_isAlike_13 (by decide) ?_
    refine lv_istore_n (lv' := [(2, .int (0 : Int32)), (0, .ref (ad (26 + 2 * i0))), (1, .ref (ad (26 + 2 * i1)))]) hx hb dX6_isAlike_14 rfl hl (by decide) rfl (fun ls hl => ?_)
    exact L15 nf (0 : Int32) _ _ _ _ _ hF (lv_sub hl [1, 2, 0] rfl) hP hS
  · replace hF := br_no hF hc16
    refine lv_iconst (v := (0 : Int32)) hx hb dX6_isAlike_11 (by decide) ?_
    exact rC_z hx hb hr hlocks rfl hF hP hS dX6_isAlike_12
theorem cw_X6_isAlike : (Cond.instanceMethod yX6_isAlike ∈ TB ∧ Cond.selects RX6 yX6_isAlike yX6_isAlike ∈ TB ∧ Cond.code yX6_isAlike cX6_isAlike 3 (some .boolean) ∈ TB ∧ Cond.initialized RX6 ∈ TB) ∧ (yX6_isAlike.cls = RX6 ∧ yX6_isAlike.cls ≠ "java/lang/invoke/MethodHandle" ∧ yX6_isAlike.cls ≠ "java/lang/invoke/VarHandle" ∧ (parseMethodDescriptor yX6_isAlike.desc).map (fun d => d.parameters.length) = some 1) := ⟨⟨mw29_4, mw29_5, mw29_6, mw2_23⟩, by decide +kernel⟩
/-! X0_isTwin -/
noncomputable def FX0_isTwin_94 (K2 : Int32 → Int32 → Int32 → FI → AR → Option (Int32 × FI × AR)) (nf : Nat) (ln : LN) (x1 : Int32) (x2 : Int32) (x3 : Int32) (fi : FI) (ar : AR) : Option (Int32 × FI × AR) :=
  bnd ((x3) + (1 : Int32)) fun x3_1 => K2 (x1) (x2) (x3_1) fi ar
noncomputable def FX0_isTwin_2b (K2 : Int32 → Int32 → Int32 → FI → AR → Option (Int32 × FI × AR)) (nf : Nat) (ln : LN) (x1 : Int32) (x2 : Int32) (x3 : Int32) (fi : FI) (ar : AR) : Option (Int32 × FI × AR) :=
  br ((fi (20 + 10 * 2)) ≤ (x3)) (some ((0 : Int32), fi, ar)) (obnd3 (FX2_slotOf nf ln 2 fi ar (x3)) fun r6 fi4 ar5 => obnd3 (FX2_slotAddress nf ln 2 fi4 ar5 (r6)) fun r10 fi8 ar9 => obnd3 (FX3_sameShortName nf ln fi8 ar9 (x1) (r10)) fun r14 fi12 ar13 => br ((r14) = 0) (obnd3 (FX2_hashOf nf ln 2 fi12 ar13 (x3)) fun r19 fi17 ar18 => br ((r19) = (x2)) (obnd3 (FX2_partsOf nf ln 2 fi17 ar18 (x3)) fun r24 fi22 ar23 => obnd3 (FX6_read nf ln 3 2 fi22 ar23 (r6) (r24)) fun r28 fi26 ar27 => obnd3 (FX6_isAlike nf ln 2 3 fi26 ar27) fun r32 fi30 ar31 => br ((r32) = 0) (FX0_isTwin_94 K2 nf ln  (x1) (x2) (x3) fi30 ar31) (some ((1 : Int32), fi30, ar31))) (FX0_isTwin_94 K2 nf ln  (x1) (x2) (x3) fi17 ar18)) (some ((1 : Int32), fi12, ar13)))
noncomputable def FX0_isTwin_2 (nf : Nat) (ln : LN) (kf : Nat) : Int32 → Int32 → Int32 → FI → AR → Option (Int32 × FI × AR) := Nat.rec (fun _ _ _ _ _ => none) (fun _ K2 => FX0_isTwin_2b K2 nf ln) kf
noncomputable def FX0_isTwin (nf : Nat) (ln : LN) (fi : FI) (ar : AR) (x1 : Int32) (x2 : Int32) : Option (Int32 × FI × AR) :=
  FX0_isTwin_2 nf ln nf (x1) (x2) (0 : Int32) fi ar
set_option maxHeartbeats 4000000 in
set_option maxRecDepth 100000 in
theorem kX0_isTwin (l : Launch) (g : GT) (ad rd : Nat → Nat) (sz : Nat) (nf : Nat) (ln : LN) (fi : FI) (ar : AR) (p1 : Int32) (p2 : Int32) (r : Int32) (fi' : FI) (ar' : AR) (hF : FX0_isTwin nf ln fi ar p1 p2 = some (r, fi', ar')) : Met l yX0_isTwin (wx yX0_isTwin cX0_isTwin 5 (some .boolean)) ({ frames := 2, cells := 0, slots := 0, locals := 51 } : Room) (va_Pc [.ref (ad (7)), .int p1, .int p2] (PC g ad rd ln sz fi ar)) (QCi g ad rd ln sz r fi' ar') 0 0 (AC ad rd sz) := by
  refine Met.ofW (cc := cX0_isTwin) (maxL := 5) (ret := (some .boolean)) (by decide) rfl ?_
  intro p e s m args below meth c s₁ B hml hv
  obtain ⟨rfl, hsz, hP, hK, hD0, hE⟩ := hv
  have hx := B.exec
  have hb := B.bytes
  have hr := B.returns
  have hts := atoms_spec (ws := (wx yX0_isTwin cX0_isTwin 5 (some .boolean))) B.pre
  have hT : ∀ w ∈ TB, w.before _ s = true := fun w h => hts w (List.mem_cons_of_mem _ h)
  have hown : s.vm.findClass RX0 = some m.cls := findClass_of_methodNamed B.named
  have hlocks := B.notSynchronized
  subst hsz
  have hD := dC hD0 s.heap.size
  have hA : ∀ q : Nat, s.heap.size ≤ q → AC ad rd s.heap.size q := fun q h => Or.inr h
  have hS : va_S (AC ad rd s.heap.size) s.heap s.heap [] := va_S.rf
  have hl := lv_entry ([.ref (ad (7)), .int p1, .int p2]) (n := 5) (Nat.le_of_ble_eq_true rfl)
  rw [lg_entry_eq]
  generalize (lg_sl ([.ref (ad (7)), .int p1, .int p2]) ++ List.replicate (5 - (lg_sl ([.ref (ad (7)), .int p1, .int p2])).length) Slot.unset).toArray = ls at hl ⊢
  have hl : lv_has ls 5 [(0, .ref (ad (7))), (1, .int p1), (2, .int p2)] := hl
  unfold FX0_isTwin at hF
  have L2 : ∀ kf : Nat, ∀ (x1 : Int32) (x2 : Int32) (x3 : Int32) (fi : FI) (ar : AR) (H : Heap) (locs : List Loc) (ls : Array Slot), FX0_isTwin_2 nf ln kf x1 x2 x3 fi ar = some (r, fi', ar') → lv_has ls 5 [(0, .ref (ad (7))), (1, .int x1), (2, .int x2), (3, .int x3)] → va_P (gD g) vwCl (WC g ad rd ln fi ar) H → va_S (AC ad rd s.heap.size) s.heap H locs → W p l e (headSpec (wx yX0_isTwin cX0_isTwin 5 (some .boolean)) ({ frames := 2, cells := 0, slots := 0, locals := 51 } : Room)).room s m ([.ref (ad (7)), .int p1, .int p2] : List Value).toArray below meth c H locs 0 0 (MQ below (QCi g ad rd ln s.heap.size r fi' ar') ([.ref (ad (7)), .int p1, .int p2] : List Value).toArray s 0 0 (AC ad rd s.heap.size)) (F0 m 2 ls []) := by
    intro kf
    induction kf with
    | zero => intro x1 x2 x3 fi ar H locs ls hF hl hP hS; cases (show (none : Option (Int32 × FI × AR)) = _ from hF)
    | succ kf ih2 =>
      intro x1 x2 x3 fi ar H locs ls hF hl hP hS
      obtain ⟨K2, hK2⟩ : ∃ K : Int32 → Int32 → Int32 → FI → AR → Option (Int32 × FI × AR), K = FX0_isTwin_2 nf ln kf := ⟨_, rfl⟩
      replace hF : FX0_isTwin_2b K2 nf ln x1 x2 x3 fi ar = some (r, fi', ar') := by rw [hK2]; exact hF
      rw [← hK2] at ih2
      clear hK2
      have J94 : ∀ (x1 : Int32) (x2 : Int32) (x3 : Int32) (fi : FI) (ar : AR) (H : Heap) (locs : List Loc) (ls : Array Slot), FX0_isTwin_94 K2 nf ln x1 x2 x3 fi ar = some (r, fi', ar') → lv_has ls 5 [(0, .ref (ad (7))), (1, .int x1), (2, .int x2), (3, .int x3)] → va_P (gD g) vwCl (WC g ad rd ln fi ar) H → va_S (AC ad rd s.heap.size) s.heap H locs → W p l e (headSpec (wx yX0_isTwin cX0_isTwin 5 (some .boolean)) ({ frames := 2, cells := 0, slots := 0, locals := 51 } : Room)).room s m ([.ref (ad (7)), .int p1, .int p2] : List Value).toArray below meth c H locs 0 0 (MQ below (QCi g ad rd ln s.heap.size r fi' ar') ([.ref (ad (7)), .int p1, .int p2] : List Value).toArray s 0 0 (AC ad rd s.heap.size)) (F0 m 94 ls []) := by
        intro x1 x2 x3 fi ar H locs ls hF hl hP hS
        unfold FX0_isTwin_94 at hF
        obtain ⟨x3_1, ex3_1⟩ : ∃ y : Int32, y = (x3) + (1 : Int32) := ⟨_, rfl⟩
        replace hF := bnd_of hF ex3_1
        refine lv_iinc (v := x3_1) (lv' := [(3, .int (x3_1)), (0, .ref (ad (7))), (1, .int (x1)), (2, .int (x2))]) hx hb dX0_isTwin_94 hl (k := 3) rfl (by rw [ex3_1]; rfl) (by decide) rfl (fun ls hl => ?_)
        refine lv_goto (tgt := 2) hx hb dX0_isTwin_97 (by decide) ?_
        exact ih2 (x1) (x2) (x3_1) _ _ _ _ _ hF (lv_sub hl [1, 2, 3, 0] rfl) hP hS
      unfold FX0_isTwin_2b at hF
      refine lv_iload_n hx hb dX0_isTwin_2 rfl (lv_at hl 3 rfl) ?_
      refine lv_aload_n hx hb dX0_isTwin_3 rfl (lv_at hl 0 rfl) ?_
      refine cg_X0_directory hx hb hT hown hK hP mw4_16 dX0_isTwin_4 ?_
      refine cg_X2_count (by decide) hx hb hT hown hK hP mw28_8 dX0_isTwin_7 ?_
      refine lv_icmp_ge (tgt := 100) hx hb dX0_isTwin_10 (by decide) (fun hc2 => ?_) (fun hc2 => ?_)
      · replace hF := br_yes hF hc2
        refine lv_iconst (v := (0 : Int32)) hx hb dX0_isTwin_100 (by decide) ?_
        exact rC_z hx hb hr hlocks rfl hF hP hS dX0_isTwin_101
      · replace hF := br_no hF hc2
        refine lv_aload_n hx hb dX0_isTwin_13 rfl (lv_at hl 0 rfl) ?_
        refine cg_X0_directory hx hb hT hown hK hP mw4_16 dX0_isTwin_14 ?_
        refine lv_iload_n hx hb dX0_isTwin_17 rfl (lv_at hl 3 rfl) ?_
        replace hF := obnd3_of hF
        obtain ⟨r6, fi4, ar5, h3, hF⟩ := hF
        refine cC_i (As := [.int (x3)]) (rest := []) hx hb hml hT hown hK hE hD hA hP hS (rcv_X2 (by decide) hK hP) (kX2_slotOf l g ad rd _ nf ln 2 (by decide) fi ar (x3) r6 fi4 ar5 h3) cw_X2_slotOf mw28_9 ⟨⟨rfl, rfl⟩, Nat.le_of_ble_eq_true rfl, Nat.le_of_ble_eq_true rfl⟩ rfl hl.1 rfl (Nat.le_of_ble_eq_true rfl) dX0_isTwin_18 ⟨Nat.zero_le _, Nat.zero_le _⟩ (fun H locs hP hS => ?_)
        refine lv_istore (lv' := [(4, .int (r6)), (0, .ref (ad (7))), (1, .int (x1)), (2, .int (x2)), (3, .int (x3))]) hx hb dX0_isTwin_21 hl (by decide) rfl (fun ls hl => ?_)
        refine lv_aload_n hx hb dX0_isTwin_23 rfl (lv_at hl 1 rfl) ?_
        refine cg_X0_disk hx hb hT hown hK hP mw4_14 dX0_isTwin_24 ?_
        refine lv_iload_n hx hb dX0_isTwin_27 rfl (lv_at hl 2 rfl) ?_
        refine lv_aload_n hx hb dX0_isTwin_28 rfl (lv_at hl 1 rfl) ?_
        refine cg_X0_directory hx hb hT hown hK hP mw4_16 dX0_isTwin_29 ?_
        refine lv_iload hx hb dX0_isTwin_32 (lv_at hl 0 rfl) ?_
        replace hF := obnd3_of hF
        obtain ⟨r10, fi8, ar9, h7, hF⟩ := hF
        refine cC_i (As := [.int (r6)]) (rest := [.int (x1), .ref (ad (1))]) hx hb hml hT hown hK hE hD hA hP hS (rcv_X2 (by decide) hK hP) (kX2_slotAddress l g ad rd _ nf ln 2 (by decide) fi4 ar5 (r6) r10 fi8 ar9 h7) cw_X2_slotAddress mw24_9 ⟨⟨rfl, rfl⟩, Nat.le_of_ble_eq_true rfl, Nat.le_of_ble_eq_true rfl⟩ rfl hl.1 rfl (Nat.le_of_ble_eq_true rfl) dX0_isTwin_34 ⟨Nat.zero_le _, Nat.zero_le _⟩ (fun H locs hP hS => ?_)
        replace hF := obnd3_of hF
        obtain ⟨r14, fi12, ar13, h11, hF⟩ := hF
        refine cC_i (As := [.int (x1), .int (r10)]) (rest := []) hx hb hml hT hown hK hE hD hA hP hS (rcv_X3 hK hP) (kX3_sameShortName l g ad rd _ nf ln fi8 ar9 (x1) (r10) r14 fi12 ar13 h11) cw_X3_sameShortName mw28_13 ⟨⟨rfl, rfl⟩, Nat.le_of_ble_eq_true rfl, Nat.le_of_ble_eq_true rfl⟩ rfl hl.1 rfl (Nat.le_of_ble_eq_true rfl) dX0_isTwin_37 ⟨Nat.zero_le _, Nat.zero_le _⟩ (fun H locs hP hS => ?_)
        refine lv_if_eq (tgt := 45) hx hb dX0_isTwin_40 (by decide) (fun hc15 => ?_) (fun hc15 => ?_)
        · replace hF := br_yes hF hc15
          refine lv_aload_n hx hb dX0_isTwin_45 rfl (lv_at hl 1 rfl) ?_
          refine cg_X0_directory hx hb hT hown hK hP mw4_16 dX0_isTwin_46 ?_
          refine lv_iload_n hx hb dX0_isTwin_49 rfl (lv_at hl 4 rfl) ?_
          replace hF := obnd3_of hF
          obtain ⟨r19, fi17, ar18, h16, hF⟩ := hF
          refine cC_i (As := [.int (x3)]) (rest := []) hx hb hml hT hown hK hE hD hA hP hS (rcv_X2 (by decide) hK hP) (kX2_hashOf l g ad rd _ nf ln 2 (by decide) fi12 ar13 (x3) r19 fi17 ar18 h16) cw_X2_hashOf mw28_19 ⟨⟨rfl, rfl⟩, Nat.le_of_ble_eq_true rfl, Nat.le_of_ble_eq_true rfl⟩ rfl hl.1 rfl (Nat.le_of_ble_eq_true rfl) dX0_isTwin_50 ⟨Nat.zero_le _, Nat.zero_le _⟩ (fun H locs hP hS => ?_)
          refine lv_iload_n hx hb dX0_isTwin_53 rfl (lv_at hl 3 rfl) ?_
          refine lv_icmp_ne (tgt := 94) hx hb dX0_isTwin_54 (by decide) (fun hc20 => ?_) (fun hc20 => ?_)
          · replace hF := br_no hF hc20
            exact J94 (x1) (x2) (x3) _ _ _ _ _ hF (lv_sub hl [1, 2, 3, 4] rfl) hP hS
          · replace hF := br_yes hF hc20
            refine lv_aload_n hx hb dX0_isTwin_57 rfl (lv_at hl 1 rfl) ?_
            refine cg_X0_earlierName hx hb hT hown hK hP mw4_9 dX0_isTwin_58 ?_
            refine lv_aload_n hx hb dX0_isTwin_61 rfl (lv_at hl 1 rfl) ?_
            refine cg_X0_directory hx hb hT hown hK hP mw4_16 dX0_isTwin_62 ?_
            refine lv_iload hx hb dX0_isTwin_65 (lv_at hl 0 rfl) ?_
            refine lv_aload_n hx hb dX0_isTwin_67 rfl (lv_at hl 1 rfl) ?_
            refine cg_X0_directory hx hb hT hown hK hP mw4_16 dX0_isTwin_68 ?_
            refine lv_iload_n hx hb dX0_isTwin_71 rfl (lv_at hl 4 rfl) ?_
            replace hF := obnd3_of hF
            obtain ⟨r24, fi22, ar23, h21, hF⟩ := hF
            refine cC_i (As := [.int (x3)]) (rest := [.int (r6), .ref (ad (11 + 5 * 2)), .ref (ad (26 + 2 * 3))]) hx hb hml hT hown hK hE hD hA hP hS (rcv_X2 (by decide) hK hP) (kX2_partsOf l g ad rd _ nf ln 2 (by decide) fi17 ar18 (x3) r24 fi22 ar23 h21) cw_X2_partsOf mw28_23 ⟨⟨rfl, rfl⟩, Nat.le_of_ble_eq_true rfl, Nat.le_of_ble_eq_true rfl⟩ rfl hl.1 rfl (Nat.le_of_ble_eq_true rfl) dX0_isTwin_72 ⟨Nat.zero_le _, Nat.zero_le _⟩ (fun H locs hP hS => ?_)
            replace hF := obnd3_of hF
            obtain ⟨r28, fi26, ar27, h25, hF⟩ := hF
            refine cC_v (As := [.ref (ad (11 + 5 * 2)), .int (r6), .int (r24)]) (rest := []) hx hb hml hT hown hK hE hD hA hP hS (rcv_X6 (by decide) hK hP) (kX6_read l g ad rd _ nf ln 3 2 (by decide) (by decide) fi22 ar23 (r6) (r24) r28 fi26 ar27 h25) cw_X6_read mw26_15 ⟨⟨rfl, rfl⟩, Nat.le_of_ble_eq_true rfl, Nat.le_of_ble_eq_true rfl⟩ rfl hl.1 rfl (Nat.le_of_ble_eq_true rfl) dX0_isTwin_75 ⟨Nat.zero_le _, Nat.zero_le _⟩ (fun H locs hP hS => ?_)
            refine lv_aload_n hx hb dX0_isTwin_78 rfl (lv_at hl 1 rfl) ?_
            refine cg_X0_name hx hb hT hown hK hP mw4_8 dX0_isTwin_79 ?_
            refine lv_aload_n hx hb dX0_isTwin_82 rfl (lv_at hl 1 rfl) ?_
            refine cg_X0_earlierName hx hb hT hown hK hP mw4_9 dX0_isTwin_83 ?_
            replace hF := obnd3_of hF
            obtain ⟨r32, fi30, ar31, h29, hF⟩ := hF
            refine cC_i (As := [.ref (ad (26 + 2 * 3))]) (rest := []) hx hb hml hT hown hK hE hD hA hP hS (rcv_X6 (by decide) hK hP) (kX6_isAlike l g ad rd _ nf ln 2 3 (by decide) (by decide) fi26 ar27 r32 fi30 ar31 h29) cw_X6_isAlike mw29_3 ⟨⟨rfl, rfl⟩, Nat.le_of_ble_eq_true rfl, Nat.le_of_ble_eq_true rfl⟩ rfl hl.1 rfl (Nat.le_of_ble_eq_true rfl) dX0_isTwin_86 ⟨Nat.zero_le _, Nat.zero_le _⟩ (fun H locs hP hS => ?_)
            refine lv_if_eq (tgt := 94) hx hb dX0_isTwin_89 (by decide) (fun hc33 => ?_) (fun hc33 => ?_)
            · replace hF := br_yes hF hc33
              exact J94 (x1) (x2) (x3) _ _ _ _ _ hF (lv_sub hl [1, 2, 3, 4] rfl) hP hS
            · replace hF := br_no hF hc33
              refine lv_iconst (v := (1 : Int32)) hx hb dX0_isTwin_92 (by decide) ?_
              exact rC_z hx hb hr hlocks rfl hF hP hS dX0_isTwin_93
        · replace hF := br_no hF hc15
          refine lv_iconst (v := (1 : Int32)) hx hb dX0_isTwin_43 (by decide) ?_
          exact rC_z hx hb hr hlocks rfl hF hP hS dX0_isTwin_44
  replace hl := lv_sub hl [0, 1, 2] rfl
  refine lv_iconst (v := (0 : Int32)) hx hb dX0_isTwin_0 (by decide) ?_
  refine lv_istore_n (lv' := [(3, .int (0 : Int32)), (0, .ref (ad (7))), (1, .int (p1)), (2, .int (p2))]) hx hb dX0_isTwin_1 rfl hl (by decide) rfl (fun ls hl => ?_)
  exact L2 nf (p1) (p2) (0 : Int32) _ _ _ _ _ hF (lv_sub hl [1, 2, 3, 0] rfl) hP hS
theorem cw_X0_isTwin : (Cond.instanceMethod yX0_isTwin ∈ TB ∧ Cond.selects RX0 yX0_isTwin yX0_isTwin ∈ TB ∧ Cond.code yX0_isTwin cX0_isTwin 5 (some .boolean) ∈ TB ∧ Cond.initialized RX0 ∈ TB) ∧ (yX0_isTwin.cls = RX0 ∧ yX0_isTwin.cls ≠ "java/lang/invoke/MethodHandle" ∧ yX0_isTwin.cls ≠ "java/lang/invoke/VarHandle" ∧ (parseMethodDescriptor yX0_isTwin.desc).map (fun d => d.parameters.length) = some 2) := ⟨⟨mw28_5, mw28_6, mw28_7, mw2_14⟩, by decide +kernel⟩
/-! X9_byteShift -/
noncomputable def FX9_byteShift (nf : Nat) (ln : LN) (fi : FI) (ar : AR)  : Option (Int32 × FI × AR) :=
  some (((fi (6)) + (9 : Int32)), fi, ar)
set_option maxHeartbeats 4000000 in
set_option maxRecDepth 100000 in
theorem kX9_byteShift (l : Launch) (g : GT) (ad rd : Nat → Nat) (sz : Nat) (nf : Nat) (ln : LN) (fi : FI) (ar : AR)  (r : Int32) (fi' : FI) (ar' : AR) (hF : FX9_byteShift nf ln fi ar  = some (r, fi', ar')) : Met l yX9_byteShift (wx yX9_byteShift cX9_byteShift 1 (some .int)) ({ frames := 0, cells := 0, slots := 0, locals := 0 } : Room) (va_Pc [.ref (ad (6))] (PC g ad rd ln sz fi ar)) (QCi g ad rd ln sz r fi' ar') 0 0 (AC ad rd sz) := by
  refine Met.ofW (cc := cX9_byteShift) (maxL := 1) (ret := (some .int)) (by decide) rfl ?_
  intro p e s m args below meth c s₁ B hml hv
  obtain ⟨rfl, hsz, hP, hK, hD0, hE⟩ := hv
  have hx := B.exec
  have hb := B.bytes
  have hr := B.returns
  have hts := atoms_spec (ws := (wx yX9_byteShift cX9_byteShift 1 (some .int))) B.pre
  have hT : ∀ w ∈ TB, w.before _ s = true := fun w h => hts w (List.mem_cons_of_mem _ h)
  have hown : s.vm.findClass RX9 = some m.cls := findClass_of_methodNamed B.named
  have hlocks := B.notSynchronized
  subst hsz
  have hD := dC hD0 s.heap.size
  have hA : ∀ q : Nat, s.heap.size ≤ q → AC ad rd s.heap.size q := fun q h => Or.inr h
  have hS : va_S (AC ad rd s.heap.size) s.heap s.heap [] := va_S.rf
  have hl := lv_entry ([.ref (ad (6))]) (n := 1) (Nat.le_of_ble_eq_true rfl)
  rw [lg_entry_eq]
  generalize (lg_sl ([.ref (ad (6))]) ++ List.replicate (1 - (lg_sl ([.ref (ad (6))])).length) Slot.unset).toArray = ls at hl ⊢
  have hl : lv_has ls 1 [(0, .ref (ad (6)))] := hl
  unfold FX9_byteShift at hF
  replace hl := lv_sub hl [0] rfl
  refine lv_aload_n hx hb dX9_byteShift_0 rfl (lv_at hl 0 rfl) ?_
  refine cg_X9_shift hx hb hT hown hK hP mw4_1 dX9_byteShift_1 ?_
  refine lv_bipush (v := (9 : Int32)) hx hb dX9_byteShift_4 (by decide) ?_
  refine lv_iadd hx hb dX9_byteShift_6 ?_
  exact rC_i hx hb hr hlocks hF hP hS dX9_byteShift_7
theorem cw_X9_byteShift : (Cond.instanceMethod yX9_byteShift ∈ TB ∧ Cond.selects RX9 yX9_byteShift yX9_byteShift ∈ TB ∧ Cond.code yX9_byteShift cX9_byteShift 1 (some .int) ∈ TB ∧ Cond.initialized RX9 ∈ TB) ∧ (yX9_byteShift.cls = RX9 ∧ yX9_byteShift.cls ≠ "java/lang/invoke/MethodHandle" ∧ yX9_byteShift.cls ≠ "java/lang/invoke/VarHandle" ∧ (parseMethodDescriptor yX9_byteShift.desc).map (fun d => d.parameters.length) = some 0) := ⟨⟨mw30_14, mw30_15, mw30_16, mw2_10⟩, by decide +kernel⟩
/-! X9_byteMask -/
noncomputable def FX9_byteMask (nf : Nat) (ln : LN) (fi : FI) (ar : AR)  : Option (Int32 × FI × AR) :=
  some ((((512 : Int32) <<< ((fi (6)) &&& 31)) - (1 : Int32)), fi, ar)
set_option maxHeartbeats 4000000 in
set_option maxRecDepth 100000 in
theorem kX9_byteMask (l : Launch) (g : GT) (ad rd : Nat → Nat) (sz : Nat) (nf : Nat) (ln : LN) (fi : FI) (ar : AR)  (r : Int32) (fi' : FI) (ar' : AR) (hF : FX9_byteMask nf ln fi ar  = some (r, fi', ar')) : Met l yX9_byteMask (wx yX9_byteMask cX9_byteMask 1 (some .int)) ({ frames := 0, cells := 0, slots := 0, locals := 0 } : Room) (va_Pc [.ref (ad (6))] (PC g ad rd ln sz fi ar)) (QCi g ad rd ln sz r fi' ar') 0 0 (AC ad rd sz) := by
  refine Met.ofW (cc := cX9_byteMask) (maxL := 1) (ret := (some .int)) (by decide) rfl ?_
  intro p e s m args below meth c s₁ B hml hv
  obtain ⟨rfl, hsz, hP, hK, hD0, hE⟩ := hv
  have hx := B.exec
  have hb := B.bytes
  have hr := B.returns
  have hts := atoms_spec (ws := (wx yX9_byteMask cX9_byteMask 1 (some .int))) B.pre
  have hT : ∀ w ∈ TB, w.before _ s = true := fun w h => hts w (List.mem_cons_of_mem _ h)
  have hown : s.vm.findClass RX9 = some m.cls := findClass_of_methodNamed B.named
  have hlocks := B.notSynchronized
  subst hsz
  have hD := dC hD0 s.heap.size
  have hA : ∀ q : Nat, s.heap.size ≤ q → AC ad rd s.heap.size q := fun q h => Or.inr h
  have hS : va_S (AC ad rd s.heap.size) s.heap s.heap [] := va_S.rf
  have hl := lv_entry ([.ref (ad (6))]) (n := 1) (Nat.le_of_ble_eq_true rfl)
  rw [lg_entry_eq]
  generalize (lg_sl ([.ref (ad (6))]) ++ List.replicate (1 - (lg_sl ([.ref (ad (6))])).length) Slot.unset).toArray = ls at hl ⊢
  have hl : lv_has ls 1 [(0, .ref (ad (6)))] := hl
  unfold FX9_byteMask at hF
  replace hl := lv_sub hl [0] rfl
  refine lv_sipush (v := (512 : Int32)) hx hb dX9_byteMask_0 (by decide) ?_
  refine lv_aload_n hx hb dX9_byteMask_3 rfl (lv_at hl 0 rfl) ?_
  refine cg_X9_shift hx hb hT hown hK hP mw4_1 dX9_byteMask_4 ?_
  refine lv_ishl hx hb dX9_byteMask_7 ?_
  refine lv_iconst (v := (1 : Int32)) hx hb dX9_byteMask_8 (by decide) ?_
  refine lv_isub hx hb dX9_byteMask_9 ?_
  exact rC_i hx hb hr hlocks hF hP hS dX9_byteMask_10
theorem cw_X9_byteMask : (Cond.instanceMethod yX9_byteMask ∈ TB ∧ Cond.selects RX9 yX9_byteMask yX9_byteMask ∈ TB ∧ Cond.code yX9_byteMask cX9_byteMask 1 (some .int) ∈ TB ∧ Cond.initialized RX9 ∈ TB) ∧ (yX9_byteMask.cls = RX9 ∧ yX9_byteMask.cls ≠ "java/lang/invoke/MethodHandle" ∧ yX9_byteMask.cls ≠ "java/lang/invoke/VarHandle" ∧ (parseMethodDescriptor yX9_byteMask.desc).map (fun d => d.parameters.length) = some 0) := ⟨⟨mw30_18, mw30_19, mw30_20, mw2_10⟩, by decide +kernel⟩
/-! X9_clustersFor -/
noncomputable def FX9_clustersFor_20 (nf : Nat) (ln : LN) (t0 : Int32) (t1 : Int32) (fi : FI) (ar : AR) : Option (Int32 × FI × AR) :=
  some (((t0) + (t1)), fi, ar)
noncomputable def FX9_clustersFor (nf : Nat) (ln : LN) (fi : FI) (ar : AR) (x1 : Int32) : Option (Int32 × FI × AR) :=
  obnd3 (FX9_byteShift nf ln fi ar) fun r4 fi2 ar3 => obnd3 (FX9_byteMask nf ln fi2 ar3) fun r8 fi6 ar7 => br (((x1) &&& (r8)) = 0) (FX9_clustersFor_20 nf ln  ((x1) >>> ((r4) &&& 31)) (0 : Int32) fi6 ar7) (FX9_clustersFor_20 nf ln  ((x1) >>> ((r4) &&& 31)) (1 : Int32) fi6 ar7)
set_option maxHeartbeats 4000000 in
set_option maxRecDepth 100000 in
theorem kX9_clustersFor (l : Launch) (g : GT) (ad rd : Nat → Nat) (sz : Nat) (nf : Nat) (ln : LN) (fi : FI) (ar : AR) (p1 : Int32) (r : Int32) (fi' : FI) (ar' : AR) (hF : FX9_clustersFor nf ln fi ar p1 = some (r, fi', ar')) : Met l yX9_clustersFor (wx yX9_clustersFor cX9_clustersFor 2 (some .int)) ({ frames := 1, cells := 0, slots := 0, locals := 20 } : Room) (va_Pc [.ref (ad (6)), .int p1] (PC g ad rd ln sz fi ar)) (QCi g ad rd ln sz r fi' ar') 0 0 (AC ad rd sz) := by
  refine Met.ofW (cc := cX9_clustersFor) (maxL := 2) (ret := (some .int)) (by decide) rfl ?_
  intro p e s m args below meth c s₁ B hml hv
  obtain ⟨rfl, hsz, hP, hK, hD0, hE⟩ := hv
  have hx := B.exec
  have hb := B.bytes
  have hr := B.returns
  have hts := atoms_spec (ws := (wx yX9_clustersFor cX9_clustersFor 2 (some .int))) B.pre
  have hT : ∀ w ∈ TB, w.before _ s = true := fun w h => hts w (List.mem_cons_of_mem _ h)
  have hown : s.vm.findClass RX9 = some m.cls := findClass_of_methodNamed B.named
  have hlocks := B.notSynchronized
  subst hsz
  have hD := dC hD0 s.heap.size
  have hA : ∀ q : Nat, s.heap.size ≤ q → AC ad rd s.heap.size q := fun q h => Or.inr h
  have hS : va_S (AC ad rd s.heap.size) s.heap s.heap [] := va_S.rf
  have hl := lv_entry ([.ref (ad (6)), .int p1]) (n := 2) (Nat.le_of_ble_eq_true rfl)
  rw [lg_entry_eq]
  generalize (lg_sl ([.ref (ad (6)), .int p1]) ++ List.replicate (2 - (lg_sl ([.ref (ad (6)), .int p1])).length) Slot.unset).toArray = ls at hl ⊢
  have hl : lv_has ls 2 [(0, .ref (ad (6))), (1, .int p1)] := hl
  unfold FX9_clustersFor at hF
  have J20 : ∀ (t0 : Int32) (t1 : Int32) (fi : FI) (ar : AR) (H : Heap) (locs : List Loc) (ls : Array Slot), FX9_clustersFor_20 nf ln t0 t1 fi ar = some (r, fi', ar') → lv_has ls 2 [(0, .ref (ad (6)))] → va_P (gD g) vwCl (WC g ad rd ln fi ar) H → va_S (AC ad rd s.heap.size) s.heap H locs → W p l e (headSpec (wx yX9_clustersFor cX9_clustersFor 2 (some .int)) ({ frames := 1, cells := 0, slots := 0, locals := 20 } : Room)).room s m ([.ref (ad (6)), .int p1] : List Value).toArray below meth c H locs 0 0 (MQ below (QCi g ad rd ln s.heap.size r fi' ar') ([.ref (ad (6)), .int p1] : List Value).toArray s 0 0 (AC ad rd s.heap.size)) (F0 m 20 ls [.int t1, .int t0]) := by
    intro t0 t1 fi ar H locs ls hF hl hP hS
    unfold FX9_clustersFor_20 at hF
    refine lv_iadd hx hb dX9_clustersFor_20 ?_
    exact rC_i hx hb hr hlocks hF hP hS dX9_clustersFor_21
  replace hl := lv_sub hl [0, 1] rfl
  refine lv_iload_n hx hb dX9_clustersFor_0 rfl (lv_at hl 1 rfl) ?_
  refine lv_aload_n hx hb dX9_clustersFor_1 rfl (lv_at hl 0 rfl) ?_
  replace hF := obnd3_of hF
  obtain ⟨r4, fi2, ar3, h1, hF⟩ := hF
  refine cC_i (As := []) (rest := [.int (p1)]) hx hb hml hT hown hK hE hD hA hP hS (rcv_X9 hK hP) (kX9_byteShift l g ad rd _ nf ln fi ar r4 fi2 ar3 h1) cw_X9_byteShift mw30_13 ⟨⟨rfl, rfl⟩, Nat.le_of_ble_eq_true rfl, Nat.le_of_ble_eq_true rfl⟩ rfl hl.1 rfl (Nat.le_of_ble_eq_true rfl) dX9_clustersFor_2 ⟨Nat.zero_le _, Nat.zero_le _⟩ (fun H locs hP hS => ?_)
  refine lv_ishr hx hb dX9_clustersFor_5 ?_
  refine lv_iload_n hx hb dX9_clustersFor_6 rfl (lv_at hl 1 rfl) ?_
  refine lv_aload_n hx hb dX9_clustersFor_7 rfl (lv_at hl 0 rfl) ?_
  replace hF := obnd3_of hF
  obtain ⟨r8, fi6, ar7, h5, hF⟩ := hF
  refine cC_i (As := []) (rest := [.int (p1), .int ((p1) >>> ((r4) &&& 31))]) hx hb hml hT hown hK hE hD hA hP hS (rcv_X9 hK hP) (kX9_byteMask l g ad rd _ nf ln fi2 ar3 r8 fi6 ar7 h5) cw_X9_byteMask mw30_17 ⟨⟨rfl, rfl⟩, Nat.le_of_ble_eq_true rfl, Nat.le_of_ble_eq_true rfl⟩ rfl hl.1 rfl (Nat.le_of_ble_eq_true rfl) dX9_clustersFor_8 ⟨Nat.zero_le _, Nat.zero_le _⟩ (fun H locs hP hS => ?_)
  refine lv_iand hx hb dX9_clustersFor_11 ?_
  refine lv_if_ne (tgt := 19) hx hb dX9_clustersFor_12 (by decide) (fun hc9 => ?_) (fun hc9 => ?_)
  · replace hF := br_no hF hc9
    refine lv_iconst (v := (1 : Int32)) hx hb dX9_clustersFor_19 (by decide) ?_
    exact J20 ((p1) >>> ((r4) &&& 31)) (1 : Int32) _ _ _ _ _ hF (lv_sub hl [0] rfl) hP hS
  · replace hF := br_yes hF hc9
    refine lv_iconst (v := (0 : Int32)) hx hb dX9_clustersFor_15 (by decide) ?_
    refine lv_goto (tgt := 20) hx hb dX9_clustersFor_16 (by decide) ?_
    exact J20 ((p1) >>> ((r4) &&& 31)) (0 : Int32) _ _ _ _ _ hF (lv_sub hl [0] rfl) hP hS
theorem cw_X9_clustersFor : (Cond.instanceMethod yX9_clustersFor ∈ TB ∧ Cond.selects RX9 yX9_clustersFor yX9_clustersFor ∈ TB ∧ Cond.code yX9_clustersFor cX9_clustersFor 2 (some .int) ∈ TB ∧ Cond.initialized RX9 ∈ TB) ∧ (yX9_clustersFor.cls = RX9 ∧ yX9_clustersFor.cls ≠ "java/lang/invoke/MethodHandle" ∧ yX9_clustersFor.cls ≠ "java/lang/invoke/VarHandle" ∧ (parseMethodDescriptor yX9_clustersFor.desc).map (fun d => d.parameters.length) = some 1) := ⟨⟨mw30_10, mw30_11, mw30_12, mw2_10⟩, by decide +kernel⟩
/-! X0_fileChainAsTold -/
noncomputable def FX0_fileChainAsTold_60 (nf : Nat) (ln : LN) (t0 : Int32) (fi : FI) (ar : AR) : Option (Int32 × FI × AR) :=
  gd ((t0) &&& 1 = (t0)) (some ((t0), fi, ar))
noncomputable def FX0_fileChainAsTold_59 (nf : Nat) (ln : LN)  (fi : FI) (ar : AR) : Option (Int32 × FI × AR) :=
  FX0_fileChainAsTold_60 nf ln  (0 : Int32) fi ar
noncomputable def FX0_fileChainAsTold_34 (nf : Nat) (ln : LN) (t0 : Int32) (fi : FI) (ar : AR) : Option (Int32 × FI × AR) :=
  gd ((t0) &&& 1 = (t0)) (some ((t0), fi, ar))
noncomputable def FX0_fileChainAsTold (nf : Nat) (ln : LN) (fi : FI) (ar : AR) (x1 : Int32) : Option (Int32 × FI × AR) :=
  obnd3 (FX3_four nf ln fi ar ((x1) + (28 : Int32))) fun r6 fi4 ar5 => obnd3 (FX3_firstCluster nf ln fi4 ar5 (x1)) fun r10 fi8 ar9 => br ((r6) = 0) (br ((r10) = 0) (FX0_fileChainAsTold_34 nf ln  (1 : Int32) fi8 ar9) (FX0_fileChainAsTold_34 nf ln  (0 : Int32) fi8 ar9)) (br ((r6) ≤ 0) (FX0_fileChainAsTold_59 nf ln  fi8 ar9) (obnd3 (FX0_claimChain nf ln fi8 ar9 (r10)) fun r16 fi14 ar15 => obnd3 (FX9_clustersFor nf ln fi14 ar15 (r6)) fun r20 fi18 ar19 => br ((r16) = (r20)) (FX0_fileChainAsTold_60 nf ln  (1 : Int32) fi18 ar19) (FX0_fileChainAsTold_59 nf ln  fi18 ar19)))
set_option maxHeartbeats 4000000 in
set_option maxRecDepth 100000 in
theorem kX0_fileChainAsTold (l : Launch) (g : GT) (ad rd : Nat → Nat) (sz : Nat) (nf : Nat) (ln : LN) (fi : FI) (ar : AR) (p1 : Int32) (r : Int32) (fi' : FI) (ar' : AR) (hF : FX0_fileChainAsTold nf ln fi ar p1 = some (r, fi', ar')) : Met l yX0_fileChainAsTold (wx yX0_fileChainAsTold cX0_fileChainAsTold 4 (some .boolean)) ({ frames := 3, cells := 0, slots := 0, locals := 67 } : Room) (va_Pc [.ref (ad (7)), .int p1] (PC g ad rd ln sz fi ar)) (QCi g ad rd ln sz r fi' ar') 0 0 (AC ad rd sz) := by
  refine Met.ofW (cc := cX0_fileChainAsTold) (maxL := 4) (ret := (some .boolean)) (by decide) rfl ?_
  intro p e s m args below meth c s₁ B hml hv
  obtain ⟨rfl, hsz, hP, hK, hD0, hE⟩ := hv
  have hx := B.exec
  have hb := B.bytes
  have hr := B.returns
  have hts := atoms_spec (ws := (wx yX0_fileChainAsTold cX0_fileChainAsTold 4 (some .boolean))) B.pre
  have hT : ∀ w ∈ TB, w.before _ s = true := fun w h => hts w (List.mem_cons_of_mem _ h)
  have hown : s.vm.findClass RX0 = some m.cls := findClass_of_methodNamed B.named
  have hlocks := B.notSynchronized
  subst hsz
  have hD := dC hD0 s.heap.size
  have hA : ∀ q : Nat, s.heap.size ≤ q → AC ad rd s.heap.size q := fun q h => Or.inr h
  have hS : va_S (AC ad rd s.heap.size) s.heap s.heap [] := va_S.rf
  have hl := lv_entry ([.ref (ad (7)), .int p1]) (n := 4) (Nat.le_of_ble_eq_true rfl)
  rw [lg_entry_eq]
  generalize (lg_sl ([.ref (ad (7)), .int p1]) ++ List.replicate (4 - (lg_sl ([.ref (ad (7)), .int p1])).length) Slot.unset).toArray = ls at hl ⊢
  have hl : lv_has ls 4 [(0, .ref (ad (7))), (1, .int p1)] := hl
  unfold FX0_fileChainAsTold at hF
  have J60 : ∀ (t0 : Int32) (fi : FI) (ar : AR) (H : Heap) (locs : List Loc) (ls : Array Slot), FX0_fileChainAsTold_60 nf ln t0 fi ar = some (r, fi', ar') → lv_has ls 4 [(0, .ref (ad (7)))] → va_P (gD g) vwCl (WC g ad rd ln fi ar) H → va_S (AC ad rd s.heap.size) s.heap H locs → W p l e (headSpec (wx yX0_fileChainAsTold cX0_fileChainAsTold 4 (some .boolean)) ({ frames := 3, cells := 0, slots := 0, locals := 67 } : Room)).room s m ([.ref (ad (7)), .int p1] : List Value).toArray below meth c H locs 0 0 (MQ below (QCi g ad rd ln s.heap.size r fi' ar') ([.ref (ad (7)), .int p1] : List Value).toArray s 0 0 (AC ad rd s.heap.size)) (F0 m 60 ls [.int t0]) := by
    intro t0 fi ar H locs ls hF hl hP hS
    unfold FX0_fileChainAsTold_60 at hF
    replace hF := gd_of hF
    obtain ⟨hz1, hF⟩ := hF
    exact rC_z hx hb hr hlocks (nar_z hz1) hF hP hS dX0_fileChainAsTold_60
  have J59 : ∀  (fi : FI) (ar : AR) (H : Heap) (locs : List Loc) (ls : Array Slot), FX0_fileChainAsTold_59 nf ln fi ar = some (r, fi', ar') → lv_has ls 4 [(0, .ref (ad (7)))] → va_P (gD g) vwCl (WC g ad rd ln fi ar) H → va_S (AC ad rd s.heap.size) s.heap H locs → W p l e (headSpec (wx yX0_fileChainAsTold cX0_fileChainAsTold 4 (some .boolean)) ({ frames := 3, cells := 0, slots := 0, locals := 67 } : Room)).room s m ([.ref (ad (7)), .int p1] : List Value).toArray below meth c H locs 0 0 (MQ below (QCi g ad rd ln s.heap.size r fi' ar') ([.ref (ad (7)), .int p1] : List Value).toArray s 0 0 (AC ad rd s.heap.size)) (F0 m 59 ls []) := by
    intro fi ar H locs ls hF hl hP hS
    unfold FX0_fileChainAsTold_59 at hF
    refine lv_iconst (v := (0 : Int32)) hx hb dX0_fileChainAsTold_59 (by decide) ?_
    exact J60 (0 : Int32) _ _ _ _ _ hF (lv_sub hl [0] rfl) hP hS
  have J34 : ∀ (t0 : Int32) (fi : FI) (ar : AR) (H : Heap) (locs : List Loc) (ls : Array Slot), FX0_fileChainAsTold_34 nf ln t0 fi ar = some (r, fi', ar') → lv_has ls 4 [(0, .ref (ad (7)))] → va_P (gD g) vwCl (WC g ad rd ln fi ar) H → va_S (AC ad rd s.heap.size) s.heap H locs → W p l e (headSpec (wx yX0_fileChainAsTold cX0_fileChainAsTold 4 (some .boolean)) ({ frames := 3, cells := 0, slots := 0, locals := 67 } : Room)).room s m ([.ref (ad (7)), .int p1] : List Value).toArray below meth c H locs 0 0 (MQ below (QCi g ad rd ln s.heap.size r fi' ar') ([.ref (ad (7)), .int p1] : List Value).toArray s 0 0 (AC ad rd s.heap.size)) (F0 m 34 ls [.int t0]) := by
    intro t0 fi ar H locs ls hF hl hP hS
    unfold FX0_fileChainAsTold_34 at hF
    replace hF := gd_of hF
    obtain ⟨hz2, hF⟩ := hF
    exact rC_z hx hb hr hlocks (nar_z hz2) hF hP hS dX0_fileChainAsTold_34
  replace hl := lv_sub hl [0, 1] rfl
  refine lv_aload_n hx hb dX0_fileChainAsTold_0 rfl (lv_at hl 0 rfl) ?_
  refine cg_X0_disk hx hb hT hown hK hP mw4_14 dX0_fileChainAsTold_1 ?_
  refine lv_iload_n hx hb dX0_fileChainAsTold_4 rfl (lv_at hl 1 rfl) ?_
  refine lv_bipush (v := (28 : Int32)) hx hb dX0_fileChainAsTold_5 (by decide) ?_
  refine lv_iadd hx hb dX0_fileChainAsTold_7 ?_
  replace hF := obnd3_of hF
  obtain ⟨r6, fi4, ar5, h3, hF⟩ := hF
  refine cC_i (As := [.int ((p1) + (28 : Int32))]) (rest := []) hx hb hml hT hown hK hE hD hA hP hS (rcv_X3 hK hP) (kX3_four l g ad rd _ nf ln fi ar ((p1) + (28 : Int32)) r6 fi4 ar5 h3) cw_X3_four mw26_6 ⟨⟨rfl, rfl⟩, Nat.le_of_ble_eq_true rfl, Nat.le_of_ble_eq_true rfl⟩ rfl hl.1 rfl (Nat.le_of_ble_eq_true rfl) dX0_fileChainAsTold_8 ⟨Nat.zero_le _, Nat.zero_le _⟩ (fun H locs hP hS => ?_)
  refine lv_istore_n (lv' := [(2, .int (r6)), (0, .ref (ad (7))), (1, .int (p1))]) hx hb dX0_fileChainAsTold_11 rfl hl (by decide) rfl (fun ls hl => ?_)
  refine lv_aload_n hx hb dX0_fileChainAsTold_12 rfl (lv_at hl 1 rfl) ?_
  refine cg_X0_disk hx hb hT hown hK hP mw4_14 dX0_fileChainAsTold_13 ?_
  refine lv_iload_n hx hb dX0_fileChainAsTold_16 rfl (lv_at hl 2 rfl) ?_
  replace hF := obnd3_of hF
  obtain ⟨r10, fi8, ar9, h7, hF⟩ := hF
  refine cC_i (As := [.int (p1)]) (rest := []) hx hb hml hT hown hK hE hD hA hP hS (rcv_X3 hK hP) (kX3_firstCluster l g ad rd _ nf ln fi4 ar5 (p1) r10 fi8 ar9 h7) cw_X3_firstCluster mw24_14 ⟨⟨rfl, rfl⟩, Nat.le_of_ble_eq_true rfl, Nat.le_of_ble_eq_true rfl⟩ rfl hl.1 rfl (Nat.le_of_ble_eq_true rfl) dX0_fileChainAsTold_17 ⟨Nat.zero_le _, Nat.zero_le _⟩ (fun H locs hP hS => ?_)
  refine lv_istore_n (lv' := [(3, .int (r10)), (2, .int (r6)), (0, .ref (ad (7))), (1, .int (p1))]) hx hb dX0_fileChainAsTold_20 rfl hl (by decide) rfl (fun ls hl => ?_)
  refine lv_iload_n hx hb dX0_fileChainAsTold_21 rfl (lv_at hl 1 rfl) ?_
  refine lv_if_ne (tgt := 35) hx hb dX0_fileChainAsTold_22 (by decide) (fun hc11 => ?_) (fun hc11 => ?_)
  · replace hF := br_no hF hc11
    refine lv_iload_n hx hb dX0_fileChainAsTold_35 rfl (lv_at hl 1 rfl) ?_
    refine lv_if_le (tgt := 59) hx hb dX0_fileChainAsTold_36 (by decide) (fun hc12 => ?_) (fun hc12 => ?_)
    · replace hF := br_yes hF hc12
      exact J59  _ _ _ _ _ hF (lv_sub hl [2] rfl) hP hS
    · replace hF := br_no hF hc12
      refine lv_aload_n hx hb dX0_fileChainAsTold_39 rfl (lv_at hl 2 rfl) ?_
      refine lv_iload_n hx hb dX0_fileChainAsTold_40 rfl (lv_at hl 0 rfl) ?_
      replace hF := obnd3_of hF
      obtain ⟨r16, fi14, ar15, h13, hF⟩ := hF
      refine cC_i (As := [.int (r10)]) (rest := []) hx hb hml hT hown hK hE hD hA hP hS (rcv_X0 hK hP) (kX0_claimChain l g ad rd _ nf ln fi8 ar9 (r10) r16 fi14 ar15 h13) cw_X0_claimChain mw23_4 ⟨⟨rfl, rfl⟩, Nat.le_of_ble_eq_true rfl, Nat.le_of_ble_eq_true rfl⟩ rfl hl.1 rfl (Nat.le_of_ble_eq_true rfl) dX0_fileChainAsTold_41 ⟨Nat.zero_le _, Nat.zero_le _⟩ (fun H locs hP hS => ?_)
      refine lv_aload_n hx hb dX0_fileChainAsTold_44 rfl (lv_at hl 2 rfl) ?_
      refine cg_X0_volume hx hb hT hown hK hP mw4_12 dX0_fileChainAsTold_45 ?_
      refine lv_iload_n hx hb dX0_fileChainAsTold_48 rfl (lv_at hl 1 rfl) ?_
      replace hF := obnd3_of hF
      obtain ⟨r20, fi18, ar19, h17, hF⟩ := hF
      refine cC_i (As := [.int (r6)]) (rest := [.int (r16)]) hx hb hml hT hown hK hE hD hA hP hS (rcv_X9 hK hP) (kX9_clustersFor l g ad rd _ nf ln fi14 ar15 (r6) r20 fi18 ar19 h17) cw_X9_clustersFor mw30_9 ⟨⟨rfl, rfl⟩, Nat.le_of_ble_eq_true rfl, Nat.le_of_ble_eq_true rfl⟩ rfl hl.1 rfl (Nat.le_of_ble_eq_true rfl) dX0_fileChainAsTold_49 ⟨Nat.zero_le _, Nat.zero_le _⟩ (fun H locs hP hS => ?_)
      refine lv_icmp_ne (tgt := 59) hx hb dX0_fileChainAsTold_52 (by decide) (fun hc21 => ?_) (fun hc21 => ?_)
      · replace hF := br_no hF hc21
        exact J59  _ _ _ _ _ hF (lv_sub hl [2] rfl) hP hS
      · replace hF := br_yes hF hc21
        refine lv_iconst (v := (1 : Int32)) hx hb dX0_fileChainAsTold_55 (by decide) ?_
        refine lv_goto (tgt := 60) hx hb dX0_fileChainAsTold_56 (by decide) ?_
        exact J60 (1 : Int32) _ _ _ _ _ hF (lv_sub hl [2] rfl) hP hS
  · replace hF := br_yes hF hc11
    refine lv_iload_n hx hb dX0_fileChainAsTold_25 rfl (lv_at hl 0 rfl) ?_
    refine lv_if_ne (tgt := 33) hx hb dX0_fileChainAsTold_26 (by decide) (fun hc22 => ?_) (fun hc22 => ?_)
    · replace hF := br_no hF hc22
      refine lv_iconst (v := (0 : Int32)) hx hb dX0_fileChainAsTold_33 (by decide) ?_
      exact J34 (0 : Int32) _ _ _ _ _ hF (lv_sub hl [2] rfl) hP hS
    · replace hF := br_yes hF hc22
      refine lv_iconst (v := (1 : Int32)) hx hb dX0_fileChainAsTold_29 (by decide) ?_
      refine lv_goto (tgt := 34) hx hb dX0_fileChainAsTold_30 (by decide) ?_
      exact J34 (1 : Int32) _ _ _ _ _ hF (lv_sub hl [2] rfl) hP hS
theorem cw_X0_fileChainAsTold : (Cond.instanceMethod yX0_fileChainAsTold ∈ TB ∧ Cond.selects RX0 yX0_fileChainAsTold yX0_fileChainAsTold ∈ TB ∧ Cond.code yX0_fileChainAsTold cX0_fileChainAsTold 4 (some .boolean) ∈ TB ∧ Cond.initialized RX0 ∈ TB) ∧ (yX0_fileChainAsTold.cls = RX0 ∧ yX0_fileChainAsTold.cls ≠ "java/lang/invoke/MethodHandle" ∧ yX0_fileChainAsTold.cls ≠ "java/lang/invoke/VarHandle" ∧ (parseMethodDescriptor yX0_fileChainAsTold.desc).map (fun d => d.parameters.length) = some 1) := ⟨⟨mw30_6, mw30_7, mw30_8, mw2_14⟩, by decide +kernel⟩
/-! X0_hasLostCluster -/
noncomputable def FX0_hasLostCluster_37 (K2 : Int32 → FI → AR → Option (Int32 × FI × AR)) (nf : Nat) (ln : LN) (x1 : Int32) (fi : FI) (ar : AR) : Option (Int32 × FI × AR) :=
  bnd ((x1) + (1 : Int32)) fun x1_1 => K2 (x1_1) fi ar
noncomputable def FX0_hasLostCluster_2b (K2 : Int32 → FI → AR → Option (Int32 × FI × AR)) (nf : Nat) (ln : LN) (x1 : Int32) (fi : FI) (ar : AR) : Option (Int32 × FI × AR) :=
  br (((fi (5)) + (1 : Int32)) < (x1)) (some ((0 : Int32), fi, ar)) (obnd3 (FX9_next nf ln fi ar (x1)) fun r6 fi4 ar5 => br ((r6) = 0) (FX0_hasLostCluster_37 K2 nf ln  (x1) fi4 ar5) (gd (¬ ((x1) < 0 ∨ ln (3) ≤ (x1).toNatClampNeg)) (br ((ar5 (3) (x1).toNatClampNeg) = 0) (some ((1 : Int32), fi4, ar5)) (FX0_hasLostCluster_37 K2 nf ln  (x1) fi4 ar5))))
noncomputable def FX0_hasLostCluster_2 (nf : Nat) (ln : LN) (kf : Nat) : Int32 → FI → AR → Option (Int32 × FI × AR) := Nat.rec (fun _ _ _ => none) (fun _ K2 => FX0_hasLostCluster_2b K2 nf ln) kf
noncomputable def FX0_hasLostCluster (nf : Nat) (ln : LN) (fi : FI) (ar : AR)  : Option (Int32 × FI × AR) :=
  FX0_hasLostCluster_2 nf ln nf (2 : Int32) fi ar
set_option maxHeartbeats 4000000 in
set_option maxRecDepth 100000 in
theorem kX0_hasLostCluster (l : Launch) (g : GT) (ad rd : Nat → Nat) (sz : Nat) (nf : Nat) (ln : LN) (fi : FI) (ar : AR)  (r : Int32) (fi' : FI) (ar' : AR) (hF : FX0_hasLostCluster nf ln fi ar  = some (r, fi', ar')) : Met l yX0_hasLostCluster (wx yX0_hasLostCluster cX0_hasLostCluster 2 (some .boolean)) ({ frames := 2, cells := 0, slots := 0, locals := 43 } : Room) (va_Pc [.ref (ad (7))] (PC g ad rd ln sz fi ar)) (QCi g ad rd ln sz r fi' ar') 0 0 (AC ad rd sz) := by
  refine Met.ofW (cc := cX0_hasLostCluster) (maxL := 2) (ret := (some .boolean)) (by decide) rfl ?_
  intro p e s m args below meth c s₁ B hml hv
  obtain ⟨rfl, hsz, hP, hK, hD0, hE⟩ := hv
  have hx := B.exec
  have hb := B.bytes
  have hr := B.returns
  have hts := atoms_spec (ws := (wx yX0_hasLostCluster cX0_hasLostCluster 2 (some .boolean))) B.pre
  have hT : ∀ w ∈ TB, w.before _ s = true := fun w h => hts w (List.mem_cons_of_mem _ h)
  have hown : s.vm.findClass RX0 = some m.cls := findClass_of_methodNamed B.named
  have hlocks := B.notSynchronized
  subst hsz
  have hD := dC hD0 s.heap.size
  have hA : ∀ q : Nat, s.heap.size ≤ q → AC ad rd s.heap.size q := fun q h => Or.inr h
  have hS : va_S (AC ad rd s.heap.size) s.heap s.heap [] := va_S.rf
  have hl := lv_entry ([.ref (ad (7))]) (n := 2) (Nat.le_of_ble_eq_true rfl)
  rw [lg_entry_eq]
  generalize (lg_sl ([.ref (ad (7))]) ++ List.replicate (2 - (lg_sl ([.ref (ad (7))])).length) Slot.unset).toArray = ls at hl ⊢
  have hl : lv_has ls 2 [(0, .ref (ad (7)))] := hl
  unfold FX0_hasLostCluster at hF
  have L2 : ∀ kf : Nat, ∀ (x1 : Int32) (fi : FI) (ar : AR) (H : Heap) (locs : List Loc) (ls : Array Slot), FX0_hasLostCluster_2 nf ln kf x1 fi ar = some (r, fi', ar') → lv_has ls 2 [(0, .ref (ad (7))), (1, .int x1)] → va_P (gD g) vwCl (WC g ad rd ln fi ar) H → va_S (AC ad rd s.heap.size) s.heap H locs → W p l e (headSpec (wx yX0_hasLostCluster cX0_hasLostCluster 2 (some .boolean)) ({ frames := 2, cells := 0, slots := 0, locals := 43 } : Room)).room s m ([.ref (ad (7))] : List Value).toArray below meth c H locs 0 0 (MQ below (QCi g ad rd ln s.heap.size r fi' ar') ([.ref (ad (7))] : List Value).toArray s 0 0 (AC ad rd s.heap.size)) (F0 m 2 ls []) := by
    intro kf
    induction kf with
    | zero => intro x1 fi ar H locs ls hF hl hP hS; cases (show (none : Option (Int32 × FI × AR)) = _ from hF)
    | succ kf ih2 =>
      intro x1 fi ar H locs ls hF hl hP hS
      obtain ⟨K2, hK2⟩ : ∃ K : Int32 → FI → AR → Option (Int32 × FI × AR), K = FX0_hasLostCluster_2 nf ln kf := ⟨_, rfl⟩
      replace hF : FX0_hasLostCluster_2b K2 nf ln x1 fi ar = some (r, fi', ar') := by rw [hK2]; exact hF
      rw [← hK2] at ih2
      clear hK2
      have J37 : ∀ (x1 : Int32) (fi : FI) (ar : AR) (H : Heap) (locs : List Loc) (ls : Array Slot), FX0_hasLostCluster_37 K2 nf ln x1 fi ar = some (r, fi', ar') → lv_has ls 2 [(0, .ref (ad (7))), (1, .int x1)] → va_P (gD g) vwCl (WC g ad rd ln fi ar) H → va_S (AC ad rd s.heap.size) s.heap H locs → W p l e (headSpec (wx yX0_hasLostCluster cX0_hasLostCluster 2 (some .boolean)) ({ frames := 2, cells := 0, slots := 0, locals := 43 } : Room)).room s m ([.ref (ad (7))] : List Value).toArray below meth c H locs 0 0 (MQ below (QCi g ad rd ln s.heap.size r fi' ar') ([.ref (ad (7))] : List Value).toArray s 0 0 (AC ad rd s.heap.size)) (F0 m 37 ls []) := by
        intro x1 fi ar H locs ls hF hl hP hS
        unfold FX0_hasLostCluster_37 at hF
        obtain ⟨x1_1, ex1_1⟩ : ∃ y : Int32, y = (x1) + (1 : Int32) := ⟨_, rfl⟩
        replace hF := bnd_of hF ex1_1
        refine lv_iinc (v := x1_1) (lv' := [(1, .int (x1_1)), (0, .ref (ad (7)))]) hx hb dX0_hasLostCluster_37 hl (k := 1) rfl (by rw [ex1_1]; rfl) (by decide) rfl (fun ls hl => ?_)
        refine lv_goto (tgt := 2) hx hb dX0_hasLostCluster_40 (by decide) ?_
        exact ih2 (x1_1) _ _ _ _ _ hF (lv_sub hl [1, 0] rfl) hP hS
      unfold FX0_hasLostCluster_2b at hF
      refine lv_iload_n hx hb dX0_hasLostCluster_2 rfl (lv_at hl 1 rfl) ?_
      refine lv_aload_n hx hb dX0_hasLostCluster_3 rfl (lv_at hl 0 rfl) ?_
      refine cg_X0_volume hx hb hT hown hK hP mw4_12 dX0_hasLostCluster_4 ?_
      refine cg_X9_clusters hx hb hT hown hK hP mw23_8 dX0_hasLostCluster_7 ?_
      refine lv_iconst (v := (1 : Int32)) hx hb dX0_hasLostCluster_10 (by decide) ?_
      refine lv_iadd hx hb dX0_hasLostCluster_11 ?_
      refine lv_icmp_gt (tgt := 43) hx hb dX0_hasLostCluster_12 (by decide) (fun hc2 => ?_) (fun hc2 => ?_)
      · replace hF := br_yes hF hc2
        refine lv_iconst (v := (0 : Int32)) hx hb dX0_hasLostCluster_43 (by decide) ?_
        exact rC_z hx hb hr hlocks rfl hF hP hS dX0_hasLostCluster_44
      · replace hF := br_no hF hc2
        refine lv_aload_n hx hb dX0_hasLostCluster_15 rfl (lv_at hl 0 rfl) ?_
        refine cg_X0_volume hx hb hT hown hK hP mw4_12 dX0_hasLostCluster_16 ?_
        refine lv_iload_n hx hb dX0_hasLostCluster_19 rfl (lv_at hl 1 rfl) ?_
        replace hF := obnd3_of hF
        obtain ⟨r6, fi4, ar5, h3, hF⟩ := hF
        refine cC_i (As := [.int (x1)]) (rest := []) hx hb hml hT hown hK hE hD hA hP hS (rcv_X9 hK hP) (kX9_next l g ad rd _ nf ln fi ar (x1) r6 fi4 ar5 h3) cw_X9_next mw23_11 ⟨⟨rfl, rfl⟩, Nat.le_of_ble_eq_true rfl, Nat.le_of_ble_eq_true rfl⟩ rfl hl.1 rfl (Nat.le_of_ble_eq_true rfl) dX0_hasLostCluster_20 ⟨Nat.zero_le _, Nat.zero_le _⟩ (fun H locs hP hS => ?_)
        refine lv_if_eq (tgt := 37) hx hb dX0_hasLostCluster_23 (by decide) (fun hc7 => ?_) (fun hc7 => ?_)
        · replace hF := br_yes hF hc7
          exact J37 (x1) _ _ _ _ _ hF (lv_sub hl [0, 1] rfl) hP hS
        · replace hF := br_no hF hc7
          refine lv_aload_n hx hb dX0_hasLostCluster_26 rfl (lv_at hl 0 rfl) ?_
          refine cg_X0_claimed hx hb hT hown hK hP mw4_19 dX0_hasLostCluster_27 ?_
          refine lv_iload_n hx hb dX0_hasLostCluster_30 rfl (lv_at hl 1 rfl) ?_
          replace hF := gd_of hF
          obtain ⟨hi8, hF⟩ := hF
          refine cl_claimed hx hb hK hP hi8 dX0_hasLostCluster_31 ?_
          refine lv_if_ne (tgt := 37) hx hb dX0_hasLostCluster_32 (by decide) (fun hc9 => ?_) (fun hc9 => ?_)
          · replace hF := br_no hF hc9
            exact J37 (x1) _ _ _ _ _ hF (lv_sub hl [0, 1] rfl) hP hS
          · replace hF := br_yes hF hc9
            refine lv_iconst (v := (1 : Int32)) hx hb dX0_hasLostCluster_35 (by decide) ?_
            exact rC_z hx hb hr hlocks rfl hF hP hS dX0_hasLostCluster_36
  replace hl := lv_sub hl [0] rfl
  refine lv_iconst (v := (2 : Int32)) hx hb dX0_hasLostCluster_0 (by decide) ?_
  refine lv_istore_n (lv' := [(1, .int (2 : Int32)), (0, .ref (ad (7)))]) hx hb dX0_hasLostCluster_1 rfl hl (by decide) rfl (fun ls hl => ?_)
  exact L2 nf (2 : Int32) _ _ _ _ _ hF (lv_sub hl [1, 0] rfl) hP hS
theorem cw_X0_hasLostCluster : (Cond.instanceMethod yX0_hasLostCluster ∈ TB ∧ Cond.selects RX0 yX0_hasLostCluster yX0_hasLostCluster ∈ TB ∧ Cond.code yX0_hasLostCluster cX0_hasLostCluster 2 (some .boolean) ∈ TB ∧ Cond.initialized RX0 ∈ TB) ∧ (yX0_hasLostCluster.cls = RX0 ∧ yX0_hasLostCluster.cls ≠ "java/lang/invoke/MethodHandle" ∧ yX0_hasLostCluster.cls ≠ "java/lang/invoke/VarHandle" ∧ (parseMethodDescriptor yX0_hasLostCluster.desc).map (fun d => d.parameters.length) = some 0) := ⟨⟨mw30_22, mw30_23, mw31_0, mw2_14⟩, by decide +kernel⟩
/-! X1_seconds -/
noncomputable def FX1_seconds_49b (K49 : Int32 → Int32 → Int32 → Int32 → Int32 → Option Int64) (nf : Nat) (x0 : Int32) (x1 : Int32) (x2 : Int32) (x3 : Int32) (x4 : Int32) : Option Int64 :=
  br ((((x0) >>> ((5 : Int32) &&& 31)) &&& (15 : Int32)) ≤ (x4)) (some ((((((x3).toInt64) * (86400 : Int64)) + ((((x1) >>> ((11 : Int32) &&& 31)) * (3600 : Int32)).toInt64)) + (((((x1) >>> ((5 : Int32) &&& 31)) &&& (63 : Int32)) * (60 : Int32)).toInt64)) + ((((x1) &&& (31 : Int32)) * (2 : Int32)).toInt64))) (obnd (FX1_daysOfMonth nf (x2) (x4)) fun r3 => bnd ((x3) + (r3)) fun x3_4 => bnd ((x4) + (1 : Int32)) fun x4_5 => K49 (x0) (x1) (x2) (x3_4) (x4_5))
noncomputable def FX1_seconds_49 (nf : Nat) (kf : Nat) : Int32 → Int32 → Int32 → Int32 → Int32 → Option Int64 := Nat.rec (fun _ _ _ _ _ => none) (fun _ K49 => FX1_seconds_49b K49 nf) kf
noncomputable def FX1_seconds_21b (K21 : Int32 → Int32 → Int32 → Int32 → Int32 → Option Int64) (nf : Nat) (x0 : Int32) (x1 : Int32) (x2 : Int32) (x3 : Int32) (x4 : Int32) : Option Int64 :=
  br ((x2) ≤ (x4)) (FX1_seconds_49 nf nf (x0) (x1) (x2) (x3) (1 : Int32)) (obnd (FX1_daysOfMonth nf (x4) (2 : Int32)) fun r8 => bnd ((x3) + ((337 : Int32) + (r8))) fun x3_9 => bnd ((x4) + (1 : Int32)) fun x4_10 => K21 (x0) (x1) (x2) (x3_9) (x4_10))
noncomputable def FX1_seconds_21 (nf : Nat) (kf : Nat) : Int32 → Int32 → Int32 → Int32 → Int32 → Option Int64 := Nat.rec (fun _ _ _ _ _ => none) (fun _ K21 => FX1_seconds_21b K21 nf) kf
noncomputable def FX1_seconds (nf : Nat) (x0 : Int32) (x1 : Int32) : Option Int64 :=
  bnd ((1980 : Int32) + ((x0) >>> ((9 : Int32) &&& 31))) fun x2_11 => bnd (((x0) &&& (31 : Int32)) - (1 : Int32)) fun x3_12 => FX1_seconds_21 nf nf (x0) (x1) (x2_11) (x3_12) (1970 : Int32)
set_option maxHeartbeats 4000000 in
set_option maxRecDepth 100000 in
theorem kX1_seconds (l : Launch) (g : GT) (nf : Nat) (p0 : Int32) (p1 : Int32) (r : Int64) (hF : FX1_seconds nf p0 p1 = some r) : Met l yX1_seconds (wx yX1_seconds cX1_seconds 5 (some .long)) ({ frames := 1, cells := 0, slots := 0, locals := 22 } : Room) (va_Pc [.int p0, .int p1] (PS g)) (QSl r) 0 0 noA := by
  refine Met.ofW (cc := cX1_seconds) (maxL := 5) (ret := (some .long)) (by decide) rfl ?_
  intro p e s m args below meth c s₁ B hml hv
  obtain ⟨rfl, hE⟩ := hv
  have hx := B.exec
  have hb := B.bytes
  have hr := B.returns
  have hts := atoms_spec (ws := (wx yX1_seconds cX1_seconds 5 (some .long))) B.pre
  have hT : ∀ w ∈ TB, w.before _ s = true := fun w h => hts w (List.mem_cons_of_mem _ h)
  have hown : s.vm.findClass RX1 = some m.cls := findClass_of_methodNamed B.named
  have hlocks := B.notSynchronized
  have hS : va_S noA s.heap s.heap [] := va_S.rf
  have hP : va_P (gD g) vwCl [] s.heap := fun k q h => by cases h
  have hl := lv_entry ([.int p0, .int p1]) (n := 5) (Nat.le_of_ble_eq_true rfl)
  rw [lg_entry_eq]
  generalize (lg_sl ([.int p0, .int p1]) ++ List.replicate (5 - (lg_sl ([.int p0, .int p1])).length) Slot.unset).toArray = ls at hl ⊢
  have hl : lv_has ls 5 [(0, .int p0), (1, .int p1)] := hl
  unfold FX1_seconds at hF
  have L49 : ∀ kf : Nat, ∀ (x0 : Int32) (x1 : Int32) (x2 : Int32) (x3 : Int32) (x4 : Int32) (H : Heap) (locs : List Loc) (ls : Array Slot), FX1_seconds_49 nf kf x0 x1 x2 x3 x4 = some r → lv_has ls 5 [(0, .int x0), (1, .int x1), (2, .int x2), (3, .int x3), (4, .int x4)] → va_P (gD g) vwCl [] H → va_S noA s.heap H locs → W p l e (headSpec (wx yX1_seconds cX1_seconds 5 (some .long)) ({ frames := 1, cells := 0, slots := 0, locals := 22 } : Room)).room s m ([.int p0, .int p1] : List Value).toArray below meth c H locs 0 0 (MQ below (QSl r) ([.int p0, .int p1] : List Value).toArray s 0 0 noA) (F0 m 49 ls []) := by
    intro kf
    induction kf with
    | zero => intro x0 x1 x2 x3 x4 H locs ls hF hl hP hS; cases (show (none : Option Int64) = _ from hF)
    | succ kf ih49 =>
      intro x0 x1 x2 x3 x4 H locs ls hF hl hP hS
      obtain ⟨K49, hK49⟩ : ∃ K : Int32 → Int32 → Int32 → Int32 → Int32 → Option Int64, K = FX1_seconds_49 nf kf := ⟨_, rfl⟩
      replace hF : FX1_seconds_49b K49 nf x0 x1 x2 x3 x4 = some r := by rw [hK49]; exact hF
      rw [← hK49] at ih49
      clear hK49
      unfold FX1_seconds_49b at hF
      refine lv_iload hx hb dX1_seconds_49 (lv_at hl 4 rfl) ?_
      refine lv_iload_n hx hb dX1_seconds_51 rfl (lv_at hl 0 rfl) ?_
      refine lv_iconst (v := (5 : Int32)) hx hb dX1_seconds_52 (by decide) ?_
      refine lv_ishr hx hb dX1_seconds_53 ?_
      refine lv_bipush (v := (15 : Int32)) hx hb dX1_seconds_54 (by decide) ?_
      refine lv_iand hx hb dX1_seconds_56 ?_
      refine lv_icmp_ge (tgt := 75) hx hb dX1_seconds_57 (by decide) (fun hc1 => ?_) (fun hc1 => ?_)
      · replace hF := br_yes hF hc1
        refine lv_iload_n hx hb dX1_seconds_75 rfl (lv_at hl 3 rfl) ?_
        refine lv_i2l hx hb dX1_seconds_76 rfl ?_
        refine lv_ldc2 (v := (86400 : Int64)) hx hb hown (hT _ mw41_17) dX1_seconds_77 ?_
        refine lv_lmul hx hb dX1_seconds_80 ?_
        refine lv_iload_n hx hb dX1_seconds_81 rfl (lv_at hl 1 rfl) ?_
        refine lv_bipush (v := (11 : Int32)) hx hb dX1_seconds_82 (by decide) ?_
        refine lv_ishr hx hb dX1_seconds_84 ?_
        refine lv_sipush (v := (3600 : Int32)) hx hb dX1_seconds_85 (by decide) ?_
        refine lv_imul hx hb dX1_seconds_88 ?_
        refine lv_i2l hx hb dX1_seconds_89 rfl ?_
        refine lv_ladd hx hb dX1_seconds_90 ?_
        refine lv_iload_n hx hb dX1_seconds_91 rfl (lv_at hl 1 rfl) ?_
        refine lv_iconst (v := (5 : Int32)) hx hb dX1_seconds_92 (by decide) ?_
        refine lv_ishr hx hb dX1_seconds_93 ?_
        refine lv_bipush (v := (63 : Int32)) hx hb dX1_seconds_94 (by decide) ?_
        refine lv_iand hx hb dX1_seconds_96 ?_
        refine lv_bipush (v := (60 : Int32)) hx hb dX1_seconds_97 (by decide) ?_
        refine lv_imul hx hb dX1_seconds_99 ?_
        refine lv_i2l hx hb dX1_seconds_100 rfl ?_
        refine lv_ladd hx hb dX1_seconds_101 ?_
        refine lv_iload_n hx hb dX1_seconds_102 rfl (lv_at hl 1 rfl) ?_
        refine lv_bipush (v := (31 : Int32)) hx hb dX1_seconds_103 (by decide) ?_
        refine lv_iand hx hb dX1_seconds_105 ?_
        refine lv_iconst (v := (2 : Int32)) hx hb dX1_seconds_106 (by decide) ?_
        refine lv_imul hx hb dX1_seconds_107 ?_
        refine lv_i2l hx hb dX1_seconds_108 rfl ?_
        refine lv_ladd hx hb dX1_seconds_109 ?_
        exact rS_l hx hb hr hlocks hF hS dX1_seconds_110
      · replace hF := br_no hF hc1
        refine lv_iload_n hx hb dX1_seconds_60 rfl (lv_at hl 3 rfl) ?_
        refine lv_iload_n hx hb dX1_seconds_61 rfl (lv_at hl 2 rfl) ?_
        refine lv_iload hx hb dX1_seconds_62 (lv_at hl 4 rfl) ?_
        replace hF := obnd_of hF
        obtain ⟨r3, h2, hF⟩ := hF
        refine cS_i (As := [.int (x2), .int (x4)]) (rest := [.int (x3)]) hx hb hml hT hown hE hP hS (kX1_daysOfMonth l g nf (x2) (x4) r3 h2) cw_X1_daysOfMonth mw25_8 ⟨⟨rfl, rfl⟩, Nat.le_of_ble_eq_true rfl, Nat.le_of_ble_eq_true rfl⟩ rfl hl.1 rfl (Nat.le_of_ble_eq_true rfl) dX1_seconds_64 ⟨Nat.zero_le _, Nat.zero_le _⟩ (fun H locs hP hS => ?_)
        refine lv_iadd hx hb dX1_seconds_67 ?_
        obtain ⟨x3_4, ex3_4⟩ : ∃ y : Int32, y = ((x3) + (r3)) := ⟨_, rfl⟩
        rw [← ex3_4]
        replace hF := bnd_of hF ex3_4
        refine lv_istore_n (lv' := [(3, .int (x3_4)), (0, .int (x0)), (1, .int (x1)), (2, .int (x2)), (4, .int (x4))]) hx hb dX1_seconds_68 rfl hl (by decide) rfl (fun ls hl => ?_)
        obtain ⟨x4_5, ex4_5⟩ : ∃ y : Int32, y = (x4) + (1 : Int32) := ⟨_, rfl⟩
        replace hF := bnd_of hF ex4_5
        refine lv_iinc (v := x4_5) (lv' := [(4, .int (x4_5)), (3, .int (x3_4)), (0, .int (x0)), (1, .int (x1)), (2, .int (x2))]) hx hb dX1_seconds_69 hl (k := 4) rfl (by rw [ex4_5]; rfl) (by decide) rfl (fun ls hl => ?_)
        refine lv_goto (tgt := 49) hx hb dX1_seconds_72 (by decide) ?_
        exact ih49 (x0) (x1) (x2) (x3_4) (x4_5)  _ _ _ hF (lv_sub hl [2, 3, 4, 1, 0] rfl) hP hS
  have L21 : ∀ kf : Nat, ∀ (x0 : Int32) (x1 : Int32) (x2 : Int32) (x3 : Int32) (x4 : Int32) (H : Heap) (locs : List Loc) (ls : Array Slot), FX1_seconds_21 nf kf x0 x1 x2 x3 x4 = some r → lv_has ls 5 [(0, .int x0), (1, .int x1), (2, .int x2), (3, .int x3), (4, .int x4)] → va_P (gD g) vwCl [] H → va_S noA s.heap H locs → W p l e (headSpec (wx yX1_seconds cX1_seconds 5 (some .long)) ({ frames := 1, cells := 0, slots := 0, locals := 22 } : Room)).room s m ([.int p0, .int p1] : List Value).toArray below meth c H locs 0 0 (MQ below (QSl r) ([.int p0, .int p1] : List Value).toArray s 0 0 noA) (F0 m 21 ls []) := by
    intro kf
    induction kf with
    | zero => intro x0 x1 x2 x3 x4 H locs ls hF hl hP hS; cases (show (none : Option Int64) = _ from hF)
    | succ kf ih21 =>
      intro x0 x1 x2 x3 x4 H locs ls hF hl hP hS
      obtain ⟨K21, hK21⟩ : ∃ K : Int32 → Int32 → Int32 → Int32 → Int32 → Option Int64, K = FX1_seconds_21 nf kf := ⟨_, rfl⟩
      replace hF : FX1_seconds_21b K21 nf x0 x1 x2 x3 x4 = some r := by rw [hK21]; exact hF
      rw [← hK21] at ih21
      clear hK21
      unfold FX1_seconds_21b at hF
      refine lv_iload hx hb dX1_seconds_21 (lv_at hl 4 rfl) ?_
      refine lv_iload_n hx hb dX1_seconds_23 rfl (lv_at hl 2 rfl) ?_
      refine lv_icmp_ge (tgt := 46) hx hb dX1_seconds_24 (by decide) (fun hc6 => ?_) (fun hc6 => ?_)
      · replace hF := br_yes hF hc6
        refine lv_iconst (v := (1 : Int32)) hx hb dX1_seconds_46 (by decide) ?_
        refine lv_istore (lv' := [(4, .int (1 : Int32)), (0, .int (x0)), (1, .int (x1)), (2, .int (x2)), (3, .int (x3))]) hx hb dX1_seconds_47 hl (by decide) rfl (fun ls hl => ?_)
        exact L49 nf (x0) (x1) (x2) (x3) (1 : Int32)  _ _ _ hF (lv_sub hl [1, 2, 3, 4, 0] rfl) hP hS
      · replace hF := br_no hF hc6
        refine lv_iload_n hx hb dX1_seconds_27 rfl (lv_at hl 3 rfl) ?_
        refine lv_sipush (v := (337 : Int32)) hx hb dX1_seconds_28 (by decide) ?_
        refine lv_iload hx hb dX1_seconds_31 (lv_at hl 4 rfl) ?_
        refine lv_iconst (v := (2 : Int32)) hx hb dX1_seconds_33 (by decide) ?_
        replace hF := obnd_of hF
        obtain ⟨r8, h7, hF⟩ := hF
        refine cS_i (As := [.int (x4), .int (2 : Int32)]) (rest := [.int (337 : Int32), .int (x3)]) hx hb hml hT hown hE hP hS (kX1_daysOfMonth l g nf (x4) (2 : Int32) r8 h7) cw_X1_daysOfMonth mw25_8 ⟨⟨rfl, rfl⟩, Nat.le_of_ble_eq_true rfl, Nat.le_of_ble_eq_true rfl⟩ rfl hl.1 rfl (Nat.le_of_ble_eq_true rfl) dX1_seconds_34 ⟨Nat.zero_le _, Nat.zero_le _⟩ (fun H locs hP hS => ?_)
        refine lv_iadd hx hb dX1_seconds_37 ?_
        refine lv_iadd hx hb dX1_seconds_38 ?_
        obtain ⟨x3_9, ex3_9⟩ : ∃ y : Int32, y = ((x3) + ((337 : Int32) + (r8))) := ⟨_, rfl⟩
        rw [← ex3_9]
        replace hF := bnd_of hF ex3_9
        refine lv_istore_n (lv' := [(3, .int (x3_9)), (0, .int (x0)), (1, .int (x1)), (2, .int (x2)), (4, .int (x4))]) hx hb dX1_seconds_39 rfl hl (by decide) rfl (fun ls hl => ?_)
        obtain ⟨x4_10, ex4_10⟩ : ∃ y : Int32, y = (x4) + (1 : Int32) := ⟨_, rfl⟩
        replace hF := bnd_of hF ex4_10
        refine lv_iinc (v := x4_10) (lv' := [(4, .int (x4_10)), (3, .int (x3_9)), (0, .int (x0)), (1, .int (x1)), (2, .int (x2))]) hx hb dX1_seconds_40 hl (k := 4) rfl (by rw [ex4_10]; rfl) (by decide) rfl (fun ls hl => ?_)
        refine lv_goto (tgt := 21) hx hb dX1_seconds_43 (by decide) ?_
        exact ih21 (x0) (x1) (x2) (x3_9) (x4_10)  _ _ _ hF (lv_sub hl [2, 3, 4, 1, 0] rfl) hP hS
  replace hl := lv_sub hl [0, 1] rfl
  refine lv_sipush (v := (1980 : Int32)) hx hb dX1_seconds_0 (by decide) ?_
  refine lv_iload_n hx hb dX1_seconds_3 rfl (lv_at hl 0 rfl) ?_
  refine lv_bipush (v := (9 : Int32)) hx hb dX1_seconds_4 (by decide) ?_
  refine lv_ishr hx hb dX1_seconds_6 ?_
  refine lv_iadd hx hb dX1_seconds_7 ?_
  obtain ⟨x2_11, ex2_11⟩ : ∃ y : Int32, y = ((1980 : Int32) + ((p0) >>> ((9 : Int32) &&& 31))) := ⟨_, rfl⟩
  rw [← ex2_11]
  replace hF := bnd_of hF ex2_11
  refine lv_istore_n (lv' := [(2, .int (x2_11)), (0, .int (p0)), (1, .int (p1))]) hx hb dX1_seconds_8 rfl hl (by decide) rfl (fun ls hl => ?_)
  refine lv_iload_n hx hb dX1_seconds_9 rfl (lv_at hl 1 rfl) ?_
  refine lv_bipush (v := (31 : Int32)) hx hb dX1_seconds_10 (by decide) ?_
  refine lv_iand hx hb dX1_seconds_12 ?_
  refine lv_iconst (v := (1 : Int32)) hx hb dX1_seconds_13 (by decide) ?_
  refine lv_isub hx hb dX1_seconds_14 ?_
  obtain ⟨x3_12, ex3_12⟩ : ∃ y : Int32, y = (((p0) &&& (31 : Int32)) - (1 : Int32)) := ⟨_, rfl⟩
  rw [← ex3_12]
  replace hF := bnd_of hF ex3_12
  refine lv_istore_n (lv' := [(3, .int (x3_12)), (2, .int (x2_11)), (0, .int (p0)), (1, .int (p1))]) hx hb dX1_seconds_15 rfl hl (by decide) rfl (fun ls hl => ?_)
  refine lv_sipush (v := (1970 : Int32)) hx hb dX1_seconds_16 (by decide) ?_
  refine lv_istore (lv' := [(4, .int (1970 : Int32)), (3, .int (x3_12)), (2, .int (x2_11)), (0, .int (p0)), (1, .int (p1))]) hx hb dX1_seconds_19 hl (by decide) rfl (fun ls hl => ?_)
  exact L21 nf (p0) (p1) (x2_11) (x3_12) (1970 : Int32)  _ _ _ hF (lv_sub hl [3, 4, 2, 1, 0] rfl) hP hS
theorem cw_X1_seconds : (Cond.static yX1_seconds ∈ TB ∧ Cond.code yX1_seconds cX1_seconds 5 (some .long) ∈ TB ∧ Cond.initialized yX1_seconds.cls ∈ TB) ∧ (yX1_seconds.cls ≠ "java/lang/invoke/MethodHandle" ∧ yX1_seconds.cls ≠ "java/lang/invoke/VarHandle" ∧ (parseMethodDescriptor yX1_seconds.desc).map (fun d => d.parameters.length) = some 2) := ⟨⟨mw41_15, mw41_16, mw25_2⟩, by decide +kernel⟩
/-! X7_isAt -/
noncomputable def FX7_isAt_2b (K2 : Int32 → Int32 → FI → AR → Option (Int32 × FI × AR)) (nf : Nat) (ln : LN) (i0 : Nat) (x2 : Int32) (x3 : Int32) (fi : FI) (ar : AR) : Option (Int32 × FI × AR) :=
  br ((11 : Int32) ≤ (x3)) (some ((1 : Int32), fi, ar)) (obnd3 (FX3_one nf ln fi ar ((x2) + (x3))) fun r5 fi3 ar4 => gd (¬ ((x3) < 0 ∨ ln (40 + 2 * i0) ≤ (x3).toNatClampNeg)) (br ((r5) = (ar4 (40 + 2 * i0) (x3).toNatClampNeg)) (bnd ((x3) + (1 : Int32)) fun x3_8 => K2 (x2) (x3_8) fi3 ar4) (some ((0 : Int32), fi3, ar4))))
noncomputable def FX7_isAt_2 (nf : Nat) (ln : LN) (i0 : Nat) (kf : Nat) : Int32 → Int32 → FI → AR → Option (Int32 × FI × AR) := Nat.rec (fun _ _ _ _ => none) (fun _ K2 => FX7_isAt_2b K2 nf ln i0) kf
noncomputable def FX7_isAt (nf : Nat) (ln : LN) (i0 : Nat) (fi : FI) (ar : AR) (x2 : Int32) : Option (Int32 × FI × AR) :=
  FX7_isAt_2 nf ln i0 nf (x2) (0 : Int32) fi ar
set_option maxHeartbeats 4000000 in
set_option maxRecDepth 100000 in
theorem kX7_isAt (l : Launch) (g : GT) (ad rd : Nat → Nat) (sz : Nat) (nf : Nat) (ln : LN) (i0 : Nat) (hi0 : i0 < 2) (fi : FI) (ar : AR) (p2 : Int32) (r : Int32) (fi' : FI) (ar' : AR) (hF : FX7_isAt nf ln i0 fi ar p2 = some (r, fi', ar')) : Met l yX7_isAt (wx yX7_isAt cX7_isAt 4 (some .boolean)) ({ frames := 1, cells := 0, slots := 0, locals := 22 } : Room) (va_Pc [.ref (ad (34 + 3 * i0)), .ref (ad (1)), .int p2] (PC g ad rd ln sz fi ar)) (QCi g ad rd ln sz r fi' ar') 0 0 (AC ad rd sz) := by
  refine Met.ofW (cc := cX7_isAt) (maxL := 4) (ret := (some .boolean)) (by decide) rfl ?_
  intro p e s m args below meth c s₁ B hml hv
  obtain ⟨rfl, hsz, hP, hK, hD0, hE⟩ := hv
  have hx := B.exec
  have hb := B.bytes
  have hr := B.returns
  have hts := atoms_spec (ws := (wx yX7_isAt cX7_isAt 4 (some .boolean))) B.pre
  have hT : ∀ w ∈ TB, w.before _ s = true := fun w h => hts w (List.mem_cons_of_mem _ h)
  have hown : s.vm.findClass RX7 = some m.cls := findClass_of_methodNamed B.named
  have hlocks := B.notSynchronized
  subst hsz
  have hD := dC hD0 s.heap.size
  have hA : ∀ q : Nat, s.heap.size ≤ q → AC ad rd s.heap.size q := fun q h => Or.inr h
  have hS : va_S (AC ad rd s.heap.size) s.heap s.heap [] := va_S.rf
  have hl := lv_entry ([.ref (ad (34 + 3 * i0)), .ref (ad (1)), .int p2]) (n := 4) (Nat.le_of_ble_eq_true rfl)
  rw [lg_entry_eq]
  generalize (lg_sl ([.ref (ad (34 + 3 * i0)), .ref (ad (1)), .int p2]) ++ List.replicate (4 - (lg_sl ([.ref (ad (34 + 3 * i0)), .ref (ad (1)), .int p2])).length) Slot.unset).toArray = ls at hl ⊢
  have hl : lv_has ls 4 [(0, .ref (ad (34 + 3 * i0))), (1, .ref (ad (1))), (2, .int p2)] := hl
  unfold FX7_isAt at hF
  have L2 : ∀ kf : Nat, ∀ (x2 : Int32) (x3 : Int32) (fi : FI) (ar : AR) (H : Heap) (locs : List Loc) (ls : Array Slot), FX7_isAt_2 nf ln i0 kf x2 x3 fi ar = some (r, fi', ar') → lv_has ls 4 [(0, .ref (ad (34 + 3 * i0))), (1, .ref (ad (1))), (2, .int x2), (3, .int x3)] → va_P (gD g) vwCl (WC g ad rd ln fi ar) H → va_S (AC ad rd s.heap.size) s.heap H locs → W p l e (headSpec (wx yX7_isAt cX7_isAt 4 (some .boolean)) ({ frames := 1, cells := 0, slots := 0, locals := 22 } : Room)).room s m ([.ref (ad (34 + 3 * i0)), .ref (ad (1)), .int p2] : List Value).toArray below meth c H locs 0 0 (MQ below (QCi g ad rd ln s.heap.size r fi' ar') ([.ref (ad (34 + 3 * i0)), .ref (ad (1)), .int p2] : List Value).toArray s 0 0 (AC ad rd s.heap.size)) (F0 m 2 ls []) := by
    intro kf
    induction kf with
    | zero => intro x2 x3 fi ar H locs ls hF hl hP hS; cases (show (none : Option (Int32 × FI × AR)) = _ from hF)
    | succ kf ih2 =>
      intro x2 x3 fi ar H locs ls hF hl hP hS
      obtain ⟨K2, hK2⟩ : ∃ K : Int32 → Int32 → FI → AR → Option (Int32 × FI × AR), K = FX7_isAt_2 nf ln i0 kf := ⟨_, rfl⟩
      replace hF : FX7_isAt_2b K2 nf ln i0 x2 x3 fi ar = some (r, fi', ar') := by rw [hK2]; exact hF
      rw [← hK2] at ih2
      clear hK2
      unfold FX7_isAt_2b at hF
      refine lv_iload_n hx hb dX7_isAt_2 rfl (lv_at hl 3 rfl) ?_
      refine lv_bipush (v := (11 : Int32)) hx hb dX7_isAt_3 (by decide) ?_
      refine lv_icmp_ge (tgt := 32) hx hb dX7_isAt_5 (by decide) (fun hc1 => ?_) (fun hc1 => ?_)
      · replace hF := br_yes hF hc1
        refine lv_iconst (v := (1 : Int32)) hx hb dX7_isAt_32 (by decide) ?_
        exact rC_z hx hb hr hlocks rfl hF hP hS dX7_isAt_33
      · replace hF := br_no hF hc1
        refine lv_aload_n hx hb dX7_isAt_8 rfl (lv_at hl 1 rfl) ?_
        refine lv_iload_n hx hb dX7_isAt_9 rfl (lv_at hl 2 rfl) ?_
        refine lv_iload_n hx hb dX7_isAt_10 rfl (lv_at hl 3 rfl) ?_
        refine lv_iadd hx hb dX7_isAt_11 ?_
        replace hF := obnd3_of hF
        obtain ⟨r5, fi3, ar4, h2, hF⟩ := hF
        refine cC_i (As := [.int ((x2) + (x3))]) (rest := []) hx hb hml hT hown hK hE hD hA hP hS (rcv_X3 hK hP) (kX3_one l g ad rd _ nf ln fi ar ((x2) + (x3)) r5 fi3 ar4 h2) cw_X3_one mw26_1 ⟨⟨rfl, rfl⟩, Nat.le_of_ble_eq_true rfl, Nat.le_of_ble_eq_true rfl⟩ rfl hl.1 rfl (Nat.le_of_ble_eq_true rfl) dX7_isAt_12 ⟨Nat.zero_le _, Nat.zero_le _⟩ (fun H locs hP hS => ?_)
        refine lv_aload_n hx hb dX7_isAt_15 rfl (lv_at hl 0 rfl) ?_
        refine cg_X7_bytes hi0 hx hb hT hown hK hP mw5_5 dX7_isAt_16 ?_
        refine lv_iload_n hx hb dX7_isAt_19 rfl (lv_at hl 3 rfl) ?_
        replace hF := gd_of hF
        obtain ⟨hi6, hF⟩ := hF
        refine cl_sbytes hi0 hx hb hK hP hi6 dX7_isAt_20 ?_
        refine lv_icmp_eq (tgt := 26) hx hb dX7_isAt_21 (by decide) (fun hc7 => ?_) (fun hc7 => ?_)
        · replace hF := br_yes hF hc7
          obtain ⟨x3_8, ex3_8⟩ : ∃ y : Int32, y = (x3) + (1 : Int32) := ⟨_, rfl⟩
          replace hF := bnd_of hF ex3_8
          refine lv_iinc (v := x3_8) (lv' := [(3, .int (x3_8)), (0, .ref (ad (34 + 3 * i0))), (1, .ref (ad (1))), (2, .int (x2))]) hx hb dX7_isAt_26 hl (k := 3) rfl (by rw [ex3_8]; rfl) (by decide) rfl (fun ls hl => ?_)
          refine lv_goto (tgt := 2) hx hb dX7_isAt_29 (by decide) ?_
          exact ih2 (x2) (x3_8) _ _ _ _ _ hF (lv_sub hl [1, 2, 3, 0] rfl) hP hS
        · replace hF := br_no hF hc7
          refine lv_iconst (v := (0 : Int32)) hx hb dX7_isAt_24 (by decide) ?_
          exact rC_z hx hb hr hlocks rfl hF hP hS dX7_isAt_25
  replace hl := lv_sub hl [0, 1, 2] rfl
  refine lv_iconst (v := (0 : Int32)) hx hb dX7_isAt_0 (by decide) ?_
  refine lv_istore_n (lv' := [(3, .int (0 : Int32)), (0, .ref (ad (34 + 3 * i0))), (1, .ref (ad (1))), (2, .int (p2))]) hx hb dX7_isAt_1 rfl hl (by decide) rfl (fun ls hl => ?_)
  exact L2 nf (p2) (0 : Int32) _ _ _ _ _ hF (lv_sub hl [1, 2, 3, 0] rfl) hP hS
theorem cw_X7_isAt : (Cond.instanceMethod yX7_isAt ∈ TB ∧ Cond.selects RX7 yX7_isAt yX7_isAt ∈ TB ∧ Cond.code yX7_isAt cX7_isAt 4 (some .boolean) ∈ TB ∧ Cond.initialized RX7 ∈ TB) ∧ (yX7_isAt.cls = RX7 ∧ yX7_isAt.cls ≠ "java/lang/invoke/MethodHandle" ∧ yX7_isAt.cls ≠ "java/lang/invoke/VarHandle" ∧ (parseMethodDescriptor yX7_isAt.desc).map (fun d => d.parameters.length) = some 2) := ⟨⟨mw45_19, mw45_20, mw45_21, mw3_4⟩, by decide +kernel⟩
