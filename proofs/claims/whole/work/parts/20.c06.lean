/-! X2_hasShort -/
noncomputable def FX2_hasShort_2b (K2 : Int32 → FI → AR → Option (Int32 × FI × AR)) (nf : Nat) (ln : LN) (i0 : Nat) (i1 : Nat) (x2 : Int32) (fi : FI) (ar : AR) : Option (Int32 × FI × AR) :=
  br ((fi (20 + 10 * i0)) ≤ (x2)) (some ((0 : Int32), fi, ar)) (gd (¬ ((x2) < 0 ∨ ln (11 + 4 * i0) ≤ (x2).toNatClampNeg)) (obnd3 (FX2_slotAddress nf ln i0 fi ar (ar (11 + 4 * i0) (x2).toNatClampNeg)) fun r6 fi4 ar5 => obnd3 (FX7_isAt nf ln i1 fi4 ar5 (r6)) fun r10 fi8 ar9 => br ((r10) = 0) (bnd ((x2) + (1 : Int32)) fun x2_12 => K2 (x2_12) fi8 ar9) (some ((1 : Int32), fi8, ar9))))
noncomputable def FX2_hasShort_2 (nf : Nat) (ln : LN) (i0 : Nat) (i1 : Nat) (kf : Nat) : Int32 → FI → AR → Option (Int32 × FI × AR) := Nat.rec (fun _ _ _ => none) (fun _ K2 => FX2_hasShort_2b K2 nf ln i0 i1) kf
noncomputable def FX2_hasShort (nf : Nat) (ln : LN) (i0 : Nat) (i1 : Nat) (fi : FI) (ar : AR)  : Option (Int32 × FI × AR) :=
  FX2_hasShort_2 nf ln i0 i1 nf (0 : Int32) fi ar
set_option maxHeartbeats 4000000 in
set_option maxRecDepth 100000 in
theorem kX2_hasShort (l : Launch) (g : GT) (ad rd : Nat → Nat) (sz : Nat) (nf : Nat) (ln : LN) (i0 : Nat) (i1 : Nat) (hi0 : i0 < 3) (hi1 : i1 < 2) (fi : FI) (ar : AR)  (r : Int32) (fi' : FI) (ar' : AR) (hF : FX2_hasShort nf ln i0 i1 fi ar  = some (r, fi', ar')) : Met l yX2_hasShort (wx yX2_hasShort cX2_hasShort 3 (some .boolean)) ({ frames := 2, cells := 0, slots := 0, locals := 45 } : Room) (va_Pc [.ref (ad (11 + 5 * i0)), .ref (ad (34 + 3 * i1))] (PC g ad rd ln sz fi ar)) (QCi g ad rd ln sz r fi' ar') 0 0 (AC ad rd sz) := by
  refine Met.ofW (cc := cX2_hasShort) (maxL := 3) (ret := (some .boolean)) (by decide) rfl ?_
  intro p e s m args below meth c s₁ B hml hv
  obtain ⟨rfl, hsz, hP, hK, hD0, hE⟩ := hv
  have hx := B.exec
  have hb := B.bytes
  have hr := B.returns
  have hts := atoms_spec (ws := (wx yX2_hasShort cX2_hasShort 3 (some .boolean))) B.pre
  have hT : ∀ w ∈ TB, w.before _ s = true := fun w h => hts w (List.mem_cons_of_mem _ h)
  have hown : s.vm.findClass RX2 = some m.cls := findClass_of_methodNamed B.named
  have hlocks := B.notSynchronized
  subst hsz
  have hD := dC hD0 s.heap.size
  have hA : ∀ q : Nat, s.heap.size ≤ q → AC ad rd s.heap.size q := fun q h => Or.inr h
  have hS : va_S (AC ad rd s.heap.size) s.heap s.heap [] := va_S.rf
  have hl := lv_entry ([.ref (ad (11 + 5 * i0)), .ref (ad (34 + 3 * i1))]) (n := 3) (Nat.le_of_ble_eq_true rfl)
  rw [lg_entry_eq]
  generalize (lg_sl ([.ref (ad (11 + 5 * i0)), .ref (ad (34 + 3 * i1))]) ++ List.replicate (3 - (lg_sl ([.ref (ad (11 + 5 * i0)), .ref (ad (34 + 3 * i1))])).length) Slot.unset).toArray = ls at hl ⊢
  have hl : lv_has ls 3 [(0, .ref (ad (11 + 5 * i0))), (1, .ref (ad (34 + 3 * i1)))] := hl
  unfold FX2_hasShort at hF
  have L2 : ∀ kf : Nat, ∀ (x2 : Int32) (fi : FI) (ar : AR) (H : Heap) (locs : List Loc) (ls : Array Slot), FX2_hasShort_2 nf ln i0 i1 kf x2 fi ar = some (r, fi', ar') → lv_has ls 3 [(0, .ref (ad (11 + 5 * i0))), (1, .ref (ad (34 + 3 * i1))), (2, .int x2)] → va_P (gD g) vwCl (WC g ad rd ln fi ar) H → va_S (AC ad rd s.heap.size) s.heap H locs → W p l e (headSpec (wx yX2_hasShort cX2_hasShort 3 (some .boolean)) ({ frames := 2, cells := 0, slots := 0, locals := 45 } : Room)).room s m ([.ref (ad (11 + 5 * i0)), .ref (ad (34 + 3 * i1))] : List Value).toArray below meth c H locs 0 0 (MQ below (QCi g ad rd ln s.heap.size r fi' ar') ([.ref (ad (11 + 5 * i0)), .ref (ad (34 + 3 * i1))] : List Value).toArray s 0 0 (AC ad rd s.heap.size)) (F0 m 2 ls []) := by
    intro kf
    induction kf with
    | zero => intro x2 fi ar H locs ls hF hl hP hS; cases (show (none : Option (Int32 × FI × AR)) = _ from hF)
    | succ kf ih2 =>
      intro x2 fi ar H locs ls hF hl hP hS
      obtain ⟨K2, hK2⟩ : ∃ K : Int32 → FI → AR → Option (Int32 × FI × AR), K = FX2_hasShort_2 nf ln i0 i1 kf := ⟨_, rfl⟩
      replace hF : FX2_hasShort_2b K2 nf ln i0 i1 x2 fi ar = some (r, fi', ar') := by rw [hK2]; exact hF
      rw [← hK2] at ih2
      clear hK2
      unfold FX2_hasShort_2b at hF
      refine lv_iload_n hx hb dX2_hasShort_2 rfl (lv_at hl 2 rfl) ?_
      refine lv_aload_n hx hb dX2_hasShort_3 rfl (lv_at hl 0 rfl) ?_
      refine cg_X2_count hi0 hx hb hT hown hK hP mw23_16 dX2_hasShort_4 ?_
      refine lv_icmp_ge (tgt := 39) hx hb dX2_hasShort_7 (by decide) (fun hc1 => ?_) (fun hc1 => ?_)
      · replace hF := br_yes hF hc1
        refine lv_iconst (v := (0 : Int32)) hx hb dX2_hasShort_39 (by decide) ?_
        exact rC_z hx hb hr hlocks rfl hF hP hS dX2_hasShort_40
      · replace hF := br_no hF hc1
        refine lv_aload_n hx hb dX2_hasShort_10 rfl (lv_at hl 1 rfl) ?_
        refine lv_aload_n hx hb dX2_hasShort_11 rfl (lv_at hl 0 rfl) ?_
        refine cg_X2_disk hi0 hx hb hT hown hK hP mw5_16 dX2_hasShort_12 ?_
        refine lv_aload_n hx hb dX2_hasShort_15 rfl (lv_at hl 0 rfl) ?_
        refine lv_aload_n hx hb dX2_hasShort_16 rfl (lv_at hl 0 rfl) ?_
        refine cg_X2_entrySlots hi0 hx hb hT hown hK hP mw5_11 dX2_hasShort_17 ?_
        refine lv_iload_n hx hb dX2_hasShort_20 rfl (lv_at hl 2 rfl) ?_
        replace hF := gd_of hF
        obtain ⟨hi2, hF⟩ := hF
        refine cl_entrySlots hi0 hx hb hK hP hi2 dX2_hasShort_21 ?_
        replace hF := obnd3_of hF
        obtain ⟨r6, fi4, ar5, h3, hF⟩ := hF
        refine cC_i (As := [.int (ar (11 + 4 * i0) (x2).toNatClampNeg)]) (rest := [.ref (ad (1)), .ref (ad (34 + 3 * i1))]) hx hb hml hT hown hK hE hD hA hP hS (rcv_X2 hi0 hK hP) (kX2_slotAddress l g ad rd _ nf ln i0 hi0 fi ar (ar (11 + 4 * i0) (x2).toNatClampNeg) r6 fi4 ar5 h3) cw_X2_slotAddress mw38_3 ⟨⟨rfl, rfl⟩, Nat.le_of_ble_eq_true rfl, Nat.le_of_ble_eq_true rfl⟩ rfl hl.1 rfl (Nat.le_of_ble_eq_true rfl) dX2_hasShort_22 ⟨Nat.zero_le _, Nat.zero_le _⟩ (fun H locs hP hS => ?_)
        replace hF := obnd3_of hF
        obtain ⟨r10, fi8, ar9, h7, hF⟩ := hF
        refine cC_i (As := [.ref (ad (1)), .int (r6)]) (rest := []) hx hb hml hT hown hK hE hD hA hP hS (rcv_X7 hi1 hK hP) (kX7_isAt l g ad rd _ nf ln i1 hi1 fi4 ar5 (r6) r10 fi8 ar9 h7) cw_X7_isAt mw45_18 ⟨⟨rfl, rfl⟩, Nat.le_of_ble_eq_true rfl, Nat.le_of_ble_eq_true rfl⟩ rfl hl.1 rfl (Nat.le_of_ble_eq_true rfl) dX2_hasShort_25 ⟨Nat.zero_le _, Nat.zero_le _⟩ (fun H locs hP hS => ?_)
        refine lv_if_eq (tgt := 33) hx hb dX2_hasShort_28 (by decide) (fun hc11 => ?_) (fun hc11 => ?_)
        · replace hF := br_yes hF hc11
          obtain ⟨x2_12, ex2_12⟩ : ∃ y : Int32, y = (x2) + (1 : Int32) := ⟨_, rfl⟩
          replace hF := bnd_of hF ex2_12
          refine lv_iinc (v := x2_12) (lv' := [(2, .int (x2_12)), (0, .ref (ad (11 + 5 * i0))), (1, .ref (ad (34 + 3 * i1)))]) hx hb dX2_hasShort_33 hl (k := 2) rfl (by rw [ex2_12]; rfl) (by decide) rfl (fun ls hl => ?_)
          refine lv_goto (tgt := 2) hx hb dX2_hasShort_36 (by decide) ?_
          exact ih2 (x2_12) _ _ _ _ _ hF (lv_sub hl [1, 2, 0] rfl) hP hS
        · replace hF := br_no hF hc11
          refine lv_iconst (v := (1 : Int32)) hx hb dX2_hasShort_31 (by decide) ?_
          exact rC_z hx hb hr hlocks rfl hF hP hS dX2_hasShort_32
  replace hl := lv_sub hl [0, 1] rfl
  refine lv_iconst (v := (0 : Int32)) hx hb dX2_hasShort_0 (by decide) ?_
  refine lv_istore_n (lv' := [(2, .int (0 : Int32)), (0, .ref (ad (11 + 5 * i0))), (1, .ref (ad (34 + 3 * i1)))]) hx hb dX2_hasShort_1 rfl hl (by decide) rfl (fun ls hl => ?_)
  exact L2 nf (0 : Int32) _ _ _ _ _ hF (lv_sub hl [1, 2, 0] rfl) hP hS
theorem cw_X2_hasShort : (Cond.instanceMethod yX2_hasShort ∈ TB ∧ Cond.selects RX2 yX2_hasShort yX2_hasShort ∈ TB ∧ Cond.code yX2_hasShort cX2_hasShort 3 (some .boolean) ∈ TB ∧ Cond.initialized RX2 ∈ TB) ∧ (yX2_hasShort.cls = RX2 ∧ yX2_hasShort.cls ≠ "java/lang/invoke/MethodHandle" ∧ yX2_hasShort.cls ≠ "java/lang/invoke/VarHandle" ∧ (parseMethodDescriptor yX2_hasShort.desc).map (fun d => d.parameters.length) = some 1) := ⟨⟨mw45_15, mw45_16, mw45_17, mw2_18⟩, by decide +kernel⟩
/-! X2_itemsBefore -/
noncomputable def FX2_itemsBefore_25 (K4 : Int32 → Int32 → Int32 → FI → AR → Option (Int32 × FI × AR)) (nf : Nat) (ln : LN) (i0 : Nat) (x1 : Int32) (x2 : Int32) (x3 : Int32) (fi : FI) (ar : AR) : Option (Int32 × FI × AR) :=
  bnd ((x3) + (1 : Int32)) fun x3_1 => K4 (x1) (x2) (x3_1) fi ar
noncomputable def FX2_itemsBefore_4b (K4 : Int32 → Int32 → Int32 → FI → AR → Option (Int32 × FI × AR)) (nf : Nat) (ln : LN) (i0 : Nat) (x1 : Int32) (x2 : Int32) (x3 : Int32) (fi : FI) (ar : AR) : Option (Int32 × FI × AR) :=
  br ((fi (20 + 10 * i0)) ≤ (x3)) (some ((x2), fi, ar)) (gd (¬ ((x3) < 0 ∨ ln (11 + 4 * i0) ≤ (x3).toNatClampNeg)) (br ((x1) ≤ (ar (11 + 4 * i0) (x3).toNatClampNeg)) (FX2_itemsBefore_25 K4 nf ln i0  (x1) (x2) (x3) fi ar) (bnd ((x2) + (1 : Int32)) fun x2_5 => FX2_itemsBefore_25 K4 nf ln i0  (x1) (x2_5) (x3) fi ar)))
noncomputable def FX2_itemsBefore_4 (nf : Nat) (ln : LN) (i0 : Nat) (kf : Nat) : Int32 → Int32 → Int32 → FI → AR → Option (Int32 × FI × AR) := Nat.rec (fun _ _ _ _ _ => none) (fun _ K4 => FX2_itemsBefore_4b K4 nf ln i0) kf
noncomputable def FX2_itemsBefore (nf : Nat) (ln : LN) (i0 : Nat) (fi : FI) (ar : AR) (x1 : Int32) : Option (Int32 × FI × AR) :=
  FX2_itemsBefore_4 nf ln i0 nf (x1) (0 : Int32) (0 : Int32) fi ar
set_option maxHeartbeats 4000000 in
set_option maxRecDepth 100000 in
theorem kX2_itemsBefore (l : Launch) (g : GT) (ad rd : Nat → Nat) (sz : Nat) (nf : Nat) (ln : LN) (i0 : Nat) (hi0 : i0 < 3) (fi : FI) (ar : AR) (p1 : Int32) (r : Int32) (fi' : FI) (ar' : AR) (hF : FX2_itemsBefore nf ln i0 fi ar p1 = some (r, fi', ar')) : Met l yX2_itemsBefore (wx yX2_itemsBefore cX2_itemsBefore 4 (some .int)) ({ frames := 0, cells := 0, slots := 0, locals := 0 } : Room) (va_Pc [.ref (ad (11 + 5 * i0)), .int p1] (PC g ad rd ln sz fi ar)) (QCi g ad rd ln sz r fi' ar') 0 0 (AC ad rd sz) := by
  refine Met.ofW (cc := cX2_itemsBefore) (maxL := 4) (ret := (some .int)) (by decide) rfl ?_
  intro p e s m args below meth c s₁ B hml hv
  obtain ⟨rfl, hsz, hP, hK, hD0, hE⟩ := hv
  have hx := B.exec
  have hb := B.bytes
  have hr := B.returns
  have hts := atoms_spec (ws := (wx yX2_itemsBefore cX2_itemsBefore 4 (some .int))) B.pre
  have hT : ∀ w ∈ TB, w.before _ s = true := fun w h => hts w (List.mem_cons_of_mem _ h)
  have hown : s.vm.findClass RX2 = some m.cls := findClass_of_methodNamed B.named
  have hlocks := B.notSynchronized
  subst hsz
  have hD := dC hD0 s.heap.size
  have hA : ∀ q : Nat, s.heap.size ≤ q → AC ad rd s.heap.size q := fun q h => Or.inr h
  have hS : va_S (AC ad rd s.heap.size) s.heap s.heap [] := va_S.rf
  have hl := lv_entry ([.ref (ad (11 + 5 * i0)), .int p1]) (n := 4) (Nat.le_of_ble_eq_true rfl)
  rw [lg_entry_eq]
  generalize (lg_sl ([.ref (ad (11 + 5 * i0)), .int p1]) ++ List.replicate (4 - (lg_sl ([.ref (ad (11 + 5 * i0)), .int p1])).length) Slot.unset).toArray = ls at hl ⊢
  have hl : lv_has ls 4 [(0, .ref (ad (11 + 5 * i0))), (1, .int p1)] := hl
  unfold FX2_itemsBefore at hF
  have L4 : ∀ kf : Nat, ∀ (x1 : Int32) (x2 : Int32) (x3 : Int32) (fi : FI) (ar : AR) (H : Heap) (locs : List Loc) (ls : Array Slot), FX2_itemsBefore_4 nf ln i0 kf x1 x2 x3 fi ar = some (r, fi', ar') → lv_has ls 4 [(0, .ref (ad (11 + 5 * i0))), (1, .int x1), (2, .int x2), (3, .int x3)] → va_P (gD g) vwCl (WC g ad rd ln fi ar) H → va_S (AC ad rd s.heap.size) s.heap H locs → W p l e (headSpec (wx yX2_itemsBefore cX2_itemsBefore 4 (some .int)) ({ frames := 0, cells := 0, slots := 0, locals := 0 } : Room)).room s m ([.ref (ad (11 + 5 * i0)), .int p1] : List Value).toArray below meth c H locs 0 0 (MQ below (QCi g ad rd ln s.heap.size r fi' ar') ([.ref (ad (11 + 5 * i0)), .int p1] : List Value).toArray s 0 0 (AC ad rd s.heap.size)) (F0 m 4 ls []) := by
    intro kf
    induction kf with
    | zero => intro x1 x2 x3 fi ar H locs ls hF hl hP hS; cases (show (none : Option (Int32 × FI × AR)) = _ from hF)
    | succ kf ih4 =>
      intro x1 x2 x3 fi ar H locs ls hF hl hP hS
      obtain ⟨K4, hK4⟩ : ∃ K : Int32 → Int32 → Int32 → FI → AR → Option (Int32 × FI × AR), K = FX2_itemsBefore_4 nf ln i0 kf := ⟨_, rfl⟩
      replace hF : FX2_itemsBefore_4b K4 nf ln i0 x1 x2 x3 fi ar = some (r, fi', ar') := by rw [hK4]; exact hF
      rw [← hK4] at ih4
      clear hK4
      have J25 : ∀ (x1 : Int32) (x2 : Int32) (x3 : Int32) (fi : FI) (ar : AR) (H : Heap) (locs : List Loc) (ls : Array Slot), FX2_itemsBefore_25 K4 nf ln i0 x1 x2 x3 fi ar = some (r, fi', ar') → lv_has ls 4 [(0, .ref (ad (11 + 5 * i0))), (1, .int x1), (2, .int x2), (3, .int x3)] → va_P (gD g) vwCl (WC g ad rd ln fi ar) H → va_S (AC ad rd s.heap.size) s.heap H locs → W p l e (headSpec (wx yX2_itemsBefore cX2_itemsBefore 4 (some .int)) ({ frames := 0, cells := 0, slots := 0, locals := 0 } : Room)).room s m ([.ref (ad (11 + 5 * i0)), .int p1] : List Value).toArray below meth c H locs 0 0 (MQ below (QCi g ad rd ln s.heap.size r fi' ar') ([.ref (ad (11 + 5 * i0)), .int p1] : List Value).toArray s 0 0 (AC ad rd s.heap.size)) (F0 m 25 ls []) := by
        intro x1 x2 x3 fi ar H locs ls hF hl hP hS
        unfold FX2_itemsBefore_25 at hF
        obtain ⟨x3_1, ex3_1⟩ : ∃ y : Int32, y = (x3) + (1 : Int32) := ⟨_, rfl⟩
        replace hF := bnd_of hF ex3_1
        refine lv_iinc (v := x3_1) (lv' := [(3, .int (x3_1)), (0, .ref (ad (11 + 5 * i0))), (1, .int (x1)), (2, .int (x2))]) hx hb dX2_itemsBefore_25 hl (k := 3) rfl (by rw [ex3_1]; rfl) (by decide) rfl (fun ls hl => ?_)
        refine lv_goto (tgt := 4) hx hb dX2_itemsBefore_28 (by decide) ?_
        exact ih4 (x1) (x2) (x3_1) _ _ _ _ _ hF (lv_sub hl [1, 2, 3, 0] rfl) hP hS
      unfold FX2_itemsBefore_4b at hF
      refine lv_iload_n hx hb dX2_itemsBefore_4 rfl (lv_at hl 3 rfl) ?_
      refine lv_aload_n hx hb dX2_itemsBefore_5 rfl (lv_at hl 0 rfl) ?_
      refine cg_X2_count hi0 hx hb hT hown hK hP mw23_16 dX2_itemsBefore_6 ?_
      refine lv_icmp_ge (tgt := 31) hx hb dX2_itemsBefore_9 (by decide) (fun hc2 => ?_) (fun hc2 => ?_)
      · replace hF := br_yes hF hc2
        refine lv_iload_n hx hb dX2_itemsBefore_31 rfl (lv_at hl 2 rfl) ?_
        exact rC_i hx hb hr hlocks hF hP hS dX2_itemsBefore_32
      · replace hF := br_no hF hc2
        refine lv_aload_n hx hb dX2_itemsBefore_12 rfl (lv_at hl 0 rfl) ?_
        refine cg_X2_entrySlots hi0 hx hb hT hown hK hP mw5_11 dX2_itemsBefore_13 ?_
        refine lv_iload_n hx hb dX2_itemsBefore_16 rfl (lv_at hl 3 rfl) ?_
        replace hF := gd_of hF
        obtain ⟨hi3, hF⟩ := hF
        refine cl_entrySlots hi0 hx hb hK hP hi3 dX2_itemsBefore_17 ?_
        refine lv_iload_n hx hb dX2_itemsBefore_18 rfl (lv_at hl 1 rfl) ?_
        refine lv_icmp_ge (tgt := 25) hx hb dX2_itemsBefore_19 (by decide) (fun hc4 => ?_) (fun hc4 => ?_)
        · replace hF := br_yes hF hc4
          exact J25 (x1) (x2) (x3) _ _ _ _ _ hF (lv_sub hl [0, 1, 2, 3] rfl) hP hS
        · replace hF := br_no hF hc4
          obtain ⟨x2_5, ex2_5⟩ : ∃ y : Int32, y = (x2) + (1 : Int32) := ⟨_, rfl⟩
          replace hF := bnd_of hF ex2_5
          refine lv_iinc (v := x2_5) (lv' := [(2, .int (x2_5)), (0, .ref (ad (11 + 5 * i0))), (1, .int (x1)), (3, .int (x3))]) hx hb dX2_itemsBefore_22 hl (k := 2) rfl (by rw [ex2_5]; rfl) (by decide) rfl (fun ls hl => ?_)
          exact J25 (x1) (x2_5) (x3) _ _ _ _ _ hF (lv_sub hl [1, 2, 0, 3] rfl) hP hS
  replace hl := lv_sub hl [0, 1] rfl
  refine lv_iconst (v := (0 : Int32)) hx hb dX2_itemsBefore_0 (by decide) ?_
  refine lv_istore_n (lv' := [(2, .int (0 : Int32)), (0, .ref (ad (11 + 5 * i0))), (1, .int (p1))]) hx hb dX2_itemsBefore_1 rfl hl (by decide) rfl (fun ls hl => ?_)
  refine lv_iconst (v := (0 : Int32)) hx hb dX2_itemsBefore_2 (by decide) ?_
  refine lv_istore_n (lv' := [(3, .int (0 : Int32)), (2, .int (0 : Int32)), (0, .ref (ad (11 + 5 * i0))), (1, .int (p1))]) hx hb dX2_itemsBefore_3 rfl hl (by decide) rfl (fun ls hl => ?_)
  exact L4 nf (p1) (0 : Int32) (0 : Int32) _ _ _ _ _ hF (lv_sub hl [2, 3, 1, 0] rfl) hP hS
theorem cw_X2_itemsBefore : (Cond.instanceMethod yX2_itemsBefore ∈ TB ∧ Cond.selects RX2 yX2_itemsBefore yX2_itemsBefore ∈ TB ∧ Cond.code yX2_itemsBefore cX2_itemsBefore 4 (some .int) ∈ TB ∧ Cond.initialized RX2 ∈ TB) ∧ (yX2_itemsBefore.cls = RX2 ∧ yX2_itemsBefore.cls ≠ "java/lang/invoke/MethodHandle" ∧ yX2_itemsBefore.cls ≠ "java/lang/invoke/VarHandle" ∧ (parseMethodDescriptor yX2_itemsBefore.desc).map (fun d => d.parameters.length) = some 1) := ⟨⟨mw48_19, mw48_20, mw48_21, mw2_18⟩, by decide +kernel⟩
/-! X2_roomFor -/
noncomputable def FX2_roomFor_57 (K4 : Int32 → Int32 → Int32 → FI → AR → Option (Int32 × FI × AR)) (nf : Nat) (ln : LN) (i0 : Nat) (x1 : Int32) (x3 : Int32) (t0 : Int32) (fi : FI) (ar : AR) : Option (Int32 × FI × AR) :=
  br ((t0) = (x1)) (some ((((x3) + (1 : Int32)) - (x1)), fi, ar)) (bnd ((x3) + (1 : Int32)) fun x3_2 => K4 (x1) (t0) (x3_2) fi ar)
noncomputable def FX2_roomFor_43 (K4 : Int32 → Int32 → Int32 → FI → AR → Option (Int32 × FI × AR)) (nf : Nat) (ln : LN) (i0 : Nat) (x1 : Int32) (x2 : Int32) (x3 : Int32) (t0 : Int32) (fi : FI) (ar : AR) : Option (Int32 × FI × AR) :=
  br ((t0) = 0) (FX2_roomFor_57 K4 nf ln i0  (x1) (x3) ((x2) + (1 : Int32)) fi ar) (FX2_roomFor_57 K4 nf ln i0  (x1) (x3) (0 : Int32) fi ar)
noncomputable def FX2_roomFor_42 (K4 : Int32 → Int32 → Int32 → FI → AR → Option (Int32 × FI × AR)) (nf : Nat) (ln : LN) (i0 : Nat) (x1 : Int32) (x2 : Int32) (x3 : Int32) (fi : FI) (ar : AR) : Option (Int32 × FI × AR) :=
  FX2_roomFor_43 K4 nf ln i0  (x1) (x2) (x3) (0 : Int32) fi ar
noncomputable def FX2_roomFor_4b (K4 : Int32 → Int32 → Int32 → FI → AR → Option (Int32 × FI × AR)) (nf : Nat) (ln : LN) (i0 : Nat) (x1 : Int32) (x2 : Int32) (x3 : Int32) (fi : FI) (ar : AR) : Option (Int32 × FI × AR) :=
  br ((fi (21 + 10 * i0)) ≤ (x3)) (some (((fi (21 + 10 * i0)) - (x2)), fi, ar)) (br ((fi (22 + 10 * i0)) ≤ (x3)) (FX2_roomFor_42 K4 nf ln i0  (x1) (x2) (x3) fi ar) (obnd3 (FX2_slotAddress nf ln i0 fi ar (x3)) fun r9 fi7 ar8 => obnd3 (FX3_one nf ln fi7 ar8 (r9)) fun r13 fi11 ar12 => br ((r13) = (229 : Int32)) (FX2_roomFor_42 K4 nf ln i0  (x1) (x2) (x3) fi11 ar12) (FX2_roomFor_43 K4 nf ln i0  (x1) (x2) (x3) (1 : Int32) fi11 ar12)))
noncomputable def FX2_roomFor_4 (nf : Nat) (ln : LN) (i0 : Nat) (kf : Nat) : Int32 → Int32 → Int32 → FI → AR → Option (Int32 × FI × AR) := Nat.rec (fun _ _ _ _ _ => none) (fun _ K4 => FX2_roomFor_4b K4 nf ln i0) kf
noncomputable def FX2_roomFor (nf : Nat) (ln : LN) (i0 : Nat) (fi : FI) (ar : AR) (x1 : Int32) : Option (Int32 × FI × AR) :=
  FX2_roomFor_4 nf ln i0 nf (x1) (0 : Int32) (0 : Int32) fi ar
set_option maxHeartbeats 4000000 in
set_option maxRecDepth 100000 in
theorem kX2_roomFor (l : Launch) (g : GT) (ad rd : Nat → Nat) (sz : Nat) (nf : Nat) (ln : LN) (i0 : Nat) (hi0 : i0 < 3) (fi : FI) (ar : AR) (p1 : Int32) (r : Int32) (fi' : FI) (ar' : AR) (hF : FX2_roomFor nf ln i0 fi ar p1 = some (r, fi', ar')) : Met l yX2_roomFor (wx yX2_roomFor cX2_roomFor 5 (some .int)) ({ frames := 1, cells := 0, slots := 0, locals := 22 } : Room) (va_Pc [.ref (ad (11 + 5 * i0)), .int p1] (PC g ad rd ln sz fi ar)) (QCi g ad rd ln sz r fi' ar') 0 0 (AC ad rd sz) := by
  refine Met.ofW (cc := cX2_roomFor) (maxL := 5) (ret := (some .int)) (by decide) rfl ?_
  intro p e s m args below meth c s₁ B hml hv
  obtain ⟨rfl, hsz, hP, hK, hD0, hE⟩ := hv
  have hx := B.exec
  have hb := B.bytes
  have hr := B.returns
  have hts := atoms_spec (ws := (wx yX2_roomFor cX2_roomFor 5 (some .int))) B.pre
  have hT : ∀ w ∈ TB, w.before _ s = true := fun w h => hts w (List.mem_cons_of_mem _ h)
  have hown : s.vm.findClass RX2 = some m.cls := findClass_of_methodNamed B.named
  have hlocks := B.notSynchronized
  subst hsz
  have hD := dC hD0 s.heap.size
  have hA : ∀ q : Nat, s.heap.size ≤ q → AC ad rd s.heap.size q := fun q h => Or.inr h
  have hS : va_S (AC ad rd s.heap.size) s.heap s.heap [] := va_S.rf
  have hl := lv_entry ([.ref (ad (11 + 5 * i0)), .int p1]) (n := 5) (Nat.le_of_ble_eq_true rfl)
  rw [lg_entry_eq]
  generalize (lg_sl ([.ref (ad (11 + 5 * i0)), .int p1]) ++ List.replicate (5 - (lg_sl ([.ref (ad (11 + 5 * i0)), .int p1])).length) Slot.unset).toArray = ls at hl ⊢
  have hl : lv_has ls 5 [(0, .ref (ad (11 + 5 * i0))), (1, .int p1)] := hl
  unfold FX2_roomFor at hF
  have L4 : ∀ kf : Nat, ∀ (x1 : Int32) (x2 : Int32) (x3 : Int32) (fi : FI) (ar : AR) (H : Heap) (locs : List Loc) (ls : Array Slot), FX2_roomFor_4 nf ln i0 kf x1 x2 x3 fi ar = some (r, fi', ar') → lv_has ls 5 [(0, .ref (ad (11 + 5 * i0))), (1, .int x1), (2, .int x2), (3, .int x3)] → va_P (gD g) vwCl (WC g ad rd ln fi ar) H → va_S (AC ad rd s.heap.size) s.heap H locs → W p l e (headSpec (wx yX2_roomFor cX2_roomFor 5 (some .int)) ({ frames := 1, cells := 0, slots := 0, locals := 22 } : Room)).room s m ([.ref (ad (11 + 5 * i0)), .int p1] : List Value).toArray below meth c H locs 0 0 (MQ below (QCi g ad rd ln s.heap.size r fi' ar') ([.ref (ad (11 + 5 * i0)), .int p1] : List Value).toArray s 0 0 (AC ad rd s.heap.size)) (F0 m 4 ls []) := by
    intro kf
    induction kf with
    | zero => intro x1 x2 x3 fi ar H locs ls hF hl hP hS; cases (show (none : Option (Int32 × FI × AR)) = _ from hF)
    | succ kf ih4 =>
      intro x1 x2 x3 fi ar H locs ls hF hl hP hS
      obtain ⟨K4, hK4⟩ : ∃ K : Int32 → Int32 → Int32 → FI → AR → Option (Int32 × FI × AR), K = FX2_roomFor_4 nf ln i0 kf := ⟨_, rfl⟩
      replace hF : FX2_roomFor_4b K4 nf ln i0 x1 x2 x3 fi ar = some (r, fi', ar') := by rw [hK4]; exact hF
      rw [← hK4] at ih4
      clear hK4
      have J57 : ∀ (x1 : Int32) (x3 : Int32) (t0 : Int32) (fi : FI) (ar : AR) (H : Heap) (locs : List Loc) (ls : Array Slot), FX2_roomFor_57 K4 nf ln i0 x1 x3 t0 fi ar = some (r, fi', ar') → lv_has ls 5 [(0, .ref (ad (11 + 5 * i0))), (1, .int x1), (3, .int x3)] → va_P (gD g) vwCl (WC g ad rd ln fi ar) H → va_S (AC ad rd s.heap.size) s.heap H locs → W p l e (headSpec (wx yX2_roomFor cX2_roomFor 5 (some .int)) ({ frames := 1, cells := 0, slots := 0, locals := 22 } : Room)).room s m ([.ref (ad (11 + 5 * i0)), .int p1] : List Value).toArray below meth c H locs 0 0 (MQ below (QCi g ad rd ln s.heap.size r fi' ar') ([.ref (ad (11 + 5 * i0)), .int p1] : List Value).toArray s 0 0 (AC ad rd s.heap.size)) (F0 m 57 ls [.int t0]) := by
        intro x1 x3 t0 fi ar H locs ls hF hl hP hS
        unfold FX2_roomFor_57 at hF
        refine lv_istore_n (lv' := [(2, .int (t0)), (0, .ref (ad (11 + 5 * i0))), (1, .int (x1)), (3, .int (x3))]) hx hb dX2_roomFor_57 rfl hl (by decide) rfl (fun ls hl => ?_)
        refine lv_iload_n hx hb dX2_roomFor_58 rfl (lv_at hl 0 rfl) ?_
        refine lv_iload_n hx hb dX2_roomFor_59 rfl (lv_at hl 2 rfl) ?_
        refine lv_icmp_ne (tgt := 69) hx hb dX2_roomFor_60 (by decide) (fun hc1 => ?_) (fun hc1 => ?_)
        · replace hF := br_no hF hc1
          obtain ⟨x3_2, ex3_2⟩ : ∃ y : Int32, y = (x3) + (1 : Int32) := ⟨_, rfl⟩
          replace hF := bnd_of hF ex3_2
          refine lv_iinc (v := x3_2) (lv' := [(3, .int (x3_2)), (2, .int (t0)), (0, .ref (ad (11 + 5 * i0))), (1, .int (x1))]) hx hb dX2_roomFor_69 hl (k := 3) rfl (by rw [ex3_2]; rfl) (by decide) rfl (fun ls hl => ?_)
          refine lv_goto (tgt := 4) hx hb dX2_roomFor_72 (by decide) ?_
          exact ih4 (x1) (t0) (x3_2) _ _ _ _ _ hF (lv_sub hl [2, 3, 1, 0] rfl) hP hS
        · replace hF := br_yes hF hc1
          refine lv_iload_n hx hb dX2_roomFor_63 rfl (lv_at hl 3 rfl) ?_
          refine lv_iconst (v := (1 : Int32)) hx hb dX2_roomFor_64 (by decide) ?_
          refine lv_iadd hx hb dX2_roomFor_65 ?_
          refine lv_iload_n hx hb dX2_roomFor_66 rfl (lv_at hl 2 rfl) ?_
          refine lv_isub hx hb dX2_roomFor_67 ?_
          exact rC_i hx hb hr hlocks hF hP hS dX2_roomFor_68
      have J43 : ∀ (x1 : Int32) (x2 : Int32) (x3 : Int32) (t0 : Int32) (fi : FI) (ar : AR) (H : Heap) (locs : List Loc) (ls : Array Slot), FX2_roomFor_43 K4 nf ln i0 x1 x2 x3 t0 fi ar = some (r, fi', ar') → lv_has ls 5 [(0, .ref (ad (11 + 5 * i0))), (1, .int x1), (2, .int x2), (3, .int x3)] → va_P (gD g) vwCl (WC g ad rd ln fi ar) H → va_S (AC ad rd s.heap.size) s.heap H locs → W p l e (headSpec (wx yX2_roomFor cX2_roomFor 5 (some .int)) ({ frames := 1, cells := 0, slots := 0, locals := 22 } : Room)).room s m ([.ref (ad (11 + 5 * i0)), .int p1] : List Value).toArray below meth c H locs 0 0 (MQ below (QCi g ad rd ln s.heap.size r fi' ar') ([.ref (ad (11 + 5 * i0)), .int p1] : List Value).toArray s 0 0 (AC ad rd s.heap.size)) (F0 m 43 ls [.int t0]) := by
        intro x1 x2 x3 t0 fi ar H locs ls hF hl hP hS
        unfold FX2_roomFor_43 at hF
        refine lv_istore (lv' := [(4, .int (t0)), (0, .ref (ad (11 + 5 * i0))), (1, .int (x1)), (2, .int (x2)), (3, .int (x3))]) hx hb dX2_roomFor_43 hl (by decide) rfl (fun ls hl => ?_)
        refine lv_iload hx hb dX2_roomFor_45 (lv_at hl 0 rfl) ?_
        refine lv_if_eq (tgt := 54) hx hb dX2_roomFor_47 (by decide) (fun hc3 => ?_) (fun hc3 => ?_)
        · replace hF := br_yes hF hc3
          refine lv_iload_n hx hb dX2_roomFor_54 rfl (lv_at hl 3 rfl) ?_
          refine lv_iconst (v := (1 : Int32)) hx hb dX2_roomFor_55 (by decide) ?_
          refine lv_iadd hx hb dX2_roomFor_56 ?_
          exact J57 (x1) (x3) ((x2) + (1 : Int32)) _ _ _ _ _ hF (lv_sub hl [1, 2, 4] rfl) hP hS
        · replace hF := br_no hF hc3
          refine lv_iconst (v := (0 : Int32)) hx hb dX2_roomFor_50 (by decide) ?_
          refine lv_goto (tgt := 57) hx hb dX2_roomFor_51 (by decide) ?_
          exact J57 (x1) (x3) (0 : Int32) _ _ _ _ _ hF (lv_sub hl [1, 2, 4] rfl) hP hS
      have J42 : ∀ (x1 : Int32) (x2 : Int32) (x3 : Int32) (fi : FI) (ar : AR) (H : Heap) (locs : List Loc) (ls : Array Slot), FX2_roomFor_42 K4 nf ln i0 x1 x2 x3 fi ar = some (r, fi', ar') → lv_has ls 5 [(0, .ref (ad (11 + 5 * i0))), (1, .int x1), (2, .int x2), (3, .int x3)] → va_P (gD g) vwCl (WC g ad rd ln fi ar) H → va_S (AC ad rd s.heap.size) s.heap H locs → W p l e (headSpec (wx yX2_roomFor cX2_roomFor 5 (some .int)) ({ frames := 1, cells := 0, slots := 0, locals := 22 } : Room)).room s m ([.ref (ad (11 + 5 * i0)), .int p1] : List Value).toArray below meth c H locs 0 0 (MQ below (QCi g ad rd ln s.heap.size r fi' ar') ([.ref (ad (11 + 5 * i0)), .int p1] : List Value).toArray s 0 0 (AC ad rd s.heap.size)) (F0 m 42 ls []) := by
        intro x1 x2 x3 fi ar H locs ls hF hl hP hS
        unfold FX2_roomFor_42 at hF
        refine lv_iconst (v := (0 : Int32)) hx hb dX2_roomFor_42 (by decide) ?_
        exact J43 (x1) (x2) (x3) (0 : Int32) _ _ _ _ _ hF (lv_sub hl [0, 1, 2, 3] rfl) hP hS
      unfold FX2_roomFor_4b at hF
      refine lv_iload_n hx hb dX2_roomFor_4 rfl (lv_at hl 3 rfl) ?_
      refine lv_aload_n hx hb dX2_roomFor_5 rfl (lv_at hl 0 rfl) ?_
      refine cg_X2_slots hi0 hx hb hT hown hK hP mw23_20 dX2_roomFor_6 ?_
      refine lv_icmp_ge (tgt := 75) hx hb dX2_roomFor_9 (by decide) (fun hc4 => ?_) (fun hc4 => ?_)
      · replace hF := br_yes hF hc4
        refine lv_aload_n hx hb dX2_roomFor_75 rfl (lv_at hl 0 rfl) ?_
        refine cg_X2_slots hi0 hx hb hT hown hK hP mw23_20 dX2_roomFor_76 ?_
        refine lv_iload_n hx hb dX2_roomFor_79 rfl (lv_at hl 2 rfl) ?_
        refine lv_isub hx hb dX2_roomFor_80 ?_
        exact rC_i hx hb hr hlocks hF hP hS dX2_roomFor_81
      · replace hF := br_no hF hc4
        refine lv_iload_n hx hb dX2_roomFor_12 rfl (lv_at hl 3 rfl) ?_
        refine lv_aload_n hx hb dX2_roomFor_13 rfl (lv_at hl 0 rfl) ?_
        refine cg_X2_looked hi0 hx hb hT hown hK hP mw23_21 dX2_roomFor_14 ?_
        refine lv_icmp_ge (tgt := 42) hx hb dX2_roomFor_17 (by decide) (fun hc5 => ?_) (fun hc5 => ?_)
        · replace hF := br_yes hF hc5
          exact J42 (x1) (x2) (x3) _ _ _ _ _ hF (lv_sub hl [0, 1, 2, 3] rfl) hP hS
        · replace hF := br_no hF hc5
          refine lv_aload_n hx hb dX2_roomFor_20 rfl (lv_at hl 0 rfl) ?_
          refine cg_X2_disk hi0 hx hb hT hown hK hP mw5_16 dX2_roomFor_21 ?_
          refine lv_aload_n hx hb dX2_roomFor_24 rfl (lv_at hl 0 rfl) ?_
          refine lv_iload_n hx hb dX2_roomFor_25 rfl (lv_at hl 3 rfl) ?_
          replace hF := obnd3_of hF
          obtain ⟨r9, fi7, ar8, h6, hF⟩ := hF
          refine cC_i (As := [.int (x3)]) (rest := [.ref (ad (1))]) hx hb hml hT hown hK hE hD hA hP hS (rcv_X2 hi0 hK hP) (kX2_slotAddress l g ad rd _ nf ln i0 hi0 fi ar (x3) r9 fi7 ar8 h6) cw_X2_slotAddress mw38_3 ⟨⟨rfl, rfl⟩, Nat.le_of_ble_eq_true rfl, Nat.le_of_ble_eq_true rfl⟩ rfl hl.1 rfl (Nat.le_of_ble_eq_true rfl) dX2_roomFor_26 ⟨Nat.zero_le _, Nat.zero_le _⟩ (fun H locs hP hS => ?_)
          replace hF := obnd3_of hF
          obtain ⟨r13, fi11, ar12, h10, hF⟩ := hF
          refine cC_i (As := [.int (r9)]) (rest := []) hx hb hml hT hown hK hE hD hA hP hS (rcv_X3 hK hP) (kX3_one l g ad rd _ nf ln fi7 ar8 (r9) r13 fi11 ar12 h10) cw_X3_one mw38_4 ⟨⟨rfl, rfl⟩, Nat.le_of_ble_eq_true rfl, Nat.le_of_ble_eq_true rfl⟩ rfl hl.1 rfl (Nat.le_of_ble_eq_true rfl) dX2_roomFor_29 ⟨Nat.zero_le _, Nat.zero_le _⟩ (fun H locs hP hS => ?_)
          refine lv_sipush (v := (229 : Int32)) hx hb dX2_roomFor_32 (by decide) ?_
          refine lv_icmp_eq (tgt := 42) hx hb dX2_roomFor_35 (by decide) (fun hc14 => ?_) (fun hc14 => ?_)
          · replace hF := br_yes hF hc14
            exact J42 (x1) (x2) (x3) _ _ _ _ _ hF (lv_sub hl [0, 1, 2, 3] rfl) hP hS
          · replace hF := br_no hF hc14
            refine lv_iconst (v := (1 : Int32)) hx hb dX2_roomFor_38 (by decide) ?_
            refine lv_goto (tgt := 43) hx hb dX2_roomFor_39 (by decide) ?_
            exact J43 (x1) (x2) (x3) (1 : Int32) _ _ _ _ _ hF (lv_sub hl [0, 1, 2, 3] rfl) hP hS
  replace hl := lv_sub hl [0, 1] rfl
  refine lv_iconst (v := (0 : Int32)) hx hb dX2_roomFor_0 (by decide) ?_
  refine lv_istore_n (lv' := [(2, .int (0 : Int32)), (0, .ref (ad (11 + 5 * i0))), (1, .int (p1))]) hx hb dX2_roomFor_1 rfl hl (by decide) rfl (fun ls hl => ?_)
  refine lv_iconst (v := (0 : Int32)) hx hb dX2_roomFor_2 (by decide) ?_
  refine lv_istore_n (lv' := [(3, .int (0 : Int32)), (2, .int (0 : Int32)), (0, .ref (ad (11 + 5 * i0))), (1, .int (p1))]) hx hb dX2_roomFor_3 rfl hl (by decide) rfl (fun ls hl => ?_)
  exact L4 nf (p1) (0 : Int32) (0 : Int32) _ _ _ _ _ hF (lv_sub hl [2, 3, 1, 0] rfl) hP hS
theorem cw_X2_roomFor : (Cond.instanceMethod yX2_roomFor ∈ TB ∧ Cond.selects RX2 yX2_roomFor yX2_roomFor ∈ TB ∧ Cond.code yX2_roomFor cX2_roomFor 5 (some .int) ∈ TB ∧ Cond.initialized RX2 ∈ TB) ∧ (yX2_roomFor.cls = RX2 ∧ yX2_roomFor.cls ≠ "java/lang/invoke/MethodHandle" ∧ yX2_roomFor.cls ≠ "java/lang/invoke/VarHandle" ∧ (parseMethodDescriptor yX2_roomFor.desc).map (fun d => d.parameters.length) = some 1) := ⟨⟨mw46_23, mw47_0, mw47_1, mw2_18⟩, by decide +kernel⟩
/-! X2_clustersMissing -/
noncomputable def FX2_clustersMissing_25 (nf : Nat) (ln : LN) (i0 : Nat) (t0 : Int32) (fi : FI) (ar : AR) : Option (Int32 × FI × AR) :=
  some ((t0), fi, ar)
noncomputable def FX2_clustersMissing (nf : Nat) (ln : LN) (i0 : Nat) (fi : FI) (ar : AR) (x1 : Int32) : Option (Int32 × FI × AR) :=
  bnd ((x1) - (fi (21 + 10 * i0))) fun x2_1 => br (0 < (x2_1)) (FX2_clustersMissing_25 nf ln i0  ((((x2_1) - (1 : Int32)) >>> ((fi (25 + 10 * i0)) &&& 31)) + (1 : Int32)) fi ar) (FX2_clustersMissing_25 nf ln i0  (0 : Int32) fi ar)
set_option maxHeartbeats 4000000 in
set_option maxRecDepth 100000 in
theorem kX2_clustersMissing (l : Launch) (g : GT) (ad rd : Nat → Nat) (sz : Nat) (nf : Nat) (ln : LN) (i0 : Nat) (hi0 : i0 < 3) (fi : FI) (ar : AR) (p1 : Int32) (r : Int32) (fi' : FI) (ar' : AR) (hF : FX2_clustersMissing nf ln i0 fi ar p1 = some (r, fi', ar')) : Met l yX2_clustersMissing (wx yX2_clustersMissing cX2_clustersMissing 3 (some .int)) ({ frames := 0, cells := 0, slots := 0, locals := 0 } : Room) (va_Pc [.ref (ad (11 + 5 * i0)), .int p1] (PC g ad rd ln sz fi ar)) (QCi g ad rd ln sz r fi' ar') 0 0 (AC ad rd sz) := by
  refine Met.ofW (cc := cX2_clustersMissing) (maxL := 3) (ret := (some .int)) (by decide) rfl ?_
  intro p e s m args below meth c s₁ B hml hv
  obtain ⟨rfl, hsz, hP, hK, hD0, hE⟩ := hv
  have hx := B.exec
  have hb := B.bytes
  have hr := B.returns
  have hts := atoms_spec (ws := (wx yX2_clustersMissing cX2_clustersMissing 3 (some .int))) B.pre
  have hT : ∀ w ∈ TB, w.before _ s = true := fun w h => hts w (List.mem_cons_of_mem _ h)
  have hown : s.vm.findClass RX2 = some m.cls := findClass_of_methodNamed B.named
  have hlocks := B.notSynchronized
  subst hsz
  have hD := dC hD0 s.heap.size
  have hA : ∀ q : Nat, s.heap.size ≤ q → AC ad rd s.heap.size q := fun q h => Or.inr h
  have hS : va_S (AC ad rd s.heap.size) s.heap s.heap [] := va_S.rf
  have hl := lv_entry ([.ref (ad (11 + 5 * i0)), .int p1]) (n := 3) (Nat.le_of_ble_eq_true rfl)
  rw [lg_entry_eq]
  generalize (lg_sl ([.ref (ad (11 + 5 * i0)), .int p1]) ++ List.replicate (3 - (lg_sl ([.ref (ad (11 + 5 * i0)), .int p1])).length) Slot.unset).toArray = ls at hl ⊢
  have hl : lv_has ls 3 [(0, .ref (ad (11 + 5 * i0))), (1, .int p1)] := hl
  unfold FX2_clustersMissing at hF
  have J25 : ∀ (t0 : Int32) (fi : FI) (ar : AR) (H : Heap) (locs : List Loc) (ls : Array Slot), FX2_clustersMissing_25 nf ln i0 t0 fi ar = some (r, fi', ar') → lv_has ls 3 [(0, .ref (ad (11 + 5 * i0)))] → va_P (gD g) vwCl (WC g ad rd ln fi ar) H → va_S (AC ad rd s.heap.size) s.heap H locs → W p l e (headSpec (wx yX2_clustersMissing cX2_clustersMissing 3 (some .int)) ({ frames := 0, cells := 0, slots := 0, locals := 0 } : Room)).room s m ([.ref (ad (11 + 5 * i0)), .int p1] : List Value).toArray below meth c H locs 0 0 (MQ below (QCi g ad rd ln s.heap.size r fi' ar') ([.ref (ad (11 + 5 * i0)), .int p1] : List Value).toArray s 0 0 (AC ad rd s.heap.size)) (F0 m 25 ls [.int t0]) := by
    intro t0 fi ar H locs ls hF hl hP hS
    unfold FX2_clustersMissing_25 at hF
    exact rC_i hx hb hr hlocks hF hP hS dX2_clustersMissing_25
  replace hl := lv_sub hl [0, 1] rfl
  refine lv_iload_n hx hb dX2_clustersMissing_0 rfl (lv_at hl 1 rfl) ?_
  refine lv_aload_n hx hb dX2_clustersMissing_1 rfl (lv_at hl 0 rfl) ?_
  refine cg_X2_slots hi0 hx hb hT hown hK hP mw23_20 dX2_clustersMissing_2 ?_
  refine lv_isub hx hb dX2_clustersMissing_5 ?_
  obtain ⟨x2_1, ex2_1⟩ : ∃ y : Int32, y = ((p1) - (fi (21 + 10 * i0))) := ⟨_, rfl⟩
  rw [← ex2_1]
  replace hF := bnd_of hF ex2_1
  refine lv_istore_n (lv' := [(2, .int (x2_1)), (0, .ref (ad (11 + 5 * i0))), (1, .int (p1))]) hx hb dX2_clustersMissing_6 rfl hl (by decide) rfl (fun ls hl => ?_)
  refine lv_iload_n hx hb dX2_clustersMissing_7 rfl (lv_at hl 0 rfl) ?_
  refine lv_if_gt (tgt := 15) hx hb dX2_clustersMissing_8 (by decide) (fun hc2 => ?_) (fun hc2 => ?_)
  · replace hF := br_yes hF hc2
    refine lv_iload_n hx hb dX2_clustersMissing_15 rfl (lv_at hl 0 rfl) ?_
    refine lv_iconst (v := (1 : Int32)) hx hb dX2_clustersMissing_16 (by decide) ?_
    refine lv_isub hx hb dX2_clustersMissing_17 ?_
    refine lv_aload_n hx hb dX2_clustersMissing_18 rfl (lv_at hl 1 rfl) ?_
    refine cg_X2_slotShift hi0 hx hb hT hown hK hP mw23_19 dX2_clustersMissing_19 ?_
    refine lv_ishr hx hb dX2_clustersMissing_22 ?_
    refine lv_iconst (v := (1 : Int32)) hx hb dX2_clustersMissing_23 (by decide) ?_
    refine lv_iadd hx hb dX2_clustersMissing_24 ?_
    exact J25 ((((x2_1) - (1 : Int32)) >>> ((fi (25 + 10 * i0)) &&& 31)) + (1 : Int32)) _ _ _ _ _ hF (lv_sub hl [1] rfl) hP hS
  · replace hF := br_no hF hc2
    refine lv_iconst (v := (0 : Int32)) hx hb dX2_clustersMissing_11 (by decide) ?_
    refine lv_goto (tgt := 25) hx hb dX2_clustersMissing_12 (by decide) ?_
    exact J25 (0 : Int32) _ _ _ _ _ hF (lv_sub hl [1] rfl) hP hS
theorem cw_X2_clustersMissing : (Cond.instanceMethod yX2_clustersMissing ∈ TB ∧ Cond.selects RX2 yX2_clustersMissing yX2_clustersMissing ∈ TB ∧ Cond.code yX2_clustersMissing cX2_clustersMissing 3 (some .int) ∈ TB ∧ Cond.initialized RX2 ∈ TB) ∧ (yX2_clustersMissing.cls = RX2 ∧ yX2_clustersMissing.cls ≠ "java/lang/invoke/MethodHandle" ∧ yX2_clustersMissing.cls ≠ "java/lang/invoke/VarHandle" ∧ (parseMethodDescriptor yX2_clustersMissing.desc).map (fun d => d.parameters.length) = some 1) := ⟨⟨mw47_3, mw47_4, mw47_5, mw2_18⟩, by decide +kernel⟩
/-! X3_putOne -/
noncomputable def FX3_putOne_54 (nf : Nat) (ln : LN)  (fi : FI) (ar : AR) : Option (Unit × FI × AR) :=
  some ((), fi, ar)
noncomputable def FX3_putOne (nf : Nat) (ln : LN) (fi : FI) (ar : AR) (x1 : Int32) (x2 : Int32) : Option (Unit × FI × AR) :=
  bnd ((x1) >>> ((2 : Int32) &&& 31)) fun x3_1 => br ((x3_1) < 0) (FX3_putOne_54 nf ln  fi ar) (br ((Int32.ofNat (ln (0))) ≤ (x3_1)) (FX3_putOne_54 nf ln  fi ar) (bnd (((x1) &&& (3 : Int32)) <<< ((3 : Int32) &&& 31)) fun x4_4 => gd (¬ ((x3_1) < 0 ∨ ln (0) ≤ (x3_1).toNatClampNeg)) (gd (¬ ((x3_1) < 0 ∨ ln (0) ≤ (x3_1).toNatClampNeg)) (bnd (va_up ar (0) (upd (ar (0)) (x3_1).toNatClampNeg (((ar (0) (x3_1).toNatClampNeg) &&& (((255 : Int32) <<< ((x4_4) &&& 31)) ^^^ (-1 : Int32))) ||| (((x2) &&& (255 : Int32)) <<< ((x4_4) &&& 31))))) fun ar7 => FX3_putOne_54 nf ln  fi ar7))))
set_option maxHeartbeats 4000000 in
set_option maxRecDepth 100000 in
theorem kX3_putOne (l : Launch) (g : GT) (ad rd : Nat → Nat) (sz : Nat) (nf : Nat) (ln : LN) (fi : FI) (ar : AR) (p1 : Int32) (p2 : Int32) (r : Unit) (fi' : FI) (ar' : AR) (hF : FX3_putOne nf ln fi ar p1 p2 = some (r, fi', ar')) : Met l yX3_putOne (wx yX3_putOne cX3_putOne 5 none) ({ frames := 0, cells := 0, slots := 0, locals := 0 } : Room) (va_Pc [.ref (ad (1)), .int p1, .int p2] (PC g ad rd ln sz fi ar)) (QCv g ad rd ln sz r fi' ar') 0 0 (AC ad rd sz) := by
  refine Met.ofW (cc := cX3_putOne) (maxL := 5) (ret := none) (by decide) rfl ?_
  intro p e s m args below meth c s₁ B hml hv
  obtain ⟨rfl, hsz, hP, hK, hD0, hE⟩ := hv
  have hx := B.exec
  have hb := B.bytes
  have hr := B.returns
  have hts := atoms_spec (ws := (wx yX3_putOne cX3_putOne 5 none)) B.pre
  have hT : ∀ w ∈ TB, w.before _ s = true := fun w h => hts w (List.mem_cons_of_mem _ h)
  have hown : s.vm.findClass RX3 = some m.cls := findClass_of_methodNamed B.named
  have hlocks := B.notSynchronized
  subst hsz
  have hD := dC hD0 s.heap.size
  have hA : ∀ q : Nat, s.heap.size ≤ q → AC ad rd s.heap.size q := fun q h => Or.inr h
  have hS : va_S (AC ad rd s.heap.size) s.heap s.heap [] := va_S.rf
  have hl := lv_entry ([.ref (ad (1)), .int p1, .int p2]) (n := 5) (Nat.le_of_ble_eq_true rfl)
  rw [lg_entry_eq]
  generalize (lg_sl ([.ref (ad (1)), .int p1, .int p2]) ++ List.replicate (5 - (lg_sl ([.ref (ad (1)), .int p1, .int p2])).length) Slot.unset).toArray = ls at hl ⊢
  have hl : lv_has ls 5 [(0, .ref (ad (1))), (1, .int p1), (2, .int p2)] := hl
  unfold FX3_putOne at hF
  have J54 : ∀  (fi : FI) (ar : AR) (H : Heap) (locs : List Loc) (ls : Array Slot), FX3_putOne_54 nf ln fi ar = some (r, fi', ar') → lv_has ls 5 [(0, .ref (ad (1)))] → va_P (gD g) vwCl (WC g ad rd ln fi ar) H → va_S (AC ad rd s.heap.size) s.heap H locs → W p l e (headSpec (wx yX3_putOne cX3_putOne 5 none) ({ frames := 0, cells := 0, slots := 0, locals := 0 } : Room)).room s m ([.ref (ad (1)), .int p1, .int p2] : List Value).toArray below meth c H locs 0 0 (MQ below (QCv g ad rd ln s.heap.size r fi' ar') ([.ref (ad (1)), .int p1, .int p2] : List Value).toArray s 0 0 (AC ad rd s.heap.size)) (F0 m 54 ls []) := by
    intro fi ar H locs ls hF hl hP hS
    unfold FX3_putOne_54 at hF
    exact rC_v hx hb hr hlocks hF hP hS dX3_putOne_54
  replace hl := lv_sub hl [0, 1, 2] rfl
  refine lv_iload_n hx hb dX3_putOne_0 rfl (lv_at hl 1 rfl) ?_
  refine lv_iconst (v := (2 : Int32)) hx hb dX3_putOne_1 (by decide) ?_
  refine lv_ishr hx hb dX3_putOne_2 ?_
  obtain ⟨x3_1, ex3_1⟩ : ∃ y : Int32, y = ((p1) >>> ((2 : Int32) &&& 31)) := ⟨_, rfl⟩
  rw [← ex3_1]
  replace hF := bnd_of hF ex3_1
  refine lv_istore_n (lv' := [(3, .int (x3_1)), (0, .ref (ad (1))), (1, .int (p1)), (2, .int (p2))]) hx hb dX3_putOne_3 rfl hl (by decide) rfl (fun ls hl => ?_)
  refine lv_iload_n hx hb dX3_putOne_4 rfl (lv_at hl 0 rfl) ?_
  refine lv_if_lt (tgt := 54) hx hb dX3_putOne_5 (by decide) (fun hc2 => ?_) (fun hc2 => ?_)
  · replace hF := br_yes hF hc2
    exact J54  _ _ _ _ _ hF (lv_sub hl [1] rfl) hP hS
  · replace hF := br_no hF hc2
    refine lv_iload_n hx hb dX3_putOne_8 rfl (lv_at hl 0 rfl) ?_
    refine lv_aload_n hx hb dX3_putOne_9 rfl (lv_at hl 1 rfl) ?_
    refine cg_X3_words hx hb hT hown hK hP mw3_14 dX3_putOne_10 ?_
    refine ca_words hx hb hK hP dX3_putOne_13 ?_
    refine lv_icmp_ge (tgt := 54) hx hb dX3_putOne_14 (by decide) (fun hc3 => ?_) (fun hc3 => ?_)
    · replace hF := br_yes hF hc3
      exact J54  _ _ _ _ _ hF (lv_sub hl [1] rfl) hP hS
    · replace hF := br_no hF hc3
      refine lv_iload_n hx hb dX3_putOne_17 rfl (lv_at hl 2 rfl) ?_
      refine lv_iconst (v := (3 : Int32)) hx hb dX3_putOne_18 (by decide) ?_
      refine lv_iand hx hb dX3_putOne_19 ?_
      refine lv_iconst (v := (3 : Int32)) hx hb dX3_putOne_20 (by decide) ?_
      refine lv_ishl hx hb dX3_putOne_21 ?_
      obtain ⟨x4_4, ex4_4⟩ : ∃ y : Int32, y = (((p1) &&& (3 : Int32)) <<< ((3 : Int32) &&& 31)) := ⟨_, rfl⟩
      rw [← ex4_4]
      replace hF := bnd_of hF ex4_4
      refine lv_istore (lv' := [(4, .int (x4_4)), (3, .int (x3_1)), (0, .ref (ad (1))), (1, .int (p1)), (2, .int (p2))]) hx hb dX3_putOne_22 hl (by decide) rfl (fun ls hl => ?_)
      refine lv_aload_n hx hb dX3_putOne_24 rfl (lv_at hl 2 rfl) ?_
      refine cg_X3_words hx hb hT hown hK hP mw3_14 dX3_putOne_25 ?_
      refine lv_iload_n hx hb dX3_putOne_28 rfl (lv_at hl 1 rfl) ?_
      refine lv_aload_n hx hb dX3_putOne_29 rfl (lv_at hl 2 rfl) ?_
      refine cg_X3_words hx hb hT hown hK hP mw3_14 dX3_putOne_30 ?_
      refine lv_iload_n hx hb dX3_putOne_33 rfl (lv_at hl 1 rfl) ?_
      replace hF := gd_of hF
      obtain ⟨hi5, hF⟩ := hF
      refine cl_words hx hb hK hP hi5 dX3_putOne_34 ?_
      refine lv_sipush (v := (255 : Int32)) hx hb dX3_putOne_35 (by decide) ?_
      refine lv_iload hx hb dX3_putOne_38 (lv_at hl 0 rfl) ?_
      refine lv_ishl hx hb dX3_putOne_40 ?_
      refine lv_iconst (v := (-1 : Int32)) hx hb dX3_putOne_41 (by decide) ?_
      refine lv_ixor hx hb dX3_putOne_42 ?_
      refine lv_iand hx hb dX3_putOne_43 ?_
      refine lv_iload_n hx hb dX3_putOne_44 rfl (lv_at hl 4 rfl) ?_
      refine lv_sipush (v := (255 : Int32)) hx hb dX3_putOne_45 (by decide) ?_
      refine lv_iand hx hb dX3_putOne_48 ?_
      refine lv_iload hx hb dX3_putOne_49 (lv_at hl 0 rfl) ?_
      refine lv_ishl hx hb dX3_putOne_51 ?_
      refine lv_ior hx hb dX3_putOne_52 ?_
      replace hF := gd_of hF
      obtain ⟨hi6, hF⟩ := hF
      obtain ⟨ar7, ear7⟩ : ∃ y : AR, y = va_up ar (0) (upd (ar (0)) (x3_1).toNatClampNeg (((ar (0) (x3_1).toNatClampNeg) &&& (((255 : Int32) <<< ((x4_4) &&& 31)) ^^^ (-1 : Int32))) ||| (((p2) &&& (255 : Int32)) <<< ((x4_4) &&& 31)))) := ⟨_, rfl⟩
      replace hF := bnd_of hF ear7
      refine cs_words hx hb hK hP hD hS hi6 dX3_putOne_53 (fun H locs hP hS => ?_)
      rw [← ear7] at hP
      exact J54  _ _ _ _ _ hF (lv_sub hl [2] rfl) hP hS
theorem cw_X3_putOne : (Cond.instanceMethod yX3_putOne ∈ TB ∧ Cond.selects RX3 yX3_putOne yX3_putOne ∈ TB ∧ Cond.code yX3_putOne cX3_putOne 5 none ∈ TB ∧ Cond.initialized RX3 ∈ TB) ∧ (yX3_putOne.cls = RX3 ∧ yX3_putOne.cls ≠ "java/lang/invoke/MethodHandle" ∧ yX3_putOne.cls ≠ "java/lang/invoke/VarHandle" ∧ (parseMethodDescriptor yX3_putOne.desc).map (fun d => d.parameters.length) = some 2) := ⟨⟨mw14_20, mw14_21, mw14_22, mw2_2⟩, by decide +kernel⟩
/-! X3_putTwo -/
noncomputable def FX3_putTwo (nf : Nat) (ln : LN) (fi : FI) (ar : AR) (x1 : Int32) (x2 : Int32) : Option (Unit × FI × AR) :=
  obnd3 (FX3_putOne nf ln fi ar (x1) (x2)) fun r4 fi2 ar3 => obnd3 (FX3_putOne nf ln fi2 ar3 ((x1) + (1 : Int32)) ((x2) >>> ((8 : Int32) &&& 31))) fun r8 fi6 ar7 => some ((), fi6, ar7)
set_option maxHeartbeats 4000000 in
set_option maxRecDepth 100000 in
theorem kX3_putTwo (l : Launch) (g : GT) (ad rd : Nat → Nat) (sz : Nat) (nf : Nat) (ln : LN) (fi : FI) (ar : AR) (p1 : Int32) (p2 : Int32) (r : Unit) (fi' : FI) (ar' : AR) (hF : FX3_putTwo nf ln fi ar p1 p2 = some (r, fi', ar')) : Met l yX3_putTwo (wx yX3_putTwo cX3_putTwo 3 none) ({ frames := 1, cells := 0, slots := 0, locals := 24 } : Room) (va_Pc [.ref (ad (1)), .int p1, .int p2] (PC g ad rd ln sz fi ar)) (QCv g ad rd ln sz r fi' ar') 0 0 (AC ad rd sz) := by
  refine Met.ofW (cc := cX3_putTwo) (maxL := 3) (ret := none) (by decide) rfl ?_
  intro p e s m args below meth c s₁ B hml hv
  obtain ⟨rfl, hsz, hP, hK, hD0, hE⟩ := hv
  have hx := B.exec
  have hb := B.bytes
  have hr := B.returns
  have hts := atoms_spec (ws := (wx yX3_putTwo cX3_putTwo 3 none)) B.pre
  have hT : ∀ w ∈ TB, w.before _ s = true := fun w h => hts w (List.mem_cons_of_mem _ h)
  have hown : s.vm.findClass RX3 = some m.cls := findClass_of_methodNamed B.named
  have hlocks := B.notSynchronized
  subst hsz
  have hD := dC hD0 s.heap.size
  have hA : ∀ q : Nat, s.heap.size ≤ q → AC ad rd s.heap.size q := fun q h => Or.inr h
  have hS : va_S (AC ad rd s.heap.size) s.heap s.heap [] := va_S.rf
  have hl := lv_entry ([.ref (ad (1)), .int p1, .int p2]) (n := 3) (Nat.le_of_ble_eq_true rfl)
  rw [lg_entry_eq]
  generalize (lg_sl ([.ref (ad (1)), .int p1, .int p2]) ++ List.replicate (3 - (lg_sl ([.ref (ad (1)), .int p1, .int p2])).length) Slot.unset).toArray = ls at hl ⊢
  have hl : lv_has ls 3 [(0, .ref (ad (1))), (1, .int p1), (2, .int p2)] := hl
  unfold FX3_putTwo at hF
  replace hl := lv_sub hl [0, 1, 2] rfl
  refine lv_aload_n hx hb dX3_putTwo_0 rfl (lv_at hl 0 rfl) ?_
  refine lv_iload_n hx hb dX3_putTwo_1 rfl (lv_at hl 1 rfl) ?_
  refine lv_iload_n hx hb dX3_putTwo_2 rfl (lv_at hl 2 rfl) ?_
  replace hF := obnd3_of hF
  obtain ⟨r4, fi2, ar3, h1, hF⟩ := hF
  refine cC_v (As := [.int (p1), .int (p2)]) (rest := []) hx hb hml hT hown hK hE hD hA hP hS (rcv_X3 hK hP) (kX3_putOne l g ad rd _ nf ln fi ar (p1) (p2) r4 fi2 ar3 h1) cw_X3_putOne mw14_19 ⟨⟨rfl, rfl⟩, Nat.le_of_ble_eq_true rfl, Nat.le_of_ble_eq_true rfl⟩ rfl hl.1 rfl (Nat.le_of_ble_eq_true rfl) dX3_putTwo_3 ⟨Nat.zero_le _, Nat.zero_le _⟩ (fun H locs hP hS => ?_)
  refine lv_aload_n hx hb dX3_putTwo_6 rfl (lv_at hl 0 rfl) ?_
  refine lv_iload_n hx hb dX3_putTwo_7 rfl (lv_at hl 1 rfl) ?_
  refine lv_iconst (v := (1 : Int32)) hx hb dX3_putTwo_8 (by decide) ?_
  refine lv_iadd hx hb dX3_putTwo_9 ?_
  refine lv_iload_n hx hb dX3_putTwo_10 rfl (lv_at hl 2 rfl) ?_
  refine lv_bipush (v := (8 : Int32)) hx hb dX3_putTwo_11 (by decide) ?_
  refine lv_ishr hx hb dX3_putTwo_13 ?_
  replace hF := obnd3_of hF
  obtain ⟨r8, fi6, ar7, h5, hF⟩ := hF
  refine cC_v (As := [.int ((p1) + (1 : Int32)), .int ((p2) >>> ((8 : Int32) &&& 31))]) (rest := []) hx hb hml hT hown hK hE hD hA hP hS (rcv_X3 hK hP) (kX3_putOne l g ad rd _ nf ln fi2 ar3 ((p1) + (1 : Int32)) ((p2) >>> ((8 : Int32) &&& 31)) r8 fi6 ar7 h5) cw_X3_putOne mw14_19 ⟨⟨rfl, rfl⟩, Nat.le_of_ble_eq_true rfl, Nat.le_of_ble_eq_true rfl⟩ rfl hl.1 rfl (Nat.le_of_ble_eq_true rfl) dX3_putTwo_14 ⟨Nat.zero_le _, Nat.zero_le _⟩ (fun H locs hP hS => ?_)
  exact rC_v hx hb hr hlocks hF hP hS dX3_putTwo_17
theorem cw_X3_putTwo : (Cond.instanceMethod yX3_putTwo ∈ TB ∧ Cond.selects RX3 yX3_putTwo yX3_putTwo ∈ TB ∧ Cond.code yX3_putTwo cX3_putTwo 3 none ∈ TB ∧ Cond.initialized RX3 ∈ TB) ∧ (yX3_putTwo.cls = RX3 ∧ yX3_putTwo.cls ≠ "java/lang/invoke/MethodHandle" ∧ yX3_putTwo.cls ≠ "java/lang/invoke/VarHandle" ∧ (parseMethodDescriptor yX3_putTwo.desc).map (fun d => d.parameters.length) = some 2) := ⟨⟨mw15_0, mw15_1, mw15_2, mw2_2⟩, by decide +kernel⟩
/-! X3_putFour -/
noncomputable def FX3_putFour (nf : Nat) (ln : LN) (fi : FI) (ar : AR) (x1 : Int32) (x2 : Int32) : Option (Unit × FI × AR) :=
  obnd3 (FX3_putTwo nf ln fi ar (x1) (x2)) fun r4 fi2 ar3 => obnd3 (FX3_putTwo nf ln fi2 ar3 ((x1) + (2 : Int32)) ((x2) >>> ((16 : Int32) &&& 31))) fun r8 fi6 ar7 => some ((), fi6, ar7)
set_option maxHeartbeats 4000000 in
set_option maxRecDepth 100000 in
theorem kX3_putFour (l : Launch) (g : GT) (ad rd : Nat → Nat) (sz : Nat) (nf : Nat) (ln : LN) (fi : FI) (ar : AR) (p1 : Int32) (p2 : Int32) (r : Unit) (fi' : FI) (ar' : AR) (hF : FX3_putFour nf ln fi ar p1 p2 = some (r, fi', ar')) : Met l yX3_putFour (wx yX3_putFour cX3_putFour 3 none) ({ frames := 2, cells := 0, slots := 0, locals := 46 } : Room) (va_Pc [.ref (ad (1)), .int p1, .int p2] (PC g ad rd ln sz fi ar)) (QCv g ad rd ln sz r fi' ar') 0 0 (AC ad rd sz) := by
  refine Met.ofW (cc := cX3_putFour) (maxL := 3) (ret := none) (by decide) rfl ?_
  intro p e s m args below meth c s₁ B hml hv
  obtain ⟨rfl, hsz, hP, hK, hD0, hE⟩ := hv
  have hx := B.exec
  have hb := B.bytes
  have hr := B.returns
  have hts := atoms_spec (ws := (wx yX3_putFour cX3_putFour 3 none)) B.pre
  have hT : ∀ w ∈ TB, w.before _ s = true := fun w h => hts w (List.mem_cons_of_mem _ h)
  have hown : s.vm.findClass RX3 = some m.cls := findClass_of_methodNamed B.named
  have hlocks := B.notSynchronized
  subst hsz
  have hD := dC hD0 s.heap.size
  have hA : ∀ q : Nat, s.heap.size ≤ q → AC ad rd s.heap.size q := fun q h => Or.inr h
  have hS : va_S (AC ad rd s.heap.size) s.heap s.heap [] := va_S.rf
  have hl := lv_entry ([.ref (ad (1)), .int p1, .int p2]) (n := 3) (Nat.le_of_ble_eq_true rfl)
  rw [lg_entry_eq]
  generalize (lg_sl ([.ref (ad (1)), .int p1, .int p2]) ++ List.replicate (3 - (lg_sl ([.ref (ad (1)), .int p1, .int p2])).length) Slot.unset).toArray = ls at hl ⊢
  have hl : lv_has ls 3 [(0, .ref (ad (1))), (1, .int p1), (2, .int p2)] := hl
  unfold FX3_putFour at hF
  replace hl := lv_sub hl [0, 1, 2] rfl
  refine lv_aload_n hx hb dX3_putFour_0 rfl (lv_at hl 0 rfl) ?_
  refine lv_iload_n hx hb dX3_putFour_1 rfl (lv_at hl 1 rfl) ?_
  refine lv_iload_n hx hb dX3_putFour_2 rfl (lv_at hl 2 rfl) ?_
  replace hF := obnd3_of hF
  obtain ⟨r4, fi2, ar3, h1, hF⟩ := hF
  refine cC_v (As := [.int (p1), .int (p2)]) (rest := []) hx hb hml hT hown hK hE hD hA hP hS (rcv_X3 hK hP) (kX3_putTwo l g ad rd _ nf ln fi ar (p1) (p2) r4 fi2 ar3 h1) cw_X3_putTwo mw15_8 ⟨⟨rfl, rfl⟩, Nat.le_of_ble_eq_true rfl, Nat.le_of_ble_eq_true rfl⟩ rfl hl.1 rfl (Nat.le_of_ble_eq_true rfl) dX3_putFour_3 ⟨Nat.zero_le _, Nat.zero_le _⟩ (fun H locs hP hS => ?_)
  refine lv_aload_n hx hb dX3_putFour_6 rfl (lv_at hl 0 rfl) ?_
  refine lv_iload_n hx hb dX3_putFour_7 rfl (lv_at hl 1 rfl) ?_
  refine lv_iconst (v := (2 : Int32)) hx hb dX3_putFour_8 (by decide) ?_
  refine lv_iadd hx hb dX3_putFour_9 ?_
  refine lv_iload_n hx hb dX3_putFour_10 rfl (lv_at hl 2 rfl) ?_
  refine lv_bipush (v := (16 : Int32)) hx hb dX3_putFour_11 (by decide) ?_
  refine lv_ishr hx hb dX3_putFour_13 ?_
  replace hF := obnd3_of hF
  obtain ⟨r8, fi6, ar7, h5, hF⟩ := hF
  refine cC_v (As := [.int ((p1) + (2 : Int32)), .int ((p2) >>> ((16 : Int32) &&& 31))]) (rest := []) hx hb hml hT hown hK hE hD hA hP hS (rcv_X3 hK hP) (kX3_putTwo l g ad rd _ nf ln fi2 ar3 ((p1) + (2 : Int32)) ((p2) >>> ((16 : Int32) &&& 31)) r8 fi6 ar7 h5) cw_X3_putTwo mw15_8 ⟨⟨rfl, rfl⟩, Nat.le_of_ble_eq_true rfl, Nat.le_of_ble_eq_true rfl⟩ rfl hl.1 rfl (Nat.le_of_ble_eq_true rfl) dX3_putFour_14 ⟨Nat.zero_le _, Nat.zero_le _⟩ (fun H locs hP hS => ?_)
  exact rC_v hx hb hr hlocks hF hP hS dX3_putFour_17
theorem cw_X3_putFour : (Cond.instanceMethod yX3_putFour ∈ TB ∧ Cond.selects RX3 yX3_putFour yX3_putFour ∈ TB ∧ Cond.code yX3_putFour cX3_putFour 3 none ∈ TB ∧ Cond.initialized RX3 ∈ TB) ∧ (yX3_putFour.cls = RX3 ∧ yX3_putFour.cls ≠ "java/lang/invoke/MethodHandle" ∧ yX3_putFour.cls ≠ "java/lang/invoke/VarHandle" ∧ (parseMethodDescriptor yX3_putFour.desc).map (fun d => d.parameters.length) = some 2) := ⟨⟨mw15_5, mw15_6, mw15_7, mw2_2⟩, by decide +kernel⟩
/-! X9_link -/
noncomputable def FX9_link_2b (K2 : Int32 → Int32 → Int32 → FI → AR → Option (Unit × FI × AR)) (nf : Nat) (ln : LN) (x1 : Int32) (x2 : Int32) (x3 : Int32) (fi : FI) (ar : AR) : Option (Unit × FI × AR) :=
  br ((fi (8)) ≤ (x3)) (some ((), fi, ar)) (bnd ((((fi (7)) + ((x3) * (fi (9)))) * (512 : Int32)) + ((4 : Int32) * (x1))) fun x4_2 => obnd3 (FX3_four nf ln fi ar (x4_2)) fun r6 fi4 ar5 => obnd3 (FX3_putFour nf ln fi4 ar5 (x4_2) (((r6) &&& (-268435456 : Int32)) ||| (x2))) fun r10 fi8 ar9 => bnd ((x3) + (1 : Int32)) fun x3_11 => K2 (x1) (x2) (x3_11) fi8 ar9)
noncomputable def FX9_link_2 (nf : Nat) (ln : LN) (kf : Nat) : Int32 → Int32 → Int32 → FI → AR → Option (Unit × FI × AR) := Nat.rec (fun _ _ _ _ _ => none) (fun _ K2 => FX9_link_2b K2 nf ln) kf
noncomputable def FX9_link (nf : Nat) (ln : LN) (fi : FI) (ar : AR) (x1 : Int32) (x2 : Int32) : Option (Unit × FI × AR) :=
  FX9_link_2 nf ln nf (x1) (x2) (0 : Int32) fi ar
set_option maxHeartbeats 4000000 in
set_option maxRecDepth 100000 in
theorem kX9_link (l : Launch) (g : GT) (ad rd : Nat → Nat) (sz : Nat) (nf : Nat) (ln : LN) (fi : FI) (ar : AR) (p1 : Int32) (p2 : Int32) (r : Unit) (fi' : FI) (ar' : AR) (hF : FX9_link nf ln fi ar p1 p2 = some (r, fi', ar')) : Met l yX9_link (wx yX9_link cX9_link 5 none) ({ frames := 3, cells := 0, slots := 0, locals := 68 } : Room) (va_Pc [.ref (ad (6)), .int p1, .int p2] (PC g ad rd ln sz fi ar)) (QCv g ad rd ln sz r fi' ar') 0 0 (AC ad rd sz) := by
  refine Met.ofW (cc := cX9_link) (maxL := 5) (ret := none) (by decide) rfl ?_
  intro p e s m args below meth c s₁ B hml hv
  obtain ⟨rfl, hsz, hP, hK, hD0, hE⟩ := hv
  have hx := B.exec
  have hb := B.bytes
  have hr := B.returns
  have hts := atoms_spec (ws := (wx yX9_link cX9_link 5 none)) B.pre
  have hT : ∀ w ∈ TB, w.before _ s = true := fun w h => hts w (List.mem_cons_of_mem _ h)
  have hown : s.vm.findClass RX9 = some m.cls := findClass_of_methodNamed B.named
  have hlocks := B.notSynchronized
  subst hsz
  have hD := dC hD0 s.heap.size
  have hA : ∀ q : Nat, s.heap.size ≤ q → AC ad rd s.heap.size q := fun q h => Or.inr h
  have hS : va_S (AC ad rd s.heap.size) s.heap s.heap [] := va_S.rf
  have hl := lv_entry ([.ref (ad (6)), .int p1, .int p2]) (n := 5) (Nat.le_of_ble_eq_true rfl)
  rw [lg_entry_eq]
  generalize (lg_sl ([.ref (ad (6)), .int p1, .int p2]) ++ List.replicate (5 - (lg_sl ([.ref (ad (6)), .int p1, .int p2])).length) Slot.unset).toArray = ls at hl ⊢
  have hl : lv_has ls 5 [(0, .ref (ad (6))), (1, .int p1), (2, .int p2)] := hl
  unfold FX9_link at hF
  have L2 : ∀ kf : Nat, ∀ (x1 : Int32) (x2 : Int32) (x3 : Int32) (fi : FI) (ar : AR) (H : Heap) (locs : List Loc) (ls : Array Slot), FX9_link_2 nf ln kf x1 x2 x3 fi ar = some (r, fi', ar') → lv_has ls 5 [(0, .ref (ad (6))), (1, .int x1), (2, .int x2), (3, .int x3)] → va_P (gD g) vwCl (WC g ad rd ln fi ar) H → va_S (AC ad rd s.heap.size) s.heap H locs → W p l e (headSpec (wx yX9_link cX9_link 5 none) ({ frames := 3, cells := 0, slots := 0, locals := 68 } : Room)).room s m ([.ref (ad (6)), .int p1, .int p2] : List Value).toArray below meth c H locs 0 0 (MQ below (QCv g ad rd ln s.heap.size r fi' ar') ([.ref (ad (6)), .int p1, .int p2] : List Value).toArray s 0 0 (AC ad rd s.heap.size)) (F0 m 2 ls []) := by
    intro kf
    induction kf with
    | zero => intro x1 x2 x3 fi ar H locs ls hF hl hP hS; cases (show (none : Option (Unit × FI × AR)) = _ from hF)
    | succ kf ih2 =>
      intro x1 x2 x3 fi ar H locs ls hF hl hP hS
      obtain ⟨K2, hK2⟩ : ∃ K : Int32 → Int32 → Int32 → FI → AR → Option (Unit × FI × AR), K = FX9_link_2 nf ln kf := ⟨_, rfl⟩
      replace hF : FX9_link_2b K2 nf ln x1 x2 x3 fi ar = some (r, fi', ar') := by rw [hK2]; exact hF
      rw [← hK2] at ih2
      clear hK2
      unfold FX9_link_2b at hF
      refine lv_iload_n hx hb dX9_link_2 rfl (lv_at hl 3 rfl) ?_
      refine lv_aload_n hx hb dX9_link_3 rfl (lv_at hl 0 rfl) ?_
      refine cg_X9_tables hx hb hT hown hK hP mw15_22 dX9_link_4 ?_
      refine lv_icmp_ge (tgt := 60) hx hb dX9_link_7 (by decide) (fun hc1 => ?_) (fun hc1 => ?_)
      · replace hF := br_yes hF hc1
        exact rC_v hx hb hr hlocks hF hP hS dX9_link_60
      · replace hF := br_no hF hc1
        refine lv_aload_n hx hb dX9_link_10 rfl (lv_at hl 0 rfl) ?_
        refine cg_X9_before hx hb hT hown hK hP mw15_21 dX9_link_11 ?_
        refine lv_iload_n hx hb dX9_link_14 rfl (lv_at hl 3 rfl) ?_
        refine lv_aload_n hx hb dX9_link_15 rfl (lv_at hl 0 rfl) ?_
        refine cg_X9_tableSectors hx hb hT hown hK hP mw15_23 dX9_link_16 ?_
        refine lv_imul hx hb dX9_link_19 ?_
        refine lv_iadd hx hb dX9_link_20 ?_
        refine lv_sipush (v := (512 : Int32)) hx hb dX9_link_21 (by decide) ?_
        refine lv_imul hx hb dX9_link_24 ?_
        refine lv_iconst (v := (4 : Int32)) hx hb dX9_link_25 (by decide) ?_
        refine lv_iload_n hx hb dX9_link_26 rfl (lv_at hl 1 rfl) ?_
        refine lv_imul hx hb dX9_link_27 ?_
        refine lv_iadd hx hb dX9_link_28 ?_
        obtain ⟨x4_2, ex4_2⟩ : ∃ y : Int32, y = ((((fi (7)) + ((x3) * (fi (9)))) * (512 : Int32)) + ((4 : Int32) * (x1))) := ⟨_, rfl⟩
        rw [← ex4_2]
        replace hF := bnd_of hF ex4_2
        refine lv_istore (lv' := [(4, .int (x4_2)), (0, .ref (ad (6))), (1, .int (x1)), (2, .int (x2)), (3, .int (x3))]) hx hb dX9_link_29 hl (by decide) rfl (fun ls hl => ?_)
        refine lv_aload_n hx hb dX9_link_31 rfl (lv_at hl 1 rfl) ?_
        refine cg_X9_disk hx hb hT hown hK hP mw4_2 dX9_link_32 ?_
        refine lv_iload hx hb dX9_link_35 (lv_at hl 0 rfl) ?_
        refine lv_aload_n hx hb dX9_link_37 rfl (lv_at hl 1 rfl) ?_
        refine cg_X9_disk hx hb hT hown hK hP mw4_2 dX9_link_38 ?_
        refine lv_iload hx hb dX9_link_41 (lv_at hl 0 rfl) ?_
        replace hF := obnd3_of hF
        obtain ⟨r6, fi4, ar5, h3, hF⟩ := hF
        refine cC_i (As := [.int (x4_2)]) (rest := [.int (x4_2), .ref (ad (1))]) hx hb hml hT hown hK hE hD hA hP hS (rcv_X3 hK hP) (kX3_four l g ad rd _ nf ln fi ar (x4_2) r6 fi4 ar5 h3) cw_X3_four mw16_8 ⟨⟨rfl, rfl⟩, Nat.le_of_ble_eq_true rfl, Nat.le_of_ble_eq_true rfl⟩ rfl hl.1 rfl (Nat.le_of_ble_eq_true rfl) dX9_link_43 ⟨Nat.zero_le _, Nat.zero_le _⟩ (fun H locs hP hS => ?_)
        refine lv_ldc (v := (-268435456 : Int32)) hx hb hown (hT _ mw16_7) dX9_link_46 ?_
        refine lv_iand hx hb dX9_link_48 ?_
        refine lv_iload_n hx hb dX9_link_49 rfl (lv_at hl 3 rfl) ?_
        refine lv_ior hx hb dX9_link_50 ?_
        replace hF := obnd3_of hF
        obtain ⟨r10, fi8, ar9, h7, hF⟩ := hF
        refine cC_v (As := [.int (x4_2), .int (((r6) &&& (-268435456 : Int32)) ||| (x2))]) (rest := []) hx hb hml hT hown hK hE hD hA hP hS (rcv_X3 hK hP) (kX3_putFour l g ad rd _ nf ln fi4 ar5 (x4_2) (((r6) &&& (-268435456 : Int32)) ||| (x2)) r10 fi8 ar9 h7) cw_X3_putFour mw15_4 ⟨⟨rfl, rfl⟩, Nat.le_of_ble_eq_true rfl, Nat.le_of_ble_eq_true rfl⟩ rfl hl.1 rfl (Nat.le_of_ble_eq_true rfl) dX9_link_51 ⟨Nat.zero_le _, Nat.zero_le _⟩ (fun H locs hP hS => ?_)
        obtain ⟨x3_11, ex3_11⟩ : ∃ y : Int32, y = (x3) + (1 : Int32) := ⟨_, rfl⟩
        replace hF := bnd_of hF ex3_11
        refine lv_iinc (v := x3_11) (lv' := [(3, .int (x3_11)), (4, .int (x4_2)), (0, .ref (ad (6))), (1, .int (x1)), (2, .int (x2))]) hx hb dX9_link_54 hl (k := 4) rfl (by rw [ex3_11]; rfl) (by decide) rfl (fun ls hl => ?_)
        refine lv_goto (tgt := 2) hx hb dX9_link_57 (by decide) ?_
        exact ih2 (x1) (x2) (x3_11) _ _ _ _ _ hF (lv_sub hl [2, 3, 4, 0] rfl) hP hS
  replace hl := lv_sub hl [0, 1, 2] rfl
  refine lv_iconst (v := (0 : Int32)) hx hb dX9_link_0 (by decide) ?_
  refine lv_istore_n (lv' := [(3, .int (0 : Int32)), (0, .ref (ad (6))), (1, .int (p1)), (2, .int (p2))]) hx hb dX9_link_1 rfl hl (by decide) rfl (fun ls hl => ?_)
  exact L2 nf (p1) (p2) (0 : Int32) _ _ _ _ _ hF (lv_sub hl [1, 2, 3, 0] rfl) hP hS
theorem cw_X9_link : (Cond.instanceMethod yX9_link ∈ TB ∧ Cond.selects RX9 yX9_link yX9_link ∈ TB ∧ Cond.code yX9_link cX9_link 5 none ∈ TB ∧ Cond.initialized RX9 ∈ TB) ∧ (yX9_link.cls = RX9 ∧ yX9_link.cls ≠ "java/lang/invoke/MethodHandle" ∧ yX9_link.cls ≠ "java/lang/invoke/VarHandle" ∧ (parseMethodDescriptor yX9_link.desc).map (fun d => d.parameters.length) = some 2) := ⟨⟨mw16_4, mw16_5, mw16_6, mw2_10⟩, by decide +kernel⟩
/-! X3_wipeSector -/
noncomputable def FX3_wipeSector_37 (K2 : Int32 → Int32 → FI → AR → Option (Unit × FI × AR)) (nf : Nat) (ln : LN) (x1 : Int32) (x2 : Int32) (fi : FI) (ar : AR) : Option (Unit × FI × AR) :=
  bnd ((x2) + (1 : Int32)) fun x2_1 => K2 (x1) (x2_1) fi ar
noncomputable def FX3_wipeSector_2b (K2 : Int32 → Int32 → FI → AR → Option (Unit × FI × AR)) (nf : Nat) (ln : LN) (x1 : Int32) (x2 : Int32) (fi : FI) (ar : AR) : Option (Unit × FI × AR) :=
  br ((128 : Int32) ≤ (x2)) (some ((), fi, ar)) (bnd (((x1) * (128 : Int32)) + (x2)) fun x3_3 => br ((x3_3) < 0) (FX3_wipeSector_37 K2 nf ln  (x1) (x2) fi ar) (br ((Int32.ofNat (ln (0))) ≤ (x3_3)) (FX3_wipeSector_37 K2 nf ln  (x1) (x2) fi ar) (gd (¬ ((x3_3) < 0 ∨ ln (0) ≤ (x3_3).toNatClampNeg)) (bnd (va_up ar (0) (upd (ar (0)) (x3_3).toNatClampNeg (0 : Int32))) fun ar7 => FX3_wipeSector_37 K2 nf ln  (x1) (x2) fi ar7))))
noncomputable def FX3_wipeSector_2 (nf : Nat) (ln : LN) (kf : Nat) : Int32 → Int32 → FI → AR → Option (Unit × FI × AR) := Nat.rec (fun _ _ _ _ => none) (fun _ K2 => FX3_wipeSector_2b K2 nf ln) kf
noncomputable def FX3_wipeSector (nf : Nat) (ln : LN) (fi : FI) (ar : AR) (x1 : Int32) : Option (Unit × FI × AR) :=
  FX3_wipeSector_2 nf ln nf (x1) (0 : Int32) fi ar
set_option maxHeartbeats 4000000 in
set_option maxRecDepth 100000 in
theorem kX3_wipeSector (l : Launch) (g : GT) (ad rd : Nat → Nat) (sz : Nat) (nf : Nat) (ln : LN) (fi : FI) (ar : AR) (p1 : Int32) (r : Unit) (fi' : FI) (ar' : AR) (hF : FX3_wipeSector nf ln fi ar p1 = some (r, fi', ar')) : Met l yX3_wipeSector (wx yX3_wipeSector cX3_wipeSector 4 none) ({ frames := 0, cells := 0, slots := 0, locals := 0 } : Room) (va_Pc [.ref (ad (1)), .int p1] (PC g ad rd ln sz fi ar)) (QCv g ad rd ln sz r fi' ar') 0 0 (AC ad rd sz) := by
  refine Met.ofW (cc := cX3_wipeSector) (maxL := 4) (ret := none) (by decide) rfl ?_
  intro p e s m args below meth c s₁ B hml hv
  obtain ⟨rfl, hsz, hP, hK, hD0, hE⟩ := hv
  have hx := B.exec
  have hb := B.bytes
  have hr := B.returns
  have hts := atoms_spec (ws := (wx yX3_wipeSector cX3_wipeSector 4 none)) B.pre
  have hT : ∀ w ∈ TB, w.before _ s = true := fun w h => hts w (List.mem_cons_of_mem _ h)
  have hown : s.vm.findClass RX3 = some m.cls := findClass_of_methodNamed B.named
  have hlocks := B.notSynchronized
  subst hsz
  have hD := dC hD0 s.heap.size
  have hA : ∀ q : Nat, s.heap.size ≤ q → AC ad rd s.heap.size q := fun q h => Or.inr h
  have hS : va_S (AC ad rd s.heap.size) s.heap s.heap [] := va_S.rf
  have hl := lv_entry ([.ref (ad (1)), .int p1]) (n := 4) (Nat.le_of_ble_eq_true rfl)
  rw [lg_entry_eq]
  generalize (lg_sl ([.ref (ad (1)), .int p1]) ++ List.replicate (4 - (lg_sl ([.ref (ad (1)), .int p1])).length) Slot.unset).toArray = ls at hl ⊢
  have hl : lv_has ls 4 [(0, .ref (ad (1))), (1, .int p1)] := hl
  unfold FX3_wipeSector at hF
  have L2 : ∀ kf : Nat, ∀ (x1 : Int32) (x2 : Int32) (fi : FI) (ar : AR) (H : Heap) (locs : List Loc) (ls : Array Slot), FX3_wipeSector_2 nf ln kf x1 x2 fi ar = some (r, fi', ar') → lv_has ls 4 [(0, .ref (ad (1))), (1, .int x1), (2, .int x2)] → va_P (gD g) vwCl (WC g ad rd ln fi ar) H → va_S (AC ad rd s.heap.size) s.heap H locs → W p l e (headSpec (wx yX3_wipeSector cX3_wipeSector 4 none) ({ frames := 0, cells := 0, slots := 0, locals := 0 } : Room)).room s m ([.ref (ad (1)), .int p1] : List Value).toArray below meth c H locs 0 0 (MQ below (QCv g ad rd ln s.heap.size r fi' ar') ([.ref (ad (1)), .int p1] : List Value).toArray s 0 0 (AC ad rd s.heap.size)) (F0 m 2 ls []) := by
    intro kf
    induction kf with
    | zero => intro x1 x2 fi ar H locs ls hF hl hP hS; cases (show (none : Option (Unit × FI × AR)) = _ from hF)
    | succ kf ih2 =>
      intro x1 x2 fi ar H locs ls hF hl hP hS
      obtain ⟨K2, hK2⟩ : ∃ K : Int32 → Int32 → FI → AR → Option (Unit × FI × AR), K = FX3_wipeSector_2 nf ln kf := ⟨_, rfl⟩
      replace hF : FX3_wipeSector_2b K2 nf ln x1 x2 fi ar = some (r, fi', ar') := by rw [hK2]; exact hF
      rw [← hK2] at ih2
      clear hK2
      have J37 : ∀ (x1 : Int32) (x2 : Int32) (fi : FI) (ar : AR) (H : Heap) (locs : List Loc) (ls : Array Slot), FX3_wipeSector_37 K2 nf ln x1 x2 fi ar = some (r, fi', ar') → lv_has ls 4 [(0, .ref (ad (1))), (1, .int x1), (2, .int x2)] → va_P (gD g) vwCl (WC g ad rd ln fi ar) H → va_S (AC ad rd s.heap.size) s.heap H locs → W p l e (headSpec (wx yX3_wipeSector cX3_wipeSector 4 none) ({ frames := 0, cells := 0, slots := 0, locals := 0 } : Room)).room s m ([.ref (ad (1)), .int p1] : List Value).toArray below meth c H locs 0 0 (MQ below (QCv g ad rd ln s.heap.size r fi' ar') ([.ref (ad (1)), .int p1] : List Value).toArray s 0 0 (AC ad rd s.heap.size)) (F0 m 37 ls []) := by
        intro x1 x2 fi ar H locs ls hF hl hP hS
        unfold FX3_wipeSector_37 at hF
        obtain ⟨x2_1, ex2_1⟩ : ∃ y : Int32, y = (x2) + (1 : Int32) := ⟨_, rfl⟩
        replace hF := bnd_of hF ex2_1
        refine lv_iinc (v := x2_1) (lv' := [(2, .int (x2_1)), (0, .ref (ad (1))), (1, .int (x1))]) hx hb dX3_wipeSector_37 hl (k := 2) rfl (by rw [ex2_1]; rfl) (by decide) rfl (fun ls hl => ?_)
        refine lv_goto (tgt := 2) hx hb dX3_wipeSector_40 (by decide) ?_
        exact ih2 (x1) (x2_1) _ _ _ _ _ hF (lv_sub hl [1, 2, 0] rfl) hP hS
      unfold FX3_wipeSector_2b at hF
      refine lv_iload_n hx hb dX3_wipeSector_2 rfl (lv_at hl 2 rfl) ?_
      refine lv_sipush (v := (128 : Int32)) hx hb dX3_wipeSector_3 (by decide) ?_
      refine lv_icmp_ge (tgt := 43) hx hb dX3_wipeSector_6 (by decide) (fun hc2 => ?_) (fun hc2 => ?_)
      · replace hF := br_yes hF hc2
        exact rC_v hx hb hr hlocks hF hP hS dX3_wipeSector_43
      · replace hF := br_no hF hc2
        refine lv_iload_n hx hb dX3_wipeSector_9 rfl (lv_at hl 1 rfl) ?_
        refine lv_sipush (v := (128 : Int32)) hx hb dX3_wipeSector_10 (by decide) ?_
        refine lv_imul hx hb dX3_wipeSector_13 ?_
        refine lv_iload_n hx hb dX3_wipeSector_14 rfl (lv_at hl 2 rfl) ?_
        refine lv_iadd hx hb dX3_wipeSector_15 ?_
        obtain ⟨x3_3, ex3_3⟩ : ∃ y : Int32, y = (((x1) * (128 : Int32)) + (x2)) := ⟨_, rfl⟩
        rw [← ex3_3]
        replace hF := bnd_of hF ex3_3
        refine lv_istore_n (lv' := [(3, .int (x3_3)), (0, .ref (ad (1))), (1, .int (x1)), (2, .int (x2))]) hx hb dX3_wipeSector_16 rfl hl (by decide) rfl (fun ls hl => ?_)
        refine lv_iload_n hx hb dX3_wipeSector_17 rfl (lv_at hl 0 rfl) ?_
        refine lv_if_lt (tgt := 37) hx hb dX3_wipeSector_18 (by decide) (fun hc4 => ?_) (fun hc4 => ?_)
        · replace hF := br_yes hF hc4
          exact J37 (x1) (x2) _ _ _ _ _ hF (lv_sub hl [1, 2, 3] rfl) hP hS
        · replace hF := br_no hF hc4
          refine lv_iload_n hx hb dX3_wipeSector_21 rfl (lv_at hl 0 rfl) ?_
          refine lv_aload_n hx hb dX3_wipeSector_22 rfl (lv_at hl 1 rfl) ?_
          refine cg_X3_words hx hb hT hown hK hP mw3_14 dX3_wipeSector_23 ?_
          refine ca_words hx hb hK hP dX3_wipeSector_26 ?_
          refine lv_icmp_ge (tgt := 37) hx hb dX3_wipeSector_27 (by decide) (fun hc5 => ?_) (fun hc5 => ?_)
          · replace hF := br_yes hF hc5
            exact J37 (x1) (x2) _ _ _ _ _ hF (lv_sub hl [1, 2, 3] rfl) hP hS
          · replace hF := br_no hF hc5
            refine lv_aload_n hx hb dX3_wipeSector_30 rfl (lv_at hl 1 rfl) ?_
            refine cg_X3_words hx hb hT hown hK hP mw3_14 dX3_wipeSector_31 ?_
            refine lv_iload_n hx hb dX3_wipeSector_34 rfl (lv_at hl 0 rfl) ?_
            refine lv_iconst (v := (0 : Int32)) hx hb dX3_wipeSector_35 (by decide) ?_
            replace hF := gd_of hF
            obtain ⟨hi6, hF⟩ := hF
            obtain ⟨ar7, ear7⟩ : ∃ y : AR, y = va_up ar (0) (upd (ar (0)) (x3_3).toNatClampNeg (0 : Int32)) := ⟨_, rfl⟩
            replace hF := bnd_of hF ear7
            refine cs_words hx hb hK hP hD hS hi6 dX3_wipeSector_36 (fun H locs hP hS => ?_)
            rw [← ear7] at hP
            exact J37 (x1) (x2) _ _ _ _ _ hF (lv_sub hl [1, 2, 3] rfl) hP hS
  replace hl := lv_sub hl [0, 1] rfl
  refine lv_iconst (v := (0 : Int32)) hx hb dX3_wipeSector_0 (by decide) ?_
  refine lv_istore_n (lv' := [(2, .int (0 : Int32)), (0, .ref (ad (1))), (1, .int (p1))]) hx hb dX3_wipeSector_1 rfl hl (by decide) rfl (fun ls hl => ?_)
  exact L2 nf (p1) (0 : Int32) _ _ _ _ _ hF (lv_sub hl [1, 2, 0] rfl) hP hS
theorem cw_X3_wipeSector : (Cond.instanceMethod yX3_wipeSector ∈ TB ∧ Cond.selects RX3 yX3_wipeSector yX3_wipeSector ∈ TB ∧ Cond.code yX3_wipeSector cX3_wipeSector 4 none ∈ TB ∧ Cond.initialized RX3 ∈ TB) ∧ (yX3_wipeSector.cls = RX3 ∧ yX3_wipeSector.cls ≠ "java/lang/invoke/MethodHandle" ∧ yX3_wipeSector.cls ≠ "java/lang/invoke/VarHandle" ∧ (parseMethodDescriptor yX3_wipeSector.desc).map (fun d => d.parameters.length) = some 1) := ⟨⟨mw47_15, mw47_16, mw47_17, mw2_2⟩, by decide +kernel⟩
/-! X9_claimLowest -/
noncomputable def FX9_claimLowest_43b (K43 : Int32 → Int32 → Int32 → FI → AR → Option (Int32 × FI × AR)) (nf : Nat) (ln : LN) (x1 : Int32) (x2 : Int32) (x3 : Int32) (fi : FI) (ar : AR) : Option (Int32 × FI × AR) :=
  br (((1 : Int32) <<< ((fi (6)) &&& 31)) ≤ (x3)) (some ((x1), fi, ar)) (obnd3 (FX3_wipeSector nf ln fi ar ((x2) + (x3))) fun r5 fi3 ar4 => bnd ((x3) + (1 : Int32)) fun x3_6 => K43 (x1) (x2) (x3_6) fi3 ar4)
noncomputable def FX9_claimLowest_43 (nf : Nat) (ln : LN) (kf : Nat) : Int32 → Int32 → Int32 → FI → AR → Option (Int32 × FI × AR) := Nat.rec (fun _ _ _ _ _ => none) (fun _ K43 => FX9_claimLowest_43b K43 nf ln) kf
noncomputable def FX9_claimLowest_2b (K2 : Int32 → FI → AR → Option (Int32 × FI × AR)) (nf : Nat) (ln : LN) (x1 : Int32) (fi : FI) (ar : AR) : Option (Int32 × FI × AR) :=
  br (((fi (5)) + (1 : Int32)) < (x1)) (some ((0 : Int32), fi, ar)) (obnd3 (FX9_next nf ln fi ar (x1)) fun r11 fi9 ar10 => br ((r11) = 0) (obnd3 (FX9_link nf ln fi9 ar10 (x1) (268435455 : Int32)) fun r17 fi15 ar16 => bnd ((fi15 (10)) + (((x1) - (2 : Int32)) <<< ((fi15 (6)) &&& 31))) fun x2_18 => FX9_claimLowest_43 nf ln nf (x1) (x2_18) (0 : Int32) fi15 ar16) (bnd ((x1) + (1 : Int32)) fun x1_13 => K2 (x1_13) fi9 ar10))
noncomputable def FX9_claimLowest_2 (nf : Nat) (ln : LN) (kf : Nat) : Int32 → FI → AR → Option (Int32 × FI × AR) := Nat.rec (fun _ _ _ => none) (fun _ K2 => FX9_claimLowest_2b K2 nf ln) kf
noncomputable def FX9_claimLowest (nf : Nat) (ln : LN) (fi : FI) (ar : AR)  : Option (Int32 × FI × AR) :=
  FX9_claimLowest_2 nf ln nf (2 : Int32) fi ar
set_option maxHeartbeats 4000000 in
set_option maxRecDepth 100000 in
theorem kX9_claimLowest (l : Launch) (g : GT) (ad rd : Nat → Nat) (sz : Nat) (nf : Nat) (ln : LN) (fi : FI) (ar : AR)  (r : Int32) (fi' : FI) (ar' : AR) (hF : FX9_claimLowest nf ln fi ar  = some (r, fi', ar')) : Met l yX9_claimLowest (wx yX9_claimLowest cX9_claimLowest 4 (some .int)) ({ frames := 4, cells := 0, slots := 0, locals := 92 } : Room) (va_Pc [.ref (ad (6))] (PC g ad rd ln sz fi ar)) (QCi g ad rd ln sz r fi' ar') 0 0 (AC ad rd sz) := by
  refine Met.ofW (cc := cX9_claimLowest) (maxL := 4) (ret := (some .int)) (by decide) rfl ?_
  intro p e s m args below meth c s₁ B hml hv
  obtain ⟨rfl, hsz, hP, hK, hD0, hE⟩ := hv
  have hx := B.exec
  have hb := B.bytes
  have hr := B.returns
  have hts := atoms_spec (ws := (wx yX9_claimLowest cX9_claimLowest 4 (some .int))) B.pre
  have hT : ∀ w ∈ TB, w.before _ s = true := fun w h => hts w (List.mem_cons_of_mem _ h)
  have hown : s.vm.findClass RX9 = some m.cls := findClass_of_methodNamed B.named
  have hlocks := B.notSynchronized
  subst hsz
  have hD := dC hD0 s.heap.size
  have hA : ∀ q : Nat, s.heap.size ≤ q → AC ad rd s.heap.size q := fun q h => Or.inr h
  have hS : va_S (AC ad rd s.heap.size) s.heap s.heap [] := va_S.rf
  have hl := lv_entry ([.ref (ad (6))]) (n := 4) (Nat.le_of_ble_eq_true rfl)
  rw [lg_entry_eq]
  generalize (lg_sl ([.ref (ad (6))]) ++ List.replicate (4 - (lg_sl ([.ref (ad (6))])).length) Slot.unset).toArray = ls at hl ⊢
  have hl : lv_has ls 4 [(0, .ref (ad (6)))] := hl
  unfold FX9_claimLowest at hF
  have L43 : ∀ kf : Nat, ∀ (x1 : Int32) (x2 : Int32) (x3 : Int32) (fi : FI) (ar : AR) (H : Heap) (locs : List Loc) (ls : Array Slot), FX9_claimLowest_43 nf ln kf x1 x2 x3 fi ar = some (r, fi', ar') → lv_has ls 4 [(0, .ref (ad (6))), (1, .int x1), (2, .int x2), (3, .int x3)] → va_P (gD g) vwCl (WC g ad rd ln fi ar) H → va_S (AC ad rd s.heap.size) s.heap H locs → W p l e (headSpec (wx yX9_claimLowest cX9_claimLowest 4 (some .int)) ({ frames := 4, cells := 0, slots := 0, locals := 92 } : Room)).room s m ([.ref (ad (6))] : List Value).toArray below meth c H locs 0 0 (MQ below (QCi g ad rd ln s.heap.size r fi' ar') ([.ref (ad (6))] : List Value).toArray s 0 0 (AC ad rd s.heap.size)) (F0 m 43 ls []) := by
    intro kf
    induction kf with
    | zero => intro x1 x2 x3 fi ar H locs ls hF hl hP hS; cases (show (none : Option (Int32 × FI × AR)) = _ from hF)
    | succ kf ih43 =>
      intro x1 x2 x3 fi ar H locs ls hF hl hP hS
      obtain ⟨K43, hK43⟩ : ∃ K : Int32 → Int32 → Int32 → FI → AR → Option (Int32 × FI × AR), K = FX9_claimLowest_43 nf ln kf := ⟨_, rfl⟩
      replace hF : FX9_claimLowest_43b K43 nf ln x1 x2 x3 fi ar = some (r, fi', ar') := by rw [hK43]; exact hF
      rw [← hK43] at ih43
      clear hK43
      unfold FX9_claimLowest_43b at hF
      refine lv_iload_n hx hb dX9_claimLowest_43 rfl (lv_at hl 3 rfl) ?_
      refine lv_iconst (v := (1 : Int32)) hx hb dX9_claimLowest_44 (by decide) ?_
      refine lv_aload_n hx hb dX9_claimLowest_45 rfl (lv_at hl 0 rfl) ?_
      refine cg_X9_shift hx hb hT hown hK hP mw4_1 dX9_claimLowest_46 ?_
      refine lv_ishl hx hb dX9_claimLowest_49 ?_
      refine lv_icmp_ge (tgt := 69) hx hb dX9_claimLowest_50 (by decide) (fun hc1 => ?_) (fun hc1 => ?_)
      · replace hF := br_yes hF hc1
        refine lv_iload_n hx hb dX9_claimLowest_69 rfl (lv_at hl 1 rfl) ?_
        exact rC_i hx hb hr hlocks hF hP hS dX9_claimLowest_70
      · replace hF := br_no hF hc1
        refine lv_aload_n hx hb dX9_claimLowest_53 rfl (lv_at hl 0 rfl) ?_
        refine cg_X9_disk hx hb hT hown hK hP mw4_2 dX9_claimLowest_54 ?_
        refine lv_iload_n hx hb dX9_claimLowest_57 rfl (lv_at hl 2 rfl) ?_
        refine lv_iload_n hx hb dX9_claimLowest_58 rfl (lv_at hl 3 rfl) ?_
        refine lv_iadd hx hb dX9_claimLowest_59 ?_
        replace hF := obnd3_of hF
        obtain ⟨r5, fi3, ar4, h2, hF⟩ := hF
        refine cC_v (As := [.int ((x2) + (x3))]) (rest := []) hx hb hml hT hown hK hE hD hA hP hS (rcv_X3 hK hP) (kX3_wipeSector l g ad rd _ nf ln fi ar ((x2) + (x3)) r5 fi3 ar4 h2) cw_X3_wipeSector mw47_14 ⟨⟨rfl, rfl⟩, Nat.le_of_ble_eq_true rfl, Nat.le_of_ble_eq_true rfl⟩ rfl hl.1 rfl (Nat.le_of_ble_eq_true rfl) dX9_claimLowest_60 ⟨Nat.zero_le _, Nat.zero_le _⟩ (fun H locs hP hS => ?_)
        obtain ⟨x3_6, ex3_6⟩ : ∃ y : Int32, y = (x3) + (1 : Int32) := ⟨_, rfl⟩
        replace hF := bnd_of hF ex3_6
        refine lv_iinc (v := x3_6) (lv' := [(3, .int (x3_6)), (0, .ref (ad (6))), (1, .int (x1)), (2, .int (x2))]) hx hb dX9_claimLowest_63 hl (k := 3) rfl (by rw [ex3_6]; rfl) (by decide) rfl (fun ls hl => ?_)
        refine lv_goto (tgt := 43) hx hb dX9_claimLowest_66 (by decide) ?_
        exact ih43 (x1) (x2) (x3_6) _ _ _ _ _ hF (lv_sub hl [1, 2, 3, 0] rfl) hP hS
  have L2 : ∀ kf : Nat, ∀ (x1 : Int32) (fi : FI) (ar : AR) (H : Heap) (locs : List Loc) (ls : Array Slot), FX9_claimLowest_2 nf ln kf x1 fi ar = some (r, fi', ar') → lv_has ls 4 [(0, .ref (ad (6))), (1, .int x1)] → va_P (gD g) vwCl (WC g ad rd ln fi ar) H → va_S (AC ad rd s.heap.size) s.heap H locs → W p l e (headSpec (wx yX9_claimLowest cX9_claimLowest 4 (some .int)) ({ frames := 4, cells := 0, slots := 0, locals := 92 } : Room)).room s m ([.ref (ad (6))] : List Value).toArray below meth c H locs 0 0 (MQ below (QCi g ad rd ln s.heap.size r fi' ar') ([.ref (ad (6))] : List Value).toArray s 0 0 (AC ad rd s.heap.size)) (F0 m 2 ls []) := by
    intro kf
    induction kf with
    | zero => intro x1 fi ar H locs ls hF hl hP hS; cases (show (none : Option (Int32 × FI × AR)) = _ from hF)
    | succ kf ih2 =>
      intro x1 fi ar H locs ls hF hl hP hS
      obtain ⟨K2, hK2⟩ : ∃ K : Int32 → FI → AR → Option (Int32 × FI × AR), K = FX9_claimLowest_2 nf ln kf := ⟨_, rfl⟩
      replace hF : FX9_claimLowest_2b K2 nf ln x1 fi ar = some (r, fi', ar') := by rw [hK2]; exact hF
      rw [← hK2] at ih2
      clear hK2
      unfold FX9_claimLowest_2b at hF
      refine lv_iload_n hx hb dX9_claimLowest_2 rfl (lv_at hl 1 rfl) ?_
      refine lv_aload_n hx hb dX9_claimLowest_3 rfl (lv_at hl 0 rfl) ?_
      refine cg_X9_clusters hx hb hT hown hK hP mw16_1 dX9_claimLowest_4 ?_
      refine lv_iconst (v := (1 : Int32)) hx hb dX9_claimLowest_7 (by decide) ?_
      refine lv_iadd hx hb dX9_claimLowest_8 ?_
      refine lv_icmp_gt (tgt := 77) hx hb dX9_claimLowest_9 (by decide) (fun hc7 => ?_) (fun hc7 => ?_)
      · replace hF := br_yes hF hc7
        refine lv_iconst (v := (0 : Int32)) hx hb dX9_claimLowest_77 (by decide) ?_
        exact rC_i hx hb hr hlocks hF hP hS dX9_claimLowest_78
      · replace hF := br_no hF hc7
        refine lv_aload_n hx hb dX9_claimLowest_12 rfl (lv_at hl 0 rfl) ?_
        refine lv_iload_n hx hb dX9_claimLowest_13 rfl (lv_at hl 1 rfl) ?_
        replace hF := obnd3_of hF
        obtain ⟨r11, fi9, ar10, h8, hF⟩ := hF
        refine cC_i (As := [.int (x1)]) (rest := []) hx hb hml hT hown hK hE hD hA hP hS (rcv_X9 hK hP) (kX9_next l g ad rd _ nf ln fi ar (x1) r11 fi9 ar10 h8) cw_X9_next mw22_11 ⟨⟨rfl, rfl⟩, Nat.le_of_ble_eq_true rfl, Nat.le_of_ble_eq_true rfl⟩ rfl hl.1 rfl (Nat.le_of_ble_eq_true rfl) dX9_claimLowest_14 ⟨Nat.zero_le _, Nat.zero_le _⟩ (fun H locs hP hS => ?_)
        refine lv_if_ne (tgt := 71) hx hb dX9_claimLowest_17 (by decide) (fun hc12 => ?_) (fun hc12 => ?_)
        · replace hF := br_no hF hc12
          obtain ⟨x1_13, ex1_13⟩ : ∃ y : Int32, y = (x1) + (1 : Int32) := ⟨_, rfl⟩
          replace hF := bnd_of hF ex1_13
          refine lv_iinc (v := x1_13) (lv' := [(1, .int (x1_13)), (0, .ref (ad (6)))]) hx hb dX9_claimLowest_71 hl (k := 1) rfl (by rw [ex1_13]; rfl) (by decide) rfl (fun ls hl => ?_)
          refine lv_goto (tgt := 2) hx hb dX9_claimLowest_74 (by decide) ?_
          exact ih2 (x1_13) _ _ _ _ _ hF (lv_sub hl [1, 0] rfl) hP hS
        · replace hF := br_yes hF hc12
          refine lv_aload_n hx hb dX9_claimLowest_20 rfl (lv_at hl 0 rfl) ?_
          refine lv_iload_n hx hb dX9_claimLowest_21 rfl (lv_at hl 1 rfl) ?_
          refine lv_ldc (v := (268435455 : Int32)) hx hb hown (hT _ mw14_14) dX9_claimLowest_22 ?_
          replace hF := obnd3_of hF
          obtain ⟨r17, fi15, ar16, h14, hF⟩ := hF
          refine cC_v (As := [.int (x1), .int (268435455 : Int32)]) (rest := []) hx hb hml hT hown hK hE hD hA hP hS (rcv_X9 hK hP) (kX9_link l g ad rd _ nf ln fi9 ar10 (x1) (268435455 : Int32) r17 fi15 ar16 h14) cw_X9_link mw16_3 ⟨⟨rfl, rfl⟩, Nat.le_of_ble_eq_true rfl, Nat.le_of_ble_eq_true rfl⟩ rfl hl.1 rfl (Nat.le_of_ble_eq_true rfl) dX9_claimLowest_24 ⟨Nat.zero_le _, Nat.zero_le _⟩ (fun H locs hP hS => ?_)
          refine lv_aload_n hx hb dX9_claimLowest_27 rfl (lv_at hl 0 rfl) ?_
          refine cg_X9_start hx hb hT hown hK hP mw16_0 dX9_claimLowest_28 ?_
          refine lv_iload_n hx hb dX9_claimLowest_31 rfl (lv_at hl 1 rfl) ?_
          refine lv_iconst (v := (2 : Int32)) hx hb dX9_claimLowest_32 (by decide) ?_
          refine lv_isub hx hb dX9_claimLowest_33 ?_
          refine lv_aload_n hx hb dX9_claimLowest_34 rfl (lv_at hl 0 rfl) ?_
          refine cg_X9_shift hx hb hT hown hK hP mw4_1 dX9_claimLowest_35 ?_
          refine lv_ishl hx hb dX9_claimLowest_38 ?_
          refine lv_iadd hx hb dX9_claimLowest_39 ?_
          obtain ⟨x2_18, ex2_18⟩ : ∃ y : Int32, y = ((fi15 (10)) + (((x1) - (2 : Int32)) <<< ((fi15 (6)) &&& 31))) := ⟨_, rfl⟩
          rw [← ex2_18]
          replace hF := bnd_of hF ex2_18
          refine lv_istore_n (lv' := [(2, .int (x2_18)), (0, .ref (ad (6))), (1, .int (x1))]) hx hb dX9_claimLowest_40 rfl hl (by decide) rfl (fun ls hl => ?_)
          refine lv_iconst (v := (0 : Int32)) hx hb dX9_claimLowest_41 (by decide) ?_
          refine lv_istore_n (lv' := [(3, .int (0 : Int32)), (2, .int (x2_18)), (0, .ref (ad (6))), (1, .int (x1))]) hx hb dX9_claimLowest_42 rfl hl (by decide) rfl (fun ls hl => ?_)
          exact L43 nf (x1) (x2_18) (0 : Int32) _ _ _ _ _ hF (lv_sub hl [2, 3, 1, 0] rfl) hP hS
  replace hl := lv_sub hl [0] rfl
  refine lv_iconst (v := (2 : Int32)) hx hb dX9_claimLowest_0 (by decide) ?_
  refine lv_istore_n (lv' := [(1, .int (2 : Int32)), (0, .ref (ad (6)))]) hx hb dX9_claimLowest_1 rfl hl (by decide) rfl (fun ls hl => ?_)
  exact L2 nf (2 : Int32) _ _ _ _ _ hF (lv_sub hl [1, 0] rfl) hP hS
theorem cw_X9_claimLowest : (Cond.instanceMethod yX9_claimLowest ∈ TB ∧ Cond.selects RX9 yX9_claimLowest yX9_claimLowest ∈ TB ∧ Cond.code yX9_claimLowest cX9_claimLowest 4 (some .int) ∈ TB ∧ Cond.initialized RX9 ∈ TB) ∧ (yX9_claimLowest.cls = RX9 ∧ yX9_claimLowest.cls ≠ "java/lang/invoke/MethodHandle" ∧ yX9_claimLowest.cls ≠ "java/lang/invoke/VarHandle" ∧ (parseMethodDescriptor yX9_claimLowest.desc).map (fun d => d.parameters.length) = some 0) := ⟨⟨mw47_11, mw47_12, mw47_13, mw2_10⟩, by decide +kernel⟩
