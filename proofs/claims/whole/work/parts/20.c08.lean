/-! X6_lastPoint -/
noncomputable def FX6_lastPoint_7b (K7 : Int32 → FI → AR → Option (Int32 × FI × AR)) (nf : Nat) (ln : LN) (i0 : Nat) (x1 : Int32) (fi : FI) (ar : AR) : Option (Int32 × FI × AR) :=
  br ((x1) < 0) (some ((-1 : Int32), fi, ar)) (obnd3 (FX6_unit nf ln i0 fi ar (x1)) fun r5 fi3 ar4 => br ((r5) = (46 : Int32)) (some ((x1), fi3, ar4)) (bnd ((x1) + (-1 : Int32)) fun x1_7 => K7 (x1_7) fi3 ar4))
noncomputable def FX6_lastPoint_7 (nf : Nat) (ln : LN) (i0 : Nat) (kf : Nat) : Int32 → FI → AR → Option (Int32 × FI × AR) := Nat.rec (fun _ _ _ => none) (fun _ K7 => FX6_lastPoint_7b K7 nf ln i0) kf
noncomputable def FX6_lastPoint (nf : Nat) (ln : LN) (i0 : Nat) (fi : FI) (ar : AR)  : Option (Int32 × FI × AR) :=
  bnd ((fi (60 + i0)) - (1 : Int32)) fun x1_8 => FX6_lastPoint_7 nf ln i0 nf (x1_8) fi ar
set_option maxHeartbeats 4000000 in
set_option maxRecDepth 100000 in
theorem kX6_lastPoint (l : Launch) (g : GT) (ad rd : Nat → Nat) (sz : Nat) (nf : Nat) (ln : LN) (i0 : Nat) (hi0 : i0 < 4) (fi : FI) (ar : AR)  (r : Int32) (fi' : FI) (ar' : AR) (hF : FX6_lastPoint nf ln i0 fi ar  = some (r, fi', ar')) : Met l yX6_lastPoint (wx yX6_lastPoint cX6_lastPoint 2 (some .int)) ({ frames := 1, cells := 0, slots := 0, locals := 21 } : Room) (va_Pc [.ref (ad (26 + 2 * i0))] (PC g ad rd ln sz fi ar)) (QCi g ad rd ln sz r fi' ar') 0 0 (AC ad rd sz) := by
  refine Met.ofW (cc := cX6_lastPoint) (maxL := 2) (ret := (some .int)) (by decide) rfl ?_
  intro p e s m args below meth c s₁ B hml hv
  obtain ⟨rfl, hsz, hP, hK, hD0, hE⟩ := hv
  have hx := B.exec
  have hb := B.bytes
  have hr := B.returns
  have hts := atoms_spec (ws := (wx yX6_lastPoint cX6_lastPoint 2 (some .int))) B.pre
  have hT : ∀ w ∈ TB, w.before _ s = true := fun w h => hts w (List.mem_cons_of_mem _ h)
  have hown : s.vm.findClass RX6 = some m.cls := findClass_of_methodNamed B.named
  have hlocks := B.notSynchronized
  subst hsz
  have hD := dC hD0 s.heap.size
  have hA : ∀ q : Nat, s.heap.size ≤ q → AC ad rd s.heap.size q := fun q h => Or.inr h
  have hS : va_S (AC ad rd s.heap.size) s.heap s.heap [] := va_S.rf
  have hl := lv_entry ([.ref (ad (26 + 2 * i0))]) (n := 2) (Nat.le_of_ble_eq_true rfl)
  rw [lg_entry_eq]
  generalize (lg_sl ([.ref (ad (26 + 2 * i0))]) ++ List.replicate (2 - (lg_sl ([.ref (ad (26 + 2 * i0))])).length) Slot.unset).toArray = ls at hl ⊢
  have hl : lv_has ls 2 [(0, .ref (ad (26 + 2 * i0)))] := hl
  unfold FX6_lastPoint at hF
  have L7 : ∀ kf : Nat, ∀ (x1 : Int32) (fi : FI) (ar : AR) (H : Heap) (locs : List Loc) (ls : Array Slot), FX6_lastPoint_7 nf ln i0 kf x1 fi ar = some (r, fi', ar') → lv_has ls 2 [(0, .ref (ad (26 + 2 * i0))), (1, .int x1)] → va_P (gD g) vwCl (WC g ad rd ln fi ar) H → va_S (AC ad rd s.heap.size) s.heap H locs → W p l e (headSpec (wx yX6_lastPoint cX6_lastPoint 2 (some .int)) ({ frames := 1, cells := 0, slots := 0, locals := 21 } : Room)).room s m ([.ref (ad (26 + 2 * i0))] : List Value).toArray below meth c H locs 0 0 (MQ below (QCi g ad rd ln s.heap.size r fi' ar') ([.ref (ad (26 + 2 * i0))] : List Value).toArray s 0 0 (AC ad rd s.heap.size)) (F0 m 7 ls []) := by
    intro kf
    induction kf with
    | zero => intro x1 fi ar H locs ls hF hl hP hS; cases (show (none : Option (Int32 × FI × AR)) = _ from hF)
    | succ kf ih7 =>
      intro x1 fi ar H locs ls hF hl hP hS
      obtain ⟨K7, hK7⟩ : ∃ K : Int32 → FI → AR → Option (Int32 × FI × AR), K = FX6_lastPoint_7 nf ln i0 kf := ⟨_, rfl⟩
      replace hF : FX6_lastPoint_7b K7 nf ln i0 x1 fi ar = some (r, fi', ar') := by rw [hK7]; exact hF
      rw [← hK7] at ih7
      clear hK7
      unfold FX6_lastPoint_7b at hF
      refine lv_iload_n hx hb dX6_lastPoint_7 rfl (lv_at hl 1 rfl) ?_
      refine lv_if_lt (tgt := 29) hx hb dX6_lastPoint_8 (by decide) (fun hc1 => ?_) (fun hc1 => ?_)
      · replace hF := br_yes hF hc1
        refine lv_iconst (v := (-1 : Int32)) hx hb dX6_lastPoint_29 (by decide) ?_
        exact rC_i hx hb hr hlocks hF hP hS dX6_lastPoint_30
      · replace hF := br_no hF hc1
        refine lv_aload_n hx hb dX6_lastPoint_11 rfl (lv_at hl 0 rfl) ?_
        refine lv_iload_n hx hb dX6_lastPoint_12 rfl (lv_at hl 1 rfl) ?_
        replace hF := obnd3_of hF
        obtain ⟨r5, fi3, ar4, h2, hF⟩ := hF
        refine cC_i (As := [.int (x1)]) (rest := []) hx hb hml hT hown hK hE hD hA hP hS (rcv_X6 hi0 hK hP) (kX6_unit l g ad rd _ nf ln i0 hi0 fi ar (x1) r5 fi3 ar4 h2) cw_X6_unit mw29_7 ⟨⟨rfl, rfl⟩, Nat.le_of_ble_eq_true rfl, Nat.le_of_ble_eq_true rfl⟩ rfl hl.1 rfl (Nat.le_of_ble_eq_true rfl) dX6_lastPoint_13 ⟨Nat.zero_le _, Nat.zero_le _⟩ (fun H locs hP hS => ?_)
        refine lv_bipush (v := (46 : Int32)) hx hb dX6_lastPoint_16 (by decide) ?_
        refine lv_icmp_ne (tgt := 23) hx hb dX6_lastPoint_18 (by decide) (fun hc6 => ?_) (fun hc6 => ?_)
        · replace hF := br_no hF hc6
          obtain ⟨x1_7, ex1_7⟩ : ∃ y : Int32, y = (x1) + (-1 : Int32) := ⟨_, rfl⟩
          replace hF := bnd_of hF ex1_7
          refine lv_iinc (v := x1_7) (lv' := [(1, .int (x1_7)), (0, .ref (ad (26 + 2 * i0)))]) hx hb dX6_lastPoint_23 hl (k := 1) rfl (by rw [ex1_7]; rfl) (by decide) rfl (fun ls hl => ?_)
          refine lv_goto (tgt := 7) hx hb dX6_lastPoint_26 (by decide) ?_
          exact ih7 (x1_7) _ _ _ _ _ hF (lv_sub hl [1, 0] rfl) hP hS
        · replace hF := br_yes hF hc6
          refine lv_iload_n hx hb dX6_lastPoint_21 rfl (lv_at hl 1 rfl) ?_
          exact rC_i hx hb hr hlocks hF hP hS dX6_lastPoint_22
  replace hl := lv_sub hl [0] rfl
  refine lv_aload_n hx hb dX6_lastPoint_0 rfl (lv_at hl 0 rfl) ?_
  refine cg_X6_length hi0 hx hb hT hown hK hP mw26_19 dX6_lastPoint_1 ?_
  refine lv_iconst (v := (1 : Int32)) hx hb dX6_lastPoint_4 (by decide) ?_
  refine lv_isub hx hb dX6_lastPoint_5 ?_
  obtain ⟨x1_8, ex1_8⟩ : ∃ y : Int32, y = ((fi (60 + i0)) - (1 : Int32)) := ⟨_, rfl⟩
  rw [← ex1_8]
  replace hF := bnd_of hF ex1_8
  refine lv_istore_n (lv' := [(1, .int (x1_8)), (0, .ref (ad (26 + 2 * i0)))]) hx hb dX6_lastPoint_6 rfl hl (by decide) rfl (fun ls hl => ?_)
  exact L7 nf (x1_8) _ _ _ _ _ hF (lv_sub hl [1, 0] rfl) hP hS
theorem cw_X6_lastPoint : (Cond.instanceMethod yX6_lastPoint ∈ TB ∧ Cond.selects RX6 yX6_lastPoint yX6_lastPoint ∈ TB ∧ Cond.code yX6_lastPoint cX6_lastPoint 2 (some .int) ∈ TB ∧ Cond.initialized RX6 ∈ TB) ∧ (yX6_lastPoint.cls = RX6 ∧ yX6_lastPoint.cls ≠ "java/lang/invoke/MethodHandle" ∧ yX6_lastPoint.cls ≠ "java/lang/invoke/VarHandle" ∧ (parseMethodDescriptor yX6_lastPoint.desc).map (fun d => d.parameters.length) = some 0) := ⟨⟨mw46_8, mw46_9, mw46_10, mw2_23⟩, by decide +kernel⟩
/-! X6_encodedByte -/
noncomputable def FX6_encodedByte_76 (nf : Nat) (ln : LN) (i0 : Nat)  (fi : FI) (ar : AR) : Option (Int32 × FI × AR) :=
  some ((-1 : Int32), fi, ar)
noncomputable def FX6_encodedByte_48 (K4 : Int32 → Int32 → FI → AR → Option (Int32 × FI × AR)) (nf : Nat) (ln : LN) (i0 : Nat) (x2 : Int32) (x3 : Int32) (x4 : Int32) (t0 : Int32) (fi : FI) (ar : AR) : Option (Int32 × FI × AR) :=
  br ((t0) ≤ (x2)) (bnd ((x2) - (t0)) fun x2_2 => bnd ((x3) + (1 : Int32)) fun x3_3 => K4 (x2_2) (x3_3) fi ar) (obnd (FX5_encoded nf (x4) (t0) (x2)) fun r5 => some ((r5), fi, ar))
noncomputable def FX6_encodedByte_4b (K4 : Int32 → Int32 → FI → AR → Option (Int32 × FI × AR)) (nf : Nat) (ln : LN) (i0 : Nat) (x2 : Int32) (x3 : Int32) (fi : FI) (ar : AR) : Option (Int32 × FI × AR) :=
  br ((fi (60 + i0)) ≤ (x3)) (FX6_encodedByte_76 nf ln i0  fi ar) (br ((x2) < 0) (FX6_encodedByte_76 nf ln i0  fi ar) (obnd3 (FX6_unit nf ln i0 fi ar (x3)) fun r11 fi9 ar10 => br ((128 : Int32) ≤ (r11)) (br ((2048 : Int32) ≤ (r11)) (FX6_encodedByte_48 K4 nf ln i0  (x2) (x3) (r11) (3 : Int32) fi9 ar10) (FX6_encodedByte_48 K4 nf ln i0  (x2) (x3) (r11) (2 : Int32) fi9 ar10)) (FX6_encodedByte_48 K4 nf ln i0  (x2) (x3) (r11) (1 : Int32) fi9 ar10)))
noncomputable def FX6_encodedByte_4 (nf : Nat) (ln : LN) (i0 : Nat) (kf : Nat) : Int32 → Int32 → FI → AR → Option (Int32 × FI × AR) := Nat.rec (fun _ _ _ _ => none) (fun _ K4 => FX6_encodedByte_4b K4 nf ln i0) kf
noncomputable def FX6_encodedByte (nf : Nat) (ln : LN) (i0 : Nat) (fi : FI) (ar : AR) (x1 : Int32) : Option (Int32 × FI × AR) :=
  FX6_encodedByte_4 nf ln i0 nf (x1) (0 : Int32) fi ar
set_option maxHeartbeats 4000000 in
set_option maxRecDepth 100000 in
theorem kX6_encodedByte (l : Launch) (g : GT) (ad rd : Nat → Nat) (sz : Nat) (nf : Nat) (ln : LN) (i0 : Nat) (hi0 : i0 < 4) (fi : FI) (ar : AR) (p1 : Int32) (r : Int32) (fi' : FI) (ar' : AR) (hF : FX6_encodedByte nf ln i0 fi ar p1 = some (r, fi', ar')) : Met l yX6_encodedByte (wx yX6_encodedByte cX6_encodedByte 6 (some .int)) ({ frames := 1, cells := 0, slots := 0, locals := 22 } : Room) (va_Pc [.ref (ad (26 + 2 * i0)), .int p1] (PC g ad rd ln sz fi ar)) (QCi g ad rd ln sz r fi' ar') 0 0 (AC ad rd sz) := by
  refine Met.ofW (cc := cX6_encodedByte) (maxL := 6) (ret := (some .int)) (by decide) rfl ?_
  intro p e s m args below meth c s₁ B hml hv
  obtain ⟨rfl, hsz, hP, hK, hD0, hE⟩ := hv
  have hx := B.exec
  have hb := B.bytes
  have hr := B.returns
  have hts := atoms_spec (ws := (wx yX6_encodedByte cX6_encodedByte 6 (some .int))) B.pre
  have hT : ∀ w ∈ TB, w.before _ s = true := fun w h => hts w (List.mem_cons_of_mem _ h)
  have hown : s.vm.findClass RX6 = some m.cls := findClass_of_methodNamed B.named
  have hlocks := B.notSynchronized
  subst hsz
  have hD := dC hD0 s.heap.size
  have hA : ∀ q : Nat, s.heap.size ≤ q → AC ad rd s.heap.size q := fun q h => Or.inr h
  have hS : va_S (AC ad rd s.heap.size) s.heap s.heap [] := va_S.rf
  have hl := lv_entry ([.ref (ad (26 + 2 * i0)), .int p1]) (n := 6) (Nat.le_of_ble_eq_true rfl)
  rw [lg_entry_eq]
  generalize (lg_sl ([.ref (ad (26 + 2 * i0)), .int p1]) ++ List.replicate (6 - (lg_sl ([.ref (ad (26 + 2 * i0)), .int p1])).length) Slot.unset).toArray = ls at hl ⊢
  have hl : lv_has ls 6 [(0, .ref (ad (26 + 2 * i0))), (1, .int p1)] := hl
  unfold FX6_encodedByte at hF
  have J76 : ∀  (fi : FI) (ar : AR) (H : Heap) (locs : List Loc) (ls : Array Slot), FX6_encodedByte_76 nf ln i0 fi ar = some (r, fi', ar') → lv_has ls 6 [(0, .ref (ad (26 + 2 * i0)))] → va_P (gD g) vwCl (WC g ad rd ln fi ar) H → va_S (AC ad rd s.heap.size) s.heap H locs → W p l e (headSpec (wx yX6_encodedByte cX6_encodedByte 6 (some .int)) ({ frames := 1, cells := 0, slots := 0, locals := 22 } : Room)).room s m ([.ref (ad (26 + 2 * i0)), .int p1] : List Value).toArray below meth c H locs 0 0 (MQ below (QCi g ad rd ln s.heap.size r fi' ar') ([.ref (ad (26 + 2 * i0)), .int p1] : List Value).toArray s 0 0 (AC ad rd s.heap.size)) (F0 m 76 ls []) := by
    intro fi ar H locs ls hF hl hP hS
    unfold FX6_encodedByte_76 at hF
    refine lv_iconst (v := (-1 : Int32)) hx hb dX6_encodedByte_76 (by decide) ?_
    exact rC_i hx hb hr hlocks hF hP hS dX6_encodedByte_77
  have L4 : ∀ kf : Nat, ∀ (x2 : Int32) (x3 : Int32) (fi : FI) (ar : AR) (H : Heap) (locs : List Loc) (ls : Array Slot), FX6_encodedByte_4 nf ln i0 kf x2 x3 fi ar = some (r, fi', ar') → lv_has ls 6 [(0, .ref (ad (26 + 2 * i0))), (2, .int x2), (3, .int x3)] → va_P (gD g) vwCl (WC g ad rd ln fi ar) H → va_S (AC ad rd s.heap.size) s.heap H locs → W p l e (headSpec (wx yX6_encodedByte cX6_encodedByte 6 (some .int)) ({ frames := 1, cells := 0, slots := 0, locals := 22 } : Room)).room s m ([.ref (ad (26 + 2 * i0)), .int p1] : List Value).toArray below meth c H locs 0 0 (MQ below (QCi g ad rd ln s.heap.size r fi' ar') ([.ref (ad (26 + 2 * i0)), .int p1] : List Value).toArray s 0 0 (AC ad rd s.heap.size)) (F0 m 4 ls []) := by
    intro kf
    induction kf with
    | zero => intro x2 x3 fi ar H locs ls hF hl hP hS; cases (show (none : Option (Int32 × FI × AR)) = _ from hF)
    | succ kf ih4 =>
      intro x2 x3 fi ar H locs ls hF hl hP hS
      obtain ⟨K4, hK4⟩ : ∃ K : Int32 → Int32 → FI → AR → Option (Int32 × FI × AR), K = FX6_encodedByte_4 nf ln i0 kf := ⟨_, rfl⟩
      replace hF : FX6_encodedByte_4b K4 nf ln i0 x2 x3 fi ar = some (r, fi', ar') := by rw [hK4]; exact hF
      rw [← hK4] at ih4
      clear hK4
      have J48 : ∀ (x2 : Int32) (x3 : Int32) (x4 : Int32) (t0 : Int32) (fi : FI) (ar : AR) (H : Heap) (locs : List Loc) (ls : Array Slot), FX6_encodedByte_48 K4 nf ln i0 x2 x3 x4 t0 fi ar = some (r, fi', ar') → lv_has ls 6 [(0, .ref (ad (26 + 2 * i0))), (2, .int x2), (3, .int x3), (4, .int x4)] → va_P (gD g) vwCl (WC g ad rd ln fi ar) H → va_S (AC ad rd s.heap.size) s.heap H locs → W p l e (headSpec (wx yX6_encodedByte cX6_encodedByte 6 (some .int)) ({ frames := 1, cells := 0, slots := 0, locals := 22 } : Room)).room s m ([.ref (ad (26 + 2 * i0)), .int p1] : List Value).toArray below meth c H locs 0 0 (MQ below (QCi g ad rd ln s.heap.size r fi' ar') ([.ref (ad (26 + 2 * i0)), .int p1] : List Value).toArray s 0 0 (AC ad rd s.heap.size)) (F0 m 48 ls [.int t0]) := by
        intro x2 x3 x4 t0 fi ar H locs ls hF hl hP hS
        unfold FX6_encodedByte_48 at hF
        refine lv_istore (lv' := [(5, .int (t0)), (0, .ref (ad (26 + 2 * i0))), (2, .int (x2)), (3, .int (x3)), (4, .int (x4))]) hx hb dX6_encodedByte_48 hl (by decide) rfl (fun ls hl => ?_)
        refine lv_iload_n hx hb dX6_encodedByte_50 rfl (lv_at hl 2 rfl) ?_
        refine lv_iload hx hb dX6_encodedByte_51 (lv_at hl 0 rfl) ?_
        refine lv_icmp_ge (tgt := 65) hx hb dX6_encodedByte_53 (by decide) (fun hc1 => ?_) (fun hc1 => ?_)
        · replace hF := br_yes hF hc1
          refine lv_iload_n hx hb dX6_encodedByte_65 rfl (lv_at hl 2 rfl) ?_
          refine lv_iload hx hb dX6_encodedByte_66 (lv_at hl 0 rfl) ?_
          refine lv_isub hx hb dX6_encodedByte_68 ?_
          obtain ⟨x2_2, ex2_2⟩ : ∃ y : Int32, y = ((x2) - (t0)) := ⟨_, rfl⟩
          rw [← ex2_2]
          replace hF := bnd_of hF ex2_2
          refine lv_istore_n (lv' := [(2, .int (x2_2)), (5, .int (t0)), (0, .ref (ad (26 + 2 * i0))), (3, .int (x3)), (4, .int (x4))]) hx hb dX6_encodedByte_69 rfl hl (by decide) rfl (fun ls hl => ?_)
          obtain ⟨x3_3, ex3_3⟩ : ∃ y : Int32, y = (x3) + (1 : Int32) := ⟨_, rfl⟩
          replace hF := bnd_of hF ex3_3
          refine lv_iinc (v := x3_3) (lv' := [(3, .int (x3_3)), (2, .int (x2_2)), (5, .int (t0)), (0, .ref (ad (26 + 2 * i0))), (4, .int (x4))]) hx hb dX6_encodedByte_70 hl (k := 3) rfl (by rw [ex3_3]; rfl) (by decide) rfl (fun ls hl => ?_)
          refine lv_goto (tgt := 4) hx hb dX6_encodedByte_73 (by decide) ?_
          exact ih4 (x2_2) (x3_3) _ _ _ _ _ hF (lv_sub hl [3, 1, 0] rfl) hP hS
        · replace hF := br_no hF hc1
          refine lv_iload hx hb dX6_encodedByte_56 (lv_at hl 4 rfl) ?_
          refine lv_iload hx hb dX6_encodedByte_58 (lv_at hl 0 rfl) ?_
          refine lv_iload_n hx hb dX6_encodedByte_60 rfl (lv_at hl 2 rfl) ?_
          replace hF := obnd_of hF
          obtain ⟨r5, h4, hF⟩ := hF
          refine cS_i (As := [.int (x4), .int (t0), .int (x2)]) (rest := []) hx hb hml hT hown hE hP hS (kX5_encoded l g nf (x4) (t0) (x2) r5 h4) cw_X5_encoded mw39_20 ⟨⟨rfl, rfl⟩, Nat.le_of_ble_eq_true rfl, Nat.le_of_ble_eq_true rfl⟩ rfl hl.1 rfl (Nat.le_of_ble_eq_true rfl) dX6_encodedByte_61 ⟨Nat.zero_le _, Nat.zero_le _⟩ (fun H locs hP hS => ?_)
          exact rC_i hx hb hr hlocks hF hP hS dX6_encodedByte_64
      unfold FX6_encodedByte_4b at hF
      refine lv_iload_n hx hb dX6_encodedByte_4 rfl (lv_at hl 2 rfl) ?_
      refine lv_aload_n hx hb dX6_encodedByte_5 rfl (lv_at hl 0 rfl) ?_
      refine cg_X6_length hi0 hx hb hT hown hK hP mw26_19 dX6_encodedByte_6 ?_
      refine lv_icmp_ge (tgt := 76) hx hb dX6_encodedByte_9 (by decide) (fun hc6 => ?_) (fun hc6 => ?_)
      · replace hF := br_yes hF hc6
        exact J76  _ _ _ _ _ hF (lv_sub hl [0] rfl) hP hS
      · replace hF := br_no hF hc6
        refine lv_iload_n hx hb dX6_encodedByte_12 rfl (lv_at hl 1 rfl) ?_
        refine lv_if_lt (tgt := 76) hx hb dX6_encodedByte_13 (by decide) (fun hc7 => ?_) (fun hc7 => ?_)
        · replace hF := br_yes hF hc7
          exact J76  _ _ _ _ _ hF (lv_sub hl [0] rfl) hP hS
        · replace hF := br_no hF hc7
          refine lv_aload_n hx hb dX6_encodedByte_16 rfl (lv_at hl 0 rfl) ?_
          refine lv_iload_n hx hb dX6_encodedByte_17 rfl (lv_at hl 2 rfl) ?_
          replace hF := obnd3_of hF
          obtain ⟨r11, fi9, ar10, h8, hF⟩ := hF
          refine cC_i (As := [.int (x3)]) (rest := []) hx hb hml hT hown hK hE hD hA hP hS (rcv_X6 hi0 hK hP) (kX6_unit l g ad rd _ nf ln i0 hi0 fi ar (x3) r11 fi9 ar10 h8) cw_X6_unit mw29_7 ⟨⟨rfl, rfl⟩, Nat.le_of_ble_eq_true rfl, Nat.le_of_ble_eq_true rfl⟩ rfl hl.1 rfl (Nat.le_of_ble_eq_true rfl) dX6_encodedByte_18 ⟨Nat.zero_le _, Nat.zero_le _⟩ (fun H locs hP hS => ?_)
          refine lv_istore (lv' := [(4, .int (r11)), (0, .ref (ad (26 + 2 * i0))), (2, .int (x2)), (3, .int (x3))]) hx hb dX6_encodedByte_21 hl (by decide) rfl (fun ls hl => ?_)
          refine lv_iload hx hb dX6_encodedByte_23 (lv_at hl 0 rfl) ?_
          refine lv_sipush (v := (128 : Int32)) hx hb dX6_encodedByte_25 (by decide) ?_
          refine lv_icmp_ge (tgt := 35) hx hb dX6_encodedByte_28 (by decide) (fun hc12 => ?_) (fun hc12 => ?_)
          · replace hF := br_yes hF hc12
            refine lv_iload hx hb dX6_encodedByte_35 (lv_at hl 0 rfl) ?_
            refine lv_sipush (v := (2048 : Int32)) hx hb dX6_encodedByte_37 (by decide) ?_
            refine lv_icmp_ge (tgt := 47) hx hb dX6_encodedByte_40 (by decide) (fun hc13 => ?_) (fun hc13 => ?_)
            · replace hF := br_yes hF hc13
              refine lv_iconst (v := (3 : Int32)) hx hb dX6_encodedByte_47 (by decide) ?_
              exact J48 (x2) (x3) (r11) (3 : Int32) _ _ _ _ _ hF (lv_sub hl [1, 2, 3, 0] rfl) hP hS
            · replace hF := br_no hF hc13
              refine lv_iconst (v := (2 : Int32)) hx hb dX6_encodedByte_43 (by decide) ?_
              refine lv_goto (tgt := 48) hx hb dX6_encodedByte_44 (by decide) ?_
              exact J48 (x2) (x3) (r11) (2 : Int32) _ _ _ _ _ hF (lv_sub hl [1, 2, 3, 0] rfl) hP hS
          · replace hF := br_no hF hc12
            refine lv_iconst (v := (1 : Int32)) hx hb dX6_encodedByte_31 (by decide) ?_
            refine lv_goto (tgt := 48) hx hb dX6_encodedByte_32 (by decide) ?_
            exact J48 (x2) (x3) (r11) (1 : Int32) _ _ _ _ _ hF (lv_sub hl [1, 2, 3, 0] rfl) hP hS
  replace hl := lv_sub hl [0, 1] rfl
  refine lv_iload_n hx hb dX6_encodedByte_0 rfl (lv_at hl 1 rfl) ?_
  refine lv_istore_n (lv' := [(2, .int (p1)), (0, .ref (ad (26 + 2 * i0))), (1, .int (p1))]) hx hb dX6_encodedByte_1 rfl hl (by decide) rfl (fun ls hl => ?_)
  refine lv_iconst (v := (0 : Int32)) hx hb dX6_encodedByte_2 (by decide) ?_
  refine lv_istore_n (lv' := [(3, .int (0 : Int32)), (2, .int (p1)), (0, .ref (ad (26 + 2 * i0))), (1, .int (p1))]) hx hb dX6_encodedByte_3 rfl hl (by decide) rfl (fun ls hl => ?_)
  exact L4 nf (p1) (0 : Int32) _ _ _ _ _ hF (lv_sub hl [2, 1, 0] rfl) hP hS
theorem cw_X6_encodedByte : (Cond.instanceMethod yX6_encodedByte ∈ TB ∧ Cond.selects RX6 yX6_encodedByte yX6_encodedByte ∈ TB ∧ Cond.code yX6_encodedByte cX6_encodedByte 6 (some .int) ∈ TB ∧ Cond.initialized RX6 ∈ TB) ∧ (yX6_encodedByte.cls = RX6 ∧ yX6_encodedByte.cls ≠ "java/lang/invoke/MethodHandle" ∧ yX6_encodedByte.cls ≠ "java/lang/invoke/VarHandle" ∧ (parseMethodDescriptor yX6_encodedByte.desc).map (fun d => d.parameters.length) = some 1) := ⟨⟨mw39_17, mw39_18, mw39_19, mw2_23⟩, by decide +kernel⟩
/-! X7_readLabel -/
noncomputable def FX7_readLabel_62 (K33 : Int32 → Int32 → FI → AR → Option (Int32 × FI × AR)) (nf : Nat) (ln : LN) (i0 : Nat) (x2 : Int32) (x3 : Int32) (x4 : Int32) (fi : FI) (ar : AR) : Option (Int32 × FI × AR) :=
  gd (¬ ((x3) < 0 ∨ ln (40 + 2 * i0) ≤ (x3).toNatClampNeg)) (bnd (va_up ar (40 + 2 * i0) (upd (ar (40 + 2 * i0)) (x3).toNatClampNeg (x4))) fun ar2 => bnd ((x3) + (1 : Int32)) fun x3_3 => K33 (x2) (x3_3) fi ar2)
noncomputable def FX7_readLabel_33b (K33 : Int32 → Int32 → FI → AR → Option (Int32 × FI × AR)) (nf : Nat) (ln : LN) (i0 : Nat) (x2 : Int32) (x3 : Int32) (fi : FI) (ar : AR) : Option (Int32 × FI × AR) :=
  br ((x2) ≤ (x3)) (some ((1 : Int32), fi, ar)) (obnd3 (FX8_at nf ln fi ar (x3)) fun r8 fi6 ar7 => br ((r8) = (32 : Int32)) (FX7_readLabel_62 K33 nf ln i0  (x2) (x3) (r8) fi6 ar7) (obnd (FX5_mayStandInShortName nf (r8)) fun r11 => br ((r11) = 0) (some ((0 : Int32), fi6, ar7)) (FX7_readLabel_62 K33 nf ln i0  (x2) (x3) (r8) fi6 ar7)))
noncomputable def FX7_readLabel_33 (nf : Nat) (ln : LN) (i0 : Nat) (kf : Nat) : Int32 → Int32 → FI → AR → Option (Int32 × FI × AR) := Nat.rec (fun _ _ _ _ => none) (fun _ K33 => FX7_readLabel_33b K33 nf ln i0) kf
noncomputable def FX7_readLabel_22 (nf : Nat) (ln : LN) (i0 : Nat) (x2 : Int32) (fi : FI) (ar : AR) : Option (Int32 × FI × AR) :=
  gd (ln (40 + 2 * i0) < 2 ^ 31) (bnd (va_up ar (40 + 2 * i0) (fillN (ar (40 + 2 * i0)) (32 : Int32) (ln (40 + 2 * i0)))) fun ar14 => FX7_readLabel_33 nf ln i0 nf (x2) (0 : Int32) fi ar14)
noncomputable def FX7_readLabel_20 (nf : Nat) (ln : LN) (i0 : Nat)  (fi : FI) (ar : AR) : Option (Int32 × FI × AR) :=
  some ((0 : Int32), fi, ar)
noncomputable def FX7_readLabel (nf : Nat) (ln : LN) (i0 : Nat) (fi : FI) (ar : AR) (x2 : Int32) : Option (Int32 × FI × AR) :=
  br ((11 : Int32) < (x2)) (FX7_readLabel_20 nf ln i0  fi ar) (br ((x2) ≤ 0) (FX7_readLabel_22 nf ln i0  (x2) fi ar) (obnd3 (FX8_at nf ln fi ar (0 : Int32)) fun r20 fi18 ar19 => br ((r20) = (32 : Int32)) (FX7_readLabel_20 nf ln i0  fi18 ar19) (FX7_readLabel_22 nf ln i0  (x2) fi18 ar19)))
set_option maxHeartbeats 4000000 in
set_option maxRecDepth 100000 in
theorem kX7_readLabel (l : Launch) (g : GT) (ad rd : Nat → Nat) (sz : Nat) (nf : Nat) (ln : LN) (i0 : Nat) (hi0 : i0 < 2) (fi : FI) (ar : AR) (p2 : Int32) (r : Int32) (fi' : FI) (ar' : AR) (hF : FX7_readLabel nf ln i0 fi ar p2 = some (r, fi', ar')) : Met l yX7_readLabel (wx yX7_readLabel cX7_readLabel 5 (some .boolean)) ({ frames := 5, cells := 0, slots := 0, locals := 111 } : Room) (va_Pc [.ref (ad (34 + 3 * i0)), .ref (ad (3)), .int p2] (PC g ad rd ln sz fi ar)) (QCi g ad rd ln sz r fi' ar') 0 0 (AC ad rd sz) := by
  refine Met.ofW (cc := cX7_readLabel) (maxL := 5) (ret := (some .boolean)) (by decide) rfl ?_
  intro p e s m args below meth c s₁ B hml hv
  obtain ⟨rfl, hsz, hP, hK, hD0, hE⟩ := hv
  have hx := B.exec
  have hb := B.bytes
  have hr := B.returns
  have hts := atoms_spec (ws := (wx yX7_readLabel cX7_readLabel 5 (some .boolean))) B.pre
  have hT : ∀ w ∈ TB, w.before _ s = true := fun w h => hts w (List.mem_cons_of_mem _ h)
  have hown : s.vm.findClass RX7 = some m.cls := findClass_of_methodNamed B.named
  have hlocks := B.notSynchronized
  subst hsz
  have hD := dC hD0 s.heap.size
  have hA : ∀ q : Nat, s.heap.size ≤ q → AC ad rd s.heap.size q := fun q h => Or.inr h
  have hS : va_S (AC ad rd s.heap.size) s.heap s.heap [] := va_S.rf
  have hl := lv_entry ([.ref (ad (34 + 3 * i0)), .ref (ad (3)), .int p2]) (n := 5) (Nat.le_of_ble_eq_true rfl)
  rw [lg_entry_eq]
  generalize (lg_sl ([.ref (ad (34 + 3 * i0)), .ref (ad (3)), .int p2]) ++ List.replicate (5 - (lg_sl ([.ref (ad (34 + 3 * i0)), .ref (ad (3)), .int p2])).length) Slot.unset).toArray = ls at hl ⊢
  have hl : lv_has ls 5 [(0, .ref (ad (34 + 3 * i0))), (1, .ref (ad (3))), (2, .int p2)] := hl
  unfold FX7_readLabel at hF
  have L33 : ∀ kf : Nat, ∀ (x2 : Int32) (x3 : Int32) (fi : FI) (ar : AR) (H : Heap) (locs : List Loc) (ls : Array Slot), FX7_readLabel_33 nf ln i0 kf x2 x3 fi ar = some (r, fi', ar') → lv_has ls 5 [(0, .ref (ad (34 + 3 * i0))), (1, .ref (ad (3))), (2, .int x2), (3, .int x3)] → va_P (gD g) vwCl (WC g ad rd ln fi ar) H → va_S (AC ad rd s.heap.size) s.heap H locs → W p l e (headSpec (wx yX7_readLabel cX7_readLabel 5 (some .boolean)) ({ frames := 5, cells := 0, slots := 0, locals := 111 } : Room)).room s m ([.ref (ad (34 + 3 * i0)), .ref (ad (3)), .int p2] : List Value).toArray below meth c H locs 0 0 (MQ below (QCi g ad rd ln s.heap.size r fi' ar') ([.ref (ad (34 + 3 * i0)), .ref (ad (3)), .int p2] : List Value).toArray s 0 0 (AC ad rd s.heap.size)) (F0 m 33 ls []) := by
    intro kf
    induction kf with
    | zero => intro x2 x3 fi ar H locs ls hF hl hP hS; cases (show (none : Option (Int32 × FI × AR)) = _ from hF)
    | succ kf ih33 =>
      intro x2 x3 fi ar H locs ls hF hl hP hS
      obtain ⟨K33, hK33⟩ : ∃ K : Int32 → Int32 → FI → AR → Option (Int32 × FI × AR), K = FX7_readLabel_33 nf ln i0 kf := ⟨_, rfl⟩
      replace hF : FX7_readLabel_33b K33 nf ln i0 x2 x3 fi ar = some (r, fi', ar') := by rw [hK33]; exact hF
      rw [← hK33] at ih33
      clear hK33
      have J62 : ∀ (x2 : Int32) (x3 : Int32) (x4 : Int32) (fi : FI) (ar : AR) (H : Heap) (locs : List Loc) (ls : Array Slot), FX7_readLabel_62 K33 nf ln i0 x2 x3 x4 fi ar = some (r, fi', ar') → lv_has ls 5 [(0, .ref (ad (34 + 3 * i0))), (1, .ref (ad (3))), (2, .int x2), (3, .int x3), (4, .int x4)] → va_P (gD g) vwCl (WC g ad rd ln fi ar) H → va_S (AC ad rd s.heap.size) s.heap H locs → W p l e (headSpec (wx yX7_readLabel cX7_readLabel 5 (some .boolean)) ({ frames := 5, cells := 0, slots := 0, locals := 111 } : Room)).room s m ([.ref (ad (34 + 3 * i0)), .ref (ad (3)), .int p2] : List Value).toArray below meth c H locs 0 0 (MQ below (QCi g ad rd ln s.heap.size r fi' ar') ([.ref (ad (34 + 3 * i0)), .ref (ad (3)), .int p2] : List Value).toArray s 0 0 (AC ad rd s.heap.size)) (F0 m 62 ls []) := by
        intro x2 x3 x4 fi ar H locs ls hF hl hP hS
        unfold FX7_readLabel_62 at hF
        refine lv_aload_n hx hb dX7_readLabel_62 rfl (lv_at hl 0 rfl) ?_
        refine cg_X7_bytes hi0 hx hb hT hown hK hP mw5_5 dX7_readLabel_63 ?_
        refine lv_iload_n hx hb dX7_readLabel_66 rfl (lv_at hl 3 rfl) ?_
        refine lv_iload hx hb dX7_readLabel_67 (lv_at hl 4 rfl) ?_
        replace hF := gd_of hF
        obtain ⟨hi1, hF⟩ := hF
        obtain ⟨ar2, ear2⟩ : ∃ y : AR, y = va_up ar (40 + 2 * i0) (upd (ar (40 + 2 * i0)) (x3).toNatClampNeg (x4)) := ⟨_, rfl⟩
        replace hF := bnd_of hF ear2
        refine cs_sbytes hi0 hx hb hK hP hD hS hi1 dX7_readLabel_69 (fun H locs hP hS => ?_)
        rw [← ear2] at hP
        obtain ⟨x3_3, ex3_3⟩ : ∃ y : Int32, y = (x3) + (1 : Int32) := ⟨_, rfl⟩
        replace hF := bnd_of hF ex3_3
        refine lv_iinc (v := x3_3) (lv' := [(3, .int (x3_3)), (0, .ref (ad (34 + 3 * i0))), (1, .ref (ad (3))), (2, .int (x2)), (4, .int (x4))]) hx hb dX7_readLabel_70 hl (k := 3) rfl (by rw [ex3_3]; rfl) (by decide) rfl (fun ls hl => ?_)
        refine lv_goto (tgt := 33) hx hb dX7_readLabel_73 (by decide) ?_
        exact ih33 (x2) (x3_3) _ _ _ _ _ hF (lv_sub hl [1, 2, 3, 0] rfl) hP hS
      unfold FX7_readLabel_33b at hF
      refine lv_iload_n hx hb dX7_readLabel_33 rfl (lv_at hl 3 rfl) ?_
      refine lv_iload_n hx hb dX7_readLabel_34 rfl (lv_at hl 2 rfl) ?_
      refine lv_icmp_ge (tgt := 76) hx hb dX7_readLabel_35 (by decide) (fun hc4 => ?_) (fun hc4 => ?_)
      · replace hF := br_yes hF hc4
        refine lv_iconst (v := (1 : Int32)) hx hb dX7_readLabel_76 (by decide) ?_
        exact rC_z hx hb hr hlocks rfl hF hP hS dX7_readLabel_77
      · replace hF := br_no hF hc4
        refine lv_aload_n hx hb dX7_readLabel_38 rfl (lv_at hl 1 rfl) ?_
        refine lv_iload_n hx hb dX7_readLabel_39 rfl (lv_at hl 3 rfl) ?_
        replace hF := obnd3_of hF
        obtain ⟨r8, fi6, ar7, h5, hF⟩ := hF
        refine cC_i (As := [.int (x3)]) (rest := []) hx hb hml hT hown hK hE hD hA hP hS (rcv_X8 hK hP) (kX8_at l g ad rd _ nf ln fi ar (x3) r8 fi6 ar7 h5) cw_X8_at mw10_3 ⟨⟨rfl, rfl⟩, Nat.le_of_ble_eq_true rfl, Nat.le_of_ble_eq_true rfl⟩ rfl hl.1 rfl (Nat.le_of_ble_eq_true rfl) dX7_readLabel_40 ⟨Nat.zero_le _, Nat.zero_le _⟩ (fun H locs hP hS => ?_)
        refine lv_istore (lv' := [(4, .int (r8)), (0, .ref (ad (34 + 3 * i0))), (1, .ref (ad (3))), (2, .int (x2)), (3, .int (x3))]) hx hb dX7_readLabel_43 hl (by decide) rfl (fun ls hl => ?_)
        refine lv_iload hx hb dX7_readLabel_45 (lv_at hl 0 rfl) ?_
        refine lv_bipush (v := (32 : Int32)) hx hb dX7_readLabel_47 (by decide) ?_
        refine lv_icmp_eq (tgt := 62) hx hb dX7_readLabel_49 (by decide) (fun hc9 => ?_) (fun hc9 => ?_)
        · replace hF := br_yes hF hc9
          exact J62 (x2) (x3) (r8) _ _ _ _ _ hF (lv_sub hl [1, 2, 3, 4, 0] rfl) hP hS
        · replace hF := br_no hF hc9
          refine lv_iload hx hb dX7_readLabel_52 (lv_at hl 0 rfl) ?_
          replace hF := obnd_of hF
          obtain ⟨r11, h10, hF⟩ := hF
          refine cS_i (As := [.int (r8)]) (rest := []) hx hb hml hT hown hE hP hS (kX5_mayStandInShortName l g nf (r8) r11 h10) cw_X5_mayStandInShortName mw10_8 ⟨⟨rfl, rfl⟩, Nat.le_of_ble_eq_true rfl, Nat.le_of_ble_eq_true rfl⟩ rfl hl.1 rfl (Nat.le_of_ble_eq_true rfl) dX7_readLabel_54 ⟨Nat.zero_le _, Nat.zero_le _⟩ (fun H locs hP hS => ?_)
          refine lv_if_ne (tgt := 62) hx hb dX7_readLabel_57 (by decide) (fun hc12 => ?_) (fun hc12 => ?_)
          · replace hF := br_no hF hc12
            exact J62 (x2) (x3) (r8) _ _ _ _ _ hF (lv_sub hl [1, 2, 3, 4, 0] rfl) hP hS
          · replace hF := br_yes hF hc12
            refine lv_iconst (v := (0 : Int32)) hx hb dX7_readLabel_60 (by decide) ?_
            exact rC_z hx hb hr hlocks rfl hF hP hS dX7_readLabel_61
  have J22 : ∀ (x2 : Int32) (fi : FI) (ar : AR) (H : Heap) (locs : List Loc) (ls : Array Slot), FX7_readLabel_22 nf ln i0 x2 fi ar = some (r, fi', ar') → lv_has ls 5 [(0, .ref (ad (34 + 3 * i0))), (1, .ref (ad (3))), (2, .int x2)] → va_P (gD g) vwCl (WC g ad rd ln fi ar) H → va_S (AC ad rd s.heap.size) s.heap H locs → W p l e (headSpec (wx yX7_readLabel cX7_readLabel 5 (some .boolean)) ({ frames := 5, cells := 0, slots := 0, locals := 111 } : Room)).room s m ([.ref (ad (34 + 3 * i0)), .ref (ad (3)), .int p2] : List Value).toArray below meth c H locs 0 0 (MQ below (QCi g ad rd ln s.heap.size r fi' ar') ([.ref (ad (34 + 3 * i0)), .ref (ad (3)), .int p2] : List Value).toArray s 0 0 (AC ad rd s.heap.size)) (F0 m 22 ls []) := by
    intro x2 fi ar H locs ls hF hl hP hS
    unfold FX7_readLabel_22 at hF
    refine lv_aload_n hx hb dX7_readLabel_22 rfl (lv_at hl 0 rfl) ?_
    refine cg_X7_bytes hi0 hx hb hT hown hK hP mw5_5 dX7_readLabel_23 ?_
    refine lv_bipush (v := (32 : Int32)) hx hb dX7_readLabel_26 (by decide) ?_
    replace hF := gd_of hF
    obtain ⟨hn13, hF⟩ := hF
    obtain ⟨ar14, ear14⟩ : ∃ y : AR, y = va_up ar (40 + 2 * i0) (fillN (ar (40 + 2 * i0)) (32 : Int32) (ln (40 + 2 * i0))) := ⟨_, rfl⟩
    replace hF := bnd_of hF ear14
    refine cFill (rest := []) hx hb hml hT hown hK hA hP (hD _ _) hS (wa_sbytes hi0) hn13 (wt_sbytes hi0 _) mw10_7 ⟨Nat.le_of_ble_eq_true rfl, Nat.le_of_ble_eq_true rfl⟩ hl.1 (Nat.le_of_ble_eq_true rfl) dX7_readLabel_28 ⟨Nat.zero_le _, Nat.zero_le _⟩ (fun H locs hP hS => ?_)
    rw [← ear14] at hP
    refine lv_iconst (v := (0 : Int32)) hx hb dX7_readLabel_31 (by decide) ?_
    refine lv_istore_n (lv' := [(3, .int (0 : Int32)), (0, .ref (ad (34 + 3 * i0))), (1, .ref (ad (3))), (2, .int (x2))]) hx hb dX7_readLabel_32 rfl hl (by decide) rfl (fun ls hl => ?_)
    exact L33 nf (x2) (0 : Int32) _ _ _ _ _ hF (lv_sub hl [1, 2, 3, 0] rfl) hP hS
  have J20 : ∀  (fi : FI) (ar : AR) (H : Heap) (locs : List Loc) (ls : Array Slot), FX7_readLabel_20 nf ln i0 fi ar = some (r, fi', ar') → lv_has ls 5 [(0, .ref (ad (34 + 3 * i0))), (1, .ref (ad (3)))] → va_P (gD g) vwCl (WC g ad rd ln fi ar) H → va_S (AC ad rd s.heap.size) s.heap H locs → W p l e (headSpec (wx yX7_readLabel cX7_readLabel 5 (some .boolean)) ({ frames := 5, cells := 0, slots := 0, locals := 111 } : Room)).room s m ([.ref (ad (34 + 3 * i0)), .ref (ad (3)), .int p2] : List Value).toArray below meth c H locs 0 0 (MQ below (QCi g ad rd ln s.heap.size r fi' ar') ([.ref (ad (34 + 3 * i0)), .ref (ad (3)), .int p2] : List Value).toArray s 0 0 (AC ad rd s.heap.size)) (F0 m 20 ls []) := by
    intro fi ar H locs ls hF hl hP hS
    unfold FX7_readLabel_20 at hF
    refine lv_iconst (v := (0 : Int32)) hx hb dX7_readLabel_20 (by decide) ?_
    exact rC_z hx hb hr hlocks rfl hF hP hS dX7_readLabel_21
  replace hl := lv_sub hl [0, 1, 2] rfl
  refine lv_iload_n hx hb dX7_readLabel_0 rfl (lv_at hl 2 rfl) ?_
  refine lv_bipush (v := (11 : Int32)) hx hb dX7_readLabel_1 (by decide) ?_
  refine lv_icmp_gt (tgt := 20) hx hb dX7_readLabel_3 (by decide) (fun hc15 => ?_) (fun hc15 => ?_)
  · replace hF := br_yes hF hc15
    exact J20  _ _ _ _ _ hF (lv_sub hl [0, 1] rfl) hP hS
  · replace hF := br_no hF hc15
    refine lv_iload_n hx hb dX7_readLabel_6 rfl (lv_at hl 2 rfl) ?_
    refine lv_if_le (tgt := 22) hx hb dX7_readLabel_7 (by decide) (fun hc16 => ?_) (fun hc16 => ?_)
    · replace hF := br_yes hF hc16
      exact J22 (p2) _ _ _ _ _ hF (lv_sub hl [0, 1, 2] rfl) hP hS
    · replace hF := br_no hF hc16
      refine lv_aload_n hx hb dX7_readLabel_10 rfl (lv_at hl 1 rfl) ?_
      refine lv_iconst (v := (0 : Int32)) hx hb dX7_readLabel_11 (by decide) ?_
      replace hF := obnd3_of hF
      obtain ⟨r20, fi18, ar19, h17, hF⟩ := hF
      refine cC_i (As := [.int (0 : Int32)]) (rest := []) hx hb hml hT hown hK hE hD hA hP hS (rcv_X8 hK hP) (kX8_at l g ad rd _ nf ln fi ar (0 : Int32) r20 fi18 ar19 h17) cw_X8_at mw10_3 ⟨⟨rfl, rfl⟩, Nat.le_of_ble_eq_true rfl, Nat.le_of_ble_eq_true rfl⟩ rfl hl.1 rfl (Nat.le_of_ble_eq_true rfl) dX7_readLabel_12 ⟨Nat.zero_le _, Nat.zero_le _⟩ (fun H locs hP hS => ?_)
      refine lv_bipush (v := (32 : Int32)) hx hb dX7_readLabel_15 (by decide) ?_
      refine lv_icmp_ne (tgt := 22) hx hb dX7_readLabel_17 (by decide) (fun hc21 => ?_) (fun hc21 => ?_)
      · replace hF := br_no hF hc21
        exact J22 (p2) _ _ _ _ _ hF (lv_sub hl [0, 1, 2] rfl) hP hS
      · replace hF := br_yes hF hc21
        exact J20  _ _ _ _ _ hF (lv_sub hl [0, 1] rfl) hP hS
theorem cw_X7_readLabel : (Cond.instanceMethod yX7_readLabel ∈ TB ∧ Cond.selects RX7 yX7_readLabel yX7_readLabel ∈ TB ∧ Cond.code yX7_readLabel cX7_readLabel 5 (some .boolean) ∈ TB ∧ Cond.initialized RX7 ∈ TB) ∧ (yX7_readLabel.cls = RX7 ∧ yX7_readLabel.cls ≠ "java/lang/invoke/MethodHandle" ∧ yX7_readLabel.cls ≠ "java/lang/invoke/VarHandle" ∧ (parseMethodDescriptor yX7_readLabel.desc).map (fun d => d.parameters.length) = some 2) := ⟨⟨mw10_0, mw10_1, mw10_2, mw3_4⟩, by decide +kernel⟩
/-! X7_readShown -/
noncomputable def FX7_readShown_116 (nf : Nat) (ln : LN) (i0 : Nat) (i1 : Nat) (t0 : Int32) (fi : FI) (ar : AR) : Option (Int32 × FI × AR) :=
  gd ((t0) &&& 1 = (t0)) (some ((t0), fi, ar))
noncomputable def FX7_readShown_115 (nf : Nat) (ln : LN) (i0 : Nat) (i1 : Nat)  (fi : FI) (ar : AR) : Option (Int32 × FI × AR) :=
  FX7_readShown_116 nf ln i0 i1  (0 : Int32) fi ar
noncomputable def FX7_readShown_111 (nf : Nat) (ln : LN) (i0 : Nat) (i1 : Nat)  (fi : FI) (ar : AR) : Option (Int32 × FI × AR) :=
  FX7_readShown_116 nf ln i0 i1  (1 : Int32) fi ar
noncomputable def FX7_readShown_89 (K17 : Int32 → Int32 → Int32 → FI → AR → Option (Int32 × FI × AR)) (nf : Nat) (ln : LN) (i0 : Nat) (i1 : Nat) (x2 : Int32) (x3 : Int32) (x4 : Int32) (fi : FI) (ar : AR) : Option (Int32 × FI × AR) :=
  bnd ((x4) + (1 : Int32)) fun x4_2 => K17 (x2) (x3) (x4_2) fi ar
noncomputable def FX7_readShown_87 (nf : Nat) (ln : LN) (i0 : Nat) (i1 : Nat)  (fi : FI) (ar : AR) : Option (Int32 × FI × AR) :=
  some ((0 : Int32), fi, ar)
noncomputable def FX7_readShown_60 (K17 : Int32 → Int32 → Int32 → FI → AR → Option (Int32 × FI × AR)) (nf : Nat) (ln : LN) (i0 : Nat) (i1 : Nat) (x2 : Int32) (x3 : Int32) (x4 : Int32) (x5 : Int32) (fi : FI) (ar : AR) : Option (Int32 × FI × AR) :=
  br ((x3) ≤ (x2)) (FX7_readShown_87 nf ln i0 i1  fi ar) (obnd (FX5_mayStandInShortName nf (x5)) fun r5 => br ((r5) = 0) (FX7_readShown_87 nf ln i0 i1  fi ar) (gd (¬ ((x2) < 0 ∨ ln (40 + 2 * i0) ≤ (x2).toNatClampNeg)) (bnd (va_up ar (40 + 2 * i0) (upd (ar (40 + 2 * i0)) (x2).toNatClampNeg (x5))) fun ar8 => bnd ((x2) + (1 : Int32)) fun x2_9 => FX7_readShown_89 K17 nf ln i0 i1  (x2_9) (x3) (x4) fi ar8)))
noncomputable def FX7_readShown_17b (K17 : Int32 → Int32 → Int32 → FI → AR → Option (Int32 × FI × AR)) (nf : Nat) (ln : LN) (i0 : Nat) (i1 : Nat) (x2 : Int32) (x3 : Int32) (x4 : Int32) (fi : FI) (ar : AR) : Option (Int32 × FI × AR) :=
  br ((fi (60 + i1)) ≤ (x4)) (br ((x2) ≤ 0) (FX7_readShown_115 nf ln i0 i1  fi ar) (br ((x3) = (8 : Int32)) (FX7_readShown_111 nf ln i0 i1  fi ar) (br ((x2) ≤ (8 : Int32)) (FX7_readShown_115 nf ln i0 i1  fi ar) (FX7_readShown_111 nf ln i0 i1  fi ar)))) (obnd3 (FX6_unit nf ln i1 fi ar (x4)) fun r17 fi15 ar16 => br ((r17) = (46 : Int32)) (br ((x2) ≤ 0) (FX7_readShown_60 K17 nf ln i0 i1  (x2) (x3) (x4) (r17) fi15 ar16) (br ((x3) = (8 : Int32)) (FX7_readShown_89 K17 nf ln i0 i1  (8 : Int32) (11 : Int32) (x4) fi15 ar16) (FX7_readShown_60 K17 nf ln i0 i1  (x2) (x3) (x4) (r17) fi15 ar16))) (FX7_readShown_60 K17 nf ln i0 i1  (x2) (x3) (x4) (r17) fi15 ar16))
noncomputable def FX7_readShown_17 (nf : Nat) (ln : LN) (i0 : Nat) (i1 : Nat) (kf : Nat) : Int32 → Int32 → Int32 → FI → AR → Option (Int32 × FI × AR) := Nat.rec (fun _ _ _ _ _ => none) (fun _ K17 => FX7_readShown_17b K17 nf ln i0 i1) kf
noncomputable def FX7_readShown (nf : Nat) (ln : LN) (i0 : Nat) (i1 : Nat) (fi : FI) (ar : AR)  : Option (Int32 × FI × AR) :=
  gd (ln (40 + 2 * i0) < 2 ^ 31) (bnd (va_up ar (40 + 2 * i0) (fillN (ar (40 + 2 * i0)) (32 : Int32) (ln (40 + 2 * i0)))) fun ar22 => FX7_readShown_17 nf ln i0 i1 nf (0 : Int32) (8 : Int32) (0 : Int32) fi ar22)
set_option maxHeartbeats 4000000 in
set_option maxRecDepth 100000 in
theorem kX7_readShown (l : Launch) (g : GT) (ad rd : Nat → Nat) (sz : Nat) (nf : Nat) (ln : LN) (i0 : Nat) (i1 : Nat) (hi0 : i0 < 2) (hi1 : i1 < 4) (fi : FI) (ar : AR)  (r : Int32) (fi' : FI) (ar' : AR) (hF : FX7_readShown nf ln i0 i1 fi ar  = some (r, fi', ar')) : Met l yX7_readShown (wx yX7_readShown cX7_readShown 6 (some .boolean)) ({ frames := 5, cells := 0, slots := 0, locals := 111 } : Room) (va_Pc [.ref (ad (34 + 3 * i0)), .ref (ad (26 + 2 * i1))] (PC g ad rd ln sz fi ar)) (QCi g ad rd ln sz r fi' ar') 0 0 (AC ad rd sz) := by
  refine Met.ofW (cc := cX7_readShown) (maxL := 6) (ret := (some .boolean)) (by decide) rfl ?_
  intro p e s m args below meth c s₁ B hml hv
  obtain ⟨rfl, hsz, hP, hK, hD0, hE⟩ := hv
  have hx := B.exec
  have hb := B.bytes
  have hr := B.returns
  have hts := atoms_spec (ws := (wx yX7_readShown cX7_readShown 6 (some .boolean))) B.pre
  have hT : ∀ w ∈ TB, w.before _ s = true := fun w h => hts w (List.mem_cons_of_mem _ h)
  have hown : s.vm.findClass RX7 = some m.cls := findClass_of_methodNamed B.named
  have hlocks := B.notSynchronized
  subst hsz
  have hD := dC hD0 s.heap.size
  have hA : ∀ q : Nat, s.heap.size ≤ q → AC ad rd s.heap.size q := fun q h => Or.inr h
  have hS : va_S (AC ad rd s.heap.size) s.heap s.heap [] := va_S.rf
  have hl := lv_entry ([.ref (ad (34 + 3 * i0)), .ref (ad (26 + 2 * i1))]) (n := 6) (Nat.le_of_ble_eq_true rfl)
  rw [lg_entry_eq]
  generalize (lg_sl ([.ref (ad (34 + 3 * i0)), .ref (ad (26 + 2 * i1))]) ++ List.replicate (6 - (lg_sl ([.ref (ad (34 + 3 * i0)), .ref (ad (26 + 2 * i1))])).length) Slot.unset).toArray = ls at hl ⊢
  have hl : lv_has ls 6 [(0, .ref (ad (34 + 3 * i0))), (1, .ref (ad (26 + 2 * i1)))] := hl
  unfold FX7_readShown at hF
  have J116 : ∀ (t0 : Int32) (fi : FI) (ar : AR) (H : Heap) (locs : List Loc) (ls : Array Slot), FX7_readShown_116 nf ln i0 i1 t0 fi ar = some (r, fi', ar') → lv_has ls 6 [(0, .ref (ad (34 + 3 * i0))), (1, .ref (ad (26 + 2 * i1)))] → va_P (gD g) vwCl (WC g ad rd ln fi ar) H → va_S (AC ad rd s.heap.size) s.heap H locs → W p l e (headSpec (wx yX7_readShown cX7_readShown 6 (some .boolean)) ({ frames := 5, cells := 0, slots := 0, locals := 111 } : Room)).room s m ([.ref (ad (34 + 3 * i0)), .ref (ad (26 + 2 * i1))] : List Value).toArray below meth c H locs 0 0 (MQ below (QCi g ad rd ln s.heap.size r fi' ar') ([.ref (ad (34 + 3 * i0)), .ref (ad (26 + 2 * i1))] : List Value).toArray s 0 0 (AC ad rd s.heap.size)) (F0 m 116 ls [.int t0]) := by
    intro t0 fi ar H locs ls hF hl hP hS
    unfold FX7_readShown_116 at hF
    replace hF := gd_of hF
    obtain ⟨hz1, hF⟩ := hF
    exact rC_z hx hb hr hlocks (nar_z hz1) hF hP hS dX7_readShown_116
  have J115 : ∀  (fi : FI) (ar : AR) (H : Heap) (locs : List Loc) (ls : Array Slot), FX7_readShown_115 nf ln i0 i1 fi ar = some (r, fi', ar') → lv_has ls 6 [(0, .ref (ad (34 + 3 * i0))), (1, .ref (ad (26 + 2 * i1)))] → va_P (gD g) vwCl (WC g ad rd ln fi ar) H → va_S (AC ad rd s.heap.size) s.heap H locs → W p l e (headSpec (wx yX7_readShown cX7_readShown 6 (some .boolean)) ({ frames := 5, cells := 0, slots := 0, locals := 111 } : Room)).room s m ([.ref (ad (34 + 3 * i0)), .ref (ad (26 + 2 * i1))] : List Value).toArray below meth c H locs 0 0 (MQ below (QCi g ad rd ln s.heap.size r fi' ar') ([.ref (ad (34 + 3 * i0)), .ref (ad (26 + 2 * i1))] : List Value).toArray s 0 0 (AC ad rd s.heap.size)) (F0 m 115 ls []) := by
    intro fi ar H locs ls hF hl hP hS
    unfold FX7_readShown_115 at hF
    refine lv_iconst (v := (0 : Int32)) hx hb dX7_readShown_115 (by decide) ?_
    exact J116 (0 : Int32) _ _ _ _ _ hF (lv_sub hl [0, 1] rfl) hP hS
  have J111 : ∀  (fi : FI) (ar : AR) (H : Heap) (locs : List Loc) (ls : Array Slot), FX7_readShown_111 nf ln i0 i1 fi ar = some (r, fi', ar') → lv_has ls 6 [(0, .ref (ad (34 + 3 * i0))), (1, .ref (ad (26 + 2 * i1)))] → va_P (gD g) vwCl (WC g ad rd ln fi ar) H → va_S (AC ad rd s.heap.size) s.heap H locs → W p l e (headSpec (wx yX7_readShown cX7_readShown 6 (some .boolean)) ({ frames := 5, cells := 0, slots := 0, locals := 111 } : Room)).room s m ([.ref (ad (34 + 3 * i0)), .ref (ad (26 + 2 * i1))] : List Value).toArray below meth c H locs 0 0 (MQ below (QCi g ad rd ln s.heap.size r fi' ar') ([.ref (ad (34 + 3 * i0)), .ref (ad (26 + 2 * i1))] : List Value).toArray s 0 0 (AC ad rd s.heap.size)) (F0 m 111 ls []) := by
    intro fi ar H locs ls hF hl hP hS
    unfold FX7_readShown_111 at hF
    refine lv_iconst (v := (1 : Int32)) hx hb dX7_readShown_111 (by decide) ?_
    refine lv_goto (tgt := 116) hx hb dX7_readShown_112 (by decide) ?_
    exact J116 (1 : Int32) _ _ _ _ _ hF (lv_sub hl [0, 1] rfl) hP hS
  have J87 : ∀  (fi : FI) (ar : AR) (H : Heap) (locs : List Loc) (ls : Array Slot), FX7_readShown_87 nf ln i0 i1 fi ar = some (r, fi', ar') → lv_has ls 6 [(0, .ref (ad (34 + 3 * i0))), (1, .ref (ad (26 + 2 * i1)))] → va_P (gD g) vwCl (WC g ad rd ln fi ar) H → va_S (AC ad rd s.heap.size) s.heap H locs → W p l e (headSpec (wx yX7_readShown cX7_readShown 6 (some .boolean)) ({ frames := 5, cells := 0, slots := 0, locals := 111 } : Room)).room s m ([.ref (ad (34 + 3 * i0)), .ref (ad (26 + 2 * i1))] : List Value).toArray below meth c H locs 0 0 (MQ below (QCi g ad rd ln s.heap.size r fi' ar') ([.ref (ad (34 + 3 * i0)), .ref (ad (26 + 2 * i1))] : List Value).toArray s 0 0 (AC ad rd s.heap.size)) (F0 m 87 ls []) := by
    intro fi ar H locs ls hF hl hP hS
    unfold FX7_readShown_87 at hF
    refine lv_iconst (v := (0 : Int32)) hx hb dX7_readShown_87 (by decide) ?_
    exact rC_z hx hb hr hlocks rfl hF hP hS dX7_readShown_88
  have L17 : ∀ kf : Nat, ∀ (x2 : Int32) (x3 : Int32) (x4 : Int32) (fi : FI) (ar : AR) (H : Heap) (locs : List Loc) (ls : Array Slot), FX7_readShown_17 nf ln i0 i1 kf x2 x3 x4 fi ar = some (r, fi', ar') → lv_has ls 6 [(0, .ref (ad (34 + 3 * i0))), (1, .ref (ad (26 + 2 * i1))), (2, .int x2), (3, .int x3), (4, .int x4)] → va_P (gD g) vwCl (WC g ad rd ln fi ar) H → va_S (AC ad rd s.heap.size) s.heap H locs → W p l e (headSpec (wx yX7_readShown cX7_readShown 6 (some .boolean)) ({ frames := 5, cells := 0, slots := 0, locals := 111 } : Room)).room s m ([.ref (ad (34 + 3 * i0)), .ref (ad (26 + 2 * i1))] : List Value).toArray below meth c H locs 0 0 (MQ below (QCi g ad rd ln s.heap.size r fi' ar') ([.ref (ad (34 + 3 * i0)), .ref (ad (26 + 2 * i1))] : List Value).toArray s 0 0 (AC ad rd s.heap.size)) (F0 m 17 ls []) := by
    intro kf
    induction kf with
    | zero => intro x2 x3 x4 fi ar H locs ls hF hl hP hS; cases (show (none : Option (Int32 × FI × AR)) = _ from hF)
    | succ kf ih17 =>
      intro x2 x3 x4 fi ar H locs ls hF hl hP hS
      obtain ⟨K17, hK17⟩ : ∃ K : Int32 → Int32 → Int32 → FI → AR → Option (Int32 × FI × AR), K = FX7_readShown_17 nf ln i0 i1 kf := ⟨_, rfl⟩
      replace hF : FX7_readShown_17b K17 nf ln i0 i1 x2 x3 x4 fi ar = some (r, fi', ar') := by rw [hK17]; exact hF
      rw [← hK17] at ih17
      clear hK17
      have J89 : ∀ (x2 : Int32) (x3 : Int32) (x4 : Int32) (fi : FI) (ar : AR) (H : Heap) (locs : List Loc) (ls : Array Slot), FX7_readShown_89 K17 nf ln i0 i1 x2 x3 x4 fi ar = some (r, fi', ar') → lv_has ls 6 [(0, .ref (ad (34 + 3 * i0))), (1, .ref (ad (26 + 2 * i1))), (2, .int x2), (3, .int x3), (4, .int x4)] → va_P (gD g) vwCl (WC g ad rd ln fi ar) H → va_S (AC ad rd s.heap.size) s.heap H locs → W p l e (headSpec (wx yX7_readShown cX7_readShown 6 (some .boolean)) ({ frames := 5, cells := 0, slots := 0, locals := 111 } : Room)).room s m ([.ref (ad (34 + 3 * i0)), .ref (ad (26 + 2 * i1))] : List Value).toArray below meth c H locs 0 0 (MQ below (QCi g ad rd ln s.heap.size r fi' ar') ([.ref (ad (34 + 3 * i0)), .ref (ad (26 + 2 * i1))] : List Value).toArray s 0 0 (AC ad rd s.heap.size)) (F0 m 89 ls []) := by
        intro x2 x3 x4 fi ar H locs ls hF hl hP hS
        unfold FX7_readShown_89 at hF
        obtain ⟨x4_2, ex4_2⟩ : ∃ y : Int32, y = (x4) + (1 : Int32) := ⟨_, rfl⟩
        replace hF := bnd_of hF ex4_2
        refine lv_iinc (v := x4_2) (lv' := [(4, .int (x4_2)), (0, .ref (ad (34 + 3 * i0))), (1, .ref (ad (26 + 2 * i1))), (2, .int (x2)), (3, .int (x3))]) hx hb dX7_readShown_89 hl (k := 4) rfl (by rw [ex4_2]; rfl) (by decide) rfl (fun ls hl => ?_)
        refine lv_goto (tgt := 17) hx hb dX7_readShown_92 (by decide) ?_
        exact ih17 (x2) (x3) (x4_2) _ _ _ _ _ hF (lv_sub hl [1, 2, 3, 4, 0] rfl) hP hS
      have J60 : ∀ (x2 : Int32) (x3 : Int32) (x4 : Int32) (x5 : Int32) (fi : FI) (ar : AR) (H : Heap) (locs : List Loc) (ls : Array Slot), FX7_readShown_60 K17 nf ln i0 i1 x2 x3 x4 x5 fi ar = some (r, fi', ar') → lv_has ls 6 [(0, .ref (ad (34 + 3 * i0))), (1, .ref (ad (26 + 2 * i1))), (2, .int x2), (3, .int x3), (4, .int x4), (5, .int x5)] → va_P (gD g) vwCl (WC g ad rd ln fi ar) H → va_S (AC ad rd s.heap.size) s.heap H locs → W p l e (headSpec (wx yX7_readShown cX7_readShown 6 (some .boolean)) ({ frames := 5, cells := 0, slots := 0, locals := 111 } : Room)).room s m ([.ref (ad (34 + 3 * i0)), .ref (ad (26 + 2 * i1))] : List Value).toArray below meth c H locs 0 0 (MQ below (QCi g ad rd ln s.heap.size r fi' ar') ([.ref (ad (34 + 3 * i0)), .ref (ad (26 + 2 * i1))] : List Value).toArray s 0 0 (AC ad rd s.heap.size)) (F0 m 60 ls []) := by
        intro x2 x3 x4 x5 fi ar H locs ls hF hl hP hS
        unfold FX7_readShown_60 at hF
        refine lv_iload_n hx hb dX7_readShown_60 rfl (lv_at hl 2 rfl) ?_
        refine lv_iload_n hx hb dX7_readShown_61 rfl (lv_at hl 3 rfl) ?_
        refine lv_icmp_ge (tgt := 87) hx hb dX7_readShown_62 (by decide) (fun hc3 => ?_) (fun hc3 => ?_)
        · replace hF := br_yes hF hc3
          exact J87  _ _ _ _ _ hF (lv_sub hl [0, 1] rfl) hP hS
        · replace hF := br_no hF hc3
          refine lv_iload hx hb dX7_readShown_65 (lv_at hl 5 rfl) ?_
          replace hF := obnd_of hF
          obtain ⟨r5, h4, hF⟩ := hF
          refine cS_i (As := [.int (x5)]) (rest := []) hx hb hml hT hown hE hP hS (kX5_mayStandInShortName l g nf (x5) r5 h4) cw_X5_mayStandInShortName mw10_8 ⟨⟨rfl, rfl⟩, Nat.le_of_ble_eq_true rfl, Nat.le_of_ble_eq_true rfl⟩ rfl hl.1 rfl (Nat.le_of_ble_eq_true rfl) dX7_readShown_67 ⟨Nat.zero_le _, Nat.zero_le _⟩ (fun H locs hP hS => ?_)
          refine lv_if_eq (tgt := 87) hx hb dX7_readShown_70 (by decide) (fun hc6 => ?_) (fun hc6 => ?_)
          · replace hF := br_yes hF hc6
            exact J87  _ _ _ _ _ hF (lv_sub hl [0, 1] rfl) hP hS
          · replace hF := br_no hF hc6
            refine lv_aload_n hx hb dX7_readShown_73 rfl (lv_at hl 0 rfl) ?_
            refine cg_X7_bytes hi0 hx hb hT hown hK hP mw5_5 dX7_readShown_74 ?_
            refine lv_iload_n hx hb dX7_readShown_77 rfl (lv_at hl 2 rfl) ?_
            refine lv_iload hx hb dX7_readShown_78 (lv_at hl 5 rfl) ?_
            replace hF := gd_of hF
            obtain ⟨hi7, hF⟩ := hF
            obtain ⟨ar8, ear8⟩ : ∃ y : AR, y = va_up ar (40 + 2 * i0) (upd (ar (40 + 2 * i0)) (x2).toNatClampNeg (x5)) := ⟨_, rfl⟩
            replace hF := bnd_of hF ear8
            refine cs_sbytes hi0 hx hb hK hP hD hS hi7 dX7_readShown_80 (fun H locs hP hS => ?_)
            rw [← ear8] at hP
            obtain ⟨x2_9, ex2_9⟩ : ∃ y : Int32, y = (x2) + (1 : Int32) := ⟨_, rfl⟩
            replace hF := bnd_of hF ex2_9
            refine lv_iinc (v := x2_9) (lv' := [(2, .int (x2_9)), (0, .ref (ad (34 + 3 * i0))), (1, .ref (ad (26 + 2 * i1))), (3, .int (x3)), (4, .int (x4)), (5, .int (x5))]) hx hb dX7_readShown_81 hl (k := 2) rfl (by rw [ex2_9]; rfl) (by decide) rfl (fun ls hl => ?_)
            refine lv_goto (tgt := 89) hx hb dX7_readShown_84 (by decide) ?_
            exact J89 (x2_9) (x3) (x4) _ _ _ _ _ hF (lv_sub hl [1, 2, 0, 3, 4] rfl) hP hS
      unfold FX7_readShown_17b at hF
      refine lv_iload hx hb dX7_readShown_17 (lv_at hl 4 rfl) ?_
      refine lv_aload_n hx hb dX7_readShown_19 rfl (lv_at hl 1 rfl) ?_
      refine cg_X6_length hi1 hx hb hT hown hK hP mw45_12 dX7_readShown_20 ?_
      refine lv_icmp_ge (tgt := 95) hx hb dX7_readShown_23 (by decide) (fun hc10 => ?_) (fun hc10 => ?_)
      · replace hF := br_yes hF hc10
        refine lv_iload_n hx hb dX7_readShown_95 rfl (lv_at hl 2 rfl) ?_
        refine lv_if_le (tgt := 115) hx hb dX7_readShown_96 (by decide) (fun hc11 => ?_) (fun hc11 => ?_)
        · replace hF := br_yes hF hc11
          exact J115  _ _ _ _ _ hF (lv_sub hl [0, 1] rfl) hP hS
        · replace hF := br_no hF hc11
          refine lv_iload_n hx hb dX7_readShown_99 rfl (lv_at hl 3 rfl) ?_
          refine lv_bipush (v := (8 : Int32)) hx hb dX7_readShown_100 (by decide) ?_
          refine lv_icmp_eq (tgt := 111) hx hb dX7_readShown_102 (by decide) (fun hc12 => ?_) (fun hc12 => ?_)
          · replace hF := br_yes hF hc12
            exact J111  _ _ _ _ _ hF (lv_sub hl [0, 1] rfl) hP hS
          · replace hF := br_no hF hc12
            refine lv_iload_n hx hb dX7_readShown_105 rfl (lv_at hl 2 rfl) ?_
            refine lv_bipush (v := (8 : Int32)) hx hb dX7_readShown_106 (by decide) ?_
            refine lv_icmp_le (tgt := 115) hx hb dX7_readShown_108 (by decide) (fun hc13 => ?_) (fun hc13 => ?_)
            · replace hF := br_yes hF hc13
              exact J115  _ _ _ _ _ hF (lv_sub hl [0, 1] rfl) hP hS
            · replace hF := br_no hF hc13
              exact J111  _ _ _ _ _ hF (lv_sub hl [0, 1] rfl) hP hS
      · replace hF := br_no hF hc10
        refine lv_aload_n hx hb dX7_readShown_26 rfl (lv_at hl 1 rfl) ?_
        refine lv_iload hx hb dX7_readShown_27 (lv_at hl 4 rfl) ?_
        replace hF := obnd3_of hF
        obtain ⟨r17, fi15, ar16, h14, hF⟩ := hF
        refine cC_i (As := [.int (x4)]) (rest := []) hx hb hml hT hown hK hE hD hA hP hS (rcv_X6 hi1 hK hP) (kX6_unit l g ad rd _ nf ln i1 hi1 fi ar (x4) r17 fi15 ar16 h14) cw_X6_unit mw45_13 ⟨⟨rfl, rfl⟩, Nat.le_of_ble_eq_true rfl, Nat.le_of_ble_eq_true rfl⟩ rfl hl.1 rfl (Nat.le_of_ble_eq_true rfl) dX7_readShown_29 ⟨Nat.zero_le _, Nat.zero_le _⟩ (fun H locs hP hS => ?_)
        refine lv_istore (lv' := [(5, .int (r17)), (0, .ref (ad (34 + 3 * i0))), (1, .ref (ad (26 + 2 * i1))), (2, .int (x2)), (3, .int (x3)), (4, .int (x4))]) hx hb dX7_readShown_32 hl (by decide) rfl (fun ls hl => ?_)
        refine lv_iload hx hb dX7_readShown_34 (lv_at hl 0 rfl) ?_
        refine lv_bipush (v := (46 : Int32)) hx hb dX7_readShown_36 (by decide) ?_
        refine lv_icmp_ne (tgt := 60) hx hb dX7_readShown_38 (by decide) (fun hc18 => ?_) (fun hc18 => ?_)
        · replace hF := br_no hF hc18
          exact J60 (x2) (x3) (x4) (r17) _ _ _ _ _ hF (lv_sub hl [1, 2, 3, 4, 5, 0] rfl) hP hS
        · replace hF := br_yes hF hc18
          refine lv_iload_n hx hb dX7_readShown_41 rfl (lv_at hl 3 rfl) ?_
          refine lv_if_le (tgt := 60) hx hb dX7_readShown_42 (by decide) (fun hc19 => ?_) (fun hc19 => ?_)
          · replace hF := br_yes hF hc19
            exact J60 (x2) (x3) (x4) (r17) _ _ _ _ _ hF (lv_sub hl [1, 2, 3, 4, 5, 0] rfl) hP hS
          · replace hF := br_no hF hc19
            refine lv_iload_n hx hb dX7_readShown_45 rfl (lv_at hl 4 rfl) ?_
            refine lv_bipush (v := (8 : Int32)) hx hb dX7_readShown_46 (by decide) ?_
            refine lv_icmp_ne (tgt := 60) hx hb dX7_readShown_48 (by decide) (fun hc20 => ?_) (fun hc20 => ?_)
            · replace hF := br_no hF hc20
              exact J60 (x2) (x3) (x4) (r17) _ _ _ _ _ hF (lv_sub hl [1, 2, 3, 4, 5, 0] rfl) hP hS
            · replace hF := br_yes hF hc20
              refine lv_bipush (v := (8 : Int32)) hx hb dX7_readShown_51 (by decide) ?_
              refine lv_istore_n (lv' := [(2, .int (8 : Int32)), (5, .int (r17)), (0, .ref (ad (34 + 3 * i0))), (1, .ref (ad (26 + 2 * i1))), (3, .int (x3)), (4, .int (x4))]) hx hb dX7_readShown_53 rfl hl (by decide) rfl (fun ls hl => ?_)
              refine lv_bipush (v := (11 : Int32)) hx hb dX7_readShown_54 (by decide) ?_
              refine lv_istore_n (lv' := [(3, .int (11 : Int32)), (2, .int (8 : Int32)), (5, .int (r17)), (0, .ref (ad (34 + 3 * i0))), (1, .ref (ad (26 + 2 * i1))), (4, .int (x4))]) hx hb dX7_readShown_56 rfl hl (by decide) rfl (fun ls hl => ?_)
              refine lv_goto (tgt := 89) hx hb dX7_readShown_57 (by decide) ?_
              exact J89 (8 : Int32) (11 : Int32) (x4) _ _ _ _ _ hF (lv_sub hl [3, 4, 1, 0, 5] rfl) hP hS
  replace hl := lv_sub hl [0, 1] rfl
  refine lv_aload_n hx hb dX7_readShown_0 rfl (lv_at hl 0 rfl) ?_
  refine cg_X7_bytes hi0 hx hb hT hown hK hP mw5_5 dX7_readShown_1 ?_
  refine lv_bipush (v := (32 : Int32)) hx hb dX7_readShown_4 (by decide) ?_
  replace hF := gd_of hF
  obtain ⟨hn21, hF⟩ := hF
  obtain ⟨ar22, ear22⟩ : ∃ y : AR, y = va_up ar (40 + 2 * i0) (fillN (ar (40 + 2 * i0)) (32 : Int32) (ln (40 + 2 * i0))) := ⟨_, rfl⟩
  replace hF := bnd_of hF ear22
  refine cFill (rest := []) hx hb hml hT hown hK hA hP (hD _ _) hS (wa_sbytes hi0) hn21 (wt_sbytes hi0 _) mw10_7 ⟨Nat.le_of_ble_eq_true rfl, Nat.le_of_ble_eq_true rfl⟩ hl.1 (Nat.le_of_ble_eq_true rfl) dX7_readShown_6 ⟨Nat.zero_le _, Nat.zero_le _⟩ (fun H locs hP hS => ?_)
  rw [← ear22] at hP
  refine lv_iconst (v := (0 : Int32)) hx hb dX7_readShown_9 (by decide) ?_
  refine lv_istore_n (lv' := [(2, .int (0 : Int32)), (0, .ref (ad (34 + 3 * i0))), (1, .ref (ad (26 + 2 * i1)))]) hx hb dX7_readShown_10 rfl hl (by decide) rfl (fun ls hl => ?_)
  refine lv_bipush (v := (8 : Int32)) hx hb dX7_readShown_11 (by decide) ?_
  refine lv_istore_n (lv' := [(3, .int (8 : Int32)), (2, .int (0 : Int32)), (0, .ref (ad (34 + 3 * i0))), (1, .ref (ad (26 + 2 * i1)))]) hx hb dX7_readShown_13 rfl hl (by decide) rfl (fun ls hl => ?_)
  refine lv_iconst (v := (0 : Int32)) hx hb dX7_readShown_14 (by decide) ?_
  refine lv_istore (lv' := [(4, .int (0 : Int32)), (3, .int (8 : Int32)), (2, .int (0 : Int32)), (0, .ref (ad (34 + 3 * i0))), (1, .ref (ad (26 + 2 * i1)))]) hx hb dX7_readShown_15 hl (by decide) rfl (fun ls hl => ?_)
  exact L17 nf (0 : Int32) (8 : Int32) (0 : Int32) _ _ _ _ _ hF (lv_sub hl [3, 4, 2, 1, 0] rfl) hP hS
theorem cw_X7_readShown : (Cond.instanceMethod yX7_readShown ∈ TB ∧ Cond.selects RX7 yX7_readShown yX7_readShown ∈ TB ∧ Cond.code yX7_readShown cX7_readShown 6 (some .boolean) ∈ TB ∧ Cond.initialized RX7 ∈ TB) ∧ (yX7_readShown.cls = RX7 ∧ yX7_readShown.cls ≠ "java/lang/invoke/MethodHandle" ∧ yX7_readShown.cls ≠ "java/lang/invoke/VarHandle" ∧ (parseMethodDescriptor yX7_readShown.desc).map (fun d => d.parameters.length) = some 1) := ⟨⟨mw45_9, mw45_10, mw45_11, mw3_4⟩, by decide +kernel⟩
/-! X7_readLong -/
noncomputable def FX7_readLong_155 (nf : Nat) (ln : LN) (i0 : Nat) (i1 : Nat)  (fi : FI) (ar : AR) : Option (Unit × FI × AR) :=
  some ((), fi, ar)
noncomputable def FX7_readLong_149 (K105 : Int32 → Int32 → FI → AR → Option (Unit × FI × AR)) (nf : Nat) (ln : LN) (i0 : Nat) (i1 : Nat) (x4 : Int32) (x5 : Int32) (fi : FI) (ar : AR) : Option (Unit × FI × AR) :=
  bnd ((x5) + (1 : Int32)) fun x5_1 => K105 (x4) (x5_1) fi ar
noncomputable def FX7_readLong_105b (K105 : Int32 → Int32 → FI → AR → Option (Unit × FI × AR)) (nf : Nat) (ln : LN) (i0 : Nat) (i1 : Nat) (x4 : Int32) (x5 : Int32) (fi : FI) (ar : AR) : Option (Unit × FI × AR) :=
  br ((fi (60 + i1)) ≤ (x5)) (FX7_readLong_155 nf ln i0 i1  fi ar) (br ((11 : Int32) ≤ (x4)) (FX7_readLong_155 nf ln i0 i1  fi ar) (obnd3 (FX6_unit nf ln i1 fi ar (x5)) fun r7 fi5 ar6 => obnd (FX5_shortened nf (r7)) fun r9 => br ((r9) = 0) (FX7_readLong_149 K105 nf ln i0 i1  (x4) (x5) fi5 ar6) (gd (¬ ((x4) < 0 ∨ ln (40 + 2 * i0) ≤ (x4).toNatClampNeg)) (bnd (va_up ar6 (40 + 2 * i0) (upd (ar6 (40 + 2 * i0)) (x4).toNatClampNeg (r9))) fun ar12 => bnd ((x4) + (1 : Int32)) fun x4_13 => FX7_readLong_149 K105 nf ln i0 i1  (x4_13) (x5) fi5 ar12))))
noncomputable def FX7_readLong_105 (nf : Nat) (ln : LN) (i0 : Nat) (i1 : Nat) (kf : Nat) : Int32 → Int32 → FI → AR → Option (Unit × FI × AR) := Nat.rec (fun _ _ _ _ => none) (fun _ K105 => FX7_readLong_105b K105 nf ln i0 i1) kf
noncomputable def FX7_readLong_96 (nf : Nat) (ln : LN) (i0 : Nat) (i1 : Nat) (x3 : Int32) (fi : FI) (ar : AR) : Option (Unit × FI × AR) :=
  bnd ((x3) + (1 : Int32)) fun x5_14 => FX7_readLong_105 nf ln i0 i1 nf (8 : Int32) (x5_14) fi ar
noncomputable def FX7_readLong_90 (K35 : Int32 → Int32 → FI → AR → Option (Unit × FI × AR)) (nf : Nat) (ln : LN) (i0 : Nat) (i1 : Nat) (x3 : Int32) (x4 : Int32) (fi : FI) (ar : AR) : Option (Unit × FI × AR) :=
  bnd ((x4) + (1 : Int32)) fun x4_15 => K35 (x3) (x4_15) fi ar
noncomputable def FX7_readLong_35b (K35 : Int32 → Int32 → FI → AR → Option (Unit × FI × AR)) (nf : Nat) (ln : LN) (i0 : Nat) (i1 : Nat) (x3 : Int32) (x4 : Int32) (fi : FI) (ar : AR) : Option (Unit × FI × AR) :=
  br ((x3) ≤ (x4)) (FX7_readLong_96 nf ln i0 i1  (x3) fi ar) (br ((Int32.ofNat (ln (41 + 2 * i0))) ≤ (fi (70 + i0))) (FX7_readLong_96 nf ln i0 i1  (x3) fi ar) (obnd3 (FX6_unit nf ln i1 fi ar (x4)) fun r21 fi19 ar20 => obnd (FX5_shortened nf (r21)) fun r23 => br ((r23) = 0) (FX7_readLong_90 K35 nf ln i0 i1  (x3) (x4) fi19 ar20) (gd (¬ ((fi19 (70 + i0)) < 0 ∨ ln (41 + 2 * i0) ≤ (fi19 (70 + i0)).toNatClampNeg)) (bnd (va_up ar20 (41 + 2 * i0) (upd (ar20 (41 + 2 * i0)) (fi19 (70 + i0)).toNatClampNeg (r23))) fun ar26 => bnd (va_up fi19 (70 + i0) ((fi19 (70 + i0)) + (1 : Int32))) fun fi27 => FX7_readLong_90 K35 nf ln i0 i1  (x3) (x4) fi27 ar26))))
noncomputable def FX7_readLong_35 (nf : Nat) (ln : LN) (i0 : Nat) (i1 : Nat) (kf : Nat) : Int32 → Int32 → FI → AR → Option (Unit × FI × AR) := Nat.rec (fun _ _ _ _ => none) (fun _ K35 => FX7_readLong_35b K35 nf ln i0 i1) kf
noncomputable def FX7_readLong_17 (nf : Nat) (ln : LN) (i0 : Nat) (i1 : Nat) (t0 : Int32) (fi : FI) (ar : AR) : Option (Unit × FI × AR) :=
  gd (ln (40 + 2 * i0) < 2 ^ 31) (bnd (va_up ar (40 + 2 * i0) (fillN (ar (40 + 2 * i0)) (32 : Int32) (ln (40 + 2 * i0)))) fun ar29 => bnd (va_up fi (70 + i0) (0 : Int32)) fun fi30 => FX7_readLong_35 nf ln i0 i1 nf (t0) (0 : Int32) fi30 ar29)
noncomputable def FX7_readLong (nf : Nat) (ln : LN) (i0 : Nat) (i1 : Nat) (fi : FI) (ar : AR)  : Option (Unit × FI × AR) :=
  obnd3 (FX6_lastPoint nf ln i1 fi ar) fun r34 fi32 ar33 => br ((r34) ≤ 0) (FX7_readLong_17 nf ln i0 i1  (fi32 (60 + i1)) fi32 ar33) (FX7_readLong_17 nf ln i0 i1  (r34) fi32 ar33)
set_option maxHeartbeats 4000000 in
set_option maxRecDepth 100000 in
theorem kX7_readLong (l : Launch) (g : GT) (ad rd : Nat → Nat) (sz : Nat) (nf : Nat) (ln : LN) (i0 : Nat) (i1 : Nat) (hi0 : i0 < 2) (hi1 : i1 < 4) (fi : FI) (ar : AR)  (r : Unit) (fi' : FI) (ar' : AR) (hF : FX7_readLong nf ln i0 i1 fi ar  = some (r, fi', ar')) : Met l yX7_readLong (wx yX7_readLong cX7_readLong 7 none) ({ frames := 6, cells := 0, slots := 0, locals := 132 } : Room) (va_Pc [.ref (ad (34 + 3 * i0)), .ref (ad (26 + 2 * i1))] (PC g ad rd ln sz fi ar)) (QCv g ad rd ln sz r fi' ar') 0 0 (AC ad rd sz) := by
  refine Met.ofW (cc := cX7_readLong) (maxL := 7) (ret := none) (by decide) rfl ?_
  intro p e s m args below meth c s₁ B hml hv
  obtain ⟨rfl, hsz, hP, hK, hD0, hE⟩ := hv
  have hx := B.exec
  have hb := B.bytes
  have hr := B.returns
  have hts := atoms_spec (ws := (wx yX7_readLong cX7_readLong 7 none)) B.pre
  have hT : ∀ w ∈ TB, w.before _ s = true := fun w h => hts w (List.mem_cons_of_mem _ h)
  have hown : s.vm.findClass RX7 = some m.cls := findClass_of_methodNamed B.named
  have hlocks := B.notSynchronized
  subst hsz
  have hD := dC hD0 s.heap.size
  have hA : ∀ q : Nat, s.heap.size ≤ q → AC ad rd s.heap.size q := fun q h => Or.inr h
  have hS : va_S (AC ad rd s.heap.size) s.heap s.heap [] := va_S.rf
  have hl := lv_entry ([.ref (ad (34 + 3 * i0)), .ref (ad (26 + 2 * i1))]) (n := 7) (Nat.le_of_ble_eq_true rfl)
  rw [lg_entry_eq]
  generalize (lg_sl ([.ref (ad (34 + 3 * i0)), .ref (ad (26 + 2 * i1))]) ++ List.replicate (7 - (lg_sl ([.ref (ad (34 + 3 * i0)), .ref (ad (26 + 2 * i1))])).length) Slot.unset).toArray = ls at hl ⊢
  have hl : lv_has ls 7 [(0, .ref (ad (34 + 3 * i0))), (1, .ref (ad (26 + 2 * i1)))] := hl
  unfold FX7_readLong at hF
  have J155 : ∀  (fi : FI) (ar : AR) (H : Heap) (locs : List Loc) (ls : Array Slot), FX7_readLong_155 nf ln i0 i1 fi ar = some (r, fi', ar') → lv_has ls 7 [(0, .ref (ad (34 + 3 * i0))), (1, .ref (ad (26 + 2 * i1)))] → va_P (gD g) vwCl (WC g ad rd ln fi ar) H → va_S (AC ad rd s.heap.size) s.heap H locs → W p l e (headSpec (wx yX7_readLong cX7_readLong 7 none) ({ frames := 6, cells := 0, slots := 0, locals := 132 } : Room)).room s m ([.ref (ad (34 + 3 * i0)), .ref (ad (26 + 2 * i1))] : List Value).toArray below meth c H locs 0 0 (MQ below (QCv g ad rd ln s.heap.size r fi' ar') ([.ref (ad (34 + 3 * i0)), .ref (ad (26 + 2 * i1))] : List Value).toArray s 0 0 (AC ad rd s.heap.size)) (F0 m 155 ls []) := by
    intro fi ar H locs ls hF hl hP hS
    unfold FX7_readLong_155 at hF
    exact rC_v hx hb hr hlocks hF hP hS dX7_readLong_155
  have L105 : ∀ kf : Nat, ∀ (x4 : Int32) (x5 : Int32) (fi : FI) (ar : AR) (H : Heap) (locs : List Loc) (ls : Array Slot), FX7_readLong_105 nf ln i0 i1 kf x4 x5 fi ar = some (r, fi', ar') → lv_has ls 7 [(0, .ref (ad (34 + 3 * i0))), (1, .ref (ad (26 + 2 * i1))), (4, .int x4), (5, .int x5)] → va_P (gD g) vwCl (WC g ad rd ln fi ar) H → va_S (AC ad rd s.heap.size) s.heap H locs → W p l e (headSpec (wx yX7_readLong cX7_readLong 7 none) ({ frames := 6, cells := 0, slots := 0, locals := 132 } : Room)).room s m ([.ref (ad (34 + 3 * i0)), .ref (ad (26 + 2 * i1))] : List Value).toArray below meth c H locs 0 0 (MQ below (QCv g ad rd ln s.heap.size r fi' ar') ([.ref (ad (34 + 3 * i0)), .ref (ad (26 + 2 * i1))] : List Value).toArray s 0 0 (AC ad rd s.heap.size)) (F0 m 105 ls []) := by
    intro kf
    induction kf with
    | zero => intro x4 x5 fi ar H locs ls hF hl hP hS; cases (show (none : Option (Unit × FI × AR)) = _ from hF)
    | succ kf ih105 =>
      intro x4 x5 fi ar H locs ls hF hl hP hS
      obtain ⟨K105, hK105⟩ : ∃ K : Int32 → Int32 → FI → AR → Option (Unit × FI × AR), K = FX7_readLong_105 nf ln i0 i1 kf := ⟨_, rfl⟩
      replace hF : FX7_readLong_105b K105 nf ln i0 i1 x4 x5 fi ar = some (r, fi', ar') := by rw [hK105]; exact hF
      rw [← hK105] at ih105
      clear hK105
      have J149 : ∀ (x4 : Int32) (x5 : Int32) (fi : FI) (ar : AR) (H : Heap) (locs : List Loc) (ls : Array Slot), FX7_readLong_149 K105 nf ln i0 i1 x4 x5 fi ar = some (r, fi', ar') → lv_has ls 7 [(0, .ref (ad (34 + 3 * i0))), (1, .ref (ad (26 + 2 * i1))), (4, .int x4), (5, .int x5)] → va_P (gD g) vwCl (WC g ad rd ln fi ar) H → va_S (AC ad rd s.heap.size) s.heap H locs → W p l e (headSpec (wx yX7_readLong cX7_readLong 7 none) ({ frames := 6, cells := 0, slots := 0, locals := 132 } : Room)).room s m ([.ref (ad (34 + 3 * i0)), .ref (ad (26 + 2 * i1))] : List Value).toArray below meth c H locs 0 0 (MQ below (QCv g ad rd ln s.heap.size r fi' ar') ([.ref (ad (34 + 3 * i0)), .ref (ad (26 + 2 * i1))] : List Value).toArray s 0 0 (AC ad rd s.heap.size)) (F0 m 149 ls []) := by
        intro x4 x5 fi ar H locs ls hF hl hP hS
        unfold FX7_readLong_149 at hF
        obtain ⟨x5_1, ex5_1⟩ : ∃ y : Int32, y = (x5) + (1 : Int32) := ⟨_, rfl⟩
        replace hF := bnd_of hF ex5_1
        refine lv_iinc (v := x5_1) (lv' := [(5, .int (x5_1)), (0, .ref (ad (34 + 3 * i0))), (1, .ref (ad (26 + 2 * i1))), (4, .int (x4))]) hx hb dX7_readLong_149 hl (k := 3) rfl (by rw [ex5_1]; rfl) (by decide) rfl (fun ls hl => ?_)
        refine lv_goto (tgt := 105) hx hb dX7_readLong_152 (by decide) ?_
        exact ih105 (x4) (x5_1) _ _ _ _ _ hF (lv_sub hl [1, 2, 3, 0] rfl) hP hS
      unfold FX7_readLong_105b at hF
      refine lv_iload hx hb dX7_readLong_105 (lv_at hl 3 rfl) ?_
      refine lv_aload_n hx hb dX7_readLong_107 rfl (lv_at hl 1 rfl) ?_
      refine cg_X6_length hi1 hx hb hT hown hK hP mw45_12 dX7_readLong_108 ?_
      refine lv_icmp_ge (tgt := 155) hx hb dX7_readLong_111 (by decide) (fun hc2 => ?_) (fun hc2 => ?_)
      · replace hF := br_yes hF hc2
        exact J155  _ _ _ _ _ hF (lv_sub hl [0, 1] rfl) hP hS
      · replace hF := br_no hF hc2
        refine lv_iload hx hb dX7_readLong_114 (lv_at hl 2 rfl) ?_
        refine lv_bipush (v := (11 : Int32)) hx hb dX7_readLong_116 (by decide) ?_
        refine lv_icmp_ge (tgt := 155) hx hb dX7_readLong_118 (by decide) (fun hc3 => ?_) (fun hc3 => ?_)
        · replace hF := br_yes hF hc3
          exact J155  _ _ _ _ _ hF (lv_sub hl [0, 1] rfl) hP hS
        · replace hF := br_no hF hc3
          refine lv_aload_n hx hb dX7_readLong_121 rfl (lv_at hl 1 rfl) ?_
          refine lv_iload hx hb dX7_readLong_122 (lv_at hl 3 rfl) ?_
          replace hF := obnd3_of hF
          obtain ⟨r7, fi5, ar6, h4, hF⟩ := hF
          refine cC_i (As := [.int (x5)]) (rest := []) hx hb hml hT hown hK hE hD hA hP hS (rcv_X6 hi1 hK hP) (kX6_unit l g ad rd _ nf ln i1 hi1 fi ar (x5) r7 fi5 ar6 h4) cw_X6_unit mw45_13 ⟨⟨rfl, rfl⟩, Nat.le_of_ble_eq_true rfl, Nat.le_of_ble_eq_true rfl⟩ rfl hl.1 rfl (Nat.le_of_ble_eq_true rfl) dX7_readLong_124 ⟨Nat.zero_le _, Nat.zero_le _⟩ (fun H locs hP hS => ?_)
          replace hF := obnd_of hF
          obtain ⟨r9, h8, hF⟩ := hF
          refine cS_i (As := [.int (r7)]) (rest := []) hx hb hml hT hown hE hP hS (kX5_shortened l g nf (r7) r9 h8) cw_X5_shortened mw46_11 ⟨⟨rfl, rfl⟩, Nat.le_of_ble_eq_true rfl, Nat.le_of_ble_eq_true rfl⟩ rfl hl.1 rfl (Nat.le_of_ble_eq_true rfl) dX7_readLong_127 ⟨Nat.zero_le _, Nat.zero_le _⟩ (fun H locs hP hS => ?_)
          refine lv_istore (lv' := [(6, .int (r9)), (0, .ref (ad (34 + 3 * i0))), (1, .ref (ad (26 + 2 * i1))), (4, .int (x4)), (5, .int (x5))]) hx hb dX7_readLong_130 hl (by decide) rfl (fun ls hl => ?_)
          refine lv_iload hx hb dX7_readLong_132 (lv_at hl 0 rfl) ?_
          refine lv_if_eq (tgt := 149) hx hb dX7_readLong_134 (by decide) (fun hc10 => ?_) (fun hc10 => ?_)
          · replace hF := br_yes hF hc10
            exact J149 (x4) (x5) _ _ _ _ _ hF (lv_sub hl [1, 2, 3, 4] rfl) hP hS
          · replace hF := br_no hF hc10
            refine lv_aload_n hx hb dX7_readLong_137 rfl (lv_at hl 1 rfl) ?_
            refine cg_X7_bytes hi0 hx hb hT hown hK hP mw5_5 dX7_readLong_138 ?_
            refine lv_iload hx hb dX7_readLong_141 (lv_at hl 3 rfl) ?_
            refine lv_iload hx hb dX7_readLong_143 (lv_at hl 0 rfl) ?_
            replace hF := gd_of hF
            obtain ⟨hi11, hF⟩ := hF
            obtain ⟨ar12, ear12⟩ : ∃ y : AR, y = va_up ar6 (40 + 2 * i0) (upd (ar6 (40 + 2 * i0)) (x4).toNatClampNeg (r9)) := ⟨_, rfl⟩
            replace hF := bnd_of hF ear12
            refine cs_sbytes hi0 hx hb hK hP hD hS hi11 dX7_readLong_145 (fun H locs hP hS => ?_)
            rw [← ear12] at hP
            obtain ⟨x4_13, ex4_13⟩ : ∃ y : Int32, y = (x4) + (1 : Int32) := ⟨_, rfl⟩
            replace hF := bnd_of hF ex4_13
            refine lv_iinc (v := x4_13) (lv' := [(4, .int (x4_13)), (6, .int (r9)), (0, .ref (ad (34 + 3 * i0))), (1, .ref (ad (26 + 2 * i1))), (5, .int (x5))]) hx hb dX7_readLong_146 hl (k := 3) rfl (by rw [ex4_13]; rfl) (by decide) rfl (fun ls hl => ?_)
            exact J149 (x4_13) (x5) _ _ _ _ _ hF (lv_sub hl [2, 3, 0, 4] rfl) hP hS
  have J96 : ∀ (x3 : Int32) (fi : FI) (ar : AR) (H : Heap) (locs : List Loc) (ls : Array Slot), FX7_readLong_96 nf ln i0 i1 x3 fi ar = some (r, fi', ar') → lv_has ls 7 [(0, .ref (ad (34 + 3 * i0))), (1, .ref (ad (26 + 2 * i1))), (3, .int x3)] → va_P (gD g) vwCl (WC g ad rd ln fi ar) H → va_S (AC ad rd s.heap.size) s.heap H locs → W p l e (headSpec (wx yX7_readLong cX7_readLong 7 none) ({ frames := 6, cells := 0, slots := 0, locals := 132 } : Room)).room s m ([.ref (ad (34 + 3 * i0)), .ref (ad (26 + 2 * i1))] : List Value).toArray below meth c H locs 0 0 (MQ below (QCv g ad rd ln s.heap.size r fi' ar') ([.ref (ad (34 + 3 * i0)), .ref (ad (26 + 2 * i1))] : List Value).toArray s 0 0 (AC ad rd s.heap.size)) (F0 m 96 ls []) := by
    intro x3 fi ar H locs ls hF hl hP hS
    unfold FX7_readLong_96 at hF
    refine lv_bipush (v := (8 : Int32)) hx hb dX7_readLong_96 (by decide) ?_
    refine lv_istore (lv' := [(4, .int (8 : Int32)), (0, .ref (ad (34 + 3 * i0))), (1, .ref (ad (26 + 2 * i1))), (3, .int (x3))]) hx hb dX7_readLong_98 hl (by decide) rfl (fun ls hl => ?_)
    refine lv_iload_n hx hb dX7_readLong_100 rfl (lv_at hl 3 rfl) ?_
    refine lv_iconst (v := (1 : Int32)) hx hb dX7_readLong_101 (by decide) ?_
    refine lv_iadd hx hb dX7_readLong_102 ?_
    obtain ⟨x5_14, ex5_14⟩ : ∃ y : Int32, y = ((x3) + (1 : Int32)) := ⟨_, rfl⟩
    rw [← ex5_14]
    replace hF := bnd_of hF ex5_14
    refine lv_istore (lv' := [(5, .int (x5_14)), (4, .int (8 : Int32)), (0, .ref (ad (34 + 3 * i0))), (1, .ref (ad (26 + 2 * i1))), (3, .int (x3))]) hx hb dX7_readLong_103 hl (by decide) rfl (fun ls hl => ?_)
    exact L105 nf (8 : Int32) (x5_14) _ _ _ _ _ hF (lv_sub hl [2, 3, 1, 0] rfl) hP hS
  have L35 : ∀ kf : Nat, ∀ (x3 : Int32) (x4 : Int32) (fi : FI) (ar : AR) (H : Heap) (locs : List Loc) (ls : Array Slot), FX7_readLong_35 nf ln i0 i1 kf x3 x4 fi ar = some (r, fi', ar') → lv_has ls 7 [(0, .ref (ad (34 + 3 * i0))), (1, .ref (ad (26 + 2 * i1))), (3, .int x3), (4, .int x4)] → va_P (gD g) vwCl (WC g ad rd ln fi ar) H → va_S (AC ad rd s.heap.size) s.heap H locs → W p l e (headSpec (wx yX7_readLong cX7_readLong 7 none) ({ frames := 6, cells := 0, slots := 0, locals := 132 } : Room)).room s m ([.ref (ad (34 + 3 * i0)), .ref (ad (26 + 2 * i1))] : List Value).toArray below meth c H locs 0 0 (MQ below (QCv g ad rd ln s.heap.size r fi' ar') ([.ref (ad (34 + 3 * i0)), .ref (ad (26 + 2 * i1))] : List Value).toArray s 0 0 (AC ad rd s.heap.size)) (F0 m 35 ls []) := by
    intro kf
    induction kf with
    | zero => intro x3 x4 fi ar H locs ls hF hl hP hS; cases (show (none : Option (Unit × FI × AR)) = _ from hF)
    | succ kf ih35 =>
      intro x3 x4 fi ar H locs ls hF hl hP hS
      obtain ⟨K35, hK35⟩ : ∃ K : Int32 → Int32 → FI → AR → Option (Unit × FI × AR), K = FX7_readLong_35 nf ln i0 i1 kf := ⟨_, rfl⟩
      replace hF : FX7_readLong_35b K35 nf ln i0 i1 x3 x4 fi ar = some (r, fi', ar') := by rw [hK35]; exact hF
      rw [← hK35] at ih35
      clear hK35
      have J90 : ∀ (x3 : Int32) (x4 : Int32) (fi : FI) (ar : AR) (H : Heap) (locs : List Loc) (ls : Array Slot), FX7_readLong_90 K35 nf ln i0 i1 x3 x4 fi ar = some (r, fi', ar') → lv_has ls 7 [(0, .ref (ad (34 + 3 * i0))), (1, .ref (ad (26 + 2 * i1))), (3, .int x3), (4, .int x4)] → va_P (gD g) vwCl (WC g ad rd ln fi ar) H → va_S (AC ad rd s.heap.size) s.heap H locs → W p l e (headSpec (wx yX7_readLong cX7_readLong 7 none) ({ frames := 6, cells := 0, slots := 0, locals := 132 } : Room)).room s m ([.ref (ad (34 + 3 * i0)), .ref (ad (26 + 2 * i1))] : List Value).toArray below meth c H locs 0 0 (MQ below (QCv g ad rd ln s.heap.size r fi' ar') ([.ref (ad (34 + 3 * i0)), .ref (ad (26 + 2 * i1))] : List Value).toArray s 0 0 (AC ad rd s.heap.size)) (F0 m 90 ls []) := by
        intro x3 x4 fi ar H locs ls hF hl hP hS
        unfold FX7_readLong_90 at hF
        obtain ⟨x4_15, ex4_15⟩ : ∃ y : Int32, y = (x4) + (1 : Int32) := ⟨_, rfl⟩
        replace hF := bnd_of hF ex4_15
        refine lv_iinc (v := x4_15) (lv' := [(4, .int (x4_15)), (0, .ref (ad (34 + 3 * i0))), (1, .ref (ad (26 + 2 * i1))), (3, .int (x3))]) hx hb dX7_readLong_90 hl (k := 3) rfl (by rw [ex4_15]; rfl) (by decide) rfl (fun ls hl => ?_)
        refine lv_goto (tgt := 35) hx hb dX7_readLong_93 (by decide) ?_
        exact ih35 (x3) (x4_15) _ _ _ _ _ hF (lv_sub hl [1, 2, 3, 0] rfl) hP hS
      unfold FX7_readLong_35b at hF
      refine lv_iload hx hb dX7_readLong_35 (lv_at hl 3 rfl) ?_
      refine lv_iload_n hx hb dX7_readLong_37 rfl (lv_at hl 2 rfl) ?_
      refine lv_icmp_ge (tgt := 96) hx hb dX7_readLong_38 (by decide) (fun hc16 => ?_) (fun hc16 => ?_)
      · replace hF := br_yes hF hc16
        exact J96 (x3) _ _ _ _ _ hF (lv_sub hl [0, 1, 2] rfl) hP hS
      · replace hF := br_no hF hc16
        refine lv_aload_n hx hb dX7_readLong_41 rfl (lv_at hl 0 rfl) ?_
        refine cg_X7_baseLength hi0 hx hb hT hown hK hP mw46_6 dX7_readLong_42 ?_
        refine lv_aload_n hx hb dX7_readLong_45 rfl (lv_at hl 0 rfl) ?_
        refine cg_X7_base hi0 hx hb hT hown hK hP mw5_6 dX7_readLong_46 ?_
        refine ca_sbase hi0 hx hb hK hP dX7_readLong_49 ?_
        refine lv_icmp_ge (tgt := 96) hx hb dX7_readLong_50 (by decide) (fun hc17 => ?_) (fun hc17 => ?_)
        · replace hF := br_yes hF hc17
          exact J96 (x3) _ _ _ _ _ hF (lv_sub hl [0, 1, 2] rfl) hP hS
        · replace hF := br_no hF hc17
          refine lv_aload_n hx hb dX7_readLong_53 rfl (lv_at hl 1 rfl) ?_
          refine lv_iload hx hb dX7_readLong_54 (lv_at hl 3 rfl) ?_
          replace hF := obnd3_of hF
          obtain ⟨r21, fi19, ar20, h18, hF⟩ := hF
          refine cC_i (As := [.int (x4)]) (rest := []) hx hb hml hT hown hK hE hD hA hP hS (rcv_X6 hi1 hK hP) (kX6_unit l g ad rd _ nf ln i1 hi1 fi ar (x4) r21 fi19 ar20 h18) cw_X6_unit mw45_13 ⟨⟨rfl, rfl⟩, Nat.le_of_ble_eq_true rfl, Nat.le_of_ble_eq_true rfl⟩ rfl hl.1 rfl (Nat.le_of_ble_eq_true rfl) dX7_readLong_56 ⟨Nat.zero_le _, Nat.zero_le _⟩ (fun H locs hP hS => ?_)
          replace hF := obnd_of hF
          obtain ⟨r23, h22, hF⟩ := hF
          refine cS_i (As := [.int (r21)]) (rest := []) hx hb hml hT hown hE hP hS (kX5_shortened l g nf (r21) r23 h22) cw_X5_shortened mw46_11 ⟨⟨rfl, rfl⟩, Nat.le_of_ble_eq_true rfl, Nat.le_of_ble_eq_true rfl⟩ rfl hl.1 rfl (Nat.le_of_ble_eq_true rfl) dX7_readLong_59 ⟨Nat.zero_le _, Nat.zero_le _⟩ (fun H locs hP hS => ?_)
          refine lv_istore (lv' := [(5, .int (r23)), (0, .ref (ad (34 + 3 * i0))), (1, .ref (ad (26 + 2 * i1))), (3, .int (x3)), (4, .int (x4))]) hx hb dX7_readLong_62 hl (by decide) rfl (fun ls hl => ?_)
          refine lv_iload hx hb dX7_readLong_64 (lv_at hl 0 rfl) ?_
          refine lv_if_eq (tgt := 90) hx hb dX7_readLong_66 (by decide) (fun hc24 => ?_) (fun hc24 => ?_)
          · replace hF := br_yes hF hc24
            exact J90 (x3) (x4) _ _ _ _ _ hF (lv_sub hl [1, 2, 3, 4] rfl) hP hS
          · replace hF := br_no hF hc24
            refine lv_aload_n hx hb dX7_readLong_69 rfl (lv_at hl 1 rfl) ?_
            refine cg_X7_base hi0 hx hb hT hown hK hP mw5_6 dX7_readLong_70 ?_
            refine lv_aload_n hx hb dX7_readLong_73 rfl (lv_at hl 1 rfl) ?_
            refine cg_X7_baseLength hi0 hx hb hT hown hK hP mw46_6 dX7_readLong_74 ?_
            refine lv_iload hx hb dX7_readLong_77 (lv_at hl 0 rfl) ?_
            replace hF := gd_of hF
            obtain ⟨hi25, hF⟩ := hF
            obtain ⟨ar26, ear26⟩ : ∃ y : AR, y = va_up ar20 (41 + 2 * i0) (upd (ar20 (41 + 2 * i0)) (fi19 (70 + i0)).toNatClampNeg (r23)) := ⟨_, rfl⟩
            replace hF := bnd_of hF ear26
            refine cs_sbase hi0 hx hb hK hP hD hS hi25 dX7_readLong_79 (fun H locs hP hS => ?_)
            rw [← ear26] at hP
            refine lv_aload_n hx hb dX7_readLong_80 rfl (lv_at hl 1 rfl) ?_
            refine lv_dup hx hb dX7_readLong_81 rfl ?_
            refine cg_X7_baseLength hi0 hx hb hT hown hK hP mw46_6 dX7_readLong_82 ?_
            refine lv_iconst (v := (1 : Int32)) hx hb dX7_readLong_85 (by decide) ?_
            refine lv_iadd hx hb dX7_readLong_86 ?_
            obtain ⟨fi27, efi27⟩ : ∃ y : FI, y = va_up fi19 (70 + i0) ((fi19 (70 + i0)) + (1 : Int32)) := ⟨_, rfl⟩
            replace hF := bnd_of hF efi27
            refine cp_X7_baseLength hi0 hx hb hT hown hK hP hD hS mw46_6 dX7_readLong_87 (fun H locs hP hS => ?_)
            rw [← efi27] at hP
            exact J90 (x3) (x4) _ _ _ _ _ hF (lv_sub hl [1, 2, 3, 4] rfl) hP hS
  have J17 : ∀ (t0 : Int32) (fi : FI) (ar : AR) (H : Heap) (locs : List Loc) (ls : Array Slot), FX7_readLong_17 nf ln i0 i1 t0 fi ar = some (r, fi', ar') → lv_has ls 7 [(0, .ref (ad (34 + 3 * i0))), (1, .ref (ad (26 + 2 * i1)))] → va_P (gD g) vwCl (WC g ad rd ln fi ar) H → va_S (AC ad rd s.heap.size) s.heap H locs → W p l e (headSpec (wx yX7_readLong cX7_readLong 7 none) ({ frames := 6, cells := 0, slots := 0, locals := 132 } : Room)).room s m ([.ref (ad (34 + 3 * i0)), .ref (ad (26 + 2 * i1))] : List Value).toArray below meth c H locs 0 0 (MQ below (QCv g ad rd ln s.heap.size r fi' ar') ([.ref (ad (34 + 3 * i0)), .ref (ad (26 + 2 * i1))] : List Value).toArray s 0 0 (AC ad rd s.heap.size)) (F0 m 17 ls [.int t0]) := by
    intro t0 fi ar H locs ls hF hl hP hS
    unfold FX7_readLong_17 at hF
    refine lv_istore_n (lv' := [(3, .int (t0)), (0, .ref (ad (34 + 3 * i0))), (1, .ref (ad (26 + 2 * i1)))]) hx hb dX7_readLong_17 rfl hl (by decide) rfl (fun ls hl => ?_)
    refine lv_aload_n hx hb dX7_readLong_18 rfl (lv_at hl 1 rfl) ?_
    refine cg_X7_bytes hi0 hx hb hT hown hK hP mw5_5 dX7_readLong_19 ?_
    refine lv_bipush (v := (32 : Int32)) hx hb dX7_readLong_22 (by decide) ?_
    replace hF := gd_of hF
    obtain ⟨hn28, hF⟩ := hF
    obtain ⟨ar29, ear29⟩ : ∃ y : AR, y = va_up ar (40 + 2 * i0) (fillN (ar (40 + 2 * i0)) (32 : Int32) (ln (40 + 2 * i0))) := ⟨_, rfl⟩
    replace hF := bnd_of hF ear29
    refine cFill (rest := []) hx hb hml hT hown hK hA hP (hD _ _) hS (wa_sbytes hi0) hn28 (wt_sbytes hi0 _) mw10_7 ⟨Nat.le_of_ble_eq_true rfl, Nat.le_of_ble_eq_true rfl⟩ hl.1 (Nat.le_of_ble_eq_true rfl) dX7_readLong_24 ⟨Nat.zero_le _, Nat.zero_le _⟩ (fun H locs hP hS => ?_)
    rw [← ear29] at hP
    refine lv_aload_n hx hb dX7_readLong_27 rfl (lv_at hl 1 rfl) ?_
    refine lv_iconst (v := (0 : Int32)) hx hb dX7_readLong_28 (by decide) ?_
    obtain ⟨fi30, efi30⟩ : ∃ y : FI, y = va_up fi (70 + i0) (0 : Int32) := ⟨_, rfl⟩
    replace hF := bnd_of hF efi30
    refine cp_X7_baseLength hi0 hx hb hT hown hK hP hD hS mw46_6 dX7_readLong_29 (fun H locs hP hS => ?_)
    rw [← efi30] at hP
    refine lv_iconst (v := (0 : Int32)) hx hb dX7_readLong_32 (by decide) ?_
    refine lv_istore (lv' := [(4, .int (0 : Int32)), (3, .int (t0)), (0, .ref (ad (34 + 3 * i0))), (1, .ref (ad (26 + 2 * i1)))]) hx hb dX7_readLong_33 hl (by decide) rfl (fun ls hl => ?_)
    exact L35 nf (t0) (0 : Int32) _ _ _ _ _ hF (lv_sub hl [2, 3, 1, 0] rfl) hP hS
  replace hl := lv_sub hl [0, 1] rfl
  refine lv_aload_n hx hb dX7_readLong_0 rfl (lv_at hl 1 rfl) ?_
  replace hF := obnd3_of hF
  obtain ⟨r34, fi32, ar33, h31, hF⟩ := hF
  refine cC_i (As := []) (rest := []) hx hb hml hT hown hK hE hD hA hP hS (rcv_X6 hi1 hK hP) (kX6_lastPoint l g ad rd _ nf ln i1 hi1 fi ar r34 fi32 ar33 h31) cw_X6_lastPoint mw46_7 ⟨⟨rfl, rfl⟩, Nat.le_of_ble_eq_true rfl, Nat.le_of_ble_eq_true rfl⟩ rfl hl.1 rfl (Nat.le_of_ble_eq_true rfl) dX7_readLong_1 ⟨Nat.zero_le _, Nat.zero_le _⟩ (fun H locs hP hS => ?_)
  refine lv_istore_n (lv' := [(2, .int (r34)), (0, .ref (ad (34 + 3 * i0))), (1, .ref (ad (26 + 2 * i1)))]) hx hb dX7_readLong_4 rfl hl (by decide) rfl (fun ls hl => ?_)
  refine lv_iload_n hx hb dX7_readLong_5 rfl (lv_at hl 0 rfl) ?_
  refine lv_if_le (tgt := 13) hx hb dX7_readLong_6 (by decide) (fun hc35 => ?_) (fun hc35 => ?_)
  · replace hF := br_yes hF hc35
    refine lv_aload_n hx hb dX7_readLong_13 rfl (lv_at hl 2 rfl) ?_
    refine cg_X6_length hi1 hx hb hT hown hK hP mw45_12 dX7_readLong_14 ?_
    exact J17 (fi32 (60 + i1)) _ _ _ _ _ hF (lv_sub hl [1, 2] rfl) hP hS
  · replace hF := br_no hF hc35
    refine lv_iload_n hx hb dX7_readLong_9 rfl (lv_at hl 0 rfl) ?_
    refine lv_goto (tgt := 17) hx hb dX7_readLong_10 (by decide) ?_
    exact J17 (r34) _ _ _ _ _ hF (lv_sub hl [1, 2] rfl) hP hS
theorem cw_X7_readLong : (Cond.instanceMethod yX7_readLong ∈ TB ∧ Cond.selects RX7 yX7_readLong yX7_readLong ∈ TB ∧ Cond.code yX7_readLong cX7_readLong 7 none ∈ TB ∧ Cond.initialized RX7 ∈ TB) ∧ (yX7_readLong.cls = RX7 ∧ yX7_readLong.cls ≠ "java/lang/invoke/MethodHandle" ∧ yX7_readLong.cls ≠ "java/lang/invoke/VarHandle" ∧ (parseMethodDescriptor yX7_readLong.desc).map (fun d => d.parameters.length) = some 1) := ⟨⟨mw46_3, mw46_4, mw46_5, mw3_4⟩, by decide +kernel⟩
/-! X7_setTail -/
noncomputable def FX7_setTail_97b (K97 : Int32 → Int32 → Int32 → FI → AR → Option (Unit × FI × AR)) (nf : Nat) (ln : LN) (i0 : Nat) (x3 : Int32) (x4 : Int32) (x5 : Int32) (fi : FI) (ar : AR) : Option (Unit × FI × AR) :=
  br ((x5) ≤ (x3)) (some ((), fi, ar)) (gd (¬ ((x5) < 0 ∨ ln (40 + 2 * i0) ≤ (x5).toNatClampNeg)) (bnd (va_up ar (40 + 2 * i0) (upd (ar (40 + 2 * i0)) (x5).toNatClampNeg ((48 : Int32) + ((x4) - (x4) / (10 : Int32) * (10 : Int32))))) fun ar3 => bnd ((x4) / (10 : Int32)) fun x4_4 => bnd ((x5) + (-1 : Int32)) fun x5_5 => K97 (x3) (x4_4) (x5_5) fi ar3))
noncomputable def FX7_setTail_97 (nf : Nat) (ln : LN) (i0 : Nat) (kf : Nat) : Int32 → Int32 → Int32 → FI → AR → Option (Unit × FI × AR) := Nat.rec (fun _ _ _ _ _ => none) (fun _ K97 => FX7_setTail_97b K97 nf ln i0) kf
noncomputable def FX7_setTail_74 (K43 : Int32 → Int32 → Int32 → Int32 → FI → AR → Option (Unit × FI × AR)) (nf : Nat) (ln : LN) (i0 : Nat) (x1 : Int32) (x2 : Int32) (x3 : Int32) (x4 : Int32) (t1 : Int32) (t2 : Int32) (fi : FI) (ar : AR) : Option (Unit × FI × AR) :=
  gd (¬ ((t1) < 0 ∨ ln (40 + 2 * i0) ≤ (t1).toNatClampNeg)) (bnd (va_up ar (40 + 2 * i0) (upd (ar (40 + 2 * i0)) (t1).toNatClampNeg (t2))) fun ar7 => bnd ((x4) + (1 : Int32)) fun x4_8 => K43 (x1) (x2) (x3) (x4_8) fi ar7)
noncomputable def FX7_setTail_43b (K43 : Int32 → Int32 → Int32 → Int32 → FI → AR → Option (Unit × FI × AR)) (nf : Nat) (ln : LN) (i0 : Nat) (x1 : Int32) (x2 : Int32) (x3 : Int32) (x4 : Int32) (fi : FI) (ar : AR) : Option (Unit × FI × AR) :=
  br ((8 : Int32) ≤ (x4)) (gd (¬ ((x3) < 0 ∨ ln (40 + 2 * i0) ≤ (x3).toNatClampNeg)) (bnd (va_up ar (40 + 2 * i0) (upd (ar (40 + 2 * i0)) (x3).toNatClampNeg (126 : Int32))) fun ar11 => bnd ((x3) + (x2)) fun x5_12 => FX7_setTail_97 nf ln i0 nf (x3) (x1) (x5_12) fi ar11)) (br ((x3) ≤ (x4)) (FX7_setTail_74 K43 nf ln i0  (x1) (x2) (x3) (x4) (x4) (32 : Int32) fi ar) (gd (¬ ((x4) < 0 ∨ ln (41 + 2 * i0) ≤ (x4).toNatClampNeg)) (FX7_setTail_74 K43 nf ln i0  (x1) (x2) (x3) (x4) (x4) (ar (41 + 2 * i0) (x4).toNatClampNeg) fi ar)))
noncomputable def FX7_setTail_43 (nf : Nat) (ln : LN) (i0 : Nat) (kf : Nat) : Int32 → Int32 → Int32 → Int32 → FI → AR → Option (Unit × FI × AR) := Nat.rec (fun _ _ _ _ _ _ => none) (fun _ K43 => FX7_setTail_43b K43 nf ln i0) kf
noncomputable def FX7_setTail_28 (nf : Nat) (ln : LN) (i0 : Nat) (x1 : Int32) (x2 : Int32) (fi : FI) (ar : AR) : Option (Unit × FI × AR) :=
  bnd (if (fi (70 + i0)) < ((7 : Int32) - (x2)) then (fi (70 + i0)) else ((7 : Int32) - (x2))) fun x3_15 => FX7_setTail_43 nf ln i0 nf (x1) (x2) (x3_15) (0 : Int32) fi ar
noncomputable def FX7_setTail_7b (K7 : Int32 → Int32 → Int32 → FI → AR → Option (Unit × FI × AR)) (nf : Nat) (ln : LN) (i0 : Nat) (x1 : Int32) (x2 : Int32) (x3 : Int32) (fi : FI) (ar : AR) : Option (Unit × FI × AR) :=
  br ((x3) ≤ 0) (FX7_setTail_28 nf ln i0  (x1) (x2) fi ar) (br ((7 : Int32) ≤ (x2)) (FX7_setTail_28 nf ln i0  (x1) (x2) fi ar) (bnd ((x2) + (1 : Int32)) fun x2_18 => bnd ((x3) / (10 : Int32)) fun x3_19 => K7 (x1) (x2_18) (x3_19) fi ar))
noncomputable def FX7_setTail_7 (nf : Nat) (ln : LN) (i0 : Nat) (kf : Nat) : Int32 → Int32 → Int32 → FI → AR → Option (Unit × FI × AR) := Nat.rec (fun _ _ _ _ _ => none) (fun _ K7 => FX7_setTail_7b K7 nf ln i0) kf
noncomputable def FX7_setTail (nf : Nat) (ln : LN) (i0 : Nat) (fi : FI) (ar : AR) (x1 : Int32) : Option (Unit × FI × AR) :=
  bnd ((x1) / (10 : Int32)) fun x3_20 => FX7_setTail_7 nf ln i0 nf (x1) (1 : Int32) (x3_20) fi ar
set_option maxHeartbeats 4000000 in
set_option maxRecDepth 100000 in
theorem kX7_setTail (l : Launch) (g : GT) (ad rd : Nat → Nat) (sz : Nat) (nf : Nat) (ln : LN) (i0 : Nat) (hi0 : i0 < 2) (fi : FI) (ar : AR) (p1 : Int32) (r : Unit) (fi' : FI) (ar' : AR) (hF : FX7_setTail nf ln i0 fi ar p1 = some (r, fi', ar')) : Met l yX7_setTail (wx yX7_setTail cX7_setTail 6 none) ({ frames := 1, cells := 0, slots := 0, locals := 21 } : Room) (va_Pc [.ref (ad (34 + 3 * i0)), .int p1] (PC g ad rd ln sz fi ar)) (QCv g ad rd ln sz r fi' ar') 0 0 (AC ad rd sz) := by
  refine Met.ofW (cc := cX7_setTail) (maxL := 6) (ret := none) (by decide) rfl ?_
  intro p e s m args below meth c s₁ B hml hv
  obtain ⟨rfl, hsz, hP, hK, hD0, hE⟩ := hv
  have hx := B.exec
  have hb := B.bytes
  have hr := B.returns
  have hts := atoms_spec (ws := (wx yX7_setTail cX7_setTail 6 none)) B.pre
  have hT : ∀ w ∈ TB, w.before _ s = true := fun w h => hts w (List.mem_cons_of_mem _ h)
  have hown : s.vm.findClass RX7 = some m.cls := findClass_of_methodNamed B.named
  have hlocks := B.notSynchronized
  subst hsz
  have hD := dC hD0 s.heap.size
  have hA : ∀ q : Nat, s.heap.size ≤ q → AC ad rd s.heap.size q := fun q h => Or.inr h
  have hS : va_S (AC ad rd s.heap.size) s.heap s.heap [] := va_S.rf
  have hl := lv_entry ([.ref (ad (34 + 3 * i0)), .int p1]) (n := 6) (Nat.le_of_ble_eq_true rfl)
  rw [lg_entry_eq]
  generalize (lg_sl ([.ref (ad (34 + 3 * i0)), .int p1]) ++ List.replicate (6 - (lg_sl ([.ref (ad (34 + 3 * i0)), .int p1])).length) Slot.unset).toArray = ls at hl ⊢
  have hl : lv_has ls 6 [(0, .ref (ad (34 + 3 * i0))), (1, .int p1)] := hl
  unfold FX7_setTail at hF
  have L97 : ∀ kf : Nat, ∀ (x3 : Int32) (x4 : Int32) (x5 : Int32) (fi : FI) (ar : AR) (H : Heap) (locs : List Loc) (ls : Array Slot), FX7_setTail_97 nf ln i0 kf x3 x4 x5 fi ar = some (r, fi', ar') → lv_has ls 6 [(0, .ref (ad (34 + 3 * i0))), (3, .int x3), (4, .int x4), (5, .int x5)] → va_P (gD g) vwCl (WC g ad rd ln fi ar) H → va_S (AC ad rd s.heap.size) s.heap H locs → W p l e (headSpec (wx yX7_setTail cX7_setTail 6 none) ({ frames := 1, cells := 0, slots := 0, locals := 21 } : Room)).room s m ([.ref (ad (34 + 3 * i0)), .int p1] : List Value).toArray below meth c H locs 0 0 (MQ below (QCv g ad rd ln s.heap.size r fi' ar') ([.ref (ad (34 + 3 * i0)), .int p1] : List Value).toArray s 0 0 (AC ad rd s.heap.size)) (F0 m 97 ls []) := by
    intro kf
    induction kf with
    | zero => intro x3 x4 x5 fi ar H locs ls hF hl hP hS; cases (show (none : Option (Unit × FI × AR)) = _ from hF)
    | succ kf ih97 =>
      intro x3 x4 x5 fi ar H locs ls hF hl hP hS
      obtain ⟨K97, hK97⟩ : ∃ K : Int32 → Int32 → Int32 → FI → AR → Option (Unit × FI × AR), K = FX7_setTail_97 nf ln i0 kf := ⟨_, rfl⟩
      replace hF : FX7_setTail_97b K97 nf ln i0 x3 x4 x5 fi ar = some (r, fi', ar') := by rw [hK97]; exact hF
      rw [← hK97] at ih97
      clear hK97
      unfold FX7_setTail_97b at hF
      refine lv_iload hx hb dX7_setTail_97 (lv_at hl 3 rfl) ?_
      refine lv_iload_n hx hb dX7_setTail_99 rfl (lv_at hl 1 rfl) ?_
      refine lv_icmp_le (tgt := 131) hx hb dX7_setTail_100 (by decide) (fun hc1 => ?_) (fun hc1 => ?_)
      · replace hF := br_yes hF hc1
        exact rC_v hx hb hr hlocks hF hP hS dX7_setTail_131
      · replace hF := br_no hF hc1
        refine lv_aload_n hx hb dX7_setTail_103 rfl (lv_at hl 0 rfl) ?_
        refine cg_X7_bytes hi0 hx hb hT hown hK hP mw5_5 dX7_setTail_104 ?_
        refine lv_iload hx hb dX7_setTail_107 (lv_at hl 3 rfl) ?_
        refine lv_bipush (v := (48 : Int32)) hx hb dX7_setTail_109 (by decide) ?_
        refine lv_iload hx hb dX7_setTail_111 (lv_at hl 2 rfl) ?_
        refine lv_bipush (v := (10 : Int32)) hx hb dX7_setTail_113 (by decide) ?_
        refine lv_irem hx hb dX7_setTail_115 (by decide) ?_
        refine lv_iadd hx hb dX7_setTail_116 ?_
        replace hF := gd_of hF
        obtain ⟨hi2, hF⟩ := hF
        obtain ⟨ar3, ear3⟩ : ∃ y : AR, y = va_up ar (40 + 2 * i0) (upd (ar (40 + 2 * i0)) (x5).toNatClampNeg ((48 : Int32) + ((x4) - (x4) / (10 : Int32) * (10 : Int32)))) := ⟨_, rfl⟩
        replace hF := bnd_of hF ear3
        refine cs_sbytes hi0 hx hb hK hP hD hS hi2 dX7_setTail_117 (fun H locs hP hS => ?_)
        rw [← ear3] at hP
        refine lv_iload hx hb dX7_setTail_118 (lv_at hl 2 rfl) ?_
        refine lv_bipush (v := (10 : Int32)) hx hb dX7_setTail_120 (by decide) ?_
        refine lv_idiv hx hb dX7_setTail_122 (by decide) ?_
        obtain ⟨x4_4, ex4_4⟩ : ∃ y : Int32, y = ((x4) / (10 : Int32)) := ⟨_, rfl⟩
        rw [← ex4_4]
        replace hF := bnd_of hF ex4_4
        refine lv_istore (lv' := [(4, .int (x4_4)), (0, .ref (ad (34 + 3 * i0))), (3, .int (x3)), (5, .int (x5))]) hx hb dX7_setTail_123 hl (by decide) rfl (fun ls hl => ?_)
        obtain ⟨x5_5, ex5_5⟩ : ∃ y : Int32, y = (x5) + (-1 : Int32) := ⟨_, rfl⟩
        replace hF := bnd_of hF ex5_5
        refine lv_iinc (v := x5_5) (lv' := [(5, .int (x5_5)), (4, .int (x4_4)), (0, .ref (ad (34 + 3 * i0))), (3, .int (x3))]) hx hb dX7_setTail_125 hl (k := 3) rfl (by rw [ex5_5]; rfl) (by decide) rfl (fun ls hl => ?_)
        refine lv_goto (tgt := 97) hx hb dX7_setTail_128 (by decide) ?_
        exact ih97 (x3) (x4_4) (x5_5) _ _ _ _ _ hF (lv_sub hl [2, 3, 1, 0] rfl) hP hS
  have L43 : ∀ kf : Nat, ∀ (x1 : Int32) (x2 : Int32) (x3 : Int32) (x4 : Int32) (fi : FI) (ar : AR) (H : Heap) (locs : List Loc) (ls : Array Slot), FX7_setTail_43 nf ln i0 kf x1 x2 x3 x4 fi ar = some (r, fi', ar') → lv_has ls 6 [(0, .ref (ad (34 + 3 * i0))), (1, .int x1), (2, .int x2), (3, .int x3), (4, .int x4)] → va_P (gD g) vwCl (WC g ad rd ln fi ar) H → va_S (AC ad rd s.heap.size) s.heap H locs → W p l e (headSpec (wx yX7_setTail cX7_setTail 6 none) ({ frames := 1, cells := 0, slots := 0, locals := 21 } : Room)).room s m ([.ref (ad (34 + 3 * i0)), .int p1] : List Value).toArray below meth c H locs 0 0 (MQ below (QCv g ad rd ln s.heap.size r fi' ar') ([.ref (ad (34 + 3 * i0)), .int p1] : List Value).toArray s 0 0 (AC ad rd s.heap.size)) (F0 m 43 ls []) := by
    intro kf
    induction kf with
    | zero => intro x1 x2 x3 x4 fi ar H locs ls hF hl hP hS; cases (show (none : Option (Unit × FI × AR)) = _ from hF)
    | succ kf ih43 =>
      intro x1 x2 x3 x4 fi ar H locs ls hF hl hP hS
      obtain ⟨K43, hK43⟩ : ∃ K : Int32 → Int32 → Int32 → Int32 → FI → AR → Option (Unit × FI × AR), K = FX7_setTail_43 nf ln i0 kf := ⟨_, rfl⟩
      replace hF : FX7_setTail_43b K43 nf ln i0 x1 x2 x3 x4 fi ar = some (r, fi', ar') := by rw [hK43]; exact hF
      rw [← hK43] at ih43
      clear hK43
      have J74 : ∀ (x1 : Int32) (x2 : Int32) (x3 : Int32) (x4 : Int32) (t1 : Int32) (t2 : Int32) (fi : FI) (ar : AR) (H : Heap) (locs : List Loc) (ls : Array Slot), FX7_setTail_74 K43 nf ln i0 x1 x2 x3 x4 t1 t2 fi ar = some (r, fi', ar') → lv_has ls 6 [(0, .ref (ad (34 + 3 * i0))), (1, .int x1), (2, .int x2), (3, .int x3), (4, .int x4)] → va_P (gD g) vwCl (WC g ad rd ln fi ar) H → va_S (AC ad rd s.heap.size) s.heap H locs → W p l e (headSpec (wx yX7_setTail cX7_setTail 6 none) ({ frames := 1, cells := 0, slots := 0, locals := 21 } : Room)).room s m ([.ref (ad (34 + 3 * i0)), .int p1] : List Value).toArray below meth c H locs 0 0 (MQ below (QCv g ad rd ln s.heap.size r fi' ar') ([.ref (ad (34 + 3 * i0)), .int p1] : List Value).toArray s 0 0 (AC ad rd s.heap.size)) (F0 m 74 ls [.int t2, .int t1, .ref (ad (35 + 3 * i0))]) := by
        intro x1 x2 x3 x4 t1 t2 fi ar H locs ls hF hl hP hS
        unfold FX7_setTail_74 at hF
        replace hF := gd_of hF
        obtain ⟨hi6, hF⟩ := hF
        obtain ⟨ar7, ear7⟩ : ∃ y : AR, y = va_up ar (40 + 2 * i0) (upd (ar (40 + 2 * i0)) (t1).toNatClampNeg (t2)) := ⟨_, rfl⟩
        replace hF := bnd_of hF ear7
        refine cs_sbytes hi0 hx hb hK hP hD hS hi6 dX7_setTail_74 (fun H locs hP hS => ?_)
        rw [← ear7] at hP
        obtain ⟨x4_8, ex4_8⟩ : ∃ y : Int32, y = (x4) + (1 : Int32) := ⟨_, rfl⟩
        replace hF := bnd_of hF ex4_8
        refine lv_iinc (v := x4_8) (lv' := [(4, .int (x4_8)), (0, .ref (ad (34 + 3 * i0))), (1, .int (x1)), (2, .int (x2)), (3, .int (x3))]) hx hb dX7_setTail_75 hl (k := 4) rfl (by rw [ex4_8]; rfl) (by decide) rfl (fun ls hl => ?_)
        refine lv_goto (tgt := 43) hx hb dX7_setTail_78 (by decide) ?_
        exact ih43 (x1) (x2) (x3) (x4_8) _ _ _ _ _ hF (lv_sub hl [1, 2, 3, 4, 0] rfl) hP hS
      unfold FX7_setTail_43b at hF
      refine lv_iload hx hb dX7_setTail_43 (lv_at hl 4 rfl) ?_
      refine lv_bipush (v := (8 : Int32)) hx hb dX7_setTail_45 (by decide) ?_
      refine lv_icmp_ge (tgt := 81) hx hb dX7_setTail_47 (by decide) (fun hc9 => ?_) (fun hc9 => ?_)
      · replace hF := br_yes hF hc9
        refine lv_aload_n hx hb dX7_setTail_81 rfl (lv_at hl 0 rfl) ?_
        refine cg_X7_bytes hi0 hx hb hT hown hK hP mw5_5 dX7_setTail_82 ?_
        refine lv_iload_n hx hb dX7_setTail_85 rfl (lv_at hl 3 rfl) ?_
        refine lv_bipush (v := (126 : Int32)) hx hb dX7_setTail_86 (by decide) ?_
        replace hF := gd_of hF
        obtain ⟨hi10, hF⟩ := hF
        obtain ⟨ar11, ear11⟩ : ∃ y : AR, y = va_up ar (40 + 2 * i0) (upd (ar (40 + 2 * i0)) (x3).toNatClampNeg (126 : Int32)) := ⟨_, rfl⟩
        replace hF := bnd_of hF ear11
        refine cs_sbytes hi0 hx hb hK hP hD hS hi10 dX7_setTail_88 (fun H locs hP hS => ?_)
        rw [← ear11] at hP
        refine lv_iload_n hx hb dX7_setTail_89 rfl (lv_at hl 1 rfl) ?_
        refine lv_istore (lv' := [(4, .int (x1)), (0, .ref (ad (34 + 3 * i0))), (1, .int (x1)), (2, .int (x2)), (3, .int (x3))]) hx hb dX7_setTail_90 hl (by decide) rfl (fun ls hl => ?_)
        refine lv_iload_n hx hb dX7_setTail_92 rfl (lv_at hl 4 rfl) ?_
        refine lv_iload_n hx hb dX7_setTail_93 rfl (lv_at hl 3 rfl) ?_
        refine lv_iadd hx hb dX7_setTail_94 ?_
        obtain ⟨x5_12, ex5_12⟩ : ∃ y : Int32, y = ((x3) + (x2)) := ⟨_, rfl⟩
        rw [← ex5_12]
        replace hF := bnd_of hF ex5_12
        refine lv_istore (lv' := [(5, .int (x5_12)), (4, .int (x1)), (0, .ref (ad (34 + 3 * i0))), (1, .int (x1)), (2, .int (x2)), (3, .int (x3))]) hx hb dX7_setTail_95 hl (by decide) rfl (fun ls hl => ?_)
        exact L97 nf (x3) (x1) (x5_12) _ _ _ _ _ hF (lv_sub hl [2, 5, 1, 0] rfl) hP hS
      · replace hF := br_no hF hc9
        refine lv_aload_n hx hb dX7_setTail_50 rfl (lv_at hl 0 rfl) ?_
        refine cg_X7_bytes hi0 hx hb hT hown hK hP mw5_5 dX7_setTail_51 ?_
        refine lv_iload hx hb dX7_setTail_54 (lv_at hl 4 rfl) ?_
        refine lv_iload hx hb dX7_setTail_56 (lv_at hl 4 rfl) ?_
        refine lv_iload_n hx hb dX7_setTail_58 rfl (lv_at hl 3 rfl) ?_
        refine lv_icmp_ge (tgt := 72) hx hb dX7_setTail_59 (by decide) (fun hc13 => ?_) (fun hc13 => ?_)
        · replace hF := br_yes hF hc13
          refine lv_bipush (v := (32 : Int32)) hx hb dX7_setTail_72 (by decide) ?_
          exact J74 (x1) (x2) (x3) (x4) (x4) (32 : Int32) _ _ _ _ _ hF (lv_sub hl [0, 1, 2, 3, 4] rfl) hP hS
        · replace hF := br_no hF hc13
          refine lv_aload_n hx hb dX7_setTail_62 rfl (lv_at hl 0 rfl) ?_
          refine cg_X7_base hi0 hx hb hT hown hK hP mw5_6 dX7_setTail_63 ?_
          refine lv_iload hx hb dX7_setTail_66 (lv_at hl 4 rfl) ?_
          replace hF := gd_of hF
          obtain ⟨hi14, hF⟩ := hF
          refine cl_sbase hi0 hx hb hK hP hi14 dX7_setTail_68 ?_
          refine lv_goto (tgt := 74) hx hb dX7_setTail_69 (by decide) ?_
          exact J74 (x1) (x2) (x3) (x4) (x4) (ar (41 + 2 * i0) (x4).toNatClampNeg) _ _ _ _ _ hF (lv_sub hl [0, 1, 2, 3, 4] rfl) hP hS
  have J28 : ∀ (x1 : Int32) (x2 : Int32) (fi : FI) (ar : AR) (H : Heap) (locs : List Loc) (ls : Array Slot), FX7_setTail_28 nf ln i0 x1 x2 fi ar = some (r, fi', ar') → lv_has ls 6 [(0, .ref (ad (34 + 3 * i0))), (1, .int x1), (2, .int x2)] → va_P (gD g) vwCl (WC g ad rd ln fi ar) H → va_S (AC ad rd s.heap.size) s.heap H locs → W p l e (headSpec (wx yX7_setTail cX7_setTail 6 none) ({ frames := 1, cells := 0, slots := 0, locals := 21 } : Room)).room s m ([.ref (ad (34 + 3 * i0)), .int p1] : List Value).toArray below meth c H locs 0 0 (MQ below (QCv g ad rd ln s.heap.size r fi' ar') ([.ref (ad (34 + 3 * i0)), .int p1] : List Value).toArray s 0 0 (AC ad rd s.heap.size)) (F0 m 28 ls []) := by
    intro x1 x2 fi ar H locs ls hF hl hP hS
    unfold FX7_setTail_28 at hF
    refine lv_bipush (v := (7 : Int32)) hx hb dX7_setTail_28 (by decide) ?_
    refine lv_iload_n hx hb dX7_setTail_30 rfl (lv_at hl 2 rfl) ?_
    refine lv_isub hx hb dX7_setTail_31 ?_
    refine lv_aload_n hx hb dX7_setTail_32 rfl (lv_at hl 0 rfl) ?_
    refine cg_X7_baseLength hi0 hx hb hT hown hK hP mw46_6 dX7_setTail_33 ?_
    refine va_mmin hx hb (by rw [hml, hl.1]) hown (hT _ mw46_20) (hT _ mw1_18) (hT _ mw1_19) (hT _ mw1_20) (Nat.le_of_ble_eq_true rfl) (Nat.le_of_ble_eq_true rfl) (Nat.zero_le _) (Nat.zero_le _) dX7_setTail_36 ?_
    obtain ⟨x3_15, ex3_15⟩ : ∃ y : Int32, y = (if (fi (70 + i0)) < ((7 : Int32) - (x2)) then (fi (70 + i0)) else ((7 : Int32) - (x2))) := ⟨_, rfl⟩
    rw [← ex3_15]
    replace hF := bnd_of hF ex3_15
    refine lv_istore_n (lv' := [(3, .int (x3_15)), (0, .ref (ad (34 + 3 * i0))), (1, .int (x1)), (2, .int (x2))]) hx hb dX7_setTail_39 rfl hl (by decide) rfl (fun ls hl => ?_)
    refine lv_iconst (v := (0 : Int32)) hx hb dX7_setTail_40 (by decide) ?_
    refine lv_istore (lv' := [(4, .int (0 : Int32)), (3, .int (x3_15)), (0, .ref (ad (34 + 3 * i0))), (1, .int (x1)), (2, .int (x2))]) hx hb dX7_setTail_41 hl (by decide) rfl (fun ls hl => ?_)
    exact L43 nf (x1) (x2) (x3_15) (0 : Int32) _ _ _ _ _ hF (lv_sub hl [2, 3, 4, 1, 0] rfl) hP hS
  have L7 : ∀ kf : Nat, ∀ (x1 : Int32) (x2 : Int32) (x3 : Int32) (fi : FI) (ar : AR) (H : Heap) (locs : List Loc) (ls : Array Slot), FX7_setTail_7 nf ln i0 kf x1 x2 x3 fi ar = some (r, fi', ar') → lv_has ls 6 [(0, .ref (ad (34 + 3 * i0))), (1, .int x1), (2, .int x2), (3, .int x3)] → va_P (gD g) vwCl (WC g ad rd ln fi ar) H → va_S (AC ad rd s.heap.size) s.heap H locs → W p l e (headSpec (wx yX7_setTail cX7_setTail 6 none) ({ frames := 1, cells := 0, slots := 0, locals := 21 } : Room)).room s m ([.ref (ad (34 + 3 * i0)), .int p1] : List Value).toArray below meth c H locs 0 0 (MQ below (QCv g ad rd ln s.heap.size r fi' ar') ([.ref (ad (34 + 3 * i0)), .int p1] : List Value).toArray s 0 0 (AC ad rd s.heap.size)) (F0 m 7 ls []) := by
    intro kf
    induction kf with
    | zero => intro x1 x2 x3 fi ar H locs ls hF hl hP hS; cases (show (none : Option (Unit × FI × AR)) = _ from hF)
    | succ kf ih7 =>
      intro x1 x2 x3 fi ar H locs ls hF hl hP hS
      obtain ⟨K7, hK7⟩ : ∃ K : Int32 → Int32 → Int32 → FI → AR → Option (Unit × FI × AR), K = FX7_setTail_7 nf ln i0 kf := ⟨_, rfl⟩
      replace hF : FX7_setTail_7b K7 nf ln i0 x1 x2 x3 fi ar = some (r, fi', ar') := by rw [hK7]; exact hF
      rw [← hK7] at ih7
      clear hK7
      unfold FX7_setTail_7b at hF
      refine lv_iload_n hx hb dX7_setTail_7 rfl (lv_at hl 3 rfl) ?_
      refine lv_if_le (tgt := 28) hx hb dX7_setTail_8 (by decide) (fun hc16 => ?_) (fun hc16 => ?_)
      · replace hF := br_yes hF hc16
        exact J28 (x1) (x2) _ _ _ _ _ hF (lv_sub hl [0, 1, 2] rfl) hP hS
      · replace hF := br_no hF hc16
        refine lv_iload_n hx hb dX7_setTail_11 rfl (lv_at hl 2 rfl) ?_
        refine lv_bipush (v := (7 : Int32)) hx hb dX7_setTail_12 (by decide) ?_
        refine lv_icmp_ge (tgt := 28) hx hb dX7_setTail_14 (by decide) (fun hc17 => ?_) (fun hc17 => ?_)
        · replace hF := br_yes hF hc17
          exact J28 (x1) (x2) _ _ _ _ _ hF (lv_sub hl [0, 1, 2] rfl) hP hS
        · replace hF := br_no hF hc17
          obtain ⟨x2_18, ex2_18⟩ : ∃ y : Int32, y = (x2) + (1 : Int32) := ⟨_, rfl⟩
          replace hF := bnd_of hF ex2_18
          refine lv_iinc (v := x2_18) (lv' := [(2, .int (x2_18)), (0, .ref (ad (34 + 3 * i0))), (1, .int (x1)), (3, .int (x3))]) hx hb dX7_setTail_17 hl (k := 2) rfl (by rw [ex2_18]; rfl) (by decide) rfl (fun ls hl => ?_)
          refine lv_iload_n hx hb dX7_setTail_20 rfl (lv_at hl 3 rfl) ?_
          refine lv_bipush (v := (10 : Int32)) hx hb dX7_setTail_21 (by decide) ?_
          refine lv_idiv hx hb dX7_setTail_23 (by decide) ?_
          obtain ⟨x3_19, ex3_19⟩ : ∃ y : Int32, y = ((x3) / (10 : Int32)) := ⟨_, rfl⟩
          rw [← ex3_19]
          replace hF := bnd_of hF ex3_19
          refine lv_istore_n (lv' := [(3, .int (x3_19)), (2, .int (x2_18)), (0, .ref (ad (34 + 3 * i0))), (1, .int (x1))]) hx hb dX7_setTail_24 rfl hl (by decide) rfl (fun ls hl => ?_)
          refine lv_goto (tgt := 7) hx hb dX7_setTail_25 (by decide) ?_
          exact ih7 (x1) (x2_18) (x3_19) _ _ _ _ _ hF (lv_sub hl [2, 3, 1, 0] rfl) hP hS
  replace hl := lv_sub hl [0, 1] rfl
  refine lv_iconst (v := (1 : Int32)) hx hb dX7_setTail_0 (by decide) ?_
  refine lv_istore_n (lv' := [(2, .int (1 : Int32)), (0, .ref (ad (34 + 3 * i0))), (1, .int (p1))]) hx hb dX7_setTail_1 rfl hl (by decide) rfl (fun ls hl => ?_)
  refine lv_iload_n hx hb dX7_setTail_2 rfl (lv_at hl 2 rfl) ?_
  refine lv_bipush (v := (10 : Int32)) hx hb dX7_setTail_3 (by decide) ?_
  refine lv_idiv hx hb dX7_setTail_5 (by decide) ?_
  obtain ⟨x3_20, ex3_20⟩ : ∃ y : Int32, y = ((p1) / (10 : Int32)) := ⟨_, rfl⟩
  rw [← ex3_20]
  replace hF := bnd_of hF ex3_20
  refine lv_istore_n (lv' := [(3, .int (x3_20)), (2, .int (1 : Int32)), (0, .ref (ad (34 + 3 * i0))), (1, .int (p1))]) hx hb dX7_setTail_6 rfl hl (by decide) rfl (fun ls hl => ?_)
  exact L7 nf (p1) (1 : Int32) (x3_20) _ _ _ _ _ hF (lv_sub hl [2, 3, 1, 0] rfl) hP hS
theorem cw_X7_setTail : (Cond.instanceMethod yX7_setTail ∈ TB ∧ Cond.selects RX7 yX7_setTail yX7_setTail ∈ TB ∧ Cond.code yX7_setTail cX7_setTail 6 none ∈ TB ∧ Cond.initialized RX7 ∈ TB) ∧ (yX7_setTail.cls = RX7 ∧ yX7_setTail.cls ≠ "java/lang/invoke/MethodHandle" ∧ yX7_setTail.cls ≠ "java/lang/invoke/VarHandle" ∧ (parseMethodDescriptor yX7_setTail.desc).map (fun d => d.parameters.length) = some 1) := ⟨⟨mw46_17, mw46_18, mw46_19, mw3_4⟩, by decide +kernel⟩
