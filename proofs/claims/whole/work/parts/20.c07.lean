/-! X2_lengthen -/
noncomputable def FX2_lengthen_77 (nf : Nat) (ln : LN) (i0 : Nat)  (fi : FI) (ar : AR) : Option (Unit × FI × AR) :=
  bnd (va_up fi (21 + 10 * i0) ((fi (23 + 10 * i0)) <<< ((fi (25 + 10 * i0)) &&& 31))) fun fi1 => some ((), fi1, ar)
noncomputable def FX2_lengthen_2b (K2 : Int32 → Int32 → FI → AR → Option (Unit × FI × AR)) (nf : Nat) (ln : LN) (i0 : Nat) (x1 : Int32) (x2 : Int32) (fi : FI) (ar : AR) : Option (Unit × FI × AR) :=
  br ((x1) ≤ (x2)) (FX2_lengthen_77 nf ln i0  fi ar) (br ((Int32.ofNat (ln (10 + 4 * i0))) ≤ (fi (23 + 10 * i0))) (FX2_lengthen_77 nf ln i0  fi ar) (obnd3 (FX9_claimLowest nf ln fi ar) fun r7 fi5 ar6 => obnd3 (FX9_link nf ln fi5 ar6 (fi5 (24 + 10 * i0)) (r7)) fun r11 fi9 ar10 => bnd (va_up fi9 (24 + 10 * i0) (r7)) fun fi12 => obnd3 (FX9_addressOf nf ln fi12 ar10 (r7)) fun r16 fi14 ar15 => gd (¬ ((fi12 (23 + 10 * i0)) < 0 ∨ ln (10 + 4 * i0) ≤ (fi12 (23 + 10 * i0)).toNatClampNeg)) (bnd (va_up ar15 (10 + 4 * i0) (upd (ar15 (10 + 4 * i0)) (fi12 (23 + 10 * i0)).toNatClampNeg (r16))) fun ar18 => bnd (va_up fi14 (23 + 10 * i0) ((fi14 (23 + 10 * i0)) + (1 : Int32))) fun fi19 => bnd ((x2) + (1 : Int32)) fun x2_20 => K2 (x1) (x2_20) fi19 ar18)))
noncomputable def FX2_lengthen_2 (nf : Nat) (ln : LN) (i0 : Nat) (kf : Nat) : Int32 → Int32 → FI → AR → Option (Unit × FI × AR) := Nat.rec (fun _ _ _ _ => none) (fun _ K2 => FX2_lengthen_2b K2 nf ln i0) kf
noncomputable def FX2_lengthen (nf : Nat) (ln : LN) (i0 : Nat) (fi : FI) (ar : AR) (x1 : Int32) : Option (Unit × FI × AR) :=
  FX2_lengthen_2 nf ln i0 nf (x1) (0 : Int32) fi ar
set_option maxHeartbeats 4000000 in
set_option maxRecDepth 100000 in
theorem kX2_lengthen (l : Launch) (g : GT) (ad rd : Nat → Nat) (sz : Nat) (nf : Nat) (ln : LN) (i0 : Nat) (hi0 : i0 < 3) (fi : FI) (ar : AR) (p1 : Int32) (r : Unit) (fi' : FI) (ar' : AR) (hF : FX2_lengthen nf ln i0 fi ar p1 = some (r, fi', ar')) : Met l yX2_lengthen (wx yX2_lengthen cX2_lengthen 4 none) ({ frames := 5, cells := 0, slots := 0, locals := 115 } : Room) (va_Pc [.ref (ad (11 + 5 * i0)), .int p1] (PC g ad rd ln sz fi ar)) (QCv g ad rd ln sz r fi' ar') 0 0 (AC ad rd sz) := by
  refine Met.ofW (cc := cX2_lengthen) (maxL := 4) (ret := none) (by decide) rfl ?_
  intro p e s m args below meth c s₁ B hml hv
  obtain ⟨rfl, hsz, hP, hK, hD0, hE⟩ := hv
  have hx := B.exec
  have hb := B.bytes
  have hr := B.returns
  have hts := atoms_spec (ws := (wx yX2_lengthen cX2_lengthen 4 none)) B.pre
  have hT : ∀ w ∈ TB, w.before _ s = true := fun w h => hts w (List.mem_cons_of_mem _ h)
  have hown : s.vm.findClass RX2 = some m.cls := findClass_of_methodNamed B.named
  have hlocks := B.notSynchronized
  subst hsz
  have hD := dC hD0 s.heap.size
  have hA : ∀ q : Nat, s.heap.size ≤ q → AC ad rd s.heap.size q := fun q h => Or.inr h
  have hS : va_S (AC ad rd s.heap.size) s.heap s.heap [] := va_S.rf
  have hl := lv_entry ([.ref (ad (11 + 5 * i0)), .int p1]) (n := 4) (Nat.le_of_ble_eq_true rfl)
  rw [lg_entry_eq]
  generalize (lg_sl ([.ref (ad (11 + 5 * i0)), .int p1]) ++ List.replicate (4 - (lg_sl ([.ref (ad (11 + 5 * i0)), .int p1])).length) Slot.unset).toArray = ls at hl ⊢
  have hl : lv_has ls 4 [(0, .ref (ad (11 + 5 * i0))), (1, .int p1)] := hl
  unfold FX2_lengthen at hF
  have J77 : ∀  (fi : FI) (ar : AR) (H : Heap) (locs : List Loc) (ls : Array Slot), FX2_lengthen_77 nf ln i0 fi ar = some (r, fi', ar') → lv_has ls 4 [(0, .ref (ad (11 + 5 * i0)))] → va_P (gD g) vwCl (WC g ad rd ln fi ar) H → va_S (AC ad rd s.heap.size) s.heap H locs → W p l e (headSpec (wx yX2_lengthen cX2_lengthen 4 none) ({ frames := 5, cells := 0, slots := 0, locals := 115 } : Room)).room s m ([.ref (ad (11 + 5 * i0)), .int p1] : List Value).toArray below meth c H locs 0 0 (MQ below (QCv g ad rd ln s.heap.size r fi' ar') ([.ref (ad (11 + 5 * i0)), .int p1] : List Value).toArray s 0 0 (AC ad rd s.heap.size)) (F0 m 77 ls []) := by
    intro fi ar H locs ls hF hl hP hS
    unfold FX2_lengthen_77 at hF
    refine lv_aload_n hx hb dX2_lengthen_77 rfl (lv_at hl 0 rfl) ?_
    refine lv_aload_n hx hb dX2_lengthen_78 rfl (lv_at hl 0 rfl) ?_
    refine cg_X2_length hi0 hx hb hT hown hK hP mw23_17 dX2_lengthen_79 ?_
    refine lv_aload_n hx hb dX2_lengthen_82 rfl (lv_at hl 0 rfl) ?_
    refine cg_X2_slotShift hi0 hx hb hT hown hK hP mw23_19 dX2_lengthen_83 ?_
    refine lv_ishl hx hb dX2_lengthen_86 ?_
    obtain ⟨fi1, efi1⟩ : ∃ y : FI, y = va_up fi (21 + 10 * i0) ((fi (23 + 10 * i0)) <<< ((fi (25 + 10 * i0)) &&& 31)) := ⟨_, rfl⟩
    replace hF := bnd_of hF efi1
    refine cp_X2_slots hi0 hx hb hT hown hK hP hD hS mw23_20 dX2_lengthen_87 (fun H locs hP hS => ?_)
    rw [← efi1] at hP
    exact rC_v hx hb hr hlocks hF hP hS dX2_lengthen_90
  have L2 : ∀ kf : Nat, ∀ (x1 : Int32) (x2 : Int32) (fi : FI) (ar : AR) (H : Heap) (locs : List Loc) (ls : Array Slot), FX2_lengthen_2 nf ln i0 kf x1 x2 fi ar = some (r, fi', ar') → lv_has ls 4 [(0, .ref (ad (11 + 5 * i0))), (1, .int x1), (2, .int x2)] → va_P (gD g) vwCl (WC g ad rd ln fi ar) H → va_S (AC ad rd s.heap.size) s.heap H locs → W p l e (headSpec (wx yX2_lengthen cX2_lengthen 4 none) ({ frames := 5, cells := 0, slots := 0, locals := 115 } : Room)).room s m ([.ref (ad (11 + 5 * i0)), .int p1] : List Value).toArray below meth c H locs 0 0 (MQ below (QCv g ad rd ln s.heap.size r fi' ar') ([.ref (ad (11 + 5 * i0)), .int p1] : List Value).toArray s 0 0 (AC ad rd s.heap.size)) (F0 m 2 ls []) := by
    intro kf
    induction kf with
    | zero => intro x1 x2 fi ar H locs ls hF hl hP hS; cases (show (none : Option (Unit × FI × AR)) = _ from hF)
    | succ kf ih2 =>
      intro x1 x2 fi ar H locs ls hF hl hP hS
      obtain ⟨K2, hK2⟩ : ∃ K : Int32 → Int32 → FI → AR → Option (Unit × FI × AR), K = FX2_lengthen_2 nf ln i0 kf := ⟨_, rfl⟩
      replace hF : FX2_lengthen_2b K2 nf ln i0 x1 x2 fi ar = some (r, fi', ar') := by rw [hK2]; exact hF
      rw [← hK2] at ih2
      clear hK2
      unfold FX2_lengthen_2b at hF
      refine lv_iload_n hx hb dX2_lengthen_2 rfl (lv_at hl 2 rfl) ?_
      refine lv_iload_n hx hb dX2_lengthen_3 rfl (lv_at hl 1 rfl) ?_
      refine lv_icmp_ge (tgt := 77) hx hb dX2_lengthen_4 (by decide) (fun hc2 => ?_) (fun hc2 => ?_)
      · replace hF := br_yes hF hc2
        exact J77  _ _ _ _ _ hF (lv_sub hl [0] rfl) hP hS
      · replace hF := br_no hF hc2
        refine lv_aload_n hx hb dX2_lengthen_7 rfl (lv_at hl 0 rfl) ?_
        refine cg_X2_length hi0 hx hb hT hown hK hP mw23_17 dX2_lengthen_8 ?_
        refine lv_aload_n hx hb dX2_lengthen_11 rfl (lv_at hl 0 rfl) ?_
        refine cg_X2_addresses hi0 hx hb hT hown hK hP mw5_18 dX2_lengthen_12 ?_
        refine ca_addresses hi0 hx hb hK hP dX2_lengthen_15 ?_
        refine lv_icmp_ge (tgt := 77) hx hb dX2_lengthen_16 (by decide) (fun hc3 => ?_) (fun hc3 => ?_)
        · replace hF := br_yes hF hc3
          exact J77  _ _ _ _ _ hF (lv_sub hl [0] rfl) hP hS
        · replace hF := br_no hF hc3
          refine lv_aload_n hx hb dX2_lengthen_19 rfl (lv_at hl 0 rfl) ?_
          refine cg_X2_volume hi0 hx hb hT hown hK hP mw5_14 dX2_lengthen_20 ?_
          replace hF := obnd3_of hF
          obtain ⟨r7, fi5, ar6, h4, hF⟩ := hF
          refine cC_i (As := []) (rest := []) hx hb hml hT hown hK hE hD hA hP hS (rcv_X9 hK hP) (kX9_claimLowest l g ad rd _ nf ln fi ar r7 fi5 ar6 h4) cw_X9_claimLowest mw48_2 ⟨⟨rfl, rfl⟩, Nat.le_of_ble_eq_true rfl, Nat.le_of_ble_eq_true rfl⟩ rfl hl.1 rfl (Nat.le_of_ble_eq_true rfl) dX2_lengthen_23 ⟨Nat.zero_le _, Nat.zero_le _⟩ (fun H locs hP hS => ?_)
          refine lv_istore_n (lv' := [(3, .int (r7)), (0, .ref (ad (11 + 5 * i0))), (1, .int (x1)), (2, .int (x2))]) hx hb dX2_lengthen_26 rfl hl (by decide) rfl (fun ls hl => ?_)
          refine lv_aload_n hx hb dX2_lengthen_27 rfl (lv_at hl 1 rfl) ?_
          refine cg_X2_volume hi0 hx hb hT hown hK hP mw5_14 dX2_lengthen_28 ?_
          refine lv_aload_n hx hb dX2_lengthen_31 rfl (lv_at hl 1 rfl) ?_
          refine cg_X2_lastCluster hi0 hx hb hT hown hK hP mw23_18 dX2_lengthen_32 ?_
          refine lv_iload_n hx hb dX2_lengthen_35 rfl (lv_at hl 0 rfl) ?_
          replace hF := obnd3_of hF
          obtain ⟨r11, fi9, ar10, h8, hF⟩ := hF
          refine cC_v (As := [.int (fi5 (24 + 10 * i0)), .int (r7)]) (rest := []) hx hb hml hT hown hK hE hD hA hP hS (rcv_X9 hK hP) (kX9_link l g ad rd _ nf ln fi5 ar6 (fi5 (24 + 10 * i0)) (r7) r11 fi9 ar10 h8) cw_X9_link mw48_3 ⟨⟨rfl, rfl⟩, Nat.le_of_ble_eq_true rfl, Nat.le_of_ble_eq_true rfl⟩ rfl hl.1 rfl (Nat.le_of_ble_eq_true rfl) dX2_lengthen_36 ⟨Nat.zero_le _, Nat.zero_le _⟩ (fun H locs hP hS => ?_)
          refine lv_aload_n hx hb dX2_lengthen_39 rfl (lv_at hl 1 rfl) ?_
          refine lv_iload_n hx hb dX2_lengthen_40 rfl (lv_at hl 0 rfl) ?_
          obtain ⟨fi12, efi12⟩ : ∃ y : FI, y = va_up fi9 (24 + 10 * i0) (r7) := ⟨_, rfl⟩
          replace hF := bnd_of hF efi12
          refine cp_X2_lastCluster hi0 hx hb hT hown hK hP hD hS mw23_18 dX2_lengthen_41 (fun H locs hP hS => ?_)
          rw [← efi12] at hP
          refine lv_aload_n hx hb dX2_lengthen_44 rfl (lv_at hl 1 rfl) ?_
          refine cg_X2_addresses hi0 hx hb hT hown hK hP mw5_18 dX2_lengthen_45 ?_
          refine lv_aload_n hx hb dX2_lengthen_48 rfl (lv_at hl 1 rfl) ?_
          refine cg_X2_length hi0 hx hb hT hown hK hP mw23_17 dX2_lengthen_49 ?_
          refine lv_aload_n hx hb dX2_lengthen_52 rfl (lv_at hl 1 rfl) ?_
          refine cg_X2_volume hi0 hx hb hT hown hK hP mw5_14 dX2_lengthen_53 ?_
          refine lv_iload_n hx hb dX2_lengthen_56 rfl (lv_at hl 0 rfl) ?_
          replace hF := obnd3_of hF
          obtain ⟨r16, fi14, ar15, h13, hF⟩ := hF
          refine cC_i (As := [.int (r7)]) (rest := [.int (fi12 (23 + 10 * i0)), .ref (ad (12 + 5 * i0))]) hx hb hml hT hown hK hE hD hA hP hS (rcv_X9 hK hP) (kX9_addressOf l g ad rd _ nf ln fi12 ar10 (r7) r16 fi14 ar15 h13) cw_X9_addressOf mw23_23 ⟨⟨rfl, rfl⟩, Nat.le_of_ble_eq_true rfl, Nat.le_of_ble_eq_true rfl⟩ rfl hl.1 rfl (Nat.le_of_ble_eq_true rfl) dX2_lengthen_57 ⟨Nat.zero_le _, Nat.zero_le _⟩ (fun H locs hP hS => ?_)
          replace hF := gd_of hF
          obtain ⟨hi17, hF⟩ := hF
          obtain ⟨ar18, ear18⟩ : ∃ y : AR, y = va_up ar15 (10 + 4 * i0) (upd (ar15 (10 + 4 * i0)) (fi12 (23 + 10 * i0)).toNatClampNeg (r16)) := ⟨_, rfl⟩
          replace hF := bnd_of hF ear18
          refine cs_addresses hi0 hx hb hK hP hD hS hi17 dX2_lengthen_60 (fun H locs hP hS => ?_)
          rw [← ear18] at hP
          refine lv_aload_n hx hb dX2_lengthen_61 rfl (lv_at hl 1 rfl) ?_
          refine lv_dup hx hb dX2_lengthen_62 rfl ?_
          refine cg_X2_length hi0 hx hb hT hown hK hP mw23_17 dX2_lengthen_63 ?_
          refine lv_iconst (v := (1 : Int32)) hx hb dX2_lengthen_66 (by decide) ?_
          refine lv_iadd hx hb dX2_lengthen_67 ?_
          obtain ⟨fi19, efi19⟩ : ∃ y : FI, y = va_up fi14 (23 + 10 * i0) ((fi14 (23 + 10 * i0)) + (1 : Int32)) := ⟨_, rfl⟩
          replace hF := bnd_of hF efi19
          refine cp_X2_length hi0 hx hb hT hown hK hP hD hS mw23_17 dX2_lengthen_68 (fun H locs hP hS => ?_)
          rw [← efi19] at hP
          obtain ⟨x2_20, ex2_20⟩ : ∃ y : Int32, y = (x2) + (1 : Int32) := ⟨_, rfl⟩
          replace hF := bnd_of hF ex2_20
          refine lv_iinc (v := x2_20) (lv' := [(2, .int (x2_20)), (3, .int (r7)), (0, .ref (ad (11 + 5 * i0))), (1, .int (x1))]) hx hb dX2_lengthen_71 hl (k := 3) rfl (by rw [ex2_20]; rfl) (by decide) rfl (fun ls hl => ?_)
          refine lv_goto (tgt := 2) hx hb dX2_lengthen_74 (by decide) ?_
          exact ih2 (x1) (x2_20) _ _ _ _ _ hF (lv_sub hl [2, 3, 0] rfl) hP hS
  replace hl := lv_sub hl [0, 1] rfl
  refine lv_iconst (v := (0 : Int32)) hx hb dX2_lengthen_0 (by decide) ?_
  refine lv_istore_n (lv' := [(2, .int (0 : Int32)), (0, .ref (ad (11 + 5 * i0))), (1, .int (p1))]) hx hb dX2_lengthen_1 rfl hl (by decide) rfl (fun ls hl => ?_)
  exact L2 nf (p1) (0 : Int32) _ _ _ _ _ hF (lv_sub hl [1, 2, 0] rfl) hP hS
theorem cw_X2_lengthen : (Cond.instanceMethod yX2_lengthen ∈ TB ∧ Cond.selects RX2 yX2_lengthen yX2_lengthen ∈ TB ∧ Cond.code yX2_lengthen cX2_lengthen 4 none ∈ TB ∧ Cond.initialized RX2 ∈ TB) ∧ (yX2_lengthen.cls = RX2 ∧ yX2_lengthen.cls ≠ "java/lang/invoke/MethodHandle" ∧ yX2_lengthen.cls ≠ "java/lang/invoke/VarHandle" ∧ (parseMethodDescriptor yX2_lengthen.desc).map (fun d => d.parameters.length) = some 1) := ⟨⟨mw47_23, mw48_0, mw48_1, mw2_18⟩, by decide +kernel⟩
/-! X3_has -/
noncomputable def FX3_has_28 (nf : Nat) (ln : LN) (t0 : Int32) (fi : FI) (ar : AR) : Option (Int32 × FI × AR) :=
  gd ((t0) &&& 1 = (t0)) (some ((t0), fi, ar))
noncomputable def FX3_has_27 (nf : Nat) (ln : LN)  (fi : FI) (ar : AR) : Option (Int32 × FI × AR) :=
  FX3_has_28 nf ln  (0 : Int32) fi ar
noncomputable def FX3_has (nf : Nat) (ln : LN) (fi : FI) (ar : AR) (x1 : Int32) (x2 : Int32) : Option (Int32 × FI × AR) :=
  br ((x1) < 0) (FX3_has_27 nf ln  fi ar) (br ((fi (2)) ≤ (x1)) (FX3_has_27 nf ln  fi ar) (br ((x2) < 0) (FX3_has_27 nf ln  fi ar) (br ((512 : Int32) ≤ (x2)) (FX3_has_27 nf ln  fi ar) (FX3_has_28 nf ln  (1 : Int32) fi ar))))
set_option maxHeartbeats 4000000 in
set_option maxRecDepth 100000 in
theorem kX3_has (l : Launch) (g : GT) (ad rd : Nat → Nat) (sz : Nat) (nf : Nat) (ln : LN) (fi : FI) (ar : AR) (p1 : Int32) (p2 : Int32) (r : Int32) (fi' : FI) (ar' : AR) (hF : FX3_has nf ln fi ar p1 p2 = some (r, fi', ar')) : Met l yX3_has (wx yX3_has cX3_has 3 (some .boolean)) ({ frames := 0, cells := 0, slots := 0, locals := 0 } : Room) (va_Pc [.ref (ad (1)), .int p1, .int p2] (PC g ad rd ln sz fi ar)) (QCi g ad rd ln sz r fi' ar') 0 0 (AC ad rd sz) := by
  refine Met.ofW (cc := cX3_has) (maxL := 3) (ret := (some .boolean)) (by decide) rfl ?_
  intro p e s m args below meth c s₁ B hml hv
  obtain ⟨rfl, hsz, hP, hK, hD0, hE⟩ := hv
  have hx := B.exec
  have hb := B.bytes
  have hr := B.returns
  have hts := atoms_spec (ws := (wx yX3_has cX3_has 3 (some .boolean))) B.pre
  have hT : ∀ w ∈ TB, w.before _ s = true := fun w h => hts w (List.mem_cons_of_mem _ h)
  have hown : s.vm.findClass RX3 = some m.cls := findClass_of_methodNamed B.named
  have hlocks := B.notSynchronized
  subst hsz
  have hD := dC hD0 s.heap.size
  have hA : ∀ q : Nat, s.heap.size ≤ q → AC ad rd s.heap.size q := fun q h => Or.inr h
  have hS : va_S (AC ad rd s.heap.size) s.heap s.heap [] := va_S.rf
  have hl := lv_entry ([.ref (ad (1)), .int p1, .int p2]) (n := 3) (Nat.le_of_ble_eq_true rfl)
  rw [lg_entry_eq]
  generalize (lg_sl ([.ref (ad (1)), .int p1, .int p2]) ++ List.replicate (3 - (lg_sl ([.ref (ad (1)), .int p1, .int p2])).length) Slot.unset).toArray = ls at hl ⊢
  have hl : lv_has ls 3 [(0, .ref (ad (1))), (1, .int p1), (2, .int p2)] := hl
  unfold FX3_has at hF
  have J28 : ∀ (t0 : Int32) (fi : FI) (ar : AR) (H : Heap) (locs : List Loc) (ls : Array Slot), FX3_has_28 nf ln t0 fi ar = some (r, fi', ar') → lv_has ls 3 [(0, .ref (ad (1)))] → va_P (gD g) vwCl (WC g ad rd ln fi ar) H → va_S (AC ad rd s.heap.size) s.heap H locs → W p l e (headSpec (wx yX3_has cX3_has 3 (some .boolean)) ({ frames := 0, cells := 0, slots := 0, locals := 0 } : Room)).room s m ([.ref (ad (1)), .int p1, .int p2] : List Value).toArray below meth c H locs 0 0 (MQ below (QCi g ad rd ln s.heap.size r fi' ar') ([.ref (ad (1)), .int p1, .int p2] : List Value).toArray s 0 0 (AC ad rd s.heap.size)) (F0 m 28 ls [.int t0]) := by
    intro t0 fi ar H locs ls hF hl hP hS
    unfold FX3_has_28 at hF
    replace hF := gd_of hF
    obtain ⟨hz1, hF⟩ := hF
    exact rC_z hx hb hr hlocks (nar_z hz1) hF hP hS dX3_has_28
  have J27 : ∀  (fi : FI) (ar : AR) (H : Heap) (locs : List Loc) (ls : Array Slot), FX3_has_27 nf ln fi ar = some (r, fi', ar') → lv_has ls 3 [(0, .ref (ad (1)))] → va_P (gD g) vwCl (WC g ad rd ln fi ar) H → va_S (AC ad rd s.heap.size) s.heap H locs → W p l e (headSpec (wx yX3_has cX3_has 3 (some .boolean)) ({ frames := 0, cells := 0, slots := 0, locals := 0 } : Room)).room s m ([.ref (ad (1)), .int p1, .int p2] : List Value).toArray below meth c H locs 0 0 (MQ below (QCi g ad rd ln s.heap.size r fi' ar') ([.ref (ad (1)), .int p1, .int p2] : List Value).toArray s 0 0 (AC ad rd s.heap.size)) (F0 m 27 ls []) := by
    intro fi ar H locs ls hF hl hP hS
    unfold FX3_has_27 at hF
    refine lv_iconst (v := (0 : Int32)) hx hb dX3_has_27 (by decide) ?_
    exact J28 (0 : Int32) _ _ _ _ _ hF (lv_sub hl [0] rfl) hP hS
  replace hl := lv_sub hl [0, 1, 2] rfl
  refine lv_iload_n hx hb dX3_has_0 rfl (lv_at hl 1 rfl) ?_
  refine lv_if_lt (tgt := 27) hx hb dX3_has_1 (by decide) (fun hc2 => ?_) (fun hc2 => ?_)
  · replace hF := br_yes hF hc2
    exact J27  _ _ _ _ _ hF (lv_sub hl [0] rfl) hP hS
  · replace hF := br_no hF hc2
    refine lv_iload_n hx hb dX3_has_4 rfl (lv_at hl 1 rfl) ?_
    refine lv_aload_n hx hb dX3_has_5 rfl (lv_at hl 0 rfl) ?_
    refine cg_X3_sectors hx hb hT hown hK hP mw3_12 dX3_has_6 ?_
    refine lv_icmp_ge (tgt := 27) hx hb dX3_has_9 (by decide) (fun hc3 => ?_) (fun hc3 => ?_)
    · replace hF := br_yes hF hc3
      exact J27  _ _ _ _ _ hF (lv_sub hl [0] rfl) hP hS
    · replace hF := br_no hF hc3
      refine lv_iload_n hx hb dX3_has_12 rfl (lv_at hl 2 rfl) ?_
      refine lv_if_lt (tgt := 27) hx hb dX3_has_13 (by decide) (fun hc4 => ?_) (fun hc4 => ?_)
      · replace hF := br_yes hF hc4
        exact J27  _ _ _ _ _ hF (lv_sub hl [0] rfl) hP hS
      · replace hF := br_no hF hc4
        refine lv_iload_n hx hb dX3_has_16 rfl (lv_at hl 2 rfl) ?_
        refine lv_sipush (v := (512 : Int32)) hx hb dX3_has_17 (by decide) ?_
        refine lv_icmp_ge (tgt := 27) hx hb dX3_has_20 (by decide) (fun hc5 => ?_) (fun hc5 => ?_)
        · replace hF := br_yes hF hc5
          exact J27  _ _ _ _ _ hF (lv_sub hl [0] rfl) hP hS
        · replace hF := br_no hF hc5
          refine lv_iconst (v := (1 : Int32)) hx hb dX3_has_23 (by decide) ?_
          refine lv_goto (tgt := 28) hx hb dX3_has_24 (by decide) ?_
          exact J28 (1 : Int32) _ _ _ _ _ hF (lv_sub hl [0] rfl) hP hS
theorem cw_X3_has : (Cond.instanceMethod yX3_has ∈ TB ∧ Cond.selects RX3 yX3_has yX3_has ∈ TB ∧ Cond.code yX3_has cX3_has 3 (some .boolean) ∈ TB ∧ Cond.initialized RX3 ∈ TB) ∧ (yX3_has.cls = RX3 ∧ yX3_has.cls ≠ "java/lang/invoke/MethodHandle" ∧ yX3_has.cls ≠ "java/lang/invoke/VarHandle" ∧ (parseMethodDescriptor yX3_has.desc).map (fun d => d.parameters.length) = some 2) := ⟨⟨mw21_4, mw21_5, mw21_6, mw2_2⟩, by decide +kernel⟩
/-! X3_putFirstCluster -/
noncomputable def FX3_putFirstCluster (nf : Nat) (ln : LN) (fi : FI) (ar : AR) (x1 : Int32) (x2 : Int32) : Option (Unit × FI × AR) :=
  obnd3 (FX3_putTwo nf ln fi ar ((x1) + (20 : Int32)) ((x2) >>> ((16 : Int32) &&& 31))) fun r4 fi2 ar3 => obnd3 (FX3_putTwo nf ln fi2 ar3 ((x1) + (26 : Int32)) (x2)) fun r8 fi6 ar7 => some ((), fi6, ar7)
set_option maxHeartbeats 4000000 in
set_option maxRecDepth 100000 in
theorem kX3_putFirstCluster (l : Launch) (g : GT) (ad rd : Nat → Nat) (sz : Nat) (nf : Nat) (ln : LN) (fi : FI) (ar : AR) (p1 : Int32) (p2 : Int32) (r : Unit) (fi' : FI) (ar' : AR) (hF : FX3_putFirstCluster nf ln fi ar p1 p2 = some (r, fi', ar')) : Met l yX3_putFirstCluster (wx yX3_putFirstCluster cX3_putFirstCluster 3 none) ({ frames := 2, cells := 0, slots := 0, locals := 46 } : Room) (va_Pc [.ref (ad (1)), .int p1, .int p2] (PC g ad rd ln sz fi ar)) (QCv g ad rd ln sz r fi' ar') 0 0 (AC ad rd sz) := by
  refine Met.ofW (cc := cX3_putFirstCluster) (maxL := 3) (ret := none) (by decide) rfl ?_
  intro p e s m args below meth c s₁ B hml hv
  obtain ⟨rfl, hsz, hP, hK, hD0, hE⟩ := hv
  have hx := B.exec
  have hb := B.bytes
  have hr := B.returns
  have hts := atoms_spec (ws := (wx yX3_putFirstCluster cX3_putFirstCluster 3 none)) B.pre
  have hT : ∀ w ∈ TB, w.before _ s = true := fun w h => hts w (List.mem_cons_of_mem _ h)
  have hown : s.vm.findClass RX3 = some m.cls := findClass_of_methodNamed B.named
  have hlocks := B.notSynchronized
  subst hsz
  have hD := dC hD0 s.heap.size
  have hA : ∀ q : Nat, s.heap.size ≤ q → AC ad rd s.heap.size q := fun q h => Or.inr h
  have hS : va_S (AC ad rd s.heap.size) s.heap s.heap [] := va_S.rf
  have hl := lv_entry ([.ref (ad (1)), .int p1, .int p2]) (n := 3) (Nat.le_of_ble_eq_true rfl)
  rw [lg_entry_eq]
  generalize (lg_sl ([.ref (ad (1)), .int p1, .int p2]) ++ List.replicate (3 - (lg_sl ([.ref (ad (1)), .int p1, .int p2])).length) Slot.unset).toArray = ls at hl ⊢
  have hl : lv_has ls 3 [(0, .ref (ad (1))), (1, .int p1), (2, .int p2)] := hl
  unfold FX3_putFirstCluster at hF
  replace hl := lv_sub hl [0, 1, 2] rfl
  refine lv_aload_n hx hb dX3_putFirstCluster_0 rfl (lv_at hl 0 rfl) ?_
  refine lv_iload_n hx hb dX3_putFirstCluster_1 rfl (lv_at hl 1 rfl) ?_
  refine lv_bipush (v := (20 : Int32)) hx hb dX3_putFirstCluster_2 (by decide) ?_
  refine lv_iadd hx hb dX3_putFirstCluster_4 ?_
  refine lv_iload_n hx hb dX3_putFirstCluster_5 rfl (lv_at hl 2 rfl) ?_
  refine lv_bipush (v := (16 : Int32)) hx hb dX3_putFirstCluster_6 (by decide) ?_
  refine lv_ishr hx hb dX3_putFirstCluster_8 ?_
  replace hF := obnd3_of hF
  obtain ⟨r4, fi2, ar3, h1, hF⟩ := hF
  refine cC_v (As := [.int ((p1) + (20 : Int32)), .int ((p2) >>> ((16 : Int32) &&& 31))]) (rest := []) hx hb hml hT hown hK hE hD hA hP hS (rcv_X3 hK hP) (kX3_putTwo l g ad rd _ nf ln fi ar ((p1) + (20 : Int32)) ((p2) >>> ((16 : Int32) &&& 31)) r4 fi2 ar3 h1) cw_X3_putTwo mw15_8 ⟨⟨rfl, rfl⟩, Nat.le_of_ble_eq_true rfl, Nat.le_of_ble_eq_true rfl⟩ rfl hl.1 rfl (Nat.le_of_ble_eq_true rfl) dX3_putFirstCluster_9 ⟨Nat.zero_le _, Nat.zero_le _⟩ (fun H locs hP hS => ?_)
  refine lv_aload_n hx hb dX3_putFirstCluster_12 rfl (lv_at hl 0 rfl) ?_
  refine lv_iload_n hx hb dX3_putFirstCluster_13 rfl (lv_at hl 1 rfl) ?_
  refine lv_bipush (v := (26 : Int32)) hx hb dX3_putFirstCluster_14 (by decide) ?_
  refine lv_iadd hx hb dX3_putFirstCluster_16 ?_
  refine lv_iload_n hx hb dX3_putFirstCluster_17 rfl (lv_at hl 2 rfl) ?_
  replace hF := obnd3_of hF
  obtain ⟨r8, fi6, ar7, h5, hF⟩ := hF
  refine cC_v (As := [.int ((p1) + (26 : Int32)), .int (p2)]) (rest := []) hx hb hml hT hown hK hE hD hA hP hS (rcv_X3 hK hP) (kX3_putTwo l g ad rd _ nf ln fi2 ar3 ((p1) + (26 : Int32)) (p2) r8 fi6 ar7 h5) cw_X3_putTwo mw15_8 ⟨⟨rfl, rfl⟩, Nat.le_of_ble_eq_true rfl, Nat.le_of_ble_eq_true rfl⟩ rfl hl.1 rfl (Nat.le_of_ble_eq_true rfl) dX3_putFirstCluster_18 ⟨Nat.zero_le _, Nat.zero_le _⟩ (fun H locs hP hS => ?_)
  exact rC_v hx hb hr hlocks hF hP hS dX3_putFirstCluster_21
theorem cw_X3_putFirstCluster : (Cond.instanceMethod yX3_putFirstCluster ∈ TB ∧ Cond.selects RX3 yX3_putFirstCluster yX3_putFirstCluster ∈ TB ∧ Cond.code yX3_putFirstCluster cX3_putFirstCluster 3 none ∈ TB ∧ Cond.initialized RX3 ∈ TB) ∧ (yX3_putFirstCluster.cls = RX3 ∧ yX3_putFirstCluster.cls ≠ "java/lang/invoke/MethodHandle" ∧ yX3_putFirstCluster.cls ≠ "java/lang/invoke/VarHandle" ∧ (parseMethodDescriptor yX3_putFirstCluster.desc).map (fun d => d.parameters.length) = some 2) := ⟨⟨mw17_5, mw17_6, mw17_7, mw2_2⟩, by decide +kernel⟩
/-! X3_fill -/
noncomputable def FX3_fill_3b (K3 : Int32 → Int32 → Int32 → Int32 → FI → AR → Option (Unit × FI × AR)) (nf : Nat) (ln : LN) (x1 : Int32) (x2 : Int32) (x3 : Int32) (x4 : Int32) (fi : FI) (ar : AR) : Option (Unit × FI × AR) :=
  br ((x2) ≤ (x4)) (some ((), fi, ar)) (obnd3 (FX3_putOne nf ln fi ar ((x1) + (x4)) (x3)) fun r5 fi3 ar4 => bnd ((x4) + (1 : Int32)) fun x4_6 => K3 (x1) (x2) (x3) (x4_6) fi3 ar4)
noncomputable def FX3_fill_3 (nf : Nat) (ln : LN) (kf : Nat) : Int32 → Int32 → Int32 → Int32 → FI → AR → Option (Unit × FI × AR) := Nat.rec (fun _ _ _ _ _ _ => none) (fun _ K3 => FX3_fill_3b K3 nf ln) kf
noncomputable def FX3_fill (nf : Nat) (ln : LN) (fi : FI) (ar : AR) (x1 : Int32) (x2 : Int32) (x3 : Int32) : Option (Unit × FI × AR) :=
  FX3_fill_3 nf ln nf (x1) (x2) (x3) (0 : Int32) fi ar
set_option maxHeartbeats 4000000 in
set_option maxRecDepth 100000 in
theorem kX3_fill (l : Launch) (g : GT) (ad rd : Nat → Nat) (sz : Nat) (nf : Nat) (ln : LN) (fi : FI) (ar : AR) (p1 : Int32) (p2 : Int32) (p3 : Int32) (r : Unit) (fi' : FI) (ar' : AR) (hF : FX3_fill nf ln fi ar p1 p2 p3 = some (r, fi', ar')) : Met l yX3_fill (wx yX3_fill cX3_fill 5 none) ({ frames := 1, cells := 0, slots := 0, locals := 24 } : Room) (va_Pc [.ref (ad (1)), .int p1, .int p2, .int p3] (PC g ad rd ln sz fi ar)) (QCv g ad rd ln sz r fi' ar') 0 0 (AC ad rd sz) := by
  refine Met.ofW (cc := cX3_fill) (maxL := 5) (ret := none) (by decide) rfl ?_
  intro p e s m args below meth c s₁ B hml hv
  obtain ⟨rfl, hsz, hP, hK, hD0, hE⟩ := hv
  have hx := B.exec
  have hb := B.bytes
  have hr := B.returns
  have hts := atoms_spec (ws := (wx yX3_fill cX3_fill 5 none)) B.pre
  have hT : ∀ w ∈ TB, w.before _ s = true := fun w h => hts w (List.mem_cons_of_mem _ h)
  have hown : s.vm.findClass RX3 = some m.cls := findClass_of_methodNamed B.named
  have hlocks := B.notSynchronized
  subst hsz
  have hD := dC hD0 s.heap.size
  have hA : ∀ q : Nat, s.heap.size ≤ q → AC ad rd s.heap.size q := fun q h => Or.inr h
  have hS : va_S (AC ad rd s.heap.size) s.heap s.heap [] := va_S.rf
  have hl := lv_entry ([.ref (ad (1)), .int p1, .int p2, .int p3]) (n := 5) (Nat.le_of_ble_eq_true rfl)
  rw [lg_entry_eq]
  generalize (lg_sl ([.ref (ad (1)), .int p1, .int p2, .int p3]) ++ List.replicate (5 - (lg_sl ([.ref (ad (1)), .int p1, .int p2, .int p3])).length) Slot.unset).toArray = ls at hl ⊢
  have hl : lv_has ls 5 [(0, .ref (ad (1))), (1, .int p1), (2, .int p2), (3, .int p3)] := hl
  unfold FX3_fill at hF
  have L3 : ∀ kf : Nat, ∀ (x1 : Int32) (x2 : Int32) (x3 : Int32) (x4 : Int32) (fi : FI) (ar : AR) (H : Heap) (locs : List Loc) (ls : Array Slot), FX3_fill_3 nf ln kf x1 x2 x3 x4 fi ar = some (r, fi', ar') → lv_has ls 5 [(0, .ref (ad (1))), (1, .int x1), (2, .int x2), (3, .int x3), (4, .int x4)] → va_P (gD g) vwCl (WC g ad rd ln fi ar) H → va_S (AC ad rd s.heap.size) s.heap H locs → W p l e (headSpec (wx yX3_fill cX3_fill 5 none) ({ frames := 1, cells := 0, slots := 0, locals := 24 } : Room)).room s m ([.ref (ad (1)), .int p1, .int p2, .int p3] : List Value).toArray below meth c H locs 0 0 (MQ below (QCv g ad rd ln s.heap.size r fi' ar') ([.ref (ad (1)), .int p1, .int p2, .int p3] : List Value).toArray s 0 0 (AC ad rd s.heap.size)) (F0 m 3 ls []) := by
    intro kf
    induction kf with
    | zero => intro x1 x2 x3 x4 fi ar H locs ls hF hl hP hS; cases (show (none : Option (Unit × FI × AR)) = _ from hF)
    | succ kf ih3 =>
      intro x1 x2 x3 x4 fi ar H locs ls hF hl hP hS
      obtain ⟨K3, hK3⟩ : ∃ K : Int32 → Int32 → Int32 → Int32 → FI → AR → Option (Unit × FI × AR), K = FX3_fill_3 nf ln kf := ⟨_, rfl⟩
      replace hF : FX3_fill_3b K3 nf ln x1 x2 x3 x4 fi ar = some (r, fi', ar') := by rw [hK3]; exact hF
      rw [← hK3] at ih3
      clear hK3
      unfold FX3_fill_3b at hF
      refine lv_iload hx hb dX3_fill_3 (lv_at hl 4 rfl) ?_
      refine lv_iload_n hx hb dX3_fill_5 rfl (lv_at hl 2 rfl) ?_
      refine lv_icmp_ge (tgt := 24) hx hb dX3_fill_6 (by decide) (fun hc1 => ?_) (fun hc1 => ?_)
      · replace hF := br_yes hF hc1
        exact rC_v hx hb hr hlocks hF hP hS dX3_fill_24
      · replace hF := br_no hF hc1
        refine lv_aload_n hx hb dX3_fill_9 rfl (lv_at hl 0 rfl) ?_
        refine lv_iload_n hx hb dX3_fill_10 rfl (lv_at hl 1 rfl) ?_
        refine lv_iload hx hb dX3_fill_11 (lv_at hl 4 rfl) ?_
        refine lv_iadd hx hb dX3_fill_13 ?_
        refine lv_iload_n hx hb dX3_fill_14 rfl (lv_at hl 3 rfl) ?_
        replace hF := obnd3_of hF
        obtain ⟨r5, fi3, ar4, h2, hF⟩ := hF
        refine cC_v (As := [.int ((x1) + (x4)), .int (x3)]) (rest := []) hx hb hml hT hown hK hE hD hA hP hS (rcv_X3 hK hP) (kX3_putOne l g ad rd _ nf ln fi ar ((x1) + (x4)) (x3) r5 fi3 ar4 h2) cw_X3_putOne mw14_19 ⟨⟨rfl, rfl⟩, Nat.le_of_ble_eq_true rfl, Nat.le_of_ble_eq_true rfl⟩ rfl hl.1 rfl (Nat.le_of_ble_eq_true rfl) dX3_fill_15 ⟨Nat.zero_le _, Nat.zero_le _⟩ (fun H locs hP hS => ?_)
        obtain ⟨x4_6, ex4_6⟩ : ∃ y : Int32, y = (x4) + (1 : Int32) := ⟨_, rfl⟩
        replace hF := bnd_of hF ex4_6
        refine lv_iinc (v := x4_6) (lv' := [(4, .int (x4_6)), (0, .ref (ad (1))), (1, .int (x1)), (2, .int (x2)), (3, .int (x3))]) hx hb dX3_fill_18 hl (k := 4) rfl (by rw [ex4_6]; rfl) (by decide) rfl (fun ls hl => ?_)
        refine lv_goto (tgt := 3) hx hb dX3_fill_21 (by decide) ?_
        exact ih3 (x1) (x2) (x3) (x4_6) _ _ _ _ _ hF (lv_sub hl [1, 2, 3, 4, 0] rfl) hP hS
  replace hl := lv_sub hl [0, 1, 2, 3] rfl
  refine lv_iconst (v := (0 : Int32)) hx hb dX3_fill_0 (by decide) ?_
  refine lv_istore (lv' := [(4, .int (0 : Int32)), (0, .ref (ad (1))), (1, .int (p1)), (2, .int (p2)), (3, .int (p3))]) hx hb dX3_fill_1 hl (by decide) rfl (fun ls hl => ?_)
  exact L3 nf (p1) (p2) (p3) (0 : Int32) _ _ _ _ _ hF (lv_sub hl [1, 2, 3, 4, 0] rfl) hP hS
theorem cw_X3_fill : (Cond.instanceMethod yX3_fill ∈ TB ∧ Cond.selects RX3 yX3_fill yX3_fill ∈ TB ∧ Cond.code yX3_fill cX3_fill 5 none ∈ TB ∧ Cond.initialized RX3 ∈ TB) ∧ (yX3_fill.cls = RX3 ∧ yX3_fill.cls ≠ "java/lang/invoke/MethodHandle" ∧ yX3_fill.cls ≠ "java/lang/invoke/VarHandle" ∧ (parseMethodDescriptor yX3_fill.desc).map (fun d => d.parameters.length) = some 3) := ⟨⟨mw14_16, mw14_17, mw14_18, mw2_2⟩, by decide +kernel⟩
/-! X3_wipe -/
noncomputable def FX3_wipe (nf : Nat) (ln : LN) (fi : FI) (ar : AR)  : Option (Unit × FI × AR) :=
  gd (ln (0) < 2 ^ 31) (bnd (va_up ar (0) (fillN (ar (0)) (0 : Int32) (ln (0)))) fun ar2 => some ((), fi, ar2))
set_option maxHeartbeats 4000000 in
set_option maxRecDepth 100000 in
theorem kX3_wipe (l : Launch) (g : GT) (ad rd : Nat → Nat) (sz : Nat) (nf : Nat) (ln : LN) (fi : FI) (ar : AR)  (r : Unit) (fi' : FI) (ar' : AR) (hF : FX3_wipe nf ln fi ar  = some (r, fi', ar')) : Met l yX3_wipe (wx yX3_wipe cX3_wipe 1 none) ({ frames := 1, cells := 0, slots := 0, locals := 23 } : Room) (va_Pc [.ref (ad (1))] (PC g ad rd ln sz fi ar)) (QCv g ad rd ln sz r fi' ar') 0 0 (AC ad rd sz) := by
  refine Met.ofW (cc := cX3_wipe) (maxL := 1) (ret := none) (by decide) rfl ?_
  intro p e s m args below meth c s₁ B hml hv
  obtain ⟨rfl, hsz, hP, hK, hD0, hE⟩ := hv
  have hx := B.exec
  have hb := B.bytes
  have hr := B.returns
  have hts := atoms_spec (ws := (wx yX3_wipe cX3_wipe 1 none)) B.pre
  have hT : ∀ w ∈ TB, w.before _ s = true := fun w h => hts w (List.mem_cons_of_mem _ h)
  have hown : s.vm.findClass RX3 = some m.cls := findClass_of_methodNamed B.named
  have hlocks := B.notSynchronized
  subst hsz
  have hD := dC hD0 s.heap.size
  have hA : ∀ q : Nat, s.heap.size ≤ q → AC ad rd s.heap.size q := fun q h => Or.inr h
  have hS : va_S (AC ad rd s.heap.size) s.heap s.heap [] := va_S.rf
  have hl := lv_entry ([.ref (ad (1))]) (n := 1) (Nat.le_of_ble_eq_true rfl)
  rw [lg_entry_eq]
  generalize (lg_sl ([.ref (ad (1))]) ++ List.replicate (1 - (lg_sl ([.ref (ad (1))])).length) Slot.unset).toArray = ls at hl ⊢
  have hl : lv_has ls 1 [(0, .ref (ad (1)))] := hl
  unfold FX3_wipe at hF
  replace hl := lv_sub hl [0] rfl
  refine lv_aload_n hx hb dX3_wipe_0 rfl (lv_at hl 0 rfl) ?_
  refine cg_X3_words hx hb hT hown hK hP mw3_14 dX3_wipe_1 ?_
  refine lv_iconst (v := (0 : Int32)) hx hb dX3_wipe_4 (by decide) ?_
  replace hF := gd_of hF
  obtain ⟨hn1, hF⟩ := hF
  obtain ⟨ar2, ear2⟩ : ∃ y : AR, y = va_up ar (0) (fillN (ar (0)) (0 : Int32) (ln (0))) := ⟨_, rfl⟩
  replace hF := bnd_of hF ear2
  refine cFill (rest := []) hx hb hml hT hown hK hA hP (hD _ _) hS (wa_words) hn1 (wt_words _) mw14_4 ⟨Nat.le_of_ble_eq_true rfl, Nat.le_of_ble_eq_true rfl⟩ hl.1 (Nat.le_of_ble_eq_true rfl) dX3_wipe_5 ⟨Nat.zero_le _, Nat.zero_le _⟩ (fun H locs hP hS => ?_)
  rw [← ear2] at hP
  exact rC_v hx hb hr hlocks hF hP hS dX3_wipe_8
theorem cw_X3_wipe : (Cond.instanceMethod yX3_wipe ∈ TB ∧ Cond.selects RX3 yX3_wipe yX3_wipe ∈ TB ∧ Cond.code yX3_wipe cX3_wipe 1 none ∈ TB ∧ Cond.initialized RX3 ∈ TB) ∧ (yX3_wipe.cls = RX3 ∧ yX3_wipe.cls ≠ "java/lang/invoke/MethodHandle" ∧ yX3_wipe.cls ≠ "java/lang/invoke/VarHandle" ∧ (parseMethodDescriptor yX3_wipe.desc).map (fun d => d.parameters.length) = some 0) := ⟨⟨mw14_1, mw14_2, mw14_3, mw2_2⟩, by decide +kernel⟩
/-! X3_copySector -/
noncomputable def FX3_copySector_2b (K2 : Int32 → Int32 → Int32 → FI → AR → Option (Unit × FI × AR)) (nf : Nat) (ln : LN) (x1 : Int32) (x2 : Int32) (x3 : Int32) (fi : FI) (ar : AR) : Option (Unit × FI × AR) :=
  br ((512 : Int32) ≤ (x3)) (some ((), fi, ar)) (obnd3 (FX3_one nf ln fi ar (((x1) * (512 : Int32)) + (x3))) fun r5 fi3 ar4 => obnd3 (FX3_putOne nf ln fi3 ar4 (((x2) * (512 : Int32)) + (x3)) (r5)) fun r9 fi7 ar8 => bnd ((x3) + (1 : Int32)) fun x3_10 => K2 (x1) (x2) (x3_10) fi7 ar8)
noncomputable def FX3_copySector_2 (nf : Nat) (ln : LN) (kf : Nat) : Int32 → Int32 → Int32 → FI → AR → Option (Unit × FI × AR) := Nat.rec (fun _ _ _ _ _ => none) (fun _ K2 => FX3_copySector_2b K2 nf ln) kf
noncomputable def FX3_copySector (nf : Nat) (ln : LN) (fi : FI) (ar : AR) (x1 : Int32) (x2 : Int32) : Option (Unit × FI × AR) :=
  FX3_copySector_2 nf ln nf (x1) (x2) (0 : Int32) fi ar
set_option maxHeartbeats 4000000 in
set_option maxRecDepth 100000 in
theorem kX3_copySector (l : Launch) (g : GT) (ad rd : Nat → Nat) (sz : Nat) (nf : Nat) (ln : LN) (fi : FI) (ar : AR) (p1 : Int32) (p2 : Int32) (r : Unit) (fi' : FI) (ar' : AR) (hF : FX3_copySector nf ln fi ar p1 p2 = some (r, fi', ar')) : Met l yX3_copySector (wx yX3_copySector cX3_copySector 4 none) ({ frames := 1, cells := 0, slots := 0, locals := 24 } : Room) (va_Pc [.ref (ad (1)), .int p1, .int p2] (PC g ad rd ln sz fi ar)) (QCv g ad rd ln sz r fi' ar') 0 0 (AC ad rd sz) := by
  refine Met.ofW (cc := cX3_copySector) (maxL := 4) (ret := none) (by decide) rfl ?_
  intro p e s m args below meth c s₁ B hml hv
  obtain ⟨rfl, hsz, hP, hK, hD0, hE⟩ := hv
  have hx := B.exec
  have hb := B.bytes
  have hr := B.returns
  have hts := atoms_spec (ws := (wx yX3_copySector cX3_copySector 4 none)) B.pre
  have hT : ∀ w ∈ TB, w.before _ s = true := fun w h => hts w (List.mem_cons_of_mem _ h)
  have hown : s.vm.findClass RX3 = some m.cls := findClass_of_methodNamed B.named
  have hlocks := B.notSynchronized
  subst hsz
  have hD := dC hD0 s.heap.size
  have hA : ∀ q : Nat, s.heap.size ≤ q → AC ad rd s.heap.size q := fun q h => Or.inr h
  have hS : va_S (AC ad rd s.heap.size) s.heap s.heap [] := va_S.rf
  have hl := lv_entry ([.ref (ad (1)), .int p1, .int p2]) (n := 4) (Nat.le_of_ble_eq_true rfl)
  rw [lg_entry_eq]
  generalize (lg_sl ([.ref (ad (1)), .int p1, .int p2]) ++ List.replicate (4 - (lg_sl ([.ref (ad (1)), .int p1, .int p2])).length) Slot.unset).toArray = ls at hl ⊢
  have hl : lv_has ls 4 [(0, .ref (ad (1))), (1, .int p1), (2, .int p2)] := hl
  unfold FX3_copySector at hF
  have L2 : ∀ kf : Nat, ∀ (x1 : Int32) (x2 : Int32) (x3 : Int32) (fi : FI) (ar : AR) (H : Heap) (locs : List Loc) (ls : Array Slot), FX3_copySector_2 nf ln kf x1 x2 x3 fi ar = some (r, fi', ar') → lv_has ls 4 [(0, .ref (ad (1))), (1, .int x1), (2, .int x2), (3, .int x3)] → va_P (gD g) vwCl (WC g ad rd ln fi ar) H → va_S (AC ad rd s.heap.size) s.heap H locs → W p l e (headSpec (wx yX3_copySector cX3_copySector 4 none) ({ frames := 1, cells := 0, slots := 0, locals := 24 } : Room)).room s m ([.ref (ad (1)), .int p1, .int p2] : List Value).toArray below meth c H locs 0 0 (MQ below (QCv g ad rd ln s.heap.size r fi' ar') ([.ref (ad (1)), .int p1, .int p2] : List Value).toArray s 0 0 (AC ad rd s.heap.size)) (F0 m 2 ls []) := by
    intro kf
    induction kf with
    | zero => intro x1 x2 x3 fi ar H locs ls hF hl hP hS; cases (show (none : Option (Unit × FI × AR)) = _ from hF)
    | succ kf ih2 =>
      intro x1 x2 x3 fi ar H locs ls hF hl hP hS
      obtain ⟨K2, hK2⟩ : ∃ K : Int32 → Int32 → Int32 → FI → AR → Option (Unit × FI × AR), K = FX3_copySector_2 nf ln kf := ⟨_, rfl⟩
      replace hF : FX3_copySector_2b K2 nf ln x1 x2 x3 fi ar = some (r, fi', ar') := by rw [hK2]; exact hF
      rw [← hK2] at ih2
      clear hK2
      unfold FX3_copySector_2b at hF
      refine lv_iload_n hx hb dX3_copySector_2 rfl (lv_at hl 3 rfl) ?_
      refine lv_sipush (v := (512 : Int32)) hx hb dX3_copySector_3 (by decide) ?_
      refine lv_icmp_ge (tgt := 37) hx hb dX3_copySector_6 (by decide) (fun hc1 => ?_) (fun hc1 => ?_)
      · replace hF := br_yes hF hc1
        exact rC_v hx hb hr hlocks hF hP hS dX3_copySector_37
      · replace hF := br_no hF hc1
        refine lv_aload_n hx hb dX3_copySector_9 rfl (lv_at hl 0 rfl) ?_
        refine lv_iload_n hx hb dX3_copySector_10 rfl (lv_at hl 2 rfl) ?_
        refine lv_sipush (v := (512 : Int32)) hx hb dX3_copySector_11 (by decide) ?_
        refine lv_imul hx hb dX3_copySector_14 ?_
        refine lv_iload_n hx hb dX3_copySector_15 rfl (lv_at hl 3 rfl) ?_
        refine lv_iadd hx hb dX3_copySector_16 ?_
        refine lv_aload_n hx hb dX3_copySector_17 rfl (lv_at hl 0 rfl) ?_
        refine lv_iload_n hx hb dX3_copySector_18 rfl (lv_at hl 1 rfl) ?_
        refine lv_sipush (v := (512 : Int32)) hx hb dX3_copySector_19 (by decide) ?_
        refine lv_imul hx hb dX3_copySector_22 ?_
        refine lv_iload_n hx hb dX3_copySector_23 rfl (lv_at hl 3 rfl) ?_
        refine lv_iadd hx hb dX3_copySector_24 ?_
        replace hF := obnd3_of hF
        obtain ⟨r5, fi3, ar4, h2, hF⟩ := hF
        refine cC_i (As := [.int (((x1) * (512 : Int32)) + (x3))]) (rest := [.int (((x2) * (512 : Int32)) + (x3)), .ref (ad (1))]) hx hb hml hT hown hK hE hD hA hP hS (rcv_X3 hK hP) (kX3_one l g ad rd _ nf ln fi ar (((x1) * (512 : Int32)) + (x3)) r5 fi3 ar4 h2) cw_X3_one mw15_13 ⟨⟨rfl, rfl⟩, Nat.le_of_ble_eq_true rfl, Nat.le_of_ble_eq_true rfl⟩ rfl hl.1 rfl (Nat.le_of_ble_eq_true rfl) dX3_copySector_25 ⟨Nat.zero_le _, Nat.zero_le _⟩ (fun H locs hP hS => ?_)
        replace hF := obnd3_of hF
        obtain ⟨r9, fi7, ar8, h6, hF⟩ := hF
        refine cC_v (As := [.int (((x2) * (512 : Int32)) + (x3)), .int (r5)]) (rest := []) hx hb hml hT hown hK hE hD hA hP hS (rcv_X3 hK hP) (kX3_putOne l g ad rd _ nf ln fi3 ar4 (((x2) * (512 : Int32)) + (x3)) (r5) r9 fi7 ar8 h6) cw_X3_putOne mw14_19 ⟨⟨rfl, rfl⟩, Nat.le_of_ble_eq_true rfl, Nat.le_of_ble_eq_true rfl⟩ rfl hl.1 rfl (Nat.le_of_ble_eq_true rfl) dX3_copySector_28 ⟨Nat.zero_le _, Nat.zero_le _⟩ (fun H locs hP hS => ?_)
        obtain ⟨x3_10, ex3_10⟩ : ∃ y : Int32, y = (x3) + (1 : Int32) := ⟨_, rfl⟩
        replace hF := bnd_of hF ex3_10
        refine lv_iinc (v := x3_10) (lv' := [(3, .int (x3_10)), (0, .ref (ad (1))), (1, .int (x1)), (2, .int (x2))]) hx hb dX3_copySector_31 hl (k := 3) rfl (by rw [ex3_10]; rfl) (by decide) rfl (fun ls hl => ?_)
        refine lv_goto (tgt := 2) hx hb dX3_copySector_34 (by decide) ?_
        exact ih2 (x1) (x2) (x3_10) _ _ _ _ _ hF (lv_sub hl [1, 2, 3, 0] rfl) hP hS
  replace hl := lv_sub hl [0, 1, 2] rfl
  refine lv_iconst (v := (0 : Int32)) hx hb dX3_copySector_0 (by decide) ?_
  refine lv_istore_n (lv' := [(3, .int (0 : Int32)), (0, .ref (ad (1))), (1, .int (p1)), (2, .int (p2))]) hx hb dX3_copySector_1 rfl hl (by decide) rfl (fun ls hl => ?_)
  exact L2 nf (p1) (p2) (0 : Int32) _ _ _ _ _ hF (lv_sub hl [1, 2, 3, 0] rfl) hP hS
theorem cw_X3_copySector : (Cond.instanceMethod yX3_copySector ∈ TB ∧ Cond.selects RX3 yX3_copySector yX3_copySector ∈ TB ∧ Cond.code yX3_copySector cX3_copySector 4 none ∈ TB ∧ Cond.initialized RX3 ∈ TB) ∧ (yX3_copySector.cls = RX3 ∧ yX3_copySector.cls ≠ "java/lang/invoke/MethodHandle" ∧ yX3_copySector.cls ≠ "java/lang/invoke/VarHandle" ∧ (parseMethodDescriptor yX3_copySector.desc).map (fun d => d.parameters.length) = some 2) := ⟨⟨mw15_10, mw15_11, mw15_12, mw2_2⟩, by decide +kernel⟩
/-! X5_shortened -/
noncomputable def FX5_shortened_32 (nf : Nat) (t0 : Int32) : Option Int32 :=
  some (t0)
noncomputable def FX5_shortened_12 (nf : Nat)  : Option Int32 :=
  some (0 : Int32)
noncomputable def FX5_shortened (nf : Nat) (x0 : Int32) : Option Int32 :=
  br ((x0) = (32 : Int32)) (FX5_shortened_12 nf) (br ((x0) = (46 : Int32)) (FX5_shortened_12 nf) (obnd (FX5_capital nf (x0)) fun r4 => obnd (FX5_mayStandInShortName nf (r4)) fun r6 => br ((r6) = 0) (FX5_shortened_32 nf  (95 : Int32)) (FX5_shortened_32 nf  (r4))))
set_option maxHeartbeats 4000000 in
set_option maxRecDepth 100000 in
theorem kX5_shortened (l : Launch) (g : GT) (nf : Nat) (p0 : Int32) (r : Int32) (hF : FX5_shortened nf p0 = some r) : Met l yX5_shortened (wx yX5_shortened cX5_shortened 2 (some .int)) ({ frames := 5, cells := 0, slots := 0, locals := 111 } : Room) (va_Pc [.int p0] (PS g)) (QSi r) 0 0 noA := by
  refine Met.ofW (cc := cX5_shortened) (maxL := 2) (ret := (some .int)) (by decide) rfl ?_
  intro p e s m args below meth c s₁ B hml hv
  obtain ⟨rfl, hE⟩ := hv
  have hx := B.exec
  have hb := B.bytes
  have hr := B.returns
  have hts := atoms_spec (ws := (wx yX5_shortened cX5_shortened 2 (some .int))) B.pre
  have hT : ∀ w ∈ TB, w.before _ s = true := fun w h => hts w (List.mem_cons_of_mem _ h)
  have hown : s.vm.findClass RX5 = some m.cls := findClass_of_methodNamed B.named
  have hlocks := B.notSynchronized
  have hS : va_S noA s.heap s.heap [] := va_S.rf
  have hP : va_P (gD g) vwCl [] s.heap := fun k q h => by cases h
  have hl := lv_entry ([.int p0]) (n := 2) (Nat.le_of_ble_eq_true rfl)
  rw [lg_entry_eq]
  generalize (lg_sl ([.int p0]) ++ List.replicate (2 - (lg_sl ([.int p0])).length) Slot.unset).toArray = ls at hl ⊢
  have hl : lv_has ls 2 [(0, .int p0)] := hl
  unfold FX5_shortened at hF
  have J32 : ∀ (t0 : Int32) (H : Heap) (locs : List Loc) (ls : Array Slot), FX5_shortened_32 nf t0 = some r → lv_has ls 2 [] → va_P (gD g) vwCl [] H → va_S noA s.heap H locs → W p l e (headSpec (wx yX5_shortened cX5_shortened 2 (some .int)) ({ frames := 5, cells := 0, slots := 0, locals := 111 } : Room)).room s m ([.int p0] : List Value).toArray below meth c H locs 0 0 (MQ below (QSi r) ([.int p0] : List Value).toArray s 0 0 noA) (F0 m 32 ls [.int t0]) := by
    intro t0 H locs ls hF hl hP hS
    unfold FX5_shortened_32 at hF
    exact rS_i hx hb hr hlocks hF hS dX5_shortened_32
  have J12 : ∀  (H : Heap) (locs : List Loc) (ls : Array Slot), FX5_shortened_12 nf  = some r → lv_has ls 2 [] → va_P (gD g) vwCl [] H → va_S noA s.heap H locs → W p l e (headSpec (wx yX5_shortened cX5_shortened 2 (some .int)) ({ frames := 5, cells := 0, slots := 0, locals := 111 } : Room)).room s m ([.int p0] : List Value).toArray below meth c H locs 0 0 (MQ below (QSi r) ([.int p0] : List Value).toArray s 0 0 noA) (F0 m 12 ls []) := by
    intro H locs ls hF hl hP hS
    unfold FX5_shortened_12 at hF
    refine lv_iconst (v := (0 : Int32)) hx hb dX5_shortened_12 (by decide) ?_
    exact rS_i hx hb hr hlocks hF hS dX5_shortened_13
  replace hl := lv_sub hl [0] rfl
  refine lv_iload_n hx hb dX5_shortened_0 rfl (lv_at hl 0 rfl) ?_
  refine lv_bipush (v := (32 : Int32)) hx hb dX5_shortened_1 (by decide) ?_
  refine lv_icmp_eq (tgt := 12) hx hb dX5_shortened_3 (by decide) (fun hc1 => ?_) (fun hc1 => ?_)
  · replace hF := br_yes hF hc1
    exact J12   _ _ _ hF (lv_sub hl [] rfl) hP hS
  · replace hF := br_no hF hc1
    refine lv_iload_n hx hb dX5_shortened_6 rfl (lv_at hl 0 rfl) ?_
    refine lv_bipush (v := (46 : Int32)) hx hb dX5_shortened_7 (by decide) ?_
    refine lv_icmp_ne (tgt := 14) hx hb dX5_shortened_9 (by decide) (fun hc2 => ?_) (fun hc2 => ?_)
    · replace hF := br_no hF hc2
      refine lv_iload_n hx hb dX5_shortened_14 rfl (lv_at hl 0 rfl) ?_
      replace hF := obnd_of hF
      obtain ⟨r4, h3, hF⟩ := hF
      refine cS_i (As := [.int (p0)]) (rest := []) hx hb hml hT hown hE hP hS (kX5_capital l g nf (p0) r4 h3) cw_X5_capital mw46_14 ⟨⟨rfl, rfl⟩, Nat.le_of_ble_eq_true rfl, Nat.le_of_ble_eq_true rfl⟩ rfl hl.1 rfl (Nat.le_of_ble_eq_true rfl) dX5_shortened_15 ⟨Nat.zero_le _, Nat.zero_le _⟩ (fun H locs hP hS => ?_)
      refine lv_istore_n (lv' := [(1, .int (r4)), (0, .int (p0))]) hx hb dX5_shortened_18 rfl hl (by decide) rfl (fun ls hl => ?_)
      refine lv_iload_n hx hb dX5_shortened_19 rfl (lv_at hl 0 rfl) ?_
      replace hF := obnd_of hF
      obtain ⟨r6, h5, hF⟩ := hF
      refine cS_i (As := [.int (r4)]) (rest := []) hx hb hml hT hown hE hP hS (kX5_mayStandInShortName l g nf (r4) r6 h5) cw_X5_mayStandInShortName mw46_15 ⟨⟨rfl, rfl⟩, Nat.le_of_ble_eq_true rfl, Nat.le_of_ble_eq_true rfl⟩ rfl hl.1 rfl (Nat.le_of_ble_eq_true rfl) dX5_shortened_20 ⟨Nat.zero_le _, Nat.zero_le _⟩ (fun H locs hP hS => ?_)
      refine lv_if_eq (tgt := 30) hx hb dX5_shortened_23 (by decide) (fun hc7 => ?_) (fun hc7 => ?_)
      · replace hF := br_yes hF hc7
        refine lv_bipush (v := (95 : Int32)) hx hb dX5_shortened_30 (by decide) ?_
        exact J32 (95 : Int32)  _ _ _ hF (lv_sub hl [] rfl) hP hS
      · replace hF := br_no hF hc7
        refine lv_iload_n hx hb dX5_shortened_26 rfl (lv_at hl 0 rfl) ?_
        refine lv_goto (tgt := 32) hx hb dX5_shortened_27 (by decide) ?_
        exact J32 (r4)  _ _ _ hF (lv_sub hl [] rfl) hP hS
    · replace hF := br_yes hF hc2
      exact J12   _ _ _ hF (lv_sub hl [] rfl) hP hS
theorem cw_X5_shortened : (Cond.static yX5_shortened ∈ TB ∧ Cond.code yX5_shortened cX5_shortened 2 (some .int) ∈ TB ∧ Cond.initialized yX5_shortened.cls ∈ TB) ∧ (yX5_shortened.cls ≠ "java/lang/invoke/MethodHandle" ∧ yX5_shortened.cls ≠ "java/lang/invoke/VarHandle" ∧ (parseMethodDescriptor yX5_shortened.desc).map (fun d => d.parameters.length) = some 1) := ⟨⟨mw46_12, mw46_13, mw10_10⟩, by decide +kernel⟩
/-! X5_encoded -/
noncomputable def FX5_encoded_53 (nf : Nat) (t0 : Int32) : Option Int32 :=
  some (t0)
noncomputable def FX5_encoded (nf : Nat) (x0 : Int32) (x1 : Int32) (x2 : Int32) : Option Int32 :=
  br ((x1) = (1 : Int32)) (some (x0)) (br ((x2) ≤ 0) (br ((x1) = (2 : Int32)) (FX5_encoded_53 nf  ((192 : Int32) ||| ((x0) >>> ((6 : Int32) &&& 31)))) (FX5_encoded_53 nf  ((224 : Int32) ||| ((x0) >>> ((12 : Int32) &&& 31))))) (some ((128 : Int32) ||| (((x0) >>> (((6 : Int32) * (((x1) - (1 : Int32)) - (x2))) &&& 31)) &&& (63 : Int32)))))
set_option maxHeartbeats 4000000 in
set_option maxRecDepth 100000 in
theorem kX5_encoded (l : Launch) (g : GT) (nf : Nat) (p0 : Int32) (p1 : Int32) (p2 : Int32) (r : Int32) (hF : FX5_encoded nf p0 p1 p2 = some r) : Met l yX5_encoded (wx yX5_encoded cX5_encoded 3 (some .int)) ({ frames := 0, cells := 0, slots := 0, locals := 0 } : Room) (va_Pc [.int p0, .int p1, .int p2] (PS g)) (QSi r) 0 0 noA := by
  refine Met.ofW (cc := cX5_encoded) (maxL := 3) (ret := (some .int)) (by decide) rfl ?_
  intro p e s m args below meth c s₁ B hml hv
  obtain ⟨rfl, hE⟩ := hv
  have hx := B.exec
  have hb := B.bytes
  have hr := B.returns
  have hts := atoms_spec (ws := (wx yX5_encoded cX5_encoded 3 (some .int))) B.pre
  have hT : ∀ w ∈ TB, w.before _ s = true := fun w h => hts w (List.mem_cons_of_mem _ h)
  have hown : s.vm.findClass RX5 = some m.cls := findClass_of_methodNamed B.named
  have hlocks := B.notSynchronized
  have hS : va_S noA s.heap s.heap [] := va_S.rf
  have hP : va_P (gD g) vwCl [] s.heap := fun k q h => by cases h
  have hl := lv_entry ([.int p0, .int p1, .int p2]) (n := 3) (Nat.le_of_ble_eq_true rfl)
  rw [lg_entry_eq]
  generalize (lg_sl ([.int p0, .int p1, .int p2]) ++ List.replicate (3 - (lg_sl ([.int p0, .int p1, .int p2])).length) Slot.unset).toArray = ls at hl ⊢
  have hl : lv_has ls 3 [(0, .int p0), (1, .int p1), (2, .int p2)] := hl
  unfold FX5_encoded at hF
  have J53 : ∀ (t0 : Int32) (H : Heap) (locs : List Loc) (ls : Array Slot), FX5_encoded_53 nf t0 = some r → lv_has ls 3 [] → va_P (gD g) vwCl [] H → va_S noA s.heap H locs → W p l e (headSpec (wx yX5_encoded cX5_encoded 3 (some .int)) ({ frames := 0, cells := 0, slots := 0, locals := 0 } : Room)).room s m ([.int p0, .int p1, .int p2] : List Value).toArray below meth c H locs 0 0 (MQ below (QSi r) ([.int p0, .int p1, .int p2] : List Value).toArray s 0 0 noA) (F0 m 53 ls [.int t0]) := by
    intro t0 H locs ls hF hl hP hS
    unfold FX5_encoded_53 at hF
    exact rS_i hx hb hr hlocks hF hS dX5_encoded_53
  replace hl := lv_sub hl [0, 1, 2] rfl
  refine lv_iload_n hx hb dX5_encoded_0 rfl (lv_at hl 1 rfl) ?_
  refine lv_iconst (v := (1 : Int32)) hx hb dX5_encoded_1 (by decide) ?_
  refine lv_icmp_ne (tgt := 7) hx hb dX5_encoded_2 (by decide) (fun hc1 => ?_) (fun hc1 => ?_)
  · replace hF := br_no hF hc1
    refine lv_iload_n hx hb dX5_encoded_7 rfl (lv_at hl 2 rfl) ?_
    refine lv_if_le (tgt := 29) hx hb dX5_encoded_8 (by decide) (fun hc2 => ?_) (fun hc2 => ?_)
    · replace hF := br_yes hF hc2
      refine lv_iload_n hx hb dX5_encoded_29 rfl (lv_at hl 1 rfl) ?_
      refine lv_iconst (v := (2 : Int32)) hx hb dX5_encoded_30 (by decide) ?_
      refine lv_icmp_ne (tgt := 45) hx hb dX5_encoded_31 (by decide) (fun hc3 => ?_) (fun hc3 => ?_)
      · replace hF := br_no hF hc3
        refine lv_sipush (v := (224 : Int32)) hx hb dX5_encoded_45 (by decide) ?_
        refine lv_iload_n hx hb dX5_encoded_48 rfl (lv_at hl 0 rfl) ?_
        refine lv_bipush (v := (12 : Int32)) hx hb dX5_encoded_49 (by decide) ?_
        refine lv_ishr hx hb dX5_encoded_51 ?_
        refine lv_ior hx hb dX5_encoded_52 ?_
        exact J53 ((224 : Int32) ||| ((p0) >>> ((12 : Int32) &&& 31)))  _ _ _ hF (lv_sub hl [] rfl) hP hS
      · replace hF := br_yes hF hc3
        refine lv_sipush (v := (192 : Int32)) hx hb dX5_encoded_34 (by decide) ?_
        refine lv_iload_n hx hb dX5_encoded_37 rfl (lv_at hl 0 rfl) ?_
        refine lv_bipush (v := (6 : Int32)) hx hb dX5_encoded_38 (by decide) ?_
        refine lv_ishr hx hb dX5_encoded_40 ?_
        refine lv_ior hx hb dX5_encoded_41 ?_
        refine lv_goto (tgt := 53) hx hb dX5_encoded_42 (by decide) ?_
        exact J53 ((192 : Int32) ||| ((p0) >>> ((6 : Int32) &&& 31)))  _ _ _ hF (lv_sub hl [] rfl) hP hS
    · replace hF := br_no hF hc2
      refine lv_sipush (v := (128 : Int32)) hx hb dX5_encoded_11 (by decide) ?_
      refine lv_iload_n hx hb dX5_encoded_14 rfl (lv_at hl 0 rfl) ?_
      refine lv_bipush (v := (6 : Int32)) hx hb dX5_encoded_15 (by decide) ?_
      refine lv_iload_n hx hb dX5_encoded_17 rfl (lv_at hl 1 rfl) ?_
      refine lv_iconst (v := (1 : Int32)) hx hb dX5_encoded_18 (by decide) ?_
      refine lv_isub hx hb dX5_encoded_19 ?_
      refine lv_iload_n hx hb dX5_encoded_20 rfl (lv_at hl 2 rfl) ?_
      refine lv_isub hx hb dX5_encoded_21 ?_
      refine lv_imul hx hb dX5_encoded_22 ?_
      refine lv_ishr hx hb dX5_encoded_23 ?_
      refine lv_bipush (v := (63 : Int32)) hx hb dX5_encoded_24 (by decide) ?_
      refine lv_iand hx hb dX5_encoded_26 ?_
      refine lv_ior hx hb dX5_encoded_27 ?_
      exact rS_i hx hb hr hlocks hF hS dX5_encoded_28
  · replace hF := br_yes hF hc1
    refine lv_iload_n hx hb dX5_encoded_5 rfl (lv_at hl 0 rfl) ?_
    exact rS_i hx hb hr hlocks hF hS dX5_encoded_6
theorem cw_X5_encoded : (Cond.static yX5_encoded ∈ TB ∧ Cond.code yX5_encoded cX5_encoded 3 (some .int) ∈ TB ∧ Cond.initialized yX5_encoded.cls ∈ TB) ∧ (yX5_encoded.cls ≠ "java/lang/invoke/MethodHandle" ∧ yX5_encoded.cls ≠ "java/lang/invoke/VarHandle" ∧ (parseMethodDescriptor yX5_encoded.desc).map (fun d => d.parameters.length) = some 3) := ⟨⟨mw39_21, mw39_22, mw10_10⟩, by decide +kernel⟩
/-! X8_at -/
noncomputable def FX8_at_25 (nf : Nat) (ln : LN) (t0 : Int32) (fi : FI) (ar : AR) : Option (Int32 × FI × AR) :=
  some ((t0), fi, ar)
noncomputable def FX8_at_11 (nf : Nat) (ln : LN)  (fi : FI) (ar : AR) : Option (Int32 × FI × AR) :=
  FX8_at_25 nf ln  (0 : Int32) fi ar
noncomputable def FX8_at (nf : Nat) (ln : LN) (fi : FI) (ar : AR) (x1 : Int32) : Option (Int32 × FI × AR) :=
  br ((x1) < 0) (FX8_at_11 nf ln  fi ar) (br ((x1) < (4096 : Int32)) (gd (¬ ((x1) < 0 ∨ ln (1) ≤ (x1).toNatClampNeg)) (FX8_at_25 nf ln  ((ar (1) (x1).toNatClampNeg) &&& (255 : Int32)) fi ar)) (FX8_at_11 nf ln  fi ar))
set_option maxHeartbeats 4000000 in
set_option maxRecDepth 100000 in
theorem kX8_at (l : Launch) (g : GT) (ad rd : Nat → Nat) (sz : Nat) (nf : Nat) (ln : LN) (fi : FI) (ar : AR) (p1 : Int32) (r : Int32) (fi' : FI) (ar' : AR) (hF : FX8_at nf ln fi ar p1 = some (r, fi', ar')) : Met l yX8_at (wx yX8_at cX8_at 2 (some .int)) ({ frames := 0, cells := 0, slots := 0, locals := 0 } : Room) (va_Pc [.ref (ad (3)), .int p1] (PC g ad rd ln sz fi ar)) (QCi g ad rd ln sz r fi' ar') 0 0 (AC ad rd sz) := by
  refine Met.ofW (cc := cX8_at) (maxL := 2) (ret := (some .int)) (by decide) rfl ?_
  intro p e s m args below meth c s₁ B hml hv
  obtain ⟨rfl, hsz, hP, hK, hD0, hE⟩ := hv
  have hx := B.exec
  have hb := B.bytes
  have hr := B.returns
  have hts := atoms_spec (ws := (wx yX8_at cX8_at 2 (some .int))) B.pre
  have hT : ∀ w ∈ TB, w.before _ s = true := fun w h => hts w (List.mem_cons_of_mem _ h)
  have hown : s.vm.findClass RX8 = some m.cls := findClass_of_methodNamed B.named
  have hlocks := B.notSynchronized
  subst hsz
  have hD := dC hD0 s.heap.size
  have hA : ∀ q : Nat, s.heap.size ≤ q → AC ad rd s.heap.size q := fun q h => Or.inr h
  have hS : va_S (AC ad rd s.heap.size) s.heap s.heap [] := va_S.rf
  have hl := lv_entry ([.ref (ad (3)), .int p1]) (n := 2) (Nat.le_of_ble_eq_true rfl)
  rw [lg_entry_eq]
  generalize (lg_sl ([.ref (ad (3)), .int p1]) ++ List.replicate (2 - (lg_sl ([.ref (ad (3)), .int p1])).length) Slot.unset).toArray = ls at hl ⊢
  have hl : lv_has ls 2 [(0, .ref (ad (3))), (1, .int p1)] := hl
  unfold FX8_at at hF
  have J25 : ∀ (t0 : Int32) (fi : FI) (ar : AR) (H : Heap) (locs : List Loc) (ls : Array Slot), FX8_at_25 nf ln t0 fi ar = some (r, fi', ar') → lv_has ls 2 [(0, .ref (ad (3)))] → va_P (gD g) vwCl (WC g ad rd ln fi ar) H → va_S (AC ad rd s.heap.size) s.heap H locs → W p l e (headSpec (wx yX8_at cX8_at 2 (some .int)) ({ frames := 0, cells := 0, slots := 0, locals := 0 } : Room)).room s m ([.ref (ad (3)), .int p1] : List Value).toArray below meth c H locs 0 0 (MQ below (QCi g ad rd ln s.heap.size r fi' ar') ([.ref (ad (3)), .int p1] : List Value).toArray s 0 0 (AC ad rd s.heap.size)) (F0 m 25 ls [.int t0]) := by
    intro t0 fi ar H locs ls hF hl hP hS
    unfold FX8_at_25 at hF
    exact rC_i hx hb hr hlocks hF hP hS dX8_at_25
  have J11 : ∀  (fi : FI) (ar : AR) (H : Heap) (locs : List Loc) (ls : Array Slot), FX8_at_11 nf ln fi ar = some (r, fi', ar') → lv_has ls 2 [(0, .ref (ad (3)))] → va_P (gD g) vwCl (WC g ad rd ln fi ar) H → va_S (AC ad rd s.heap.size) s.heap H locs → W p l e (headSpec (wx yX8_at cX8_at 2 (some .int)) ({ frames := 0, cells := 0, slots := 0, locals := 0 } : Room)).room s m ([.ref (ad (3)), .int p1] : List Value).toArray below meth c H locs 0 0 (MQ below (QCi g ad rd ln s.heap.size r fi' ar') ([.ref (ad (3)), .int p1] : List Value).toArray s 0 0 (AC ad rd s.heap.size)) (F0 m 11 ls []) := by
    intro fi ar H locs ls hF hl hP hS
    unfold FX8_at_11 at hF
    refine lv_iconst (v := (0 : Int32)) hx hb dX8_at_11 (by decide) ?_
    refine lv_goto (tgt := 25) hx hb dX8_at_12 (by decide) ?_
    exact J25 (0 : Int32) _ _ _ _ _ hF (lv_sub hl [0] rfl) hP hS
  replace hl := lv_sub hl [0, 1] rfl
  refine lv_iload_n hx hb dX8_at_0 rfl (lv_at hl 1 rfl) ?_
  refine lv_if_lt (tgt := 11) hx hb dX8_at_1 (by decide) (fun hc1 => ?_) (fun hc1 => ?_)
  · replace hF := br_yes hF hc1
    exact J11  _ _ _ _ _ hF (lv_sub hl [0] rfl) hP hS
  · replace hF := br_no hF hc1
    refine lv_iload_n hx hb dX8_at_4 rfl (lv_at hl 1 rfl) ?_
    refine lv_sipush (v := (4096 : Int32)) hx hb dX8_at_5 (by decide) ?_
    refine lv_icmp_lt (tgt := 15) hx hb dX8_at_8 (by decide) (fun hc2 => ?_) (fun hc2 => ?_)
    · replace hF := br_yes hF hc2
      refine lv_aload_n hx hb dX8_at_15 rfl (lv_at hl 0 rfl) ?_
      refine cg_X8_bytes hx hb hT hown hK hP mw3_19 dX8_at_16 ?_
      refine lv_iload_n hx hb dX8_at_19 rfl (lv_at hl 1 rfl) ?_
      replace hF := gd_of hF
      obtain ⟨hi3, hF⟩ := hF
      refine cl_tbytes hx hb hK hP hi3 dX8_at_20 ?_
      refine lv_sipush (v := (255 : Int32)) hx hb dX8_at_21 (by decide) ?_
      refine lv_iand hx hb dX8_at_24 ?_
      exact J25 ((ar (1) (p1).toNatClampNeg) &&& (255 : Int32)) _ _ _ _ _ hF (lv_sub hl [0] rfl) hP hS
    · replace hF := br_no hF hc2
      exact J11  _ _ _ _ _ hF (lv_sub hl [0] rfl) hP hS
theorem cw_X8_at : (Cond.instanceMethod yX8_at ∈ TB ∧ Cond.selects RX8 yX8_at yX8_at ∈ TB ∧ Cond.code yX8_at cX8_at 2 (some .int) ∈ TB ∧ Cond.initialized RX8 ∈ TB) ∧ (yX8_at.cls = RX8 ∧ yX8_at.cls ≠ "java/lang/invoke/MethodHandle" ∧ yX8_at.cls ≠ "java/lang/invoke/VarHandle" ∧ (parseMethodDescriptor yX8_at.desc).map (fun d => d.parameters.length) = some 1) := ⟨⟨mw10_4, mw10_5, mw10_6, mw2_6⟩, by decide +kernel⟩
/-! X6_readTape -/
noncomputable def FX6_readTape_80 (nf : Nat) (ln : LN) (i0 : Nat)  (fi : FI) (ar : AR) : Option (Int32 × FI × AR) :=
  obnd3 (FX6_asTold nf ln i0 fi ar) fun r4 fi2 ar3 => gd ((r4) &&& 1 = (r4)) (some ((r4), fi2, ar3))
noncomputable def FX6_readTape_22b (K22 : Int32 → Int32 → FI → AR → Option (Int32 × FI × AR)) (nf : Nat) (ln : LN) (i0 : Nat) (x2 : Int32) (x3 : Int32) (fi : FI) (ar : AR) : Option (Int32 × FI × AR) :=
  br (((x2) / (2 : Int32)) ≤ (x3)) (FX6_readTape_80 nf ln i0  fi ar) (br ((Int32.ofNat (ln (30 + i0))) ≤ (x3)) (FX6_readTape_80 nf ln i0  fi ar) (obnd3 (FX8_at nf ln fi ar ((2 : Int32) * (x3))) fun r11 fi9 ar10 => obnd3 (FX8_at nf ln fi9 ar10 (((2 : Int32) * (x3)) + (1 : Int32))) fun r15 fi13 ar14 => gd (¬ ((x3) < 0 ∨ ln (30 + i0) ≤ (x3).toNatClampNeg)) (bnd (va_up ar14 (30 + i0) (upd (ar14 (30 + i0)) (x3).toNatClampNeg (((r11) <<< ((8 : Int32) &&& 31)) ||| (r15)))) fun ar17 => bnd (va_up fi13 (60 + i0) ((fi13 (60 + i0)) + (1 : Int32))) fun fi18 => bnd ((x3) + (1 : Int32)) fun x3_19 => K22 (x2) (x3_19) fi18 ar17)))
noncomputable def FX6_readTape_22 (nf : Nat) (ln : LN) (i0 : Nat) (kf : Nat) : Int32 → Int32 → FI → AR → Option (Int32 × FI × AR) := Nat.rec (fun _ _ _ _ => none) (fun _ K22 => FX6_readTape_22b K22 nf ln i0) kf
noncomputable def FX6_readTape_18 (nf : Nat) (ln : LN) (i0 : Nat)  (fi : FI) (ar : AR) : Option (Int32 × FI × AR) :=
  some ((0 : Int32), fi, ar)
noncomputable def FX6_readTape (nf : Nat) (ln : LN) (i0 : Nat) (fi : FI) (ar : AR) (x2 : Int32) : Option (Int32 × FI × AR) :=
  bnd (va_up fi (60 + i0) (0 : Int32)) fun fi20 => br (((x2) &&& (1 : Int32)) = 0) (br ((x2) ≤ (510 : Int32)) (FX6_readTape_22 nf ln i0 nf (x2) (0 : Int32) fi20 ar) (FX6_readTape_18 nf ln i0  fi20 ar)) (FX6_readTape_18 nf ln i0  fi20 ar)
set_option maxHeartbeats 4000000 in
set_option maxRecDepth 100000 in
theorem kX6_readTape (l : Launch) (g : GT) (ad rd : Nat → Nat) (sz : Nat) (nf : Nat) (ln : LN) (i0 : Nat) (hi0 : i0 < 4) (fi : FI) (ar : AR) (p2 : Int32) (r : Int32) (fi' : FI) (ar' : AR) (hF : FX6_readTape nf ln i0 fi ar p2 = some (r, fi', ar')) : Met l yX6_readTape (wx yX6_readTape cX6_readTape 4 (some .boolean)) ({ frames := 6, cells := 0, slots := 0, locals := 132 } : Room) (va_Pc [.ref (ad (26 + 2 * i0)), .ref (ad (3)), .int p2] (PC g ad rd ln sz fi ar)) (QCi g ad rd ln sz r fi' ar') 0 0 (AC ad rd sz) := by
  refine Met.ofW (cc := cX6_readTape) (maxL := 4) (ret := (some .boolean)) (by decide) rfl ?_
  intro p e s m args below meth c s₁ B hml hv
  obtain ⟨rfl, hsz, hP, hK, hD0, hE⟩ := hv
  have hx := B.exec
  have hb := B.bytes
  have hr := B.returns
  have hts := atoms_spec (ws := (wx yX6_readTape cX6_readTape 4 (some .boolean))) B.pre
  have hT : ∀ w ∈ TB, w.before _ s = true := fun w h => hts w (List.mem_cons_of_mem _ h)
  have hown : s.vm.findClass RX6 = some m.cls := findClass_of_methodNamed B.named
  have hlocks := B.notSynchronized
  subst hsz
  have hD := dC hD0 s.heap.size
  have hA : ∀ q : Nat, s.heap.size ≤ q → AC ad rd s.heap.size q := fun q h => Or.inr h
  have hS : va_S (AC ad rd s.heap.size) s.heap s.heap [] := va_S.rf
  have hl := lv_entry ([.ref (ad (26 + 2 * i0)), .ref (ad (3)), .int p2]) (n := 4) (Nat.le_of_ble_eq_true rfl)
  rw [lg_entry_eq]
  generalize (lg_sl ([.ref (ad (26 + 2 * i0)), .ref (ad (3)), .int p2]) ++ List.replicate (4 - (lg_sl ([.ref (ad (26 + 2 * i0)), .ref (ad (3)), .int p2])).length) Slot.unset).toArray = ls at hl ⊢
  have hl : lv_has ls 4 [(0, .ref (ad (26 + 2 * i0))), (1, .ref (ad (3))), (2, .int p2)] := hl
  unfold FX6_readTape at hF
  have J80 : ∀  (fi : FI) (ar : AR) (H : Heap) (locs : List Loc) (ls : Array Slot), FX6_readTape_80 nf ln i0 fi ar = some (r, fi', ar') → lv_has ls 4 [(0, .ref (ad (26 + 2 * i0))), (1, .ref (ad (3)))] → va_P (gD g) vwCl (WC g ad rd ln fi ar) H → va_S (AC ad rd s.heap.size) s.heap H locs → W p l e (headSpec (wx yX6_readTape cX6_readTape 4 (some .boolean)) ({ frames := 6, cells := 0, slots := 0, locals := 132 } : Room)).room s m ([.ref (ad (26 + 2 * i0)), .ref (ad (3)), .int p2] : List Value).toArray below meth c H locs 0 0 (MQ below (QCi g ad rd ln s.heap.size r fi' ar') ([.ref (ad (26 + 2 * i0)), .ref (ad (3)), .int p2] : List Value).toArray s 0 0 (AC ad rd s.heap.size)) (F0 m 80 ls []) := by
    intro fi ar H locs ls hF hl hP hS
    unfold FX6_readTape_80 at hF
    refine lv_aload_n hx hb dX6_readTape_80 rfl (lv_at hl 0 rfl) ?_
    replace hF := obnd3_of hF
    obtain ⟨r4, fi2, ar3, h1, hF⟩ := hF
    refine cC_i (As := []) (rest := []) hx hb hml hT hown hK hE hD hA hP hS (rcv_X6 hi0 hK hP) (kX6_asTold l g ad rd _ nf ln i0 hi0 fi ar r4 fi2 ar3 h1) cw_X6_asTold mw45_2 ⟨⟨rfl, rfl⟩, Nat.le_of_ble_eq_true rfl, Nat.le_of_ble_eq_true rfl⟩ rfl hl.1 rfl (Nat.le_of_ble_eq_true rfl) dX6_readTape_81 ⟨Nat.zero_le _, Nat.zero_le _⟩ (fun H locs hP hS => ?_)
    replace hF := gd_of hF
    obtain ⟨hz5, hF⟩ := hF
    exact rC_z hx hb hr hlocks (nar_z hz5) hF hP hS dX6_readTape_84
  have L22 : ∀ kf : Nat, ∀ (x2 : Int32) (x3 : Int32) (fi : FI) (ar : AR) (H : Heap) (locs : List Loc) (ls : Array Slot), FX6_readTape_22 nf ln i0 kf x2 x3 fi ar = some (r, fi', ar') → lv_has ls 4 [(0, .ref (ad (26 + 2 * i0))), (1, .ref (ad (3))), (2, .int x2), (3, .int x3)] → va_P (gD g) vwCl (WC g ad rd ln fi ar) H → va_S (AC ad rd s.heap.size) s.heap H locs → W p l e (headSpec (wx yX6_readTape cX6_readTape 4 (some .boolean)) ({ frames := 6, cells := 0, slots := 0, locals := 132 } : Room)).room s m ([.ref (ad (26 + 2 * i0)), .ref (ad (3)), .int p2] : List Value).toArray below meth c H locs 0 0 (MQ below (QCi g ad rd ln s.heap.size r fi' ar') ([.ref (ad (26 + 2 * i0)), .ref (ad (3)), .int p2] : List Value).toArray s 0 0 (AC ad rd s.heap.size)) (F0 m 22 ls []) := by
    intro kf
    induction kf with
    | zero => intro x2 x3 fi ar H locs ls hF hl hP hS; cases (show (none : Option (Int32 × FI × AR)) = _ from hF)
    | succ kf ih22 =>
      intro x2 x3 fi ar H locs ls hF hl hP hS
      obtain ⟨K22, hK22⟩ : ∃ K : Int32 → Int32 → FI → AR → Option (Int32 × FI × AR), K = FX6_readTape_22 nf ln i0 kf := ⟨_, rfl⟩
      replace hF : FX6_readTape_22b K22 nf ln i0 x2 x3 fi ar = some (r, fi', ar') := by rw [hK22]; exact hF
      rw [← hK22] at ih22
      clear hK22
      unfold FX6_readTape_22b at hF
      refine lv_iload_n hx hb dX6_readTape_22 rfl (lv_at hl 3 rfl) ?_
      refine lv_iload_n hx hb dX6_readTape_23 rfl (lv_at hl 2 rfl) ?_
      refine lv_iconst (v := (2 : Int32)) hx hb dX6_readTape_24 (by decide) ?_
      refine lv_idiv hx hb dX6_readTape_25 (by decide) ?_
      refine lv_icmp_ge (tgt := 80) hx hb dX6_readTape_26 (by decide) (fun hc6 => ?_) (fun hc6 => ?_)
      · replace hF := br_yes hF hc6
        exact J80  _ _ _ _ _ hF (lv_sub hl [0, 1] rfl) hP hS
      · replace hF := br_no hF hc6
        refine lv_iload_n hx hb dX6_readTape_29 rfl (lv_at hl 3 rfl) ?_
        refine lv_aload_n hx hb dX6_readTape_30 rfl (lv_at hl 0 rfl) ?_
        refine cg_X6_units hi0 hx hb hT hown hK hP mw5_1 dX6_readTape_31 ?_
        refine ca_units hi0 hx hb hK hP dX6_readTape_34 ?_
        refine lv_icmp_ge (tgt := 80) hx hb dX6_readTape_35 (by decide) (fun hc7 => ?_) (fun hc7 => ?_)
        · replace hF := br_yes hF hc7
          exact J80  _ _ _ _ _ hF (lv_sub hl [0, 1] rfl) hP hS
        · replace hF := br_no hF hc7
          refine lv_aload_n hx hb dX6_readTape_38 rfl (lv_at hl 0 rfl) ?_
          refine cg_X6_units hi0 hx hb hT hown hK hP mw5_1 dX6_readTape_39 ?_
          refine lv_iload_n hx hb dX6_readTape_42 rfl (lv_at hl 3 rfl) ?_
          refine lv_aload_n hx hb dX6_readTape_43 rfl (lv_at hl 1 rfl) ?_
          refine lv_iconst (v := (2 : Int32)) hx hb dX6_readTape_44 (by decide) ?_
          refine lv_iload_n hx hb dX6_readTape_45 rfl (lv_at hl 3 rfl) ?_
          refine lv_imul hx hb dX6_readTape_46 ?_
          replace hF := obnd3_of hF
          obtain ⟨r11, fi9, ar10, h8, hF⟩ := hF
          refine cC_i (As := [.int ((2 : Int32) * (x3))]) (rest := [.int (x3), .ref (ad (27 + 2 * i0))]) hx hb hml hT hown hK hE hD hA hP hS (rcv_X8 hK hP) (kX8_at l g ad rd _ nf ln fi ar ((2 : Int32) * (x3)) r11 fi9 ar10 h8) cw_X8_at mw45_1 ⟨⟨rfl, rfl⟩, Nat.le_of_ble_eq_true rfl, Nat.le_of_ble_eq_true rfl⟩ rfl hl.1 rfl (Nat.le_of_ble_eq_true rfl) dX6_readTape_47 ⟨Nat.zero_le _, Nat.zero_le _⟩ (fun H locs hP hS => ?_)
          refine lv_bipush (v := (8 : Int32)) hx hb dX6_readTape_50 (by decide) ?_
          refine lv_ishl hx hb dX6_readTape_52 ?_
          refine lv_aload_n hx hb dX6_readTape_53 rfl (lv_at hl 1 rfl) ?_
          refine lv_iconst (v := (2 : Int32)) hx hb dX6_readTape_54 (by decide) ?_
          refine lv_iload_n hx hb dX6_readTape_55 rfl (lv_at hl 3 rfl) ?_
          refine lv_imul hx hb dX6_readTape_56 ?_
          refine lv_iconst (v := (1 : Int32)) hx hb dX6_readTape_57 (by decide) ?_
          refine lv_iadd hx hb dX6_readTape_58 ?_
          replace hF := obnd3_of hF
          obtain ⟨r15, fi13, ar14, h12, hF⟩ := hF
          refine cC_i (As := [.int (((2 : Int32) * (x3)) + (1 : Int32))]) (rest := [.int ((r11) <<< ((8 : Int32) &&& 31)), .int (x3), .ref (ad (27 + 2 * i0))]) hx hb hml hT hown hK hE hD hA hP hS (rcv_X8 hK hP) (kX8_at l g ad rd _ nf ln fi9 ar10 (((2 : Int32) * (x3)) + (1 : Int32)) r15 fi13 ar14 h12) cw_X8_at mw45_1 ⟨⟨rfl, rfl⟩, Nat.le_of_ble_eq_true rfl, Nat.le_of_ble_eq_true rfl⟩ rfl hl.1 rfl (Nat.le_of_ble_eq_true rfl) dX6_readTape_59 ⟨Nat.zero_le _, Nat.zero_le _⟩ (fun H locs hP hS => ?_)
          refine lv_ior hx hb dX6_readTape_62 ?_
          replace hF := gd_of hF
          obtain ⟨hi16, hF⟩ := hF
          obtain ⟨ar17, ear17⟩ : ∃ y : AR, y = va_up ar14 (30 + i0) (upd (ar14 (30 + i0)) (x3).toNatClampNeg (((r11) <<< ((8 : Int32) &&& 31)) ||| (r15))) := ⟨_, rfl⟩
          replace hF := bnd_of hF ear17
          refine cs_units hi0 hx hb hK hP hD hS hi16 dX6_readTape_63 (fun H locs hP hS => ?_)
          rw [← ear17] at hP
          refine lv_aload_n hx hb dX6_readTape_64 rfl (lv_at hl 0 rfl) ?_
          refine lv_dup hx hb dX6_readTape_65 rfl ?_
          refine cg_X6_length hi0 hx hb hT hown hK hP mw26_19 dX6_readTape_66 ?_
          refine lv_iconst (v := (1 : Int32)) hx hb dX6_readTape_69 (by decide) ?_
          refine lv_iadd hx hb dX6_readTape_70 ?_
          obtain ⟨fi18, efi18⟩ : ∃ y : FI, y = va_up fi13 (60 + i0) ((fi13 (60 + i0)) + (1 : Int32)) := ⟨_, rfl⟩
          replace hF := bnd_of hF efi18
          refine cp_X6_length hi0 hx hb hT hown hK hP hD hS mw26_19 dX6_readTape_71 (fun H locs hP hS => ?_)
          rw [← efi18] at hP
          obtain ⟨x3_19, ex3_19⟩ : ∃ y : Int32, y = (x3) + (1 : Int32) := ⟨_, rfl⟩
          replace hF := bnd_of hF ex3_19
          refine lv_iinc (v := x3_19) (lv' := [(3, .int (x3_19)), (0, .ref (ad (26 + 2 * i0))), (1, .ref (ad (3))), (2, .int (x2))]) hx hb dX6_readTape_74 hl (k := 3) rfl (by rw [ex3_19]; rfl) (by decide) rfl (fun ls hl => ?_)
          refine lv_goto (tgt := 22) hx hb dX6_readTape_77 (by decide) ?_
          exact ih22 (x2) (x3_19) _ _ _ _ _ hF (lv_sub hl [1, 2, 3, 0] rfl) hP hS
  have J18 : ∀  (fi : FI) (ar : AR) (H : Heap) (locs : List Loc) (ls : Array Slot), FX6_readTape_18 nf ln i0 fi ar = some (r, fi', ar') → lv_has ls 4 [(0, .ref (ad (26 + 2 * i0))), (1, .ref (ad (3)))] → va_P (gD g) vwCl (WC g ad rd ln fi ar) H → va_S (AC ad rd s.heap.size) s.heap H locs → W p l e (headSpec (wx yX6_readTape cX6_readTape 4 (some .boolean)) ({ frames := 6, cells := 0, slots := 0, locals := 132 } : Room)).room s m ([.ref (ad (26 + 2 * i0)), .ref (ad (3)), .int p2] : List Value).toArray below meth c H locs 0 0 (MQ below (QCi g ad rd ln s.heap.size r fi' ar') ([.ref (ad (26 + 2 * i0)), .ref (ad (3)), .int p2] : List Value).toArray s 0 0 (AC ad rd s.heap.size)) (F0 m 18 ls []) := by
    intro fi ar H locs ls hF hl hP hS
    unfold FX6_readTape_18 at hF
    refine lv_iconst (v := (0 : Int32)) hx hb dX6_readTape_18 (by decide) ?_
    exact rC_z hx hb hr hlocks rfl hF hP hS dX6_readTape_19
  replace hl := lv_sub hl [0, 1, 2] rfl
  refine lv_aload_n hx hb dX6_readTape_0 rfl (lv_at hl 0 rfl) ?_
  refine lv_iconst (v := (0 : Int32)) hx hb dX6_readTape_1 (by decide) ?_
  obtain ⟨fi20, efi20⟩ : ∃ y : FI, y = va_up fi (60 + i0) (0 : Int32) := ⟨_, rfl⟩
  replace hF := bnd_of hF efi20
  refine cp_X6_length hi0 hx hb hT hown hK hP hD hS mw26_19 dX6_readTape_2 (fun H locs hP hS => ?_)
  rw [← efi20] at hP
  refine lv_iload_n hx hb dX6_readTape_5 rfl (lv_at hl 2 rfl) ?_
  refine lv_iconst (v := (1 : Int32)) hx hb dX6_readTape_6 (by decide) ?_
  refine lv_iand hx hb dX6_readTape_7 ?_
  refine lv_if_ne (tgt := 18) hx hb dX6_readTape_8 (by decide) (fun hc21 => ?_) (fun hc21 => ?_)
  · replace hF := br_no hF hc21
    exact J18  _ _ _ _ _ hF (lv_sub hl [0, 1] rfl) hP hS
  · replace hF := br_yes hF hc21
    refine lv_iload_n hx hb dX6_readTape_11 rfl (lv_at hl 2 rfl) ?_
    refine lv_sipush (v := (510 : Int32)) hx hb dX6_readTape_12 (by decide) ?_
    refine lv_icmp_le (tgt := 20) hx hb dX6_readTape_15 (by decide) (fun hc22 => ?_) (fun hc22 => ?_)
    · replace hF := br_yes hF hc22
      refine lv_iconst (v := (0 : Int32)) hx hb dX6_readTape_20 (by decide) ?_
      refine lv_istore_n (lv' := [(3, .int (0 : Int32)), (0, .ref (ad (26 + 2 * i0))), (1, .ref (ad (3))), (2, .int (p2))]) hx hb dX6_readTape_21 rfl hl (by decide) rfl (fun ls hl => ?_)
      exact L22 nf (p2) (0 : Int32) _ _ _ _ _ hF (lv_sub hl [1, 2, 3, 0] rfl) hP hS
    · replace hF := br_no hF hc22
      exact J18  _ _ _ _ _ hF (lv_sub hl [0, 1] rfl) hP hS
theorem cw_X6_readTape : (Cond.instanceMethod yX6_readTape ∈ TB ∧ Cond.selects RX6 yX6_readTape yX6_readTape ∈ TB ∧ Cond.code yX6_readTape cX6_readTape 4 (some .boolean) ∈ TB ∧ Cond.initialized RX6 ∈ TB) ∧ (yX6_readTape.cls = RX6 ∧ yX6_readTape.cls ≠ "java/lang/invoke/MethodHandle" ∧ yX6_readTape.cls ≠ "java/lang/invoke/VarHandle" ∧ (parseMethodDescriptor yX6_readTape.desc).map (fun d => d.parameters.length) = some 2) := ⟨⟨mw44_22, mw44_23, mw45_0, mw2_23⟩, by decide +kernel⟩
/-! X6_writePart -/
noncomputable def FX6_writePart_102 (K38 : Int32 → Int32 → Int32 → FI → AR → Option (Unit × FI × AR)) (nf : Nat) (ln : LN) (i0 : Nat) (x2 : Int32) (x3 : Int32) (x6 : Int32) (t1 : Int32) (t2 : Int32) (fi : FI) (ar : AR) : Option (Unit × FI × AR) :=
  obnd3 (FX3_putTwo nf ln fi ar (t1) (t2)) fun r4 fi2 ar3 => bnd ((x6) + (1 : Int32)) fun x6_5 => K38 (x2) (x3) (x6_5) fi2 ar3
noncomputable def FX6_writePart_71 (K38 : Int32 → Int32 → Int32 → FI → AR → Option (Unit × FI × AR)) (nf : Nat) (ln : LN) (i0 : Nat) (x2 : Int32) (x3 : Int32) (x6 : Int32) (x7 : Int32) (t0 : Int32) (fi : FI) (ar : AR) : Option (Unit × FI × AR) :=
  gd (¬ ((x6) < 0 ∨ 13 ≤ (x6).toNatClampNeg)) (br ((fi (60 + i0)) ≤ (x7)) (FX6_writePart_102 K38 nf ln i0  (x2) (x3) (x6) ((x2) + (tPla.getD (x6).toNatClampNeg 0)) (t0) fi ar) (obnd3 (FX6_unit nf ln i0 fi ar (x7)) fun r11 fi9 ar10 => FX6_writePart_102 K38 nf ln i0  (x2) (x3) (x6) ((x2) + (tPla.getD (x6).toNatClampNeg 0)) (r11) fi9 ar10))
noncomputable def FX6_writePart_38b (K38 : Int32 → Int32 → Int32 → FI → AR → Option (Unit × FI × AR)) (nf : Nat) (ln : LN) (i0 : Nat) (x2 : Int32) (x3 : Int32) (x6 : Int32) (fi : FI) (ar : AR) : Option (Unit × FI × AR) :=
  br ((13 : Int32) ≤ (x6)) (some ((), fi, ar)) (bnd ((((x3) - (1 : Int32)) * (13 : Int32)) + (x6)) fun x7_13 => br ((x7_13) = (fi (60 + i0))) (FX6_writePart_71 K38 nf ln i0  (x2) (x3) (x6) (x7_13) (0 : Int32) fi ar) (FX6_writePart_71 K38 nf ln i0  (x2) (x3) (x6) (x7_13) (65535 : Int32) fi ar))
noncomputable def FX6_writePart_38 (nf : Nat) (ln : LN) (i0 : Nat) (kf : Nat) : Int32 → Int32 → Int32 → FI → AR → Option (Unit × FI × AR) := Nat.rec (fun _ _ _ _ _ => none) (fun _ K38 => FX6_writePart_38b K38 nf ln i0) kf
noncomputable def FX6_writePart (nf : Nat) (ln : LN) (i0 : Nat) (fi : FI) (ar : AR) (x2 : Int32) (x3 : Int32) (x4 : Int32) (x5 : Int32) : Option (Unit × FI × AR) :=
  obnd3 (FX3_fill nf ln fi ar (x2) (32 : Int32) (0 : Int32)) fun r18 fi16 ar17 => obnd3 (FX3_putOne nf ln fi16 ar17 (x2) (x4)) fun r22 fi20 ar21 => obnd3 (FX3_putOne nf ln fi20 ar21 ((x2) + (11 : Int32)) (15 : Int32)) fun r26 fi24 ar25 => obnd3 (FX3_putOne nf ln fi24 ar25 ((x2) + (13 : Int32)) (x5)) fun r30 fi28 ar29 => FX6_writePart_38 nf ln i0 nf (x2) (x3) (0 : Int32) fi28 ar29
set_option maxHeartbeats 4000000 in
set_option maxRecDepth 100000 in
theorem kX6_writePart (l : Launch) (g : GT) (ad rd : Nat → Nat) (sz : Nat) (nf : Nat) (ln : LN) (i0 : Nat) (hi0 : i0 < 4) (fi : FI) (ar : AR) (p2 : Int32) (p3 : Int32) (p4 : Int32) (p5 : Int32) (r : Unit) (fi' : FI) (ar' : AR) (hF : FX6_writePart nf ln i0 fi ar p2 p3 p4 p5 = some (r, fi', ar')) : Met l yX6_writePart (wx yX6_writePart cX6_writePart 9 none) ({ frames := 2, cells := 0, slots := 0, locals := 48 } : Room) (va_Pc [.ref (ad (26 + 2 * i0)), .ref (ad (1)), .int p2, .int p3, .int p4, .int p5] (PC g ad rd ln sz fi ar)) (QCv g ad rd ln sz r fi' ar') 0 0 (AC ad rd sz) := by
  refine Met.ofW (cc := cX6_writePart) (maxL := 9) (ret := none) (by decide) rfl ?_
  intro p e s m args below meth c s₁ B hml hv
  obtain ⟨rfl, hsz, hP, hK, hD0, hE⟩ := hv
  have hx := B.exec
  have hb := B.bytes
  have hr := B.returns
  have hts := atoms_spec (ws := (wx yX6_writePart cX6_writePart 9 none)) B.pre
  have hT : ∀ w ∈ TB, w.before _ s = true := fun w h => hts w (List.mem_cons_of_mem _ h)
  have hown : s.vm.findClass RX6 = some m.cls := findClass_of_methodNamed B.named
  have hlocks := B.notSynchronized
  subst hsz
  have hD := dC hD0 s.heap.size
  have hA : ∀ q : Nat, s.heap.size ≤ q → AC ad rd s.heap.size q := fun q h => Or.inr h
  have hS : va_S (AC ad rd s.heap.size) s.heap s.heap [] := va_S.rf
  have hl := lv_entry ([.ref (ad (26 + 2 * i0)), .ref (ad (1)), .int p2, .int p3, .int p4, .int p5]) (n := 9) (Nat.le_of_ble_eq_true rfl)
  rw [lg_entry_eq]
  generalize (lg_sl ([.ref (ad (26 + 2 * i0)), .ref (ad (1)), .int p2, .int p3, .int p4, .int p5]) ++ List.replicate (9 - (lg_sl ([.ref (ad (26 + 2 * i0)), .ref (ad (1)), .int p2, .int p3, .int p4, .int p5])).length) Slot.unset).toArray = ls at hl ⊢
  have hl : lv_has ls 9 [(0, .ref (ad (26 + 2 * i0))), (1, .ref (ad (1))), (2, .int p2), (3, .int p3), (4, .int p4), (5, .int p5)] := hl
  unfold FX6_writePart at hF
  have L38 : ∀ kf : Nat, ∀ (x2 : Int32) (x3 : Int32) (x6 : Int32) (fi : FI) (ar : AR) (H : Heap) (locs : List Loc) (ls : Array Slot), FX6_writePart_38 nf ln i0 kf x2 x3 x6 fi ar = some (r, fi', ar') → lv_has ls 9 [(0, .ref (ad (26 + 2 * i0))), (1, .ref (ad (1))), (2, .int x2), (3, .int x3), (6, .int x6)] → va_P (gD g) vwCl (WC g ad rd ln fi ar) H → va_S (AC ad rd s.heap.size) s.heap H locs → W p l e (headSpec (wx yX6_writePart cX6_writePart 9 none) ({ frames := 2, cells := 0, slots := 0, locals := 48 } : Room)).room s m ([.ref (ad (26 + 2 * i0)), .ref (ad (1)), .int p2, .int p3, .int p4, .int p5] : List Value).toArray below meth c H locs 0 0 (MQ below (QCv g ad rd ln s.heap.size r fi' ar') ([.ref (ad (26 + 2 * i0)), .ref (ad (1)), .int p2, .int p3, .int p4, .int p5] : List Value).toArray s 0 0 (AC ad rd s.heap.size)) (F0 m 38 ls []) := by
    intro kf
    induction kf with
    | zero => intro x2 x3 x6 fi ar H locs ls hF hl hP hS; cases (show (none : Option (Unit × FI × AR)) = _ from hF)
    | succ kf ih38 =>
      intro x2 x3 x6 fi ar H locs ls hF hl hP hS
      obtain ⟨K38, hK38⟩ : ∃ K : Int32 → Int32 → Int32 → FI → AR → Option (Unit × FI × AR), K = FX6_writePart_38 nf ln i0 kf := ⟨_, rfl⟩
      replace hF : FX6_writePart_38b K38 nf ln i0 x2 x3 x6 fi ar = some (r, fi', ar') := by rw [hK38]; exact hF
      rw [← hK38] at ih38
      clear hK38
      have J102 : ∀ (x2 : Int32) (x3 : Int32) (x6 : Int32) (t1 : Int32) (t2 : Int32) (fi : FI) (ar : AR) (H : Heap) (locs : List Loc) (ls : Array Slot), FX6_writePart_102 K38 nf ln i0 x2 x3 x6 t1 t2 fi ar = some (r, fi', ar') → lv_has ls 9 [(0, .ref (ad (26 + 2 * i0))), (1, .ref (ad (1))), (2, .int x2), (3, .int x3), (6, .int x6)] → va_P (gD g) vwCl (WC g ad rd ln fi ar) H → va_S (AC ad rd s.heap.size) s.heap H locs → W p l e (headSpec (wx yX6_writePart cX6_writePart 9 none) ({ frames := 2, cells := 0, slots := 0, locals := 48 } : Room)).room s m ([.ref (ad (26 + 2 * i0)), .ref (ad (1)), .int p2, .int p3, .int p4, .int p5] : List Value).toArray below meth c H locs 0 0 (MQ below (QCv g ad rd ln s.heap.size r fi' ar') ([.ref (ad (26 + 2 * i0)), .ref (ad (1)), .int p2, .int p3, .int p4, .int p5] : List Value).toArray s 0 0 (AC ad rd s.heap.size)) (F0 m 102 ls [.int t2, .int t1, .ref (ad (1))]) := by
        intro x2 x3 x6 t1 t2 fi ar H locs ls hF hl hP hS
        unfold FX6_writePart_102 at hF
        replace hF := obnd3_of hF
        obtain ⟨r4, fi2, ar3, h1, hF⟩ := hF
        refine cC_v (As := [.int (t1), .int (t2)]) (rest := []) hx hb hml hT hown hK hE hD hA hP hS (rcv_X3 hK hP) (kX3_putTwo l g ad rd _ nf ln fi ar (t1) (t2) r4 fi2 ar3 h1) cw_X3_putTwo mw48_17 ⟨⟨rfl, rfl⟩, Nat.le_of_ble_eq_true rfl, Nat.le_of_ble_eq_true rfl⟩ rfl hl.1 rfl (Nat.le_of_ble_eq_true rfl) dX6_writePart_102 ⟨Nat.zero_le _, Nat.zero_le _⟩ (fun H locs hP hS => ?_)
        obtain ⟨x6_5, ex6_5⟩ : ∃ y : Int32, y = (x6) + (1 : Int32) := ⟨_, rfl⟩
        replace hF := bnd_of hF ex6_5
        refine lv_iinc (v := x6_5) (lv' := [(6, .int (x6_5)), (0, .ref (ad (26 + 2 * i0))), (1, .ref (ad (1))), (2, .int (x2)), (3, .int (x3))]) hx hb dX6_writePart_105 hl (k := 4) rfl (by rw [ex6_5]; rfl) (by decide) rfl (fun ls hl => ?_)
        refine lv_goto (tgt := 38) hx hb dX6_writePart_108 (by decide) ?_
        exact ih38 (x2) (x3) (x6_5) _ _ _ _ _ hF (lv_sub hl [1, 2, 3, 4, 0] rfl) hP hS
      have J71 : ∀ (x2 : Int32) (x3 : Int32) (x6 : Int32) (x7 : Int32) (t0 : Int32) (fi : FI) (ar : AR) (H : Heap) (locs : List Loc) (ls : Array Slot), FX6_writePart_71 K38 nf ln i0 x2 x3 x6 x7 t0 fi ar = some (r, fi', ar') → lv_has ls 9 [(0, .ref (ad (26 + 2 * i0))), (1, .ref (ad (1))), (2, .int x2), (3, .int x3), (6, .int x6), (7, .int x7)] → va_P (gD g) vwCl (WC g ad rd ln fi ar) H → va_S (AC ad rd s.heap.size) s.heap H locs → W p l e (headSpec (wx yX6_writePart cX6_writePart 9 none) ({ frames := 2, cells := 0, slots := 0, locals := 48 } : Room)).room s m ([.ref (ad (26 + 2 * i0)), .ref (ad (1)), .int p2, .int p3, .int p4, .int p5] : List Value).toArray below meth c H locs 0 0 (MQ below (QCv g ad rd ln s.heap.size r fi' ar') ([.ref (ad (26 + 2 * i0)), .ref (ad (1)), .int p2, .int p3, .int p4, .int p5] : List Value).toArray s 0 0 (AC ad rd s.heap.size)) (F0 m 71 ls [.int t0]) := by
        intro x2 x3 x6 x7 t0 fi ar H locs ls hF hl hP hS
        unfold FX6_writePart_71 at hF
        refine lv_istore (lv' := [(8, .int (t0)), (0, .ref (ad (26 + 2 * i0))), (1, .ref (ad (1))), (2, .int (x2)), (3, .int (x3)), (6, .int (x6)), (7, .int (x7))]) hx hb dX6_writePart_71 hl (by decide) rfl (fun ls hl => ?_)
        refine lv_aload_n hx hb dX6_writePart_73 rfl (lv_at hl 2 rfl) ?_
        refine lv_iload_n hx hb dX6_writePart_74 rfl (lv_at hl 3 rfl) ?_
        refine va_gets hx hb hE.1.2.2.2.2.1 hS hown (hT _ mw26_22) (fun _ h => h) dX6_writePart_75 ?_
        refine lv_iload hx hb dX6_writePart_78 (lv_at hl 5 rfl) ?_
        replace hF := gd_of hF
        obtain ⟨hi6, hF⟩ := hF
        refine va_ti hx hb hE.1.2.2.2.2.2 hS hi6 rfl dX6_writePart_80 ?_
        refine lv_iadd hx hb dX6_writePart_81 ?_
        refine lv_iload hx hb dX6_writePart_82 (lv_at hl 6 rfl) ?_
        refine lv_aload_n hx hb dX6_writePart_84 rfl (lv_at hl 1 rfl) ?_
        refine cg_X6_length hi0 hx hb hT hown hK hP mw26_19 dX6_writePart_85 ?_
        refine lv_icmp_ge (tgt := 100) hx hb dX6_writePart_88 (by decide) (fun hc7 => ?_) (fun hc7 => ?_)
        · replace hF := br_yes hF hc7
          refine lv_iload hx hb dX6_writePart_100 (lv_at hl 0 rfl) ?_
          exact J102 (x2) (x3) (x6) ((x2) + (tPla.getD (x6).toNatClampNeg 0)) (t0) _ _ _ _ _ hF (lv_sub hl [1, 2, 3, 4, 5] rfl) hP hS
        · replace hF := br_no hF hc7
          refine lv_aload_n hx hb dX6_writePart_91 rfl (lv_at hl 1 rfl) ?_
          refine lv_iload hx hb dX6_writePart_92 (lv_at hl 6 rfl) ?_
          replace hF := obnd3_of hF
          obtain ⟨r11, fi9, ar10, h8, hF⟩ := hF
          refine cC_i (As := [.int (x7)]) (rest := [.int ((x2) + (tPla.getD (x6).toNatClampNeg 0)), .ref (ad (1))]) hx hb hml hT hown hK hE hD hA hP hS (rcv_X6 hi0 hK hP) (kX6_unit l g ad rd _ nf ln i0 hi0 fi ar (x7) r11 fi9 ar10 h8) cw_X6_unit mw29_7 ⟨⟨rfl, rfl⟩, Nat.le_of_ble_eq_true rfl, Nat.le_of_ble_eq_true rfl⟩ rfl hl.1 rfl (Nat.le_of_ble_eq_true rfl) dX6_writePart_94 ⟨Nat.zero_le _, Nat.zero_le _⟩ (fun H locs hP hS => ?_)
          refine lv_goto (tgt := 102) hx hb dX6_writePart_97 (by decide) ?_
          exact J102 (x2) (x3) (x6) ((x2) + (tPla.getD (x6).toNatClampNeg 0)) (r11) _ _ _ _ _ hF (lv_sub hl [1, 2, 3, 4, 5] rfl) hP hS
      unfold FX6_writePart_38b at hF
      refine lv_iload hx hb dX6_writePart_38 (lv_at hl 4 rfl) ?_
      refine lv_bipush (v := (13 : Int32)) hx hb dX6_writePart_40 (by decide) ?_
      refine lv_icmp_ge (tgt := 111) hx hb dX6_writePart_42 (by decide) (fun hc12 => ?_) (fun hc12 => ?_)
      · replace hF := br_yes hF hc12
        exact rC_v hx hb hr hlocks hF hP hS dX6_writePart_111
      · replace hF := br_no hF hc12
        refine lv_iload_n hx hb dX6_writePart_45 rfl (lv_at hl 3 rfl) ?_
        refine lv_iconst (v := (1 : Int32)) hx hb dX6_writePart_46 (by decide) ?_
        refine lv_isub hx hb dX6_writePart_47 ?_
        refine lv_bipush (v := (13 : Int32)) hx hb dX6_writePart_48 (by decide) ?_
        refine lv_imul hx hb dX6_writePart_50 ?_
        refine lv_iload hx hb dX6_writePart_51 (lv_at hl 4 rfl) ?_
        refine lv_iadd hx hb dX6_writePart_53 ?_
        obtain ⟨x7_13, ex7_13⟩ : ∃ y : Int32, y = ((((x3) - (1 : Int32)) * (13 : Int32)) + (x6)) := ⟨_, rfl⟩
        rw [← ex7_13]
        replace hF := bnd_of hF ex7_13
        refine lv_istore (lv' := [(7, .int (x7_13)), (0, .ref (ad (26 + 2 * i0))), (1, .ref (ad (1))), (2, .int (x2)), (3, .int (x3)), (6, .int (x6))]) hx hb dX6_writePart_54 hl (by decide) rfl (fun ls hl => ?_)
        refine lv_iload hx hb dX6_writePart_56 (lv_at hl 0 rfl) ?_
        refine lv_aload_n hx hb dX6_writePart_58 rfl (lv_at hl 1 rfl) ?_
        refine cg_X6_length hi0 hx hb hT hown hK hP mw26_19 dX6_writePart_59 ?_
        refine lv_icmp_ne (tgt := 69) hx hb dX6_writePart_62 (by decide) (fun hc14 => ?_) (fun hc14 => ?_)
        · replace hF := br_no hF hc14
          refine lv_ldc (v := (65535 : Int32)) hx hb hown (hT _ mw27_16) dX6_writePart_69 ?_
          exact J71 (x2) (x3) (x6) (x7_13) (65535 : Int32) _ _ _ _ _ hF (lv_sub hl [1, 2, 3, 4, 5, 0] rfl) hP hS
        · replace hF := br_yes hF hc14
          refine lv_iconst (v := (0 : Int32)) hx hb dX6_writePart_65 (by decide) ?_
          refine lv_goto (tgt := 71) hx hb dX6_writePart_66 (by decide) ?_
          exact J71 (x2) (x3) (x6) (x7_13) (0 : Int32) _ _ _ _ _ hF (lv_sub hl [1, 2, 3, 4, 5, 0] rfl) hP hS
  replace hl := lv_sub hl [0, 1, 2, 3, 4, 5] rfl
  refine lv_aload_n hx hb dX6_writePart_0 rfl (lv_at hl 1 rfl) ?_
  refine lv_iload_n hx hb dX6_writePart_1 rfl (lv_at hl 2 rfl) ?_
  refine lv_bipush (v := (32 : Int32)) hx hb dX6_writePart_2 (by decide) ?_
  refine lv_iconst (v := (0 : Int32)) hx hb dX6_writePart_4 (by decide) ?_
  replace hF := obnd3_of hF
  obtain ⟨r18, fi16, ar17, h15, hF⟩ := hF
  refine cC_v (As := [.int (p2), .int (32 : Int32), .int (0 : Int32)]) (rest := []) hx hb hml hT hown hK hE hD hA hP hS (rcv_X3 hK hP) (kX3_fill l g ad rd _ nf ln fi ar (p2) (32 : Int32) (0 : Int32) r18 fi16 ar17 h15) cw_X3_fill mw48_15 ⟨⟨rfl, rfl⟩, Nat.le_of_ble_eq_true rfl, Nat.le_of_ble_eq_true rfl⟩ rfl hl.1 rfl (Nat.le_of_ble_eq_true rfl) dX6_writePart_5 ⟨Nat.zero_le _, Nat.zero_le _⟩ (fun H locs hP hS => ?_)
  refine lv_aload_n hx hb dX6_writePart_8 rfl (lv_at hl 1 rfl) ?_
  refine lv_iload_n hx hb dX6_writePart_9 rfl (lv_at hl 2 rfl) ?_
  refine lv_iload hx hb dX6_writePart_10 (lv_at hl 4 rfl) ?_
  replace hF := obnd3_of hF
  obtain ⟨r22, fi20, ar21, h19, hF⟩ := hF
  refine cC_v (As := [.int (p2), .int (p4)]) (rest := []) hx hb hml hT hown hK hE hD hA hP hS (rcv_X3 hK hP) (kX3_putOne l g ad rd _ nf ln fi16 ar17 (p2) (p4) r22 fi20 ar21 h19) cw_X3_putOne mw48_16 ⟨⟨rfl, rfl⟩, Nat.le_of_ble_eq_true rfl, Nat.le_of_ble_eq_true rfl⟩ rfl hl.1 rfl (Nat.le_of_ble_eq_true rfl) dX6_writePart_12 ⟨Nat.zero_le _, Nat.zero_le _⟩ (fun H locs hP hS => ?_)
  refine lv_aload_n hx hb dX6_writePart_15 rfl (lv_at hl 1 rfl) ?_
  refine lv_iload_n hx hb dX6_writePart_16 rfl (lv_at hl 2 rfl) ?_
  refine lv_bipush (v := (11 : Int32)) hx hb dX6_writePart_17 (by decide) ?_
  refine lv_iadd hx hb dX6_writePart_19 ?_
  refine lv_bipush (v := (15 : Int32)) hx hb dX6_writePart_20 (by decide) ?_
  replace hF := obnd3_of hF
  obtain ⟨r26, fi24, ar25, h23, hF⟩ := hF
  refine cC_v (As := [.int ((p2) + (11 : Int32)), .int (15 : Int32)]) (rest := []) hx hb hml hT hown hK hE hD hA hP hS (rcv_X3 hK hP) (kX3_putOne l g ad rd _ nf ln fi20 ar21 ((p2) + (11 : Int32)) (15 : Int32) r26 fi24 ar25 h23) cw_X3_putOne mw48_16 ⟨⟨rfl, rfl⟩, Nat.le_of_ble_eq_true rfl, Nat.le_of_ble_eq_true rfl⟩ rfl hl.1 rfl (Nat.le_of_ble_eq_true rfl) dX6_writePart_22 ⟨Nat.zero_le _, Nat.zero_le _⟩ (fun H locs hP hS => ?_)
  refine lv_aload_n hx hb dX6_writePart_25 rfl (lv_at hl 1 rfl) ?_
  refine lv_iload_n hx hb dX6_writePart_26 rfl (lv_at hl 2 rfl) ?_
  refine lv_bipush (v := (13 : Int32)) hx hb dX6_writePart_27 (by decide) ?_
  refine lv_iadd hx hb dX6_writePart_29 ?_
  refine lv_iload hx hb dX6_writePart_30 (lv_at hl 5 rfl) ?_
  replace hF := obnd3_of hF
  obtain ⟨r30, fi28, ar29, h27, hF⟩ := hF
  refine cC_v (As := [.int ((p2) + (13 : Int32)), .int (p5)]) (rest := []) hx hb hml hT hown hK hE hD hA hP hS (rcv_X3 hK hP) (kX3_putOne l g ad rd _ nf ln fi24 ar25 ((p2) + (13 : Int32)) (p5) r30 fi28 ar29 h27) cw_X3_putOne mw48_16 ⟨⟨rfl, rfl⟩, Nat.le_of_ble_eq_true rfl, Nat.le_of_ble_eq_true rfl⟩ rfl hl.1 rfl (Nat.le_of_ble_eq_true rfl) dX6_writePart_32 ⟨Nat.zero_le _, Nat.zero_le _⟩ (fun H locs hP hS => ?_)
  refine lv_iconst (v := (0 : Int32)) hx hb dX6_writePart_35 (by decide) ?_
  refine lv_istore (lv' := [(6, .int (0 : Int32)), (0, .ref (ad (26 + 2 * i0))), (1, .ref (ad (1))), (2, .int (p2)), (3, .int (p3)), (4, .int (p4)), (5, .int (p5))]) hx hb dX6_writePart_36 hl (by decide) rfl (fun ls hl => ?_)
  exact L38 nf (p2) (p3) (0 : Int32) _ _ _ _ _ hF (lv_sub hl [1, 2, 3, 4, 0] rfl) hP hS
theorem cw_X6_writePart : (Cond.instanceMethod yX6_writePart ∈ TB ∧ Cond.selects RX6 yX6_writePart yX6_writePart ∈ TB ∧ Cond.code yX6_writePart cX6_writePart 9 none ∈ TB ∧ Cond.initialized RX6 ∈ TB) ∧ (yX6_writePart.cls = RX6 ∧ yX6_writePart.cls ≠ "java/lang/invoke/MethodHandle" ∧ yX6_writePart.cls ≠ "java/lang/invoke/VarHandle" ∧ (parseMethodDescriptor yX6_writePart.desc).map (fun d => d.parameters.length) = some 5) := ⟨⟨mw48_12, mw48_13, mw48_14, mw2_23⟩, by decide +kernel⟩
