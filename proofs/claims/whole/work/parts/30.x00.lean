/-! X10_openHere -/
noncomputable def FX10_openHere_62 (nf : Nat) (t1 : Int32) (fi : FI) (ar : AR) (ln : LN) : Option ((Unit ⊕ Nat) × FI × AR × LN × Nat × Nat) :=
  obnd6 (FX2_list nf 0 fi ar ln (t1)) fun r5 fi2 ar3 ln4 kc6 ks7 => addc (kc6) (ks7) (some (Sum.inl (), fi2, ar3, ln4, 0, 0))
noncomputable def FX10_openHere_19 (nf : Nat)  (fi : FI) (ar : AR) (ln : LN) : Option ((Unit ⊕ Nat) × FI × AR × LN × Nat × Nat) :=
  br ((fi (1)) = 0) (br ((fi (0)) = 0) (FX10_openHere_62 nf  (fi (4)) fi ar ln) (FX10_openHere_62 nf  (fi (0)) fi ar ln)) (some (Sum.inr 0, fi, ar, ln, 1, 6))
noncomputable def FX10_openHere (nf : Nat) (fi : FI) (ar : AR) (ln : LN)  : Option ((Unit ⊕ Nat) × FI × AR × LN × Nat × Nat) :=
  br ((fi (1)) = (-1 : Int32)) (obnd6 (FX0_firstFault nf fi ar ln) fun r18 fi15 ar16 ln17 kc19 ks20 => addc (kc19) (ks20) (bnd (va_up fi15 (1) (r18)) fun fi24 => FX10_openHere_19 nf  fi24 ar16 ln17)) (FX10_openHere_19 nf  fi ar ln)
set_option maxHeartbeats 8000000 in
set_option maxRecDepth 100000 in
theorem kX10_openHere (l : Launch) (g : GT) (ad rd0 : Nat → Nat) (sz : Nat) (nf : Nat) (hlt : l.stackTraces = false) (fi : FI) (ar : AR) (ln : LN)  (r : (Unit ⊕ Nat)) (fi' : FI) (ar' : AR) (ln' : LN) (KC KS : Nat) (hF : FX10_openHere nf fi ar ln  = some (r, fi', ar', ln', KC, KS)) : vx_Met l yX10_openHere (wxX yX10_openHere cX10_openHere 1 none) ({ frames := 9, cells := KC, slots := KS, locals := 213 } : Room) (va_Pc [.ref (ad (0))] (PX g ad rd0 ln sz fi ar)) (QXv g ad (AC ad rd0 sz) r fi' ar' ln') (XX g ad (AC ad rd0 sz) r fi' ar' ln') KC KS (AC ad rd0 sz) := by
  refine vx_ofW (cc := cX10_openHere) (maxL := 1) (ret := none) (by decide) rfl ?_
  intro p e s m args below meth c s₁ B hml hout hv
  obtain ⟨rfl, ⟨hsz, hP, hK, hD0, hE⟩, hEX⟩ := hv
  have hx := B.exec
  have hb := B.bytes
  have hr := B.returns
  have hts := atoms_spec (ws := (wxX yX10_openHere cX10_openHere 1 none)) B.pre
  have hTX : ∀ w ∈ TBX, w.before _ s = true := fun w h => hts w (List.mem_cons_of_mem _ h)
  have hT : ∀ w ∈ TB, w.before _ s = true := fun w h => hTX w (tbx0 w h)
  have hown : s.vm.findClass RX10 = some m.cls := findClass_of_methodNamed B.named
  have hlocks := B.notSynchronized
  subst hsz
  have hD : ∀ (ln : LN) (fi : FI) (ar : AR), va_D (AC ad rd0 s.heap.size) (WC g ad rd0 ln fi ar) := dCre (dC hD0 s.heap.size fi ar) (fun _ h => h)
  have hA : ∀ q : Nat, s.heap.size ≤ q → AC ad rd0 s.heap.size q := fun q h => Or.inr h
  have hS : va_S (AC ad rd0 s.heap.size) s.heap s.heap [] := va_S.rf
  have hl := lv_entry ([.ref (ad (0))]) (n := 1) (Nat.le_of_ble_eq_true rfl)
  rw [lg_entry_eq]
  generalize (lg_sl ([.ref (ad (0))]) ++ List.replicate (1 - (lg_sl ([.ref (ad (0))])).length) Slot.unset).toArray = ls at hl ⊢
  have hl : lv_has ls 1 [(0, .ref (ad (0)))] := hl
  unfold FX10_openHere at hF
  have J62 : ∀ (t1 : Int32) (fi : FI) (ar : AR) (ln : LN) (kc ks cells slots : Nat) (rd : Nat → Nat) (H : Heap) (locs : List Loc) (ls : Array Slot), FX10_openHere_62 nf t1 fi ar ln = some (r, fi', ar', ln', kc, ks) → cells + kc ≤ KC → slots + ks ≤ KS → lv_has ls 1 [(0, .ref (ad (0)))] → va_P (gD g) vwCl (WC g ad rd ln fi ar) H → (∀ (ln : LN) (fi : FI) (ar : AR), va_D (AC ad rd0 s.heap.size) (WC g ad rd ln fi ar)) → va_S (AC ad rd0 s.heap.size) s.heap H locs → W p l e (headSpec (wxX yX10_openHere cX10_openHere 1 none) ({ frames := 9, cells := KC, slots := KS, locals := 213 } : Room)).room s m ([.ref (ad (0))] : List Value).toArray below meth c H locs cells slots (vx_MQ below (QXv g ad (AC ad rd0 s.heap.size) r fi' ar' ln') (XX g ad (AC ad rd0 s.heap.size) r fi' ar' ln') ([.ref (ad (0))] : List Value).toArray s KC KS (AC ad rd0 s.heap.size)) (F0 m 62 ls [.int t1, .ref (ad (11 + 5 * 0))]) := by
    intro t1 fi ar ln kc ks cells slots rd H locs ls hF hkc hks hl hP hD hS
    unfold FX10_openHere_62 at hF
    replace hF := obnd6_of hF
    obtain ⟨r5, fi2, ar3, ln4, kc6, ks7, h1, hF⟩ := hF
    replace hF := addc_of hF
    obtain ⟨kc8, ks9, e10c, e10s, hF⟩ := hF
    refine cA_v (As := [.int (t1)]) (rest := []) hx hb hml hT hown hK hE hD hA hP hS (rcv_X2 (by decide) hK hP) (kX2_list l g ad rd _ nf 0 (by decide) fi ar ln (t1) r5 fi2 ar3 ln4 kc6 ks7 h1) cw_X2_list mw37_22 ⟨⟨rfl, rfl⟩, Nat.le_of_ble_eq_true rfl, Nat.le_of_ble_eq_true rfl⟩ rfl hl.1 rfl (Nat.le_of_ble_eq_true rfl) dX10_openHere_62 ⟨by show _ ≤ KC; omega, by show _ ≤ KS; omega⟩ (fun rd H locs hP hD hS => ?_)
    replace hkc : cells + kc6 + kc8 ≤ KC := by omega
    replace hks : slots + ks7 + ks9 ≤ KS := by omega
    refine W.widen (k := KC) (n := KS) (by omega) (by omega) ?_
    exact rX_v hx hb hr hlocks hF hP hD hS dX10_openHere_65
  have J19 : ∀  (fi : FI) (ar : AR) (ln : LN) (kc ks cells slots : Nat) (rd : Nat → Nat) (H : Heap) (locs : List Loc) (ls : Array Slot), FX10_openHere_19 nf fi ar ln = some (r, fi', ar', ln', kc, ks) → cells + kc ≤ KC → slots + ks ≤ KS → lv_has ls 1 [(0, .ref (ad (0)))] → va_P (gD g) vwCl (WC g ad rd ln fi ar) H → (∀ (ln : LN) (fi : FI) (ar : AR), va_D (AC ad rd0 s.heap.size) (WC g ad rd ln fi ar)) → va_S (AC ad rd0 s.heap.size) s.heap H locs → W p l e (headSpec (wxX yX10_openHere cX10_openHere 1 none) ({ frames := 9, cells := KC, slots := KS, locals := 213 } : Room)).room s m ([.ref (ad (0))] : List Value).toArray below meth c H locs cells slots (vx_MQ below (QXv g ad (AC ad rd0 s.heap.size) r fi' ar' ln') (XX g ad (AC ad rd0 s.heap.size) r fi' ar' ln') ([.ref (ad (0))] : List Value).toArray s KC KS (AC ad rd0 s.heap.size)) (F0 m 19 ls []) := by
    intro fi ar ln kc ks cells slots rd H locs ls hF hkc hks hl hP hD hS
    unfold FX10_openHere_19 at hF
    refine lv_aload_n hx hb dX10_openHere_19 rfl (lv_at hl 0 rfl) ?_
    refine cg_X10_knownFault hx hb hT hown hK hP mw3_7 dX10_openHere_20 ?_
    refine lv_if_eq (tgt := 37) hx hb dX10_openHere_23 (by decide) (fun hc11 => ?_) (fun hc11 => ?_)
    · replace hF := br_yes hF hc11
      refine lv_aload_n hx hb dX10_openHere_37 rfl (lv_at hl 0 rfl) ?_
      refine cg_X10_here hx hb hT hown hK hP mw2_19 dX10_openHere_38 ?_
      refine lv_aload_n hx hb dX10_openHere_41 rfl (lv_at hl 0 rfl) ?_
      refine cg_X10_place hx hb hT hown hK hP mw3_6 dX10_openHere_42 ?_
      refine lv_if_ne (tgt := 58) hx hb dX10_openHere_45 (by decide) (fun hc12 => ?_) (fun hc12 => ?_)
      · replace hF := br_no hF hc12
        refine lv_aload_n hx hb dX10_openHere_58 rfl (lv_at hl 0 rfl) ?_
        refine cg_X10_place hx hb hT hown hK hP mw3_6 dX10_openHere_59 ?_
        exact J62 (fi (0)) _ _ _ _ _ _ _ _ _ _ _ hF hkc hks (lv_sub hl [0] rfl) hP hD hS
      · replace hF := br_yes hF hc12
        refine lv_aload_n hx hb dX10_openHere_48 rfl (lv_at hl 0 rfl) ?_
        refine cg_X10_volume hx hb hT hown hK hP mw2_11 dX10_openHere_49 ?_
        refine cg_X9_root hx hb hT hown hK hP mw9_5 dX10_openHere_52 ?_
        refine lv_goto (tgt := 62) hx hb dX10_openHere_55 (by decide) ?_
        exact J62 (fi (4)) _ _ _ _ _ _ _ _ _ _ _ hF hkc hks (lv_sub hl [0] rfl) hP hD hS
    · replace hF := br_no hF hc11
      obtain ⟨sa, hsa⟩ := hEX.1.2.2.2.1
      obtain ⟨hq1, hq2⟩ := cost_of hF
      refine vx_throwSW (cls := "java/lang/IllegalStateException") (names := ["java/lang/RuntimeException", "java/lang/Exception"]) (sa := sa) (A := AC ad rd0 s.heap.size) hx hb hlt hown (by decide) (by decide) (hT _ mw37_20) (hT _ mw37_21) hsa (vx_hat (fun w h => hTX w (tbx1 w h)) (by rw [vxb_0]; exact fun _ h => h) (vx_c (va_tabs rfl rfl hEX.2.2.2.2.2.1) (vx_c (va_tabs rfl rfl hEX.2.2.2.2.2.2.1) (vx_c (va_tabs rfl rfl hEX.2.2.2.2.2.2.2) (vx_c (va_tabs rfl rfl hEX.2.1) vx_n))))) vxg_0 hEX.1.1 hEX.1.2.1 hS (by rw [hml]; exact hl.1) dX10_openHere_26 dX10_openHere_29 dX10_openHere_30 dX10_openHere_33 dX10_openHere_36 (fun x hx => (hout x hx).elim) (Nat.le_of_ble_eq_true rfl) (Nat.le_of_ble_eq_true rfl) (by show _ ≤ KC; omega) (by show _ ≤ KS; omega) hlocks (fun t _ hz hk => ?_) hS.2.2 (by omega) (by omega)
      exact xx_of (k := 0) hF (hP.kept (fun k q h => hk q.1 (hP k q h).lt)) hD ⟨Nat.le_trans hS.1 hz, fun q h1 h2 => by rw [hk q (Nat.lt_of_lt_of_le h1 hS.1)]; exact hS.2.1 q h1 h2⟩
  replace hl := lv_sub hl [0] rfl
  obtain ⟨cells, ecells⟩ : ∃ z : Nat, z = 0 := ⟨_, rfl⟩
  obtain ⟨slots, eslots⟩ : ∃ z : Nat, z = 0 := ⟨_, rfl⟩
  obtain ⟨kc, ekc⟩ : ∃ z : Nat, z = KC := ⟨_, rfl⟩
  obtain ⟨ks, eks⟩ : ∃ z : Nat, z = KS := ⟨_, rfl⟩
  have hkc : cells + kc ≤ KC := by omega
  have hks : slots + ks ≤ KS := by omega
  replace hF := kcks_of hF ekc eks
  suffices hgo : W p l e (headSpec (wxX yX10_openHere cX10_openHere 1 none) ({ frames := 9, cells := KC, slots := KS, locals := 213 } : Room)).room s m ([.ref (ad (0))] : List Value).toArray below meth c s.heap [] cells slots (vx_MQ below (QXv g ad (AC ad rd0 s.heap.size) r fi' ar' ln') (XX g ad (AC ad rd0 s.heap.size) r fi' ar' ln') ([.ref (ad (0))] : List Value).toArray s KC KS (AC ad rd0 s.heap.size)) (F0 m 0 ls []) by rw [ecells, eslots] at hgo; exact hgo
  obtain ⟨rd, erd⟩ : ∃ z : Nat → Nat, z = rd0 := ⟨_, rfl⟩
  have hP : va_P (gD g) vwCl (WC g ad rd ln fi ar) s.heap := by rw [erd]; exact hP
  have hD : ∀ (ln : LN) (fi : FI) (ar : AR), va_D (AC ad rd0 s.heap.size) (WC g ad rd ln fi ar) := by rw [erd]; exact hD
  clear erd
  refine lv_aload_n hx hb dX10_openHere_0 rfl (lv_at hl 0 rfl) ?_
  refine cg_X10_knownFault hx hb hT hown hK hP mw3_7 dX10_openHere_1 ?_
  refine lv_iconst (v := (-1 : Int32)) hx hb dX10_openHere_4 (by decide) ?_
  refine lv_icmp_ne (tgt := 19) hx hb dX10_openHere_5 (by decide) (fun hc13 => ?_) (fun hc13 => ?_)
  · replace hF := br_no hF hc13
    exact J19  _ _ _ _ _ _ _ _ _ _ _ hF hkc hks (lv_sub hl [0] rfl) hP hD hS
  · replace hF := br_yes hF hc13
    refine lv_aload_n hx hb dX10_openHere_8 rfl (lv_at hl 0 rfl) ?_
    refine lv_aload_n hx hb dX10_openHere_9 rfl (lv_at hl 0 rfl) ?_
    refine cg_X10_checker hx hb hT hown hK hP mw2_15 dX10_openHere_10 ?_
    replace hF := obnd6_of hF
    obtain ⟨r18, fi15, ar16, ln17, kc19, ks20, h14, hF⟩ := hF
    replace hF := addc_of hF
    obtain ⟨kc21, ks22, e23c, e23s, hF⟩ := hF
    refine cA_i (As := []) (rest := [.ref (ad (0))]) hx hb hml hT hown hK hE hD hA hP hS (rcv_X0 hK hP) (kX0_firstFault l g ad rd _ nf fi ar ln r18 fi15 ar16 ln17 kc19 ks20 h14) cw_X0_firstFault mw21_15 ⟨⟨rfl, rfl⟩, Nat.le_of_ble_eq_true rfl, Nat.le_of_ble_eq_true rfl⟩ rfl hl.1 rfl (Nat.le_of_ble_eq_true rfl) dX10_openHere_13 ⟨by show _ ≤ KC; omega, by show _ ≤ KS; omega⟩ (fun rd H locs hP hD hS => ?_)
    replace hkc : cells + kc19 + kc21 ≤ KC := by omega
    replace hks : slots + ks20 + ks22 ≤ KS := by omega
    obtain ⟨fi24, efi24⟩ : ∃ y : FI, y = va_up fi15 (1) (r18) := ⟨_, rfl⟩
    replace hF := bnd_of hF efi24
    refine cp_X10_knownFault hx hb hT hown hK hP (hD _) hS mw3_7 dX10_openHere_16 (fun H locs hP hS => ?_)
    rw [← efi24] at hP
    exact J19  _ _ _ _ _ _ _ _ _ _ _ hF hkc hks (lv_sub hl [0] rfl) hP hD hS
theorem cw_X10_openHere : (Cond.instanceMethod yX10_openHere ∈ TB ∧ Cond.selects RX10 yX10_openHere yX10_openHere ∈ TB ∧ Cond.code yX10_openHere cX10_openHere 1 none ∈ TB ∧ Cond.initialized RX10 ∈ TB) ∧ (yX10_openHere.cls = RX10 ∧ yX10_openHere.cls ≠ "java/lang/invoke/MethodHandle" ∧ yX10_openHere.cls ≠ "java/lang/invoke/VarHandle" ∧ (parseMethodDescriptor yX10_openHere.desc).map (fun d => d.parameters.length) = some 0) := ⟨⟨mw37_17, mw37_18, mw37_19, mw1_2⟩, by decide +kernel⟩
/-! X10_itemAt -/
noncomputable def FX10_itemAt_15 (nf : Nat)  (fi : FI) (ar : AR) (ln : LN) : Option ((Int32 ⊕ Nat) × FI × AR × LN × Nat × Nat) :=
  some (Sum.inr 1, fi, ar, ln, 1, 6)
noncomputable def FX10_itemAt (nf : Nat) (fi : FI) (ar : AR) (ln : LN) (x1 : Int32) : Option ((Int32 ⊕ Nat) × FI × AR × LN × Nat × Nat) :=
  br ((x1) < 0) (FX10_itemAt_15 nf  fi ar ln) (br ((x1) < (fi (20 + 10 * 0))) (obnd3 (FX2_slotOf nf ln 0 fi ar (x1)) fun r6 fi4 ar5 => obnd3 (FX2_slotAddress nf ln 0 fi4 ar5 (r6)) fun r10 fi8 ar9 => some (Sum.inl (r10), fi8, ar9, ln, 0, 0)) (FX10_itemAt_15 nf  fi ar ln))
set_option maxHeartbeats 8000000 in
set_option maxRecDepth 100000 in
theorem kX10_itemAt (l : Launch) (g : GT) (ad rd0 : Nat → Nat) (sz : Nat) (nf : Nat) (hlt : l.stackTraces = false) (fi : FI) (ar : AR) (ln : LN) (p1 : Int32) (r : (Int32 ⊕ Nat)) (fi' : FI) (ar' : AR) (ln' : LN) (KC KS : Nat) (hF : FX10_itemAt nf fi ar ln p1 = some (r, fi', ar', ln', KC, KS)) : vx_Met l yX10_itemAt (wxX yX10_itemAt cX10_itemAt 2 (some .int)) ({ frames := 6, cells := KC, slots := KS, locals := 82 } : Room) (va_Pc [.ref (ad (0)), .int p1] (PX g ad rd0 ln sz fi ar)) (QXi g ad (AC ad rd0 sz) r fi' ar' ln') (XX g ad (AC ad rd0 sz) r fi' ar' ln') KC KS (AC ad rd0 sz) := by
  refine vx_ofW (cc := cX10_itemAt) (maxL := 2) (ret := (some .int)) (by decide) rfl ?_
  intro p e s m args below meth c s₁ B hml hout hv
  obtain ⟨rfl, ⟨hsz, hP, hK, hD0, hE⟩, hEX⟩ := hv
  have hx := B.exec
  have hb := B.bytes
  have hr := B.returns
  have hts := atoms_spec (ws := (wxX yX10_itemAt cX10_itemAt 2 (some .int))) B.pre
  have hTX : ∀ w ∈ TBX, w.before _ s = true := fun w h => hts w (List.mem_cons_of_mem _ h)
  have hT : ∀ w ∈ TB, w.before _ s = true := fun w h => hTX w (tbx0 w h)
  have hown : s.vm.findClass RX10 = some m.cls := findClass_of_methodNamed B.named
  have hlocks := B.notSynchronized
  subst hsz
  have hD : ∀ (ln : LN) (fi : FI) (ar : AR), va_D (AC ad rd0 s.heap.size) (WC g ad rd0 ln fi ar) := dCre (dC hD0 s.heap.size fi ar) (fun _ h => h)
  have hA : ∀ q : Nat, s.heap.size ≤ q → AC ad rd0 s.heap.size q := fun q h => Or.inr h
  have hS : va_S (AC ad rd0 s.heap.size) s.heap s.heap [] := va_S.rf
  have hl := lv_entry ([.ref (ad (0)), .int p1]) (n := 2) (Nat.le_of_ble_eq_true rfl)
  rw [lg_entry_eq]
  generalize (lg_sl ([.ref (ad (0)), .int p1]) ++ List.replicate (2 - (lg_sl ([.ref (ad (0)), .int p1])).length) Slot.unset).toArray = ls at hl ⊢
  have hl : lv_has ls 2 [(0, .ref (ad (0))), (1, .int p1)] := hl
  unfold FX10_itemAt at hF
  have J15 : ∀  (fi : FI) (ar : AR) (ln : LN) (kc ks cells slots : Nat) (rd : Nat → Nat) (H : Heap) (locs : List Loc) (ls : Array Slot), FX10_itemAt_15 nf fi ar ln = some (r, fi', ar', ln', kc, ks) → cells + kc ≤ KC → slots + ks ≤ KS → lv_has ls 2 [(0, .ref (ad (0)))] → va_P (gD g) vwCl (WC g ad rd ln fi ar) H → (∀ (ln : LN) (fi : FI) (ar : AR), va_D (AC ad rd0 s.heap.size) (WC g ad rd ln fi ar)) → va_S (AC ad rd0 s.heap.size) s.heap H locs → W p l e (headSpec (wxX yX10_itemAt cX10_itemAt 2 (some .int)) ({ frames := 6, cells := KC, slots := KS, locals := 82 } : Room)).room s m ([.ref (ad (0)), .int p1] : List Value).toArray below meth c H locs cells slots (vx_MQ below (QXi g ad (AC ad rd0 s.heap.size) r fi' ar' ln') (XX g ad (AC ad rd0 s.heap.size) r fi' ar' ln') ([.ref (ad (0)), .int p1] : List Value).toArray s KC KS (AC ad rd0 s.heap.size)) (F0 m 15 ls []) := by
    intro fi ar ln kc ks cells slots rd H locs ls hF hkc hks hl hP hD hS
    unfold FX10_itemAt_15 at hF
    obtain ⟨sa, hsa⟩ := hEX.1.2.2.2.2.1
    obtain ⟨hq1, hq2⟩ := cost_of hF
    refine vx_throwSW (cls := "java/lang/IndexOutOfBoundsException") (names := ["java/lang/RuntimeException", "java/lang/Exception"]) (sa := sa) (A := AC ad rd0 s.heap.size) hx hb hlt hown (by decide) (by decide) (hT _ mw39_10) (hT _ mw39_11) hsa (vx_hat (fun w h => hTX w (tbx2 w h)) (by rw [vxb_1]; exact fun _ h => h) (vx_c (va_tabs rfl rfl hEX.2.2.2.2.2.1) (vx_c (va_tabs rfl rfl hEX.2.2.2.2.2.2.1) (vx_c (va_tabs rfl rfl hEX.2.2.2.2.2.2.2) (vx_c (va_tabs rfl rfl hEX.2.2.1) vx_n))))) vxg_1 hEX.1.1 hEX.1.2.1 hS (by rw [hml]; exact hl.1) dX10_itemAt_15 dX10_itemAt_18 dX10_itemAt_19 dX10_itemAt_22 dX10_itemAt_25 (fun x hx => (hout x hx).elim) (Nat.le_of_ble_eq_true rfl) (Nat.le_of_ble_eq_true rfl) (by show _ ≤ KC; omega) (by show _ ≤ KS; omega) hlocks (fun t _ hz hk => ?_) hS.2.2 (by omega) (by omega)
    exact xx_of (k := 1) hF (hP.kept (fun k q h => hk q.1 (hP k q h).lt)) hD ⟨Nat.le_trans hS.1 hz, fun q h1 h2 => by rw [hk q (Nat.lt_of_lt_of_le h1 hS.1)]; exact hS.2.1 q h1 h2⟩
  replace hl := lv_sub hl [0, 1] rfl
  obtain ⟨cells, ecells⟩ : ∃ z : Nat, z = 0 := ⟨_, rfl⟩
  obtain ⟨slots, eslots⟩ : ∃ z : Nat, z = 0 := ⟨_, rfl⟩
  obtain ⟨kc, ekc⟩ : ∃ z : Nat, z = KC := ⟨_, rfl⟩
  obtain ⟨ks, eks⟩ : ∃ z : Nat, z = KS := ⟨_, rfl⟩
  have hkc : cells + kc ≤ KC := by omega
  have hks : slots + ks ≤ KS := by omega
  replace hF := kcks_of hF ekc eks
  suffices hgo : W p l e (headSpec (wxX yX10_itemAt cX10_itemAt 2 (some .int)) ({ frames := 6, cells := KC, slots := KS, locals := 82 } : Room)).room s m ([.ref (ad (0)), .int p1] : List Value).toArray below meth c s.heap [] cells slots (vx_MQ below (QXi g ad (AC ad rd0 s.heap.size) r fi' ar' ln') (XX g ad (AC ad rd0 s.heap.size) r fi' ar' ln') ([.ref (ad (0)), .int p1] : List Value).toArray s KC KS (AC ad rd0 s.heap.size)) (F0 m 0 ls []) by rw [ecells, eslots] at hgo; exact hgo
  obtain ⟨rd, erd⟩ : ∃ z : Nat → Nat, z = rd0 := ⟨_, rfl⟩
  have hP : va_P (gD g) vwCl (WC g ad rd ln fi ar) s.heap := by rw [erd]; exact hP
  have hD : ∀ (ln : LN) (fi : FI) (ar : AR), va_D (AC ad rd0 s.heap.size) (WC g ad rd ln fi ar) := by rw [erd]; exact hD
  clear erd
  refine lv_iload_n hx hb dX10_itemAt_0 rfl (lv_at hl 1 rfl) ?_
  refine lv_if_lt (tgt := 15) hx hb dX10_itemAt_1 (by decide) (fun hc1 => ?_) (fun hc1 => ?_)
  · replace hF := br_yes hF hc1
    exact J15  _ _ _ _ _ _ _ _ _ _ _ hF hkc hks (lv_sub hl [0] rfl) hP hD hS
  · replace hF := br_no hF hc1
    refine lv_iload_n hx hb dX10_itemAt_4 rfl (lv_at hl 1 rfl) ?_
    refine lv_aload_n hx hb dX10_itemAt_5 rfl (lv_at hl 0 rfl) ?_
    refine cg_X10_here hx hb hT hown hK hP mw2_19 dX10_itemAt_6 ?_
    refine cg_X2_count (by decide) hx hb hT hown hK hP mw37_15 dX10_itemAt_9 ?_
    refine lv_icmp_lt (tgt := 26) hx hb dX10_itemAt_12 (by decide) (fun hc2 => ?_) (fun hc2 => ?_)
    · replace hF := br_yes hF hc2
      refine lv_aload_n hx hb dX10_itemAt_26 rfl (lv_at hl 0 rfl) ?_
      refine cg_X10_here hx hb hT hown hK hP mw2_19 dX10_itemAt_27 ?_
      refine lv_aload_n hx hb dX10_itemAt_30 rfl (lv_at hl 0 rfl) ?_
      refine cg_X10_here hx hb hT hown hK hP mw2_19 dX10_itemAt_31 ?_
      refine lv_iload_n hx hb dX10_itemAt_34 rfl (lv_at hl 1 rfl) ?_
      replace hF := obnd3_of hF
      obtain ⟨r6, fi4, ar5, h3, hF⟩ := hF
      refine cC_i (As := [.int (p1)]) (rest := [.ref (ad (11 + 5 * 0))]) hx hb hml hT hown hK hE (hD _) hA hP hS (rcv_X2 (by decide) hK hP) (kX2_slotOf l g ad rd _ nf ln 0 (by decide) fi ar (p1) r6 fi4 ar5 h3) cw_X2_slotOf mw39_12 ⟨⟨rfl, rfl⟩, Nat.le_of_ble_eq_true rfl, Nat.le_of_ble_eq_true rfl⟩ rfl hl.1 rfl (Nat.le_of_ble_eq_true rfl) dX10_itemAt_35 ⟨by show _ ≤ KC; omega, by show _ ≤ KS; omega⟩ (fun H locs hP hS => ?_)
      replace hF := obnd3_of hF
      obtain ⟨r10, fi8, ar9, h7, hF⟩ := hF
      refine cC_i (As := [.int (r6)]) (rest := []) hx hb hml hT hown hK hE (hD _) hA hP hS (rcv_X2 (by decide) hK hP) (kX2_slotAddress l g ad rd _ nf ln 0 (by decide) fi4 ar5 (r6) r10 fi8 ar9 h7) cw_X2_slotAddress mw39_13 ⟨⟨rfl, rfl⟩, Nat.le_of_ble_eq_true rfl, Nat.le_of_ble_eq_true rfl⟩ rfl hl.1 rfl (Nat.le_of_ble_eq_true rfl) dX10_itemAt_38 ⟨by show _ ≤ KC; omega, by show _ ≤ KS; omega⟩ (fun H locs hP hS => ?_)
      refine W.widen (k := KC) (n := KS) (by omega) (by omega) ?_
      exact rX_i hx hb hr hlocks hF hP hD hS dX10_itemAt_41
    · replace hF := br_no hF hc2
      exact J15  _ _ _ _ _ _ _ _ _ _ _ hF hkc hks (lv_sub hl [0] rfl) hP hD hS
theorem cw_X10_itemAt : (Cond.instanceMethod yX10_itemAt ∈ TB ∧ Cond.selects RX10 yX10_itemAt yX10_itemAt ∈ TB ∧ Cond.code yX10_itemAt cX10_itemAt 2 (some .int) ∈ TB ∧ Cond.initialized RX10 ∈ TB) ∧ (yX10_itemAt.cls = RX10 ∧ yX10_itemAt.cls ≠ "java/lang/invoke/MethodHandle" ∧ yX10_itemAt.cls ≠ "java/lang/invoke/VarHandle" ∧ (parseMethodDescriptor yX10_itemAt.desc).map (fun d => d.parameters.length) = some 1) := ⟨⟨mw39_7, mw39_8, mw39_9, mw1_2⟩, by decide +kernel⟩
/-! X10_fileAt -/
noncomputable def FX10_fileAt (nf : Nat) (fi : FI) (ar : AR) (ln : LN) (x1 : Int32) : Option ((Int32 ⊕ Nat) × FI × AR × LN × Nat × Nat) :=
  obnd6 (FX10_itemAt nf fi ar ln (x1)) fun r5 fi2 ar3 ln4 kc7 ks8 => addc (kc7) (ks8) (sumc r5 (fun v6 => obnd3 (FX10_isDirectory nf ln4 fi2 ar3 (v6)) fun r16 fi14 ar15 => br ((r16) = 0) (some (Sum.inl (v6), fi14, ar15, ln4, 0, 0)) (some (Sum.inr 2, fi14, ar15, ln4, 1, 6))) (fun k9 => some (Sum.inr k9, fi2, ar3, ln4, 0, 0)))
set_option maxHeartbeats 8000000 in
set_option maxRecDepth 100000 in
theorem kX10_fileAt (l : Launch) (g : GT) (ad rd0 : Nat → Nat) (sz : Nat) (nf : Nat) (hlt : l.stackTraces = false) (fi : FI) (ar : AR) (ln : LN) (p1 : Int32) (r : (Int32 ⊕ Nat)) (fi' : FI) (ar' : AR) (ln' : LN) (KC KS : Nat) (hF : FX10_fileAt nf fi ar ln p1 = some (r, fi', ar', ln', KC, KS)) : vx_Met l yX10_fileAt (wxX yX10_fileAt cX10_fileAt 3 (some .int)) ({ frames := 7, cells := KC, slots := KS, locals := 103 } : Room) (va_Pc [.ref (ad (0)), .int p1] (PX g ad rd0 ln sz fi ar)) (QXi g ad (AC ad rd0 sz) r fi' ar' ln') (XX g ad (AC ad rd0 sz) r fi' ar' ln') KC KS (AC ad rd0 sz) := by
  refine vx_ofW (cc := cX10_fileAt) (maxL := 3) (ret := (some .int)) (by decide) rfl ?_
  intro p e s m args below meth c s₁ B hml hout hv
  obtain ⟨rfl, ⟨hsz, hP, hK, hD0, hE⟩, hEX⟩ := hv
  have hx := B.exec
  have hb := B.bytes
  have hr := B.returns
  have hts := atoms_spec (ws := (wxX yX10_fileAt cX10_fileAt 3 (some .int))) B.pre
  have hTX : ∀ w ∈ TBX, w.before _ s = true := fun w h => hts w (List.mem_cons_of_mem _ h)
  have hT : ∀ w ∈ TB, w.before _ s = true := fun w h => hTX w (tbx0 w h)
  have hown : s.vm.findClass RX10 = some m.cls := findClass_of_methodNamed B.named
  have hlocks := B.notSynchronized
  subst hsz
  have hD : ∀ (ln : LN) (fi : FI) (ar : AR), va_D (AC ad rd0 s.heap.size) (WC g ad rd0 ln fi ar) := dCre (dC hD0 s.heap.size fi ar) (fun _ h => h)
  have hA : ∀ q : Nat, s.heap.size ≤ q → AC ad rd0 s.heap.size q := fun q h => Or.inr h
  have hS : va_S (AC ad rd0 s.heap.size) s.heap s.heap [] := va_S.rf
  have hl := lv_entry ([.ref (ad (0)), .int p1]) (n := 3) (Nat.le_of_ble_eq_true rfl)
  rw [lg_entry_eq]
  generalize (lg_sl ([.ref (ad (0)), .int p1]) ++ List.replicate (3 - (lg_sl ([.ref (ad (0)), .int p1])).length) Slot.unset).toArray = ls at hl ⊢
  have hl : lv_has ls 3 [(0, .ref (ad (0))), (1, .int p1)] := hl
  unfold FX10_fileAt at hF
  replace hl := lv_sub hl [0, 1] rfl
  obtain ⟨cells, ecells⟩ : ∃ z : Nat, z = 0 := ⟨_, rfl⟩
  obtain ⟨slots, eslots⟩ : ∃ z : Nat, z = 0 := ⟨_, rfl⟩
  obtain ⟨kc, ekc⟩ : ∃ z : Nat, z = KC := ⟨_, rfl⟩
  obtain ⟨ks, eks⟩ : ∃ z : Nat, z = KS := ⟨_, rfl⟩
  have hkc : cells + kc ≤ KC := by omega
  have hks : slots + ks ≤ KS := by omega
  replace hF := kcks_of hF ekc eks
  suffices hgo : W p l e (headSpec (wxX yX10_fileAt cX10_fileAt 3 (some .int)) ({ frames := 7, cells := KC, slots := KS, locals := 103 } : Room)).room s m ([.ref (ad (0)), .int p1] : List Value).toArray below meth c s.heap [] cells slots (vx_MQ below (QXi g ad (AC ad rd0 s.heap.size) r fi' ar' ln') (XX g ad (AC ad rd0 s.heap.size) r fi' ar' ln') ([.ref (ad (0)), .int p1] : List Value).toArray s KC KS (AC ad rd0 s.heap.size)) (F0 m 0 ls []) by rw [ecells, eslots] at hgo; exact hgo
  obtain ⟨rd, erd⟩ : ∃ z : Nat → Nat, z = rd0 := ⟨_, rfl⟩
  have hP : va_P (gD g) vwCl (WC g ad rd ln fi ar) s.heap := by rw [erd]; exact hP
  have hD : ∀ (ln : LN) (fi : FI) (ar : AR), va_D (AC ad rd0 s.heap.size) (WC g ad rd ln fi ar) := by rw [erd]; exact hD
  clear erd
  refine lv_aload_n hx hb dX10_fileAt_0 rfl (lv_at hl 0 rfl) ?_
  refine lv_iload_n hx hb dX10_fileAt_1 rfl (lv_at hl 1 rfl) ?_
  replace hF := obnd6_of hF
  obtain ⟨r5, fi2, ar3, ln4, kc7, ks8, h1, hF⟩ := hF
  replace hF := addc_of hF
  obtain ⟨kc10, ks11, e12c, e12s, hF⟩ := hF
  rcases r5 with v6 | k9
  rotate_left
  · replace hF := sumc_r hF
    exact cX_it (As := [.int (p1)]) (rest := []) hx hb hml hTX hown hK hE hEX hD hA hP hS (rcv_X10 hK hP) (kX10_itemAt l g ad rd _ nf hlt fi ar ln (p1) (Sum.inr k9) fi2 ar3 ln4 kc7 ks8 h1) cw_X10_itemAt mw39_6 ⟨⟨rfl, rfl⟩, Nat.le_of_ble_eq_true rfl, Nat.le_of_ble_eq_true rfl⟩ rfl hl.1 rfl (Nat.le_of_ble_eq_true rfl) dX10_fileAt_2 ⟨by show _ ≤ KC; omega, by show _ ≤ KS; omega⟩ ⟨hout, hlocks, by omega, by omega, fun rd H locs t ht hP hD hS => xx_of hF (by rw [ht]; exact hP) hD (hS.F ht)⟩
  replace hF := sumc_l hF
  refine cX_i (As := [.int (p1)]) (rest := []) hx hb hml hTX hown hK hE hEX hD hA hP hS (rcv_X10 hK hP) (kX10_itemAt l g ad rd _ nf hlt fi ar ln (p1) (Sum.inl v6) fi2 ar3 ln4 kc7 ks8 h1) cw_X10_itemAt mw39_6 ⟨⟨rfl, rfl⟩, Nat.le_of_ble_eq_true rfl, Nat.le_of_ble_eq_true rfl⟩ rfl hl.1 rfl (Nat.le_of_ble_eq_true rfl) dX10_fileAt_2 ⟨by show _ ≤ KC; omega, by show _ ≤ KS; omega⟩ (fun rd H locs hP hD hS => ?_)
  replace hkc : cells + kc7 + kc10 ≤ KC := by omega
  replace hks : slots + ks8 + ks11 ≤ KS := by omega
  refine lv_istore_n (lv' := [(2, .int (v6)), (0, .ref (ad (0))), (1, .int (p1))]) hx hb dX10_fileAt_5 rfl hl (by decide) rfl (fun ls hl => ?_)
  refine lv_aload_n hx hb dX10_fileAt_6 rfl (lv_at hl 1 rfl) ?_
  refine lv_iload_n hx hb dX10_fileAt_7 rfl (lv_at hl 0 rfl) ?_
  replace hF := obnd3_of hF
  obtain ⟨r16, fi14, ar15, h13, hF⟩ := hF
  refine cC_i (As := [.int (v6)]) (rest := []) hx hb hml hT hown hK hE (hD _) hA hP hS (rcv_X10 hK hP) (kX10_isDirectory l g ad rd _ nf ln4 fi2 ar3 (v6) r16 fi14 ar15 h13) cw_X10_isDirectory mw41_1 ⟨⟨rfl, rfl⟩, Nat.le_of_ble_eq_true rfl, Nat.le_of_ble_eq_true rfl⟩ rfl hl.1 rfl (Nat.le_of_ble_eq_true rfl) dX10_fileAt_8 ⟨by show _ ≤ KC; omega, by show _ ≤ KS; omega⟩ (fun H locs hP hS => ?_)
  refine lv_if_eq (tgt := 25) hx hb dX10_fileAt_11 (by decide) (fun hc17 => ?_) (fun hc17 => ?_)
  · replace hF := br_yes hF hc17
    refine lv_iload_n hx hb dX10_fileAt_25 rfl (lv_at hl 0 rfl) ?_
    refine W.widen (k := KC) (n := KS) (by omega) (by omega) ?_
    exact rX_i hx hb hr hlocks hF hP hD hS dX10_fileAt_26
  · replace hF := br_no hF hc17
    obtain ⟨sa, hsa⟩ := hEX.1.2.2.2.2.2.2.2.2.2.2.1
    obtain ⟨hq1, hq2⟩ := cost_of hF
    refine vx_throwSW (cls := "java/lang/IllegalArgumentException") (names := ["java/lang/RuntimeException", "java/lang/Exception"]) (sa := sa) (A := AC ad rd0 s.heap.size) hx hb hlt hown (by decide) (by decide) (hT _ mw9_3) (hT _ mw9_4) hsa (vx_hat (fun w h => hTX w (tbx3 w h)) (by rw [vxb_2]; exact fun _ h => h) (vx_c (va_tabs rfl rfl hEX.2.2.2.2.2.1) (vx_c (va_tabs rfl rfl hEX.2.2.2.2.2.2.1) (vx_c (va_tabs rfl rfl hEX.2.2.2.2.2.2.2) (vx_c (va_tabs rfl rfl hEX.2.2.2.1) vx_n))))) vxg_2 hEX.1.1 hEX.1.2.1 hS (by rw [hml]; exact hl.1) dX10_fileAt_14 dX10_fileAt_17 dX10_fileAt_18 dX10_fileAt_21 dX10_fileAt_24 (fun x hx => (hout x hx).elim) (Nat.le_of_ble_eq_true rfl) (Nat.le_of_ble_eq_true rfl) (by show _ ≤ KC; omega) (by show _ ≤ KS; omega) hlocks (fun t _ hz hk => ?_) hS.2.2 (by omega) (by omega)
    exact xx_of (k := 2) hF (hP.kept (fun k q h => hk q.1 (hP k q h).lt)) hD ⟨Nat.le_trans hS.1 hz, fun q h1 h2 => by rw [hk q (Nat.lt_of_lt_of_le h1 hS.1)]; exact hS.2.1 q h1 h2⟩
theorem cw_X10_fileAt : (Cond.instanceMethod yX10_fileAt ∈ TB ∧ Cond.selects RX10 yX10_fileAt yX10_fileAt ∈ TB ∧ Cond.code yX10_fileAt cX10_fileAt 3 (some .int) ∈ TB ∧ Cond.initialized RX10 ∈ TB) ∧ (yX10_fileAt.cls = RX10 ∧ yX10_fileAt.cls ≠ "java/lang/invoke/MethodHandle" ∧ yX10_fileAt.cls ≠ "java/lang/invoke/VarHandle" ∧ (parseMethodDescriptor yX10_fileAt.desc).map (fun d => d.parameters.length) = some 1) := ⟨⟨mw50_22, mw50_23, mw51_0, mw1_2⟩, by decide +kernel⟩
/-! X10_makeRoom -/
noncomputable def FX10_makeRoom_120 (K75 : Int32 → Int32 → Int32 → Int32 → FI → AR → LN → Option ((Unit ⊕ Nat) × FI × AR × LN × Nat × Nat)) (nf : Nat) (x1 : Int32) (x4 : Int32) (x6 : Int32) (x7 : Int32) (fi : FI) (ar : AR) (ln : LN) : Option ((Unit ⊕ Nat) × FI × AR × LN × Nat × Nat) :=
  bnd ((x6) + (1 : Int32)) fun x6_1 => K75 (x1) (x4) (x7) (x6_1) fi ar ln
noncomputable def FX10_makeRoom_75b (K75 : Int32 → Int32 → Int32 → Int32 → FI → AR → LN → Option ((Unit ⊕ Nat) × FI × AR × LN × Nat × Nat)) (nf : Nat) (x1 : Int32) (x4 : Int32) (x5 : Int32) (x6 : Int32) (fi : FI) (ar : AR) (ln : LN) : Option ((Unit ⊕ Nat) × FI × AR × LN × Nat × Nat) :=
  br ((x4) ≤ (x6)) (some (Sum.inl (), fi, ar, ln, 0, 0)) (obnd3 (FX9_claimLowest nf ln fi ar) fun r6 fi4 ar5 => br ((x5) = 0) (obnd3 (FX3_putFirstCluster nf ln fi4 ar5 (x1) (r6)) fun r15 fi13 ar14 => FX10_makeRoom_120 K75 nf  (x1) (x4) (x6) (r6) fi13 ar14 ln) (obnd3 (FX9_link nf ln fi4 ar5 (x5) (r6)) fun r11 fi9 ar10 => FX10_makeRoom_120 K75 nf  (x1) (x4) (x6) (r6) fi9 ar10 ln))
noncomputable def FX10_makeRoom_75 (nf : Nat) (kf : Nat) : Int32 → Int32 → Int32 → Int32 → FI → AR → LN → Option ((Unit ⊕ Nat) × FI × AR × LN × Nat × Nat) := Nat.rec (fun _ _ _ _ _ _ _ => none) (fun _ K75 => FX10_makeRoom_75b K75 nf) kf
noncomputable def FX10_makeRoom (nf : Nat) (fi : FI) (ar : AR) (ln : LN) (x1 : Int32) (x2 : Int32) : Option ((Unit ⊕ Nat) × FI × AR × LN × Nat × Nat) :=
  obnd3 (FX3_four nf ln fi ar ((x1) + (28 : Int32))) fun r19 fi17 ar18 => obnd3 (FX9_clustersFor nf ln fi17 ar18 ((r19) + (x2))) fun r23 fi21 ar22 => obnd3 (FX9_clustersFor nf ln fi21 ar22 (r19)) fun r27 fi25 ar26 => bnd ((r23) - (r27)) fun x4_28 => obnd3 (FX9_freeClusters nf ln fi25 ar26) fun r32 fi30 ar31 => br ((x4_28) ≤ (r32)) (obnd3 (FX3_firstCluster nf ln fi30 ar31 (x1)) fun r37 fi35 ar36 => obnd3 (FX9_last nf ln fi35 ar36 (r37)) fun r41 fi39 ar40 => FX10_makeRoom_75 nf nf (x1) (x4_28) (r41) (0 : Int32) fi39 ar40 ln) (some (Sum.inr 3, fi30, ar31, ln, 1, 6))
set_option maxHeartbeats 8000000 in
set_option maxRecDepth 100000 in
theorem kX10_makeRoom (l : Launch) (g : GT) (ad rd0 : Nat → Nat) (sz : Nat) (nf : Nat) (hlt : l.stackTraces = false) (fi : FI) (ar : AR) (ln : LN) (p1 : Int32) (p2 : Int32) (r : (Unit ⊕ Nat)) (fi' : FI) (ar' : AR) (ln' : LN) (KC KS : Nat) (hF : FX10_makeRoom nf fi ar ln p1 p2 = some (r, fi', ar', ln', KC, KS)) : vx_Met l yX10_makeRoom (wxX yX10_makeRoom cX10_makeRoom 8 none) ({ frames := 6, cells := KC, slots := KS, locals := 115 } : Room) (va_Pc [.ref (ad (0)), .int p1, .int p2] (PX g ad rd0 ln sz fi ar)) (QXv g ad (AC ad rd0 sz) r fi' ar' ln') (XX g ad (AC ad rd0 sz) r fi' ar' ln') KC KS (AC ad rd0 sz) := by
  refine vx_ofW (cc := cX10_makeRoom) (maxL := 8) (ret := none) (by decide) rfl ?_
  intro p e s m args below meth c s₁ B hml hout hv
  obtain ⟨rfl, ⟨hsz, hP, hK, hD0, hE⟩, hEX⟩ := hv
  have hx := B.exec
  have hb := B.bytes
  have hr := B.returns
  have hts := atoms_spec (ws := (wxX yX10_makeRoom cX10_makeRoom 8 none)) B.pre
  have hTX : ∀ w ∈ TBX, w.before _ s = true := fun w h => hts w (List.mem_cons_of_mem _ h)
  have hT : ∀ w ∈ TB, w.before _ s = true := fun w h => hTX w (tbx0 w h)
  have hown : s.vm.findClass RX10 = some m.cls := findClass_of_methodNamed B.named
  have hlocks := B.notSynchronized
  subst hsz
  have hD : ∀ (ln : LN) (fi : FI) (ar : AR), va_D (AC ad rd0 s.heap.size) (WC g ad rd0 ln fi ar) := dCre (dC hD0 s.heap.size fi ar) (fun _ h => h)
  have hA : ∀ q : Nat, s.heap.size ≤ q → AC ad rd0 s.heap.size q := fun q h => Or.inr h
  have hS : va_S (AC ad rd0 s.heap.size) s.heap s.heap [] := va_S.rf
  have hl := lv_entry ([.ref (ad (0)), .int p1, .int p2]) (n := 8) (Nat.le_of_ble_eq_true rfl)
  rw [lg_entry_eq]
  generalize (lg_sl ([.ref (ad (0)), .int p1, .int p2]) ++ List.replicate (8 - (lg_sl ([.ref (ad (0)), .int p1, .int p2])).length) Slot.unset).toArray = ls at hl ⊢
  have hl : lv_has ls 8 [(0, .ref (ad (0))), (1, .int p1), (2, .int p2)] := hl
  unfold FX10_makeRoom at hF
  have L75 : ∀ kf : Nat, ∀ (x1 : Int32) (x4 : Int32) (x5 : Int32) (x6 : Int32) (fi : FI) (ar : AR) (ln : LN) (kc ks cells slots : Nat) (rd : Nat → Nat) (H : Heap) (locs : List Loc) (ls : Array Slot), FX10_makeRoom_75 nf kf x1 x4 x5 x6 fi ar ln = some (r, fi', ar', ln', kc, ks) → cells + kc ≤ KC → slots + ks ≤ KS → lv_has ls 8 [(0, .ref (ad (0))), (1, .int x1), (4, .int x4), (5, .int x5), (6, .int x6)] → va_P (gD g) vwCl (WC g ad rd ln fi ar) H → (∀ (ln : LN) (fi : FI) (ar : AR), va_D (AC ad rd0 s.heap.size) (WC g ad rd ln fi ar)) → va_S (AC ad rd0 s.heap.size) s.heap H locs → W p l e (headSpec (wxX yX10_makeRoom cX10_makeRoom 8 none) ({ frames := 6, cells := KC, slots := KS, locals := 115 } : Room)).room s m ([.ref (ad (0)), .int p1, .int p2] : List Value).toArray below meth c H locs cells slots (vx_MQ below (QXv g ad (AC ad rd0 s.heap.size) r fi' ar' ln') (XX g ad (AC ad rd0 s.heap.size) r fi' ar' ln') ([.ref (ad (0)), .int p1, .int p2] : List Value).toArray s KC KS (AC ad rd0 s.heap.size)) (F0 m 75 ls []) := by
    intro kf
    induction kf with
    | zero => intro x1 x4 x5 x6 fi ar ln kc ks cells slots rd H locs ls hF hkc hks hl hP hD hS; cases (show (none : Option ((Unit ⊕ Nat) × FI × AR × LN × Nat × Nat)) = _ from hF)
    | succ kf ih75 =>
      intro x1 x4 x5 x6 fi ar ln kc ks cells slots rd H locs ls hF hkc hks hl hP hD hS
      obtain ⟨K75, hK75⟩ : ∃ K : Int32 → Int32 → Int32 → Int32 → FI → AR → LN → Option ((Unit ⊕ Nat) × FI × AR × LN × Nat × Nat), K = FX10_makeRoom_75 nf kf := ⟨_, rfl⟩
      replace hF : FX10_makeRoom_75b K75 nf x1 x4 x5 x6 fi ar ln = some (r, fi', ar', ln', kc, ks) := by rw [hK75]; exact hF
      rw [← hK75] at ih75
      clear hK75
      have J120 : ∀ (x1 : Int32) (x4 : Int32) (x6 : Int32) (x7 : Int32) (fi : FI) (ar : AR) (ln : LN) (kc ks cells slots : Nat) (rd : Nat → Nat) (H : Heap) (locs : List Loc) (ls : Array Slot), FX10_makeRoom_120 K75 nf x1 x4 x6 x7 fi ar ln = some (r, fi', ar', ln', kc, ks) → cells + kc ≤ KC → slots + ks ≤ KS → lv_has ls 8 [(0, .ref (ad (0))), (1, .int x1), (4, .int x4), (6, .int x6), (7, .int x7)] → va_P (gD g) vwCl (WC g ad rd ln fi ar) H → (∀ (ln : LN) (fi : FI) (ar : AR), va_D (AC ad rd0 s.heap.size) (WC g ad rd ln fi ar)) → va_S (AC ad rd0 s.heap.size) s.heap H locs → W p l e (headSpec (wxX yX10_makeRoom cX10_makeRoom 8 none) ({ frames := 6, cells := KC, slots := KS, locals := 115 } : Room)).room s m ([.ref (ad (0)), .int p1, .int p2] : List Value).toArray below meth c H locs cells slots (vx_MQ below (QXv g ad (AC ad rd0 s.heap.size) r fi' ar' ln') (XX g ad (AC ad rd0 s.heap.size) r fi' ar' ln') ([.ref (ad (0)), .int p1, .int p2] : List Value).toArray s KC KS (AC ad rd0 s.heap.size)) (F0 m 120 ls []) := by
        intro x1 x4 x6 x7 fi ar ln kc ks cells slots rd H locs ls hF hkc hks hl hP hD hS
        unfold FX10_makeRoom_120 at hF
        refine lv_iload hx hb dX10_makeRoom_120 (lv_at hl 4 rfl) ?_
        refine lv_istore (lv' := [(5, .int (x7)), (0, .ref (ad (0))), (1, .int (x1)), (4, .int (x4)), (6, .int (x6)), (7, .int (x7))]) hx hb dX10_makeRoom_122 hl (by decide) rfl (fun ls hl => ?_)
        obtain ⟨x6_1, ex6_1⟩ : ∃ y : Int32, y = (x6) + (1 : Int32) := ⟨_, rfl⟩
        replace hF := bnd_of hF ex6_1
        refine lv_iinc (v := x6_1) (lv' := [(6, .int (x6_1)), (5, .int (x7)), (0, .ref (ad (0))), (1, .int (x1)), (4, .int (x4)), (7, .int (x7))]) hx hb dX10_makeRoom_124 hl (k := 4) rfl (by rw [ex6_1]; rfl) (by decide) rfl (fun ls hl => ?_)
        refine lv_goto (tgt := 75) hx hb dX10_makeRoom_127 (by decide) ?_
        exact ih75 (x1) (x4) (x7) (x6_1) _ _ _ _ _ _ _ _ _ _ _ hF hkc hks (lv_sub hl [2, 3, 4, 1, 0] rfl) hP hD hS
      unfold FX10_makeRoom_75b at hF
      refine lv_iload hx hb dX10_makeRoom_75 (lv_at hl 4 rfl) ?_
      refine lv_iload hx hb dX10_makeRoom_77 (lv_at hl 2 rfl) ?_
      refine lv_icmp_ge (tgt := 130) hx hb dX10_makeRoom_79 (by decide) (fun hc2 => ?_) (fun hc2 => ?_)
      · replace hF := br_yes hF hc2
        refine W.widen (k := KC) (n := KS) (by omega) (by omega) ?_
        exact rX_v hx hb hr hlocks hF hP hD hS dX10_makeRoom_130
      · replace hF := br_no hF hc2
        refine lv_aload_n hx hb dX10_makeRoom_82 rfl (lv_at hl 0 rfl) ?_
        refine cg_X10_volume hx hb hT hown hK hP mw2_11 dX10_makeRoom_83 ?_
        replace hF := obnd3_of hF
        obtain ⟨r6, fi4, ar5, h3, hF⟩ := hF
        refine cC_i (As := []) (rest := []) hx hb hml hT hown hK hE (hD _) hA hP hS (rcv_X9 hK hP) (kX9_claimLowest l g ad rd _ nf ln fi ar r6 fi4 ar5 h3) cw_X9_claimLowest mw47_10 ⟨⟨rfl, rfl⟩, Nat.le_of_ble_eq_true rfl, Nat.le_of_ble_eq_true rfl⟩ rfl hl.1 rfl (Nat.le_of_ble_eq_true rfl) dX10_makeRoom_86 ⟨by show _ ≤ KC; omega, by show _ ≤ KS; omega⟩ (fun H locs hP hS => ?_)
        refine lv_istore (lv' := [(7, .int (r6)), (0, .ref (ad (0))), (1, .int (x1)), (4, .int (x4)), (5, .int (x5)), (6, .int (x6))]) hx hb dX10_makeRoom_89 hl (by decide) rfl (fun ls hl => ?_)
        refine lv_iload hx hb dX10_makeRoom_91 (lv_at hl 4 rfl) ?_
        refine lv_if_ne (tgt := 109) hx hb dX10_makeRoom_93 (by decide) (fun hc7 => ?_) (fun hc7 => ?_)
        · replace hF := br_no hF hc7
          refine lv_aload_n hx hb dX10_makeRoom_109 rfl (lv_at hl 1 rfl) ?_
          refine cg_X10_volume hx hb hT hown hK hP mw2_11 dX10_makeRoom_110 ?_
          refine lv_iload hx hb dX10_makeRoom_113 (lv_at hl 4 rfl) ?_
          refine lv_iload hx hb dX10_makeRoom_115 (lv_at hl 0 rfl) ?_
          replace hF := obnd3_of hF
          obtain ⟨r11, fi9, ar10, h8, hF⟩ := hF
          refine cC_v (As := [.int (x5), .int (r6)]) (rest := []) hx hb hml hT hown hK hE (hD _) hA hP hS (rcv_X9 hK hP) (kX9_link l g ad rd _ nf ln fi4 ar5 (x5) (r6) r11 fi9 ar10 h8) cw_X9_link mw51_17 ⟨⟨rfl, rfl⟩, Nat.le_of_ble_eq_true rfl, Nat.le_of_ble_eq_true rfl⟩ rfl hl.1 rfl (Nat.le_of_ble_eq_true rfl) dX10_makeRoom_117 ⟨by show _ ≤ KC; omega, by show _ ≤ KS; omega⟩ (fun H locs hP hS => ?_)
          exact J120 (x1) (x4) (x6) (r6) _ _ _ _ _ _ _ _ _ _ _ hF hkc hks (lv_sub hl [1, 2, 3, 5, 0] rfl) hP hD hS
        · replace hF := br_yes hF hc7
          refine lv_aload_n hx hb dX10_makeRoom_96 rfl (lv_at hl 1 rfl) ?_
          refine cg_X10_disk hx hb hT hown hK hP mw2_3 dX10_makeRoom_97 ?_
          refine lv_iload_n hx hb dX10_makeRoom_100 rfl (lv_at hl 2 rfl) ?_
          refine lv_iload hx hb dX10_makeRoom_101 (lv_at hl 0 rfl) ?_
          replace hF := obnd3_of hF
          obtain ⟨r15, fi13, ar14, h12, hF⟩ := hF
          refine cC_v (As := [.int (x1), .int (r6)]) (rest := []) hx hb hml hT hown hK hE (hD _) hA hP hS (rcv_X3 hK hP) (kX3_putFirstCluster l g ad rd _ nf ln fi4 ar5 (x1) (r6) r15 fi13 ar14 h12) cw_X3_putFirstCluster mw17_4 ⟨⟨rfl, rfl⟩, Nat.le_of_ble_eq_true rfl, Nat.le_of_ble_eq_true rfl⟩ rfl hl.1 rfl (Nat.le_of_ble_eq_true rfl) dX10_makeRoom_103 ⟨by show _ ≤ KC; omega, by show _ ≤ KS; omega⟩ (fun H locs hP hS => ?_)
          refine lv_goto (tgt := 120) hx hb dX10_makeRoom_106 (by decide) ?_
          exact J120 (x1) (x4) (x6) (r6) _ _ _ _ _ _ _ _ _ _ _ hF hkc hks (lv_sub hl [1, 2, 3, 5, 0] rfl) hP hD hS
  replace hl := lv_sub hl [0, 1, 2] rfl
  obtain ⟨cells, ecells⟩ : ∃ z : Nat, z = 0 := ⟨_, rfl⟩
  obtain ⟨slots, eslots⟩ : ∃ z : Nat, z = 0 := ⟨_, rfl⟩
  obtain ⟨kc, ekc⟩ : ∃ z : Nat, z = KC := ⟨_, rfl⟩
  obtain ⟨ks, eks⟩ : ∃ z : Nat, z = KS := ⟨_, rfl⟩
  have hkc : cells + kc ≤ KC := by omega
  have hks : slots + ks ≤ KS := by omega
  replace hF := kcks_of hF ekc eks
  suffices hgo : W p l e (headSpec (wxX yX10_makeRoom cX10_makeRoom 8 none) ({ frames := 6, cells := KC, slots := KS, locals := 115 } : Room)).room s m ([.ref (ad (0)), .int p1, .int p2] : List Value).toArray below meth c s.heap [] cells slots (vx_MQ below (QXv g ad (AC ad rd0 s.heap.size) r fi' ar' ln') (XX g ad (AC ad rd0 s.heap.size) r fi' ar' ln') ([.ref (ad (0)), .int p1, .int p2] : List Value).toArray s KC KS (AC ad rd0 s.heap.size)) (F0 m 0 ls []) by rw [ecells, eslots] at hgo; exact hgo
  obtain ⟨rd, erd⟩ : ∃ z : Nat → Nat, z = rd0 := ⟨_, rfl⟩
  have hP : va_P (gD g) vwCl (WC g ad rd ln fi ar) s.heap := by rw [erd]; exact hP
  have hD : ∀ (ln : LN) (fi : FI) (ar : AR), va_D (AC ad rd0 s.heap.size) (WC g ad rd ln fi ar) := by rw [erd]; exact hD
  clear erd
  refine lv_aload_n hx hb dX10_makeRoom_0 rfl (lv_at hl 0 rfl) ?_
  refine cg_X10_disk hx hb hT hown hK hP mw2_3 dX10_makeRoom_1 ?_
  refine lv_iload_n hx hb dX10_makeRoom_4 rfl (lv_at hl 1 rfl) ?_
  refine lv_bipush (v := (28 : Int32)) hx hb dX10_makeRoom_5 (by decide) ?_
  refine lv_iadd hx hb dX10_makeRoom_7 ?_
  replace hF := obnd3_of hF
  obtain ⟨r19, fi17, ar18, h16, hF⟩ := hF
  refine cC_i (As := [.int ((p1) + (28 : Int32))]) (rest := []) hx hb hml hT hown hK hE (hD _) hA hP hS (rcv_X3 hK hP) (kX3_four l g ad rd _ nf ln fi ar ((p1) + (28 : Int32)) r19 fi17 ar18 h16) cw_X3_four mw41_22 ⟨⟨rfl, rfl⟩, Nat.le_of_ble_eq_true rfl, Nat.le_of_ble_eq_true rfl⟩ rfl hl.1 rfl (Nat.le_of_ble_eq_true rfl) dX10_makeRoom_8 ⟨by show _ ≤ KC; omega, by show _ ≤ KS; omega⟩ (fun H locs hP hS => ?_)
  refine lv_istore_n (lv' := [(3, .int (r19)), (0, .ref (ad (0))), (1, .int (p1)), (2, .int (p2))]) hx hb dX10_makeRoom_11 rfl hl (by decide) rfl (fun ls hl => ?_)
  refine lv_aload_n hx hb dX10_makeRoom_12 rfl (lv_at hl 1 rfl) ?_
  refine cg_X10_volume hx hb hT hown hK hP mw2_11 dX10_makeRoom_13 ?_
  refine lv_iload_n hx hb dX10_makeRoom_16 rfl (lv_at hl 0 rfl) ?_
  refine lv_iload_n hx hb dX10_makeRoom_17 rfl (lv_at hl 3 rfl) ?_
  refine lv_iadd hx hb dX10_makeRoom_18 ?_
  replace hF := obnd3_of hF
  obtain ⟨r23, fi21, ar22, h20, hF⟩ := hF
  refine cC_i (As := [.int ((r19) + (p2))]) (rest := []) hx hb hml hT hown hK hE (hD _) hA hP hS (rcv_X9 hK hP) (kX9_clustersFor l g ad rd _ nf ln fi17 ar18 ((r19) + (p2)) r23 fi21 ar22 h20) cw_X9_clustersFor mw51_12 ⟨⟨rfl, rfl⟩, Nat.le_of_ble_eq_true rfl, Nat.le_of_ble_eq_true rfl⟩ rfl hl.1 rfl (Nat.le_of_ble_eq_true rfl) dX10_makeRoom_19 ⟨by show _ ≤ KC; omega, by show _ ≤ KS; omega⟩ (fun H locs hP hS => ?_)
  refine lv_aload_n hx hb dX10_makeRoom_22 rfl (lv_at hl 1 rfl) ?_
  refine cg_X10_volume hx hb hT hown hK hP mw2_11 dX10_makeRoom_23 ?_
  refine lv_iload_n hx hb dX10_makeRoom_26 rfl (lv_at hl 0 rfl) ?_
  replace hF := obnd3_of hF
  obtain ⟨r27, fi25, ar26, h24, hF⟩ := hF
  refine cC_i (As := [.int (r19)]) (rest := [.int (r23)]) hx hb hml hT hown hK hE (hD _) hA hP hS (rcv_X9 hK hP) (kX9_clustersFor l g ad rd _ nf ln fi21 ar22 (r19) r27 fi25 ar26 h24) cw_X9_clustersFor mw51_12 ⟨⟨rfl, rfl⟩, Nat.le_of_ble_eq_true rfl, Nat.le_of_ble_eq_true rfl⟩ rfl hl.1 rfl (Nat.le_of_ble_eq_true rfl) dX10_makeRoom_27 ⟨by show _ ≤ KC; omega, by show _ ≤ KS; omega⟩ (fun H locs hP hS => ?_)
  refine lv_isub hx hb dX10_makeRoom_30 ?_
  obtain ⟨x4_28, ex4_28⟩ : ∃ y : Int32, y = ((r23) - (r27)) := ⟨_, rfl⟩
  rw [← ex4_28]
  replace hF := bnd_of hF ex4_28
  refine lv_istore (lv' := [(4, .int (x4_28)), (3, .int (r19)), (0, .ref (ad (0))), (1, .int (p1)), (2, .int (p2))]) hx hb dX10_makeRoom_31 hl (by decide) rfl (fun ls hl => ?_)
  refine lv_iload hx hb dX10_makeRoom_33 (lv_at hl 0 rfl) ?_
  refine lv_aload_n hx hb dX10_makeRoom_35 rfl (lv_at hl 2 rfl) ?_
  refine cg_X10_volume hx hb hT hown hK hP mw2_11 dX10_makeRoom_36 ?_
  replace hF := obnd3_of hF
  obtain ⟨r32, fi30, ar31, h29, hF⟩ := hF
  refine cC_i (As := []) (rest := [.int (x4_28)]) hx hb hml hT hown hK hE (hD _) hA hP hS (rcv_X9 hK hP) (kX9_freeClusters l g ad rd _ nf ln fi25 ar26 r32 fi30 ar31 h29) cw_X9_freeClusters mw36_19 ⟨⟨rfl, rfl⟩, Nat.le_of_ble_eq_true rfl, Nat.le_of_ble_eq_true rfl⟩ rfl hl.1 rfl (Nat.le_of_ble_eq_true rfl) dX10_makeRoom_39 ⟨by show _ ≤ KC; omega, by show _ ≤ KS; omega⟩ (fun H locs hP hS => ?_)
  refine lv_icmp_le (tgt := 55) hx hb dX10_makeRoom_42 (by decide) (fun hc33 => ?_) (fun hc33 => ?_)
  · replace hF := br_yes hF hc33
    refine lv_aload_n hx hb dX10_makeRoom_55 rfl (lv_at hl 2 rfl) ?_
    refine cg_X10_volume hx hb hT hown hK hP mw2_11 dX10_makeRoom_56 ?_
    refine lv_aload_n hx hb dX10_makeRoom_59 rfl (lv_at hl 2 rfl) ?_
    refine cg_X10_disk hx hb hT hown hK hP mw2_3 dX10_makeRoom_60 ?_
    refine lv_iload_n hx hb dX10_makeRoom_63 rfl (lv_at hl 3 rfl) ?_
    replace hF := obnd3_of hF
    obtain ⟨r37, fi35, ar36, h34, hF⟩ := hF
    refine cC_i (As := [.int (p1)]) (rest := [.ref (ad (6))]) hx hb hml hT hown hK hE (hD _) hA hP hS (rcv_X3 hK hP) (kX3_firstCluster l g ad rd _ nf ln fi30 ar31 (p1) r37 fi35 ar36 h34) cw_X3_firstCluster mw42_22 ⟨⟨rfl, rfl⟩, Nat.le_of_ble_eq_true rfl, Nat.le_of_ble_eq_true rfl⟩ rfl hl.1 rfl (Nat.le_of_ble_eq_true rfl) dX10_makeRoom_64 ⟨by show _ ≤ KC; omega, by show _ ≤ KS; omega⟩ (fun H locs hP hS => ?_)
    replace hF := obnd3_of hF
    obtain ⟨r41, fi39, ar40, h38, hF⟩ := hF
    refine cC_i (As := [.int (r37)]) (rest := []) hx hb hml hT hown hK hE (hD _) hA hP hS (rcv_X9 hK hP) (kX9_last l g ad rd _ nf ln fi35 ar36 (r37) r41 fi39 ar40 h38) cw_X9_last mw51_13 ⟨⟨rfl, rfl⟩, Nat.le_of_ble_eq_true rfl, Nat.le_of_ble_eq_true rfl⟩ rfl hl.1 rfl (Nat.le_of_ble_eq_true rfl) dX10_makeRoom_67 ⟨by show _ ≤ KC; omega, by show _ ≤ KS; omega⟩ (fun H locs hP hS => ?_)
    refine lv_istore (lv' := [(5, .int (r41)), (4, .int (x4_28)), (3, .int (r19)), (0, .ref (ad (0))), (1, .int (p1)), (2, .int (p2))]) hx hb dX10_makeRoom_70 hl (by decide) rfl (fun ls hl => ?_)
    refine lv_iconst (v := (0 : Int32)) hx hb dX10_makeRoom_72 (by decide) ?_
    refine lv_istore (lv' := [(6, .int (0 : Int32)), (5, .int (r41)), (4, .int (x4_28)), (3, .int (r19)), (0, .ref (ad (0))), (1, .int (p1)), (2, .int (p2))]) hx hb dX10_makeRoom_73 hl (by decide) rfl (fun ls hl => ?_)
    exact L75 nf (p1) (x4_28) (r41) (0 : Int32) _ _ _ _ _ _ _ _ _ _ _ hF hkc hks (lv_sub hl [4, 5, 2, 1, 0] rfl) hP hD hS
  · replace hF := br_no hF hc33
    obtain ⟨sa, hsa⟩ := hEX.1.2.2.2.2.2.2.2.2.2.1
    obtain ⟨hq1, hq2⟩ := cost_of hF
    refine vx_throwS (cls := "java/lang/UnsupportedOperationException") (names := ["java/lang/RuntimeException", "java/lang/Exception"]) (sa := sa) (A := AC ad rd0 s.heap.size) hx hb hlt hown (by decide) (by decide) (hT _ mw44_19) (hT _ mw44_20) hsa (vx_hat (fun w h => hTX w (tbx4 w h)) (by rw [vxb_3]; exact fun _ h => h) (vx_c (va_tabs rfl rfl hEX.2.2.2.2.2.1) (vx_c (va_tabs rfl rfl hEX.2.2.2.2.2.2.1) (vx_c (va_tabs rfl rfl hEX.2.2.2.2.2.2.2) (vx_c (va_tabs rfl rfl hEX.2.2.2.2.1) vx_n))))) vxg_3 hEX.1.1 hEX.1.2.1 hS (by rw [hml]; exact hl.1) dX10_makeRoom_45 dX10_makeRoom_48 dX10_makeRoom_49 dX10_makeRoom_51 dX10_makeRoom_54 (fun x hx => (hout x hx).elim) (Nat.le_of_ble_eq_true rfl) (Nat.le_of_ble_eq_true rfl) (by show _ ≤ KC; omega) (by show _ ≤ KS; omega) hlocks (fun t _ hz hk => ?_) hS.2.2 (by omega) (by omega)
    exact xx_of (k := 3) hF (hP.kept (fun k q h => hk q.1 (hP k q h).lt)) hD ⟨Nat.le_trans hS.1 hz, fun q h1 h2 => by rw [hk q (Nat.lt_of_lt_of_le h1 hS.1)]; exact hS.2.1 q h1 h2⟩
theorem cw_X10_makeRoom : (Cond.instanceMethod yX10_makeRoom ∈ TB ∧ Cond.selects RX10 yX10_makeRoom yX10_makeRoom ∈ TB ∧ Cond.code yX10_makeRoom cX10_makeRoom 8 none ∈ TB ∧ Cond.initialized RX10 ∈ TB) ∧ (yX10_makeRoom.cls = RX10 ∧ yX10_makeRoom.cls ≠ "java/lang/invoke/MethodHandle" ∧ yX10_makeRoom.cls ≠ "java/lang/invoke/VarHandle" ∧ (parseMethodDescriptor yX10_makeRoom.desc).map (fun d => d.parameters.length) = some 2) := ⟨⟨mw51_9, mw51_10, mw51_11, mw1_2⟩, by decide +kernel⟩
/-! X10_format -/
noncomputable def FX10_format_99 (nf : Nat)  (fi : FI) (ar : AR) (ln : LN) : Option ((Int32 ⊕ Nat) × FI × AR × LN × Nat × Nat) :=
  obnd3 (FX10_forgetState nf ln fi ar) fun r4 fi2 ar3 => some (Sum.inl (fi2 (5)), fi2, ar3, ln, 0, 0)
noncomputable def FX10_format_42 (nf : Nat)  (fi : FI) (ar : AR) (ln : LN) : Option ((Int32 ⊕ Nat) × FI × AR × LN × Nat × Nat) :=
  some (Sum.inr 2, fi, ar, ln, 1, 6)
noncomputable def FX10_format (nf : Nat) (fi : FI) (ar : AR) (ln : LN) (x1 : Int32) (x2 : Int32) (x3 : Int32) (x4 : Int32) : Option ((Int32 ⊕ Nat) × FI × AR × LN × Nat × Nat) :=
  obnd3 (FX8_take nf ln fi ar) fun r8 fi6 ar7 => obnd3 (FX9_leastTable nf ln fi6 ar7 (x1) (x2) (x3)) fun r12 fi10 ar11 => br ((r12) = 0) (FX10_format_42 nf  fi10 ar11 ln) (obnd3 (FX7_readLabel nf ln 0 fi10 ar11 (r8)) fun r17 fi15 ar16 => br ((r17) = 0) (FX10_format_42 nf  fi15 ar16 ln) (obnd3 (FX3_wipe nf ln fi15 ar16) fun r22 fi20 ar21 => obnd3 (FX9_lay nf ln fi20 ar21 (x1) (x2) (x3) (r12) (x4)) fun r26 fi24 ar25 => br ((r8) ≤ 0) (FX10_format_99 nf  fi24 ar25 ln) (obnd3 (FX9_addressOf nf ln fi24 ar25 (fi24 (4))) fun r31 fi29 ar30 => obnd3 (FX10_writeEntry nf ln fi29 ar30 (r31) (8 : Int32) (0 : Int32)) fun r35 fi33 ar34 => FX10_format_99 nf  fi33 ar34 ln)))
set_option maxHeartbeats 8000000 in
set_option maxRecDepth 100000 in
theorem kX10_format (l : Launch) (g : GT) (ad rd0 : Nat → Nat) (sz : Nat) (nf : Nat) (hlt : l.stackTraces = false) (fi : FI) (ar : AR) (ln : LN) (p1 : Int32) (p2 : Int32) (p3 : Int32) (p4 : Int32) (r : (Int32 ⊕ Nat)) (fi' : FI) (ar' : AR) (ln' : LN) (KC KS : Nat) (hF : FX10_format nf fi ar ln p1 p2 p3 p4 = some (r, fi', ar', ln', KC, KS)) : vx_Met l yX10_format (wxX yX10_format cX10_format 7 (some .int)) ({ frames := 6, cells := KC, slots := KS, locals := 135 } : Room) (va_Pc [.ref (ad (0)), .int p1, .int p2, .int p3, .int p4] (PX g ad rd0 ln sz fi ar)) (QXi g ad (AC ad rd0 sz) r fi' ar' ln') (XX g ad (AC ad rd0 sz) r fi' ar' ln') KC KS (AC ad rd0 sz) := by
  refine vx_ofW (cc := cX10_format) (maxL := 7) (ret := (some .int)) (by decide) rfl ?_
  intro p e s m args below meth c s₁ B hml hout hv
  obtain ⟨rfl, ⟨hsz, hP, hK, hD0, hE⟩, hEX⟩ := hv
  have hx := B.exec
  have hb := B.bytes
  have hr := B.returns
  have hts := atoms_spec (ws := (wxX yX10_format cX10_format 7 (some .int))) B.pre
  have hTX : ∀ w ∈ TBX, w.before _ s = true := fun w h => hts w (List.mem_cons_of_mem _ h)
  have hT : ∀ w ∈ TB, w.before _ s = true := fun w h => hTX w (tbx0 w h)
  have hown : s.vm.findClass RX10 = some m.cls := findClass_of_methodNamed B.named
  have hlocks := B.notSynchronized
  subst hsz
  have hD : ∀ (ln : LN) (fi : FI) (ar : AR), va_D (AC ad rd0 s.heap.size) (WC g ad rd0 ln fi ar) := dCre (dC hD0 s.heap.size fi ar) (fun _ h => h)
  have hA : ∀ q : Nat, s.heap.size ≤ q → AC ad rd0 s.heap.size q := fun q h => Or.inr h
  have hS : va_S (AC ad rd0 s.heap.size) s.heap s.heap [] := va_S.rf
  have hl := lv_entry ([.ref (ad (0)), .int p1, .int p2, .int p3, .int p4]) (n := 7) (Nat.le_of_ble_eq_true rfl)
  rw [lg_entry_eq]
  generalize (lg_sl ([.ref (ad (0)), .int p1, .int p2, .int p3, .int p4]) ++ List.replicate (7 - (lg_sl ([.ref (ad (0)), .int p1, .int p2, .int p3, .int p4])).length) Slot.unset).toArray = ls at hl ⊢
  have hl : lv_has ls 7 [(0, .ref (ad (0))), (1, .int p1), (2, .int p2), (3, .int p3), (4, .int p4)] := hl
  unfold FX10_format at hF
  have J99 : ∀  (fi : FI) (ar : AR) (ln : LN) (kc ks cells slots : Nat) (rd : Nat → Nat) (H : Heap) (locs : List Loc) (ls : Array Slot), FX10_format_99 nf fi ar ln = some (r, fi', ar', ln', kc, ks) → cells + kc ≤ KC → slots + ks ≤ KS → lv_has ls 7 [(0, .ref (ad (0)))] → va_P (gD g) vwCl (WC g ad rd ln fi ar) H → (∀ (ln : LN) (fi : FI) (ar : AR), va_D (AC ad rd0 s.heap.size) (WC g ad rd ln fi ar)) → va_S (AC ad rd0 s.heap.size) s.heap H locs → W p l e (headSpec (wxX yX10_format cX10_format 7 (some .int)) ({ frames := 6, cells := KC, slots := KS, locals := 135 } : Room)).room s m ([.ref (ad (0)), .int p1, .int p2, .int p3, .int p4] : List Value).toArray below meth c H locs cells slots (vx_MQ below (QXi g ad (AC ad rd0 s.heap.size) r fi' ar' ln') (XX g ad (AC ad rd0 s.heap.size) r fi' ar' ln') ([.ref (ad (0)), .int p1, .int p2, .int p3, .int p4] : List Value).toArray s KC KS (AC ad rd0 s.heap.size)) (F0 m 99 ls []) := by
    intro fi ar ln kc ks cells slots rd H locs ls hF hkc hks hl hP hD hS
    unfold FX10_format_99 at hF
    refine lv_aload_n hx hb dX10_format_99 rfl (lv_at hl 0 rfl) ?_
    replace hF := obnd3_of hF
    obtain ⟨r4, fi2, ar3, h1, hF⟩ := hF
    refine cC_v (As := []) (rest := []) hx hb hml hT hown hK hE (hD _) hA hP hS (rcv_X10 hK hP) (kX10_forgetState l g ad rd _ nf ln fi ar r4 fi2 ar3 h1) cw_X10_forgetState mw17_8 ⟨⟨rfl, rfl⟩, Nat.le_of_ble_eq_true rfl, Nat.le_of_ble_eq_true rfl⟩ rfl hl.1 rfl (Nat.le_of_ble_eq_true rfl) dX10_format_100 ⟨by show _ ≤ KC; omega, by show _ ≤ KS; omega⟩ (fun H locs hP hS => ?_)
    refine lv_aload_n hx hb dX10_format_103 rfl (lv_at hl 0 rfl) ?_
    refine cg_X10_volume hx hb hT hown hK hP mw2_11 dX10_format_104 ?_
    refine cg_X9_clusters hx hb hT hown hK hP mw9_6 dX10_format_107 ?_
    refine W.widen (k := KC) (n := KS) (by omega) (by omega) ?_
    exact rX_i hx hb hr hlocks hF hP hD hS dX10_format_110
  have J42 : ∀  (fi : FI) (ar : AR) (ln : LN) (kc ks cells slots : Nat) (rd : Nat → Nat) (H : Heap) (locs : List Loc) (ls : Array Slot), FX10_format_42 nf fi ar ln = some (r, fi', ar', ln', kc, ks) → cells + kc ≤ KC → slots + ks ≤ KS → lv_has ls 7 [(0, .ref (ad (0)))] → va_P (gD g) vwCl (WC g ad rd ln fi ar) H → (∀ (ln : LN) (fi : FI) (ar : AR), va_D (AC ad rd0 s.heap.size) (WC g ad rd ln fi ar)) → va_S (AC ad rd0 s.heap.size) s.heap H locs → W p l e (headSpec (wxX yX10_format cX10_format 7 (some .int)) ({ frames := 6, cells := KC, slots := KS, locals := 135 } : Room)).room s m ([.ref (ad (0)), .int p1, .int p2, .int p3, .int p4] : List Value).toArray below meth c H locs cells slots (vx_MQ below (QXi g ad (AC ad rd0 s.heap.size) r fi' ar' ln') (XX g ad (AC ad rd0 s.heap.size) r fi' ar' ln') ([.ref (ad (0)), .int p1, .int p2, .int p3, .int p4] : List Value).toArray s KC KS (AC ad rd0 s.heap.size)) (F0 m 42 ls []) := by
    intro fi ar ln kc ks cells slots rd H locs ls hF hkc hks hl hP hD hS
    unfold FX10_format_42 at hF
    obtain ⟨sa, hsa⟩ := hEX.1.2.2.1
    obtain ⟨hq1, hq2⟩ := cost_of hF
    refine vx_throwS (cls := "java/lang/IllegalArgumentException") (names := ["java/lang/RuntimeException", "java/lang/Exception"]) (sa := sa) (A := AC ad rd0 s.heap.size) hx hb hlt hown (by decide) (by decide) (hT _ mw9_3) (hT _ mw9_4) hsa (vx_hat (fun w h => hTX w (tbx3 w h)) (by rw [vxb_2]; exact fun _ h => h) (vx_c (va_tabs rfl rfl hEX.2.2.2.2.2.1) (vx_c (va_tabs rfl rfl hEX.2.2.2.2.2.2.1) (vx_c (va_tabs rfl rfl hEX.2.2.2.2.2.2.2) (vx_c (va_tabs rfl rfl hEX.2.2.2.1) vx_n))))) vxg_2 hEX.1.1 hEX.1.2.1 hS (by rw [hml]; exact hl.1) dX10_format_42 dX10_format_45 dX10_format_46 dX10_format_48 dX10_format_51 (fun x hx => (hout x hx).elim) (Nat.le_of_ble_eq_true rfl) (Nat.le_of_ble_eq_true rfl) (by show _ ≤ KC; omega) (by show _ ≤ KS; omega) hlocks (fun t _ hz hk => ?_) hS.2.2 (by omega) (by omega)
    exact xx_of (k := 2) hF (hP.kept (fun k q h => hk q.1 (hP k q h).lt)) hD ⟨Nat.le_trans hS.1 hz, fun q h1 h2 => by rw [hk q (Nat.lt_of_lt_of_le h1 hS.1)]; exact hS.2.1 q h1 h2⟩
  replace hl := lv_sub hl [0, 1, 2, 3, 4] rfl
  obtain ⟨cells, ecells⟩ : ∃ z : Nat, z = 0 := ⟨_, rfl⟩
  obtain ⟨slots, eslots⟩ : ∃ z : Nat, z = 0 := ⟨_, rfl⟩
  obtain ⟨kc, ekc⟩ : ∃ z : Nat, z = KC := ⟨_, rfl⟩
  obtain ⟨ks, eks⟩ : ∃ z : Nat, z = KS := ⟨_, rfl⟩
  have hkc : cells + kc ≤ KC := by omega
  have hks : slots + ks ≤ KS := by omega
  replace hF := kcks_of hF ekc eks
  suffices hgo : W p l e (headSpec (wxX yX10_format cX10_format 7 (some .int)) ({ frames := 6, cells := KC, slots := KS, locals := 135 } : Room)).room s m ([.ref (ad (0)), .int p1, .int p2, .int p3, .int p4] : List Value).toArray below meth c s.heap [] cells slots (vx_MQ below (QXi g ad (AC ad rd0 s.heap.size) r fi' ar' ln') (XX g ad (AC ad rd0 s.heap.size) r fi' ar' ln') ([.ref (ad (0)), .int p1, .int p2, .int p3, .int p4] : List Value).toArray s KC KS (AC ad rd0 s.heap.size)) (F0 m 0 ls []) by rw [ecells, eslots] at hgo; exact hgo
  obtain ⟨rd, erd⟩ : ∃ z : Nat → Nat, z = rd0 := ⟨_, rfl⟩
  have hP : va_P (gD g) vwCl (WC g ad rd ln fi ar) s.heap := by rw [erd]; exact hP
  have hD : ∀ (ln : LN) (fi : FI) (ar : AR), va_D (AC ad rd0 s.heap.size) (WC g ad rd ln fi ar) := by rw [erd]; exact hD
  clear erd
  refine lv_aload_n hx hb dX10_format_0 rfl (lv_at hl 0 rfl) ?_
  refine cg_X10_tape hx hb hT hown hK hP mw2_7 dX10_format_1 ?_
  replace hF := obnd3_of hF
  obtain ⟨r8, fi6, ar7, h5, hF⟩ := hF
  refine cC_i (As := []) (rest := []) hx hb hml hT hown hK hE (hD _) hA hP hS (rcv_X8 hK hP) (kX8_take l g ad rd _ nf ln fi ar r8 fi6 ar7 h5) cw_X8_take mw8_11 ⟨⟨rfl, rfl⟩, Nat.le_of_ble_eq_true rfl, Nat.le_of_ble_eq_true rfl⟩ rfl hl.1 rfl (Nat.le_of_ble_eq_true rfl) dX10_format_4 ⟨by show _ ≤ KC; omega, by show _ ≤ KS; omega⟩ (fun H locs hP hS => ?_)
  refine lv_istore (lv' := [(5, .int (r8)), (0, .ref (ad (0))), (1, .int (p1)), (2, .int (p2)), (3, .int (p3)), (4, .int (p4))]) hx hb dX10_format_7 hl (by decide) rfl (fun ls hl => ?_)
  refine lv_aload_n hx hb dX10_format_9 rfl (lv_at hl 1 rfl) ?_
  refine cg_X10_volume hx hb hT hown hK hP mw2_11 dX10_format_10 ?_
  refine lv_iload_n hx hb dX10_format_13 rfl (lv_at hl 2 rfl) ?_
  refine lv_iload_n hx hb dX10_format_14 rfl (lv_at hl 3 rfl) ?_
  refine lv_iload_n hx hb dX10_format_15 rfl (lv_at hl 4 rfl) ?_
  replace hF := obnd3_of hF
  obtain ⟨r12, fi10, ar11, h9, hF⟩ := hF
  refine cC_i (As := [.int (p1), .int (p2), .int (p3)]) (rest := []) hx hb hml hT hown hK hE (hD _) hA hP hS (rcv_X9 hK hP) (kX9_leastTable l g ad rd _ nf ln fi6 ar7 (p1) (p2) (p3) r12 fi10 ar11 h9) cw_X9_leastTable mw9_7 ⟨⟨rfl, rfl⟩, Nat.le_of_ble_eq_true rfl, Nat.le_of_ble_eq_true rfl⟩ rfl hl.1 rfl (Nat.le_of_ble_eq_true rfl) dX10_format_16 ⟨by show _ ≤ KC; omega, by show _ ≤ KS; omega⟩ (fun H locs hP hS => ?_)
  refine lv_istore (lv' := [(6, .int (r12)), (5, .int (r8)), (0, .ref (ad (0))), (1, .int (p1)), (2, .int (p2)), (3, .int (p3)), (4, .int (p4))]) hx hb dX10_format_19 hl (by decide) rfl (fun ls hl => ?_)
  refine lv_iload hx hb dX10_format_21 (lv_at hl 0 rfl) ?_
  refine lv_if_eq (tgt := 42) hx hb dX10_format_23 (by decide) (fun hc13 => ?_) (fun hc13 => ?_)
  · replace hF := br_yes hF hc13
    exact J42  _ _ _ _ _ _ _ _ _ _ _ hF hkc hks (lv_sub hl [2] rfl) hP hD hS
  · replace hF := br_no hF hc13
    refine lv_aload_n hx hb dX10_format_26 rfl (lv_at hl 2 rfl) ?_
    refine cg_X10_shortName hx hb hT hown hK hP mw3_5 dX10_format_27 ?_
    refine lv_aload_n hx hb dX10_format_30 rfl (lv_at hl 2 rfl) ?_
    refine cg_X10_tape hx hb hT hown hK hP mw2_7 dX10_format_31 ?_
    refine lv_iload hx hb dX10_format_34 (lv_at hl 1 rfl) ?_
    replace hF := obnd3_of hF
    obtain ⟨r17, fi15, ar16, h14, hF⟩ := hF
    refine cC_i (As := [.ref (ad (3)), .int (r8)]) (rest := []) hx hb hml hT hown hK hE (hD _) hA hP hS (rcv_X7 (by decide) hK hP) (kX7_readLabel l g ad rd _ nf ln 0 (by decide) fi10 ar11 (r8) r17 fi15 ar16 h14) cw_X7_readLabel mw9_23 ⟨⟨rfl, rfl⟩, Nat.le_of_ble_eq_true rfl, Nat.le_of_ble_eq_true rfl⟩ rfl hl.1 rfl (Nat.le_of_ble_eq_true rfl) dX10_format_36 ⟨by show _ ≤ KC; omega, by show _ ≤ KS; omega⟩ (fun H locs hP hS => ?_)
    refine lv_if_ne (tgt := 52) hx hb dX10_format_39 (by decide) (fun hc18 => ?_) (fun hc18 => ?_)
    · replace hF := br_no hF hc18
      refine lv_aload_n hx hb dX10_format_52 rfl (lv_at hl 2 rfl) ?_
      refine cg_X10_disk hx hb hT hown hK hP mw2_3 dX10_format_53 ?_
      replace hF := obnd3_of hF
      obtain ⟨r22, fi20, ar21, h19, hF⟩ := hF
      refine cC_v (As := []) (rest := []) hx hb hml hT hown hK hE (hD _) hA hP hS (rcv_X3 hK hP) (kX3_wipe l g ad rd _ nf ln fi15 ar16 r22 fi20 ar21 h19) cw_X3_wipe mw14_0 ⟨⟨rfl, rfl⟩, Nat.le_of_ble_eq_true rfl, Nat.le_of_ble_eq_true rfl⟩ rfl hl.1 rfl (Nat.le_of_ble_eq_true rfl) dX10_format_56 ⟨by show _ ≤ KC; omega, by show _ ≤ KS; omega⟩ (fun H locs hP hS => ?_)
      refine lv_aload_n hx hb dX10_format_59 rfl (lv_at hl 2 rfl) ?_
      refine cg_X10_volume hx hb hT hown hK hP mw2_11 dX10_format_60 ?_
      refine lv_iload_n hx hb dX10_format_63 rfl (lv_at hl 3 rfl) ?_
      refine lv_iload_n hx hb dX10_format_64 rfl (lv_at hl 4 rfl) ?_
      refine lv_iload_n hx hb dX10_format_65 rfl (lv_at hl 5 rfl) ?_
      refine lv_iload hx hb dX10_format_66 (lv_at hl 0 rfl) ?_
      refine lv_iload hx hb dX10_format_68 (lv_at hl 6 rfl) ?_
      replace hF := obnd3_of hF
      obtain ⟨r26, fi24, ar25, h23, hF⟩ := hF
      refine cC_v (As := [.int (p1), .int (p2), .int (p3), .int (r12), .int (p4)]) (rest := []) hx hb hml hT hown hK hE (hD _) hA hP hS (rcv_X9 hK hP) (kX9_lay l g ad rd _ nf ln fi20 ar21 (p1) (p2) (p3) (r12) (p4) r26 fi24 ar25 h23) cw_X9_lay mw14_5 ⟨⟨rfl, rfl⟩, Nat.le_of_ble_eq_true rfl, Nat.le_of_ble_eq_true rfl⟩ rfl hl.1 rfl (Nat.le_of_ble_eq_true rfl) dX10_format_70 ⟨by show _ ≤ KC; omega, by show _ ≤ KS; omega⟩ (fun H locs hP hS => ?_)
      refine lv_iload hx hb dX10_format_73 (lv_at hl 1 rfl) ?_
      refine lv_if_le (tgt := 99) hx hb dX10_format_75 (by decide) (fun hc27 => ?_) (fun hc27 => ?_)
      · replace hF := br_yes hF hc27
        exact J99  _ _ _ _ _ _ _ _ _ _ _ hF hkc hks (lv_sub hl [2] rfl) hP hD hS
      · replace hF := br_no hF hc27
        refine lv_aload_n hx hb dX10_format_78 rfl (lv_at hl 2 rfl) ?_
        refine lv_aload_n hx hb dX10_format_79 rfl (lv_at hl 2 rfl) ?_
        refine cg_X10_volume hx hb hT hown hK hP mw2_11 dX10_format_80 ?_
        refine lv_aload_n hx hb dX10_format_83 rfl (lv_at hl 2 rfl) ?_
        refine cg_X10_volume hx hb hT hown hK hP mw2_11 dX10_format_84 ?_
        refine cg_X9_root hx hb hT hown hK hP mw9_5 dX10_format_87 ?_
        replace hF := obnd3_of hF
        obtain ⟨r31, fi29, ar30, h28, hF⟩ := hF
        refine cC_i (As := [.int (fi24 (4))]) (rest := [.ref (ad (0))]) hx hb hml hT hown hK hE (hD _) hA hP hS (rcv_X9 hK hP) (kX9_addressOf l g ad rd _ nf ln fi24 ar25 (fi24 (4)) r31 fi29 ar30 h28) cw_X9_addressOf mw16_12 ⟨⟨rfl, rfl⟩, Nat.le_of_ble_eq_true rfl, Nat.le_of_ble_eq_true rfl⟩ rfl hl.1 rfl (Nat.le_of_ble_eq_true rfl) dX10_format_90 ⟨by show _ ≤ KC; omega, by show _ ≤ KS; omega⟩ (fun H locs hP hS => ?_)
        refine lv_bipush (v := (8 : Int32)) hx hb dX10_format_93 (by decide) ?_
        refine lv_iconst (v := (0 : Int32)) hx hb dX10_format_95 (by decide) ?_
        replace hF := obnd3_of hF
        obtain ⟨r35, fi33, ar34, h32, hF⟩ := hF
        refine cC_v (As := [.int (r31), .int (8 : Int32), .int (0 : Int32)]) (rest := []) hx hb hml hT hown hK hE (hD _) hA hP hS (rcv_X10 hK hP) (kX10_writeEntry l g ad rd _ nf ln fi29 ar30 (r31) (8 : Int32) (0 : Int32) r35 fi33 ar34 h32) cw_X10_writeEntry mw16_16 ⟨⟨rfl, rfl⟩, Nat.le_of_ble_eq_true rfl, Nat.le_of_ble_eq_true rfl⟩ rfl hl.1 rfl (Nat.le_of_ble_eq_true rfl) dX10_format_96 ⟨by show _ ≤ KC; omega, by show _ ≤ KS; omega⟩ (fun H locs hP hS => ?_)
        exact J99  _ _ _ _ _ _ _ _ _ _ _ hF hkc hks (lv_sub hl [2] rfl) hP hD hS
    · replace hF := br_yes hF hc18
      exact J42  _ _ _ _ _ _ _ _ _ _ _ hF hkc hks (lv_sub hl [2] rfl) hP hD hS
theorem cw_X10_format : (Cond.instanceMethod yX10_format ∈ TB ∧ Cond.selects RX10 yX10_format yX10_format ∈ TB ∧ Cond.code yX10_format cX10_format 7 (some .int) ∈ TB ∧ Cond.initialized RX10 ∈ TB) ∧ (yX10_format.cls = RX10 ∧ yX10_format.cls ≠ "java/lang/invoke/MethodHandle" ∧ yX10_format.cls ≠ "java/lang/invoke/VarHandle" ∧ (parseMethodDescriptor yX10_format.desc).map (fun d => d.parameters.length) = some 4) := ⟨⟨mw9_0, mw9_1, mw9_2, mw1_2⟩, by decide +kernel⟩
/-! X10_items -/
noncomputable def FX10_items (nf : Nat) (fi : FI) (ar : AR) (ln : LN)  : Option ((Int32 ⊕ Nat) × FI × AR × LN × Nat × Nat) :=
  obnd6 (FX10_openHere nf fi ar ln) fun r5 fi2 ar3 ln4 kc7 ks8 => addc (kc7) (ks8) (sumc r5 (fun v6 => some (Sum.inl (fi2 (20 + 10 * 0)), fi2, ar3, ln4, 0, 0)) (fun k9 => some (Sum.inr k9, fi2, ar3, ln4, 0, 0)))
set_option maxHeartbeats 8000000 in
set_option maxRecDepth 100000 in
theorem kX10_items (l : Launch) (g : GT) (ad rd0 : Nat → Nat) (sz : Nat) (nf : Nat) (hlt : l.stackTraces = false) (fi : FI) (ar : AR) (ln : LN)  (r : (Int32 ⊕ Nat)) (fi' : FI) (ar' : AR) (ln' : LN) (KC KS : Nat) (hF : FX10_items nf fi ar ln  = some (r, fi', ar', ln', KC, KS)) : vx_Met l yX10_items (wxX yX10_items cX10_items 1 (some .int)) ({ frames := 10, cells := KC, slots := KS, locals := 233 } : Room) (va_Pc [.ref (ad (0))] (PX g ad rd0 ln sz fi ar)) (QXi g ad (AC ad rd0 sz) r fi' ar' ln') (XX g ad (AC ad rd0 sz) r fi' ar' ln') KC KS (AC ad rd0 sz) := by
  refine vx_ofW (cc := cX10_items) (maxL := 1) (ret := (some .int)) (by decide) rfl ?_
  intro p e s m args below meth c s₁ B hml hout hv
  obtain ⟨rfl, ⟨hsz, hP, hK, hD0, hE⟩, hEX⟩ := hv
  have hx := B.exec
  have hb := B.bytes
  have hr := B.returns
  have hts := atoms_spec (ws := (wxX yX10_items cX10_items 1 (some .int))) B.pre
  have hTX : ∀ w ∈ TBX, w.before _ s = true := fun w h => hts w (List.mem_cons_of_mem _ h)
  have hT : ∀ w ∈ TB, w.before _ s = true := fun w h => hTX w (tbx0 w h)
  have hown : s.vm.findClass RX10 = some m.cls := findClass_of_methodNamed B.named
  have hlocks := B.notSynchronized
  subst hsz
  have hD : ∀ (ln : LN) (fi : FI) (ar : AR), va_D (AC ad rd0 s.heap.size) (WC g ad rd0 ln fi ar) := dCre (dC hD0 s.heap.size fi ar) (fun _ h => h)
  have hA : ∀ q : Nat, s.heap.size ≤ q → AC ad rd0 s.heap.size q := fun q h => Or.inr h
  have hS : va_S (AC ad rd0 s.heap.size) s.heap s.heap [] := va_S.rf
  have hl := lv_entry ([.ref (ad (0))]) (n := 1) (Nat.le_of_ble_eq_true rfl)
  rw [lg_entry_eq]
  generalize (lg_sl ([.ref (ad (0))]) ++ List.replicate (1 - (lg_sl ([.ref (ad (0))])).length) Slot.unset).toArray = ls at hl ⊢
  have hl : lv_has ls 1 [(0, .ref (ad (0)))] := hl
  unfold FX10_items at hF
  replace hl := lv_sub hl [0] rfl
  obtain ⟨cells, ecells⟩ : ∃ z : Nat, z = 0 := ⟨_, rfl⟩
  obtain ⟨slots, eslots⟩ : ∃ z : Nat, z = 0 := ⟨_, rfl⟩
  obtain ⟨kc, ekc⟩ : ∃ z : Nat, z = KC := ⟨_, rfl⟩
  obtain ⟨ks, eks⟩ : ∃ z : Nat, z = KS := ⟨_, rfl⟩
  have hkc : cells + kc ≤ KC := by omega
  have hks : slots + ks ≤ KS := by omega
  replace hF := kcks_of hF ekc eks
  suffices hgo : W p l e (headSpec (wxX yX10_items cX10_items 1 (some .int)) ({ frames := 10, cells := KC, slots := KS, locals := 233 } : Room)).room s m ([.ref (ad (0))] : List Value).toArray below meth c s.heap [] cells slots (vx_MQ below (QXi g ad (AC ad rd0 s.heap.size) r fi' ar' ln') (XX g ad (AC ad rd0 s.heap.size) r fi' ar' ln') ([.ref (ad (0))] : List Value).toArray s KC KS (AC ad rd0 s.heap.size)) (F0 m 0 ls []) by rw [ecells, eslots] at hgo; exact hgo
  obtain ⟨rd, erd⟩ : ∃ z : Nat → Nat, z = rd0 := ⟨_, rfl⟩
  have hP : va_P (gD g) vwCl (WC g ad rd ln fi ar) s.heap := by rw [erd]; exact hP
  have hD : ∀ (ln : LN) (fi : FI) (ar : AR), va_D (AC ad rd0 s.heap.size) (WC g ad rd ln fi ar) := by rw [erd]; exact hD
  clear erd
  refine lv_aload_n hx hb dX10_items_0 rfl (lv_at hl 0 rfl) ?_
  replace hF := obnd6_of hF
  obtain ⟨r5, fi2, ar3, ln4, kc7, ks8, h1, hF⟩ := hF
  replace hF := addc_of hF
  obtain ⟨kc10, ks11, e12c, e12s, hF⟩ := hF
  rcases r5 with v6 | k9
  rotate_left
  · replace hF := sumc_r hF
    exact cX_vt (As := []) (rest := []) hx hb hml hTX hown hK hE hEX hD hA hP hS (rcv_X10 hK hP) (kX10_openHere l g ad rd _ nf hlt fi ar ln (Sum.inr k9) fi2 ar3 ln4 kc7 ks8 h1) cw_X10_openHere mw37_16 ⟨⟨rfl, rfl⟩, Nat.le_of_ble_eq_true rfl, Nat.le_of_ble_eq_true rfl⟩ rfl hl.1 rfl (Nat.le_of_ble_eq_true rfl) dX10_items_1 ⟨by show _ ≤ KC; omega, by show _ ≤ KS; omega⟩ ⟨hout, hlocks, by omega, by omega, fun rd H locs t ht hP hD hS => xx_of hF (by rw [ht]; exact hP) hD (hS.F ht)⟩
  replace hF := sumc_l hF
  refine cX_v (As := []) (rest := []) hx hb hml hTX hown hK hE hEX hD hA hP hS (rcv_X10 hK hP) (kX10_openHere l g ad rd _ nf hlt fi ar ln (Sum.inl v6) fi2 ar3 ln4 kc7 ks8 h1) cw_X10_openHere mw37_16 ⟨⟨rfl, rfl⟩, Nat.le_of_ble_eq_true rfl, Nat.le_of_ble_eq_true rfl⟩ rfl hl.1 rfl (Nat.le_of_ble_eq_true rfl) dX10_items_1 ⟨by show _ ≤ KC; omega, by show _ ≤ KS; omega⟩ (fun rd H locs hP hD hS => ?_)
  replace hkc : cells + kc7 + kc10 ≤ KC := by omega
  replace hks : slots + ks8 + ks11 ≤ KS := by omega
  refine lv_aload_n hx hb dX10_items_4 rfl (lv_at hl 0 rfl) ?_
  refine cg_X10_here hx hb hT hown hK hP mw2_19 dX10_items_5 ?_
  refine cg_X2_count (by decide) hx hb hT hown hK hP mw37_15 dX10_items_8 ?_
  refine W.widen (k := KC) (n := KS) (by omega) (by omega) ?_
  exact rX_i hx hb hr hlocks hF hP hD hS dX10_items_11
theorem cw_X10_items : (Cond.instanceMethod yX10_items ∈ TB ∧ Cond.selects RX10 yX10_items yX10_items ∈ TB ∧ Cond.code yX10_items cX10_items 1 (some .int) ∈ TB ∧ Cond.initialized RX10 ∈ TB) ∧ (yX10_items.cls = RX10 ∧ yX10_items.cls ≠ "java/lang/invoke/MethodHandle" ∧ yX10_items.cls ≠ "java/lang/invoke/VarHandle" ∧ (parseMethodDescriptor yX10_items.desc).map (fun d => d.parameters.length) = some 0) := ⟨⟨mw37_12, mw37_13, mw37_14, mw1_2⟩, by decide +kernel⟩
/-! X10_letter -/
noncomputable def FX10_letter (nf : Nat) (fi : FI) (ar : AR) (ln : LN) (x1 : Int32) (x2 : Int32) : Option ((Int32 ⊕ Nat) × FI × AR × LN × Nat × Nat) :=
  obnd6 (FX10_openHere nf fi ar ln) fun r5 fi2 ar3 ln4 kc7 ks8 => addc (kc7) (ks8) (sumc r5 (fun v6 => obnd6 (FX10_itemAt nf fi2 ar3 ln4 (x1)) fun r17 fi14 ar15 ln16 kc19 ks20 => addc (kc19) (ks20) (sumc r17 (fun v18 => obnd3 (FX2_slotOf nf ln16 0 fi14 ar15 (x1)) fun r28 fi26 ar27 => obnd3 (FX2_partsOf nf ln16 0 fi26 ar27 (x1)) fun r32 fi30 ar31 => obnd3 (FX6_read nf ln16 0 0 fi30 ar31 (r28) (r32)) fun r36 fi34 ar35 => obnd3 (FX6_encodedByte nf ln16 0 fi34 ar35 (x2)) fun r40 fi38 ar39 => some (Sum.inl (r40), fi38, ar39, ln16, 0, 0)) (fun k21 => some (Sum.inr k21, fi14, ar15, ln16, 0, 0)))) (fun k9 => some (Sum.inr k9, fi2, ar3, ln4, 0, 0)))
set_option maxHeartbeats 8000000 in
set_option maxRecDepth 100000 in
theorem kX10_letter (l : Launch) (g : GT) (ad rd0 : Nat → Nat) (sz : Nat) (nf : Nat) (hlt : l.stackTraces = false) (fi : FI) (ar : AR) (ln : LN) (p1 : Int32) (p2 : Int32) (r : (Int32 ⊕ Nat)) (fi' : FI) (ar' : AR) (ln' : LN) (KC KS : Nat) (hF : FX10_letter nf fi ar ln p1 p2 = some (r, fi', ar', ln', KC, KS)) : vx_Met l yX10_letter (wxX yX10_letter cX10_letter 3 (some .int)) ({ frames := 10, cells := KC, slots := KS, locals := 233 } : Room) (va_Pc [.ref (ad (0)), .int p1, .int p2] (PX g ad rd0 ln sz fi ar)) (QXi g ad (AC ad rd0 sz) r fi' ar' ln') (XX g ad (AC ad rd0 sz) r fi' ar' ln') KC KS (AC ad rd0 sz) := by
  refine vx_ofW (cc := cX10_letter) (maxL := 3) (ret := (some .int)) (by decide) rfl ?_
  intro p e s m args below meth c s₁ B hml hout hv
  obtain ⟨rfl, ⟨hsz, hP, hK, hD0, hE⟩, hEX⟩ := hv
  have hx := B.exec
  have hb := B.bytes
  have hr := B.returns
  have hts := atoms_spec (ws := (wxX yX10_letter cX10_letter 3 (some .int))) B.pre
  have hTX : ∀ w ∈ TBX, w.before _ s = true := fun w h => hts w (List.mem_cons_of_mem _ h)
  have hT : ∀ w ∈ TB, w.before _ s = true := fun w h => hTX w (tbx0 w h)
  have hown : s.vm.findClass RX10 = some m.cls := findClass_of_methodNamed B.named
  have hlocks := B.notSynchronized
  subst hsz
  have hD : ∀ (ln : LN) (fi : FI) (ar : AR), va_D (AC ad rd0 s.heap.size) (WC g ad rd0 ln fi ar) := dCre (dC hD0 s.heap.size fi ar) (fun _ h => h)
  have hA : ∀ q : Nat, s.heap.size ≤ q → AC ad rd0 s.heap.size q := fun q h => Or.inr h
  have hS : va_S (AC ad rd0 s.heap.size) s.heap s.heap [] := va_S.rf
  have hl := lv_entry ([.ref (ad (0)), .int p1, .int p2]) (n := 3) (Nat.le_of_ble_eq_true rfl)
  rw [lg_entry_eq]
  generalize (lg_sl ([.ref (ad (0)), .int p1, .int p2]) ++ List.replicate (3 - (lg_sl ([.ref (ad (0)), .int p1, .int p2])).length) Slot.unset).toArray = ls at hl ⊢
  have hl : lv_has ls 3 [(0, .ref (ad (0))), (1, .int p1), (2, .int p2)] := hl
  unfold FX10_letter at hF
  replace hl := lv_sub hl [0, 1, 2] rfl
  obtain ⟨cells, ecells⟩ : ∃ z : Nat, z = 0 := ⟨_, rfl⟩
  obtain ⟨slots, eslots⟩ : ∃ z : Nat, z = 0 := ⟨_, rfl⟩
  obtain ⟨kc, ekc⟩ : ∃ z : Nat, z = KC := ⟨_, rfl⟩
  obtain ⟨ks, eks⟩ : ∃ z : Nat, z = KS := ⟨_, rfl⟩
  have hkc : cells + kc ≤ KC := by omega
  have hks : slots + ks ≤ KS := by omega
  replace hF := kcks_of hF ekc eks
  suffices hgo : W p l e (headSpec (wxX yX10_letter cX10_letter 3 (some .int)) ({ frames := 10, cells := KC, slots := KS, locals := 233 } : Room)).room s m ([.ref (ad (0)), .int p1, .int p2] : List Value).toArray below meth c s.heap [] cells slots (vx_MQ below (QXi g ad (AC ad rd0 s.heap.size) r fi' ar' ln') (XX g ad (AC ad rd0 s.heap.size) r fi' ar' ln') ([.ref (ad (0)), .int p1, .int p2] : List Value).toArray s KC KS (AC ad rd0 s.heap.size)) (F0 m 0 ls []) by rw [ecells, eslots] at hgo; exact hgo
  obtain ⟨rd, erd⟩ : ∃ z : Nat → Nat, z = rd0 := ⟨_, rfl⟩
  have hP : va_P (gD g) vwCl (WC g ad rd ln fi ar) s.heap := by rw [erd]; exact hP
  have hD : ∀ (ln : LN) (fi : FI) (ar : AR), va_D (AC ad rd0 s.heap.size) (WC g ad rd ln fi ar) := by rw [erd]; exact hD
  clear erd
  refine lv_aload_n hx hb dX10_letter_0 rfl (lv_at hl 0 rfl) ?_
  replace hF := obnd6_of hF
  obtain ⟨r5, fi2, ar3, ln4, kc7, ks8, h1, hF⟩ := hF
  replace hF := addc_of hF
  obtain ⟨kc10, ks11, e12c, e12s, hF⟩ := hF
  rcases r5 with v6 | k9
  rotate_left
  · replace hF := sumc_r hF
    exact cX_vt (As := []) (rest := []) hx hb hml hTX hown hK hE hEX hD hA hP hS (rcv_X10 hK hP) (kX10_openHere l g ad rd _ nf hlt fi ar ln (Sum.inr k9) fi2 ar3 ln4 kc7 ks8 h1) cw_X10_openHere mw37_16 ⟨⟨rfl, rfl⟩, Nat.le_of_ble_eq_true rfl, Nat.le_of_ble_eq_true rfl⟩ rfl hl.1 rfl (Nat.le_of_ble_eq_true rfl) dX10_letter_1 ⟨by show _ ≤ KC; omega, by show _ ≤ KS; omega⟩ ⟨hout, hlocks, by omega, by omega, fun rd H locs t ht hP hD hS => xx_of hF (by rw [ht]; exact hP) hD (hS.F ht)⟩
  replace hF := sumc_l hF
  refine cX_v (As := []) (rest := []) hx hb hml hTX hown hK hE hEX hD hA hP hS (rcv_X10 hK hP) (kX10_openHere l g ad rd _ nf hlt fi ar ln (Sum.inl v6) fi2 ar3 ln4 kc7 ks8 h1) cw_X10_openHere mw37_16 ⟨⟨rfl, rfl⟩, Nat.le_of_ble_eq_true rfl, Nat.le_of_ble_eq_true rfl⟩ rfl hl.1 rfl (Nat.le_of_ble_eq_true rfl) dX10_letter_1 ⟨by show _ ≤ KC; omega, by show _ ≤ KS; omega⟩ (fun rd H locs hP hD hS => ?_)
  replace hkc : cells + kc7 + kc10 ≤ KC := by omega
  replace hks : slots + ks8 + ks11 ≤ KS := by omega
  refine lv_aload_n hx hb dX10_letter_4 rfl (lv_at hl 0 rfl) ?_
  refine lv_iload_n hx hb dX10_letter_5 rfl (lv_at hl 1 rfl) ?_
  replace hF := obnd6_of hF
  obtain ⟨r17, fi14, ar15, ln16, kc19, ks20, h13, hF⟩ := hF
  replace hF := addc_of hF
  obtain ⟨kc22, ks23, e24c, e24s, hF⟩ := hF
  rcases r17 with v18 | k21
  rotate_left
  · replace hF := sumc_r hF
    exact cX_it (As := [.int (p1)]) (rest := []) hx hb hml hTX hown hK hE hEX hD hA hP hS (rcv_X10 hK hP) (kX10_itemAt l g ad rd _ nf hlt fi2 ar3 ln4 (p1) (Sum.inr k21) fi14 ar15 ln16 kc19 ks20 h13) cw_X10_itemAt mw39_6 ⟨⟨rfl, rfl⟩, Nat.le_of_ble_eq_true rfl, Nat.le_of_ble_eq_true rfl⟩ rfl hl.1 rfl (Nat.le_of_ble_eq_true rfl) dX10_letter_6 ⟨by show _ ≤ KC; omega, by show _ ≤ KS; omega⟩ ⟨hout, hlocks, by omega, by omega, fun rd H locs t ht hP hD hS => xx_of hF (by rw [ht]; exact hP) hD (hS.F ht)⟩
  replace hF := sumc_l hF
  refine cX_i (As := [.int (p1)]) (rest := []) hx hb hml hTX hown hK hE hEX hD hA hP hS (rcv_X10 hK hP) (kX10_itemAt l g ad rd _ nf hlt fi2 ar3 ln4 (p1) (Sum.inl v18) fi14 ar15 ln16 kc19 ks20 h13) cw_X10_itemAt mw39_6 ⟨⟨rfl, rfl⟩, Nat.le_of_ble_eq_true rfl, Nat.le_of_ble_eq_true rfl⟩ rfl hl.1 rfl (Nat.le_of_ble_eq_true rfl) dX10_letter_6 ⟨by show _ ≤ KC; omega, by show _ ≤ KS; omega⟩ (fun rd H locs hP hD hS => ?_)
  replace hkc : cells + kc7 + kc19 + kc22 ≤ KC := by omega
  replace hks : slots + ks8 + ks20 + ks23 ≤ KS := by omega
  refine lv_pop hx hb dX10_letter_9 rfl ?_
  refine lv_aload_n hx hb dX10_letter_10 rfl (lv_at hl 0 rfl) ?_
  refine cg_X10_name hx hb hT hown hK hP mw3_0 dX10_letter_11 ?_
  refine lv_aload_n hx hb dX10_letter_14 rfl (lv_at hl 0 rfl) ?_
  refine cg_X10_here hx hb hT hown hK hP mw2_19 dX10_letter_15 ?_
  refine lv_aload_n hx hb dX10_letter_18 rfl (lv_at hl 0 rfl) ?_
  refine cg_X10_here hx hb hT hown hK hP mw2_19 dX10_letter_19 ?_
  refine lv_iload_n hx hb dX10_letter_22 rfl (lv_at hl 1 rfl) ?_
  replace hF := obnd3_of hF
  obtain ⟨r28, fi26, ar27, h25, hF⟩ := hF
  refine cC_i (As := [.int (p1)]) (rest := [.ref (ad (11 + 5 * 0)), .ref (ad (26 + 2 * 0))]) hx hb hml hT hown hK hE (hD _) hA hP hS (rcv_X2 (by decide) hK hP) (kX2_slotOf l g ad rd _ nf ln16 0 (by decide) fi14 ar15 (p1) r28 fi26 ar27 h25) cw_X2_slotOf mw39_12 ⟨⟨rfl, rfl⟩, Nat.le_of_ble_eq_true rfl, Nat.le_of_ble_eq_true rfl⟩ rfl hl.1 rfl (Nat.le_of_ble_eq_true rfl) dX10_letter_23 ⟨by show _ ≤ KC; omega, by show _ ≤ KS; omega⟩ (fun H locs hP hS => ?_)
  refine lv_aload_n hx hb dX10_letter_26 rfl (lv_at hl 0 rfl) ?_
  refine cg_X10_here hx hb hT hown hK hP mw2_19 dX10_letter_27 ?_
  refine lv_iload_n hx hb dX10_letter_30 rfl (lv_at hl 1 rfl) ?_
  replace hF := obnd3_of hF
  obtain ⟨r32, fi30, ar31, h29, hF⟩ := hF
  refine cC_i (As := [.int (p1)]) (rest := [.int (r28), .ref (ad (11 + 5 * 0)), .ref (ad (26 + 2 * 0))]) hx hb hml hT hown hK hE (hD _) hA hP hS (rcv_X2 (by decide) hK hP) (kX2_partsOf l g ad rd _ nf ln16 0 (by decide) fi26 ar27 (p1) r32 fi30 ar31 h29) cw_X2_partsOf mw39_14 ⟨⟨rfl, rfl⟩, Nat.le_of_ble_eq_true rfl, Nat.le_of_ble_eq_true rfl⟩ rfl hl.1 rfl (Nat.le_of_ble_eq_true rfl) dX10_letter_31 ⟨by show _ ≤ KC; omega, by show _ ≤ KS; omega⟩ (fun H locs hP hS => ?_)
  replace hF := obnd3_of hF
  obtain ⟨r36, fi34, ar35, h33, hF⟩ := hF
  refine cC_v (As := [.ref (ad (11 + 5 * 0)), .int (r28), .int (r32)]) (rest := []) hx hb hml hT hown hK hE (hD _) hA hP hS (rcv_X6 (by decide) hK hP) (kX6_read l g ad rd _ nf ln16 0 0 (by decide) (by decide) fi30 ar31 (r28) (r32) r36 fi34 ar35 h33) cw_X6_read mw39_15 ⟨⟨rfl, rfl⟩, Nat.le_of_ble_eq_true rfl, Nat.le_of_ble_eq_true rfl⟩ rfl hl.1 rfl (Nat.le_of_ble_eq_true rfl) dX10_letter_34 ⟨by show _ ≤ KC; omega, by show _ ≤ KS; omega⟩ (fun H locs hP hS => ?_)
  refine lv_aload_n hx hb dX10_letter_37 rfl (lv_at hl 0 rfl) ?_
  refine cg_X10_name hx hb hT hown hK hP mw3_0 dX10_letter_38 ?_
  refine lv_iload_n hx hb dX10_letter_41 rfl (lv_at hl 2 rfl) ?_
  replace hF := obnd3_of hF
  obtain ⟨r40, fi38, ar39, h37, hF⟩ := hF
  refine cC_i (As := [.int (p2)]) (rest := []) hx hb hml hT hown hK hE (hD _) hA hP hS (rcv_X6 (by decide) hK hP) (kX6_encodedByte l g ad rd _ nf ln16 0 (by decide) fi34 ar35 (p2) r40 fi38 ar39 h37) cw_X6_encodedByte mw39_16 ⟨⟨rfl, rfl⟩, Nat.le_of_ble_eq_true rfl, Nat.le_of_ble_eq_true rfl⟩ rfl hl.1 rfl (Nat.le_of_ble_eq_true rfl) dX10_letter_42 ⟨by show _ ≤ KC; omega, by show _ ≤ KS; omega⟩ (fun H locs hP hS => ?_)
  refine W.widen (k := KC) (n := KS) (by omega) (by omega) ?_
  exact rX_i hx hb hr hlocks hF hP hD hS dX10_letter_45
theorem cw_X10_letter : (Cond.instanceMethod yX10_letter ∈ TB ∧ Cond.selects RX10 yX10_letter yX10_letter ∈ TB ∧ Cond.code yX10_letter cX10_letter 3 (some .int) ∈ TB ∧ Cond.initialized RX10 ∈ TB) ∧ (yX10_letter.cls = RX10 ∧ yX10_letter.cls ≠ "java/lang/invoke/MethodHandle" ∧ yX10_letter.cls ≠ "java/lang/invoke/VarHandle" ∧ (parseMethodDescriptor yX10_letter.desc).map (fun d => d.parameters.length) = some 2) := ⟨⟨mw39_3, mw39_4, mw39_5, mw1_2⟩, by decide +kernel⟩
