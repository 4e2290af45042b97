/-! X10_cut -/
noncomputable def FX10_cut_80 (nf : Nat) (x2 : Int32) (x3 : Int32) (x6 : Int32) (fi : FI) (ar : AR) (ln : LN) : Option ((Int32 ⊕ Nat) × FI × AR × LN × Nat × Nat) :=
  obnd3 (FX3_putFour nf ln fi ar ((x3) + (28 : Int32)) (x2)) fun r4 fi2 ar3 => some (Sum.inl (x6), fi2, ar3, ln, 0, 0)
noncomputable def FX10_cut_33 (nf : Nat)  (fi : FI) (ar : AR) (ln : LN) : Option ((Int32 ⊕ Nat) × FI × AR × LN × Nat × Nat) :=
  some (Sum.inr 2, fi, ar, ln, 1, 6)
noncomputable def FX10_cut (nf : Nat) (fi : FI) (ar : AR) (ln : LN) (x1 : Int32) (x2 : Int32) : Option ((Int32 ⊕ Nat) × FI × AR × LN × Nat × Nat) :=
  obnd6 (FX10_openHere nf fi ar ln) fun r9 fi6 ar7 ln8 kc11 ks12 => addc (kc11) (ks12) (sumc r9 (fun v10 => obnd6 (FX10_fileAt nf fi6 ar7 ln8 (x1)) fun r21 fi18 ar19 ln20 kc23 ks24 => addc (kc23) (ks24) (sumc r21 (fun v22 => obnd3 (FX3_four nf ln20 fi18 ar19 ((v22) + (28 : Int32))) fun r32 fi30 ar31 => br ((x2) < 0) (FX10_cut_33 nf  fi30 ar31 ln20) (br ((x2) ≤ (r32)) (obnd3 (FX9_clustersFor nf ln20 fi30 ar31 (x2)) fun r38 fi36 ar37 => obnd3 (FX9_clustersFor nf ln20 fi36 ar37 (r32)) fun r42 fi40 ar41 => bnd ((r42) - (r38)) fun x6_43 => br ((x6_43) ≤ 0) (FX10_cut_80 nf  (x2) (v22) (x6_43) fi40 ar41 ln20) (obnd3 (FX10_shorten nf ln20 fi40 ar41 (v22) (r38)) fun r48 fi46 ar47 => FX10_cut_80 nf  (x2) (v22) (x6_43) fi46 ar47 ln20)) (FX10_cut_33 nf  fi30 ar31 ln20))) (fun k25 => some (Sum.inr k25, fi18, ar19, ln20, 0, 0)))) (fun k13 => some (Sum.inr k13, fi6, ar7, ln8, 0, 0)))
set_option maxHeartbeats 8000000 in
set_option maxRecDepth 100000 in
theorem kX10_cut (l : Launch) (g : GT) (ad rd0 : Nat → Nat) (sz : Nat) (nf : Nat) (hlt : l.stackTraces = false) (fi : FI) (ar : AR) (ln : LN) (p1 : Int32) (p2 : Int32) (r : (Int32 ⊕ Nat)) (fi' : FI) (ar' : AR) (ln' : LN) (KC KS : Nat) (hF : FX10_cut nf fi ar ln p1 p2 = some (r, fi', ar', ln', KC, KS)) : vx_Met l yX10_cut (wxX yX10_cut cX10_cut 7 (some .int)) ({ frames := 10, cells := KC, slots := KS, locals := 233 } : Room) (va_Pc [.ref (ad (0)), .int p1, .int p2] (PX g ad rd0 ln sz fi ar)) (QXi g ad (AC ad rd0 sz) r fi' ar' ln') (XX g ad (AC ad rd0 sz) r fi' ar' ln') KC KS (AC ad rd0 sz) := by
  refine vx_ofW (cc := cX10_cut) (maxL := 7) (ret := (some .int)) (by decide) rfl ?_
  intro p e s m args below meth c s₁ B hml hout hv
  obtain ⟨rfl, ⟨hsz, hP, hK, hD0, hE⟩, hEX⟩ := hv
  have hx := B.exec
  have hb := B.bytes
  have hr := B.returns
  have hts := atoms_spec (ws := (wxX yX10_cut cX10_cut 7 (some .int))) B.pre
  have hTX : ∀ w ∈ TBX, w.before _ s = true := fun w h => hts w (List.mem_cons_of_mem _ h)
  have hT : ∀ w ∈ TB, w.before _ s = true := fun w h => hTX w (tbx0 w h)
  have hown : s.vm.findClass RX10 = some m.cls := findClass_of_methodNamed B.named
  have hlocks := B.notSynchronized
  subst hsz
  have hD : ∀ (ln : LN) (fi : FI) (ar : AR), va_D (AC ad rd0 s.heap.size) (WC g ad rd0 ln fi ar) := dCre (dC hD0 s.heap.size fi ar) (fun _ h => h)
  have hA : ∀ q : Nat, s.heap.size ≤ q → AC ad rd0 s.heap.size q := fun q h => Or.inr h
  have hS : va_S (AC ad rd0 s.heap.size) s.heap s.heap [] := va_S.rf
  have hl := lv_entry ([.ref (ad (0)), .int p1, .int p2]) (n := 7) (Nat.le_of_ble_eq_true rfl)
  rw [lg_entry_eq]
  generalize (lg_sl ([.ref (ad (0)), .int p1, .int p2]) ++ List.replicate (7 - (lg_sl ([.ref (ad (0)), .int p1, .int p2])).length) Slot.unset).toArray = ls at hl ⊢
  have hl : lv_has ls 7 [(0, .ref (ad (0))), (1, .int p1), (2, .int p2)] := hl
  unfold FX10_cut at hF
  have J80 : ∀ (x2 : Int32) (x3 : Int32) (x6 : Int32) (fi : FI) (ar : AR) (ln : LN) (kc ks cells slots : Nat) (rd : Nat → Nat) (H : Heap) (locs : List Loc) (ls : Array Slot), FX10_cut_80 nf x2 x3 x6 fi ar ln = some (r, fi', ar', ln', kc, ks) → cells + kc ≤ KC → slots + ks ≤ KS → lv_has ls 7 [(0, .ref (ad (0))), (2, .int x2), (3, .int x3), (6, .int x6)] → va_P (gD g) vwCl (WC g ad rd ln fi ar) H → (∀ (ln : LN) (fi : FI) (ar : AR), va_D (AC ad rd0 s.heap.size) (WC g ad rd ln fi ar)) → va_S (AC ad rd0 s.heap.size) s.heap H locs → W p l e (headSpec (wxX yX10_cut cX10_cut 7 (some .int)) ({ frames := 10, cells := KC, slots := KS, locals := 233 } : Room)).room s m ([.ref (ad (0)), .int p1, .int p2] : List Value).toArray below meth c H locs cells slots (vx_MQ below (QXi g ad (AC ad rd0 s.heap.size) r fi' ar' ln') (XX g ad (AC ad rd0 s.heap.size) r fi' ar' ln') ([.ref (ad (0)), .int p1, .int p2] : List Value).toArray s KC KS (AC ad rd0 s.heap.size)) (F0 m 80 ls []) := by
    intro x2 x3 x6 fi ar ln kc ks cells slots rd H locs ls hF hkc hks hl hP hD hS
    unfold FX10_cut_80 at hF
    refine lv_aload_n hx hb dX10_cut_80 rfl (lv_at hl 0 rfl) ?_
    refine cg_X10_disk hx hb hT hown hK hP mw2_3 dX10_cut_81 ?_
    refine lv_iload_n hx hb dX10_cut_84 rfl (lv_at hl 2 rfl) ?_
    refine lv_bipush (v := (28 : Int32)) hx hb dX10_cut_85 (by decide) ?_
    refine lv_iadd hx hb dX10_cut_87 ?_
    refine lv_iload_n hx hb dX10_cut_88 rfl (lv_at hl 1 rfl) ?_
    replace hF := obnd3_of hF
    obtain ⟨r4, fi2, ar3, h1, hF⟩ := hF
    refine cC_v (As := [.int ((x3) + (28 : Int32)), .int (x2)]) (rest := []) hx hb hml hT hown hK hE (hD _) hA hP hS (rcv_X3 hK hP) (kX3_putFour l g ad rd _ nf ln fi ar ((x3) + (28 : Int32)) (x2) r4 fi2 ar3 h1) cw_X3_putFour mw52_17 ⟨⟨rfl, rfl⟩, Nat.le_of_ble_eq_true rfl, Nat.le_of_ble_eq_true rfl⟩ rfl hl.1 rfl (Nat.le_of_ble_eq_true rfl) dX10_cut_89 ⟨by show _ ≤ KC; omega, by show _ ≤ KS; omega⟩ (fun H locs hP hS => ?_)
    refine lv_iload hx hb dX10_cut_92 (lv_at hl 3 rfl) ?_
    refine W.widen (k := KC) (n := KS) (by omega) (by omega) ?_
    exact rX_i hx hb hr hlocks hF hP hD hS dX10_cut_94
  have J33 : ∀  (fi : FI) (ar : AR) (ln : LN) (kc ks cells slots : Nat) (rd : Nat → Nat) (H : Heap) (locs : List Loc) (ls : Array Slot), FX10_cut_33 nf fi ar ln = some (r, fi', ar', ln', kc, ks) → cells + kc ≤ KC → slots + ks ≤ KS → lv_has ls 7 [(0, .ref (ad (0)))] → va_P (gD g) vwCl (WC g ad rd ln fi ar) H → (∀ (ln : LN) (fi : FI) (ar : AR), va_D (AC ad rd0 s.heap.size) (WC g ad rd ln fi ar)) → va_S (AC ad rd0 s.heap.size) s.heap H locs → W p l e (headSpec (wxX yX10_cut cX10_cut 7 (some .int)) ({ frames := 10, cells := KC, slots := KS, locals := 233 } : Room)).room s m ([.ref (ad (0)), .int p1, .int p2] : List Value).toArray below meth c H locs cells slots (vx_MQ below (QXi g ad (AC ad rd0 s.heap.size) r fi' ar' ln') (XX g ad (AC ad rd0 s.heap.size) r fi' ar' ln') ([.ref (ad (0)), .int p1, .int p2] : List Value).toArray s KC KS (AC ad rd0 s.heap.size)) (F0 m 33 ls []) := by
    intro fi ar ln kc ks cells slots rd H locs ls hF hkc hks hl hP hD hS
    unfold FX10_cut_33 at hF
    obtain ⟨sa, hsa⟩ := hEX.1.2.2.2.2.2.2.2.2.2.2.2.2.1
    obtain ⟨hq1, hq2⟩ := cost_of hF
    refine vx_throwSW (cls := "java/lang/IllegalArgumentException") (names := ["java/lang/RuntimeException", "java/lang/Exception"]) (sa := sa) (A := AC ad rd0 s.heap.size) hx hb hlt hown (by decide) (by decide) (hT _ mw9_3) (hT _ mw9_4) hsa (vx_hat (fun w h => hTX w (tbx3 w h)) (by rw [vxb_2]; exact fun _ h => h) (vx_c (va_tabs rfl rfl hEX.2.2.2.2.2.1) (vx_c (va_tabs rfl rfl hEX.2.2.2.2.2.2.1) (vx_c (va_tabs rfl rfl hEX.2.2.2.2.2.2.2) (vx_c (va_tabs rfl rfl hEX.2.2.2.1) vx_n))))) vxg_2 hEX.1.1 hEX.1.2.1 hS (by rw [hml]; exact hl.1) dX10_cut_33 dX10_cut_36 dX10_cut_37 dX10_cut_40 dX10_cut_43 (fun x hx => (hout x hx).elim) (Nat.le_of_ble_eq_true rfl) (Nat.le_of_ble_eq_true rfl) (by show _ ≤ KC; omega) (by show _ ≤ KS; omega) hlocks (fun t _ hz hk => ?_) hS.2.2 (by omega) (by omega)
    exact xx_of (k := 2) hF (hP.kept (fun k q h => hk q.1 (hP k q h).lt)) hD ⟨Nat.le_trans hS.1 hz, fun q h1 h2 => by rw [hk q (Nat.lt_of_lt_of_le h1 hS.1)]; exact hS.2.1 q h1 h2⟩
  replace hl := lv_sub hl [0, 1, 2] rfl
  obtain ⟨cells, ecells⟩ : ∃ z : Nat, z = 0 := ⟨_, rfl⟩
  obtain ⟨slots, eslots⟩ : ∃ z : Nat, z = 0 := ⟨_, rfl⟩
  obtain ⟨kc, ekc⟩ : ∃ z : Nat, z = KC := ⟨_, rfl⟩
  obtain ⟨ks, eks⟩ : ∃ z : Nat, z = KS := ⟨_, rfl⟩
  have hkc : cells + kc ≤ KC := by omega
  have hks : slots + ks ≤ KS := by omega
  replace hF := kcks_of hF ekc eks
  suffices hgo : W p l e (headSpec (wxX yX10_cut cX10_cut 7 (some .int)) ({ frames := 10, cells := KC, slots := KS, locals := 233 } : Room)).room s m ([.ref (ad (0)), .int p1, .int p2] : List Value).toArray below meth c s.heap [] cells slots (vx_MQ below (QXi g ad (AC ad rd0 s.heap.size) r fi' ar' ln') (XX g ad (AC ad rd0 s.heap.size) r fi' ar' ln') ([.ref (ad (0)), .int p1, .int p2] : List Value).toArray s KC KS (AC ad rd0 s.heap.size)) (F0 m 0 ls []) by rw [ecells, eslots] at hgo; exact hgo
  obtain ⟨rd, erd⟩ : ∃ z : Nat → Nat, z = rd0 := ⟨_, rfl⟩
  have hP : va_P (gD g) vwCl (WC g ad rd ln fi ar) s.heap := by rw [erd]; exact hP
  have hD : ∀ (ln : LN) (fi : FI) (ar : AR), va_D (AC ad rd0 s.heap.size) (WC g ad rd ln fi ar) := by rw [erd]; exact hD
  clear erd
  refine lv_aload_n hx hb dX10_cut_0 rfl (lv_at hl 0 rfl) ?_
  replace hF := obnd6_of hF
  obtain ⟨r9, fi6, ar7, ln8, kc11, ks12, h5, hF⟩ := hF
  replace hF := addc_of hF
  obtain ⟨kc14, ks15, e16c, e16s, hF⟩ := hF
  rcases r9 with v10 | k13
  rotate_left
  · replace hF := sumc_r hF
    exact cX_vt (As := []) (rest := []) hx hb hml hTX hown hK hE hEX hD hA hP hS (rcv_X10 hK hP) (kX10_openHere l g ad rd _ nf hlt fi ar ln (Sum.inr k13) fi6 ar7 ln8 kc11 ks12 h5) cw_X10_openHere mw37_16 ⟨⟨rfl, rfl⟩, Nat.le_of_ble_eq_true rfl, Nat.le_of_ble_eq_true rfl⟩ rfl hl.1 rfl (Nat.le_of_ble_eq_true rfl) dX10_cut_1 ⟨by show _ ≤ KC; omega, by show _ ≤ KS; omega⟩ ⟨hout, hlocks, by omega, by omega, fun rd H locs t ht hP hD hS => xx_of hF (by rw [ht]; exact hP) hD (hS.F ht)⟩
  replace hF := sumc_l hF
  refine cX_v (As := []) (rest := []) hx hb hml hTX hown hK hE hEX hD hA hP hS (rcv_X10 hK hP) (kX10_openHere l g ad rd _ nf hlt fi ar ln (Sum.inl v10) fi6 ar7 ln8 kc11 ks12 h5) cw_X10_openHere mw37_16 ⟨⟨rfl, rfl⟩, Nat.le_of_ble_eq_true rfl, Nat.le_of_ble_eq_true rfl⟩ rfl hl.1 rfl (Nat.le_of_ble_eq_true rfl) dX10_cut_1 ⟨by show _ ≤ KC; omega, by show _ ≤ KS; omega⟩ (fun rd H locs hP hD hS => ?_)
  replace hkc : cells + kc11 + kc14 ≤ KC := by omega
  replace hks : slots + ks12 + ks15 ≤ KS := by omega
  refine lv_aload_n hx hb dX10_cut_4 rfl (lv_at hl 0 rfl) ?_
  refine lv_iload_n hx hb dX10_cut_5 rfl (lv_at hl 1 rfl) ?_
  replace hF := obnd6_of hF
  obtain ⟨r21, fi18, ar19, ln20, kc23, ks24, h17, hF⟩ := hF
  replace hF := addc_of hF
  obtain ⟨kc26, ks27, e28c, e28s, hF⟩ := hF
  rcases r21 with v22 | k25
  rotate_left
  · replace hF := sumc_r hF
    exact cX_it (As := [.int (p1)]) (rest := []) hx hb hml hTX hown hK hE hEX hD hA hP hS (rcv_X10 hK hP) (kX10_fileAt l g ad rd _ nf hlt fi6 ar7 ln8 (p1) (Sum.inr k25) fi18 ar19 ln20 kc23 ks24 h17) cw_X10_fileAt mw50_21 ⟨⟨rfl, rfl⟩, Nat.le_of_ble_eq_true rfl, Nat.le_of_ble_eq_true rfl⟩ rfl hl.1 rfl (Nat.le_of_ble_eq_true rfl) dX10_cut_6 ⟨by show _ ≤ KC; omega, by show _ ≤ KS; omega⟩ ⟨hout, hlocks, by omega, by omega, fun rd H locs t ht hP hD hS => xx_of hF (by rw [ht]; exact hP) hD (hS.F ht)⟩
  replace hF := sumc_l hF
  refine cX_i (As := [.int (p1)]) (rest := []) hx hb hml hTX hown hK hE hEX hD hA hP hS (rcv_X10 hK hP) (kX10_fileAt l g ad rd _ nf hlt fi6 ar7 ln8 (p1) (Sum.inl v22) fi18 ar19 ln20 kc23 ks24 h17) cw_X10_fileAt mw50_21 ⟨⟨rfl, rfl⟩, Nat.le_of_ble_eq_true rfl, Nat.le_of_ble_eq_true rfl⟩ rfl hl.1 rfl (Nat.le_of_ble_eq_true rfl) dX10_cut_6 ⟨by show _ ≤ KC; omega, by show _ ≤ KS; omega⟩ (fun rd H locs hP hD hS => ?_)
  replace hkc : cells + kc11 + kc23 + kc26 ≤ KC := by omega
  replace hks : slots + ks12 + ks24 + ks27 ≤ KS := by omega
  refine lv_istore_n (lv' := [(3, .int (v22)), (0, .ref (ad (0))), (1, .int (p1)), (2, .int (p2))]) hx hb dX10_cut_9 rfl hl (by decide) rfl (fun ls hl => ?_)
  refine lv_aload_n hx hb dX10_cut_10 rfl (lv_at hl 1 rfl) ?_
  refine cg_X10_disk hx hb hT hown hK hP mw2_3 dX10_cut_11 ?_
  refine lv_iload_n hx hb dX10_cut_14 rfl (lv_at hl 0 rfl) ?_
  refine lv_bipush (v := (28 : Int32)) hx hb dX10_cut_15 (by decide) ?_
  refine lv_iadd hx hb dX10_cut_17 ?_
  replace hF := obnd3_of hF
  obtain ⟨r32, fi30, ar31, h29, hF⟩ := hF
  refine cC_i (As := [.int ((v22) + (28 : Int32))]) (rest := []) hx hb hml hT hown hK hE (hD _) hA hP hS (rcv_X3 hK hP) (kX3_four l g ad rd _ nf ln20 fi18 ar19 ((v22) + (28 : Int32)) r32 fi30 ar31 h29) cw_X3_four mw41_22 ⟨⟨rfl, rfl⟩, Nat.le_of_ble_eq_true rfl, Nat.le_of_ble_eq_true rfl⟩ rfl hl.1 rfl (Nat.le_of_ble_eq_true rfl) dX10_cut_18 ⟨by show _ ≤ KC; omega, by show _ ≤ KS; omega⟩ (fun H locs hP hS => ?_)
  refine lv_istore (lv' := [(4, .int (r32)), (3, .int (v22)), (0, .ref (ad (0))), (1, .int (p1)), (2, .int (p2))]) hx hb dX10_cut_21 hl (by decide) rfl (fun ls hl => ?_)
  refine lv_iload_n hx hb dX10_cut_23 rfl (lv_at hl 4 rfl) ?_
  refine lv_if_lt (tgt := 33) hx hb dX10_cut_24 (by decide) (fun hc33 => ?_) (fun hc33 => ?_)
  · replace hF := br_yes hF hc33
    exact J33  _ _ _ _ _ _ _ _ _ _ _ hF hkc hks (lv_sub hl [2] rfl) hP hD hS
  · replace hF := br_no hF hc33
    refine lv_iload_n hx hb dX10_cut_27 rfl (lv_at hl 4 rfl) ?_
    refine lv_iload hx hb dX10_cut_28 (lv_at hl 0 rfl) ?_
    refine lv_icmp_le (tgt := 44) hx hb dX10_cut_30 (by decide) (fun hc34 => ?_) (fun hc34 => ?_)
    · replace hF := br_yes hF hc34
      refine lv_aload_n hx hb dX10_cut_44 rfl (lv_at hl 2 rfl) ?_
      refine cg_X10_volume hx hb hT hown hK hP mw2_11 dX10_cut_45 ?_
      refine lv_iload_n hx hb dX10_cut_48 rfl (lv_at hl 4 rfl) ?_
      replace hF := obnd3_of hF
      obtain ⟨r38, fi36, ar37, h35, hF⟩ := hF
      refine cC_i (As := [.int (p2)]) (rest := []) hx hb hml hT hown hK hE (hD _) hA hP hS (rcv_X9 hK hP) (kX9_clustersFor l g ad rd _ nf ln20 fi30 ar31 (p2) r38 fi36 ar37 h35) cw_X9_clustersFor mw51_12 ⟨⟨rfl, rfl⟩, Nat.le_of_ble_eq_true rfl, Nat.le_of_ble_eq_true rfl⟩ rfl hl.1 rfl (Nat.le_of_ble_eq_true rfl) dX10_cut_49 ⟨by show _ ≤ KC; omega, by show _ ≤ KS; omega⟩ (fun H locs hP hS => ?_)
      refine lv_istore (lv' := [(5, .int (r38)), (4, .int (r32)), (3, .int (v22)), (0, .ref (ad (0))), (1, .int (p1)), (2, .int (p2))]) hx hb dX10_cut_52 hl (by decide) rfl (fun ls hl => ?_)
      refine lv_aload_n hx hb dX10_cut_54 rfl (lv_at hl 3 rfl) ?_
      refine cg_X10_volume hx hb hT hown hK hP mw2_11 dX10_cut_55 ?_
      refine lv_iload hx hb dX10_cut_58 (lv_at hl 1 rfl) ?_
      replace hF := obnd3_of hF
      obtain ⟨r42, fi40, ar41, h39, hF⟩ := hF
      refine cC_i (As := [.int (r32)]) (rest := []) hx hb hml hT hown hK hE (hD _) hA hP hS (rcv_X9 hK hP) (kX9_clustersFor l g ad rd _ nf ln20 fi36 ar37 (r32) r42 fi40 ar41 h39) cw_X9_clustersFor mw51_12 ⟨⟨rfl, rfl⟩, Nat.le_of_ble_eq_true rfl, Nat.le_of_ble_eq_true rfl⟩ rfl hl.1 rfl (Nat.le_of_ble_eq_true rfl) dX10_cut_60 ⟨by show _ ≤ KC; omega, by show _ ≤ KS; omega⟩ (fun H locs hP hS => ?_)
      refine lv_iload hx hb dX10_cut_63 (lv_at hl 0 rfl) ?_
      refine lv_isub hx hb dX10_cut_65 ?_
      obtain ⟨x6_43, ex6_43⟩ : ∃ y : Int32, y = ((r42) - (r38)) := ⟨_, rfl⟩
      rw [← ex6_43]
      replace hF := bnd_of hF ex6_43
      refine lv_istore (lv' := [(6, .int (x6_43)), (5, .int (r38)), (4, .int (r32)), (3, .int (v22)), (0, .ref (ad (0))), (1, .int (p1)), (2, .int (p2))]) hx hb dX10_cut_66 hl (by decide) rfl (fun ls hl => ?_)
      refine lv_iload hx hb dX10_cut_68 (lv_at hl 0 rfl) ?_
      refine lv_if_le (tgt := 80) hx hb dX10_cut_70 (by decide) (fun hc44 => ?_) (fun hc44 => ?_)
      · replace hF := br_yes hF hc44
        exact J80 (p2) (v22) (x6_43) _ _ _ _ _ _ _ _ _ _ _ hF hkc hks (lv_sub hl [4, 6, 3, 0] rfl) hP hD hS
      · replace hF := br_no hF hc44
        refine lv_aload_n hx hb dX10_cut_73 rfl (lv_at hl 4 rfl) ?_
        refine lv_iload_n hx hb dX10_cut_74 rfl (lv_at hl 3 rfl) ?_
        refine lv_iload hx hb dX10_cut_75 (lv_at hl 1 rfl) ?_
        replace hF := obnd3_of hF
        obtain ⟨r48, fi46, ar47, h45, hF⟩ := hF
        refine cC_v (As := [.int (v22), .int (r38)]) (rest := []) hx hb hml hT hown hK hE (hD _) hA hP hS (rcv_X10 hK hP) (kX10_shorten l g ad rd _ nf ln20 fi40 ar41 (v22) (r38) r48 fi46 ar47 h45) cw_X10_shorten mw54_2 ⟨⟨rfl, rfl⟩, Nat.le_of_ble_eq_true rfl, Nat.le_of_ble_eq_true rfl⟩ rfl hl.1 rfl (Nat.le_of_ble_eq_true rfl) dX10_cut_77 ⟨by show _ ≤ KC; omega, by show _ ≤ KS; omega⟩ (fun H locs hP hS => ?_)
        exact J80 (p2) (v22) (x6_43) _ _ _ _ _ _ _ _ _ _ _ hF hkc hks (lv_sub hl [4, 6, 3, 0] rfl) hP hD hS
    · replace hF := br_no hF hc34
      exact J33  _ _ _ _ _ _ _ _ _ _ _ hF hkc hks (lv_sub hl [2] rfl) hP hD hS
theorem cw_X10_cut : (Cond.instanceMethod yX10_cut ∈ TB ∧ Cond.selects RX10 yX10_cut yX10_cut ∈ TB ∧ Cond.code yX10_cut cX10_cut 7 (some .int) ∈ TB ∧ Cond.initialized RX10 ∈ TB) ∧ (yX10_cut.cls = RX10 ∧ yX10_cut.cls ≠ "java/lang/invoke/MethodHandle" ∧ yX10_cut.cls ≠ "java/lang/invoke/VarHandle" ∧ (parseMethodDescriptor yX10_cut.desc).map (fun d => d.parameters.length) = some 2) := ⟨⟨mw53_23, mw54_0, mw54_1, mw1_2⟩, by decide +kernel⟩
/-! X10_remove -/
noncomputable def FX10_remove_79b (K79 : Int32 → Int32 → Int32 → FI → AR → LN → Option ((Unit ⊕ Nat) × FI × AR × LN × Nat × Nat)) (nf : Nat) (x3 : Int32) (x4 : Int32) (x5 : Int32) (fi : FI) (ar : AR) (ln : LN) : Option ((Unit ⊕ Nat) × FI × AR × LN × Nat × Nat) :=
  br ((x4) < (x5)) (obnd3 (FX9_release nf ln fi ar (x3)) fun r5 fi3 ar4 => some (Sum.inl (), fi3, ar4, ln, 0, 0)) (obnd3 (FX2_slotAddress nf ln 0 fi ar (x5)) fun r9 fi7 ar8 => obnd3 (FX3_putOne nf ln fi7 ar8 (r9) (229 : Int32)) fun r13 fi11 ar12 => bnd ((x5) + (1 : Int32)) fun x5_14 => K79 (x3) (x4) (x5_14) fi11 ar12 ln)
noncomputable def FX10_remove_79 (nf : Nat) (kf : Nat) : Int32 → Int32 → Int32 → FI → AR → LN → Option ((Unit ⊕ Nat) × FI × AR × LN × Nat × Nat) := Nat.rec (fun _ _ _ _ _ _ => none) (fun _ K79 => FX10_remove_79b K79 nf) kf
noncomputable def FX10_remove_56 (nf : Nat) (x1 : Int32) (x3 : Int32) (fi : FI) (ar : AR) (ln : LN) : Option ((Unit ⊕ Nat) × FI × AR × LN × Nat × Nat) :=
  obnd3 (FX2_slotOf nf ln 0 fi ar (x1)) fun r18 fi16 ar17 => obnd3 (FX2_partsOf nf ln 0 fi16 ar17 (x1)) fun r22 fi20 ar21 => bnd ((r18) - (r22)) fun x5_23 => FX10_remove_79 nf nf (x3) (r18) (x5_23) fi20 ar21 ln
noncomputable def FX10_remove (nf : Nat) (fi : FI) (ar : AR) (ln : LN) (x1 : Int32) : Option ((Unit ⊕ Nat) × FI × AR × LN × Nat × Nat) :=
  obnd6 (FX10_openHere nf fi ar ln) fun r28 fi25 ar26 ln27 kc30 ks31 => addc (kc30) (ks31) (sumc r28 (fun v29 => obnd6 (FX10_itemAt nf fi25 ar26 ln27 (x1)) fun r40 fi37 ar38 ln39 kc42 ks43 => addc (kc42) (ks43) (sumc r40 (fun v41 => obnd3 (FX3_firstCluster nf ln39 fi37 ar38 (v41)) fun r51 fi49 ar50 => obnd3 (FX10_isDirectory nf ln39 fi49 ar50 (v41)) fun r55 fi53 ar54 => br ((r55) = 0) (FX10_remove_56 nf  (x1) (r51) fi53 ar54 ln39) (obnd6 (FX2_list nf 1 fi53 ar54 ln39 (r51)) fun r61 fi58 ar59 ln60 kc62 ks63 => addc (kc62) (ks63) (br ((fi58 (20 + 10 * 1)) ≤ 0) (FX10_remove_56 nf  (x1) (r51) fi58 ar59 ln60) (some (Sum.inr 2, fi58, ar59, ln60, 1, 6))))) (fun k44 => some (Sum.inr k44, fi37, ar38, ln39, 0, 0)))) (fun k32 => some (Sum.inr k32, fi25, ar26, ln27, 0, 0)))
set_option maxHeartbeats 8000000 in
set_option maxRecDepth 100000 in
theorem kX10_remove (l : Launch) (g : GT) (ad rd0 : Nat → Nat) (sz : Nat) (nf : Nat) (hlt : l.stackTraces = false) (fi : FI) (ar : AR) (ln : LN) (p1 : Int32) (r : (Unit ⊕ Nat)) (fi' : FI) (ar' : AR) (ln' : LN) (KC KS : Nat) (hF : FX10_remove nf fi ar ln p1 = some (r, fi', ar', ln', KC, KS)) : vx_Met l yX10_remove (wxX yX10_remove cX10_remove 6 none) ({ frames := 10, cells := KC, slots := KS, locals := 233 } : Room) (va_Pc [.ref (ad (0)), .int p1] (PX g ad rd0 ln sz fi ar)) (QXv g ad (AC ad rd0 sz) r fi' ar' ln') (XX g ad (AC ad rd0 sz) r fi' ar' ln') KC KS (AC ad rd0 sz) := by
  refine vx_ofW (cc := cX10_remove) (maxL := 6) (ret := none) (by decide) rfl ?_
  intro p e s m args below meth c s₁ B hml hout hv
  obtain ⟨rfl, ⟨hsz, hP, hK, hD0, hE⟩, hEX⟩ := hv
  have hx := B.exec
  have hb := B.bytes
  have hr := B.returns
  have hts := atoms_spec (ws := (wxX yX10_remove cX10_remove 6 none)) B.pre
  have hTX : ∀ w ∈ TBX, w.before _ s = true := fun w h => hts w (List.mem_cons_of_mem _ h)
  have hT : ∀ w ∈ TB, w.before _ s = true := fun w h => hTX w (tbx0 w h)
  have hown : s.vm.findClass RX10 = some m.cls := findClass_of_methodNamed B.named
  have hlocks := B.notSynchronized
  subst hsz
  have hD : ∀ (ln : LN) (fi : FI) (ar : AR), va_D (AC ad rd0 s.heap.size) (WC g ad rd0 ln fi ar) := dCre (dC hD0 s.heap.size fi ar) (fun _ h => h)
  have hA : ∀ q : Nat, s.heap.size ≤ q → AC ad rd0 s.heap.size q := fun q h => Or.inr h
  have hS : va_S (AC ad rd0 s.heap.size) s.heap s.heap [] := va_S.rf
  have hl := lv_entry ([.ref (ad (0)), .int p1]) (n := 6) (Nat.le_of_ble_eq_true rfl)
  rw [lg_entry_eq]
  generalize (lg_sl ([.ref (ad (0)), .int p1]) ++ List.replicate (6 - (lg_sl ([.ref (ad (0)), .int p1])).length) Slot.unset).toArray = ls at hl ⊢
  have hl : lv_has ls 6 [(0, .ref (ad (0))), (1, .int p1)] := hl
  unfold FX10_remove at hF
  have L79 : ∀ kf : Nat, ∀ (x3 : Int32) (x4 : Int32) (x5 : Int32) (fi : FI) (ar : AR) (ln : LN) (kc ks cells slots : Nat) (rd : Nat → Nat) (H : Heap) (locs : List Loc) (ls : Array Slot), FX10_remove_79 nf kf x3 x4 x5 fi ar ln = some (r, fi', ar', ln', kc, ks) → cells + kc ≤ KC → slots + ks ≤ KS → lv_has ls 6 [(0, .ref (ad (0))), (3, .int x3), (4, .int x4), (5, .int x5)] → va_P (gD g) vwCl (WC g ad rd ln fi ar) H → (∀ (ln : LN) (fi : FI) (ar : AR), va_D (AC ad rd0 s.heap.size) (WC g ad rd ln fi ar)) → va_S (AC ad rd0 s.heap.size) s.heap H locs → W p l e (headSpec (wxX yX10_remove cX10_remove 6 none) ({ frames := 10, cells := KC, slots := KS, locals := 233 } : Room)).room s m ([.ref (ad (0)), .int p1] : List Value).toArray below meth c H locs cells slots (vx_MQ below (QXv g ad (AC ad rd0 s.heap.size) r fi' ar' ln') (XX g ad (AC ad rd0 s.heap.size) r fi' ar' ln') ([.ref (ad (0)), .int p1] : List Value).toArray s KC KS (AC ad rd0 s.heap.size)) (F0 m 79 ls []) := by
    intro kf
    induction kf with
    | zero => intro x3 x4 x5 fi ar ln kc ks cells slots rd H locs ls hF hkc hks hl hP hD hS; cases (show (none : Option ((Unit ⊕ Nat) × FI × AR × LN × Nat × Nat)) = _ from hF)
    | succ kf ih79 =>
      intro x3 x4 x5 fi ar ln kc ks cells slots rd H locs ls hF hkc hks hl hP hD hS
      obtain ⟨K79, hK79⟩ : ∃ K : Int32 → Int32 → Int32 → FI → AR → LN → Option ((Unit ⊕ Nat) × FI × AR × LN × Nat × Nat), K = FX10_remove_79 nf kf := ⟨_, rfl⟩
      replace hF : FX10_remove_79b K79 nf x3 x4 x5 fi ar ln = some (r, fi', ar', ln', kc, ks) := by rw [hK79]; exact hF
      rw [← hK79] at ih79
      clear hK79
      unfold FX10_remove_79b at hF
      refine lv_iload hx hb dX10_remove_79 (lv_at hl 3 rfl) ?_
      refine lv_iload hx hb dX10_remove_81 (lv_at hl 2 rfl) ?_
      refine lv_icmp_gt (tgt := 111) hx hb dX10_remove_83 (by decide) (fun hc1 => ?_) (fun hc1 => ?_)
      · replace hF := br_yes hF hc1
        refine lv_aload_n hx hb dX10_remove_111 rfl (lv_at hl 0 rfl) ?_
        refine cg_X10_volume hx hb hT hown hK hP mw2_11 dX10_remove_112 ?_
        refine lv_iload_n hx hb dX10_remove_115 rfl (lv_at hl 1 rfl) ?_
        replace hF := obnd3_of hF
        obtain ⟨r5, fi3, ar4, h2, hF⟩ := hF
        refine cC_v (As := [.int (x3)]) (rest := []) hx hb hml hT hown hK hE (hD _) hA hP hS (rcv_X9 hK hP) (kX9_release l g ad rd _ nf ln fi ar (x3) r5 fi3 ar4 h2) cw_X9_release mw54_7 ⟨⟨rfl, rfl⟩, Nat.le_of_ble_eq_true rfl, Nat.le_of_ble_eq_true rfl⟩ rfl hl.1 rfl (Nat.le_of_ble_eq_true rfl) dX10_remove_116 ⟨by show _ ≤ KC; omega, by show _ ≤ KS; omega⟩ (fun H locs hP hS => ?_)
        refine W.widen (k := KC) (n := KS) (by omega) (by omega) ?_
        exact rX_v hx hb hr hlocks hF hP hD hS dX10_remove_119
      · replace hF := br_no hF hc1
        refine lv_aload_n hx hb dX10_remove_86 rfl (lv_at hl 0 rfl) ?_
        refine cg_X10_disk hx hb hT hown hK hP mw2_3 dX10_remove_87 ?_
        refine lv_aload_n hx hb dX10_remove_90 rfl (lv_at hl 0 rfl) ?_
        refine cg_X10_here hx hb hT hown hK hP mw2_19 dX10_remove_91 ?_
        refine lv_iload hx hb dX10_remove_94 (lv_at hl 3 rfl) ?_
        replace hF := obnd3_of hF
        obtain ⟨r9, fi7, ar8, h6, hF⟩ := hF
        refine cC_i (As := [.int (x5)]) (rest := [.ref (ad (1))]) hx hb hml hT hown hK hE (hD _) hA hP hS (rcv_X2 (by decide) hK hP) (kX2_slotAddress l g ad rd _ nf ln 0 (by decide) fi ar (x5) r9 fi7 ar8 h6) cw_X2_slotAddress mw39_13 ⟨⟨rfl, rfl⟩, Nat.le_of_ble_eq_true rfl, Nat.le_of_ble_eq_true rfl⟩ rfl hl.1 rfl (Nat.le_of_ble_eq_true rfl) dX10_remove_96 ⟨by show _ ≤ KC; omega, by show _ ≤ KS; omega⟩ (fun H locs hP hS => ?_)
        refine lv_sipush (v := (229 : Int32)) hx hb dX10_remove_99 (by decide) ?_
        replace hF := obnd3_of hF
        obtain ⟨r13, fi11, ar12, h10, hF⟩ := hF
        refine cC_v (As := [.int (r9), .int (229 : Int32)]) (rest := []) hx hb hml hT hown hK hE (hD _) hA hP hS (rcv_X3 hK hP) (kX3_putOne l g ad rd _ nf ln fi7 ar8 (r9) (229 : Int32) r13 fi11 ar12 h10) cw_X3_putOne mw17_2 ⟨⟨rfl, rfl⟩, Nat.le_of_ble_eq_true rfl, Nat.le_of_ble_eq_true rfl⟩ rfl hl.1 rfl (Nat.le_of_ble_eq_true rfl) dX10_remove_102 ⟨by show _ ≤ KC; omega, by show _ ≤ KS; omega⟩ (fun H locs hP hS => ?_)
        obtain ⟨x5_14, ex5_14⟩ : ∃ y : Int32, y = (x5) + (1 : Int32) := ⟨_, rfl⟩
        replace hF := bnd_of hF ex5_14
        refine lv_iinc (v := x5_14) (lv' := [(5, .int (x5_14)), (0, .ref (ad (0))), (3, .int (x3)), (4, .int (x4))]) hx hb dX10_remove_105 hl (k := 3) rfl (by rw [ex5_14]; rfl) (by decide) rfl (fun ls hl => ?_)
        refine lv_goto (tgt := 79) hx hb dX10_remove_108 (by decide) ?_
        exact ih79 (x3) (x4) (x5_14) _ _ _ _ _ _ _ _ _ _ _ hF hkc hks (lv_sub hl [1, 2, 3, 0] rfl) hP hD hS
  have J56 : ∀ (x1 : Int32) (x3 : Int32) (fi : FI) (ar : AR) (ln : LN) (kc ks cells slots : Nat) (rd : Nat → Nat) (H : Heap) (locs : List Loc) (ls : Array Slot), FX10_remove_56 nf x1 x3 fi ar ln = some (r, fi', ar', ln', kc, ks) → cells + kc ≤ KC → slots + ks ≤ KS → lv_has ls 6 [(0, .ref (ad (0))), (1, .int x1), (3, .int x3)] → va_P (gD g) vwCl (WC g ad rd ln fi ar) H → (∀ (ln : LN) (fi : FI) (ar : AR), va_D (AC ad rd0 s.heap.size) (WC g ad rd ln fi ar)) → va_S (AC ad rd0 s.heap.size) s.heap H locs → W p l e (headSpec (wxX yX10_remove cX10_remove 6 none) ({ frames := 10, cells := KC, slots := KS, locals := 233 } : Room)).room s m ([.ref (ad (0)), .int p1] : List Value).toArray below meth c H locs cells slots (vx_MQ below (QXv g ad (AC ad rd0 s.heap.size) r fi' ar' ln') (XX g ad (AC ad rd0 s.heap.size) r fi' ar' ln') ([.ref (ad (0)), .int p1] : List Value).toArray s KC KS (AC ad rd0 s.heap.size)) (F0 m 56 ls []) := by
    intro x1 x3 fi ar ln kc ks cells slots rd H locs ls hF hkc hks hl hP hD hS
    unfold FX10_remove_56 at hF
    refine lv_aload_n hx hb dX10_remove_56 rfl (lv_at hl 0 rfl) ?_
    refine cg_X10_here hx hb hT hown hK hP mw2_19 dX10_remove_57 ?_
    refine lv_iload_n hx hb dX10_remove_60 rfl (lv_at hl 1 rfl) ?_
    replace hF := obnd3_of hF
    obtain ⟨r18, fi16, ar17, h15, hF⟩ := hF
    refine cC_i (As := [.int (x1)]) (rest := []) hx hb hml hT hown hK hE (hD _) hA hP hS (rcv_X2 (by decide) hK hP) (kX2_slotOf l g ad rd _ nf ln 0 (by decide) fi ar (x1) r18 fi16 ar17 h15) cw_X2_slotOf mw39_12 ⟨⟨rfl, rfl⟩, Nat.le_of_ble_eq_true rfl, Nat.le_of_ble_eq_true rfl⟩ rfl hl.1 rfl (Nat.le_of_ble_eq_true rfl) dX10_remove_61 ⟨by show _ ≤ KC; omega, by show _ ≤ KS; omega⟩ (fun H locs hP hS => ?_)
    refine lv_istore (lv' := [(4, .int (r18)), (0, .ref (ad (0))), (1, .int (x1)), (3, .int (x3))]) hx hb dX10_remove_64 hl (by decide) rfl (fun ls hl => ?_)
    refine lv_iload hx hb dX10_remove_66 (lv_at hl 0 rfl) ?_
    refine lv_aload_n hx hb dX10_remove_68 rfl (lv_at hl 1 rfl) ?_
    refine cg_X10_here hx hb hT hown hK hP mw2_19 dX10_remove_69 ?_
    refine lv_iload_n hx hb dX10_remove_72 rfl (lv_at hl 2 rfl) ?_
    replace hF := obnd3_of hF
    obtain ⟨r22, fi20, ar21, h19, hF⟩ := hF
    refine cC_i (As := [.int (x1)]) (rest := [.int (r18)]) hx hb hml hT hown hK hE (hD _) hA hP hS (rcv_X2 (by decide) hK hP) (kX2_partsOf l g ad rd _ nf ln 0 (by decide) fi16 ar17 (x1) r22 fi20 ar21 h19) cw_X2_partsOf mw39_14 ⟨⟨rfl, rfl⟩, Nat.le_of_ble_eq_true rfl, Nat.le_of_ble_eq_true rfl⟩ rfl hl.1 rfl (Nat.le_of_ble_eq_true rfl) dX10_remove_73 ⟨by show _ ≤ KC; omega, by show _ ≤ KS; omega⟩ (fun H locs hP hS => ?_)
    refine lv_isub hx hb dX10_remove_76 ?_
    obtain ⟨x5_23, ex5_23⟩ : ∃ y : Int32, y = ((r18) - (r22)) := ⟨_, rfl⟩
    rw [← ex5_23]
    replace hF := bnd_of hF ex5_23
    refine lv_istore (lv' := [(5, .int (x5_23)), (4, .int (r18)), (0, .ref (ad (0))), (1, .int (x1)), (3, .int (x3))]) hx hb dX10_remove_77 hl (by decide) rfl (fun ls hl => ?_)
    exact L79 nf (x3) (r18) (x5_23) _ _ _ _ _ _ _ _ _ _ _ hF hkc hks (lv_sub hl [2, 4, 1, 0] rfl) hP hD hS
  replace hl := lv_sub hl [0, 1] rfl
  obtain ⟨cells, ecells⟩ : ∃ z : Nat, z = 0 := ⟨_, rfl⟩
  obtain ⟨slots, eslots⟩ : ∃ z : Nat, z = 0 := ⟨_, rfl⟩
  obtain ⟨kc, ekc⟩ : ∃ z : Nat, z = KC := ⟨_, rfl⟩
  obtain ⟨ks, eks⟩ : ∃ z : Nat, z = KS := ⟨_, rfl⟩
  have hkc : cells + kc ≤ KC := by omega
  have hks : slots + ks ≤ KS := by omega
  replace hF := kcks_of hF ekc eks
  suffices hgo : W p l e (headSpec (wxX yX10_remove cX10_remove 6 none) ({ frames := 10, cells := KC, slots := KS, locals := 233 } : Room)).room s m ([.ref (ad (0)), .int p1] : List Value).toArray below meth c s.heap [] cells slots (vx_MQ below (QXv g ad (AC ad rd0 s.heap.size) r fi' ar' ln') (XX g ad (AC ad rd0 s.heap.size) r fi' ar' ln') ([.ref (ad (0)), .int p1] : List Value).toArray s KC KS (AC ad rd0 s.heap.size)) (F0 m 0 ls []) by rw [ecells, eslots] at hgo; exact hgo
  obtain ⟨rd, erd⟩ : ∃ z : Nat → Nat, z = rd0 := ⟨_, rfl⟩
  have hP : va_P (gD g) vwCl (WC g ad rd ln fi ar) s.heap := by rw [erd]; exact hP
  have hD : ∀ (ln : LN) (fi : FI) (ar : AR), va_D (AC ad rd0 s.heap.size) (WC g ad rd ln fi ar) := by rw [erd]; exact hD
  clear erd
  refine lv_aload_n hx hb dX10_remove_0 rfl (lv_at hl 0 rfl) ?_
  replace hF := obnd6_of hF
  obtain ⟨r28, fi25, ar26, ln27, kc30, ks31, h24, hF⟩ := hF
  replace hF := addc_of hF
  obtain ⟨kc33, ks34, e35c, e35s, hF⟩ := hF
  rcases r28 with v29 | k32
  rotate_left
  · replace hF := sumc_r hF
    exact cX_vt (As := []) (rest := []) hx hb hml hTX hown hK hE hEX hD hA hP hS (rcv_X10 hK hP) (kX10_openHere l g ad rd _ nf hlt fi ar ln (Sum.inr k32) fi25 ar26 ln27 kc30 ks31 h24) cw_X10_openHere mw37_16 ⟨⟨rfl, rfl⟩, Nat.le_of_ble_eq_true rfl, Nat.le_of_ble_eq_true rfl⟩ rfl hl.1 rfl (Nat.le_of_ble_eq_true rfl) dX10_remove_1 ⟨by show _ ≤ KC; omega, by show _ ≤ KS; omega⟩ ⟨hout, hlocks, by omega, by omega, fun rd H locs t ht hP hD hS => xx_of hF (by rw [ht]; exact hP) hD (hS.F ht)⟩
  replace hF := sumc_l hF
  refine cX_v (As := []) (rest := []) hx hb hml hTX hown hK hE hEX hD hA hP hS (rcv_X10 hK hP) (kX10_openHere l g ad rd _ nf hlt fi ar ln (Sum.inl v29) fi25 ar26 ln27 kc30 ks31 h24) cw_X10_openHere mw37_16 ⟨⟨rfl, rfl⟩, Nat.le_of_ble_eq_true rfl, Nat.le_of_ble_eq_true rfl⟩ rfl hl.1 rfl (Nat.le_of_ble_eq_true rfl) dX10_remove_1 ⟨by show _ ≤ KC; omega, by show _ ≤ KS; omega⟩ (fun rd H locs hP hD hS => ?_)
  replace hkc : cells + kc30 + kc33 ≤ KC := by omega
  replace hks : slots + ks31 + ks34 ≤ KS := by omega
  refine lv_aload_n hx hb dX10_remove_4 rfl (lv_at hl 0 rfl) ?_
  refine lv_iload_n hx hb dX10_remove_5 rfl (lv_at hl 1 rfl) ?_
  replace hF := obnd6_of hF
  obtain ⟨r40, fi37, ar38, ln39, kc42, ks43, h36, hF⟩ := hF
  replace hF := addc_of hF
  obtain ⟨kc45, ks46, e47c, e47s, hF⟩ := hF
  rcases r40 with v41 | k44
  rotate_left
  · replace hF := sumc_r hF
    exact cX_it (As := [.int (p1)]) (rest := []) hx hb hml hTX hown hK hE hEX hD hA hP hS (rcv_X10 hK hP) (kX10_itemAt l g ad rd _ nf hlt fi25 ar26 ln27 (p1) (Sum.inr k44) fi37 ar38 ln39 kc42 ks43 h36) cw_X10_itemAt mw39_6 ⟨⟨rfl, rfl⟩, Nat.le_of_ble_eq_true rfl, Nat.le_of_ble_eq_true rfl⟩ rfl hl.1 rfl (Nat.le_of_ble_eq_true rfl) dX10_remove_6 ⟨by show _ ≤ KC; omega, by show _ ≤ KS; omega⟩ ⟨hout, hlocks, by omega, by omega, fun rd H locs t ht hP hD hS => xx_of hF (by rw [ht]; exact hP) hD (hS.F ht)⟩
  replace hF := sumc_l hF
  refine cX_i (As := [.int (p1)]) (rest := []) hx hb hml hTX hown hK hE hEX hD hA hP hS (rcv_X10 hK hP) (kX10_itemAt l g ad rd _ nf hlt fi25 ar26 ln27 (p1) (Sum.inl v41) fi37 ar38 ln39 kc42 ks43 h36) cw_X10_itemAt mw39_6 ⟨⟨rfl, rfl⟩, Nat.le_of_ble_eq_true rfl, Nat.le_of_ble_eq_true rfl⟩ rfl hl.1 rfl (Nat.le_of_ble_eq_true rfl) dX10_remove_6 ⟨by show _ ≤ KC; omega, by show _ ≤ KS; omega⟩ (fun rd H locs hP hD hS => ?_)
  replace hkc : cells + kc30 + kc42 + kc45 ≤ KC := by omega
  replace hks : slots + ks31 + ks43 + ks46 ≤ KS := by omega
  refine lv_istore_n (lv' := [(2, .int (v41)), (0, .ref (ad (0))), (1, .int (p1))]) hx hb dX10_remove_9 rfl hl (by decide) rfl (fun ls hl => ?_)
  refine lv_aload_n hx hb dX10_remove_10 rfl (lv_at hl 1 rfl) ?_
  refine cg_X10_disk hx hb hT hown hK hP mw2_3 dX10_remove_11 ?_
  refine lv_iload_n hx hb dX10_remove_14 rfl (lv_at hl 0 rfl) ?_
  replace hF := obnd3_of hF
  obtain ⟨r51, fi49, ar50, h48, hF⟩ := hF
  refine cC_i (As := [.int (v41)]) (rest := []) hx hb hml hT hown hK hE (hD _) hA hP hS (rcv_X3 hK hP) (kX3_firstCluster l g ad rd _ nf ln39 fi37 ar38 (v41) r51 fi49 ar50 h48) cw_X3_firstCluster mw42_22 ⟨⟨rfl, rfl⟩, Nat.le_of_ble_eq_true rfl, Nat.le_of_ble_eq_true rfl⟩ rfl hl.1 rfl (Nat.le_of_ble_eq_true rfl) dX10_remove_15 ⟨by show _ ≤ KC; omega, by show _ ≤ KS; omega⟩ (fun H locs hP hS => ?_)
  refine lv_istore_n (lv' := [(3, .int (r51)), (2, .int (v41)), (0, .ref (ad (0))), (1, .int (p1))]) hx hb dX10_remove_18 rfl hl (by decide) rfl (fun ls hl => ?_)
  refine lv_aload_n hx hb dX10_remove_19 rfl (lv_at hl 2 rfl) ?_
  refine lv_iload_n hx hb dX10_remove_20 rfl (lv_at hl 1 rfl) ?_
  replace hF := obnd3_of hF
  obtain ⟨r55, fi53, ar54, h52, hF⟩ := hF
  refine cC_i (As := [.int (v41)]) (rest := []) hx hb hml hT hown hK hE (hD _) hA hP hS (rcv_X10 hK hP) (kX10_isDirectory l g ad rd _ nf ln39 fi49 ar50 (v41) r55 fi53 ar54 h52) cw_X10_isDirectory mw41_1 ⟨⟨rfl, rfl⟩, Nat.le_of_ble_eq_true rfl, Nat.le_of_ble_eq_true rfl⟩ rfl hl.1 rfl (Nat.le_of_ble_eq_true rfl) dX10_remove_21 ⟨by show _ ≤ KC; omega, by show _ ≤ KS; omega⟩ (fun H locs hP hS => ?_)
  refine lv_if_eq (tgt := 56) hx hb dX10_remove_24 (by decide) (fun hc56 => ?_) (fun hc56 => ?_)
  · replace hF := br_yes hF hc56
    exact J56 (p1) (r51) _ _ _ _ _ _ _ _ _ _ _ hF hkc hks (lv_sub hl [2, 3, 0] rfl) hP hD hS
  · replace hF := br_no hF hc56
    refine lv_aload_n hx hb dX10_remove_27 rfl (lv_at hl 2 rfl) ?_
    refine cg_X10_below hx hb hT hown hK hP mw2_20 dX10_remove_28 ?_
    refine lv_iload_n hx hb dX10_remove_31 rfl (lv_at hl 0 rfl) ?_
    replace hF := obnd6_of hF
    obtain ⟨r61, fi58, ar59, ln60, kc62, ks63, h57, hF⟩ := hF
    replace hF := addc_of hF
    obtain ⟨kc64, ks65, e66c, e66s, hF⟩ := hF
    refine cA_v (As := [.int (r51)]) (rest := []) hx hb hml hT hown hK hE hD hA hP hS (rcv_X2 (by decide) hK hP) (kX2_list l g ad rd _ nf 1 (by decide) fi53 ar54 ln39 (r51) r61 fi58 ar59 ln60 kc62 ks63 h57) cw_X2_list mw37_22 ⟨⟨rfl, rfl⟩, Nat.le_of_ble_eq_true rfl, Nat.le_of_ble_eq_true rfl⟩ rfl hl.1 rfl (Nat.le_of_ble_eq_true rfl) dX10_remove_32 ⟨by show _ ≤ KC; omega, by show _ ≤ KS; omega⟩ (fun rd H locs hP hD hS => ?_)
    replace hkc : cells + kc30 + kc42 + kc62 + kc64 ≤ KC := by omega
    replace hks : slots + ks31 + ks43 + ks63 + ks65 ≤ KS := by omega
    refine lv_aload_n hx hb dX10_remove_35 rfl (lv_at hl 2 rfl) ?_
    refine cg_X10_below hx hb hT hown hK hP mw2_20 dX10_remove_36 ?_
    refine cg_X2_count (by decide) hx hb hT hown hK hP mw37_15 dX10_remove_39 ?_
    refine lv_if_le (tgt := 56) hx hb dX10_remove_42 (by decide) (fun hc67 => ?_) (fun hc67 => ?_)
    · replace hF := br_yes hF hc67
      exact J56 (p1) (r51) _ _ _ _ _ _ _ _ _ _ _ hF hkc hks (lv_sub hl [2, 3, 0] rfl) hP hD hS
    · replace hF := br_no hF hc67
      obtain ⟨sa, hsa⟩ := hEX.1.2.2.2.2.2.2.2.2.2.2.2.2.2.1
      obtain ⟨hq1, hq2⟩ := cost_of hF
      refine vx_throwSW (cls := "java/lang/IllegalArgumentException") (names := ["java/lang/RuntimeException", "java/lang/Exception"]) (sa := sa) (A := AC ad rd0 s.heap.size) hx hb hlt hown (by decide) (by decide) (hT _ mw9_3) (hT _ mw9_4) hsa (vx_hat (fun w h => hTX w (tbx3 w h)) (by rw [vxb_2]; exact fun _ h => h) (vx_c (va_tabs rfl rfl hEX.2.2.2.2.2.1) (vx_c (va_tabs rfl rfl hEX.2.2.2.2.2.2.1) (vx_c (va_tabs rfl rfl hEX.2.2.2.2.2.2.2) (vx_c (va_tabs rfl rfl hEX.2.2.2.1) vx_n))))) vxg_2 hEX.1.1 hEX.1.2.1 hS (by rw [hml]; exact hl.1) dX10_remove_45 dX10_remove_48 dX10_remove_49 dX10_remove_52 dX10_remove_55 (fun x hx => (hout x hx).elim) (Nat.le_of_ble_eq_true rfl) (Nat.le_of_ble_eq_true rfl) (by show _ ≤ KC; omega) (by show _ ≤ KS; omega) hlocks (fun t _ hz hk => ?_) hS.2.2 (by omega) (by omega)
      exact xx_of (k := 2) hF (hP.kept (fun k q h => hk q.1 (hP k q h).lt)) hD ⟨Nat.le_trans hS.1 hz, fun q h1 h2 => by rw [hk q (Nat.lt_of_lt_of_le h1 hS.1)]; exact hS.2.1 q h1 h2⟩
theorem cw_X10_remove : (Cond.instanceMethod yX10_remove ∈ TB ∧ Cond.selects RX10 yX10_remove yX10_remove ∈ TB ∧ Cond.code yX10_remove cX10_remove 6 none ∈ TB ∧ Cond.initialized RX10 ∈ TB) ∧ (yX10_remove.cls = RX10 ∧ yX10_remove.cls ≠ "java/lang/invoke/MethodHandle" ∧ yX10_remove.cls ≠ "java/lang/invoke/VarHandle" ∧ (parseMethodDescriptor yX10_remove.desc).map (fun d => d.parameters.length) = some 1) := ⟨⟨mw54_20, mw54_21, mw54_22, mw1_2⟩, by decide +kernel⟩
/-! X10_stamp -/
noncomputable def FX10_stamp_191 (nf : Nat)  (fi : FI) (ar : AR) (ln : LN) : Option ((Unit ⊕ Nat) × FI × AR × LN × Nat × Nat) :=
  some (Sum.inl (), fi, ar, ln, 0, 0)
noncomputable def FX10_stamp (nf : Nat) (fi : FI) (ar : AR) (ln : LN) (x1 : Int32) (x2 : Int32) (x3 : Int32) (x4 : Int32) : Option ((Unit ⊕ Nat) × FI × AR × LN × Nat × Nat) :=
  obnd6 (FX10_openHere nf fi ar ln) fun r5 fi2 ar3 ln4 kc7 ks8 => addc (kc7) (ks8) (sumc r5 (fun v6 => obnd6 (FX10_itemAt nf fi2 ar3 ln4 (x1)) fun r17 fi14 ar15 ln16 kc19 ks20 => addc (kc19) (ks20) (sumc r17 (fun v18 => obnd3 (FX10_stampFits nf ln16 fi14 ar15 (v18) (x2) (x3) (x4)) fun r28 fi26 ar27 => br ((r28) = 0) (some (Sum.inr 2, fi26, ar27, ln16, 1, 6)) (br ((x2) = (0 : Int32)) (obnd3 (FX3_putTwo nf ln16 fi26 ar27 ((v18) + (14 : Int32)) (x4)) fun r34 fi32 ar33 => obnd3 (FX3_putTwo nf ln16 fi32 ar33 ((v18) + (16 : Int32)) (x3)) fun r38 fi36 ar37 => FX10_stamp_191 nf  fi36 ar37 ln16) (br ((x2) = (1 : Int32)) (obnd3 (FX3_putTwo nf ln16 fi26 ar27 ((v18) + (18 : Int32)) (x3)) fun r43 fi41 ar42 => FX10_stamp_191 nf  fi41 ar42 ln16) (br ((x2) = (2 : Int32)) (obnd3 (FX3_putTwo nf ln16 fi26 ar27 ((v18) + (22 : Int32)) (x4)) fun r48 fi46 ar47 => obnd3 (FX3_putTwo nf ln16 fi46 ar47 ((v18) + (24 : Int32)) (x3)) fun r52 fi50 ar51 => FX10_stamp_191 nf  fi50 ar51 ln16) (br ((x2) = (3 : Int32)) (obnd3 (FX3_putOne nf ln16 fi26 ar27 ((v18) + (13 : Int32)) (x4)) fun r57 fi55 ar56 => FX10_stamp_191 nf  fi55 ar56 ln16) (obnd3 (FX3_one nf ln16 fi26 ar27 ((v18) + (11 : Int32))) fun r61 fi59 ar60 => obnd3 (FX3_putOne nf ln16 fi59 ar60 ((v18) + (11 : Int32)) (((r61) &&& (-2 : Int32)) ||| (x4))) fun r65 fi63 ar64 => FX10_stamp_191 nf  fi63 ar64 ln16)))))) (fun k21 => some (Sum.inr k21, fi14, ar15, ln16, 0, 0)))) (fun k9 => some (Sum.inr k9, fi2, ar3, ln4, 0, 0)))
set_option maxHeartbeats 8000000 in
set_option maxRecDepth 100000 in
theorem kX10_stamp (l : Launch) (g : GT) (ad rd0 : Nat → Nat) (sz : Nat) (nf : Nat) (hlt : l.stackTraces = false) (fi : FI) (ar : AR) (ln : LN) (p1 : Int32) (p2 : Int32) (p3 : Int32) (p4 : Int32) (r : (Unit ⊕ Nat)) (fi' : FI) (ar' : AR) (ln' : LN) (KC KS : Nat) (hF : FX10_stamp nf fi ar ln p1 p2 p3 p4 = some (r, fi', ar', ln', KC, KS)) : vx_Met l yX10_stamp (wxX yX10_stamp cX10_stamp 6 none) ({ frames := 10, cells := KC, slots := KS, locals := 233 } : Room) (va_Pc [.ref (ad (0)), .int p1, .int p2, .int p3, .int p4] (PX g ad rd0 ln sz fi ar)) (QXv g ad (AC ad rd0 sz) r fi' ar' ln') (XX g ad (AC ad rd0 sz) r fi' ar' ln') KC KS (AC ad rd0 sz) := by
  refine vx_ofW (cc := cX10_stamp) (maxL := 6) (ret := none) (by decide) rfl ?_
  intro p e s m args below meth c s₁ B hml hout hv
  obtain ⟨rfl, ⟨hsz, hP, hK, hD0, hE⟩, hEX⟩ := hv
  have hx := B.exec
  have hb := B.bytes
  have hr := B.returns
  have hts := atoms_spec (ws := (wxX yX10_stamp cX10_stamp 6 none)) B.pre
  have hTX : ∀ w ∈ TBX, w.before _ s = true := fun w h => hts w (List.mem_cons_of_mem _ h)
  have hT : ∀ w ∈ TB, w.before _ s = true := fun w h => hTX w (tbx0 w h)
  have hown : s.vm.findClass RX10 = some m.cls := findClass_of_methodNamed B.named
  have hlocks := B.notSynchronized
  subst hsz
  have hD : ∀ (ln : LN) (fi : FI) (ar : AR), va_D (AC ad rd0 s.heap.size) (WC g ad rd0 ln fi ar) := dCre (dC hD0 s.heap.size fi ar) (fun _ h => h)
  have hA : ∀ q : Nat, s.heap.size ≤ q → AC ad rd0 s.heap.size q := fun q h => Or.inr h
  have hS : va_S (AC ad rd0 s.heap.size) s.heap s.heap [] := va_S.rf
  have hl := lv_entry ([.ref (ad (0)), .int p1, .int p2, .int p3, .int p4]) (n := 6) (Nat.le_of_ble_eq_true rfl)
  rw [lg_entry_eq]
  generalize (lg_sl ([.ref (ad (0)), .int p1, .int p2, .int p3, .int p4]) ++ List.replicate (6 - (lg_sl ([.ref (ad (0)), .int p1, .int p2, .int p3, .int p4])).length) Slot.unset).toArray = ls at hl ⊢
  have hl : lv_has ls 6 [(0, .ref (ad (0))), (1, .int p1), (2, .int p2), (3, .int p3), (4, .int p4)] := hl
  unfold FX10_stamp at hF
  have J191 : ∀  (fi : FI) (ar : AR) (ln : LN) (kc ks cells slots : Nat) (rd : Nat → Nat) (H : Heap) (locs : List Loc) (ls : Array Slot), FX10_stamp_191 nf fi ar ln = some (r, fi', ar', ln', kc, ks) → cells + kc ≤ KC → slots + ks ≤ KS → lv_has ls 6 [(0, .ref (ad (0)))] → va_P (gD g) vwCl (WC g ad rd ln fi ar) H → (∀ (ln : LN) (fi : FI) (ar : AR), va_D (AC ad rd0 s.heap.size) (WC g ad rd ln fi ar)) → va_S (AC ad rd0 s.heap.size) s.heap H locs → W p l e (headSpec (wxX yX10_stamp cX10_stamp 6 none) ({ frames := 10, cells := KC, slots := KS, locals := 233 } : Room)).room s m ([.ref (ad (0)), .int p1, .int p2, .int p3, .int p4] : List Value).toArray below meth c H locs cells slots (vx_MQ below (QXv g ad (AC ad rd0 s.heap.size) r fi' ar' ln') (XX g ad (AC ad rd0 s.heap.size) r fi' ar' ln') ([.ref (ad (0)), .int p1, .int p2, .int p3, .int p4] : List Value).toArray s KC KS (AC ad rd0 s.heap.size)) (F0 m 191 ls []) := by
    intro fi ar ln kc ks cells slots rd H locs ls hF hkc hks hl hP hD hS
    unfold FX10_stamp_191 at hF
    refine W.widen (k := KC) (n := KS) (by omega) (by omega) ?_
    exact rX_v hx hb hr hlocks hF hP hD hS dX10_stamp_191
  replace hl := lv_sub hl [0, 1, 2, 3, 4] rfl
  obtain ⟨cells, ecells⟩ : ∃ z : Nat, z = 0 := ⟨_, rfl⟩
  obtain ⟨slots, eslots⟩ : ∃ z : Nat, z = 0 := ⟨_, rfl⟩
  obtain ⟨kc, ekc⟩ : ∃ z : Nat, z = KC := ⟨_, rfl⟩
  obtain ⟨ks, eks⟩ : ∃ z : Nat, z = KS := ⟨_, rfl⟩
  have hkc : cells + kc ≤ KC := by omega
  have hks : slots + ks ≤ KS := by omega
  replace hF := kcks_of hF ekc eks
  suffices hgo : W p l e (headSpec (wxX yX10_stamp cX10_stamp 6 none) ({ frames := 10, cells := KC, slots := KS, locals := 233 } : Room)).room s m ([.ref (ad (0)), .int p1, .int p2, .int p3, .int p4] : List Value).toArray below meth c s.heap [] cells slots (vx_MQ below (QXv g ad (AC ad rd0 s.heap.size) r fi' ar' ln') (XX g ad (AC ad rd0 s.heap.size) r fi' ar' ln') ([.ref (ad (0)), .int p1, .int p2, .int p3, .int p4] : List Value).toArray s KC KS (AC ad rd0 s.heap.size)) (F0 m 0 ls []) by rw [ecells, eslots] at hgo; exact hgo
  obtain ⟨rd, erd⟩ : ∃ z : Nat → Nat, z = rd0 := ⟨_, rfl⟩
  have hP : va_P (gD g) vwCl (WC g ad rd ln fi ar) s.heap := by rw [erd]; exact hP
  have hD : ∀ (ln : LN) (fi : FI) (ar : AR), va_D (AC ad rd0 s.heap.size) (WC g ad rd ln fi ar) := by rw [erd]; exact hD
  clear erd
  refine lv_aload_n hx hb dX10_stamp_0 rfl (lv_at hl 0 rfl) ?_
  replace hF := obnd6_of hF
  obtain ⟨r5, fi2, ar3, ln4, kc7, ks8, h1, hF⟩ := hF
  replace hF := addc_of hF
  obtain ⟨kc10, ks11, e12c, e12s, hF⟩ := hF
  rcases r5 with v6 | k9
  rotate_left
  · replace hF := sumc_r hF
    exact cX_vt (As := []) (rest := []) hx hb hml hTX hown hK hE hEX hD hA hP hS (rcv_X10 hK hP) (kX10_openHere l g ad rd _ nf hlt fi ar ln (Sum.inr k9) fi2 ar3 ln4 kc7 ks8 h1) cw_X10_openHere mw37_16 ⟨⟨rfl, rfl⟩, Nat.le_of_ble_eq_true rfl, Nat.le_of_ble_eq_true rfl⟩ rfl hl.1 rfl (Nat.le_of_ble_eq_true rfl) dX10_stamp_1 ⟨by show _ ≤ KC; omega, by show _ ≤ KS; omega⟩ ⟨hout, hlocks, by omega, by omega, fun rd H locs t ht hP hD hS => xx_of hF (by rw [ht]; exact hP) hD (hS.F ht)⟩
  replace hF := sumc_l hF
  refine cX_v (As := []) (rest := []) hx hb hml hTX hown hK hE hEX hD hA hP hS (rcv_X10 hK hP) (kX10_openHere l g ad rd _ nf hlt fi ar ln (Sum.inl v6) fi2 ar3 ln4 kc7 ks8 h1) cw_X10_openHere mw37_16 ⟨⟨rfl, rfl⟩, Nat.le_of_ble_eq_true rfl, Nat.le_of_ble_eq_true rfl⟩ rfl hl.1 rfl (Nat.le_of_ble_eq_true rfl) dX10_stamp_1 ⟨by show _ ≤ KC; omega, by show _ ≤ KS; omega⟩ (fun rd H locs hP hD hS => ?_)
  replace hkc : cells + kc7 + kc10 ≤ KC := by omega
  replace hks : slots + ks8 + ks11 ≤ KS := by omega
  refine lv_aload_n hx hb dX10_stamp_4 rfl (lv_at hl 0 rfl) ?_
  refine lv_iload_n hx hb dX10_stamp_5 rfl (lv_at hl 1 rfl) ?_
  replace hF := obnd6_of hF
  obtain ⟨r17, fi14, ar15, ln16, kc19, ks20, h13, hF⟩ := hF
  replace hF := addc_of hF
  obtain ⟨kc22, ks23, e24c, e24s, hF⟩ := hF
  rcases r17 with v18 | k21
  rotate_left
  · replace hF := sumc_r hF
    exact cX_it (As := [.int (p1)]) (rest := []) hx hb hml hTX hown hK hE hEX hD hA hP hS (rcv_X10 hK hP) (kX10_itemAt l g ad rd _ nf hlt fi2 ar3 ln4 (p1) (Sum.inr k21) fi14 ar15 ln16 kc19 ks20 h13) cw_X10_itemAt mw39_6 ⟨⟨rfl, rfl⟩, Nat.le_of_ble_eq_true rfl, Nat.le_of_ble_eq_true rfl⟩ rfl hl.1 rfl (Nat.le_of_ble_eq_true rfl) dX10_stamp_6 ⟨by show _ ≤ KC; omega, by show _ ≤ KS; omega⟩ ⟨hout, hlocks, by omega, by omega, fun rd H locs t ht hP hD hS => xx_of hF (by rw [ht]; exact hP) hD (hS.F ht)⟩
  replace hF := sumc_l hF
  refine cX_i (As := [.int (p1)]) (rest := []) hx hb hml hTX hown hK hE hEX hD hA hP hS (rcv_X10 hK hP) (kX10_itemAt l g ad rd _ nf hlt fi2 ar3 ln4 (p1) (Sum.inl v18) fi14 ar15 ln16 kc19 ks20 h13) cw_X10_itemAt mw39_6 ⟨⟨rfl, rfl⟩, Nat.le_of_ble_eq_true rfl, Nat.le_of_ble_eq_true rfl⟩ rfl hl.1 rfl (Nat.le_of_ble_eq_true rfl) dX10_stamp_6 ⟨by show _ ≤ KC; omega, by show _ ≤ KS; omega⟩ (fun rd H locs hP hD hS => ?_)
  replace hkc : cells + kc7 + kc19 + kc22 ≤ KC := by omega
  replace hks : slots + ks8 + ks20 + ks23 ≤ KS := by omega
  refine lv_istore (lv' := [(5, .int (v18)), (0, .ref (ad (0))), (1, .int (p1)), (2, .int (p2)), (3, .int (p3)), (4, .int (p4))]) hx hb dX10_stamp_9 hl (by decide) rfl (fun ls hl => ?_)
  refine lv_aload_n hx hb dX10_stamp_11 rfl (lv_at hl 1 rfl) ?_
  refine lv_iload hx hb dX10_stamp_12 (lv_at hl 0 rfl) ?_
  refine lv_iload_n hx hb dX10_stamp_14 rfl (lv_at hl 3 rfl) ?_
  refine lv_iload_n hx hb dX10_stamp_15 rfl (lv_at hl 4 rfl) ?_
  refine lv_iload hx hb dX10_stamp_16 (lv_at hl 5 rfl) ?_
  replace hF := obnd3_of hF
  obtain ⟨r28, fi26, ar27, h25, hF⟩ := hF
  refine cC_i (As := [.int (v18), .int (p2), .int (p3), .int (p4)]) (rest := []) hx hb hml hT hown hK hE (hD _) hA hP hS (rcv_X10 hK hP) (kX10_stampFits l g ad rd _ nf ln16 fi14 ar15 (v18) (p2) (p3) (p4) r28 fi26 ar27 h25) cw_X10_stampFits mw55_10 ⟨⟨rfl, rfl⟩, Nat.le_of_ble_eq_true rfl, Nat.le_of_ble_eq_true rfl⟩ rfl hl.1 rfl (Nat.le_of_ble_eq_true rfl) dX10_stamp_18 ⟨by show _ ≤ KC; omega, by show _ ≤ KS; omega⟩ (fun H locs hP hS => ?_)
  refine lv_if_ne (tgt := 35) hx hb dX10_stamp_21 (by decide) (fun hc29 => ?_) (fun hc29 => ?_)
  · replace hF := br_no hF hc29
    refine lv_iload_n hx hb dX10_stamp_35 rfl (lv_at hl 3 rfl) ?_
    by_cases hc30 : (p2) = (0 : Int32)
    · replace hF := br_yes hF hc30
      refine lv_tableIn (tgt := 68) (off := 32) hx hb dX10_stamp_36 (by rw [hc30]; decide) (by rw [hc30]; decide) (by rw [hc30]; rfl) (by decide) ?_
      refine lv_aload_n hx hb dX10_stamp_68 rfl (lv_at hl 1 rfl) ?_
      refine cg_X10_disk hx hb hT hown hK hP mw2_3 dX10_stamp_69 ?_
      refine lv_iload hx hb dX10_stamp_72 (lv_at hl 0 rfl) ?_
      refine lv_bipush (v := (14 : Int32)) hx hb dX10_stamp_74 (by decide) ?_
      refine lv_iadd hx hb dX10_stamp_76 ?_
      refine lv_iload hx hb dX10_stamp_77 (lv_at hl 5 rfl) ?_
      replace hF := obnd3_of hF
      obtain ⟨r34, fi32, ar33, h31, hF⟩ := hF
      refine cC_v (As := [.int ((v18) + (14 : Int32)), .int (p4)]) (rest := []) hx hb hml hT hown hK hE (hD _) hA hP hS (rcv_X3 hK hP) (kX3_putTwo l g ad rd _ nf ln16 fi26 ar27 ((v18) + (14 : Int32)) (p4) r34 fi32 ar33 h31) cw_X3_putTwo mw17_3 ⟨⟨rfl, rfl⟩, Nat.le_of_ble_eq_true rfl, Nat.le_of_ble_eq_true rfl⟩ rfl hl.1 rfl (Nat.le_of_ble_eq_true rfl) dX10_stamp_79 ⟨by show _ ≤ KC; omega, by show _ ≤ KS; omega⟩ (fun H locs hP hS => ?_)
      refine lv_aload_n hx hb dX10_stamp_82 rfl (lv_at hl 1 rfl) ?_
      refine cg_X10_disk hx hb hT hown hK hP mw2_3 dX10_stamp_83 ?_
      refine lv_iload hx hb dX10_stamp_86 (lv_at hl 0 rfl) ?_
      refine lv_bipush (v := (16 : Int32)) hx hb dX10_stamp_88 (by decide) ?_
      refine lv_iadd hx hb dX10_stamp_90 ?_
      refine lv_iload_n hx hb dX10_stamp_91 rfl (lv_at hl 4 rfl) ?_
      replace hF := obnd3_of hF
      obtain ⟨r38, fi36, ar37, h35, hF⟩ := hF
      refine cC_v (As := [.int ((v18) + (16 : Int32)), .int (p3)]) (rest := []) hx hb hml hT hown hK hE (hD _) hA hP hS (rcv_X3 hK hP) (kX3_putTwo l g ad rd _ nf ln16 fi32 ar33 ((v18) + (16 : Int32)) (p3) r38 fi36 ar37 h35) cw_X3_putTwo mw17_3 ⟨⟨rfl, rfl⟩, Nat.le_of_ble_eq_true rfl, Nat.le_of_ble_eq_true rfl⟩ rfl hl.1 rfl (Nat.le_of_ble_eq_true rfl) dX10_stamp_92 ⟨by show _ ≤ KC; omega, by show _ ≤ KS; omega⟩ (fun H locs hP hS => ?_)
      refine lv_goto (tgt := 191) hx hb dX10_stamp_95 (by decide) ?_
      exact J191  _ _ _ _ _ _ _ _ _ _ _ hF hkc hks (lv_sub hl [1] rfl) hP hD hS
    · replace hF := br_no hF hc30
      by_cases hc39 : (p2) = (1 : Int32)
      · replace hF := br_yes hF hc39
        refine lv_tableIn (tgt := 98) (off := 62) hx hb dX10_stamp_36 (by rw [hc39]; decide) (by rw [hc39]; decide) (by rw [hc39]; rfl) (by decide) ?_
        refine lv_aload_n hx hb dX10_stamp_98 rfl (lv_at hl 1 rfl) ?_
        refine cg_X10_disk hx hb hT hown hK hP mw2_3 dX10_stamp_99 ?_
        refine lv_iload hx hb dX10_stamp_102 (lv_at hl 0 rfl) ?_
        refine lv_bipush (v := (18 : Int32)) hx hb dX10_stamp_104 (by decide) ?_
        refine lv_iadd hx hb dX10_stamp_106 ?_
        refine lv_iload_n hx hb dX10_stamp_107 rfl (lv_at hl 4 rfl) ?_
        replace hF := obnd3_of hF
        obtain ⟨r43, fi41, ar42, h40, hF⟩ := hF
        refine cC_v (As := [.int ((v18) + (18 : Int32)), .int (p3)]) (rest := []) hx hb hml hT hown hK hE (hD _) hA hP hS (rcv_X3 hK hP) (kX3_putTwo l g ad rd _ nf ln16 fi26 ar27 ((v18) + (18 : Int32)) (p3) r43 fi41 ar42 h40) cw_X3_putTwo mw17_3 ⟨⟨rfl, rfl⟩, Nat.le_of_ble_eq_true rfl, Nat.le_of_ble_eq_true rfl⟩ rfl hl.1 rfl (Nat.le_of_ble_eq_true rfl) dX10_stamp_108 ⟨by show _ ≤ KC; omega, by show _ ≤ KS; omega⟩ (fun H locs hP hS => ?_)
        refine lv_goto (tgt := 191) hx hb dX10_stamp_111 (by decide) ?_
        exact J191  _ _ _ _ _ _ _ _ _ _ _ hF hkc hks (lv_sub hl [1] rfl) hP hD hS
      · replace hF := br_no hF hc39
        by_cases hc44 : (p2) = (2 : Int32)
        · replace hF := br_yes hF hc44
          refine lv_tableIn (tgt := 114) (off := 78) hx hb dX10_stamp_36 (by rw [hc44]; decide) (by rw [hc44]; decide) (by rw [hc44]; rfl) (by decide) ?_
          refine lv_aload_n hx hb dX10_stamp_114 rfl (lv_at hl 1 rfl) ?_
          refine cg_X10_disk hx hb hT hown hK hP mw2_3 dX10_stamp_115 ?_
          refine lv_iload hx hb dX10_stamp_118 (lv_at hl 0 rfl) ?_
          refine lv_bipush (v := (22 : Int32)) hx hb dX10_stamp_120 (by decide) ?_
          refine lv_iadd hx hb dX10_stamp_122 ?_
          refine lv_iload hx hb dX10_stamp_123 (lv_at hl 5 rfl) ?_
          replace hF := obnd3_of hF
          obtain ⟨r48, fi46, ar47, h45, hF⟩ := hF
          refine cC_v (As := [.int ((v18) + (22 : Int32)), .int (p4)]) (rest := []) hx hb hml hT hown hK hE (hD _) hA hP hS (rcv_X3 hK hP) (kX3_putTwo l g ad rd _ nf ln16 fi26 ar27 ((v18) + (22 : Int32)) (p4) r48 fi46 ar47 h45) cw_X3_putTwo mw17_3 ⟨⟨rfl, rfl⟩, Nat.le_of_ble_eq_true rfl, Nat.le_of_ble_eq_true rfl⟩ rfl hl.1 rfl (Nat.le_of_ble_eq_true rfl) dX10_stamp_125 ⟨by show _ ≤ KC; omega, by show _ ≤ KS; omega⟩ (fun H locs hP hS => ?_)
          refine lv_aload_n hx hb dX10_stamp_128 rfl (lv_at hl 1 rfl) ?_
          refine cg_X10_disk hx hb hT hown hK hP mw2_3 dX10_stamp_129 ?_
          refine lv_iload hx hb dX10_stamp_132 (lv_at hl 0 rfl) ?_
          refine lv_bipush (v := (24 : Int32)) hx hb dX10_stamp_134 (by decide) ?_
          refine lv_iadd hx hb dX10_stamp_136 ?_
          refine lv_iload_n hx hb dX10_stamp_137 rfl (lv_at hl 4 rfl) ?_
          replace hF := obnd3_of hF
          obtain ⟨r52, fi50, ar51, h49, hF⟩ := hF
          refine cC_v (As := [.int ((v18) + (24 : Int32)), .int (p3)]) (rest := []) hx hb hml hT hown hK hE (hD _) hA hP hS (rcv_X3 hK hP) (kX3_putTwo l g ad rd _ nf ln16 fi46 ar47 ((v18) + (24 : Int32)) (p3) r52 fi50 ar51 h49) cw_X3_putTwo mw17_3 ⟨⟨rfl, rfl⟩, Nat.le_of_ble_eq_true rfl, Nat.le_of_ble_eq_true rfl⟩ rfl hl.1 rfl (Nat.le_of_ble_eq_true rfl) dX10_stamp_138 ⟨by show _ ≤ KC; omega, by show _ ≤ KS; omega⟩ (fun H locs hP hS => ?_)
          refine lv_goto (tgt := 191) hx hb dX10_stamp_141 (by decide) ?_
          exact J191  _ _ _ _ _ _ _ _ _ _ _ hF hkc hks (lv_sub hl [1] rfl) hP hD hS
        · replace hF := br_no hF hc44
          by_cases hc53 : (p2) = (3 : Int32)
          · replace hF := br_yes hF hc53
            refine lv_tableIn (tgt := 144) (off := 108) hx hb dX10_stamp_36 (by rw [hc53]; decide) (by rw [hc53]; decide) (by rw [hc53]; rfl) (by decide) ?_
            refine lv_aload_n hx hb dX10_stamp_144 rfl (lv_at hl 1 rfl) ?_
            refine cg_X10_disk hx hb hT hown hK hP mw2_3 dX10_stamp_145 ?_
            refine lv_iload hx hb dX10_stamp_148 (lv_at hl 0 rfl) ?_
            refine lv_bipush (v := (13 : Int32)) hx hb dX10_stamp_150 (by decide) ?_
            refine lv_iadd hx hb dX10_stamp_152 ?_
            refine lv_iload hx hb dX10_stamp_153 (lv_at hl 5 rfl) ?_
            replace hF := obnd3_of hF
            obtain ⟨r57, fi55, ar56, h54, hF⟩ := hF
            refine cC_v (As := [.int ((v18) + (13 : Int32)), .int (p4)]) (rest := []) hx hb hml hT hown hK hE (hD _) hA hP hS (rcv_X3 hK hP) (kX3_putOne l g ad rd _ nf ln16 fi26 ar27 ((v18) + (13 : Int32)) (p4) r57 fi55 ar56 h54) cw_X3_putOne mw17_2 ⟨⟨rfl, rfl⟩, Nat.le_of_ble_eq_true rfl, Nat.le_of_ble_eq_true rfl⟩ rfl hl.1 rfl (Nat.le_of_ble_eq_true rfl) dX10_stamp_155 ⟨by show _ ≤ KC; omega, by show _ ≤ KS; omega⟩ (fun H locs hP hS => ?_)
            refine lv_goto (tgt := 191) hx hb dX10_stamp_158 (by decide) ?_
            exact J191  _ _ _ _ _ _ _ _ _ _ _ hF hkc hks (lv_sub hl [1] rfl) hP hD hS
          · replace hF := br_no hF hc53
            refine lv_tableOut (tgt := 161) hx hb dX10_stamp_36 (tsw_out (n := 3) (by decide) (fun k hk => by
              have hk2 : k = 0 ∨ k = 1 ∨ k = 2 ∨ k = 3 := by omega
              rcases hk2 with rfl | rfl | rfl | rfl
              · exact hc30
              · exact hc39
              · exact hc44
              · exact hc53)) (by decide) ?_
            refine lv_aload_n hx hb dX10_stamp_161 rfl (lv_at hl 1 rfl) ?_
            refine cg_X10_disk hx hb hT hown hK hP mw2_3 dX10_stamp_162 ?_
            refine lv_iload hx hb dX10_stamp_165 (lv_at hl 0 rfl) ?_
            refine lv_bipush (v := (11 : Int32)) hx hb dX10_stamp_167 (by decide) ?_
            refine lv_iadd hx hb dX10_stamp_169 ?_
            refine lv_aload_n hx hb dX10_stamp_170 rfl (lv_at hl 1 rfl) ?_
            refine cg_X10_disk hx hb hT hown hK hP mw2_3 dX10_stamp_171 ?_
            refine lv_iload hx hb dX10_stamp_174 (lv_at hl 0 rfl) ?_
            refine lv_bipush (v := (11 : Int32)) hx hb dX10_stamp_176 (by decide) ?_
            refine lv_iadd hx hb dX10_stamp_178 ?_
            replace hF := obnd3_of hF
            obtain ⟨r61, fi59, ar60, h58, hF⟩ := hF
            refine cC_i (As := [.int ((v18) + (11 : Int32))]) (rest := [.int ((v18) + (11 : Int32)), .ref (ad (1))]) hx hb hml hT hown hK hE (hD _) hA hP hS (rcv_X3 hK hP) (kX3_one l g ad rd _ nf ln16 fi26 ar27 ((v18) + (11 : Int32)) r61 fi59 ar60 h58) cw_X3_one mw36_10 ⟨⟨rfl, rfl⟩, Nat.le_of_ble_eq_true rfl, Nat.le_of_ble_eq_true rfl⟩ rfl hl.1 rfl (Nat.le_of_ble_eq_true rfl) dX10_stamp_179 ⟨by show _ ≤ KC; omega, by show _ ≤ KS; omega⟩ (fun H locs hP hS => ?_)
            refine lv_bipush (v := (-2 : Int32)) hx hb dX10_stamp_182 (by decide) ?_
            refine lv_iand hx hb dX10_stamp_184 ?_
            refine lv_iload hx hb dX10_stamp_185 (lv_at hl 5 rfl) ?_
            refine lv_ior hx hb dX10_stamp_187 ?_
            replace hF := obnd3_of hF
            obtain ⟨r65, fi63, ar64, h62, hF⟩ := hF
            refine cC_v (As := [.int ((v18) + (11 : Int32)), .int (((r61) &&& (-2 : Int32)) ||| (p4))]) (rest := []) hx hb hml hT hown hK hE (hD _) hA hP hS (rcv_X3 hK hP) (kX3_putOne l g ad rd _ nf ln16 fi59 ar60 ((v18) + (11 : Int32)) (((r61) &&& (-2 : Int32)) ||| (p4)) r65 fi63 ar64 h62) cw_X3_putOne mw17_2 ⟨⟨rfl, rfl⟩, Nat.le_of_ble_eq_true rfl, Nat.le_of_ble_eq_true rfl⟩ rfl hl.1 rfl (Nat.le_of_ble_eq_true rfl) dX10_stamp_188 ⟨by show _ ≤ KC; omega, by show _ ≤ KS; omega⟩ (fun H locs hP hS => ?_)
            exact J191  _ _ _ _ _ _ _ _ _ _ _ hF hkc hks (lv_sub hl [1] rfl) hP hD hS
  · replace hF := br_yes hF hc29
    obtain ⟨sa, hsa⟩ := hEX.1.2.2.2.2.2.2.2.2.2.2.2.2.2.2
    obtain ⟨hq1, hq2⟩ := cost_of hF
    refine vx_throwSW (cls := "java/lang/IllegalArgumentException") (names := ["java/lang/RuntimeException", "java/lang/Exception"]) (sa := sa) (A := AC ad rd0 s.heap.size) hx hb hlt hown (by decide) (by decide) (hT _ mw9_3) (hT _ mw9_4) hsa (vx_hat (fun w h => hTX w (tbx3 w h)) (by rw [vxb_2]; exact fun _ h => h) (vx_c (va_tabs rfl rfl hEX.2.2.2.2.2.1) (vx_c (va_tabs rfl rfl hEX.2.2.2.2.2.2.1) (vx_c (va_tabs rfl rfl hEX.2.2.2.2.2.2.2) (vx_c (va_tabs rfl rfl hEX.2.2.2.1) vx_n))))) vxg_2 hEX.1.1 hEX.1.2.1 hS (by rw [hml]; exact hl.1) dX10_stamp_24 dX10_stamp_27 dX10_stamp_28 dX10_stamp_31 dX10_stamp_34 (fun x hx => (hout x hx).elim) (Nat.le_of_ble_eq_true rfl) (Nat.le_of_ble_eq_true rfl) (by show _ ≤ KC; omega) (by show _ ≤ KS; omega) hlocks (fun t _ hz hk => ?_) hS.2.2 (by omega) (by omega)
    exact xx_of (k := 2) hF (hP.kept (fun k q h => hk q.1 (hP k q h).lt)) hD ⟨Nat.le_trans hS.1 hz, fun q h1 h2 => by rw [hk q (Nat.lt_of_lt_of_le h1 hS.1)]; exact hS.2.1 q h1 h2⟩
theorem cw_X10_stamp : (Cond.instanceMethod yX10_stamp ∈ TB ∧ Cond.selects RX10 yX10_stamp yX10_stamp ∈ TB ∧ Cond.code yX10_stamp cX10_stamp 6 none ∈ TB ∧ Cond.initialized RX10 ∈ TB) ∧ (yX10_stamp.cls = RX10 ∧ yX10_stamp.cls ≠ "java/lang/invoke/MethodHandle" ∧ yX10_stamp.cls ≠ "java/lang/invoke/VarHandle" ∧ (parseMethodDescriptor yX10_stamp.desc).map (fun d => d.parameters.length) = some 4) := ⟨⟨mw55_7, mw55_8, mw55_9, mw1_2⟩, by decide +kernel⟩
