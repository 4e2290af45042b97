/-! X10_about -/
noncomputable def FX10_about_65 (nf : Nat) (t0 : Int64) (fi : FI) (ar : AR) (ln : LN) : Option ((Int64 ⊕ Nat) × FI × AR × LN × Nat × Nat) :=
  some (Sum.inl (t0), fi, ar, ln, 0, 0)
noncomputable def FX10_about (nf : Nat) (fi : FI) (ar : AR) (ln : LN) (x1 : Int32) (x2 : Int32) : Option ((Int64 ⊕ Nat) × FI × AR × LN × Nat × Nat) :=
  obnd6 (FX10_openHere nf fi ar ln) fun r5 fi2 ar3 ln4 kc7 ks8 => addc (kc7) (ks8) (sumc r5 (fun v6 => obnd6 (FX10_itemAt nf fi2 ar3 ln4 (x1)) fun r17 fi14 ar15 ln16 kc19 ks20 => addc (kc19) (ks20) (sumc r17 (fun v18 => br ((x2) = (0 : Int32)) (obnd3 (FX10_isDirectory nf ln16 fi14 ar15 (v18)) fun r29 fi27 ar28 => br ((r29) = 0) (FX10_about_65 nf  (0 : Int64) fi27 ar28 ln16) (FX10_about_65 nf  (1 : Int64) fi27 ar28 ln16)) (br ((x2) = (1 : Int32)) (obnd3 (FX3_one nf ln16 fi14 ar15 ((v18) + (11 : Int32))) fun r35 fi33 ar34 => some (Sum.inl (((r35) &&& (1 : Int32)).toInt64), fi33, ar34, ln16, 0, 0)) (br ((x2) = (2 : Int32)) (obnd3 (FX10_secondsOfRead nf ln16 fi14 ar15 (v18)) fun r40 fi38 ar39 => some (Sum.inl (r40), fi38, ar39, ln16, 0, 0)) (br ((x2) = (3 : Int32)) (obnd3 (FX10_secondsOfMade nf ln16 fi14 ar15 (v18)) fun r45 fi43 ar44 => some (Sum.inl (r45), fi43, ar44, ln16, 0, 0)) (br ((x2) = (4 : Int32)) (obnd3 (FX10_secondsOfWritten nf ln16 fi14 ar15 (v18)) fun r50 fi48 ar49 => some (Sum.inl (r50), fi48, ar49, ln16, 0, 0)) (br ((x2) = (5 : Int32)) (obnd3 (FX3_four nf ln16 fi14 ar15 ((v18) + (28 : Int32))) fun r55 fi53 ar54 => some (Sum.inl ((r55).toInt64), fi53, ar54, ln16, 0, 0)) (br ((x2) = (6 : Int32)) (obnd3 (FX2_partsOf nf ln16 0 fi14 ar15 (x1)) fun r60 fi58 ar59 => some (Sum.inl ((r60).toInt64), fi58, ar59, ln16, 0, 0)) (some (Sum.inr 2, fi14, ar15, ln16, 1, 6))))))))) (fun k21 => some (Sum.inr k21, fi14, ar15, ln16, 0, 0)))) (fun k9 => some (Sum.inr k9, fi2, ar3, ln4, 0, 0)))
set_option maxHeartbeats 8000000 in
set_option maxRecDepth 100000 in
theorem kX10_about (l : Launch) (g : GT) (ad rd0 : Nat → Nat) (sz : Nat) (nf : Nat) (hlt : l.stackTraces = false) (fi : FI) (ar : AR) (ln : LN) (p1 : Int32) (p2 : Int32) (r : (Int64 ⊕ Nat)) (fi' : FI) (ar' : AR) (ln' : LN) (KC KS : Nat) (hF : FX10_about nf fi ar ln p1 p2 = some (r, fi', ar', ln', KC, KS)) : vx_Met l yX10_about (wxX yX10_about cX10_about 4 (some .long)) ({ frames := 10, cells := KC, slots := KS, locals := 233 } : Room) (va_Pc [.ref (ad (0)), .int p1, .int p2] (PX g ad rd0 ln sz fi ar)) (QXl g ad (AC ad rd0 sz) r fi' ar' ln') (XX g ad (AC ad rd0 sz) r fi' ar' ln') KC KS (AC ad rd0 sz) := by
  refine vx_ofW (cc := cX10_about) (maxL := 4) (ret := (some .long)) (by decide) rfl ?_
  intro p e s m args below meth c s₁ B hml hout hv
  obtain ⟨rfl, ⟨hsz, hP, hK, hD0, hE⟩, hEX⟩ := hv
  have hx := B.exec
  have hb := B.bytes
  have hr := B.returns
  have hts := atoms_spec (ws := (wxX yX10_about cX10_about 4 (some .long))) B.pre
  have hTX : ∀ w ∈ TBX, w.before _ s = true := fun w h => hts w (List.mem_cons_of_mem _ h)
  have hT : ∀ w ∈ TB, w.before _ s = true := fun w h => hTX w (tbx0 w h)
  have hown : s.vm.findClass RX10 = some m.cls := findClass_of_methodNamed B.named
  have hlocks := B.notSynchronized
  subst hsz
  have hD : ∀ (ln : LN) (fi : FI) (ar : AR), va_D (AC ad rd0 s.heap.size) (WC g ad rd0 ln fi ar) := dCre (dC hD0 s.heap.size fi ar) (fun _ h => h)
  have hA : ∀ q : Nat, s.heap.size ≤ q → AC ad rd0 s.heap.size q := fun q h => Or.inr h
  have hS : va_S (AC ad rd0 s.heap.size) s.heap s.heap [] := va_S.rf
  have hl := lv_entry ([.ref (ad (0)), .int p1, .int p2]) (n := 4) (Nat.le_of_ble_eq_true rfl)
  rw [lg_entry_eq]
  generalize (lg_sl ([.ref (ad (0)), .int p1, .int p2]) ++ List.replicate (4 - (lg_sl ([.ref (ad (0)), .int p1, .int p2])).length) Slot.unset).toArray = ls at hl ⊢
  have hl : lv_has ls 4 [(0, .ref (ad (0))), (1, .int p1), (2, .int p2)] := hl
  unfold FX10_about at hF
  have J65 : ∀ (t0 : Int64) (fi : FI) (ar : AR) (ln : LN) (kc ks cells slots : Nat) (rd : Nat → Nat) (H : Heap) (locs : List Loc) (ls : Array Slot), FX10_about_65 nf t0 fi ar ln = some (r, fi', ar', ln', kc, ks) → cells + kc ≤ KC → slots + ks ≤ KS → lv_has ls 4 [(0, .ref (ad (0)))] → va_P (gD g) vwCl (WC g ad rd ln fi ar) H → (∀ (ln : LN) (fi : FI) (ar : AR), va_D (AC ad rd0 s.heap.size) (WC g ad rd ln fi ar)) → va_S (AC ad rd0 s.heap.size) s.heap H locs → W p l e (headSpec (wxX yX10_about cX10_about 4 (some .long)) ({ frames := 10, cells := KC, slots := KS, locals := 233 } : Room)).room s m ([.ref (ad (0)), .int p1, .int p2] : List Value).toArray below meth c H locs cells slots (vx_MQ below (QXl g ad (AC ad rd0 s.heap.size) r fi' ar' ln') (XX g ad (AC ad rd0 s.heap.size) r fi' ar' ln') ([.ref (ad (0)), .int p1, .int p2] : List Value).toArray s KC KS (AC ad rd0 s.heap.size)) (F0 m 65 ls [.long t0]) := by
    intro t0 fi ar ln kc ks cells slots rd H locs ls hF hkc hks hl hP hD hS
    unfold FX10_about_65 at hF
    refine W.widen (k := KC) (n := KS) (by omega) (by omega) ?_
    exact rX_l hx hb hr hlocks hF hP hD hS dX10_about_65
  replace hl := lv_sub hl [0, 1, 2] rfl
  obtain ⟨cells, ecells⟩ : ∃ z : Nat, z = 0 := ⟨_, rfl⟩
  obtain ⟨slots, eslots⟩ : ∃ z : Nat, z = 0 := ⟨_, rfl⟩
  obtain ⟨kc, ekc⟩ : ∃ z : Nat, z = KC := ⟨_, rfl⟩
  obtain ⟨ks, eks⟩ : ∃ z : Nat, z = KS := ⟨_, rfl⟩
  have hkc : cells + kc ≤ KC := by omega
  have hks : slots + ks ≤ KS := by omega
  replace hF := kcks_of hF ekc eks
  suffices hgo : W p l e (headSpec (wxX yX10_about cX10_about 4 (some .long)) ({ frames := 10, cells := KC, slots := KS, locals := 233 } : Room)).room s m ([.ref (ad (0)), .int p1, .int p2] : List Value).toArray below meth c s.heap [] cells slots (vx_MQ below (QXl g ad (AC ad rd0 s.heap.size) r fi' ar' ln') (XX g ad (AC ad rd0 s.heap.size) r fi' ar' ln') ([.ref (ad (0)), .int p1, .int p2] : List Value).toArray s KC KS (AC ad rd0 s.heap.size)) (F0 m 0 ls []) by rw [ecells, eslots] at hgo; exact hgo
  obtain ⟨rd, erd⟩ : ∃ z : Nat → Nat, z = rd0 := ⟨_, rfl⟩
  have hP : va_P (gD g) vwCl (WC g ad rd ln fi ar) s.heap := by rw [erd]; exact hP
  have hD : ∀ (ln : LN) (fi : FI) (ar : AR), va_D (AC ad rd0 s.heap.size) (WC g ad rd ln fi ar) := by rw [erd]; exact hD
  clear erd
  refine lv_aload_n hx hb dX10_about_0 rfl (lv_at hl 0 rfl) ?_
  replace hF := obnd6_of hF
  obtain ⟨r5, fi2, ar3, ln4, kc7, ks8, h1, hF⟩ := hF
  replace hF := addc_of hF
  obtain ⟨kc10, ks11, e12c, e12s, hF⟩ := hF
  rcases r5 with v6 | k9
  rotate_left
  · replace hF := sumc_r hF
    exact cX_vt (As := []) (rest := []) hx hb hml hTX hown hK hE hEX hD hA hP hS (rcv_X10 hK hP) (kX10_openHere l g ad rd _ nf hlt fi ar ln (Sum.inr k9) fi2 ar3 ln4 kc7 ks8 h1) cw_X10_openHere mw37_16 ⟨⟨rfl, rfl⟩, Nat.le_of_ble_eq_true rfl, Nat.le_of_ble_eq_true rfl⟩ rfl hl.1 rfl (Nat.le_of_ble_eq_true rfl) dX10_about_1 ⟨by show _ ≤ KC; omega, by show _ ≤ KS; omega⟩ ⟨hout, hlocks, by omega, by omega, fun rd H locs t ht hP hD hS => xx_of hF (by rw [ht]; exact hP) hD (hS.F ht)⟩
  replace hF := sumc_l hF
  refine cX_v (As := []) (rest := []) hx hb hml hTX hown hK hE hEX hD hA hP hS (rcv_X10 hK hP) (kX10_openHere l g ad rd _ nf hlt fi ar ln (Sum.inl v6) fi2 ar3 ln4 kc7 ks8 h1) cw_X10_openHere mw37_16 ⟨⟨rfl, rfl⟩, Nat.le_of_ble_eq_true rfl, Nat.le_of_ble_eq_true rfl⟩ rfl hl.1 rfl (Nat.le_of_ble_eq_true rfl) dX10_about_1 ⟨by show _ ≤ KC; omega, by show _ ≤ KS; omega⟩ (fun rd H locs hP hD hS => ?_)
  replace hkc : cells + kc7 + kc10 ≤ KC := by omega
  replace hks : slots + ks8 + ks11 ≤ KS := by omega
  refine lv_aload_n hx hb dX10_about_4 rfl (lv_at hl 0 rfl) ?_
  refine lv_iload_n hx hb dX10_about_5 rfl (lv_at hl 1 rfl) ?_
  replace hF := obnd6_of hF
  obtain ⟨r17, fi14, ar15, ln16, kc19, ks20, h13, hF⟩ := hF
  replace hF := addc_of hF
  obtain ⟨kc22, ks23, e24c, e24s, hF⟩ := hF
  rcases r17 with v18 | k21
  rotate_left
  · replace hF := sumc_r hF
    exact cX_it (As := [.int (p1)]) (rest := []) hx hb hml hTX hown hK hE hEX hD hA hP hS (rcv_X10 hK hP) (kX10_itemAt l g ad rd _ nf hlt fi2 ar3 ln4 (p1) (Sum.inr k21) fi14 ar15 ln16 kc19 ks20 h13) cw_X10_itemAt mw39_6 ⟨⟨rfl, rfl⟩, Nat.le_of_ble_eq_true rfl, Nat.le_of_ble_eq_true rfl⟩ rfl hl.1 rfl (Nat.le_of_ble_eq_true rfl) dX10_about_6 ⟨by show _ ≤ KC; omega, by show _ ≤ KS; omega⟩ ⟨hout, hlocks, by omega, by omega, fun rd H locs t ht hP hD hS => xx_of hF (by rw [ht]; exact hP) hD (hS.F ht)⟩
  replace hF := sumc_l hF
  refine cX_i (As := [.int (p1)]) (rest := []) hx hb hml hTX hown hK hE hEX hD hA hP hS (rcv_X10 hK hP) (kX10_itemAt l g ad rd _ nf hlt fi2 ar3 ln4 (p1) (Sum.inl v18) fi14 ar15 ln16 kc19 ks20 h13) cw_X10_itemAt mw39_6 ⟨⟨rfl, rfl⟩, Nat.le_of_ble_eq_true rfl, Nat.le_of_ble_eq_true rfl⟩ rfl hl.1 rfl (Nat.le_of_ble_eq_true rfl) dX10_about_6 ⟨by show _ ≤ KC; omega, by show _ ≤ KS; omega⟩ (fun rd H locs hP hD hS => ?_)
  replace hkc : cells + kc7 + kc19 + kc22 ≤ KC := by omega
  replace hks : slots + ks8 + ks20 + ks23 ≤ KS := by omega
  refine lv_istore_n (lv' := [(3, .int (v18)), (0, .ref (ad (0))), (1, .int (p1)), (2, .int (p2))]) hx hb dX10_about_9 rfl hl (by decide) rfl (fun ls hl => ?_)
  refine lv_iload_n hx hb dX10_about_10 rfl (lv_at hl 3 rfl) ?_
  by_cases hc25 : (p2) = (0 : Int32)
  · replace hF := br_yes hF hc25
    refine lv_tableIn (tgt := 52) (off := 41) hx hb dX10_about_11 (by rw [hc25]; decide) (by rw [hc25]; decide) (by rw [hc25]; rfl) (by decide) ?_
    refine lv_aload_n hx hb dX10_about_52 rfl (lv_at hl 1 rfl) ?_
    refine lv_iload_n hx hb dX10_about_53 rfl (lv_at hl 0 rfl) ?_
    replace hF := obnd3_of hF
    obtain ⟨r29, fi27, ar28, h26, hF⟩ := hF
    refine cC_i (As := [.int (v18)]) (rest := []) hx hb hml hT hown hK hE (hD _) hA hP hS (rcv_X10 hK hP) (kX10_isDirectory l g ad rd _ nf ln16 fi14 ar15 (v18) r29 fi27 ar28 h26) cw_X10_isDirectory mw41_1 ⟨⟨rfl, rfl⟩, Nat.le_of_ble_eq_true rfl, Nat.le_of_ble_eq_true rfl⟩ rfl hl.1 rfl (Nat.le_of_ble_eq_true rfl) dX10_about_54 ⟨by show _ ≤ KC; omega, by show _ ≤ KS; omega⟩ (fun H locs hP hS => ?_)
    refine lv_if_eq (tgt := 64) hx hb dX10_about_57 (by decide) (fun hc30 => ?_) (fun hc30 => ?_)
    · replace hF := br_yes hF hc30
      refine lv_lconst (v := (0 : Int64)) hx hb dX10_about_64 (by decide) ?_
      exact J65 (0 : Int64) _ _ _ _ _ _ _ _ _ _ _ hF hkc hks (lv_sub hl [1] rfl) hP hD hS
    · replace hF := br_no hF hc30
      refine lv_lconst (v := (1 : Int64)) hx hb dX10_about_60 (by decide) ?_
      refine lv_goto (tgt := 65) hx hb dX10_about_61 (by decide) ?_
      exact J65 (1 : Int64) _ _ _ _ _ _ _ _ _ _ _ hF hkc hks (lv_sub hl [1] rfl) hP hD hS
  · replace hF := br_no hF hc25
    by_cases hc31 : (p2) = (1 : Int32)
    · replace hF := br_yes hF hc31
      refine lv_tableIn (tgt := 66) (off := 55) hx hb dX10_about_11 (by rw [hc31]; decide) (by rw [hc31]; decide) (by rw [hc31]; rfl) (by decide) ?_
      refine lv_aload_n hx hb dX10_about_66 rfl (lv_at hl 1 rfl) ?_
      refine cg_X10_disk hx hb hT hown hK hP mw2_3 dX10_about_67 ?_
      refine lv_iload_n hx hb dX10_about_70 rfl (lv_at hl 0 rfl) ?_
      refine lv_bipush (v := (11 : Int32)) hx hb dX10_about_71 (by decide) ?_
      refine lv_iadd hx hb dX10_about_73 ?_
      replace hF := obnd3_of hF
      obtain ⟨r35, fi33, ar34, h32, hF⟩ := hF
      refine cC_i (As := [.int ((v18) + (11 : Int32))]) (rest := []) hx hb hml hT hown hK hE (hD _) hA hP hS (rcv_X3 hK hP) (kX3_one l g ad rd _ nf ln16 fi14 ar15 ((v18) + (11 : Int32)) r35 fi33 ar34 h32) cw_X3_one mw36_10 ⟨⟨rfl, rfl⟩, Nat.le_of_ble_eq_true rfl, Nat.le_of_ble_eq_true rfl⟩ rfl hl.1 rfl (Nat.le_of_ble_eq_true rfl) dX10_about_74 ⟨by show _ ≤ KC; omega, by show _ ≤ KS; omega⟩ (fun H locs hP hS => ?_)
      refine lv_iconst (v := (1 : Int32)) hx hb dX10_about_77 (by decide) ?_
      refine lv_iand hx hb dX10_about_78 ?_
      refine lv_i2l hx hb dX10_about_79 rfl ?_
      refine W.widen (k := KC) (n := KS) (by omega) (by omega) ?_
      exact rX_l hx hb hr hlocks hF hP hD hS dX10_about_80
    · replace hF := br_no hF hc31
      by_cases hc36 : (p2) = (2 : Int32)
      · replace hF := br_yes hF hc36
        refine lv_tableIn (tgt := 81) (off := 70) hx hb dX10_about_11 (by rw [hc36]; decide) (by rw [hc36]; decide) (by rw [hc36]; rfl) (by decide) ?_
        refine lv_aload_n hx hb dX10_about_81 rfl (lv_at hl 1 rfl) ?_
        refine lv_iload_n hx hb dX10_about_82 rfl (lv_at hl 0 rfl) ?_
        replace hF := obnd3_of hF
        obtain ⟨r40, fi38, ar39, h37, hF⟩ := hF
        refine cC_l (As := [.int (v18)]) (rest := []) hx hb hml hT hown hK hE (hD _) hA hP hS (rcv_X10 hK hP) (kX10_secondsOfRead l g ad rd _ nf ln16 fi14 ar15 (v18) r40 fi38 ar39 h37) cw_X10_secondsOfRead mw41_5 ⟨⟨rfl, rfl⟩, Nat.le_of_ble_eq_true rfl, Nat.le_of_ble_eq_true rfl⟩ rfl hl.1 rfl (Nat.le_of_ble_eq_true rfl) dX10_about_83 ⟨by show _ ≤ KC; omega, by show _ ≤ KS; omega⟩ (fun H locs hP hS => ?_)
        refine W.widen (k := KC) (n := KS) (by omega) (by omega) ?_
        exact rX_l hx hb hr hlocks hF hP hD hS dX10_about_86
      · replace hF := br_no hF hc36
        by_cases hc41 : (p2) = (3 : Int32)
        · replace hF := br_yes hF hc41
          refine lv_tableIn (tgt := 87) (off := 76) hx hb dX10_about_11 (by rw [hc41]; decide) (by rw [hc41]; decide) (by rw [hc41]; rfl) (by decide) ?_
          refine lv_aload_n hx hb dX10_about_87 rfl (lv_at hl 1 rfl) ?_
          refine lv_iload_n hx hb dX10_about_88 rfl (lv_at hl 0 rfl) ?_
          replace hF := obnd3_of hF
          obtain ⟨r45, fi43, ar44, h42, hF⟩ := hF
          refine cC_l (As := [.int (v18)]) (rest := []) hx hb hml hT hown hK hE (hD _) hA hP hS (rcv_X10 hK hP) (kX10_secondsOfMade l g ad rd _ nf ln16 fi14 ar15 (v18) r45 fi43 ar44 h42) cw_X10_secondsOfMade mw41_18 ⟨⟨rfl, rfl⟩, Nat.le_of_ble_eq_true rfl, Nat.le_of_ble_eq_true rfl⟩ rfl hl.1 rfl (Nat.le_of_ble_eq_true rfl) dX10_about_89 ⟨by show _ ≤ KC; omega, by show _ ≤ KS; omega⟩ (fun H locs hP hS => ?_)
          refine W.widen (k := KC) (n := KS) (by omega) (by omega) ?_
          exact rX_l hx hb hr hlocks hF hP hD hS dX10_about_92
        · replace hF := br_no hF hc41
          by_cases hc46 : (p2) = (4 : Int32)
          · replace hF := br_yes hF hc46
            refine lv_tableIn (tgt := 93) (off := 82) hx hb dX10_about_11 (by rw [hc46]; decide) (by rw [hc46]; decide) (by rw [hc46]; rfl) (by decide) ?_
            refine lv_aload_n hx hb dX10_about_93 rfl (lv_at hl 1 rfl) ?_
            refine lv_iload_n hx hb dX10_about_94 rfl (lv_at hl 0 rfl) ?_
            replace hF := obnd3_of hF
            obtain ⟨r50, fi48, ar49, h47, hF⟩ := hF
            refine cC_l (As := [.int (v18)]) (rest := []) hx hb hml hT hown hK hE (hD _) hA hP hS (rcv_X10 hK hP) (kX10_secondsOfWritten l g ad rd _ nf ln16 fi14 ar15 (v18) r50 fi48 ar49 h47) cw_X10_secondsOfWritten mw41_10 ⟨⟨rfl, rfl⟩, Nat.le_of_ble_eq_true rfl, Nat.le_of_ble_eq_true rfl⟩ rfl hl.1 rfl (Nat.le_of_ble_eq_true rfl) dX10_about_95 ⟨by show _ ≤ KC; omega, by show _ ≤ KS; omega⟩ (fun H locs hP hS => ?_)
            refine W.widen (k := KC) (n := KS) (by omega) (by omega) ?_
            exact rX_l hx hb hr hlocks hF hP hD hS dX10_about_98
          · replace hF := br_no hF hc46
            by_cases hc51 : (p2) = (5 : Int32)
            · replace hF := br_yes hF hc51
              refine lv_tableIn (tgt := 99) (off := 88) hx hb dX10_about_11 (by rw [hc51]; decide) (by rw [hc51]; decide) (by rw [hc51]; rfl) (by decide) ?_
              refine lv_aload_n hx hb dX10_about_99 rfl (lv_at hl 1 rfl) ?_
              refine cg_X10_disk hx hb hT hown hK hP mw2_3 dX10_about_100 ?_
              refine lv_iload_n hx hb dX10_about_103 rfl (lv_at hl 0 rfl) ?_
              refine lv_bipush (v := (28 : Int32)) hx hb dX10_about_104 (by decide) ?_
              refine lv_iadd hx hb dX10_about_106 ?_
              replace hF := obnd3_of hF
              obtain ⟨r55, fi53, ar54, h52, hF⟩ := hF
              refine cC_i (As := [.int ((v18) + (28 : Int32))]) (rest := []) hx hb hml hT hown hK hE (hD _) hA hP hS (rcv_X3 hK hP) (kX3_four l g ad rd _ nf ln16 fi14 ar15 ((v18) + (28 : Int32)) r55 fi53 ar54 h52) cw_X3_four mw41_22 ⟨⟨rfl, rfl⟩, Nat.le_of_ble_eq_true rfl, Nat.le_of_ble_eq_true rfl⟩ rfl hl.1 rfl (Nat.le_of_ble_eq_true rfl) dX10_about_107 ⟨by show _ ≤ KC; omega, by show _ ≤ KS; omega⟩ (fun H locs hP hS => ?_)
              refine lv_i2l hx hb dX10_about_110 rfl ?_
              refine W.widen (k := KC) (n := KS) (by omega) (by omega) ?_
              exact rX_l hx hb hr hlocks hF hP hD hS dX10_about_111
            · replace hF := br_no hF hc51
              by_cases hc56 : (p2) = (6 : Int32)
              · replace hF := br_yes hF hc56
                refine lv_tableIn (tgt := 112) (off := 101) hx hb dX10_about_11 (by rw [hc56]; decide) (by rw [hc56]; decide) (by rw [hc56]; rfl) (by decide) ?_
                refine lv_aload_n hx hb dX10_about_112 rfl (lv_at hl 1 rfl) ?_
                refine cg_X10_here hx hb hT hown hK hP mw2_19 dX10_about_113 ?_
                refine lv_iload_n hx hb dX10_about_116 rfl (lv_at hl 2 rfl) ?_
                replace hF := obnd3_of hF
                obtain ⟨r60, fi58, ar59, h57, hF⟩ := hF
                refine cC_i (As := [.int (p1)]) (rest := []) hx hb hml hT hown hK hE (hD _) hA hP hS (rcv_X2 (by decide) hK hP) (kX2_partsOf l g ad rd _ nf ln16 0 (by decide) fi14 ar15 (p1) r60 fi58 ar59 h57) cw_X2_partsOf mw39_14 ⟨⟨rfl, rfl⟩, Nat.le_of_ble_eq_true rfl, Nat.le_of_ble_eq_true rfl⟩ rfl hl.1 rfl (Nat.le_of_ble_eq_true rfl) dX10_about_117 ⟨by show _ ≤ KC; omega, by show _ ≤ KS; omega⟩ (fun H locs hP hS => ?_)
                refine lv_i2l hx hb dX10_about_120 rfl ?_
                refine W.widen (k := KC) (n := KS) (by omega) (by omega) ?_
                exact rX_l hx hb hr hlocks hF hP hD hS dX10_about_121
              · replace hF := br_no hF hc56
                refine lv_tableOut (tgt := 122) hx hb dX10_about_11 (tsw_out (n := 6) (by decide) (fun k hk => by
                  have hk2 : k = 0 ∨ k = 1 ∨ k = 2 ∨ k = 3 ∨ k = 4 ∨ k = 5 ∨ k = 6 := by omega
                  rcases hk2 with rfl | rfl | rfl | rfl | rfl | rfl | rfl
                  · exact hc25
                  · exact hc31
                  · exact hc36
                  · exact hc41
                  · exact hc46
                  · exact hc51
                  · exact hc56)) (by decide) ?_
                obtain ⟨sa, hsa⟩ := hEX.1.2.2.2.2.2.1
                obtain ⟨hq1, hq2⟩ := cost_of hF
                refine vx_throwS (cls := "java/lang/IllegalArgumentException") (names := ["java/lang/RuntimeException", "java/lang/Exception"]) (sa := sa) (A := AC ad rd0 s.heap.size) hx hb hlt hown (by decide) (by decide) (hT _ mw9_3) (hT _ mw9_4) hsa (vx_hat (fun w h => hTX w (tbx3 w h)) (by rw [vxb_2]; exact fun _ h => h) (vx_c (va_tabs rfl rfl hEX.2.2.2.2.2.1) (vx_c (va_tabs rfl rfl hEX.2.2.2.2.2.2.1) (vx_c (va_tabs rfl rfl hEX.2.2.2.2.2.2.2) (vx_c (va_tabs rfl rfl hEX.2.2.2.1) vx_n))))) vxg_2 hEX.1.1 hEX.1.2.1 hS (by rw [hml]; exact hl.1) dX10_about_122 dX10_about_125 dX10_about_126 dX10_about_128 dX10_about_131 (fun x hx => (hout x hx).elim) (Nat.le_of_ble_eq_true rfl) (Nat.le_of_ble_eq_true rfl) (by show _ ≤ KC; omega) (by show _ ≤ KS; omega) hlocks (fun t _ hz hk => ?_) hS.2.2 (by omega) (by omega)
                exact xx_of (k := 2) hF (hP.kept (fun k q h => hk q.1 (hP k q h).lt)) hD ⟨Nat.le_trans hS.1 hz, fun q h1 h2 => by rw [hk q (Nat.lt_of_lt_of_le h1 hS.1)]; exact hS.2.1 q h1 h2⟩
theorem cw_X10_about : (Cond.instanceMethod yX10_about ∈ TB ∧ Cond.selects RX10 yX10_about yX10_about ∈ TB ∧ Cond.code yX10_about cX10_about 4 (some .long) ∈ TB ∧ Cond.initialized RX10 ∈ TB) ∧ (yX10_about.cls = RX10 ∧ yX10_about.cls ≠ "java/lang/invoke/MethodHandle" ∧ yX10_about.cls ≠ "java/lang/invoke/VarHandle" ∧ (parseMethodDescriptor yX10_about.desc).map (fun d => d.parameters.length) = some 2) := ⟨⟨mw40_22, mw40_23, mw41_0, mw1_2⟩, by decide +kernel⟩
/-! X10_content -/
noncomputable def FX10_content_29 (nf : Nat)  (fi : FI) (ar : AR) (ln : LN) : Option ((Int32 ⊕ Nat) × FI × AR × LN × Nat × Nat) :=
  some (Sum.inl (-1 : Int32), fi, ar, ln, 0, 0)
noncomputable def FX10_content (nf : Nat) (fi : FI) (ar : AR) (ln : LN) (x1 : Int32) (x2 : Int32) : Option ((Int32 ⊕ Nat) × FI × AR × LN × Nat × Nat) :=
  obnd6 (FX10_openHere nf fi ar ln) fun r5 fi2 ar3 ln4 kc7 ks8 => addc (kc7) (ks8) (sumc r5 (fun v6 => obnd6 (FX10_itemAt nf fi2 ar3 ln4 (x1)) fun r17 fi14 ar15 ln16 kc19 ks20 => addc (kc19) (ks20) (sumc r17 (fun v18 => br ((x2) < 0) (FX10_content_29 nf  fi14 ar15 ln16) (obnd3 (FX3_four nf ln16 fi14 ar15 ((v18) + (28 : Int32))) fun r29 fi27 ar28 => br ((x2) < (r29)) (obnd3 (FX3_firstCluster nf ln16 fi27 ar28 (v18)) fun r34 fi32 ar33 => obnd3 (FX9_byteShift nf ln16 fi32 ar33) fun r38 fi36 ar37 => obnd3 (FX9_later nf ln16 fi36 ar37 (r34) ((x2) >>> ((r38) &&& 31))) fun r42 fi40 ar41 => obnd3 (FX9_addressOf nf ln16 fi40 ar41 (r42)) fun r46 fi44 ar45 => obnd3 (FX9_byteMask nf ln16 fi44 ar45) fun r50 fi48 ar49 => obnd3 (FX3_one nf ln16 fi48 ar49 ((r46) + ((x2) &&& (r50)))) fun r54 fi52 ar53 => some (Sum.inl (r54), fi52, ar53, ln16, 0, 0)) (FX10_content_29 nf  fi27 ar28 ln16))) (fun k21 => some (Sum.inr k21, fi14, ar15, ln16, 0, 0)))) (fun k9 => some (Sum.inr k9, fi2, ar3, ln4, 0, 0)))
set_option maxHeartbeats 8000000 in
set_option maxRecDepth 100000 in
theorem kX10_content (l : Launch) (g : GT) (ad rd0 : Nat → Nat) (sz : Nat) (nf : Nat) (hlt : l.stackTraces = false) (fi : FI) (ar : AR) (ln : LN) (p1 : Int32) (p2 : Int32) (r : (Int32 ⊕ Nat)) (fi' : FI) (ar' : AR) (ln' : LN) (KC KS : Nat) (hF : FX10_content nf fi ar ln p1 p2 = some (r, fi', ar', ln', KC, KS)) : vx_Met l yX10_content (wxX yX10_content cX10_content 5 (some .int)) ({ frames := 10, cells := KC, slots := KS, locals := 233 } : Room) (va_Pc [.ref (ad (0)), .int p1, .int p2] (PX g ad rd0 ln sz fi ar)) (QXi g ad (AC ad rd0 sz) r fi' ar' ln') (XX g ad (AC ad rd0 sz) r fi' ar' ln') KC KS (AC ad rd0 sz) := by
  refine vx_ofW (cc := cX10_content) (maxL := 5) (ret := (some .int)) (by decide) rfl ?_
  intro p e s m args below meth c s₁ B hml hout hv
  obtain ⟨rfl, ⟨hsz, hP, hK, hD0, hE⟩, hEX⟩ := hv
  have hx := B.exec
  have hb := B.bytes
  have hr := B.returns
  have hts := atoms_spec (ws := (wxX yX10_content cX10_content 5 (some .int))) B.pre
  have hTX : ∀ w ∈ TBX, w.before _ s = true := fun w h => hts w (List.mem_cons_of_mem _ h)
  have hT : ∀ w ∈ TB, w.before _ s = true := fun w h => hTX w (tbx0 w h)
  have hown : s.vm.findClass RX10 = some m.cls := findClass_of_methodNamed B.named
  have hlocks := B.notSynchronized
  subst hsz
  have hD : ∀ (ln : LN) (fi : FI) (ar : AR), va_D (AC ad rd0 s.heap.size) (WC g ad rd0 ln fi ar) := dCre (dC hD0 s.heap.size fi ar) (fun _ h => h)
  have hA : ∀ q : Nat, s.heap.size ≤ q → AC ad rd0 s.heap.size q := fun q h => Or.inr h
  have hS : va_S (AC ad rd0 s.heap.size) s.heap s.heap [] := va_S.rf
  have hl := lv_entry ([.ref (ad (0)), .int p1, .int p2]) (n := 5) (Nat.le_of_ble_eq_true rfl)
  rw [lg_entry_eq]
  generalize (lg_sl ([.ref (ad (0)), .int p1, .int p2]) ++ List.replicate (5 - (lg_sl ([.ref (ad (0)), .int p1, .int p2])).length) Slot.unset).toArray = ls at hl ⊢
  have hl : lv_has ls 5 [(0, .ref (ad (0))), (1, .int p1), (2, .int p2)] := hl
  unfold FX10_content at hF
  have J29 : ∀  (fi : FI) (ar : AR) (ln : LN) (kc ks cells slots : Nat) (rd : Nat → Nat) (H : Heap) (locs : List Loc) (ls : Array Slot), FX10_content_29 nf fi ar ln = some (r, fi', ar', ln', kc, ks) → cells + kc ≤ KC → slots + ks ≤ KS → lv_has ls 5 [(0, .ref (ad (0)))] → va_P (gD g) vwCl (WC g ad rd ln fi ar) H → (∀ (ln : LN) (fi : FI) (ar : AR), va_D (AC ad rd0 s.heap.size) (WC g ad rd ln fi ar)) → va_S (AC ad rd0 s.heap.size) s.heap H locs → W p l e (headSpec (wxX yX10_content cX10_content 5 (some .int)) ({ frames := 10, cells := KC, slots := KS, locals := 233 } : Room)).room s m ([.ref (ad (0)), .int p1, .int p2] : List Value).toArray below meth c H locs cells slots (vx_MQ below (QXi g ad (AC ad rd0 s.heap.size) r fi' ar' ln') (XX g ad (AC ad rd0 s.heap.size) r fi' ar' ln') ([.ref (ad (0)), .int p1, .int p2] : List Value).toArray s KC KS (AC ad rd0 s.heap.size)) (F0 m 29 ls []) := by
    intro fi ar ln kc ks cells slots rd H locs ls hF hkc hks hl hP hD hS
    unfold FX10_content_29 at hF
    refine lv_iconst (v := (-1 : Int32)) hx hb dX10_content_29 (by decide) ?_
    refine W.widen (k := KC) (n := KS) (by omega) (by omega) ?_
    exact rX_i hx hb hr hlocks hF hP hD hS dX10_content_30
  replace hl := lv_sub hl [0, 1, 2] rfl
  obtain ⟨cells, ecells⟩ : ∃ z : Nat, z = 0 := ⟨_, rfl⟩
  obtain ⟨slots, eslots⟩ : ∃ z : Nat, z = 0 := ⟨_, rfl⟩
  obtain ⟨kc, ekc⟩ : ∃ z : Nat, z = KC := ⟨_, rfl⟩
  obtain ⟨ks, eks⟩ : ∃ z : Nat, z = KS := ⟨_, rfl⟩
  have hkc : cells + kc ≤ KC := by omega
  have hks : slots + ks ≤ KS := by omega
  replace hF := kcks_of hF ekc eks
  suffices hgo : W p l e (headSpec (wxX yX10_content cX10_content 5 (some .int)) ({ frames := 10, cells := KC, slots := KS, locals := 233 } : Room)).room s m ([.ref (ad (0)), .int p1, .int p2] : List Value).toArray below meth c s.heap [] cells slots (vx_MQ below (QXi g ad (AC ad rd0 s.heap.size) r fi' ar' ln') (XX g ad (AC ad rd0 s.heap.size) r fi' ar' ln') ([.ref (ad (0)), .int p1, .int p2] : List Value).toArray s KC KS (AC ad rd0 s.heap.size)) (F0 m 0 ls []) by rw [ecells, eslots] at hgo; exact hgo
  obtain ⟨rd, erd⟩ : ∃ z : Nat → Nat, z = rd0 := ⟨_, rfl⟩
  have hP : va_P (gD g) vwCl (WC g ad rd ln fi ar) s.heap := by rw [erd]; exact hP
  have hD : ∀ (ln : LN) (fi : FI) (ar : AR), va_D (AC ad rd0 s.heap.size) (WC g ad rd ln fi ar) := by rw [erd]; exact hD
  clear erd
  refine lv_aload_n hx hb dX10_content_0 rfl (lv_at hl 0 rfl) ?_
  replace hF := obnd6_of hF
  obtain ⟨r5, fi2, ar3, ln4, kc7, ks8, h1, hF⟩ := hF
  replace hF := addc_of hF
  obtain ⟨kc10, ks11, e12c, e12s, hF⟩ := hF
  rcases r5 with v6 | k9
  rotate_left
  · replace hF := sumc_r hF
    exact cX_vt (As := []) (rest := []) hx hb hml hTX hown hK hE hEX hD hA hP hS (rcv_X10 hK hP) (kX10_openHere l g ad rd _ nf hlt fi ar ln (Sum.inr k9) fi2 ar3 ln4 kc7 ks8 h1) cw_X10_openHere mw37_16 ⟨⟨rfl, rfl⟩, Nat.le_of_ble_eq_true rfl, Nat.le_of_ble_eq_true rfl⟩ rfl hl.1 rfl (Nat.le_of_ble_eq_true rfl) dX10_content_1 ⟨by show _ ≤ KC; omega, by show _ ≤ KS; omega⟩ ⟨hout, hlocks, by omega, by omega, fun rd H locs t ht hP hD hS => xx_of hF (by rw [ht]; exact hP) hD (hS.F ht)⟩
  replace hF := sumc_l hF
  refine cX_v (As := []) (rest := []) hx hb hml hTX hown hK hE hEX hD hA hP hS (rcv_X10 hK hP) (kX10_openHere l g ad rd _ nf hlt fi ar ln (Sum.inl v6) fi2 ar3 ln4 kc7 ks8 h1) cw_X10_openHere mw37_16 ⟨⟨rfl, rfl⟩, Nat.le_of_ble_eq_true rfl, Nat.le_of_ble_eq_true rfl⟩ rfl hl.1 rfl (Nat.le_of_ble_eq_true rfl) dX10_content_1 ⟨by show _ ≤ KC; omega, by show _ ≤ KS; omega⟩ (fun rd H locs hP hD hS => ?_)
  replace hkc : cells + kc7 + kc10 ≤ KC := by omega
  replace hks : slots + ks8 + ks11 ≤ KS := by omega
  refine lv_aload_n hx hb dX10_content_4 rfl (lv_at hl 0 rfl) ?_
  refine lv_iload_n hx hb dX10_content_5 rfl (lv_at hl 1 rfl) ?_
  replace hF := obnd6_of hF
  obtain ⟨r17, fi14, ar15, ln16, kc19, ks20, h13, hF⟩ := hF
  replace hF := addc_of hF
  obtain ⟨kc22, ks23, e24c, e24s, hF⟩ := hF
  rcases r17 with v18 | k21
  rotate_left
  · replace hF := sumc_r hF
    exact cX_it (As := [.int (p1)]) (rest := []) hx hb hml hTX hown hK hE hEX hD hA hP hS (rcv_X10 hK hP) (kX10_itemAt l g ad rd _ nf hlt fi2 ar3 ln4 (p1) (Sum.inr k21) fi14 ar15 ln16 kc19 ks20 h13) cw_X10_itemAt mw39_6 ⟨⟨rfl, rfl⟩, Nat.le_of_ble_eq_true rfl, Nat.le_of_ble_eq_true rfl⟩ rfl hl.1 rfl (Nat.le_of_ble_eq_true rfl) dX10_content_6 ⟨by show _ ≤ KC; omega, by show _ ≤ KS; omega⟩ ⟨hout, hlocks, by omega, by omega, fun rd H locs t ht hP hD hS => xx_of hF (by rw [ht]; exact hP) hD (hS.F ht)⟩
  replace hF := sumc_l hF
  refine cX_i (As := [.int (p1)]) (rest := []) hx hb hml hTX hown hK hE hEX hD hA hP hS (rcv_X10 hK hP) (kX10_itemAt l g ad rd _ nf hlt fi2 ar3 ln4 (p1) (Sum.inl v18) fi14 ar15 ln16 kc19 ks20 h13) cw_X10_itemAt mw39_6 ⟨⟨rfl, rfl⟩, Nat.le_of_ble_eq_true rfl, Nat.le_of_ble_eq_true rfl⟩ rfl hl.1 rfl (Nat.le_of_ble_eq_true rfl) dX10_content_6 ⟨by show _ ≤ KC; omega, by show _ ≤ KS; omega⟩ (fun rd H locs hP hD hS => ?_)
  replace hkc : cells + kc7 + kc19 + kc22 ≤ KC := by omega
  replace hks : slots + ks8 + ks20 + ks23 ≤ KS := by omega
  refine lv_istore_n (lv' := [(3, .int (v18)), (0, .ref (ad (0))), (1, .int (p1)), (2, .int (p2))]) hx hb dX10_content_9 rfl hl (by decide) rfl (fun ls hl => ?_)
  refine lv_iload_n hx hb dX10_content_10 rfl (lv_at hl 3 rfl) ?_
  refine lv_if_lt (tgt := 29) hx hb dX10_content_11 (by decide) (fun hc25 => ?_) (fun hc25 => ?_)
  · replace hF := br_yes hF hc25
    exact J29  _ _ _ _ _ _ _ _ _ _ _ hF hkc hks (lv_sub hl [1] rfl) hP hD hS
  · replace hF := br_no hF hc25
    refine lv_iload_n hx hb dX10_content_14 rfl (lv_at hl 3 rfl) ?_
    refine lv_aload_n hx hb dX10_content_15 rfl (lv_at hl 1 rfl) ?_
    refine cg_X10_disk hx hb hT hown hK hP mw2_3 dX10_content_16 ?_
    refine lv_iload_n hx hb dX10_content_19 rfl (lv_at hl 0 rfl) ?_
    refine lv_bipush (v := (28 : Int32)) hx hb dX10_content_20 (by decide) ?_
    refine lv_iadd hx hb dX10_content_22 ?_
    replace hF := obnd3_of hF
    obtain ⟨r29, fi27, ar28, h26, hF⟩ := hF
    refine cC_i (As := [.int ((v18) + (28 : Int32))]) (rest := [.int (p2)]) hx hb hml hT hown hK hE (hD _) hA hP hS (rcv_X3 hK hP) (kX3_four l g ad rd _ nf ln16 fi14 ar15 ((v18) + (28 : Int32)) r29 fi27 ar28 h26) cw_X3_four mw41_22 ⟨⟨rfl, rfl⟩, Nat.le_of_ble_eq_true rfl, Nat.le_of_ble_eq_true rfl⟩ rfl hl.1 rfl (Nat.le_of_ble_eq_true rfl) dX10_content_23 ⟨by show _ ≤ KC; omega, by show _ ≤ KS; omega⟩ (fun H locs hP hS => ?_)
    refine lv_icmp_lt (tgt := 31) hx hb dX10_content_26 (by decide) (fun hc30 => ?_) (fun hc30 => ?_)
    · replace hF := br_yes hF hc30
      refine lv_aload_n hx hb dX10_content_31 rfl (lv_at hl 1 rfl) ?_
      refine cg_X10_volume hx hb hT hown hK hP mw2_11 dX10_content_32 ?_
      refine lv_aload_n hx hb dX10_content_35 rfl (lv_at hl 1 rfl) ?_
      refine cg_X10_disk hx hb hT hown hK hP mw2_3 dX10_content_36 ?_
      refine lv_iload_n hx hb dX10_content_39 rfl (lv_at hl 0 rfl) ?_
      replace hF := obnd3_of hF
      obtain ⟨r34, fi32, ar33, h31, hF⟩ := hF
      refine cC_i (As := [.int (v18)]) (rest := [.ref (ad (6))]) hx hb hml hT hown hK hE (hD _) hA hP hS (rcv_X3 hK hP) (kX3_firstCluster l g ad rd _ nf ln16 fi27 ar28 (v18) r34 fi32 ar33 h31) cw_X3_firstCluster mw42_22 ⟨⟨rfl, rfl⟩, Nat.le_of_ble_eq_true rfl, Nat.le_of_ble_eq_true rfl⟩ rfl hl.1 rfl (Nat.le_of_ble_eq_true rfl) dX10_content_40 ⟨by show _ ≤ KC; omega, by show _ ≤ KS; omega⟩ (fun H locs hP hS => ?_)
      refine lv_iload_n hx hb dX10_content_43 rfl (lv_at hl 3 rfl) ?_
      refine lv_aload_n hx hb dX10_content_44 rfl (lv_at hl 1 rfl) ?_
      refine cg_X10_volume hx hb hT hown hK hP mw2_11 dX10_content_45 ?_
      replace hF := obnd3_of hF
      obtain ⟨r38, fi36, ar37, h35, hF⟩ := hF
      refine cC_i (As := []) (rest := [.int (p2), .int (r34), .ref (ad (6))]) hx hb hml hT hown hK hE (hD _) hA hP hS (rcv_X9 hK hP) (kX9_byteShift l g ad rd _ nf ln16 fi32 ar33 r38 fi36 ar37 h35) cw_X9_byteShift mw42_23 ⟨⟨rfl, rfl⟩, Nat.le_of_ble_eq_true rfl, Nat.le_of_ble_eq_true rfl⟩ rfl hl.1 rfl (Nat.le_of_ble_eq_true rfl) dX10_content_48 ⟨by show _ ≤ KC; omega, by show _ ≤ KS; omega⟩ (fun H locs hP hS => ?_)
      refine lv_ishr hx hb dX10_content_51 ?_
      replace hF := obnd3_of hF
      obtain ⟨r42, fi40, ar41, h39, hF⟩ := hF
      refine cC_i (As := [.int (r34), .int ((p2) >>> ((r38) &&& 31))]) (rest := []) hx hb hml hT hown hK hE (hD _) hA hP hS (rcv_X9 hK hP) (kX9_later l g ad rd _ nf ln16 fi36 ar37 (r34) ((p2) >>> ((r38) &&& 31)) r42 fi40 ar41 h39) cw_X9_later mw43_0 ⟨⟨rfl, rfl⟩, Nat.le_of_ble_eq_true rfl, Nat.le_of_ble_eq_true rfl⟩ rfl hl.1 rfl (Nat.le_of_ble_eq_true rfl) dX10_content_52 ⟨by show _ ≤ KC; omega, by show _ ≤ KS; omega⟩ (fun H locs hP hS => ?_)
      refine lv_istore (lv' := [(4, .int (r42)), (3, .int (v18)), (0, .ref (ad (0))), (1, .int (p1)), (2, .int (p2))]) hx hb dX10_content_55 hl (by decide) rfl (fun ls hl => ?_)
      refine lv_aload_n hx hb dX10_content_57 rfl (lv_at hl 2 rfl) ?_
      refine cg_X10_disk hx hb hT hown hK hP mw2_3 dX10_content_58 ?_
      refine lv_aload_n hx hb dX10_content_61 rfl (lv_at hl 2 rfl) ?_
      refine cg_X10_volume hx hb hT hown hK hP mw2_11 dX10_content_62 ?_
      refine lv_iload hx hb dX10_content_65 (lv_at hl 0 rfl) ?_
      replace hF := obnd3_of hF
      obtain ⟨r46, fi44, ar45, h43, hF⟩ := hF
      refine cC_i (As := [.int (r42)]) (rest := [.ref (ad (1))]) hx hb hml hT hown hK hE (hD _) hA hP hS (rcv_X9 hK hP) (kX9_addressOf l g ad rd _ nf ln16 fi40 ar41 (r42) r46 fi44 ar45 h43) cw_X9_addressOf mw16_12 ⟨⟨rfl, rfl⟩, Nat.le_of_ble_eq_true rfl, Nat.le_of_ble_eq_true rfl⟩ rfl hl.1 rfl (Nat.le_of_ble_eq_true rfl) dX10_content_67 ⟨by show _ ≤ KC; omega, by show _ ≤ KS; omega⟩ (fun H locs hP hS => ?_)
      refine lv_iload_n hx hb dX10_content_70 rfl (lv_at hl 4 rfl) ?_
      refine lv_aload_n hx hb dX10_content_71 rfl (lv_at hl 2 rfl) ?_
      refine cg_X10_volume hx hb hT hown hK hP mw2_11 dX10_content_72 ?_
      replace hF := obnd3_of hF
      obtain ⟨r50, fi48, ar49, h47, hF⟩ := hF
      refine cC_i (As := []) (rest := [.int (p2), .int (r46), .ref (ad (1))]) hx hb hml hT hown hK hE (hD _) hA hP hS (rcv_X9 hK hP) (kX9_byteMask l g ad rd _ nf ln16 fi44 ar45 r50 fi48 ar49 h47) cw_X9_byteMask mw43_4 ⟨⟨rfl, rfl⟩, Nat.le_of_ble_eq_true rfl, Nat.le_of_ble_eq_true rfl⟩ rfl hl.1 rfl (Nat.le_of_ble_eq_true rfl) dX10_content_75 ⟨by show _ ≤ KC; omega, by show _ ≤ KS; omega⟩ (fun H locs hP hS => ?_)
      refine lv_iand hx hb dX10_content_78 ?_
      refine lv_iadd hx hb dX10_content_79 ?_
      replace hF := obnd3_of hF
      obtain ⟨r54, fi52, ar53, h51, hF⟩ := hF
      refine cC_i (As := [.int ((r46) + ((p2) &&& (r50)))]) (rest := []) hx hb hml hT hown hK hE (hD _) hA hP hS (rcv_X3 hK hP) (kX3_one l g ad rd _ nf ln16 fi48 ar49 ((r46) + ((p2) &&& (r50))) r54 fi52 ar53 h51) cw_X3_one mw36_10 ⟨⟨rfl, rfl⟩, Nat.le_of_ble_eq_true rfl, Nat.le_of_ble_eq_true rfl⟩ rfl hl.1 rfl (Nat.le_of_ble_eq_true rfl) dX10_content_80 ⟨by show _ ≤ KC; omega, by show _ ≤ KS; omega⟩ (fun H locs hP hS => ?_)
      refine W.widen (k := KC) (n := KS) (by omega) (by omega) ?_
      exact rX_i hx hb hr hlocks hF hP hD hS dX10_content_83
    · replace hF := br_no hF hc30
      exact J29  _ _ _ _ _ _ _ _ _ _ _ hF hkc hks (lv_sub hl [1] rfl) hP hD hS
theorem cw_X10_content : (Cond.instanceMethod yX10_content ∈ TB ∧ Cond.selects RX10 yX10_content yX10_content ∈ TB ∧ Cond.code yX10_content cX10_content 5 (some .int) ∈ TB ∧ Cond.initialized RX10 ∈ TB) ∧ (yX10_content.cls = RX10 ∧ yX10_content.cls ≠ "java/lang/invoke/MethodHandle" ∧ yX10_content.cls ≠ "java/lang/invoke/VarHandle" ∧ (parseMethodDescriptor yX10_content.desc).map (fun d => d.parameters.length) = some 2) := ⟨⟨mw42_19, mw42_20, mw42_21, mw1_2⟩, by decide +kernel⟩
/-! X10_enter -/
noncomputable def FX10_enter (nf : Nat) (fi : FI) (ar : AR) (ln : LN) (x1 : Int32) : Option ((Int32 ⊕ Nat) × FI × AR × LN × Nat × Nat) :=
  obnd6 (FX10_openHere nf fi ar ln) fun r5 fi2 ar3 ln4 kc7 ks8 => addc (kc7) (ks8) (sumc r5 (fun v6 => obnd6 (FX10_itemAt nf fi2 ar3 ln4 (x1)) fun r17 fi14 ar15 ln16 kc19 ks20 => addc (kc19) (ks20) (sumc r17 (fun v18 => obnd3 (FX10_isDirectory nf ln16 fi14 ar15 (v18)) fun r28 fi26 ar27 => br ((r28) = 0) (some (Sum.inr 2, fi26, ar27, ln16, 1, 6)) (obnd3 (FX3_firstCluster nf ln16 fi26 ar27 (v18)) fun r33 fi31 ar32 => bnd (va_up fi31 (0) (r33)) fun fi34 => obnd6 (FX2_list nf 0 fi34 ar32 ln16 (fi34 (0))) fun r39 fi36 ar37 ln38 kc40 ks41 => addc (kc40) (ks41) (some (Sum.inl (fi36 (20 + 10 * 0)), fi36, ar37, ln38, 0, 0)))) (fun k21 => some (Sum.inr k21, fi14, ar15, ln16, 0, 0)))) (fun k9 => some (Sum.inr k9, fi2, ar3, ln4, 0, 0)))
set_option maxHeartbeats 8000000 in
set_option maxRecDepth 100000 in
theorem kX10_enter (l : Launch) (g : GT) (ad rd0 : Nat → Nat) (sz : Nat) (nf : Nat) (hlt : l.stackTraces = false) (fi : FI) (ar : AR) (ln : LN) (p1 : Int32) (r : (Int32 ⊕ Nat)) (fi' : FI) (ar' : AR) (ln' : LN) (KC KS : Nat) (hF : FX10_enter nf fi ar ln p1 = some (r, fi', ar', ln', KC, KS)) : vx_Met l yX10_enter (wxX yX10_enter cX10_enter 3 (some .int)) ({ frames := 10, cells := KC, slots := KS, locals := 233 } : Room) (va_Pc [.ref (ad (0)), .int p1] (PX g ad rd0 ln sz fi ar)) (QXi g ad (AC ad rd0 sz) r fi' ar' ln') (XX g ad (AC ad rd0 sz) r fi' ar' ln') KC KS (AC ad rd0 sz) := by
  refine vx_ofW (cc := cX10_enter) (maxL := 3) (ret := (some .int)) (by decide) rfl ?_
  intro p e s m args below meth c s₁ B hml hout hv
  obtain ⟨rfl, ⟨hsz, hP, hK, hD0, hE⟩, hEX⟩ := hv
  have hx := B.exec
  have hb := B.bytes
  have hr := B.returns
  have hts := atoms_spec (ws := (wxX yX10_enter cX10_enter 3 (some .int))) B.pre
  have hTX : ∀ w ∈ TBX, w.before _ s = true := fun w h => hts w (List.mem_cons_of_mem _ h)
  have hT : ∀ w ∈ TB, w.before _ s = true := fun w h => hTX w (tbx0 w h)
  have hown : s.vm.findClass RX10 = some m.cls := findClass_of_methodNamed B.named
  have hlocks := B.notSynchronized
  subst hsz
  have hD : ∀ (ln : LN) (fi : FI) (ar : AR), va_D (AC ad rd0 s.heap.size) (WC g ad rd0 ln fi ar) := dCre (dC hD0 s.heap.size fi ar) (fun _ h => h)
  have hA : ∀ q : Nat, s.heap.size ≤ q → AC ad rd0 s.heap.size q := fun q h => Or.inr h
  have hS : va_S (AC ad rd0 s.heap.size) s.heap s.heap [] := va_S.rf
  have hl := lv_entry ([.ref (ad (0)), .int p1]) (n := 3) (Nat.le_of_ble_eq_true rfl)
  rw [lg_entry_eq]
  generalize (lg_sl ([.ref (ad (0)), .int p1]) ++ List.replicate (3 - (lg_sl ([.ref (ad (0)), .int p1])).length) Slot.unset).toArray = ls at hl ⊢
  have hl : lv_has ls 3 [(0, .ref (ad (0))), (1, .int p1)] := hl
  unfold FX10_enter at hF
  replace hl := lv_sub hl [0, 1] rfl
  obtain ⟨cells, ecells⟩ : ∃ z : Nat, z = 0 := ⟨_, rfl⟩
  obtain ⟨slots, eslots⟩ : ∃ z : Nat, z = 0 := ⟨_, rfl⟩
  obtain ⟨kc, ekc⟩ : ∃ z : Nat, z = KC := ⟨_, rfl⟩
  obtain ⟨ks, eks⟩ : ∃ z : Nat, z = KS := ⟨_, rfl⟩
  have hkc : cells + kc ≤ KC := by omega
  have hks : slots + ks ≤ KS := by omega
  replace hF := kcks_of hF ekc eks
  suffices hgo : W p l e (headSpec (wxX yX10_enter cX10_enter 3 (some .int)) ({ frames := 10, cells := KC, slots := KS, locals := 233 } : Room)).room s m ([.ref (ad (0)), .int p1] : List Value).toArray below meth c s.heap [] cells slots (vx_MQ below (QXi g ad (AC ad rd0 s.heap.size) r fi' ar' ln') (XX g ad (AC ad rd0 s.heap.size) r fi' ar' ln') ([.ref (ad (0)), .int p1] : List Value).toArray s KC KS (AC ad rd0 s.heap.size)) (F0 m 0 ls []) by rw [ecells, eslots] at hgo; exact hgo
  obtain ⟨rd, erd⟩ : ∃ z : Nat → Nat, z = rd0 := ⟨_, rfl⟩
  have hP : va_P (gD g) vwCl (WC g ad rd ln fi ar) s.heap := by rw [erd]; exact hP
  have hD : ∀ (ln : LN) (fi : FI) (ar : AR), va_D (AC ad rd0 s.heap.size) (WC g ad rd ln fi ar) := by rw [erd]; exact hD
  clear erd
  refine lv_aload_n hx hb dX10_enter_0 rfl (lv_at hl 0 rfl) ?_
  replace hF := obnd6_of hF
  obtain ⟨r5, fi2, ar3, ln4, kc7, ks8, h1, hF⟩ := hF
  replace hF := addc_of hF
  obtain ⟨kc10, ks11, e12c, e12s, hF⟩ := hF
  rcases r5 with v6 | k9
  rotate_left
  · replace hF := sumc_r hF
    exact cX_vt (As := []) (rest := []) hx hb hml hTX hown hK hE hEX hD hA hP hS (rcv_X10 hK hP) (kX10_openHere l g ad rd _ nf hlt fi ar ln (Sum.inr k9) fi2 ar3 ln4 kc7 ks8 h1) cw_X10_openHere mw37_16 ⟨⟨rfl, rfl⟩, Nat.le_of_ble_eq_true rfl, Nat.le_of_ble_eq_true rfl⟩ rfl hl.1 rfl (Nat.le_of_ble_eq_true rfl) dX10_enter_1 ⟨by show _ ≤ KC; omega, by show _ ≤ KS; omega⟩ ⟨hout, hlocks, by omega, by omega, fun rd H locs t ht hP hD hS => xx_of hF (by rw [ht]; exact hP) hD (hS.F ht)⟩
  replace hF := sumc_l hF
  refine cX_v (As := []) (rest := []) hx hb hml hTX hown hK hE hEX hD hA hP hS (rcv_X10 hK hP) (kX10_openHere l g ad rd _ nf hlt fi ar ln (Sum.inl v6) fi2 ar3 ln4 kc7 ks8 h1) cw_X10_openHere mw37_16 ⟨⟨rfl, rfl⟩, Nat.le_of_ble_eq_true rfl, Nat.le_of_ble_eq_true rfl⟩ rfl hl.1 rfl (Nat.le_of_ble_eq_true rfl) dX10_enter_1 ⟨by show _ ≤ KC; omega, by show _ ≤ KS; omega⟩ (fun rd H locs hP hD hS => ?_)
  replace hkc : cells + kc7 + kc10 ≤ KC := by omega
  replace hks : slots + ks8 + ks11 ≤ KS := by omega
  refine lv_aload_n hx hb dX10_enter_4 rfl (lv_at hl 0 rfl) ?_
  refine lv_iload_n hx hb dX10_enter_5 rfl (lv_at hl 1 rfl) ?_
  replace hF := obnd6_of hF
  obtain ⟨r17, fi14, ar15, ln16, kc19, ks20, h13, hF⟩ := hF
  replace hF := addc_of hF
  obtain ⟨kc22, ks23, e24c, e24s, hF⟩ := hF
  rcases r17 with v18 | k21
  rotate_left
  · replace hF := sumc_r hF
    exact cX_it (As := [.int (p1)]) (rest := []) hx hb hml hTX hown hK hE hEX hD hA hP hS (rcv_X10 hK hP) (kX10_itemAt l g ad rd _ nf hlt fi2 ar3 ln4 (p1) (Sum.inr k21) fi14 ar15 ln16 kc19 ks20 h13) cw_X10_itemAt mw39_6 ⟨⟨rfl, rfl⟩, Nat.le_of_ble_eq_true rfl, Nat.le_of_ble_eq_true rfl⟩ rfl hl.1 rfl (Nat.le_of_ble_eq_true rfl) dX10_enter_6 ⟨by show _ ≤ KC; omega, by show _ ≤ KS; omega⟩ ⟨hout, hlocks, by omega, by omega, fun rd H locs t ht hP hD hS => xx_of hF (by rw [ht]; exact hP) hD (hS.F ht)⟩
  replace hF := sumc_l hF
  refine cX_i (As := [.int (p1)]) (rest := []) hx hb hml hTX hown hK hE hEX hD hA hP hS (rcv_X10 hK hP) (kX10_itemAt l g ad rd _ nf hlt fi2 ar3 ln4 (p1) (Sum.inl v18) fi14 ar15 ln16 kc19 ks20 h13) cw_X10_itemAt mw39_6 ⟨⟨rfl, rfl⟩, Nat.le_of_ble_eq_true rfl, Nat.le_of_ble_eq_true rfl⟩ rfl hl.1 rfl (Nat.le_of_ble_eq_true rfl) dX10_enter_6 ⟨by show _ ≤ KC; omega, by show _ ≤ KS; omega⟩ (fun rd H locs hP hD hS => ?_)
  replace hkc : cells + kc7 + kc19 + kc22 ≤ KC := by omega
  replace hks : slots + ks8 + ks20 + ks23 ≤ KS := by omega
  refine lv_istore_n (lv' := [(2, .int (v18)), (0, .ref (ad (0))), (1, .int (p1))]) hx hb dX10_enter_9 rfl hl (by decide) rfl (fun ls hl => ?_)
  refine lv_aload_n hx hb dX10_enter_10 rfl (lv_at hl 1 rfl) ?_
  refine lv_iload_n hx hb dX10_enter_11 rfl (lv_at hl 0 rfl) ?_
  replace hF := obnd3_of hF
  obtain ⟨r28, fi26, ar27, h25, hF⟩ := hF
  refine cC_i (As := [.int (v18)]) (rest := []) hx hb hml hT hown hK hE (hD _) hA hP hS (rcv_X10 hK hP) (kX10_isDirectory l g ad rd _ nf ln16 fi14 ar15 (v18) r28 fi26 ar27 h25) cw_X10_isDirectory mw41_1 ⟨⟨rfl, rfl⟩, Nat.le_of_ble_eq_true rfl, Nat.le_of_ble_eq_true rfl⟩ rfl hl.1 rfl (Nat.le_of_ble_eq_true rfl) dX10_enter_12 ⟨by show _ ≤ KC; omega, by show _ ≤ KS; omega⟩ (fun H locs hP hS => ?_)
  refine lv_if_ne (tgt := 28) hx hb dX10_enter_15 (by decide) (fun hc29 => ?_) (fun hc29 => ?_)
  · replace hF := br_no hF hc29
    refine lv_aload_n hx hb dX10_enter_28 rfl (lv_at hl 1 rfl) ?_
    refine lv_aload_n hx hb dX10_enter_29 rfl (lv_at hl 1 rfl) ?_
    refine cg_X10_disk hx hb hT hown hK hP mw2_3 dX10_enter_30 ?_
    refine lv_iload_n hx hb dX10_enter_33 rfl (lv_at hl 0 rfl) ?_
    replace hF := obnd3_of hF
    obtain ⟨r33, fi31, ar32, h30, hF⟩ := hF
    refine cC_i (As := [.int (v18)]) (rest := [.ref (ad (0))]) hx hb hml hT hown hK hE (hD _) hA hP hS (rcv_X3 hK hP) (kX3_firstCluster l g ad rd _ nf ln16 fi26 ar27 (v18) r33 fi31 ar32 h30) cw_X3_firstCluster mw42_22 ⟨⟨rfl, rfl⟩, Nat.le_of_ble_eq_true rfl, Nat.le_of_ble_eq_true rfl⟩ rfl hl.1 rfl (Nat.le_of_ble_eq_true rfl) dX10_enter_34 ⟨by show _ ≤ KC; omega, by show _ ≤ KS; omega⟩ (fun H locs hP hS => ?_)
    obtain ⟨fi34, efi34⟩ : ∃ y : FI, y = va_up fi31 (0) (r33) := ⟨_, rfl⟩
    replace hF := bnd_of hF efi34
    refine cp_X10_place hx hb hT hown hK hP (hD _) hS mw3_6 dX10_enter_37 (fun H locs hP hS => ?_)
    rw [← efi34] at hP
    refine lv_aload_n hx hb dX10_enter_40 rfl (lv_at hl 1 rfl) ?_
    refine cg_X10_here hx hb hT hown hK hP mw2_19 dX10_enter_41 ?_
    refine lv_aload_n hx hb dX10_enter_44 rfl (lv_at hl 1 rfl) ?_
    refine cg_X10_place hx hb hT hown hK hP mw3_6 dX10_enter_45 ?_
    replace hF := obnd6_of hF
    obtain ⟨r39, fi36, ar37, ln38, kc40, ks41, h35, hF⟩ := hF
    replace hF := addc_of hF
    obtain ⟨kc42, ks43, e44c, e44s, hF⟩ := hF
    refine cA_v (As := [.int (fi34 (0))]) (rest := []) hx hb hml hT hown hK hE hD hA hP hS (rcv_X2 (by decide) hK hP) (kX2_list l g ad rd _ nf 0 (by decide) fi34 ar32 ln16 (fi34 (0)) r39 fi36 ar37 ln38 kc40 ks41 h35) cw_X2_list mw37_22 ⟨⟨rfl, rfl⟩, Nat.le_of_ble_eq_true rfl, Nat.le_of_ble_eq_true rfl⟩ rfl hl.1 rfl (Nat.le_of_ble_eq_true rfl) dX10_enter_48 ⟨by show _ ≤ KC; omega, by show _ ≤ KS; omega⟩ (fun rd H locs hP hD hS => ?_)
    replace hkc : cells + kc7 + kc19 + kc40 + kc42 ≤ KC := by omega
    replace hks : slots + ks8 + ks20 + ks41 + ks43 ≤ KS := by omega
    refine lv_aload_n hx hb dX10_enter_51 rfl (lv_at hl 1 rfl) ?_
    refine cg_X10_here hx hb hT hown hK hP mw2_19 dX10_enter_52 ?_
    refine cg_X2_count (by decide) hx hb hT hown hK hP mw37_15 dX10_enter_55 ?_
    refine W.widen (k := KC) (n := KS) (by omega) (by omega) ?_
    exact rX_i hx hb hr hlocks hF hP hD hS dX10_enter_58
  · replace hF := br_yes hF hc29
    obtain ⟨sa, hsa⟩ := hEX.1.2.2.2.2.2.2.1
    obtain ⟨hq1, hq2⟩ := cost_of hF
    refine vx_throwS (cls := "java/lang/IllegalArgumentException") (names := ["java/lang/RuntimeException", "java/lang/Exception"]) (sa := sa) (A := AC ad rd0 s.heap.size) hx hb hlt hown (by decide) (by decide) (hT _ mw9_3) (hT _ mw9_4) hsa (vx_hat (fun w h => hTX w (tbx3 w h)) (by rw [vxb_2]; exact fun _ h => h) (vx_c (va_tabs rfl rfl hEX.2.2.2.2.2.1) (vx_c (va_tabs rfl rfl hEX.2.2.2.2.2.2.1) (vx_c (va_tabs rfl rfl hEX.2.2.2.2.2.2.2) (vx_c (va_tabs rfl rfl hEX.2.2.2.1) vx_n))))) vxg_2 hEX.1.1 hEX.1.2.1 hS (by rw [hml]; exact hl.1) dX10_enter_18 dX10_enter_21 dX10_enter_22 dX10_enter_24 dX10_enter_27 (fun x hx => (hout x hx).elim) (Nat.le_of_ble_eq_true rfl) (Nat.le_of_ble_eq_true rfl) (by show _ ≤ KC; omega) (by show _ ≤ KS; omega) hlocks (fun t _ hz hk => ?_) hS.2.2 (by omega) (by omega)
    exact xx_of (k := 2) hF (hP.kept (fun k q h => hk q.1 (hP k q h).lt)) hD ⟨Nat.le_trans hS.1 hz, fun q h1 h2 => by rw [hk q (Nat.lt_of_lt_of_le h1 hS.1)]; exact hS.2.1 q h1 h2⟩
theorem cw_X10_enter : (Cond.instanceMethod yX10_enter ∈ TB ∧ Cond.selects RX10 yX10_enter yX10_enter ∈ TB ∧ Cond.code yX10_enter cX10_enter 3 (some .int) ∈ TB ∧ Cond.initialized RX10 ∈ TB) ∧ (yX10_enter.cls = RX10 ∧ yX10_enter.cls ≠ "java/lang/invoke/MethodHandle" ∧ yX10_enter.cls ≠ "java/lang/invoke/VarHandle" ∧ (parseMethodDescriptor yX10_enter.desc).map (fun d => d.parameters.length) = some 1) := ⟨⟨mw43_17, mw43_18, mw43_19, mw1_2⟩, by decide +kernel⟩
/-! X10_up -/
noncomputable def FX10_up (nf : Nat) (fi : FI) (ar : AR) (ln : LN)  : Option ((Int32 ⊕ Nat) × FI × AR × LN × Nat × Nat) :=
  obnd6 (FX10_openHere nf fi ar ln) fun r5 fi2 ar3 ln4 kc7 ks8 => addc (kc7) (ks8) (sumc r5 (fun v6 => br ((fi2 (0)) = 0) (some (Sum.inl (0 : Int32), fi2, ar3, ln4, 0, 0)) (obnd3 (FX2_slotAddress nf ln4 0 fi2 ar3 (1 : Int32)) fun r17 fi15 ar16 => obnd3 (FX3_firstCluster nf ln4 fi15 ar16 (r17)) fun r21 fi19 ar20 => bnd (va_up fi19 (0) (r21)) fun fi22 => some (Sum.inl (1 : Int32), fi22, ar20, ln4, 0, 0))) (fun k9 => some (Sum.inr k9, fi2, ar3, ln4, 0, 0)))
set_option maxHeartbeats 8000000 in
set_option maxRecDepth 100000 in
theorem kX10_up (l : Launch) (g : GT) (ad rd0 : Nat → Nat) (sz : Nat) (nf : Nat) (hlt : l.stackTraces = false) (fi : FI) (ar : AR) (ln : LN)  (r : (Int32 ⊕ Nat)) (fi' : FI) (ar' : AR) (ln' : LN) (KC KS : Nat) (hF : FX10_up nf fi ar ln  = some (r, fi', ar', ln', KC, KS)) : vx_Met l yX10_up (wxX yX10_up cX10_up 1 (some .boolean)) ({ frames := 10, cells := KC, slots := KS, locals := 233 } : Room) (va_Pc [.ref (ad (0))] (PX g ad rd0 ln sz fi ar)) (QXi g ad (AC ad rd0 sz) r fi' ar' ln') (XX g ad (AC ad rd0 sz) r fi' ar' ln') KC KS (AC ad rd0 sz) := by
  refine vx_ofW (cc := cX10_up) (maxL := 1) (ret := (some .boolean)) (by decide) rfl ?_
  intro p e s m args below meth c s₁ B hml hout hv
  obtain ⟨rfl, ⟨hsz, hP, hK, hD0, hE⟩, hEX⟩ := hv
  have hx := B.exec
  have hb := B.bytes
  have hr := B.returns
  have hts := atoms_spec (ws := (wxX yX10_up cX10_up 1 (some .boolean))) B.pre
  have hTX : ∀ w ∈ TBX, w.before _ s = true := fun w h => hts w (List.mem_cons_of_mem _ h)
  have hT : ∀ w ∈ TB, w.before _ s = true := fun w h => hTX w (tbx0 w h)
  have hown : s.vm.findClass RX10 = some m.cls := findClass_of_methodNamed B.named
  have hlocks := B.notSynchronized
  subst hsz
  have hD : ∀ (ln : LN) (fi : FI) (ar : AR), va_D (AC ad rd0 s.heap.size) (WC g ad rd0 ln fi ar) := dCre (dC hD0 s.heap.size fi ar) (fun _ h => h)
  have hA : ∀ q : Nat, s.heap.size ≤ q → AC ad rd0 s.heap.size q := fun q h => Or.inr h
  have hS : va_S (AC ad rd0 s.heap.size) s.heap s.heap [] := va_S.rf
  have hl := lv_entry ([.ref (ad (0))]) (n := 1) (Nat.le_of_ble_eq_true rfl)
  rw [lg_entry_eq]
  generalize (lg_sl ([.ref (ad (0))]) ++ List.replicate (1 - (lg_sl ([.ref (ad (0))])).length) Slot.unset).toArray = ls at hl ⊢
  have hl : lv_has ls 1 [(0, .ref (ad (0)))] := hl
  unfold FX10_up at hF
  replace hl := lv_sub hl [0] rfl
  obtain ⟨cells, ecells⟩ : ∃ z : Nat, z = 0 := ⟨_, rfl⟩
  obtain ⟨slots, eslots⟩ : ∃ z : Nat, z = 0 := ⟨_, rfl⟩
  obtain ⟨kc, ekc⟩ : ∃ z : Nat, z = KC := ⟨_, rfl⟩
  obtain ⟨ks, eks⟩ : ∃ z : Nat, z = KS := ⟨_, rfl⟩
  have hkc : cells + kc ≤ KC := by omega
  have hks : slots + ks ≤ KS := by omega
  replace hF := kcks_of hF ekc eks
  suffices hgo : W p l e (headSpec (wxX yX10_up cX10_up 1 (some .boolean)) ({ frames := 10, cells := KC, slots := KS, locals := 233 } : Room)).room s m ([.ref (ad (0))] : List Value).toArray below meth c s.heap [] cells slots (vx_MQ below (QXi g ad (AC ad rd0 s.heap.size) r fi' ar' ln') (XX g ad (AC ad rd0 s.heap.size) r fi' ar' ln') ([.ref (ad (0))] : List Value).toArray s KC KS (AC ad rd0 s.heap.size)) (F0 m 0 ls []) by rw [ecells, eslots] at hgo; exact hgo
  obtain ⟨rd, erd⟩ : ∃ z : Nat → Nat, z = rd0 := ⟨_, rfl⟩
  have hP : va_P (gD g) vwCl (WC g ad rd ln fi ar) s.heap := by rw [erd]; exact hP
  have hD : ∀ (ln : LN) (fi : FI) (ar : AR), va_D (AC ad rd0 s.heap.size) (WC g ad rd ln fi ar) := by rw [erd]; exact hD
  clear erd
  refine lv_aload_n hx hb dX10_up_0 rfl (lv_at hl 0 rfl) ?_
  replace hF := obnd6_of hF
  obtain ⟨r5, fi2, ar3, ln4, kc7, ks8, h1, hF⟩ := hF
  replace hF := addc_of hF
  obtain ⟨kc10, ks11, e12c, e12s, hF⟩ := hF
  rcases r5 with v6 | k9
  rotate_left
  · replace hF := sumc_r hF
    exact cX_vt (As := []) (rest := []) hx hb hml hTX hown hK hE hEX hD hA hP hS (rcv_X10 hK hP) (kX10_openHere l g ad rd _ nf hlt fi ar ln (Sum.inr k9) fi2 ar3 ln4 kc7 ks8 h1) cw_X10_openHere mw37_16 ⟨⟨rfl, rfl⟩, Nat.le_of_ble_eq_true rfl, Nat.le_of_ble_eq_true rfl⟩ rfl hl.1 rfl (Nat.le_of_ble_eq_true rfl) dX10_up_1 ⟨by show _ ≤ KC; omega, by show _ ≤ KS; omega⟩ ⟨hout, hlocks, by omega, by omega, fun rd H locs t ht hP hD hS => xx_of hF (by rw [ht]; exact hP) hD (hS.F ht)⟩
  replace hF := sumc_l hF
  refine cX_v (As := []) (rest := []) hx hb hml hTX hown hK hE hEX hD hA hP hS (rcv_X10 hK hP) (kX10_openHere l g ad rd _ nf hlt fi ar ln (Sum.inl v6) fi2 ar3 ln4 kc7 ks8 h1) cw_X10_openHere mw37_16 ⟨⟨rfl, rfl⟩, Nat.le_of_ble_eq_true rfl, Nat.le_of_ble_eq_true rfl⟩ rfl hl.1 rfl (Nat.le_of_ble_eq_true rfl) dX10_up_1 ⟨by show _ ≤ KC; omega, by show _ ≤ KS; omega⟩ (fun rd H locs hP hD hS => ?_)
  replace hkc : cells + kc7 + kc10 ≤ KC := by omega
  replace hks : slots + ks8 + ks11 ≤ KS := by omega
  refine lv_aload_n hx hb dX10_up_4 rfl (lv_at hl 0 rfl) ?_
  refine cg_X10_place hx hb hT hown hK hP mw3_6 dX10_up_5 ?_
  refine lv_if_ne (tgt := 13) hx hb dX10_up_8 (by decide) (fun hc13 => ?_) (fun hc13 => ?_)
  · replace hF := br_no hF hc13
    refine lv_aload_n hx hb dX10_up_13 rfl (lv_at hl 0 rfl) ?_
    refine lv_aload_n hx hb dX10_up_14 rfl (lv_at hl 0 rfl) ?_
    refine cg_X10_disk hx hb hT hown hK hP mw2_3 dX10_up_15 ?_
    refine lv_aload_n hx hb dX10_up_18 rfl (lv_at hl 0 rfl) ?_
    refine cg_X10_here hx hb hT hown hK hP mw2_19 dX10_up_19 ?_
    refine lv_iconst (v := (1 : Int32)) hx hb dX10_up_22 (by decide) ?_
    replace hF := obnd3_of hF
    obtain ⟨r17, fi15, ar16, h14, hF⟩ := hF
    refine cC_i (As := [.int (1 : Int32)]) (rest := [.ref (ad (1)), .ref (ad (0))]) hx hb hml hT hown hK hE (hD _) hA hP hS (rcv_X2 (by decide) hK hP) (kX2_slotAddress l g ad rd _ nf ln4 0 (by decide) fi2 ar3 (1 : Int32) r17 fi15 ar16 h14) cw_X2_slotAddress mw39_13 ⟨⟨rfl, rfl⟩, Nat.le_of_ble_eq_true rfl, Nat.le_of_ble_eq_true rfl⟩ rfl hl.1 rfl (Nat.le_of_ble_eq_true rfl) dX10_up_23 ⟨by show _ ≤ KC; omega, by show _ ≤ KS; omega⟩ (fun H locs hP hS => ?_)
    replace hF := obnd3_of hF
    obtain ⟨r21, fi19, ar20, h18, hF⟩ := hF
    refine cC_i (As := [.int (r17)]) (rest := [.ref (ad (0))]) hx hb hml hT hown hK hE (hD _) hA hP hS (rcv_X3 hK hP) (kX3_firstCluster l g ad rd _ nf ln4 fi15 ar16 (r17) r21 fi19 ar20 h18) cw_X3_firstCluster mw42_22 ⟨⟨rfl, rfl⟩, Nat.le_of_ble_eq_true rfl, Nat.le_of_ble_eq_true rfl⟩ rfl hl.1 rfl (Nat.le_of_ble_eq_true rfl) dX10_up_26 ⟨by show _ ≤ KC; omega, by show _ ≤ KS; omega⟩ (fun H locs hP hS => ?_)
    obtain ⟨fi22, efi22⟩ : ∃ y : FI, y = va_up fi19 (0) (r21) := ⟨_, rfl⟩
    replace hF := bnd_of hF efi22
    refine cp_X10_place hx hb hT hown hK hP (hD _) hS mw3_6 dX10_up_29 (fun H locs hP hS => ?_)
    rw [← efi22] at hP
    refine lv_iconst (v := (1 : Int32)) hx hb dX10_up_32 (by decide) ?_
    refine W.widen (k := KC) (n := KS) (by omega) (by omega) ?_
    exact rX_z hx hb hr hlocks rfl hF hP hD hS dX10_up_33
  · replace hF := br_yes hF hc13
    refine lv_iconst (v := (0 : Int32)) hx hb dX10_up_11 (by decide) ?_
    refine W.widen (k := KC) (n := KS) (by omega) (by omega) ?_
    exact rX_z hx hb hr hlocks rfl hF hP hD hS dX10_up_12
theorem cw_X10_up : (Cond.instanceMethod yX10_up ∈ TB ∧ Cond.selects RX10 yX10_up yX10_up ∈ TB ∧ Cond.code yX10_up cX10_up 1 (some .boolean) ∈ TB ∧ Cond.initialized RX10 ∈ TB) ∧ (yX10_up.cls = RX10 ∧ yX10_up.cls ≠ "java/lang/invoke/MethodHandle" ∧ yX10_up.cls ≠ "java/lang/invoke/VarHandle" ∧ (parseMethodDescriptor yX10_up.desc).map (fun d => d.parameters.length) = some 0) := ⟨⟨mw44_4, mw44_5, mw44_6, mw1_2⟩, by decide +kernel⟩
/-! X10_make -/
noncomputable def FX10_make_209 (nf : Nat) (x5 : Int32) (x7 : Int32) (t1 : Int32) (t2 : Int32) (t3 : Int32) (fi : FI) (ar : AR) (ln : LN) : Option ((Int32 ⊕ Nat) × FI × AR × LN × Nat × Nat) :=
  obnd3 (FX10_placeEntry nf ln fi ar (t1) (t2) (t3) (x7)) fun r4 fi2 ar3 => obnd3 (FX2_itemsBefore nf ln 0 fi2 ar3 (x5)) fun r8 fi6 ar7 => some (Sum.inl (r8), fi6, ar7, ln, 0, 0)
noncomputable def FX10_make_182 (nf : Nat) (x1 : Int32) (x4 : Int32) (x5 : Int32) (x6 : Int32) (t0 : Int32) (fi : FI) (ar : AR) (ln : LN) : Option ((Int32 ⊕ Nat) × FI × AR × LN × Nat × Nat) :=
  obnd3 (FX2_lengthen nf ln 0 fi ar (x6)) fun r12 fi10 ar11 => br ((x1) = 0) (FX10_make_209 nf  (x5) (t0) (x5) (x4) (32 : Int32) fi10 ar11 ln) (FX10_make_209 nf  (x5) (t0) (x5) (x4) (48 : Int32) fi10 ar11 ln)
noncomputable def FX10_make_156 (nf : Nat) (x1 : Int32) (x4 : Int32) (x5 : Int32) (x6 : Int32) (t0 : Int32) (t1 : Int32) (t2 : Int32) (fi : FI) (ar : AR) (ln : LN) : Option ((Int32 ⊕ Nat) × FI × AR × LN × Nat × Nat) :=
  br (((t1) + (t2)) ≤ (t0)) (br ((x1) = 0) (FX10_make_182 nf  (x1) (x4) (x5) (x6) (0 : Int32) fi ar ln) (obnd3 (FX10_makeDirectory nf ln fi ar) fun r19 fi17 ar18 => FX10_make_182 nf  (x1) (x4) (x5) (x6) (r19) fi17 ar18 ln)) (some (Sum.inr 3, fi, ar, ln, 1, 6))
noncomputable def FX10_make_107 (nf : Nat) (x1 : Int32) (t0 : Int32) (fi : FI) (ar : AR) (ln : LN) : Option ((Int32 ⊕ Nat) × FI × AR × LN × Nat × Nat) :=
  obnd3 (FX2_roomFor nf ln 0 fi ar ((t0) + (1 : Int32))) fun r23 fi21 ar22 => obnd3 (FX2_clustersMissing nf ln 0 fi21 ar22 (((r23) + (t0)) + (1 : Int32))) fun r27 fi25 ar26 => obnd3 (FX9_freeClusters nf ln fi25 ar26) fun r31 fi29 ar30 => br ((x1) = 0) (FX10_make_156 nf  (x1) (t0) (r23) (r27) (r31) (r27) (0 : Int32) fi29 ar30 ln) (FX10_make_156 nf  (x1) (t0) (r23) (r27) (r31) (r27) (1 : Int32) fi29 ar30 ln)
noncomputable def FX10_make_92 (nf : Nat) (x1 : Int32) (x3 : Int32) (fi : FI) (ar : AR) (ln : LN) : Option ((Int32 ⊕ Nat) × FI × AR × LN × Nat × Nat) :=
  br ((x3) = 0) (obnd3 (FX6_partsWanted nf ln 0 fi ar) fun r37 fi35 ar36 => FX10_make_107 nf  (x1) (r37) fi35 ar36 ln) (FX10_make_107 nf  (x1) (0 : Int32) fi ar ln)
noncomputable def FX10_make_84 (nf : Nat) (x1 : Int32) (x3 : Int32) (fi : FI) (ar : AR) (ln : LN) : Option ((Int32 ⊕ Nat) × FI × AR × LN × Nat × Nat) :=
  br ((x3) = 0) (obnd3 (FX10_chooseTail nf ln fi ar) fun r42 fi40 ar41 => FX10_make_92 nf  (x1) (x3) fi40 ar41 ln) (FX10_make_92 nf  (x1) (x3) fi ar ln)
noncomputable def FX10_make_34 (nf : Nat)  (fi : FI) (ar : AR) (ln : LN) : Option ((Int32 ⊕ Nat) × FI × AR × LN × Nat × Nat) :=
  some (Sum.inr 2, fi, ar, ln, 1, 6)
noncomputable def FX10_make (nf : Nat) (fi : FI) (ar : AR) (ln : LN) (x1 : Int32) : Option ((Int32 ⊕ Nat) × FI × AR × LN × Nat × Nat) :=
  obnd3 (FX8_take nf ln fi ar) fun r46 fi44 ar45 => obnd6 (FX10_openHere nf fi44 ar45 ln) fun r51 fi48 ar49 ln50 kc53 ks54 => addc (kc53) (ks54) (sumc r51 (fun v52 => obnd3 (FX6_readTape nf ln50 0 fi48 ar49 (r46)) fun r62 fi60 ar61 => br ((r62) = 0) (FX10_make_34 nf  fi60 ar61 ln50) (obnd3 (FX10_isAlikeHere nf ln50 fi60 ar61) fun r67 fi65 ar66 => br ((r67) = 0) (obnd3 (FX7_readShown nf ln50 0 0 fi65 ar66) fun r72 fi70 ar71 => br ((r72) = 0) (FX10_make_84 nf  (x1) (r72) fi70 ar71 ln50) (obnd3 (FX2_hasShort nf ln50 0 0 fi70 ar71) fun r77 fi75 ar76 => br ((r77) = 0) (FX10_make_84 nf  (x1) (r72) fi75 ar76 ln50) (some (Sum.inr 2, fi75, ar76, ln50, 1, 6)))) (FX10_make_34 nf  fi65 ar66 ln50))) (fun k55 => some (Sum.inr k55, fi48, ar49, ln50, 0, 0)))
set_option maxHeartbeats 8000000 in
set_option maxRecDepth 100000 in
theorem kX10_make (l : Launch) (g : GT) (ad rd0 : Nat → Nat) (sz : Nat) (nf : Nat) (hlt : l.stackTraces = false) (fi : FI) (ar : AR) (ln : LN) (p1 : Int32) (r : (Int32 ⊕ Nat)) (fi' : FI) (ar' : AR) (ln' : LN) (KC KS : Nat) (hF : FX10_make nf fi ar ln p1 = some (r, fi', ar', ln', KC, KS)) : vx_Met l yX10_make (wxX yX10_make cX10_make 8 (some .int)) ({ frames := 10, cells := KC, slots := KS, locals := 233 } : Room) (va_Pc [.ref (ad (0)), .int p1] (PX g ad rd0 ln sz fi ar)) (QXi g ad (AC ad rd0 sz) r fi' ar' ln') (XX g ad (AC ad rd0 sz) r fi' ar' ln') KC KS (AC ad rd0 sz) := by
  refine vx_ofW (cc := cX10_make) (maxL := 8) (ret := (some .int)) (by decide) rfl ?_
  intro p e s m args below meth c s₁ B hml hout hv
  obtain ⟨rfl, ⟨hsz, hP, hK, hD0, hE⟩, hEX⟩ := hv
  have hx := B.exec
  have hb := B.bytes
  have hr := B.returns
  have hts := atoms_spec (ws := (wxX yX10_make cX10_make 8 (some .int))) B.pre
  have hTX : ∀ w ∈ TBX, w.before _ s = true := fun w h => hts w (List.mem_cons_of_mem _ h)
  have hT : ∀ w ∈ TB, w.before _ s = true := fun w h => hTX w (tbx0 w h)
  have hown : s.vm.findClass RX10 = some m.cls := findClass_of_methodNamed B.named
  have hlocks := B.notSynchronized
  subst hsz
  have hD : ∀ (ln : LN) (fi : FI) (ar : AR), va_D (AC ad rd0 s.heap.size) (WC g ad rd0 ln fi ar) := dCre (dC hD0 s.heap.size fi ar) (fun _ h => h)
  have hA : ∀ q : Nat, s.heap.size ≤ q → AC ad rd0 s.heap.size q := fun q h => Or.inr h
  have hS : va_S (AC ad rd0 s.heap.size) s.heap s.heap [] := va_S.rf
  have hl := lv_entry ([.ref (ad (0)), .int p1]) (n := 8) (Nat.le_of_ble_eq_true rfl)
  rw [lg_entry_eq]
  generalize (lg_sl ([.ref (ad (0)), .int p1]) ++ List.replicate (8 - (lg_sl ([.ref (ad (0)), .int p1])).length) Slot.unset).toArray = ls at hl ⊢
  have hl : lv_has ls 8 [(0, .ref (ad (0))), (1, .int p1)] := hl
  unfold FX10_make at hF
  have J209 : ∀ (x5 : Int32) (x7 : Int32) (t1 : Int32) (t2 : Int32) (t3 : Int32) (fi : FI) (ar : AR) (ln : LN) (kc ks cells slots : Nat) (rd : Nat → Nat) (H : Heap) (locs : List Loc) (ls : Array Slot), FX10_make_209 nf x5 x7 t1 t2 t3 fi ar ln = some (r, fi', ar', ln', kc, ks) → cells + kc ≤ KC → slots + ks ≤ KS → lv_has ls 8 [(0, .ref (ad (0))), (5, .int x5), (7, .int x7)] → va_P (gD g) vwCl (WC g ad rd ln fi ar) H → (∀ (ln : LN) (fi : FI) (ar : AR), va_D (AC ad rd0 s.heap.size) (WC g ad rd ln fi ar)) → va_S (AC ad rd0 s.heap.size) s.heap H locs → W p l e (headSpec (wxX yX10_make cX10_make 8 (some .int)) ({ frames := 10, cells := KC, slots := KS, locals := 233 } : Room)).room s m ([.ref (ad (0)), .int p1] : List Value).toArray below meth c H locs cells slots (vx_MQ below (QXi g ad (AC ad rd0 s.heap.size) r fi' ar' ln') (XX g ad (AC ad rd0 s.heap.size) r fi' ar' ln') ([.ref (ad (0)), .int p1] : List Value).toArray s KC KS (AC ad rd0 s.heap.size)) (F0 m 209 ls [.int t3, .int t2, .int t1, .ref (ad (0))]) := by
    intro x5 x7 t1 t2 t3 fi ar ln kc ks cells slots rd H locs ls hF hkc hks hl hP hD hS
    unfold FX10_make_209 at hF
    refine lv_iload hx hb dX10_make_209 (lv_at hl 2 rfl) ?_
    replace hF := obnd3_of hF
    obtain ⟨r4, fi2, ar3, h1, hF⟩ := hF
    refine cC_v (As := [.int (t1), .int (t2), .int (t3), .int (x7)]) (rest := []) hx hb hml hT hown hK hE (hD _) hA hP hS (rcv_X10 hK hP) (kX10_placeEntry l g ad rd _ nf ln fi ar (t1) (t2) (t3) (x7) r4 fi2 ar3 h1) cw_X10_placeEntry mw48_4 ⟨⟨rfl, rfl⟩, Nat.le_of_ble_eq_true rfl, Nat.le_of_ble_eq_true rfl⟩ rfl hl.1 rfl (Nat.le_of_ble_eq_true rfl) dX10_make_211 ⟨by show _ ≤ KC; omega, by show _ ≤ KS; omega⟩ (fun H locs hP hS => ?_)
    refine lv_aload_n hx hb dX10_make_214 rfl (lv_at hl 0 rfl) ?_
    refine cg_X10_here hx hb hT hown hK hP mw2_19 dX10_make_215 ?_
    refine lv_iload hx hb dX10_make_218 (lv_at hl 1 rfl) ?_
    replace hF := obnd3_of hF
    obtain ⟨r8, fi6, ar7, h5, hF⟩ := hF
    refine cC_i (As := [.int (x5)]) (rest := []) hx hb hml hT hown hK hE (hD _) hA hP hS (rcv_X2 (by decide) hK hP) (kX2_itemsBefore l g ad rd _ nf ln 0 (by decide) fi2 ar3 (x5) r8 fi6 ar7 h5) cw_X2_itemsBefore mw48_18 ⟨⟨rfl, rfl⟩, Nat.le_of_ble_eq_true rfl, Nat.le_of_ble_eq_true rfl⟩ rfl hl.1 rfl (Nat.le_of_ble_eq_true rfl) dX10_make_220 ⟨by show _ ≤ KC; omega, by show _ ≤ KS; omega⟩ (fun H locs hP hS => ?_)
    refine W.widen (k := KC) (n := KS) (by omega) (by omega) ?_
    exact rX_i hx hb hr hlocks hF hP hD hS dX10_make_223
  have J182 : ∀ (x1 : Int32) (x4 : Int32) (x5 : Int32) (x6 : Int32) (t0 : Int32) (fi : FI) (ar : AR) (ln : LN) (kc ks cells slots : Nat) (rd : Nat → Nat) (H : Heap) (locs : List Loc) (ls : Array Slot), FX10_make_182 nf x1 x4 x5 x6 t0 fi ar ln = some (r, fi', ar', ln', kc, ks) → cells + kc ≤ KC → slots + ks ≤ KS → lv_has ls 8 [(0, .ref (ad (0))), (1, .int x1), (4, .int x4), (5, .int x5), (6, .int x6)] → va_P (gD g) vwCl (WC g ad rd ln fi ar) H → (∀ (ln : LN) (fi : FI) (ar : AR), va_D (AC ad rd0 s.heap.size) (WC g ad rd ln fi ar)) → va_S (AC ad rd0 s.heap.size) s.heap H locs → W p l e (headSpec (wxX yX10_make cX10_make 8 (some .int)) ({ frames := 10, cells := KC, slots := KS, locals := 233 } : Room)).room s m ([.ref (ad (0)), .int p1] : List Value).toArray below meth c H locs cells slots (vx_MQ below (QXi g ad (AC ad rd0 s.heap.size) r fi' ar' ln') (XX g ad (AC ad rd0 s.heap.size) r fi' ar' ln') ([.ref (ad (0)), .int p1] : List Value).toArray s KC KS (AC ad rd0 s.heap.size)) (F0 m 182 ls [.int t0]) := by
    intro x1 x4 x5 x6 t0 fi ar ln kc ks cells slots rd H locs ls hF hkc hks hl hP hD hS
    unfold FX10_make_182 at hF
    refine lv_istore (lv' := [(7, .int (t0)), (0, .ref (ad (0))), (1, .int (x1)), (4, .int (x4)), (5, .int (x5)), (6, .int (x6))]) hx hb dX10_make_182 hl (by decide) rfl (fun ls hl => ?_)
    refine lv_aload_n hx hb dX10_make_184 rfl (lv_at hl 1 rfl) ?_
    refine cg_X10_here hx hb hT hown hK hP mw2_19 dX10_make_185 ?_
    refine lv_iload hx hb dX10_make_188 (lv_at hl 5 rfl) ?_
    replace hF := obnd3_of hF
    obtain ⟨r12, fi10, ar11, h9, hF⟩ := hF
    refine cC_v (As := [.int (x6)]) (rest := []) hx hb hml hT hown hK hE (hD _) hA hP hS (rcv_X2 (by decide) hK hP) (kX2_lengthen l g ad rd _ nf ln 0 (by decide) fi ar (x6) r12 fi10 ar11 h9) cw_X2_lengthen mw47_22 ⟨⟨rfl, rfl⟩, Nat.le_of_ble_eq_true rfl, Nat.le_of_ble_eq_true rfl⟩ rfl hl.1 rfl (Nat.le_of_ble_eq_true rfl) dX10_make_190 ⟨by show _ ≤ KC; omega, by show _ ≤ KS; omega⟩ (fun H locs hP hS => ?_)
    refine lv_aload_n hx hb dX10_make_193 rfl (lv_at hl 1 rfl) ?_
    refine lv_iload hx hb dX10_make_194 (lv_at hl 4 rfl) ?_
    refine lv_iload hx hb dX10_make_196 (lv_at hl 3 rfl) ?_
    refine lv_iload_n hx hb dX10_make_198 rfl (lv_at hl 2 rfl) ?_
    refine lv_if_eq (tgt := 207) hx hb dX10_make_199 (by decide) (fun hc13 => ?_) (fun hc13 => ?_)
    · replace hF := br_yes hF hc13
      refine lv_bipush (v := (32 : Int32)) hx hb dX10_make_207 (by decide) ?_
      exact J209 (x5) (t0) (x5) (x4) (32 : Int32) _ _ _ _ _ _ _ _ _ _ _ hF hkc hks (lv_sub hl [1, 4, 0] rfl) hP hD hS
    · replace hF := br_no hF hc13
      refine lv_bipush (v := (48 : Int32)) hx hb dX10_make_202 (by decide) ?_
      refine lv_goto (tgt := 209) hx hb dX10_make_204 (by decide) ?_
      exact J209 (x5) (t0) (x5) (x4) (48 : Int32) _ _ _ _ _ _ _ _ _ _ _ hF hkc hks (lv_sub hl [1, 4, 0] rfl) hP hD hS
  have J156 : ∀ (x1 : Int32) (x4 : Int32) (x5 : Int32) (x6 : Int32) (t0 : Int32) (t1 : Int32) (t2 : Int32) (fi : FI) (ar : AR) (ln : LN) (kc ks cells slots : Nat) (rd : Nat → Nat) (H : Heap) (locs : List Loc) (ls : Array Slot), FX10_make_156 nf x1 x4 x5 x6 t0 t1 t2 fi ar ln = some (r, fi', ar', ln', kc, ks) → cells + kc ≤ KC → slots + ks ≤ KS → lv_has ls 8 [(0, .ref (ad (0))), (1, .int x1), (4, .int x4), (5, .int x5), (6, .int x6)] → va_P (gD g) vwCl (WC g ad rd ln fi ar) H → (∀ (ln : LN) (fi : FI) (ar : AR), va_D (AC ad rd0 s.heap.size) (WC g ad rd ln fi ar)) → va_S (AC ad rd0 s.heap.size) s.heap H locs → W p l e (headSpec (wxX yX10_make cX10_make 8 (some .int)) ({ frames := 10, cells := KC, slots := KS, locals := 233 } : Room)).room s m ([.ref (ad (0)), .int p1] : List Value).toArray below meth c H locs cells slots (vx_MQ below (QXi g ad (AC ad rd0 s.heap.size) r fi' ar' ln') (XX g ad (AC ad rd0 s.heap.size) r fi' ar' ln') ([.ref (ad (0)), .int p1] : List Value).toArray s KC KS (AC ad rd0 s.heap.size)) (F0 m 156 ls [.int t2, .int t1, .int t0]) := by
    intro x1 x4 x5 x6 t0 t1 t2 fi ar ln kc ks cells slots rd H locs ls hF hkc hks hl hP hD hS
    unfold FX10_make_156 at hF
    refine lv_iadd hx hb dX10_make_156 ?_
    refine lv_icmp_ge (tgt := 170) hx hb dX10_make_157 (by decide) (fun hc14 => ?_) (fun hc14 => ?_)
    · replace hF := br_yes hF hc14
      refine lv_iload_n hx hb dX10_make_170 rfl (lv_at hl 1 rfl) ?_
      refine lv_if_eq (tgt := 181) hx hb dX10_make_171 (by decide) (fun hc15 => ?_) (fun hc15 => ?_)
      · replace hF := br_yes hF hc15
        refine lv_iconst (v := (0 : Int32)) hx hb dX10_make_181 (by decide) ?_
        exact J182 (x1) (x4) (x5) (x6) (0 : Int32) _ _ _ _ _ _ _ _ _ _ _ hF hkc hks (lv_sub hl [0, 1, 2, 3, 4] rfl) hP hD hS
      · replace hF := br_no hF hc15
        refine lv_aload_n hx hb dX10_make_174 rfl (lv_at hl 0 rfl) ?_
        replace hF := obnd3_of hF
        obtain ⟨r19, fi17, ar18, h16, hF⟩ := hF
        refine cC_i (As := []) (rest := []) hx hb hml hT hown hK hE (hD _) hA hP hS (rcv_X10 hK hP) (kX10_makeDirectory l g ad rd _ nf ln fi ar r19 fi17 ar18 h16) cw_X10_makeDirectory mw47_6 ⟨⟨rfl, rfl⟩, Nat.le_of_ble_eq_true rfl, Nat.le_of_ble_eq_true rfl⟩ rfl hl.1 rfl (Nat.le_of_ble_eq_true rfl) dX10_make_175 ⟨by show _ ≤ KC; omega, by show _ ≤ KS; omega⟩ (fun H locs hP hS => ?_)
        refine lv_goto (tgt := 182) hx hb dX10_make_178 (by decide) ?_
        exact J182 (x1) (x4) (x5) (x6) (r19) _ _ _ _ _ _ _ _ _ _ _ hF hkc hks (lv_sub hl [0, 1, 2, 3, 4] rfl) hP hD hS
    · replace hF := br_no hF hc14
      obtain ⟨sa, hsa⟩ := hEX.1.2.2.2.2.2.2.2.2.2.1
      obtain ⟨hq1, hq2⟩ := cost_of hF
      refine vx_throwS (cls := "java/lang/UnsupportedOperationException") (names := ["java/lang/RuntimeException", "java/lang/Exception"]) (sa := sa) (A := AC ad rd0 s.heap.size) hx hb hlt hown (by decide) (by decide) (hT _ mw44_19) (hT _ mw44_20) hsa (vx_hat (fun w h => hTX w (tbx4 w h)) (by rw [vxb_3]; exact fun _ h => h) (vx_c (va_tabs rfl rfl hEX.2.2.2.2.2.1) (vx_c (va_tabs rfl rfl hEX.2.2.2.2.2.2.1) (vx_c (va_tabs rfl rfl hEX.2.2.2.2.2.2.2) (vx_c (va_tabs rfl rfl hEX.2.2.2.2.1) vx_n))))) vxg_3 hEX.1.1 hEX.1.2.1 hS (by rw [hml]; exact hl.1) dX10_make_160 dX10_make_163 dX10_make_164 dX10_make_166 dX10_make_169 (fun x hx => (hout x hx).elim) (Nat.le_of_ble_eq_true rfl) (Nat.le_of_ble_eq_true rfl) (by show _ ≤ KC; omega) (by show _ ≤ KS; omega) hlocks (fun t _ hz hk => ?_) hS.2.2 (by omega) (by omega)
      exact xx_of (k := 3) hF (hP.kept (fun k q h => hk q.1 (hP k q h).lt)) hD ⟨Nat.le_trans hS.1 hz, fun q h1 h2 => by rw [hk q (Nat.lt_of_lt_of_le h1 hS.1)]; exact hS.2.1 q h1 h2⟩
  have J107 : ∀ (x1 : Int32) (t0 : Int32) (fi : FI) (ar : AR) (ln : LN) (kc ks cells slots : Nat) (rd : Nat → Nat) (H : Heap) (locs : List Loc) (ls : Array Slot), FX10_make_107 nf x1 t0 fi ar ln = some (r, fi', ar', ln', kc, ks) → cells + kc ≤ KC → slots + ks ≤ KS → lv_has ls 8 [(0, .ref (ad (0))), (1, .int x1)] → va_P (gD g) vwCl (WC g ad rd ln fi ar) H → (∀ (ln : LN) (fi : FI) (ar : AR), va_D (AC ad rd0 s.heap.size) (WC g ad rd ln fi ar)) → va_S (AC ad rd0 s.heap.size) s.heap H locs → W p l e (headSpec (wxX yX10_make cX10_make 8 (some .int)) ({ frames := 10, cells := KC, slots := KS, locals := 233 } : Room)).room s m ([.ref (ad (0)), .int p1] : List Value).toArray below meth c H locs cells slots (vx_MQ below (QXi g ad (AC ad rd0 s.heap.size) r fi' ar' ln') (XX g ad (AC ad rd0 s.heap.size) r fi' ar' ln') ([.ref (ad (0)), .int p1] : List Value).toArray s KC KS (AC ad rd0 s.heap.size)) (F0 m 107 ls [.int t0]) := by
    intro x1 t0 fi ar ln kc ks cells slots rd H locs ls hF hkc hks hl hP hD hS
    unfold FX10_make_107 at hF
    refine lv_istore (lv' := [(4, .int (t0)), (0, .ref (ad (0))), (1, .int (x1))]) hx hb dX10_make_107 hl (by decide) rfl (fun ls hl => ?_)
    refine lv_aload_n hx hb dX10_make_109 rfl (lv_at hl 1 rfl) ?_
    refine cg_X10_here hx hb hT hown hK hP mw2_19 dX10_make_110 ?_
    refine lv_iload hx hb dX10_make_113 (lv_at hl 0 rfl) ?_
    refine lv_iconst (v := (1 : Int32)) hx hb dX10_make_115 (by decide) ?_
    refine lv_iadd hx hb dX10_make_116 ?_
    replace hF := obnd3_of hF
    obtain ⟨r23, fi21, ar22, h20, hF⟩ := hF
    refine cC_i (As := [.int ((t0) + (1 : Int32))]) (rest := []) hx hb hml hT hown hK hE (hD _) hA hP hS (rcv_X2 (by decide) hK hP) (kX2_roomFor l g ad rd _ nf ln 0 (by decide) fi ar ((t0) + (1 : Int32)) r23 fi21 ar22 h20) cw_X2_roomFor mw46_22 ⟨⟨rfl, rfl⟩, Nat.le_of_ble_eq_true rfl, Nat.le_of_ble_eq_true rfl⟩ rfl hl.1 rfl (Nat.le_of_ble_eq_true rfl) dX10_make_117 ⟨by show _ ≤ KC; omega, by show _ ≤ KS; omega⟩ (fun H locs hP hS => ?_)
    refine lv_istore (lv' := [(5, .int (r23)), (4, .int (t0)), (0, .ref (ad (0))), (1, .int (x1))]) hx hb dX10_make_120 hl (by decide) rfl (fun ls hl => ?_)
    refine lv_aload_n hx hb dX10_make_122 rfl (lv_at hl 2 rfl) ?_
    refine cg_X10_here hx hb hT hown hK hP mw2_19 dX10_make_123 ?_
    refine lv_iload hx hb dX10_make_126 (lv_at hl 0 rfl) ?_
    refine lv_iload hx hb dX10_make_128 (lv_at hl 1 rfl) ?_
    refine lv_iadd hx hb dX10_make_130 ?_
    refine lv_iconst (v := (1 : Int32)) hx hb dX10_make_131 (by decide) ?_
    refine lv_iadd hx hb dX10_make_132 ?_
    replace hF := obnd3_of hF
    obtain ⟨r27, fi25, ar26, h24, hF⟩ := hF
    refine cC_i (As := [.int (((r23) + (t0)) + (1 : Int32))]) (rest := []) hx hb hml hT hown hK hE (hD _) hA hP hS (rcv_X2 (by decide) hK hP) (kX2_clustersMissing l g ad rd _ nf ln 0 (by decide) fi21 ar22 (((r23) + (t0)) + (1 : Int32)) r27 fi25 ar26 h24) cw_X2_clustersMissing mw47_2 ⟨⟨rfl, rfl⟩, Nat.le_of_ble_eq_true rfl, Nat.le_of_ble_eq_true rfl⟩ rfl hl.1 rfl (Nat.le_of_ble_eq_true rfl) dX10_make_133 ⟨by show _ ≤ KC; omega, by show _ ≤ KS; omega⟩ (fun H locs hP hS => ?_)
    refine lv_istore (lv' := [(6, .int (r27)), (5, .int (r23)), (4, .int (t0)), (0, .ref (ad (0))), (1, .int (x1))]) hx hb dX10_make_136 hl (by decide) rfl (fun ls hl => ?_)
    refine lv_aload_n hx hb dX10_make_138 rfl (lv_at hl 3 rfl) ?_
    refine cg_X10_volume hx hb hT hown hK hP mw2_11 dX10_make_139 ?_
    replace hF := obnd3_of hF
    obtain ⟨r31, fi29, ar30, h28, hF⟩ := hF
    refine cC_i (As := []) (rest := []) hx hb hml hT hown hK hE (hD _) hA hP hS (rcv_X9 hK hP) (kX9_freeClusters l g ad rd _ nf ln fi25 ar26 r31 fi29 ar30 h28) cw_X9_freeClusters mw36_19 ⟨⟨rfl, rfl⟩, Nat.le_of_ble_eq_true rfl, Nat.le_of_ble_eq_true rfl⟩ rfl hl.1 rfl (Nat.le_of_ble_eq_true rfl) dX10_make_142 ⟨by show _ ≤ KC; omega, by show _ ≤ KS; omega⟩ (fun H locs hP hS => ?_)
    refine lv_iload hx hb dX10_make_145 (lv_at hl 0 rfl) ?_
    refine lv_iload_n hx hb dX10_make_147 rfl (lv_at hl 4 rfl) ?_
    refine lv_if_eq (tgt := 155) hx hb dX10_make_148 (by decide) (fun hc32 => ?_) (fun hc32 => ?_)
    · replace hF := br_yes hF hc32
      refine lv_iconst (v := (0 : Int32)) hx hb dX10_make_155 (by decide) ?_
      exact J156 (x1) (t0) (r23) (r27) (r31) (r27) (0 : Int32) _ _ _ _ _ _ _ _ _ _ _ hF hkc hks (lv_sub hl [3, 4, 2, 1, 0] rfl) hP hD hS
    · replace hF := br_no hF hc32
      refine lv_iconst (v := (1 : Int32)) hx hb dX10_make_151 (by decide) ?_
      refine lv_goto (tgt := 156) hx hb dX10_make_152 (by decide) ?_
      exact J156 (x1) (t0) (r23) (r27) (r31) (r27) (1 : Int32) _ _ _ _ _ _ _ _ _ _ _ hF hkc hks (lv_sub hl [3, 4, 2, 1, 0] rfl) hP hD hS
  have J92 : ∀ (x1 : Int32) (x3 : Int32) (fi : FI) (ar : AR) (ln : LN) (kc ks cells slots : Nat) (rd : Nat → Nat) (H : Heap) (locs : List Loc) (ls : Array Slot), FX10_make_92 nf x1 x3 fi ar ln = some (r, fi', ar', ln', kc, ks) → cells + kc ≤ KC → slots + ks ≤ KS → lv_has ls 8 [(0, .ref (ad (0))), (1, .int x1), (3, .int x3)] → va_P (gD g) vwCl (WC g ad rd ln fi ar) H → (∀ (ln : LN) (fi : FI) (ar : AR), va_D (AC ad rd0 s.heap.size) (WC g ad rd ln fi ar)) → va_S (AC ad rd0 s.heap.size) s.heap H locs → W p l e (headSpec (wxX yX10_make cX10_make 8 (some .int)) ({ frames := 10, cells := KC, slots := KS, locals := 233 } : Room)).room s m ([.ref (ad (0)), .int p1] : List Value).toArray below meth c H locs cells slots (vx_MQ below (QXi g ad (AC ad rd0 s.heap.size) r fi' ar' ln') (XX g ad (AC ad rd0 s.heap.size) r fi' ar' ln') ([.ref (ad (0)), .int p1] : List Value).toArray s KC KS (AC ad rd0 s.heap.size)) (F0 m 92 ls []) := by
    intro x1 x3 fi ar ln kc ks cells slots rd H locs ls hF hkc hks hl hP hD hS
    unfold FX10_make_92 at hF
    refine lv_iload_n hx hb dX10_make_92 rfl (lv_at hl 2 rfl) ?_
    refine lv_if_eq (tgt := 100) hx hb dX10_make_93 (by decide) (fun hc33 => ?_) (fun hc33 => ?_)
    · replace hF := br_yes hF hc33
      refine lv_aload_n hx hb dX10_make_100 rfl (lv_at hl 0 rfl) ?_
      refine cg_X10_name hx hb hT hown hK hP mw3_0 dX10_make_101 ?_
      replace hF := obnd3_of hF
      obtain ⟨r37, fi35, ar36, h34, hF⟩ := hF
      refine cC_i (As := []) (rest := []) hx hb hml hT hown hK hE (hD _) hA hP hS (rcv_X6 (by decide) hK hP) (kX6_partsWanted l g ad rd _ nf ln 0 (by decide) fi ar r37 fi35 ar36 h34) cw_X6_partsWanted mw46_21 ⟨⟨rfl, rfl⟩, Nat.le_of_ble_eq_true rfl, Nat.le_of_ble_eq_true rfl⟩ rfl hl.1 rfl (Nat.le_of_ble_eq_true rfl) dX10_make_104 ⟨by show _ ≤ KC; omega, by show _ ≤ KS; omega⟩ (fun H locs hP hS => ?_)
      exact J107 (x1) (r37) _ _ _ _ _ _ _ _ _ _ _ hF hkc hks (lv_sub hl [0, 1] rfl) hP hD hS
    · replace hF := br_no hF hc33
      refine lv_iconst (v := (0 : Int32)) hx hb dX10_make_96 (by decide) ?_
      refine lv_goto (tgt := 107) hx hb dX10_make_97 (by decide) ?_
      exact J107 (x1) (0 : Int32) _ _ _ _ _ _ _ _ _ _ _ hF hkc hks (lv_sub hl [0, 1] rfl) hP hD hS
  have J84 : ∀ (x1 : Int32) (x3 : Int32) (fi : FI) (ar : AR) (ln : LN) (kc ks cells slots : Nat) (rd : Nat → Nat) (H : Heap) (locs : List Loc) (ls : Array Slot), FX10_make_84 nf x1 x3 fi ar ln = some (r, fi', ar', ln', kc, ks) → cells + kc ≤ KC → slots + ks ≤ KS → lv_has ls 8 [(0, .ref (ad (0))), (1, .int x1), (3, .int x3)] → va_P (gD g) vwCl (WC g ad rd ln fi ar) H → (∀ (ln : LN) (fi : FI) (ar : AR), va_D (AC ad rd0 s.heap.size) (WC g ad rd ln fi ar)) → va_S (AC ad rd0 s.heap.size) s.heap H locs → W p l e (headSpec (wxX yX10_make cX10_make 8 (some .int)) ({ frames := 10, cells := KC, slots := KS, locals := 233 } : Room)).room s m ([.ref (ad (0)), .int p1] : List Value).toArray below meth c H locs cells slots (vx_MQ below (QXi g ad (AC ad rd0 s.heap.size) r fi' ar' ln') (XX g ad (AC ad rd0 s.heap.size) r fi' ar' ln') ([.ref (ad (0)), .int p1] : List Value).toArray s KC KS (AC ad rd0 s.heap.size)) (F0 m 84 ls []) := by
    intro x1 x3 fi ar ln kc ks cells slots rd H locs ls hF hkc hks hl hP hD hS
    unfold FX10_make_84 at hF
    refine lv_iload_n hx hb dX10_make_84 rfl (lv_at hl 2 rfl) ?_
    refine lv_if_ne (tgt := 92) hx hb dX10_make_85 (by decide) (fun hc38 => ?_) (fun hc38 => ?_)
    · replace hF := br_no hF hc38
      exact J92 (x1) (x3) _ _ _ _ _ _ _ _ _ _ _ hF hkc hks (lv_sub hl [0, 1, 2] rfl) hP hD hS
    · replace hF := br_yes hF hc38
      refine lv_aload_n hx hb dX10_make_88 rfl (lv_at hl 0 rfl) ?_
      replace hF := obnd3_of hF
      obtain ⟨r42, fi40, ar41, h39, hF⟩ := hF
      refine cC_v (As := []) (rest := []) hx hb hml hT hown hK hE (hD _) hA hP hS (rcv_X10 hK hP) (kX10_chooseTail l g ad rd _ nf ln fi ar r42 fi40 ar41 h39) cw_X10_chooseTail mw45_22 ⟨⟨rfl, rfl⟩, Nat.le_of_ble_eq_true rfl, Nat.le_of_ble_eq_true rfl⟩ rfl hl.1 rfl (Nat.le_of_ble_eq_true rfl) dX10_make_89 ⟨by show _ ≤ KC; omega, by show _ ≤ KS; omega⟩ (fun H locs hP hS => ?_)
      exact J92 (x1) (x3) _ _ _ _ _ _ _ _ _ _ _ hF hkc hks (lv_sub hl [0, 1, 2] rfl) hP hD hS
  have J34 : ∀  (fi : FI) (ar : AR) (ln : LN) (kc ks cells slots : Nat) (rd : Nat → Nat) (H : Heap) (locs : List Loc) (ls : Array Slot), FX10_make_34 nf fi ar ln = some (r, fi', ar', ln', kc, ks) → cells + kc ≤ KC → slots + ks ≤ KS → lv_has ls 8 [(0, .ref (ad (0)))] → va_P (gD g) vwCl (WC g ad rd ln fi ar) H → (∀ (ln : LN) (fi : FI) (ar : AR), va_D (AC ad rd0 s.heap.size) (WC g ad rd ln fi ar)) → va_S (AC ad rd0 s.heap.size) s.heap H locs → W p l e (headSpec (wxX yX10_make cX10_make 8 (some .int)) ({ frames := 10, cells := KC, slots := KS, locals := 233 } : Room)).room s m ([.ref (ad (0)), .int p1] : List Value).toArray below meth c H locs cells slots (vx_MQ below (QXi g ad (AC ad rd0 s.heap.size) r fi' ar' ln') (XX g ad (AC ad rd0 s.heap.size) r fi' ar' ln') ([.ref (ad (0)), .int p1] : List Value).toArray s KC KS (AC ad rd0 s.heap.size)) (F0 m 34 ls []) := by
    intro fi ar ln kc ks cells slots rd H locs ls hF hkc hks hl hP hD hS
    unfold FX10_make_34 at hF
    obtain ⟨sa, hsa⟩ := hEX.1.2.2.2.2.2.2.2.1
    obtain ⟨hq1, hq2⟩ := cost_of hF
    refine vx_throwS (cls := "java/lang/IllegalArgumentException") (names := ["java/lang/RuntimeException", "java/lang/Exception"]) (sa := sa) (A := AC ad rd0 s.heap.size) hx hb hlt hown (by decide) (by decide) (hT _ mw9_3) (hT _ mw9_4) hsa (vx_hat (fun w h => hTX w (tbx3 w h)) (by rw [vxb_2]; exact fun _ h => h) (vx_c (va_tabs rfl rfl hEX.2.2.2.2.2.1) (vx_c (va_tabs rfl rfl hEX.2.2.2.2.2.2.1) (vx_c (va_tabs rfl rfl hEX.2.2.2.2.2.2.2) (vx_c (va_tabs rfl rfl hEX.2.2.2.1) vx_n))))) vxg_2 hEX.1.1 hEX.1.2.1 hS (by rw [hml]; exact hl.1) dX10_make_34 dX10_make_37 dX10_make_38 dX10_make_40 dX10_make_43 (fun x hx => (hout x hx).elim) (Nat.le_of_ble_eq_true rfl) (Nat.le_of_ble_eq_true rfl) (by show _ ≤ KC; omega) (by show _ ≤ KS; omega) hlocks (fun t _ hz hk => ?_) hS.2.2 (by omega) (by omega)
    exact xx_of (k := 2) hF (hP.kept (fun k q h => hk q.1 (hP k q h).lt)) hD ⟨Nat.le_trans hS.1 hz, fun q h1 h2 => by rw [hk q (Nat.lt_of_lt_of_le h1 hS.1)]; exact hS.2.1 q h1 h2⟩
  replace hl := lv_sub hl [0, 1] rfl
  obtain ⟨cells, ecells⟩ : ∃ z : Nat, z = 0 := ⟨_, rfl⟩
  obtain ⟨slots, eslots⟩ : ∃ z : Nat, z = 0 := ⟨_, rfl⟩
  obtain ⟨kc, ekc⟩ : ∃ z : Nat, z = KC := ⟨_, rfl⟩
  obtain ⟨ks, eks⟩ : ∃ z : Nat, z = KS := ⟨_, rfl⟩
  have hkc : cells + kc ≤ KC := by omega
  have hks : slots + ks ≤ KS := by omega
  replace hF := kcks_of hF ekc eks
  suffices hgo : W p l e (headSpec (wxX yX10_make cX10_make 8 (some .int)) ({ frames := 10, cells := KC, slots := KS, locals := 233 } : Room)).room s m ([.ref (ad (0)), .int p1] : List Value).toArray below meth c s.heap [] cells slots (vx_MQ below (QXi g ad (AC ad rd0 s.heap.size) r fi' ar' ln') (XX g ad (AC ad rd0 s.heap.size) r fi' ar' ln') ([.ref (ad (0)), .int p1] : List Value).toArray s KC KS (AC ad rd0 s.heap.size)) (F0 m 0 ls []) by rw [ecells, eslots] at hgo; exact hgo
  obtain ⟨rd, erd⟩ : ∃ z : Nat → Nat, z = rd0 := ⟨_, rfl⟩
  have hP : va_P (gD g) vwCl (WC g ad rd ln fi ar) s.heap := by rw [erd]; exact hP
  have hD : ∀ (ln : LN) (fi : FI) (ar : AR), va_D (AC ad rd0 s.heap.size) (WC g ad rd ln fi ar) := by rw [erd]; exact hD
  clear erd
  refine lv_aload_n hx hb dX10_make_0 rfl (lv_at hl 0 rfl) ?_
  refine cg_X10_tape hx hb hT hown hK hP mw2_7 dX10_make_1 ?_
  replace hF := obnd3_of hF
  obtain ⟨r46, fi44, ar45, h43, hF⟩ := hF
  refine cC_i (As := []) (rest := []) hx hb hml hT hown hK hE (hD _) hA hP hS (rcv_X8 hK hP) (kX8_take l g ad rd _ nf ln fi ar r46 fi44 ar45 h43) cw_X8_take mw8_11 ⟨⟨rfl, rfl⟩, Nat.le_of_ble_eq_true rfl, Nat.le_of_ble_eq_true rfl⟩ rfl hl.1 rfl (Nat.le_of_ble_eq_true rfl) dX10_make_4 ⟨by show _ ≤ KC; omega, by show _ ≤ KS; omega⟩ (fun H locs hP hS => ?_)
  refine lv_istore_n (lv' := [(2, .int (r46)), (0, .ref (ad (0))), (1, .int (p1))]) hx hb dX10_make_7 rfl hl (by decide) rfl (fun ls hl => ?_)
  refine lv_aload_n hx hb dX10_make_8 rfl (lv_at hl 1 rfl) ?_
  replace hF := obnd6_of hF
  obtain ⟨r51, fi48, ar49, ln50, kc53, ks54, h47, hF⟩ := hF
  replace hF := addc_of hF
  obtain ⟨kc56, ks57, e58c, e58s, hF⟩ := hF
  rcases r51 with v52 | k55
  rotate_left
  · replace hF := sumc_r hF
    exact cX_vt (As := []) (rest := []) hx hb hml hTX hown hK hE hEX hD hA hP hS (rcv_X10 hK hP) (kX10_openHere l g ad rd _ nf hlt fi44 ar45 ln (Sum.inr k55) fi48 ar49 ln50 kc53 ks54 h47) cw_X10_openHere mw37_16 ⟨⟨rfl, rfl⟩, Nat.le_of_ble_eq_true rfl, Nat.le_of_ble_eq_true rfl⟩ rfl hl.1 rfl (Nat.le_of_ble_eq_true rfl) dX10_make_9 ⟨by show _ ≤ KC; omega, by show _ ≤ KS; omega⟩ ⟨hout, hlocks, by omega, by omega, fun rd H locs t ht hP hD hS => xx_of hF (by rw [ht]; exact hP) hD (hS.F ht)⟩
  replace hF := sumc_l hF
  refine cX_v (As := []) (rest := []) hx hb hml hTX hown hK hE hEX hD hA hP hS (rcv_X10 hK hP) (kX10_openHere l g ad rd _ nf hlt fi44 ar45 ln (Sum.inl v52) fi48 ar49 ln50 kc53 ks54 h47) cw_X10_openHere mw37_16 ⟨⟨rfl, rfl⟩, Nat.le_of_ble_eq_true rfl, Nat.le_of_ble_eq_true rfl⟩ rfl hl.1 rfl (Nat.le_of_ble_eq_true rfl) dX10_make_9 ⟨by show _ ≤ KC; omega, by show _ ≤ KS; omega⟩ (fun rd H locs hP hD hS => ?_)
  replace hkc : cells + kc53 + kc56 ≤ KC := by omega
  replace hks : slots + ks54 + ks57 ≤ KS := by omega
  refine lv_aload_n hx hb dX10_make_12 rfl (lv_at hl 1 rfl) ?_
  refine cg_X10_name hx hb hT hown hK hP mw3_0 dX10_make_13 ?_
  refine lv_aload_n hx hb dX10_make_16 rfl (lv_at hl 1 rfl) ?_
  refine cg_X10_tape hx hb hT hown hK hP mw2_7 dX10_make_17 ?_
  refine lv_iload_n hx hb dX10_make_20 rfl (lv_at hl 0 rfl) ?_
  replace hF := obnd3_of hF
  obtain ⟨r62, fi60, ar61, h59, hF⟩ := hF
  refine cC_i (As := [.ref (ad (3)), .int (r46)]) (rest := []) hx hb hml hT hown hK hE (hD _) hA hP hS (rcv_X6 (by decide) hK hP) (kX6_readTape l g ad rd _ nf ln50 0 (by decide) fi48 ar49 (r46) r62 fi60 ar61 h59) cw_X6_readTape mw44_21 ⟨⟨rfl, rfl⟩, Nat.le_of_ble_eq_true rfl, Nat.le_of_ble_eq_true rfl⟩ rfl hl.1 rfl (Nat.le_of_ble_eq_true rfl) dX10_make_21 ⟨by show _ ≤ KC; omega, by show _ ≤ KS; omega⟩ (fun H locs hP hS => ?_)
  refine lv_if_eq (tgt := 34) hx hb dX10_make_24 (by decide) (fun hc63 => ?_) (fun hc63 => ?_)
  · replace hF := br_yes hF hc63
    exact J34  _ _ _ _ _ _ _ _ _ _ _ hF hkc hks (lv_sub hl [1] rfl) hP hD hS
  · replace hF := br_no hF hc63
    refine lv_aload_n hx hb dX10_make_27 rfl (lv_at hl 1 rfl) ?_
    replace hF := obnd3_of hF
    obtain ⟨r67, fi65, ar66, h64, hF⟩ := hF
    refine cC_i (As := []) (rest := []) hx hb hml hT hown hK hE (hD _) hA hP hS (rcv_X10 hK hP) (kX10_isAlikeHere l g ad rd _ nf ln50 fi60 ar61 r67 fi65 ar66 h64) cw_X10_isAlikeHere mw45_3 ⟨⟨rfl, rfl⟩, Nat.le_of_ble_eq_true rfl, Nat.le_of_ble_eq_true rfl⟩ rfl hl.1 rfl (Nat.le_of_ble_eq_true rfl) dX10_make_28 ⟨by show _ ≤ KC; omega, by show _ ≤ KS; omega⟩ (fun H locs hP hS => ?_)
    refine lv_if_eq (tgt := 44) hx hb dX10_make_31 (by decide) (fun hc68 => ?_) (fun hc68 => ?_)
    · replace hF := br_yes hF hc68
      refine lv_aload_n hx hb dX10_make_44 rfl (lv_at hl 1 rfl) ?_
      refine cg_X10_shortName hx hb hT hown hK hP mw3_5 dX10_make_45 ?_
      refine lv_aload_n hx hb dX10_make_48 rfl (lv_at hl 1 rfl) ?_
      refine cg_X10_name hx hb hT hown hK hP mw3_0 dX10_make_49 ?_
      replace hF := obnd3_of hF
      obtain ⟨r72, fi70, ar71, h69, hF⟩ := hF
      refine cC_i (As := [.ref (ad (26 + 2 * 0))]) (rest := []) hx hb hml hT hown hK hE (hD _) hA hP hS (rcv_X7 (by decide) hK hP) (kX7_readShown l g ad rd _ nf ln50 0 0 (by decide) (by decide) fi65 ar66 r72 fi70 ar71 h69) cw_X7_readShown mw45_8 ⟨⟨rfl, rfl⟩, Nat.le_of_ble_eq_true rfl, Nat.le_of_ble_eq_true rfl⟩ rfl hl.1 rfl (Nat.le_of_ble_eq_true rfl) dX10_make_52 ⟨by show _ ≤ KC; omega, by show _ ≤ KS; omega⟩ (fun H locs hP hS => ?_)
      refine lv_istore_n (lv' := [(3, .int (r72)), (2, .int (r46)), (0, .ref (ad (0))), (1, .int (p1))]) hx hb dX10_make_55 rfl hl (by decide) rfl (fun ls hl => ?_)
      refine lv_iload_n hx hb dX10_make_56 rfl (lv_at hl 0 rfl) ?_
      refine lv_if_eq (tgt := 84) hx hb dX10_make_57 (by decide) (fun hc73 => ?_) (fun hc73 => ?_)
      · replace hF := br_yes hF hc73
        exact J84 (p1) (r72) _ _ _ _ _ _ _ _ _ _ _ hF hkc hks (lv_sub hl [2, 3, 0] rfl) hP hD hS
      · replace hF := br_no hF hc73
        refine lv_aload_n hx hb dX10_make_60 rfl (lv_at hl 2 rfl) ?_
        refine cg_X10_here hx hb hT hown hK hP mw2_19 dX10_make_61 ?_
        refine lv_aload_n hx hb dX10_make_64 rfl (lv_at hl 2 rfl) ?_
        refine cg_X10_shortName hx hb hT hown hK hP mw3_5 dX10_make_65 ?_
        replace hF := obnd3_of hF
        obtain ⟨r77, fi75, ar76, h74, hF⟩ := hF
        refine cC_i (As := [.ref (ad (34 + 3 * 0))]) (rest := []) hx hb hml hT hown hK hE (hD _) hA hP hS (rcv_X2 (by decide) hK hP) (kX2_hasShort l g ad rd _ nf ln50 0 0 (by decide) (by decide) fi70 ar71 r77 fi75 ar76 h74) cw_X2_hasShort mw45_14 ⟨⟨rfl, rfl⟩, Nat.le_of_ble_eq_true rfl, Nat.le_of_ble_eq_true rfl⟩ rfl hl.1 rfl (Nat.le_of_ble_eq_true rfl) dX10_make_68 ⟨by show _ ≤ KC; omega, by show _ ≤ KS; omega⟩ (fun H locs hP hS => ?_)
        refine lv_if_eq (tgt := 84) hx hb dX10_make_71 (by decide) (fun hc78 => ?_) (fun hc78 => ?_)
        · replace hF := br_yes hF hc78
          exact J84 (p1) (r72) _ _ _ _ _ _ _ _ _ _ _ hF hkc hks (lv_sub hl [2, 3, 0] rfl) hP hD hS
        · replace hF := br_no hF hc78
          obtain ⟨sa, hsa⟩ := hEX.1.2.2.2.2.2.2.2.2.1
          obtain ⟨hq1, hq2⟩ := cost_of hF
          refine vx_throwS (cls := "java/lang/IllegalArgumentException") (names := ["java/lang/RuntimeException", "java/lang/Exception"]) (sa := sa) (A := AC ad rd0 s.heap.size) hx hb hlt hown (by decide) (by decide) (hT _ mw9_3) (hT _ mw9_4) hsa (vx_hat (fun w h => hTX w (tbx3 w h)) (by rw [vxb_2]; exact fun _ h => h) (vx_c (va_tabs rfl rfl hEX.2.2.2.2.2.1) (vx_c (va_tabs rfl rfl hEX.2.2.2.2.2.2.1) (vx_c (va_tabs rfl rfl hEX.2.2.2.2.2.2.2) (vx_c (va_tabs rfl rfl hEX.2.2.2.1) vx_n))))) vxg_2 hEX.1.1 hEX.1.2.1 hS (by rw [hml]; exact hl.1) dX10_make_74 dX10_make_77 dX10_make_78 dX10_make_80 dX10_make_83 (fun x hx => (hout x hx).elim) (Nat.le_of_ble_eq_true rfl) (Nat.le_of_ble_eq_true rfl) (by show _ ≤ KC; omega) (by show _ ≤ KS; omega) hlocks (fun t _ hz hk => ?_) hS.2.2 (by omega) (by omega)
          exact xx_of (k := 2) hF (hP.kept (fun k q h => hk q.1 (hP k q h).lt)) hD ⟨Nat.le_trans hS.1 hz, fun q h1 h2 => by rw [hk q (Nat.lt_of_lt_of_le h1 hS.1)]; exact hS.2.1 q h1 h2⟩
    · replace hF := br_no hF hc68
      exact J34  _ _ _ _ _ _ _ _ _ _ _ hF hkc hks (lv_sub hl [1] rfl) hP hD hS
theorem cw_X10_make : (Cond.instanceMethod yX10_make ∈ TB ∧ Cond.selects RX10 yX10_make yX10_make ∈ TB ∧ Cond.code yX10_make cX10_make 8 (some .int) ∈ TB ∧ Cond.initialized RX10 ∈ TB) ∧ (yX10_make.cls = RX10 ∧ yX10_make.cls ≠ "java/lang/invoke/MethodHandle" ∧ yX10_make.cls ≠ "java/lang/invoke/VarHandle" ∧ (parseMethodDescriptor yX10_make.desc).map (fun d => d.parameters.length) = some 1) := ⟨⟨mw44_16, mw44_17, mw44_18, mw1_2⟩, by decide +kernel⟩
