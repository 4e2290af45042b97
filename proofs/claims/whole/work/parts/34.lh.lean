abbrev xq (a b c d : Nat) : ExceptionTableEntry := { startPc := a, endPc := b, handlerPc := c, catchType := d }
noncomputable def FL_format (nf : Nat) (fi : FI) (ar : AR) (ln : LN) (fo : Nat → Int64) (p1 : Int32) (p2 : Int32) (p3 : Int32) (p4 : Int32) : Option ((Int32 × (Nat → Int64)) × FI × AR × LN × Nat × Nat) :=
  obnd6 (FX10_format nf fi ar ln (p1) (p2) (p3) (p4)) fun r1 fi1 ar1 ln1 kc1 ks1 => addc kc1 ks1 (sumc r1 (fun v1 => some (((0 : Int32), (vp_updL fo (0 : Int32).toNatClampNeg (((v1).toInt64)))), fi1, ar1, ln1, 0, 0)) (fun k1 => br (k1 = 2) (some (((1 : Int32), fo), fi1, ar1, ln1, 0, 0)) (none)))
set_option maxHeartbeats 8000000 in
set_option maxRecDepth 100000 in
theorem kL_format (l : Launch) (g : GT) (ad rd0 : Nat → Nat) (ou sz nf : Nat) (hlt : l.stackTraces = false) (fi : FI) (ar : AR) (ln : LN) (fo : Nat → Int64) (p1 : Int32) (p2 : Int32) (p3 : Int32) (p4 : Int32) (r : Int32 × (Nat → Int64)) (fi' : FI) (ar' : AR) (ln' : LN) (KC KS : Nat) (hF : FL_format nf fi ar ln fo p1 p2 p3 p4 = some (r, fi', ar', ln', KC, KS)) : Met l yL_format (Cond.codeWith yL_format cL_format 7 (some .int) [(0, 14, 17, 13)] :: TBX) ({ frames := 7, cells := KC, slots := KS, locals := 161 } : Room) (va_Pc [.ref (ad (0)), .int p1, .int p2, .int p3, .int p4, .ref ou] (PO g ad rd0 ln ou sz fi ar fo)) (QO g ad ou (AO ad rd0 ou sz) r fi' ar' ln') KC KS (AO ad rd0 ou sz) := by
  refine va_MetW (cc := cL_format) (maxL := 7) (ret := (some .int)) (hh := [(0, 14, 17, 13)]) (by decide) rfl ?_
  intro p e s m args below meth c s₁ B hml hv
  obtain ⟨rfl, hsz, hP, hK, hD0, hE, hEX, hNc⟩ := hv
  have hx := B.exec
  have hb := B.bytes
  have hr := B.returns
  have hts := atoms_spec (ws := (Cond.codeWith yL_format cL_format 7 (some .int) [(0, 14, 17, 13)] :: TBX)) B.pre
  have htab := vx_table (x := yL_format) B (hts _ List.mem_cons_self)
  have hTX : ∀ w ∈ TBX, w.before _ s = true := fun w h => hts w (List.mem_cons_of_mem _ h)
  have hT : ∀ w ∈ TB, w.before _ s = true := fun w h => hTX w (tbx0 w h)
  have hown : s.vm.findClass RL = some m.cls := findClass_of_methodNamed B.named
  have hlocks := B.notSynchronized
  subst hsz
  have hD := dO hD0 s.heap.size
  have hA : ∀ q : Nat, s.heap.size ≤ q → AO ad rd0 ou s.heap.size q := fun q h => Or.inr h
  have hS : va_S (AO ad rd0 ou s.heap.size) s.heap s.heap [] := va_S.rf
  have hl := lv_entry ([.ref (ad (0)), .int p1, .int p2, .int p3, .int p4, .ref ou]) (n := 7) (Nat.le_of_ble_eq_true rfl)
  rw [lg_entry_eq]
  generalize (lg_sl ([.ref (ad (0)), .int p1, .int p2, .int p3, .int p4, .ref ou]) ++ List.replicate (7 - (lg_sl ([.ref (ad (0)), .int p1, .int p2, .int p3, .int p4, .ref ou])).length) Slot.unset).toArray = ls at hl ⊢
  have hl : lv_has ls 7 [(0, .ref (ad (0))), (1, .int p1), (2, .int p2), (3, .int p3), (4, .int p4), (5, .ref ou)] := hl
  unfold FL_format at hF
  replace hF := obnd6_of hF
  obtain ⟨r1, fi1, ar1, ln1, kc1, ks1, h, hF⟩ := hF
  replace hF := addc_of hF
  obtain ⟨kc2, ks2, ec, es, hF⟩ := hF
  refine lv_aload hx hb dL_format_0 (lv_at hl 5 rfl) ?_
  refine lv_iconst (v := (0 : Int32)) hx hb dL_format_2 (by decide) ?_
  refine lv_aload_n hx hb dL_format_3 rfl (lv_at hl 0 rfl) ?_
  refine lv_iload_n hx hb dL_format_4 rfl (lv_at hl 1 rfl) ?_
  refine lv_iload_n hx hb dL_format_5 rfl (lv_at hl 2 rfl) ?_
  refine lv_iload_n hx hb dL_format_6 rfl (lv_at hl 3 rfl) ?_
  refine lv_iload hx hb dL_format_7 (lv_at hl 4 rfl) ?_
  refine cXO_i (As := [.int p1, .int p2, .int p3, .int p4]) (rest := [.int (0 : Int32), .ref ou]) hx hb hml hTX hown hK hE hEX hD hA hP hS (rcv_X10 hK hP.woc) (kX10_format l g ad rd0 _ nf hlt fi ar ln (p1) (p2) (p3) (p4) r1 fi1 ar1 ln1 kc1 ks1 h) cw_X10_format mw8_23 ⟨⟨rfl, rfl⟩, Nat.le_of_ble_eq_true rfl, Nat.le_of_ble_eq_true rfl⟩ rfl hl.1 rfl (Nat.le_of_ble_eq_true rfl) dL_format_9 ⟨by show _ ≤ KC; omega, by show _ ≤ KS; omega⟩ (fun k1 ce q9 rd H locs hk9 hP hD hS h1 h2 h3 => ?_) (fun v1 rd H locs hv9 hP hD hS => ?_)
  · subst hk9
    replace hF := sumc_r hF
    by_cases hk : k1 = 2
    · replace hF := br_yes hF hk
      subst hk
      refine vx_catch hown [] (xq 0 14 17 13) [] (by rw [htab]; rfl) (fun z hz => ?_) (by decide) (by decide) (hT _ mw8_22) (va_tabs rfl rfl hEX.2.2.2.1) h1 h2 h3 ?_
      · cases hz
      refine lv_astore (lv' := [(6, .ref q9), (0, .ref (ad (0))), (1, .int p1), (2, .int p2), (3, .int p3), (4, .int p4), (5, .ref ou)]) hx hb dL_format_17 hl (by decide) rfl (fun ls hl => ?_)
      refine lv_iconst (v := (1 : Int32)) hx hb dL_format_19 (by decide) ?_
      refine W.widen (k := KC) (n := KS) (by omega) (by omega) ?_
      exact rO hx hb hr hlocks hF hP hD hS dL_format_20
    · replace hF := br_no hF hk
      cases hF
  · subst hv9
    replace hF := sumc_l hF
    refine lv_i2l hx hb dL_format_12 rfl ?_
    refine va_last hx hb hK hP (hD _ _ _ _) hS 40 4 wo_at rfl (by unfold vp_in; decide) dL_format_13 (fun H locs hP _ hS => ?_)
    replace hP : va_P (gD g) vwCl (WO g ad rd ln1 ou fi1 ar1 (vp_updL fo (0 : Int32).toNatClampNeg (((v1).toInt64)))) H := hP
    refine lv_goto (tgt := 21) hx hb dL_format_14 (by decide) ?_
    refine lv_iconst (v := (0 : Int32)) hx hb dL_format_21 (by decide) ?_
    refine W.widen (k := KC) (n := KS) (by omega) (by omega) ?_
    exact rO hx hb hr hlocks hF hP hD hS dL_format_22
noncomputable def FL_items (nf : Nat) (fi : FI) (ar : AR) (ln : LN) (fo : Nat → Int64)  : Option ((Int32 × (Nat → Int64)) × FI × AR × LN × Nat × Nat) :=
  obnd6 (FX10_items nf fi ar ln) fun r1 fi1 ar1 ln1 kc1 ks1 => addc kc1 ks1 (sumc r1 (fun v1 => some (((0 : Int32), (vp_updL fo (0 : Int32).toNatClampNeg (((v1).toInt64)))), fi1, ar1, ln1, 0, 0)) (fun k1 => br (k1 = 0) (some (((1 : Int32), fo), fi1, ar1, ln1, 0, 0)) (none)))
set_option maxHeartbeats 8000000 in
set_option maxRecDepth 100000 in
theorem kL_items (l : Launch) (g : GT) (ad rd0 : Nat → Nat) (ou sz nf : Nat) (hlt : l.stackTraces = false) (fi : FI) (ar : AR) (ln : LN) (fo : Nat → Int64)  (r : Int32 × (Nat → Int64)) (fi' : FI) (ar' : AR) (ln' : LN) (KC KS : Nat) (hF : FL_items nf fi ar ln fo  = some (r, fi', ar', ln', KC, KS)) : Met l yL_items (Cond.codeWith yL_items cL_items 3 (some .int) [(0, 8, 11, 19)] :: TBX) ({ frames := 11, cells := KC, slots := KS, locals := 253 } : Room) (va_Pc [.ref (ad (0)), .ref ou] (PO g ad rd0 ln ou sz fi ar fo)) (QO g ad ou (AO ad rd0 ou sz) r fi' ar' ln') KC KS (AO ad rd0 ou sz) := by
  refine va_MetW (cc := cL_items) (maxL := 3) (ret := (some .int)) (hh := [(0, 8, 11, 19)]) (by decide) rfl ?_
  intro p e s m args below meth c s₁ B hml hv
  obtain ⟨rfl, hsz, hP, hK, hD0, hE, hEX, hNc⟩ := hv
  have hx := B.exec
  have hb := B.bytes
  have hr := B.returns
  have hts := atoms_spec (ws := (Cond.codeWith yL_items cL_items 3 (some .int) [(0, 8, 11, 19)] :: TBX)) B.pre
  have htab := vx_table (x := yL_items) B (hts _ List.mem_cons_self)
  have hTX : ∀ w ∈ TBX, w.before _ s = true := fun w h => hts w (List.mem_cons_of_mem _ h)
  have hT : ∀ w ∈ TB, w.before _ s = true := fun w h => hTX w (tbx0 w h)
  have hown : s.vm.findClass RL = some m.cls := findClass_of_methodNamed B.named
  have hlocks := B.notSynchronized
  subst hsz
  have hD := dO hD0 s.heap.size
  have hA : ∀ q : Nat, s.heap.size ≤ q → AO ad rd0 ou s.heap.size q := fun q h => Or.inr h
  have hS : va_S (AO ad rd0 ou s.heap.size) s.heap s.heap [] := va_S.rf
  have hl := lv_entry ([.ref (ad (0)), .ref ou]) (n := 3) (Nat.le_of_ble_eq_true rfl)
  rw [lg_entry_eq]
  generalize (lg_sl ([.ref (ad (0)), .ref ou]) ++ List.replicate (3 - (lg_sl ([.ref (ad (0)), .ref ou])).length) Slot.unset).toArray = ls at hl ⊢
  have hl : lv_has ls 3 [(0, .ref (ad (0))), (1, .ref ou)] := hl
  unfold FL_items at hF
  replace hF := obnd6_of hF
  obtain ⟨r1, fi1, ar1, ln1, kc1, ks1, h, hF⟩ := hF
  replace hF := addc_of hF
  obtain ⟨kc2, ks2, ec, es, hF⟩ := hF
  refine lv_aload_n hx hb dL_items_0 rfl (lv_at hl 1 rfl) ?_
  refine lv_iconst (v := (0 : Int32)) hx hb dL_items_1 (by decide) ?_
  refine lv_aload_n hx hb dL_items_2 rfl (lv_at hl 0 rfl) ?_
  refine cXO_i (As := []) (rest := [.int (0 : Int32), .ref ou]) hx hb hml hTX hown hK hE hEX hD hA hP hS (rcv_X10 hK hP.woc) (kX10_items l g ad rd0 _ nf hlt fi ar ln r1 fi1 ar1 ln1 kc1 ks1 h) cw_X10_items mw37_11 ⟨⟨rfl, rfl⟩, Nat.le_of_ble_eq_true rfl, Nat.le_of_ble_eq_true rfl⟩ rfl hl.1 rfl (Nat.le_of_ble_eq_true rfl) dL_items_3 ⟨by show _ ≤ KC; omega, by show _ ≤ KS; omega⟩ (fun k1 ce q9 rd H locs hk9 hP hD hS h1 h2 h3 => ?_) (fun v1 rd H locs hv9 hP hD hS => ?_)
  · subst hk9
    replace hF := sumc_r hF
    by_cases hk : k1 = 0
    · replace hF := br_yes hF hk
      subst hk
      refine vx_catch hown [] (xq 0 8 11 19) [] (by rw [htab]; rfl) (fun z hz => ?_) (by decide) (by decide) (hT _ mw37_10) (va_tabs rfl rfl hEX.2.1) h1 h2 h3 ?_
      · cases hz
      refine lv_astore_n (lv' := [(2, .ref q9), (0, .ref (ad (0))), (1, .ref ou)]) hx hb dL_items_11 rfl hl (by decide) rfl (fun ls hl => ?_)
      refine lv_iconst (v := (1 : Int32)) hx hb dL_items_12 (by decide) ?_
      refine W.widen (k := KC) (n := KS) (by omega) (by omega) ?_
      exact rO hx hb hr hlocks hF hP hD hS dL_items_13
    · replace hF := br_no hF hk
      cases hF
  · subst hv9
    replace hF := sumc_l hF
    refine lv_i2l hx hb dL_items_6 rfl ?_
    refine va_last hx hb hK hP (hD _ _ _ _) hS 40 4 wo_at rfl (by unfold vp_in; decide) dL_items_7 (fun H locs hP _ hS => ?_)
    replace hP : va_P (gD g) vwCl (WO g ad rd ln1 ou fi1 ar1 (vp_updL fo (0 : Int32).toNatClampNeg (((v1).toInt64)))) H := hP
    refine lv_goto (tgt := 14) hx hb dL_items_8 (by decide) ?_
    refine lv_iconst (v := (0 : Int32)) hx hb dL_items_14 (by decide) ?_
    refine W.widen (k := KC) (n := KS) (by omega) (by omega) ?_
    exact rO hx hb hr hlocks hF hP hD hS dL_items_15
noncomputable def FL_letter (nf : Nat) (fi : FI) (ar : AR) (ln : LN) (fo : Nat → Int64) (p1 : Int32) (p2 : Int32) : Option ((Int32 × (Nat → Int64)) × FI × AR × LN × Nat × Nat) :=
  obnd6 (FX10_letter nf fi ar ln (p1) (p2)) fun r1 fi1 ar1 ln1 kc1 ks1 => addc kc1 ks1 (sumc r1 (fun v1 => some (((0 : Int32), (vp_updL fo (0 : Int32).toNatClampNeg (((v1).toInt64)))), fi1, ar1, ln1, 0, 0)) (fun k1 => br (k1 = 0) (some (((1 : Int32), fo), fi1, ar1, ln1, 0, 0)) (br (k1 = 1) (some (((2 : Int32), fo), fi1, ar1, ln1, 0, 0)) (none))))
set_option maxHeartbeats 8000000 in
set_option maxRecDepth 100000 in
theorem kL_letter (l : Launch) (g : GT) (ad rd0 : Nat → Nat) (ou sz nf : Nat) (hlt : l.stackTraces = false) (fi : FI) (ar : AR) (ln : LN) (fo : Nat → Int64) (p1 : Int32) (p2 : Int32) (r : Int32 × (Nat → Int64)) (fi' : FI) (ar' : AR) (ln' : LN) (KC KS : Nat) (hF : FL_letter nf fi ar ln fo p1 p2 = some (r, fi', ar', ln', KC, KS)) : Met l yL_letter (Cond.codeWith yL_letter cL_letter 5 (some .int) [(0, 10, 13, 19), (0, 10, 17, 25)] :: TBX) ({ frames := 11, cells := KC, slots := KS, locals := 255 } : Room) (va_Pc [.ref (ad (0)), .int p1, .int p2, .ref ou] (PO g ad rd0 ln ou sz fi ar fo)) (QO g ad ou (AO ad rd0 ou sz) r fi' ar' ln') KC KS (AO ad rd0 ou sz) := by
  refine va_MetW (cc := cL_letter) (maxL := 5) (ret := (some .int)) (hh := [(0, 10, 13, 19), (0, 10, 17, 25)]) (by decide) rfl ?_
  intro p e s m args below meth c s₁ B hml hv
  obtain ⟨rfl, hsz, hP, hK, hD0, hE, hEX, hNc⟩ := hv
  have hx := B.exec
  have hb := B.bytes
  have hr := B.returns
  have hts := atoms_spec (ws := (Cond.codeWith yL_letter cL_letter 5 (some .int) [(0, 10, 13, 19), (0, 10, 17, 25)] :: TBX)) B.pre
  have htab := vx_table (x := yL_letter) B (hts _ List.mem_cons_self)
  have hTX : ∀ w ∈ TBX, w.before _ s = true := fun w h => hts w (List.mem_cons_of_mem _ h)
  have hT : ∀ w ∈ TB, w.before _ s = true := fun w h => hTX w (tbx0 w h)
  have hown : s.vm.findClass RL = some m.cls := findClass_of_methodNamed B.named
  have hlocks := B.notSynchronized
  subst hsz
  have hD := dO hD0 s.heap.size
  have hA : ∀ q : Nat, s.heap.size ≤ q → AO ad rd0 ou s.heap.size q := fun q h => Or.inr h
  have hS : va_S (AO ad rd0 ou s.heap.size) s.heap s.heap [] := va_S.rf
  have hl := lv_entry ([.ref (ad (0)), .int p1, .int p2, .ref ou]) (n := 5) (Nat.le_of_ble_eq_true rfl)
  rw [lg_entry_eq]
  generalize (lg_sl ([.ref (ad (0)), .int p1, .int p2, .ref ou]) ++ List.replicate (5 - (lg_sl ([.ref (ad (0)), .int p1, .int p2, .ref ou])).length) Slot.unset).toArray = ls at hl ⊢
  have hl : lv_has ls 5 [(0, .ref (ad (0))), (1, .int p1), (2, .int p2), (3, .ref ou)] := hl
  unfold FL_letter at hF
  replace hF := obnd6_of hF
  obtain ⟨r1, fi1, ar1, ln1, kc1, ks1, h, hF⟩ := hF
  replace hF := addc_of hF
  obtain ⟨kc2, ks2, ec, es, hF⟩ := hF
  refine lv_aload_n hx hb dL_letter_0 rfl (lv_at hl 3 rfl) ?_
  refine lv_iconst (v := (0 : Int32)) hx hb dL_letter_1 (by decide) ?_
  refine lv_aload_n hx hb dL_letter_2 rfl (lv_at hl 0 rfl) ?_
  refine lv_iload_n hx hb dL_letter_3 rfl (lv_at hl 1 rfl) ?_
  refine lv_iload_n hx hb dL_letter_4 rfl (lv_at hl 2 rfl) ?_
  refine cXO_i (As := [.int p1, .int p2]) (rest := [.int (0 : Int32), .ref ou]) hx hb hml hTX hown hK hE hEX hD hA hP hS (rcv_X10 hK hP.woc) (kX10_letter l g ad rd0 _ nf hlt fi ar ln (p1) (p2) r1 fi1 ar1 ln1 kc1 ks1 h) cw_X10_letter mw39_2 ⟨⟨rfl, rfl⟩, Nat.le_of_ble_eq_true rfl, Nat.le_of_ble_eq_true rfl⟩ rfl hl.1 rfl (Nat.le_of_ble_eq_true rfl) dL_letter_5 ⟨by show _ ≤ KC; omega, by show _ ≤ KS; omega⟩ (fun k1 ce q9 rd H locs hk9 hP hD hS h1 h2 h3 => ?_) (fun v1 rd H locs hv9 hP hD hS => ?_)
  · subst hk9
    replace hF := sumc_r hF
    by_cases hk : k1 = 0
    · replace hF := br_yes hF hk
      subst hk
      refine vx_catch hown [] (xq 0 10 13 19) [xq 0 10 17 25] (by rw [htab]; rfl) (fun z hz => ?_) (by decide) (by decide) (hT _ mw37_10) (va_tabs rfl rfl hEX.2.1) h1 h2 h3 ?_
      · cases hz
      refine lv_astore (lv' := [(4, .ref q9), (0, .ref (ad (0))), (1, .int p1), (2, .int p2), (3, .ref ou)]) hx hb dL_letter_13 hl (by decide) rfl (fun ls hl => ?_)
      refine lv_iconst (v := (1 : Int32)) hx hb dL_letter_15 (by decide) ?_
      refine W.widen (k := KC) (n := KS) (by omega) (by omega) ?_
      exact rO hx hb hr hlocks hF hP hD hS dL_letter_16
    · replace hF := br_no hF hk
      by_cases hk : k1 = 1
      · replace hF := br_yes hF hk
        subst hk
        refine vx_catch hown [xq 0 10 13 19] (xq 0 10 17 25) [] (by rw [htab]; rfl) (fun z hz => ?_) (by decide) (by decide) (hT _ mw39_1) (va_tabs rfl rfl hEX.2.2.1) h1 h2 h3 ?_
        · simp only [List.mem_cons, List.not_mem_nil, or_false] at hz
          rcases hz with rfl
          · exact Or.inr ⟨by decide, _, hT _ mw37_10, hNc 1 0 (by decide) (by decide) (by decide)⟩
        refine lv_astore (lv' := [(4, .ref q9), (0, .ref (ad (0))), (1, .int p1), (2, .int p2), (3, .ref ou)]) hx hb dL_letter_17 hl (by decide) rfl (fun ls hl => ?_)
        refine lv_iconst (v := (2 : Int32)) hx hb dL_letter_19 (by decide) ?_
        refine W.widen (k := KC) (n := KS) (by omega) (by omega) ?_
        exact rO hx hb hr hlocks hF hP hD hS dL_letter_20
      · replace hF := br_no hF hk
        cases hF
  · subst hv9
    replace hF := sumc_l hF
    refine lv_i2l hx hb dL_letter_8 rfl ?_
    refine va_last hx hb hK hP (hD _ _ _ _) hS 40 4 wo_at rfl (by unfold vp_in; decide) dL_letter_9 (fun H locs hP _ hS => ?_)
    replace hP : va_P (gD g) vwCl (WO g ad rd ln1 ou fi1 ar1 (vp_updL fo (0 : Int32).toNatClampNeg (((v1).toInt64)))) H := hP
    refine lv_goto (tgt := 21) hx hb dL_letter_10 (by decide) ?_
    refine lv_iconst (v := (0 : Int32)) hx hb dL_letter_21 (by decide) ?_
    refine W.widen (k := KC) (n := KS) (by omega) (by omega) ?_
    exact rO hx hb hr hlocks hF hP hD hS dL_letter_22
noncomputable def FL_about (nf : Nat) (fi : FI) (ar : AR) (ln : LN) (fo : Nat → Int64) (p1 : Int32) (p2 : Int32) : Option ((Int32 × (Nat → Int64)) × FI × AR × LN × Nat × Nat) :=
  obnd6 (FX10_about nf fi ar ln (p1) (p2)) fun r1 fi1 ar1 ln1 kc1 ks1 => addc kc1 ks1 (sumc r1 (fun v1 => some (((0 : Int32), (vp_updL fo (0 : Int32).toNatClampNeg (v1))), fi1, ar1, ln1, 0, 0)) (fun k1 => br (k1 = 0) (some (((1 : Int32), fo), fi1, ar1, ln1, 0, 0)) (br (k1 = 1) (some (((2 : Int32), fo), fi1, ar1, ln1, 0, 0)) (br (k1 = 2) (some (((3 : Int32), fo), fi1, ar1, ln1, 0, 0)) (none)))))
set_option maxHeartbeats 8000000 in
set_option maxRecDepth 100000 in
theorem kL_about (l : Launch) (g : GT) (ad rd0 : Nat → Nat) (ou sz nf : Nat) (hlt : l.stackTraces = false) (fi : FI) (ar : AR) (ln : LN) (fo : Nat → Int64) (p1 : Int32) (p2 : Int32) (r : Int32 × (Nat → Int64)) (fi' : FI) (ar' : AR) (ln' : LN) (KC KS : Nat) (hF : FL_about nf fi ar ln fo p1 p2 = some (r, fi', ar', ln', KC, KS)) : Met l yL_about (Cond.codeWith yL_about cL_about 5 (some .int) [(0, 9, 12, 19), (0, 9, 16, 25), (0, 9, 20, 13)] :: TBX) ({ frames := 11, cells := KC, slots := KS, locals := 256 } : Room) (va_Pc [.ref (ad (0)), .int p1, .int p2, .ref ou] (PO g ad rd0 ln ou sz fi ar fo)) (QO g ad ou (AO ad rd0 ou sz) r fi' ar' ln') KC KS (AO ad rd0 ou sz) := by
  refine va_MetW (cc := cL_about) (maxL := 5) (ret := (some .int)) (hh := [(0, 9, 12, 19), (0, 9, 16, 25), (0, 9, 20, 13)]) (by decide) rfl ?_
  intro p e s m args below meth c s₁ B hml hv
  obtain ⟨rfl, hsz, hP, hK, hD0, hE, hEX, hNc⟩ := hv
  have hx := B.exec
  have hb := B.bytes
  have hr := B.returns
  have hts := atoms_spec (ws := (Cond.codeWith yL_about cL_about 5 (some .int) [(0, 9, 12, 19), (0, 9, 16, 25), (0, 9, 20, 13)] :: TBX)) B.pre
  have htab := vx_table (x := yL_about) B (hts _ List.mem_cons_self)
  have hTX : ∀ w ∈ TBX, w.before _ s = true := fun w h => hts w (List.mem_cons_of_mem _ h)
  have hT : ∀ w ∈ TB, w.before _ s = true := fun w h => hTX w (tbx0 w h)
  have hown : s.vm.findClass RL = some m.cls := findClass_of_methodNamed B.named
  have hlocks := B.notSynchronized
  subst hsz
  have hD := dO hD0 s.heap.size
  have hA : ∀ q : Nat, s.heap.size ≤ q → AO ad rd0 ou s.heap.size q := fun q h => Or.inr h
  have hS : va_S (AO ad rd0 ou s.heap.size) s.heap s.heap [] := va_S.rf
  have hl := lv_entry ([.ref (ad (0)), .int p1, .int p2, .ref ou]) (n := 5) (Nat.le_of_ble_eq_true rfl)
  rw [lg_entry_eq]
  generalize (lg_sl ([.ref (ad (0)), .int p1, .int p2, .ref ou]) ++ List.replicate (5 - (lg_sl ([.ref (ad (0)), .int p1, .int p2, .ref ou])).length) Slot.unset).toArray = ls at hl ⊢
  have hl : lv_has ls 5 [(0, .ref (ad (0))), (1, .int p1), (2, .int p2), (3, .ref ou)] := hl
  unfold FL_about at hF
  replace hF := obnd6_of hF
  obtain ⟨r1, fi1, ar1, ln1, kc1, ks1, h, hF⟩ := hF
  replace hF := addc_of hF
  obtain ⟨kc2, ks2, ec, es, hF⟩ := hF
  refine lv_aload_n hx hb dL_about_0 rfl (lv_at hl 3 rfl) ?_
  refine lv_iconst (v := (0 : Int32)) hx hb dL_about_1 (by decide) ?_
  refine lv_aload_n hx hb dL_about_2 rfl (lv_at hl 0 rfl) ?_
  refine lv_iload_n hx hb dL_about_3 rfl (lv_at hl 1 rfl) ?_
  refine lv_iload_n hx hb dL_about_4 rfl (lv_at hl 2 rfl) ?_
  refine cXO_l (As := [.int p1, .int p2]) (rest := [.int (0 : Int32), .ref ou]) hx hb hml hTX hown hK hE hEX hD hA hP hS (rcv_X10 hK hP.woc) (kX10_about l g ad rd0 _ nf hlt fi ar ln (p1) (p2) r1 fi1 ar1 ln1 kc1 ks1 h) cw_X10_about mw40_21 ⟨⟨rfl, rfl⟩, Nat.le_of_ble_eq_true rfl, Nat.le_of_ble_eq_true rfl⟩ rfl hl.1 rfl (Nat.le_of_ble_eq_true rfl) dL_about_5 ⟨by show _ ≤ KC; omega, by show _ ≤ KS; omega⟩ (fun k1 ce q9 rd H locs hk9 hP hD hS h1 h2 h3 => ?_) (fun v1 rd H locs hv9 hP hD hS => ?_)
  · subst hk9
    replace hF := sumc_r hF
    by_cases hk : k1 = 0
    · replace hF := br_yes hF hk
      subst hk
      refine vx_catch hown [] (xq 0 9 12 19) [xq 0 9 16 25, xq 0 9 20 13] (by rw [htab]; rfl) (fun z hz => ?_) (by decide) (by decide) (hT _ mw37_10) (va_tabs rfl rfl hEX.2.1) h1 h2 h3 ?_
      · cases hz
      refine lv_astore (lv' := [(4, .ref q9), (0, .ref (ad (0))), (1, .int p1), (2, .int p2), (3, .ref ou)]) hx hb dL_about_12 hl (by decide) rfl (fun ls hl => ?_)
      refine lv_iconst (v := (1 : Int32)) hx hb dL_about_14 (by decide) ?_
      refine W.widen (k := KC) (n := KS) (by omega) (by omega) ?_
      exact rO hx hb hr hlocks hF hP hD hS dL_about_15
    · replace hF := br_no hF hk
      by_cases hk : k1 = 1
      · replace hF := br_yes hF hk
        subst hk
        refine vx_catch hown [xq 0 9 12 19] (xq 0 9 16 25) [xq 0 9 20 13] (by rw [htab]; rfl) (fun z hz => ?_) (by decide) (by decide) (hT _ mw39_1) (va_tabs rfl rfl hEX.2.2.1) h1 h2 h3 ?_
        · simp only [List.mem_cons, List.not_mem_nil, or_false] at hz
          rcases hz with rfl
          · exact Or.inr ⟨by decide, _, hT _ mw37_10, hNc 1 0 (by decide) (by decide) (by decide)⟩
        refine lv_astore (lv' := [(4, .ref q9), (0, .ref (ad (0))), (1, .int p1), (2, .int p2), (3, .ref ou)]) hx hb dL_about_16 hl (by decide) rfl (fun ls hl => ?_)
        refine lv_iconst (v := (2 : Int32)) hx hb dL_about_18 (by decide) ?_
        refine W.widen (k := KC) (n := KS) (by omega) (by omega) ?_
        exact rO hx hb hr hlocks hF hP hD hS dL_about_19
      · replace hF := br_no hF hk
        by_cases hk : k1 = 2
        · replace hF := br_yes hF hk
          subst hk
          refine vx_catch hown [xq 0 9 12 19, xq 0 9 16 25] (xq 0 9 20 13) [] (by rw [htab]; rfl) (fun z hz => ?_) (by decide) (by decide) (hT _ mw8_22) (va_tabs rfl rfl hEX.2.2.2.1) h1 h2 h3 ?_
          · simp only [List.mem_cons, List.not_mem_nil, or_false] at hz
            rcases hz with rfl | rfl
            · exact Or.inr ⟨by decide, _, hT _ mw37_10, hNc 2 0 (by decide) (by decide) (by decide)⟩
            · exact Or.inr ⟨by decide, _, hT _ mw39_1, hNc 2 1 (by decide) (by decide) (by decide)⟩
          refine lv_astore (lv' := [(4, .ref q9), (0, .ref (ad (0))), (1, .int p1), (2, .int p2), (3, .ref ou)]) hx hb dL_about_20 hl (by decide) rfl (fun ls hl => ?_)
          refine lv_iconst (v := (3 : Int32)) hx hb dL_about_22 (by decide) ?_
          refine W.widen (k := KC) (n := KS) (by omega) (by omega) ?_
          exact rO hx hb hr hlocks hF hP hD hS dL_about_23
        · replace hF := br_no hF hk
          cases hF
  · subst hv9
    replace hF := sumc_l hF
    refine va_last hx hb hK hP (hD _ _ _ _) hS 40 4 wo_at rfl (by unfold vp_in; decide) dL_about_8 (fun H locs hP _ hS => ?_)
    replace hP : va_P (gD g) vwCl (WO g ad rd ln1 ou fi1 ar1 (vp_updL fo (0 : Int32).toNatClampNeg (v1))) H := hP
    refine lv_goto (tgt := 24) hx hb dL_about_9 (by decide) ?_
    refine lv_iconst (v := (0 : Int32)) hx hb dL_about_24 (by decide) ?_
    refine W.widen (k := KC) (n := KS) (by omega) (by omega) ?_
    exact rO hx hb hr hlocks hF hP hD hS dL_about_25
noncomputable def FL_content (nf : Nat) (fi : FI) (ar : AR) (ln : LN) (fo : Nat → Int64) (p1 : Int32) (p2 : Int32) : Option ((Int32 × (Nat → Int64)) × FI × AR × LN × Nat × Nat) :=
  obnd6 (FX10_content nf fi ar ln (p1) (p2)) fun r1 fi1 ar1 ln1 kc1 ks1 => addc kc1 ks1 (sumc r1 (fun v1 => some (((0 : Int32), (vp_updL fo (0 : Int32).toNatClampNeg (((v1).toInt64)))), fi1, ar1, ln1, 0, 0)) (fun k1 => br (k1 = 0) (some (((1 : Int32), fo), fi1, ar1, ln1, 0, 0)) (br (k1 = 1) (some (((2 : Int32), fo), fi1, ar1, ln1, 0, 0)) (none))))
set_option maxHeartbeats 8000000 in
set_option maxRecDepth 100000 in
theorem kL_content (l : Launch) (g : GT) (ad rd0 : Nat → Nat) (ou sz nf : Nat) (hlt : l.stackTraces = false) (fi : FI) (ar : AR) (ln : LN) (fo : Nat → Int64) (p1 : Int32) (p2 : Int32) (r : Int32 × (Nat → Int64)) (fi' : FI) (ar' : AR) (ln' : LN) (KC KS : Nat) (hF : FL_content nf fi ar ln fo p1 p2 = some (r, fi', ar', ln', KC, KS)) : Met l yL_content (Cond.codeWith yL_content cL_content 5 (some .int) [(0, 10, 13, 19), (0, 10, 17, 25)] :: TBX) ({ frames := 11, cells := KC, slots := KS, locals := 257 } : Room) (va_Pc [.ref (ad (0)), .int p1, .int p2, .ref ou] (PO g ad rd0 ln ou sz fi ar fo)) (QO g ad ou (AO ad rd0 ou sz) r fi' ar' ln') KC KS (AO ad rd0 ou sz) := by
  refine va_MetW (cc := cL_content) (maxL := 5) (ret := (some .int)) (hh := [(0, 10, 13, 19), (0, 10, 17, 25)]) (by decide) rfl ?_
  intro p e s m args below meth c s₁ B hml hv
  obtain ⟨rfl, hsz, hP, hK, hD0, hE, hEX, hNc⟩ := hv
  have hx := B.exec
  have hb := B.bytes
  have hr := B.returns
  have hts := atoms_spec (ws := (Cond.codeWith yL_content cL_content 5 (some .int) [(0, 10, 13, 19), (0, 10, 17, 25)] :: TBX)) B.pre
  have htab := vx_table (x := yL_content) B (hts _ List.mem_cons_self)
  have hTX : ∀ w ∈ TBX, w.before _ s = true := fun w h => hts w (List.mem_cons_of_mem _ h)
  have hT : ∀ w ∈ TB, w.before _ s = true := fun w h => hTX w (tbx0 w h)
  have hown : s.vm.findClass RL = some m.cls := findClass_of_methodNamed B.named
  have hlocks := B.notSynchronized
  subst hsz
  have hD := dO hD0 s.heap.size
  have hA : ∀ q : Nat, s.heap.size ≤ q → AO ad rd0 ou s.heap.size q := fun q h => Or.inr h
  have hS : va_S (AO ad rd0 ou s.heap.size) s.heap s.heap [] := va_S.rf
  have hl := lv_entry ([.ref (ad (0)), .int p1, .int p2, .ref ou]) (n := 5) (Nat.le_of_ble_eq_true rfl)
  rw [lg_entry_eq]
  generalize (lg_sl ([.ref (ad (0)), .int p1, .int p2, .ref ou]) ++ List.replicate (5 - (lg_sl ([.ref (ad (0)), .int p1, .int p2, .ref ou])).length) Slot.unset).toArray = ls at hl ⊢
  have hl : lv_has ls 5 [(0, .ref (ad (0))), (1, .int p1), (2, .int p2), (3, .ref ou)] := hl
  unfold FL_content at hF
  replace hF := obnd6_of hF
  obtain ⟨r1, fi1, ar1, ln1, kc1, ks1, h, hF⟩ := hF
  replace hF := addc_of hF
  obtain ⟨kc2, ks2, ec, es, hF⟩ := hF
  refine lv_aload_n hx hb dL_content_0 rfl (lv_at hl 3 rfl) ?_
  refine lv_iconst (v := (0 : Int32)) hx hb dL_content_1 (by decide) ?_
  refine lv_aload_n hx hb dL_content_2 rfl (lv_at hl 0 rfl) ?_
  refine lv_iload_n hx hb dL_content_3 rfl (lv_at hl 1 rfl) ?_
  refine lv_iload_n hx hb dL_content_4 rfl (lv_at hl 2 rfl) ?_
  refine cXO_i (As := [.int p1, .int p2]) (rest := [.int (0 : Int32), .ref ou]) hx hb hml hTX hown hK hE hEX hD hA hP hS (rcv_X10 hK hP.woc) (kX10_content l g ad rd0 _ nf hlt fi ar ln (p1) (p2) r1 fi1 ar1 ln1 kc1 ks1 h) cw_X10_content mw42_18 ⟨⟨rfl, rfl⟩, Nat.le_of_ble_eq_true rfl, Nat.le_of_ble_eq_true rfl⟩ rfl hl.1 rfl (Nat.le_of_ble_eq_true rfl) dL_content_5 ⟨by show _ ≤ KC; omega, by show _ ≤ KS; omega⟩ (fun k1 ce q9 rd H locs hk9 hP hD hS h1 h2 h3 => ?_) (fun v1 rd H locs hv9 hP hD hS => ?_)
  · subst hk9
    replace hF := sumc_r hF
    by_cases hk : k1 = 0
    · replace hF := br_yes hF hk
      subst hk
      refine vx_catch hown [] (xq 0 10 13 19) [xq 0 10 17 25] (by rw [htab]; rfl) (fun z hz => ?_) (by decide) (by decide) (hT _ mw37_10) (va_tabs rfl rfl hEX.2.1) h1 h2 h3 ?_
      · cases hz
      refine lv_astore (lv' := [(4, .ref q9), (0, .ref (ad (0))), (1, .int p1), (2, .int p2), (3, .ref ou)]) hx hb dL_content_13 hl (by decide) rfl (fun ls hl => ?_)
      refine lv_iconst (v := (1 : Int32)) hx hb dL_content_15 (by decide) ?_
      refine W.widen (k := KC) (n := KS) (by omega) (by omega) ?_
      exact rO hx hb hr hlocks hF hP hD hS dL_content_16
    · replace hF := br_no hF hk
      by_cases hk : k1 = 1
      · replace hF := br_yes hF hk
        subst hk
        refine vx_catch hown [xq 0 10 13 19] (xq 0 10 17 25) [] (by rw [htab]; rfl) (fun z hz => ?_) (by decide) (by decide) (hT _ mw39_1) (va_tabs rfl rfl hEX.2.2.1) h1 h2 h3 ?_
        · simp only [List.mem_cons, List.not_mem_nil, or_false] at hz
          rcases hz with rfl
          · exact Or.inr ⟨by decide, _, hT _ mw37_10, hNc 1 0 (by decide) (by decide) (by decide)⟩
        refine lv_astore (lv' := [(4, .ref q9), (0, .ref (ad (0))), (1, .int p1), (2, .int p2), (3, .ref ou)]) hx hb dL_content_17 hl (by decide) rfl (fun ls hl => ?_)
        refine lv_iconst (v := (2 : Int32)) hx hb dL_content_19 (by decide) ?_
        refine W.widen (k := KC) (n := KS) (by omega) (by omega) ?_
        exact rO hx hb hr hlocks hF hP hD hS dL_content_20
      · replace hF := br_no hF hk
        cases hF
  · subst hv9
    replace hF := sumc_l hF
    refine lv_i2l hx hb dL_content_8 rfl ?_
    refine va_last hx hb hK hP (hD _ _ _ _) hS 40 4 wo_at rfl (by unfold vp_in; decide) dL_content_9 (fun H locs hP _ hS => ?_)
    replace hP : va_P (gD g) vwCl (WO g ad rd ln1 ou fi1 ar1 (vp_updL fo (0 : Int32).toNatClampNeg (((v1).toInt64)))) H := hP
    refine lv_goto (tgt := 21) hx hb dL_content_10 (by decide) ?_
    refine lv_iconst (v := (0 : Int32)) hx hb dL_content_21 (by decide) ?_
    refine W.widen (k := KC) (n := KS) (by omega) (by omega) ?_
    exact rO hx hb hr hlocks hF hP hD hS dL_content_22
noncomputable def FL_enter (nf : Nat) (fi : FI) (ar : AR) (ln : LN) (fo : Nat → Int64) (p1 : Int32) : Option ((Int32 × (Nat → Int64)) × FI × AR × LN × Nat × Nat) :=
  obnd6 (FX10_enter nf fi ar ln (p1)) fun r1 fi1 ar1 ln1 kc1 ks1 => addc kc1 ks1 (sumc r1 (fun v1 => some (((0 : Int32), (vp_updL fo (0 : Int32).toNatClampNeg (((v1).toInt64)))), fi1, ar1, ln1, 0, 0)) (fun k1 => br (k1 = 0) (some (((1 : Int32), fo), fi1, ar1, ln1, 0, 0)) (br (k1 = 1) (some (((2 : Int32), fo), fi1, ar1, ln1, 0, 0)) (br (k1 = 2) (some (((3 : Int32), fo), fi1, ar1, ln1, 0, 0)) (none)))))
set_option maxHeartbeats 8000000 in
set_option maxRecDepth 100000 in
theorem kL_enter (l : Launch) (g : GT) (ad rd0 : Nat → Nat) (ou sz nf : Nat) (hlt : l.stackTraces = false) (fi : FI) (ar : AR) (ln : LN) (fo : Nat → Int64) (p1 : Int32) (r : Int32 × (Nat → Int64)) (fi' : FI) (ar' : AR) (ln' : LN) (KC KS : Nat) (hF : FL_enter nf fi ar ln fo p1 = some (r, fi', ar', ln', KC, KS)) : Met l yL_enter (Cond.codeWith yL_enter cL_enter 4 (some .int) [(0, 9, 12, 19), (0, 9, 15, 25), (0, 9, 18, 13)] :: TBX) ({ frames := 11, cells := KC, slots := KS, locals := 255 } : Room) (va_Pc [.ref (ad (0)), .int p1, .ref ou] (PO g ad rd0 ln ou sz fi ar fo)) (QO g ad ou (AO ad rd0 ou sz) r fi' ar' ln') KC KS (AO ad rd0 ou sz) := by
  refine va_MetW (cc := cL_enter) (maxL := 4) (ret := (some .int)) (hh := [(0, 9, 12, 19), (0, 9, 15, 25), (0, 9, 18, 13)]) (by decide) rfl ?_
  intro p e s m args below meth c s₁ B hml hv
  obtain ⟨rfl, hsz, hP, hK, hD0, hE, hEX, hNc⟩ := hv
  have hx := B.exec
  have hb := B.bytes
  have hr := B.returns
  have hts := atoms_spec (ws := (Cond.codeWith yL_enter cL_enter 4 (some .int) [(0, 9, 12, 19), (0, 9, 15, 25), (0, 9, 18, 13)] :: TBX)) B.pre
  have htab := vx_table (x := yL_enter) B (hts _ List.mem_cons_self)
  have hTX : ∀ w ∈ TBX, w.before _ s = true := fun w h => hts w (List.mem_cons_of_mem _ h)
  have hT : ∀ w ∈ TB, w.before _ s = true := fun w h => hTX w (tbx0 w h)
  have hown : s.vm.findClass RL = some m.cls := findClass_of_methodNamed B.named
  have hlocks := B.notSynchronized
  subst hsz
  have hD := dO hD0 s.heap.size
  have hA : ∀ q : Nat, s.heap.size ≤ q → AO ad rd0 ou s.heap.size q := fun q h => Or.inr h
  have hS : va_S (AO ad rd0 ou s.heap.size) s.heap s.heap [] := va_S.rf
  have hl := lv_entry ([.ref (ad (0)), .int p1, .ref ou]) (n := 4) (Nat.le_of_ble_eq_true rfl)
  rw [lg_entry_eq]
  generalize (lg_sl ([.ref (ad (0)), .int p1, .ref ou]) ++ List.replicate (4 - (lg_sl ([.ref (ad (0)), .int p1, .ref ou])).length) Slot.unset).toArray = ls at hl ⊢
  have hl : lv_has ls 4 [(0, .ref (ad (0))), (1, .int p1), (2, .ref ou)] := hl
  unfold FL_enter at hF
  replace hF := obnd6_of hF
  obtain ⟨r1, fi1, ar1, ln1, kc1, ks1, h, hF⟩ := hF
  replace hF := addc_of hF
  obtain ⟨kc2, ks2, ec, es, hF⟩ := hF
  refine lv_aload_n hx hb dL_enter_0 rfl (lv_at hl 2 rfl) ?_
  refine lv_iconst (v := (0 : Int32)) hx hb dL_enter_1 (by decide) ?_
  refine lv_aload_n hx hb dL_enter_2 rfl (lv_at hl 0 rfl) ?_
  refine lv_iload_n hx hb dL_enter_3 rfl (lv_at hl 1 rfl) ?_
  refine cXO_i (As := [.int p1]) (rest := [.int (0 : Int32), .ref ou]) hx hb hml hTX hown hK hE hEX hD hA hP hS (rcv_X10 hK hP.woc) (kX10_enter l g ad rd0 _ nf hlt fi ar ln (p1) r1 fi1 ar1 ln1 kc1 ks1 h) cw_X10_enter mw43_16 ⟨⟨rfl, rfl⟩, Nat.le_of_ble_eq_true rfl, Nat.le_of_ble_eq_true rfl⟩ rfl hl.1 rfl (Nat.le_of_ble_eq_true rfl) dL_enter_4 ⟨by show _ ≤ KC; omega, by show _ ≤ KS; omega⟩ (fun k1 ce q9 rd H locs hk9 hP hD hS h1 h2 h3 => ?_) (fun v1 rd H locs hv9 hP hD hS => ?_)
  · subst hk9
    replace hF := sumc_r hF
    by_cases hk : k1 = 0
    · replace hF := br_yes hF hk
      subst hk
      refine vx_catch hown [] (xq 0 9 12 19) [xq 0 9 15 25, xq 0 9 18 13] (by rw [htab]; rfl) (fun z hz => ?_) (by decide) (by decide) (hT _ mw37_10) (va_tabs rfl rfl hEX.2.1) h1 h2 h3 ?_
      · cases hz
      refine lv_astore_n (lv' := [(3, .ref q9), (0, .ref (ad (0))), (1, .int p1), (2, .ref ou)]) hx hb dL_enter_12 rfl hl (by decide) rfl (fun ls hl => ?_)
      refine lv_iconst (v := (1 : Int32)) hx hb dL_enter_13 (by decide) ?_
      refine W.widen (k := KC) (n := KS) (by omega) (by omega) ?_
      exact rO hx hb hr hlocks hF hP hD hS dL_enter_14
    · replace hF := br_no hF hk
      by_cases hk : k1 = 1
      · replace hF := br_yes hF hk
        subst hk
        refine vx_catch hown [xq 0 9 12 19] (xq 0 9 15 25) [xq 0 9 18 13] (by rw [htab]; rfl) (fun z hz => ?_) (by decide) (by decide) (hT _ mw39_1) (va_tabs rfl rfl hEX.2.2.1) h1 h2 h3 ?_
        · simp only [List.mem_cons, List.not_mem_nil, or_false] at hz
          rcases hz with rfl
          · exact Or.inr ⟨by decide, _, hT _ mw37_10, hNc 1 0 (by decide) (by decide) (by decide)⟩
        refine lv_astore_n (lv' := [(3, .ref q9), (0, .ref (ad (0))), (1, .int p1), (2, .ref ou)]) hx hb dL_enter_15 rfl hl (by decide) rfl (fun ls hl => ?_)
        refine lv_iconst (v := (2 : Int32)) hx hb dL_enter_16 (by decide) ?_
        refine W.widen (k := KC) (n := KS) (by omega) (by omega) ?_
        exact rO hx hb hr hlocks hF hP hD hS dL_enter_17
      · replace hF := br_no hF hk
        by_cases hk : k1 = 2
        · replace hF := br_yes hF hk
          subst hk
          refine vx_catch hown [xq 0 9 12 19, xq 0 9 15 25] (xq 0 9 18 13) [] (by rw [htab]; rfl) (fun z hz => ?_) (by decide) (by decide) (hT _ mw8_22) (va_tabs rfl rfl hEX.2.2.2.1) h1 h2 h3 ?_
          · simp only [List.mem_cons, List.not_mem_nil, or_false] at hz
            rcases hz with rfl | rfl
            · exact Or.inr ⟨by decide, _, hT _ mw37_10, hNc 2 0 (by decide) (by decide) (by decide)⟩
            · exact Or.inr ⟨by decide, _, hT _ mw39_1, hNc 2 1 (by decide) (by decide) (by decide)⟩
          refine lv_astore_n (lv' := [(3, .ref q9), (0, .ref (ad (0))), (1, .int p1), (2, .ref ou)]) hx hb dL_enter_18 rfl hl (by decide) rfl (fun ls hl => ?_)
          refine lv_iconst (v := (3 : Int32)) hx hb dL_enter_19 (by decide) ?_
          refine W.widen (k := KC) (n := KS) (by omega) (by omega) ?_
          exact rO hx hb hr hlocks hF hP hD hS dL_enter_20
        · replace hF := br_no hF hk
          cases hF
  · subst hv9
    replace hF := sumc_l hF
    refine lv_i2l hx hb dL_enter_7 rfl ?_
    refine va_last hx hb hK hP (hD _ _ _ _) hS 40 4 wo_at rfl (by unfold vp_in; decide) dL_enter_8 (fun H locs hP _ hS => ?_)
    replace hP : va_P (gD g) vwCl (WO g ad rd ln1 ou fi1 ar1 (vp_updL fo (0 : Int32).toNatClampNeg (((v1).toInt64)))) H := hP
    refine lv_goto (tgt := 21) hx hb dL_enter_9 (by decide) ?_
    refine lv_iconst (v := (0 : Int32)) hx hb dL_enter_21 (by decide) ?_
    refine W.widen (k := KC) (n := KS) (by omega) (by omega) ?_
    exact rO hx hb hr hlocks hF hP hD hS dL_enter_22
noncomputable def FL_up (nf : Nat) (fi : FI) (ar : AR) (ln : LN) (fo : Nat → Int64)  : Option ((Int32 × (Nat → Int64)) × FI × AR × LN × Nat × Nat) :=
  obnd6 (FX10_up nf fi ar ln) fun r1 fi1 ar1 ln1 kc1 ks1 => addc kc1 ks1 (sumc r1 (fun v1 => br ((v1) = 0) (some (((0 : Int32), (vp_updL fo (0 : Int32).toNatClampNeg ((0 : Int64)))), fi1, ar1, ln1, 0, 0)) (some (((0 : Int32), (vp_updL fo (0 : Int32).toNatClampNeg ((1 : Int64)))), fi1, ar1, ln1, 0, 0))) (fun k1 => br (k1 = 0) (some (((1 : Int32), fo), fi1, ar1, ln1, 0, 0)) (none)))
set_option maxHeartbeats 8000000 in
set_option maxRecDepth 100000 in
theorem kL_up (l : Launch) (g : GT) (ad rd0 : Nat → Nat) (ou sz nf : Nat) (hlt : l.stackTraces = false) (fi : FI) (ar : AR) (ln : LN) (fo : Nat → Int64)  (r : Int32 × (Nat → Int64)) (fi' : FI) (ar' : AR) (ln' : LN) (KC KS : Nat) (hF : FL_up nf fi ar ln fo  = some (r, fi', ar', ln', KC, KS)) : Met l yL_up (Cond.codeWith yL_up cL_up 3 (some .int) [(0, 15, 18, 19)] :: TBX) ({ frames := 11, cells := KC, slots := KS, locals := 253 } : Room) (va_Pc [.ref (ad (0)), .ref ou] (PO g ad rd0 ln ou sz fi ar fo)) (QO g ad ou (AO ad rd0 ou sz) r fi' ar' ln') KC KS (AO ad rd0 ou sz) := by
  refine va_MetW (cc := cL_up) (maxL := 3) (ret := (some .int)) (hh := [(0, 15, 18, 19)]) (by decide) rfl ?_
  intro p e s m args below meth c s₁ B hml hv
  obtain ⟨rfl, hsz, hP, hK, hD0, hE, hEX, hNc⟩ := hv
  have hx := B.exec
  have hb := B.bytes
  have hr := B.returns
  have hts := atoms_spec (ws := (Cond.codeWith yL_up cL_up 3 (some .int) [(0, 15, 18, 19)] :: TBX)) B.pre
  have htab := vx_table (x := yL_up) B (hts _ List.mem_cons_self)
  have hTX : ∀ w ∈ TBX, w.before _ s = true := fun w h => hts w (List.mem_cons_of_mem _ h)
  have hT : ∀ w ∈ TB, w.before _ s = true := fun w h => hTX w (tbx0 w h)
  have hown : s.vm.findClass RL = some m.cls := findClass_of_methodNamed B.named
  have hlocks := B.notSynchronized
  subst hsz
  have hD := dO hD0 s.heap.size
  have hA : ∀ q : Nat, s.heap.size ≤ q → AO ad rd0 ou s.heap.size q := fun q h => Or.inr h
  have hS : va_S (AO ad rd0 ou s.heap.size) s.heap s.heap [] := va_S.rf
  have hl := lv_entry ([.ref (ad (0)), .ref ou]) (n := 3) (Nat.le_of_ble_eq_true rfl)
  rw [lg_entry_eq]
  generalize (lg_sl ([.ref (ad (0)), .ref ou]) ++ List.replicate (3 - (lg_sl ([.ref (ad (0)), .ref ou])).length) Slot.unset).toArray = ls at hl ⊢
  have hl : lv_has ls 3 [(0, .ref (ad (0))), (1, .ref ou)] := hl
  unfold FL_up at hF
  replace hF := obnd6_of hF
  obtain ⟨r1, fi1, ar1, ln1, kc1, ks1, h, hF⟩ := hF
  replace hF := addc_of hF
  obtain ⟨kc2, ks2, ec, es, hF⟩ := hF
  refine lv_aload_n hx hb dL_up_0 rfl (lv_at hl 1 rfl) ?_
  refine lv_iconst (v := (0 : Int32)) hx hb dL_up_1 (by decide) ?_
  refine lv_aload_n hx hb dL_up_2 rfl (lv_at hl 0 rfl) ?_
  refine cXO_i (As := []) (rest := [.int (0 : Int32), .ref ou]) hx hb hml hTX hown hK hE hEX hD hA hP hS (rcv_X10 hK hP.woc) (kX10_up l g ad rd0 _ nf hlt fi ar ln r1 fi1 ar1 ln1 kc1 ks1 h) cw_X10_up mw44_3 ⟨⟨rfl, rfl⟩, Nat.le_of_ble_eq_true rfl, Nat.le_of_ble_eq_true rfl⟩ rfl hl.1 rfl (Nat.le_of_ble_eq_true rfl) dL_up_3 ⟨by show _ ≤ KC; omega, by show _ ≤ KS; omega⟩ (fun k1 ce q9 rd H locs hk9 hP hD hS h1 h2 h3 => ?_) (fun v1 rd H locs hv9 hP hD hS => ?_)
  · subst hk9
    replace hF := sumc_r hF
    by_cases hk : k1 = 0
    · replace hF := br_yes hF hk
      subst hk
      refine vx_catch hown [] (xq 0 15 18 19) [] (by rw [htab]; rfl) (fun z hz => ?_) (by decide) (by decide) (hT _ mw37_10) (va_tabs rfl rfl hEX.2.1) h1 h2 h3 ?_
      · cases hz
      refine lv_astore_n (lv' := [(2, .ref q9), (0, .ref (ad (0))), (1, .ref ou)]) hx hb dL_up_18 rfl hl (by decide) rfl (fun ls hl => ?_)
      refine lv_iconst (v := (1 : Int32)) hx hb dL_up_19 (by decide) ?_
      refine W.widen (k := KC) (n := KS) (by omega) (by omega) ?_
      exact rO hx hb hr hlocks hF hP hD hS dL_up_20
    · replace hF := br_no hF hk
      cases hF
  · subst hv9
    replace hF := sumc_l hF
    refine lv_if_eq (tgt := 13) hx hb dL_up_6 (by decide) (fun hc => ?_) (fun hc => ?_)
    · replace hF := br_yes hF hc
      refine lv_lconst (v := (0 : Int64)) hx hb dL_up_13 (by decide) ?_
      refine va_last hx hb hK hP (hD _ _ _ _) hS 40 4 wo_at rfl (by unfold vp_in; decide) dL_up_14 (fun H locs hP _ hS => ?_)
      replace hP : va_P (gD g) vwCl (WO g ad rd ln1 ou fi1 ar1 (vp_updL fo (0 : Int32).toNatClampNeg ((0 : Int64)))) H := hP
      refine lv_goto (tgt := 21) hx hb dL_up_15 (by decide) ?_
      refine lv_iconst (v := (0 : Int32)) hx hb dL_up_21 (by decide) ?_
      refine W.widen (k := KC) (n := KS) (by omega) (by omega) ?_
      exact rO hx hb hr hlocks hF hP hD hS dL_up_22
    · replace hF := br_no hF hc
      refine lv_lconst (v := (1 : Int64)) hx hb dL_up_9 (by decide) ?_
      refine lv_goto (tgt := 14) hx hb dL_up_10 (by decide) ?_
      refine va_last hx hb hK hP (hD _ _ _ _) hS 40 4 wo_at rfl (by unfold vp_in; decide) dL_up_14 (fun H locs hP _ hS => ?_)
      replace hP : va_P (gD g) vwCl (WO g ad rd ln1 ou fi1 ar1 (vp_updL fo (0 : Int32).toNatClampNeg ((1 : Int64)))) H := hP
      refine lv_goto (tgt := 21) hx hb dL_up_15 (by decide) ?_
      refine lv_iconst (v := (0 : Int32)) hx hb dL_up_21 (by decide) ?_
      refine W.widen (k := KC) (n := KS) (by omega) (by omega) ?_
      exact rO hx hb hr hlocks hF hP hD hS dL_up_22
noncomputable def FL_make (nf : Nat) (fi : FI) (ar : AR) (ln : LN) (fo : Nat → Int64) (p1 : Int32) : Option ((Int32 × (Nat → Int64)) × FI × AR × LN × Nat × Nat) :=
  obnd6 (FX10_make nf fi ar ln (p1)) fun r1 fi1 ar1 ln1 kc1 ks1 => addc kc1 ks1 (sumc r1 (fun v1 => some (((0 : Int32), (vp_updL fo (0 : Int32).toNatClampNeg (((v1).toInt64)))), fi1, ar1, ln1, 0, 0)) (fun k1 => br (k1 = 0) (some (((1 : Int32), fo), fi1, ar1, ln1, 0, 0)) (br (k1 = 2) (some (((2 : Int32), fo), fi1, ar1, ln1, 0, 0)) (br (k1 = 3) (some (((3 : Int32), fo), fi1, ar1, ln1, 0, 0)) (none)))))
set_option maxHeartbeats 8000000 in
set_option maxRecDepth 100000 in
theorem kL_make (l : Launch) (g : GT) (ad rd0 : Nat → Nat) (ou sz nf : Nat) (hlt : l.stackTraces = false) (fi : FI) (ar : AR) (ln : LN) (fo : Nat → Int64) (p1 : Int32) (r : Int32 × (Nat → Int64)) (fi' : FI) (ar' : AR) (ln' : LN) (KC KS : Nat) (hF : FL_make nf fi ar ln fo p1 = some (r, fi', ar', ln', KC, KS)) : Met l yL_make (Cond.codeWith yL_make cL_make 4 (some .int) [(0, 9, 12, 19), (0, 9, 15, 13), (0, 9, 18, 46)] :: TBX) ({ frames := 11, cells := KC, slots := KS, locals := 260 } : Room) (va_Pc [.ref (ad (0)), .int p1, .ref ou] (PO g ad rd0 ln ou sz fi ar fo)) (QO g ad ou (AO ad rd0 ou sz) r fi' ar' ln') KC KS (AO ad rd0 ou sz) := by
  refine va_MetW (cc := cL_make) (maxL := 4) (ret := (some .int)) (hh := [(0, 9, 12, 19), (0, 9, 15, 13), (0, 9, 18, 46)]) (by decide) rfl ?_
  intro p e s m args below meth c s₁ B hml hv
  obtain ⟨rfl, hsz, hP, hK, hD0, hE, hEX, hNc⟩ := hv
  have hx := B.exec
  have hb := B.bytes
  have hr := B.returns
  have hts := atoms_spec (ws := (Cond.codeWith yL_make cL_make 4 (some .int) [(0, 9, 12, 19), (0, 9, 15, 13), (0, 9, 18, 46)] :: TBX)) B.pre
  have htab := vx_table (x := yL_make) B (hts _ List.mem_cons_self)
  have hTX : ∀ w ∈ TBX, w.before _ s = true := fun w h => hts w (List.mem_cons_of_mem _ h)
  have hT : ∀ w ∈ TB, w.before _ s = true := fun w h => hTX w (tbx0 w h)
  have hown : s.vm.findClass RL = some m.cls := findClass_of_methodNamed B.named
  have hlocks := B.notSynchronized
  subst hsz
  have hD := dO hD0 s.heap.size
  have hA : ∀ q : Nat, s.heap.size ≤ q → AO ad rd0 ou s.heap.size q := fun q h => Or.inr h
  have hS : va_S (AO ad rd0 ou s.heap.size) s.heap s.heap [] := va_S.rf
  have hl := lv_entry ([.ref (ad (0)), .int p1, .ref ou]) (n := 4) (Nat.le_of_ble_eq_true rfl)
  rw [lg_entry_eq]
  generalize (lg_sl ([.ref (ad (0)), .int p1, .ref ou]) ++ List.replicate (4 - (lg_sl ([.ref (ad (0)), .int p1, .ref ou])).length) Slot.unset).toArray = ls at hl ⊢
  have hl : lv_has ls 4 [(0, .ref (ad (0))), (1, .int p1), (2, .ref ou)] := hl
  unfold FL_make at hF
  replace hF := obnd6_of hF
  obtain ⟨r1, fi1, ar1, ln1, kc1, ks1, h, hF⟩ := hF
  replace hF := addc_of hF
  obtain ⟨kc2, ks2, ec, es, hF⟩ := hF
  refine lv_aload_n hx hb dL_make_0 rfl (lv_at hl 2 rfl) ?_
  refine lv_iconst (v := (0 : Int32)) hx hb dL_make_1 (by decide) ?_
  refine lv_aload_n hx hb dL_make_2 rfl (lv_at hl 0 rfl) ?_
  refine lv_iload_n hx hb dL_make_3 rfl (lv_at hl 1 rfl) ?_
  refine cXO_i (As := [.int p1]) (rest := [.int (0 : Int32), .ref ou]) hx hb hml hTX hown hK hE hEX hD hA hP hS (rcv_X10 hK hP.woc) (kX10_make l g ad rd0 _ nf hlt fi ar ln (p1) r1 fi1 ar1 ln1 kc1 ks1 h) cw_X10_make mw44_15 ⟨⟨rfl, rfl⟩, Nat.le_of_ble_eq_true rfl, Nat.le_of_ble_eq_true rfl⟩ rfl hl.1 rfl (Nat.le_of_ble_eq_true rfl) dL_make_4 ⟨by show _ ≤ KC; omega, by show _ ≤ KS; omega⟩ (fun k1 ce q9 rd H locs hk9 hP hD hS h1 h2 h3 => ?_) (fun v1 rd H locs hv9 hP hD hS => ?_)
  · subst hk9
    replace hF := sumc_r hF
    by_cases hk : k1 = 0
    · replace hF := br_yes hF hk
      subst hk
      refine vx_catch hown [] (xq 0 9 12 19) [xq 0 9 15 13, xq 0 9 18 46] (by rw [htab]; rfl) (fun z hz => ?_) (by decide) (by decide) (hT _ mw37_10) (va_tabs rfl rfl hEX.2.1) h1 h2 h3 ?_
      · cases hz
      refine lv_astore_n (lv' := [(3, .ref q9), (0, .ref (ad (0))), (1, .int p1), (2, .ref ou)]) hx hb dL_make_12 rfl hl (by decide) rfl (fun ls hl => ?_)
      refine lv_iconst (v := (1 : Int32)) hx hb dL_make_13 (by decide) ?_
      refine W.widen (k := KC) (n := KS) (by omega) (by omega) ?_
      exact rO hx hb hr hlocks hF hP hD hS dL_make_14
    · replace hF := br_no hF hk
      by_cases hk : k1 = 2
      · replace hF := br_yes hF hk
        subst hk
        refine vx_catch hown [xq 0 9 12 19] (xq 0 9 15 13) [xq 0 9 18 46] (by rw [htab]; rfl) (fun z hz => ?_) (by decide) (by decide) (hT _ mw8_22) (va_tabs rfl rfl hEX.2.2.2.1) h1 h2 h3 ?_
        · simp only [List.mem_cons, List.not_mem_nil, or_false] at hz
          rcases hz with rfl
          · exact Or.inr ⟨by decide, _, hT _ mw37_10, hNc 2 0 (by decide) (by decide) (by decide)⟩
        refine lv_astore_n (lv' := [(3, .ref q9), (0, .ref (ad (0))), (1, .int p1), (2, .ref ou)]) hx hb dL_make_15 rfl hl (by decide) rfl (fun ls hl => ?_)
        refine lv_iconst (v := (2 : Int32)) hx hb dL_make_16 (by decide) ?_
        refine W.widen (k := KC) (n := KS) (by omega) (by omega) ?_
        exact rO hx hb hr hlocks hF hP hD hS dL_make_17
      · replace hF := br_no hF hk
        by_cases hk : k1 = 3
        · replace hF := br_yes hF hk
          subst hk
          refine vx_catch hown [xq 0 9 12 19, xq 0 9 15 13] (xq 0 9 18 46) [] (by rw [htab]; rfl) (fun z hz => ?_) (by decide) (by decide) (hT _ mw44_14) (va_tabs rfl rfl hEX.2.2.2.2.1) h1 h2 h3 ?_
          · simp only [List.mem_cons, List.not_mem_nil, or_false] at hz
            rcases hz with rfl | rfl
            · exact Or.inr ⟨by decide, _, hT _ mw37_10, hNc 3 0 (by decide) (by decide) (by decide)⟩
            · exact Or.inr ⟨by decide, _, hT _ mw8_22, hNc 3 2 (by decide) (by decide) (by decide)⟩
          refine lv_astore_n (lv' := [(3, .ref q9), (0, .ref (ad (0))), (1, .int p1), (2, .ref ou)]) hx hb dL_make_18 rfl hl (by decide) rfl (fun ls hl => ?_)
          refine lv_iconst (v := (3 : Int32)) hx hb dL_make_19 (by decide) ?_
          refine W.widen (k := KC) (n := KS) (by omega) (by omega) ?_
          exact rO hx hb hr hlocks hF hP hD hS dL_make_20
        · replace hF := br_no hF hk
          cases hF
  · subst hv9
    replace hF := sumc_l hF
    refine lv_i2l hx hb dL_make_7 rfl ?_
    refine va_last hx hb hK hP (hD _ _ _ _) hS 40 4 wo_at rfl (by unfold vp_in; decide) dL_make_8 (fun H locs hP _ hS => ?_)
    replace hP : va_P (gD g) vwCl (WO g ad rd ln1 ou fi1 ar1 (vp_updL fo (0 : Int32).toNatClampNeg (((v1).toInt64)))) H := hP
    refine lv_goto (tgt := 21) hx hb dL_make_9 (by decide) ?_
    refine lv_iconst (v := (0 : Int32)) hx hb dL_make_21 (by decide) ?_
    refine W.widen (k := KC) (n := KS) (by omega) (by omega) ?_
    exact rO hx hb hr hlocks hF hP hD hS dL_make_22
noncomputable def FL_write (nf : Nat) (fi : FI) (ar : AR) (ln : LN) (fo : Nat → Int64) (p1 : Int32) : Option ((Int32 × (Nat → Int64)) × FI × AR × LN × Nat × Nat) :=
  obnd6 (FX10_write nf fi ar ln (p1)) fun r1 fi1 ar1 ln1 kc1 ks1 => addc kc1 ks1 (sumc r1 (fun v1 => some (((0 : Int32), (vp_updL fo (0 : Int32).toNatClampNeg (((v1).toInt64)))), fi1, ar1, ln1, 0, 0)) (fun k1 => br (k1 = 0) (some (((1 : Int32), fo), fi1, ar1, ln1, 0, 0)) (br (k1 = 1) (some (((2 : Int32), fo), fi1, ar1, ln1, 0, 0)) (br (k1 = 2) (some (((3 : Int32), fo), fi1, ar1, ln1, 0, 0)) (br (k1 = 3) (some (((4 : Int32), fo), fi1, ar1, ln1, 0, 0)) (none))))))
set_option maxHeartbeats 8000000 in
set_option maxRecDepth 100000 in
theorem kL_write (l : Launch) (g : GT) (ad rd0 : Nat → Nat) (ou sz nf : Nat) (hlt : l.stackTraces = false) (fi : FI) (ar : AR) (ln : LN) (fo : Nat → Int64) (p1 : Int32) (r : Int32 × (Nat → Int64)) (fi' : FI) (ar' : AR) (ln' : LN) (KC KS : Nat) (hF : FL_write nf fi ar ln fo p1 = some (r, fi', ar', ln', KC, KS)) : Met l yL_write (Cond.codeWith yL_write cL_write 4 (some .int) [(0, 9, 12, 19), (0, 9, 15, 25), (0, 9, 18, 13), (0, 9, 21, 46)] :: TBX) ({ frames := 11, cells := KC, slots := KS, locals := 255 } : Room) (va_Pc [.ref (ad (0)), .int p1, .ref ou] (PO g ad rd0 ln ou sz fi ar fo)) (QO g ad ou (AO ad rd0 ou sz) r fi' ar' ln') KC KS (AO ad rd0 ou sz) := by
  refine va_MetW (cc := cL_write) (maxL := 4) (ret := (some .int)) (hh := [(0, 9, 12, 19), (0, 9, 15, 25), (0, 9, 18, 13), (0, 9, 21, 46)]) (by decide) rfl ?_
  intro p e s m args below meth c s₁ B hml hv
  obtain ⟨rfl, hsz, hP, hK, hD0, hE, hEX, hNc⟩ := hv
  have hx := B.exec
  have hb := B.bytes
  have hr := B.returns
  have hts := atoms_spec (ws := (Cond.codeWith yL_write cL_write 4 (some .int) [(0, 9, 12, 19), (0, 9, 15, 25), (0, 9, 18, 13), (0, 9, 21, 46)] :: TBX)) B.pre
  have htab := vx_table (x := yL_write) B (hts _ List.mem_cons_self)
  have hTX : ∀ w ∈ TBX, w.before _ s = true := fun w h => hts w (List.mem_cons_of_mem _ h)
  have hT : ∀ w ∈ TB, w.before _ s = true := fun w h => hTX w (tbx0 w h)
  have hown : s.vm.findClass RL = some m.cls := findClass_of_methodNamed B.named
  have hlocks := B.notSynchronized
  subst hsz
  have hD := dO hD0 s.heap.size
  have hA : ∀ q : Nat, s.heap.size ≤ q → AO ad rd0 ou s.heap.size q := fun q h => Or.inr h
  have hS : va_S (AO ad rd0 ou s.heap.size) s.heap s.heap [] := va_S.rf
  have hl := lv_entry ([.ref (ad (0)), .int p1, .ref ou]) (n := 4) (Nat.le_of_ble_eq_true rfl)
  rw [lg_entry_eq]
  generalize (lg_sl ([.ref (ad (0)), .int p1, .ref ou]) ++ List.replicate (4 - (lg_sl ([.ref (ad (0)), .int p1, .ref ou])).length) Slot.unset).toArray = ls at hl ⊢
  have hl : lv_has ls 4 [(0, .ref (ad (0))), (1, .int p1), (2, .ref ou)] := hl
  unfold FL_write at hF
  replace hF := obnd6_of hF
  obtain ⟨r1, fi1, ar1, ln1, kc1, ks1, h, hF⟩ := hF
  replace hF := addc_of hF
  obtain ⟨kc2, ks2, ec, es, hF⟩ := hF
  refine lv_aload_n hx hb dL_write_0 rfl (lv_at hl 2 rfl) ?_
  refine lv_iconst (v := (0 : Int32)) hx hb dL_write_1 (by decide) ?_
  refine lv_aload_n hx hb dL_write_2 rfl (lv_at hl 0 rfl) ?_
  refine lv_iload_n hx hb dL_write_3 rfl (lv_at hl 1 rfl) ?_
  refine cXO_i (As := [.int p1]) (rest := [.int (0 : Int32), .ref ou]) hx hb hml hTX hown hK hE hEX hD hA hP hS (rcv_X10 hK hP.woc) (kX10_write l g ad rd0 _ nf hlt fi ar ln (p1) r1 fi1 ar1 ln1 kc1 ks1 h) cw_X10_write mw50_17 ⟨⟨rfl, rfl⟩, Nat.le_of_ble_eq_true rfl, Nat.le_of_ble_eq_true rfl⟩ rfl hl.1 rfl (Nat.le_of_ble_eq_true rfl) dL_write_4 ⟨by show _ ≤ KC; omega, by show _ ≤ KS; omega⟩ (fun k1 ce q9 rd H locs hk9 hP hD hS h1 h2 h3 => ?_) (fun v1 rd H locs hv9 hP hD hS => ?_)
  · subst hk9
    replace hF := sumc_r hF
    by_cases hk : k1 = 0
    · replace hF := br_yes hF hk
      subst hk
      refine vx_catch hown [] (xq 0 9 12 19) [xq 0 9 15 25, xq 0 9 18 13, xq 0 9 21 46] (by rw [htab]; rfl) (fun z hz => ?_) (by decide) (by decide) (hT _ mw37_10) (va_tabs rfl rfl hEX.2.1) h1 h2 h3 ?_
      · cases hz
      refine lv_astore_n (lv' := [(3, .ref q9), (0, .ref (ad (0))), (1, .int p1), (2, .ref ou)]) hx hb dL_write_12 rfl hl (by decide) rfl (fun ls hl => ?_)
      refine lv_iconst (v := (1 : Int32)) hx hb dL_write_13 (by decide) ?_
      refine W.widen (k := KC) (n := KS) (by omega) (by omega) ?_
      exact rO hx hb hr hlocks hF hP hD hS dL_write_14
    · replace hF := br_no hF hk
      by_cases hk : k1 = 1
      · replace hF := br_yes hF hk
        subst hk
        refine vx_catch hown [xq 0 9 12 19] (xq 0 9 15 25) [xq 0 9 18 13, xq 0 9 21 46] (by rw [htab]; rfl) (fun z hz => ?_) (by decide) (by decide) (hT _ mw39_1) (va_tabs rfl rfl hEX.2.2.1) h1 h2 h3 ?_
        · simp only [List.mem_cons, List.not_mem_nil, or_false] at hz
          rcases hz with rfl
          · exact Or.inr ⟨by decide, _, hT _ mw37_10, hNc 1 0 (by decide) (by decide) (by decide)⟩
        refine lv_astore_n (lv' := [(3, .ref q9), (0, .ref (ad (0))), (1, .int p1), (2, .ref ou)]) hx hb dL_write_15 rfl hl (by decide) rfl (fun ls hl => ?_)
        refine lv_iconst (v := (2 : Int32)) hx hb dL_write_16 (by decide) ?_
        refine W.widen (k := KC) (n := KS) (by omega) (by omega) ?_
        exact rO hx hb hr hlocks hF hP hD hS dL_write_17
      · replace hF := br_no hF hk
        by_cases hk : k1 = 2
        · replace hF := br_yes hF hk
          subst hk
          refine vx_catch hown [xq 0 9 12 19, xq 0 9 15 25] (xq 0 9 18 13) [xq 0 9 21 46] (by rw [htab]; rfl) (fun z hz => ?_) (by decide) (by decide) (hT _ mw8_22) (va_tabs rfl rfl hEX.2.2.2.1) h1 h2 h3 ?_
          · simp only [List.mem_cons, List.not_mem_nil, or_false] at hz
            rcases hz with rfl | rfl
            · exact Or.inr ⟨by decide, _, hT _ mw37_10, hNc 2 0 (by decide) (by decide) (by decide)⟩
            · exact Or.inr ⟨by decide, _, hT _ mw39_1, hNc 2 1 (by decide) (by decide) (by decide)⟩
          refine lv_astore_n (lv' := [(3, .ref q9), (0, .ref (ad (0))), (1, .int p1), (2, .ref ou)]) hx hb dL_write_18 rfl hl (by decide) rfl (fun ls hl => ?_)
          refine lv_iconst (v := (3 : Int32)) hx hb dL_write_19 (by decide) ?_
          refine W.widen (k := KC) (n := KS) (by omega) (by omega) ?_
          exact rO hx hb hr hlocks hF hP hD hS dL_write_20
        · replace hF := br_no hF hk
          by_cases hk : k1 = 3
          · replace hF := br_yes hF hk
            subst hk
            refine vx_catch hown [xq 0 9 12 19, xq 0 9 15 25, xq 0 9 18 13] (xq 0 9 21 46) [] (by rw [htab]; rfl) (fun z hz => ?_) (by decide) (by decide) (hT _ mw44_14) (va_tabs rfl rfl hEX.2.2.2.2.1) h1 h2 h3 ?_
            · simp only [List.mem_cons, List.not_mem_nil, or_false] at hz
              rcases hz with rfl | rfl | rfl
              · exact Or.inr ⟨by decide, _, hT _ mw37_10, hNc 3 0 (by decide) (by decide) (by decide)⟩
              · exact Or.inr ⟨by decide, _, hT _ mw39_1, hNc 3 1 (by decide) (by decide) (by decide)⟩
              · exact Or.inr ⟨by decide, _, hT _ mw8_22, hNc 3 2 (by decide) (by decide) (by decide)⟩
            refine lv_astore_n (lv' := [(3, .ref q9), (0, .ref (ad (0))), (1, .int p1), (2, .ref ou)]) hx hb dL_write_21 rfl hl (by decide) rfl (fun ls hl => ?_)
            refine lv_iconst (v := (4 : Int32)) hx hb dL_write_22 (by decide) ?_
            refine W.widen (k := KC) (n := KS) (by omega) (by omega) ?_
            exact rO hx hb hr hlocks hF hP hD hS dL_write_23
          · replace hF := br_no hF hk
            cases hF
  · subst hv9
    replace hF := sumc_l hF
    refine lv_i2l hx hb dL_write_7 rfl ?_
    refine va_last hx hb hK hP (hD _ _ _ _) hS 40 4 wo_at rfl (by unfold vp_in; decide) dL_write_8 (fun H locs hP _ hS => ?_)
    replace hP : va_P (gD g) vwCl (WO g ad rd ln1 ou fi1 ar1 (vp_updL fo (0 : Int32).toNatClampNeg (((v1).toInt64)))) H := hP
    refine lv_goto (tgt := 24) hx hb dL_write_9 (by decide) ?_
    refine lv_iconst (v := (0 : Int32)) hx hb dL_write_24 (by decide) ?_
    refine W.widen (k := KC) (n := KS) (by omega) (by omega) ?_
    exact rO hx hb hr hlocks hF hP hD hS dL_write_25
noncomputable def FL_grow (nf : Nat) (fi : FI) (ar : AR) (ln : LN) (fo : Nat → Int64) (p1 : Int32) (p2 : Int32) (p3 : Int32) : Option ((Int32 × (Nat → Int64)) × FI × AR × LN × Nat × Nat) :=
  obnd6 (FX10_grow nf fi ar ln (p1) (p2) (p3)) fun r1 fi1 ar1 ln1 kc1 ks1 => addc kc1 ks1 (sumc r1 (fun v1 => some (((0 : Int32), (vp_updL fo (0 : Int32).toNatClampNeg (((v1).toInt64)))), fi1, ar1, ln1, 0, 0)) (fun k1 => br (k1 = 0) (some (((1 : Int32), fo), fi1, ar1, ln1, 0, 0)) (br (k1 = 1) (some (((2 : Int32), fo), fi1, ar1, ln1, 0, 0)) (br (k1 = 2) (some (((3 : Int32), fo), fi1, ar1, ln1, 0, 0)) (br (k1 = 3) (some (((4 : Int32), fo), fi1, ar1, ln1, 0, 0)) (none))))))
set_option maxHeartbeats 8000000 in
set_option maxRecDepth 100000 in
theorem kL_grow (l : Launch) (g : GT) (ad rd0 : Nat → Nat) (ou sz nf : Nat) (hlt : l.stackTraces = false) (fi : FI) (ar : AR) (ln : LN) (fo : Nat → Int64) (p1 : Int32) (p2 : Int32) (p3 : Int32) (r : Int32 × (Nat → Int64)) (fi' : FI) (ar' : AR) (ln' : LN) (KC KS : Nat) (hF : FL_grow nf fi ar ln fo p1 p2 p3 = some (r, fi', ar', ln', KC, KS)) : Met l yL_grow (Cond.codeWith yL_grow cL_grow 6 (some .int) [(0, 12, 15, 19), (0, 12, 19, 25), (0, 12, 23, 13), (0, 12, 27, 46)] :: TBX) ({ frames := 11, cells := KC, slots := KS, locals := 257 } : Room) (va_Pc [.ref (ad (0)), .int p1, .int p2, .int p3, .ref ou] (PO g ad rd0 ln ou sz fi ar fo)) (QO g ad ou (AO ad rd0 ou sz) r fi' ar' ln') KC KS (AO ad rd0 ou sz) := by
  refine va_MetW (cc := cL_grow) (maxL := 6) (ret := (some .int)) (hh := [(0, 12, 15, 19), (0, 12, 19, 25), (0, 12, 23, 13), (0, 12, 27, 46)]) (by decide) rfl ?_
  intro p e s m args below meth c s₁ B hml hv
  obtain ⟨rfl, hsz, hP, hK, hD0, hE, hEX, hNc⟩ := hv
  have hx := B.exec
  have hb := B.bytes
  have hr := B.returns
  have hts := atoms_spec (ws := (Cond.codeWith yL_grow cL_grow 6 (some .int) [(0, 12, 15, 19), (0, 12, 19, 25), (0, 12, 23, 13), (0, 12, 27, 46)] :: TBX)) B.pre
  have htab := vx_table (x := yL_grow) B (hts _ List.mem_cons_self)
  have hTX : ∀ w ∈ TBX, w.before _ s = true := fun w h => hts w (List.mem_cons_of_mem _ h)
  have hT : ∀ w ∈ TB, w.before _ s = true := fun w h => hTX w (tbx0 w h)
  have hown : s.vm.findClass RL = some m.cls := findClass_of_methodNamed B.named
  have hlocks := B.notSynchronized
  subst hsz
  have hD := dO hD0 s.heap.size
  have hA : ∀ q : Nat, s.heap.size ≤ q → AO ad rd0 ou s.heap.size q := fun q h => Or.inr h
  have hS : va_S (AO ad rd0 ou s.heap.size) s.heap s.heap [] := va_S.rf
  have hl := lv_entry ([.ref (ad (0)), .int p1, .int p2, .int p3, .ref ou]) (n := 6) (Nat.le_of_ble_eq_true rfl)
  rw [lg_entry_eq]
  generalize (lg_sl ([.ref (ad (0)), .int p1, .int p2, .int p3, .ref ou]) ++ List.replicate (6 - (lg_sl ([.ref (ad (0)), .int p1, .int p2, .int p3, .ref ou])).length) Slot.unset).toArray = ls at hl ⊢
  have hl : lv_has ls 6 [(0, .ref (ad (0))), (1, .int p1), (2, .int p2), (3, .int p3), (4, .ref ou)] := hl
  unfold FL_grow at hF
  replace hF := obnd6_of hF
  obtain ⟨r1, fi1, ar1, ln1, kc1, ks1, h, hF⟩ := hF
  replace hF := addc_of hF
  obtain ⟨kc2, ks2, ec, es, hF⟩ := hF
  refine lv_aload hx hb dL_grow_0 (lv_at hl 4 rfl) ?_
  refine lv_iconst (v := (0 : Int32)) hx hb dL_grow_2 (by decide) ?_
  refine lv_aload_n hx hb dL_grow_3 rfl (lv_at hl 0 rfl) ?_
  refine lv_iload_n hx hb dL_grow_4 rfl (lv_at hl 1 rfl) ?_
  refine lv_iload_n hx hb dL_grow_5 rfl (lv_at hl 2 rfl) ?_
  refine lv_iload_n hx hb dL_grow_6 rfl (lv_at hl 3 rfl) ?_
  refine cXO_i (As := [.int p1, .int p2, .int p3]) (rest := [.int (0 : Int32), .ref ou]) hx hb hml hTX hown hK hE hEX hD hA hP hS (rcv_X10 hK hP.woc) (kX10_grow l g ad rd0 _ nf hlt fi ar ln (p1) (p2) (p3) r1 fi1 ar1 ln1 kc1 ks1 h) cw_X10_grow mw53_9 ⟨⟨rfl, rfl⟩, Nat.le_of_ble_eq_true rfl, Nat.le_of_ble_eq_true rfl⟩ rfl hl.1 rfl (Nat.le_of_ble_eq_true rfl) dL_grow_7 ⟨by show _ ≤ KC; omega, by show _ ≤ KS; omega⟩ (fun k1 ce q9 rd H locs hk9 hP hD hS h1 h2 h3 => ?_) (fun v1 rd H locs hv9 hP hD hS => ?_)
  · subst hk9
    replace hF := sumc_r hF
    by_cases hk : k1 = 0
    · replace hF := br_yes hF hk
      subst hk
      refine vx_catch hown [] (xq 0 12 15 19) [xq 0 12 19 25, xq 0 12 23 13, xq 0 12 27 46] (by rw [htab]; rfl) (fun z hz => ?_) (by decide) (by decide) (hT _ mw37_10) (va_tabs rfl rfl hEX.2.1) h1 h2 h3 ?_
      · cases hz
      refine lv_astore (lv' := [(5, .ref q9), (0, .ref (ad (0))), (1, .int p1), (2, .int p2), (3, .int p3), (4, .ref ou)]) hx hb dL_grow_15 hl (by decide) rfl (fun ls hl => ?_)
      refine lv_iconst (v := (1 : Int32)) hx hb dL_grow_17 (by decide) ?_
      refine W.widen (k := KC) (n := KS) (by omega) (by omega) ?_
      exact rO hx hb hr hlocks hF hP hD hS dL_grow_18
    · replace hF := br_no hF hk
      by_cases hk : k1 = 1
      · replace hF := br_yes hF hk
        subst hk
        refine vx_catch hown [xq 0 12 15 19] (xq 0 12 19 25) [xq 0 12 23 13, xq 0 12 27 46] (by rw [htab]; rfl) (fun z hz => ?_) (by decide) (by decide) (hT _ mw39_1) (va_tabs rfl rfl hEX.2.2.1) h1 h2 h3 ?_
        · simp only [List.mem_cons, List.not_mem_nil, or_false] at hz
          rcases hz with rfl
          · exact Or.inr ⟨by decide, _, hT _ mw37_10, hNc 1 0 (by decide) (by decide) (by decide)⟩
        refine lv_astore (lv' := [(5, .ref q9), (0, .ref (ad (0))), (1, .int p1), (2, .int p2), (3, .int p3), (4, .ref ou)]) hx hb dL_grow_19 hl (by decide) rfl (fun ls hl => ?_)
        refine lv_iconst (v := (2 : Int32)) hx hb dL_grow_21 (by decide) ?_
        refine W.widen (k := KC) (n := KS) (by omega) (by omega) ?_
        exact rO hx hb hr hlocks hF hP hD hS dL_grow_22
      · replace hF := br_no hF hk
        by_cases hk : k1 = 2
        · replace hF := br_yes hF hk
          subst hk
          refine vx_catch hown [xq 0 12 15 19, xq 0 12 19 25] (xq 0 12 23 13) [xq 0 12 27 46] (by rw [htab]; rfl) (fun z hz => ?_) (by decide) (by decide) (hT _ mw8_22) (va_tabs rfl rfl hEX.2.2.2.1) h1 h2 h3 ?_
          · simp only [List.mem_cons, List.not_mem_nil, or_false] at hz
            rcases hz with rfl | rfl
            · exact Or.inr ⟨by decide, _, hT _ mw37_10, hNc 2 0 (by decide) (by decide) (by decide)⟩
            · exact Or.inr ⟨by decide, _, hT _ mw39_1, hNc 2 1 (by decide) (by decide) (by decide)⟩
          refine lv_astore (lv' := [(5, .ref q9), (0, .ref (ad (0))), (1, .int p1), (2, .int p2), (3, .int p3), (4, .ref ou)]) hx hb dL_grow_23 hl (by decide) rfl (fun ls hl => ?_)
          refine lv_iconst (v := (3 : Int32)) hx hb dL_grow_25 (by decide) ?_
          refine W.widen (k := KC) (n := KS) (by omega) (by omega) ?_
          exact rO hx hb hr hlocks hF hP hD hS dL_grow_26
        · replace hF := br_no hF hk
          by_cases hk : k1 = 3
          · replace hF := br_yes hF hk
            subst hk
            refine vx_catch hown [xq 0 12 15 19, xq 0 12 19 25, xq 0 12 23 13] (xq 0 12 27 46) [] (by rw [htab]; rfl) (fun z hz => ?_) (by decide) (by decide) (hT _ mw44_14) (va_tabs rfl rfl hEX.2.2.2.2.1) h1 h2 h3 ?_
            · simp only [List.mem_cons, List.not_mem_nil, or_false] at hz
              rcases hz with rfl | rfl | rfl
              · exact Or.inr ⟨by decide, _, hT _ mw37_10, hNc 3 0 (by decide) (by decide) (by decide)⟩
              · exact Or.inr ⟨by decide, _, hT _ mw39_1, hNc 3 1 (by decide) (by decide) (by decide)⟩
              · exact Or.inr ⟨by decide, _, hT _ mw8_22, hNc 3 2 (by decide) (by decide) (by decide)⟩
            refine lv_astore (lv' := [(5, .ref q9), (0, .ref (ad (0))), (1, .int p1), (2, .int p2), (3, .int p3), (4, .ref ou)]) hx hb dL_grow_27 hl (by decide) rfl (fun ls hl => ?_)
            refine lv_iconst (v := (4 : Int32)) hx hb dL_grow_29 (by decide) ?_
            refine W.widen (k := KC) (n := KS) (by omega) (by omega) ?_
            exact rO hx hb hr hlocks hF hP hD hS dL_grow_30
          · replace hF := br_no hF hk
            cases hF
  · subst hv9
    replace hF := sumc_l hF
    refine lv_i2l hx hb dL_grow_10 rfl ?_
    refine va_last hx hb hK hP (hD _ _ _ _) hS 40 4 wo_at rfl (by unfold vp_in; decide) dL_grow_11 (fun H locs hP _ hS => ?_)
    replace hP : va_P (gD g) vwCl (WO g ad rd ln1 ou fi1 ar1 (vp_updL fo (0 : Int32).toNatClampNeg (((v1).toInt64)))) H := hP
    refine lv_goto (tgt := 31) hx hb dL_grow_12 (by decide) ?_
    refine lv_iconst (v := (0 : Int32)) hx hb dL_grow_31 (by decide) ?_
    refine W.widen (k := KC) (n := KS) (by omega) (by omega) ?_
    exact rO hx hb hr hlocks hF hP hD hS dL_grow_32
noncomputable def FL_cut (nf : Nat) (fi : FI) (ar : AR) (ln : LN) (fo : Nat → Int64) (p1 : Int32) (p2 : Int32) : Option ((Int32 × (Nat → Int64)) × FI × AR × LN × Nat × Nat) :=
  obnd6 (FX10_cut nf fi ar ln (p1) (p2)) fun r1 fi1 ar1 ln1 kc1 ks1 => addc kc1 ks1 (sumc r1 (fun v1 => some (((0 : Int32), (vp_updL fo (0 : Int32).toNatClampNeg (((v1).toInt64)))), fi1, ar1, ln1, 0, 0)) (fun k1 => br (k1 = 0) (some (((1 : Int32), fo), fi1, ar1, ln1, 0, 0)) (br (k1 = 1) (some (((2 : Int32), fo), fi1, ar1, ln1, 0, 0)) (br (k1 = 2) (some (((3 : Int32), fo), fi1, ar1, ln1, 0, 0)) (none)))))
set_option maxHeartbeats 8000000 in
set_option maxRecDepth 100000 in
theorem kL_cut (l : Launch) (g : GT) (ad rd0 : Nat → Nat) (ou sz nf : Nat) (hlt : l.stackTraces = false) (fi : FI) (ar : AR) (ln : LN) (fo : Nat → Int64) (p1 : Int32) (p2 : Int32) (r : Int32 × (Nat → Int64)) (fi' : FI) (ar' : AR) (ln' : LN) (KC KS : Nat) (hF : FL_cut nf fi ar ln fo p1 p2 = some (r, fi', ar', ln', KC, KS)) : Met l yL_cut (Cond.codeWith yL_cut cL_cut 5 (some .int) [(0, 10, 13, 19), (0, 10, 17, 25), (0, 10, 21, 13)] :: TBX) ({ frames := 11, cells := KC, slots := KS, locals := 259 } : Room) (va_Pc [.ref (ad (0)), .int p1, .int p2, .ref ou] (PO g ad rd0 ln ou sz fi ar fo)) (QO g ad ou (AO ad rd0 ou sz) r fi' ar' ln') KC KS (AO ad rd0 ou sz) := by
  refine va_MetW (cc := cL_cut) (maxL := 5) (ret := (some .int)) (hh := [(0, 10, 13, 19), (0, 10, 17, 25), (0, 10, 21, 13)]) (by decide) rfl ?_
  intro p e s m args below meth c s₁ B hml hv
  obtain ⟨rfl, hsz, hP, hK, hD0, hE, hEX, hNc⟩ := hv
  have hx := B.exec
  have hb := B.bytes
  have hr := B.returns
  have hts := atoms_spec (ws := (Cond.codeWith yL_cut cL_cut 5 (some .int) [(0, 10, 13, 19), (0, 10, 17, 25), (0, 10, 21, 13)] :: TBX)) B.pre
  have htab := vx_table (x := yL_cut) B (hts _ List.mem_cons_self)
  have hTX : ∀ w ∈ TBX, w.before _ s = true := fun w h => hts w (List.mem_cons_of_mem _ h)
  have hT : ∀ w ∈ TB, w.before _ s = true := fun w h => hTX w (tbx0 w h)
  have hown : s.vm.findClass RL = some m.cls := findClass_of_methodNamed B.named
  have hlocks := B.notSynchronized
  subst hsz
  have hD := dO hD0 s.heap.size
  have hA : ∀ q : Nat, s.heap.size ≤ q → AO ad rd0 ou s.heap.size q := fun q h => Or.inr h
  have hS : va_S (AO ad rd0 ou s.heap.size) s.heap s.heap [] := va_S.rf
  have hl := lv_entry ([.ref (ad (0)), .int p1, .int p2, .ref ou]) (n := 5) (Nat.le_of_ble_eq_true rfl)
  rw [lg_entry_eq]
  generalize (lg_sl ([.ref (ad (0)), .int p1, .int p2, .ref ou]) ++ List.replicate (5 - (lg_sl ([.ref (ad (0)), .int p1, .int p2, .ref ou])).length) Slot.unset).toArray = ls at hl ⊢
  have hl : lv_has ls 5 [(0, .ref (ad (0))), (1, .int p1), (2, .int p2), (3, .ref ou)] := hl
  unfold FL_cut at hF
  replace hF := obnd6_of hF
  obtain ⟨r1, fi1, ar1, ln1, kc1, ks1, h, hF⟩ := hF
  replace hF := addc_of hF
  obtain ⟨kc2, ks2, ec, es, hF⟩ := hF
  refine lv_aload_n hx hb dL_cut_0 rfl (lv_at hl 3 rfl) ?_
  refine lv_iconst (v := (0 : Int32)) hx hb dL_cut_1 (by decide) ?_
  refine lv_aload_n hx hb dL_cut_2 rfl (lv_at hl 0 rfl) ?_
  refine lv_iload_n hx hb dL_cut_3 rfl (lv_at hl 1 rfl) ?_
  refine lv_iload_n hx hb dL_cut_4 rfl (lv_at hl 2 rfl) ?_
  refine cXO_i (As := [.int p1, .int p2]) (rest := [.int (0 : Int32), .ref ou]) hx hb hml hTX hown hK hE hEX hD hA hP hS (rcv_X10 hK hP.woc) (kX10_cut l g ad rd0 _ nf hlt fi ar ln (p1) (p2) r1 fi1 ar1 ln1 kc1 ks1 h) cw_X10_cut mw53_22 ⟨⟨rfl, rfl⟩, Nat.le_of_ble_eq_true rfl, Nat.le_of_ble_eq_true rfl⟩ rfl hl.1 rfl (Nat.le_of_ble_eq_true rfl) dL_cut_5 ⟨by show _ ≤ KC; omega, by show _ ≤ KS; omega⟩ (fun k1 ce q9 rd H locs hk9 hP hD hS h1 h2 h3 => ?_) (fun v1 rd H locs hv9 hP hD hS => ?_)
  · subst hk9
    replace hF := sumc_r hF
    by_cases hk : k1 = 0
    · replace hF := br_yes hF hk
      subst hk
      refine vx_catch hown [] (xq 0 10 13 19) [xq 0 10 17 25, xq 0 10 21 13] (by rw [htab]; rfl) (fun z hz => ?_) (by decide) (by decide) (hT _ mw37_10) (va_tabs rfl rfl hEX.2.1) h1 h2 h3 ?_
      · cases hz
      refine lv_astore (lv' := [(4, .ref q9), (0, .ref (ad (0))), (1, .int p1), (2, .int p2), (3, .ref ou)]) hx hb dL_cut_13 hl (by decide) rfl (fun ls hl => ?_)
      refine lv_iconst (v := (1 : Int32)) hx hb dL_cut_15 (by decide) ?_
      refine W.widen (k := KC) (n := KS) (by omega) (by omega) ?_
      exact rO hx hb hr hlocks hF hP hD hS dL_cut_16
    · replace hF := br_no hF hk
      by_cases hk : k1 = 1
      · replace hF := br_yes hF hk
        subst hk
        refine vx_catch hown [xq 0 10 13 19] (xq 0 10 17 25) [xq 0 10 21 13] (by rw [htab]; rfl) (fun z hz => ?_) (by decide) (by decide) (hT _ mw39_1) (va_tabs rfl rfl hEX.2.2.1) h1 h2 h3 ?_
        · simp only [List.mem_cons, List.not_mem_nil, or_false] at hz
          rcases hz with rfl
          · exact Or.inr ⟨by decide, _, hT _ mw37_10, hNc 1 0 (by decide) (by decide) (by decide)⟩
        refine lv_astore (lv' := [(4, .ref q9), (0, .ref (ad (0))), (1, .int p1), (2, .int p2), (3, .ref ou)]) hx hb dL_cut_17 hl (by decide) rfl (fun ls hl => ?_)
        refine lv_iconst (v := (2 : Int32)) hx hb dL_cut_19 (by decide) ?_
        refine W.widen (k := KC) (n := KS) (by omega) (by omega) ?_
        exact rO hx hb hr hlocks hF hP hD hS dL_cut_20
      · replace hF := br_no hF hk
        by_cases hk : k1 = 2
        · replace hF := br_yes hF hk
          subst hk
          refine vx_catch hown [xq 0 10 13 19, xq 0 10 17 25] (xq 0 10 21 13) [] (by rw [htab]; rfl) (fun z hz => ?_) (by decide) (by decide) (hT _ mw8_22) (va_tabs rfl rfl hEX.2.2.2.1) h1 h2 h3 ?_
          · simp only [List.mem_cons, List.not_mem_nil, or_false] at hz
            rcases hz with rfl | rfl
            · exact Or.inr ⟨by decide, _, hT _ mw37_10, hNc 2 0 (by decide) (by decide) (by decide)⟩
            · exact Or.inr ⟨by decide, _, hT _ mw39_1, hNc 2 1 (by decide) (by decide) (by decide)⟩
          refine lv_astore (lv' := [(4, .ref q9), (0, .ref (ad (0))), (1, .int p1), (2, .int p2), (3, .ref ou)]) hx hb dL_cut_21 hl (by decide) rfl (fun ls hl => ?_)
          refine lv_iconst (v := (3 : Int32)) hx hb dL_cut_23 (by decide) ?_
          refine W.widen (k := KC) (n := KS) (by omega) (by omega) ?_
          exact rO hx hb hr hlocks hF hP hD hS dL_cut_24
        · replace hF := br_no hF hk
          cases hF
  · subst hv9
    replace hF := sumc_l hF
    refine lv_i2l hx hb dL_cut_8 rfl ?_
    refine va_last hx hb hK hP (hD _ _ _ _) hS 40 4 wo_at rfl (by unfold vp_in; decide) dL_cut_9 (fun H locs hP _ hS => ?_)
    replace hP : va_P (gD g) vwCl (WO g ad rd ln1 ou fi1 ar1 (vp_updL fo (0 : Int32).toNatClampNeg (((v1).toInt64)))) H := hP
    refine lv_goto (tgt := 25) hx hb dL_cut_10 (by decide) ?_
    refine lv_iconst (v := (0 : Int32)) hx hb dL_cut_25 (by decide) ?_
    refine W.widen (k := KC) (n := KS) (by omega) (by omega) ?_
    exact rO hx hb hr hlocks hF hP hD hS dL_cut_26
noncomputable def FL_remove (nf : Nat) (fi : FI) (ar : AR) (ln : LN) (fo : Nat → Int64) (p1 : Int32) : Option ((Int32 × (Nat → Int64)) × FI × AR × LN × Nat × Nat) :=
  obnd6 (FX10_remove nf fi ar ln (p1)) fun r1 fi1 ar1 ln1 kc1 ks1 => addc kc1 ks1 (sumc r1 (fun v1 => some (((0 : Int32), fo), fi1, ar1, ln1, 0, 0)) (fun k1 => br (k1 = 0) (some (((1 : Int32), fo), fi1, ar1, ln1, 0, 0)) (br (k1 = 1) (some (((2 : Int32), fo), fi1, ar1, ln1, 0, 0)) (br (k1 = 2) (some (((3 : Int32), fo), fi1, ar1, ln1, 0, 0)) (none)))))
set_option maxHeartbeats 8000000 in
set_option maxRecDepth 100000 in
theorem kL_remove (l : Launch) (g : GT) (ad rd0 : Nat → Nat) (ou sz nf : Nat) (hlt : l.stackTraces = false) (fi : FI) (ar : AR) (ln : LN) (fo : Nat → Int64) (p1 : Int32) (r : Int32 × (Nat → Int64)) (fi' : FI) (ar' : AR) (ln' : LN) (KC KS : Nat) (hF : FL_remove nf fi ar ln fo p1 = some (r, fi', ar', ln', KC, KS)) : Met l yL_remove (Cond.codeWith yL_remove cL_remove 3 (some .int) [(0, 5, 8, 19), (0, 5, 11, 25), (0, 5, 14, 13)] :: TBX) ({ frames := 11, cells := KC, slots := KS, locals := 258 } : Room) (va_Pc [.ref (ad (0)), .int p1] (PO g ad rd0 ln ou sz fi ar fo)) (QO g ad ou (AO ad rd0 ou sz) r fi' ar' ln') KC KS (AO ad rd0 ou sz) := by
  refine va_MetW (cc := cL_remove) (maxL := 3) (ret := (some .int)) (hh := [(0, 5, 8, 19), (0, 5, 11, 25), (0, 5, 14, 13)]) (by decide) rfl ?_
  intro p e s m args below meth c s₁ B hml hv
  obtain ⟨rfl, hsz, hP, hK, hD0, hE, hEX, hNc⟩ := hv
  have hx := B.exec
  have hb := B.bytes
  have hr := B.returns
  have hts := atoms_spec (ws := (Cond.codeWith yL_remove cL_remove 3 (some .int) [(0, 5, 8, 19), (0, 5, 11, 25), (0, 5, 14, 13)] :: TBX)) B.pre
  have htab := vx_table (x := yL_remove) B (hts _ List.mem_cons_self)
  have hTX : ∀ w ∈ TBX, w.before _ s = true := fun w h => hts w (List.mem_cons_of_mem _ h)
  have hT : ∀ w ∈ TB, w.before _ s = true := fun w h => hTX w (tbx0 w h)
  have hown : s.vm.findClass RL = some m.cls := findClass_of_methodNamed B.named
  have hlocks := B.notSynchronized
  subst hsz
  have hD := dO hD0 s.heap.size
  have hA : ∀ q : Nat, s.heap.size ≤ q → AO ad rd0 ou s.heap.size q := fun q h => Or.inr h
  have hS : va_S (AO ad rd0 ou s.heap.size) s.heap s.heap [] := va_S.rf
  have hl := lv_entry ([.ref (ad (0)), .int p1]) (n := 3) (Nat.le_of_ble_eq_true rfl)
  rw [lg_entry_eq]
  generalize (lg_sl ([.ref (ad (0)), .int p1]) ++ List.replicate (3 - (lg_sl ([.ref (ad (0)), .int p1])).length) Slot.unset).toArray = ls at hl ⊢
  have hl : lv_has ls 3 [(0, .ref (ad (0))), (1, .int p1)] := hl
  unfold FL_remove at hF
  replace hF := obnd6_of hF
  obtain ⟨r1, fi1, ar1, ln1, kc1, ks1, h, hF⟩ := hF
  replace hF := addc_of hF
  obtain ⟨kc2, ks2, ec, es, hF⟩ := hF
  refine lv_aload_n hx hb dL_remove_0 rfl (lv_at hl 0 rfl) ?_
  refine lv_iload_n hx hb dL_remove_1 rfl (lv_at hl 1 rfl) ?_
  refine cXO_v (As := [.int p1]) (rest := []) hx hb hml hTX hown hK hE hEX hD hA hP hS (rcv_X10 hK hP.woc) (kX10_remove l g ad rd0 _ nf hlt fi ar ln (p1) r1 fi1 ar1 ln1 kc1 ks1 h) cw_X10_remove mw54_19 ⟨⟨rfl, rfl⟩, Nat.le_of_ble_eq_true rfl, Nat.le_of_ble_eq_true rfl⟩ rfl hl.1 rfl (Nat.le_of_ble_eq_true rfl) dL_remove_2 ⟨by show _ ≤ KC; omega, by show _ ≤ KS; omega⟩ (fun k1 ce q9 rd H locs hk9 hP hD hS h1 h2 h3 => ?_) (fun v1 rd H locs hv9 hP hD hS => ?_)
  · subst hk9
    replace hF := sumc_r hF
    by_cases hk : k1 = 0
    · replace hF := br_yes hF hk
      subst hk
      refine vx_catch hown [] (xq 0 5 8 19) [xq 0 5 11 25, xq 0 5 14 13] (by rw [htab]; rfl) (fun z hz => ?_) (by decide) (by decide) (hT _ mw37_10) (va_tabs rfl rfl hEX.2.1) h1 h2 h3 ?_
      · cases hz
      refine lv_astore_n (lv' := [(2, .ref q9), (0, .ref (ad (0))), (1, .int p1)]) hx hb dL_remove_8 rfl hl (by decide) rfl (fun ls hl => ?_)
      refine lv_iconst (v := (1 : Int32)) hx hb dL_remove_9 (by decide) ?_
      refine W.widen (k := KC) (n := KS) (by omega) (by omega) ?_
      exact rO hx hb hr hlocks hF hP hD hS dL_remove_10
    · replace hF := br_no hF hk
      by_cases hk : k1 = 1
      · replace hF := br_yes hF hk
        subst hk
        refine vx_catch hown [xq 0 5 8 19] (xq 0 5 11 25) [xq 0 5 14 13] (by rw [htab]; rfl) (fun z hz => ?_) (by decide) (by decide) (hT _ mw39_1) (va_tabs rfl rfl hEX.2.2.1) h1 h2 h3 ?_
        · simp only [List.mem_cons, List.not_mem_nil, or_false] at hz
          rcases hz with rfl
          · exact Or.inr ⟨by decide, _, hT _ mw37_10, hNc 1 0 (by decide) (by decide) (by decide)⟩
        refine lv_astore_n (lv' := [(2, .ref q9), (0, .ref (ad (0))), (1, .int p1)]) hx hb dL_remove_11 rfl hl (by decide) rfl (fun ls hl => ?_)
        refine lv_iconst (v := (2 : Int32)) hx hb dL_remove_12 (by decide) ?_
        refine W.widen (k := KC) (n := KS) (by omega) (by omega) ?_
        exact rO hx hb hr hlocks hF hP hD hS dL_remove_13
      · replace hF := br_no hF hk
        by_cases hk : k1 = 2
        · replace hF := br_yes hF hk
          subst hk
          refine vx_catch hown [xq 0 5 8 19, xq 0 5 11 25] (xq 0 5 14 13) [] (by rw [htab]; rfl) (fun z hz => ?_) (by decide) (by decide) (hT _ mw8_22) (va_tabs rfl rfl hEX.2.2.2.1) h1 h2 h3 ?_
          · simp only [List.mem_cons, List.not_mem_nil, or_false] at hz
            rcases hz with rfl | rfl
            · exact Or.inr ⟨by decide, _, hT _ mw37_10, hNc 2 0 (by decide) (by decide) (by decide)⟩
            · exact Or.inr ⟨by decide, _, hT _ mw39_1, hNc 2 1 (by decide) (by decide) (by decide)⟩
          refine lv_astore_n (lv' := [(2, .ref q9), (0, .ref (ad (0))), (1, .int p1)]) hx hb dL_remove_14 rfl hl (by decide) rfl (fun ls hl => ?_)
          refine lv_iconst (v := (3 : Int32)) hx hb dL_remove_15 (by decide) ?_
          refine W.widen (k := KC) (n := KS) (by omega) (by omega) ?_
          exact rO hx hb hr hlocks hF hP hD hS dL_remove_16
        · replace hF := br_no hF hk
          cases hF
  · subst hv9
    replace hF := sumc_l hF
    refine lv_goto (tgt := 17) hx hb dL_remove_5 (by decide) ?_
    refine lv_iconst (v := (0 : Int32)) hx hb dL_remove_17 (by decide) ?_
    refine W.widen (k := KC) (n := KS) (by omega) (by omega) ?_
    exact rO hx hb hr hlocks hF hP hD hS dL_remove_18
noncomputable def FL_stamp (nf : Nat) (fi : FI) (ar : AR) (ln : LN) (fo : Nat → Int64) (p1 : Int32) (p2 : Int32) (p3 : Int32) (p4 : Int32) : Option ((Int32 × (Nat → Int64)) × FI × AR × LN × Nat × Nat) :=
  obnd6 (FX10_stamp nf fi ar ln (p1) (p2) (p3) (p4)) fun r1 fi1 ar1 ln1 kc1 ks1 => addc kc1 ks1 (sumc r1 (fun v1 => some (((0 : Int32), fo), fi1, ar1, ln1, 0, 0)) (fun k1 => br (k1 = 0) (some (((1 : Int32), fo), fi1, ar1, ln1, 0, 0)) (br (k1 = 1) (some (((2 : Int32), fo), fi1, ar1, ln1, 0, 0)) (br (k1 = 2) (some (((3 : Int32), fo), fi1, ar1, ln1, 0, 0)) (none)))))
set_option maxHeartbeats 8000000 in
set_option maxRecDepth 100000 in
theorem kL_stamp (l : Launch) (g : GT) (ad rd0 : Nat → Nat) (ou sz nf : Nat) (hlt : l.stackTraces = false) (fi : FI) (ar : AR) (ln : LN) (fo : Nat → Int64) (p1 : Int32) (p2 : Int32) (p3 : Int32) (p4 : Int32) (r : Int32 × (Nat → Int64)) (fi' : FI) (ar' : AR) (ln' : LN) (KC KS : Nat) (hF : FL_stamp nf fi ar ln fo p1 p2 p3 p4 = some (r, fi', ar', ln', KC, KS)) : Met l yL_stamp (Cond.codeWith yL_stamp cL_stamp 6 (some .int) [(0, 9, 12, 19), (0, 9, 16, 25), (0, 9, 20, 13)] :: TBX) ({ frames := 11, cells := KC, slots := KS, locals := 258 } : Room) (va_Pc [.ref (ad (0)), .int p1, .int p2, .int p3, .int p4] (PO g ad rd0 ln ou sz fi ar fo)) (QO g ad ou (AO ad rd0 ou sz) r fi' ar' ln') KC KS (AO ad rd0 ou sz) := by
  refine va_MetW (cc := cL_stamp) (maxL := 6) (ret := (some .int)) (hh := [(0, 9, 12, 19), (0, 9, 16, 25), (0, 9, 20, 13)]) (by decide) rfl ?_
  intro p e s m args below meth c s₁ B hml hv
  obtain ⟨rfl, hsz, hP, hK, hD0, hE, hEX, hNc⟩ := hv
  have hx := B.exec
  have hb := B.bytes
  have hr := B.returns
  have hts := atoms_spec (ws := (Cond.codeWith yL_stamp cL_stamp 6 (some .int) [(0, 9, 12, 19), (0, 9, 16, 25), (0, 9, 20, 13)] :: TBX)) B.pre
  have htab := vx_table (x := yL_stamp) B (hts _ List.mem_cons_self)
  have hTX : ∀ w ∈ TBX, w.before _ s = true := fun w h => hts w (List.mem_cons_of_mem _ h)
  have hT : ∀ w ∈ TB, w.before _ s = true := fun w h => hTX w (tbx0 w h)
  have hown : s.vm.findClass RL = some m.cls := findClass_of_methodNamed B.named
  have hlocks := B.notSynchronized
  subst hsz
  have hD := dO hD0 s.heap.size
  have hA : ∀ q : Nat, s.heap.size ≤ q → AO ad rd0 ou s.heap.size q := fun q h => Or.inr h
  have hS : va_S (AO ad rd0 ou s.heap.size) s.heap s.heap [] := va_S.rf
  have hl := lv_entry ([.ref (ad (0)), .int p1, .int p2, .int p3, .int p4]) (n := 6) (Nat.le_of_ble_eq_true rfl)
  rw [lg_entry_eq]
  generalize (lg_sl ([.ref (ad (0)), .int p1, .int p2, .int p3, .int p4]) ++ List.replicate (6 - (lg_sl ([.ref (ad (0)), .int p1, .int p2, .int p3, .int p4])).length) Slot.unset).toArray = ls at hl ⊢
  have hl : lv_has ls 6 [(0, .ref (ad (0))), (1, .int p1), (2, .int p2), (3, .int p3), (4, .int p4)] := hl
  unfold FL_stamp at hF
  replace hF := obnd6_of hF
  obtain ⟨r1, fi1, ar1, ln1, kc1, ks1, h, hF⟩ := hF
  replace hF := addc_of hF
  obtain ⟨kc2, ks2, ec, es, hF⟩ := hF
  refine lv_aload_n hx hb dL_stamp_0 rfl (lv_at hl 0 rfl) ?_
  refine lv_iload_n hx hb dL_stamp_1 rfl (lv_at hl 1 rfl) ?_
  refine lv_iload_n hx hb dL_stamp_2 rfl (lv_at hl 2 rfl) ?_
  refine lv_iload_n hx hb dL_stamp_3 rfl (lv_at hl 3 rfl) ?_
  refine lv_iload hx hb dL_stamp_4 (lv_at hl 4 rfl) ?_
  refine cXO_v (As := [.int p1, .int p2, .int p3, .int p4]) (rest := []) hx hb hml hTX hown hK hE hEX hD hA hP hS (rcv_X10 hK hP.woc) (kX10_stamp l g ad rd0 _ nf hlt fi ar ln (p1) (p2) (p3) (p4) r1 fi1 ar1 ln1 kc1 ks1 h) cw_X10_stamp mw55_6 ⟨⟨rfl, rfl⟩, Nat.le_of_ble_eq_true rfl, Nat.le_of_ble_eq_true rfl⟩ rfl hl.1 rfl (Nat.le_of_ble_eq_true rfl) dL_stamp_6 ⟨by show _ ≤ KC; omega, by show _ ≤ KS; omega⟩ (fun k1 ce q9 rd H locs hk9 hP hD hS h1 h2 h3 => ?_) (fun v1 rd H locs hv9 hP hD hS => ?_)
  · subst hk9
    replace hF := sumc_r hF
    by_cases hk : k1 = 0
    · replace hF := br_yes hF hk
      subst hk
      refine vx_catch hown [] (xq 0 9 12 19) [xq 0 9 16 25, xq 0 9 20 13] (by rw [htab]; rfl) (fun z hz => ?_) (by decide) (by decide) (hT _ mw37_10) (va_tabs rfl rfl hEX.2.1) h1 h2 h3 ?_
      · cases hz
      refine lv_astore (lv' := [(5, .ref q9), (0, .ref (ad (0))), (1, .int p1), (2, .int p2), (3, .int p3), (4, .int p4)]) hx hb dL_stamp_12 hl (by decide) rfl (fun ls hl => ?_)
      refine lv_iconst (v := (1 : Int32)) hx hb dL_stamp_14 (by decide) ?_
      refine W.widen (k := KC) (n := KS) (by omega) (by omega) ?_
      exact rO hx hb hr hlocks hF hP hD hS dL_stamp_15
    · replace hF := br_no hF hk
      by_cases hk : k1 = 1
      · replace hF := br_yes hF hk
        subst hk
        refine vx_catch hown [xq 0 9 12 19] (xq 0 9 16 25) [xq 0 9 20 13] (by rw [htab]; rfl) (fun z hz => ?_) (by decide) (by decide) (hT _ mw39_1) (va_tabs rfl rfl hEX.2.2.1) h1 h2 h3 ?_
        · simp only [List.mem_cons, List.not_mem_nil, or_false] at hz
          rcases hz with rfl
          · exact Or.inr ⟨by decide, _, hT _ mw37_10, hNc 1 0 (by decide) (by decide) (by decide)⟩
        refine lv_astore (lv' := [(5, .ref q9), (0, .ref (ad (0))), (1, .int p1), (2, .int p2), (3, .int p3), (4, .int p4)]) hx hb dL_stamp_16 hl (by decide) rfl (fun ls hl => ?_)
        refine lv_iconst (v := (2 : Int32)) hx hb dL_stamp_18 (by decide) ?_
        refine W.widen (k := KC) (n := KS) (by omega) (by omega) ?_
        exact rO hx hb hr hlocks hF hP hD hS dL_stamp_19
      · replace hF := br_no hF hk
        by_cases hk : k1 = 2
        · replace hF := br_yes hF hk
          subst hk
          refine vx_catch hown [xq 0 9 12 19, xq 0 9 16 25] (xq 0 9 20 13) [] (by rw [htab]; rfl) (fun z hz => ?_) (by decide) (by decide) (hT _ mw8_22) (va_tabs rfl rfl hEX.2.2.2.1) h1 h2 h3 ?_
          · simp only [List.mem_cons, List.not_mem_nil, or_false] at hz
            rcases hz with rfl | rfl
            · exact Or.inr ⟨by decide, _, hT _ mw37_10, hNc 2 0 (by decide) (by decide) (by decide)⟩
            · exact Or.inr ⟨by decide, _, hT _ mw39_1, hNc 2 1 (by decide) (by decide) (by decide)⟩
          refine lv_astore (lv' := [(5, .ref q9), (0, .ref (ad (0))), (1, .int p1), (2, .int p2), (3, .int p3), (4, .int p4)]) hx hb dL_stamp_20 hl (by decide) rfl (fun ls hl => ?_)
          refine lv_iconst (v := (3 : Int32)) hx hb dL_stamp_22 (by decide) ?_
          refine W.widen (k := KC) (n := KS) (by omega) (by omega) ?_
          exact rO hx hb hr hlocks hF hP hD hS dL_stamp_23
        · replace hF := br_no hF hk
          cases hF
  · subst hv9
    replace hF := sumc_l hF
    refine lv_goto (tgt := 24) hx hb dL_stamp_9 (by decide) ?_
    refine lv_iconst (v := (0 : Int32)) hx hb dL_stamp_24 (by decide) ?_
    refine W.widen (k := KC) (n := KS) (by omega) (by omega) ?_
    exact rO hx hb hr hlocks hF hP hD hS dL_stamp_25
