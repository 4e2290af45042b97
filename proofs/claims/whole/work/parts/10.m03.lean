/-! X11_areDays -/
noncomputable def M_areDays_88 (nf : Nat) (t0 : Int32) (fi : FI) (ar : AR) : Option (Int32 × FI × AR) :=
  gd ((t0) &&& 1 = (t0)) (some ((t0), fi, ar))
noncomputable def M_areDays_87 (nf : Nat)  (fi : FI) (ar : AR) : Option (Int32 × FI × AR) :=
  M_areDays_88 nf  (0 : Int32) fi ar
noncomputable def M_areDays_55 (nf : Nat) (x1 : Int32) (fi : FI) (ar : AR) : Option (Int32 × FI × AR) :=
  obnd3 (M_two nf fi ar ((x1) + (24 : Int32))) fun r5 fi3 ar4 => obnd (M_isDay nf (r5)) fun r7 => br ((r7) = 0) (M_areDays_87 nf  fi3 ar4) (obnd3 (M_two nf fi3 ar4 ((x1) + (22 : Int32))) fun r12 fi10 ar11 => obnd (M_isTime nf (r12)) fun r14 => br ((r14) = 0) (M_areDays_87 nf  fi10 ar11) (M_areDays_88 nf  (1 : Int32) fi10 ar11))
noncomputable def M_areDays (nf : Nat) (fi : FI) (ar : AR) (x1 : Int32) : Option (Int32 × FI × AR) :=
  obnd3 (M_two nf fi ar ((x1) + (16 : Int32))) fun r19 fi17 ar18 => obnd3 (M_two nf fi17 ar18 ((x1) + (14 : Int32))) fun r23 fi21 ar22 => obnd3 (M_one nf fi21 ar22 ((x1) + (13 : Int32))) fun r27 fi25 ar26 => obnd (M_isMade nf (r19) (r23) (r27)) fun r29 => br ((r29) = 0) (M_areDays_87 nf  fi25 ar26) (obnd3 (M_two nf fi25 ar26 ((x1) + (18 : Int32))) fun r34 fi32 ar33 => br ((r34) = 0) (M_areDays_55 nf  (x1) fi32 ar33) (obnd3 (M_two nf fi32 ar33 ((x1) + (18 : Int32))) fun r39 fi37 ar38 => obnd (M_isDay nf (r39)) fun r41 => br ((r41) = 0) (M_areDays_87 nf  fi37 ar38) (M_areDays_55 nf  (x1) fi37 ar38)))
set_option maxHeartbeats 4000000 in
set_option maxRecDepth 100000 in
theorem k_areDays (l : Launch) (g : GT) (am : Nat → Nat) (sz : Nat) (nf : Nat) (fi : FI) (ar : AR) (p1 : Int32) (r : Int32) (fi' : FI) (ar' : AR) (hF : M_areDays nf fi ar p1 = some (r, fi', ar')) : Met l yX11_areDays (wx yX11_areDays cX11_areDays 2 (some .boolean)) ({ frames := 4, cells := 0, slots := 0, locals := 84 } : Room) (va_Pc [.ref (am 0), .int p1] (PM g am sz fi ar)) (QMi g am sz r fi' ar') 0 0 (AM am sz) := by
  refine Met.ofW (cc := cX11_areDays) (maxL := 2) (ret := (some .boolean)) (by decide) rfl ?_
  intro p e s m args below meth c s₁ B hml hv
  obtain ⟨rfl, hsz, hP, hK, hD0, hE⟩ := hv
  have hx := B.exec
  have hb := B.bytes
  have hr := B.returns
  have hts := atoms_spec (ws := (wx yX11_areDays cX11_areDays 2 (some .boolean))) B.pre
  have hT : ∀ w ∈ TB, w.before _ s = true := fun w h => hts w (List.mem_cons_of_mem _ h)
  have hown : s.vm.findClass RX11 = some m.cls := findClass_of_methodNamed B.named
  have hlocks := B.notSynchronized
  subst hsz
  have hD := dM hD0 s.heap.size
  have hA : ∀ q : Nat, s.heap.size ≤ q → AM am s.heap.size q := fun q h => Or.inr h
  have hS : va_S (AM am s.heap.size) s.heap s.heap [] := va_S.rf
  have hl := lv_entry ([.ref (am 0), .int p1]) (n := 2) (Nat.le_of_ble_eq_true rfl)
  rw [lg_entry_eq]
  generalize (lg_sl ([.ref (am 0), .int p1]) ++ List.replicate (2 - (lg_sl ([.ref (am 0), .int p1])).length) Slot.unset).toArray = ls at hl ⊢
  have hl : lv_has ls 2 [(0, .ref (am 0)), (1, .int p1)] := hl
  unfold M_areDays at hF
  have J88 : ∀ (t0 : Int32) (fi : FI) (ar : AR) (H : Heap) (locs : List Loc) (ls : Array Slot), M_areDays_88 nf t0 fi ar = some (r, fi', ar') → lv_has ls 2 [(0, .ref (am 0))] → va_P (gD g) vwCl (WM g am fi ar) H → va_S (AM am s.heap.size) s.heap H locs → W p l e (headSpec (wx yX11_areDays cX11_areDays 2 (some .boolean)) ({ frames := 4, cells := 0, slots := 0, locals := 84 } : Room)).room s m ([.ref (am 0), .int p1] : List Value).toArray below meth c H locs 0 0 (MQ below (QMi g am s.heap.size r fi' ar') ([.ref (am 0), .int p1] : List Value).toArray s 0 0 (AM am s.heap.size)) (F0 m 88 ls [.int t0]) := by
    intro t0 fi ar H locs ls hF hl hP hS
    unfold M_areDays_88 at hF
    replace hF := gd_of hF
    obtain ⟨hz1, hF⟩ := hF
    exact rM_z hx hb hr hlocks (nar_z hz1) hF hP hS dX11_areDays_88
  have J87 : ∀  (fi : FI) (ar : AR) (H : Heap) (locs : List Loc) (ls : Array Slot), M_areDays_87 nf fi ar = some (r, fi', ar') → lv_has ls 2 [(0, .ref (am 0))] → va_P (gD g) vwCl (WM g am fi ar) H → va_S (AM am s.heap.size) s.heap H locs → W p l e (headSpec (wx yX11_areDays cX11_areDays 2 (some .boolean)) ({ frames := 4, cells := 0, slots := 0, locals := 84 } : Room)).room s m ([.ref (am 0), .int p1] : List Value).toArray below meth c H locs 0 0 (MQ below (QMi g am s.heap.size r fi' ar') ([.ref (am 0), .int p1] : List Value).toArray s 0 0 (AM am s.heap.size)) (F0 m 87 ls []) := by
    intro fi ar H locs ls hF hl hP hS
    unfold M_areDays_87 at hF
    refine lv_iconst (v := (0 : Int32)) hx hb dX11_areDays_87 (by decide) ?_
    exact J88 (0 : Int32) _ _ _ _ _ hF (lv_sub hl [0] rfl) hP hS
  have J55 : ∀ (x1 : Int32) (fi : FI) (ar : AR) (H : Heap) (locs : List Loc) (ls : Array Slot), M_areDays_55 nf x1 fi ar = some (r, fi', ar') → lv_has ls 2 [(0, .ref (am 0)), (1, .int x1)] → va_P (gD g) vwCl (WM g am fi ar) H → va_S (AM am s.heap.size) s.heap H locs → W p l e (headSpec (wx yX11_areDays cX11_areDays 2 (some .boolean)) ({ frames := 4, cells := 0, slots := 0, locals := 84 } : Room)).room s m ([.ref (am 0), .int p1] : List Value).toArray below meth c H locs 0 0 (MQ below (QMi g am s.heap.size r fi' ar') ([.ref (am 0), .int p1] : List Value).toArray s 0 0 (AM am s.heap.size)) (F0 m 55 ls []) := by
    intro x1 fi ar H locs ls hF hl hP hS
    unfold M_areDays_55 at hF
    refine lv_aload_n hx hb dX11_areDays_55 rfl (lv_at hl 0 rfl) ?_
    refine lv_iload_n hx hb dX11_areDays_56 rfl (lv_at hl 1 rfl) ?_
    refine lv_bipush (v := (24 : Int32)) hx hb dX11_areDays_57 (by decide) ?_
    refine lv_iadd hx hb dX11_areDays_59 ?_
    replace hF := obnd3_of hF
    obtain ⟨r5, fi3, ar4, h2, hF⟩ := hF
    refine cM_i (As := [.int ((x1) + (24 : Int32))]) (rest := []) hx hb hml hT hown hK hE hD hA hP hS (k_two l g am _ nf fi ar ((x1) + (24 : Int32)) r5 fi3 ar4 h2) cw_X11_two mw19_13 ⟨⟨rfl, rfl⟩, Nat.le_of_ble_eq_true rfl, Nat.le_of_ble_eq_true rfl⟩ rfl hl.1 rfl (Nat.le_of_ble_eq_true rfl) dX11_areDays_60 ⟨Nat.zero_le _, Nat.zero_le _⟩ (fun H locs hP hS => ?_)
    replace hF := obnd_of hF
    obtain ⟨r7, h6, hF⟩ := hF
    refine cS_i (As := [.int (r5)]) (rest := []) hx hb hml hT hown hE hP hS (k_isDay l g nf (r5) r7 h6) cw_X11_isDay mw33_22 ⟨⟨rfl, rfl⟩, Nat.le_of_ble_eq_true rfl, Nat.le_of_ble_eq_true rfl⟩ rfl hl.1 rfl (Nat.le_of_ble_eq_true rfl) dX11_areDays_63 ⟨Nat.zero_le _, Nat.zero_le _⟩ (fun H locs hP hS => ?_)
    refine lv_if_eq (tgt := 87) hx hb dX11_areDays_66 (by decide) (fun hc8 => ?_) (fun hc8 => ?_)
    · replace hF := br_yes hF hc8
      exact J87  _ _ _ _ _ hF (lv_sub hl [0] rfl) hP hS
    · replace hF := br_no hF hc8
      refine lv_aload_n hx hb dX11_areDays_69 rfl (lv_at hl 0 rfl) ?_
      refine lv_iload_n hx hb dX11_areDays_70 rfl (lv_at hl 1 rfl) ?_
      refine lv_bipush (v := (22 : Int32)) hx hb dX11_areDays_71 (by decide) ?_
      refine lv_iadd hx hb dX11_areDays_73 ?_
      replace hF := obnd3_of hF
      obtain ⟨r12, fi10, ar11, h9, hF⟩ := hF
      refine cM_i (As := [.int ((x1) + (22 : Int32))]) (rest := []) hx hb hml hT hown hK hE hD hA hP hS (k_two l g am _ nf fi3 ar4 ((x1) + (22 : Int32)) r12 fi10 ar11 h9) cw_X11_two mw19_13 ⟨⟨rfl, rfl⟩, Nat.le_of_ble_eq_true rfl, Nat.le_of_ble_eq_true rfl⟩ rfl hl.1 rfl (Nat.le_of_ble_eq_true rfl) dX11_areDays_74 ⟨Nat.zero_le _, Nat.zero_le _⟩ (fun H locs hP hS => ?_)
      replace hF := obnd_of hF
      obtain ⟨r14, h13, hF⟩ := hF
      refine cS_i (As := [.int (r12)]) (rest := []) hx hb hml hT hown hE hP hS (k_isTime l g nf (r12) r14 h13) cw_X11_isTime mw34_8 ⟨⟨rfl, rfl⟩, Nat.le_of_ble_eq_true rfl, Nat.le_of_ble_eq_true rfl⟩ rfl hl.1 rfl (Nat.le_of_ble_eq_true rfl) dX11_areDays_77 ⟨Nat.zero_le _, Nat.zero_le _⟩ (fun H locs hP hS => ?_)
      refine lv_if_eq (tgt := 87) hx hb dX11_areDays_80 (by decide) (fun hc15 => ?_) (fun hc15 => ?_)
      · replace hF := br_yes hF hc15
        exact J87  _ _ _ _ _ hF (lv_sub hl [0] rfl) hP hS
      · replace hF := br_no hF hc15
        refine lv_iconst (v := (1 : Int32)) hx hb dX11_areDays_83 (by decide) ?_
        refine lv_goto (tgt := 88) hx hb dX11_areDays_84 (by decide) ?_
        exact J88 (1 : Int32) _ _ _ _ _ hF (lv_sub hl [0] rfl) hP hS
  replace hl := lv_sub hl [0, 1] rfl
  refine lv_aload_n hx hb dX11_areDays_0 rfl (lv_at hl 0 rfl) ?_
  refine lv_iload_n hx hb dX11_areDays_1 rfl (lv_at hl 1 rfl) ?_
  refine lv_bipush (v := (16 : Int32)) hx hb dX11_areDays_2 (by decide) ?_
  refine lv_iadd hx hb dX11_areDays_4 ?_
  replace hF := obnd3_of hF
  obtain ⟨r19, fi17, ar18, h16, hF⟩ := hF
  refine cM_i (As := [.int ((p1) + (16 : Int32))]) (rest := []) hx hb hml hT hown hK hE hD hA hP hS (k_two l g am _ nf fi ar ((p1) + (16 : Int32)) r19 fi17 ar18 h16) cw_X11_two mw19_13 ⟨⟨rfl, rfl⟩, Nat.le_of_ble_eq_true rfl, Nat.le_of_ble_eq_true rfl⟩ rfl hl.1 rfl (Nat.le_of_ble_eq_true rfl) dX11_areDays_5 ⟨Nat.zero_le _, Nat.zero_le _⟩ (fun H locs hP hS => ?_)
  refine lv_aload_n hx hb dX11_areDays_8 rfl (lv_at hl 0 rfl) ?_
  refine lv_iload_n hx hb dX11_areDays_9 rfl (lv_at hl 1 rfl) ?_
  refine lv_bipush (v := (14 : Int32)) hx hb dX11_areDays_10 (by decide) ?_
  refine lv_iadd hx hb dX11_areDays_12 ?_
  replace hF := obnd3_of hF
  obtain ⟨r23, fi21, ar22, h20, hF⟩ := hF
  refine cM_i (As := [.int ((p1) + (14 : Int32))]) (rest := [.int (r19)]) hx hb hml hT hown hK hE hD hA hP hS (k_two l g am _ nf fi17 ar18 ((p1) + (14 : Int32)) r23 fi21 ar22 h20) cw_X11_two mw19_13 ⟨⟨rfl, rfl⟩, Nat.le_of_ble_eq_true rfl, Nat.le_of_ble_eq_true rfl⟩ rfl hl.1 rfl (Nat.le_of_ble_eq_true rfl) dX11_areDays_13 ⟨Nat.zero_le _, Nat.zero_le _⟩ (fun H locs hP hS => ?_)
  refine lv_aload_n hx hb dX11_areDays_16 rfl (lv_at hl 0 rfl) ?_
  refine lv_iload_n hx hb dX11_areDays_17 rfl (lv_at hl 1 rfl) ?_
  refine lv_bipush (v := (13 : Int32)) hx hb dX11_areDays_18 (by decide) ?_
  refine lv_iadd hx hb dX11_areDays_20 ?_
  replace hF := obnd3_of hF
  obtain ⟨r27, fi25, ar26, h24, hF⟩ := hF
  refine cM_i (As := [.int ((p1) + (13 : Int32))]) (rest := [.int (r23), .int (r19)]) hx hb hml hT hown hK hE hD hA hP hS (k_one l g am _ nf fi21 ar22 ((p1) + (13 : Int32)) r27 fi25 ar26 h24) cw_X11_one mw19_9 ⟨⟨rfl, rfl⟩, Nat.le_of_ble_eq_true rfl, Nat.le_of_ble_eq_true rfl⟩ rfl hl.1 rfl (Nat.le_of_ble_eq_true rfl) dX11_areDays_21 ⟨Nat.zero_le _, Nat.zero_le _⟩ (fun H locs hP hS => ?_)
  replace hF := obnd_of hF
  obtain ⟨r29, h28, hF⟩ := hF
  refine cS_i (As := [.int (r19), .int (r23), .int (r27)]) (rest := []) hx hb hml hT hown hE hP hS (k_isMade l g nf (r19) (r23) (r27) r29 h28) cw_X11_isMade mw33_19 ⟨⟨rfl, rfl⟩, Nat.le_of_ble_eq_true rfl, Nat.le_of_ble_eq_true rfl⟩ rfl hl.1 rfl (Nat.le_of_ble_eq_true rfl) dX11_areDays_24 ⟨Nat.zero_le _, Nat.zero_le _⟩ (fun H locs hP hS => ?_)
  refine lv_if_eq (tgt := 87) hx hb dX11_areDays_27 (by decide) (fun hc30 => ?_) (fun hc30 => ?_)
  · replace hF := br_yes hF hc30
    exact J87  _ _ _ _ _ hF (lv_sub hl [0] rfl) hP hS
  · replace hF := br_no hF hc30
    refine lv_aload_n hx hb dX11_areDays_30 rfl (lv_at hl 0 rfl) ?_
    refine lv_iload_n hx hb dX11_areDays_31 rfl (lv_at hl 1 rfl) ?_
    refine lv_bipush (v := (18 : Int32)) hx hb dX11_areDays_32 (by decide) ?_
    refine lv_iadd hx hb dX11_areDays_34 ?_
    replace hF := obnd3_of hF
    obtain ⟨r34, fi32, ar33, h31, hF⟩ := hF
    refine cM_i (As := [.int ((p1) + (18 : Int32))]) (rest := []) hx hb hml hT hown hK hE hD hA hP hS (k_two l g am _ nf fi25 ar26 ((p1) + (18 : Int32)) r34 fi32 ar33 h31) cw_X11_two mw19_13 ⟨⟨rfl, rfl⟩, Nat.le_of_ble_eq_true rfl, Nat.le_of_ble_eq_true rfl⟩ rfl hl.1 rfl (Nat.le_of_ble_eq_true rfl) dX11_areDays_35 ⟨Nat.zero_le _, Nat.zero_le _⟩ (fun H locs hP hS => ?_)
    refine lv_if_eq (tgt := 55) hx hb dX11_areDays_38 (by decide) (fun hc35 => ?_) (fun hc35 => ?_)
    · replace hF := br_yes hF hc35
      exact J55 (p1) _ _ _ _ _ hF (lv_sub hl [0, 1] rfl) hP hS
    · replace hF := br_no hF hc35
      refine lv_aload_n hx hb dX11_areDays_41 rfl (lv_at hl 0 rfl) ?_
      refine lv_iload_n hx hb dX11_areDays_42 rfl (lv_at hl 1 rfl) ?_
      refine lv_bipush (v := (18 : Int32)) hx hb dX11_areDays_43 (by decide) ?_
      refine lv_iadd hx hb dX11_areDays_45 ?_
      replace hF := obnd3_of hF
      obtain ⟨r39, fi37, ar38, h36, hF⟩ := hF
      refine cM_i (As := [.int ((p1) + (18 : Int32))]) (rest := []) hx hb hml hT hown hK hE hD hA hP hS (k_two l g am _ nf fi32 ar33 ((p1) + (18 : Int32)) r39 fi37 ar38 h36) cw_X11_two mw19_13 ⟨⟨rfl, rfl⟩, Nat.le_of_ble_eq_true rfl, Nat.le_of_ble_eq_true rfl⟩ rfl hl.1 rfl (Nat.le_of_ble_eq_true rfl) dX11_areDays_46 ⟨Nat.zero_le _, Nat.zero_le _⟩ (fun H locs hP hS => ?_)
      replace hF := obnd_of hF
      obtain ⟨r41, h40, hF⟩ := hF
      refine cS_i (As := [.int (r39)]) (rest := []) hx hb hml hT hown hE hP hS (k_isDay l g nf (r39) r41 h40) cw_X11_isDay mw33_22 ⟨⟨rfl, rfl⟩, Nat.le_of_ble_eq_true rfl, Nat.le_of_ble_eq_true rfl⟩ rfl hl.1 rfl (Nat.le_of_ble_eq_true rfl) dX11_areDays_49 ⟨Nat.zero_le _, Nat.zero_le _⟩ (fun H locs hP hS => ?_)
      refine lv_if_eq (tgt := 87) hx hb dX11_areDays_52 (by decide) (fun hc42 => ?_) (fun hc42 => ?_)
      · replace hF := br_yes hF hc42
        exact J87  _ _ _ _ _ hF (lv_sub hl [0] rfl) hP hS
      · replace hF := br_no hF hc42
        exact J55 (p1) _ _ _ _ _ hF (lv_sub hl [0, 1] rfl) hP hS
theorem cw_X11_areDays : (Cond.instanceMethod yX11_areDays ∈ TB ∧ Cond.selects RX11 yX11_areDays yX11_areDays ∈ TB ∧ Cond.code yX11_areDays cX11_areDays 2 (some .boolean) ∈ TB) ∧ (yX11_areDays.cls = RX11 ∧ yX11_areDays.cls ≠ "java/lang/invoke/MethodHandle" ∧ yX11_areDays.cls ≠ "java/lang/invoke/VarHandle" ∧ (parseMethodDescriptor yX11_areDays.desc).map (fun d => d.parameters.length) = some 1) := ⟨⟨mw33_16, mw33_17, mw33_18⟩, by decide +kernel⟩
/-! J0_isLatin1_aae02 -/
noncomputable def FJ0_isLatin1_aae02_18 (nf i : Nat) (t0 : Int32) : Option Int32 :=
  gd ((t0) &&& 1 = (t0)) (some (t0))
noncomputable def FJ0_isLatin1_aae02_17 (nf i : Nat)  : Option Int32 :=
  FJ0_isLatin1_aae02_18 nf i  (0 : Int32)
noncomputable def FJ0_isLatin1_aae02 (nf i : Nat)  : Option Int32 :=
  br ((1 : Int32) = 0) (FJ0_isLatin1_aae02_17 nf i) (br ((0 : Int32) = 0) (FJ0_isLatin1_aae02_18 nf i  (1 : Int32)) (FJ0_isLatin1_aae02_17 nf i))
set_option maxHeartbeats 4000000 in
set_option maxRecDepth 100000 in
theorem kJ0_isLatin1_aae02 (l : Launch) (g : GT) (nf i : Nat) (hi : i < 2)  (r : Int32) (hF : FJ0_isLatin1_aae02 nf i  = some r) : Met l yJ0_isLatin1_aae02 (wx yJ0_isLatin1_aae02 cJ0_isLatin1_aae02 1 (some .boolean)) ({ frames := 0, cells := 0, slots := 0, locals := 0 } : Room) (va_Pc [.ref (g.2.2.2 i)] (PS g)) (QSi r) 0 0 noA := by
  refine Met.ofW (cc := cJ0_isLatin1_aae02) (maxL := 1) (ret := (some .boolean)) (by decide) rfl ?_
  intro p e s m args below meth c s₁ B hml hv
  obtain ⟨rfl, hE⟩ := hv
  have hx := B.exec
  have hb := B.bytes
  have hr := B.returns
  have hts := atoms_spec (ws := (wx yJ0_isLatin1_aae02 cJ0_isLatin1_aae02 1 (some .boolean))) B.pre
  have hT : ∀ w ∈ TB, w.before _ s = true := fun w h => hts w (List.mem_cons_of_mem _ h)
  have hown : s.vm.findClass RJ0 = some m.cls := findClass_of_methodNamed B.named
  have hlocks := B.notSynchronized
  have hS : va_S noA s.heap s.heap [] := va_S.rf
  have hP : va_P (gD g) vwCl [] s.heap := fun k q h => by cases h
  have hl := lv_entry ([.ref (g.2.2.2 i)]) (n := 1) (Nat.le_of_ble_eq_true rfl)
  rw [lg_entry_eq]
  generalize (lg_sl ([.ref (g.2.2.2 i)]) ++ List.replicate (1 - (lg_sl ([.ref (g.2.2.2 i)])).length) Slot.unset).toArray = ls at hl ⊢
  have hl : lv_has ls 1 [(0, .ref (g.2.2.2 i))] := hl
  unfold FJ0_isLatin1_aae02 at hF
  have J18 : ∀ (t0 : Int32) (H : Heap) (locs : List Loc) (ls : Array Slot), FJ0_isLatin1_aae02_18 nf i t0 = some r → lv_has ls 1 [(0, .ref (g.2.2.2 i))] → va_P (gD g) vwCl [] H → va_S noA s.heap H locs → W p l e (headSpec (wx yJ0_isLatin1_aae02 cJ0_isLatin1_aae02 1 (some .boolean)) ({ frames := 0, cells := 0, slots := 0, locals := 0 } : Room)).room s m ([.ref (g.2.2.2 i)] : List Value).toArray below meth c H locs 0 0 (MQ below (QSi r) ([.ref (g.2.2.2 i)] : List Value).toArray s 0 0 noA) (F0 m 18 ls [.int t0]) := by
    intro t0 H locs ls hF hl hP hS
    unfold FJ0_isLatin1_aae02_18 at hF
    replace hF := gd_of hF
    obtain ⟨hz1, hF⟩ := hF
    exact rS_z hx hb hr hlocks (nar_z hz1) hF hS dJ0_isLatin1_aae02_18
  have J17 : ∀  (H : Heap) (locs : List Loc) (ls : Array Slot), FJ0_isLatin1_aae02_17 nf i  = some r → lv_has ls 1 [(0, .ref (g.2.2.2 i))] → va_P (gD g) vwCl [] H → va_S noA s.heap H locs → W p l e (headSpec (wx yJ0_isLatin1_aae02 cJ0_isLatin1_aae02 1 (some .boolean)) ({ frames := 0, cells := 0, slots := 0, locals := 0 } : Room)).room s m ([.ref (g.2.2.2 i)] : List Value).toArray below meth c H locs 0 0 (MQ below (QSi r) ([.ref (g.2.2.2 i)] : List Value).toArray s 0 0 noA) (F0 m 17 ls []) := by
    intro H locs ls hF hl hP hS
    unfold FJ0_isLatin1_aae02_17 at hF
    refine lv_iconst (v := (0 : Int32)) hx hb dJ0_isLatin1_aae02_17 (by decide) ?_
    exact J18 (0 : Int32)  _ _ _ hF (lv_sub hl [0] rfl) hP hS
  replace hl := lv_sub hl [0] rfl
  refine va_gets hx hb hE.1.2.1 hS hown (hT _ mw11_2) (fun _ h => h) dJ0_isLatin1_aae02_0 ?_
  refine lv_if_eq (tgt := 17) hx hb dJ0_isLatin1_aae02_3 (by decide) (fun hc2 => ?_) (fun hc2 => ?_)
  · replace hF := br_yes hF hc2
    exact J17   _ _ _ hF (lv_sub hl [0] rfl) hP hS
  · replace hF := br_no hF hc2
    refine lv_aload_n hx hb dJ0_isLatin1_aae02_6 rfl (lv_at hl 0 rfl) ?_
    refine vk_getf hx hb (hE.1.1.1 i hi).2.1 hS hown (hT _ mw11_3) (fun _ h => h) dJ0_isLatin1_aae02_7 ?_
    refine lv_if_ne (tgt := 17) hx hb dJ0_isLatin1_aae02_10 (by decide) (fun hc3 => ?_) (fun hc3 => ?_)
    · replace hF := br_no hF hc3
      exact J17   _ _ _ hF (lv_sub hl [0] rfl) hP hS
    · replace hF := br_yes hF hc3
      refine lv_iconst (v := (1 : Int32)) hx hb dJ0_isLatin1_aae02_13 (by decide) ?_
      refine lv_goto (tgt := 18) hx hb dJ0_isLatin1_aae02_14 (by decide) ?_
      exact J18 (1 : Int32)  _ _ _ hF (lv_sub hl [0] rfl) hP hS
theorem cw_J0_isLatin1_aae02 : (Cond.instanceMethod yJ0_isLatin1_aae02 ∈ TB ∧ Cond.selects RJ0 yJ0_isLatin1_aae02 yJ0_isLatin1_aae02 ∈ TB ∧ Cond.code yJ0_isLatin1_aae02 cJ0_isLatin1_aae02 1 (some .boolean) ∈ TB) ∧ (yJ0_isLatin1_aae02.cls = RJ0 ∧ yJ0_isLatin1_aae02.cls ≠ "java/lang/invoke/MethodHandle" ∧ yJ0_isLatin1_aae02.cls ≠ "java/lang/invoke/VarHandle" ∧ (parseMethodDescriptor yJ0_isLatin1_aae02.desc).map (fun d => d.parameters.length) = some 0) := ⟨⟨mw10_23, mw11_0, mw11_1⟩, by decide +kernel⟩
/-! J0_coder_7d493 -/
noncomputable def FJ0_coder_7d493_14 (nf i : Nat) (t0 : Int32) : Option Int32 :=
  gd ((t0).toInt8.toInt32 = (t0)) (some (t0))
noncomputable def FJ0_coder_7d493 (nf i : Nat)  : Option Int32 :=
  br ((1 : Int32) = 0) (FJ0_coder_7d493_14 nf i  (1 : Int32)) (FJ0_coder_7d493_14 nf i  (0 : Int32))
set_option maxHeartbeats 4000000 in
set_option maxRecDepth 100000 in
theorem kJ0_coder_7d493 (l : Launch) (g : GT) (nf i : Nat) (hi : i < 2)  (r : Int32) (hF : FJ0_coder_7d493 nf i  = some r) : Met l yJ0_coder_7d493 (wx yJ0_coder_7d493 cJ0_coder_7d493 1 (some .byte)) ({ frames := 0, cells := 0, slots := 0, locals := 0 } : Room) (va_Pc [.ref (g.2.2.2 i)] (PS g)) (QSi r) 0 0 noA := by
  refine Met.ofW (cc := cJ0_coder_7d493) (maxL := 1) (ret := (some .byte)) (by decide) rfl ?_
  intro p e s m args below meth c s₁ B hml hv
  obtain ⟨rfl, hE⟩ := hv
  have hx := B.exec
  have hb := B.bytes
  have hr := B.returns
  have hts := atoms_spec (ws := (wx yJ0_coder_7d493 cJ0_coder_7d493 1 (some .byte))) B.pre
  have hT : ∀ w ∈ TB, w.before _ s = true := fun w h => hts w (List.mem_cons_of_mem _ h)
  have hown : s.vm.findClass RJ0 = some m.cls := findClass_of_methodNamed B.named
  have hlocks := B.notSynchronized
  have hS : va_S noA s.heap s.heap [] := va_S.rf
  have hP : va_P (gD g) vwCl [] s.heap := fun k q h => by cases h
  have hl := lv_entry ([.ref (g.2.2.2 i)]) (n := 1) (Nat.le_of_ble_eq_true rfl)
  rw [lg_entry_eq]
  generalize (lg_sl ([.ref (g.2.2.2 i)]) ++ List.replicate (1 - (lg_sl ([.ref (g.2.2.2 i)])).length) Slot.unset).toArray = ls at hl ⊢
  have hl : lv_has ls 1 [(0, .ref (g.2.2.2 i))] := hl
  unfold FJ0_coder_7d493 at hF
  have J14 : ∀ (t0 : Int32) (H : Heap) (locs : List Loc) (ls : Array Slot), FJ0_coder_7d493_14 nf i t0 = some r → lv_has ls 1 [(0, .ref (g.2.2.2 i))] → va_P (gD g) vwCl [] H → va_S noA s.heap H locs → W p l e (headSpec (wx yJ0_coder_7d493 cJ0_coder_7d493 1 (some .byte)) ({ frames := 0, cells := 0, slots := 0, locals := 0 } : Room)).room s m ([.ref (g.2.2.2 i)] : List Value).toArray below meth c H locs 0 0 (MQ below (QSi r) ([.ref (g.2.2.2 i)] : List Value).toArray s 0 0 noA) (F0 m 14 ls [.int t0]) := by
    intro t0 H locs ls hF hl hP hS
    unfold FJ0_coder_7d493_14 at hF
    replace hF := gd_of hF
    obtain ⟨hz1, hF⟩ := hF
    exact rS_z hx hb hr hlocks (nar_b hz1) hF hS dJ0_coder_7d493_14
  replace hl := lv_sub hl [0] rfl
  refine va_gets hx hb hE.1.2.1 hS hown (hT _ mw11_2) (fun _ h => h) dJ0_coder_7d493_0 ?_
  refine lv_if_eq (tgt := 13) hx hb dJ0_coder_7d493_3 (by decide) (fun hc2 => ?_) (fun hc2 => ?_)
  · replace hF := br_yes hF hc2
    refine lv_iconst (v := (1 : Int32)) hx hb dJ0_coder_7d493_13 (by decide) ?_
    exact J14 (1 : Int32)  _ _ _ hF (lv_sub hl [0] rfl) hP hS
  · replace hF := br_no hF hc2
    refine lv_aload_n hx hb dJ0_coder_7d493_6 rfl (lv_at hl 0 rfl) ?_
    refine vk_getf hx hb (hE.1.1.1 i hi).2.1 hS hown (hT _ mw11_3) (fun _ h => h) dJ0_coder_7d493_7 ?_
    refine lv_goto (tgt := 14) hx hb dJ0_coder_7d493_10 (by decide) ?_
    exact J14 (0 : Int32)  _ _ _ hF (lv_sub hl [0] rfl) hP hS
theorem cw_J0_coder_7d493 : (Cond.instanceMethod yJ0_coder_7d493 ∈ TB ∧ Cond.selects RJ0 yJ0_coder_7d493 yJ0_coder_7d493 ∈ TB ∧ Cond.code yJ0_coder_7d493 cJ0_coder_7d493 1 (some .byte) ∈ TB) ∧ (yJ0_coder_7d493.cls = RJ0 ∧ yJ0_coder_7d493.cls ≠ "java/lang/invoke/MethodHandle" ∧ yJ0_coder_7d493.cls ≠ "java/lang/invoke/VarHandle" ∧ (parseMethodDescriptor yJ0_coder_7d493.desc).map (fun d => d.parameters.length) = some 0) := ⟨⟨mw11_9, mw11_10, mw11_11⟩, by decide +kernel⟩
/-! J0_length_8abf5 -/
noncomputable def FJ0_length_8abf5 (nf i : Nat)  : Option Int32 :=
  obnd (FJ0_coder_7d493 nf i) fun r2 => some ((Int32.ofNat (sLen.getD i 0)) >>> ((r2) &&& 31))
set_option maxHeartbeats 4000000 in
set_option maxRecDepth 100000 in
theorem kJ0_length_8abf5 (l : Launch) (g : GT) (nf i : Nat) (hi : i < 2)  (r : Int32) (hF : FJ0_length_8abf5 nf i  = some r) : Met l yJ0_length_8abf5 (wx yJ0_length_8abf5 cJ0_length_8abf5 1 (some .int)) ({ frames := 1, cells := 0, slots := 0, locals := 20 } : Room) (va_Pc [.ref (g.2.2.2 i)] (PS g)) (QSi r) 0 0 noA := by
  refine Met.ofW (cc := cJ0_length_8abf5) (maxL := 1) (ret := (some .int)) (by decide) rfl ?_
  intro p e s m args below meth c s₁ B hml hv
  obtain ⟨rfl, hE⟩ := hv
  have hx := B.exec
  have hb := B.bytes
  have hr := B.returns
  have hts := atoms_spec (ws := (wx yJ0_length_8abf5 cJ0_length_8abf5 1 (some .int))) B.pre
  have hT : ∀ w ∈ TB, w.before _ s = true := fun w h => hts w (List.mem_cons_of_mem _ h)
  have hown : s.vm.findClass RJ0 = some m.cls := findClass_of_methodNamed B.named
  have hlocks := B.notSynchronized
  have hS : va_S noA s.heap s.heap [] := va_S.rf
  have hP : va_P (gD g) vwCl [] s.heap := fun k q h => by cases h
  have hl := lv_entry ([.ref (g.2.2.2 i)]) (n := 1) (Nat.le_of_ble_eq_true rfl)
  rw [lg_entry_eq]
  generalize (lg_sl ([.ref (g.2.2.2 i)]) ++ List.replicate (1 - (lg_sl ([.ref (g.2.2.2 i)])).length) Slot.unset).toArray = ls at hl ⊢
  have hl : lv_has ls 1 [(0, .ref (g.2.2.2 i))] := hl
  unfold FJ0_length_8abf5 at hF
  replace hl := lv_sub hl [0] rfl
  refine lv_aload_n hx hb dJ0_length_8abf5_0 rfl (lv_at hl 0 rfl) ?_
  refine vk_getf hx hb (hE.1.1.1 i hi).2.2.1 hS hown (hT _ mw10_21) (fun _ h => h) dJ0_length_8abf5_1 ?_
  refine va_tlen hx hb (hE.1.1.1 i hi).2.2.2 hS rfl dJ0_length_8abf5_4 ?_
  refine lv_aload_n hx hb dJ0_length_8abf5_5 rfl (lv_at hl 0 rfl) ?_
  replace hF := obnd_of hF
  obtain ⟨r2, h1, hF⟩ := hF
  refine cT_i (As := []) (rest := [.int (Int32.ofNat (sLen.getD i 0))]) hi hx hb hml hT hown hE hP hS (kJ0_coder_7d493 l g nf i hi r2 h1) cw_J0_coder_7d493 mw11_8 ⟨⟨rfl, rfl⟩, Nat.le_of_ble_eq_true rfl, Nat.le_of_ble_eq_true rfl⟩ rfl hl.1 rfl (Nat.le_of_ble_eq_true rfl) dJ0_length_8abf5_6 ⟨Nat.zero_le _, Nat.zero_le _⟩ (fun H locs hP hS => ?_)
  refine lv_ishr hx hb dJ0_length_8abf5_9 ?_
  exact rS_i hx hb hr hlocks hF hS dJ0_length_8abf5_10
theorem cw_J0_length_8abf5 : (Cond.instanceMethod yJ0_length_8abf5 ∈ TB ∧ Cond.selects RJ0 yJ0_length_8abf5 yJ0_length_8abf5 ∈ TB ∧ Cond.code yJ0_length_8abf5 cJ0_length_8abf5 1 (some .int) ∈ TB) ∧ (yJ0_length_8abf5.cls = RJ0 ∧ yJ0_length_8abf5.cls ≠ "java/lang/invoke/MethodHandle" ∧ yJ0_length_8abf5.cls ≠ "java/lang/invoke/VarHandle" ∧ (parseMethodDescriptor yJ0_length_8abf5.desc).map (fun d => d.parameters.length) = some 0) := ⟨⟨mw11_5, mw11_6, mw11_7⟩, by decide +kernel⟩
/-! J1_canEncode_9a6ad -/
noncomputable def FJ1_canEncode_9a6ad_16 (nf : Nat) (t0 : Int32) : Option Int32 :=
  gd ((t0) &&& 1 = (t0)) (some (t0))
noncomputable def FJ1_canEncode_9a6ad_15 (nf : Nat)  : Option Int32 :=
  FJ1_canEncode_9a6ad_16 nf  (0 : Int32)
noncomputable def FJ1_canEncode_9a6ad (nf : Nat) (x0 : Int32) : Option Int32 :=
  br ((x0) < 0) (FJ1_canEncode_9a6ad_15 nf) (br ((255 : Int32) < (x0)) (FJ1_canEncode_9a6ad_15 nf) (FJ1_canEncode_9a6ad_16 nf  (1 : Int32)))
set_option maxHeartbeats 4000000 in
set_option maxRecDepth 100000 in
theorem kJ1_canEncode_9a6ad (l : Launch) (g : GT) (nf : Nat) (p0 : Int32) (r : Int32) (hF : FJ1_canEncode_9a6ad nf p0 = some r) : Met l yJ1_canEncode_9a6ad (wx yJ1_canEncode_9a6ad cJ1_canEncode_9a6ad 1 (some .boolean)) ({ frames := 0, cells := 0, slots := 0, locals := 0 } : Room) (va_Pc [.int p0] (PS g)) (QSi r) 0 0 noA := by
  refine Met.ofW (cc := cJ1_canEncode_9a6ad) (maxL := 1) (ret := (some .boolean)) (by decide) rfl ?_
  intro p e s m args below meth c s₁ B hml hv
  obtain ⟨rfl, hE⟩ := hv
  have hx := B.exec
  have hb := B.bytes
  have hr := B.returns
  have hts := atoms_spec (ws := (wx yJ1_canEncode_9a6ad cJ1_canEncode_9a6ad 1 (some .boolean))) B.pre
  have hT : ∀ w ∈ TB, w.before _ s = true := fun w h => hts w (List.mem_cons_of_mem _ h)
  have hown : s.vm.findClass RJ1 = some m.cls := findClass_of_methodNamed B.named
  have hlocks := B.notSynchronized
  have hS : va_S noA s.heap s.heap [] := va_S.rf
  have hP : va_P (gD g) vwCl [] s.heap := fun k q h => by cases h
  have hl := lv_entry ([.int p0]) (n := 1) (Nat.le_of_ble_eq_true rfl)
  rw [lg_entry_eq]
  generalize (lg_sl ([.int p0]) ++ List.replicate (1 - (lg_sl ([.int p0])).length) Slot.unset).toArray = ls at hl ⊢
  have hl : lv_has ls 1 [(0, .int p0)] := hl
  unfold FJ1_canEncode_9a6ad at hF
  have J16 : ∀ (t0 : Int32) (H : Heap) (locs : List Loc) (ls : Array Slot), FJ1_canEncode_9a6ad_16 nf t0 = some r → lv_has ls 1 [] → va_P (gD g) vwCl [] H → va_S noA s.heap H locs → W p l e (headSpec (wx yJ1_canEncode_9a6ad cJ1_canEncode_9a6ad 1 (some .boolean)) ({ frames := 0, cells := 0, slots := 0, locals := 0 } : Room)).room s m ([.int p0] : List Value).toArray below meth c H locs 0 0 (MQ below (QSi r) ([.int p0] : List Value).toArray s 0 0 noA) (F0 m 16 ls [.int t0]) := by
    intro t0 H locs ls hF hl hP hS
    unfold FJ1_canEncode_9a6ad_16 at hF
    replace hF := gd_of hF
    obtain ⟨hz1, hF⟩ := hF
    exact rS_z hx hb hr hlocks (nar_z hz1) hF hS dJ1_canEncode_9a6ad_16
  have J15 : ∀  (H : Heap) (locs : List Loc) (ls : Array Slot), FJ1_canEncode_9a6ad_15 nf  = some r → lv_has ls 1 [] → va_P (gD g) vwCl [] H → va_S noA s.heap H locs → W p l e (headSpec (wx yJ1_canEncode_9a6ad cJ1_canEncode_9a6ad 1 (some .boolean)) ({ frames := 0, cells := 0, slots := 0, locals := 0 } : Room)).room s m ([.int p0] : List Value).toArray below meth c H locs 0 0 (MQ below (QSi r) ([.int p0] : List Value).toArray s 0 0 noA) (F0 m 15 ls []) := by
    intro H locs ls hF hl hP hS
    unfold FJ1_canEncode_9a6ad_15 at hF
    refine lv_iconst (v := (0 : Int32)) hx hb dJ1_canEncode_9a6ad_15 (by decide) ?_
    exact J16 (0 : Int32)  _ _ _ hF (lv_sub hl [] rfl) hP hS
  replace hl := lv_sub hl [0] rfl
  refine lv_iload_n hx hb dJ1_canEncode_9a6ad_0 rfl (lv_at hl 0 rfl) ?_
  refine lv_if_lt (tgt := 15) hx hb dJ1_canEncode_9a6ad_1 (by decide) (fun hc2 => ?_) (fun hc2 => ?_)
  · replace hF := br_yes hF hc2
    exact J15   _ _ _ hF (lv_sub hl [] rfl) hP hS
  · replace hF := br_no hF hc2
    refine lv_iload_n hx hb dJ1_canEncode_9a6ad_4 rfl (lv_at hl 0 rfl) ?_
    refine lv_sipush (v := (255 : Int32)) hx hb dJ1_canEncode_9a6ad_5 (by decide) ?_
    refine lv_icmp_gt (tgt := 15) hx hb dJ1_canEncode_9a6ad_8 (by decide) (fun hc3 => ?_) (fun hc3 => ?_)
    · replace hF := br_yes hF hc3
      exact J15   _ _ _ hF (lv_sub hl [] rfl) hP hS
    · replace hF := br_no hF hc3
      refine lv_iconst (v := (1 : Int32)) hx hb dJ1_canEncode_9a6ad_11 (by decide) ?_
      refine lv_goto (tgt := 16) hx hb dJ1_canEncode_9a6ad_12 (by decide) ?_
      exact J16 (1 : Int32)  _ _ _ hF (lv_sub hl [] rfl) hP hS
theorem cw_J1_canEncode_9a6ad : (Cond.static yJ1_canEncode_9a6ad ∈ TB ∧ Cond.code yJ1_canEncode_9a6ad cJ1_canEncode_9a6ad 1 (some .boolean) ∈ TB ∧ Cond.initialized yJ1_canEncode_9a6ad.cls ∈ TB) ∧ (yJ1_canEncode_9a6ad.cls ≠ "java/lang/invoke/MethodHandle" ∧ yJ1_canEncode_9a6ad.cls ≠ "java/lang/invoke/VarHandle" ∧ (parseMethodDescriptor yJ1_canEncode_9a6ad.desc).map (fun d => d.parameters.length) = some 1) := ⟨⟨mw11_19, mw11_20, mw11_14⟩, by decide +kernel⟩
/-! J1_indexOfChar_4cfef -/
noncomputable def FJ1_indexOfChar_4cfef_7b (K7 : Int32 → Int32 → Int32 → Option Int32) (nf i : Nat) (x3 : Int32) (x4 : Int32) (x5 : Int32) : Option Int32 :=
  br ((x3) ≤ (x5)) (some (-1 : Int32)) (gd (¬ ((x5) < 0 ∨ sLen.getD i 0 ≤ (x5).toNatClampNeg)) (br (((sByt.getD i []).getD (x5).toNatClampNeg 0) = (x4)) (some (x5)) (bnd ((x5) + (1 : Int32)) fun x5_4 => K7 (x3) (x4) (x5_4))))
noncomputable def FJ1_indexOfChar_4cfef_7 (nf i : Nat) (kf : Nat) : Int32 → Int32 → Int32 → Option Int32 := Nat.rec (fun _ _ _ => none) (fun _ K7 => FJ1_indexOfChar_4cfef_7b K7 nf i) kf
noncomputable def FJ1_indexOfChar_4cfef (nf i : Nat) (x1 : Int32) (x2 : Int32) (x3 : Int32) : Option Int32 :=
  bnd ((x1).toInt8.toInt32) fun x4_5 => FJ1_indexOfChar_4cfef_7 nf i nf (x3) (x4_5) (x2)
set_option maxHeartbeats 4000000 in
set_option maxRecDepth 100000 in
theorem kJ1_indexOfChar_4cfef (l : Launch) (g : GT) (nf i : Nat) (hi : i < 2) (p1 : Int32) (p2 : Int32) (p3 : Int32) (r : Int32) (hF : FJ1_indexOfChar_4cfef nf i p1 p2 p3 = some r) : Met l yJ1_indexOfChar_4cfef (wx yJ1_indexOfChar_4cfef cJ1_indexOfChar_4cfef 6 (some .int)) ({ frames := 0, cells := 0, slots := 0, locals := 0 } : Room) (va_Pc [.ref (g.2.2.2 (2 + i)), .int p1, .int p2, .int p3] (PS g)) (QSi r) 0 0 noA := by
  refine Met.ofW (cc := cJ1_indexOfChar_4cfef) (maxL := 6) (ret := (some .int)) (by decide) rfl ?_
  intro p e s m args below meth c s₁ B hml hv
  obtain ⟨rfl, hE⟩ := hv
  have hx := B.exec
  have hb := B.bytes
  have hr := B.returns
  have hts := atoms_spec (ws := (wx yJ1_indexOfChar_4cfef cJ1_indexOfChar_4cfef 6 (some .int))) B.pre
  have hT : ∀ w ∈ TB, w.before _ s = true := fun w h => hts w (List.mem_cons_of_mem _ h)
  have hown : s.vm.findClass RJ1 = some m.cls := findClass_of_methodNamed B.named
  have hlocks := B.notSynchronized
  have hS : va_S noA s.heap s.heap [] := va_S.rf
  have hP : va_P (gD g) vwCl [] s.heap := fun k q h => by cases h
  have hl := lv_entry ([.ref (g.2.2.2 (2 + i)), .int p1, .int p2, .int p3]) (n := 6) (Nat.le_of_ble_eq_true rfl)
  rw [lg_entry_eq]
  generalize (lg_sl ([.ref (g.2.2.2 (2 + i)), .int p1, .int p2, .int p3]) ++ List.replicate (6 - (lg_sl ([.ref (g.2.2.2 (2 + i)), .int p1, .int p2, .int p3])).length) Slot.unset).toArray = ls at hl ⊢
  have hl : lv_has ls 6 [(0, .ref (g.2.2.2 (2 + i))), (1, .int p1), (2, .int p2), (3, .int p3)] := hl
  unfold FJ1_indexOfChar_4cfef at hF
  have L7 : ∀ kf : Nat, ∀ (x3 : Int32) (x4 : Int32) (x5 : Int32) (H : Heap) (locs : List Loc) (ls : Array Slot), FJ1_indexOfChar_4cfef_7 nf i kf x3 x4 x5 = some r → lv_has ls 6 [(0, .ref (g.2.2.2 (2 + i))), (3, .int x3), (4, .int x4), (5, .int x5)] → va_P (gD g) vwCl [] H → va_S noA s.heap H locs → W p l e (headSpec (wx yJ1_indexOfChar_4cfef cJ1_indexOfChar_4cfef 6 (some .int)) ({ frames := 0, cells := 0, slots := 0, locals := 0 } : Room)).room s m ([.ref (g.2.2.2 (2 + i)), .int p1, .int p2, .int p3] : List Value).toArray below meth c H locs 0 0 (MQ below (QSi r) ([.ref (g.2.2.2 (2 + i)), .int p1, .int p2, .int p3] : List Value).toArray s 0 0 noA) (F0 m 7 ls []) := by
    intro kf
    induction kf with
    | zero => intro x3 x4 x5 H locs ls hF hl hP hS; cases (show (none : Option Int32) = _ from hF)
    | succ kf ih7 =>
      intro x3 x4 x5 H locs ls hF hl hP hS
      obtain ⟨K7, hK7⟩ : ∃ K : Int32 → Int32 → Int32 → Option Int32, K = FJ1_indexOfChar_4cfef_7 nf i kf := ⟨_, rfl⟩
      replace hF : FJ1_indexOfChar_4cfef_7b K7 nf i x3 x4 x5 = some r := by rw [hK7]; exact hF
      rw [← hK7] at ih7
      clear hK7
      unfold FJ1_indexOfChar_4cfef_7b at hF
      refine lv_iload hx hb dJ1_indexOfChar_4cfef_7 (lv_at hl 3 rfl) ?_
      refine lv_iload_n hx hb dJ1_indexOfChar_4cfef_9 rfl (lv_at hl 1 rfl) ?_
      refine lv_icmp_ge (tgt := 31) hx hb dJ1_indexOfChar_4cfef_10 (by decide) (fun hc1 => ?_) (fun hc1 => ?_)
      · replace hF := br_yes hF hc1
        refine lv_iconst (v := (-1 : Int32)) hx hb dJ1_indexOfChar_4cfef_31 (by decide) ?_
        exact rS_i hx hb hr hlocks hF hS dJ1_indexOfChar_4cfef_32
      · replace hF := br_no hF hc1
        refine lv_aload_n hx hb dJ1_indexOfChar_4cfef_13 rfl (lv_at hl 0 rfl) ?_
        refine lv_iload hx hb dJ1_indexOfChar_4cfef_14 (lv_at hl 3 rfl) ?_
        replace hF := gd_of hF
        obtain ⟨hi2, hF⟩ := hF
        refine va_tb hx hb (hE.1.1.1 i hi).2.2.2 hS hi2 rfl dJ1_indexOfChar_4cfef_16 ?_
        refine lv_iload hx hb dJ1_indexOfChar_4cfef_17 (lv_at hl 2 rfl) ?_
        refine lv_icmp_ne (tgt := 25) hx hb dJ1_indexOfChar_4cfef_19 (by decide) (fun hc3 => ?_) (fun hc3 => ?_)
        · replace hF := br_no hF hc3
          obtain ⟨x5_4, ex5_4⟩ : ∃ y : Int32, y = (x5) + (1 : Int32) := ⟨_, rfl⟩
          replace hF := bnd_of hF ex5_4
          refine lv_iinc (v := x5_4) (lv' := [(5, .int (x5_4)), (0, .ref (g.2.2.2 (2 + i))), (3, .int (x3)), (4, .int (x4))]) hx hb dJ1_indexOfChar_4cfef_25 hl (k := 3) rfl (by rw [ex5_4]; rfl) (by decide) rfl (fun ls hl => ?_)
          refine lv_goto (tgt := 7) hx hb dJ1_indexOfChar_4cfef_28 (by decide) ?_
          exact ih7 (x3) (x4) (x5_4)  _ _ _ hF (lv_sub hl [1, 2, 3, 0] rfl) hP hS
        · replace hF := br_yes hF hc3
          refine lv_iload hx hb dJ1_indexOfChar_4cfef_22 (lv_at hl 3 rfl) ?_
          exact rS_i hx hb hr hlocks hF hS dJ1_indexOfChar_4cfef_24
  replace hl := lv_sub hl [0, 1, 2, 3] rfl
  refine lv_iload_n hx hb dJ1_indexOfChar_4cfef_0 rfl (lv_at hl 1 rfl) ?_
  refine lv_i2b hx hb dJ1_indexOfChar_4cfef_1 rfl ?_
  obtain ⟨x4_5, ex4_5⟩ : ∃ y : Int32, y = ((p1).toInt8.toInt32) := ⟨_, rfl⟩
  rw [← ex4_5]
  replace hF := bnd_of hF ex4_5
  refine lv_istore (lv' := [(4, .int (x4_5)), (0, .ref (g.2.2.2 (2 + i))), (1, .int (p1)), (2, .int (p2)), (3, .int (p3))]) hx hb dJ1_indexOfChar_4cfef_2 hl (by decide) rfl (fun ls hl => ?_)
  refine lv_iload_n hx hb dJ1_indexOfChar_4cfef_4 rfl (lv_at hl 3 rfl) ?_
  refine lv_istore (lv' := [(5, .int (p2)), (4, .int (x4_5)), (0, .ref (g.2.2.2 (2 + i))), (1, .int (p1)), (2, .int (p2)), (3, .int (p3))]) hx hb dJ1_indexOfChar_4cfef_5 hl (by decide) rfl (fun ls hl => ?_)
  exact L7 nf (p3) (x4_5) (p2)  _ _ _ hF (lv_sub hl [2, 5, 1, 0] rfl) hP hS
theorem cw_J1_indexOfChar_4cfef : (Cond.static yJ1_indexOfChar_4cfef ∈ TB ∧ Cond.code yJ1_indexOfChar_4cfef cJ1_indexOfChar_4cfef 6 (some .int) ∈ TB ∧ Cond.initialized yJ1_indexOfChar_4cfef.cls ∈ TB) ∧ (yJ1_indexOfChar_4cfef.cls ≠ "java/lang/invoke/MethodHandle" ∧ yJ1_indexOfChar_4cfef.cls ≠ "java/lang/invoke/VarHandle" ∧ (parseMethodDescriptor yJ1_indexOfChar_4cfef.desc).map (fun d => d.parameters.length) = some 4) := ⟨⟨mw11_22, mw11_23, mw11_14⟩, by decide +kernel⟩
/-! J1_indexOf_4cfef -/
noncomputable def FJ1_indexOf_4cfef (nf i : Nat) (x1 : Int32) (x2 : Int32) (x3 : Int32) : Option Int32 :=
  obnd (FJ1_canEncode_9a6ad nf (x1)) fun r2 => br ((r2) = 0) (some (-1 : Int32)) (bnd (if (x2) < (0 : Int32) then (0 : Int32) else (x2)) fun x2_4 => bnd (if (Int32.ofNat (sLen.getD i 0)) < (x3) then (Int32.ofNat (sLen.getD i 0)) else (x3)) fun x3_5 => br ((x2_4) < (x3_5)) (obnd (FJ1_indexOfChar_4cfef nf i (x1) (x2_4) (x3_5)) fun r8 => some (r8)) (some (-1 : Int32)))
set_option maxHeartbeats 4000000 in
set_option maxRecDepth 100000 in
theorem kJ1_indexOf_4cfef (l : Launch) (g : GT) (nf i : Nat) (hi : i < 2) (p1 : Int32) (p2 : Int32) (p3 : Int32) (r : Int32) (hF : FJ1_indexOf_4cfef nf i p1 p2 p3 = some r) : Met l yJ1_indexOf_4cfef (wx yJ1_indexOf_4cfef cJ1_indexOf_4cfef 4 (some .int)) ({ frames := 1, cells := 0, slots := 0, locals := 25 } : Room) (va_Pc [.ref (g.2.2.2 (2 + i)), .int p1, .int p2, .int p3] (PS g)) (QSi r) 0 0 noA := by
  refine Met.ofW (cc := cJ1_indexOf_4cfef) (maxL := 4) (ret := (some .int)) (by decide) rfl ?_
  intro p e s m args below meth c s₁ B hml hv
  obtain ⟨rfl, hE⟩ := hv
  have hx := B.exec
  have hb := B.bytes
  have hr := B.returns
  have hts := atoms_spec (ws := (wx yJ1_indexOf_4cfef cJ1_indexOf_4cfef 4 (some .int))) B.pre
  have hT : ∀ w ∈ TB, w.before _ s = true := fun w h => hts w (List.mem_cons_of_mem _ h)
  have hown : s.vm.findClass RJ1 = some m.cls := findClass_of_methodNamed B.named
  have hlocks := B.notSynchronized
  have hS : va_S noA s.heap s.heap [] := va_S.rf
  have hP : va_P (gD g) vwCl [] s.heap := fun k q h => by cases h
  have hl := lv_entry ([.ref (g.2.2.2 (2 + i)), .int p1, .int p2, .int p3]) (n := 4) (Nat.le_of_ble_eq_true rfl)
  rw [lg_entry_eq]
  generalize (lg_sl ([.ref (g.2.2.2 (2 + i)), .int p1, .int p2, .int p3]) ++ List.replicate (4 - (lg_sl ([.ref (g.2.2.2 (2 + i)), .int p1, .int p2, .int p3])).length) Slot.unset).toArray = ls at hl ⊢
  have hl : lv_has ls 4 [(0, .ref (g.2.2.2 (2 + i))), (1, .int p1), (2, .int p2), (3, .int p3)] := hl
  unfold FJ1_indexOf_4cfef at hF
  replace hl := lv_sub hl [0, 1, 2, 3] rfl
  refine lv_iload_n hx hb dJ1_indexOf_4cfef_0 rfl (lv_at hl 1 rfl) ?_
  replace hF := obnd_of hF
  obtain ⟨r2, h1, hF⟩ := hF
  refine cS_i (As := [.int (p1)]) (rest := []) hx hb hml hT hown hE hP hS (kJ1_canEncode_9a6ad l g nf (p1) r2 h1) cw_J1_canEncode_9a6ad mw11_18 ⟨⟨rfl, rfl⟩, Nat.le_of_ble_eq_true rfl, Nat.le_of_ble_eq_true rfl⟩ rfl hl.1 rfl (Nat.le_of_ble_eq_true rfl) dJ1_indexOf_4cfef_1 ⟨Nat.zero_le _, Nat.zero_le _⟩ (fun H locs hP hS => ?_)
  refine lv_if_ne (tgt := 9) hx hb dJ1_indexOf_4cfef_4 (by decide) (fun hc3 => ?_) (fun hc3 => ?_)
  · replace hF := br_no hF hc3
    refine lv_iload_n hx hb dJ1_indexOf_4cfef_9 rfl (lv_at hl 2 rfl) ?_
    refine lv_iconst (v := (0 : Int32)) hx hb dJ1_indexOf_4cfef_10 (by decide) ?_
    refine va_mmax hx hb (by rw [hml, hl.1]) hown (hT _ mw11_16) (hT _ mw1_22) (hT _ mw1_19) (hT _ mw1_23) (Nat.le_of_ble_eq_true rfl) (Nat.le_of_ble_eq_true rfl) (Nat.zero_le _) (Nat.zero_le _) dJ1_indexOf_4cfef_11 ?_
    obtain ⟨x2_4, ex2_4⟩ : ∃ y : Int32, y = (if (p2) < (0 : Int32) then (0 : Int32) else (p2)) := ⟨_, rfl⟩
    rw [← ex2_4]
    replace hF := bnd_of hF ex2_4
    refine lv_istore_n (lv' := [(2, .int (x2_4)), (0, .ref (g.2.2.2 (2 + i))), (1, .int (p1)), (3, .int (p3))]) hx hb dJ1_indexOf_4cfef_14 rfl hl (by decide) rfl (fun ls hl => ?_)
    refine lv_iload_n hx hb dJ1_indexOf_4cfef_15 rfl (lv_at hl 3 rfl) ?_
    refine lv_aload_n hx hb dJ1_indexOf_4cfef_16 rfl (lv_at hl 1 rfl) ?_
    refine va_tlen hx hb (hE.1.1.1 i hi).2.2.2 hS rfl dJ1_indexOf_4cfef_17 ?_
    refine va_mmin hx hb (by rw [hml, hl.1]) hown (hT _ mw11_17) (hT _ mw1_18) (hT _ mw1_19) (hT _ mw1_20) (Nat.le_of_ble_eq_true rfl) (Nat.le_of_ble_eq_true rfl) (Nat.zero_le _) (Nat.zero_le _) dJ1_indexOf_4cfef_18 ?_
    obtain ⟨x3_5, ex3_5⟩ : ∃ y : Int32, y = (if (Int32.ofNat (sLen.getD i 0)) < (p3) then (Int32.ofNat (sLen.getD i 0)) else (p3)) := ⟨_, rfl⟩
    rw [← ex3_5]
    replace hF := bnd_of hF ex3_5
    refine lv_istore_n (lv' := [(3, .int (x3_5)), (2, .int (x2_4)), (0, .ref (g.2.2.2 (2 + i))), (1, .int (p1))]) hx hb dJ1_indexOf_4cfef_21 rfl hl (by decide) rfl (fun ls hl => ?_)
    refine lv_iload_n hx hb dJ1_indexOf_4cfef_22 rfl (lv_at hl 1 rfl) ?_
    refine lv_iload_n hx hb dJ1_indexOf_4cfef_23 rfl (lv_at hl 0 rfl) ?_
    refine lv_icmp_lt (tgt := 29) hx hb dJ1_indexOf_4cfef_24 (by decide) (fun hc6 => ?_) (fun hc6 => ?_)
    · replace hF := br_yes hF hc6
      refine lv_aload_n hx hb dJ1_indexOf_4cfef_29 rfl (lv_at hl 2 rfl) ?_
      refine lv_iload_n hx hb dJ1_indexOf_4cfef_30 rfl (lv_at hl 3 rfl) ?_
      refine lv_iload_n hx hb dJ1_indexOf_4cfef_31 rfl (lv_at hl 1 rfl) ?_
      refine lv_iload_n hx hb dJ1_indexOf_4cfef_32 rfl (lv_at hl 0 rfl) ?_
      replace hF := obnd_of hF
      obtain ⟨r8, h7, hF⟩ := hF
      refine cS_i (As := [.ref (g.2.2.2 (2 + i)), .int (p1), .int (x2_4), .int (x3_5)]) (rest := []) hx hb hml hT hown hE hP hS (kJ1_indexOfChar_4cfef l g nf i hi (p1) (x2_4) (x3_5) r8 h7) cw_J1_indexOfChar_4cfef mw11_21 ⟨⟨rfl, rfl⟩, Nat.le_of_ble_eq_true rfl, Nat.le_of_ble_eq_true rfl⟩ rfl hl.1 rfl (Nat.le_of_ble_eq_true rfl) dJ1_indexOf_4cfef_33 ⟨Nat.zero_le _, Nat.zero_le _⟩ (fun H locs hP hS => ?_)
      exact rS_i hx hb hr hlocks hF hS dJ1_indexOf_4cfef_36
    · replace hF := br_no hF hc6
      refine lv_iconst (v := (-1 : Int32)) hx hb dJ1_indexOf_4cfef_27 (by decide) ?_
      exact rS_i hx hb hr hlocks hF hS dJ1_indexOf_4cfef_28
  · replace hF := br_yes hF hc3
    refine lv_iconst (v := (-1 : Int32)) hx hb dJ1_indexOf_4cfef_7 (by decide) ?_
    exact rS_i hx hb hr hlocks hF hS dJ1_indexOf_4cfef_8
theorem cw_J1_indexOf_4cfef : (Cond.static yJ1_indexOf_4cfef ∈ TB ∧ Cond.code yJ1_indexOf_4cfef cJ1_indexOf_4cfef 4 (some .int) ∈ TB ∧ Cond.initialized yJ1_indexOf_4cfef.cls ∈ TB) ∧ (yJ1_indexOf_4cfef.cls ≠ "java/lang/invoke/MethodHandle" ∧ yJ1_indexOf_4cfef.cls ≠ "java/lang/invoke/VarHandle" ∧ (parseMethodDescriptor yJ1_indexOf_4cfef.desc).map (fun d => d.parameters.length) = some 4) := ⟨⟨mw11_13, mw11_15, mw11_14⟩, by decide +kernel⟩
/-! J0_indexOf_7cf53 -/
noncomputable def FJ0_indexOf_7cf53_36 (nf i : Nat) (t0 : Int32) : Option Int32 :=
  some (t0)
noncomputable def FJ0_indexOf_7cf53 (nf i : Nat) (x1 : Int32) (x2 : Int32) : Option Int32 :=
  obnd (FJ0_isLatin1_aae02 nf i) fun r2 => br ((r2) = 0) (obnd (FJ0_length_8abf5 nf i) fun r5 => none) (obnd (FJ0_length_8abf5 nf i) fun r7 => obnd (FJ1_indexOf_4cfef nf i (x1) (x2) (r7)) fun r9 => FJ0_indexOf_7cf53_36 nf i  (r9))
set_option maxHeartbeats 4000000 in
set_option maxRecDepth 100000 in
theorem kJ0_indexOf_7cf53 (l : Launch) (g : GT) (nf i : Nat) (hi : i < 2) (p1 : Int32) (p2 : Int32) (r : Int32) (hF : FJ0_indexOf_7cf53 nf i p1 p2 = some r) : Met l yJ0_indexOf_7cf53 (wx yJ0_indexOf_7cf53 cJ0_indexOf_7cf53 3 (some .int)) ({ frames := 2, cells := 0, slots := 0, locals := 48 } : Room) (va_Pc [.ref (g.2.2.2 i), .int p1, .int p2] (PS g)) (QSi r) 0 0 noA := by
  refine Met.ofW (cc := cJ0_indexOf_7cf53) (maxL := 3) (ret := (some .int)) (by decide) rfl ?_
  intro p e s m args below meth c s₁ B hml hv
  obtain ⟨rfl, hE⟩ := hv
  have hx := B.exec
  have hb := B.bytes
  have hr := B.returns
  have hts := atoms_spec (ws := (wx yJ0_indexOf_7cf53 cJ0_indexOf_7cf53 3 (some .int))) B.pre
  have hT : ∀ w ∈ TB, w.before _ s = true := fun w h => hts w (List.mem_cons_of_mem _ h)
  have hown : s.vm.findClass RJ0 = some m.cls := findClass_of_methodNamed B.named
  have hlocks := B.notSynchronized
  have hS : va_S noA s.heap s.heap [] := va_S.rf
  have hP : va_P (gD g) vwCl [] s.heap := fun k q h => by cases h
  have hl := lv_entry ([.ref (g.2.2.2 i), .int p1, .int p2]) (n := 3) (Nat.le_of_ble_eq_true rfl)
  rw [lg_entry_eq]
  generalize (lg_sl ([.ref (g.2.2.2 i), .int p1, .int p2]) ++ List.replicate (3 - (lg_sl ([.ref (g.2.2.2 i), .int p1, .int p2])).length) Slot.unset).toArray = ls at hl ⊢
  have hl : lv_has ls 3 [(0, .ref (g.2.2.2 i)), (1, .int p1), (2, .int p2)] := hl
  unfold FJ0_indexOf_7cf53 at hF
  have J36 : ∀ (t0 : Int32) (H : Heap) (locs : List Loc) (ls : Array Slot), FJ0_indexOf_7cf53_36 nf i t0 = some r → lv_has ls 3 [(0, .ref (g.2.2.2 i))] → va_P (gD g) vwCl [] H → va_S noA s.heap H locs → W p l e (headSpec (wx yJ0_indexOf_7cf53 cJ0_indexOf_7cf53 3 (some .int)) ({ frames := 2, cells := 0, slots := 0, locals := 48 } : Room)).room s m ([.ref (g.2.2.2 i), .int p1, .int p2] : List Value).toArray below meth c H locs 0 0 (MQ below (QSi r) ([.ref (g.2.2.2 i), .int p1, .int p2] : List Value).toArray s 0 0 noA) (F0 m 36 ls [.int t0]) := by
    intro t0 H locs ls hF hl hP hS
    unfold FJ0_indexOf_7cf53_36 at hF
    exact rS_i hx hb hr hlocks hF hS dJ0_indexOf_7cf53_36
  replace hl := lv_sub hl [0, 1, 2] rfl
  refine lv_aload_n hx hb dJ0_indexOf_7cf53_0 rfl (lv_at hl 0 rfl) ?_
  replace hF := obnd_of hF
  obtain ⟨r2, h1, hF⟩ := hF
  refine cT_i (As := []) (rest := []) hi hx hb hml hT hown hE hP hS (kJ0_isLatin1_aae02 l g nf i hi r2 h1) cw_J0_isLatin1_aae02 mw10_22 ⟨⟨rfl, rfl⟩, Nat.le_of_ble_eq_true rfl, Nat.le_of_ble_eq_true rfl⟩ rfl hl.1 rfl (Nat.le_of_ble_eq_true rfl) dJ0_indexOf_7cf53_1 ⟨Nat.zero_le _, Nat.zero_le _⟩ (fun H locs hP hS => ?_)
  refine lv_if_eq (tgt := 23) hx hb dJ0_indexOf_7cf53_4 (by decide) (fun hc3 => ?_) (fun hc3 => ?_)
  · replace hF := br_yes hF hc3
    refine lv_aload_n hx hb dJ0_indexOf_7cf53_23 rfl (lv_at hl 0 rfl) ?_
    refine vk_getf hx hb (hE.1.1.1 i hi).2.2.1 hS hown (hT _ mw10_21) (fun _ h => h) dJ0_indexOf_7cf53_24 ?_
    refine lv_iload_n hx hb dJ0_indexOf_7cf53_27 rfl (lv_at hl 1 rfl) ?_
    refine lv_iload_n hx hb dJ0_indexOf_7cf53_28 rfl (lv_at hl 2 rfl) ?_
    refine lv_aload_n hx hb dJ0_indexOf_7cf53_29 rfl (lv_at hl 0 rfl) ?_
    replace hF := obnd_of hF
    obtain ⟨r5, h4, hF⟩ := hF
    refine cT_i (As := []) (rest := [.int (p2), .int (p1), .ref (g.2.2.2 (2 + i))]) hi hx hb hml hT hown hE hP hS (kJ0_length_8abf5 l g nf i hi r5 h4) cw_J0_length_8abf5 mw11_4 ⟨⟨rfl, rfl⟩, Nat.le_of_ble_eq_true rfl, Nat.le_of_ble_eq_true rfl⟩ rfl hl.1 rfl (Nat.le_of_ble_eq_true rfl) dJ0_indexOf_7cf53_30 ⟨Nat.zero_le _, Nat.zero_le _⟩ (fun H locs hP hS => ?_)
    cases hF
  · replace hF := br_no hF hc3
    refine lv_aload_n hx hb dJ0_indexOf_7cf53_7 rfl (lv_at hl 0 rfl) ?_
    refine vk_getf hx hb (hE.1.1.1 i hi).2.2.1 hS hown (hT _ mw10_21) (fun _ h => h) dJ0_indexOf_7cf53_8 ?_
    refine lv_iload_n hx hb dJ0_indexOf_7cf53_11 rfl (lv_at hl 1 rfl) ?_
    refine lv_iload_n hx hb dJ0_indexOf_7cf53_12 rfl (lv_at hl 2 rfl) ?_
    refine lv_aload_n hx hb dJ0_indexOf_7cf53_13 rfl (lv_at hl 0 rfl) ?_
    replace hF := obnd_of hF
    obtain ⟨r7, h6, hF⟩ := hF
    refine cT_i (As := []) (rest := [.int (p2), .int (p1), .ref (g.2.2.2 (2 + i))]) hi hx hb hml hT hown hE hP hS (kJ0_length_8abf5 l g nf i hi r7 h6) cw_J0_length_8abf5 mw11_4 ⟨⟨rfl, rfl⟩, Nat.le_of_ble_eq_true rfl, Nat.le_of_ble_eq_true rfl⟩ rfl hl.1 rfl (Nat.le_of_ble_eq_true rfl) dJ0_indexOf_7cf53_14 ⟨Nat.zero_le _, Nat.zero_le _⟩ (fun H locs hP hS => ?_)
    replace hF := obnd_of hF
    obtain ⟨r9, h8, hF⟩ := hF
    refine cS_i (As := [.ref (g.2.2.2 (2 + i)), .int (p1), .int (p2), .int (r7)]) (rest := []) hx hb hml hT hown hE hP hS (kJ1_indexOf_4cfef l g nf i hi (p1) (p2) (r7) r9 h8) cw_J1_indexOf_4cfef mw11_12 ⟨⟨rfl, rfl⟩, Nat.le_of_ble_eq_true rfl, Nat.le_of_ble_eq_true rfl⟩ rfl hl.1 rfl (Nat.le_of_ble_eq_true rfl) dJ0_indexOf_7cf53_17 ⟨Nat.zero_le _, Nat.zero_le _⟩ (fun H locs hP hS => ?_)
    refine lv_goto (tgt := 36) hx hb dJ0_indexOf_7cf53_20 (by decide) ?_
    exact J36 (r9)  _ _ _ hF (lv_sub hl [0] rfl) hP hS
theorem cw_J0_indexOf_7cf53 : (Cond.instanceMethod yJ0_indexOf_7cf53 ∈ TB ∧ Cond.selects RJ0 yJ0_indexOf_7cf53 yJ0_indexOf_7cf53 ∈ TB ∧ Cond.code yJ0_indexOf_7cf53 cJ0_indexOf_7cf53 3 (some .int) ∈ TB) ∧ (yJ0_indexOf_7cf53.cls = RJ0 ∧ yJ0_indexOf_7cf53.cls ≠ "java/lang/invoke/MethodHandle" ∧ yJ0_indexOf_7cf53.cls ≠ "java/lang/invoke/VarHandle" ∧ (parseMethodDescriptor yJ0_indexOf_7cf53.desc).map (fun d => d.parameters.length) = some 2) := ⟨⟨mw10_18, mw10_19, mw10_20⟩, by decide +kernel⟩
/-! J0_indexOf_0f7a4 -/
noncomputable def FJ0_indexOf_0f7a4 (nf i : Nat) (x1 : Int32) : Option Int32 :=
  obnd (FJ0_indexOf_7cf53 nf i (x1) (0 : Int32)) fun r2 => some (r2)
set_option maxHeartbeats 4000000 in
set_option maxRecDepth 100000 in
theorem kJ0_indexOf_0f7a4 (l : Launch) (g : GT) (nf i : Nat) (hi : i < 2) (p1 : Int32) (r : Int32) (hF : FJ0_indexOf_0f7a4 nf i p1 = some r) : Met l yJ0_indexOf_0f7a4 (wx yJ0_indexOf_0f7a4 cJ0_indexOf_0f7a4 2 (some .int)) ({ frames := 3, cells := 0, slots := 0, locals := 70 } : Room) (va_Pc [.ref (g.2.2.2 i), .int p1] (PS g)) (QSi r) 0 0 noA := by
  refine Met.ofW (cc := cJ0_indexOf_0f7a4) (maxL := 2) (ret := (some .int)) (by decide) rfl ?_
  intro p e s m args below meth c s₁ B hml hv
  obtain ⟨rfl, hE⟩ := hv
  have hx := B.exec
  have hb := B.bytes
  have hr := B.returns
  have hts := atoms_spec (ws := (wx yJ0_indexOf_0f7a4 cJ0_indexOf_0f7a4 2 (some .int))) B.pre
  have hT : ∀ w ∈ TB, w.before _ s = true := fun w h => hts w (List.mem_cons_of_mem _ h)
  have hown : s.vm.findClass RJ0 = some m.cls := findClass_of_methodNamed B.named
  have hlocks := B.notSynchronized
  have hS : va_S noA s.heap s.heap [] := va_S.rf
  have hP : va_P (gD g) vwCl [] s.heap := fun k q h => by cases h
  have hl := lv_entry ([.ref (g.2.2.2 i), .int p1]) (n := 2) (Nat.le_of_ble_eq_true rfl)
  rw [lg_entry_eq]
  generalize (lg_sl ([.ref (g.2.2.2 i), .int p1]) ++ List.replicate (2 - (lg_sl ([.ref (g.2.2.2 i), .int p1])).length) Slot.unset).toArray = ls at hl ⊢
  have hl : lv_has ls 2 [(0, .ref (g.2.2.2 i)), (1, .int p1)] := hl
  unfold FJ0_indexOf_0f7a4 at hF
  replace hl := lv_sub hl [0, 1] rfl
  refine lv_aload_n hx hb dJ0_indexOf_0f7a4_0 rfl (lv_at hl 0 rfl) ?_
  refine lv_iload_n hx hb dJ0_indexOf_0f7a4_1 rfl (lv_at hl 1 rfl) ?_
  refine lv_iconst (v := (0 : Int32)) hx hb dJ0_indexOf_0f7a4_2 (by decide) ?_
  replace hF := obnd_of hF
  obtain ⟨r2, h1, hF⟩ := hF
  refine cT_i (As := [.int (p1), .int (0 : Int32)]) (rest := []) hi hx hb hml hT hown hE hP hS (kJ0_indexOf_7cf53 l g nf i hi (p1) (0 : Int32) r2 h1) cw_J0_indexOf_7cf53 mw10_17 ⟨⟨rfl, rfl⟩, Nat.le_of_ble_eq_true rfl, Nat.le_of_ble_eq_true rfl⟩ rfl hl.1 rfl (Nat.le_of_ble_eq_true rfl) dJ0_indexOf_0f7a4_3 ⟨Nat.zero_le _, Nat.zero_le _⟩ (fun H locs hP hS => ?_)
  exact rS_i hx hb hr hlocks hF hS dJ0_indexOf_0f7a4_6
theorem cw_J0_indexOf_0f7a4 : (Cond.instanceMethod yJ0_indexOf_0f7a4 ∈ TB ∧ Cond.selects RJ0 yJ0_indexOf_0f7a4 yJ0_indexOf_0f7a4 ∈ TB ∧ Cond.code yJ0_indexOf_0f7a4 cJ0_indexOf_0f7a4 2 (some .int) ∈ TB) ∧ (yJ0_indexOf_0f7a4.cls = RJ0 ∧ yJ0_indexOf_0f7a4.cls ≠ "java/lang/invoke/MethodHandle" ∧ yJ0_indexOf_0f7a4.cls ≠ "java/lang/invoke/VarHandle" ∧ (parseMethodDescriptor yJ0_indexOf_0f7a4.desc).map (fun d => d.parameters.length) = some 1) := ⟨⟨mw10_13, mw10_14, mw10_16⟩, by decide +kernel⟩
/-! X11_isShortSign -/
noncomputable def M_isShortSign_43 (nf : Nat) (t0 : Int32) : Option Int32 :=
  gd ((t0) &&& 1 = (t0)) (some (t0))
noncomputable def M_isShortSign_42 (nf : Nat)  : Option Int32 :=
  M_isShortSign_43 nf  (0 : Int32)
noncomputable def M_isShortSign_38 (nf : Nat)  : Option Int32 :=
  M_isShortSign_43 nf  (1 : Int32)
noncomputable def M_isShortSign_24 (nf : Nat) (x0 : Int32) : Option Int32 :=
  br ((x0) ≤ 0) (M_isShortSign_42 nf) (obnd (FJ0_indexOf_0f7a4 nf 0 (((x0).toUInt32 % 65536).toInt32)) fun r4 => br ((r4) < 0) (M_isShortSign_42 nf) (M_isShortSign_38 nf))
noncomputable def M_isShortSign_12 (nf : Nat) (x0 : Int32) : Option Int32 :=
  br ((x0) < (48 : Int32)) (M_isShortSign_24 nf  (x0)) (br ((x0) ≤ (57 : Int32)) (M_isShortSign_38 nf) (M_isShortSign_24 nf  (x0)))
noncomputable def M_isShortSign (nf : Nat) (x0 : Int32) : Option Int32 :=
  br ((x0) < (65 : Int32)) (M_isShortSign_12 nf  (x0)) (br ((x0) ≤ (90 : Int32)) (M_isShortSign_38 nf) (M_isShortSign_12 nf  (x0)))
set_option maxHeartbeats 4000000 in
set_option maxRecDepth 100000 in
theorem k_isShortSign (l : Launch) (g : GT) (nf : Nat) (p0 : Int32) (r : Int32) (hF : M_isShortSign nf p0 = some r) : Met l yX11_isShortSign (wx yX11_isShortSign cX11_isShortSign 1 (some .boolean)) ({ frames := 4, cells := 0, slots := 0, locals := 91 } : Room) (va_Pc [.int p0] (PS g)) (QSi r) 0 0 noA := by
  refine Met.ofW (cc := cX11_isShortSign) (maxL := 1) (ret := (some .boolean)) (by decide) rfl ?_
  intro p e s m args below meth c s₁ B hml hv
  obtain ⟨rfl, hE⟩ := hv
  have hx := B.exec
  have hb := B.bytes
  have hr := B.returns
  have hts := atoms_spec (ws := (wx yX11_isShortSign cX11_isShortSign 1 (some .boolean))) B.pre
  have hT : ∀ w ∈ TB, w.before _ s = true := fun w h => hts w (List.mem_cons_of_mem _ h)
  have hown : s.vm.findClass RX11 = some m.cls := findClass_of_methodNamed B.named
  have hlocks := B.notSynchronized
  have hS : va_S noA s.heap s.heap [] := va_S.rf
  have hP : va_P (gD g) vwCl [] s.heap := fun k q h => by cases h
  have hl := lv_entry ([.int p0]) (n := 1) (Nat.le_of_ble_eq_true rfl)
  rw [lg_entry_eq]
  generalize (lg_sl ([.int p0]) ++ List.replicate (1 - (lg_sl ([.int p0])).length) Slot.unset).toArray = ls at hl ⊢
  have hl : lv_has ls 1 [(0, .int p0)] := hl
  unfold M_isShortSign at hF
  have J43 : ∀ (t0 : Int32) (H : Heap) (locs : List Loc) (ls : Array Slot), M_isShortSign_43 nf t0 = some r → lv_has ls 1 [] → va_P (gD g) vwCl [] H → va_S noA s.heap H locs → W p l e (headSpec (wx yX11_isShortSign cX11_isShortSign 1 (some .boolean)) ({ frames := 4, cells := 0, slots := 0, locals := 91 } : Room)).room s m ([.int p0] : List Value).toArray below meth c H locs 0 0 (MQ below (QSi r) ([.int p0] : List Value).toArray s 0 0 noA) (F0 m 43 ls [.int t0]) := by
    intro t0 H locs ls hF hl hP hS
    unfold M_isShortSign_43 at hF
    replace hF := gd_of hF
    obtain ⟨hz1, hF⟩ := hF
    exact rS_z hx hb hr hlocks (nar_z hz1) hF hS dX11_isShortSign_43
  have J42 : ∀  (H : Heap) (locs : List Loc) (ls : Array Slot), M_isShortSign_42 nf  = some r → lv_has ls 1 [] → va_P (gD g) vwCl [] H → va_S noA s.heap H locs → W p l e (headSpec (wx yX11_isShortSign cX11_isShortSign 1 (some .boolean)) ({ frames := 4, cells := 0, slots := 0, locals := 91 } : Room)).room s m ([.int p0] : List Value).toArray below meth c H locs 0 0 (MQ below (QSi r) ([.int p0] : List Value).toArray s 0 0 noA) (F0 m 42 ls []) := by
    intro H locs ls hF hl hP hS
    unfold M_isShortSign_42 at hF
    refine lv_iconst (v := (0 : Int32)) hx hb dX11_isShortSign_42 (by decide) ?_
    exact J43 (0 : Int32)  _ _ _ hF (lv_sub hl [] rfl) hP hS
  have J38 : ∀  (H : Heap) (locs : List Loc) (ls : Array Slot), M_isShortSign_38 nf  = some r → lv_has ls 1 [] → va_P (gD g) vwCl [] H → va_S noA s.heap H locs → W p l e (headSpec (wx yX11_isShortSign cX11_isShortSign 1 (some .boolean)) ({ frames := 4, cells := 0, slots := 0, locals := 91 } : Room)).room s m ([.int p0] : List Value).toArray below meth c H locs 0 0 (MQ below (QSi r) ([.int p0] : List Value).toArray s 0 0 noA) (F0 m 38 ls []) := by
    intro H locs ls hF hl hP hS
    unfold M_isShortSign_38 at hF
    refine lv_iconst (v := (1 : Int32)) hx hb dX11_isShortSign_38 (by decide) ?_
    refine lv_goto (tgt := 43) hx hb dX11_isShortSign_39 (by decide) ?_
    exact J43 (1 : Int32)  _ _ _ hF (lv_sub hl [] rfl) hP hS
  have J24 : ∀ (x0 : Int32) (H : Heap) (locs : List Loc) (ls : Array Slot), M_isShortSign_24 nf x0 = some r → lv_has ls 1 [(0, .int x0)] → va_P (gD g) vwCl [] H → va_S noA s.heap H locs → W p l e (headSpec (wx yX11_isShortSign cX11_isShortSign 1 (some .boolean)) ({ frames := 4, cells := 0, slots := 0, locals := 91 } : Room)).room s m ([.int p0] : List Value).toArray below meth c H locs 0 0 (MQ below (QSi r) ([.int p0] : List Value).toArray s 0 0 noA) (F0 m 24 ls []) := by
    intro x0 H locs ls hF hl hP hS
    unfold M_isShortSign_24 at hF
    refine lv_iload_n hx hb dX11_isShortSign_24 rfl (lv_at hl 0 rfl) ?_
    refine lv_if_le (tgt := 42) hx hb dX11_isShortSign_25 (by decide) (fun hc2 => ?_) (fun hc2 => ?_)
    · replace hF := br_yes hF hc2
      exact J42   _ _ _ hF (lv_sub hl [] rfl) hP hS
    · replace hF := br_no hF hc2
      refine va_ldcS (q := g.2.2.2 0) hx hb hown hE.2.1 dX11_isShortSign_28 ?_
      refine lv_iload_n hx hb dX11_isShortSign_30 rfl (lv_at hl 0 rfl) ?_
      refine lv_i2c hx hb dX11_isShortSign_31 rfl ?_
      replace hF := obnd_of hF
      obtain ⟨r4, h3, hF⟩ := hF
      refine cT_i (As := [.int (((x0).toUInt32 % 65536).toInt32)]) (rest := []) (by decide) hx hb hml hT hown hE hP hS (kJ0_indexOf_0f7a4 l g nf 0 (by decide) (((x0).toUInt32 % 65536).toInt32) r4 h3) cw_J0_indexOf_0f7a4 mw18_13 ⟨⟨rfl, rfl⟩, Nat.le_of_ble_eq_true rfl, Nat.le_of_ble_eq_true rfl⟩ rfl hl.1 rfl (Nat.le_of_ble_eq_true rfl) dX11_isShortSign_32 ⟨Nat.zero_le _, Nat.zero_le _⟩ (fun H locs hP hS => ?_)
      refine lv_if_lt (tgt := 42) hx hb dX11_isShortSign_35 (by decide) (fun hc5 => ?_) (fun hc5 => ?_)
      · replace hF := br_yes hF hc5
        exact J42   _ _ _ hF (lv_sub hl [] rfl) hP hS
      · replace hF := br_no hF hc5
        exact J38   _ _ _ hF (lv_sub hl [] rfl) hP hS
  have J12 : ∀ (x0 : Int32) (H : Heap) (locs : List Loc) (ls : Array Slot), M_isShortSign_12 nf x0 = some r → lv_has ls 1 [(0, .int x0)] → va_P (gD g) vwCl [] H → va_S noA s.heap H locs → W p l e (headSpec (wx yX11_isShortSign cX11_isShortSign 1 (some .boolean)) ({ frames := 4, cells := 0, slots := 0, locals := 91 } : Room)).room s m ([.int p0] : List Value).toArray below meth c H locs 0 0 (MQ below (QSi r) ([.int p0] : List Value).toArray s 0 0 noA) (F0 m 12 ls []) := by
    intro x0 H locs ls hF hl hP hS
    unfold M_isShortSign_12 at hF
    refine lv_iload_n hx hb dX11_isShortSign_12 rfl (lv_at hl 0 rfl) ?_
    refine lv_bipush (v := (48 : Int32)) hx hb dX11_isShortSign_13 (by decide) ?_
    refine lv_icmp_lt (tgt := 24) hx hb dX11_isShortSign_15 (by decide) (fun hc6 => ?_) (fun hc6 => ?_)
    · replace hF := br_yes hF hc6
      exact J24 (x0)  _ _ _ hF (lv_sub hl [0] rfl) hP hS
    · replace hF := br_no hF hc6
      refine lv_iload_n hx hb dX11_isShortSign_18 rfl (lv_at hl 0 rfl) ?_
      refine lv_bipush (v := (57 : Int32)) hx hb dX11_isShortSign_19 (by decide) ?_
      refine lv_icmp_le (tgt := 38) hx hb dX11_isShortSign_21 (by decide) (fun hc7 => ?_) (fun hc7 => ?_)
      · replace hF := br_yes hF hc7
        exact J38   _ _ _ hF (lv_sub hl [] rfl) hP hS
      · replace hF := br_no hF hc7
        exact J24 (x0)  _ _ _ hF (lv_sub hl [0] rfl) hP hS
  replace hl := lv_sub hl [0] rfl
  refine lv_iload_n hx hb dX11_isShortSign_0 rfl (lv_at hl 0 rfl) ?_
  refine lv_bipush (v := (65 : Int32)) hx hb dX11_isShortSign_1 (by decide) ?_
  refine lv_icmp_lt (tgt := 12) hx hb dX11_isShortSign_3 (by decide) (fun hc8 => ?_) (fun hc8 => ?_)
  · replace hF := br_yes hF hc8
    exact J12 (p0)  _ _ _ hF (lv_sub hl [0] rfl) hP hS
  · replace hF := br_no hF hc8
    refine lv_iload_n hx hb dX11_isShortSign_6 rfl (lv_at hl 0 rfl) ?_
    refine lv_bipush (v := (90 : Int32)) hx hb dX11_isShortSign_7 (by decide) ?_
    refine lv_icmp_le (tgt := 38) hx hb dX11_isShortSign_9 (by decide) (fun hc9 => ?_) (fun hc9 => ?_)
    · replace hF := br_yes hF hc9
      exact J38   _ _ _ hF (lv_sub hl [] rfl) hP hS
    · replace hF := br_no hF hc9
      exact J12 (p0)  _ _ _ hF (lv_sub hl [0] rfl) hP hS
theorem cw_X11_isShortSign : (Cond.static yX11_isShortSign ∈ TB ∧ Cond.code yX11_isShortSign cX11_isShortSign 1 (some .boolean) ∈ TB ∧ Cond.initialized yX11_isShortSign.cls ∈ TB) ∧ (yX11_isShortSign.cls ≠ "java/lang/invoke/MethodHandle" ∧ yX11_isShortSign.cls ≠ "java/lang/invoke/VarHandle" ∧ (parseMethodDescriptor yX11_isShortSign.desc).map (fun d => d.parameters.length) = some 1) := ⟨⟨mw18_11, mw18_12, mw1_5⟩, by decide +kernel⟩
/-! X11_isShort -/
noncomputable def M_isShort_120 (K19 : Int32 → Int32 → Int32 → Int32 → FI → AR → Option (Int32 × FI × AR)) (nf : Nat) (x1 : Int32) (x2 : Int32) (x4 : Int32) (t0 : Int32) (fi : FI) (ar : AR) : Option (Int32 × FI × AR) :=
  bnd ((x4) + (1 : Int32)) fun x4_1 => K19 (x1) (x2) (t0) (x4_1) fi ar
noncomputable def M_isShort_119 (K19 : Int32 → Int32 → Int32 → Int32 → FI → AR → Option (Int32 × FI × AR)) (nf : Nat) (x1 : Int32) (x2 : Int32) (x4 : Int32) (fi : FI) (ar : AR) : Option (Int32 × FI × AR) :=
  M_isShort_120 K19 nf  (x1) (x2) (x4) (0 : Int32) fi ar
noncomputable def M_isShort_115 (K19 : Int32 → Int32 → Int32 → Int32 → FI → AR → Option (Int32 × FI × AR)) (nf : Nat) (x1 : Int32) (x2 : Int32) (x4 : Int32) (fi : FI) (ar : AR) : Option (Int32 × FI × AR) :=
  M_isShort_120 K19 nf  (x1) (x2) (x4) (1 : Int32) fi ar
noncomputable def M_isShort_74 (K19 : Int32 → Int32 → Int32 → Int32 → FI → AR → Option (Int32 × FI × AR)) (nf : Nat) (x1 : Int32) (x2 : Int32) (x4 : Int32) (x5 : Int32) (t0 : Int32) (fi : FI) (ar : AR) : Option (Int32 × FI × AR) :=
  br ((t0) = 0) (M_isShort_119 K19 nf  (x1) (x2) (x4) fi ar) (br ((x2) = 0) (br ((x4) = 0) (M_isShort_115 K19 nf  (x1) (x2) (x4) fi ar) (br ((x4) = (8 : Int32)) (M_isShort_115 K19 nf  (x1) (x2) (x4) fi ar) (br ((x5) = 0) (obnd3 (M_one nf fi ar (((x1) + (x4)) - (1 : Int32))) fun r10 fi8 ar9 => br ((r10) = (32 : Int32)) (M_isShort_119 K19 nf  (x1) (x2) (x4) fi8 ar9) (M_isShort_115 K19 nf  (x1) (x2) (x4) fi8 ar9)) (M_isShort_115 K19 nf  (x1) (x2) (x4) fi ar)))) (M_isShort_115 K19 nf  (x1) (x2) (x4) fi ar))
noncomputable def M_isShort_73 (K19 : Int32 → Int32 → Int32 → Int32 → FI → AR → Option (Int32 × FI × AR)) (nf : Nat) (x1 : Int32) (x2 : Int32) (x4 : Int32) (x5 : Int32) (fi : FI) (ar : AR) : Option (Int32 × FI × AR) :=
  M_isShort_74 K19 nf  (x1) (x2) (x4) (x5) (0 : Int32) fi ar
noncomputable def M_isShort_69 (K19 : Int32 → Int32 → Int32 → Int32 → FI → AR → Option (Int32 × FI × AR)) (nf : Nat) (x1 : Int32) (x2 : Int32) (x4 : Int32) (x5 : Int32) (fi : FI) (ar : AR) : Option (Int32 × FI × AR) :=
  M_isShort_74 K19 nf  (x1) (x2) (x4) (x5) (1 : Int32) fi ar
noncomputable def M_isShort_44 (K19 : Int32 → Int32 → Int32 → Int32 → FI → AR → Option (Int32 × FI × AR)) (nf : Nat) (x1 : Int32) (x2 : Int32) (x3 : Int32) (x4 : Int32) (t0 : Int32) (fi : FI) (ar : AR) : Option (Int32 × FI × AR) :=
  br ((x3) = 0) (M_isShort_73 K19 nf  (x1) (x2) (x4) (t0) fi ar) (br ((t0) = 0) (obnd3 (M_one nf fi ar ((x1) + (x4))) fun r17 fi15 ar16 => obnd (M_isShortSign nf (r17)) fun r19 => br ((r19) = 0) (M_isShort_73 K19 nf  (x1) (x2) (x4) (t0) fi15 ar16) (M_isShort_69 K19 nf  (x1) (x2) (x4) (t0) fi15 ar16)) (M_isShort_69 K19 nf  (x1) (x2) (x4) (t0) fi ar))
noncomputable def M_isShort_19b (K19 : Int32 → Int32 → Int32 → Int32 → FI → AR → Option (Int32 × FI × AR)) (nf : Nat) (x1 : Int32) (x2 : Int32) (x3 : Int32) (x4 : Int32) (fi : FI) (ar : AR) : Option (Int32 × FI × AR) :=
  br ((11 : Int32) ≤ (x4)) (gd ((x3) &&& 1 = (x3)) (some ((x3), fi, ar))) (obnd3 (M_one nf fi ar ((x1) + (x4))) fun r26 fi24 ar25 => br ((r26) = (32 : Int32)) (M_isShort_44 K19 nf  (x1) (x2) (x3) (x4) (1 : Int32) fi24 ar25) (M_isShort_44 K19 nf  (x1) (x2) (x3) (x4) (0 : Int32) fi24 ar25))
noncomputable def M_isShort_19 (nf : Nat) (kf : Nat) : Int32 → Int32 → Int32 → Int32 → FI → AR → Option (Int32 × FI × AR) := Nat.rec (fun _ _ _ _ _ _ => none) (fun _ K19 => M_isShort_19b K19 nf) kf
noncomputable def M_isShort_15 (nf : Nat) (x1 : Int32) (x2 : Int32) (t0 : Int32) (fi : FI) (ar : AR) : Option (Int32 × FI × AR) :=
  M_isShort_19 nf nf (x1) (x2) (t0) (0 : Int32) fi ar
noncomputable def M_isShort (nf : Nat) (fi : FI) (ar : AR) (x1 : Int32) (x2 : Int32) : Option (Int32 × FI × AR) :=
  obnd3 (M_one nf fi ar (x1)) fun r31 fi29 ar30 => br ((r31) = (32 : Int32)) (M_isShort_15 nf  (x1) (x2) (0 : Int32) fi29 ar30) (M_isShort_15 nf  (x1) (x2) (1 : Int32) fi29 ar30)
set_option maxHeartbeats 4000000 in
set_option maxRecDepth 100000 in
theorem k_isShort (l : Launch) (g : GT) (am : Nat → Nat) (sz : Nat) (nf : Nat) (fi : FI) (ar : AR) (p1 : Int32) (p2 : Int32) (r : Int32) (fi' : FI) (ar' : AR) (hF : M_isShort nf fi ar p1 p2 = some (r, fi', ar')) : Met l yX11_isShort (wx yX11_isShort cX11_isShort 6 (some .boolean)) ({ frames := 5, cells := 0, slots := 0, locals := 111 } : Room) (va_Pc [.ref (am 0), .int p1, .int p2] (PM g am sz fi ar)) (QMi g am sz r fi' ar') 0 0 (AM am sz) := by
  refine Met.ofW (cc := cX11_isShort) (maxL := 6) (ret := (some .boolean)) (by decide) rfl ?_
  intro p e s m args below meth c s₁ B hml hv
  obtain ⟨rfl, hsz, hP, hK, hD0, hE⟩ := hv
  have hx := B.exec
  have hb := B.bytes
  have hr := B.returns
  have hts := atoms_spec (ws := (wx yX11_isShort cX11_isShort 6 (some .boolean))) B.pre
  have hT : ∀ w ∈ TB, w.before _ s = true := fun w h => hts w (List.mem_cons_of_mem _ h)
  have hown : s.vm.findClass RX11 = some m.cls := findClass_of_methodNamed B.named
  have hlocks := B.notSynchronized
  subst hsz
  have hD := dM hD0 s.heap.size
  have hA : ∀ q : Nat, s.heap.size ≤ q → AM am s.heap.size q := fun q h => Or.inr h
  have hS : va_S (AM am s.heap.size) s.heap s.heap [] := va_S.rf
  have hl := lv_entry ([.ref (am 0), .int p1, .int p2]) (n := 6) (Nat.le_of_ble_eq_true rfl)
  rw [lg_entry_eq]
  generalize (lg_sl ([.ref (am 0), .int p1, .int p2]) ++ List.replicate (6 - (lg_sl ([.ref (am 0), .int p1, .int p2])).length) Slot.unset).toArray = ls at hl ⊢
  have hl : lv_has ls 6 [(0, .ref (am 0)), (1, .int p1), (2, .int p2)] := hl
  unfold M_isShort at hF
  have L19 : ∀ kf : Nat, ∀ (x1 : Int32) (x2 : Int32) (x3 : Int32) (x4 : Int32) (fi : FI) (ar : AR) (H : Heap) (locs : List Loc) (ls : Array Slot), M_isShort_19 nf kf x1 x2 x3 x4 fi ar = some (r, fi', ar') → lv_has ls 6 [(0, .ref (am 0)), (1, .int x1), (2, .int x2), (3, .int x3), (4, .int x4)] → va_P (gD g) vwCl (WM g am fi ar) H → va_S (AM am s.heap.size) s.heap H locs → W p l e (headSpec (wx yX11_isShort cX11_isShort 6 (some .boolean)) ({ frames := 5, cells := 0, slots := 0, locals := 111 } : Room)).room s m ([.ref (am 0), .int p1, .int p2] : List Value).toArray below meth c H locs 0 0 (MQ below (QMi g am s.heap.size r fi' ar') ([.ref (am 0), .int p1, .int p2] : List Value).toArray s 0 0 (AM am s.heap.size)) (F0 m 19 ls []) := by
    intro kf
    induction kf with
    | zero => intro x1 x2 x3 x4 fi ar H locs ls hF hl hP hS; cases (show (none : Option (Int32 × FI × AR)) = _ from hF)
    | succ kf ih19 =>
      intro x1 x2 x3 x4 fi ar H locs ls hF hl hP hS
      obtain ⟨K19, hK19⟩ : ∃ K : Int32 → Int32 → Int32 → Int32 → FI → AR → Option (Int32 × FI × AR), K = M_isShort_19 nf kf := ⟨_, rfl⟩
      replace hF : M_isShort_19b K19 nf x1 x2 x3 x4 fi ar = some (r, fi', ar') := by rw [hK19]; exact hF
      rw [← hK19] at ih19
      clear hK19
      have J120 : ∀ (x1 : Int32) (x2 : Int32) (x4 : Int32) (t0 : Int32) (fi : FI) (ar : AR) (H : Heap) (locs : List Loc) (ls : Array Slot), M_isShort_120 K19 nf x1 x2 x4 t0 fi ar = some (r, fi', ar') → lv_has ls 6 [(0, .ref (am 0)), (1, .int x1), (2, .int x2), (4, .int x4)] → va_P (gD g) vwCl (WM g am fi ar) H → va_S (AM am s.heap.size) s.heap H locs → W p l e (headSpec (wx yX11_isShort cX11_isShort 6 (some .boolean)) ({ frames := 5, cells := 0, slots := 0, locals := 111 } : Room)).room s m ([.ref (am 0), .int p1, .int p2] : List Value).toArray below meth c H locs 0 0 (MQ below (QMi g am s.heap.size r fi' ar') ([.ref (am 0), .int p1, .int p2] : List Value).toArray s 0 0 (AM am s.heap.size)) (F0 m 120 ls [.int t0]) := by
        intro x1 x2 x4 t0 fi ar H locs ls hF hl hP hS
        unfold M_isShort_120 at hF
        refine lv_istore_n (lv' := [(3, .int (t0)), (0, .ref (am 0)), (1, .int (x1)), (2, .int (x2)), (4, .int (x4))]) hx hb dX11_isShort_120 rfl hl (by decide) rfl (fun ls hl => ?_)
        obtain ⟨x4_1, ex4_1⟩ : ∃ y : Int32, y = (x4) + (1 : Int32) := ⟨_, rfl⟩
        replace hF := bnd_of hF ex4_1
        refine lv_iinc (v := x4_1) (lv' := [(4, .int (x4_1)), (3, .int (t0)), (0, .ref (am 0)), (1, .int (x1)), (2, .int (x2))]) hx hb dX11_isShort_121 hl (k := 4) rfl (by rw [ex4_1]; rfl) (by decide) rfl (fun ls hl => ?_)
        refine lv_goto (tgt := 19) hx hb dX11_isShort_124 (by decide) ?_
        exact ih19 (x1) (x2) (t0) (x4_1) _ _ _ _ _ hF (lv_sub hl [2, 3, 4, 1, 0] rfl) hP hS
      have J119 : ∀ (x1 : Int32) (x2 : Int32) (x4 : Int32) (fi : FI) (ar : AR) (H : Heap) (locs : List Loc) (ls : Array Slot), M_isShort_119 K19 nf x1 x2 x4 fi ar = some (r, fi', ar') → lv_has ls 6 [(0, .ref (am 0)), (1, .int x1), (2, .int x2), (4, .int x4)] → va_P (gD g) vwCl (WM g am fi ar) H → va_S (AM am s.heap.size) s.heap H locs → W p l e (headSpec (wx yX11_isShort cX11_isShort 6 (some .boolean)) ({ frames := 5, cells := 0, slots := 0, locals := 111 } : Room)).room s m ([.ref (am 0), .int p1, .int p2] : List Value).toArray below meth c H locs 0 0 (MQ below (QMi g am s.heap.size r fi' ar') ([.ref (am 0), .int p1, .int p2] : List Value).toArray s 0 0 (AM am s.heap.size)) (F0 m 119 ls []) := by
        intro x1 x2 x4 fi ar H locs ls hF hl hP hS
        unfold M_isShort_119 at hF
        refine lv_iconst (v := (0 : Int32)) hx hb dX11_isShort_119 (by decide) ?_
        exact J120 (x1) (x2) (x4) (0 : Int32) _ _ _ _ _ hF (lv_sub hl [0, 1, 2, 3] rfl) hP hS
      have J115 : ∀ (x1 : Int32) (x2 : Int32) (x4 : Int32) (fi : FI) (ar : AR) (H : Heap) (locs : List Loc) (ls : Array Slot), M_isShort_115 K19 nf x1 x2 x4 fi ar = some (r, fi', ar') → lv_has ls 6 [(0, .ref (am 0)), (1, .int x1), (2, .int x2), (4, .int x4)] → va_P (gD g) vwCl (WM g am fi ar) H → va_S (AM am s.heap.size) s.heap H locs → W p l e (headSpec (wx yX11_isShort cX11_isShort 6 (some .boolean)) ({ frames := 5, cells := 0, slots := 0, locals := 111 } : Room)).room s m ([.ref (am 0), .int p1, .int p2] : List Value).toArray below meth c H locs 0 0 (MQ below (QMi g am s.heap.size r fi' ar') ([.ref (am 0), .int p1, .int p2] : List Value).toArray s 0 0 (AM am s.heap.size)) (F0 m 115 ls []) := by
        intro x1 x2 x4 fi ar H locs ls hF hl hP hS
        unfold M_isShort_115 at hF
        refine lv_iconst (v := (1 : Int32)) hx hb dX11_isShort_115 (by decide) ?_
        refine lv_goto (tgt := 120) hx hb dX11_isShort_116 (by decide) ?_
        exact J120 (x1) (x2) (x4) (1 : Int32) _ _ _ _ _ hF (lv_sub hl [0, 1, 2, 3] rfl) hP hS
      have J74 : ∀ (x1 : Int32) (x2 : Int32) (x4 : Int32) (x5 : Int32) (t0 : Int32) (fi : FI) (ar : AR) (H : Heap) (locs : List Loc) (ls : Array Slot), M_isShort_74 K19 nf x1 x2 x4 x5 t0 fi ar = some (r, fi', ar') → lv_has ls 6 [(0, .ref (am 0)), (1, .int x1), (2, .int x2), (4, .int x4), (5, .int x5)] → va_P (gD g) vwCl (WM g am fi ar) H → va_S (AM am s.heap.size) s.heap H locs → W p l e (headSpec (wx yX11_isShort cX11_isShort 6 (some .boolean)) ({ frames := 5, cells := 0, slots := 0, locals := 111 } : Room)).room s m ([.ref (am 0), .int p1, .int p2] : List Value).toArray below meth c H locs 0 0 (MQ below (QMi g am s.heap.size r fi' ar') ([.ref (am 0), .int p1, .int p2] : List Value).toArray s 0 0 (AM am s.heap.size)) (F0 m 74 ls [.int t0]) := by
        intro x1 x2 x4 x5 t0 fi ar H locs ls hF hl hP hS
        unfold M_isShort_74 at hF
        refine lv_istore_n (lv' := [(3, .int (t0)), (0, .ref (am 0)), (1, .int (x1)), (2, .int (x2)), (4, .int (x4)), (5, .int (x5))]) hx hb dX11_isShort_74 rfl hl (by decide) rfl (fun ls hl => ?_)
        refine lv_iload_n hx hb dX11_isShort_75 rfl (lv_at hl 0 rfl) ?_
        refine lv_if_eq (tgt := 119) hx hb dX11_isShort_76 (by decide) (fun hc2 => ?_) (fun hc2 => ?_)
        · replace hF := br_yes hF hc2
          exact J119 (x1) (x2) (x4) _ _ _ _ _ hF (lv_sub hl [1, 2, 3, 4] rfl) hP hS
        · replace hF := br_no hF hc2
          refine lv_iload_n hx hb dX11_isShort_79 rfl (lv_at hl 3 rfl) ?_
          refine lv_if_ne (tgt := 115) hx hb dX11_isShort_80 (by decide) (fun hc3 => ?_) (fun hc3 => ?_)
          · replace hF := br_no hF hc3
            exact J115 (x1) (x2) (x4) _ _ _ _ _ hF (lv_sub hl [1, 2, 3, 4] rfl) hP hS
          · replace hF := br_yes hF hc3
            refine lv_iload hx hb dX11_isShort_83 (lv_at hl 4 rfl) ?_
            refine lv_if_eq (tgt := 115) hx hb dX11_isShort_85 (by decide) (fun hc4 => ?_) (fun hc4 => ?_)
            · replace hF := br_yes hF hc4
              exact J115 (x1) (x2) (x4) _ _ _ _ _ hF (lv_sub hl [1, 2, 3, 4] rfl) hP hS
            · replace hF := br_no hF hc4
              refine lv_iload hx hb dX11_isShort_88 (lv_at hl 4 rfl) ?_
              refine lv_bipush (v := (8 : Int32)) hx hb dX11_isShort_90 (by decide) ?_
              refine lv_icmp_eq (tgt := 115) hx hb dX11_isShort_92 (by decide) (fun hc5 => ?_) (fun hc5 => ?_)
              · replace hF := br_yes hF hc5
                exact J115 (x1) (x2) (x4) _ _ _ _ _ hF (lv_sub hl [1, 2, 3, 4] rfl) hP hS
              · replace hF := br_no hF hc5
                refine lv_iload hx hb dX11_isShort_95 (lv_at hl 5 rfl) ?_
                refine lv_if_ne (tgt := 115) hx hb dX11_isShort_97 (by decide) (fun hc6 => ?_) (fun hc6 => ?_)
                · replace hF := br_no hF hc6
                  exact J115 (x1) (x2) (x4) _ _ _ _ _ hF (lv_sub hl [1, 2, 3, 4] rfl) hP hS
                · replace hF := br_yes hF hc6
                  refine lv_aload_n hx hb dX11_isShort_100 rfl (lv_at hl 1 rfl) ?_
                  refine lv_iload_n hx hb dX11_isShort_101 rfl (lv_at hl 2 rfl) ?_
                  refine lv_iload hx hb dX11_isShort_102 (lv_at hl 4 rfl) ?_
                  refine lv_iadd hx hb dX11_isShort_104 ?_
                  refine lv_iconst (v := (1 : Int32)) hx hb dX11_isShort_105 (by decide) ?_
                  refine lv_isub hx hb dX11_isShort_106 ?_
                  replace hF := obnd3_of hF
                  obtain ⟨r10, fi8, ar9, h7, hF⟩ := hF
                  refine cM_i (As := [.int (((x1) + (x4)) - (1 : Int32))]) (rest := []) hx hb hml hT hown hK hE hD hA hP hS (k_one l g am _ nf fi ar (((x1) + (x4)) - (1 : Int32)) r10 fi8 ar9 h7) cw_X11_one mw19_9 ⟨⟨rfl, rfl⟩, Nat.le_of_ble_eq_true rfl, Nat.le_of_ble_eq_true rfl⟩ rfl hl.1 rfl (Nat.le_of_ble_eq_true rfl) dX11_isShort_107 ⟨Nat.zero_le _, Nat.zero_le _⟩ (fun H locs hP hS => ?_)
                  refine lv_bipush (v := (32 : Int32)) hx hb dX11_isShort_110 (by decide) ?_
                  refine lv_icmp_eq (tgt := 119) hx hb dX11_isShort_112 (by decide) (fun hc11 => ?_) (fun hc11 => ?_)
                  · replace hF := br_yes hF hc11
                    exact J119 (x1) (x2) (x4) _ _ _ _ _ hF (lv_sub hl [1, 2, 3, 4] rfl) hP hS
                  · replace hF := br_no hF hc11
                    exact J115 (x1) (x2) (x4) _ _ _ _ _ hF (lv_sub hl [1, 2, 3, 4] rfl) hP hS
      have J73 : ∀ (x1 : Int32) (x2 : Int32) (x4 : Int32) (x5 : Int32) (fi : FI) (ar : AR) (H : Heap) (locs : List Loc) (ls : Array Slot), M_isShort_73 K19 nf x1 x2 x4 x5 fi ar = some (r, fi', ar') → lv_has ls 6 [(0, .ref (am 0)), (1, .int x1), (2, .int x2), (4, .int x4), (5, .int x5)] → va_P (gD g) vwCl (WM g am fi ar) H → va_S (AM am s.heap.size) s.heap H locs → W p l e (headSpec (wx yX11_isShort cX11_isShort 6 (some .boolean)) ({ frames := 5, cells := 0, slots := 0, locals := 111 } : Room)).room s m ([.ref (am 0), .int p1, .int p2] : List Value).toArray below meth c H locs 0 0 (MQ below (QMi g am s.heap.size r fi' ar') ([.ref (am 0), .int p1, .int p2] : List Value).toArray s 0 0 (AM am s.heap.size)) (F0 m 73 ls []) := by
        intro x1 x2 x4 x5 fi ar H locs ls hF hl hP hS
        unfold M_isShort_73 at hF
        refine lv_iconst (v := (0 : Int32)) hx hb dX11_isShort_73 (by decide) ?_
        exact J74 (x1) (x2) (x4) (x5) (0 : Int32) _ _ _ _ _ hF (lv_sub hl [0, 1, 2, 3, 4] rfl) hP hS
      have J69 : ∀ (x1 : Int32) (x2 : Int32) (x4 : Int32) (x5 : Int32) (fi : FI) (ar : AR) (H : Heap) (locs : List Loc) (ls : Array Slot), M_isShort_69 K19 nf x1 x2 x4 x5 fi ar = some (r, fi', ar') → lv_has ls 6 [(0, .ref (am 0)), (1, .int x1), (2, .int x2), (4, .int x4), (5, .int x5)] → va_P (gD g) vwCl (WM g am fi ar) H → va_S (AM am s.heap.size) s.heap H locs → W p l e (headSpec (wx yX11_isShort cX11_isShort 6 (some .boolean)) ({ frames := 5, cells := 0, slots := 0, locals := 111 } : Room)).room s m ([.ref (am 0), .int p1, .int p2] : List Value).toArray below meth c H locs 0 0 (MQ below (QMi g am s.heap.size r fi' ar') ([.ref (am 0), .int p1, .int p2] : List Value).toArray s 0 0 (AM am s.heap.size)) (F0 m 69 ls []) := by
        intro x1 x2 x4 x5 fi ar H locs ls hF hl hP hS
        unfold M_isShort_69 at hF
        refine lv_iconst (v := (1 : Int32)) hx hb dX11_isShort_69 (by decide) ?_
        refine lv_goto (tgt := 74) hx hb dX11_isShort_70 (by decide) ?_
        exact J74 (x1) (x2) (x4) (x5) (1 : Int32) _ _ _ _ _ hF (lv_sub hl [0, 1, 2, 3, 4] rfl) hP hS
      have J44 : ∀ (x1 : Int32) (x2 : Int32) (x3 : Int32) (x4 : Int32) (t0 : Int32) (fi : FI) (ar : AR) (H : Heap) (locs : List Loc) (ls : Array Slot), M_isShort_44 K19 nf x1 x2 x3 x4 t0 fi ar = some (r, fi', ar') → lv_has ls 6 [(0, .ref (am 0)), (1, .int x1), (2, .int x2), (3, .int x3), (4, .int x4)] → va_P (gD g) vwCl (WM g am fi ar) H → va_S (AM am s.heap.size) s.heap H locs → W p l e (headSpec (wx yX11_isShort cX11_isShort 6 (some .boolean)) ({ frames := 5, cells := 0, slots := 0, locals := 111 } : Room)).room s m ([.ref (am 0), .int p1, .int p2] : List Value).toArray below meth c H locs 0 0 (MQ below (QMi g am s.heap.size r fi' ar') ([.ref (am 0), .int p1, .int p2] : List Value).toArray s 0 0 (AM am s.heap.size)) (F0 m 44 ls [.int t0]) := by
        intro x1 x2 x3 x4 t0 fi ar H locs ls hF hl hP hS
        unfold M_isShort_44 at hF
        refine lv_istore (lv' := [(5, .int (t0)), (0, .ref (am 0)), (1, .int (x1)), (2, .int (x2)), (3, .int (x3)), (4, .int (x4))]) hx hb dX11_isShort_44 hl (by decide) rfl (fun ls hl => ?_)
        refine lv_iload_n hx hb dX11_isShort_46 rfl (lv_at hl 4 rfl) ?_
        refine lv_if_eq (tgt := 73) hx hb dX11_isShort_47 (by decide) (fun hc12 => ?_) (fun hc12 => ?_)
        · replace hF := br_yes hF hc12
          exact J73 (x1) (x2) (x4) (t0) _ _ _ _ _ hF (lv_sub hl [1, 2, 3, 5, 0] rfl) hP hS
        · replace hF := br_no hF hc12
          refine lv_iload hx hb dX11_isShort_50 (lv_at hl 0 rfl) ?_
          refine lv_if_ne (tgt := 69) hx hb dX11_isShort_52 (by decide) (fun hc13 => ?_) (fun hc13 => ?_)
          · replace hF := br_no hF hc13
            exact J69 (x1) (x2) (x4) (t0) _ _ _ _ _ hF (lv_sub hl [1, 2, 3, 5, 0] rfl) hP hS
          · replace hF := br_yes hF hc13
            refine lv_aload_n hx hb dX11_isShort_55 rfl (lv_at hl 1 rfl) ?_
            refine lv_iload_n hx hb dX11_isShort_56 rfl (lv_at hl 2 rfl) ?_
            refine lv_iload hx hb dX11_isShort_57 (lv_at hl 5 rfl) ?_
            refine lv_iadd hx hb dX11_isShort_59 ?_
            replace hF := obnd3_of hF
            obtain ⟨r17, fi15, ar16, h14, hF⟩ := hF
            refine cM_i (As := [.int ((x1) + (x4))]) (rest := []) hx hb hml hT hown hK hE hD hA hP hS (k_one l g am _ nf fi ar ((x1) + (x4)) r17 fi15 ar16 h14) cw_X11_one mw19_9 ⟨⟨rfl, rfl⟩, Nat.le_of_ble_eq_true rfl, Nat.le_of_ble_eq_true rfl⟩ rfl hl.1 rfl (Nat.le_of_ble_eq_true rfl) dX11_isShort_60 ⟨Nat.zero_le _, Nat.zero_le _⟩ (fun H locs hP hS => ?_)
            replace hF := obnd_of hF
            obtain ⟨r19, h18, hF⟩ := hF
            refine cS_i (As := [.int (r17)]) (rest := []) hx hb hml hT hown hE hP hS (k_isShortSign l g nf (r17) r19 h18) cw_X11_isShortSign mw18_10 ⟨⟨rfl, rfl⟩, Nat.le_of_ble_eq_true rfl, Nat.le_of_ble_eq_true rfl⟩ rfl hl.1 rfl (Nat.le_of_ble_eq_true rfl) dX11_isShort_63 ⟨Nat.zero_le _, Nat.zero_le _⟩ (fun H locs hP hS => ?_)
            refine lv_if_eq (tgt := 73) hx hb dX11_isShort_66 (by decide) (fun hc20 => ?_) (fun hc20 => ?_)
            · replace hF := br_yes hF hc20
              exact J73 (x1) (x2) (x4) (t0) _ _ _ _ _ hF (lv_sub hl [1, 2, 3, 5, 0] rfl) hP hS
            · replace hF := br_no hF hc20
              exact J69 (x1) (x2) (x4) (t0) _ _ _ _ _ hF (lv_sub hl [1, 2, 3, 5, 0] rfl) hP hS
      unfold M_isShort_19b at hF
      refine lv_iload hx hb dX11_isShort_19 (lv_at hl 4 rfl) ?_
      refine lv_bipush (v := (11 : Int32)) hx hb dX11_isShort_21 (by decide) ?_
      refine lv_icmp_ge (tgt := 127) hx hb dX11_isShort_23 (by decide) (fun hc21 => ?_) (fun hc21 => ?_)
      · replace hF := br_yes hF hc21
        refine lv_iload_n hx hb dX11_isShort_127 rfl (lv_at hl 3 rfl) ?_
        replace hF := gd_of hF
        obtain ⟨hz22, hF⟩ := hF
        exact rM_z hx hb hr hlocks (nar_z hz22) hF hP hS dX11_isShort_128
      · replace hF := br_no hF hc21
        refine lv_aload_n hx hb dX11_isShort_26 rfl (lv_at hl 0 rfl) ?_
        refine lv_iload_n hx hb dX11_isShort_27 rfl (lv_at hl 1 rfl) ?_
        refine lv_iload hx hb dX11_isShort_28 (lv_at hl 4 rfl) ?_
        refine lv_iadd hx hb dX11_isShort_30 ?_
        replace hF := obnd3_of hF
        obtain ⟨r26, fi24, ar25, h23, hF⟩ := hF
        refine cM_i (As := [.int ((x1) + (x4))]) (rest := []) hx hb hml hT hown hK hE hD hA hP hS (k_one l g am _ nf fi ar ((x1) + (x4)) r26 fi24 ar25 h23) cw_X11_one mw19_9 ⟨⟨rfl, rfl⟩, Nat.le_of_ble_eq_true rfl, Nat.le_of_ble_eq_true rfl⟩ rfl hl.1 rfl (Nat.le_of_ble_eq_true rfl) dX11_isShort_31 ⟨Nat.zero_le _, Nat.zero_le _⟩ (fun H locs hP hS => ?_)
        refine lv_bipush (v := (32 : Int32)) hx hb dX11_isShort_34 (by decide) ?_
        refine lv_icmp_ne (tgt := 43) hx hb dX11_isShort_36 (by decide) (fun hc27 => ?_) (fun hc27 => ?_)
        · replace hF := br_no hF hc27
          refine lv_iconst (v := (0 : Int32)) hx hb dX11_isShort_43 (by decide) ?_
          exact J44 (x1) (x2) (x3) (x4) (0 : Int32) _ _ _ _ _ hF (lv_sub hl [0, 1, 2, 3, 4] rfl) hP hS
        · replace hF := br_yes hF hc27
          refine lv_iconst (v := (1 : Int32)) hx hb dX11_isShort_39 (by decide) ?_
          refine lv_goto (tgt := 44) hx hb dX11_isShort_40 (by decide) ?_
          exact J44 (x1) (x2) (x3) (x4) (1 : Int32) _ _ _ _ _ hF (lv_sub hl [0, 1, 2, 3, 4] rfl) hP hS
  have J15 : ∀ (x1 : Int32) (x2 : Int32) (t0 : Int32) (fi : FI) (ar : AR) (H : Heap) (locs : List Loc) (ls : Array Slot), M_isShort_15 nf x1 x2 t0 fi ar = some (r, fi', ar') → lv_has ls 6 [(0, .ref (am 0)), (1, .int x1), (2, .int x2)] → va_P (gD g) vwCl (WM g am fi ar) H → va_S (AM am s.heap.size) s.heap H locs → W p l e (headSpec (wx yX11_isShort cX11_isShort 6 (some .boolean)) ({ frames := 5, cells := 0, slots := 0, locals := 111 } : Room)).room s m ([.ref (am 0), .int p1, .int p2] : List Value).toArray below meth c H locs 0 0 (MQ below (QMi g am s.heap.size r fi' ar') ([.ref (am 0), .int p1, .int p2] : List Value).toArray s 0 0 (AM am s.heap.size)) (F0 m 15 ls [.int t0]) := by
    intro x1 x2 t0 fi ar H locs ls hF hl hP hS
    unfold M_isShort_15 at hF
    refine lv_istore_n (lv' := [(3, .int (t0)), (0, .ref (am 0)), (1, .int (x1)), (2, .int (x2))]) hx hb dX11_isShort_15 rfl hl (by decide) rfl (fun ls hl => ?_)
    refine lv_iconst (v := (0 : Int32)) hx hb dX11_isShort_16 (by decide) ?_
    refine lv_istore (lv' := [(4, .int (0 : Int32)), (3, .int (t0)), (0, .ref (am 0)), (1, .int (x1)), (2, .int (x2))]) hx hb dX11_isShort_17 hl (by decide) rfl (fun ls hl => ?_)
    exact L19 nf (x1) (x2) (t0) (0 : Int32) _ _ _ _ _ hF (lv_sub hl [2, 3, 4, 1, 0] rfl) hP hS
  replace hl := lv_sub hl [0, 1, 2] rfl
  refine lv_aload_n hx hb dX11_isShort_0 rfl (lv_at hl 0 rfl) ?_
  refine lv_iload_n hx hb dX11_isShort_1 rfl (lv_at hl 1 rfl) ?_
  replace hF := obnd3_of hF
  obtain ⟨r31, fi29, ar30, h28, hF⟩ := hF
  refine cM_i (As := [.int (p1)]) (rest := []) hx hb hml hT hown hK hE hD hA hP hS (k_one l g am _ nf fi ar (p1) r31 fi29 ar30 h28) cw_X11_one mw19_9 ⟨⟨rfl, rfl⟩, Nat.le_of_ble_eq_true rfl, Nat.le_of_ble_eq_true rfl⟩ rfl hl.1 rfl (Nat.le_of_ble_eq_true rfl) dX11_isShort_2 ⟨Nat.zero_le _, Nat.zero_le _⟩ (fun H locs hP hS => ?_)
  refine lv_bipush (v := (32 : Int32)) hx hb dX11_isShort_5 (by decide) ?_
  refine lv_icmp_eq (tgt := 14) hx hb dX11_isShort_7 (by decide) (fun hc32 => ?_) (fun hc32 => ?_)
  · replace hF := br_yes hF hc32
    refine lv_iconst (v := (0 : Int32)) hx hb dX11_isShort_14 (by decide) ?_
    exact J15 (p1) (p2) (0 : Int32) _ _ _ _ _ hF (lv_sub hl [0, 1, 2] rfl) hP hS
  · replace hF := br_no hF hc32
    refine lv_iconst (v := (1 : Int32)) hx hb dX11_isShort_10 (by decide) ?_
    refine lv_goto (tgt := 15) hx hb dX11_isShort_11 (by decide) ?_
    exact J15 (p1) (p2) (1 : Int32) _ _ _ _ _ hF (lv_sub hl [0, 1, 2] rfl) hP hS
theorem cw_X11_isShort : (Cond.instanceMethod yX11_isShort ∈ TB ∧ Cond.selects RX11 yX11_isShort yX11_isShort ∈ TB ∧ Cond.code yX11_isShort cX11_isShort 6 (some .boolean) ∈ TB) ∧ (yX11_isShort.cls = RX11 ∧ yX11_isShort.cls ≠ "java/lang/invoke/MethodHandle" ∧ yX11_isShort.cls ≠ "java/lang/invoke/VarHandle" ∧ (parseMethodDescriptor yX11_isShort.desc).map (fun d => d.parameters.length) = some 2) := ⟨⟨mw34_12, mw34_13, mw34_14⟩, by decide +kernel⟩
/-! X11_sumOf -/
noncomputable def M_sumOf_4b (K4 : Int32 → Int32 → Int32 → FI → AR → Option (Int32 × FI × AR)) (nf : Nat) (x1 : Int32) (x2 : Int32) (x3 : Int32) (fi : FI) (ar : AR) : Option (Int32 × FI × AR) :=
  br ((11 : Int32) ≤ (x3)) (some ((x2), fi, ar)) (obnd3 (M_one nf fi ar ((x1) + (x3))) fun r5 fi3 ar4 => bnd ((((((x2) &&& (1 : Int32)) * (128 : Int32)) + ((x2) >>> ((1 : Int32) &&& 31))) + (r5)) &&& (255 : Int32)) fun x2_6 => bnd ((x3) + (1 : Int32)) fun x3_7 => K4 (x1) (x2_6) (x3_7) fi3 ar4)
noncomputable def M_sumOf_4 (nf : Nat) (kf : Nat) : Int32 → Int32 → Int32 → FI → AR → Option (Int32 × FI × AR) := Nat.rec (fun _ _ _ _ _ => none) (fun _ K4 => M_sumOf_4b K4 nf) kf
noncomputable def M_sumOf (nf : Nat) (fi : FI) (ar : AR) (x1 : Int32) : Option (Int32 × FI × AR) :=
  M_sumOf_4 nf nf (x1) (0 : Int32) (0 : Int32) fi ar
set_option maxHeartbeats 4000000 in
set_option maxRecDepth 100000 in
theorem k_sumOf (l : Launch) (g : GT) (am : Nat → Nat) (sz : Nat) (nf : Nat) (fi : FI) (ar : AR) (p1 : Int32) (r : Int32) (fi' : FI) (ar' : AR) (hF : M_sumOf nf fi ar p1 = some (r, fi', ar')) : Met l yX11_sumOf (wx yX11_sumOf cX11_sumOf 4 (some .int)) ({ frames := 1, cells := 0, slots := 0, locals := 21 } : Room) (va_Pc [.ref (am 0), .int p1] (PM g am sz fi ar)) (QMi g am sz r fi' ar') 0 0 (AM am sz) := by
  refine Met.ofW (cc := cX11_sumOf) (maxL := 4) (ret := (some .int)) (by decide) rfl ?_
  intro p e s m args below meth c s₁ B hml hv
  obtain ⟨rfl, hsz, hP, hK, hD0, hE⟩ := hv
  have hx := B.exec
  have hb := B.bytes
  have hr := B.returns
  have hts := atoms_spec (ws := (wx yX11_sumOf cX11_sumOf 4 (some .int))) B.pre
  have hT : ∀ w ∈ TB, w.before _ s = true := fun w h => hts w (List.mem_cons_of_mem _ h)
  have hown : s.vm.findClass RX11 = some m.cls := findClass_of_methodNamed B.named
  have hlocks := B.notSynchronized
  subst hsz
  have hD := dM hD0 s.heap.size
  have hA : ∀ q : Nat, s.heap.size ≤ q → AM am s.heap.size q := fun q h => Or.inr h
  have hS : va_S (AM am s.heap.size) s.heap s.heap [] := va_S.rf
  have hl := lv_entry ([.ref (am 0), .int p1]) (n := 4) (Nat.le_of_ble_eq_true rfl)
  rw [lg_entry_eq]
  generalize (lg_sl ([.ref (am 0), .int p1]) ++ List.replicate (4 - (lg_sl ([.ref (am 0), .int p1])).length) Slot.unset).toArray = ls at hl ⊢
  have hl : lv_has ls 4 [(0, .ref (am 0)), (1, .int p1)] := hl
  unfold M_sumOf at hF
  have L4 : ∀ kf : Nat, ∀ (x1 : Int32) (x2 : Int32) (x3 : Int32) (fi : FI) (ar : AR) (H : Heap) (locs : List Loc) (ls : Array Slot), M_sumOf_4 nf kf x1 x2 x3 fi ar = some (r, fi', ar') → lv_has ls 4 [(0, .ref (am 0)), (1, .int x1), (2, .int x2), (3, .int x3)] → va_P (gD g) vwCl (WM g am fi ar) H → va_S (AM am s.heap.size) s.heap H locs → W p l e (headSpec (wx yX11_sumOf cX11_sumOf 4 (some .int)) ({ frames := 1, cells := 0, slots := 0, locals := 21 } : Room)).room s m ([.ref (am 0), .int p1] : List Value).toArray below meth c H locs 0 0 (MQ below (QMi g am s.heap.size r fi' ar') ([.ref (am 0), .int p1] : List Value).toArray s 0 0 (AM am s.heap.size)) (F0 m 4 ls []) := by
    intro kf
    induction kf with
    | zero => intro x1 x2 x3 fi ar H locs ls hF hl hP hS; cases (show (none : Option (Int32 × FI × AR)) = _ from hF)
    | succ kf ih4 =>
      intro x1 x2 x3 fi ar H locs ls hF hl hP hS
      obtain ⟨K4, hK4⟩ : ∃ K : Int32 → Int32 → Int32 → FI → AR → Option (Int32 × FI × AR), K = M_sumOf_4 nf kf := ⟨_, rfl⟩
      replace hF : M_sumOf_4b K4 nf x1 x2 x3 fi ar = some (r, fi', ar') := by rw [hK4]; exact hF
      rw [← hK4] at ih4
      clear hK4
      unfold M_sumOf_4b at hF
      refine lv_iload_n hx hb dX11_sumOf_4 rfl (lv_at hl 3 rfl) ?_
      refine lv_bipush (v := (11 : Int32)) hx hb dX11_sumOf_5 (by decide) ?_
      refine lv_icmp_ge (tgt := 40) hx hb dX11_sumOf_7 (by decide) (fun hc1 => ?_) (fun hc1 => ?_)
      · replace hF := br_yes hF hc1
        refine lv_iload_n hx hb dX11_sumOf_40 rfl (lv_at hl 2 rfl) ?_
        exact rM_i hx hb hr hlocks hF hP hS dX11_sumOf_41
      · replace hF := br_no hF hc1
        refine lv_iload_n hx hb dX11_sumOf_10 rfl (lv_at hl 2 rfl) ?_
        refine lv_iconst (v := (1 : Int32)) hx hb dX11_sumOf_11 (by decide) ?_
        refine lv_iand hx hb dX11_sumOf_12 ?_
        refine lv_sipush (v := (128 : Int32)) hx hb dX11_sumOf_13 (by decide) ?_
        refine lv_imul hx hb dX11_sumOf_16 ?_
        refine lv_iload_n hx hb dX11_sumOf_17 rfl (lv_at hl 2 rfl) ?_
        refine lv_iconst (v := (1 : Int32)) hx hb dX11_sumOf_18 (by decide) ?_
        refine lv_ishr hx hb dX11_sumOf_19 ?_
        refine lv_iadd hx hb dX11_sumOf_20 ?_
        refine lv_aload_n hx hb dX11_sumOf_21 rfl (lv_at hl 0 rfl) ?_
        refine lv_iload_n hx hb dX11_sumOf_22 rfl (lv_at hl 1 rfl) ?_
        refine lv_iload_n hx hb dX11_sumOf_23 rfl (lv_at hl 3 rfl) ?_
        refine lv_iadd hx hb dX11_sumOf_24 ?_
        replace hF := obnd3_of hF
        obtain ⟨r5, fi3, ar4, h2, hF⟩ := hF
        refine cM_i (As := [.int ((x1) + (x3))]) (rest := [.int ((((x2) &&& (1 : Int32)) * (128 : Int32)) + ((x2) >>> ((1 : Int32) &&& 31)))]) hx hb hml hT hown hK hE hD hA hP hS (k_one l g am _ nf fi ar ((x1) + (x3)) r5 fi3 ar4 h2) cw_X11_one mw19_9 ⟨⟨rfl, rfl⟩, Nat.le_of_ble_eq_true rfl, Nat.le_of_ble_eq_true rfl⟩ rfl hl.1 rfl (Nat.le_of_ble_eq_true rfl) dX11_sumOf_25 ⟨Nat.zero_le _, Nat.zero_le _⟩ (fun H locs hP hS => ?_)
        refine lv_iadd hx hb dX11_sumOf_28 ?_
        refine lv_sipush (v := (255 : Int32)) hx hb dX11_sumOf_29 (by decide) ?_
        refine lv_iand hx hb dX11_sumOf_32 ?_
        obtain ⟨x2_6, ex2_6⟩ : ∃ y : Int32, y = ((((((x2) &&& (1 : Int32)) * (128 : Int32)) + ((x2) >>> ((1 : Int32) &&& 31))) + (r5)) &&& (255 : Int32)) := ⟨_, rfl⟩
        rw [← ex2_6]
        replace hF := bnd_of hF ex2_6
        refine lv_istore_n (lv' := [(2, .int (x2_6)), (0, .ref (am 0)), (1, .int (x1)), (3, .int (x3))]) hx hb dX11_sumOf_33 rfl hl (by decide) rfl (fun ls hl => ?_)
        obtain ⟨x3_7, ex3_7⟩ : ∃ y : Int32, y = (x3) + (1 : Int32) := ⟨_, rfl⟩
        replace hF := bnd_of hF ex3_7
        refine lv_iinc (v := x3_7) (lv' := [(3, .int (x3_7)), (2, .int (x2_6)), (0, .ref (am 0)), (1, .int (x1))]) hx hb dX11_sumOf_34 hl (k := 3) rfl (by rw [ex3_7]; rfl) (by decide) rfl (fun ls hl => ?_)
        refine lv_goto (tgt := 4) hx hb dX11_sumOf_37 (by decide) ?_
        exact ih4 (x1) (x2_6) (x3_7) _ _ _ _ _ hF (lv_sub hl [2, 3, 1, 0] rfl) hP hS
  replace hl := lv_sub hl [0, 1] rfl
  refine lv_iconst (v := (0 : Int32)) hx hb dX11_sumOf_0 (by decide) ?_
  refine lv_istore_n (lv' := [(2, .int (0 : Int32)), (0, .ref (am 0)), (1, .int (p1))]) hx hb dX11_sumOf_1 rfl hl (by decide) rfl (fun ls hl => ?_)
  refine lv_iconst (v := (0 : Int32)) hx hb dX11_sumOf_2 (by decide) ?_
  refine lv_istore_n (lv' := [(3, .int (0 : Int32)), (2, .int (0 : Int32)), (0, .ref (am 0)), (1, .int (p1))]) hx hb dX11_sumOf_3 rfl hl (by decide) rfl (fun ls hl => ?_)
  exact L4 nf (p1) (0 : Int32) (0 : Int32) _ _ _ _ _ hF (lv_sub hl [2, 3, 1, 0] rfl) hP hS
theorem cw_X11_sumOf : (Cond.instanceMethod yX11_sumOf ∈ TB ∧ Cond.selects RX11 yX11_sumOf yX11_sumOf ∈ TB ∧ Cond.code yX11_sumOf cX11_sumOf 4 (some .int) ∈ TB) ∧ (yX11_sumOf.cls = RX11 ∧ yX11_sumOf.cls ≠ "java/lang/invoke/MethodHandle" ∧ yX11_sumOf.cls ≠ "java/lang/invoke/VarHandle" ∧ (parseMethodDescriptor yX11_sumOf.desc).map (fun d => d.parameters.length) = some 1) := ⟨⟨mw34_16, mw34_17, mw34_18⟩, by decide +kernel⟩
