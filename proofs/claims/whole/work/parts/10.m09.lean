/-! X11_timeOf -/
noncomputable def M_timeOf_84 (nf : Nat) (x3 : Int32) (fi : FI) (ar : AR) : Option (Int64 × FI × AR) :=
  obnd3 (M_two nf fi ar ((x3) + (24 : Int32))) fun r4 fi2 ar3 => obnd3 (M_two nf fi2 ar3 ((x3) + (22 : Int32))) fun r8 fi6 ar7 => obnd (M_seconds nf (r4) (r8)) fun r10 => some ((r10), fi6, ar7)
noncomputable def M_timeOf_35 (nf : Nat) (x2 : Int32) (x3 : Int32) (fi : FI) (ar : AR) : Option (Int64 × FI × AR) :=
  br ((x2) = (1 : Int32)) (obnd3 (M_two nf fi ar ((x3) + (16 : Int32))) fun r15 fi13 ar14 => br ((r15) = 0) (M_timeOf_84 nf  (x3) fi13 ar14) (obnd3 (M_two nf fi13 ar14 ((x3) + (16 : Int32))) fun r20 fi18 ar19 => obnd3 (M_two nf fi18 ar19 ((x3) + (14 : Int32))) fun r24 fi22 ar23 => obnd (M_seconds nf (r20) (r24)) fun r26 => obnd3 (M_one nf fi22 ar23 ((x3) + (13 : Int32))) fun r30 fi28 ar29 => some (((r26) + (((r30) / (100 : Int32)).toInt64)), fi28, ar29))) (M_timeOf_84 nf  (x3) fi ar)
noncomputable def M_timeOf (nf : Nat) (fi : FI) (ar : AR) (x1 : Int32) (x2 : Int32) : Option (Int64 × FI × AR) :=
  gd (¬ ((x1) < 0 ∨ 16400 ≤ (x1).toNatClampNeg)) (bnd (ar 20 (x1).toNatClampNeg) fun x3_32 => br ((x2) = 0) (obnd3 (M_two nf fi ar ((x3_32) + (18 : Int32))) fun r37 fi35 ar36 => br ((r37) = 0) (M_timeOf_35 nf  (x2) (x3_32) fi35 ar36) (obnd3 (M_two nf fi35 ar36 ((x3_32) + (18 : Int32))) fun r42 fi40 ar41 => obnd (M_seconds nf (r42) (0 : Int32)) fun r44 => some ((r44), fi40, ar41))) (M_timeOf_35 nf  (x2) (x3_32) fi ar))
set_option maxHeartbeats 4000000 in
set_option maxRecDepth 100000 in
theorem k_timeOf (l : Launch) (g : GT) (am : Nat → Nat) (sz : Nat) (nf : Nat) (fi : FI) (ar : AR) (p1 : Int32) (p2 : Int32) (r : Int64) (fi' : FI) (ar' : AR) (hF : M_timeOf nf fi ar p1 p2 = some (r, fi', ar')) : Met l yX11_timeOf (wx yX11_timeOf cX11_timeOf 4 (some .long)) ({ frames := 3, cells := 0, slots := 0, locals := 67 } : Room) (va_Pc [.ref (am 0), .int p1, .int p2] (PM g am sz fi ar)) (QMl g am sz r fi' ar') 0 0 (AM am sz) := by
  refine Met.ofW (cc := cX11_timeOf) (maxL := 4) (ret := (some .long)) (by decide) rfl ?_
  intro p e s m args below meth c s₁ B hml hv
  obtain ⟨rfl, hsz, hP, hK, hD0, hE⟩ := hv
  have hx := B.exec
  have hb := B.bytes
  have hr := B.returns
  have hts := atoms_spec (ws := (wx yX11_timeOf cX11_timeOf 4 (some .long))) B.pre
  have hT : ∀ w ∈ TB, w.before _ s = true := fun w h => hts w (List.mem_cons_of_mem _ h)
  have hown : s.vm.findClass RX11 = some m.cls := findClass_of_methodNamed B.named
  have hlocks := B.notSynchronized
  subst hsz
  have hD := dM hD0 s.heap.size
  have hA : ∀ q : Nat, s.heap.size ≤ q → AM am s.heap.size q := fun q h => Or.inr h
  have hS : va_S (AM am s.heap.size) s.heap s.heap [] := va_S.rf
  have hl := lv_entry ([.ref (am 0), .int p1, .int p2]) (n := 4) (Nat.le_of_ble_eq_true rfl)
  rw [lg_entry_eq]
  generalize (lg_sl ([.ref (am 0), .int p1, .int p2]) ++ List.replicate (4 - (lg_sl ([.ref (am 0), .int p1, .int p2])).length) Slot.unset).toArray = ls at hl ⊢
  have hl : lv_has ls 4 [(0, .ref (am 0)), (1, .int p1), (2, .int p2)] := hl
  unfold M_timeOf at hF
  have J84 : ∀ (x3 : Int32) (fi : FI) (ar : AR) (H : Heap) (locs : List Loc) (ls : Array Slot), M_timeOf_84 nf x3 fi ar = some (r, fi', ar') → lv_has ls 4 [(0, .ref (am 0)), (3, .int x3)] → va_P (gD g) vwCl (WM g am fi ar) H → va_S (AM am s.heap.size) s.heap H locs → W p l e (headSpec (wx yX11_timeOf cX11_timeOf 4 (some .long)) ({ frames := 3, cells := 0, slots := 0, locals := 67 } : Room)).room s m ([.ref (am 0), .int p1, .int p2] : List Value).toArray below meth c H locs 0 0 (MQ below (QMl g am s.heap.size r fi' ar') ([.ref (am 0), .int p1, .int p2] : List Value).toArray s 0 0 (AM am s.heap.size)) (F0 m 84 ls []) := by
    intro x3 fi ar H locs ls hF hl hP hS
    unfold M_timeOf_84 at hF
    refine lv_aload_n hx hb dX11_timeOf_84 rfl (lv_at hl 0 rfl) ?_
    refine lv_iload_n hx hb dX11_timeOf_85 rfl (lv_at hl 1 rfl) ?_
    refine lv_bipush (v := (24 : Int32)) hx hb dX11_timeOf_86 (by decide) ?_
    refine lv_iadd hx hb dX11_timeOf_88 ?_
    replace hF := obnd3_of hF
    obtain ⟨r4, fi2, ar3, h1, hF⟩ := hF
    refine cM_i (As := [.int ((x3) + (24 : Int32))]) (rest := []) hx hb hml hT hown hK hE hD hA hP hS (k_two l g am _ nf fi ar ((x3) + (24 : Int32)) r4 fi2 ar3 h1) cw_X11_two mw19_13 ⟨⟨rfl, rfl⟩, Nat.le_of_ble_eq_true rfl, Nat.le_of_ble_eq_true rfl⟩ rfl hl.1 rfl (Nat.le_of_ble_eq_true rfl) dX11_timeOf_89 ⟨Nat.zero_le _, Nat.zero_le _⟩ (fun H locs hP hS => ?_)
    refine lv_aload_n hx hb dX11_timeOf_92 rfl (lv_at hl 0 rfl) ?_
    refine lv_iload_n hx hb dX11_timeOf_93 rfl (lv_at hl 1 rfl) ?_
    refine lv_bipush (v := (22 : Int32)) hx hb dX11_timeOf_94 (by decide) ?_
    refine lv_iadd hx hb dX11_timeOf_96 ?_
    replace hF := obnd3_of hF
    obtain ⟨r8, fi6, ar7, h5, hF⟩ := hF
    refine cM_i (As := [.int ((x3) + (22 : Int32))]) (rest := [.int (r4)]) hx hb hml hT hown hK hE hD hA hP hS (k_two l g am _ nf fi2 ar3 ((x3) + (22 : Int32)) r8 fi6 ar7 h5) cw_X11_two mw19_13 ⟨⟨rfl, rfl⟩, Nat.le_of_ble_eq_true rfl, Nat.le_of_ble_eq_true rfl⟩ rfl hl.1 rfl (Nat.le_of_ble_eq_true rfl) dX11_timeOf_97 ⟨Nat.zero_le _, Nat.zero_le _⟩ (fun H locs hP hS => ?_)
    replace hF := obnd_of hF
    obtain ⟨r10, h9, hF⟩ := hF
    refine cS_l (As := [.int (r4), .int (r8)]) (rest := []) hx hb hml hT hown hE hP hS (k_seconds l g nf (r4) (r8) r10 h9) cw_X11_seconds mw42_7 ⟨⟨rfl, rfl⟩, Nat.le_of_ble_eq_true rfl, Nat.le_of_ble_eq_true rfl⟩ rfl hl.1 rfl (Nat.le_of_ble_eq_true rfl) dX11_timeOf_100 ⟨Nat.zero_le _, Nat.zero_le _⟩ (fun H locs hP hS => ?_)
    exact rM_l hx hb hr hlocks hF hP hS dX11_timeOf_103
  have J35 : ∀ (x2 : Int32) (x3 : Int32) (fi : FI) (ar : AR) (H : Heap) (locs : List Loc) (ls : Array Slot), M_timeOf_35 nf x2 x3 fi ar = some (r, fi', ar') → lv_has ls 4 [(0, .ref (am 0)), (2, .int x2), (3, .int x3)] → va_P (gD g) vwCl (WM g am fi ar) H → va_S (AM am s.heap.size) s.heap H locs → W p l e (headSpec (wx yX11_timeOf cX11_timeOf 4 (some .long)) ({ frames := 3, cells := 0, slots := 0, locals := 67 } : Room)).room s m ([.ref (am 0), .int p1, .int p2] : List Value).toArray below meth c H locs 0 0 (MQ below (QMl g am s.heap.size r fi' ar') ([.ref (am 0), .int p1, .int p2] : List Value).toArray s 0 0 (AM am s.heap.size)) (F0 m 35 ls []) := by
    intro x2 x3 fi ar H locs ls hF hl hP hS
    unfold M_timeOf_35 at hF
    refine lv_iload_n hx hb dX11_timeOf_35 rfl (lv_at hl 1 rfl) ?_
    refine lv_iconst (v := (1 : Int32)) hx hb dX11_timeOf_36 (by decide) ?_
    refine lv_icmp_ne (tgt := 84) hx hb dX11_timeOf_37 (by decide) (fun hc11 => ?_) (fun hc11 => ?_)
    · replace hF := br_no hF hc11
      exact J84 (x3) _ _ _ _ _ hF (lv_sub hl [0, 2] rfl) hP hS
    · replace hF := br_yes hF hc11
      refine lv_aload_n hx hb dX11_timeOf_40 rfl (lv_at hl 0 rfl) ?_
      refine lv_iload_n hx hb dX11_timeOf_41 rfl (lv_at hl 2 rfl) ?_
      refine lv_bipush (v := (16 : Int32)) hx hb dX11_timeOf_42 (by decide) ?_
      refine lv_iadd hx hb dX11_timeOf_44 ?_
      replace hF := obnd3_of hF
      obtain ⟨r15, fi13, ar14, h12, hF⟩ := hF
      refine cM_i (As := [.int ((x3) + (16 : Int32))]) (rest := []) hx hb hml hT hown hK hE hD hA hP hS (k_two l g am _ nf fi ar ((x3) + (16 : Int32)) r15 fi13 ar14 h12) cw_X11_two mw19_13 ⟨⟨rfl, rfl⟩, Nat.le_of_ble_eq_true rfl, Nat.le_of_ble_eq_true rfl⟩ rfl hl.1 rfl (Nat.le_of_ble_eq_true rfl) dX11_timeOf_45 ⟨Nat.zero_le _, Nat.zero_le _⟩ (fun H locs hP hS => ?_)
      refine lv_if_eq (tgt := 84) hx hb dX11_timeOf_48 (by decide) (fun hc16 => ?_) (fun hc16 => ?_)
      · replace hF := br_yes hF hc16
        exact J84 (x3) _ _ _ _ _ hF (lv_sub hl [0, 2] rfl) hP hS
      · replace hF := br_no hF hc16
        refine lv_aload_n hx hb dX11_timeOf_51 rfl (lv_at hl 0 rfl) ?_
        refine lv_iload_n hx hb dX11_timeOf_52 rfl (lv_at hl 2 rfl) ?_
        refine lv_bipush (v := (16 : Int32)) hx hb dX11_timeOf_53 (by decide) ?_
        refine lv_iadd hx hb dX11_timeOf_55 ?_
        replace hF := obnd3_of hF
        obtain ⟨r20, fi18, ar19, h17, hF⟩ := hF
        refine cM_i (As := [.int ((x3) + (16 : Int32))]) (rest := []) hx hb hml hT hown hK hE hD hA hP hS (k_two l g am _ nf fi13 ar14 ((x3) + (16 : Int32)) r20 fi18 ar19 h17) cw_X11_two mw19_13 ⟨⟨rfl, rfl⟩, Nat.le_of_ble_eq_true rfl, Nat.le_of_ble_eq_true rfl⟩ rfl hl.1 rfl (Nat.le_of_ble_eq_true rfl) dX11_timeOf_56 ⟨Nat.zero_le _, Nat.zero_le _⟩ (fun H locs hP hS => ?_)
        refine lv_aload_n hx hb dX11_timeOf_59 rfl (lv_at hl 0 rfl) ?_
        refine lv_iload_n hx hb dX11_timeOf_60 rfl (lv_at hl 2 rfl) ?_
        refine lv_bipush (v := (14 : Int32)) hx hb dX11_timeOf_61 (by decide) ?_
        refine lv_iadd hx hb dX11_timeOf_63 ?_
        replace hF := obnd3_of hF
        obtain ⟨r24, fi22, ar23, h21, hF⟩ := hF
        refine cM_i (As := [.int ((x3) + (14 : Int32))]) (rest := [.int (r20)]) hx hb hml hT hown hK hE hD hA hP hS (k_two l g am _ nf fi18 ar19 ((x3) + (14 : Int32)) r24 fi22 ar23 h21) cw_X11_two mw19_13 ⟨⟨rfl, rfl⟩, Nat.le_of_ble_eq_true rfl, Nat.le_of_ble_eq_true rfl⟩ rfl hl.1 rfl (Nat.le_of_ble_eq_true rfl) dX11_timeOf_64 ⟨Nat.zero_le _, Nat.zero_le _⟩ (fun H locs hP hS => ?_)
        replace hF := obnd_of hF
        obtain ⟨r26, h25, hF⟩ := hF
        refine cS_l (As := [.int (r20), .int (r24)]) (rest := []) hx hb hml hT hown hE hP hS (k_seconds l g nf (r20) (r24) r26 h25) cw_X11_seconds mw42_7 ⟨⟨rfl, rfl⟩, Nat.le_of_ble_eq_true rfl, Nat.le_of_ble_eq_true rfl⟩ rfl hl.1 rfl (Nat.le_of_ble_eq_true rfl) dX11_timeOf_67 ⟨Nat.zero_le _, Nat.zero_le _⟩ (fun H locs hP hS => ?_)
        refine lv_aload_n hx hb dX11_timeOf_70 rfl (lv_at hl 0 rfl) ?_
        refine lv_iload_n hx hb dX11_timeOf_71 rfl (lv_at hl 2 rfl) ?_
        refine lv_bipush (v := (13 : Int32)) hx hb dX11_timeOf_72 (by decide) ?_
        refine lv_iadd hx hb dX11_timeOf_74 ?_
        replace hF := obnd3_of hF
        obtain ⟨r30, fi28, ar29, h27, hF⟩ := hF
        refine cM_i (As := [.int ((x3) + (13 : Int32))]) (rest := [.long (r26)]) hx hb hml hT hown hK hE hD hA hP hS (k_one l g am _ nf fi22 ar23 ((x3) + (13 : Int32)) r30 fi28 ar29 h27) cw_X11_one mw19_9 ⟨⟨rfl, rfl⟩, Nat.le_of_ble_eq_true rfl, Nat.le_of_ble_eq_true rfl⟩ rfl hl.1 rfl (Nat.le_of_ble_eq_true rfl) dX11_timeOf_75 ⟨Nat.zero_le _, Nat.zero_le _⟩ (fun H locs hP hS => ?_)
        refine lv_bipush (v := (100 : Int32)) hx hb dX11_timeOf_78 (by decide) ?_
        refine lv_idiv hx hb dX11_timeOf_80 (by decide) ?_
        refine lv_i2l hx hb dX11_timeOf_81 rfl ?_
        refine lv_ladd hx hb dX11_timeOf_82 ?_
        exact rM_l hx hb hr hlocks hF hP hS dX11_timeOf_83
  replace hl := lv_sub hl [0, 1, 2] rfl
  refine lv_aload_n hx hb dX11_timeOf_0 rfl (lv_at hl 0 rfl) ?_
  refine mg_20 hx hb hT hown hK hP mw6_5 dX11_timeOf_1 ?_
  refine lv_iload_n hx hb dX11_timeOf_4 rfl (lv_at hl 1 rfl) ?_
  replace hF := gd_of hF
  obtain ⟨hi31, hF⟩ := hF
  refine ml_20 hx hb hK hP hi31 dX11_timeOf_5 ?_
  obtain ⟨x3_32, ex3_32⟩ : ∃ y : Int32, y = (ar 20 (p1).toNatClampNeg) := ⟨_, rfl⟩
  rw [← ex3_32]
  replace hF := bnd_of hF ex3_32
  refine lv_istore_n (lv' := [(3, .int (x3_32)), (0, .ref (am 0)), (1, .int (p1)), (2, .int (p2))]) hx hb dX11_timeOf_6 rfl hl (by decide) rfl (fun ls hl => ?_)
  refine lv_iload_n hx hb dX11_timeOf_7 rfl (lv_at hl 3 rfl) ?_
  refine lv_if_ne (tgt := 35) hx hb dX11_timeOf_8 (by decide) (fun hc33 => ?_) (fun hc33 => ?_)
  · replace hF := br_no hF hc33
    exact J35 (p2) (x3_32) _ _ _ _ _ hF (lv_sub hl [1, 3, 0] rfl) hP hS
  · replace hF := br_yes hF hc33
    refine lv_aload_n hx hb dX11_timeOf_11 rfl (lv_at hl 1 rfl) ?_
    refine lv_iload_n hx hb dX11_timeOf_12 rfl (lv_at hl 0 rfl) ?_
    refine lv_bipush (v := (18 : Int32)) hx hb dX11_timeOf_13 (by decide) ?_
    refine lv_iadd hx hb dX11_timeOf_15 ?_
    replace hF := obnd3_of hF
    obtain ⟨r37, fi35, ar36, h34, hF⟩ := hF
    refine cM_i (As := [.int ((x3_32) + (18 : Int32))]) (rest := []) hx hb hml hT hown hK hE hD hA hP hS (k_two l g am _ nf fi ar ((x3_32) + (18 : Int32)) r37 fi35 ar36 h34) cw_X11_two mw19_13 ⟨⟨rfl, rfl⟩, Nat.le_of_ble_eq_true rfl, Nat.le_of_ble_eq_true rfl⟩ rfl hl.1 rfl (Nat.le_of_ble_eq_true rfl) dX11_timeOf_16 ⟨Nat.zero_le _, Nat.zero_le _⟩ (fun H locs hP hS => ?_)
    refine lv_if_eq (tgt := 35) hx hb dX11_timeOf_19 (by decide) (fun hc38 => ?_) (fun hc38 => ?_)
    · replace hF := br_yes hF hc38
      exact J35 (p2) (x3_32) _ _ _ _ _ hF (lv_sub hl [1, 3, 0] rfl) hP hS
    · replace hF := br_no hF hc38
      refine lv_aload_n hx hb dX11_timeOf_22 rfl (lv_at hl 1 rfl) ?_
      refine lv_iload_n hx hb dX11_timeOf_23 rfl (lv_at hl 0 rfl) ?_
      refine lv_bipush (v := (18 : Int32)) hx hb dX11_timeOf_24 (by decide) ?_
      refine lv_iadd hx hb dX11_timeOf_26 ?_
      replace hF := obnd3_of hF
      obtain ⟨r42, fi40, ar41, h39, hF⟩ := hF
      refine cM_i (As := [.int ((x3_32) + (18 : Int32))]) (rest := []) hx hb hml hT hown hK hE hD hA hP hS (k_two l g am _ nf fi35 ar36 ((x3_32) + (18 : Int32)) r42 fi40 ar41 h39) cw_X11_two mw19_13 ⟨⟨rfl, rfl⟩, Nat.le_of_ble_eq_true rfl, Nat.le_of_ble_eq_true rfl⟩ rfl hl.1 rfl (Nat.le_of_ble_eq_true rfl) dX11_timeOf_27 ⟨Nat.zero_le _, Nat.zero_le _⟩ (fun H locs hP hS => ?_)
      refine lv_iconst (v := (0 : Int32)) hx hb dX11_timeOf_30 (by decide) ?_
      replace hF := obnd_of hF
      obtain ⟨r44, h43, hF⟩ := hF
      refine cS_l (As := [.int (r42), .int (0 : Int32)]) (rest := []) hx hb hml hT hown hE hP hS (k_seconds l g nf (r42) (0 : Int32) r44 h43) cw_X11_seconds mw42_7 ⟨⟨rfl, rfl⟩, Nat.le_of_ble_eq_true rfl, Nat.le_of_ble_eq_true rfl⟩ rfl hl.1 rfl (Nat.le_of_ble_eq_true rfl) dX11_timeOf_31 ⟨Nat.zero_le _, Nat.zero_le _⟩ (fun H locs hP hS => ?_)
      exact rM_l hx hb hr hlocks hF hP hS dX11_timeOf_34
theorem cw_X11_timeOf : (Cond.instanceMethod yX11_timeOf ∈ TB ∧ Cond.selects RX11 yX11_timeOf yX11_timeOf ∈ TB ∧ Cond.code yX11_timeOf cX11_timeOf 4 (some .long) ∈ TB) ∧ (yX11_timeOf.cls = RX11 ∧ yX11_timeOf.cls ≠ "java/lang/invoke/MethodHandle" ∧ yX11_timeOf.cls ≠ "java/lang/invoke/VarHandle" ∧ (parseMethodDescriptor yX11_timeOf.desc).map (fun d => d.parameters.length) = some 2) := ⟨⟨mw42_4, mw42_5, mw42_6⟩, by decide +kernel⟩
/-! X11_about -/
noncomputable def M_about_123 (nf : Nat) (t0 : Int64) (fi : FI) (ar : AR) : Option (Int64 × FI × AR) :=
  some ((t0), fi, ar)
noncomputable def M_about_56 (nf : Nat) (t0 : Int64) (fi : FI) (ar : AR) : Option (Int64 × FI × AR) :=
  some ((t0), fi, ar)
noncomputable def M_about_31 (nf : Nat)  (fi : FI) (ar : AR) : Option (Int64 × FI × AR) :=
  some ((0 : Int64), fi, ar)
noncomputable def M_about_24 (nf : Nat) (x1 : Int32) (x2 : Int32) (t1 : Int32) (fi : FI) (ar : AR) : Option (Int64 × FI × AR) :=
  obnd3 (M_fails nf fi ar (t1) (3 : Int32)) fun r4 fi2 ar3 => br ((r4) = 0) (obnd3 (M_item nf fi2 ar3 (x1)) fun r9 fi7 ar8 => br ((x2) = 0) (obnd3 (M_isFolder nf fi7 ar8 (r9)) fun r32 fi30 ar31 => br ((r32) = 0) (M_about_56 nf  (0 : Int64) fi30 ar31) (M_about_56 nf  (1 : Int64) fi30 ar31)) (br ((x2) = (1 : Int32)) (gd (¬ ((r9) < 0 ∨ 16400 ≤ (r9).toNatClampNeg)) (obnd3 (M_one nf fi7 ar8 ((ar8 20 (r9).toNatClampNeg) + (11 : Int32))) fun r28 fi26 ar27 => some ((((r28) &&& (1 : Int32)).toInt64), fi26, ar27))) (br ((x2) = (6 : Int32)) (gd (¬ ((r9) < 0 ∨ 16400 ≤ (r9).toNatClampNeg)) (some (((ar8 22 (r9).toNatClampNeg).toInt64), fi7, ar8))) (br ((5 : Int32) ≤ (x2)) (gd (¬ ((r9) < 0 ∨ 16400 ≤ (r9).toNatClampNeg)) (obnd3 (M_four nf fi7 ar8 ((ar8 20 (r9).toNatClampNeg) + (28 : Int32))) fun r18 fi16 ar17 => M_about_123 nf  ((r18).toInt64) fi16 ar17)) (obnd3 (M_timeOf nf fi7 ar8 (r9) ((x2) - (2 : Int32))) fun r22 fi20 ar21 => M_about_123 nf  (r22) fi20 ar21))))) (M_about_31 nf  fi2 ar3)
noncomputable def M_about_19 (nf : Nat) (x1 : Int32) (x2 : Int32) (fi : FI) (ar : AR) : Option (Int64 × FI × AR) :=
  M_about_24 nf  (x1) (x2) (1 : Int32) fi ar
noncomputable def M_about (nf : Nat) (fi : FI) (ar : AR) (x1 : Int32) (x2 : Int32) : Option (Int64 × FI × AR) :=
  obnd3 (M_no nf fi ar (x1)) fun r37 fi35 ar36 => br ((r37) = 0) (br ((x2) < 0) (M_about_19 nf  (x1) (x2) fi35 ar36) (br ((x2) ≤ (6 : Int32)) (M_about_24 nf  (x1) (x2) (0 : Int32) fi35 ar36) (M_about_19 nf  (x1) (x2) fi35 ar36))) (M_about_31 nf  fi35 ar36)
set_option maxHeartbeats 4000000 in
set_option maxRecDepth 100000 in
theorem k_about (l : Launch) (g : GT) (am : Nat → Nat) (sz : Nat) (nf : Nat) (fi : FI) (ar : AR) (p1 : Int32) (p2 : Int32) (r : Int64) (fi' : FI) (ar' : AR) (hF : M_about nf fi ar p1 p2 = some (r, fi', ar')) : Met l yX11_about (wx yX11_about cX11_about 4 (some .long)) ({ frames := 11, cells := 0, slots := 0, locals := 250 } : Room) (va_Pc [.ref (am 0), .int p1, .int p2] (PM g am sz fi ar)) (QMl g am sz r fi' ar') 0 0 (AM am sz) := by
  refine Met.ofW (cc := cX11_about) (maxL := 4) (ret := (some .long)) (by decide) rfl ?_
  intro p e s m args below meth c s₁ B hml hv
  obtain ⟨rfl, hsz, hP, hK, hD0, hE⟩ := hv
  have hx := B.exec
  have hb := B.bytes
  have hr := B.returns
  have hts := atoms_spec (ws := (wx yX11_about cX11_about 4 (some .long))) B.pre
  have hT : ∀ w ∈ TB, w.before _ s = true := fun w h => hts w (List.mem_cons_of_mem _ h)
  have hown : s.vm.findClass RX11 = some m.cls := findClass_of_methodNamed B.named
  have hlocks := B.notSynchronized
  subst hsz
  have hD := dM hD0 s.heap.size
  have hA : ∀ q : Nat, s.heap.size ≤ q → AM am s.heap.size q := fun q h => Or.inr h
  have hS : va_S (AM am s.heap.size) s.heap s.heap [] := va_S.rf
  have hl := lv_entry ([.ref (am 0), .int p1, .int p2]) (n := 4) (Nat.le_of_ble_eq_true rfl)
  rw [lg_entry_eq]
  generalize (lg_sl ([.ref (am 0), .int p1, .int p2]) ++ List.replicate (4 - (lg_sl ([.ref (am 0), .int p1, .int p2])).length) Slot.unset).toArray = ls at hl ⊢
  have hl : lv_has ls 4 [(0, .ref (am 0)), (1, .int p1), (2, .int p2)] := hl
  unfold M_about at hF
  have J123 : ∀ (t0 : Int64) (fi : FI) (ar : AR) (H : Heap) (locs : List Loc) (ls : Array Slot), M_about_123 nf t0 fi ar = some (r, fi', ar') → lv_has ls 4 [(0, .ref (am 0))] → va_P (gD g) vwCl (WM g am fi ar) H → va_S (AM am s.heap.size) s.heap H locs → W p l e (headSpec (wx yX11_about cX11_about 4 (some .long)) ({ frames := 11, cells := 0, slots := 0, locals := 250 } : Room)).room s m ([.ref (am 0), .int p1, .int p2] : List Value).toArray below meth c H locs 0 0 (MQ below (QMl g am s.heap.size r fi' ar') ([.ref (am 0), .int p1, .int p2] : List Value).toArray s 0 0 (AM am s.heap.size)) (F0 m 123 ls [.long t0]) := by
    intro t0 fi ar H locs ls hF hl hP hS
    unfold M_about_123 at hF
    exact rM_l hx hb hr hlocks hF hP hS dX11_about_123
  have J56 : ∀ (t0 : Int64) (fi : FI) (ar : AR) (H : Heap) (locs : List Loc) (ls : Array Slot), M_about_56 nf t0 fi ar = some (r, fi', ar') → lv_has ls 4 [(0, .ref (am 0))] → va_P (gD g) vwCl (WM g am fi ar) H → va_S (AM am s.heap.size) s.heap H locs → W p l e (headSpec (wx yX11_about cX11_about 4 (some .long)) ({ frames := 11, cells := 0, slots := 0, locals := 250 } : Room)).room s m ([.ref (am 0), .int p1, .int p2] : List Value).toArray below meth c H locs 0 0 (MQ below (QMl g am s.heap.size r fi' ar') ([.ref (am 0), .int p1, .int p2] : List Value).toArray s 0 0 (AM am s.heap.size)) (F0 m 56 ls [.long t0]) := by
    intro t0 fi ar H locs ls hF hl hP hS
    unfold M_about_56 at hF
    exact rM_l hx hb hr hlocks hF hP hS dX11_about_56
  have J31 : ∀  (fi : FI) (ar : AR) (H : Heap) (locs : List Loc) (ls : Array Slot), M_about_31 nf fi ar = some (r, fi', ar') → lv_has ls 4 [(0, .ref (am 0))] → va_P (gD g) vwCl (WM g am fi ar) H → va_S (AM am s.heap.size) s.heap H locs → W p l e (headSpec (wx yX11_about cX11_about 4 (some .long)) ({ frames := 11, cells := 0, slots := 0, locals := 250 } : Room)).room s m ([.ref (am 0), .int p1, .int p2] : List Value).toArray below meth c H locs 0 0 (MQ below (QMl g am s.heap.size r fi' ar') ([.ref (am 0), .int p1, .int p2] : List Value).toArray s 0 0 (AM am s.heap.size)) (F0 m 31 ls []) := by
    intro fi ar H locs ls hF hl hP hS
    unfold M_about_31 at hF
    refine lv_lconst (v := (0 : Int64)) hx hb dX11_about_31 (by decide) ?_
    exact rM_l hx hb hr hlocks hF hP hS dX11_about_32
  have J24 : ∀ (x1 : Int32) (x2 : Int32) (t1 : Int32) (fi : FI) (ar : AR) (H : Heap) (locs : List Loc) (ls : Array Slot), M_about_24 nf x1 x2 t1 fi ar = some (r, fi', ar') → lv_has ls 4 [(0, .ref (am 0)), (1, .int x1), (2, .int x2)] → va_P (gD g) vwCl (WM g am fi ar) H → va_S (AM am s.heap.size) s.heap H locs → W p l e (headSpec (wx yX11_about cX11_about 4 (some .long)) ({ frames := 11, cells := 0, slots := 0, locals := 250 } : Room)).room s m ([.ref (am 0), .int p1, .int p2] : List Value).toArray below meth c H locs 0 0 (MQ below (QMl g am s.heap.size r fi' ar') ([.ref (am 0), .int p1, .int p2] : List Value).toArray s 0 0 (AM am s.heap.size)) (F0 m 24 ls [.int t1, .ref (am 0)]) := by
    intro x1 x2 t1 fi ar H locs ls hF hl hP hS
    unfold M_about_24 at hF
    refine lv_iconst (v := (3 : Int32)) hx hb dX11_about_24 (by decide) ?_
    replace hF := obnd3_of hF
    obtain ⟨r4, fi2, ar3, h1, hF⟩ := hF
    refine cM_i (As := [.int (t1), .int (3 : Int32)]) (rest := []) hx hb hml hT hown hK hE hD hA hP hS (k_fails l g am _ nf fi ar (t1) (3 : Int32) r4 fi2 ar3 h1) cw_X11_fails mw18_14 ⟨⟨rfl, rfl⟩, Nat.le_of_ble_eq_true rfl, Nat.le_of_ble_eq_true rfl⟩ rfl hl.1 rfl (Nat.le_of_ble_eq_true rfl) dX11_about_25 ⟨Nat.zero_le _, Nat.zero_le _⟩ (fun H locs hP hS => ?_)
    refine lv_if_eq (tgt := 33) hx hb dX11_about_28 (by decide) (fun hc5 => ?_) (fun hc5 => ?_)
    · replace hF := br_yes hF hc5
      refine lv_aload_n hx hb dX11_about_33 rfl (lv_at hl 0 rfl) ?_
      refine lv_iload_n hx hb dX11_about_34 rfl (lv_at hl 1 rfl) ?_
      replace hF := obnd3_of hF
      obtain ⟨r9, fi7, ar8, h6, hF⟩ := hF
      refine cM_i (As := [.int (x1)]) (rest := []) hx hb hml hT hown hK hE hD hA hP hS (k_item l g am _ nf fi2 ar3 (x1) r9 fi7 ar8 h6) cw_X11_item mw40_7 ⟨⟨rfl, rfl⟩, Nat.le_of_ble_eq_true rfl, Nat.le_of_ble_eq_true rfl⟩ rfl hl.1 rfl (Nat.le_of_ble_eq_true rfl) dX11_about_35 ⟨Nat.zero_le _, Nat.zero_le _⟩ (fun H locs hP hS => ?_)
      refine lv_istore_n (lv' := [(3, .int (r9)), (0, .ref (am 0)), (1, .int (x1)), (2, .int (x2))]) hx hb dX11_about_38 rfl hl (by decide) rfl (fun ls hl => ?_)
      refine lv_iload_n hx hb dX11_about_39 rfl (lv_at hl 3 rfl) ?_
      refine lv_if_ne (tgt := 57) hx hb dX11_about_40 (by decide) (fun hc10 => ?_) (fun hc10 => ?_)
      · replace hF := br_no hF hc10
        refine lv_iload_n hx hb dX11_about_57 rfl (lv_at hl 3 rfl) ?_
        refine lv_iconst (v := (1 : Int32)) hx hb dX11_about_58 (by decide) ?_
        refine lv_icmp_ne (tgt := 79) hx hb dX11_about_59 (by decide) (fun hc11 => ?_) (fun hc11 => ?_)
        · replace hF := br_no hF hc11
          refine lv_iload_n hx hb dX11_about_79 rfl (lv_at hl 3 rfl) ?_
          refine lv_bipush (v := (6 : Int32)) hx hb dX11_about_80 (by decide) ?_
          refine lv_icmp_ne (tgt := 93) hx hb dX11_about_82 (by decide) (fun hc12 => ?_) (fun hc12 => ?_)
          · replace hF := br_no hF hc12
            refine lv_iload_n hx hb dX11_about_93 rfl (lv_at hl 3 rfl) ?_
            refine lv_iconst (v := (5 : Int32)) hx hb dX11_about_94 (by decide) ?_
            refine lv_icmp_ge (tgt := 109) hx hb dX11_about_95 (by decide) (fun hc13 => ?_) (fun hc13 => ?_)
            · replace hF := br_yes hF hc13
              refine lv_aload_n hx hb dX11_about_109 rfl (lv_at hl 1 rfl) ?_
              refine lv_aload_n hx hb dX11_about_110 rfl (lv_at hl 1 rfl) ?_
              refine mg_20 hx hb hT hown hK hP mw6_5 dX11_about_111 ?_
              refine lv_iload_n hx hb dX11_about_114 rfl (lv_at hl 0 rfl) ?_
              replace hF := gd_of hF
              obtain ⟨hi14, hF⟩ := hF
              refine ml_20 hx hb hK hP hi14 dX11_about_115 ?_
              refine lv_bipush (v := (28 : Int32)) hx hb dX11_about_116 (by decide) ?_
              refine lv_iadd hx hb dX11_about_118 ?_
              replace hF := obnd3_of hF
              obtain ⟨r18, fi16, ar17, h15, hF⟩ := hF
              refine cM_i (As := [.int ((ar8 20 (r9).toNatClampNeg) + (28 : Int32))]) (rest := []) hx hb hml hT hown hK hE hD hA hP hS (k_four l g am _ nf fi7 ar8 ((ar8 20 (r9).toNatClampNeg) + (28 : Int32)) r18 fi16 ar17 h15) cw_X11_four mw19_17 ⟨⟨rfl, rfl⟩, Nat.le_of_ble_eq_true rfl, Nat.le_of_ble_eq_true rfl⟩ rfl hl.1 rfl (Nat.le_of_ble_eq_true rfl) dX11_about_119 ⟨Nat.zero_le _, Nat.zero_le _⟩ (fun H locs hP hS => ?_)
              refine lv_i2l hx hb dX11_about_122 rfl ?_
              exact J123 ((r18).toInt64) _ _ _ _ _ hF (lv_sub hl [1] rfl) hP hS
            · replace hF := br_no hF hc13
              refine lv_aload_n hx hb dX11_about_98 rfl (lv_at hl 1 rfl) ?_
              refine lv_iload_n hx hb dX11_about_99 rfl (lv_at hl 0 rfl) ?_
              refine lv_iload_n hx hb dX11_about_100 rfl (lv_at hl 3 rfl) ?_
              refine lv_iconst (v := (2 : Int32)) hx hb dX11_about_101 (by decide) ?_
              refine lv_isub hx hb dX11_about_102 ?_
              replace hF := obnd3_of hF
              obtain ⟨r22, fi20, ar21, h19, hF⟩ := hF
              refine cM_l (As := [.int (r9), .int ((x2) - (2 : Int32))]) (rest := []) hx hb hml hT hown hK hE hD hA hP hS (k_timeOf l g am _ nf fi7 ar8 (r9) ((x2) - (2 : Int32)) r22 fi20 ar21 h19) cw_X11_timeOf mw42_3 ⟨⟨rfl, rfl⟩, Nat.le_of_ble_eq_true rfl, Nat.le_of_ble_eq_true rfl⟩ rfl hl.1 rfl (Nat.le_of_ble_eq_true rfl) dX11_about_103 ⟨Nat.zero_le _, Nat.zero_le _⟩ (fun H locs hP hS => ?_)
              refine lv_goto (tgt := 123) hx hb dX11_about_106 (by decide) ?_
              exact J123 (r22) _ _ _ _ _ hF (lv_sub hl [1] rfl) hP hS
          · replace hF := br_yes hF hc12
            refine lv_aload_n hx hb dX11_about_85 rfl (lv_at hl 1 rfl) ?_
            refine mg_22 hx hb hT hown hK hP mw6_7 dX11_about_86 ?_
            refine lv_iload_n hx hb dX11_about_89 rfl (lv_at hl 0 rfl) ?_
            replace hF := gd_of hF
            obtain ⟨hi23, hF⟩ := hF
            refine ml_22 hx hb hK hP hi23 dX11_about_90 ?_
            refine lv_i2l hx hb dX11_about_91 rfl ?_
            exact rM_l hx hb hr hlocks hF hP hS dX11_about_92
        · replace hF := br_yes hF hc11
          refine lv_aload_n hx hb dX11_about_62 rfl (lv_at hl 1 rfl) ?_
          refine lv_aload_n hx hb dX11_about_63 rfl (lv_at hl 1 rfl) ?_
          refine mg_20 hx hb hT hown hK hP mw6_5 dX11_about_64 ?_
          refine lv_iload_n hx hb dX11_about_67 rfl (lv_at hl 0 rfl) ?_
          replace hF := gd_of hF
          obtain ⟨hi24, hF⟩ := hF
          refine ml_20 hx hb hK hP hi24 dX11_about_68 ?_
          refine lv_bipush (v := (11 : Int32)) hx hb dX11_about_69 (by decide) ?_
          refine lv_iadd hx hb dX11_about_71 ?_
          replace hF := obnd3_of hF
          obtain ⟨r28, fi26, ar27, h25, hF⟩ := hF
          refine cM_i (As := [.int ((ar8 20 (r9).toNatClampNeg) + (11 : Int32))]) (rest := []) hx hb hml hT hown hK hE hD hA hP hS (k_one l g am _ nf fi7 ar8 ((ar8 20 (r9).toNatClampNeg) + (11 : Int32)) r28 fi26 ar27 h25) cw_X11_one mw19_9 ⟨⟨rfl, rfl⟩, Nat.le_of_ble_eq_true rfl, Nat.le_of_ble_eq_true rfl⟩ rfl hl.1 rfl (Nat.le_of_ble_eq_true rfl) dX11_about_72 ⟨Nat.zero_le _, Nat.zero_le _⟩ (fun H locs hP hS => ?_)
          refine lv_iconst (v := (1 : Int32)) hx hb dX11_about_75 (by decide) ?_
          refine lv_iand hx hb dX11_about_76 ?_
          refine lv_i2l hx hb dX11_about_77 rfl ?_
          exact rM_l hx hb hr hlocks hF hP hS dX11_about_78
      · replace hF := br_yes hF hc10
        refine lv_aload_n hx hb dX11_about_43 rfl (lv_at hl 1 rfl) ?_
        refine lv_iload_n hx hb dX11_about_44 rfl (lv_at hl 0 rfl) ?_
        replace hF := obnd3_of hF
        obtain ⟨r32, fi30, ar31, h29, hF⟩ := hF
        refine cM_i (As := [.int (r9)]) (rest := []) hx hb hml hT hown hK hE hD hA hP hS (k_isFolder l g am _ nf fi7 ar8 (r9) r32 fi30 ar31 h29) cw_X11_isFolder mw31_21 ⟨⟨rfl, rfl⟩, Nat.le_of_ble_eq_true rfl, Nat.le_of_ble_eq_true rfl⟩ rfl hl.1 rfl (Nat.le_of_ble_eq_true rfl) dX11_about_45 ⟨Nat.zero_le _, Nat.zero_le _⟩ (fun H locs hP hS => ?_)
        refine lv_if_eq (tgt := 55) hx hb dX11_about_48 (by decide) (fun hc33 => ?_) (fun hc33 => ?_)
        · replace hF := br_yes hF hc33
          refine lv_lconst (v := (0 : Int64)) hx hb dX11_about_55 (by decide) ?_
          exact J56 (0 : Int64) _ _ _ _ _ hF (lv_sub hl [1] rfl) hP hS
        · replace hF := br_no hF hc33
          refine lv_lconst (v := (1 : Int64)) hx hb dX11_about_51 (by decide) ?_
          refine lv_goto (tgt := 56) hx hb dX11_about_52 (by decide) ?_
          exact J56 (1 : Int64) _ _ _ _ _ hF (lv_sub hl [1] rfl) hP hS
    · replace hF := br_no hF hc5
      exact J31  _ _ _ _ _ hF (lv_sub hl [0] rfl) hP hS
  have J19 : ∀ (x1 : Int32) (x2 : Int32) (fi : FI) (ar : AR) (H : Heap) (locs : List Loc) (ls : Array Slot), M_about_19 nf x1 x2 fi ar = some (r, fi', ar') → lv_has ls 4 [(0, .ref (am 0)), (1, .int x1), (2, .int x2)] → va_P (gD g) vwCl (WM g am fi ar) H → va_S (AM am s.heap.size) s.heap H locs → W p l e (headSpec (wx yX11_about cX11_about 4 (some .long)) ({ frames := 11, cells := 0, slots := 0, locals := 250 } : Room)).room s m ([.ref (am 0), .int p1, .int p2] : List Value).toArray below meth c H locs 0 0 (MQ below (QMl g am s.heap.size r fi' ar') ([.ref (am 0), .int p1, .int p2] : List Value).toArray s 0 0 (AM am s.heap.size)) (F0 m 19 ls [.ref (am 0)]) := by
    intro x1 x2 fi ar H locs ls hF hl hP hS
    unfold M_about_19 at hF
    refine lv_iconst (v := (1 : Int32)) hx hb dX11_about_19 (by decide) ?_
    refine lv_goto (tgt := 24) hx hb dX11_about_20 (by decide) ?_
    exact J24 (x1) (x2) (1 : Int32) _ _ _ _ _ hF (lv_sub hl [0, 1, 2] rfl) hP hS
  replace hl := lv_sub hl [0, 1, 2] rfl
  refine lv_aload_n hx hb dX11_about_0 rfl (lv_at hl 0 rfl) ?_
  refine lv_iload_n hx hb dX11_about_1 rfl (lv_at hl 1 rfl) ?_
  replace hF := obnd3_of hF
  obtain ⟨r37, fi35, ar36, h34, hF⟩ := hF
  refine cM_i (As := [.int (p1)]) (rest := []) hx hb hml hT hown hK hE hD hA hP hS (k_no l g am _ nf fi ar (p1) r37 fi35 ar36 h34) cw_X11_no mw40_3 ⟨⟨rfl, rfl⟩, Nat.le_of_ble_eq_true rfl, Nat.le_of_ble_eq_true rfl⟩ rfl hl.1 rfl (Nat.le_of_ble_eq_true rfl) dX11_about_2 ⟨Nat.zero_le _, Nat.zero_le _⟩ (fun H locs hP hS => ?_)
  refine lv_if_ne (tgt := 31) hx hb dX11_about_5 (by decide) (fun hc38 => ?_) (fun hc38 => ?_)
  · replace hF := br_no hF hc38
    exact J31  _ _ _ _ _ hF (lv_sub hl [0] rfl) hP hS
  · replace hF := br_yes hF hc38
    refine lv_aload_n hx hb dX11_about_8 rfl (lv_at hl 0 rfl) ?_
    refine lv_iload_n hx hb dX11_about_9 rfl (lv_at hl 2 rfl) ?_
    refine lv_if_lt (tgt := 19) hx hb dX11_about_10 (by decide) (fun hc39 => ?_) (fun hc39 => ?_)
    · replace hF := br_yes hF hc39
      exact J19 (p1) (p2) _ _ _ _ _ hF (lv_sub hl [0, 1, 2] rfl) hP hS
    · replace hF := br_no hF hc39
      refine lv_iload_n hx hb dX11_about_13 rfl (lv_at hl 2 rfl) ?_
      refine lv_bipush (v := (6 : Int32)) hx hb dX11_about_14 (by decide) ?_
      refine lv_icmp_le (tgt := 23) hx hb dX11_about_16 (by decide) (fun hc40 => ?_) (fun hc40 => ?_)
      · replace hF := br_yes hF hc40
        refine lv_iconst (v := (0 : Int32)) hx hb dX11_about_23 (by decide) ?_
        exact J24 (p1) (p2) (0 : Int32) _ _ _ _ _ hF (lv_sub hl [0, 1, 2] rfl) hP hS
      · replace hF := br_no hF hc40
        exact J19 (p1) (p2) _ _ _ _ _ hF (lv_sub hl [0, 1, 2] rfl) hP hS
theorem cw_X11_about : (Cond.instanceMethod yX11_about ∈ TB ∧ Cond.selects RX11 yX11_about yX11_about ∈ TB ∧ Cond.code yX11_about cX11_about 4 (some .long) ∈ TB) ∧ (yX11_about.cls = RX11 ∧ yX11_about.cls ≠ "java/lang/invoke/MethodHandle" ∧ yX11_about.cls ≠ "java/lang/invoke/VarHandle" ∧ (parseMethodDescriptor yX11_about.desc).map (fun d => d.parameters.length) = some 2) := ⟨⟨mw42_0, mw42_1, mw42_2⟩, by decide +kernel⟩
/-! X11_content -/
noncomputable def M_content_45 (nf : Nat)  (fi : FI) (ar : AR) : Option (Int32 × FI × AR) :=
  some ((-1 : Int32), fi, ar)
noncomputable def M_content (nf : Nat) (fi : FI) (ar : AR) (x1 : Int32) (x2 : Int32) : Option (Int32 × FI × AR) :=
  obnd3 (M_no nf fi ar (x1)) fun r4 fi2 ar3 => br ((r4) = 0) (obnd3 (M_item nf fi2 ar3 (x1)) fun r9 fi7 ar8 => obnd3 (M_isFolder nf fi7 ar8 (r9)) fun r13 fi11 ar12 => br ((r13) = 0) (br ((x2) < 0) (M_content_45 nf  fi11 ar12) (gd (¬ ((r9) < 0 ∨ 16400 ≤ (r9).toNatClampNeg)) (obnd3 (M_four nf fi11 ar12 ((ar12 20 (r9).toNatClampNeg) + (28 : Int32))) fun r20 fi18 ar19 => br ((x2) < (r20)) (obnd3 (M_beginOf nf fi18 ar19 (r9)) fun r25 fi23 ar24 => obnd3 (M_walk nf fi23 ar24 (r25)) fun r29 fi27 ar28 => gd (¬ ((512 : Int32) * (fi27 7)) = 0) (gd (¬ (((x2) / ((512 : Int32) * (fi27 7))) < 0 ∨ 560 ≤ ((x2) / ((512 : Int32) * (fi27 7))).toNatClampNeg)) (obnd3 (M_place nf fi27 ar28 (ar28 29 ((x2) / ((512 : Int32) * (fi27 7))).toNatClampNeg)) fun r35 fi33 ar34 => gd (¬ ((512 : Int32) * (fi33 7)) = 0) (obnd3 (M_one nf fi33 ar34 ((r35) + ((x2) - (x2) / ((512 : Int32) * (fi33 7)) * ((512 : Int32) * (fi33 7))))) fun r40 fi38 ar39 => some ((r40), fi38, ar39))))) (M_content_45 nf  fi18 ar19)))) (M_content_45 nf  fi11 ar12)) (some ((0 : Int32), fi2, ar3))
set_option maxHeartbeats 4000000 in
set_option maxRecDepth 100000 in
theorem k_content (l : Launch) (g : GT) (am : Nat → Nat) (sz : Nat) (nf : Nat) (fi : FI) (ar : AR) (p1 : Int32) (p2 : Int32) (r : Int32) (fi' : FI) (ar' : AR) (hF : M_content nf fi ar p1 p2 = some (r, fi', ar')) : Met l yX11_content (wx yX11_content cX11_content 4 (some .int)) ({ frames := 11, cells := 0, slots := 0, locals := 250 } : Room) (va_Pc [.ref (am 0), .int p1, .int p2] (PM g am sz fi ar)) (QMi g am sz r fi' ar') 0 0 (AM am sz) := by
  refine Met.ofW (cc := cX11_content) (maxL := 4) (ret := (some .int)) (by decide) rfl ?_
  intro p e s m args below meth c s₁ B hml hv
  obtain ⟨rfl, hsz, hP, hK, hD0, hE⟩ := hv
  have hx := B.exec
  have hb := B.bytes
  have hr := B.returns
  have hts := atoms_spec (ws := (wx yX11_content cX11_content 4 (some .int))) B.pre
  have hT : ∀ w ∈ TB, w.before _ s = true := fun w h => hts w (List.mem_cons_of_mem _ h)
  have hown : s.vm.findClass RX11 = some m.cls := findClass_of_methodNamed B.named
  have hlocks := B.notSynchronized
  subst hsz
  have hD := dM hD0 s.heap.size
  have hA : ∀ q : Nat, s.heap.size ≤ q → AM am s.heap.size q := fun q h => Or.inr h
  have hS : va_S (AM am s.heap.size) s.heap s.heap [] := va_S.rf
  have hl := lv_entry ([.ref (am 0), .int p1, .int p2]) (n := 4) (Nat.le_of_ble_eq_true rfl)
  rw [lg_entry_eq]
  generalize (lg_sl ([.ref (am 0), .int p1, .int p2]) ++ List.replicate (4 - (lg_sl ([.ref (am 0), .int p1, .int p2])).length) Slot.unset).toArray = ls at hl ⊢
  have hl : lv_has ls 4 [(0, .ref (am 0)), (1, .int p1), (2, .int p2)] := hl
  unfold M_content at hF
  have J45 : ∀  (fi : FI) (ar : AR) (H : Heap) (locs : List Loc) (ls : Array Slot), M_content_45 nf fi ar = some (r, fi', ar') → lv_has ls 4 [(0, .ref (am 0))] → va_P (gD g) vwCl (WM g am fi ar) H → va_S (AM am s.heap.size) s.heap H locs → W p l e (headSpec (wx yX11_content cX11_content 4 (some .int)) ({ frames := 11, cells := 0, slots := 0, locals := 250 } : Room)).room s m ([.ref (am 0), .int p1, .int p2] : List Value).toArray below meth c H locs 0 0 (MQ below (QMi g am s.heap.size r fi' ar') ([.ref (am 0), .int p1, .int p2] : List Value).toArray s 0 0 (AM am s.heap.size)) (F0 m 45 ls []) := by
    intro fi ar H locs ls hF hl hP hS
    unfold M_content_45 at hF
    refine lv_iconst (v := (-1 : Int32)) hx hb dX11_content_45 (by decide) ?_
    exact rM_i hx hb hr hlocks hF hP hS dX11_content_46
  replace hl := lv_sub hl [0, 1, 2] rfl
  refine lv_aload_n hx hb dX11_content_0 rfl (lv_at hl 0 rfl) ?_
  refine lv_iload_n hx hb dX11_content_1 rfl (lv_at hl 1 rfl) ?_
  replace hF := obnd3_of hF
  obtain ⟨r4, fi2, ar3, h1, hF⟩ := hF
  refine cM_i (As := [.int (p1)]) (rest := []) hx hb hml hT hown hK hE hD hA hP hS (k_no l g am _ nf fi ar (p1) r4 fi2 ar3 h1) cw_X11_no mw40_3 ⟨⟨rfl, rfl⟩, Nat.le_of_ble_eq_true rfl, Nat.le_of_ble_eq_true rfl⟩ rfl hl.1 rfl (Nat.le_of_ble_eq_true rfl) dX11_content_2 ⟨Nat.zero_le _, Nat.zero_le _⟩ (fun H locs hP hS => ?_)
  refine lv_if_eq (tgt := 10) hx hb dX11_content_5 (by decide) (fun hc5 => ?_) (fun hc5 => ?_)
  · replace hF := br_yes hF hc5
    refine lv_aload_n hx hb dX11_content_10 rfl (lv_at hl 0 rfl) ?_
    refine lv_iload_n hx hb dX11_content_11 rfl (lv_at hl 1 rfl) ?_
    replace hF := obnd3_of hF
    obtain ⟨r9, fi7, ar8, h6, hF⟩ := hF
    refine cM_i (As := [.int (p1)]) (rest := []) hx hb hml hT hown hK hE hD hA hP hS (k_item l g am _ nf fi2 ar3 (p1) r9 fi7 ar8 h6) cw_X11_item mw40_7 ⟨⟨rfl, rfl⟩, Nat.le_of_ble_eq_true rfl, Nat.le_of_ble_eq_true rfl⟩ rfl hl.1 rfl (Nat.le_of_ble_eq_true rfl) dX11_content_12 ⟨Nat.zero_le _, Nat.zero_le _⟩ (fun H locs hP hS => ?_)
    refine lv_istore_n (lv' := [(3, .int (r9)), (0, .ref (am 0)), (1, .int (p1)), (2, .int (p2))]) hx hb dX11_content_15 rfl hl (by decide) rfl (fun ls hl => ?_)
    refine lv_aload_n hx hb dX11_content_16 rfl (lv_at hl 1 rfl) ?_
    refine lv_iload_n hx hb dX11_content_17 rfl (lv_at hl 0 rfl) ?_
    replace hF := obnd3_of hF
    obtain ⟨r13, fi11, ar12, h10, hF⟩ := hF
    refine cM_i (As := [.int (r9)]) (rest := []) hx hb hml hT hown hK hE hD hA hP hS (k_isFolder l g am _ nf fi7 ar8 (r9) r13 fi11 ar12 h10) cw_X11_isFolder mw31_21 ⟨⟨rfl, rfl⟩, Nat.le_of_ble_eq_true rfl, Nat.le_of_ble_eq_true rfl⟩ rfl hl.1 rfl (Nat.le_of_ble_eq_true rfl) dX11_content_18 ⟨Nat.zero_le _, Nat.zero_le _⟩ (fun H locs hP hS => ?_)
    refine lv_if_ne (tgt := 45) hx hb dX11_content_21 (by decide) (fun hc14 => ?_) (fun hc14 => ?_)
    · replace hF := br_no hF hc14
      exact J45  _ _ _ _ _ hF (lv_sub hl [1] rfl) hP hS
    · replace hF := br_yes hF hc14
      refine lv_iload_n hx hb dX11_content_24 rfl (lv_at hl 3 rfl) ?_
      refine lv_if_lt (tgt := 45) hx hb dX11_content_25 (by decide) (fun hc15 => ?_) (fun hc15 => ?_)
      · replace hF := br_yes hF hc15
        exact J45  _ _ _ _ _ hF (lv_sub hl [1] rfl) hP hS
      · replace hF := br_no hF hc15
        refine lv_iload_n hx hb dX11_content_28 rfl (lv_at hl 3 rfl) ?_
        refine lv_aload_n hx hb dX11_content_29 rfl (lv_at hl 1 rfl) ?_
        refine lv_aload_n hx hb dX11_content_30 rfl (lv_at hl 1 rfl) ?_
        refine mg_20 hx hb hT hown hK hP mw6_5 dX11_content_31 ?_
        refine lv_iload_n hx hb dX11_content_34 rfl (lv_at hl 0 rfl) ?_
        replace hF := gd_of hF
        obtain ⟨hi16, hF⟩ := hF
        refine ml_20 hx hb hK hP hi16 dX11_content_35 ?_
        refine lv_bipush (v := (28 : Int32)) hx hb dX11_content_36 (by decide) ?_
        refine lv_iadd hx hb dX11_content_38 ?_
        replace hF := obnd3_of hF
        obtain ⟨r20, fi18, ar19, h17, hF⟩ := hF
        refine cM_i (As := [.int ((ar12 20 (r9).toNatClampNeg) + (28 : Int32))]) (rest := [.int (p2)]) hx hb hml hT hown hK hE hD hA hP hS (k_four l g am _ nf fi11 ar12 ((ar12 20 (r9).toNatClampNeg) + (28 : Int32)) r20 fi18 ar19 h17) cw_X11_four mw19_17 ⟨⟨rfl, rfl⟩, Nat.le_of_ble_eq_true rfl, Nat.le_of_ble_eq_true rfl⟩ rfl hl.1 rfl (Nat.le_of_ble_eq_true rfl) dX11_content_39 ⟨Nat.zero_le _, Nat.zero_le _⟩ (fun H locs hP hS => ?_)
        refine lv_icmp_lt (tgt := 47) hx hb dX11_content_42 (by decide) (fun hc21 => ?_) (fun hc21 => ?_)
        · replace hF := br_yes hF hc21
          refine lv_aload_n hx hb dX11_content_47 rfl (lv_at hl 1 rfl) ?_
          refine lv_aload_n hx hb dX11_content_48 rfl (lv_at hl 1 rfl) ?_
          refine lv_iload_n hx hb dX11_content_49 rfl (lv_at hl 0 rfl) ?_
          replace hF := obnd3_of hF
          obtain ⟨r25, fi23, ar24, h22, hF⟩ := hF
          refine cM_i (As := [.int (r9)]) (rest := [.ref (am 0)]) hx hb hml hT hown hK hE hD hA hP hS (k_beginOf l g am _ nf fi18 ar19 (r9) r25 fi23 ar24 h22) cw_X11_beginOf mw32_9 ⟨⟨rfl, rfl⟩, Nat.le_of_ble_eq_true rfl, Nat.le_of_ble_eq_true rfl⟩ rfl hl.1 rfl (Nat.le_of_ble_eq_true rfl) dX11_content_50 ⟨Nat.zero_le _, Nat.zero_le _⟩ (fun H locs hP hS => ?_)
          replace hF := obnd3_of hF
          obtain ⟨r29, fi27, ar28, h26, hF⟩ := hF
          refine cM_v (As := [.int (r25)]) (rest := []) hx hb hml hT hown hK hE hD hA hP hS (k_walk l g am _ nf fi23 ar24 (r25) r29 fi27 ar28 h26) cw_X11_walk mw43_9 ⟨⟨rfl, rfl⟩, Nat.le_of_ble_eq_true rfl, Nat.le_of_ble_eq_true rfl⟩ rfl hl.1 rfl (Nat.le_of_ble_eq_true rfl) dX11_content_53 ⟨Nat.zero_le _, Nat.zero_le _⟩ (fun H locs hP hS => ?_)
          refine lv_aload_n hx hb dX11_content_56 rfl (lv_at hl 1 rfl) ?_
          refine lv_aload_n hx hb dX11_content_57 rfl (lv_at hl 1 rfl) ?_
          refine lv_aload_n hx hb dX11_content_58 rfl (lv_at hl 1 rfl) ?_
          refine mg_29 hx hb hT hown hK hP mw6_16 dX11_content_59 ?_
          refine lv_iload_n hx hb dX11_content_62 rfl (lv_at hl 3 rfl) ?_
          refine lv_sipush (v := (512 : Int32)) hx hb dX11_content_63 (by decide) ?_
          refine lv_aload_n hx hb dX11_content_66 rfl (lv_at hl 1 rfl) ?_
          refine mg_7 hx hb hT hown hK hP mw19_2 dX11_content_67 ?_
          refine lv_imul hx hb dX11_content_70 ?_
          replace hF := gd_of hF
          obtain ⟨hz30, hF⟩ := hF
          refine lv_idiv hx hb dX11_content_71 hz30 ?_
          replace hF := gd_of hF
          obtain ⟨hi31, hF⟩ := hF
          refine ml_29 hx hb hK hP hi31 dX11_content_72 ?_
          replace hF := obnd3_of hF
          obtain ⟨r35, fi33, ar34, h32, hF⟩ := hF
          refine cM_i (As := [.int (ar28 29 ((p2) / ((512 : Int32) * (fi27 7))).toNatClampNeg)]) (rest := [.ref (am 0)]) hx hb hml hT hown hK hE hD hA hP hS (k_place l g am _ nf fi27 ar28 (ar28 29 ((p2) / ((512 : Int32) * (fi27 7))).toNatClampNeg) r35 fi33 ar34 h32) cw_X11_place mw20_10 ⟨⟨rfl, rfl⟩, Nat.le_of_ble_eq_true rfl, Nat.le_of_ble_eq_true rfl⟩ rfl hl.1 rfl (Nat.le_of_ble_eq_true rfl) dX11_content_73 ⟨Nat.zero_le _, Nat.zero_le _⟩ (fun H locs hP hS => ?_)
          refine lv_iload_n hx hb dX11_content_76 rfl (lv_at hl 3 rfl) ?_
          refine lv_sipush (v := (512 : Int32)) hx hb dX11_content_77 (by decide) ?_
          refine lv_aload_n hx hb dX11_content_80 rfl (lv_at hl 1 rfl) ?_
          refine mg_7 hx hb hT hown hK hP mw19_2 dX11_content_81 ?_
          refine lv_imul hx hb dX11_content_84 ?_
          replace hF := gd_of hF
          obtain ⟨hz36, hF⟩ := hF
          refine lv_irem hx hb dX11_content_85 hz36 ?_
          refine lv_iadd hx hb dX11_content_86 ?_
          replace hF := obnd3_of hF
          obtain ⟨r40, fi38, ar39, h37, hF⟩ := hF
          refine cM_i (As := [.int ((r35) + ((p2) - (p2) / ((512 : Int32) * (fi33 7)) * ((512 : Int32) * (fi33 7))))]) (rest := []) hx hb hml hT hown hK hE hD hA hP hS (k_one l g am _ nf fi33 ar34 ((r35) + ((p2) - (p2) / ((512 : Int32) * (fi33 7)) * ((512 : Int32) * (fi33 7)))) r40 fi38 ar39 h37) cw_X11_one mw19_9 ⟨⟨rfl, rfl⟩, Nat.le_of_ble_eq_true rfl, Nat.le_of_ble_eq_true rfl⟩ rfl hl.1 rfl (Nat.le_of_ble_eq_true rfl) dX11_content_87 ⟨Nat.zero_le _, Nat.zero_le _⟩ (fun H locs hP hS => ?_)
          exact rM_i hx hb hr hlocks hF hP hS dX11_content_90
        · replace hF := br_no hF hc21
          exact J45  _ _ _ _ _ hF (lv_sub hl [1] rfl) hP hS
  · replace hF := br_no hF hc5
    refine lv_iconst (v := (0 : Int32)) hx hb dX11_content_8 (by decide) ?_
    exact rM_i hx hb hr hlocks hF hP hS dX11_content_9
theorem cw_X11_content : (Cond.instanceMethod yX11_content ∈ TB ∧ Cond.selects RX11 yX11_content yX11_content ∈ TB ∧ Cond.code yX11_content cX11_content 4 (some .int) ∈ TB) ∧ (yX11_content.cls = RX11 ∧ yX11_content.cls ≠ "java/lang/invoke/MethodHandle" ∧ yX11_content.cls ≠ "java/lang/invoke/VarHandle" ∧ (parseMethodDescriptor yX11_content.desc).map (fun d => d.parameters.length) = some 2) := ⟨⟨mw43_6, mw43_7, mw43_8⟩, by decide +kernel⟩
/-! X11_enter -/
noncomputable def M_enter_33 (nf : Nat)  (fi : FI) (ar : AR) : Option (Int32 × FI × AR) :=
  some ((0 : Int32), fi, ar)
noncomputable def M_enter_26 (nf : Nat) (x1 : Int32) (t1 : Int32) (fi : FI) (ar : AR) : Option (Int32 × FI × AR) :=
  obnd3 (M_fails nf fi ar (t1) (3 : Int32)) fun r4 fi2 ar3 => br ((r4) = 0) (obnd3 (M_item nf fi2 ar3 (x1)) fun r9 fi7 ar8 => obnd3 (M_beginOf nf fi7 ar8 (r9)) fun r13 fi11 ar12 => bnd (va_up fi11 14 (r13)) fun fi14 => obnd3 (M_many nf fi14 ar12) fun r18 fi16 ar17 => some ((r18), fi16, ar17)) (M_enter_33 nf  fi2 ar3)
noncomputable def M_enter (nf : Nat) (fi : FI) (ar : AR) (x1 : Int32) : Option (Int32 × FI × AR) :=
  obnd3 (M_no nf fi ar (x1)) fun r22 fi20 ar21 => br ((r22) = 0) (obnd3 (M_item nf fi20 ar21 (x1)) fun r27 fi25 ar26 => obnd3 (M_isFolder nf fi25 ar26 (r27)) fun r31 fi29 ar30 => br ((r31) = 0) (M_enter_26 nf  (x1) (1 : Int32) fi29 ar30) (M_enter_26 nf  (x1) (0 : Int32) fi29 ar30)) (M_enter_33 nf  fi20 ar21)
set_option maxHeartbeats 4000000 in
set_option maxRecDepth 100000 in
theorem k_enter (l : Launch) (g : GT) (am : Nat → Nat) (sz : Nat) (nf : Nat) (fi : FI) (ar : AR) (p1 : Int32) (r : Int32) (fi' : FI) (ar' : AR) (hF : M_enter nf fi ar p1 = some (r, fi', ar')) : Met l yX11_enter (wx yX11_enter cX11_enter 2 (some .int)) ({ frames := 11, cells := 0, slots := 0, locals := 250 } : Room) (va_Pc [.ref (am 0), .int p1] (PM g am sz fi ar)) (QMi g am sz r fi' ar') 0 0 (AM am sz) := by
  refine Met.ofW (cc := cX11_enter) (maxL := 2) (ret := (some .int)) (by decide) rfl ?_
  intro p e s m args below meth c s₁ B hml hv
  obtain ⟨rfl, hsz, hP, hK, hD0, hE⟩ := hv
  have hx := B.exec
  have hb := B.bytes
  have hr := B.returns
  have hts := atoms_spec (ws := (wx yX11_enter cX11_enter 2 (some .int))) B.pre
  have hT : ∀ w ∈ TB, w.before _ s = true := fun w h => hts w (List.mem_cons_of_mem _ h)
  have hown : s.vm.findClass RX11 = some m.cls := findClass_of_methodNamed B.named
  have hlocks := B.notSynchronized
  subst hsz
  have hD := dM hD0 s.heap.size
  have hA : ∀ q : Nat, s.heap.size ≤ q → AM am s.heap.size q := fun q h => Or.inr h
  have hS : va_S (AM am s.heap.size) s.heap s.heap [] := va_S.rf
  have hl := lv_entry ([.ref (am 0), .int p1]) (n := 2) (Nat.le_of_ble_eq_true rfl)
  rw [lg_entry_eq]
  generalize (lg_sl ([.ref (am 0), .int p1]) ++ List.replicate (2 - (lg_sl ([.ref (am 0), .int p1])).length) Slot.unset).toArray = ls at hl ⊢
  have hl : lv_has ls 2 [(0, .ref (am 0)), (1, .int p1)] := hl
  unfold M_enter at hF
  have J33 : ∀  (fi : FI) (ar : AR) (H : Heap) (locs : List Loc) (ls : Array Slot), M_enter_33 nf fi ar = some (r, fi', ar') → lv_has ls 2 [(0, .ref (am 0))] → va_P (gD g) vwCl (WM g am fi ar) H → va_S (AM am s.heap.size) s.heap H locs → W p l e (headSpec (wx yX11_enter cX11_enter 2 (some .int)) ({ frames := 11, cells := 0, slots := 0, locals := 250 } : Room)).room s m ([.ref (am 0), .int p1] : List Value).toArray below meth c H locs 0 0 (MQ below (QMi g am s.heap.size r fi' ar') ([.ref (am 0), .int p1] : List Value).toArray s 0 0 (AM am s.heap.size)) (F0 m 33 ls []) := by
    intro fi ar H locs ls hF hl hP hS
    unfold M_enter_33 at hF
    refine lv_iconst (v := (0 : Int32)) hx hb dX11_enter_33 (by decide) ?_
    exact rM_i hx hb hr hlocks hF hP hS dX11_enter_34
  have J26 : ∀ (x1 : Int32) (t1 : Int32) (fi : FI) (ar : AR) (H : Heap) (locs : List Loc) (ls : Array Slot), M_enter_26 nf x1 t1 fi ar = some (r, fi', ar') → lv_has ls 2 [(0, .ref (am 0)), (1, .int x1)] → va_P (gD g) vwCl (WM g am fi ar) H → va_S (AM am s.heap.size) s.heap H locs → W p l e (headSpec (wx yX11_enter cX11_enter 2 (some .int)) ({ frames := 11, cells := 0, slots := 0, locals := 250 } : Room)).room s m ([.ref (am 0), .int p1] : List Value).toArray below meth c H locs 0 0 (MQ below (QMi g am s.heap.size r fi' ar') ([.ref (am 0), .int p1] : List Value).toArray s 0 0 (AM am s.heap.size)) (F0 m 26 ls [.int t1, .ref (am 0)]) := by
    intro x1 t1 fi ar H locs ls hF hl hP hS
    unfold M_enter_26 at hF
    refine lv_iconst (v := (3 : Int32)) hx hb dX11_enter_26 (by decide) ?_
    replace hF := obnd3_of hF
    obtain ⟨r4, fi2, ar3, h1, hF⟩ := hF
    refine cM_i (As := [.int (t1), .int (3 : Int32)]) (rest := []) hx hb hml hT hown hK hE hD hA hP hS (k_fails l g am _ nf fi ar (t1) (3 : Int32) r4 fi2 ar3 h1) cw_X11_fails mw18_14 ⟨⟨rfl, rfl⟩, Nat.le_of_ble_eq_true rfl, Nat.le_of_ble_eq_true rfl⟩ rfl hl.1 rfl (Nat.le_of_ble_eq_true rfl) dX11_enter_27 ⟨Nat.zero_le _, Nat.zero_le _⟩ (fun H locs hP hS => ?_)
    refine lv_if_eq (tgt := 35) hx hb dX11_enter_30 (by decide) (fun hc5 => ?_) (fun hc5 => ?_)
    · replace hF := br_yes hF hc5
      refine lv_aload_n hx hb dX11_enter_35 rfl (lv_at hl 0 rfl) ?_
      refine lv_aload_n hx hb dX11_enter_36 rfl (lv_at hl 0 rfl) ?_
      refine lv_aload_n hx hb dX11_enter_37 rfl (lv_at hl 0 rfl) ?_
      refine lv_iload_n hx hb dX11_enter_38 rfl (lv_at hl 1 rfl) ?_
      replace hF := obnd3_of hF
      obtain ⟨r9, fi7, ar8, h6, hF⟩ := hF
      refine cM_i (As := [.int (x1)]) (rest := [.ref (am 0), .ref (am 0)]) hx hb hml hT hown hK hE hD hA hP hS (k_item l g am _ nf fi2 ar3 (x1) r9 fi7 ar8 h6) cw_X11_item mw40_7 ⟨⟨rfl, rfl⟩, Nat.le_of_ble_eq_true rfl, Nat.le_of_ble_eq_true rfl⟩ rfl hl.1 rfl (Nat.le_of_ble_eq_true rfl) dX11_enter_39 ⟨Nat.zero_le _, Nat.zero_le _⟩ (fun H locs hP hS => ?_)
      replace hF := obnd3_of hF
      obtain ⟨r13, fi11, ar12, h10, hF⟩ := hF
      refine cM_i (As := [.int (r9)]) (rest := [.ref (am 0)]) hx hb hml hT hown hK hE hD hA hP hS (k_beginOf l g am _ nf fi7 ar8 (r9) r13 fi11 ar12 h10) cw_X11_beginOf mw32_9 ⟨⟨rfl, rfl⟩, Nat.le_of_ble_eq_true rfl, Nat.le_of_ble_eq_true rfl⟩ rfl hl.1 rfl (Nat.le_of_ble_eq_true rfl) dX11_enter_42 ⟨Nat.zero_le _, Nat.zero_le _⟩ (fun H locs hP hS => ?_)
      obtain ⟨fi14, efi14⟩ : ∃ y : FI, y = va_up fi11 14 (r13) := ⟨_, rfl⟩
      replace hF := bnd_of hF efi14
      refine mp_14 hx hb hT hown hK hP hD hS mw18_4 dX11_enter_45 (fun H locs hP hS => ?_)
      rw [← efi14] at hP
      refine lv_aload_n hx hb dX11_enter_48 rfl (lv_at hl 0 rfl) ?_
      replace hF := obnd3_of hF
      obtain ⟨r18, fi16, ar17, h15, hF⟩ := hF
      refine cM_i (As := []) (rest := []) hx hb hml hT hown hK hE hD hA hP hS (k_many l g am _ nf fi14 ar12 r18 fi16 ar17 h15) cw_X11_many mw38_14 ⟨⟨rfl, rfl⟩, Nat.le_of_ble_eq_true rfl, Nat.le_of_ble_eq_true rfl⟩ rfl hl.1 rfl (Nat.le_of_ble_eq_true rfl) dX11_enter_49 ⟨Nat.zero_le _, Nat.zero_le _⟩ (fun H locs hP hS => ?_)
      exact rM_i hx hb hr hlocks hF hP hS dX11_enter_52
    · replace hF := br_no hF hc5
      exact J33  _ _ _ _ _ hF (lv_sub hl [0] rfl) hP hS
  replace hl := lv_sub hl [0, 1] rfl
  refine lv_aload_n hx hb dX11_enter_0 rfl (lv_at hl 0 rfl) ?_
  refine lv_iload_n hx hb dX11_enter_1 rfl (lv_at hl 1 rfl) ?_
  replace hF := obnd3_of hF
  obtain ⟨r22, fi20, ar21, h19, hF⟩ := hF
  refine cM_i (As := [.int (p1)]) (rest := []) hx hb hml hT hown hK hE hD hA hP hS (k_no l g am _ nf fi ar (p1) r22 fi20 ar21 h19) cw_X11_no mw40_3 ⟨⟨rfl, rfl⟩, Nat.le_of_ble_eq_true rfl, Nat.le_of_ble_eq_true rfl⟩ rfl hl.1 rfl (Nat.le_of_ble_eq_true rfl) dX11_enter_2 ⟨Nat.zero_le _, Nat.zero_le _⟩ (fun H locs hP hS => ?_)
  refine lv_if_ne (tgt := 33) hx hb dX11_enter_5 (by decide) (fun hc23 => ?_) (fun hc23 => ?_)
  · replace hF := br_no hF hc23
    exact J33  _ _ _ _ _ hF (lv_sub hl [0] rfl) hP hS
  · replace hF := br_yes hF hc23
    refine lv_aload_n hx hb dX11_enter_8 rfl (lv_at hl 0 rfl) ?_
    refine lv_aload_n hx hb dX11_enter_9 rfl (lv_at hl 0 rfl) ?_
    refine lv_aload_n hx hb dX11_enter_10 rfl (lv_at hl 0 rfl) ?_
    refine lv_iload_n hx hb dX11_enter_11 rfl (lv_at hl 1 rfl) ?_
    replace hF := obnd3_of hF
    obtain ⟨r27, fi25, ar26, h24, hF⟩ := hF
    refine cM_i (As := [.int (p1)]) (rest := [.ref (am 0), .ref (am 0)]) hx hb hml hT hown hK hE hD hA hP hS (k_item l g am _ nf fi20 ar21 (p1) r27 fi25 ar26 h24) cw_X11_item mw40_7 ⟨⟨rfl, rfl⟩, Nat.le_of_ble_eq_true rfl, Nat.le_of_ble_eq_true rfl⟩ rfl hl.1 rfl (Nat.le_of_ble_eq_true rfl) dX11_enter_12 ⟨Nat.zero_le _, Nat.zero_le _⟩ (fun H locs hP hS => ?_)
    replace hF := obnd3_of hF
    obtain ⟨r31, fi29, ar30, h28, hF⟩ := hF
    refine cM_i (As := [.int (r27)]) (rest := [.ref (am 0)]) hx hb hml hT hown hK hE hD hA hP hS (k_isFolder l g am _ nf fi25 ar26 (r27) r31 fi29 ar30 h28) cw_X11_isFolder mw31_21 ⟨⟨rfl, rfl⟩, Nat.le_of_ble_eq_true rfl, Nat.le_of_ble_eq_true rfl⟩ rfl hl.1 rfl (Nat.le_of_ble_eq_true rfl) dX11_enter_15 ⟨Nat.zero_le _, Nat.zero_le _⟩ (fun H locs hP hS => ?_)
    refine lv_if_ne (tgt := 25) hx hb dX11_enter_18 (by decide) (fun hc32 => ?_) (fun hc32 => ?_)
    · replace hF := br_no hF hc32
      refine lv_iconst (v := (0 : Int32)) hx hb dX11_enter_25 (by decide) ?_
      exact J26 (p1) (0 : Int32) _ _ _ _ _ hF (lv_sub hl [0, 1] rfl) hP hS
    · replace hF := br_yes hF hc32
      refine lv_iconst (v := (1 : Int32)) hx hb dX11_enter_21 (by decide) ?_
      refine lv_goto (tgt := 26) hx hb dX11_enter_22 (by decide) ?_
      exact J26 (p1) (1 : Int32) _ _ _ _ _ hF (lv_sub hl [0, 1] rfl) hP hS
theorem cw_X11_enter : (Cond.instanceMethod yX11_enter ∈ TB ∧ Cond.selects RX11 yX11_enter yX11_enter ∈ TB ∧ Cond.code yX11_enter cX11_enter 2 (some .int) ∈ TB) ∧ (yX11_enter.cls = RX11 ∧ yX11_enter.cls ≠ "java/lang/invoke/MethodHandle" ∧ yX11_enter.cls ≠ "java/lang/invoke/VarHandle" ∧ (parseMethodDescriptor yX11_enter.desc).map (fun d => d.parameters.length) = some 1) := ⟨⟨mw43_21, mw43_22, mw43_23⟩, by decide +kernel⟩
/-! X11_up -/
noncomputable def M_up_40 (nf : Nat) (t1 : Int32) (fi : FI) (ar : AR) : Option (Int32 × FI × AR) :=
  bnd (va_up fi 14 (t1)) fun fi1 => some ((1 : Int32), fi1, ar)
noncomputable def M_up_14 (nf : Nat)  (fi : FI) (ar : AR) : Option (Int32 × FI × AR) :=
  some ((0 : Int32), fi, ar)
noncomputable def M_up (nf : Nat) (fi : FI) (ar : AR)  : Option (Int32 × FI × AR) :=
  obnd3 (M_none nf fi ar) fun r5 fi3 ar4 => br ((r5) = 0) (br ((fi3 14) = 0) (M_up_14 nf  fi3 ar4) (obnd3 (M_folderHere nf fi3 ar4) fun r11 fi9 ar10 => gd (¬ ((r11) < 0 ∨ 16400 ≤ (r11).toNatClampNeg)) (bnd (ar10 23 (r11).toNatClampNeg) fun x1_13 => br ((x1_13) = 0) (M_up_40 nf  (0 : Int32) fi9 ar10) (obnd3 (M_beginOf nf fi9 ar10 (x1_13)) fun r18 fi16 ar17 => M_up_40 nf  (r18) fi16 ar17)))) (M_up_14 nf  fi3 ar4)
set_option maxHeartbeats 4000000 in
set_option maxRecDepth 100000 in
theorem k_up (l : Launch) (g : GT) (am : Nat → Nat) (sz : Nat) (nf : Nat) (fi : FI) (ar : AR)  (r : Int32) (fi' : FI) (ar' : AR) (hF : M_up nf fi ar  = some (r, fi', ar')) : Met l yX11_up (wx yX11_up cX11_up 2 (some .boolean)) ({ frames := 10, cells := 0, slots := 0, locals := 229 } : Room) (va_Pc [.ref (am 0)] (PM g am sz fi ar)) (QMi g am sz r fi' ar') 0 0 (AM am sz) := by
  refine Met.ofW (cc := cX11_up) (maxL := 2) (ret := (some .boolean)) (by decide) rfl ?_
  intro p e s m args below meth c s₁ B hml hv
  obtain ⟨rfl, hsz, hP, hK, hD0, hE⟩ := hv
  have hx := B.exec
  have hb := B.bytes
  have hr := B.returns
  have hts := atoms_spec (ws := (wx yX11_up cX11_up 2 (some .boolean))) B.pre
  have hT : ∀ w ∈ TB, w.before _ s = true := fun w h => hts w (List.mem_cons_of_mem _ h)
  have hown : s.vm.findClass RX11 = some m.cls := findClass_of_methodNamed B.named
  have hlocks := B.notSynchronized
  subst hsz
  have hD := dM hD0 s.heap.size
  have hA : ∀ q : Nat, s.heap.size ≤ q → AM am s.heap.size q := fun q h => Or.inr h
  have hS : va_S (AM am s.heap.size) s.heap s.heap [] := va_S.rf
  have hl := lv_entry ([.ref (am 0)]) (n := 2) (Nat.le_of_ble_eq_true rfl)
  rw [lg_entry_eq]
  generalize (lg_sl ([.ref (am 0)]) ++ List.replicate (2 - (lg_sl ([.ref (am 0)])).length) Slot.unset).toArray = ls at hl ⊢
  have hl : lv_has ls 2 [(0, .ref (am 0))] := hl
  unfold M_up at hF
  have J40 : ∀ (t1 : Int32) (fi : FI) (ar : AR) (H : Heap) (locs : List Loc) (ls : Array Slot), M_up_40 nf t1 fi ar = some (r, fi', ar') → lv_has ls 2 [(0, .ref (am 0))] → va_P (gD g) vwCl (WM g am fi ar) H → va_S (AM am s.heap.size) s.heap H locs → W p l e (headSpec (wx yX11_up cX11_up 2 (some .boolean)) ({ frames := 10, cells := 0, slots := 0, locals := 229 } : Room)).room s m ([.ref (am 0)] : List Value).toArray below meth c H locs 0 0 (MQ below (QMi g am s.heap.size r fi' ar') ([.ref (am 0)] : List Value).toArray s 0 0 (AM am s.heap.size)) (F0 m 40 ls [.int t1, .ref (am 0)]) := by
    intro t1 fi ar H locs ls hF hl hP hS
    unfold M_up_40 at hF
    obtain ⟨fi1, efi1⟩ : ∃ y : FI, y = va_up fi 14 (t1) := ⟨_, rfl⟩
    replace hF := bnd_of hF efi1
    refine mp_14 hx hb hT hown hK hP hD hS mw18_4 dX11_up_40 (fun H locs hP hS => ?_)
    rw [← efi1] at hP
    refine lv_iconst (v := (1 : Int32)) hx hb dX11_up_43 (by decide) ?_
    exact rM_z hx hb hr hlocks rfl hF hP hS dX11_up_44
  have J14 : ∀  (fi : FI) (ar : AR) (H : Heap) (locs : List Loc) (ls : Array Slot), M_up_14 nf fi ar = some (r, fi', ar') → lv_has ls 2 [(0, .ref (am 0))] → va_P (gD g) vwCl (WM g am fi ar) H → va_S (AM am s.heap.size) s.heap H locs → W p l e (headSpec (wx yX11_up cX11_up 2 (some .boolean)) ({ frames := 10, cells := 0, slots := 0, locals := 229 } : Room)).room s m ([.ref (am 0)] : List Value).toArray below meth c H locs 0 0 (MQ below (QMi g am s.heap.size r fi' ar') ([.ref (am 0)] : List Value).toArray s 0 0 (AM am s.heap.size)) (F0 m 14 ls []) := by
    intro fi ar H locs ls hF hl hP hS
    unfold M_up_14 at hF
    refine lv_iconst (v := (0 : Int32)) hx hb dX11_up_14 (by decide) ?_
    exact rM_z hx hb hr hlocks rfl hF hP hS dX11_up_15
  replace hl := lv_sub hl [0] rfl
  refine lv_aload_n hx hb dX11_up_0 rfl (lv_at hl 0 rfl) ?_
  replace hF := obnd3_of hF
  obtain ⟨r5, fi3, ar4, h2, hF⟩ := hF
  refine cM_i (As := []) (rest := []) hx hb hml hT hown hK hE hD hA hP hS (k_none l g am _ nf fi ar r5 fi3 ar4 h2) cw_X11_none mw38_10 ⟨⟨rfl, rfl⟩, Nat.le_of_ble_eq_true rfl, Nat.le_of_ble_eq_true rfl⟩ rfl hl.1 rfl (Nat.le_of_ble_eq_true rfl) dX11_up_1 ⟨Nat.zero_le _, Nat.zero_le _⟩ (fun H locs hP hS => ?_)
  refine lv_if_ne (tgt := 14) hx hb dX11_up_4 (by decide) (fun hc6 => ?_) (fun hc6 => ?_)
  · replace hF := br_no hF hc6
    exact J14  _ _ _ _ _ hF (lv_sub hl [0] rfl) hP hS
  · replace hF := br_yes hF hc6
    refine lv_aload_n hx hb dX11_up_7 rfl (lv_at hl 0 rfl) ?_
    refine mg_14 hx hb hT hown hK hP mw18_4 dX11_up_8 ?_
    refine lv_if_ne (tgt := 16) hx hb dX11_up_11 (by decide) (fun hc7 => ?_) (fun hc7 => ?_)
    · replace hF := br_no hF hc7
      refine lv_aload_n hx hb dX11_up_16 rfl (lv_at hl 0 rfl) ?_
      refine mg_23 hx hb hT hown hK hP mw6_8 dX11_up_17 ?_
      refine lv_aload_n hx hb dX11_up_20 rfl (lv_at hl 0 rfl) ?_
      replace hF := obnd3_of hF
      obtain ⟨r11, fi9, ar10, h8, hF⟩ := hF
      refine cM_i (As := []) (rest := [.ref (am 23)]) hx hb hml hT hown hK hE hD hA hP hS (k_folderHere l g am _ nf fi3 ar4 r11 fi9 ar10 h8) cw_X11_folderHere mw38_18 ⟨⟨rfl, rfl⟩, Nat.le_of_ble_eq_true rfl, Nat.le_of_ble_eq_true rfl⟩ rfl hl.1 rfl (Nat.le_of_ble_eq_true rfl) dX11_up_21 ⟨Nat.zero_le _, Nat.zero_le _⟩ (fun H locs hP hS => ?_)
      replace hF := gd_of hF
      obtain ⟨hi12, hF⟩ := hF
      refine ml_23 hx hb hK hP hi12 dX11_up_24 ?_
      obtain ⟨x1_13, ex1_13⟩ : ∃ y : Int32, y = (ar10 23 (r11).toNatClampNeg) := ⟨_, rfl⟩
      rw [← ex1_13]
      replace hF := bnd_of hF ex1_13
      refine lv_istore_n (lv' := [(1, .int (x1_13)), (0, .ref (am 0))]) hx hb dX11_up_25 rfl hl (by decide) rfl (fun ls hl => ?_)
      refine lv_aload_n hx hb dX11_up_26 rfl (lv_at hl 1 rfl) ?_
      refine lv_iload_n hx hb dX11_up_27 rfl (lv_at hl 0 rfl) ?_
      refine lv_if_ne (tgt := 35) hx hb dX11_up_28 (by decide) (fun hc14 => ?_) (fun hc14 => ?_)
      · replace hF := br_no hF hc14
        refine lv_aload_n hx hb dX11_up_35 rfl (lv_at hl 1 rfl) ?_
        refine lv_iload_n hx hb dX11_up_36 rfl (lv_at hl 0 rfl) ?_
        replace hF := obnd3_of hF
        obtain ⟨r18, fi16, ar17, h15, hF⟩ := hF
        refine cM_i (As := [.int (x1_13)]) (rest := [.ref (am 0)]) hx hb hml hT hown hK hE hD hA hP hS (k_beginOf l g am _ nf fi9 ar10 (x1_13) r18 fi16 ar17 h15) cw_X11_beginOf mw32_9 ⟨⟨rfl, rfl⟩, Nat.le_of_ble_eq_true rfl, Nat.le_of_ble_eq_true rfl⟩ rfl hl.1 rfl (Nat.le_of_ble_eq_true rfl) dX11_up_37 ⟨Nat.zero_le _, Nat.zero_le _⟩ (fun H locs hP hS => ?_)
        exact J40 (r18) _ _ _ _ _ hF (lv_sub hl [1] rfl) hP hS
      · replace hF := br_yes hF hc14
        refine lv_iconst (v := (0 : Int32)) hx hb dX11_up_31 (by decide) ?_
        refine lv_goto (tgt := 40) hx hb dX11_up_32 (by decide) ?_
        exact J40 (0 : Int32) _ _ _ _ _ hF (lv_sub hl [1] rfl) hP hS
    · replace hF := br_yes hF hc7
      exact J14  _ _ _ _ _ hF (lv_sub hl [0] rfl) hP hS
theorem cw_X11_up : (Cond.instanceMethod yX11_up ∈ TB ∧ Cond.selects RX11 yX11_up yX11_up ∈ TB ∧ Cond.code yX11_up cX11_up 2 (some .boolean) ∈ TB) ∧ (yX11_up.cls = RX11 ∧ yX11_up.cls ≠ "java/lang/invoke/MethodHandle" ∧ yX11_up.cls ≠ "java/lang/invoke/VarHandle" ∧ (parseMethodDescriptor yX11_up.desc).map (fun d => d.parameters.length) = some 0) := ⟨⟨mw44_8, mw44_9, mw44_10⟩, by decide +kernel⟩
/-! X11_take -/
noncomputable def M_take_25b (K25 : Int32 → Int32 → FI → AR → Option (Int32 × FI × AR)) (nf : Nat) (x1 : Int32) (x2 : Int32) (fi : FI) (ar : AR) : Option (Int32 × FI × AR) :=
  br (((512 : Int32) * (fi 7)) ≤ (x2)) (some ((x1), fi, ar)) (obnd3 (M_place nf fi ar (x1)) fun r5 fi3 ar4 => gd (¬ (((r5) + (x2)) < 0 ∨ 524288 ≤ ((r5) + (x2)).toNatClampNeg)) (bnd (va_up ar4 1 (upd (ar4 1) ((r5) + (x2)).toNatClampNeg (vp_nar .byte (0 : Int32)))) fun ar7 => bnd ((x2) + (1 : Int32)) fun x2_8 => K25 (x1) (x2_8) fi3 ar7))
noncomputable def M_take_25 (nf : Nat) (kf : Nat) : Int32 → Int32 → FI → AR → Option (Int32 × FI × AR) := Nat.rec (fun _ _ _ _ => none) (fun _ K25 => M_take_25b K25 nf) kf
noncomputable def M_take_2b (K2 : Int32 → FI → AR → Option (Int32 × FI × AR)) (nf : Nat) (x1 : Int32) (fi : FI) (ar : AR) : Option (Int32 × FI × AR) :=
  obnd3 (M_entry nf fi ar (x1)) fun r12 fi10 ar11 => br ((r12) = 0) (obnd3 (M_setEntry nf fi10 ar11 (x1) (268435455 : Int32)) fun r17 fi15 ar16 => M_take_25 nf nf (x1) (0 : Int32) fi15 ar16) (bnd ((x1) + (1 : Int32)) fun x1_18 => K2 (x1_18) fi10 ar11)
noncomputable def M_take_2 (nf : Nat) (kf : Nat) : Int32 → FI → AR → Option (Int32 × FI × AR) := Nat.rec (fun _ _ _ => none) (fun _ K2 => M_take_2b K2 nf) kf
noncomputable def M_take (nf : Nat) (fi : FI) (ar : AR)  : Option (Int32 × FI × AR) :=
  M_take_2 nf nf (2 : Int32) fi ar
set_option maxHeartbeats 4000000 in
set_option maxRecDepth 100000 in
theorem k_take (l : Launch) (g : GT) (am : Nat → Nat) (sz : Nat) (nf : Nat) (fi : FI) (ar : AR)  (r : Int32) (fi' : FI) (ar' : AR) (hF : M_take nf fi ar  = some (r, fi', ar')) : Met l yX11_take (wx yX11_take cX11_take 3 (some .int)) ({ frames := 4, cells := 0, slots := 0, locals := 87 } : Room) (va_Pc [.ref (am 0)] (PM g am sz fi ar)) (QMi g am sz r fi' ar') 0 0 (AM am sz) := by
  refine Met.ofW (cc := cX11_take) (maxL := 3) (ret := (some .int)) (by decide) rfl ?_
  intro p e s m args below meth c s₁ B hml hv
  obtain ⟨rfl, hsz, hP, hK, hD0, hE⟩ := hv
  have hx := B.exec
  have hb := B.bytes
  have hr := B.returns
  have hts := atoms_spec (ws := (wx yX11_take cX11_take 3 (some .int))) B.pre
  have hT : ∀ w ∈ TB, w.before _ s = true := fun w h => hts w (List.mem_cons_of_mem _ h)
  have hown : s.vm.findClass RX11 = some m.cls := findClass_of_methodNamed B.named
  have hlocks := B.notSynchronized
  subst hsz
  have hD := dM hD0 s.heap.size
  have hA : ∀ q : Nat, s.heap.size ≤ q → AM am s.heap.size q := fun q h => Or.inr h
  have hS : va_S (AM am s.heap.size) s.heap s.heap [] := va_S.rf
  have hl := lv_entry ([.ref (am 0)]) (n := 3) (Nat.le_of_ble_eq_true rfl)
  rw [lg_entry_eq]
  generalize (lg_sl ([.ref (am 0)]) ++ List.replicate (3 - (lg_sl ([.ref (am 0)])).length) Slot.unset).toArray = ls at hl ⊢
  have hl : lv_has ls 3 [(0, .ref (am 0))] := hl
  unfold M_take at hF
  have L25 : ∀ kf : Nat, ∀ (x1 : Int32) (x2 : Int32) (fi : FI) (ar : AR) (H : Heap) (locs : List Loc) (ls : Array Slot), M_take_25 nf kf x1 x2 fi ar = some (r, fi', ar') → lv_has ls 3 [(0, .ref (am 0)), (1, .int x1), (2, .int x2)] → va_P (gD g) vwCl (WM g am fi ar) H → va_S (AM am s.heap.size) s.heap H locs → W p l e (headSpec (wx yX11_take cX11_take 3 (some .int)) ({ frames := 4, cells := 0, slots := 0, locals := 87 } : Room)).room s m ([.ref (am 0)] : List Value).toArray below meth c H locs 0 0 (MQ below (QMi g am s.heap.size r fi' ar') ([.ref (am 0)] : List Value).toArray s 0 0 (AM am s.heap.size)) (F0 m 25 ls []) := by
    intro kf
    induction kf with
    | zero => intro x1 x2 fi ar H locs ls hF hl hP hS; cases (show (none : Option (Int32 × FI × AR)) = _ from hF)
    | succ kf ih25 =>
      intro x1 x2 fi ar H locs ls hF hl hP hS
      obtain ⟨K25, hK25⟩ : ∃ K : Int32 → Int32 → FI → AR → Option (Int32 × FI × AR), K = M_take_25 nf kf := ⟨_, rfl⟩
      replace hF : M_take_25b K25 nf x1 x2 fi ar = some (r, fi', ar') := by rw [hK25]; exact hF
      rw [← hK25] at ih25
      clear hK25
      unfold M_take_25b at hF
      refine lv_iload_n hx hb dX11_take_25 rfl (lv_at hl 2 rfl) ?_
      refine lv_sipush (v := (512 : Int32)) hx hb dX11_take_26 (by decide) ?_
      refine lv_aload_n hx hb dX11_take_29 rfl (lv_at hl 0 rfl) ?_
      refine mg_7 hx hb hT hown hK hP mw19_2 dX11_take_30 ?_
      refine lv_imul hx hb dX11_take_33 ?_
      refine lv_icmp_ge (tgt := 56) hx hb dX11_take_34 (by decide) (fun hc1 => ?_) (fun hc1 => ?_)
      · replace hF := br_yes hF hc1
        refine lv_iload_n hx hb dX11_take_56 rfl (lv_at hl 1 rfl) ?_
        exact rM_i hx hb hr hlocks hF hP hS dX11_take_57
      · replace hF := br_no hF hc1
        refine lv_aload_n hx hb dX11_take_37 rfl (lv_at hl 0 rfl) ?_
        refine mg_1 hx hb hT hown hK hP mw6_1 dX11_take_38 ?_
        refine lv_aload_n hx hb dX11_take_41 rfl (lv_at hl 0 rfl) ?_
        refine lv_iload_n hx hb dX11_take_42 rfl (lv_at hl 1 rfl) ?_
        replace hF := obnd3_of hF
        obtain ⟨r5, fi3, ar4, h2, hF⟩ := hF
        refine cM_i (As := [.int (x1)]) (rest := [.ref (am 1)]) hx hb hml hT hown hK hE hD hA hP hS (k_place l g am _ nf fi ar (x1) r5 fi3 ar4 h2) cw_X11_place mw20_10 ⟨⟨rfl, rfl⟩, Nat.le_of_ble_eq_true rfl, Nat.le_of_ble_eq_true rfl⟩ rfl hl.1 rfl (Nat.le_of_ble_eq_true rfl) dX11_take_43 ⟨Nat.zero_le _, Nat.zero_le _⟩ (fun H locs hP hS => ?_)
        refine lv_iload_n hx hb dX11_take_46 rfl (lv_at hl 2 rfl) ?_
        refine lv_iadd hx hb dX11_take_47 ?_
        refine lv_iconst (v := (0 : Int32)) hx hb dX11_take_48 (by decide) ?_
        replace hF := gd_of hF
        obtain ⟨hi6, hF⟩ := hF
        obtain ⟨ar7, ear7⟩ : ∃ y : AR, y = va_up ar4 1 (upd (ar4 1) ((r5) + (x2)).toNatClampNeg (vp_nar .byte (0 : Int32))) := ⟨_, rfl⟩
        replace hF := bnd_of hF ear7
        refine ms_1 hx hb hK hP hD hS hi6 dX11_take_49 (fun H locs hP hS => ?_)
        rw [← ear7] at hP
        obtain ⟨x2_8, ex2_8⟩ : ∃ y : Int32, y = (x2) + (1 : Int32) := ⟨_, rfl⟩
        replace hF := bnd_of hF ex2_8
        refine lv_iinc (v := x2_8) (lv' := [(2, .int (x2_8)), (0, .ref (am 0)), (1, .int (x1))]) hx hb dX11_take_50 hl (k := 2) rfl (by rw [ex2_8]; rfl) (by decide) rfl (fun ls hl => ?_)
        refine lv_goto (tgt := 25) hx hb dX11_take_53 (by decide) ?_
        exact ih25 (x1) (x2_8) _ _ _ _ _ hF (lv_sub hl [1, 2, 0] rfl) hP hS
  have L2 : ∀ kf : Nat, ∀ (x1 : Int32) (fi : FI) (ar : AR) (H : Heap) (locs : List Loc) (ls : Array Slot), M_take_2 nf kf x1 fi ar = some (r, fi', ar') → lv_has ls 3 [(0, .ref (am 0)), (1, .int x1)] → va_P (gD g) vwCl (WM g am fi ar) H → va_S (AM am s.heap.size) s.heap H locs → W p l e (headSpec (wx yX11_take cX11_take 3 (some .int)) ({ frames := 4, cells := 0, slots := 0, locals := 87 } : Room)).room s m ([.ref (am 0)] : List Value).toArray below meth c H locs 0 0 (MQ below (QMi g am s.heap.size r fi' ar') ([.ref (am 0)] : List Value).toArray s 0 0 (AM am s.heap.size)) (F0 m 2 ls []) := by
    intro kf
    induction kf with
    | zero => intro x1 fi ar H locs ls hF hl hP hS; cases (show (none : Option (Int32 × FI × AR)) = _ from hF)
    | succ kf ih2 =>
      intro x1 fi ar H locs ls hF hl hP hS
      obtain ⟨K2, hK2⟩ : ∃ K : Int32 → FI → AR → Option (Int32 × FI × AR), K = M_take_2 nf kf := ⟨_, rfl⟩
      replace hF : M_take_2b K2 nf x1 fi ar = some (r, fi', ar') := by rw [hK2]; exact hF
      rw [← hK2] at ih2
      clear hK2
      unfold M_take_2b at hF
      refine lv_aload_n hx hb dX11_take_2 rfl (lv_at hl 0 rfl) ?_
      refine lv_iload_n hx hb dX11_take_3 rfl (lv_at hl 1 rfl) ?_
      replace hF := obnd3_of hF
      obtain ⟨r12, fi10, ar11, h9, hF⟩ := hF
      refine cM_i (As := [.int (x1)]) (rest := []) hx hb hml hT hown hK hE hD hA hP hS (k_entry l g am _ nf fi ar (x1) r12 fi10 ar11 h9) cw_X11_entry mw31_17 ⟨⟨rfl, rfl⟩, Nat.le_of_ble_eq_true rfl, Nat.le_of_ble_eq_true rfl⟩ rfl hl.1 rfl (Nat.le_of_ble_eq_true rfl) dX11_take_4 ⟨Nat.zero_le _, Nat.zero_le _⟩ (fun H locs hP hS => ?_)
      refine lv_if_eq (tgt := 16) hx hb dX11_take_7 (by decide) (fun hc13 => ?_) (fun hc13 => ?_)
      · replace hF := br_yes hF hc13
        refine lv_aload_n hx hb dX11_take_16 rfl (lv_at hl 0 rfl) ?_
        refine lv_iload_n hx hb dX11_take_17 rfl (lv_at hl 1 rfl) ?_
        refine lv_ldc (v := (268435455 : Int32)) hx hb hown (hT _ mw18_1) dX11_take_18 ?_
        replace hF := obnd3_of hF
        obtain ⟨r17, fi15, ar16, h14, hF⟩ := hF
        refine cM_v (As := [.int (x1), .int (268435455 : Int32)]) (rest := []) hx hb hml hT hown hK hE hD hA hP hS (k_setEntry l g am _ nf fi10 ar11 (x1) (268435455 : Int32) r17 fi15 ar16 h14) cw_X11_setEntry mw20_1 ⟨⟨rfl, rfl⟩, Nat.le_of_ble_eq_true rfl, Nat.le_of_ble_eq_true rfl⟩ rfl hl.1 rfl (Nat.le_of_ble_eq_true rfl) dX11_take_20 ⟨Nat.zero_le _, Nat.zero_le _⟩ (fun H locs hP hS => ?_)
        refine lv_iconst (v := (0 : Int32)) hx hb dX11_take_23 (by decide) ?_
        refine lv_istore_n (lv' := [(2, .int (0 : Int32)), (0, .ref (am 0)), (1, .int (x1))]) hx hb dX11_take_24 rfl hl (by decide) rfl (fun ls hl => ?_)
        exact L25 nf (x1) (0 : Int32) _ _ _ _ _ hF (lv_sub hl [1, 2, 0] rfl) hP hS
      · replace hF := br_no hF hc13
        obtain ⟨x1_18, ex1_18⟩ : ∃ y : Int32, y = (x1) + (1 : Int32) := ⟨_, rfl⟩
        replace hF := bnd_of hF ex1_18
        refine lv_iinc (v := x1_18) (lv' := [(1, .int (x1_18)), (0, .ref (am 0))]) hx hb dX11_take_10 hl (k := 1) rfl (by rw [ex1_18]; rfl) (by decide) rfl (fun ls hl => ?_)
        refine lv_goto (tgt := 2) hx hb dX11_take_13 (by decide) ?_
        exact ih2 (x1_18) _ _ _ _ _ hF (lv_sub hl [1, 0] rfl) hP hS
  replace hl := lv_sub hl [0] rfl
  refine lv_iconst (v := (2 : Int32)) hx hb dX11_take_0 (by decide) ?_
  refine lv_istore_n (lv' := [(1, .int (2 : Int32)), (0, .ref (am 0))]) hx hb dX11_take_1 rfl hl (by decide) rfl (fun ls hl => ?_)
  exact L2 nf (2 : Int32) _ _ _ _ _ hF (lv_sub hl [1, 0] rfl) hP hS
theorem cw_X11_take : (Cond.instanceMethod yX11_take ∈ TB ∧ Cond.selects RX11 yX11_take yX11_take ∈ TB ∧ Cond.code yX11_take cX11_take 3 (some .int) ∈ TB) ∧ (yX11_take.cls = RX11 ∧ yX11_take.cls ≠ "java/lang/invoke/MethodHandle" ∧ yX11_take.cls ≠ "java/lang/invoke/VarHandle" ∧ (parseMethodDescriptor yX11_take.desc).map (fun d => d.parameters.length) = some 0) := ⟨⟨mw50_5, mw50_6, mw50_7⟩, by decide +kernel⟩
