/-! X11_named -/
noncomputable def M_named_35b (K35 : Int32 → FI → AR → Option (Int32 × FI × AR)) (nf : Nat) (x1 : Int32) (fi : FI) (ar : AR) : Option (Int32 × FI × AR) :=
  br ((fi 35) ≤ (x1)) (bnd (va_up fi 4 (0 : Int32)) fun fi2 => obnd3 (M_isName nf fi2 ar) fun r6 fi4 ar5 => gd ((r6) &&& 1 = (r6)) (some ((r6), fi4, ar5))) (obnd3 (M_taken nf fi ar ((2 : Int32) * (x1))) fun r11 fi9 ar10 => obnd3 (M_taken nf fi9 ar10 (((2 : Int32) * (x1)) + (1 : Int32))) fun r15 fi13 ar14 => gd (¬ ((x1) < 0 ∨ 300 ≤ (x1).toNatClampNeg)) (bnd (va_up ar14 34 (upd (ar14 34) (x1).toNatClampNeg (vp_nar .char (((((r11) <<< ((8 : Int32) &&& 31)) ||| (r15)).toUInt32 % 65536).toInt32)))) fun ar17 => bnd ((x1) + (1 : Int32)) fun x1_18 => K35 (x1_18) fi13 ar17))
noncomputable def M_named_35 (nf : Nat) (kf : Nat) : Int32 → FI → AR → Option (Int32 × FI × AR) := Nat.rec (fun _ _ _ => none) (fun _ K35 => M_named_35b K35 nf) kf
noncomputable def M_named_30 (nf : Nat) (t1 : Int32) (fi : FI) (ar : AR) : Option (Int32 × FI × AR) :=
  bnd (va_up fi 35 (t1)) fun fi19 => M_named_35 nf nf (0 : Int32) fi19 ar
noncomputable def M_named_29 (nf : Nat)  (fi : FI) (ar : AR) : Option (Int32 × FI × AR) :=
  M_named_30 nf  (0 : Int32) fi ar
noncomputable def M_named (nf : Nat) (fi : FI) (ar : AR)  : Option (Int32 × FI × AR) :=
  br (((fi 4) - (fi 4) / (2 : Int32) * (2 : Int32)) = 0) (br ((510 : Int32) < (fi 4)) (M_named_29 nf  fi ar) (M_named_30 nf  ((fi 4) / (2 : Int32)) fi ar)) (M_named_29 nf  fi ar)
set_option maxHeartbeats 4000000 in
set_option maxRecDepth 100000 in
theorem k_named (l : Launch) (g : GT) (am : Nat → Nat) (sz : Nat) (nf : Nat) (fi : FI) (ar : AR)  (r : Int32) (fi' : FI) (ar' : AR) (hF : M_named nf fi ar  = some (r, fi', ar')) : Met l yX11_named (wx yX11_named cX11_named 2 (some .boolean)) ({ frames := 5, cells := 0, slots := 0, locals := 114 } : Room) (va_Pc [.ref (am 0)] (PM g am sz fi ar)) (QMi g am sz r fi' ar') 0 0 (AM am sz) := by
  refine Met.ofW (cc := cX11_named) (maxL := 2) (ret := (some .boolean)) (by decide) rfl ?_
  intro p e s m args below meth c s₁ B hml hv
  obtain ⟨rfl, hsz, hP, hK, hD0, hE⟩ := hv
  have hx := B.exec
  have hb := B.bytes
  have hr := B.returns
  have hts := atoms_spec (ws := (wx yX11_named cX11_named 2 (some .boolean))) B.pre
  have hT : ∀ w ∈ TB, w.before _ s = true := fun w h => hts w (List.mem_cons_of_mem _ h)
  have hown : s.vm.findClass RX11 = some m.cls := findClass_of_methodNamed B.named
  have hlocks := B.notSynchronized
  subst hsz
  have hD := dM hD0 s.heap.size
  have hA : ∀ q : Nat, s.heap.size ≤ q → AM am s.heap.size q := fun q h => Or.inr h
  have hS : va_S (AM am s.heap.size) s.heap s.heap [] := va_S.rf
  have hl := lv_entry ([.ref (am 0)]) (n := 2) (Nat.le_of_ble_eq_true rfl)
  rw [lg_entry_eq]
  generalize (lg_sl ([.ref (am 0)]) ++ List.replicate (2 - (lg_sl ([.ref (am 0)])).length) Slot.unset).toArray = ls at hl ⊢
  have hl : lv_has ls 2 [(0, .ref (am 0))] := hl
  unfold M_named at hF
  have L35 : ∀ kf : Nat, ∀ (x1 : Int32) (fi : FI) (ar : AR) (H : Heap) (locs : List Loc) (ls : Array Slot), M_named_35 nf kf x1 fi ar = some (r, fi', ar') → lv_has ls 2 [(0, .ref (am 0)), (1, .int x1)] → va_P (gD g) vwCl (WM g am fi ar) H → va_S (AM am s.heap.size) s.heap H locs → W p l e (headSpec (wx yX11_named cX11_named 2 (some .boolean)) ({ frames := 5, cells := 0, slots := 0, locals := 114 } : Room)).room s m ([.ref (am 0)] : List Value).toArray below meth c H locs 0 0 (MQ below (QMi g am s.heap.size r fi' ar') ([.ref (am 0)] : List Value).toArray s 0 0 (AM am s.heap.size)) (F0 m 35 ls []) := by
    intro kf
    induction kf with
    | zero => intro x1 fi ar H locs ls hF hl hP hS; cases (show (none : Option (Int32 × FI × AR)) = _ from hF)
    | succ kf ih35 =>
      intro x1 fi ar H locs ls hF hl hP hS
      obtain ⟨K35, hK35⟩ : ∃ K : Int32 → FI → AR → Option (Int32 × FI × AR), K = M_named_35 nf kf := ⟨_, rfl⟩
      replace hF : M_named_35b K35 nf x1 fi ar = some (r, fi', ar') := by rw [hK35]; exact hF
      rw [← hK35] at ih35
      clear hK35
      unfold M_named_35b at hF
      refine lv_iload_n hx hb dX11_named_35 rfl (lv_at hl 1 rfl) ?_
      refine lv_aload_n hx hb dX11_named_36 rfl (lv_at hl 0 rfl) ?_
      refine mg_35 hx hb hT hown hK hP mw33_9 dX11_named_37 ?_
      refine lv_icmp_ge (tgt := 76) hx hb dX11_named_40 (by decide) (fun hc1 => ?_) (fun hc1 => ?_)
      · replace hF := br_yes hF hc1
        refine lv_aload_n hx hb dX11_named_76 rfl (lv_at hl 0 rfl) ?_
        refine lv_iconst (v := (0 : Int32)) hx hb dX11_named_77 (by decide) ?_
        obtain ⟨fi2, efi2⟩ : ∃ y : FI, y = va_up fi 4 (0 : Int32) := ⟨_, rfl⟩
        replace hF := bnd_of hF efi2
        refine mp_4 hx hb hT hown hK hP hD hS mw8_6 dX11_named_78 (fun H locs hP hS => ?_)
        rw [← efi2] at hP
        refine lv_aload_n hx hb dX11_named_81 rfl (lv_at hl 0 rfl) ?_
        replace hF := obnd3_of hF
        obtain ⟨r6, fi4, ar5, h3, hF⟩ := hF
        refine cM_i (As := []) (rest := []) hx hb hml hT hown hK hE hD hA hP hS (k_isName l g am _ nf fi2 ar r6 fi4 ar5 h3) cw_X11_isName mw35_3 ⟨⟨rfl, rfl⟩, Nat.le_of_ble_eq_true rfl, Nat.le_of_ble_eq_true rfl⟩ rfl hl.1 rfl (Nat.le_of_ble_eq_true rfl) dX11_named_82 ⟨Nat.zero_le _, Nat.zero_le _⟩ (fun H locs hP hS => ?_)
        replace hF := gd_of hF
        obtain ⟨hz7, hF⟩ := hF
        exact rM_z hx hb hr hlocks (nar_z hz7) hF hP hS dX11_named_85
      · replace hF := br_no hF hc1
        refine lv_aload_n hx hb dX11_named_43 rfl (lv_at hl 0 rfl) ?_
        refine mg_34 hx hb hT hown hK hP mw6_18 dX11_named_44 ?_
        refine lv_iload_n hx hb dX11_named_47 rfl (lv_at hl 1 rfl) ?_
        refine lv_aload_n hx hb dX11_named_48 rfl (lv_at hl 0 rfl) ?_
        refine lv_iconst (v := (2 : Int32)) hx hb dX11_named_49 (by decide) ?_
        refine lv_iload_n hx hb dX11_named_50 rfl (lv_at hl 1 rfl) ?_
        refine lv_imul hx hb dX11_named_51 ?_
        replace hF := obnd3_of hF
        obtain ⟨r11, fi9, ar10, h8, hF⟩ := hF
        refine cM_i (As := [.int ((2 : Int32) * (x1))]) (rest := [.int (x1), .ref (am 34)]) hx hb hml hT hown hK hE hD hA hP hS (k_taken l g am _ nf fi ar ((2 : Int32) * (x1)) r11 fi9 ar10 h8) cw_X11_taken mw18_6 ⟨⟨rfl, rfl⟩, Nat.le_of_ble_eq_true rfl, Nat.le_of_ble_eq_true rfl⟩ rfl hl.1 rfl (Nat.le_of_ble_eq_true rfl) dX11_named_52 ⟨Nat.zero_le _, Nat.zero_le _⟩ (fun H locs hP hS => ?_)
        refine lv_bipush (v := (8 : Int32)) hx hb dX11_named_55 (by decide) ?_
        refine lv_ishl hx hb dX11_named_57 ?_
        refine lv_aload_n hx hb dX11_named_58 rfl (lv_at hl 0 rfl) ?_
        refine lv_iconst (v := (2 : Int32)) hx hb dX11_named_59 (by decide) ?_
        refine lv_iload_n hx hb dX11_named_60 rfl (lv_at hl 1 rfl) ?_
        refine lv_imul hx hb dX11_named_61 ?_
        refine lv_iconst (v := (1 : Int32)) hx hb dX11_named_62 (by decide) ?_
        refine lv_iadd hx hb dX11_named_63 ?_
        replace hF := obnd3_of hF
        obtain ⟨r15, fi13, ar14, h12, hF⟩ := hF
        refine cM_i (As := [.int (((2 : Int32) * (x1)) + (1 : Int32))]) (rest := [.int ((r11) <<< ((8 : Int32) &&& 31)), .int (x1), .ref (am 34)]) hx hb hml hT hown hK hE hD hA hP hS (k_taken l g am _ nf fi9 ar10 (((2 : Int32) * (x1)) + (1 : Int32)) r15 fi13 ar14 h12) cw_X11_taken mw18_6 ⟨⟨rfl, rfl⟩, Nat.le_of_ble_eq_true rfl, Nat.le_of_ble_eq_true rfl⟩ rfl hl.1 rfl (Nat.le_of_ble_eq_true rfl) dX11_named_64 ⟨Nat.zero_le _, Nat.zero_le _⟩ (fun H locs hP hS => ?_)
        refine lv_ior hx hb dX11_named_67 ?_
        refine lv_i2c hx hb dX11_named_68 rfl ?_
        replace hF := gd_of hF
        obtain ⟨hi16, hF⟩ := hF
        obtain ⟨ar17, ear17⟩ : ∃ y : AR, y = va_up ar14 34 (upd (ar14 34) (x1).toNatClampNeg (vp_nar .char (((((r11) <<< ((8 : Int32) &&& 31)) ||| (r15)).toUInt32 % 65536).toInt32))) := ⟨_, rfl⟩
        replace hF := bnd_of hF ear17
        refine ms_34 hx hb hK hP hD hS hi16 dX11_named_69 (fun H locs hP hS => ?_)
        rw [← ear17] at hP
        obtain ⟨x1_18, ex1_18⟩ : ∃ y : Int32, y = (x1) + (1 : Int32) := ⟨_, rfl⟩
        replace hF := bnd_of hF ex1_18
        refine lv_iinc (v := x1_18) (lv' := [(1, .int (x1_18)), (0, .ref (am 0))]) hx hb dX11_named_70 hl (k := 1) rfl (by rw [ex1_18]; rfl) (by decide) rfl (fun ls hl => ?_)
        refine lv_goto (tgt := 35) hx hb dX11_named_73 (by decide) ?_
        exact ih35 (x1_18) _ _ _ _ _ hF (lv_sub hl [1, 0] rfl) hP hS
  have J30 : ∀ (t1 : Int32) (fi : FI) (ar : AR) (H : Heap) (locs : List Loc) (ls : Array Slot), M_named_30 nf t1 fi ar = some (r, fi', ar') → lv_has ls 2 [(0, .ref (am 0))] → va_P (gD g) vwCl (WM g am fi ar) H → va_S (AM am s.heap.size) s.heap H locs → W p l e (headSpec (wx yX11_named cX11_named 2 (some .boolean)) ({ frames := 5, cells := 0, slots := 0, locals := 114 } : Room)).room s m ([.ref (am 0)] : List Value).toArray below meth c H locs 0 0 (MQ below (QMi g am s.heap.size r fi' ar') ([.ref (am 0)] : List Value).toArray s 0 0 (AM am s.heap.size)) (F0 m 30 ls [.int t1, .ref (am 0)]) := by
    intro t1 fi ar H locs ls hF hl hP hS
    unfold M_named_30 at hF
    obtain ⟨fi19, efi19⟩ : ∃ y : FI, y = va_up fi 35 (t1) := ⟨_, rfl⟩
    replace hF := bnd_of hF efi19
    refine mp_35 hx hb hT hown hK hP hD hS mw33_9 dX11_named_30 (fun H locs hP hS => ?_)
    rw [← efi19] at hP
    refine lv_iconst (v := (0 : Int32)) hx hb dX11_named_33 (by decide) ?_
    refine lv_istore_n (lv' := [(1, .int (0 : Int32)), (0, .ref (am 0))]) hx hb dX11_named_34 rfl hl (by decide) rfl (fun ls hl => ?_)
    exact L35 nf (0 : Int32) _ _ _ _ _ hF (lv_sub hl [1, 0] rfl) hP hS
  have J29 : ∀  (fi : FI) (ar : AR) (H : Heap) (locs : List Loc) (ls : Array Slot), M_named_29 nf fi ar = some (r, fi', ar') → lv_has ls 2 [(0, .ref (am 0))] → va_P (gD g) vwCl (WM g am fi ar) H → va_S (AM am s.heap.size) s.heap H locs → W p l e (headSpec (wx yX11_named cX11_named 2 (some .boolean)) ({ frames := 5, cells := 0, slots := 0, locals := 114 } : Room)).room s m ([.ref (am 0)] : List Value).toArray below meth c H locs 0 0 (MQ below (QMi g am s.heap.size r fi' ar') ([.ref (am 0)] : List Value).toArray s 0 0 (AM am s.heap.size)) (F0 m 29 ls [.ref (am 0)]) := by
    intro fi ar H locs ls hF hl hP hS
    unfold M_named_29 at hF
    refine lv_iconst (v := (0 : Int32)) hx hb dX11_named_29 (by decide) ?_
    exact J30 (0 : Int32) _ _ _ _ _ hF (lv_sub hl [0] rfl) hP hS
  replace hl := lv_sub hl [0] rfl
  refine lv_aload_n hx hb dX11_named_0 rfl (lv_at hl 0 rfl) ?_
  refine lv_aload_n hx hb dX11_named_1 rfl (lv_at hl 0 rfl) ?_
  refine mg_4 hx hb hT hown hK hP mw8_6 dX11_named_2 ?_
  refine lv_iconst (v := (2 : Int32)) hx hb dX11_named_5 (by decide) ?_
  refine lv_irem hx hb dX11_named_6 (by decide) ?_
  refine lv_if_ne (tgt := 29) hx hb dX11_named_7 (by decide) (fun hc20 => ?_) (fun hc20 => ?_)
  · replace hF := br_no hF hc20
    exact J29  _ _ _ _ _ hF (lv_sub hl [0] rfl) hP hS
  · replace hF := br_yes hF hc20
    refine lv_aload_n hx hb dX11_named_10 rfl (lv_at hl 0 rfl) ?_
    refine mg_4 hx hb hT hown hK hP mw8_6 dX11_named_11 ?_
    refine lv_sipush (v := (510 : Int32)) hx hb dX11_named_14 (by decide) ?_
    refine lv_icmp_gt (tgt := 29) hx hb dX11_named_17 (by decide) (fun hc21 => ?_) (fun hc21 => ?_)
    · replace hF := br_yes hF hc21
      exact J29  _ _ _ _ _ hF (lv_sub hl [0] rfl) hP hS
    · replace hF := br_no hF hc21
      refine lv_aload_n hx hb dX11_named_20 rfl (lv_at hl 0 rfl) ?_
      refine mg_4 hx hb hT hown hK hP mw8_6 dX11_named_21 ?_
      refine lv_iconst (v := (2 : Int32)) hx hb dX11_named_24 (by decide) ?_
      refine lv_idiv hx hb dX11_named_25 (by decide) ?_
      refine lv_goto (tgt := 30) hx hb dX11_named_26 (by decide) ?_
      exact J30 ((fi 4) / (2 : Int32)) _ _ _ _ _ hF (lv_sub hl [0] rfl) hP hS
theorem cw_X11_named : (Cond.instanceMethod yX11_named ∈ TB ∧ Cond.selects RX11 yX11_named yX11_named ∈ TB ∧ Cond.code yX11_named cX11_named 2 (some .boolean) ∈ TB) ∧ (yX11_named.cls = RX11 ∧ yX11_named.cls ≠ "java/lang/invoke/MethodHandle" ∧ yX11_named.cls ≠ "java/lang/invoke/VarHandle" ∧ (parseMethodDescriptor yX11_named.desc).map (fun d => d.parameters.length) = some 0) := ⟨⟨mw49_6, mw49_7, mw49_8⟩, by decide +kernel⟩
/-! X11_isBrief -/
noncomputable def M_isBrief_149 (K91 : Int32 → Int32 → FI → AR → Option (Int32 × FI × AR)) (nf : Nat) (x1 : Int32) (x2 : Int32) (fi : FI) (ar : AR) : Option (Int32 × FI × AR) :=
  bnd ((x2) + (1 : Int32)) fun x2_1 => K91 (x1) (x2_1) fi ar
noncomputable def M_isBrief_142 (K91 : Int32 → Int32 → FI → AR → Option (Int32 × FI × AR)) (nf : Nat) (x1 : Int32) (x2 : Int32) (t1 : Int32) (fi : FI) (ar : AR) : Option (Int32 × FI × AR) :=
  gd (¬ ((x2) < 0 ∨ 300 ≤ (x2).toNatClampNeg)) (gd (¬ ((t1) < 0 ∨ 11 ≤ (t1).toNatClampNeg)) (bnd (va_up ar 39 (upd (ar 39) (t1).toNatClampNeg (ar 34 (x2).toNatClampNeg))) fun ar4 => M_isBrief_149 K91 nf  (x1) (x2) fi ar4))
noncomputable def M_isBrief_118 (K91 : Int32 → Int32 → FI → AR → Option (Int32 × FI × AR)) (nf : Nat) (x1 : Int32) (x2 : Int32) (fi : FI) (ar : AR) : Option (Int32 × FI × AR) :=
  br ((x2) = (x1)) (M_isBrief_149 K91 nf  (x1) (x2) fi ar) (br ((x1) ≤ (x2)) (M_isBrief_142 K91 nf  (x1) (x2) (((7 : Int32) + (x2)) - (x1)) fi ar) (M_isBrief_142 K91 nf  (x1) (x2) (x2) fi ar))
noncomputable def M_isBrief_91b (K91 : Int32 → Int32 → FI → AR → Option (Int32 × FI × AR)) (nf : Nat) (x1 : Int32) (x2 : Int32) (fi : FI) (ar : AR) : Option (Int32 × FI × AR) :=
  br ((fi 35) ≤ (x2)) (some ((1 : Int32), fi, ar)) (br ((x2) = (x1)) (M_isBrief_118 K91 nf  (x1) (x2) fi ar) (gd (¬ ((x2) < 0 ∨ 300 ≤ (x2).toNatClampNeg)) (obnd (M_isShortSign nf (ar 34 (x2).toNatClampNeg)) fun r11 => br ((r11) = 0) (some ((0 : Int32), fi, ar)) (M_isBrief_118 K91 nf  (x1) (x2) fi ar))))
noncomputable def M_isBrief_91 (nf : Nat) (kf : Nat) : Int32 → Int32 → FI → AR → Option (Int32 × FI × AR) := Nat.rec (fun _ _ _ _ => none) (fun _ K91 => M_isBrief_91b K91 nf) kf
noncomputable def M_isBrief_69b (K69 : Int32 → Int32 → FI → AR → Option (Int32 × FI × AR)) (nf : Nat) (x1 : Int32) (x2 : Int32) (fi : FI) (ar : AR) : Option (Int32 × FI × AR) :=
  br ((11 : Int32) ≤ (x2)) (M_isBrief_91 nf nf (x1) (0 : Int32) fi ar) (gd (¬ ((x2) < 0 ∨ 11 ≤ (x2).toNatClampNeg)) (bnd (va_up ar 39 (upd (ar 39) (x2).toNatClampNeg (32 : Int32))) fun ar15 => bnd ((x2) + (1 : Int32)) fun x2_16 => K69 (x1) (x2_16) fi ar15))
noncomputable def M_isBrief_69 (nf : Nat) (kf : Nat) : Int32 → Int32 → FI → AR → Option (Int32 × FI × AR) := Nat.rec (fun _ _ _ _ => none) (fun _ K69 => M_isBrief_69b K69 nf) kf
noncomputable def M_isBrief_67 (nf : Nat) (x1 : Int32) (fi : FI) (ar : AR) : Option (Int32 × FI × AR) :=
  M_isBrief_69 nf nf (x1) (0 : Int32) fi ar
noncomputable def M_isBrief_65 (nf : Nat)  (fi : FI) (ar : AR) : Option (Int32 × FI × AR) :=
  some ((0 : Int32), fi, ar)
noncomputable def M_isBrief_27 (nf : Nat) (x1 : Int32) (fi : FI) (ar : AR) : Option (Int32 × FI × AR) :=
  br ((x1) = 0) (M_isBrief_65 nf  fi ar) (br ((8 : Int32) < (x1)) (M_isBrief_65 nf  fi ar) (br ((4 : Int32) < ((fi 35) - (x1))) (M_isBrief_65 nf  fi ar) (br ((fi 35) ≤ (x1)) (M_isBrief_67 nf  (x1) fi ar) (br ((2 : Int32) ≤ ((fi 35) - (x1))) (M_isBrief_67 nf  (x1) fi ar) (M_isBrief_65 nf  fi ar)))))
noncomputable def M_isBrief_2b (K2 : Int32 → FI → AR → Option (Int32 × FI × AR)) (nf : Nat) (x1 : Int32) (fi : FI) (ar : AR) : Option (Int32 × FI × AR) :=
  br ((fi 35) ≤ (x1)) (M_isBrief_27 nf  (x1) fi ar) (gd (¬ ((x1) < 0 ∨ 300 ≤ (x1).toNatClampNeg)) (br ((ar 34 (x1).toNatClampNeg) = (46 : Int32)) (M_isBrief_27 nf  (x1) fi ar) (bnd ((x1) + (1 : Int32)) fun x1_25 => K2 (x1_25) fi ar)))
noncomputable def M_isBrief_2 (nf : Nat) (kf : Nat) : Int32 → FI → AR → Option (Int32 × FI × AR) := Nat.rec (fun _ _ _ => none) (fun _ K2 => M_isBrief_2b K2 nf) kf
noncomputable def M_isBrief (nf : Nat) (fi : FI) (ar : AR)  : Option (Int32 × FI × AR) :=
  M_isBrief_2 nf nf (0 : Int32) fi ar
set_option maxHeartbeats 4000000 in
set_option maxRecDepth 100000 in
theorem k_isBrief (l : Launch) (g : GT) (am : Nat → Nat) (sz : Nat) (nf : Nat) (fi : FI) (ar : AR)  (r : Int32) (fi' : FI) (ar' : AR) (hF : M_isBrief nf fi ar  = some (r, fi', ar')) : Met l yX11_isBrief (wx yX11_isBrief cX11_isBrief 3 (some .boolean)) ({ frames := 5, cells := 0, slots := 0, locals := 111 } : Room) (va_Pc [.ref (am 0)] (PM g am sz fi ar)) (QMi g am sz r fi' ar') 0 0 (AM am sz) := by
  refine Met.ofW (cc := cX11_isBrief) (maxL := 3) (ret := (some .boolean)) (by decide) rfl ?_
  intro p e s m args below meth c s₁ B hml hv
  obtain ⟨rfl, hsz, hP, hK, hD0, hE⟩ := hv
  have hx := B.exec
  have hb := B.bytes
  have hr := B.returns
  have hts := atoms_spec (ws := (wx yX11_isBrief cX11_isBrief 3 (some .boolean))) B.pre
  have hT : ∀ w ∈ TB, w.before _ s = true := fun w h => hts w (List.mem_cons_of_mem _ h)
  have hown : s.vm.findClass RX11 = some m.cls := findClass_of_methodNamed B.named
  have hlocks := B.notSynchronized
  subst hsz
  have hD := dM hD0 s.heap.size
  have hA : ∀ q : Nat, s.heap.size ≤ q → AM am s.heap.size q := fun q h => Or.inr h
  have hS : va_S (AM am s.heap.size) s.heap s.heap [] := va_S.rf
  have hl := lv_entry ([.ref (am 0)]) (n := 3) (Nat.le_of_ble_eq_true rfl)
  rw [lg_entry_eq]
  generalize (lg_sl ([.ref (am 0)]) ++ List.replicate (3 - (lg_sl ([.ref (am 0)])).length) Slot.unset).toArray = ls at hl ⊢
  have hl : lv_has ls 3 [(0, .ref (am 0))] := hl
  unfold M_isBrief at hF
  have L91 : ∀ kf : Nat, ∀ (x1 : Int32) (x2 : Int32) (fi : FI) (ar : AR) (H : Heap) (locs : List Loc) (ls : Array Slot), M_isBrief_91 nf kf x1 x2 fi ar = some (r, fi', ar') → lv_has ls 3 [(0, .ref (am 0)), (1, .int x1), (2, .int x2)] → va_P (gD g) vwCl (WM g am fi ar) H → va_S (AM am s.heap.size) s.heap H locs → W p l e (headSpec (wx yX11_isBrief cX11_isBrief 3 (some .boolean)) ({ frames := 5, cells := 0, slots := 0, locals := 111 } : Room)).room s m ([.ref (am 0)] : List Value).toArray below meth c H locs 0 0 (MQ below (QMi g am s.heap.size r fi' ar') ([.ref (am 0)] : List Value).toArray s 0 0 (AM am s.heap.size)) (F0 m 91 ls []) := by
    intro kf
    induction kf with
    | zero => intro x1 x2 fi ar H locs ls hF hl hP hS; cases (show (none : Option (Int32 × FI × AR)) = _ from hF)
    | succ kf ih91 =>
      intro x1 x2 fi ar H locs ls hF hl hP hS
      obtain ⟨K91, hK91⟩ : ∃ K : Int32 → Int32 → FI → AR → Option (Int32 × FI × AR), K = M_isBrief_91 nf kf := ⟨_, rfl⟩
      replace hF : M_isBrief_91b K91 nf x1 x2 fi ar = some (r, fi', ar') := by rw [hK91]; exact hF
      rw [← hK91] at ih91
      clear hK91
      have J149 : ∀ (x1 : Int32) (x2 : Int32) (fi : FI) (ar : AR) (H : Heap) (locs : List Loc) (ls : Array Slot), M_isBrief_149 K91 nf x1 x2 fi ar = some (r, fi', ar') → lv_has ls 3 [(0, .ref (am 0)), (1, .int x1), (2, .int x2)] → va_P (gD g) vwCl (WM g am fi ar) H → va_S (AM am s.heap.size) s.heap H locs → W p l e (headSpec (wx yX11_isBrief cX11_isBrief 3 (some .boolean)) ({ frames := 5, cells := 0, slots := 0, locals := 111 } : Room)).room s m ([.ref (am 0)] : List Value).toArray below meth c H locs 0 0 (MQ below (QMi g am s.heap.size r fi' ar') ([.ref (am 0)] : List Value).toArray s 0 0 (AM am s.heap.size)) (F0 m 149 ls []) := by
        intro x1 x2 fi ar H locs ls hF hl hP hS
        unfold M_isBrief_149 at hF
        obtain ⟨x2_1, ex2_1⟩ : ∃ y : Int32, y = (x2) + (1 : Int32) := ⟨_, rfl⟩
        replace hF := bnd_of hF ex2_1
        refine lv_iinc (v := x2_1) (lv' := [(2, .int (x2_1)), (0, .ref (am 0)), (1, .int (x1))]) hx hb dX11_isBrief_149 hl (k := 2) rfl (by rw [ex2_1]; rfl) (by decide) rfl (fun ls hl => ?_)
        refine lv_goto (tgt := 91) hx hb dX11_isBrief_152 (by decide) ?_
        exact ih91 (x1) (x2_1) _ _ _ _ _ hF (lv_sub hl [1, 2, 0] rfl) hP hS
      have J142 : ∀ (x1 : Int32) (x2 : Int32) (t1 : Int32) (fi : FI) (ar : AR) (H : Heap) (locs : List Loc) (ls : Array Slot), M_isBrief_142 K91 nf x1 x2 t1 fi ar = some (r, fi', ar') → lv_has ls 3 [(0, .ref (am 0)), (1, .int x1), (2, .int x2)] → va_P (gD g) vwCl (WM g am fi ar) H → va_S (AM am s.heap.size) s.heap H locs → W p l e (headSpec (wx yX11_isBrief cX11_isBrief 3 (some .boolean)) ({ frames := 5, cells := 0, slots := 0, locals := 111 } : Room)).room s m ([.ref (am 0)] : List Value).toArray below meth c H locs 0 0 (MQ below (QMi g am s.heap.size r fi' ar') ([.ref (am 0)] : List Value).toArray s 0 0 (AM am s.heap.size)) (F0 m 142 ls [.int t1, .ref (am 39)]) := by
        intro x1 x2 t1 fi ar H locs ls hF hl hP hS
        unfold M_isBrief_142 at hF
        refine lv_aload_n hx hb dX11_isBrief_142 rfl (lv_at hl 0 rfl) ?_
        refine mg_34 hx hb hT hown hK hP mw6_18 dX11_isBrief_143 ?_
        refine lv_iload_n hx hb dX11_isBrief_146 rfl (lv_at hl 2 rfl) ?_
        replace hF := gd_of hF
        obtain ⟨hi2, hF⟩ := hF
        refine ml_34 hx hb hK hP hi2 dX11_isBrief_147 ?_
        replace hF := gd_of hF
        obtain ⟨hi3, hF⟩ := hF
        obtain ⟨ar4, ear4⟩ : ∃ y : AR, y = va_up ar 39 (upd (ar 39) (t1).toNatClampNeg (ar 34 (x2).toNatClampNeg)) := ⟨_, rfl⟩
        replace hF := bnd_of hF ear4
        refine ms_39 hx hb hK hP hD hS hi3 dX11_isBrief_148 (fun H locs hP hS => ?_)
        rw [← ear4] at hP
        exact J149 (x1) (x2) _ _ _ _ _ hF (lv_sub hl [0, 1, 2] rfl) hP hS
      have J118 : ∀ (x1 : Int32) (x2 : Int32) (fi : FI) (ar : AR) (H : Heap) (locs : List Loc) (ls : Array Slot), M_isBrief_118 K91 nf x1 x2 fi ar = some (r, fi', ar') → lv_has ls 3 [(0, .ref (am 0)), (1, .int x1), (2, .int x2)] → va_P (gD g) vwCl (WM g am fi ar) H → va_S (AM am s.heap.size) s.heap H locs → W p l e (headSpec (wx yX11_isBrief cX11_isBrief 3 (some .boolean)) ({ frames := 5, cells := 0, slots := 0, locals := 111 } : Room)).room s m ([.ref (am 0)] : List Value).toArray below meth c H locs 0 0 (MQ below (QMi g am s.heap.size r fi' ar') ([.ref (am 0)] : List Value).toArray s 0 0 (AM am s.heap.size)) (F0 m 118 ls []) := by
        intro x1 x2 fi ar H locs ls hF hl hP hS
        unfold M_isBrief_118 at hF
        refine lv_iload_n hx hb dX11_isBrief_118 rfl (lv_at hl 2 rfl) ?_
        refine lv_iload_n hx hb dX11_isBrief_119 rfl (lv_at hl 1 rfl) ?_
        refine lv_icmp_eq (tgt := 149) hx hb dX11_isBrief_120 (by decide) (fun hc5 => ?_) (fun hc5 => ?_)
        · replace hF := br_yes hF hc5
          exact J149 (x1) (x2) _ _ _ _ _ hF (lv_sub hl [0, 1, 2] rfl) hP hS
        · replace hF := br_no hF hc5
          refine lv_aload_n hx hb dX11_isBrief_123 rfl (lv_at hl 0 rfl) ?_
          refine mg_39 hx hb hT hown hK hP mw6_19 dX11_isBrief_124 ?_
          refine lv_iload_n hx hb dX11_isBrief_127 rfl (lv_at hl 2 rfl) ?_
          refine lv_iload_n hx hb dX11_isBrief_128 rfl (lv_at hl 1 rfl) ?_
          refine lv_icmp_ge (tgt := 136) hx hb dX11_isBrief_129 (by decide) (fun hc6 => ?_) (fun hc6 => ?_)
          · replace hF := br_yes hF hc6
            refine lv_bipush (v := (7 : Int32)) hx hb dX11_isBrief_136 (by decide) ?_
            refine lv_iload_n hx hb dX11_isBrief_138 rfl (lv_at hl 2 rfl) ?_
            refine lv_iadd hx hb dX11_isBrief_139 ?_
            refine lv_iload_n hx hb dX11_isBrief_140 rfl (lv_at hl 1 rfl) ?_
            refine lv_isub hx hb dX11_isBrief_141 ?_
            exact J142 (x1) (x2) (((7 : Int32) + (x2)) - (x1)) _ _ _ _ _ hF (lv_sub hl [0, 1, 2] rfl) hP hS
          · replace hF := br_no hF hc6
            refine lv_iload_n hx hb dX11_isBrief_132 rfl (lv_at hl 2 rfl) ?_
            refine lv_goto (tgt := 142) hx hb dX11_isBrief_133 (by decide) ?_
            exact J142 (x1) (x2) (x2) _ _ _ _ _ hF (lv_sub hl [0, 1, 2] rfl) hP hS
      unfold M_isBrief_91b at hF
      refine lv_iload_n hx hb dX11_isBrief_91 rfl (lv_at hl 2 rfl) ?_
      refine lv_aload_n hx hb dX11_isBrief_92 rfl (lv_at hl 0 rfl) ?_
      refine mg_35 hx hb hT hown hK hP mw33_9 dX11_isBrief_93 ?_
      refine lv_icmp_ge (tgt := 155) hx hb dX11_isBrief_96 (by decide) (fun hc7 => ?_) (fun hc7 => ?_)
      · replace hF := br_yes hF hc7
        refine lv_iconst (v := (1 : Int32)) hx hb dX11_isBrief_155 (by decide) ?_
        exact rM_z hx hb hr hlocks rfl hF hP hS dX11_isBrief_156
      · replace hF := br_no hF hc7
        refine lv_iload_n hx hb dX11_isBrief_99 rfl (lv_at hl 2 rfl) ?_
        refine lv_iload_n hx hb dX11_isBrief_100 rfl (lv_at hl 1 rfl) ?_
        refine lv_icmp_eq (tgt := 118) hx hb dX11_isBrief_101 (by decide) (fun hc8 => ?_) (fun hc8 => ?_)
        · replace hF := br_yes hF hc8
          exact J118 (x1) (x2) _ _ _ _ _ hF (lv_sub hl [0, 1, 2] rfl) hP hS
        · replace hF := br_no hF hc8
          refine lv_aload_n hx hb dX11_isBrief_104 rfl (lv_at hl 0 rfl) ?_
          refine mg_34 hx hb hT hown hK hP mw6_18 dX11_isBrief_105 ?_
          refine lv_iload_n hx hb dX11_isBrief_108 rfl (lv_at hl 2 rfl) ?_
          replace hF := gd_of hF
          obtain ⟨hi9, hF⟩ := hF
          refine ml_34 hx hb hK hP hi9 dX11_isBrief_109 ?_
          replace hF := obnd_of hF
          obtain ⟨r11, h10, hF⟩ := hF
          refine cS_i (As := [.int (ar 34 (x2).toNatClampNeg)]) (rest := []) hx hb hml hT hown hE hP hS (k_isShortSign l g nf (ar 34 (x2).toNatClampNeg) r11 h10) cw_X11_isShortSign mw18_10 ⟨⟨rfl, rfl⟩, Nat.le_of_ble_eq_true rfl, Nat.le_of_ble_eq_true rfl⟩ rfl hl.1 rfl (Nat.le_of_ble_eq_true rfl) dX11_isBrief_110 ⟨Nat.zero_le _, Nat.zero_le _⟩ (fun H locs hP hS => ?_)
          refine lv_if_ne (tgt := 118) hx hb dX11_isBrief_113 (by decide) (fun hc12 => ?_) (fun hc12 => ?_)
          · replace hF := br_no hF hc12
            exact J118 (x1) (x2) _ _ _ _ _ hF (lv_sub hl [0, 1, 2] rfl) hP hS
          · replace hF := br_yes hF hc12
            refine lv_iconst (v := (0 : Int32)) hx hb dX11_isBrief_116 (by decide) ?_
            exact rM_z hx hb hr hlocks rfl hF hP hS dX11_isBrief_117
  have L69 : ∀ kf : Nat, ∀ (x1 : Int32) (x2 : Int32) (fi : FI) (ar : AR) (H : Heap) (locs : List Loc) (ls : Array Slot), M_isBrief_69 nf kf x1 x2 fi ar = some (r, fi', ar') → lv_has ls 3 [(0, .ref (am 0)), (1, .int x1), (2, .int x2)] → va_P (gD g) vwCl (WM g am fi ar) H → va_S (AM am s.heap.size) s.heap H locs → W p l e (headSpec (wx yX11_isBrief cX11_isBrief 3 (some .boolean)) ({ frames := 5, cells := 0, slots := 0, locals := 111 } : Room)).room s m ([.ref (am 0)] : List Value).toArray below meth c H locs 0 0 (MQ below (QMi g am s.heap.size r fi' ar') ([.ref (am 0)] : List Value).toArray s 0 0 (AM am s.heap.size)) (F0 m 69 ls []) := by
    intro kf
    induction kf with
    | zero => intro x1 x2 fi ar H locs ls hF hl hP hS; cases (show (none : Option (Int32 × FI × AR)) = _ from hF)
    | succ kf ih69 =>
      intro x1 x2 fi ar H locs ls hF hl hP hS
      obtain ⟨K69, hK69⟩ : ∃ K : Int32 → Int32 → FI → AR → Option (Int32 × FI × AR), K = M_isBrief_69 nf kf := ⟨_, rfl⟩
      replace hF : M_isBrief_69b K69 nf x1 x2 fi ar = some (r, fi', ar') := by rw [hK69]; exact hF
      rw [← hK69] at ih69
      clear hK69
      unfold M_isBrief_69b at hF
      refine lv_iload_n hx hb dX11_isBrief_69 rfl (lv_at hl 2 rfl) ?_
      refine lv_bipush (v := (11 : Int32)) hx hb dX11_isBrief_70 (by decide) ?_
      refine lv_icmp_ge (tgt := 89) hx hb dX11_isBrief_72 (by decide) (fun hc13 => ?_) (fun hc13 => ?_)
      · replace hF := br_yes hF hc13
        refine lv_iconst (v := (0 : Int32)) hx hb dX11_isBrief_89 (by decide) ?_
        refine lv_istore_n (lv' := [(2, .int (0 : Int32)), (0, .ref (am 0)), (1, .int (x1))]) hx hb dX11_isBrief_90 rfl hl (by decide) rfl (fun ls hl => ?_)
        exact L91 nf (x1) (0 : Int32) _ _ _ _ _ hF (lv_sub hl [1, 2, 0] rfl) hP hS
      · replace hF := br_no hF hc13
        refine lv_aload_n hx hb dX11_isBrief_75 rfl (lv_at hl 0 rfl) ?_
        refine mg_39 hx hb hT hown hK hP mw6_19 dX11_isBrief_76 ?_
        refine lv_iload_n hx hb dX11_isBrief_79 rfl (lv_at hl 2 rfl) ?_
        refine lv_bipush (v := (32 : Int32)) hx hb dX11_isBrief_80 (by decide) ?_
        replace hF := gd_of hF
        obtain ⟨hi14, hF⟩ := hF
        obtain ⟨ar15, ear15⟩ : ∃ y : AR, y = va_up ar 39 (upd (ar 39) (x2).toNatClampNeg (32 : Int32)) := ⟨_, rfl⟩
        replace hF := bnd_of hF ear15
        refine ms_39 hx hb hK hP hD hS hi14 dX11_isBrief_82 (fun H locs hP hS => ?_)
        rw [← ear15] at hP
        obtain ⟨x2_16, ex2_16⟩ : ∃ y : Int32, y = (x2) + (1 : Int32) := ⟨_, rfl⟩
        replace hF := bnd_of hF ex2_16
        refine lv_iinc (v := x2_16) (lv' := [(2, .int (x2_16)), (0, .ref (am 0)), (1, .int (x1))]) hx hb dX11_isBrief_83 hl (k := 2) rfl (by rw [ex2_16]; rfl) (by decide) rfl (fun ls hl => ?_)
        refine lv_goto (tgt := 69) hx hb dX11_isBrief_86 (by decide) ?_
        exact ih69 (x1) (x2_16) _ _ _ _ _ hF (lv_sub hl [1, 2, 0] rfl) hP hS
  have J67 : ∀ (x1 : Int32) (fi : FI) (ar : AR) (H : Heap) (locs : List Loc) (ls : Array Slot), M_isBrief_67 nf x1 fi ar = some (r, fi', ar') → lv_has ls 3 [(0, .ref (am 0)), (1, .int x1)] → va_P (gD g) vwCl (WM g am fi ar) H → va_S (AM am s.heap.size) s.heap H locs → W p l e (headSpec (wx yX11_isBrief cX11_isBrief 3 (some .boolean)) ({ frames := 5, cells := 0, slots := 0, locals := 111 } : Room)).room s m ([.ref (am 0)] : List Value).toArray below meth c H locs 0 0 (MQ below (QMi g am s.heap.size r fi' ar') ([.ref (am 0)] : List Value).toArray s 0 0 (AM am s.heap.size)) (F0 m 67 ls []) := by
    intro x1 fi ar H locs ls hF hl hP hS
    unfold M_isBrief_67 at hF
    refine lv_iconst (v := (0 : Int32)) hx hb dX11_isBrief_67 (by decide) ?_
    refine lv_istore_n (lv' := [(2, .int (0 : Int32)), (0, .ref (am 0)), (1, .int (x1))]) hx hb dX11_isBrief_68 rfl hl (by decide) rfl (fun ls hl => ?_)
    exact L69 nf (x1) (0 : Int32) _ _ _ _ _ hF (lv_sub hl [1, 2, 0] rfl) hP hS
  have J65 : ∀  (fi : FI) (ar : AR) (H : Heap) (locs : List Loc) (ls : Array Slot), M_isBrief_65 nf fi ar = some (r, fi', ar') → lv_has ls 3 [(0, .ref (am 0))] → va_P (gD g) vwCl (WM g am fi ar) H → va_S (AM am s.heap.size) s.heap H locs → W p l e (headSpec (wx yX11_isBrief cX11_isBrief 3 (some .boolean)) ({ frames := 5, cells := 0, slots := 0, locals := 111 } : Room)).room s m ([.ref (am 0)] : List Value).toArray below meth c H locs 0 0 (MQ below (QMi g am s.heap.size r fi' ar') ([.ref (am 0)] : List Value).toArray s 0 0 (AM am s.heap.size)) (F0 m 65 ls []) := by
    intro fi ar H locs ls hF hl hP hS
    unfold M_isBrief_65 at hF
    refine lv_iconst (v := (0 : Int32)) hx hb dX11_isBrief_65 (by decide) ?_
    exact rM_z hx hb hr hlocks rfl hF hP hS dX11_isBrief_66
  have J27 : ∀ (x1 : Int32) (fi : FI) (ar : AR) (H : Heap) (locs : List Loc) (ls : Array Slot), M_isBrief_27 nf x1 fi ar = some (r, fi', ar') → lv_has ls 3 [(0, .ref (am 0)), (1, .int x1)] → va_P (gD g) vwCl (WM g am fi ar) H → va_S (AM am s.heap.size) s.heap H locs → W p l e (headSpec (wx yX11_isBrief cX11_isBrief 3 (some .boolean)) ({ frames := 5, cells := 0, slots := 0, locals := 111 } : Room)).room s m ([.ref (am 0)] : List Value).toArray below meth c H locs 0 0 (MQ below (QMi g am s.heap.size r fi' ar') ([.ref (am 0)] : List Value).toArray s 0 0 (AM am s.heap.size)) (F0 m 27 ls []) := by
    intro x1 fi ar H locs ls hF hl hP hS
    unfold M_isBrief_27 at hF
    refine lv_iload_n hx hb dX11_isBrief_27 rfl (lv_at hl 1 rfl) ?_
    refine lv_if_eq (tgt := 65) hx hb dX11_isBrief_28 (by decide) (fun hc17 => ?_) (fun hc17 => ?_)
    · replace hF := br_yes hF hc17
      exact J65  _ _ _ _ _ hF (lv_sub hl [0] rfl) hP hS
    · replace hF := br_no hF hc17
      refine lv_iload_n hx hb dX11_isBrief_31 rfl (lv_at hl 1 rfl) ?_
      refine lv_bipush (v := (8 : Int32)) hx hb dX11_isBrief_32 (by decide) ?_
      refine lv_icmp_gt (tgt := 65) hx hb dX11_isBrief_34 (by decide) (fun hc18 => ?_) (fun hc18 => ?_)
      · replace hF := br_yes hF hc18
        exact J65  _ _ _ _ _ hF (lv_sub hl [0] rfl) hP hS
      · replace hF := br_no hF hc18
        refine lv_aload_n hx hb dX11_isBrief_37 rfl (lv_at hl 0 rfl) ?_
        refine mg_35 hx hb hT hown hK hP mw33_9 dX11_isBrief_38 ?_
        refine lv_iload_n hx hb dX11_isBrief_41 rfl (lv_at hl 1 rfl) ?_
        refine lv_isub hx hb dX11_isBrief_42 ?_
        refine lv_iconst (v := (4 : Int32)) hx hb dX11_isBrief_43 (by decide) ?_
        refine lv_icmp_gt (tgt := 65) hx hb dX11_isBrief_44 (by decide) (fun hc19 => ?_) (fun hc19 => ?_)
        · replace hF := br_yes hF hc19
          exact J65  _ _ _ _ _ hF (lv_sub hl [0] rfl) hP hS
        · replace hF := br_no hF hc19
          refine lv_iload_n hx hb dX11_isBrief_47 rfl (lv_at hl 1 rfl) ?_
          refine lv_aload_n hx hb dX11_isBrief_48 rfl (lv_at hl 0 rfl) ?_
          refine mg_35 hx hb hT hown hK hP mw33_9 dX11_isBrief_49 ?_
          refine lv_icmp_ge (tgt := 67) hx hb dX11_isBrief_52 (by decide) (fun hc20 => ?_) (fun hc20 => ?_)
          · replace hF := br_yes hF hc20
            exact J67 (x1) _ _ _ _ _ hF (lv_sub hl [0, 1] rfl) hP hS
          · replace hF := br_no hF hc20
            refine lv_aload_n hx hb dX11_isBrief_55 rfl (lv_at hl 0 rfl) ?_
            refine mg_35 hx hb hT hown hK hP mw33_9 dX11_isBrief_56 ?_
            refine lv_iload_n hx hb dX11_isBrief_59 rfl (lv_at hl 1 rfl) ?_
            refine lv_isub hx hb dX11_isBrief_60 ?_
            refine lv_iconst (v := (2 : Int32)) hx hb dX11_isBrief_61 (by decide) ?_
            refine lv_icmp_ge (tgt := 67) hx hb dX11_isBrief_62 (by decide) (fun hc21 => ?_) (fun hc21 => ?_)
            · replace hF := br_yes hF hc21
              exact J67 (x1) _ _ _ _ _ hF (lv_sub hl [0, 1] rfl) hP hS
            · replace hF := br_no hF hc21
              exact J65  _ _ _ _ _ hF (lv_sub hl [0] rfl) hP hS
  have L2 : ∀ kf : Nat, ∀ (x1 : Int32) (fi : FI) (ar : AR) (H : Heap) (locs : List Loc) (ls : Array Slot), M_isBrief_2 nf kf x1 fi ar = some (r, fi', ar') → lv_has ls 3 [(0, .ref (am 0)), (1, .int x1)] → va_P (gD g) vwCl (WM g am fi ar) H → va_S (AM am s.heap.size) s.heap H locs → W p l e (headSpec (wx yX11_isBrief cX11_isBrief 3 (some .boolean)) ({ frames := 5, cells := 0, slots := 0, locals := 111 } : Room)).room s m ([.ref (am 0)] : List Value).toArray below meth c H locs 0 0 (MQ below (QMi g am s.heap.size r fi' ar') ([.ref (am 0)] : List Value).toArray s 0 0 (AM am s.heap.size)) (F0 m 2 ls []) := by
    intro kf
    induction kf with
    | zero => intro x1 fi ar H locs ls hF hl hP hS; cases (show (none : Option (Int32 × FI × AR)) = _ from hF)
    | succ kf ih2 =>
      intro x1 fi ar H locs ls hF hl hP hS
      obtain ⟨K2, hK2⟩ : ∃ K : Int32 → FI → AR → Option (Int32 × FI × AR), K = M_isBrief_2 nf kf := ⟨_, rfl⟩
      replace hF : M_isBrief_2b K2 nf x1 fi ar = some (r, fi', ar') := by rw [hK2]; exact hF
      rw [← hK2] at ih2
      clear hK2
      unfold M_isBrief_2b at hF
      refine lv_iload_n hx hb dX11_isBrief_2 rfl (lv_at hl 1 rfl) ?_
      refine lv_aload_n hx hb dX11_isBrief_3 rfl (lv_at hl 0 rfl) ?_
      refine mg_35 hx hb hT hown hK hP mw33_9 dX11_isBrief_4 ?_
      refine lv_icmp_ge (tgt := 27) hx hb dX11_isBrief_7 (by decide) (fun hc22 => ?_) (fun hc22 => ?_)
      · replace hF := br_yes hF hc22
        exact J27 (x1) _ _ _ _ _ hF (lv_sub hl [0, 1] rfl) hP hS
      · replace hF := br_no hF hc22
        refine lv_aload_n hx hb dX11_isBrief_10 rfl (lv_at hl 0 rfl) ?_
        refine mg_34 hx hb hT hown hK hP mw6_18 dX11_isBrief_11 ?_
        refine lv_iload_n hx hb dX11_isBrief_14 rfl (lv_at hl 1 rfl) ?_
        replace hF := gd_of hF
        obtain ⟨hi23, hF⟩ := hF
        refine ml_34 hx hb hK hP hi23 dX11_isBrief_15 ?_
        refine lv_bipush (v := (46 : Int32)) hx hb dX11_isBrief_16 (by decide) ?_
        refine lv_icmp_eq (tgt := 27) hx hb dX11_isBrief_18 (by decide) (fun hc24 => ?_) (fun hc24 => ?_)
        · replace hF := br_yes hF hc24
          exact J27 (x1) _ _ _ _ _ hF (lv_sub hl [0, 1] rfl) hP hS
        · replace hF := br_no hF hc24
          obtain ⟨x1_25, ex1_25⟩ : ∃ y : Int32, y = (x1) + (1 : Int32) := ⟨_, rfl⟩
          replace hF := bnd_of hF ex1_25
          refine lv_iinc (v := x1_25) (lv' := [(1, .int (x1_25)), (0, .ref (am 0))]) hx hb dX11_isBrief_21 hl (k := 1) rfl (by rw [ex1_25]; rfl) (by decide) rfl (fun ls hl => ?_)
          refine lv_goto (tgt := 2) hx hb dX11_isBrief_24 (by decide) ?_
          exact ih2 (x1_25) _ _ _ _ _ hF (lv_sub hl [1, 0] rfl) hP hS
  replace hl := lv_sub hl [0] rfl
  refine lv_iconst (v := (0 : Int32)) hx hb dX11_isBrief_0 (by decide) ?_
  refine lv_istore_n (lv' := [(1, .int (0 : Int32)), (0, .ref (am 0))]) hx hb dX11_isBrief_1 rfl hl (by decide) rfl (fun ls hl => ?_)
  exact L2 nf (0 : Int32) _ _ _ _ _ hF (lv_sub hl [1, 0] rfl) hP hS
theorem cw_X11_isBrief : (Cond.instanceMethod yX11_isBrief ∈ TB ∧ Cond.selects RX11 yX11_isBrief yX11_isBrief ∈ TB ∧ Cond.code yX11_isBrief cX11_isBrief 3 (some .boolean) ∈ TB) ∧ (yX11_isBrief.cls = RX11 ∧ yX11_isBrief.cls ≠ "java/lang/invoke/MethodHandle" ∧ yX11_isBrief.cls ≠ "java/lang/invoke/VarHandle" ∧ (parseMethodDescriptor yX11_isBrief.desc).map (fun d => d.parameters.length) = some 0) := ⟨⟨mw49_10, mw49_11, mw49_12⟩, by decide +kernel⟩
/-! X11_plain -/
noncomputable def M_plain_25 (nf : Nat) (t0 : Int32) : Option Int32 :=
  some (t0)
noncomputable def M_plain_23 (nf : Nat)  : Option Int32 :=
  M_plain_25 nf  (95 : Int32)
noncomputable def M_plain (nf : Nat) (x0 : Int32) : Option Int32 :=
  obnd (M_capital nf (x0)) fun r2 => br ((128 : Int32) ≤ (x0)) (M_plain_23 nf) (obnd (M_isShortSign nf (r2)) fun r5 => br ((r5) = 0) (M_plain_23 nf) (M_plain_25 nf  (r2)))
set_option maxHeartbeats 4000000 in
set_option maxRecDepth 100000 in
theorem k_plain (l : Launch) (g : GT) (nf : Nat) (p0 : Int32) (r : Int32) (hF : M_plain nf p0 = some r) : Met l yX11_plain (wx yX11_plain cX11_plain 2 (some .int)) ({ frames := 5, cells := 0, slots := 0, locals := 111 } : Room) (va_Pc [.int p0] (PS g)) (QSi r) 0 0 noA := by
  refine Met.ofW (cc := cX11_plain) (maxL := 2) (ret := (some .int)) (by decide) rfl ?_
  intro p e s m args below meth c s₁ B hml hv
  obtain ⟨rfl, hE⟩ := hv
  have hx := B.exec
  have hb := B.bytes
  have hr := B.returns
  have hts := atoms_spec (ws := (wx yX11_plain cX11_plain 2 (some .int))) B.pre
  have hT : ∀ w ∈ TB, w.before _ s = true := fun w h => hts w (List.mem_cons_of_mem _ h)
  have hown : s.vm.findClass RX11 = some m.cls := findClass_of_methodNamed B.named
  have hlocks := B.notSynchronized
  have hS : va_S noA s.heap s.heap [] := va_S.rf
  have hP : va_P (gD g) vwCl [] s.heap := fun k q h => by cases h
  have hl := lv_entry ([.int p0]) (n := 2) (Nat.le_of_ble_eq_true rfl)
  rw [lg_entry_eq]
  generalize (lg_sl ([.int p0]) ++ List.replicate (2 - (lg_sl ([.int p0])).length) Slot.unset).toArray = ls at hl ⊢
  have hl : lv_has ls 2 [(0, .int p0)] := hl
  unfold M_plain at hF
  have J25 : ∀ (t0 : Int32) (H : Heap) (locs : List Loc) (ls : Array Slot), M_plain_25 nf t0 = some r → lv_has ls 2 [] → va_P (gD g) vwCl [] H → va_S noA s.heap H locs → W p l e (headSpec (wx yX11_plain cX11_plain 2 (some .int)) ({ frames := 5, cells := 0, slots := 0, locals := 111 } : Room)).room s m ([.int p0] : List Value).toArray below meth c H locs 0 0 (MQ below (QSi r) ([.int p0] : List Value).toArray s 0 0 noA) (F0 m 25 ls [.int t0]) := by
    intro t0 H locs ls hF hl hP hS
    unfold M_plain_25 at hF
    exact rS_i hx hb hr hlocks hF hS dX11_plain_25
  have J23 : ∀  (H : Heap) (locs : List Loc) (ls : Array Slot), M_plain_23 nf  = some r → lv_has ls 2 [] → va_P (gD g) vwCl [] H → va_S noA s.heap H locs → W p l e (headSpec (wx yX11_plain cX11_plain 2 (some .int)) ({ frames := 5, cells := 0, slots := 0, locals := 111 } : Room)).room s m ([.int p0] : List Value).toArray below meth c H locs 0 0 (MQ below (QSi r) ([.int p0] : List Value).toArray s 0 0 noA) (F0 m 23 ls []) := by
    intro H locs ls hF hl hP hS
    unfold M_plain_23 at hF
    refine lv_bipush (v := (95 : Int32)) hx hb dX11_plain_23 (by decide) ?_
    exact J25 (95 : Int32)  _ _ _ hF (lv_sub hl [] rfl) hP hS
  replace hl := lv_sub hl [0] rfl
  refine lv_iload_n hx hb dX11_plain_0 rfl (lv_at hl 0 rfl) ?_
  replace hF := obnd_of hF
  obtain ⟨r2, h1, hF⟩ := hF
  refine cS_i (As := [.int (p0)]) (rest := []) hx hb hml hT hown hE hP hS (k_capital l g nf (p0) r2 h1) cw_X11_capital mw35_22 ⟨⟨rfl, rfl⟩, Nat.le_of_ble_eq_true rfl, Nat.le_of_ble_eq_true rfl⟩ rfl hl.1 rfl (Nat.le_of_ble_eq_true rfl) dX11_plain_1 ⟨Nat.zero_le _, Nat.zero_le _⟩ (fun H locs hP hS => ?_)
  refine lv_istore_n (lv' := [(1, .int (r2)), (0, .int (p0))]) hx hb dX11_plain_4 rfl hl (by decide) rfl (fun ls hl => ?_)
  refine lv_iload_n hx hb dX11_plain_5 rfl (lv_at hl 1 rfl) ?_
  refine lv_sipush (v := (128 : Int32)) hx hb dX11_plain_6 (by decide) ?_
  refine lv_icmp_ge (tgt := 23) hx hb dX11_plain_9 (by decide) (fun hc3 => ?_) (fun hc3 => ?_)
  · replace hF := br_yes hF hc3
    exact J23   _ _ _ hF (lv_sub hl [] rfl) hP hS
  · replace hF := br_no hF hc3
    refine lv_iload_n hx hb dX11_plain_12 rfl (lv_at hl 0 rfl) ?_
    replace hF := obnd_of hF
    obtain ⟨r5, h4, hF⟩ := hF
    refine cS_i (As := [.int (r2)]) (rest := []) hx hb hml hT hown hE hP hS (k_isShortSign l g nf (r2) r5 h4) cw_X11_isShortSign mw18_10 ⟨⟨rfl, rfl⟩, Nat.le_of_ble_eq_true rfl, Nat.le_of_ble_eq_true rfl⟩ rfl hl.1 rfl (Nat.le_of_ble_eq_true rfl) dX11_plain_13 ⟨Nat.zero_le _, Nat.zero_le _⟩ (fun H locs hP hS => ?_)
    refine lv_if_eq (tgt := 23) hx hb dX11_plain_16 (by decide) (fun hc6 => ?_) (fun hc6 => ?_)
    · replace hF := br_yes hF hc6
      exact J23   _ _ _ hF (lv_sub hl [] rfl) hP hS
    · replace hF := br_no hF hc6
      refine lv_iload_n hx hb dX11_plain_19 rfl (lv_at hl 0 rfl) ?_
      refine lv_goto (tgt := 25) hx hb dX11_plain_20 (by decide) ?_
      exact J25 (r2)  _ _ _ hF (lv_sub hl [] rfl) hP hS
theorem cw_X11_plain : (Cond.static yX11_plain ∈ TB ∧ Cond.code yX11_plain cX11_plain 2 (some .int) ∈ TB ∧ Cond.initialized yX11_plain.cls ∈ TB) ∧ (yX11_plain.cls ≠ "java/lang/invoke/MethodHandle" ∧ yX11_plain.cls ≠ "java/lang/invoke/VarHandle" ∧ (parseMethodDescriptor yX11_plain.desc).map (fun d => d.parameters.length) = some 1) := ⟨⟨mw49_22, mw49_23, mw1_5⟩, by decide +kernel⟩
/-! X11_isBriefTaken -/
noncomputable def M_isBriefTaken_68 (K7 : Int32 → Int32 → FI → AR → Option (Int32 × FI × AR)) (K29 : Int32 → Int32 → Int32 → Int32 → FI → AR → Option (Int32 × FI × AR)) (nf : Nat) (x1 : Int32) (x2 : Int32) (x4 : Int32) (t0 : Int32) (fi : FI) (ar : AR) : Option (Int32 × FI × AR) :=
  bnd ((x4) + (1 : Int32)) fun x4_1 => K29 (x1) (x2) (t0) (x4_1) fi ar
noncomputable def M_isBriefTaken_67 (K7 : Int32 → Int32 → FI → AR → Option (Int32 × FI × AR)) (K29 : Int32 → Int32 → Int32 → Int32 → FI → AR → Option (Int32 × FI × AR)) (nf : Nat) (x1 : Int32) (x2 : Int32) (x4 : Int32) (fi : FI) (ar : AR) : Option (Int32 × FI × AR) :=
  M_isBriefTaken_68 K7 K29 nf  (x1) (x2) (x4) (0 : Int32) fi ar
noncomputable def M_isBriefTaken_29b (K29 : Int32 → Int32 → Int32 → Int32 → FI → AR → Option (Int32 × FI × AR)) (K7 : Int32 → Int32 → FI → AR → Option (Int32 × FI × AR)) (nf : Nat) (x1 : Int32) (x2 : Int32) (x3 : Int32) (x4 : Int32) (fi : FI) (ar : AR) : Option (Int32 × FI × AR) :=
  br ((11 : Int32) ≤ (x4)) (br ((x3) = 0) (bnd ((x2) + (1 : Int32)) fun x2_4 => K7 (x1) (x2_4) fi ar) (some ((1 : Int32), fi, ar))) (br ((x3) = 0) (M_isBriefTaken_67 K7 K29 nf  (x1) (x2) (x4) fi ar) (gd (¬ ((x2) < 0 ∨ 16400 ≤ (x2).toNatClampNeg)) (obnd3 (M_one nf fi ar ((ar 20 (x2).toNatClampNeg) + (x4))) fun r10 fi8 ar9 => gd (¬ ((x4) < 0 ∨ 11 ≤ (x4).toNatClampNeg)) (br ((r10) = (ar9 39 (x4).toNatClampNeg)) (M_isBriefTaken_68 K7 K29 nf  (x1) (x2) (x4) (1 : Int32) fi8 ar9) (M_isBriefTaken_67 K7 K29 nf  (x1) (x2) (x4) fi8 ar9)))))
noncomputable def M_isBriefTaken_29 (K7 : Int32 → Int32 → FI → AR → Option (Int32 × FI × AR)) (nf : Nat) (kf : Nat) : Int32 → Int32 → Int32 → Int32 → FI → AR → Option (Int32 × FI × AR) := Nat.rec (fun _ _ _ _ _ _ => none) (fun _ K29 => M_isBriefTaken_29b K29 K7 nf) kf
noncomputable def M_isBriefTaken_7b (K7 : Int32 → Int32 → FI → AR → Option (Int32 × FI × AR)) (nf : Nat) (x1 : Int32) (x2 : Int32) (fi : FI) (ar : AR) : Option (Int32 × FI × AR) :=
  gd (¬ ((x1) < 0 ∨ 16400 ≤ (x1).toNatClampNeg)) (gd (¬ ((x1) < 0 ∨ 16400 ≤ (x1).toNatClampNeg)) (br (((ar 25 (x1).toNatClampNeg) + (ar 24 (x1).toNatClampNeg)) ≤ (x2)) (some ((0 : Int32), fi, ar)) (M_isBriefTaken_29 K7 nf nf (x1) (x2) (1 : Int32) (0 : Int32) fi ar)))
noncomputable def M_isBriefTaken_7 (nf : Nat) (kf : Nat) : Int32 → Int32 → FI → AR → Option (Int32 × FI × AR) := Nat.rec (fun _ _ _ _ => none) (fun _ K7 => M_isBriefTaken_7b K7 nf) kf
noncomputable def M_isBriefTaken (nf : Nat) (fi : FI) (ar : AR) (x1 : Int32) : Option (Int32 × FI × AR) :=
  gd (¬ ((x1) < 0 ∨ 16400 ≤ (x1).toNatClampNeg)) (bnd (ar 25 (x1).toNatClampNeg) fun x2_17 => M_isBriefTaken_7 nf nf (x1) (x2_17) fi ar)
set_option maxHeartbeats 4000000 in
set_option maxRecDepth 100000 in
theorem k_isBriefTaken (l : Launch) (g : GT) (am : Nat → Nat) (sz : Nat) (nf : Nat) (fi : FI) (ar : AR) (p1 : Int32) (r : Int32) (fi' : FI) (ar' : AR) (hF : M_isBriefTaken nf fi ar p1 = some (r, fi', ar')) : Met l yX11_isBriefTaken (wx yX11_isBriefTaken cX11_isBriefTaken 5 (some .boolean)) ({ frames := 1, cells := 0, slots := 0, locals := 21 } : Room) (va_Pc [.ref (am 0), .int p1] (PM g am sz fi ar)) (QMi g am sz r fi' ar') 0 0 (AM am sz) := by
  refine Met.ofW (cc := cX11_isBriefTaken) (maxL := 5) (ret := (some .boolean)) (by decide) rfl ?_
  intro p e s m args below meth c s₁ B hml hv
  obtain ⟨rfl, hsz, hP, hK, hD0, hE⟩ := hv
  have hx := B.exec
  have hb := B.bytes
  have hr := B.returns
  have hts := atoms_spec (ws := (wx yX11_isBriefTaken cX11_isBriefTaken 5 (some .boolean))) B.pre
  have hT : ∀ w ∈ TB, w.before _ s = true := fun w h => hts w (List.mem_cons_of_mem _ h)
  have hown : s.vm.findClass RX11 = some m.cls := findClass_of_methodNamed B.named
  have hlocks := B.notSynchronized
  subst hsz
  have hD := dM hD0 s.heap.size
  have hA : ∀ q : Nat, s.heap.size ≤ q → AM am s.heap.size q := fun q h => Or.inr h
  have hS : va_S (AM am s.heap.size) s.heap s.heap [] := va_S.rf
  have hl := lv_entry ([.ref (am 0), .int p1]) (n := 5) (Nat.le_of_ble_eq_true rfl)
  rw [lg_entry_eq]
  generalize (lg_sl ([.ref (am 0), .int p1]) ++ List.replicate (5 - (lg_sl ([.ref (am 0), .int p1])).length) Slot.unset).toArray = ls at hl ⊢
  have hl : lv_has ls 5 [(0, .ref (am 0)), (1, .int p1)] := hl
  unfold M_isBriefTaken at hF
  have L7 : ∀ kf : Nat, ∀ (x1 : Int32) (x2 : Int32) (fi : FI) (ar : AR) (H : Heap) (locs : List Loc) (ls : Array Slot), M_isBriefTaken_7 nf kf x1 x2 fi ar = some (r, fi', ar') → lv_has ls 5 [(0, .ref (am 0)), (1, .int x1), (2, .int x2)] → va_P (gD g) vwCl (WM g am fi ar) H → va_S (AM am s.heap.size) s.heap H locs → W p l e (headSpec (wx yX11_isBriefTaken cX11_isBriefTaken 5 (some .boolean)) ({ frames := 1, cells := 0, slots := 0, locals := 21 } : Room)).room s m ([.ref (am 0), .int p1] : List Value).toArray below meth c H locs 0 0 (MQ below (QMi g am s.heap.size r fi' ar') ([.ref (am 0), .int p1] : List Value).toArray s 0 0 (AM am s.heap.size)) (F0 m 7 ls []) := by
    intro kf
    induction kf with
    | zero => intro x1 x2 fi ar H locs ls hF hl hP hS; cases (show (none : Option (Int32 × FI × AR)) = _ from hF)
    | succ kf ih7 =>
      intro x1 x2 fi ar H locs ls hF hl hP hS
      obtain ⟨K7, hK7⟩ : ∃ K : Int32 → Int32 → FI → AR → Option (Int32 × FI × AR), K = M_isBriefTaken_7 nf kf := ⟨_, rfl⟩
      replace hF : M_isBriefTaken_7b K7 nf x1 x2 fi ar = some (r, fi', ar') := by rw [hK7]; exact hF
      rw [← hK7] at ih7
      clear hK7
      have L29 : ∀ kf : Nat, ∀ (x1 : Int32) (x2 : Int32) (x3 : Int32) (x4 : Int32) (fi : FI) (ar : AR) (H : Heap) (locs : List Loc) (ls : Array Slot), M_isBriefTaken_29 K7 nf kf x1 x2 x3 x4 fi ar = some (r, fi', ar') → lv_has ls 5 [(0, .ref (am 0)), (1, .int x1), (2, .int x2), (3, .int x3), (4, .int x4)] → va_P (gD g) vwCl (WM g am fi ar) H → va_S (AM am s.heap.size) s.heap H locs → W p l e (headSpec (wx yX11_isBriefTaken cX11_isBriefTaken 5 (some .boolean)) ({ frames := 1, cells := 0, slots := 0, locals := 21 } : Room)).room s m ([.ref (am 0), .int p1] : List Value).toArray below meth c H locs 0 0 (MQ below (QMi g am s.heap.size r fi' ar') ([.ref (am 0), .int p1] : List Value).toArray s 0 0 (AM am s.heap.size)) (F0 m 29 ls []) := by
        intro kf
        induction kf with
        | zero => intro x1 x2 x3 x4 fi ar H locs ls hF hl hP hS; cases (show (none : Option (Int32 × FI × AR)) = _ from hF)
        | succ kf ih29 =>
          intro x1 x2 x3 x4 fi ar H locs ls hF hl hP hS
          obtain ⟨K29, hK29⟩ : ∃ K : Int32 → Int32 → Int32 → Int32 → FI → AR → Option (Int32 × FI × AR), K = M_isBriefTaken_29 K7 nf kf := ⟨_, rfl⟩
          replace hF : M_isBriefTaken_29b K29 K7 nf x1 x2 x3 x4 fi ar = some (r, fi', ar') := by rw [hK29]; exact hF
          rw [← hK29] at ih29
          clear hK29
          have J68 : ∀ (x1 : Int32) (x2 : Int32) (x4 : Int32) (t0 : Int32) (fi : FI) (ar : AR) (H : Heap) (locs : List Loc) (ls : Array Slot), M_isBriefTaken_68 K7 K29 nf x1 x2 x4 t0 fi ar = some (r, fi', ar') → lv_has ls 5 [(0, .ref (am 0)), (1, .int x1), (2, .int x2), (4, .int x4)] → va_P (gD g) vwCl (WM g am fi ar) H → va_S (AM am s.heap.size) s.heap H locs → W p l e (headSpec (wx yX11_isBriefTaken cX11_isBriefTaken 5 (some .boolean)) ({ frames := 1, cells := 0, slots := 0, locals := 21 } : Room)).room s m ([.ref (am 0), .int p1] : List Value).toArray below meth c H locs 0 0 (MQ below (QMi g am s.heap.size r fi' ar') ([.ref (am 0), .int p1] : List Value).toArray s 0 0 (AM am s.heap.size)) (F0 m 68 ls [.int t0]) := by
            intro x1 x2 x4 t0 fi ar H locs ls hF hl hP hS
            unfold M_isBriefTaken_68 at hF
            refine lv_istore_n (lv' := [(3, .int (t0)), (0, .ref (am 0)), (1, .int (x1)), (2, .int (x2)), (4, .int (x4))]) hx hb dX11_isBriefTaken_68 rfl hl (by decide) rfl (fun ls hl => ?_)
            obtain ⟨x4_1, ex4_1⟩ : ∃ y : Int32, y = (x4) + (1 : Int32) := ⟨_, rfl⟩
            replace hF := bnd_of hF ex4_1
            refine lv_iinc (v := x4_1) (lv' := [(4, .int (x4_1)), (3, .int (t0)), (0, .ref (am 0)), (1, .int (x1)), (2, .int (x2))]) hx hb dX11_isBriefTaken_69 hl (k := 4) rfl (by rw [ex4_1]; rfl) (by decide) rfl (fun ls hl => ?_)
            refine lv_goto (tgt := 29) hx hb dX11_isBriefTaken_72 (by decide) ?_
            exact ih29 (x1) (x2) (t0) (x4_1) _ _ _ _ _ hF (lv_sub hl [2, 3, 4, 1, 0] rfl) hP hS
          have J67 : ∀ (x1 : Int32) (x2 : Int32) (x4 : Int32) (fi : FI) (ar : AR) (H : Heap) (locs : List Loc) (ls : Array Slot), M_isBriefTaken_67 K7 K29 nf x1 x2 x4 fi ar = some (r, fi', ar') → lv_has ls 5 [(0, .ref (am 0)), (1, .int x1), (2, .int x2), (4, .int x4)] → va_P (gD g) vwCl (WM g am fi ar) H → va_S (AM am s.heap.size) s.heap H locs → W p l e (headSpec (wx yX11_isBriefTaken cX11_isBriefTaken 5 (some .boolean)) ({ frames := 1, cells := 0, slots := 0, locals := 21 } : Room)).room s m ([.ref (am 0), .int p1] : List Value).toArray below meth c H locs 0 0 (MQ below (QMi g am s.heap.size r fi' ar') ([.ref (am 0), .int p1] : List Value).toArray s 0 0 (AM am s.heap.size)) (F0 m 67 ls []) := by
            intro x1 x2 x4 fi ar H locs ls hF hl hP hS
            unfold M_isBriefTaken_67 at hF
            refine lv_iconst (v := (0 : Int32)) hx hb dX11_isBriefTaken_67 (by decide) ?_
            exact J68 (x1) (x2) (x4) (0 : Int32) _ _ _ _ _ hF (lv_sub hl [0, 1, 2, 3] rfl) hP hS
          unfold M_isBriefTaken_29b at hF
          refine lv_iload hx hb dX11_isBriefTaken_29 (lv_at hl 4 rfl) ?_
          refine lv_bipush (v := (11 : Int32)) hx hb dX11_isBriefTaken_31 (by decide) ?_
          refine lv_icmp_ge (tgt := 75) hx hb dX11_isBriefTaken_33 (by decide) (fun hc2 => ?_) (fun hc2 => ?_)
          · replace hF := br_yes hF hc2
            refine lv_iload_n hx hb dX11_isBriefTaken_75 rfl (lv_at hl 3 rfl) ?_
            refine lv_if_eq (tgt := 81) hx hb dX11_isBriefTaken_76 (by decide) (fun hc3 => ?_) (fun hc3 => ?_)
            · replace hF := br_yes hF hc3
              obtain ⟨x2_4, ex2_4⟩ : ∃ y : Int32, y = (x2) + (1 : Int32) := ⟨_, rfl⟩
              replace hF := bnd_of hF ex2_4
              refine lv_iinc (v := x2_4) (lv' := [(2, .int (x2_4)), (0, .ref (am 0)), (1, .int (x1)), (3, .int (x3)), (4, .int (x4))]) hx hb dX11_isBriefTaken_81 hl (k := 2) rfl (by rw [ex2_4]; rfl) (by decide) rfl (fun ls hl => ?_)
              refine lv_goto (tgt := 7) hx hb dX11_isBriefTaken_84 (by decide) ?_
              exact ih7 (x1) (x2_4) _ _ _ _ _ hF (lv_sub hl [1, 2, 0] rfl) hP hS
            · replace hF := br_no hF hc3
              refine lv_iconst (v := (1 : Int32)) hx hb dX11_isBriefTaken_79 (by decide) ?_
              exact rM_z hx hb hr hlocks rfl hF hP hS dX11_isBriefTaken_80
          · replace hF := br_no hF hc2
            refine lv_iload_n hx hb dX11_isBriefTaken_36 rfl (lv_at hl 3 rfl) ?_
            refine lv_if_eq (tgt := 67) hx hb dX11_isBriefTaken_37 (by decide) (fun hc5 => ?_) (fun hc5 => ?_)
            · replace hF := br_yes hF hc5
              exact J67 (x1) (x2) (x4) _ _ _ _ _ hF (lv_sub hl [0, 1, 2, 4] rfl) hP hS
            · replace hF := br_no hF hc5
              refine lv_aload_n hx hb dX11_isBriefTaken_40 rfl (lv_at hl 0 rfl) ?_
              refine lv_aload_n hx hb dX11_isBriefTaken_41 rfl (lv_at hl 0 rfl) ?_
              refine mg_20 hx hb hT hown hK hP mw6_5 dX11_isBriefTaken_42 ?_
              refine lv_iload_n hx hb dX11_isBriefTaken_45 rfl (lv_at hl 2 rfl) ?_
              replace hF := gd_of hF
              obtain ⟨hi6, hF⟩ := hF
              refine ml_20 hx hb hK hP hi6 dX11_isBriefTaken_46 ?_
              refine lv_iload hx hb dX11_isBriefTaken_47 (lv_at hl 4 rfl) ?_
              refine lv_iadd hx hb dX11_isBriefTaken_49 ?_
              replace hF := obnd3_of hF
              obtain ⟨r10, fi8, ar9, h7, hF⟩ := hF
              refine cM_i (As := [.int ((ar 20 (x2).toNatClampNeg) + (x4))]) (rest := []) hx hb hml hT hown hK hE hD hA hP hS (k_one l g am _ nf fi ar ((ar 20 (x2).toNatClampNeg) + (x4)) r10 fi8 ar9 h7) cw_X11_one mw19_9 ⟨⟨rfl, rfl⟩, Nat.le_of_ble_eq_true rfl, Nat.le_of_ble_eq_true rfl⟩ rfl hl.1 rfl (Nat.le_of_ble_eq_true rfl) dX11_isBriefTaken_50 ⟨Nat.zero_le _, Nat.zero_le _⟩ (fun H locs hP hS => ?_)
              refine lv_aload_n hx hb dX11_isBriefTaken_53 rfl (lv_at hl 0 rfl) ?_
              refine mg_39 hx hb hT hown hK hP mw6_19 dX11_isBriefTaken_54 ?_
              refine lv_iload hx hb dX11_isBriefTaken_57 (lv_at hl 4 rfl) ?_
              replace hF := gd_of hF
              obtain ⟨hi11, hF⟩ := hF
              refine ml_39 hx hb hK hP hi11 dX11_isBriefTaken_59 ?_
              refine lv_icmp_ne (tgt := 67) hx hb dX11_isBriefTaken_60 (by decide) (fun hc12 => ?_) (fun hc12 => ?_)
              · replace hF := br_no hF hc12
                exact J67 (x1) (x2) (x4) _ _ _ _ _ hF (lv_sub hl [0, 1, 2, 4] rfl) hP hS
              · replace hF := br_yes hF hc12
                refine lv_iconst (v := (1 : Int32)) hx hb dX11_isBriefTaken_63 (by decide) ?_
                refine lv_goto (tgt := 68) hx hb dX11_isBriefTaken_64 (by decide) ?_
                exact J68 (x1) (x2) (x4) (1 : Int32) _ _ _ _ _ hF (lv_sub hl [0, 1, 2, 4] rfl) hP hS
      unfold M_isBriefTaken_7b at hF
      refine lv_iload_n hx hb dX11_isBriefTaken_7 rfl (lv_at hl 2 rfl) ?_
      refine lv_aload_n hx hb dX11_isBriefTaken_8 rfl (lv_at hl 0 rfl) ?_
      refine mg_25 hx hb hT hown hK hP mw6_10 dX11_isBriefTaken_9 ?_
      refine lv_iload_n hx hb dX11_isBriefTaken_12 rfl (lv_at hl 1 rfl) ?_
      replace hF := gd_of hF
      obtain ⟨hi13, hF⟩ := hF
      refine ml_25 hx hb hK hP hi13 dX11_isBriefTaken_13 ?_
      refine lv_aload_n hx hb dX11_isBriefTaken_14 rfl (lv_at hl 0 rfl) ?_
      refine mg_24 hx hb hT hown hK hP mw6_9 dX11_isBriefTaken_15 ?_
      refine lv_iload_n hx hb dX11_isBriefTaken_18 rfl (lv_at hl 1 rfl) ?_
      replace hF := gd_of hF
      obtain ⟨hi14, hF⟩ := hF
      refine ml_24 hx hb hK hP hi14 dX11_isBriefTaken_19 ?_
      refine lv_iadd hx hb dX11_isBriefTaken_20 ?_
      refine lv_icmp_ge (tgt := 87) hx hb dX11_isBriefTaken_21 (by decide) (fun hc15 => ?_) (fun hc15 => ?_)
      · replace hF := br_yes hF hc15
        refine lv_iconst (v := (0 : Int32)) hx hb dX11_isBriefTaken_87 (by decide) ?_
        exact rM_z hx hb hr hlocks rfl hF hP hS dX11_isBriefTaken_88
      · replace hF := br_no hF hc15
        refine lv_iconst (v := (1 : Int32)) hx hb dX11_isBriefTaken_24 (by decide) ?_
        refine lv_istore_n (lv' := [(3, .int (1 : Int32)), (0, .ref (am 0)), (1, .int (x1)), (2, .int (x2))]) hx hb dX11_isBriefTaken_25 rfl hl (by decide) rfl (fun ls hl => ?_)
        refine lv_iconst (v := (0 : Int32)) hx hb dX11_isBriefTaken_26 (by decide) ?_
        refine lv_istore (lv' := [(4, .int (0 : Int32)), (3, .int (1 : Int32)), (0, .ref (am 0)), (1, .int (x1)), (2, .int (x2))]) hx hb dX11_isBriefTaken_27 hl (by decide) rfl (fun ls hl => ?_)
        exact L29 nf (x1) (x2) (1 : Int32) (0 : Int32) _ _ _ _ _ hF (lv_sub hl [2, 3, 4, 1, 0] rfl) hP hS
  replace hl := lv_sub hl [0, 1] rfl
  refine lv_aload_n hx hb dX11_isBriefTaken_0 rfl (lv_at hl 0 rfl) ?_
  refine mg_25 hx hb hT hown hK hP mw6_10 dX11_isBriefTaken_1 ?_
  refine lv_iload_n hx hb dX11_isBriefTaken_4 rfl (lv_at hl 1 rfl) ?_
  replace hF := gd_of hF
  obtain ⟨hi16, hF⟩ := hF
  refine ml_25 hx hb hK hP hi16 dX11_isBriefTaken_5 ?_
  obtain ⟨x2_17, ex2_17⟩ : ∃ y : Int32, y = (ar 25 (p1).toNatClampNeg) := ⟨_, rfl⟩
  rw [← ex2_17]
  replace hF := bnd_of hF ex2_17
  refine lv_istore_n (lv' := [(2, .int (x2_17)), (0, .ref (am 0)), (1, .int (p1))]) hx hb dX11_isBriefTaken_6 rfl hl (by decide) rfl (fun ls hl => ?_)
  exact L7 nf (p1) (x2_17) _ _ _ _ _ hF (lv_sub hl [1, 2, 0] rfl) hP hS
theorem cw_X11_isBriefTaken : (Cond.instanceMethod yX11_isBriefTaken ∈ TB ∧ Cond.selects RX11 yX11_isBriefTaken yX11_isBriefTaken ∈ TB ∧ Cond.code yX11_isBriefTaken cX11_isBriefTaken 5 (some .boolean) ∈ TB) ∧ (yX11_isBriefTaken.cls = RX11 ∧ yX11_isBriefTaken.cls ≠ "java/lang/invoke/MethodHandle" ∧ yX11_isBriefTaken.cls ≠ "java/lang/invoke/VarHandle" ∧ (parseMethodDescriptor yX11_isBriefTaken.desc).map (fun d => d.parameters.length) = some 1) := ⟨⟨mw49_14, mw49_15, mw49_16⟩, by decide +kernel⟩
/-! X11_shorten -/
noncomputable def M_shorten_317b (K317 : Int32 → Int32 → Int32 → Int32 → Int32 → Int32 → Int32 → Int32 → FI → AR → Option (Unit × FI × AR)) (K176 : Int32 → Int32 → Int32 → Int32 → Int32 → FI → AR → Option (Unit × FI × AR)) (nf : Nat) (x1 : Int32) (x3 : Int32) (x4 : Int32) (x6 : Int32) (x7 : Int32) (x8 : Int32) (x9 : Int32) (x10 : Int32) (fi : FI) (ar : AR) : Option (Unit × FI × AR) :=
  br ((x7) ≤ (x10)) (obnd3 (M_isBriefTaken nf fi ar (x1)) fun r5 fi3 ar4 => bnd ((x6) + (1 : Int32)) fun x6_6 => K176 (x1) (x3) (x4) (r5) (x6_6) fi3 ar4) (gd (¬ (x8) = 0) (gd (¬ ((((x9) + (1 : Int32)) + (x10)) < 0 ∨ 11 ≤ (((x9) + (1 : Int32)) + (x10)).toNatClampNeg)) (bnd (va_up ar 39 (upd (ar 39) (((x9) + (1 : Int32)) + (x10)).toNatClampNeg ((48 : Int32) + (((x6) / (x8)) - ((x6) / (x8)) / (10 : Int32) * (10 : Int32))))) fun ar9 => bnd ((x8) / (10 : Int32)) fun x8_10 => bnd ((x10) + (1 : Int32)) fun x10_11 => K317 (x1) (x3) (x4) (x6) (x7) (x8_10) (x9) (x10_11) fi ar9)))
noncomputable def M_shorten_317 (K176 : Int32 → Int32 → Int32 → Int32 → Int32 → FI → AR → Option (Unit × FI × AR)) (nf : Nat) (kf : Nat) : Int32 → Int32 → Int32 → Int32 → Int32 → Int32 → Int32 → Int32 → FI → AR → Option (Unit × FI × AR) := Nat.rec (fun _ _ _ _ _ _ _ _ _ _ => none) (fun _ K317 => M_shorten_317b K317 K176 nf) kf
noncomputable def M_shorten_307 (K176 : Int32 → Int32 → Int32 → Int32 → Int32 → FI → AR → Option (Unit × FI × AR)) (K233 : Int32 → Int32 → Int32 → Int32 → Int32 → Int32 → Int32 → Int32 → FI → AR → Option (Unit × FI × AR)) (nf : Nat) (x1 : Int32) (x3 : Int32) (x4 : Int32) (x6 : Int32) (x7 : Int32) (x8 : Int32) (x9 : Int32) (x10 : Int32) (t1 : Int32) (t2 : Int32) (fi : FI) (ar : AR) : Option (Unit × FI × AR) :=
  gd (¬ ((t1) < 0 ∨ 11 ≤ (t1).toNatClampNeg)) (bnd (va_up ar 39 (upd (ar 39) (t1).toNatClampNeg (t2))) fun ar13 => bnd ((x10) + (1 : Int32)) fun x10_14 => K233 (x1) (x3) (x4) (x6) (x7) (x8) (x9) (x10_14) fi ar13)
noncomputable def M_shorten_305 (K176 : Int32 → Int32 → Int32 → Int32 → Int32 → FI → AR → Option (Unit × FI × AR)) (K233 : Int32 → Int32 → Int32 → Int32 → Int32 → Int32 → Int32 → Int32 → FI → AR → Option (Unit × FI × AR)) (nf : Nat) (x1 : Int32) (x3 : Int32) (x4 : Int32) (x6 : Int32) (x7 : Int32) (x8 : Int32) (x9 : Int32) (x10 : Int32) (t1 : Int32) (fi : FI) (ar : AR) : Option (Unit × FI × AR) :=
  M_shorten_307 K176 K233 nf  (x1) (x3) (x4) (x6) (x7) (x8) (x9) (x10) (t1) (32 : Int32) fi ar
noncomputable def M_shorten_233b (K233 : Int32 → Int32 → Int32 → Int32 → Int32 → Int32 → Int32 → Int32 → FI → AR → Option (Unit × FI × AR)) (K176 : Int32 → Int32 → Int32 → Int32 → Int32 → FI → AR → Option (Unit × FI × AR)) (nf : Nat) (x1 : Int32) (x3 : Int32) (x4 : Int32) (x6 : Int32) (x7 : Int32) (x8 : Int32) (x9 : Int32) (x10 : Int32) (fi : FI) (ar : AR) : Option (Unit × FI × AR) :=
  br ((11 : Int32) ≤ (x10)) (M_shorten_317 K176 nf nf (x1) (x3) (x4) (x6) (x7) (x8) (x9) (0 : Int32) fi ar) (br ((x9) ≤ (x10)) (br ((x10) = (x9)) (M_shorten_307 K176 K233 nf  (x1) (x3) (x4) (x6) (x7) (x8) (x9) (x10) (x10) (126 : Int32) fi ar) (br ((x10) ≤ (7 : Int32)) (M_shorten_305 K176 K233 nf  (x1) (x3) (x4) (x6) (x7) (x8) (x9) (x10) (x10) fi ar) (br ((x4) ≤ ((x10) - (8 : Int32))) (M_shorten_305 K176 K233 nf  (x1) (x3) (x4) (x6) (x7) (x8) (x9) (x10) (x10) fi ar) (gd (¬ (((x10) - (8 : Int32)) < 0 ∨ 3 ≤ ((x10) - (8 : Int32)).toNatClampNeg)) (M_shorten_307 K176 K233 nf  (x1) (x3) (x4) (x6) (x7) (x8) (x9) (x10) (x10) (ar 41 ((x10) - (8 : Int32)).toNatClampNeg) fi ar))))) (gd (¬ ((x10) < 0 ∨ 255 ≤ (x10).toNatClampNeg)) (M_shorten_307 K176 K233 nf  (x1) (x3) (x4) (x6) (x7) (x8) (x9) (x10) (x10) (ar 40 (x10).toNatClampNeg) fi ar)))
noncomputable def M_shorten_233 (K176 : Int32 → Int32 → Int32 → Int32 → Int32 → FI → AR → Option (Unit × FI × AR)) (nf : Nat) (kf : Nat) : Int32 → Int32 → Int32 → Int32 → Int32 → Int32 → Int32 → Int32 → FI → AR → Option (Unit × FI × AR) := Nat.rec (fun _ _ _ _ _ _ _ _ _ _ => none) (fun _ K233 => M_shorten_233b K233 K176 nf) kf
noncomputable def M_shorten_228 (K176 : Int32 → Int32 → Int32 → Int32 → Int32 → FI → AR → Option (Unit × FI × AR)) (nf : Nat) (x1 : Int32) (x3 : Int32) (x4 : Int32) (x6 : Int32) (x7 : Int32) (x8 : Int32) (t0 : Int32) (fi : FI) (ar : AR) : Option (Unit × FI × AR) :=
  M_shorten_233 K176 nf nf (x1) (x3) (x4) (x6) (x7) (x8) (t0) (0 : Int32) fi ar
noncomputable def M_shorten_187b (K187 : Int32 → Int32 → Int32 → Int32 → Int32 → Int32 → FI → AR → Option (Unit × FI × AR)) (K176 : Int32 → Int32 → Int32 → Int32 → Int32 → FI → AR → Option (Unit × FI × AR)) (nf : Nat) (x1 : Int32) (x3 : Int32) (x4 : Int32) (x6 : Int32) (x7 : Int32) (x8 : Int32) (fi : FI) (ar : AR) : Option (Unit × FI × AR) :=
  gd (¬ (x8) = 0) (br (((x6) / (x8)) ≤ (9 : Int32)) (br (((7 : Int32) - (x7)) ≤ (x3)) (M_shorten_228 K176 nf  (x1) (x3) (x4) (x6) (x7) (x8) ((7 : Int32) - (x7)) fi ar) (M_shorten_228 K176 nf  (x1) (x3) (x4) (x6) (x7) (x8) (x3) fi ar)) (bnd ((x8) * (10 : Int32)) fun x8_25 => bnd ((x7) + (1 : Int32)) fun x7_26 => K187 (x1) (x3) (x4) (x6) (x7_26) (x8_25) fi ar))
noncomputable def M_shorten_187 (K176 : Int32 → Int32 → Int32 → Int32 → Int32 → FI → AR → Option (Unit × FI × AR)) (nf : Nat) (kf : Nat) : Int32 → Int32 → Int32 → Int32 → Int32 → Int32 → FI → AR → Option (Unit × FI × AR) := Nat.rec (fun _ _ _ _ _ _ _ _ => none) (fun _ K187 => M_shorten_187b K187 K176 nf) kf
noncomputable def M_shorten_176b (K176 : Int32 → Int32 → Int32 → Int32 → Int32 → FI → AR → Option (Unit × FI × AR)) (nf : Nat) (x1 : Int32) (x3 : Int32) (x4 : Int32) (x5 : Int32) (x6 : Int32) (fi : FI) (ar : AR) : Option (Unit × FI × AR) :=
  br ((x5) = 0) (some ((), fi, ar)) (M_shorten_187 K176 nf nf (x1) (x3) (x4) (x6) (1 : Int32) (1 : Int32) fi ar)
noncomputable def M_shorten_176 (nf : Nat) (kf : Nat) : Int32 → Int32 → Int32 → Int32 → Int32 → FI → AR → Option (Unit × FI × AR) := Nat.rec (fun _ _ _ _ _ _ _ => none) (fun _ K176 => M_shorten_176b K176 nf) kf
noncomputable def M_shorten_170 (nf : Nat) (x1 : Int32) (x3 : Int32) (x4 : Int32) (fi : FI) (ar : AR) : Option (Unit × FI × AR) :=
  M_shorten_176 nf nf (x1) (x3) (x4) (1 : Int32) (1 : Int32) fi ar
noncomputable def M_shorten_164 (K110 : Int32 → Int32 → Int32 → Int32 → Int32 → FI → AR → Option (Unit × FI × AR)) (nf : Nat) (x1 : Int32) (x2 : Int32) (x3 : Int32) (x4 : Int32) (x5 : Int32) (fi : FI) (ar : AR) : Option (Unit × FI × AR) :=
  bnd ((x5) + (1 : Int32)) fun x5_28 => K110 (x1) (x2) (x3) (x4) (x5_28) fi ar
noncomputable def M_shorten_110b (K110 : Int32 → Int32 → Int32 → Int32 → Int32 → FI → AR → Option (Unit × FI × AR)) (nf : Nat) (x1 : Int32) (x2 : Int32) (x3 : Int32) (x4 : Int32) (x5 : Int32) (fi : FI) (ar : AR) : Option (Unit × FI × AR) :=
  br ((x2) ≤ 0) (M_shorten_170 nf  (x1) (x3) (x4) fi ar) (br ((fi 35) ≤ (x5)) (M_shorten_170 nf  (x1) (x3) (x4) fi ar) (br ((3 : Int32) ≤ (x4)) (M_shorten_170 nf  (x1) (x3) (x4) fi ar) (gd (¬ ((x5) < 0 ∨ 300 ≤ (x5).toNatClampNeg)) (br ((ar 34 (x5).toNatClampNeg) = (32 : Int32)) (M_shorten_164 K110 nf  (x1) (x2) (x3) (x4) (x5) fi ar) (gd (¬ ((x5) < 0 ∨ 300 ≤ (x5).toNatClampNeg)) (obnd (M_plain nf (ar 34 (x5).toNatClampNeg)) fun r36 => gd (¬ ((x4) < 0 ∨ 3 ≤ (x4).toNatClampNeg)) (bnd (va_up ar 41 (upd (ar 41) (x4).toNatClampNeg (r36))) fun ar38 => bnd ((x4) + (1 : Int32)) fun x4_39 => M_shorten_164 K110 nf  (x1) (x2) (x3) (x4_39) (x5) fi ar38)))))))
noncomputable def M_shorten_110 (nf : Nat) (kf : Nat) : Int32 → Int32 → Int32 → Int32 → Int32 → FI → AR → Option (Unit × FI × AR) := Nat.rec (fun _ _ _ _ _ _ _ => none) (fun _ K110 => M_shorten_110b K110 nf) kf
noncomputable def M_shorten_99 (K36 : Int32 → Int32 → Int32 → Int32 → Int32 → FI → AR → Option (Unit × FI × AR)) (nf : Nat) (x1 : Int32) (x2 : Int32) (x3 : Int32) (x4 : Int32) (x5 : Int32) (fi : FI) (ar : AR) : Option (Unit × FI × AR) :=
  bnd ((x5) + (1 : Int32)) fun x5_40 => K36 (x1) (x2) (x3) (x4) (x5_40) fi ar
noncomputable def M_shorten_50 (K36 : Int32 → Int32 → Int32 → Int32 → Int32 → FI → AR → Option (Unit × FI × AR)) (nf : Nat) (x1 : Int32) (x2 : Int32) (x3 : Int32) (x4 : Int32) (x5 : Int32) (t0 : Int32) (t1 : Int32) (fi : FI) (ar : AR) : Option (Unit × FI × AR) :=
  br ((t1) ≤ (t0)) (bnd ((x2) + (1 : Int32)) fun x5_42 => M_shorten_110 nf nf (x1) (x2) (x3) (x4) (x5_42) fi ar) (gd (¬ ((x5) < 0 ∨ 300 ≤ (x5).toNatClampNeg)) (br ((ar 34 (x5).toNatClampNeg) = (32 : Int32)) (M_shorten_99 K36 nf  (x1) (x2) (x3) (x4) (x5) fi ar) (gd (¬ ((x5) < 0 ∨ 300 ≤ (x5).toNatClampNeg)) (br ((ar 34 (x5).toNatClampNeg) = (46 : Int32)) (M_shorten_99 K36 nf  (x1) (x2) (x3) (x4) (x5) fi ar) (gd (¬ ((x5) < 0 ∨ 300 ≤ (x5).toNatClampNeg)) (obnd (M_plain nf (ar 34 (x5).toNatClampNeg)) fun r49 => gd (¬ ((x3) < 0 ∨ 255 ≤ (x3).toNatClampNeg)) (bnd (va_up ar 40 (upd (ar 40) (x3).toNatClampNeg (r49))) fun ar51 => bnd ((x3) + (1 : Int32)) fun x3_52 => M_shorten_99 K36 nf  (x1) (x2) (x3_52) (x4) (x5) fi ar51)))))))
noncomputable def M_shorten_36b (K36 : Int32 → Int32 → Int32 → Int32 → Int32 → FI → AR → Option (Unit × FI × AR)) (nf : Nat) (x1 : Int32) (x2 : Int32) (x3 : Int32) (x4 : Int32) (x5 : Int32) (fi : FI) (ar : AR) : Option (Unit × FI × AR) :=
  br ((x2) ≤ 0) (M_shorten_50 K36 nf  (x1) (x2) (x3) (x4) (x5) (x5) (fi 35) fi ar) (M_shorten_50 K36 nf  (x1) (x2) (x3) (x4) (x5) (x5) (x2) fi ar)
noncomputable def M_shorten_36 (nf : Nat) (kf : Nat) : Int32 → Int32 → Int32 → Int32 → Int32 → FI → AR → Option (Unit × FI × AR) := Nat.rec (fun _ _ _ _ _ _ _ => none) (fun _ K36 => M_shorten_36b K36 nf) kf
noncomputable def M_shorten_28 (nf : Nat) (x1 : Int32) (x2 : Int32) (fi : FI) (ar : AR) : Option (Unit × FI × AR) :=
  M_shorten_36 nf nf (x1) (x2) (0 : Int32) (0 : Int32) (0 : Int32) fi ar
noncomputable def M_shorten_7b (K7 : Int32 → Int32 → FI → AR → Option (Unit × FI × AR)) (nf : Nat) (x1 : Int32) (x2 : Int32) (fi : FI) (ar : AR) : Option (Unit × FI × AR) :=
  br ((x2) ≤ 0) (M_shorten_28 nf  (x1) (x2) fi ar) (gd (¬ ((x2) < 0 ∨ 300 ≤ (x2).toNatClampNeg)) (br ((ar 34 (x2).toNatClampNeg) = (46 : Int32)) (M_shorten_28 nf  (x1) (x2) fi ar) (bnd ((x2) + (-1 : Int32)) fun x2_57 => K7 (x1) (x2_57) fi ar)))
noncomputable def M_shorten_7 (nf : Nat) (kf : Nat) : Int32 → Int32 → FI → AR → Option (Unit × FI × AR) := Nat.rec (fun _ _ _ _ => none) (fun _ K7 => M_shorten_7b K7 nf) kf
noncomputable def M_shorten (nf : Nat) (fi : FI) (ar : AR) (x1 : Int32) : Option (Unit × FI × AR) :=
  bnd ((fi 35) - (1 : Int32)) fun x2_58 => M_shorten_7 nf nf (x1) (x2_58) fi ar
set_option maxHeartbeats 4000000 in
set_option maxRecDepth 100000 in
theorem k_shorten (l : Launch) (g : GT) (am : Nat → Nat) (sz : Nat) (nf : Nat) (fi : FI) (ar : AR) (p1 : Int32) (r : Unit) (fi' : FI) (ar' : AR) (hF : M_shorten nf fi ar p1 = some (r, fi', ar')) : Met l yX11_shorten (wx yX11_shorten cX11_shorten 11 none) ({ frames := 6, cells := 0, slots := 0, locals := 132 } : Room) (va_Pc [.ref (am 0), .int p1] (PM g am sz fi ar)) (QMv g am sz r fi' ar') 0 0 (AM am sz) := by
  refine Met.ofW (cc := cX11_shorten) (maxL := 11) (ret := none) (by decide) rfl ?_
  intro p e s m args below meth c s₁ B hml hv
  obtain ⟨rfl, hsz, hP, hK, hD0, hE⟩ := hv
  have hx := B.exec
  have hb := B.bytes
  have hr := B.returns
  have hts := atoms_spec (ws := (wx yX11_shorten cX11_shorten 11 none)) B.pre
  have hT : ∀ w ∈ TB, w.before _ s = true := fun w h => hts w (List.mem_cons_of_mem _ h)
  have hown : s.vm.findClass RX11 = some m.cls := findClass_of_methodNamed B.named
  have hlocks := B.notSynchronized
  subst hsz
  have hD := dM hD0 s.heap.size
  have hA : ∀ q : Nat, s.heap.size ≤ q → AM am s.heap.size q := fun q h => Or.inr h
  have hS : va_S (AM am s.heap.size) s.heap s.heap [] := va_S.rf
  have hl := lv_entry ([.ref (am 0), .int p1]) (n := 11) (Nat.le_of_ble_eq_true rfl)
  rw [lg_entry_eq]
  generalize (lg_sl ([.ref (am 0), .int p1]) ++ List.replicate (11 - (lg_sl ([.ref (am 0), .int p1])).length) Slot.unset).toArray = ls at hl ⊢
  have hl : lv_has ls 11 [(0, .ref (am 0)), (1, .int p1)] := hl
  unfold M_shorten at hF
  have L176 : ∀ kf : Nat, ∀ (x1 : Int32) (x3 : Int32) (x4 : Int32) (x5 : Int32) (x6 : Int32) (fi : FI) (ar : AR) (H : Heap) (locs : List Loc) (ls : Array Slot), M_shorten_176 nf kf x1 x3 x4 x5 x6 fi ar = some (r, fi', ar') → lv_has ls 11 [(0, .ref (am 0)), (1, .int x1), (3, .int x3), (4, .int x4), (5, .int x5), (6, .int x6)] → va_P (gD g) vwCl (WM g am fi ar) H → va_S (AM am s.heap.size) s.heap H locs → W p l e (headSpec (wx yX11_shorten cX11_shorten 11 none) ({ frames := 6, cells := 0, slots := 0, locals := 132 } : Room)).room s m ([.ref (am 0), .int p1] : List Value).toArray below meth c H locs 0 0 (MQ below (QMv g am s.heap.size r fi' ar') ([.ref (am 0), .int p1] : List Value).toArray s 0 0 (AM am s.heap.size)) (F0 m 176 ls []) := by
    intro kf
    induction kf with
    | zero => intro x1 x3 x4 x5 x6 fi ar H locs ls hF hl hP hS; cases (show (none : Option (Unit × FI × AR)) = _ from hF)
    | succ kf ih176 =>
      intro x1 x3 x4 x5 x6 fi ar H locs ls hF hl hP hS
      obtain ⟨K176, hK176⟩ : ∃ K : Int32 → Int32 → Int32 → Int32 → Int32 → FI → AR → Option (Unit × FI × AR), K = M_shorten_176 nf kf := ⟨_, rfl⟩
      replace hF : M_shorten_176b K176 nf x1 x3 x4 x5 x6 fi ar = some (r, fi', ar') := by rw [hK176]; exact hF
      rw [← hK176] at ih176
      clear hK176
      have L317 : ∀ kf : Nat, ∀ (x1 : Int32) (x3 : Int32) (x4 : Int32) (x6 : Int32) (x7 : Int32) (x8 : Int32) (x9 : Int32) (x10 : Int32) (fi : FI) (ar : AR) (H : Heap) (locs : List Loc) (ls : Array Slot), M_shorten_317 K176 nf kf x1 x3 x4 x6 x7 x8 x9 x10 fi ar = some (r, fi', ar') → lv_has ls 11 [(0, .ref (am 0)), (1, .int x1), (3, .int x3), (4, .int x4), (6, .int x6), (7, .int x7), (8, .int x8), (9, .int x9), (10, .int x10)] → va_P (gD g) vwCl (WM g am fi ar) H → va_S (AM am s.heap.size) s.heap H locs → W p l e (headSpec (wx yX11_shorten cX11_shorten 11 none) ({ frames := 6, cells := 0, slots := 0, locals := 132 } : Room)).room s m ([.ref (am 0), .int p1] : List Value).toArray below meth c H locs 0 0 (MQ below (QMv g am s.heap.size r fi' ar') ([.ref (am 0), .int p1] : List Value).toArray s 0 0 (AM am s.heap.size)) (F0 m 317 ls []) := by
        intro kf
        induction kf with
        | zero => intro x1 x3 x4 x6 x7 x8 x9 x10 fi ar H locs ls hF hl hP hS; cases (show (none : Option (Unit × FI × AR)) = _ from hF)
        | succ kf ih317 =>
          intro x1 x3 x4 x6 x7 x8 x9 x10 fi ar H locs ls hF hl hP hS
          obtain ⟨K317, hK317⟩ : ∃ K : Int32 → Int32 → Int32 → Int32 → Int32 → Int32 → Int32 → Int32 → FI → AR → Option (Unit × FI × AR), K = M_shorten_317 K176 nf kf := ⟨_, rfl⟩
          replace hF : M_shorten_317b K317 K176 nf x1 x3 x4 x6 x7 x8 x9 x10 fi ar = some (r, fi', ar') := by rw [hK317]; exact hF
          rw [← hK317] at ih317
          clear hK317
          unfold M_shorten_317b at hF
          refine lv_iload hx hb dX11_shorten_317 (lv_at hl 8 rfl) ?_
          refine lv_iload hx hb dX11_shorten_319 (lv_at hl 5 rfl) ?_
          refine lv_icmp_ge (tgt := 360) hx hb dX11_shorten_321 (by decide) (fun hc1 => ?_) (fun hc1 => ?_)
          · replace hF := br_yes hF hc1
            refine lv_aload_n hx hb dX11_shorten_360 rfl (lv_at hl 0 rfl) ?_
            refine lv_iload_n hx hb dX11_shorten_361 rfl (lv_at hl 1 rfl) ?_
            replace hF := obnd3_of hF
            obtain ⟨r5, fi3, ar4, h2, hF⟩ := hF
            refine cM_i (As := [.int (x1)]) (rest := []) hx hb hml hT hown hK hE hD hA hP hS (k_isBriefTaken l g am _ nf fi ar (x1) r5 fi3 ar4 h2) cw_X11_isBriefTaken mw49_13 ⟨⟨rfl, rfl⟩, Nat.le_of_ble_eq_true rfl, Nat.le_of_ble_eq_true rfl⟩ rfl hl.1 rfl (Nat.le_of_ble_eq_true rfl) dX11_shorten_362 ⟨Nat.zero_le _, Nat.zero_le _⟩ (fun H locs hP hS => ?_)
            refine lv_istore (lv' := [(5, .int (r5)), (0, .ref (am 0)), (1, .int (x1)), (3, .int (x3)), (4, .int (x4)), (6, .int (x6)), (7, .int (x7)), (8, .int (x8)), (9, .int (x9)), (10, .int (x10))]) hx hb dX11_shorten_365 hl (by decide) rfl (fun ls hl => ?_)
            obtain ⟨x6_6, ex6_6⟩ : ∃ y : Int32, y = (x6) + (1 : Int32) := ⟨_, rfl⟩
            replace hF := bnd_of hF ex6_6
            refine lv_iinc (v := x6_6) (lv' := [(6, .int (x6_6)), (5, .int (r5)), (0, .ref (am 0)), (1, .int (x1)), (3, .int (x3)), (4, .int (x4)), (7, .int (x7)), (8, .int (x8)), (9, .int (x9)), (10, .int (x10))]) hx hb dX11_shorten_367 hl (k := 5) rfl (by rw [ex6_6]; rfl) (by decide) rfl (fun ls hl => ?_)
            refine lv_goto (tgt := 176) hx hb dX11_shorten_370 (by decide) ?_
            exact ih176 (x1) (x3) (x4) (r5) (x6_6) _ _ _ _ _ hF (lv_sub hl [2, 3, 4, 5, 1, 0] rfl) hP hS
          · replace hF := br_no hF hc1
            refine lv_aload_n hx hb dX11_shorten_324 rfl (lv_at hl 0 rfl) ?_
            refine mg_39 hx hb hT hown hK hP mw6_19 dX11_shorten_325 ?_
            refine lv_iload hx hb dX11_shorten_328 (lv_at hl 7 rfl) ?_
            refine lv_iconst (v := (1 : Int32)) hx hb dX11_shorten_330 (by decide) ?_
            refine lv_iadd hx hb dX11_shorten_331 ?_
            refine lv_iload hx hb dX11_shorten_332 (lv_at hl 8 rfl) ?_
            refine lv_iadd hx hb dX11_shorten_334 ?_
            refine lv_bipush (v := (48 : Int32)) hx hb dX11_shorten_335 (by decide) ?_
            refine lv_iload hx hb dX11_shorten_337 (lv_at hl 4 rfl) ?_
            refine lv_iload hx hb dX11_shorten_339 (lv_at hl 6 rfl) ?_
            replace hF := gd_of hF
            obtain ⟨hz7, hF⟩ := hF
            refine lv_idiv hx hb dX11_shorten_341 hz7 ?_
            refine lv_bipush (v := (10 : Int32)) hx hb dX11_shorten_342 (by decide) ?_
            refine lv_irem hx hb dX11_shorten_344 (by decide) ?_
            refine lv_iadd hx hb dX11_shorten_345 ?_
            replace hF := gd_of hF
            obtain ⟨hi8, hF⟩ := hF
            obtain ⟨ar9, ear9⟩ : ∃ y : AR, y = va_up ar 39 (upd (ar 39) (((x9) + (1 : Int32)) + (x10)).toNatClampNeg ((48 : Int32) + (((x6) / (x8)) - ((x6) / (x8)) / (10 : Int32) * (10 : Int32)))) := ⟨_, rfl⟩
            replace hF := bnd_of hF ear9
            refine ms_39 hx hb hK hP hD hS hi8 dX11_shorten_346 (fun H locs hP hS => ?_)
            rw [← ear9] at hP
            refine lv_iload hx hb dX11_shorten_347 (lv_at hl 6 rfl) ?_
            refine lv_bipush (v := (10 : Int32)) hx hb dX11_shorten_349 (by decide) ?_
            refine lv_idiv hx hb dX11_shorten_351 (by decide) ?_
            obtain ⟨x8_10, ex8_10⟩ : ∃ y : Int32, y = ((x8) / (10 : Int32)) := ⟨_, rfl⟩
            rw [← ex8_10]
            replace hF := bnd_of hF ex8_10
            refine lv_istore (lv' := [(8, .int (x8_10)), (0, .ref (am 0)), (1, .int (x1)), (3, .int (x3)), (4, .int (x4)), (6, .int (x6)), (7, .int (x7)), (9, .int (x9)), (10, .int (x10))]) hx hb dX11_shorten_352 hl (by decide) rfl (fun ls hl => ?_)
            obtain ⟨x10_11, ex10_11⟩ : ∃ y : Int32, y = (x10) + (1 : Int32) := ⟨_, rfl⟩
            replace hF := bnd_of hF ex10_11
            refine lv_iinc (v := x10_11) (lv' := [(10, .int (x10_11)), (8, .int (x8_10)), (0, .ref (am 0)), (1, .int (x1)), (3, .int (x3)), (4, .int (x4)), (6, .int (x6)), (7, .int (x7)), (9, .int (x9))]) hx hb dX11_shorten_354 hl (k := 8) rfl (by rw [ex10_11]; rfl) (by decide) rfl (fun ls hl => ?_)
            refine lv_goto (tgt := 317) hx hb dX11_shorten_357 (by decide) ?_
            exact ih317 (x1) (x3) (x4) (x6) (x7) (x8_10) (x9) (x10_11) _ _ _ _ _ hF (lv_sub hl [2, 3, 4, 5, 6, 7, 1, 8, 0] rfl) hP hS
      have L233 : ∀ kf : Nat, ∀ (x1 : Int32) (x3 : Int32) (x4 : Int32) (x6 : Int32) (x7 : Int32) (x8 : Int32) (x9 : Int32) (x10 : Int32) (fi : FI) (ar : AR) (H : Heap) (locs : List Loc) (ls : Array Slot), M_shorten_233 K176 nf kf x1 x3 x4 x6 x7 x8 x9 x10 fi ar = some (r, fi', ar') → lv_has ls 11 [(0, .ref (am 0)), (1, .int x1), (3, .int x3), (4, .int x4), (6, .int x6), (7, .int x7), (8, .int x8), (9, .int x9), (10, .int x10)] → va_P (gD g) vwCl (WM g am fi ar) H → va_S (AM am s.heap.size) s.heap H locs → W p l e (headSpec (wx yX11_shorten cX11_shorten 11 none) ({ frames := 6, cells := 0, slots := 0, locals := 132 } : Room)).room s m ([.ref (am 0), .int p1] : List Value).toArray below meth c H locs 0 0 (MQ below (QMv g am s.heap.size r fi' ar') ([.ref (am 0), .int p1] : List Value).toArray s 0 0 (AM am s.heap.size)) (F0 m 233 ls []) := by
        intro kf
        induction kf with
        | zero => intro x1 x3 x4 x6 x7 x8 x9 x10 fi ar H locs ls hF hl hP hS; cases (show (none : Option (Unit × FI × AR)) = _ from hF)
        | succ kf ih233 =>
          intro x1 x3 x4 x6 x7 x8 x9 x10 fi ar H locs ls hF hl hP hS
          obtain ⟨K233, hK233⟩ : ∃ K : Int32 → Int32 → Int32 → Int32 → Int32 → Int32 → Int32 → Int32 → FI → AR → Option (Unit × FI × AR), K = M_shorten_233 K176 nf kf := ⟨_, rfl⟩
          replace hF : M_shorten_233b K233 K176 nf x1 x3 x4 x6 x7 x8 x9 x10 fi ar = some (r, fi', ar') := by rw [hK233]; exact hF
          rw [← hK233] at ih233
          clear hK233
          have J307 : ∀ (x1 : Int32) (x3 : Int32) (x4 : Int32) (x6 : Int32) (x7 : Int32) (x8 : Int32) (x9 : Int32) (x10 : Int32) (t1 : Int32) (t2 : Int32) (fi : FI) (ar : AR) (H : Heap) (locs : List Loc) (ls : Array Slot), M_shorten_307 K176 K233 nf x1 x3 x4 x6 x7 x8 x9 x10 t1 t2 fi ar = some (r, fi', ar') → lv_has ls 11 [(0, .ref (am 0)), (1, .int x1), (3, .int x3), (4, .int x4), (6, .int x6), (7, .int x7), (8, .int x8), (9, .int x9), (10, .int x10)] → va_P (gD g) vwCl (WM g am fi ar) H → va_S (AM am s.heap.size) s.heap H locs → W p l e (headSpec (wx yX11_shorten cX11_shorten 11 none) ({ frames := 6, cells := 0, slots := 0, locals := 132 } : Room)).room s m ([.ref (am 0), .int p1] : List Value).toArray below meth c H locs 0 0 (MQ below (QMv g am s.heap.size r fi' ar') ([.ref (am 0), .int p1] : List Value).toArray s 0 0 (AM am s.heap.size)) (F0 m 307 ls [.int t2, .int t1, .ref (am 39)]) := by
            intro x1 x3 x4 x6 x7 x8 x9 x10 t1 t2 fi ar H locs ls hF hl hP hS
            unfold M_shorten_307 at hF
            replace hF := gd_of hF
            obtain ⟨hi12, hF⟩ := hF
            obtain ⟨ar13, ear13⟩ : ∃ y : AR, y = va_up ar 39 (upd (ar 39) (t1).toNatClampNeg (t2)) := ⟨_, rfl⟩
            replace hF := bnd_of hF ear13
            refine ms_39 hx hb hK hP hD hS hi12 dX11_shorten_307 (fun H locs hP hS => ?_)
            rw [← ear13] at hP
            obtain ⟨x10_14, ex10_14⟩ : ∃ y : Int32, y = (x10) + (1 : Int32) := ⟨_, rfl⟩
            replace hF := bnd_of hF ex10_14
            refine lv_iinc (v := x10_14) (lv' := [(10, .int (x10_14)), (0, .ref (am 0)), (1, .int (x1)), (3, .int (x3)), (4, .int (x4)), (6, .int (x6)), (7, .int (x7)), (8, .int (x8)), (9, .int (x9))]) hx hb dX11_shorten_308 hl (k := 8) rfl (by rw [ex10_14]; rfl) (by decide) rfl (fun ls hl => ?_)
            refine lv_goto (tgt := 233) hx hb dX11_shorten_311 (by decide) ?_
            exact ih233 (x1) (x3) (x4) (x6) (x7) (x8) (x9) (x10_14) _ _ _ _ _ hF (lv_sub hl [1, 2, 3, 4, 5, 6, 7, 8, 0] rfl) hP hS
          have J305 : ∀ (x1 : Int32) (x3 : Int32) (x4 : Int32) (x6 : Int32) (x7 : Int32) (x8 : Int32) (x9 : Int32) (x10 : Int32) (t1 : Int32) (fi : FI) (ar : AR) (H : Heap) (locs : List Loc) (ls : Array Slot), M_shorten_305 K176 K233 nf x1 x3 x4 x6 x7 x8 x9 x10 t1 fi ar = some (r, fi', ar') → lv_has ls 11 [(0, .ref (am 0)), (1, .int x1), (3, .int x3), (4, .int x4), (6, .int x6), (7, .int x7), (8, .int x8), (9, .int x9), (10, .int x10)] → va_P (gD g) vwCl (WM g am fi ar) H → va_S (AM am s.heap.size) s.heap H locs → W p l e (headSpec (wx yX11_shorten cX11_shorten 11 none) ({ frames := 6, cells := 0, slots := 0, locals := 132 } : Room)).room s m ([.ref (am 0), .int p1] : List Value).toArray below meth c H locs 0 0 (MQ below (QMv g am s.heap.size r fi' ar') ([.ref (am 0), .int p1] : List Value).toArray s 0 0 (AM am s.heap.size)) (F0 m 305 ls [.int t1, .ref (am 39)]) := by
            intro x1 x3 x4 x6 x7 x8 x9 x10 t1 fi ar H locs ls hF hl hP hS
            unfold M_shorten_305 at hF
            refine lv_bipush (v := (32 : Int32)) hx hb dX11_shorten_305 (by decide) ?_
            exact J307 (x1) (x3) (x4) (x6) (x7) (x8) (x9) (x10) (t1) (32 : Int32) _ _ _ _ _ hF (lv_sub hl [0, 1, 2, 3, 4, 5, 6, 7, 8] rfl) hP hS
          unfold M_shorten_233b at hF
          refine lv_iload hx hb dX11_shorten_233 (lv_at hl 8 rfl) ?_
          refine lv_bipush (v := (11 : Int32)) hx hb dX11_shorten_235 (by decide) ?_
          refine lv_icmp_ge (tgt := 314) hx hb dX11_shorten_237 (by decide) (fun hc15 => ?_) (fun hc15 => ?_)
          · replace hF := br_yes hF hc15
            refine lv_iconst (v := (0 : Int32)) hx hb dX11_shorten_314 (by decide) ?_
            refine lv_istore (lv' := [(10, .int (0 : Int32)), (0, .ref (am 0)), (1, .int (x1)), (3, .int (x3)), (4, .int (x4)), (6, .int (x6)), (7, .int (x7)), (8, .int (x8)), (9, .int (x9))]) hx hb dX11_shorten_315 hl (by decide) rfl (fun ls hl => ?_)
            exact L317 nf (x1) (x3) (x4) (x6) (x7) (x8) (x9) (0 : Int32) _ _ _ _ _ hF (lv_sub hl [1, 2, 3, 4, 5, 6, 7, 8, 0] rfl) hP hS
          · replace hF := br_no hF hc15
            refine lv_aload_n hx hb dX11_shorten_240 rfl (lv_at hl 0 rfl) ?_
            refine mg_39 hx hb hT hown hK hP mw6_19 dX11_shorten_241 ?_
            refine lv_iload hx hb dX11_shorten_244 (lv_at hl 8 rfl) ?_
            refine lv_iload hx hb dX11_shorten_246 (lv_at hl 8 rfl) ?_
            refine lv_iload hx hb dX11_shorten_248 (lv_at hl 7 rfl) ?_
            refine lv_icmp_ge (tgt := 263) hx hb dX11_shorten_250 (by decide) (fun hc16 => ?_) (fun hc16 => ?_)
            · replace hF := br_yes hF hc16
              refine lv_iload hx hb dX11_shorten_263 (lv_at hl 8 rfl) ?_
              refine lv_iload hx hb dX11_shorten_265 (lv_at hl 7 rfl) ?_
              refine lv_icmp_ne (tgt := 275) hx hb dX11_shorten_267 (by decide) (fun hc17 => ?_) (fun hc17 => ?_)
              · replace hF := br_no hF hc17
                refine lv_iload hx hb dX11_shorten_275 (lv_at hl 8 rfl) ?_
                refine lv_bipush (v := (7 : Int32)) hx hb dX11_shorten_277 (by decide) ?_
                refine lv_icmp_le (tgt := 305) hx hb dX11_shorten_279 (by decide) (fun hc18 => ?_) (fun hc18 => ?_)
                · replace hF := br_yes hF hc18
                  exact J305 (x1) (x3) (x4) (x6) (x7) (x8) (x9) (x10) (x10) _ _ _ _ _ hF (lv_sub hl [0, 1, 2, 3, 4, 5, 6, 7, 8] rfl) hP hS
                · replace hF := br_no hF hc18
                  refine lv_iload hx hb dX11_shorten_282 (lv_at hl 8 rfl) ?_
                  refine lv_bipush (v := (8 : Int32)) hx hb dX11_shorten_284 (by decide) ?_
                  refine lv_isub hx hb dX11_shorten_286 ?_
                  refine lv_iload hx hb dX11_shorten_287 (lv_at hl 3 rfl) ?_
                  refine lv_icmp_ge (tgt := 305) hx hb dX11_shorten_289 (by decide) (fun hc19 => ?_) (fun hc19 => ?_)
                  · replace hF := br_yes hF hc19
                    exact J305 (x1) (x3) (x4) (x6) (x7) (x8) (x9) (x10) (x10) _ _ _ _ _ hF (lv_sub hl [0, 1, 2, 3, 4, 5, 6, 7, 8] rfl) hP hS
                  · replace hF := br_no hF hc19
                    refine lv_aload_n hx hb dX11_shorten_292 rfl (lv_at hl 0 rfl) ?_
                    refine mg_41 hx hb hT hown hK hP mw6_21 dX11_shorten_293 ?_
                    refine lv_iload hx hb dX11_shorten_296 (lv_at hl 8 rfl) ?_
                    refine lv_bipush (v := (8 : Int32)) hx hb dX11_shorten_298 (by decide) ?_
                    refine lv_isub hx hb dX11_shorten_300 ?_
                    replace hF := gd_of hF
                    obtain ⟨hi20, hF⟩ := hF
                    refine ml_41 hx hb hK hP hi20 dX11_shorten_301 ?_
                    refine lv_goto (tgt := 307) hx hb dX11_shorten_302 (by decide) ?_
                    exact J307 (x1) (x3) (x4) (x6) (x7) (x8) (x9) (x10) (x10) (ar 41 ((x10) - (8 : Int32)).toNatClampNeg) _ _ _ _ _ hF (lv_sub hl [0, 1, 2, 3, 4, 5, 6, 7, 8] rfl) hP hS
              · replace hF := br_yes hF hc17
                refine lv_bipush (v := (126 : Int32)) hx hb dX11_shorten_270 (by decide) ?_
                refine lv_goto (tgt := 307) hx hb dX11_shorten_272 (by decide) ?_
                exact J307 (x1) (x3) (x4) (x6) (x7) (x8) (x9) (x10) (x10) (126 : Int32) _ _ _ _ _ hF (lv_sub hl [0, 1, 2, 3, 4, 5, 6, 7, 8] rfl) hP hS
            · replace hF := br_no hF hc16
              refine lv_aload_n hx hb dX11_shorten_253 rfl (lv_at hl 0 rfl) ?_
              refine mg_40 hx hb hT hown hK hP mw6_20 dX11_shorten_254 ?_
              refine lv_iload hx hb dX11_shorten_257 (lv_at hl 8 rfl) ?_
              replace hF := gd_of hF
              obtain ⟨hi21, hF⟩ := hF
              refine ml_40 hx hb hK hP hi21 dX11_shorten_259 ?_
              refine lv_goto (tgt := 307) hx hb dX11_shorten_260 (by decide) ?_
              exact J307 (x1) (x3) (x4) (x6) (x7) (x8) (x9) (x10) (x10) (ar 40 (x10).toNatClampNeg) _ _ _ _ _ hF (lv_sub hl [0, 1, 2, 3, 4, 5, 6, 7, 8] rfl) hP hS
      have J228 : ∀ (x1 : Int32) (x3 : Int32) (x4 : Int32) (x6 : Int32) (x7 : Int32) (x8 : Int32) (t0 : Int32) (fi : FI) (ar : AR) (H : Heap) (locs : List Loc) (ls : Array Slot), M_shorten_228 K176 nf x1 x3 x4 x6 x7 x8 t0 fi ar = some (r, fi', ar') → lv_has ls 11 [(0, .ref (am 0)), (1, .int x1), (3, .int x3), (4, .int x4), (6, .int x6), (7, .int x7), (8, .int x8)] → va_P (gD g) vwCl (WM g am fi ar) H → va_S (AM am s.heap.size) s.heap H locs → W p l e (headSpec (wx yX11_shorten cX11_shorten 11 none) ({ frames := 6, cells := 0, slots := 0, locals := 132 } : Room)).room s m ([.ref (am 0), .int p1] : List Value).toArray below meth c H locs 0 0 (MQ below (QMv g am s.heap.size r fi' ar') ([.ref (am 0), .int p1] : List Value).toArray s 0 0 (AM am s.heap.size)) (F0 m 228 ls [.int t0]) := by
        intro x1 x3 x4 x6 x7 x8 t0 fi ar H locs ls hF hl hP hS
        unfold M_shorten_228 at hF
        refine lv_istore (lv' := [(9, .int (t0)), (0, .ref (am 0)), (1, .int (x1)), (3, .int (x3)), (4, .int (x4)), (6, .int (x6)), (7, .int (x7)), (8, .int (x8))]) hx hb dX11_shorten_228 hl (by decide) rfl (fun ls hl => ?_)
        refine lv_iconst (v := (0 : Int32)) hx hb dX11_shorten_230 (by decide) ?_
        refine lv_istore (lv' := [(10, .int (0 : Int32)), (9, .int (t0)), (0, .ref (am 0)), (1, .int (x1)), (3, .int (x3)), (4, .int (x4)), (6, .int (x6)), (7, .int (x7)), (8, .int (x8))]) hx hb dX11_shorten_231 hl (by decide) rfl (fun ls hl => ?_)
        exact L233 nf (x1) (x3) (x4) (x6) (x7) (x8) (t0) (0 : Int32) _ _ _ _ _ hF (lv_sub hl [2, 3, 4, 5, 6, 7, 8, 1, 0] rfl) hP hS
      have L187 : ∀ kf : Nat, ∀ (x1 : Int32) (x3 : Int32) (x4 : Int32) (x6 : Int32) (x7 : Int32) (x8 : Int32) (fi : FI) (ar : AR) (H : Heap) (locs : List Loc) (ls : Array Slot), M_shorten_187 K176 nf kf x1 x3 x4 x6 x7 x8 fi ar = some (r, fi', ar') → lv_has ls 11 [(0, .ref (am 0)), (1, .int x1), (3, .int x3), (4, .int x4), (6, .int x6), (7, .int x7), (8, .int x8)] → va_P (gD g) vwCl (WM g am fi ar) H → va_S (AM am s.heap.size) s.heap H locs → W p l e (headSpec (wx yX11_shorten cX11_shorten 11 none) ({ frames := 6, cells := 0, slots := 0, locals := 132 } : Room)).room s m ([.ref (am 0), .int p1] : List Value).toArray below meth c H locs 0 0 (MQ below (QMv g am s.heap.size r fi' ar') ([.ref (am 0), .int p1] : List Value).toArray s 0 0 (AM am s.heap.size)) (F0 m 187 ls []) := by
        intro kf
        induction kf with
        | zero => intro x1 x3 x4 x6 x7 x8 fi ar H locs ls hF hl hP hS; cases (show (none : Option (Unit × FI × AR)) = _ from hF)
        | succ kf ih187 =>
          intro x1 x3 x4 x6 x7 x8 fi ar H locs ls hF hl hP hS
          obtain ⟨K187, hK187⟩ : ∃ K : Int32 → Int32 → Int32 → Int32 → Int32 → Int32 → FI → AR → Option (Unit × FI × AR), K = M_shorten_187 K176 nf kf := ⟨_, rfl⟩
          replace hF : M_shorten_187b K187 K176 nf x1 x3 x4 x6 x7 x8 fi ar = some (r, fi', ar') := by rw [hK187]; exact hF
          rw [← hK187] at ih187
          clear hK187
          unfold M_shorten_187b at hF
          refine lv_iload hx hb dX11_shorten_187 (lv_at hl 4 rfl) ?_
          refine lv_iload hx hb dX11_shorten_189 (lv_at hl 6 rfl) ?_
          replace hF := gd_of hF
          obtain ⟨hz22, hF⟩ := hF
          refine lv_idiv hx hb dX11_shorten_191 hz22 ?_
          refine lv_bipush (v := (9 : Int32)) hx hb dX11_shorten_192 (by decide) ?_
          refine lv_icmp_le (tgt := 210) hx hb dX11_shorten_194 (by decide) (fun hc23 => ?_) (fun hc23 => ?_)
          · replace hF := br_yes hF hc23
            refine lv_iload_n hx hb dX11_shorten_210 rfl (lv_at hl 2 rfl) ?_
            refine lv_bipush (v := (7 : Int32)) hx hb dX11_shorten_211 (by decide) ?_
            refine lv_iload hx hb dX11_shorten_213 (lv_at hl 5 rfl) ?_
            refine lv_isub hx hb dX11_shorten_215 ?_
            refine lv_icmp_ge (tgt := 223) hx hb dX11_shorten_216 (by decide) (fun hc24 => ?_) (fun hc24 => ?_)
            · replace hF := br_yes hF hc24
              refine lv_bipush (v := (7 : Int32)) hx hb dX11_shorten_223 (by decide) ?_
              refine lv_iload hx hb dX11_shorten_225 (lv_at hl 5 rfl) ?_
              refine lv_isub hx hb dX11_shorten_227 ?_
              exact J228 (x1) (x3) (x4) (x6) (x7) (x8) ((7 : Int32) - (x7)) _ _ _ _ _ hF (lv_sub hl [0, 1, 2, 3, 4, 5, 6] rfl) hP hS
            · replace hF := br_no hF hc24
              refine lv_iload_n hx hb dX11_shorten_219 rfl (lv_at hl 2 rfl) ?_
              refine lv_goto (tgt := 228) hx hb dX11_shorten_220 (by decide) ?_
              exact J228 (x1) (x3) (x4) (x6) (x7) (x8) (x3) _ _ _ _ _ hF (lv_sub hl [0, 1, 2, 3, 4, 5, 6] rfl) hP hS
          · replace hF := br_no hF hc23
            refine lv_iload hx hb dX11_shorten_197 (lv_at hl 6 rfl) ?_
            refine lv_bipush (v := (10 : Int32)) hx hb dX11_shorten_199 (by decide) ?_
            refine lv_imul hx hb dX11_shorten_201 ?_
            obtain ⟨x8_25, ex8_25⟩ : ∃ y : Int32, y = ((x8) * (10 : Int32)) := ⟨_, rfl⟩
            rw [← ex8_25]
            replace hF := bnd_of hF ex8_25
            refine lv_istore (lv' := [(8, .int (x8_25)), (0, .ref (am 0)), (1, .int (x1)), (3, .int (x3)), (4, .int (x4)), (6, .int (x6)), (7, .int (x7))]) hx hb dX11_shorten_202 hl (by decide) rfl (fun ls hl => ?_)
            obtain ⟨x7_26, ex7_26⟩ : ∃ y : Int32, y = (x7) + (1 : Int32) := ⟨_, rfl⟩
            replace hF := bnd_of hF ex7_26
            refine lv_iinc (v := x7_26) (lv' := [(7, .int (x7_26)), (8, .int (x8_25)), (0, .ref (am 0)), (1, .int (x1)), (3, .int (x3)), (4, .int (x4)), (6, .int (x6))]) hx hb dX11_shorten_204 hl (k := 6) rfl (by rw [ex7_26]; rfl) (by decide) rfl (fun ls hl => ?_)
            refine lv_goto (tgt := 187) hx hb dX11_shorten_207 (by decide) ?_
            exact ih187 (x1) (x3) (x4) (x6) (x7_26) (x8_25) _ _ _ _ _ hF (lv_sub hl [2, 3, 4, 5, 6, 0, 1] rfl) hP hS
      unfold M_shorten_176b at hF
      refine lv_iload hx hb dX11_shorten_176 (lv_at hl 4 rfl) ?_
      refine lv_if_eq (tgt := 373) hx hb dX11_shorten_178 (by decide) (fun hc27 => ?_) (fun hc27 => ?_)
      · replace hF := br_yes hF hc27
        exact rM_v hx hb hr hlocks hF hP hS dX11_shorten_373
      · replace hF := br_no hF hc27
        refine lv_iconst (v := (1 : Int32)) hx hb dX11_shorten_181 (by decide) ?_
        refine lv_istore (lv' := [(7, .int (1 : Int32)), (0, .ref (am 0)), (1, .int (x1)), (3, .int (x3)), (4, .int (x4)), (5, .int (x5)), (6, .int (x6))]) hx hb dX11_shorten_182 hl (by decide) rfl (fun ls hl => ?_)
        refine lv_iconst (v := (1 : Int32)) hx hb dX11_shorten_184 (by decide) ?_
        refine lv_istore (lv' := [(8, .int (1 : Int32)), (7, .int (1 : Int32)), (0, .ref (am 0)), (1, .int (x1)), (3, .int (x3)), (4, .int (x4)), (5, .int (x5)), (6, .int (x6))]) hx hb dX11_shorten_185 hl (by decide) rfl (fun ls hl => ?_)
        exact L187 nf (x1) (x3) (x4) (x6) (1 : Int32) (1 : Int32) _ _ _ _ _ hF (lv_sub hl [2, 3, 4, 5, 7, 1, 0] rfl) hP hS
  have J170 : ∀ (x1 : Int32) (x3 : Int32) (x4 : Int32) (fi : FI) (ar : AR) (H : Heap) (locs : List Loc) (ls : Array Slot), M_shorten_170 nf x1 x3 x4 fi ar = some (r, fi', ar') → lv_has ls 11 [(0, .ref (am 0)), (1, .int x1), (3, .int x3), (4, .int x4)] → va_P (gD g) vwCl (WM g am fi ar) H → va_S (AM am s.heap.size) s.heap H locs → W p l e (headSpec (wx yX11_shorten cX11_shorten 11 none) ({ frames := 6, cells := 0, slots := 0, locals := 132 } : Room)).room s m ([.ref (am 0), .int p1] : List Value).toArray below meth c H locs 0 0 (MQ below (QMv g am s.heap.size r fi' ar') ([.ref (am 0), .int p1] : List Value).toArray s 0 0 (AM am s.heap.size)) (F0 m 170 ls []) := by
    intro x1 x3 x4 fi ar H locs ls hF hl hP hS
    unfold M_shorten_170 at hF
    refine lv_iconst (v := (1 : Int32)) hx hb dX11_shorten_170 (by decide) ?_
    refine lv_istore (lv' := [(5, .int (1 : Int32)), (0, .ref (am 0)), (1, .int (x1)), (3, .int (x3)), (4, .int (x4))]) hx hb dX11_shorten_171 hl (by decide) rfl (fun ls hl => ?_)
    refine lv_iconst (v := (1 : Int32)) hx hb dX11_shorten_173 (by decide) ?_
    refine lv_istore (lv' := [(6, .int (1 : Int32)), (5, .int (1 : Int32)), (0, .ref (am 0)), (1, .int (x1)), (3, .int (x3)), (4, .int (x4))]) hx hb dX11_shorten_174 hl (by decide) rfl (fun ls hl => ?_)
    exact L176 nf (x1) (x3) (x4) (1 : Int32) (1 : Int32) _ _ _ _ _ hF (lv_sub hl [2, 3, 4, 5, 1, 0] rfl) hP hS
  have L110 : ∀ kf : Nat, ∀ (x1 : Int32) (x2 : Int32) (x3 : Int32) (x4 : Int32) (x5 : Int32) (fi : FI) (ar : AR) (H : Heap) (locs : List Loc) (ls : Array Slot), M_shorten_110 nf kf x1 x2 x3 x4 x5 fi ar = some (r, fi', ar') → lv_has ls 11 [(0, .ref (am 0)), (1, .int x1), (2, .int x2), (3, .int x3), (4, .int x4), (5, .int x5)] → va_P (gD g) vwCl (WM g am fi ar) H → va_S (AM am s.heap.size) s.heap H locs → W p l e (headSpec (wx yX11_shorten cX11_shorten 11 none) ({ frames := 6, cells := 0, slots := 0, locals := 132 } : Room)).room s m ([.ref (am 0), .int p1] : List Value).toArray below meth c H locs 0 0 (MQ below (QMv g am s.heap.size r fi' ar') ([.ref (am 0), .int p1] : List Value).toArray s 0 0 (AM am s.heap.size)) (F0 m 110 ls []) := by
    intro kf
    induction kf with
    | zero => intro x1 x2 x3 x4 x5 fi ar H locs ls hF hl hP hS; cases (show (none : Option (Unit × FI × AR)) = _ from hF)
    | succ kf ih110 =>
      intro x1 x2 x3 x4 x5 fi ar H locs ls hF hl hP hS
      obtain ⟨K110, hK110⟩ : ∃ K : Int32 → Int32 → Int32 → Int32 → Int32 → FI → AR → Option (Unit × FI × AR), K = M_shorten_110 nf kf := ⟨_, rfl⟩
      replace hF : M_shorten_110b K110 nf x1 x2 x3 x4 x5 fi ar = some (r, fi', ar') := by rw [hK110]; exact hF
      rw [← hK110] at ih110
      clear hK110
      have J164 : ∀ (x1 : Int32) (x2 : Int32) (x3 : Int32) (x4 : Int32) (x5 : Int32) (fi : FI) (ar : AR) (H : Heap) (locs : List Loc) (ls : Array Slot), M_shorten_164 K110 nf x1 x2 x3 x4 x5 fi ar = some (r, fi', ar') → lv_has ls 11 [(0, .ref (am 0)), (1, .int x1), (2, .int x2), (3, .int x3), (4, .int x4), (5, .int x5)] → va_P (gD g) vwCl (WM g am fi ar) H → va_S (AM am s.heap.size) s.heap H locs → W p l e (headSpec (wx yX11_shorten cX11_shorten 11 none) ({ frames := 6, cells := 0, slots := 0, locals := 132 } : Room)).room s m ([.ref (am 0), .int p1] : List Value).toArray below meth c H locs 0 0 (MQ below (QMv g am s.heap.size r fi' ar') ([.ref (am 0), .int p1] : List Value).toArray s 0 0 (AM am s.heap.size)) (F0 m 164 ls []) := by
        intro x1 x2 x3 x4 x5 fi ar H locs ls hF hl hP hS
        unfold M_shorten_164 at hF
        obtain ⟨x5_28, ex5_28⟩ : ∃ y : Int32, y = (x5) + (1 : Int32) := ⟨_, rfl⟩
        replace hF := bnd_of hF ex5_28
        refine lv_iinc (v := x5_28) (lv' := [(5, .int (x5_28)), (0, .ref (am 0)), (1, .int (x1)), (2, .int (x2)), (3, .int (x3)), (4, .int (x4))]) hx hb dX11_shorten_164 hl (k := 5) rfl (by rw [ex5_28]; rfl) (by decide) rfl (fun ls hl => ?_)
        refine lv_goto (tgt := 110) hx hb dX11_shorten_167 (by decide) ?_
        exact ih110 (x1) (x2) (x3) (x4) (x5_28) _ _ _ _ _ hF (lv_sub hl [1, 2, 3, 4, 5, 0] rfl) hP hS
      unfold M_shorten_110b at hF
      refine lv_iload_n hx hb dX11_shorten_110 rfl (lv_at hl 2 rfl) ?_
      refine lv_if_le (tgt := 170) hx hb dX11_shorten_111 (by decide) (fun hc29 => ?_) (fun hc29 => ?_)
      · replace hF := br_yes hF hc29
        exact J170 (x1) (x3) (x4) _ _ _ _ _ hF (lv_sub hl [0, 1, 3, 4] rfl) hP hS
      · replace hF := br_no hF hc29
        refine lv_iload hx hb dX11_shorten_114 (lv_at hl 5 rfl) ?_
        refine lv_aload_n hx hb dX11_shorten_116 rfl (lv_at hl 0 rfl) ?_
        refine mg_35 hx hb hT hown hK hP mw33_9 dX11_shorten_117 ?_
        refine lv_icmp_ge (tgt := 170) hx hb dX11_shorten_120 (by decide) (fun hc30 => ?_) (fun hc30 => ?_)
        · replace hF := br_yes hF hc30
          exact J170 (x1) (x3) (x4) _ _ _ _ _ hF (lv_sub hl [0, 1, 3, 4] rfl) hP hS
        · replace hF := br_no hF hc30
          refine lv_iload hx hb dX11_shorten_123 (lv_at hl 4 rfl) ?_
          refine lv_iconst (v := (3 : Int32)) hx hb dX11_shorten_125 (by decide) ?_
          refine lv_icmp_ge (tgt := 170) hx hb dX11_shorten_126 (by decide) (fun hc31 => ?_) (fun hc31 => ?_)
          · replace hF := br_yes hF hc31
            exact J170 (x1) (x3) (x4) _ _ _ _ _ hF (lv_sub hl [0, 1, 3, 4] rfl) hP hS
          · replace hF := br_no hF hc31
            refine lv_aload_n hx hb dX11_shorten_129 rfl (lv_at hl 0 rfl) ?_
            refine mg_34 hx hb hT hown hK hP mw6_18 dX11_shorten_130 ?_
            refine lv_iload hx hb dX11_shorten_133 (lv_at hl 5 rfl) ?_
            replace hF := gd_of hF
            obtain ⟨hi32, hF⟩ := hF
            refine ml_34 hx hb hK hP hi32 dX11_shorten_135 ?_
            refine lv_bipush (v := (32 : Int32)) hx hb dX11_shorten_136 (by decide) ?_
            refine lv_icmp_ne (tgt := 144) hx hb dX11_shorten_138 (by decide) (fun hc33 => ?_) (fun hc33 => ?_)
            · replace hF := br_no hF hc33
              refine lv_aload_n hx hb dX11_shorten_144 rfl (lv_at hl 0 rfl) ?_
              refine mg_41 hx hb hT hown hK hP mw6_21 dX11_shorten_145 ?_
              refine lv_iload hx hb dX11_shorten_148 (lv_at hl 4 rfl) ?_
              refine lv_aload_n hx hb dX11_shorten_150 rfl (lv_at hl 0 rfl) ?_
              refine mg_34 hx hb hT hown hK hP mw6_18 dX11_shorten_151 ?_
              refine lv_iload hx hb dX11_shorten_154 (lv_at hl 5 rfl) ?_
              replace hF := gd_of hF
              obtain ⟨hi34, hF⟩ := hF
              refine ml_34 hx hb hK hP hi34 dX11_shorten_156 ?_
              replace hF := obnd_of hF
              obtain ⟨r36, h35, hF⟩ := hF
              refine cS_i (As := [.int (ar 34 (x5).toNatClampNeg)]) (rest := [.int (x4), .ref (am 41)]) hx hb hml hT hown hE hP hS (k_plain l g nf (ar 34 (x5).toNatClampNeg) r36 h35) cw_X11_plain mw49_21 ⟨⟨rfl, rfl⟩, Nat.le_of_ble_eq_true rfl, Nat.le_of_ble_eq_true rfl⟩ rfl hl.1 rfl (Nat.le_of_ble_eq_true rfl) dX11_shorten_157 ⟨Nat.zero_le _, Nat.zero_le _⟩ (fun H locs hP hS => ?_)
              replace hF := gd_of hF
              obtain ⟨hi37, hF⟩ := hF
              obtain ⟨ar38, ear38⟩ : ∃ y : AR, y = va_up ar 41 (upd (ar 41) (x4).toNatClampNeg (r36)) := ⟨_, rfl⟩
              replace hF := bnd_of hF ear38
              refine ms_41 hx hb hK hP hD hS hi37 dX11_shorten_160 (fun H locs hP hS => ?_)
              rw [← ear38] at hP
              obtain ⟨x4_39, ex4_39⟩ : ∃ y : Int32, y = (x4) + (1 : Int32) := ⟨_, rfl⟩
              replace hF := bnd_of hF ex4_39
              refine lv_iinc (v := x4_39) (lv' := [(4, .int (x4_39)), (0, .ref (am 0)), (1, .int (x1)), (2, .int (x2)), (3, .int (x3)), (5, .int (x5))]) hx hb dX11_shorten_161 hl (k := 4) rfl (by rw [ex4_39]; rfl) (by decide) rfl (fun ls hl => ?_)
              exact J164 (x1) (x2) (x3) (x4_39) (x5) _ _ _ _ _ hF (lv_sub hl [1, 2, 3, 4, 0, 5] rfl) hP hS
            · replace hF := br_yes hF hc33
              refine lv_goto (tgt := 164) hx hb dX11_shorten_141 (by decide) ?_
              exact J164 (x1) (x2) (x3) (x4) (x5) _ _ _ _ _ hF (lv_sub hl [0, 1, 2, 3, 4, 5] rfl) hP hS
  have L36 : ∀ kf : Nat, ∀ (x1 : Int32) (x2 : Int32) (x3 : Int32) (x4 : Int32) (x5 : Int32) (fi : FI) (ar : AR) (H : Heap) (locs : List Loc) (ls : Array Slot), M_shorten_36 nf kf x1 x2 x3 x4 x5 fi ar = some (r, fi', ar') → lv_has ls 11 [(0, .ref (am 0)), (1, .int x1), (2, .int x2), (3, .int x3), (4, .int x4), (5, .int x5)] → va_P (gD g) vwCl (WM g am fi ar) H → va_S (AM am s.heap.size) s.heap H locs → W p l e (headSpec (wx yX11_shorten cX11_shorten 11 none) ({ frames := 6, cells := 0, slots := 0, locals := 132 } : Room)).room s m ([.ref (am 0), .int p1] : List Value).toArray below meth c H locs 0 0 (MQ below (QMv g am s.heap.size r fi' ar') ([.ref (am 0), .int p1] : List Value).toArray s 0 0 (AM am s.heap.size)) (F0 m 36 ls []) := by
    intro kf
    induction kf with
    | zero => intro x1 x2 x3 x4 x5 fi ar H locs ls hF hl hP hS; cases (show (none : Option (Unit × FI × AR)) = _ from hF)
    | succ kf ih36 =>
      intro x1 x2 x3 x4 x5 fi ar H locs ls hF hl hP hS
      obtain ⟨K36, hK36⟩ : ∃ K : Int32 → Int32 → Int32 → Int32 → Int32 → FI → AR → Option (Unit × FI × AR), K = M_shorten_36 nf kf := ⟨_, rfl⟩
      replace hF : M_shorten_36b K36 nf x1 x2 x3 x4 x5 fi ar = some (r, fi', ar') := by rw [hK36]; exact hF
      rw [← hK36] at ih36
      clear hK36
      have J99 : ∀ (x1 : Int32) (x2 : Int32) (x3 : Int32) (x4 : Int32) (x5 : Int32) (fi : FI) (ar : AR) (H : Heap) (locs : List Loc) (ls : Array Slot), M_shorten_99 K36 nf x1 x2 x3 x4 x5 fi ar = some (r, fi', ar') → lv_has ls 11 [(0, .ref (am 0)), (1, .int x1), (2, .int x2), (3, .int x3), (4, .int x4), (5, .int x5)] → va_P (gD g) vwCl (WM g am fi ar) H → va_S (AM am s.heap.size) s.heap H locs → W p l e (headSpec (wx yX11_shorten cX11_shorten 11 none) ({ frames := 6, cells := 0, slots := 0, locals := 132 } : Room)).room s m ([.ref (am 0), .int p1] : List Value).toArray below meth c H locs 0 0 (MQ below (QMv g am s.heap.size r fi' ar') ([.ref (am 0), .int p1] : List Value).toArray s 0 0 (AM am s.heap.size)) (F0 m 99 ls []) := by
        intro x1 x2 x3 x4 x5 fi ar H locs ls hF hl hP hS
        unfold M_shorten_99 at hF
        obtain ⟨x5_40, ex5_40⟩ : ∃ y : Int32, y = (x5) + (1 : Int32) := ⟨_, rfl⟩
        replace hF := bnd_of hF ex5_40
        refine lv_iinc (v := x5_40) (lv' := [(5, .int (x5_40)), (0, .ref (am 0)), (1, .int (x1)), (2, .int (x2)), (3, .int (x3)), (4, .int (x4))]) hx hb dX11_shorten_99 hl (k := 5) rfl (by rw [ex5_40]; rfl) (by decide) rfl (fun ls hl => ?_)
        refine lv_goto (tgt := 36) hx hb dX11_shorten_102 (by decide) ?_
        exact ih36 (x1) (x2) (x3) (x4) (x5_40) _ _ _ _ _ hF (lv_sub hl [1, 2, 3, 4, 5, 0] rfl) hP hS
      have J50 : ∀ (x1 : Int32) (x2 : Int32) (x3 : Int32) (x4 : Int32) (x5 : Int32) (t0 : Int32) (t1 : Int32) (fi : FI) (ar : AR) (H : Heap) (locs : List Loc) (ls : Array Slot), M_shorten_50 K36 nf x1 x2 x3 x4 x5 t0 t1 fi ar = some (r, fi', ar') → lv_has ls 11 [(0, .ref (am 0)), (1, .int x1), (2, .int x2), (3, .int x3), (4, .int x4), (5, .int x5)] → va_P (gD g) vwCl (WM g am fi ar) H → va_S (AM am s.heap.size) s.heap H locs → W p l e (headSpec (wx yX11_shorten cX11_shorten 11 none) ({ frames := 6, cells := 0, slots := 0, locals := 132 } : Room)).room s m ([.ref (am 0), .int p1] : List Value).toArray below meth c H locs 0 0 (MQ below (QMv g am s.heap.size r fi' ar') ([.ref (am 0), .int p1] : List Value).toArray s 0 0 (AM am s.heap.size)) (F0 m 50 ls [.int t1, .int t0]) := by
        intro x1 x2 x3 x4 x5 t0 t1 fi ar H locs ls hF hl hP hS
        unfold M_shorten_50 at hF
        refine lv_icmp_ge (tgt := 105) hx hb dX11_shorten_50 (by decide) (fun hc41 => ?_) (fun hc41 => ?_)
        · replace hF := br_yes hF hc41
          refine lv_iload_n hx hb dX11_shorten_105 rfl (lv_at hl 2 rfl) ?_
          refine lv_iconst (v := (1 : Int32)) hx hb dX11_shorten_106 (by decide) ?_
          refine lv_iadd hx hb dX11_shorten_107 ?_
          obtain ⟨x5_42, ex5_42⟩ : ∃ y : Int32, y = ((x2) + (1 : Int32)) := ⟨_, rfl⟩
          rw [← ex5_42]
          replace hF := bnd_of hF ex5_42
          refine lv_istore (lv' := [(5, .int (x5_42)), (0, .ref (am 0)), (1, .int (x1)), (2, .int (x2)), (3, .int (x3)), (4, .int (x4))]) hx hb dX11_shorten_108 hl (by decide) rfl (fun ls hl => ?_)
          exact L110 nf (x1) (x2) (x3) (x4) (x5_42) _ _ _ _ _ hF (lv_sub hl [1, 2, 3, 4, 5, 0] rfl) hP hS
        · replace hF := br_no hF hc41
          refine lv_aload_n hx hb dX11_shorten_53 rfl (lv_at hl 0 rfl) ?_
          refine mg_34 hx hb hT hown hK hP mw6_18 dX11_shorten_54 ?_
          refine lv_iload hx hb dX11_shorten_57 (lv_at hl 5 rfl) ?_
          replace hF := gd_of hF
          obtain ⟨hi43, hF⟩ := hF
          refine ml_34 hx hb hK hP hi43 dX11_shorten_59 ?_
          refine lv_bipush (v := (32 : Int32)) hx hb dX11_shorten_60 (by decide) ?_
          refine lv_icmp_eq (tgt := 99) hx hb dX11_shorten_62 (by decide) (fun hc44 => ?_) (fun hc44 => ?_)
          · replace hF := br_yes hF hc44
            exact J99 (x1) (x2) (x3) (x4) (x5) _ _ _ _ _ hF (lv_sub hl [0, 1, 2, 3, 4, 5] rfl) hP hS
          · replace hF := br_no hF hc44
            refine lv_aload_n hx hb dX11_shorten_65 rfl (lv_at hl 0 rfl) ?_
            refine mg_34 hx hb hT hown hK hP mw6_18 dX11_shorten_66 ?_
            refine lv_iload hx hb dX11_shorten_69 (lv_at hl 5 rfl) ?_
            replace hF := gd_of hF
            obtain ⟨hi45, hF⟩ := hF
            refine ml_34 hx hb hK hP hi45 dX11_shorten_71 ?_
            refine lv_bipush (v := (46 : Int32)) hx hb dX11_shorten_72 (by decide) ?_
            refine lv_icmp_ne (tgt := 80) hx hb dX11_shorten_74 (by decide) (fun hc46 => ?_) (fun hc46 => ?_)
            · replace hF := br_no hF hc46
              refine lv_aload_n hx hb dX11_shorten_80 rfl (lv_at hl 0 rfl) ?_
              refine mg_40 hx hb hT hown hK hP mw6_20 dX11_shorten_81 ?_
              refine lv_iload_n hx hb dX11_shorten_84 rfl (lv_at hl 3 rfl) ?_
              refine lv_aload_n hx hb dX11_shorten_85 rfl (lv_at hl 0 rfl) ?_
              refine mg_34 hx hb hT hown hK hP mw6_18 dX11_shorten_86 ?_
              refine lv_iload hx hb dX11_shorten_89 (lv_at hl 5 rfl) ?_
              replace hF := gd_of hF
              obtain ⟨hi47, hF⟩ := hF
              refine ml_34 hx hb hK hP hi47 dX11_shorten_91 ?_
              replace hF := obnd_of hF
              obtain ⟨r49, h48, hF⟩ := hF
              refine cS_i (As := [.int (ar 34 (x5).toNatClampNeg)]) (rest := [.int (x3), .ref (am 40)]) hx hb hml hT hown hE hP hS (k_plain l g nf (ar 34 (x5).toNatClampNeg) r49 h48) cw_X11_plain mw49_21 ⟨⟨rfl, rfl⟩, Nat.le_of_ble_eq_true rfl, Nat.le_of_ble_eq_true rfl⟩ rfl hl.1 rfl (Nat.le_of_ble_eq_true rfl) dX11_shorten_92 ⟨Nat.zero_le _, Nat.zero_le _⟩ (fun H locs hP hS => ?_)
              replace hF := gd_of hF
              obtain ⟨hi50, hF⟩ := hF
              obtain ⟨ar51, ear51⟩ : ∃ y : AR, y = va_up ar 40 (upd (ar 40) (x3).toNatClampNeg (r49)) := ⟨_, rfl⟩
              replace hF := bnd_of hF ear51
              refine ms_40 hx hb hK hP hD hS hi50 dX11_shorten_95 (fun H locs hP hS => ?_)
              rw [← ear51] at hP
              obtain ⟨x3_52, ex3_52⟩ : ∃ y : Int32, y = (x3) + (1 : Int32) := ⟨_, rfl⟩
              replace hF := bnd_of hF ex3_52
              refine lv_iinc (v := x3_52) (lv' := [(3, .int (x3_52)), (0, .ref (am 0)), (1, .int (x1)), (2, .int (x2)), (4, .int (x4)), (5, .int (x5))]) hx hb dX11_shorten_96 hl (k := 3) rfl (by rw [ex3_52]; rfl) (by decide) rfl (fun ls hl => ?_)
              exact J99 (x1) (x2) (x3_52) (x4) (x5) _ _ _ _ _ hF (lv_sub hl [1, 2, 3, 0, 4, 5] rfl) hP hS
            · replace hF := br_yes hF hc46
              refine lv_goto (tgt := 99) hx hb dX11_shorten_77 (by decide) ?_
              exact J99 (x1) (x2) (x3) (x4) (x5) _ _ _ _ _ hF (lv_sub hl [0, 1, 2, 3, 4, 5] rfl) hP hS
      unfold M_shorten_36b at hF
      refine lv_iload hx hb dX11_shorten_36 (lv_at hl 5 rfl) ?_
      refine lv_iload_n hx hb dX11_shorten_38 rfl (lv_at hl 2 rfl) ?_
      refine lv_if_le (tgt := 46) hx hb dX11_shorten_39 (by decide) (fun hc53 => ?_) (fun hc53 => ?_)
      · replace hF := br_yes hF hc53
        refine lv_aload_n hx hb dX11_shorten_46 rfl (lv_at hl 0 rfl) ?_
        refine mg_35 hx hb hT hown hK hP mw33_9 dX11_shorten_47 ?_
        exact J50 (x1) (x2) (x3) (x4) (x5) (x5) (fi 35) _ _ _ _ _ hF (lv_sub hl [0, 1, 2, 3, 4, 5] rfl) hP hS
      · replace hF := br_no hF hc53
        refine lv_iload_n hx hb dX11_shorten_42 rfl (lv_at hl 2 rfl) ?_
        refine lv_goto (tgt := 50) hx hb dX11_shorten_43 (by decide) ?_
        exact J50 (x1) (x2) (x3) (x4) (x5) (x5) (x2) _ _ _ _ _ hF (lv_sub hl [0, 1, 2, 3, 4, 5] rfl) hP hS
  have J28 : ∀ (x1 : Int32) (x2 : Int32) (fi : FI) (ar : AR) (H : Heap) (locs : List Loc) (ls : Array Slot), M_shorten_28 nf x1 x2 fi ar = some (r, fi', ar') → lv_has ls 11 [(0, .ref (am 0)), (1, .int x1), (2, .int x2)] → va_P (gD g) vwCl (WM g am fi ar) H → va_S (AM am s.heap.size) s.heap H locs → W p l e (headSpec (wx yX11_shorten cX11_shorten 11 none) ({ frames := 6, cells := 0, slots := 0, locals := 132 } : Room)).room s m ([.ref (am 0), .int p1] : List Value).toArray below meth c H locs 0 0 (MQ below (QMv g am s.heap.size r fi' ar') ([.ref (am 0), .int p1] : List Value).toArray s 0 0 (AM am s.heap.size)) (F0 m 28 ls []) := by
    intro x1 x2 fi ar H locs ls hF hl hP hS
    unfold M_shorten_28 at hF
    refine lv_iconst (v := (0 : Int32)) hx hb dX11_shorten_28 (by decide) ?_
    refine lv_istore_n (lv' := [(3, .int (0 : Int32)), (0, .ref (am 0)), (1, .int (x1)), (2, .int (x2))]) hx hb dX11_shorten_29 rfl hl (by decide) rfl (fun ls hl => ?_)
    refine lv_iconst (v := (0 : Int32)) hx hb dX11_shorten_30 (by decide) ?_
    refine lv_istore (lv' := [(4, .int (0 : Int32)), (3, .int (0 : Int32)), (0, .ref (am 0)), (1, .int (x1)), (2, .int (x2))]) hx hb dX11_shorten_31 hl (by decide) rfl (fun ls hl => ?_)
    refine lv_iconst (v := (0 : Int32)) hx hb dX11_shorten_33 (by decide) ?_
    refine lv_istore (lv' := [(5, .int (0 : Int32)), (4, .int (0 : Int32)), (3, .int (0 : Int32)), (0, .ref (am 0)), (1, .int (x1)), (2, .int (x2))]) hx hb dX11_shorten_34 hl (by decide) rfl (fun ls hl => ?_)
    exact L36 nf (x1) (x2) (0 : Int32) (0 : Int32) (0 : Int32) _ _ _ _ _ hF (lv_sub hl [3, 4, 5, 2, 1, 0] rfl) hP hS
  have L7 : ∀ kf : Nat, ∀ (x1 : Int32) (x2 : Int32) (fi : FI) (ar : AR) (H : Heap) (locs : List Loc) (ls : Array Slot), M_shorten_7 nf kf x1 x2 fi ar = some (r, fi', ar') → lv_has ls 11 [(0, .ref (am 0)), (1, .int x1), (2, .int x2)] → va_P (gD g) vwCl (WM g am fi ar) H → va_S (AM am s.heap.size) s.heap H locs → W p l e (headSpec (wx yX11_shorten cX11_shorten 11 none) ({ frames := 6, cells := 0, slots := 0, locals := 132 } : Room)).room s m ([.ref (am 0), .int p1] : List Value).toArray below meth c H locs 0 0 (MQ below (QMv g am s.heap.size r fi' ar') ([.ref (am 0), .int p1] : List Value).toArray s 0 0 (AM am s.heap.size)) (F0 m 7 ls []) := by
    intro kf
    induction kf with
    | zero => intro x1 x2 fi ar H locs ls hF hl hP hS; cases (show (none : Option (Unit × FI × AR)) = _ from hF)
    | succ kf ih7 =>
      intro x1 x2 fi ar H locs ls hF hl hP hS
      obtain ⟨K7, hK7⟩ : ∃ K : Int32 → Int32 → FI → AR → Option (Unit × FI × AR), K = M_shorten_7 nf kf := ⟨_, rfl⟩
      replace hF : M_shorten_7b K7 nf x1 x2 fi ar = some (r, fi', ar') := by rw [hK7]; exact hF
      rw [← hK7] at ih7
      clear hK7
      unfold M_shorten_7b at hF
      refine lv_iload_n hx hb dX11_shorten_7 rfl (lv_at hl 2 rfl) ?_
      refine lv_if_le (tgt := 28) hx hb dX11_shorten_8 (by decide) (fun hc54 => ?_) (fun hc54 => ?_)
      · replace hF := br_yes hF hc54
        exact J28 (x1) (x2) _ _ _ _ _ hF (lv_sub hl [0, 1, 2] rfl) hP hS
      · replace hF := br_no hF hc54
        refine lv_aload_n hx hb dX11_shorten_11 rfl (lv_at hl 0 rfl) ?_
        refine mg_34 hx hb hT hown hK hP mw6_18 dX11_shorten_12 ?_
        refine lv_iload_n hx hb dX11_shorten_15 rfl (lv_at hl 2 rfl) ?_
        replace hF := gd_of hF
        obtain ⟨hi55, hF⟩ := hF
        refine ml_34 hx hb hK hP hi55 dX11_shorten_16 ?_
        refine lv_bipush (v := (46 : Int32)) hx hb dX11_shorten_17 (by decide) ?_
        refine lv_icmp_eq (tgt := 28) hx hb dX11_shorten_19 (by decide) (fun hc56 => ?_) (fun hc56 => ?_)
        · replace hF := br_yes hF hc56
          exact J28 (x1) (x2) _ _ _ _ _ hF (lv_sub hl [0, 1, 2] rfl) hP hS
        · replace hF := br_no hF hc56
          obtain ⟨x2_57, ex2_57⟩ : ∃ y : Int32, y = (x2) + (-1 : Int32) := ⟨_, rfl⟩
          replace hF := bnd_of hF ex2_57
          refine lv_iinc (v := x2_57) (lv' := [(2, .int (x2_57)), (0, .ref (am 0)), (1, .int (x1))]) hx hb dX11_shorten_22 hl (k := 2) rfl (by rw [ex2_57]; rfl) (by decide) rfl (fun ls hl => ?_)
          refine lv_goto (tgt := 7) hx hb dX11_shorten_25 (by decide) ?_
          exact ih7 (x1) (x2_57) _ _ _ _ _ hF (lv_sub hl [1, 2, 0] rfl) hP hS
  replace hl := lv_sub hl [0, 1] rfl
  refine lv_aload_n hx hb dX11_shorten_0 rfl (lv_at hl 0 rfl) ?_
  refine mg_35 hx hb hT hown hK hP mw33_9 dX11_shorten_1 ?_
  refine lv_iconst (v := (1 : Int32)) hx hb dX11_shorten_4 (by decide) ?_
  refine lv_isub hx hb dX11_shorten_5 ?_
  obtain ⟨x2_58, ex2_58⟩ : ∃ y : Int32, y = ((fi 35) - (1 : Int32)) := ⟨_, rfl⟩
  rw [← ex2_58]
  replace hF := bnd_of hF ex2_58
  refine lv_istore_n (lv' := [(2, .int (x2_58)), (0, .ref (am 0)), (1, .int (p1))]) hx hb dX11_shorten_6 rfl hl (by decide) rfl (fun ls hl => ?_)
  exact L7 nf (p1) (x2_58) _ _ _ _ _ hF (lv_sub hl [1, 2, 0] rfl) hP hS
theorem cw_X11_shorten : (Cond.instanceMethod yX11_shorten ∈ TB ∧ Cond.selects RX11 yX11_shorten yX11_shorten ∈ TB ∧ Cond.code yX11_shorten cX11_shorten 11 none ∈ TB) ∧ (yX11_shorten.cls = RX11 ∧ yX11_shorten.cls ≠ "java/lang/invoke/MethodHandle" ∧ yX11_shorten.cls ≠ "java/lang/invoke/VarHandle" ∧ (parseMethodDescriptor yX11_shorten.desc).map (fun d => d.parameters.length) = some 1) := ⟨⟨mw49_18, mw49_19, mw49_20⟩, by decide +kernel⟩
