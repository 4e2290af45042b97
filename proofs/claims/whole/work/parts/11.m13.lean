/-! X11_remove -/
noncomputable def M_remove_128b (K128 : Int32 → Int32 → FI → AR → Option (Unit × FI × AR)) (nf : Nat) (x2 : Int32) (x3 : Int32) (fi : FI) (ar : AR) : Option (Unit × FI × AR) :=
  gd (¬ ((x2) < 0 ∨ 16400 ≤ (x2).toNatClampNeg)) (br ((ar 21 (x2).toNatClampNeg) < (x3)) (obnd3 (M_changed nf fi ar) fun r6 fi4 ar5 => some ((), fi4, ar5)) (obnd3 (M_slotAt nf fi ar (x3)) fun r10 fi8 ar9 => gd (¬ ((r10) < 0 ∨ 524288 ≤ (r10).toNatClampNeg)) (bnd (va_up ar9 1 (upd (ar9 1) (r10).toNatClampNeg (vp_nar .byte (-27 : Int32)))) fun ar12 => bnd ((x3) + (1 : Int32)) fun x3_13 => K128 (x2) (x3_13) fi8 ar12)))
noncomputable def M_remove_128 (nf : Nat) (kf : Nat) : Int32 → Int32 → FI → AR → Option (Unit × FI × AR) := Nat.rec (fun _ _ _ _ => none) (fun _ K128 => M_remove_128b K128 nf) kf
noncomputable def M_remove_89b (K89 : Int32 → Int32 → FI → AR → Option (Unit × FI × AR)) (nf : Nat) (x2 : Int32) (x3 : Int32) (fi : FI) (ar : AR) : Option (Unit × FI × AR) :=
  br ((fi 31) ≤ (x3)) (gd (¬ ((x2) < 0 ∨ 16400 ≤ (x2).toNatClampNeg)) (gd (¬ ((x2) < 0 ∨ 16400 ≤ (x2).toNatClampNeg)) (bnd ((ar 21 (x2).toNatClampNeg) - (ar 22 (x2).toNatClampNeg)) fun x3_17 => M_remove_128 nf nf (x2) (x3_17) fi ar))) (gd (¬ ((x3) < 0 ∨ 560 ≤ (x3).toNatClampNeg)) (obnd3 (M_setEntry nf fi ar (ar 29 (x3).toNatClampNeg) (0 : Int32)) fun r22 fi20 ar21 => bnd ((x3) + (1 : Int32)) fun x3_23 => K89 (x2) (x3_23) fi20 ar21))
noncomputable def M_remove_89 (nf : Nat) (kf : Nat) : Int32 → Int32 → FI → AR → Option (Unit × FI × AR) := Nat.rec (fun _ _ _ _ => none) (fun _ K89 => M_remove_89b K89 nf) kf
noncomputable def M_remove_62 (nf : Nat) (x2 : Int32) (t1 : Int32) (fi : FI) (ar : AR) : Option (Unit × FI × AR) :=
  obnd3 (M_fails nf fi ar (t1) (3 : Int32)) fun r27 fi25 ar26 => br ((r27) = 0) (obnd3 (M_folderHere nf fi25 ar26) fun r32 fi30 ar31 => obnd3 (M_loadFolder nf fi30 ar31 (r32)) fun r36 fi34 ar35 => obnd3 (M_beginOf nf fi34 ar35 (x2)) fun r40 fi38 ar39 => obnd3 (M_walk nf fi38 ar39 (r40)) fun r44 fi42 ar43 => M_remove_89 nf nf (x2) (0 : Int32) fi42 ar43) (some ((), fi25, ar26))
noncomputable def M_remove_61 (nf : Nat) (x2 : Int32) (fi : FI) (ar : AR) : Option (Unit × FI × AR) :=
  M_remove_62 nf  (x2) (0 : Int32) fi ar
noncomputable def M_remove_32 (nf : Nat)  (fi : FI) (ar : AR) : Option (Unit × FI × AR) :=
  some ((), fi, ar)
noncomputable def M_remove_25 (nf : Nat) (x1 : Int32) (t1 : Int32) (fi : FI) (ar : AR) : Option (Unit × FI × AR) :=
  obnd3 (M_fails nf fi ar (t1) (2 : Int32)) fun r48 fi46 ar47 => br ((r48) = 0) (obnd3 (M_item nf fi46 ar47 (x1)) fun r53 fi51 ar52 => obnd3 (M_isFolder nf fi51 ar52 (r53)) fun r57 fi55 ar56 => br ((r57) = 0) (M_remove_61 nf  (r53) fi55 ar56) (gd (¬ ((r53) < 0 ∨ 16400 ≤ (r53).toNatClampNeg)) (br ((ar56 24 (r53).toNatClampNeg) ≤ 0) (M_remove_61 nf  (r53) fi55 ar56) (M_remove_62 nf  (r53) (1 : Int32) fi55 ar56)))) (M_remove_32 nf  fi46 ar47)
noncomputable def M_remove_20 (nf : Nat) (x1 : Int32) (fi : FI) (ar : AR) : Option (Unit × FI × AR) :=
  M_remove_25 nf  (x1) (1 : Int32) fi ar
noncomputable def M_remove (nf : Nat) (fi : FI) (ar : AR) (x1 : Int32) : Option (Unit × FI × AR) :=
  obnd3 (M_none nf fi ar) fun r64 fi62 ar63 => br ((r64) = 0) (br ((x1) < 0) (M_remove_20 nf  (x1) fi62 ar63) (obnd3 (M_many nf fi62 ar63) fun r70 fi68 ar69 => br ((x1) < (r70)) (M_remove_25 nf  (x1) (0 : Int32) fi68 ar69) (M_remove_20 nf  (x1) fi68 ar69))) (M_remove_32 nf  fi62 ar63)
set_option maxHeartbeats 4000000 in
set_option maxRecDepth 100000 in
theorem k_remove (l : Launch) (g : GT) (am : Nat → Nat) (sz : Nat) (nf : Nat) (fi : FI) (ar : AR) (p1 : Int32) (r : Unit) (fi' : FI) (ar' : AR) (hF : M_remove nf fi ar p1 = some (r, fi', ar')) : Met l yX11_remove (wx yX11_remove cX11_remove 4 none) ({ frames := 10, cells := 0, slots := 0, locals := 229 } : Room) (va_Pc [.ref (am 0), .int p1] (PM g am sz fi ar)) (QMv g am sz r fi' ar') 0 0 (AM am sz) := by
  refine Met.ofW (cc := cX11_remove) (maxL := 4) (ret := none) (by decide) rfl ?_
  intro p e s m args below meth c s₁ B hml hv
  obtain ⟨rfl, hsz, hP, hK, hD0, hE⟩ := hv
  have hx := B.exec
  have hb := B.bytes
  have hr := B.returns
  have hts := atoms_spec (ws := (wx yX11_remove cX11_remove 4 none)) B.pre
  have hT : ∀ w ∈ TB, w.before _ s = true := fun w h => hts w (List.mem_cons_of_mem _ h)
  have hown : s.vm.findClass RX11 = some m.cls := findClass_of_methodNamed B.named
  have hlocks := B.notSynchronized
  subst hsz
  have hD := dM hD0 s.heap.size
  have hA : ∀ q : Nat, s.heap.size ≤ q → AM am s.heap.size q := fun q h => Or.inr h
  have hS : va_S (AM am s.heap.size) s.heap s.heap [] := va_S.rf
  have hl := lv_entry ([.ref (am 0), .int p1]) (n := 4) (Nat.le_of_ble_eq_true rfl)
  rw [lg_entry_eq]
  generalize (lg_sl ([.ref (am 0), .int p1]) ++ List.replicate (4 - (lg_sl ([.ref (am 0), .int p1])).length) Slot.unset).toArray = ls at hl ⊢
  have hl : lv_has ls 4 [(0, .ref (am 0)), (1, .int p1)] := hl
  unfold M_remove at hF
  have L128 : ∀ kf : Nat, ∀ (x2 : Int32) (x3 : Int32) (fi : FI) (ar : AR) (H : Heap) (locs : List Loc) (ls : Array Slot), M_remove_128 nf kf x2 x3 fi ar = some (r, fi', ar') → lv_has ls 4 [(0, .ref (am 0)), (2, .int x2), (3, .int x3)] → va_P (gD g) vwCl (WM g am fi ar) H → va_S (AM am s.heap.size) s.heap H locs → W p l e (headSpec (wx yX11_remove cX11_remove 4 none) ({ frames := 10, cells := 0, slots := 0, locals := 229 } : Room)).room s m ([.ref (am 0), .int p1] : List Value).toArray below meth c H locs 0 0 (MQ below (QMv g am s.heap.size r fi' ar') ([.ref (am 0), .int p1] : List Value).toArray s 0 0 (AM am s.heap.size)) (F0 m 128 ls []) := by
    intro kf
    induction kf with
    | zero => intro x2 x3 fi ar H locs ls hF hl hP hS; cases (show (none : Option (Unit × FI × AR)) = _ from hF)
    | succ kf ih128 =>
      intro x2 x3 fi ar H locs ls hF hl hP hS
      obtain ⟨K128, hK128⟩ : ∃ K : Int32 → Int32 → FI → AR → Option (Unit × FI × AR), K = M_remove_128 nf kf := ⟨_, rfl⟩
      replace hF : M_remove_128b K128 nf x2 x3 fi ar = some (r, fi', ar') := by rw [hK128]; exact hF
      rw [← hK128] at ih128
      clear hK128
      unfold M_remove_128b at hF
      refine lv_iload_n hx hb dX11_remove_128 rfl (lv_at hl 2 rfl) ?_
      refine lv_aload_n hx hb dX11_remove_129 rfl (lv_at hl 0 rfl) ?_
      refine mg_21 hx hb hT hown hK hP mw6_6 dX11_remove_130 ?_
      refine lv_iload_n hx hb dX11_remove_133 rfl (lv_at hl 1 rfl) ?_
      replace hF := gd_of hF
      obtain ⟨hi1, hF⟩ := hF
      refine ml_21 hx hb hK hP hi1 dX11_remove_134 ?_
      refine lv_icmp_gt (tgt := 156) hx hb dX11_remove_135 (by decide) (fun hc2 => ?_) (fun hc2 => ?_)
      · replace hF := br_yes hF hc2
        refine lv_aload_n hx hb dX11_remove_156 rfl (lv_at hl 0 rfl) ?_
        replace hF := obnd3_of hF
        obtain ⟨r6, fi4, ar5, h3, hF⟩ := hF
        refine cM_v (As := []) (rest := []) hx hb hml hT hown hK hE hD hA hP hS (k_changed l g am _ nf fi ar r6 fi4 ar5 h3) cw_X11_changed mw20_14 ⟨⟨rfl, rfl⟩, Nat.le_of_ble_eq_true rfl, Nat.le_of_ble_eq_true rfl⟩ rfl hl.1 rfl (Nat.le_of_ble_eq_true rfl) dX11_remove_157 ⟨Nat.zero_le _, Nat.zero_le _⟩ (fun H locs hP hS => ?_)
        exact rM_v hx hb hr hlocks hF hP hS dX11_remove_160
      · replace hF := br_no hF hc2
        refine lv_aload_n hx hb dX11_remove_138 rfl (lv_at hl 0 rfl) ?_
        refine mg_1 hx hb hT hown hK hP mw6_1 dX11_remove_139 ?_
        refine lv_aload_n hx hb dX11_remove_142 rfl (lv_at hl 0 rfl) ?_
        refine lv_iload_n hx hb dX11_remove_143 rfl (lv_at hl 2 rfl) ?_
        replace hF := obnd3_of hF
        obtain ⟨r10, fi8, ar9, h7, hF⟩ := hF
        refine cM_i (As := [.int (x3)]) (rest := [.ref (am 1)]) hx hb hml hT hown hK hE hD hA hP hS (k_slotAt l g am _ nf fi ar (x3) r10 fi8 ar9 h7) cw_X11_slotAt mw32_21 ⟨⟨rfl, rfl⟩, Nat.le_of_ble_eq_true rfl, Nat.le_of_ble_eq_true rfl⟩ rfl hl.1 rfl (Nat.le_of_ble_eq_true rfl) dX11_remove_144 ⟨Nat.zero_le _, Nat.zero_le _⟩ (fun H locs hP hS => ?_)
        refine lv_bipush (v := (-27 : Int32)) hx hb dX11_remove_147 (by decide) ?_
        replace hF := gd_of hF
        obtain ⟨hi11, hF⟩ := hF
        obtain ⟨ar12, ear12⟩ : ∃ y : AR, y = va_up ar9 1 (upd (ar9 1) (r10).toNatClampNeg (vp_nar .byte (-27 : Int32))) := ⟨_, rfl⟩
        replace hF := bnd_of hF ear12
        refine ms_1 hx hb hK hP hD hS hi11 dX11_remove_149 (fun H locs hP hS => ?_)
        rw [← ear12] at hP
        obtain ⟨x3_13, ex3_13⟩ : ∃ y : Int32, y = (x3) + (1 : Int32) := ⟨_, rfl⟩
        replace hF := bnd_of hF ex3_13
        refine lv_iinc (v := x3_13) (lv' := [(3, .int (x3_13)), (0, .ref (am 0)), (2, .int (x2))]) hx hb dX11_remove_150 hl (k := 2) rfl (by rw [ex3_13]; rfl) (by decide) rfl (fun ls hl => ?_)
        refine lv_goto (tgt := 128) hx hb dX11_remove_153 (by decide) ?_
        exact ih128 (x2) (x3_13) _ _ _ _ _ hF (lv_sub hl [1, 2, 0] rfl) hP hS
  have L89 : ∀ kf : Nat, ∀ (x2 : Int32) (x3 : Int32) (fi : FI) (ar : AR) (H : Heap) (locs : List Loc) (ls : Array Slot), M_remove_89 nf kf x2 x3 fi ar = some (r, fi', ar') → lv_has ls 4 [(0, .ref (am 0)), (2, .int x2), (3, .int x3)] → va_P (gD g) vwCl (WM g am fi ar) H → va_S (AM am s.heap.size) s.heap H locs → W p l e (headSpec (wx yX11_remove cX11_remove 4 none) ({ frames := 10, cells := 0, slots := 0, locals := 229 } : Room)).room s m ([.ref (am 0), .int p1] : List Value).toArray below meth c H locs 0 0 (MQ below (QMv g am s.heap.size r fi' ar') ([.ref (am 0), .int p1] : List Value).toArray s 0 0 (AM am s.heap.size)) (F0 m 89 ls []) := by
    intro kf
    induction kf with
    | zero => intro x2 x3 fi ar H locs ls hF hl hP hS; cases (show (none : Option (Unit × FI × AR)) = _ from hF)
    | succ kf ih89 =>
      intro x2 x3 fi ar H locs ls hF hl hP hS
      obtain ⟨K89, hK89⟩ : ∃ K : Int32 → Int32 → FI → AR → Option (Unit × FI × AR), K = M_remove_89 nf kf := ⟨_, rfl⟩
      replace hF : M_remove_89b K89 nf x2 x3 fi ar = some (r, fi', ar') := by rw [hK89]; exact hF
      rw [← hK89] at ih89
      clear hK89
      unfold M_remove_89b at hF
      refine lv_iload_n hx hb dX11_remove_89 rfl (lv_at hl 2 rfl) ?_
      refine lv_aload_n hx hb dX11_remove_90 rfl (lv_at hl 0 rfl) ?_
      refine mg_31 hx hb hT hown hK hP mw32_5 dX11_remove_91 ?_
      refine lv_icmp_ge (tgt := 114) hx hb dX11_remove_94 (by decide) (fun hc14 => ?_) (fun hc14 => ?_)
      · replace hF := br_yes hF hc14
        refine lv_aload_n hx hb dX11_remove_114 rfl (lv_at hl 0 rfl) ?_
        refine mg_21 hx hb hT hown hK hP mw6_6 dX11_remove_115 ?_
        refine lv_iload_n hx hb dX11_remove_118 rfl (lv_at hl 1 rfl) ?_
        replace hF := gd_of hF
        obtain ⟨hi15, hF⟩ := hF
        refine ml_21 hx hb hK hP hi15 dX11_remove_119 ?_
        refine lv_aload_n hx hb dX11_remove_120 rfl (lv_at hl 0 rfl) ?_
        refine mg_22 hx hb hT hown hK hP mw6_7 dX11_remove_121 ?_
        refine lv_iload_n hx hb dX11_remove_124 rfl (lv_at hl 1 rfl) ?_
        replace hF := gd_of hF
        obtain ⟨hi16, hF⟩ := hF
        refine ml_22 hx hb hK hP hi16 dX11_remove_125 ?_
        refine lv_isub hx hb dX11_remove_126 ?_
        obtain ⟨x3_17, ex3_17⟩ : ∃ y : Int32, y = ((ar 21 (x2).toNatClampNeg) - (ar 22 (x2).toNatClampNeg)) := ⟨_, rfl⟩
        rw [← ex3_17]
        replace hF := bnd_of hF ex3_17
        refine lv_istore_n (lv' := [(3, .int (x3_17)), (0, .ref (am 0)), (2, .int (x2))]) hx hb dX11_remove_127 rfl hl (by decide) rfl (fun ls hl => ?_)
        exact L128 nf (x2) (x3_17) _ _ _ _ _ hF (lv_sub hl [1, 2, 0] rfl) hP hS
      · replace hF := br_no hF hc14
        refine lv_aload_n hx hb dX11_remove_97 rfl (lv_at hl 0 rfl) ?_
        refine lv_aload_n hx hb dX11_remove_98 rfl (lv_at hl 0 rfl) ?_
        refine mg_29 hx hb hT hown hK hP mw6_16 dX11_remove_99 ?_
        refine lv_iload_n hx hb dX11_remove_102 rfl (lv_at hl 2 rfl) ?_
        replace hF := gd_of hF
        obtain ⟨hi18, hF⟩ := hF
        refine ml_29 hx hb hK hP hi18 dX11_remove_103 ?_
        refine lv_iconst (v := (0 : Int32)) hx hb dX11_remove_104 (by decide) ?_
        replace hF := obnd3_of hF
        obtain ⟨r22, fi20, ar21, h19, hF⟩ := hF
        refine cM_v (As := [.int (ar 29 (x3).toNatClampNeg), .int (0 : Int32)]) (rest := []) hx hb hml hT hown hK hE hD hA hP hS (k_setEntry l g am _ nf fi ar (ar 29 (x3).toNatClampNeg) (0 : Int32) r22 fi20 ar21 h19) cw_X11_setEntry mw20_1 ⟨⟨rfl, rfl⟩, Nat.le_of_ble_eq_true rfl, Nat.le_of_ble_eq_true rfl⟩ rfl hl.1 rfl (Nat.le_of_ble_eq_true rfl) dX11_remove_105 ⟨Nat.zero_le _, Nat.zero_le _⟩ (fun H locs hP hS => ?_)
        obtain ⟨x3_23, ex3_23⟩ : ∃ y : Int32, y = (x3) + (1 : Int32) := ⟨_, rfl⟩
        replace hF := bnd_of hF ex3_23
        refine lv_iinc (v := x3_23) (lv' := [(3, .int (x3_23)), (0, .ref (am 0)), (2, .int (x2))]) hx hb dX11_remove_108 hl (k := 2) rfl (by rw [ex3_23]; rfl) (by decide) rfl (fun ls hl => ?_)
        refine lv_goto (tgt := 89) hx hb dX11_remove_111 (by decide) ?_
        exact ih89 (x2) (x3_23) _ _ _ _ _ hF (lv_sub hl [1, 2, 0] rfl) hP hS
  have J62 : ∀ (x2 : Int32) (t1 : Int32) (fi : FI) (ar : AR) (H : Heap) (locs : List Loc) (ls : Array Slot), M_remove_62 nf x2 t1 fi ar = some (r, fi', ar') → lv_has ls 4 [(0, .ref (am 0)), (2, .int x2)] → va_P (gD g) vwCl (WM g am fi ar) H → va_S (AM am s.heap.size) s.heap H locs → W p l e (headSpec (wx yX11_remove cX11_remove 4 none) ({ frames := 10, cells := 0, slots := 0, locals := 229 } : Room)).room s m ([.ref (am 0), .int p1] : List Value).toArray below meth c H locs 0 0 (MQ below (QMv g am s.heap.size r fi' ar') ([.ref (am 0), .int p1] : List Value).toArray s 0 0 (AM am s.heap.size)) (F0 m 62 ls [.int t1, .ref (am 0)]) := by
    intro x2 t1 fi ar H locs ls hF hl hP hS
    unfold M_remove_62 at hF
    refine lv_iconst (v := (3 : Int32)) hx hb dX11_remove_62 (by decide) ?_
    replace hF := obnd3_of hF
    obtain ⟨r27, fi25, ar26, h24, hF⟩ := hF
    refine cM_i (As := [.int (t1), .int (3 : Int32)]) (rest := []) hx hb hml hT hown hK hE hD hA hP hS (k_fails l g am _ nf fi ar (t1) (3 : Int32) r27 fi25 ar26 h24) cw_X11_fails mw18_14 ⟨⟨rfl, rfl⟩, Nat.le_of_ble_eq_true rfl, Nat.le_of_ble_eq_true rfl⟩ rfl hl.1 rfl (Nat.le_of_ble_eq_true rfl) dX11_remove_63 ⟨Nat.zero_le _, Nat.zero_le _⟩ (fun H locs hP hS => ?_)
    refine lv_if_eq (tgt := 70) hx hb dX11_remove_66 (by decide) (fun hc28 => ?_) (fun hc28 => ?_)
    · replace hF := br_yes hF hc28
      refine lv_aload_n hx hb dX11_remove_70 rfl (lv_at hl 0 rfl) ?_
      refine lv_aload_n hx hb dX11_remove_71 rfl (lv_at hl 0 rfl) ?_
      replace hF := obnd3_of hF
      obtain ⟨r32, fi30, ar31, h29, hF⟩ := hF
      refine cM_i (As := []) (rest := [.ref (am 0)]) hx hb hml hT hown hK hE hD hA hP hS (k_folderHere l g am _ nf fi25 ar26 r32 fi30 ar31 h29) cw_X11_folderHere mw38_18 ⟨⟨rfl, rfl⟩, Nat.le_of_ble_eq_true rfl, Nat.le_of_ble_eq_true rfl⟩ rfl hl.1 rfl (Nat.le_of_ble_eq_true rfl) dX11_remove_72 ⟨Nat.zero_le _, Nat.zero_le _⟩ (fun H locs hP hS => ?_)
      replace hF := obnd3_of hF
      obtain ⟨r36, fi34, ar35, h33, hF⟩ := hF
      refine cM_v (As := [.int (r32)]) (rest := []) hx hb hml hT hown hK hE hD hA hP hS (k_loadFolder l g am _ nf fi30 ar31 (r32) r36 fi34 ar35 h33) cw_X11_loadFolder mw50_0 ⟨⟨rfl, rfl⟩, Nat.le_of_ble_eq_true rfl, Nat.le_of_ble_eq_true rfl⟩ rfl hl.1 rfl (Nat.le_of_ble_eq_true rfl) dX11_remove_75 ⟨Nat.zero_le _, Nat.zero_le _⟩ (fun H locs hP hS => ?_)
      refine lv_aload_n hx hb dX11_remove_78 rfl (lv_at hl 0 rfl) ?_
      refine lv_aload_n hx hb dX11_remove_79 rfl (lv_at hl 0 rfl) ?_
      refine lv_iload_n hx hb dX11_remove_80 rfl (lv_at hl 1 rfl) ?_
      replace hF := obnd3_of hF
      obtain ⟨r40, fi38, ar39, h37, hF⟩ := hF
      refine cM_i (As := [.int (x2)]) (rest := [.ref (am 0)]) hx hb hml hT hown hK hE hD hA hP hS (k_beginOf l g am _ nf fi34 ar35 (x2) r40 fi38 ar39 h37) cw_X11_beginOf mw32_9 ⟨⟨rfl, rfl⟩, Nat.le_of_ble_eq_true rfl, Nat.le_of_ble_eq_true rfl⟩ rfl hl.1 rfl (Nat.le_of_ble_eq_true rfl) dX11_remove_81 ⟨Nat.zero_le _, Nat.zero_le _⟩ (fun H locs hP hS => ?_)
      replace hF := obnd3_of hF
      obtain ⟨r44, fi42, ar43, h41, hF⟩ := hF
      refine cM_v (As := [.int (r40)]) (rest := []) hx hb hml hT hown hK hE hD hA hP hS (k_walk l g am _ nf fi38 ar39 (r40) r44 fi42 ar43 h41) cw_X11_walk mw43_9 ⟨⟨rfl, rfl⟩, Nat.le_of_ble_eq_true rfl, Nat.le_of_ble_eq_true rfl⟩ rfl hl.1 rfl (Nat.le_of_ble_eq_true rfl) dX11_remove_84 ⟨Nat.zero_le _, Nat.zero_le _⟩ (fun H locs hP hS => ?_)
      refine lv_iconst (v := (0 : Int32)) hx hb dX11_remove_87 (by decide) ?_
      refine lv_istore_n (lv' := [(3, .int (0 : Int32)), (0, .ref (am 0)), (2, .int (x2))]) hx hb dX11_remove_88 rfl hl (by decide) rfl (fun ls hl => ?_)
      exact L89 nf (x2) (0 : Int32) _ _ _ _ _ hF (lv_sub hl [1, 2, 0] rfl) hP hS
    · replace hF := br_no hF hc28
      exact rM_v hx hb hr hlocks hF hP hS dX11_remove_69
  have J61 : ∀ (x2 : Int32) (fi : FI) (ar : AR) (H : Heap) (locs : List Loc) (ls : Array Slot), M_remove_61 nf x2 fi ar = some (r, fi', ar') → lv_has ls 4 [(0, .ref (am 0)), (2, .int x2)] → va_P (gD g) vwCl (WM g am fi ar) H → va_S (AM am s.heap.size) s.heap H locs → W p l e (headSpec (wx yX11_remove cX11_remove 4 none) ({ frames := 10, cells := 0, slots := 0, locals := 229 } : Room)).room s m ([.ref (am 0), .int p1] : List Value).toArray below meth c H locs 0 0 (MQ below (QMv g am s.heap.size r fi' ar') ([.ref (am 0), .int p1] : List Value).toArray s 0 0 (AM am s.heap.size)) (F0 m 61 ls [.ref (am 0)]) := by
    intro x2 fi ar H locs ls hF hl hP hS
    unfold M_remove_61 at hF
    refine lv_iconst (v := (0 : Int32)) hx hb dX11_remove_61 (by decide) ?_
    exact J62 (x2) (0 : Int32) _ _ _ _ _ hF (lv_sub hl [0, 1] rfl) hP hS
  have J32 : ∀  (fi : FI) (ar : AR) (H : Heap) (locs : List Loc) (ls : Array Slot), M_remove_32 nf fi ar = some (r, fi', ar') → lv_has ls 4 [(0, .ref (am 0))] → va_P (gD g) vwCl (WM g am fi ar) H → va_S (AM am s.heap.size) s.heap H locs → W p l e (headSpec (wx yX11_remove cX11_remove 4 none) ({ frames := 10, cells := 0, slots := 0, locals := 229 } : Room)).room s m ([.ref (am 0), .int p1] : List Value).toArray below meth c H locs 0 0 (MQ below (QMv g am s.heap.size r fi' ar') ([.ref (am 0), .int p1] : List Value).toArray s 0 0 (AM am s.heap.size)) (F0 m 32 ls []) := by
    intro fi ar H locs ls hF hl hP hS
    unfold M_remove_32 at hF
    exact rM_v hx hb hr hlocks hF hP hS dX11_remove_32
  have J25 : ∀ (x1 : Int32) (t1 : Int32) (fi : FI) (ar : AR) (H : Heap) (locs : List Loc) (ls : Array Slot), M_remove_25 nf x1 t1 fi ar = some (r, fi', ar') → lv_has ls 4 [(0, .ref (am 0)), (1, .int x1)] → va_P (gD g) vwCl (WM g am fi ar) H → va_S (AM am s.heap.size) s.heap H locs → W p l e (headSpec (wx yX11_remove cX11_remove 4 none) ({ frames := 10, cells := 0, slots := 0, locals := 229 } : Room)).room s m ([.ref (am 0), .int p1] : List Value).toArray below meth c H locs 0 0 (MQ below (QMv g am s.heap.size r fi' ar') ([.ref (am 0), .int p1] : List Value).toArray s 0 0 (AM am s.heap.size)) (F0 m 25 ls [.int t1, .ref (am 0)]) := by
    intro x1 t1 fi ar H locs ls hF hl hP hS
    unfold M_remove_25 at hF
    refine lv_iconst (v := (2 : Int32)) hx hb dX11_remove_25 (by decide) ?_
    replace hF := obnd3_of hF
    obtain ⟨r48, fi46, ar47, h45, hF⟩ := hF
    refine cM_i (As := [.int (t1), .int (2 : Int32)]) (rest := []) hx hb hml hT hown hK hE hD hA hP hS (k_fails l g am _ nf fi ar (t1) (2 : Int32) r48 fi46 ar47 h45) cw_X11_fails mw18_14 ⟨⟨rfl, rfl⟩, Nat.le_of_ble_eq_true rfl, Nat.le_of_ble_eq_true rfl⟩ rfl hl.1 rfl (Nat.le_of_ble_eq_true rfl) dX11_remove_26 ⟨Nat.zero_le _, Nat.zero_le _⟩ (fun H locs hP hS => ?_)
    refine lv_if_eq (tgt := 33) hx hb dX11_remove_29 (by decide) (fun hc49 => ?_) (fun hc49 => ?_)
    · replace hF := br_yes hF hc49
      refine lv_aload_n hx hb dX11_remove_33 rfl (lv_at hl 0 rfl) ?_
      refine lv_iload_n hx hb dX11_remove_34 rfl (lv_at hl 1 rfl) ?_
      replace hF := obnd3_of hF
      obtain ⟨r53, fi51, ar52, h50, hF⟩ := hF
      refine cM_i (As := [.int (x1)]) (rest := []) hx hb hml hT hown hK hE hD hA hP hS (k_item l g am _ nf fi46 ar47 (x1) r53 fi51 ar52 h50) cw_X11_item mw40_7 ⟨⟨rfl, rfl⟩, Nat.le_of_ble_eq_true rfl, Nat.le_of_ble_eq_true rfl⟩ rfl hl.1 rfl (Nat.le_of_ble_eq_true rfl) dX11_remove_35 ⟨Nat.zero_le _, Nat.zero_le _⟩ (fun H locs hP hS => ?_)
      refine lv_istore_n (lv' := [(2, .int (r53)), (0, .ref (am 0)), (1, .int (x1))]) hx hb dX11_remove_38 rfl hl (by decide) rfl (fun ls hl => ?_)
      refine lv_aload_n hx hb dX11_remove_39 rfl (lv_at hl 1 rfl) ?_
      refine lv_aload_n hx hb dX11_remove_40 rfl (lv_at hl 1 rfl) ?_
      refine lv_iload_n hx hb dX11_remove_41 rfl (lv_at hl 0 rfl) ?_
      replace hF := obnd3_of hF
      obtain ⟨r57, fi55, ar56, h54, hF⟩ := hF
      refine cM_i (As := [.int (r53)]) (rest := [.ref (am 0)]) hx hb hml hT hown hK hE hD hA hP hS (k_isFolder l g am _ nf fi51 ar52 (r53) r57 fi55 ar56 h54) cw_X11_isFolder mw31_21 ⟨⟨rfl, rfl⟩, Nat.le_of_ble_eq_true rfl, Nat.le_of_ble_eq_true rfl⟩ rfl hl.1 rfl (Nat.le_of_ble_eq_true rfl) dX11_remove_42 ⟨Nat.zero_le _, Nat.zero_le _⟩ (fun H locs hP hS => ?_)
      refine lv_if_eq (tgt := 61) hx hb dX11_remove_45 (by decide) (fun hc58 => ?_) (fun hc58 => ?_)
      · replace hF := br_yes hF hc58
        exact J61 (r53) _ _ _ _ _ hF (lv_sub hl [1, 0] rfl) hP hS
      · replace hF := br_no hF hc58
        refine lv_aload_n hx hb dX11_remove_48 rfl (lv_at hl 1 rfl) ?_
        refine mg_24 hx hb hT hown hK hP mw6_9 dX11_remove_49 ?_
        refine lv_iload_n hx hb dX11_remove_52 rfl (lv_at hl 0 rfl) ?_
        replace hF := gd_of hF
        obtain ⟨hi59, hF⟩ := hF
        refine ml_24 hx hb hK hP hi59 dX11_remove_53 ?_
        refine lv_if_le (tgt := 61) hx hb dX11_remove_54 (by decide) (fun hc60 => ?_) (fun hc60 => ?_)
        · replace hF := br_yes hF hc60
          exact J61 (r53) _ _ _ _ _ hF (lv_sub hl [1, 0] rfl) hP hS
        · replace hF := br_no hF hc60
          refine lv_iconst (v := (1 : Int32)) hx hb dX11_remove_57 (by decide) ?_
          refine lv_goto (tgt := 62) hx hb dX11_remove_58 (by decide) ?_
          exact J62 (r53) (1 : Int32) _ _ _ _ _ hF (lv_sub hl [1, 0] rfl) hP hS
    · replace hF := br_no hF hc49
      exact J32  _ _ _ _ _ hF (lv_sub hl [0] rfl) hP hS
  have J20 : ∀ (x1 : Int32) (fi : FI) (ar : AR) (H : Heap) (locs : List Loc) (ls : Array Slot), M_remove_20 nf x1 fi ar = some (r, fi', ar') → lv_has ls 4 [(0, .ref (am 0)), (1, .int x1)] → va_P (gD g) vwCl (WM g am fi ar) H → va_S (AM am s.heap.size) s.heap H locs → W p l e (headSpec (wx yX11_remove cX11_remove 4 none) ({ frames := 10, cells := 0, slots := 0, locals := 229 } : Room)).room s m ([.ref (am 0), .int p1] : List Value).toArray below meth c H locs 0 0 (MQ below (QMv g am s.heap.size r fi' ar') ([.ref (am 0), .int p1] : List Value).toArray s 0 0 (AM am s.heap.size)) (F0 m 20 ls [.ref (am 0)]) := by
    intro x1 fi ar H locs ls hF hl hP hS
    unfold M_remove_20 at hF
    refine lv_iconst (v := (1 : Int32)) hx hb dX11_remove_20 (by decide) ?_
    refine lv_goto (tgt := 25) hx hb dX11_remove_21 (by decide) ?_
    exact J25 (x1) (1 : Int32) _ _ _ _ _ hF (lv_sub hl [0, 1] rfl) hP hS
  replace hl := lv_sub hl [0, 1] rfl
  refine lv_aload_n hx hb dX11_remove_0 rfl (lv_at hl 0 rfl) ?_
  replace hF := obnd3_of hF
  obtain ⟨r64, fi62, ar63, h61, hF⟩ := hF
  refine cM_i (As := []) (rest := []) hx hb hml hT hown hK hE hD hA hP hS (k_none l g am _ nf fi ar r64 fi62 ar63 h61) cw_X11_none mw38_10 ⟨⟨rfl, rfl⟩, Nat.le_of_ble_eq_true rfl, Nat.le_of_ble_eq_true rfl⟩ rfl hl.1 rfl (Nat.le_of_ble_eq_true rfl) dX11_remove_1 ⟨Nat.zero_le _, Nat.zero_le _⟩ (fun H locs hP hS => ?_)
  refine lv_if_ne (tgt := 32) hx hb dX11_remove_4 (by decide) (fun hc65 => ?_) (fun hc65 => ?_)
  · replace hF := br_no hF hc65
    exact J32  _ _ _ _ _ hF (lv_sub hl [0] rfl) hP hS
  · replace hF := br_yes hF hc65
    refine lv_aload_n hx hb dX11_remove_7 rfl (lv_at hl 0 rfl) ?_
    refine lv_iload_n hx hb dX11_remove_8 rfl (lv_at hl 1 rfl) ?_
    refine lv_if_lt (tgt := 20) hx hb dX11_remove_9 (by decide) (fun hc66 => ?_) (fun hc66 => ?_)
    · replace hF := br_yes hF hc66
      exact J20 (p1) _ _ _ _ _ hF (lv_sub hl [0, 1] rfl) hP hS
    · replace hF := br_no hF hc66
      refine lv_iload_n hx hb dX11_remove_12 rfl (lv_at hl 1 rfl) ?_
      refine lv_aload_n hx hb dX11_remove_13 rfl (lv_at hl 0 rfl) ?_
      replace hF := obnd3_of hF
      obtain ⟨r70, fi68, ar69, h67, hF⟩ := hF
      refine cM_i (As := []) (rest := [.int (p1), .ref (am 0)]) hx hb hml hT hown hK hE hD hA hP hS (k_many l g am _ nf fi62 ar63 r70 fi68 ar69 h67) cw_X11_many mw38_14 ⟨⟨rfl, rfl⟩, Nat.le_of_ble_eq_true rfl, Nat.le_of_ble_eq_true rfl⟩ rfl hl.1 rfl (Nat.le_of_ble_eq_true rfl) dX11_remove_14 ⟨Nat.zero_le _, Nat.zero_le _⟩ (fun H locs hP hS => ?_)
      refine lv_icmp_lt (tgt := 24) hx hb dX11_remove_17 (by decide) (fun hc71 => ?_) (fun hc71 => ?_)
      · replace hF := br_yes hF hc71
        refine lv_iconst (v := (0 : Int32)) hx hb dX11_remove_24 (by decide) ?_
        exact J25 (p1) (0 : Int32) _ _ _ _ _ hF (lv_sub hl [0, 1] rfl) hP hS
      · replace hF := br_no hF hc71
        exact J20 (p1) _ _ _ _ _ hF (lv_sub hl [0, 1] rfl) hP hS
theorem cw_X11_remove : (Cond.instanceMethod yX11_remove ∈ TB ∧ Cond.selects RX11 yX11_remove yX11_remove ∈ TB ∧ Cond.code yX11_remove cX11_remove 4 none ∈ TB) ∧ (yX11_remove.cls = RX11 ∧ yX11_remove.cls ≠ "java/lang/invoke/MethodHandle" ∧ yX11_remove.cls ≠ "java/lang/invoke/VarHandle" ∧ (parseMethodDescriptor yX11_remove.desc).map (fun d => d.parameters.length) = some 1) := ⟨⟨mw55_0, mw55_1, mw55_2⟩, by decide +kernel⟩
/-! X11_stamp -/
noncomputable def M_stamp_314 (nf : Nat)  (fi : FI) (ar : AR) : Option (Unit × FI × AR) :=
  obnd3 (M_changed nf fi ar) fun r4 fi2 ar3 => some ((), fi2, ar3)
noncomputable def M_stamp_282 (nf : Nat) (x2 : Int32) (x4 : Int32) (x5 : Int32) (fi : FI) (ar : AR) : Option (Unit × FI × AR) :=
  br ((x2) = (4 : Int32)) (obnd3 (M_one nf fi ar ((x5) + (11 : Int32))) fun r9 fi7 ar8 => obnd3 (M_set nf fi7 ar8 ((x5) + (11 : Int32)) (1 : Int32) ((((r9) &&& (254 : Int32)) ||| (x4)).toInt64)) fun r13 fi11 ar12 => M_stamp_314 nf  fi11 ar12) (M_stamp_314 nf  fi ar)
noncomputable def M_stamp_264 (nf : Nat) (x2 : Int32) (x4 : Int32) (x5 : Int32) (fi : FI) (ar : AR) : Option (Unit × FI × AR) :=
  br ((x2) = (3 : Int32)) (obnd3 (M_set nf fi ar ((x5) + (13 : Int32)) (1 : Int32) ((x4).toInt64)) fun r18 fi16 ar17 => M_stamp_282 nf  (x2) (x4) (x5) fi16 ar17) (M_stamp_282 nf  (x2) (x4) (x5) fi ar)
noncomputable def M_stamp_256 (nf : Nat) (x2 : Int32) (x4 : Int32) (x5 : Int32) (t1 : Int32) (t2 : Int32) (fi : FI) (ar : AR) : Option (Unit × FI × AR) :=
  obnd3 (M_set nf fi ar ((t1) + (t2)) (2 : Int32) ((x4).toInt64)) fun r22 fi20 ar21 => M_stamp_264 nf  (x2) (x4) (x5) fi20 ar21
noncomputable def M_stamp_242 (nf : Nat) (x2 : Int32) (x4 : Int32) (x5 : Int32) (fi : FI) (ar : AR) : Option (Unit × FI × AR) :=
  br ((x2) = 0) (M_stamp_256 nf  (x2) (x4) (x5) (x5) (14 : Int32) fi ar) (M_stamp_256 nf  (x2) (x4) (x5) (x5) (22 : Int32) fi ar)
noncomputable def M_stamp_233 (nf : Nat) (x2 : Int32) (x4 : Int32) (x5 : Int32) (fi : FI) (ar : AR) : Option (Unit × FI × AR) :=
  br ((x2) = 0) (M_stamp_242 nf  (x2) (x4) (x5) fi ar) (br ((x2) = (2 : Int32)) (M_stamp_242 nf  (x2) (x4) (x5) fi ar) (M_stamp_264 nf  (x2) (x4) (x5) fi ar))
noncomputable def M_stamp_226 (nf : Nat) (x2 : Int32) (x3 : Int32) (x4 : Int32) (x5 : Int32) (t1 : Int32) (t2 : Int32) (fi : FI) (ar : AR) : Option (Unit × FI × AR) :=
  obnd3 (M_set nf fi ar ((t1) + (t2)) (2 : Int32) ((x3).toInt64)) fun r29 fi27 ar28 => M_stamp_233 nf  (x2) (x4) (x5) fi27 ar28
noncomputable def M_stamp_189 (nf : Nat) (x2 : Int32) (x3 : Int32) (x4 : Int32) (x5 : Int32) (t1 : Int32) (fi : FI) (ar : AR) : Option (Unit × FI × AR) :=
  obnd3 (M_fails nf fi ar (t1) (3 : Int32)) fun r33 fi31 ar32 => br ((r33) = 0) (br ((3 : Int32) ≤ (x2)) (M_stamp_233 nf  (x2) (x4) (x5) fi31 ar32) (br ((x2) = 0) (M_stamp_226 nf  (x2) (x3) (x4) (x5) (x5) (16 : Int32) fi31 ar32) (br ((x2) = (1 : Int32)) (M_stamp_226 nf  (x2) (x3) (x4) (x5) (x5) (18 : Int32) fi31 ar32) (M_stamp_226 nf  (x2) (x3) (x4) (x5) (x5) (24 : Int32) fi31 ar32)))) (some ((), fi31, ar32))
noncomputable def M_stamp_176 (nf : Nat) (x2 : Int32) (x3 : Int32) (x4 : Int32) (x5 : Int32) (t0 : Int32) (fi : FI) (ar : AR) : Option (Unit × FI × AR) :=
  br ((t0) = 0) (M_stamp_189 nf  (x2) (x3) (x4) (x5) (1 : Int32) fi ar) (M_stamp_189 nf  (x2) (x3) (x4) (x5) (0 : Int32) fi ar)
noncomputable def M_stamp_175 (nf : Nat) (x2 : Int32) (x3 : Int32) (x4 : Int32) (x5 : Int32) (fi : FI) (ar : AR) : Option (Unit × FI × AR) :=
  M_stamp_176 nf  (x2) (x3) (x4) (x5) (0 : Int32) fi ar
noncomputable def M_stamp_171 (nf : Nat) (x2 : Int32) (x3 : Int32) (x4 : Int32) (x5 : Int32) (fi : FI) (ar : AR) : Option (Unit × FI × AR) :=
  M_stamp_176 nf  (x2) (x3) (x4) (x5) (1 : Int32) fi ar
noncomputable def M_stamp_120 (nf : Nat) (x2 : Int32) (x3 : Int32) (x4 : Int32) (x5 : Int32) (fi : FI) (ar : AR) : Option (Unit × FI × AR) :=
  M_stamp_176 nf  (x2) (x3) (x4) (x5) (0 : Int32) fi ar
noncomputable def M_stamp_92 (nf : Nat) (x2 : Int32) (x3 : Int32) (x4 : Int32) (x5 : Int32) (fi : FI) (ar : AR) : Option (Unit × FI × AR) :=
  M_stamp_176 nf  (x2) (x3) (x4) (x5) (0 : Int32) fi ar
noncomputable def M_stamp_88 (nf : Nat) (x2 : Int32) (x3 : Int32) (x4 : Int32) (x5 : Int32) (fi : FI) (ar : AR) : Option (Unit × FI × AR) :=
  M_stamp_176 nf  (x2) (x3) (x4) (x5) (1 : Int32) fi ar
noncomputable def M_stamp_32 (nf : Nat)  (fi : FI) (ar : AR) : Option (Unit × FI × AR) :=
  some ((), fi, ar)
noncomputable def M_stamp_25 (nf : Nat) (x1 : Int32) (x2 : Int32) (x3 : Int32) (x4 : Int32) (t1 : Int32) (fi : FI) (ar : AR) : Option (Unit × FI × AR) :=
  obnd3 (M_fails nf fi ar (t1) (2 : Int32)) fun r42 fi40 ar41 => br ((r42) = 0) (obnd3 (M_item nf fi40 ar41 (x1)) fun r47 fi45 ar46 => gd (¬ ((r47) < 0 ∨ 16400 ≤ (r47).toNatClampNeg)) (bnd (ar46 20 (r47).toNatClampNeg) fun x5_49 => br ((x2) = 0) (obnd3 (M_one nf fi45 ar46 ((x5_49) + (13 : Int32))) fun r81 fi79 ar80 => obnd (M_isMade nf (x3) (x4) (r81)) fun r83 => M_stamp_176 nf  (x2) (x3) (x4) (x5_49) (r83) fi79 ar80) (br ((x2) = (1 : Int32)) (br ((x4) = 0) (br ((x3) = 0) (M_stamp_88 nf  (x2) (x3) (x4) (x5_49) fi45 ar46) (obnd (M_isDay nf (x3)) fun r76 => br ((r76) = 0) (M_stamp_92 nf  (x2) (x3) (x4) (x5_49) fi45 ar46) (M_stamp_88 nf  (x2) (x3) (x4) (x5_49) fi45 ar46))) (M_stamp_92 nf  (x2) (x3) (x4) (x5_49) fi45 ar46)) (br ((x2) = (2 : Int32)) (obnd (M_isDay nf (x3)) fun r68 => br ((r68) = 0) (M_stamp_120 nf  (x2) (x3) (x4) (x5_49) fi45 ar46) (obnd (M_isTime nf (x4)) fun r71 => br ((r71) = 0) (M_stamp_120 nf  (x2) (x3) (x4) (x5_49) fi45 ar46) (M_stamp_176 nf  (x2) (x3) (x4) (x5_49) (1 : Int32) fi45 ar46))) (br ((x2) = (3 : Int32)) (obnd3 (M_two nf fi45 ar46 ((x5_49) + (16 : Int32))) fun r60 fi58 ar59 => obnd3 (M_two nf fi58 ar59 ((x5_49) + (14 : Int32))) fun r64 fi62 ar63 => obnd (M_isMade nf (r60) (r64) (x4)) fun r66 => M_stamp_176 nf  (x2) (x3) (x4) (x5_49) (r66) fi62 ar63) (br ((x2) = (4 : Int32)) (br ((x4) = 0) (M_stamp_171 nf  (x2) (x3) (x4) (x5_49) fi45 ar46) (br ((x4) = (1 : Int32)) (M_stamp_171 nf  (x2) (x3) (x4) (x5_49) fi45 ar46) (M_stamp_175 nf  (x2) (x3) (x4) (x5_49) fi45 ar46))) (M_stamp_175 nf  (x2) (x3) (x4) (x5_49) fi45 ar46))))))) (M_stamp_32 nf  fi40 ar41)
noncomputable def M_stamp_20 (nf : Nat) (x1 : Int32) (x2 : Int32) (x3 : Int32) (x4 : Int32) (fi : FI) (ar : AR) : Option (Unit × FI × AR) :=
  M_stamp_25 nf  (x1) (x2) (x3) (x4) (1 : Int32) fi ar
noncomputable def M_stamp (nf : Nat) (fi : FI) (ar : AR) (x1 : Int32) (x2 : Int32) (x3 : Int32) (x4 : Int32) : Option (Unit × FI × AR) :=
  obnd3 (M_none nf fi ar) fun r87 fi85 ar86 => br ((r87) = 0) (br ((x1) < 0) (M_stamp_20 nf  (x1) (x2) (x3) (x4) fi85 ar86) (obnd3 (M_many nf fi85 ar86) fun r93 fi91 ar92 => br ((x1) < (r93)) (M_stamp_25 nf  (x1) (x2) (x3) (x4) (0 : Int32) fi91 ar92) (M_stamp_20 nf  (x1) (x2) (x3) (x4) fi91 ar92))) (M_stamp_32 nf  fi85 ar86)
set_option maxHeartbeats 4000000 in
set_option maxRecDepth 100000 in
theorem k_stamp (l : Launch) (g : GT) (am : Nat → Nat) (sz : Nat) (nf : Nat) (fi : FI) (ar : AR) (p1 : Int32) (p2 : Int32) (p3 : Int32) (p4 : Int32) (r : Unit) (fi' : FI) (ar' : AR) (hF : M_stamp nf fi ar p1 p2 p3 p4 = some (r, fi', ar')) : Met l yX11_stamp (wx yX11_stamp cX11_stamp 7 none) ({ frames := 10, cells := 0, slots := 0, locals := 229 } : Room) (va_Pc [.ref (am 0), .int p1, .int p2, .int p3, .int p4] (PM g am sz fi ar)) (QMv g am sz r fi' ar') 0 0 (AM am sz) := by
  refine Met.ofW (cc := cX11_stamp) (maxL := 7) (ret := none) (by decide) rfl ?_
  intro p e s m args below meth c s₁ B hml hv
  obtain ⟨rfl, hsz, hP, hK, hD0, hE⟩ := hv
  have hx := B.exec
  have hb := B.bytes
  have hr := B.returns
  have hts := atoms_spec (ws := (wx yX11_stamp cX11_stamp 7 none)) B.pre
  have hT : ∀ w ∈ TB, w.before _ s = true := fun w h => hts w (List.mem_cons_of_mem _ h)
  have hown : s.vm.findClass RX11 = some m.cls := findClass_of_methodNamed B.named
  have hlocks := B.notSynchronized
  subst hsz
  have hD := dM hD0 s.heap.size
  have hA : ∀ q : Nat, s.heap.size ≤ q → AM am s.heap.size q := fun q h => Or.inr h
  have hS : va_S (AM am s.heap.size) s.heap s.heap [] := va_S.rf
  have hl := lv_entry ([.ref (am 0), .int p1, .int p2, .int p3, .int p4]) (n := 7) (Nat.le_of_ble_eq_true rfl)
  rw [lg_entry_eq]
  generalize (lg_sl ([.ref (am 0), .int p1, .int p2, .int p3, .int p4]) ++ List.replicate (7 - (lg_sl ([.ref (am 0), .int p1, .int p2, .int p3, .int p4])).length) Slot.unset).toArray = ls at hl ⊢
  have hl : lv_has ls 7 [(0, .ref (am 0)), (1, .int p1), (2, .int p2), (3, .int p3), (4, .int p4)] := hl
  unfold M_stamp at hF
  have J314 : ∀  (fi : FI) (ar : AR) (H : Heap) (locs : List Loc) (ls : Array Slot), M_stamp_314 nf fi ar = some (r, fi', ar') → lv_has ls 7 [(0, .ref (am 0))] → va_P (gD g) vwCl (WM g am fi ar) H → va_S (AM am s.heap.size) s.heap H locs → W p l e (headSpec (wx yX11_stamp cX11_stamp 7 none) ({ frames := 10, cells := 0, slots := 0, locals := 229 } : Room)).room s m ([.ref (am 0), .int p1, .int p2, .int p3, .int p4] : List Value).toArray below meth c H locs 0 0 (MQ below (QMv g am s.heap.size r fi' ar') ([.ref (am 0), .int p1, .int p2, .int p3, .int p4] : List Value).toArray s 0 0 (AM am s.heap.size)) (F0 m 314 ls []) := by
    intro fi ar H locs ls hF hl hP hS
    unfold M_stamp_314 at hF
    refine lv_aload_n hx hb dX11_stamp_314 rfl (lv_at hl 0 rfl) ?_
    replace hF := obnd3_of hF
    obtain ⟨r4, fi2, ar3, h1, hF⟩ := hF
    refine cM_v (As := []) (rest := []) hx hb hml hT hown hK hE hD hA hP hS (k_changed l g am _ nf fi ar r4 fi2 ar3 h1) cw_X11_changed mw20_14 ⟨⟨rfl, rfl⟩, Nat.le_of_ble_eq_true rfl, Nat.le_of_ble_eq_true rfl⟩ rfl hl.1 rfl (Nat.le_of_ble_eq_true rfl) dX11_stamp_315 ⟨Nat.zero_le _, Nat.zero_le _⟩ (fun H locs hP hS => ?_)
    exact rM_v hx hb hr hlocks hF hP hS dX11_stamp_318
  have J282 : ∀ (x2 : Int32) (x4 : Int32) (x5 : Int32) (fi : FI) (ar : AR) (H : Heap) (locs : List Loc) (ls : Array Slot), M_stamp_282 nf x2 x4 x5 fi ar = some (r, fi', ar') → lv_has ls 7 [(0, .ref (am 0)), (2, .int x2), (4, .int x4), (5, .int x5)] → va_P (gD g) vwCl (WM g am fi ar) H → va_S (AM am s.heap.size) s.heap H locs → W p l e (headSpec (wx yX11_stamp cX11_stamp 7 none) ({ frames := 10, cells := 0, slots := 0, locals := 229 } : Room)).room s m ([.ref (am 0), .int p1, .int p2, .int p3, .int p4] : List Value).toArray below meth c H locs 0 0 (MQ below (QMv g am s.heap.size r fi' ar') ([.ref (am 0), .int p1, .int p2, .int p3, .int p4] : List Value).toArray s 0 0 (AM am s.heap.size)) (F0 m 282 ls []) := by
    intro x2 x4 x5 fi ar H locs ls hF hl hP hS
    unfold M_stamp_282 at hF
    refine lv_iload_n hx hb dX11_stamp_282 rfl (lv_at hl 1 rfl) ?_
    refine lv_iconst (v := (4 : Int32)) hx hb dX11_stamp_283 (by decide) ?_
    refine lv_icmp_ne (tgt := 314) hx hb dX11_stamp_284 (by decide) (fun hc5 => ?_) (fun hc5 => ?_)
    · replace hF := br_no hF hc5
      exact J314  _ _ _ _ _ hF (lv_sub hl [0] rfl) hP hS
    · replace hF := br_yes hF hc5
      refine lv_aload_n hx hb dX11_stamp_287 rfl (lv_at hl 0 rfl) ?_
      refine lv_iload hx hb dX11_stamp_288 (lv_at hl 3 rfl) ?_
      refine lv_bipush (v := (11 : Int32)) hx hb dX11_stamp_290 (by decide) ?_
      refine lv_iadd hx hb dX11_stamp_292 ?_
      refine lv_iconst (v := (1 : Int32)) hx hb dX11_stamp_293 (by decide) ?_
      refine lv_aload_n hx hb dX11_stamp_294 rfl (lv_at hl 0 rfl) ?_
      refine lv_iload hx hb dX11_stamp_295 (lv_at hl 3 rfl) ?_
      refine lv_bipush (v := (11 : Int32)) hx hb dX11_stamp_297 (by decide) ?_
      refine lv_iadd hx hb dX11_stamp_299 ?_
      replace hF := obnd3_of hF
      obtain ⟨r9, fi7, ar8, h6, hF⟩ := hF
      refine cM_i (As := [.int ((x5) + (11 : Int32))]) (rest := [.int (1 : Int32), .int ((x5) + (11 : Int32)), .ref (am 0)]) hx hb hml hT hown hK hE hD hA hP hS (k_one l g am _ nf fi ar ((x5) + (11 : Int32)) r9 fi7 ar8 h6) cw_X11_one mw19_9 ⟨⟨rfl, rfl⟩, Nat.le_of_ble_eq_true rfl, Nat.le_of_ble_eq_true rfl⟩ rfl hl.1 rfl (Nat.le_of_ble_eq_true rfl) dX11_stamp_300 ⟨Nat.zero_le _, Nat.zero_le _⟩ (fun H locs hP hS => ?_)
      refine lv_sipush (v := (254 : Int32)) hx hb dX11_stamp_303 (by decide) ?_
      refine lv_iand hx hb dX11_stamp_306 ?_
      refine lv_iload hx hb dX11_stamp_307 (lv_at hl 2 rfl) ?_
      refine lv_ior hx hb dX11_stamp_309 ?_
      refine lv_i2l hx hb dX11_stamp_310 rfl ?_
      replace hF := obnd3_of hF
      obtain ⟨r13, fi11, ar12, h10, hF⟩ := hF
      refine cM_v (As := [.int ((x5) + (11 : Int32)), .int (1 : Int32), .long ((((r9) &&& (254 : Int32)) ||| (x4)).toInt64)]) (rest := []) hx hb hml hT hown hK hE hD hA hP hS (k_set l g am _ nf fi7 ar8 ((x5) + (11 : Int32)) (1 : Int32) ((((r9) &&& (254 : Int32)) ||| (x4)).toInt64) r13 fi11 ar12 h10) cw_X11_set mw18_18 ⟨⟨rfl, rfl⟩, Nat.le_of_ble_eq_true rfl, Nat.le_of_ble_eq_true rfl⟩ rfl hl.1 rfl (Nat.le_of_ble_eq_true rfl) dX11_stamp_311 ⟨Nat.zero_le _, Nat.zero_le _⟩ (fun H locs hP hS => ?_)
      exact J314  _ _ _ _ _ hF (lv_sub hl [0] rfl) hP hS
  have J264 : ∀ (x2 : Int32) (x4 : Int32) (x5 : Int32) (fi : FI) (ar : AR) (H : Heap) (locs : List Loc) (ls : Array Slot), M_stamp_264 nf x2 x4 x5 fi ar = some (r, fi', ar') → lv_has ls 7 [(0, .ref (am 0)), (2, .int x2), (4, .int x4), (5, .int x5)] → va_P (gD g) vwCl (WM g am fi ar) H → va_S (AM am s.heap.size) s.heap H locs → W p l e (headSpec (wx yX11_stamp cX11_stamp 7 none) ({ frames := 10, cells := 0, slots := 0, locals := 229 } : Room)).room s m ([.ref (am 0), .int p1, .int p2, .int p3, .int p4] : List Value).toArray below meth c H locs 0 0 (MQ below (QMv g am s.heap.size r fi' ar') ([.ref (am 0), .int p1, .int p2, .int p3, .int p4] : List Value).toArray s 0 0 (AM am s.heap.size)) (F0 m 264 ls []) := by
    intro x2 x4 x5 fi ar H locs ls hF hl hP hS
    unfold M_stamp_264 at hF
    refine lv_iload_n hx hb dX11_stamp_264 rfl (lv_at hl 1 rfl) ?_
    refine lv_iconst (v := (3 : Int32)) hx hb dX11_stamp_265 (by decide) ?_
    refine lv_icmp_ne (tgt := 282) hx hb dX11_stamp_266 (by decide) (fun hc14 => ?_) (fun hc14 => ?_)
    · replace hF := br_no hF hc14
      exact J282 (x2) (x4) (x5) _ _ _ _ _ hF (lv_sub hl [0, 1, 2, 3] rfl) hP hS
    · replace hF := br_yes hF hc14
      refine lv_aload_n hx hb dX11_stamp_269 rfl (lv_at hl 0 rfl) ?_
      refine lv_iload hx hb dX11_stamp_270 (lv_at hl 3 rfl) ?_
      refine lv_bipush (v := (13 : Int32)) hx hb dX11_stamp_272 (by decide) ?_
      refine lv_iadd hx hb dX11_stamp_274 ?_
      refine lv_iconst (v := (1 : Int32)) hx hb dX11_stamp_275 (by decide) ?_
      refine lv_iload hx hb dX11_stamp_276 (lv_at hl 2 rfl) ?_
      refine lv_i2l hx hb dX11_stamp_278 rfl ?_
      replace hF := obnd3_of hF
      obtain ⟨r18, fi16, ar17, h15, hF⟩ := hF
      refine cM_v (As := [.int ((x5) + (13 : Int32)), .int (1 : Int32), .long ((x4).toInt64)]) (rest := []) hx hb hml hT hown hK hE hD hA hP hS (k_set l g am _ nf fi ar ((x5) + (13 : Int32)) (1 : Int32) ((x4).toInt64) r18 fi16 ar17 h15) cw_X11_set mw18_18 ⟨⟨rfl, rfl⟩, Nat.le_of_ble_eq_true rfl, Nat.le_of_ble_eq_true rfl⟩ rfl hl.1 rfl (Nat.le_of_ble_eq_true rfl) dX11_stamp_279 ⟨Nat.zero_le _, Nat.zero_le _⟩ (fun H locs hP hS => ?_)
      exact J282 (x2) (x4) (x5) _ _ _ _ _ hF (lv_sub hl [0, 1, 2, 3] rfl) hP hS
  have J256 : ∀ (x2 : Int32) (x4 : Int32) (x5 : Int32) (t1 : Int32) (t2 : Int32) (fi : FI) (ar : AR) (H : Heap) (locs : List Loc) (ls : Array Slot), M_stamp_256 nf x2 x4 x5 t1 t2 fi ar = some (r, fi', ar') → lv_has ls 7 [(0, .ref (am 0)), (2, .int x2), (4, .int x4), (5, .int x5)] → va_P (gD g) vwCl (WM g am fi ar) H → va_S (AM am s.heap.size) s.heap H locs → W p l e (headSpec (wx yX11_stamp cX11_stamp 7 none) ({ frames := 10, cells := 0, slots := 0, locals := 229 } : Room)).room s m ([.ref (am 0), .int p1, .int p2, .int p3, .int p4] : List Value).toArray below meth c H locs 0 0 (MQ below (QMv g am s.heap.size r fi' ar') ([.ref (am 0), .int p1, .int p2, .int p3, .int p4] : List Value).toArray s 0 0 (AM am s.heap.size)) (F0 m 256 ls [.int t2, .int t1, .ref (am 0)]) := by
    intro x2 x4 x5 t1 t2 fi ar H locs ls hF hl hP hS
    unfold M_stamp_256 at hF
    refine lv_iadd hx hb dX11_stamp_256 ?_
    refine lv_iconst (v := (2 : Int32)) hx hb dX11_stamp_257 (by decide) ?_
    refine lv_iload hx hb dX11_stamp_258 (lv_at hl 2 rfl) ?_
    refine lv_i2l hx hb dX11_stamp_260 rfl ?_
    replace hF := obnd3_of hF
    obtain ⟨r22, fi20, ar21, h19, hF⟩ := hF
    refine cM_v (As := [.int ((t1) + (t2)), .int (2 : Int32), .long ((x4).toInt64)]) (rest := []) hx hb hml hT hown hK hE hD hA hP hS (k_set l g am _ nf fi ar ((t1) + (t2)) (2 : Int32) ((x4).toInt64) r22 fi20 ar21 h19) cw_X11_set mw18_18 ⟨⟨rfl, rfl⟩, Nat.le_of_ble_eq_true rfl, Nat.le_of_ble_eq_true rfl⟩ rfl hl.1 rfl (Nat.le_of_ble_eq_true rfl) dX11_stamp_261 ⟨Nat.zero_le _, Nat.zero_le _⟩ (fun H locs hP hS => ?_)
    exact J264 (x2) (x4) (x5) _ _ _ _ _ hF (lv_sub hl [0, 1, 2, 3] rfl) hP hS
  have J242 : ∀ (x2 : Int32) (x4 : Int32) (x5 : Int32) (fi : FI) (ar : AR) (H : Heap) (locs : List Loc) (ls : Array Slot), M_stamp_242 nf x2 x4 x5 fi ar = some (r, fi', ar') → lv_has ls 7 [(0, .ref (am 0)), (2, .int x2), (4, .int x4), (5, .int x5)] → va_P (gD g) vwCl (WM g am fi ar) H → va_S (AM am s.heap.size) s.heap H locs → W p l e (headSpec (wx yX11_stamp cX11_stamp 7 none) ({ frames := 10, cells := 0, slots := 0, locals := 229 } : Room)).room s m ([.ref (am 0), .int p1, .int p2, .int p3, .int p4] : List Value).toArray below meth c H locs 0 0 (MQ below (QMv g am s.heap.size r fi' ar') ([.ref (am 0), .int p1, .int p2, .int p3, .int p4] : List Value).toArray s 0 0 (AM am s.heap.size)) (F0 m 242 ls []) := by
    intro x2 x4 x5 fi ar H locs ls hF hl hP hS
    unfold M_stamp_242 at hF
    refine lv_aload_n hx hb dX11_stamp_242 rfl (lv_at hl 0 rfl) ?_
    refine lv_iload hx hb dX11_stamp_243 (lv_at hl 3 rfl) ?_
    refine lv_iload_n hx hb dX11_stamp_245 rfl (lv_at hl 1 rfl) ?_
    refine lv_if_ne (tgt := 254) hx hb dX11_stamp_246 (by decide) (fun hc23 => ?_) (fun hc23 => ?_)
    · replace hF := br_no hF hc23
      refine lv_bipush (v := (22 : Int32)) hx hb dX11_stamp_254 (by decide) ?_
      exact J256 (x2) (x4) (x5) (x5) (22 : Int32) _ _ _ _ _ hF (lv_sub hl [0, 1, 2, 3] rfl) hP hS
    · replace hF := br_yes hF hc23
      refine lv_bipush (v := (14 : Int32)) hx hb dX11_stamp_249 (by decide) ?_
      refine lv_goto (tgt := 256) hx hb dX11_stamp_251 (by decide) ?_
      exact J256 (x2) (x4) (x5) (x5) (14 : Int32) _ _ _ _ _ hF (lv_sub hl [0, 1, 2, 3] rfl) hP hS
  have J233 : ∀ (x2 : Int32) (x4 : Int32) (x5 : Int32) (fi : FI) (ar : AR) (H : Heap) (locs : List Loc) (ls : Array Slot), M_stamp_233 nf x2 x4 x5 fi ar = some (r, fi', ar') → lv_has ls 7 [(0, .ref (am 0)), (2, .int x2), (4, .int x4), (5, .int x5)] → va_P (gD g) vwCl (WM g am fi ar) H → va_S (AM am s.heap.size) s.heap H locs → W p l e (headSpec (wx yX11_stamp cX11_stamp 7 none) ({ frames := 10, cells := 0, slots := 0, locals := 229 } : Room)).room s m ([.ref (am 0), .int p1, .int p2, .int p3, .int p4] : List Value).toArray below meth c H locs 0 0 (MQ below (QMv g am s.heap.size r fi' ar') ([.ref (am 0), .int p1, .int p2, .int p3, .int p4] : List Value).toArray s 0 0 (AM am s.heap.size)) (F0 m 233 ls []) := by
    intro x2 x4 x5 fi ar H locs ls hF hl hP hS
    unfold M_stamp_233 at hF
    refine lv_iload_n hx hb dX11_stamp_233 rfl (lv_at hl 1 rfl) ?_
    refine lv_if_eq (tgt := 242) hx hb dX11_stamp_234 (by decide) (fun hc24 => ?_) (fun hc24 => ?_)
    · replace hF := br_yes hF hc24
      exact J242 (x2) (x4) (x5) _ _ _ _ _ hF (lv_sub hl [0, 1, 2, 3] rfl) hP hS
    · replace hF := br_no hF hc24
      refine lv_iload_n hx hb dX11_stamp_237 rfl (lv_at hl 1 rfl) ?_
      refine lv_iconst (v := (2 : Int32)) hx hb dX11_stamp_238 (by decide) ?_
      refine lv_icmp_ne (tgt := 264) hx hb dX11_stamp_239 (by decide) (fun hc25 => ?_) (fun hc25 => ?_)
      · replace hF := br_no hF hc25
        exact J264 (x2) (x4) (x5) _ _ _ _ _ hF (lv_sub hl [0, 1, 2, 3] rfl) hP hS
      · replace hF := br_yes hF hc25
        exact J242 (x2) (x4) (x5) _ _ _ _ _ hF (lv_sub hl [0, 1, 2, 3] rfl) hP hS
  have J226 : ∀ (x2 : Int32) (x3 : Int32) (x4 : Int32) (x5 : Int32) (t1 : Int32) (t2 : Int32) (fi : FI) (ar : AR) (H : Heap) (locs : List Loc) (ls : Array Slot), M_stamp_226 nf x2 x3 x4 x5 t1 t2 fi ar = some (r, fi', ar') → lv_has ls 7 [(0, .ref (am 0)), (2, .int x2), (3, .int x3), (4, .int x4), (5, .int x5)] → va_P (gD g) vwCl (WM g am fi ar) H → va_S (AM am s.heap.size) s.heap H locs → W p l e (headSpec (wx yX11_stamp cX11_stamp 7 none) ({ frames := 10, cells := 0, slots := 0, locals := 229 } : Room)).room s m ([.ref (am 0), .int p1, .int p2, .int p3, .int p4] : List Value).toArray below meth c H locs 0 0 (MQ below (QMv g am s.heap.size r fi' ar') ([.ref (am 0), .int p1, .int p2, .int p3, .int p4] : List Value).toArray s 0 0 (AM am s.heap.size)) (F0 m 226 ls [.int t2, .int t1, .ref (am 0)]) := by
    intro x2 x3 x4 x5 t1 t2 fi ar H locs ls hF hl hP hS
    unfold M_stamp_226 at hF
    refine lv_iadd hx hb dX11_stamp_226 ?_
    refine lv_iconst (v := (2 : Int32)) hx hb dX11_stamp_227 (by decide) ?_
    refine lv_iload_n hx hb dX11_stamp_228 rfl (lv_at hl 2 rfl) ?_
    refine lv_i2l hx hb dX11_stamp_229 rfl ?_
    replace hF := obnd3_of hF
    obtain ⟨r29, fi27, ar28, h26, hF⟩ := hF
    refine cM_v (As := [.int ((t1) + (t2)), .int (2 : Int32), .long ((x3).toInt64)]) (rest := []) hx hb hml hT hown hK hE hD hA hP hS (k_set l g am _ nf fi ar ((t1) + (t2)) (2 : Int32) ((x3).toInt64) r29 fi27 ar28 h26) cw_X11_set mw18_18 ⟨⟨rfl, rfl⟩, Nat.le_of_ble_eq_true rfl, Nat.le_of_ble_eq_true rfl⟩ rfl hl.1 rfl (Nat.le_of_ble_eq_true rfl) dX11_stamp_230 ⟨Nat.zero_le _, Nat.zero_le _⟩ (fun H locs hP hS => ?_)
    exact J233 (x2) (x4) (x5) _ _ _ _ _ hF (lv_sub hl [0, 1, 3, 4] rfl) hP hS
  have J189 : ∀ (x2 : Int32) (x3 : Int32) (x4 : Int32) (x5 : Int32) (t1 : Int32) (fi : FI) (ar : AR) (H : Heap) (locs : List Loc) (ls : Array Slot), M_stamp_189 nf x2 x3 x4 x5 t1 fi ar = some (r, fi', ar') → lv_has ls 7 [(0, .ref (am 0)), (2, .int x2), (3, .int x3), (4, .int x4), (5, .int x5)] → va_P (gD g) vwCl (WM g am fi ar) H → va_S (AM am s.heap.size) s.heap H locs → W p l e (headSpec (wx yX11_stamp cX11_stamp 7 none) ({ frames := 10, cells := 0, slots := 0, locals := 229 } : Room)).room s m ([.ref (am 0), .int p1, .int p2, .int p3, .int p4] : List Value).toArray below meth c H locs 0 0 (MQ below (QMv g am s.heap.size r fi' ar') ([.ref (am 0), .int p1, .int p2, .int p3, .int p4] : List Value).toArray s 0 0 (AM am s.heap.size)) (F0 m 189 ls [.int t1, .ref (am 0)]) := by
    intro x2 x3 x4 x5 t1 fi ar H locs ls hF hl hP hS
    unfold M_stamp_189 at hF
    refine lv_iconst (v := (3 : Int32)) hx hb dX11_stamp_189 (by decide) ?_
    replace hF := obnd3_of hF
    obtain ⟨r33, fi31, ar32, h30, hF⟩ := hF
    refine cM_i (As := [.int (t1), .int (3 : Int32)]) (rest := []) hx hb hml hT hown hK hE hD hA hP hS (k_fails l g am _ nf fi ar (t1) (3 : Int32) r33 fi31 ar32 h30) cw_X11_fails mw18_14 ⟨⟨rfl, rfl⟩, Nat.le_of_ble_eq_true rfl, Nat.le_of_ble_eq_true rfl⟩ rfl hl.1 rfl (Nat.le_of_ble_eq_true rfl) dX11_stamp_190 ⟨Nat.zero_le _, Nat.zero_le _⟩ (fun H locs hP hS => ?_)
    refine lv_if_eq (tgt := 197) hx hb dX11_stamp_193 (by decide) (fun hc34 => ?_) (fun hc34 => ?_)
    · replace hF := br_yes hF hc34
      refine lv_iload_n hx hb dX11_stamp_197 rfl (lv_at hl 1 rfl) ?_
      refine lv_iconst (v := (3 : Int32)) hx hb dX11_stamp_198 (by decide) ?_
      refine lv_icmp_ge (tgt := 233) hx hb dX11_stamp_199 (by decide) (fun hc35 => ?_) (fun hc35 => ?_)
      · replace hF := br_yes hF hc35
        exact J233 (x2) (x4) (x5) _ _ _ _ _ hF (lv_sub hl [0, 1, 3, 4] rfl) hP hS
      · replace hF := br_no hF hc35
        refine lv_aload_n hx hb dX11_stamp_202 rfl (lv_at hl 0 rfl) ?_
        refine lv_iload hx hb dX11_stamp_203 (lv_at hl 4 rfl) ?_
        refine lv_iload_n hx hb dX11_stamp_205 rfl (lv_at hl 1 rfl) ?_
        refine lv_if_ne (tgt := 214) hx hb dX11_stamp_206 (by decide) (fun hc36 => ?_) (fun hc36 => ?_)
        · replace hF := br_no hF hc36
          refine lv_iload_n hx hb dX11_stamp_214 rfl (lv_at hl 1 rfl) ?_
          refine lv_iconst (v := (1 : Int32)) hx hb dX11_stamp_215 (by decide) ?_
          refine lv_icmp_ne (tgt := 224) hx hb dX11_stamp_216 (by decide) (fun hc37 => ?_) (fun hc37 => ?_)
          · replace hF := br_no hF hc37
            refine lv_bipush (v := (24 : Int32)) hx hb dX11_stamp_224 (by decide) ?_
            exact J226 (x2) (x3) (x4) (x5) (x5) (24 : Int32) _ _ _ _ _ hF (lv_sub hl [0, 1, 2, 3, 4] rfl) hP hS
          · replace hF := br_yes hF hc37
            refine lv_bipush (v := (18 : Int32)) hx hb dX11_stamp_219 (by decide) ?_
            refine lv_goto (tgt := 226) hx hb dX11_stamp_221 (by decide) ?_
            exact J226 (x2) (x3) (x4) (x5) (x5) (18 : Int32) _ _ _ _ _ hF (lv_sub hl [0, 1, 2, 3, 4] rfl) hP hS
        · replace hF := br_yes hF hc36
          refine lv_bipush (v := (16 : Int32)) hx hb dX11_stamp_209 (by decide) ?_
          refine lv_goto (tgt := 226) hx hb dX11_stamp_211 (by decide) ?_
          exact J226 (x2) (x3) (x4) (x5) (x5) (16 : Int32) _ _ _ _ _ hF (lv_sub hl [0, 1, 2, 3, 4] rfl) hP hS
    · replace hF := br_no hF hc34
      exact rM_v hx hb hr hlocks hF hP hS dX11_stamp_196
  have J176 : ∀ (x2 : Int32) (x3 : Int32) (x4 : Int32) (x5 : Int32) (t0 : Int32) (fi : FI) (ar : AR) (H : Heap) (locs : List Loc) (ls : Array Slot), M_stamp_176 nf x2 x3 x4 x5 t0 fi ar = some (r, fi', ar') → lv_has ls 7 [(0, .ref (am 0)), (2, .int x2), (3, .int x3), (4, .int x4), (5, .int x5)] → va_P (gD g) vwCl (WM g am fi ar) H → va_S (AM am s.heap.size) s.heap H locs → W p l e (headSpec (wx yX11_stamp cX11_stamp 7 none) ({ frames := 10, cells := 0, slots := 0, locals := 229 } : Room)).room s m ([.ref (am 0), .int p1, .int p2, .int p3, .int p4] : List Value).toArray below meth c H locs 0 0 (MQ below (QMv g am s.heap.size r fi' ar') ([.ref (am 0), .int p1, .int p2, .int p3, .int p4] : List Value).toArray s 0 0 (AM am s.heap.size)) (F0 m 176 ls [.int t0]) := by
    intro x2 x3 x4 x5 t0 fi ar H locs ls hF hl hP hS
    unfold M_stamp_176 at hF
    refine lv_istore (lv' := [(6, .int (t0)), (0, .ref (am 0)), (2, .int (x2)), (3, .int (x3)), (4, .int (x4)), (5, .int (x5))]) hx hb dX11_stamp_176 hl (by decide) rfl (fun ls hl => ?_)
    refine lv_aload_n hx hb dX11_stamp_178 rfl (lv_at hl 1 rfl) ?_
    refine lv_iload hx hb dX11_stamp_179 (lv_at hl 0 rfl) ?_
    refine lv_if_ne (tgt := 188) hx hb dX11_stamp_181 (by decide) (fun hc38 => ?_) (fun hc38 => ?_)
    · replace hF := br_no hF hc38
      refine lv_iconst (v := (0 : Int32)) hx hb dX11_stamp_188 (by decide) ?_
      exact J189 (x2) (x3) (x4) (x5) (0 : Int32) _ _ _ _ _ hF (lv_sub hl [1, 2, 3, 4, 5] rfl) hP hS
    · replace hF := br_yes hF hc38
      refine lv_iconst (v := (1 : Int32)) hx hb dX11_stamp_184 (by decide) ?_
      refine lv_goto (tgt := 189) hx hb dX11_stamp_185 (by decide) ?_
      exact J189 (x2) (x3) (x4) (x5) (1 : Int32) _ _ _ _ _ hF (lv_sub hl [1, 2, 3, 4, 5] rfl) hP hS
  have J175 : ∀ (x2 : Int32) (x3 : Int32) (x4 : Int32) (x5 : Int32) (fi : FI) (ar : AR) (H : Heap) (locs : List Loc) (ls : Array Slot), M_stamp_175 nf x2 x3 x4 x5 fi ar = some (r, fi', ar') → lv_has ls 7 [(0, .ref (am 0)), (2, .int x2), (3, .int x3), (4, .int x4), (5, .int x5)] → va_P (gD g) vwCl (WM g am fi ar) H → va_S (AM am s.heap.size) s.heap H locs → W p l e (headSpec (wx yX11_stamp cX11_stamp 7 none) ({ frames := 10, cells := 0, slots := 0, locals := 229 } : Room)).room s m ([.ref (am 0), .int p1, .int p2, .int p3, .int p4] : List Value).toArray below meth c H locs 0 0 (MQ below (QMv g am s.heap.size r fi' ar') ([.ref (am 0), .int p1, .int p2, .int p3, .int p4] : List Value).toArray s 0 0 (AM am s.heap.size)) (F0 m 175 ls []) := by
    intro x2 x3 x4 x5 fi ar H locs ls hF hl hP hS
    unfold M_stamp_175 at hF
    refine lv_iconst (v := (0 : Int32)) hx hb dX11_stamp_175 (by decide) ?_
    exact J176 (x2) (x3) (x4) (x5) (0 : Int32) _ _ _ _ _ hF (lv_sub hl [0, 1, 2, 3, 4] rfl) hP hS
  have J171 : ∀ (x2 : Int32) (x3 : Int32) (x4 : Int32) (x5 : Int32) (fi : FI) (ar : AR) (H : Heap) (locs : List Loc) (ls : Array Slot), M_stamp_171 nf x2 x3 x4 x5 fi ar = some (r, fi', ar') → lv_has ls 7 [(0, .ref (am 0)), (2, .int x2), (3, .int x3), (4, .int x4), (5, .int x5)] → va_P (gD g) vwCl (WM g am fi ar) H → va_S (AM am s.heap.size) s.heap H locs → W p l e (headSpec (wx yX11_stamp cX11_stamp 7 none) ({ frames := 10, cells := 0, slots := 0, locals := 229 } : Room)).room s m ([.ref (am 0), .int p1, .int p2, .int p3, .int p4] : List Value).toArray below meth c H locs 0 0 (MQ below (QMv g am s.heap.size r fi' ar') ([.ref (am 0), .int p1, .int p2, .int p3, .int p4] : List Value).toArray s 0 0 (AM am s.heap.size)) (F0 m 171 ls []) := by
    intro x2 x3 x4 x5 fi ar H locs ls hF hl hP hS
    unfold M_stamp_171 at hF
    refine lv_iconst (v := (1 : Int32)) hx hb dX11_stamp_171 (by decide) ?_
    refine lv_goto (tgt := 176) hx hb dX11_stamp_172 (by decide) ?_
    exact J176 (x2) (x3) (x4) (x5) (1 : Int32) _ _ _ _ _ hF (lv_sub hl [0, 1, 2, 3, 4] rfl) hP hS
  have J120 : ∀ (x2 : Int32) (x3 : Int32) (x4 : Int32) (x5 : Int32) (fi : FI) (ar : AR) (H : Heap) (locs : List Loc) (ls : Array Slot), M_stamp_120 nf x2 x3 x4 x5 fi ar = some (r, fi', ar') → lv_has ls 7 [(0, .ref (am 0)), (2, .int x2), (3, .int x3), (4, .int x4), (5, .int x5)] → va_P (gD g) vwCl (WM g am fi ar) H → va_S (AM am s.heap.size) s.heap H locs → W p l e (headSpec (wx yX11_stamp cX11_stamp 7 none) ({ frames := 10, cells := 0, slots := 0, locals := 229 } : Room)).room s m ([.ref (am 0), .int p1, .int p2, .int p3, .int p4] : List Value).toArray below meth c H locs 0 0 (MQ below (QMv g am s.heap.size r fi' ar') ([.ref (am 0), .int p1, .int p2, .int p3, .int p4] : List Value).toArray s 0 0 (AM am s.heap.size)) (F0 m 120 ls []) := by
    intro x2 x3 x4 x5 fi ar H locs ls hF hl hP hS
    unfold M_stamp_120 at hF
    refine lv_iconst (v := (0 : Int32)) hx hb dX11_stamp_120 (by decide) ?_
    refine lv_goto (tgt := 176) hx hb dX11_stamp_121 (by decide) ?_
    exact J176 (x2) (x3) (x4) (x5) (0 : Int32) _ _ _ _ _ hF (lv_sub hl [0, 1, 2, 3, 4] rfl) hP hS
  have J92 : ∀ (x2 : Int32) (x3 : Int32) (x4 : Int32) (x5 : Int32) (fi : FI) (ar : AR) (H : Heap) (locs : List Loc) (ls : Array Slot), M_stamp_92 nf x2 x3 x4 x5 fi ar = some (r, fi', ar') → lv_has ls 7 [(0, .ref (am 0)), (2, .int x2), (3, .int x3), (4, .int x4), (5, .int x5)] → va_P (gD g) vwCl (WM g am fi ar) H → va_S (AM am s.heap.size) s.heap H locs → W p l e (headSpec (wx yX11_stamp cX11_stamp 7 none) ({ frames := 10, cells := 0, slots := 0, locals := 229 } : Room)).room s m ([.ref (am 0), .int p1, .int p2, .int p3, .int p4] : List Value).toArray below meth c H locs 0 0 (MQ below (QMv g am s.heap.size r fi' ar') ([.ref (am 0), .int p1, .int p2, .int p3, .int p4] : List Value).toArray s 0 0 (AM am s.heap.size)) (F0 m 92 ls []) := by
    intro x2 x3 x4 x5 fi ar H locs ls hF hl hP hS
    unfold M_stamp_92 at hF
    refine lv_iconst (v := (0 : Int32)) hx hb dX11_stamp_92 (by decide) ?_
    refine lv_goto (tgt := 176) hx hb dX11_stamp_93 (by decide) ?_
    exact J176 (x2) (x3) (x4) (x5) (0 : Int32) _ _ _ _ _ hF (lv_sub hl [0, 1, 2, 3, 4] rfl) hP hS
  have J88 : ∀ (x2 : Int32) (x3 : Int32) (x4 : Int32) (x5 : Int32) (fi : FI) (ar : AR) (H : Heap) (locs : List Loc) (ls : Array Slot), M_stamp_88 nf x2 x3 x4 x5 fi ar = some (r, fi', ar') → lv_has ls 7 [(0, .ref (am 0)), (2, .int x2), (3, .int x3), (4, .int x4), (5, .int x5)] → va_P (gD g) vwCl (WM g am fi ar) H → va_S (AM am s.heap.size) s.heap H locs → W p l e (headSpec (wx yX11_stamp cX11_stamp 7 none) ({ frames := 10, cells := 0, slots := 0, locals := 229 } : Room)).room s m ([.ref (am 0), .int p1, .int p2, .int p3, .int p4] : List Value).toArray below meth c H locs 0 0 (MQ below (QMv g am s.heap.size r fi' ar') ([.ref (am 0), .int p1, .int p2, .int p3, .int p4] : List Value).toArray s 0 0 (AM am s.heap.size)) (F0 m 88 ls []) := by
    intro x2 x3 x4 x5 fi ar H locs ls hF hl hP hS
    unfold M_stamp_88 at hF
    refine lv_iconst (v := (1 : Int32)) hx hb dX11_stamp_88 (by decide) ?_
    refine lv_goto (tgt := 176) hx hb dX11_stamp_89 (by decide) ?_
    exact J176 (x2) (x3) (x4) (x5) (1 : Int32) _ _ _ _ _ hF (lv_sub hl [0, 1, 2, 3, 4] rfl) hP hS
  have J32 : ∀  (fi : FI) (ar : AR) (H : Heap) (locs : List Loc) (ls : Array Slot), M_stamp_32 nf fi ar = some (r, fi', ar') → lv_has ls 7 [(0, .ref (am 0))] → va_P (gD g) vwCl (WM g am fi ar) H → va_S (AM am s.heap.size) s.heap H locs → W p l e (headSpec (wx yX11_stamp cX11_stamp 7 none) ({ frames := 10, cells := 0, slots := 0, locals := 229 } : Room)).room s m ([.ref (am 0), .int p1, .int p2, .int p3, .int p4] : List Value).toArray below meth c H locs 0 0 (MQ below (QMv g am s.heap.size r fi' ar') ([.ref (am 0), .int p1, .int p2, .int p3, .int p4] : List Value).toArray s 0 0 (AM am s.heap.size)) (F0 m 32 ls []) := by
    intro fi ar H locs ls hF hl hP hS
    unfold M_stamp_32 at hF
    exact rM_v hx hb hr hlocks hF hP hS dX11_stamp_32
  have J25 : ∀ (x1 : Int32) (x2 : Int32) (x3 : Int32) (x4 : Int32) (t1 : Int32) (fi : FI) (ar : AR) (H : Heap) (locs : List Loc) (ls : Array Slot), M_stamp_25 nf x1 x2 x3 x4 t1 fi ar = some (r, fi', ar') → lv_has ls 7 [(0, .ref (am 0)), (1, .int x1), (2, .int x2), (3, .int x3), (4, .int x4)] → va_P (gD g) vwCl (WM g am fi ar) H → va_S (AM am s.heap.size) s.heap H locs → W p l e (headSpec (wx yX11_stamp cX11_stamp 7 none) ({ frames := 10, cells := 0, slots := 0, locals := 229 } : Room)).room s m ([.ref (am 0), .int p1, .int p2, .int p3, .int p4] : List Value).toArray below meth c H locs 0 0 (MQ below (QMv g am s.heap.size r fi' ar') ([.ref (am 0), .int p1, .int p2, .int p3, .int p4] : List Value).toArray s 0 0 (AM am s.heap.size)) (F0 m 25 ls [.int t1, .ref (am 0)]) := by
    intro x1 x2 x3 x4 t1 fi ar H locs ls hF hl hP hS
    unfold M_stamp_25 at hF
    refine lv_iconst (v := (2 : Int32)) hx hb dX11_stamp_25 (by decide) ?_
    replace hF := obnd3_of hF
    obtain ⟨r42, fi40, ar41, h39, hF⟩ := hF
    refine cM_i (As := [.int (t1), .int (2 : Int32)]) (rest := []) hx hb hml hT hown hK hE hD hA hP hS (k_fails l g am _ nf fi ar (t1) (2 : Int32) r42 fi40 ar41 h39) cw_X11_fails mw18_14 ⟨⟨rfl, rfl⟩, Nat.le_of_ble_eq_true rfl, Nat.le_of_ble_eq_true rfl⟩ rfl hl.1 rfl (Nat.le_of_ble_eq_true rfl) dX11_stamp_26 ⟨Nat.zero_le _, Nat.zero_le _⟩ (fun H locs hP hS => ?_)
    refine lv_if_eq (tgt := 33) hx hb dX11_stamp_29 (by decide) (fun hc43 => ?_) (fun hc43 => ?_)
    · replace hF := br_yes hF hc43
      refine lv_aload_n hx hb dX11_stamp_33 rfl (lv_at hl 0 rfl) ?_
      refine mg_20 hx hb hT hown hK hP mw6_5 dX11_stamp_34 ?_
      refine lv_aload_n hx hb dX11_stamp_37 rfl (lv_at hl 0 rfl) ?_
      refine lv_iload_n hx hb dX11_stamp_38 rfl (lv_at hl 1 rfl) ?_
      replace hF := obnd3_of hF
      obtain ⟨r47, fi45, ar46, h44, hF⟩ := hF
      refine cM_i (As := [.int (x1)]) (rest := [.ref (am 20)]) hx hb hml hT hown hK hE hD hA hP hS (k_item l g am _ nf fi40 ar41 (x1) r47 fi45 ar46 h44) cw_X11_item mw40_7 ⟨⟨rfl, rfl⟩, Nat.le_of_ble_eq_true rfl, Nat.le_of_ble_eq_true rfl⟩ rfl hl.1 rfl (Nat.le_of_ble_eq_true rfl) dX11_stamp_39 ⟨Nat.zero_le _, Nat.zero_le _⟩ (fun H locs hP hS => ?_)
      replace hF := gd_of hF
      obtain ⟨hi48, hF⟩ := hF
      refine ml_20 hx hb hK hP hi48 dX11_stamp_42 ?_
      obtain ⟨x5_49, ex5_49⟩ : ∃ y : Int32, y = (ar46 20 (r47).toNatClampNeg) := ⟨_, rfl⟩
      rw [← ex5_49]
      replace hF := bnd_of hF ex5_49
      refine lv_istore (lv' := [(5, .int (x5_49)), (0, .ref (am 0)), (1, .int (x1)), (2, .int (x2)), (3, .int (x3)), (4, .int (x4))]) hx hb dX11_stamp_43 hl (by decide) rfl (fun ls hl => ?_)
      refine lv_iload_n hx hb dX11_stamp_45 rfl (lv_at hl 3 rfl) ?_
      refine lv_if_ne (tgt := 67) hx hb dX11_stamp_46 (by decide) (fun hc50 => ?_) (fun hc50 => ?_)
      · replace hF := br_no hF hc50
        refine lv_iload_n hx hb dX11_stamp_67 rfl (lv_at hl 3 rfl) ?_
        refine lv_iconst (v := (1 : Int32)) hx hb dX11_stamp_68 (by decide) ?_
        refine lv_icmp_ne (tgt := 96) hx hb dX11_stamp_69 (by decide) (fun hc51 => ?_) (fun hc51 => ?_)
        · replace hF := br_no hF hc51
          refine lv_iload_n hx hb dX11_stamp_96 rfl (lv_at hl 3 rfl) ?_
          refine lv_iconst (v := (2 : Int32)) hx hb dX11_stamp_97 (by decide) ?_
          refine lv_icmp_ne (tgt := 124) hx hb dX11_stamp_98 (by decide) (fun hc52 => ?_) (fun hc52 => ?_)
          · replace hF := br_no hF hc52
            refine lv_iload_n hx hb dX11_stamp_124 rfl (lv_at hl 3 rfl) ?_
            refine lv_iconst (v := (3 : Int32)) hx hb dX11_stamp_125 (by decide) ?_
            refine lv_icmp_ne (tgt := 155) hx hb dX11_stamp_126 (by decide) (fun hc53 => ?_) (fun hc53 => ?_)
            · replace hF := br_no hF hc53
              refine lv_iload_n hx hb dX11_stamp_155 rfl (lv_at hl 3 rfl) ?_
              refine lv_iconst (v := (4 : Int32)) hx hb dX11_stamp_156 (by decide) ?_
              refine lv_icmp_ne (tgt := 175) hx hb dX11_stamp_157 (by decide) (fun hc54 => ?_) (fun hc54 => ?_)
              · replace hF := br_no hF hc54
                exact J175 (x2) (x3) (x4) (x5_49) _ _ _ _ _ hF (lv_sub hl [1, 3, 4, 5, 0] rfl) hP hS
              · replace hF := br_yes hF hc54
                refine lv_iload hx hb dX11_stamp_160 (lv_at hl 5 rfl) ?_
                refine lv_if_eq (tgt := 171) hx hb dX11_stamp_162 (by decide) (fun hc55 => ?_) (fun hc55 => ?_)
                · replace hF := br_yes hF hc55
                  exact J171 (x2) (x3) (x4) (x5_49) _ _ _ _ _ hF (lv_sub hl [1, 3, 4, 5, 0] rfl) hP hS
                · replace hF := br_no hF hc55
                  refine lv_iload hx hb dX11_stamp_165 (lv_at hl 5 rfl) ?_
                  refine lv_iconst (v := (1 : Int32)) hx hb dX11_stamp_167 (by decide) ?_
                  refine lv_icmp_ne (tgt := 175) hx hb dX11_stamp_168 (by decide) (fun hc56 => ?_) (fun hc56 => ?_)
                  · replace hF := br_no hF hc56
                    exact J175 (x2) (x3) (x4) (x5_49) _ _ _ _ _ hF (lv_sub hl [1, 3, 4, 5, 0] rfl) hP hS
                  · replace hF := br_yes hF hc56
                    exact J171 (x2) (x3) (x4) (x5_49) _ _ _ _ _ hF (lv_sub hl [1, 3, 4, 5, 0] rfl) hP hS
            · replace hF := br_yes hF hc53
              refine lv_aload_n hx hb dX11_stamp_129 rfl (lv_at hl 1 rfl) ?_
              refine lv_iload hx hb dX11_stamp_130 (lv_at hl 0 rfl) ?_
              refine lv_bipush (v := (16 : Int32)) hx hb dX11_stamp_132 (by decide) ?_
              refine lv_iadd hx hb dX11_stamp_134 ?_
              replace hF := obnd3_of hF
              obtain ⟨r60, fi58, ar59, h57, hF⟩ := hF
              refine cM_i (As := [.int ((x5_49) + (16 : Int32))]) (rest := []) hx hb hml hT hown hK hE hD hA hP hS (k_two l g am _ nf fi45 ar46 ((x5_49) + (16 : Int32)) r60 fi58 ar59 h57) cw_X11_two mw19_13 ⟨⟨rfl, rfl⟩, Nat.le_of_ble_eq_true rfl, Nat.le_of_ble_eq_true rfl⟩ rfl hl.1 rfl (Nat.le_of_ble_eq_true rfl) dX11_stamp_135 ⟨Nat.zero_le _, Nat.zero_le _⟩ (fun H locs hP hS => ?_)
              refine lv_aload_n hx hb dX11_stamp_138 rfl (lv_at hl 1 rfl) ?_
              refine lv_iload hx hb dX11_stamp_139 (lv_at hl 0 rfl) ?_
              refine lv_bipush (v := (14 : Int32)) hx hb dX11_stamp_141 (by decide) ?_
              refine lv_iadd hx hb dX11_stamp_143 ?_
              replace hF := obnd3_of hF
              obtain ⟨r64, fi62, ar63, h61, hF⟩ := hF
              refine cM_i (As := [.int ((x5_49) + (14 : Int32))]) (rest := [.int (r60)]) hx hb hml hT hown hK hE hD hA hP hS (k_two l g am _ nf fi58 ar59 ((x5_49) + (14 : Int32)) r64 fi62 ar63 h61) cw_X11_two mw19_13 ⟨⟨rfl, rfl⟩, Nat.le_of_ble_eq_true rfl, Nat.le_of_ble_eq_true rfl⟩ rfl hl.1 rfl (Nat.le_of_ble_eq_true rfl) dX11_stamp_144 ⟨Nat.zero_le _, Nat.zero_le _⟩ (fun H locs hP hS => ?_)
              refine lv_iload hx hb dX11_stamp_147 (lv_at hl 5 rfl) ?_
              replace hF := obnd_of hF
              obtain ⟨r66, h65, hF⟩ := hF
              refine cS_i (As := [.int (r60), .int (r64), .int (x4)]) (rest := []) hx hb hml hT hown hE hP hS (k_isMade l g nf (r60) (r64) (x4) r66 h65) cw_X11_isMade mw33_19 ⟨⟨rfl, rfl⟩, Nat.le_of_ble_eq_true rfl, Nat.le_of_ble_eq_true rfl⟩ rfl hl.1 rfl (Nat.le_of_ble_eq_true rfl) dX11_stamp_149 ⟨Nat.zero_le _, Nat.zero_le _⟩ (fun H locs hP hS => ?_)
              refine lv_goto (tgt := 176) hx hb dX11_stamp_152 (by decide) ?_
              exact J176 (x2) (x3) (x4) (x5_49) (r66) _ _ _ _ _ hF (lv_sub hl [1, 3, 4, 5, 0] rfl) hP hS
          · replace hF := br_yes hF hc52
            refine lv_iload_n hx hb dX11_stamp_101 rfl (lv_at hl 4 rfl) ?_
            replace hF := obnd_of hF
            obtain ⟨r68, h67, hF⟩ := hF
            refine cS_i (As := [.int (x3)]) (rest := []) hx hb hml hT hown hE hP hS (k_isDay l g nf (x3) r68 h67) cw_X11_isDay mw33_22 ⟨⟨rfl, rfl⟩, Nat.le_of_ble_eq_true rfl, Nat.le_of_ble_eq_true rfl⟩ rfl hl.1 rfl (Nat.le_of_ble_eq_true rfl) dX11_stamp_102 ⟨Nat.zero_le _, Nat.zero_le _⟩ (fun H locs hP hS => ?_)
            refine lv_if_eq (tgt := 120) hx hb dX11_stamp_105 (by decide) (fun hc69 => ?_) (fun hc69 => ?_)
            · replace hF := br_yes hF hc69
              exact J120 (x2) (x3) (x4) (x5_49) _ _ _ _ _ hF (lv_sub hl [1, 3, 4, 5, 0] rfl) hP hS
            · replace hF := br_no hF hc69
              refine lv_iload hx hb dX11_stamp_108 (lv_at hl 5 rfl) ?_
              replace hF := obnd_of hF
              obtain ⟨r71, h70, hF⟩ := hF
              refine cS_i (As := [.int (x4)]) (rest := []) hx hb hml hT hown hE hP hS (k_isTime l g nf (x4) r71 h70) cw_X11_isTime mw34_8 ⟨⟨rfl, rfl⟩, Nat.le_of_ble_eq_true rfl, Nat.le_of_ble_eq_true rfl⟩ rfl hl.1 rfl (Nat.le_of_ble_eq_true rfl) dX11_stamp_110 ⟨Nat.zero_le _, Nat.zero_le _⟩ (fun H locs hP hS => ?_)
              refine lv_if_eq (tgt := 120) hx hb dX11_stamp_113 (by decide) (fun hc72 => ?_) (fun hc72 => ?_)
              · replace hF := br_yes hF hc72
                exact J120 (x2) (x3) (x4) (x5_49) _ _ _ _ _ hF (lv_sub hl [1, 3, 4, 5, 0] rfl) hP hS
              · replace hF := br_no hF hc72
                refine lv_iconst (v := (1 : Int32)) hx hb dX11_stamp_116 (by decide) ?_
                refine lv_goto (tgt := 176) hx hb dX11_stamp_117 (by decide) ?_
                exact J176 (x2) (x3) (x4) (x5_49) (1 : Int32) _ _ _ _ _ hF (lv_sub hl [1, 3, 4, 5, 0] rfl) hP hS
        · replace hF := br_yes hF hc51
          refine lv_iload hx hb dX11_stamp_72 (lv_at hl 5 rfl) ?_
          refine lv_if_ne (tgt := 92) hx hb dX11_stamp_74 (by decide) (fun hc73 => ?_) (fun hc73 => ?_)
          · replace hF := br_no hF hc73
            exact J92 (x2) (x3) (x4) (x5_49) _ _ _ _ _ hF (lv_sub hl [1, 3, 4, 5, 0] rfl) hP hS
          · replace hF := br_yes hF hc73
            refine lv_iload_n hx hb dX11_stamp_77 rfl (lv_at hl 4 rfl) ?_
            refine lv_if_eq (tgt := 88) hx hb dX11_stamp_78 (by decide) (fun hc74 => ?_) (fun hc74 => ?_)
            · replace hF := br_yes hF hc74
              exact J88 (x2) (x3) (x4) (x5_49) _ _ _ _ _ hF (lv_sub hl [1, 3, 4, 5, 0] rfl) hP hS
            · replace hF := br_no hF hc74
              refine lv_iload_n hx hb dX11_stamp_81 rfl (lv_at hl 4 rfl) ?_
              replace hF := obnd_of hF
              obtain ⟨r76, h75, hF⟩ := hF
              refine cS_i (As := [.int (x3)]) (rest := []) hx hb hml hT hown hE hP hS (k_isDay l g nf (x3) r76 h75) cw_X11_isDay mw33_22 ⟨⟨rfl, rfl⟩, Nat.le_of_ble_eq_true rfl, Nat.le_of_ble_eq_true rfl⟩ rfl hl.1 rfl (Nat.le_of_ble_eq_true rfl) dX11_stamp_82 ⟨Nat.zero_le _, Nat.zero_le _⟩ (fun H locs hP hS => ?_)
              refine lv_if_eq (tgt := 92) hx hb dX11_stamp_85 (by decide) (fun hc77 => ?_) (fun hc77 => ?_)
              · replace hF := br_yes hF hc77
                exact J92 (x2) (x3) (x4) (x5_49) _ _ _ _ _ hF (lv_sub hl [1, 3, 4, 5, 0] rfl) hP hS
              · replace hF := br_no hF hc77
                exact J88 (x2) (x3) (x4) (x5_49) _ _ _ _ _ hF (lv_sub hl [1, 3, 4, 5, 0] rfl) hP hS
      · replace hF := br_yes hF hc50
        refine lv_iload_n hx hb dX11_stamp_49 rfl (lv_at hl 4 rfl) ?_
        refine lv_iload hx hb dX11_stamp_50 (lv_at hl 5 rfl) ?_
        refine lv_aload_n hx hb dX11_stamp_52 rfl (lv_at hl 1 rfl) ?_
        refine lv_iload hx hb dX11_stamp_53 (lv_at hl 0 rfl) ?_
        refine lv_bipush (v := (13 : Int32)) hx hb dX11_stamp_55 (by decide) ?_
        refine lv_iadd hx hb dX11_stamp_57 ?_
        replace hF := obnd3_of hF
        obtain ⟨r81, fi79, ar80, h78, hF⟩ := hF
        refine cM_i (As := [.int ((x5_49) + (13 : Int32))]) (rest := [.int (x4), .int (x3)]) hx hb hml hT hown hK hE hD hA hP hS (k_one l g am _ nf fi45 ar46 ((x5_49) + (13 : Int32)) r81 fi79 ar80 h78) cw_X11_one mw19_9 ⟨⟨rfl, rfl⟩, Nat.le_of_ble_eq_true rfl, Nat.le_of_ble_eq_true rfl⟩ rfl hl.1 rfl (Nat.le_of_ble_eq_true rfl) dX11_stamp_58 ⟨Nat.zero_le _, Nat.zero_le _⟩ (fun H locs hP hS => ?_)
        replace hF := obnd_of hF
        obtain ⟨r83, h82, hF⟩ := hF
        refine cS_i (As := [.int (x3), .int (x4), .int (r81)]) (rest := []) hx hb hml hT hown hE hP hS (k_isMade l g nf (x3) (x4) (r81) r83 h82) cw_X11_isMade mw33_19 ⟨⟨rfl, rfl⟩, Nat.le_of_ble_eq_true rfl, Nat.le_of_ble_eq_true rfl⟩ rfl hl.1 rfl (Nat.le_of_ble_eq_true rfl) dX11_stamp_61 ⟨Nat.zero_le _, Nat.zero_le _⟩ (fun H locs hP hS => ?_)
        refine lv_goto (tgt := 176) hx hb dX11_stamp_64 (by decide) ?_
        exact J176 (x2) (x3) (x4) (x5_49) (r83) _ _ _ _ _ hF (lv_sub hl [1, 3, 4, 5, 0] rfl) hP hS
    · replace hF := br_no hF hc43
      exact J32  _ _ _ _ _ hF (lv_sub hl [0] rfl) hP hS
  have J20 : ∀ (x1 : Int32) (x2 : Int32) (x3 : Int32) (x4 : Int32) (fi : FI) (ar : AR) (H : Heap) (locs : List Loc) (ls : Array Slot), M_stamp_20 nf x1 x2 x3 x4 fi ar = some (r, fi', ar') → lv_has ls 7 [(0, .ref (am 0)), (1, .int x1), (2, .int x2), (3, .int x3), (4, .int x4)] → va_P (gD g) vwCl (WM g am fi ar) H → va_S (AM am s.heap.size) s.heap H locs → W p l e (headSpec (wx yX11_stamp cX11_stamp 7 none) ({ frames := 10, cells := 0, slots := 0, locals := 229 } : Room)).room s m ([.ref (am 0), .int p1, .int p2, .int p3, .int p4] : List Value).toArray below meth c H locs 0 0 (MQ below (QMv g am s.heap.size r fi' ar') ([.ref (am 0), .int p1, .int p2, .int p3, .int p4] : List Value).toArray s 0 0 (AM am s.heap.size)) (F0 m 20 ls [.ref (am 0)]) := by
    intro x1 x2 x3 x4 fi ar H locs ls hF hl hP hS
    unfold M_stamp_20 at hF
    refine lv_iconst (v := (1 : Int32)) hx hb dX11_stamp_20 (by decide) ?_
    refine lv_goto (tgt := 25) hx hb dX11_stamp_21 (by decide) ?_
    exact J25 (x1) (x2) (x3) (x4) (1 : Int32) _ _ _ _ _ hF (lv_sub hl [0, 1, 2, 3, 4] rfl) hP hS
  replace hl := lv_sub hl [0, 1, 2, 3, 4] rfl
  refine lv_aload_n hx hb dX11_stamp_0 rfl (lv_at hl 0 rfl) ?_
  replace hF := obnd3_of hF
  obtain ⟨r87, fi85, ar86, h84, hF⟩ := hF
  refine cM_i (As := []) (rest := []) hx hb hml hT hown hK hE hD hA hP hS (k_none l g am _ nf fi ar r87 fi85 ar86 h84) cw_X11_none mw38_10 ⟨⟨rfl, rfl⟩, Nat.le_of_ble_eq_true rfl, Nat.le_of_ble_eq_true rfl⟩ rfl hl.1 rfl (Nat.le_of_ble_eq_true rfl) dX11_stamp_1 ⟨Nat.zero_le _, Nat.zero_le _⟩ (fun H locs hP hS => ?_)
  refine lv_if_ne (tgt := 32) hx hb dX11_stamp_4 (by decide) (fun hc88 => ?_) (fun hc88 => ?_)
  · replace hF := br_no hF hc88
    exact J32  _ _ _ _ _ hF (lv_sub hl [0] rfl) hP hS
  · replace hF := br_yes hF hc88
    refine lv_aload_n hx hb dX11_stamp_7 rfl (lv_at hl 0 rfl) ?_
    refine lv_iload_n hx hb dX11_stamp_8 rfl (lv_at hl 1 rfl) ?_
    refine lv_if_lt (tgt := 20) hx hb dX11_stamp_9 (by decide) (fun hc89 => ?_) (fun hc89 => ?_)
    · replace hF := br_yes hF hc89
      exact J20 (p1) (p2) (p3) (p4) _ _ _ _ _ hF (lv_sub hl [0, 1, 2, 3, 4] rfl) hP hS
    · replace hF := br_no hF hc89
      refine lv_iload_n hx hb dX11_stamp_12 rfl (lv_at hl 1 rfl) ?_
      refine lv_aload_n hx hb dX11_stamp_13 rfl (lv_at hl 0 rfl) ?_
      replace hF := obnd3_of hF
      obtain ⟨r93, fi91, ar92, h90, hF⟩ := hF
      refine cM_i (As := []) (rest := [.int (p1), .ref (am 0)]) hx hb hml hT hown hK hE hD hA hP hS (k_many l g am _ nf fi85 ar86 r93 fi91 ar92 h90) cw_X11_many mw38_14 ⟨⟨rfl, rfl⟩, Nat.le_of_ble_eq_true rfl, Nat.le_of_ble_eq_true rfl⟩ rfl hl.1 rfl (Nat.le_of_ble_eq_true rfl) dX11_stamp_14 ⟨Nat.zero_le _, Nat.zero_le _⟩ (fun H locs hP hS => ?_)
      refine lv_icmp_lt (tgt := 24) hx hb dX11_stamp_17 (by decide) (fun hc94 => ?_) (fun hc94 => ?_)
      · replace hF := br_yes hF hc94
        refine lv_iconst (v := (0 : Int32)) hx hb dX11_stamp_24 (by decide) ?_
        exact J25 (p1) (p2) (p3) (p4) (0 : Int32) _ _ _ _ _ hF (lv_sub hl [0, 1, 2, 3, 4] rfl) hP hS
      · replace hF := br_no hF hc94
        exact J20 (p1) (p2) (p3) (p4) _ _ _ _ _ hF (lv_sub hl [0, 1, 2, 3, 4] rfl) hP hS
theorem cw_X11_stamp : (Cond.instanceMethod yX11_stamp ∈ TB ∧ Cond.selects RX11 yX11_stamp yX11_stamp ∈ TB ∧ Cond.code yX11_stamp cX11_stamp 7 none ∈ TB) ∧ (yX11_stamp.cls = RX11 ∧ yX11_stamp.cls ≠ "java/lang/invoke/MethodHandle" ∧ yX11_stamp.cls ≠ "java/lang/invoke/VarHandle" ∧ (parseMethodDescriptor yX11_stamp.desc).map (fun d => d.parameters.length) = some 4) := ⟨⟨mw55_18, mw55_19, mw55_20⟩, by decide +kernel⟩
