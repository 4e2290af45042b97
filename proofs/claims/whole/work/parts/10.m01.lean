/-! X11_badTables -/
noncomputable def M_badTables_116 (K2 : Int32 → FI → AR → Option (Int32 × FI × AR)) (nf : Nat) (x1 : Int32) (fi : FI) (ar : AR) : Option (Int32 × FI × AR) :=
  bnd ((x1) + (1 : Int32)) fun x1_1 => K2 (x1_1) fi ar
noncomputable def M_badTables_114 (nf : Nat)  (fi : FI) (ar : AR) : Option (Int32 × FI × AR) :=
  some ((1 : Int32), fi, ar)
noncomputable def M_badTables_78 (K2 : Int32 → FI → AR → Option (Int32 × FI × AR)) (nf : Nat) (x1 : Int32) (t0 : Int32) (fi : FI) (ar : AR) : Option (Int32 × FI × AR) :=
  br ((t0) = 0) (M_badTables_114 nf  fi ar) (br ((fi 9) = (2 : Int32)) (obnd3 (M_entryAt nf fi ar (0 : Int32) (x1)) fun r7 fi5 ar6 => obnd3 (M_four nf fi5 ar6 (r7)) fun r11 fi9 ar10 => obnd3 (M_entryAt nf fi9 ar10 (1 : Int32) (x1)) fun r15 fi13 ar14 => obnd3 (M_four nf fi13 ar14 (r15)) fun r19 fi17 ar18 => br ((r11) = (r19)) (M_badTables_116 K2 nf  (x1) fi17 ar18) (M_badTables_114 nf  fi17 ar18)) (M_badTables_116 K2 nf  (x1) fi ar))
noncomputable def M_badTables_73 (K2 : Int32 → FI → AR → Option (Int32 × FI × AR)) (nf : Nat) (x1 : Int32) (fi : FI) (ar : AR) : Option (Int32 × FI × AR) :=
  M_badTables_78 K2 nf  (x1) (1 : Int32) fi ar
noncomputable def M_badTables_2b (K2 : Int32 → FI → AR → Option (Int32 × FI × AR)) (nf : Nat) (x1 : Int32) (fi : FI) (ar : AR) : Option (Int32 × FI × AR) :=
  br (((fi 13) + (2 : Int32)) ≤ (x1)) (some ((0 : Int32), fi, ar)) (obnd3 (M_entry nf fi ar (x1)) fun r25 fi23 ar24 => br ((x1) = 0) (br ((r25) = (268435448 : Int32)) (M_badTables_78 K2 nf  (x1) (1 : Int32) fi23 ar24) (M_badTables_78 K2 nf  (x1) (0 : Int32) fi23 ar24)) (br ((x1) = (1 : Int32)) (br ((r25) = (268435455 : Int32)) (M_badTables_78 K2 nf  (x1) (1 : Int32) fi23 ar24) (M_badTables_78 K2 nf  (x1) (0 : Int32) fi23 ar24)) (br ((r25) = 0) (M_badTables_73 K2 nf  (x1) fi23 ar24) (obnd3 (M_isCluster nf fi23 ar24 (r25)) fun r32 fi30 ar31 => br ((r32) = 0) (br ((r25) < (268435448 : Int32)) (M_badTables_78 K2 nf  (x1) (0 : Int32) fi30 ar31) (M_badTables_73 K2 nf  (x1) fi30 ar31)) (M_badTables_73 K2 nf  (x1) fi30 ar31)))))
noncomputable def M_badTables_2 (nf : Nat) (kf : Nat) : Int32 → FI → AR → Option (Int32 × FI × AR) := Nat.rec (fun _ _ _ => none) (fun _ K2 => M_badTables_2b K2 nf) kf
noncomputable def M_badTables (nf : Nat) (fi : FI) (ar : AR)  : Option (Int32 × FI × AR) :=
  M_badTables_2 nf nf (0 : Int32) fi ar
set_option maxHeartbeats 4000000 in
set_option maxRecDepth 100000 in
theorem k_badTables (l : Launch) (g : GT) (am : Nat → Nat) (sz : Nat) (nf : Nat) (fi : FI) (ar : AR)  (r : Int32) (fi' : FI) (ar' : AR) (hF : M_badTables nf fi ar  = some (r, fi', ar')) : Met l yX11_badTables (wx yX11_badTables cX11_badTables 4 (some .boolean)) ({ frames := 4, cells := 0, slots := 0, locals := 84 } : Room) (va_Pc [.ref (am 0)] (PM g am sz fi ar)) (QMi g am sz r fi' ar') 0 0 (AM am sz) := by
  refine Met.ofW (cc := cX11_badTables) (maxL := 4) (ret := (some .boolean)) (by decide) rfl ?_
  intro p e s m args below meth c s₁ B hml hv
  obtain ⟨rfl, hsz, hP, hK, hD0, hE⟩ := hv
  have hx := B.exec
  have hb := B.bytes
  have hr := B.returns
  have hts := atoms_spec (ws := (wx yX11_badTables cX11_badTables 4 (some .boolean))) B.pre
  have hT : ∀ w ∈ TB, w.before _ s = true := fun w h => hts w (List.mem_cons_of_mem _ h)
  have hown : s.vm.findClass RX11 = some m.cls := findClass_of_methodNamed B.named
  have hlocks := B.notSynchronized
  subst hsz
  have hD := dM hD0 s.heap.size
  have hA : ∀ q : Nat, s.heap.size ≤ q → AM am s.heap.size q := fun q h => Or.inr h
  have hS : va_S (AM am s.heap.size) s.heap s.heap [] := va_S.rf
  have hl := lv_entry ([.ref (am 0)]) (n := 4) (Nat.le_of_ble_eq_true rfl)
  rw [lg_entry_eq]
  generalize (lg_sl ([.ref (am 0)]) ++ List.replicate (4 - (lg_sl ([.ref (am 0)])).length) Slot.unset).toArray = ls at hl ⊢
  have hl : lv_has ls 4 [(0, .ref (am 0))] := hl
  unfold M_badTables at hF
  have J114 : ∀  (fi : FI) (ar : AR) (H : Heap) (locs : List Loc) (ls : Array Slot), M_badTables_114 nf fi ar = some (r, fi', ar') → lv_has ls 4 [(0, .ref (am 0))] → va_P (gD g) vwCl (WM g am fi ar) H → va_S (AM am s.heap.size) s.heap H locs → W p l e (headSpec (wx yX11_badTables cX11_badTables 4 (some .boolean)) ({ frames := 4, cells := 0, slots := 0, locals := 84 } : Room)).room s m ([.ref (am 0)] : List Value).toArray below meth c H locs 0 0 (MQ below (QMi g am s.heap.size r fi' ar') ([.ref (am 0)] : List Value).toArray s 0 0 (AM am s.heap.size)) (F0 m 114 ls []) := by
    intro fi ar H locs ls hF hl hP hS
    unfold M_badTables_114 at hF
    refine lv_iconst (v := (1 : Int32)) hx hb dX11_badTables_114 (by decide) ?_
    exact rM_z hx hb hr hlocks rfl hF hP hS dX11_badTables_115
  have L2 : ∀ kf : Nat, ∀ (x1 : Int32) (fi : FI) (ar : AR) (H : Heap) (locs : List Loc) (ls : Array Slot), M_badTables_2 nf kf x1 fi ar = some (r, fi', ar') → lv_has ls 4 [(0, .ref (am 0)), (1, .int x1)] → va_P (gD g) vwCl (WM g am fi ar) H → va_S (AM am s.heap.size) s.heap H locs → W p l e (headSpec (wx yX11_badTables cX11_badTables 4 (some .boolean)) ({ frames := 4, cells := 0, slots := 0, locals := 84 } : Room)).room s m ([.ref (am 0)] : List Value).toArray below meth c H locs 0 0 (MQ below (QMi g am s.heap.size r fi' ar') ([.ref (am 0)] : List Value).toArray s 0 0 (AM am s.heap.size)) (F0 m 2 ls []) := by
    intro kf
    induction kf with
    | zero => intro x1 fi ar H locs ls hF hl hP hS; cases (show (none : Option (Int32 × FI × AR)) = _ from hF)
    | succ kf ih2 =>
      intro x1 fi ar H locs ls hF hl hP hS
      obtain ⟨K2, hK2⟩ : ∃ K : Int32 → FI → AR → Option (Int32 × FI × AR), K = M_badTables_2 nf kf := ⟨_, rfl⟩
      replace hF : M_badTables_2b K2 nf x1 fi ar = some (r, fi', ar') := by rw [hK2]; exact hF
      rw [← hK2] at ih2
      clear hK2
      have J116 : ∀ (x1 : Int32) (fi : FI) (ar : AR) (H : Heap) (locs : List Loc) (ls : Array Slot), M_badTables_116 K2 nf x1 fi ar = some (r, fi', ar') → lv_has ls 4 [(0, .ref (am 0)), (1, .int x1)] → va_P (gD g) vwCl (WM g am fi ar) H → va_S (AM am s.heap.size) s.heap H locs → W p l e (headSpec (wx yX11_badTables cX11_badTables 4 (some .boolean)) ({ frames := 4, cells := 0, slots := 0, locals := 84 } : Room)).room s m ([.ref (am 0)] : List Value).toArray below meth c H locs 0 0 (MQ below (QMi g am s.heap.size r fi' ar') ([.ref (am 0)] : List Value).toArray s 0 0 (AM am s.heap.size)) (F0 m 116 ls []) := by
        intro x1 fi ar H locs ls hF hl hP hS
        unfold M_badTables_116 at hF
        obtain ⟨x1_1, ex1_1⟩ : ∃ y : Int32, y = (x1) + (1 : Int32) := ⟨_, rfl⟩
        replace hF := bnd_of hF ex1_1
        refine lv_iinc (v := x1_1) (lv' := [(1, .int (x1_1)), (0, .ref (am 0))]) hx hb dX11_badTables_116 hl (k := 1) rfl (by rw [ex1_1]; rfl) (by decide) rfl (fun ls hl => ?_)
        refine lv_goto (tgt := 2) hx hb dX11_badTables_119 (by decide) ?_
        exact ih2 (x1_1) _ _ _ _ _ hF (lv_sub hl [1, 0] rfl) hP hS
      have J78 : ∀ (x1 : Int32) (t0 : Int32) (fi : FI) (ar : AR) (H : Heap) (locs : List Loc) (ls : Array Slot), M_badTables_78 K2 nf x1 t0 fi ar = some (r, fi', ar') → lv_has ls 4 [(0, .ref (am 0)), (1, .int x1)] → va_P (gD g) vwCl (WM g am fi ar) H → va_S (AM am s.heap.size) s.heap H locs → W p l e (headSpec (wx yX11_badTables cX11_badTables 4 (some .boolean)) ({ frames := 4, cells := 0, slots := 0, locals := 84 } : Room)).room s m ([.ref (am 0)] : List Value).toArray below meth c H locs 0 0 (MQ below (QMi g am s.heap.size r fi' ar') ([.ref (am 0)] : List Value).toArray s 0 0 (AM am s.heap.size)) (F0 m 78 ls [.int t0]) := by
        intro x1 t0 fi ar H locs ls hF hl hP hS
        unfold M_badTables_78 at hF
        refine lv_istore_n (lv' := [(3, .int (t0)), (0, .ref (am 0)), (1, .int (x1))]) hx hb dX11_badTables_78 rfl hl (by decide) rfl (fun ls hl => ?_)
        refine lv_iload_n hx hb dX11_badTables_79 rfl (lv_at hl 0 rfl) ?_
        refine lv_if_eq (tgt := 114) hx hb dX11_badTables_80 (by decide) (fun hc2 => ?_) (fun hc2 => ?_)
        · replace hF := br_yes hF hc2
          exact J114  _ _ _ _ _ hF (lv_sub hl [1] rfl) hP hS
        · replace hF := br_no hF hc2
          refine lv_aload_n hx hb dX11_badTables_83 rfl (lv_at hl 1 rfl) ?_
          refine mg_9 hx hb hT hown hK hP mw19_4 dX11_badTables_84 ?_
          refine lv_iconst (v := (2 : Int32)) hx hb dX11_badTables_87 (by decide) ?_
          refine lv_icmp_ne (tgt := 116) hx hb dX11_badTables_88 (by decide) (fun hc3 => ?_) (fun hc3 => ?_)
          · replace hF := br_no hF hc3
            exact J116 (x1) _ _ _ _ _ hF (lv_sub hl [1, 2] rfl) hP hS
          · replace hF := br_yes hF hc3
            refine lv_aload_n hx hb dX11_badTables_91 rfl (lv_at hl 1 rfl) ?_
            refine lv_aload_n hx hb dX11_badTables_92 rfl (lv_at hl 1 rfl) ?_
            refine lv_iconst (v := (0 : Int32)) hx hb dX11_badTables_93 (by decide) ?_
            refine lv_iload_n hx hb dX11_badTables_94 rfl (lv_at hl 2 rfl) ?_
            replace hF := obnd3_of hF
            obtain ⟨r7, fi5, ar6, h4, hF⟩ := hF
            refine cM_i (As := [.int (0 : Int32), .int (x1)]) (rest := [.ref (am 0)]) hx hb hml hT hown hK hE hD hA hP hS (k_entryAt l g am _ nf fi ar (0 : Int32) (x1) r7 fi5 ar6 h4) cw_X11_entryAt mw20_6 ⟨⟨rfl, rfl⟩, Nat.le_of_ble_eq_true rfl, Nat.le_of_ble_eq_true rfl⟩ rfl hl.1 rfl (Nat.le_of_ble_eq_true rfl) dX11_badTables_95 ⟨Nat.zero_le _, Nat.zero_le _⟩ (fun H locs hP hS => ?_)
            replace hF := obnd3_of hF
            obtain ⟨r11, fi9, ar10, h8, hF⟩ := hF
            refine cM_i (As := [.int (r7)]) (rest := []) hx hb hml hT hown hK hE hD hA hP hS (k_four l g am _ nf fi5 ar6 (r7) r11 fi9 ar10 h8) cw_X11_four mw19_17 ⟨⟨rfl, rfl⟩, Nat.le_of_ble_eq_true rfl, Nat.le_of_ble_eq_true rfl⟩ rfl hl.1 rfl (Nat.le_of_ble_eq_true rfl) dX11_badTables_98 ⟨Nat.zero_le _, Nat.zero_le _⟩ (fun H locs hP hS => ?_)
            refine lv_aload_n hx hb dX11_badTables_101 rfl (lv_at hl 1 rfl) ?_
            refine lv_aload_n hx hb dX11_badTables_102 rfl (lv_at hl 1 rfl) ?_
            refine lv_iconst (v := (1 : Int32)) hx hb dX11_badTables_103 (by decide) ?_
            refine lv_iload_n hx hb dX11_badTables_104 rfl (lv_at hl 2 rfl) ?_
            replace hF := obnd3_of hF
            obtain ⟨r15, fi13, ar14, h12, hF⟩ := hF
            refine cM_i (As := [.int (1 : Int32), .int (x1)]) (rest := [.ref (am 0), .int (r11)]) hx hb hml hT hown hK hE hD hA hP hS (k_entryAt l g am _ nf fi9 ar10 (1 : Int32) (x1) r15 fi13 ar14 h12) cw_X11_entryAt mw20_6 ⟨⟨rfl, rfl⟩, Nat.le_of_ble_eq_true rfl, Nat.le_of_ble_eq_true rfl⟩ rfl hl.1 rfl (Nat.le_of_ble_eq_true rfl) dX11_badTables_105 ⟨Nat.zero_le _, Nat.zero_le _⟩ (fun H locs hP hS => ?_)
            replace hF := obnd3_of hF
            obtain ⟨r19, fi17, ar18, h16, hF⟩ := hF
            refine cM_i (As := [.int (r15)]) (rest := [.int (r11)]) hx hb hml hT hown hK hE hD hA hP hS (k_four l g am _ nf fi13 ar14 (r15) r19 fi17 ar18 h16) cw_X11_four mw19_17 ⟨⟨rfl, rfl⟩, Nat.le_of_ble_eq_true rfl, Nat.le_of_ble_eq_true rfl⟩ rfl hl.1 rfl (Nat.le_of_ble_eq_true rfl) dX11_badTables_108 ⟨Nat.zero_le _, Nat.zero_le _⟩ (fun H locs hP hS => ?_)
            refine lv_icmp_eq (tgt := 116) hx hb dX11_badTables_111 (by decide) (fun hc20 => ?_) (fun hc20 => ?_)
            · replace hF := br_yes hF hc20
              exact J116 (x1) _ _ _ _ _ hF (lv_sub hl [1, 2] rfl) hP hS
            · replace hF := br_no hF hc20
              exact J114  _ _ _ _ _ hF (lv_sub hl [1] rfl) hP hS
      have J73 : ∀ (x1 : Int32) (fi : FI) (ar : AR) (H : Heap) (locs : List Loc) (ls : Array Slot), M_badTables_73 K2 nf x1 fi ar = some (r, fi', ar') → lv_has ls 4 [(0, .ref (am 0)), (1, .int x1)] → va_P (gD g) vwCl (WM g am fi ar) H → va_S (AM am s.heap.size) s.heap H locs → W p l e (headSpec (wx yX11_badTables cX11_badTables 4 (some .boolean)) ({ frames := 4, cells := 0, slots := 0, locals := 84 } : Room)).room s m ([.ref (am 0)] : List Value).toArray below meth c H locs 0 0 (MQ below (QMi g am s.heap.size r fi' ar') ([.ref (am 0)] : List Value).toArray s 0 0 (AM am s.heap.size)) (F0 m 73 ls []) := by
        intro x1 fi ar H locs ls hF hl hP hS
        unfold M_badTables_73 at hF
        refine lv_iconst (v := (1 : Int32)) hx hb dX11_badTables_73 (by decide) ?_
        refine lv_goto (tgt := 78) hx hb dX11_badTables_74 (by decide) ?_
        exact J78 (x1) (1 : Int32) _ _ _ _ _ hF (lv_sub hl [0, 1] rfl) hP hS
      unfold M_badTables_2b at hF
      refine lv_iload_n hx hb dX11_badTables_2 rfl (lv_at hl 1 rfl) ?_
      refine lv_aload_n hx hb dX11_badTables_3 rfl (lv_at hl 0 rfl) ?_
      refine mg_13 hx hb hT hown hK hP mw18_5 dX11_badTables_4 ?_
      refine lv_iconst (v := (2 : Int32)) hx hb dX11_badTables_7 (by decide) ?_
      refine lv_iadd hx hb dX11_badTables_8 ?_
      refine lv_icmp_ge (tgt := 122) hx hb dX11_badTables_9 (by decide) (fun hc21 => ?_) (fun hc21 => ?_)
      · replace hF := br_yes hF hc21
        refine lv_iconst (v := (0 : Int32)) hx hb dX11_badTables_122 (by decide) ?_
        exact rM_z hx hb hr hlocks rfl hF hP hS dX11_badTables_123
      · replace hF := br_no hF hc21
        refine lv_aload_n hx hb dX11_badTables_12 rfl (lv_at hl 0 rfl) ?_
        refine lv_iload_n hx hb dX11_badTables_13 rfl (lv_at hl 1 rfl) ?_
        replace hF := obnd3_of hF
        obtain ⟨r25, fi23, ar24, h22, hF⟩ := hF
        refine cM_i (As := [.int (x1)]) (rest := []) hx hb hml hT hown hK hE hD hA hP hS (k_entry l g am _ nf fi ar (x1) r25 fi23 ar24 h22) cw_X11_entry mw31_17 ⟨⟨rfl, rfl⟩, Nat.le_of_ble_eq_true rfl, Nat.le_of_ble_eq_true rfl⟩ rfl hl.1 rfl (Nat.le_of_ble_eq_true rfl) dX11_badTables_14 ⟨Nat.zero_le _, Nat.zero_le _⟩ (fun H locs hP hS => ?_)
        refine lv_istore_n (lv' := [(2, .int (r25)), (0, .ref (am 0)), (1, .int (x1))]) hx hb dX11_badTables_17 rfl hl (by decide) rfl (fun ls hl => ?_)
        refine lv_iload_n hx hb dX11_badTables_18 rfl (lv_at hl 2 rfl) ?_
        refine lv_if_ne (tgt := 36) hx hb dX11_badTables_19 (by decide) (fun hc26 => ?_) (fun hc26 => ?_)
        · replace hF := br_no hF hc26
          refine lv_iload_n hx hb dX11_badTables_36 rfl (lv_at hl 2 rfl) ?_
          refine lv_iconst (v := (1 : Int32)) hx hb dX11_badTables_37 (by decide) ?_
          refine lv_icmp_ne (tgt := 55) hx hb dX11_badTables_38 (by decide) (fun hc27 => ?_) (fun hc27 => ?_)
          · replace hF := br_no hF hc27
            refine lv_iload_n hx hb dX11_badTables_55 rfl (lv_at hl 0 rfl) ?_
            refine lv_if_eq (tgt := 73) hx hb dX11_badTables_56 (by decide) (fun hc28 => ?_) (fun hc28 => ?_)
            · replace hF := br_yes hF hc28
              exact J73 (x1) _ _ _ _ _ hF (lv_sub hl [1, 2] rfl) hP hS
            · replace hF := br_no hF hc28
              refine lv_aload_n hx hb dX11_badTables_59 rfl (lv_at hl 1 rfl) ?_
              refine lv_iload_n hx hb dX11_badTables_60 rfl (lv_at hl 0 rfl) ?_
              replace hF := obnd3_of hF
              obtain ⟨r32, fi30, ar31, h29, hF⟩ := hF
              refine cM_i (As := [.int (r25)]) (rest := []) hx hb hml hT hown hK hE hD hA hP hS (k_isCluster l g am _ nf fi23 ar24 (r25) r32 fi30 ar31 h29) cw_X11_isCluster mw19_21 ⟨⟨rfl, rfl⟩, Nat.le_of_ble_eq_true rfl, Nat.le_of_ble_eq_true rfl⟩ rfl hl.1 rfl (Nat.le_of_ble_eq_true rfl) dX11_badTables_61 ⟨Nat.zero_le _, Nat.zero_le _⟩ (fun H locs hP hS => ?_)
              refine lv_if_ne (tgt := 73) hx hb dX11_badTables_64 (by decide) (fun hc33 => ?_) (fun hc33 => ?_)
              · replace hF := br_no hF hc33
                exact J73 (x1) _ _ _ _ _ hF (lv_sub hl [1, 2] rfl) hP hS
              · replace hF := br_yes hF hc33
                refine lv_iload_n hx hb dX11_badTables_67 rfl (lv_at hl 0 rfl) ?_
                refine lv_ldc (v := (268435448 : Int32)) hx hb hown (hT _ mw18_0) dX11_badTables_68 ?_
                refine lv_icmp_lt (tgt := 77) hx hb dX11_badTables_70 (by decide) (fun hc34 => ?_) (fun hc34 => ?_)
                · replace hF := br_yes hF hc34
                  refine lv_iconst (v := (0 : Int32)) hx hb dX11_badTables_77 (by decide) ?_
                  exact J78 (x1) (0 : Int32) _ _ _ _ _ hF (lv_sub hl [1, 2] rfl) hP hS
                · replace hF := br_no hF hc34
                  exact J73 (x1) _ _ _ _ _ hF (lv_sub hl [1, 2] rfl) hP hS
          · replace hF := br_yes hF hc27
            refine lv_iload_n hx hb dX11_badTables_41 rfl (lv_at hl 0 rfl) ?_
            refine lv_ldc (v := (268435455 : Int32)) hx hb hown (hT _ mw18_1) dX11_badTables_42 ?_
            refine lv_icmp_ne (tgt := 51) hx hb dX11_badTables_44 (by decide) (fun hc35 => ?_) (fun hc35 => ?_)
            · replace hF := br_no hF hc35
              refine lv_iconst (v := (0 : Int32)) hx hb dX11_badTables_51 (by decide) ?_
              refine lv_goto (tgt := 78) hx hb dX11_badTables_52 (by decide) ?_
              exact J78 (x1) (0 : Int32) _ _ _ _ _ hF (lv_sub hl [1, 2] rfl) hP hS
            · replace hF := br_yes hF hc35
              refine lv_iconst (v := (1 : Int32)) hx hb dX11_badTables_47 (by decide) ?_
              refine lv_goto (tgt := 78) hx hb dX11_badTables_48 (by decide) ?_
              exact J78 (x1) (1 : Int32) _ _ _ _ _ hF (lv_sub hl [1, 2] rfl) hP hS
        · replace hF := br_yes hF hc26
          refine lv_iload_n hx hb dX11_badTables_22 rfl (lv_at hl 0 rfl) ?_
          refine lv_ldc (v := (268435448 : Int32)) hx hb hown (hT _ mw18_0) dX11_badTables_23 ?_
          refine lv_icmp_ne (tgt := 32) hx hb dX11_badTables_25 (by decide) (fun hc36 => ?_) (fun hc36 => ?_)
          · replace hF := br_no hF hc36
            refine lv_iconst (v := (0 : Int32)) hx hb dX11_badTables_32 (by decide) ?_
            refine lv_goto (tgt := 78) hx hb dX11_badTables_33 (by decide) ?_
            exact J78 (x1) (0 : Int32) _ _ _ _ _ hF (lv_sub hl [1, 2] rfl) hP hS
          · replace hF := br_yes hF hc36
            refine lv_iconst (v := (1 : Int32)) hx hb dX11_badTables_28 (by decide) ?_
            refine lv_goto (tgt := 78) hx hb dX11_badTables_29 (by decide) ?_
            exact J78 (x1) (1 : Int32) _ _ _ _ _ hF (lv_sub hl [1, 2] rfl) hP hS
  replace hl := lv_sub hl [0] rfl
  refine lv_iconst (v := (0 : Int32)) hx hb dX11_badTables_0 (by decide) ?_
  refine lv_istore_n (lv' := [(1, .int (0 : Int32)), (0, .ref (am 0))]) hx hb dX11_badTables_1 rfl hl (by decide) rfl (fun ls hl => ?_)
  exact L2 nf (0 : Int32) _ _ _ _ _ hF (lv_sub hl [1, 0] rfl) hP hS
theorem cw_X11_badTables : (Cond.instanceMethod yX11_badTables ∈ TB ∧ Cond.selects RX11 yX11_badTables yX11_badTables ∈ TB ∧ Cond.code yX11_badTables cX11_badTables 4 (some .boolean) ∈ TB) ∧ (yX11_badTables.cls = RX11 ∧ yX11_badTables.cls ≠ "java/lang/invoke/MethodHandle" ∧ yX11_badTables.cls ≠ "java/lang/invoke/VarHandle" ∧ (parseMethodDescriptor yX11_badTables.desc).map (fun d => d.parameters.length) = some 0) := ⟨⟨mw31_14, mw31_15, mw31_16⟩, by decide +kernel⟩
/-! X11_follows -/
noncomputable def M_follows_32 (nf : Nat)  (fi : FI) (ar : AR) : Option (Int32 × FI × AR) :=
  some ((0 : Int32), fi, ar)
noncomputable def M_follows_7b (K7 : Int32 → FI → AR → Option (Int32 × FI × AR)) (nf : Nat) (x2 : Int32) (fi : FI) (ar : AR) : Option (Int32 × FI × AR) :=
  obnd3 (M_isCluster nf fi ar (x2)) fun r4 fi2 ar3 => br ((r4) = 0) (M_follows_32 nf  fi2 ar3) (gd (¬ ((x2) < 0 ∨ 560 ≤ (x2).toNatClampNeg)) (br ((ar3 19 (x2).toNatClampNeg) = 0) (obnd3 (M_entry nf fi2 ar3 (x2)) fun r11 fi9 ar10 => br ((r11) = 0) (M_follows_32 nf  fi9 ar10) (gd (¬ ((x2) < 0 ∨ 560 ≤ (x2).toNatClampNeg)) (bnd (va_up ar10 19 (upd (ar10 19) (x2).toNatClampNeg (vp_nar .boolean (1 : Int32)))) fun ar14 => gd (¬ ((fi9 31) < 0 ∨ 560 ≤ (fi9 31).toNatClampNeg)) (bnd (va_up ar14 29 (upd (ar14 29) (fi9 31).toNatClampNeg (x2))) fun ar16 => bnd (va_up fi9 31 ((fi9 31) + (1 : Int32))) fun fi17 => obnd3 (M_entry nf fi17 ar16 (x2)) fun r21 fi19 ar20 => br ((r21) < (268435448 : Int32)) (K7 (r21) fi19 ar20) (some ((1 : Int32), fi19, ar20)))))) (M_follows_32 nf  fi2 ar3)))
noncomputable def M_follows_7 (nf : Nat) (kf : Nat) : Int32 → FI → AR → Option (Int32 × FI × AR) := Nat.rec (fun _ _ _ => none) (fun _ K7 => M_follows_7b K7 nf) kf
noncomputable def M_follows (nf : Nat) (fi : FI) (ar : AR) (x1 : Int32) : Option (Int32 × FI × AR) :=
  bnd (va_up fi 31 (0 : Int32)) fun fi23 => M_follows_7 nf nf (x1) fi23 ar
set_option maxHeartbeats 4000000 in
set_option maxRecDepth 100000 in
theorem k_follows (l : Launch) (g : GT) (am : Nat → Nat) (sz : Nat) (nf : Nat) (fi : FI) (ar : AR) (p1 : Int32) (r : Int32) (fi' : FI) (ar' : AR) (hF : M_follows nf fi ar p1 = some (r, fi', ar')) : Met l yX11_follows (wx yX11_follows cX11_follows 3 (some .boolean)) ({ frames := 4, cells := 0, slots := 0, locals := 84 } : Room) (va_Pc [.ref (am 0), .int p1] (PM g am sz fi ar)) (QMi g am sz r fi' ar') 0 0 (AM am sz) := by
  refine Met.ofW (cc := cX11_follows) (maxL := 3) (ret := (some .boolean)) (by decide) rfl ?_
  intro p e s m args below meth c s₁ B hml hv
  obtain ⟨rfl, hsz, hP, hK, hD0, hE⟩ := hv
  have hx := B.exec
  have hb := B.bytes
  have hr := B.returns
  have hts := atoms_spec (ws := (wx yX11_follows cX11_follows 3 (some .boolean))) B.pre
  have hT : ∀ w ∈ TB, w.before _ s = true := fun w h => hts w (List.mem_cons_of_mem _ h)
  have hown : s.vm.findClass RX11 = some m.cls := findClass_of_methodNamed B.named
  have hlocks := B.notSynchronized
  subst hsz
  have hD := dM hD0 s.heap.size
  have hA : ∀ q : Nat, s.heap.size ≤ q → AM am s.heap.size q := fun q h => Or.inr h
  have hS : va_S (AM am s.heap.size) s.heap s.heap [] := va_S.rf
  have hl := lv_entry ([.ref (am 0), .int p1]) (n := 3) (Nat.le_of_ble_eq_true rfl)
  rw [lg_entry_eq]
  generalize (lg_sl ([.ref (am 0), .int p1]) ++ List.replicate (3 - (lg_sl ([.ref (am 0), .int p1])).length) Slot.unset).toArray = ls at hl ⊢
  have hl : lv_has ls 3 [(0, .ref (am 0)), (1, .int p1)] := hl
  unfold M_follows at hF
  have J32 : ∀  (fi : FI) (ar : AR) (H : Heap) (locs : List Loc) (ls : Array Slot), M_follows_32 nf fi ar = some (r, fi', ar') → lv_has ls 3 [(0, .ref (am 0))] → va_P (gD g) vwCl (WM g am fi ar) H → va_S (AM am s.heap.size) s.heap H locs → W p l e (headSpec (wx yX11_follows cX11_follows 3 (some .boolean)) ({ frames := 4, cells := 0, slots := 0, locals := 84 } : Room)).room s m ([.ref (am 0), .int p1] : List Value).toArray below meth c H locs 0 0 (MQ below (QMi g am s.heap.size r fi' ar') ([.ref (am 0), .int p1] : List Value).toArray s 0 0 (AM am s.heap.size)) (F0 m 32 ls []) := by
    intro fi ar H locs ls hF hl hP hS
    unfold M_follows_32 at hF
    refine lv_iconst (v := (0 : Int32)) hx hb dX11_follows_32 (by decide) ?_
    exact rM_z hx hb hr hlocks rfl hF hP hS dX11_follows_33
  have L7 : ∀ kf : Nat, ∀ (x2 : Int32) (fi : FI) (ar : AR) (H : Heap) (locs : List Loc) (ls : Array Slot), M_follows_7 nf kf x2 fi ar = some (r, fi', ar') → lv_has ls 3 [(0, .ref (am 0)), (2, .int x2)] → va_P (gD g) vwCl (WM g am fi ar) H → va_S (AM am s.heap.size) s.heap H locs → W p l e (headSpec (wx yX11_follows cX11_follows 3 (some .boolean)) ({ frames := 4, cells := 0, slots := 0, locals := 84 } : Room)).room s m ([.ref (am 0), .int p1] : List Value).toArray below meth c H locs 0 0 (MQ below (QMi g am s.heap.size r fi' ar') ([.ref (am 0), .int p1] : List Value).toArray s 0 0 (AM am s.heap.size)) (F0 m 7 ls []) := by
    intro kf
    induction kf with
    | zero => intro x2 fi ar H locs ls hF hl hP hS; cases (show (none : Option (Int32 × FI × AR)) = _ from hF)
    | succ kf ih7 =>
      intro x2 fi ar H locs ls hF hl hP hS
      obtain ⟨K7, hK7⟩ : ∃ K : Int32 → FI → AR → Option (Int32 × FI × AR), K = M_follows_7 nf kf := ⟨_, rfl⟩
      replace hF : M_follows_7b K7 nf x2 fi ar = some (r, fi', ar') := by rw [hK7]; exact hF
      rw [← hK7] at ih7
      clear hK7
      unfold M_follows_7b at hF
      refine lv_aload_n hx hb dX11_follows_7 rfl (lv_at hl 0 rfl) ?_
      refine lv_iload_n hx hb dX11_follows_8 rfl (lv_at hl 1 rfl) ?_
      replace hF := obnd3_of hF
      obtain ⟨r4, fi2, ar3, h1, hF⟩ := hF
      refine cM_i (As := [.int (x2)]) (rest := []) hx hb hml hT hown hK hE hD hA hP hS (k_isCluster l g am _ nf fi ar (x2) r4 fi2 ar3 h1) cw_X11_isCluster mw19_21 ⟨⟨rfl, rfl⟩, Nat.le_of_ble_eq_true rfl, Nat.le_of_ble_eq_true rfl⟩ rfl hl.1 rfl (Nat.le_of_ble_eq_true rfl) dX11_follows_9 ⟨Nat.zero_le _, Nat.zero_le _⟩ (fun H locs hP hS => ?_)
      refine lv_if_eq (tgt := 32) hx hb dX11_follows_12 (by decide) (fun hc5 => ?_) (fun hc5 => ?_)
      · replace hF := br_yes hF hc5
        exact J32  _ _ _ _ _ hF (lv_sub hl [0] rfl) hP hS
      · replace hF := br_no hF hc5
        refine lv_aload_n hx hb dX11_follows_15 rfl (lv_at hl 0 rfl) ?_
        refine mg_19 hx hb hT hown hK hP mw6_4 dX11_follows_16 ?_
        refine lv_iload_n hx hb dX11_follows_19 rfl (lv_at hl 1 rfl) ?_
        replace hF := gd_of hF
        obtain ⟨hi6, hF⟩ := hF
        refine ml_19 hx hb hK hP hi6 dX11_follows_20 ?_
        refine lv_if_ne (tgt := 32) hx hb dX11_follows_21 (by decide) (fun hc7 => ?_) (fun hc7 => ?_)
        · replace hF := br_no hF hc7
          exact J32  _ _ _ _ _ hF (lv_sub hl [0] rfl) hP hS
        · replace hF := br_yes hF hc7
          refine lv_aload_n hx hb dX11_follows_24 rfl (lv_at hl 0 rfl) ?_
          refine lv_iload_n hx hb dX11_follows_25 rfl (lv_at hl 1 rfl) ?_
          replace hF := obnd3_of hF
          obtain ⟨r11, fi9, ar10, h8, hF⟩ := hF
          refine cM_i (As := [.int (x2)]) (rest := []) hx hb hml hT hown hK hE hD hA hP hS (k_entry l g am _ nf fi2 ar3 (x2) r11 fi9 ar10 h8) cw_X11_entry mw31_17 ⟨⟨rfl, rfl⟩, Nat.le_of_ble_eq_true rfl, Nat.le_of_ble_eq_true rfl⟩ rfl hl.1 rfl (Nat.le_of_ble_eq_true rfl) dX11_follows_26 ⟨Nat.zero_le _, Nat.zero_le _⟩ (fun H locs hP hS => ?_)
          refine lv_if_ne (tgt := 34) hx hb dX11_follows_29 (by decide) (fun hc12 => ?_) (fun hc12 => ?_)
          · replace hF := br_no hF hc12
            refine lv_aload_n hx hb dX11_follows_34 rfl (lv_at hl 0 rfl) ?_
            refine mg_19 hx hb hT hown hK hP mw6_4 dX11_follows_35 ?_
            refine lv_iload_n hx hb dX11_follows_38 rfl (lv_at hl 1 rfl) ?_
            refine lv_iconst (v := (1 : Int32)) hx hb dX11_follows_39 (by decide) ?_
            replace hF := gd_of hF
            obtain ⟨hi13, hF⟩ := hF
            obtain ⟨ar14, ear14⟩ : ∃ y : AR, y = va_up ar10 19 (upd (ar10 19) (x2).toNatClampNeg (vp_nar .boolean (1 : Int32))) := ⟨_, rfl⟩
            replace hF := bnd_of hF ear14
            refine ms_19 hx hb hK hP hD hS hi13 dX11_follows_40 (fun H locs hP hS => ?_)
            rw [← ear14] at hP
            refine lv_aload_n hx hb dX11_follows_41 rfl (lv_at hl 0 rfl) ?_
            refine mg_29 hx hb hT hown hK hP mw6_16 dX11_follows_42 ?_
            refine lv_aload_n hx hb dX11_follows_45 rfl (lv_at hl 0 rfl) ?_
            refine mg_31 hx hb hT hown hK hP mw32_5 dX11_follows_46 ?_
            refine lv_iload_n hx hb dX11_follows_49 rfl (lv_at hl 1 rfl) ?_
            replace hF := gd_of hF
            obtain ⟨hi15, hF⟩ := hF
            obtain ⟨ar16, ear16⟩ : ∃ y : AR, y = va_up ar14 29 (upd (ar14 29) (fi9 31).toNatClampNeg (x2)) := ⟨_, rfl⟩
            replace hF := bnd_of hF ear16
            refine ms_29 hx hb hK hP hD hS hi15 dX11_follows_50 (fun H locs hP hS => ?_)
            rw [← ear16] at hP
            refine lv_aload_n hx hb dX11_follows_51 rfl (lv_at hl 0 rfl) ?_
            refine lv_dup hx hb dX11_follows_52 rfl ?_
            refine mg_31 hx hb hT hown hK hP mw32_5 dX11_follows_53 ?_
            refine lv_iconst (v := (1 : Int32)) hx hb dX11_follows_56 (by decide) ?_
            refine lv_iadd hx hb dX11_follows_57 ?_
            obtain ⟨fi17, efi17⟩ : ∃ y : FI, y = va_up fi9 31 ((fi9 31) + (1 : Int32)) := ⟨_, rfl⟩
            replace hF := bnd_of hF efi17
            refine mp_31 hx hb hT hown hK hP hD hS mw32_5 dX11_follows_58 (fun H locs hP hS => ?_)
            rw [← efi17] at hP
            refine lv_aload_n hx hb dX11_follows_61 rfl (lv_at hl 0 rfl) ?_
            refine lv_iload_n hx hb dX11_follows_62 rfl (lv_at hl 1 rfl) ?_
            replace hF := obnd3_of hF
            obtain ⟨r21, fi19, ar20, h18, hF⟩ := hF
            refine cM_i (As := [.int (x2)]) (rest := []) hx hb hml hT hown hK hE hD hA hP hS (k_entry l g am _ nf fi17 ar16 (x2) r21 fi19 ar20 h18) cw_X11_entry mw31_17 ⟨⟨rfl, rfl⟩, Nat.le_of_ble_eq_true rfl, Nat.le_of_ble_eq_true rfl⟩ rfl hl.1 rfl (Nat.le_of_ble_eq_true rfl) dX11_follows_63 ⟨Nat.zero_le _, Nat.zero_le _⟩ (fun H locs hP hS => ?_)
            refine lv_istore_n (lv' := [(2, .int (r21)), (0, .ref (am 0))]) hx hb dX11_follows_66 rfl hl (by decide) rfl (fun ls hl => ?_)
            refine lv_iload_n hx hb dX11_follows_67 rfl (lv_at hl 0 rfl) ?_
            refine lv_ldc (v := (268435448 : Int32)) hx hb hown (hT _ mw18_0) dX11_follows_68 ?_
            refine lv_icmp_lt (tgt := 7) hx hb dX11_follows_70 (by decide) (fun hc22 => ?_) (fun hc22 => ?_)
            · replace hF := br_yes hF hc22
              exact ih7 (r21) _ _ _ _ _ hF (lv_sub hl [1, 0] rfl) hP hS
            · replace hF := br_no hF hc22
              refine lv_iconst (v := (1 : Int32)) hx hb dX11_follows_73 (by decide) ?_
              exact rM_z hx hb hr hlocks rfl hF hP hS dX11_follows_74
          · replace hF := br_yes hF hc12
            exact J32  _ _ _ _ _ hF (lv_sub hl [0] rfl) hP hS
  replace hl := lv_sub hl [0, 1] rfl
  refine lv_aload_n hx hb dX11_follows_0 rfl (lv_at hl 0 rfl) ?_
  refine lv_iconst (v := (0 : Int32)) hx hb dX11_follows_1 (by decide) ?_
  obtain ⟨fi23, efi23⟩ : ∃ y : FI, y = va_up fi 31 (0 : Int32) := ⟨_, rfl⟩
  replace hF := bnd_of hF efi23
  refine mp_31 hx hb hT hown hK hP hD hS mw32_5 dX11_follows_2 (fun H locs hP hS => ?_)
  rw [← efi23] at hP
  refine lv_iload_n hx hb dX11_follows_5 rfl (lv_at hl 1 rfl) ?_
  refine lv_istore_n (lv' := [(2, .int (p1)), (0, .ref (am 0)), (1, .int (p1))]) hx hb dX11_follows_6 rfl hl (by decide) rfl (fun ls hl => ?_)
  exact L7 nf (p1) _ _ _ _ _ hF (lv_sub hl [1, 0] rfl) hP hS
theorem cw_X11_follows : (Cond.instanceMethod yX11_follows ∈ TB ∧ Cond.selects RX11 yX11_follows yX11_follows ∈ TB ∧ Cond.code yX11_follows cX11_follows 3 (some .boolean) ∈ TB) ∧ (yX11_follows.cls = RX11 ∧ yX11_follows.cls ≠ "java/lang/invoke/MethodHandle" ∧ yX11_follows.cls ≠ "java/lang/invoke/VarHandle" ∧ (parseMethodDescriptor yX11_follows.desc).map (fun d => d.parameters.length) = some 1) := ⟨⟨mw32_18, mw32_19, mw32_20⟩, by decide +kernel⟩
/-! X11_walk -/
noncomputable def M_walk_46 (nf : Nat)  (fi : FI) (ar : AR) : Option (Unit × FI × AR) :=
  some ((), fi, ar)
noncomputable def M_walk_7b (K7 : Int32 → FI → AR → Option (Unit × FI × AR)) (nf : Nat) (x2 : Int32) (fi : FI) (ar : AR) : Option (Unit × FI × AR) :=
  br ((x2) = 0) (M_walk_46 nf  fi ar) (br ((268435448 : Int32) ≤ (x2)) (M_walk_46 nf  fi ar) (gd (¬ ((fi 31) < 0 ∨ 560 ≤ (fi 31).toNatClampNeg)) (bnd (va_up ar 29 (upd (ar 29) (fi 31).toNatClampNeg (x2))) fun ar4 => bnd (va_up fi 31 ((fi 31) + (1 : Int32))) fun fi5 => obnd3 (M_entry nf fi5 ar4 (x2)) fun r9 fi7 ar8 => K7 (r9) fi7 ar8)))
noncomputable def M_walk_7 (nf : Nat) (kf : Nat) : Int32 → FI → AR → Option (Unit × FI × AR) := Nat.rec (fun _ _ _ => none) (fun _ K7 => M_walk_7b K7 nf) kf
noncomputable def M_walk (nf : Nat) (fi : FI) (ar : AR) (x1 : Int32) : Option (Unit × FI × AR) :=
  bnd (va_up fi 31 (0 : Int32)) fun fi10 => M_walk_7 nf nf (x1) fi10 ar
set_option maxHeartbeats 4000000 in
set_option maxRecDepth 100000 in
theorem k_walk (l : Launch) (g : GT) (am : Nat → Nat) (sz : Nat) (nf : Nat) (fi : FI) (ar : AR) (p1 : Int32) (r : Unit) (fi' : FI) (ar' : AR) (hF : M_walk nf fi ar p1 = some (r, fi', ar')) : Met l yX11_walk (wx yX11_walk cX11_walk 3 none) ({ frames := 4, cells := 0, slots := 0, locals := 84 } : Room) (va_Pc [.ref (am 0), .int p1] (PM g am sz fi ar)) (QMv g am sz r fi' ar') 0 0 (AM am sz) := by
  refine Met.ofW (cc := cX11_walk) (maxL := 3) (ret := none) (by decide) rfl ?_
  intro p e s m args below meth c s₁ B hml hv
  obtain ⟨rfl, hsz, hP, hK, hD0, hE⟩ := hv
  have hx := B.exec
  have hb := B.bytes
  have hr := B.returns
  have hts := atoms_spec (ws := (wx yX11_walk cX11_walk 3 none)) B.pre
  have hT : ∀ w ∈ TB, w.before _ s = true := fun w h => hts w (List.mem_cons_of_mem _ h)
  have hown : s.vm.findClass RX11 = some m.cls := findClass_of_methodNamed B.named
  have hlocks := B.notSynchronized
  subst hsz
  have hD := dM hD0 s.heap.size
  have hA : ∀ q : Nat, s.heap.size ≤ q → AM am s.heap.size q := fun q h => Or.inr h
  have hS : va_S (AM am s.heap.size) s.heap s.heap [] := va_S.rf
  have hl := lv_entry ([.ref (am 0), .int p1]) (n := 3) (Nat.le_of_ble_eq_true rfl)
  rw [lg_entry_eq]
  generalize (lg_sl ([.ref (am 0), .int p1]) ++ List.replicate (3 - (lg_sl ([.ref (am 0), .int p1])).length) Slot.unset).toArray = ls at hl ⊢
  have hl : lv_has ls 3 [(0, .ref (am 0)), (1, .int p1)] := hl
  unfold M_walk at hF
  have J46 : ∀  (fi : FI) (ar : AR) (H : Heap) (locs : List Loc) (ls : Array Slot), M_walk_46 nf fi ar = some (r, fi', ar') → lv_has ls 3 [(0, .ref (am 0))] → va_P (gD g) vwCl (WM g am fi ar) H → va_S (AM am s.heap.size) s.heap H locs → W p l e (headSpec (wx yX11_walk cX11_walk 3 none) ({ frames := 4, cells := 0, slots := 0, locals := 84 } : Room)).room s m ([.ref (am 0), .int p1] : List Value).toArray below meth c H locs 0 0 (MQ below (QMv g am s.heap.size r fi' ar') ([.ref (am 0), .int p1] : List Value).toArray s 0 0 (AM am s.heap.size)) (F0 m 46 ls []) := by
    intro fi ar H locs ls hF hl hP hS
    unfold M_walk_46 at hF
    exact rM_v hx hb hr hlocks hF hP hS dX11_walk_46
  have L7 : ∀ kf : Nat, ∀ (x2 : Int32) (fi : FI) (ar : AR) (H : Heap) (locs : List Loc) (ls : Array Slot), M_walk_7 nf kf x2 fi ar = some (r, fi', ar') → lv_has ls 3 [(0, .ref (am 0)), (2, .int x2)] → va_P (gD g) vwCl (WM g am fi ar) H → va_S (AM am s.heap.size) s.heap H locs → W p l e (headSpec (wx yX11_walk cX11_walk 3 none) ({ frames := 4, cells := 0, slots := 0, locals := 84 } : Room)).room s m ([.ref (am 0), .int p1] : List Value).toArray below meth c H locs 0 0 (MQ below (QMv g am s.heap.size r fi' ar') ([.ref (am 0), .int p1] : List Value).toArray s 0 0 (AM am s.heap.size)) (F0 m 7 ls []) := by
    intro kf
    induction kf with
    | zero => intro x2 fi ar H locs ls hF hl hP hS; cases (show (none : Option (Unit × FI × AR)) = _ from hF)
    | succ kf ih7 =>
      intro x2 fi ar H locs ls hF hl hP hS
      obtain ⟨K7, hK7⟩ : ∃ K : Int32 → FI → AR → Option (Unit × FI × AR), K = M_walk_7 nf kf := ⟨_, rfl⟩
      replace hF : M_walk_7b K7 nf x2 fi ar = some (r, fi', ar') := by rw [hK7]; exact hF
      rw [← hK7] at ih7
      clear hK7
      unfold M_walk_7b at hF
      refine lv_iload_n hx hb dX11_walk_7 rfl (lv_at hl 1 rfl) ?_
      refine lv_if_eq (tgt := 46) hx hb dX11_walk_8 (by decide) (fun hc1 => ?_) (fun hc1 => ?_)
      · replace hF := br_yes hF hc1
        exact J46  _ _ _ _ _ hF (lv_sub hl [0] rfl) hP hS
      · replace hF := br_no hF hc1
        refine lv_iload_n hx hb dX11_walk_11 rfl (lv_at hl 1 rfl) ?_
        refine lv_ldc (v := (268435448 : Int32)) hx hb hown (hT _ mw18_0) dX11_walk_12 ?_
        refine lv_icmp_ge (tgt := 46) hx hb dX11_walk_14 (by decide) (fun hc2 => ?_) (fun hc2 => ?_)
        · replace hF := br_yes hF hc2
          exact J46  _ _ _ _ _ hF (lv_sub hl [0] rfl) hP hS
        · replace hF := br_no hF hc2
          refine lv_aload_n hx hb dX11_walk_17 rfl (lv_at hl 0 rfl) ?_
          refine mg_29 hx hb hT hown hK hP mw6_16 dX11_walk_18 ?_
          refine lv_aload_n hx hb dX11_walk_21 rfl (lv_at hl 0 rfl) ?_
          refine mg_31 hx hb hT hown hK hP mw32_5 dX11_walk_22 ?_
          refine lv_iload_n hx hb dX11_walk_25 rfl (lv_at hl 1 rfl) ?_
          replace hF := gd_of hF
          obtain ⟨hi3, hF⟩ := hF
          obtain ⟨ar4, ear4⟩ : ∃ y : AR, y = va_up ar 29 (upd (ar 29) (fi 31).toNatClampNeg (x2)) := ⟨_, rfl⟩
          replace hF := bnd_of hF ear4
          refine ms_29 hx hb hK hP hD hS hi3 dX11_walk_26 (fun H locs hP hS => ?_)
          rw [← ear4] at hP
          refine lv_aload_n hx hb dX11_walk_27 rfl (lv_at hl 0 rfl) ?_
          refine lv_dup hx hb dX11_walk_28 rfl ?_
          refine mg_31 hx hb hT hown hK hP mw32_5 dX11_walk_29 ?_
          refine lv_iconst (v := (1 : Int32)) hx hb dX11_walk_32 (by decide) ?_
          refine lv_iadd hx hb dX11_walk_33 ?_
          obtain ⟨fi5, efi5⟩ : ∃ y : FI, y = va_up fi 31 ((fi 31) + (1 : Int32)) := ⟨_, rfl⟩
          replace hF := bnd_of hF efi5
          refine mp_31 hx hb hT hown hK hP hD hS mw32_5 dX11_walk_34 (fun H locs hP hS => ?_)
          rw [← efi5] at hP
          refine lv_aload_n hx hb dX11_walk_37 rfl (lv_at hl 0 rfl) ?_
          refine lv_iload_n hx hb dX11_walk_38 rfl (lv_at hl 1 rfl) ?_
          replace hF := obnd3_of hF
          obtain ⟨r9, fi7, ar8, h6, hF⟩ := hF
          refine cM_i (As := [.int (x2)]) (rest := []) hx hb hml hT hown hK hE hD hA hP hS (k_entry l g am _ nf fi5 ar4 (x2) r9 fi7 ar8 h6) cw_X11_entry mw31_17 ⟨⟨rfl, rfl⟩, Nat.le_of_ble_eq_true rfl, Nat.le_of_ble_eq_true rfl⟩ rfl hl.1 rfl (Nat.le_of_ble_eq_true rfl) dX11_walk_39 ⟨Nat.zero_le _, Nat.zero_le _⟩ (fun H locs hP hS => ?_)
          refine lv_istore_n (lv' := [(2, .int (r9)), (0, .ref (am 0))]) hx hb dX11_walk_42 rfl hl (by decide) rfl (fun ls hl => ?_)
          refine lv_goto (tgt := 7) hx hb dX11_walk_43 (by decide) ?_
          exact ih7 (r9) _ _ _ _ _ hF (lv_sub hl [1, 0] rfl) hP hS
  replace hl := lv_sub hl [0, 1] rfl
  refine lv_aload_n hx hb dX11_walk_0 rfl (lv_at hl 0 rfl) ?_
  refine lv_iconst (v := (0 : Int32)) hx hb dX11_walk_1 (by decide) ?_
  obtain ⟨fi10, efi10⟩ : ∃ y : FI, y = va_up fi 31 (0 : Int32) := ⟨_, rfl⟩
  replace hF := bnd_of hF efi10
  refine mp_31 hx hb hT hown hK hP hD hS mw32_5 dX11_walk_2 (fun H locs hP hS => ?_)
  rw [← efi10] at hP
  refine lv_iload_n hx hb dX11_walk_5 rfl (lv_at hl 1 rfl) ?_
  refine lv_istore_n (lv' := [(2, .int (p1)), (0, .ref (am 0)), (1, .int (p1))]) hx hb dX11_walk_6 rfl hl (by decide) rfl (fun ls hl => ?_)
  exact L7 nf (p1) _ _ _ _ _ hF (lv_sub hl [1, 0] rfl) hP hS
theorem cw_X11_walk : (Cond.instanceMethod yX11_walk ∈ TB ∧ Cond.selects RX11 yX11_walk yX11_walk ∈ TB ∧ Cond.code yX11_walk cX11_walk 3 none ∈ TB) ∧ (yX11_walk.cls = RX11 ∧ yX11_walk.cls ≠ "java/lang/invoke/MethodHandle" ∧ yX11_walk.cls ≠ "java/lang/invoke/VarHandle" ∧ (parseMethodDescriptor yX11_walk.desc).map (fun d => d.parameters.length) = some 1) := ⟨⟨mw43_10, mw43_11, mw43_12⟩, by decide +kernel⟩
/-! X11_firstOf -/
noncomputable def M_firstOf (nf : Nat) (fi : FI) (ar : AR) (x1 : Int32) : Option (Int32 × FI × AR) :=
  obnd3 (M_two nf fi ar ((x1) + (20 : Int32))) fun r4 fi2 ar3 => obnd3 (M_two nf fi2 ar3 ((x1) + (26 : Int32))) fun r8 fi6 ar7 => some ((((r4) <<< ((16 : Int32) &&& 31)) ||| (r8)), fi6, ar7)
set_option maxHeartbeats 4000000 in
set_option maxRecDepth 100000 in
theorem k_firstOf (l : Launch) (g : GT) (am : Nat → Nat) (sz : Nat) (nf : Nat) (fi : FI) (ar : AR) (p1 : Int32) (r : Int32) (fi' : FI) (ar' : AR) (hF : M_firstOf nf fi ar p1 = some (r, fi', ar')) : Met l yX11_firstOf (wx yX11_firstOf cX11_firstOf 2 (some .int)) ({ frames := 2, cells := 0, slots := 0, locals := 42 } : Room) (va_Pc [.ref (am 0), .int p1] (PM g am sz fi ar)) (QMi g am sz r fi' ar') 0 0 (AM am sz) := by
  refine Met.ofW (cc := cX11_firstOf) (maxL := 2) (ret := (some .int)) (by decide) rfl ?_
  intro p e s m args below meth c s₁ B hml hv
  obtain ⟨rfl, hsz, hP, hK, hD0, hE⟩ := hv
  have hx := B.exec
  have hb := B.bytes
  have hr := B.returns
  have hts := atoms_spec (ws := (wx yX11_firstOf cX11_firstOf 2 (some .int))) B.pre
  have hT : ∀ w ∈ TB, w.before _ s = true := fun w h => hts w (List.mem_cons_of_mem _ h)
  have hown : s.vm.findClass RX11 = some m.cls := findClass_of_methodNamed B.named
  have hlocks := B.notSynchronized
  subst hsz
  have hD := dM hD0 s.heap.size
  have hA : ∀ q : Nat, s.heap.size ≤ q → AM am s.heap.size q := fun q h => Or.inr h
  have hS : va_S (AM am s.heap.size) s.heap s.heap [] := va_S.rf
  have hl := lv_entry ([.ref (am 0), .int p1]) (n := 2) (Nat.le_of_ble_eq_true rfl)
  rw [lg_entry_eq]
  generalize (lg_sl ([.ref (am 0), .int p1]) ++ List.replicate (2 - (lg_sl ([.ref (am 0), .int p1])).length) Slot.unset).toArray = ls at hl ⊢
  have hl : lv_has ls 2 [(0, .ref (am 0)), (1, .int p1)] := hl
  unfold M_firstOf at hF
  replace hl := lv_sub hl [0, 1] rfl
  refine lv_aload_n hx hb dX11_firstOf_0 rfl (lv_at hl 0 rfl) ?_
  refine lv_iload_n hx hb dX11_firstOf_1 rfl (lv_at hl 1 rfl) ?_
  refine lv_bipush (v := (20 : Int32)) hx hb dX11_firstOf_2 (by decide) ?_
  refine lv_iadd hx hb dX11_firstOf_4 ?_
  replace hF := obnd3_of hF
  obtain ⟨r4, fi2, ar3, h1, hF⟩ := hF
  refine cM_i (As := [.int ((p1) + (20 : Int32))]) (rest := []) hx hb hml hT hown hK hE hD hA hP hS (k_two l g am _ nf fi ar ((p1) + (20 : Int32)) r4 fi2 ar3 h1) cw_X11_two mw19_13 ⟨⟨rfl, rfl⟩, Nat.le_of_ble_eq_true rfl, Nat.le_of_ble_eq_true rfl⟩ rfl hl.1 rfl (Nat.le_of_ble_eq_true rfl) dX11_firstOf_5 ⟨Nat.zero_le _, Nat.zero_le _⟩ (fun H locs hP hS => ?_)
  refine lv_bipush (v := (16 : Int32)) hx hb dX11_firstOf_8 (by decide) ?_
  refine lv_ishl hx hb dX11_firstOf_10 ?_
  refine lv_aload_n hx hb dX11_firstOf_11 rfl (lv_at hl 0 rfl) ?_
  refine lv_iload_n hx hb dX11_firstOf_12 rfl (lv_at hl 1 rfl) ?_
  refine lv_bipush (v := (26 : Int32)) hx hb dX11_firstOf_13 (by decide) ?_
  refine lv_iadd hx hb dX11_firstOf_15 ?_
  replace hF := obnd3_of hF
  obtain ⟨r8, fi6, ar7, h5, hF⟩ := hF
  refine cM_i (As := [.int ((p1) + (26 : Int32))]) (rest := [.int ((r4) <<< ((16 : Int32) &&& 31))]) hx hb hml hT hown hK hE hD hA hP hS (k_two l g am _ nf fi2 ar3 ((p1) + (26 : Int32)) r8 fi6 ar7 h5) cw_X11_two mw19_13 ⟨⟨rfl, rfl⟩, Nat.le_of_ble_eq_true rfl, Nat.le_of_ble_eq_true rfl⟩ rfl hl.1 rfl (Nat.le_of_ble_eq_true rfl) dX11_firstOf_16 ⟨Nat.zero_le _, Nat.zero_le _⟩ (fun H locs hP hS => ?_)
  refine lv_ior hx hb dX11_firstOf_19 ?_
  exact rM_i hx hb hr hlocks hF hP hS dX11_firstOf_20
theorem cw_X11_firstOf : (Cond.instanceMethod yX11_firstOf ∈ TB ∧ Cond.selects RX11 yX11_firstOf yX11_firstOf ∈ TB ∧ Cond.code yX11_firstOf cX11_firstOf 2 (some .int) ∈ TB) ∧ (yX11_firstOf.cls = RX11 ∧ yX11_firstOf.cls ≠ "java/lang/invoke/MethodHandle" ∧ yX11_firstOf.cls ≠ "java/lang/invoke/VarHandle" ∧ (parseMethodDescriptor yX11_firstOf.desc).map (fun d => d.parameters.length) = some 1) := ⟨⟨mw32_14, mw32_15, mw32_16⟩, by decide +kernel⟩
/-! X11_isFolder -/
noncomputable def M_isFolder_28 (nf : Nat) (t0 : Int32) (fi : FI) (ar : AR) : Option (Int32 × FI × AR) :=
  gd ((t0) &&& 1 = (t0)) (some ((t0), fi, ar))
noncomputable def M_isFolder_23 (nf : Nat)  (fi : FI) (ar : AR) : Option (Int32 × FI × AR) :=
  M_isFolder_28 nf  (1 : Int32) fi ar
noncomputable def M_isFolder (nf : Nat) (fi : FI) (ar : AR) (x1 : Int32) : Option (Int32 × FI × AR) :=
  br ((x1) = 0) (M_isFolder_23 nf  fi ar) (gd (¬ ((x1) < 0 ∨ 16400 ≤ (x1).toNatClampNeg)) (obnd3 (M_one nf fi ar ((ar 20 (x1).toNatClampNeg) + (11 : Int32))) fun r7 fi5 ar6 => br (((r7) &&& (16 : Int32)) = 0) (M_isFolder_28 nf  (0 : Int32) fi5 ar6) (M_isFolder_23 nf  fi5 ar6)))
set_option maxHeartbeats 4000000 in
set_option maxRecDepth 100000 in
theorem k_isFolder (l : Launch) (g : GT) (am : Nat → Nat) (sz : Nat) (nf : Nat) (fi : FI) (ar : AR) (p1 : Int32) (r : Int32) (fi' : FI) (ar' : AR) (hF : M_isFolder nf fi ar p1 = some (r, fi', ar')) : Met l yX11_isFolder (wx yX11_isFolder cX11_isFolder 2 (some .boolean)) ({ frames := 1, cells := 0, slots := 0, locals := 21 } : Room) (va_Pc [.ref (am 0), .int p1] (PM g am sz fi ar)) (QMi g am sz r fi' ar') 0 0 (AM am sz) := by
  refine Met.ofW (cc := cX11_isFolder) (maxL := 2) (ret := (some .boolean)) (by decide) rfl ?_
  intro p e s m args below meth c s₁ B hml hv
  obtain ⟨rfl, hsz, hP, hK, hD0, hE⟩ := hv
  have hx := B.exec
  have hb := B.bytes
  have hr := B.returns
  have hts := atoms_spec (ws := (wx yX11_isFolder cX11_isFolder 2 (some .boolean))) B.pre
  have hT : ∀ w ∈ TB, w.before _ s = true := fun w h => hts w (List.mem_cons_of_mem _ h)
  have hown : s.vm.findClass RX11 = some m.cls := findClass_of_methodNamed B.named
  have hlocks := B.notSynchronized
  subst hsz
  have hD := dM hD0 s.heap.size
  have hA : ∀ q : Nat, s.heap.size ≤ q → AM am s.heap.size q := fun q h => Or.inr h
  have hS : va_S (AM am s.heap.size) s.heap s.heap [] := va_S.rf
  have hl := lv_entry ([.ref (am 0), .int p1]) (n := 2) (Nat.le_of_ble_eq_true rfl)
  rw [lg_entry_eq]
  generalize (lg_sl ([.ref (am 0), .int p1]) ++ List.replicate (2 - (lg_sl ([.ref (am 0), .int p1])).length) Slot.unset).toArray = ls at hl ⊢
  have hl : lv_has ls 2 [(0, .ref (am 0)), (1, .int p1)] := hl
  unfold M_isFolder at hF
  have J28 : ∀ (t0 : Int32) (fi : FI) (ar : AR) (H : Heap) (locs : List Loc) (ls : Array Slot), M_isFolder_28 nf t0 fi ar = some (r, fi', ar') → lv_has ls 2 [(0, .ref (am 0))] → va_P (gD g) vwCl (WM g am fi ar) H → va_S (AM am s.heap.size) s.heap H locs → W p l e (headSpec (wx yX11_isFolder cX11_isFolder 2 (some .boolean)) ({ frames := 1, cells := 0, slots := 0, locals := 21 } : Room)).room s m ([.ref (am 0), .int p1] : List Value).toArray below meth c H locs 0 0 (MQ below (QMi g am s.heap.size r fi' ar') ([.ref (am 0), .int p1] : List Value).toArray s 0 0 (AM am s.heap.size)) (F0 m 28 ls [.int t0]) := by
    intro t0 fi ar H locs ls hF hl hP hS
    unfold M_isFolder_28 at hF
    replace hF := gd_of hF
    obtain ⟨hz1, hF⟩ := hF
    exact rM_z hx hb hr hlocks (nar_z hz1) hF hP hS dX11_isFolder_28
  have J23 : ∀  (fi : FI) (ar : AR) (H : Heap) (locs : List Loc) (ls : Array Slot), M_isFolder_23 nf fi ar = some (r, fi', ar') → lv_has ls 2 [(0, .ref (am 0))] → va_P (gD g) vwCl (WM g am fi ar) H → va_S (AM am s.heap.size) s.heap H locs → W p l e (headSpec (wx yX11_isFolder cX11_isFolder 2 (some .boolean)) ({ frames := 1, cells := 0, slots := 0, locals := 21 } : Room)).room s m ([.ref (am 0), .int p1] : List Value).toArray below meth c H locs 0 0 (MQ below (QMi g am s.heap.size r fi' ar') ([.ref (am 0), .int p1] : List Value).toArray s 0 0 (AM am s.heap.size)) (F0 m 23 ls []) := by
    intro fi ar H locs ls hF hl hP hS
    unfold M_isFolder_23 at hF
    refine lv_iconst (v := (1 : Int32)) hx hb dX11_isFolder_23 (by decide) ?_
    refine lv_goto (tgt := 28) hx hb dX11_isFolder_24 (by decide) ?_
    exact J28 (1 : Int32) _ _ _ _ _ hF (lv_sub hl [0] rfl) hP hS
  replace hl := lv_sub hl [0, 1] rfl
  refine lv_iload_n hx hb dX11_isFolder_0 rfl (lv_at hl 1 rfl) ?_
  refine lv_if_eq (tgt := 23) hx hb dX11_isFolder_1 (by decide) (fun hc2 => ?_) (fun hc2 => ?_)
  · replace hF := br_yes hF hc2
    exact J23  _ _ _ _ _ hF (lv_sub hl [0] rfl) hP hS
  · replace hF := br_no hF hc2
    refine lv_aload_n hx hb dX11_isFolder_4 rfl (lv_at hl 0 rfl) ?_
    refine lv_aload_n hx hb dX11_isFolder_5 rfl (lv_at hl 0 rfl) ?_
    refine mg_20 hx hb hT hown hK hP mw6_5 dX11_isFolder_6 ?_
    refine lv_iload_n hx hb dX11_isFolder_9 rfl (lv_at hl 1 rfl) ?_
    replace hF := gd_of hF
    obtain ⟨hi3, hF⟩ := hF
    refine ml_20 hx hb hK hP hi3 dX11_isFolder_10 ?_
    refine lv_bipush (v := (11 : Int32)) hx hb dX11_isFolder_11 (by decide) ?_
    refine lv_iadd hx hb dX11_isFolder_13 ?_
    replace hF := obnd3_of hF
    obtain ⟨r7, fi5, ar6, h4, hF⟩ := hF
    refine cM_i (As := [.int ((ar 20 (p1).toNatClampNeg) + (11 : Int32))]) (rest := []) hx hb hml hT hown hK hE hD hA hP hS (k_one l g am _ nf fi ar ((ar 20 (p1).toNatClampNeg) + (11 : Int32)) r7 fi5 ar6 h4) cw_X11_one mw19_9 ⟨⟨rfl, rfl⟩, Nat.le_of_ble_eq_true rfl, Nat.le_of_ble_eq_true rfl⟩ rfl hl.1 rfl (Nat.le_of_ble_eq_true rfl) dX11_isFolder_14 ⟨Nat.zero_le _, Nat.zero_le _⟩ (fun H locs hP hS => ?_)
    refine lv_bipush (v := (16 : Int32)) hx hb dX11_isFolder_17 (by decide) ?_
    refine lv_iand hx hb dX11_isFolder_19 ?_
    refine lv_if_eq (tgt := 27) hx hb dX11_isFolder_20 (by decide) (fun hc8 => ?_) (fun hc8 => ?_)
    · replace hF := br_yes hF hc8
      refine lv_iconst (v := (0 : Int32)) hx hb dX11_isFolder_27 (by decide) ?_
      exact J28 (0 : Int32) _ _ _ _ _ hF (lv_sub hl [0] rfl) hP hS
    · replace hF := br_no hF hc8
      exact J23  _ _ _ _ _ hF (lv_sub hl [0] rfl) hP hS
theorem cw_X11_isFolder : (Cond.instanceMethod yX11_isFolder ∈ TB ∧ Cond.selects RX11 yX11_isFolder yX11_isFolder ∈ TB ∧ Cond.code yX11_isFolder cX11_isFolder 2 (some .boolean) ∈ TB) ∧ (yX11_isFolder.cls = RX11 ∧ yX11_isFolder.cls ≠ "java/lang/invoke/MethodHandle" ∧ yX11_isFolder.cls ≠ "java/lang/invoke/VarHandle" ∧ (parseMethodDescriptor yX11_isFolder.desc).map (fun d => d.parameters.length) = some 1) := ⟨⟨mw31_22, mw31_23, mw32_0⟩, by decide +kernel⟩
/-! X11_beginOf -/
noncomputable def M_beginOf_21 (nf : Nat) (t0 : Int32) (fi : FI) (ar : AR) : Option (Int32 × FI × AR) :=
  some ((t0), fi, ar)
noncomputable def M_beginOf (nf : Nat) (fi : FI) (ar : AR) (x1 : Int32) : Option (Int32 × FI × AR) :=
  br ((x1) = 0) (M_beginOf_21 nf  (fi 11) fi ar) (gd (¬ ((x1) < 0 ∨ 16400 ≤ (x1).toNatClampNeg)) (obnd3 (M_firstOf nf fi ar (ar 20 (x1).toNatClampNeg)) fun r6 fi4 ar5 => M_beginOf_21 nf  (r6) fi4 ar5))
set_option maxHeartbeats 4000000 in
set_option maxRecDepth 100000 in
theorem k_beginOf (l : Launch) (g : GT) (am : Nat → Nat) (sz : Nat) (nf : Nat) (fi : FI) (ar : AR) (p1 : Int32) (r : Int32) (fi' : FI) (ar' : AR) (hF : M_beginOf nf fi ar p1 = some (r, fi', ar')) : Met l yX11_beginOf (wx yX11_beginOf cX11_beginOf 2 (some .int)) ({ frames := 3, cells := 0, slots := 0, locals := 63 } : Room) (va_Pc [.ref (am 0), .int p1] (PM g am sz fi ar)) (QMi g am sz r fi' ar') 0 0 (AM am sz) := by
  refine Met.ofW (cc := cX11_beginOf) (maxL := 2) (ret := (some .int)) (by decide) rfl ?_
  intro p e s m args below meth c s₁ B hml hv
  obtain ⟨rfl, hsz, hP, hK, hD0, hE⟩ := hv
  have hx := B.exec
  have hb := B.bytes
  have hr := B.returns
  have hts := atoms_spec (ws := (wx yX11_beginOf cX11_beginOf 2 (some .int))) B.pre
  have hT : ∀ w ∈ TB, w.before _ s = true := fun w h => hts w (List.mem_cons_of_mem _ h)
  have hown : s.vm.findClass RX11 = some m.cls := findClass_of_methodNamed B.named
  have hlocks := B.notSynchronized
  subst hsz
  have hD := dM hD0 s.heap.size
  have hA : ∀ q : Nat, s.heap.size ≤ q → AM am s.heap.size q := fun q h => Or.inr h
  have hS : va_S (AM am s.heap.size) s.heap s.heap [] := va_S.rf
  have hl := lv_entry ([.ref (am 0), .int p1]) (n := 2) (Nat.le_of_ble_eq_true rfl)
  rw [lg_entry_eq]
  generalize (lg_sl ([.ref (am 0), .int p1]) ++ List.replicate (2 - (lg_sl ([.ref (am 0), .int p1])).length) Slot.unset).toArray = ls at hl ⊢
  have hl : lv_has ls 2 [(0, .ref (am 0)), (1, .int p1)] := hl
  unfold M_beginOf at hF
  have J21 : ∀ (t0 : Int32) (fi : FI) (ar : AR) (H : Heap) (locs : List Loc) (ls : Array Slot), M_beginOf_21 nf t0 fi ar = some (r, fi', ar') → lv_has ls 2 [(0, .ref (am 0))] → va_P (gD g) vwCl (WM g am fi ar) H → va_S (AM am s.heap.size) s.heap H locs → W p l e (headSpec (wx yX11_beginOf cX11_beginOf 2 (some .int)) ({ frames := 3, cells := 0, slots := 0, locals := 63 } : Room)).room s m ([.ref (am 0), .int p1] : List Value).toArray below meth c H locs 0 0 (MQ below (QMi g am s.heap.size r fi' ar') ([.ref (am 0), .int p1] : List Value).toArray s 0 0 (AM am s.heap.size)) (F0 m 21 ls [.int t0]) := by
    intro t0 fi ar H locs ls hF hl hP hS
    unfold M_beginOf_21 at hF
    exact rM_i hx hb hr hlocks hF hP hS dX11_beginOf_21
  replace hl := lv_sub hl [0, 1] rfl
  refine lv_iload_n hx hb dX11_beginOf_0 rfl (lv_at hl 1 rfl) ?_
  refine lv_if_ne (tgt := 11) hx hb dX11_beginOf_1 (by decide) (fun hc1 => ?_) (fun hc1 => ?_)
  · replace hF := br_no hF hc1
    refine lv_aload_n hx hb dX11_beginOf_11 rfl (lv_at hl 0 rfl) ?_
    refine lv_aload_n hx hb dX11_beginOf_12 rfl (lv_at hl 0 rfl) ?_
    refine mg_20 hx hb hT hown hK hP mw6_5 dX11_beginOf_13 ?_
    refine lv_iload_n hx hb dX11_beginOf_16 rfl (lv_at hl 1 rfl) ?_
    replace hF := gd_of hF
    obtain ⟨hi2, hF⟩ := hF
    refine ml_20 hx hb hK hP hi2 dX11_beginOf_17 ?_
    replace hF := obnd3_of hF
    obtain ⟨r6, fi4, ar5, h3, hF⟩ := hF
    refine cM_i (As := [.int (ar 20 (p1).toNatClampNeg)]) (rest := []) hx hb hml hT hown hK hE hD hA hP hS (k_firstOf l g am _ nf fi ar (ar 20 (p1).toNatClampNeg) r6 fi4 ar5 h3) cw_X11_firstOf mw32_13 ⟨⟨rfl, rfl⟩, Nat.le_of_ble_eq_true rfl, Nat.le_of_ble_eq_true rfl⟩ rfl hl.1 rfl (Nat.le_of_ble_eq_true rfl) dX11_beginOf_18 ⟨Nat.zero_le _, Nat.zero_le _⟩ (fun H locs hP hS => ?_)
    exact J21 (r6) _ _ _ _ _ hF (lv_sub hl [0] rfl) hP hS
  · replace hF := br_yes hF hc1
    refine lv_aload_n hx hb dX11_beginOf_4 rfl (lv_at hl 0 rfl) ?_
    refine mg_11 hx hb hT hown hK hP mw19_6 dX11_beginOf_5 ?_
    refine lv_goto (tgt := 21) hx hb dX11_beginOf_8 (by decide) ?_
    exact J21 (fi 11) _ _ _ _ _ hF (lv_sub hl [0] rfl) hP hS
theorem cw_X11_beginOf : (Cond.instanceMethod yX11_beginOf ∈ TB ∧ Cond.selects RX11 yX11_beginOf yX11_beginOf ∈ TB ∧ Cond.code yX11_beginOf cX11_beginOf 2 (some .int) ∈ TB) ∧ (yX11_beginOf.cls = RX11 ∧ yX11_beginOf.cls ≠ "java/lang/invoke/MethodHandle" ∧ yX11_beginOf.cls ≠ "java/lang/invoke/VarHandle" ∧ (parseMethodDescriptor yX11_beginOf.desc).map (fun d => d.parameters.length) = some 1) := ⟨⟨mw32_10, mw32_11, mw32_12⟩, by decide +kernel⟩
/-! X11_slotAt -/
noncomputable def M_slotAt (nf : Nat) (fi : FI) (ar : AR) (x1 : Int32) : Option (Int32 × FI × AR) :=
  gd (¬ ((16 : Int32) * (fi 7)) = 0) (gd (¬ (((x1) / ((16 : Int32) * (fi 7))) < 0 ∨ 560 ≤ ((x1) / ((16 : Int32) * (fi 7))).toNatClampNeg)) (obnd3 (M_place nf fi ar (ar 30 ((x1) / ((16 : Int32) * (fi 7))).toNatClampNeg)) fun r6 fi4 ar5 => gd (¬ ((16 : Int32) * (fi4 7)) = 0) (some (((r6) + ((32 : Int32) * ((x1) - (x1) / ((16 : Int32) * (fi4 7)) * ((16 : Int32) * (fi4 7))))), fi4, ar5))))
set_option maxHeartbeats 4000000 in
set_option maxRecDepth 100000 in
theorem k_slotAt (l : Launch) (g : GT) (am : Nat → Nat) (sz : Nat) (nf : Nat) (fi : FI) (ar : AR) (p1 : Int32) (r : Int32) (fi' : FI) (ar' : AR) (hF : M_slotAt nf fi ar p1 = some (r, fi', ar')) : Met l yX11_slotAt (wx yX11_slotAt cX11_slotAt 2 (some .int)) ({ frames := 1, cells := 0, slots := 0, locals := 21 } : Room) (va_Pc [.ref (am 0), .int p1] (PM g am sz fi ar)) (QMi g am sz r fi' ar') 0 0 (AM am sz) := by
  refine Met.ofW (cc := cX11_slotAt) (maxL := 2) (ret := (some .int)) (by decide) rfl ?_
  intro p e s m args below meth c s₁ B hml hv
  obtain ⟨rfl, hsz, hP, hK, hD0, hE⟩ := hv
  have hx := B.exec
  have hb := B.bytes
  have hr := B.returns
  have hts := atoms_spec (ws := (wx yX11_slotAt cX11_slotAt 2 (some .int))) B.pre
  have hT : ∀ w ∈ TB, w.before _ s = true := fun w h => hts w (List.mem_cons_of_mem _ h)
  have hown : s.vm.findClass RX11 = some m.cls := findClass_of_methodNamed B.named
  have hlocks := B.notSynchronized
  subst hsz
  have hD := dM hD0 s.heap.size
  have hA : ∀ q : Nat, s.heap.size ≤ q → AM am s.heap.size q := fun q h => Or.inr h
  have hS : va_S (AM am s.heap.size) s.heap s.heap [] := va_S.rf
  have hl := lv_entry ([.ref (am 0), .int p1]) (n := 2) (Nat.le_of_ble_eq_true rfl)
  rw [lg_entry_eq]
  generalize (lg_sl ([.ref (am 0), .int p1]) ++ List.replicate (2 - (lg_sl ([.ref (am 0), .int p1])).length) Slot.unset).toArray = ls at hl ⊢
  have hl : lv_has ls 2 [(0, .ref (am 0)), (1, .int p1)] := hl
  unfold M_slotAt at hF
  replace hl := lv_sub hl [0, 1] rfl
  refine lv_aload_n hx hb dX11_slotAt_0 rfl (lv_at hl 0 rfl) ?_
  refine lv_aload_n hx hb dX11_slotAt_1 rfl (lv_at hl 0 rfl) ?_
  refine mg_30 hx hb hT hown hK hP mw6_17 dX11_slotAt_2 ?_
  refine lv_iload_n hx hb dX11_slotAt_5 rfl (lv_at hl 1 rfl) ?_
  refine lv_bipush (v := (16 : Int32)) hx hb dX11_slotAt_6 (by decide) ?_
  refine lv_aload_n hx hb dX11_slotAt_8 rfl (lv_at hl 0 rfl) ?_
  refine mg_7 hx hb hT hown hK hP mw19_2 dX11_slotAt_9 ?_
  refine lv_imul hx hb dX11_slotAt_12 ?_
  replace hF := gd_of hF
  obtain ⟨hz1, hF⟩ := hF
  refine lv_idiv hx hb dX11_slotAt_13 hz1 ?_
  replace hF := gd_of hF
  obtain ⟨hi2, hF⟩ := hF
  refine ml_30 hx hb hK hP hi2 dX11_slotAt_14 ?_
  replace hF := obnd3_of hF
  obtain ⟨r6, fi4, ar5, h3, hF⟩ := hF
  refine cM_i (As := [.int (ar 30 ((p1) / ((16 : Int32) * (fi 7))).toNatClampNeg)]) (rest := []) hx hb hml hT hown hK hE hD hA hP hS (k_place l g am _ nf fi ar (ar 30 ((p1) / ((16 : Int32) * (fi 7))).toNatClampNeg) r6 fi4 ar5 h3) cw_X11_place mw20_10 ⟨⟨rfl, rfl⟩, Nat.le_of_ble_eq_true rfl, Nat.le_of_ble_eq_true rfl⟩ rfl hl.1 rfl (Nat.le_of_ble_eq_true rfl) dX11_slotAt_15 ⟨Nat.zero_le _, Nat.zero_le _⟩ (fun H locs hP hS => ?_)
  refine lv_bipush (v := (32 : Int32)) hx hb dX11_slotAt_18 (by decide) ?_
  refine lv_iload_n hx hb dX11_slotAt_20 rfl (lv_at hl 1 rfl) ?_
  refine lv_bipush (v := (16 : Int32)) hx hb dX11_slotAt_21 (by decide) ?_
  refine lv_aload_n hx hb dX11_slotAt_23 rfl (lv_at hl 0 rfl) ?_
  refine mg_7 hx hb hT hown hK hP mw19_2 dX11_slotAt_24 ?_
  refine lv_imul hx hb dX11_slotAt_27 ?_
  replace hF := gd_of hF
  obtain ⟨hz7, hF⟩ := hF
  refine lv_irem hx hb dX11_slotAt_28 hz7 ?_
  refine lv_imul hx hb dX11_slotAt_29 ?_
  refine lv_iadd hx hb dX11_slotAt_30 ?_
  exact rM_i hx hb hr hlocks hF hP hS dX11_slotAt_31
theorem cw_X11_slotAt : (Cond.instanceMethod yX11_slotAt ∈ TB ∧ Cond.selects RX11 yX11_slotAt yX11_slotAt ∈ TB ∧ Cond.code yX11_slotAt cX11_slotAt 2 (some .int) ∈ TB) ∧ (yX11_slotAt.cls = RX11 ∧ yX11_slotAt.cls ≠ "java/lang/invoke/MethodHandle" ∧ yX11_slotAt.cls ≠ "java/lang/invoke/VarHandle" ∧ (parseMethodDescriptor yX11_slotAt.desc).map (fun d => d.parameters.length) = some 1) := ⟨⟨mw32_22, mw32_23, mw33_0⟩, by decide +kernel⟩
/-! X11_dots -/
noncomputable def M_dots_103 (nf : Nat) (t0 : Int32) (fi : FI) (ar : AR) : Option (Int32 × FI × AR) :=
  gd ((t0) &&& 1 = (t0)) (some ((t0), fi, ar))
noncomputable def M_dots_102 (nf : Nat)  (fi : FI) (ar : AR) : Option (Int32 × FI × AR) :=
  M_dots_103 nf  (0 : Int32) fi ar
noncomputable def M_dots_95 (nf : Nat) (t0 : Int32) (t1 : Int32) (fi : FI) (ar : AR) : Option (Int32 × FI × AR) :=
  br ((t0) = (t1)) (M_dots_103 nf  (1 : Int32) fi ar) (M_dots_102 nf  fi ar)
noncomputable def M_dots_31 (K3 : Int32 → Int32 → Int32 → Int32 → FI → AR → Option (Int32 × FI × AR)) (nf : Nat) (x1 : Int32) (x2 : Int32) (x3 : Int32) (x4 : Int32) (t0 : Int32) (t1 : Int32) (fi : FI) (ar : AR) : Option (Int32 × FI × AR) :=
  br ((t0) = (t1)) (bnd ((x4) + (1 : Int32)) fun x4_4 => K3 (x1) (x2) (x3) (x4_4) fi ar) (some ((0 : Int32), fi, ar))
noncomputable def M_dots_3b (K3 : Int32 → Int32 → Int32 → Int32 → FI → AR → Option (Int32 × FI × AR)) (nf : Nat) (x1 : Int32) (x2 : Int32) (x3 : Int32) (x4 : Int32) (fi : FI) (ar : AR) : Option (Int32 × FI × AR) :=
  br ((11 : Int32) ≤ (x4)) (obnd3 (M_one nf fi ar ((x1) + (11 : Int32))) fun r9 fi7 ar8 => br ((r9) = (16 : Int32)) (obnd3 (M_firstOf nf fi7 ar8 (x1)) fun r14 fi12 ar13 => br ((x3) = 0) (obnd3 (M_beginOf nf fi12 ar13 (x2)) fun r26 fi24 ar25 => M_dots_95 nf  (r14) (r26) fi24 ar25) (gd (¬ ((x2) < 0 ∨ 16400 ≤ (x2).toNatClampNeg)) (br ((ar13 23 (x2).toNatClampNeg) = 0) (M_dots_95 nf  (r14) (0 : Int32) fi12 ar13) (gd (¬ ((x2) < 0 ∨ 16400 ≤ (x2).toNatClampNeg)) (obnd3 (M_beginOf nf fi12 ar13 (ar13 23 (x2).toNatClampNeg)) fun r22 fi20 ar21 => M_dots_95 nf  (r14) (r22) fi20 ar21))))) (M_dots_102 nf  fi7 ar8)) (obnd3 (M_one nf fi ar ((x1) + (x4))) fun r30 fi28 ar29 => br ((x3) < (x4)) (M_dots_31 K3 nf  (x1) (x2) (x3) (x4) (r30) (32 : Int32) fi28 ar29) (M_dots_31 K3 nf  (x1) (x2) (x3) (x4) (r30) (46 : Int32) fi28 ar29))
noncomputable def M_dots_3 (nf : Nat) (kf : Nat) : Int32 → Int32 → Int32 → Int32 → FI → AR → Option (Int32 × FI × AR) := Nat.rec (fun _ _ _ _ _ _ => none) (fun _ K3 => M_dots_3b K3 nf) kf
noncomputable def M_dots (nf : Nat) (fi : FI) (ar : AR) (x1 : Int32) (x2 : Int32) (x3 : Int32) : Option (Int32 × FI × AR) :=
  M_dots_3 nf nf (x1) (x2) (x3) (0 : Int32) fi ar
set_option maxHeartbeats 4000000 in
set_option maxRecDepth 100000 in
theorem k_dots (l : Launch) (g : GT) (am : Nat → Nat) (sz : Nat) (nf : Nat) (fi : FI) (ar : AR) (p1 : Int32) (p2 : Int32) (p3 : Int32) (r : Int32) (fi' : FI) (ar' : AR) (hF : M_dots nf fi ar p1 p2 p3 = some (r, fi', ar')) : Met l yX11_dots (wx yX11_dots cX11_dots 5 (some .boolean)) ({ frames := 4, cells := 0, slots := 0, locals := 84 } : Room) (va_Pc [.ref (am 0), .int p1, .int p2, .int p3] (PM g am sz fi ar)) (QMi g am sz r fi' ar') 0 0 (AM am sz) := by
  refine Met.ofW (cc := cX11_dots) (maxL := 5) (ret := (some .boolean)) (by decide) rfl ?_
  intro p e s m args below meth c s₁ B hml hv
  obtain ⟨rfl, hsz, hP, hK, hD0, hE⟩ := hv
  have hx := B.exec
  have hb := B.bytes
  have hr := B.returns
  have hts := atoms_spec (ws := (wx yX11_dots cX11_dots 5 (some .boolean))) B.pre
  have hT : ∀ w ∈ TB, w.before _ s = true := fun w h => hts w (List.mem_cons_of_mem _ h)
  have hown : s.vm.findClass RX11 = some m.cls := findClass_of_methodNamed B.named
  have hlocks := B.notSynchronized
  subst hsz
  have hD := dM hD0 s.heap.size
  have hA : ∀ q : Nat, s.heap.size ≤ q → AM am s.heap.size q := fun q h => Or.inr h
  have hS : va_S (AM am s.heap.size) s.heap s.heap [] := va_S.rf
  have hl := lv_entry ([.ref (am 0), .int p1, .int p2, .int p3]) (n := 5) (Nat.le_of_ble_eq_true rfl)
  rw [lg_entry_eq]
  generalize (lg_sl ([.ref (am 0), .int p1, .int p2, .int p3]) ++ List.replicate (5 - (lg_sl ([.ref (am 0), .int p1, .int p2, .int p3])).length) Slot.unset).toArray = ls at hl ⊢
  have hl : lv_has ls 5 [(0, .ref (am 0)), (1, .int p1), (2, .int p2), (3, .int p3)] := hl
  unfold M_dots at hF
  have J103 : ∀ (t0 : Int32) (fi : FI) (ar : AR) (H : Heap) (locs : List Loc) (ls : Array Slot), M_dots_103 nf t0 fi ar = some (r, fi', ar') → lv_has ls 5 [(0, .ref (am 0))] → va_P (gD g) vwCl (WM g am fi ar) H → va_S (AM am s.heap.size) s.heap H locs → W p l e (headSpec (wx yX11_dots cX11_dots 5 (some .boolean)) ({ frames := 4, cells := 0, slots := 0, locals := 84 } : Room)).room s m ([.ref (am 0), .int p1, .int p2, .int p3] : List Value).toArray below meth c H locs 0 0 (MQ below (QMi g am s.heap.size r fi' ar') ([.ref (am 0), .int p1, .int p2, .int p3] : List Value).toArray s 0 0 (AM am s.heap.size)) (F0 m 103 ls [.int t0]) := by
    intro t0 fi ar H locs ls hF hl hP hS
    unfold M_dots_103 at hF
    replace hF := gd_of hF
    obtain ⟨hz1, hF⟩ := hF
    exact rM_z hx hb hr hlocks (nar_z hz1) hF hP hS dX11_dots_103
  have J102 : ∀  (fi : FI) (ar : AR) (H : Heap) (locs : List Loc) (ls : Array Slot), M_dots_102 nf fi ar = some (r, fi', ar') → lv_has ls 5 [(0, .ref (am 0))] → va_P (gD g) vwCl (WM g am fi ar) H → va_S (AM am s.heap.size) s.heap H locs → W p l e (headSpec (wx yX11_dots cX11_dots 5 (some .boolean)) ({ frames := 4, cells := 0, slots := 0, locals := 84 } : Room)).room s m ([.ref (am 0), .int p1, .int p2, .int p3] : List Value).toArray below meth c H locs 0 0 (MQ below (QMi g am s.heap.size r fi' ar') ([.ref (am 0), .int p1, .int p2, .int p3] : List Value).toArray s 0 0 (AM am s.heap.size)) (F0 m 102 ls []) := by
    intro fi ar H locs ls hF hl hP hS
    unfold M_dots_102 at hF
    refine lv_iconst (v := (0 : Int32)) hx hb dX11_dots_102 (by decide) ?_
    exact J103 (0 : Int32) _ _ _ _ _ hF (lv_sub hl [0] rfl) hP hS
  have J95 : ∀ (t0 : Int32) (t1 : Int32) (fi : FI) (ar : AR) (H : Heap) (locs : List Loc) (ls : Array Slot), M_dots_95 nf t0 t1 fi ar = some (r, fi', ar') → lv_has ls 5 [(0, .ref (am 0))] → va_P (gD g) vwCl (WM g am fi ar) H → va_S (AM am s.heap.size) s.heap H locs → W p l e (headSpec (wx yX11_dots cX11_dots 5 (some .boolean)) ({ frames := 4, cells := 0, slots := 0, locals := 84 } : Room)).room s m ([.ref (am 0), .int p1, .int p2, .int p3] : List Value).toArray below meth c H locs 0 0 (MQ below (QMi g am s.heap.size r fi' ar') ([.ref (am 0), .int p1, .int p2, .int p3] : List Value).toArray s 0 0 (AM am s.heap.size)) (F0 m 95 ls [.int t1, .int t0]) := by
    intro t0 t1 fi ar H locs ls hF hl hP hS
    unfold M_dots_95 at hF
    refine lv_icmp_ne (tgt := 102) hx hb dX11_dots_95 (by decide) (fun hc2 => ?_) (fun hc2 => ?_)
    · replace hF := br_no hF hc2
      exact J102  _ _ _ _ _ hF (lv_sub hl [0] rfl) hP hS
    · replace hF := br_yes hF hc2
      refine lv_iconst (v := (1 : Int32)) hx hb dX11_dots_98 (by decide) ?_
      refine lv_goto (tgt := 103) hx hb dX11_dots_99 (by decide) ?_
      exact J103 (1 : Int32) _ _ _ _ _ hF (lv_sub hl [0] rfl) hP hS
  have L3 : ∀ kf : Nat, ∀ (x1 : Int32) (x2 : Int32) (x3 : Int32) (x4 : Int32) (fi : FI) (ar : AR) (H : Heap) (locs : List Loc) (ls : Array Slot), M_dots_3 nf kf x1 x2 x3 x4 fi ar = some (r, fi', ar') → lv_has ls 5 [(0, .ref (am 0)), (1, .int x1), (2, .int x2), (3, .int x3), (4, .int x4)] → va_P (gD g) vwCl (WM g am fi ar) H → va_S (AM am s.heap.size) s.heap H locs → W p l e (headSpec (wx yX11_dots cX11_dots 5 (some .boolean)) ({ frames := 4, cells := 0, slots := 0, locals := 84 } : Room)).room s m ([.ref (am 0), .int p1, .int p2, .int p3] : List Value).toArray below meth c H locs 0 0 (MQ below (QMi g am s.heap.size r fi' ar') ([.ref (am 0), .int p1, .int p2, .int p3] : List Value).toArray s 0 0 (AM am s.heap.size)) (F0 m 3 ls []) := by
    intro kf
    induction kf with
    | zero => intro x1 x2 x3 x4 fi ar H locs ls hF hl hP hS; cases (show (none : Option (Int32 × FI × AR)) = _ from hF)
    | succ kf ih3 =>
      intro x1 x2 x3 x4 fi ar H locs ls hF hl hP hS
      obtain ⟨K3, hK3⟩ : ∃ K : Int32 → Int32 → Int32 → Int32 → FI → AR → Option (Int32 × FI × AR), K = M_dots_3 nf kf := ⟨_, rfl⟩
      replace hF : M_dots_3b K3 nf x1 x2 x3 x4 fi ar = some (r, fi', ar') := by rw [hK3]; exact hF
      rw [← hK3] at ih3
      clear hK3
      have J31 : ∀ (x1 : Int32) (x2 : Int32) (x3 : Int32) (x4 : Int32) (t0 : Int32) (t1 : Int32) (fi : FI) (ar : AR) (H : Heap) (locs : List Loc) (ls : Array Slot), M_dots_31 K3 nf x1 x2 x3 x4 t0 t1 fi ar = some (r, fi', ar') → lv_has ls 5 [(0, .ref (am 0)), (1, .int x1), (2, .int x2), (3, .int x3), (4, .int x4)] → va_P (gD g) vwCl (WM g am fi ar) H → va_S (AM am s.heap.size) s.heap H locs → W p l e (headSpec (wx yX11_dots cX11_dots 5 (some .boolean)) ({ frames := 4, cells := 0, slots := 0, locals := 84 } : Room)).room s m ([.ref (am 0), .int p1, .int p2, .int p3] : List Value).toArray below meth c H locs 0 0 (MQ below (QMi g am s.heap.size r fi' ar') ([.ref (am 0), .int p1, .int p2, .int p3] : List Value).toArray s 0 0 (AM am s.heap.size)) (F0 m 31 ls [.int t1, .int t0]) := by
        intro x1 x2 x3 x4 t0 t1 fi ar H locs ls hF hl hP hS
        unfold M_dots_31 at hF
        refine lv_icmp_eq (tgt := 36) hx hb dX11_dots_31 (by decide) (fun hc3 => ?_) (fun hc3 => ?_)
        · replace hF := br_yes hF hc3
          obtain ⟨x4_4, ex4_4⟩ : ∃ y : Int32, y = (x4) + (1 : Int32) := ⟨_, rfl⟩
          replace hF := bnd_of hF ex4_4
          refine lv_iinc (v := x4_4) (lv' := [(4, .int (x4_4)), (0, .ref (am 0)), (1, .int (x1)), (2, .int (x2)), (3, .int (x3))]) hx hb dX11_dots_36 hl (k := 4) rfl (by rw [ex4_4]; rfl) (by decide) rfl (fun ls hl => ?_)
          refine lv_goto (tgt := 3) hx hb dX11_dots_39 (by decide) ?_
          exact ih3 (x1) (x2) (x3) (x4_4) _ _ _ _ _ hF (lv_sub hl [1, 2, 3, 4, 0] rfl) hP hS
        · replace hF := br_no hF hc3
          refine lv_iconst (v := (0 : Int32)) hx hb dX11_dots_34 (by decide) ?_
          exact rM_z hx hb hr hlocks rfl hF hP hS dX11_dots_35
      unfold M_dots_3b at hF
      refine lv_iload hx hb dX11_dots_3 (lv_at hl 4 rfl) ?_
      refine lv_bipush (v := (11 : Int32)) hx hb dX11_dots_5 (by decide) ?_
      refine lv_icmp_ge (tgt := 42) hx hb dX11_dots_7 (by decide) (fun hc5 => ?_) (fun hc5 => ?_)
      · replace hF := br_yes hF hc5
        refine lv_aload_n hx hb dX11_dots_42 rfl (lv_at hl 0 rfl) ?_
        refine lv_iload_n hx hb dX11_dots_43 rfl (lv_at hl 1 rfl) ?_
        refine lv_bipush (v := (11 : Int32)) hx hb dX11_dots_44 (by decide) ?_
        refine lv_iadd hx hb dX11_dots_46 ?_
        replace hF := obnd3_of hF
        obtain ⟨r9, fi7, ar8, h6, hF⟩ := hF
        refine cM_i (As := [.int ((x1) + (11 : Int32))]) (rest := []) hx hb hml hT hown hK hE hD hA hP hS (k_one l g am _ nf fi ar ((x1) + (11 : Int32)) r9 fi7 ar8 h6) cw_X11_one mw19_9 ⟨⟨rfl, rfl⟩, Nat.le_of_ble_eq_true rfl, Nat.le_of_ble_eq_true rfl⟩ rfl hl.1 rfl (Nat.le_of_ble_eq_true rfl) dX11_dots_47 ⟨Nat.zero_le _, Nat.zero_le _⟩ (fun H locs hP hS => ?_)
        refine lv_bipush (v := (16 : Int32)) hx hb dX11_dots_50 (by decide) ?_
        refine lv_icmp_ne (tgt := 102) hx hb dX11_dots_52 (by decide) (fun hc10 => ?_) (fun hc10 => ?_)
        · replace hF := br_no hF hc10
          exact J102  _ _ _ _ _ hF (lv_sub hl [0] rfl) hP hS
        · replace hF := br_yes hF hc10
          refine lv_aload_n hx hb dX11_dots_55 rfl (lv_at hl 0 rfl) ?_
          refine lv_iload_n hx hb dX11_dots_56 rfl (lv_at hl 1 rfl) ?_
          replace hF := obnd3_of hF
          obtain ⟨r14, fi12, ar13, h11, hF⟩ := hF
          refine cM_i (As := [.int (x1)]) (rest := []) hx hb hml hT hown hK hE hD hA hP hS (k_firstOf l g am _ nf fi7 ar8 (x1) r14 fi12 ar13 h11) cw_X11_firstOf mw32_13 ⟨⟨rfl, rfl⟩, Nat.le_of_ble_eq_true rfl, Nat.le_of_ble_eq_true rfl⟩ rfl hl.1 rfl (Nat.le_of_ble_eq_true rfl) dX11_dots_57 ⟨Nat.zero_le _, Nat.zero_le _⟩ (fun H locs hP hS => ?_)
          refine lv_iload_n hx hb dX11_dots_60 rfl (lv_at hl 3 rfl) ?_
          refine lv_if_ne (tgt := 72) hx hb dX11_dots_61 (by decide) (fun hc15 => ?_) (fun hc15 => ?_)
          · replace hF := br_no hF hc15
            refine lv_aload_n hx hb dX11_dots_72 rfl (lv_at hl 0 rfl) ?_
            refine mg_23 hx hb hT hown hK hP mw6_8 dX11_dots_73 ?_
            refine lv_iload_n hx hb dX11_dots_76 rfl (lv_at hl 2 rfl) ?_
            replace hF := gd_of hF
            obtain ⟨hi16, hF⟩ := hF
            refine ml_23 hx hb hK hP hi16 dX11_dots_77 ?_
            refine lv_if_ne (tgt := 85) hx hb dX11_dots_78 (by decide) (fun hc17 => ?_) (fun hc17 => ?_)
            · replace hF := br_no hF hc17
              refine lv_aload_n hx hb dX11_dots_85 rfl (lv_at hl 0 rfl) ?_
              refine lv_aload_n hx hb dX11_dots_86 rfl (lv_at hl 0 rfl) ?_
              refine mg_23 hx hb hT hown hK hP mw6_8 dX11_dots_87 ?_
              refine lv_iload_n hx hb dX11_dots_90 rfl (lv_at hl 2 rfl) ?_
              replace hF := gd_of hF
              obtain ⟨hi18, hF⟩ := hF
              refine ml_23 hx hb hK hP hi18 dX11_dots_91 ?_
              replace hF := obnd3_of hF
              obtain ⟨r22, fi20, ar21, h19, hF⟩ := hF
              refine cM_i (As := [.int (ar13 23 (x2).toNatClampNeg)]) (rest := [.int (r14)]) hx hb hml hT hown hK hE hD hA hP hS (k_beginOf l g am _ nf fi12 ar13 (ar13 23 (x2).toNatClampNeg) r22 fi20 ar21 h19) cw_X11_beginOf mw32_9 ⟨⟨rfl, rfl⟩, Nat.le_of_ble_eq_true rfl, Nat.le_of_ble_eq_true rfl⟩ rfl hl.1 rfl (Nat.le_of_ble_eq_true rfl) dX11_dots_92 ⟨Nat.zero_le _, Nat.zero_le _⟩ (fun H locs hP hS => ?_)
              exact J95 (r14) (r22) _ _ _ _ _ hF (lv_sub hl [0] rfl) hP hS
            · replace hF := br_yes hF hc17
              refine lv_iconst (v := (0 : Int32)) hx hb dX11_dots_81 (by decide) ?_
              refine lv_goto (tgt := 95) hx hb dX11_dots_82 (by decide) ?_
              exact J95 (r14) (0 : Int32) _ _ _ _ _ hF (lv_sub hl [0] rfl) hP hS
          · replace hF := br_yes hF hc15
            refine lv_aload_n hx hb dX11_dots_64 rfl (lv_at hl 0 rfl) ?_
            refine lv_iload_n hx hb dX11_dots_65 rfl (lv_at hl 2 rfl) ?_
            replace hF := obnd3_of hF
            obtain ⟨r26, fi24, ar25, h23, hF⟩ := hF
            refine cM_i (As := [.int (x2)]) (rest := [.int (r14)]) hx hb hml hT hown hK hE hD hA hP hS (k_beginOf l g am _ nf fi12 ar13 (x2) r26 fi24 ar25 h23) cw_X11_beginOf mw32_9 ⟨⟨rfl, rfl⟩, Nat.le_of_ble_eq_true rfl, Nat.le_of_ble_eq_true rfl⟩ rfl hl.1 rfl (Nat.le_of_ble_eq_true rfl) dX11_dots_66 ⟨Nat.zero_le _, Nat.zero_le _⟩ (fun H locs hP hS => ?_)
            refine lv_goto (tgt := 95) hx hb dX11_dots_69 (by decide) ?_
            exact J95 (r14) (r26) _ _ _ _ _ hF (lv_sub hl [0] rfl) hP hS
      · replace hF := br_no hF hc5
        refine lv_aload_n hx hb dX11_dots_10 rfl (lv_at hl 0 rfl) ?_
        refine lv_iload_n hx hb dX11_dots_11 rfl (lv_at hl 1 rfl) ?_
        refine lv_iload hx hb dX11_dots_12 (lv_at hl 4 rfl) ?_
        refine lv_iadd hx hb dX11_dots_14 ?_
        replace hF := obnd3_of hF
        obtain ⟨r30, fi28, ar29, h27, hF⟩ := hF
        refine cM_i (As := [.int ((x1) + (x4))]) (rest := []) hx hb hml hT hown hK hE hD hA hP hS (k_one l g am _ nf fi ar ((x1) + (x4)) r30 fi28 ar29 h27) cw_X11_one mw19_9 ⟨⟨rfl, rfl⟩, Nat.le_of_ble_eq_true rfl, Nat.le_of_ble_eq_true rfl⟩ rfl hl.1 rfl (Nat.le_of_ble_eq_true rfl) dX11_dots_15 ⟨Nat.zero_le _, Nat.zero_le _⟩ (fun H locs hP hS => ?_)
        refine lv_iload hx hb dX11_dots_18 (lv_at hl 4 rfl) ?_
        refine lv_iload_n hx hb dX11_dots_20 rfl (lv_at hl 3 rfl) ?_
        refine lv_icmp_gt (tgt := 29) hx hb dX11_dots_21 (by decide) (fun hc31 => ?_) (fun hc31 => ?_)
        · replace hF := br_yes hF hc31
          refine lv_bipush (v := (32 : Int32)) hx hb dX11_dots_29 (by decide) ?_
          exact J31 (x1) (x2) (x3) (x4) (r30) (32 : Int32) _ _ _ _ _ hF (lv_sub hl [0, 1, 2, 3, 4] rfl) hP hS
        · replace hF := br_no hF hc31
          refine lv_bipush (v := (46 : Int32)) hx hb dX11_dots_24 (by decide) ?_
          refine lv_goto (tgt := 31) hx hb dX11_dots_26 (by decide) ?_
          exact J31 (x1) (x2) (x3) (x4) (r30) (46 : Int32) _ _ _ _ _ hF (lv_sub hl [0, 1, 2, 3, 4] rfl) hP hS
  replace hl := lv_sub hl [0, 1, 2, 3] rfl
  refine lv_iconst (v := (0 : Int32)) hx hb dX11_dots_0 (by decide) ?_
  refine lv_istore (lv' := [(4, .int (0 : Int32)), (0, .ref (am 0)), (1, .int (p1)), (2, .int (p2)), (3, .int (p3))]) hx hb dX11_dots_1 hl (by decide) rfl (fun ls hl => ?_)
  exact L3 nf (p1) (p2) (p3) (0 : Int32) _ _ _ _ _ hF (lv_sub hl [1, 2, 3, 4, 0] rfl) hP hS
theorem cw_X11_dots : (Cond.instanceMethod yX11_dots ∈ TB ∧ Cond.selects RX11 yX11_dots yX11_dots ∈ TB ∧ Cond.code yX11_dots cX11_dots 5 (some .boolean) ∈ TB) ∧ (yX11_dots.cls = RX11 ∧ yX11_dots.cls ≠ "java/lang/invoke/MethodHandle" ∧ yX11_dots.cls ≠ "java/lang/invoke/VarHandle" ∧ (parseMethodDescriptor yX11_dots.desc).map (fun d => d.parameters.length) = some 3) := ⟨⟨mw33_2, mw33_3, mw33_4⟩, by decide +kernel⟩
