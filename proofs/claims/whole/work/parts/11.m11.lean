/-! X11_layPart -/
noncomputable def M_layPart_142 (K46 : Int32 → Int32 → Int32 → FI → AR → Option (Unit × FI × AR)) (nf : Nat) (x1 : Int32) (x2 : Int32) (x5 : Int32) (t1 : Int32) (t2 : Int32) (t3 : Int64) (fi : FI) (ar : AR) : Option (Unit × FI × AR) :=
  obnd3 (M_set nf fi ar (t1) (t2) (t3)) fun r4 fi2 ar3 => bnd ((x5) + (1 : Int32)) fun x5_5 => K46 (x1) (x2) (x5_5) fi2 ar3
noncomputable def M_layPart_104 (K46 : Int32 → Int32 → Int32 → FI → AR → Option (Unit × FI × AR)) (nf : Nat) (x1 : Int32) (x2 : Int32) (x5 : Int32) (x6 : Int32) (t1 : Int32) (t2 : Int32) (fi : FI) (ar : AR) : Option (Unit × FI × AR) :=
  br ((fi 35) ≤ (x6)) (br ((x6) = (fi 35)) (M_layPart_142 K46 nf  (x1) (x2) (x5) ((t1) + (t2)) (2 : Int32) (0 : Int64) fi ar) (M_layPart_142 K46 nf  (x1) (x2) (x5) ((t1) + (t2)) (2 : Int32) (65535 : Int64) fi ar)) (gd (¬ ((x6) < 0 ∨ 300 ≤ (x6).toNatClampNeg)) (M_layPart_142 K46 nf  (x1) (x2) (x5) ((t1) + (t2)) (2 : Int32) ((ar 34 (x6).toNatClampNeg).toInt64) fi ar))
noncomputable def M_layPart_46b (K46 : Int32 → Int32 → Int32 → FI → AR → Option (Unit × FI × AR)) (nf : Nat) (x1 : Int32) (x2 : Int32) (x5 : Int32) (fi : FI) (ar : AR) : Option (Unit × FI × AR) :=
  br ((13 : Int32) ≤ (x5)) (some ((), fi, ar)) (bnd (((13 : Int32) * ((x2) - (1 : Int32))) + (x5)) fun x6_10 => br ((5 : Int32) ≤ (x5)) (br ((11 : Int32) ≤ (x5)) (M_layPart_104 K46 nf  (x1) (x2) (x5) (x6_10) (x1) ((6 : Int32) + ((2 : Int32) * (x5))) fi ar) (M_layPart_104 K46 nf  (x1) (x2) (x5) (x6_10) (x1) ((4 : Int32) + ((2 : Int32) * (x5))) fi ar)) (M_layPart_104 K46 nf  (x1) (x2) (x5) (x6_10) (x1) ((1 : Int32) + ((2 : Int32) * (x5))) fi ar))
noncomputable def M_layPart_46 (nf : Nat) (kf : Nat) : Int32 → Int32 → Int32 → FI → AR → Option (Unit × FI × AR) := Nat.rec (fun _ _ _ _ _ => none) (fun _ K46 => M_layPart_46b K46 nf) kf
noncomputable def M_layPart_14 (nf : Nat) (x1 : Int32) (x2 : Int32) (x4 : Int32) (t1 : Int32) (t2 : Int32) (t3 : Int32) (t4 : Int32) (fi : FI) (ar : AR) : Option (Unit × FI × AR) :=
  obnd3 (M_set nf fi ar (t1) (t2) (((t3) + (t4)).toInt64)) fun r16 fi14 ar15 => obnd3 (M_set nf fi14 ar15 ((x1) + (11 : Int32)) (1 : Int32) (15 : Int64)) fun r20 fi18 ar19 => obnd3 (M_set nf fi18 ar19 ((x1) + (13 : Int32)) (1 : Int32) ((x4).toInt64)) fun r24 fi22 ar23 => M_layPart_46 nf nf (x1) (x2) (0 : Int32) fi22 ar23
noncomputable def M_layPart (nf : Nat) (fi : FI) (ar : AR) (x1 : Int32) (x2 : Int32) (x3 : Int32) (x4 : Int32) : Option (Unit × FI × AR) :=
  br ((x3) = 0) (M_layPart_14 nf  (x1) (x2) (x4) (x1) (1 : Int32) (x2) (0 : Int32) fi ar) (M_layPart_14 nf  (x1) (x2) (x4) (x1) (1 : Int32) (x2) (64 : Int32) fi ar)
set_option maxHeartbeats 4000000 in
set_option maxRecDepth 100000 in
theorem k_layPart (l : Launch) (g : GT) (am : Nat → Nat) (sz : Nat) (nf : Nat) (fi : FI) (ar : AR) (p1 : Int32) (p2 : Int32) (p3 : Int32) (p4 : Int32) (r : Unit) (fi' : FI) (ar' : AR) (hF : M_layPart nf fi ar p1 p2 p3 p4 = some (r, fi', ar')) : Met l yX11_layPart (wx yX11_layPart cX11_layPart 7 none) ({ frames := 1, cells := 0, slots := 0, locals := 25 } : Room) (va_Pc [.ref (am 0), .int p1, .int p2, .int p3, .int p4] (PM g am sz fi ar)) (QMv g am sz r fi' ar') 0 0 (AM am sz) := by
  refine Met.ofW (cc := cX11_layPart) (maxL := 7) (ret := none) (by decide) rfl ?_
  intro p e s m args below meth c s₁ B hml hv
  obtain ⟨rfl, hsz, hP, hK, hD0, hE⟩ := hv
  have hx := B.exec
  have hb := B.bytes
  have hr := B.returns
  have hts := atoms_spec (ws := (wx yX11_layPart cX11_layPart 7 none)) B.pre
  have hT : ∀ w ∈ TB, w.before _ s = true := fun w h => hts w (List.mem_cons_of_mem _ h)
  have hown : s.vm.findClass RX11 = some m.cls := findClass_of_methodNamed B.named
  have hlocks := B.notSynchronized
  subst hsz
  have hD := dM hD0 s.heap.size
  have hA : ∀ q : Nat, s.heap.size ≤ q → AM am s.heap.size q := fun q h => Or.inr h
  have hS : va_S (AM am s.heap.size) s.heap s.heap [] := va_S.rf
  have hl := lv_entry ([.ref (am 0), .int p1, .int p2, .int p3, .int p4]) (n := 7) (Nat.le_of_ble_eq_true rfl)
  rw [lg_entry_eq]
  generalize (lg_sl ([.ref (am 0), .int p1, .int p2, .int p3, .int p4]) ++ List.replicate (7 - (lg_sl ([.ref (am 0), .int p1, .int p2, .int p3, .int p4])).length) Slot.unset).toArray = ls at hl ⊢
  have hl : lv_has ls 7 [(0, .ref (am 0)), (1, .int p1), (2, .int p2), (3, .int p3), (4, .int p4)] := hl
  unfold M_layPart at hF
  have L46 : ∀ kf : Nat, ∀ (x1 : Int32) (x2 : Int32) (x5 : Int32) (fi : FI) (ar : AR) (H : Heap) (locs : List Loc) (ls : Array Slot), M_layPart_46 nf kf x1 x2 x5 fi ar = some (r, fi', ar') → lv_has ls 7 [(0, .ref (am 0)), (1, .int x1), (2, .int x2), (5, .int x5)] → va_P (gD g) vwCl (WM g am fi ar) H → va_S (AM am s.heap.size) s.heap H locs → W p l e (headSpec (wx yX11_layPart cX11_layPart 7 none) ({ frames := 1, cells := 0, slots := 0, locals := 25 } : Room)).room s m ([.ref (am 0), .int p1, .int p2, .int p3, .int p4] : List Value).toArray below meth c H locs 0 0 (MQ below (QMv g am s.heap.size r fi' ar') ([.ref (am 0), .int p1, .int p2, .int p3, .int p4] : List Value).toArray s 0 0 (AM am s.heap.size)) (F0 m 46 ls []) := by
    intro kf
    induction kf with
    | zero => intro x1 x2 x5 fi ar H locs ls hF hl hP hS; cases (show (none : Option (Unit × FI × AR)) = _ from hF)
    | succ kf ih46 =>
      intro x1 x2 x5 fi ar H locs ls hF hl hP hS
      obtain ⟨K46, hK46⟩ : ∃ K : Int32 → Int32 → Int32 → FI → AR → Option (Unit × FI × AR), K = M_layPart_46 nf kf := ⟨_, rfl⟩
      replace hF : M_layPart_46b K46 nf x1 x2 x5 fi ar = some (r, fi', ar') := by rw [hK46]; exact hF
      rw [← hK46] at ih46
      clear hK46
      have J142 : ∀ (x1 : Int32) (x2 : Int32) (x5 : Int32) (t1 : Int32) (t2 : Int32) (t3 : Int64) (fi : FI) (ar : AR) (H : Heap) (locs : List Loc) (ls : Array Slot), M_layPart_142 K46 nf x1 x2 x5 t1 t2 t3 fi ar = some (r, fi', ar') → lv_has ls 7 [(0, .ref (am 0)), (1, .int x1), (2, .int x2), (5, .int x5)] → va_P (gD g) vwCl (WM g am fi ar) H → va_S (AM am s.heap.size) s.heap H locs → W p l e (headSpec (wx yX11_layPart cX11_layPart 7 none) ({ frames := 1, cells := 0, slots := 0, locals := 25 } : Room)).room s m ([.ref (am 0), .int p1, .int p2, .int p3, .int p4] : List Value).toArray below meth c H locs 0 0 (MQ below (QMv g am s.heap.size r fi' ar') ([.ref (am 0), .int p1, .int p2, .int p3, .int p4] : List Value).toArray s 0 0 (AM am s.heap.size)) (F0 m 142 ls [.long t3, .int t2, .int t1, .ref (am 0)]) := by
        intro x1 x2 x5 t1 t2 t3 fi ar H locs ls hF hl hP hS
        unfold M_layPart_142 at hF
        replace hF := obnd3_of hF
        obtain ⟨r4, fi2, ar3, h1, hF⟩ := hF
        refine cM_v (As := [.int (t1), .int (t2), .long (t3)]) (rest := []) hx hb hml hT hown hK hE hD hA hP hS (k_set l g am _ nf fi ar (t1) (t2) (t3) r4 fi2 ar3 h1) cw_X11_set mw18_18 ⟨⟨rfl, rfl⟩, Nat.le_of_ble_eq_true rfl, Nat.le_of_ble_eq_true rfl⟩ rfl hl.1 rfl (Nat.le_of_ble_eq_true rfl) dX11_layPart_142 ⟨Nat.zero_le _, Nat.zero_le _⟩ (fun H locs hP hS => ?_)
        obtain ⟨x5_5, ex5_5⟩ : ∃ y : Int32, y = (x5) + (1 : Int32) := ⟨_, rfl⟩
        replace hF := bnd_of hF ex5_5
        refine lv_iinc (v := x5_5) (lv' := [(5, .int (x5_5)), (0, .ref (am 0)), (1, .int (x1)), (2, .int (x2))]) hx hb dX11_layPart_145 hl (k := 3) rfl (by rw [ex5_5]; rfl) (by decide) rfl (fun ls hl => ?_)
        refine lv_goto (tgt := 46) hx hb dX11_layPart_148 (by decide) ?_
        exact ih46 (x1) (x2) (x5_5) _ _ _ _ _ hF (lv_sub hl [1, 2, 3, 0] rfl) hP hS
      have J104 : ∀ (x1 : Int32) (x2 : Int32) (x5 : Int32) (x6 : Int32) (t1 : Int32) (t2 : Int32) (fi : FI) (ar : AR) (H : Heap) (locs : List Loc) (ls : Array Slot), M_layPart_104 K46 nf x1 x2 x5 x6 t1 t2 fi ar = some (r, fi', ar') → lv_has ls 7 [(0, .ref (am 0)), (1, .int x1), (2, .int x2), (5, .int x5), (6, .int x6)] → va_P (gD g) vwCl (WM g am fi ar) H → va_S (AM am s.heap.size) s.heap H locs → W p l e (headSpec (wx yX11_layPart cX11_layPart 7 none) ({ frames := 1, cells := 0, slots := 0, locals := 25 } : Room)).room s m ([.ref (am 0), .int p1, .int p2, .int p3, .int p4] : List Value).toArray below meth c H locs 0 0 (MQ below (QMv g am s.heap.size r fi' ar') ([.ref (am 0), .int p1, .int p2, .int p3, .int p4] : List Value).toArray s 0 0 (AM am s.heap.size)) (F0 m 104 ls [.int t2, .int t1, .ref (am 0)]) := by
        intro x1 x2 x5 x6 t1 t2 fi ar H locs ls hF hl hP hS
        unfold M_layPart_104 at hF
        refine lv_iadd hx hb dX11_layPart_104 ?_
        refine lv_iconst (v := (2 : Int32)) hx hb dX11_layPart_105 (by decide) ?_
        refine lv_iload hx hb dX11_layPart_106 (lv_at hl 4 rfl) ?_
        refine lv_aload_n hx hb dX11_layPart_108 rfl (lv_at hl 0 rfl) ?_
        refine mg_35 hx hb hT hown hK hP mw33_9 dX11_layPart_109 ?_
        refine lv_icmp_ge (tgt := 126) hx hb dX11_layPart_112 (by decide) (fun hc6 => ?_) (fun hc6 => ?_)
        · replace hF := br_yes hF hc6
          refine lv_iload hx hb dX11_layPart_126 (lv_at hl 4 rfl) ?_
          refine lv_aload_n hx hb dX11_layPart_128 rfl (lv_at hl 0 rfl) ?_
          refine mg_35 hx hb hT hown hK hP mw33_9 dX11_layPart_129 ?_
          refine lv_icmp_ne (tgt := 139) hx hb dX11_layPart_132 (by decide) (fun hc7 => ?_) (fun hc7 => ?_)
          · replace hF := br_no hF hc7
            refine lv_ldc2 (v := (65535 : Int64)) hx hb hown (hT _ mw50_13) dX11_layPart_139 ?_
            exact J142 (x1) (x2) (x5) ((t1) + (t2)) (2 : Int32) (65535 : Int64) _ _ _ _ _ hF (lv_sub hl [0, 1, 2, 3] rfl) hP hS
          · replace hF := br_yes hF hc7
            refine lv_lconst (v := (0 : Int64)) hx hb dX11_layPart_135 (by decide) ?_
            refine lv_goto (tgt := 142) hx hb dX11_layPart_136 (by decide) ?_
            exact J142 (x1) (x2) (x5) ((t1) + (t2)) (2 : Int32) (0 : Int64) _ _ _ _ _ hF (lv_sub hl [0, 1, 2, 3] rfl) hP hS
        · replace hF := br_no hF hc6
          refine lv_aload_n hx hb dX11_layPart_115 rfl (lv_at hl 0 rfl) ?_
          refine mg_34 hx hb hT hown hK hP mw6_18 dX11_layPart_116 ?_
          refine lv_iload hx hb dX11_layPart_119 (lv_at hl 4 rfl) ?_
          replace hF := gd_of hF
          obtain ⟨hi8, hF⟩ := hF
          refine ml_34 hx hb hK hP hi8 dX11_layPart_121 ?_
          refine lv_i2l hx hb dX11_layPart_122 rfl ?_
          refine lv_goto (tgt := 142) hx hb dX11_layPart_123 (by decide) ?_
          exact J142 (x1) (x2) (x5) ((t1) + (t2)) (2 : Int32) ((ar 34 (x6).toNatClampNeg).toInt64) _ _ _ _ _ hF (lv_sub hl [0, 1, 2, 3] rfl) hP hS
      unfold M_layPart_46b at hF
      refine lv_iload hx hb dX11_layPart_46 (lv_at hl 3 rfl) ?_
      refine lv_bipush (v := (13 : Int32)) hx hb dX11_layPart_48 (by decide) ?_
      refine lv_icmp_ge (tgt := 151) hx hb dX11_layPart_50 (by decide) (fun hc9 => ?_) (fun hc9 => ?_)
      · replace hF := br_yes hF hc9
        exact rM_v hx hb hr hlocks hF hP hS dX11_layPart_151
      · replace hF := br_no hF hc9
        refine lv_bipush (v := (13 : Int32)) hx hb dX11_layPart_53 (by decide) ?_
        refine lv_iload_n hx hb dX11_layPart_55 rfl (lv_at hl 2 rfl) ?_
        refine lv_iconst (v := (1 : Int32)) hx hb dX11_layPart_56 (by decide) ?_
        refine lv_isub hx hb dX11_layPart_57 ?_
        refine lv_imul hx hb dX11_layPart_58 ?_
        refine lv_iload hx hb dX11_layPart_59 (lv_at hl 3 rfl) ?_
        refine lv_iadd hx hb dX11_layPart_61 ?_
        obtain ⟨x6_10, ex6_10⟩ : ∃ y : Int32, y = (((13 : Int32) * ((x2) - (1 : Int32))) + (x5)) := ⟨_, rfl⟩
        rw [← ex6_10]
        replace hF := bnd_of hF ex6_10
        refine lv_istore (lv' := [(6, .int (x6_10)), (0, .ref (am 0)), (1, .int (x1)), (2, .int (x2)), (5, .int (x5))]) hx hb dX11_layPart_62 hl (by decide) rfl (fun ls hl => ?_)
        refine lv_aload_n hx hb dX11_layPart_64 rfl (lv_at hl 1 rfl) ?_
        refine lv_iload_n hx hb dX11_layPart_65 rfl (lv_at hl 2 rfl) ?_
        refine lv_iload hx hb dX11_layPart_66 (lv_at hl 4 rfl) ?_
        refine lv_iconst (v := (5 : Int32)) hx hb dX11_layPart_68 (by decide) ?_
        refine lv_icmp_ge (tgt := 81) hx hb dX11_layPart_69 (by decide) (fun hc11 => ?_) (fun hc11 => ?_)
        · replace hF := br_yes hF hc11
          refine lv_iload hx hb dX11_layPart_81 (lv_at hl 4 rfl) ?_
          refine lv_bipush (v := (11 : Int32)) hx hb dX11_layPart_83 (by decide) ?_
          refine lv_icmp_ge (tgt := 97) hx hb dX11_layPart_85 (by decide) (fun hc12 => ?_) (fun hc12 => ?_)
          · replace hF := br_yes hF hc12
            refine lv_bipush (v := (6 : Int32)) hx hb dX11_layPart_97 (by decide) ?_
            refine lv_iconst (v := (2 : Int32)) hx hb dX11_layPart_99 (by decide) ?_
            refine lv_iload hx hb dX11_layPart_100 (lv_at hl 4 rfl) ?_
            refine lv_imul hx hb dX11_layPart_102 ?_
            refine lv_iadd hx hb dX11_layPart_103 ?_
            exact J104 (x1) (x2) (x5) (x6_10) (x1) ((6 : Int32) + ((2 : Int32) * (x5))) _ _ _ _ _ hF (lv_sub hl [1, 2, 3, 4, 0] rfl) hP hS
          · replace hF := br_no hF hc12
            refine lv_iconst (v := (4 : Int32)) hx hb dX11_layPart_88 (by decide) ?_
            refine lv_iconst (v := (2 : Int32)) hx hb dX11_layPart_89 (by decide) ?_
            refine lv_iload hx hb dX11_layPart_90 (lv_at hl 4 rfl) ?_
            refine lv_imul hx hb dX11_layPart_92 ?_
            refine lv_iadd hx hb dX11_layPart_93 ?_
            refine lv_goto (tgt := 104) hx hb dX11_layPart_94 (by decide) ?_
            exact J104 (x1) (x2) (x5) (x6_10) (x1) ((4 : Int32) + ((2 : Int32) * (x5))) _ _ _ _ _ hF (lv_sub hl [1, 2, 3, 4, 0] rfl) hP hS
        · replace hF := br_no hF hc11
          refine lv_iconst (v := (1 : Int32)) hx hb dX11_layPart_72 (by decide) ?_
          refine lv_iconst (v := (2 : Int32)) hx hb dX11_layPart_73 (by decide) ?_
          refine lv_iload hx hb dX11_layPart_74 (lv_at hl 4 rfl) ?_
          refine lv_imul hx hb dX11_layPart_76 ?_
          refine lv_iadd hx hb dX11_layPart_77 ?_
          refine lv_goto (tgt := 104) hx hb dX11_layPart_78 (by decide) ?_
          exact J104 (x1) (x2) (x5) (x6_10) (x1) ((1 : Int32) + ((2 : Int32) * (x5))) _ _ _ _ _ hF (lv_sub hl [1, 2, 3, 4, 0] rfl) hP hS
  have J14 : ∀ (x1 : Int32) (x2 : Int32) (x4 : Int32) (t1 : Int32) (t2 : Int32) (t3 : Int32) (t4 : Int32) (fi : FI) (ar : AR) (H : Heap) (locs : List Loc) (ls : Array Slot), M_layPart_14 nf x1 x2 x4 t1 t2 t3 t4 fi ar = some (r, fi', ar') → lv_has ls 7 [(0, .ref (am 0)), (1, .int x1), (2, .int x2), (4, .int x4)] → va_P (gD g) vwCl (WM g am fi ar) H → va_S (AM am s.heap.size) s.heap H locs → W p l e (headSpec (wx yX11_layPart cX11_layPart 7 none) ({ frames := 1, cells := 0, slots := 0, locals := 25 } : Room)).room s m ([.ref (am 0), .int p1, .int p2, .int p3, .int p4] : List Value).toArray below meth c H locs 0 0 (MQ below (QMv g am s.heap.size r fi' ar') ([.ref (am 0), .int p1, .int p2, .int p3, .int p4] : List Value).toArray s 0 0 (AM am s.heap.size)) (F0 m 14 ls [.int t4, .int t3, .int t2, .int t1, .ref (am 0)]) := by
    intro x1 x2 x4 t1 t2 t3 t4 fi ar H locs ls hF hl hP hS
    unfold M_layPart_14 at hF
    refine lv_iadd hx hb dX11_layPart_14 ?_
    refine lv_i2l hx hb dX11_layPart_15 rfl ?_
    replace hF := obnd3_of hF
    obtain ⟨r16, fi14, ar15, h13, hF⟩ := hF
    refine cM_v (As := [.int (t1), .int (t2), .long (((t3) + (t4)).toInt64)]) (rest := []) hx hb hml hT hown hK hE hD hA hP hS (k_set l g am _ nf fi ar (t1) (t2) (((t3) + (t4)).toInt64) r16 fi14 ar15 h13) cw_X11_set mw18_18 ⟨⟨rfl, rfl⟩, Nat.le_of_ble_eq_true rfl, Nat.le_of_ble_eq_true rfl⟩ rfl hl.1 rfl (Nat.le_of_ble_eq_true rfl) dX11_layPart_16 ⟨Nat.zero_le _, Nat.zero_le _⟩ (fun H locs hP hS => ?_)
    refine lv_aload_n hx hb dX11_layPart_19 rfl (lv_at hl 0 rfl) ?_
    refine lv_iload_n hx hb dX11_layPart_20 rfl (lv_at hl 1 rfl) ?_
    refine lv_bipush (v := (11 : Int32)) hx hb dX11_layPart_21 (by decide) ?_
    refine lv_iadd hx hb dX11_layPart_23 ?_
    refine lv_iconst (v := (1 : Int32)) hx hb dX11_layPart_24 (by decide) ?_
    refine lv_ldc2 (v := (15 : Int64)) hx hb hown (hT _ mw50_12) dX11_layPart_25 ?_
    replace hF := obnd3_of hF
    obtain ⟨r20, fi18, ar19, h17, hF⟩ := hF
    refine cM_v (As := [.int ((x1) + (11 : Int32)), .int (1 : Int32), .long (15 : Int64)]) (rest := []) hx hb hml hT hown hK hE hD hA hP hS (k_set l g am _ nf fi14 ar15 ((x1) + (11 : Int32)) (1 : Int32) (15 : Int64) r20 fi18 ar19 h17) cw_X11_set mw18_18 ⟨⟨rfl, rfl⟩, Nat.le_of_ble_eq_true rfl, Nat.le_of_ble_eq_true rfl⟩ rfl hl.1 rfl (Nat.le_of_ble_eq_true rfl) dX11_layPart_28 ⟨Nat.zero_le _, Nat.zero_le _⟩ (fun H locs hP hS => ?_)
    refine lv_aload_n hx hb dX11_layPart_31 rfl (lv_at hl 0 rfl) ?_
    refine lv_iload_n hx hb dX11_layPart_32 rfl (lv_at hl 1 rfl) ?_
    refine lv_bipush (v := (13 : Int32)) hx hb dX11_layPart_33 (by decide) ?_
    refine lv_iadd hx hb dX11_layPart_35 ?_
    refine lv_iconst (v := (1 : Int32)) hx hb dX11_layPart_36 (by decide) ?_
    refine lv_iload hx hb dX11_layPart_37 (lv_at hl 3 rfl) ?_
    refine lv_i2l hx hb dX11_layPart_39 rfl ?_
    replace hF := obnd3_of hF
    obtain ⟨r24, fi22, ar23, h21, hF⟩ := hF
    refine cM_v (As := [.int ((x1) + (13 : Int32)), .int (1 : Int32), .long ((x4).toInt64)]) (rest := []) hx hb hml hT hown hK hE hD hA hP hS (k_set l g am _ nf fi18 ar19 ((x1) + (13 : Int32)) (1 : Int32) ((x4).toInt64) r24 fi22 ar23 h21) cw_X11_set mw18_18 ⟨⟨rfl, rfl⟩, Nat.le_of_ble_eq_true rfl, Nat.le_of_ble_eq_true rfl⟩ rfl hl.1 rfl (Nat.le_of_ble_eq_true rfl) dX11_layPart_40 ⟨Nat.zero_le _, Nat.zero_le _⟩ (fun H locs hP hS => ?_)
    refine lv_iconst (v := (0 : Int32)) hx hb dX11_layPart_43 (by decide) ?_
    refine lv_istore (lv' := [(5, .int (0 : Int32)), (0, .ref (am 0)), (1, .int (x1)), (2, .int (x2)), (4, .int (x4))]) hx hb dX11_layPart_44 hl (by decide) rfl (fun ls hl => ?_)
    exact L46 nf (x1) (x2) (0 : Int32) _ _ _ _ _ hF (lv_sub hl [1, 2, 3, 0] rfl) hP hS
  replace hl := lv_sub hl [0, 1, 2, 3, 4] rfl
  refine lv_aload_n hx hb dX11_layPart_0 rfl (lv_at hl 0 rfl) ?_
  refine lv_iload_n hx hb dX11_layPart_1 rfl (lv_at hl 1 rfl) ?_
  refine lv_iconst (v := (1 : Int32)) hx hb dX11_layPart_2 (by decide) ?_
  refine lv_iload_n hx hb dX11_layPart_3 rfl (lv_at hl 2 rfl) ?_
  refine lv_iload_n hx hb dX11_layPart_4 rfl (lv_at hl 3 rfl) ?_
  refine lv_if_eq (tgt := 13) hx hb dX11_layPart_5 (by decide) (fun hc25 => ?_) (fun hc25 => ?_)
  · replace hF := br_yes hF hc25
    refine lv_iconst (v := (0 : Int32)) hx hb dX11_layPart_13 (by decide) ?_
    exact J14 (p1) (p2) (p4) (p1) (1 : Int32) (p2) (0 : Int32) _ _ _ _ _ hF (lv_sub hl [0, 1, 2, 4] rfl) hP hS
  · replace hF := br_no hF hc25
    refine lv_bipush (v := (64 : Int32)) hx hb dX11_layPart_8 (by decide) ?_
    refine lv_goto (tgt := 14) hx hb dX11_layPart_10 (by decide) ?_
    exact J14 (p1) (p2) (p4) (p1) (1 : Int32) (p2) (64 : Int32) _ _ _ _ _ hF (lv_sub hl [0, 1, 2, 4] rfl) hP hS
theorem cw_X11_layPart : (Cond.instanceMethod yX11_layPart ∈ TB ∧ Cond.selects RX11 yX11_layPart yX11_layPart ∈ TB ∧ Cond.code yX11_layPart cX11_layPart 7 none ∈ TB) ∧ (yX11_layPart.cls = RX11 ∧ yX11_layPart.cls ≠ "java/lang/invoke/MethodHandle" ∧ yX11_layPart.cls ≠ "java/lang/invoke/VarHandle" ∧ (parseMethodDescriptor yX11_layPart.desc).map (fun d => d.parameters.length) = some 4) := ⟨⟨mw50_9, mw50_10, mw50_11⟩, by decide +kernel⟩
/-! X11_make -/
noncomputable def M_make_772b (K772 : Int32 → Int32 → Int32 → Int32 → FI → AR → Option (Int32 × FI × AR)) (nf : Nat) (x4 : Int32) (x6 : Int32) (x9 : Int32) (x14 : Int32) (fi : FI) (ar : AR) : Option (Int32 × FI × AR) :=
  gd (¬ ((x4) < 0 ∨ 16400 ≤ (x4).toNatClampNeg)) (gd (¬ (((ar 25 (x4).toNatClampNeg) + (x14)) < 0 ∨ 16400 ≤ ((ar 25 (x4).toNatClampNeg) + (x14)).toNatClampNeg)) (br ((ar 21 ((ar 25 (x4).toNatClampNeg) + (x14)).toNatClampNeg) = (((x9) + (x6)) - (1 : Int32))) (some ((x14), fi, ar)) (bnd ((x14) + (1 : Int32)) fun x14_4 => K772 (x4) (x6) (x9) (x14_4) fi ar)))
noncomputable def M_make_772 (nf : Nat) (kf : Nat) : Int32 → Int32 → Int32 → Int32 → FI → AR → Option (Int32 × FI × AR) := Nat.rec (fun _ _ _ _ _ _ => none) (fun _ K772 => M_make_772b K772 nf) kf
noncomputable def M_make_755 (nf : Nat) (x6 : Int32) (x9 : Int32) (fi : FI) (ar : AR) : Option (Int32 × FI × AR) :=
  obnd3 (M_changed nf fi ar) fun r8 fi6 ar7 => obnd3 (M_look nf fi6 ar7) fun r12 fi10 ar11 => obnd3 (M_folderHere nf fi10 ar11) fun r16 fi14 ar15 => M_make_772 nf nf (r16) (x6) (x9) (0 : Int32) fi14 ar15
noncomputable def M_make_702 (K629 : Int32 → Int32 → Int32 → Int32 → Int32 → FI → AR → Option (Int32 × FI × AR)) (K672 : Int32 → Int32 → Int32 → Int32 → Int32 → Int32 → Int32 → Int32 → FI → AR → Option (Int32 × FI × AR)) (nf : Nat) (x1 : Int32) (x6 : Int32) (x9 : Int32) (x11 : Int32) (x14 : Int32) (x15 : Int32) (x16 : Int32) (x17 : Int32) (t1 : Int32) (t2 : Int32) (fi : FI) (ar : AR) : Option (Int32 × FI × AR) :=
  gd (¬ ((t1) < 0 ∨ 524288 ≤ (t1).toNatClampNeg)) (bnd (va_up ar 1 (upd (ar 1) (t1).toNatClampNeg (vp_nar .byte ((t2).toInt8.toInt32)))) fun ar18 => bnd ((x17) + (1 : Int32)) fun x17_19 => K672 (x1) (x6) (x9) (x11) (x14) (x15) (x16) (x17_19) fi ar18)
noncomputable def M_make_672b (K672 : Int32 → Int32 → Int32 → Int32 → Int32 → Int32 → Int32 → Int32 → FI → AR → Option (Int32 × FI × AR)) (K629 : Int32 → Int32 → Int32 → Int32 → Int32 → FI → AR → Option (Int32 × FI × AR)) (nf : Nat) (x1 : Int32) (x6 : Int32) (x9 : Int32) (x11 : Int32) (x14 : Int32) (x15 : Int32) (x16 : Int32) (x17 : Int32) (fi : FI) (ar : AR) : Option (Int32 × FI × AR) :=
  br ((11 : Int32) ≤ (x17)) (obnd3 (M_set nf fi ar ((x15) + (11 : Int32)) (1 : Int32) (16 : Int64)) fun r24 fi22 ar23 => obnd3 (M_set nf fi22 ar23 ((x15) + (24 : Int32)) (2 : Int32) (33 : Int64)) fun r28 fi26 ar27 => obnd3 (M_set nf fi26 ar27 ((x15) + (26 : Int32)) (2 : Int32) ((x16).toInt64)) fun r32 fi30 ar31 => bnd ((x14) + (1 : Int32)) fun x14_33 => K629 (x1) (x6) (x9) (x11) (x14_33) fi30 ar31) (br ((x14) < (x17)) (M_make_702 K629 K672 nf  (x1) (x6) (x9) (x11) (x14) (x15) (x16) (x17) ((x15) + (x17)) (32 : Int32) fi ar) (M_make_702 K629 K672 nf  (x1) (x6) (x9) (x11) (x14) (x15) (x16) (x17) ((x15) + (x17)) (46 : Int32) fi ar))
noncomputable def M_make_672 (K629 : Int32 → Int32 → Int32 → Int32 → Int32 → FI → AR → Option (Int32 × FI × AR)) (nf : Nat) (kf : Nat) : Int32 → Int32 → Int32 → Int32 → Int32 → Int32 → Int32 → Int32 → FI → AR → Option (Int32 × FI × AR) := Nat.rec (fun _ _ _ _ _ _ _ _ _ _ => none) (fun _ K672 => M_make_672b K672 K629 nf) kf
noncomputable def M_make_667 (K629 : Int32 → Int32 → Int32 → Int32 → Int32 → FI → AR → Option (Int32 × FI × AR)) (nf : Nat) (x1 : Int32) (x6 : Int32) (x9 : Int32) (x11 : Int32) (x14 : Int32) (x15 : Int32) (t0 : Int32) (fi : FI) (ar : AR) : Option (Int32 × FI × AR) :=
  M_make_672 K629 nf nf (x1) (x6) (x9) (x11) (x14) (x15) (t0) (0 : Int32) fi ar
noncomputable def M_make_629b (K629 : Int32 → Int32 → Int32 → Int32 → Int32 → FI → AR → Option (Int32 × FI × AR)) (nf : Nat) (x1 : Int32) (x6 : Int32) (x9 : Int32) (x11 : Int32) (x14 : Int32) (fi : FI) (ar : AR) : Option (Int32 × FI × AR) :=
  br ((2 : Int32) ≤ (x14)) (M_make_755 nf  (x6) (x9) fi ar) (br ((x1) = 0) (M_make_755 nf  (x6) (x9) fi ar) (obnd3 (M_place nf fi ar (x11)) fun r40 fi38 ar39 => bnd ((r40) + ((32 : Int32) * (x14))) fun x15_41 => br ((x14) = 0) (M_make_667 K629 nf  (x1) (x6) (x9) (x11) (x14) (x15_41) (x11) fi38 ar39) (M_make_667 K629 nf  (x1) (x6) (x9) (x11) (x14) (x15_41) (fi38 14) fi38 ar39)))
noncomputable def M_make_629 (nf : Nat) (kf : Nat) : Int32 → Int32 → Int32 → Int32 → Int32 → FI → AR → Option (Int32 × FI × AR) := Nat.rec (fun _ _ _ _ _ _ _ => none) (fun _ K629 => M_make_629b K629 nf) kf
noncomputable def M_make_626 (nf : Nat) (x1 : Int32) (x6 : Int32) (x9 : Int32) (x11 : Int32) (fi : FI) (ar : AR) : Option (Int32 × FI × AR) :=
  M_make_629 nf nf (x1) (x6) (x9) (x11) (0 : Int32) fi ar
noncomputable def M_make_548 (nf : Nat) (x1 : Int32) (x6 : Int32) (x7 : Int32) (x8 : Int32) (x9 : Int32) (x11 : Int32) (x12 : Int32) (t1 : Int32) (t2 : Int32) (t3 : Int64) (fi : FI) (ar : AR) : Option (Int32 × FI × AR) :=
  obnd3 (M_set nf fi ar (t1) (t2) (t3)) fun r46 fi44 ar45 => obnd3 (M_set nf fi44 ar45 ((x12) + (24 : Int32)) (2 : Int32) (33 : Int64)) fun r50 fi48 ar49 => obnd3 (M_set nf fi48 ar49 ((x12) + (20 : Int32)) (2 : Int32) (((x11) >>> ((16 : Int32) &&& 31)).toInt64)) fun r54 fi52 ar53 => obnd3 (M_set nf fi52 ar53 ((x12) + (26 : Int32)) (2 : Int32) ((x11).toInt64)) fun r58 fi56 ar57 => bnd ((x9) + (x6)) fun x13_59 => br ((x13_59) < (x8)) (M_make_626 nf  (x1) (x6) (x9) (x11) fi56 ar57) (br ((x7) ≤ (x13_59)) (M_make_626 nf  (x1) (x6) (x9) (x11) fi56 ar57) (obnd3 (M_slotAt nf fi56 ar57 (x13_59)) fun r65 fi63 ar64 => gd (¬ ((r65) < 0 ∨ 524288 ≤ (r65).toNatClampNeg)) (bnd (va_up ar64 1 (upd (ar64 1) (r65).toNatClampNeg (vp_nar .byte (0 : Int32)))) fun ar67 => M_make_626 nf  (x1) (x6) (x9) (x11) fi63 ar67)))
noncomputable def M_make_513 (K472 : Int32 → Int32 → Int32 → Int32 → Int32 → Int32 → Int32 → Int32 → FI → AR → Option (Int32 × FI × AR)) (nf : Nat) (x1 : Int32) (x6 : Int32) (x7 : Int32) (x8 : Int32) (x9 : Int32) (x11 : Int32) (x12 : Int32) (x13 : Int32) (t1 : Int32) (t2 : Int32) (t3 : Int32) (fi : FI) (ar : AR) : Option (Int32 × FI × AR) :=
  obnd3 (M_sumOf nf fi ar (x12)) fun r71 fi69 ar70 => obnd3 (M_layPart nf fi69 ar70 (t1) (t2) (t3) (r71)) fun r75 fi73 ar74 => bnd ((x13) + (1 : Int32)) fun x13_76 => K472 (x1) (x6) (x7) (x8) (x9) (x11) (x12) (x13_76) fi73 ar74
noncomputable def M_make_472b (K472 : Int32 → Int32 → Int32 → Int32 → Int32 → Int32 → Int32 → Int32 → FI → AR → Option (Int32 × FI × AR)) (nf : Nat) (x1 : Int32) (x6 : Int32) (x7 : Int32) (x8 : Int32) (x9 : Int32) (x11 : Int32) (x12 : Int32) (x13 : Int32) (fi : FI) (ar : AR) : Option (Int32 × FI × AR) :=
  br ((((x9) + (x6)) - (1 : Int32)) ≤ (x13)) (br ((x1) = 0) (M_make_548 nf  (x1) (x6) (x7) (x8) (x9) (x11) (x12) ((x12) + (11 : Int32)) (1 : Int32) (32 : Int64) fi ar) (M_make_548 nf  (x1) (x6) (x7) (x8) (x9) (x11) (x12) ((x12) + (11 : Int32)) (1 : Int32) (48 : Int64) fi ar)) (obnd3 (M_slotAt nf fi ar (x13)) fun r82 fi80 ar81 => br ((x13) = (x9)) (M_make_513 K472 nf  (x1) (x6) (x7) (x8) (x9) (x11) (x12) (x13) (r82) (((x6) - (1 : Int32)) - ((x13) - (x9))) (1 : Int32) fi80 ar81) (M_make_513 K472 nf  (x1) (x6) (x7) (x8) (x9) (x11) (x12) (x13) (r82) (((x6) - (1 : Int32)) - ((x13) - (x9))) (0 : Int32) fi80 ar81))
noncomputable def M_make_472 (nf : Nat) (kf : Nat) : Int32 → Int32 → Int32 → Int32 → Int32 → Int32 → Int32 → Int32 → FI → AR → Option (Int32 × FI × AR) := Nat.rec (fun _ _ _ _ _ _ _ _ _ _ => none) (fun _ K472 => M_make_472b K472 nf) kf
noncomputable def M_make_437b (K437 : Int32 → Int32 → Int32 → Int32 → Int32 → Int32 → Int32 → Int32 → FI → AR → Option (Int32 × FI × AR)) (nf : Nat) (x1 : Int32) (x6 : Int32) (x7 : Int32) (x8 : Int32) (x9 : Int32) (x11 : Int32) (x12 : Int32) (x13 : Int32) (fi : FI) (ar : AR) : Option (Int32 × FI × AR) :=
  br ((11 : Int32) ≤ (x13)) (M_make_472 nf nf (x1) (x6) (x7) (x8) (x9) (x11) (x12) (x9) fi ar) (gd (¬ ((x13) < 0 ∨ 11 ≤ (x13).toNatClampNeg)) (gd (¬ (((x12) + (x13)) < 0 ∨ 524288 ≤ ((x12) + (x13)).toNatClampNeg)) (bnd (va_up ar 1 (upd (ar 1) ((x12) + (x13)).toNatClampNeg (vp_nar .byte ((ar 39 (x13).toNatClampNeg).toInt8.toInt32)))) fun ar87 => bnd ((x13) + (1 : Int32)) fun x13_88 => K437 (x1) (x6) (x7) (x8) (x9) (x11) (x12) (x13_88) fi ar87)))
noncomputable def M_make_437 (nf : Nat) (kf : Nat) : Int32 → Int32 → Int32 → Int32 → Int32 → Int32 → Int32 → Int32 → FI → AR → Option (Int32 × FI × AR) := Nat.rec (fun _ _ _ _ _ _ _ _ _ _ => none) (fun _ K437 => M_make_437b K437 nf) kf
noncomputable def M_make_387b (K387 : Int32 → Int32 → Int32 → Int32 → Int32 → Int32 → Int32 → Int32 → FI → AR → Option (Int32 × FI × AR)) (K374 : Int32 → Int32 → Int32 → Int32 → Int32 → Int32 → Int32 → FI → AR → Option (Int32 × FI × AR)) (nf : Nat) (x1 : Int32) (x6 : Int32) (x7 : Int32) (x8 : Int32) (x9 : Int32) (x11 : Int32) (x12 : Int32) (x13 : Int32) (fi : FI) (ar : AR) : Option (Int32 × FI × AR) :=
  br ((32 : Int32) ≤ (x13)) (bnd ((x12) + (1 : Int32)) fun x12_90 => K374 (x1) (x6) (x7) (x8) (x9) (x11) (x12_90) fi ar) (obnd3 (M_slotAt nf fi ar (x12)) fun r94 fi92 ar93 => gd (¬ (((r94) + (x13)) < 0 ∨ 524288 ≤ ((r94) + (x13)).toNatClampNeg)) (bnd (va_up ar93 1 (upd (ar93 1) ((r94) + (x13)).toNatClampNeg (vp_nar .byte (0 : Int32)))) fun ar96 => bnd ((x13) + (1 : Int32)) fun x13_97 => K387 (x1) (x6) (x7) (x8) (x9) (x11) (x12) (x13_97) fi92 ar96))
noncomputable def M_make_387 (K374 : Int32 → Int32 → Int32 → Int32 → Int32 → Int32 → Int32 → FI → AR → Option (Int32 × FI × AR)) (nf : Nat) (kf : Nat) : Int32 → Int32 → Int32 → Int32 → Int32 → Int32 → Int32 → Int32 → FI → AR → Option (Int32 × FI × AR) := Nat.rec (fun _ _ _ _ _ _ _ _ _ _ => none) (fun _ K387 => M_make_387b K387 K374 nf) kf
noncomputable def M_make_374b (K374 : Int32 → Int32 → Int32 → Int32 → Int32 → Int32 → Int32 → FI → AR → Option (Int32 × FI × AR)) (nf : Nat) (x1 : Int32) (x6 : Int32) (x7 : Int32) (x8 : Int32) (x9 : Int32) (x11 : Int32) (x12 : Int32) (fi : FI) (ar : AR) : Option (Int32 × FI × AR) :=
  br (((x9) + (x6)) ≤ (x12)) (obnd3 (M_slotAt nf fi ar (((x9) + (x6)) - (1 : Int32))) fun r102 fi100 ar101 => M_make_437 nf nf (x1) (x6) (x7) (x8) (x9) (x11) (r102) (0 : Int32) fi100 ar101) (M_make_387 K374 nf nf (x1) (x6) (x7) (x8) (x9) (x11) (x12) (0 : Int32) fi ar)
noncomputable def M_make_374 (nf : Nat) (kf : Nat) : Int32 → Int32 → Int32 → Int32 → Int32 → Int32 → Int32 → FI → AR → Option (Int32 × FI × AR) := Nat.rec (fun _ _ _ _ _ _ _ _ _ => none) (fun _ K374 => M_make_374b K374 nf) kf
noncomputable def M_make_310b (K310 : Int32 → Int32 → Int32 → Int32 → Int32 → Int32 → Int32 → Int32 → FI → AR → Option (Int32 × FI × AR)) (nf : Nat) (x1 : Int32) (x6 : Int32) (x7 : Int32) (x8 : Int32) (x9 : Int32) (x10 : Int32) (x11 : Int32) (x12 : Int32) (fi : FI) (ar : AR) : Option (Int32 × FI × AR) :=
  br ((x10) ≤ (x12)) (M_make_374 nf nf (x1) (x6) (x7) (x8) (x9) (x11) (x9) fi ar) (obnd3 (M_take nf fi ar) fun r107 fi105 ar106 => gd (¬ ((fi 32) < 0 ∨ 560 ≤ (fi 32).toNatClampNeg)) (bnd (va_up ar106 30 (upd (ar106 30) (fi 32).toNatClampNeg (r107))) fun ar109 => gd (¬ (((fi105 32) - (1 : Int32)) < 0 ∨ 560 ≤ ((fi105 32) - (1 : Int32)).toNatClampNeg)) (gd (¬ ((fi105 32) < 0 ∨ 560 ≤ (fi105 32).toNatClampNeg)) (obnd3 (M_setEntry nf fi105 ar109 (ar109 30 ((fi105 32) - (1 : Int32)).toNatClampNeg) (ar109 30 (fi105 32).toNatClampNeg)) fun r115 fi113 ar114 => bnd (va_up fi113 32 ((fi113 32) + (1 : Int32))) fun fi116 => bnd ((x12) + (1 : Int32)) fun x12_117 => K310 (x1) (x6) (x7) (x8) (x9) (x10) (x11) (x12_117) fi116 ar114))))
noncomputable def M_make_310 (nf : Nat) (kf : Nat) : Int32 → Int32 → Int32 → Int32 → Int32 → Int32 → Int32 → Int32 → FI → AR → Option (Int32 × FI × AR) := Nat.rec (fun _ _ _ _ _ _ _ _ _ _ => none) (fun _ K310 => M_make_310b K310 nf) kf
noncomputable def M_make_305 (nf : Nat) (x1 : Int32) (x6 : Int32) (x7 : Int32) (x8 : Int32) (x9 : Int32) (x10 : Int32) (t0 : Int32) (fi : FI) (ar : AR) : Option (Int32 × FI × AR) :=
  M_make_310 nf nf (x1) (x6) (x7) (x8) (x9) (x10) (t0) (0 : Int32) fi ar
noncomputable def M_make_284 (nf : Nat) (x1 : Int32) (x6 : Int32) (x7 : Int32) (x8 : Int32) (x9 : Int32) (x10 : Int32) (t1 : Int32) (fi : FI) (ar : AR) : Option (Int32 × FI × AR) :=
  obnd3 (M_fails nf fi ar (t1) (3 : Int32)) fun r121 fi119 ar120 => br ((r121) = 0) (br ((x1) = 0) (M_make_305 nf  (x1) (x6) (x7) (x8) (x9) (x10) (0 : Int32) fi119 ar120) (obnd3 (M_take nf fi119 ar120) fun r127 fi125 ar126 => M_make_305 nf  (x1) (x6) (x7) (x8) (x9) (x10) (r127) fi125 ar126)) (some ((0 : Int32), fi119, ar120))
noncomputable def M_make_271 (nf : Nat) (x1 : Int32) (x6 : Int32) (x7 : Int32) (x8 : Int32) (x9 : Int32) (x10 : Int32) (t1 : Int32) (t2 : Int32) (fi : FI) (ar : AR) : Option (Int32 × FI × AR) :=
  obnd3 (M_freeOnes nf fi ar) fun r131 fi129 ar130 => br (((t1) + (t2)) ≤ (r131)) (M_make_284 nf  (x1) (x6) (x7) (x8) (x9) (x10) (0 : Int32) fi129 ar130) (M_make_284 nf  (x1) (x6) (x7) (x8) (x9) (x10) (1 : Int32) fi129 ar130)
noncomputable def M_make_257 (nf : Nat) (x1 : Int32) (x6 : Int32) (x7 : Int32) (x8 : Int32) (x9 : Int32) (t0 : Int32) (fi : FI) (ar : AR) : Option (Int32 × FI × AR) :=
  br ((x1) = 0) (M_make_271 nf  (x1) (x6) (x7) (x8) (x9) (t0) (t0) (0 : Int32) fi ar) (M_make_271 nf  (x1) (x6) (x7) (x8) (x9) (t0) (t0) (1 : Int32) fi ar)
noncomputable def M_make_225 (nf : Nat) (x1 : Int32) (x6 : Int32) (x7 : Int32) (x8 : Int32) (x9 : Int32) (fi : FI) (ar : AR) : Option (Int32 × FI × AR) :=
  br (((x9) + (x6)) ≤ (x7)) (M_make_257 nf  (x1) (x6) (x7) (x8) (x9) (0 : Int32) fi ar) (obnd (M_whole nf (((x9) + (x6)) - (x7)) ((16 : Int32) * (fi 7))) fun r136 => M_make_257 nf  (x1) (x6) (x7) (x8) (x9) (r136) fi ar)
noncomputable def M_make_219 (K173 : Int32 → Int32 → Int32 → Int32 → Int32 → Int32 → FI → AR → Option (Int32 × FI × AR)) (nf : Nat) (x1 : Int32) (x6 : Int32) (x7 : Int32) (x8 : Int32) (x9 : Int32) (x10 : Int32) (fi : FI) (ar : AR) : Option (Int32 × FI × AR) :=
  bnd ((x10) + (1 : Int32)) fun x10_137 => K173 (x1) (x6) (x7) (x8) (x9) (x10_137) fi ar
noncomputable def M_make_173b (K173 : Int32 → Int32 → Int32 → Int32 → Int32 → Int32 → FI → AR → Option (Int32 × FI × AR)) (nf : Nat) (x1 : Int32) (x6 : Int32) (x7 : Int32) (x8 : Int32) (x9 : Int32) (x10 : Int32) (fi : FI) (ar : AR) : Option (Int32 × FI × AR) :=
  br ((x7) ≤ (x10)) (M_make_225 nf  (x1) (x6) (x7) (x8) (x9) fi ar) (br ((x6) ≤ ((x10) - (x9))) (M_make_225 nf  (x1) (x6) (x7) (x8) (x9) fi ar) (br ((x8) ≤ (x10)) (M_make_219 K173 nf  (x1) (x6) (x7) (x8) (x9) (x10) fi ar) (obnd3 (M_slotAt nf fi ar (x10)) fun r144 fi142 ar143 => obnd3 (M_one nf fi142 ar143 (r144)) fun r148 fi146 ar147 => br ((r148) = (229 : Int32)) (M_make_219 K173 nf  (x1) (x6) (x7) (x8) (x9) (x10) fi146 ar147) (bnd ((x10) + (1 : Int32)) fun x9_150 => M_make_219 K173 nf  (x1) (x6) (x7) (x8) (x9_150) (x10) fi146 ar147))))
noncomputable def M_make_173 (nf : Nat) (kf : Nat) : Int32 → Int32 → Int32 → Int32 → Int32 → Int32 → FI → AR → Option (Int32 × FI × AR) := Nat.rec (fun _ _ _ _ _ _ _ _ => none) (fun _ K173 => M_make_173b K173 nf) kf
noncomputable def M_make_167 (nf : Nat) (x1 : Int32) (x6 : Int32) (x7 : Int32) (x8 : Int32) (fi : FI) (ar : AR) : Option (Int32 × FI × AR) :=
  M_make_173 nf nf (x1) (x6) (x7) (x8) (0 : Int32) (0 : Int32) fi ar
noncomputable def M_make_141b (K141 : Int32 → Int32 → Int32 → Int32 → FI → AR → Option (Int32 × FI × AR)) (nf : Nat) (x1 : Int32) (x6 : Int32) (x7 : Int32) (x8 : Int32) (fi : FI) (ar : AR) : Option (Int32 × FI × AR) :=
  br ((x7) ≤ (x8)) (M_make_167 nf  (x1) (x6) (x7) (x8) fi ar) (obnd3 (M_slotAt nf fi ar (x8)) fun r155 fi153 ar154 => obnd3 (M_one nf fi153 ar154 (r155)) fun r159 fi157 ar158 => br ((r159) = 0) (M_make_167 nf  (x1) (x6) (x7) (x8) fi157 ar158) (bnd ((x8) + (1 : Int32)) fun x8_161 => K141 (x1) (x6) (x7) (x8_161) fi157 ar158))
noncomputable def M_make_141 (nf : Nat) (kf : Nat) : Int32 → Int32 → Int32 → Int32 → FI → AR → Option (Int32 × FI × AR) := Nat.rec (fun _ _ _ _ _ _ => none) (fun _ K141 => M_make_141b K141 nf) kf
noncomputable def M_make_116 (nf : Nat) (x1 : Int32) (x4 : Int32) (t0 : Int32) (fi : FI) (ar : AR) : Option (Int32 × FI × AR) :=
  obnd3 (M_loadFolder nf fi ar (x4)) fun r165 fi163 ar164 => bnd (((fi163 32) * (16 : Int32)) * (fi163 7)) fun x7_166 => M_make_141 nf nf (x1) (t0) (x7_166) (0 : Int32) fi163 ar164
noncomputable def M_make_96 (nf : Nat) (x1 : Int32) (x4 : Int32) (x5 : Int32) (fi : FI) (ar : AR) : Option (Int32 × FI × AR) :=
  br ((x5) = 0) (obnd (M_whole nf (fi 35) (13 : Int32)) fun r169 => M_make_116 nf  (x1) (x4) ((1 : Int32) + (r169)) fi ar) (M_make_116 nf  (x1) (x4) (1 : Int32) fi ar)
noncomputable def M_make_76 (nf : Nat) (x1 : Int32) (x4 : Int32) (x5 : Int32) (t1 : Int32) (fi : FI) (ar : AR) : Option (Int32 × FI × AR) :=
  obnd3 (M_fails nf fi ar (t1) (2 : Int32)) fun r173 fi171 ar172 => br ((r173) = 0) (br ((x5) = 0) (obnd3 (M_shorten nf fi171 ar172 (x4)) fun r179 fi177 ar178 => M_make_96 nf  (x1) (x4) (x5) fi177 ar178) (M_make_96 nf  (x1) (x4) (x5) fi171 ar172)) (some ((0 : Int32), fi171, ar172))
noncomputable def M_make_75 (nf : Nat) (x1 : Int32) (x4 : Int32) (x5 : Int32) (fi : FI) (ar : AR) : Option (Int32 × FI × AR) :=
  M_make_76 nf  (x1) (x4) (x5) (0 : Int32) fi ar
noncomputable def M_make_42 (nf : Nat)  (fi : FI) (ar : AR) : Option (Int32 × FI × AR) :=
  some ((0 : Int32), fi, ar)
noncomputable def M_make_35 (nf : Nat) (x1 : Int32) (t1 : Int32) (fi : FI) (ar : AR) : Option (Int32 × FI × AR) :=
  obnd3 (M_fails nf fi ar (t1) (2 : Int32)) fun r183 fi181 ar182 => br ((r183) = 0) (obnd3 (M_folderHere nf fi181 ar182) fun r188 fi186 ar187 => obnd3 (M_isBrief nf fi186 ar187) fun r192 fi190 ar191 => br ((r192) = 0) (M_make_75 nf  (x1) (r188) (r192) fi190 ar191) (obnd3 (M_isBriefTaken nf fi190 ar191 (r188)) fun r197 fi195 ar196 => br ((r197) = 0) (M_make_75 nf  (x1) (r188) (r192) fi195 ar196) (M_make_76 nf  (x1) (r188) (r192) (1 : Int32) fi195 ar196))) (M_make_42 nf  fi181 ar182)
noncomputable def M_make_30 (nf : Nat) (x1 : Int32) (fi : FI) (ar : AR) : Option (Int32 × FI × AR) :=
  M_make_35 nf  (x1) (1 : Int32) fi ar
noncomputable def M_make (nf : Nat) (fi : FI) (ar : AR) (x1 : Int32) : Option (Int32 × FI × AR) :=
  obnd3 (M_none nf fi ar) fun r202 fi200 ar201 => obnd3 (M_named nf fi200 ar201) fun r206 fi204 ar205 => br ((r202) = 0) (br ((r206) = 0) (M_make_30 nf  (x1) fi204 ar205) (obnd3 (M_folderHere nf fi204 ar205) fun r212 fi210 ar211 => obnd3 (M_isTaken nf fi210 ar211 (r212)) fun r216 fi214 ar215 => br ((r216) = 0) (M_make_35 nf  (x1) (0 : Int32) fi214 ar215) (M_make_30 nf  (x1) fi214 ar215))) (M_make_42 nf  fi204 ar205)
set_option maxHeartbeats 4000000 in
set_option maxRecDepth 100000 in
theorem k_make (l : Launch) (g : GT) (am : Nat → Nat) (sz : Nat) (nf : Nat) (fi : FI) (ar : AR) (p1 : Int32) (r : Int32) (fi' : FI) (ar' : AR) (hF : M_make nf fi ar p1 = some (r, fi', ar')) : Met l yX11_make (wx yX11_make cX11_make 18 (some .int)) ({ frames := 10, cells := 0, slots := 0, locals := 229 } : Room) (va_Pc [.ref (am 0), .int p1] (PM g am sz fi ar)) (QMi g am sz r fi' ar') 0 0 (AM am sz) := by
  refine Met.ofW (cc := cX11_make) (maxL := 18) (ret := (some .int)) (by decide) rfl ?_
  intro p e s m args below meth c s₁ B hml hv
  obtain ⟨rfl, hsz, hP, hK, hD0, hE⟩ := hv
  have hx := B.exec
  have hb := B.bytes
  have hr := B.returns
  have hts := atoms_spec (ws := (wx yX11_make cX11_make 18 (some .int))) B.pre
  have hT : ∀ w ∈ TB, w.before _ s = true := fun w h => hts w (List.mem_cons_of_mem _ h)
  have hown : s.vm.findClass RX11 = some m.cls := findClass_of_methodNamed B.named
  have hlocks := B.notSynchronized
  subst hsz
  have hD := dM hD0 s.heap.size
  have hA : ∀ q : Nat, s.heap.size ≤ q → AM am s.heap.size q := fun q h => Or.inr h
  have hS : va_S (AM am s.heap.size) s.heap s.heap [] := va_S.rf
  have hl := lv_entry ([.ref (am 0), .int p1]) (n := 18) (Nat.le_of_ble_eq_true rfl)
  rw [lg_entry_eq]
  generalize (lg_sl ([.ref (am 0), .int p1]) ++ List.replicate (18 - (lg_sl ([.ref (am 0), .int p1])).length) Slot.unset).toArray = ls at hl ⊢
  have hl : lv_has ls 18 [(0, .ref (am 0)), (1, .int p1)] := hl
  unfold M_make at hF
  have L772 : ∀ kf : Nat, ∀ (x4 : Int32) (x6 : Int32) (x9 : Int32) (x14 : Int32) (fi : FI) (ar : AR) (H : Heap) (locs : List Loc) (ls : Array Slot), M_make_772 nf kf x4 x6 x9 x14 fi ar = some (r, fi', ar') → lv_has ls 18 [(0, .ref (am 0)), (4, .int x4), (6, .int x6), (9, .int x9), (14, .int x14)] → va_P (gD g) vwCl (WM g am fi ar) H → va_S (AM am s.heap.size) s.heap H locs → W p l e (headSpec (wx yX11_make cX11_make 18 (some .int)) ({ frames := 10, cells := 0, slots := 0, locals := 229 } : Room)).room s m ([.ref (am 0), .int p1] : List Value).toArray below meth c H locs 0 0 (MQ below (QMi g am s.heap.size r fi' ar') ([.ref (am 0), .int p1] : List Value).toArray s 0 0 (AM am s.heap.size)) (F0 m 772 ls []) := by
    intro kf
    induction kf with
    | zero => intro x4 x6 x9 x14 fi ar H locs ls hF hl hP hS; cases (show (none : Option (Int32 × FI × AR)) = _ from hF)
    | succ kf ih772 =>
      intro x4 x6 x9 x14 fi ar H locs ls hF hl hP hS
      obtain ⟨K772, hK772⟩ : ∃ K : Int32 → Int32 → Int32 → Int32 → FI → AR → Option (Int32 × FI × AR), K = M_make_772 nf kf := ⟨_, rfl⟩
      replace hF : M_make_772b K772 nf x4 x6 x9 x14 fi ar = some (r, fi', ar') := by rw [hK772]; exact hF
      rw [← hK772] at ih772
      clear hK772
      unfold M_make_772b at hF
      refine lv_aload_n hx hb dX11_make_772 rfl (lv_at hl 0 rfl) ?_
      refine mg_21 hx hb hT hown hK hP mw6_6 dX11_make_773 ?_
      refine lv_aload_n hx hb dX11_make_776 rfl (lv_at hl 0 rfl) ?_
      refine mg_25 hx hb hT hown hK hP mw6_10 dX11_make_777 ?_
      refine lv_iload hx hb dX11_make_780 (lv_at hl 1 rfl) ?_
      replace hF := gd_of hF
      obtain ⟨hi1, hF⟩ := hF
      refine ml_25 hx hb hK hP hi1 dX11_make_782 ?_
      refine lv_iload hx hb dX11_make_783 (lv_at hl 4 rfl) ?_
      refine lv_iadd hx hb dX11_make_785 ?_
      replace hF := gd_of hF
      obtain ⟨hi2, hF⟩ := hF
      refine ml_21 hx hb hK hP hi2 dX11_make_786 ?_
      refine lv_iload hx hb dX11_make_787 (lv_at hl 3 rfl) ?_
      refine lv_iload hx hb dX11_make_789 (lv_at hl 2 rfl) ?_
      refine lv_iadd hx hb dX11_make_791 ?_
      refine lv_iconst (v := (1 : Int32)) hx hb dX11_make_792 (by decide) ?_
      refine lv_isub hx hb dX11_make_793 ?_
      refine lv_icmp_eq (tgt := 803) hx hb dX11_make_794 (by decide) (fun hc3 => ?_) (fun hc3 => ?_)
      · replace hF := br_yes hF hc3
        refine lv_iload hx hb dX11_make_803 (lv_at hl 4 rfl) ?_
        exact rM_i hx hb hr hlocks hF hP hS dX11_make_805
      · replace hF := br_no hF hc3
        obtain ⟨x14_4, ex14_4⟩ : ∃ y : Int32, y = (x14) + (1 : Int32) := ⟨_, rfl⟩
        replace hF := bnd_of hF ex14_4
        refine lv_iinc (v := x14_4) (lv' := [(14, .int (x14_4)), (0, .ref (am 0)), (4, .int (x4)), (6, .int (x6)), (9, .int (x9))]) hx hb dX11_make_797 hl (k := 4) rfl (by rw [ex14_4]; rfl) (by decide) rfl (fun ls hl => ?_)
        refine lv_goto (tgt := 772) hx hb dX11_make_800 (by decide) ?_
        exact ih772 (x4) (x6) (x9) (x14_4) _ _ _ _ _ hF (lv_sub hl [1, 2, 3, 4, 0] rfl) hP hS
  have J755 : ∀ (x6 : Int32) (x9 : Int32) (fi : FI) (ar : AR) (H : Heap) (locs : List Loc) (ls : Array Slot), M_make_755 nf x6 x9 fi ar = some (r, fi', ar') → lv_has ls 18 [(0, .ref (am 0)), (6, .int x6), (9, .int x9)] → va_P (gD g) vwCl (WM g am fi ar) H → va_S (AM am s.heap.size) s.heap H locs → W p l e (headSpec (wx yX11_make cX11_make 18 (some .int)) ({ frames := 10, cells := 0, slots := 0, locals := 229 } : Room)).room s m ([.ref (am 0), .int p1] : List Value).toArray below meth c H locs 0 0 (MQ below (QMi g am s.heap.size r fi' ar') ([.ref (am 0), .int p1] : List Value).toArray s 0 0 (AM am s.heap.size)) (F0 m 755 ls []) := by
    intro x6 x9 fi ar H locs ls hF hl hP hS
    unfold M_make_755 at hF
    refine lv_aload_n hx hb dX11_make_755 rfl (lv_at hl 0 rfl) ?_
    replace hF := obnd3_of hF
    obtain ⟨r8, fi6, ar7, h5, hF⟩ := hF
    refine cM_v (As := []) (rest := []) hx hb hml hT hown hK hE hD hA hP hS (k_changed l g am _ nf fi ar r8 fi6 ar7 h5) cw_X11_changed mw20_14 ⟨⟨rfl, rfl⟩, Nat.le_of_ble_eq_true rfl, Nat.le_of_ble_eq_true rfl⟩ rfl hl.1 rfl (Nat.le_of_ble_eq_true rfl) dX11_make_756 ⟨Nat.zero_le _, Nat.zero_le _⟩ (fun H locs hP hS => ?_)
    refine lv_aload_n hx hb dX11_make_759 rfl (lv_at hl 0 rfl) ?_
    replace hF := obnd3_of hF
    obtain ⟨r12, fi10, ar11, h9, hF⟩ := hF
    refine cM_v (As := []) (rest := []) hx hb hml hT hown hK hE hD hA hP hS (k_look l g am _ nf fi6 ar7 r12 fi10 ar11 h9) cw_X11_look mw31_6 ⟨⟨rfl, rfl⟩, Nat.le_of_ble_eq_true rfl, Nat.le_of_ble_eq_true rfl⟩ rfl hl.1 rfl (Nat.le_of_ble_eq_true rfl) dX11_make_760 ⟨Nat.zero_le _, Nat.zero_le _⟩ (fun H locs hP hS => ?_)
    refine lv_aload_n hx hb dX11_make_763 rfl (lv_at hl 0 rfl) ?_
    replace hF := obnd3_of hF
    obtain ⟨r16, fi14, ar15, h13, hF⟩ := hF
    refine cM_i (As := []) (rest := []) hx hb hml hT hown hK hE hD hA hP hS (k_folderHere l g am _ nf fi10 ar11 r16 fi14 ar15 h13) cw_X11_folderHere mw38_18 ⟨⟨rfl, rfl⟩, Nat.le_of_ble_eq_true rfl, Nat.le_of_ble_eq_true rfl⟩ rfl hl.1 rfl (Nat.le_of_ble_eq_true rfl) dX11_make_764 ⟨Nat.zero_le _, Nat.zero_le _⟩ (fun H locs hP hS => ?_)
    refine lv_istore (lv' := [(4, .int (r16)), (0, .ref (am 0)), (6, .int (x6)), (9, .int (x9))]) hx hb dX11_make_767 hl (by decide) rfl (fun ls hl => ?_)
    refine lv_iconst (v := (0 : Int32)) hx hb dX11_make_769 (by decide) ?_
    refine lv_istore (lv' := [(14, .int (0 : Int32)), (4, .int (r16)), (0, .ref (am 0)), (6, .int (x6)), (9, .int (x9))]) hx hb dX11_make_770 hl (by decide) rfl (fun ls hl => ?_)
    exact L772 nf (r16) (x6) (x9) (0 : Int32) _ _ _ _ _ hF (lv_sub hl [2, 1, 3, 4, 0] rfl) hP hS
  have L629 : ∀ kf : Nat, ∀ (x1 : Int32) (x6 : Int32) (x9 : Int32) (x11 : Int32) (x14 : Int32) (fi : FI) (ar : AR) (H : Heap) (locs : List Loc) (ls : Array Slot), M_make_629 nf kf x1 x6 x9 x11 x14 fi ar = some (r, fi', ar') → lv_has ls 18 [(0, .ref (am 0)), (1, .int x1), (6, .int x6), (9, .int x9), (11, .int x11), (14, .int x14)] → va_P (gD g) vwCl (WM g am fi ar) H → va_S (AM am s.heap.size) s.heap H locs → W p l e (headSpec (wx yX11_make cX11_make 18 (some .int)) ({ frames := 10, cells := 0, slots := 0, locals := 229 } : Room)).room s m ([.ref (am 0), .int p1] : List Value).toArray below meth c H locs 0 0 (MQ below (QMi g am s.heap.size r fi' ar') ([.ref (am 0), .int p1] : List Value).toArray s 0 0 (AM am s.heap.size)) (F0 m 629 ls []) := by
    intro kf
    induction kf with
    | zero => intro x1 x6 x9 x11 x14 fi ar H locs ls hF hl hP hS; cases (show (none : Option (Int32 × FI × AR)) = _ from hF)
    | succ kf ih629 =>
      intro x1 x6 x9 x11 x14 fi ar H locs ls hF hl hP hS
      obtain ⟨K629, hK629⟩ : ∃ K : Int32 → Int32 → Int32 → Int32 → Int32 → FI → AR → Option (Int32 × FI × AR), K = M_make_629 nf kf := ⟨_, rfl⟩
      replace hF : M_make_629b K629 nf x1 x6 x9 x11 x14 fi ar = some (r, fi', ar') := by rw [hK629]; exact hF
      rw [← hK629] at ih629
      clear hK629
      have L672 : ∀ kf : Nat, ∀ (x1 : Int32) (x6 : Int32) (x9 : Int32) (x11 : Int32) (x14 : Int32) (x15 : Int32) (x16 : Int32) (x17 : Int32) (fi : FI) (ar : AR) (H : Heap) (locs : List Loc) (ls : Array Slot), M_make_672 K629 nf kf x1 x6 x9 x11 x14 x15 x16 x17 fi ar = some (r, fi', ar') → lv_has ls 18 [(0, .ref (am 0)), (1, .int x1), (6, .int x6), (9, .int x9), (11, .int x11), (14, .int x14), (15, .int x15), (16, .int x16), (17, .int x17)] → va_P (gD g) vwCl (WM g am fi ar) H → va_S (AM am s.heap.size) s.heap H locs → W p l e (headSpec (wx yX11_make cX11_make 18 (some .int)) ({ frames := 10, cells := 0, slots := 0, locals := 229 } : Room)).room s m ([.ref (am 0), .int p1] : List Value).toArray below meth c H locs 0 0 (MQ below (QMi g am s.heap.size r fi' ar') ([.ref (am 0), .int p1] : List Value).toArray s 0 0 (AM am s.heap.size)) (F0 m 672 ls []) := by
        intro kf
        induction kf with
        | zero => intro x1 x6 x9 x11 x14 x15 x16 x17 fi ar H locs ls hF hl hP hS; cases (show (none : Option (Int32 × FI × AR)) = _ from hF)
        | succ kf ih672 =>
          intro x1 x6 x9 x11 x14 x15 x16 x17 fi ar H locs ls hF hl hP hS
          obtain ⟨K672, hK672⟩ : ∃ K : Int32 → Int32 → Int32 → Int32 → Int32 → Int32 → Int32 → Int32 → FI → AR → Option (Int32 × FI × AR), K = M_make_672 K629 nf kf := ⟨_, rfl⟩
          replace hF : M_make_672b K672 K629 nf x1 x6 x9 x11 x14 x15 x16 x17 fi ar = some (r, fi', ar') := by rw [hK672]; exact hF
          rw [← hK672] at ih672
          clear hK672
          have J702 : ∀ (x1 : Int32) (x6 : Int32) (x9 : Int32) (x11 : Int32) (x14 : Int32) (x15 : Int32) (x16 : Int32) (x17 : Int32) (t1 : Int32) (t2 : Int32) (fi : FI) (ar : AR) (H : Heap) (locs : List Loc) (ls : Array Slot), M_make_702 K629 K672 nf x1 x6 x9 x11 x14 x15 x16 x17 t1 t2 fi ar = some (r, fi', ar') → lv_has ls 18 [(0, .ref (am 0)), (1, .int x1), (6, .int x6), (9, .int x9), (11, .int x11), (14, .int x14), (15, .int x15), (16, .int x16), (17, .int x17)] → va_P (gD g) vwCl (WM g am fi ar) H → va_S (AM am s.heap.size) s.heap H locs → W p l e (headSpec (wx yX11_make cX11_make 18 (some .int)) ({ frames := 10, cells := 0, slots := 0, locals := 229 } : Room)).room s m ([.ref (am 0), .int p1] : List Value).toArray below meth c H locs 0 0 (MQ below (QMi g am s.heap.size r fi' ar') ([.ref (am 0), .int p1] : List Value).toArray s 0 0 (AM am s.heap.size)) (F0 m 702 ls [.int t2, .int t1, .ref (am 1)]) := by
            intro x1 x6 x9 x11 x14 x15 x16 x17 t1 t2 fi ar H locs ls hF hl hP hS
            unfold M_make_702 at hF
            refine lv_i2b hx hb dX11_make_702 rfl ?_
            replace hF := gd_of hF
            obtain ⟨hi17, hF⟩ := hF
            obtain ⟨ar18, ear18⟩ : ∃ y : AR, y = va_up ar 1 (upd (ar 1) (t1).toNatClampNeg (vp_nar .byte ((t2).toInt8.toInt32))) := ⟨_, rfl⟩
            replace hF := bnd_of hF ear18
            refine ms_1 hx hb hK hP hD hS hi17 dX11_make_703 (fun H locs hP hS => ?_)
            rw [← ear18] at hP
            obtain ⟨x17_19, ex17_19⟩ : ∃ y : Int32, y = (x17) + (1 : Int32) := ⟨_, rfl⟩
            replace hF := bnd_of hF ex17_19
            refine lv_iinc (v := x17_19) (lv' := [(17, .int (x17_19)), (0, .ref (am 0)), (1, .int (x1)), (6, .int (x6)), (9, .int (x9)), (11, .int (x11)), (14, .int (x14)), (15, .int (x15)), (16, .int (x16))]) hx hb dX11_make_704 hl (k := 8) rfl (by rw [ex17_19]; rfl) (by decide) rfl (fun ls hl => ?_)
            refine lv_goto (tgt := 672) hx hb dX11_make_707 (by decide) ?_
            exact ih672 (x1) (x6) (x9) (x11) (x14) (x15) (x16) (x17_19) _ _ _ _ _ hF (lv_sub hl [1, 2, 3, 4, 5, 6, 7, 8, 0] rfl) hP hS
          unfold M_make_672b at hF
          refine lv_iload hx hb dX11_make_672 (lv_at hl 8 rfl) ?_
          refine lv_bipush (v := (11 : Int32)) hx hb dX11_make_674 (by decide) ?_
          refine lv_icmp_ge (tgt := 710) hx hb dX11_make_676 (by decide) (fun hc20 => ?_) (fun hc20 => ?_)
          · replace hF := br_yes hF hc20
            refine lv_aload_n hx hb dX11_make_710 rfl (lv_at hl 0 rfl) ?_
            refine lv_iload hx hb dX11_make_711 (lv_at hl 6 rfl) ?_
            refine lv_bipush (v := (11 : Int32)) hx hb dX11_make_713 (by decide) ?_
            refine lv_iadd hx hb dX11_make_715 ?_
            refine lv_iconst (v := (1 : Int32)) hx hb dX11_make_716 (by decide) ?_
            refine lv_ldc2 (v := (16 : Int64)) hx hb hown (hT _ mw49_4) dX11_make_717 ?_
            replace hF := obnd3_of hF
            obtain ⟨r24, fi22, ar23, h21, hF⟩ := hF
            refine cM_v (As := [.int ((x15) + (11 : Int32)), .int (1 : Int32), .long (16 : Int64)]) (rest := []) hx hb hml hT hown hK hE hD hA hP hS (k_set l g am _ nf fi ar ((x15) + (11 : Int32)) (1 : Int32) (16 : Int64) r24 fi22 ar23 h21) cw_X11_set mw18_18 ⟨⟨rfl, rfl⟩, Nat.le_of_ble_eq_true rfl, Nat.le_of_ble_eq_true rfl⟩ rfl hl.1 rfl (Nat.le_of_ble_eq_true rfl) dX11_make_720 ⟨Nat.zero_le _, Nat.zero_le _⟩ (fun H locs hP hS => ?_)
            refine lv_aload_n hx hb dX11_make_723 rfl (lv_at hl 0 rfl) ?_
            refine lv_iload hx hb dX11_make_724 (lv_at hl 6 rfl) ?_
            refine lv_bipush (v := (24 : Int32)) hx hb dX11_make_726 (by decide) ?_
            refine lv_iadd hx hb dX11_make_728 ?_
            refine lv_iconst (v := (2 : Int32)) hx hb dX11_make_729 (by decide) ?_
            refine lv_ldc2 (v := (33 : Int64)) hx hb hown (hT _ mw18_3) dX11_make_730 ?_
            replace hF := obnd3_of hF
            obtain ⟨r28, fi26, ar27, h25, hF⟩ := hF
            refine cM_v (As := [.int ((x15) + (24 : Int32)), .int (2 : Int32), .long (33 : Int64)]) (rest := []) hx hb hml hT hown hK hE hD hA hP hS (k_set l g am _ nf fi22 ar23 ((x15) + (24 : Int32)) (2 : Int32) (33 : Int64) r28 fi26 ar27 h25) cw_X11_set mw18_18 ⟨⟨rfl, rfl⟩, Nat.le_of_ble_eq_true rfl, Nat.le_of_ble_eq_true rfl⟩ rfl hl.1 rfl (Nat.le_of_ble_eq_true rfl) dX11_make_733 ⟨Nat.zero_le _, Nat.zero_le _⟩ (fun H locs hP hS => ?_)
            refine lv_aload_n hx hb dX11_make_736 rfl (lv_at hl 0 rfl) ?_
            refine lv_iload hx hb dX11_make_737 (lv_at hl 6 rfl) ?_
            refine lv_bipush (v := (26 : Int32)) hx hb dX11_make_739 (by decide) ?_
            refine lv_iadd hx hb dX11_make_741 ?_
            refine lv_iconst (v := (2 : Int32)) hx hb dX11_make_742 (by decide) ?_
            refine lv_iload hx hb dX11_make_743 (lv_at hl 7 rfl) ?_
            refine lv_i2l hx hb dX11_make_745 rfl ?_
            replace hF := obnd3_of hF
            obtain ⟨r32, fi30, ar31, h29, hF⟩ := hF
            refine cM_v (As := [.int ((x15) + (26 : Int32)), .int (2 : Int32), .long ((x16).toInt64)]) (rest := []) hx hb hml hT hown hK hE hD hA hP hS (k_set l g am _ nf fi26 ar27 ((x15) + (26 : Int32)) (2 : Int32) ((x16).toInt64) r32 fi30 ar31 h29) cw_X11_set mw18_18 ⟨⟨rfl, rfl⟩, Nat.le_of_ble_eq_true rfl, Nat.le_of_ble_eq_true rfl⟩ rfl hl.1 rfl (Nat.le_of_ble_eq_true rfl) dX11_make_746 ⟨Nat.zero_le _, Nat.zero_le _⟩ (fun H locs hP hS => ?_)
            obtain ⟨x14_33, ex14_33⟩ : ∃ y : Int32, y = (x14) + (1 : Int32) := ⟨_, rfl⟩
            replace hF := bnd_of hF ex14_33
            refine lv_iinc (v := x14_33) (lv' := [(14, .int (x14_33)), (0, .ref (am 0)), (1, .int (x1)), (6, .int (x6)), (9, .int (x9)), (11, .int (x11)), (15, .int (x15)), (16, .int (x16)), (17, .int (x17))]) hx hb dX11_make_749 hl (k := 5) rfl (by rw [ex14_33]; rfl) (by decide) rfl (fun ls hl => ?_)
            refine lv_goto (tgt := 629) hx hb dX11_make_752 (by decide) ?_
            exact ih629 (x1) (x6) (x9) (x11) (x14_33) _ _ _ _ _ hF (lv_sub hl [1, 2, 3, 4, 5, 0] rfl) hP hS
          · replace hF := br_no hF hc20
            refine lv_aload_n hx hb dX11_make_679 rfl (lv_at hl 0 rfl) ?_
            refine mg_1 hx hb hT hown hK hP mw6_1 dX11_make_680 ?_
            refine lv_iload hx hb dX11_make_683 (lv_at hl 6 rfl) ?_
            refine lv_iload hx hb dX11_make_685 (lv_at hl 8 rfl) ?_
            refine lv_iadd hx hb dX11_make_687 ?_
            refine lv_iload hx hb dX11_make_688 (lv_at hl 8 rfl) ?_
            refine lv_iload hx hb dX11_make_690 (lv_at hl 5 rfl) ?_
            refine lv_icmp_gt (tgt := 700) hx hb dX11_make_692 (by decide) (fun hc34 => ?_) (fun hc34 => ?_)
            · replace hF := br_yes hF hc34
              refine lv_bipush (v := (32 : Int32)) hx hb dX11_make_700 (by decide) ?_
              exact J702 (x1) (x6) (x9) (x11) (x14) (x15) (x16) (x17) ((x15) + (x17)) (32 : Int32) _ _ _ _ _ hF (lv_sub hl [0, 1, 2, 3, 4, 5, 6, 7, 8] rfl) hP hS
            · replace hF := br_no hF hc34
              refine lv_bipush (v := (46 : Int32)) hx hb dX11_make_695 (by decide) ?_
              refine lv_goto (tgt := 702) hx hb dX11_make_697 (by decide) ?_
              exact J702 (x1) (x6) (x9) (x11) (x14) (x15) (x16) (x17) ((x15) + (x17)) (46 : Int32) _ _ _ _ _ hF (lv_sub hl [0, 1, 2, 3, 4, 5, 6, 7, 8] rfl) hP hS
      have J667 : ∀ (x1 : Int32) (x6 : Int32) (x9 : Int32) (x11 : Int32) (x14 : Int32) (x15 : Int32) (t0 : Int32) (fi : FI) (ar : AR) (H : Heap) (locs : List Loc) (ls : Array Slot), M_make_667 K629 nf x1 x6 x9 x11 x14 x15 t0 fi ar = some (r, fi', ar') → lv_has ls 18 [(0, .ref (am 0)), (1, .int x1), (6, .int x6), (9, .int x9), (11, .int x11), (14, .int x14), (15, .int x15)] → va_P (gD g) vwCl (WM g am fi ar) H → va_S (AM am s.heap.size) s.heap H locs → W p l e (headSpec (wx yX11_make cX11_make 18 (some .int)) ({ frames := 10, cells := 0, slots := 0, locals := 229 } : Room)).room s m ([.ref (am 0), .int p1] : List Value).toArray below meth c H locs 0 0 (MQ below (QMi g am s.heap.size r fi' ar') ([.ref (am 0), .int p1] : List Value).toArray s 0 0 (AM am s.heap.size)) (F0 m 667 ls [.int t0]) := by
        intro x1 x6 x9 x11 x14 x15 t0 fi ar H locs ls hF hl hP hS
        unfold M_make_667 at hF
        refine lv_istore (lv' := [(16, .int (t0)), (0, .ref (am 0)), (1, .int (x1)), (6, .int (x6)), (9, .int (x9)), (11, .int (x11)), (14, .int (x14)), (15, .int (x15))]) hx hb dX11_make_667 hl (by decide) rfl (fun ls hl => ?_)
        refine lv_iconst (v := (0 : Int32)) hx hb dX11_make_669 (by decide) ?_
        refine lv_istore (lv' := [(17, .int (0 : Int32)), (16, .int (t0)), (0, .ref (am 0)), (1, .int (x1)), (6, .int (x6)), (9, .int (x9)), (11, .int (x11)), (14, .int (x14)), (15, .int (x15))]) hx hb dX11_make_670 hl (by decide) rfl (fun ls hl => ?_)
        exact L672 nf (x1) (x6) (x9) (x11) (x14) (x15) (t0) (0 : Int32) _ _ _ _ _ hF (lv_sub hl [2, 3, 4, 5, 6, 7, 8, 1, 0] rfl) hP hS
      unfold M_make_629b at hF
      refine lv_iload hx hb dX11_make_629 (lv_at hl 5 rfl) ?_
      refine lv_iconst (v := (2 : Int32)) hx hb dX11_make_631 (by decide) ?_
      refine lv_icmp_ge (tgt := 755) hx hb dX11_make_632 (by decide) (fun hc35 => ?_) (fun hc35 => ?_)
      · replace hF := br_yes hF hc35
        exact J755 (x6) (x9) _ _ _ _ _ hF (lv_sub hl [0, 2, 3] rfl) hP hS
      · replace hF := br_no hF hc35
        refine lv_iload_n hx hb dX11_make_635 rfl (lv_at hl 1 rfl) ?_
        refine lv_if_eq (tgt := 755) hx hb dX11_make_636 (by decide) (fun hc36 => ?_) (fun hc36 => ?_)
        · replace hF := br_yes hF hc36
          exact J755 (x6) (x9) _ _ _ _ _ hF (lv_sub hl [0, 2, 3] rfl) hP hS
        · replace hF := br_no hF hc36
          refine lv_aload_n hx hb dX11_make_639 rfl (lv_at hl 0 rfl) ?_
          refine lv_iload hx hb dX11_make_640 (lv_at hl 4 rfl) ?_
          replace hF := obnd3_of hF
          obtain ⟨r40, fi38, ar39, h37, hF⟩ := hF
          refine cM_i (As := [.int (x11)]) (rest := []) hx hb hml hT hown hK hE hD hA hP hS (k_place l g am _ nf fi ar (x11) r40 fi38 ar39 h37) cw_X11_place mw20_10 ⟨⟨rfl, rfl⟩, Nat.le_of_ble_eq_true rfl, Nat.le_of_ble_eq_true rfl⟩ rfl hl.1 rfl (Nat.le_of_ble_eq_true rfl) dX11_make_642 ⟨Nat.zero_le _, Nat.zero_le _⟩ (fun H locs hP hS => ?_)
          refine lv_bipush (v := (32 : Int32)) hx hb dX11_make_645 (by decide) ?_
          refine lv_iload hx hb dX11_make_647 (lv_at hl 5 rfl) ?_
          refine lv_imul hx hb dX11_make_649 ?_
          refine lv_iadd hx hb dX11_make_650 ?_
          obtain ⟨x15_41, ex15_41⟩ : ∃ y : Int32, y = ((r40) + ((32 : Int32) * (x14))) := ⟨_, rfl⟩
          rw [← ex15_41]
          replace hF := bnd_of hF ex15_41
          refine lv_istore (lv' := [(15, .int (x15_41)), (0, .ref (am 0)), (1, .int (x1)), (6, .int (x6)), (9, .int (x9)), (11, .int (x11)), (14, .int (x14))]) hx hb dX11_make_651 hl (by decide) rfl (fun ls hl => ?_)
          refine lv_iload hx hb dX11_make_653 (lv_at hl 6 rfl) ?_
          refine lv_if_ne (tgt := 663) hx hb dX11_make_655 (by decide) (fun hc42 => ?_) (fun hc42 => ?_)
          · replace hF := br_no hF hc42
            refine lv_aload_n hx hb dX11_make_663 rfl (lv_at hl 1 rfl) ?_
            refine mg_14 hx hb hT hown hK hP mw18_4 dX11_make_664 ?_
            exact J667 (x1) (x6) (x9) (x11) (x14) (x15_41) (fi38 14) _ _ _ _ _ hF (lv_sub hl [1, 2, 3, 4, 5, 6, 0] rfl) hP hS
          · replace hF := br_yes hF hc42
            refine lv_iload hx hb dX11_make_658 (lv_at hl 5 rfl) ?_
            refine lv_goto (tgt := 667) hx hb dX11_make_660 (by decide) ?_
            exact J667 (x1) (x6) (x9) (x11) (x14) (x15_41) (x11) _ _ _ _ _ hF (lv_sub hl [1, 2, 3, 4, 5, 6, 0] rfl) hP hS
  have J626 : ∀ (x1 : Int32) (x6 : Int32) (x9 : Int32) (x11 : Int32) (fi : FI) (ar : AR) (H : Heap) (locs : List Loc) (ls : Array Slot), M_make_626 nf x1 x6 x9 x11 fi ar = some (r, fi', ar') → lv_has ls 18 [(0, .ref (am 0)), (1, .int x1), (6, .int x6), (9, .int x9), (11, .int x11)] → va_P (gD g) vwCl (WM g am fi ar) H → va_S (AM am s.heap.size) s.heap H locs → W p l e (headSpec (wx yX11_make cX11_make 18 (some .int)) ({ frames := 10, cells := 0, slots := 0, locals := 229 } : Room)).room s m ([.ref (am 0), .int p1] : List Value).toArray below meth c H locs 0 0 (MQ below (QMi g am s.heap.size r fi' ar') ([.ref (am 0), .int p1] : List Value).toArray s 0 0 (AM am s.heap.size)) (F0 m 626 ls []) := by
    intro x1 x6 x9 x11 fi ar H locs ls hF hl hP hS
    unfold M_make_626 at hF
    refine lv_iconst (v := (0 : Int32)) hx hb dX11_make_626 (by decide) ?_
    refine lv_istore (lv' := [(14, .int (0 : Int32)), (0, .ref (am 0)), (1, .int (x1)), (6, .int (x6)), (9, .int (x9)), (11, .int (x11))]) hx hb dX11_make_627 hl (by decide) rfl (fun ls hl => ?_)
    exact L629 nf (x1) (x6) (x9) (x11) (0 : Int32) _ _ _ _ _ hF (lv_sub hl [1, 2, 3, 4, 5, 0] rfl) hP hS
  have J548 : ∀ (x1 : Int32) (x6 : Int32) (x7 : Int32) (x8 : Int32) (x9 : Int32) (x11 : Int32) (x12 : Int32) (t1 : Int32) (t2 : Int32) (t3 : Int64) (fi : FI) (ar : AR) (H : Heap) (locs : List Loc) (ls : Array Slot), M_make_548 nf x1 x6 x7 x8 x9 x11 x12 t1 t2 t3 fi ar = some (r, fi', ar') → lv_has ls 18 [(0, .ref (am 0)), (1, .int x1), (6, .int x6), (7, .int x7), (8, .int x8), (9, .int x9), (11, .int x11), (12, .int x12)] → va_P (gD g) vwCl (WM g am fi ar) H → va_S (AM am s.heap.size) s.heap H locs → W p l e (headSpec (wx yX11_make cX11_make 18 (some .int)) ({ frames := 10, cells := 0, slots := 0, locals := 229 } : Room)).room s m ([.ref (am 0), .int p1] : List Value).toArray below meth c H locs 0 0 (MQ below (QMi g am s.heap.size r fi' ar') ([.ref (am 0), .int p1] : List Value).toArray s 0 0 (AM am s.heap.size)) (F0 m 548 ls [.long t3, .int t2, .int t1, .ref (am 0)]) := by
    intro x1 x6 x7 x8 x9 x11 x12 t1 t2 t3 fi ar H locs ls hF hl hP hS
    unfold M_make_548 at hF
    replace hF := obnd3_of hF
    obtain ⟨r46, fi44, ar45, h43, hF⟩ := hF
    refine cM_v (As := [.int (t1), .int (t2), .long (t3)]) (rest := []) hx hb hml hT hown hK hE hD hA hP hS (k_set l g am _ nf fi ar (t1) (t2) (t3) r46 fi44 ar45 h43) cw_X11_set mw18_18 ⟨⟨rfl, rfl⟩, Nat.le_of_ble_eq_true rfl, Nat.le_of_ble_eq_true rfl⟩ rfl hl.1 rfl (Nat.le_of_ble_eq_true rfl) dX11_make_548 ⟨Nat.zero_le _, Nat.zero_le _⟩ (fun H locs hP hS => ?_)
    refine lv_aload_n hx hb dX11_make_551 rfl (lv_at hl 0 rfl) ?_
    refine lv_iload hx hb dX11_make_552 (lv_at hl 7 rfl) ?_
    refine lv_bipush (v := (24 : Int32)) hx hb dX11_make_554 (by decide) ?_
    refine lv_iadd hx hb dX11_make_556 ?_
    refine lv_iconst (v := (2 : Int32)) hx hb dX11_make_557 (by decide) ?_
    refine lv_ldc2 (v := (33 : Int64)) hx hb hown (hT _ mw18_3) dX11_make_558 ?_
    replace hF := obnd3_of hF
    obtain ⟨r50, fi48, ar49, h47, hF⟩ := hF
    refine cM_v (As := [.int ((x12) + (24 : Int32)), .int (2 : Int32), .long (33 : Int64)]) (rest := []) hx hb hml hT hown hK hE hD hA hP hS (k_set l g am _ nf fi44 ar45 ((x12) + (24 : Int32)) (2 : Int32) (33 : Int64) r50 fi48 ar49 h47) cw_X11_set mw18_18 ⟨⟨rfl, rfl⟩, Nat.le_of_ble_eq_true rfl, Nat.le_of_ble_eq_true rfl⟩ rfl hl.1 rfl (Nat.le_of_ble_eq_true rfl) dX11_make_561 ⟨Nat.zero_le _, Nat.zero_le _⟩ (fun H locs hP hS => ?_)
    refine lv_aload_n hx hb dX11_make_564 rfl (lv_at hl 0 rfl) ?_
    refine lv_iload hx hb dX11_make_565 (lv_at hl 7 rfl) ?_
    refine lv_bipush (v := (20 : Int32)) hx hb dX11_make_567 (by decide) ?_
    refine lv_iadd hx hb dX11_make_569 ?_
    refine lv_iconst (v := (2 : Int32)) hx hb dX11_make_570 (by decide) ?_
    refine lv_iload hx hb dX11_make_571 (lv_at hl 6 rfl) ?_
    refine lv_bipush (v := (16 : Int32)) hx hb dX11_make_573 (by decide) ?_
    refine lv_ishr hx hb dX11_make_575 ?_
    refine lv_i2l hx hb dX11_make_576 rfl ?_
    replace hF := obnd3_of hF
    obtain ⟨r54, fi52, ar53, h51, hF⟩ := hF
    refine cM_v (As := [.int ((x12) + (20 : Int32)), .int (2 : Int32), .long (((x11) >>> ((16 : Int32) &&& 31)).toInt64)]) (rest := []) hx hb hml hT hown hK hE hD hA hP hS (k_set l g am _ nf fi48 ar49 ((x12) + (20 : Int32)) (2 : Int32) (((x11) >>> ((16 : Int32) &&& 31)).toInt64) r54 fi52 ar53 h51) cw_X11_set mw18_18 ⟨⟨rfl, rfl⟩, Nat.le_of_ble_eq_true rfl, Nat.le_of_ble_eq_true rfl⟩ rfl hl.1 rfl (Nat.le_of_ble_eq_true rfl) dX11_make_577 ⟨Nat.zero_le _, Nat.zero_le _⟩ (fun H locs hP hS => ?_)
    refine lv_aload_n hx hb dX11_make_580 rfl (lv_at hl 0 rfl) ?_
    refine lv_iload hx hb dX11_make_581 (lv_at hl 7 rfl) ?_
    refine lv_bipush (v := (26 : Int32)) hx hb dX11_make_583 (by decide) ?_
    refine lv_iadd hx hb dX11_make_585 ?_
    refine lv_iconst (v := (2 : Int32)) hx hb dX11_make_586 (by decide) ?_
    refine lv_iload hx hb dX11_make_587 (lv_at hl 6 rfl) ?_
    refine lv_i2l hx hb dX11_make_589 rfl ?_
    replace hF := obnd3_of hF
    obtain ⟨r58, fi56, ar57, h55, hF⟩ := hF
    refine cM_v (As := [.int ((x12) + (26 : Int32)), .int (2 : Int32), .long ((x11).toInt64)]) (rest := []) hx hb hml hT hown hK hE hD hA hP hS (k_set l g am _ nf fi52 ar53 ((x12) + (26 : Int32)) (2 : Int32) ((x11).toInt64) r58 fi56 ar57 h55) cw_X11_set mw18_18 ⟨⟨rfl, rfl⟩, Nat.le_of_ble_eq_true rfl, Nat.le_of_ble_eq_true rfl⟩ rfl hl.1 rfl (Nat.le_of_ble_eq_true rfl) dX11_make_590 ⟨Nat.zero_le _, Nat.zero_le _⟩ (fun H locs hP hS => ?_)
    refine lv_iload hx hb dX11_make_593 (lv_at hl 5 rfl) ?_
    refine lv_iload hx hb dX11_make_595 (lv_at hl 2 rfl) ?_
    refine lv_iadd hx hb dX11_make_597 ?_
    obtain ⟨x13_59, ex13_59⟩ : ∃ y : Int32, y = ((x9) + (x6)) := ⟨_, rfl⟩
    rw [← ex13_59]
    replace hF := bnd_of hF ex13_59
    refine lv_istore (lv' := [(13, .int (x13_59)), (0, .ref (am 0)), (1, .int (x1)), (6, .int (x6)), (7, .int (x7)), (8, .int (x8)), (9, .int (x9)), (11, .int (x11)), (12, .int (x12))]) hx hb dX11_make_598 hl (by decide) rfl (fun ls hl => ?_)
    refine lv_iload hx hb dX11_make_600 (lv_at hl 0 rfl) ?_
    refine lv_iload hx hb dX11_make_602 (lv_at hl 5 rfl) ?_
    refine lv_icmp_lt (tgt := 626) hx hb dX11_make_604 (by decide) (fun hc60 => ?_) (fun hc60 => ?_)
    · replace hF := br_yes hF hc60
      exact J626 (x1) (x6) (x9) (x11) _ _ _ _ _ hF (lv_sub hl [1, 2, 3, 6, 7] rfl) hP hS
    · replace hF := br_no hF hc60
      refine lv_iload hx hb dX11_make_607 (lv_at hl 0 rfl) ?_
      refine lv_iload hx hb dX11_make_609 (lv_at hl 4 rfl) ?_
      refine lv_icmp_ge (tgt := 626) hx hb dX11_make_611 (by decide) (fun hc61 => ?_) (fun hc61 => ?_)
      · replace hF := br_yes hF hc61
        exact J626 (x1) (x6) (x9) (x11) _ _ _ _ _ hF (lv_sub hl [1, 2, 3, 6, 7] rfl) hP hS
      · replace hF := br_no hF hc61
        refine lv_aload_n hx hb dX11_make_614 rfl (lv_at hl 1 rfl) ?_
        refine mg_1 hx hb hT hown hK hP mw6_1 dX11_make_615 ?_
        refine lv_aload_n hx hb dX11_make_618 rfl (lv_at hl 1 rfl) ?_
        refine lv_iload hx hb dX11_make_619 (lv_at hl 0 rfl) ?_
        replace hF := obnd3_of hF
        obtain ⟨r65, fi63, ar64, h62, hF⟩ := hF
        refine cM_i (As := [.int (x13_59)]) (rest := [.ref (am 1)]) hx hb hml hT hown hK hE hD hA hP hS (k_slotAt l g am _ nf fi56 ar57 (x13_59) r65 fi63 ar64 h62) cw_X11_slotAt mw32_21 ⟨⟨rfl, rfl⟩, Nat.le_of_ble_eq_true rfl, Nat.le_of_ble_eq_true rfl⟩ rfl hl.1 rfl (Nat.le_of_ble_eq_true rfl) dX11_make_621 ⟨Nat.zero_le _, Nat.zero_le _⟩ (fun H locs hP hS => ?_)
        refine lv_iconst (v := (0 : Int32)) hx hb dX11_make_624 (by decide) ?_
        replace hF := gd_of hF
        obtain ⟨hi66, hF⟩ := hF
        obtain ⟨ar67, ear67⟩ : ∃ y : AR, y = va_up ar64 1 (upd (ar64 1) (r65).toNatClampNeg (vp_nar .byte (0 : Int32))) := ⟨_, rfl⟩
        replace hF := bnd_of hF ear67
        refine ms_1 hx hb hK hP hD hS hi66 dX11_make_625 (fun H locs hP hS => ?_)
        rw [← ear67] at hP
        exact J626 (x1) (x6) (x9) (x11) _ _ _ _ _ hF (lv_sub hl [1, 2, 3, 6, 7] rfl) hP hS
  have L472 : ∀ kf : Nat, ∀ (x1 : Int32) (x6 : Int32) (x7 : Int32) (x8 : Int32) (x9 : Int32) (x11 : Int32) (x12 : Int32) (x13 : Int32) (fi : FI) (ar : AR) (H : Heap) (locs : List Loc) (ls : Array Slot), M_make_472 nf kf x1 x6 x7 x8 x9 x11 x12 x13 fi ar = some (r, fi', ar') → lv_has ls 18 [(0, .ref (am 0)), (1, .int x1), (6, .int x6), (7, .int x7), (8, .int x8), (9, .int x9), (11, .int x11), (12, .int x12), (13, .int x13)] → va_P (gD g) vwCl (WM g am fi ar) H → va_S (AM am s.heap.size) s.heap H locs → W p l e (headSpec (wx yX11_make cX11_make 18 (some .int)) ({ frames := 10, cells := 0, slots := 0, locals := 229 } : Room)).room s m ([.ref (am 0), .int p1] : List Value).toArray below meth c H locs 0 0 (MQ below (QMi g am s.heap.size r fi' ar') ([.ref (am 0), .int p1] : List Value).toArray s 0 0 (AM am s.heap.size)) (F0 m 472 ls []) := by
    intro kf
    induction kf with
    | zero => intro x1 x6 x7 x8 x9 x11 x12 x13 fi ar H locs ls hF hl hP hS; cases (show (none : Option (Int32 × FI × AR)) = _ from hF)
    | succ kf ih472 =>
      intro x1 x6 x7 x8 x9 x11 x12 x13 fi ar H locs ls hF hl hP hS
      obtain ⟨K472, hK472⟩ : ∃ K : Int32 → Int32 → Int32 → Int32 → Int32 → Int32 → Int32 → Int32 → FI → AR → Option (Int32 × FI × AR), K = M_make_472 nf kf := ⟨_, rfl⟩
      replace hF : M_make_472b K472 nf x1 x6 x7 x8 x9 x11 x12 x13 fi ar = some (r, fi', ar') := by rw [hK472]; exact hF
      rw [← hK472] at ih472
      clear hK472
      have J513 : ∀ (x1 : Int32) (x6 : Int32) (x7 : Int32) (x8 : Int32) (x9 : Int32) (x11 : Int32) (x12 : Int32) (x13 : Int32) (t1 : Int32) (t2 : Int32) (t3 : Int32) (fi : FI) (ar : AR) (H : Heap) (locs : List Loc) (ls : Array Slot), M_make_513 K472 nf x1 x6 x7 x8 x9 x11 x12 x13 t1 t2 t3 fi ar = some (r, fi', ar') → lv_has ls 18 [(0, .ref (am 0)), (1, .int x1), (6, .int x6), (7, .int x7), (8, .int x8), (9, .int x9), (11, .int x11), (12, .int x12), (13, .int x13)] → va_P (gD g) vwCl (WM g am fi ar) H → va_S (AM am s.heap.size) s.heap H locs → W p l e (headSpec (wx yX11_make cX11_make 18 (some .int)) ({ frames := 10, cells := 0, slots := 0, locals := 229 } : Room)).room s m ([.ref (am 0), .int p1] : List Value).toArray below meth c H locs 0 0 (MQ below (QMi g am s.heap.size r fi' ar') ([.ref (am 0), .int p1] : List Value).toArray s 0 0 (AM am s.heap.size)) (F0 m 513 ls [.int t3, .int t2, .int t1, .ref (am 0)]) := by
        intro x1 x6 x7 x8 x9 x11 x12 x13 t1 t2 t3 fi ar H locs ls hF hl hP hS
        unfold M_make_513 at hF
        refine lv_aload_n hx hb dX11_make_513 rfl (lv_at hl 0 rfl) ?_
        refine lv_iload hx hb dX11_make_514 (lv_at hl 7 rfl) ?_
        replace hF := obnd3_of hF
        obtain ⟨r71, fi69, ar70, h68, hF⟩ := hF
        refine cM_i (As := [.int (x12)]) (rest := [.int (t3), .int (t2), .int (t1), .ref (am 0)]) hx hb hml hT hown hK hE hD hA hP hS (k_sumOf l g am _ nf fi ar (x12) r71 fi69 ar70 h68) cw_X11_sumOf mw34_15 ⟨⟨rfl, rfl⟩, Nat.le_of_ble_eq_true rfl, Nat.le_of_ble_eq_true rfl⟩ rfl hl.1 rfl (Nat.le_of_ble_eq_true rfl) dX11_make_516 ⟨Nat.zero_le _, Nat.zero_le _⟩ (fun H locs hP hS => ?_)
        replace hF := obnd3_of hF
        obtain ⟨r75, fi73, ar74, h72, hF⟩ := hF
        refine cM_v (As := [.int (t1), .int (t2), .int (t3), .int (r71)]) (rest := []) hx hb hml hT hown hK hE hD hA hP hS (k_layPart l g am _ nf fi69 ar70 (t1) (t2) (t3) (r71) r75 fi73 ar74 h72) cw_X11_layPart mw50_8 ⟨⟨rfl, rfl⟩, Nat.le_of_ble_eq_true rfl, Nat.le_of_ble_eq_true rfl⟩ rfl hl.1 rfl (Nat.le_of_ble_eq_true rfl) dX11_make_519 ⟨Nat.zero_le _, Nat.zero_le _⟩ (fun H locs hP hS => ?_)
        obtain ⟨x13_76, ex13_76⟩ : ∃ y : Int32, y = (x13) + (1 : Int32) := ⟨_, rfl⟩
        replace hF := bnd_of hF ex13_76
        refine lv_iinc (v := x13_76) (lv' := [(13, .int (x13_76)), (0, .ref (am 0)), (1, .int (x1)), (6, .int (x6)), (7, .int (x7)), (8, .int (x8)), (9, .int (x9)), (11, .int (x11)), (12, .int (x12))]) hx hb dX11_make_522 hl (k := 8) rfl (by rw [ex13_76]; rfl) (by decide) rfl (fun ls hl => ?_)
        refine lv_goto (tgt := 472) hx hb dX11_make_525 (by decide) ?_
        exact ih472 (x1) (x6) (x7) (x8) (x9) (x11) (x12) (x13_76) _ _ _ _ _ hF (lv_sub hl [1, 2, 3, 4, 5, 6, 7, 8, 0] rfl) hP hS
      unfold M_make_472b at hF
      refine lv_iload hx hb dX11_make_472 (lv_at hl 8 rfl) ?_
      refine lv_iload hx hb dX11_make_474 (lv_at hl 5 rfl) ?_
      refine lv_iload hx hb dX11_make_476 (lv_at hl 2 rfl) ?_
      refine lv_iadd hx hb dX11_make_478 ?_
      refine lv_iconst (v := (1 : Int32)) hx hb dX11_make_479 (by decide) ?_
      refine lv_isub hx hb dX11_make_480 ?_
      refine lv_icmp_ge (tgt := 528) hx hb dX11_make_481 (by decide) (fun hc77 => ?_) (fun hc77 => ?_)
      · replace hF := br_yes hF hc77
        refine lv_aload_n hx hb dX11_make_528 rfl (lv_at hl 0 rfl) ?_
        refine lv_iload hx hb dX11_make_529 (lv_at hl 7 rfl) ?_
        refine lv_bipush (v := (11 : Int32)) hx hb dX11_make_531 (by decide) ?_
        refine lv_iadd hx hb dX11_make_533 ?_
        refine lv_iconst (v := (1 : Int32)) hx hb dX11_make_534 (by decide) ?_
        refine lv_iload_n hx hb dX11_make_535 rfl (lv_at hl 1 rfl) ?_
        refine lv_if_eq (tgt := 545) hx hb dX11_make_536 (by decide) (fun hc78 => ?_) (fun hc78 => ?_)
        · replace hF := br_yes hF hc78
          refine lv_ldc2 (v := (32 : Int64)) hx hb hown (hT _ mw49_3) dX11_make_545 ?_
          exact J548 (x1) (x6) (x7) (x8) (x9) (x11) (x12) ((x12) + (11 : Int32)) (1 : Int32) (32 : Int64) _ _ _ _ _ hF (lv_sub hl [0, 1, 2, 3, 4, 5, 6, 7] rfl) hP hS
        · replace hF := br_no hF hc78
          refine lv_ldc2 (v := (48 : Int64)) hx hb hown (hT _ mw49_2) dX11_make_539 ?_
          refine lv_goto (tgt := 548) hx hb dX11_make_542 (by decide) ?_
          exact J548 (x1) (x6) (x7) (x8) (x9) (x11) (x12) ((x12) + (11 : Int32)) (1 : Int32) (48 : Int64) _ _ _ _ _ hF (lv_sub hl [0, 1, 2, 3, 4, 5, 6, 7] rfl) hP hS
      · replace hF := br_no hF hc77
        refine lv_aload_n hx hb dX11_make_484 rfl (lv_at hl 0 rfl) ?_
        refine lv_aload_n hx hb dX11_make_485 rfl (lv_at hl 0 rfl) ?_
        refine lv_iload hx hb dX11_make_486 (lv_at hl 8 rfl) ?_
        replace hF := obnd3_of hF
        obtain ⟨r82, fi80, ar81, h79, hF⟩ := hF
        refine cM_i (As := [.int (x13)]) (rest := [.ref (am 0)]) hx hb hml hT hown hK hE hD hA hP hS (k_slotAt l g am _ nf fi ar (x13) r82 fi80 ar81 h79) cw_X11_slotAt mw32_21 ⟨⟨rfl, rfl⟩, Nat.le_of_ble_eq_true rfl, Nat.le_of_ble_eq_true rfl⟩ rfl hl.1 rfl (Nat.le_of_ble_eq_true rfl) dX11_make_488 ⟨Nat.zero_le _, Nat.zero_le _⟩ (fun H locs hP hS => ?_)
        refine lv_iload hx hb dX11_make_491 (lv_at hl 2 rfl) ?_
        refine lv_iconst (v := (1 : Int32)) hx hb dX11_make_493 (by decide) ?_
        refine lv_isub hx hb dX11_make_494 ?_
        refine lv_iload hx hb dX11_make_495 (lv_at hl 8 rfl) ?_
        refine lv_iload hx hb dX11_make_497 (lv_at hl 5 rfl) ?_
        refine lv_isub hx hb dX11_make_499 ?_
        refine lv_isub hx hb dX11_make_500 ?_
        refine lv_iload hx hb dX11_make_501 (lv_at hl 8 rfl) ?_
        refine lv_iload hx hb dX11_make_503 (lv_at hl 5 rfl) ?_
        refine lv_icmp_ne (tgt := 512) hx hb dX11_make_505 (by decide) (fun hc83 => ?_) (fun hc83 => ?_)
        · replace hF := br_no hF hc83
          refine lv_iconst (v := (0 : Int32)) hx hb dX11_make_512 (by decide) ?_
          exact J513 (x1) (x6) (x7) (x8) (x9) (x11) (x12) (x13) (r82) (((x6) - (1 : Int32)) - ((x13) - (x9))) (0 : Int32) _ _ _ _ _ hF (lv_sub hl [0, 1, 2, 3, 4, 5, 6, 7, 8] rfl) hP hS
        · replace hF := br_yes hF hc83
          refine lv_iconst (v := (1 : Int32)) hx hb dX11_make_508 (by decide) ?_
          refine lv_goto (tgt := 513) hx hb dX11_make_509 (by decide) ?_
          exact J513 (x1) (x6) (x7) (x8) (x9) (x11) (x12) (x13) (r82) (((x6) - (1 : Int32)) - ((x13) - (x9))) (1 : Int32) _ _ _ _ _ hF (lv_sub hl [0, 1, 2, 3, 4, 5, 6, 7, 8] rfl) hP hS
  have L437 : ∀ kf : Nat, ∀ (x1 : Int32) (x6 : Int32) (x7 : Int32) (x8 : Int32) (x9 : Int32) (x11 : Int32) (x12 : Int32) (x13 : Int32) (fi : FI) (ar : AR) (H : Heap) (locs : List Loc) (ls : Array Slot), M_make_437 nf kf x1 x6 x7 x8 x9 x11 x12 x13 fi ar = some (r, fi', ar') → lv_has ls 18 [(0, .ref (am 0)), (1, .int x1), (6, .int x6), (7, .int x7), (8, .int x8), (9, .int x9), (11, .int x11), (12, .int x12), (13, .int x13)] → va_P (gD g) vwCl (WM g am fi ar) H → va_S (AM am s.heap.size) s.heap H locs → W p l e (headSpec (wx yX11_make cX11_make 18 (some .int)) ({ frames := 10, cells := 0, slots := 0, locals := 229 } : Room)).room s m ([.ref (am 0), .int p1] : List Value).toArray below meth c H locs 0 0 (MQ below (QMi g am s.heap.size r fi' ar') ([.ref (am 0), .int p1] : List Value).toArray s 0 0 (AM am s.heap.size)) (F0 m 437 ls []) := by
    intro kf
    induction kf with
    | zero => intro x1 x6 x7 x8 x9 x11 x12 x13 fi ar H locs ls hF hl hP hS; cases (show (none : Option (Int32 × FI × AR)) = _ from hF)
    | succ kf ih437 =>
      intro x1 x6 x7 x8 x9 x11 x12 x13 fi ar H locs ls hF hl hP hS
      obtain ⟨K437, hK437⟩ : ∃ K : Int32 → Int32 → Int32 → Int32 → Int32 → Int32 → Int32 → Int32 → FI → AR → Option (Int32 × FI × AR), K = M_make_437 nf kf := ⟨_, rfl⟩
      replace hF : M_make_437b K437 nf x1 x6 x7 x8 x9 x11 x12 x13 fi ar = some (r, fi', ar') := by rw [hK437]; exact hF
      rw [← hK437] at ih437
      clear hK437
      unfold M_make_437b at hF
      refine lv_iload hx hb dX11_make_437 (lv_at hl 8 rfl) ?_
      refine lv_bipush (v := (11 : Int32)) hx hb dX11_make_439 (by decide) ?_
      refine lv_icmp_ge (tgt := 468) hx hb dX11_make_441 (by decide) (fun hc84 => ?_) (fun hc84 => ?_)
      · replace hF := br_yes hF hc84
        refine lv_iload hx hb dX11_make_468 (lv_at hl 5 rfl) ?_
        refine lv_istore (lv' := [(13, .int (x9)), (0, .ref (am 0)), (1, .int (x1)), (6, .int (x6)), (7, .int (x7)), (8, .int (x8)), (9, .int (x9)), (11, .int (x11)), (12, .int (x12))]) hx hb dX11_make_470 hl (by decide) rfl (fun ls hl => ?_)
        exact L472 nf (x1) (x6) (x7) (x8) (x9) (x11) (x12) (x9) _ _ _ _ _ hF (lv_sub hl [1, 2, 3, 4, 5, 6, 7, 8, 0] rfl) hP hS
      · replace hF := br_no hF hc84
        refine lv_aload_n hx hb dX11_make_444 rfl (lv_at hl 0 rfl) ?_
        refine mg_1 hx hb hT hown hK hP mw6_1 dX11_make_445 ?_
        refine lv_iload hx hb dX11_make_448 (lv_at hl 7 rfl) ?_
        refine lv_iload hx hb dX11_make_450 (lv_at hl 8 rfl) ?_
        refine lv_iadd hx hb dX11_make_452 ?_
        refine lv_aload_n hx hb dX11_make_453 rfl (lv_at hl 0 rfl) ?_
        refine mg_39 hx hb hT hown hK hP mw6_19 dX11_make_454 ?_
        refine lv_iload hx hb dX11_make_457 (lv_at hl 8 rfl) ?_
        replace hF := gd_of hF
        obtain ⟨hi85, hF⟩ := hF
        refine ml_39 hx hb hK hP hi85 dX11_make_459 ?_
        refine lv_i2b hx hb dX11_make_460 rfl ?_
        replace hF := gd_of hF
        obtain ⟨hi86, hF⟩ := hF
        obtain ⟨ar87, ear87⟩ : ∃ y : AR, y = va_up ar 1 (upd (ar 1) ((x12) + (x13)).toNatClampNeg (vp_nar .byte ((ar 39 (x13).toNatClampNeg).toInt8.toInt32))) := ⟨_, rfl⟩
        replace hF := bnd_of hF ear87
        refine ms_1 hx hb hK hP hD hS hi86 dX11_make_461 (fun H locs hP hS => ?_)
        rw [← ear87] at hP
        obtain ⟨x13_88, ex13_88⟩ : ∃ y : Int32, y = (x13) + (1 : Int32) := ⟨_, rfl⟩
        replace hF := bnd_of hF ex13_88
        refine lv_iinc (v := x13_88) (lv' := [(13, .int (x13_88)), (0, .ref (am 0)), (1, .int (x1)), (6, .int (x6)), (7, .int (x7)), (8, .int (x8)), (9, .int (x9)), (11, .int (x11)), (12, .int (x12))]) hx hb dX11_make_462 hl (k := 8) rfl (by rw [ex13_88]; rfl) (by decide) rfl (fun ls hl => ?_)
        refine lv_goto (tgt := 437) hx hb dX11_make_465 (by decide) ?_
        exact ih437 (x1) (x6) (x7) (x8) (x9) (x11) (x12) (x13_88) _ _ _ _ _ hF (lv_sub hl [1, 2, 3, 4, 5, 6, 7, 8, 0] rfl) hP hS
  have L374 : ∀ kf : Nat, ∀ (x1 : Int32) (x6 : Int32) (x7 : Int32) (x8 : Int32) (x9 : Int32) (x11 : Int32) (x12 : Int32) (fi : FI) (ar : AR) (H : Heap) (locs : List Loc) (ls : Array Slot), M_make_374 nf kf x1 x6 x7 x8 x9 x11 x12 fi ar = some (r, fi', ar') → lv_has ls 18 [(0, .ref (am 0)), (1, .int x1), (6, .int x6), (7, .int x7), (8, .int x8), (9, .int x9), (11, .int x11), (12, .int x12)] → va_P (gD g) vwCl (WM g am fi ar) H → va_S (AM am s.heap.size) s.heap H locs → W p l e (headSpec (wx yX11_make cX11_make 18 (some .int)) ({ frames := 10, cells := 0, slots := 0, locals := 229 } : Room)).room s m ([.ref (am 0), .int p1] : List Value).toArray below meth c H locs 0 0 (MQ below (QMi g am s.heap.size r fi' ar') ([.ref (am 0), .int p1] : List Value).toArray s 0 0 (AM am s.heap.size)) (F0 m 374 ls []) := by
    intro kf
    induction kf with
    | zero => intro x1 x6 x7 x8 x9 x11 x12 fi ar H locs ls hF hl hP hS; cases (show (none : Option (Int32 × FI × AR)) = _ from hF)
    | succ kf ih374 =>
      intro x1 x6 x7 x8 x9 x11 x12 fi ar H locs ls hF hl hP hS
      obtain ⟨K374, hK374⟩ : ∃ K : Int32 → Int32 → Int32 → Int32 → Int32 → Int32 → Int32 → FI → AR → Option (Int32 × FI × AR), K = M_make_374 nf kf := ⟨_, rfl⟩
      replace hF : M_make_374b K374 nf x1 x6 x7 x8 x9 x11 x12 fi ar = some (r, fi', ar') := by rw [hK374]; exact hF
      rw [← hK374] at ih374
      clear hK374
      have L387 : ∀ kf : Nat, ∀ (x1 : Int32) (x6 : Int32) (x7 : Int32) (x8 : Int32) (x9 : Int32) (x11 : Int32) (x12 : Int32) (x13 : Int32) (fi : FI) (ar : AR) (H : Heap) (locs : List Loc) (ls : Array Slot), M_make_387 K374 nf kf x1 x6 x7 x8 x9 x11 x12 x13 fi ar = some (r, fi', ar') → lv_has ls 18 [(0, .ref (am 0)), (1, .int x1), (6, .int x6), (7, .int x7), (8, .int x8), (9, .int x9), (11, .int x11), (12, .int x12), (13, .int x13)] → va_P (gD g) vwCl (WM g am fi ar) H → va_S (AM am s.heap.size) s.heap H locs → W p l e (headSpec (wx yX11_make cX11_make 18 (some .int)) ({ frames := 10, cells := 0, slots := 0, locals := 229 } : Room)).room s m ([.ref (am 0), .int p1] : List Value).toArray below meth c H locs 0 0 (MQ below (QMi g am s.heap.size r fi' ar') ([.ref (am 0), .int p1] : List Value).toArray s 0 0 (AM am s.heap.size)) (F0 m 387 ls []) := by
        intro kf
        induction kf with
        | zero => intro x1 x6 x7 x8 x9 x11 x12 x13 fi ar H locs ls hF hl hP hS; cases (show (none : Option (Int32 × FI × AR)) = _ from hF)
        | succ kf ih387 =>
          intro x1 x6 x7 x8 x9 x11 x12 x13 fi ar H locs ls hF hl hP hS
          obtain ⟨K387, hK387⟩ : ∃ K : Int32 → Int32 → Int32 → Int32 → Int32 → Int32 → Int32 → Int32 → FI → AR → Option (Int32 × FI × AR), K = M_make_387 K374 nf kf := ⟨_, rfl⟩
          replace hF : M_make_387b K387 K374 nf x1 x6 x7 x8 x9 x11 x12 x13 fi ar = some (r, fi', ar') := by rw [hK387]; exact hF
          rw [← hK387] at ih387
          clear hK387
          unfold M_make_387b at hF
          refine lv_iload hx hb dX11_make_387 (lv_at hl 8 rfl) ?_
          refine lv_bipush (v := (32 : Int32)) hx hb dX11_make_389 (by decide) ?_
          refine lv_icmp_ge (tgt := 415) hx hb dX11_make_391 (by decide) (fun hc89 => ?_) (fun hc89 => ?_)
          · replace hF := br_yes hF hc89
            obtain ⟨x12_90, ex12_90⟩ : ∃ y : Int32, y = (x12) + (1 : Int32) := ⟨_, rfl⟩
            replace hF := bnd_of hF ex12_90
            refine lv_iinc (v := x12_90) (lv' := [(12, .int (x12_90)), (0, .ref (am 0)), (1, .int (x1)), (6, .int (x6)), (7, .int (x7)), (8, .int (x8)), (9, .int (x9)), (11, .int (x11)), (13, .int (x13))]) hx hb dX11_make_415 hl (k := 7) rfl (by rw [ex12_90]; rfl) (by decide) rfl (fun ls hl => ?_)
            refine lv_goto (tgt := 374) hx hb dX11_make_418 (by decide) ?_
            exact ih374 (x1) (x6) (x7) (x8) (x9) (x11) (x12_90) _ _ _ _ _ hF (lv_sub hl [1, 2, 3, 4, 5, 6, 7, 0] rfl) hP hS
          · replace hF := br_no hF hc89
            refine lv_aload_n hx hb dX11_make_394 rfl (lv_at hl 0 rfl) ?_
            refine mg_1 hx hb hT hown hK hP mw6_1 dX11_make_395 ?_
            refine lv_aload_n hx hb dX11_make_398 rfl (lv_at hl 0 rfl) ?_
            refine lv_iload hx hb dX11_make_399 (lv_at hl 7 rfl) ?_
            replace hF := obnd3_of hF
            obtain ⟨r94, fi92, ar93, h91, hF⟩ := hF
            refine cM_i (As := [.int (x12)]) (rest := [.ref (am 1)]) hx hb hml hT hown hK hE hD hA hP hS (k_slotAt l g am _ nf fi ar (x12) r94 fi92 ar93 h91) cw_X11_slotAt mw32_21 ⟨⟨rfl, rfl⟩, Nat.le_of_ble_eq_true rfl, Nat.le_of_ble_eq_true rfl⟩ rfl hl.1 rfl (Nat.le_of_ble_eq_true rfl) dX11_make_401 ⟨Nat.zero_le _, Nat.zero_le _⟩ (fun H locs hP hS => ?_)
            refine lv_iload hx hb dX11_make_404 (lv_at hl 8 rfl) ?_
            refine lv_iadd hx hb dX11_make_406 ?_
            refine lv_iconst (v := (0 : Int32)) hx hb dX11_make_407 (by decide) ?_
            replace hF := gd_of hF
            obtain ⟨hi95, hF⟩ := hF
            obtain ⟨ar96, ear96⟩ : ∃ y : AR, y = va_up ar93 1 (upd (ar93 1) ((r94) + (x13)).toNatClampNeg (vp_nar .byte (0 : Int32))) := ⟨_, rfl⟩
            replace hF := bnd_of hF ear96
            refine ms_1 hx hb hK hP hD hS hi95 dX11_make_408 (fun H locs hP hS => ?_)
            rw [← ear96] at hP
            obtain ⟨x13_97, ex13_97⟩ : ∃ y : Int32, y = (x13) + (1 : Int32) := ⟨_, rfl⟩
            replace hF := bnd_of hF ex13_97
            refine lv_iinc (v := x13_97) (lv' := [(13, .int (x13_97)), (0, .ref (am 0)), (1, .int (x1)), (6, .int (x6)), (7, .int (x7)), (8, .int (x8)), (9, .int (x9)), (11, .int (x11)), (12, .int (x12))]) hx hb dX11_make_409 hl (k := 8) rfl (by rw [ex13_97]; rfl) (by decide) rfl (fun ls hl => ?_)
            refine lv_goto (tgt := 387) hx hb dX11_make_412 (by decide) ?_
            exact ih387 (x1) (x6) (x7) (x8) (x9) (x11) (x12) (x13_97) _ _ _ _ _ hF (lv_sub hl [1, 2, 3, 4, 5, 6, 7, 8, 0] rfl) hP hS
      unfold M_make_374b at hF
      refine lv_iload hx hb dX11_make_374 (lv_at hl 7 rfl) ?_
      refine lv_iload hx hb dX11_make_376 (lv_at hl 5 rfl) ?_
      refine lv_iload hx hb dX11_make_378 (lv_at hl 2 rfl) ?_
      refine lv_iadd hx hb dX11_make_380 ?_
      refine lv_icmp_ge (tgt := 421) hx hb dX11_make_381 (by decide) (fun hc98 => ?_) (fun hc98 => ?_)
      · replace hF := br_yes hF hc98
        refine lv_aload_n hx hb dX11_make_421 rfl (lv_at hl 0 rfl) ?_
        refine lv_iload hx hb dX11_make_422 (lv_at hl 5 rfl) ?_
        refine lv_iload hx hb dX11_make_424 (lv_at hl 2 rfl) ?_
        refine lv_iadd hx hb dX11_make_426 ?_
        refine lv_iconst (v := (1 : Int32)) hx hb dX11_make_427 (by decide) ?_
        refine lv_isub hx hb dX11_make_428 ?_
        replace hF := obnd3_of hF
        obtain ⟨r102, fi100, ar101, h99, hF⟩ := hF
        refine cM_i (As := [.int (((x9) + (x6)) - (1 : Int32))]) (rest := []) hx hb hml hT hown hK hE hD hA hP hS (k_slotAt l g am _ nf fi ar (((x9) + (x6)) - (1 : Int32)) r102 fi100 ar101 h99) cw_X11_slotAt mw32_21 ⟨⟨rfl, rfl⟩, Nat.le_of_ble_eq_true rfl, Nat.le_of_ble_eq_true rfl⟩ rfl hl.1 rfl (Nat.le_of_ble_eq_true rfl) dX11_make_429 ⟨Nat.zero_le _, Nat.zero_le _⟩ (fun H locs hP hS => ?_)
        refine lv_istore (lv' := [(12, .int (r102)), (0, .ref (am 0)), (1, .int (x1)), (6, .int (x6)), (7, .int (x7)), (8, .int (x8)), (9, .int (x9)), (11, .int (x11))]) hx hb dX11_make_432 hl (by decide) rfl (fun ls hl => ?_)
        refine lv_iconst (v := (0 : Int32)) hx hb dX11_make_434 (by decide) ?_
        refine lv_istore (lv' := [(13, .int (0 : Int32)), (12, .int (r102)), (0, .ref (am 0)), (1, .int (x1)), (6, .int (x6)), (7, .int (x7)), (8, .int (x8)), (9, .int (x9)), (11, .int (x11))]) hx hb dX11_make_435 hl (by decide) rfl (fun ls hl => ?_)
        exact L437 nf (x1) (x6) (x7) (x8) (x9) (x11) (r102) (0 : Int32) _ _ _ _ _ hF (lv_sub hl [2, 3, 4, 5, 6, 7, 8, 1, 0] rfl) hP hS
      · replace hF := br_no hF hc98
        refine lv_iconst (v := (0 : Int32)) hx hb dX11_make_384 (by decide) ?_
        refine lv_istore (lv' := [(13, .int (0 : Int32)), (0, .ref (am 0)), (1, .int (x1)), (6, .int (x6)), (7, .int (x7)), (8, .int (x8)), (9, .int (x9)), (11, .int (x11)), (12, .int (x12))]) hx hb dX11_make_385 hl (by decide) rfl (fun ls hl => ?_)
        exact L387 nf (x1) (x6) (x7) (x8) (x9) (x11) (x12) (0 : Int32) _ _ _ _ _ hF (lv_sub hl [1, 2, 3, 4, 5, 6, 7, 8, 0] rfl) hP hS
  have L310 : ∀ kf : Nat, ∀ (x1 : Int32) (x6 : Int32) (x7 : Int32) (x8 : Int32) (x9 : Int32) (x10 : Int32) (x11 : Int32) (x12 : Int32) (fi : FI) (ar : AR) (H : Heap) (locs : List Loc) (ls : Array Slot), M_make_310 nf kf x1 x6 x7 x8 x9 x10 x11 x12 fi ar = some (r, fi', ar') → lv_has ls 18 [(0, .ref (am 0)), (1, .int x1), (6, .int x6), (7, .int x7), (8, .int x8), (9, .int x9), (10, .int x10), (11, .int x11), (12, .int x12)] → va_P (gD g) vwCl (WM g am fi ar) H → va_S (AM am s.heap.size) s.heap H locs → W p l e (headSpec (wx yX11_make cX11_make 18 (some .int)) ({ frames := 10, cells := 0, slots := 0, locals := 229 } : Room)).room s m ([.ref (am 0), .int p1] : List Value).toArray below meth c H locs 0 0 (MQ below (QMi g am s.heap.size r fi' ar') ([.ref (am 0), .int p1] : List Value).toArray s 0 0 (AM am s.heap.size)) (F0 m 310 ls []) := by
    intro kf
    induction kf with
    | zero => intro x1 x6 x7 x8 x9 x10 x11 x12 fi ar H locs ls hF hl hP hS; cases (show (none : Option (Int32 × FI × AR)) = _ from hF)
    | succ kf ih310 =>
      intro x1 x6 x7 x8 x9 x10 x11 x12 fi ar H locs ls hF hl hP hS
      obtain ⟨K310, hK310⟩ : ∃ K : Int32 → Int32 → Int32 → Int32 → Int32 → Int32 → Int32 → Int32 → FI → AR → Option (Int32 × FI × AR), K = M_make_310 nf kf := ⟨_, rfl⟩
      replace hF : M_make_310b K310 nf x1 x6 x7 x8 x9 x10 x11 x12 fi ar = some (r, fi', ar') := by rw [hK310]; exact hF
      rw [← hK310] at ih310
      clear hK310
      unfold M_make_310b at hF
      refine lv_iload hx hb dX11_make_310 (lv_at hl 8 rfl) ?_
      refine lv_iload hx hb dX11_make_312 (lv_at hl 6 rfl) ?_
      refine lv_icmp_ge (tgt := 370) hx hb dX11_make_314 (by decide) (fun hc103 => ?_) (fun hc103 => ?_)
      · replace hF := br_yes hF hc103
        refine lv_iload hx hb dX11_make_370 (lv_at hl 5 rfl) ?_
        refine lv_istore (lv' := [(12, .int (x9)), (0, .ref (am 0)), (1, .int (x1)), (6, .int (x6)), (7, .int (x7)), (8, .int (x8)), (9, .int (x9)), (10, .int (x10)), (11, .int (x11))]) hx hb dX11_make_372 hl (by decide) rfl (fun ls hl => ?_)
        exact L374 nf (x1) (x6) (x7) (x8) (x9) (x11) (x9) _ _ _ _ _ hF (lv_sub hl [1, 2, 3, 4, 5, 6, 8, 0] rfl) hP hS
      · replace hF := br_no hF hc103
        refine lv_aload_n hx hb dX11_make_317 rfl (lv_at hl 0 rfl) ?_
        refine mg_30 hx hb hT hown hK hP mw6_17 dX11_make_318 ?_
        refine lv_aload_n hx hb dX11_make_321 rfl (lv_at hl 0 rfl) ?_
        refine mg_32 hx hb hT hown hK hP mw32_6 dX11_make_322 ?_
        refine lv_aload_n hx hb dX11_make_325 rfl (lv_at hl 0 rfl) ?_
        replace hF := obnd3_of hF
        obtain ⟨r107, fi105, ar106, h104, hF⟩ := hF
        refine cM_i (As := []) (rest := [.int (fi 32), .ref (am 30)]) hx hb hml hT hown hK hE hD hA hP hS (k_take l g am _ nf fi ar r107 fi105 ar106 h104) cw_X11_take mw50_4 ⟨⟨rfl, rfl⟩, Nat.le_of_ble_eq_true rfl, Nat.le_of_ble_eq_true rfl⟩ rfl hl.1 rfl (Nat.le_of_ble_eq_true rfl) dX11_make_326 ⟨Nat.zero_le _, Nat.zero_le _⟩ (fun H locs hP hS => ?_)
        replace hF := gd_of hF
        obtain ⟨hi108, hF⟩ := hF
        obtain ⟨ar109, ear109⟩ : ∃ y : AR, y = va_up ar106 30 (upd (ar106 30) (fi 32).toNatClampNeg (r107)) := ⟨_, rfl⟩
        replace hF := bnd_of hF ear109
        refine ms_30 hx hb hK hP hD hS hi108 dX11_make_329 (fun H locs hP hS => ?_)
        rw [← ear109] at hP
        refine lv_aload_n hx hb dX11_make_330 rfl (lv_at hl 0 rfl) ?_
        refine lv_aload_n hx hb dX11_make_331 rfl (lv_at hl 0 rfl) ?_
        refine mg_30 hx hb hT hown hK hP mw6_17 dX11_make_332 ?_
        refine lv_aload_n hx hb dX11_make_335 rfl (lv_at hl 0 rfl) ?_
        refine mg_32 hx hb hT hown hK hP mw32_6 dX11_make_336 ?_
        refine lv_iconst (v := (1 : Int32)) hx hb dX11_make_339 (by decide) ?_
        refine lv_isub hx hb dX11_make_340 ?_
        replace hF := gd_of hF
        obtain ⟨hi110, hF⟩ := hF
        refine ml_30 hx hb hK hP hi110 dX11_make_341 ?_
        refine lv_aload_n hx hb dX11_make_342 rfl (lv_at hl 0 rfl) ?_
        refine mg_30 hx hb hT hown hK hP mw6_17 dX11_make_343 ?_
        refine lv_aload_n hx hb dX11_make_346 rfl (lv_at hl 0 rfl) ?_
        refine mg_32 hx hb hT hown hK hP mw32_6 dX11_make_347 ?_
        replace hF := gd_of hF
        obtain ⟨hi111, hF⟩ := hF
        refine ml_30 hx hb hK hP hi111 dX11_make_350 ?_
        replace hF := obnd3_of hF
        obtain ⟨r115, fi113, ar114, h112, hF⟩ := hF
        refine cM_v (As := [.int (ar109 30 ((fi105 32) - (1 : Int32)).toNatClampNeg), .int (ar109 30 (fi105 32).toNatClampNeg)]) (rest := []) hx hb hml hT hown hK hE hD hA hP hS (k_setEntry l g am _ nf fi105 ar109 (ar109 30 ((fi105 32) - (1 : Int32)).toNatClampNeg) (ar109 30 (fi105 32).toNatClampNeg) r115 fi113 ar114 h112) cw_X11_setEntry mw20_1 ⟨⟨rfl, rfl⟩, Nat.le_of_ble_eq_true rfl, Nat.le_of_ble_eq_true rfl⟩ rfl hl.1 rfl (Nat.le_of_ble_eq_true rfl) dX11_make_351 ⟨Nat.zero_le _, Nat.zero_le _⟩ (fun H locs hP hS => ?_)
        refine lv_aload_n hx hb dX11_make_354 rfl (lv_at hl 0 rfl) ?_
        refine lv_dup hx hb dX11_make_355 rfl ?_
        refine mg_32 hx hb hT hown hK hP mw32_6 dX11_make_356 ?_
        refine lv_iconst (v := (1 : Int32)) hx hb dX11_make_359 (by decide) ?_
        refine lv_iadd hx hb dX11_make_360 ?_
        obtain ⟨fi116, efi116⟩ : ∃ y : FI, y = va_up fi113 32 ((fi113 32) + (1 : Int32)) := ⟨_, rfl⟩
        replace hF := bnd_of hF efi116
        refine mp_32 hx hb hT hown hK hP hD hS mw32_6 dX11_make_361 (fun H locs hP hS => ?_)
        rw [← efi116] at hP
        obtain ⟨x12_117, ex12_117⟩ : ∃ y : Int32, y = (x12) + (1 : Int32) := ⟨_, rfl⟩
        replace hF := bnd_of hF ex12_117
        refine lv_iinc (v := x12_117) (lv' := [(12, .int (x12_117)), (0, .ref (am 0)), (1, .int (x1)), (6, .int (x6)), (7, .int (x7)), (8, .int (x8)), (9, .int (x9)), (10, .int (x10)), (11, .int (x11))]) hx hb dX11_make_364 hl (k := 8) rfl (by rw [ex12_117]; rfl) (by decide) rfl (fun ls hl => ?_)
        refine lv_goto (tgt := 310) hx hb dX11_make_367 (by decide) ?_
        exact ih310 (x1) (x6) (x7) (x8) (x9) (x10) (x11) (x12_117) _ _ _ _ _ hF (lv_sub hl [1, 2, 3, 4, 5, 6, 7, 8, 0] rfl) hP hS
  have J305 : ∀ (x1 : Int32) (x6 : Int32) (x7 : Int32) (x8 : Int32) (x9 : Int32) (x10 : Int32) (t0 : Int32) (fi : FI) (ar : AR) (H : Heap) (locs : List Loc) (ls : Array Slot), M_make_305 nf x1 x6 x7 x8 x9 x10 t0 fi ar = some (r, fi', ar') → lv_has ls 18 [(0, .ref (am 0)), (1, .int x1), (6, .int x6), (7, .int x7), (8, .int x8), (9, .int x9), (10, .int x10)] → va_P (gD g) vwCl (WM g am fi ar) H → va_S (AM am s.heap.size) s.heap H locs → W p l e (headSpec (wx yX11_make cX11_make 18 (some .int)) ({ frames := 10, cells := 0, slots := 0, locals := 229 } : Room)).room s m ([.ref (am 0), .int p1] : List Value).toArray below meth c H locs 0 0 (MQ below (QMi g am s.heap.size r fi' ar') ([.ref (am 0), .int p1] : List Value).toArray s 0 0 (AM am s.heap.size)) (F0 m 305 ls [.int t0]) := by
    intro x1 x6 x7 x8 x9 x10 t0 fi ar H locs ls hF hl hP hS
    unfold M_make_305 at hF
    refine lv_istore (lv' := [(11, .int (t0)), (0, .ref (am 0)), (1, .int (x1)), (6, .int (x6)), (7, .int (x7)), (8, .int (x8)), (9, .int (x9)), (10, .int (x10))]) hx hb dX11_make_305 hl (by decide) rfl (fun ls hl => ?_)
    refine lv_iconst (v := (0 : Int32)) hx hb dX11_make_307 (by decide) ?_
    refine lv_istore (lv' := [(12, .int (0 : Int32)), (11, .int (t0)), (0, .ref (am 0)), (1, .int (x1)), (6, .int (x6)), (7, .int (x7)), (8, .int (x8)), (9, .int (x9)), (10, .int (x10))]) hx hb dX11_make_308 hl (by decide) rfl (fun ls hl => ?_)
    exact L310 nf (x1) (x6) (x7) (x8) (x9) (x10) (t0) (0 : Int32) _ _ _ _ _ hF (lv_sub hl [2, 3, 4, 5, 6, 7, 8, 1, 0] rfl) hP hS
  have J284 : ∀ (x1 : Int32) (x6 : Int32) (x7 : Int32) (x8 : Int32) (x9 : Int32) (x10 : Int32) (t1 : Int32) (fi : FI) (ar : AR) (H : Heap) (locs : List Loc) (ls : Array Slot), M_make_284 nf x1 x6 x7 x8 x9 x10 t1 fi ar = some (r, fi', ar') → lv_has ls 18 [(0, .ref (am 0)), (1, .int x1), (6, .int x6), (7, .int x7), (8, .int x8), (9, .int x9), (10, .int x10)] → va_P (gD g) vwCl (WM g am fi ar) H → va_S (AM am s.heap.size) s.heap H locs → W p l e (headSpec (wx yX11_make cX11_make 18 (some .int)) ({ frames := 10, cells := 0, slots := 0, locals := 229 } : Room)).room s m ([.ref (am 0), .int p1] : List Value).toArray below meth c H locs 0 0 (MQ below (QMi g am s.heap.size r fi' ar') ([.ref (am 0), .int p1] : List Value).toArray s 0 0 (AM am s.heap.size)) (F0 m 284 ls [.int t1, .ref (am 0)]) := by
    intro x1 x6 x7 x8 x9 x10 t1 fi ar H locs ls hF hl hP hS
    unfold M_make_284 at hF
    refine lv_iconst (v := (3 : Int32)) hx hb dX11_make_284 (by decide) ?_
    replace hF := obnd3_of hF
    obtain ⟨r121, fi119, ar120, h118, hF⟩ := hF
    refine cM_i (As := [.int (t1), .int (3 : Int32)]) (rest := []) hx hb hml hT hown hK hE hD hA hP hS (k_fails l g am _ nf fi ar (t1) (3 : Int32) r121 fi119 ar120 h118) cw_X11_fails mw18_14 ⟨⟨rfl, rfl⟩, Nat.le_of_ble_eq_true rfl, Nat.le_of_ble_eq_true rfl⟩ rfl hl.1 rfl (Nat.le_of_ble_eq_true rfl) dX11_make_285 ⟨Nat.zero_le _, Nat.zero_le _⟩ (fun H locs hP hS => ?_)
    refine lv_if_eq (tgt := 293) hx hb dX11_make_288 (by decide) (fun hc122 => ?_) (fun hc122 => ?_)
    · replace hF := br_yes hF hc122
      refine lv_iload_n hx hb dX11_make_293 rfl (lv_at hl 1 rfl) ?_
      refine lv_if_eq (tgt := 304) hx hb dX11_make_294 (by decide) (fun hc123 => ?_) (fun hc123 => ?_)
      · replace hF := br_yes hF hc123
        refine lv_iconst (v := (0 : Int32)) hx hb dX11_make_304 (by decide) ?_
        exact J305 (x1) (x6) (x7) (x8) (x9) (x10) (0 : Int32) _ _ _ _ _ hF (lv_sub hl [0, 1, 2, 3, 4, 5, 6] rfl) hP hS
      · replace hF := br_no hF hc123
        refine lv_aload_n hx hb dX11_make_297 rfl (lv_at hl 0 rfl) ?_
        replace hF := obnd3_of hF
        obtain ⟨r127, fi125, ar126, h124, hF⟩ := hF
        refine cM_i (As := []) (rest := []) hx hb hml hT hown hK hE hD hA hP hS (k_take l g am _ nf fi119 ar120 r127 fi125 ar126 h124) cw_X11_take mw50_4 ⟨⟨rfl, rfl⟩, Nat.le_of_ble_eq_true rfl, Nat.le_of_ble_eq_true rfl⟩ rfl hl.1 rfl (Nat.le_of_ble_eq_true rfl) dX11_make_298 ⟨Nat.zero_le _, Nat.zero_le _⟩ (fun H locs hP hS => ?_)
        refine lv_goto (tgt := 305) hx hb dX11_make_301 (by decide) ?_
        exact J305 (x1) (x6) (x7) (x8) (x9) (x10) (r127) _ _ _ _ _ hF (lv_sub hl [0, 1, 2, 3, 4, 5, 6] rfl) hP hS
    · replace hF := br_no hF hc122
      refine lv_iconst (v := (0 : Int32)) hx hb dX11_make_291 (by decide) ?_
      exact rM_i hx hb hr hlocks hF hP hS dX11_make_292
  have J271 : ∀ (x1 : Int32) (x6 : Int32) (x7 : Int32) (x8 : Int32) (x9 : Int32) (x10 : Int32) (t1 : Int32) (t2 : Int32) (fi : FI) (ar : AR) (H : Heap) (locs : List Loc) (ls : Array Slot), M_make_271 nf x1 x6 x7 x8 x9 x10 t1 t2 fi ar = some (r, fi', ar') → lv_has ls 18 [(0, .ref (am 0)), (1, .int x1), (6, .int x6), (7, .int x7), (8, .int x8), (9, .int x9), (10, .int x10)] → va_P (gD g) vwCl (WM g am fi ar) H → va_S (AM am s.heap.size) s.heap H locs → W p l e (headSpec (wx yX11_make cX11_make 18 (some .int)) ({ frames := 10, cells := 0, slots := 0, locals := 229 } : Room)).room s m ([.ref (am 0), .int p1] : List Value).toArray below meth c H locs 0 0 (MQ below (QMi g am s.heap.size r fi' ar') ([.ref (am 0), .int p1] : List Value).toArray s 0 0 (AM am s.heap.size)) (F0 m 271 ls [.int t2, .int t1, .ref (am 0)]) := by
    intro x1 x6 x7 x8 x9 x10 t1 t2 fi ar H locs ls hF hl hP hS
    unfold M_make_271 at hF
    refine lv_iadd hx hb dX11_make_271 ?_
    refine lv_aload_n hx hb dX11_make_272 rfl (lv_at hl 0 rfl) ?_
    replace hF := obnd3_of hF
    obtain ⟨r131, fi129, ar130, h128, hF⟩ := hF
    refine cM_i (As := []) (rest := [.int ((t1) + (t2)), .ref (am 0)]) hx hb hml hT hown hK hE hD hA hP hS (k_freeOnes l g am _ nf fi ar r131 fi129 ar130 h128) cw_X11_freeOnes mw37_3 ⟨⟨rfl, rfl⟩, Nat.le_of_ble_eq_true rfl, Nat.le_of_ble_eq_true rfl⟩ rfl hl.1 rfl (Nat.le_of_ble_eq_true rfl) dX11_make_273 ⟨Nat.zero_le _, Nat.zero_le _⟩ (fun H locs hP hS => ?_)
    refine lv_icmp_le (tgt := 283) hx hb dX11_make_276 (by decide) (fun hc132 => ?_) (fun hc132 => ?_)
    · replace hF := br_yes hF hc132
      refine lv_iconst (v := (0 : Int32)) hx hb dX11_make_283 (by decide) ?_
      exact J284 (x1) (x6) (x7) (x8) (x9) (x10) (0 : Int32) _ _ _ _ _ hF (lv_sub hl [0, 1, 2, 3, 4, 5, 6] rfl) hP hS
    · replace hF := br_no hF hc132
      refine lv_iconst (v := (1 : Int32)) hx hb dX11_make_279 (by decide) ?_
      refine lv_goto (tgt := 284) hx hb dX11_make_280 (by decide) ?_
      exact J284 (x1) (x6) (x7) (x8) (x9) (x10) (1 : Int32) _ _ _ _ _ hF (lv_sub hl [0, 1, 2, 3, 4, 5, 6] rfl) hP hS
  have J257 : ∀ (x1 : Int32) (x6 : Int32) (x7 : Int32) (x8 : Int32) (x9 : Int32) (t0 : Int32) (fi : FI) (ar : AR) (H : Heap) (locs : List Loc) (ls : Array Slot), M_make_257 nf x1 x6 x7 x8 x9 t0 fi ar = some (r, fi', ar') → lv_has ls 18 [(0, .ref (am 0)), (1, .int x1), (6, .int x6), (7, .int x7), (8, .int x8), (9, .int x9)] → va_P (gD g) vwCl (WM g am fi ar) H → va_S (AM am s.heap.size) s.heap H locs → W p l e (headSpec (wx yX11_make cX11_make 18 (some .int)) ({ frames := 10, cells := 0, slots := 0, locals := 229 } : Room)).room s m ([.ref (am 0), .int p1] : List Value).toArray below meth c H locs 0 0 (MQ below (QMi g am s.heap.size r fi' ar') ([.ref (am 0), .int p1] : List Value).toArray s 0 0 (AM am s.heap.size)) (F0 m 257 ls [.int t0]) := by
    intro x1 x6 x7 x8 x9 t0 fi ar H locs ls hF hl hP hS
    unfold M_make_257 at hF
    refine lv_istore (lv' := [(10, .int (t0)), (0, .ref (am 0)), (1, .int (x1)), (6, .int (x6)), (7, .int (x7)), (8, .int (x8)), (9, .int (x9))]) hx hb dX11_make_257 hl (by decide) rfl (fun ls hl => ?_)
    refine lv_aload_n hx hb dX11_make_259 rfl (lv_at hl 1 rfl) ?_
    refine lv_iload hx hb dX11_make_260 (lv_at hl 0 rfl) ?_
    refine lv_iload_n hx hb dX11_make_262 rfl (lv_at hl 2 rfl) ?_
    refine lv_if_eq (tgt := 270) hx hb dX11_make_263 (by decide) (fun hc133 => ?_) (fun hc133 => ?_)
    · replace hF := br_yes hF hc133
      refine lv_iconst (v := (0 : Int32)) hx hb dX11_make_270 (by decide) ?_
      exact J271 (x1) (x6) (x7) (x8) (x9) (t0) (t0) (0 : Int32) _ _ _ _ _ hF (lv_sub hl [1, 2, 3, 4, 5, 6, 0] rfl) hP hS
    · replace hF := br_no hF hc133
      refine lv_iconst (v := (1 : Int32)) hx hb dX11_make_266 (by decide) ?_
      refine lv_goto (tgt := 271) hx hb dX11_make_267 (by decide) ?_
      exact J271 (x1) (x6) (x7) (x8) (x9) (t0) (t0) (1 : Int32) _ _ _ _ _ hF (lv_sub hl [1, 2, 3, 4, 5, 6, 0] rfl) hP hS
  have J225 : ∀ (x1 : Int32) (x6 : Int32) (x7 : Int32) (x8 : Int32) (x9 : Int32) (fi : FI) (ar : AR) (H : Heap) (locs : List Loc) (ls : Array Slot), M_make_225 nf x1 x6 x7 x8 x9 fi ar = some (r, fi', ar') → lv_has ls 18 [(0, .ref (am 0)), (1, .int x1), (6, .int x6), (7, .int x7), (8, .int x8), (9, .int x9)] → va_P (gD g) vwCl (WM g am fi ar) H → va_S (AM am s.heap.size) s.heap H locs → W p l e (headSpec (wx yX11_make cX11_make 18 (some .int)) ({ frames := 10, cells := 0, slots := 0, locals := 229 } : Room)).room s m ([.ref (am 0), .int p1] : List Value).toArray below meth c H locs 0 0 (MQ below (QMi g am s.heap.size r fi' ar') ([.ref (am 0), .int p1] : List Value).toArray s 0 0 (AM am s.heap.size)) (F0 m 225 ls []) := by
    intro x1 x6 x7 x8 x9 fi ar H locs ls hF hl hP hS
    unfold M_make_225 at hF
    refine lv_iload hx hb dX11_make_225 (lv_at hl 5 rfl) ?_
    refine lv_iload hx hb dX11_make_227 (lv_at hl 2 rfl) ?_
    refine lv_iadd hx hb dX11_make_229 ?_
    refine lv_iload hx hb dX11_make_230 (lv_at hl 3 rfl) ?_
    refine lv_icmp_le (tgt := 256) hx hb dX11_make_232 (by decide) (fun hc134 => ?_) (fun hc134 => ?_)
    · replace hF := br_yes hF hc134
      refine lv_iconst (v := (0 : Int32)) hx hb dX11_make_256 (by decide) ?_
      exact J257 (x1) (x6) (x7) (x8) (x9) (0 : Int32) _ _ _ _ _ hF (lv_sub hl [0, 1, 2, 3, 4, 5] rfl) hP hS
    · replace hF := br_no hF hc134
      refine lv_iload hx hb dX11_make_235 (lv_at hl 5 rfl) ?_
      refine lv_iload hx hb dX11_make_237 (lv_at hl 2 rfl) ?_
      refine lv_iadd hx hb dX11_make_239 ?_
      refine lv_iload hx hb dX11_make_240 (lv_at hl 3 rfl) ?_
      refine lv_isub hx hb dX11_make_242 ?_
      refine lv_bipush (v := (16 : Int32)) hx hb dX11_make_243 (by decide) ?_
      refine lv_aload_n hx hb dX11_make_245 rfl (lv_at hl 0 rfl) ?_
      refine mg_7 hx hb hT hown hK hP mw19_2 dX11_make_246 ?_
      refine lv_imul hx hb dX11_make_249 ?_
      replace hF := obnd_of hF
      obtain ⟨r136, h135, hF⟩ := hF
      refine cS_i (As := [.int (((x9) + (x6)) - (x7)), .int ((16 : Int32) * (fi 7))]) (rest := []) hx hb hml hT hown hE hP hS (k_whole l g nf (((x9) + (x6)) - (x7)) ((16 : Int32) * (fi 7)) r136 h135) cw_X11_whole mw35_0 ⟨⟨rfl, rfl⟩, Nat.le_of_ble_eq_true rfl, Nat.le_of_ble_eq_true rfl⟩ rfl hl.1 rfl (Nat.le_of_ble_eq_true rfl) dX11_make_250 ⟨Nat.zero_le _, Nat.zero_le _⟩ (fun H locs hP hS => ?_)
      refine lv_goto (tgt := 257) hx hb dX11_make_253 (by decide) ?_
      exact J257 (x1) (x6) (x7) (x8) (x9) (r136) _ _ _ _ _ hF (lv_sub hl [0, 1, 2, 3, 4, 5] rfl) hP hS
  have L173 : ∀ kf : Nat, ∀ (x1 : Int32) (x6 : Int32) (x7 : Int32) (x8 : Int32) (x9 : Int32) (x10 : Int32) (fi : FI) (ar : AR) (H : Heap) (locs : List Loc) (ls : Array Slot), M_make_173 nf kf x1 x6 x7 x8 x9 x10 fi ar = some (r, fi', ar') → lv_has ls 18 [(0, .ref (am 0)), (1, .int x1), (6, .int x6), (7, .int x7), (8, .int x8), (9, .int x9), (10, .int x10)] → va_P (gD g) vwCl (WM g am fi ar) H → va_S (AM am s.heap.size) s.heap H locs → W p l e (headSpec (wx yX11_make cX11_make 18 (some .int)) ({ frames := 10, cells := 0, slots := 0, locals := 229 } : Room)).room s m ([.ref (am 0), .int p1] : List Value).toArray below meth c H locs 0 0 (MQ below (QMi g am s.heap.size r fi' ar') ([.ref (am 0), .int p1] : List Value).toArray s 0 0 (AM am s.heap.size)) (F0 m 173 ls []) := by
    intro kf
    induction kf with
    | zero => intro x1 x6 x7 x8 x9 x10 fi ar H locs ls hF hl hP hS; cases (show (none : Option (Int32 × FI × AR)) = _ from hF)
    | succ kf ih173 =>
      intro x1 x6 x7 x8 x9 x10 fi ar H locs ls hF hl hP hS
      obtain ⟨K173, hK173⟩ : ∃ K : Int32 → Int32 → Int32 → Int32 → Int32 → Int32 → FI → AR → Option (Int32 × FI × AR), K = M_make_173 nf kf := ⟨_, rfl⟩
      replace hF : M_make_173b K173 nf x1 x6 x7 x8 x9 x10 fi ar = some (r, fi', ar') := by rw [hK173]; exact hF
      rw [← hK173] at ih173
      clear hK173
      have J219 : ∀ (x1 : Int32) (x6 : Int32) (x7 : Int32) (x8 : Int32) (x9 : Int32) (x10 : Int32) (fi : FI) (ar : AR) (H : Heap) (locs : List Loc) (ls : Array Slot), M_make_219 K173 nf x1 x6 x7 x8 x9 x10 fi ar = some (r, fi', ar') → lv_has ls 18 [(0, .ref (am 0)), (1, .int x1), (6, .int x6), (7, .int x7), (8, .int x8), (9, .int x9), (10, .int x10)] → va_P (gD g) vwCl (WM g am fi ar) H → va_S (AM am s.heap.size) s.heap H locs → W p l e (headSpec (wx yX11_make cX11_make 18 (some .int)) ({ frames := 10, cells := 0, slots := 0, locals := 229 } : Room)).room s m ([.ref (am 0), .int p1] : List Value).toArray below meth c H locs 0 0 (MQ below (QMi g am s.heap.size r fi' ar') ([.ref (am 0), .int p1] : List Value).toArray s 0 0 (AM am s.heap.size)) (F0 m 219 ls []) := by
        intro x1 x6 x7 x8 x9 x10 fi ar H locs ls hF hl hP hS
        unfold M_make_219 at hF
        obtain ⟨x10_137, ex10_137⟩ : ∃ y : Int32, y = (x10) + (1 : Int32) := ⟨_, rfl⟩
        replace hF := bnd_of hF ex10_137
        refine lv_iinc (v := x10_137) (lv' := [(10, .int (x10_137)), (0, .ref (am 0)), (1, .int (x1)), (6, .int (x6)), (7, .int (x7)), (8, .int (x8)), (9, .int (x9))]) hx hb dX11_make_219 hl (k := 6) rfl (by rw [ex10_137]; rfl) (by decide) rfl (fun ls hl => ?_)
        refine lv_goto (tgt := 173) hx hb dX11_make_222 (by decide) ?_
        exact ih173 (x1) (x6) (x7) (x8) (x9) (x10_137) _ _ _ _ _ hF (lv_sub hl [1, 2, 3, 4, 5, 6, 0] rfl) hP hS
      unfold M_make_173b at hF
      refine lv_iload hx hb dX11_make_173 (lv_at hl 6 rfl) ?_
      refine lv_iload hx hb dX11_make_175 (lv_at hl 3 rfl) ?_
      refine lv_icmp_ge (tgt := 225) hx hb dX11_make_177 (by decide) (fun hc138 => ?_) (fun hc138 => ?_)
      · replace hF := br_yes hF hc138
        exact J225 (x1) (x6) (x7) (x8) (x9) _ _ _ _ _ hF (lv_sub hl [0, 1, 2, 3, 4, 5] rfl) hP hS
      · replace hF := br_no hF hc138
        refine lv_iload hx hb dX11_make_180 (lv_at hl 6 rfl) ?_
        refine lv_iload hx hb dX11_make_182 (lv_at hl 5 rfl) ?_
        refine lv_isub hx hb dX11_make_184 ?_
        refine lv_iload hx hb dX11_make_185 (lv_at hl 2 rfl) ?_
        refine lv_icmp_ge (tgt := 225) hx hb dX11_make_187 (by decide) (fun hc139 => ?_) (fun hc139 => ?_)
        · replace hF := br_yes hF hc139
          exact J225 (x1) (x6) (x7) (x8) (x9) _ _ _ _ _ hF (lv_sub hl [0, 1, 2, 3, 4, 5] rfl) hP hS
        · replace hF := br_no hF hc139
          refine lv_iload hx hb dX11_make_190 (lv_at hl 6 rfl) ?_
          refine lv_iload hx hb dX11_make_192 (lv_at hl 4 rfl) ?_
          refine lv_icmp_ge (tgt := 219) hx hb dX11_make_194 (by decide) (fun hc140 => ?_) (fun hc140 => ?_)
          · replace hF := br_yes hF hc140
            exact J219 (x1) (x6) (x7) (x8) (x9) (x10) _ _ _ _ _ hF (lv_sub hl [0, 1, 2, 3, 4, 5, 6] rfl) hP hS
          · replace hF := br_no hF hc140
            refine lv_aload_n hx hb dX11_make_197 rfl (lv_at hl 0 rfl) ?_
            refine lv_aload_n hx hb dX11_make_198 rfl (lv_at hl 0 rfl) ?_
            refine lv_iload hx hb dX11_make_199 (lv_at hl 6 rfl) ?_
            replace hF := obnd3_of hF
            obtain ⟨r144, fi142, ar143, h141, hF⟩ := hF
            refine cM_i (As := [.int (x10)]) (rest := [.ref (am 0)]) hx hb hml hT hown hK hE hD hA hP hS (k_slotAt l g am _ nf fi ar (x10) r144 fi142 ar143 h141) cw_X11_slotAt mw32_21 ⟨⟨rfl, rfl⟩, Nat.le_of_ble_eq_true rfl, Nat.le_of_ble_eq_true rfl⟩ rfl hl.1 rfl (Nat.le_of_ble_eq_true rfl) dX11_make_201 ⟨Nat.zero_le _, Nat.zero_le _⟩ (fun H locs hP hS => ?_)
            replace hF := obnd3_of hF
            obtain ⟨r148, fi146, ar147, h145, hF⟩ := hF
            refine cM_i (As := [.int (r144)]) (rest := []) hx hb hml hT hown hK hE hD hA hP hS (k_one l g am _ nf fi142 ar143 (r144) r148 fi146 ar147 h145) cw_X11_one mw19_9 ⟨⟨rfl, rfl⟩, Nat.le_of_ble_eq_true rfl, Nat.le_of_ble_eq_true rfl⟩ rfl hl.1 rfl (Nat.le_of_ble_eq_true rfl) dX11_make_204 ⟨Nat.zero_le _, Nat.zero_le _⟩ (fun H locs hP hS => ?_)
            refine lv_sipush (v := (229 : Int32)) hx hb dX11_make_207 (by decide) ?_
            refine lv_icmp_eq (tgt := 219) hx hb dX11_make_210 (by decide) (fun hc149 => ?_) (fun hc149 => ?_)
            · replace hF := br_yes hF hc149
              exact J219 (x1) (x6) (x7) (x8) (x9) (x10) _ _ _ _ _ hF (lv_sub hl [0, 1, 2, 3, 4, 5, 6] rfl) hP hS
            · replace hF := br_no hF hc149
              refine lv_iload hx hb dX11_make_213 (lv_at hl 6 rfl) ?_
              refine lv_iconst (v := (1 : Int32)) hx hb dX11_make_215 (by decide) ?_
              refine lv_iadd hx hb dX11_make_216 ?_
              obtain ⟨x9_150, ex9_150⟩ : ∃ y : Int32, y = ((x10) + (1 : Int32)) := ⟨_, rfl⟩
              rw [← ex9_150]
              replace hF := bnd_of hF ex9_150
              refine lv_istore (lv' := [(9, .int (x9_150)), (0, .ref (am 0)), (1, .int (x1)), (6, .int (x6)), (7, .int (x7)), (8, .int (x8)), (10, .int (x10))]) hx hb dX11_make_217 hl (by decide) rfl (fun ls hl => ?_)
              exact J219 (x1) (x6) (x7) (x8) (x9_150) (x10) _ _ _ _ _ hF (lv_sub hl [1, 2, 3, 4, 5, 0, 6] rfl) hP hS
  have J167 : ∀ (x1 : Int32) (x6 : Int32) (x7 : Int32) (x8 : Int32) (fi : FI) (ar : AR) (H : Heap) (locs : List Loc) (ls : Array Slot), M_make_167 nf x1 x6 x7 x8 fi ar = some (r, fi', ar') → lv_has ls 18 [(0, .ref (am 0)), (1, .int x1), (6, .int x6), (7, .int x7), (8, .int x8)] → va_P (gD g) vwCl (WM g am fi ar) H → va_S (AM am s.heap.size) s.heap H locs → W p l e (headSpec (wx yX11_make cX11_make 18 (some .int)) ({ frames := 10, cells := 0, slots := 0, locals := 229 } : Room)).room s m ([.ref (am 0), .int p1] : List Value).toArray below meth c H locs 0 0 (MQ below (QMi g am s.heap.size r fi' ar') ([.ref (am 0), .int p1] : List Value).toArray s 0 0 (AM am s.heap.size)) (F0 m 167 ls []) := by
    intro x1 x6 x7 x8 fi ar H locs ls hF hl hP hS
    unfold M_make_167 at hF
    refine lv_iconst (v := (0 : Int32)) hx hb dX11_make_167 (by decide) ?_
    refine lv_istore (lv' := [(9, .int (0 : Int32)), (0, .ref (am 0)), (1, .int (x1)), (6, .int (x6)), (7, .int (x7)), (8, .int (x8))]) hx hb dX11_make_168 hl (by decide) rfl (fun ls hl => ?_)
    refine lv_iconst (v := (0 : Int32)) hx hb dX11_make_170 (by decide) ?_
    refine lv_istore (lv' := [(10, .int (0 : Int32)), (9, .int (0 : Int32)), (0, .ref (am 0)), (1, .int (x1)), (6, .int (x6)), (7, .int (x7)), (8, .int (x8))]) hx hb dX11_make_171 hl (by decide) rfl (fun ls hl => ?_)
    exact L173 nf (x1) (x6) (x7) (x8) (0 : Int32) (0 : Int32) _ _ _ _ _ hF (lv_sub hl [2, 3, 4, 5, 6, 1, 0] rfl) hP hS
  have L141 : ∀ kf : Nat, ∀ (x1 : Int32) (x6 : Int32) (x7 : Int32) (x8 : Int32) (fi : FI) (ar : AR) (H : Heap) (locs : List Loc) (ls : Array Slot), M_make_141 nf kf x1 x6 x7 x8 fi ar = some (r, fi', ar') → lv_has ls 18 [(0, .ref (am 0)), (1, .int x1), (6, .int x6), (7, .int x7), (8, .int x8)] → va_P (gD g) vwCl (WM g am fi ar) H → va_S (AM am s.heap.size) s.heap H locs → W p l e (headSpec (wx yX11_make cX11_make 18 (some .int)) ({ frames := 10, cells := 0, slots := 0, locals := 229 } : Room)).room s m ([.ref (am 0), .int p1] : List Value).toArray below meth c H locs 0 0 (MQ below (QMi g am s.heap.size r fi' ar') ([.ref (am 0), .int p1] : List Value).toArray s 0 0 (AM am s.heap.size)) (F0 m 141 ls []) := by
    intro kf
    induction kf with
    | zero => intro x1 x6 x7 x8 fi ar H locs ls hF hl hP hS; cases (show (none : Option (Int32 × FI × AR)) = _ from hF)
    | succ kf ih141 =>
      intro x1 x6 x7 x8 fi ar H locs ls hF hl hP hS
      obtain ⟨K141, hK141⟩ : ∃ K : Int32 → Int32 → Int32 → Int32 → FI → AR → Option (Int32 × FI × AR), K = M_make_141 nf kf := ⟨_, rfl⟩
      replace hF : M_make_141b K141 nf x1 x6 x7 x8 fi ar = some (r, fi', ar') := by rw [hK141]; exact hF
      rw [← hK141] at ih141
      clear hK141
      unfold M_make_141b at hF
      refine lv_iload hx hb dX11_make_141 (lv_at hl 4 rfl) ?_
      refine lv_iload hx hb dX11_make_143 (lv_at hl 3 rfl) ?_
      refine lv_icmp_ge (tgt := 167) hx hb dX11_make_145 (by decide) (fun hc151 => ?_) (fun hc151 => ?_)
      · replace hF := br_yes hF hc151
        exact J167 (x1) (x6) (x7) (x8) _ _ _ _ _ hF (lv_sub hl [0, 1, 2, 3, 4] rfl) hP hS
      · replace hF := br_no hF hc151
        refine lv_aload_n hx hb dX11_make_148 rfl (lv_at hl 0 rfl) ?_
        refine lv_aload_n hx hb dX11_make_149 rfl (lv_at hl 0 rfl) ?_
        refine lv_iload hx hb dX11_make_150 (lv_at hl 4 rfl) ?_
        replace hF := obnd3_of hF
        obtain ⟨r155, fi153, ar154, h152, hF⟩ := hF
        refine cM_i (As := [.int (x8)]) (rest := [.ref (am 0)]) hx hb hml hT hown hK hE hD hA hP hS (k_slotAt l g am _ nf fi ar (x8) r155 fi153 ar154 h152) cw_X11_slotAt mw32_21 ⟨⟨rfl, rfl⟩, Nat.le_of_ble_eq_true rfl, Nat.le_of_ble_eq_true rfl⟩ rfl hl.1 rfl (Nat.le_of_ble_eq_true rfl) dX11_make_152 ⟨Nat.zero_le _, Nat.zero_le _⟩ (fun H locs hP hS => ?_)
        replace hF := obnd3_of hF
        obtain ⟨r159, fi157, ar158, h156, hF⟩ := hF
        refine cM_i (As := [.int (r155)]) (rest := []) hx hb hml hT hown hK hE hD hA hP hS (k_one l g am _ nf fi153 ar154 (r155) r159 fi157 ar158 h156) cw_X11_one mw19_9 ⟨⟨rfl, rfl⟩, Nat.le_of_ble_eq_true rfl, Nat.le_of_ble_eq_true rfl⟩ rfl hl.1 rfl (Nat.le_of_ble_eq_true rfl) dX11_make_155 ⟨Nat.zero_le _, Nat.zero_le _⟩ (fun H locs hP hS => ?_)
        refine lv_if_eq (tgt := 167) hx hb dX11_make_158 (by decide) (fun hc160 => ?_) (fun hc160 => ?_)
        · replace hF := br_yes hF hc160
          exact J167 (x1) (x6) (x7) (x8) _ _ _ _ _ hF (lv_sub hl [0, 1, 2, 3, 4] rfl) hP hS
        · replace hF := br_no hF hc160
          obtain ⟨x8_161, ex8_161⟩ : ∃ y : Int32, y = (x8) + (1 : Int32) := ⟨_, rfl⟩
          replace hF := bnd_of hF ex8_161
          refine lv_iinc (v := x8_161) (lv' := [(8, .int (x8_161)), (0, .ref (am 0)), (1, .int (x1)), (6, .int (x6)), (7, .int (x7))]) hx hb dX11_make_161 hl (k := 4) rfl (by rw [ex8_161]; rfl) (by decide) rfl (fun ls hl => ?_)
          refine lv_goto (tgt := 141) hx hb dX11_make_164 (by decide) ?_
          exact ih141 (x1) (x6) (x7) (x8_161) _ _ _ _ _ hF (lv_sub hl [1, 2, 3, 4, 0] rfl) hP hS
  have J116 : ∀ (x1 : Int32) (x4 : Int32) (t0 : Int32) (fi : FI) (ar : AR) (H : Heap) (locs : List Loc) (ls : Array Slot), M_make_116 nf x1 x4 t0 fi ar = some (r, fi', ar') → lv_has ls 18 [(0, .ref (am 0)), (1, .int x1), (4, .int x4)] → va_P (gD g) vwCl (WM g am fi ar) H → va_S (AM am s.heap.size) s.heap H locs → W p l e (headSpec (wx yX11_make cX11_make 18 (some .int)) ({ frames := 10, cells := 0, slots := 0, locals := 229 } : Room)).room s m ([.ref (am 0), .int p1] : List Value).toArray below meth c H locs 0 0 (MQ below (QMi g am s.heap.size r fi' ar') ([.ref (am 0), .int p1] : List Value).toArray s 0 0 (AM am s.heap.size)) (F0 m 116 ls [.int t0]) := by
    intro x1 x4 t0 fi ar H locs ls hF hl hP hS
    unfold M_make_116 at hF
    refine lv_istore (lv' := [(6, .int (t0)), (0, .ref (am 0)), (1, .int (x1)), (4, .int (x4))]) hx hb dX11_make_116 hl (by decide) rfl (fun ls hl => ?_)
    refine lv_aload_n hx hb dX11_make_118 rfl (lv_at hl 1 rfl) ?_
    refine lv_iload hx hb dX11_make_119 (lv_at hl 3 rfl) ?_
    replace hF := obnd3_of hF
    obtain ⟨r165, fi163, ar164, h162, hF⟩ := hF
    refine cM_v (As := [.int (x4)]) (rest := []) hx hb hml hT hown hK hE hD hA hP hS (k_loadFolder l g am _ nf fi ar (x4) r165 fi163 ar164 h162) cw_X11_loadFolder mw50_0 ⟨⟨rfl, rfl⟩, Nat.le_of_ble_eq_true rfl, Nat.le_of_ble_eq_true rfl⟩ rfl hl.1 rfl (Nat.le_of_ble_eq_true rfl) dX11_make_121 ⟨Nat.zero_le _, Nat.zero_le _⟩ (fun H locs hP hS => ?_)
    refine lv_aload_n hx hb dX11_make_124 rfl (lv_at hl 1 rfl) ?_
    refine mg_32 hx hb hT hown hK hP mw32_6 dX11_make_125 ?_
    refine lv_bipush (v := (16 : Int32)) hx hb dX11_make_128 (by decide) ?_
    refine lv_imul hx hb dX11_make_130 ?_
    refine lv_aload_n hx hb dX11_make_131 rfl (lv_at hl 1 rfl) ?_
    refine mg_7 hx hb hT hown hK hP mw19_2 dX11_make_132 ?_
    refine lv_imul hx hb dX11_make_135 ?_
    obtain ⟨x7_166, ex7_166⟩ : ∃ y : Int32, y = (((fi163 32) * (16 : Int32)) * (fi163 7)) := ⟨_, rfl⟩
    rw [← ex7_166]
    replace hF := bnd_of hF ex7_166
    refine lv_istore (lv' := [(7, .int (x7_166)), (6, .int (t0)), (0, .ref (am 0)), (1, .int (x1)), (4, .int (x4))]) hx hb dX11_make_136 hl (by decide) rfl (fun ls hl => ?_)
    refine lv_iconst (v := (0 : Int32)) hx hb dX11_make_138 (by decide) ?_
    refine lv_istore (lv' := [(8, .int (0 : Int32)), (7, .int (x7_166)), (6, .int (t0)), (0, .ref (am 0)), (1, .int (x1)), (4, .int (x4))]) hx hb dX11_make_139 hl (by decide) rfl (fun ls hl => ?_)
    exact L141 nf (x1) (t0) (x7_166) (0 : Int32) _ _ _ _ _ hF (lv_sub hl [3, 4, 2, 1, 0] rfl) hP hS
  have J96 : ∀ (x1 : Int32) (x4 : Int32) (x5 : Int32) (fi : FI) (ar : AR) (H : Heap) (locs : List Loc) (ls : Array Slot), M_make_96 nf x1 x4 x5 fi ar = some (r, fi', ar') → lv_has ls 18 [(0, .ref (am 0)), (1, .int x1), (4, .int x4), (5, .int x5)] → va_P (gD g) vwCl (WM g am fi ar) H → va_S (AM am s.heap.size) s.heap H locs → W p l e (headSpec (wx yX11_make cX11_make 18 (some .int)) ({ frames := 10, cells := 0, slots := 0, locals := 229 } : Room)).room s m ([.ref (am 0), .int p1] : List Value).toArray below meth c H locs 0 0 (MQ below (QMi g am s.heap.size r fi' ar') ([.ref (am 0), .int p1] : List Value).toArray s 0 0 (AM am s.heap.size)) (F0 m 96 ls []) := by
    intro x1 x4 x5 fi ar H locs ls hF hl hP hS
    unfold M_make_96 at hF
    refine lv_iload hx hb dX11_make_96 (lv_at hl 3 rfl) ?_
    refine lv_if_eq (tgt := 105) hx hb dX11_make_98 (by decide) (fun hc167 => ?_) (fun hc167 => ?_)
    · replace hF := br_yes hF hc167
      refine lv_iconst (v := (1 : Int32)) hx hb dX11_make_105 (by decide) ?_
      refine lv_aload_n hx hb dX11_make_106 rfl (lv_at hl 0 rfl) ?_
      refine mg_35 hx hb hT hown hK hP mw33_9 dX11_make_107 ?_
      refine lv_bipush (v := (13 : Int32)) hx hb dX11_make_110 (by decide) ?_
      replace hF := obnd_of hF
      obtain ⟨r169, h168, hF⟩ := hF
      refine cS_i (As := [.int (fi 35), .int (13 : Int32)]) (rest := [.int (1 : Int32)]) hx hb hml hT hown hE hP hS (k_whole l g nf (fi 35) (13 : Int32) r169 h168) cw_X11_whole mw35_0 ⟨⟨rfl, rfl⟩, Nat.le_of_ble_eq_true rfl, Nat.le_of_ble_eq_true rfl⟩ rfl hl.1 rfl (Nat.le_of_ble_eq_true rfl) dX11_make_112 ⟨Nat.zero_le _, Nat.zero_le _⟩ (fun H locs hP hS => ?_)
      refine lv_iadd hx hb dX11_make_115 ?_
      exact J116 (x1) (x4) ((1 : Int32) + (r169)) _ _ _ _ _ hF (lv_sub hl [0, 1, 2] rfl) hP hS
    · replace hF := br_no hF hc167
      refine lv_iconst (v := (1 : Int32)) hx hb dX11_make_101 (by decide) ?_
      refine lv_goto (tgt := 116) hx hb dX11_make_102 (by decide) ?_
      exact J116 (x1) (x4) (1 : Int32) _ _ _ _ _ hF (lv_sub hl [0, 1, 2] rfl) hP hS
  have J76 : ∀ (x1 : Int32) (x4 : Int32) (x5 : Int32) (t1 : Int32) (fi : FI) (ar : AR) (H : Heap) (locs : List Loc) (ls : Array Slot), M_make_76 nf x1 x4 x5 t1 fi ar = some (r, fi', ar') → lv_has ls 18 [(0, .ref (am 0)), (1, .int x1), (4, .int x4), (5, .int x5)] → va_P (gD g) vwCl (WM g am fi ar) H → va_S (AM am s.heap.size) s.heap H locs → W p l e (headSpec (wx yX11_make cX11_make 18 (some .int)) ({ frames := 10, cells := 0, slots := 0, locals := 229 } : Room)).room s m ([.ref (am 0), .int p1] : List Value).toArray below meth c H locs 0 0 (MQ below (QMi g am s.heap.size r fi' ar') ([.ref (am 0), .int p1] : List Value).toArray s 0 0 (AM am s.heap.size)) (F0 m 76 ls [.int t1, .ref (am 0)]) := by
    intro x1 x4 x5 t1 fi ar H locs ls hF hl hP hS
    unfold M_make_76 at hF
    refine lv_iconst (v := (2 : Int32)) hx hb dX11_make_76 (by decide) ?_
    replace hF := obnd3_of hF
    obtain ⟨r173, fi171, ar172, h170, hF⟩ := hF
    refine cM_i (As := [.int (t1), .int (2 : Int32)]) (rest := []) hx hb hml hT hown hK hE hD hA hP hS (k_fails l g am _ nf fi ar (t1) (2 : Int32) r173 fi171 ar172 h170) cw_X11_fails mw18_14 ⟨⟨rfl, rfl⟩, Nat.le_of_ble_eq_true rfl, Nat.le_of_ble_eq_true rfl⟩ rfl hl.1 rfl (Nat.le_of_ble_eq_true rfl) dX11_make_77 ⟨Nat.zero_le _, Nat.zero_le _⟩ (fun H locs hP hS => ?_)
    refine lv_if_eq (tgt := 85) hx hb dX11_make_80 (by decide) (fun hc174 => ?_) (fun hc174 => ?_)
    · replace hF := br_yes hF hc174
      refine lv_iload hx hb dX11_make_85 (lv_at hl 3 rfl) ?_
      refine lv_if_ne (tgt := 96) hx hb dX11_make_87 (by decide) (fun hc175 => ?_) (fun hc175 => ?_)
      · replace hF := br_no hF hc175
        exact J96 (x1) (x4) (x5) _ _ _ _ _ hF (lv_sub hl [0, 1, 2, 3] rfl) hP hS
      · replace hF := br_yes hF hc175
        refine lv_aload_n hx hb dX11_make_90 rfl (lv_at hl 0 rfl) ?_
        refine lv_iload hx hb dX11_make_91 (lv_at hl 2 rfl) ?_
        replace hF := obnd3_of hF
        obtain ⟨r179, fi177, ar178, h176, hF⟩ := hF
        refine cM_v (As := [.int (x4)]) (rest := []) hx hb hml hT hown hK hE hD hA hP hS (k_shorten l g am _ nf fi171 ar172 (x4) r179 fi177 ar178 h176) cw_X11_shorten mw49_17 ⟨⟨rfl, rfl⟩, Nat.le_of_ble_eq_true rfl, Nat.le_of_ble_eq_true rfl⟩ rfl hl.1 rfl (Nat.le_of_ble_eq_true rfl) dX11_make_93 ⟨Nat.zero_le _, Nat.zero_le _⟩ (fun H locs hP hS => ?_)
        exact J96 (x1) (x4) (x5) _ _ _ _ _ hF (lv_sub hl [0, 1, 2, 3] rfl) hP hS
    · replace hF := br_no hF hc174
      refine lv_iconst (v := (0 : Int32)) hx hb dX11_make_83 (by decide) ?_
      exact rM_i hx hb hr hlocks hF hP hS dX11_make_84
  have J75 : ∀ (x1 : Int32) (x4 : Int32) (x5 : Int32) (fi : FI) (ar : AR) (H : Heap) (locs : List Loc) (ls : Array Slot), M_make_75 nf x1 x4 x5 fi ar = some (r, fi', ar') → lv_has ls 18 [(0, .ref (am 0)), (1, .int x1), (4, .int x4), (5, .int x5)] → va_P (gD g) vwCl (WM g am fi ar) H → va_S (AM am s.heap.size) s.heap H locs → W p l e (headSpec (wx yX11_make cX11_make 18 (some .int)) ({ frames := 10, cells := 0, slots := 0, locals := 229 } : Room)).room s m ([.ref (am 0), .int p1] : List Value).toArray below meth c H locs 0 0 (MQ below (QMi g am s.heap.size r fi' ar') ([.ref (am 0), .int p1] : List Value).toArray s 0 0 (AM am s.heap.size)) (F0 m 75 ls [.ref (am 0)]) := by
    intro x1 x4 x5 fi ar H locs ls hF hl hP hS
    unfold M_make_75 at hF
    refine lv_iconst (v := (0 : Int32)) hx hb dX11_make_75 (by decide) ?_
    exact J76 (x1) (x4) (x5) (0 : Int32) _ _ _ _ _ hF (lv_sub hl [0, 1, 2, 3] rfl) hP hS
  have J42 : ∀  (fi : FI) (ar : AR) (H : Heap) (locs : List Loc) (ls : Array Slot), M_make_42 nf fi ar = some (r, fi', ar') → lv_has ls 18 [(0, .ref (am 0))] → va_P (gD g) vwCl (WM g am fi ar) H → va_S (AM am s.heap.size) s.heap H locs → W p l e (headSpec (wx yX11_make cX11_make 18 (some .int)) ({ frames := 10, cells := 0, slots := 0, locals := 229 } : Room)).room s m ([.ref (am 0), .int p1] : List Value).toArray below meth c H locs 0 0 (MQ below (QMi g am s.heap.size r fi' ar') ([.ref (am 0), .int p1] : List Value).toArray s 0 0 (AM am s.heap.size)) (F0 m 42 ls []) := by
    intro fi ar H locs ls hF hl hP hS
    unfold M_make_42 at hF
    refine lv_iconst (v := (0 : Int32)) hx hb dX11_make_42 (by decide) ?_
    exact rM_i hx hb hr hlocks hF hP hS dX11_make_43
  have J35 : ∀ (x1 : Int32) (t1 : Int32) (fi : FI) (ar : AR) (H : Heap) (locs : List Loc) (ls : Array Slot), M_make_35 nf x1 t1 fi ar = some (r, fi', ar') → lv_has ls 18 [(0, .ref (am 0)), (1, .int x1)] → va_P (gD g) vwCl (WM g am fi ar) H → va_S (AM am s.heap.size) s.heap H locs → W p l e (headSpec (wx yX11_make cX11_make 18 (some .int)) ({ frames := 10, cells := 0, slots := 0, locals := 229 } : Room)).room s m ([.ref (am 0), .int p1] : List Value).toArray below meth c H locs 0 0 (MQ below (QMi g am s.heap.size r fi' ar') ([.ref (am 0), .int p1] : List Value).toArray s 0 0 (AM am s.heap.size)) (F0 m 35 ls [.int t1, .ref (am 0)]) := by
    intro x1 t1 fi ar H locs ls hF hl hP hS
    unfold M_make_35 at hF
    refine lv_iconst (v := (2 : Int32)) hx hb dX11_make_35 (by decide) ?_
    replace hF := obnd3_of hF
    obtain ⟨r183, fi181, ar182, h180, hF⟩ := hF
    refine cM_i (As := [.int (t1), .int (2 : Int32)]) (rest := []) hx hb hml hT hown hK hE hD hA hP hS (k_fails l g am _ nf fi ar (t1) (2 : Int32) r183 fi181 ar182 h180) cw_X11_fails mw18_14 ⟨⟨rfl, rfl⟩, Nat.le_of_ble_eq_true rfl, Nat.le_of_ble_eq_true rfl⟩ rfl hl.1 rfl (Nat.le_of_ble_eq_true rfl) dX11_make_36 ⟨Nat.zero_le _, Nat.zero_le _⟩ (fun H locs hP hS => ?_)
    refine lv_if_eq (tgt := 44) hx hb dX11_make_39 (by decide) (fun hc184 => ?_) (fun hc184 => ?_)
    · replace hF := br_yes hF hc184
      refine lv_aload_n hx hb dX11_make_44 rfl (lv_at hl 0 rfl) ?_
      replace hF := obnd3_of hF
      obtain ⟨r188, fi186, ar187, h185, hF⟩ := hF
      refine cM_i (As := []) (rest := []) hx hb hml hT hown hK hE hD hA hP hS (k_folderHere l g am _ nf fi181 ar182 r188 fi186 ar187 h185) cw_X11_folderHere mw38_18 ⟨⟨rfl, rfl⟩, Nat.le_of_ble_eq_true rfl, Nat.le_of_ble_eq_true rfl⟩ rfl hl.1 rfl (Nat.le_of_ble_eq_true rfl) dX11_make_45 ⟨Nat.zero_le _, Nat.zero_le _⟩ (fun H locs hP hS => ?_)
      refine lv_istore (lv' := [(4, .int (r188)), (0, .ref (am 0)), (1, .int (x1))]) hx hb dX11_make_48 hl (by decide) rfl (fun ls hl => ?_)
      refine lv_aload_n hx hb dX11_make_50 rfl (lv_at hl 1 rfl) ?_
      replace hF := obnd3_of hF
      obtain ⟨r192, fi190, ar191, h189, hF⟩ := hF
      refine cM_i (As := []) (rest := []) hx hb hml hT hown hK hE hD hA hP hS (k_isBrief l g am _ nf fi186 ar187 r192 fi190 ar191 h189) cw_X11_isBrief mw49_9 ⟨⟨rfl, rfl⟩, Nat.le_of_ble_eq_true rfl, Nat.le_of_ble_eq_true rfl⟩ rfl hl.1 rfl (Nat.le_of_ble_eq_true rfl) dX11_make_51 ⟨Nat.zero_le _, Nat.zero_le _⟩ (fun H locs hP hS => ?_)
      refine lv_istore (lv' := [(5, .int (r192)), (4, .int (r188)), (0, .ref (am 0)), (1, .int (x1))]) hx hb dX11_make_54 hl (by decide) rfl (fun ls hl => ?_)
      refine lv_aload_n hx hb dX11_make_56 rfl (lv_at hl 2 rfl) ?_
      refine lv_iload hx hb dX11_make_57 (lv_at hl 0 rfl) ?_
      refine lv_if_eq (tgt := 75) hx hb dX11_make_59 (by decide) (fun hc193 => ?_) (fun hc193 => ?_)
      · replace hF := br_yes hF hc193
        exact J75 (x1) (r188) (r192) _ _ _ _ _ hF (lv_sub hl [2, 3, 1, 0] rfl) hP hS
      · replace hF := br_no hF hc193
        refine lv_aload_n hx hb dX11_make_62 rfl (lv_at hl 2 rfl) ?_
        refine lv_iload hx hb dX11_make_63 (lv_at hl 1 rfl) ?_
        replace hF := obnd3_of hF
        obtain ⟨r197, fi195, ar196, h194, hF⟩ := hF
        refine cM_i (As := [.int (r188)]) (rest := [.ref (am 0)]) hx hb hml hT hown hK hE hD hA hP hS (k_isBriefTaken l g am _ nf fi190 ar191 (r188) r197 fi195 ar196 h194) cw_X11_isBriefTaken mw49_13 ⟨⟨rfl, rfl⟩, Nat.le_of_ble_eq_true rfl, Nat.le_of_ble_eq_true rfl⟩ rfl hl.1 rfl (Nat.le_of_ble_eq_true rfl) dX11_make_65 ⟨Nat.zero_le _, Nat.zero_le _⟩ (fun H locs hP hS => ?_)
        refine lv_if_eq (tgt := 75) hx hb dX11_make_68 (by decide) (fun hc198 => ?_) (fun hc198 => ?_)
        · replace hF := br_yes hF hc198
          exact J75 (x1) (r188) (r192) _ _ _ _ _ hF (lv_sub hl [2, 3, 1, 0] rfl) hP hS
        · replace hF := br_no hF hc198
          refine lv_iconst (v := (1 : Int32)) hx hb dX11_make_71 (by decide) ?_
          refine lv_goto (tgt := 76) hx hb dX11_make_72 (by decide) ?_
          exact J76 (x1) (r188) (r192) (1 : Int32) _ _ _ _ _ hF (lv_sub hl [2, 3, 1, 0] rfl) hP hS
    · replace hF := br_no hF hc184
      exact J42  _ _ _ _ _ hF (lv_sub hl [0] rfl) hP hS
  have J30 : ∀ (x1 : Int32) (fi : FI) (ar : AR) (H : Heap) (locs : List Loc) (ls : Array Slot), M_make_30 nf x1 fi ar = some (r, fi', ar') → lv_has ls 18 [(0, .ref (am 0)), (1, .int x1)] → va_P (gD g) vwCl (WM g am fi ar) H → va_S (AM am s.heap.size) s.heap H locs → W p l e (headSpec (wx yX11_make cX11_make 18 (some .int)) ({ frames := 10, cells := 0, slots := 0, locals := 229 } : Room)).room s m ([.ref (am 0), .int p1] : List Value).toArray below meth c H locs 0 0 (MQ below (QMi g am s.heap.size r fi' ar') ([.ref (am 0), .int p1] : List Value).toArray s 0 0 (AM am s.heap.size)) (F0 m 30 ls [.ref (am 0)]) := by
    intro x1 fi ar H locs ls hF hl hP hS
    unfold M_make_30 at hF
    refine lv_iconst (v := (1 : Int32)) hx hb dX11_make_30 (by decide) ?_
    refine lv_goto (tgt := 35) hx hb dX11_make_31 (by decide) ?_
    exact J35 (x1) (1 : Int32) _ _ _ _ _ hF (lv_sub hl [0, 1] rfl) hP hS
  replace hl := lv_sub hl [0, 1] rfl
  refine lv_aload_n hx hb dX11_make_0 rfl (lv_at hl 0 rfl) ?_
  replace hF := obnd3_of hF
  obtain ⟨r202, fi200, ar201, h199, hF⟩ := hF
  refine cM_i (As := []) (rest := []) hx hb hml hT hown hK hE hD hA hP hS (k_none l g am _ nf fi ar r202 fi200 ar201 h199) cw_X11_none mw38_10 ⟨⟨rfl, rfl⟩, Nat.le_of_ble_eq_true rfl, Nat.le_of_ble_eq_true rfl⟩ rfl hl.1 rfl (Nat.le_of_ble_eq_true rfl) dX11_make_1 ⟨Nat.zero_le _, Nat.zero_le _⟩ (fun H locs hP hS => ?_)
  refine lv_istore_n (lv' := [(2, .int (r202)), (0, .ref (am 0)), (1, .int (p1))]) hx hb dX11_make_4 rfl hl (by decide) rfl (fun ls hl => ?_)
  refine lv_aload_n hx hb dX11_make_5 rfl (lv_at hl 1 rfl) ?_
  replace hF := obnd3_of hF
  obtain ⟨r206, fi204, ar205, h203, hF⟩ := hF
  refine cM_i (As := []) (rest := []) hx hb hml hT hown hK hE hD hA hP hS (k_named l g am _ nf fi200 ar201 r206 fi204 ar205 h203) cw_X11_named mw49_5 ⟨⟨rfl, rfl⟩, Nat.le_of_ble_eq_true rfl, Nat.le_of_ble_eq_true rfl⟩ rfl hl.1 rfl (Nat.le_of_ble_eq_true rfl) dX11_make_6 ⟨Nat.zero_le _, Nat.zero_le _⟩ (fun H locs hP hS => ?_)
  refine lv_istore_n (lv' := [(3, .int (r206)), (2, .int (r202)), (0, .ref (am 0)), (1, .int (p1))]) hx hb dX11_make_9 rfl hl (by decide) rfl (fun ls hl => ?_)
  refine lv_iload_n hx hb dX11_make_10 rfl (lv_at hl 1 rfl) ?_
  refine lv_if_ne (tgt := 42) hx hb dX11_make_11 (by decide) (fun hc207 => ?_) (fun hc207 => ?_)
  · replace hF := br_no hF hc207
    exact J42  _ _ _ _ _ hF (lv_sub hl [2] rfl) hP hS
  · replace hF := br_yes hF hc207
    refine lv_aload_n hx hb dX11_make_14 rfl (lv_at hl 2 rfl) ?_
    refine lv_iload_n hx hb dX11_make_15 rfl (lv_at hl 0 rfl) ?_
    refine lv_if_eq (tgt := 30) hx hb dX11_make_16 (by decide) (fun hc208 => ?_) (fun hc208 => ?_)
    · replace hF := br_yes hF hc208
      exact J30 (p1) _ _ _ _ _ hF (lv_sub hl [2, 3] rfl) hP hS
    · replace hF := br_no hF hc208
      refine lv_aload_n hx hb dX11_make_19 rfl (lv_at hl 2 rfl) ?_
      refine lv_aload_n hx hb dX11_make_20 rfl (lv_at hl 2 rfl) ?_
      replace hF := obnd3_of hF
      obtain ⟨r212, fi210, ar211, h209, hF⟩ := hF
      refine cM_i (As := []) (rest := [.ref (am 0), .ref (am 0)]) hx hb hml hT hown hK hE hD hA hP hS (k_folderHere l g am _ nf fi204 ar205 r212 fi210 ar211 h209) cw_X11_folderHere mw38_18 ⟨⟨rfl, rfl⟩, Nat.le_of_ble_eq_true rfl, Nat.le_of_ble_eq_true rfl⟩ rfl hl.1 rfl (Nat.le_of_ble_eq_true rfl) dX11_make_21 ⟨Nat.zero_le _, Nat.zero_le _⟩ (fun H locs hP hS => ?_)
      replace hF := obnd3_of hF
      obtain ⟨r216, fi214, ar215, h213, hF⟩ := hF
      refine cM_i (As := [.int (r212)]) (rest := [.ref (am 0)]) hx hb hml hT hown hK hE hD hA hP hS (k_isTaken l g am _ nf fi210 ar211 (r212) r216 fi214 ar215 h213) cw_X11_isTaken mw35_14 ⟨⟨rfl, rfl⟩, Nat.le_of_ble_eq_true rfl, Nat.le_of_ble_eq_true rfl⟩ rfl hl.1 rfl (Nat.le_of_ble_eq_true rfl) dX11_make_24 ⟨Nat.zero_le _, Nat.zero_le _⟩ (fun H locs hP hS => ?_)
      refine lv_if_eq (tgt := 34) hx hb dX11_make_27 (by decide) (fun hc217 => ?_) (fun hc217 => ?_)
      · replace hF := br_yes hF hc217
        refine lv_iconst (v := (0 : Int32)) hx hb dX11_make_34 (by decide) ?_
        exact J35 (p1) (0 : Int32) _ _ _ _ _ hF (lv_sub hl [2, 3] rfl) hP hS
      · replace hF := br_no hF hc217
        exact J30 (p1) _ _ _ _ _ hF (lv_sub hl [2, 3] rfl) hP hS
theorem cw_X11_make : (Cond.instanceMethod yX11_make ∈ TB ∧ Cond.selects RX11 yX11_make yX11_make ∈ TB ∧ Cond.code yX11_make cX11_make 18 (some .int) ∈ TB) ∧ (yX11_make.cls = RX11 ∧ yX11_make.cls ≠ "java/lang/invoke/MethodHandle" ∧ yX11_make.cls ≠ "java/lang/invoke/VarHandle" ∧ (parseMethodDescriptor yX11_make.desc).map (fun d => d.parameters.length) = some 1) := ⟨⟨mw48_23, mw49_0, mw49_1⟩, by decide +kernel⟩
