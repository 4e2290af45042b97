/-! X11_isName -/
noncomputable def M_isName_144 (nf : Nat) (t0 : Int32) (fi : FI) (ar : AR) : Option (Int32 × FI × AR) :=
  gd ((t0) &&& 1 = (t0)) (some ((t0), fi, ar))
noncomputable def M_isName_143 (nf : Nat)  (fi : FI) (ar : AR) : Option (Int32 × FI × AR) :=
  M_isName_144 nf  (0 : Int32) fi ar
noncomputable def M_isName_103 (nf : Nat) (x1 : Int32) (fi : FI) (ar : AR) : Option (Int32 × FI × AR) :=
  br ((x1) = 0) (M_isName_143 nf  fi ar) (gd (¬ (((fi 35) - (1 : Int32)) < 0 ∨ 300 ≤ ((fi 35) - (1 : Int32)).toNatClampNeg)) (br ((ar 34 ((fi 35) - (1 : Int32)).toNatClampNeg) = (32 : Int32)) (M_isName_143 nf  fi ar) (gd (¬ (((fi 35) - (1 : Int32)) < 0 ∨ 300 ≤ ((fi 35) - (1 : Int32)).toNatClampNeg)) (br ((ar 34 ((fi 35) - (1 : Int32)).toNatClampNeg) = (46 : Int32)) (M_isName_143 nf  fi ar) (M_isName_144 nf  (1 : Int32) fi ar)))))
noncomputable def M_isName_96 (K26 : Int32 → Int32 → FI → AR → Option (Int32 × FI × AR)) (nf : Nat) (x2 : Int32) (t0 : Int32) (fi : FI) (ar : AR) : Option (Int32 × FI × AR) :=
  bnd ((x2) + (1 : Int32)) fun x2_7 => K26 (t0) (x2_7) fi ar
noncomputable def M_isName_95 (K26 : Int32 → Int32 → FI → AR → Option (Int32 × FI × AR)) (nf : Nat) (x2 : Int32) (fi : FI) (ar : AR) : Option (Int32 × FI × AR) :=
  M_isName_96 K26 nf  (x2) (0 : Int32) fi ar
noncomputable def M_isName_91 (K26 : Int32 → Int32 → FI → AR → Option (Int32 × FI × AR)) (nf : Nat) (x2 : Int32) (fi : FI) (ar : AR) : Option (Int32 × FI × AR) :=
  M_isName_96 K26 nf  (x2) (1 : Int32) fi ar
noncomputable def M_isName_69 (K26 : Int32 → Int32 → FI → AR → Option (Int32 × FI × AR)) (nf : Nat) (x2 : Int32) (x3 : Int32) (fi : FI) (ar : AR) : Option (Int32 × FI × AR) :=
  br ((65533 : Int32) < (x3)) (M_isName_95 K26 nf  (x2) fi ar) (br ((127 : Int32) < (x3)) (M_isName_91 K26 nf  (x2) fi ar) (obnd (FJ0_indexOf_0f7a4 nf 1 (((x3).toUInt32 % 65536).toInt32)) fun r11 => br (0 ≤ (r11)) (M_isName_95 K26 nf  (x2) fi ar) (M_isName_91 K26 nf  (x2) fi ar)))
noncomputable def M_isName_26b (K26 : Int32 → Int32 → FI → AR → Option (Int32 × FI × AR)) (nf : Nat) (x1 : Int32) (x2 : Int32) (fi : FI) (ar : AR) : Option (Int32 × FI × AR) :=
  br ((fi 35) ≤ (x2)) (M_isName_103 nf  (x1) fi ar) (br ((x1) = 0) (M_isName_103 nf  (x1) fi ar) (gd (¬ ((x2) < 0 ∨ 300 ≤ (x2).toNatClampNeg)) (bnd (ar 34 (x2).toNatClampNeg) fun x3_16 => br ((x3_16) < (32 : Int32)) (M_isName_95 K26 nf  (x2) fi ar) (br ((x3_16) = (127 : Int32)) (M_isName_95 K26 nf  (x2) fi ar) (br ((x3_16) < (55296 : Int32)) (M_isName_69 K26 nf  (x2) (x3_16) fi ar) (br ((x3_16) ≤ (57343 : Int32)) (M_isName_95 K26 nf  (x2) fi ar) (M_isName_69 K26 nf  (x2) (x3_16) fi ar)))))))
noncomputable def M_isName_26 (nf : Nat) (kf : Nat) : Int32 → Int32 → FI → AR → Option (Int32 × FI × AR) := Nat.rec (fun _ _ _ _ => none) (fun _ K26 => M_isName_26b K26 nf) kf
noncomputable def M_isName_23 (nf : Nat) (t0 : Int32) (fi : FI) (ar : AR) : Option (Int32 × FI × AR) :=
  M_isName_26 nf nf (t0) (0 : Int32) fi ar
noncomputable def M_isName_22 (nf : Nat)  (fi : FI) (ar : AR) : Option (Int32 × FI × AR) :=
  M_isName_23 nf  (0 : Int32) fi ar
noncomputable def M_isName (nf : Nat) (fi : FI) (ar : AR)  : Option (Int32 × FI × AR) :=
  br ((fi 35) < (1 : Int32)) (M_isName_22 nf  fi ar) (br ((255 : Int32) < (fi 35)) (M_isName_22 nf  fi ar) (M_isName_23 nf  (1 : Int32) fi ar))
set_option maxHeartbeats 4000000 in
set_option maxRecDepth 100000 in
theorem k_isName (l : Launch) (g : GT) (am : Nat → Nat) (sz : Nat) (nf : Nat) (fi : FI) (ar : AR)  (r : Int32) (fi' : FI) (ar' : AR) (hF : M_isName nf fi ar  = some (r, fi', ar')) : Met l yX11_isName (wx yX11_isName cX11_isName 4 (some .boolean)) ({ frames := 4, cells := 0, slots := 0, locals := 91 } : Room) (va_Pc [.ref (am 0)] (PM g am sz fi ar)) (QMi g am sz r fi' ar') 0 0 (AM am sz) := by
  refine Met.ofW (cc := cX11_isName) (maxL := 4) (ret := (some .boolean)) (by decide) rfl ?_
  intro p e s m args below meth c s₁ B hml hv
  obtain ⟨rfl, hsz, hP, hK, hD0, hE⟩ := hv
  have hx := B.exec
  have hb := B.bytes
  have hr := B.returns
  have hts := atoms_spec (ws := (wx yX11_isName cX11_isName 4 (some .boolean))) B.pre
  have hT : ∀ w ∈ TB, w.before _ s = true := fun w h => hts w (List.mem_cons_of_mem _ h)
  have hown : s.vm.findClass RX11 = some m.cls := findClass_of_methodNamed B.named
  have hlocks := B.notSynchronized
  subst hsz
  have hD := dM hD0 s.heap.size
  have hA : ∀ q : Nat, s.heap.size ≤ q → AM am s.heap.size q := fun q h => Or.inr h
  have hS : va_S (AM am s.heap.size) s.heap s.heap [] := va_S.rf
  have hl := lv_entry ([.ref (am 0)]) (n := 4) (Nat.le_of_ble_eq_true rfl)
  rw [lg_entry_eq]
  generalize (lg_sl ([.ref (am 0)]) ++ List.replicate (4 - (lg_sl ([.ref (am 0)])).length) Slot.unset).toArray = ls at hl ⊢
  have hl : lv_has ls 4 [(0, .ref (am 0))] := hl
  unfold M_isName at hF
  have J144 : ∀ (t0 : Int32) (fi : FI) (ar : AR) (H : Heap) (locs : List Loc) (ls : Array Slot), M_isName_144 nf t0 fi ar = some (r, fi', ar') → lv_has ls 4 [(0, .ref (am 0))] → va_P (gD g) vwCl (WM g am fi ar) H → va_S (AM am s.heap.size) s.heap H locs → W p l e (headSpec (wx yX11_isName cX11_isName 4 (some .boolean)) ({ frames := 4, cells := 0, slots := 0, locals := 91 } : Room)).room s m ([.ref (am 0)] : List Value).toArray below meth c H locs 0 0 (MQ below (QMi g am s.heap.size r fi' ar') ([.ref (am 0)] : List Value).toArray s 0 0 (AM am s.heap.size)) (F0 m 144 ls [.int t0]) := by
    intro t0 fi ar H locs ls hF hl hP hS
    unfold M_isName_144 at hF
    replace hF := gd_of hF
    obtain ⟨hz1, hF⟩ := hF
    exact rM_z hx hb hr hlocks (nar_z hz1) hF hP hS dX11_isName_144
  have J143 : ∀  (fi : FI) (ar : AR) (H : Heap) (locs : List Loc) (ls : Array Slot), M_isName_143 nf fi ar = some (r, fi', ar') → lv_has ls 4 [(0, .ref (am 0))] → va_P (gD g) vwCl (WM g am fi ar) H → va_S (AM am s.heap.size) s.heap H locs → W p l e (headSpec (wx yX11_isName cX11_isName 4 (some .boolean)) ({ frames := 4, cells := 0, slots := 0, locals := 91 } : Room)).room s m ([.ref (am 0)] : List Value).toArray below meth c H locs 0 0 (MQ below (QMi g am s.heap.size r fi' ar') ([.ref (am 0)] : List Value).toArray s 0 0 (AM am s.heap.size)) (F0 m 143 ls []) := by
    intro fi ar H locs ls hF hl hP hS
    unfold M_isName_143 at hF
    refine lv_iconst (v := (0 : Int32)) hx hb dX11_isName_143 (by decide) ?_
    exact J144 (0 : Int32) _ _ _ _ _ hF (lv_sub hl [0] rfl) hP hS
  have J103 : ∀ (x1 : Int32) (fi : FI) (ar : AR) (H : Heap) (locs : List Loc) (ls : Array Slot), M_isName_103 nf x1 fi ar = some (r, fi', ar') → lv_has ls 4 [(0, .ref (am 0)), (1, .int x1)] → va_P (gD g) vwCl (WM g am fi ar) H → va_S (AM am s.heap.size) s.heap H locs → W p l e (headSpec (wx yX11_isName cX11_isName 4 (some .boolean)) ({ frames := 4, cells := 0, slots := 0, locals := 91 } : Room)).room s m ([.ref (am 0)] : List Value).toArray below meth c H locs 0 0 (MQ below (QMi g am s.heap.size r fi' ar') ([.ref (am 0)] : List Value).toArray s 0 0 (AM am s.heap.size)) (F0 m 103 ls []) := by
    intro x1 fi ar H locs ls hF hl hP hS
    unfold M_isName_103 at hF
    refine lv_iload_n hx hb dX11_isName_103 rfl (lv_at hl 1 rfl) ?_
    refine lv_if_eq (tgt := 143) hx hb dX11_isName_104 (by decide) (fun hc2 => ?_) (fun hc2 => ?_)
    · replace hF := br_yes hF hc2
      exact J143  _ _ _ _ _ hF (lv_sub hl [0] rfl) hP hS
    · replace hF := br_no hF hc2
      refine lv_aload_n hx hb dX11_isName_107 rfl (lv_at hl 0 rfl) ?_
      refine mg_34 hx hb hT hown hK hP mw6_18 dX11_isName_108 ?_
      refine lv_aload_n hx hb dX11_isName_111 rfl (lv_at hl 0 rfl) ?_
      refine mg_35 hx hb hT hown hK hP mw33_9 dX11_isName_112 ?_
      refine lv_iconst (v := (1 : Int32)) hx hb dX11_isName_115 (by decide) ?_
      refine lv_isub hx hb dX11_isName_116 ?_
      replace hF := gd_of hF
      obtain ⟨hi3, hF⟩ := hF
      refine ml_34 hx hb hK hP hi3 dX11_isName_117 ?_
      refine lv_bipush (v := (32 : Int32)) hx hb dX11_isName_118 (by decide) ?_
      refine lv_icmp_eq (tgt := 143) hx hb dX11_isName_120 (by decide) (fun hc4 => ?_) (fun hc4 => ?_)
      · replace hF := br_yes hF hc4
        exact J143  _ _ _ _ _ hF (lv_sub hl [0] rfl) hP hS
      · replace hF := br_no hF hc4
        refine lv_aload_n hx hb dX11_isName_123 rfl (lv_at hl 0 rfl) ?_
        refine mg_34 hx hb hT hown hK hP mw6_18 dX11_isName_124 ?_
        refine lv_aload_n hx hb dX11_isName_127 rfl (lv_at hl 0 rfl) ?_
        refine mg_35 hx hb hT hown hK hP mw33_9 dX11_isName_128 ?_
        refine lv_iconst (v := (1 : Int32)) hx hb dX11_isName_131 (by decide) ?_
        refine lv_isub hx hb dX11_isName_132 ?_
        replace hF := gd_of hF
        obtain ⟨hi5, hF⟩ := hF
        refine ml_34 hx hb hK hP hi5 dX11_isName_133 ?_
        refine lv_bipush (v := (46 : Int32)) hx hb dX11_isName_134 (by decide) ?_
        refine lv_icmp_eq (tgt := 143) hx hb dX11_isName_136 (by decide) (fun hc6 => ?_) (fun hc6 => ?_)
        · replace hF := br_yes hF hc6
          exact J143  _ _ _ _ _ hF (lv_sub hl [0] rfl) hP hS
        · replace hF := br_no hF hc6
          refine lv_iconst (v := (1 : Int32)) hx hb dX11_isName_139 (by decide) ?_
          refine lv_goto (tgt := 144) hx hb dX11_isName_140 (by decide) ?_
          exact J144 (1 : Int32) _ _ _ _ _ hF (lv_sub hl [0] rfl) hP hS
  have L26 : ∀ kf : Nat, ∀ (x1 : Int32) (x2 : Int32) (fi : FI) (ar : AR) (H : Heap) (locs : List Loc) (ls : Array Slot), M_isName_26 nf kf x1 x2 fi ar = some (r, fi', ar') → lv_has ls 4 [(0, .ref (am 0)), (1, .int x1), (2, .int x2)] → va_P (gD g) vwCl (WM g am fi ar) H → va_S (AM am s.heap.size) s.heap H locs → W p l e (headSpec (wx yX11_isName cX11_isName 4 (some .boolean)) ({ frames := 4, cells := 0, slots := 0, locals := 91 } : Room)).room s m ([.ref (am 0)] : List Value).toArray below meth c H locs 0 0 (MQ below (QMi g am s.heap.size r fi' ar') ([.ref (am 0)] : List Value).toArray s 0 0 (AM am s.heap.size)) (F0 m 26 ls []) := by
    intro kf
    induction kf with
    | zero => intro x1 x2 fi ar H locs ls hF hl hP hS; cases (show (none : Option (Int32 × FI × AR)) = _ from hF)
    | succ kf ih26 =>
      intro x1 x2 fi ar H locs ls hF hl hP hS
      obtain ⟨K26, hK26⟩ : ∃ K : Int32 → Int32 → FI → AR → Option (Int32 × FI × AR), K = M_isName_26 nf kf := ⟨_, rfl⟩
      replace hF : M_isName_26b K26 nf x1 x2 fi ar = some (r, fi', ar') := by rw [hK26]; exact hF
      rw [← hK26] at ih26
      clear hK26
      have J96 : ∀ (x2 : Int32) (t0 : Int32) (fi : FI) (ar : AR) (H : Heap) (locs : List Loc) (ls : Array Slot), M_isName_96 K26 nf x2 t0 fi ar = some (r, fi', ar') → lv_has ls 4 [(0, .ref (am 0)), (2, .int x2)] → va_P (gD g) vwCl (WM g am fi ar) H → va_S (AM am s.heap.size) s.heap H locs → W p l e (headSpec (wx yX11_isName cX11_isName 4 (some .boolean)) ({ frames := 4, cells := 0, slots := 0, locals := 91 } : Room)).room s m ([.ref (am 0)] : List Value).toArray below meth c H locs 0 0 (MQ below (QMi g am s.heap.size r fi' ar') ([.ref (am 0)] : List Value).toArray s 0 0 (AM am s.heap.size)) (F0 m 96 ls [.int t0]) := by
        intro x2 t0 fi ar H locs ls hF hl hP hS
        unfold M_isName_96 at hF
        refine lv_istore_n (lv' := [(1, .int (t0)), (0, .ref (am 0)), (2, .int (x2))]) hx hb dX11_isName_96 rfl hl (by decide) rfl (fun ls hl => ?_)
        obtain ⟨x2_7, ex2_7⟩ : ∃ y : Int32, y = (x2) + (1 : Int32) := ⟨_, rfl⟩
        replace hF := bnd_of hF ex2_7
        refine lv_iinc (v := x2_7) (lv' := [(2, .int (x2_7)), (1, .int (t0)), (0, .ref (am 0))]) hx hb dX11_isName_97 hl (k := 2) rfl (by rw [ex2_7]; rfl) (by decide) rfl (fun ls hl => ?_)
        refine lv_goto (tgt := 26) hx hb dX11_isName_100 (by decide) ?_
        exact ih26 (t0) (x2_7) _ _ _ _ _ hF (lv_sub hl [2, 1, 0] rfl) hP hS
      have J95 : ∀ (x2 : Int32) (fi : FI) (ar : AR) (H : Heap) (locs : List Loc) (ls : Array Slot), M_isName_95 K26 nf x2 fi ar = some (r, fi', ar') → lv_has ls 4 [(0, .ref (am 0)), (2, .int x2)] → va_P (gD g) vwCl (WM g am fi ar) H → va_S (AM am s.heap.size) s.heap H locs → W p l e (headSpec (wx yX11_isName cX11_isName 4 (some .boolean)) ({ frames := 4, cells := 0, slots := 0, locals := 91 } : Room)).room s m ([.ref (am 0)] : List Value).toArray below meth c H locs 0 0 (MQ below (QMi g am s.heap.size r fi' ar') ([.ref (am 0)] : List Value).toArray s 0 0 (AM am s.heap.size)) (F0 m 95 ls []) := by
        intro x2 fi ar H locs ls hF hl hP hS
        unfold M_isName_95 at hF
        refine lv_iconst (v := (0 : Int32)) hx hb dX11_isName_95 (by decide) ?_
        exact J96 (x2) (0 : Int32) _ _ _ _ _ hF (lv_sub hl [0, 1] rfl) hP hS
      have J91 : ∀ (x2 : Int32) (fi : FI) (ar : AR) (H : Heap) (locs : List Loc) (ls : Array Slot), M_isName_91 K26 nf x2 fi ar = some (r, fi', ar') → lv_has ls 4 [(0, .ref (am 0)), (2, .int x2)] → va_P (gD g) vwCl (WM g am fi ar) H → va_S (AM am s.heap.size) s.heap H locs → W p l e (headSpec (wx yX11_isName cX11_isName 4 (some .boolean)) ({ frames := 4, cells := 0, slots := 0, locals := 91 } : Room)).room s m ([.ref (am 0)] : List Value).toArray below meth c H locs 0 0 (MQ below (QMi g am s.heap.size r fi' ar') ([.ref (am 0)] : List Value).toArray s 0 0 (AM am s.heap.size)) (F0 m 91 ls []) := by
        intro x2 fi ar H locs ls hF hl hP hS
        unfold M_isName_91 at hF
        refine lv_iconst (v := (1 : Int32)) hx hb dX11_isName_91 (by decide) ?_
        refine lv_goto (tgt := 96) hx hb dX11_isName_92 (by decide) ?_
        exact J96 (x2) (1 : Int32) _ _ _ _ _ hF (lv_sub hl [0, 1] rfl) hP hS
      have J69 : ∀ (x2 : Int32) (x3 : Int32) (fi : FI) (ar : AR) (H : Heap) (locs : List Loc) (ls : Array Slot), M_isName_69 K26 nf x2 x3 fi ar = some (r, fi', ar') → lv_has ls 4 [(0, .ref (am 0)), (2, .int x2), (3, .int x3)] → va_P (gD g) vwCl (WM g am fi ar) H → va_S (AM am s.heap.size) s.heap H locs → W p l e (headSpec (wx yX11_isName cX11_isName 4 (some .boolean)) ({ frames := 4, cells := 0, slots := 0, locals := 91 } : Room)).room s m ([.ref (am 0)] : List Value).toArray below meth c H locs 0 0 (MQ below (QMi g am s.heap.size r fi' ar') ([.ref (am 0)] : List Value).toArray s 0 0 (AM am s.heap.size)) (F0 m 69 ls []) := by
        intro x2 x3 fi ar H locs ls hF hl hP hS
        unfold M_isName_69 at hF
        refine lv_iload_n hx hb dX11_isName_69 rfl (lv_at hl 2 rfl) ?_
        refine lv_ldc (v := (65533 : Int32)) hx hb hown (hT _ mw35_9) dX11_isName_70 ?_
        refine lv_icmp_gt (tgt := 95) hx hb dX11_isName_72 (by decide) (fun hc8 => ?_) (fun hc8 => ?_)
        · replace hF := br_yes hF hc8
          exact J95 (x2) _ _ _ _ _ hF (lv_sub hl [0, 1] rfl) hP hS
        · replace hF := br_no hF hc8
          refine lv_iload_n hx hb dX11_isName_75 rfl (lv_at hl 2 rfl) ?_
          refine lv_bipush (v := (127 : Int32)) hx hb dX11_isName_76 (by decide) ?_
          refine lv_icmp_gt (tgt := 91) hx hb dX11_isName_78 (by decide) (fun hc9 => ?_) (fun hc9 => ?_)
          · replace hF := br_yes hF hc9
            exact J91 (x2) _ _ _ _ _ hF (lv_sub hl [0, 1] rfl) hP hS
          · replace hF := br_no hF hc9
            refine va_ldcS (q := g.2.2.2 1) hx hb hown hE.2.2.1 dX11_isName_81 ?_
            refine lv_iload_n hx hb dX11_isName_83 rfl (lv_at hl 2 rfl) ?_
            refine lv_i2c hx hb dX11_isName_84 rfl ?_
            replace hF := obnd_of hF
            obtain ⟨r11, h10, hF⟩ := hF
            refine cT_i (As := [.int (((x3).toUInt32 % 65536).toInt32)]) (rest := []) (by decide) hx hb hml hT hown hE hP hS (kJ0_indexOf_0f7a4 l g nf 1 (by decide) (((x3).toUInt32 % 65536).toInt32) r11 h10) cw_J0_indexOf_0f7a4 mw18_13 ⟨⟨rfl, rfl⟩, Nat.le_of_ble_eq_true rfl, Nat.le_of_ble_eq_true rfl⟩ rfl hl.1 rfl (Nat.le_of_ble_eq_true rfl) dX11_isName_85 ⟨Nat.zero_le _, Nat.zero_le _⟩ (fun H locs hP hS => ?_)
            refine lv_if_ge (tgt := 95) hx hb dX11_isName_88 (by decide) (fun hc12 => ?_) (fun hc12 => ?_)
            · replace hF := br_yes hF hc12
              exact J95 (x2) _ _ _ _ _ hF (lv_sub hl [0, 1] rfl) hP hS
            · replace hF := br_no hF hc12
              exact J91 (x2) _ _ _ _ _ hF (lv_sub hl [0, 1] rfl) hP hS
      unfold M_isName_26b at hF
      refine lv_iload_n hx hb dX11_isName_26 rfl (lv_at hl 2 rfl) ?_
      refine lv_aload_n hx hb dX11_isName_27 rfl (lv_at hl 0 rfl) ?_
      refine mg_35 hx hb hT hown hK hP mw33_9 dX11_isName_28 ?_
      refine lv_icmp_ge (tgt := 103) hx hb dX11_isName_31 (by decide) (fun hc13 => ?_) (fun hc13 => ?_)
      · replace hF := br_yes hF hc13
        exact J103 (x1) _ _ _ _ _ hF (lv_sub hl [0, 1] rfl) hP hS
      · replace hF := br_no hF hc13
        refine lv_iload_n hx hb dX11_isName_34 rfl (lv_at hl 1 rfl) ?_
        refine lv_if_eq (tgt := 103) hx hb dX11_isName_35 (by decide) (fun hc14 => ?_) (fun hc14 => ?_)
        · replace hF := br_yes hF hc14
          exact J103 (x1) _ _ _ _ _ hF (lv_sub hl [0, 1] rfl) hP hS
        · replace hF := br_no hF hc14
          refine lv_aload_n hx hb dX11_isName_38 rfl (lv_at hl 0 rfl) ?_
          refine mg_34 hx hb hT hown hK hP mw6_18 dX11_isName_39 ?_
          refine lv_iload_n hx hb dX11_isName_42 rfl (lv_at hl 2 rfl) ?_
          replace hF := gd_of hF
          obtain ⟨hi15, hF⟩ := hF
          refine ml_34 hx hb hK hP hi15 dX11_isName_43 ?_
          obtain ⟨x3_16, ex3_16⟩ : ∃ y : Int32, y = (ar 34 (x2).toNatClampNeg) := ⟨_, rfl⟩
          rw [← ex3_16]
          replace hF := bnd_of hF ex3_16
          refine lv_istore_n (lv' := [(3, .int (x3_16)), (0, .ref (am 0)), (1, .int (x1)), (2, .int (x2))]) hx hb dX11_isName_44 rfl hl (by decide) rfl (fun ls hl => ?_)
          refine lv_iload_n hx hb dX11_isName_45 rfl (lv_at hl 0 rfl) ?_
          refine lv_bipush (v := (32 : Int32)) hx hb dX11_isName_46 (by decide) ?_
          refine lv_icmp_lt (tgt := 95) hx hb dX11_isName_48 (by decide) (fun hc17 => ?_) (fun hc17 => ?_)
          · replace hF := br_yes hF hc17
            exact J95 (x2) _ _ _ _ _ hF (lv_sub hl [1, 3] rfl) hP hS
          · replace hF := br_no hF hc17
            refine lv_iload_n hx hb dX11_isName_51 rfl (lv_at hl 0 rfl) ?_
            refine lv_bipush (v := (127 : Int32)) hx hb dX11_isName_52 (by decide) ?_
            refine lv_icmp_eq (tgt := 95) hx hb dX11_isName_54 (by decide) (fun hc18 => ?_) (fun hc18 => ?_)
            · replace hF := br_yes hF hc18
              exact J95 (x2) _ _ _ _ _ hF (lv_sub hl [1, 3] rfl) hP hS
            · replace hF := br_no hF hc18
              refine lv_iload_n hx hb dX11_isName_57 rfl (lv_at hl 0 rfl) ?_
              refine lv_ldc (v := (55296 : Int32)) hx hb hown (hT _ mw35_7) dX11_isName_58 ?_
              refine lv_icmp_lt (tgt := 69) hx hb dX11_isName_60 (by decide) (fun hc19 => ?_) (fun hc19 => ?_)
              · replace hF := br_yes hF hc19
                exact J69 (x2) (x3_16) _ _ _ _ _ hF (lv_sub hl [1, 3, 0] rfl) hP hS
              · replace hF := br_no hF hc19
                refine lv_iload_n hx hb dX11_isName_63 rfl (lv_at hl 0 rfl) ?_
                refine lv_ldc (v := (57343 : Int32)) hx hb hown (hT _ mw35_8) dX11_isName_64 ?_
                refine lv_icmp_le (tgt := 95) hx hb dX11_isName_66 (by decide) (fun hc20 => ?_) (fun hc20 => ?_)
                · replace hF := br_yes hF hc20
                  exact J95 (x2) _ _ _ _ _ hF (lv_sub hl [1, 3] rfl) hP hS
                · replace hF := br_no hF hc20
                  exact J69 (x2) (x3_16) _ _ _ _ _ hF (lv_sub hl [1, 3, 0] rfl) hP hS
  have J23 : ∀ (t0 : Int32) (fi : FI) (ar : AR) (H : Heap) (locs : List Loc) (ls : Array Slot), M_isName_23 nf t0 fi ar = some (r, fi', ar') → lv_has ls 4 [(0, .ref (am 0))] → va_P (gD g) vwCl (WM g am fi ar) H → va_S (AM am s.heap.size) s.heap H locs → W p l e (headSpec (wx yX11_isName cX11_isName 4 (some .boolean)) ({ frames := 4, cells := 0, slots := 0, locals := 91 } : Room)).room s m ([.ref (am 0)] : List Value).toArray below meth c H locs 0 0 (MQ below (QMi g am s.heap.size r fi' ar') ([.ref (am 0)] : List Value).toArray s 0 0 (AM am s.heap.size)) (F0 m 23 ls [.int t0]) := by
    intro t0 fi ar H locs ls hF hl hP hS
    unfold M_isName_23 at hF
    refine lv_istore_n (lv' := [(1, .int (t0)), (0, .ref (am 0))]) hx hb dX11_isName_23 rfl hl (by decide) rfl (fun ls hl => ?_)
    refine lv_iconst (v := (0 : Int32)) hx hb dX11_isName_24 (by decide) ?_
    refine lv_istore_n (lv' := [(2, .int (0 : Int32)), (1, .int (t0)), (0, .ref (am 0))]) hx hb dX11_isName_25 rfl hl (by decide) rfl (fun ls hl => ?_)
    exact L26 nf (t0) (0 : Int32) _ _ _ _ _ hF (lv_sub hl [2, 1, 0] rfl) hP hS
  have J22 : ∀  (fi : FI) (ar : AR) (H : Heap) (locs : List Loc) (ls : Array Slot), M_isName_22 nf fi ar = some (r, fi', ar') → lv_has ls 4 [(0, .ref (am 0))] → va_P (gD g) vwCl (WM g am fi ar) H → va_S (AM am s.heap.size) s.heap H locs → W p l e (headSpec (wx yX11_isName cX11_isName 4 (some .boolean)) ({ frames := 4, cells := 0, slots := 0, locals := 91 } : Room)).room s m ([.ref (am 0)] : List Value).toArray below meth c H locs 0 0 (MQ below (QMi g am s.heap.size r fi' ar') ([.ref (am 0)] : List Value).toArray s 0 0 (AM am s.heap.size)) (F0 m 22 ls []) := by
    intro fi ar H locs ls hF hl hP hS
    unfold M_isName_22 at hF
    refine lv_iconst (v := (0 : Int32)) hx hb dX11_isName_22 (by decide) ?_
    exact J23 (0 : Int32) _ _ _ _ _ hF (lv_sub hl [0] rfl) hP hS
  replace hl := lv_sub hl [0] rfl
  refine lv_aload_n hx hb dX11_isName_0 rfl (lv_at hl 0 rfl) ?_
  refine mg_35 hx hb hT hown hK hP mw33_9 dX11_isName_1 ?_
  refine lv_iconst (v := (1 : Int32)) hx hb dX11_isName_4 (by decide) ?_
  refine lv_icmp_lt (tgt := 22) hx hb dX11_isName_5 (by decide) (fun hc21 => ?_) (fun hc21 => ?_)
  · replace hF := br_yes hF hc21
    exact J22  _ _ _ _ _ hF (lv_sub hl [0] rfl) hP hS
  · replace hF := br_no hF hc21
    refine lv_aload_n hx hb dX11_isName_8 rfl (lv_at hl 0 rfl) ?_
    refine mg_35 hx hb hT hown hK hP mw33_9 dX11_isName_9 ?_
    refine lv_sipush (v := (255 : Int32)) hx hb dX11_isName_12 (by decide) ?_
    refine lv_icmp_gt (tgt := 22) hx hb dX11_isName_15 (by decide) (fun hc22 => ?_) (fun hc22 => ?_)
    · replace hF := br_yes hF hc22
      exact J22  _ _ _ _ _ hF (lv_sub hl [0] rfl) hP hS
    · replace hF := br_no hF hc22
      refine lv_iconst (v := (1 : Int32)) hx hb dX11_isName_18 (by decide) ?_
      refine lv_goto (tgt := 23) hx hb dX11_isName_19 (by decide) ?_
      exact J23 (1 : Int32) _ _ _ _ _ hF (lv_sub hl [0] rfl) hP hS
theorem cw_X11_isName : (Cond.instanceMethod yX11_isName ∈ TB ∧ Cond.selects RX11 yX11_isName yX11_isName ∈ TB ∧ Cond.code yX11_isName cX11_isName 4 (some .boolean) ∈ TB) ∧ (yX11_isName.cls = RX11 ∧ yX11_isName.cls ≠ "java/lang/invoke/MethodHandle" ∧ yX11_isName.cls ≠ "java/lang/invoke/VarHandle" ∧ (parseMethodDescriptor yX11_isName.desc).map (fun d => d.parameters.length) = some 0) := ⟨⟨mw35_4, mw35_5, mw35_6⟩, by decide +kernel⟩
/-! X11_said -/
noncomputable def M_said_88 (nf : Nat) (t0 : Int32) (fi : FI) (ar : AR) : Option (Int32 × FI × AR) :=
  gd ((t0) &&& 1 = (t0)) (some ((t0), fi, ar))
noncomputable def M_said_87 (nf : Nat)  (fi : FI) (ar : AR) : Option (Int32 × FI × AR) :=
  M_said_88 nf  (0 : Int32) fi ar
noncomputable def M_said_36b (K36 : Int32 → Int32 → FI → AR → Option (Int32 × FI × AR)) (nf : Nat) (x1 : Int32) (x3 : Int32) (fi : FI) (ar : AR) : Option (Int32 × FI × AR) :=
  br ((x1) ≤ (x3)) (obnd (M_whole nf (fi 35) (13 : Int32)) fun r4 => br (((r4) * (13 : Int32)) = (x1)) (obnd3 (M_isName nf fi ar) fun r9 fi7 ar8 => br ((r9) = 0) (M_said_87 nf  fi7 ar8) (M_said_88 nf  (1 : Int32) fi7 ar8)) (M_said_87 nf  fi ar)) (gd (¬ ((x3) < 0 ∨ 300 ≤ (x3).toNatClampNeg)) (br ((ar 34 (x3).toNatClampNeg) = (65535 : Int32)) (bnd ((x3) + (1 : Int32)) fun x3_13 => K36 (x1) (x3_13) fi ar) (some ((0 : Int32), fi, ar))))
noncomputable def M_said_36 (nf : Nat) (kf : Nat) : Int32 → Int32 → FI → AR → Option (Int32 × FI × AR) := Nat.rec (fun _ _ _ _ => none) (fun _ K36 => M_said_36b K36 nf) kf
noncomputable def M_said_27 (nf : Nat) (x1 : Int32) (x2 : Int32) (fi : FI) (ar : AR) : Option (Int32 × FI × AR) :=
  bnd (va_up fi 35 (x2)) fun fi14 => bnd ((x2) + (1 : Int32)) fun x3_15 => M_said_36 nf nf (x1) (x3_15) fi14 ar
noncomputable def M_said_7b (K7 : Int32 → Int32 → FI → AR → Option (Int32 × FI × AR)) (nf : Nat) (x1 : Int32) (x2 : Int32) (fi : FI) (ar : AR) : Option (Int32 × FI × AR) :=
  br ((x1) ≤ (x2)) (M_said_27 nf  (x1) (x2) fi ar) (gd (¬ ((x2) < 0 ∨ 300 ≤ (x2).toNatClampNeg)) (br ((ar 34 (x2).toNatClampNeg) = 0) (M_said_27 nf  (x1) (x2) fi ar) (bnd ((x2) + (1 : Int32)) fun x2_19 => K7 (x1) (x2_19) fi ar)))
noncomputable def M_said_7 (nf : Nat) (kf : Nat) : Int32 → Int32 → FI → AR → Option (Int32 × FI × AR) := Nat.rec (fun _ _ _ _ => none) (fun _ K7 => M_said_7b K7 nf) kf
noncomputable def M_said (nf : Nat) (fi : FI) (ar : AR)  : Option (Int32 × FI × AR) :=
  bnd (fi 35) fun x1_20 => M_said_7 nf nf (x1_20) (0 : Int32) fi ar
set_option maxHeartbeats 4000000 in
set_option maxRecDepth 100000 in
theorem k_said (l : Launch) (g : GT) (am : Nat → Nat) (sz : Nat) (nf : Nat) (fi : FI) (ar : AR)  (r : Int32) (fi' : FI) (ar' : AR) (hF : M_said nf fi ar  = some (r, fi', ar')) : Met l yX11_said (wx yX11_said cX11_said 4 (some .boolean)) ({ frames := 5, cells := 0, slots := 0, locals := 114 } : Room) (va_Pc [.ref (am 0)] (PM g am sz fi ar)) (QMi g am sz r fi' ar') 0 0 (AM am sz) := by
  refine Met.ofW (cc := cX11_said) (maxL := 4) (ret := (some .boolean)) (by decide) rfl ?_
  intro p e s m args below meth c s₁ B hml hv
  obtain ⟨rfl, hsz, hP, hK, hD0, hE⟩ := hv
  have hx := B.exec
  have hb := B.bytes
  have hr := B.returns
  have hts := atoms_spec (ws := (wx yX11_said cX11_said 4 (some .boolean))) B.pre
  have hT : ∀ w ∈ TB, w.before _ s = true := fun w h => hts w (List.mem_cons_of_mem _ h)
  have hown : s.vm.findClass RX11 = some m.cls := findClass_of_methodNamed B.named
  have hlocks := B.notSynchronized
  subst hsz
  have hD := dM hD0 s.heap.size
  have hA : ∀ q : Nat, s.heap.size ≤ q → AM am s.heap.size q := fun q h => Or.inr h
  have hS : va_S (AM am s.heap.size) s.heap s.heap [] := va_S.rf
  have hl := lv_entry ([.ref (am 0)]) (n := 4) (Nat.le_of_ble_eq_true rfl)
  rw [lg_entry_eq]
  generalize (lg_sl ([.ref (am 0)]) ++ List.replicate (4 - (lg_sl ([.ref (am 0)])).length) Slot.unset).toArray = ls at hl ⊢
  have hl : lv_has ls 4 [(0, .ref (am 0))] := hl
  unfold M_said at hF
  have J88 : ∀ (t0 : Int32) (fi : FI) (ar : AR) (H : Heap) (locs : List Loc) (ls : Array Slot), M_said_88 nf t0 fi ar = some (r, fi', ar') → lv_has ls 4 [(0, .ref (am 0))] → va_P (gD g) vwCl (WM g am fi ar) H → va_S (AM am s.heap.size) s.heap H locs → W p l e (headSpec (wx yX11_said cX11_said 4 (some .boolean)) ({ frames := 5, cells := 0, slots := 0, locals := 114 } : Room)).room s m ([.ref (am 0)] : List Value).toArray below meth c H locs 0 0 (MQ below (QMi g am s.heap.size r fi' ar') ([.ref (am 0)] : List Value).toArray s 0 0 (AM am s.heap.size)) (F0 m 88 ls [.int t0]) := by
    intro t0 fi ar H locs ls hF hl hP hS
    unfold M_said_88 at hF
    replace hF := gd_of hF
    obtain ⟨hz1, hF⟩ := hF
    exact rM_z hx hb hr hlocks (nar_z hz1) hF hP hS dX11_said_88
  have J87 : ∀  (fi : FI) (ar : AR) (H : Heap) (locs : List Loc) (ls : Array Slot), M_said_87 nf fi ar = some (r, fi', ar') → lv_has ls 4 [(0, .ref (am 0))] → va_P (gD g) vwCl (WM g am fi ar) H → va_S (AM am s.heap.size) s.heap H locs → W p l e (headSpec (wx yX11_said cX11_said 4 (some .boolean)) ({ frames := 5, cells := 0, slots := 0, locals := 114 } : Room)).room s m ([.ref (am 0)] : List Value).toArray below meth c H locs 0 0 (MQ below (QMi g am s.heap.size r fi' ar') ([.ref (am 0)] : List Value).toArray s 0 0 (AM am s.heap.size)) (F0 m 87 ls []) := by
    intro fi ar H locs ls hF hl hP hS
    unfold M_said_87 at hF
    refine lv_iconst (v := (0 : Int32)) hx hb dX11_said_87 (by decide) ?_
    exact J88 (0 : Int32) _ _ _ _ _ hF (lv_sub hl [0] rfl) hP hS
  have L36 : ∀ kf : Nat, ∀ (x1 : Int32) (x3 : Int32) (fi : FI) (ar : AR) (H : Heap) (locs : List Loc) (ls : Array Slot), M_said_36 nf kf x1 x3 fi ar = some (r, fi', ar') → lv_has ls 4 [(0, .ref (am 0)), (1, .int x1), (3, .int x3)] → va_P (gD g) vwCl (WM g am fi ar) H → va_S (AM am s.heap.size) s.heap H locs → W p l e (headSpec (wx yX11_said cX11_said 4 (some .boolean)) ({ frames := 5, cells := 0, slots := 0, locals := 114 } : Room)).room s m ([.ref (am 0)] : List Value).toArray below meth c H locs 0 0 (MQ below (QMi g am s.heap.size r fi' ar') ([.ref (am 0)] : List Value).toArray s 0 0 (AM am s.heap.size)) (F0 m 36 ls []) := by
    intro kf
    induction kf with
    | zero => intro x1 x3 fi ar H locs ls hF hl hP hS; cases (show (none : Option (Int32 × FI × AR)) = _ from hF)
    | succ kf ih36 =>
      intro x1 x3 fi ar H locs ls hF hl hP hS
      obtain ⟨K36, hK36⟩ : ∃ K : Int32 → Int32 → FI → AR → Option (Int32 × FI × AR), K = M_said_36 nf kf := ⟨_, rfl⟩
      replace hF : M_said_36b K36 nf x1 x3 fi ar = some (r, fi', ar') := by rw [hK36]; exact hF
      rw [← hK36] at ih36
      clear hK36
      unfold M_said_36b at hF
      refine lv_iload_n hx hb dX11_said_36 rfl (lv_at hl 2 rfl) ?_
      refine lv_iload_n hx hb dX11_said_37 rfl (lv_at hl 1 rfl) ?_
      refine lv_icmp_ge (tgt := 60) hx hb dX11_said_38 (by decide) (fun hc2 => ?_) (fun hc2 => ?_)
      · replace hF := br_yes hF hc2
        refine lv_aload_n hx hb dX11_said_60 rfl (lv_at hl 0 rfl) ?_
        refine mg_35 hx hb hT hown hK hP mw33_9 dX11_said_61 ?_
        refine lv_bipush (v := (13 : Int32)) hx hb dX11_said_64 (by decide) ?_
        replace hF := obnd_of hF
        obtain ⟨r4, h3, hF⟩ := hF
        refine cS_i (As := [.int (fi 35), .int (13 : Int32)]) (rest := []) hx hb hml hT hown hE hP hS (k_whole l g nf (fi 35) (13 : Int32) r4 h3) cw_X11_whole mw35_0 ⟨⟨rfl, rfl⟩, Nat.le_of_ble_eq_true rfl, Nat.le_of_ble_eq_true rfl⟩ rfl hl.1 rfl (Nat.le_of_ble_eq_true rfl) dX11_said_66 ⟨Nat.zero_le _, Nat.zero_le _⟩ (fun H locs hP hS => ?_)
        refine lv_bipush (v := (13 : Int32)) hx hb dX11_said_69 (by decide) ?_
        refine lv_imul hx hb dX11_said_71 ?_
        refine lv_iload_n hx hb dX11_said_72 rfl (lv_at hl 1 rfl) ?_
        refine lv_icmp_ne (tgt := 87) hx hb dX11_said_73 (by decide) (fun hc5 => ?_) (fun hc5 => ?_)
        · replace hF := br_no hF hc5
          exact J87  _ _ _ _ _ hF (lv_sub hl [0] rfl) hP hS
        · replace hF := br_yes hF hc5
          refine lv_aload_n hx hb dX11_said_76 rfl (lv_at hl 0 rfl) ?_
          replace hF := obnd3_of hF
          obtain ⟨r9, fi7, ar8, h6, hF⟩ := hF
          refine cM_i (As := []) (rest := []) hx hb hml hT hown hK hE hD hA hP hS (k_isName l g am _ nf fi ar r9 fi7 ar8 h6) cw_X11_isName mw35_3 ⟨⟨rfl, rfl⟩, Nat.le_of_ble_eq_true rfl, Nat.le_of_ble_eq_true rfl⟩ rfl hl.1 rfl (Nat.le_of_ble_eq_true rfl) dX11_said_77 ⟨Nat.zero_le _, Nat.zero_le _⟩ (fun H locs hP hS => ?_)
          refine lv_if_eq (tgt := 87) hx hb dX11_said_80 (by decide) (fun hc10 => ?_) (fun hc10 => ?_)
          · replace hF := br_yes hF hc10
            exact J87  _ _ _ _ _ hF (lv_sub hl [0] rfl) hP hS
          · replace hF := br_no hF hc10
            refine lv_iconst (v := (1 : Int32)) hx hb dX11_said_83 (by decide) ?_
            refine lv_goto (tgt := 88) hx hb dX11_said_84 (by decide) ?_
            exact J88 (1 : Int32) _ _ _ _ _ hF (lv_sub hl [0] rfl) hP hS
      · replace hF := br_no hF hc2
        refine lv_aload_n hx hb dX11_said_41 rfl (lv_at hl 0 rfl) ?_
        refine mg_34 hx hb hT hown hK hP mw6_18 dX11_said_42 ?_
        refine lv_iload_n hx hb dX11_said_45 rfl (lv_at hl 2 rfl) ?_
        replace hF := gd_of hF
        obtain ⟨hi11, hF⟩ := hF
        refine ml_34 hx hb hK hP hi11 dX11_said_46 ?_
        refine lv_ldc (v := (65535 : Int32)) hx hb hown (hT _ mw34_23) dX11_said_47 ?_
        refine lv_icmp_eq (tgt := 54) hx hb dX11_said_49 (by decide) (fun hc12 => ?_) (fun hc12 => ?_)
        · replace hF := br_yes hF hc12
          obtain ⟨x3_13, ex3_13⟩ : ∃ y : Int32, y = (x3) + (1 : Int32) := ⟨_, rfl⟩
          replace hF := bnd_of hF ex3_13
          refine lv_iinc (v := x3_13) (lv' := [(3, .int (x3_13)), (0, .ref (am 0)), (1, .int (x1))]) hx hb dX11_said_54 hl (k := 2) rfl (by rw [ex3_13]; rfl) (by decide) rfl (fun ls hl => ?_)
          refine lv_goto (tgt := 36) hx hb dX11_said_57 (by decide) ?_
          exact ih36 (x1) (x3_13) _ _ _ _ _ hF (lv_sub hl [1, 2, 0] rfl) hP hS
        · replace hF := br_no hF hc12
          refine lv_iconst (v := (0 : Int32)) hx hb dX11_said_52 (by decide) ?_
          exact rM_z hx hb hr hlocks rfl hF hP hS dX11_said_53
  have J27 : ∀ (x1 : Int32) (x2 : Int32) (fi : FI) (ar : AR) (H : Heap) (locs : List Loc) (ls : Array Slot), M_said_27 nf x1 x2 fi ar = some (r, fi', ar') → lv_has ls 4 [(0, .ref (am 0)), (1, .int x1), (2, .int x2)] → va_P (gD g) vwCl (WM g am fi ar) H → va_S (AM am s.heap.size) s.heap H locs → W p l e (headSpec (wx yX11_said cX11_said 4 (some .boolean)) ({ frames := 5, cells := 0, slots := 0, locals := 114 } : Room)).room s m ([.ref (am 0)] : List Value).toArray below meth c H locs 0 0 (MQ below (QMi g am s.heap.size r fi' ar') ([.ref (am 0)] : List Value).toArray s 0 0 (AM am s.heap.size)) (F0 m 27 ls []) := by
    intro x1 x2 fi ar H locs ls hF hl hP hS
    unfold M_said_27 at hF
    refine lv_aload_n hx hb dX11_said_27 rfl (lv_at hl 0 rfl) ?_
    refine lv_iload_n hx hb dX11_said_28 rfl (lv_at hl 2 rfl) ?_
    obtain ⟨fi14, efi14⟩ : ∃ y : FI, y = va_up fi 35 (x2) := ⟨_, rfl⟩
    replace hF := bnd_of hF efi14
    refine mp_35 hx hb hT hown hK hP hD hS mw33_9 dX11_said_29 (fun H locs hP hS => ?_)
    rw [← efi14] at hP
    refine lv_iload_n hx hb dX11_said_32 rfl (lv_at hl 2 rfl) ?_
    refine lv_iconst (v := (1 : Int32)) hx hb dX11_said_33 (by decide) ?_
    refine lv_iadd hx hb dX11_said_34 ?_
    obtain ⟨x3_15, ex3_15⟩ : ∃ y : Int32, y = ((x2) + (1 : Int32)) := ⟨_, rfl⟩
    rw [← ex3_15]
    replace hF := bnd_of hF ex3_15
    refine lv_istore_n (lv' := [(3, .int (x3_15)), (0, .ref (am 0)), (1, .int (x1)), (2, .int (x2))]) hx hb dX11_said_35 rfl hl (by decide) rfl (fun ls hl => ?_)
    exact L36 nf (x1) (x3_15) _ _ _ _ _ hF (lv_sub hl [1, 2, 0] rfl) hP hS
  have L7 : ∀ kf : Nat, ∀ (x1 : Int32) (x2 : Int32) (fi : FI) (ar : AR) (H : Heap) (locs : List Loc) (ls : Array Slot), M_said_7 nf kf x1 x2 fi ar = some (r, fi', ar') → lv_has ls 4 [(0, .ref (am 0)), (1, .int x1), (2, .int x2)] → va_P (gD g) vwCl (WM g am fi ar) H → va_S (AM am s.heap.size) s.heap H locs → W p l e (headSpec (wx yX11_said cX11_said 4 (some .boolean)) ({ frames := 5, cells := 0, slots := 0, locals := 114 } : Room)).room s m ([.ref (am 0)] : List Value).toArray below meth c H locs 0 0 (MQ below (QMi g am s.heap.size r fi' ar') ([.ref (am 0)] : List Value).toArray s 0 0 (AM am s.heap.size)) (F0 m 7 ls []) := by
    intro kf
    induction kf with
    | zero => intro x1 x2 fi ar H locs ls hF hl hP hS; cases (show (none : Option (Int32 × FI × AR)) = _ from hF)
    | succ kf ih7 =>
      intro x1 x2 fi ar H locs ls hF hl hP hS
      obtain ⟨K7, hK7⟩ : ∃ K : Int32 → Int32 → FI → AR → Option (Int32 × FI × AR), K = M_said_7 nf kf := ⟨_, rfl⟩
      replace hF : M_said_7b K7 nf x1 x2 fi ar = some (r, fi', ar') := by rw [hK7]; exact hF
      rw [← hK7] at ih7
      clear hK7
      unfold M_said_7b at hF
      refine lv_iload_n hx hb dX11_said_7 rfl (lv_at hl 2 rfl) ?_
      refine lv_iload_n hx hb dX11_said_8 rfl (lv_at hl 1 rfl) ?_
      refine lv_icmp_ge (tgt := 27) hx hb dX11_said_9 (by decide) (fun hc16 => ?_) (fun hc16 => ?_)
      · replace hF := br_yes hF hc16
        exact J27 (x1) (x2) _ _ _ _ _ hF (lv_sub hl [0, 1, 2] rfl) hP hS
      · replace hF := br_no hF hc16
        refine lv_aload_n hx hb dX11_said_12 rfl (lv_at hl 0 rfl) ?_
        refine mg_34 hx hb hT hown hK hP mw6_18 dX11_said_13 ?_
        refine lv_iload_n hx hb dX11_said_16 rfl (lv_at hl 2 rfl) ?_
        replace hF := gd_of hF
        obtain ⟨hi17, hF⟩ := hF
        refine ml_34 hx hb hK hP hi17 dX11_said_17 ?_
        refine lv_if_eq (tgt := 27) hx hb dX11_said_18 (by decide) (fun hc18 => ?_) (fun hc18 => ?_)
        · replace hF := br_yes hF hc18
          exact J27 (x1) (x2) _ _ _ _ _ hF (lv_sub hl [0, 1, 2] rfl) hP hS
        · replace hF := br_no hF hc18
          obtain ⟨x2_19, ex2_19⟩ : ∃ y : Int32, y = (x2) + (1 : Int32) := ⟨_, rfl⟩
          replace hF := bnd_of hF ex2_19
          refine lv_iinc (v := x2_19) (lv' := [(2, .int (x2_19)), (0, .ref (am 0)), (1, .int (x1))]) hx hb dX11_said_21 hl (k := 2) rfl (by rw [ex2_19]; rfl) (by decide) rfl (fun ls hl => ?_)
          refine lv_goto (tgt := 7) hx hb dX11_said_24 (by decide) ?_
          exact ih7 (x1) (x2_19) _ _ _ _ _ hF (lv_sub hl [1, 2, 0] rfl) hP hS
  replace hl := lv_sub hl [0] rfl
  refine lv_aload_n hx hb dX11_said_0 rfl (lv_at hl 0 rfl) ?_
  refine mg_35 hx hb hT hown hK hP mw33_9 dX11_said_1 ?_
  obtain ⟨x1_20, ex1_20⟩ : ∃ y : Int32, y = (fi 35) := ⟨_, rfl⟩
  rw [← ex1_20]
  replace hF := bnd_of hF ex1_20
  refine lv_istore_n (lv' := [(1, .int (x1_20)), (0, .ref (am 0))]) hx hb dX11_said_4 rfl hl (by decide) rfl (fun ls hl => ?_)
  refine lv_iconst (v := (0 : Int32)) hx hb dX11_said_5 (by decide) ?_
  refine lv_istore_n (lv' := [(2, .int (0 : Int32)), (1, .int (x1_20)), (0, .ref (am 0))]) hx hb dX11_said_6 rfl hl (by decide) rfl (fun ls hl => ?_)
  exact L7 nf (x1_20) (0 : Int32) _ _ _ _ _ hF (lv_sub hl [2, 1, 0] rfl) hP hS
theorem cw_X11_said : (Cond.instanceMethod yX11_said ∈ TB ∧ Cond.selects RX11 yX11_said yX11_said ∈ TB ∧ Cond.code yX11_said cX11_said 4 (some .boolean) ∈ TB) ∧ (yX11_said.cls = RX11 ∧ yX11_said.cls ≠ "java/lang/invoke/MethodHandle" ∧ yX11_said.cls ≠ "java/lang/invoke/VarHandle" ∧ (parseMethodDescriptor yX11_said.desc).map (fun d => d.parameters.length) = some 0) := ⟨⟨mw34_20, mw34_21, mw34_22⟩, by decide +kernel⟩
/-! X11_shown -/
noncomputable def M_shown_95 (K7 : Int32 → Int32 → FI → AR → Option (Unit × FI × AR)) (nf : Nat) (x1 : Int32) (x2 : Int32) (fi : FI) (ar : AR) : Option (Unit × FI × AR) :=
  bnd ((x2) + (1 : Int32)) fun x2_1 => K7 (x1) (x2_1) fi ar
noncomputable def M_shown_53 (K7 : Int32 → Int32 → FI → AR → Option (Unit × FI × AR)) (nf : Nat) (x1 : Int32) (x2 : Int32) (fi : FI) (ar : AR) : Option (Unit × FI × AR) :=
  obnd3 (M_one nf fi ar ((x1) + (x2))) fun r5 fi3 ar4 => br ((r5) = (32 : Int32)) (M_shown_95 K7 nf  (x1) (x2) fi3 ar4) (obnd3 (M_one nf fi3 ar4 ((x1) + (x2))) fun r10 fi8 ar9 => gd (¬ ((fi3 35) < 0 ∨ 300 ≤ (fi3 35).toNatClampNeg)) (bnd (va_up ar9 34 (upd (ar9 34) (fi3 35).toNatClampNeg (vp_nar .char (((r10).toUInt32 % 65536).toInt32)))) fun ar12 => bnd (va_up fi8 35 ((fi8 35) + (1 : Int32))) fun fi13 => M_shown_95 K7 nf  (x1) (x2) fi13 ar12))
noncomputable def M_shown_7b (K7 : Int32 → Int32 → FI → AR → Option (Unit × FI × AR)) (nf : Nat) (x1 : Int32) (x2 : Int32) (fi : FI) (ar : AR) : Option (Unit × FI × AR) :=
  br ((11 : Int32) ≤ (x2)) (some ((), fi, ar)) (br ((x2) = (8 : Int32)) (obnd3 (M_one nf fi ar ((x1) + (8 : Int32))) fun r19 fi17 ar18 => br ((r19) = (32 : Int32)) (M_shown_53 K7 nf  (x1) (x2) fi17 ar18) (gd (¬ ((fi17 35) < 0 ∨ 300 ≤ (fi17 35).toNatClampNeg)) (bnd (va_up ar18 34 (upd (ar18 34) (fi17 35).toNatClampNeg (vp_nar .char (46 : Int32)))) fun ar22 => bnd (va_up fi17 35 ((fi17 35) + (1 : Int32))) fun fi23 => M_shown_53 K7 nf  (x1) (x2) fi23 ar22))) (M_shown_53 K7 nf  (x1) (x2) fi ar))
noncomputable def M_shown_7 (nf : Nat) (kf : Nat) : Int32 → Int32 → FI → AR → Option (Unit × FI × AR) := Nat.rec (fun _ _ _ _ => none) (fun _ K7 => M_shown_7b K7 nf) kf
noncomputable def M_shown (nf : Nat) (fi : FI) (ar : AR) (x1 : Int32) : Option (Unit × FI × AR) :=
  bnd (va_up fi 35 (0 : Int32)) fun fi24 => M_shown_7 nf nf (x1) (0 : Int32) fi24 ar
set_option maxHeartbeats 4000000 in
set_option maxRecDepth 100000 in
theorem k_shown (l : Launch) (g : GT) (am : Nat → Nat) (sz : Nat) (nf : Nat) (fi : FI) (ar : AR) (p1 : Int32) (r : Unit) (fi' : FI) (ar' : AR) (hF : M_shown nf fi ar p1 = some (r, fi', ar')) : Met l yX11_shown (wx yX11_shown cX11_shown 3 none) ({ frames := 1, cells := 0, slots := 0, locals := 21 } : Room) (va_Pc [.ref (am 0), .int p1] (PM g am sz fi ar)) (QMv g am sz r fi' ar') 0 0 (AM am sz) := by
  refine Met.ofW (cc := cX11_shown) (maxL := 3) (ret := none) (by decide) rfl ?_
  intro p e s m args below meth c s₁ B hml hv
  obtain ⟨rfl, hsz, hP, hK, hD0, hE⟩ := hv
  have hx := B.exec
  have hb := B.bytes
  have hr := B.returns
  have hts := atoms_spec (ws := (wx yX11_shown cX11_shown 3 none)) B.pre
  have hT : ∀ w ∈ TB, w.before _ s = true := fun w h => hts w (List.mem_cons_of_mem _ h)
  have hown : s.vm.findClass RX11 = some m.cls := findClass_of_methodNamed B.named
  have hlocks := B.notSynchronized
  subst hsz
  have hD := dM hD0 s.heap.size
  have hA : ∀ q : Nat, s.heap.size ≤ q → AM am s.heap.size q := fun q h => Or.inr h
  have hS : va_S (AM am s.heap.size) s.heap s.heap [] := va_S.rf
  have hl := lv_entry ([.ref (am 0), .int p1]) (n := 3) (Nat.le_of_ble_eq_true rfl)
  rw [lg_entry_eq]
  generalize (lg_sl ([.ref (am 0), .int p1]) ++ List.replicate (3 - (lg_sl ([.ref (am 0), .int p1])).length) Slot.unset).toArray = ls at hl ⊢
  have hl : lv_has ls 3 [(0, .ref (am 0)), (1, .int p1)] := hl
  unfold M_shown at hF
  have L7 : ∀ kf : Nat, ∀ (x1 : Int32) (x2 : Int32) (fi : FI) (ar : AR) (H : Heap) (locs : List Loc) (ls : Array Slot), M_shown_7 nf kf x1 x2 fi ar = some (r, fi', ar') → lv_has ls 3 [(0, .ref (am 0)), (1, .int x1), (2, .int x2)] → va_P (gD g) vwCl (WM g am fi ar) H → va_S (AM am s.heap.size) s.heap H locs → W p l e (headSpec (wx yX11_shown cX11_shown 3 none) ({ frames := 1, cells := 0, slots := 0, locals := 21 } : Room)).room s m ([.ref (am 0), .int p1] : List Value).toArray below meth c H locs 0 0 (MQ below (QMv g am s.heap.size r fi' ar') ([.ref (am 0), .int p1] : List Value).toArray s 0 0 (AM am s.heap.size)) (F0 m 7 ls []) := by
    intro kf
    induction kf with
    | zero => intro x1 x2 fi ar H locs ls hF hl hP hS; cases (show (none : Option (Unit × FI × AR)) = _ from hF)
    | succ kf ih7 =>
      intro x1 x2 fi ar H locs ls hF hl hP hS
      obtain ⟨K7, hK7⟩ : ∃ K : Int32 → Int32 → FI → AR → Option (Unit × FI × AR), K = M_shown_7 nf kf := ⟨_, rfl⟩
      replace hF : M_shown_7b K7 nf x1 x2 fi ar = some (r, fi', ar') := by rw [hK7]; exact hF
      rw [← hK7] at ih7
      clear hK7
      have J95 : ∀ (x1 : Int32) (x2 : Int32) (fi : FI) (ar : AR) (H : Heap) (locs : List Loc) (ls : Array Slot), M_shown_95 K7 nf x1 x2 fi ar = some (r, fi', ar') → lv_has ls 3 [(0, .ref (am 0)), (1, .int x1), (2, .int x2)] → va_P (gD g) vwCl (WM g am fi ar) H → va_S (AM am s.heap.size) s.heap H locs → W p l e (headSpec (wx yX11_shown cX11_shown 3 none) ({ frames := 1, cells := 0, slots := 0, locals := 21 } : Room)).room s m ([.ref (am 0), .int p1] : List Value).toArray below meth c H locs 0 0 (MQ below (QMv g am s.heap.size r fi' ar') ([.ref (am 0), .int p1] : List Value).toArray s 0 0 (AM am s.heap.size)) (F0 m 95 ls []) := by
        intro x1 x2 fi ar H locs ls hF hl hP hS
        unfold M_shown_95 at hF
        obtain ⟨x2_1, ex2_1⟩ : ∃ y : Int32, y = (x2) + (1 : Int32) := ⟨_, rfl⟩
        replace hF := bnd_of hF ex2_1
        refine lv_iinc (v := x2_1) (lv' := [(2, .int (x2_1)), (0, .ref (am 0)), (1, .int (x1))]) hx hb dX11_shown_95 hl (k := 2) rfl (by rw [ex2_1]; rfl) (by decide) rfl (fun ls hl => ?_)
        refine lv_goto (tgt := 7) hx hb dX11_shown_98 (by decide) ?_
        exact ih7 (x1) (x2_1) _ _ _ _ _ hF (lv_sub hl [1, 2, 0] rfl) hP hS
      have J53 : ∀ (x1 : Int32) (x2 : Int32) (fi : FI) (ar : AR) (H : Heap) (locs : List Loc) (ls : Array Slot), M_shown_53 K7 nf x1 x2 fi ar = some (r, fi', ar') → lv_has ls 3 [(0, .ref (am 0)), (1, .int x1), (2, .int x2)] → va_P (gD g) vwCl (WM g am fi ar) H → va_S (AM am s.heap.size) s.heap H locs → W p l e (headSpec (wx yX11_shown cX11_shown 3 none) ({ frames := 1, cells := 0, slots := 0, locals := 21 } : Room)).room s m ([.ref (am 0), .int p1] : List Value).toArray below meth c H locs 0 0 (MQ below (QMv g am s.heap.size r fi' ar') ([.ref (am 0), .int p1] : List Value).toArray s 0 0 (AM am s.heap.size)) (F0 m 53 ls []) := by
        intro x1 x2 fi ar H locs ls hF hl hP hS
        unfold M_shown_53 at hF
        refine lv_aload_n hx hb dX11_shown_53 rfl (lv_at hl 0 rfl) ?_
        refine lv_iload_n hx hb dX11_shown_54 rfl (lv_at hl 1 rfl) ?_
        refine lv_iload_n hx hb dX11_shown_55 rfl (lv_at hl 2 rfl) ?_
        refine lv_iadd hx hb dX11_shown_56 ?_
        replace hF := obnd3_of hF
        obtain ⟨r5, fi3, ar4, h2, hF⟩ := hF
        refine cM_i (As := [.int ((x1) + (x2))]) (rest := []) hx hb hml hT hown hK hE hD hA hP hS (k_one l g am _ nf fi ar ((x1) + (x2)) r5 fi3 ar4 h2) cw_X11_one mw19_9 ⟨⟨rfl, rfl⟩, Nat.le_of_ble_eq_true rfl, Nat.le_of_ble_eq_true rfl⟩ rfl hl.1 rfl (Nat.le_of_ble_eq_true rfl) dX11_shown_57 ⟨Nat.zero_le _, Nat.zero_le _⟩ (fun H locs hP hS => ?_)
        refine lv_bipush (v := (32 : Int32)) hx hb dX11_shown_60 (by decide) ?_
        refine lv_icmp_ne (tgt := 68) hx hb dX11_shown_62 (by decide) (fun hc6 => ?_) (fun hc6 => ?_)
        · replace hF := br_no hF hc6
          refine lv_aload_n hx hb dX11_shown_68 rfl (lv_at hl 0 rfl) ?_
          refine mg_34 hx hb hT hown hK hP mw6_18 dX11_shown_69 ?_
          refine lv_aload_n hx hb dX11_shown_72 rfl (lv_at hl 0 rfl) ?_
          refine mg_35 hx hb hT hown hK hP mw33_9 dX11_shown_73 ?_
          refine lv_aload_n hx hb dX11_shown_76 rfl (lv_at hl 0 rfl) ?_
          refine lv_iload_n hx hb dX11_shown_77 rfl (lv_at hl 1 rfl) ?_
          refine lv_iload_n hx hb dX11_shown_78 rfl (lv_at hl 2 rfl) ?_
          refine lv_iadd hx hb dX11_shown_79 ?_
          replace hF := obnd3_of hF
          obtain ⟨r10, fi8, ar9, h7, hF⟩ := hF
          refine cM_i (As := [.int ((x1) + (x2))]) (rest := [.int (fi3 35), .ref (am 34)]) hx hb hml hT hown hK hE hD hA hP hS (k_one l g am _ nf fi3 ar4 ((x1) + (x2)) r10 fi8 ar9 h7) cw_X11_one mw19_9 ⟨⟨rfl, rfl⟩, Nat.le_of_ble_eq_true rfl, Nat.le_of_ble_eq_true rfl⟩ rfl hl.1 rfl (Nat.le_of_ble_eq_true rfl) dX11_shown_80 ⟨Nat.zero_le _, Nat.zero_le _⟩ (fun H locs hP hS => ?_)
          refine lv_i2c hx hb dX11_shown_83 rfl ?_
          replace hF := gd_of hF
          obtain ⟨hi11, hF⟩ := hF
          obtain ⟨ar12, ear12⟩ : ∃ y : AR, y = va_up ar9 34 (upd (ar9 34) (fi3 35).toNatClampNeg (vp_nar .char (((r10).toUInt32 % 65536).toInt32))) := ⟨_, rfl⟩
          replace hF := bnd_of hF ear12
          refine ms_34 hx hb hK hP hD hS hi11 dX11_shown_84 (fun H locs hP hS => ?_)
          rw [← ear12] at hP
          refine lv_aload_n hx hb dX11_shown_85 rfl (lv_at hl 0 rfl) ?_
          refine lv_dup hx hb dX11_shown_86 rfl ?_
          refine mg_35 hx hb hT hown hK hP mw33_9 dX11_shown_87 ?_
          refine lv_iconst (v := (1 : Int32)) hx hb dX11_shown_90 (by decide) ?_
          refine lv_iadd hx hb dX11_shown_91 ?_
          obtain ⟨fi13, efi13⟩ : ∃ y : FI, y = va_up fi8 35 ((fi8 35) + (1 : Int32)) := ⟨_, rfl⟩
          replace hF := bnd_of hF efi13
          refine mp_35 hx hb hT hown hK hP hD hS mw33_9 dX11_shown_92 (fun H locs hP hS => ?_)
          rw [← efi13] at hP
          exact J95 (x1) (x2) _ _ _ _ _ hF (lv_sub hl [0, 1, 2] rfl) hP hS
        · replace hF := br_yes hF hc6
          refine lv_goto (tgt := 95) hx hb dX11_shown_65 (by decide) ?_
          exact J95 (x1) (x2) _ _ _ _ _ hF (lv_sub hl [0, 1, 2] rfl) hP hS
      unfold M_shown_7b at hF
      refine lv_iload_n hx hb dX11_shown_7 rfl (lv_at hl 2 rfl) ?_
      refine lv_bipush (v := (11 : Int32)) hx hb dX11_shown_8 (by decide) ?_
      refine lv_icmp_ge (tgt := 101) hx hb dX11_shown_10 (by decide) (fun hc14 => ?_) (fun hc14 => ?_)
      · replace hF := br_yes hF hc14
        exact rM_v hx hb hr hlocks hF hP hS dX11_shown_101
      · replace hF := br_no hF hc14
        refine lv_iload_n hx hb dX11_shown_13 rfl (lv_at hl 2 rfl) ?_
        refine lv_bipush (v := (8 : Int32)) hx hb dX11_shown_14 (by decide) ?_
        refine lv_icmp_ne (tgt := 53) hx hb dX11_shown_16 (by decide) (fun hc15 => ?_) (fun hc15 => ?_)
        · replace hF := br_no hF hc15
          exact J53 (x1) (x2) _ _ _ _ _ hF (lv_sub hl [0, 1, 2] rfl) hP hS
        · replace hF := br_yes hF hc15
          refine lv_aload_n hx hb dX11_shown_19 rfl (lv_at hl 0 rfl) ?_
          refine lv_iload_n hx hb dX11_shown_20 rfl (lv_at hl 1 rfl) ?_
          refine lv_bipush (v := (8 : Int32)) hx hb dX11_shown_21 (by decide) ?_
          refine lv_iadd hx hb dX11_shown_23 ?_
          replace hF := obnd3_of hF
          obtain ⟨r19, fi17, ar18, h16, hF⟩ := hF
          refine cM_i (As := [.int ((x1) + (8 : Int32))]) (rest := []) hx hb hml hT hown hK hE hD hA hP hS (k_one l g am _ nf fi ar ((x1) + (8 : Int32)) r19 fi17 ar18 h16) cw_X11_one mw19_9 ⟨⟨rfl, rfl⟩, Nat.le_of_ble_eq_true rfl, Nat.le_of_ble_eq_true rfl⟩ rfl hl.1 rfl (Nat.le_of_ble_eq_true rfl) dX11_shown_24 ⟨Nat.zero_le _, Nat.zero_le _⟩ (fun H locs hP hS => ?_)
          refine lv_bipush (v := (32 : Int32)) hx hb dX11_shown_27 (by decide) ?_
          refine lv_icmp_eq (tgt := 53) hx hb dX11_shown_29 (by decide) (fun hc20 => ?_) (fun hc20 => ?_)
          · replace hF := br_yes hF hc20
            exact J53 (x1) (x2) _ _ _ _ _ hF (lv_sub hl [0, 1, 2] rfl) hP hS
          · replace hF := br_no hF hc20
            refine lv_aload_n hx hb dX11_shown_32 rfl (lv_at hl 0 rfl) ?_
            refine mg_34 hx hb hT hown hK hP mw6_18 dX11_shown_33 ?_
            refine lv_aload_n hx hb dX11_shown_36 rfl (lv_at hl 0 rfl) ?_
            refine mg_35 hx hb hT hown hK hP mw33_9 dX11_shown_37 ?_
            refine lv_bipush (v := (46 : Int32)) hx hb dX11_shown_40 (by decide) ?_
            replace hF := gd_of hF
            obtain ⟨hi21, hF⟩ := hF
            obtain ⟨ar22, ear22⟩ : ∃ y : AR, y = va_up ar18 34 (upd (ar18 34) (fi17 35).toNatClampNeg (vp_nar .char (46 : Int32))) := ⟨_, rfl⟩
            replace hF := bnd_of hF ear22
            refine ms_34 hx hb hK hP hD hS hi21 dX11_shown_42 (fun H locs hP hS => ?_)
            rw [← ear22] at hP
            refine lv_aload_n hx hb dX11_shown_43 rfl (lv_at hl 0 rfl) ?_
            refine lv_dup hx hb dX11_shown_44 rfl ?_
            refine mg_35 hx hb hT hown hK hP mw33_9 dX11_shown_45 ?_
            refine lv_iconst (v := (1 : Int32)) hx hb dX11_shown_48 (by decide) ?_
            refine lv_iadd hx hb dX11_shown_49 ?_
            obtain ⟨fi23, efi23⟩ : ∃ y : FI, y = va_up fi17 35 ((fi17 35) + (1 : Int32)) := ⟨_, rfl⟩
            replace hF := bnd_of hF efi23
            refine mp_35 hx hb hT hown hK hP hD hS mw33_9 dX11_shown_50 (fun H locs hP hS => ?_)
            rw [← efi23] at hP
            exact J53 (x1) (x2) _ _ _ _ _ hF (lv_sub hl [0, 1, 2] rfl) hP hS
  replace hl := lv_sub hl [0, 1] rfl
  refine lv_aload_n hx hb dX11_shown_0 rfl (lv_at hl 0 rfl) ?_
  refine lv_iconst (v := (0 : Int32)) hx hb dX11_shown_1 (by decide) ?_
  obtain ⟨fi24, efi24⟩ : ∃ y : FI, y = va_up fi 35 (0 : Int32) := ⟨_, rfl⟩
  replace hF := bnd_of hF efi24
  refine mp_35 hx hb hT hown hK hP hD hS mw33_9 dX11_shown_2 (fun H locs hP hS => ?_)
  rw [← efi24] at hP
  refine lv_iconst (v := (0 : Int32)) hx hb dX11_shown_5 (by decide) ?_
  refine lv_istore_n (lv' := [(2, .int (0 : Int32)), (0, .ref (am 0)), (1, .int (p1))]) hx hb dX11_shown_6 rfl hl (by decide) rfl (fun ls hl => ?_)
  exact L7 nf (p1) (0 : Int32) _ _ _ _ _ hF (lv_sub hl [1, 2, 0] rfl) hP hS
theorem cw_X11_shown : (Cond.instanceMethod yX11_shown ∈ TB ∧ Cond.selects RX11 yX11_shown yX11_shown ∈ TB ∧ Cond.code yX11_shown cX11_shown 3 none ∈ TB) ∧ (yX11_shown.cls = RX11 ∧ yX11_shown.cls ≠ "java/lang/invoke/MethodHandle" ∧ yX11_shown.cls ≠ "java/lang/invoke/VarHandle" ∧ (parseMethodDescriptor yX11_shown.desc).map (fun d => d.parameters.length) = some 1) := ⟨⟨mw35_11, mw35_12, mw35_13⟩, by decide +kernel⟩
/-! X11_capital -/
noncomputable def M_capital_20 (nf : Nat) (t0 : Int32) : Option Int32 :=
  some (t0)
noncomputable def M_capital_19 (nf : Nat) (x0 : Int32) : Option Int32 :=
  M_capital_20 nf  (x0)
noncomputable def M_capital (nf : Nat) (x0 : Int32) : Option Int32 :=
  br ((x0) < (97 : Int32)) (M_capital_19 nf  (x0)) (br ((122 : Int32) < (x0)) (M_capital_19 nf  (x0)) (M_capital_20 nf  ((x0) - (32 : Int32))))
set_option maxHeartbeats 4000000 in
set_option maxRecDepth 100000 in
theorem k_capital (l : Launch) (g : GT) (nf : Nat) (p0 : Int32) (r : Int32) (hF : M_capital nf p0 = some r) : Met l yX11_capital (wx yX11_capital cX11_capital 1 (some .int)) ({ frames := 0, cells := 0, slots := 0, locals := 0 } : Room) (va_Pc [.int p0] (PS g)) (QSi r) 0 0 noA := by
  refine Met.ofW (cc := cX11_capital) (maxL := 1) (ret := (some .int)) (by decide) rfl ?_
  intro p e s m args below meth c s₁ B hml hv
  obtain ⟨rfl, hE⟩ := hv
  have hx := B.exec
  have hb := B.bytes
  have hr := B.returns
  have hts := atoms_spec (ws := (wx yX11_capital cX11_capital 1 (some .int))) B.pre
  have hT : ∀ w ∈ TB, w.before _ s = true := fun w h => hts w (List.mem_cons_of_mem _ h)
  have hown : s.vm.findClass RX11 = some m.cls := findClass_of_methodNamed B.named
  have hlocks := B.notSynchronized
  have hS : va_S noA s.heap s.heap [] := va_S.rf
  have hP : va_P (gD g) vwCl [] s.heap := fun k q h => by cases h
  have hl := lv_entry ([.int p0]) (n := 1) (Nat.le_of_ble_eq_true rfl)
  rw [lg_entry_eq]
  generalize (lg_sl ([.int p0]) ++ List.replicate (1 - (lg_sl ([.int p0])).length) Slot.unset).toArray = ls at hl ⊢
  have hl : lv_has ls 1 [(0, .int p0)] := hl
  unfold M_capital at hF
  have J20 : ∀ (t0 : Int32) (H : Heap) (locs : List Loc) (ls : Array Slot), M_capital_20 nf t0 = some r → lv_has ls 1 [] → va_P (gD g) vwCl [] H → va_S noA s.heap H locs → W p l e (headSpec (wx yX11_capital cX11_capital 1 (some .int)) ({ frames := 0, cells := 0, slots := 0, locals := 0 } : Room)).room s m ([.int p0] : List Value).toArray below meth c H locs 0 0 (MQ below (QSi r) ([.int p0] : List Value).toArray s 0 0 noA) (F0 m 20 ls [.int t0]) := by
    intro t0 H locs ls hF hl hP hS
    unfold M_capital_20 at hF
    exact rS_i hx hb hr hlocks hF hS dX11_capital_20
  have J19 : ∀ (x0 : Int32) (H : Heap) (locs : List Loc) (ls : Array Slot), M_capital_19 nf x0 = some r → lv_has ls 1 [(0, .int x0)] → va_P (gD g) vwCl [] H → va_S noA s.heap H locs → W p l e (headSpec (wx yX11_capital cX11_capital 1 (some .int)) ({ frames := 0, cells := 0, slots := 0, locals := 0 } : Room)).room s m ([.int p0] : List Value).toArray below meth c H locs 0 0 (MQ below (QSi r) ([.int p0] : List Value).toArray s 0 0 noA) (F0 m 19 ls []) := by
    intro x0 H locs ls hF hl hP hS
    unfold M_capital_19 at hF
    refine lv_iload_n hx hb dX11_capital_19 rfl (lv_at hl 0 rfl) ?_
    exact J20 (x0)  _ _ _ hF (lv_sub hl [] rfl) hP hS
  replace hl := lv_sub hl [0] rfl
  refine lv_iload_n hx hb dX11_capital_0 rfl (lv_at hl 0 rfl) ?_
  refine lv_bipush (v := (97 : Int32)) hx hb dX11_capital_1 (by decide) ?_
  refine lv_icmp_lt (tgt := 19) hx hb dX11_capital_3 (by decide) (fun hc1 => ?_) (fun hc1 => ?_)
  · replace hF := br_yes hF hc1
    exact J19 (p0)  _ _ _ hF (lv_sub hl [0] rfl) hP hS
  · replace hF := br_no hF hc1
    refine lv_iload_n hx hb dX11_capital_6 rfl (lv_at hl 0 rfl) ?_
    refine lv_bipush (v := (122 : Int32)) hx hb dX11_capital_7 (by decide) ?_
    refine lv_icmp_gt (tgt := 19) hx hb dX11_capital_9 (by decide) (fun hc2 => ?_) (fun hc2 => ?_)
    · replace hF := br_yes hF hc2
      exact J19 (p0)  _ _ _ hF (lv_sub hl [0] rfl) hP hS
    · replace hF := br_no hF hc2
      refine lv_iload_n hx hb dX11_capital_12 rfl (lv_at hl 0 rfl) ?_
      refine lv_bipush (v := (32 : Int32)) hx hb dX11_capital_13 (by decide) ?_
      refine lv_isub hx hb dX11_capital_15 ?_
      refine lv_goto (tgt := 20) hx hb dX11_capital_16 (by decide) ?_
      exact J20 ((p0) - (32 : Int32))  _ _ _ hF (lv_sub hl [] rfl) hP hS
theorem cw_X11_capital : (Cond.static yX11_capital ∈ TB ∧ Cond.code yX11_capital cX11_capital 1 (some .int) ∈ TB ∧ Cond.initialized yX11_capital.cls ∈ TB) ∧ (yX11_capital.cls ≠ "java/lang/invoke/MethodHandle" ∧ yX11_capital.cls ≠ "java/lang/invoke/VarHandle" ∧ (parseMethodDescriptor yX11_capital.desc).map (fun d => d.parameters.length) = some 1) := ⟨⟨mw35_23, mw36_0, mw1_5⟩, by decide +kernel⟩
/-! X11_isAlike -/
noncomputable def M_isAlike_73 (nf : Nat) (x2 : Int32) (fi : FI) (ar : AR) : Option (Int32 × FI × AR) :=
  gd ((x2) &&& 1 = (x2)) (some ((x2), fi, ar))
noncomputable def M_isAlike_66 (K21 : Int32 → Int32 → Int32 → FI → AR → Option (Int32 × FI × AR)) (nf : Nat) (x1 : Int32) (x3 : Int32) (t0 : Int32) (fi : FI) (ar : AR) : Option (Int32 × FI × AR) :=
  bnd ((x3) + (1 : Int32)) fun x3_2 => K21 (x1) (t0) (x3_2) fi ar
noncomputable def M_isAlike_21b (K21 : Int32 → Int32 → Int32 → FI → AR → Option (Int32 × FI × AR)) (nf : Nat) (x1 : Int32) (x2 : Int32) (x3 : Int32) (fi : FI) (ar : AR) : Option (Int32 × FI × AR) :=
  br ((fi 35) ≤ (x3)) (M_isAlike_73 nf  (x2) fi ar) (br ((x2) = 0) (M_isAlike_73 nf  (x2) fi ar) (gd (¬ ((x1) < 0 ∨ 16400 ≤ (x1).toNatClampNeg)) (gd (¬ (((ar 26 (x1).toNatClampNeg) + (x3)) < 0 ∨ 213600 ≤ ((ar 26 (x1).toNatClampNeg) + (x3)).toNatClampNeg)) (obnd (M_capital nf (ar 28 ((ar 26 (x1).toNatClampNeg) + (x3)).toNatClampNeg)) fun r8 => gd (¬ ((x3) < 0 ∨ 300 ≤ (x3).toNatClampNeg)) (obnd (M_capital nf (ar 34 (x3).toNatClampNeg)) fun r11 => br ((r8) = (r11)) (M_isAlike_66 K21 nf  (x1) (x3) (1 : Int32) fi ar) (M_isAlike_66 K21 nf  (x1) (x3) (0 : Int32) fi ar))))))
noncomputable def M_isAlike_21 (nf : Nat) (kf : Nat) : Int32 → Int32 → Int32 → FI → AR → Option (Int32 × FI × AR) := Nat.rec (fun _ _ _ _ _ => none) (fun _ K21 => M_isAlike_21b K21 nf) kf
noncomputable def M_isAlike_18 (nf : Nat) (x1 : Int32) (t0 : Int32) (fi : FI) (ar : AR) : Option (Int32 × FI × AR) :=
  M_isAlike_21 nf nf (x1) (t0) (0 : Int32) fi ar
noncomputable def M_isAlike (nf : Nat) (fi : FI) (ar : AR) (x1 : Int32) : Option (Int32 × FI × AR) :=
  gd (¬ ((x1) < 0 ∨ 16400 ≤ (x1).toNatClampNeg)) (br ((ar 27 (x1).toNatClampNeg) = (fi 35)) (M_isAlike_18 nf  (x1) (1 : Int32) fi ar) (M_isAlike_18 nf  (x1) (0 : Int32) fi ar))
set_option maxHeartbeats 4000000 in
set_option maxRecDepth 100000 in
theorem k_isAlike (l : Launch) (g : GT) (am : Nat → Nat) (sz : Nat) (nf : Nat) (fi : FI) (ar : AR) (p1 : Int32) (r : Int32) (fi' : FI) (ar' : AR) (hF : M_isAlike nf fi ar p1 = some (r, fi', ar')) : Met l yX11_isAlike (wx yX11_isAlike cX11_isAlike 4 (some .boolean)) ({ frames := 1, cells := 0, slots := 0, locals := 20 } : Room) (va_Pc [.ref (am 0), .int p1] (PM g am sz fi ar)) (QMi g am sz r fi' ar') 0 0 (AM am sz) := by
  refine Met.ofW (cc := cX11_isAlike) (maxL := 4) (ret := (some .boolean)) (by decide) rfl ?_
  intro p e s m args below meth c s₁ B hml hv
  obtain ⟨rfl, hsz, hP, hK, hD0, hE⟩ := hv
  have hx := B.exec
  have hb := B.bytes
  have hr := B.returns
  have hts := atoms_spec (ws := (wx yX11_isAlike cX11_isAlike 4 (some .boolean))) B.pre
  have hT : ∀ w ∈ TB, w.before _ s = true := fun w h => hts w (List.mem_cons_of_mem _ h)
  have hown : s.vm.findClass RX11 = some m.cls := findClass_of_methodNamed B.named
  have hlocks := B.notSynchronized
  subst hsz
  have hD := dM hD0 s.heap.size
  have hA : ∀ q : Nat, s.heap.size ≤ q → AM am s.heap.size q := fun q h => Or.inr h
  have hS : va_S (AM am s.heap.size) s.heap s.heap [] := va_S.rf
  have hl := lv_entry ([.ref (am 0), .int p1]) (n := 4) (Nat.le_of_ble_eq_true rfl)
  rw [lg_entry_eq]
  generalize (lg_sl ([.ref (am 0), .int p1]) ++ List.replicate (4 - (lg_sl ([.ref (am 0), .int p1])).length) Slot.unset).toArray = ls at hl ⊢
  have hl : lv_has ls 4 [(0, .ref (am 0)), (1, .int p1)] := hl
  unfold M_isAlike at hF
  have J73 : ∀ (x2 : Int32) (fi : FI) (ar : AR) (H : Heap) (locs : List Loc) (ls : Array Slot), M_isAlike_73 nf x2 fi ar = some (r, fi', ar') → lv_has ls 4 [(0, .ref (am 0)), (2, .int x2)] → va_P (gD g) vwCl (WM g am fi ar) H → va_S (AM am s.heap.size) s.heap H locs → W p l e (headSpec (wx yX11_isAlike cX11_isAlike 4 (some .boolean)) ({ frames := 1, cells := 0, slots := 0, locals := 20 } : Room)).room s m ([.ref (am 0), .int p1] : List Value).toArray below meth c H locs 0 0 (MQ below (QMi g am s.heap.size r fi' ar') ([.ref (am 0), .int p1] : List Value).toArray s 0 0 (AM am s.heap.size)) (F0 m 73 ls []) := by
    intro x2 fi ar H locs ls hF hl hP hS
    unfold M_isAlike_73 at hF
    refine lv_iload_n hx hb dX11_isAlike_73 rfl (lv_at hl 1 rfl) ?_
    replace hF := gd_of hF
    obtain ⟨hz1, hF⟩ := hF
    exact rM_z hx hb hr hlocks (nar_z hz1) hF hP hS dX11_isAlike_74
  have L21 : ∀ kf : Nat, ∀ (x1 : Int32) (x2 : Int32) (x3 : Int32) (fi : FI) (ar : AR) (H : Heap) (locs : List Loc) (ls : Array Slot), M_isAlike_21 nf kf x1 x2 x3 fi ar = some (r, fi', ar') → lv_has ls 4 [(0, .ref (am 0)), (1, .int x1), (2, .int x2), (3, .int x3)] → va_P (gD g) vwCl (WM g am fi ar) H → va_S (AM am s.heap.size) s.heap H locs → W p l e (headSpec (wx yX11_isAlike cX11_isAlike 4 (some .boolean)) ({ frames := 1, cells := 0, slots := 0, locals := 20 } : Room)).room s m ([.ref (am 0), .int p1] : List Value).toArray below meth c H locs 0 0 (MQ below (QMi g am s.heap.size r fi' ar') ([.ref (am 0), .int p1] : List Value).toArray s 0 0 (AM am s.heap.size)) (F0 m 21 ls []) := by
    intro kf
    induction kf with
    | zero => intro x1 x2 x3 fi ar H locs ls hF hl hP hS; cases (show (none : Option (Int32 × FI × AR)) = _ from hF)
    | succ kf ih21 =>
      intro x1 x2 x3 fi ar H locs ls hF hl hP hS
      obtain ⟨K21, hK21⟩ : ∃ K : Int32 → Int32 → Int32 → FI → AR → Option (Int32 × FI × AR), K = M_isAlike_21 nf kf := ⟨_, rfl⟩
      replace hF : M_isAlike_21b K21 nf x1 x2 x3 fi ar = some (r, fi', ar') := by rw [hK21]; exact hF
      rw [← hK21] at ih21
      clear hK21
      have J66 : ∀ (x1 : Int32) (x3 : Int32) (t0 : Int32) (fi : FI) (ar : AR) (H : Heap) (locs : List Loc) (ls : Array Slot), M_isAlike_66 K21 nf x1 x3 t0 fi ar = some (r, fi', ar') → lv_has ls 4 [(0, .ref (am 0)), (1, .int x1), (3, .int x3)] → va_P (gD g) vwCl (WM g am fi ar) H → va_S (AM am s.heap.size) s.heap H locs → W p l e (headSpec (wx yX11_isAlike cX11_isAlike 4 (some .boolean)) ({ frames := 1, cells := 0, slots := 0, locals := 20 } : Room)).room s m ([.ref (am 0), .int p1] : List Value).toArray below meth c H locs 0 0 (MQ below (QMi g am s.heap.size r fi' ar') ([.ref (am 0), .int p1] : List Value).toArray s 0 0 (AM am s.heap.size)) (F0 m 66 ls [.int t0]) := by
        intro x1 x3 t0 fi ar H locs ls hF hl hP hS
        unfold M_isAlike_66 at hF
        refine lv_istore_n (lv' := [(2, .int (t0)), (0, .ref (am 0)), (1, .int (x1)), (3, .int (x3))]) hx hb dX11_isAlike_66 rfl hl (by decide) rfl (fun ls hl => ?_)
        obtain ⟨x3_2, ex3_2⟩ : ∃ y : Int32, y = (x3) + (1 : Int32) := ⟨_, rfl⟩
        replace hF := bnd_of hF ex3_2
        refine lv_iinc (v := x3_2) (lv' := [(3, .int (x3_2)), (2, .int (t0)), (0, .ref (am 0)), (1, .int (x1))]) hx hb dX11_isAlike_67 hl (k := 3) rfl (by rw [ex3_2]; rfl) (by decide) rfl (fun ls hl => ?_)
        refine lv_goto (tgt := 21) hx hb dX11_isAlike_70 (by decide) ?_
        exact ih21 (x1) (t0) (x3_2) _ _ _ _ _ hF (lv_sub hl [2, 3, 1, 0] rfl) hP hS
      unfold M_isAlike_21b at hF
      refine lv_iload_n hx hb dX11_isAlike_21 rfl (lv_at hl 3 rfl) ?_
      refine lv_aload_n hx hb dX11_isAlike_22 rfl (lv_at hl 0 rfl) ?_
      refine mg_35 hx hb hT hown hK hP mw33_9 dX11_isAlike_23 ?_
      refine lv_icmp_ge (tgt := 73) hx hb dX11_isAlike_26 (by decide) (fun hc3 => ?_) (fun hc3 => ?_)
      · replace hF := br_yes hF hc3
        exact J73 (x2) _ _ _ _ _ hF (lv_sub hl [0, 2] rfl) hP hS
      · replace hF := br_no hF hc3
        refine lv_iload_n hx hb dX11_isAlike_29 rfl (lv_at hl 2 rfl) ?_
        refine lv_if_eq (tgt := 73) hx hb dX11_isAlike_30 (by decide) (fun hc4 => ?_) (fun hc4 => ?_)
        · replace hF := br_yes hF hc4
          exact J73 (x2) _ _ _ _ _ hF (lv_sub hl [0, 2] rfl) hP hS
        · replace hF := br_no hF hc4
          refine lv_aload_n hx hb dX11_isAlike_33 rfl (lv_at hl 0 rfl) ?_
          refine mg_28 hx hb hT hown hK hP mw6_15 dX11_isAlike_34 ?_
          refine lv_aload_n hx hb dX11_isAlike_37 rfl (lv_at hl 0 rfl) ?_
          refine mg_26 hx hb hT hown hK hP mw6_11 dX11_isAlike_38 ?_
          refine lv_iload_n hx hb dX11_isAlike_41 rfl (lv_at hl 1 rfl) ?_
          replace hF := gd_of hF
          obtain ⟨hi5, hF⟩ := hF
          refine ml_26 hx hb hK hP hi5 dX11_isAlike_42 ?_
          refine lv_iload_n hx hb dX11_isAlike_43 rfl (lv_at hl 3 rfl) ?_
          refine lv_iadd hx hb dX11_isAlike_44 ?_
          replace hF := gd_of hF
          obtain ⟨hi6, hF⟩ := hF
          refine ml_28 hx hb hK hP hi6 dX11_isAlike_45 ?_
          replace hF := obnd_of hF
          obtain ⟨r8, h7, hF⟩ := hF
          refine cS_i (As := [.int (ar 28 ((ar 26 (x1).toNatClampNeg) + (x3)).toNatClampNeg)]) (rest := []) hx hb hml hT hown hE hP hS (k_capital l g nf (ar 28 ((ar 26 (x1).toNatClampNeg) + (x3)).toNatClampNeg) r8 h7) cw_X11_capital mw35_22 ⟨⟨rfl, rfl⟩, Nat.le_of_ble_eq_true rfl, Nat.le_of_ble_eq_true rfl⟩ rfl hl.1 rfl (Nat.le_of_ble_eq_true rfl) dX11_isAlike_46 ⟨Nat.zero_le _, Nat.zero_le _⟩ (fun H locs hP hS => ?_)
          refine lv_aload_n hx hb dX11_isAlike_49 rfl (lv_at hl 0 rfl) ?_
          refine mg_34 hx hb hT hown hK hP mw6_18 dX11_isAlike_50 ?_
          refine lv_iload_n hx hb dX11_isAlike_53 rfl (lv_at hl 3 rfl) ?_
          replace hF := gd_of hF
          obtain ⟨hi9, hF⟩ := hF
          refine ml_34 hx hb hK hP hi9 dX11_isAlike_54 ?_
          replace hF := obnd_of hF
          obtain ⟨r11, h10, hF⟩ := hF
          refine cS_i (As := [.int (ar 34 (x3).toNatClampNeg)]) (rest := [.int (r8)]) hx hb hml hT hown hE hP hS (k_capital l g nf (ar 34 (x3).toNatClampNeg) r11 h10) cw_X11_capital mw35_22 ⟨⟨rfl, rfl⟩, Nat.le_of_ble_eq_true rfl, Nat.le_of_ble_eq_true rfl⟩ rfl hl.1 rfl (Nat.le_of_ble_eq_true rfl) dX11_isAlike_55 ⟨Nat.zero_le _, Nat.zero_le _⟩ (fun H locs hP hS => ?_)
          refine lv_icmp_ne (tgt := 65) hx hb dX11_isAlike_58 (by decide) (fun hc12 => ?_) (fun hc12 => ?_)
          · replace hF := br_no hF hc12
            refine lv_iconst (v := (0 : Int32)) hx hb dX11_isAlike_65 (by decide) ?_
            exact J66 (x1) (x3) (0 : Int32) _ _ _ _ _ hF (lv_sub hl [0, 1, 3] rfl) hP hS
          · replace hF := br_yes hF hc12
            refine lv_iconst (v := (1 : Int32)) hx hb dX11_isAlike_61 (by decide) ?_
            refine lv_goto (tgt := 66) hx hb dX11_isAlike_62 (by decide) ?_
            exact J66 (x1) (x3) (1 : Int32) _ _ _ _ _ hF (lv_sub hl [0, 1, 3] rfl) hP hS
  have J18 : ∀ (x1 : Int32) (t0 : Int32) (fi : FI) (ar : AR) (H : Heap) (locs : List Loc) (ls : Array Slot), M_isAlike_18 nf x1 t0 fi ar = some (r, fi', ar') → lv_has ls 4 [(0, .ref (am 0)), (1, .int x1)] → va_P (gD g) vwCl (WM g am fi ar) H → va_S (AM am s.heap.size) s.heap H locs → W p l e (headSpec (wx yX11_isAlike cX11_isAlike 4 (some .boolean)) ({ frames := 1, cells := 0, slots := 0, locals := 20 } : Room)).room s m ([.ref (am 0), .int p1] : List Value).toArray below meth c H locs 0 0 (MQ below (QMi g am s.heap.size r fi' ar') ([.ref (am 0), .int p1] : List Value).toArray s 0 0 (AM am s.heap.size)) (F0 m 18 ls [.int t0]) := by
    intro x1 t0 fi ar H locs ls hF hl hP hS
    unfold M_isAlike_18 at hF
    refine lv_istore_n (lv' := [(2, .int (t0)), (0, .ref (am 0)), (1, .int (x1))]) hx hb dX11_isAlike_18 rfl hl (by decide) rfl (fun ls hl => ?_)
    refine lv_iconst (v := (0 : Int32)) hx hb dX11_isAlike_19 (by decide) ?_
    refine lv_istore_n (lv' := [(3, .int (0 : Int32)), (2, .int (t0)), (0, .ref (am 0)), (1, .int (x1))]) hx hb dX11_isAlike_20 rfl hl (by decide) rfl (fun ls hl => ?_)
    exact L21 nf (x1) (t0) (0 : Int32) _ _ _ _ _ hF (lv_sub hl [2, 3, 1, 0] rfl) hP hS
  replace hl := lv_sub hl [0, 1] rfl
  refine lv_aload_n hx hb dX11_isAlike_0 rfl (lv_at hl 0 rfl) ?_
  refine mg_27 hx hb hT hown hK hP mw6_12 dX11_isAlike_1 ?_
  refine lv_iload_n hx hb dX11_isAlike_4 rfl (lv_at hl 1 rfl) ?_
  replace hF := gd_of hF
  obtain ⟨hi13, hF⟩ := hF
  refine ml_27 hx hb hK hP hi13 dX11_isAlike_5 ?_
  refine lv_aload_n hx hb dX11_isAlike_6 rfl (lv_at hl 0 rfl) ?_
  refine mg_35 hx hb hT hown hK hP mw33_9 dX11_isAlike_7 ?_
  refine lv_icmp_ne (tgt := 17) hx hb dX11_isAlike_10 (by decide) (fun hc14 => ?_) (fun hc14 => ?_)
  · replace hF := br_no hF hc14
    refine lv_iconst (v := (0 : Int32)) hx hb dX11_isAlike_17 (by decide) ?_
    exact J18 (p1) (0 : Int32) _ _ _ _ _ hF (lv_sub hl [0, 1] rfl) hP hS
  · replace hF := br_yes hF hc14
    refine lv_iconst (v := (1 : Int32)) hx hb dX11_isAlike_13 (by decide) ?_
    refine lv_goto (tgt := 18) hx hb dX11_isAlike_14 (by decide) ?_
    exact J18 (p1) (1 : Int32) _ _ _ _ _ hF (lv_sub hl [0, 1] rfl) hP hS
theorem cw_X11_isAlike : (Cond.instanceMethod yX11_isAlike ∈ TB ∧ Cond.selects RX11 yX11_isAlike yX11_isAlike ∈ TB ∧ Cond.code yX11_isAlike cX11_isAlike 4 (some .boolean) ∈ TB) ∧ (yX11_isAlike.cls = RX11 ∧ yX11_isAlike.cls ≠ "java/lang/invoke/MethodHandle" ∧ yX11_isAlike.cls ≠ "java/lang/invoke/VarHandle" ∧ (parseMethodDescriptor yX11_isAlike.desc).map (fun d => d.parameters.length) = some 1) := ⟨⟨mw35_19, mw35_20, mw35_21⟩, by decide +kernel⟩
/-! X11_isTaken -/
noncomputable def M_isTaken_42 (nf : Nat) (x2 : Int32) (fi : FI) (ar : AR) : Option (Int32 × FI × AR) :=
  gd ((x2) &&& 1 = (x2)) (some ((x2), fi, ar))
noncomputable def M_isTaken_9b (K9 : Int32 → Int32 → Int32 → FI → AR → Option (Int32 × FI × AR)) (nf : Nat) (x1 : Int32) (x2 : Int32) (x3 : Int32) (fi : FI) (ar : AR) : Option (Int32 × FI × AR) :=
  gd (¬ ((x1) < 0 ∨ 16400 ≤ (x1).toNatClampNeg)) (gd (¬ ((x1) < 0 ∨ 16400 ≤ (x1).toNatClampNeg)) (br (((ar 25 (x1).toNatClampNeg) + (ar 24 (x1).toNatClampNeg)) ≤ (x3)) (M_isTaken_42 nf  (x2) fi ar) (br ((x2) = 0) (obnd3 (M_isAlike nf fi ar (x3)) fun r9 fi7 ar8 => bnd ((x3) + (1 : Int32)) fun x3_10 => K9 (x1) (r9) (x3_10) fi7 ar8) (M_isTaken_42 nf  (x2) fi ar))))
noncomputable def M_isTaken_9 (nf : Nat) (kf : Nat) : Int32 → Int32 → Int32 → FI → AR → Option (Int32 × FI × AR) := Nat.rec (fun _ _ _ _ _ => none) (fun _ K9 => M_isTaken_9b K9 nf) kf
noncomputable def M_isTaken (nf : Nat) (fi : FI) (ar : AR) (x1 : Int32) : Option (Int32 × FI × AR) :=
  gd (¬ ((x1) < 0 ∨ 16400 ≤ (x1).toNatClampNeg)) (bnd (ar 25 (x1).toNatClampNeg) fun x3_12 => M_isTaken_9 nf nf (x1) (0 : Int32) (x3_12) fi ar)
set_option maxHeartbeats 4000000 in
set_option maxRecDepth 100000 in
theorem k_isTaken (l : Launch) (g : GT) (am : Nat → Nat) (sz : Nat) (nf : Nat) (fi : FI) (ar : AR) (p1 : Int32) (r : Int32) (fi' : FI) (ar' : AR) (hF : M_isTaken nf fi ar p1 = some (r, fi', ar')) : Met l yX11_isTaken (wx yX11_isTaken cX11_isTaken 4 (some .boolean)) ({ frames := 2, cells := 0, slots := 0, locals := 43 } : Room) (va_Pc [.ref (am 0), .int p1] (PM g am sz fi ar)) (QMi g am sz r fi' ar') 0 0 (AM am sz) := by
  refine Met.ofW (cc := cX11_isTaken) (maxL := 4) (ret := (some .boolean)) (by decide) rfl ?_
  intro p e s m args below meth c s₁ B hml hv
  obtain ⟨rfl, hsz, hP, hK, hD0, hE⟩ := hv
  have hx := B.exec
  have hb := B.bytes
  have hr := B.returns
  have hts := atoms_spec (ws := (wx yX11_isTaken cX11_isTaken 4 (some .boolean))) B.pre
  have hT : ∀ w ∈ TB, w.before _ s = true := fun w h => hts w (List.mem_cons_of_mem _ h)
  have hown : s.vm.findClass RX11 = some m.cls := findClass_of_methodNamed B.named
  have hlocks := B.notSynchronized
  subst hsz
  have hD := dM hD0 s.heap.size
  have hA : ∀ q : Nat, s.heap.size ≤ q → AM am s.heap.size q := fun q h => Or.inr h
  have hS : va_S (AM am s.heap.size) s.heap s.heap [] := va_S.rf
  have hl := lv_entry ([.ref (am 0), .int p1]) (n := 4) (Nat.le_of_ble_eq_true rfl)
  rw [lg_entry_eq]
  generalize (lg_sl ([.ref (am 0), .int p1]) ++ List.replicate (4 - (lg_sl ([.ref (am 0), .int p1])).length) Slot.unset).toArray = ls at hl ⊢
  have hl : lv_has ls 4 [(0, .ref (am 0)), (1, .int p1)] := hl
  unfold M_isTaken at hF
  have J42 : ∀ (x2 : Int32) (fi : FI) (ar : AR) (H : Heap) (locs : List Loc) (ls : Array Slot), M_isTaken_42 nf x2 fi ar = some (r, fi', ar') → lv_has ls 4 [(0, .ref (am 0)), (2, .int x2)] → va_P (gD g) vwCl (WM g am fi ar) H → va_S (AM am s.heap.size) s.heap H locs → W p l e (headSpec (wx yX11_isTaken cX11_isTaken 4 (some .boolean)) ({ frames := 2, cells := 0, slots := 0, locals := 43 } : Room)).room s m ([.ref (am 0), .int p1] : List Value).toArray below meth c H locs 0 0 (MQ below (QMi g am s.heap.size r fi' ar') ([.ref (am 0), .int p1] : List Value).toArray s 0 0 (AM am s.heap.size)) (F0 m 42 ls []) := by
    intro x2 fi ar H locs ls hF hl hP hS
    unfold M_isTaken_42 at hF
    refine lv_iload_n hx hb dX11_isTaken_42 rfl (lv_at hl 1 rfl) ?_
    replace hF := gd_of hF
    obtain ⟨hz1, hF⟩ := hF
    exact rM_z hx hb hr hlocks (nar_z hz1) hF hP hS dX11_isTaken_43
  have L9 : ∀ kf : Nat, ∀ (x1 : Int32) (x2 : Int32) (x3 : Int32) (fi : FI) (ar : AR) (H : Heap) (locs : List Loc) (ls : Array Slot), M_isTaken_9 nf kf x1 x2 x3 fi ar = some (r, fi', ar') → lv_has ls 4 [(0, .ref (am 0)), (1, .int x1), (2, .int x2), (3, .int x3)] → va_P (gD g) vwCl (WM g am fi ar) H → va_S (AM am s.heap.size) s.heap H locs → W p l e (headSpec (wx yX11_isTaken cX11_isTaken 4 (some .boolean)) ({ frames := 2, cells := 0, slots := 0, locals := 43 } : Room)).room s m ([.ref (am 0), .int p1] : List Value).toArray below meth c H locs 0 0 (MQ below (QMi g am s.heap.size r fi' ar') ([.ref (am 0), .int p1] : List Value).toArray s 0 0 (AM am s.heap.size)) (F0 m 9 ls []) := by
    intro kf
    induction kf with
    | zero => intro x1 x2 x3 fi ar H locs ls hF hl hP hS; cases (show (none : Option (Int32 × FI × AR)) = _ from hF)
    | succ kf ih9 =>
      intro x1 x2 x3 fi ar H locs ls hF hl hP hS
      obtain ⟨K9, hK9⟩ : ∃ K : Int32 → Int32 → Int32 → FI → AR → Option (Int32 × FI × AR), K = M_isTaken_9 nf kf := ⟨_, rfl⟩
      replace hF : M_isTaken_9b K9 nf x1 x2 x3 fi ar = some (r, fi', ar') := by rw [hK9]; exact hF
      rw [← hK9] at ih9
      clear hK9
      unfold M_isTaken_9b at hF
      refine lv_iload_n hx hb dX11_isTaken_9 rfl (lv_at hl 3 rfl) ?_
      refine lv_aload_n hx hb dX11_isTaken_10 rfl (lv_at hl 0 rfl) ?_
      refine mg_25 hx hb hT hown hK hP mw6_10 dX11_isTaken_11 ?_
      refine lv_iload_n hx hb dX11_isTaken_14 rfl (lv_at hl 1 rfl) ?_
      replace hF := gd_of hF
      obtain ⟨hi2, hF⟩ := hF
      refine ml_25 hx hb hK hP hi2 dX11_isTaken_15 ?_
      refine lv_aload_n hx hb dX11_isTaken_16 rfl (lv_at hl 0 rfl) ?_
      refine mg_24 hx hb hT hown hK hP mw6_9 dX11_isTaken_17 ?_
      refine lv_iload_n hx hb dX11_isTaken_20 rfl (lv_at hl 1 rfl) ?_
      replace hF := gd_of hF
      obtain ⟨hi3, hF⟩ := hF
      refine ml_24 hx hb hK hP hi3 dX11_isTaken_21 ?_
      refine lv_iadd hx hb dX11_isTaken_22 ?_
      refine lv_icmp_ge (tgt := 42) hx hb dX11_isTaken_23 (by decide) (fun hc4 => ?_) (fun hc4 => ?_)
      · replace hF := br_yes hF hc4
        exact J42 (x2) _ _ _ _ _ hF (lv_sub hl [0, 2] rfl) hP hS
      · replace hF := br_no hF hc4
        refine lv_iload_n hx hb dX11_isTaken_26 rfl (lv_at hl 2 rfl) ?_
        refine lv_if_ne (tgt := 42) hx hb dX11_isTaken_27 (by decide) (fun hc5 => ?_) (fun hc5 => ?_)
        · replace hF := br_no hF hc5
          exact J42 (x2) _ _ _ _ _ hF (lv_sub hl [0, 2] rfl) hP hS
        · replace hF := br_yes hF hc5
          refine lv_aload_n hx hb dX11_isTaken_30 rfl (lv_at hl 0 rfl) ?_
          refine lv_iload_n hx hb dX11_isTaken_31 rfl (lv_at hl 3 rfl) ?_
          replace hF := obnd3_of hF
          obtain ⟨r9, fi7, ar8, h6, hF⟩ := hF
          refine cM_i (As := [.int (x3)]) (rest := []) hx hb hml hT hown hK hE hD hA hP hS (k_isAlike l g am _ nf fi ar (x3) r9 fi7 ar8 h6) cw_X11_isAlike mw35_18 ⟨⟨rfl, rfl⟩, Nat.le_of_ble_eq_true rfl, Nat.le_of_ble_eq_true rfl⟩ rfl hl.1 rfl (Nat.le_of_ble_eq_true rfl) dX11_isTaken_32 ⟨Nat.zero_le _, Nat.zero_le _⟩ (fun H locs hP hS => ?_)
          refine lv_istore_n (lv' := [(2, .int (r9)), (0, .ref (am 0)), (1, .int (x1)), (3, .int (x3))]) hx hb dX11_isTaken_35 rfl hl (by decide) rfl (fun ls hl => ?_)
          obtain ⟨x3_10, ex3_10⟩ : ∃ y : Int32, y = (x3) + (1 : Int32) := ⟨_, rfl⟩
          replace hF := bnd_of hF ex3_10
          refine lv_iinc (v := x3_10) (lv' := [(3, .int (x3_10)), (2, .int (r9)), (0, .ref (am 0)), (1, .int (x1))]) hx hb dX11_isTaken_36 hl (k := 3) rfl (by rw [ex3_10]; rfl) (by decide) rfl (fun ls hl => ?_)
          refine lv_goto (tgt := 9) hx hb dX11_isTaken_39 (by decide) ?_
          exact ih9 (x1) (r9) (x3_10) _ _ _ _ _ hF (lv_sub hl [2, 3, 1, 0] rfl) hP hS
  replace hl := lv_sub hl [0, 1] rfl
  refine lv_iconst (v := (0 : Int32)) hx hb dX11_isTaken_0 (by decide) ?_
  refine lv_istore_n (lv' := [(2, .int (0 : Int32)), (0, .ref (am 0)), (1, .int (p1))]) hx hb dX11_isTaken_1 rfl hl (by decide) rfl (fun ls hl => ?_)
  refine lv_aload_n hx hb dX11_isTaken_2 rfl (lv_at hl 1 rfl) ?_
  refine mg_25 hx hb hT hown hK hP mw6_10 dX11_isTaken_3 ?_
  refine lv_iload_n hx hb dX11_isTaken_6 rfl (lv_at hl 2 rfl) ?_
  replace hF := gd_of hF
  obtain ⟨hi11, hF⟩ := hF
  refine ml_25 hx hb hK hP hi11 dX11_isTaken_7 ?_
  obtain ⟨x3_12, ex3_12⟩ : ∃ y : Int32, y = (ar 25 (p1).toNatClampNeg) := ⟨_, rfl⟩
  rw [← ex3_12]
  replace hF := bnd_of hF ex3_12
  refine lv_istore_n (lv' := [(3, .int (x3_12)), (2, .int (0 : Int32)), (0, .ref (am 0)), (1, .int (p1))]) hx hb dX11_isTaken_8 rfl hl (by decide) rfl (fun ls hl => ?_)
  exact L9 nf (p1) (0 : Int32) (x3_12) _ _ _ _ _ hF (lv_sub hl [2, 3, 1, 0] rfl) hP hS
theorem cw_X11_isTaken : (Cond.instanceMethod yX11_isTaken ∈ TB ∧ Cond.selects RX11 yX11_isTaken yX11_isTaken ∈ TB ∧ Cond.code yX11_isTaken cX11_isTaken 4 (some .boolean) ∈ TB) ∧ (yX11_isTaken.cls = RX11 ∧ yX11_isTaken.cls ≠ "java/lang/invoke/MethodHandle" ∧ yX11_isTaken.cls ≠ "java/lang/invoke/VarHandle" ∧ (parseMethodDescriptor yX11_isTaken.desc).map (fun d => d.parameters.length) = some 1) := ⟨⟨mw35_15, mw35_16, mw35_17⟩, by decide +kernel⟩
