/-! X11_part -/
noncomputable def M_part_175 (K119 : Int32 → Int32 → FI → AR → Option (Int32 × FI × AR)) (nf : Nat) (x1 : Int32) (x3 : Int32) (t1 : Int32) (t3 : Int32) (t4 : Int32) (fi : FI) (ar : AR) : Option (Int32 × FI × AR) :=
  obnd3 (M_two nf fi ar ((t3) + (t4))) fun r4 fi2 ar3 => gd (¬ ((t1) < 0 ∨ 300 ≤ (t1).toNatClampNeg)) (bnd (va_up ar3 34 (upd (ar3 34) (t1).toNatClampNeg (vp_nar .char (((r4).toUInt32 % 65536).toInt32)))) fun ar6 => bnd ((x3) + (1 : Int32)) fun x3_7 => K119 (x1) (x3_7) fi2 ar6)
noncomputable def M_part_119b (K119 : Int32 → Int32 → FI → AR → Option (Int32 × FI × AR)) (nf : Nat) (x1 : Int32) (x3 : Int32) (fi : FI) (ar : AR) : Option (Int32 × FI × AR) :=
  br ((13 : Int32) ≤ (x3)) (bnd (va_up fi 36 ((fi 36) + (1 : Int32))) fun fi9 => bnd (va_up fi9 37 ((fi9 37) - (1 : Int32))) fun fi10 => some ((1 : Int32), fi10, ar)) (br ((5 : Int32) ≤ (x3)) (br ((11 : Int32) ≤ (x3)) (M_part_175 K119 nf  (x1) (x3) (((13 : Int32) * ((fi 37) - (1 : Int32))) + (x3)) (x1) ((6 : Int32) + ((2 : Int32) * (x3))) fi ar) (M_part_175 K119 nf  (x1) (x3) (((13 : Int32) * ((fi 37) - (1 : Int32))) + (x3)) (x1) ((4 : Int32) + ((2 : Int32) * (x3))) fi ar)) (M_part_175 K119 nf  (x1) (x3) (((13 : Int32) * ((fi 37) - (1 : Int32))) + (x3)) (x1) ((1 : Int32) + ((2 : Int32) * (x3))) fi ar))
noncomputable def M_part_119 (nf : Nat) (kf : Nat) : Int32 → Int32 → FI → AR → Option (Int32 × FI × AR) := Nat.rec (fun _ _ _ _ => none) (fun _ K119 => M_part_119b K119 nf) kf
noncomputable def M_part_115 (nf : Nat)  (fi : FI) (ar : AR) : Option (Int32 × FI × AR) :=
  some ((0 : Int32), fi, ar)
noncomputable def M_part_71 (nf : Nat) (x1 : Int32) (fi : FI) (ar : AR) : Option (Int32 × FI × AR) :=
  br ((fi 37) = 0) (M_part_115 nf  fi ar) (obnd3 (M_one nf fi ar ((x1) + (12 : Int32))) fun r17 fi15 ar16 => br ((r17) = 0) (obnd3 (M_two nf fi15 ar16 ((x1) + (26 : Int32))) fun r22 fi20 ar21 => br ((r22) = 0) (obnd3 (M_one nf fi20 ar21 ((x1) + (13 : Int32))) fun r27 fi25 ar26 => br ((r27) = (fi25 38)) (M_part_119 nf nf (x1) (0 : Int32) fi25 ar26) (M_part_115 nf  fi25 ar26)) (M_part_115 nf  fi20 ar21)) (M_part_115 nf  fi15 ar16))
noncomputable def M_part_25 (nf : Nat)  (fi : FI) (ar : AR) : Option (Int32 × FI × AR) :=
  some ((0 : Int32), fi, ar)
noncomputable def M_part (nf : Nat) (fi : FI) (ar : AR) (x1 : Int32) : Option (Int32 × FI × AR) :=
  obnd3 (M_one nf fi ar (x1)) fun r32 fi30 ar31 => br ((fi30 36) = 0) (br ((r32) < (65 : Int32)) (M_part_25 nf  fi30 ar31) (br ((r32) ≤ (84 : Int32)) (bnd (va_up fi30 37 ((r32) - (64 : Int32))) fun fi37 => bnd (va_up fi37 35 ((13 : Int32) * (fi37 37))) fun fi38 => obnd3 (M_one nf fi38 ar31 ((x1) + (13 : Int32))) fun r42 fi40 ar41 => bnd (va_up fi40 38 (r42)) fun fi43 => M_part_71 nf  (x1) fi43 ar41) (M_part_25 nf  fi30 ar31))) (br ((r32) = (fi30 37)) (M_part_71 nf  (x1) fi30 ar31) (some ((0 : Int32), fi30, ar31)))
set_option maxHeartbeats 4000000 in
set_option maxRecDepth 100000 in
theorem k_part (l : Launch) (g : GT) (am : Nat → Nat) (sz : Nat) (nf : Nat) (fi : FI) (ar : AR) (p1 : Int32) (r : Int32) (fi' : FI) (ar' : AR) (hF : M_part nf fi ar p1 = some (r, fi', ar')) : Met l yX11_part (wx yX11_part cX11_part 4 (some .boolean)) ({ frames := 2, cells := 0, slots := 0, locals := 42 } : Room) (va_Pc [.ref (am 0), .int p1] (PM g am sz fi ar)) (QMi g am sz r fi' ar') 0 0 (AM am sz) := by
  refine Met.ofW (cc := cX11_part) (maxL := 4) (ret := (some .boolean)) (by decide) rfl ?_
  intro p e s m args below meth c s₁ B hml hv
  obtain ⟨rfl, hsz, hP, hK, hD0, hE⟩ := hv
  have hx := B.exec
  have hb := B.bytes
  have hr := B.returns
  have hts := atoms_spec (ws := (wx yX11_part cX11_part 4 (some .boolean))) B.pre
  have hT : ∀ w ∈ TB, w.before _ s = true := fun w h => hts w (List.mem_cons_of_mem _ h)
  have hown : s.vm.findClass RX11 = some m.cls := findClass_of_methodNamed B.named
  have hlocks := B.notSynchronized
  subst hsz
  have hD := dM hD0 s.heap.size
  have hA : ∀ q : Nat, s.heap.size ≤ q → AM am s.heap.size q := fun q h => Or.inr h
  have hS : va_S (AM am s.heap.size) s.heap s.heap [] := va_S.rf
  have hl := lv_entry ([.ref (am 0), .int p1]) (n := 4) (Nat.le_of_ble_eq_true rfl)
  rw [lg_entry_eq]
  generalize (lg_sl ([.ref (am 0), .int p1]) ++ List.replicate (4 - (lg_sl ([.ref (am 0), .int p1])).length) Slot.unset).toArray = ls at hl ⊢
  have hl : lv_has ls 4 [(0, .ref (am 0)), (1, .int p1)] := hl
  unfold M_part at hF
  have L119 : ∀ kf : Nat, ∀ (x1 : Int32) (x3 : Int32) (fi : FI) (ar : AR) (H : Heap) (locs : List Loc) (ls : Array Slot), M_part_119 nf kf x1 x3 fi ar = some (r, fi', ar') → lv_has ls 4 [(0, .ref (am 0)), (1, .int x1), (3, .int x3)] → va_P (gD g) vwCl (WM g am fi ar) H → va_S (AM am s.heap.size) s.heap H locs → W p l e (headSpec (wx yX11_part cX11_part 4 (some .boolean)) ({ frames := 2, cells := 0, slots := 0, locals := 42 } : Room)).room s m ([.ref (am 0), .int p1] : List Value).toArray below meth c H locs 0 0 (MQ below (QMi g am s.heap.size r fi' ar') ([.ref (am 0), .int p1] : List Value).toArray s 0 0 (AM am s.heap.size)) (F0 m 119 ls []) := by
    intro kf
    induction kf with
    | zero => intro x1 x3 fi ar H locs ls hF hl hP hS; cases (show (none : Option (Int32 × FI × AR)) = _ from hF)
    | succ kf ih119 =>
      intro x1 x3 fi ar H locs ls hF hl hP hS
      obtain ⟨K119, hK119⟩ : ∃ K : Int32 → Int32 → FI → AR → Option (Int32 × FI × AR), K = M_part_119 nf kf := ⟨_, rfl⟩
      replace hF : M_part_119b K119 nf x1 x3 fi ar = some (r, fi', ar') := by rw [hK119]; exact hF
      rw [← hK119] at ih119
      clear hK119
      have J175 : ∀ (x1 : Int32) (x3 : Int32) (t1 : Int32) (t3 : Int32) (t4 : Int32) (fi : FI) (ar : AR) (H : Heap) (locs : List Loc) (ls : Array Slot), M_part_175 K119 nf x1 x3 t1 t3 t4 fi ar = some (r, fi', ar') → lv_has ls 4 [(0, .ref (am 0)), (1, .int x1), (3, .int x3)] → va_P (gD g) vwCl (WM g am fi ar) H → va_S (AM am s.heap.size) s.heap H locs → W p l e (headSpec (wx yX11_part cX11_part 4 (some .boolean)) ({ frames := 2, cells := 0, slots := 0, locals := 42 } : Room)).room s m ([.ref (am 0), .int p1] : List Value).toArray below meth c H locs 0 0 (MQ below (QMi g am s.heap.size r fi' ar') ([.ref (am 0), .int p1] : List Value).toArray s 0 0 (AM am s.heap.size)) (F0 m 175 ls [.int t4, .int t3, .ref (am 0), .int t1, .ref (am 34)]) := by
        intro x1 x3 t1 t3 t4 fi ar H locs ls hF hl hP hS
        unfold M_part_175 at hF
        refine lv_iadd hx hb dX11_part_175 ?_
        replace hF := obnd3_of hF
        obtain ⟨r4, fi2, ar3, h1, hF⟩ := hF
        refine cM_i (As := [.int ((t3) + (t4))]) (rest := [.int (t1), .ref (am 34)]) hx hb hml hT hown hK hE hD hA hP hS (k_two l g am _ nf fi ar ((t3) + (t4)) r4 fi2 ar3 h1) cw_X11_two mw19_13 ⟨⟨rfl, rfl⟩, Nat.le_of_ble_eq_true rfl, Nat.le_of_ble_eq_true rfl⟩ rfl hl.1 rfl (Nat.le_of_ble_eq_true rfl) dX11_part_176 ⟨Nat.zero_le _, Nat.zero_le _⟩ (fun H locs hP hS => ?_)
        refine lv_i2c hx hb dX11_part_179 rfl ?_
        replace hF := gd_of hF
        obtain ⟨hi5, hF⟩ := hF
        obtain ⟨ar6, ear6⟩ : ∃ y : AR, y = va_up ar3 34 (upd (ar3 34) (t1).toNatClampNeg (vp_nar .char (((r4).toUInt32 % 65536).toInt32))) := ⟨_, rfl⟩
        replace hF := bnd_of hF ear6
        refine ms_34 hx hb hK hP hD hS hi5 dX11_part_180 (fun H locs hP hS => ?_)
        rw [← ear6] at hP
        obtain ⟨x3_7, ex3_7⟩ : ∃ y : Int32, y = (x3) + (1 : Int32) := ⟨_, rfl⟩
        replace hF := bnd_of hF ex3_7
        refine lv_iinc (v := x3_7) (lv' := [(3, .int (x3_7)), (0, .ref (am 0)), (1, .int (x1))]) hx hb dX11_part_181 hl (k := 2) rfl (by rw [ex3_7]; rfl) (by decide) rfl (fun ls hl => ?_)
        refine lv_goto (tgt := 119) hx hb dX11_part_184 (by decide) ?_
        exact ih119 (x1) (x3_7) _ _ _ _ _ hF (lv_sub hl [1, 2, 0] rfl) hP hS
      unfold M_part_119b at hF
      refine lv_iload_n hx hb dX11_part_119 rfl (lv_at hl 2 rfl) ?_
      refine lv_bipush (v := (13 : Int32)) hx hb dX11_part_120 (by decide) ?_
      refine lv_icmp_ge (tgt := 187) hx hb dX11_part_122 (by decide) (fun hc8 => ?_) (fun hc8 => ?_)
      · replace hF := br_yes hF hc8
        refine lv_aload_n hx hb dX11_part_187 rfl (lv_at hl 0 rfl) ?_
        refine lv_dup hx hb dX11_part_188 rfl ?_
        refine mg_36 hx hb hT hown hK hP mw32_7 dX11_part_189 ?_
        refine lv_iconst (v := (1 : Int32)) hx hb dX11_part_192 (by decide) ?_
        refine lv_iadd hx hb dX11_part_193 ?_
        obtain ⟨fi9, efi9⟩ : ∃ y : FI, y = va_up fi 36 ((fi 36) + (1 : Int32)) := ⟨_, rfl⟩
        replace hF := bnd_of hF efi9
        refine mp_36 hx hb hT hown hK hP hD hS mw32_7 dX11_part_194 (fun H locs hP hS => ?_)
        rw [← efi9] at hP
        refine lv_aload_n hx hb dX11_part_197 rfl (lv_at hl 0 rfl) ?_
        refine lv_dup hx hb dX11_part_198 rfl ?_
        refine mg_37 hx hb hT hown hK hP mw32_8 dX11_part_199 ?_
        refine lv_iconst (v := (1 : Int32)) hx hb dX11_part_202 (by decide) ?_
        refine lv_isub hx hb dX11_part_203 ?_
        obtain ⟨fi10, efi10⟩ : ∃ y : FI, y = va_up fi9 37 ((fi9 37) - (1 : Int32)) := ⟨_, rfl⟩
        replace hF := bnd_of hF efi10
        refine mp_37 hx hb hT hown hK hP hD hS mw32_8 dX11_part_204 (fun H locs hP hS => ?_)
        rw [← efi10] at hP
        refine lv_iconst (v := (1 : Int32)) hx hb dX11_part_207 (by decide) ?_
        exact rM_z hx hb hr hlocks rfl hF hP hS dX11_part_208
      · replace hF := br_no hF hc8
        refine lv_aload_n hx hb dX11_part_125 rfl (lv_at hl 0 rfl) ?_
        refine mg_34 hx hb hT hown hK hP mw6_18 dX11_part_126 ?_
        refine lv_bipush (v := (13 : Int32)) hx hb dX11_part_129 (by decide) ?_
        refine lv_aload_n hx hb dX11_part_131 rfl (lv_at hl 0 rfl) ?_
        refine mg_37 hx hb hT hown hK hP mw32_8 dX11_part_132 ?_
        refine lv_iconst (v := (1 : Int32)) hx hb dX11_part_135 (by decide) ?_
        refine lv_isub hx hb dX11_part_136 ?_
        refine lv_imul hx hb dX11_part_137 ?_
        refine lv_iload_n hx hb dX11_part_138 rfl (lv_at hl 2 rfl) ?_
        refine lv_iadd hx hb dX11_part_139 ?_
        refine lv_aload_n hx hb dX11_part_140 rfl (lv_at hl 0 rfl) ?_
        refine lv_iload_n hx hb dX11_part_141 rfl (lv_at hl 1 rfl) ?_
        refine lv_iload_n hx hb dX11_part_142 rfl (lv_at hl 2 rfl) ?_
        refine lv_iconst (v := (5 : Int32)) hx hb dX11_part_143 (by decide) ?_
        refine lv_icmp_ge (tgt := 155) hx hb dX11_part_144 (by decide) (fun hc11 => ?_) (fun hc11 => ?_)
        · replace hF := br_yes hF hc11
          refine lv_iload_n hx hb dX11_part_155 rfl (lv_at hl 2 rfl) ?_
          refine lv_bipush (v := (11 : Int32)) hx hb dX11_part_156 (by decide) ?_
          refine lv_icmp_ge (tgt := 169) hx hb dX11_part_158 (by decide) (fun hc12 => ?_) (fun hc12 => ?_)
          · replace hF := br_yes hF hc12
            refine lv_bipush (v := (6 : Int32)) hx hb dX11_part_169 (by decide) ?_
            refine lv_iconst (v := (2 : Int32)) hx hb dX11_part_171 (by decide) ?_
            refine lv_iload_n hx hb dX11_part_172 rfl (lv_at hl 2 rfl) ?_
            refine lv_imul hx hb dX11_part_173 ?_
            refine lv_iadd hx hb dX11_part_174 ?_
            exact J175 (x1) (x3) (((13 : Int32) * ((fi 37) - (1 : Int32))) + (x3)) (x1) ((6 : Int32) + ((2 : Int32) * (x3))) _ _ _ _ _ hF (lv_sub hl [0, 1, 2] rfl) hP hS
          · replace hF := br_no hF hc12
            refine lv_iconst (v := (4 : Int32)) hx hb dX11_part_161 (by decide) ?_
            refine lv_iconst (v := (2 : Int32)) hx hb dX11_part_162 (by decide) ?_
            refine lv_iload_n hx hb dX11_part_163 rfl (lv_at hl 2 rfl) ?_
            refine lv_imul hx hb dX11_part_164 ?_
            refine lv_iadd hx hb dX11_part_165 ?_
            refine lv_goto (tgt := 175) hx hb dX11_part_166 (by decide) ?_
            exact J175 (x1) (x3) (((13 : Int32) * ((fi 37) - (1 : Int32))) + (x3)) (x1) ((4 : Int32) + ((2 : Int32) * (x3))) _ _ _ _ _ hF (lv_sub hl [0, 1, 2] rfl) hP hS
        · replace hF := br_no hF hc11
          refine lv_iconst (v := (1 : Int32)) hx hb dX11_part_147 (by decide) ?_
          refine lv_iconst (v := (2 : Int32)) hx hb dX11_part_148 (by decide) ?_
          refine lv_iload_n hx hb dX11_part_149 rfl (lv_at hl 2 rfl) ?_
          refine lv_imul hx hb dX11_part_150 ?_
          refine lv_iadd hx hb dX11_part_151 ?_
          refine lv_goto (tgt := 175) hx hb dX11_part_152 (by decide) ?_
          exact J175 (x1) (x3) (((13 : Int32) * ((fi 37) - (1 : Int32))) + (x3)) (x1) ((1 : Int32) + ((2 : Int32) * (x3))) _ _ _ _ _ hF (lv_sub hl [0, 1, 2] rfl) hP hS
  have J115 : ∀  (fi : FI) (ar : AR) (H : Heap) (locs : List Loc) (ls : Array Slot), M_part_115 nf fi ar = some (r, fi', ar') → lv_has ls 4 [(0, .ref (am 0))] → va_P (gD g) vwCl (WM g am fi ar) H → va_S (AM am s.heap.size) s.heap H locs → W p l e (headSpec (wx yX11_part cX11_part 4 (some .boolean)) ({ frames := 2, cells := 0, slots := 0, locals := 42 } : Room)).room s m ([.ref (am 0), .int p1] : List Value).toArray below meth c H locs 0 0 (MQ below (QMi g am s.heap.size r fi' ar') ([.ref (am 0), .int p1] : List Value).toArray s 0 0 (AM am s.heap.size)) (F0 m 115 ls []) := by
    intro fi ar H locs ls hF hl hP hS
    unfold M_part_115 at hF
    refine lv_iconst (v := (0 : Int32)) hx hb dX11_part_115 (by decide) ?_
    exact rM_z hx hb hr hlocks rfl hF hP hS dX11_part_116
  have J71 : ∀ (x1 : Int32) (fi : FI) (ar : AR) (H : Heap) (locs : List Loc) (ls : Array Slot), M_part_71 nf x1 fi ar = some (r, fi', ar') → lv_has ls 4 [(0, .ref (am 0)), (1, .int x1)] → va_P (gD g) vwCl (WM g am fi ar) H → va_S (AM am s.heap.size) s.heap H locs → W p l e (headSpec (wx yX11_part cX11_part 4 (some .boolean)) ({ frames := 2, cells := 0, slots := 0, locals := 42 } : Room)).room s m ([.ref (am 0), .int p1] : List Value).toArray below meth c H locs 0 0 (MQ below (QMi g am s.heap.size r fi' ar') ([.ref (am 0), .int p1] : List Value).toArray s 0 0 (AM am s.heap.size)) (F0 m 71 ls []) := by
    intro x1 fi ar H locs ls hF hl hP hS
    unfold M_part_71 at hF
    refine lv_aload_n hx hb dX11_part_71 rfl (lv_at hl 0 rfl) ?_
    refine mg_37 hx hb hT hown hK hP mw32_8 dX11_part_72 ?_
    refine lv_if_eq (tgt := 115) hx hb dX11_part_75 (by decide) (fun hc13 => ?_) (fun hc13 => ?_)
    · replace hF := br_yes hF hc13
      exact J115  _ _ _ _ _ hF (lv_sub hl [0] rfl) hP hS
    · replace hF := br_no hF hc13
      refine lv_aload_n hx hb dX11_part_78 rfl (lv_at hl 0 rfl) ?_
      refine lv_iload_n hx hb dX11_part_79 rfl (lv_at hl 1 rfl) ?_
      refine lv_bipush (v := (12 : Int32)) hx hb dX11_part_80 (by decide) ?_
      refine lv_iadd hx hb dX11_part_82 ?_
      replace hF := obnd3_of hF
      obtain ⟨r17, fi15, ar16, h14, hF⟩ := hF
      refine cM_i (As := [.int ((x1) + (12 : Int32))]) (rest := []) hx hb hml hT hown hK hE hD hA hP hS (k_one l g am _ nf fi ar ((x1) + (12 : Int32)) r17 fi15 ar16 h14) cw_X11_one mw19_9 ⟨⟨rfl, rfl⟩, Nat.le_of_ble_eq_true rfl, Nat.le_of_ble_eq_true rfl⟩ rfl hl.1 rfl (Nat.le_of_ble_eq_true rfl) dX11_part_83 ⟨Nat.zero_le _, Nat.zero_le _⟩ (fun H locs hP hS => ?_)
      refine lv_if_ne (tgt := 115) hx hb dX11_part_86 (by decide) (fun hc18 => ?_) (fun hc18 => ?_)
      · replace hF := br_no hF hc18
        exact J115  _ _ _ _ _ hF (lv_sub hl [0] rfl) hP hS
      · replace hF := br_yes hF hc18
        refine lv_aload_n hx hb dX11_part_89 rfl (lv_at hl 0 rfl) ?_
        refine lv_iload_n hx hb dX11_part_90 rfl (lv_at hl 1 rfl) ?_
        refine lv_bipush (v := (26 : Int32)) hx hb dX11_part_91 (by decide) ?_
        refine lv_iadd hx hb dX11_part_93 ?_
        replace hF := obnd3_of hF
        obtain ⟨r22, fi20, ar21, h19, hF⟩ := hF
        refine cM_i (As := [.int ((x1) + (26 : Int32))]) (rest := []) hx hb hml hT hown hK hE hD hA hP hS (k_two l g am _ nf fi15 ar16 ((x1) + (26 : Int32)) r22 fi20 ar21 h19) cw_X11_two mw19_13 ⟨⟨rfl, rfl⟩, Nat.le_of_ble_eq_true rfl, Nat.le_of_ble_eq_true rfl⟩ rfl hl.1 rfl (Nat.le_of_ble_eq_true rfl) dX11_part_94 ⟨Nat.zero_le _, Nat.zero_le _⟩ (fun H locs hP hS => ?_)
        refine lv_if_ne (tgt := 115) hx hb dX11_part_97 (by decide) (fun hc23 => ?_) (fun hc23 => ?_)
        · replace hF := br_no hF hc23
          exact J115  _ _ _ _ _ hF (lv_sub hl [0] rfl) hP hS
        · replace hF := br_yes hF hc23
          refine lv_aload_n hx hb dX11_part_100 rfl (lv_at hl 0 rfl) ?_
          refine lv_iload_n hx hb dX11_part_101 rfl (lv_at hl 1 rfl) ?_
          refine lv_bipush (v := (13 : Int32)) hx hb dX11_part_102 (by decide) ?_
          refine lv_iadd hx hb dX11_part_104 ?_
          replace hF := obnd3_of hF
          obtain ⟨r27, fi25, ar26, h24, hF⟩ := hF
          refine cM_i (As := [.int ((x1) + (13 : Int32))]) (rest := []) hx hb hml hT hown hK hE hD hA hP hS (k_one l g am _ nf fi20 ar21 ((x1) + (13 : Int32)) r27 fi25 ar26 h24) cw_X11_one mw19_9 ⟨⟨rfl, rfl⟩, Nat.le_of_ble_eq_true rfl, Nat.le_of_ble_eq_true rfl⟩ rfl hl.1 rfl (Nat.le_of_ble_eq_true rfl) dX11_part_105 ⟨Nat.zero_le _, Nat.zero_le _⟩ (fun H locs hP hS => ?_)
          refine lv_aload_n hx hb dX11_part_108 rfl (lv_at hl 0 rfl) ?_
          refine mg_38 hx hb hT hown hK hP mw33_10 dX11_part_109 ?_
          refine lv_icmp_eq (tgt := 117) hx hb dX11_part_112 (by decide) (fun hc28 => ?_) (fun hc28 => ?_)
          · replace hF := br_yes hF hc28
            refine lv_iconst (v := (0 : Int32)) hx hb dX11_part_117 (by decide) ?_
            refine lv_istore_n (lv' := [(3, .int (0 : Int32)), (0, .ref (am 0)), (1, .int (x1))]) hx hb dX11_part_118 rfl hl (by decide) rfl (fun ls hl => ?_)
            exact L119 nf (x1) (0 : Int32) _ _ _ _ _ hF (lv_sub hl [1, 2, 0] rfl) hP hS
          · replace hF := br_no hF hc28
            exact J115  _ _ _ _ _ hF (lv_sub hl [0] rfl) hP hS
  have J25 : ∀  (fi : FI) (ar : AR) (H : Heap) (locs : List Loc) (ls : Array Slot), M_part_25 nf fi ar = some (r, fi', ar') → lv_has ls 4 [(0, .ref (am 0))] → va_P (gD g) vwCl (WM g am fi ar) H → va_S (AM am s.heap.size) s.heap H locs → W p l e (headSpec (wx yX11_part cX11_part 4 (some .boolean)) ({ frames := 2, cells := 0, slots := 0, locals := 42 } : Room)).room s m ([.ref (am 0), .int p1] : List Value).toArray below meth c H locs 0 0 (MQ below (QMi g am s.heap.size r fi' ar') ([.ref (am 0), .int p1] : List Value).toArray s 0 0 (AM am s.heap.size)) (F0 m 25 ls []) := by
    intro fi ar H locs ls hF hl hP hS
    unfold M_part_25 at hF
    refine lv_iconst (v := (0 : Int32)) hx hb dX11_part_25 (by decide) ?_
    exact rM_z hx hb hr hlocks rfl hF hP hS dX11_part_26
  replace hl := lv_sub hl [0, 1] rfl
  refine lv_aload_n hx hb dX11_part_0 rfl (lv_at hl 0 rfl) ?_
  refine lv_iload_n hx hb dX11_part_1 rfl (lv_at hl 1 rfl) ?_
  replace hF := obnd3_of hF
  obtain ⟨r32, fi30, ar31, h29, hF⟩ := hF
  refine cM_i (As := [.int (p1)]) (rest := []) hx hb hml hT hown hK hE hD hA hP hS (k_one l g am _ nf fi ar (p1) r32 fi30 ar31 h29) cw_X11_one mw19_9 ⟨⟨rfl, rfl⟩, Nat.le_of_ble_eq_true rfl, Nat.le_of_ble_eq_true rfl⟩ rfl hl.1 rfl (Nat.le_of_ble_eq_true rfl) dX11_part_2 ⟨Nat.zero_le _, Nat.zero_le _⟩ (fun H locs hP hS => ?_)
  refine lv_istore_n (lv' := [(2, .int (r32)), (0, .ref (am 0)), (1, .int (p1))]) hx hb dX11_part_5 rfl hl (by decide) rfl (fun ls hl => ?_)
  refine lv_aload_n hx hb dX11_part_6 rfl (lv_at hl 1 rfl) ?_
  refine mg_36 hx hb hT hown hK hP mw32_7 dX11_part_7 ?_
  refine lv_if_ne (tgt := 61) hx hb dX11_part_10 (by decide) (fun hc33 => ?_) (fun hc33 => ?_)
  · replace hF := br_no hF hc33
    refine lv_iload_n hx hb dX11_part_61 rfl (lv_at hl 0 rfl) ?_
    refine lv_aload_n hx hb dX11_part_62 rfl (lv_at hl 1 rfl) ?_
    refine mg_37 hx hb hT hown hK hP mw32_8 dX11_part_63 ?_
    refine lv_icmp_eq (tgt := 71) hx hb dX11_part_66 (by decide) (fun hc34 => ?_) (fun hc34 => ?_)
    · replace hF := br_yes hF hc34
      exact J71 (p1) _ _ _ _ _ hF (lv_sub hl [1, 2] rfl) hP hS
    · replace hF := br_no hF hc34
      refine lv_iconst (v := (0 : Int32)) hx hb dX11_part_69 (by decide) ?_
      exact rM_z hx hb hr hlocks rfl hF hP hS dX11_part_70
  · replace hF := br_yes hF hc33
    refine lv_iload_n hx hb dX11_part_13 rfl (lv_at hl 0 rfl) ?_
    refine lv_bipush (v := (65 : Int32)) hx hb dX11_part_14 (by decide) ?_
    refine lv_icmp_lt (tgt := 25) hx hb dX11_part_16 (by decide) (fun hc35 => ?_) (fun hc35 => ?_)
    · replace hF := br_yes hF hc35
      exact J25  _ _ _ _ _ hF (lv_sub hl [1] rfl) hP hS
    · replace hF := br_no hF hc35
      refine lv_iload_n hx hb dX11_part_19 rfl (lv_at hl 0 rfl) ?_
      refine lv_bipush (v := (84 : Int32)) hx hb dX11_part_20 (by decide) ?_
      refine lv_icmp_le (tgt := 27) hx hb dX11_part_22 (by decide) (fun hc36 => ?_) (fun hc36 => ?_)
      · replace hF := br_yes hF hc36
        refine lv_aload_n hx hb dX11_part_27 rfl (lv_at hl 1 rfl) ?_
        refine lv_iload_n hx hb dX11_part_28 rfl (lv_at hl 0 rfl) ?_
        refine lv_bipush (v := (64 : Int32)) hx hb dX11_part_29 (by decide) ?_
        refine lv_isub hx hb dX11_part_31 ?_
        obtain ⟨fi37, efi37⟩ : ∃ y : FI, y = va_up fi30 37 ((r32) - (64 : Int32)) := ⟨_, rfl⟩
        replace hF := bnd_of hF efi37
        refine mp_37 hx hb hT hown hK hP hD hS mw32_8 dX11_part_32 (fun H locs hP hS => ?_)
        rw [← efi37] at hP
        refine lv_aload_n hx hb dX11_part_35 rfl (lv_at hl 1 rfl) ?_
        refine lv_bipush (v := (13 : Int32)) hx hb dX11_part_36 (by decide) ?_
        refine lv_aload_n hx hb dX11_part_38 rfl (lv_at hl 1 rfl) ?_
        refine mg_37 hx hb hT hown hK hP mw32_8 dX11_part_39 ?_
        refine lv_imul hx hb dX11_part_42 ?_
        obtain ⟨fi38, efi38⟩ : ∃ y : FI, y = va_up fi37 35 ((13 : Int32) * (fi37 37)) := ⟨_, rfl⟩
        replace hF := bnd_of hF efi38
        refine mp_35 hx hb hT hown hK hP hD hS mw33_9 dX11_part_43 (fun H locs hP hS => ?_)
        rw [← efi38] at hP
        refine lv_aload_n hx hb dX11_part_46 rfl (lv_at hl 1 rfl) ?_
        refine lv_aload_n hx hb dX11_part_47 rfl (lv_at hl 1 rfl) ?_
        refine lv_iload_n hx hb dX11_part_48 rfl (lv_at hl 2 rfl) ?_
        refine lv_bipush (v := (13 : Int32)) hx hb dX11_part_49 (by decide) ?_
        refine lv_iadd hx hb dX11_part_51 ?_
        replace hF := obnd3_of hF
        obtain ⟨r42, fi40, ar41, h39, hF⟩ := hF
        refine cM_i (As := [.int ((p1) + (13 : Int32))]) (rest := [.ref (am 0)]) hx hb hml hT hown hK hE hD hA hP hS (k_one l g am _ nf fi38 ar31 ((p1) + (13 : Int32)) r42 fi40 ar41 h39) cw_X11_one mw19_9 ⟨⟨rfl, rfl⟩, Nat.le_of_ble_eq_true rfl, Nat.le_of_ble_eq_true rfl⟩ rfl hl.1 rfl (Nat.le_of_ble_eq_true rfl) dX11_part_52 ⟨Nat.zero_le _, Nat.zero_le _⟩ (fun H locs hP hS => ?_)
        obtain ⟨fi43, efi43⟩ : ∃ y : FI, y = va_up fi40 38 (r42) := ⟨_, rfl⟩
        replace hF := bnd_of hF efi43
        refine mp_38 hx hb hT hown hK hP hD hS mw33_10 dX11_part_55 (fun H locs hP hS => ?_)
        rw [← efi43] at hP
        refine lv_goto (tgt := 71) hx hb dX11_part_58 (by decide) ?_
        exact J71 (p1) _ _ _ _ _ hF (lv_sub hl [1, 2] rfl) hP hS
      · replace hF := br_no hF hc36
        exact J25  _ _ _ _ _ hF (lv_sub hl [1] rfl) hP hS
theorem cw_X11_part : (Cond.instanceMethod yX11_part ∈ TB ∧ Cond.selects RX11 yX11_part yX11_part ∈ TB ∧ Cond.code yX11_part cX11_part 4 (some .boolean) ∈ TB) ∧ (yX11_part.cls = RX11 ∧ yX11_part.cls ≠ "java/lang/invoke/MethodHandle" ∧ yX11_part.cls ≠ "java/lang/invoke/VarHandle" ∧ (parseMethodDescriptor yX11_part.desc).map (fun d => d.parameters.length) = some 1) := ⟨⟨mw33_6, mw33_7, mw33_8⟩, by decide +kernel⟩
/-! X11_isLeap -/
noncomputable def M_isLeap_26 (nf : Nat) (t0 : Int32) : Option Int32 :=
  gd ((t0) &&& 1 = (t0)) (some (t0))
noncomputable def M_isLeap_25 (nf : Nat)  : Option Int32 :=
  M_isLeap_26 nf  (0 : Int32)
noncomputable def M_isLeap_21 (nf : Nat)  : Option Int32 :=
  M_isLeap_26 nf  (1 : Int32)
noncomputable def M_isLeap (nf : Nat) (x0 : Int32) : Option Int32 :=
  br (((x0) - (x0) / (4 : Int32) * (4 : Int32)) = 0) (br (((x0) - (x0) / (100 : Int32) * (100 : Int32)) = 0) (br (((x0) - (x0) / (400 : Int32) * (400 : Int32)) = 0) (M_isLeap_21 nf) (M_isLeap_25 nf)) (M_isLeap_21 nf)) (M_isLeap_25 nf)
set_option maxHeartbeats 4000000 in
set_option maxRecDepth 100000 in
theorem k_isLeap (l : Launch) (g : GT) (nf : Nat) (p0 : Int32) (r : Int32) (hF : M_isLeap nf p0 = some r) : Met l yX11_isLeap (wx yX11_isLeap cX11_isLeap 1 (some .boolean)) ({ frames := 0, cells := 0, slots := 0, locals := 0 } : Room) (va_Pc [.int p0] (PS g)) (QSi r) 0 0 noA := by
  refine Met.ofW (cc := cX11_isLeap) (maxL := 1) (ret := (some .boolean)) (by decide) rfl ?_
  intro p e s m args below meth c s₁ B hml hv
  obtain ⟨rfl, hE⟩ := hv
  have hx := B.exec
  have hb := B.bytes
  have hr := B.returns
  have hts := atoms_spec (ws := (wx yX11_isLeap cX11_isLeap 1 (some .boolean))) B.pre
  have hT : ∀ w ∈ TB, w.before _ s = true := fun w h => hts w (List.mem_cons_of_mem _ h)
  have hown : s.vm.findClass RX11 = some m.cls := findClass_of_methodNamed B.named
  have hlocks := B.notSynchronized
  have hS : va_S noA s.heap s.heap [] := va_S.rf
  have hP : va_P (gD g) vwCl [] s.heap := fun k q h => by cases h
  have hl := lv_entry ([.int p0]) (n := 1) (Nat.le_of_ble_eq_true rfl)
  rw [lg_entry_eq]
  generalize (lg_sl ([.int p0]) ++ List.replicate (1 - (lg_sl ([.int p0])).length) Slot.unset).toArray = ls at hl ⊢
  have hl : lv_has ls 1 [(0, .int p0)] := hl
  unfold M_isLeap at hF
  have J26 : ∀ (t0 : Int32) (H : Heap) (locs : List Loc) (ls : Array Slot), M_isLeap_26 nf t0 = some r → lv_has ls 1 [] → va_P (gD g) vwCl [] H → va_S noA s.heap H locs → W p l e (headSpec (wx yX11_isLeap cX11_isLeap 1 (some .boolean)) ({ frames := 0, cells := 0, slots := 0, locals := 0 } : Room)).room s m ([.int p0] : List Value).toArray below meth c H locs 0 0 (MQ below (QSi r) ([.int p0] : List Value).toArray s 0 0 noA) (F0 m 26 ls [.int t0]) := by
    intro t0 H locs ls hF hl hP hS
    unfold M_isLeap_26 at hF
    replace hF := gd_of hF
    obtain ⟨hz1, hF⟩ := hF
    exact rS_z hx hb hr hlocks (nar_z hz1) hF hS dX11_isLeap_26
  have J25 : ∀  (H : Heap) (locs : List Loc) (ls : Array Slot), M_isLeap_25 nf  = some r → lv_has ls 1 [] → va_P (gD g) vwCl [] H → va_S noA s.heap H locs → W p l e (headSpec (wx yX11_isLeap cX11_isLeap 1 (some .boolean)) ({ frames := 0, cells := 0, slots := 0, locals := 0 } : Room)).room s m ([.int p0] : List Value).toArray below meth c H locs 0 0 (MQ below (QSi r) ([.int p0] : List Value).toArray s 0 0 noA) (F0 m 25 ls []) := by
    intro H locs ls hF hl hP hS
    unfold M_isLeap_25 at hF
    refine lv_iconst (v := (0 : Int32)) hx hb dX11_isLeap_25 (by decide) ?_
    exact J26 (0 : Int32)  _ _ _ hF (lv_sub hl [] rfl) hP hS
  have J21 : ∀  (H : Heap) (locs : List Loc) (ls : Array Slot), M_isLeap_21 nf  = some r → lv_has ls 1 [] → va_P (gD g) vwCl [] H → va_S noA s.heap H locs → W p l e (headSpec (wx yX11_isLeap cX11_isLeap 1 (some .boolean)) ({ frames := 0, cells := 0, slots := 0, locals := 0 } : Room)).room s m ([.int p0] : List Value).toArray below meth c H locs 0 0 (MQ below (QSi r) ([.int p0] : List Value).toArray s 0 0 noA) (F0 m 21 ls []) := by
    intro H locs ls hF hl hP hS
    unfold M_isLeap_21 at hF
    refine lv_iconst (v := (1 : Int32)) hx hb dX11_isLeap_21 (by decide) ?_
    refine lv_goto (tgt := 26) hx hb dX11_isLeap_22 (by decide) ?_
    exact J26 (1 : Int32)  _ _ _ hF (lv_sub hl [] rfl) hP hS
  replace hl := lv_sub hl [0] rfl
  refine lv_iload_n hx hb dX11_isLeap_0 rfl (lv_at hl 0 rfl) ?_
  refine lv_iconst (v := (4 : Int32)) hx hb dX11_isLeap_1 (by decide) ?_
  refine lv_irem hx hb dX11_isLeap_2 (by decide) ?_
  refine lv_if_ne (tgt := 25) hx hb dX11_isLeap_3 (by decide) (fun hc2 => ?_) (fun hc2 => ?_)
  · replace hF := br_no hF hc2
    exact J25   _ _ _ hF (lv_sub hl [] rfl) hP hS
  · replace hF := br_yes hF hc2
    refine lv_iload_n hx hb dX11_isLeap_6 rfl (lv_at hl 0 rfl) ?_
    refine lv_bipush (v := (100 : Int32)) hx hb dX11_isLeap_7 (by decide) ?_
    refine lv_irem hx hb dX11_isLeap_9 (by decide) ?_
    refine lv_if_ne (tgt := 21) hx hb dX11_isLeap_10 (by decide) (fun hc3 => ?_) (fun hc3 => ?_)
    · replace hF := br_no hF hc3
      exact J21   _ _ _ hF (lv_sub hl [] rfl) hP hS
    · replace hF := br_yes hF hc3
      refine lv_iload_n hx hb dX11_isLeap_13 rfl (lv_at hl 0 rfl) ?_
      refine lv_sipush (v := (400 : Int32)) hx hb dX11_isLeap_14 (by decide) ?_
      refine lv_irem hx hb dX11_isLeap_17 (by decide) ?_
      refine lv_if_ne (tgt := 25) hx hb dX11_isLeap_18 (by decide) (fun hc4 => ?_) (fun hc4 => ?_)
      · replace hF := br_no hF hc4
        exact J25   _ _ _ hF (lv_sub hl [] rfl) hP hS
      · replace hF := br_yes hF hc4
        exact J21   _ _ _ hF (lv_sub hl [] rfl) hP hS
theorem cw_X11_isLeap : (Cond.static yX11_isLeap ∈ TB ∧ Cond.code yX11_isLeap cX11_isLeap 1 (some .boolean) ∈ TB ∧ Cond.initialized yX11_isLeap.cls ∈ TB) ∧ (yX11_isLeap.cls ≠ "java/lang/invoke/MethodHandle" ∧ yX11_isLeap.cls ≠ "java/lang/invoke/VarHandle" ∧ (parseMethodDescriptor yX11_isLeap.desc).map (fun d => d.parameters.length) = some 1) := ⟨⟨mw34_6, mw34_7, mw1_5⟩, by decide +kernel⟩
/-! X11_daysOf -/
noncomputable def M_daysOf_52 (nf : Nat) (t0 : Int32) : Option Int32 :=
  some (t0)
noncomputable def M_daysOf_45 (nf : Nat)  : Option Int32 :=
  M_daysOf_52 nf  (30 : Int32)
noncomputable def M_daysOf (nf : Nat) (x0 : Int32) (x1 : Int32) : Option Int32 :=
  br ((x0) = (2 : Int32)) (obnd (M_isLeap nf (x1)) fun r7 => br ((r7) = 0) (M_daysOf_52 nf  (28 : Int32)) (M_daysOf_52 nf  (29 : Int32))) (br ((x0) = (4 : Int32)) (M_daysOf_45 nf) (br ((x0) = (6 : Int32)) (M_daysOf_45 nf) (br ((x0) = (9 : Int32)) (M_daysOf_45 nf) (br ((x0) = (11 : Int32)) (M_daysOf_45 nf) (M_daysOf_52 nf  (31 : Int32))))))
set_option maxHeartbeats 4000000 in
set_option maxRecDepth 100000 in
theorem k_daysOf (l : Launch) (g : GT) (nf : Nat) (p0 : Int32) (p1 : Int32) (r : Int32) (hF : M_daysOf nf p0 p1 = some r) : Met l yX11_daysOf (wx yX11_daysOf cX11_daysOf 2 (some .int)) ({ frames := 1, cells := 0, slots := 0, locals := 20 } : Room) (va_Pc [.int p0, .int p1] (PS g)) (QSi r) 0 0 noA := by
  refine Met.ofW (cc := cX11_daysOf) (maxL := 2) (ret := (some .int)) (by decide) rfl ?_
  intro p e s m args below meth c s₁ B hml hv
  obtain ⟨rfl, hE⟩ := hv
  have hx := B.exec
  have hb := B.bytes
  have hr := B.returns
  have hts := atoms_spec (ws := (wx yX11_daysOf cX11_daysOf 2 (some .int))) B.pre
  have hT : ∀ w ∈ TB, w.before _ s = true := fun w h => hts w (List.mem_cons_of_mem _ h)
  have hown : s.vm.findClass RX11 = some m.cls := findClass_of_methodNamed B.named
  have hlocks := B.notSynchronized
  have hS : va_S noA s.heap s.heap [] := va_S.rf
  have hP : va_P (gD g) vwCl [] s.heap := fun k q h => by cases h
  have hl := lv_entry ([.int p0, .int p1]) (n := 2) (Nat.le_of_ble_eq_true rfl)
  rw [lg_entry_eq]
  generalize (lg_sl ([.int p0, .int p1]) ++ List.replicate (2 - (lg_sl ([.int p0, .int p1])).length) Slot.unset).toArray = ls at hl ⊢
  have hl : lv_has ls 2 [(0, .int p0), (1, .int p1)] := hl
  unfold M_daysOf at hF
  have J52 : ∀ (t0 : Int32) (H : Heap) (locs : List Loc) (ls : Array Slot), M_daysOf_52 nf t0 = some r → lv_has ls 2 [] → va_P (gD g) vwCl [] H → va_S noA s.heap H locs → W p l e (headSpec (wx yX11_daysOf cX11_daysOf 2 (some .int)) ({ frames := 1, cells := 0, slots := 0, locals := 20 } : Room)).room s m ([.int p0, .int p1] : List Value).toArray below meth c H locs 0 0 (MQ below (QSi r) ([.int p0, .int p1] : List Value).toArray s 0 0 noA) (F0 m 52 ls [.int t0]) := by
    intro t0 H locs ls hF hl hP hS
    unfold M_daysOf_52 at hF
    exact rS_i hx hb hr hlocks hF hS dX11_daysOf_52
  have J45 : ∀  (H : Heap) (locs : List Loc) (ls : Array Slot), M_daysOf_45 nf  = some r → lv_has ls 2 [] → va_P (gD g) vwCl [] H → va_S noA s.heap H locs → W p l e (headSpec (wx yX11_daysOf cX11_daysOf 2 (some .int)) ({ frames := 1, cells := 0, slots := 0, locals := 20 } : Room)).room s m ([.int p0, .int p1] : List Value).toArray below meth c H locs 0 0 (MQ below (QSi r) ([.int p0, .int p1] : List Value).toArray s 0 0 noA) (F0 m 45 ls []) := by
    intro H locs ls hF hl hP hS
    unfold M_daysOf_45 at hF
    refine lv_bipush (v := (30 : Int32)) hx hb dX11_daysOf_45 (by decide) ?_
    refine lv_goto (tgt := 52) hx hb dX11_daysOf_47 (by decide) ?_
    exact J52 (30 : Int32)  _ _ _ hF (lv_sub hl [] rfl) hP hS
  replace hl := lv_sub hl [0, 1] rfl
  refine lv_iload_n hx hb dX11_daysOf_0 rfl (lv_at hl 0 rfl) ?_
  refine lv_iconst (v := (2 : Int32)) hx hb dX11_daysOf_1 (by decide) ?_
  refine lv_icmp_ne (tgt := 22) hx hb dX11_daysOf_2 (by decide) (fun hc1 => ?_) (fun hc1 => ?_)
  · replace hF := br_no hF hc1
    refine lv_iload_n hx hb dX11_daysOf_22 rfl (lv_at hl 0 rfl) ?_
    refine lv_iconst (v := (4 : Int32)) hx hb dX11_daysOf_23 (by decide) ?_
    refine lv_icmp_eq (tgt := 45) hx hb dX11_daysOf_24 (by decide) (fun hc2 => ?_) (fun hc2 => ?_)
    · replace hF := br_yes hF hc2
      exact J45   _ _ _ hF (lv_sub hl [] rfl) hP hS
    · replace hF := br_no hF hc2
      refine lv_iload_n hx hb dX11_daysOf_27 rfl (lv_at hl 0 rfl) ?_
      refine lv_bipush (v := (6 : Int32)) hx hb dX11_daysOf_28 (by decide) ?_
      refine lv_icmp_eq (tgt := 45) hx hb dX11_daysOf_30 (by decide) (fun hc3 => ?_) (fun hc3 => ?_)
      · replace hF := br_yes hF hc3
        exact J45   _ _ _ hF (lv_sub hl [] rfl) hP hS
      · replace hF := br_no hF hc3
        refine lv_iload_n hx hb dX11_daysOf_33 rfl (lv_at hl 0 rfl) ?_
        refine lv_bipush (v := (9 : Int32)) hx hb dX11_daysOf_34 (by decide) ?_
        refine lv_icmp_eq (tgt := 45) hx hb dX11_daysOf_36 (by decide) (fun hc4 => ?_) (fun hc4 => ?_)
        · replace hF := br_yes hF hc4
          exact J45   _ _ _ hF (lv_sub hl [] rfl) hP hS
        · replace hF := br_no hF hc4
          refine lv_iload_n hx hb dX11_daysOf_39 rfl (lv_at hl 0 rfl) ?_
          refine lv_bipush (v := (11 : Int32)) hx hb dX11_daysOf_40 (by decide) ?_
          refine lv_icmp_ne (tgt := 50) hx hb dX11_daysOf_42 (by decide) (fun hc5 => ?_) (fun hc5 => ?_)
          · replace hF := br_no hF hc5
            refine lv_bipush (v := (31 : Int32)) hx hb dX11_daysOf_50 (by decide) ?_
            exact J52 (31 : Int32)  _ _ _ hF (lv_sub hl [] rfl) hP hS
          · replace hF := br_yes hF hc5
            exact J45   _ _ _ hF (lv_sub hl [] rfl) hP hS
  · replace hF := br_yes hF hc1
    refine lv_iload_n hx hb dX11_daysOf_5 rfl (lv_at hl 1 rfl) ?_
    replace hF := obnd_of hF
    obtain ⟨r7, h6, hF⟩ := hF
    refine cS_i (As := [.int (p1)]) (rest := []) hx hb hml hT hown hE hP hS (k_isLeap l g nf (p1) r7 h6) cw_X11_isLeap mw34_5 ⟨⟨rfl, rfl⟩, Nat.le_of_ble_eq_true rfl, Nat.le_of_ble_eq_true rfl⟩ rfl hl.1 rfl (Nat.le_of_ble_eq_true rfl) dX11_daysOf_6 ⟨Nat.zero_le _, Nat.zero_le _⟩ (fun H locs hP hS => ?_)
    refine lv_if_eq (tgt := 17) hx hb dX11_daysOf_9 (by decide) (fun hc8 => ?_) (fun hc8 => ?_)
    · replace hF := br_yes hF hc8
      refine lv_bipush (v := (28 : Int32)) hx hb dX11_daysOf_17 (by decide) ?_
      refine lv_goto (tgt := 52) hx hb dX11_daysOf_19 (by decide) ?_
      exact J52 (28 : Int32)  _ _ _ hF (lv_sub hl [] rfl) hP hS
    · replace hF := br_no hF hc8
      refine lv_bipush (v := (29 : Int32)) hx hb dX11_daysOf_12 (by decide) ?_
      refine lv_goto (tgt := 52) hx hb dX11_daysOf_14 (by decide) ?_
      exact J52 (29 : Int32)  _ _ _ hF (lv_sub hl [] rfl) hP hS
theorem cw_X11_daysOf : (Cond.static yX11_daysOf ∈ TB ∧ Cond.code yX11_daysOf cX11_daysOf 2 (some .int) ∈ TB ∧ Cond.initialized yX11_daysOf.cls ∈ TB) ∧ (yX11_daysOf.cls ≠ "java/lang/invoke/MethodHandle" ∧ yX11_daysOf.cls ≠ "java/lang/invoke/VarHandle" ∧ (parseMethodDescriptor yX11_daysOf.desc).map (fun d => d.parameters.length) = some 2) := ⟨⟨mw34_3, mw34_4, mw1_5⟩, by decide +kernel⟩
/-! X11_isDay -/
noncomputable def M_isDay_60 (nf : Nat) (t0 : Int32) : Option Int32 :=
  gd ((t0) &&& 1 = (t0)) (some (t0))
noncomputable def M_isDay_59 (nf : Nat)  : Option Int32 :=
  M_isDay_60 nf  (0 : Int32)
noncomputable def M_isDay (nf : Nat) (x0 : Int32) : Option Int32 :=
  bnd (((x0) >>> ((5 : Int32) &&& 31)) &&& (15 : Int32)) fun x1_2 => br ((x0) < 0) (M_isDay_59 nf) (br ((65536 : Int32) ≤ (x0)) (M_isDay_59 nf) (br ((x1_2) < (1 : Int32)) (M_isDay_59 nf) (br ((12 : Int32) < (x1_2)) (M_isDay_59 nf) (br (((x0) &&& (31 : Int32)) < (1 : Int32)) (M_isDay_59 nf) (obnd (M_daysOf nf (x1_2) ((1980 : Int32) + ((x0) >>> ((9 : Int32) &&& 31)))) fun r9 => br ((r9) < ((x0) &&& (31 : Int32))) (M_isDay_59 nf) (M_isDay_60 nf  (1 : Int32)))))))
set_option maxHeartbeats 4000000 in
set_option maxRecDepth 100000 in
theorem k_isDay (l : Launch) (g : GT) (nf : Nat) (p0 : Int32) (r : Int32) (hF : M_isDay nf p0 = some r) : Met l yX11_isDay (wx yX11_isDay cX11_isDay 2 (some .boolean)) ({ frames := 2, cells := 0, slots := 0, locals := 41 } : Room) (va_Pc [.int p0] (PS g)) (QSi r) 0 0 noA := by
  refine Met.ofW (cc := cX11_isDay) (maxL := 2) (ret := (some .boolean)) (by decide) rfl ?_
  intro p e s m args below meth c s₁ B hml hv
  obtain ⟨rfl, hE⟩ := hv
  have hx := B.exec
  have hb := B.bytes
  have hr := B.returns
  have hts := atoms_spec (ws := (wx yX11_isDay cX11_isDay 2 (some .boolean))) B.pre
  have hT : ∀ w ∈ TB, w.before _ s = true := fun w h => hts w (List.mem_cons_of_mem _ h)
  have hown : s.vm.findClass RX11 = some m.cls := findClass_of_methodNamed B.named
  have hlocks := B.notSynchronized
  have hS : va_S noA s.heap s.heap [] := va_S.rf
  have hP : va_P (gD g) vwCl [] s.heap := fun k q h => by cases h
  have hl := lv_entry ([.int p0]) (n := 2) (Nat.le_of_ble_eq_true rfl)
  rw [lg_entry_eq]
  generalize (lg_sl ([.int p0]) ++ List.replicate (2 - (lg_sl ([.int p0])).length) Slot.unset).toArray = ls at hl ⊢
  have hl : lv_has ls 2 [(0, .int p0)] := hl
  unfold M_isDay at hF
  have J60 : ∀ (t0 : Int32) (H : Heap) (locs : List Loc) (ls : Array Slot), M_isDay_60 nf t0 = some r → lv_has ls 2 [] → va_P (gD g) vwCl [] H → va_S noA s.heap H locs → W p l e (headSpec (wx yX11_isDay cX11_isDay 2 (some .boolean)) ({ frames := 2, cells := 0, slots := 0, locals := 41 } : Room)).room s m ([.int p0] : List Value).toArray below meth c H locs 0 0 (MQ below (QSi r) ([.int p0] : List Value).toArray s 0 0 noA) (F0 m 60 ls [.int t0]) := by
    intro t0 H locs ls hF hl hP hS
    unfold M_isDay_60 at hF
    replace hF := gd_of hF
    obtain ⟨hz1, hF⟩ := hF
    exact rS_z hx hb hr hlocks (nar_z hz1) hF hS dX11_isDay_60
  have J59 : ∀  (H : Heap) (locs : List Loc) (ls : Array Slot), M_isDay_59 nf  = some r → lv_has ls 2 [] → va_P (gD g) vwCl [] H → va_S noA s.heap H locs → W p l e (headSpec (wx yX11_isDay cX11_isDay 2 (some .boolean)) ({ frames := 2, cells := 0, slots := 0, locals := 41 } : Room)).room s m ([.int p0] : List Value).toArray below meth c H locs 0 0 (MQ below (QSi r) ([.int p0] : List Value).toArray s 0 0 noA) (F0 m 59 ls []) := by
    intro H locs ls hF hl hP hS
    unfold M_isDay_59 at hF
    refine lv_iconst (v := (0 : Int32)) hx hb dX11_isDay_59 (by decide) ?_
    exact J60 (0 : Int32)  _ _ _ hF (lv_sub hl [] rfl) hP hS
  replace hl := lv_sub hl [0] rfl
  refine lv_iload_n hx hb dX11_isDay_0 rfl (lv_at hl 0 rfl) ?_
  refine lv_iconst (v := (5 : Int32)) hx hb dX11_isDay_1 (by decide) ?_
  refine lv_ishr hx hb dX11_isDay_2 ?_
  refine lv_bipush (v := (15 : Int32)) hx hb dX11_isDay_3 (by decide) ?_
  refine lv_iand hx hb dX11_isDay_5 ?_
  obtain ⟨x1_2, ex1_2⟩ : ∃ y : Int32, y = (((p0) >>> ((5 : Int32) &&& 31)) &&& (15 : Int32)) := ⟨_, rfl⟩
  rw [← ex1_2]
  replace hF := bnd_of hF ex1_2
  refine lv_istore_n (lv' := [(1, .int (x1_2)), (0, .int (p0))]) hx hb dX11_isDay_6 rfl hl (by decide) rfl (fun ls hl => ?_)
  refine lv_iload_n hx hb dX11_isDay_7 rfl (lv_at hl 1 rfl) ?_
  refine lv_if_lt (tgt := 59) hx hb dX11_isDay_8 (by decide) (fun hc3 => ?_) (fun hc3 => ?_)
  · replace hF := br_yes hF hc3
    exact J59   _ _ _ hF (lv_sub hl [] rfl) hP hS
  · replace hF := br_no hF hc3
    refine lv_iload_n hx hb dX11_isDay_11 rfl (lv_at hl 1 rfl) ?_
    refine lv_ldc (v := (65536 : Int32)) hx hb hown (hT _ mw34_1) dX11_isDay_12 ?_
    refine lv_icmp_ge (tgt := 59) hx hb dX11_isDay_14 (by decide) (fun hc4 => ?_) (fun hc4 => ?_)
    · replace hF := br_yes hF hc4
      exact J59   _ _ _ hF (lv_sub hl [] rfl) hP hS
    · replace hF := br_no hF hc4
      refine lv_iload_n hx hb dX11_isDay_17 rfl (lv_at hl 0 rfl) ?_
      refine lv_iconst (v := (1 : Int32)) hx hb dX11_isDay_18 (by decide) ?_
      refine lv_icmp_lt (tgt := 59) hx hb dX11_isDay_19 (by decide) (fun hc5 => ?_) (fun hc5 => ?_)
      · replace hF := br_yes hF hc5
        exact J59   _ _ _ hF (lv_sub hl [] rfl) hP hS
      · replace hF := br_no hF hc5
        refine lv_iload_n hx hb dX11_isDay_22 rfl (lv_at hl 0 rfl) ?_
        refine lv_bipush (v := (12 : Int32)) hx hb dX11_isDay_23 (by decide) ?_
        refine lv_icmp_gt (tgt := 59) hx hb dX11_isDay_25 (by decide) (fun hc6 => ?_) (fun hc6 => ?_)
        · replace hF := br_yes hF hc6
          exact J59   _ _ _ hF (lv_sub hl [] rfl) hP hS
        · replace hF := br_no hF hc6
          refine lv_iload_n hx hb dX11_isDay_28 rfl (lv_at hl 1 rfl) ?_
          refine lv_bipush (v := (31 : Int32)) hx hb dX11_isDay_29 (by decide) ?_
          refine lv_iand hx hb dX11_isDay_31 ?_
          refine lv_iconst (v := (1 : Int32)) hx hb dX11_isDay_32 (by decide) ?_
          refine lv_icmp_lt (tgt := 59) hx hb dX11_isDay_33 (by decide) (fun hc7 => ?_) (fun hc7 => ?_)
          · replace hF := br_yes hF hc7
            exact J59   _ _ _ hF (lv_sub hl [] rfl) hP hS
          · replace hF := br_no hF hc7
            refine lv_iload_n hx hb dX11_isDay_36 rfl (lv_at hl 1 rfl) ?_
            refine lv_bipush (v := (31 : Int32)) hx hb dX11_isDay_37 (by decide) ?_
            refine lv_iand hx hb dX11_isDay_39 ?_
            refine lv_iload_n hx hb dX11_isDay_40 rfl (lv_at hl 0 rfl) ?_
            refine lv_sipush (v := (1980 : Int32)) hx hb dX11_isDay_41 (by decide) ?_
            refine lv_iload_n hx hb dX11_isDay_44 rfl (lv_at hl 1 rfl) ?_
            refine lv_bipush (v := (9 : Int32)) hx hb dX11_isDay_45 (by decide) ?_
            refine lv_ishr hx hb dX11_isDay_47 ?_
            refine lv_iadd hx hb dX11_isDay_48 ?_
            replace hF := obnd_of hF
            obtain ⟨r9, h8, hF⟩ := hF
            refine cS_i (As := [.int (x1_2), .int ((1980 : Int32) + ((p0) >>> ((9 : Int32) &&& 31)))]) (rest := [.int ((p0) &&& (31 : Int32))]) hx hb hml hT hown hE hP hS (k_daysOf l g nf (x1_2) ((1980 : Int32) + ((p0) >>> ((9 : Int32) &&& 31))) r9 h8) cw_X11_daysOf mw34_2 ⟨⟨rfl, rfl⟩, Nat.le_of_ble_eq_true rfl, Nat.le_of_ble_eq_true rfl⟩ rfl hl.1 rfl (Nat.le_of_ble_eq_true rfl) dX11_isDay_49 ⟨Nat.zero_le _, Nat.zero_le _⟩ (fun H locs hP hS => ?_)
            refine lv_icmp_gt (tgt := 59) hx hb dX11_isDay_52 (by decide) (fun hc10 => ?_) (fun hc10 => ?_)
            · replace hF := br_yes hF hc10
              exact J59   _ _ _ hF (lv_sub hl [] rfl) hP hS
            · replace hF := br_no hF hc10
              refine lv_iconst (v := (1 : Int32)) hx hb dX11_isDay_55 (by decide) ?_
              refine lv_goto (tgt := 60) hx hb dX11_isDay_56 (by decide) ?_
              exact J60 (1 : Int32)  _ _ _ hF (lv_sub hl [] rfl) hP hS
theorem cw_X11_isDay : (Cond.static yX11_isDay ∈ TB ∧ Cond.code yX11_isDay cX11_isDay 2 (some .boolean) ∈ TB ∧ Cond.initialized yX11_isDay.cls ∈ TB) ∧ (yX11_isDay.cls ≠ "java/lang/invoke/MethodHandle" ∧ yX11_isDay.cls ≠ "java/lang/invoke/VarHandle" ∧ (parseMethodDescriptor yX11_isDay.desc).map (fun d => d.parameters.length) = some 1) := ⟨⟨mw33_23, mw34_0, mw1_5⟩, by decide +kernel⟩
/-! X11_isTime -/
noncomputable def M_isTime_38 (nf : Nat) (t0 : Int32) : Option Int32 :=
  gd ((t0) &&& 1 = (t0)) (some (t0))
noncomputable def M_isTime_37 (nf : Nat)  : Option Int32 :=
  M_isTime_38 nf  (0 : Int32)
noncomputable def M_isTime (nf : Nat) (x0 : Int32) : Option Int32 :=
  br ((x0) < 0) (M_isTime_37 nf) (br ((24 : Int32) ≤ ((x0) >>> ((11 : Int32) &&& 31))) (M_isTime_37 nf) (br ((60 : Int32) ≤ (((x0) >>> ((5 : Int32) &&& 31)) &&& (63 : Int32))) (M_isTime_37 nf) (br ((30 : Int32) ≤ ((x0) &&& (31 : Int32))) (M_isTime_37 nf) (M_isTime_38 nf  (1 : Int32)))))
set_option maxHeartbeats 4000000 in
set_option maxRecDepth 100000 in
theorem k_isTime (l : Launch) (g : GT) (nf : Nat) (p0 : Int32) (r : Int32) (hF : M_isTime nf p0 = some r) : Met l yX11_isTime (wx yX11_isTime cX11_isTime 1 (some .boolean)) ({ frames := 0, cells := 0, slots := 0, locals := 0 } : Room) (va_Pc [.int p0] (PS g)) (QSi r) 0 0 noA := by
  refine Met.ofW (cc := cX11_isTime) (maxL := 1) (ret := (some .boolean)) (by decide) rfl ?_
  intro p e s m args below meth c s₁ B hml hv
  obtain ⟨rfl, hE⟩ := hv
  have hx := B.exec
  have hb := B.bytes
  have hr := B.returns
  have hts := atoms_spec (ws := (wx yX11_isTime cX11_isTime 1 (some .boolean))) B.pre
  have hT : ∀ w ∈ TB, w.before _ s = true := fun w h => hts w (List.mem_cons_of_mem _ h)
  have hown : s.vm.findClass RX11 = some m.cls := findClass_of_methodNamed B.named
  have hlocks := B.notSynchronized
  have hS : va_S noA s.heap s.heap [] := va_S.rf
  have hP : va_P (gD g) vwCl [] s.heap := fun k q h => by cases h
  have hl := lv_entry ([.int p0]) (n := 1) (Nat.le_of_ble_eq_true rfl)
  rw [lg_entry_eq]
  generalize (lg_sl ([.int p0]) ++ List.replicate (1 - (lg_sl ([.int p0])).length) Slot.unset).toArray = ls at hl ⊢
  have hl : lv_has ls 1 [(0, .int p0)] := hl
  unfold M_isTime at hF
  have J38 : ∀ (t0 : Int32) (H : Heap) (locs : List Loc) (ls : Array Slot), M_isTime_38 nf t0 = some r → lv_has ls 1 [] → va_P (gD g) vwCl [] H → va_S noA s.heap H locs → W p l e (headSpec (wx yX11_isTime cX11_isTime 1 (some .boolean)) ({ frames := 0, cells := 0, slots := 0, locals := 0 } : Room)).room s m ([.int p0] : List Value).toArray below meth c H locs 0 0 (MQ below (QSi r) ([.int p0] : List Value).toArray s 0 0 noA) (F0 m 38 ls [.int t0]) := by
    intro t0 H locs ls hF hl hP hS
    unfold M_isTime_38 at hF
    replace hF := gd_of hF
    obtain ⟨hz1, hF⟩ := hF
    exact rS_z hx hb hr hlocks (nar_z hz1) hF hS dX11_isTime_38
  have J37 : ∀  (H : Heap) (locs : List Loc) (ls : Array Slot), M_isTime_37 nf  = some r → lv_has ls 1 [] → va_P (gD g) vwCl [] H → va_S noA s.heap H locs → W p l e (headSpec (wx yX11_isTime cX11_isTime 1 (some .boolean)) ({ frames := 0, cells := 0, slots := 0, locals := 0 } : Room)).room s m ([.int p0] : List Value).toArray below meth c H locs 0 0 (MQ below (QSi r) ([.int p0] : List Value).toArray s 0 0 noA) (F0 m 37 ls []) := by
    intro H locs ls hF hl hP hS
    unfold M_isTime_37 at hF
    refine lv_iconst (v := (0 : Int32)) hx hb dX11_isTime_37 (by decide) ?_
    exact J38 (0 : Int32)  _ _ _ hF (lv_sub hl [] rfl) hP hS
  replace hl := lv_sub hl [0] rfl
  refine lv_iload_n hx hb dX11_isTime_0 rfl (lv_at hl 0 rfl) ?_
  refine lv_if_lt (tgt := 37) hx hb dX11_isTime_1 (by decide) (fun hc2 => ?_) (fun hc2 => ?_)
  · replace hF := br_yes hF hc2
    exact J37   _ _ _ hF (lv_sub hl [] rfl) hP hS
  · replace hF := br_no hF hc2
    refine lv_iload_n hx hb dX11_isTime_4 rfl (lv_at hl 0 rfl) ?_
    refine lv_bipush (v := (11 : Int32)) hx hb dX11_isTime_5 (by decide) ?_
    refine lv_ishr hx hb dX11_isTime_7 ?_
    refine lv_bipush (v := (24 : Int32)) hx hb dX11_isTime_8 (by decide) ?_
    refine lv_icmp_ge (tgt := 37) hx hb dX11_isTime_10 (by decide) (fun hc3 => ?_) (fun hc3 => ?_)
    · replace hF := br_yes hF hc3
      exact J37   _ _ _ hF (lv_sub hl [] rfl) hP hS
    · replace hF := br_no hF hc3
      refine lv_iload_n hx hb dX11_isTime_13 rfl (lv_at hl 0 rfl) ?_
      refine lv_iconst (v := (5 : Int32)) hx hb dX11_isTime_14 (by decide) ?_
      refine lv_ishr hx hb dX11_isTime_15 ?_
      refine lv_bipush (v := (63 : Int32)) hx hb dX11_isTime_16 (by decide) ?_
      refine lv_iand hx hb dX11_isTime_18 ?_
      refine lv_bipush (v := (60 : Int32)) hx hb dX11_isTime_19 (by decide) ?_
      refine lv_icmp_ge (tgt := 37) hx hb dX11_isTime_21 (by decide) (fun hc4 => ?_) (fun hc4 => ?_)
      · replace hF := br_yes hF hc4
        exact J37   _ _ _ hF (lv_sub hl [] rfl) hP hS
      · replace hF := br_no hF hc4
        refine lv_iload_n hx hb dX11_isTime_24 rfl (lv_at hl 0 rfl) ?_
        refine lv_bipush (v := (31 : Int32)) hx hb dX11_isTime_25 (by decide) ?_
        refine lv_iand hx hb dX11_isTime_27 ?_
        refine lv_bipush (v := (30 : Int32)) hx hb dX11_isTime_28 (by decide) ?_
        refine lv_icmp_ge (tgt := 37) hx hb dX11_isTime_30 (by decide) (fun hc5 => ?_) (fun hc5 => ?_)
        · replace hF := br_yes hF hc5
          exact J37   _ _ _ hF (lv_sub hl [] rfl) hP hS
        · replace hF := br_no hF hc5
          refine lv_iconst (v := (1 : Int32)) hx hb dX11_isTime_33 (by decide) ?_
          refine lv_goto (tgt := 38) hx hb dX11_isTime_34 (by decide) ?_
          exact J38 (1 : Int32)  _ _ _ hF (lv_sub hl [] rfl) hP hS
theorem cw_X11_isTime : (Cond.static yX11_isTime ∈ TB ∧ Cond.code yX11_isTime cX11_isTime 1 (some .boolean) ∈ TB ∧ Cond.initialized yX11_isTime.cls ∈ TB) ∧ (yX11_isTime.cls ≠ "java/lang/invoke/MethodHandle" ∧ yX11_isTime.cls ≠ "java/lang/invoke/VarHandle" ∧ (parseMethodDescriptor yX11_isTime.desc).map (fun d => d.parameters.length) = some 1) := ⟨⟨mw34_9, mw34_10, mw1_5⟩, by decide +kernel⟩
/-! X11_isMade -/
noncomputable def M_isMade_50 (nf : Nat) (t0 : Int32) : Option Int32 :=
  gd ((t0) &&& 1 = (t0)) (some (t0))
noncomputable def M_isMade_49 (nf : Nat)  : Option Int32 :=
  M_isMade_50 nf  (0 : Int32)
noncomputable def M_isMade_16 (nf : Nat)  : Option Int32 :=
  M_isMade_50 nf  (0 : Int32)
noncomputable def M_isMade (nf : Nat) (x0 : Int32) (x1 : Int32) (x2 : Int32) : Option Int32 :=
  br ((x0) = 0) (br ((x1) = 0) (br ((x2) = 0) (M_isMade_50 nf  (1 : Int32)) (M_isMade_16 nf)) (M_isMade_16 nf)) (obnd (M_isDay nf (x0)) fun r4 => br ((r4) = 0) (M_isMade_49 nf) (obnd (M_isTime nf (x1)) fun r7 => br ((r7) = 0) (M_isMade_49 nf) (br ((x2) < 0) (M_isMade_49 nf) (br ((200 : Int32) ≤ (x2)) (M_isMade_49 nf) (M_isMade_50 nf  (1 : Int32))))))
set_option maxHeartbeats 4000000 in
set_option maxRecDepth 100000 in
theorem k_isMade (l : Launch) (g : GT) (nf : Nat) (p0 : Int32) (p1 : Int32) (p2 : Int32) (r : Int32) (hF : M_isMade nf p0 p1 p2 = some r) : Met l yX11_isMade (wx yX11_isMade cX11_isMade 3 (some .boolean)) ({ frames := 3, cells := 0, slots := 0, locals := 62 } : Room) (va_Pc [.int p0, .int p1, .int p2] (PS g)) (QSi r) 0 0 noA := by
  refine Met.ofW (cc := cX11_isMade) (maxL := 3) (ret := (some .boolean)) (by decide) rfl ?_
  intro p e s m args below meth c s₁ B hml hv
  obtain ⟨rfl, hE⟩ := hv
  have hx := B.exec
  have hb := B.bytes
  have hr := B.returns
  have hts := atoms_spec (ws := (wx yX11_isMade cX11_isMade 3 (some .boolean))) B.pre
  have hT : ∀ w ∈ TB, w.before _ s = true := fun w h => hts w (List.mem_cons_of_mem _ h)
  have hown : s.vm.findClass RX11 = some m.cls := findClass_of_methodNamed B.named
  have hlocks := B.notSynchronized
  have hS : va_S noA s.heap s.heap [] := va_S.rf
  have hP : va_P (gD g) vwCl [] s.heap := fun k q h => by cases h
  have hl := lv_entry ([.int p0, .int p1, .int p2]) (n := 3) (Nat.le_of_ble_eq_true rfl)
  rw [lg_entry_eq]
  generalize (lg_sl ([.int p0, .int p1, .int p2]) ++ List.replicate (3 - (lg_sl ([.int p0, .int p1, .int p2])).length) Slot.unset).toArray = ls at hl ⊢
  have hl : lv_has ls 3 [(0, .int p0), (1, .int p1), (2, .int p2)] := hl
  unfold M_isMade at hF
  have J50 : ∀ (t0 : Int32) (H : Heap) (locs : List Loc) (ls : Array Slot), M_isMade_50 nf t0 = some r → lv_has ls 3 [] → va_P (gD g) vwCl [] H → va_S noA s.heap H locs → W p l e (headSpec (wx yX11_isMade cX11_isMade 3 (some .boolean)) ({ frames := 3, cells := 0, slots := 0, locals := 62 } : Room)).room s m ([.int p0, .int p1, .int p2] : List Value).toArray below meth c H locs 0 0 (MQ below (QSi r) ([.int p0, .int p1, .int p2] : List Value).toArray s 0 0 noA) (F0 m 50 ls [.int t0]) := by
    intro t0 H locs ls hF hl hP hS
    unfold M_isMade_50 at hF
    replace hF := gd_of hF
    obtain ⟨hz1, hF⟩ := hF
    exact rS_z hx hb hr hlocks (nar_z hz1) hF hS dX11_isMade_50
  have J49 : ∀  (H : Heap) (locs : List Loc) (ls : Array Slot), M_isMade_49 nf  = some r → lv_has ls 3 [] → va_P (gD g) vwCl [] H → va_S noA s.heap H locs → W p l e (headSpec (wx yX11_isMade cX11_isMade 3 (some .boolean)) ({ frames := 3, cells := 0, slots := 0, locals := 62 } : Room)).room s m ([.int p0, .int p1, .int p2] : List Value).toArray below meth c H locs 0 0 (MQ below (QSi r) ([.int p0, .int p1, .int p2] : List Value).toArray s 0 0 noA) (F0 m 49 ls []) := by
    intro H locs ls hF hl hP hS
    unfold M_isMade_49 at hF
    refine lv_iconst (v := (0 : Int32)) hx hb dX11_isMade_49 (by decide) ?_
    exact J50 (0 : Int32)  _ _ _ hF (lv_sub hl [] rfl) hP hS
  have J16 : ∀  (H : Heap) (locs : List Loc) (ls : Array Slot), M_isMade_16 nf  = some r → lv_has ls 3 [] → va_P (gD g) vwCl [] H → va_S noA s.heap H locs → W p l e (headSpec (wx yX11_isMade cX11_isMade 3 (some .boolean)) ({ frames := 3, cells := 0, slots := 0, locals := 62 } : Room)).room s m ([.int p0, .int p1, .int p2] : List Value).toArray below meth c H locs 0 0 (MQ below (QSi r) ([.int p0, .int p1, .int p2] : List Value).toArray s 0 0 noA) (F0 m 16 ls []) := by
    intro H locs ls hF hl hP hS
    unfold M_isMade_16 at hF
    refine lv_iconst (v := (0 : Int32)) hx hb dX11_isMade_16 (by decide) ?_
    refine lv_goto (tgt := 50) hx hb dX11_isMade_17 (by decide) ?_
    exact J50 (0 : Int32)  _ _ _ hF (lv_sub hl [] rfl) hP hS
  replace hl := lv_sub hl [0, 1, 2] rfl
  refine lv_iload_n hx hb dX11_isMade_0 rfl (lv_at hl 0 rfl) ?_
  refine lv_if_ne (tgt := 20) hx hb dX11_isMade_1 (by decide) (fun hc2 => ?_) (fun hc2 => ?_)
  · replace hF := br_no hF hc2
    refine lv_iload_n hx hb dX11_isMade_20 rfl (lv_at hl 0 rfl) ?_
    replace hF := obnd_of hF
    obtain ⟨r4, h3, hF⟩ := hF
    refine cS_i (As := [.int (p0)]) (rest := []) hx hb hml hT hown hE hP hS (k_isDay l g nf (p0) r4 h3) cw_X11_isDay mw33_22 ⟨⟨rfl, rfl⟩, Nat.le_of_ble_eq_true rfl, Nat.le_of_ble_eq_true rfl⟩ rfl hl.1 rfl (Nat.le_of_ble_eq_true rfl) dX11_isMade_21 ⟨Nat.zero_le _, Nat.zero_le _⟩ (fun H locs hP hS => ?_)
    refine lv_if_eq (tgt := 49) hx hb dX11_isMade_24 (by decide) (fun hc5 => ?_) (fun hc5 => ?_)
    · replace hF := br_yes hF hc5
      exact J49   _ _ _ hF (lv_sub hl [] rfl) hP hS
    · replace hF := br_no hF hc5
      refine lv_iload_n hx hb dX11_isMade_27 rfl (lv_at hl 1 rfl) ?_
      replace hF := obnd_of hF
      obtain ⟨r7, h6, hF⟩ := hF
      refine cS_i (As := [.int (p1)]) (rest := []) hx hb hml hT hown hE hP hS (k_isTime l g nf (p1) r7 h6) cw_X11_isTime mw34_8 ⟨⟨rfl, rfl⟩, Nat.le_of_ble_eq_true rfl, Nat.le_of_ble_eq_true rfl⟩ rfl hl.1 rfl (Nat.le_of_ble_eq_true rfl) dX11_isMade_28 ⟨Nat.zero_le _, Nat.zero_le _⟩ (fun H locs hP hS => ?_)
      refine lv_if_eq (tgt := 49) hx hb dX11_isMade_31 (by decide) (fun hc8 => ?_) (fun hc8 => ?_)
      · replace hF := br_yes hF hc8
        exact J49   _ _ _ hF (lv_sub hl [] rfl) hP hS
      · replace hF := br_no hF hc8
        refine lv_iload_n hx hb dX11_isMade_34 rfl (lv_at hl 2 rfl) ?_
        refine lv_if_lt (tgt := 49) hx hb dX11_isMade_35 (by decide) (fun hc9 => ?_) (fun hc9 => ?_)
        · replace hF := br_yes hF hc9
          exact J49   _ _ _ hF (lv_sub hl [] rfl) hP hS
        · replace hF := br_no hF hc9
          refine lv_iload_n hx hb dX11_isMade_38 rfl (lv_at hl 2 rfl) ?_
          refine lv_sipush (v := (200 : Int32)) hx hb dX11_isMade_39 (by decide) ?_
          refine lv_icmp_ge (tgt := 49) hx hb dX11_isMade_42 (by decide) (fun hc10 => ?_) (fun hc10 => ?_)
          · replace hF := br_yes hF hc10
            exact J49   _ _ _ hF (lv_sub hl [] rfl) hP hS
          · replace hF := br_no hF hc10
            refine lv_iconst (v := (1 : Int32)) hx hb dX11_isMade_45 (by decide) ?_
            refine lv_goto (tgt := 50) hx hb dX11_isMade_46 (by decide) ?_
            exact J50 (1 : Int32)  _ _ _ hF (lv_sub hl [] rfl) hP hS
  · replace hF := br_yes hF hc2
    refine lv_iload_n hx hb dX11_isMade_4 rfl (lv_at hl 1 rfl) ?_
    refine lv_if_ne (tgt := 16) hx hb dX11_isMade_5 (by decide) (fun hc11 => ?_) (fun hc11 => ?_)
    · replace hF := br_no hF hc11
      exact J16   _ _ _ hF (lv_sub hl [] rfl) hP hS
    · replace hF := br_yes hF hc11
      refine lv_iload_n hx hb dX11_isMade_8 rfl (lv_at hl 2 rfl) ?_
      refine lv_if_ne (tgt := 16) hx hb dX11_isMade_9 (by decide) (fun hc12 => ?_) (fun hc12 => ?_)
      · replace hF := br_no hF hc12
        exact J16   _ _ _ hF (lv_sub hl [] rfl) hP hS
      · replace hF := br_yes hF hc12
        refine lv_iconst (v := (1 : Int32)) hx hb dX11_isMade_12 (by decide) ?_
        refine lv_goto (tgt := 50) hx hb dX11_isMade_13 (by decide) ?_
        exact J50 (1 : Int32)  _ _ _ hF (lv_sub hl [] rfl) hP hS
theorem cw_X11_isMade : (Cond.static yX11_isMade ∈ TB ∧ Cond.code yX11_isMade cX11_isMade 3 (some .boolean) ∈ TB ∧ Cond.initialized yX11_isMade.cls ∈ TB) ∧ (yX11_isMade.cls ≠ "java/lang/invoke/MethodHandle" ∧ yX11_isMade.cls ≠ "java/lang/invoke/VarHandle" ∧ (parseMethodDescriptor yX11_isMade.desc).map (fun d => d.parameters.length) = some 3) := ⟨⟨mw33_20, mw33_21, mw1_5⟩, by decide +kernel⟩
