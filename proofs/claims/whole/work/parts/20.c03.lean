/-! X7_asTold -/
noncomputable def FX7_asTold_83 (K15 : Int32 → Int32 → FI → AR → Option (Int32 × FI × AR)) (nf : Nat) (ln : LN) (i0 : Nat) (x1 : Int32) (x2 : Int32) (fi : FI) (ar : AR) : Option (Int32 × FI × AR) :=
  bnd ((x2) + (1 : Int32)) fun x2_1 => K15 (x1) (x2_1) fi ar
noncomputable def FX7_asTold_81 (nf : Nat) (ln : LN) (i0 : Nat)  (fi : FI) (ar : AR) : Option (Int32 × FI × AR) :=
  some ((0 : Int32), fi, ar)
noncomputable def FX7_asTold_49 (K15 : Int32 → Int32 → FI → AR → Option (Int32 × FI × AR)) (nf : Nat) (ln : LN) (i0 : Nat) (x1 : Int32) (x2 : Int32) (t0 : Int32) (fi : FI) (ar : AR) : Option (Int32 × FI × AR) :=
  gd (¬ ((x2) < 0 ∨ ln (40 + 2 * i0) ≤ (x2).toNatClampNeg)) (br ((ar (40 + 2 * i0) (x2).toNatClampNeg) = (32 : Int32)) (FX7_asTold_83 K15 nf ln i0  (x1) (x2) fi ar) (gd (¬ ((x2) < 0 ∨ ln (40 + 2 * i0) ≤ (x2).toNatClampNeg)) (obnd (FX5_mayStandInShortName nf (ar (40 + 2 * i0) (x2).toNatClampNeg)) fun r6 => br ((r6) = 0) (FX7_asTold_81 nf ln i0  fi ar) (br ((t0) = 0) (FX7_asTold_83 K15 nf ln i0  (x1) (x2) fi ar) (br ((x1) = 0) (FX7_asTold_81 nf ln i0  fi ar) (FX7_asTold_83 K15 nf ln i0  (x1) (x2) fi ar))))))
noncomputable def FX7_asTold_48 (K15 : Int32 → Int32 → FI → AR → Option (Int32 × FI × AR)) (nf : Nat) (ln : LN) (i0 : Nat) (x1 : Int32) (x2 : Int32) (fi : FI) (ar : AR) : Option (Int32 × FI × AR) :=
  FX7_asTold_49 K15 nf ln i0  (x1) (x2) (0 : Int32) fi ar
noncomputable def FX7_asTold_15b (K15 : Int32 → Int32 → FI → AR → Option (Int32 × FI × AR)) (nf : Nat) (ln : LN) (i0 : Nat) (x1 : Int32) (x2 : Int32) (fi : FI) (ar : AR) : Option (Int32 × FI × AR) :=
  br ((11 : Int32) ≤ (x2)) (some ((1 : Int32), fi, ar)) (br ((x2) = 0) (FX7_asTold_48 K15 nf ln i0  (x1) (x2) fi ar) (br ((x2) = (8 : Int32)) (FX7_asTold_48 K15 nf ln i0  (x1) (x2) fi ar) (gd (¬ (((x2) - (1 : Int32)) < 0 ∨ ln (40 + 2 * i0) ≤ ((x2) - (1 : Int32)).toNatClampNeg)) (br ((ar (40 + 2 * i0) ((x2) - (1 : Int32)).toNatClampNeg) = (32 : Int32)) (FX7_asTold_49 K15 nf ln i0  (x1) (x2) (1 : Int32) fi ar) (FX7_asTold_48 K15 nf ln i0  (x1) (x2) fi ar)))))
noncomputable def FX7_asTold_15 (nf : Nat) (ln : LN) (i0 : Nat) (kf : Nat) : Int32 → Int32 → FI → AR → Option (Int32 × FI × AR) := Nat.rec (fun _ _ _ _ => none) (fun _ K15 => FX7_asTold_15b K15 nf ln i0) kf
noncomputable def FX7_asTold (nf : Nat) (ln : LN) (i0 : Nat) (fi : FI) (ar : AR) (x1 : Int32) : Option (Int32 × FI × AR) :=
  gd (¬ ((0 : Int32) < 0 ∨ ln (40 + 2 * i0) ≤ (0 : Int32).toNatClampNeg)) (br ((ar (40 + 2 * i0) (0 : Int32).toNatClampNeg) = (32 : Int32)) (some ((0 : Int32), fi, ar)) (FX7_asTold_15 nf ln i0 nf (x1) (0 : Int32) fi ar))
set_option maxHeartbeats 4000000 in
set_option maxRecDepth 100000 in
theorem kX7_asTold (l : Launch) (g : GT) (ad rd : Nat → Nat) (sz : Nat) (nf : Nat) (ln : LN) (i0 : Nat) (hi0 : i0 < 2) (fi : FI) (ar : AR) (p1 : Int32) (r : Int32) (fi' : FI) (ar' : AR) (hF : FX7_asTold nf ln i0 fi ar p1 = some (r, fi', ar')) : Met l yX7_asTold (wx yX7_asTold cX7_asTold 4 (some .boolean)) ({ frames := 5, cells := 0, slots := 0, locals := 111 } : Room) (va_Pc [.ref (ad (34 + 3 * i0)), .int p1] (PC g ad rd ln sz fi ar)) (QCi g ad rd ln sz r fi' ar') 0 0 (AC ad rd sz) := by
  refine Met.ofW (cc := cX7_asTold) (maxL := 4) (ret := (some .boolean)) (by decide) rfl ?_
  intro p e s m args below meth c s₁ B hml hv
  obtain ⟨rfl, hsz, hP, hK, hD0, hE⟩ := hv
  have hx := B.exec
  have hb := B.bytes
  have hr := B.returns
  have hts := atoms_spec (ws := (wx yX7_asTold cX7_asTold 4 (some .boolean))) B.pre
  have hT : ∀ w ∈ TB, w.before _ s = true := fun w h => hts w (List.mem_cons_of_mem _ h)
  have hown : s.vm.findClass RX7 = some m.cls := findClass_of_methodNamed B.named
  have hlocks := B.notSynchronized
  subst hsz
  have hD := dC hD0 s.heap.size
  have hA : ∀ q : Nat, s.heap.size ≤ q → AC ad rd s.heap.size q := fun q h => Or.inr h
  have hS : va_S (AC ad rd s.heap.size) s.heap s.heap [] := va_S.rf
  have hl := lv_entry ([.ref (ad (34 + 3 * i0)), .int p1]) (n := 4) (Nat.le_of_ble_eq_true rfl)
  rw [lg_entry_eq]
  generalize (lg_sl ([.ref (ad (34 + 3 * i0)), .int p1]) ++ List.replicate (4 - (lg_sl ([.ref (ad (34 + 3 * i0)), .int p1])).length) Slot.unset).toArray = ls at hl ⊢
  have hl : lv_has ls 4 [(0, .ref (ad (34 + 3 * i0))), (1, .int p1)] := hl
  unfold FX7_asTold at hF
  have J81 : ∀  (fi : FI) (ar : AR) (H : Heap) (locs : List Loc) (ls : Array Slot), FX7_asTold_81 nf ln i0 fi ar = some (r, fi', ar') → lv_has ls 4 [(0, .ref (ad (34 + 3 * i0)))] → va_P (gD g) vwCl (WC g ad rd ln fi ar) H → va_S (AC ad rd s.heap.size) s.heap H locs → W p l e (headSpec (wx yX7_asTold cX7_asTold 4 (some .boolean)) ({ frames := 5, cells := 0, slots := 0, locals := 111 } : Room)).room s m ([.ref (ad (34 + 3 * i0)), .int p1] : List Value).toArray below meth c H locs 0 0 (MQ below (QCi g ad rd ln s.heap.size r fi' ar') ([.ref (ad (34 + 3 * i0)), .int p1] : List Value).toArray s 0 0 (AC ad rd s.heap.size)) (F0 m 81 ls []) := by
    intro fi ar H locs ls hF hl hP hS
    unfold FX7_asTold_81 at hF
    refine lv_iconst (v := (0 : Int32)) hx hb dX7_asTold_81 (by decide) ?_
    exact rC_z hx hb hr hlocks rfl hF hP hS dX7_asTold_82
  have L15 : ∀ kf : Nat, ∀ (x1 : Int32) (x2 : Int32) (fi : FI) (ar : AR) (H : Heap) (locs : List Loc) (ls : Array Slot), FX7_asTold_15 nf ln i0 kf x1 x2 fi ar = some (r, fi', ar') → lv_has ls 4 [(0, .ref (ad (34 + 3 * i0))), (1, .int x1), (2, .int x2)] → va_P (gD g) vwCl (WC g ad rd ln fi ar) H → va_S (AC ad rd s.heap.size) s.heap H locs → W p l e (headSpec (wx yX7_asTold cX7_asTold 4 (some .boolean)) ({ frames := 5, cells := 0, slots := 0, locals := 111 } : Room)).room s m ([.ref (ad (34 + 3 * i0)), .int p1] : List Value).toArray below meth c H locs 0 0 (MQ below (QCi g ad rd ln s.heap.size r fi' ar') ([.ref (ad (34 + 3 * i0)), .int p1] : List Value).toArray s 0 0 (AC ad rd s.heap.size)) (F0 m 15 ls []) := by
    intro kf
    induction kf with
    | zero => intro x1 x2 fi ar H locs ls hF hl hP hS; cases (show (none : Option (Int32 × FI × AR)) = _ from hF)
    | succ kf ih15 =>
      intro x1 x2 fi ar H locs ls hF hl hP hS
      obtain ⟨K15, hK15⟩ : ∃ K : Int32 → Int32 → FI → AR → Option (Int32 × FI × AR), K = FX7_asTold_15 nf ln i0 kf := ⟨_, rfl⟩
      replace hF : FX7_asTold_15b K15 nf ln i0 x1 x2 fi ar = some (r, fi', ar') := by rw [hK15]; exact hF
      rw [← hK15] at ih15
      clear hK15
      have J83 : ∀ (x1 : Int32) (x2 : Int32) (fi : FI) (ar : AR) (H : Heap) (locs : List Loc) (ls : Array Slot), FX7_asTold_83 K15 nf ln i0 x1 x2 fi ar = some (r, fi', ar') → lv_has ls 4 [(0, .ref (ad (34 + 3 * i0))), (1, .int x1), (2, .int x2)] → va_P (gD g) vwCl (WC g ad rd ln fi ar) H → va_S (AC ad rd s.heap.size) s.heap H locs → W p l e (headSpec (wx yX7_asTold cX7_asTold 4 (some .boolean)) ({ frames := 5, cells := 0, slots := 0, locals := 111 } : Room)).room s m ([.ref (ad (34 + 3 * i0)), .int p1] : List Value).toArray below meth c H locs 0 0 (MQ below (QCi g ad rd ln s.heap.size r fi' ar') ([.ref (ad (34 + 3 * i0)), .int p1] : List Value).toArray s 0 0 (AC ad rd s.heap.size)) (F0 m 83 ls []) := by
        intro x1 x2 fi ar H locs ls hF hl hP hS
        unfold FX7_asTold_83 at hF
        obtain ⟨x2_1, ex2_1⟩ : ∃ y : Int32, y = (x2) + (1 : Int32) := ⟨_, rfl⟩
        replace hF := bnd_of hF ex2_1
        refine lv_iinc (v := x2_1) (lv' := [(2, .int (x2_1)), (0, .ref (ad (34 + 3 * i0))), (1, .int (x1))]) hx hb dX7_asTold_83 hl (k := 2) rfl (by rw [ex2_1]; rfl) (by decide) rfl (fun ls hl => ?_)
        refine lv_goto (tgt := 15) hx hb dX7_asTold_86 (by decide) ?_
        exact ih15 (x1) (x2_1) _ _ _ _ _ hF (lv_sub hl [1, 2, 0] rfl) hP hS
      have J49 : ∀ (x1 : Int32) (x2 : Int32) (t0 : Int32) (fi : FI) (ar : AR) (H : Heap) (locs : List Loc) (ls : Array Slot), FX7_asTold_49 K15 nf ln i0 x1 x2 t0 fi ar = some (r, fi', ar') → lv_has ls 4 [(0, .ref (ad (34 + 3 * i0))), (1, .int x1), (2, .int x2)] → va_P (gD g) vwCl (WC g ad rd ln fi ar) H → va_S (AC ad rd s.heap.size) s.heap H locs → W p l e (headSpec (wx yX7_asTold cX7_asTold 4 (some .boolean)) ({ frames := 5, cells := 0, slots := 0, locals := 111 } : Room)).room s m ([.ref (ad (34 + 3 * i0)), .int p1] : List Value).toArray below meth c H locs 0 0 (MQ below (QCi g ad rd ln s.heap.size r fi' ar') ([.ref (ad (34 + 3 * i0)), .int p1] : List Value).toArray s 0 0 (AC ad rd s.heap.size)) (F0 m 49 ls [.int t0]) := by
        intro x1 x2 t0 fi ar H locs ls hF hl hP hS
        unfold FX7_asTold_49 at hF
        refine lv_istore_n (lv' := [(3, .int (t0)), (0, .ref (ad (34 + 3 * i0))), (1, .int (x1)), (2, .int (x2))]) hx hb dX7_asTold_49 rfl hl (by decide) rfl (fun ls hl => ?_)
        refine lv_aload_n hx hb dX7_asTold_50 rfl (lv_at hl 1 rfl) ?_
        refine cg_X7_bytes hi0 hx hb hT hown hK hP mw5_5 dX7_asTold_51 ?_
        refine lv_iload_n hx hb dX7_asTold_54 rfl (lv_at hl 3 rfl) ?_
        replace hF := gd_of hF
        obtain ⟨hi2, hF⟩ := hF
        refine cl_sbytes hi0 hx hb hK hP hi2 dX7_asTold_55 ?_
        refine lv_bipush (v := (32 : Int32)) hx hb dX7_asTold_56 (by decide) ?_
        refine lv_icmp_eq (tgt := 83) hx hb dX7_asTold_58 (by decide) (fun hc3 => ?_) (fun hc3 => ?_)
        · replace hF := br_yes hF hc3
          exact J83 (x1) (x2) _ _ _ _ _ hF (lv_sub hl [1, 2, 3] rfl) hP hS
        · replace hF := br_no hF hc3
          refine lv_aload_n hx hb dX7_asTold_61 rfl (lv_at hl 1 rfl) ?_
          refine cg_X7_bytes hi0 hx hb hT hown hK hP mw5_5 dX7_asTold_62 ?_
          refine lv_iload_n hx hb dX7_asTold_65 rfl (lv_at hl 3 rfl) ?_
          replace hF := gd_of hF
          obtain ⟨hi4, hF⟩ := hF
          refine cl_sbytes hi0 hx hb hK hP hi4 dX7_asTold_66 ?_
          replace hF := obnd_of hF
          obtain ⟨r6, h5, hF⟩ := hF
          refine cS_i (As := [.int (ar (40 + 2 * i0) (x2).toNatClampNeg)]) (rest := []) hx hb hml hT hown hE hP hS (kX5_mayStandInShortName l g nf (ar (40 + 2 * i0) (x2).toNatClampNeg) r6 h5) cw_X5_mayStandInShortName mw10_8 ⟨⟨rfl, rfl⟩, Nat.le_of_ble_eq_true rfl, Nat.le_of_ble_eq_true rfl⟩ rfl hl.1 rfl (Nat.le_of_ble_eq_true rfl) dX7_asTold_67 ⟨Nat.zero_le _, Nat.zero_le _⟩ (fun H locs hP hS => ?_)
          refine lv_if_eq (tgt := 81) hx hb dX7_asTold_70 (by decide) (fun hc7 => ?_) (fun hc7 => ?_)
          · replace hF := br_yes hF hc7
            exact J81  _ _ _ _ _ hF (lv_sub hl [1] rfl) hP hS
          · replace hF := br_no hF hc7
            refine lv_iload_n hx hb dX7_asTold_73 rfl (lv_at hl 0 rfl) ?_
            refine lv_if_eq (tgt := 83) hx hb dX7_asTold_74 (by decide) (fun hc8 => ?_) (fun hc8 => ?_)
            · replace hF := br_yes hF hc8
              exact J83 (x1) (x2) _ _ _ _ _ hF (lv_sub hl [1, 2, 3] rfl) hP hS
            · replace hF := br_no hF hc8
              refine lv_iload_n hx hb dX7_asTold_77 rfl (lv_at hl 2 rfl) ?_
              refine lv_if_ne (tgt := 83) hx hb dX7_asTold_78 (by decide) (fun hc9 => ?_) (fun hc9 => ?_)
              · replace hF := br_no hF hc9
                exact J83 (x1) (x2) _ _ _ _ _ hF (lv_sub hl [1, 2, 3] rfl) hP hS
              · replace hF := br_yes hF hc9
                exact J81  _ _ _ _ _ hF (lv_sub hl [1] rfl) hP hS
      have J48 : ∀ (x1 : Int32) (x2 : Int32) (fi : FI) (ar : AR) (H : Heap) (locs : List Loc) (ls : Array Slot), FX7_asTold_48 K15 nf ln i0 x1 x2 fi ar = some (r, fi', ar') → lv_has ls 4 [(0, .ref (ad (34 + 3 * i0))), (1, .int x1), (2, .int x2)] → va_P (gD g) vwCl (WC g ad rd ln fi ar) H → va_S (AC ad rd s.heap.size) s.heap H locs → W p l e (headSpec (wx yX7_asTold cX7_asTold 4 (some .boolean)) ({ frames := 5, cells := 0, slots := 0, locals := 111 } : Room)).room s m ([.ref (ad (34 + 3 * i0)), .int p1] : List Value).toArray below meth c H locs 0 0 (MQ below (QCi g ad rd ln s.heap.size r fi' ar') ([.ref (ad (34 + 3 * i0)), .int p1] : List Value).toArray s 0 0 (AC ad rd s.heap.size)) (F0 m 48 ls []) := by
        intro x1 x2 fi ar H locs ls hF hl hP hS
        unfold FX7_asTold_48 at hF
        refine lv_iconst (v := (0 : Int32)) hx hb dX7_asTold_48 (by decide) ?_
        exact J49 (x1) (x2) (0 : Int32) _ _ _ _ _ hF (lv_sub hl [0, 1, 2] rfl) hP hS
      unfold FX7_asTold_15b at hF
      refine lv_iload_n hx hb dX7_asTold_15 rfl (lv_at hl 2 rfl) ?_
      refine lv_bipush (v := (11 : Int32)) hx hb dX7_asTold_16 (by decide) ?_
      refine lv_icmp_ge (tgt := 89) hx hb dX7_asTold_18 (by decide) (fun hc10 => ?_) (fun hc10 => ?_)
      · replace hF := br_yes hF hc10
        refine lv_iconst (v := (1 : Int32)) hx hb dX7_asTold_89 (by decide) ?_
        exact rC_z hx hb hr hlocks rfl hF hP hS dX7_asTold_90
      · replace hF := br_no hF hc10
        refine lv_iload_n hx hb dX7_asTold_21 rfl (lv_at hl 2 rfl) ?_
        refine lv_if_eq (tgt := 48) hx hb dX7_asTold_22 (by decide) (fun hc11 => ?_) (fun hc11 => ?_)
        · replace hF := br_yes hF hc11
          exact J48 (x1) (x2) _ _ _ _ _ hF (lv_sub hl [0, 1, 2] rfl) hP hS
        · replace hF := br_no hF hc11
          refine lv_iload_n hx hb dX7_asTold_25 rfl (lv_at hl 2 rfl) ?_
          refine lv_bipush (v := (8 : Int32)) hx hb dX7_asTold_26 (by decide) ?_
          refine lv_icmp_eq (tgt := 48) hx hb dX7_asTold_28 (by decide) (fun hc12 => ?_) (fun hc12 => ?_)
          · replace hF := br_yes hF hc12
            exact J48 (x1) (x2) _ _ _ _ _ hF (lv_sub hl [0, 1, 2] rfl) hP hS
          · replace hF := br_no hF hc12
            refine lv_aload_n hx hb dX7_asTold_31 rfl (lv_at hl 0 rfl) ?_
            refine cg_X7_bytes hi0 hx hb hT hown hK hP mw5_5 dX7_asTold_32 ?_
            refine lv_iload_n hx hb dX7_asTold_35 rfl (lv_at hl 2 rfl) ?_
            refine lv_iconst (v := (1 : Int32)) hx hb dX7_asTold_36 (by decide) ?_
            refine lv_isub hx hb dX7_asTold_37 ?_
            replace hF := gd_of hF
            obtain ⟨hi13, hF⟩ := hF
            refine cl_sbytes hi0 hx hb hK hP hi13 dX7_asTold_38 ?_
            refine lv_bipush (v := (32 : Int32)) hx hb dX7_asTold_39 (by decide) ?_
            refine lv_icmp_ne (tgt := 48) hx hb dX7_asTold_41 (by decide) (fun hc14 => ?_) (fun hc14 => ?_)
            · replace hF := br_no hF hc14
              exact J48 (x1) (x2) _ _ _ _ _ hF (lv_sub hl [0, 1, 2] rfl) hP hS
            · replace hF := br_yes hF hc14
              refine lv_iconst (v := (1 : Int32)) hx hb dX7_asTold_44 (by decide) ?_
              refine lv_goto (tgt := 49) hx hb dX7_asTold_45 (by decide) ?_
              exact J49 (x1) (x2) (1 : Int32) _ _ _ _ _ hF (lv_sub hl [0, 1, 2] rfl) hP hS
  replace hl := lv_sub hl [0, 1] rfl
  refine lv_aload_n hx hb dX7_asTold_0 rfl (lv_at hl 0 rfl) ?_
  refine cg_X7_bytes hi0 hx hb hT hown hK hP mw5_5 dX7_asTold_1 ?_
  refine lv_iconst (v := (0 : Int32)) hx hb dX7_asTold_4 (by decide) ?_
  replace hF := gd_of hF
  obtain ⟨hi15, hF⟩ := hF
  refine cl_sbytes hi0 hx hb hK hP hi15 dX7_asTold_5 ?_
  refine lv_bipush (v := (32 : Int32)) hx hb dX7_asTold_6 (by decide) ?_
  refine lv_icmp_ne (tgt := 13) hx hb dX7_asTold_8 (by decide) (fun hc16 => ?_) (fun hc16 => ?_)
  · replace hF := br_no hF hc16
    refine lv_iconst (v := (0 : Int32)) hx hb dX7_asTold_13 (by decide) ?_
    refine lv_istore_n (lv' := [(2, .int (0 : Int32)), (0, .ref (ad (34 + 3 * i0))), (1, .int (p1))]) hx hb dX7_asTold_14 rfl hl (by decide) rfl (fun ls hl => ?_)
    exact L15 nf (p1) (0 : Int32) _ _ _ _ _ hF (lv_sub hl [1, 2, 0] rfl) hP hS
  · replace hF := br_yes hF hc16
    refine lv_iconst (v := (0 : Int32)) hx hb dX7_asTold_11 (by decide) ?_
    exact rC_z hx hb hr hlocks rfl hF hP hS dX7_asTold_12
theorem cw_X7_asTold : (Cond.instanceMethod yX7_asTold ∈ TB ∧ Cond.selects RX7 yX7_asTold yX7_asTold ∈ TB ∧ Cond.code yX7_asTold cX7_asTold 4 (some .boolean) ∈ TB ∧ Cond.initialized RX7 ∈ TB) ∧ (yX7_asTold.cls = RX7 ∧ yX7_asTold.cls ≠ "java/lang/invoke/MethodHandle" ∧ yX7_asTold.cls ≠ "java/lang/invoke/VarHandle" ∧ (parseMethodDescriptor yX7_asTold.desc).map (fun d => d.parameters.length) = some 1) := ⟨⟨mw26_3, mw26_4, mw26_5, mw3_4⟩, by decide +kernel⟩
/-! X7_sum -/
noncomputable def FX7_sum_4b (K4 : Int32 → Int32 → FI → AR → Option (Int32 × FI × AR)) (nf : Nat) (ln : LN) (i0 : Nat) (x1 : Int32) (x2 : Int32) (fi : FI) (ar : AR) : Option (Int32 × FI × AR) :=
  br ((11 : Int32) ≤ (x2)) (some ((x1), fi, ar)) (gd (¬ ((x2) < 0 ∨ ln (40 + 2 * i0) ≤ (x2).toNatClampNeg)) (bnd ((((((x1) &&& (1 : Int32)) <<< ((7 : Int32) &&& 31)) + ((x1) >>> ((1 : Int32) &&& 31))) + (ar (40 + 2 * i0) (x2).toNatClampNeg)) &&& (255 : Int32)) fun x1_3 => bnd ((x2) + (1 : Int32)) fun x2_4 => K4 (x1_3) (x2_4) fi ar))
noncomputable def FX7_sum_4 (nf : Nat) (ln : LN) (i0 : Nat) (kf : Nat) : Int32 → Int32 → FI → AR → Option (Int32 × FI × AR) := Nat.rec (fun _ _ _ _ => none) (fun _ K4 => FX7_sum_4b K4 nf ln i0) kf
noncomputable def FX7_sum (nf : Nat) (ln : LN) (i0 : Nat) (fi : FI) (ar : AR)  : Option (Int32 × FI × AR) :=
  FX7_sum_4 nf ln i0 nf (0 : Int32) (0 : Int32) fi ar
set_option maxHeartbeats 4000000 in
set_option maxRecDepth 100000 in
theorem kX7_sum (l : Launch) (g : GT) (ad rd : Nat → Nat) (sz : Nat) (nf : Nat) (ln : LN) (i0 : Nat) (hi0 : i0 < 2) (fi : FI) (ar : AR)  (r : Int32) (fi' : FI) (ar' : AR) (hF : FX7_sum nf ln i0 fi ar  = some (r, fi', ar')) : Met l yX7_sum (wx yX7_sum cX7_sum 3 (some .int)) ({ frames := 0, cells := 0, slots := 0, locals := 0 } : Room) (va_Pc [.ref (ad (34 + 3 * i0))] (PC g ad rd ln sz fi ar)) (QCi g ad rd ln sz r fi' ar') 0 0 (AC ad rd sz) := by
  refine Met.ofW (cc := cX7_sum) (maxL := 3) (ret := (some .int)) (by decide) rfl ?_
  intro p e s m args below meth c s₁ B hml hv
  obtain ⟨rfl, hsz, hP, hK, hD0, hE⟩ := hv
  have hx := B.exec
  have hb := B.bytes
  have hr := B.returns
  have hts := atoms_spec (ws := (wx yX7_sum cX7_sum 3 (some .int))) B.pre
  have hT : ∀ w ∈ TB, w.before _ s = true := fun w h => hts w (List.mem_cons_of_mem _ h)
  have hown : s.vm.findClass RX7 = some m.cls := findClass_of_methodNamed B.named
  have hlocks := B.notSynchronized
  subst hsz
  have hD := dC hD0 s.heap.size
  have hA : ∀ q : Nat, s.heap.size ≤ q → AC ad rd s.heap.size q := fun q h => Or.inr h
  have hS : va_S (AC ad rd s.heap.size) s.heap s.heap [] := va_S.rf
  have hl := lv_entry ([.ref (ad (34 + 3 * i0))]) (n := 3) (Nat.le_of_ble_eq_true rfl)
  rw [lg_entry_eq]
  generalize (lg_sl ([.ref (ad (34 + 3 * i0))]) ++ List.replicate (3 - (lg_sl ([.ref (ad (34 + 3 * i0))])).length) Slot.unset).toArray = ls at hl ⊢
  have hl : lv_has ls 3 [(0, .ref (ad (34 + 3 * i0)))] := hl
  unfold FX7_sum at hF
  have L4 : ∀ kf : Nat, ∀ (x1 : Int32) (x2 : Int32) (fi : FI) (ar : AR) (H : Heap) (locs : List Loc) (ls : Array Slot), FX7_sum_4 nf ln i0 kf x1 x2 fi ar = some (r, fi', ar') → lv_has ls 3 [(0, .ref (ad (34 + 3 * i0))), (1, .int x1), (2, .int x2)] → va_P (gD g) vwCl (WC g ad rd ln fi ar) H → va_S (AC ad rd s.heap.size) s.heap H locs → W p l e (headSpec (wx yX7_sum cX7_sum 3 (some .int)) ({ frames := 0, cells := 0, slots := 0, locals := 0 } : Room)).room s m ([.ref (ad (34 + 3 * i0))] : List Value).toArray below meth c H locs 0 0 (MQ below (QCi g ad rd ln s.heap.size r fi' ar') ([.ref (ad (34 + 3 * i0))] : List Value).toArray s 0 0 (AC ad rd s.heap.size)) (F0 m 4 ls []) := by
    intro kf
    induction kf with
    | zero => intro x1 x2 fi ar H locs ls hF hl hP hS; cases (show (none : Option (Int32 × FI × AR)) = _ from hF)
    | succ kf ih4 =>
      intro x1 x2 fi ar H locs ls hF hl hP hS
      obtain ⟨K4, hK4⟩ : ∃ K : Int32 → Int32 → FI → AR → Option (Int32 × FI × AR), K = FX7_sum_4 nf ln i0 kf := ⟨_, rfl⟩
      replace hF : FX7_sum_4b K4 nf ln i0 x1 x2 fi ar = some (r, fi', ar') := by rw [hK4]; exact hF
      rw [← hK4] at ih4
      clear hK4
      unfold FX7_sum_4b at hF
      refine lv_iload_n hx hb dX7_sum_4 rfl (lv_at hl 2 rfl) ?_
      refine lv_bipush (v := (11 : Int32)) hx hb dX7_sum_5 (by decide) ?_
      refine lv_icmp_ge (tgt := 38) hx hb dX7_sum_7 (by decide) (fun hc1 => ?_) (fun hc1 => ?_)
      · replace hF := br_yes hF hc1
        refine lv_iload_n hx hb dX7_sum_38 rfl (lv_at hl 1 rfl) ?_
        exact rC_i hx hb hr hlocks hF hP hS dX7_sum_39
      · replace hF := br_no hF hc1
        refine lv_iload_n hx hb dX7_sum_10 rfl (lv_at hl 1 rfl) ?_
        refine lv_iconst (v := (1 : Int32)) hx hb dX7_sum_11 (by decide) ?_
        refine lv_iand hx hb dX7_sum_12 ?_
        refine lv_bipush (v := (7 : Int32)) hx hb dX7_sum_13 (by decide) ?_
        refine lv_ishl hx hb dX7_sum_15 ?_
        refine lv_iload_n hx hb dX7_sum_16 rfl (lv_at hl 1 rfl) ?_
        refine lv_iconst (v := (1 : Int32)) hx hb dX7_sum_17 (by decide) ?_
        refine lv_ishr hx hb dX7_sum_18 ?_
        refine lv_iadd hx hb dX7_sum_19 ?_
        refine lv_aload_n hx hb dX7_sum_20 rfl (lv_at hl 0 rfl) ?_
        refine cg_X7_bytes hi0 hx hb hT hown hK hP mw5_5 dX7_sum_21 ?_
        refine lv_iload_n hx hb dX7_sum_24 rfl (lv_at hl 2 rfl) ?_
        replace hF := gd_of hF
        obtain ⟨hi2, hF⟩ := hF
        refine cl_sbytes hi0 hx hb hK hP hi2 dX7_sum_25 ?_
        refine lv_iadd hx hb dX7_sum_26 ?_
        refine lv_sipush (v := (255 : Int32)) hx hb dX7_sum_27 (by decide) ?_
        refine lv_iand hx hb dX7_sum_30 ?_
        obtain ⟨x1_3, ex1_3⟩ : ∃ y : Int32, y = ((((((x1) &&& (1 : Int32)) <<< ((7 : Int32) &&& 31)) + ((x1) >>> ((1 : Int32) &&& 31))) + (ar (40 + 2 * i0) (x2).toNatClampNeg)) &&& (255 : Int32)) := ⟨_, rfl⟩
        rw [← ex1_3]
        replace hF := bnd_of hF ex1_3
        refine lv_istore_n (lv' := [(1, .int (x1_3)), (0, .ref (ad (34 + 3 * i0))), (2, .int (x2))]) hx hb dX7_sum_31 rfl hl (by decide) rfl (fun ls hl => ?_)
        obtain ⟨x2_4, ex2_4⟩ : ∃ y : Int32, y = (x2) + (1 : Int32) := ⟨_, rfl⟩
        replace hF := bnd_of hF ex2_4
        refine lv_iinc (v := x2_4) (lv' := [(2, .int (x2_4)), (1, .int (x1_3)), (0, .ref (ad (34 + 3 * i0)))]) hx hb dX7_sum_32 hl (k := 2) rfl (by rw [ex2_4]; rfl) (by decide) rfl (fun ls hl => ?_)
        refine lv_goto (tgt := 4) hx hb dX7_sum_35 (by decide) ?_
        exact ih4 (x1_3) (x2_4) _ _ _ _ _ hF (lv_sub hl [2, 1, 0] rfl) hP hS
  replace hl := lv_sub hl [0] rfl
  refine lv_iconst (v := (0 : Int32)) hx hb dX7_sum_0 (by decide) ?_
  refine lv_istore_n (lv' := [(1, .int (0 : Int32)), (0, .ref (ad (34 + 3 * i0)))]) hx hb dX7_sum_1 rfl hl (by decide) rfl (fun ls hl => ?_)
  refine lv_iconst (v := (0 : Int32)) hx hb dX7_sum_2 (by decide) ?_
  refine lv_istore_n (lv' := [(2, .int (0 : Int32)), (1, .int (0 : Int32)), (0, .ref (ad (34 + 3 * i0)))]) hx hb dX7_sum_3 rfl hl (by decide) rfl (fun ls hl => ?_)
  exact L4 nf (0 : Int32) (0 : Int32) _ _ _ _ _ hF (lv_sub hl [2, 1, 0] rfl) hP hS
theorem cw_X7_sum : (Cond.instanceMethod yX7_sum ∈ TB ∧ Cond.selects RX7 yX7_sum yX7_sum ∈ TB ∧ Cond.code yX7_sum cX7_sum 3 (some .int) ∈ TB ∧ Cond.initialized RX7 ∈ TB) ∧ (yX7_sum.cls = RX7 ∧ yX7_sum.cls ≠ "java/lang/invoke/MethodHandle" ∧ yX7_sum.cls ≠ "java/lang/invoke/VarHandle" ∧ (parseMethodDescriptor yX7_sum.desc).map (fun d => d.parameters.length) = some 0) := ⟨⟨mw26_12, mw26_13, mw26_14, mw3_4⟩, by decide +kernel⟩
/-! X0_partsAsTold -/
noncomputable def FX0_partsAsTold_112 (nf : Nat) (ln : LN)  (fi : FI) (ar : AR) : Option (Int32 × FI × AR) :=
  some ((0 : Int32), fi, ar)
noncomputable def FX0_partsAsTold_63 (K19 : Int32 → Int32 → Int32 → Int32 → FI → AR → Option (Int32 × FI × AR)) (nf : Nat) (ln : LN) (x1 : Int32) (x2 : Int32) (x3 : Int32) (x4 : Int32) (x5 : Int32) (t0 : Int32) (t1 : Int32) (fi : FI) (ar : AR) : Option (Int32 × FI × AR) :=
  br ((t0) = (t1)) (obnd3 (FX3_one nf ln fi ar ((x5) + (12 : Int32))) fun r5 fi3 ar4 => br ((r5) = 0) (obnd3 (FX3_one nf ln fi3 ar4 ((x5) + (13 : Int32))) fun r10 fi8 ar9 => br ((r10) = (x3)) (obnd3 (FX3_two nf ln fi8 ar9 ((x5) + (26 : Int32))) fun r15 fi13 ar14 => br ((r15) = 0) (bnd ((x4) + (1 : Int32)) fun x4_17 => K19 (x1) (x2) (x3) (x4_17) fi13 ar14) (FX0_partsAsTold_112 nf ln  fi13 ar14)) (FX0_partsAsTold_112 nf ln  fi8 ar9)) (FX0_partsAsTold_112 nf ln  fi3 ar4)) (FX0_partsAsTold_112 nf ln  fi ar)
noncomputable def FX0_partsAsTold_19b (K19 : Int32 → Int32 → Int32 → Int32 → FI → AR → Option (Int32 × FI × AR)) (nf : Nat) (ln : LN) (x1 : Int32) (x2 : Int32) (x3 : Int32) (x4 : Int32) (fi : FI) (ar : AR) : Option (Int32 × FI × AR) :=
  br ((x2) < (x4)) (some ((1 : Int32), fi, ar)) (obnd3 (FX2_slotAddress nf ln 2 fi ar ((x1) - (x4))) fun r22 fi20 ar21 => obnd3 (FX3_one nf ln fi20 ar21 (r22)) fun r26 fi24 ar25 => br ((x4) = (x2)) (FX0_partsAsTold_63 K19 nf ln  (x1) (x2) (x3) (x4) (r22) (r26) ((x4) + (64 : Int32)) fi24 ar25) (FX0_partsAsTold_63 K19 nf ln  (x1) (x2) (x3) (x4) (r22) (r26) (x4) fi24 ar25))
noncomputable def FX0_partsAsTold_19 (nf : Nat) (ln : LN) (kf : Nat) : Int32 → Int32 → Int32 → Int32 → FI → AR → Option (Int32 × FI × AR) := Nat.rec (fun _ _ _ _ _ _ => none) (fun _ K19 => FX0_partsAsTold_19b K19 nf ln) kf
noncomputable def FX0_partsAsTold (nf : Nat) (ln : LN) (fi : FI) (ar : AR) (x1 : Int32) (x2 : Int32) : Option (Int32 × FI × AR) :=
  br ((x2) ≤ (20 : Int32)) (obnd3 (FX7_sum nf ln 1 fi ar) fun r32 fi30 ar31 => FX0_partsAsTold_19 nf ln nf (x1) (x2) (r32) (1 : Int32) fi30 ar31) (some ((0 : Int32), fi, ar))
set_option maxHeartbeats 4000000 in
set_option maxRecDepth 100000 in
theorem kX0_partsAsTold (l : Launch) (g : GT) (ad rd : Nat → Nat) (sz : Nat) (nf : Nat) (ln : LN) (fi : FI) (ar : AR) (p1 : Int32) (p2 : Int32) (r : Int32) (fi' : FI) (ar' : AR) (hF : FX0_partsAsTold nf ln fi ar p1 p2 = some (r, fi', ar')) : Met l yX0_partsAsTold (wx yX0_partsAsTold cX0_partsAsTold 6 (some .boolean)) ({ frames := 1, cells := 0, slots := 0, locals := 24 } : Room) (va_Pc [.ref (ad (7)), .int p1, .int p2] (PC g ad rd ln sz fi ar)) (QCi g ad rd ln sz r fi' ar') 0 0 (AC ad rd sz) := by
  refine Met.ofW (cc := cX0_partsAsTold) (maxL := 6) (ret := (some .boolean)) (by decide) rfl ?_
  intro p e s m args below meth c s₁ B hml hv
  obtain ⟨rfl, hsz, hP, hK, hD0, hE⟩ := hv
  have hx := B.exec
  have hb := B.bytes
  have hr := B.returns
  have hts := atoms_spec (ws := (wx yX0_partsAsTold cX0_partsAsTold 6 (some .boolean))) B.pre
  have hT : ∀ w ∈ TB, w.before _ s = true := fun w h => hts w (List.mem_cons_of_mem _ h)
  have hown : s.vm.findClass RX0 = some m.cls := findClass_of_methodNamed B.named
  have hlocks := B.notSynchronized
  subst hsz
  have hD := dC hD0 s.heap.size
  have hA : ∀ q : Nat, s.heap.size ≤ q → AC ad rd s.heap.size q := fun q h => Or.inr h
  have hS : va_S (AC ad rd s.heap.size) s.heap s.heap [] := va_S.rf
  have hl := lv_entry ([.ref (ad (7)), .int p1, .int p2]) (n := 6) (Nat.le_of_ble_eq_true rfl)
  rw [lg_entry_eq]
  generalize (lg_sl ([.ref (ad (7)), .int p1, .int p2]) ++ List.replicate (6 - (lg_sl ([.ref (ad (7)), .int p1, .int p2])).length) Slot.unset).toArray = ls at hl ⊢
  have hl : lv_has ls 6 [(0, .ref (ad (7))), (1, .int p1), (2, .int p2)] := hl
  unfold FX0_partsAsTold at hF
  have J112 : ∀  (fi : FI) (ar : AR) (H : Heap) (locs : List Loc) (ls : Array Slot), FX0_partsAsTold_112 nf ln fi ar = some (r, fi', ar') → lv_has ls 6 [(0, .ref (ad (7)))] → va_P (gD g) vwCl (WC g ad rd ln fi ar) H → va_S (AC ad rd s.heap.size) s.heap H locs → W p l e (headSpec (wx yX0_partsAsTold cX0_partsAsTold 6 (some .boolean)) ({ frames := 1, cells := 0, slots := 0, locals := 24 } : Room)).room s m ([.ref (ad (7)), .int p1, .int p2] : List Value).toArray below meth c H locs 0 0 (MQ below (QCi g ad rd ln s.heap.size r fi' ar') ([.ref (ad (7)), .int p1, .int p2] : List Value).toArray s 0 0 (AC ad rd s.heap.size)) (F0 m 112 ls []) := by
    intro fi ar H locs ls hF hl hP hS
    unfold FX0_partsAsTold_112 at hF
    refine lv_iconst (v := (0 : Int32)) hx hb dX0_partsAsTold_112 (by decide) ?_
    exact rC_z hx hb hr hlocks rfl hF hP hS dX0_partsAsTold_113
  have L19 : ∀ kf : Nat, ∀ (x1 : Int32) (x2 : Int32) (x3 : Int32) (x4 : Int32) (fi : FI) (ar : AR) (H : Heap) (locs : List Loc) (ls : Array Slot), FX0_partsAsTold_19 nf ln kf x1 x2 x3 x4 fi ar = some (r, fi', ar') → lv_has ls 6 [(0, .ref (ad (7))), (1, .int x1), (2, .int x2), (3, .int x3), (4, .int x4)] → va_P (gD g) vwCl (WC g ad rd ln fi ar) H → va_S (AC ad rd s.heap.size) s.heap H locs → W p l e (headSpec (wx yX0_partsAsTold cX0_partsAsTold 6 (some .boolean)) ({ frames := 1, cells := 0, slots := 0, locals := 24 } : Room)).room s m ([.ref (ad (7)), .int p1, .int p2] : List Value).toArray below meth c H locs 0 0 (MQ below (QCi g ad rd ln s.heap.size r fi' ar') ([.ref (ad (7)), .int p1, .int p2] : List Value).toArray s 0 0 (AC ad rd s.heap.size)) (F0 m 19 ls []) := by
    intro kf
    induction kf with
    | zero => intro x1 x2 x3 x4 fi ar H locs ls hF hl hP hS; cases (show (none : Option (Int32 × FI × AR)) = _ from hF)
    | succ kf ih19 =>
      intro x1 x2 x3 x4 fi ar H locs ls hF hl hP hS
      obtain ⟨K19, hK19⟩ : ∃ K : Int32 → Int32 → Int32 → Int32 → FI → AR → Option (Int32 × FI × AR), K = FX0_partsAsTold_19 nf ln kf := ⟨_, rfl⟩
      replace hF : FX0_partsAsTold_19b K19 nf ln x1 x2 x3 x4 fi ar = some (r, fi', ar') := by rw [hK19]; exact hF
      rw [← hK19] at ih19
      clear hK19
      have J63 : ∀ (x1 : Int32) (x2 : Int32) (x3 : Int32) (x4 : Int32) (x5 : Int32) (t0 : Int32) (t1 : Int32) (fi : FI) (ar : AR) (H : Heap) (locs : List Loc) (ls : Array Slot), FX0_partsAsTold_63 K19 nf ln x1 x2 x3 x4 x5 t0 t1 fi ar = some (r, fi', ar') → lv_has ls 6 [(0, .ref (ad (7))), (1, .int x1), (2, .int x2), (3, .int x3), (4, .int x4), (5, .int x5)] → va_P (gD g) vwCl (WC g ad rd ln fi ar) H → va_S (AC ad rd s.heap.size) s.heap H locs → W p l e (headSpec (wx yX0_partsAsTold cX0_partsAsTold 6 (some .boolean)) ({ frames := 1, cells := 0, slots := 0, locals := 24 } : Room)).room s m ([.ref (ad (7)), .int p1, .int p2] : List Value).toArray below meth c H locs 0 0 (MQ below (QCi g ad rd ln s.heap.size r fi' ar') ([.ref (ad (7)), .int p1, .int p2] : List Value).toArray s 0 0 (AC ad rd s.heap.size)) (F0 m 63 ls [.int t1, .int t0]) := by
        intro x1 x2 x3 x4 x5 t0 t1 fi ar H locs ls hF hl hP hS
        unfold FX0_partsAsTold_63 at hF
        refine lv_icmp_ne (tgt := 112) hx hb dX0_partsAsTold_63 (by decide) (fun hc1 => ?_) (fun hc1 => ?_)
        · replace hF := br_no hF hc1
          exact J112  _ _ _ _ _ hF (lv_sub hl [0] rfl) hP hS
        · replace hF := br_yes hF hc1
          refine lv_aload_n hx hb dX0_partsAsTold_66 rfl (lv_at hl 0 rfl) ?_
          refine cg_X0_disk hx hb hT hown hK hP mw4_14 dX0_partsAsTold_67 ?_
          refine lv_iload hx hb dX0_partsAsTold_70 (lv_at hl 5 rfl) ?_
          refine lv_bipush (v := (12 : Int32)) hx hb dX0_partsAsTold_72 (by decide) ?_
          refine lv_iadd hx hb dX0_partsAsTold_74 ?_
          replace hF := obnd3_of hF
          obtain ⟨r5, fi3, ar4, h2, hF⟩ := hF
          refine cC_i (As := [.int ((x5) + (12 : Int32))]) (rest := []) hx hb hml hT hown hK hE hD hA hP hS (rcv_X3 hK hP) (kX3_one l g ad rd _ nf ln fi ar ((x5) + (12 : Int32)) r5 fi3 ar4 h2) cw_X3_one mw24_13 ⟨⟨rfl, rfl⟩, Nat.le_of_ble_eq_true rfl, Nat.le_of_ble_eq_true rfl⟩ rfl hl.1 rfl (Nat.le_of_ble_eq_true rfl) dX0_partsAsTold_75 ⟨Nat.zero_le _, Nat.zero_le _⟩ (fun H locs hP hS => ?_)
          refine lv_if_ne (tgt := 112) hx hb dX0_partsAsTold_78 (by decide) (fun hc6 => ?_) (fun hc6 => ?_)
          · replace hF := br_no hF hc6
            exact J112  _ _ _ _ _ hF (lv_sub hl [0] rfl) hP hS
          · replace hF := br_yes hF hc6
            refine lv_aload_n hx hb dX0_partsAsTold_81 rfl (lv_at hl 0 rfl) ?_
            refine cg_X0_disk hx hb hT hown hK hP mw4_14 dX0_partsAsTold_82 ?_
            refine lv_iload hx hb dX0_partsAsTold_85 (lv_at hl 5 rfl) ?_
            refine lv_bipush (v := (13 : Int32)) hx hb dX0_partsAsTold_87 (by decide) ?_
            refine lv_iadd hx hb dX0_partsAsTold_89 ?_
            replace hF := obnd3_of hF
            obtain ⟨r10, fi8, ar9, h7, hF⟩ := hF
            refine cC_i (As := [.int ((x5) + (13 : Int32))]) (rest := []) hx hb hml hT hown hK hE hD hA hP hS (rcv_X3 hK hP) (kX3_one l g ad rd _ nf ln fi3 ar4 ((x5) + (13 : Int32)) r10 fi8 ar9 h7) cw_X3_one mw24_13 ⟨⟨rfl, rfl⟩, Nat.le_of_ble_eq_true rfl, Nat.le_of_ble_eq_true rfl⟩ rfl hl.1 rfl (Nat.le_of_ble_eq_true rfl) dX0_partsAsTold_90 ⟨Nat.zero_le _, Nat.zero_le _⟩ (fun H locs hP hS => ?_)
            refine lv_iload_n hx hb dX0_partsAsTold_93 rfl (lv_at hl 3 rfl) ?_
            refine lv_icmp_ne (tgt := 112) hx hb dX0_partsAsTold_94 (by decide) (fun hc11 => ?_) (fun hc11 => ?_)
            · replace hF := br_no hF hc11
              exact J112  _ _ _ _ _ hF (lv_sub hl [0] rfl) hP hS
            · replace hF := br_yes hF hc11
              refine lv_aload_n hx hb dX0_partsAsTold_97 rfl (lv_at hl 0 rfl) ?_
              refine cg_X0_disk hx hb hT hown hK hP mw4_14 dX0_partsAsTold_98 ?_
              refine lv_iload hx hb dX0_partsAsTold_101 (lv_at hl 5 rfl) ?_
              refine lv_bipush (v := (26 : Int32)) hx hb dX0_partsAsTold_103 (by decide) ?_
              refine lv_iadd hx hb dX0_partsAsTold_105 ?_
              replace hF := obnd3_of hF
              obtain ⟨r15, fi13, ar14, h12, hF⟩ := hF
              refine cC_i (As := [.int ((x5) + (26 : Int32))]) (rest := []) hx hb hml hT hown hK hE hD hA hP hS (rcv_X3 hK hP) (kX3_two l g ad rd _ nf ln fi8 ar9 ((x5) + (26 : Int32)) r15 fi13 ar14 h12) cw_X3_two mw24_23 ⟨⟨rfl, rfl⟩, Nat.le_of_ble_eq_true rfl, Nat.le_of_ble_eq_true rfl⟩ rfl hl.1 rfl (Nat.le_of_ble_eq_true rfl) dX0_partsAsTold_106 ⟨Nat.zero_le _, Nat.zero_le _⟩ (fun H locs hP hS => ?_)
              refine lv_if_eq (tgt := 114) hx hb dX0_partsAsTold_109 (by decide) (fun hc16 => ?_) (fun hc16 => ?_)
              · replace hF := br_yes hF hc16
                obtain ⟨x4_17, ex4_17⟩ : ∃ y : Int32, y = (x4) + (1 : Int32) := ⟨_, rfl⟩
                replace hF := bnd_of hF ex4_17
                refine lv_iinc (v := x4_17) (lv' := [(4, .int (x4_17)), (0, .ref (ad (7))), (1, .int (x1)), (2, .int (x2)), (3, .int (x3)), (5, .int (x5))]) hx hb dX0_partsAsTold_114 hl (k := 4) rfl (by rw [ex4_17]; rfl) (by decide) rfl (fun ls hl => ?_)
                refine lv_goto (tgt := 19) hx hb dX0_partsAsTold_117 (by decide) ?_
                exact ih19 (x1) (x2) (x3) (x4_17) _ _ _ _ _ hF (lv_sub hl [1, 2, 3, 4, 0] rfl) hP hS
              · replace hF := br_no hF hc16
                exact J112  _ _ _ _ _ hF (lv_sub hl [0] rfl) hP hS
      unfold FX0_partsAsTold_19b at hF
      refine lv_iload hx hb dX0_partsAsTold_19 (lv_at hl 4 rfl) ?_
      refine lv_iload_n hx hb dX0_partsAsTold_21 rfl (lv_at hl 2 rfl) ?_
      refine lv_icmp_gt (tgt := 120) hx hb dX0_partsAsTold_22 (by decide) (fun hc18 => ?_) (fun hc18 => ?_)
      · replace hF := br_yes hF hc18
        refine lv_iconst (v := (1 : Int32)) hx hb dX0_partsAsTold_120 (by decide) ?_
        exact rC_z hx hb hr hlocks rfl hF hP hS dX0_partsAsTold_121
      · replace hF := br_no hF hc18
        refine lv_aload_n hx hb dX0_partsAsTold_25 rfl (lv_at hl 0 rfl) ?_
        refine cg_X0_directory hx hb hT hown hK hP mw4_16 dX0_partsAsTold_26 ?_
        refine lv_iload_n hx hb dX0_partsAsTold_29 rfl (lv_at hl 1 rfl) ?_
        refine lv_iload hx hb dX0_partsAsTold_30 (lv_at hl 4 rfl) ?_
        refine lv_isub hx hb dX0_partsAsTold_32 ?_
        replace hF := obnd3_of hF
        obtain ⟨r22, fi20, ar21, h19, hF⟩ := hF
        refine cC_i (As := [.int ((x1) - (x4))]) (rest := []) hx hb hml hT hown hK hE hD hA hP hS (rcv_X2 (by decide) hK hP) (kX2_slotAddress l g ad rd _ nf ln 2 (by decide) fi ar ((x1) - (x4)) r22 fi20 ar21 h19) cw_X2_slotAddress mw24_9 ⟨⟨rfl, rfl⟩, Nat.le_of_ble_eq_true rfl, Nat.le_of_ble_eq_true rfl⟩ rfl hl.1 rfl (Nat.le_of_ble_eq_true rfl) dX0_partsAsTold_33 ⟨Nat.zero_le _, Nat.zero_le _⟩ (fun H locs hP hS => ?_)
        refine lv_istore (lv' := [(5, .int (r22)), (0, .ref (ad (7))), (1, .int (x1)), (2, .int (x2)), (3, .int (x3)), (4, .int (x4))]) hx hb dX0_partsAsTold_36 hl (by decide) rfl (fun ls hl => ?_)
        refine lv_aload_n hx hb dX0_partsAsTold_38 rfl (lv_at hl 1 rfl) ?_
        refine cg_X0_disk hx hb hT hown hK hP mw4_14 dX0_partsAsTold_39 ?_
        refine lv_iload hx hb dX0_partsAsTold_42 (lv_at hl 0 rfl) ?_
        replace hF := obnd3_of hF
        obtain ⟨r26, fi24, ar25, h23, hF⟩ := hF
        refine cC_i (As := [.int (r22)]) (rest := []) hx hb hml hT hown hK hE hD hA hP hS (rcv_X3 hK hP) (kX3_one l g ad rd _ nf ln fi20 ar21 (r22) r26 fi24 ar25 h23) cw_X3_one mw24_13 ⟨⟨rfl, rfl⟩, Nat.le_of_ble_eq_true rfl, Nat.le_of_ble_eq_true rfl⟩ rfl hl.1 rfl (Nat.le_of_ble_eq_true rfl) dX0_partsAsTold_44 ⟨Nat.zero_le _, Nat.zero_le _⟩ (fun H locs hP hS => ?_)
        refine lv_iload hx hb dX0_partsAsTold_47 (lv_at hl 5 rfl) ?_
        refine lv_iload_n hx hb dX0_partsAsTold_49 rfl (lv_at hl 3 rfl) ?_
        refine lv_icmp_ne (tgt := 61) hx hb dX0_partsAsTold_50 (by decide) (fun hc27 => ?_) (fun hc27 => ?_)
        · replace hF := br_no hF hc27
          refine lv_iload hx hb dX0_partsAsTold_61 (lv_at hl 5 rfl) ?_
          exact J63 (x1) (x2) (x3) (x4) (r22) (r26) (x4) _ _ _ _ _ hF (lv_sub hl [1, 2, 3, 4, 5, 0] rfl) hP hS
        · replace hF := br_yes hF hc27
          refine lv_iload hx hb dX0_partsAsTold_53 (lv_at hl 5 rfl) ?_
          refine lv_bipush (v := (64 : Int32)) hx hb dX0_partsAsTold_55 (by decide) ?_
          refine lv_iadd hx hb dX0_partsAsTold_57 ?_
          refine lv_goto (tgt := 63) hx hb dX0_partsAsTold_58 (by decide) ?_
          exact J63 (x1) (x2) (x3) (x4) (r22) (r26) ((x4) + (64 : Int32)) _ _ _ _ _ hF (lv_sub hl [1, 2, 3, 4, 5, 0] rfl) hP hS
  replace hl := lv_sub hl [0, 1, 2] rfl
  refine lv_iload_n hx hb dX0_partsAsTold_0 rfl (lv_at hl 2 rfl) ?_
  refine lv_bipush (v := (20 : Int32)) hx hb dX0_partsAsTold_1 (by decide) ?_
  refine lv_icmp_le (tgt := 8) hx hb dX0_partsAsTold_3 (by decide) (fun hc28 => ?_) (fun hc28 => ?_)
  · replace hF := br_yes hF hc28
    refine lv_aload_n hx hb dX0_partsAsTold_8 rfl (lv_at hl 0 rfl) ?_
    refine cg_X0_shortName hx hb hT hown hK hP mw4_11 dX0_partsAsTold_9 ?_
    replace hF := obnd3_of hF
    obtain ⟨r32, fi30, ar31, h29, hF⟩ := hF
    refine cC_i (As := []) (rest := []) hx hb hml hT hown hK hE hD hA hP hS (rcv_X7 (by decide) hK hP) (kX7_sum l g ad rd _ nf ln 1 (by decide) fi ar r32 fi30 ar31 h29) cw_X7_sum mw26_11 ⟨⟨rfl, rfl⟩, Nat.le_of_ble_eq_true rfl, Nat.le_of_ble_eq_true rfl⟩ rfl hl.1 rfl (Nat.le_of_ble_eq_true rfl) dX0_partsAsTold_12 ⟨Nat.zero_le _, Nat.zero_le _⟩ (fun H locs hP hS => ?_)
    refine lv_istore_n (lv' := [(3, .int (r32)), (0, .ref (ad (7))), (1, .int (p1)), (2, .int (p2))]) hx hb dX0_partsAsTold_15 rfl hl (by decide) rfl (fun ls hl => ?_)
    refine lv_iconst (v := (1 : Int32)) hx hb dX0_partsAsTold_16 (by decide) ?_
    refine lv_istore (lv' := [(4, .int (1 : Int32)), (3, .int (r32)), (0, .ref (ad (7))), (1, .int (p1)), (2, .int (p2))]) hx hb dX0_partsAsTold_17 hl (by decide) rfl (fun ls hl => ?_)
    exact L19 nf (p1) (p2) (r32) (1 : Int32) _ _ _ _ _ hF (lv_sub hl [2, 3, 4, 1, 0] rfl) hP hS
  · replace hF := br_no hF hc28
    refine lv_iconst (v := (0 : Int32)) hx hb dX0_partsAsTold_6 (by decide) ?_
    exact rC_z hx hb hr hlocks rfl hF hP hS dX0_partsAsTold_7
theorem cw_X0_partsAsTold : (Cond.instanceMethod yX0_partsAsTold ∈ TB ∧ Cond.selects RX0 yX0_partsAsTold yX0_partsAsTold ∈ TB ∧ Cond.code yX0_partsAsTold cX0_partsAsTold 6 (some .boolean) ∈ TB ∧ Cond.initialized RX0 ∈ TB) ∧ (yX0_partsAsTold.cls = RX0 ∧ yX0_partsAsTold.cls ≠ "java/lang/invoke/MethodHandle" ∧ yX0_partsAsTold.cls ≠ "java/lang/invoke/VarHandle" ∧ (parseMethodDescriptor yX0_partsAsTold.desc).map (fun d => d.parameters.length) = some 2) := ⟨⟨mw26_8, mw26_9, mw26_10, mw2_14⟩, by decide +kernel⟩
/-! X6_read -/
noncomputable def FX6_read_223 (nf : Nat) (ln : LN) (i0 : Nat) (i1 : Nat)  (fi : FI) (ar : AR) : Option (Unit × FI × AR) :=
  some ((), fi, ar)
noncomputable def FX6_read_189b (K189 : Int32 → FI → AR → Option (Unit × FI × AR)) (nf : Nat) (ln : LN) (i0 : Nat) (i1 : Nat) (x5 : Int32) (fi : FI) (ar : AR) : Option (Unit × FI × AR) :=
  br ((x5) ≤ (fi (60 + i0))) (FX6_read_223 nf ln i0 i1  fi ar) (gd (¬ ((fi (60 + i0)) < 0 ∨ ln (30 + i0) ≤ (fi (60 + i0)).toNatClampNeg)) (br ((ar (30 + i0) (fi (60 + i0)).toNatClampNeg) = 0) (FX6_read_223 nf ln i0 i1  fi ar) (bnd (va_up fi (60 + i0) ((fi (60 + i0)) + (1 : Int32))) fun fi4 => K189 (x5) fi4 ar)))
noncomputable def FX6_read_189 (nf : Nat) (ln : LN) (i0 : Nat) (i1 : Nat) (kf : Nat) : Int32 → FI → AR → Option (Unit × FI × AR) := Nat.rec (fun _ _ _ => none) (fun _ K189 => FX6_read_189b K189 nf ln i0 i1) kf
noncomputable def FX6_read_160 (K126 : Int32 → Int32 → Int32 → Int32 → FI → AR → Option (Unit × FI × AR)) (nf : Nat) (ln : LN) (i0 : Nat) (i1 : Nat) (x2 : Int32) (x4 : Int32) (x5 : Int32) (x6 : Int32) (x7 : Int32) (fi : FI) (ar : AR) : Option (Unit × FI × AR) :=
  gd (¬ ((x7) < 0 ∨ 13 ≤ (x7).toNatClampNeg)) (obnd3 (FX3_two nf ln fi ar ((x4) + (tPla.getD (x7).toNatClampNeg 0))) fun r9 fi7 ar8 => gd (¬ ((x6) < 0 ∨ ln (30 + i0) ≤ (x6).toNatClampNeg)) (bnd (va_up ar8 (30 + i0) (upd (ar8 (30 + i0)) (x6).toNatClampNeg (r9))) fun ar11 => bnd ((x6) + (1 : Int32)) fun x6_12 => K126 (x2) (x4) (x5) (x6_12) fi7 ar11))
noncomputable def FX6_read_126b (K126 : Int32 → Int32 → Int32 → Int32 → FI → AR → Option (Unit × FI × AR)) (nf : Nat) (ln : LN) (i0 : Nat) (i1 : Nat) (x2 : Int32) (x4 : Int32) (x5 : Int32) (x6 : Int32) (fi : FI) (ar : AR) : Option (Unit × FI × AR) :=
  br ((x5) ≤ (x6)) (FX6_read_189 nf ln i0 i1 nf (x5) fi ar) (bnd ((x6) - (x6) / (13 : Int32) * (13 : Int32)) fun x7_14 => br ((x7_14) = 0) (obnd3 (FX2_slotAddress nf ln i1 fi ar (((x2) - (1 : Int32)) - ((x6) / (13 : Int32)))) fun r19 fi17 ar18 => FX6_read_160 K126 nf ln i0 i1  (x2) (r19) (x5) (x6) (x7_14) fi17 ar18) (FX6_read_160 K126 nf ln i0 i1  (x2) (x4) (x5) (x6) (x7_14) fi ar))
noncomputable def FX6_read_126 (nf : Nat) (ln : LN) (i0 : Nat) (i1 : Nat) (kf : Nat) : Int32 → Int32 → Int32 → Int32 → FI → AR → Option (Unit × FI × AR) := Nat.rec (fun _ _ _ _ _ _ => none) (fun _ K126 => FX6_read_126b K126 nf ln i0 i1) kf
noncomputable def FX6_read_109 (nf : Nat) (ln : LN) (i0 : Nat) (i1 : Nat) (x2 : Int32) (x3 : Int32) (x4 : Int32) (fi : FI) (ar : AR) : Option (Unit × FI × AR) :=
  bnd (if (Int32.ofNat (ln (30 + i0))) < ((x3) * (13 : Int32)) then (Int32.ofNat (ln (30 + i0))) else ((x3) * (13 : Int32))) fun x5_20 => FX6_read_126 nf ln i0 i1 nf (x2) (x4) (x5_20) (0 : Int32) fi ar
noncomputable def FX6_read_103 (K15 : Int32 → Int32 → Int32 → Int32 → FI → AR → Option (Unit × FI × AR)) (nf : Nat) (ln : LN) (i0 : Nat) (i1 : Nat) (x2 : Int32) (x3 : Int32) (x4 : Int32) (x5 : Int32) (fi : FI) (ar : AR) : Option (Unit × FI × AR) :=
  bnd ((x5) + (1 : Int32)) fun x5_21 => K15 (x2) (x3) (x4) (x5_21) fi ar
noncomputable def FX6_read_75 (K15 : Int32 → Int32 → Int32 → Int32 → FI → AR → Option (Unit × FI × AR)) (nf : Nat) (ln : LN) (i0 : Nat) (i1 : Nat) (x2 : Int32) (x3 : Int32) (x4 : Int32) (x5 : Int32) (x6 : Int32) (fi : FI) (ar : AR) : Option (Unit × FI × AR) :=
  br ((x6) = (32 : Int32)) (FX6_read_103 K15 nf ln i0 i1  (x2) (x3) (x4) (x5) fi ar) (gd (¬ ((fi (60 + i0)) < 0 ∨ ln (30 + i0) ≤ (fi (60 + i0)).toNatClampNeg)) (bnd (va_up ar (30 + i0) (upd (ar (30 + i0)) (fi (60 + i0)).toNatClampNeg (x6))) fun ar24 => bnd (va_up fi (60 + i0) ((fi (60 + i0)) + (1 : Int32))) fun fi25 => FX6_read_103 K15 nf ln i0 i1  (x2) (x3) (x4) (x5) fi25 ar24))
noncomputable def FX6_read_15b (K15 : Int32 → Int32 → Int32 → Int32 → FI → AR → Option (Unit × FI × AR)) (nf : Nat) (ln : LN) (i0 : Nat) (i1 : Nat) (x2 : Int32) (x3 : Int32) (x4 : Int32) (x5 : Int32) (fi : FI) (ar : AR) : Option (Unit × FI × AR) :=
  br ((x3) = 0) (br ((11 : Int32) ≤ (x5)) (FX6_read_109 nf ln i0 i1  (x2) (x3) (x4) fi ar) (obnd3 (FX3_one nf ln fi ar ((x4) + (x5))) fun r31 fi29 ar30 => br ((x5) = (8 : Int32)) (br ((r31) = (32 : Int32)) (FX6_read_75 K15 nf ln i0 i1  (x2) (x3) (x4) (x5) (r31) fi29 ar30) (gd (¬ ((fi29 (60 + i0)) < 0 ∨ ln (30 + i0) ≤ (fi29 (60 + i0)).toNatClampNeg)) (bnd (va_up ar30 (30 + i0) (upd (ar30 (30 + i0)) (fi29 (60 + i0)).toNatClampNeg (46 : Int32))) fun ar35 => bnd (va_up fi29 (60 + i0) ((fi29 (60 + i0)) + (1 : Int32))) fun fi36 => FX6_read_75 K15 nf ln i0 i1  (x2) (x3) (x4) (x5) (r31) fi36 ar35))) (FX6_read_75 K15 nf ln i0 i1  (x2) (x3) (x4) (x5) (r31) fi29 ar30))) (FX6_read_109 nf ln i0 i1  (x2) (x3) (x4) fi ar)
noncomputable def FX6_read_15 (nf : Nat) (ln : LN) (i0 : Nat) (i1 : Nat) (kf : Nat) : Int32 → Int32 → Int32 → Int32 → FI → AR → Option (Unit × FI × AR) := Nat.rec (fun _ _ _ _ _ _ => none) (fun _ K15 => FX6_read_15b K15 nf ln i0 i1) kf
noncomputable def FX6_read (nf : Nat) (ln : LN) (i0 : Nat) (i1 : Nat) (fi : FI) (ar : AR) (x2 : Int32) (x3 : Int32) : Option (Unit × FI × AR) :=
  bnd (va_up fi (60 + i0) (0 : Int32)) fun fi37 => obnd3 (FX2_slotAddress nf ln i1 fi37 ar (x2)) fun r41 fi39 ar40 => FX6_read_15 nf ln i0 i1 nf (x2) (x3) (r41) (0 : Int32) fi39 ar40
set_option maxHeartbeats 4000000 in
set_option maxRecDepth 100000 in
theorem kX6_read (l : Launch) (g : GT) (ad rd : Nat → Nat) (sz : Nat) (nf : Nat) (ln : LN) (i0 : Nat) (i1 : Nat) (hi0 : i0 < 4) (hi1 : i1 < 3) (fi : FI) (ar : AR) (p2 : Int32) (p3 : Int32) (r : Unit) (fi' : FI) (ar' : AR) (hF : FX6_read nf ln i0 i1 fi ar p2 p3 = some (r, fi', ar')) : Met l yX6_read (wx yX6_read cX6_read 8 none) ({ frames := 1, cells := 0, slots := 0, locals := 24 } : Room) (va_Pc [.ref (ad (26 + 2 * i0)), .ref (ad (11 + 5 * i1)), .int p2, .int p3] (PC g ad rd ln sz fi ar)) (QCv g ad rd ln sz r fi' ar') 0 0 (AC ad rd sz) := by
  refine Met.ofW (cc := cX6_read) (maxL := 8) (ret := none) (by decide) rfl ?_
  intro p e s m args below meth c s₁ B hml hv
  obtain ⟨rfl, hsz, hP, hK, hD0, hE⟩ := hv
  have hx := B.exec
  have hb := B.bytes
  have hr := B.returns
  have hts := atoms_spec (ws := (wx yX6_read cX6_read 8 none)) B.pre
  have hT : ∀ w ∈ TB, w.before _ s = true := fun w h => hts w (List.mem_cons_of_mem _ h)
  have hown : s.vm.findClass RX6 = some m.cls := findClass_of_methodNamed B.named
  have hlocks := B.notSynchronized
  subst hsz
  have hD := dC hD0 s.heap.size
  have hA : ∀ q : Nat, s.heap.size ≤ q → AC ad rd s.heap.size q := fun q h => Or.inr h
  have hS : va_S (AC ad rd s.heap.size) s.heap s.heap [] := va_S.rf
  have hl := lv_entry ([.ref (ad (26 + 2 * i0)), .ref (ad (11 + 5 * i1)), .int p2, .int p3]) (n := 8) (Nat.le_of_ble_eq_true rfl)
  rw [lg_entry_eq]
  generalize (lg_sl ([.ref (ad (26 + 2 * i0)), .ref (ad (11 + 5 * i1)), .int p2, .int p3]) ++ List.replicate (8 - (lg_sl ([.ref (ad (26 + 2 * i0)), .ref (ad (11 + 5 * i1)), .int p2, .int p3])).length) Slot.unset).toArray = ls at hl ⊢
  have hl : lv_has ls 8 [(0, .ref (ad (26 + 2 * i0))), (1, .ref (ad (11 + 5 * i1))), (2, .int p2), (3, .int p3)] := hl
  unfold FX6_read at hF
  have J223 : ∀  (fi : FI) (ar : AR) (H : Heap) (locs : List Loc) (ls : Array Slot), FX6_read_223 nf ln i0 i1 fi ar = some (r, fi', ar') → lv_has ls 8 [(0, .ref (ad (26 + 2 * i0))), (1, .ref (ad (11 + 5 * i1)))] → va_P (gD g) vwCl (WC g ad rd ln fi ar) H → va_S (AC ad rd s.heap.size) s.heap H locs → W p l e (headSpec (wx yX6_read cX6_read 8 none) ({ frames := 1, cells := 0, slots := 0, locals := 24 } : Room)).room s m ([.ref (ad (26 + 2 * i0)), .ref (ad (11 + 5 * i1)), .int p2, .int p3] : List Value).toArray below meth c H locs 0 0 (MQ below (QCv g ad rd ln s.heap.size r fi' ar') ([.ref (ad (26 + 2 * i0)), .ref (ad (11 + 5 * i1)), .int p2, .int p3] : List Value).toArray s 0 0 (AC ad rd s.heap.size)) (F0 m 223 ls []) := by
    intro fi ar H locs ls hF hl hP hS
    unfold FX6_read_223 at hF
    exact rC_v hx hb hr hlocks hF hP hS dX6_read_223
  have L189 : ∀ kf : Nat, ∀ (x5 : Int32) (fi : FI) (ar : AR) (H : Heap) (locs : List Loc) (ls : Array Slot), FX6_read_189 nf ln i0 i1 kf x5 fi ar = some (r, fi', ar') → lv_has ls 8 [(0, .ref (ad (26 + 2 * i0))), (1, .ref (ad (11 + 5 * i1))), (5, .int x5)] → va_P (gD g) vwCl (WC g ad rd ln fi ar) H → va_S (AC ad rd s.heap.size) s.heap H locs → W p l e (headSpec (wx yX6_read cX6_read 8 none) ({ frames := 1, cells := 0, slots := 0, locals := 24 } : Room)).room s m ([.ref (ad (26 + 2 * i0)), .ref (ad (11 + 5 * i1)), .int p2, .int p3] : List Value).toArray below meth c H locs 0 0 (MQ below (QCv g ad rd ln s.heap.size r fi' ar') ([.ref (ad (26 + 2 * i0)), .ref (ad (11 + 5 * i1)), .int p2, .int p3] : List Value).toArray s 0 0 (AC ad rd s.heap.size)) (F0 m 189 ls []) := by
    intro kf
    induction kf with
    | zero => intro x5 fi ar H locs ls hF hl hP hS; cases (show (none : Option (Unit × FI × AR)) = _ from hF)
    | succ kf ih189 =>
      intro x5 fi ar H locs ls hF hl hP hS
      obtain ⟨K189, hK189⟩ : ∃ K : Int32 → FI → AR → Option (Unit × FI × AR), K = FX6_read_189 nf ln i0 i1 kf := ⟨_, rfl⟩
      replace hF : FX6_read_189b K189 nf ln i0 i1 x5 fi ar = some (r, fi', ar') := by rw [hK189]; exact hF
      rw [← hK189] at ih189
      clear hK189
      unfold FX6_read_189b at hF
      refine lv_aload_n hx hb dX6_read_189 rfl (lv_at hl 0 rfl) ?_
      refine cg_X6_length hi0 hx hb hT hown hK hP mw26_19 dX6_read_190 ?_
      refine lv_iload hx hb dX6_read_193 (lv_at hl 2 rfl) ?_
      refine lv_icmp_ge (tgt := 223) hx hb dX6_read_195 (by decide) (fun hc1 => ?_) (fun hc1 => ?_)
      · replace hF := br_yes hF hc1
        exact J223  _ _ _ _ _ hF (lv_sub hl [0, 1] rfl) hP hS
      · replace hF := br_no hF hc1
        refine lv_aload_n hx hb dX6_read_198 rfl (lv_at hl 0 rfl) ?_
        refine cg_X6_units hi0 hx hb hT hown hK hP mw5_1 dX6_read_199 ?_
        refine lv_aload_n hx hb dX6_read_202 rfl (lv_at hl 0 rfl) ?_
        refine cg_X6_length hi0 hx hb hT hown hK hP mw26_19 dX6_read_203 ?_
        replace hF := gd_of hF
        obtain ⟨hi2, hF⟩ := hF
        refine cl_units hi0 hx hb hK hP hi2 dX6_read_206 ?_
        refine lv_if_eq (tgt := 223) hx hb dX6_read_207 (by decide) (fun hc3 => ?_) (fun hc3 => ?_)
        · replace hF := br_yes hF hc3
          exact J223  _ _ _ _ _ hF (lv_sub hl [0, 1] rfl) hP hS
        · replace hF := br_no hF hc3
          refine lv_aload_n hx hb dX6_read_210 rfl (lv_at hl 0 rfl) ?_
          refine lv_dup hx hb dX6_read_211 rfl ?_
          refine cg_X6_length hi0 hx hb hT hown hK hP mw26_19 dX6_read_212 ?_
          refine lv_iconst (v := (1 : Int32)) hx hb dX6_read_215 (by decide) ?_
          refine lv_iadd hx hb dX6_read_216 ?_
          obtain ⟨fi4, efi4⟩ : ∃ y : FI, y = va_up fi (60 + i0) ((fi (60 + i0)) + (1 : Int32)) := ⟨_, rfl⟩
          replace hF := bnd_of hF efi4
          refine cp_X6_length hi0 hx hb hT hown hK hP hD hS mw26_19 dX6_read_217 (fun H locs hP hS => ?_)
          rw [← efi4] at hP
          refine lv_goto (tgt := 189) hx hb dX6_read_220 (by decide) ?_
          exact ih189 (x5) _ _ _ _ _ hF (lv_sub hl [0, 1, 2] rfl) hP hS
  have L126 : ∀ kf : Nat, ∀ (x2 : Int32) (x4 : Int32) (x5 : Int32) (x6 : Int32) (fi : FI) (ar : AR) (H : Heap) (locs : List Loc) (ls : Array Slot), FX6_read_126 nf ln i0 i1 kf x2 x4 x5 x6 fi ar = some (r, fi', ar') → lv_has ls 8 [(0, .ref (ad (26 + 2 * i0))), (1, .ref (ad (11 + 5 * i1))), (2, .int x2), (4, .int x4), (5, .int x5), (6, .int x6)] → va_P (gD g) vwCl (WC g ad rd ln fi ar) H → va_S (AC ad rd s.heap.size) s.heap H locs → W p l e (headSpec (wx yX6_read cX6_read 8 none) ({ frames := 1, cells := 0, slots := 0, locals := 24 } : Room)).room s m ([.ref (ad (26 + 2 * i0)), .ref (ad (11 + 5 * i1)), .int p2, .int p3] : List Value).toArray below meth c H locs 0 0 (MQ below (QCv g ad rd ln s.heap.size r fi' ar') ([.ref (ad (26 + 2 * i0)), .ref (ad (11 + 5 * i1)), .int p2, .int p3] : List Value).toArray s 0 0 (AC ad rd s.heap.size)) (F0 m 126 ls []) := by
    intro kf
    induction kf with
    | zero => intro x2 x4 x5 x6 fi ar H locs ls hF hl hP hS; cases (show (none : Option (Unit × FI × AR)) = _ from hF)
    | succ kf ih126 =>
      intro x2 x4 x5 x6 fi ar H locs ls hF hl hP hS
      obtain ⟨K126, hK126⟩ : ∃ K : Int32 → Int32 → Int32 → Int32 → FI → AR → Option (Unit × FI × AR), K = FX6_read_126 nf ln i0 i1 kf := ⟨_, rfl⟩
      replace hF : FX6_read_126b K126 nf ln i0 i1 x2 x4 x5 x6 fi ar = some (r, fi', ar') := by rw [hK126]; exact hF
      rw [← hK126] at ih126
      clear hK126
      have J160 : ∀ (x2 : Int32) (x4 : Int32) (x5 : Int32) (x6 : Int32) (x7 : Int32) (fi : FI) (ar : AR) (H : Heap) (locs : List Loc) (ls : Array Slot), FX6_read_160 K126 nf ln i0 i1 x2 x4 x5 x6 x7 fi ar = some (r, fi', ar') → lv_has ls 8 [(0, .ref (ad (26 + 2 * i0))), (1, .ref (ad (11 + 5 * i1))), (2, .int x2), (4, .int x4), (5, .int x5), (6, .int x6), (7, .int x7)] → va_P (gD g) vwCl (WC g ad rd ln fi ar) H → va_S (AC ad rd s.heap.size) s.heap H locs → W p l e (headSpec (wx yX6_read cX6_read 8 none) ({ frames := 1, cells := 0, slots := 0, locals := 24 } : Room)).room s m ([.ref (ad (26 + 2 * i0)), .ref (ad (11 + 5 * i1)), .int p2, .int p3] : List Value).toArray below meth c H locs 0 0 (MQ below (QCv g ad rd ln s.heap.size r fi' ar') ([.ref (ad (26 + 2 * i0)), .ref (ad (11 + 5 * i1)), .int p2, .int p3] : List Value).toArray s 0 0 (AC ad rd s.heap.size)) (F0 m 160 ls []) := by
        intro x2 x4 x5 x6 x7 fi ar H locs ls hF hl hP hS
        unfold FX6_read_160 at hF
        refine lv_aload_n hx hb dX6_read_160 rfl (lv_at hl 0 rfl) ?_
        refine cg_X6_units hi0 hx hb hT hown hK hP mw5_1 dX6_read_161 ?_
        refine lv_iload hx hb dX6_read_164 (lv_at hl 5 rfl) ?_
        refine lv_aload_n hx hb dX6_read_166 rfl (lv_at hl 1 rfl) ?_
        refine cg_X2_disk hi1 hx hb hT hown hK hP mw26_20 dX6_read_167 ?_
        refine lv_iload hx hb dX6_read_170 (lv_at hl 3 rfl) ?_
        refine va_gets hx hb hE.1.2.2.2.2.1 hS hown (hT _ mw26_22) (fun _ h => h) dX6_read_172 ?_
        refine lv_iload hx hb dX6_read_175 (lv_at hl 6 rfl) ?_
        replace hF := gd_of hF
        obtain ⟨hi5, hF⟩ := hF
        refine va_ti hx hb hE.1.2.2.2.2.2 hS hi5 rfl dX6_read_177 ?_
        refine lv_iadd hx hb dX6_read_178 ?_
        replace hF := obnd3_of hF
        obtain ⟨r9, fi7, ar8, h6, hF⟩ := hF
        refine cC_i (As := [.int ((x4) + (tPla.getD (x7).toNatClampNeg 0))]) (rest := [.int (x6), .ref (ad (27 + 2 * i0))]) hx hb hml hT hown hK hE hD hA hP hS (rcv_X3 hK hP) (kX3_two l g ad rd _ nf ln fi ar ((x4) + (tPla.getD (x7).toNatClampNeg 0)) r9 fi7 ar8 h6) cw_X3_two mw27_1 ⟨⟨rfl, rfl⟩, Nat.le_of_ble_eq_true rfl, Nat.le_of_ble_eq_true rfl⟩ rfl hl.1 rfl (Nat.le_of_ble_eq_true rfl) dX6_read_179 ⟨Nat.zero_le _, Nat.zero_le _⟩ (fun H locs hP hS => ?_)
        replace hF := gd_of hF
        obtain ⟨hi10, hF⟩ := hF
        obtain ⟨ar11, ear11⟩ : ∃ y : AR, y = va_up ar8 (30 + i0) (upd (ar8 (30 + i0)) (x6).toNatClampNeg (r9)) := ⟨_, rfl⟩
        replace hF := bnd_of hF ear11
        refine cs_units hi0 hx hb hK hP hD hS hi10 dX6_read_182 (fun H locs hP hS => ?_)
        rw [← ear11] at hP
        obtain ⟨x6_12, ex6_12⟩ : ∃ y : Int32, y = (x6) + (1 : Int32) := ⟨_, rfl⟩
        replace hF := bnd_of hF ex6_12
        refine lv_iinc (v := x6_12) (lv' := [(6, .int (x6_12)), (0, .ref (ad (26 + 2 * i0))), (1, .ref (ad (11 + 5 * i1))), (2, .int (x2)), (4, .int (x4)), (5, .int (x5)), (7, .int (x7))]) hx hb dX6_read_183 hl (k := 5) rfl (by rw [ex6_12]; rfl) (by decide) rfl (fun ls hl => ?_)
        refine lv_goto (tgt := 126) hx hb dX6_read_186 (by decide) ?_
        exact ih126 (x2) (x4) (x5) (x6_12) _ _ _ _ _ hF (lv_sub hl [1, 2, 3, 4, 5, 0] rfl) hP hS
      unfold FX6_read_126b at hF
      refine lv_iload hx hb dX6_read_126 (lv_at hl 5 rfl) ?_
      refine lv_iload hx hb dX6_read_128 (lv_at hl 4 rfl) ?_
      refine lv_icmp_ge (tgt := 189) hx hb dX6_read_130 (by decide) (fun hc13 => ?_) (fun hc13 => ?_)
      · replace hF := br_yes hF hc13
        exact L189 nf (x5) _ _ _ _ _ hF (lv_sub hl [0, 1, 4] rfl) hP hS
      · replace hF := br_no hF hc13
        refine lv_iload hx hb dX6_read_133 (lv_at hl 5 rfl) ?_
        refine lv_bipush (v := (13 : Int32)) hx hb dX6_read_135 (by decide) ?_
        refine lv_irem hx hb dX6_read_137 (by decide) ?_
        obtain ⟨x7_14, ex7_14⟩ : ∃ y : Int32, y = ((x6) - (x6) / (13 : Int32) * (13 : Int32)) := ⟨_, rfl⟩
        rw [← ex7_14]
        replace hF := bnd_of hF ex7_14
        refine lv_istore (lv' := [(7, .int (x7_14)), (0, .ref (ad (26 + 2 * i0))), (1, .ref (ad (11 + 5 * i1))), (2, .int (x2)), (4, .int (x4)), (5, .int (x5)), (6, .int (x6))]) hx hb dX6_read_138 hl (by decide) rfl (fun ls hl => ?_)
        refine lv_iload hx hb dX6_read_140 (lv_at hl 0 rfl) ?_
        refine lv_if_ne (tgt := 160) hx hb dX6_read_142 (by decide) (fun hc15 => ?_) (fun hc15 => ?_)
        · replace hF := br_no hF hc15
          exact J160 (x2) (x4) (x5) (x6) (x7_14) _ _ _ _ _ hF (lv_sub hl [1, 2, 3, 4, 5, 6, 0] rfl) hP hS
        · replace hF := br_yes hF hc15
          refine lv_aload_n hx hb dX6_read_145 rfl (lv_at hl 2 rfl) ?_
          refine lv_iload_n hx hb dX6_read_146 rfl (lv_at hl 3 rfl) ?_
          refine lv_iconst (v := (1 : Int32)) hx hb dX6_read_147 (by decide) ?_
          refine lv_isub hx hb dX6_read_148 ?_
          refine lv_iload hx hb dX6_read_149 (lv_at hl 6 rfl) ?_
          refine lv_bipush (v := (13 : Int32)) hx hb dX6_read_151 (by decide) ?_
          refine lv_idiv hx hb dX6_read_153 (by decide) ?_
          refine lv_isub hx hb dX6_read_154 ?_
          replace hF := obnd3_of hF
          obtain ⟨r19, fi17, ar18, h16, hF⟩ := hF
          refine cC_i (As := [.int (((x2) - (1 : Int32)) - ((x6) / (13 : Int32)))]) (rest := []) hx hb hml hT hown hK hE hD hA hP hS (rcv_X2 hi1 hK hP) (kX2_slotAddress l g ad rd _ nf ln i1 hi1 fi ar (((x2) - (1 : Int32)) - ((x6) / (13 : Int32))) r19 fi17 ar18 h16) cw_X2_slotAddress mw26_23 ⟨⟨rfl, rfl⟩, Nat.le_of_ble_eq_true rfl, Nat.le_of_ble_eq_true rfl⟩ rfl hl.1 rfl (Nat.le_of_ble_eq_true rfl) dX6_read_155 ⟨Nat.zero_le _, Nat.zero_le _⟩ (fun H locs hP hS => ?_)
          refine lv_istore (lv' := [(4, .int (r19)), (7, .int (x7_14)), (0, .ref (ad (26 + 2 * i0))), (1, .ref (ad (11 + 5 * i1))), (2, .int (x2)), (5, .int (x5)), (6, .int (x6))]) hx hb dX6_read_158 hl (by decide) rfl (fun ls hl => ?_)
          exact J160 (x2) (r19) (x5) (x6) (x7_14) _ _ _ _ _ hF (lv_sub hl [2, 3, 4, 0, 5, 6, 1] rfl) hP hS
  have J109 : ∀ (x2 : Int32) (x3 : Int32) (x4 : Int32) (fi : FI) (ar : AR) (H : Heap) (locs : List Loc) (ls : Array Slot), FX6_read_109 nf ln i0 i1 x2 x3 x4 fi ar = some (r, fi', ar') → lv_has ls 8 [(0, .ref (ad (26 + 2 * i0))), (1, .ref (ad (11 + 5 * i1))), (2, .int x2), (3, .int x3), (4, .int x4)] → va_P (gD g) vwCl (WC g ad rd ln fi ar) H → va_S (AC ad rd s.heap.size) s.heap H locs → W p l e (headSpec (wx yX6_read cX6_read 8 none) ({ frames := 1, cells := 0, slots := 0, locals := 24 } : Room)).room s m ([.ref (ad (26 + 2 * i0)), .ref (ad (11 + 5 * i1)), .int p2, .int p3] : List Value).toArray below meth c H locs 0 0 (MQ below (QCv g ad rd ln s.heap.size r fi' ar') ([.ref (ad (26 + 2 * i0)), .ref (ad (11 + 5 * i1)), .int p2, .int p3] : List Value).toArray s 0 0 (AC ad rd s.heap.size)) (F0 m 109 ls []) := by
    intro x2 x3 x4 fi ar H locs ls hF hl hP hS
    unfold FX6_read_109 at hF
    refine lv_iload_n hx hb dX6_read_109 rfl (lv_at hl 3 rfl) ?_
    refine lv_bipush (v := (13 : Int32)) hx hb dX6_read_110 (by decide) ?_
    refine lv_imul hx hb dX6_read_112 ?_
    refine lv_aload_n hx hb dX6_read_113 rfl (lv_at hl 0 rfl) ?_
    refine cg_X6_units hi0 hx hb hT hown hK hP mw5_1 dX6_read_114 ?_
    refine ca_units hi0 hx hb hK hP dX6_read_117 ?_
    refine va_mmin hx hb (by rw [hml, hl.1]) hown (hT _ mw26_21) (hT _ mw1_18) (hT _ mw1_19) (hT _ mw1_20) (Nat.le_of_ble_eq_true rfl) (Nat.le_of_ble_eq_true rfl) (Nat.zero_le _) (Nat.zero_le _) dX6_read_118 ?_
    obtain ⟨x5_20, ex5_20⟩ : ∃ y : Int32, y = (if (Int32.ofNat (ln (30 + i0))) < ((x3) * (13 : Int32)) then (Int32.ofNat (ln (30 + i0))) else ((x3) * (13 : Int32))) := ⟨_, rfl⟩
    rw [← ex5_20]
    replace hF := bnd_of hF ex5_20
    refine lv_istore (lv' := [(5, .int (x5_20)), (0, .ref (ad (26 + 2 * i0))), (1, .ref (ad (11 + 5 * i1))), (2, .int (x2)), (3, .int (x3)), (4, .int (x4))]) hx hb dX6_read_121 hl (by decide) rfl (fun ls hl => ?_)
    refine lv_iconst (v := (0 : Int32)) hx hb dX6_read_123 (by decide) ?_
    refine lv_istore (lv' := [(6, .int (0 : Int32)), (5, .int (x5_20)), (0, .ref (ad (26 + 2 * i0))), (1, .ref (ad (11 + 5 * i1))), (2, .int (x2)), (3, .int (x3)), (4, .int (x4))]) hx hb dX6_read_124 hl (by decide) rfl (fun ls hl => ?_)
    exact L126 nf (x2) (x4) (x5_20) (0 : Int32) _ _ _ _ _ hF (lv_sub hl [2, 3, 4, 6, 1, 0] rfl) hP hS
  have L15 : ∀ kf : Nat, ∀ (x2 : Int32) (x3 : Int32) (x4 : Int32) (x5 : Int32) (fi : FI) (ar : AR) (H : Heap) (locs : List Loc) (ls : Array Slot), FX6_read_15 nf ln i0 i1 kf x2 x3 x4 x5 fi ar = some (r, fi', ar') → lv_has ls 8 [(0, .ref (ad (26 + 2 * i0))), (1, .ref (ad (11 + 5 * i1))), (2, .int x2), (3, .int x3), (4, .int x4), (5, .int x5)] → va_P (gD g) vwCl (WC g ad rd ln fi ar) H → va_S (AC ad rd s.heap.size) s.heap H locs → W p l e (headSpec (wx yX6_read cX6_read 8 none) ({ frames := 1, cells := 0, slots := 0, locals := 24 } : Room)).room s m ([.ref (ad (26 + 2 * i0)), .ref (ad (11 + 5 * i1)), .int p2, .int p3] : List Value).toArray below meth c H locs 0 0 (MQ below (QCv g ad rd ln s.heap.size r fi' ar') ([.ref (ad (26 + 2 * i0)), .ref (ad (11 + 5 * i1)), .int p2, .int p3] : List Value).toArray s 0 0 (AC ad rd s.heap.size)) (F0 m 15 ls []) := by
    intro kf
    induction kf with
    | zero => intro x2 x3 x4 x5 fi ar H locs ls hF hl hP hS; cases (show (none : Option (Unit × FI × AR)) = _ from hF)
    | succ kf ih15 =>
      intro x2 x3 x4 x5 fi ar H locs ls hF hl hP hS
      obtain ⟨K15, hK15⟩ : ∃ K : Int32 → Int32 → Int32 → Int32 → FI → AR → Option (Unit × FI × AR), K = FX6_read_15 nf ln i0 i1 kf := ⟨_, rfl⟩
      replace hF : FX6_read_15b K15 nf ln i0 i1 x2 x3 x4 x5 fi ar = some (r, fi', ar') := by rw [hK15]; exact hF
      rw [← hK15] at ih15
      clear hK15
      have J103 : ∀ (x2 : Int32) (x3 : Int32) (x4 : Int32) (x5 : Int32) (fi : FI) (ar : AR) (H : Heap) (locs : List Loc) (ls : Array Slot), FX6_read_103 K15 nf ln i0 i1 x2 x3 x4 x5 fi ar = some (r, fi', ar') → lv_has ls 8 [(0, .ref (ad (26 + 2 * i0))), (1, .ref (ad (11 + 5 * i1))), (2, .int x2), (3, .int x3), (4, .int x4), (5, .int x5)] → va_P (gD g) vwCl (WC g ad rd ln fi ar) H → va_S (AC ad rd s.heap.size) s.heap H locs → W p l e (headSpec (wx yX6_read cX6_read 8 none) ({ frames := 1, cells := 0, slots := 0, locals := 24 } : Room)).room s m ([.ref (ad (26 + 2 * i0)), .ref (ad (11 + 5 * i1)), .int p2, .int p3] : List Value).toArray below meth c H locs 0 0 (MQ below (QCv g ad rd ln s.heap.size r fi' ar') ([.ref (ad (26 + 2 * i0)), .ref (ad (11 + 5 * i1)), .int p2, .int p3] : List Value).toArray s 0 0 (AC ad rd s.heap.size)) (F0 m 103 ls []) := by
        intro x2 x3 x4 x5 fi ar H locs ls hF hl hP hS
        unfold FX6_read_103 at hF
        obtain ⟨x5_21, ex5_21⟩ : ∃ y : Int32, y = (x5) + (1 : Int32) := ⟨_, rfl⟩
        replace hF := bnd_of hF ex5_21
        refine lv_iinc (v := x5_21) (lv' := [(5, .int (x5_21)), (0, .ref (ad (26 + 2 * i0))), (1, .ref (ad (11 + 5 * i1))), (2, .int (x2)), (3, .int (x3)), (4, .int (x4))]) hx hb dX6_read_103 hl (k := 5) rfl (by rw [ex5_21]; rfl) (by decide) rfl (fun ls hl => ?_)
        refine lv_goto (tgt := 15) hx hb dX6_read_106 (by decide) ?_
        exact ih15 (x2) (x3) (x4) (x5_21) _ _ _ _ _ hF (lv_sub hl [1, 2, 3, 4, 5, 0] rfl) hP hS
      have J75 : ∀ (x2 : Int32) (x3 : Int32) (x4 : Int32) (x5 : Int32) (x6 : Int32) (fi : FI) (ar : AR) (H : Heap) (locs : List Loc) (ls : Array Slot), FX6_read_75 K15 nf ln i0 i1 x2 x3 x4 x5 x6 fi ar = some (r, fi', ar') → lv_has ls 8 [(0, .ref (ad (26 + 2 * i0))), (1, .ref (ad (11 + 5 * i1))), (2, .int x2), (3, .int x3), (4, .int x4), (5, .int x5), (6, .int x6)] → va_P (gD g) vwCl (WC g ad rd ln fi ar) H → va_S (AC ad rd s.heap.size) s.heap H locs → W p l e (headSpec (wx yX6_read cX6_read 8 none) ({ frames := 1, cells := 0, slots := 0, locals := 24 } : Room)).room s m ([.ref (ad (26 + 2 * i0)), .ref (ad (11 + 5 * i1)), .int p2, .int p3] : List Value).toArray below meth c H locs 0 0 (MQ below (QCv g ad rd ln s.heap.size r fi' ar') ([.ref (ad (26 + 2 * i0)), .ref (ad (11 + 5 * i1)), .int p2, .int p3] : List Value).toArray s 0 0 (AC ad rd s.heap.size)) (F0 m 75 ls []) := by
        intro x2 x3 x4 x5 x6 fi ar H locs ls hF hl hP hS
        unfold FX6_read_75 at hF
        refine lv_iload hx hb dX6_read_75 (lv_at hl 6 rfl) ?_
        refine lv_bipush (v := (32 : Int32)) hx hb dX6_read_77 (by decide) ?_
        refine lv_icmp_eq (tgt := 103) hx hb dX6_read_79 (by decide) (fun hc22 => ?_) (fun hc22 => ?_)
        · replace hF := br_yes hF hc22
          exact J103 (x2) (x3) (x4) (x5) _ _ _ _ _ hF (lv_sub hl [0, 1, 2, 3, 4, 5] rfl) hP hS
        · replace hF := br_no hF hc22
          refine lv_aload_n hx hb dX6_read_82 rfl (lv_at hl 0 rfl) ?_
          refine cg_X6_units hi0 hx hb hT hown hK hP mw5_1 dX6_read_83 ?_
          refine lv_aload_n hx hb dX6_read_86 rfl (lv_at hl 0 rfl) ?_
          refine cg_X6_length hi0 hx hb hT hown hK hP mw26_19 dX6_read_87 ?_
          refine lv_iload hx hb dX6_read_90 (lv_at hl 6 rfl) ?_
          replace hF := gd_of hF
          obtain ⟨hi23, hF⟩ := hF
          obtain ⟨ar24, ear24⟩ : ∃ y : AR, y = va_up ar (30 + i0) (upd (ar (30 + i0)) (fi (60 + i0)).toNatClampNeg (x6)) := ⟨_, rfl⟩
          replace hF := bnd_of hF ear24
          refine cs_units hi0 hx hb hK hP hD hS hi23 dX6_read_92 (fun H locs hP hS => ?_)
          rw [← ear24] at hP
          refine lv_aload_n hx hb dX6_read_93 rfl (lv_at hl 0 rfl) ?_
          refine lv_dup hx hb dX6_read_94 rfl ?_
          refine cg_X6_length hi0 hx hb hT hown hK hP mw26_19 dX6_read_95 ?_
          refine lv_iconst (v := (1 : Int32)) hx hb dX6_read_98 (by decide) ?_
          refine lv_iadd hx hb dX6_read_99 ?_
          obtain ⟨fi25, efi25⟩ : ∃ y : FI, y = va_up fi (60 + i0) ((fi (60 + i0)) + (1 : Int32)) := ⟨_, rfl⟩
          replace hF := bnd_of hF efi25
          refine cp_X6_length hi0 hx hb hT hown hK hP hD hS mw26_19 dX6_read_100 (fun H locs hP hS => ?_)
          rw [← efi25] at hP
          exact J103 (x2) (x3) (x4) (x5) _ _ _ _ _ hF (lv_sub hl [0, 1, 2, 3, 4, 5] rfl) hP hS
      unfold FX6_read_15b at hF
      refine lv_iload_n hx hb dX6_read_15 rfl (lv_at hl 3 rfl) ?_
      refine lv_if_ne (tgt := 109) hx hb dX6_read_16 (by decide) (fun hc26 => ?_) (fun hc26 => ?_)
      · replace hF := br_no hF hc26
        exact J109 (x2) (x3) (x4) _ _ _ _ _ hF (lv_sub hl [0, 1, 2, 3, 4] rfl) hP hS
      · replace hF := br_yes hF hc26
        refine lv_iload hx hb dX6_read_19 (lv_at hl 5 rfl) ?_
        refine lv_bipush (v := (11 : Int32)) hx hb dX6_read_21 (by decide) ?_
        refine lv_icmp_ge (tgt := 109) hx hb dX6_read_23 (by decide) (fun hc27 => ?_) (fun hc27 => ?_)
        · replace hF := br_yes hF hc27
          exact J109 (x2) (x3) (x4) _ _ _ _ _ hF (lv_sub hl [0, 1, 2, 3, 4] rfl) hP hS
        · replace hF := br_no hF hc27
          refine lv_aload_n hx hb dX6_read_26 rfl (lv_at hl 1 rfl) ?_
          refine cg_X2_disk hi1 hx hb hT hown hK hP mw26_20 dX6_read_27 ?_
          refine lv_iload hx hb dX6_read_30 (lv_at hl 4 rfl) ?_
          refine lv_iload hx hb dX6_read_32 (lv_at hl 5 rfl) ?_
          refine lv_iadd hx hb dX6_read_34 ?_
          replace hF := obnd3_of hF
          obtain ⟨r31, fi29, ar30, h28, hF⟩ := hF
          refine cC_i (As := [.int ((x4) + (x5))]) (rest := []) hx hb hml hT hown hK hE hD hA hP hS (rcv_X3 hK hP) (kX3_one l g ad rd _ nf ln fi ar ((x4) + (x5)) r31 fi29 ar30 h28) cw_X3_one mw27_0 ⟨⟨rfl, rfl⟩, Nat.le_of_ble_eq_true rfl, Nat.le_of_ble_eq_true rfl⟩ rfl hl.1 rfl (Nat.le_of_ble_eq_true rfl) dX6_read_35 ⟨Nat.zero_le _, Nat.zero_le _⟩ (fun H locs hP hS => ?_)
          refine lv_istore (lv' := [(6, .int (r31)), (0, .ref (ad (26 + 2 * i0))), (1, .ref (ad (11 + 5 * i1))), (2, .int (x2)), (3, .int (x3)), (4, .int (x4)), (5, .int (x5))]) hx hb dX6_read_38 hl (by decide) rfl (fun ls hl => ?_)
          refine lv_iload hx hb dX6_read_40 (lv_at hl 6 rfl) ?_
          refine lv_bipush (v := (8 : Int32)) hx hb dX6_read_42 (by decide) ?_
          refine lv_icmp_ne (tgt := 75) hx hb dX6_read_44 (by decide) (fun hc32 => ?_) (fun hc32 => ?_)
          · replace hF := br_no hF hc32
            exact J75 (x2) (x3) (x4) (x5) (r31) _ _ _ _ _ hF (lv_sub hl [1, 2, 3, 4, 5, 6, 0] rfl) hP hS
          · replace hF := br_yes hF hc32
            refine lv_iload hx hb dX6_read_47 (lv_at hl 0 rfl) ?_
            refine lv_bipush (v := (32 : Int32)) hx hb dX6_read_49 (by decide) ?_
            refine lv_icmp_eq (tgt := 75) hx hb dX6_read_51 (by decide) (fun hc33 => ?_) (fun hc33 => ?_)
            · replace hF := br_yes hF hc33
              exact J75 (x2) (x3) (x4) (x5) (r31) _ _ _ _ _ hF (lv_sub hl [1, 2, 3, 4, 5, 6, 0] rfl) hP hS
            · replace hF := br_no hF hc33
              refine lv_aload_n hx hb dX6_read_54 rfl (lv_at hl 1 rfl) ?_
              refine cg_X6_units hi0 hx hb hT hown hK hP mw5_1 dX6_read_55 ?_
              refine lv_aload_n hx hb dX6_read_58 rfl (lv_at hl 1 rfl) ?_
              refine cg_X6_length hi0 hx hb hT hown hK hP mw26_19 dX6_read_59 ?_
              refine lv_bipush (v := (46 : Int32)) hx hb dX6_read_62 (by decide) ?_
              replace hF := gd_of hF
              obtain ⟨hi34, hF⟩ := hF
              obtain ⟨ar35, ear35⟩ : ∃ y : AR, y = va_up ar30 (30 + i0) (upd (ar30 (30 + i0)) (fi29 (60 + i0)).toNatClampNeg (46 : Int32)) := ⟨_, rfl⟩
              replace hF := bnd_of hF ear35
              refine cs_units hi0 hx hb hK hP hD hS hi34 dX6_read_64 (fun H locs hP hS => ?_)
              rw [← ear35] at hP
              refine lv_aload_n hx hb dX6_read_65 rfl (lv_at hl 1 rfl) ?_
              refine lv_dup hx hb dX6_read_66 rfl ?_
              refine cg_X6_length hi0 hx hb hT hown hK hP mw26_19 dX6_read_67 ?_
              refine lv_iconst (v := (1 : Int32)) hx hb dX6_read_70 (by decide) ?_
              refine lv_iadd hx hb dX6_read_71 ?_
              obtain ⟨fi36, efi36⟩ : ∃ y : FI, y = va_up fi29 (60 + i0) ((fi29 (60 + i0)) + (1 : Int32)) := ⟨_, rfl⟩
              replace hF := bnd_of hF efi36
              refine cp_X6_length hi0 hx hb hT hown hK hP hD hS mw26_19 dX6_read_72 (fun H locs hP hS => ?_)
              rw [← efi36] at hP
              exact J75 (x2) (x3) (x4) (x5) (r31) _ _ _ _ _ hF (lv_sub hl [1, 2, 3, 4, 5, 6, 0] rfl) hP hS
  replace hl := lv_sub hl [0, 1, 2, 3] rfl
  refine lv_aload_n hx hb dX6_read_0 rfl (lv_at hl 0 rfl) ?_
  refine lv_iconst (v := (0 : Int32)) hx hb dX6_read_1 (by decide) ?_
  obtain ⟨fi37, efi37⟩ : ∃ y : FI, y = va_up fi (60 + i0) (0 : Int32) := ⟨_, rfl⟩
  replace hF := bnd_of hF efi37
  refine cp_X6_length hi0 hx hb hT hown hK hP hD hS mw26_19 dX6_read_2 (fun H locs hP hS => ?_)
  rw [← efi37] at hP
  refine lv_aload_n hx hb dX6_read_5 rfl (lv_at hl 1 rfl) ?_
  refine lv_iload_n hx hb dX6_read_6 rfl (lv_at hl 2 rfl) ?_
  replace hF := obnd3_of hF
  obtain ⟨r41, fi39, ar40, h38, hF⟩ := hF
  refine cC_i (As := [.int (p2)]) (rest := []) hx hb hml hT hown hK hE hD hA hP hS (rcv_X2 hi1 hK hP) (kX2_slotAddress l g ad rd _ nf ln i1 hi1 fi37 ar (p2) r41 fi39 ar40 h38) cw_X2_slotAddress mw26_23 ⟨⟨rfl, rfl⟩, Nat.le_of_ble_eq_true rfl, Nat.le_of_ble_eq_true rfl⟩ rfl hl.1 rfl (Nat.le_of_ble_eq_true rfl) dX6_read_7 ⟨Nat.zero_le _, Nat.zero_le _⟩ (fun H locs hP hS => ?_)
  refine lv_istore (lv' := [(4, .int (r41)), (0, .ref (ad (26 + 2 * i0))), (1, .ref (ad (11 + 5 * i1))), (2, .int (p2)), (3, .int (p3))]) hx hb dX6_read_10 hl (by decide) rfl (fun ls hl => ?_)
  refine lv_iconst (v := (0 : Int32)) hx hb dX6_read_12 (by decide) ?_
  refine lv_istore (lv' := [(5, .int (0 : Int32)), (4, .int (r41)), (0, .ref (ad (26 + 2 * i0))), (1, .ref (ad (11 + 5 * i1))), (2, .int (p2)), (3, .int (p3))]) hx hb dX6_read_13 hl (by decide) rfl (fun ls hl => ?_)
  exact L15 nf (p2) (p3) (r41) (0 : Int32) _ _ _ _ _ hF (lv_sub hl [2, 3, 4, 5, 1, 0] rfl) hP hS
theorem cw_X6_read : (Cond.instanceMethod yX6_read ∈ TB ∧ Cond.selects RX6 yX6_read yX6_read ∈ TB ∧ Cond.code yX6_read cX6_read 8 none ∈ TB ∧ Cond.initialized RX6 ∈ TB) ∧ (yX6_read.cls = RX6 ∧ yX6_read.cls ≠ "java/lang/invoke/MethodHandle" ∧ yX6_read.cls ≠ "java/lang/invoke/VarHandle" ∧ (parseMethodDescriptor yX6_read.desc).map (fun d => d.parameters.length) = some 3) := ⟨⟨mw26_16, mw26_17, mw26_18, mw2_23⟩, by decide +kernel⟩
