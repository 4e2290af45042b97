/-! X5_mayStandInName -/
noncomputable def FX5_mayStandInName_53 (nf : Nat) (t0 : Int32) : Option Int32 :=
  gd ((t0) &&& 1 = (t0)) (some (t0))
noncomputable def FX5_mayStandInName_48 (nf : Nat)  : Option Int32 :=
  FX5_mayStandInName_53 nf  (1 : Int32)
noncomputable def FX5_mayStandInName_30 (nf : Nat)  : Option Int32 :=
  some (0 : Int32)
noncomputable def FX5_mayStandInName_24 (nf : Nat) (x0 : Int32) : Option Int32 :=
  br ((x0) ≤ (65533 : Int32)) (br ((127 : Int32) < (x0)) (FX5_mayStandInName_48 nf) (obnd (FJ0_indexOf_0f7a4 nf 1 (((x0).toUInt32 % 65536).toInt32)) fun r5 => br (0 ≤ (r5)) (FX5_mayStandInName_53 nf  (0 : Int32)) (FX5_mayStandInName_48 nf))) (FX5_mayStandInName_30 nf)
noncomputable def FX5_mayStandInName (nf : Nat) (x0 : Int32) : Option Int32 :=
  br ((x0) < (32 : Int32)) (FX5_mayStandInName_30 nf) (br ((x0) = (127 : Int32)) (FX5_mayStandInName_30 nf) (br ((x0) < (55296 : Int32)) (FX5_mayStandInName_24 nf  (x0)) (br ((x0) ≤ (57343 : Int32)) (FX5_mayStandInName_30 nf) (FX5_mayStandInName_24 nf  (x0)))))
set_option maxHeartbeats 4000000 in
set_option maxRecDepth 100000 in
theorem kX5_mayStandInName (l : Launch) (g : GT) (nf : Nat) (p0 : Int32) (r : Int32) (hF : FX5_mayStandInName nf p0 = some r) : Met l yX5_mayStandInName (wx yX5_mayStandInName cX5_mayStandInName 1 (some .boolean)) ({ frames := 4, cells := 0, slots := 0, locals := 91 } : Room) (va_Pc [.int p0] (PS g)) (QSi r) 0 0 noA := by
  refine Met.ofW (cc := cX5_mayStandInName) (maxL := 1) (ret := (some .boolean)) (by decide) rfl ?_
  intro p e s m args below meth c s₁ B hml hv
  obtain ⟨rfl, hE⟩ := hv
  have hx := B.exec
  have hb := B.bytes
  have hr := B.returns
  have hts := atoms_spec (ws := (wx yX5_mayStandInName cX5_mayStandInName 1 (some .boolean))) B.pre
  have hT : ∀ w ∈ TB, w.before _ s = true := fun w h => hts w (List.mem_cons_of_mem _ h)
  have hown : s.vm.findClass RX5 = some m.cls := findClass_of_methodNamed B.named
  have hlocks := B.notSynchronized
  have hS : va_S noA s.heap s.heap [] := va_S.rf
  have hP : va_P (gD g) vwCl [] s.heap := fun k q h => by cases h
  have hl := lv_entry ([.int p0]) (n := 1) (Nat.le_of_ble_eq_true rfl)
  rw [lg_entry_eq]
  generalize (lg_sl ([.int p0]) ++ List.replicate (1 - (lg_sl ([.int p0])).length) Slot.unset).toArray = ls at hl ⊢
  have hl : lv_has ls 1 [(0, .int p0)] := hl
  unfold FX5_mayStandInName at hF
  have J53 : ∀ (t0 : Int32) (H : Heap) (locs : List Loc) (ls : Array Slot), FX5_mayStandInName_53 nf t0 = some r → lv_has ls 1 [] → va_P (gD g) vwCl [] H → va_S noA s.heap H locs → W p l e (headSpec (wx yX5_mayStandInName cX5_mayStandInName 1 (some .boolean)) ({ frames := 4, cells := 0, slots := 0, locals := 91 } : Room)).room s m ([.int p0] : List Value).toArray below meth c H locs 0 0 (MQ below (QSi r) ([.int p0] : List Value).toArray s 0 0 noA) (F0 m 53 ls [.int t0]) := by
    intro t0 H locs ls hF hl hP hS
    unfold FX5_mayStandInName_53 at hF
    replace hF := gd_of hF
    obtain ⟨hz1, hF⟩ := hF
    exact rS_z hx hb hr hlocks (nar_z hz1) hF hS dX5_mayStandInName_53
  have J48 : ∀  (H : Heap) (locs : List Loc) (ls : Array Slot), FX5_mayStandInName_48 nf  = some r → lv_has ls 1 [] → va_P (gD g) vwCl [] H → va_S noA s.heap H locs → W p l e (headSpec (wx yX5_mayStandInName cX5_mayStandInName 1 (some .boolean)) ({ frames := 4, cells := 0, slots := 0, locals := 91 } : Room)).room s m ([.int p0] : List Value).toArray below meth c H locs 0 0 (MQ below (QSi r) ([.int p0] : List Value).toArray s 0 0 noA) (F0 m 48 ls []) := by
    intro H locs ls hF hl hP hS
    unfold FX5_mayStandInName_48 at hF
    refine lv_iconst (v := (1 : Int32)) hx hb dX5_mayStandInName_48 (by decide) ?_
    refine lv_goto (tgt := 53) hx hb dX5_mayStandInName_49 (by decide) ?_
    exact J53 (1 : Int32)  _ _ _ hF (lv_sub hl [] rfl) hP hS
  have J30 : ∀  (H : Heap) (locs : List Loc) (ls : Array Slot), FX5_mayStandInName_30 nf  = some r → lv_has ls 1 [] → va_P (gD g) vwCl [] H → va_S noA s.heap H locs → W p l e (headSpec (wx yX5_mayStandInName cX5_mayStandInName 1 (some .boolean)) ({ frames := 4, cells := 0, slots := 0, locals := 91 } : Room)).room s m ([.int p0] : List Value).toArray below meth c H locs 0 0 (MQ below (QSi r) ([.int p0] : List Value).toArray s 0 0 noA) (F0 m 30 ls []) := by
    intro H locs ls hF hl hP hS
    unfold FX5_mayStandInName_30 at hF
    refine lv_iconst (v := (0 : Int32)) hx hb dX5_mayStandInName_30 (by decide) ?_
    exact rS_z hx hb hr hlocks rfl hF hS dX5_mayStandInName_31
  have J24 : ∀ (x0 : Int32) (H : Heap) (locs : List Loc) (ls : Array Slot), FX5_mayStandInName_24 nf x0 = some r → lv_has ls 1 [(0, .int x0)] → va_P (gD g) vwCl [] H → va_S noA s.heap H locs → W p l e (headSpec (wx yX5_mayStandInName cX5_mayStandInName 1 (some .boolean)) ({ frames := 4, cells := 0, slots := 0, locals := 91 } : Room)).room s m ([.int p0] : List Value).toArray below meth c H locs 0 0 (MQ below (QSi r) ([.int p0] : List Value).toArray s 0 0 noA) (F0 m 24 ls []) := by
    intro x0 H locs ls hF hl hP hS
    unfold FX5_mayStandInName_24 at hF
    refine lv_iload_n hx hb dX5_mayStandInName_24 rfl (lv_at hl 0 rfl) ?_
    refine lv_ldc (v := (65533 : Int32)) hx hb hown (hT _ mw27_11) dX5_mayStandInName_25 ?_
    refine lv_icmp_le (tgt := 32) hx hb dX5_mayStandInName_27 (by decide) (fun hc2 => ?_) (fun hc2 => ?_)
    · replace hF := br_yes hF hc2
      refine lv_iload_n hx hb dX5_mayStandInName_32 rfl (lv_at hl 0 rfl) ?_
      refine lv_bipush (v := (127 : Int32)) hx hb dX5_mayStandInName_33 (by decide) ?_
      refine lv_icmp_gt (tgt := 48) hx hb dX5_mayStandInName_35 (by decide) (fun hc3 => ?_) (fun hc3 => ?_)
      · replace hF := br_yes hF hc3
        exact J48   _ _ _ hF (lv_sub hl [] rfl) hP hS
      · replace hF := br_no hF hc3
        refine va_ldcS (q := g.2.2.2 1) hx hb hown hE.2.2.2.2 dX5_mayStandInName_38 ?_
        refine lv_iload_n hx hb dX5_mayStandInName_40 rfl (lv_at hl 0 rfl) ?_
        refine lv_i2c hx hb dX5_mayStandInName_41 rfl ?_
        replace hF := obnd_of hF
        obtain ⟨r5, h4, hF⟩ := hF
        refine cT_i (As := [.int (((x0).toUInt32 % 65536).toInt32)]) (rest := []) (by decide) hx hb hml hT hown hE hP hS (kJ0_indexOf_0f7a4 l g nf 1 (by decide) (((x0).toUInt32 % 65536).toInt32) r5 h4) cw_J0_indexOf_0f7a4 mw10_12 ⟨⟨rfl, rfl⟩, Nat.le_of_ble_eq_true rfl, Nat.le_of_ble_eq_true rfl⟩ rfl hl.1 rfl (Nat.le_of_ble_eq_true rfl) dX5_mayStandInName_42 ⟨Nat.zero_le _, Nat.zero_le _⟩ (fun H locs hP hS => ?_)
        refine lv_if_ge (tgt := 52) hx hb dX5_mayStandInName_45 (by decide) (fun hc6 => ?_) (fun hc6 => ?_)
        · replace hF := br_yes hF hc6
          refine lv_iconst (v := (0 : Int32)) hx hb dX5_mayStandInName_52 (by decide) ?_
          exact J53 (0 : Int32)  _ _ _ hF (lv_sub hl [] rfl) hP hS
        · replace hF := br_no hF hc6
          exact J48   _ _ _ hF (lv_sub hl [] rfl) hP hS
    · replace hF := br_no hF hc2
      exact J30   _ _ _ hF (lv_sub hl [] rfl) hP hS
  replace hl := lv_sub hl [0] rfl
  refine lv_iload_n hx hb dX5_mayStandInName_0 rfl (lv_at hl 0 rfl) ?_
  refine lv_bipush (v := (32 : Int32)) hx hb dX5_mayStandInName_1 (by decide) ?_
  refine lv_icmp_lt (tgt := 30) hx hb dX5_mayStandInName_3 (by decide) (fun hc7 => ?_) (fun hc7 => ?_)
  · replace hF := br_yes hF hc7
    exact J30   _ _ _ hF (lv_sub hl [] rfl) hP hS
  · replace hF := br_no hF hc7
    refine lv_iload_n hx hb dX5_mayStandInName_6 rfl (lv_at hl 0 rfl) ?_
    refine lv_bipush (v := (127 : Int32)) hx hb dX5_mayStandInName_7 (by decide) ?_
    refine lv_icmp_eq (tgt := 30) hx hb dX5_mayStandInName_9 (by decide) (fun hc8 => ?_) (fun hc8 => ?_)
    · replace hF := br_yes hF hc8
      exact J30   _ _ _ hF (lv_sub hl [] rfl) hP hS
    · replace hF := br_no hF hc8
      refine lv_iload_n hx hb dX5_mayStandInName_12 rfl (lv_at hl 0 rfl) ?_
      refine lv_ldc (v := (55296 : Int32)) hx hb hown (hT _ mw27_9) dX5_mayStandInName_13 ?_
      refine lv_icmp_lt (tgt := 24) hx hb dX5_mayStandInName_15 (by decide) (fun hc9 => ?_) (fun hc9 => ?_)
      · replace hF := br_yes hF hc9
        exact J24 (p0)  _ _ _ hF (lv_sub hl [0] rfl) hP hS
      · replace hF := br_no hF hc9
        refine lv_iload_n hx hb dX5_mayStandInName_18 rfl (lv_at hl 0 rfl) ?_
        refine lv_ldc (v := (57343 : Int32)) hx hb hown (hT _ mw27_10) dX5_mayStandInName_19 ?_
        refine lv_icmp_le (tgt := 30) hx hb dX5_mayStandInName_21 (by decide) (fun hc10 => ?_) (fun hc10 => ?_)
        · replace hF := br_yes hF hc10
          exact J30   _ _ _ hF (lv_sub hl [] rfl) hP hS
        · replace hF := br_no hF hc10
          exact J24 (p0)  _ _ _ hF (lv_sub hl [0] rfl) hP hS
theorem cw_X5_mayStandInName : (Cond.static yX5_mayStandInName ∈ TB ∧ Cond.code yX5_mayStandInName cX5_mayStandInName 1 (some .boolean) ∈ TB ∧ Cond.initialized yX5_mayStandInName.cls ∈ TB) ∧ (yX5_mayStandInName.cls ≠ "java/lang/invoke/MethodHandle" ∧ yX5_mayStandInName.cls ≠ "java/lang/invoke/VarHandle" ∧ (parseMethodDescriptor yX5_mayStandInName.desc).map (fun d => d.parameters.length) = some 1) := ⟨⟨mw27_7, mw27_8, mw10_10⟩, by decide +kernel⟩
/-! X6_asTold -/
noncomputable def FX6_asTold_99 (nf : Nat) (ln : LN) (i0 : Nat) (t0 : Int32) (fi : FI) (ar : AR) : Option (Int32 × FI × AR) :=
  gd ((t0) &&& 1 = (t0)) (some ((t0), fi, ar))
noncomputable def FX6_asTold_98 (nf : Nat) (ln : LN) (i0 : Nat)  (fi : FI) (ar : AR) : Option (Int32 × FI × AR) :=
  FX6_asTold_99 nf ln i0  (0 : Int32) fi ar
noncomputable def FX6_asTold_34b (K34 : Int32 → FI → AR → Option (Int32 × FI × AR)) (nf : Nat) (ln : LN) (i0 : Nat) (x1 : Int32) (fi : FI) (ar : AR) : Option (Int32 × FI × AR) :=
  br ((fi (60 + i0)) ≤ (x1)) (gd (¬ (((fi (60 + i0)) - (1 : Int32)) < 0 ∨ ln (30 + i0) ≤ ((fi (60 + i0)) - (1 : Int32)).toNatClampNeg)) (br ((ar (30 + i0) ((fi (60 + i0)) - (1 : Int32)).toNatClampNeg) = (32 : Int32)) (FX6_asTold_98 nf ln i0  fi ar) (gd (¬ (((fi (60 + i0)) - (1 : Int32)) < 0 ∨ ln (30 + i0) ≤ ((fi (60 + i0)) - (1 : Int32)).toNatClampNeg)) (br ((ar (30 + i0) ((fi (60 + i0)) - (1 : Int32)).toNatClampNeg) = (46 : Int32)) (FX6_asTold_98 nf ln i0  fi ar) (FX6_asTold_99 nf ln i0  (1 : Int32) fi ar))))) (gd (¬ ((x1) < 0 ∨ ln (30 + i0) ≤ (x1).toNatClampNeg)) (obnd (FX5_mayStandInName nf (ar (30 + i0) (x1).toNatClampNeg)) fun r9 => br ((r9) = 0) (some ((0 : Int32), fi, ar)) (bnd ((x1) + (1 : Int32)) fun x1_11 => K34 (x1_11) fi ar)))
noncomputable def FX6_asTold_34 (nf : Nat) (ln : LN) (i0 : Nat) (kf : Nat) : Int32 → FI → AR → Option (Int32 × FI × AR) := Nat.rec (fun _ _ _ => none) (fun _ K34 => FX6_asTold_34b K34 nf ln i0) kf
noncomputable def FX6_asTold_30 (nf : Nat) (ln : LN) (i0 : Nat)  (fi : FI) (ar : AR) : Option (Int32 × FI × AR) :=
  some ((0 : Int32), fi, ar)
noncomputable def FX6_asTold (nf : Nat) (ln : LN) (i0 : Nat) (fi : FI) (ar : AR)  : Option (Int32 × FI × AR) :=
  br ((fi (60 + i0)) < (1 : Int32)) (FX6_asTold_30 nf ln i0  fi ar) (br ((255 : Int32) < (fi (60 + i0))) (FX6_asTold_30 nf ln i0  fi ar) (br ((fi (60 + i0)) ≤ (Int32.ofNat (ln (30 + i0)))) (FX6_asTold_34 nf ln i0 nf (0 : Int32) fi ar) (FX6_asTold_30 nf ln i0  fi ar)))
set_option maxHeartbeats 4000000 in
set_option maxRecDepth 100000 in
theorem kX6_asTold (l : Launch) (g : GT) (ad rd : Nat → Nat) (sz : Nat) (nf : Nat) (ln : LN) (i0 : Nat) (hi0 : i0 < 4) (fi : FI) (ar : AR)  (r : Int32) (fi' : FI) (ar' : AR) (hF : FX6_asTold nf ln i0 fi ar  = some (r, fi', ar')) : Met l yX6_asTold (wx yX6_asTold cX6_asTold 2 (some .boolean)) ({ frames := 5, cells := 0, slots := 0, locals := 111 } : Room) (va_Pc [.ref (ad (26 + 2 * i0))] (PC g ad rd ln sz fi ar)) (QCi g ad rd ln sz r fi' ar') 0 0 (AC ad rd sz) := by
  refine Met.ofW (cc := cX6_asTold) (maxL := 2) (ret := (some .boolean)) (by decide) rfl ?_
  intro p e s m args below meth c s₁ B hml hv
  obtain ⟨rfl, hsz, hP, hK, hD0, hE⟩ := hv
  have hx := B.exec
  have hb := B.bytes
  have hr := B.returns
  have hts := atoms_spec (ws := (wx yX6_asTold cX6_asTold 2 (some .boolean))) B.pre
  have hT : ∀ w ∈ TB, w.before _ s = true := fun w h => hts w (List.mem_cons_of_mem _ h)
  have hown : s.vm.findClass RX6 = some m.cls := findClass_of_methodNamed B.named
  have hlocks := B.notSynchronized
  subst hsz
  have hD := dC hD0 s.heap.size
  have hA : ∀ q : Nat, s.heap.size ≤ q → AC ad rd s.heap.size q := fun q h => Or.inr h
  have hS : va_S (AC ad rd s.heap.size) s.heap s.heap [] := va_S.rf
  have hl := lv_entry ([.ref (ad (26 + 2 * i0))]) (n := 2) (Nat.le_of_ble_eq_true rfl)
  rw [lg_entry_eq]
  generalize (lg_sl ([.ref (ad (26 + 2 * i0))]) ++ List.replicate (2 - (lg_sl ([.ref (ad (26 + 2 * i0))])).length) Slot.unset).toArray = ls at hl ⊢
  have hl : lv_has ls 2 [(0, .ref (ad (26 + 2 * i0)))] := hl
  unfold FX6_asTold at hF
  have J99 : ∀ (t0 : Int32) (fi : FI) (ar : AR) (H : Heap) (locs : List Loc) (ls : Array Slot), FX6_asTold_99 nf ln i0 t0 fi ar = some (r, fi', ar') → lv_has ls 2 [(0, .ref (ad (26 + 2 * i0)))] → va_P (gD g) vwCl (WC g ad rd ln fi ar) H → va_S (AC ad rd s.heap.size) s.heap H locs → W p l e (headSpec (wx yX6_asTold cX6_asTold 2 (some .boolean)) ({ frames := 5, cells := 0, slots := 0, locals := 111 } : Room)).room s m ([.ref (ad (26 + 2 * i0))] : List Value).toArray below meth c H locs 0 0 (MQ below (QCi g ad rd ln s.heap.size r fi' ar') ([.ref (ad (26 + 2 * i0))] : List Value).toArray s 0 0 (AC ad rd s.heap.size)) (F0 m 99 ls [.int t0]) := by
    intro t0 fi ar H locs ls hF hl hP hS
    unfold FX6_asTold_99 at hF
    replace hF := gd_of hF
    obtain ⟨hz1, hF⟩ := hF
    exact rC_z hx hb hr hlocks (nar_z hz1) hF hP hS dX6_asTold_99
  have J98 : ∀  (fi : FI) (ar : AR) (H : Heap) (locs : List Loc) (ls : Array Slot), FX6_asTold_98 nf ln i0 fi ar = some (r, fi', ar') → lv_has ls 2 [(0, .ref (ad (26 + 2 * i0)))] → va_P (gD g) vwCl (WC g ad rd ln fi ar) H → va_S (AC ad rd s.heap.size) s.heap H locs → W p l e (headSpec (wx yX6_asTold cX6_asTold 2 (some .boolean)) ({ frames := 5, cells := 0, slots := 0, locals := 111 } : Room)).room s m ([.ref (ad (26 + 2 * i0))] : List Value).toArray below meth c H locs 0 0 (MQ below (QCi g ad rd ln s.heap.size r fi' ar') ([.ref (ad (26 + 2 * i0))] : List Value).toArray s 0 0 (AC ad rd s.heap.size)) (F0 m 98 ls []) := by
    intro fi ar H locs ls hF hl hP hS
    unfold FX6_asTold_98 at hF
    refine lv_iconst (v := (0 : Int32)) hx hb dX6_asTold_98 (by decide) ?_
    exact J99 (0 : Int32) _ _ _ _ _ hF (lv_sub hl [0] rfl) hP hS
  have L34 : ∀ kf : Nat, ∀ (x1 : Int32) (fi : FI) (ar : AR) (H : Heap) (locs : List Loc) (ls : Array Slot), FX6_asTold_34 nf ln i0 kf x1 fi ar = some (r, fi', ar') → lv_has ls 2 [(0, .ref (ad (26 + 2 * i0))), (1, .int x1)] → va_P (gD g) vwCl (WC g ad rd ln fi ar) H → va_S (AC ad rd s.heap.size) s.heap H locs → W p l e (headSpec (wx yX6_asTold cX6_asTold 2 (some .boolean)) ({ frames := 5, cells := 0, slots := 0, locals := 111 } : Room)).room s m ([.ref (ad (26 + 2 * i0))] : List Value).toArray below meth c H locs 0 0 (MQ below (QCi g ad rd ln s.heap.size r fi' ar') ([.ref (ad (26 + 2 * i0))] : List Value).toArray s 0 0 (AC ad rd s.heap.size)) (F0 m 34 ls []) := by
    intro kf
    induction kf with
    | zero => intro x1 fi ar H locs ls hF hl hP hS; cases (show (none : Option (Int32 × FI × AR)) = _ from hF)
    | succ kf ih34 =>
      intro x1 fi ar H locs ls hF hl hP hS
      obtain ⟨K34, hK34⟩ : ∃ K : Int32 → FI → AR → Option (Int32 × FI × AR), K = FX6_asTold_34 nf ln i0 kf := ⟨_, rfl⟩
      replace hF : FX6_asTold_34b K34 nf ln i0 x1 fi ar = some (r, fi', ar') := by rw [hK34]; exact hF
      rw [← hK34] at ih34
      clear hK34
      unfold FX6_asTold_34b at hF
      refine lv_iload_n hx hb dX6_asTold_34 rfl (lv_at hl 1 rfl) ?_
      refine lv_aload_n hx hb dX6_asTold_35 rfl (lv_at hl 0 rfl) ?_
      refine cg_X6_length hi0 hx hb hT hown hK hP mw26_19 dX6_asTold_36 ?_
      refine lv_icmp_ge (tgt := 62) hx hb dX6_asTold_39 (by decide) (fun hc2 => ?_) (fun hc2 => ?_)
      · replace hF := br_yes hF hc2
        refine lv_aload_n hx hb dX6_asTold_62 rfl (lv_at hl 0 rfl) ?_
        refine cg_X6_units hi0 hx hb hT hown hK hP mw5_1 dX6_asTold_63 ?_
        refine lv_aload_n hx hb dX6_asTold_66 rfl (lv_at hl 0 rfl) ?_
        refine cg_X6_length hi0 hx hb hT hown hK hP mw26_19 dX6_asTold_67 ?_
        refine lv_iconst (v := (1 : Int32)) hx hb dX6_asTold_70 (by decide) ?_
        refine lv_isub hx hb dX6_asTold_71 ?_
        replace hF := gd_of hF
        obtain ⟨hi3, hF⟩ := hF
        refine cl_units hi0 hx hb hK hP hi3 dX6_asTold_72 ?_
        refine lv_bipush (v := (32 : Int32)) hx hb dX6_asTold_73 (by decide) ?_
        refine lv_icmp_eq (tgt := 98) hx hb dX6_asTold_75 (by decide) (fun hc4 => ?_) (fun hc4 => ?_)
        · replace hF := br_yes hF hc4
          exact J98  _ _ _ _ _ hF (lv_sub hl [0] rfl) hP hS
        · replace hF := br_no hF hc4
          refine lv_aload_n hx hb dX6_asTold_78 rfl (lv_at hl 0 rfl) ?_
          refine cg_X6_units hi0 hx hb hT hown hK hP mw5_1 dX6_asTold_79 ?_
          refine lv_aload_n hx hb dX6_asTold_82 rfl (lv_at hl 0 rfl) ?_
          refine cg_X6_length hi0 hx hb hT hown hK hP mw26_19 dX6_asTold_83 ?_
          refine lv_iconst (v := (1 : Int32)) hx hb dX6_asTold_86 (by decide) ?_
          refine lv_isub hx hb dX6_asTold_87 ?_
          replace hF := gd_of hF
          obtain ⟨hi5, hF⟩ := hF
          refine cl_units hi0 hx hb hK hP hi5 dX6_asTold_88 ?_
          refine lv_bipush (v := (46 : Int32)) hx hb dX6_asTold_89 (by decide) ?_
          refine lv_icmp_eq (tgt := 98) hx hb dX6_asTold_91 (by decide) (fun hc6 => ?_) (fun hc6 => ?_)
          · replace hF := br_yes hF hc6
            exact J98  _ _ _ _ _ hF (lv_sub hl [0] rfl) hP hS
          · replace hF := br_no hF hc6
            refine lv_iconst (v := (1 : Int32)) hx hb dX6_asTold_94 (by decide) ?_
            refine lv_goto (tgt := 99) hx hb dX6_asTold_95 (by decide) ?_
            exact J99 (1 : Int32) _ _ _ _ _ hF (lv_sub hl [0] rfl) hP hS
      · replace hF := br_no hF hc2
        refine lv_aload_n hx hb dX6_asTold_42 rfl (lv_at hl 0 rfl) ?_
        refine cg_X6_units hi0 hx hb hT hown hK hP mw5_1 dX6_asTold_43 ?_
        refine lv_iload_n hx hb dX6_asTold_46 rfl (lv_at hl 1 rfl) ?_
        replace hF := gd_of hF
        obtain ⟨hi7, hF⟩ := hF
        refine cl_units hi0 hx hb hK hP hi7 dX6_asTold_47 ?_
        replace hF := obnd_of hF
        obtain ⟨r9, h8, hF⟩ := hF
        refine cS_i (As := [.int (ar (30 + i0) (x1).toNatClampNeg)]) (rest := []) hx hb hml hT hown hE hP hS (kX5_mayStandInName l g nf (ar (30 + i0) (x1).toNatClampNeg) r9 h8) cw_X5_mayStandInName mw27_6 ⟨⟨rfl, rfl⟩, Nat.le_of_ble_eq_true rfl, Nat.le_of_ble_eq_true rfl⟩ rfl hl.1 rfl (Nat.le_of_ble_eq_true rfl) dX6_asTold_48 ⟨Nat.zero_le _, Nat.zero_le _⟩ (fun H locs hP hS => ?_)
        refine lv_if_ne (tgt := 56) hx hb dX6_asTold_51 (by decide) (fun hc10 => ?_) (fun hc10 => ?_)
        · replace hF := br_no hF hc10
          obtain ⟨x1_11, ex1_11⟩ : ∃ y : Int32, y = (x1) + (1 : Int32) := ⟨_, rfl⟩
          replace hF := bnd_of hF ex1_11
          refine lv_iinc (v := x1_11) (lv' := [(1, .int (x1_11)), (0, .ref (ad (26 + 2 * i0)))]) hx hb dX6_asTold_56 hl (k := 1) rfl (by rw [ex1_11]; rfl) (by decide) rfl (fun ls hl => ?_)
          refine lv_goto (tgt := 34) hx hb dX6_asTold_59 (by decide) ?_
          exact ih34 (x1_11) _ _ _ _ _ hF (lv_sub hl [1, 0] rfl) hP hS
        · replace hF := br_yes hF hc10
          refine lv_iconst (v := (0 : Int32)) hx hb dX6_asTold_54 (by decide) ?_
          exact rC_z hx hb hr hlocks rfl hF hP hS dX6_asTold_55
  have J30 : ∀  (fi : FI) (ar : AR) (H : Heap) (locs : List Loc) (ls : Array Slot), FX6_asTold_30 nf ln i0 fi ar = some (r, fi', ar') → lv_has ls 2 [(0, .ref (ad (26 + 2 * i0)))] → va_P (gD g) vwCl (WC g ad rd ln fi ar) H → va_S (AC ad rd s.heap.size) s.heap H locs → W p l e (headSpec (wx yX6_asTold cX6_asTold 2 (some .boolean)) ({ frames := 5, cells := 0, slots := 0, locals := 111 } : Room)).room s m ([.ref (ad (26 + 2 * i0))] : List Value).toArray below meth c H locs 0 0 (MQ below (QCi g ad rd ln s.heap.size r fi' ar') ([.ref (ad (26 + 2 * i0))] : List Value).toArray s 0 0 (AC ad rd s.heap.size)) (F0 m 30 ls []) := by
    intro fi ar H locs ls hF hl hP hS
    unfold FX6_asTold_30 at hF
    refine lv_iconst (v := (0 : Int32)) hx hb dX6_asTold_30 (by decide) ?_
    exact rC_z hx hb hr hlocks rfl hF hP hS dX6_asTold_31
  replace hl := lv_sub hl [0] rfl
  refine lv_aload_n hx hb dX6_asTold_0 rfl (lv_at hl 0 rfl) ?_
  refine cg_X6_length hi0 hx hb hT hown hK hP mw26_19 dX6_asTold_1 ?_
  refine lv_iconst (v := (1 : Int32)) hx hb dX6_asTold_4 (by decide) ?_
  refine lv_icmp_lt (tgt := 30) hx hb dX6_asTold_5 (by decide) (fun hc12 => ?_) (fun hc12 => ?_)
  · replace hF := br_yes hF hc12
    exact J30  _ _ _ _ _ hF (lv_sub hl [0] rfl) hP hS
  · replace hF := br_no hF hc12
    refine lv_aload_n hx hb dX6_asTold_8 rfl (lv_at hl 0 rfl) ?_
    refine cg_X6_length hi0 hx hb hT hown hK hP mw26_19 dX6_asTold_9 ?_
    refine lv_sipush (v := (255 : Int32)) hx hb dX6_asTold_12 (by decide) ?_
    refine lv_icmp_gt (tgt := 30) hx hb dX6_asTold_15 (by decide) (fun hc13 => ?_) (fun hc13 => ?_)
    · replace hF := br_yes hF hc13
      exact J30  _ _ _ _ _ hF (lv_sub hl [0] rfl) hP hS
    · replace hF := br_no hF hc13
      refine lv_aload_n hx hb dX6_asTold_18 rfl (lv_at hl 0 rfl) ?_
      refine cg_X6_length hi0 hx hb hT hown hK hP mw26_19 dX6_asTold_19 ?_
      refine lv_aload_n hx hb dX6_asTold_22 rfl (lv_at hl 0 rfl) ?_
      refine cg_X6_units hi0 hx hb hT hown hK hP mw5_1 dX6_asTold_23 ?_
      refine ca_units hi0 hx hb hK hP dX6_asTold_26 ?_
      refine lv_icmp_le (tgt := 32) hx hb dX6_asTold_27 (by decide) (fun hc14 => ?_) (fun hc14 => ?_)
      · replace hF := br_yes hF hc14
        refine lv_iconst (v := (0 : Int32)) hx hb dX6_asTold_32 (by decide) ?_
        refine lv_istore_n (lv' := [(1, .int (0 : Int32)), (0, .ref (ad (26 + 2 * i0)))]) hx hb dX6_asTold_33 rfl hl (by decide) rfl (fun ls hl => ?_)
        exact L34 nf (0 : Int32) _ _ _ _ _ hF (lv_sub hl [1, 0] rfl) hP hS
      · replace hF := br_no hF hc14
        exact J30  _ _ _ _ _ hF (lv_sub hl [0] rfl) hP hS
theorem cw_X6_asTold : (Cond.instanceMethod yX6_asTold ∈ TB ∧ Cond.selects RX6 yX6_asTold yX6_asTold ∈ TB ∧ Cond.code yX6_asTold cX6_asTold 2 (some .boolean) ∈ TB ∧ Cond.initialized RX6 ∈ TB) ∧ (yX6_asTold.cls = RX6 ∧ yX6_asTold.cls ≠ "java/lang/invoke/MethodHandle" ∧ yX6_asTold.cls ≠ "java/lang/invoke/VarHandle" ∧ (parseMethodDescriptor yX6_asTold.desc).map (fun d => d.parameters.length) = some 0) := ⟨⟨mw27_3, mw27_4, mw27_5, mw2_23⟩, by decide +kernel⟩
/-! X6_partsWanted -/
noncomputable def FX6_partsWanted (nf : Nat) (ln : LN) (i0 : Nat) (fi : FI) (ar : AR)  : Option (Int32 × FI × AR) :=
  some (((((fi (60 + i0)) + (13 : Int32)) - (1 : Int32)) / (13 : Int32)), fi, ar)
set_option maxHeartbeats 4000000 in
set_option maxRecDepth 100000 in
theorem kX6_partsWanted (l : Launch) (g : GT) (ad rd : Nat → Nat) (sz : Nat) (nf : Nat) (ln : LN) (i0 : Nat) (hi0 : i0 < 4) (fi : FI) (ar : AR)  (r : Int32) (fi' : FI) (ar' : AR) (hF : FX6_partsWanted nf ln i0 fi ar  = some (r, fi', ar')) : Met l yX6_partsWanted (wx yX6_partsWanted cX6_partsWanted 1 (some .int)) ({ frames := 0, cells := 0, slots := 0, locals := 0 } : Room) (va_Pc [.ref (ad (26 + 2 * i0))] (PC g ad rd ln sz fi ar)) (QCi g ad rd ln sz r fi' ar') 0 0 (AC ad rd sz) := by
  refine Met.ofW (cc := cX6_partsWanted) (maxL := 1) (ret := (some .int)) (by decide) rfl ?_
  intro p e s m args below meth c s₁ B hml hv
  obtain ⟨rfl, hsz, hP, hK, hD0, hE⟩ := hv
  have hx := B.exec
  have hb := B.bytes
  have hr := B.returns
  have hts := atoms_spec (ws := (wx yX6_partsWanted cX6_partsWanted 1 (some .int))) B.pre
  have hT : ∀ w ∈ TB, w.before _ s = true := fun w h => hts w (List.mem_cons_of_mem _ h)
  have hown : s.vm.findClass RX6 = some m.cls := findClass_of_methodNamed B.named
  have hlocks := B.notSynchronized
  subst hsz
  have hD := dC hD0 s.heap.size
  have hA : ∀ q : Nat, s.heap.size ≤ q → AC ad rd s.heap.size q := fun q h => Or.inr h
  have hS : va_S (AC ad rd s.heap.size) s.heap s.heap [] := va_S.rf
  have hl := lv_entry ([.ref (ad (26 + 2 * i0))]) (n := 1) (Nat.le_of_ble_eq_true rfl)
  rw [lg_entry_eq]
  generalize (lg_sl ([.ref (ad (26 + 2 * i0))]) ++ List.replicate (1 - (lg_sl ([.ref (ad (26 + 2 * i0))])).length) Slot.unset).toArray = ls at hl ⊢
  have hl : lv_has ls 1 [(0, .ref (ad (26 + 2 * i0)))] := hl
  unfold FX6_partsWanted at hF
  replace hl := lv_sub hl [0] rfl
  refine lv_aload_n hx hb dX6_partsWanted_0 rfl (lv_at hl 0 rfl) ?_
  refine cg_X6_length hi0 hx hb hT hown hK hP mw26_19 dX6_partsWanted_1 ?_
  refine lv_bipush (v := (13 : Int32)) hx hb dX6_partsWanted_4 (by decide) ?_
  refine lv_iadd hx hb dX6_partsWanted_6 ?_
  refine lv_iconst (v := (1 : Int32)) hx hb dX6_partsWanted_7 (by decide) ?_
  refine lv_isub hx hb dX6_partsWanted_8 ?_
  refine lv_bipush (v := (13 : Int32)) hx hb dX6_partsWanted_9 (by decide) ?_
  refine lv_idiv hx hb dX6_partsWanted_11 (by decide) ?_
  exact rC_i hx hb hr hlocks hF hP hS dX6_partsWanted_12
theorem cw_X6_partsWanted : (Cond.instanceMethod yX6_partsWanted ∈ TB ∧ Cond.selects RX6 yX6_partsWanted yX6_partsWanted ∈ TB ∧ Cond.code yX6_partsWanted cX6_partsWanted 1 (some .int) ∈ TB ∧ Cond.initialized RX6 ∈ TB) ∧ (yX6_partsWanted.cls = RX6 ∧ yX6_partsWanted.cls ≠ "java/lang/invoke/MethodHandle" ∧ yX6_partsWanted.cls ≠ "java/lang/invoke/VarHandle" ∧ (parseMethodDescriptor yX6_partsWanted.desc).map (fun d => d.parameters.length) = some 0) := ⟨⟨mw27_18, mw27_19, mw27_20, mw2_23⟩, by decide +kernel⟩
/-! X6_fills -/
noncomputable def FX6_fills_53 (nf : Nat) (ln : LN) (i0 : Nat)  (fi : FI) (ar : AR) : Option (Int32 × FI × AR) :=
  some ((1 : Int32), fi, ar)
noncomputable def FX6_fills_17b (K17 : Int32 → Int32 → FI → AR → Option (Int32 × FI × AR)) (nf : Nat) (ln : LN) (i0 : Nat) (x1 : Int32) (x2 : Int32) (fi : FI) (ar : AR) : Option (Int32 × FI × AR) :=
  br (((x1) * (13 : Int32)) ≤ (x2)) (FX6_fills_53 nf ln i0  fi ar) (br ((Int32.ofNat (ln (30 + i0))) ≤ (x2)) (FX6_fills_53 nf ln i0  fi ar) (gd (¬ ((x2) < 0 ∨ ln (30 + i0) ≤ (x2).toNatClampNeg)) (br ((ar (30 + i0) (x2).toNatClampNeg) = (65535 : Int32)) (bnd ((x2) + (1 : Int32)) fun x2_5 => K17 (x1) (x2_5) fi ar) (some ((0 : Int32), fi, ar)))))
noncomputable def FX6_fills_17 (nf : Nat) (ln : LN) (i0 : Nat) (kf : Nat) : Int32 → Int32 → FI → AR → Option (Int32 × FI × AR) := Nat.rec (fun _ _ _ _ => none) (fun _ K17 => FX6_fills_17b K17 nf ln i0) kf
noncomputable def FX6_fills (nf : Nat) (ln : LN) (i0 : Nat) (fi : FI) (ar : AR) (x1 : Int32) : Option (Int32 × FI × AR) :=
  obnd3 (FX6_partsWanted nf ln i0 fi ar) fun r9 fi7 ar8 => br ((r9) = (x1)) (bnd ((fi7 (60 + i0)) + (1 : Int32)) fun x2_11 => FX6_fills_17 nf ln i0 nf (x1) (x2_11) fi7 ar8) (some ((0 : Int32), fi7, ar8))
set_option maxHeartbeats 4000000 in
set_option maxRecDepth 100000 in
theorem kX6_fills (l : Launch) (g : GT) (ad rd : Nat → Nat) (sz : Nat) (nf : Nat) (ln : LN) (i0 : Nat) (hi0 : i0 < 4) (fi : FI) (ar : AR) (p1 : Int32) (r : Int32) (fi' : FI) (ar' : AR) (hF : FX6_fills nf ln i0 fi ar p1 = some (r, fi', ar')) : Met l yX6_fills (wx yX6_fills cX6_fills 3 (some .boolean)) ({ frames := 1, cells := 0, slots := 0, locals := 20 } : Room) (va_Pc [.ref (ad (26 + 2 * i0)), .int p1] (PC g ad rd ln sz fi ar)) (QCi g ad rd ln sz r fi' ar') 0 0 (AC ad rd sz) := by
  refine Met.ofW (cc := cX6_fills) (maxL := 3) (ret := (some .boolean)) (by decide) rfl ?_
  intro p e s m args below meth c s₁ B hml hv
  obtain ⟨rfl, hsz, hP, hK, hD0, hE⟩ := hv
  have hx := B.exec
  have hb := B.bytes
  have hr := B.returns
  have hts := atoms_spec (ws := (wx yX6_fills cX6_fills 3 (some .boolean))) B.pre
  have hT : ∀ w ∈ TB, w.before _ s = true := fun w h => hts w (List.mem_cons_of_mem _ h)
  have hown : s.vm.findClass RX6 = some m.cls := findClass_of_methodNamed B.named
  have hlocks := B.notSynchronized
  subst hsz
  have hD := dC hD0 s.heap.size
  have hA : ∀ q : Nat, s.heap.size ≤ q → AC ad rd s.heap.size q := fun q h => Or.inr h
  have hS : va_S (AC ad rd s.heap.size) s.heap s.heap [] := va_S.rf
  have hl := lv_entry ([.ref (ad (26 + 2 * i0)), .int p1]) (n := 3) (Nat.le_of_ble_eq_true rfl)
  rw [lg_entry_eq]
  generalize (lg_sl ([.ref (ad (26 + 2 * i0)), .int p1]) ++ List.replicate (3 - (lg_sl ([.ref (ad (26 + 2 * i0)), .int p1])).length) Slot.unset).toArray = ls at hl ⊢
  have hl : lv_has ls 3 [(0, .ref (ad (26 + 2 * i0))), (1, .int p1)] := hl
  unfold FX6_fills at hF
  have J53 : ∀  (fi : FI) (ar : AR) (H : Heap) (locs : List Loc) (ls : Array Slot), FX6_fills_53 nf ln i0 fi ar = some (r, fi', ar') → lv_has ls 3 [(0, .ref (ad (26 + 2 * i0)))] → va_P (gD g) vwCl (WC g ad rd ln fi ar) H → va_S (AC ad rd s.heap.size) s.heap H locs → W p l e (headSpec (wx yX6_fills cX6_fills 3 (some .boolean)) ({ frames := 1, cells := 0, slots := 0, locals := 20 } : Room)).room s m ([.ref (ad (26 + 2 * i0)), .int p1] : List Value).toArray below meth c H locs 0 0 (MQ below (QCi g ad rd ln s.heap.size r fi' ar') ([.ref (ad (26 + 2 * i0)), .int p1] : List Value).toArray s 0 0 (AC ad rd s.heap.size)) (F0 m 53 ls []) := by
    intro fi ar H locs ls hF hl hP hS
    unfold FX6_fills_53 at hF
    refine lv_iconst (v := (1 : Int32)) hx hb dX6_fills_53 (by decide) ?_
    exact rC_z hx hb hr hlocks rfl hF hP hS dX6_fills_54
  have L17 : ∀ kf : Nat, ∀ (x1 : Int32) (x2 : Int32) (fi : FI) (ar : AR) (H : Heap) (locs : List Loc) (ls : Array Slot), FX6_fills_17 nf ln i0 kf x1 x2 fi ar = some (r, fi', ar') → lv_has ls 3 [(0, .ref (ad (26 + 2 * i0))), (1, .int x1), (2, .int x2)] → va_P (gD g) vwCl (WC g ad rd ln fi ar) H → va_S (AC ad rd s.heap.size) s.heap H locs → W p l e (headSpec (wx yX6_fills cX6_fills 3 (some .boolean)) ({ frames := 1, cells := 0, slots := 0, locals := 20 } : Room)).room s m ([.ref (ad (26 + 2 * i0)), .int p1] : List Value).toArray below meth c H locs 0 0 (MQ below (QCi g ad rd ln s.heap.size r fi' ar') ([.ref (ad (26 + 2 * i0)), .int p1] : List Value).toArray s 0 0 (AC ad rd s.heap.size)) (F0 m 17 ls []) := by
    intro kf
    induction kf with
    | zero => intro x1 x2 fi ar H locs ls hF hl hP hS; cases (show (none : Option (Int32 × FI × AR)) = _ from hF)
    | succ kf ih17 =>
      intro x1 x2 fi ar H locs ls hF hl hP hS
      obtain ⟨K17, hK17⟩ : ∃ K : Int32 → Int32 → FI → AR → Option (Int32 × FI × AR), K = FX6_fills_17 nf ln i0 kf := ⟨_, rfl⟩
      replace hF : FX6_fills_17b K17 nf ln i0 x1 x2 fi ar = some (r, fi', ar') := by rw [hK17]; exact hF
      rw [← hK17] at ih17
      clear hK17
      unfold FX6_fills_17b at hF
      refine lv_iload_n hx hb dX6_fills_17 rfl (lv_at hl 2 rfl) ?_
      refine lv_iload_n hx hb dX6_fills_18 rfl (lv_at hl 1 rfl) ?_
      refine lv_bipush (v := (13 : Int32)) hx hb dX6_fills_19 (by decide) ?_
      refine lv_imul hx hb dX6_fills_21 ?_
      refine lv_icmp_ge (tgt := 53) hx hb dX6_fills_22 (by decide) (fun hc1 => ?_) (fun hc1 => ?_)
      · replace hF := br_yes hF hc1
        exact J53  _ _ _ _ _ hF (lv_sub hl [0] rfl) hP hS
      · replace hF := br_no hF hc1
        refine lv_iload_n hx hb dX6_fills_25 rfl (lv_at hl 2 rfl) ?_
        refine lv_aload_n hx hb dX6_fills_26 rfl (lv_at hl 0 rfl) ?_
        refine cg_X6_units hi0 hx hb hT hown hK hP mw5_1 dX6_fills_27 ?_
        refine ca_units hi0 hx hb hK hP dX6_fills_30 ?_
        refine lv_icmp_ge (tgt := 53) hx hb dX6_fills_31 (by decide) (fun hc2 => ?_) (fun hc2 => ?_)
        · replace hF := br_yes hF hc2
          exact J53  _ _ _ _ _ hF (lv_sub hl [0] rfl) hP hS
        · replace hF := br_no hF hc2
          refine lv_aload_n hx hb dX6_fills_34 rfl (lv_at hl 0 rfl) ?_
          refine cg_X6_units hi0 hx hb hT hown hK hP mw5_1 dX6_fills_35 ?_
          refine lv_iload_n hx hb dX6_fills_38 rfl (lv_at hl 2 rfl) ?_
          replace hF := gd_of hF
          obtain ⟨hi3, hF⟩ := hF
          refine cl_units hi0 hx hb hK hP hi3 dX6_fills_39 ?_
          refine lv_ldc (v := (65535 : Int32)) hx hb hown (hT _ mw27_16) dX6_fills_40 ?_
          refine lv_icmp_eq (tgt := 47) hx hb dX6_fills_42 (by decide) (fun hc4 => ?_) (fun hc4 => ?_)
          · replace hF := br_yes hF hc4
            obtain ⟨x2_5, ex2_5⟩ : ∃ y : Int32, y = (x2) + (1 : Int32) := ⟨_, rfl⟩
            replace hF := bnd_of hF ex2_5
            refine lv_iinc (v := x2_5) (lv' := [(2, .int (x2_5)), (0, .ref (ad (26 + 2 * i0))), (1, .int (x1))]) hx hb dX6_fills_47 hl (k := 2) rfl (by rw [ex2_5]; rfl) (by decide) rfl (fun ls hl => ?_)
            refine lv_goto (tgt := 17) hx hb dX6_fills_50 (by decide) ?_
            exact ih17 (x1) (x2_5) _ _ _ _ _ hF (lv_sub hl [1, 2, 0] rfl) hP hS
          · replace hF := br_no hF hc4
            refine lv_iconst (v := (0 : Int32)) hx hb dX6_fills_45 (by decide) ?_
            exact rC_z hx hb hr hlocks rfl hF hP hS dX6_fills_46
  replace hl := lv_sub hl [0, 1] rfl
  refine lv_aload_n hx hb dX6_fills_0 rfl (lv_at hl 0 rfl) ?_
  replace hF := obnd3_of hF
  obtain ⟨r9, fi7, ar8, h6, hF⟩ := hF
  refine cC_i (As := []) (rest := []) hx hb hml hT hown hK hE hD hA hP hS (rcv_X6 hi0 hK hP) (kX6_partsWanted l g ad rd _ nf ln i0 hi0 fi ar r9 fi7 ar8 h6) cw_X6_partsWanted mw27_17 ⟨⟨rfl, rfl⟩, Nat.le_of_ble_eq_true rfl, Nat.le_of_ble_eq_true rfl⟩ rfl hl.1 rfl (Nat.le_of_ble_eq_true rfl) dX6_fills_1 ⟨Nat.zero_le _, Nat.zero_le _⟩ (fun H locs hP hS => ?_)
  refine lv_iload_n hx hb dX6_fills_4 rfl (lv_at hl 1 rfl) ?_
  refine lv_icmp_eq (tgt := 10) hx hb dX6_fills_5 (by decide) (fun hc10 => ?_) (fun hc10 => ?_)
  · replace hF := br_yes hF hc10
    refine lv_aload_n hx hb dX6_fills_10 rfl (lv_at hl 0 rfl) ?_
    refine cg_X6_length hi0 hx hb hT hown hK hP mw26_19 dX6_fills_11 ?_
    refine lv_iconst (v := (1 : Int32)) hx hb dX6_fills_14 (by decide) ?_
    refine lv_iadd hx hb dX6_fills_15 ?_
    obtain ⟨x2_11, ex2_11⟩ : ∃ y : Int32, y = ((fi7 (60 + i0)) + (1 : Int32)) := ⟨_, rfl⟩
    rw [← ex2_11]
    replace hF := bnd_of hF ex2_11
    refine lv_istore_n (lv' := [(2, .int (x2_11)), (0, .ref (ad (26 + 2 * i0))), (1, .int (p1))]) hx hb dX6_fills_16 rfl hl (by decide) rfl (fun ls hl => ?_)
    exact L17 nf (p1) (x2_11) _ _ _ _ _ hF (lv_sub hl [1, 2, 0] rfl) hP hS
  · replace hF := br_no hF hc10
    refine lv_iconst (v := (0 : Int32)) hx hb dX6_fills_8 (by decide) ?_
    exact rC_z hx hb hr hlocks rfl hF hP hS dX6_fills_9
theorem cw_X6_fills : (Cond.instanceMethod yX6_fills ∈ TB ∧ Cond.selects RX6 yX6_fills yX6_fills ∈ TB ∧ Cond.code yX6_fills cX6_fills 3 (some .boolean) ∈ TB ∧ Cond.initialized RX6 ∈ TB) ∧ (yX6_fills.cls = RX6 ∧ yX6_fills.cls ≠ "java/lang/invoke/MethodHandle" ∧ yX6_fills.cls ≠ "java/lang/invoke/VarHandle" ∧ (parseMethodDescriptor yX6_fills.desc).map (fun d => d.parameters.length) = some 1) := ⟨⟨mw27_13, mw27_14, mw27_15, mw2_23⟩, by decide +kernel⟩
/-! X5_capital -/
noncomputable def FX5_capital_20 (nf : Nat) (t0 : Int32) : Option Int32 :=
  some (t0)
noncomputable def FX5_capital_19 (nf : Nat) (x0 : Int32) : Option Int32 :=
  FX5_capital_20 nf  (x0)
noncomputable def FX5_capital (nf : Nat) (x0 : Int32) : Option Int32 :=
  br ((x0) < (97 : Int32)) (FX5_capital_19 nf  (x0)) (br ((122 : Int32) < (x0)) (FX5_capital_19 nf  (x0)) (FX5_capital_20 nf  ((x0) - (32 : Int32))))
set_option maxHeartbeats 4000000 in
set_option maxRecDepth 100000 in
theorem kX5_capital (l : Launch) (g : GT) (nf : Nat) (p0 : Int32) (r : Int32) (hF : FX5_capital nf p0 = some r) : Met l yX5_capital (wx yX5_capital cX5_capital 1 (some .int)) ({ frames := 0, cells := 0, slots := 0, locals := 0 } : Room) (va_Pc [.int p0] (PS g)) (QSi r) 0 0 noA := by
  refine Met.ofW (cc := cX5_capital) (maxL := 1) (ret := (some .int)) (by decide) rfl ?_
  intro p e s m args below meth c s₁ B hml hv
  obtain ⟨rfl, hE⟩ := hv
  have hx := B.exec
  have hb := B.bytes
  have hr := B.returns
  have hts := atoms_spec (ws := (wx yX5_capital cX5_capital 1 (some .int))) B.pre
  have hT : ∀ w ∈ TB, w.before _ s = true := fun w h => hts w (List.mem_cons_of_mem _ h)
  have hown : s.vm.findClass RX5 = some m.cls := findClass_of_methodNamed B.named
  have hlocks := B.notSynchronized
  have hS : va_S noA s.heap s.heap [] := va_S.rf
  have hP : va_P (gD g) vwCl [] s.heap := fun k q h => by cases h
  have hl := lv_entry ([.int p0]) (n := 1) (Nat.le_of_ble_eq_true rfl)
  rw [lg_entry_eq]
  generalize (lg_sl ([.int p0]) ++ List.replicate (1 - (lg_sl ([.int p0])).length) Slot.unset).toArray = ls at hl ⊢
  have hl : lv_has ls 1 [(0, .int p0)] := hl
  unfold FX5_capital at hF
  have J20 : ∀ (t0 : Int32) (H : Heap) (locs : List Loc) (ls : Array Slot), FX5_capital_20 nf t0 = some r → lv_has ls 1 [] → va_P (gD g) vwCl [] H → va_S noA s.heap H locs → W p l e (headSpec (wx yX5_capital cX5_capital 1 (some .int)) ({ frames := 0, cells := 0, slots := 0, locals := 0 } : Room)).room s m ([.int p0] : List Value).toArray below meth c H locs 0 0 (MQ below (QSi r) ([.int p0] : List Value).toArray s 0 0 noA) (F0 m 20 ls [.int t0]) := by
    intro t0 H locs ls hF hl hP hS
    unfold FX5_capital_20 at hF
    exact rS_i hx hb hr hlocks hF hS dX5_capital_20
  have J19 : ∀ (x0 : Int32) (H : Heap) (locs : List Loc) (ls : Array Slot), FX5_capital_19 nf x0 = some r → lv_has ls 1 [(0, .int x0)] → va_P (gD g) vwCl [] H → va_S noA s.heap H locs → W p l e (headSpec (wx yX5_capital cX5_capital 1 (some .int)) ({ frames := 0, cells := 0, slots := 0, locals := 0 } : Room)).room s m ([.int p0] : List Value).toArray below meth c H locs 0 0 (MQ below (QSi r) ([.int p0] : List Value).toArray s 0 0 noA) (F0 m 19 ls []) := by
    intro x0 H locs ls hF hl hP hS
    unfold FX5_capital_19 at hF
    refine lv_iload_n hx hb dX5_capital_19 rfl (lv_at hl 0 rfl) ?_
    exact J20 (x0)  _ _ _ hF (lv_sub hl [] rfl) hP hS
  replace hl := lv_sub hl [0] rfl
  refine lv_iload_n hx hb dX5_capital_0 rfl (lv_at hl 0 rfl) ?_
  refine lv_bipush (v := (97 : Int32)) hx hb dX5_capital_1 (by decide) ?_
  refine lv_icmp_lt (tgt := 19) hx hb dX5_capital_3 (by decide) (fun hc1 => ?_) (fun hc1 => ?_)
  · replace hF := br_yes hF hc1
    exact J19 (p0)  _ _ _ hF (lv_sub hl [0] rfl) hP hS
  · replace hF := br_no hF hc1
    refine lv_iload_n hx hb dX5_capital_6 rfl (lv_at hl 0 rfl) ?_
    refine lv_bipush (v := (122 : Int32)) hx hb dX5_capital_7 (by decide) ?_
    refine lv_icmp_gt (tgt := 19) hx hb dX5_capital_9 (by decide) (fun hc2 => ?_) (fun hc2 => ?_)
    · replace hF := br_yes hF hc2
      exact J19 (p0)  _ _ _ hF (lv_sub hl [0] rfl) hP hS
    · replace hF := br_no hF hc2
      refine lv_iload_n hx hb dX5_capital_12 rfl (lv_at hl 0 rfl) ?_
      refine lv_bipush (v := (32 : Int32)) hx hb dX5_capital_13 (by decide) ?_
      refine lv_isub hx hb dX5_capital_15 ?_
      refine lv_goto (tgt := 20) hx hb dX5_capital_16 (by decide) ?_
      exact J20 ((p0) - (32 : Int32))  _ _ _ hF (lv_sub hl [] rfl) hP hS
theorem cw_X5_capital : (Cond.static yX5_capital ∈ TB ∧ Cond.code yX5_capital cX5_capital 1 (some .int) ∈ TB ∧ Cond.initialized yX5_capital.cls ∈ TB) ∧ (yX5_capital.cls ≠ "java/lang/invoke/MethodHandle" ∧ yX5_capital.cls ≠ "java/lang/invoke/VarHandle" ∧ (parseMethodDescriptor yX5_capital.desc).map (fun d => d.parameters.length) = some 1) := ⟨⟨mw28_2, mw28_3, mw10_10⟩, by decide +kernel⟩
/-! X6_hash -/
noncomputable def FX6_hash_45 (nf : Nat) (ln : LN) (i0 : Nat) (x1 : Int32) (fi : FI) (ar : AR) : Option (Int32 × FI × AR) :=
  some ((x1), fi, ar)
noncomputable def FX6_hash_7b (K7 : Int32 → Int32 → FI → AR → Option (Int32 × FI × AR)) (nf : Nat) (ln : LN) (i0 : Nat) (x1 : Int32) (x2 : Int32) (fi : FI) (ar : AR) : Option (Int32 × FI × AR) :=
  br ((fi (60 + i0)) ≤ (x2)) (FX6_hash_45 nf ln i0  (x1) fi ar) (br ((Int32.ofNat (ln (30 + i0))) ≤ (x2)) (FX6_hash_45 nf ln i0  (x1) fi ar) (gd (¬ ((x2) < 0 ∨ ln (30 + i0) ≤ (x2).toNatClampNeg)) (obnd (FX5_capital nf (ar (30 + i0) (x2).toNatClampNeg)) fun r5 => bnd (((31 : Int32) * (x1)) + (r5)) fun x1_6 => bnd ((x2) + (1 : Int32)) fun x2_7 => K7 (x1_6) (x2_7) fi ar)))
noncomputable def FX6_hash_7 (nf : Nat) (ln : LN) (i0 : Nat) (kf : Nat) : Int32 → Int32 → FI → AR → Option (Int32 × FI × AR) := Nat.rec (fun _ _ _ _ => none) (fun _ K7 => FX6_hash_7b K7 nf ln i0) kf
noncomputable def FX6_hash (nf : Nat) (ln : LN) (i0 : Nat) (fi : FI) (ar : AR)  : Option (Int32 × FI × AR) :=
  bnd (fi (60 + i0)) fun x1_8 => FX6_hash_7 nf ln i0 nf (x1_8) (0 : Int32) fi ar
set_option maxHeartbeats 4000000 in
set_option maxRecDepth 100000 in
theorem kX6_hash (l : Launch) (g : GT) (ad rd : Nat → Nat) (sz : Nat) (nf : Nat) (ln : LN) (i0 : Nat) (hi0 : i0 < 4) (fi : FI) (ar : AR)  (r : Int32) (fi' : FI) (ar' : AR) (hF : FX6_hash nf ln i0 fi ar  = some (r, fi', ar')) : Met l yX6_hash (wx yX6_hash cX6_hash 3 (some .int)) ({ frames := 1, cells := 0, slots := 0, locals := 20 } : Room) (va_Pc [.ref (ad (26 + 2 * i0))] (PC g ad rd ln sz fi ar)) (QCi g ad rd ln sz r fi' ar') 0 0 (AC ad rd sz) := by
  refine Met.ofW (cc := cX6_hash) (maxL := 3) (ret := (some .int)) (by decide) rfl ?_
  intro p e s m args below meth c s₁ B hml hv
  obtain ⟨rfl, hsz, hP, hK, hD0, hE⟩ := hv
  have hx := B.exec
  have hb := B.bytes
  have hr := B.returns
  have hts := atoms_spec (ws := (wx yX6_hash cX6_hash 3 (some .int))) B.pre
  have hT : ∀ w ∈ TB, w.before _ s = true := fun w h => hts w (List.mem_cons_of_mem _ h)
  have hown : s.vm.findClass RX6 = some m.cls := findClass_of_methodNamed B.named
  have hlocks := B.notSynchronized
  subst hsz
  have hD := dC hD0 s.heap.size
  have hA : ∀ q : Nat, s.heap.size ≤ q → AC ad rd s.heap.size q := fun q h => Or.inr h
  have hS : va_S (AC ad rd s.heap.size) s.heap s.heap [] := va_S.rf
  have hl := lv_entry ([.ref (ad (26 + 2 * i0))]) (n := 3) (Nat.le_of_ble_eq_true rfl)
  rw [lg_entry_eq]
  generalize (lg_sl ([.ref (ad (26 + 2 * i0))]) ++ List.replicate (3 - (lg_sl ([.ref (ad (26 + 2 * i0))])).length) Slot.unset).toArray = ls at hl ⊢
  have hl : lv_has ls 3 [(0, .ref (ad (26 + 2 * i0)))] := hl
  unfold FX6_hash at hF
  have J45 : ∀ (x1 : Int32) (fi : FI) (ar : AR) (H : Heap) (locs : List Loc) (ls : Array Slot), FX6_hash_45 nf ln i0 x1 fi ar = some (r, fi', ar') → lv_has ls 3 [(0, .ref (ad (26 + 2 * i0))), (1, .int x1)] → va_P (gD g) vwCl (WC g ad rd ln fi ar) H → va_S (AC ad rd s.heap.size) s.heap H locs → W p l e (headSpec (wx yX6_hash cX6_hash 3 (some .int)) ({ frames := 1, cells := 0, slots := 0, locals := 20 } : Room)).room s m ([.ref (ad (26 + 2 * i0))] : List Value).toArray below meth c H locs 0 0 (MQ below (QCi g ad rd ln s.heap.size r fi' ar') ([.ref (ad (26 + 2 * i0))] : List Value).toArray s 0 0 (AC ad rd s.heap.size)) (F0 m 45 ls []) := by
    intro x1 fi ar H locs ls hF hl hP hS
    unfold FX6_hash_45 at hF
    refine lv_iload_n hx hb dX6_hash_45 rfl (lv_at hl 1 rfl) ?_
    exact rC_i hx hb hr hlocks hF hP hS dX6_hash_46
  have L7 : ∀ kf : Nat, ∀ (x1 : Int32) (x2 : Int32) (fi : FI) (ar : AR) (H : Heap) (locs : List Loc) (ls : Array Slot), FX6_hash_7 nf ln i0 kf x1 x2 fi ar = some (r, fi', ar') → lv_has ls 3 [(0, .ref (ad (26 + 2 * i0))), (1, .int x1), (2, .int x2)] → va_P (gD g) vwCl (WC g ad rd ln fi ar) H → va_S (AC ad rd s.heap.size) s.heap H locs → W p l e (headSpec (wx yX6_hash cX6_hash 3 (some .int)) ({ frames := 1, cells := 0, slots := 0, locals := 20 } : Room)).room s m ([.ref (ad (26 + 2 * i0))] : List Value).toArray below meth c H locs 0 0 (MQ below (QCi g ad rd ln s.heap.size r fi' ar') ([.ref (ad (26 + 2 * i0))] : List Value).toArray s 0 0 (AC ad rd s.heap.size)) (F0 m 7 ls []) := by
    intro kf
    induction kf with
    | zero => intro x1 x2 fi ar H locs ls hF hl hP hS; cases (show (none : Option (Int32 × FI × AR)) = _ from hF)
    | succ kf ih7 =>
      intro x1 x2 fi ar H locs ls hF hl hP hS
      obtain ⟨K7, hK7⟩ : ∃ K : Int32 → Int32 → FI → AR → Option (Int32 × FI × AR), K = FX6_hash_7 nf ln i0 kf := ⟨_, rfl⟩
      replace hF : FX6_hash_7b K7 nf ln i0 x1 x2 fi ar = some (r, fi', ar') := by rw [hK7]; exact hF
      rw [← hK7] at ih7
      clear hK7
      unfold FX6_hash_7b at hF
      refine lv_iload_n hx hb dX6_hash_7 rfl (lv_at hl 2 rfl) ?_
      refine lv_aload_n hx hb dX6_hash_8 rfl (lv_at hl 0 rfl) ?_
      refine cg_X6_length hi0 hx hb hT hown hK hP mw26_19 dX6_hash_9 ?_
      refine lv_icmp_ge (tgt := 45) hx hb dX6_hash_12 (by decide) (fun hc1 => ?_) (fun hc1 => ?_)
      · replace hF := br_yes hF hc1
        exact J45 (x1) _ _ _ _ _ hF (lv_sub hl [0, 1] rfl) hP hS
      · replace hF := br_no hF hc1
        refine lv_iload_n hx hb dX6_hash_15 rfl (lv_at hl 2 rfl) ?_
        refine lv_aload_n hx hb dX6_hash_16 rfl (lv_at hl 0 rfl) ?_
        refine cg_X6_units hi0 hx hb hT hown hK hP mw5_1 dX6_hash_17 ?_
        refine ca_units hi0 hx hb hK hP dX6_hash_20 ?_
        refine lv_icmp_ge (tgt := 45) hx hb dX6_hash_21 (by decide) (fun hc2 => ?_) (fun hc2 => ?_)
        · replace hF := br_yes hF hc2
          exact J45 (x1) _ _ _ _ _ hF (lv_sub hl [0, 1] rfl) hP hS
        · replace hF := br_no hF hc2
          refine lv_bipush (v := (31 : Int32)) hx hb dX6_hash_24 (by decide) ?_
          refine lv_iload_n hx hb dX6_hash_26 rfl (lv_at hl 1 rfl) ?_
          refine lv_imul hx hb dX6_hash_27 ?_
          refine lv_aload_n hx hb dX6_hash_28 rfl (lv_at hl 0 rfl) ?_
          refine cg_X6_units hi0 hx hb hT hown hK hP mw5_1 dX6_hash_29 ?_
          refine lv_iload_n hx hb dX6_hash_32 rfl (lv_at hl 2 rfl) ?_
          replace hF := gd_of hF
          obtain ⟨hi3, hF⟩ := hF
          refine cl_units hi0 hx hb hK hP hi3 dX6_hash_33 ?_
          replace hF := obnd_of hF
          obtain ⟨r5, h4, hF⟩ := hF
          refine cS_i (As := [.int (ar (30 + i0) (x2).toNatClampNeg)]) (rest := [.int ((31 : Int32) * (x1))]) hx hb hml hT hown hE hP hS (kX5_capital l g nf (ar (30 + i0) (x2).toNatClampNeg) r5 h4) cw_X5_capital mw28_1 ⟨⟨rfl, rfl⟩, Nat.le_of_ble_eq_true rfl, Nat.le_of_ble_eq_true rfl⟩ rfl hl.1 rfl (Nat.le_of_ble_eq_true rfl) dX6_hash_34 ⟨Nat.zero_le _, Nat.zero_le _⟩ (fun H locs hP hS => ?_)
          refine lv_iadd hx hb dX6_hash_37 ?_
          obtain ⟨x1_6, ex1_6⟩ : ∃ y : Int32, y = (((31 : Int32) * (x1)) + (r5)) := ⟨_, rfl⟩
          rw [← ex1_6]
          replace hF := bnd_of hF ex1_6
          refine lv_istore_n (lv' := [(1, .int (x1_6)), (0, .ref (ad (26 + 2 * i0))), (2, .int (x2))]) hx hb dX6_hash_38 rfl hl (by decide) rfl (fun ls hl => ?_)
          obtain ⟨x2_7, ex2_7⟩ : ∃ y : Int32, y = (x2) + (1 : Int32) := ⟨_, rfl⟩
          replace hF := bnd_of hF ex2_7
          refine lv_iinc (v := x2_7) (lv' := [(2, .int (x2_7)), (1, .int (x1_6)), (0, .ref (ad (26 + 2 * i0)))]) hx hb dX6_hash_39 hl (k := 2) rfl (by rw [ex2_7]; rfl) (by decide) rfl (fun ls hl => ?_)
          refine lv_goto (tgt := 7) hx hb dX6_hash_42 (by decide) ?_
          exact ih7 (x1_6) (x2_7) _ _ _ _ _ hF (lv_sub hl [2, 1, 0] rfl) hP hS
  replace hl := lv_sub hl [0] rfl
  refine lv_aload_n hx hb dX6_hash_0 rfl (lv_at hl 0 rfl) ?_
  refine cg_X6_length hi0 hx hb hT hown hK hP mw26_19 dX6_hash_1 ?_
  obtain ⟨x1_8, ex1_8⟩ : ∃ y : Int32, y = (fi (60 + i0)) := ⟨_, rfl⟩
  rw [← ex1_8]
  replace hF := bnd_of hF ex1_8
  refine lv_istore_n (lv' := [(1, .int (x1_8)), (0, .ref (ad (26 + 2 * i0)))]) hx hb dX6_hash_4 rfl hl (by decide) rfl (fun ls hl => ?_)
  refine lv_iconst (v := (0 : Int32)) hx hb dX6_hash_5 (by decide) ?_
  refine lv_istore_n (lv' := [(2, .int (0 : Int32)), (1, .int (x1_8)), (0, .ref (ad (26 + 2 * i0)))]) hx hb dX6_hash_6 rfl hl (by decide) rfl (fun ls hl => ?_)
  exact L7 nf (x1_8) (0 : Int32) _ _ _ _ _ hF (lv_sub hl [2, 1, 0] rfl) hP hS
theorem cw_X6_hash : (Cond.instanceMethod yX6_hash ∈ TB ∧ Cond.selects RX6 yX6_hash yX6_hash ∈ TB ∧ Cond.code yX6_hash cX6_hash 3 (some .int) ∈ TB ∧ Cond.initialized RX6 ∈ TB) ∧ (yX6_hash.cls = RX6 ∧ yX6_hash.cls ≠ "java/lang/invoke/MethodHandle" ∧ yX6_hash.cls ≠ "java/lang/invoke/VarHandle" ∧ (parseMethodDescriptor yX6_hash.desc).map (fun d => d.parameters.length) = some 0) := ⟨⟨mw27_22, mw27_23, mw28_0, mw2_23⟩, by decide +kernel⟩
/-! X2_slotOf -/
noncomputable def FX2_slotOf_22 (nf : Nat) (ln : LN) (i0 : Nat) (t0 : Int32) (fi : FI) (ar : AR) : Option (Int32 × FI × AR) :=
  some ((t0), fi, ar)
noncomputable def FX2_slotOf_12 (nf : Nat) (ln : LN) (i0 : Nat)  (fi : FI) (ar : AR) : Option (Int32 × FI × AR) :=
  FX2_slotOf_22 nf ln i0  (-1 : Int32) fi ar
noncomputable def FX2_slotOf (nf : Nat) (ln : LN) (i0 : Nat) (fi : FI) (ar : AR) (x1 : Int32) : Option (Int32 × FI × AR) :=
  br ((x1) < 0) (FX2_slotOf_12 nf ln i0  fi ar) (br ((x1) < (fi (20 + 10 * i0))) (gd (¬ ((x1) < 0 ∨ ln (11 + 4 * i0) ≤ (x1).toNatClampNeg)) (FX2_slotOf_22 nf ln i0  (ar (11 + 4 * i0) (x1).toNatClampNeg) fi ar)) (FX2_slotOf_12 nf ln i0  fi ar))
set_option maxHeartbeats 4000000 in
set_option maxRecDepth 100000 in
theorem kX2_slotOf (l : Launch) (g : GT) (ad rd : Nat → Nat) (sz : Nat) (nf : Nat) (ln : LN) (i0 : Nat) (hi0 : i0 < 3) (fi : FI) (ar : AR) (p1 : Int32) (r : Int32) (fi' : FI) (ar' : AR) (hF : FX2_slotOf nf ln i0 fi ar p1 = some (r, fi', ar')) : Met l yX2_slotOf (wx yX2_slotOf cX2_slotOf 2 (some .int)) ({ frames := 0, cells := 0, slots := 0, locals := 0 } : Room) (va_Pc [.ref (ad (11 + 5 * i0)), .int p1] (PC g ad rd ln sz fi ar)) (QCi g ad rd ln sz r fi' ar') 0 0 (AC ad rd sz) := by
  refine Met.ofW (cc := cX2_slotOf) (maxL := 2) (ret := (some .int)) (by decide) rfl ?_
  intro p e s m args below meth c s₁ B hml hv
  obtain ⟨rfl, hsz, hP, hK, hD0, hE⟩ := hv
  have hx := B.exec
  have hb := B.bytes
  have hr := B.returns
  have hts := atoms_spec (ws := (wx yX2_slotOf cX2_slotOf 2 (some .int))) B.pre
  have hT : ∀ w ∈ TB, w.before _ s = true := fun w h => hts w (List.mem_cons_of_mem _ h)
  have hown : s.vm.findClass RX2 = some m.cls := findClass_of_methodNamed B.named
  have hlocks := B.notSynchronized
  subst hsz
  have hD := dC hD0 s.heap.size
  have hA : ∀ q : Nat, s.heap.size ≤ q → AC ad rd s.heap.size q := fun q h => Or.inr h
  have hS : va_S (AC ad rd s.heap.size) s.heap s.heap [] := va_S.rf
  have hl := lv_entry ([.ref (ad (11 + 5 * i0)), .int p1]) (n := 2) (Nat.le_of_ble_eq_true rfl)
  rw [lg_entry_eq]
  generalize (lg_sl ([.ref (ad (11 + 5 * i0)), .int p1]) ++ List.replicate (2 - (lg_sl ([.ref (ad (11 + 5 * i0)), .int p1])).length) Slot.unset).toArray = ls at hl ⊢
  have hl : lv_has ls 2 [(0, .ref (ad (11 + 5 * i0))), (1, .int p1)] := hl
  unfold FX2_slotOf at hF
  have J22 : ∀ (t0 : Int32) (fi : FI) (ar : AR) (H : Heap) (locs : List Loc) (ls : Array Slot), FX2_slotOf_22 nf ln i0 t0 fi ar = some (r, fi', ar') → lv_has ls 2 [(0, .ref (ad (11 + 5 * i0)))] → va_P (gD g) vwCl (WC g ad rd ln fi ar) H → va_S (AC ad rd s.heap.size) s.heap H locs → W p l e (headSpec (wx yX2_slotOf cX2_slotOf 2 (some .int)) ({ frames := 0, cells := 0, slots := 0, locals := 0 } : Room)).room s m ([.ref (ad (11 + 5 * i0)), .int p1] : List Value).toArray below meth c H locs 0 0 (MQ below (QCi g ad rd ln s.heap.size r fi' ar') ([.ref (ad (11 + 5 * i0)), .int p1] : List Value).toArray s 0 0 (AC ad rd s.heap.size)) (F0 m 22 ls [.int t0]) := by
    intro t0 fi ar H locs ls hF hl hP hS
    unfold FX2_slotOf_22 at hF
    exact rC_i hx hb hr hlocks hF hP hS dX2_slotOf_22
  have J12 : ∀  (fi : FI) (ar : AR) (H : Heap) (locs : List Loc) (ls : Array Slot), FX2_slotOf_12 nf ln i0 fi ar = some (r, fi', ar') → lv_has ls 2 [(0, .ref (ad (11 + 5 * i0)))] → va_P (gD g) vwCl (WC g ad rd ln fi ar) H → va_S (AC ad rd s.heap.size) s.heap H locs → W p l e (headSpec (wx yX2_slotOf cX2_slotOf 2 (some .int)) ({ frames := 0, cells := 0, slots := 0, locals := 0 } : Room)).room s m ([.ref (ad (11 + 5 * i0)), .int p1] : List Value).toArray below meth c H locs 0 0 (MQ below (QCi g ad rd ln s.heap.size r fi' ar') ([.ref (ad (11 + 5 * i0)), .int p1] : List Value).toArray s 0 0 (AC ad rd s.heap.size)) (F0 m 12 ls []) := by
    intro fi ar H locs ls hF hl hP hS
    unfold FX2_slotOf_12 at hF
    refine lv_iconst (v := (-1 : Int32)) hx hb dX2_slotOf_12 (by decide) ?_
    refine lv_goto (tgt := 22) hx hb dX2_slotOf_13 (by decide) ?_
    exact J22 (-1 : Int32) _ _ _ _ _ hF (lv_sub hl [0] rfl) hP hS
  replace hl := lv_sub hl [0, 1] rfl
  refine lv_iload_n hx hb dX2_slotOf_0 rfl (lv_at hl 1 rfl) ?_
  refine lv_if_lt (tgt := 12) hx hb dX2_slotOf_1 (by decide) (fun hc1 => ?_) (fun hc1 => ?_)
  · replace hF := br_yes hF hc1
    exact J12  _ _ _ _ _ hF (lv_sub hl [0] rfl) hP hS
  · replace hF := br_no hF hc1
    refine lv_iload_n hx hb dX2_slotOf_4 rfl (lv_at hl 1 rfl) ?_
    refine lv_aload_n hx hb dX2_slotOf_5 rfl (lv_at hl 0 rfl) ?_
    refine cg_X2_count hi0 hx hb hT hown hK hP mw23_16 dX2_slotOf_6 ?_
    refine lv_icmp_lt (tgt := 16) hx hb dX2_slotOf_9 (by decide) (fun hc2 => ?_) (fun hc2 => ?_)
    · replace hF := br_yes hF hc2
      refine lv_aload_n hx hb dX2_slotOf_16 rfl (lv_at hl 0 rfl) ?_
      refine cg_X2_entrySlots hi0 hx hb hT hown hK hP mw5_11 dX2_slotOf_17 ?_
      refine lv_iload_n hx hb dX2_slotOf_20 rfl (lv_at hl 1 rfl) ?_
      replace hF := gd_of hF
      obtain ⟨hi3, hF⟩ := hF
      refine cl_entrySlots hi0 hx hb hK hP hi3 dX2_slotOf_21 ?_
      exact J22 (ar (11 + 4 * i0) (p1).toNatClampNeg) _ _ _ _ _ hF (lv_sub hl [0] rfl) hP hS
    · replace hF := br_no hF hc2
      exact J12  _ _ _ _ _ hF (lv_sub hl [0] rfl) hP hS
theorem cw_X2_slotOf : (Cond.instanceMethod yX2_slotOf ∈ TB ∧ Cond.selects RX2 yX2_slotOf yX2_slotOf ∈ TB ∧ Cond.code yX2_slotOf cX2_slotOf 2 (some .int) ∈ TB ∧ Cond.initialized RX2 ∈ TB) ∧ (yX2_slotOf.cls = RX2 ∧ yX2_slotOf.cls ≠ "java/lang/invoke/MethodHandle" ∧ yX2_slotOf.cls ≠ "java/lang/invoke/VarHandle" ∧ (parseMethodDescriptor yX2_slotOf.desc).map (fun d => d.parameters.length) = some 1) := ⟨⟨mw28_10, mw28_11, mw28_12, mw2_18⟩, by decide +kernel⟩
/-! X3_sameShortName -/
noncomputable def FX3_sameShortName_60 (nf : Nat) (ln : LN) (t0 : Int32) (fi : FI) (ar : AR) : Option (Int32 × FI × AR) :=
  gd ((t0) &&& 1 = (t0)) (some ((t0), fi, ar))
noncomputable def FX3_sameShortName_59 (nf : Nat) (ln : LN)  (fi : FI) (ar : AR) : Option (Int32 × FI × AR) :=
  FX3_sameShortName_60 nf ln  (0 : Int32) fi ar
noncomputable def FX3_sameShortName (nf : Nat) (ln : LN) (fi : FI) (ar : AR) (x1 : Int32) (x2 : Int32) : Option (Int32 × FI × AR) :=
  obnd3 (FX3_four nf ln fi ar (x1)) fun r5 fi3 ar4 => obnd3 (FX3_four nf ln fi3 ar4 (x2)) fun r9 fi7 ar8 => br ((r5) = (r9)) (obnd3 (FX3_four nf ln fi7 ar8 ((x1) + (4 : Int32))) fun r14 fi12 ar13 => obnd3 (FX3_four nf ln fi12 ar13 ((x2) + (4 : Int32))) fun r18 fi16 ar17 => br ((r14) = (r18)) (obnd3 (FX3_four nf ln fi16 ar17 ((x1) + (8 : Int32))) fun r23 fi21 ar22 => obnd3 (FX3_four nf ln fi21 ar22 ((x2) + (8 : Int32))) fun r27 fi25 ar26 => br (((r23) &&& (16777215 : Int32)) = ((r27) &&& (16777215 : Int32))) (FX3_sameShortName_60 nf ln  (1 : Int32) fi25 ar26) (FX3_sameShortName_59 nf ln  fi25 ar26)) (FX3_sameShortName_59 nf ln  fi16 ar17)) (FX3_sameShortName_59 nf ln  fi7 ar8)
set_option maxHeartbeats 4000000 in
set_option maxRecDepth 100000 in
theorem kX3_sameShortName (l : Launch) (g : GT) (ad rd : Nat → Nat) (sz : Nat) (nf : Nat) (ln : LN) (fi : FI) (ar : AR) (p1 : Int32) (p2 : Int32) (r : Int32) (fi' : FI) (ar' : AR) (hF : FX3_sameShortName nf ln fi ar p1 p2 = some (r, fi', ar')) : Met l yX3_sameShortName (wx yX3_sameShortName cX3_sameShortName 3 (some .boolean)) ({ frames := 1, cells := 0, slots := 0, locals := 22 } : Room) (va_Pc [.ref (ad (1)), .int p1, .int p2] (PC g ad rd ln sz fi ar)) (QCi g ad rd ln sz r fi' ar') 0 0 (AC ad rd sz) := by
  refine Met.ofW (cc := cX3_sameShortName) (maxL := 3) (ret := (some .boolean)) (by decide) rfl ?_
  intro p e s m args below meth c s₁ B hml hv
  obtain ⟨rfl, hsz, hP, hK, hD0, hE⟩ := hv
  have hx := B.exec
  have hb := B.bytes
  have hr := B.returns
  have hts := atoms_spec (ws := (wx yX3_sameShortName cX3_sameShortName 3 (some .boolean))) B.pre
  have hT : ∀ w ∈ TB, w.before _ s = true := fun w h => hts w (List.mem_cons_of_mem _ h)
  have hown : s.vm.findClass RX3 = some m.cls := findClass_of_methodNamed B.named
  have hlocks := B.notSynchronized
  subst hsz
  have hD := dC hD0 s.heap.size
  have hA : ∀ q : Nat, s.heap.size ≤ q → AC ad rd s.heap.size q := fun q h => Or.inr h
  have hS : va_S (AC ad rd s.heap.size) s.heap s.heap [] := va_S.rf
  have hl := lv_entry ([.ref (ad (1)), .int p1, .int p2]) (n := 3) (Nat.le_of_ble_eq_true rfl)
  rw [lg_entry_eq]
  generalize (lg_sl ([.ref (ad (1)), .int p1, .int p2]) ++ List.replicate (3 - (lg_sl ([.ref (ad (1)), .int p1, .int p2])).length) Slot.unset).toArray = ls at hl ⊢
  have hl : lv_has ls 3 [(0, .ref (ad (1))), (1, .int p1), (2, .int p2)] := hl
  unfold FX3_sameShortName at hF
  have J60 : ∀ (t0 : Int32) (fi : FI) (ar : AR) (H : Heap) (locs : List Loc) (ls : Array Slot), FX3_sameShortName_60 nf ln t0 fi ar = some (r, fi', ar') → lv_has ls 3 [(0, .ref (ad (1)))] → va_P (gD g) vwCl (WC g ad rd ln fi ar) H → va_S (AC ad rd s.heap.size) s.heap H locs → W p l e (headSpec (wx yX3_sameShortName cX3_sameShortName 3 (some .boolean)) ({ frames := 1, cells := 0, slots := 0, locals := 22 } : Room)).room s m ([.ref (ad (1)), .int p1, .int p2] : List Value).toArray below meth c H locs 0 0 (MQ below (QCi g ad rd ln s.heap.size r fi' ar') ([.ref (ad (1)), .int p1, .int p2] : List Value).toArray s 0 0 (AC ad rd s.heap.size)) (F0 m 60 ls [.int t0]) := by
    intro t0 fi ar H locs ls hF hl hP hS
    unfold FX3_sameShortName_60 at hF
    replace hF := gd_of hF
    obtain ⟨hz1, hF⟩ := hF
    exact rC_z hx hb hr hlocks (nar_z hz1) hF hP hS dX3_sameShortName_60
  have J59 : ∀  (fi : FI) (ar : AR) (H : Heap) (locs : List Loc) (ls : Array Slot), FX3_sameShortName_59 nf ln fi ar = some (r, fi', ar') → lv_has ls 3 [(0, .ref (ad (1)))] → va_P (gD g) vwCl (WC g ad rd ln fi ar) H → va_S (AC ad rd s.heap.size) s.heap H locs → W p l e (headSpec (wx yX3_sameShortName cX3_sameShortName 3 (some .boolean)) ({ frames := 1, cells := 0, slots := 0, locals := 22 } : Room)).room s m ([.ref (ad (1)), .int p1, .int p2] : List Value).toArray below meth c H locs 0 0 (MQ below (QCi g ad rd ln s.heap.size r fi' ar') ([.ref (ad (1)), .int p1, .int p2] : List Value).toArray s 0 0 (AC ad rd s.heap.size)) (F0 m 59 ls []) := by
    intro fi ar H locs ls hF hl hP hS
    unfold FX3_sameShortName_59 at hF
    refine lv_iconst (v := (0 : Int32)) hx hb dX3_sameShortName_59 (by decide) ?_
    exact J60 (0 : Int32) _ _ _ _ _ hF (lv_sub hl [0] rfl) hP hS
  replace hl := lv_sub hl [0, 1, 2] rfl
  refine lv_aload_n hx hb dX3_sameShortName_0 rfl (lv_at hl 0 rfl) ?_
  refine lv_iload_n hx hb dX3_sameShortName_1 rfl (lv_at hl 1 rfl) ?_
  replace hF := obnd3_of hF
  obtain ⟨r5, fi3, ar4, h2, hF⟩ := hF
  refine cC_i (As := [.int (p1)]) (rest := []) hx hb hml hT hown hK hE hD hA hP hS (rcv_X3 hK hP) (kX3_four l g ad rd _ nf ln fi ar (p1) r5 fi3 ar4 h2) cw_X3_four mw28_18 ⟨⟨rfl, rfl⟩, Nat.le_of_ble_eq_true rfl, Nat.le_of_ble_eq_true rfl⟩ rfl hl.1 rfl (Nat.le_of_ble_eq_true rfl) dX3_sameShortName_2 ⟨Nat.zero_le _, Nat.zero_le _⟩ (fun H locs hP hS => ?_)
  refine lv_aload_n hx hb dX3_sameShortName_5 rfl (lv_at hl 0 rfl) ?_
  refine lv_iload_n hx hb dX3_sameShortName_6 rfl (lv_at hl 2 rfl) ?_
  replace hF := obnd3_of hF
  obtain ⟨r9, fi7, ar8, h6, hF⟩ := hF
  refine cC_i (As := [.int (p2)]) (rest := [.int (r5)]) hx hb hml hT hown hK hE hD hA hP hS (rcv_X3 hK hP) (kX3_four l g ad rd _ nf ln fi3 ar4 (p2) r9 fi7 ar8 h6) cw_X3_four mw28_18 ⟨⟨rfl, rfl⟩, Nat.le_of_ble_eq_true rfl, Nat.le_of_ble_eq_true rfl⟩ rfl hl.1 rfl (Nat.le_of_ble_eq_true rfl) dX3_sameShortName_7 ⟨Nat.zero_le _, Nat.zero_le _⟩ (fun H locs hP hS => ?_)
  refine lv_icmp_ne (tgt := 59) hx hb dX3_sameShortName_10 (by decide) (fun hc10 => ?_) (fun hc10 => ?_)
  · replace hF := br_no hF hc10
    exact J59  _ _ _ _ _ hF (lv_sub hl [0] rfl) hP hS
  · replace hF := br_yes hF hc10
    refine lv_aload_n hx hb dX3_sameShortName_13 rfl (lv_at hl 0 rfl) ?_
    refine lv_iload_n hx hb dX3_sameShortName_14 rfl (lv_at hl 1 rfl) ?_
    refine lv_iconst (v := (4 : Int32)) hx hb dX3_sameShortName_15 (by decide) ?_
    refine lv_iadd hx hb dX3_sameShortName_16 ?_
    replace hF := obnd3_of hF
    obtain ⟨r14, fi12, ar13, h11, hF⟩ := hF
    refine cC_i (As := [.int ((p1) + (4 : Int32))]) (rest := []) hx hb hml hT hown hK hE hD hA hP hS (rcv_X3 hK hP) (kX3_four l g ad rd _ nf ln fi7 ar8 ((p1) + (4 : Int32)) r14 fi12 ar13 h11) cw_X3_four mw28_18 ⟨⟨rfl, rfl⟩, Nat.le_of_ble_eq_true rfl, Nat.le_of_ble_eq_true rfl⟩ rfl hl.1 rfl (Nat.le_of_ble_eq_true rfl) dX3_sameShortName_17 ⟨Nat.zero_le _, Nat.zero_le _⟩ (fun H locs hP hS => ?_)
    refine lv_aload_n hx hb dX3_sameShortName_20 rfl (lv_at hl 0 rfl) ?_
    refine lv_iload_n hx hb dX3_sameShortName_21 rfl (lv_at hl 2 rfl) ?_
    refine lv_iconst (v := (4 : Int32)) hx hb dX3_sameShortName_22 (by decide) ?_
    refine lv_iadd hx hb dX3_sameShortName_23 ?_
    replace hF := obnd3_of hF
    obtain ⟨r18, fi16, ar17, h15, hF⟩ := hF
    refine cC_i (As := [.int ((p2) + (4 : Int32))]) (rest := [.int (r14)]) hx hb hml hT hown hK hE hD hA hP hS (rcv_X3 hK hP) (kX3_four l g ad rd _ nf ln fi12 ar13 ((p2) + (4 : Int32)) r18 fi16 ar17 h15) cw_X3_four mw28_18 ⟨⟨rfl, rfl⟩, Nat.le_of_ble_eq_true rfl, Nat.le_of_ble_eq_true rfl⟩ rfl hl.1 rfl (Nat.le_of_ble_eq_true rfl) dX3_sameShortName_24 ⟨Nat.zero_le _, Nat.zero_le _⟩ (fun H locs hP hS => ?_)
    refine lv_icmp_ne (tgt := 59) hx hb dX3_sameShortName_27 (by decide) (fun hc19 => ?_) (fun hc19 => ?_)
    · replace hF := br_no hF hc19
      exact J59  _ _ _ _ _ hF (lv_sub hl [0] rfl) hP hS
    · replace hF := br_yes hF hc19
      refine lv_aload_n hx hb dX3_sameShortName_30 rfl (lv_at hl 0 rfl) ?_
      refine lv_iload_n hx hb dX3_sameShortName_31 rfl (lv_at hl 1 rfl) ?_
      refine lv_bipush (v := (8 : Int32)) hx hb dX3_sameShortName_32 (by decide) ?_
      refine lv_iadd hx hb dX3_sameShortName_34 ?_
      replace hF := obnd3_of hF
      obtain ⟨r23, fi21, ar22, h20, hF⟩ := hF
      refine cC_i (As := [.int ((p1) + (8 : Int32))]) (rest := []) hx hb hml hT hown hK hE hD hA hP hS (rcv_X3 hK hP) (kX3_four l g ad rd _ nf ln fi16 ar17 ((p1) + (8 : Int32)) r23 fi21 ar22 h20) cw_X3_four mw28_18 ⟨⟨rfl, rfl⟩, Nat.le_of_ble_eq_true rfl, Nat.le_of_ble_eq_true rfl⟩ rfl hl.1 rfl (Nat.le_of_ble_eq_true rfl) dX3_sameShortName_35 ⟨Nat.zero_le _, Nat.zero_le _⟩ (fun H locs hP hS => ?_)
      refine lv_ldc (v := (16777215 : Int32)) hx hb hown (hT _ mw28_17) dX3_sameShortName_38 ?_
      refine lv_iand hx hb dX3_sameShortName_40 ?_
      refine lv_aload_n hx hb dX3_sameShortName_41 rfl (lv_at hl 0 rfl) ?_
      refine lv_iload_n hx hb dX3_sameShortName_42 rfl (lv_at hl 2 rfl) ?_
      refine lv_bipush (v := (8 : Int32)) hx hb dX3_sameShortName_43 (by decide) ?_
      refine lv_iadd hx hb dX3_sameShortName_45 ?_
      replace hF := obnd3_of hF
      obtain ⟨r27, fi25, ar26, h24, hF⟩ := hF
      refine cC_i (As := [.int ((p2) + (8 : Int32))]) (rest := [.int ((r23) &&& (16777215 : Int32))]) hx hb hml hT hown hK hE hD hA hP hS (rcv_X3 hK hP) (kX3_four l g ad rd _ nf ln fi21 ar22 ((p2) + (8 : Int32)) r27 fi25 ar26 h24) cw_X3_four mw28_18 ⟨⟨rfl, rfl⟩, Nat.le_of_ble_eq_true rfl, Nat.le_of_ble_eq_true rfl⟩ rfl hl.1 rfl (Nat.le_of_ble_eq_true rfl) dX3_sameShortName_46 ⟨Nat.zero_le _, Nat.zero_le _⟩ (fun H locs hP hS => ?_)
      refine lv_ldc (v := (16777215 : Int32)) hx hb hown (hT _ mw28_17) dX3_sameShortName_49 ?_
      refine lv_iand hx hb dX3_sameShortName_51 ?_
      refine lv_icmp_ne (tgt := 59) hx hb dX3_sameShortName_52 (by decide) (fun hc28 => ?_) (fun hc28 => ?_)
      · replace hF := br_no hF hc28
        exact J59  _ _ _ _ _ hF (lv_sub hl [0] rfl) hP hS
      · replace hF := br_yes hF hc28
        refine lv_iconst (v := (1 : Int32)) hx hb dX3_sameShortName_55 (by decide) ?_
        refine lv_goto (tgt := 60) hx hb dX3_sameShortName_56 (by decide) ?_
        exact J60 (1 : Int32) _ _ _ _ _ hF (lv_sub hl [0] rfl) hP hS
theorem cw_X3_sameShortName : (Cond.instanceMethod yX3_sameShortName ∈ TB ∧ Cond.selects RX3 yX3_sameShortName yX3_sameShortName ∈ TB ∧ Cond.code yX3_sameShortName cX3_sameShortName 3 (some .boolean) ∈ TB ∧ Cond.initialized RX3 ∈ TB) ∧ (yX3_sameShortName.cls = RX3 ∧ yX3_sameShortName.cls ≠ "java/lang/invoke/MethodHandle" ∧ yX3_sameShortName.cls ≠ "java/lang/invoke/VarHandle" ∧ (parseMethodDescriptor yX3_sameShortName.desc).map (fun d => d.parameters.length) = some 2) := ⟨⟨mw28_14, mw28_15, mw28_16, mw2_2⟩, by decide +kernel⟩
/-! X2_hashOf -/
noncomputable def FX2_hashOf_22 (nf : Nat) (ln : LN) (i0 : Nat) (t0 : Int32) (fi : FI) (ar : AR) : Option (Int32 × FI × AR) :=
  some ((t0), fi, ar)
noncomputable def FX2_hashOf_12 (nf : Nat) (ln : LN) (i0 : Nat)  (fi : FI) (ar : AR) : Option (Int32 × FI × AR) :=
  FX2_hashOf_22 nf ln i0  (0 : Int32) fi ar
noncomputable def FX2_hashOf (nf : Nat) (ln : LN) (i0 : Nat) (fi : FI) (ar : AR) (x1 : Int32) : Option (Int32 × FI × AR) :=
  br ((x1) < 0) (FX2_hashOf_12 nf ln i0  fi ar) (br ((x1) < (fi (20 + 10 * i0))) (gd (¬ ((x1) < 0 ∨ ln (13 + 4 * i0) ≤ (x1).toNatClampNeg)) (FX2_hashOf_22 nf ln i0  (ar (13 + 4 * i0) (x1).toNatClampNeg) fi ar)) (FX2_hashOf_12 nf ln i0  fi ar))
set_option maxHeartbeats 4000000 in
set_option maxRecDepth 100000 in
theorem kX2_hashOf (l : Launch) (g : GT) (ad rd : Nat → Nat) (sz : Nat) (nf : Nat) (ln : LN) (i0 : Nat) (hi0 : i0 < 3) (fi : FI) (ar : AR) (p1 : Int32) (r : Int32) (fi' : FI) (ar' : AR) (hF : FX2_hashOf nf ln i0 fi ar p1 = some (r, fi', ar')) : Met l yX2_hashOf (wx yX2_hashOf cX2_hashOf 2 (some .int)) ({ frames := 0, cells := 0, slots := 0, locals := 0 } : Room) (va_Pc [.ref (ad (11 + 5 * i0)), .int p1] (PC g ad rd ln sz fi ar)) (QCi g ad rd ln sz r fi' ar') 0 0 (AC ad rd sz) := by
  refine Met.ofW (cc := cX2_hashOf) (maxL := 2) (ret := (some .int)) (by decide) rfl ?_
  intro p e s m args below meth c s₁ B hml hv
  obtain ⟨rfl, hsz, hP, hK, hD0, hE⟩ := hv
  have hx := B.exec
  have hb := B.bytes
  have hr := B.returns
  have hts := atoms_spec (ws := (wx yX2_hashOf cX2_hashOf 2 (some .int))) B.pre
  have hT : ∀ w ∈ TB, w.before _ s = true := fun w h => hts w (List.mem_cons_of_mem _ h)
  have hown : s.vm.findClass RX2 = some m.cls := findClass_of_methodNamed B.named
  have hlocks := B.notSynchronized
  subst hsz
  have hD := dC hD0 s.heap.size
  have hA : ∀ q : Nat, s.heap.size ≤ q → AC ad rd s.heap.size q := fun q h => Or.inr h
  have hS : va_S (AC ad rd s.heap.size) s.heap s.heap [] := va_S.rf
  have hl := lv_entry ([.ref (ad (11 + 5 * i0)), .int p1]) (n := 2) (Nat.le_of_ble_eq_true rfl)
  rw [lg_entry_eq]
  generalize (lg_sl ([.ref (ad (11 + 5 * i0)), .int p1]) ++ List.replicate (2 - (lg_sl ([.ref (ad (11 + 5 * i0)), .int p1])).length) Slot.unset).toArray = ls at hl ⊢
  have hl : lv_has ls 2 [(0, .ref (ad (11 + 5 * i0))), (1, .int p1)] := hl
  unfold FX2_hashOf at hF
  have J22 : ∀ (t0 : Int32) (fi : FI) (ar : AR) (H : Heap) (locs : List Loc) (ls : Array Slot), FX2_hashOf_22 nf ln i0 t0 fi ar = some (r, fi', ar') → lv_has ls 2 [(0, .ref (ad (11 + 5 * i0)))] → va_P (gD g) vwCl (WC g ad rd ln fi ar) H → va_S (AC ad rd s.heap.size) s.heap H locs → W p l e (headSpec (wx yX2_hashOf cX2_hashOf 2 (some .int)) ({ frames := 0, cells := 0, slots := 0, locals := 0 } : Room)).room s m ([.ref (ad (11 + 5 * i0)), .int p1] : List Value).toArray below meth c H locs 0 0 (MQ below (QCi g ad rd ln s.heap.size r fi' ar') ([.ref (ad (11 + 5 * i0)), .int p1] : List Value).toArray s 0 0 (AC ad rd s.heap.size)) (F0 m 22 ls [.int t0]) := by
    intro t0 fi ar H locs ls hF hl hP hS
    unfold FX2_hashOf_22 at hF
    exact rC_i hx hb hr hlocks hF hP hS dX2_hashOf_22
  have J12 : ∀  (fi : FI) (ar : AR) (H : Heap) (locs : List Loc) (ls : Array Slot), FX2_hashOf_12 nf ln i0 fi ar = some (r, fi', ar') → lv_has ls 2 [(0, .ref (ad (11 + 5 * i0)))] → va_P (gD g) vwCl (WC g ad rd ln fi ar) H → va_S (AC ad rd s.heap.size) s.heap H locs → W p l e (headSpec (wx yX2_hashOf cX2_hashOf 2 (some .int)) ({ frames := 0, cells := 0, slots := 0, locals := 0 } : Room)).room s m ([.ref (ad (11 + 5 * i0)), .int p1] : List Value).toArray below meth c H locs 0 0 (MQ below (QCi g ad rd ln s.heap.size r fi' ar') ([.ref (ad (11 + 5 * i0)), .int p1] : List Value).toArray s 0 0 (AC ad rd s.heap.size)) (F0 m 12 ls []) := by
    intro fi ar H locs ls hF hl hP hS
    unfold FX2_hashOf_12 at hF
    refine lv_iconst (v := (0 : Int32)) hx hb dX2_hashOf_12 (by decide) ?_
    refine lv_goto (tgt := 22) hx hb dX2_hashOf_13 (by decide) ?_
    exact J22 (0 : Int32) _ _ _ _ _ hF (lv_sub hl [0] rfl) hP hS
  replace hl := lv_sub hl [0, 1] rfl
  refine lv_iload_n hx hb dX2_hashOf_0 rfl (lv_at hl 1 rfl) ?_
  refine lv_if_lt (tgt := 12) hx hb dX2_hashOf_1 (by decide) (fun hc1 => ?_) (fun hc1 => ?_)
  · replace hF := br_yes hF hc1
    exact J12  _ _ _ _ _ hF (lv_sub hl [0] rfl) hP hS
  · replace hF := br_no hF hc1
    refine lv_iload_n hx hb dX2_hashOf_4 rfl (lv_at hl 1 rfl) ?_
    refine lv_aload_n hx hb dX2_hashOf_5 rfl (lv_at hl 0 rfl) ?_
    refine cg_X2_count hi0 hx hb hT hown hK hP mw23_16 dX2_hashOf_6 ?_
    refine lv_icmp_lt (tgt := 16) hx hb dX2_hashOf_9 (by decide) (fun hc2 => ?_) (fun hc2 => ?_)
    · replace hF := br_yes hF hc2
      refine lv_aload_n hx hb dX2_hashOf_16 rfl (lv_at hl 0 rfl) ?_
      refine cg_X2_hashes hi0 hx hb hT hown hK hP mw5_13 dX2_hashOf_17 ?_
      refine lv_iload_n hx hb dX2_hashOf_20 rfl (lv_at hl 1 rfl) ?_
      replace hF := gd_of hF
      obtain ⟨hi3, hF⟩ := hF
      refine cl_hashes hi0 hx hb hK hP hi3 dX2_hashOf_21 ?_
      exact J22 (ar (13 + 4 * i0) (p1).toNatClampNeg) _ _ _ _ _ hF (lv_sub hl [0] rfl) hP hS
    · replace hF := br_no hF hc2
      exact J12  _ _ _ _ _ hF (lv_sub hl [0] rfl) hP hS
theorem cw_X2_hashOf : (Cond.instanceMethod yX2_hashOf ∈ TB ∧ Cond.selects RX2 yX2_hashOf yX2_hashOf ∈ TB ∧ Cond.code yX2_hashOf cX2_hashOf 2 (some .int) ∈ TB ∧ Cond.initialized RX2 ∈ TB) ∧ (yX2_hashOf.cls = RX2 ∧ yX2_hashOf.cls ≠ "java/lang/invoke/MethodHandle" ∧ yX2_hashOf.cls ≠ "java/lang/invoke/VarHandle" ∧ (parseMethodDescriptor yX2_hashOf.desc).map (fun d => d.parameters.length) = some 1) := ⟨⟨mw28_20, mw28_21, mw28_22, mw2_18⟩, by decide +kernel⟩
/-! X2_partsOf -/
noncomputable def FX2_partsOf_22 (nf : Nat) (ln : LN) (i0 : Nat) (t0 : Int32) (fi : FI) (ar : AR) : Option (Int32 × FI × AR) :=
  some ((t0), fi, ar)
noncomputable def FX2_partsOf_12 (nf : Nat) (ln : LN) (i0 : Nat)  (fi : FI) (ar : AR) : Option (Int32 × FI × AR) :=
  FX2_partsOf_22 nf ln i0  (0 : Int32) fi ar
noncomputable def FX2_partsOf (nf : Nat) (ln : LN) (i0 : Nat) (fi : FI) (ar : AR) (x1 : Int32) : Option (Int32 × FI × AR) :=
  br ((x1) < 0) (FX2_partsOf_12 nf ln i0  fi ar) (br ((x1) < (fi (20 + 10 * i0))) (gd (¬ ((x1) < 0 ∨ ln (12 + 4 * i0) ≤ (x1).toNatClampNeg)) (FX2_partsOf_22 nf ln i0  (ar (12 + 4 * i0) (x1).toNatClampNeg) fi ar)) (FX2_partsOf_12 nf ln i0  fi ar))
set_option maxHeartbeats 4000000 in
set_option maxRecDepth 100000 in
theorem kX2_partsOf (l : Launch) (g : GT) (ad rd : Nat → Nat) (sz : Nat) (nf : Nat) (ln : LN) (i0 : Nat) (hi0 : i0 < 3) (fi : FI) (ar : AR) (p1 : Int32) (r : Int32) (fi' : FI) (ar' : AR) (hF : FX2_partsOf nf ln i0 fi ar p1 = some (r, fi', ar')) : Met l yX2_partsOf (wx yX2_partsOf cX2_partsOf 2 (some .int)) ({ frames := 0, cells := 0, slots := 0, locals := 0 } : Room) (va_Pc [.ref (ad (11 + 5 * i0)), .int p1] (PC g ad rd ln sz fi ar)) (QCi g ad rd ln sz r fi' ar') 0 0 (AC ad rd sz) := by
  refine Met.ofW (cc := cX2_partsOf) (maxL := 2) (ret := (some .int)) (by decide) rfl ?_
  intro p e s m args below meth c s₁ B hml hv
  obtain ⟨rfl, hsz, hP, hK, hD0, hE⟩ := hv
  have hx := B.exec
  have hb := B.bytes
  have hr := B.returns
  have hts := atoms_spec (ws := (wx yX2_partsOf cX2_partsOf 2 (some .int))) B.pre
  have hT : ∀ w ∈ TB, w.before _ s = true := fun w h => hts w (List.mem_cons_of_mem _ h)
  have hown : s.vm.findClass RX2 = some m.cls := findClass_of_methodNamed B.named
  have hlocks := B.notSynchronized
  subst hsz
  have hD := dC hD0 s.heap.size
  have hA : ∀ q : Nat, s.heap.size ≤ q → AC ad rd s.heap.size q := fun q h => Or.inr h
  have hS : va_S (AC ad rd s.heap.size) s.heap s.heap [] := va_S.rf
  have hl := lv_entry ([.ref (ad (11 + 5 * i0)), .int p1]) (n := 2) (Nat.le_of_ble_eq_true rfl)
  rw [lg_entry_eq]
  generalize (lg_sl ([.ref (ad (11 + 5 * i0)), .int p1]) ++ List.replicate (2 - (lg_sl ([.ref (ad (11 + 5 * i0)), .int p1])).length) Slot.unset).toArray = ls at hl ⊢
  have hl : lv_has ls 2 [(0, .ref (ad (11 + 5 * i0))), (1, .int p1)] := hl
  unfold FX2_partsOf at hF
  have J22 : ∀ (t0 : Int32) (fi : FI) (ar : AR) (H : Heap) (locs : List Loc) (ls : Array Slot), FX2_partsOf_22 nf ln i0 t0 fi ar = some (r, fi', ar') → lv_has ls 2 [(0, .ref (ad (11 + 5 * i0)))] → va_P (gD g) vwCl (WC g ad rd ln fi ar) H → va_S (AC ad rd s.heap.size) s.heap H locs → W p l e (headSpec (wx yX2_partsOf cX2_partsOf 2 (some .int)) ({ frames := 0, cells := 0, slots := 0, locals := 0 } : Room)).room s m ([.ref (ad (11 + 5 * i0)), .int p1] : List Value).toArray below meth c H locs 0 0 (MQ below (QCi g ad rd ln s.heap.size r fi' ar') ([.ref (ad (11 + 5 * i0)), .int p1] : List Value).toArray s 0 0 (AC ad rd s.heap.size)) (F0 m 22 ls [.int t0]) := by
    intro t0 fi ar H locs ls hF hl hP hS
    unfold FX2_partsOf_22 at hF
    exact rC_i hx hb hr hlocks hF hP hS dX2_partsOf_22
  have J12 : ∀  (fi : FI) (ar : AR) (H : Heap) (locs : List Loc) (ls : Array Slot), FX2_partsOf_12 nf ln i0 fi ar = some (r, fi', ar') → lv_has ls 2 [(0, .ref (ad (11 + 5 * i0)))] → va_P (gD g) vwCl (WC g ad rd ln fi ar) H → va_S (AC ad rd s.heap.size) s.heap H locs → W p l e (headSpec (wx yX2_partsOf cX2_partsOf 2 (some .int)) ({ frames := 0, cells := 0, slots := 0, locals := 0 } : Room)).room s m ([.ref (ad (11 + 5 * i0)), .int p1] : List Value).toArray below meth c H locs 0 0 (MQ below (QCi g ad rd ln s.heap.size r fi' ar') ([.ref (ad (11 + 5 * i0)), .int p1] : List Value).toArray s 0 0 (AC ad rd s.heap.size)) (F0 m 12 ls []) := by
    intro fi ar H locs ls hF hl hP hS
    unfold FX2_partsOf_12 at hF
    refine lv_iconst (v := (0 : Int32)) hx hb dX2_partsOf_12 (by decide) ?_
    refine lv_goto (tgt := 22) hx hb dX2_partsOf_13 (by decide) ?_
    exact J22 (0 : Int32) _ _ _ _ _ hF (lv_sub hl [0] rfl) hP hS
  replace hl := lv_sub hl [0, 1] rfl
  refine lv_iload_n hx hb dX2_partsOf_0 rfl (lv_at hl 1 rfl) ?_
  refine lv_if_lt (tgt := 12) hx hb dX2_partsOf_1 (by decide) (fun hc1 => ?_) (fun hc1 => ?_)
  · replace hF := br_yes hF hc1
    exact J12  _ _ _ _ _ hF (lv_sub hl [0] rfl) hP hS
  · replace hF := br_no hF hc1
    refine lv_iload_n hx hb dX2_partsOf_4 rfl (lv_at hl 1 rfl) ?_
    refine lv_aload_n hx hb dX2_partsOf_5 rfl (lv_at hl 0 rfl) ?_
    refine cg_X2_count hi0 hx hb hT hown hK hP mw23_16 dX2_partsOf_6 ?_
    refine lv_icmp_lt (tgt := 16) hx hb dX2_partsOf_9 (by decide) (fun hc2 => ?_) (fun hc2 => ?_)
    · replace hF := br_yes hF hc2
      refine lv_aload_n hx hb dX2_partsOf_16 rfl (lv_at hl 0 rfl) ?_
      refine cg_X2_partCounts hi0 hx hb hT hown hK hP mw5_12 dX2_partsOf_17 ?_
      refine lv_iload_n hx hb dX2_partsOf_20 rfl (lv_at hl 1 rfl) ?_
      replace hF := gd_of hF
      obtain ⟨hi3, hF⟩ := hF
      refine cl_partCounts hi0 hx hb hK hP hi3 dX2_partsOf_21 ?_
      exact J22 (ar (12 + 4 * i0) (p1).toNatClampNeg) _ _ _ _ _ hF (lv_sub hl [0] rfl) hP hS
    · replace hF := br_no hF hc2
      exact J12  _ _ _ _ _ hF (lv_sub hl [0] rfl) hP hS
theorem cw_X2_partsOf : (Cond.instanceMethod yX2_partsOf ∈ TB ∧ Cond.selects RX2 yX2_partsOf yX2_partsOf ∈ TB ∧ Cond.code yX2_partsOf cX2_partsOf 2 (some .int) ∈ TB ∧ Cond.initialized RX2 ∈ TB) ∧ (yX2_partsOf.cls = RX2 ∧ yX2_partsOf.cls ≠ "java/lang/invoke/MethodHandle" ∧ yX2_partsOf.cls ≠ "java/lang/invoke/VarHandle" ∧ (parseMethodDescriptor yX2_partsOf.desc).map (fun d => d.parameters.length) = some 1) := ⟨⟨mw29_0, mw29_1, mw29_2, mw2_18⟩, by decide +kernel⟩
/-! X6_unit -/
noncomputable def FX6_unit_23 (nf : Nat) (ln : LN) (i0 : Nat) (t0 : Int32) (fi : FI) (ar : AR) : Option (Int32 × FI × AR) :=
  some ((t0), fi, ar)
noncomputable def FX6_unit_13 (nf : Nat) (ln : LN) (i0 : Nat)  (fi : FI) (ar : AR) : Option (Int32 × FI × AR) :=
  FX6_unit_23 nf ln i0  (0 : Int32) fi ar
noncomputable def FX6_unit (nf : Nat) (ln : LN) (i0 : Nat) (fi : FI) (ar : AR) (x1 : Int32) : Option (Int32 × FI × AR) :=
  br ((x1) < 0) (FX6_unit_13 nf ln i0  fi ar) (br ((x1) < (Int32.ofNat (ln (30 + i0)))) (gd (¬ ((x1) < 0 ∨ ln (30 + i0) ≤ (x1).toNatClampNeg)) (FX6_unit_23 nf ln i0  (ar (30 + i0) (x1).toNatClampNeg) fi ar)) (FX6_unit_13 nf ln i0  fi ar))
set_option maxHeartbeats 4000000 in
set_option maxRecDepth 100000 in
theorem kX6_unit (l : Launch) (g : GT) (ad rd : Nat → Nat) (sz : Nat) (nf : Nat) (ln : LN) (i0 : Nat) (hi0 : i0 < 4) (fi : FI) (ar : AR) (p1 : Int32) (r : Int32) (fi' : FI) (ar' : AR) (hF : FX6_unit nf ln i0 fi ar p1 = some (r, fi', ar')) : Met l yX6_unit (wx yX6_unit cX6_unit 2 (some .int)) ({ frames := 0, cells := 0, slots := 0, locals := 0 } : Room) (va_Pc [.ref (ad (26 + 2 * i0)), .int p1] (PC g ad rd ln sz fi ar)) (QCi g ad rd ln sz r fi' ar') 0 0 (AC ad rd sz) := by
  refine Met.ofW (cc := cX6_unit) (maxL := 2) (ret := (some .int)) (by decide) rfl ?_
  intro p e s m args below meth c s₁ B hml hv
  obtain ⟨rfl, hsz, hP, hK, hD0, hE⟩ := hv
  have hx := B.exec
  have hb := B.bytes
  have hr := B.returns
  have hts := atoms_spec (ws := (wx yX6_unit cX6_unit 2 (some .int))) B.pre
  have hT : ∀ w ∈ TB, w.before _ s = true := fun w h => hts w (List.mem_cons_of_mem _ h)
  have hown : s.vm.findClass RX6 = some m.cls := findClass_of_methodNamed B.named
  have hlocks := B.notSynchronized
  subst hsz
  have hD := dC hD0 s.heap.size
  have hA : ∀ q : Nat, s.heap.size ≤ q → AC ad rd s.heap.size q := fun q h => Or.inr h
  have hS : va_S (AC ad rd s.heap.size) s.heap s.heap [] := va_S.rf
  have hl := lv_entry ([.ref (ad (26 + 2 * i0)), .int p1]) (n := 2) (Nat.le_of_ble_eq_true rfl)
  rw [lg_entry_eq]
  generalize (lg_sl ([.ref (ad (26 + 2 * i0)), .int p1]) ++ List.replicate (2 - (lg_sl ([.ref (ad (26 + 2 * i0)), .int p1])).length) Slot.unset).toArray = ls at hl ⊢
  have hl : lv_has ls 2 [(0, .ref (ad (26 + 2 * i0))), (1, .int p1)] := hl
  unfold FX6_unit at hF
  have J23 : ∀ (t0 : Int32) (fi : FI) (ar : AR) (H : Heap) (locs : List Loc) (ls : Array Slot), FX6_unit_23 nf ln i0 t0 fi ar = some (r, fi', ar') → lv_has ls 2 [(0, .ref (ad (26 + 2 * i0)))] → va_P (gD g) vwCl (WC g ad rd ln fi ar) H → va_S (AC ad rd s.heap.size) s.heap H locs → W p l e (headSpec (wx yX6_unit cX6_unit 2 (some .int)) ({ frames := 0, cells := 0, slots := 0, locals := 0 } : Room)).room s m ([.ref (ad (26 + 2 * i0)), .int p1] : List Value).toArray below meth c H locs 0 0 (MQ below (QCi g ad rd ln s.heap.size r fi' ar') ([.ref (ad (26 + 2 * i0)), .int p1] : List Value).toArray s 0 0 (AC ad rd s.heap.size)) (F0 m 23 ls [.int t0]) := by
    intro t0 fi ar H locs ls hF hl hP hS
    unfold FX6_unit_23 at hF
    exact rC_i hx hb hr hlocks hF hP hS dX6_unit_23
  have J13 : ∀  (fi : FI) (ar : AR) (H : Heap) (locs : List Loc) (ls : Array Slot), FX6_unit_13 nf ln i0 fi ar = some (r, fi', ar') → lv_has ls 2 [(0, .ref (ad (26 + 2 * i0)))] → va_P (gD g) vwCl (WC g ad rd ln fi ar) H → va_S (AC ad rd s.heap.size) s.heap H locs → W p l e (headSpec (wx yX6_unit cX6_unit 2 (some .int)) ({ frames := 0, cells := 0, slots := 0, locals := 0 } : Room)).room s m ([.ref (ad (26 + 2 * i0)), .int p1] : List Value).toArray below meth c H locs 0 0 (MQ below (QCi g ad rd ln s.heap.size r fi' ar') ([.ref (ad (26 + 2 * i0)), .int p1] : List Value).toArray s 0 0 (AC ad rd s.heap.size)) (F0 m 13 ls []) := by
    intro fi ar H locs ls hF hl hP hS
    unfold FX6_unit_13 at hF
    refine lv_iconst (v := (0 : Int32)) hx hb dX6_unit_13 (by decide) ?_
    refine lv_goto (tgt := 23) hx hb dX6_unit_14 (by decide) ?_
    exact J23 (0 : Int32) _ _ _ _ _ hF (lv_sub hl [0] rfl) hP hS
  replace hl := lv_sub hl [0, 1] rfl
  refine lv_iload_n hx hb dX6_unit_0 rfl (lv_at hl 1 rfl) ?_
  refine lv_if_lt (tgt := 13) hx hb dX6_unit_1 (by decide) (fun hc1 => ?_) (fun hc1 => ?_)
  · replace hF := br_yes hF hc1
    exact J13  _ _ _ _ _ hF (lv_sub hl [0] rfl) hP hS
  · replace hF := br_no hF hc1
    refine lv_iload_n hx hb dX6_unit_4 rfl (lv_at hl 1 rfl) ?_
    refine lv_aload_n hx hb dX6_unit_5 rfl (lv_at hl 0 rfl) ?_
    refine cg_X6_units hi0 hx hb hT hown hK hP mw5_1 dX6_unit_6 ?_
    refine ca_units hi0 hx hb hK hP dX6_unit_9 ?_
    refine lv_icmp_lt (tgt := 17) hx hb dX6_unit_10 (by decide) (fun hc2 => ?_) (fun hc2 => ?_)
    · replace hF := br_yes hF hc2
      refine lv_aload_n hx hb dX6_unit_17 rfl (lv_at hl 0 rfl) ?_
      refine cg_X6_units hi0 hx hb hT hown hK hP mw5_1 dX6_unit_18 ?_
      refine lv_iload_n hx hb dX6_unit_21 rfl (lv_at hl 1 rfl) ?_
      replace hF := gd_of hF
      obtain ⟨hi3, hF⟩ := hF
      refine cl_units hi0 hx hb hK hP hi3 dX6_unit_22 ?_
      exact J23 (ar (30 + i0) (p1).toNatClampNeg) _ _ _ _ _ hF (lv_sub hl [0] rfl) hP hS
    · replace hF := br_no hF hc2
      exact J13  _ _ _ _ _ hF (lv_sub hl [0] rfl) hP hS
theorem cw_X6_unit : (Cond.instanceMethod yX6_unit ∈ TB ∧ Cond.selects RX6 yX6_unit yX6_unit ∈ TB ∧ Cond.code yX6_unit cX6_unit 2 (some .int) ∈ TB ∧ Cond.initialized RX6 ∈ TB) ∧ (yX6_unit.cls = RX6 ∧ yX6_unit.cls ≠ "java/lang/invoke/MethodHandle" ∧ yX6_unit.cls ≠ "java/lang/invoke/VarHandle" ∧ (parseMethodDescriptor yX6_unit.desc).map (fun d => d.parameters.length) = some 1) := ⟨⟨mw29_8, mw29_9, mw29_10, mw2_23⟩, by decide +kernel⟩
