/-! X9_freeClusters -/
noncomputable def FX9_freeClusters_25 (K4 : Int32 → Int32 → FI → AR → Option (Int32 × FI × AR)) (nf : Nat) (ln : LN) (x1 : Int32) (x2 : Int32) (fi : FI) (ar : AR) : Option (Int32 × FI × AR) :=
  bnd ((x2) + (1 : Int32)) fun x2_1 => K4 (x1) (x2_1) fi ar
noncomputable def FX9_freeClusters_4b (K4 : Int32 → Int32 → FI → AR → Option (Int32 × FI × AR)) (nf : Nat) (ln : LN) (x1 : Int32) (x2 : Int32) (fi : FI) (ar : AR) : Option (Int32 × FI × AR) :=
  br (((fi (5)) + (1 : Int32)) < (x2)) (some ((x1), fi, ar)) (obnd3 (FX9_next nf ln fi ar (x2)) fun r6 fi4 ar5 => br ((r6) = 0) (bnd ((x1) + (1 : Int32)) fun x1_8 => FX9_freeClusters_25 K4 nf ln  (x1_8) (x2) fi4 ar5) (FX9_freeClusters_25 K4 nf ln  (x1) (x2) fi4 ar5))
noncomputable def FX9_freeClusters_4 (nf : Nat) (ln : LN) (kf : Nat) : Int32 → Int32 → FI → AR → Option (Int32 × FI × AR) := Nat.rec (fun _ _ _ _ => none) (fun _ K4 => FX9_freeClusters_4b K4 nf ln) kf
noncomputable def FX9_freeClusters (nf : Nat) (ln : LN) (fi : FI) (ar : AR)  : Option (Int32 × FI × AR) :=
  FX9_freeClusters_4 nf ln nf (0 : Int32) (2 : Int32) fi ar
set_option maxHeartbeats 4000000 in
set_option maxRecDepth 100000 in
theorem kX9_freeClusters (l : Launch) (g : GT) (ad rd : Nat → Nat) (sz : Nat) (nf : Nat) (ln : LN) (fi : FI) (ar : AR)  (r : Int32) (fi' : FI) (ar' : AR) (hF : FX9_freeClusters nf ln fi ar  = some (r, fi', ar')) : Met l yX9_freeClusters (wx yX9_freeClusters cX9_freeClusters 3 (some .int)) ({ frames := 2, cells := 0, slots := 0, locals := 43 } : Room) (va_Pc [.ref (ad (6))] (PC g ad rd ln sz fi ar)) (QCi g ad rd ln sz r fi' ar') 0 0 (AC ad rd sz) := by
  refine Met.ofW (cc := cX9_freeClusters) (maxL := 3) (ret := (some .int)) (by decide) rfl ?_
  intro p e s m args below meth c s₁ B hml hv
  obtain ⟨rfl, hsz, hP, hK, hD0, hE⟩ := hv
  have hx := B.exec
  have hb := B.bytes
  have hr := B.returns
  have hts := atoms_spec (ws := (wx yX9_freeClusters cX9_freeClusters 3 (some .int))) B.pre
  have hT : ∀ w ∈ TB, w.before _ s = true := fun w h => hts w (List.mem_cons_of_mem _ h)
  have hown : s.vm.findClass RX9 = some m.cls := findClass_of_methodNamed B.named
  have hlocks := B.notSynchronized
  subst hsz
  have hD := dC hD0 s.heap.size
  have hA : ∀ q : Nat, s.heap.size ≤ q → AC ad rd s.heap.size q := fun q h => Or.inr h
  have hS : va_S (AC ad rd s.heap.size) s.heap s.heap [] := va_S.rf
  have hl := lv_entry ([.ref (ad (6))]) (n := 3) (Nat.le_of_ble_eq_true rfl)
  rw [lg_entry_eq]
  generalize (lg_sl ([.ref (ad (6))]) ++ List.replicate (3 - (lg_sl ([.ref (ad (6))])).length) Slot.unset).toArray = ls at hl ⊢
  have hl : lv_has ls 3 [(0, .ref (ad (6)))] := hl
  unfold FX9_freeClusters at hF
  have L4 : ∀ kf : Nat, ∀ (x1 : Int32) (x2 : Int32) (fi : FI) (ar : AR) (H : Heap) (locs : List Loc) (ls : Array Slot), FX9_freeClusters_4 nf ln kf x1 x2 fi ar = some (r, fi', ar') → lv_has ls 3 [(0, .ref (ad (6))), (1, .int x1), (2, .int x2)] → va_P (gD g) vwCl (WC g ad rd ln fi ar) H → va_S (AC ad rd s.heap.size) s.heap H locs → W p l e (headSpec (wx yX9_freeClusters cX9_freeClusters 3 (some .int)) ({ frames := 2, cells := 0, slots := 0, locals := 43 } : Room)).room s m ([.ref (ad (6))] : List Value).toArray below meth c H locs 0 0 (MQ below (QCi g ad rd ln s.heap.size r fi' ar') ([.ref (ad (6))] : List Value).toArray s 0 0 (AC ad rd s.heap.size)) (F0 m 4 ls []) := by
    intro kf
    induction kf with
    | zero => intro x1 x2 fi ar H locs ls hF hl hP hS; cases (show (none : Option (Int32 × FI × AR)) = _ from hF)
    | succ kf ih4 =>
      intro x1 x2 fi ar H locs ls hF hl hP hS
      obtain ⟨K4, hK4⟩ : ∃ K : Int32 → Int32 → FI → AR → Option (Int32 × FI × AR), K = FX9_freeClusters_4 nf ln kf := ⟨_, rfl⟩
      replace hF : FX9_freeClusters_4b K4 nf ln x1 x2 fi ar = some (r, fi', ar') := by rw [hK4]; exact hF
      rw [← hK4] at ih4
      clear hK4
      have J25 : ∀ (x1 : Int32) (x2 : Int32) (fi : FI) (ar : AR) (H : Heap) (locs : List Loc) (ls : Array Slot), FX9_freeClusters_25 K4 nf ln x1 x2 fi ar = some (r, fi', ar') → lv_has ls 3 [(0, .ref (ad (6))), (1, .int x1), (2, .int x2)] → va_P (gD g) vwCl (WC g ad rd ln fi ar) H → va_S (AC ad rd s.heap.size) s.heap H locs → W p l e (headSpec (wx yX9_freeClusters cX9_freeClusters 3 (some .int)) ({ frames := 2, cells := 0, slots := 0, locals := 43 } : Room)).room s m ([.ref (ad (6))] : List Value).toArray below meth c H locs 0 0 (MQ below (QCi g ad rd ln s.heap.size r fi' ar') ([.ref (ad (6))] : List Value).toArray s 0 0 (AC ad rd s.heap.size)) (F0 m 25 ls []) := by
        intro x1 x2 fi ar H locs ls hF hl hP hS
        unfold FX9_freeClusters_25 at hF
        obtain ⟨x2_1, ex2_1⟩ : ∃ y : Int32, y = (x2) + (1 : Int32) := ⟨_, rfl⟩
        replace hF := bnd_of hF ex2_1
        refine lv_iinc (v := x2_1) (lv' := [(2, .int (x2_1)), (0, .ref (ad (6))), (1, .int (x1))]) hx hb dX9_freeClusters_25 hl (k := 2) rfl (by rw [ex2_1]; rfl) (by decide) rfl (fun ls hl => ?_)
        refine lv_goto (tgt := 4) hx hb dX9_freeClusters_28 (by decide) ?_
        exact ih4 (x1) (x2_1) _ _ _ _ _ hF (lv_sub hl [1, 2, 0] rfl) hP hS
      unfold FX9_freeClusters_4b at hF
      refine lv_iload_n hx hb dX9_freeClusters_4 rfl (lv_at hl 2 rfl) ?_
      refine lv_aload_n hx hb dX9_freeClusters_5 rfl (lv_at hl 0 rfl) ?_
      refine cg_X9_clusters hx hb hT hown hK hP mw16_1 dX9_freeClusters_6 ?_
      refine lv_iconst (v := (1 : Int32)) hx hb dX9_freeClusters_9 (by decide) ?_
      refine lv_iadd hx hb dX9_freeClusters_10 ?_
      refine lv_icmp_gt (tgt := 31) hx hb dX9_freeClusters_11 (by decide) (fun hc2 => ?_) (fun hc2 => ?_)
      · replace hF := br_yes hF hc2
        refine lv_iload_n hx hb dX9_freeClusters_31 rfl (lv_at hl 1 rfl) ?_
        exact rC_i hx hb hr hlocks hF hP hS dX9_freeClusters_32
      · replace hF := br_no hF hc2
        refine lv_aload_n hx hb dX9_freeClusters_14 rfl (lv_at hl 0 rfl) ?_
        refine lv_iload_n hx hb dX9_freeClusters_15 rfl (lv_at hl 2 rfl) ?_
        replace hF := obnd3_of hF
        obtain ⟨r6, fi4, ar5, h3, hF⟩ := hF
        refine cC_i (As := [.int (x2)]) (rest := []) hx hb hml hT hown hK hE hD hA hP hS (rcv_X9 hK hP) (kX9_next l g ad rd _ nf ln fi ar (x2) r6 fi4 ar5 h3) cw_X9_next mw22_11 ⟨⟨rfl, rfl⟩, Nat.le_of_ble_eq_true rfl, Nat.le_of_ble_eq_true rfl⟩ rfl hl.1 rfl (Nat.le_of_ble_eq_true rfl) dX9_freeClusters_16 ⟨Nat.zero_le _, Nat.zero_le _⟩ (fun H locs hP hS => ?_)
        refine lv_if_ne (tgt := 25) hx hb dX9_freeClusters_19 (by decide) (fun hc7 => ?_) (fun hc7 => ?_)
        · replace hF := br_no hF hc7
          exact J25 (x1) (x2) _ _ _ _ _ hF (lv_sub hl [0, 1, 2] rfl) hP hS
        · replace hF := br_yes hF hc7
          obtain ⟨x1_8, ex1_8⟩ : ∃ y : Int32, y = (x1) + (1 : Int32) := ⟨_, rfl⟩
          replace hF := bnd_of hF ex1_8
          refine lv_iinc (v := x1_8) (lv' := [(1, .int (x1_8)), (0, .ref (ad (6))), (2, .int (x2))]) hx hb dX9_freeClusters_22 hl (k := 1) rfl (by rw [ex1_8]; rfl) (by decide) rfl (fun ls hl => ?_)
          exact J25 (x1_8) (x2) _ _ _ _ _ hF (lv_sub hl [1, 0, 2] rfl) hP hS
  replace hl := lv_sub hl [0] rfl
  refine lv_iconst (v := (0 : Int32)) hx hb dX9_freeClusters_0 (by decide) ?_
  refine lv_istore_n (lv' := [(1, .int (0 : Int32)), (0, .ref (ad (6)))]) hx hb dX9_freeClusters_1 rfl hl (by decide) rfl (fun ls hl => ?_)
  refine lv_iconst (v := (2 : Int32)) hx hb dX9_freeClusters_2 (by decide) ?_
  refine lv_istore_n (lv' := [(2, .int (2 : Int32)), (1, .int (0 : Int32)), (0, .ref (ad (6)))]) hx hb dX9_freeClusters_3 rfl hl (by decide) rfl (fun ls hl => ?_)
  exact L4 nf (0 : Int32) (2 : Int32) _ _ _ _ _ hF (lv_sub hl [2, 1, 0] rfl) hP hS
theorem cw_X9_freeClusters : (Cond.instanceMethod yX9_freeClusters ∈ TB ∧ Cond.selects RX9 yX9_freeClusters yX9_freeClusters ∈ TB ∧ Cond.code yX9_freeClusters cX9_freeClusters 3 (some .int) ∈ TB ∧ Cond.initialized RX9 ∈ TB) ∧ (yX9_freeClusters.cls = RX9 ∧ yX9_freeClusters.cls ≠ "java/lang/invoke/MethodHandle" ∧ yX9_freeClusters.cls ≠ "java/lang/invoke/VarHandle" ∧ (parseMethodDescriptor yX9_freeClusters.desc).map (fun d => d.parameters.length) = some 0) := ⟨⟨mw36_20, mw36_21, mw36_22, mw2_10⟩, by decide +kernel⟩
/-! X9_later -/
noncomputable def FX9_later_31 (nf : Nat) (ln : LN) (x3 : Int32) (fi : FI) (ar : AR) : Option (Int32 × FI × AR) :=
  some ((x3), fi, ar)
noncomputable def FX9_later_5b (K5 : Int32 → Int32 → Int32 → FI → AR → Option (Int32 × FI × AR)) (nf : Nat) (ln : LN) (x2 : Int32) (x3 : Int32) (x4 : Int32) (fi : FI) (ar : AR) : Option (Int32 × FI × AR) :=
  br ((x2) ≤ (x4)) (FX9_later_31 nf ln  (x3) fi ar) (obnd3 (FX9_isCluster nf ln fi ar (x3)) fun r5 fi3 ar4 => br ((r5) = 0) (FX9_later_31 nf ln  (x3) fi3 ar4) (obnd3 (FX9_next nf ln fi3 ar4 (x3)) fun r10 fi8 ar9 => bnd ((x4) + (1 : Int32)) fun x4_11 => K5 (x2) (r10) (x4_11) fi8 ar9))
noncomputable def FX9_later_5 (nf : Nat) (ln : LN) (kf : Nat) : Int32 → Int32 → Int32 → FI → AR → Option (Int32 × FI × AR) := Nat.rec (fun _ _ _ _ _ => none) (fun _ K5 => FX9_later_5b K5 nf ln) kf
noncomputable def FX9_later (nf : Nat) (ln : LN) (fi : FI) (ar : AR) (x1 : Int32) (x2 : Int32) : Option (Int32 × FI × AR) :=
  FX9_later_5 nf ln nf (x2) (x1) (0 : Int32) fi ar
set_option maxHeartbeats 4000000 in
set_option maxRecDepth 100000 in
theorem kX9_later (l : Launch) (g : GT) (ad rd : Nat → Nat) (sz : Nat) (nf : Nat) (ln : LN) (fi : FI) (ar : AR) (p1 : Int32) (p2 : Int32) (r : Int32) (fi' : FI) (ar' : AR) (hF : FX9_later nf ln fi ar p1 p2 = some (r, fi', ar')) : Met l yX9_later (wx yX9_later cX9_later 5 (some .int)) ({ frames := 2, cells := 0, slots := 0, locals := 43 } : Room) (va_Pc [.ref (ad (6)), .int p1, .int p2] (PC g ad rd ln sz fi ar)) (QCi g ad rd ln sz r fi' ar') 0 0 (AC ad rd sz) := by
  refine Met.ofW (cc := cX9_later) (maxL := 5) (ret := (some .int)) (by decide) rfl ?_
  intro p e s m args below meth c s₁ B hml hv
  obtain ⟨rfl, hsz, hP, hK, hD0, hE⟩ := hv
  have hx := B.exec
  have hb := B.bytes
  have hr := B.returns
  have hts := atoms_spec (ws := (wx yX9_later cX9_later 5 (some .int))) B.pre
  have hT : ∀ w ∈ TB, w.before _ s = true := fun w h => hts w (List.mem_cons_of_mem _ h)
  have hown : s.vm.findClass RX9 = some m.cls := findClass_of_methodNamed B.named
  have hlocks := B.notSynchronized
  subst hsz
  have hD := dC hD0 s.heap.size
  have hA : ∀ q : Nat, s.heap.size ≤ q → AC ad rd s.heap.size q := fun q h => Or.inr h
  have hS : va_S (AC ad rd s.heap.size) s.heap s.heap [] := va_S.rf
  have hl := lv_entry ([.ref (ad (6)), .int p1, .int p2]) (n := 5) (Nat.le_of_ble_eq_true rfl)
  rw [lg_entry_eq]
  generalize (lg_sl ([.ref (ad (6)), .int p1, .int p2]) ++ List.replicate (5 - (lg_sl ([.ref (ad (6)), .int p1, .int p2])).length) Slot.unset).toArray = ls at hl ⊢
  have hl : lv_has ls 5 [(0, .ref (ad (6))), (1, .int p1), (2, .int p2)] := hl
  unfold FX9_later at hF
  have J31 : ∀ (x3 : Int32) (fi : FI) (ar : AR) (H : Heap) (locs : List Loc) (ls : Array Slot), FX9_later_31 nf ln x3 fi ar = some (r, fi', ar') → lv_has ls 5 [(0, .ref (ad (6))), (3, .int x3)] → va_P (gD g) vwCl (WC g ad rd ln fi ar) H → va_S (AC ad rd s.heap.size) s.heap H locs → W p l e (headSpec (wx yX9_later cX9_later 5 (some .int)) ({ frames := 2, cells := 0, slots := 0, locals := 43 } : Room)).room s m ([.ref (ad (6)), .int p1, .int p2] : List Value).toArray below meth c H locs 0 0 (MQ below (QCi g ad rd ln s.heap.size r fi' ar') ([.ref (ad (6)), .int p1, .int p2] : List Value).toArray s 0 0 (AC ad rd s.heap.size)) (F0 m 31 ls []) := by
    intro x3 fi ar H locs ls hF hl hP hS
    unfold FX9_later_31 at hF
    refine lv_iload_n hx hb dX9_later_31 rfl (lv_at hl 1 rfl) ?_
    exact rC_i hx hb hr hlocks hF hP hS dX9_later_32
  have L5 : ∀ kf : Nat, ∀ (x2 : Int32) (x3 : Int32) (x4 : Int32) (fi : FI) (ar : AR) (H : Heap) (locs : List Loc) (ls : Array Slot), FX9_later_5 nf ln kf x2 x3 x4 fi ar = some (r, fi', ar') → lv_has ls 5 [(0, .ref (ad (6))), (2, .int x2), (3, .int x3), (4, .int x4)] → va_P (gD g) vwCl (WC g ad rd ln fi ar) H → va_S (AC ad rd s.heap.size) s.heap H locs → W p l e (headSpec (wx yX9_later cX9_later 5 (some .int)) ({ frames := 2, cells := 0, slots := 0, locals := 43 } : Room)).room s m ([.ref (ad (6)), .int p1, .int p2] : List Value).toArray below meth c H locs 0 0 (MQ below (QCi g ad rd ln s.heap.size r fi' ar') ([.ref (ad (6)), .int p1, .int p2] : List Value).toArray s 0 0 (AC ad rd s.heap.size)) (F0 m 5 ls []) := by
    intro kf
    induction kf with
    | zero => intro x2 x3 x4 fi ar H locs ls hF hl hP hS; cases (show (none : Option (Int32 × FI × AR)) = _ from hF)
    | succ kf ih5 =>
      intro x2 x3 x4 fi ar H locs ls hF hl hP hS
      obtain ⟨K5, hK5⟩ : ∃ K : Int32 → Int32 → Int32 → FI → AR → Option (Int32 × FI × AR), K = FX9_later_5 nf ln kf := ⟨_, rfl⟩
      replace hF : FX9_later_5b K5 nf ln x2 x3 x4 fi ar = some (r, fi', ar') := by rw [hK5]; exact hF
      rw [← hK5] at ih5
      clear hK5
      unfold FX9_later_5b at hF
      refine lv_iload hx hb dX9_later_5 (lv_at hl 3 rfl) ?_
      refine lv_iload_n hx hb dX9_later_7 rfl (lv_at hl 1 rfl) ?_
      refine lv_icmp_ge (tgt := 31) hx hb dX9_later_8 (by decide) (fun hc1 => ?_) (fun hc1 => ?_)
      · replace hF := br_yes hF hc1
        exact J31 (x3) _ _ _ _ _ hF (lv_sub hl [0, 2] rfl) hP hS
      · replace hF := br_no hF hc1
        refine lv_aload_n hx hb dX9_later_11 rfl (lv_at hl 0 rfl) ?_
        refine lv_iload_n hx hb dX9_later_12 rfl (lv_at hl 2 rfl) ?_
        replace hF := obnd3_of hF
        obtain ⟨r5, fi3, ar4, h2, hF⟩ := hF
        refine cC_i (As := [.int (x3)]) (rest := []) hx hb hml hT hown hK hE hD hA hP hS (rcv_X9 hK hP) (kX9_isCluster l g ad rd _ nf ln fi ar (x3) r5 fi3 ar4 h2) cw_X9_isCluster mw22_15 ⟨⟨rfl, rfl⟩, Nat.le_of_ble_eq_true rfl, Nat.le_of_ble_eq_true rfl⟩ rfl hl.1 rfl (Nat.le_of_ble_eq_true rfl) dX9_later_13 ⟨Nat.zero_le _, Nat.zero_le _⟩ (fun H locs hP hS => ?_)
        refine lv_if_eq (tgt := 31) hx hb dX9_later_16 (by decide) (fun hc6 => ?_) (fun hc6 => ?_)
        · replace hF := br_yes hF hc6
          exact J31 (x3) _ _ _ _ _ hF (lv_sub hl [0, 2] rfl) hP hS
        · replace hF := br_no hF hc6
          refine lv_aload_n hx hb dX9_later_19 rfl (lv_at hl 0 rfl) ?_
          refine lv_iload_n hx hb dX9_later_20 rfl (lv_at hl 2 rfl) ?_
          replace hF := obnd3_of hF
          obtain ⟨r10, fi8, ar9, h7, hF⟩ := hF
          refine cC_i (As := [.int (x3)]) (rest := []) hx hb hml hT hown hK hE hD hA hP hS (rcv_X9 hK hP) (kX9_next l g ad rd _ nf ln fi3 ar4 (x3) r10 fi8 ar9 h7) cw_X9_next mw22_11 ⟨⟨rfl, rfl⟩, Nat.le_of_ble_eq_true rfl, Nat.le_of_ble_eq_true rfl⟩ rfl hl.1 rfl (Nat.le_of_ble_eq_true rfl) dX9_later_21 ⟨Nat.zero_le _, Nat.zero_le _⟩ (fun H locs hP hS => ?_)
          refine lv_istore_n (lv' := [(3, .int (r10)), (0, .ref (ad (6))), (2, .int (x2)), (4, .int (x4))]) hx hb dX9_later_24 rfl hl (by decide) rfl (fun ls hl => ?_)
          obtain ⟨x4_11, ex4_11⟩ : ∃ y : Int32, y = (x4) + (1 : Int32) := ⟨_, rfl⟩
          replace hF := bnd_of hF ex4_11
          refine lv_iinc (v := x4_11) (lv' := [(4, .int (x4_11)), (3, .int (r10)), (0, .ref (ad (6))), (2, .int (x2))]) hx hb dX9_later_25 hl (k := 3) rfl (by rw [ex4_11]; rfl) (by decide) rfl (fun ls hl => ?_)
          refine lv_goto (tgt := 5) hx hb dX9_later_28 (by decide) ?_
          exact ih5 (x2) (r10) (x4_11) _ _ _ _ _ hF (lv_sub hl [2, 3, 1, 0] rfl) hP hS
  replace hl := lv_sub hl [0, 1, 2] rfl
  refine lv_iload_n hx hb dX9_later_0 rfl (lv_at hl 1 rfl) ?_
  refine lv_istore_n (lv' := [(3, .int (p1)), (0, .ref (ad (6))), (1, .int (p1)), (2, .int (p2))]) hx hb dX9_later_1 rfl hl (by decide) rfl (fun ls hl => ?_)
  refine lv_iconst (v := (0 : Int32)) hx hb dX9_later_2 (by decide) ?_
  refine lv_istore (lv' := [(4, .int (0 : Int32)), (3, .int (p1)), (0, .ref (ad (6))), (1, .int (p1)), (2, .int (p2))]) hx hb dX9_later_3 hl (by decide) rfl (fun ls hl => ?_)
  exact L5 nf (p2) (p1) (0 : Int32) _ _ _ _ _ hF (lv_sub hl [2, 4, 1, 0] rfl) hP hS
theorem cw_X9_later : (Cond.instanceMethod yX9_later ∈ TB ∧ Cond.selects RX9 yX9_later yX9_later ∈ TB ∧ Cond.code yX9_later cX9_later 5 (some .int) ∈ TB ∧ Cond.initialized RX9 ∈ TB) ∧ (yX9_later.cls = RX9 ∧ yX9_later.cls ≠ "java/lang/invoke/MethodHandle" ∧ yX9_later.cls ≠ "java/lang/invoke/VarHandle" ∧ (parseMethodDescriptor yX9_later.desc).map (fun d => d.parameters.length) = some 2) := ⟨⟨mw43_1, mw43_2, mw43_3, mw2_10⟩, by decide +kernel⟩
/-! X9_last -/
noncomputable def FX9_last_38 (nf : Nat) (ln : LN) (x2 : Int32) (fi : FI) (ar : AR) : Option (Int32 × FI × AR) :=
  some ((x2), fi, ar)
noncomputable def FX9_last_7b (K7 : Int32 → Int32 → Int32 → FI → AR → Option (Int32 × FI × AR)) (nf : Nat) (ln : LN) (x2 : Int32) (x3 : Int32) (x4 : Int32) (fi : FI) (ar : AR) : Option (Int32 × FI × AR) :=
  br ((fi (5)) ≤ (x4)) (FX9_last_38 nf ln  (x2) fi ar) (obnd3 (FX9_isCluster nf ln fi ar (x3)) fun r5 fi3 ar4 => br ((r5) = 0) (FX9_last_38 nf ln  (x2) fi3 ar4) (obnd3 (FX9_next nf ln fi3 ar4 (x3)) fun r10 fi8 ar9 => bnd ((x4) + (1 : Int32)) fun x4_11 => K7 (x3) (r10) (x4_11) fi8 ar9))
noncomputable def FX9_last_7 (nf : Nat) (ln : LN) (kf : Nat) : Int32 → Int32 → Int32 → FI → AR → Option (Int32 × FI × AR) := Nat.rec (fun _ _ _ _ _ => none) (fun _ K7 => FX9_last_7b K7 nf ln) kf
noncomputable def FX9_last (nf : Nat) (ln : LN) (fi : FI) (ar : AR) (x1 : Int32) : Option (Int32 × FI × AR) :=
  FX9_last_7 nf ln nf (0 : Int32) (x1) (0 : Int32) fi ar
set_option maxHeartbeats 4000000 in
set_option maxRecDepth 100000 in
theorem kX9_last (l : Launch) (g : GT) (ad rd : Nat → Nat) (sz : Nat) (nf : Nat) (ln : LN) (fi : FI) (ar : AR) (p1 : Int32) (r : Int32) (fi' : FI) (ar' : AR) (hF : FX9_last nf ln fi ar p1 = some (r, fi', ar')) : Met l yX9_last (wx yX9_last cX9_last 5 (some .int)) ({ frames := 2, cells := 0, slots := 0, locals := 43 } : Room) (va_Pc [.ref (ad (6)), .int p1] (PC g ad rd ln sz fi ar)) (QCi g ad rd ln sz r fi' ar') 0 0 (AC ad rd sz) := by
  refine Met.ofW (cc := cX9_last) (maxL := 5) (ret := (some .int)) (by decide) rfl ?_
  intro p e s m args below meth c s₁ B hml hv
  obtain ⟨rfl, hsz, hP, hK, hD0, hE⟩ := hv
  have hx := B.exec
  have hb := B.bytes
  have hr := B.returns
  have hts := atoms_spec (ws := (wx yX9_last cX9_last 5 (some .int))) B.pre
  have hT : ∀ w ∈ TB, w.before _ s = true := fun w h => hts w (List.mem_cons_of_mem _ h)
  have hown : s.vm.findClass RX9 = some m.cls := findClass_of_methodNamed B.named
  have hlocks := B.notSynchronized
  subst hsz
  have hD := dC hD0 s.heap.size
  have hA : ∀ q : Nat, s.heap.size ≤ q → AC ad rd s.heap.size q := fun q h => Or.inr h
  have hS : va_S (AC ad rd s.heap.size) s.heap s.heap [] := va_S.rf
  have hl := lv_entry ([.ref (ad (6)), .int p1]) (n := 5) (Nat.le_of_ble_eq_true rfl)
  rw [lg_entry_eq]
  generalize (lg_sl ([.ref (ad (6)), .int p1]) ++ List.replicate (5 - (lg_sl ([.ref (ad (6)), .int p1])).length) Slot.unset).toArray = ls at hl ⊢
  have hl : lv_has ls 5 [(0, .ref (ad (6))), (1, .int p1)] := hl
  unfold FX9_last at hF
  have J38 : ∀ (x2 : Int32) (fi : FI) (ar : AR) (H : Heap) (locs : List Loc) (ls : Array Slot), FX9_last_38 nf ln x2 fi ar = some (r, fi', ar') → lv_has ls 5 [(0, .ref (ad (6))), (2, .int x2)] → va_P (gD g) vwCl (WC g ad rd ln fi ar) H → va_S (AC ad rd s.heap.size) s.heap H locs → W p l e (headSpec (wx yX9_last cX9_last 5 (some .int)) ({ frames := 2, cells := 0, slots := 0, locals := 43 } : Room)).room s m ([.ref (ad (6)), .int p1] : List Value).toArray below meth c H locs 0 0 (MQ below (QCi g ad rd ln s.heap.size r fi' ar') ([.ref (ad (6)), .int p1] : List Value).toArray s 0 0 (AC ad rd s.heap.size)) (F0 m 38 ls []) := by
    intro x2 fi ar H locs ls hF hl hP hS
    unfold FX9_last_38 at hF
    refine lv_iload_n hx hb dX9_last_38 rfl (lv_at hl 1 rfl) ?_
    exact rC_i hx hb hr hlocks hF hP hS dX9_last_39
  have L7 : ∀ kf : Nat, ∀ (x2 : Int32) (x3 : Int32) (x4 : Int32) (fi : FI) (ar : AR) (H : Heap) (locs : List Loc) (ls : Array Slot), FX9_last_7 nf ln kf x2 x3 x4 fi ar = some (r, fi', ar') → lv_has ls 5 [(0, .ref (ad (6))), (2, .int x2), (3, .int x3), (4, .int x4)] → va_P (gD g) vwCl (WC g ad rd ln fi ar) H → va_S (AC ad rd s.heap.size) s.heap H locs → W p l e (headSpec (wx yX9_last cX9_last 5 (some .int)) ({ frames := 2, cells := 0, slots := 0, locals := 43 } : Room)).room s m ([.ref (ad (6)), .int p1] : List Value).toArray below meth c H locs 0 0 (MQ below (QCi g ad rd ln s.heap.size r fi' ar') ([.ref (ad (6)), .int p1] : List Value).toArray s 0 0 (AC ad rd s.heap.size)) (F0 m 7 ls []) := by
    intro kf
    induction kf with
    | zero => intro x2 x3 x4 fi ar H locs ls hF hl hP hS; cases (show (none : Option (Int32 × FI × AR)) = _ from hF)
    | succ kf ih7 =>
      intro x2 x3 x4 fi ar H locs ls hF hl hP hS
      obtain ⟨K7, hK7⟩ : ∃ K : Int32 → Int32 → Int32 → FI → AR → Option (Int32 × FI × AR), K = FX9_last_7 nf ln kf := ⟨_, rfl⟩
      replace hF : FX9_last_7b K7 nf ln x2 x3 x4 fi ar = some (r, fi', ar') := by rw [hK7]; exact hF
      rw [← hK7] at ih7
      clear hK7
      unfold FX9_last_7b at hF
      refine lv_iload hx hb dX9_last_7 (lv_at hl 3 rfl) ?_
      refine lv_aload_n hx hb dX9_last_9 rfl (lv_at hl 0 rfl) ?_
      refine cg_X9_clusters hx hb hT hown hK hP mw16_1 dX9_last_10 ?_
      refine lv_icmp_ge (tgt := 38) hx hb dX9_last_13 (by decide) (fun hc1 => ?_) (fun hc1 => ?_)
      · replace hF := br_yes hF hc1
        exact J38 (x2) _ _ _ _ _ hF (lv_sub hl [0, 1] rfl) hP hS
      · replace hF := br_no hF hc1
        refine lv_aload_n hx hb dX9_last_16 rfl (lv_at hl 0 rfl) ?_
        refine lv_iload_n hx hb dX9_last_17 rfl (lv_at hl 2 rfl) ?_
        replace hF := obnd3_of hF
        obtain ⟨r5, fi3, ar4, h2, hF⟩ := hF
        refine cC_i (As := [.int (x3)]) (rest := []) hx hb hml hT hown hK hE hD hA hP hS (rcv_X9 hK hP) (kX9_isCluster l g ad rd _ nf ln fi ar (x3) r5 fi3 ar4 h2) cw_X9_isCluster mw22_15 ⟨⟨rfl, rfl⟩, Nat.le_of_ble_eq_true rfl, Nat.le_of_ble_eq_true rfl⟩ rfl hl.1 rfl (Nat.le_of_ble_eq_true rfl) dX9_last_18 ⟨Nat.zero_le _, Nat.zero_le _⟩ (fun H locs hP hS => ?_)
        refine lv_if_eq (tgt := 38) hx hb dX9_last_21 (by decide) (fun hc6 => ?_) (fun hc6 => ?_)
        · replace hF := br_yes hF hc6
          exact J38 (x2) _ _ _ _ _ hF (lv_sub hl [0, 1] rfl) hP hS
        · replace hF := br_no hF hc6
          refine lv_iload_n hx hb dX9_last_24 rfl (lv_at hl 2 rfl) ?_
          refine lv_istore_n (lv' := [(2, .int (x3)), (0, .ref (ad (6))), (3, .int (x3)), (4, .int (x4))]) hx hb dX9_last_25 rfl hl (by decide) rfl (fun ls hl => ?_)
          refine lv_aload_n hx hb dX9_last_26 rfl (lv_at hl 1 rfl) ?_
          refine lv_iload_n hx hb dX9_last_27 rfl (lv_at hl 2 rfl) ?_
          replace hF := obnd3_of hF
          obtain ⟨r10, fi8, ar9, h7, hF⟩ := hF
          refine cC_i (As := [.int (x3)]) (rest := []) hx hb hml hT hown hK hE hD hA hP hS (rcv_X9 hK hP) (kX9_next l g ad rd _ nf ln fi3 ar4 (x3) r10 fi8 ar9 h7) cw_X9_next mw22_11 ⟨⟨rfl, rfl⟩, Nat.le_of_ble_eq_true rfl, Nat.le_of_ble_eq_true rfl⟩ rfl hl.1 rfl (Nat.le_of_ble_eq_true rfl) dX9_last_28 ⟨Nat.zero_le _, Nat.zero_le _⟩ (fun H locs hP hS => ?_)
          refine lv_istore_n (lv' := [(3, .int (r10)), (2, .int (x3)), (0, .ref (ad (6))), (4, .int (x4))]) hx hb dX9_last_31 rfl hl (by decide) rfl (fun ls hl => ?_)
          obtain ⟨x4_11, ex4_11⟩ : ∃ y : Int32, y = (x4) + (1 : Int32) := ⟨_, rfl⟩
          replace hF := bnd_of hF ex4_11
          refine lv_iinc (v := x4_11) (lv' := [(4, .int (x4_11)), (3, .int (r10)), (2, .int (x3)), (0, .ref (ad (6)))]) hx hb dX9_last_32 hl (k := 3) rfl (by rw [ex4_11]; rfl) (by decide) rfl (fun ls hl => ?_)
          refine lv_goto (tgt := 7) hx hb dX9_last_35 (by decide) ?_
          exact ih7 (x3) (r10) (x4_11) _ _ _ _ _ hF (lv_sub hl [3, 2, 1, 0] rfl) hP hS
  replace hl := lv_sub hl [0, 1] rfl
  refine lv_iconst (v := (0 : Int32)) hx hb dX9_last_0 (by decide) ?_
  refine lv_istore_n (lv' := [(2, .int (0 : Int32)), (0, .ref (ad (6))), (1, .int (p1))]) hx hb dX9_last_1 rfl hl (by decide) rfl (fun ls hl => ?_)
  refine lv_iload_n hx hb dX9_last_2 rfl (lv_at hl 2 rfl) ?_
  refine lv_istore_n (lv' := [(3, .int (p1)), (2, .int (0 : Int32)), (0, .ref (ad (6))), (1, .int (p1))]) hx hb dX9_last_3 rfl hl (by decide) rfl (fun ls hl => ?_)
  refine lv_iconst (v := (0 : Int32)) hx hb dX9_last_4 (by decide) ?_
  refine lv_istore (lv' := [(4, .int (0 : Int32)), (3, .int (p1)), (2, .int (0 : Int32)), (0, .ref (ad (6))), (1, .int (p1))]) hx hb dX9_last_5 hl (by decide) rfl (fun ls hl => ?_)
  exact L7 nf (0 : Int32) (p1) (0 : Int32) _ _ _ _ _ hF (lv_sub hl [3, 2, 1, 0] rfl) hP hS
theorem cw_X9_last : (Cond.instanceMethod yX9_last ∈ TB ∧ Cond.selects RX9 yX9_last yX9_last ∈ TB ∧ Cond.code yX9_last cX9_last 5 (some .int) ∈ TB ∧ Cond.initialized RX9 ∈ TB) ∧ (yX9_last.cls = RX9 ∧ yX9_last.cls ≠ "java/lang/invoke/MethodHandle" ∧ yX9_last.cls ≠ "java/lang/invoke/VarHandle" ∧ (parseMethodDescriptor yX9_last.desc).map (fun d => d.parameters.length) = some 1) := ⟨⟨mw51_14, mw51_15, mw51_16, mw2_10⟩, by decide +kernel⟩
/-! X9_release -/
noncomputable def FX9_release_42 (nf : Nat) (ln : LN)  (fi : FI) (ar : AR) : Option (Unit × FI × AR) :=
  some ((), fi, ar)
noncomputable def FX9_release_4b (K4 : Int32 → Int32 → FI → AR → Option (Unit × FI × AR)) (nf : Nat) (ln : LN) (x2 : Int32) (x3 : Int32) (fi : FI) (ar : AR) : Option (Unit × FI × AR) :=
  br ((fi (5)) ≤ (x3)) (FX9_release_42 nf ln  fi ar) (obnd3 (FX9_isCluster nf ln fi ar (x2)) fun r5 fi3 ar4 => br ((r5) = 0) (FX9_release_42 nf ln  fi3 ar4) (obnd3 (FX9_next nf ln fi3 ar4 (x2)) fun r10 fi8 ar9 => obnd3 (FX9_link nf ln fi8 ar9 (x2) (0 : Int32)) fun r14 fi12 ar13 => bnd ((x3) + (1 : Int32)) fun x3_15 => K4 (r10) (x3_15) fi12 ar13))
noncomputable def FX9_release_4 (nf : Nat) (ln : LN) (kf : Nat) : Int32 → Int32 → FI → AR → Option (Unit × FI × AR) := Nat.rec (fun _ _ _ _ => none) (fun _ K4 => FX9_release_4b K4 nf ln) kf
noncomputable def FX9_release (nf : Nat) (ln : LN) (fi : FI) (ar : AR) (x1 : Int32) : Option (Unit × FI × AR) :=
  FX9_release_4 nf ln nf (x1) (0 : Int32) fi ar
set_option maxHeartbeats 4000000 in
set_option maxRecDepth 100000 in
theorem kX9_release (l : Launch) (g : GT) (ad rd : Nat → Nat) (sz : Nat) (nf : Nat) (ln : LN) (fi : FI) (ar : AR) (p1 : Int32) (r : Unit) (fi' : FI) (ar' : AR) (hF : FX9_release nf ln fi ar p1 = some (r, fi', ar')) : Met l yX9_release (wx yX9_release cX9_release 5 none) ({ frames := 4, cells := 0, slots := 0, locals := 92 } : Room) (va_Pc [.ref (ad (6)), .int p1] (PC g ad rd ln sz fi ar)) (QCv g ad rd ln sz r fi' ar') 0 0 (AC ad rd sz) := by
  refine Met.ofW (cc := cX9_release) (maxL := 5) (ret := none) (by decide) rfl ?_
  intro p e s m args below meth c s₁ B hml hv
  obtain ⟨rfl, hsz, hP, hK, hD0, hE⟩ := hv
  have hx := B.exec
  have hb := B.bytes
  have hr := B.returns
  have hts := atoms_spec (ws := (wx yX9_release cX9_release 5 none)) B.pre
  have hT : ∀ w ∈ TB, w.before _ s = true := fun w h => hts w (List.mem_cons_of_mem _ h)
  have hown : s.vm.findClass RX9 = some m.cls := findClass_of_methodNamed B.named
  have hlocks := B.notSynchronized
  subst hsz
  have hD := dC hD0 s.heap.size
  have hA : ∀ q : Nat, s.heap.size ≤ q → AC ad rd s.heap.size q := fun q h => Or.inr h
  have hS : va_S (AC ad rd s.heap.size) s.heap s.heap [] := va_S.rf
  have hl := lv_entry ([.ref (ad (6)), .int p1]) (n := 5) (Nat.le_of_ble_eq_true rfl)
  rw [lg_entry_eq]
  generalize (lg_sl ([.ref (ad (6)), .int p1]) ++ List.replicate (5 - (lg_sl ([.ref (ad (6)), .int p1])).length) Slot.unset).toArray = ls at hl ⊢
  have hl : lv_has ls 5 [(0, .ref (ad (6))), (1, .int p1)] := hl
  unfold FX9_release at hF
  have J42 : ∀  (fi : FI) (ar : AR) (H : Heap) (locs : List Loc) (ls : Array Slot), FX9_release_42 nf ln fi ar = some (r, fi', ar') → lv_has ls 5 [(0, .ref (ad (6)))] → va_P (gD g) vwCl (WC g ad rd ln fi ar) H → va_S (AC ad rd s.heap.size) s.heap H locs → W p l e (headSpec (wx yX9_release cX9_release 5 none) ({ frames := 4, cells := 0, slots := 0, locals := 92 } : Room)).room s m ([.ref (ad (6)), .int p1] : List Value).toArray below meth c H locs 0 0 (MQ below (QCv g ad rd ln s.heap.size r fi' ar') ([.ref (ad (6)), .int p1] : List Value).toArray s 0 0 (AC ad rd s.heap.size)) (F0 m 42 ls []) := by
    intro fi ar H locs ls hF hl hP hS
    unfold FX9_release_42 at hF
    exact rC_v hx hb hr hlocks hF hP hS dX9_release_42
  have L4 : ∀ kf : Nat, ∀ (x2 : Int32) (x3 : Int32) (fi : FI) (ar : AR) (H : Heap) (locs : List Loc) (ls : Array Slot), FX9_release_4 nf ln kf x2 x3 fi ar = some (r, fi', ar') → lv_has ls 5 [(0, .ref (ad (6))), (2, .int x2), (3, .int x3)] → va_P (gD g) vwCl (WC g ad rd ln fi ar) H → va_S (AC ad rd s.heap.size) s.heap H locs → W p l e (headSpec (wx yX9_release cX9_release 5 none) ({ frames := 4, cells := 0, slots := 0, locals := 92 } : Room)).room s m ([.ref (ad (6)), .int p1] : List Value).toArray below meth c H locs 0 0 (MQ below (QCv g ad rd ln s.heap.size r fi' ar') ([.ref (ad (6)), .int p1] : List Value).toArray s 0 0 (AC ad rd s.heap.size)) (F0 m 4 ls []) := by
    intro kf
    induction kf with
    | zero => intro x2 x3 fi ar H locs ls hF hl hP hS; cases (show (none : Option (Unit × FI × AR)) = _ from hF)
    | succ kf ih4 =>
      intro x2 x3 fi ar H locs ls hF hl hP hS
      obtain ⟨K4, hK4⟩ : ∃ K : Int32 → Int32 → FI → AR → Option (Unit × FI × AR), K = FX9_release_4 nf ln kf := ⟨_, rfl⟩
      replace hF : FX9_release_4b K4 nf ln x2 x3 fi ar = some (r, fi', ar') := by rw [hK4]; exact hF
      rw [← hK4] at ih4
      clear hK4
      unfold FX9_release_4b at hF
      refine lv_iload_n hx hb dX9_release_4 rfl (lv_at hl 2 rfl) ?_
      refine lv_aload_n hx hb dX9_release_5 rfl (lv_at hl 0 rfl) ?_
      refine cg_X9_clusters hx hb hT hown hK hP mw16_1 dX9_release_6 ?_
      refine lv_icmp_ge (tgt := 42) hx hb dX9_release_9 (by decide) (fun hc1 => ?_) (fun hc1 => ?_)
      · replace hF := br_yes hF hc1
        exact J42  _ _ _ _ _ hF (lv_sub hl [0] rfl) hP hS
      · replace hF := br_no hF hc1
        refine lv_aload_n hx hb dX9_release_12 rfl (lv_at hl 0 rfl) ?_
        refine lv_iload_n hx hb dX9_release_13 rfl (lv_at hl 1 rfl) ?_
        replace hF := obnd3_of hF
        obtain ⟨r5, fi3, ar4, h2, hF⟩ := hF
        refine cC_i (As := [.int (x2)]) (rest := []) hx hb hml hT hown hK hE hD hA hP hS (rcv_X9 hK hP) (kX9_isCluster l g ad rd _ nf ln fi ar (x2) r5 fi3 ar4 h2) cw_X9_isCluster mw22_15 ⟨⟨rfl, rfl⟩, Nat.le_of_ble_eq_true rfl, Nat.le_of_ble_eq_true rfl⟩ rfl hl.1 rfl (Nat.le_of_ble_eq_true rfl) dX9_release_14 ⟨Nat.zero_le _, Nat.zero_le _⟩ (fun H locs hP hS => ?_)
        refine lv_if_eq (tgt := 42) hx hb dX9_release_17 (by decide) (fun hc6 => ?_) (fun hc6 => ?_)
        · replace hF := br_yes hF hc6
          exact J42  _ _ _ _ _ hF (lv_sub hl [0] rfl) hP hS
        · replace hF := br_no hF hc6
          refine lv_aload_n hx hb dX9_release_20 rfl (lv_at hl 0 rfl) ?_
          refine lv_iload_n hx hb dX9_release_21 rfl (lv_at hl 1 rfl) ?_
          replace hF := obnd3_of hF
          obtain ⟨r10, fi8, ar9, h7, hF⟩ := hF
          refine cC_i (As := [.int (x2)]) (rest := []) hx hb hml hT hown hK hE hD hA hP hS (rcv_X9 hK hP) (kX9_next l g ad rd _ nf ln fi3 ar4 (x2) r10 fi8 ar9 h7) cw_X9_next mw22_11 ⟨⟨rfl, rfl⟩, Nat.le_of_ble_eq_true rfl, Nat.le_of_ble_eq_true rfl⟩ rfl hl.1 rfl (Nat.le_of_ble_eq_true rfl) dX9_release_22 ⟨Nat.zero_le _, Nat.zero_le _⟩ (fun H locs hP hS => ?_)
          refine lv_istore (lv' := [(4, .int (r10)), (0, .ref (ad (6))), (2, .int (x2)), (3, .int (x3))]) hx hb dX9_release_25 hl (by decide) rfl (fun ls hl => ?_)
          refine lv_aload_n hx hb dX9_release_27 rfl (lv_at hl 1 rfl) ?_
          refine lv_iload_n hx hb dX9_release_28 rfl (lv_at hl 2 rfl) ?_
          refine lv_iconst (v := (0 : Int32)) hx hb dX9_release_29 (by decide) ?_
          replace hF := obnd3_of hF
          obtain ⟨r14, fi12, ar13, h11, hF⟩ := hF
          refine cC_v (As := [.int (x2), .int (0 : Int32)]) (rest := []) hx hb hml hT hown hK hE hD hA hP hS (rcv_X9 hK hP) (kX9_link l g ad rd _ nf ln fi8 ar9 (x2) (0 : Int32) r14 fi12 ar13 h11) cw_X9_link mw16_3 ⟨⟨rfl, rfl⟩, Nat.le_of_ble_eq_true rfl, Nat.le_of_ble_eq_true rfl⟩ rfl hl.1 rfl (Nat.le_of_ble_eq_true rfl) dX9_release_30 ⟨Nat.zero_le _, Nat.zero_le _⟩ (fun H locs hP hS => ?_)
          refine lv_iload hx hb dX9_release_33 (lv_at hl 0 rfl) ?_
          refine lv_istore_n (lv' := [(2, .int (r10)), (4, .int (r10)), (0, .ref (ad (6))), (3, .int (x3))]) hx hb dX9_release_35 rfl hl (by decide) rfl (fun ls hl => ?_)
          obtain ⟨x3_15, ex3_15⟩ : ∃ y : Int32, y = (x3) + (1 : Int32) := ⟨_, rfl⟩
          replace hF := bnd_of hF ex3_15
          refine lv_iinc (v := x3_15) (lv' := [(3, .int (x3_15)), (2, .int (r10)), (4, .int (r10)), (0, .ref (ad (6)))]) hx hb dX9_release_36 hl (k := 3) rfl (by rw [ex3_15]; rfl) (by decide) rfl (fun ls hl => ?_)
          refine lv_goto (tgt := 4) hx hb dX9_release_39 (by decide) ?_
          exact ih4 (r10) (x3_15) _ _ _ _ _ hF (lv_sub hl [3, 1, 0] rfl) hP hS
  replace hl := lv_sub hl [0, 1] rfl
  refine lv_iload_n hx hb dX9_release_0 rfl (lv_at hl 1 rfl) ?_
  refine lv_istore_n (lv' := [(2, .int (p1)), (0, .ref (ad (6))), (1, .int (p1))]) hx hb dX9_release_1 rfl hl (by decide) rfl (fun ls hl => ?_)
  refine lv_iconst (v := (0 : Int32)) hx hb dX9_release_2 (by decide) ?_
  refine lv_istore_n (lv' := [(3, .int (0 : Int32)), (2, .int (p1)), (0, .ref (ad (6))), (1, .int (p1))]) hx hb dX9_release_3 rfl hl (by decide) rfl (fun ls hl => ?_)
  exact L4 nf (p1) (0 : Int32) _ _ _ _ _ hF (lv_sub hl [2, 1, 0] rfl) hP hS
theorem cw_X9_release : (Cond.instanceMethod yX9_release ∈ TB ∧ Cond.selects RX9 yX9_release yX9_release ∈ TB ∧ Cond.code yX9_release cX9_release 5 none ∈ TB ∧ Cond.initialized RX9 ∈ TB) ∧ (yX9_release.cls = RX9 ∧ yX9_release.cls ≠ "java/lang/invoke/MethodHandle" ∧ yX9_release.cls ≠ "java/lang/invoke/VarHandle" ∧ (parseMethodDescriptor yX9_release.desc).map (fun d => d.parameters.length) = some 1) := ⟨⟨mw54_8, mw54_9, mw54_10, mw2_10⟩, by decide +kernel⟩
/-! X10_feed -/
noncomputable def FX10_feed (nf : Nat) (ln : LN) (fi : FI) (ar : AR) (x1 : Int32) (x2 : Int32) (x3 : Int32) (x4 : Int32) (x5 : Int32) : Option (Unit × FI × AR) :=
  obnd3 (FX8_prepare nf ln fi ar (x1) (x2) (x3) (x4) (x5)) fun r4 fi2 ar3 => some ((), fi2, ar3)
set_option maxHeartbeats 4000000 in
set_option maxRecDepth 100000 in
theorem kX10_feed (l : Launch) (g : GT) (ad rd : Nat → Nat) (sz : Nat) (nf : Nat) (ln : LN) (fi : FI) (ar : AR) (p1 : Int32) (p2 : Int32) (p3 : Int32) (p4 : Int32) (p5 : Int32) (r : Unit) (fi' : FI) (ar' : AR) (hF : FX10_feed nf ln fi ar p1 p2 p3 p4 p5 = some (r, fi', ar')) : Met l yX10_feed (wx yX10_feed cX10_feed 6 none) ({ frames := 1, cells := 0, slots := 0, locals := 25 } : Room) (va_Pc [.ref (ad (0)), .int p1, .int p2, .int p3, .int p4, .int p5] (PC g ad rd ln sz fi ar)) (QCv g ad rd ln sz r fi' ar') 0 0 (AC ad rd sz) := by
  refine Met.ofW (cc := cX10_feed) (maxL := 6) (ret := none) (by decide) rfl ?_
  intro p e s m args below meth c s₁ B hml hv
  obtain ⟨rfl, hsz, hP, hK, hD0, hE⟩ := hv
  have hx := B.exec
  have hb := B.bytes
  have hr := B.returns
  have hts := atoms_spec (ws := (wx yX10_feed cX10_feed 6 none)) B.pre
  have hT : ∀ w ∈ TB, w.before _ s = true := fun w h => hts w (List.mem_cons_of_mem _ h)
  have hown : s.vm.findClass RX10 = some m.cls := findClass_of_methodNamed B.named
  have hlocks := B.notSynchronized
  subst hsz
  have hD := dC hD0 s.heap.size
  have hA : ∀ q : Nat, s.heap.size ≤ q → AC ad rd s.heap.size q := fun q h => Or.inr h
  have hS : va_S (AC ad rd s.heap.size) s.heap s.heap [] := va_S.rf
  have hl := lv_entry ([.ref (ad (0)), .int p1, .int p2, .int p3, .int p4, .int p5]) (n := 6) (Nat.le_of_ble_eq_true rfl)
  rw [lg_entry_eq]
  generalize (lg_sl ([.ref (ad (0)), .int p1, .int p2, .int p3, .int p4, .int p5]) ++ List.replicate (6 - (lg_sl ([.ref (ad (0)), .int p1, .int p2, .int p3, .int p4, .int p5])).length) Slot.unset).toArray = ls at hl ⊢
  have hl : lv_has ls 6 [(0, .ref (ad (0))), (1, .int p1), (2, .int p2), (3, .int p3), (4, .int p4), (5, .int p5)] := hl
  unfold FX10_feed at hF
  replace hl := lv_sub hl [0, 1, 2, 3, 4, 5] rfl
  refine lv_aload_n hx hb dX10_feed_0 rfl (lv_at hl 0 rfl) ?_
  refine cg_X10_tape hx hb hT hown hK hP mw2_7 dX10_feed_1 ?_
  refine lv_iload_n hx hb dX10_feed_4 rfl (lv_at hl 1 rfl) ?_
  refine lv_iload_n hx hb dX10_feed_5 rfl (lv_at hl 2 rfl) ?_
  refine lv_iload_n hx hb dX10_feed_6 rfl (lv_at hl 3 rfl) ?_
  refine lv_iload hx hb dX10_feed_7 (lv_at hl 4 rfl) ?_
  refine lv_iload hx hb dX10_feed_9 (lv_at hl 5 rfl) ?_
  replace hF := obnd3_of hF
  obtain ⟨r4, fi2, ar3, h1, hF⟩ := hF
  refine cC_v (As := [.int (p1), .int (p2), .int (p3), .int (p4), .int (p5)]) (rest := []) hx hb hml hT hown hK hE hD hA hP hS (rcv_X8 hK hP) (kX8_prepare l g ad rd _ nf ln fi ar (p1) (p2) (p3) (p4) (p5) r4 fi2 ar3 h1) cw_X8_prepare mw7_3 ⟨⟨rfl, rfl⟩, Nat.le_of_ble_eq_true rfl, Nat.le_of_ble_eq_true rfl⟩ rfl hl.1 rfl (Nat.le_of_ble_eq_true rfl) dX10_feed_11 ⟨Nat.zero_le _, Nat.zero_le _⟩ (fun H locs hP hS => ?_)
  exact rC_v hx hb hr hlocks hF hP hS dX10_feed_14
theorem cw_X10_feed : (Cond.instanceMethod yX10_feed ∈ TB ∧ Cond.selects RX10 yX10_feed yX10_feed ∈ TB ∧ Cond.code yX10_feed cX10_feed 6 none ∈ TB ∧ Cond.initialized RX10 ∈ TB) ∧ (yX10_feed.cls = RX10 ∧ yX10_feed.cls ≠ "java/lang/invoke/MethodHandle" ∧ yX10_feed.cls ≠ "java/lang/invoke/VarHandle" ∧ (parseMethodDescriptor yX10_feed.desc).map (fun d => d.parameters.length) = some 5) := ⟨⟨mw7_0, mw7_1, mw7_2, mw1_2⟩, by decide +kernel⟩
/-! X10_end -/
noncomputable def FX10_end (nf : Nat) (ln : LN) (fi : FI) (ar : AR) (x1 : Int32) : Option (Int32 × FI × AR) :=
  obnd3 (FX8_append nf ln fi ar (x1)) fun r4 fi2 ar3 => some ((r4), fi2, ar3)
set_option maxHeartbeats 4000000 in
set_option maxRecDepth 100000 in
theorem kX10_end (l : Launch) (g : GT) (ad rd : Nat → Nat) (sz : Nat) (nf : Nat) (ln : LN) (fi : FI) (ar : AR) (p1 : Int32) (r : Int32) (fi' : FI) (ar' : AR) (hF : FX10_end nf ln fi ar p1 = some (r, fi', ar')) : Met l yX10_end (wx yX10_end cX10_end 2 (some .int)) ({ frames := 2, cells := 0, slots := 0, locals := 45 } : Room) (va_Pc [.ref (ad (0)), .int p1] (PC g ad rd ln sz fi ar)) (QCi g ad rd ln sz r fi' ar') 0 0 (AC ad rd sz) := by
  refine Met.ofW (cc := cX10_end) (maxL := 2) (ret := (some .int)) (by decide) rfl ?_
  intro p e s m args below meth c s₁ B hml hv
  obtain ⟨rfl, hsz, hP, hK, hD0, hE⟩ := hv
  have hx := B.exec
  have hb := B.bytes
  have hr := B.returns
  have hts := atoms_spec (ws := (wx yX10_end cX10_end 2 (some .int))) B.pre
  have hT : ∀ w ∈ TB, w.before _ s = true := fun w h => hts w (List.mem_cons_of_mem _ h)
  have hown : s.vm.findClass RX10 = some m.cls := findClass_of_methodNamed B.named
  have hlocks := B.notSynchronized
  subst hsz
  have hD := dC hD0 s.heap.size
  have hA : ∀ q : Nat, s.heap.size ≤ q → AC ad rd s.heap.size q := fun q h => Or.inr h
  have hS : va_S (AC ad rd s.heap.size) s.heap s.heap [] := va_S.rf
  have hl := lv_entry ([.ref (ad (0)), .int p1]) (n := 2) (Nat.le_of_ble_eq_true rfl)
  rw [lg_entry_eq]
  generalize (lg_sl ([.ref (ad (0)), .int p1]) ++ List.replicate (2 - (lg_sl ([.ref (ad (0)), .int p1])).length) Slot.unset).toArray = ls at hl ⊢
  have hl : lv_has ls 2 [(0, .ref (ad (0))), (1, .int p1)] := hl
  unfold FX10_end at hF
  replace hl := lv_sub hl [0, 1] rfl
  refine lv_aload_n hx hb dX10_end_0 rfl (lv_at hl 0 rfl) ?_
  refine cg_X10_tape hx hb hT hown hK hP mw2_7 dX10_end_1 ?_
  refine lv_iload_n hx hb dX10_end_4 rfl (lv_at hl 1 rfl) ?_
  replace hF := obnd3_of hF
  obtain ⟨r4, fi2, ar3, h1, hF⟩ := hF
  refine cC_i (As := [.int (p1)]) (rest := []) hx hb hml hT hown hK hE hD hA hP hS (rcv_X8 hK hP) (kX8_append l g ad rd _ nf ln fi ar (p1) r4 fi2 ar3 h1) cw_X8_append mw7_17 ⟨⟨rfl, rfl⟩, Nat.le_of_ble_eq_true rfl, Nat.le_of_ble_eq_true rfl⟩ rfl hl.1 rfl (Nat.le_of_ble_eq_true rfl) dX10_end_5 ⟨Nat.zero_le _, Nat.zero_le _⟩ (fun H locs hP hS => ?_)
  exact rC_i hx hb hr hlocks hF hP hS dX10_end_8
theorem cw_X10_end : (Cond.instanceMethod yX10_end ∈ TB ∧ Cond.selects RX10 yX10_end yX10_end ∈ TB ∧ Cond.code yX10_end cX10_end 2 (some .int) ∈ TB ∧ Cond.initialized RX10 ∈ TB) ∧ (yX10_end.cls = RX10 ∧ yX10_end.cls ≠ "java/lang/invoke/MethodHandle" ∧ yX10_end.cls ≠ "java/lang/invoke/VarHandle" ∧ (parseMethodDescriptor yX10_end.desc).map (fun d => d.parameters.length) = some 1) := ⟨⟨mw7_14, mw7_15, mw7_16, mw1_2⟩, by decide +kernel⟩
/-! X10_clear -/
noncomputable def FX10_clear (nf : Nat) (ln : LN) (fi : FI) (ar : AR)  : Option (Unit × FI × AR) :=
  obnd3 (FX8_take nf ln fi ar) fun r4 fi2 ar3 => some ((), fi2, ar3)
set_option maxHeartbeats 4000000 in
set_option maxRecDepth 100000 in
theorem kX10_clear (l : Launch) (g : GT) (ad rd : Nat → Nat) (sz : Nat) (nf : Nat) (ln : LN) (fi : FI) (ar : AR)  (r : Unit) (fi' : FI) (ar' : AR) (hF : FX10_clear nf ln fi ar  = some (r, fi', ar')) : Met l yX10_clear (wx yX10_clear cX10_clear 1 none) ({ frames := 1, cells := 0, slots := 0, locals := 21 } : Room) (va_Pc [.ref (ad (0))] (PC g ad rd ln sz fi ar)) (QCv g ad rd ln sz r fi' ar') 0 0 (AC ad rd sz) := by
  refine Met.ofW (cc := cX10_clear) (maxL := 1) (ret := none) (by decide) rfl ?_
  intro p e s m args below meth c s₁ B hml hv
  obtain ⟨rfl, hsz, hP, hK, hD0, hE⟩ := hv
  have hx := B.exec
  have hb := B.bytes
  have hr := B.returns
  have hts := atoms_spec (ws := (wx yX10_clear cX10_clear 1 none)) B.pre
  have hT : ∀ w ∈ TB, w.before _ s = true := fun w h => hts w (List.mem_cons_of_mem _ h)
  have hown : s.vm.findClass RX10 = some m.cls := findClass_of_methodNamed B.named
  have hlocks := B.notSynchronized
  subst hsz
  have hD := dC hD0 s.heap.size
  have hA : ∀ q : Nat, s.heap.size ≤ q → AC ad rd s.heap.size q := fun q h => Or.inr h
  have hS : va_S (AC ad rd s.heap.size) s.heap s.heap [] := va_S.rf
  have hl := lv_entry ([.ref (ad (0))]) (n := 1) (Nat.le_of_ble_eq_true rfl)
  rw [lg_entry_eq]
  generalize (lg_sl ([.ref (ad (0))]) ++ List.replicate (1 - (lg_sl ([.ref (ad (0))])).length) Slot.unset).toArray = ls at hl ⊢
  have hl : lv_has ls 1 [(0, .ref (ad (0)))] := hl
  unfold FX10_clear at hF
  replace hl := lv_sub hl [0] rfl
  refine lv_aload_n hx hb dX10_clear_0 rfl (lv_at hl 0 rfl) ?_
  refine cg_X10_tape hx hb hT hown hK hP mw2_7 dX10_clear_1 ?_
  replace hF := obnd3_of hF
  obtain ⟨r4, fi2, ar3, h1, hF⟩ := hF
  refine cC_i (As := []) (rest := []) hx hb hml hT hown hK hE hD hA hP hS (rcv_X8 hK hP) (kX8_take l g ad rd _ nf ln fi ar r4 fi2 ar3 h1) cw_X8_take mw8_11 ⟨⟨rfl, rfl⟩, Nat.le_of_ble_eq_true rfl, Nat.le_of_ble_eq_true rfl⟩ rfl hl.1 rfl (Nat.le_of_ble_eq_true rfl) dX10_clear_4 ⟨Nat.zero_le _, Nat.zero_le _⟩ (fun H locs hP hS => ?_)
  refine lv_pop hx hb dX10_clear_7 rfl ?_
  exact rC_v hx hb hr hlocks hF hP hS dX10_clear_8
theorem cw_X10_clear : (Cond.instanceMethod yX10_clear ∈ TB ∧ Cond.selects RX10 yX10_clear yX10_clear ∈ TB ∧ Cond.code yX10_clear cX10_clear 1 none ∈ TB ∧ Cond.initialized RX10 ∈ TB) ∧ (yX10_clear.cls = RX10 ∧ yX10_clear.cls ≠ "java/lang/invoke/MethodHandle" ∧ yX10_clear.cls ≠ "java/lang/invoke/VarHandle" ∧ (parseMethodDescriptor yX10_clear.desc).map (fun d => d.parameters.length) = some 0) := ⟨⟨mw8_8, mw8_9, mw8_10, mw1_2⟩, by decide +kernel⟩
/-! X10_writeEntry -/
noncomputable def FX10_writeEntry (nf : Nat) (ln : LN) (fi : FI) (ar : AR) (x1 : Int32) (x2 : Int32) (x3 : Int32) : Option (Unit × FI × AR) :=
  obnd3 (FX3_fill nf ln fi ar (x1) (32 : Int32) (0 : Int32)) fun r4 fi2 ar3 => obnd3 (FX7_store nf ln 0 fi2 ar3 (x1)) fun r8 fi6 ar7 => obnd3 (FX3_putOne nf ln fi6 ar7 ((x1) + (11 : Int32)) (x2)) fun r12 fi10 ar11 => obnd3 (FX3_putTwo nf ln fi10 ar11 ((x1) + (24 : Int32)) (33 : Int32)) fun r16 fi14 ar15 => obnd3 (FX3_putFirstCluster nf ln fi14 ar15 (x1) (x3)) fun r20 fi18 ar19 => some ((), fi18, ar19)
set_option maxHeartbeats 4000000 in
set_option maxRecDepth 100000 in
theorem kX10_writeEntry (l : Launch) (g : GT) (ad rd : Nat → Nat) (sz : Nat) (nf : Nat) (ln : LN) (fi : FI) (ar : AR) (p1 : Int32) (p2 : Int32) (p3 : Int32) (r : Unit) (fi' : FI) (ar' : AR) (hF : FX10_writeEntry nf ln fi ar p1 p2 p3 = some (r, fi', ar')) : Met l yX10_writeEntry (wx yX10_writeEntry cX10_writeEntry 4 none) ({ frames := 3, cells := 0, slots := 0, locals := 68 } : Room) (va_Pc [.ref (ad (0)), .int p1, .int p2, .int p3] (PC g ad rd ln sz fi ar)) (QCv g ad rd ln sz r fi' ar') 0 0 (AC ad rd sz) := by
  refine Met.ofW (cc := cX10_writeEntry) (maxL := 4) (ret := none) (by decide) rfl ?_
  intro p e s m args below meth c s₁ B hml hv
  obtain ⟨rfl, hsz, hP, hK, hD0, hE⟩ := hv
  have hx := B.exec
  have hb := B.bytes
  have hr := B.returns
  have hts := atoms_spec (ws := (wx yX10_writeEntry cX10_writeEntry 4 none)) B.pre
  have hT : ∀ w ∈ TB, w.before _ s = true := fun w h => hts w (List.mem_cons_of_mem _ h)
  have hown : s.vm.findClass RX10 = some m.cls := findClass_of_methodNamed B.named
  have hlocks := B.notSynchronized
  subst hsz
  have hD := dC hD0 s.heap.size
  have hA : ∀ q : Nat, s.heap.size ≤ q → AC ad rd s.heap.size q := fun q h => Or.inr h
  have hS : va_S (AC ad rd s.heap.size) s.heap s.heap [] := va_S.rf
  have hl := lv_entry ([.ref (ad (0)), .int p1, .int p2, .int p3]) (n := 4) (Nat.le_of_ble_eq_true rfl)
  rw [lg_entry_eq]
  generalize (lg_sl ([.ref (ad (0)), .int p1, .int p2, .int p3]) ++ List.replicate (4 - (lg_sl ([.ref (ad (0)), .int p1, .int p2, .int p3])).length) Slot.unset).toArray = ls at hl ⊢
  have hl : lv_has ls 4 [(0, .ref (ad (0))), (1, .int p1), (2, .int p2), (3, .int p3)] := hl
  unfold FX10_writeEntry at hF
  replace hl := lv_sub hl [0, 1, 2, 3] rfl
  refine lv_aload_n hx hb dX10_writeEntry_0 rfl (lv_at hl 0 rfl) ?_
  refine cg_X10_disk hx hb hT hown hK hP mw2_3 dX10_writeEntry_1 ?_
  refine lv_iload_n hx hb dX10_writeEntry_4 rfl (lv_at hl 1 rfl) ?_
  refine lv_bipush (v := (32 : Int32)) hx hb dX10_writeEntry_5 (by decide) ?_
  refine lv_iconst (v := (0 : Int32)) hx hb dX10_writeEntry_7 (by decide) ?_
  replace hF := obnd3_of hF
  obtain ⟨r4, fi2, ar3, h1, hF⟩ := hF
  refine cC_v (As := [.int (p1), .int (32 : Int32), .int (0 : Int32)]) (rest := []) hx hb hml hT hown hK hE hD hA hP hS (rcv_X3 hK hP) (kX3_fill l g ad rd _ nf ln fi ar (p1) (32 : Int32) (0 : Int32) r4 fi2 ar3 h1) cw_X3_fill mw16_20 ⟨⟨rfl, rfl⟩, Nat.le_of_ble_eq_true rfl, Nat.le_of_ble_eq_true rfl⟩ rfl hl.1 rfl (Nat.le_of_ble_eq_true rfl) dX10_writeEntry_8 ⟨Nat.zero_le _, Nat.zero_le _⟩ (fun H locs hP hS => ?_)
  refine lv_aload_n hx hb dX10_writeEntry_11 rfl (lv_at hl 0 rfl) ?_
  refine cg_X10_shortName hx hb hT hown hK hP mw3_5 dX10_writeEntry_12 ?_
  refine lv_aload_n hx hb dX10_writeEntry_15 rfl (lv_at hl 0 rfl) ?_
  refine cg_X10_disk hx hb hT hown hK hP mw2_3 dX10_writeEntry_16 ?_
  refine lv_iload_n hx hb dX10_writeEntry_19 rfl (lv_at hl 1 rfl) ?_
  replace hF := obnd3_of hF
  obtain ⟨r8, fi6, ar7, h5, hF⟩ := hF
  refine cC_v (As := [.ref (ad (1)), .int (p1)]) (rest := []) hx hb hml hT hown hK hE hD hA hP hS (rcv_X7 (by decide) hK hP) (kX7_store l g ad rd _ nf ln 0 (by decide) fi2 ar3 (p1) r8 fi6 ar7 h5) cw_X7_store mw16_21 ⟨⟨rfl, rfl⟩, Nat.le_of_ble_eq_true rfl, Nat.le_of_ble_eq_true rfl⟩ rfl hl.1 rfl (Nat.le_of_ble_eq_true rfl) dX10_writeEntry_20 ⟨Nat.zero_le _, Nat.zero_le _⟩ (fun H locs hP hS => ?_)
  refine lv_aload_n hx hb dX10_writeEntry_23 rfl (lv_at hl 0 rfl) ?_
  refine cg_X10_disk hx hb hT hown hK hP mw2_3 dX10_writeEntry_24 ?_
  refine lv_iload_n hx hb dX10_writeEntry_27 rfl (lv_at hl 1 rfl) ?_
  refine lv_bipush (v := (11 : Int32)) hx hb dX10_writeEntry_28 (by decide) ?_
  refine lv_iadd hx hb dX10_writeEntry_30 ?_
  refine lv_iload_n hx hb dX10_writeEntry_31 rfl (lv_at hl 2 rfl) ?_
  replace hF := obnd3_of hF
  obtain ⟨r12, fi10, ar11, h9, hF⟩ := hF
  refine cC_v (As := [.int ((p1) + (11 : Int32)), .int (p2)]) (rest := []) hx hb hml hT hown hK hE hD hA hP hS (rcv_X3 hK hP) (kX3_putOne l g ad rd _ nf ln fi6 ar7 ((p1) + (11 : Int32)) (p2) r12 fi10 ar11 h9) cw_X3_putOne mw17_2 ⟨⟨rfl, rfl⟩, Nat.le_of_ble_eq_true rfl, Nat.le_of_ble_eq_true rfl⟩ rfl hl.1 rfl (Nat.le_of_ble_eq_true rfl) dX10_writeEntry_32 ⟨Nat.zero_le _, Nat.zero_le _⟩ (fun H locs hP hS => ?_)
  refine lv_aload_n hx hb dX10_writeEntry_35 rfl (lv_at hl 0 rfl) ?_
  refine cg_X10_disk hx hb hT hown hK hP mw2_3 dX10_writeEntry_36 ?_
  refine lv_iload_n hx hb dX10_writeEntry_39 rfl (lv_at hl 1 rfl) ?_
  refine lv_bipush (v := (24 : Int32)) hx hb dX10_writeEntry_40 (by decide) ?_
  refine lv_iadd hx hb dX10_writeEntry_42 ?_
  refine lv_bipush (v := (33 : Int32)) hx hb dX10_writeEntry_43 (by decide) ?_
  replace hF := obnd3_of hF
  obtain ⟨r16, fi14, ar15, h13, hF⟩ := hF
  refine cC_v (As := [.int ((p1) + (24 : Int32)), .int (33 : Int32)]) (rest := []) hx hb hml hT hown hK hE hD hA hP hS (rcv_X3 hK hP) (kX3_putTwo l g ad rd _ nf ln fi10 ar11 ((p1) + (24 : Int32)) (33 : Int32) r16 fi14 ar15 h13) cw_X3_putTwo mw17_3 ⟨⟨rfl, rfl⟩, Nat.le_of_ble_eq_true rfl, Nat.le_of_ble_eq_true rfl⟩ rfl hl.1 rfl (Nat.le_of_ble_eq_true rfl) dX10_writeEntry_45 ⟨Nat.zero_le _, Nat.zero_le _⟩ (fun H locs hP hS => ?_)
  refine lv_aload_n hx hb dX10_writeEntry_48 rfl (lv_at hl 0 rfl) ?_
  refine cg_X10_disk hx hb hT hown hK hP mw2_3 dX10_writeEntry_49 ?_
  refine lv_iload_n hx hb dX10_writeEntry_52 rfl (lv_at hl 1 rfl) ?_
  refine lv_iload_n hx hb dX10_writeEntry_53 rfl (lv_at hl 3 rfl) ?_
  replace hF := obnd3_of hF
  obtain ⟨r20, fi18, ar19, h17, hF⟩ := hF
  refine cC_v (As := [.int (p1), .int (p3)]) (rest := []) hx hb hml hT hown hK hE hD hA hP hS (rcv_X3 hK hP) (kX3_putFirstCluster l g ad rd _ nf ln fi14 ar15 (p1) (p3) r20 fi18 ar19 h17) cw_X3_putFirstCluster mw17_4 ⟨⟨rfl, rfl⟩, Nat.le_of_ble_eq_true rfl, Nat.le_of_ble_eq_true rfl⟩ rfl hl.1 rfl (Nat.le_of_ble_eq_true rfl) dX10_writeEntry_54 ⟨Nat.zero_le _, Nat.zero_le _⟩ (fun H locs hP hS => ?_)
  exact rC_v hx hb hr hlocks hF hP hS dX10_writeEntry_57
theorem cw_X10_writeEntry : (Cond.instanceMethod yX10_writeEntry ∈ TB ∧ Cond.selects RX10 yX10_writeEntry yX10_writeEntry ∈ TB ∧ Cond.code yX10_writeEntry cX10_writeEntry 4 none ∈ TB ∧ Cond.initialized RX10 ∈ TB) ∧ (yX10_writeEntry.cls = RX10 ∧ yX10_writeEntry.cls ≠ "java/lang/invoke/MethodHandle" ∧ yX10_writeEntry.cls ≠ "java/lang/invoke/VarHandle" ∧ (parseMethodDescriptor yX10_writeEntry.desc).map (fun d => d.parameters.length) = some 3) := ⟨⟨mw16_17, mw16_18, mw16_19, mw1_2⟩, by decide +kernel⟩
/-! X10_forgetState -/
noncomputable def FX10_forgetState (nf : Nat) (ln : LN) (fi : FI) (ar : AR)  : Option (Unit × FI × AR) :=
  bnd (va_up fi (0) (0 : Int32)) fun fi1 => bnd (va_up fi1 (1) (-1 : Int32)) fun fi2 => some ((), fi2, ar)
set_option maxHeartbeats 4000000 in
set_option maxRecDepth 100000 in
theorem kX10_forgetState (l : Launch) (g : GT) (ad rd : Nat → Nat) (sz : Nat) (nf : Nat) (ln : LN) (fi : FI) (ar : AR)  (r : Unit) (fi' : FI) (ar' : AR) (hF : FX10_forgetState nf ln fi ar  = some (r, fi', ar')) : Met l yX10_forgetState (wx yX10_forgetState cX10_forgetState 1 none) ({ frames := 0, cells := 0, slots := 0, locals := 0 } : Room) (va_Pc [.ref (ad (0))] (PC g ad rd ln sz fi ar)) (QCv g ad rd ln sz r fi' ar') 0 0 (AC ad rd sz) := by
  refine Met.ofW (cc := cX10_forgetState) (maxL := 1) (ret := none) (by decide) rfl ?_
  intro p e s m args below meth c s₁ B hml hv
  obtain ⟨rfl, hsz, hP, hK, hD0, hE⟩ := hv
  have hx := B.exec
  have hb := B.bytes
  have hr := B.returns
  have hts := atoms_spec (ws := (wx yX10_forgetState cX10_forgetState 1 none)) B.pre
  have hT : ∀ w ∈ TB, w.before _ s = true := fun w h => hts w (List.mem_cons_of_mem _ h)
  have hown : s.vm.findClass RX10 = some m.cls := findClass_of_methodNamed B.named
  have hlocks := B.notSynchronized
  subst hsz
  have hD := dC hD0 s.heap.size
  have hA : ∀ q : Nat, s.heap.size ≤ q → AC ad rd s.heap.size q := fun q h => Or.inr h
  have hS : va_S (AC ad rd s.heap.size) s.heap s.heap [] := va_S.rf
  have hl := lv_entry ([.ref (ad (0))]) (n := 1) (Nat.le_of_ble_eq_true rfl)
  rw [lg_entry_eq]
  generalize (lg_sl ([.ref (ad (0))]) ++ List.replicate (1 - (lg_sl ([.ref (ad (0))])).length) Slot.unset).toArray = ls at hl ⊢
  have hl : lv_has ls 1 [(0, .ref (ad (0)))] := hl
  unfold FX10_forgetState at hF
  replace hl := lv_sub hl [0] rfl
  refine lv_aload_n hx hb dX10_forgetState_0 rfl (lv_at hl 0 rfl) ?_
  refine lv_iconst (v := (0 : Int32)) hx hb dX10_forgetState_1 (by decide) ?_
  obtain ⟨fi1, efi1⟩ : ∃ y : FI, y = va_up fi (0) (0 : Int32) := ⟨_, rfl⟩
  replace hF := bnd_of hF efi1
  refine cp_X10_place hx hb hT hown hK hP hD hS mw3_6 dX10_forgetState_2 (fun H locs hP hS => ?_)
  rw [← efi1] at hP
  refine lv_aload_n hx hb dX10_forgetState_5 rfl (lv_at hl 0 rfl) ?_
  refine lv_iconst (v := (-1 : Int32)) hx hb dX10_forgetState_6 (by decide) ?_
  obtain ⟨fi2, efi2⟩ : ∃ y : FI, y = va_up fi1 (1) (-1 : Int32) := ⟨_, rfl⟩
  replace hF := bnd_of hF efi2
  refine cp_X10_knownFault hx hb hT hown hK hP hD hS mw3_7 dX10_forgetState_7 (fun H locs hP hS => ?_)
  rw [← efi2] at hP
  exact rC_v hx hb hr hlocks hF hP hS dX10_forgetState_10
theorem cw_X10_forgetState : (Cond.instanceMethod yX10_forgetState ∈ TB ∧ Cond.selects RX10 yX10_forgetState yX10_forgetState ∈ TB ∧ Cond.code yX10_forgetState cX10_forgetState 1 none ∈ TB ∧ Cond.initialized RX10 ∈ TB) ∧ (yX10_forgetState.cls = RX10 ∧ yX10_forgetState.cls ≠ "java/lang/invoke/MethodHandle" ∧ yX10_forgetState.cls ≠ "java/lang/invoke/VarHandle" ∧ (parseMethodDescriptor yX10_forgetState.desc).map (fun d => d.parameters.length) = some 0) := ⟨⟨mw17_9, mw17_10, mw17_11, mw1_2⟩, by decide +kernel⟩
/-! X10_poke -/
noncomputable def FX10_poke (nf : Nat) (ln : LN) (fi : FI) (ar : AR) (x1 : Int32) (x2 : Int32) (x3 : Int32) : Option (Int32 × FI × AR) :=
  obnd3 (FX3_has nf ln fi ar (x1) (x2)) fun r4 fi2 ar3 => br ((r4) = 0) (some ((0 : Int32), fi2, ar3)) (obnd3 (FX3_putOne nf ln fi2 ar3 (((x1) * (512 : Int32)) + (x2)) (x3)) fun r9 fi7 ar8 => obnd3 (FX10_forgetState nf ln fi7 ar8) fun r13 fi11 ar12 => some ((1 : Int32), fi11, ar12))
set_option maxHeartbeats 4000000 in
set_option maxRecDepth 100000 in
theorem kX10_poke (l : Launch) (g : GT) (ad rd : Nat → Nat) (sz : Nat) (nf : Nat) (ln : LN) (fi : FI) (ar : AR) (p1 : Int32) (p2 : Int32) (p3 : Int32) (r : Int32) (fi' : FI) (ar' : AR) (hF : FX10_poke nf ln fi ar p1 p2 p3 = some (r, fi', ar')) : Met l yX10_poke (wx yX10_poke cX10_poke 4 (some .boolean)) ({ frames := 1, cells := 0, slots := 0, locals := 24 } : Room) (va_Pc [.ref (ad (0)), .int p1, .int p2, .int p3] (PC g ad rd ln sz fi ar)) (QCi g ad rd ln sz r fi' ar') 0 0 (AC ad rd sz) := by
  refine Met.ofW (cc := cX10_poke) (maxL := 4) (ret := (some .boolean)) (by decide) rfl ?_
  intro p e s m args below meth c s₁ B hml hv
  obtain ⟨rfl, hsz, hP, hK, hD0, hE⟩ := hv
  have hx := B.exec
  have hb := B.bytes
  have hr := B.returns
  have hts := atoms_spec (ws := (wx yX10_poke cX10_poke 4 (some .boolean))) B.pre
  have hT : ∀ w ∈ TB, w.before _ s = true := fun w h => hts w (List.mem_cons_of_mem _ h)
  have hown : s.vm.findClass RX10 = some m.cls := findClass_of_methodNamed B.named
  have hlocks := B.notSynchronized
  subst hsz
  have hD := dC hD0 s.heap.size
  have hA : ∀ q : Nat, s.heap.size ≤ q → AC ad rd s.heap.size q := fun q h => Or.inr h
  have hS : va_S (AC ad rd s.heap.size) s.heap s.heap [] := va_S.rf
  have hl := lv_entry ([.ref (ad (0)), .int p1, .int p2, .int p3]) (n := 4) (Nat.le_of_ble_eq_true rfl)
  rw [lg_entry_eq]
  generalize (lg_sl ([.ref (ad (0)), .int p1, .int p2, .int p3]) ++ List.replicate (4 - (lg_sl ([.ref (ad (0)), .int p1, .int p2, .int p3])).length) Slot.unset).toArray = ls at hl ⊢
  have hl : lv_has ls 4 [(0, .ref (ad (0))), (1, .int p1), (2, .int p2), (3, .int p3)] := hl
  unfold FX10_poke at hF
  replace hl := lv_sub hl [0, 1, 2, 3] rfl
  refine lv_aload_n hx hb dX10_poke_0 rfl (lv_at hl 0 rfl) ?_
  refine cg_X10_disk hx hb hT hown hK hP mw2_3 dX10_poke_1 ?_
  refine lv_iload_n hx hb dX10_poke_4 rfl (lv_at hl 1 rfl) ?_
  refine lv_iload_n hx hb dX10_poke_5 rfl (lv_at hl 2 rfl) ?_
  replace hF := obnd3_of hF
  obtain ⟨r4, fi2, ar3, h1, hF⟩ := hF
  refine cC_i (As := [.int (p1), .int (p2)]) (rest := []) hx hb hml hT hown hK hE hD hA hP hS (rcv_X3 hK hP) (kX3_has l g ad rd _ nf ln fi ar (p1) (p2) r4 fi2 ar3 h1) cw_X3_has mw21_3 ⟨⟨rfl, rfl⟩, Nat.le_of_ble_eq_true rfl, Nat.le_of_ble_eq_true rfl⟩ rfl hl.1 rfl (Nat.le_of_ble_eq_true rfl) dX10_poke_6 ⟨Nat.zero_le _, Nat.zero_le _⟩ (fun H locs hP hS => ?_)
  refine lv_if_ne (tgt := 14) hx hb dX10_poke_9 (by decide) (fun hc5 => ?_) (fun hc5 => ?_)
  · replace hF := br_no hF hc5
    refine lv_aload_n hx hb dX10_poke_14 rfl (lv_at hl 0 rfl) ?_
    refine cg_X10_disk hx hb hT hown hK hP mw2_3 dX10_poke_15 ?_
    refine lv_iload_n hx hb dX10_poke_18 rfl (lv_at hl 1 rfl) ?_
    refine lv_sipush (v := (512 : Int32)) hx hb dX10_poke_19 (by decide) ?_
    refine lv_imul hx hb dX10_poke_22 ?_
    refine lv_iload_n hx hb dX10_poke_23 rfl (lv_at hl 2 rfl) ?_
    refine lv_iadd hx hb dX10_poke_24 ?_
    refine lv_iload_n hx hb dX10_poke_25 rfl (lv_at hl 3 rfl) ?_
    replace hF := obnd3_of hF
    obtain ⟨r9, fi7, ar8, h6, hF⟩ := hF
    refine cC_v (As := [.int (((p1) * (512 : Int32)) + (p2)), .int (p3)]) (rest := []) hx hb hml hT hown hK hE hD hA hP hS (rcv_X3 hK hP) (kX3_putOne l g ad rd _ nf ln fi2 ar3 (((p1) * (512 : Int32)) + (p2)) (p3) r9 fi7 ar8 h6) cw_X3_putOne mw17_2 ⟨⟨rfl, rfl⟩, Nat.le_of_ble_eq_true rfl, Nat.le_of_ble_eq_true rfl⟩ rfl hl.1 rfl (Nat.le_of_ble_eq_true rfl) dX10_poke_26 ⟨Nat.zero_le _, Nat.zero_le _⟩ (fun H locs hP hS => ?_)
    refine lv_aload_n hx hb dX10_poke_29 rfl (lv_at hl 0 rfl) ?_
    replace hF := obnd3_of hF
    obtain ⟨r13, fi11, ar12, h10, hF⟩ := hF
    refine cC_v (As := []) (rest := []) hx hb hml hT hown hK hE hD hA hP hS (rcv_X10 hK hP) (kX10_forgetState l g ad rd _ nf ln fi7 ar8 r13 fi11 ar12 h10) cw_X10_forgetState mw17_8 ⟨⟨rfl, rfl⟩, Nat.le_of_ble_eq_true rfl, Nat.le_of_ble_eq_true rfl⟩ rfl hl.1 rfl (Nat.le_of_ble_eq_true rfl) dX10_poke_30 ⟨Nat.zero_le _, Nat.zero_le _⟩ (fun H locs hP hS => ?_)
    refine lv_iconst (v := (1 : Int32)) hx hb dX10_poke_33 (by decide) ?_
    exact rC_z hx hb hr hlocks rfl hF hP hS dX10_poke_34
  · replace hF := br_yes hF hc5
    refine lv_iconst (v := (0 : Int32)) hx hb dX10_poke_12 (by decide) ?_
    exact rC_z hx hb hr hlocks rfl hF hP hS dX10_poke_13
theorem cw_X10_poke : (Cond.instanceMethod yX10_poke ∈ TB ∧ Cond.selects RX10 yX10_poke yX10_poke ∈ TB ∧ Cond.code yX10_poke cX10_poke 4 (some .boolean) ∈ TB ∧ Cond.initialized RX10 ∈ TB) ∧ (yX10_poke.cls = RX10 ∧ yX10_poke.cls ≠ "java/lang/invoke/MethodHandle" ∧ yX10_poke.cls ≠ "java/lang/invoke/VarHandle" ∧ (parseMethodDescriptor yX10_poke.desc).map (fun d => d.parameters.length) = some 3) := ⟨⟨mw21_0, mw21_1, mw21_2, mw1_2⟩, by decide +kernel⟩
/-! X10_byteAt -/
noncomputable def FX10_byteAt_37 (nf : Nat) (ln : LN) (x1 : Int32) (x2 : Int32) (fi : FI) (ar : AR) : Option (Int32 × FI × AR) :=
  obnd3 (FX3_one nf ln fi ar (((x1) * (512 : Int32)) + (x2))) fun r4 fi2 ar3 => some ((r4), fi2, ar3)
noncomputable def FX10_byteAt (nf : Nat) (ln : LN) (fi : FI) (ar : AR) (x1 : Int32) (x2 : Int32) : Option (Int32 × FI × AR) :=
  obnd3 (FX3_has nf ln fi ar (x1) (x2)) fun r8 fi6 ar7 => br ((r8) = 0) (some ((-1 : Int32), fi6, ar7)) (obnd3 (FX9_readSectorZero nf ln fi6 ar7) fun r13 fi11 ar12 => br ((r13) = 0) (FX10_byteAt_37 nf ln  (x1) (x2) fi11 ar12) (obnd3 (FX9_inUse nf ln fi11 ar12 (x1)) fun r18 fi16 ar17 => br ((r18) = 0) (some ((-1 : Int32), fi16, ar17)) (FX10_byteAt_37 nf ln  (x1) (x2) fi16 ar17)))
set_option maxHeartbeats 4000000 in
set_option maxRecDepth 100000 in
theorem kX10_byteAt (l : Launch) (g : GT) (ad rd : Nat → Nat) (sz : Nat) (nf : Nat) (ln : LN) (fi : FI) (ar : AR) (p1 : Int32) (p2 : Int32) (r : Int32) (fi' : FI) (ar' : AR) (hF : FX10_byteAt nf ln fi ar p1 p2 = some (r, fi', ar')) : Met l yX10_byteAt (wx yX10_byteAt cX10_byteAt 3 (some .int)) ({ frames := 4, cells := 0, slots := 0, locals := 92 } : Room) (va_Pc [.ref (ad (0)), .int p1, .int p2] (PC g ad rd ln sz fi ar)) (QCi g ad rd ln sz r fi' ar') 0 0 (AC ad rd sz) := by
  refine Met.ofW (cc := cX10_byteAt) (maxL := 3) (ret := (some .int)) (by decide) rfl ?_
  intro p e s m args below meth c s₁ B hml hv
  obtain ⟨rfl, hsz, hP, hK, hD0, hE⟩ := hv
  have hx := B.exec
  have hb := B.bytes
  have hr := B.returns
  have hts := atoms_spec (ws := (wx yX10_byteAt cX10_byteAt 3 (some .int))) B.pre
  have hT : ∀ w ∈ TB, w.before _ s = true := fun w h => hts w (List.mem_cons_of_mem _ h)
  have hown : s.vm.findClass RX10 = some m.cls := findClass_of_methodNamed B.named
  have hlocks := B.notSynchronized
  subst hsz
  have hD := dC hD0 s.heap.size
  have hA : ∀ q : Nat, s.heap.size ≤ q → AC ad rd s.heap.size q := fun q h => Or.inr h
  have hS : va_S (AC ad rd s.heap.size) s.heap s.heap [] := va_S.rf
  have hl := lv_entry ([.ref (ad (0)), .int p1, .int p2]) (n := 3) (Nat.le_of_ble_eq_true rfl)
  rw [lg_entry_eq]
  generalize (lg_sl ([.ref (ad (0)), .int p1, .int p2]) ++ List.replicate (3 - (lg_sl ([.ref (ad (0)), .int p1, .int p2])).length) Slot.unset).toArray = ls at hl ⊢
  have hl : lv_has ls 3 [(0, .ref (ad (0))), (1, .int p1), (2, .int p2)] := hl
  unfold FX10_byteAt at hF
  have J37 : ∀ (x1 : Int32) (x2 : Int32) (fi : FI) (ar : AR) (H : Heap) (locs : List Loc) (ls : Array Slot), FX10_byteAt_37 nf ln x1 x2 fi ar = some (r, fi', ar') → lv_has ls 3 [(0, .ref (ad (0))), (1, .int x1), (2, .int x2)] → va_P (gD g) vwCl (WC g ad rd ln fi ar) H → va_S (AC ad rd s.heap.size) s.heap H locs → W p l e (headSpec (wx yX10_byteAt cX10_byteAt 3 (some .int)) ({ frames := 4, cells := 0, slots := 0, locals := 92 } : Room)).room s m ([.ref (ad (0)), .int p1, .int p2] : List Value).toArray below meth c H locs 0 0 (MQ below (QCi g ad rd ln s.heap.size r fi' ar') ([.ref (ad (0)), .int p1, .int p2] : List Value).toArray s 0 0 (AC ad rd s.heap.size)) (F0 m 37 ls []) := by
    intro x1 x2 fi ar H locs ls hF hl hP hS
    unfold FX10_byteAt_37 at hF
    refine lv_aload_n hx hb dX10_byteAt_37 rfl (lv_at hl 0 rfl) ?_
    refine cg_X10_disk hx hb hT hown hK hP mw2_3 dX10_byteAt_38 ?_
    refine lv_iload_n hx hb dX10_byteAt_41 rfl (lv_at hl 1 rfl) ?_
    refine lv_sipush (v := (512 : Int32)) hx hb dX10_byteAt_42 (by decide) ?_
    refine lv_imul hx hb dX10_byteAt_45 ?_
    refine lv_iload_n hx hb dX10_byteAt_46 rfl (lv_at hl 2 rfl) ?_
    refine lv_iadd hx hb dX10_byteAt_47 ?_
    replace hF := obnd3_of hF
    obtain ⟨r4, fi2, ar3, h1, hF⟩ := hF
    refine cC_i (As := [.int (((x1) * (512 : Int32)) + (x2))]) (rest := []) hx hb hml hT hown hK hE hD hA hP hS (rcv_X3 hK hP) (kX3_one l g ad rd _ nf ln fi ar (((x1) * (512 : Int32)) + (x2)) r4 fi2 ar3 h1) cw_X3_one mw36_10 ⟨⟨rfl, rfl⟩, Nat.le_of_ble_eq_true rfl, Nat.le_of_ble_eq_true rfl⟩ rfl hl.1 rfl (Nat.le_of_ble_eq_true rfl) dX10_byteAt_48 ⟨Nat.zero_le _, Nat.zero_le _⟩ (fun H locs hP hS => ?_)
    exact rC_i hx hb hr hlocks hF hP hS dX10_byteAt_51
  replace hl := lv_sub hl [0, 1, 2] rfl
  refine lv_aload_n hx hb dX10_byteAt_0 rfl (lv_at hl 0 rfl) ?_
  refine cg_X10_disk hx hb hT hown hK hP mw2_3 dX10_byteAt_1 ?_
  refine lv_iload_n hx hb dX10_byteAt_4 rfl (lv_at hl 1 rfl) ?_
  refine lv_iload_n hx hb dX10_byteAt_5 rfl (lv_at hl 2 rfl) ?_
  replace hF := obnd3_of hF
  obtain ⟨r8, fi6, ar7, h5, hF⟩ := hF
  refine cC_i (As := [.int (p1), .int (p2)]) (rest := []) hx hb hml hT hown hK hE hD hA hP hS (rcv_X3 hK hP) (kX3_has l g ad rd _ nf ln fi ar (p1) (p2) r8 fi6 ar7 h5) cw_X3_has mw21_3 ⟨⟨rfl, rfl⟩, Nat.le_of_ble_eq_true rfl, Nat.le_of_ble_eq_true rfl⟩ rfl hl.1 rfl (Nat.le_of_ble_eq_true rfl) dX10_byteAt_6 ⟨Nat.zero_le _, Nat.zero_le _⟩ (fun H locs hP hS => ?_)
  refine lv_if_ne (tgt := 14) hx hb dX10_byteAt_9 (by decide) (fun hc9 => ?_) (fun hc9 => ?_)
  · replace hF := br_no hF hc9
    refine lv_aload_n hx hb dX10_byteAt_14 rfl (lv_at hl 0 rfl) ?_
    refine cg_X10_volume hx hb hT hown hK hP mw2_11 dX10_byteAt_15 ?_
    replace hF := obnd3_of hF
    obtain ⟨r13, fi11, ar12, h10, hF⟩ := hF
    refine cC_i (As := []) (rest := []) hx hb hml hT hown hK hE hD hA hP hS (rcv_X9 hK hP) (kX9_readSectorZero l g ad rd _ nf ln fi6 ar7 r13 fi11 ar12 h10) cw_X9_readSectorZero mw36_5 ⟨⟨rfl, rfl⟩, Nat.le_of_ble_eq_true rfl, Nat.le_of_ble_eq_true rfl⟩ rfl hl.1 rfl (Nat.le_of_ble_eq_true rfl) dX10_byteAt_18 ⟨Nat.zero_le _, Nat.zero_le _⟩ (fun H locs hP hS => ?_)
    refine lv_if_eq (tgt := 37) hx hb dX10_byteAt_21 (by decide) (fun hc14 => ?_) (fun hc14 => ?_)
    · replace hF := br_yes hF hc14
      exact J37 (p1) (p2) _ _ _ _ _ hF (lv_sub hl [0, 1, 2] rfl) hP hS
    · replace hF := br_no hF hc14
      refine lv_aload_n hx hb dX10_byteAt_24 rfl (lv_at hl 0 rfl) ?_
      refine cg_X10_volume hx hb hT hown hK hP mw2_11 dX10_byteAt_25 ?_
      refine lv_iload_n hx hb dX10_byteAt_28 rfl (lv_at hl 1 rfl) ?_
      replace hF := obnd3_of hF
      obtain ⟨r18, fi16, ar17, h15, hF⟩ := hF
      refine cC_i (As := [.int (p1)]) (rest := []) hx hb hml hT hown hK hE hD hA hP hS (rcv_X9 hK hP) (kX9_inUse l g ad rd _ nf ln fi11 ar12 (p1) r18 fi16 ar17 h15) cw_X9_inUse mw36_6 ⟨⟨rfl, rfl⟩, Nat.le_of_ble_eq_true rfl, Nat.le_of_ble_eq_true rfl⟩ rfl hl.1 rfl (Nat.le_of_ble_eq_true rfl) dX10_byteAt_29 ⟨Nat.zero_le _, Nat.zero_le _⟩ (fun H locs hP hS => ?_)
      refine lv_if_ne (tgt := 37) hx hb dX10_byteAt_32 (by decide) (fun hc19 => ?_) (fun hc19 => ?_)
      · replace hF := br_no hF hc19
        exact J37 (p1) (p2) _ _ _ _ _ hF (lv_sub hl [0, 1, 2] rfl) hP hS
      · replace hF := br_yes hF hc19
        refine lv_iconst (v := (-1 : Int32)) hx hb dX10_byteAt_35 (by decide) ?_
        exact rC_i hx hb hr hlocks hF hP hS dX10_byteAt_36
  · replace hF := br_yes hF hc9
    refine lv_iconst (v := (-1 : Int32)) hx hb dX10_byteAt_12 (by decide) ?_
    exact rC_i hx hb hr hlocks hF hP hS dX10_byteAt_13
theorem cw_X10_byteAt : (Cond.instanceMethod yX10_byteAt ∈ TB ∧ Cond.selects RX10 yX10_byteAt yX10_byteAt ∈ TB ∧ Cond.code yX10_byteAt cX10_byteAt 3 (some .int) ∈ TB ∧ Cond.initialized RX10 ∈ TB) ∧ (yX10_byteAt.cls = RX10 ∧ yX10_byteAt.cls ≠ "java/lang/invoke/MethodHandle" ∧ yX10_byteAt.cls ≠ "java/lang/invoke/VarHandle" ∧ (parseMethodDescriptor yX10_byteAt.desc).map (fun d => d.parameters.length) = some 2) := ⟨⟨mw36_2, mw36_3, mw36_4, mw1_2⟩, by decide +kernel⟩
/-! X10_free -/
noncomputable def FX10_free_21 (nf : Nat) (ln : LN) (t0 : Int32) (fi : FI) (ar : AR) : Option (Int32 × FI × AR) :=
  some ((t0), fi, ar)
noncomputable def FX10_free (nf : Nat) (ln : LN) (fi : FI) (ar : AR)  : Option (Int32 × FI × AR) :=
  obnd3 (FX9_readSectorZero nf ln fi ar) fun r4 fi2 ar3 => br ((r4) = 0) (FX10_free_21 nf ln  (-1 : Int32) fi2 ar3) (obnd3 (FX9_freeClusters nf ln fi2 ar3) fun r9 fi7 ar8 => FX10_free_21 nf ln  (r9) fi7 ar8)
set_option maxHeartbeats 4000000 in
set_option maxRecDepth 100000 in
theorem kX10_free (l : Launch) (g : GT) (ad rd : Nat → Nat) (sz : Nat) (nf : Nat) (ln : LN) (fi : FI) (ar : AR)  (r : Int32) (fi' : FI) (ar' : AR) (hF : FX10_free nf ln fi ar  = some (r, fi', ar')) : Met l yX10_free (wx yX10_free cX10_free 1 (some .int)) ({ frames := 4, cells := 0, slots := 0, locals := 92 } : Room) (va_Pc [.ref (ad (0))] (PC g ad rd ln sz fi ar)) (QCi g ad rd ln sz r fi' ar') 0 0 (AC ad rd sz) := by
  refine Met.ofW (cc := cX10_free) (maxL := 1) (ret := (some .int)) (by decide) rfl ?_
  intro p e s m args below meth c s₁ B hml hv
  obtain ⟨rfl, hsz, hP, hK, hD0, hE⟩ := hv
  have hx := B.exec
  have hb := B.bytes
  have hr := B.returns
  have hts := atoms_spec (ws := (wx yX10_free cX10_free 1 (some .int))) B.pre
  have hT : ∀ w ∈ TB, w.before _ s = true := fun w h => hts w (List.mem_cons_of_mem _ h)
  have hown : s.vm.findClass RX10 = some m.cls := findClass_of_methodNamed B.named
  have hlocks := B.notSynchronized
  subst hsz
  have hD := dC hD0 s.heap.size
  have hA : ∀ q : Nat, s.heap.size ≤ q → AC ad rd s.heap.size q := fun q h => Or.inr h
  have hS : va_S (AC ad rd s.heap.size) s.heap s.heap [] := va_S.rf
  have hl := lv_entry ([.ref (ad (0))]) (n := 1) (Nat.le_of_ble_eq_true rfl)
  rw [lg_entry_eq]
  generalize (lg_sl ([.ref (ad (0))]) ++ List.replicate (1 - (lg_sl ([.ref (ad (0))])).length) Slot.unset).toArray = ls at hl ⊢
  have hl : lv_has ls 1 [(0, .ref (ad (0)))] := hl
  unfold FX10_free at hF
  have J21 : ∀ (t0 : Int32) (fi : FI) (ar : AR) (H : Heap) (locs : List Loc) (ls : Array Slot), FX10_free_21 nf ln t0 fi ar = some (r, fi', ar') → lv_has ls 1 [(0, .ref (ad (0)))] → va_P (gD g) vwCl (WC g ad rd ln fi ar) H → va_S (AC ad rd s.heap.size) s.heap H locs → W p l e (headSpec (wx yX10_free cX10_free 1 (some .int)) ({ frames := 4, cells := 0, slots := 0, locals := 92 } : Room)).room s m ([.ref (ad (0))] : List Value).toArray below meth c H locs 0 0 (MQ below (QCi g ad rd ln s.heap.size r fi' ar') ([.ref (ad (0))] : List Value).toArray s 0 0 (AC ad rd s.heap.size)) (F0 m 21 ls [.int t0]) := by
    intro t0 fi ar H locs ls hF hl hP hS
    unfold FX10_free_21 at hF
    exact rC_i hx hb hr hlocks hF hP hS dX10_free_21
  replace hl := lv_sub hl [0] rfl
  refine lv_aload_n hx hb dX10_free_0 rfl (lv_at hl 0 rfl) ?_
  refine cg_X10_volume hx hb hT hown hK hP mw2_11 dX10_free_1 ?_
  replace hF := obnd3_of hF
  obtain ⟨r4, fi2, ar3, h1, hF⟩ := hF
  refine cC_i (As := []) (rest := []) hx hb hml hT hown hK hE hD hA hP hS (rcv_X9 hK hP) (kX9_readSectorZero l g ad rd _ nf ln fi ar r4 fi2 ar3 h1) cw_X9_readSectorZero mw36_5 ⟨⟨rfl, rfl⟩, Nat.le_of_ble_eq_true rfl, Nat.le_of_ble_eq_true rfl⟩ rfl hl.1 rfl (Nat.le_of_ble_eq_true rfl) dX10_free_4 ⟨Nat.zero_le _, Nat.zero_le _⟩ (fun H locs hP hS => ?_)
  refine lv_if_eq (tgt := 20) hx hb dX10_free_7 (by decide) (fun hc5 => ?_) (fun hc5 => ?_)
  · replace hF := br_yes hF hc5
    refine lv_iconst (v := (-1 : Int32)) hx hb dX10_free_20 (by decide) ?_
    exact J21 (-1 : Int32) _ _ _ _ _ hF (lv_sub hl [0] rfl) hP hS
  · replace hF := br_no hF hc5
    refine lv_aload_n hx hb dX10_free_10 rfl (lv_at hl 0 rfl) ?_
    refine cg_X10_volume hx hb hT hown hK hP mw2_11 dX10_free_11 ?_
    replace hF := obnd3_of hF
    obtain ⟨r9, fi7, ar8, h6, hF⟩ := hF
    refine cC_i (As := []) (rest := []) hx hb hml hT hown hK hE hD hA hP hS (rcv_X9 hK hP) (kX9_freeClusters l g ad rd _ nf ln fi2 ar3 r9 fi7 ar8 h6) cw_X9_freeClusters mw36_19 ⟨⟨rfl, rfl⟩, Nat.le_of_ble_eq_true rfl, Nat.le_of_ble_eq_true rfl⟩ rfl hl.1 rfl (Nat.le_of_ble_eq_true rfl) dX10_free_14 ⟨Nat.zero_le _, Nat.zero_le _⟩ (fun H locs hP hS => ?_)
    refine lv_goto (tgt := 21) hx hb dX10_free_17 (by decide) ?_
    exact J21 (r9) _ _ _ _ _ hF (lv_sub hl [0] rfl) hP hS
theorem cw_X10_free : (Cond.instanceMethod yX10_free ∈ TB ∧ Cond.selects RX10 yX10_free yX10_free ∈ TB ∧ Cond.code yX10_free cX10_free 1 (some .int) ∈ TB ∧ Cond.initialized RX10 ∈ TB) ∧ (yX10_free.cls = RX10 ∧ yX10_free.cls ≠ "java/lang/invoke/MethodHandle" ∧ yX10_free.cls ≠ "java/lang/invoke/VarHandle" ∧ (parseMethodDescriptor yX10_free.desc).map (fun d => d.parameters.length) = some 0) := ⟨⟨mw36_16, mw36_17, mw36_18, mw1_2⟩, by decide +kernel⟩
/-! X10_isDirectory -/
noncomputable def FX10_isDirectory_22 (nf : Nat) (ln : LN) (t0 : Int32) (fi : FI) (ar : AR) : Option (Int32 × FI × AR) :=
  gd ((t0) &&& 1 = (t0)) (some ((t0), fi, ar))
noncomputable def FX10_isDirectory (nf : Nat) (ln : LN) (fi : FI) (ar : AR) (x1 : Int32) : Option (Int32 × FI × AR) :=
  obnd3 (FX3_one nf ln fi ar ((x1) + (11 : Int32))) fun r5 fi3 ar4 => br (((r5) &&& (16 : Int32)) = 0) (FX10_isDirectory_22 nf ln  (0 : Int32) fi3 ar4) (FX10_isDirectory_22 nf ln  (1 : Int32) fi3 ar4)
set_option maxHeartbeats 4000000 in
set_option maxRecDepth 100000 in
theorem kX10_isDirectory (l : Launch) (g : GT) (ad rd : Nat → Nat) (sz : Nat) (nf : Nat) (ln : LN) (fi : FI) (ar : AR) (p1 : Int32) (r : Int32) (fi' : FI) (ar' : AR) (hF : FX10_isDirectory nf ln fi ar p1 = some (r, fi', ar')) : Met l yX10_isDirectory (wx yX10_isDirectory cX10_isDirectory 2 (some .boolean)) ({ frames := 1, cells := 0, slots := 0, locals := 22 } : Room) (va_Pc [.ref (ad (0)), .int p1] (PC g ad rd ln sz fi ar)) (QCi g ad rd ln sz r fi' ar') 0 0 (AC ad rd sz) := by
  refine Met.ofW (cc := cX10_isDirectory) (maxL := 2) (ret := (some .boolean)) (by decide) rfl ?_
  intro p e s m args below meth c s₁ B hml hv
  obtain ⟨rfl, hsz, hP, hK, hD0, hE⟩ := hv
  have hx := B.exec
  have hb := B.bytes
  have hr := B.returns
  have hts := atoms_spec (ws := (wx yX10_isDirectory cX10_isDirectory 2 (some .boolean))) B.pre
  have hT : ∀ w ∈ TB, w.before _ s = true := fun w h => hts w (List.mem_cons_of_mem _ h)
  have hown : s.vm.findClass RX10 = some m.cls := findClass_of_methodNamed B.named
  have hlocks := B.notSynchronized
  subst hsz
  have hD := dC hD0 s.heap.size
  have hA : ∀ q : Nat, s.heap.size ≤ q → AC ad rd s.heap.size q := fun q h => Or.inr h
  have hS : va_S (AC ad rd s.heap.size) s.heap s.heap [] := va_S.rf
  have hl := lv_entry ([.ref (ad (0)), .int p1]) (n := 2) (Nat.le_of_ble_eq_true rfl)
  rw [lg_entry_eq]
  generalize (lg_sl ([.ref (ad (0)), .int p1]) ++ List.replicate (2 - (lg_sl ([.ref (ad (0)), .int p1])).length) Slot.unset).toArray = ls at hl ⊢
  have hl : lv_has ls 2 [(0, .ref (ad (0))), (1, .int p1)] := hl
  unfold FX10_isDirectory at hF
  have J22 : ∀ (t0 : Int32) (fi : FI) (ar : AR) (H : Heap) (locs : List Loc) (ls : Array Slot), FX10_isDirectory_22 nf ln t0 fi ar = some (r, fi', ar') → lv_has ls 2 [(0, .ref (ad (0)))] → va_P (gD g) vwCl (WC g ad rd ln fi ar) H → va_S (AC ad rd s.heap.size) s.heap H locs → W p l e (headSpec (wx yX10_isDirectory cX10_isDirectory 2 (some .boolean)) ({ frames := 1, cells := 0, slots := 0, locals := 22 } : Room)).room s m ([.ref (ad (0)), .int p1] : List Value).toArray below meth c H locs 0 0 (MQ below (QCi g ad rd ln s.heap.size r fi' ar') ([.ref (ad (0)), .int p1] : List Value).toArray s 0 0 (AC ad rd s.heap.size)) (F0 m 22 ls [.int t0]) := by
    intro t0 fi ar H locs ls hF hl hP hS
    unfold FX10_isDirectory_22 at hF
    replace hF := gd_of hF
    obtain ⟨hz1, hF⟩ := hF
    exact rC_z hx hb hr hlocks (nar_z hz1) hF hP hS dX10_isDirectory_22
  replace hl := lv_sub hl [0, 1] rfl
  refine lv_aload_n hx hb dX10_isDirectory_0 rfl (lv_at hl 0 rfl) ?_
  refine cg_X10_disk hx hb hT hown hK hP mw2_3 dX10_isDirectory_1 ?_
  refine lv_iload_n hx hb dX10_isDirectory_4 rfl (lv_at hl 1 rfl) ?_
  refine lv_bipush (v := (11 : Int32)) hx hb dX10_isDirectory_5 (by decide) ?_
  refine lv_iadd hx hb dX10_isDirectory_7 ?_
  replace hF := obnd3_of hF
  obtain ⟨r5, fi3, ar4, h2, hF⟩ := hF
  refine cC_i (As := [.int ((p1) + (11 : Int32))]) (rest := []) hx hb hml hT hown hK hE hD hA hP hS (rcv_X3 hK hP) (kX3_one l g ad rd _ nf ln fi ar ((p1) + (11 : Int32)) r5 fi3 ar4 h2) cw_X3_one mw36_10 ⟨⟨rfl, rfl⟩, Nat.le_of_ble_eq_true rfl, Nat.le_of_ble_eq_true rfl⟩ rfl hl.1 rfl (Nat.le_of_ble_eq_true rfl) dX10_isDirectory_8 ⟨Nat.zero_le _, Nat.zero_le _⟩ (fun H locs hP hS => ?_)
  refine lv_bipush (v := (16 : Int32)) hx hb dX10_isDirectory_11 (by decide) ?_
  refine lv_iand hx hb dX10_isDirectory_13 ?_
  refine lv_if_eq (tgt := 21) hx hb dX10_isDirectory_14 (by decide) (fun hc6 => ?_) (fun hc6 => ?_)
  · replace hF := br_yes hF hc6
    refine lv_iconst (v := (0 : Int32)) hx hb dX10_isDirectory_21 (by decide) ?_
    exact J22 (0 : Int32) _ _ _ _ _ hF (lv_sub hl [0] rfl) hP hS
  · replace hF := br_no hF hc6
    refine lv_iconst (v := (1 : Int32)) hx hb dX10_isDirectory_17 (by decide) ?_
    refine lv_goto (tgt := 22) hx hb dX10_isDirectory_18 (by decide) ?_
    exact J22 (1 : Int32) _ _ _ _ _ hF (lv_sub hl [0] rfl) hP hS
theorem cw_X10_isDirectory : (Cond.instanceMethod yX10_isDirectory ∈ TB ∧ Cond.selects RX10 yX10_isDirectory yX10_isDirectory ∈ TB ∧ Cond.code yX10_isDirectory cX10_isDirectory 2 (some .boolean) ∈ TB ∧ Cond.initialized RX10 ∈ TB) ∧ (yX10_isDirectory.cls = RX10 ∧ yX10_isDirectory.cls ≠ "java/lang/invoke/MethodHandle" ∧ yX10_isDirectory.cls ≠ "java/lang/invoke/VarHandle" ∧ (parseMethodDescriptor yX10_isDirectory.desc).map (fun d => d.parameters.length) = some 1) := ⟨⟨mw41_2, mw41_3, mw41_4, mw1_2⟩, by decide +kernel⟩
/-! X10_secondsOfWritten -/
noncomputable def FX10_secondsOfWritten (nf : Nat) (ln : LN) (fi : FI) (ar : AR) (x1 : Int32) : Option (Int64 × FI × AR) :=
  obnd3 (FX3_two nf ln fi ar ((x1) + (24 : Int32))) fun r4 fi2 ar3 => obnd3 (FX3_two nf ln fi2 ar3 ((x1) + (22 : Int32))) fun r8 fi6 ar7 => obnd (FX1_seconds nf (r4) (r8)) fun r10 => some ((r10), fi6, ar7)
set_option maxHeartbeats 4000000 in
set_option maxRecDepth 100000 in
theorem kX10_secondsOfWritten (l : Launch) (g : GT) (ad rd : Nat → Nat) (sz : Nat) (nf : Nat) (ln : LN) (fi : FI) (ar : AR) (p1 : Int32) (r : Int64) (fi' : FI) (ar' : AR) (hF : FX10_secondsOfWritten nf ln fi ar p1 = some (r, fi', ar')) : Met l yX10_secondsOfWritten (wx yX10_secondsOfWritten cX10_secondsOfWritten 2 (some .long)) ({ frames := 2, cells := 0, slots := 0, locals := 46 } : Room) (va_Pc [.ref (ad (0)), .int p1] (PC g ad rd ln sz fi ar)) (QCl g ad rd ln sz r fi' ar') 0 0 (AC ad rd sz) := by
  refine Met.ofW (cc := cX10_secondsOfWritten) (maxL := 2) (ret := (some .long)) (by decide) rfl ?_
  intro p e s m args below meth c s₁ B hml hv
  obtain ⟨rfl, hsz, hP, hK, hD0, hE⟩ := hv
  have hx := B.exec
  have hb := B.bytes
  have hr := B.returns
  have hts := atoms_spec (ws := (wx yX10_secondsOfWritten cX10_secondsOfWritten 2 (some .long))) B.pre
  have hT : ∀ w ∈ TB, w.before _ s = true := fun w h => hts w (List.mem_cons_of_mem _ h)
  have hown : s.vm.findClass RX10 = some m.cls := findClass_of_methodNamed B.named
  have hlocks := B.notSynchronized
  subst hsz
  have hD := dC hD0 s.heap.size
  have hA : ∀ q : Nat, s.heap.size ≤ q → AC ad rd s.heap.size q := fun q h => Or.inr h
  have hS : va_S (AC ad rd s.heap.size) s.heap s.heap [] := va_S.rf
  have hl := lv_entry ([.ref (ad (0)), .int p1]) (n := 2) (Nat.le_of_ble_eq_true rfl)
  rw [lg_entry_eq]
  generalize (lg_sl ([.ref (ad (0)), .int p1]) ++ List.replicate (2 - (lg_sl ([.ref (ad (0)), .int p1])).length) Slot.unset).toArray = ls at hl ⊢
  have hl : lv_has ls 2 [(0, .ref (ad (0))), (1, .int p1)] := hl
  unfold FX10_secondsOfWritten at hF
  replace hl := lv_sub hl [0, 1] rfl
  refine lv_aload_n hx hb dX10_secondsOfWritten_0 rfl (lv_at hl 0 rfl) ?_
  refine cg_X10_disk hx hb hT hown hK hP mw2_3 dX10_secondsOfWritten_1 ?_
  refine lv_iload_n hx hb dX10_secondsOfWritten_4 rfl (lv_at hl 1 rfl) ?_
  refine lv_bipush (v := (24 : Int32)) hx hb dX10_secondsOfWritten_5 (by decide) ?_
  refine lv_iadd hx hb dX10_secondsOfWritten_7 ?_
  replace hF := obnd3_of hF
  obtain ⟨r4, fi2, ar3, h1, hF⟩ := hF
  refine cC_i (As := [.int ((p1) + (24 : Int32))]) (rest := []) hx hb hml hT hown hK hE hD hA hP hS (rcv_X3 hK hP) (kX3_two l g ad rd _ nf ln fi ar ((p1) + (24 : Int32)) r4 fi2 ar3 h1) cw_X3_two mw41_9 ⟨⟨rfl, rfl⟩, Nat.le_of_ble_eq_true rfl, Nat.le_of_ble_eq_true rfl⟩ rfl hl.1 rfl (Nat.le_of_ble_eq_true rfl) dX10_secondsOfWritten_8 ⟨Nat.zero_le _, Nat.zero_le _⟩ (fun H locs hP hS => ?_)
  refine lv_aload_n hx hb dX10_secondsOfWritten_11 rfl (lv_at hl 0 rfl) ?_
  refine cg_X10_disk hx hb hT hown hK hP mw2_3 dX10_secondsOfWritten_12 ?_
  refine lv_iload_n hx hb dX10_secondsOfWritten_15 rfl (lv_at hl 1 rfl) ?_
  refine lv_bipush (v := (22 : Int32)) hx hb dX10_secondsOfWritten_16 (by decide) ?_
  refine lv_iadd hx hb dX10_secondsOfWritten_18 ?_
  replace hF := obnd3_of hF
  obtain ⟨r8, fi6, ar7, h5, hF⟩ := hF
  refine cC_i (As := [.int ((p1) + (22 : Int32))]) (rest := [.int (r4)]) hx hb hml hT hown hK hE hD hA hP hS (rcv_X3 hK hP) (kX3_two l g ad rd _ nf ln fi2 ar3 ((p1) + (22 : Int32)) r8 fi6 ar7 h5) cw_X3_two mw41_9 ⟨⟨rfl, rfl⟩, Nat.le_of_ble_eq_true rfl, Nat.le_of_ble_eq_true rfl⟩ rfl hl.1 rfl (Nat.le_of_ble_eq_true rfl) dX10_secondsOfWritten_19 ⟨Nat.zero_le _, Nat.zero_le _⟩ (fun H locs hP hS => ?_)
  replace hF := obnd_of hF
  obtain ⟨r10, h9, hF⟩ := hF
  refine cS_l (As := [.int (r4), .int (r8)]) (rest := []) hx hb hml hT hown hE hP hS (kX1_seconds l g nf (r4) (r8) r10 h9) cw_X1_seconds mw41_14 ⟨⟨rfl, rfl⟩, Nat.le_of_ble_eq_true rfl, Nat.le_of_ble_eq_true rfl⟩ rfl hl.1 rfl (Nat.le_of_ble_eq_true rfl) dX10_secondsOfWritten_22 ⟨Nat.zero_le _, Nat.zero_le _⟩ (fun H locs hP hS => ?_)
  exact rC_l hx hb hr hlocks hF hP hS dX10_secondsOfWritten_25
theorem cw_X10_secondsOfWritten : (Cond.instanceMethod yX10_secondsOfWritten ∈ TB ∧ Cond.selects RX10 yX10_secondsOfWritten yX10_secondsOfWritten ∈ TB ∧ Cond.code yX10_secondsOfWritten cX10_secondsOfWritten 2 (some .long) ∈ TB ∧ Cond.initialized RX10 ∈ TB) ∧ (yX10_secondsOfWritten.cls = RX10 ∧ yX10_secondsOfWritten.cls ≠ "java/lang/invoke/MethodHandle" ∧ yX10_secondsOfWritten.cls ≠ "java/lang/invoke/VarHandle" ∧ (parseMethodDescriptor yX10_secondsOfWritten.desc).map (fun d => d.parameters.length) = some 1) := ⟨⟨mw41_11, mw41_12, mw41_13, mw1_2⟩, by decide +kernel⟩
/-! X10_secondsOfRead -/
noncomputable def FX10_secondsOfRead_29 (nf : Nat) (ln : LN) (t0 : Int64) (fi : FI) (ar : AR) : Option (Int64 × FI × AR) :=
  some ((t0), fi, ar)
noncomputable def FX10_secondsOfRead (nf : Nat) (ln : LN) (fi : FI) (ar : AR) (x1 : Int32) : Option (Int64 × FI × AR) :=
  obnd3 (FX3_two nf ln fi ar ((x1) + (18 : Int32))) fun r4 fi2 ar3 => br ((r4) = 0) (obnd3 (FX10_secondsOfWritten nf ln fi2 ar3 (x1)) fun r11 fi9 ar10 => FX10_secondsOfRead_29 nf ln  (r11) fi9 ar10) (obnd (FX1_seconds nf (r4) (0 : Int32)) fun r7 => FX10_secondsOfRead_29 nf ln  (r7) fi2 ar3)
set_option maxHeartbeats 4000000 in
set_option maxRecDepth 100000 in
theorem kX10_secondsOfRead (l : Launch) (g : GT) (ad rd : Nat → Nat) (sz : Nat) (nf : Nat) (ln : LN) (fi : FI) (ar : AR) (p1 : Int32) (r : Int64) (fi' : FI) (ar' : AR) (hF : FX10_secondsOfRead nf ln fi ar p1 = some (r, fi', ar')) : Met l yX10_secondsOfRead (wx yX10_secondsOfRead cX10_secondsOfRead 3 (some .long)) ({ frames := 3, cells := 0, slots := 0, locals := 67 } : Room) (va_Pc [.ref (ad (0)), .int p1] (PC g ad rd ln sz fi ar)) (QCl g ad rd ln sz r fi' ar') 0 0 (AC ad rd sz) := by
  refine Met.ofW (cc := cX10_secondsOfRead) (maxL := 3) (ret := (some .long)) (by decide) rfl ?_
  intro p e s m args below meth c s₁ B hml hv
  obtain ⟨rfl, hsz, hP, hK, hD0, hE⟩ := hv
  have hx := B.exec
  have hb := B.bytes
  have hr := B.returns
  have hts := atoms_spec (ws := (wx yX10_secondsOfRead cX10_secondsOfRead 3 (some .long))) B.pre
  have hT : ∀ w ∈ TB, w.before _ s = true := fun w h => hts w (List.mem_cons_of_mem _ h)
  have hown : s.vm.findClass RX10 = some m.cls := findClass_of_methodNamed B.named
  have hlocks := B.notSynchronized
  subst hsz
  have hD := dC hD0 s.heap.size
  have hA : ∀ q : Nat, s.heap.size ≤ q → AC ad rd s.heap.size q := fun q h => Or.inr h
  have hS : va_S (AC ad rd s.heap.size) s.heap s.heap [] := va_S.rf
  have hl := lv_entry ([.ref (ad (0)), .int p1]) (n := 3) (Nat.le_of_ble_eq_true rfl)
  rw [lg_entry_eq]
  generalize (lg_sl ([.ref (ad (0)), .int p1]) ++ List.replicate (3 - (lg_sl ([.ref (ad (0)), .int p1])).length) Slot.unset).toArray = ls at hl ⊢
  have hl : lv_has ls 3 [(0, .ref (ad (0))), (1, .int p1)] := hl
  unfold FX10_secondsOfRead at hF
  have J29 : ∀ (t0 : Int64) (fi : FI) (ar : AR) (H : Heap) (locs : List Loc) (ls : Array Slot), FX10_secondsOfRead_29 nf ln t0 fi ar = some (r, fi', ar') → lv_has ls 3 [(0, .ref (ad (0)))] → va_P (gD g) vwCl (WC g ad rd ln fi ar) H → va_S (AC ad rd s.heap.size) s.heap H locs → W p l e (headSpec (wx yX10_secondsOfRead cX10_secondsOfRead 3 (some .long)) ({ frames := 3, cells := 0, slots := 0, locals := 67 } : Room)).room s m ([.ref (ad (0)), .int p1] : List Value).toArray below meth c H locs 0 0 (MQ below (QCl g ad rd ln s.heap.size r fi' ar') ([.ref (ad (0)), .int p1] : List Value).toArray s 0 0 (AC ad rd s.heap.size)) (F0 m 29 ls [.long t0]) := by
    intro t0 fi ar H locs ls hF hl hP hS
    unfold FX10_secondsOfRead_29 at hF
    exact rC_l hx hb hr hlocks hF hP hS dX10_secondsOfRead_29
  replace hl := lv_sub hl [0, 1] rfl
  refine lv_aload_n hx hb dX10_secondsOfRead_0 rfl (lv_at hl 0 rfl) ?_
  refine cg_X10_disk hx hb hT hown hK hP mw2_3 dX10_secondsOfRead_1 ?_
  refine lv_iload_n hx hb dX10_secondsOfRead_4 rfl (lv_at hl 1 rfl) ?_
  refine lv_bipush (v := (18 : Int32)) hx hb dX10_secondsOfRead_5 (by decide) ?_
  refine lv_iadd hx hb dX10_secondsOfRead_7 ?_
  replace hF := obnd3_of hF
  obtain ⟨r4, fi2, ar3, h1, hF⟩ := hF
  refine cC_i (As := [.int ((p1) + (18 : Int32))]) (rest := []) hx hb hml hT hown hK hE hD hA hP hS (rcv_X3 hK hP) (kX3_two l g ad rd _ nf ln fi ar ((p1) + (18 : Int32)) r4 fi2 ar3 h1) cw_X3_two mw41_9 ⟨⟨rfl, rfl⟩, Nat.le_of_ble_eq_true rfl, Nat.le_of_ble_eq_true rfl⟩ rfl hl.1 rfl (Nat.le_of_ble_eq_true rfl) dX10_secondsOfRead_8 ⟨Nat.zero_le _, Nat.zero_le _⟩ (fun H locs hP hS => ?_)
  refine lv_istore_n (lv' := [(2, .int (r4)), (0, .ref (ad (0))), (1, .int (p1))]) hx hb dX10_secondsOfRead_11 rfl hl (by decide) rfl (fun ls hl => ?_)
  refine lv_iload_n hx hb dX10_secondsOfRead_12 rfl (lv_at hl 0 rfl) ?_
  refine lv_if_ne (tgt := 24) hx hb dX10_secondsOfRead_13 (by decide) (fun hc5 => ?_) (fun hc5 => ?_)
  · replace hF := br_no hF hc5
    refine lv_iload_n hx hb dX10_secondsOfRead_24 rfl (lv_at hl 0 rfl) ?_
    refine lv_iconst (v := (0 : Int32)) hx hb dX10_secondsOfRead_25 (by decide) ?_
    replace hF := obnd_of hF
    obtain ⟨r7, h6, hF⟩ := hF
    refine cS_l (As := [.int (r4), .int (0 : Int32)]) (rest := []) hx hb hml hT hown hE hP hS (kX1_seconds l g nf (r4) (0 : Int32) r7 h6) cw_X1_seconds mw41_14 ⟨⟨rfl, rfl⟩, Nat.le_of_ble_eq_true rfl, Nat.le_of_ble_eq_true rfl⟩ rfl hl.1 rfl (Nat.le_of_ble_eq_true rfl) dX10_secondsOfRead_26 ⟨Nat.zero_le _, Nat.zero_le _⟩ (fun H locs hP hS => ?_)
    exact J29 (r7) _ _ _ _ _ hF (lv_sub hl [1] rfl) hP hS
  · replace hF := br_yes hF hc5
    refine lv_aload_n hx hb dX10_secondsOfRead_16 rfl (lv_at hl 1 rfl) ?_
    refine lv_iload_n hx hb dX10_secondsOfRead_17 rfl (lv_at hl 2 rfl) ?_
    replace hF := obnd3_of hF
    obtain ⟨r11, fi9, ar10, h8, hF⟩ := hF
    refine cC_l (As := [.int (p1)]) (rest := []) hx hb hml hT hown hK hE hD hA hP hS (rcv_X10 hK hP) (kX10_secondsOfWritten l g ad rd _ nf ln fi2 ar3 (p1) r11 fi9 ar10 h8) cw_X10_secondsOfWritten mw41_10 ⟨⟨rfl, rfl⟩, Nat.le_of_ble_eq_true rfl, Nat.le_of_ble_eq_true rfl⟩ rfl hl.1 rfl (Nat.le_of_ble_eq_true rfl) dX10_secondsOfRead_18 ⟨Nat.zero_le _, Nat.zero_le _⟩ (fun H locs hP hS => ?_)
    refine lv_goto (tgt := 29) hx hb dX10_secondsOfRead_21 (by decide) ?_
    exact J29 (r11) _ _ _ _ _ hF (lv_sub hl [1] rfl) hP hS
theorem cw_X10_secondsOfRead : (Cond.instanceMethod yX10_secondsOfRead ∈ TB ∧ Cond.selects RX10 yX10_secondsOfRead yX10_secondsOfRead ∈ TB ∧ Cond.code yX10_secondsOfRead cX10_secondsOfRead 3 (some .long) ∈ TB ∧ Cond.initialized RX10 ∈ TB) ∧ (yX10_secondsOfRead.cls = RX10 ∧ yX10_secondsOfRead.cls ≠ "java/lang/invoke/MethodHandle" ∧ yX10_secondsOfRead.cls ≠ "java/lang/invoke/VarHandle" ∧ (parseMethodDescriptor yX10_secondsOfRead.desc).map (fun d => d.parameters.length) = some 1) := ⟨⟨mw41_6, mw41_7, mw41_8, mw1_2⟩, by decide +kernel⟩
/-! X10_secondsOfMade -/
noncomputable def FX10_secondsOfMade (nf : Nat) (ln : LN) (fi : FI) (ar : AR) (x1 : Int32) : Option (Int64 × FI × AR) :=
  obnd3 (FX3_two nf ln fi ar ((x1) + (16 : Int32))) fun r4 fi2 ar3 => br ((r4) = 0) (obnd3 (FX10_secondsOfWritten nf ln fi2 ar3 (x1)) fun r19 fi17 ar18 => some ((r19), fi17, ar18)) (obnd3 (FX3_two nf ln fi2 ar3 ((x1) + (14 : Int32))) fun r9 fi7 ar8 => obnd (FX1_seconds nf (r4) (r9)) fun r11 => obnd3 (FX3_one nf ln fi7 ar8 ((x1) + (13 : Int32))) fun r15 fi13 ar14 => some (((r11) + (((r15) / (100 : Int32)).toInt64)), fi13, ar14))
set_option maxHeartbeats 4000000 in
set_option maxRecDepth 100000 in
theorem kX10_secondsOfMade (l : Launch) (g : GT) (ad rd : Nat → Nat) (sz : Nat) (nf : Nat) (ln : LN) (fi : FI) (ar : AR) (p1 : Int32) (r : Int64) (fi' : FI) (ar' : AR) (hF : FX10_secondsOfMade nf ln fi ar p1 = some (r, fi', ar')) : Met l yX10_secondsOfMade (wx yX10_secondsOfMade cX10_secondsOfMade 3 (some .long)) ({ frames := 3, cells := 0, slots := 0, locals := 67 } : Room) (va_Pc [.ref (ad (0)), .int p1] (PC g ad rd ln sz fi ar)) (QCl g ad rd ln sz r fi' ar') 0 0 (AC ad rd sz) := by
  refine Met.ofW (cc := cX10_secondsOfMade) (maxL := 3) (ret := (some .long)) (by decide) rfl ?_
  intro p e s m args below meth c s₁ B hml hv
  obtain ⟨rfl, hsz, hP, hK, hD0, hE⟩ := hv
  have hx := B.exec
  have hb := B.bytes
  have hr := B.returns
  have hts := atoms_spec (ws := (wx yX10_secondsOfMade cX10_secondsOfMade 3 (some .long))) B.pre
  have hT : ∀ w ∈ TB, w.before _ s = true := fun w h => hts w (List.mem_cons_of_mem _ h)
  have hown : s.vm.findClass RX10 = some m.cls := findClass_of_methodNamed B.named
  have hlocks := B.notSynchronized
  subst hsz
  have hD := dC hD0 s.heap.size
  have hA : ∀ q : Nat, s.heap.size ≤ q → AC ad rd s.heap.size q := fun q h => Or.inr h
  have hS : va_S (AC ad rd s.heap.size) s.heap s.heap [] := va_S.rf
  have hl := lv_entry ([.ref (ad (0)), .int p1]) (n := 3) (Nat.le_of_ble_eq_true rfl)
  rw [lg_entry_eq]
  generalize (lg_sl ([.ref (ad (0)), .int p1]) ++ List.replicate (3 - (lg_sl ([.ref (ad (0)), .int p1])).length) Slot.unset).toArray = ls at hl ⊢
  have hl : lv_has ls 3 [(0, .ref (ad (0))), (1, .int p1)] := hl
  unfold FX10_secondsOfMade at hF
  replace hl := lv_sub hl [0, 1] rfl
  refine lv_aload_n hx hb dX10_secondsOfMade_0 rfl (lv_at hl 0 rfl) ?_
  refine cg_X10_disk hx hb hT hown hK hP mw2_3 dX10_secondsOfMade_1 ?_
  refine lv_iload_n hx hb dX10_secondsOfMade_4 rfl (lv_at hl 1 rfl) ?_
  refine lv_bipush (v := (16 : Int32)) hx hb dX10_secondsOfMade_5 (by decide) ?_
  refine lv_iadd hx hb dX10_secondsOfMade_7 ?_
  replace hF := obnd3_of hF
  obtain ⟨r4, fi2, ar3, h1, hF⟩ := hF
  refine cC_i (As := [.int ((p1) + (16 : Int32))]) (rest := []) hx hb hml hT hown hK hE hD hA hP hS (rcv_X3 hK hP) (kX3_two l g ad rd _ nf ln fi ar ((p1) + (16 : Int32)) r4 fi2 ar3 h1) cw_X3_two mw41_9 ⟨⟨rfl, rfl⟩, Nat.le_of_ble_eq_true rfl, Nat.le_of_ble_eq_true rfl⟩ rfl hl.1 rfl (Nat.le_of_ble_eq_true rfl) dX10_secondsOfMade_8 ⟨Nat.zero_le _, Nat.zero_le _⟩ (fun H locs hP hS => ?_)
  refine lv_istore_n (lv' := [(2, .int (r4)), (0, .ref (ad (0))), (1, .int (p1))]) hx hb dX10_secondsOfMade_11 rfl hl (by decide) rfl (fun ls hl => ?_)
  refine lv_iload_n hx hb dX10_secondsOfMade_12 rfl (lv_at hl 0 rfl) ?_
  refine lv_if_ne (tgt := 22) hx hb dX10_secondsOfMade_13 (by decide) (fun hc5 => ?_) (fun hc5 => ?_)
  · replace hF := br_no hF hc5
    refine lv_iload_n hx hb dX10_secondsOfMade_22 rfl (lv_at hl 0 rfl) ?_
    refine lv_aload_n hx hb dX10_secondsOfMade_23 rfl (lv_at hl 1 rfl) ?_
    refine cg_X10_disk hx hb hT hown hK hP mw2_3 dX10_secondsOfMade_24 ?_
    refine lv_iload_n hx hb dX10_secondsOfMade_27 rfl (lv_at hl 2 rfl) ?_
    refine lv_bipush (v := (14 : Int32)) hx hb dX10_secondsOfMade_28 (by decide) ?_
    refine lv_iadd hx hb dX10_secondsOfMade_30 ?_
    replace hF := obnd3_of hF
    obtain ⟨r9, fi7, ar8, h6, hF⟩ := hF
    refine cC_i (As := [.int ((p1) + (14 : Int32))]) (rest := [.int (r4)]) hx hb hml hT hown hK hE hD hA hP hS (rcv_X3 hK hP) (kX3_two l g ad rd _ nf ln fi2 ar3 ((p1) + (14 : Int32)) r9 fi7 ar8 h6) cw_X3_two mw41_9 ⟨⟨rfl, rfl⟩, Nat.le_of_ble_eq_true rfl, Nat.le_of_ble_eq_true rfl⟩ rfl hl.1 rfl (Nat.le_of_ble_eq_true rfl) dX10_secondsOfMade_31 ⟨Nat.zero_le _, Nat.zero_le _⟩ (fun H locs hP hS => ?_)
    replace hF := obnd_of hF
    obtain ⟨r11, h10, hF⟩ := hF
    refine cS_l (As := [.int (r4), .int (r9)]) (rest := []) hx hb hml hT hown hE hP hS (kX1_seconds l g nf (r4) (r9) r11 h10) cw_X1_seconds mw41_14 ⟨⟨rfl, rfl⟩, Nat.le_of_ble_eq_true rfl, Nat.le_of_ble_eq_true rfl⟩ rfl hl.1 rfl (Nat.le_of_ble_eq_true rfl) dX10_secondsOfMade_34 ⟨Nat.zero_le _, Nat.zero_le _⟩ (fun H locs hP hS => ?_)
    refine lv_aload_n hx hb dX10_secondsOfMade_37 rfl (lv_at hl 1 rfl) ?_
    refine cg_X10_disk hx hb hT hown hK hP mw2_3 dX10_secondsOfMade_38 ?_
    refine lv_iload_n hx hb dX10_secondsOfMade_41 rfl (lv_at hl 2 rfl) ?_
    refine lv_bipush (v := (13 : Int32)) hx hb dX10_secondsOfMade_42 (by decide) ?_
    refine lv_iadd hx hb dX10_secondsOfMade_44 ?_
    replace hF := obnd3_of hF
    obtain ⟨r15, fi13, ar14, h12, hF⟩ := hF
    refine cC_i (As := [.int ((p1) + (13 : Int32))]) (rest := [.long (r11)]) hx hb hml hT hown hK hE hD hA hP hS (rcv_X3 hK hP) (kX3_one l g ad rd _ nf ln fi7 ar8 ((p1) + (13 : Int32)) r15 fi13 ar14 h12) cw_X3_one mw36_10 ⟨⟨rfl, rfl⟩, Nat.le_of_ble_eq_true rfl, Nat.le_of_ble_eq_true rfl⟩ rfl hl.1 rfl (Nat.le_of_ble_eq_true rfl) dX10_secondsOfMade_45 ⟨Nat.zero_le _, Nat.zero_le _⟩ (fun H locs hP hS => ?_)
    refine lv_bipush (v := (100 : Int32)) hx hb dX10_secondsOfMade_48 (by decide) ?_
    refine lv_idiv hx hb dX10_secondsOfMade_50 (by decide) ?_
    refine lv_i2l hx hb dX10_secondsOfMade_51 rfl ?_
    refine lv_ladd hx hb dX10_secondsOfMade_52 ?_
    exact rC_l hx hb hr hlocks hF hP hS dX10_secondsOfMade_53
  · replace hF := br_yes hF hc5
    refine lv_aload_n hx hb dX10_secondsOfMade_16 rfl (lv_at hl 1 rfl) ?_
    refine lv_iload_n hx hb dX10_secondsOfMade_17 rfl (lv_at hl 2 rfl) ?_
    replace hF := obnd3_of hF
    obtain ⟨r19, fi17, ar18, h16, hF⟩ := hF
    refine cC_l (As := [.int (p1)]) (rest := []) hx hb hml hT hown hK hE hD hA hP hS (rcv_X10 hK hP) (kX10_secondsOfWritten l g ad rd _ nf ln fi2 ar3 (p1) r19 fi17 ar18 h16) cw_X10_secondsOfWritten mw41_10 ⟨⟨rfl, rfl⟩, Nat.le_of_ble_eq_true rfl, Nat.le_of_ble_eq_true rfl⟩ rfl hl.1 rfl (Nat.le_of_ble_eq_true rfl) dX10_secondsOfMade_18 ⟨Nat.zero_le _, Nat.zero_le _⟩ (fun H locs hP hS => ?_)
    exact rC_l hx hb hr hlocks hF hP hS dX10_secondsOfMade_21
theorem cw_X10_secondsOfMade : (Cond.instanceMethod yX10_secondsOfMade ∈ TB ∧ Cond.selects RX10 yX10_secondsOfMade yX10_secondsOfMade ∈ TB ∧ Cond.code yX10_secondsOfMade cX10_secondsOfMade 3 (some .long) ∈ TB ∧ Cond.initialized RX10 ∈ TB) ∧ (yX10_secondsOfMade.cls = RX10 ∧ yX10_secondsOfMade.cls ≠ "java/lang/invoke/MethodHandle" ∧ yX10_secondsOfMade.cls ≠ "java/lang/invoke/VarHandle" ∧ (parseMethodDescriptor yX10_secondsOfMade.desc).map (fun d => d.parameters.length) = some 1) := ⟨⟨mw41_19, mw41_20, mw41_21, mw1_2⟩, by decide +kernel⟩
