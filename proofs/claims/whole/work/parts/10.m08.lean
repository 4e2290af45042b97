/-! X11_freeOnes -/
noncomputable def M_freeOnes_28 (K4 : Int32 → Int32 → FI → AR → Option (Int32 × FI × AR)) (nf : Nat) (x2 : Int32) (t0 : Int32) (t1 : Int32) (fi : FI) (ar : AR) : Option (Int32 × FI × AR) :=
  bnd ((t0) + (t1)) fun x1_1 => bnd ((x2) + (1 : Int32)) fun x2_2 => K4 (x1_1) (x2_2) fi ar
noncomputable def M_freeOnes_4b (K4 : Int32 → Int32 → FI → AR → Option (Int32 × FI × AR)) (nf : Nat) (x1 : Int32) (x2 : Int32) (fi : FI) (ar : AR) : Option (Int32 × FI × AR) :=
  br (((fi 13) + (2 : Int32)) ≤ (x2)) (some ((x1), fi, ar)) (obnd3 (M_entry nf fi ar (x2)) fun r7 fi5 ar6 => br ((r7) = 0) (M_freeOnes_28 K4 nf  (x2) (x1) (1 : Int32) fi5 ar6) (M_freeOnes_28 K4 nf  (x2) (x1) (0 : Int32) fi5 ar6))
noncomputable def M_freeOnes_4 (nf : Nat) (kf : Nat) : Int32 → Int32 → FI → AR → Option (Int32 × FI × AR) := Nat.rec (fun _ _ _ _ => none) (fun _ K4 => M_freeOnes_4b K4 nf) kf
noncomputable def M_freeOnes (nf : Nat) (fi : FI) (ar : AR)  : Option (Int32 × FI × AR) :=
  M_freeOnes_4 nf nf (0 : Int32) (2 : Int32) fi ar
set_option maxHeartbeats 4000000 in
set_option maxRecDepth 100000 in
theorem k_freeOnes (l : Launch) (g : GT) (am : Nat → Nat) (sz : Nat) (nf : Nat) (fi : FI) (ar : AR)  (r : Int32) (fi' : FI) (ar' : AR) (hF : M_freeOnes nf fi ar  = some (r, fi', ar')) : Met l yX11_freeOnes (wx yX11_freeOnes cX11_freeOnes 3 (some .int)) ({ frames := 4, cells := 0, slots := 0, locals := 84 } : Room) (va_Pc [.ref (am 0)] (PM g am sz fi ar)) (QMi g am sz r fi' ar') 0 0 (AM am sz) := by
  refine Met.ofW (cc := cX11_freeOnes) (maxL := 3) (ret := (some .int)) (by decide) rfl ?_
  intro p e s m args below meth c s₁ B hml hv
  obtain ⟨rfl, hsz, hP, hK, hD0, hE⟩ := hv
  have hx := B.exec
  have hb := B.bytes
  have hr := B.returns
  have hts := atoms_spec (ws := (wx yX11_freeOnes cX11_freeOnes 3 (some .int))) B.pre
  have hT : ∀ w ∈ TB, w.before _ s = true := fun w h => hts w (List.mem_cons_of_mem _ h)
  have hown : s.vm.findClass RX11 = some m.cls := findClass_of_methodNamed B.named
  have hlocks := B.notSynchronized
  subst hsz
  have hD := dM hD0 s.heap.size
  have hA : ∀ q : Nat, s.heap.size ≤ q → AM am s.heap.size q := fun q h => Or.inr h
  have hS : va_S (AM am s.heap.size) s.heap s.heap [] := va_S.rf
  have hl := lv_entry ([.ref (am 0)]) (n := 3) (Nat.le_of_ble_eq_true rfl)
  rw [lg_entry_eq]
  generalize (lg_sl ([.ref (am 0)]) ++ List.replicate (3 - (lg_sl ([.ref (am 0)])).length) Slot.unset).toArray = ls at hl ⊢
  have hl : lv_has ls 3 [(0, .ref (am 0))] := hl
  unfold M_freeOnes at hF
  have L4 : ∀ kf : Nat, ∀ (x1 : Int32) (x2 : Int32) (fi : FI) (ar : AR) (H : Heap) (locs : List Loc) (ls : Array Slot), M_freeOnes_4 nf kf x1 x2 fi ar = some (r, fi', ar') → lv_has ls 3 [(0, .ref (am 0)), (1, .int x1), (2, .int x2)] → va_P (gD g) vwCl (WM g am fi ar) H → va_S (AM am s.heap.size) s.heap H locs → W p l e (headSpec (wx yX11_freeOnes cX11_freeOnes 3 (some .int)) ({ frames := 4, cells := 0, slots := 0, locals := 84 } : Room)).room s m ([.ref (am 0)] : List Value).toArray below meth c H locs 0 0 (MQ below (QMi g am s.heap.size r fi' ar') ([.ref (am 0)] : List Value).toArray s 0 0 (AM am s.heap.size)) (F0 m 4 ls []) := by
    intro kf
    induction kf with
    | zero => intro x1 x2 fi ar H locs ls hF hl hP hS; cases (show (none : Option (Int32 × FI × AR)) = _ from hF)
    | succ kf ih4 =>
      intro x1 x2 fi ar H locs ls hF hl hP hS
      obtain ⟨K4, hK4⟩ : ∃ K : Int32 → Int32 → FI → AR → Option (Int32 × FI × AR), K = M_freeOnes_4 nf kf := ⟨_, rfl⟩
      replace hF : M_freeOnes_4b K4 nf x1 x2 fi ar = some (r, fi', ar') := by rw [hK4]; exact hF
      rw [← hK4] at ih4
      clear hK4
      have J28 : ∀ (x2 : Int32) (t0 : Int32) (t1 : Int32) (fi : FI) (ar : AR) (H : Heap) (locs : List Loc) (ls : Array Slot), M_freeOnes_28 K4 nf x2 t0 t1 fi ar = some (r, fi', ar') → lv_has ls 3 [(0, .ref (am 0)), (2, .int x2)] → va_P (gD g) vwCl (WM g am fi ar) H → va_S (AM am s.heap.size) s.heap H locs → W p l e (headSpec (wx yX11_freeOnes cX11_freeOnes 3 (some .int)) ({ frames := 4, cells := 0, slots := 0, locals := 84 } : Room)).room s m ([.ref (am 0)] : List Value).toArray below meth c H locs 0 0 (MQ below (QMi g am s.heap.size r fi' ar') ([.ref (am 0)] : List Value).toArray s 0 0 (AM am s.heap.size)) (F0 m 28 ls [.int t1, .int t0]) := by
        intro x2 t0 t1 fi ar H locs ls hF hl hP hS
        unfold M_freeOnes_28 at hF
        refine lv_iadd hx hb dX11_freeOnes_28 ?_
        obtain ⟨x1_1, ex1_1⟩ : ∃ y : Int32, y = ((t0) + (t1)) := ⟨_, rfl⟩
        rw [← ex1_1]
        replace hF := bnd_of hF ex1_1
        refine lv_istore_n (lv' := [(1, .int (x1_1)), (0, .ref (am 0)), (2, .int (x2))]) hx hb dX11_freeOnes_29 rfl hl (by decide) rfl (fun ls hl => ?_)
        obtain ⟨x2_2, ex2_2⟩ : ∃ y : Int32, y = (x2) + (1 : Int32) := ⟨_, rfl⟩
        replace hF := bnd_of hF ex2_2
        refine lv_iinc (v := x2_2) (lv' := [(2, .int (x2_2)), (1, .int (x1_1)), (0, .ref (am 0))]) hx hb dX11_freeOnes_30 hl (k := 2) rfl (by rw [ex2_2]; rfl) (by decide) rfl (fun ls hl => ?_)
        refine lv_goto (tgt := 4) hx hb dX11_freeOnes_33 (by decide) ?_
        exact ih4 (x1_1) (x2_2) _ _ _ _ _ hF (lv_sub hl [2, 1, 0] rfl) hP hS
      unfold M_freeOnes_4b at hF
      refine lv_iload_n hx hb dX11_freeOnes_4 rfl (lv_at hl 2 rfl) ?_
      refine lv_aload_n hx hb dX11_freeOnes_5 rfl (lv_at hl 0 rfl) ?_
      refine mg_13 hx hb hT hown hK hP mw18_5 dX11_freeOnes_6 ?_
      refine lv_iconst (v := (2 : Int32)) hx hb dX11_freeOnes_9 (by decide) ?_
      refine lv_iadd hx hb dX11_freeOnes_10 ?_
      refine lv_icmp_ge (tgt := 36) hx hb dX11_freeOnes_11 (by decide) (fun hc3 => ?_) (fun hc3 => ?_)
      · replace hF := br_yes hF hc3
        refine lv_iload_n hx hb dX11_freeOnes_36 rfl (lv_at hl 1 rfl) ?_
        exact rM_i hx hb hr hlocks hF hP hS dX11_freeOnes_37
      · replace hF := br_no hF hc3
        refine lv_iload_n hx hb dX11_freeOnes_14 rfl (lv_at hl 1 rfl) ?_
        refine lv_aload_n hx hb dX11_freeOnes_15 rfl (lv_at hl 0 rfl) ?_
        refine lv_iload_n hx hb dX11_freeOnes_16 rfl (lv_at hl 2 rfl) ?_
        replace hF := obnd3_of hF
        obtain ⟨r7, fi5, ar6, h4, hF⟩ := hF
        refine cM_i (As := [.int (x2)]) (rest := [.int (x1)]) hx hb hml hT hown hK hE hD hA hP hS (k_entry l g am _ nf fi ar (x2) r7 fi5 ar6 h4) cw_X11_entry mw31_17 ⟨⟨rfl, rfl⟩, Nat.le_of_ble_eq_true rfl, Nat.le_of_ble_eq_true rfl⟩ rfl hl.1 rfl (Nat.le_of_ble_eq_true rfl) dX11_freeOnes_17 ⟨Nat.zero_le _, Nat.zero_le _⟩ (fun H locs hP hS => ?_)
        refine lv_if_ne (tgt := 27) hx hb dX11_freeOnes_20 (by decide) (fun hc8 => ?_) (fun hc8 => ?_)
        · replace hF := br_no hF hc8
          refine lv_iconst (v := (0 : Int32)) hx hb dX11_freeOnes_27 (by decide) ?_
          exact J28 (x2) (x1) (0 : Int32) _ _ _ _ _ hF (lv_sub hl [0, 2] rfl) hP hS
        · replace hF := br_yes hF hc8
          refine lv_iconst (v := (1 : Int32)) hx hb dX11_freeOnes_23 (by decide) ?_
          refine lv_goto (tgt := 28) hx hb dX11_freeOnes_24 (by decide) ?_
          exact J28 (x2) (x1) (1 : Int32) _ _ _ _ _ hF (lv_sub hl [0, 2] rfl) hP hS
  replace hl := lv_sub hl [0] rfl
  refine lv_iconst (v := (0 : Int32)) hx hb dX11_freeOnes_0 (by decide) ?_
  refine lv_istore_n (lv' := [(1, .int (0 : Int32)), (0, .ref (am 0))]) hx hb dX11_freeOnes_1 rfl hl (by decide) rfl (fun ls hl => ?_)
  refine lv_iconst (v := (2 : Int32)) hx hb dX11_freeOnes_2 (by decide) ?_
  refine lv_istore_n (lv' := [(2, .int (2 : Int32)), (1, .int (0 : Int32)), (0, .ref (am 0))]) hx hb dX11_freeOnes_3 rfl hl (by decide) rfl (fun ls hl => ?_)
  exact L4 nf (0 : Int32) (2 : Int32) _ _ _ _ _ hF (lv_sub hl [2, 1, 0] rfl) hP hS
theorem cw_X11_freeOnes : (Cond.instanceMethod yX11_freeOnes ∈ TB ∧ Cond.selects RX11 yX11_freeOnes yX11_freeOnes ∈ TB ∧ Cond.code yX11_freeOnes cX11_freeOnes 3 (some .int) ∈ TB) ∧ (yX11_freeOnes.cls = RX11 ∧ yX11_freeOnes.cls ≠ "java/lang/invoke/MethodHandle" ∧ yX11_freeOnes.cls ≠ "java/lang/invoke/VarHandle" ∧ (parseMethodDescriptor yX11_freeOnes.desc).map (fun d => d.parameters.length) = some 0) := ⟨⟨mw37_4, mw37_5, mw37_6⟩, by decide +kernel⟩
/-! X11_free -/
noncomputable def M_free_25 (nf : Nat) (t0 : Int32) (fi : FI) (ar : AR) : Option (Int32 × FI × AR) :=
  some ((t0), fi, ar)
noncomputable def M_free (nf : Nat) (fi : FI) (ar : AR)  : Option (Int32 × FI × AR) :=
  bnd (va_up fi 5 (0 : Int32)) fun fi1 => obnd3 (M_look nf fi1 ar) fun r5 fi3 ar4 => br ((fi3 16) = (1 : Int32)) (M_free_25 nf  (-1 : Int32) fi3 ar4) (obnd3 (M_freeOnes nf fi3 ar4) fun r10 fi8 ar9 => M_free_25 nf  (r10) fi8 ar9)
set_option maxHeartbeats 4000000 in
set_option maxRecDepth 100000 in
theorem k_free (l : Launch) (g : GT) (am : Nat → Nat) (sz : Nat) (nf : Nat) (fi : FI) (ar : AR)  (r : Int32) (fi' : FI) (ar' : AR) (hF : M_free nf fi ar  = some (r, fi', ar')) : Met l yX11_free (wx yX11_free cX11_free 1 (some .int)) ({ frames := 9, cells := 0, slots := 0, locals := 209 } : Room) (va_Pc [.ref (am 0)] (PM g am sz fi ar)) (QMi g am sz r fi' ar') 0 0 (AM am sz) := by
  refine Met.ofW (cc := cX11_free) (maxL := 1) (ret := (some .int)) (by decide) rfl ?_
  intro p e s m args below meth c s₁ B hml hv
  obtain ⟨rfl, hsz, hP, hK, hD0, hE⟩ := hv
  have hx := B.exec
  have hb := B.bytes
  have hr := B.returns
  have hts := atoms_spec (ws := (wx yX11_free cX11_free 1 (some .int))) B.pre
  have hT : ∀ w ∈ TB, w.before _ s = true := fun w h => hts w (List.mem_cons_of_mem _ h)
  have hown : s.vm.findClass RX11 = some m.cls := findClass_of_methodNamed B.named
  have hlocks := B.notSynchronized
  subst hsz
  have hD := dM hD0 s.heap.size
  have hA : ∀ q : Nat, s.heap.size ≤ q → AM am s.heap.size q := fun q h => Or.inr h
  have hS : va_S (AM am s.heap.size) s.heap s.heap [] := va_S.rf
  have hl := lv_entry ([.ref (am 0)]) (n := 1) (Nat.le_of_ble_eq_true rfl)
  rw [lg_entry_eq]
  generalize (lg_sl ([.ref (am 0)]) ++ List.replicate (1 - (lg_sl ([.ref (am 0)])).length) Slot.unset).toArray = ls at hl ⊢
  have hl : lv_has ls 1 [(0, .ref (am 0))] := hl
  unfold M_free at hF
  have J25 : ∀ (t0 : Int32) (fi : FI) (ar : AR) (H : Heap) (locs : List Loc) (ls : Array Slot), M_free_25 nf t0 fi ar = some (r, fi', ar') → lv_has ls 1 [(0, .ref (am 0))] → va_P (gD g) vwCl (WM g am fi ar) H → va_S (AM am s.heap.size) s.heap H locs → W p l e (headSpec (wx yX11_free cX11_free 1 (some .int)) ({ frames := 9, cells := 0, slots := 0, locals := 209 } : Room)).room s m ([.ref (am 0)] : List Value).toArray below meth c H locs 0 0 (MQ below (QMi g am s.heap.size r fi' ar') ([.ref (am 0)] : List Value).toArray s 0 0 (AM am s.heap.size)) (F0 m 25 ls [.int t0]) := by
    intro t0 fi ar H locs ls hF hl hP hS
    unfold M_free_25 at hF
    exact rM_i hx hb hr hlocks hF hP hS dX11_free_25
  replace hl := lv_sub hl [0] rfl
  refine lv_aload_n hx hb dX11_free_0 rfl (lv_at hl 0 rfl) ?_
  refine lv_iconst (v := (0 : Int32)) hx hb dX11_free_1 (by decide) ?_
  obtain ⟨fi1, efi1⟩ : ∃ y : FI, y = va_up fi 5 (0 : Int32) := ⟨_, rfl⟩
  replace hF := bnd_of hF efi1
  refine mp_5 hx hb hT hown hK hP hD hS mw7_11 dX11_free_2 (fun H locs hP hS => ?_)
  rw [← efi1] at hP
  refine lv_aload_n hx hb dX11_free_5 rfl (lv_at hl 0 rfl) ?_
  replace hF := obnd3_of hF
  obtain ⟨r5, fi3, ar4, h2, hF⟩ := hF
  refine cM_v (As := []) (rest := []) hx hb hml hT hown hK hE hD hA hP hS (k_look l g am _ nf fi1 ar r5 fi3 ar4 h2) cw_X11_look mw31_6 ⟨⟨rfl, rfl⟩, Nat.le_of_ble_eq_true rfl, Nat.le_of_ble_eq_true rfl⟩ rfl hl.1 rfl (Nat.le_of_ble_eq_true rfl) dX11_free_6 ⟨Nat.zero_le _, Nat.zero_le _⟩ (fun H locs hP hS => ?_)
  refine lv_aload_n hx hb dX11_free_9 rfl (lv_at hl 0 rfl) ?_
  refine mg_16 hx hb hT hown hK hP mw31_5 dX11_free_10 ?_
  refine lv_iconst (v := (1 : Int32)) hx hb dX11_free_13 (by decide) ?_
  refine lv_icmp_ne (tgt := 21) hx hb dX11_free_14 (by decide) (fun hc6 => ?_) (fun hc6 => ?_)
  · replace hF := br_no hF hc6
    refine lv_aload_n hx hb dX11_free_21 rfl (lv_at hl 0 rfl) ?_
    replace hF := obnd3_of hF
    obtain ⟨r10, fi8, ar9, h7, hF⟩ := hF
    refine cM_i (As := []) (rest := []) hx hb hml hT hown hK hE hD hA hP hS (k_freeOnes l g am _ nf fi3 ar4 r10 fi8 ar9 h7) cw_X11_freeOnes mw37_3 ⟨⟨rfl, rfl⟩, Nat.le_of_ble_eq_true rfl, Nat.le_of_ble_eq_true rfl⟩ rfl hl.1 rfl (Nat.le_of_ble_eq_true rfl) dX11_free_22 ⟨Nat.zero_le _, Nat.zero_le _⟩ (fun H locs hP hS => ?_)
    exact J25 (r10) _ _ _ _ _ hF (lv_sub hl [0] rfl) hP hS
  · replace hF := br_yes hF hc6
    refine lv_iconst (v := (-1 : Int32)) hx hb dX11_free_17 (by decide) ?_
    refine lv_goto (tgt := 25) hx hb dX11_free_18 (by decide) ?_
    exact J25 (-1 : Int32) _ _ _ _ _ hF (lv_sub hl [0] rfl) hP hS
theorem cw_X11_free : (Cond.instanceMethod yX11_free ∈ TB ∧ Cond.selects RX11 yX11_free yX11_free ∈ TB ∧ Cond.code yX11_free cX11_free 1 (some .int) ∈ TB) ∧ (yX11_free.cls = RX11 ∧ yX11_free.cls ≠ "java/lang/invoke/MethodHandle" ∧ yX11_free.cls ≠ "java/lang/invoke/VarHandle" ∧ (parseMethodDescriptor yX11_free.desc).map (fun d => d.parameters.length) = some 0) := ⟨⟨mw37_0, mw37_1, mw37_2⟩, by decide +kernel⟩
/-! X11_none -/
noncomputable def M_none_22 (nf : Nat) (t1 : Int32) (fi : FI) (ar : AR) : Option (Int32 × FI × AR) :=
  obnd3 (M_fails nf fi ar (t1) (1 : Int32)) fun r4 fi2 ar3 => gd ((r4) &&& 1 = (r4)) (some ((r4), fi2, ar3))
noncomputable def M_none (nf : Nat) (fi : FI) (ar : AR)  : Option (Int32 × FI × AR) :=
  bnd (va_up fi 5 (0 : Int32)) fun fi6 => obnd3 (M_look nf fi6 ar) fun r10 fi8 ar9 => br ((fi8 16) ≤ 0) (M_none_22 nf  (0 : Int32) fi8 ar9) (M_none_22 nf  (1 : Int32) fi8 ar9)
set_option maxHeartbeats 4000000 in
set_option maxRecDepth 100000 in
theorem k_none (l : Launch) (g : GT) (am : Nat → Nat) (sz : Nat) (nf : Nat) (fi : FI) (ar : AR)  (r : Int32) (fi' : FI) (ar' : AR) (hF : M_none nf fi ar  = some (r, fi', ar')) : Met l yX11_none (wx yX11_none cX11_none 1 (some .boolean)) ({ frames := 9, cells := 0, slots := 0, locals := 209 } : Room) (va_Pc [.ref (am 0)] (PM g am sz fi ar)) (QMi g am sz r fi' ar') 0 0 (AM am sz) := by
  refine Met.ofW (cc := cX11_none) (maxL := 1) (ret := (some .boolean)) (by decide) rfl ?_
  intro p e s m args below meth c s₁ B hml hv
  obtain ⟨rfl, hsz, hP, hK, hD0, hE⟩ := hv
  have hx := B.exec
  have hb := B.bytes
  have hr := B.returns
  have hts := atoms_spec (ws := (wx yX11_none cX11_none 1 (some .boolean))) B.pre
  have hT : ∀ w ∈ TB, w.before _ s = true := fun w h => hts w (List.mem_cons_of_mem _ h)
  have hown : s.vm.findClass RX11 = some m.cls := findClass_of_methodNamed B.named
  have hlocks := B.notSynchronized
  subst hsz
  have hD := dM hD0 s.heap.size
  have hA : ∀ q : Nat, s.heap.size ≤ q → AM am s.heap.size q := fun q h => Or.inr h
  have hS : va_S (AM am s.heap.size) s.heap s.heap [] := va_S.rf
  have hl := lv_entry ([.ref (am 0)]) (n := 1) (Nat.le_of_ble_eq_true rfl)
  rw [lg_entry_eq]
  generalize (lg_sl ([.ref (am 0)]) ++ List.replicate (1 - (lg_sl ([.ref (am 0)])).length) Slot.unset).toArray = ls at hl ⊢
  have hl : lv_has ls 1 [(0, .ref (am 0))] := hl
  unfold M_none at hF
  have J22 : ∀ (t1 : Int32) (fi : FI) (ar : AR) (H : Heap) (locs : List Loc) (ls : Array Slot), M_none_22 nf t1 fi ar = some (r, fi', ar') → lv_has ls 1 [(0, .ref (am 0))] → va_P (gD g) vwCl (WM g am fi ar) H → va_S (AM am s.heap.size) s.heap H locs → W p l e (headSpec (wx yX11_none cX11_none 1 (some .boolean)) ({ frames := 9, cells := 0, slots := 0, locals := 209 } : Room)).room s m ([.ref (am 0)] : List Value).toArray below meth c H locs 0 0 (MQ below (QMi g am s.heap.size r fi' ar') ([.ref (am 0)] : List Value).toArray s 0 0 (AM am s.heap.size)) (F0 m 22 ls [.int t1, .ref (am 0)]) := by
    intro t1 fi ar H locs ls hF hl hP hS
    unfold M_none_22 at hF
    refine lv_iconst (v := (1 : Int32)) hx hb dX11_none_22 (by decide) ?_
    replace hF := obnd3_of hF
    obtain ⟨r4, fi2, ar3, h1, hF⟩ := hF
    refine cM_i (As := [.int (t1), .int (1 : Int32)]) (rest := []) hx hb hml hT hown hK hE hD hA hP hS (k_fails l g am _ nf fi ar (t1) (1 : Int32) r4 fi2 ar3 h1) cw_X11_fails mw18_14 ⟨⟨rfl, rfl⟩, Nat.le_of_ble_eq_true rfl, Nat.le_of_ble_eq_true rfl⟩ rfl hl.1 rfl (Nat.le_of_ble_eq_true rfl) dX11_none_23 ⟨Nat.zero_le _, Nat.zero_le _⟩ (fun H locs hP hS => ?_)
    replace hF := gd_of hF
    obtain ⟨hz5, hF⟩ := hF
    exact rM_z hx hb hr hlocks (nar_z hz5) hF hP hS dX11_none_26
  replace hl := lv_sub hl [0] rfl
  refine lv_aload_n hx hb dX11_none_0 rfl (lv_at hl 0 rfl) ?_
  refine lv_iconst (v := (0 : Int32)) hx hb dX11_none_1 (by decide) ?_
  obtain ⟨fi6, efi6⟩ : ∃ y : FI, y = va_up fi 5 (0 : Int32) := ⟨_, rfl⟩
  replace hF := bnd_of hF efi6
  refine mp_5 hx hb hT hown hK hP hD hS mw7_11 dX11_none_2 (fun H locs hP hS => ?_)
  rw [← efi6] at hP
  refine lv_aload_n hx hb dX11_none_5 rfl (lv_at hl 0 rfl) ?_
  replace hF := obnd3_of hF
  obtain ⟨r10, fi8, ar9, h7, hF⟩ := hF
  refine cM_v (As := []) (rest := []) hx hb hml hT hown hK hE hD hA hP hS (k_look l g am _ nf fi6 ar r10 fi8 ar9 h7) cw_X11_look mw31_6 ⟨⟨rfl, rfl⟩, Nat.le_of_ble_eq_true rfl, Nat.le_of_ble_eq_true rfl⟩ rfl hl.1 rfl (Nat.le_of_ble_eq_true rfl) dX11_none_6 ⟨Nat.zero_le _, Nat.zero_le _⟩ (fun H locs hP hS => ?_)
  refine lv_aload_n hx hb dX11_none_9 rfl (lv_at hl 0 rfl) ?_
  refine lv_aload_n hx hb dX11_none_10 rfl (lv_at hl 0 rfl) ?_
  refine mg_16 hx hb hT hown hK hP mw31_5 dX11_none_11 ?_
  refine lv_if_le (tgt := 21) hx hb dX11_none_14 (by decide) (fun hc11 => ?_) (fun hc11 => ?_)
  · replace hF := br_yes hF hc11
    refine lv_iconst (v := (0 : Int32)) hx hb dX11_none_21 (by decide) ?_
    exact J22 (0 : Int32) _ _ _ _ _ hF (lv_sub hl [0] rfl) hP hS
  · replace hF := br_no hF hc11
    refine lv_iconst (v := (1 : Int32)) hx hb dX11_none_17 (by decide) ?_
    refine lv_goto (tgt := 22) hx hb dX11_none_18 (by decide) ?_
    exact J22 (1 : Int32) _ _ _ _ _ hF (lv_sub hl [0] rfl) hP hS
theorem cw_X11_none : (Cond.instanceMethod yX11_none ∈ TB ∧ Cond.selects RX11 yX11_none yX11_none ∈ TB ∧ Cond.code yX11_none cX11_none 1 (some .boolean) ∈ TB) ∧ (yX11_none.cls = RX11 ∧ yX11_none.cls ≠ "java/lang/invoke/MethodHandle" ∧ yX11_none.cls ≠ "java/lang/invoke/VarHandle" ∧ (parseMethodDescriptor yX11_none.desc).map (fun d => d.parameters.length) = some 0) := ⟨⟨mw38_11, mw38_12, mw38_13⟩, by decide +kernel⟩
/-! X11_folderHere -/
noncomputable def M_folderHere_46 (K11 : Int32 → FI → AR → Option (Int32 × FI × AR)) (nf : Nat) (x1 : Int32) (fi : FI) (ar : AR) : Option (Int32 × FI × AR) :=
  bnd ((x1) + (1 : Int32)) fun x1_1 => K11 (x1_1) fi ar
noncomputable def M_folderHere_11b (K11 : Int32 → FI → AR → Option (Int32 × FI × AR)) (nf : Nat) (x1 : Int32) (fi : FI) (ar : AR) : Option (Int32 × FI × AR) :=
  br ((fi 17) ≤ (x1)) (some ((0 : Int32), fi, ar)) (obnd3 (M_isFolder nf fi ar (x1)) fun r6 fi4 ar5 => br ((r6) = 0) (M_folderHere_46 K11 nf  (x1) fi4 ar5) (gd (¬ ((x1) < 0 ∨ 16400 ≤ (x1).toNatClampNeg)) (obnd3 (M_firstOf nf fi4 ar5 (ar5 20 (x1).toNatClampNeg)) fun r12 fi10 ar11 => br ((r12) = (fi10 14)) (some ((x1), fi10, ar11)) (M_folderHere_46 K11 nf  (x1) fi10 ar11))))
noncomputable def M_folderHere_11 (nf : Nat) (kf : Nat) : Int32 → FI → AR → Option (Int32 × FI × AR) := Nat.rec (fun _ _ _ => none) (fun _ K11 => M_folderHere_11b K11 nf) kf
noncomputable def M_folderHere (nf : Nat) (fi : FI) (ar : AR)  : Option (Int32 × FI × AR) :=
  br ((fi 14) = 0) (some ((0 : Int32), fi, ar)) (M_folderHere_11 nf nf (1 : Int32) fi ar)
set_option maxHeartbeats 4000000 in
set_option maxRecDepth 100000 in
theorem k_folderHere (l : Launch) (g : GT) (am : Nat → Nat) (sz : Nat) (nf : Nat) (fi : FI) (ar : AR)  (r : Int32) (fi' : FI) (ar' : AR) (hF : M_folderHere nf fi ar  = some (r, fi', ar')) : Met l yX11_folderHere (wx yX11_folderHere cX11_folderHere 2 (some .int)) ({ frames := 3, cells := 0, slots := 0, locals := 63 } : Room) (va_Pc [.ref (am 0)] (PM g am sz fi ar)) (QMi g am sz r fi' ar') 0 0 (AM am sz) := by
  refine Met.ofW (cc := cX11_folderHere) (maxL := 2) (ret := (some .int)) (by decide) rfl ?_
  intro p e s m args below meth c s₁ B hml hv
  obtain ⟨rfl, hsz, hP, hK, hD0, hE⟩ := hv
  have hx := B.exec
  have hb := B.bytes
  have hr := B.returns
  have hts := atoms_spec (ws := (wx yX11_folderHere cX11_folderHere 2 (some .int))) B.pre
  have hT : ∀ w ∈ TB, w.before _ s = true := fun w h => hts w (List.mem_cons_of_mem _ h)
  have hown : s.vm.findClass RX11 = some m.cls := findClass_of_methodNamed B.named
  have hlocks := B.notSynchronized
  subst hsz
  have hD := dM hD0 s.heap.size
  have hA : ∀ q : Nat, s.heap.size ≤ q → AM am s.heap.size q := fun q h => Or.inr h
  have hS : va_S (AM am s.heap.size) s.heap s.heap [] := va_S.rf
  have hl := lv_entry ([.ref (am 0)]) (n := 2) (Nat.le_of_ble_eq_true rfl)
  rw [lg_entry_eq]
  generalize (lg_sl ([.ref (am 0)]) ++ List.replicate (2 - (lg_sl ([.ref (am 0)])).length) Slot.unset).toArray = ls at hl ⊢
  have hl : lv_has ls 2 [(0, .ref (am 0))] := hl
  unfold M_folderHere at hF
  have L11 : ∀ kf : Nat, ∀ (x1 : Int32) (fi : FI) (ar : AR) (H : Heap) (locs : List Loc) (ls : Array Slot), M_folderHere_11 nf kf x1 fi ar = some (r, fi', ar') → lv_has ls 2 [(0, .ref (am 0)), (1, .int x1)] → va_P (gD g) vwCl (WM g am fi ar) H → va_S (AM am s.heap.size) s.heap H locs → W p l e (headSpec (wx yX11_folderHere cX11_folderHere 2 (some .int)) ({ frames := 3, cells := 0, slots := 0, locals := 63 } : Room)).room s m ([.ref (am 0)] : List Value).toArray below meth c H locs 0 0 (MQ below (QMi g am s.heap.size r fi' ar') ([.ref (am 0)] : List Value).toArray s 0 0 (AM am s.heap.size)) (F0 m 11 ls []) := by
    intro kf
    induction kf with
    | zero => intro x1 fi ar H locs ls hF hl hP hS; cases (show (none : Option (Int32 × FI × AR)) = _ from hF)
    | succ kf ih11 =>
      intro x1 fi ar H locs ls hF hl hP hS
      obtain ⟨K11, hK11⟩ : ∃ K : Int32 → FI → AR → Option (Int32 × FI × AR), K = M_folderHere_11 nf kf := ⟨_, rfl⟩
      replace hF : M_folderHere_11b K11 nf x1 fi ar = some (r, fi', ar') := by rw [hK11]; exact hF
      rw [← hK11] at ih11
      clear hK11
      have J46 : ∀ (x1 : Int32) (fi : FI) (ar : AR) (H : Heap) (locs : List Loc) (ls : Array Slot), M_folderHere_46 K11 nf x1 fi ar = some (r, fi', ar') → lv_has ls 2 [(0, .ref (am 0)), (1, .int x1)] → va_P (gD g) vwCl (WM g am fi ar) H → va_S (AM am s.heap.size) s.heap H locs → W p l e (headSpec (wx yX11_folderHere cX11_folderHere 2 (some .int)) ({ frames := 3, cells := 0, slots := 0, locals := 63 } : Room)).room s m ([.ref (am 0)] : List Value).toArray below meth c H locs 0 0 (MQ below (QMi g am s.heap.size r fi' ar') ([.ref (am 0)] : List Value).toArray s 0 0 (AM am s.heap.size)) (F0 m 46 ls []) := by
        intro x1 fi ar H locs ls hF hl hP hS
        unfold M_folderHere_46 at hF
        obtain ⟨x1_1, ex1_1⟩ : ∃ y : Int32, y = (x1) + (1 : Int32) := ⟨_, rfl⟩
        replace hF := bnd_of hF ex1_1
        refine lv_iinc (v := x1_1) (lv' := [(1, .int (x1_1)), (0, .ref (am 0))]) hx hb dX11_folderHere_46 hl (k := 1) rfl (by rw [ex1_1]; rfl) (by decide) rfl (fun ls hl => ?_)
        refine lv_goto (tgt := 11) hx hb dX11_folderHere_49 (by decide) ?_
        exact ih11 (x1_1) _ _ _ _ _ hF (lv_sub hl [1, 0] rfl) hP hS
      unfold M_folderHere_11b at hF
      refine lv_iload_n hx hb dX11_folderHere_11 rfl (lv_at hl 1 rfl) ?_
      refine lv_aload_n hx hb dX11_folderHere_12 rfl (lv_at hl 0 rfl) ?_
      refine mg_17 hx hb hT hown hK hP mw31_10 dX11_folderHere_13 ?_
      refine lv_icmp_ge (tgt := 52) hx hb dX11_folderHere_16 (by decide) (fun hc2 => ?_) (fun hc2 => ?_)
      · replace hF := br_yes hF hc2
        refine lv_iconst (v := (0 : Int32)) hx hb dX11_folderHere_52 (by decide) ?_
        exact rM_i hx hb hr hlocks hF hP hS dX11_folderHere_53
      · replace hF := br_no hF hc2
        refine lv_aload_n hx hb dX11_folderHere_19 rfl (lv_at hl 0 rfl) ?_
        refine lv_iload_n hx hb dX11_folderHere_20 rfl (lv_at hl 1 rfl) ?_
        replace hF := obnd3_of hF
        obtain ⟨r6, fi4, ar5, h3, hF⟩ := hF
        refine cM_i (As := [.int (x1)]) (rest := []) hx hb hml hT hown hK hE hD hA hP hS (k_isFolder l g am _ nf fi ar (x1) r6 fi4 ar5 h3) cw_X11_isFolder mw31_21 ⟨⟨rfl, rfl⟩, Nat.le_of_ble_eq_true rfl, Nat.le_of_ble_eq_true rfl⟩ rfl hl.1 rfl (Nat.le_of_ble_eq_true rfl) dX11_folderHere_21 ⟨Nat.zero_le _, Nat.zero_le _⟩ (fun H locs hP hS => ?_)
        refine lv_if_eq (tgt := 46) hx hb dX11_folderHere_24 (by decide) (fun hc7 => ?_) (fun hc7 => ?_)
        · replace hF := br_yes hF hc7
          exact J46 (x1) _ _ _ _ _ hF (lv_sub hl [0, 1] rfl) hP hS
        · replace hF := br_no hF hc7
          refine lv_aload_n hx hb dX11_folderHere_27 rfl (lv_at hl 0 rfl) ?_
          refine lv_aload_n hx hb dX11_folderHere_28 rfl (lv_at hl 0 rfl) ?_
          refine mg_20 hx hb hT hown hK hP mw6_5 dX11_folderHere_29 ?_
          refine lv_iload_n hx hb dX11_folderHere_32 rfl (lv_at hl 1 rfl) ?_
          replace hF := gd_of hF
          obtain ⟨hi8, hF⟩ := hF
          refine ml_20 hx hb hK hP hi8 dX11_folderHere_33 ?_
          replace hF := obnd3_of hF
          obtain ⟨r12, fi10, ar11, h9, hF⟩ := hF
          refine cM_i (As := [.int (ar5 20 (x1).toNatClampNeg)]) (rest := []) hx hb hml hT hown hK hE hD hA hP hS (k_firstOf l g am _ nf fi4 ar5 (ar5 20 (x1).toNatClampNeg) r12 fi10 ar11 h9) cw_X11_firstOf mw32_13 ⟨⟨rfl, rfl⟩, Nat.le_of_ble_eq_true rfl, Nat.le_of_ble_eq_true rfl⟩ rfl hl.1 rfl (Nat.le_of_ble_eq_true rfl) dX11_folderHere_34 ⟨Nat.zero_le _, Nat.zero_le _⟩ (fun H locs hP hS => ?_)
          refine lv_aload_n hx hb dX11_folderHere_37 rfl (lv_at hl 0 rfl) ?_
          refine mg_14 hx hb hT hown hK hP mw18_4 dX11_folderHere_38 ?_
          refine lv_icmp_ne (tgt := 46) hx hb dX11_folderHere_41 (by decide) (fun hc13 => ?_) (fun hc13 => ?_)
          · replace hF := br_no hF hc13
            exact J46 (x1) _ _ _ _ _ hF (lv_sub hl [0, 1] rfl) hP hS
          · replace hF := br_yes hF hc13
            refine lv_iload_n hx hb dX11_folderHere_44 rfl (lv_at hl 1 rfl) ?_
            exact rM_i hx hb hr hlocks hF hP hS dX11_folderHere_45
  replace hl := lv_sub hl [0] rfl
  refine lv_aload_n hx hb dX11_folderHere_0 rfl (lv_at hl 0 rfl) ?_
  refine mg_14 hx hb hT hown hK hP mw18_4 dX11_folderHere_1 ?_
  refine lv_if_ne (tgt := 9) hx hb dX11_folderHere_4 (by decide) (fun hc14 => ?_) (fun hc14 => ?_)
  · replace hF := br_no hF hc14
    refine lv_iconst (v := (1 : Int32)) hx hb dX11_folderHere_9 (by decide) ?_
    refine lv_istore_n (lv' := [(1, .int (1 : Int32)), (0, .ref (am 0))]) hx hb dX11_folderHere_10 rfl hl (by decide) rfl (fun ls hl => ?_)
    exact L11 nf (1 : Int32) _ _ _ _ _ hF (lv_sub hl [1, 0] rfl) hP hS
  · replace hF := br_yes hF hc14
    refine lv_iconst (v := (0 : Int32)) hx hb dX11_folderHere_7 (by decide) ?_
    exact rM_i hx hb hr hlocks hF hP hS dX11_folderHere_8
theorem cw_X11_folderHere : (Cond.instanceMethod yX11_folderHere ∈ TB ∧ Cond.selects RX11 yX11_folderHere yX11_folderHere ∈ TB ∧ Cond.code yX11_folderHere cX11_folderHere 2 (some .int) ∈ TB) ∧ (yX11_folderHere.cls = RX11 ∧ yX11_folderHere.cls ≠ "java/lang/invoke/MethodHandle" ∧ yX11_folderHere.cls ≠ "java/lang/invoke/VarHandle" ∧ (parseMethodDescriptor yX11_folderHere.desc).map (fun d => d.parameters.length) = some 0) := ⟨⟨mw38_19, mw38_20, mw38_21⟩, by decide +kernel⟩
/-! X11_many -/
noncomputable def M_many (nf : Nat) (fi : FI) (ar : AR)  : Option (Int32 × FI × AR) :=
  obnd3 (M_folderHere nf fi ar) fun r4 fi2 ar3 => gd (¬ ((r4) < 0 ∨ 16400 ≤ (r4).toNatClampNeg)) (some ((ar3 24 (r4).toNatClampNeg), fi2, ar3))
set_option maxHeartbeats 4000000 in
set_option maxRecDepth 100000 in
theorem k_many (l : Launch) (g : GT) (am : Nat → Nat) (sz : Nat) (nf : Nat) (fi : FI) (ar : AR)  (r : Int32) (fi' : FI) (ar' : AR) (hF : M_many nf fi ar  = some (r, fi', ar')) : Met l yX11_many (wx yX11_many cX11_many 1 (some .int)) ({ frames := 4, cells := 0, slots := 0, locals := 84 } : Room) (va_Pc [.ref (am 0)] (PM g am sz fi ar)) (QMi g am sz r fi' ar') 0 0 (AM am sz) := by
  refine Met.ofW (cc := cX11_many) (maxL := 1) (ret := (some .int)) (by decide) rfl ?_
  intro p e s m args below meth c s₁ B hml hv
  obtain ⟨rfl, hsz, hP, hK, hD0, hE⟩ := hv
  have hx := B.exec
  have hb := B.bytes
  have hr := B.returns
  have hts := atoms_spec (ws := (wx yX11_many cX11_many 1 (some .int))) B.pre
  have hT : ∀ w ∈ TB, w.before _ s = true := fun w h => hts w (List.mem_cons_of_mem _ h)
  have hown : s.vm.findClass RX11 = some m.cls := findClass_of_methodNamed B.named
  have hlocks := B.notSynchronized
  subst hsz
  have hD := dM hD0 s.heap.size
  have hA : ∀ q : Nat, s.heap.size ≤ q → AM am s.heap.size q := fun q h => Or.inr h
  have hS : va_S (AM am s.heap.size) s.heap s.heap [] := va_S.rf
  have hl := lv_entry ([.ref (am 0)]) (n := 1) (Nat.le_of_ble_eq_true rfl)
  rw [lg_entry_eq]
  generalize (lg_sl ([.ref (am 0)]) ++ List.replicate (1 - (lg_sl ([.ref (am 0)])).length) Slot.unset).toArray = ls at hl ⊢
  have hl : lv_has ls 1 [(0, .ref (am 0))] := hl
  unfold M_many at hF
  replace hl := lv_sub hl [0] rfl
  refine lv_aload_n hx hb dX11_many_0 rfl (lv_at hl 0 rfl) ?_
  refine mg_24 hx hb hT hown hK hP mw6_9 dX11_many_1 ?_
  refine lv_aload_n hx hb dX11_many_4 rfl (lv_at hl 0 rfl) ?_
  replace hF := obnd3_of hF
  obtain ⟨r4, fi2, ar3, h1, hF⟩ := hF
  refine cM_i (As := []) (rest := [.ref (am 24)]) hx hb hml hT hown hK hE hD hA hP hS (k_folderHere l g am _ nf fi ar r4 fi2 ar3 h1) cw_X11_folderHere mw38_18 ⟨⟨rfl, rfl⟩, Nat.le_of_ble_eq_true rfl, Nat.le_of_ble_eq_true rfl⟩ rfl hl.1 rfl (Nat.le_of_ble_eq_true rfl) dX11_many_5 ⟨Nat.zero_le _, Nat.zero_le _⟩ (fun H locs hP hS => ?_)
  replace hF := gd_of hF
  obtain ⟨hi5, hF⟩ := hF
  refine ml_24 hx hb hK hP hi5 dX11_many_8 ?_
  exact rM_i hx hb hr hlocks hF hP hS dX11_many_9
theorem cw_X11_many : (Cond.instanceMethod yX11_many ∈ TB ∧ Cond.selects RX11 yX11_many yX11_many ∈ TB ∧ Cond.code yX11_many cX11_many 1 (some .int) ∈ TB) ∧ (yX11_many.cls = RX11 ∧ yX11_many.cls ≠ "java/lang/invoke/MethodHandle" ∧ yX11_many.cls ≠ "java/lang/invoke/VarHandle" ∧ (parseMethodDescriptor yX11_many.desc).map (fun d => d.parameters.length) = some 0) := ⟨⟨mw38_15, mw38_16, mw38_17⟩, by decide +kernel⟩
/-! X11_items -/
noncomputable def M_items_15 (nf : Nat) (t0 : Int32) (fi : FI) (ar : AR) : Option (Int32 × FI × AR) :=
  some ((t0), fi, ar)
noncomputable def M_items (nf : Nat) (fi : FI) (ar : AR)  : Option (Int32 × FI × AR) :=
  obnd3 (M_none nf fi ar) fun r4 fi2 ar3 => br ((r4) = 0) (obnd3 (M_many nf fi2 ar3) fun r9 fi7 ar8 => M_items_15 nf  (r9) fi7 ar8) (M_items_15 nf  (0 : Int32) fi2 ar3)
set_option maxHeartbeats 4000000 in
set_option maxRecDepth 100000 in
theorem k_items (l : Launch) (g : GT) (am : Nat → Nat) (sz : Nat) (nf : Nat) (fi : FI) (ar : AR)  (r : Int32) (fi' : FI) (ar' : AR) (hF : M_items nf fi ar  = some (r, fi', ar')) : Met l yX11_items (wx yX11_items cX11_items 1 (some .int)) ({ frames := 10, cells := 0, slots := 0, locals := 229 } : Room) (va_Pc [.ref (am 0)] (PM g am sz fi ar)) (QMi g am sz r fi' ar') 0 0 (AM am sz) := by
  refine Met.ofW (cc := cX11_items) (maxL := 1) (ret := (some .int)) (by decide) rfl ?_
  intro p e s m args below meth c s₁ B hml hv
  obtain ⟨rfl, hsz, hP, hK, hD0, hE⟩ := hv
  have hx := B.exec
  have hb := B.bytes
  have hr := B.returns
  have hts := atoms_spec (ws := (wx yX11_items cX11_items 1 (some .int))) B.pre
  have hT : ∀ w ∈ TB, w.before _ s = true := fun w h => hts w (List.mem_cons_of_mem _ h)
  have hown : s.vm.findClass RX11 = some m.cls := findClass_of_methodNamed B.named
  have hlocks := B.notSynchronized
  subst hsz
  have hD := dM hD0 s.heap.size
  have hA : ∀ q : Nat, s.heap.size ≤ q → AM am s.heap.size q := fun q h => Or.inr h
  have hS : va_S (AM am s.heap.size) s.heap s.heap [] := va_S.rf
  have hl := lv_entry ([.ref (am 0)]) (n := 1) (Nat.le_of_ble_eq_true rfl)
  rw [lg_entry_eq]
  generalize (lg_sl ([.ref (am 0)]) ++ List.replicate (1 - (lg_sl ([.ref (am 0)])).length) Slot.unset).toArray = ls at hl ⊢
  have hl : lv_has ls 1 [(0, .ref (am 0))] := hl
  unfold M_items at hF
  have J15 : ∀ (t0 : Int32) (fi : FI) (ar : AR) (H : Heap) (locs : List Loc) (ls : Array Slot), M_items_15 nf t0 fi ar = some (r, fi', ar') → lv_has ls 1 [(0, .ref (am 0))] → va_P (gD g) vwCl (WM g am fi ar) H → va_S (AM am s.heap.size) s.heap H locs → W p l e (headSpec (wx yX11_items cX11_items 1 (some .int)) ({ frames := 10, cells := 0, slots := 0, locals := 229 } : Room)).room s m ([.ref (am 0)] : List Value).toArray below meth c H locs 0 0 (MQ below (QMi g am s.heap.size r fi' ar') ([.ref (am 0)] : List Value).toArray s 0 0 (AM am s.heap.size)) (F0 m 15 ls [.int t0]) := by
    intro t0 fi ar H locs ls hF hl hP hS
    unfold M_items_15 at hF
    exact rM_i hx hb hr hlocks hF hP hS dX11_items_15
  replace hl := lv_sub hl [0] rfl
  refine lv_aload_n hx hb dX11_items_0 rfl (lv_at hl 0 rfl) ?_
  replace hF := obnd3_of hF
  obtain ⟨r4, fi2, ar3, h1, hF⟩ := hF
  refine cM_i (As := []) (rest := []) hx hb hml hT hown hK hE hD hA hP hS (k_none l g am _ nf fi ar r4 fi2 ar3 h1) cw_X11_none mw38_10 ⟨⟨rfl, rfl⟩, Nat.le_of_ble_eq_true rfl, Nat.le_of_ble_eq_true rfl⟩ rfl hl.1 rfl (Nat.le_of_ble_eq_true rfl) dX11_items_1 ⟨Nat.zero_le _, Nat.zero_le _⟩ (fun H locs hP hS => ?_)
  refine lv_if_eq (tgt := 11) hx hb dX11_items_4 (by decide) (fun hc5 => ?_) (fun hc5 => ?_)
  · replace hF := br_yes hF hc5
    refine lv_aload_n hx hb dX11_items_11 rfl (lv_at hl 0 rfl) ?_
    replace hF := obnd3_of hF
    obtain ⟨r9, fi7, ar8, h6, hF⟩ := hF
    refine cM_i (As := []) (rest := []) hx hb hml hT hown hK hE hD hA hP hS (k_many l g am _ nf fi2 ar3 r9 fi7 ar8 h6) cw_X11_many mw38_14 ⟨⟨rfl, rfl⟩, Nat.le_of_ble_eq_true rfl, Nat.le_of_ble_eq_true rfl⟩ rfl hl.1 rfl (Nat.le_of_ble_eq_true rfl) dX11_items_12 ⟨Nat.zero_le _, Nat.zero_le _⟩ (fun H locs hP hS => ?_)
    exact J15 (r9) _ _ _ _ _ hF (lv_sub hl [0] rfl) hP hS
  · replace hF := br_no hF hc5
    refine lv_iconst (v := (0 : Int32)) hx hb dX11_items_7 (by decide) ?_
    refine lv_goto (tgt := 15) hx hb dX11_items_8 (by decide) ?_
    exact J15 (0 : Int32) _ _ _ _ _ hF (lv_sub hl [0] rfl) hP hS
theorem cw_X11_items : (Cond.instanceMethod yX11_items ∈ TB ∧ Cond.selects RX11 yX11_items yX11_items ∈ TB ∧ Cond.code yX11_items cX11_items 1 (some .int) ∈ TB) ∧ (yX11_items.cls = RX11 ∧ yX11_items.cls ≠ "java/lang/invoke/MethodHandle" ∧ yX11_items.cls ≠ "java/lang/invoke/VarHandle" ∧ (parseMethodDescriptor yX11_items.desc).map (fun d => d.parameters.length) = some 0) := ⟨⟨mw38_7, mw38_8, mw38_9⟩, by decide +kernel⟩
/-! X11_no -/
noncomputable def M_no_37 (nf : Nat) (t0 : Int32) (fi : FI) (ar : AR) : Option (Int32 × FI × AR) :=
  gd ((t0) &&& 1 = (t0)) (some ((t0), fi, ar))
noncomputable def M_no_32 (nf : Nat)  (fi : FI) (ar : AR) : Option (Int32 × FI × AR) :=
  M_no_37 nf  (1 : Int32) fi ar
noncomputable def M_no_25 (nf : Nat) (t1 : Int32) (fi : FI) (ar : AR) : Option (Int32 × FI × AR) :=
  obnd3 (M_fails nf fi ar (t1) (2 : Int32)) fun r5 fi3 ar4 => br ((r5) = 0) (M_no_37 nf  (0 : Int32) fi3 ar4) (M_no_32 nf  fi3 ar4)
noncomputable def M_no_20 (nf : Nat)  (fi : FI) (ar : AR) : Option (Int32 × FI × AR) :=
  M_no_25 nf  (1 : Int32) fi ar
noncomputable def M_no (nf : Nat) (fi : FI) (ar : AR) (x1 : Int32) : Option (Int32 × FI × AR) :=
  obnd3 (M_none nf fi ar) fun r10 fi8 ar9 => br ((r10) = 0) (br ((x1) < 0) (M_no_20 nf  fi8 ar9) (obnd3 (M_many nf fi8 ar9) fun r16 fi14 ar15 => br ((x1) < (r16)) (M_no_25 nf  (0 : Int32) fi14 ar15) (M_no_20 nf  fi14 ar15))) (M_no_32 nf  fi8 ar9)
set_option maxHeartbeats 4000000 in
set_option maxRecDepth 100000 in
theorem k_no (l : Launch) (g : GT) (am : Nat → Nat) (sz : Nat) (nf : Nat) (fi : FI) (ar : AR) (p1 : Int32) (r : Int32) (fi' : FI) (ar' : AR) (hF : M_no nf fi ar p1 = some (r, fi', ar')) : Met l yX11_no (wx yX11_no cX11_no 2 (some .boolean)) ({ frames := 10, cells := 0, slots := 0, locals := 229 } : Room) (va_Pc [.ref (am 0), .int p1] (PM g am sz fi ar)) (QMi g am sz r fi' ar') 0 0 (AM am sz) := by
  refine Met.ofW (cc := cX11_no) (maxL := 2) (ret := (some .boolean)) (by decide) rfl ?_
  intro p e s m args below meth c s₁ B hml hv
  obtain ⟨rfl, hsz, hP, hK, hD0, hE⟩ := hv
  have hx := B.exec
  have hb := B.bytes
  have hr := B.returns
  have hts := atoms_spec (ws := (wx yX11_no cX11_no 2 (some .boolean))) B.pre
  have hT : ∀ w ∈ TB, w.before _ s = true := fun w h => hts w (List.mem_cons_of_mem _ h)
  have hown : s.vm.findClass RX11 = some m.cls := findClass_of_methodNamed B.named
  have hlocks := B.notSynchronized
  subst hsz
  have hD := dM hD0 s.heap.size
  have hA : ∀ q : Nat, s.heap.size ≤ q → AM am s.heap.size q := fun q h => Or.inr h
  have hS : va_S (AM am s.heap.size) s.heap s.heap [] := va_S.rf
  have hl := lv_entry ([.ref (am 0), .int p1]) (n := 2) (Nat.le_of_ble_eq_true rfl)
  rw [lg_entry_eq]
  generalize (lg_sl ([.ref (am 0), .int p1]) ++ List.replicate (2 - (lg_sl ([.ref (am 0), .int p1])).length) Slot.unset).toArray = ls at hl ⊢
  have hl : lv_has ls 2 [(0, .ref (am 0)), (1, .int p1)] := hl
  unfold M_no at hF
  have J37 : ∀ (t0 : Int32) (fi : FI) (ar : AR) (H : Heap) (locs : List Loc) (ls : Array Slot), M_no_37 nf t0 fi ar = some (r, fi', ar') → lv_has ls 2 [(0, .ref (am 0))] → va_P (gD g) vwCl (WM g am fi ar) H → va_S (AM am s.heap.size) s.heap H locs → W p l e (headSpec (wx yX11_no cX11_no 2 (some .boolean)) ({ frames := 10, cells := 0, slots := 0, locals := 229 } : Room)).room s m ([.ref (am 0), .int p1] : List Value).toArray below meth c H locs 0 0 (MQ below (QMi g am s.heap.size r fi' ar') ([.ref (am 0), .int p1] : List Value).toArray s 0 0 (AM am s.heap.size)) (F0 m 37 ls [.int t0]) := by
    intro t0 fi ar H locs ls hF hl hP hS
    unfold M_no_37 at hF
    replace hF := gd_of hF
    obtain ⟨hz1, hF⟩ := hF
    exact rM_z hx hb hr hlocks (nar_z hz1) hF hP hS dX11_no_37
  have J32 : ∀  (fi : FI) (ar : AR) (H : Heap) (locs : List Loc) (ls : Array Slot), M_no_32 nf fi ar = some (r, fi', ar') → lv_has ls 2 [(0, .ref (am 0))] → va_P (gD g) vwCl (WM g am fi ar) H → va_S (AM am s.heap.size) s.heap H locs → W p l e (headSpec (wx yX11_no cX11_no 2 (some .boolean)) ({ frames := 10, cells := 0, slots := 0, locals := 229 } : Room)).room s m ([.ref (am 0), .int p1] : List Value).toArray below meth c H locs 0 0 (MQ below (QMi g am s.heap.size r fi' ar') ([.ref (am 0), .int p1] : List Value).toArray s 0 0 (AM am s.heap.size)) (F0 m 32 ls []) := by
    intro fi ar H locs ls hF hl hP hS
    unfold M_no_32 at hF
    refine lv_iconst (v := (1 : Int32)) hx hb dX11_no_32 (by decide) ?_
    refine lv_goto (tgt := 37) hx hb dX11_no_33 (by decide) ?_
    exact J37 (1 : Int32) _ _ _ _ _ hF (lv_sub hl [0] rfl) hP hS
  have J25 : ∀ (t1 : Int32) (fi : FI) (ar : AR) (H : Heap) (locs : List Loc) (ls : Array Slot), M_no_25 nf t1 fi ar = some (r, fi', ar') → lv_has ls 2 [(0, .ref (am 0))] → va_P (gD g) vwCl (WM g am fi ar) H → va_S (AM am s.heap.size) s.heap H locs → W p l e (headSpec (wx yX11_no cX11_no 2 (some .boolean)) ({ frames := 10, cells := 0, slots := 0, locals := 229 } : Room)).room s m ([.ref (am 0), .int p1] : List Value).toArray below meth c H locs 0 0 (MQ below (QMi g am s.heap.size r fi' ar') ([.ref (am 0), .int p1] : List Value).toArray s 0 0 (AM am s.heap.size)) (F0 m 25 ls [.int t1, .ref (am 0)]) := by
    intro t1 fi ar H locs ls hF hl hP hS
    unfold M_no_25 at hF
    refine lv_iconst (v := (2 : Int32)) hx hb dX11_no_25 (by decide) ?_
    replace hF := obnd3_of hF
    obtain ⟨r5, fi3, ar4, h2, hF⟩ := hF
    refine cM_i (As := [.int (t1), .int (2 : Int32)]) (rest := []) hx hb hml hT hown hK hE hD hA hP hS (k_fails l g am _ nf fi ar (t1) (2 : Int32) r5 fi3 ar4 h2) cw_X11_fails mw18_14 ⟨⟨rfl, rfl⟩, Nat.le_of_ble_eq_true rfl, Nat.le_of_ble_eq_true rfl⟩ rfl hl.1 rfl (Nat.le_of_ble_eq_true rfl) dX11_no_26 ⟨Nat.zero_le _, Nat.zero_le _⟩ (fun H locs hP hS => ?_)
    refine lv_if_eq (tgt := 36) hx hb dX11_no_29 (by decide) (fun hc6 => ?_) (fun hc6 => ?_)
    · replace hF := br_yes hF hc6
      refine lv_iconst (v := (0 : Int32)) hx hb dX11_no_36 (by decide) ?_
      exact J37 (0 : Int32) _ _ _ _ _ hF (lv_sub hl [0] rfl) hP hS
    · replace hF := br_no hF hc6
      exact J32  _ _ _ _ _ hF (lv_sub hl [0] rfl) hP hS
  have J20 : ∀  (fi : FI) (ar : AR) (H : Heap) (locs : List Loc) (ls : Array Slot), M_no_20 nf fi ar = some (r, fi', ar') → lv_has ls 2 [(0, .ref (am 0))] → va_P (gD g) vwCl (WM g am fi ar) H → va_S (AM am s.heap.size) s.heap H locs → W p l e (headSpec (wx yX11_no cX11_no 2 (some .boolean)) ({ frames := 10, cells := 0, slots := 0, locals := 229 } : Room)).room s m ([.ref (am 0), .int p1] : List Value).toArray below meth c H locs 0 0 (MQ below (QMi g am s.heap.size r fi' ar') ([.ref (am 0), .int p1] : List Value).toArray s 0 0 (AM am s.heap.size)) (F0 m 20 ls [.ref (am 0)]) := by
    intro fi ar H locs ls hF hl hP hS
    unfold M_no_20 at hF
    refine lv_iconst (v := (1 : Int32)) hx hb dX11_no_20 (by decide) ?_
    refine lv_goto (tgt := 25) hx hb dX11_no_21 (by decide) ?_
    exact J25 (1 : Int32) _ _ _ _ _ hF (lv_sub hl [0] rfl) hP hS
  replace hl := lv_sub hl [0, 1] rfl
  refine lv_aload_n hx hb dX11_no_0 rfl (lv_at hl 0 rfl) ?_
  replace hF := obnd3_of hF
  obtain ⟨r10, fi8, ar9, h7, hF⟩ := hF
  refine cM_i (As := []) (rest := []) hx hb hml hT hown hK hE hD hA hP hS (k_none l g am _ nf fi ar r10 fi8 ar9 h7) cw_X11_none mw38_10 ⟨⟨rfl, rfl⟩, Nat.le_of_ble_eq_true rfl, Nat.le_of_ble_eq_true rfl⟩ rfl hl.1 rfl (Nat.le_of_ble_eq_true rfl) dX11_no_1 ⟨Nat.zero_le _, Nat.zero_le _⟩ (fun H locs hP hS => ?_)
  refine lv_if_ne (tgt := 32) hx hb dX11_no_4 (by decide) (fun hc11 => ?_) (fun hc11 => ?_)
  · replace hF := br_no hF hc11
    exact J32  _ _ _ _ _ hF (lv_sub hl [0] rfl) hP hS
  · replace hF := br_yes hF hc11
    refine lv_aload_n hx hb dX11_no_7 rfl (lv_at hl 0 rfl) ?_
    refine lv_iload_n hx hb dX11_no_8 rfl (lv_at hl 1 rfl) ?_
    refine lv_if_lt (tgt := 20) hx hb dX11_no_9 (by decide) (fun hc12 => ?_) (fun hc12 => ?_)
    · replace hF := br_yes hF hc12
      exact J20  _ _ _ _ _ hF (lv_sub hl [0] rfl) hP hS
    · replace hF := br_no hF hc12
      refine lv_iload_n hx hb dX11_no_12 rfl (lv_at hl 1 rfl) ?_
      refine lv_aload_n hx hb dX11_no_13 rfl (lv_at hl 0 rfl) ?_
      replace hF := obnd3_of hF
      obtain ⟨r16, fi14, ar15, h13, hF⟩ := hF
      refine cM_i (As := []) (rest := [.int (p1), .ref (am 0)]) hx hb hml hT hown hK hE hD hA hP hS (k_many l g am _ nf fi8 ar9 r16 fi14 ar15 h13) cw_X11_many mw38_14 ⟨⟨rfl, rfl⟩, Nat.le_of_ble_eq_true rfl, Nat.le_of_ble_eq_true rfl⟩ rfl hl.1 rfl (Nat.le_of_ble_eq_true rfl) dX11_no_14 ⟨Nat.zero_le _, Nat.zero_le _⟩ (fun H locs hP hS => ?_)
      refine lv_icmp_lt (tgt := 24) hx hb dX11_no_17 (by decide) (fun hc17 => ?_) (fun hc17 => ?_)
      · replace hF := br_yes hF hc17
        refine lv_iconst (v := (0 : Int32)) hx hb dX11_no_24 (by decide) ?_
        exact J25 (0 : Int32) _ _ _ _ _ hF (lv_sub hl [0] rfl) hP hS
      · replace hF := br_no hF hc17
        exact J20  _ _ _ _ _ hF (lv_sub hl [0] rfl) hP hS
theorem cw_X11_no : (Cond.instanceMethod yX11_no ∈ TB ∧ Cond.selects RX11 yX11_no yX11_no ∈ TB ∧ Cond.code yX11_no cX11_no 2 (some .boolean) ∈ TB) ∧ (yX11_no.cls = RX11 ∧ yX11_no.cls ≠ "java/lang/invoke/MethodHandle" ∧ yX11_no.cls ≠ "java/lang/invoke/VarHandle" ∧ (parseMethodDescriptor yX11_no.desc).map (fun d => d.parameters.length) = some 1) := ⟨⟨mw40_4, mw40_5, mw40_6⟩, by decide +kernel⟩
/-! X11_item -/
noncomputable def M_item (nf : Nat) (fi : FI) (ar : AR) (x1 : Int32) : Option (Int32 × FI × AR) :=
  obnd3 (M_folderHere nf fi ar) fun r4 fi2 ar3 => gd (¬ ((r4) < 0 ∨ 16400 ≤ (r4).toNatClampNeg)) (some (((ar3 25 (r4).toNatClampNeg) + (x1)), fi2, ar3))
set_option maxHeartbeats 4000000 in
set_option maxRecDepth 100000 in
theorem k_item (l : Launch) (g : GT) (am : Nat → Nat) (sz : Nat) (nf : Nat) (fi : FI) (ar : AR) (p1 : Int32) (r : Int32) (fi' : FI) (ar' : AR) (hF : M_item nf fi ar p1 = some (r, fi', ar')) : Met l yX11_item (wx yX11_item cX11_item 2 (some .int)) ({ frames := 4, cells := 0, slots := 0, locals := 84 } : Room) (va_Pc [.ref (am 0), .int p1] (PM g am sz fi ar)) (QMi g am sz r fi' ar') 0 0 (AM am sz) := by
  refine Met.ofW (cc := cX11_item) (maxL := 2) (ret := (some .int)) (by decide) rfl ?_
  intro p e s m args below meth c s₁ B hml hv
  obtain ⟨rfl, hsz, hP, hK, hD0, hE⟩ := hv
  have hx := B.exec
  have hb := B.bytes
  have hr := B.returns
  have hts := atoms_spec (ws := (wx yX11_item cX11_item 2 (some .int))) B.pre
  have hT : ∀ w ∈ TB, w.before _ s = true := fun w h => hts w (List.mem_cons_of_mem _ h)
  have hown : s.vm.findClass RX11 = some m.cls := findClass_of_methodNamed B.named
  have hlocks := B.notSynchronized
  subst hsz
  have hD := dM hD0 s.heap.size
  have hA : ∀ q : Nat, s.heap.size ≤ q → AM am s.heap.size q := fun q h => Or.inr h
  have hS : va_S (AM am s.heap.size) s.heap s.heap [] := va_S.rf
  have hl := lv_entry ([.ref (am 0), .int p1]) (n := 2) (Nat.le_of_ble_eq_true rfl)
  rw [lg_entry_eq]
  generalize (lg_sl ([.ref (am 0), .int p1]) ++ List.replicate (2 - (lg_sl ([.ref (am 0), .int p1])).length) Slot.unset).toArray = ls at hl ⊢
  have hl : lv_has ls 2 [(0, .ref (am 0)), (1, .int p1)] := hl
  unfold M_item at hF
  replace hl := lv_sub hl [0, 1] rfl
  refine lv_aload_n hx hb dX11_item_0 rfl (lv_at hl 0 rfl) ?_
  refine mg_25 hx hb hT hown hK hP mw6_10 dX11_item_1 ?_
  refine lv_aload_n hx hb dX11_item_4 rfl (lv_at hl 0 rfl) ?_
  replace hF := obnd3_of hF
  obtain ⟨r4, fi2, ar3, h1, hF⟩ := hF
  refine cM_i (As := []) (rest := [.ref (am 25)]) hx hb hml hT hown hK hE hD hA hP hS (k_folderHere l g am _ nf fi ar r4 fi2 ar3 h1) cw_X11_folderHere mw38_18 ⟨⟨rfl, rfl⟩, Nat.le_of_ble_eq_true rfl, Nat.le_of_ble_eq_true rfl⟩ rfl hl.1 rfl (Nat.le_of_ble_eq_true rfl) dX11_item_5 ⟨Nat.zero_le _, Nat.zero_le _⟩ (fun H locs hP hS => ?_)
  replace hF := gd_of hF
  obtain ⟨hi5, hF⟩ := hF
  refine ml_25 hx hb hK hP hi5 dX11_item_8 ?_
  refine lv_iload_n hx hb dX11_item_9 rfl (lv_at hl 1 rfl) ?_
  refine lv_iadd hx hb dX11_item_10 ?_
  exact rM_i hx hb hr hlocks hF hP hS dX11_item_11
theorem cw_X11_item : (Cond.instanceMethod yX11_item ∈ TB ∧ Cond.selects RX11 yX11_item yX11_item ∈ TB ∧ Cond.code yX11_item cX11_item 2 (some .int) ∈ TB) ∧ (yX11_item.cls = RX11 ∧ yX11_item.cls ≠ "java/lang/invoke/MethodHandle" ∧ yX11_item.cls ≠ "java/lang/invoke/VarHandle" ∧ (parseMethodDescriptor yX11_item.desc).map (fun d => d.parameters.length) = some 1) := ⟨⟨mw40_8, mw40_9, mw40_10⟩, by decide +kernel⟩
/-! X11_bytesOf -/
noncomputable def M_bytesOf_23 (nf : Nat) (t0 : Int32) : Option Int32 :=
  some (t0)
noncomputable def M_bytesOf (nf : Nat) (x0 : Int32) : Option Int32 :=
  br ((128 : Int32) ≤ (x0)) (br ((2048 : Int32) ≤ (x0)) (M_bytesOf_23 nf  (3 : Int32)) (M_bytesOf_23 nf  (2 : Int32))) (M_bytesOf_23 nf  (1 : Int32))
set_option maxHeartbeats 4000000 in
set_option maxRecDepth 100000 in
theorem k_bytesOf (l : Launch) (g : GT) (nf : Nat) (p0 : Int32) (r : Int32) (hF : M_bytesOf nf p0 = some r) : Met l yX11_bytesOf (wx yX11_bytesOf cX11_bytesOf 1 (some .int)) ({ frames := 0, cells := 0, slots := 0, locals := 0 } : Room) (va_Pc [.int p0] (PS g)) (QSi r) 0 0 noA := by
  refine Met.ofW (cc := cX11_bytesOf) (maxL := 1) (ret := (some .int)) (by decide) rfl ?_
  intro p e s m args below meth c s₁ B hml hv
  obtain ⟨rfl, hE⟩ := hv
  have hx := B.exec
  have hb := B.bytes
  have hr := B.returns
  have hts := atoms_spec (ws := (wx yX11_bytesOf cX11_bytesOf 1 (some .int))) B.pre
  have hT : ∀ w ∈ TB, w.before _ s = true := fun w h => hts w (List.mem_cons_of_mem _ h)
  have hown : s.vm.findClass RX11 = some m.cls := findClass_of_methodNamed B.named
  have hlocks := B.notSynchronized
  have hS : va_S noA s.heap s.heap [] := va_S.rf
  have hP : va_P (gD g) vwCl [] s.heap := fun k q h => by cases h
  have hl := lv_entry ([.int p0]) (n := 1) (Nat.le_of_ble_eq_true rfl)
  rw [lg_entry_eq]
  generalize (lg_sl ([.int p0]) ++ List.replicate (1 - (lg_sl ([.int p0])).length) Slot.unset).toArray = ls at hl ⊢
  have hl : lv_has ls 1 [(0, .int p0)] := hl
  unfold M_bytesOf at hF
  have J23 : ∀ (t0 : Int32) (H : Heap) (locs : List Loc) (ls : Array Slot), M_bytesOf_23 nf t0 = some r → lv_has ls 1 [] → va_P (gD g) vwCl [] H → va_S noA s.heap H locs → W p l e (headSpec (wx yX11_bytesOf cX11_bytesOf 1 (some .int)) ({ frames := 0, cells := 0, slots := 0, locals := 0 } : Room)).room s m ([.int p0] : List Value).toArray below meth c H locs 0 0 (MQ below (QSi r) ([.int p0] : List Value).toArray s 0 0 noA) (F0 m 23 ls [.int t0]) := by
    intro t0 H locs ls hF hl hP hS
    unfold M_bytesOf_23 at hF
    exact rS_i hx hb hr hlocks hF hS dX11_bytesOf_23
  replace hl := lv_sub hl [0] rfl
  refine lv_iload_n hx hb dX11_bytesOf_0 rfl (lv_at hl 0 rfl) ?_
  refine lv_sipush (v := (128 : Int32)) hx hb dX11_bytesOf_1 (by decide) ?_
  refine lv_icmp_ge (tgt := 11) hx hb dX11_bytesOf_4 (by decide) (fun hc1 => ?_) (fun hc1 => ?_)
  · replace hF := br_yes hF hc1
    refine lv_iload_n hx hb dX11_bytesOf_11 rfl (lv_at hl 0 rfl) ?_
    refine lv_sipush (v := (2048 : Int32)) hx hb dX11_bytesOf_12 (by decide) ?_
    refine lv_icmp_ge (tgt := 22) hx hb dX11_bytesOf_15 (by decide) (fun hc2 => ?_) (fun hc2 => ?_)
    · replace hF := br_yes hF hc2
      refine lv_iconst (v := (3 : Int32)) hx hb dX11_bytesOf_22 (by decide) ?_
      exact J23 (3 : Int32)  _ _ _ hF (lv_sub hl [] rfl) hP hS
    · replace hF := br_no hF hc2
      refine lv_iconst (v := (2 : Int32)) hx hb dX11_bytesOf_18 (by decide) ?_
      refine lv_goto (tgt := 23) hx hb dX11_bytesOf_19 (by decide) ?_
      exact J23 (2 : Int32)  _ _ _ hF (lv_sub hl [] rfl) hP hS
  · replace hF := br_no hF hc1
    refine lv_iconst (v := (1 : Int32)) hx hb dX11_bytesOf_7 (by decide) ?_
    refine lv_goto (tgt := 23) hx hb dX11_bytesOf_8 (by decide) ?_
    exact J23 (1 : Int32)  _ _ _ hF (lv_sub hl [] rfl) hP hS
theorem cw_X11_bytesOf : (Cond.static yX11_bytesOf ∈ TB ∧ Cond.code yX11_bytesOf cX11_bytesOf 1 (some .int) ∈ TB ∧ Cond.initialized yX11_bytesOf.cls ∈ TB) ∧ (yX11_bytesOf.cls ≠ "java/lang/invoke/MethodHandle" ∧ yX11_bytesOf.cls ≠ "java/lang/invoke/VarHandle" ∧ (parseMethodDescriptor yX11_bytesOf.desc).map (fun d => d.parameters.length) = some 1) := ⟨⟨mw40_16, mw40_17, mw1_5⟩, by decide +kernel⟩
/-! X11_text -/
noncomputable def M_text_125 (nf : Nat)  (fi : FI) (ar : AR) : Option (Int32 × FI × AR) :=
  some ((-1 : Int32), fi, ar)
noncomputable def M_text_113 (nf : Nat) (t0 : Int32) (fi : FI) (ar : AR) : Option (Int32 × FI × AR) :=
  some ((t0), fi, ar)
noncomputable def M_text_5b (K5 : Int32 → Int32 → Int32 → Int32 → FI → AR → Option (Int32 × FI × AR)) (nf : Nat) (x1 : Int32) (x2 : Int32) (x3 : Int32) (x4 : Int32) (fi : FI) (ar : AR) : Option (Int32 × FI × AR) :=
  gd (¬ ((x1) < 0 ∨ 16400 ≤ (x1).toNatClampNeg)) (br ((ar 27 (x1).toNatClampNeg) ≤ (x4)) (M_text_125 nf  fi ar) (br ((x2) < 0) (M_text_125 nf  fi ar) (gd (¬ ((x1) < 0 ∨ 16400 ≤ (x1).toNatClampNeg)) (gd (¬ (((ar 26 (x1).toNatClampNeg) + (x4)) < 0 ∨ 213600 ≤ ((ar 26 (x1).toNatClampNeg) + (x4)).toNatClampNeg)) (bnd (ar 28 ((ar 26 (x1).toNatClampNeg) + (x4)).toNatClampNeg) fun x5_6 => obnd (M_bytesOf nf (x5_6)) fun r8 => br ((r8) ≤ (x3)) (bnd ((x3) - (r8)) fun x3_10 => bnd ((x4) + (1 : Int32)) fun x4_11 => K5 (x1) (x2) (x3_10) (x4_11) fi ar) (br ((r8) = (1 : Int32)) (M_text_113 nf  (x5_6) fi ar) (br ((x3) ≤ 0) (br ((r8) = (2 : Int32)) (M_text_113 nf  ((192 : Int32) ||| ((x5_6) >>> ((6 : Int32) &&& 31))) fi ar) (M_text_113 nf  ((224 : Int32) ||| ((x5_6) >>> ((12 : Int32) &&& 31))) fi ar)) (M_text_113 nf  ((128 : Int32) ||| (((x5_6) >>> (((6 : Int32) * (((r8) - (1 : Int32)) - (x3))) &&& 31)) &&& (63 : Int32))) fi ar))))))))
noncomputable def M_text_5 (nf : Nat) (kf : Nat) : Int32 → Int32 → Int32 → Int32 → FI → AR → Option (Int32 × FI × AR) := Nat.rec (fun _ _ _ _ _ _ => none) (fun _ K5 => M_text_5b K5 nf) kf
noncomputable def M_text (nf : Nat) (fi : FI) (ar : AR) (x1 : Int32) (x2 : Int32) : Option (Int32 × FI × AR) :=
  M_text_5 nf nf (x1) (x2) (x2) (0 : Int32) fi ar
set_option maxHeartbeats 4000000 in
set_option maxRecDepth 100000 in
theorem k_text (l : Launch) (g : GT) (am : Nat → Nat) (sz : Nat) (nf : Nat) (fi : FI) (ar : AR) (p1 : Int32) (p2 : Int32) (r : Int32) (fi' : FI) (ar' : AR) (hF : M_text nf fi ar p1 p2 = some (r, fi', ar')) : Met l yX11_text (wx yX11_text cX11_text 7 (some .int)) ({ frames := 1, cells := 0, slots := 0, locals := 20 } : Room) (va_Pc [.ref (am 0), .int p1, .int p2] (PM g am sz fi ar)) (QMi g am sz r fi' ar') 0 0 (AM am sz) := by
  refine Met.ofW (cc := cX11_text) (maxL := 7) (ret := (some .int)) (by decide) rfl ?_
  intro p e s m args below meth c s₁ B hml hv
  obtain ⟨rfl, hsz, hP, hK, hD0, hE⟩ := hv
  have hx := B.exec
  have hb := B.bytes
  have hr := B.returns
  have hts := atoms_spec (ws := (wx yX11_text cX11_text 7 (some .int))) B.pre
  have hT : ∀ w ∈ TB, w.before _ s = true := fun w h => hts w (List.mem_cons_of_mem _ h)
  have hown : s.vm.findClass RX11 = some m.cls := findClass_of_methodNamed B.named
  have hlocks := B.notSynchronized
  subst hsz
  have hD := dM hD0 s.heap.size
  have hA : ∀ q : Nat, s.heap.size ≤ q → AM am s.heap.size q := fun q h => Or.inr h
  have hS : va_S (AM am s.heap.size) s.heap s.heap [] := va_S.rf
  have hl := lv_entry ([.ref (am 0), .int p1, .int p2]) (n := 7) (Nat.le_of_ble_eq_true rfl)
  rw [lg_entry_eq]
  generalize (lg_sl ([.ref (am 0), .int p1, .int p2]) ++ List.replicate (7 - (lg_sl ([.ref (am 0), .int p1, .int p2])).length) Slot.unset).toArray = ls at hl ⊢
  have hl : lv_has ls 7 [(0, .ref (am 0)), (1, .int p1), (2, .int p2)] := hl
  unfold M_text at hF
  have J125 : ∀  (fi : FI) (ar : AR) (H : Heap) (locs : List Loc) (ls : Array Slot), M_text_125 nf fi ar = some (r, fi', ar') → lv_has ls 7 [(0, .ref (am 0))] → va_P (gD g) vwCl (WM g am fi ar) H → va_S (AM am s.heap.size) s.heap H locs → W p l e (headSpec (wx yX11_text cX11_text 7 (some .int)) ({ frames := 1, cells := 0, slots := 0, locals := 20 } : Room)).room s m ([.ref (am 0), .int p1, .int p2] : List Value).toArray below meth c H locs 0 0 (MQ below (QMi g am s.heap.size r fi' ar') ([.ref (am 0), .int p1, .int p2] : List Value).toArray s 0 0 (AM am s.heap.size)) (F0 m 125 ls []) := by
    intro fi ar H locs ls hF hl hP hS
    unfold M_text_125 at hF
    refine lv_iconst (v := (-1 : Int32)) hx hb dX11_text_125 (by decide) ?_
    exact rM_i hx hb hr hlocks hF hP hS dX11_text_126
  have J113 : ∀ (t0 : Int32) (fi : FI) (ar : AR) (H : Heap) (locs : List Loc) (ls : Array Slot), M_text_113 nf t0 fi ar = some (r, fi', ar') → lv_has ls 7 [(0, .ref (am 0))] → va_P (gD g) vwCl (WM g am fi ar) H → va_S (AM am s.heap.size) s.heap H locs → W p l e (headSpec (wx yX11_text cX11_text 7 (some .int)) ({ frames := 1, cells := 0, slots := 0, locals := 20 } : Room)).room s m ([.ref (am 0), .int p1, .int p2] : List Value).toArray below meth c H locs 0 0 (MQ below (QMi g am s.heap.size r fi' ar') ([.ref (am 0), .int p1, .int p2] : List Value).toArray s 0 0 (AM am s.heap.size)) (F0 m 113 ls [.int t0]) := by
    intro t0 fi ar H locs ls hF hl hP hS
    unfold M_text_113 at hF
    exact rM_i hx hb hr hlocks hF hP hS dX11_text_113
  have L5 : ∀ kf : Nat, ∀ (x1 : Int32) (x2 : Int32) (x3 : Int32) (x4 : Int32) (fi : FI) (ar : AR) (H : Heap) (locs : List Loc) (ls : Array Slot), M_text_5 nf kf x1 x2 x3 x4 fi ar = some (r, fi', ar') → lv_has ls 7 [(0, .ref (am 0)), (1, .int x1), (2, .int x2), (3, .int x3), (4, .int x4)] → va_P (gD g) vwCl (WM g am fi ar) H → va_S (AM am s.heap.size) s.heap H locs → W p l e (headSpec (wx yX11_text cX11_text 7 (some .int)) ({ frames := 1, cells := 0, slots := 0, locals := 20 } : Room)).room s m ([.ref (am 0), .int p1, .int p2] : List Value).toArray below meth c H locs 0 0 (MQ below (QMi g am s.heap.size r fi' ar') ([.ref (am 0), .int p1, .int p2] : List Value).toArray s 0 0 (AM am s.heap.size)) (F0 m 5 ls []) := by
    intro kf
    induction kf with
    | zero => intro x1 x2 x3 x4 fi ar H locs ls hF hl hP hS; cases (show (none : Option (Int32 × FI × AR)) = _ from hF)
    | succ kf ih5 =>
      intro x1 x2 x3 x4 fi ar H locs ls hF hl hP hS
      obtain ⟨K5, hK5⟩ : ∃ K : Int32 → Int32 → Int32 → Int32 → FI → AR → Option (Int32 × FI × AR), K = M_text_5 nf kf := ⟨_, rfl⟩
      replace hF : M_text_5b K5 nf x1 x2 x3 x4 fi ar = some (r, fi', ar') := by rw [hK5]; exact hF
      rw [← hK5] at ih5
      clear hK5
      unfold M_text_5b at hF
      refine lv_iload hx hb dX11_text_5 (lv_at hl 4 rfl) ?_
      refine lv_aload_n hx hb dX11_text_7 rfl (lv_at hl 0 rfl) ?_
      refine mg_27 hx hb hT hown hK hP mw6_12 dX11_text_8 ?_
      refine lv_iload_n hx hb dX11_text_11 rfl (lv_at hl 1 rfl) ?_
      replace hF := gd_of hF
      obtain ⟨hi1, hF⟩ := hF
      refine ml_27 hx hb hK hP hi1 dX11_text_12 ?_
      refine lv_icmp_ge (tgt := 125) hx hb dX11_text_13 (by decide) (fun hc2 => ?_) (fun hc2 => ?_)
      · replace hF := br_yes hF hc2
        exact J125  _ _ _ _ _ hF (lv_sub hl [0] rfl) hP hS
      · replace hF := br_no hF hc2
        refine lv_iload_n hx hb dX11_text_16 rfl (lv_at hl 2 rfl) ?_
        refine lv_if_lt (tgt := 125) hx hb dX11_text_17 (by decide) (fun hc3 => ?_) (fun hc3 => ?_)
        · replace hF := br_yes hF hc3
          exact J125  _ _ _ _ _ hF (lv_sub hl [0] rfl) hP hS
        · replace hF := br_no hF hc3
          refine lv_aload_n hx hb dX11_text_20 rfl (lv_at hl 0 rfl) ?_
          refine mg_28 hx hb hT hown hK hP mw6_15 dX11_text_21 ?_
          refine lv_aload_n hx hb dX11_text_24 rfl (lv_at hl 0 rfl) ?_
          refine mg_26 hx hb hT hown hK hP mw6_11 dX11_text_25 ?_
          refine lv_iload_n hx hb dX11_text_28 rfl (lv_at hl 1 rfl) ?_
          replace hF := gd_of hF
          obtain ⟨hi4, hF⟩ := hF
          refine ml_26 hx hb hK hP hi4 dX11_text_29 ?_
          refine lv_iload hx hb dX11_text_30 (lv_at hl 4 rfl) ?_
          refine lv_iadd hx hb dX11_text_32 ?_
          replace hF := gd_of hF
          obtain ⟨hi5, hF⟩ := hF
          refine ml_28 hx hb hK hP hi5 dX11_text_33 ?_
          obtain ⟨x5_6, ex5_6⟩ : ∃ y : Int32, y = (ar 28 ((ar 26 (x1).toNatClampNeg) + (x4)).toNatClampNeg) := ⟨_, rfl⟩
          rw [← ex5_6]
          replace hF := bnd_of hF ex5_6
          refine lv_istore (lv' := [(5, .int (x5_6)), (0, .ref (am 0)), (1, .int (x1)), (2, .int (x2)), (3, .int (x3)), (4, .int (x4))]) hx hb dX11_text_34 hl (by decide) rfl (fun ls hl => ?_)
          refine lv_iload hx hb dX11_text_36 (lv_at hl 0 rfl) ?_
          replace hF := obnd_of hF
          obtain ⟨r8, h7, hF⟩ := hF
          refine cS_i (As := [.int (x5_6)]) (rest := []) hx hb hml hT hown hE hP hS (k_bytesOf l g nf (x5_6) r8 h7) cw_X11_bytesOf mw40_15 ⟨⟨rfl, rfl⟩, Nat.le_of_ble_eq_true rfl, Nat.le_of_ble_eq_true rfl⟩ rfl hl.1 rfl (Nat.le_of_ble_eq_true rfl) dX11_text_38 ⟨Nat.zero_le _, Nat.zero_le _⟩ (fun H locs hP hS => ?_)
          refine lv_istore (lv' := [(6, .int (r8)), (5, .int (x5_6)), (0, .ref (am 0)), (1, .int (x1)), (2, .int (x2)), (3, .int (x3)), (4, .int (x4))]) hx hb dX11_text_41 hl (by decide) rfl (fun ls hl => ?_)
          refine lv_iload_n hx hb dX11_text_43 rfl (lv_at hl 5 rfl) ?_
          refine lv_iload hx hb dX11_text_44 (lv_at hl 0 rfl) ?_
          refine lv_icmp_ge (tgt := 114) hx hb dX11_text_46 (by decide) (fun hc9 => ?_) (fun hc9 => ?_)
          · replace hF := br_yes hF hc9
            refine lv_iload_n hx hb dX11_text_114 rfl (lv_at hl 5 rfl) ?_
            refine lv_iload hx hb dX11_text_115 (lv_at hl 0 rfl) ?_
            refine lv_isub hx hb dX11_text_117 ?_
            obtain ⟨x3_10, ex3_10⟩ : ∃ y : Int32, y = ((x3) - (r8)) := ⟨_, rfl⟩
            rw [← ex3_10]
            replace hF := bnd_of hF ex3_10
            refine lv_istore_n (lv' := [(3, .int (x3_10)), (6, .int (r8)), (5, .int (x5_6)), (0, .ref (am 0)), (1, .int (x1)), (2, .int (x2)), (4, .int (x4))]) hx hb dX11_text_118 rfl hl (by decide) rfl (fun ls hl => ?_)
            obtain ⟨x4_11, ex4_11⟩ : ∃ y : Int32, y = (x4) + (1 : Int32) := ⟨_, rfl⟩
            replace hF := bnd_of hF ex4_11
            refine lv_iinc (v := x4_11) (lv' := [(4, .int (x4_11)), (3, .int (x3_10)), (6, .int (r8)), (5, .int (x5_6)), (0, .ref (am 0)), (1, .int (x1)), (2, .int (x2))]) hx hb dX11_text_119 hl (k := 6) rfl (by rw [ex4_11]; rfl) (by decide) rfl (fun ls hl => ?_)
            refine lv_goto (tgt := 5) hx hb dX11_text_122 (by decide) ?_
            exact ih5 (x1) (x2) (x3_10) (x4_11) _ _ _ _ _ hF (lv_sub hl [4, 5, 6, 1, 0] rfl) hP hS
          · replace hF := br_no hF hc9
            refine lv_iload hx hb dX11_text_49 (lv_at hl 0 rfl) ?_
            refine lv_iconst (v := (1 : Int32)) hx hb dX11_text_51 (by decide) ?_
            refine lv_icmp_ne (tgt := 60) hx hb dX11_text_52 (by decide) (fun hc12 => ?_) (fun hc12 => ?_)
            · replace hF := br_no hF hc12
              refine lv_iload_n hx hb dX11_text_60 rfl (lv_at hl 5 rfl) ?_
              refine lv_if_le (tgt := 86) hx hb dX11_text_61 (by decide) (fun hc13 => ?_) (fun hc13 => ?_)
              · replace hF := br_yes hF hc13
                refine lv_iload hx hb dX11_text_86 (lv_at hl 0 rfl) ?_
                refine lv_iconst (v := (2 : Int32)) hx hb dX11_text_88 (by decide) ?_
                refine lv_icmp_ne (tgt := 104) hx hb dX11_text_89 (by decide) (fun hc14 => ?_) (fun hc14 => ?_)
                · replace hF := br_no hF hc14
                  refine lv_sipush (v := (224 : Int32)) hx hb dX11_text_104 (by decide) ?_
                  refine lv_iload hx hb dX11_text_107 (lv_at hl 1 rfl) ?_
                  refine lv_bipush (v := (12 : Int32)) hx hb dX11_text_109 (by decide) ?_
                  refine lv_ishr hx hb dX11_text_111 ?_
                  refine lv_ior hx hb dX11_text_112 ?_
                  exact J113 ((224 : Int32) ||| ((x5_6) >>> ((12 : Int32) &&& 31))) _ _ _ _ _ hF (lv_sub hl [2] rfl) hP hS
                · replace hF := br_yes hF hc14
                  refine lv_sipush (v := (192 : Int32)) hx hb dX11_text_92 (by decide) ?_
                  refine lv_iload hx hb dX11_text_95 (lv_at hl 1 rfl) ?_
                  refine lv_bipush (v := (6 : Int32)) hx hb dX11_text_97 (by decide) ?_
                  refine lv_ishr hx hb dX11_text_99 ?_
                  refine lv_ior hx hb dX11_text_100 ?_
                  refine lv_goto (tgt := 113) hx hb dX11_text_101 (by decide) ?_
                  exact J113 ((192 : Int32) ||| ((x5_6) >>> ((6 : Int32) &&& 31))) _ _ _ _ _ hF (lv_sub hl [2] rfl) hP hS
              · replace hF := br_no hF hc13
                refine lv_sipush (v := (128 : Int32)) hx hb dX11_text_64 (by decide) ?_
                refine lv_iload hx hb dX11_text_67 (lv_at hl 1 rfl) ?_
                refine lv_bipush (v := (6 : Int32)) hx hb dX11_text_69 (by decide) ?_
                refine lv_iload hx hb dX11_text_71 (lv_at hl 0 rfl) ?_
                refine lv_iconst (v := (1 : Int32)) hx hb dX11_text_73 (by decide) ?_
                refine lv_isub hx hb dX11_text_74 ?_
                refine lv_iload_n hx hb dX11_text_75 rfl (lv_at hl 5 rfl) ?_
                refine lv_isub hx hb dX11_text_76 ?_
                refine lv_imul hx hb dX11_text_77 ?_
                refine lv_ishr hx hb dX11_text_78 ?_
                refine lv_bipush (v := (63 : Int32)) hx hb dX11_text_79 (by decide) ?_
                refine lv_iand hx hb dX11_text_81 ?_
                refine lv_ior hx hb dX11_text_82 ?_
                refine lv_goto (tgt := 113) hx hb dX11_text_83 (by decide) ?_
                exact J113 ((128 : Int32) ||| (((x5_6) >>> (((6 : Int32) * (((r8) - (1 : Int32)) - (x3))) &&& 31)) &&& (63 : Int32))) _ _ _ _ _ hF (lv_sub hl [2] rfl) hP hS
            · replace hF := br_yes hF hc12
              refine lv_iload hx hb dX11_text_55 (lv_at hl 1 rfl) ?_
              refine lv_goto (tgt := 113) hx hb dX11_text_57 (by decide) ?_
              exact J113 (x5_6) _ _ _ _ _ hF (lv_sub hl [2] rfl) hP hS
  replace hl := lv_sub hl [0, 1, 2] rfl
  refine lv_iload_n hx hb dX11_text_0 rfl (lv_at hl 2 rfl) ?_
  refine lv_istore_n (lv' := [(3, .int (p2)), (0, .ref (am 0)), (1, .int (p1)), (2, .int (p2))]) hx hb dX11_text_1 rfl hl (by decide) rfl (fun ls hl => ?_)
  refine lv_iconst (v := (0 : Int32)) hx hb dX11_text_2 (by decide) ?_
  refine lv_istore (lv' := [(4, .int (0 : Int32)), (3, .int (p2)), (0, .ref (am 0)), (1, .int (p1)), (2, .int (p2))]) hx hb dX11_text_3 hl (by decide) rfl (fun ls hl => ?_)
  exact L5 nf (p1) (p2) (p2) (0 : Int32) _ _ _ _ _ hF (lv_sub hl [2, 3, 4, 1, 0] rfl) hP hS
theorem cw_X11_text : (Cond.instanceMethod yX11_text ∈ TB ∧ Cond.selects RX11 yX11_text yX11_text ∈ TB ∧ Cond.code yX11_text cX11_text 7 (some .int) ∈ TB) ∧ (yX11_text.cls = RX11 ∧ yX11_text.cls ≠ "java/lang/invoke/MethodHandle" ∧ yX11_text.cls ≠ "java/lang/invoke/VarHandle" ∧ (parseMethodDescriptor yX11_text.desc).map (fun d => d.parameters.length) = some 2) := ⟨⟨mw40_12, mw40_13, mw40_14⟩, by decide +kernel⟩
/-! X11_letter -/
noncomputable def M_letter_22 (nf : Nat) (t0 : Int32) (fi : FI) (ar : AR) : Option (Int32 × FI × AR) :=
  some ((t0), fi, ar)
noncomputable def M_letter (nf : Nat) (fi : FI) (ar : AR) (x1 : Int32) (x2 : Int32) : Option (Int32 × FI × AR) :=
  obnd3 (M_no nf fi ar (x1)) fun r4 fi2 ar3 => br ((r4) = 0) (obnd3 (M_item nf fi2 ar3 (x1)) fun r9 fi7 ar8 => obnd3 (M_text nf fi7 ar8 (r9) (x2)) fun r13 fi11 ar12 => M_letter_22 nf  (r13) fi11 ar12) (M_letter_22 nf  (0 : Int32) fi2 ar3)
set_option maxHeartbeats 4000000 in
set_option maxRecDepth 100000 in
theorem k_letter (l : Launch) (g : GT) (am : Nat → Nat) (sz : Nat) (nf : Nat) (fi : FI) (ar : AR) (p1 : Int32) (p2 : Int32) (r : Int32) (fi' : FI) (ar' : AR) (hF : M_letter nf fi ar p1 p2 = some (r, fi', ar')) : Met l yX11_letter (wx yX11_letter cX11_letter 3 (some .int)) ({ frames := 11, cells := 0, slots := 0, locals := 250 } : Room) (va_Pc [.ref (am 0), .int p1, .int p2] (PM g am sz fi ar)) (QMi g am sz r fi' ar') 0 0 (AM am sz) := by
  refine Met.ofW (cc := cX11_letter) (maxL := 3) (ret := (some .int)) (by decide) rfl ?_
  intro p e s m args below meth c s₁ B hml hv
  obtain ⟨rfl, hsz, hP, hK, hD0, hE⟩ := hv
  have hx := B.exec
  have hb := B.bytes
  have hr := B.returns
  have hts := atoms_spec (ws := (wx yX11_letter cX11_letter 3 (some .int))) B.pre
  have hT : ∀ w ∈ TB, w.before _ s = true := fun w h => hts w (List.mem_cons_of_mem _ h)
  have hown : s.vm.findClass RX11 = some m.cls := findClass_of_methodNamed B.named
  have hlocks := B.notSynchronized
  subst hsz
  have hD := dM hD0 s.heap.size
  have hA : ∀ q : Nat, s.heap.size ≤ q → AM am s.heap.size q := fun q h => Or.inr h
  have hS : va_S (AM am s.heap.size) s.heap s.heap [] := va_S.rf
  have hl := lv_entry ([.ref (am 0), .int p1, .int p2]) (n := 3) (Nat.le_of_ble_eq_true rfl)
  rw [lg_entry_eq]
  generalize (lg_sl ([.ref (am 0), .int p1, .int p2]) ++ List.replicate (3 - (lg_sl ([.ref (am 0), .int p1, .int p2])).length) Slot.unset).toArray = ls at hl ⊢
  have hl : lv_has ls 3 [(0, .ref (am 0)), (1, .int p1), (2, .int p2)] := hl
  unfold M_letter at hF
  have J22 : ∀ (t0 : Int32) (fi : FI) (ar : AR) (H : Heap) (locs : List Loc) (ls : Array Slot), M_letter_22 nf t0 fi ar = some (r, fi', ar') → lv_has ls 3 [(0, .ref (am 0))] → va_P (gD g) vwCl (WM g am fi ar) H → va_S (AM am s.heap.size) s.heap H locs → W p l e (headSpec (wx yX11_letter cX11_letter 3 (some .int)) ({ frames := 11, cells := 0, slots := 0, locals := 250 } : Room)).room s m ([.ref (am 0), .int p1, .int p2] : List Value).toArray below meth c H locs 0 0 (MQ below (QMi g am s.heap.size r fi' ar') ([.ref (am 0), .int p1, .int p2] : List Value).toArray s 0 0 (AM am s.heap.size)) (F0 m 22 ls [.int t0]) := by
    intro t0 fi ar H locs ls hF hl hP hS
    unfold M_letter_22 at hF
    exact rM_i hx hb hr hlocks hF hP hS dX11_letter_22
  replace hl := lv_sub hl [0, 1, 2] rfl
  refine lv_aload_n hx hb dX11_letter_0 rfl (lv_at hl 0 rfl) ?_
  refine lv_iload_n hx hb dX11_letter_1 rfl (lv_at hl 1 rfl) ?_
  replace hF := obnd3_of hF
  obtain ⟨r4, fi2, ar3, h1, hF⟩ := hF
  refine cM_i (As := [.int (p1)]) (rest := []) hx hb hml hT hown hK hE hD hA hP hS (k_no l g am _ nf fi ar (p1) r4 fi2 ar3 h1) cw_X11_no mw40_3 ⟨⟨rfl, rfl⟩, Nat.le_of_ble_eq_true rfl, Nat.le_of_ble_eq_true rfl⟩ rfl hl.1 rfl (Nat.le_of_ble_eq_true rfl) dX11_letter_2 ⟨Nat.zero_le _, Nat.zero_le _⟩ (fun H locs hP hS => ?_)
  refine lv_if_eq (tgt := 12) hx hb dX11_letter_5 (by decide) (fun hc5 => ?_) (fun hc5 => ?_)
  · replace hF := br_yes hF hc5
    refine lv_aload_n hx hb dX11_letter_12 rfl (lv_at hl 0 rfl) ?_
    refine lv_aload_n hx hb dX11_letter_13 rfl (lv_at hl 0 rfl) ?_
    refine lv_iload_n hx hb dX11_letter_14 rfl (lv_at hl 1 rfl) ?_
    replace hF := obnd3_of hF
    obtain ⟨r9, fi7, ar8, h6, hF⟩ := hF
    refine cM_i (As := [.int (p1)]) (rest := [.ref (am 0)]) hx hb hml hT hown hK hE hD hA hP hS (k_item l g am _ nf fi2 ar3 (p1) r9 fi7 ar8 h6) cw_X11_item mw40_7 ⟨⟨rfl, rfl⟩, Nat.le_of_ble_eq_true rfl, Nat.le_of_ble_eq_true rfl⟩ rfl hl.1 rfl (Nat.le_of_ble_eq_true rfl) dX11_letter_15 ⟨Nat.zero_le _, Nat.zero_le _⟩ (fun H locs hP hS => ?_)
    refine lv_iload_n hx hb dX11_letter_18 rfl (lv_at hl 2 rfl) ?_
    replace hF := obnd3_of hF
    obtain ⟨r13, fi11, ar12, h10, hF⟩ := hF
    refine cM_i (As := [.int (r9), .int (p2)]) (rest := []) hx hb hml hT hown hK hE hD hA hP hS (k_text l g am _ nf fi7 ar8 (r9) (p2) r13 fi11 ar12 h10) cw_X11_text mw40_11 ⟨⟨rfl, rfl⟩, Nat.le_of_ble_eq_true rfl, Nat.le_of_ble_eq_true rfl⟩ rfl hl.1 rfl (Nat.le_of_ble_eq_true rfl) dX11_letter_19 ⟨Nat.zero_le _, Nat.zero_le _⟩ (fun H locs hP hS => ?_)
    exact J22 (r13) _ _ _ _ _ hF (lv_sub hl [0] rfl) hP hS
  · replace hF := br_no hF hc5
    refine lv_iconst (v := (0 : Int32)) hx hb dX11_letter_8 (by decide) ?_
    refine lv_goto (tgt := 22) hx hb dX11_letter_9 (by decide) ?_
    exact J22 (0 : Int32) _ _ _ _ _ hF (lv_sub hl [0] rfl) hP hS
theorem cw_X11_letter : (Cond.instanceMethod yX11_letter ∈ TB ∧ Cond.selects RX11 yX11_letter yX11_letter ∈ TB ∧ Cond.code yX11_letter cX11_letter 3 (some .int) ∈ TB) ∧ (yX11_letter.cls = RX11 ∧ yX11_letter.cls ≠ "java/lang/invoke/MethodHandle" ∧ yX11_letter.cls ≠ "java/lang/invoke/VarHandle" ∧ (parseMethodDescriptor yX11_letter.desc).map (fun d => d.parameters.length) = some 2) := ⟨⟨mw40_0, mw40_1, mw40_2⟩, by decide +kernel⟩
/-! X11_seconds -/
noncomputable def M_seconds_67b (K67 : Int32 → Int32 → Int32 → Int64 → Int32 → Option Int64) (nf : Nat) (x1 : Int32) (x2 : Int32) (x3 : Int32) (x4 : Int64) (x6 : Int32) : Option Int64 :=
  br ((x3) ≤ (x6)) (some (((((86400 : Int64) * (x4)) + ((3600 : Int64) * (((x1) >>> ((11 : Int32) &&& 31)).toInt64))) + ((60 : Int64) * ((((x1) >>> ((5 : Int32) &&& 31)) &&& (63 : Int32)).toInt64))) + ((2 : Int64) * (((x1) &&& (31 : Int32)).toInt64)))) (obnd (M_daysOf nf (x6) (x2)) fun r3 => bnd ((x4) + ((r3).toInt64)) fun x4_4 => bnd ((x6) + (1 : Int32)) fun x6_5 => K67 (x1) (x2) (x3) (x4_4) (x6_5))
noncomputable def M_seconds_67 (nf : Nat) (kf : Nat) : Int32 → Int32 → Int32 → Int64 → Int32 → Option Int64 := Nat.rec (fun _ _ _ _ _ => none) (fun _ K67 => M_seconds_67b K67 nf) kf
noncomputable def M_seconds_55 (K30 : Int32 → Int32 → Int32 → Int64 → Int32 → Option Int64) (nf : Nat) (x1 : Int32) (x2 : Int32) (x3 : Int32) (x6 : Int32) (t0 : Int64) (t1 : Int64) : Option Int64 :=
  bnd ((t0) + (t1)) fun x4_6 => bnd ((x6) + (1 : Int32)) fun x6_7 => K30 (x1) (x2) (x3) (x4_6) (x6_7)
noncomputable def M_seconds_30b (K30 : Int32 → Int32 → Int32 → Int64 → Int32 → Option Int64) (nf : Nat) (x1 : Int32) (x2 : Int32) (x3 : Int32) (x4 : Int64) (x6 : Int32) : Option Int64 :=
  br ((x2) ≤ (x6)) (M_seconds_67 nf nf (x1) (x2) (x3) (x4) (1 : Int32)) (obnd (M_isLeap nf (x6)) fun r10 => br ((r10) = 0) (M_seconds_55 K30 nf  (x1) (x2) (x3) (x6) (x4) (365 : Int64)) (M_seconds_55 K30 nf  (x1) (x2) (x3) (x6) (x4) (366 : Int64)))
noncomputable def M_seconds_30 (nf : Nat) (kf : Nat) : Int32 → Int32 → Int32 → Int64 → Int32 → Option Int64 := Nat.rec (fun _ _ _ _ _ => none) (fun _ K30 => M_seconds_30b K30 nf) kf
noncomputable def M_seconds (nf : Nat) (x0 : Int32) (x1 : Int32) : Option Int64 :=
  bnd ((1980 : Int32) + ((x0) >>> ((9 : Int32) &&& 31))) fun x2_12 => bnd (((x0) >>> ((5 : Int32) &&& 31)) &&& (15 : Int32)) fun x3_13 => bnd ((((x0) &&& (31 : Int32)) - (1 : Int32)).toInt64) fun x4_14 => M_seconds_30 nf nf (x1) (x2_12) (x3_13) (x4_14) (1970 : Int32)
set_option maxHeartbeats 4000000 in
set_option maxRecDepth 100000 in
theorem k_seconds (l : Launch) (g : GT) (nf : Nat) (p0 : Int32) (p1 : Int32) (r : Int64) (hF : M_seconds nf p0 p1 = some r) : Met l yX11_seconds (wx yX11_seconds cX11_seconds 7 (some .long)) ({ frames := 2, cells := 0, slots := 0, locals := 41 } : Room) (va_Pc [.int p0, .int p1] (PS g)) (QSl r) 0 0 noA := by
  refine Met.ofW (cc := cX11_seconds) (maxL := 7) (ret := (some .long)) (by decide) rfl ?_
  intro p e s m args below meth c s₁ B hml hv
  obtain ⟨rfl, hE⟩ := hv
  have hx := B.exec
  have hb := B.bytes
  have hr := B.returns
  have hts := atoms_spec (ws := (wx yX11_seconds cX11_seconds 7 (some .long))) B.pre
  have hT : ∀ w ∈ TB, w.before _ s = true := fun w h => hts w (List.mem_cons_of_mem _ h)
  have hown : s.vm.findClass RX11 = some m.cls := findClass_of_methodNamed B.named
  have hlocks := B.notSynchronized
  have hS : va_S noA s.heap s.heap [] := va_S.rf
  have hP : va_P (gD g) vwCl [] s.heap := fun k q h => by cases h
  have hl := lv_entry ([.int p0, .int p1]) (n := 7) (Nat.le_of_ble_eq_true rfl)
  rw [lg_entry_eq]
  generalize (lg_sl ([.int p0, .int p1]) ++ List.replicate (7 - (lg_sl ([.int p0, .int p1])).length) Slot.unset).toArray = ls at hl ⊢
  have hl : lv_has ls 7 [(0, .int p0), (1, .int p1)] := hl
  unfold M_seconds at hF
  have L67 : ∀ kf : Nat, ∀ (x1 : Int32) (x2 : Int32) (x3 : Int32) (x4 : Int64) (x6 : Int32) (H : Heap) (locs : List Loc) (ls : Array Slot), M_seconds_67 nf kf x1 x2 x3 x4 x6 = some r → lv_has ls 7 [(1, .int x1), (2, .int x2), (3, .int x3), (4, .long x4), (6, .int x6)] → va_P (gD g) vwCl [] H → va_S noA s.heap H locs → W p l e (headSpec (wx yX11_seconds cX11_seconds 7 (some .long)) ({ frames := 2, cells := 0, slots := 0, locals := 41 } : Room)).room s m ([.int p0, .int p1] : List Value).toArray below meth c H locs 0 0 (MQ below (QSl r) ([.int p0, .int p1] : List Value).toArray s 0 0 noA) (F0 m 67 ls []) := by
    intro kf
    induction kf with
    | zero => intro x1 x2 x3 x4 x6 H locs ls hF hl hP hS; cases (show (none : Option Int64) = _ from hF)
    | succ kf ih67 =>
      intro x1 x2 x3 x4 x6 H locs ls hF hl hP hS
      obtain ⟨K67, hK67⟩ : ∃ K : Int32 → Int32 → Int32 → Int64 → Int32 → Option Int64, K = M_seconds_67 nf kf := ⟨_, rfl⟩
      replace hF : M_seconds_67b K67 nf x1 x2 x3 x4 x6 = some r := by rw [hK67]; exact hF
      rw [← hK67] at ih67
      clear hK67
      unfold M_seconds_67b at hF
      refine lv_iload hx hb dX11_seconds_67 (lv_at hl 4 rfl) ?_
      refine lv_iload_n hx hb dX11_seconds_69 rfl (lv_at hl 2 rfl) ?_
      refine lv_icmp_ge (tgt := 91) hx hb dX11_seconds_70 (by decide) (fun hc1 => ?_) (fun hc1 => ?_)
      · replace hF := br_yes hF hc1
        refine lv_ldc2 (v := (86400 : Int64)) hx hb hown (hT _ mw42_12) dX11_seconds_91 ?_
        refine lv_lload hx hb dX11_seconds_94 (lv_at hl 3 rfl) ?_
        refine lv_lmul hx hb dX11_seconds_96 ?_
        refine lv_ldc2 (v := (3600 : Int64)) hx hb hown (hT _ mw42_13) dX11_seconds_97 ?_
        refine lv_iload_n hx hb dX11_seconds_100 rfl (lv_at hl 0 rfl) ?_
        refine lv_bipush (v := (11 : Int32)) hx hb dX11_seconds_101 (by decide) ?_
        refine lv_ishr hx hb dX11_seconds_103 ?_
        refine lv_i2l hx hb dX11_seconds_104 rfl ?_
        refine lv_lmul hx hb dX11_seconds_105 ?_
        refine lv_ladd hx hb dX11_seconds_106 ?_
        refine lv_ldc2 (v := (60 : Int64)) hx hb hown (hT _ mw42_14) dX11_seconds_107 ?_
        refine lv_iload_n hx hb dX11_seconds_110 rfl (lv_at hl 0 rfl) ?_
        refine lv_iconst (v := (5 : Int32)) hx hb dX11_seconds_111 (by decide) ?_
        refine lv_ishr hx hb dX11_seconds_112 ?_
        refine lv_bipush (v := (63 : Int32)) hx hb dX11_seconds_113 (by decide) ?_
        refine lv_iand hx hb dX11_seconds_115 ?_
        refine lv_i2l hx hb dX11_seconds_116 rfl ?_
        refine lv_lmul hx hb dX11_seconds_117 ?_
        refine lv_ladd hx hb dX11_seconds_118 ?_
        refine lv_ldc2 (v := (2 : Int64)) hx hb hown (hT _ mw17_17) dX11_seconds_119 ?_
        refine lv_iload_n hx hb dX11_seconds_122 rfl (lv_at hl 0 rfl) ?_
        refine lv_bipush (v := (31 : Int32)) hx hb dX11_seconds_123 (by decide) ?_
        refine lv_iand hx hb dX11_seconds_125 ?_
        refine lv_i2l hx hb dX11_seconds_126 rfl ?_
        refine lv_lmul hx hb dX11_seconds_127 ?_
        refine lv_ladd hx hb dX11_seconds_128 ?_
        exact rS_l hx hb hr hlocks hF hS dX11_seconds_129
      · replace hF := br_no hF hc1
        refine lv_lload hx hb dX11_seconds_73 (lv_at hl 3 rfl) ?_
        refine lv_iload hx hb dX11_seconds_75 (lv_at hl 4 rfl) ?_
        refine lv_iload_n hx hb dX11_seconds_77 rfl (lv_at hl 1 rfl) ?_
        replace hF := obnd_of hF
        obtain ⟨r3, h2, hF⟩ := hF
        refine cS_i (As := [.int (x6), .int (x2)]) (rest := [.long (x4)]) hx hb hml hT hown hE hP hS (k_daysOf l g nf (x6) (x2) r3 h2) cw_X11_daysOf mw34_2 ⟨⟨rfl, rfl⟩, Nat.le_of_ble_eq_true rfl, Nat.le_of_ble_eq_true rfl⟩ rfl hl.1 rfl (Nat.le_of_ble_eq_true rfl) dX11_seconds_78 ⟨Nat.zero_le _, Nat.zero_le _⟩ (fun H locs hP hS => ?_)
        refine lv_i2l hx hb dX11_seconds_81 rfl ?_
        refine lv_ladd hx hb dX11_seconds_82 ?_
        obtain ⟨x4_4, ex4_4⟩ : ∃ y : Int64, y = ((x4) + ((r3).toInt64)) := ⟨_, rfl⟩
        rw [← ex4_4]
        replace hF := bnd_of hF ex4_4
        refine lv_lstore (lv' := [(4, .long (x4_4)), (1, .int (x1)), (2, .int (x2)), (3, .int (x3)), (6, .int (x6))]) hx hb dX11_seconds_83 hl (by decide) rfl (fun ls hl => ?_)
        obtain ⟨x6_5, ex6_5⟩ : ∃ y : Int32, y = (x6) + (1 : Int32) := ⟨_, rfl⟩
        replace hF := bnd_of hF ex6_5
        refine lv_iinc (v := x6_5) (lv' := [(6, .int (x6_5)), (4, .long (x4_4)), (1, .int (x1)), (2, .int (x2)), (3, .int (x3))]) hx hb dX11_seconds_85 hl (k := 4) rfl (by rw [ex6_5]; rfl) (by decide) rfl (fun ls hl => ?_)
        refine lv_goto (tgt := 67) hx hb dX11_seconds_88 (by decide) ?_
        exact ih67 (x1) (x2) (x3) (x4_4) (x6_5)  _ _ _ hF (lv_sub hl [2, 3, 4, 1, 0] rfl) hP hS
  have L30 : ∀ kf : Nat, ∀ (x1 : Int32) (x2 : Int32) (x3 : Int32) (x4 : Int64) (x6 : Int32) (H : Heap) (locs : List Loc) (ls : Array Slot), M_seconds_30 nf kf x1 x2 x3 x4 x6 = some r → lv_has ls 7 [(1, .int x1), (2, .int x2), (3, .int x3), (4, .long x4), (6, .int x6)] → va_P (gD g) vwCl [] H → va_S noA s.heap H locs → W p l e (headSpec (wx yX11_seconds cX11_seconds 7 (some .long)) ({ frames := 2, cells := 0, slots := 0, locals := 41 } : Room)).room s m ([.int p0, .int p1] : List Value).toArray below meth c H locs 0 0 (MQ below (QSl r) ([.int p0, .int p1] : List Value).toArray s 0 0 noA) (F0 m 30 ls []) := by
    intro kf
    induction kf with
    | zero => intro x1 x2 x3 x4 x6 H locs ls hF hl hP hS; cases (show (none : Option Int64) = _ from hF)
    | succ kf ih30 =>
      intro x1 x2 x3 x4 x6 H locs ls hF hl hP hS
      obtain ⟨K30, hK30⟩ : ∃ K : Int32 → Int32 → Int32 → Int64 → Int32 → Option Int64, K = M_seconds_30 nf kf := ⟨_, rfl⟩
      replace hF : M_seconds_30b K30 nf x1 x2 x3 x4 x6 = some r := by rw [hK30]; exact hF
      rw [← hK30] at ih30
      clear hK30
      have J55 : ∀ (x1 : Int32) (x2 : Int32) (x3 : Int32) (x6 : Int32) (t0 : Int64) (t1 : Int64) (H : Heap) (locs : List Loc) (ls : Array Slot), M_seconds_55 K30 nf x1 x2 x3 x6 t0 t1 = some r → lv_has ls 7 [(1, .int x1), (2, .int x2), (3, .int x3), (6, .int x6)] → va_P (gD g) vwCl [] H → va_S noA s.heap H locs → W p l e (headSpec (wx yX11_seconds cX11_seconds 7 (some .long)) ({ frames := 2, cells := 0, slots := 0, locals := 41 } : Room)).room s m ([.int p0, .int p1] : List Value).toArray below meth c H locs 0 0 (MQ below (QSl r) ([.int p0, .int p1] : List Value).toArray s 0 0 noA) (F0 m 55 ls [.long t1, .long t0]) := by
        intro x1 x2 x3 x6 t0 t1 H locs ls hF hl hP hS
        unfold M_seconds_55 at hF
        refine lv_ladd hx hb dX11_seconds_55 ?_
        obtain ⟨x4_6, ex4_6⟩ : ∃ y : Int64, y = ((t0) + (t1)) := ⟨_, rfl⟩
        rw [← ex4_6]
        replace hF := bnd_of hF ex4_6
        refine lv_lstore (lv' := [(4, .long (x4_6)), (1, .int (x1)), (2, .int (x2)), (3, .int (x3)), (6, .int (x6))]) hx hb dX11_seconds_56 hl (by decide) rfl (fun ls hl => ?_)
        obtain ⟨x6_7, ex6_7⟩ : ∃ y : Int32, y = (x6) + (1 : Int32) := ⟨_, rfl⟩
        replace hF := bnd_of hF ex6_7
        refine lv_iinc (v := x6_7) (lv' := [(6, .int (x6_7)), (4, .long (x4_6)), (1, .int (x1)), (2, .int (x2)), (3, .int (x3))]) hx hb dX11_seconds_58 hl (k := 4) rfl (by rw [ex6_7]; rfl) (by decide) rfl (fun ls hl => ?_)
        refine lv_goto (tgt := 30) hx hb dX11_seconds_61 (by decide) ?_
        exact ih30 (x1) (x2) (x3) (x4_6) (x6_7)  _ _ _ hF (lv_sub hl [2, 3, 4, 1, 0] rfl) hP hS
      unfold M_seconds_30b at hF
      refine lv_iload hx hb dX11_seconds_30 (lv_at hl 4 rfl) ?_
      refine lv_iload_n hx hb dX11_seconds_32 rfl (lv_at hl 1 rfl) ?_
      refine lv_icmp_ge (tgt := 64) hx hb dX11_seconds_33 (by decide) (fun hc8 => ?_) (fun hc8 => ?_)
      · replace hF := br_yes hF hc8
        refine lv_iconst (v := (1 : Int32)) hx hb dX11_seconds_64 (by decide) ?_
        refine lv_istore (lv' := [(6, .int (1 : Int32)), (1, .int (x1)), (2, .int (x2)), (3, .int (x3)), (4, .long (x4))]) hx hb dX11_seconds_65 hl (by decide) rfl (fun ls hl => ?_)
        exact L67 nf (x1) (x2) (x3) (x4) (1 : Int32)  _ _ _ hF (lv_sub hl [1, 2, 3, 4, 0] rfl) hP hS
      · replace hF := br_no hF hc8
        refine lv_lload hx hb dX11_seconds_36 (lv_at hl 3 rfl) ?_
        refine lv_iload hx hb dX11_seconds_38 (lv_at hl 4 rfl) ?_
        replace hF := obnd_of hF
        obtain ⟨r10, h9, hF⟩ := hF
        refine cS_i (As := [.int (x6)]) (rest := [.long (x4)]) hx hb hml hT hown hE hP hS (k_isLeap l g nf (x6) r10 h9) cw_X11_isLeap mw34_5 ⟨⟨rfl, rfl⟩, Nat.le_of_ble_eq_true rfl, Nat.le_of_ble_eq_true rfl⟩ rfl hl.1 rfl (Nat.le_of_ble_eq_true rfl) dX11_seconds_40 ⟨Nat.zero_le _, Nat.zero_le _⟩ (fun H locs hP hS => ?_)
        refine lv_if_eq (tgt := 52) hx hb dX11_seconds_43 (by decide) (fun hc11 => ?_) (fun hc11 => ?_)
        · replace hF := br_yes hF hc11
          refine lv_ldc2 (v := (365 : Int64)) hx hb hown (hT _ mw42_11) dX11_seconds_52 ?_
          exact J55 (x1) (x2) (x3) (x6) (x4) (365 : Int64)  _ _ _ hF (lv_sub hl [0, 1, 2, 4] rfl) hP hS
        · replace hF := br_no hF hc11
          refine lv_ldc2 (v := (366 : Int64)) hx hb hown (hT _ mw42_10) dX11_seconds_46 ?_
          refine lv_goto (tgt := 55) hx hb dX11_seconds_49 (by decide) ?_
          exact J55 (x1) (x2) (x3) (x6) (x4) (366 : Int64)  _ _ _ hF (lv_sub hl [0, 1, 2, 4] rfl) hP hS
  replace hl := lv_sub hl [0, 1] rfl
  refine lv_sipush (v := (1980 : Int32)) hx hb dX11_seconds_0 (by decide) ?_
  refine lv_iload_n hx hb dX11_seconds_3 rfl (lv_at hl 0 rfl) ?_
  refine lv_bipush (v := (9 : Int32)) hx hb dX11_seconds_4 (by decide) ?_
  refine lv_ishr hx hb dX11_seconds_6 ?_
  refine lv_iadd hx hb dX11_seconds_7 ?_
  obtain ⟨x2_12, ex2_12⟩ : ∃ y : Int32, y = ((1980 : Int32) + ((p0) >>> ((9 : Int32) &&& 31))) := ⟨_, rfl⟩
  rw [← ex2_12]
  replace hF := bnd_of hF ex2_12
  refine lv_istore_n (lv' := [(2, .int (x2_12)), (0, .int (p0)), (1, .int (p1))]) hx hb dX11_seconds_8 rfl hl (by decide) rfl (fun ls hl => ?_)
  refine lv_iload_n hx hb dX11_seconds_9 rfl (lv_at hl 1 rfl) ?_
  refine lv_iconst (v := (5 : Int32)) hx hb dX11_seconds_10 (by decide) ?_
  refine lv_ishr hx hb dX11_seconds_11 ?_
  refine lv_bipush (v := (15 : Int32)) hx hb dX11_seconds_12 (by decide) ?_
  refine lv_iand hx hb dX11_seconds_14 ?_
  obtain ⟨x3_13, ex3_13⟩ : ∃ y : Int32, y = (((p0) >>> ((5 : Int32) &&& 31)) &&& (15 : Int32)) := ⟨_, rfl⟩
  rw [← ex3_13]
  replace hF := bnd_of hF ex3_13
  refine lv_istore_n (lv' := [(3, .int (x3_13)), (2, .int (x2_12)), (0, .int (p0)), (1, .int (p1))]) hx hb dX11_seconds_15 rfl hl (by decide) rfl (fun ls hl => ?_)
  refine lv_iload_n hx hb dX11_seconds_16 rfl (lv_at hl 2 rfl) ?_
  refine lv_bipush (v := (31 : Int32)) hx hb dX11_seconds_17 (by decide) ?_
  refine lv_iand hx hb dX11_seconds_19 ?_
  refine lv_iconst (v := (1 : Int32)) hx hb dX11_seconds_20 (by decide) ?_
  refine lv_isub hx hb dX11_seconds_21 ?_
  refine lv_i2l hx hb dX11_seconds_22 rfl ?_
  obtain ⟨x4_14, ex4_14⟩ : ∃ y : Int64, y = ((((p0) &&& (31 : Int32)) - (1 : Int32)).toInt64) := ⟨_, rfl⟩
  rw [← ex4_14]
  replace hF := bnd_of hF ex4_14
  refine lv_lstore (lv' := [(4, .long (x4_14)), (3, .int (x3_13)), (2, .int (x2_12)), (0, .int (p0)), (1, .int (p1))]) hx hb dX11_seconds_23 hl (by decide) rfl (fun ls hl => ?_)
  refine lv_sipush (v := (1970 : Int32)) hx hb dX11_seconds_25 (by decide) ?_
  refine lv_istore (lv' := [(6, .int (1970 : Int32)), (4, .long (x4_14)), (3, .int (x3_13)), (2, .int (x2_12)), (0, .int (p0)), (1, .int (p1))]) hx hb dX11_seconds_28 hl (by decide) rfl (fun ls hl => ?_)
  exact L30 nf (p1) (x2_12) (x3_13) (x4_14) (1970 : Int32)  _ _ _ hF (lv_sub hl [5, 3, 2, 1, 0] rfl) hP hS
theorem cw_X11_seconds : (Cond.static yX11_seconds ∈ TB ∧ Cond.code yX11_seconds cX11_seconds 7 (some .long) ∈ TB ∧ Cond.initialized yX11_seconds.cls ∈ TB) ∧ (yX11_seconds.cls ≠ "java/lang/invoke/MethodHandle" ∧ yX11_seconds.cls ≠ "java/lang/invoke/VarHandle" ∧ (parseMethodDescriptor yX11_seconds.desc).map (fun d => d.parameters.length) = some 2) := ⟨⟨mw42_8, mw42_9, mw1_5⟩, by decide +kernel⟩
