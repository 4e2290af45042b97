/-! X11_thrown -/
noncomputable def M_thrown (nf : Nat) (fi : FI) (ar : AR)  : Option (Int32 × FI × AR) :=
  some ((fi 5), fi, ar)
set_option maxHeartbeats 4000000 in
set_option maxRecDepth 100000 in
theorem k_thrown (l : Launch) (g : GT) (am : Nat → Nat) (sz : Nat) (nf : Nat) (fi : FI) (ar : AR)  (r : Int32) (fi' : FI) (ar' : AR) (hF : M_thrown nf fi ar  = some (r, fi', ar')) : Met l yX11_thrown (wx yX11_thrown cX11_thrown 1 (some .int)) ({ frames := 0, cells := 0, slots := 0, locals := 0 } : Room) (va_Pc [.ref (am 0)] (PM g am sz fi ar)) (QMi g am sz r fi' ar') 0 0 (AM am sz) := by
  refine Met.ofW (cc := cX11_thrown) (maxL := 1) (ret := (some .int)) (by decide) rfl ?_
  intro p e s m args below meth c s₁ B hml hv
  obtain ⟨rfl, hsz, hP, hK, hD0, hE⟩ := hv
  have hx := B.exec
  have hb := B.bytes
  have hr := B.returns
  have hts := atoms_spec (ws := (wx yX11_thrown cX11_thrown 1 (some .int))) B.pre
  have hT : ∀ w ∈ TB, w.before _ s = true := fun w h => hts w (List.mem_cons_of_mem _ h)
  have hown : s.vm.findClass RX11 = some m.cls := findClass_of_methodNamed B.named
  have hlocks := B.notSynchronized
  subst hsz
  have hD := dM hD0 s.heap.size
  have hA : ∀ q : Nat, s.heap.size ≤ q → AM am s.heap.size q := fun q h => Or.inr h
  have hS : va_S (AM am s.heap.size) s.heap s.heap [] := va_S.rf
  have hl := lv_entry ([.ref (am 0)]) (n := 1) (Nat.le_of_ble_eq_true rfl)
  rw [lg_entry_eq]
  generalize (lg_sl ([.ref (am 0)]) ++ List.replicate (1 - (lg_sl ([.ref (am 0)])).length) Slot.unset).toArray = ls at hl ⊢
  have hl : lv_has ls 1 [(0, .ref (am 0))] := hl
  unfold M_thrown at hF
  replace hl := lv_sub hl [0] rfl
  refine lv_aload_n hx hb dX11_thrown_0 rfl (lv_at hl 0 rfl) ?_
  refine mg_5 hx hb hT hown hK hP mw7_11 dX11_thrown_1 ?_
  exact rM_i hx hb hr hlocks hF hP hS dX11_thrown_4
theorem cw_X11_thrown : (Cond.instanceMethod yX11_thrown ∈ TB ∧ Cond.selects RX11 yX11_thrown yX11_thrown ∈ TB ∧ Cond.code yX11_thrown cX11_thrown 1 (some .int) ∈ TB) ∧ (yX11_thrown.cls = RX11 ∧ yX11_thrown.cls ≠ "java/lang/invoke/MethodHandle" ∧ yX11_thrown.cls ≠ "java/lang/invoke/VarHandle" ∧ (parseMethodDescriptor yX11_thrown.desc).map (fun d => d.parameters.length) = some 0) := ⟨⟨mw20_20, mw20_21, mw20_22⟩, by decide +kernel⟩
/-! X11_fails -/
noncomputable def M_fails_28 (nf : Nat) (t0 : Int32) (fi : FI) (ar : AR) : Option (Int32 × FI × AR) :=
  gd ((t0) &&& 1 = (t0)) (some ((t0), fi, ar))
noncomputable def M_fails_16 (nf : Nat)  (fi : FI) (ar : AR) : Option (Int32 × FI × AR) :=
  br ((fi 5) = 0) (M_fails_28 nf  (0 : Int32) fi ar) (M_fails_28 nf  (1 : Int32) fi ar)
noncomputable def M_fails (nf : Nat) (fi : FI) (ar : AR) (x1 : Int32) (x2 : Int32) : Option (Int32 × FI × AR) :=
  br ((x1) = 0) (M_fails_16 nf  fi ar) (br ((fi 5) = 0) (bnd (va_up fi 5 (x2)) fun fi5 => M_fails_16 nf  fi5 ar) (M_fails_16 nf  fi ar))
set_option maxHeartbeats 4000000 in
set_option maxRecDepth 100000 in
theorem k_fails (l : Launch) (g : GT) (am : Nat → Nat) (sz : Nat) (nf : Nat) (fi : FI) (ar : AR) (p1 : Int32) (p2 : Int32) (r : Int32) (fi' : FI) (ar' : AR) (hF : M_fails nf fi ar p1 p2 = some (r, fi', ar')) : Met l yX11_fails (wx yX11_fails cX11_fails 3 (some .boolean)) ({ frames := 0, cells := 0, slots := 0, locals := 0 } : Room) (va_Pc [.ref (am 0), .int p1, .int p2] (PM g am sz fi ar)) (QMi g am sz r fi' ar') 0 0 (AM am sz) := by
  refine Met.ofW (cc := cX11_fails) (maxL := 3) (ret := (some .boolean)) (by decide) rfl ?_
  intro p e s m args below meth c s₁ B hml hv
  obtain ⟨rfl, hsz, hP, hK, hD0, hE⟩ := hv
  have hx := B.exec
  have hb := B.bytes
  have hr := B.returns
  have hts := atoms_spec (ws := (wx yX11_fails cX11_fails 3 (some .boolean))) B.pre
  have hT : ∀ w ∈ TB, w.before _ s = true := fun w h => hts w (List.mem_cons_of_mem _ h)
  have hown : s.vm.findClass RX11 = some m.cls := findClass_of_methodNamed B.named
  have hlocks := B.notSynchronized
  subst hsz
  have hD := dM hD0 s.heap.size
  have hA : ∀ q : Nat, s.heap.size ≤ q → AM am s.heap.size q := fun q h => Or.inr h
  have hS : va_S (AM am s.heap.size) s.heap s.heap [] := va_S.rf
  have hl := lv_entry ([.ref (am 0), .int p1, .int p2]) (n := 3) (Nat.le_of_ble_eq_true rfl)
  rw [lg_entry_eq]
  generalize (lg_sl ([.ref (am 0), .int p1, .int p2]) ++ List.replicate (3 - (lg_sl ([.ref (am 0), .int p1, .int p2])).length) Slot.unset).toArray = ls at hl ⊢
  have hl : lv_has ls 3 [(0, .ref (am 0)), (1, .int p1), (2, .int p2)] := hl
  unfold M_fails at hF
  have J28 : ∀ (t0 : Int32) (fi : FI) (ar : AR) (H : Heap) (locs : List Loc) (ls : Array Slot), M_fails_28 nf t0 fi ar = some (r, fi', ar') → lv_has ls 3 [(0, .ref (am 0))] → va_P (gD g) vwCl (WM g am fi ar) H → va_S (AM am s.heap.size) s.heap H locs → W p l e (headSpec (wx yX11_fails cX11_fails 3 (some .boolean)) ({ frames := 0, cells := 0, slots := 0, locals := 0 } : Room)).room s m ([.ref (am 0), .int p1, .int p2] : List Value).toArray below meth c H locs 0 0 (MQ below (QMi g am s.heap.size r fi' ar') ([.ref (am 0), .int p1, .int p2] : List Value).toArray s 0 0 (AM am s.heap.size)) (F0 m 28 ls [.int t0]) := by
    intro t0 fi ar H locs ls hF hl hP hS
    unfold M_fails_28 at hF
    replace hF := gd_of hF
    obtain ⟨hz1, hF⟩ := hF
    exact rM_z hx hb hr hlocks (nar_z hz1) hF hP hS dX11_fails_28
  have J16 : ∀  (fi : FI) (ar : AR) (H : Heap) (locs : List Loc) (ls : Array Slot), M_fails_16 nf fi ar = some (r, fi', ar') → lv_has ls 3 [(0, .ref (am 0))] → va_P (gD g) vwCl (WM g am fi ar) H → va_S (AM am s.heap.size) s.heap H locs → W p l e (headSpec (wx yX11_fails cX11_fails 3 (some .boolean)) ({ frames := 0, cells := 0, slots := 0, locals := 0 } : Room)).room s m ([.ref (am 0), .int p1, .int p2] : List Value).toArray below meth c H locs 0 0 (MQ below (QMi g am s.heap.size r fi' ar') ([.ref (am 0), .int p1, .int p2] : List Value).toArray s 0 0 (AM am s.heap.size)) (F0 m 16 ls []) := by
    intro fi ar H locs ls hF hl hP hS
    unfold M_fails_16 at hF
    refine lv_aload_n hx hb dX11_fails_16 rfl (lv_at hl 0 rfl) ?_
    refine mg_5 hx hb hT hown hK hP mw7_11 dX11_fails_17 ?_
    refine lv_if_eq (tgt := 27) hx hb dX11_fails_20 (by decide) (fun hc2 => ?_) (fun hc2 => ?_)
    · replace hF := br_yes hF hc2
      refine lv_iconst (v := (0 : Int32)) hx hb dX11_fails_27 (by decide) ?_
      exact J28 (0 : Int32) _ _ _ _ _ hF (lv_sub hl [0] rfl) hP hS
    · replace hF := br_no hF hc2
      refine lv_iconst (v := (1 : Int32)) hx hb dX11_fails_23 (by decide) ?_
      refine lv_goto (tgt := 28) hx hb dX11_fails_24 (by decide) ?_
      exact J28 (1 : Int32) _ _ _ _ _ hF (lv_sub hl [0] rfl) hP hS
  replace hl := lv_sub hl [0, 1, 2] rfl
  refine lv_iload_n hx hb dX11_fails_0 rfl (lv_at hl 1 rfl) ?_
  refine lv_if_eq (tgt := 16) hx hb dX11_fails_1 (by decide) (fun hc3 => ?_) (fun hc3 => ?_)
  · replace hF := br_yes hF hc3
    exact J16  _ _ _ _ _ hF (lv_sub hl [0] rfl) hP hS
  · replace hF := br_no hF hc3
    refine lv_aload_n hx hb dX11_fails_4 rfl (lv_at hl 0 rfl) ?_
    refine mg_5 hx hb hT hown hK hP mw7_11 dX11_fails_5 ?_
    refine lv_if_ne (tgt := 16) hx hb dX11_fails_8 (by decide) (fun hc4 => ?_) (fun hc4 => ?_)
    · replace hF := br_no hF hc4
      exact J16  _ _ _ _ _ hF (lv_sub hl [0] rfl) hP hS
    · replace hF := br_yes hF hc4
      refine lv_aload_n hx hb dX11_fails_11 rfl (lv_at hl 0 rfl) ?_
      refine lv_iload_n hx hb dX11_fails_12 rfl (lv_at hl 2 rfl) ?_
      obtain ⟨fi5, efi5⟩ : ∃ y : FI, y = va_up fi 5 (p2) := ⟨_, rfl⟩
      replace hF := bnd_of hF efi5
      refine mp_5 hx hb hT hown hK hP hD hS mw7_11 dX11_fails_13 (fun H locs hP hS => ?_)
      rw [← efi5] at hP
      exact J16  _ _ _ _ _ hF (lv_sub hl [0] rfl) hP hS
theorem cw_X11_fails : (Cond.instanceMethod yX11_fails ∈ TB ∧ Cond.selects RX11 yX11_fails yX11_fails ∈ TB ∧ Cond.code yX11_fails cX11_fails 3 (some .boolean) ∈ TB) ∧ (yX11_fails.cls = RX11 ∧ yX11_fails.cls ≠ "java/lang/invoke/MethodHandle" ∧ yX11_fails.cls ≠ "java/lang/invoke/VarHandle" ∧ (parseMethodDescriptor yX11_fails.desc).map (fun d => d.parameters.length) = some 2) := ⟨⟨mw18_15, mw18_16, mw18_17⟩, by decide +kernel⟩
/-! X11_one -/
noncomputable def M_one (nf : Nat) (fi : FI) (ar : AR) (x1 : Int32) : Option (Int32 × FI × AR) :=
  gd (¬ ((x1) < 0 ∨ 524288 ≤ (x1).toNatClampNeg)) (some (((ar 1 (x1).toNatClampNeg) &&& (255 : Int32)), fi, ar))
set_option maxHeartbeats 4000000 in
set_option maxRecDepth 100000 in
theorem k_one (l : Launch) (g : GT) (am : Nat → Nat) (sz : Nat) (nf : Nat) (fi : FI) (ar : AR) (p1 : Int32) (r : Int32) (fi' : FI) (ar' : AR) (hF : M_one nf fi ar p1 = some (r, fi', ar')) : Met l yX11_one (wx yX11_one cX11_one 2 (some .int)) ({ frames := 0, cells := 0, slots := 0, locals := 0 } : Room) (va_Pc [.ref (am 0), .int p1] (PM g am sz fi ar)) (QMi g am sz r fi' ar') 0 0 (AM am sz) := by
  refine Met.ofW (cc := cX11_one) (maxL := 2) (ret := (some .int)) (by decide) rfl ?_
  intro p e s m args below meth c s₁ B hml hv
  obtain ⟨rfl, hsz, hP, hK, hD0, hE⟩ := hv
  have hx := B.exec
  have hb := B.bytes
  have hr := B.returns
  have hts := atoms_spec (ws := (wx yX11_one cX11_one 2 (some .int))) B.pre
  have hT : ∀ w ∈ TB, w.before _ s = true := fun w h => hts w (List.mem_cons_of_mem _ h)
  have hown : s.vm.findClass RX11 = some m.cls := findClass_of_methodNamed B.named
  have hlocks := B.notSynchronized
  subst hsz
  have hD := dM hD0 s.heap.size
  have hA : ∀ q : Nat, s.heap.size ≤ q → AM am s.heap.size q := fun q h => Or.inr h
  have hS : va_S (AM am s.heap.size) s.heap s.heap [] := va_S.rf
  have hl := lv_entry ([.ref (am 0), .int p1]) (n := 2) (Nat.le_of_ble_eq_true rfl)
  rw [lg_entry_eq]
  generalize (lg_sl ([.ref (am 0), .int p1]) ++ List.replicate (2 - (lg_sl ([.ref (am 0), .int p1])).length) Slot.unset).toArray = ls at hl ⊢
  have hl : lv_has ls 2 [(0, .ref (am 0)), (1, .int p1)] := hl
  unfold M_one at hF
  replace hl := lv_sub hl [0, 1] rfl
  refine lv_aload_n hx hb dX11_one_0 rfl (lv_at hl 0 rfl) ?_
  refine mg_1 hx hb hT hown hK hP mw6_1 dX11_one_1 ?_
  refine lv_iload_n hx hb dX11_one_4 rfl (lv_at hl 1 rfl) ?_
  replace hF := gd_of hF
  obtain ⟨hi1, hF⟩ := hF
  refine ml_1 hx hb hK hP hi1 dX11_one_5 ?_
  refine lv_sipush (v := (255 : Int32)) hx hb dX11_one_6 (by decide) ?_
  refine lv_iand hx hb dX11_one_9 ?_
  exact rM_i hx hb hr hlocks hF hP hS dX11_one_10
theorem cw_X11_one : (Cond.instanceMethod yX11_one ∈ TB ∧ Cond.selects RX11 yX11_one yX11_one ∈ TB ∧ Cond.code yX11_one cX11_one 2 (some .int) ∈ TB) ∧ (yX11_one.cls = RX11 ∧ yX11_one.cls ≠ "java/lang/invoke/MethodHandle" ∧ yX11_one.cls ≠ "java/lang/invoke/VarHandle" ∧ (parseMethodDescriptor yX11_one.desc).map (fun d => d.parameters.length) = some 1) := ⟨⟨mw19_10, mw19_11, mw19_12⟩, by decide +kernel⟩
/-! X11_two -/
noncomputable def M_two (nf : Nat) (fi : FI) (ar : AR) (x1 : Int32) : Option (Int32 × FI × AR) :=
  obnd3 (M_one nf fi ar (x1)) fun r4 fi2 ar3 => obnd3 (M_one nf fi2 ar3 ((x1) + (1 : Int32))) fun r8 fi6 ar7 => some (((r4) ||| ((r8) <<< ((8 : Int32) &&& 31))), fi6, ar7)
set_option maxHeartbeats 4000000 in
set_option maxRecDepth 100000 in
theorem k_two (l : Launch) (g : GT) (am : Nat → Nat) (sz : Nat) (nf : Nat) (fi : FI) (ar : AR) (p1 : Int32) (r : Int32) (fi' : FI) (ar' : AR) (hF : M_two nf fi ar p1 = some (r, fi', ar')) : Met l yX11_two (wx yX11_two cX11_two 2 (some .int)) ({ frames := 1, cells := 0, slots := 0, locals := 21 } : Room) (va_Pc [.ref (am 0), .int p1] (PM g am sz fi ar)) (QMi g am sz r fi' ar') 0 0 (AM am sz) := by
  refine Met.ofW (cc := cX11_two) (maxL := 2) (ret := (some .int)) (by decide) rfl ?_
  intro p e s m args below meth c s₁ B hml hv
  obtain ⟨rfl, hsz, hP, hK, hD0, hE⟩ := hv
  have hx := B.exec
  have hb := B.bytes
  have hr := B.returns
  have hts := atoms_spec (ws := (wx yX11_two cX11_two 2 (some .int))) B.pre
  have hT : ∀ w ∈ TB, w.before _ s = true := fun w h => hts w (List.mem_cons_of_mem _ h)
  have hown : s.vm.findClass RX11 = some m.cls := findClass_of_methodNamed B.named
  have hlocks := B.notSynchronized
  subst hsz
  have hD := dM hD0 s.heap.size
  have hA : ∀ q : Nat, s.heap.size ≤ q → AM am s.heap.size q := fun q h => Or.inr h
  have hS : va_S (AM am s.heap.size) s.heap s.heap [] := va_S.rf
  have hl := lv_entry ([.ref (am 0), .int p1]) (n := 2) (Nat.le_of_ble_eq_true rfl)
  rw [lg_entry_eq]
  generalize (lg_sl ([.ref (am 0), .int p1]) ++ List.replicate (2 - (lg_sl ([.ref (am 0), .int p1])).length) Slot.unset).toArray = ls at hl ⊢
  have hl : lv_has ls 2 [(0, .ref (am 0)), (1, .int p1)] := hl
  unfold M_two at hF
  replace hl := lv_sub hl [0, 1] rfl
  refine lv_aload_n hx hb dX11_two_0 rfl (lv_at hl 0 rfl) ?_
  refine lv_iload_n hx hb dX11_two_1 rfl (lv_at hl 1 rfl) ?_
  replace hF := obnd3_of hF
  obtain ⟨r4, fi2, ar3, h1, hF⟩ := hF
  refine cM_i (As := [.int (p1)]) (rest := []) hx hb hml hT hown hK hE hD hA hP hS (k_one l g am _ nf fi ar (p1) r4 fi2 ar3 h1) cw_X11_one mw19_9 ⟨⟨rfl, rfl⟩, Nat.le_of_ble_eq_true rfl, Nat.le_of_ble_eq_true rfl⟩ rfl hl.1 rfl (Nat.le_of_ble_eq_true rfl) dX11_two_2 ⟨Nat.zero_le _, Nat.zero_le _⟩ (fun H locs hP hS => ?_)
  refine lv_aload_n hx hb dX11_two_5 rfl (lv_at hl 0 rfl) ?_
  refine lv_iload_n hx hb dX11_two_6 rfl (lv_at hl 1 rfl) ?_
  refine lv_iconst (v := (1 : Int32)) hx hb dX11_two_7 (by decide) ?_
  refine lv_iadd hx hb dX11_two_8 ?_
  replace hF := obnd3_of hF
  obtain ⟨r8, fi6, ar7, h5, hF⟩ := hF
  refine cM_i (As := [.int ((p1) + (1 : Int32))]) (rest := [.int (r4)]) hx hb hml hT hown hK hE hD hA hP hS (k_one l g am _ nf fi2 ar3 ((p1) + (1 : Int32)) r8 fi6 ar7 h5) cw_X11_one mw19_9 ⟨⟨rfl, rfl⟩, Nat.le_of_ble_eq_true rfl, Nat.le_of_ble_eq_true rfl⟩ rfl hl.1 rfl (Nat.le_of_ble_eq_true rfl) dX11_two_9 ⟨Nat.zero_le _, Nat.zero_le _⟩ (fun H locs hP hS => ?_)
  refine lv_bipush (v := (8 : Int32)) hx hb dX11_two_12 (by decide) ?_
  refine lv_ishl hx hb dX11_two_14 ?_
  refine lv_ior hx hb dX11_two_15 ?_
  exact rM_i hx hb hr hlocks hF hP hS dX11_two_16
theorem cw_X11_two : (Cond.instanceMethod yX11_two ∈ TB ∧ Cond.selects RX11 yX11_two yX11_two ∈ TB ∧ Cond.code yX11_two cX11_two 2 (some .int) ∈ TB) ∧ (yX11_two.cls = RX11 ∧ yX11_two.cls ≠ "java/lang/invoke/MethodHandle" ∧ yX11_two.cls ≠ "java/lang/invoke/VarHandle" ∧ (parseMethodDescriptor yX11_two.desc).map (fun d => d.parameters.length) = some 1) := ⟨⟨mw19_14, mw19_15, mw19_16⟩, by decide +kernel⟩
/-! X11_four -/
noncomputable def M_four (nf : Nat) (fi : FI) (ar : AR) (x1 : Int32) : Option (Int32 × FI × AR) :=
  obnd3 (M_two nf fi ar (x1)) fun r4 fi2 ar3 => obnd3 (M_two nf fi2 ar3 ((x1) + (2 : Int32))) fun r8 fi6 ar7 => some (((r4) ||| ((r8) <<< ((16 : Int32) &&& 31))), fi6, ar7)
set_option maxHeartbeats 4000000 in
set_option maxRecDepth 100000 in
theorem k_four (l : Launch) (g : GT) (am : Nat → Nat) (sz : Nat) (nf : Nat) (fi : FI) (ar : AR) (p1 : Int32) (r : Int32) (fi' : FI) (ar' : AR) (hF : M_four nf fi ar p1 = some (r, fi', ar')) : Met l yX11_four (wx yX11_four cX11_four 2 (some .int)) ({ frames := 2, cells := 0, slots := 0, locals := 42 } : Room) (va_Pc [.ref (am 0), .int p1] (PM g am sz fi ar)) (QMi g am sz r fi' ar') 0 0 (AM am sz) := by
  refine Met.ofW (cc := cX11_four) (maxL := 2) (ret := (some .int)) (by decide) rfl ?_
  intro p e s m args below meth c s₁ B hml hv
  obtain ⟨rfl, hsz, hP, hK, hD0, hE⟩ := hv
  have hx := B.exec
  have hb := B.bytes
  have hr := B.returns
  have hts := atoms_spec (ws := (wx yX11_four cX11_four 2 (some .int))) B.pre
  have hT : ∀ w ∈ TB, w.before _ s = true := fun w h => hts w (List.mem_cons_of_mem _ h)
  have hown : s.vm.findClass RX11 = some m.cls := findClass_of_methodNamed B.named
  have hlocks := B.notSynchronized
  subst hsz
  have hD := dM hD0 s.heap.size
  have hA : ∀ q : Nat, s.heap.size ≤ q → AM am s.heap.size q := fun q h => Or.inr h
  have hS : va_S (AM am s.heap.size) s.heap s.heap [] := va_S.rf
  have hl := lv_entry ([.ref (am 0), .int p1]) (n := 2) (Nat.le_of_ble_eq_true rfl)
  rw [lg_entry_eq]
  generalize (lg_sl ([.ref (am 0), .int p1]) ++ List.replicate (2 - (lg_sl ([.ref (am 0), .int p1])).length) Slot.unset).toArray = ls at hl ⊢
  have hl : lv_has ls 2 [(0, .ref (am 0)), (1, .int p1)] := hl
  unfold M_four at hF
  replace hl := lv_sub hl [0, 1] rfl
  refine lv_aload_n hx hb dX11_four_0 rfl (lv_at hl 0 rfl) ?_
  refine lv_iload_n hx hb dX11_four_1 rfl (lv_at hl 1 rfl) ?_
  replace hF := obnd3_of hF
  obtain ⟨r4, fi2, ar3, h1, hF⟩ := hF
  refine cM_i (As := [.int (p1)]) (rest := []) hx hb hml hT hown hK hE hD hA hP hS (k_two l g am _ nf fi ar (p1) r4 fi2 ar3 h1) cw_X11_two mw19_13 ⟨⟨rfl, rfl⟩, Nat.le_of_ble_eq_true rfl, Nat.le_of_ble_eq_true rfl⟩ rfl hl.1 rfl (Nat.le_of_ble_eq_true rfl) dX11_four_2 ⟨Nat.zero_le _, Nat.zero_le _⟩ (fun H locs hP hS => ?_)
  refine lv_aload_n hx hb dX11_four_5 rfl (lv_at hl 0 rfl) ?_
  refine lv_iload_n hx hb dX11_four_6 rfl (lv_at hl 1 rfl) ?_
  refine lv_iconst (v := (2 : Int32)) hx hb dX11_four_7 (by decide) ?_
  refine lv_iadd hx hb dX11_four_8 ?_
  replace hF := obnd3_of hF
  obtain ⟨r8, fi6, ar7, h5, hF⟩ := hF
  refine cM_i (As := [.int ((p1) + (2 : Int32))]) (rest := [.int (r4)]) hx hb hml hT hown hK hE hD hA hP hS (k_two l g am _ nf fi2 ar3 ((p1) + (2 : Int32)) r8 fi6 ar7 h5) cw_X11_two mw19_13 ⟨⟨rfl, rfl⟩, Nat.le_of_ble_eq_true rfl, Nat.le_of_ble_eq_true rfl⟩ rfl hl.1 rfl (Nat.le_of_ble_eq_true rfl) dX11_four_9 ⟨Nat.zero_le _, Nat.zero_le _⟩ (fun H locs hP hS => ?_)
  refine lv_bipush (v := (16 : Int32)) hx hb dX11_four_12 (by decide) ?_
  refine lv_ishl hx hb dX11_four_14 ?_
  refine lv_ior hx hb dX11_four_15 ?_
  exact rM_i hx hb hr hlocks hF hP hS dX11_four_16
theorem cw_X11_four : (Cond.instanceMethod yX11_four ∈ TB ∧ Cond.selects RX11 yX11_four yX11_four ∈ TB ∧ Cond.code yX11_four cX11_four 2 (some .int) ∈ TB) ∧ (yX11_four.cls = RX11 ∧ yX11_four.cls ≠ "java/lang/invoke/MethodHandle" ∧ yX11_four.cls ≠ "java/lang/invoke/VarHandle" ∧ (parseMethodDescriptor yX11_four.desc).map (fun d => d.parameters.length) = some 1) := ⟨⟨mw19_18, mw19_19, mw19_20⟩, by decide +kernel⟩
/-! X11_set -/
noncomputable def M_set_3b (K3 : Int32 → Int32 → Int64 → Int32 → FI → AR → Option (Unit × FI × AR)) (nf : Nat) (x1 : Int32) (x2 : Int32) (x3 : Int64) (x5 : Int32) (fi : FI) (ar : AR) : Option (Unit × FI × AR) :=
  br ((x2) ≤ (x5)) (some ((), fi, ar)) (gd (¬ (((x1) + (x5)) < 0 ∨ 524288 ≤ ((x1) + (x5)).toNatClampNeg)) (bnd (va_up ar 1 (upd (ar 1) ((x1) + (x5)).toNatClampNeg (vp_nar .byte ((((x3) >>> (((8 : Int32) * (x5)).toInt64 &&& 63)).toInt32).toInt8.toInt32)))) fun ar3 => bnd ((x5) + (1 : Int32)) fun x5_4 => K3 (x1) (x2) (x3) (x5_4) fi ar3))
noncomputable def M_set_3 (nf : Nat) (kf : Nat) : Int32 → Int32 → Int64 → Int32 → FI → AR → Option (Unit × FI × AR) := Nat.rec (fun _ _ _ _ _ _ => none) (fun _ K3 => M_set_3b K3 nf) kf
noncomputable def M_set (nf : Nat) (fi : FI) (ar : AR) (x1 : Int32) (x2 : Int32) (x3 : Int64) : Option (Unit × FI × AR) :=
  M_set_3 nf nf (x1) (x2) (x3) (0 : Int32) fi ar
set_option maxHeartbeats 4000000 in
set_option maxRecDepth 100000 in
theorem k_set (l : Launch) (g : GT) (am : Nat → Nat) (sz : Nat) (nf : Nat) (fi : FI) (ar : AR) (p1 : Int32) (p2 : Int32) (p3 : Int64) (r : Unit) (fi' : FI) (ar' : AR) (hF : M_set nf fi ar p1 p2 p3 = some (r, fi', ar')) : Met l yX11_set (wx yX11_set cX11_set 6 none) ({ frames := 0, cells := 0, slots := 0, locals := 0 } : Room) (va_Pc [.ref (am 0), .int p1, .int p2, .long p3] (PM g am sz fi ar)) (QMv g am sz r fi' ar') 0 0 (AM am sz) := by
  refine Met.ofW (cc := cX11_set) (maxL := 6) (ret := none) (by decide) rfl ?_
  intro p e s m args below meth c s₁ B hml hv
  obtain ⟨rfl, hsz, hP, hK, hD0, hE⟩ := hv
  have hx := B.exec
  have hb := B.bytes
  have hr := B.returns
  have hts := atoms_spec (ws := (wx yX11_set cX11_set 6 none)) B.pre
  have hT : ∀ w ∈ TB, w.before _ s = true := fun w h => hts w (List.mem_cons_of_mem _ h)
  have hown : s.vm.findClass RX11 = some m.cls := findClass_of_methodNamed B.named
  have hlocks := B.notSynchronized
  subst hsz
  have hD := dM hD0 s.heap.size
  have hA : ∀ q : Nat, s.heap.size ≤ q → AM am s.heap.size q := fun q h => Or.inr h
  have hS : va_S (AM am s.heap.size) s.heap s.heap [] := va_S.rf
  have hl := lv_entry ([.ref (am 0), .int p1, .int p2, .long p3]) (n := 6) (Nat.le_of_ble_eq_true rfl)
  rw [lg_entry_eq]
  generalize (lg_sl ([.ref (am 0), .int p1, .int p2, .long p3]) ++ List.replicate (6 - (lg_sl ([.ref (am 0), .int p1, .int p2, .long p3])).length) Slot.unset).toArray = ls at hl ⊢
  have hl : lv_has ls 6 [(0, .ref (am 0)), (1, .int p1), (2, .int p2), (3, .long p3)] := hl
  unfold M_set at hF
  have L3 : ∀ kf : Nat, ∀ (x1 : Int32) (x2 : Int32) (x3 : Int64) (x5 : Int32) (fi : FI) (ar : AR) (H : Heap) (locs : List Loc) (ls : Array Slot), M_set_3 nf kf x1 x2 x3 x5 fi ar = some (r, fi', ar') → lv_has ls 6 [(0, .ref (am 0)), (1, .int x1), (2, .int x2), (3, .long x3), (5, .int x5)] → va_P (gD g) vwCl (WM g am fi ar) H → va_S (AM am s.heap.size) s.heap H locs → W p l e (headSpec (wx yX11_set cX11_set 6 none) ({ frames := 0, cells := 0, slots := 0, locals := 0 } : Room)).room s m ([.ref (am 0), .int p1, .int p2, .long p3] : List Value).toArray below meth c H locs 0 0 (MQ below (QMv g am s.heap.size r fi' ar') ([.ref (am 0), .int p1, .int p2, .long p3] : List Value).toArray s 0 0 (AM am s.heap.size)) (F0 m 3 ls []) := by
    intro kf
    induction kf with
    | zero => intro x1 x2 x3 x5 fi ar H locs ls hF hl hP hS; cases (show (none : Option (Unit × FI × AR)) = _ from hF)
    | succ kf ih3 =>
      intro x1 x2 x3 x5 fi ar H locs ls hF hl hP hS
      obtain ⟨K3, hK3⟩ : ∃ K : Int32 → Int32 → Int64 → Int32 → FI → AR → Option (Unit × FI × AR), K = M_set_3 nf kf := ⟨_, rfl⟩
      replace hF : M_set_3b K3 nf x1 x2 x3 x5 fi ar = some (r, fi', ar') := by rw [hK3]; exact hF
      rw [← hK3] at ih3
      clear hK3
      unfold M_set_3b at hF
      refine lv_iload hx hb dX11_set_3 (lv_at hl 4 rfl) ?_
      refine lv_iload_n hx hb dX11_set_5 rfl (lv_at hl 2 rfl) ?_
      refine lv_icmp_ge (tgt := 33) hx hb dX11_set_6 (by decide) (fun hc1 => ?_) (fun hc1 => ?_)
      · replace hF := br_yes hF hc1
        exact rM_v hx hb hr hlocks hF hP hS dX11_set_33
      · replace hF := br_no hF hc1
        refine lv_aload_n hx hb dX11_set_9 rfl (lv_at hl 0 rfl) ?_
        refine mg_1 hx hb hT hown hK hP mw6_1 dX11_set_10 ?_
        refine lv_iload_n hx hb dX11_set_13 rfl (lv_at hl 1 rfl) ?_
        refine lv_iload hx hb dX11_set_14 (lv_at hl 4 rfl) ?_
        refine lv_iadd hx hb dX11_set_16 ?_
        refine lv_lload_n hx hb dX11_set_17 rfl (lv_at hl 3 rfl) ?_
        refine lv_bipush (v := (8 : Int32)) hx hb dX11_set_18 (by decide) ?_
        refine lv_iload hx hb dX11_set_20 (lv_at hl 4 rfl) ?_
        refine lv_imul hx hb dX11_set_22 ?_
        refine lv_lshr hx hb dX11_set_23 rfl ?_
        refine lv_l2i hx hb dX11_set_24 rfl ?_
        refine lv_i2b hx hb dX11_set_25 rfl ?_
        replace hF := gd_of hF
        obtain ⟨hi2, hF⟩ := hF
        obtain ⟨ar3, ear3⟩ : ∃ y : AR, y = va_up ar 1 (upd (ar 1) ((x1) + (x5)).toNatClampNeg (vp_nar .byte ((((x3) >>> (((8 : Int32) * (x5)).toInt64 &&& 63)).toInt32).toInt8.toInt32))) := ⟨_, rfl⟩
        replace hF := bnd_of hF ear3
        refine ms_1 hx hb hK hP hD hS hi2 dX11_set_26 (fun H locs hP hS => ?_)
        rw [← ear3] at hP
        obtain ⟨x5_4, ex5_4⟩ : ∃ y : Int32, y = (x5) + (1 : Int32) := ⟨_, rfl⟩
        replace hF := bnd_of hF ex5_4
        refine lv_iinc (v := x5_4) (lv' := [(5, .int (x5_4)), (0, .ref (am 0)), (1, .int (x1)), (2, .int (x2)), (3, .long (x3))]) hx hb dX11_set_27 hl (k := 4) rfl (by rw [ex5_4]; rfl) (by decide) rfl (fun ls hl => ?_)
        refine lv_goto (tgt := 3) hx hb dX11_set_30 (by decide) ?_
        exact ih3 (x1) (x2) (x3) (x5_4) _ _ _ _ _ hF (lv_sub hl [1, 2, 3, 4, 0] rfl) hP hS
  replace hl := lv_sub hl [0, 1, 2, 3] rfl
  refine lv_iconst (v := (0 : Int32)) hx hb dX11_set_0 (by decide) ?_
  refine lv_istore (lv' := [(5, .int (0 : Int32)), (0, .ref (am 0)), (1, .int (p1)), (2, .int (p2)), (3, .long (p3))]) hx hb dX11_set_1 hl (by decide) rfl (fun ls hl => ?_)
  exact L3 nf (p1) (p2) (p3) (0 : Int32) _ _ _ _ _ hF (lv_sub hl [1, 2, 3, 4, 0] rfl) hP hS
theorem cw_X11_set : (Cond.instanceMethod yX11_set ∈ TB ∧ Cond.selects RX11 yX11_set yX11_set ∈ TB ∧ Cond.code yX11_set cX11_set 6 none ∈ TB) ∧ (yX11_set.cls = RX11 ∧ yX11_set.cls ≠ "java/lang/invoke/MethodHandle" ∧ yX11_set.cls ≠ "java/lang/invoke/VarHandle" ∧ (parseMethodDescriptor yX11_set.desc).map (fun d => d.parameters.length) = some 3) := ⟨⟨mw18_19, mw18_20, mw18_21⟩, by decide +kernel⟩
/-! X11_whole -/
noncomputable def M_whole (nf : Nat) (x0 : Int32) (x1 : Int32) : Option Int32 :=
  gd (¬ (x1) = 0) (some ((((x0) + (x1)) - (1 : Int32)) / (x1)))
set_option maxHeartbeats 4000000 in
set_option maxRecDepth 100000 in
theorem k_whole (l : Launch) (g : GT) (nf : Nat) (p0 : Int32) (p1 : Int32) (r : Int32) (hF : M_whole nf p0 p1 = some r) : Met l yX11_whole (wx yX11_whole cX11_whole 2 (some .int)) ({ frames := 0, cells := 0, slots := 0, locals := 0 } : Room) (va_Pc [.int p0, .int p1] (PS g)) (QSi r) 0 0 noA := by
  refine Met.ofW (cc := cX11_whole) (maxL := 2) (ret := (some .int)) (by decide) rfl ?_
  intro p e s m args below meth c s₁ B hml hv
  obtain ⟨rfl, hE⟩ := hv
  have hx := B.exec
  have hb := B.bytes
  have hr := B.returns
  have hts := atoms_spec (ws := (wx yX11_whole cX11_whole 2 (some .int))) B.pre
  have hT : ∀ w ∈ TB, w.before _ s = true := fun w h => hts w (List.mem_cons_of_mem _ h)
  have hown : s.vm.findClass RX11 = some m.cls := findClass_of_methodNamed B.named
  have hlocks := B.notSynchronized
  have hS : va_S noA s.heap s.heap [] := va_S.rf
  have hP : va_P (gD g) vwCl [] s.heap := fun k q h => by cases h
  have hl := lv_entry ([.int p0, .int p1]) (n := 2) (Nat.le_of_ble_eq_true rfl)
  rw [lg_entry_eq]
  generalize (lg_sl ([.int p0, .int p1]) ++ List.replicate (2 - (lg_sl ([.int p0, .int p1])).length) Slot.unset).toArray = ls at hl ⊢
  have hl : lv_has ls 2 [(0, .int p0), (1, .int p1)] := hl
  unfold M_whole at hF
  replace hl := lv_sub hl [0, 1] rfl
  refine lv_iload_n hx hb dX11_whole_0 rfl (lv_at hl 0 rfl) ?_
  refine lv_iload_n hx hb dX11_whole_1 rfl (lv_at hl 1 rfl) ?_
  refine lv_iadd hx hb dX11_whole_2 ?_
  refine lv_iconst (v := (1 : Int32)) hx hb dX11_whole_3 (by decide) ?_
  refine lv_isub hx hb dX11_whole_4 ?_
  refine lv_iload_n hx hb dX11_whole_5 rfl (lv_at hl 1 rfl) ?_
  replace hF := gd_of hF
  obtain ⟨hz1, hF⟩ := hF
  refine lv_idiv hx hb dX11_whole_6 hz1 ?_
  exact rS_i hx hb hr hlocks hF hS dX11_whole_7
theorem cw_X11_whole : (Cond.static yX11_whole ∈ TB ∧ Cond.code yX11_whole cX11_whole 2 (some .int) ∈ TB ∧ Cond.initialized yX11_whole.cls ∈ TB) ∧ (yX11_whole.cls ≠ "java/lang/invoke/MethodHandle" ∧ yX11_whole.cls ≠ "java/lang/invoke/VarHandle" ∧ (parseMethodDescriptor yX11_whole.desc).map (fun d => d.parameters.length) = some 2) := ⟨⟨mw35_1, mw35_2, mw1_5⟩, by decide +kernel⟩
/-! X11_entryAt -/
noncomputable def M_entryAt (nf : Nat) (fi : FI) (ar : AR) (x1 : Int32) (x2 : Int32) : Option (Int32 × FI × AR) :=
  some ((((512 : Int32) * ((fi 8) + ((x1) * (fi 10)))) + ((4 : Int32) * (x2))), fi, ar)
set_option maxHeartbeats 4000000 in
set_option maxRecDepth 100000 in
theorem k_entryAt (l : Launch) (g : GT) (am : Nat → Nat) (sz : Nat) (nf : Nat) (fi : FI) (ar : AR) (p1 : Int32) (p2 : Int32) (r : Int32) (fi' : FI) (ar' : AR) (hF : M_entryAt nf fi ar p1 p2 = some (r, fi', ar')) : Met l yX11_entryAt (wx yX11_entryAt cX11_entryAt 3 (some .int)) ({ frames := 0, cells := 0, slots := 0, locals := 0 } : Room) (va_Pc [.ref (am 0), .int p1, .int p2] (PM g am sz fi ar)) (QMi g am sz r fi' ar') 0 0 (AM am sz) := by
  refine Met.ofW (cc := cX11_entryAt) (maxL := 3) (ret := (some .int)) (by decide) rfl ?_
  intro p e s m args below meth c s₁ B hml hv
  obtain ⟨rfl, hsz, hP, hK, hD0, hE⟩ := hv
  have hx := B.exec
  have hb := B.bytes
  have hr := B.returns
  have hts := atoms_spec (ws := (wx yX11_entryAt cX11_entryAt 3 (some .int))) B.pre
  have hT : ∀ w ∈ TB, w.before _ s = true := fun w h => hts w (List.mem_cons_of_mem _ h)
  have hown : s.vm.findClass RX11 = some m.cls := findClass_of_methodNamed B.named
  have hlocks := B.notSynchronized
  subst hsz
  have hD := dM hD0 s.heap.size
  have hA : ∀ q : Nat, s.heap.size ≤ q → AM am s.heap.size q := fun q h => Or.inr h
  have hS : va_S (AM am s.heap.size) s.heap s.heap [] := va_S.rf
  have hl := lv_entry ([.ref (am 0), .int p1, .int p2]) (n := 3) (Nat.le_of_ble_eq_true rfl)
  rw [lg_entry_eq]
  generalize (lg_sl ([.ref (am 0), .int p1, .int p2]) ++ List.replicate (3 - (lg_sl ([.ref (am 0), .int p1, .int p2])).length) Slot.unset).toArray = ls at hl ⊢
  have hl : lv_has ls 3 [(0, .ref (am 0)), (1, .int p1), (2, .int p2)] := hl
  unfold M_entryAt at hF
  replace hl := lv_sub hl [0, 1, 2] rfl
  refine lv_sipush (v := (512 : Int32)) hx hb dX11_entryAt_0 (by decide) ?_
  refine lv_aload_n hx hb dX11_entryAt_3 rfl (lv_at hl 0 rfl) ?_
  refine mg_8 hx hb hT hown hK hP mw19_3 dX11_entryAt_4 ?_
  refine lv_iload_n hx hb dX11_entryAt_7 rfl (lv_at hl 1 rfl) ?_
  refine lv_aload_n hx hb dX11_entryAt_8 rfl (lv_at hl 0 rfl) ?_
  refine mg_10 hx hb hT hown hK hP mw19_5 dX11_entryAt_9 ?_
  refine lv_imul hx hb dX11_entryAt_12 ?_
  refine lv_iadd hx hb dX11_entryAt_13 ?_
  refine lv_imul hx hb dX11_entryAt_14 ?_
  refine lv_iconst (v := (4 : Int32)) hx hb dX11_entryAt_15 (by decide) ?_
  refine lv_iload_n hx hb dX11_entryAt_16 rfl (lv_at hl 2 rfl) ?_
  refine lv_imul hx hb dX11_entryAt_17 ?_
  refine lv_iadd hx hb dX11_entryAt_18 ?_
  exact rM_i hx hb hr hlocks hF hP hS dX11_entryAt_19
theorem cw_X11_entryAt : (Cond.instanceMethod yX11_entryAt ∈ TB ∧ Cond.selects RX11 yX11_entryAt yX11_entryAt ∈ TB ∧ Cond.code yX11_entryAt cX11_entryAt 3 (some .int) ∈ TB) ∧ (yX11_entryAt.cls = RX11 ∧ yX11_entryAt.cls ≠ "java/lang/invoke/MethodHandle" ∧ yX11_entryAt.cls ≠ "java/lang/invoke/VarHandle" ∧ (parseMethodDescriptor yX11_entryAt.desc).map (fun d => d.parameters.length) = some 2) := ⟨⟨mw20_7, mw20_8, mw20_9⟩, by decide +kernel⟩
/-! X11_entry -/
noncomputable def M_entry (nf : Nat) (fi : FI) (ar : AR) (x1 : Int32) : Option (Int32 × FI × AR) :=
  obnd3 (M_entryAt nf fi ar (0 : Int32) (x1)) fun r4 fi2 ar3 => obnd3 (M_four nf fi2 ar3 (r4)) fun r8 fi6 ar7 => some (((r8) &&& (268435455 : Int32)), fi6, ar7)
set_option maxHeartbeats 4000000 in
set_option maxRecDepth 100000 in
theorem k_entry (l : Launch) (g : GT) (am : Nat → Nat) (sz : Nat) (nf : Nat) (fi : FI) (ar : AR) (p1 : Int32) (r : Int32) (fi' : FI) (ar' : AR) (hF : M_entry nf fi ar p1 = some (r, fi', ar')) : Met l yX11_entry (wx yX11_entry cX11_entry 2 (some .int)) ({ frames := 3, cells := 0, slots := 0, locals := 63 } : Room) (va_Pc [.ref (am 0), .int p1] (PM g am sz fi ar)) (QMi g am sz r fi' ar') 0 0 (AM am sz) := by
  refine Met.ofW (cc := cX11_entry) (maxL := 2) (ret := (some .int)) (by decide) rfl ?_
  intro p e s m args below meth c s₁ B hml hv
  obtain ⟨rfl, hsz, hP, hK, hD0, hE⟩ := hv
  have hx := B.exec
  have hb := B.bytes
  have hr := B.returns
  have hts := atoms_spec (ws := (wx yX11_entry cX11_entry 2 (some .int))) B.pre
  have hT : ∀ w ∈ TB, w.before _ s = true := fun w h => hts w (List.mem_cons_of_mem _ h)
  have hown : s.vm.findClass RX11 = some m.cls := findClass_of_methodNamed B.named
  have hlocks := B.notSynchronized
  subst hsz
  have hD := dM hD0 s.heap.size
  have hA : ∀ q : Nat, s.heap.size ≤ q → AM am s.heap.size q := fun q h => Or.inr h
  have hS : va_S (AM am s.heap.size) s.heap s.heap [] := va_S.rf
  have hl := lv_entry ([.ref (am 0), .int p1]) (n := 2) (Nat.le_of_ble_eq_true rfl)
  rw [lg_entry_eq]
  generalize (lg_sl ([.ref (am 0), .int p1]) ++ List.replicate (2 - (lg_sl ([.ref (am 0), .int p1])).length) Slot.unset).toArray = ls at hl ⊢
  have hl : lv_has ls 2 [(0, .ref (am 0)), (1, .int p1)] := hl
  unfold M_entry at hF
  replace hl := lv_sub hl [0, 1] rfl
  refine lv_aload_n hx hb dX11_entry_0 rfl (lv_at hl 0 rfl) ?_
  refine lv_aload_n hx hb dX11_entry_1 rfl (lv_at hl 0 rfl) ?_
  refine lv_iconst (v := (0 : Int32)) hx hb dX11_entry_2 (by decide) ?_
  refine lv_iload_n hx hb dX11_entry_3 rfl (lv_at hl 1 rfl) ?_
  replace hF := obnd3_of hF
  obtain ⟨r4, fi2, ar3, h1, hF⟩ := hF
  refine cM_i (As := [.int (0 : Int32), .int (p1)]) (rest := [.ref (am 0)]) hx hb hml hT hown hK hE hD hA hP hS (k_entryAt l g am _ nf fi ar (0 : Int32) (p1) r4 fi2 ar3 h1) cw_X11_entryAt mw20_6 ⟨⟨rfl, rfl⟩, Nat.le_of_ble_eq_true rfl, Nat.le_of_ble_eq_true rfl⟩ rfl hl.1 rfl (Nat.le_of_ble_eq_true rfl) dX11_entry_4 ⟨Nat.zero_le _, Nat.zero_le _⟩ (fun H locs hP hS => ?_)
  replace hF := obnd3_of hF
  obtain ⟨r8, fi6, ar7, h5, hF⟩ := hF
  refine cM_i (As := [.int (r4)]) (rest := []) hx hb hml hT hown hK hE hD hA hP hS (k_four l g am _ nf fi2 ar3 (r4) r8 fi6 ar7 h5) cw_X11_four mw19_17 ⟨⟨rfl, rfl⟩, Nat.le_of_ble_eq_true rfl, Nat.le_of_ble_eq_true rfl⟩ rfl hl.1 rfl (Nat.le_of_ble_eq_true rfl) dX11_entry_7 ⟨Nat.zero_le _, Nat.zero_le _⟩ (fun H locs hP hS => ?_)
  refine lv_ldc (v := (268435455 : Int32)) hx hb hown (hT _ mw18_1) dX11_entry_10 ?_
  refine lv_iand hx hb dX11_entry_12 ?_
  exact rM_i hx hb hr hlocks hF hP hS dX11_entry_13
theorem cw_X11_entry : (Cond.instanceMethod yX11_entry ∈ TB ∧ Cond.selects RX11 yX11_entry yX11_entry ∈ TB ∧ Cond.code yX11_entry cX11_entry 2 (some .int) ∈ TB) ∧ (yX11_entry.cls = RX11 ∧ yX11_entry.cls ≠ "java/lang/invoke/MethodHandle" ∧ yX11_entry.cls ≠ "java/lang/invoke/VarHandle" ∧ (parseMethodDescriptor yX11_entry.desc).map (fun d => d.parameters.length) = some 1) := ⟨⟨mw31_18, mw31_19, mw31_20⟩, by decide +kernel⟩
/-! X11_setEntry -/
noncomputable def M_setEntry_2b (K2 : Int32 → Int32 → Int32 → FI → AR → Option (Unit × FI × AR)) (nf : Nat) (x1 : Int32) (x2 : Int32) (x3 : Int32) (fi : FI) (ar : AR) : Option (Unit × FI × AR) :=
  br ((fi 9) ≤ (x3)) (some ((), fi, ar)) (obnd3 (M_entryAt nf fi ar (x3) (x1)) fun r5 fi3 ar4 => obnd3 (M_four nf fi3 ar4 (r5)) fun r9 fi7 ar8 => obnd3 (M_set nf fi7 ar8 (r5) (4 : Int32) (((x2) ||| ((r9) &&& (-268435456 : Int32))).toInt64)) fun r13 fi11 ar12 => bnd ((x3) + (1 : Int32)) fun x3_14 => K2 (x1) (x2) (x3_14) fi11 ar12)
noncomputable def M_setEntry_2 (nf : Nat) (kf : Nat) : Int32 → Int32 → Int32 → FI → AR → Option (Unit × FI × AR) := Nat.rec (fun _ _ _ _ _ => none) (fun _ K2 => M_setEntry_2b K2 nf) kf
noncomputable def M_setEntry (nf : Nat) (fi : FI) (ar : AR) (x1 : Int32) (x2 : Int32) : Option (Unit × FI × AR) :=
  M_setEntry_2 nf nf (x1) (x2) (0 : Int32) fi ar
set_option maxHeartbeats 4000000 in
set_option maxRecDepth 100000 in
theorem k_setEntry (l : Launch) (g : GT) (am : Nat → Nat) (sz : Nat) (nf : Nat) (fi : FI) (ar : AR) (p1 : Int32) (p2 : Int32) (r : Unit) (fi' : FI) (ar' : AR) (hF : M_setEntry nf fi ar p1 p2 = some (r, fi', ar')) : Met l yX11_setEntry (wx yX11_setEntry cX11_setEntry 5 none) ({ frames := 3, cells := 0, slots := 0, locals := 63 } : Room) (va_Pc [.ref (am 0), .int p1, .int p2] (PM g am sz fi ar)) (QMv g am sz r fi' ar') 0 0 (AM am sz) := by
  refine Met.ofW (cc := cX11_setEntry) (maxL := 5) (ret := none) (by decide) rfl ?_
  intro p e s m args below meth c s₁ B hml hv
  obtain ⟨rfl, hsz, hP, hK, hD0, hE⟩ := hv
  have hx := B.exec
  have hb := B.bytes
  have hr := B.returns
  have hts := atoms_spec (ws := (wx yX11_setEntry cX11_setEntry 5 none)) B.pre
  have hT : ∀ w ∈ TB, w.before _ s = true := fun w h => hts w (List.mem_cons_of_mem _ h)
  have hown : s.vm.findClass RX11 = some m.cls := findClass_of_methodNamed B.named
  have hlocks := B.notSynchronized
  subst hsz
  have hD := dM hD0 s.heap.size
  have hA : ∀ q : Nat, s.heap.size ≤ q → AM am s.heap.size q := fun q h => Or.inr h
  have hS : va_S (AM am s.heap.size) s.heap s.heap [] := va_S.rf
  have hl := lv_entry ([.ref (am 0), .int p1, .int p2]) (n := 5) (Nat.le_of_ble_eq_true rfl)
  rw [lg_entry_eq]
  generalize (lg_sl ([.ref (am 0), .int p1, .int p2]) ++ List.replicate (5 - (lg_sl ([.ref (am 0), .int p1, .int p2])).length) Slot.unset).toArray = ls at hl ⊢
  have hl : lv_has ls 5 [(0, .ref (am 0)), (1, .int p1), (2, .int p2)] := hl
  unfold M_setEntry at hF
  have L2 : ∀ kf : Nat, ∀ (x1 : Int32) (x2 : Int32) (x3 : Int32) (fi : FI) (ar : AR) (H : Heap) (locs : List Loc) (ls : Array Slot), M_setEntry_2 nf kf x1 x2 x3 fi ar = some (r, fi', ar') → lv_has ls 5 [(0, .ref (am 0)), (1, .int x1), (2, .int x2), (3, .int x3)] → va_P (gD g) vwCl (WM g am fi ar) H → va_S (AM am s.heap.size) s.heap H locs → W p l e (headSpec (wx yX11_setEntry cX11_setEntry 5 none) ({ frames := 3, cells := 0, slots := 0, locals := 63 } : Room)).room s m ([.ref (am 0), .int p1, .int p2] : List Value).toArray below meth c H locs 0 0 (MQ below (QMv g am s.heap.size r fi' ar') ([.ref (am 0), .int p1, .int p2] : List Value).toArray s 0 0 (AM am s.heap.size)) (F0 m 2 ls []) := by
    intro kf
    induction kf with
    | zero => intro x1 x2 x3 fi ar H locs ls hF hl hP hS; cases (show (none : Option (Unit × FI × AR)) = _ from hF)
    | succ kf ih2 =>
      intro x1 x2 x3 fi ar H locs ls hF hl hP hS
      obtain ⟨K2, hK2⟩ : ∃ K : Int32 → Int32 → Int32 → FI → AR → Option (Unit × FI × AR), K = M_setEntry_2 nf kf := ⟨_, rfl⟩
      replace hF : M_setEntry_2b K2 nf x1 x2 x3 fi ar = some (r, fi', ar') := by rw [hK2]; exact hF
      rw [← hK2] at ih2
      clear hK2
      unfold M_setEntry_2b at hF
      refine lv_iload_n hx hb dX11_setEntry_2 rfl (lv_at hl 3 rfl) ?_
      refine lv_aload_n hx hb dX11_setEntry_3 rfl (lv_at hl 0 rfl) ?_
      refine mg_9 hx hb hT hown hK hP mw19_4 dX11_setEntry_4 ?_
      refine lv_icmp_ge (tgt := 43) hx hb dX11_setEntry_7 (by decide) (fun hc1 => ?_) (fun hc1 => ?_)
      · replace hF := br_yes hF hc1
        exact rM_v hx hb hr hlocks hF hP hS dX11_setEntry_43
      · replace hF := br_no hF hc1
        refine lv_aload_n hx hb dX11_setEntry_10 rfl (lv_at hl 0 rfl) ?_
        refine lv_iload_n hx hb dX11_setEntry_11 rfl (lv_at hl 3 rfl) ?_
        refine lv_iload_n hx hb dX11_setEntry_12 rfl (lv_at hl 1 rfl) ?_
        replace hF := obnd3_of hF
        obtain ⟨r5, fi3, ar4, h2, hF⟩ := hF
        refine cM_i (As := [.int (x3), .int (x1)]) (rest := []) hx hb hml hT hown hK hE hD hA hP hS (k_entryAt l g am _ nf fi ar (x3) (x1) r5 fi3 ar4 h2) cw_X11_entryAt mw20_6 ⟨⟨rfl, rfl⟩, Nat.le_of_ble_eq_true rfl, Nat.le_of_ble_eq_true rfl⟩ rfl hl.1 rfl (Nat.le_of_ble_eq_true rfl) dX11_setEntry_13 ⟨Nat.zero_le _, Nat.zero_le _⟩ (fun H locs hP hS => ?_)
        refine lv_istore (lv' := [(4, .int (r5)), (0, .ref (am 0)), (1, .int (x1)), (2, .int (x2)), (3, .int (x3))]) hx hb dX11_setEntry_16 hl (by decide) rfl (fun ls hl => ?_)
        refine lv_aload_n hx hb dX11_setEntry_18 rfl (lv_at hl 1 rfl) ?_
        refine lv_iload hx hb dX11_setEntry_19 (lv_at hl 0 rfl) ?_
        refine lv_iconst (v := (4 : Int32)) hx hb dX11_setEntry_21 (by decide) ?_
        refine lv_iload_n hx hb dX11_setEntry_22 rfl (lv_at hl 3 rfl) ?_
        refine lv_aload_n hx hb dX11_setEntry_23 rfl (lv_at hl 1 rfl) ?_
        refine lv_iload hx hb dX11_setEntry_24 (lv_at hl 0 rfl) ?_
        replace hF := obnd3_of hF
        obtain ⟨r9, fi7, ar8, h6, hF⟩ := hF
        refine cM_i (As := [.int (r5)]) (rest := [.int (x2), .int (4 : Int32), .int (r5), .ref (am 0)]) hx hb hml hT hown hK hE hD hA hP hS (k_four l g am _ nf fi3 ar4 (r5) r9 fi7 ar8 h6) cw_X11_four mw19_17 ⟨⟨rfl, rfl⟩, Nat.le_of_ble_eq_true rfl, Nat.le_of_ble_eq_true rfl⟩ rfl hl.1 rfl (Nat.le_of_ble_eq_true rfl) dX11_setEntry_26 ⟨Nat.zero_le _, Nat.zero_le _⟩ (fun H locs hP hS => ?_)
        refine lv_ldc (v := (-268435456 : Int32)) hx hb hown (hT _ mw20_5) dX11_setEntry_29 ?_
        refine lv_iand hx hb dX11_setEntry_31 ?_
        refine lv_ior hx hb dX11_setEntry_32 ?_
        refine lv_i2l hx hb dX11_setEntry_33 rfl ?_
        replace hF := obnd3_of hF
        obtain ⟨r13, fi11, ar12, h10, hF⟩ := hF
        refine cM_v (As := [.int (r5), .int (4 : Int32), .long (((x2) ||| ((r9) &&& (-268435456 : Int32))).toInt64)]) (rest := []) hx hb hml hT hown hK hE hD hA hP hS (k_set l g am _ nf fi7 ar8 (r5) (4 : Int32) (((x2) ||| ((r9) &&& (-268435456 : Int32))).toInt64) r13 fi11 ar12 h10) cw_X11_set mw18_18 ⟨⟨rfl, rfl⟩, Nat.le_of_ble_eq_true rfl, Nat.le_of_ble_eq_true rfl⟩ rfl hl.1 rfl (Nat.le_of_ble_eq_true rfl) dX11_setEntry_34 ⟨Nat.zero_le _, Nat.zero_le _⟩ (fun H locs hP hS => ?_)
        obtain ⟨x3_14, ex3_14⟩ : ∃ y : Int32, y = (x3) + (1 : Int32) := ⟨_, rfl⟩
        replace hF := bnd_of hF ex3_14
        refine lv_iinc (v := x3_14) (lv' := [(3, .int (x3_14)), (4, .int (r5)), (0, .ref (am 0)), (1, .int (x1)), (2, .int (x2))]) hx hb dX11_setEntry_37 hl (k := 4) rfl (by rw [ex3_14]; rfl) (by decide) rfl (fun ls hl => ?_)
        refine lv_goto (tgt := 2) hx hb dX11_setEntry_40 (by decide) ?_
        exact ih2 (x1) (x2) (x3_14) _ _ _ _ _ hF (lv_sub hl [2, 3, 4, 0] rfl) hP hS
  replace hl := lv_sub hl [0, 1, 2] rfl
  refine lv_iconst (v := (0 : Int32)) hx hb dX11_setEntry_0 (by decide) ?_
  refine lv_istore_n (lv' := [(3, .int (0 : Int32)), (0, .ref (am 0)), (1, .int (p1)), (2, .int (p2))]) hx hb dX11_setEntry_1 rfl hl (by decide) rfl (fun ls hl => ?_)
  exact L2 nf (p1) (p2) (0 : Int32) _ _ _ _ _ hF (lv_sub hl [1, 2, 3, 0] rfl) hP hS
theorem cw_X11_setEntry : (Cond.instanceMethod yX11_setEntry ∈ TB ∧ Cond.selects RX11 yX11_setEntry yX11_setEntry ∈ TB ∧ Cond.code yX11_setEntry cX11_setEntry 5 none ∈ TB) ∧ (yX11_setEntry.cls = RX11 ∧ yX11_setEntry.cls ≠ "java/lang/invoke/MethodHandle" ∧ yX11_setEntry.cls ≠ "java/lang/invoke/VarHandle" ∧ (parseMethodDescriptor yX11_setEntry.desc).map (fun d => d.parameters.length) = some 2) := ⟨⟨mw20_2, mw20_3, mw20_4⟩, by decide +kernel⟩
/-! X11_isCluster -/
noncomputable def M_isCluster_20 (nf : Nat) (t0 : Int32) (fi : FI) (ar : AR) : Option (Int32 × FI × AR) :=
  gd ((t0) &&& 1 = (t0)) (some ((t0), fi, ar))
noncomputable def M_isCluster_19 (nf : Nat)  (fi : FI) (ar : AR) : Option (Int32 × FI × AR) :=
  M_isCluster_20 nf  (0 : Int32) fi ar
noncomputable def M_isCluster (nf : Nat) (fi : FI) (ar : AR) (x1 : Int32) : Option (Int32 × FI × AR) :=
  br ((x1) < (2 : Int32)) (M_isCluster_19 nf  fi ar) (br (((fi 13) + (1 : Int32)) < (x1)) (M_isCluster_19 nf  fi ar) (M_isCluster_20 nf  (1 : Int32) fi ar))
set_option maxHeartbeats 4000000 in
set_option maxRecDepth 100000 in
theorem k_isCluster (l : Launch) (g : GT) (am : Nat → Nat) (sz : Nat) (nf : Nat) (fi : FI) (ar : AR) (p1 : Int32) (r : Int32) (fi' : FI) (ar' : AR) (hF : M_isCluster nf fi ar p1 = some (r, fi', ar')) : Met l yX11_isCluster (wx yX11_isCluster cX11_isCluster 2 (some .boolean)) ({ frames := 0, cells := 0, slots := 0, locals := 0 } : Room) (va_Pc [.ref (am 0), .int p1] (PM g am sz fi ar)) (QMi g am sz r fi' ar') 0 0 (AM am sz) := by
  refine Met.ofW (cc := cX11_isCluster) (maxL := 2) (ret := (some .boolean)) (by decide) rfl ?_
  intro p e s m args below meth c s₁ B hml hv
  obtain ⟨rfl, hsz, hP, hK, hD0, hE⟩ := hv
  have hx := B.exec
  have hb := B.bytes
  have hr := B.returns
  have hts := atoms_spec (ws := (wx yX11_isCluster cX11_isCluster 2 (some .boolean))) B.pre
  have hT : ∀ w ∈ TB, w.before _ s = true := fun w h => hts w (List.mem_cons_of_mem _ h)
  have hown : s.vm.findClass RX11 = some m.cls := findClass_of_methodNamed B.named
  have hlocks := B.notSynchronized
  subst hsz
  have hD := dM hD0 s.heap.size
  have hA : ∀ q : Nat, s.heap.size ≤ q → AM am s.heap.size q := fun q h => Or.inr h
  have hS : va_S (AM am s.heap.size) s.heap s.heap [] := va_S.rf
  have hl := lv_entry ([.ref (am 0), .int p1]) (n := 2) (Nat.le_of_ble_eq_true rfl)
  rw [lg_entry_eq]
  generalize (lg_sl ([.ref (am 0), .int p1]) ++ List.replicate (2 - (lg_sl ([.ref (am 0), .int p1])).length) Slot.unset).toArray = ls at hl ⊢
  have hl : lv_has ls 2 [(0, .ref (am 0)), (1, .int p1)] := hl
  unfold M_isCluster at hF
  have J20 : ∀ (t0 : Int32) (fi : FI) (ar : AR) (H : Heap) (locs : List Loc) (ls : Array Slot), M_isCluster_20 nf t0 fi ar = some (r, fi', ar') → lv_has ls 2 [(0, .ref (am 0))] → va_P (gD g) vwCl (WM g am fi ar) H → va_S (AM am s.heap.size) s.heap H locs → W p l e (headSpec (wx yX11_isCluster cX11_isCluster 2 (some .boolean)) ({ frames := 0, cells := 0, slots := 0, locals := 0 } : Room)).room s m ([.ref (am 0), .int p1] : List Value).toArray below meth c H locs 0 0 (MQ below (QMi g am s.heap.size r fi' ar') ([.ref (am 0), .int p1] : List Value).toArray s 0 0 (AM am s.heap.size)) (F0 m 20 ls [.int t0]) := by
    intro t0 fi ar H locs ls hF hl hP hS
    unfold M_isCluster_20 at hF
    replace hF := gd_of hF
    obtain ⟨hz1, hF⟩ := hF
    exact rM_z hx hb hr hlocks (nar_z hz1) hF hP hS dX11_isCluster_20
  have J19 : ∀  (fi : FI) (ar : AR) (H : Heap) (locs : List Loc) (ls : Array Slot), M_isCluster_19 nf fi ar = some (r, fi', ar') → lv_has ls 2 [(0, .ref (am 0))] → va_P (gD g) vwCl (WM g am fi ar) H → va_S (AM am s.heap.size) s.heap H locs → W p l e (headSpec (wx yX11_isCluster cX11_isCluster 2 (some .boolean)) ({ frames := 0, cells := 0, slots := 0, locals := 0 } : Room)).room s m ([.ref (am 0), .int p1] : List Value).toArray below meth c H locs 0 0 (MQ below (QMi g am s.heap.size r fi' ar') ([.ref (am 0), .int p1] : List Value).toArray s 0 0 (AM am s.heap.size)) (F0 m 19 ls []) := by
    intro fi ar H locs ls hF hl hP hS
    unfold M_isCluster_19 at hF
    refine lv_iconst (v := (0 : Int32)) hx hb dX11_isCluster_19 (by decide) ?_
    exact J20 (0 : Int32) _ _ _ _ _ hF (lv_sub hl [0] rfl) hP hS
  replace hl := lv_sub hl [0, 1] rfl
  refine lv_iload_n hx hb dX11_isCluster_0 rfl (lv_at hl 1 rfl) ?_
  refine lv_iconst (v := (2 : Int32)) hx hb dX11_isCluster_1 (by decide) ?_
  refine lv_icmp_lt (tgt := 19) hx hb dX11_isCluster_2 (by decide) (fun hc2 => ?_) (fun hc2 => ?_)
  · replace hF := br_yes hF hc2
    exact J19  _ _ _ _ _ hF (lv_sub hl [0] rfl) hP hS
  · replace hF := br_no hF hc2
    refine lv_iload_n hx hb dX11_isCluster_5 rfl (lv_at hl 1 rfl) ?_
    refine lv_aload_n hx hb dX11_isCluster_6 rfl (lv_at hl 0 rfl) ?_
    refine mg_13 hx hb hT hown hK hP mw18_5 dX11_isCluster_7 ?_
    refine lv_iconst (v := (1 : Int32)) hx hb dX11_isCluster_10 (by decide) ?_
    refine lv_iadd hx hb dX11_isCluster_11 ?_
    refine lv_icmp_gt (tgt := 19) hx hb dX11_isCluster_12 (by decide) (fun hc3 => ?_) (fun hc3 => ?_)
    · replace hF := br_yes hF hc3
      exact J19  _ _ _ _ _ hF (lv_sub hl [0] rfl) hP hS
    · replace hF := br_no hF hc3
      refine lv_iconst (v := (1 : Int32)) hx hb dX11_isCluster_15 (by decide) ?_
      refine lv_goto (tgt := 20) hx hb dX11_isCluster_16 (by decide) ?_
      exact J20 (1 : Int32) _ _ _ _ _ hF (lv_sub hl [0] rfl) hP hS
theorem cw_X11_isCluster : (Cond.instanceMethod yX11_isCluster ∈ TB ∧ Cond.selects RX11 yX11_isCluster yX11_isCluster ∈ TB ∧ Cond.code yX11_isCluster cX11_isCluster 2 (some .boolean) ∈ TB) ∧ (yX11_isCluster.cls = RX11 ∧ yX11_isCluster.cls ≠ "java/lang/invoke/MethodHandle" ∧ yX11_isCluster.cls ≠ "java/lang/invoke/VarHandle" ∧ (parseMethodDescriptor yX11_isCluster.desc).map (fun d => d.parameters.length) = some 1) := ⟨⟨mw19_22, mw19_23, mw20_0⟩, by decide +kernel⟩
/-! X11_place -/
noncomputable def M_place (nf : Nat) (fi : FI) (ar : AR) (x1 : Int32) : Option (Int32 × FI × AR) :=
  some (((512 : Int32) * ((fi 12) + (((x1) - (2 : Int32)) * (fi 7)))), fi, ar)
set_option maxHeartbeats 4000000 in
set_option maxRecDepth 100000 in
theorem k_place (l : Launch) (g : GT) (am : Nat → Nat) (sz : Nat) (nf : Nat) (fi : FI) (ar : AR) (p1 : Int32) (r : Int32) (fi' : FI) (ar' : AR) (hF : M_place nf fi ar p1 = some (r, fi', ar')) : Met l yX11_place (wx yX11_place cX11_place 2 (some .int)) ({ frames := 0, cells := 0, slots := 0, locals := 0 } : Room) (va_Pc [.ref (am 0), .int p1] (PM g am sz fi ar)) (QMi g am sz r fi' ar') 0 0 (AM am sz) := by
  refine Met.ofW (cc := cX11_place) (maxL := 2) (ret := (some .int)) (by decide) rfl ?_
  intro p e s m args below meth c s₁ B hml hv
  obtain ⟨rfl, hsz, hP, hK, hD0, hE⟩ := hv
  have hx := B.exec
  have hb := B.bytes
  have hr := B.returns
  have hts := atoms_spec (ws := (wx yX11_place cX11_place 2 (some .int))) B.pre
  have hT : ∀ w ∈ TB, w.before _ s = true := fun w h => hts w (List.mem_cons_of_mem _ h)
  have hown : s.vm.findClass RX11 = some m.cls := findClass_of_methodNamed B.named
  have hlocks := B.notSynchronized
  subst hsz
  have hD := dM hD0 s.heap.size
  have hA : ∀ q : Nat, s.heap.size ≤ q → AM am s.heap.size q := fun q h => Or.inr h
  have hS : va_S (AM am s.heap.size) s.heap s.heap [] := va_S.rf
  have hl := lv_entry ([.ref (am 0), .int p1]) (n := 2) (Nat.le_of_ble_eq_true rfl)
  rw [lg_entry_eq]
  generalize (lg_sl ([.ref (am 0), .int p1]) ++ List.replicate (2 - (lg_sl ([.ref (am 0), .int p1])).length) Slot.unset).toArray = ls at hl ⊢
  have hl : lv_has ls 2 [(0, .ref (am 0)), (1, .int p1)] := hl
  unfold M_place at hF
  replace hl := lv_sub hl [0, 1] rfl
  refine lv_sipush (v := (512 : Int32)) hx hb dX11_place_0 (by decide) ?_
  refine lv_aload_n hx hb dX11_place_3 rfl (lv_at hl 0 rfl) ?_
  refine mg_12 hx hb hT hown hK hP mw19_8 dX11_place_4 ?_
  refine lv_iload_n hx hb dX11_place_7 rfl (lv_at hl 1 rfl) ?_
  refine lv_iconst (v := (2 : Int32)) hx hb dX11_place_8 (by decide) ?_
  refine lv_isub hx hb dX11_place_9 ?_
  refine lv_aload_n hx hb dX11_place_10 rfl (lv_at hl 0 rfl) ?_
  refine mg_7 hx hb hT hown hK hP mw19_2 dX11_place_11 ?_
  refine lv_imul hx hb dX11_place_14 ?_
  refine lv_iadd hx hb dX11_place_15 ?_
  refine lv_imul hx hb dX11_place_16 ?_
  exact rM_i hx hb hr hlocks hF hP hS dX11_place_17
theorem cw_X11_place : (Cond.instanceMethod yX11_place ∈ TB ∧ Cond.selects RX11 yX11_place yX11_place ∈ TB ∧ Cond.code yX11_place cX11_place 2 (some .int) ∈ TB) ∧ (yX11_place.cls = RX11 ∧ yX11_place.cls ≠ "java/lang/invoke/MethodHandle" ∧ yX11_place.cls ≠ "java/lang/invoke/VarHandle" ∧ (parseMethodDescriptor yX11_place.desc).map (fun d => d.parameters.length) = some 1) := ⟨⟨mw20_11, mw20_12, mw20_13⟩, by decide +kernel⟩
/-! X11_head -/
noncomputable def M_head_311 (nf : Nat) (t0 : Int32) (fi : FI) (ar : AR) : Option (Int32 × FI × AR) :=
  gd ((t0) &&& 1 = (t0)) (some ((t0), fi, ar))
noncomputable def M_head_310 (nf : Nat)  (fi : FI) (ar : AR) : Option (Int32 × FI × AR) :=
  M_head_311 nf  (0 : Int32) fi ar
noncomputable def M_head_216 (nf : Nat) (t0 : Int32) (fi : FI) (ar : AR) : Option (Int32 × FI × AR) :=
  br ((t0) = 0) (some ((0 : Int32), fi, ar)) (bnd (va_up fi 12 ((fi 8) + ((fi 9) * (fi 10)))) fun fi3 => gd (¬ (fi3 7) = 0) (bnd (va_up fi3 13 (((fi3 0) - (fi3 12)) / (fi3 7))) fun fi5 => br ((fi5 0) ≤ (fi5 12)) (M_head_310 nf  fi5 ar) (br ((fi5 13) < (4 : Int32)) (M_head_310 nf  fi5 ar) (br (((128 : Int32) * (fi5 10)) < ((fi5 13) + (2 : Int32))) (M_head_310 nf  fi5 ar) (obnd3 (M_isCluster nf fi5 ar (fi5 11)) fun r12 fi10 ar11 => br ((r12) = 0) (M_head_310 nf  fi10 ar11) (M_head_311 nf  (1 : Int32) fi10 ar11))))))
noncomputable def M_head_215 (nf : Nat)  (fi : FI) (ar : AR) : Option (Int32 × FI × AR) :=
  M_head_216 nf  (0 : Int32) fi ar
noncomputable def M_head_121 (nf : Nat)  (fi : FI) (ar : AR) : Option (Int32 × FI × AR) :=
  obnd3 (M_two nf fi ar (17 : Int32)) fun r17 fi15 ar16 => br ((r17) = 0) (obnd3 (M_two nf fi15 ar16 (19 : Int32)) fun r22 fi20 ar21 => br ((r22) = 0) (obnd3 (M_two nf fi20 ar21 (22 : Int32)) fun r27 fi25 ar26 => br ((r27) = 0) (obnd3 (M_four nf fi25 ar26 (32 : Int32)) fun r32 fi30 ar31 => br ((r32) = (fi30 0)) (br ((fi30 10) < (1 : Int32)) (M_head_215 nf  fi30 ar31) (br ((32 : Int32) < (fi30 10)) (M_head_215 nf  fi30 ar31) (obnd3 (M_two nf fi30 ar31 (48 : Int32)) fun r39 fi37 ar38 => br ((r39) = (1 : Int32)) (obnd3 (M_two nf fi37 ar38 (50 : Int32)) fun r44 fi42 ar43 => br ((r44) = (6 : Int32)) (obnd3 (M_two nf fi42 ar43 (510 : Int32)) fun r49 fi47 ar48 => br ((r49) = (43605 : Int32)) (M_head_216 nf  (1 : Int32) fi47 ar48) (M_head_215 nf  fi47 ar48)) (M_head_215 nf  fi42 ar43)) (M_head_215 nf  fi37 ar38)))) (M_head_215 nf  fi30 ar31)) (M_head_215 nf  fi25 ar26)) (M_head_215 nf  fi20 ar21)) (M_head_215 nf  fi15 ar16)
noncomputable def M_head_87 (nf : Nat)  (fi : FI) (ar : AR) : Option (Int32 × FI × AR) :=
  br ((fi 8) < (8 : Int32)) (M_head_215 nf  fi ar) (br ((64 : Int32) < (fi 8)) (M_head_215 nf  fi ar) (br ((fi 9) = (1 : Int32)) (M_head_121 nf  fi ar) (br ((fi 9) = (2 : Int32)) (M_head_121 nf  fi ar) (M_head_215 nf  fi ar))))
noncomputable def M_head (nf : Nat) (fi : FI) (ar : AR)  : Option (Int32 × FI × AR) :=
  obnd3 (M_one nf fi ar (13 : Int32)) fun r58 fi56 ar57 => bnd (va_up fi56 7 (r58)) fun fi59 => obnd3 (M_two nf fi59 ar57 (14 : Int32)) fun r63 fi61 ar62 => bnd (va_up fi61 8 (r63)) fun fi64 => obnd3 (M_one nf fi64 ar62 (16 : Int32)) fun r68 fi66 ar67 => bnd (va_up fi66 9 (r68)) fun fi69 => obnd3 (M_four nf fi69 ar67 (36 : Int32)) fun r73 fi71 ar72 => bnd (va_up fi71 10 (r73)) fun fi74 => obnd3 (M_four nf fi74 ar72 (44 : Int32)) fun r78 fi76 ar77 => bnd (va_up fi76 11 (r78)) fun fi79 => obnd3 (M_two nf fi79 ar77 (11 : Int32)) fun r83 fi81 ar82 => br ((r83) = (512 : Int32)) (br ((fi81 7) = (2 : Int32)) (M_head_87 nf  fi81 ar82) (br ((fi81 7) = (4 : Int32)) (M_head_87 nf  fi81 ar82) (br ((fi81 7) = (8 : Int32)) (M_head_87 nf  fi81 ar82) (M_head_215 nf  fi81 ar82)))) (M_head_215 nf  fi81 ar82)
set_option maxHeartbeats 4000000 in
set_option maxRecDepth 100000 in
theorem k_head (l : Launch) (g : GT) (am : Nat → Nat) (sz : Nat) (nf : Nat) (fi : FI) (ar : AR)  (r : Int32) (fi' : FI) (ar' : AR) (hF : M_head nf fi ar  = some (r, fi', ar')) : Met l yX11_head (wx yX11_head cX11_head 2 (some .boolean)) ({ frames := 3, cells := 0, slots := 0, locals := 63 } : Room) (va_Pc [.ref (am 0)] (PM g am sz fi ar)) (QMi g am sz r fi' ar') 0 0 (AM am sz) := by
  refine Met.ofW (cc := cX11_head) (maxL := 2) (ret := (some .boolean)) (by decide) rfl ?_
  intro p e s m args below meth c s₁ B hml hv
  obtain ⟨rfl, hsz, hP, hK, hD0, hE⟩ := hv
  have hx := B.exec
  have hb := B.bytes
  have hr := B.returns
  have hts := atoms_spec (ws := (wx yX11_head cX11_head 2 (some .boolean))) B.pre
  have hT : ∀ w ∈ TB, w.before _ s = true := fun w h => hts w (List.mem_cons_of_mem _ h)
  have hown : s.vm.findClass RX11 = some m.cls := findClass_of_methodNamed B.named
  have hlocks := B.notSynchronized
  subst hsz
  have hD := dM hD0 s.heap.size
  have hA : ∀ q : Nat, s.heap.size ≤ q → AM am s.heap.size q := fun q h => Or.inr h
  have hS : va_S (AM am s.heap.size) s.heap s.heap [] := va_S.rf
  have hl := lv_entry ([.ref (am 0)]) (n := 2) (Nat.le_of_ble_eq_true rfl)
  rw [lg_entry_eq]
  generalize (lg_sl ([.ref (am 0)]) ++ List.replicate (2 - (lg_sl ([.ref (am 0)])).length) Slot.unset).toArray = ls at hl ⊢
  have hl : lv_has ls 2 [(0, .ref (am 0))] := hl
  unfold M_head at hF
  have J311 : ∀ (t0 : Int32) (fi : FI) (ar : AR) (H : Heap) (locs : List Loc) (ls : Array Slot), M_head_311 nf t0 fi ar = some (r, fi', ar') → lv_has ls 2 [(0, .ref (am 0))] → va_P (gD g) vwCl (WM g am fi ar) H → va_S (AM am s.heap.size) s.heap H locs → W p l e (headSpec (wx yX11_head cX11_head 2 (some .boolean)) ({ frames := 3, cells := 0, slots := 0, locals := 63 } : Room)).room s m ([.ref (am 0)] : List Value).toArray below meth c H locs 0 0 (MQ below (QMi g am s.heap.size r fi' ar') ([.ref (am 0)] : List Value).toArray s 0 0 (AM am s.heap.size)) (F0 m 311 ls [.int t0]) := by
    intro t0 fi ar H locs ls hF hl hP hS
    unfold M_head_311 at hF
    replace hF := gd_of hF
    obtain ⟨hz1, hF⟩ := hF
    exact rM_z hx hb hr hlocks (nar_z hz1) hF hP hS dX11_head_311
  have J310 : ∀  (fi : FI) (ar : AR) (H : Heap) (locs : List Loc) (ls : Array Slot), M_head_310 nf fi ar = some (r, fi', ar') → lv_has ls 2 [(0, .ref (am 0))] → va_P (gD g) vwCl (WM g am fi ar) H → va_S (AM am s.heap.size) s.heap H locs → W p l e (headSpec (wx yX11_head cX11_head 2 (some .boolean)) ({ frames := 3, cells := 0, slots := 0, locals := 63 } : Room)).room s m ([.ref (am 0)] : List Value).toArray below meth c H locs 0 0 (MQ below (QMi g am s.heap.size r fi' ar') ([.ref (am 0)] : List Value).toArray s 0 0 (AM am s.heap.size)) (F0 m 310 ls []) := by
    intro fi ar H locs ls hF hl hP hS
    unfold M_head_310 at hF
    refine lv_iconst (v := (0 : Int32)) hx hb dX11_head_310 (by decide) ?_
    exact J311 (0 : Int32) _ _ _ _ _ hF (lv_sub hl [0] rfl) hP hS
  have J216 : ∀ (t0 : Int32) (fi : FI) (ar : AR) (H : Heap) (locs : List Loc) (ls : Array Slot), M_head_216 nf t0 fi ar = some (r, fi', ar') → lv_has ls 2 [(0, .ref (am 0))] → va_P (gD g) vwCl (WM g am fi ar) H → va_S (AM am s.heap.size) s.heap H locs → W p l e (headSpec (wx yX11_head cX11_head 2 (some .boolean)) ({ frames := 3, cells := 0, slots := 0, locals := 63 } : Room)).room s m ([.ref (am 0)] : List Value).toArray below meth c H locs 0 0 (MQ below (QMi g am s.heap.size r fi' ar') ([.ref (am 0)] : List Value).toArray s 0 0 (AM am s.heap.size)) (F0 m 216 ls [.int t0]) := by
    intro t0 fi ar H locs ls hF hl hP hS
    unfold M_head_216 at hF
    refine lv_istore_n (lv' := [(1, .int (t0)), (0, .ref (am 0))]) hx hb dX11_head_216 rfl hl (by decide) rfl (fun ls hl => ?_)
    refine lv_iload_n hx hb dX11_head_217 rfl (lv_at hl 0 rfl) ?_
    refine lv_if_ne (tgt := 223) hx hb dX11_head_218 (by decide) (fun hc2 => ?_) (fun hc2 => ?_)
    · replace hF := br_no hF hc2
      refine lv_aload_n hx hb dX11_head_223 rfl (lv_at hl 1 rfl) ?_
      refine lv_aload_n hx hb dX11_head_224 rfl (lv_at hl 1 rfl) ?_
      refine mg_8 hx hb hT hown hK hP mw19_3 dX11_head_225 ?_
      refine lv_aload_n hx hb dX11_head_228 rfl (lv_at hl 1 rfl) ?_
      refine mg_9 hx hb hT hown hK hP mw19_4 dX11_head_229 ?_
      refine lv_aload_n hx hb dX11_head_232 rfl (lv_at hl 1 rfl) ?_
      refine mg_10 hx hb hT hown hK hP mw19_5 dX11_head_233 ?_
      refine lv_imul hx hb dX11_head_236 ?_
      refine lv_iadd hx hb dX11_head_237 ?_
      obtain ⟨fi3, efi3⟩ : ∃ y : FI, y = va_up fi 12 ((fi 8) + ((fi 9) * (fi 10))) := ⟨_, rfl⟩
      replace hF := bnd_of hF efi3
      refine mp_12 hx hb hT hown hK hP hD hS mw19_8 dX11_head_238 (fun H locs hP hS => ?_)
      rw [← efi3] at hP
      refine lv_aload_n hx hb dX11_head_241 rfl (lv_at hl 1 rfl) ?_
      refine lv_aload_n hx hb dX11_head_242 rfl (lv_at hl 1 rfl) ?_
      refine mg_0 hx hb hT hown hK hP mw6_22 dX11_head_243 ?_
      refine lv_aload_n hx hb dX11_head_246 rfl (lv_at hl 1 rfl) ?_
      refine mg_12 hx hb hT hown hK hP mw19_8 dX11_head_247 ?_
      refine lv_isub hx hb dX11_head_250 ?_
      refine lv_aload_n hx hb dX11_head_251 rfl (lv_at hl 1 rfl) ?_
      refine mg_7 hx hb hT hown hK hP mw19_2 dX11_head_252 ?_
      replace hF := gd_of hF
      obtain ⟨hz4, hF⟩ := hF
      refine lv_idiv hx hb dX11_head_255 hz4 ?_
      obtain ⟨fi5, efi5⟩ : ∃ y : FI, y = va_up fi3 13 (((fi3 0) - (fi3 12)) / (fi3 7)) := ⟨_, rfl⟩
      replace hF := bnd_of hF efi5
      refine mp_13 hx hb hT hown hK hP hD hS mw18_5 dX11_head_256 (fun H locs hP hS => ?_)
      rw [← efi5] at hP
      refine lv_aload_n hx hb dX11_head_259 rfl (lv_at hl 1 rfl) ?_
      refine mg_0 hx hb hT hown hK hP mw6_22 dX11_head_260 ?_
      refine lv_aload_n hx hb dX11_head_263 rfl (lv_at hl 1 rfl) ?_
      refine mg_12 hx hb hT hown hK hP mw19_8 dX11_head_264 ?_
      refine lv_icmp_le (tgt := 310) hx hb dX11_head_267 (by decide) (fun hc6 => ?_) (fun hc6 => ?_)
      · replace hF := br_yes hF hc6
        exact J310  _ _ _ _ _ hF (lv_sub hl [1] rfl) hP hS
      · replace hF := br_no hF hc6
        refine lv_aload_n hx hb dX11_head_270 rfl (lv_at hl 1 rfl) ?_
        refine mg_13 hx hb hT hown hK hP mw18_5 dX11_head_271 ?_
        refine lv_iconst (v := (4 : Int32)) hx hb dX11_head_274 (by decide) ?_
        refine lv_icmp_lt (tgt := 310) hx hb dX11_head_275 (by decide) (fun hc7 => ?_) (fun hc7 => ?_)
        · replace hF := br_yes hF hc7
          exact J310  _ _ _ _ _ hF (lv_sub hl [1] rfl) hP hS
        · replace hF := br_no hF hc7
          refine lv_sipush (v := (128 : Int32)) hx hb dX11_head_278 (by decide) ?_
          refine lv_aload_n hx hb dX11_head_281 rfl (lv_at hl 1 rfl) ?_
          refine mg_10 hx hb hT hown hK hP mw19_5 dX11_head_282 ?_
          refine lv_imul hx hb dX11_head_285 ?_
          refine lv_aload_n hx hb dX11_head_286 rfl (lv_at hl 1 rfl) ?_
          refine mg_13 hx hb hT hown hK hP mw18_5 dX11_head_287 ?_
          refine lv_iconst (v := (2 : Int32)) hx hb dX11_head_290 (by decide) ?_
          refine lv_iadd hx hb dX11_head_291 ?_
          refine lv_icmp_lt (tgt := 310) hx hb dX11_head_292 (by decide) (fun hc8 => ?_) (fun hc8 => ?_)
          · replace hF := br_yes hF hc8
            exact J310  _ _ _ _ _ hF (lv_sub hl [1] rfl) hP hS
          · replace hF := br_no hF hc8
            refine lv_aload_n hx hb dX11_head_295 rfl (lv_at hl 1 rfl) ?_
            refine lv_aload_n hx hb dX11_head_296 rfl (lv_at hl 1 rfl) ?_
            refine mg_11 hx hb hT hown hK hP mw19_6 dX11_head_297 ?_
            replace hF := obnd3_of hF
            obtain ⟨r12, fi10, ar11, h9, hF⟩ := hF
            refine cM_i (As := [.int (fi5 11)]) (rest := []) hx hb hml hT hown hK hE hD hA hP hS (k_isCluster l g am _ nf fi5 ar (fi5 11) r12 fi10 ar11 h9) cw_X11_isCluster mw19_21 ⟨⟨rfl, rfl⟩, Nat.le_of_ble_eq_true rfl, Nat.le_of_ble_eq_true rfl⟩ rfl hl.1 rfl (Nat.le_of_ble_eq_true rfl) dX11_head_300 ⟨Nat.zero_le _, Nat.zero_le _⟩ (fun H locs hP hS => ?_)
            refine lv_if_eq (tgt := 310) hx hb dX11_head_303 (by decide) (fun hc13 => ?_) (fun hc13 => ?_)
            · replace hF := br_yes hF hc13
              exact J310  _ _ _ _ _ hF (lv_sub hl [1] rfl) hP hS
            · replace hF := br_no hF hc13
              refine lv_iconst (v := (1 : Int32)) hx hb dX11_head_306 (by decide) ?_
              refine lv_goto (tgt := 311) hx hb dX11_head_307 (by decide) ?_
              exact J311 (1 : Int32) _ _ _ _ _ hF (lv_sub hl [1] rfl) hP hS
    · replace hF := br_yes hF hc2
      refine lv_iconst (v := (0 : Int32)) hx hb dX11_head_221 (by decide) ?_
      exact rM_z hx hb hr hlocks rfl hF hP hS dX11_head_222
  have J215 : ∀  (fi : FI) (ar : AR) (H : Heap) (locs : List Loc) (ls : Array Slot), M_head_215 nf fi ar = some (r, fi', ar') → lv_has ls 2 [(0, .ref (am 0))] → va_P (gD g) vwCl (WM g am fi ar) H → va_S (AM am s.heap.size) s.heap H locs → W p l e (headSpec (wx yX11_head cX11_head 2 (some .boolean)) ({ frames := 3, cells := 0, slots := 0, locals := 63 } : Room)).room s m ([.ref (am 0)] : List Value).toArray below meth c H locs 0 0 (MQ below (QMi g am s.heap.size r fi' ar') ([.ref (am 0)] : List Value).toArray s 0 0 (AM am s.heap.size)) (F0 m 215 ls []) := by
    intro fi ar H locs ls hF hl hP hS
    unfold M_head_215 at hF
    refine lv_iconst (v := (0 : Int32)) hx hb dX11_head_215 (by decide) ?_
    exact J216 (0 : Int32) _ _ _ _ _ hF (lv_sub hl [0] rfl) hP hS
  have J121 : ∀  (fi : FI) (ar : AR) (H : Heap) (locs : List Loc) (ls : Array Slot), M_head_121 nf fi ar = some (r, fi', ar') → lv_has ls 2 [(0, .ref (am 0))] → va_P (gD g) vwCl (WM g am fi ar) H → va_S (AM am s.heap.size) s.heap H locs → W p l e (headSpec (wx yX11_head cX11_head 2 (some .boolean)) ({ frames := 3, cells := 0, slots := 0, locals := 63 } : Room)).room s m ([.ref (am 0)] : List Value).toArray below meth c H locs 0 0 (MQ below (QMi g am s.heap.size r fi' ar') ([.ref (am 0)] : List Value).toArray s 0 0 (AM am s.heap.size)) (F0 m 121 ls []) := by
    intro fi ar H locs ls hF hl hP hS
    unfold M_head_121 at hF
    refine lv_aload_n hx hb dX11_head_121 rfl (lv_at hl 0 rfl) ?_
    refine lv_bipush (v := (17 : Int32)) hx hb dX11_head_122 (by decide) ?_
    replace hF := obnd3_of hF
    obtain ⟨r17, fi15, ar16, h14, hF⟩ := hF
    refine cM_i (As := [.int (17 : Int32)]) (rest := []) hx hb hml hT hown hK hE hD hA hP hS (k_two l g am _ nf fi ar (17 : Int32) r17 fi15 ar16 h14) cw_X11_two mw19_13 ⟨⟨rfl, rfl⟩, Nat.le_of_ble_eq_true rfl, Nat.le_of_ble_eq_true rfl⟩ rfl hl.1 rfl (Nat.le_of_ble_eq_true rfl) dX11_head_124 ⟨Nat.zero_le _, Nat.zero_le _⟩ (fun H locs hP hS => ?_)
    refine lv_if_ne (tgt := 215) hx hb dX11_head_127 (by decide) (fun hc18 => ?_) (fun hc18 => ?_)
    · replace hF := br_no hF hc18
      exact J215  _ _ _ _ _ hF (lv_sub hl [0] rfl) hP hS
    · replace hF := br_yes hF hc18
      refine lv_aload_n hx hb dX11_head_130 rfl (lv_at hl 0 rfl) ?_
      refine lv_bipush (v := (19 : Int32)) hx hb dX11_head_131 (by decide) ?_
      replace hF := obnd3_of hF
      obtain ⟨r22, fi20, ar21, h19, hF⟩ := hF
      refine cM_i (As := [.int (19 : Int32)]) (rest := []) hx hb hml hT hown hK hE hD hA hP hS (k_two l g am _ nf fi15 ar16 (19 : Int32) r22 fi20 ar21 h19) cw_X11_two mw19_13 ⟨⟨rfl, rfl⟩, Nat.le_of_ble_eq_true rfl, Nat.le_of_ble_eq_true rfl⟩ rfl hl.1 rfl (Nat.le_of_ble_eq_true rfl) dX11_head_133 ⟨Nat.zero_le _, Nat.zero_le _⟩ (fun H locs hP hS => ?_)
      refine lv_if_ne (tgt := 215) hx hb dX11_head_136 (by decide) (fun hc23 => ?_) (fun hc23 => ?_)
      · replace hF := br_no hF hc23
        exact J215  _ _ _ _ _ hF (lv_sub hl [0] rfl) hP hS
      · replace hF := br_yes hF hc23
        refine lv_aload_n hx hb dX11_head_139 rfl (lv_at hl 0 rfl) ?_
        refine lv_bipush (v := (22 : Int32)) hx hb dX11_head_140 (by decide) ?_
        replace hF := obnd3_of hF
        obtain ⟨r27, fi25, ar26, h24, hF⟩ := hF
        refine cM_i (As := [.int (22 : Int32)]) (rest := []) hx hb hml hT hown hK hE hD hA hP hS (k_two l g am _ nf fi20 ar21 (22 : Int32) r27 fi25 ar26 h24) cw_X11_two mw19_13 ⟨⟨rfl, rfl⟩, Nat.le_of_ble_eq_true rfl, Nat.le_of_ble_eq_true rfl⟩ rfl hl.1 rfl (Nat.le_of_ble_eq_true rfl) dX11_head_142 ⟨Nat.zero_le _, Nat.zero_le _⟩ (fun H locs hP hS => ?_)
        refine lv_if_ne (tgt := 215) hx hb dX11_head_145 (by decide) (fun hc28 => ?_) (fun hc28 => ?_)
        · replace hF := br_no hF hc28
          exact J215  _ _ _ _ _ hF (lv_sub hl [0] rfl) hP hS
        · replace hF := br_yes hF hc28
          refine lv_aload_n hx hb dX11_head_148 rfl (lv_at hl 0 rfl) ?_
          refine lv_bipush (v := (32 : Int32)) hx hb dX11_head_149 (by decide) ?_
          replace hF := obnd3_of hF
          obtain ⟨r32, fi30, ar31, h29, hF⟩ := hF
          refine cM_i (As := [.int (32 : Int32)]) (rest := []) hx hb hml hT hown hK hE hD hA hP hS (k_four l g am _ nf fi25 ar26 (32 : Int32) r32 fi30 ar31 h29) cw_X11_four mw19_17 ⟨⟨rfl, rfl⟩, Nat.le_of_ble_eq_true rfl, Nat.le_of_ble_eq_true rfl⟩ rfl hl.1 rfl (Nat.le_of_ble_eq_true rfl) dX11_head_151 ⟨Nat.zero_le _, Nat.zero_le _⟩ (fun H locs hP hS => ?_)
          refine lv_aload_n hx hb dX11_head_154 rfl (lv_at hl 0 rfl) ?_
          refine mg_0 hx hb hT hown hK hP mw6_22 dX11_head_155 ?_
          refine lv_icmp_ne (tgt := 215) hx hb dX11_head_158 (by decide) (fun hc33 => ?_) (fun hc33 => ?_)
          · replace hF := br_no hF hc33
            exact J215  _ _ _ _ _ hF (lv_sub hl [0] rfl) hP hS
          · replace hF := br_yes hF hc33
            refine lv_aload_n hx hb dX11_head_161 rfl (lv_at hl 0 rfl) ?_
            refine mg_10 hx hb hT hown hK hP mw19_5 dX11_head_162 ?_
            refine lv_iconst (v := (1 : Int32)) hx hb dX11_head_165 (by decide) ?_
            refine lv_icmp_lt (tgt := 215) hx hb dX11_head_166 (by decide) (fun hc34 => ?_) (fun hc34 => ?_)
            · replace hF := br_yes hF hc34
              exact J215  _ _ _ _ _ hF (lv_sub hl [0] rfl) hP hS
            · replace hF := br_no hF hc34
              refine lv_aload_n hx hb dX11_head_169 rfl (lv_at hl 0 rfl) ?_
              refine mg_10 hx hb hT hown hK hP mw19_5 dX11_head_170 ?_
              refine lv_bipush (v := (32 : Int32)) hx hb dX11_head_173 (by decide) ?_
              refine lv_icmp_gt (tgt := 215) hx hb dX11_head_175 (by decide) (fun hc35 => ?_) (fun hc35 => ?_)
              · replace hF := br_yes hF hc35
                exact J215  _ _ _ _ _ hF (lv_sub hl [0] rfl) hP hS
              · replace hF := br_no hF hc35
                refine lv_aload_n hx hb dX11_head_178 rfl (lv_at hl 0 rfl) ?_
                refine lv_bipush (v := (48 : Int32)) hx hb dX11_head_179 (by decide) ?_
                replace hF := obnd3_of hF
                obtain ⟨r39, fi37, ar38, h36, hF⟩ := hF
                refine cM_i (As := [.int (48 : Int32)]) (rest := []) hx hb hml hT hown hK hE hD hA hP hS (k_two l g am _ nf fi30 ar31 (48 : Int32) r39 fi37 ar38 h36) cw_X11_two mw19_13 ⟨⟨rfl, rfl⟩, Nat.le_of_ble_eq_true rfl, Nat.le_of_ble_eq_true rfl⟩ rfl hl.1 rfl (Nat.le_of_ble_eq_true rfl) dX11_head_181 ⟨Nat.zero_le _, Nat.zero_le _⟩ (fun H locs hP hS => ?_)
                refine lv_iconst (v := (1 : Int32)) hx hb dX11_head_184 (by decide) ?_
                refine lv_icmp_ne (tgt := 215) hx hb dX11_head_185 (by decide) (fun hc40 => ?_) (fun hc40 => ?_)
                · replace hF := br_no hF hc40
                  exact J215  _ _ _ _ _ hF (lv_sub hl [0] rfl) hP hS
                · replace hF := br_yes hF hc40
                  refine lv_aload_n hx hb dX11_head_188 rfl (lv_at hl 0 rfl) ?_
                  refine lv_bipush (v := (50 : Int32)) hx hb dX11_head_189 (by decide) ?_
                  replace hF := obnd3_of hF
                  obtain ⟨r44, fi42, ar43, h41, hF⟩ := hF
                  refine cM_i (As := [.int (50 : Int32)]) (rest := []) hx hb hml hT hown hK hE hD hA hP hS (k_two l g am _ nf fi37 ar38 (50 : Int32) r44 fi42 ar43 h41) cw_X11_two mw19_13 ⟨⟨rfl, rfl⟩, Nat.le_of_ble_eq_true rfl, Nat.le_of_ble_eq_true rfl⟩ rfl hl.1 rfl (Nat.le_of_ble_eq_true rfl) dX11_head_191 ⟨Nat.zero_le _, Nat.zero_le _⟩ (fun H locs hP hS => ?_)
                  refine lv_bipush (v := (6 : Int32)) hx hb dX11_head_194 (by decide) ?_
                  refine lv_icmp_ne (tgt := 215) hx hb dX11_head_196 (by decide) (fun hc45 => ?_) (fun hc45 => ?_)
                  · replace hF := br_no hF hc45
                    exact J215  _ _ _ _ _ hF (lv_sub hl [0] rfl) hP hS
                  · replace hF := br_yes hF hc45
                    refine lv_aload_n hx hb dX11_head_199 rfl (lv_at hl 0 rfl) ?_
                    refine lv_sipush (v := (510 : Int32)) hx hb dX11_head_200 (by decide) ?_
                    replace hF := obnd3_of hF
                    obtain ⟨r49, fi47, ar48, h46, hF⟩ := hF
                    refine cM_i (As := [.int (510 : Int32)]) (rest := []) hx hb hml hT hown hK hE hD hA hP hS (k_two l g am _ nf fi42 ar43 (510 : Int32) r49 fi47 ar48 h46) cw_X11_two mw19_13 ⟨⟨rfl, rfl⟩, Nat.le_of_ble_eq_true rfl, Nat.le_of_ble_eq_true rfl⟩ rfl hl.1 rfl (Nat.le_of_ble_eq_true rfl) dX11_head_203 ⟨Nat.zero_le _, Nat.zero_le _⟩ (fun H locs hP hS => ?_)
                    refine lv_ldc (v := (43605 : Int32)) hx hb hown (hT _ mw19_7) dX11_head_206 ?_
                    refine lv_icmp_ne (tgt := 215) hx hb dX11_head_208 (by decide) (fun hc50 => ?_) (fun hc50 => ?_)
                    · replace hF := br_no hF hc50
                      exact J215  _ _ _ _ _ hF (lv_sub hl [0] rfl) hP hS
                    · replace hF := br_yes hF hc50
                      refine lv_iconst (v := (1 : Int32)) hx hb dX11_head_211 (by decide) ?_
                      refine lv_goto (tgt := 216) hx hb dX11_head_212 (by decide) ?_
                      exact J216 (1 : Int32) _ _ _ _ _ hF (lv_sub hl [0] rfl) hP hS
  have J87 : ∀  (fi : FI) (ar : AR) (H : Heap) (locs : List Loc) (ls : Array Slot), M_head_87 nf fi ar = some (r, fi', ar') → lv_has ls 2 [(0, .ref (am 0))] → va_P (gD g) vwCl (WM g am fi ar) H → va_S (AM am s.heap.size) s.heap H locs → W p l e (headSpec (wx yX11_head cX11_head 2 (some .boolean)) ({ frames := 3, cells := 0, slots := 0, locals := 63 } : Room)).room s m ([.ref (am 0)] : List Value).toArray below meth c H locs 0 0 (MQ below (QMi g am s.heap.size r fi' ar') ([.ref (am 0)] : List Value).toArray s 0 0 (AM am s.heap.size)) (F0 m 87 ls []) := by
    intro fi ar H locs ls hF hl hP hS
    unfold M_head_87 at hF
    refine lv_aload_n hx hb dX11_head_87 rfl (lv_at hl 0 rfl) ?_
    refine mg_8 hx hb hT hown hK hP mw19_3 dX11_head_88 ?_
    refine lv_bipush (v := (8 : Int32)) hx hb dX11_head_91 (by decide) ?_
    refine lv_icmp_lt (tgt := 215) hx hb dX11_head_93 (by decide) (fun hc51 => ?_) (fun hc51 => ?_)
    · replace hF := br_yes hF hc51
      exact J215  _ _ _ _ _ hF (lv_sub hl [0] rfl) hP hS
    · replace hF := br_no hF hc51
      refine lv_aload_n hx hb dX11_head_96 rfl (lv_at hl 0 rfl) ?_
      refine mg_8 hx hb hT hown hK hP mw19_3 dX11_head_97 ?_
      refine lv_bipush (v := (64 : Int32)) hx hb dX11_head_100 (by decide) ?_
      refine lv_icmp_gt (tgt := 215) hx hb dX11_head_102 (by decide) (fun hc52 => ?_) (fun hc52 => ?_)
      · replace hF := br_yes hF hc52
        exact J215  _ _ _ _ _ hF (lv_sub hl [0] rfl) hP hS
      · replace hF := br_no hF hc52
        refine lv_aload_n hx hb dX11_head_105 rfl (lv_at hl 0 rfl) ?_
        refine mg_9 hx hb hT hown hK hP mw19_4 dX11_head_106 ?_
        refine lv_iconst (v := (1 : Int32)) hx hb dX11_head_109 (by decide) ?_
        refine lv_icmp_eq (tgt := 121) hx hb dX11_head_110 (by decide) (fun hc53 => ?_) (fun hc53 => ?_)
        · replace hF := br_yes hF hc53
          exact J121  _ _ _ _ _ hF (lv_sub hl [0] rfl) hP hS
        · replace hF := br_no hF hc53
          refine lv_aload_n hx hb dX11_head_113 rfl (lv_at hl 0 rfl) ?_
          refine mg_9 hx hb hT hown hK hP mw19_4 dX11_head_114 ?_
          refine lv_iconst (v := (2 : Int32)) hx hb dX11_head_117 (by decide) ?_
          refine lv_icmp_ne (tgt := 215) hx hb dX11_head_118 (by decide) (fun hc54 => ?_) (fun hc54 => ?_)
          · replace hF := br_no hF hc54
            exact J215  _ _ _ _ _ hF (lv_sub hl [0] rfl) hP hS
          · replace hF := br_yes hF hc54
            exact J121  _ _ _ _ _ hF (lv_sub hl [0] rfl) hP hS
  replace hl := lv_sub hl [0] rfl
  refine lv_aload_n hx hb dX11_head_0 rfl (lv_at hl 0 rfl) ?_
  refine lv_aload_n hx hb dX11_head_1 rfl (lv_at hl 0 rfl) ?_
  refine lv_bipush (v := (13 : Int32)) hx hb dX11_head_2 (by decide) ?_
  replace hF := obnd3_of hF
  obtain ⟨r58, fi56, ar57, h55, hF⟩ := hF
  refine cM_i (As := [.int (13 : Int32)]) (rest := [.ref (am 0)]) hx hb hml hT hown hK hE hD hA hP hS (k_one l g am _ nf fi ar (13 : Int32) r58 fi56 ar57 h55) cw_X11_one mw19_9 ⟨⟨rfl, rfl⟩, Nat.le_of_ble_eq_true rfl, Nat.le_of_ble_eq_true rfl⟩ rfl hl.1 rfl (Nat.le_of_ble_eq_true rfl) dX11_head_4 ⟨Nat.zero_le _, Nat.zero_le _⟩ (fun H locs hP hS => ?_)
  obtain ⟨fi59, efi59⟩ : ∃ y : FI, y = va_up fi56 7 (r58) := ⟨_, rfl⟩
  replace hF := bnd_of hF efi59
  refine mp_7 hx hb hT hown hK hP hD hS mw19_2 dX11_head_7 (fun H locs hP hS => ?_)
  rw [← efi59] at hP
  refine lv_aload_n hx hb dX11_head_10 rfl (lv_at hl 0 rfl) ?_
  refine lv_aload_n hx hb dX11_head_11 rfl (lv_at hl 0 rfl) ?_
  refine lv_bipush (v := (14 : Int32)) hx hb dX11_head_12 (by decide) ?_
  replace hF := obnd3_of hF
  obtain ⟨r63, fi61, ar62, h60, hF⟩ := hF
  refine cM_i (As := [.int (14 : Int32)]) (rest := [.ref (am 0)]) hx hb hml hT hown hK hE hD hA hP hS (k_two l g am _ nf fi59 ar57 (14 : Int32) r63 fi61 ar62 h60) cw_X11_two mw19_13 ⟨⟨rfl, rfl⟩, Nat.le_of_ble_eq_true rfl, Nat.le_of_ble_eq_true rfl⟩ rfl hl.1 rfl (Nat.le_of_ble_eq_true rfl) dX11_head_14 ⟨Nat.zero_le _, Nat.zero_le _⟩ (fun H locs hP hS => ?_)
  obtain ⟨fi64, efi64⟩ : ∃ y : FI, y = va_up fi61 8 (r63) := ⟨_, rfl⟩
  replace hF := bnd_of hF efi64
  refine mp_8 hx hb hT hown hK hP hD hS mw19_3 dX11_head_17 (fun H locs hP hS => ?_)
  rw [← efi64] at hP
  refine lv_aload_n hx hb dX11_head_20 rfl (lv_at hl 0 rfl) ?_
  refine lv_aload_n hx hb dX11_head_21 rfl (lv_at hl 0 rfl) ?_
  refine lv_bipush (v := (16 : Int32)) hx hb dX11_head_22 (by decide) ?_
  replace hF := obnd3_of hF
  obtain ⟨r68, fi66, ar67, h65, hF⟩ := hF
  refine cM_i (As := [.int (16 : Int32)]) (rest := [.ref (am 0)]) hx hb hml hT hown hK hE hD hA hP hS (k_one l g am _ nf fi64 ar62 (16 : Int32) r68 fi66 ar67 h65) cw_X11_one mw19_9 ⟨⟨rfl, rfl⟩, Nat.le_of_ble_eq_true rfl, Nat.le_of_ble_eq_true rfl⟩ rfl hl.1 rfl (Nat.le_of_ble_eq_true rfl) dX11_head_24 ⟨Nat.zero_le _, Nat.zero_le _⟩ (fun H locs hP hS => ?_)
  obtain ⟨fi69, efi69⟩ : ∃ y : FI, y = va_up fi66 9 (r68) := ⟨_, rfl⟩
  replace hF := bnd_of hF efi69
  refine mp_9 hx hb hT hown hK hP hD hS mw19_4 dX11_head_27 (fun H locs hP hS => ?_)
  rw [← efi69] at hP
  refine lv_aload_n hx hb dX11_head_30 rfl (lv_at hl 0 rfl) ?_
  refine lv_aload_n hx hb dX11_head_31 rfl (lv_at hl 0 rfl) ?_
  refine lv_bipush (v := (36 : Int32)) hx hb dX11_head_32 (by decide) ?_
  replace hF := obnd3_of hF
  obtain ⟨r73, fi71, ar72, h70, hF⟩ := hF
  refine cM_i (As := [.int (36 : Int32)]) (rest := [.ref (am 0)]) hx hb hml hT hown hK hE hD hA hP hS (k_four l g am _ nf fi69 ar67 (36 : Int32) r73 fi71 ar72 h70) cw_X11_four mw19_17 ⟨⟨rfl, rfl⟩, Nat.le_of_ble_eq_true rfl, Nat.le_of_ble_eq_true rfl⟩ rfl hl.1 rfl (Nat.le_of_ble_eq_true rfl) dX11_head_34 ⟨Nat.zero_le _, Nat.zero_le _⟩ (fun H locs hP hS => ?_)
  obtain ⟨fi74, efi74⟩ : ∃ y : FI, y = va_up fi71 10 (r73) := ⟨_, rfl⟩
  replace hF := bnd_of hF efi74
  refine mp_10 hx hb hT hown hK hP hD hS mw19_5 dX11_head_37 (fun H locs hP hS => ?_)
  rw [← efi74] at hP
  refine lv_aload_n hx hb dX11_head_40 rfl (lv_at hl 0 rfl) ?_
  refine lv_aload_n hx hb dX11_head_41 rfl (lv_at hl 0 rfl) ?_
  refine lv_bipush (v := (44 : Int32)) hx hb dX11_head_42 (by decide) ?_
  replace hF := obnd3_of hF
  obtain ⟨r78, fi76, ar77, h75, hF⟩ := hF
  refine cM_i (As := [.int (44 : Int32)]) (rest := [.ref (am 0)]) hx hb hml hT hown hK hE hD hA hP hS (k_four l g am _ nf fi74 ar72 (44 : Int32) r78 fi76 ar77 h75) cw_X11_four mw19_17 ⟨⟨rfl, rfl⟩, Nat.le_of_ble_eq_true rfl, Nat.le_of_ble_eq_true rfl⟩ rfl hl.1 rfl (Nat.le_of_ble_eq_true rfl) dX11_head_44 ⟨Nat.zero_le _, Nat.zero_le _⟩ (fun H locs hP hS => ?_)
  obtain ⟨fi79, efi79⟩ : ∃ y : FI, y = va_up fi76 11 (r78) := ⟨_, rfl⟩
  replace hF := bnd_of hF efi79
  refine mp_11 hx hb hT hown hK hP hD hS mw19_6 dX11_head_47 (fun H locs hP hS => ?_)
  rw [← efi79] at hP
  refine lv_aload_n hx hb dX11_head_50 rfl (lv_at hl 0 rfl) ?_
  refine lv_bipush (v := (11 : Int32)) hx hb dX11_head_51 (by decide) ?_
  replace hF := obnd3_of hF
  obtain ⟨r83, fi81, ar82, h80, hF⟩ := hF
  refine cM_i (As := [.int (11 : Int32)]) (rest := []) hx hb hml hT hown hK hE hD hA hP hS (k_two l g am _ nf fi79 ar77 (11 : Int32) r83 fi81 ar82 h80) cw_X11_two mw19_13 ⟨⟨rfl, rfl⟩, Nat.le_of_ble_eq_true rfl, Nat.le_of_ble_eq_true rfl⟩ rfl hl.1 rfl (Nat.le_of_ble_eq_true rfl) dX11_head_53 ⟨Nat.zero_le _, Nat.zero_le _⟩ (fun H locs hP hS => ?_)
  refine lv_sipush (v := (512 : Int32)) hx hb dX11_head_56 (by decide) ?_
  refine lv_icmp_ne (tgt := 215) hx hb dX11_head_59 (by decide) (fun hc84 => ?_) (fun hc84 => ?_)
  · replace hF := br_no hF hc84
    exact J215  _ _ _ _ _ hF (lv_sub hl [0] rfl) hP hS
  · replace hF := br_yes hF hc84
    refine lv_aload_n hx hb dX11_head_62 rfl (lv_at hl 0 rfl) ?_
    refine mg_7 hx hb hT hown hK hP mw19_2 dX11_head_63 ?_
    refine lv_iconst (v := (2 : Int32)) hx hb dX11_head_66 (by decide) ?_
    refine lv_icmp_eq (tgt := 87) hx hb dX11_head_67 (by decide) (fun hc85 => ?_) (fun hc85 => ?_)
    · replace hF := br_yes hF hc85
      exact J87  _ _ _ _ _ hF (lv_sub hl [0] rfl) hP hS
    · replace hF := br_no hF hc85
      refine lv_aload_n hx hb dX11_head_70 rfl (lv_at hl 0 rfl) ?_
      refine mg_7 hx hb hT hown hK hP mw19_2 dX11_head_71 ?_
      refine lv_iconst (v := (4 : Int32)) hx hb dX11_head_74 (by decide) ?_
      refine lv_icmp_eq (tgt := 87) hx hb dX11_head_75 (by decide) (fun hc86 => ?_) (fun hc86 => ?_)
      · replace hF := br_yes hF hc86
        exact J87  _ _ _ _ _ hF (lv_sub hl [0] rfl) hP hS
      · replace hF := br_no hF hc86
        refine lv_aload_n hx hb dX11_head_78 rfl (lv_at hl 0 rfl) ?_
        refine mg_7 hx hb hT hown hK hP mw19_2 dX11_head_79 ?_
        refine lv_bipush (v := (8 : Int32)) hx hb dX11_head_82 (by decide) ?_
        refine lv_icmp_ne (tgt := 215) hx hb dX11_head_84 (by decide) (fun hc87 => ?_) (fun hc87 => ?_)
        · replace hF := br_no hF hc87
          exact J215  _ _ _ _ _ hF (lv_sub hl [0] rfl) hP hS
        · replace hF := br_yes hF hc87
          exact J87  _ _ _ _ _ hF (lv_sub hl [0] rfl) hP hS
theorem cw_X11_head : (Cond.instanceMethod yX11_head ∈ TB ∧ Cond.selects RX11 yX11_head yX11_head ∈ TB ∧ Cond.code yX11_head cX11_head 2 (some .boolean) ∈ TB) ∧ (yX11_head.cls = RX11 ∧ yX11_head.cls ≠ "java/lang/invoke/MethodHandle" ∧ yX11_head.cls ≠ "java/lang/invoke/VarHandle" ∧ (parseMethodDescriptor yX11_head.desc).map (fun d => d.parameters.length) = some 0) := ⟨⟨mw18_23, mw19_0, mw19_1⟩, by decide +kernel⟩
