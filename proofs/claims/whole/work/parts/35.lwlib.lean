theorem va_D.left {A : Nat → Prop} {X Y : va_W} (h : va_D A (X ++ Y)) : va_D A X := by
  have key : ∀ (i : Nat) (x : Nat × va_E), X[i]? = some x → (X ++ Y)[i]? = some x := fun i x hi => by rw [List.getElem?_append_left (List.getElem?_eq_some_iff.mp hi).1]; exact hi
  exact ⟨fun i j x y hi hj e => h.1 i j x y (key i x hi) (key j y hj) e, fun k q hk => h.2 k q (key k q hk)⟩
theorem va_D.right {A : Nat → Prop} {X Y : va_W} (h : va_D A (X ++ Y)) : va_D A Y := by
  have key : ∀ (i : Nat) (x : Nat × va_E), Y[i]? = some x → (X ++ Y)[X.length + i]? = some x := fun i x hi => by rw [List.getElem?_append_right (by omega), Nat.add_sub_cancel_left]; exact hi
  refine ⟨fun i j x y hi hj e => ?_, fun k q hk => h.2 _ q (key k q hk)⟩
  have := h.1 _ _ x y (key i x hi) (key j y hj) e
  omega
theorem va_D.cross {A : Nat → Prop} {X Y : va_W} (h : va_D A (X ++ Y)) {x y : Nat} (hx : x ∈ X.map (fun q => q.1)) (hy : y ∈ Y.map (fun q => q.1)) : x ≠ y := by
  obtain ⟨cx, hcx, rfl⟩ := List.mem_map.mp hx
  obtain ⟨cy, hcy, rfl⟩ := List.mem_map.mp hy
  obtain ⟨i, hi⟩ := List.getElem?_of_mem hcx
  obtain ⟨j, hj⟩ := List.getElem?_of_mem hcy
  intro e
  have hl := (List.getElem?_eq_some_iff.mp hi).1
  have := h.1 i (X.length + j) cx cy (by rw [List.getElem?_append_left hl]; exact hi) (by rw [List.getElem?_append_right (by omega), Nat.add_sub_cancel_left]; exact hj) e
  omega
theorem keepY {A B : Nat → Prop} {X Y : va_W} {D : va_G} {cl : List vw_C} {H H1 : Heap} (hD : va_D A (X ++ Y)) (hP : va_P D cl Y H) (hB : ∀ q, B q → q ∈ X.map (fun q => q.1) ∨ H.size ≤ q) (hk : ∀ q : Nat, q < H.size → ¬ B q → H1[q]? = H[q]?) : va_P D cl Y H1 := hP.kept (fun k q h => hk q.1 (hP k q h).lt (fun hb => (hB _ hb).elim (fun hx => hD.cross hx (List.mem_map.mpr ⟨q, List.mem_of_getElem? h, rfl⟩) rfl) (fun h2 => absurd (hP k q h).lt (Nat.not_lt.mpr h2))))
theorem keepX {A B : Nat → Prop} {X Y : va_W} {D : va_G} {cl : List vw_C} {H H1 : Heap} (hD : va_D A (X ++ Y)) (hP : va_P D cl X H) (hB : ∀ q, B q → q ∈ Y.map (fun q => q.1) ∨ H.size ≤ q) (hk : ∀ q : Nat, q < H.size → ¬ B q → H1[q]? = H[q]?) : va_P D cl X H1 := hP.kept (fun k q h => hk q.1 (hP k q h).lt (fun hb => (hB _ hb).elim (fun hx => hD.cross (List.mem_map.mpr ⟨q, List.mem_of_getElem? h, rfl⟩) hx rfl) (fun h2 => absurd (hP k q h).lt (Nat.not_lt.mpr h2))))
theorem newX {A B : Nat → Prop} {X X' Y : va_W} {D : va_G} {cl : List vw_C} {H : Heap} (hD : va_D A (X ++ Y)) (hP : va_P D cl Y H) (hX : va_D B X') (hBA : ∀ q, B q → A q) (hB : ∀ q, B q → q ∈ X.map (fun q => q.1) ∨ H.size ≤ q) : va_D A (X' ++ Y) := by
  refine va_D.app (hX.weaken (fun k q _ h => hBA q.1 h)) hD.right (fun i j x y hx hy hxy => ?_)
  have hm : y.1 ∈ Y.map (fun q => q.1) := List.mem_map.mpr ⟨y, List.mem_of_getElem? hy, rfl⟩
  have hb := hX.2 i x hx
  rw [hxy] at hb
  rcases hB _ hb with h | h
  · exact hD.cross h hm rfl
  · exact absurd (hP j y hy).lt (Nat.not_lt.mpr h)
abbrev WL (g : GT) (ad rd am : Nat → Nat) (ln : LN) (ou : Nat) (fi : FI) (ar : AR) (fo : Nat → Int64) (fm : FI) (arm : AR) : va_W := WO g ad rd ln ou fi ar fo ++ WM g am fm arm
theorem dLre {A : Nat → Prop} {g : GT} {ad rd am : Nat → Nat} {ln : LN} {ou : Nat} {fi : FI} {ar : AR} {fo : Nat → Int64} {fm : FI} {arm : AR} (h : va_D A (WL g ad rd am ln ou fi ar fo fm arm)) : ∀ (ln : LN) (fi : FI) (ar : AR) (fo : Nat → Int64) (fm : FI) (arm : AR), va_D A (WL g ad rd am ln ou fi ar fo fm arm) := fun ln2 fi2 ar2 fo2 fm2 arm2 => va_D.re h rfl (fun a ha => by
  obtain ⟨c, hc, rfl⟩ := List.mem_map.mp (show a ∈ (WL g ad rd am ln ou fi ar fo fm arm).map (fun q => q.1) from ha)
  obtain ⟨k, hk⟩ := List.getElem?_of_mem hc
  exact h.2 k c hk)
abbrev DL (A : Nat → Prop) (g : GT) (ad rd am : Nat → Nat) (ou : Nat) : Prop := ∀ (ln : LN) (fi : FI) (ar : AR) (fo : Nat → Int64) (fm : FI) (arm : AR), va_D A (WL g ad rd am ln ou fi ar fo fm arm)
section LWLIB
variable {p : Program} {l : Launch} {e : Env} {R : Room} {s : State} {m : MethodId} {args : Array Value} {below : List Frame} {meth : Method} {c : Code} {H : Heap} {locs : List Loc} {cells slots : Nat} {Q : State → Prop}
variable {cc : ByteArray} {pc : Nat} {ls : Array Slot} {rest : List Value} {A : Nat → Prop} {g : GT} {ad rd am : Nat → Nat} {ln ln' : LN} {fi fi' fm fm' : FI} {ar ar' arm arm' : AR} {index ou : Nat} {fo : Nat → Int64}
theorem lC_i {y : MethodName} {bytes : ByteArray} {maxL nL n : Nat} {ret : Option FieldType} {rm : Room} {As st : List Value} {r : Int32}
    (hx : p.tables.exec = Jvm.exec) (hb : c.code = cc) (hml : c.maxLocals = nL) (hTX : ∀ w ∈ TBX, w.before args s = true) (hown : s.vm.findClass RL = some m.cls) (hK : va_K (gD g) vwCl (tyl g) s) (hE : EV g A s s.heap) (hD : DL A g ad rd am ou) (hA : ∀ q : Nat, s.heap.size ≤ q → A q)
    (hPo : va_P (gD g) vwCl (WO g ad rd ln ou fi ar fo) H) (hPm : va_P (gD g) vwCl (WM g am fm arm) H) (hS : va_S A s.heap H locs)
    (hM : Met l y (wx y bytes maxL ret) rm (va_Pc (.ref (ad (0)) :: As) (PC g ad rd ln H.size fi ar)) (QCi g ad rd ln H.size r fi' ar') 0 0 (AC ad rd H.size))
    (hw : (Cond.instanceMethod y ∈ TB ∧ Cond.selects RX10 y y ∈ TB ∧ Cond.code y bytes maxL ret ∈ TB ∧ Cond.initialized RX10 ∈ TB) ∧ (y.cls = RX10 ∧ y.cls ≠ "java/lang/invoke/MethodHandle" ∧ y.cls ≠ "java/lang/invoke/VarHandle" ∧ (parseMethodDescriptor y.desc).map (fun d => d.parameters.length) = some n))
    (hl : Cond.methodLink RL index y ∈ TB) (hR : (rm.cells = 0 ∧ rm.slots = 0) ∧ rm.frames + 1 ≤ R.frames ∧ 8 + (maxL + 11) + rm.locals ≤ R.locals) (hn : As.length = n) (hls : ls.size = nL) (hst : st = As.reverse ++ .ref (ad (0)) :: rest) (hW : (rest.map fun v => v.category).sum ≤ 8)
    (hdg : decode cc pc = .ok (.invokevirtual index, 3)) (hcs : cells + 0 ≤ R.cells ∧ slots + 0 ≤ R.slots)
    (kk : ∀ (H : Heap) (locs : List Loc), va_P (gD g) vwCl (WO g ad rd ln ou fi' ar' fo) H → va_P (gD g) vwCl (WM g am fm arm) H → va_S A s.heap H locs → W p l e R s m args below meth c H locs cells slots Q (F0 m (pc + 3) ls (.int r :: rest))) : W p l e R s m args below meth c H locs cells slots Q (F0 m pc ls st) := by
  subst hst
  have hT : ∀ w ∈ TB, w.before args s = true := fun w h => hTX w (tbx0 w h)
  have hDo : ∀ (fi : FI) (ar : AR), va_D A (WC g ad rd ln fi ar) := fun fi ar => (hD ln fi ar fo fm arm).left.woc
  have hin := AC_in hDo hS.1 hA
  have hou := ou_out (hD ln fi ar fo fm arm).left hPo
  refine va_calli (va_runV (Ts := TB) (As := As) (rest := rest) ⟨hx, hb, hml, hown, hT⟩ hM (cwV n hT (fun w h => by
      rcases List.mem_append.mp h with h | h
      · have hi : w ∈ TB := by
          simp only [List.mem_cons, List.not_mem_nil, or_false] at h
          rcases h with rfl | rfl | rfl | rfl
          · exact hl
          · exact hw.1.1
          · exact hw.1.2.1
          · exact hw.1.2.2.2
        exact ⟨hi, good_of_word (TB_good w hi)⟩
      · exact TB_in1 hw.1.2.2.1 w h) rfl hR.1.1 hR.1.2 hw.2 hR.2) ⟨fun a U f mk q => ⟨q.1, q.2.1, q.2.2.1, va_K.moved (u := U) (U := U.calling f mk a) (Vm.Alike.refl U.vm) q.2.2.2.1, q.2.2.2.2.1, q.2.2.2.2.2.blind⟩, rcv_X10 hK hPo.woc, fun U hU hW => ⟨rfl, by rw [hU], by rw [hU]; exact hPo.woc, va_K.moved hW.alike hK, dCt hDo fi ar, EV.call hE hS hin hU hW⟩⟩ rfl hn hls rfl (lv_room hW) hdg hcs) hS (fun q _ h => hin q h) hin (fun r1 u t H1 locs1 ht hvm hw hB hz1 hk1 hS => ?_)
  obtain ⟨rfl, rfl⟩ := hw
  have hP1 : va_P (gD g) vwCl (WC g ad rd ln fi' ar') H1 := by rw [← ht]; exact hB
  refine kk H1 locs1 (va_P.app hP1 (fun k q hk => ?_)) (keepY (hD ln fi ar fo fm arm) hPm (fun q h => h.imp (fun h => List.mem_append_left _ h) (fun h => h)) hk1) hS
  have q1 := (List.getElem?_eq_some_iff.mp hk).1
  simp only [List.length_cons, List.length_nil] at q1
  have h0 : k = 0 := by omega
  subst h0
  cases hk
  exact (hPo 40 _ wo_at).kept (hk1 ou hou.1 hou.2)
theorem lC_v {y : MethodName} {bytes : ByteArray} {maxL nL n : Nat} {ret : Option FieldType} {rm : Room} {As st : List Value} {r : Unit}
    (hx : p.tables.exec = Jvm.exec) (hb : c.code = cc) (hml : c.maxLocals = nL) (hTX : ∀ w ∈ TBX, w.before args s = true) (hown : s.vm.findClass RL = some m.cls) (hK : va_K (gD g) vwCl (tyl g) s) (hE : EV g A s s.heap) (hD : DL A g ad rd am ou) (hA : ∀ q : Nat, s.heap.size ≤ q → A q)
    (hPo : va_P (gD g) vwCl (WO g ad rd ln ou fi ar fo) H) (hPm : va_P (gD g) vwCl (WM g am fm arm) H) (hS : va_S A s.heap H locs)
    (hM : Met l y (wx y bytes maxL ret) rm (va_Pc (.ref (ad (0)) :: As) (PC g ad rd ln H.size fi ar)) (QCv g ad rd ln H.size r fi' ar') 0 0 (AC ad rd H.size))
    (hw : (Cond.instanceMethod y ∈ TB ∧ Cond.selects RX10 y y ∈ TB ∧ Cond.code y bytes maxL ret ∈ TB ∧ Cond.initialized RX10 ∈ TB) ∧ (y.cls = RX10 ∧ y.cls ≠ "java/lang/invoke/MethodHandle" ∧ y.cls ≠ "java/lang/invoke/VarHandle" ∧ (parseMethodDescriptor y.desc).map (fun d => d.parameters.length) = some n))
    (hl : Cond.methodLink RL index y ∈ TB) (hR : (rm.cells = 0 ∧ rm.slots = 0) ∧ rm.frames + 1 ≤ R.frames ∧ 8 + (maxL + 11) + rm.locals ≤ R.locals) (hn : As.length = n) (hls : ls.size = nL) (hst : st = As.reverse ++ .ref (ad (0)) :: rest) (hW : (rest.map fun v => v.category).sum ≤ 8)
    (hdg : decode cc pc = .ok (.invokevirtual index, 3)) (hcs : cells + 0 ≤ R.cells ∧ slots + 0 ≤ R.slots)
    (kk : ∀ (H : Heap) (locs : List Loc), va_P (gD g) vwCl (WO g ad rd ln ou fi' ar' fo) H → va_P (gD g) vwCl (WM g am fm arm) H → va_S A s.heap H locs → W p l e R s m args below meth c H locs cells slots Q (F0 m (pc + 3) ls (rest))) : W p l e R s m args below meth c H locs cells slots Q (F0 m pc ls st) := by
  subst hst
  have hT : ∀ w ∈ TB, w.before args s = true := fun w h => hTX w (tbx0 w h)
  have hDo : ∀ (fi : FI) (ar : AR), va_D A (WC g ad rd ln fi ar) := fun fi ar => (hD ln fi ar fo fm arm).left.woc
  have hin := AC_in hDo hS.1 hA
  have hou := ou_out (hD ln fi ar fo fm arm).left hPo
  refine va_callv (va_runV (Ts := TB) (As := As) (rest := rest) ⟨hx, hb, hml, hown, hT⟩ hM (cwV n hT (fun w h => by
      rcases List.mem_append.mp h with h | h
      · have hi : w ∈ TB := by
          simp only [List.mem_cons, List.not_mem_nil, or_false] at h
          rcases h with rfl | rfl | rfl | rfl
          · exact hl
          · exact hw.1.1
          · exact hw.1.2.1
          · exact hw.1.2.2.2
        exact ⟨hi, good_of_word (TB_good w hi)⟩
      · exact TB_in1 hw.1.2.2.1 w h) rfl hR.1.1 hR.1.2 hw.2 hR.2) ⟨fun a U f mk q => ⟨q.1, q.2.1, q.2.2.1, va_K.moved (u := U) (U := U.calling f mk a) (Vm.Alike.refl U.vm) q.2.2.2.1, q.2.2.2.2.1, q.2.2.2.2.2.blind⟩, rcv_X10 hK hPo.woc, fun U hU hW => ⟨rfl, by rw [hU], by rw [hU]; exact hPo.woc, va_K.moved hW.alike hK, dCt hDo fi ar, EV.call hE hS hin hU hW⟩⟩ rfl hn hls rfl (lv_room hW) hdg hcs) hS (fun q _ h => hin q h) hin (fun u t H1 locs1 ht hvm hw hB hz1 hk1 hS => ?_)
  subst hw
  have hP1 : va_P (gD g) vwCl (WC g ad rd ln fi' ar') H1 := by rw [← ht]; exact hB
  refine kk H1 locs1 (va_P.app hP1 (fun k q hk => ?_)) (keepY (hD ln fi ar fo fm arm) hPm (fun q h => h.imp (fun h => List.mem_append_left _ h) (fun h => h)) hk1) hS
  have q1 := (List.getElem?_eq_some_iff.mp hk).1
  simp only [List.length_cons, List.length_nil] at q1
  have h0 : k = 0 := by omega
  subst h0
  cases hk
  exact (hPo 40 _ wo_at).kept (hk1 ou hou.1 hou.2)
theorem lA_i {y : MethodName} {bytes : ByteArray} {maxL nL n kc ks : Nat} {ret : Option FieldType} {rm : Room} {As st : List Value} {r : Int32}
    (hx : p.tables.exec = Jvm.exec) (hb : c.code = cc) (hml : c.maxLocals = nL) (hTX : ∀ w ∈ TBX, w.before args s = true) (hown : s.vm.findClass RL = some m.cls) (hK : va_K (gD g) vwCl (tyl g) s) (hE : EV g A s s.heap) (hD : DL A g ad rd am ou) (hA : ∀ q : Nat, s.heap.size ≤ q → A q)
    (hPo : va_P (gD g) vwCl (WO g ad rd ln ou fi ar fo) H) (hPm : va_P (gD g) vwCl (WM g am fm arm) H) (hS : va_S A s.heap H locs)
    (hM : Met l y (wx y bytes maxL ret) rm (va_Pc (.ref (ad (0)) :: As) (PC g ad rd ln H.size fi ar)) (QAi g ad (AC ad rd H.size) r fi' ar' ln') kc ks (AC ad rd H.size))
    (hw : (Cond.instanceMethod y ∈ TB ∧ Cond.selects RX10 y y ∈ TB ∧ Cond.code y bytes maxL ret ∈ TB ∧ Cond.initialized RX10 ∈ TB) ∧ (y.cls = RX10 ∧ y.cls ≠ "java/lang/invoke/MethodHandle" ∧ y.cls ≠ "java/lang/invoke/VarHandle" ∧ (parseMethodDescriptor y.desc).map (fun d => d.parameters.length) = some n))
    (hl : Cond.methodLink RL index y ∈ TB) (hR : (rm.cells = kc ∧ rm.slots = ks) ∧ rm.frames + 1 ≤ R.frames ∧ 8 + (maxL + 11) + rm.locals ≤ R.locals) (hn : As.length = n) (hls : ls.size = nL) (hst : st = As.reverse ++ .ref (ad (0)) :: rest) (hW : (rest.map fun v => v.category).sum ≤ 8)
    (hdg : decode cc pc = .ok (.invokevirtual index, 3)) (hcs : cells + kc ≤ R.cells ∧ slots + ks ≤ R.slots)
    (kk : ∀ (rd : Nat → Nat) (H : Heap) (locs : List Loc), va_P (gD g) vwCl (WO g ad rd ln' ou fi' ar' fo) H → va_P (gD g) vwCl (WM g am fm arm) H → DL A g ad rd am ou → va_S A s.heap H locs → W p l e R s m args below meth c H locs (cells + kc) (slots + ks) Q (F0 m (pc + 3) ls (.int r :: rest))) : W p l e R s m args below meth c H locs cells slots Q (F0 m pc ls st) := by
  subst hst
  have hT : ∀ w ∈ TB, w.before args s = true := fun w h => hTX w (tbx0 w h)
  have hDo : ∀ (fi : FI) (ar : AR), va_D A (WC g ad rd ln fi ar) := fun fi ar => (hD ln fi ar fo fm arm).left.woc
  have hin := AC_in hDo hS.1 hA
  have hou := ou_out (hD ln fi ar fo fm arm).left hPo
  have hAo : A ou := (hD ln fi ar fo fm arm).left.2 40 _ wo_at
  refine va_calli (va_runV (Ts := TB) (As := As) (rest := rest) ⟨hx, hb, hml, hown, hT⟩ hM (cwV n hT (fun w h => by
      rcases List.mem_append.mp h with h | h
      · have hi : w ∈ TB := by
          simp only [List.mem_cons, List.not_mem_nil, or_false] at h
          rcases h with rfl | rfl | rfl | rfl
          · exact hl
          · exact hw.1.1
          · exact hw.1.2.1
          · exact hw.1.2.2.2
        exact ⟨hi, good_of_word (TB_good w hi)⟩
      · exact TB_in1 hw.1.2.2.1 w h) rfl hR.1.1 hR.1.2 hw.2 hR.2) ⟨fun a U f mk q => ⟨q.1, q.2.1, q.2.2.1, va_K.moved (u := U) (U := U.calling f mk a) (Vm.Alike.refl U.vm) q.2.2.2.1, q.2.2.2.2.1, q.2.2.2.2.2.blind⟩, rcv_X10 hK hPo.woc, fun U hU hW => ⟨rfl, by rw [hU], by rw [hU]; exact hPo.woc, va_K.moved hW.alike hK, dCt hDo fi ar, EV.call hE hS hin hU hW⟩⟩ rfl hn hls rfl (lv_room hW) hdg hcs) hS (fun q _ h => hin q h) hin (fun r1 u t H1 locs1 ht hvm hw hB hz1 hk1 hS => ?_)
  obtain ⟨fi2, ar2, ln2, rd2⟩ := u
  dsimp only at hw hB
  obtain ⟨rfl, rfl, rfl, rfl⟩ := hw
  obtain ⟨hP1, hD1⟩ := hB
  rw [ht] at hP1
  have hB' : ∀ q, (AC ad rd H.size q ∨ q = ou) → q ∈ (WO g ad rd ln ou fi ar fo).map (fun q => q.1) ∨ H.size ≤ q := fun q h => h.elim (fun h => h.imp (fun h => List.mem_append_left _ h) (fun h => h)) (fun e => Or.inl (by rw [e]; exact List.mem_append_right (acL ad rd) (List.mem_singleton.mpr rfl)))
  have hWO : va_D (fun q => AC ad rd H.size q ∨ q = ou) (WO g ad rd2 ln2 ou fi2 ar2 fo) := dOnew (A := fun q => AC ad rd H.size q ∨ q = ou) hD1 (fun _ h => Or.inl h) hou.2 (Or.inr rfl) ln2 fi2 ar2 fo
  refine kk rd2 H1 locs1 (va_P.app hP1 (fun k q hk => ?_)) (keepY (hD ln fi ar fo fm arm) hPm (fun q h => h.imp (fun h => List.mem_append_left _ h) (fun h => h)) hk1) (dLre (newX (hD ln fi ar fo fm arm) hPm hWO (fun q h => h.elim (hin q) (fun e => by rw [e]; exact hAo)) hB')) hS
  have q1 := (List.getElem?_eq_some_iff.mp hk).1
  simp only [List.length_cons, List.length_nil] at q1
  have h0 : k = 0 := by omega
  subst h0
  cases hk
  exact (hPo 40 _ wo_at).kept (hk1 ou hou.1 hou.2)
theorem lO_i {y : MethodName} {bytes : ByteArray} {maxL nL n kc ks : Nat} {ret : Option FieldType} {hh : List (Nat × Nat × Nat × Nat)} {rm : Room} {As st : List Value} {r : Int32 × (Nat → Int64)}
    (hx : p.tables.exec = Jvm.exec) (hb : c.code = cc) (hml : c.maxLocals = nL) (hTX : ∀ w ∈ TBX, w.before args s = true) (hown : s.vm.findClass RL = some m.cls) (hK : va_K (gD g) vwCl (tyl g) s) (hE : EV g A s s.heap) (hEX : EVX A s s.heap) (hNc : NcX s) (hD : DL A g ad rd am ou) (hA : ∀ q : Nat, s.heap.size ≤ q → A q)
    (hPo : va_P (gD g) vwCl (WO g ad rd ln ou fi ar fo) H) (hPm : va_P (gD g) vwCl (WM g am fm arm) H) (hS : va_S A s.heap H locs)
    (hM : Met l y (Cond.codeWith y bytes maxL ret hh :: TBX) rm (va_Pc As (PO g ad rd ln ou H.size fi ar fo)) (QO g ad ou (AO ad rd ou H.size) r fi' ar' ln') kc ks (AO ad rd ou H.size))
    (hw : (Cond.static y ∈ TB ∧ Cond.codeWith y bytes maxL ret hh ∈ TB ∧ Cond.initialized y.cls ∈ TB) ∧ (y.cls ≠ "java/lang/invoke/MethodHandle" ∧ y.cls ≠ "java/lang/invoke/VarHandle" ∧ (parseMethodDescriptor y.desc).map (fun d => d.parameters.length) = some n))
    (hl : Cond.methodLink RL index y ∈ TB) (hR : (rm.cells = kc ∧ rm.slots = ks) ∧ rm.frames + 1 ≤ R.frames ∧ 8 + (maxL + 11) + rm.locals ≤ R.locals) (hn : As.length = n) (hls : ls.size = nL) (hst : st = As.reverse ++ rest) (hW : (rest.map fun v => v.category).sum ≤ 8)
    (hdg : decode cc pc = .ok (.invokestatic index, 3)) (hcs : cells + kc ≤ R.cells ∧ slots + ks ≤ R.slots)
    (kk : ∀ (rd : Nat → Nat) (H : Heap) (locs : List Loc), va_P (gD g) vwCl (WO g ad rd ln' ou fi' ar' r.2) H → va_P (gD g) vwCl (WM g am fm arm) H → DL A g ad rd am ou → va_S A s.heap H locs → W p l e R s m args below meth c H locs (cells + kc) (slots + ks) Q (F0 m (pc + 3) ls (.int r.1 :: rest))) : W p l e R s m args below meth c H locs cells slots Q (F0 m pc ls st) := by
  subst hst
  have hT : ∀ w ∈ TB, w.before args s = true := fun w h => hTX w (tbx0 w h)
  have hDo := (hD ln fi ar fo fm arm).left
  have hin : ∀ q, AO ad rd ou H.size q → A q := fun q hq => by
    rcases hq with hq | hq
    · have h2 : q ∈ (WO g ad rd ln ou fi ar fo).map (fun q => q.1) := hq
      obtain ⟨c, hc, rfl⟩ := List.mem_map.mp h2
      obtain ⟨k, hk⟩ := List.getElem?_of_mem hc
      exact hDo.2 k c hk
    · exact hA q (Nat.le_trans hS.1 hq)
  refine va_calli (vx_runSW (Ts := TBX) (As := As) (rest := rest) ⟨hx, hb, hml, hown, hTX⟩ hM (vx_cwSW n hTX (fun w h => by
      rcases List.mem_append.mp h with h | h
      · have hi : w ∈ TB := by
          simp only [List.mem_cons, List.not_mem_nil, or_false] at h
          rcases h with rfl | rfl | rfl
          · exact hl
          · exact hw.1.1
          · exact hw.1.2.2
        exact ⟨tbx0 _ hi, good_of_word (TB_good w hi)⟩
      · exact TBX_in1 hw.1.2.1 w h) rfl hR.1.1 hR.1.2 hw.2 hR.2) ⟨fun a U f mk q => ⟨q.1, q.2.1, q.2.2.1, va_K.moved (u := U) (U := U.calling f mk a) (Vm.Alike.refl U.vm) q.2.2.2.1, q.2.2.2.2.1, q.2.2.2.2.2.1.blind, q.2.2.2.2.2.2.1.blind, fun a' b' h1 h2 h3 => va_Nc.moved (u := U) (U := U.calling f mk a) (Vm.Alike.refl U.vm) (q.2.2.2.2.2.2.2 a' b' h1 h2 h3)⟩, fun U hU hW => ⟨rfl, by rw [hU], by rw [hU]; exact hPo, va_K.moved hW.alike hK, hDo.weaken (fun _ _ _ _ => trivial), EV.call hE hS hin hU hW, EVX.call hEX hS hin hU hW, fun a' b' h1 h2 h3 => (hNc a' b' h1 h2 h3).moved hW.alike⟩⟩ rfl hn hls rfl (lv_room hW) hdg hcs) hS (fun q _ h => hin q h) hin (fun r1 u t H1 locs1 ht hvm hw hB hz1 hk1 hS => ?_)
  obtain ⟨fi2, ar2, ln2, rd2, fo2⟩ := u
  dsimp only at hw hB
  obtain ⟨rfl, rfl, rfl, rfl, hfo⟩ := hw
  subst hfo
  obtain ⟨hP1, hD1⟩ := hB
  rw [ht] at hP1
  exact kk rd2 H1 locs1 hP1 (keepY (hD ln fi ar fo fm arm) hPm (fun q h => h) hk1) (dLre (newX (hD ln fi ar fo fm arm) hPm hD1 hin (fun q h => h))) hS
theorem lM_i {y : MethodName} {bytes : ByteArray} {maxL nL n : Nat} {ret : Option FieldType} {rm : Room} {As st : List Value} {r : Int32}
    (hx : p.tables.exec = Jvm.exec) (hb : c.code = cc) (hml : c.maxLocals = nL) (hTX : ∀ w ∈ TBX, w.before args s = true) (hown : s.vm.findClass RL = some m.cls) (hK : va_K (gD g) vwCl (tyl g) s) (hE : EV g A s s.heap) (hD : DL A g ad rd am ou) (hA : ∀ q : Nat, s.heap.size ≤ q → A q)
    (hPo : va_P (gD g) vwCl (WO g ad rd ln ou fi ar fo) H) (hPm : va_P (gD g) vwCl (WM g am fm arm) H) (hS : va_S A s.heap H locs)
    (hM : Met l y (wx y bytes maxL ret) rm (va_Pc (.ref (am 0) :: As) (PM g am H.size fm arm)) (QMi g am H.size r fm' arm') 0 0 (AM am H.size))
    (hw : (Cond.instanceMethod y ∈ TB ∧ Cond.selects RX11 y y ∈ TB ∧ Cond.code y bytes maxL ret ∈ TB) ∧ (y.cls = RX11 ∧ y.cls ≠ "java/lang/invoke/MethodHandle" ∧ y.cls ≠ "java/lang/invoke/VarHandle" ∧ (parseMethodDescriptor y.desc).map (fun d => d.parameters.length) = some n))
    (hl : Cond.methodLink RL index y ∈ TB) (hR : (rm.cells = 0 ∧ rm.slots = 0) ∧ rm.frames + 1 ≤ R.frames ∧ 8 + (maxL + 11) + rm.locals ≤ R.locals) (hn : As.length = n) (hls : ls.size = nL) (hst : st = As.reverse ++ .ref (am 0) :: rest) (hW : (rest.map fun v => v.category).sum ≤ 8)
    (hdg : decode cc pc = .ok (.invokevirtual index, 3)) (hcs : cells + 0 ≤ R.cells ∧ slots + 0 ≤ R.slots)
    (kk : ∀ (H : Heap) (locs : List Loc), va_P (gD g) vwCl (WO g ad rd ln ou fi ar fo) H → va_P (gD g) vwCl (WM g am fm' arm') H → va_S A s.heap H locs → W p l e R s m args below meth c H locs cells slots Q (F0 m (pc + 3) ls (.int r :: rest))) : W p l e R s m args below meth c H locs cells slots Q (F0 m pc ls st) := by
  subst hst
  have hT : ∀ w ∈ TB, w.before args s = true := fun w h => hTX w (tbx0 w h)
  have hDm : ∀ (fm : FI) (arm : AR), va_D A (WM g am fm arm) := fun fm arm => (hD ln fi ar fo fm arm).right
  have hin := AM_in hDm hS.1 hA
  refine va_calli (va_runV (Ts := TB) (As := As) (rest := rest) ⟨hx, hb, hml, hown, hT⟩ hM (cwV n hT (fun w h => by
      rcases List.mem_append.mp h with h | h
      · have hi : w ∈ TB := by
          simp only [List.mem_cons, List.not_mem_nil, or_false] at h
          rcases h with rfl | rfl | rfl | rfl
          · exact hl
          · exact hw.1.1
          · exact hw.1.2.1
          · exact mw1_5
        exact ⟨hi, good_of_word (TB_good w hi)⟩
      · exact TB_in1 hw.1.2.2 w h) rfl hR.1.1 hR.1.2 hw.2 hR.2) ⟨fun a U f mk q => ⟨q.1, q.2.1, q.2.2.1, va_K.moved (u := U) (U := U.calling f mk a) (Vm.Alike.refl U.vm) q.2.2.2.1, q.2.2.2.2.1, q.2.2.2.2.2.blind⟩, va_recv hK hPm (ci := 9) (q0 := 0) rfl rfl, fun U hU hW => ⟨rfl, by rw [hU], by rw [hU]; exact hPm, va_K.moved hW.alike hK, dMt hDm fm arm, EV.call hE hS hin hU hW⟩⟩ rfl hn hls rfl (lv_room hW) hdg hcs) hS (fun q _ h => hin q h) hin (fun r1 u t H1 locs1 ht hvm hw hB hz1 hk1 hS => ?_)
  obtain ⟨rfl, rfl⟩ := hw
  have hP1 : va_P (gD g) vwCl (WM g am fm' arm') H1 := by rw [← ht]; exact hB
  exact kk H1 locs1 (keepX (hD ln fi ar fo fm arm) hPo (fun q h => h) hk1) hP1 hS
theorem lM_l {y : MethodName} {bytes : ByteArray} {maxL nL n : Nat} {ret : Option FieldType} {rm : Room} {As st : List Value} {r : Int64}
    (hx : p.tables.exec = Jvm.exec) (hb : c.code = cc) (hml : c.maxLocals = nL) (hTX : ∀ w ∈ TBX, w.before args s = true) (hown : s.vm.findClass RL = some m.cls) (hK : va_K (gD g) vwCl (tyl g) s) (hE : EV g A s s.heap) (hD : DL A g ad rd am ou) (hA : ∀ q : Nat, s.heap.size ≤ q → A q)
    (hPo : va_P (gD g) vwCl (WO g ad rd ln ou fi ar fo) H) (hPm : va_P (gD g) vwCl (WM g am fm arm) H) (hS : va_S A s.heap H locs)
    (hM : Met l y (wx y bytes maxL ret) rm (va_Pc (.ref (am 0) :: As) (PM g am H.size fm arm)) (QMl g am H.size r fm' arm') 0 0 (AM am H.size))
    (hw : (Cond.instanceMethod y ∈ TB ∧ Cond.selects RX11 y y ∈ TB ∧ Cond.code y bytes maxL ret ∈ TB) ∧ (y.cls = RX11 ∧ y.cls ≠ "java/lang/invoke/MethodHandle" ∧ y.cls ≠ "java/lang/invoke/VarHandle" ∧ (parseMethodDescriptor y.desc).map (fun d => d.parameters.length) = some n))
    (hl : Cond.methodLink RL index y ∈ TB) (hR : (rm.cells = 0 ∧ rm.slots = 0) ∧ rm.frames + 1 ≤ R.frames ∧ 8 + (maxL + 11) + rm.locals ≤ R.locals) (hn : As.length = n) (hls : ls.size = nL) (hst : st = As.reverse ++ .ref (am 0) :: rest) (hW : (rest.map fun v => v.category).sum ≤ 8)
    (hdg : decode cc pc = .ok (.invokevirtual index, 3)) (hcs : cells + 0 ≤ R.cells ∧ slots + 0 ≤ R.slots)
    (kk : ∀ (H : Heap) (locs : List Loc), va_P (gD g) vwCl (WO g ad rd ln ou fi ar fo) H → va_P (gD g) vwCl (WM g am fm' arm') H → va_S A s.heap H locs → W p l e R s m args below meth c H locs cells slots Q (F0 m (pc + 3) ls (.long r :: rest))) : W p l e R s m args below meth c H locs cells slots Q (F0 m pc ls st) := by
  subst hst
  have hT : ∀ w ∈ TB, w.before args s = true := fun w h => hTX w (tbx0 w h)
  have hDm : ∀ (fm : FI) (arm : AR), va_D A (WM g am fm arm) := fun fm arm => (hD ln fi ar fo fm arm).right
  have hin := AM_in hDm hS.1 hA
  refine va_calll (va_runV (Ts := TB) (As := As) (rest := rest) ⟨hx, hb, hml, hown, hT⟩ hM (cwV n hT (fun w h => by
      rcases List.mem_append.mp h with h | h
      · have hi : w ∈ TB := by
          simp only [List.mem_cons, List.not_mem_nil, or_false] at h
          rcases h with rfl | rfl | rfl | rfl
          · exact hl
          · exact hw.1.1
          · exact hw.1.2.1
          · exact mw1_5
        exact ⟨hi, good_of_word (TB_good w hi)⟩
      · exact TB_in1 hw.1.2.2 w h) rfl hR.1.1 hR.1.2 hw.2 hR.2) ⟨fun a U f mk q => ⟨q.1, q.2.1, q.2.2.1, va_K.moved (u := U) (U := U.calling f mk a) (Vm.Alike.refl U.vm) q.2.2.2.1, q.2.2.2.2.1, q.2.2.2.2.2.blind⟩, va_recv hK hPm (ci := 9) (q0 := 0) rfl rfl, fun U hU hW => ⟨rfl, by rw [hU], by rw [hU]; exact hPm, va_K.moved hW.alike hK, dMt hDm fm arm, EV.call hE hS hin hU hW⟩⟩ rfl hn hls rfl (lv_room hW) hdg hcs) hS (fun q _ h => hin q h) hin (fun r1 u t H1 locs1 ht hvm hw hB hz1 hk1 hS => ?_)
  obtain ⟨rfl, rfl⟩ := hw
  have hP1 : va_P (gD g) vwCl (WM g am fm' arm') H1 := by rw [← ht]; exact hB
  exact kk H1 locs1 (keepX (hD ln fi ar fo fm arm) hPo (fun q h => h) hk1) hP1 hS
theorem lM_v {y : MethodName} {bytes : ByteArray} {maxL nL n : Nat} {ret : Option FieldType} {rm : Room} {As st : List Value} {r : Unit}
    (hx : p.tables.exec = Jvm.exec) (hb : c.code = cc) (hml : c.maxLocals = nL) (hTX : ∀ w ∈ TBX, w.before args s = true) (hown : s.vm.findClass RL = some m.cls) (hK : va_K (gD g) vwCl (tyl g) s) (hE : EV g A s s.heap) (hD : DL A g ad rd am ou) (hA : ∀ q : Nat, s.heap.size ≤ q → A q)
    (hPo : va_P (gD g) vwCl (WO g ad rd ln ou fi ar fo) H) (hPm : va_P (gD g) vwCl (WM g am fm arm) H) (hS : va_S A s.heap H locs)
    (hM : Met l y (wx y bytes maxL ret) rm (va_Pc (.ref (am 0) :: As) (PM g am H.size fm arm)) (QMv g am H.size r fm' arm') 0 0 (AM am H.size))
    (hw : (Cond.instanceMethod y ∈ TB ∧ Cond.selects RX11 y y ∈ TB ∧ Cond.code y bytes maxL ret ∈ TB) ∧ (y.cls = RX11 ∧ y.cls ≠ "java/lang/invoke/MethodHandle" ∧ y.cls ≠ "java/lang/invoke/VarHandle" ∧ (parseMethodDescriptor y.desc).map (fun d => d.parameters.length) = some n))
    (hl : Cond.methodLink RL index y ∈ TB) (hR : (rm.cells = 0 ∧ rm.slots = 0) ∧ rm.frames + 1 ≤ R.frames ∧ 8 + (maxL + 11) + rm.locals ≤ R.locals) (hn : As.length = n) (hls : ls.size = nL) (hst : st = As.reverse ++ .ref (am 0) :: rest) (hW : (rest.map fun v => v.category).sum ≤ 8)
    (hdg : decode cc pc = .ok (.invokevirtual index, 3)) (hcs : cells + 0 ≤ R.cells ∧ slots + 0 ≤ R.slots)
    (kk : ∀ (H : Heap) (locs : List Loc), va_P (gD g) vwCl (WO g ad rd ln ou fi ar fo) H → va_P (gD g) vwCl (WM g am fm' arm') H → va_S A s.heap H locs → W p l e R s m args below meth c H locs cells slots Q (F0 m (pc + 3) ls (rest))) : W p l e R s m args below meth c H locs cells slots Q (F0 m pc ls st) := by
  subst hst
  have hT : ∀ w ∈ TB, w.before args s = true := fun w h => hTX w (tbx0 w h)
  have hDm : ∀ (fm : FI) (arm : AR), va_D A (WM g am fm arm) := fun fm arm => (hD ln fi ar fo fm arm).right
  have hin := AM_in hDm hS.1 hA
  refine va_callv (va_runV (Ts := TB) (As := As) (rest := rest) ⟨hx, hb, hml, hown, hT⟩ hM (cwV n hT (fun w h => by
      rcases List.mem_append.mp h with h | h
      · have hi : w ∈ TB := by
          simp only [List.mem_cons, List.not_mem_nil, or_false] at h
          rcases h with rfl | rfl | rfl | rfl
          · exact hl
          · exact hw.1.1
          · exact hw.1.2.1
          · exact mw1_5
        exact ⟨hi, good_of_word (TB_good w hi)⟩
      · exact TB_in1 hw.1.2.2 w h) rfl hR.1.1 hR.1.2 hw.2 hR.2) ⟨fun a U f mk q => ⟨q.1, q.2.1, q.2.2.1, va_K.moved (u := U) (U := U.calling f mk a) (Vm.Alike.refl U.vm) q.2.2.2.1, q.2.2.2.2.1, q.2.2.2.2.2.blind⟩, va_recv hK hPm (ci := 9) (q0 := 0) rfl rfl, fun U hU hW => ⟨rfl, by rw [hU], by rw [hU]; exact hPm, va_K.moved hW.alike hK, dMt hDm fm arm, EV.call hE hS hin hU hW⟩⟩ rfl hn hls rfl (lv_room hW) hdg hcs) hS (fun q _ h => hin q h) hin (fun u t H1 locs1 ht hvm hw hB hz1 hk1 hS => ?_)
  subst hw
  have hP1 : va_P (gD g) vwCl (WM g am fm' arm') H1 := by rw [← ht]; exact hB
  exact kk H1 locs1 (keepX (hD ln fi ar fo fm arm) hPo (fun q h => h) hk1) hP1 hS
end LWLIB
