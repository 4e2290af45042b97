def WO (g : GT) (ad rd : Nat → Nat) (ln : LN) (ou : Nat) (fi : FI) (ar : AR) (fo : Nat → Int64) : va_W := WC g ad rd ln fi ar ++ [(ou, .inl (g.2.2.1 4, 1, .inr (.inl fo)))]
def AO (ad rd : Nat → Nat) (ou : Nat) (sz : Nat) : Nat → Prop := fun q => q ∈ acL ad rd ++ [ou] ∨ sz ≤ q
theorem wo_in {g : GT} {ad rd : Nat → Nat} {ln : LN} {ou : Nat} {fi : FI} {ar : AR} {fo : Nat → Int64} {k : Nat} {c : Nat × va_E} (h : (WC g ad rd ln fi ar)[k]? = some c) : (WO g ad rd ln ou fi ar fo)[k]? = some c := by
  unfold WO
  rw [List.getElem?_append_left (List.getElem?_eq_some_iff.mp h).1]
  exact h
theorem wo_at {g : GT} {ad rd : Nat → Nat} {ln : LN} {ou : Nat} {fi : FI} {ar : AR} {fo : Nat → Int64} : (WO g ad rd ln ou fi ar fo)[40]? = some (ou, .inl (g.2.2.1 4, 1, .inr (.inl fo))) := rfl
theorem va_P.woc {g : GT} {ad rd : Nat → Nat} {ln : LN} {ou : Nat} {fi : FI} {ar : AR} {fo : Nat → Int64} {H : Heap} (h : va_P (gD g) vwCl (WO g ad rd ln ou fi ar fo) H) : va_P (gD g) vwCl (WC g ad rd ln fi ar) H := fun k q hk => h k q (wo_in hk)
theorem va_D.woc {A : Nat → Prop} {g : GT} {ad rd : Nat → Nat} {ln : LN} {ou : Nat} {fi : FI} {ar : AR} {fo : Nat → Int64} (h : va_D A (WO g ad rd ln ou fi ar fo)) : va_D A (WC g ad rd ln fi ar) := ⟨fun i j x y hi hj e => h.1 i j x y (wo_in hi) (wo_in hj) e, fun k q hk => h.2 k q (wo_in hk)⟩
theorem dO {A : Nat → Prop} {g : GT} {ad rd : Nat → Nat} {ln : LN} {ou : Nat} {fi : FI} {ar : AR} {fo : Nat → Int64} (h : va_D A (WO g ad rd ln ou fi ar fo)) (sz : Nat) : ∀ (ln : LN) (fi : FI) (ar : AR) (fo : Nat → Int64), va_D (AO ad rd ou sz) (WO g ad rd ln ou fi ar fo) := fun ln fi ar fo => va_D.re h rfl (fun _ ha => Or.inl ha)
theorem ou_out {A : Nat → Prop} {g : GT} {ad rd : Nat → Nat} {ln : LN} {ou : Nat} {fi : FI} {ar : AR} {fo : Nat → Int64} {H : Heap} (h : va_D A (WO g ad rd ln ou fi ar fo)) (hP : va_P (gD g) vwCl (WO g ad rd ln ou fi ar fo) H) : ou < H.size ∧ ¬ AC ad rd H.size ou := by
  have hl := (hP 40 _ wo_at).lt
  refine ⟨hl, fun hq => ?_⟩
  rcases hq with hq | hq
  · have h2 : ou ∈ (WC g ad rd ln fi ar).map (fun q => q.1) := hq
    obtain ⟨c, hc, e⟩ := List.mem_map.mp h2
    obtain ⟨k, hk⟩ := List.getElem?_of_mem hc
    have h3 := h.1 k 40 c _ (wo_in hk) wo_at e
    have h4 := (List.getElem?_eq_some_iff.mp hk).1
    rw [wf_len] at h4
    omega
  · omega
/-- the class's part new, the other cell as it was -/
theorem dOnew {A A1 : Nat → Prop} {g : GT} {ad rd : Nat → Nat} {ln : LN} {ou : Nat} {fi : FI} {ar : AR} (h : va_D A1 (WC g ad rd ln fi ar)) (hA : ∀ q, A1 q → A q) (ho : ¬ A1 ou) (hAo : A ou) : ∀ (ln : LN) (fi : FI) (ar : AR) (fo : Nat → Int64), va_D A (WO g ad rd ln ou fi ar fo) := fun ln2 fi2 ar2 fo2 => by
  have h1 : va_D A1 (WC g ad rd ln2 fi2 ar2) := dCre h (fun _ h => h) ln2 fi2 ar2
  refine va_D.app (dCre h hA ln2 fi2 ar2) ⟨fun i j x y hi hj _ => ?_, fun k x hx => ?_⟩ (fun i j x y hx hy hxy => ?_)
  · have q1 := (List.getElem?_eq_some_iff.mp hi).1
    have q2 := (List.getElem?_eq_some_iff.mp hj).1
    simp only [List.length_cons, List.length_nil] at q1 q2
    omega
  · have q1 := (List.getElem?_eq_some_iff.mp hx).1
    simp only [List.length_cons, List.length_nil] at q1
    have h0 : k = 0 := by omega
    subst h0
    cases hx
    exact hAo
  · have q1 := (List.getElem?_eq_some_iff.mp hy).1
    simp only [List.length_cons, List.length_nil] at q1
    have h0 : j = 0 := by omega
    subst h0
    cases hy
    have h2 := h1.2 i x hx
    rw [hxy] at h2
    exact ho h2
def NcX (U : State) : Prop := ∀ a b : Nat, a < 4 → b < 4 → a ≠ b → va_Nc (exN a) (exN b) U
abbrev PO (g : GT) (ad rd : Nat → Nat) (ln : LN) (ou : Nat) (sz : Nat) (fi : FI) (ar : AR) (fo : Nat → Int64) : State → Prop := fun U => U.heap.size = sz ∧ va_P (gD g) vwCl (WO g ad rd ln ou fi ar fo) U.heap ∧ va_K (gD g) vwCl (tyl g) U ∧ va_D (fun _ => True) (WO g ad rd ln ou fi ar fo) ∧ EV g (AO ad rd ou sz) U U.heap ∧ EVX (AO ad rd ou sz) U U.heap ∧ NcX U
abbrev UO : Type := FI × AR × LN × (Nat → Nat) × (Nat → Int64)
abbrev BO (g : GT) (ad : Nat → Nat) (ou : Nat) (A : Nat → Prop) : UO → State → Prop := fun u t => va_P (gD g) vwCl (WO g ad u.2.2.2.1 u.2.2.1 ou u.1 u.2.1 u.2.2.2.2) t.heap ∧ va_D A (WO g ad u.2.2.2.1 u.2.2.1 ou u.1 u.2.1 u.2.2.2.2)
abbrev QO (g : GT) (ad : Nat → Nat) (ou : Nat) (A : Nat → Prop) (r : Int32 × (Nat → Int64)) (fi' : FI) (ar' : AR) (ln' : LN) : Array Value → State → Outcome → State → Prop := va_Qi (fun r' (u : UO) => r' = r.1 ∧ u.1 = fi' ∧ u.2.1 = ar' ∧ u.2.2.1 = ln' ∧ u.2.2.2.2 = r.2) (BO g ad ou A) A
section LLIB
variable {p : Program} {l : Launch} {e : Env} {R : Room} {s : State} {m : MethodId} {args : Array Value} {below : List Frame} {meth : Method} {c : Code} {H : Heap} {locs : List Loc} {cells slots : Nat} {Q : State → Prop}
variable {cc : ByteArray} {pc : Nat} {ls : Array Slot} {rest : List Value} {A : Nat → Prop} {g : GT} {ad rd : Nat → Nat} {ln ln' : LN} {fi fi' : FI} {ar ar' : AR} {index ou : Nat} {own : String} {fo : Nat → Int64}
theorem cXO_i {a : Nat} {y : MethodName} {bytes : ByteArray} {maxL nL n kc ks : Nat} {ret : Option FieldType} {rm : Room} {As st : List Value} {r : Int32 ⊕ Nat}
    (hx : p.tables.exec = Jvm.exec) (hb : c.code = cc) (hml : c.maxLocals = nL) (hT : ∀ w ∈ TBX, w.before args s = true) (hown : s.vm.findClass own = some m.cls) (hK : va_K (gD g) vwCl (tyl g) s) (hE : EV g A s s.heap) (hEX : EVX A s s.heap) (hD : ∀ (ln : LN) (fi : FI) (ar : AR) (fo : Nat → Int64), va_D A (WO g ad rd ln ou fi ar fo)) (hA : ∀ q : Nat, s.heap.size ≤ q → A q)
    (hP : va_P (gD g) vwCl (WO g ad rd ln ou fi ar fo) H) (hS : va_S A s.heap H locs) (hrc : ∃ cell : Cell, H[a]? = some cell ∧ cell.vm.isStatics = false ∧ s.vm.findClass RX10 = some cell.cls)
    (hM : vx_Met l y (wxX y bytes maxL ret) rm (va_Pc (.ref a :: As) (PX g ad rd ln H.size fi ar)) (QXi g ad (AC ad rd H.size) r fi' ar' ln') (XX g ad (AC ad rd H.size) r fi' ar' ln') kc ks (AC ad rd H.size))
    (hw : (Cond.instanceMethod y ∈ TB ∧ Cond.selects RX10 y y ∈ TB ∧ Cond.code y bytes maxL ret ∈ TB ∧ Cond.initialized RX10 ∈ TB) ∧ (y.cls = RX10 ∧ y.cls ≠ "java/lang/invoke/MethodHandle" ∧ y.cls ≠ "java/lang/invoke/VarHandle" ∧ (parseMethodDescriptor y.desc).map (fun d => d.parameters.length) = some n))
    (hl : Cond.methodLink own index y ∈ TB) (hR : (rm.cells = kc ∧ rm.slots = ks) ∧ rm.frames + 1 ≤ R.frames ∧ 8 + (maxL + 11) + rm.locals ≤ R.locals) (hn : As.length = n) (hls : ls.size = nL) (hst : st = As.reverse ++ .ref a :: rest) (hW : (rest.map fun v => v.category).sum ≤ 8)
    (hdg : decode cc pc = .ok (.invokevirtual index, 3)) (hcs : cells + kc ≤ R.cells ∧ slots + ks ≤ R.slots)
    (kx : ∀ (k : Nat) (ce : Cell) (q9 : Addr) (rd : Nat → Nat) (H : Heap) (locs : List Loc), r = .inr k → va_P (gD g) vwCl (WO g ad rd ln' ou fi' ar' fo) H → (∀ (ln : LN) (fi : FI) (ar : AR) (fo : Nat → Int64), va_D A (WO g ad rd ln ou fi ar fo)) → va_S A s.heap H locs → H[q9]? = some ce → ce.vm = .none → s.vm.findClass (exN k) = some ce.cls → vx_W p l e R s m args below meth c H locs (cells + kc) (slots + ks) Q (F0 m pc ls rest) q9)
    (kk : ∀ (v : Int32) (rd : Nat → Nat) (H : Heap) (locs : List Loc), r = .inl v → va_P (gD g) vwCl (WO g ad rd ln' ou fi' ar' fo) H → (∀ (ln : LN) (fi : FI) (ar : AR) (fo : Nat → Int64), va_D A (WO g ad rd ln ou fi ar fo)) → va_S A s.heap H locs → W p l e R s m args below meth c H locs (cells + kc) (slots + ks) Q (F0 m (pc + 3) ls (.int v :: rest))) : W p l e R s m args below meth c H locs cells slots Q (F0 m pc ls st) := by
  subst hst
  have hDc : ∀ (fi : FI) (ar : AR), va_D A (WC g ad rd ln fi ar) := fun fi ar => (hD ln fi ar fo).woc
  have hin := AC_in hDc hS.1 hA
  have hou := ou_out (hD ln fi ar fo) hP
  have hAo : A ou := (hD ln fi ar fo).2 40 _ wo_at
  have hnew : ∀ (rd2 : Nat → Nat) (H1 : Heap), va_P (gD g) vwCl (WC g ad rd2 ln' fi' ar') H1 → (∀ q : Nat, q < H.size → ¬ AC ad rd H.size q → H1[q]? = H[q]?) → va_P (gD g) vwCl (WO g ad rd2 ln' ou fi' ar' fo) H1 := fun rd2 H1 h1 h2 => va_P.app h1 (fun k q hk => by
    have q1 := (List.getElem?_eq_some_iff.mp hk).1
    simp only [List.length_cons, List.length_nil] at q1
    have h0 : k = 0 := by omega
    subst h0
    cases hk
    exact (hP 40 _ wo_at).kept (h2 ou hou.1 hou.2))
  refine vx_calli (vx_runV (Ts := TBX) (As := As) (rest := rest) ⟨hx, hb, hml, hown, hT⟩ hM (cwV n hT (fun w h => by
      rcases List.mem_append.mp h with h | h
      · have hi : w ∈ TB := by
          simp only [List.mem_cons, List.not_mem_nil, or_false] at h
          rcases h with rfl | rfl | rfl | rfl
          · exact hl
          · exact hw.1.1
          · exact hw.1.2.1
          · exact hw.1.2.2.2
        exact ⟨tbx0 _ hi, good_of_word (TB_good w hi)⟩
      · exact TBX_in1 hw.1.2.2.1 w h) rfl hR.1.1 hR.1.2 hw.2 hR.2) ⟨fun a U f mk q => ⟨q.1, ⟨q.2.1.1, q.2.1.2.1, va_K.moved (u := U) (U := U.calling f mk a) (Vm.Alike.refl U.vm) q.2.1.2.2.1, q.2.1.2.2.2.1, q.2.1.2.2.2.2.blind⟩, q.2.2.blind⟩, hrc, fun U hU hW => ⟨rfl, ⟨by rw [hU], by rw [hU]; exact hP.woc, va_K.moved hW.alike hK, dCt hDc fi ar, EV.call hE hS hin hU hW⟩, EVX.call hEX hS hin hU hW⟩⟩ rfl hn hls rfl (lv_room hW) hdg hcs) hS (fun q _ h => hin q h) hin (fun q _ h => hin q h) ?_ ?_
  · intro E ce q9 u t H1 locs1 ht hvm hw hB hz1 hk1 hS hcell hcv hcl
    obtain ⟨fi2, ar2, ln2, rd2⟩ := u
    dsimp only at hw hB
    obtain ⟨rfl, rfl, rfl⟩ := hw
    obtain ⟨⟨k2, hk2, rfl⟩, hP1, hD1⟩ := hB
    rw [ht] at hP1
    exact kx k2 ce q9 rd2 H1 locs1 hk2 (hnew rd2 H1 hP1 hk1) (dOnew hD1 hin hou.2 hAo) hS hcell hcv hcl
  · intro r1 u t H1 locs1 ht hvm hw hB hz1 hk1 hS
    obtain ⟨fi2, ar2, ln2, rd2⟩ := u
    dsimp only at hw hB
    obtain ⟨hv, rfl, rfl, rfl⟩ := hw
    obtain ⟨hP1, hD1⟩ := hB
    rw [ht] at hP1
    exact kk r1 rd2 H1 locs1 hv.symm (hnew rd2 H1 hP1 hk1) (dOnew hD1 hin hou.2 hAo) hS
theorem cXO_l {a : Nat} {y : MethodName} {bytes : ByteArray} {maxL nL n kc ks : Nat} {ret : Option FieldType} {rm : Room} {As st : List Value} {r : Int64 ⊕ Nat}
    (hx : p.tables.exec = Jvm.exec) (hb : c.code = cc) (hml : c.maxLocals = nL) (hT : ∀ w ∈ TBX, w.before args s = true) (hown : s.vm.findClass own = some m.cls) (hK : va_K (gD g) vwCl (tyl g) s) (hE : EV g A s s.heap) (hEX : EVX A s s.heap) (hD : ∀ (ln : LN) (fi : FI) (ar : AR) (fo : Nat → Int64), va_D A (WO g ad rd ln ou fi ar fo)) (hA : ∀ q : Nat, s.heap.size ≤ q → A q)
    (hP : va_P (gD g) vwCl (WO g ad rd ln ou fi ar fo) H) (hS : va_S A s.heap H locs) (hrc : ∃ cell : Cell, H[a]? = some cell ∧ cell.vm.isStatics = false ∧ s.vm.findClass RX10 = some cell.cls)
    (hM : vx_Met l y (wxX y bytes maxL ret) rm (va_Pc (.ref a :: As) (PX g ad rd ln H.size fi ar)) (QXl g ad (AC ad rd H.size) r fi' ar' ln') (XX g ad (AC ad rd H.size) r fi' ar' ln') kc ks (AC ad rd H.size))
    (hw : (Cond.instanceMethod y ∈ TB ∧ Cond.selects RX10 y y ∈ TB ∧ Cond.code y bytes maxL ret ∈ TB ∧ Cond.initialized RX10 ∈ TB) ∧ (y.cls = RX10 ∧ y.cls ≠ "java/lang/invoke/MethodHandle" ∧ y.cls ≠ "java/lang/invoke/VarHandle" ∧ (parseMethodDescriptor y.desc).map (fun d => d.parameters.length) = some n))
    (hl : Cond.methodLink own index y ∈ TB) (hR : (rm.cells = kc ∧ rm.slots = ks) ∧ rm.frames + 1 ≤ R.frames ∧ 8 + (maxL + 11) + rm.locals ≤ R.locals) (hn : As.length = n) (hls : ls.size = nL) (hst : st = As.reverse ++ .ref a :: rest) (hW : (rest.map fun v => v.category).sum ≤ 8)
    (hdg : decode cc pc = .ok (.invokevirtual index, 3)) (hcs : cells + kc ≤ R.cells ∧ slots + ks ≤ R.slots)
    (kx : ∀ (k : Nat) (ce : Cell) (q9 : Addr) (rd : Nat → Nat) (H : Heap) (locs : List Loc), r = .inr k → va_P (gD g) vwCl (WO g ad rd ln' ou fi' ar' fo) H → (∀ (ln : LN) (fi : FI) (ar : AR) (fo : Nat → Int64), va_D A (WO g ad rd ln ou fi ar fo)) → va_S A s.heap H locs → H[q9]? = some ce → ce.vm = .none → s.vm.findClass (exN k) = some ce.cls → vx_W p l e R s m args below meth c H locs (cells + kc) (slots + ks) Q (F0 m pc ls rest) q9)
    (kk : ∀ (v : Int64) (rd : Nat → Nat) (H : Heap) (locs : List Loc), r = .inl v → va_P (gD g) vwCl (WO g ad rd ln' ou fi' ar' fo) H → (∀ (ln : LN) (fi : FI) (ar : AR) (fo : Nat → Int64), va_D A (WO g ad rd ln ou fi ar fo)) → va_S A s.heap H locs → W p l e R s m args below meth c H locs (cells + kc) (slots + ks) Q (F0 m (pc + 3) ls (.long v :: rest))) : W p l e R s m args below meth c H locs cells slots Q (F0 m pc ls st) := by
  subst hst
  have hDc : ∀ (fi : FI) (ar : AR), va_D A (WC g ad rd ln fi ar) := fun fi ar => (hD ln fi ar fo).woc
  have hin := AC_in hDc hS.1 hA
  have hou := ou_out (hD ln fi ar fo) hP
  have hAo : A ou := (hD ln fi ar fo).2 40 _ wo_at
  have hnew : ∀ (rd2 : Nat → Nat) (H1 : Heap), va_P (gD g) vwCl (WC g ad rd2 ln' fi' ar') H1 → (∀ q : Nat, q < H.size → ¬ AC ad rd H.size q → H1[q]? = H[q]?) → va_P (gD g) vwCl (WO g ad rd2 ln' ou fi' ar' fo) H1 := fun rd2 H1 h1 h2 => va_P.app h1 (fun k q hk => by
    have q1 := (List.getElem?_eq_some_iff.mp hk).1
    simp only [List.length_cons, List.length_nil] at q1
    have h0 : k = 0 := by omega
    subst h0
    cases hk
    exact (hP 40 _ wo_at).kept (h2 ou hou.1 hou.2))
  refine vx_calll (vx_runV (Ts := TBX) (As := As) (rest := rest) ⟨hx, hb, hml, hown, hT⟩ hM (cwV n hT (fun w h => by
      rcases List.mem_append.mp h with h | h
      · have hi : w ∈ TB := by
          simp only [List.mem_cons, List.not_mem_nil, or_false] at h
          rcases h with rfl | rfl | rfl | rfl
          · exact hl
          · exact hw.1.1
          · exact hw.1.2.1
          · exact hw.1.2.2.2
        exact ⟨tbx0 _ hi, good_of_word (TB_good w hi)⟩
      · exact TBX_in1 hw.1.2.2.1 w h) rfl hR.1.1 hR.1.2 hw.2 hR.2) ⟨fun a U f mk q => ⟨q.1, ⟨q.2.1.1, q.2.1.2.1, va_K.moved (u := U) (U := U.calling f mk a) (Vm.Alike.refl U.vm) q.2.1.2.2.1, q.2.1.2.2.2.1, q.2.1.2.2.2.2.blind⟩, q.2.2.blind⟩, hrc, fun U hU hW => ⟨rfl, ⟨by rw [hU], by rw [hU]; exact hP.woc, va_K.moved hW.alike hK, dCt hDc fi ar, EV.call hE hS hin hU hW⟩, EVX.call hEX hS hin hU hW⟩⟩ rfl hn hls rfl (lv_room hW) hdg hcs) hS (fun q _ h => hin q h) hin (fun q _ h => hin q h) ?_ ?_
  · intro E ce q9 u t H1 locs1 ht hvm hw hB hz1 hk1 hS hcell hcv hcl
    obtain ⟨fi2, ar2, ln2, rd2⟩ := u
    dsimp only at hw hB
    obtain ⟨rfl, rfl, rfl⟩ := hw
    obtain ⟨⟨k2, hk2, rfl⟩, hP1, hD1⟩ := hB
    rw [ht] at hP1
    exact kx k2 ce q9 rd2 H1 locs1 hk2 (hnew rd2 H1 hP1 hk1) (dOnew hD1 hin hou.2 hAo) hS hcell hcv hcl
  · intro r1 u t H1 locs1 ht hvm hw hB hz1 hk1 hS
    obtain ⟨fi2, ar2, ln2, rd2⟩ := u
    dsimp only at hw hB
    obtain ⟨hv, rfl, rfl, rfl⟩ := hw
    obtain ⟨hP1, hD1⟩ := hB
    rw [ht] at hP1
    exact kk r1 rd2 H1 locs1 hv.symm (hnew rd2 H1 hP1 hk1) (dOnew hD1 hin hou.2 hAo) hS
theorem cXO_v {a : Nat} {y : MethodName} {bytes : ByteArray} {maxL nL n kc ks : Nat} {ret : Option FieldType} {rm : Room} {As st : List Value} {r : Unit ⊕ Nat}
    (hx : p.tables.exec = Jvm.exec) (hb : c.code = cc) (hml : c.maxLocals = nL) (hT : ∀ w ∈ TBX, w.before args s = true) (hown : s.vm.findClass own = some m.cls) (hK : va_K (gD g) vwCl (tyl g) s) (hE : EV g A s s.heap) (hEX : EVX A s s.heap) (hD : ∀ (ln : LN) (fi : FI) (ar : AR) (fo : Nat → Int64), va_D A (WO g ad rd ln ou fi ar fo)) (hA : ∀ q : Nat, s.heap.size ≤ q → A q)
    (hP : va_P (gD g) vwCl (WO g ad rd ln ou fi ar fo) H) (hS : va_S A s.heap H locs) (hrc : ∃ cell : Cell, H[a]? = some cell ∧ cell.vm.isStatics = false ∧ s.vm.findClass RX10 = some cell.cls)
    (hM : vx_Met l y (wxX y bytes maxL ret) rm (va_Pc (.ref a :: As) (PX g ad rd ln H.size fi ar)) (QXv g ad (AC ad rd H.size) r fi' ar' ln') (XX g ad (AC ad rd H.size) r fi' ar' ln') kc ks (AC ad rd H.size))
    (hw : (Cond.instanceMethod y ∈ TB ∧ Cond.selects RX10 y y ∈ TB ∧ Cond.code y bytes maxL ret ∈ TB ∧ Cond.initialized RX10 ∈ TB) ∧ (y.cls = RX10 ∧ y.cls ≠ "java/lang/invoke/MethodHandle" ∧ y.cls ≠ "java/lang/invoke/VarHandle" ∧ (parseMethodDescriptor y.desc).map (fun d => d.parameters.length) = some n))
    (hl : Cond.methodLink own index y ∈ TB) (hR : (rm.cells = kc ∧ rm.slots = ks) ∧ rm.frames + 1 ≤ R.frames ∧ 8 + (maxL + 11) + rm.locals ≤ R.locals) (hn : As.length = n) (hls : ls.size = nL) (hst : st = As.reverse ++ .ref a :: rest) (hW : (rest.map fun v => v.category).sum ≤ 8)
    (hdg : decode cc pc = .ok (.invokevirtual index, 3)) (hcs : cells + kc ≤ R.cells ∧ slots + ks ≤ R.slots)
    (kx : ∀ (k : Nat) (ce : Cell) (q9 : Addr) (rd : Nat → Nat) (H : Heap) (locs : List Loc), r = .inr k → va_P (gD g) vwCl (WO g ad rd ln' ou fi' ar' fo) H → (∀ (ln : LN) (fi : FI) (ar : AR) (fo : Nat → Int64), va_D A (WO g ad rd ln ou fi ar fo)) → va_S A s.heap H locs → H[q9]? = some ce → ce.vm = .none → s.vm.findClass (exN k) = some ce.cls → vx_W p l e R s m args below meth c H locs (cells + kc) (slots + ks) Q (F0 m pc ls rest) q9)
    (kk : ∀ (v : Unit) (rd : Nat → Nat) (H : Heap) (locs : List Loc), r = .inl v → va_P (gD g) vwCl (WO g ad rd ln' ou fi' ar' fo) H → (∀ (ln : LN) (fi : FI) (ar : AR) (fo : Nat → Int64), va_D A (WO g ad rd ln ou fi ar fo)) → va_S A s.heap H locs → W p l e R s m args below meth c H locs (cells + kc) (slots + ks) Q (F0 m (pc + 3) ls (rest))) : W p l e R s m args below meth c H locs cells slots Q (F0 m pc ls st) := by
  subst hst
  have hDc : ∀ (fi : FI) (ar : AR), va_D A (WC g ad rd ln fi ar) := fun fi ar => (hD ln fi ar fo).woc
  have hin := AC_in hDc hS.1 hA
  have hou := ou_out (hD ln fi ar fo) hP
  have hAo : A ou := (hD ln fi ar fo).2 40 _ wo_at
  have hnew : ∀ (rd2 : Nat → Nat) (H1 : Heap), va_P (gD g) vwCl (WC g ad rd2 ln' fi' ar') H1 → (∀ q : Nat, q < H.size → ¬ AC ad rd H.size q → H1[q]? = H[q]?) → va_P (gD g) vwCl (WO g ad rd2 ln' ou fi' ar' fo) H1 := fun rd2 H1 h1 h2 => va_P.app h1 (fun k q hk => by
    have q1 := (List.getElem?_eq_some_iff.mp hk).1
    simp only [List.length_cons, List.length_nil] at q1
    have h0 : k = 0 := by omega
    subst h0
    cases hk
    exact (hP 40 _ wo_at).kept (h2 ou hou.1 hou.2))
  refine vx_callv (vx_runV (Ts := TBX) (As := As) (rest := rest) ⟨hx, hb, hml, hown, hT⟩ hM (cwV n hT (fun w h => by
      rcases List.mem_append.mp h with h | h
      · have hi : w ∈ TB := by
          simp only [List.mem_cons, List.not_mem_nil, or_false] at h
          rcases h with rfl | rfl | rfl | rfl
          · exact hl
          · exact hw.1.1
          · exact hw.1.2.1
          · exact hw.1.2.2.2
        exact ⟨tbx0 _ hi, good_of_word (TB_good w hi)⟩
      · exact TBX_in1 hw.1.2.2.1 w h) rfl hR.1.1 hR.1.2 hw.2 hR.2) ⟨fun a U f mk q => ⟨q.1, ⟨q.2.1.1, q.2.1.2.1, va_K.moved (u := U) (U := U.calling f mk a) (Vm.Alike.refl U.vm) q.2.1.2.2.1, q.2.1.2.2.2.1, q.2.1.2.2.2.2.blind⟩, q.2.2.blind⟩, hrc, fun U hU hW => ⟨rfl, ⟨by rw [hU], by rw [hU]; exact hP.woc, va_K.moved hW.alike hK, dCt hDc fi ar, EV.call hE hS hin hU hW⟩, EVX.call hEX hS hin hU hW⟩⟩ rfl hn hls rfl (lv_room hW) hdg hcs) hS (fun q _ h => hin q h) hin (fun q _ h => hin q h) ?_ ?_
  · intro E ce q9 u t H1 locs1 ht hvm hw hB hz1 hk1 hS hcell hcv hcl
    obtain ⟨fi2, ar2, ln2, rd2⟩ := u
    dsimp only at hw hB
    obtain ⟨rfl, rfl, rfl⟩ := hw
    obtain ⟨⟨k2, hk2, rfl⟩, hP1, hD1⟩ := hB
    rw [ht] at hP1
    exact kx k2 ce q9 rd2 H1 locs1 hk2 (hnew rd2 H1 hP1 hk1) (dOnew hD1 hin hou.2 hAo) hS hcell hcv hcl
  · intro u t H1 locs1 ht hvm hw hB hz1 hk1 hS
    obtain ⟨fi2, ar2, ln2, rd2⟩ := u
    dsimp only at hw hB
    obtain ⟨hv, rfl, rfl, rfl⟩ := hw
    obtain ⟨hP1, hD1⟩ := hB
    rw [ht] at hP1
    exact kk () rd2 H1 locs1 hv.symm (hnew rd2 H1 hP1 hk1) (dOnew hD1 hin hou.2 hAo) hS
theorem rO {v : Int32} {r : Int32 × (Nat → Int64)} {a b kc ks : Nat} (hx : p.tables.exec = Jvm.exec) (hb : c.code = cc) (hr : meth.sig.returnType = some .int) (hlocks : meth.locks = false) (hF : some ((v, fo), fi, ar, ln, a, b) = some (r, fi', ar', ln', kc, ks)) (hP : va_P (gD g) vwCl (WO g ad rd ln ou fi ar fo) H) (hD : ∀ (ln : LN) (fi : FI) (ar : AR) (fo : Nat → Int64), va_D A (WO g ad rd ln ou fi ar fo)) (hS : va_S A s.heap H locs) (hdg : decode cc pc = .ok (.ireturn, 1)) : W p l e R s m args below meth c H locs cells slots (MQ below (QO g ad ou A r fi' ar' ln') args s cells slots A) (F0 m pc ls [.int v]) := by
  obtain ⟨h1, h2, h3, h4⟩ := ret6_of hF
  exact W.iret hx hb hr (fun t ht _ => ⟨⟨v, (fi, ar, ln, rd, fo), rfl, ⟨by rw [← h1], h2, h3, h4, by rw [← h1]⟩, by show va_P _ _ _ t.heap; rw [ht]; exact hP, hD ln fi ar fo⟩, hS.F ht⟩) hS.2.2 hdg hlocks
end LLIB
