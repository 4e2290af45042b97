def exN (k : Nat) : String := match k with
  | 0 => "java/lang/IllegalStateException"
  | 1 => "java/lang/IndexOutOfBoundsException"
  | 2 => "java/lang/IllegalArgumentException"
  | _ => "java/lang/UnsupportedOperationException"
abbrev TBX : List Cond := TB ++ ((vx_atS RX10 307 "java/lang/IllegalStateException" ["java/lang/RuntimeException", "java/lang/Exception"]).filter goodWord ++ ((vx_atS RX10 312 "java/lang/IndexOutOfBoundsException" ["java/lang/RuntimeException", "java/lang/Exception"]).filter goodWord ++ ((vx_atS RX10 110 "java/lang/IllegalArgumentException" ["java/lang/RuntimeException", "java/lang/Exception"]).filter goodWord ++ ((vx_atS RX10 254 "java/lang/UnsupportedOperationException" ["java/lang/RuntimeException", "java/lang/Exception"]).filter goodWord))))
theorem tbx0 : ∀ w ∈ TB, w ∈ TBX := fun _ h => List.mem_append_left _ h
theorem tbx1 : ∀ w ∈ (vx_atS RX10 307 "java/lang/IllegalStateException" ["java/lang/RuntimeException", "java/lang/Exception"]).filter goodWord, w ∈ TBX := fun _ h => List.mem_append_right _ (List.mem_append_left _ h)
theorem tbx2 : ∀ w ∈ (vx_atS RX10 312 "java/lang/IndexOutOfBoundsException" ["java/lang/RuntimeException", "java/lang/Exception"]).filter goodWord, w ∈ TBX := fun _ h => List.mem_append_right _ (List.mem_append_right _ (List.mem_append_left _ h))
theorem tbx3 : ∀ w ∈ (vx_atS RX10 110 "java/lang/IllegalArgumentException" ["java/lang/RuntimeException", "java/lang/Exception"]).filter goodWord, w ∈ TBX := fun _ h => List.mem_append_right _ (List.mem_append_right _ (List.mem_append_right _ (List.mem_append_left _ h)))
theorem tbx4 : ∀ w ∈ (vx_atS RX10 254 "java/lang/UnsupportedOperationException" ["java/lang/RuntimeException", "java/lang/Exception"]).filter goodWord, w ∈ TBX := fun _ h => List.mem_append_right _ (List.mem_append_right _ (List.mem_append_right _ (List.mem_append_right _ (h))))
theorem TBX_good : ∀ w ∈ TBX, goodWord w = true := tbG TB_good (tbG (fun w h => (List.mem_filter.mp h).2) (tbG (fun w h => (List.mem_filter.mp h).2) (tbG (fun w h => (List.mem_filter.mp h).2) (fun w h => (List.mem_filter.mp h).2))))
theorem TBX_in1 {d : Cond} (hd : d ∈ TB) : GoodIn TBX (d :: TBX) := fun w h => (List.mem_cons.mp h).elim (fun e => e ▸ ⟨tbx0 _ hd, good_of_word (TB_good d hd)⟩) (fun h => ⟨h, good_of_word (TBX_good w h)⟩)
abbrev wxX (y : MethodName) (b : ByteArray) (n : Nat) (r : Option FieldType) : List Cond := Cond.code y b n r :: TBX
/-- what a throw wants of the world outside: the two statics of Throwable, the texts -/
def EVX0 (A : Nat → Prop) (U : State) (H : Heap) : Prop := vx_Zq Bundle.tN "UNASSIGNED_STACK" Bundle.steD A U H ∧ vx_Zq Bundle.tN "SUPPRESSED_SENTINEL" Bundle.listD A U H ∧ (∃ sa : Nat, vk_R RX10 108 "no such volume or no label" sa U) ∧ (∃ sa : Nat, vk_R RX10 305 "no sound table volume" sa U) ∧ (∃ sa : Nat, vk_R RX10 310 "no such item here" sa U) ∧ (∃ sa : Nat, vk_R RX10 198 "no such thing to know" sa U) ∧ (∃ sa : Nat, vk_R RX10 212 "a file" sa U) ∧ (∃ sa : Nat, vk_R RX10 226 "no name, or one that is here" sa U) ∧ (∃ sa : Nat, vk_R RX10 236 "a short name that is here" sa U) ∧ (∃ sa : Nat, vk_R RX10 252 "no room" sa U) ∧ (∃ sa : Nat, vk_R RX10 313 "a directory" sa U) ∧ (∃ sa : Nat, vk_R RX10 276 "no such growth" sa U) ∧ (∃ sa : Nat, vk_R RX10 278 "no such size" sa U) ∧ (∃ sa : Nat, vk_R RX10 289 "a directory with items" sa U) ∧ (∃ sa : Nat, vk_R RX10 298 "no such stamp" sa U)
theorem EVX0.call {A B : Nat → Prop} {s U : State} {H : Heap} {locs : List Loc} (h : EVX0 A s s.heap) (hS : va_S A s.heap H locs) (hAB : ∀ q, B q → A q) (hU : U.heap = H) (hW : s.WarmedH U.vm) : EVX0 B U U.heap := by
  rw [hU]
  exact ⟨((h.1.kept hS.2.1).moved hW.alike).narrow hAB, ((h.2.1.kept hS.2.1).moved hW.alike).narrow hAB, h.2.2.1.imp (fun _ q => q.warm hW), h.2.2.2.1.imp (fun _ q => q.warm hW), h.2.2.2.2.1.imp (fun _ q => q.warm hW), h.2.2.2.2.2.1.imp (fun _ q => q.warm hW), h.2.2.2.2.2.2.1.imp (fun _ q => q.warm hW), h.2.2.2.2.2.2.2.1.imp (fun _ q => q.warm hW), h.2.2.2.2.2.2.2.2.1.imp (fun _ q => q.warm hW), h.2.2.2.2.2.2.2.2.2.1.imp (fun _ q => q.warm hW), h.2.2.2.2.2.2.2.2.2.2.1.imp (fun _ q => q.warm hW), h.2.2.2.2.2.2.2.2.2.2.2.1.imp (fun _ q => q.warm hW), h.2.2.2.2.2.2.2.2.2.2.2.2.1.imp (fun _ q => q.warm hW), h.2.2.2.2.2.2.2.2.2.2.2.2.2.1.imp (fun _ q => q.warm hW), h.2.2.2.2.2.2.2.2.2.2.2.2.2.2.imp (fun _ q => q.warm hW)⟩
theorem EVX0.blind {A : Nat → Prop} {U : State} {f : JFrame} {mk : MethodId} {a : Array Value} (h : EVX0 A U U.heap) : EVX0 A (U.calling f mk a) (U.calling f mk a).heap :=
  ⟨vx_Zq.moved (u := U) (U := U.calling f mk a) (Vm.Alike.refl U.vm) h.1, vx_Zq.moved (u := U) (U := U.calling f mk a) (Vm.Alike.refl U.vm) h.2.1, h.2.2.1.imp (fun _ q => q.same rfl), h.2.2.2.1.imp (fun _ q => q.same rfl), h.2.2.2.2.1.imp (fun _ q => q.same rfl), h.2.2.2.2.2.1.imp (fun _ q => q.same rfl), h.2.2.2.2.2.2.1.imp (fun _ q => q.same rfl), h.2.2.2.2.2.2.2.1.imp (fun _ q => q.same rfl), h.2.2.2.2.2.2.2.2.1.imp (fun _ q => q.same rfl), h.2.2.2.2.2.2.2.2.2.1.imp (fun _ q => q.same rfl), h.2.2.2.2.2.2.2.2.2.2.1.imp (fun _ q => q.same rfl), h.2.2.2.2.2.2.2.2.2.2.2.1.imp (fun _ q => q.same rfl), h.2.2.2.2.2.2.2.2.2.2.2.2.1.imp (fun _ q => q.same rfl), h.2.2.2.2.2.2.2.2.2.2.2.2.2.1.imp (fun _ q => q.same rfl), h.2.2.2.2.2.2.2.2.2.2.2.2.2.2.imp (fun _ q => q.same rfl)⟩
def CastX (U : State) : Prop := (Cond.castable "java/lang/IllegalStateException" "java/lang/IllegalStateException").before #[] U = true ∧ (Cond.castable "java/lang/IndexOutOfBoundsException" "java/lang/IndexOutOfBoundsException").before #[] U = true ∧ (Cond.castable "java/lang/IllegalArgumentException" "java/lang/IllegalArgumentException").before #[] U = true ∧ (Cond.castable "java/lang/UnsupportedOperationException" "java/lang/UnsupportedOperationException").before #[] U = true ∧ (Cond.declares (Bundle.initS "java/lang/RuntimeException")).before #[] U = true ∧ (Cond.declares (Bundle.initS "java/lang/Exception")).before #[] U = true ∧ (Cond.declares (Bundle.initS Bundle.tN)).before #[] U = true
theorem decl_moved {y : MethodName} {u U : State} (hvm : u.vm.Alike U.vm) (h : (Cond.declares y).before #[] u = true) : (Cond.declares y).before #[] U = true := by
  have e := Cond.onTables_vm (A := #[]) (A' := #[]) (U := u) (U' := U) U.vm (Cond.declares y) rfl
  have hU : U.setVm U.vm = U := rfl
  rw [hU] at e
  rw [← e, Cond.declares_setVm hvm]
  exact h
theorem cast_moved {C T : String} {u U : State} (hvm : u.vm.Alike U.vm) (h : (Cond.castable C T).before #[] u = true) : (Cond.castable C T).before #[] U = true := by
  have e := Cond.onTables_vm (A := #[]) (A' := #[]) (U := u) (U' := U) U.vm (Cond.castable C T) rfl
  have hU : U.setVm U.vm = U := rfl
  rw [hU] at e
  rw [← e, Cond.castable_setVm hvm]
  exact h
theorem CastX.moved {u U : State} (hvm : u.vm.Alike U.vm) (h : CastX u) : CastX U := ⟨cast_moved hvm h.1, cast_moved hvm h.2.1, cast_moved hvm h.2.2.1, cast_moved hvm h.2.2.2.1, decl_moved hvm h.2.2.2.2.1, decl_moved hvm h.2.2.2.2.2.1, decl_moved hvm h.2.2.2.2.2.2⟩
def EVX (A : Nat → Prop) (U : State) (H : Heap) : Prop := EVX0 A U H ∧ CastX U
theorem EVX.call {A B : Nat → Prop} {s U : State} {H : Heap} {locs : List Loc} (h : EVX A s s.heap) (hS : va_S A s.heap H locs) (hAB : ∀ q, B q → A q) (hU : U.heap = H) (hW : s.WarmedH U.vm) : EVX B U U.heap := ⟨h.1.call hS hAB hU hW, h.2.moved hW.alike⟩
theorem EVX.blind {A : Nat → Prop} {U : State} {f : JFrame} {mk : MethodId} {a : Array Value} (h : EVX A U U.heap) : EVX A (U.calling f mk a) (U.calling f mk a).heap := ⟨h.1.blind, CastX.moved (u := U) (U := U.calling f mk a) (Vm.Alike.refl U.vm) h.2⟩

theorem cost_of {R : Type} {v r : R} {fi fi' : FI} {ar ar' : AR} {ln ln' : LN} {a b kc ks : Nat} (h : some (v, fi, ar, ln, a, b) = some (r, fi', ar', ln', kc, ks)) : a = kc ∧ b = ks := by
  cases h
  exact ⟨rfl, rfl⟩
def sumc {α δ : Type} (r : α ⊕ Nat) (f : α → Option δ) (h : Nat → Option δ) : Option δ := match r with
  | .inl v => f v
  | .inr k => h k
theorem sumc_l {α δ : Type} {v : α} {f : α → Option δ} {h : Nat → Option δ} {o : Option δ} (e : sumc (.inl v) f h = o) : f v = o := e
theorem sumc_r {α δ : Type} {k : Nat} {f : α → Option δ} {h : Nat → Option δ} {o : Option δ} (e : sumc (.inr k) f h = o) : h k = o := e
abbrev PX (g : GT) (ad rd : Nat → Nat) (ln : LN) (sz : Nat) (fi : FI) (ar : AR) : State → Prop := fun U => PC g ad rd ln sz fi ar U ∧ EVX (AC ad rd sz) U U.heap
abbrev QXi (g : GT) (ad : Nat → Nat) (A : Nat → Prop) (r : Int32 ⊕ Nat) (fi' : FI) (ar' : AR) (ln' : LN) : Array Value → State → Outcome → State → Prop := va_Qi (fun r' (u : UA) => .inl r' = r ∧ u.1 = fi' ∧ u.2.1 = ar' ∧ u.2.2.1 = ln') (BA g ad A) A
abbrev QXl (g : GT) (ad : Nat → Nat) (A : Nat → Prop) (r : Int64 ⊕ Nat) (fi' : FI) (ar' : AR) (ln' : LN) : Array Value → State → Outcome → State → Prop := va_Ql (fun r' (u : UA) => .inl r' = r ∧ u.1 = fi' ∧ u.2.1 = ar' ∧ u.2.2.1 = ln') (BA g ad A) A
abbrev QXv (g : GT) (ad : Nat → Nat) (A : Nat → Prop) (r : Unit ⊕ Nat) (fi' : FI) (ar' : AR) (ln' : LN) : Array Value → State → Outcome → State → Prop := va_Qv (fun (u : UA) => .inl () = r ∧ u.1 = fi' ∧ u.2.1 = ar' ∧ u.2.2.1 = ln') (BA g ad A) A
abbrev XX {α : Type} (g : GT) (ad : Nat → Nat) (A : Nat → Prop) (r : α ⊕ Nat) (fi' : FI) (ar' : AR) (ln' : LN) : String → State → State → Prop := vx_X (fun (u : UA) => u.1 = fi' ∧ u.2.1 = ar' ∧ u.2.2.1 = ln') (fun E u t => (∃ k : Nat, r = .inr k ∧ E = exN k) ∧ BA g ad A u t) A
section XLIB
variable {p : Program} {l : Launch} {e : Env} {R : Room} {s : State} {m : MethodId} {args : Array Value} {below : List Frame} {meth : Method} {c : Code} {H : Heap} {locs : List Loc} {cells slots : Nat} {Q : State → Prop}
variable {cc : ByteArray} {pc : Nat} {ls : Array Slot} {rest : List Value} {A : Nat → Prop} {g : GT} {ad rd : Nat → Nat} {ln ln' : LN} {fi fi' : FI} {ar ar' : AR} {index : Nat} {own : String}
theorem cX_i {a : Nat} {y : MethodName} {bytes : ByteArray} {maxL nL n kc ks : Nat} {ret : Option FieldType} {rm : Room} {As st : List Value} {v : Int32}
    (hx : p.tables.exec = Jvm.exec) (hb : c.code = cc) (hml : c.maxLocals = nL) (hT : ∀ w ∈ TBX, w.before args s = true) (hown : s.vm.findClass own = some m.cls) (hK : va_K (gD g) vwCl (tyl g) s) (hE : EV g A s s.heap) (hEX : EVX A s s.heap) (hD : ∀ (ln : LN) (fi : FI) (ar : AR), va_D A (WC g ad rd ln fi ar)) (hA : ∀ q : Nat, s.heap.size ≤ q → A q)
    (hP : va_P (gD g) vwCl (WC g ad rd ln fi ar) H) (hS : va_S A s.heap H locs) (hrc : ∃ cell : Cell, H[a]? = some cell ∧ cell.vm.isStatics = false ∧ s.vm.findClass RX10 = some cell.cls)
    (hM : vx_Met l y (wxX y bytes maxL ret) rm (va_Pc (.ref a :: As) (PX g ad rd ln H.size fi ar)) (QXi g ad (AC ad rd H.size) (.inl v) fi' ar' ln') (XX (α := Int32) g ad (AC ad rd H.size) (.inl v) fi' ar' ln') kc ks (AC ad rd H.size))
    (hw : (Cond.instanceMethod y ∈ TB ∧ Cond.selects RX10 y y ∈ TB ∧ Cond.code y bytes maxL ret ∈ TB ∧ Cond.initialized RX10 ∈ TB) ∧ (y.cls = RX10 ∧ y.cls ≠ "java/lang/invoke/MethodHandle" ∧ y.cls ≠ "java/lang/invoke/VarHandle" ∧ (parseMethodDescriptor y.desc).map (fun d => d.parameters.length) = some n))
    (hl : Cond.methodLink own index y ∈ TB) (hR : (rm.cells = kc ∧ rm.slots = ks) ∧ rm.frames + 1 ≤ R.frames ∧ 8 + (maxL + 11) + rm.locals ≤ R.locals) (hn : As.length = n) (hls : ls.size = nL) (hst : st = As.reverse ++ .ref a :: rest) (hW : (rest.map fun v => v.category).sum ≤ 8)
    (hdg : decode cc pc = .ok (.invokevirtual index, 3)) (hcs : cells + kc ≤ R.cells ∧ slots + ks ≤ R.slots)
    (kk : ∀ (rd : Nat → Nat) (H : Heap) (locs : List Loc), va_P (gD g) vwCl (WC g ad rd ln' fi' ar') H → (∀ (ln : LN) (fi : FI) (ar : AR), va_D A (WC g ad rd ln fi ar)) → va_S A s.heap H locs → W p l e R s m args below meth c H locs (cells + kc) (slots + ks) Q (F0 m (pc + 3) ls (.int v :: rest))) : W p l e R s m args below meth c H locs cells slots Q (F0 m pc ls st) := by
  subst hst
  have hin := AC_in (hD ln) hS.1 hA
  refine vx_calli (vx_runV (Ts := TBX) (As := As) (rest := rest) ⟨hx, hb, hml, hown, hT⟩ hM (cwV n hT (fun w h => by
      rcases List.mem_append.mp h with h | h
      · have hi : w ∈ TB := by
          simp only [List.mem_cons, List.not_mem_nil, or_false] at h
          rcases h with rfl | rfl | rfl | rfl
          · exact hl
          · exact hw.1.1
          · exact hw.1.2.1
          · exact hw.1.2.2.2
        exact ⟨tbx0 _ hi, good_of_word (TB_good w hi)⟩
      · exact TBX_in1 hw.1.2.2.1 w h) rfl hR.1.1 hR.1.2 hw.2 hR.2) ⟨fun a U f mk q => ⟨q.1, ⟨q.2.1.1, q.2.1.2.1, va_K.moved (u := U) (U := U.calling f mk a) (Vm.Alike.refl U.vm) q.2.1.2.2.1, q.2.1.2.2.2.1, q.2.1.2.2.2.2.blind⟩, q.2.2.blind⟩, hrc, fun U hU hW => ⟨rfl, ⟨by rw [hU], by rw [hU]; exact hP, va_K.moved hW.alike hK, dCt (hD ln) fi ar, EV.call hE hS hin hU hW⟩, EVX.call hEX hS hin hU hW⟩⟩ rfl hn hls rfl (lv_room hW) hdg hcs) hS (fun q _ h => hin q h) hin (fun q _ h => hin q h) ?_ ?_
  · intro E ce q9 u t H1 locs1 ht hvm hw hB
    obtain ⟨⟨k, hk, -⟩, -⟩ := hB
    cases hk
  · intro r1 u t H1 locs1 ht hvm hw hB hz1 hk1 hS
    obtain ⟨fi2, ar2, ln2, rd2⟩ := u
    dsimp only at hw hB
    obtain ⟨hv, rfl, rfl, rfl⟩ := hw
    obtain ⟨hP1, hD1⟩ := hB
    rw [ht] at hP1
    cases hv
    exact kk rd2 H1 locs1 hP1 (dCre hD1 hin) hS
theorem cX_it {a : Nat} {y : MethodName} {bytes : ByteArray} {maxL nL n kc ks k : Nat} {ret : Option FieldType} {rm : Room} {As st : List Value} {KC KS : Nat} {Qc : Array Value → State → Outcome → State → Prop} {XC : String → State → State → Prop}
    (hx : p.tables.exec = Jvm.exec) (hb : c.code = cc) (hml : c.maxLocals = nL) (hT : ∀ w ∈ TBX, w.before args s = true) (hown : s.vm.findClass own = some m.cls) (hK : va_K (gD g) vwCl (tyl g) s) (hE : EV g A s s.heap) (hEX : EVX A s s.heap) (hD : ∀ (ln : LN) (fi : FI) (ar : AR), va_D A (WC g ad rd ln fi ar)) (hA : ∀ q : Nat, s.heap.size ≤ q → A q)
    (hP : va_P (gD g) vwCl (WC g ad rd ln fi ar) H) (hS : va_S A s.heap H locs) (hrc : ∃ cell : Cell, H[a]? = some cell ∧ cell.vm.isStatics = false ∧ s.vm.findClass RX10 = some cell.cls)
    (hM : vx_Met l y (wxX y bytes maxL ret) rm (va_Pc (.ref a :: As) (PX g ad rd ln H.size fi ar)) (QXi g ad (AC ad rd H.size) (.inr k) fi' ar' ln') (XX (α := Int32) g ad (AC ad rd H.size) (.inr k) fi' ar' ln') kc ks (AC ad rd H.size))
    (hw : (Cond.instanceMethod y ∈ TB ∧ Cond.selects RX10 y y ∈ TB ∧ Cond.code y bytes maxL ret ∈ TB ∧ Cond.initialized RX10 ∈ TB) ∧ (y.cls = RX10 ∧ y.cls ≠ "java/lang/invoke/MethodHandle" ∧ y.cls ≠ "java/lang/invoke/VarHandle" ∧ (parseMethodDescriptor y.desc).map (fun d => d.parameters.length) = some n))
    (hl : Cond.methodLink own index y ∈ TB) (hR : (rm.cells = kc ∧ rm.slots = ks) ∧ rm.frames + 1 ≤ R.frames ∧ 8 + (maxL + 11) + rm.locals ≤ R.locals) (hn : As.length = n) (hls : ls.size = nL) (hst : st = As.reverse ++ .ref a :: rest) (hW : (rest.map fun v => v.category).sum ≤ 8)
    (hdg : decode cc pc = .ok (.invokevirtual index, 3)) (hcs : cells + kc ≤ R.cells ∧ slots + ks ≤ R.slots)
    (kk : (∀ x ∈ c.exceptionTable.toList, False) ∧ meth.locks = false ∧ cells + kc ≤ KC ∧ slots + ks ≤ KS ∧ ∀ (rd : Nat → Nat) (H : Heap) (locs : List Loc) (t : State), t.heap = H → va_P (gD g) vwCl (WC g ad rd ln' fi' ar') H → (∀ (ln : LN) (fi : FI) (ar : AR), va_D A (WC g ad rd ln fi ar)) → va_S A s.heap H locs → XC (exN k) s t) : W p l e R s m args below meth c H locs cells slots (vx_MQ below Qc XC args s KC KS A) (F0 m pc ls st) := by
  subst hst
  have hin := AC_in (hD ln) hS.1 hA
  refine vx_calli (vx_runV (Ts := TBX) (As := As) (rest := rest) ⟨hx, hb, hml, hown, hT⟩ hM (cwV n hT (fun w h => by
      rcases List.mem_append.mp h with h | h
      · have hi : w ∈ TB := by
          simp only [List.mem_cons, List.not_mem_nil, or_false] at h
          rcases h with rfl | rfl | rfl | rfl
          · exact hl
          · exact hw.1.1
          · exact hw.1.2.1
          · exact hw.1.2.2.2
        exact ⟨tbx0 _ hi, good_of_word (TB_good w hi)⟩
      · exact TBX_in1 hw.1.2.2.1 w h) rfl hR.1.1 hR.1.2 hw.2 hR.2) ⟨fun a U f mk q => ⟨q.1, ⟨q.2.1.1, q.2.1.2.1, va_K.moved (u := U) (U := U.calling f mk a) (Vm.Alike.refl U.vm) q.2.1.2.2.1, q.2.1.2.2.2.1, q.2.1.2.2.2.2.blind⟩, q.2.2.blind⟩, hrc, fun U hU hW => ⟨rfl, ⟨by rw [hU], by rw [hU]; exact hP, va_K.moved hW.alike hK, dCt (hD ln) fi ar, EV.call hE hS hin hU hW⟩, EVX.call hEX hS hin hU hW⟩⟩ rfl hn hls rfl (lv_room hW) hdg hcs) hS (fun q _ h => hin q h) hin (fun q _ h => hin q h) ?_ ?_
  · intro E ce q9 u t H1 locs1 ht hvm hw hB hz1 hk1 hS hcell hcv hcl
    obtain ⟨fi2, ar2, ln2, rd2⟩ := u
    dsimp only at hw hB
    obtain ⟨rfl, rfl, rfl⟩ := hw
    obtain ⟨⟨k2, hk2, rfl⟩, hP1, hD1⟩ := hB
    cases hk2
    rw [ht] at hP1
    exact vx_out (fun x hx => (kk.1 x hx).elim) kk.2.1 hcell hcv hcl (fun t2 ht2 _ => kk.2.2.2.2 rd2 H1 locs1 t2 ht2 hP1 (dCre hD1 hin) hS) hS.2.2 kk.2.2.1 kk.2.2.2.1
  · intro r1 u t H1 locs1 ht hvm hw
    cases hw.1
theorem cX_l {a : Nat} {y : MethodName} {bytes : ByteArray} {maxL nL n kc ks : Nat} {ret : Option FieldType} {rm : Room} {As st : List Value} {v : Int64}
    (hx : p.tables.exec = Jvm.exec) (hb : c.code = cc) (hml : c.maxLocals = nL) (hT : ∀ w ∈ TBX, w.before args s = true) (hown : s.vm.findClass own = some m.cls) (hK : va_K (gD g) vwCl (tyl g) s) (hE : EV g A s s.heap) (hEX : EVX A s s.heap) (hD : ∀ (ln : LN) (fi : FI) (ar : AR), va_D A (WC g ad rd ln fi ar)) (hA : ∀ q : Nat, s.heap.size ≤ q → A q)
    (hP : va_P (gD g) vwCl (WC g ad rd ln fi ar) H) (hS : va_S A s.heap H locs) (hrc : ∃ cell : Cell, H[a]? = some cell ∧ cell.vm.isStatics = false ∧ s.vm.findClass RX10 = some cell.cls)
    (hM : vx_Met l y (wxX y bytes maxL ret) rm (va_Pc (.ref a :: As) (PX g ad rd ln H.size fi ar)) (QXl g ad (AC ad rd H.size) (.inl v) fi' ar' ln') (XX (α := Int64) g ad (AC ad rd H.size) (.inl v) fi' ar' ln') kc ks (AC ad rd H.size))
    (hw : (Cond.instanceMethod y ∈ TB ∧ Cond.selects RX10 y y ∈ TB ∧ Cond.code y bytes maxL ret ∈ TB ∧ Cond.initialized RX10 ∈ TB) ∧ (y.cls = RX10 ∧ y.cls ≠ "java/lang/invoke/MethodHandle" ∧ y.cls ≠ "java/lang/invoke/VarHandle" ∧ (parseMethodDescriptor y.desc).map (fun d => d.parameters.length) = some n))
    (hl : Cond.methodLink own index y ∈ TB) (hR : (rm.cells = kc ∧ rm.slots = ks) ∧ rm.frames + 1 ≤ R.frames ∧ 8 + (maxL + 11) + rm.locals ≤ R.locals) (hn : As.length = n) (hls : ls.size = nL) (hst : st = As.reverse ++ .ref a :: rest) (hW : (rest.map fun v => v.category).sum ≤ 8)
    (hdg : decode cc pc = .ok (.invokevirtual index, 3)) (hcs : cells + kc ≤ R.cells ∧ slots + ks ≤ R.slots)
    (kk : ∀ (rd : Nat → Nat) (H : Heap) (locs : List Loc), va_P (gD g) vwCl (WC g ad rd ln' fi' ar') H → (∀ (ln : LN) (fi : FI) (ar : AR), va_D A (WC g ad rd ln fi ar)) → va_S A s.heap H locs → W p l e R s m args below meth c H locs (cells + kc) (slots + ks) Q (F0 m (pc + 3) ls (.long v :: rest))) : W p l e R s m args below meth c H locs cells slots Q (F0 m pc ls st) := by
  subst hst
  have hin := AC_in (hD ln) hS.1 hA
  refine vx_calll (vx_runV (Ts := TBX) (As := As) (rest := rest) ⟨hx, hb, hml, hown, hT⟩ hM (cwV n hT (fun w h => by
      rcases List.mem_append.mp h with h | h
      · have hi : w ∈ TB := by
          simp only [List.mem_cons, List.not_mem_nil, or_false] at h
          rcases h with rfl | rfl | rfl | rfl
          · exact hl
          · exact hw.1.1
          · exact hw.1.2.1
          · exact hw.1.2.2.2
        exact ⟨tbx0 _ hi, good_of_word (TB_good w hi)⟩
      · exact TBX_in1 hw.1.2.2.1 w h) rfl hR.1.1 hR.1.2 hw.2 hR.2) ⟨fun a U f mk q => ⟨q.1, ⟨q.2.1.1, q.2.1.2.1, va_K.moved (u := U) (U := U.calling f mk a) (Vm.Alike.refl U.vm) q.2.1.2.2.1, q.2.1.2.2.2.1, q.2.1.2.2.2.2.blind⟩, q.2.2.blind⟩, hrc, fun U hU hW => ⟨rfl, ⟨by rw [hU], by rw [hU]; exact hP, va_K.moved hW.alike hK, dCt (hD ln) fi ar, EV.call hE hS hin hU hW⟩, EVX.call hEX hS hin hU hW⟩⟩ rfl hn hls rfl (lv_room hW) hdg hcs) hS (fun q _ h => hin q h) hin (fun q _ h => hin q h) ?_ ?_
  · intro E ce q9 u t H1 locs1 ht hvm hw hB
    obtain ⟨⟨k, hk, -⟩, -⟩ := hB
    cases hk
  · intro r1 u t H1 locs1 ht hvm hw hB hz1 hk1 hS
    obtain ⟨fi2, ar2, ln2, rd2⟩ := u
    dsimp only at hw hB
    obtain ⟨hv, rfl, rfl, rfl⟩ := hw
    obtain ⟨hP1, hD1⟩ := hB
    rw [ht] at hP1
    cases hv
    exact kk rd2 H1 locs1 hP1 (dCre hD1 hin) hS
theorem cX_lt {a : Nat} {y : MethodName} {bytes : ByteArray} {maxL nL n kc ks k : Nat} {ret : Option FieldType} {rm : Room} {As st : List Value} {KC KS : Nat} {Qc : Array Value → State → Outcome → State → Prop} {XC : String → State → State → Prop}
    (hx : p.tables.exec = Jvm.exec) (hb : c.code = cc) (hml : c.maxLocals = nL) (hT : ∀ w ∈ TBX, w.before args s = true) (hown : s.vm.findClass own = some m.cls) (hK : va_K (gD g) vwCl (tyl g) s) (hE : EV g A s s.heap) (hEX : EVX A s s.heap) (hD : ∀ (ln : LN) (fi : FI) (ar : AR), va_D A (WC g ad rd ln fi ar)) (hA : ∀ q : Nat, s.heap.size ≤ q → A q)
    (hP : va_P (gD g) vwCl (WC g ad rd ln fi ar) H) (hS : va_S A s.heap H locs) (hrc : ∃ cell : Cell, H[a]? = some cell ∧ cell.vm.isStatics = false ∧ s.vm.findClass RX10 = some cell.cls)
    (hM : vx_Met l y (wxX y bytes maxL ret) rm (va_Pc (.ref a :: As) (PX g ad rd ln H.size fi ar)) (QXl g ad (AC ad rd H.size) (.inr k) fi' ar' ln') (XX (α := Int64) g ad (AC ad rd H.size) (.inr k) fi' ar' ln') kc ks (AC ad rd H.size))
    (hw : (Cond.instanceMethod y ∈ TB ∧ Cond.selects RX10 y y ∈ TB ∧ Cond.code y bytes maxL ret ∈ TB ∧ Cond.initialized RX10 ∈ TB) ∧ (y.cls = RX10 ∧ y.cls ≠ "java/lang/invoke/MethodHandle" ∧ y.cls ≠ "java/lang/invoke/VarHandle" ∧ (parseMethodDescriptor y.desc).map (fun d => d.parameters.length) = some n))
    (hl : Cond.methodLink own index y ∈ TB) (hR : (rm.cells = kc ∧ rm.slots = ks) ∧ rm.frames + 1 ≤ R.frames ∧ 8 + (maxL + 11) + rm.locals ≤ R.locals) (hn : As.length = n) (hls : ls.size = nL) (hst : st = As.reverse ++ .ref a :: rest) (hW : (rest.map fun v => v.category).sum ≤ 8)
    (hdg : decode cc pc = .ok (.invokevirtual index, 3)) (hcs : cells + kc ≤ R.cells ∧ slots + ks ≤ R.slots)
    (kk : (∀ x ∈ c.exceptionTable.toList, False) ∧ meth.locks = false ∧ cells + kc ≤ KC ∧ slots + ks ≤ KS ∧ ∀ (rd : Nat → Nat) (H : Heap) (locs : List Loc) (t : State), t.heap = H → va_P (gD g) vwCl (WC g ad rd ln' fi' ar') H → (∀ (ln : LN) (fi : FI) (ar : AR), va_D A (WC g ad rd ln fi ar)) → va_S A s.heap H locs → XC (exN k) s t) : W p l e R s m args below meth c H locs cells slots (vx_MQ below Qc XC args s KC KS A) (F0 m pc ls st) := by
  subst hst
  have hin := AC_in (hD ln) hS.1 hA
  refine vx_calll (vx_runV (Ts := TBX) (As := As) (rest := rest) ⟨hx, hb, hml, hown, hT⟩ hM (cwV n hT (fun w h => by
      rcases List.mem_append.mp h with h | h
      · have hi : w ∈ TB := by
          simp only [List.mem_cons, List.not_mem_nil, or_false] at h
          rcases h with rfl | rfl | rfl | rfl
          · exact hl
          · exact hw.1.1
          · exact hw.1.2.1
          · exact hw.1.2.2.2
        exact ⟨tbx0 _ hi, good_of_word (TB_good w hi)⟩
      · exact TBX_in1 hw.1.2.2.1 w h) rfl hR.1.1 hR.1.2 hw.2 hR.2) ⟨fun a U f mk q => ⟨q.1, ⟨q.2.1.1, q.2.1.2.1, va_K.moved (u := U) (U := U.calling f mk a) (Vm.Alike.refl U.vm) q.2.1.2.2.1, q.2.1.2.2.2.1, q.2.1.2.2.2.2.blind⟩, q.2.2.blind⟩, hrc, fun U hU hW => ⟨rfl, ⟨by rw [hU], by rw [hU]; exact hP, va_K.moved hW.alike hK, dCt (hD ln) fi ar, EV.call hE hS hin hU hW⟩, EVX.call hEX hS hin hU hW⟩⟩ rfl hn hls rfl (lv_room hW) hdg hcs) hS (fun q _ h => hin q h) hin (fun q _ h => hin q h) ?_ ?_
  · intro E ce q9 u t H1 locs1 ht hvm hw hB hz1 hk1 hS hcell hcv hcl
    obtain ⟨fi2, ar2, ln2, rd2⟩ := u
    dsimp only at hw hB
    obtain ⟨rfl, rfl, rfl⟩ := hw
    obtain ⟨⟨k2, hk2, rfl⟩, hP1, hD1⟩ := hB
    cases hk2
    rw [ht] at hP1
    exact vx_out (fun x hx => (kk.1 x hx).elim) kk.2.1 hcell hcv hcl (fun t2 ht2 _ => kk.2.2.2.2 rd2 H1 locs1 t2 ht2 hP1 (dCre hD1 hin) hS) hS.2.2 kk.2.2.1 kk.2.2.2.1
  · intro r1 u t H1 locs1 ht hvm hw
    cases hw.1
theorem cX_v {a : Nat} {y : MethodName} {bytes : ByteArray} {maxL nL n kc ks : Nat} {ret : Option FieldType} {rm : Room} {As st : List Value}
    (hx : p.tables.exec = Jvm.exec) (hb : c.code = cc) (hml : c.maxLocals = nL) (hT : ∀ w ∈ TBX, w.before args s = true) (hown : s.vm.findClass own = some m.cls) (hK : va_K (gD g) vwCl (tyl g) s) (hE : EV g A s s.heap) (hEX : EVX A s s.heap) (hD : ∀ (ln : LN) (fi : FI) (ar : AR), va_D A (WC g ad rd ln fi ar)) (hA : ∀ q : Nat, s.heap.size ≤ q → A q)
    (hP : va_P (gD g) vwCl (WC g ad rd ln fi ar) H) (hS : va_S A s.heap H locs) (hrc : ∃ cell : Cell, H[a]? = some cell ∧ cell.vm.isStatics = false ∧ s.vm.findClass RX10 = some cell.cls)
    (hM : vx_Met l y (wxX y bytes maxL ret) rm (va_Pc (.ref a :: As) (PX g ad rd ln H.size fi ar)) (QXv g ad (AC ad rd H.size) (.inl ()) fi' ar' ln') (XX (α := Unit) g ad (AC ad rd H.size) (.inl ()) fi' ar' ln') kc ks (AC ad rd H.size))
    (hw : (Cond.instanceMethod y ∈ TB ∧ Cond.selects RX10 y y ∈ TB ∧ Cond.code y bytes maxL ret ∈ TB ∧ Cond.initialized RX10 ∈ TB) ∧ (y.cls = RX10 ∧ y.cls ≠ "java/lang/invoke/MethodHandle" ∧ y.cls ≠ "java/lang/invoke/VarHandle" ∧ (parseMethodDescriptor y.desc).map (fun d => d.parameters.length) = some n))
    (hl : Cond.methodLink own index y ∈ TB) (hR : (rm.cells = kc ∧ rm.slots = ks) ∧ rm.frames + 1 ≤ R.frames ∧ 8 + (maxL + 11) + rm.locals ≤ R.locals) (hn : As.length = n) (hls : ls.size = nL) (hst : st = As.reverse ++ .ref a :: rest) (hW : (rest.map fun v => v.category).sum ≤ 8)
    (hdg : decode cc pc = .ok (.invokevirtual index, 3)) (hcs : cells + kc ≤ R.cells ∧ slots + ks ≤ R.slots)
    (kk : ∀ (rd : Nat → Nat) (H : Heap) (locs : List Loc), va_P (gD g) vwCl (WC g ad rd ln' fi' ar') H → (∀ (ln : LN) (fi : FI) (ar : AR), va_D A (WC g ad rd ln fi ar)) → va_S A s.heap H locs → W p l e R s m args below meth c H locs (cells + kc) (slots + ks) Q (F0 m (pc + 3) ls (rest))) : W p l e R s m args below meth c H locs cells slots Q (F0 m pc ls st) := by
  subst hst
  have hin := AC_in (hD ln) hS.1 hA
  refine vx_callv (vx_runV (Ts := TBX) (As := As) (rest := rest) ⟨hx, hb, hml, hown, hT⟩ hM (cwV n hT (fun w h => by
      rcases List.mem_append.mp h with h | h
      · have hi : w ∈ TB := by
          simp only [List.mem_cons, List.not_mem_nil, or_false] at h
          rcases h with rfl | rfl | rfl | rfl
          · exact hl
          · exact hw.1.1
          · exact hw.1.2.1
          · exact hw.1.2.2.2
        exact ⟨tbx0 _ hi, good_of_word (TB_good w hi)⟩
      · exact TBX_in1 hw.1.2.2.1 w h) rfl hR.1.1 hR.1.2 hw.2 hR.2) ⟨fun a U f mk q => ⟨q.1, ⟨q.2.1.1, q.2.1.2.1, va_K.moved (u := U) (U := U.calling f mk a) (Vm.Alike.refl U.vm) q.2.1.2.2.1, q.2.1.2.2.2.1, q.2.1.2.2.2.2.blind⟩, q.2.2.blind⟩, hrc, fun U hU hW => ⟨rfl, ⟨by rw [hU], by rw [hU]; exact hP, va_K.moved hW.alike hK, dCt (hD ln) fi ar, EV.call hE hS hin hU hW⟩, EVX.call hEX hS hin hU hW⟩⟩ rfl hn hls rfl (lv_room hW) hdg hcs) hS (fun q _ h => hin q h) hin (fun q _ h => hin q h) ?_ ?_
  · intro E ce q9 u t H1 locs1 ht hvm hw hB
    obtain ⟨⟨k, hk, -⟩, -⟩ := hB
    cases hk
  · intro u t H1 locs1 ht hvm hw hB hz1 hk1 hS
    obtain ⟨fi2, ar2, ln2, rd2⟩ := u
    dsimp only at hw hB
    obtain ⟨-, rfl, rfl, rfl⟩ := hw
    obtain ⟨hP1, hD1⟩ := hB
    rw [ht] at hP1
    exact kk rd2 H1 locs1 hP1 (dCre hD1 hin) hS
theorem cX_vt {a : Nat} {y : MethodName} {bytes : ByteArray} {maxL nL n kc ks k : Nat} {ret : Option FieldType} {rm : Room} {As st : List Value} {KC KS : Nat} {Qc : Array Value → State → Outcome → State → Prop} {XC : String → State → State → Prop}
    (hx : p.tables.exec = Jvm.exec) (hb : c.code = cc) (hml : c.maxLocals = nL) (hT : ∀ w ∈ TBX, w.before args s = true) (hown : s.vm.findClass own = some m.cls) (hK : va_K (gD g) vwCl (tyl g) s) (hE : EV g A s s.heap) (hEX : EVX A s s.heap) (hD : ∀ (ln : LN) (fi : FI) (ar : AR), va_D A (WC g ad rd ln fi ar)) (hA : ∀ q : Nat, s.heap.size ≤ q → A q)
    (hP : va_P (gD g) vwCl (WC g ad rd ln fi ar) H) (hS : va_S A s.heap H locs) (hrc : ∃ cell : Cell, H[a]? = some cell ∧ cell.vm.isStatics = false ∧ s.vm.findClass RX10 = some cell.cls)
    (hM : vx_Met l y (wxX y bytes maxL ret) rm (va_Pc (.ref a :: As) (PX g ad rd ln H.size fi ar)) (QXv g ad (AC ad rd H.size) (.inr k) fi' ar' ln') (XX (α := Unit) g ad (AC ad rd H.size) (.inr k) fi' ar' ln') kc ks (AC ad rd H.size))
    (hw : (Cond.instanceMethod y ∈ TB ∧ Cond.selects RX10 y y ∈ TB ∧ Cond.code y bytes maxL ret ∈ TB ∧ Cond.initialized RX10 ∈ TB) ∧ (y.cls = RX10 ∧ y.cls ≠ "java/lang/invoke/MethodHandle" ∧ y.cls ≠ "java/lang/invoke/VarHandle" ∧ (parseMethodDescriptor y.desc).map (fun d => d.parameters.length) = some n))
    (hl : Cond.methodLink own index y ∈ TB) (hR : (rm.cells = kc ∧ rm.slots = ks) ∧ rm.frames + 1 ≤ R.frames ∧ 8 + (maxL + 11) + rm.locals ≤ R.locals) (hn : As.length = n) (hls : ls.size = nL) (hst : st = As.reverse ++ .ref a :: rest) (hW : (rest.map fun v => v.category).sum ≤ 8)
    (hdg : decode cc pc = .ok (.invokevirtual index, 3)) (hcs : cells + kc ≤ R.cells ∧ slots + ks ≤ R.slots)
    (kk : (∀ x ∈ c.exceptionTable.toList, False) ∧ meth.locks = false ∧ cells + kc ≤ KC ∧ slots + ks ≤ KS ∧ ∀ (rd : Nat → Nat) (H : Heap) (locs : List Loc) (t : State), t.heap = H → va_P (gD g) vwCl (WC g ad rd ln' fi' ar') H → (∀ (ln : LN) (fi : FI) (ar : AR), va_D A (WC g ad rd ln fi ar)) → va_S A s.heap H locs → XC (exN k) s t) : W p l e R s m args below meth c H locs cells slots (vx_MQ below Qc XC args s KC KS A) (F0 m pc ls st) := by
  subst hst
  have hin := AC_in (hD ln) hS.1 hA
  refine vx_callv (vx_runV (Ts := TBX) (As := As) (rest := rest) ⟨hx, hb, hml, hown, hT⟩ hM (cwV n hT (fun w h => by
      rcases List.mem_append.mp h with h | h
      · have hi : w ∈ TB := by
          simp only [List.mem_cons, List.not_mem_nil, or_false] at h
          rcases h with rfl | rfl | rfl | rfl
          · exact hl
          · exact hw.1.1
          · exact hw.1.2.1
          · exact hw.1.2.2.2
        exact ⟨tbx0 _ hi, good_of_word (TB_good w hi)⟩
      · exact TBX_in1 hw.1.2.2.1 w h) rfl hR.1.1 hR.1.2 hw.2 hR.2) ⟨fun a U f mk q => ⟨q.1, ⟨q.2.1.1, q.2.1.2.1, va_K.moved (u := U) (U := U.calling f mk a) (Vm.Alike.refl U.vm) q.2.1.2.2.1, q.2.1.2.2.2.1, q.2.1.2.2.2.2.blind⟩, q.2.2.blind⟩, hrc, fun U hU hW => ⟨rfl, ⟨by rw [hU], by rw [hU]; exact hP, va_K.moved hW.alike hK, dCt (hD ln) fi ar, EV.call hE hS hin hU hW⟩, EVX.call hEX hS hin hU hW⟩⟩ rfl hn hls rfl (lv_room hW) hdg hcs) hS (fun q _ h => hin q h) hin (fun q _ h => hin q h) ?_ ?_
  · intro E ce q9 u t H1 locs1 ht hvm hw hB hz1 hk1 hS hcell hcv hcl
    obtain ⟨fi2, ar2, ln2, rd2⟩ := u
    dsimp only at hw hB
    obtain ⟨rfl, rfl, rfl⟩ := hw
    obtain ⟨⟨k2, hk2, rfl⟩, hP1, hD1⟩ := hB
    cases hk2
    rw [ht] at hP1
    exact vx_out (fun x hx => (kk.1 x hx).elim) kk.2.1 hcell hcv hcl (fun t2 ht2 _ => kk.2.2.2.2 rd2 H1 locs1 t2 ht2 hP1 (dCre hD1 hin) hS) hS.2.2 kk.2.2.1 kk.2.2.2.1
  · intro u t H1 locs1 ht hvm hw
    cases hw.1

theorem rX_i {v : Int32} {r : Int32 ⊕ Nat} {a b kc ks : Nat} {XC : String → State → State → Prop} (hx : p.tables.exec = Jvm.exec) (hb : c.code = cc) (hr : meth.sig.returnType = some .int) (hlocks : meth.locks = false) (hF : some (.inl v, fi, ar, ln, a, b) = some (r, fi', ar', ln', kc, ks)) (hP : va_P (gD g) vwCl (WC g ad rd ln fi ar) H) (hD : ∀ (ln : LN) (fi : FI) (ar : AR), va_D A (WC g ad rd ln fi ar)) (hS : va_S A s.heap H locs) (hdg : decode cc pc = .ok (.ireturn, 1)) : W p l e R s m args below meth c H locs cells slots (vx_MQ below (QXi g ad A r fi' ar' ln') XC args s cells slots A) (F0 m pc ls [.int v]) :=
  vx_ret (W.iret hx hb hr (fun t ht _ => ⟨⟨v, (fi, ar, ln, rd), rfl, ret6_of hF, by show va_P _ _ _ t.heap; rw [ht]; exact hP, hD ln fi ar⟩, hS.F ht⟩) hS.2.2 hdg hlocks)
theorem rX_z {v : Int32} {r : Int32 ⊕ Nat} {a b kc ks : Nat} {ty : FieldType} {XC : String → State → State → Prop} (hx : p.tables.exec = Jvm.exec) (hb : c.code = cc) (hr : meth.sig.returnType = some ty) (hlocks : meth.locks = false) (hn : narrow ty (.int v) = .int v) (hF : some (.inl v, fi, ar, ln, a, b) = some (r, fi', ar', ln', kc, ks)) (hP : va_P (gD g) vwCl (WC g ad rd ln fi ar) H) (hD : ∀ (ln : LN) (fi : FI) (ar : AR), va_D A (WC g ad rd ln fi ar)) (hS : va_S A s.heap H locs) (hdg : decode cc pc = .ok (.ireturn, 1)) : W p l e R s m args below meth c H locs cells slots (vx_MQ below (QXi g ad A r fi' ar' ln') XC args s cells slots A) (F0 m pc ls [.int v]) :=
  vx_ret (W.zret hx hb hr hn (fun t ht _ => ⟨⟨v, (fi, ar, ln, rd), rfl, ret6_of hF, by show va_P _ _ _ t.heap; rw [ht]; exact hP, hD ln fi ar⟩, hS.F ht⟩) hS.2.2 hdg hlocks)
theorem rX_l {v : Int64} {r : Int64 ⊕ Nat} {a b kc ks : Nat} {XC : String → State → State → Prop} (hx : p.tables.exec = Jvm.exec) (hb : c.code = cc) (hr : meth.sig.returnType = some .long) (hlocks : meth.locks = false) (hF : some (.inl v, fi, ar, ln, a, b) = some (r, fi', ar', ln', kc, ks)) (hP : va_P (gD g) vwCl (WC g ad rd ln fi ar) H) (hD : ∀ (ln : LN) (fi : FI) (ar : AR), va_D A (WC g ad rd ln fi ar)) (hS : va_S A s.heap H locs) (hdg : decode cc pc = .ok (.lreturn, 1)) : W p l e R s m args below meth c H locs cells slots (vx_MQ below (QXl g ad A r fi' ar' ln') XC args s cells slots A) (F0 m pc ls [.long v]) :=
  vx_ret (W.lret hx hb hr (fun t ht _ => ⟨⟨v, (fi, ar, ln, rd), rfl, ret6_of hF, by show va_P _ _ _ t.heap; rw [ht]; exact hP, hD ln fi ar⟩, hS.F ht⟩) hS.2.2 hdg hlocks)
theorem rX_v {r : Unit ⊕ Nat} {a b kc ks : Nat} {XC : String → State → State → Prop} (hx : p.tables.exec = Jvm.exec) (hb : c.code = cc) (hr : meth.sig.returnType = none) (hlocks : meth.locks = false) (hF : some (.inl (), fi, ar, ln, a, b) = some (r, fi', ar', ln', kc, ks)) (hP : va_P (gD g) vwCl (WC g ad rd ln fi ar) H) (hD : ∀ (ln : LN) (fi : FI) (ar : AR), va_D A (WC g ad rd ln fi ar)) (hS : va_S A s.heap H locs) (hdg : decode cc pc = .ok (.return_, 1)) : W p l e R s m args below meth c H locs cells slots (vx_MQ below (QXv g ad A r fi' ar' ln') XC args s cells slots A) (F0 m pc ls []) :=
  vx_ret (W.vret hx hb hr (fun t ht _ => ⟨⟨(fi, ar, ln, rd), rfl, ret6_of hF, by show va_P _ _ _ t.heap; rw [ht]; exact hP, hD ln fi ar⟩, hS.F ht⟩) hS.2.2 hdg hlocks)
theorem xx_of {α : Type} {r : α ⊕ Nat} {k a b kc ks : Nat} {t : State} (hF : some (.inr k, fi, ar, ln, a, b) = some (r, fi', ar', ln', kc, ks)) (hP : va_P (gD g) vwCl (WC g ad rd ln fi ar) t.heap) (hD : ∀ (ln : LN) (fi : FI) (ar : AR), va_D A (WC g ad rd ln fi ar)) (hz : va_F A s t) : XX g ad A r fi' ar' ln' (exN k) s t := by
  obtain ⟨h1, h2, h3, h4⟩ := ret6_of hF
  exact ⟨(fi, ar, ln, rd), ⟨h2, h3, h4⟩, ⟨⟨k, h1.symm, rfl⟩, hP, hD ln fi ar⟩, hz⟩
end XLIB
theorem vxg_0 : ∀ w ∈ Cond.classLink RX10 303 "java/lang/IllegalStateException" :: Cond.initialized "java/lang/IllegalStateException" :: (vx_atS RX10 307 "java/lang/IllegalStateException" ["java/lang/RuntimeException", "java/lang/Exception"]), vx_ot w = true := by decide +kernel
theorem vxb_0 : (vx_atS RX10 307 "java/lang/IllegalStateException" ["java/lang/RuntimeException", "java/lang/Exception"]).filter (fun w => !goodWord w) = [Cond.declares (Bundle.initS "java/lang/RuntimeException"), Cond.declares (Bundle.initS "java/lang/Exception"), Cond.declares (Bundle.initS Bundle.tN), Cond.castable "java/lang/IllegalStateException" "java/lang/IllegalStateException"] := by decide +kernel
theorem vxg_1 : ∀ w ∈ Cond.classLink RX10 308 "java/lang/IndexOutOfBoundsException" :: Cond.initialized "java/lang/IndexOutOfBoundsException" :: (vx_atS RX10 312 "java/lang/IndexOutOfBoundsException" ["java/lang/RuntimeException", "java/lang/Exception"]), vx_ot w = true := by decide +kernel
theorem vxb_1 : (vx_atS RX10 312 "java/lang/IndexOutOfBoundsException" ["java/lang/RuntimeException", "java/lang/Exception"]).filter (fun w => !goodWord w) = [Cond.declares (Bundle.initS "java/lang/RuntimeException"), Cond.declares (Bundle.initS "java/lang/Exception"), Cond.declares (Bundle.initS Bundle.tN), Cond.castable "java/lang/IndexOutOfBoundsException" "java/lang/IndexOutOfBoundsException"] := by decide +kernel
theorem vxg_2 : ∀ w ∈ Cond.classLink RX10 106 "java/lang/IllegalArgumentException" :: Cond.initialized "java/lang/IllegalArgumentException" :: (vx_atS RX10 110 "java/lang/IllegalArgumentException" ["java/lang/RuntimeException", "java/lang/Exception"]), vx_ot w = true := by decide +kernel
theorem vxb_2 : (vx_atS RX10 110 "java/lang/IllegalArgumentException" ["java/lang/RuntimeException", "java/lang/Exception"]).filter (fun w => !goodWord w) = [Cond.declares (Bundle.initS "java/lang/RuntimeException"), Cond.declares (Bundle.initS "java/lang/Exception"), Cond.declares (Bundle.initS Bundle.tN), Cond.castable "java/lang/IllegalArgumentException" "java/lang/IllegalArgumentException"] := by decide +kernel
theorem vxg_3 : ∀ w ∈ Cond.classLink RX10 250 "java/lang/UnsupportedOperationException" :: Cond.initialized "java/lang/UnsupportedOperationException" :: (vx_atS RX10 254 "java/lang/UnsupportedOperationException" ["java/lang/RuntimeException", "java/lang/Exception"]), vx_ot w = true := by decide +kernel
theorem vxb_3 : (vx_atS RX10 254 "java/lang/UnsupportedOperationException" ["java/lang/RuntimeException", "java/lang/Exception"]).filter (fun w => !goodWord w) = [Cond.declares (Bundle.initS "java/lang/RuntimeException"), Cond.declares (Bundle.initS "java/lang/Exception"), Cond.declares (Bundle.initS Bundle.tN), Cond.castable "java/lang/UnsupportedOperationException" "java/lang/UnsupportedOperationException"] := by decide +kernel
