theorem nar_b {v : Int32} (h : v.toInt8.toInt32 = v) : narrow .byte (.int v) = .int v := by rw [← h]; exact pk_nb v
def obnd3 {α β γ δ : Type} (o : Option (α × β × γ)) (f : α → β → γ → Option δ) : Option δ := match o with
  | none => none
  | some (a, b, c) => f a b c
theorem obnd3_of {α β γ δ : Type} {o : Option (α × β × γ)} {f : α → β → γ → Option δ} {r : δ} (h : obnd3 o f = some r) : ∃ (a : α) (b : β) (c : γ), o = some (a, b, c) ∧ f a b c = some r := by
  cases o with
  | none => cases h
  | some q =>
    obtain ⟨a, b, c⟩ := q
    exact ⟨a, b, c, rfl, h⟩
theorem nar_z {v : Int32} (h : v &&& 1 = v) : narrow .boolean (.int v) = .int v := by simp [narrow, h]
theorem bool_z {v : Int32} (h : v &&& 1 = v) : v = 0 ∨ v = 1 := by
  obtain ⟨j, hj, e⟩ := pk_andE v (m := 1) 1 (by decide)
  rw [h] at e
  have : j = 0 ∨ j = 1 := by omega
  rcases this with rfl | rfl
  · exact Or.inl e
  · exact Or.inr e
theorem fit_z {v : Int32} (h : v &&& 1 = v) : fits .boolean (.int v) = true := by
  rcases bool_z h with rfl | rfl <;> rfl
section RETS
variable {p : Program} {l : Launch} {e : Env} {R : Room} {s : State} {m : MethodId} {args : Array Value} {below : List Frame} {meth : Method} {c : Code} {H : Heap} {locs : List Loc}
variable {cc : ByteArray} {pc : Nat} {ls : Array Slot} {g : GT} {am : Nat → Nat} {fi fi' : FI} {ar ar' : AR} {sz : Nat}
theorem rM_i {v r : Int32} (hx : p.tables.exec = Jvm.exec) (hb : c.code = cc) (hr : meth.sig.returnType = some .int) (hlocks : meth.locks = false) (hF : some (v, fi, ar) = some (r, fi', ar')) (hP : va_P (gD g) vwCl (WM g am fi ar) H) (hS : va_S (AM am s.heap.size) s.heap H locs) (hdg : decode cc pc = .ok (.ireturn, 1)) : W p l e R s m args below meth c H locs 0 0 (MQ below (QMi g am s.heap.size r fi' ar') args s 0 0 (AM am s.heap.size)) (F0 m pc ls [.int v]) :=
  W.iret hx hb hr (fun t ht _ => ⟨⟨v, (fi, ar), rfl, ret_of hF, by show va_P _ _ _ t.heap; rw [ht]; exact hP⟩, hS.F ht⟩) hS.2.2 hdg hlocks
theorem rM_z {v r : Int32} {ty : FieldType} (hx : p.tables.exec = Jvm.exec) (hb : c.code = cc) (hr : meth.sig.returnType = some ty) (hlocks : meth.locks = false) (hn : narrow ty (.int v) = .int v) (hF : some (v, fi, ar) = some (r, fi', ar')) (hP : va_P (gD g) vwCl (WM g am fi ar) H) (hS : va_S (AM am s.heap.size) s.heap H locs) (hdg : decode cc pc = .ok (.ireturn, 1)) : W p l e R s m args below meth c H locs 0 0 (MQ below (QMi g am s.heap.size r fi' ar') args s 0 0 (AM am s.heap.size)) (F0 m pc ls [.int v]) :=
  W.zret hx hb hr hn (fun t ht _ => ⟨⟨v, (fi, ar), rfl, ret_of hF, by show va_P _ _ _ t.heap; rw [ht]; exact hP⟩, hS.F ht⟩) hS.2.2 hdg hlocks
theorem rM_l {v r : Int64} (hx : p.tables.exec = Jvm.exec) (hb : c.code = cc) (hr : meth.sig.returnType = some .long) (hlocks : meth.locks = false) (hF : some (v, fi, ar) = some (r, fi', ar')) (hP : va_P (gD g) vwCl (WM g am fi ar) H) (hS : va_S (AM am s.heap.size) s.heap H locs) (hdg : decode cc pc = .ok (.lreturn, 1)) : W p l e R s m args below meth c H locs 0 0 (MQ below (QMl g am s.heap.size r fi' ar') args s 0 0 (AM am s.heap.size)) (F0 m pc ls [.long v]) :=
  W.lret hx hb hr (fun t ht _ => ⟨⟨v, (fi, ar), rfl, ret_of hF, by show va_P _ _ _ t.heap; rw [ht]; exact hP⟩, hS.F ht⟩) hS.2.2 hdg hlocks
theorem rM_v {r : Unit} (hx : p.tables.exec = Jvm.exec) (hb : c.code = cc) (hr : meth.sig.returnType = none) (hlocks : meth.locks = false) (hF : some ((), fi, ar) = some (r, fi', ar')) (hP : va_P (gD g) vwCl (WM g am fi ar) H) (hS : va_S (AM am s.heap.size) s.heap H locs) (hdg : decode cc pc = .ok (.return_, 1)) : W p l e R s m args below meth c H locs 0 0 (MQ below (QMv g am s.heap.size r fi' ar') args s 0 0 (AM am s.heap.size)) (F0 m pc ls []) :=
  W.vret hx hb hr (fun t ht _ => ⟨⟨(fi, ar), rfl, (ret_of hF).2, by show va_P _ _ _ t.heap; rw [ht]; exact hP⟩, hS.F ht⟩) hS.2.2 hdg hlocks
theorem rS_i {v r : Int32} (hx : p.tables.exec = Jvm.exec) (hb : c.code = cc) (hr : meth.sig.returnType = some .int) (hlocks : meth.locks = false) (hF : some v = some r) (hS : va_S noA s.heap H locs) (hdg : decode cc pc = .ok (.ireturn, 1)) : W p l e R s m args below meth c H locs 0 0 (MQ below (QSi r) args s 0 0 noA) (F0 m pc ls [.int v]) :=
  W.iret hx hb hr (fun t ht _ => ⟨⟨v, (), rfl, Option.some.inj hF, trivial⟩, hS.F ht⟩) hS.2.2 hdg hlocks
theorem rS_z {v r : Int32} {ty : FieldType} (hx : p.tables.exec = Jvm.exec) (hb : c.code = cc) (hr : meth.sig.returnType = some ty) (hlocks : meth.locks = false) (hn : narrow ty (.int v) = .int v) (hF : some v = some r) (hS : va_S noA s.heap H locs) (hdg : decode cc pc = .ok (.ireturn, 1)) : W p l e R s m args below meth c H locs 0 0 (MQ below (QSi r) args s 0 0 noA) (F0 m pc ls [.int v]) :=
  W.zret hx hb hr hn (fun t ht _ => ⟨⟨v, (), rfl, Option.some.inj hF, trivial⟩, hS.F ht⟩) hS.2.2 hdg hlocks
theorem rS_l {v r : Int64} (hx : p.tables.exec = Jvm.exec) (hb : c.code = cc) (hr : meth.sig.returnType = some .long) (hlocks : meth.locks = false) (hF : some v = some r) (hS : va_S noA s.heap H locs) (hdg : decode cc pc = .ok (.lreturn, 1)) : W p l e R s m args below meth c H locs 0 0 (MQ below (QSl r) args s 0 0 noA) (F0 m pc ls [.long v]) :=
  W.lret hx hb hr (fun t ht _ => ⟨⟨v, (), rfl, Option.some.inj hF, trivial⟩, hS.F ht⟩) hS.2.2 hdg hlocks
end RETS
section CSTR
variable {p : Program} {l : Launch} {e : Env} {R : Room} {s : State} {m : MethodId} {args : Array Value} {below : List Frame} {meth : Method} {c : Code} {H : Heap} {locs : List Loc} {cells slots : Nat} {Q : State → Prop}
variable {cc : ByteArray} {pc : Nat} {ls : Array Slot} {rest : List Value} {A : Nat → Prop} {g : GT} {index : Nat}
theorem cT_i {own : String} {y : MethodName} {bytes : ByteArray} {maxL nL n i : Nat} {ret : Option FieldType} {rm : Room} {As st : List Value} {r : Int32} {ws : va_W} (hi : i < 2)
    (hx : p.tables.exec = Jvm.exec) (hb : c.code = cc) (hml : c.maxLocals = nL) (hT : ∀ w ∈ TB, w.before args s = true) (hown : s.vm.findClass own = some m.cls) (hE : EV g A s s.heap)
    (hP : va_P (gD g) vwCl ws H) (hS : va_S A s.heap H locs)
    (hM : Met l y (wx y bytes maxL ret) rm (va_Pc (.ref (g.2.2.2 i) :: As) (PS g)) (QSi r) 0 0 noA)
    (hw : (Cond.instanceMethod y ∈ TB ∧ Cond.selects RJ0 y y ∈ TB ∧ Cond.code y bytes maxL ret ∈ TB) ∧ (y.cls = RJ0 ∧ y.cls ≠ "java/lang/invoke/MethodHandle" ∧ y.cls ≠ "java/lang/invoke/VarHandle" ∧ (parseMethodDescriptor y.desc).map (fun d => d.parameters.length) = some n))
    (hl : Cond.methodLink own index y ∈ TB) (hR : (rm.cells = 0 ∧ rm.slots = 0) ∧ rm.frames + 1 ≤ R.frames ∧ 8 + (maxL + 11) + rm.locals ≤ R.locals) (hn : As.length = n) (hls : ls.size = nL) (hst : st = As.reverse ++ .ref (g.2.2.2 i) :: rest) (hW : (rest.map fun v => v.category).sum ≤ 8)
    (hdg : decode cc pc = .ok (.invokevirtual index, 3)) (hcs : cells ≤ R.cells ∧ slots ≤ R.slots)
    (kk : ∀ (H : Heap) (locs : List Loc), va_P (gD g) vwCl ws H → va_S A s.heap H locs → W p l e R s m args below meth c H locs cells slots Q (F0 m (pc + 3) ls (.int r :: rest))) : W p l e R s m args below meth c H locs cells slots Q (F0 m pc ls st) := by
  subst hst
  refine va_calli (va_runV (Ts := TB) (C := RJ0) (As := As) (rest := rest) ⟨hx, hb, hml, hown, hT⟩ hM (cwV n hT (fun w h => by
      rcases List.mem_append.mp h with h | h
      · have hi : w ∈ TB := by
          simp only [List.mem_cons, List.not_mem_nil, or_false] at h
          rcases h with rfl | rfl | rfl | rfl
          · exact hl
          · exact hw.1.1
          · exact hw.1.2.1
          · exact mw10_15
        exact ⟨hi, good_of_word (TB_good w hi)⟩
      · exact TB_in1 hw.1.2.2 w h) rfl hR.1.1 hR.1.2 hw.2 hR.2) ⟨fun a U f mk q => ⟨q.1, q.2.blind⟩, vk_recv hE.1.1 hi hS, fun U hU hW => ⟨rfl, EV.call hE hS (fun _ h => h.elim) hU hW⟩⟩ rfl hn hls rfl (lv_room hW) hdg hcs) hS (fun q _ h => h.elim) (fun q h => h.elim) (fun r1 u t H1 locs1 ht hvm hw hB hz1 hk1 hS => ?_)
  obtain rfl := hw
  exact kk H1 locs1 (hP.kept (fun k q hk => hk1 q.1 (hP k q hk).lt (fun h => h))) hS
end CSTR
