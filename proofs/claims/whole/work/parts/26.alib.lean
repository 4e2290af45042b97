
def addc {R : Type} (a b : Nat) (o : Option (R × FI × AR × LN × Nat × Nat)) : Option (R × FI × AR × LN × Nat × Nat) := match o with
  | none => none
  | some (r, fi, ar, ln, kc, ks) => some (r, fi, ar, ln, a + kc, b + ks)
theorem addc_of {R : Type} {a b kc ks : Nat} {o : Option (R × FI × AR × LN × Nat × Nat)} {r : R} {fi : FI} {ar : AR} {ln : LN} (h : addc a b o = some (r, fi, ar, ln, kc, ks)) : ∃ kc1 ks1 : Nat, kc = a + kc1 ∧ ks = b + ks1 ∧ o = some (r, fi, ar, ln, kc1, ks1) := by
  cases o with
  | none => cases h
  | some q =>
    obtain ⟨r1, fi1, ar1, ln1, kc1, ks1⟩ := q
    cases h
    exact ⟨kc1, ks1, rfl, rfl, rfl⟩
def obnd6 {R δ : Type} (o : Option (R × FI × AR × LN × Nat × Nat)) (f : R → FI → AR → LN → Nat → Nat → Option δ) : Option δ := match o with
  | none => none
  | some (r, fi, ar, ln, kc, ks) => f r fi ar ln kc ks
theorem obnd6_of {R δ : Type} {o : Option (R × FI × AR × LN × Nat × Nat)} {f : R → FI → AR → LN → Nat → Nat → Option δ} {d : δ} (h : obnd6 o f = some d) : ∃ (r : R) (fi : FI) (ar : AR) (ln : LN) (kc ks : Nat), o = some (r, fi, ar, ln, kc, ks) ∧ f r fi ar ln kc ks = some d := by
  cases o with
  | none => cases h
  | some q =>
    obtain ⟨r1, fi1, ar1, ln1, kc1, ks1⟩ := q
    exact ⟨r1, fi1, ar1, ln1, kc1, ks1, rfl, h⟩
theorem ret6_of {R : Type} {v r : R} {fi fi' : FI} {ar ar' : AR} {ln ln' : LN} {a b kc ks : Nat} (h : some (v, fi, ar, ln, a, b) = some (r, fi', ar', ln', kc, ks)) : v = r ∧ fi = fi' ∧ ar = ar' ∧ ln = ln' := by
  cases h
  exact ⟨rfl, rfl, rfl, rfl⟩
theorem kcks_of {R : Type} {o : Option (R × FI × AR × LN × Nat × Nat)} {r : R} {fi : FI} {ar : AR} {ln : LN} {KC KS kc ks : Nat} (h : o = some (r, fi, ar, ln, KC, KS)) (e1 : kc = KC) (e2 : ks = KS) : o = some (r, fi, ar, ln, kc, ks) := by rw [e1, e2]; exact h
abbrev UA : Type := FI × AR × LN × (Nat → Nat)
abbrev BA (g : GT) (ad : Nat → Nat) (A : Nat → Prop) : UA → State → Prop := fun u t => va_P (gD g) vwCl (WC g ad u.2.2.2 u.2.2.1 u.1 u.2.1) t.heap ∧ va_D A (WC g ad u.2.2.2 u.2.2.1 u.1 u.2.1)
abbrev QAi (g : GT) (ad : Nat → Nat) (A : Nat → Prop) (r : Int32) (fi' : FI) (ar' : AR) (ln' : LN) : Array Value → State → Outcome → State → Prop := va_Qi (fun r' (u : UA) => r' = r ∧ u.1 = fi' ∧ u.2.1 = ar' ∧ u.2.2.1 = ln') (BA g ad A) A
abbrev QAv (g : GT) (ad : Nat → Nat) (A : Nat → Prop) (_ : Unit) (fi' : FI) (ar' : AR) (ln' : LN) : Array Value → State → Outcome → State → Prop := va_Qv (fun (u : UA) => u.1 = fi' ∧ u.2.1 = ar' ∧ u.2.2.1 = ln') (BA g ad A) A
section ALIB
variable {p : Program} {l : Launch} {e : Env} {R : Room} {s : State} {m : MethodId} {args : Array Value} {below : List Frame} {meth : Method} {c : Code} {H : Heap} {locs : List Loc} {cells slots : Nat} {Q : State → Prop}
variable {cc : ByteArray} {pc : Nat} {ls : Array Slot} {rest : List Value} {A : Nat → Prop} {g : GT} {ad rd : Nat → Nat} {ln ln' : LN} {fi fi' : FI} {ar ar' : AR} {index : Nat} {own : String}
theorem cA_i {C : String} {a : Nat} {y : MethodName} {bytes : ByteArray} {maxL nL n kc ks : Nat} {ret : Option FieldType} {rm : Room} {As st : List Value} {r : Int32}
    (hx : p.tables.exec = Jvm.exec) (hb : c.code = cc) (hml : c.maxLocals = nL) (hT : ∀ w ∈ TB, w.before args s = true) (hown : s.vm.findClass own = some m.cls) (hK : va_K (gD g) vwCl (tyl g) s) (hE : EV g A s s.heap) (hD : ∀ (ln : LN) (fi : FI) (ar : AR), va_D A (WC g ad rd ln fi ar)) (hA : ∀ q : Nat, s.heap.size ≤ q → A q)
    (hP : va_P (gD g) vwCl (WC g ad rd ln fi ar) H) (hS : va_S A s.heap H locs) (hrc : ∃ cell : Cell, H[a]? = some cell ∧ cell.vm.isStatics = false ∧ s.vm.findClass C = some cell.cls)
    (hM : Met l y (wx y bytes maxL ret) rm (va_Pc (.ref a :: As) (PC g ad rd ln H.size fi ar)) (QAi g ad (AC ad rd H.size) r fi' ar' ln') kc ks (AC ad rd H.size))
    (hw : (Cond.instanceMethod y ∈ TB ∧ Cond.selects C y y ∈ TB ∧ Cond.code y bytes maxL ret ∈ TB ∧ Cond.initialized C ∈ TB) ∧ (y.cls = C ∧ y.cls ≠ "java/lang/invoke/MethodHandle" ∧ y.cls ≠ "java/lang/invoke/VarHandle" ∧ (parseMethodDescriptor y.desc).map (fun d => d.parameters.length) = some n))
    (hl : Cond.methodLink own index y ∈ TB) (hR : (rm.cells = kc ∧ rm.slots = ks) ∧ rm.frames + 1 ≤ R.frames ∧ 8 + (maxL + 11) + rm.locals ≤ R.locals) (hn : As.length = n) (hls : ls.size = nL) (hst : st = As.reverse ++ .ref a :: rest) (hW : (rest.map fun v => v.category).sum ≤ 8)
    (hdg : decode cc pc = .ok (.invokevirtual index, 3)) (hcs : cells + kc ≤ R.cells ∧ slots + ks ≤ R.slots)
    (kk : ∀ (rd : Nat → Nat) (H : Heap) (locs : List Loc), va_P (gD g) vwCl (WC g ad rd ln' fi' ar') H → (∀ (ln : LN) (fi : FI) (ar : AR), va_D A (WC g ad rd ln fi ar)) → va_S A s.heap H locs → W p l e R s m args below meth c H locs (cells + kc) (slots + ks) Q (F0 m (pc + 3) ls (.int r :: rest))) : W p l e R s m args below meth c H locs cells slots Q (F0 m pc ls st) := by
  subst hst
  have hin := AC_in (hD ln) hS.1 hA
  refine va_calli (va_runV (Ts := TB) (As := As) (rest := rest) ⟨hx, hb, hml, hown, hT⟩ hM (cwV n hT (fun w h => by
      rcases List.mem_append.mp h with h | h
      · have hi : w ∈ TB := by
          simp only [List.mem_cons, List.not_mem_nil, or_false] at h
          rcases h with rfl | rfl | rfl | rfl
          · exact hl
          · exact hw.1.1
          · exact hw.1.2.1
          · exact hw.1.2.2.2
        exact ⟨hi, good_of_word (TB_good w hi)⟩
      · exact TB_in1 hw.1.2.2.1 w h) rfl hR.1.1 hR.1.2 hw.2 hR.2) ⟨fun a U f mk q => ⟨q.1, q.2.1, q.2.2.1, va_K.moved (u := U) (U := U.calling f mk a) (Vm.Alike.refl U.vm) q.2.2.2.1, q.2.2.2.2.1, q.2.2.2.2.2.blind⟩, hrc, fun U hU hW => ⟨rfl, by rw [hU], by rw [hU]; exact hP, va_K.moved hW.alike hK, dCt (hD ln) fi ar, EV.call hE hS hin hU hW⟩⟩ rfl hn hls rfl (lv_room hW) hdg hcs) hS (fun q _ h => hin q h) hin (fun r1 u t H1 locs1 ht hvm hw hB hz1 hk1 hS => ?_)
  obtain ⟨fi2, ar2, ln2, rd2⟩ := u
  dsimp only at hw hB
  obtain ⟨rfl, rfl, rfl, rfl⟩ := hw
  obtain ⟨hP1, hD1⟩ := hB
  rw [ht] at hP1
  exact kk rd2 H1 locs1 hP1 (dCre hD1 hin) hS
theorem cA_v {C : String} {a : Nat} {y : MethodName} {bytes : ByteArray} {maxL nL n kc ks : Nat} {ret : Option FieldType} {rm : Room} {As st : List Value} {r : Unit}
    (hx : p.tables.exec = Jvm.exec) (hb : c.code = cc) (hml : c.maxLocals = nL) (hT : ∀ w ∈ TB, w.before args s = true) (hown : s.vm.findClass own = some m.cls) (hK : va_K (gD g) vwCl (tyl g) s) (hE : EV g A s s.heap) (hD : ∀ (ln : LN) (fi : FI) (ar : AR), va_D A (WC g ad rd ln fi ar)) (hA : ∀ q : Nat, s.heap.size ≤ q → A q)
    (hP : va_P (gD g) vwCl (WC g ad rd ln fi ar) H) (hS : va_S A s.heap H locs) (hrc : ∃ cell : Cell, H[a]? = some cell ∧ cell.vm.isStatics = false ∧ s.vm.findClass C = some cell.cls)
    (hM : Met l y (wx y bytes maxL ret) rm (va_Pc (.ref a :: As) (PC g ad rd ln H.size fi ar)) (QAv g ad (AC ad rd H.size) r fi' ar' ln') kc ks (AC ad rd H.size))
    (hw : (Cond.instanceMethod y ∈ TB ∧ Cond.selects C y y ∈ TB ∧ Cond.code y bytes maxL ret ∈ TB ∧ Cond.initialized C ∈ TB) ∧ (y.cls = C ∧ y.cls ≠ "java/lang/invoke/MethodHandle" ∧ y.cls ≠ "java/lang/invoke/VarHandle" ∧ (parseMethodDescriptor y.desc).map (fun d => d.parameters.length) = some n))
    (hl : Cond.methodLink own index y ∈ TB) (hR : (rm.cells = kc ∧ rm.slots = ks) ∧ rm.frames + 1 ≤ R.frames ∧ 8 + (maxL + 11) + rm.locals ≤ R.locals) (hn : As.length = n) (hls : ls.size = nL) (hst : st = As.reverse ++ .ref a :: rest) (hW : (rest.map fun v => v.category).sum ≤ 8)
    (hdg : decode cc pc = .ok (.invokevirtual index, 3)) (hcs : cells + kc ≤ R.cells ∧ slots + ks ≤ R.slots)
    (kk : ∀ (rd : Nat → Nat) (H : Heap) (locs : List Loc), va_P (gD g) vwCl (WC g ad rd ln' fi' ar') H → (∀ (ln : LN) (fi : FI) (ar : AR), va_D A (WC g ad rd ln fi ar)) → va_S A s.heap H locs → W p l e R s m args below meth c H locs (cells + kc) (slots + ks) Q (F0 m (pc + 3) ls (rest))) : W p l e R s m args below meth c H locs cells slots Q (F0 m pc ls st) := by
  subst hst
  have hin := AC_in (hD ln) hS.1 hA
  refine va_callv (va_runV (Ts := TB) (As := As) (rest := rest) ⟨hx, hb, hml, hown, hT⟩ hM (cwV n hT (fun w h => by
      rcases List.mem_append.mp h with h | h
      · have hi : w ∈ TB := by
          simp only [List.mem_cons, List.not_mem_nil, or_false] at h
          rcases h with rfl | rfl | rfl | rfl
          · exact hl
          · exact hw.1.1
          · exact hw.1.2.1
          · exact hw.1.2.2.2
        exact ⟨hi, good_of_word (TB_good w hi)⟩
      · exact TB_in1 hw.1.2.2.1 w h) rfl hR.1.1 hR.1.2 hw.2 hR.2) ⟨fun a U f mk q => ⟨q.1, q.2.1, q.2.2.1, va_K.moved (u := U) (U := U.calling f mk a) (Vm.Alike.refl U.vm) q.2.2.2.1, q.2.2.2.2.1, q.2.2.2.2.2.blind⟩, hrc, fun U hU hW => ⟨rfl, by rw [hU], by rw [hU]; exact hP, va_K.moved hW.alike hK, dCt (hD ln) fi ar, EV.call hE hS hin hU hW⟩⟩ rfl hn hls rfl (lv_room hW) hdg hcs) hS (fun q _ h => hin q h) hin (fun  u t H1 locs1 ht hvm hw hB hz1 hk1 hS => ?_)
  obtain ⟨fi2, ar2, ln2, rd2⟩ := u
  dsimp only at hw hB
  obtain ⟨rfl, rfl, rfl⟩ := hw
  obtain ⟨hP1, hD1⟩ := hB
  rw [ht] at hP1
  exact kk rd2 H1 locs1 hP1 (dCre hD1 hin) hS
theorem rA_i {v r : Int32} {a b kc ks : Nat} (hx : p.tables.exec = Jvm.exec) (hb : c.code = cc) (hr : meth.sig.returnType = some .int) (hlocks : meth.locks = false) (hF : some (v, fi, ar, ln, a, b) = some (r, fi', ar', ln', kc, ks)) (hP : va_P (gD g) vwCl (WC g ad rd ln fi ar) H) (hD : ∀ (ln : LN) (fi : FI) (ar : AR), va_D A (WC g ad rd ln fi ar)) (hS : va_S A s.heap H locs) (hdg : decode cc pc = .ok (.ireturn, 1)) : W p l e R s m args below meth c H locs cells slots (MQ below (QAi g ad A r fi' ar' ln') args s cells slots A) (F0 m pc ls [.int v]) :=
  W.iret hx hb hr (fun t ht _ => ⟨⟨v, (fi, ar, ln, rd), rfl, ret6_of hF, by show va_P _ _ _ t.heap; rw [ht]; exact hP, hD ln fi ar⟩, hS.F ht⟩) hS.2.2 hdg hlocks
theorem rA_z {v r : Int32} {a b kc ks : Nat} {ty : FieldType} (hx : p.tables.exec = Jvm.exec) (hb : c.code = cc) (hr : meth.sig.returnType = some ty) (hlocks : meth.locks = false) (hn : narrow ty (.int v) = .int v) (hF : some (v, fi, ar, ln, a, b) = some (r, fi', ar', ln', kc, ks)) (hP : va_P (gD g) vwCl (WC g ad rd ln fi ar) H) (hD : ∀ (ln : LN) (fi : FI) (ar : AR), va_D A (WC g ad rd ln fi ar)) (hS : va_S A s.heap H locs) (hdg : decode cc pc = .ok (.ireturn, 1)) : W p l e R s m args below meth c H locs cells slots (MQ below (QAi g ad A r fi' ar' ln') args s cells slots A) (F0 m pc ls [.int v]) :=
  W.zret hx hb hr hn (fun t ht _ => ⟨⟨v, (fi, ar, ln, rd), rfl, ret6_of hF, by show va_P _ _ _ t.heap; rw [ht]; exact hP, hD ln fi ar⟩, hS.F ht⟩) hS.2.2 hdg hlocks
theorem rA_v {r : Unit} {a b kc ks : Nat} (hx : p.tables.exec = Jvm.exec) (hb : c.code = cc) (hr : meth.sig.returnType = none) (hlocks : meth.locks = false) (hF : some ((), fi, ar, ln, a, b) = some (r, fi', ar', ln', kc, ks)) (hP : va_P (gD g) vwCl (WC g ad rd ln fi ar) H) (hD : ∀ (ln : LN) (fi : FI) (ar : AR), va_D A (WC g ad rd ln fi ar)) (hS : va_S A s.heap H locs) (hdg : decode cc pc = .ok (.return_, 1)) : W p l e R s m args below meth c H locs cells slots (MQ below (QAv g ad A r fi' ar' ln') args s cells slots A) (F0 m pc ls []) :=
  W.vret hx hb hr (fun t ht _ => ⟨⟨(fi, ar, ln, rd), rfl, (ret6_of hF).2, by show va_P _ _ _ t.heap; rw [ht]; exact hP, hD ln fi ar⟩, hS.F ht⟩) hS.2.2 hdg hlocks
end ALIB
