def R_law : String := "TableVolumesLaw"
def lw_P (b : Addr) (xs : List Int32) (args : Array Value) (s : State) : Prop := args = #[.ref b] ∧ s.IntsAt b xs ∧ xs.length ≤ 3073 ∧ (Jvm.Cond.and given_1 narrow_1).before args s = true
def lw_Q (_ : Array Value) (s : State) (o : Outcome) (t : State) : Prop := o = .returned (some (.int 1)) ∧ Framed s o t [] room_1.cells room_1.slots
def lw_Z (below : List Frame) (a : Array Value) (s : State) : State → Prop := fun t => ∃ o, t.status = .running ∧ Ended t below o ∧ lw_Q a s o t
/-- the law's own end, with 1 on the stack, nothing written that was there before, its room as the claim has it -/
theorem lw_ret {p : Program} {l : Launch} {e : Env} {s : State} {m : MethodId} {below : List Frame} {meth : Method} {c : Code} {b : Nat} (hx : p.tables.exec = Jvm.exec) (hb : c.code = code) (hr : meth.sig.returnType = ret) (hlocks : meth.locks = false) {pc : Nat} {H : Heap} {ls : Array Slot} (hdg : decode code pc = .ok (.ireturn, 1)) : W p l e room_1 s m #[Value.ref b] below meth c H [] room_1.cells room_1.slots (lw_Z below #[Value.ref b] s) (F0 m pc ls [.int 1]) := by
  intro T hT X
  obtain ⟨fs, hret, hrun, hended, hW, hframe⟩ := X.leave (v := some (.int 1)) (hlocks := hlocks) (fun h => by rw [hr] at h; cases h)
  have hmeth' : T.vm.method? m = some meth := X.method'
  refine ⟨T.setFrames fs, ?_, .returned (some (.int 1)), hrun, hended, rfl, ⟨_, rfl⟩, hW, hframe⟩
  jvm_step X.here [X.here.top, hx, hb, hdg, hmeth', hr, ret, narrow_b1]
  (try refine ⟨rfl, ?_⟩); (try refine ⟨rfl, ?_⟩)
  first | (intro acts; rw [hret _ acts rfl rfl rfl]) | rw [hret _ _ rfl rfl rfl]
  exact Steps.refl _
/-- what holds at the law's entry: the machine, the code, the tables' words (any of lw_tbl by 'hts w (by decide +kernel)'), the script of L ints xs at the cell b, what the Statement gives of the start (any of its parts by flat_of_before) -/
def lw_At (p : Program) (s : State) (m : MethodId) (meth : Method) (c : Code) (b L : Nat) (xs : Nat → Int32) : Prop :=
  p.tables.exec = Jvm.exec ∧ c.code = code ∧ meth.sig.returnType = ret ∧ c.maxLocals = 8 ∧ s.vm.findClass R_law = some m.cls ∧ (∀ w ∈ lw_tbl, w.before #[Value.ref b] s = true) ∧ va_X b L xs s s.heap ∧ b < s.heap.size ∧ meth.locks = false ∧ (Jvm.Cond.and given_1 narrow_1).before #[Value.ref b] s = true

def addc2 (a b : Nat) (o : Option (Int32 × Nat × Nat)) : Option (Int32 × Nat × Nat) := match o with
  | none => none
  | some (r, kc, ks) => some (r, a + kc, b + ks)
theorem addc2_of {a b kc ks : Nat} {o : Option (Int32 × Nat × Nat)} {r : Int32} (h : addc2 a b o = some (r, kc, ks)) : ∃ kc1 ks1 : Nat, kc = a + kc1 ∧ ks = b + ks1 ∧ o = some (r, kc1, ks1) := by
  cases o with
  | none => cases h
  | some q =>
    obtain ⟨r1, kc1, ks1⟩ := q
    cases h
    exact ⟨kc1, ks1, rfl, rfl, rfl⟩
theorem ret0_no {a b kc ks : Nat} (h : some ((0 : Int32), a, b) = some ((1 : Int32), kc, ks)) : False := absurd (congrArg Prod.fst (Option.some.inj h)) (show ¬ (0 : Int32) = 1 by decide)
theorem cw_L_format : (Cond.static yL_format ∈ TB ∧ Cond.codeWith yL_format cL_format 7 (some .int) [(0, 14, 17, 13)] ∈ TB ∧ Cond.initialized yL_format.cls ∈ TB) ∧ (yL_format.cls ≠ "java/lang/invoke/MethodHandle" ∧ yL_format.cls ≠ "java/lang/invoke/VarHandle" ∧ (parseMethodDescriptor yL_format.desc).map (fun d => d.parameters.length) = some 6) := ⟨⟨mw8_20, mw8_21, mw1_9⟩, by decide +kernel⟩
theorem cw_L_items : (Cond.static yL_items ∈ TB ∧ Cond.codeWith yL_items cL_items 3 (some .int) [(0, 8, 11, 19)] ∈ TB ∧ Cond.initialized yL_items.cls ∈ TB) ∧ (yL_items.cls ≠ "java/lang/invoke/MethodHandle" ∧ yL_items.cls ≠ "java/lang/invoke/VarHandle" ∧ (parseMethodDescriptor yL_items.desc).map (fun d => d.parameters.length) = some 2) := ⟨⟨mw37_8, mw37_9, mw1_9⟩, by decide +kernel⟩
theorem cw_L_letter : (Cond.static yL_letter ∈ TB ∧ Cond.codeWith yL_letter cL_letter 5 (some .int) [(0, 10, 13, 19), (0, 10, 17, 25)] ∈ TB ∧ Cond.initialized yL_letter.cls ∈ TB) ∧ (yL_letter.cls ≠ "java/lang/invoke/MethodHandle" ∧ yL_letter.cls ≠ "java/lang/invoke/VarHandle" ∧ (parseMethodDescriptor yL_letter.desc).map (fun d => d.parameters.length) = some 4) := ⟨⟨mw38_23, mw39_0, mw1_9⟩, by decide +kernel⟩
theorem cw_L_about : (Cond.static yL_about ∈ TB ∧ Cond.codeWith yL_about cL_about 5 (some .int) [(0, 9, 12, 19), (0, 9, 16, 25), (0, 9, 20, 13)] ∈ TB ∧ Cond.initialized yL_about.cls ∈ TB) ∧ (yL_about.cls ≠ "java/lang/invoke/MethodHandle" ∧ yL_about.cls ≠ "java/lang/invoke/VarHandle" ∧ (parseMethodDescriptor yL_about.desc).map (fun d => d.parameters.length) = some 4) := ⟨⟨mw40_19, mw40_20, mw1_9⟩, by decide +kernel⟩
theorem cw_L_content : (Cond.static yL_content ∈ TB ∧ Cond.codeWith yL_content cL_content 5 (some .int) [(0, 10, 13, 19), (0, 10, 17, 25)] ∈ TB ∧ Cond.initialized yL_content.cls ∈ TB) ∧ (yL_content.cls ≠ "java/lang/invoke/MethodHandle" ∧ yL_content.cls ≠ "java/lang/invoke/VarHandle" ∧ (parseMethodDescriptor yL_content.desc).map (fun d => d.parameters.length) = some 4) := ⟨⟨mw42_16, mw42_17, mw1_9⟩, by decide +kernel⟩
theorem cw_L_enter : (Cond.static yL_enter ∈ TB ∧ Cond.codeWith yL_enter cL_enter 4 (some .int) [(0, 9, 12, 19), (0, 9, 15, 25), (0, 9, 18, 13)] ∈ TB ∧ Cond.initialized yL_enter.cls ∈ TB) ∧ (yL_enter.cls ≠ "java/lang/invoke/MethodHandle" ∧ yL_enter.cls ≠ "java/lang/invoke/VarHandle" ∧ (parseMethodDescriptor yL_enter.desc).map (fun d => d.parameters.length) = some 3) := ⟨⟨mw43_14, mw43_15, mw1_9⟩, by decide +kernel⟩
theorem cw_L_up : (Cond.static yL_up ∈ TB ∧ Cond.codeWith yL_up cL_up 3 (some .int) [(0, 15, 18, 19)] ∈ TB ∧ Cond.initialized yL_up.cls ∈ TB) ∧ (yL_up.cls ≠ "java/lang/invoke/MethodHandle" ∧ yL_up.cls ≠ "java/lang/invoke/VarHandle" ∧ (parseMethodDescriptor yL_up.desc).map (fun d => d.parameters.length) = some 2) := ⟨⟨mw44_1, mw44_2, mw1_9⟩, by decide +kernel⟩
theorem cw_L_make : (Cond.static yL_make ∈ TB ∧ Cond.codeWith yL_make cL_make 4 (some .int) [(0, 9, 12, 19), (0, 9, 15, 13), (0, 9, 18, 46)] ∈ TB ∧ Cond.initialized yL_make.cls ∈ TB) ∧ (yL_make.cls ≠ "java/lang/invoke/MethodHandle" ∧ yL_make.cls ≠ "java/lang/invoke/VarHandle" ∧ (parseMethodDescriptor yL_make.desc).map (fun d => d.parameters.length) = some 3) := ⟨⟨mw44_12, mw44_13, mw1_9⟩, by decide +kernel⟩
theorem cw_L_write : (Cond.static yL_write ∈ TB ∧ Cond.codeWith yL_write cL_write 4 (some .int) [(0, 9, 12, 19), (0, 9, 15, 25), (0, 9, 18, 13), (0, 9, 21, 46)] ∈ TB ∧ Cond.initialized yL_write.cls ∈ TB) ∧ (yL_write.cls ≠ "java/lang/invoke/MethodHandle" ∧ yL_write.cls ≠ "java/lang/invoke/VarHandle" ∧ (parseMethodDescriptor yL_write.desc).map (fun d => d.parameters.length) = some 3) := ⟨⟨mw50_15, mw50_16, mw1_9⟩, by decide +kernel⟩
theorem cw_L_grow : (Cond.static yL_grow ∈ TB ∧ Cond.codeWith yL_grow cL_grow 6 (some .int) [(0, 12, 15, 19), (0, 12, 19, 25), (0, 12, 23, 13), (0, 12, 27, 46)] ∈ TB ∧ Cond.initialized yL_grow.cls ∈ TB) ∧ (yL_grow.cls ≠ "java/lang/invoke/MethodHandle" ∧ yL_grow.cls ≠ "java/lang/invoke/VarHandle" ∧ (parseMethodDescriptor yL_grow.desc).map (fun d => d.parameters.length) = some 5) := ⟨⟨mw53_7, mw53_8, mw1_9⟩, by decide +kernel⟩
theorem cw_L_cut : (Cond.static yL_cut ∈ TB ∧ Cond.codeWith yL_cut cL_cut 5 (some .int) [(0, 10, 13, 19), (0, 10, 17, 25), (0, 10, 21, 13)] ∈ TB ∧ Cond.initialized yL_cut.cls ∈ TB) ∧ (yL_cut.cls ≠ "java/lang/invoke/MethodHandle" ∧ yL_cut.cls ≠ "java/lang/invoke/VarHandle" ∧ (parseMethodDescriptor yL_cut.desc).map (fun d => d.parameters.length) = some 4) := ⟨⟨mw53_20, mw53_21, mw1_9⟩, by decide +kernel⟩
theorem cw_L_remove : (Cond.static yL_remove ∈ TB ∧ Cond.codeWith yL_remove cL_remove 3 (some .int) [(0, 5, 8, 19), (0, 5, 11, 25), (0, 5, 14, 13)] ∈ TB ∧ Cond.initialized yL_remove.cls ∈ TB) ∧ (yL_remove.cls ≠ "java/lang/invoke/MethodHandle" ∧ yL_remove.cls ≠ "java/lang/invoke/VarHandle" ∧ (parseMethodDescriptor yL_remove.desc).map (fun d => d.parameters.length) = some 2) := ⟨⟨mw54_17, mw54_18, mw1_9⟩, by decide +kernel⟩
theorem cw_L_stamp : (Cond.static yL_stamp ∈ TB ∧ Cond.codeWith yL_stamp cL_stamp 6 (some .int) [(0, 9, 12, 19), (0, 9, 16, 25), (0, 9, 20, 13)] ∈ TB ∧ Cond.initialized yL_stamp.cls ∈ TB) ∧ (yL_stamp.cls ≠ "java/lang/invoke/MethodHandle" ∧ yL_stamp.cls ≠ "java/lang/invoke/VarHandle" ∧ (parseMethodDescriptor yL_stamp.desc).map (fun d => d.parameters.length) = some 5) := ⟨⟨mw55_4, mw55_5, mw1_9⟩, by decide +kernel⟩
