/-! X11_feed -/
noncomputable def M_feed_61 (K8 : Int32 → Int32 → Int32 → Int32 → Int32 → Int32 → FI → AR → Option (Unit × FI × AR)) (nf : Nat) (x1 : Int32) (x2 : Int32) (x3 : Int32) (x4 : Int32) (x5 : Int32) (x6 : Int32) (t0 : Int32) (fi : FI) (ar : AR) : Option (Unit × FI × AR) :=
  gd (¬ ((x6) < 0 ∨ 20 ≤ (x6).toNatClampNeg)) (bnd (va_up ar 3 (upd (ar 3) (x6).toNatClampNeg (vp_nar .byte (((t0) >>> (((24 : Int32) - ((8 : Int32) * ((x6) - (x6) / (4 : Int32) * (4 : Int32)))) &&& 31)).toInt8.toInt32)))) fun ar2 => bnd ((x6) + (1 : Int32)) fun x6_3 => K8 (x1) (x2) (x3) (x4) (x5) (x6_3) fi ar2)
noncomputable def M_feed_8b (K8 : Int32 → Int32 → Int32 → Int32 → Int32 → Int32 → FI → AR → Option (Unit × FI × AR)) (nf : Nat) (x1 : Int32) (x2 : Int32) (x3 : Int32) (x4 : Int32) (x5 : Int32) (x6 : Int32) (fi : FI) (ar : AR) : Option (Unit × FI × AR) :=
  br ((20 : Int32) ≤ (x6)) (bnd (va_up fi 6 (1 : Int32)) fun fi5 => some ((), fi5, ar)) (br ((4 : Int32) ≤ (x6)) (br ((8 : Int32) ≤ (x6)) (br ((12 : Int32) ≤ (x6)) (br ((16 : Int32) ≤ (x6)) (M_feed_61 K8 nf  (x1) (x2) (x3) (x4) (x5) (x6) (x5) fi ar) (M_feed_61 K8 nf  (x1) (x2) (x3) (x4) (x5) (x6) (x4) fi ar)) (M_feed_61 K8 nf  (x1) (x2) (x3) (x4) (x5) (x6) (x3) fi ar)) (M_feed_61 K8 nf  (x1) (x2) (x3) (x4) (x5) (x6) (x2) fi ar)) (M_feed_61 K8 nf  (x1) (x2) (x3) (x4) (x5) (x6) (x1) fi ar))
noncomputable def M_feed_8 (nf : Nat) (kf : Nat) : Int32 → Int32 → Int32 → Int32 → Int32 → Int32 → FI → AR → Option (Unit × FI × AR) := Nat.rec (fun _ _ _ _ _ _ _ _ => none) (fun _ K8 => M_feed_8b K8 nf) kf
noncomputable def M_feed (nf : Nat) (fi : FI) (ar : AR) (x1 : Int32) (x2 : Int32) (x3 : Int32) (x4 : Int32) (x5 : Int32) : Option (Unit × FI × AR) :=
  bnd (va_up fi 5 (0 : Int32)) fun fi10 => M_feed_8 nf nf (x1) (x2) (x3) (x4) (x5) (0 : Int32) fi10 ar
set_option maxHeartbeats 4000000 in
set_option maxRecDepth 100000 in
theorem k_feed (l : Launch) (g : GT) (am : Nat → Nat) (sz : Nat) (nf : Nat) (fi : FI) (ar : AR) (p1 : Int32) (p2 : Int32) (p3 : Int32) (p4 : Int32) (p5 : Int32) (r : Unit) (fi' : FI) (ar' : AR) (hF : M_feed nf fi ar p1 p2 p3 p4 p5 = some (r, fi', ar')) : Met l yX11_feed (wx yX11_feed cX11_feed 8 none) ({ frames := 0, cells := 0, slots := 0, locals := 0 } : Room) (va_Pc [.ref (am 0), .int p1, .int p2, .int p3, .int p4, .int p5] (PM g am sz fi ar)) (QMv g am sz r fi' ar') 0 0 (AM am sz) := by
  refine Met.ofW (cc := cX11_feed) (maxL := 8) (ret := none) (by decide) rfl ?_
  intro p e s m args below meth c s₁ B hml hv
  obtain ⟨rfl, hsz, hP, hK, hD0, hE⟩ := hv
  have hx := B.exec
  have hb := B.bytes
  have hr := B.returns
  have hts := atoms_spec (ws := (wx yX11_feed cX11_feed 8 none)) B.pre
  have hT : ∀ w ∈ TB, w.before _ s = true := fun w h => hts w (List.mem_cons_of_mem _ h)
  have hown : s.vm.findClass RX11 = some m.cls := findClass_of_methodNamed B.named
  have hlocks := B.notSynchronized
  subst hsz
  have hD := dM hD0 s.heap.size
  have hA : ∀ q : Nat, s.heap.size ≤ q → AM am s.heap.size q := fun q h => Or.inr h
  have hS : va_S (AM am s.heap.size) s.heap s.heap [] := va_S.rf
  have hl := lv_entry ([.ref (am 0), .int p1, .int p2, .int p3, .int p4, .int p5]) (n := 8) (Nat.le_of_ble_eq_true rfl)
  rw [lg_entry_eq]
  generalize (lg_sl ([.ref (am 0), .int p1, .int p2, .int p3, .int p4, .int p5]) ++ List.replicate (8 - (lg_sl ([.ref (am 0), .int p1, .int p2, .int p3, .int p4, .int p5])).length) Slot.unset).toArray = ls at hl ⊢
  have hl : lv_has ls 8 [(0, .ref (am 0)), (1, .int p1), (2, .int p2), (3, .int p3), (4, .int p4), (5, .int p5)] := hl
  unfold M_feed at hF
  have L8 : ∀ kf : Nat, ∀ (x1 : Int32) (x2 : Int32) (x3 : Int32) (x4 : Int32) (x5 : Int32) (x6 : Int32) (fi : FI) (ar : AR) (H : Heap) (locs : List Loc) (ls : Array Slot), M_feed_8 nf kf x1 x2 x3 x4 x5 x6 fi ar = some (r, fi', ar') → lv_has ls 8 [(0, .ref (am 0)), (1, .int x1), (2, .int x2), (3, .int x3), (4, .int x4), (5, .int x5), (6, .int x6)] → va_P (gD g) vwCl (WM g am fi ar) H → va_S (AM am s.heap.size) s.heap H locs → W p l e (headSpec (wx yX11_feed cX11_feed 8 none) ({ frames := 0, cells := 0, slots := 0, locals := 0 } : Room)).room s m ([.ref (am 0), .int p1, .int p2, .int p3, .int p4, .int p5] : List Value).toArray below meth c H locs 0 0 (MQ below (QMv g am s.heap.size r fi' ar') ([.ref (am 0), .int p1, .int p2, .int p3, .int p4, .int p5] : List Value).toArray s 0 0 (AM am s.heap.size)) (F0 m 8 ls []) := by
    intro kf
    induction kf with
    | zero => intro x1 x2 x3 x4 x5 x6 fi ar H locs ls hF hl hP hS; cases (show (none : Option (Unit × FI × AR)) = _ from hF)
    | succ kf ih8 =>
      intro x1 x2 x3 x4 x5 x6 fi ar H locs ls hF hl hP hS
      obtain ⟨K8, hK8⟩ : ∃ K : Int32 → Int32 → Int32 → Int32 → Int32 → Int32 → FI → AR → Option (Unit × FI × AR), K = M_feed_8 nf kf := ⟨_, rfl⟩
      replace hF : M_feed_8b K8 nf x1 x2 x3 x4 x5 x6 fi ar = some (r, fi', ar') := by rw [hK8]; exact hF
      rw [← hK8] at ih8
      clear hK8
      have J61 : ∀ (x1 : Int32) (x2 : Int32) (x3 : Int32) (x4 : Int32) (x5 : Int32) (x6 : Int32) (t0 : Int32) (fi : FI) (ar : AR) (H : Heap) (locs : List Loc) (ls : Array Slot), M_feed_61 K8 nf x1 x2 x3 x4 x5 x6 t0 fi ar = some (r, fi', ar') → lv_has ls 8 [(0, .ref (am 0)), (1, .int x1), (2, .int x2), (3, .int x3), (4, .int x4), (5, .int x5), (6, .int x6)] → va_P (gD g) vwCl (WM g am fi ar) H → va_S (AM am s.heap.size) s.heap H locs → W p l e (headSpec (wx yX11_feed cX11_feed 8 none) ({ frames := 0, cells := 0, slots := 0, locals := 0 } : Room)).room s m ([.ref (am 0), .int p1, .int p2, .int p3, .int p4, .int p5] : List Value).toArray below meth c H locs 0 0 (MQ below (QMv g am s.heap.size r fi' ar') ([.ref (am 0), .int p1, .int p2, .int p3, .int p4, .int p5] : List Value).toArray s 0 0 (AM am s.heap.size)) (F0 m 61 ls [.int t0]) := by
        intro x1 x2 x3 x4 x5 x6 t0 fi ar H locs ls hF hl hP hS
        unfold M_feed_61 at hF
        refine lv_istore (lv' := [(7, .int (t0)), (0, .ref (am 0)), (1, .int (x1)), (2, .int (x2)), (3, .int (x3)), (4, .int (x4)), (5, .int (x5)), (6, .int (x6))]) hx hb dX11_feed_61 hl (by decide) rfl (fun ls hl => ?_)
        refine lv_aload_n hx hb dX11_feed_63 rfl (lv_at hl 1 rfl) ?_
        refine mg_3 hx hb hT hown hK hP mw6_3 dX11_feed_64 ?_
        refine lv_iload hx hb dX11_feed_67 (lv_at hl 7 rfl) ?_
        refine lv_iload hx hb dX11_feed_69 (lv_at hl 0 rfl) ?_
        refine lv_bipush (v := (24 : Int32)) hx hb dX11_feed_71 (by decide) ?_
        refine lv_bipush (v := (8 : Int32)) hx hb dX11_feed_73 (by decide) ?_
        refine lv_iload hx hb dX11_feed_75 (lv_at hl 7 rfl) ?_
        refine lv_iconst (v := (4 : Int32)) hx hb dX11_feed_77 (by decide) ?_
        refine lv_irem hx hb dX11_feed_78 (by decide) ?_
        refine lv_imul hx hb dX11_feed_79 ?_
        refine lv_isub hx hb dX11_feed_80 ?_
        refine lv_ishr hx hb dX11_feed_81 ?_
        refine lv_i2b hx hb dX11_feed_82 rfl ?_
        replace hF := gd_of hF
        obtain ⟨hi1, hF⟩ := hF
        obtain ⟨ar2, ear2⟩ : ∃ y : AR, y = va_up ar 3 (upd (ar 3) (x6).toNatClampNeg (vp_nar .byte (((t0) >>> (((24 : Int32) - ((8 : Int32) * ((x6) - (x6) / (4 : Int32) * (4 : Int32)))) &&& 31)).toInt8.toInt32))) := ⟨_, rfl⟩
        replace hF := bnd_of hF ear2
        refine ms_3 hx hb hK hP hD hS hi1 dX11_feed_83 (fun H locs hP hS => ?_)
        rw [← ear2] at hP
        obtain ⟨x6_3, ex6_3⟩ : ∃ y : Int32, y = (x6) + (1 : Int32) := ⟨_, rfl⟩
        replace hF := bnd_of hF ex6_3
        refine lv_iinc (v := x6_3) (lv' := [(6, .int (x6_3)), (7, .int (t0)), (0, .ref (am 0)), (1, .int (x1)), (2, .int (x2)), (3, .int (x3)), (4, .int (x4)), (5, .int (x5))]) hx hb dX11_feed_84 hl (k := 7) rfl (by rw [ex6_3]; rfl) (by decide) rfl (fun ls hl => ?_)
        refine lv_goto (tgt := 8) hx hb dX11_feed_87 (by decide) ?_
        exact ih8 (x1) (x2) (x3) (x4) (x5) (x6_3) _ _ _ _ _ hF (lv_sub hl [2, 3, 4, 5, 6, 7, 0] rfl) hP hS
      unfold M_feed_8b at hF
      refine lv_iload hx hb dX11_feed_8 (lv_at hl 6 rfl) ?_
      refine lv_bipush (v := (20 : Int32)) hx hb dX11_feed_10 (by decide) ?_
      refine lv_icmp_ge (tgt := 90) hx hb dX11_feed_12 (by decide) (fun hc4 => ?_) (fun hc4 => ?_)
      · replace hF := br_yes hF hc4
        refine lv_aload_n hx hb dX11_feed_90 rfl (lv_at hl 0 rfl) ?_
        refine lv_iconst (v := (1 : Int32)) hx hb dX11_feed_91 (by decide) ?_
        obtain ⟨fi5, efi5⟩ : ∃ y : FI, y = va_up fi 6 (1 : Int32) := ⟨_, rfl⟩
        replace hF := bnd_of hF efi5
        refine mp_6 hx hb hT hown hK hP hD hS mw7_12 rfl rfl dX11_feed_92 (fun H locs hP hS => ?_)
        rw [← efi5] at hP
        exact rM_v hx hb hr hlocks hF hP hS dX11_feed_95
      · replace hF := br_no hF hc4
        refine lv_iload hx hb dX11_feed_15 (lv_at hl 6 rfl) ?_
        refine lv_iconst (v := (4 : Int32)) hx hb dX11_feed_17 (by decide) ?_
        refine lv_icmp_ge (tgt := 25) hx hb dX11_feed_18 (by decide) (fun hc6 => ?_) (fun hc6 => ?_)
        · replace hF := br_yes hF hc6
          refine lv_iload hx hb dX11_feed_25 (lv_at hl 6 rfl) ?_
          refine lv_bipush (v := (8 : Int32)) hx hb dX11_feed_27 (by decide) ?_
          refine lv_icmp_ge (tgt := 36) hx hb dX11_feed_29 (by decide) (fun hc7 => ?_) (fun hc7 => ?_)
          · replace hF := br_yes hF hc7
            refine lv_iload hx hb dX11_feed_36 (lv_at hl 6 rfl) ?_
            refine lv_bipush (v := (12 : Int32)) hx hb dX11_feed_38 (by decide) ?_
            refine lv_icmp_ge (tgt := 47) hx hb dX11_feed_40 (by decide) (fun hc8 => ?_) (fun hc8 => ?_)
            · replace hF := br_yes hF hc8
              refine lv_iload hx hb dX11_feed_47 (lv_at hl 6 rfl) ?_
              refine lv_bipush (v := (16 : Int32)) hx hb dX11_feed_49 (by decide) ?_
              refine lv_icmp_ge (tgt := 59) hx hb dX11_feed_51 (by decide) (fun hc9 => ?_) (fun hc9 => ?_)
              · replace hF := br_yes hF hc9
                refine lv_iload hx hb dX11_feed_59 (lv_at hl 5 rfl) ?_
                exact J61 (x1) (x2) (x3) (x4) (x5) (x6) (x5) _ _ _ _ _ hF (lv_sub hl [0, 1, 2, 3, 4, 5, 6] rfl) hP hS
              · replace hF := br_no hF hc9
                refine lv_iload hx hb dX11_feed_54 (lv_at hl 4 rfl) ?_
                refine lv_goto (tgt := 61) hx hb dX11_feed_56 (by decide) ?_
                exact J61 (x1) (x2) (x3) (x4) (x5) (x6) (x4) _ _ _ _ _ hF (lv_sub hl [0, 1, 2, 3, 4, 5, 6] rfl) hP hS
            · replace hF := br_no hF hc8
              refine lv_iload_n hx hb dX11_feed_43 rfl (lv_at hl 3 rfl) ?_
              refine lv_goto (tgt := 61) hx hb dX11_feed_44 (by decide) ?_
              exact J61 (x1) (x2) (x3) (x4) (x5) (x6) (x3) _ _ _ _ _ hF (lv_sub hl [0, 1, 2, 3, 4, 5, 6] rfl) hP hS
          · replace hF := br_no hF hc7
            refine lv_iload_n hx hb dX11_feed_32 rfl (lv_at hl 2 rfl) ?_
            refine lv_goto (tgt := 61) hx hb dX11_feed_33 (by decide) ?_
            exact J61 (x1) (x2) (x3) (x4) (x5) (x6) (x2) _ _ _ _ _ hF (lv_sub hl [0, 1, 2, 3, 4, 5, 6] rfl) hP hS
        · replace hF := br_no hF hc6
          refine lv_iload_n hx hb dX11_feed_21 rfl (lv_at hl 1 rfl) ?_
          refine lv_goto (tgt := 61) hx hb dX11_feed_22 (by decide) ?_
          exact J61 (x1) (x2) (x3) (x4) (x5) (x6) (x1) _ _ _ _ _ hF (lv_sub hl [0, 1, 2, 3, 4, 5, 6] rfl) hP hS
  replace hl := lv_sub hl [0, 1, 2, 3, 4, 5] rfl
  refine lv_aload_n hx hb dX11_feed_0 rfl (lv_at hl 0 rfl) ?_
  refine lv_iconst (v := (0 : Int32)) hx hb dX11_feed_1 (by decide) ?_
  obtain ⟨fi10, efi10⟩ : ∃ y : FI, y = va_up fi 5 (0 : Int32) := ⟨_, rfl⟩
  replace hF := bnd_of hF efi10
  refine mp_5 hx hb hT hown hK hP hD hS mw7_11 dX11_feed_2 (fun H locs hP hS => ?_)
  rw [← efi10] at hP
  refine lv_iconst (v := (0 : Int32)) hx hb dX11_feed_5 (by decide) ?_
  refine lv_istore (lv' := [(6, .int (0 : Int32)), (0, .ref (am 0)), (1, .int (p1)), (2, .int (p2)), (3, .int (p3)), (4, .int (p4)), (5, .int (p5))]) hx hb dX11_feed_6 hl (by decide) rfl (fun ls hl => ?_)
  exact L8 nf (p1) (p2) (p3) (p4) (p5) (0 : Int32) _ _ _ _ _ hF (lv_sub hl [1, 2, 3, 4, 5, 6, 0] rfl) hP hS
theorem cw_X11_feed : (Cond.instanceMethod yX11_feed ∈ TB ∧ Cond.selects RX11 yX11_feed yX11_feed ∈ TB ∧ Cond.code yX11_feed cX11_feed 8 none ∈ TB) ∧ (yX11_feed.cls = RX11 ∧ yX11_feed.cls ≠ "java/lang/invoke/MethodHandle" ∧ yX11_feed.cls ≠ "java/lang/invoke/VarHandle" ∧ (parseMethodDescriptor yX11_feed.desc).map (fun d => d.parameters.length) = some 5) := ⟨⟨mw7_8, mw7_9, mw7_10⟩, by decide +kernel⟩
/-! X11_end -/
noncomputable def M_end_61 (K31 : Int32 → Int32 → FI → AR → Option (Int32 × FI × AR)) (nf : Nat) (x1 : Int32) (x2 : Int32) (t1 : Int32) (t2 : Int32) (fi : FI) (ar : AR) : Option (Int32 × FI × AR) :=
  gd (¬ ((t1) < 0 ∨ 4096 ≤ (t1).toNatClampNeg)) (bnd (va_up ar 2 (upd (ar 2) (t1).toNatClampNeg (vp_nar .byte (t2)))) fun ar2 => bnd (va_up fi 4 ((fi 4) + (1 : Int32))) fun fi3 => bnd ((x2) + (1 : Int32)) fun x2_4 => K31 (x1) (x2_4) fi3 ar2)
noncomputable def M_end_31b (K31 : Int32 → Int32 → FI → AR → Option (Int32 × FI × AR)) (nf : Nat) (x1 : Int32) (x2 : Int32) (fi : FI) (ar : AR) : Option (Int32 × FI × AR) :=
  br ((x1) ≤ (x2)) (bnd (va_up fi 6 (0 : Int32)) fun fi6 => some ((fi6 4), fi6, ar)) (br ((fi 6) = 0) (M_end_61 K31 nf  (x1) (x2) (fi 4) (0 : Int32) fi ar) (gd (¬ ((x2) < 0 ∨ 20 ≤ (x2).toNatClampNeg)) (M_end_61 K31 nf  (x1) (x2) (fi 4) (ar 3 (x2).toNatClampNeg) fi ar)))
noncomputable def M_end_31 (nf : Nat) (kf : Nat) : Int32 → Int32 → FI → AR → Option (Int32 × FI × AR) := Nat.rec (fun _ _ _ _ => none) (fun _ K31 => M_end_31b K31 nf) kf
noncomputable def M_end_27 (nf : Nat)  (fi : FI) (ar : AR) : Option (Int32 × FI × AR) :=
  some ((-1 : Int32), fi, ar)
noncomputable def M_end (nf : Nat) (fi : FI) (ar : AR) (x1 : Int32) : Option (Int32 × FI × AR) :=
  bnd (va_up fi 5 (0 : Int32)) fun fi9 => br ((x1) < 0) (M_end_27 nf  fi9 ar) (br ((20 : Int32) < (x1)) (M_end_27 nf  fi9 ar) (br (((fi9 4) + (x1)) ≤ (4096 : Int32)) (M_end_31 nf nf (x1) (0 : Int32) fi9 ar) (M_end_27 nf  fi9 ar)))
set_option maxHeartbeats 4000000 in
set_option maxRecDepth 100000 in
theorem k_end (l : Launch) (g : GT) (am : Nat → Nat) (sz : Nat) (nf : Nat) (fi : FI) (ar : AR) (p1 : Int32) (r : Int32) (fi' : FI) (ar' : AR) (hF : M_end nf fi ar p1 = some (r, fi', ar')) : Met l yX11_end (wx yX11_end cX11_end 3 (some .int)) ({ frames := 0, cells := 0, slots := 0, locals := 0 } : Room) (va_Pc [.ref (am 0), .int p1] (PM g am sz fi ar)) (QMi g am sz r fi' ar') 0 0 (AM am sz) := by
  refine Met.ofW (cc := cX11_end) (maxL := 3) (ret := (some .int)) (by decide) rfl ?_
  intro p e s m args below meth c s₁ B hml hv
  obtain ⟨rfl, hsz, hP, hK, hD0, hE⟩ := hv
  have hx := B.exec
  have hb := B.bytes
  have hr := B.returns
  have hts := atoms_spec (ws := (wx yX11_end cX11_end 3 (some .int))) B.pre
  have hT : ∀ w ∈ TB, w.before _ s = true := fun w h => hts w (List.mem_cons_of_mem _ h)
  have hown : s.vm.findClass RX11 = some m.cls := findClass_of_methodNamed B.named
  have hlocks := B.notSynchronized
  subst hsz
  have hD := dM hD0 s.heap.size
  have hA : ∀ q : Nat, s.heap.size ≤ q → AM am s.heap.size q := fun q h => Or.inr h
  have hS : va_S (AM am s.heap.size) s.heap s.heap [] := va_S.rf
  have hl := lv_entry ([.ref (am 0), .int p1]) (n := 3) (Nat.le_of_ble_eq_true rfl)
  rw [lg_entry_eq]
  generalize (lg_sl ([.ref (am 0), .int p1]) ++ List.replicate (3 - (lg_sl ([.ref (am 0), .int p1])).length) Slot.unset).toArray = ls at hl ⊢
  have hl : lv_has ls 3 [(0, .ref (am 0)), (1, .int p1)] := hl
  unfold M_end at hF
  have L31 : ∀ kf : Nat, ∀ (x1 : Int32) (x2 : Int32) (fi : FI) (ar : AR) (H : Heap) (locs : List Loc) (ls : Array Slot), M_end_31 nf kf x1 x2 fi ar = some (r, fi', ar') → lv_has ls 3 [(0, .ref (am 0)), (1, .int x1), (2, .int x2)] → va_P (gD g) vwCl (WM g am fi ar) H → va_S (AM am s.heap.size) s.heap H locs → W p l e (headSpec (wx yX11_end cX11_end 3 (some .int)) ({ frames := 0, cells := 0, slots := 0, locals := 0 } : Room)).room s m ([.ref (am 0), .int p1] : List Value).toArray below meth c H locs 0 0 (MQ below (QMi g am s.heap.size r fi' ar') ([.ref (am 0), .int p1] : List Value).toArray s 0 0 (AM am s.heap.size)) (F0 m 31 ls []) := by
    intro kf
    induction kf with
    | zero => intro x1 x2 fi ar H locs ls hF hl hP hS; cases (show (none : Option (Int32 × FI × AR)) = _ from hF)
    | succ kf ih31 =>
      intro x1 x2 fi ar H locs ls hF hl hP hS
      obtain ⟨K31, hK31⟩ : ∃ K : Int32 → Int32 → FI → AR → Option (Int32 × FI × AR), K = M_end_31 nf kf := ⟨_, rfl⟩
      replace hF : M_end_31b K31 nf x1 x2 fi ar = some (r, fi', ar') := by rw [hK31]; exact hF
      rw [← hK31] at ih31
      clear hK31
      have J61 : ∀ (x1 : Int32) (x2 : Int32) (t1 : Int32) (t2 : Int32) (fi : FI) (ar : AR) (H : Heap) (locs : List Loc) (ls : Array Slot), M_end_61 K31 nf x1 x2 t1 t2 fi ar = some (r, fi', ar') → lv_has ls 3 [(0, .ref (am 0)), (1, .int x1), (2, .int x2)] → va_P (gD g) vwCl (WM g am fi ar) H → va_S (AM am s.heap.size) s.heap H locs → W p l e (headSpec (wx yX11_end cX11_end 3 (some .int)) ({ frames := 0, cells := 0, slots := 0, locals := 0 } : Room)).room s m ([.ref (am 0), .int p1] : List Value).toArray below meth c H locs 0 0 (MQ below (QMi g am s.heap.size r fi' ar') ([.ref (am 0), .int p1] : List Value).toArray s 0 0 (AM am s.heap.size)) (F0 m 61 ls [.int t2, .int t1, .ref (am 2)]) := by
        intro x1 x2 t1 t2 fi ar H locs ls hF hl hP hS
        unfold M_end_61 at hF
        replace hF := gd_of hF
        obtain ⟨hi1, hF⟩ := hF
        obtain ⟨ar2, ear2⟩ : ∃ y : AR, y = va_up ar 2 (upd (ar 2) (t1).toNatClampNeg (vp_nar .byte (t2))) := ⟨_, rfl⟩
        replace hF := bnd_of hF ear2
        refine ms_2 hx hb hK hP hD hS hi1 dX11_end_61 (fun H locs hP hS => ?_)
        rw [← ear2] at hP
        refine lv_aload_n hx hb dX11_end_62 rfl (lv_at hl 0 rfl) ?_
        refine lv_dup hx hb dX11_end_63 rfl ?_
        refine mg_4 hx hb hT hown hK hP mw8_6 dX11_end_64 ?_
        refine lv_iconst (v := (1 : Int32)) hx hb dX11_end_67 (by decide) ?_
        refine lv_iadd hx hb dX11_end_68 ?_
        obtain ⟨fi3, efi3⟩ : ∃ y : FI, y = va_up fi 4 ((fi 4) + (1 : Int32)) := ⟨_, rfl⟩
        replace hF := bnd_of hF efi3
        refine mp_4 hx hb hT hown hK hP hD hS mw8_6 dX11_end_69 (fun H locs hP hS => ?_)
        rw [← efi3] at hP
        obtain ⟨x2_4, ex2_4⟩ : ∃ y : Int32, y = (x2) + (1 : Int32) := ⟨_, rfl⟩
        replace hF := bnd_of hF ex2_4
        refine lv_iinc (v := x2_4) (lv' := [(2, .int (x2_4)), (0, .ref (am 0)), (1, .int (x1))]) hx hb dX11_end_72 hl (k := 2) rfl (by rw [ex2_4]; rfl) (by decide) rfl (fun ls hl => ?_)
        refine lv_goto (tgt := 31) hx hb dX11_end_75 (by decide) ?_
        exact ih31 (x1) (x2_4) _ _ _ _ _ hF (lv_sub hl [1, 2, 0] rfl) hP hS
      unfold M_end_31b at hF
      refine lv_iload_n hx hb dX11_end_31 rfl (lv_at hl 2 rfl) ?_
      refine lv_iload_n hx hb dX11_end_32 rfl (lv_at hl 1 rfl) ?_
      refine lv_icmp_ge (tgt := 78) hx hb dX11_end_33 (by decide) (fun hc5 => ?_) (fun hc5 => ?_)
      · replace hF := br_yes hF hc5
        refine lv_aload_n hx hb dX11_end_78 rfl (lv_at hl 0 rfl) ?_
        refine lv_iconst (v := (0 : Int32)) hx hb dX11_end_79 (by decide) ?_
        obtain ⟨fi6, efi6⟩ : ∃ y : FI, y = va_up fi 6 (0 : Int32) := ⟨_, rfl⟩
        replace hF := bnd_of hF efi6
        refine mp_6 hx hb hT hown hK hP hD hS mw7_12 rfl rfl dX11_end_80 (fun H locs hP hS => ?_)
        rw [← efi6] at hP
        refine lv_aload_n hx hb dX11_end_83 rfl (lv_at hl 0 rfl) ?_
        refine mg_4 hx hb hT hown hK hP mw8_6 dX11_end_84 ?_
        exact rM_i hx hb hr hlocks hF hP hS dX11_end_87
      · replace hF := br_no hF hc5
        refine lv_aload_n hx hb dX11_end_36 rfl (lv_at hl 0 rfl) ?_
        refine mg_2 hx hb hT hown hK hP mw6_2 dX11_end_37 ?_
        refine lv_aload_n hx hb dX11_end_40 rfl (lv_at hl 0 rfl) ?_
        refine mg_4 hx hb hT hown hK hP mw8_6 dX11_end_41 ?_
        refine lv_aload_n hx hb dX11_end_44 rfl (lv_at hl 0 rfl) ?_
        refine mg_6 hx hb hT hown hK hP mw7_12 dX11_end_45 ?_
        refine lv_if_eq (tgt := 60) hx hb dX11_end_48 (by decide) (fun hc7 => ?_) (fun hc7 => ?_)
        · replace hF := br_yes hF hc7
          refine lv_iconst (v := (0 : Int32)) hx hb dX11_end_60 (by decide) ?_
          exact J61 (x1) (x2) (fi 4) (0 : Int32) _ _ _ _ _ hF (lv_sub hl [0, 1, 2] rfl) hP hS
        · replace hF := br_no hF hc7
          refine lv_aload_n hx hb dX11_end_51 rfl (lv_at hl 0 rfl) ?_
          refine mg_3 hx hb hT hown hK hP mw6_3 dX11_end_52 ?_
          refine lv_iload_n hx hb dX11_end_55 rfl (lv_at hl 2 rfl) ?_
          replace hF := gd_of hF
          obtain ⟨hi8, hF⟩ := hF
          refine ml_3 hx hb hK hP hi8 dX11_end_56 ?_
          refine lv_goto (tgt := 61) hx hb dX11_end_57 (by decide) ?_
          exact J61 (x1) (x2) (fi 4) (ar 3 (x2).toNatClampNeg) _ _ _ _ _ hF (lv_sub hl [0, 1, 2] rfl) hP hS
  have J27 : ∀  (fi : FI) (ar : AR) (H : Heap) (locs : List Loc) (ls : Array Slot), M_end_27 nf fi ar = some (r, fi', ar') → lv_has ls 3 [(0, .ref (am 0))] → va_P (gD g) vwCl (WM g am fi ar) H → va_S (AM am s.heap.size) s.heap H locs → W p l e (headSpec (wx yX11_end cX11_end 3 (some .int)) ({ frames := 0, cells := 0, slots := 0, locals := 0 } : Room)).room s m ([.ref (am 0), .int p1] : List Value).toArray below meth c H locs 0 0 (MQ below (QMi g am s.heap.size r fi' ar') ([.ref (am 0), .int p1] : List Value).toArray s 0 0 (AM am s.heap.size)) (F0 m 27 ls []) := by
    intro fi ar H locs ls hF hl hP hS
    unfold M_end_27 at hF
    refine lv_iconst (v := (-1 : Int32)) hx hb dX11_end_27 (by decide) ?_
    exact rM_i hx hb hr hlocks hF hP hS dX11_end_28
  replace hl := lv_sub hl [0, 1] rfl
  refine lv_aload_n hx hb dX11_end_0 rfl (lv_at hl 0 rfl) ?_
  refine lv_iconst (v := (0 : Int32)) hx hb dX11_end_1 (by decide) ?_
  obtain ⟨fi9, efi9⟩ : ∃ y : FI, y = va_up fi 5 (0 : Int32) := ⟨_, rfl⟩
  replace hF := bnd_of hF efi9
  refine mp_5 hx hb hT hown hK hP hD hS mw7_11 dX11_end_2 (fun H locs hP hS => ?_)
  rw [← efi9] at hP
  refine lv_iload_n hx hb dX11_end_5 rfl (lv_at hl 1 rfl) ?_
  refine lv_if_lt (tgt := 27) hx hb dX11_end_6 (by decide) (fun hc10 => ?_) (fun hc10 => ?_)
  · replace hF := br_yes hF hc10
    exact J27  _ _ _ _ _ hF (lv_sub hl [0] rfl) hP hS
  · replace hF := br_no hF hc10
    refine lv_iload_n hx hb dX11_end_9 rfl (lv_at hl 1 rfl) ?_
    refine lv_bipush (v := (20 : Int32)) hx hb dX11_end_10 (by decide) ?_
    refine lv_icmp_gt (tgt := 27) hx hb dX11_end_12 (by decide) (fun hc11 => ?_) (fun hc11 => ?_)
    · replace hF := br_yes hF hc11
      exact J27  _ _ _ _ _ hF (lv_sub hl [0] rfl) hP hS
    · replace hF := br_no hF hc11
      refine lv_aload_n hx hb dX11_end_15 rfl (lv_at hl 0 rfl) ?_
      refine mg_4 hx hb hT hown hK hP mw8_6 dX11_end_16 ?_
      refine lv_iload_n hx hb dX11_end_19 rfl (lv_at hl 1 rfl) ?_
      refine lv_iadd hx hb dX11_end_20 ?_
      refine lv_sipush (v := (4096 : Int32)) hx hb dX11_end_21 (by decide) ?_
      refine lv_icmp_le (tgt := 29) hx hb dX11_end_24 (by decide) (fun hc12 => ?_) (fun hc12 => ?_)
      · replace hF := br_yes hF hc12
        refine lv_iconst (v := (0 : Int32)) hx hb dX11_end_29 (by decide) ?_
        refine lv_istore_n (lv' := [(2, .int (0 : Int32)), (0, .ref (am 0)), (1, .int (p1))]) hx hb dX11_end_30 rfl hl (by decide) rfl (fun ls hl => ?_)
        exact L31 nf (p1) (0 : Int32) _ _ _ _ _ hF (lv_sub hl [1, 2, 0] rfl) hP hS
      · replace hF := br_no hF hc12
        exact J27  _ _ _ _ _ hF (lv_sub hl [0] rfl) hP hS
theorem cw_X11_end : (Cond.instanceMethod yX11_end ∈ TB ∧ Cond.selects RX11 yX11_end yX11_end ∈ TB ∧ Cond.code yX11_end cX11_end 3 (some .int) ∈ TB) ∧ (yX11_end.cls = RX11 ∧ yX11_end.cls ≠ "java/lang/invoke/MethodHandle" ∧ yX11_end.cls ≠ "java/lang/invoke/VarHandle" ∧ (parseMethodDescriptor yX11_end.desc).map (fun d => d.parameters.length) = some 1) := ⟨⟨mw8_3, mw8_4, mw8_5⟩, by decide +kernel⟩
/-! X11_clear -/
noncomputable def M_clear (nf : Nat) (fi : FI) (ar : AR)  : Option (Unit × FI × AR) :=
  bnd (va_up fi 5 (0 : Int32)) fun fi1 => bnd (va_up fi1 4 (0 : Int32)) fun fi2 => some ((), fi2, ar)
set_option maxHeartbeats 4000000 in
set_option maxRecDepth 100000 in
theorem k_clear (l : Launch) (g : GT) (am : Nat → Nat) (sz : Nat) (nf : Nat) (fi : FI) (ar : AR)  (r : Unit) (fi' : FI) (ar' : AR) (hF : M_clear nf fi ar  = some (r, fi', ar')) : Met l yX11_clear (wx yX11_clear cX11_clear 1 none) ({ frames := 0, cells := 0, slots := 0, locals := 0 } : Room) (va_Pc [.ref (am 0)] (PM g am sz fi ar)) (QMv g am sz r fi' ar') 0 0 (AM am sz) := by
  refine Met.ofW (cc := cX11_clear) (maxL := 1) (ret := none) (by decide) rfl ?_
  intro p e s m args below meth c s₁ B hml hv
  obtain ⟨rfl, hsz, hP, hK, hD0, hE⟩ := hv
  have hx := B.exec
  have hb := B.bytes
  have hr := B.returns
  have hts := atoms_spec (ws := (wx yX11_clear cX11_clear 1 none)) B.pre
  have hT : ∀ w ∈ TB, w.before _ s = true := fun w h => hts w (List.mem_cons_of_mem _ h)
  have hown : s.vm.findClass RX11 = some m.cls := findClass_of_methodNamed B.named
  have hlocks := B.notSynchronized
  subst hsz
  have hD := dM hD0 s.heap.size
  have hA : ∀ q : Nat, s.heap.size ≤ q → AM am s.heap.size q := fun q h => Or.inr h
  have hS : va_S (AM am s.heap.size) s.heap s.heap [] := va_S.rf
  have hl := lv_entry ([.ref (am 0)]) (n := 1) (Nat.le_of_ble_eq_true rfl)
  rw [lg_entry_eq]
  generalize (lg_sl ([.ref (am 0)]) ++ List.replicate (1 - (lg_sl ([.ref (am 0)])).length) Slot.unset).toArray = ls at hl ⊢
  have hl : lv_has ls 1 [(0, .ref (am 0))] := hl
  unfold M_clear at hF
  replace hl := lv_sub hl [0] rfl
  refine lv_aload_n hx hb dX11_clear_0 rfl (lv_at hl 0 rfl) ?_
  refine lv_iconst (v := (0 : Int32)) hx hb dX11_clear_1 (by decide) ?_
  obtain ⟨fi1, efi1⟩ : ∃ y : FI, y = va_up fi 5 (0 : Int32) := ⟨_, rfl⟩
  replace hF := bnd_of hF efi1
  refine mp_5 hx hb hT hown hK hP hD hS mw7_11 dX11_clear_2 (fun H locs hP hS => ?_)
  rw [← efi1] at hP
  refine lv_aload_n hx hb dX11_clear_5 rfl (lv_at hl 0 rfl) ?_
  refine lv_iconst (v := (0 : Int32)) hx hb dX11_clear_6 (by decide) ?_
  obtain ⟨fi2, efi2⟩ : ∃ y : FI, y = va_up fi1 4 (0 : Int32) := ⟨_, rfl⟩
  replace hF := bnd_of hF efi2
  refine mp_4 hx hb hT hown hK hP hD hS mw8_6 dX11_clear_7 (fun H locs hP hS => ?_)
  rw [← efi2] at hP
  exact rM_v hx hb hr hlocks hF hP hS dX11_clear_10
theorem cw_X11_clear : (Cond.instanceMethod yX11_clear ∈ TB ∧ Cond.selects RX11 yX11_clear yX11_clear ∈ TB ∧ Cond.code yX11_clear cX11_clear 1 none ∈ TB) ∧ (yX11_clear.cls = RX11 ∧ yX11_clear.cls ≠ "java/lang/invoke/MethodHandle" ∧ yX11_clear.cls ≠ "java/lang/invoke/VarHandle" ∧ (parseMethodDescriptor yX11_clear.desc).map (fun d => d.parameters.length) = some 0) := ⟨⟨mw8_16, mw8_17, mw8_18⟩, by decide +kernel⟩
/-! X11_taken -/
noncomputable def M_taken (nf : Nat) (fi : FI) (ar : AR) (x1 : Int32) : Option (Int32 × FI × AR) :=
  gd (¬ ((x1) < 0 ∨ 4096 ≤ (x1).toNatClampNeg)) (some (((ar 2 (x1).toNatClampNeg) &&& (255 : Int32)), fi, ar))
set_option maxHeartbeats 4000000 in
set_option maxRecDepth 100000 in
theorem k_taken (l : Launch) (g : GT) (am : Nat → Nat) (sz : Nat) (nf : Nat) (fi : FI) (ar : AR) (p1 : Int32) (r : Int32) (fi' : FI) (ar' : AR) (hF : M_taken nf fi ar p1 = some (r, fi', ar')) : Met l yX11_taken (wx yX11_taken cX11_taken 2 (some .int)) ({ frames := 0, cells := 0, slots := 0, locals := 0 } : Room) (va_Pc [.ref (am 0), .int p1] (PM g am sz fi ar)) (QMi g am sz r fi' ar') 0 0 (AM am sz) := by
  refine Met.ofW (cc := cX11_taken) (maxL := 2) (ret := (some .int)) (by decide) rfl ?_
  intro p e s m args below meth c s₁ B hml hv
  obtain ⟨rfl, hsz, hP, hK, hD0, hE⟩ := hv
  have hx := B.exec
  have hb := B.bytes
  have hr := B.returns
  have hts := atoms_spec (ws := (wx yX11_taken cX11_taken 2 (some .int))) B.pre
  have hT : ∀ w ∈ TB, w.before _ s = true := fun w h => hts w (List.mem_cons_of_mem _ h)
  have hown : s.vm.findClass RX11 = some m.cls := findClass_of_methodNamed B.named
  have hlocks := B.notSynchronized
  subst hsz
  have hD := dM hD0 s.heap.size
  have hA : ∀ q : Nat, s.heap.size ≤ q → AM am s.heap.size q := fun q h => Or.inr h
  have hS : va_S (AM am s.heap.size) s.heap s.heap [] := va_S.rf
  have hl := lv_entry ([.ref (am 0), .int p1]) (n := 2) (Nat.le_of_ble_eq_true rfl)
  rw [lg_entry_eq]
  generalize (lg_sl ([.ref (am 0), .int p1]) ++ List.replicate (2 - (lg_sl ([.ref (am 0), .int p1])).length) Slot.unset).toArray = ls at hl ⊢
  have hl : lv_has ls 2 [(0, .ref (am 0)), (1, .int p1)] := hl
  unfold M_taken at hF
  replace hl := lv_sub hl [0, 1] rfl
  refine lv_aload_n hx hb dX11_taken_0 rfl (lv_at hl 0 rfl) ?_
  refine mg_2 hx hb hT hown hK hP mw6_2 dX11_taken_1 ?_
  refine lv_iload_n hx hb dX11_taken_4 rfl (lv_at hl 1 rfl) ?_
  replace hF := gd_of hF
  obtain ⟨hi1, hF⟩ := hF
  refine ml_2 hx hb hK hP hi1 dX11_taken_5 ?_
  refine lv_sipush (v := (255 : Int32)) hx hb dX11_taken_6 (by decide) ?_
  refine lv_iand hx hb dX11_taken_9 ?_
  exact rM_i hx hb hr hlocks hF hP hS dX11_taken_10
theorem cw_X11_taken : (Cond.instanceMethod yX11_taken ∈ TB ∧ Cond.selects RX11 yX11_taken yX11_taken ∈ TB ∧ Cond.code yX11_taken cX11_taken 2 (some .int) ∈ TB) ∧ (yX11_taken.cls = RX11 ∧ yX11_taken.cls ≠ "java/lang/invoke/MethodHandle" ∧ yX11_taken.cls ≠ "java/lang/invoke/VarHandle" ∧ (parseMethodDescriptor yX11_taken.desc).map (fun d => d.parameters.length) = some 1) := ⟨⟨mw18_7, mw18_8, mw18_9⟩, by decide +kernel⟩
/-! X11_fault -/
noncomputable def M_fault (nf : Nat) (fi : FI) (ar : AR)  : Option (Int32 × FI × AR) :=
  bnd (va_up fi 5 (0 : Int32)) fun fi1 => obnd3 (M_look nf fi1 ar) fun r5 fi3 ar4 => some ((fi3 16), fi3, ar4)
set_option maxHeartbeats 4000000 in
set_option maxRecDepth 100000 in
theorem k_fault (l : Launch) (g : GT) (am : Nat → Nat) (sz : Nat) (nf : Nat) (fi : FI) (ar : AR)  (r : Int32) (fi' : FI) (ar' : AR) (hF : M_fault nf fi ar  = some (r, fi', ar')) : Met l yX11_fault (wx yX11_fault cX11_fault 1 (some .int)) ({ frames := 9, cells := 0, slots := 0, locals := 209 } : Room) (va_Pc [.ref (am 0)] (PM g am sz fi ar)) (QMi g am sz r fi' ar') 0 0 (AM am sz) := by
  refine Met.ofW (cc := cX11_fault) (maxL := 1) (ret := (some .int)) (by decide) rfl ?_
  intro p e s m args below meth c s₁ B hml hv
  obtain ⟨rfl, hsz, hP, hK, hD0, hE⟩ := hv
  have hx := B.exec
  have hb := B.bytes
  have hr := B.returns
  have hts := atoms_spec (ws := (wx yX11_fault cX11_fault 1 (some .int))) B.pre
  have hT : ∀ w ∈ TB, w.before _ s = true := fun w h => hts w (List.mem_cons_of_mem _ h)
  have hown : s.vm.findClass RX11 = some m.cls := findClass_of_methodNamed B.named
  have hlocks := B.notSynchronized
  subst hsz
  have hD := dM hD0 s.heap.size
  have hA : ∀ q : Nat, s.heap.size ≤ q → AM am s.heap.size q := fun q h => Or.inr h
  have hS : va_S (AM am s.heap.size) s.heap s.heap [] := va_S.rf
  have hl := lv_entry ([.ref (am 0)]) (n := 1) (Nat.le_of_ble_eq_true rfl)
  rw [lg_entry_eq]
  generalize (lg_sl ([.ref (am 0)]) ++ List.replicate (1 - (lg_sl ([.ref (am 0)])).length) Slot.unset).toArray = ls at hl ⊢
  have hl : lv_has ls 1 [(0, .ref (am 0))] := hl
  unfold M_fault at hF
  replace hl := lv_sub hl [0] rfl
  refine lv_aload_n hx hb dX11_fault_0 rfl (lv_at hl 0 rfl) ?_
  refine lv_iconst (v := (0 : Int32)) hx hb dX11_fault_1 (by decide) ?_
  obtain ⟨fi1, efi1⟩ : ∃ y : FI, y = va_up fi 5 (0 : Int32) := ⟨_, rfl⟩
  replace hF := bnd_of hF efi1
  refine mp_5 hx hb hT hown hK hP hD hS mw7_11 dX11_fault_2 (fun H locs hP hS => ?_)
  rw [← efi1] at hP
  refine lv_aload_n hx hb dX11_fault_5 rfl (lv_at hl 0 rfl) ?_
  replace hF := obnd3_of hF
  obtain ⟨r5, fi3, ar4, h2, hF⟩ := hF
  refine cM_v (As := []) (rest := []) hx hb hml hT hown hK hE hD hA hP hS (k_look l g am _ nf fi1 ar r5 fi3 ar4 h2) cw_X11_look mw31_6 ⟨⟨rfl, rfl⟩, Nat.le_of_ble_eq_true rfl, Nat.le_of_ble_eq_true rfl⟩ rfl hl.1 rfl (Nat.le_of_ble_eq_true rfl) dX11_fault_6 ⟨Nat.zero_le _, Nat.zero_le _⟩ (fun H locs hP hS => ?_)
  refine lv_aload_n hx hb dX11_fault_9 rfl (lv_at hl 0 rfl) ?_
  refine mg_16 hx hb hT hown hK hP mw31_5 dX11_fault_10 ?_
  exact rM_i hx hb hr hlocks hF hP hS dX11_fault_13
theorem cw_X11_fault : (Cond.instanceMethod yX11_fault ∈ TB ∧ Cond.selects RX11 yX11_fault yX11_fault ∈ TB ∧ Cond.code yX11_fault cX11_fault 1 (some .int) ∈ TB) ∧ (yX11_fault.cls = RX11 ∧ yX11_fault.cls ≠ "java/lang/invoke/MethodHandle" ∧ yX11_fault.cls ≠ "java/lang/invoke/VarHandle" ∧ (parseMethodDescriptor yX11_fault.desc).map (fun d => d.parameters.length) = some 0) := ⟨⟨mw31_2, mw31_3, mw31_4⟩, by decide +kernel⟩
/-! X11_changed -/
noncomputable def M_changed (nf : Nat) (fi : FI) (ar : AR)  : Option (Unit × FI × AR) :=
  bnd (va_up fi 15 (0 : Int32)) fun fi1 => some ((), fi1, ar)
set_option maxHeartbeats 4000000 in
set_option maxRecDepth 100000 in
theorem k_changed (l : Launch) (g : GT) (am : Nat → Nat) (sz : Nat) (nf : Nat) (fi : FI) (ar : AR)  (r : Unit) (fi' : FI) (ar' : AR) (hF : M_changed nf fi ar  = some (r, fi', ar')) : Met l yX11_changed (wx yX11_changed cX11_changed 1 none) ({ frames := 0, cells := 0, slots := 0, locals := 0 } : Room) (va_Pc [.ref (am 0)] (PM g am sz fi ar)) (QMv g am sz r fi' ar') 0 0 (AM am sz) := by
  refine Met.ofW (cc := cX11_changed) (maxL := 1) (ret := none) (by decide) rfl ?_
  intro p e s m args below meth c s₁ B hml hv
  obtain ⟨rfl, hsz, hP, hK, hD0, hE⟩ := hv
  have hx := B.exec
  have hb := B.bytes
  have hr := B.returns
  have hts := atoms_spec (ws := (wx yX11_changed cX11_changed 1 none)) B.pre
  have hT : ∀ w ∈ TB, w.before _ s = true := fun w h => hts w (List.mem_cons_of_mem _ h)
  have hown : s.vm.findClass RX11 = some m.cls := findClass_of_methodNamed B.named
  have hlocks := B.notSynchronized
  subst hsz
  have hD := dM hD0 s.heap.size
  have hA : ∀ q : Nat, s.heap.size ≤ q → AM am s.heap.size q := fun q h => Or.inr h
  have hS : va_S (AM am s.heap.size) s.heap s.heap [] := va_S.rf
  have hl := lv_entry ([.ref (am 0)]) (n := 1) (Nat.le_of_ble_eq_true rfl)
  rw [lg_entry_eq]
  generalize (lg_sl ([.ref (am 0)]) ++ List.replicate (1 - (lg_sl ([.ref (am 0)])).length) Slot.unset).toArray = ls at hl ⊢
  have hl : lv_has ls 1 [(0, .ref (am 0))] := hl
  unfold M_changed at hF
  replace hl := lv_sub hl [0] rfl
  refine lv_aload_n hx hb dX11_changed_0 rfl (lv_at hl 0 rfl) ?_
  refine lv_iconst (v := (0 : Int32)) hx hb dX11_changed_1 (by decide) ?_
  obtain ⟨fi1, efi1⟩ : ∃ y : FI, y = va_up fi 15 (0 : Int32) := ⟨_, rfl⟩
  replace hF := bnd_of hF efi1
  refine mp_15 hx hb hT hown hK hP hD hS mw20_18 rfl rfl dX11_changed_2 (fun H locs hP hS => ?_)
  rw [← efi1] at hP
  exact rM_v hx hb hr hlocks hF hP hS dX11_changed_5
theorem cw_X11_changed : (Cond.instanceMethod yX11_changed ∈ TB ∧ Cond.selects RX11 yX11_changed yX11_changed ∈ TB ∧ Cond.code yX11_changed cX11_changed 1 none ∈ TB) ∧ (yX11_changed.cls = RX11 ∧ yX11_changed.cls ≠ "java/lang/invoke/MethodHandle" ∧ yX11_changed.cls ≠ "java/lang/invoke/VarHandle" ∧ (parseMethodDescriptor yX11_changed.desc).map (fun d => d.parameters.length) = some 0) := ⟨⟨mw20_15, mw20_16, mw20_17⟩, by decide +kernel⟩
/-! X11_poke -/
noncomputable def M_poke_28 (nf : Nat)  (fi : FI) (ar : AR) : Option (Int32 × FI × AR) :=
  some ((0 : Int32), fi, ar)
noncomputable def M_poke (nf : Nat) (fi : FI) (ar : AR) (x1 : Int32) (x2 : Int32) (x3 : Int32) : Option (Int32 × FI × AR) :=
  bnd (va_up fi 5 (0 : Int32)) fun fi1 => br ((x1) < 0) (M_poke_28 nf  fi1 ar) (br ((fi1 0) ≤ (x1)) (M_poke_28 nf  fi1 ar) (br ((x2) < 0) (M_poke_28 nf  fi1 ar) (br ((x2) ≤ (511 : Int32)) (gd (¬ ((((512 : Int32) * (x1)) + (x2)) < 0 ∨ 524288 ≤ (((512 : Int32) * (x1)) + (x2)).toNatClampNeg)) (bnd (va_up ar 1 (upd (ar 1) (((512 : Int32) * (x1)) + (x2)).toNatClampNeg (vp_nar .byte ((x3).toInt8.toInt32)))) fun ar7 => obnd3 (M_changed nf fi1 ar7) fun r11 fi9 ar10 => bnd (va_up fi9 14 (0 : Int32)) fun fi12 => some ((1 : Int32), fi12, ar10))) (M_poke_28 nf  fi1 ar))))
set_option maxHeartbeats 4000000 in
set_option maxRecDepth 100000 in
theorem k_poke (l : Launch) (g : GT) (am : Nat → Nat) (sz : Nat) (nf : Nat) (fi : FI) (ar : AR) (p1 : Int32) (p2 : Int32) (p3 : Int32) (r : Int32) (fi' : FI) (ar' : AR) (hF : M_poke nf fi ar p1 p2 p3 = some (r, fi', ar')) : Met l yX11_poke (wx yX11_poke cX11_poke 4 (some .boolean)) ({ frames := 1, cells := 0, slots := 0, locals := 20 } : Room) (va_Pc [.ref (am 0), .int p1, .int p2, .int p3] (PM g am sz fi ar)) (QMi g am sz r fi' ar') 0 0 (AM am sz) := by
  refine Met.ofW (cc := cX11_poke) (maxL := 4) (ret := (some .boolean)) (by decide) rfl ?_
  intro p e s m args below meth c s₁ B hml hv
  obtain ⟨rfl, hsz, hP, hK, hD0, hE⟩ := hv
  have hx := B.exec
  have hb := B.bytes
  have hr := B.returns
  have hts := atoms_spec (ws := (wx yX11_poke cX11_poke 4 (some .boolean))) B.pre
  have hT : ∀ w ∈ TB, w.before _ s = true := fun w h => hts w (List.mem_cons_of_mem _ h)
  have hown : s.vm.findClass RX11 = some m.cls := findClass_of_methodNamed B.named
  have hlocks := B.notSynchronized
  subst hsz
  have hD := dM hD0 s.heap.size
  have hA : ∀ q : Nat, s.heap.size ≤ q → AM am s.heap.size q := fun q h => Or.inr h
  have hS : va_S (AM am s.heap.size) s.heap s.heap [] := va_S.rf
  have hl := lv_entry ([.ref (am 0), .int p1, .int p2, .int p3]) (n := 4) (Nat.le_of_ble_eq_true rfl)
  rw [lg_entry_eq]
  generalize (lg_sl ([.ref (am 0), .int p1, .int p2, .int p3]) ++ List.replicate (4 - (lg_sl ([.ref (am 0), .int p1, .int p2, .int p3])).length) Slot.unset).toArray = ls at hl ⊢
  have hl : lv_has ls 4 [(0, .ref (am 0)), (1, .int p1), (2, .int p2), (3, .int p3)] := hl
  unfold M_poke at hF
  have J28 : ∀  (fi : FI) (ar : AR) (H : Heap) (locs : List Loc) (ls : Array Slot), M_poke_28 nf fi ar = some (r, fi', ar') → lv_has ls 4 [(0, .ref (am 0))] → va_P (gD g) vwCl (WM g am fi ar) H → va_S (AM am s.heap.size) s.heap H locs → W p l e (headSpec (wx yX11_poke cX11_poke 4 (some .boolean)) ({ frames := 1, cells := 0, slots := 0, locals := 20 } : Room)).room s m ([.ref (am 0), .int p1, .int p2, .int p3] : List Value).toArray below meth c H locs 0 0 (MQ below (QMi g am s.heap.size r fi' ar') ([.ref (am 0), .int p1, .int p2, .int p3] : List Value).toArray s 0 0 (AM am s.heap.size)) (F0 m 28 ls []) := by
    intro fi ar H locs ls hF hl hP hS
    unfold M_poke_28 at hF
    refine lv_iconst (v := (0 : Int32)) hx hb dX11_poke_28 (by decide) ?_
    exact rM_z hx hb hr hlocks rfl hF hP hS dX11_poke_29
  replace hl := lv_sub hl [0, 1, 2, 3] rfl
  refine lv_aload_n hx hb dX11_poke_0 rfl (lv_at hl 0 rfl) ?_
  refine lv_iconst (v := (0 : Int32)) hx hb dX11_poke_1 (by decide) ?_
  obtain ⟨fi1, efi1⟩ : ∃ y : FI, y = va_up fi 5 (0 : Int32) := ⟨_, rfl⟩
  replace hF := bnd_of hF efi1
  refine mp_5 hx hb hT hown hK hP hD hS mw7_11 dX11_poke_2 (fun H locs hP hS => ?_)
  rw [← efi1] at hP
  refine lv_iload_n hx hb dX11_poke_5 rfl (lv_at hl 1 rfl) ?_
  refine lv_if_lt (tgt := 28) hx hb dX11_poke_6 (by decide) (fun hc2 => ?_) (fun hc2 => ?_)
  · replace hF := br_yes hF hc2
    exact J28  _ _ _ _ _ hF (lv_sub hl [0] rfl) hP hS
  · replace hF := br_no hF hc2
    refine lv_iload_n hx hb dX11_poke_9 rfl (lv_at hl 1 rfl) ?_
    refine lv_aload_n hx hb dX11_poke_10 rfl (lv_at hl 0 rfl) ?_
    refine mg_0 hx hb hT hown hK hP mw6_22 dX11_poke_11 ?_
    refine lv_icmp_ge (tgt := 28) hx hb dX11_poke_14 (by decide) (fun hc3 => ?_) (fun hc3 => ?_)
    · replace hF := br_yes hF hc3
      exact J28  _ _ _ _ _ hF (lv_sub hl [0] rfl) hP hS
    · replace hF := br_no hF hc3
      refine lv_iload_n hx hb dX11_poke_17 rfl (lv_at hl 2 rfl) ?_
      refine lv_if_lt (tgt := 28) hx hb dX11_poke_18 (by decide) (fun hc4 => ?_) (fun hc4 => ?_)
      · replace hF := br_yes hF hc4
        exact J28  _ _ _ _ _ hF (lv_sub hl [0] rfl) hP hS
      · replace hF := br_no hF hc4
        refine lv_iload_n hx hb dX11_poke_21 rfl (lv_at hl 2 rfl) ?_
        refine lv_sipush (v := (511 : Int32)) hx hb dX11_poke_22 (by decide) ?_
        refine lv_icmp_le (tgt := 30) hx hb dX11_poke_25 (by decide) (fun hc5 => ?_) (fun hc5 => ?_)
        · replace hF := br_yes hF hc5
          refine lv_aload_n hx hb dX11_poke_30 rfl (lv_at hl 0 rfl) ?_
          refine mg_1 hx hb hT hown hK hP mw6_1 dX11_poke_31 ?_
          refine lv_sipush (v := (512 : Int32)) hx hb dX11_poke_34 (by decide) ?_
          refine lv_iload_n hx hb dX11_poke_37 rfl (lv_at hl 1 rfl) ?_
          refine lv_imul hx hb dX11_poke_38 ?_
          refine lv_iload_n hx hb dX11_poke_39 rfl (lv_at hl 2 rfl) ?_
          refine lv_iadd hx hb dX11_poke_40 ?_
          refine lv_iload_n hx hb dX11_poke_41 rfl (lv_at hl 3 rfl) ?_
          refine lv_i2b hx hb dX11_poke_42 rfl ?_
          replace hF := gd_of hF
          obtain ⟨hi6, hF⟩ := hF
          obtain ⟨ar7, ear7⟩ : ∃ y : AR, y = va_up ar 1 (upd (ar 1) (((512 : Int32) * (p1)) + (p2)).toNatClampNeg (vp_nar .byte ((p3).toInt8.toInt32))) := ⟨_, rfl⟩
          replace hF := bnd_of hF ear7
          refine ms_1 hx hb hK hP hD hS hi6 dX11_poke_43 (fun H locs hP hS => ?_)
          rw [← ear7] at hP
          refine lv_aload_n hx hb dX11_poke_44 rfl (lv_at hl 0 rfl) ?_
          replace hF := obnd3_of hF
          obtain ⟨r11, fi9, ar10, h8, hF⟩ := hF
          refine cM_v (As := []) (rest := []) hx hb hml hT hown hK hE hD hA hP hS (k_changed l g am _ nf fi1 ar7 r11 fi9 ar10 h8) cw_X11_changed mw20_14 ⟨⟨rfl, rfl⟩, Nat.le_of_ble_eq_true rfl, Nat.le_of_ble_eq_true rfl⟩ rfl hl.1 rfl (Nat.le_of_ble_eq_true rfl) dX11_poke_45 ⟨Nat.zero_le _, Nat.zero_le _⟩ (fun H locs hP hS => ?_)
          refine lv_aload_n hx hb dX11_poke_48 rfl (lv_at hl 0 rfl) ?_
          refine lv_iconst (v := (0 : Int32)) hx hb dX11_poke_49 (by decide) ?_
          obtain ⟨fi12, efi12⟩ : ∃ y : FI, y = va_up fi9 14 (0 : Int32) := ⟨_, rfl⟩
          replace hF := bnd_of hF efi12
          refine mp_14 hx hb hT hown hK hP hD hS mw18_4 dX11_poke_50 (fun H locs hP hS => ?_)
          rw [← efi12] at hP
          refine lv_iconst (v := (1 : Int32)) hx hb dX11_poke_53 (by decide) ?_
          exact rM_z hx hb hr hlocks rfl hF hP hS dX11_poke_54
        · replace hF := br_no hF hc5
          exact J28  _ _ _ _ _ hF (lv_sub hl [0] rfl) hP hS
theorem cw_X11_poke : (Cond.instanceMethod yX11_poke ∈ TB ∧ Cond.selects RX11 yX11_poke yX11_poke ∈ TB ∧ Cond.code yX11_poke cX11_poke 4 (some .boolean) ∈ TB) ∧ (yX11_poke.cls = RX11 ∧ yX11_poke.cls ≠ "java/lang/invoke/MethodHandle" ∧ yX11_poke.cls ≠ "java/lang/invoke/VarHandle" ∧ (parseMethodDescriptor yX11_poke.desc).map (fun d => d.parameters.length) = some 3) := ⟨⟨mw21_8, mw21_9, mw21_10⟩, by decide +kernel⟩
/-! X11_byteAt -/
noncomputable def M_byteAt_82 (nf : Nat) (x1 : Int32) (x2 : Int32) (fi : FI) (ar : AR) : Option (Int32 × FI × AR) :=
  obnd3 (M_one nf fi ar (((512 : Int32) * (x1)) + (x2))) fun r4 fi2 ar3 => some ((r4), fi2, ar3)
noncomputable def M_byteAt_80 (nf : Nat)  (fi : FI) (ar : AR) : Option (Int32 × FI × AR) :=
  some ((-1 : Int32), fi, ar)
noncomputable def M_byteAt_28 (nf : Nat)  (fi : FI) (ar : AR) : Option (Int32 × FI × AR) :=
  some ((-1 : Int32), fi, ar)
noncomputable def M_byteAt (nf : Nat) (fi : FI) (ar : AR) (x1 : Int32) (x2 : Int32) : Option (Int32 × FI × AR) :=
  bnd (va_up fi 5 (0 : Int32)) fun fi5 => br ((x1) < 0) (M_byteAt_28 nf  fi5 ar) (br ((fi5 0) ≤ (x1)) (M_byteAt_28 nf  fi5 ar) (br ((x2) < 0) (M_byteAt_28 nf  fi5 ar) (br ((x2) ≤ (511 : Int32)) (obnd3 (M_look nf fi5 ar) fun r13 fi11 ar12 => br ((fi11 16) = (1 : Int32)) (M_byteAt_82 nf  (x1) (x2) fi11 ar12) (br ((x1) < (fi11 12)) (M_byteAt_82 nf  (x1) (x2) fi11 ar12) (gd (¬ (fi11 7) = 0) (bnd ((2 : Int32) + (((x1) - (fi11 12)) / (fi11 7))) fun x3_17 => obnd3 (M_isCluster nf fi11 ar12 (x3_17)) fun r21 fi19 ar20 => br ((r21) = 0) (M_byteAt_80 nf  fi19 ar20) (obnd3 (M_entry nf fi19 ar20 (x3_17)) fun r26 fi24 ar25 => br ((r26) = 0) (M_byteAt_80 nf  fi24 ar25) (M_byteAt_82 nf  (x1) (x2) fi24 ar25)))))) (M_byteAt_28 nf  fi5 ar))))
set_option maxHeartbeats 4000000 in
set_option maxRecDepth 100000 in
theorem k_byteAt (l : Launch) (g : GT) (am : Nat → Nat) (sz : Nat) (nf : Nat) (fi : FI) (ar : AR) (p1 : Int32) (p2 : Int32) (r : Int32) (fi' : FI) (ar' : AR) (hF : M_byteAt nf fi ar p1 p2 = some (r, fi', ar')) : Met l yX11_byteAt (wx yX11_byteAt cX11_byteAt 4 (some .int)) ({ frames := 9, cells := 0, slots := 0, locals := 209 } : Room) (va_Pc [.ref (am 0), .int p1, .int p2] (PM g am sz fi ar)) (QMi g am sz r fi' ar') 0 0 (AM am sz) := by
  refine Met.ofW (cc := cX11_byteAt) (maxL := 4) (ret := (some .int)) (by decide) rfl ?_
  intro p e s m args below meth c s₁ B hml hv
  obtain ⟨rfl, hsz, hP, hK, hD0, hE⟩ := hv
  have hx := B.exec
  have hb := B.bytes
  have hr := B.returns
  have hts := atoms_spec (ws := (wx yX11_byteAt cX11_byteAt 4 (some .int))) B.pre
  have hT : ∀ w ∈ TB, w.before _ s = true := fun w h => hts w (List.mem_cons_of_mem _ h)
  have hown : s.vm.findClass RX11 = some m.cls := findClass_of_methodNamed B.named
  have hlocks := B.notSynchronized
  subst hsz
  have hD := dM hD0 s.heap.size
  have hA : ∀ q : Nat, s.heap.size ≤ q → AM am s.heap.size q := fun q h => Or.inr h
  have hS : va_S (AM am s.heap.size) s.heap s.heap [] := va_S.rf
  have hl := lv_entry ([.ref (am 0), .int p1, .int p2]) (n := 4) (Nat.le_of_ble_eq_true rfl)
  rw [lg_entry_eq]
  generalize (lg_sl ([.ref (am 0), .int p1, .int p2]) ++ List.replicate (4 - (lg_sl ([.ref (am 0), .int p1, .int p2])).length) Slot.unset).toArray = ls at hl ⊢
  have hl : lv_has ls 4 [(0, .ref (am 0)), (1, .int p1), (2, .int p2)] := hl
  unfold M_byteAt at hF
  have J82 : ∀ (x1 : Int32) (x2 : Int32) (fi : FI) (ar : AR) (H : Heap) (locs : List Loc) (ls : Array Slot), M_byteAt_82 nf x1 x2 fi ar = some (r, fi', ar') → lv_has ls 4 [(0, .ref (am 0)), (1, .int x1), (2, .int x2)] → va_P (gD g) vwCl (WM g am fi ar) H → va_S (AM am s.heap.size) s.heap H locs → W p l e (headSpec (wx yX11_byteAt cX11_byteAt 4 (some .int)) ({ frames := 9, cells := 0, slots := 0, locals := 209 } : Room)).room s m ([.ref (am 0), .int p1, .int p2] : List Value).toArray below meth c H locs 0 0 (MQ below (QMi g am s.heap.size r fi' ar') ([.ref (am 0), .int p1, .int p2] : List Value).toArray s 0 0 (AM am s.heap.size)) (F0 m 82 ls []) := by
    intro x1 x2 fi ar H locs ls hF hl hP hS
    unfold M_byteAt_82 at hF
    refine lv_aload_n hx hb dX11_byteAt_82 rfl (lv_at hl 0 rfl) ?_
    refine lv_sipush (v := (512 : Int32)) hx hb dX11_byteAt_83 (by decide) ?_
    refine lv_iload_n hx hb dX11_byteAt_86 rfl (lv_at hl 1 rfl) ?_
    refine lv_imul hx hb dX11_byteAt_87 ?_
    refine lv_iload_n hx hb dX11_byteAt_88 rfl (lv_at hl 2 rfl) ?_
    refine lv_iadd hx hb dX11_byteAt_89 ?_
    replace hF := obnd3_of hF
    obtain ⟨r4, fi2, ar3, h1, hF⟩ := hF
    refine cM_i (As := [.int (((512 : Int32) * (x1)) + (x2))]) (rest := []) hx hb hml hT hown hK hE hD hA hP hS (k_one l g am _ nf fi ar (((512 : Int32) * (x1)) + (x2)) r4 fi2 ar3 h1) cw_X11_one mw19_9 ⟨⟨rfl, rfl⟩, Nat.le_of_ble_eq_true rfl, Nat.le_of_ble_eq_true rfl⟩ rfl hl.1 rfl (Nat.le_of_ble_eq_true rfl) dX11_byteAt_90 ⟨Nat.zero_le _, Nat.zero_le _⟩ (fun H locs hP hS => ?_)
    exact rM_i hx hb hr hlocks hF hP hS dX11_byteAt_93
  have J80 : ∀  (fi : FI) (ar : AR) (H : Heap) (locs : List Loc) (ls : Array Slot), M_byteAt_80 nf fi ar = some (r, fi', ar') → lv_has ls 4 [(0, .ref (am 0))] → va_P (gD g) vwCl (WM g am fi ar) H → va_S (AM am s.heap.size) s.heap H locs → W p l e (headSpec (wx yX11_byteAt cX11_byteAt 4 (some .int)) ({ frames := 9, cells := 0, slots := 0, locals := 209 } : Room)).room s m ([.ref (am 0), .int p1, .int p2] : List Value).toArray below meth c H locs 0 0 (MQ below (QMi g am s.heap.size r fi' ar') ([.ref (am 0), .int p1, .int p2] : List Value).toArray s 0 0 (AM am s.heap.size)) (F0 m 80 ls []) := by
    intro fi ar H locs ls hF hl hP hS
    unfold M_byteAt_80 at hF
    refine lv_iconst (v := (-1 : Int32)) hx hb dX11_byteAt_80 (by decide) ?_
    exact rM_i hx hb hr hlocks hF hP hS dX11_byteAt_81
  have J28 : ∀  (fi : FI) (ar : AR) (H : Heap) (locs : List Loc) (ls : Array Slot), M_byteAt_28 nf fi ar = some (r, fi', ar') → lv_has ls 4 [(0, .ref (am 0))] → va_P (gD g) vwCl (WM g am fi ar) H → va_S (AM am s.heap.size) s.heap H locs → W p l e (headSpec (wx yX11_byteAt cX11_byteAt 4 (some .int)) ({ frames := 9, cells := 0, slots := 0, locals := 209 } : Room)).room s m ([.ref (am 0), .int p1, .int p2] : List Value).toArray below meth c H locs 0 0 (MQ below (QMi g am s.heap.size r fi' ar') ([.ref (am 0), .int p1, .int p2] : List Value).toArray s 0 0 (AM am s.heap.size)) (F0 m 28 ls []) := by
    intro fi ar H locs ls hF hl hP hS
    unfold M_byteAt_28 at hF
    refine lv_iconst (v := (-1 : Int32)) hx hb dX11_byteAt_28 (by decide) ?_
    exact rM_i hx hb hr hlocks hF hP hS dX11_byteAt_29
  replace hl := lv_sub hl [0, 1, 2] rfl
  refine lv_aload_n hx hb dX11_byteAt_0 rfl (lv_at hl 0 rfl) ?_
  refine lv_iconst (v := (0 : Int32)) hx hb dX11_byteAt_1 (by decide) ?_
  obtain ⟨fi5, efi5⟩ : ∃ y : FI, y = va_up fi 5 (0 : Int32) := ⟨_, rfl⟩
  replace hF := bnd_of hF efi5
  refine mp_5 hx hb hT hown hK hP hD hS mw7_11 dX11_byteAt_2 (fun H locs hP hS => ?_)
  rw [← efi5] at hP
  refine lv_iload_n hx hb dX11_byteAt_5 rfl (lv_at hl 1 rfl) ?_
  refine lv_if_lt (tgt := 28) hx hb dX11_byteAt_6 (by decide) (fun hc6 => ?_) (fun hc6 => ?_)
  · replace hF := br_yes hF hc6
    exact J28  _ _ _ _ _ hF (lv_sub hl [0] rfl) hP hS
  · replace hF := br_no hF hc6
    refine lv_iload_n hx hb dX11_byteAt_9 rfl (lv_at hl 1 rfl) ?_
    refine lv_aload_n hx hb dX11_byteAt_10 rfl (lv_at hl 0 rfl) ?_
    refine mg_0 hx hb hT hown hK hP mw6_22 dX11_byteAt_11 ?_
    refine lv_icmp_ge (tgt := 28) hx hb dX11_byteAt_14 (by decide) (fun hc7 => ?_) (fun hc7 => ?_)
    · replace hF := br_yes hF hc7
      exact J28  _ _ _ _ _ hF (lv_sub hl [0] rfl) hP hS
    · replace hF := br_no hF hc7
      refine lv_iload_n hx hb dX11_byteAt_17 rfl (lv_at hl 2 rfl) ?_
      refine lv_if_lt (tgt := 28) hx hb dX11_byteAt_18 (by decide) (fun hc8 => ?_) (fun hc8 => ?_)
      · replace hF := br_yes hF hc8
        exact J28  _ _ _ _ _ hF (lv_sub hl [0] rfl) hP hS
      · replace hF := br_no hF hc8
        refine lv_iload_n hx hb dX11_byteAt_21 rfl (lv_at hl 2 rfl) ?_
        refine lv_sipush (v := (511 : Int32)) hx hb dX11_byteAt_22 (by decide) ?_
        refine lv_icmp_le (tgt := 30) hx hb dX11_byteAt_25 (by decide) (fun hc9 => ?_) (fun hc9 => ?_)
        · replace hF := br_yes hF hc9
          refine lv_aload_n hx hb dX11_byteAt_30 rfl (lv_at hl 0 rfl) ?_
          replace hF := obnd3_of hF
          obtain ⟨r13, fi11, ar12, h10, hF⟩ := hF
          refine cM_v (As := []) (rest := []) hx hb hml hT hown hK hE hD hA hP hS (k_look l g am _ nf fi5 ar r13 fi11 ar12 h10) cw_X11_look mw31_6 ⟨⟨rfl, rfl⟩, Nat.le_of_ble_eq_true rfl, Nat.le_of_ble_eq_true rfl⟩ rfl hl.1 rfl (Nat.le_of_ble_eq_true rfl) dX11_byteAt_31 ⟨Nat.zero_le _, Nat.zero_le _⟩ (fun H locs hP hS => ?_)
          refine lv_aload_n hx hb dX11_byteAt_34 rfl (lv_at hl 0 rfl) ?_
          refine mg_16 hx hb hT hown hK hP mw31_5 dX11_byteAt_35 ?_
          refine lv_iconst (v := (1 : Int32)) hx hb dX11_byteAt_38 (by decide) ?_
          refine lv_icmp_eq (tgt := 82) hx hb dX11_byteAt_39 (by decide) (fun hc14 => ?_) (fun hc14 => ?_)
          · replace hF := br_yes hF hc14
            exact J82 (p1) (p2) _ _ _ _ _ hF (lv_sub hl [0, 1, 2] rfl) hP hS
          · replace hF := br_no hF hc14
            refine lv_iload_n hx hb dX11_byteAt_42 rfl (lv_at hl 1 rfl) ?_
            refine lv_aload_n hx hb dX11_byteAt_43 rfl (lv_at hl 0 rfl) ?_
            refine mg_12 hx hb hT hown hK hP mw19_8 dX11_byteAt_44 ?_
            refine lv_icmp_lt (tgt := 82) hx hb dX11_byteAt_47 (by decide) (fun hc15 => ?_) (fun hc15 => ?_)
            · replace hF := br_yes hF hc15
              exact J82 (p1) (p2) _ _ _ _ _ hF (lv_sub hl [0, 1, 2] rfl) hP hS
            · replace hF := br_no hF hc15
              refine lv_iconst (v := (2 : Int32)) hx hb dX11_byteAt_50 (by decide) ?_
              refine lv_iload_n hx hb dX11_byteAt_51 rfl (lv_at hl 1 rfl) ?_
              refine lv_aload_n hx hb dX11_byteAt_52 rfl (lv_at hl 0 rfl) ?_
              refine mg_12 hx hb hT hown hK hP mw19_8 dX11_byteAt_53 ?_
              refine lv_isub hx hb dX11_byteAt_56 ?_
              refine lv_aload_n hx hb dX11_byteAt_57 rfl (lv_at hl 0 rfl) ?_
              refine mg_7 hx hb hT hown hK hP mw19_2 dX11_byteAt_58 ?_
              replace hF := gd_of hF
              obtain ⟨hz16, hF⟩ := hF
              refine lv_idiv hx hb dX11_byteAt_61 hz16 ?_
              refine lv_iadd hx hb dX11_byteAt_62 ?_
              obtain ⟨x3_17, ex3_17⟩ : ∃ y : Int32, y = ((2 : Int32) + (((p1) - (fi11 12)) / (fi11 7))) := ⟨_, rfl⟩
              rw [← ex3_17]
              replace hF := bnd_of hF ex3_17
              refine lv_istore_n (lv' := [(3, .int (x3_17)), (0, .ref (am 0)), (1, .int (p1)), (2, .int (p2))]) hx hb dX11_byteAt_63 rfl hl (by decide) rfl (fun ls hl => ?_)
              refine lv_aload_n hx hb dX11_byteAt_64 rfl (lv_at hl 1 rfl) ?_
              refine lv_iload_n hx hb dX11_byteAt_65 rfl (lv_at hl 0 rfl) ?_
              replace hF := obnd3_of hF
              obtain ⟨r21, fi19, ar20, h18, hF⟩ := hF
              refine cM_i (As := [.int (x3_17)]) (rest := []) hx hb hml hT hown hK hE hD hA hP hS (k_isCluster l g am _ nf fi11 ar12 (x3_17) r21 fi19 ar20 h18) cw_X11_isCluster mw19_21 ⟨⟨rfl, rfl⟩, Nat.le_of_ble_eq_true rfl, Nat.le_of_ble_eq_true rfl⟩ rfl hl.1 rfl (Nat.le_of_ble_eq_true rfl) dX11_byteAt_66 ⟨Nat.zero_le _, Nat.zero_le _⟩ (fun H locs hP hS => ?_)
              refine lv_if_eq (tgt := 80) hx hb dX11_byteAt_69 (by decide) (fun hc22 => ?_) (fun hc22 => ?_)
              · replace hF := br_yes hF hc22
                exact J80  _ _ _ _ _ hF (lv_sub hl [1] rfl) hP hS
              · replace hF := br_no hF hc22
                refine lv_aload_n hx hb dX11_byteAt_72 rfl (lv_at hl 1 rfl) ?_
                refine lv_iload_n hx hb dX11_byteAt_73 rfl (lv_at hl 0 rfl) ?_
                replace hF := obnd3_of hF
                obtain ⟨r26, fi24, ar25, h23, hF⟩ := hF
                refine cM_i (As := [.int (x3_17)]) (rest := []) hx hb hml hT hown hK hE hD hA hP hS (k_entry l g am _ nf fi19 ar20 (x3_17) r26 fi24 ar25 h23) cw_X11_entry mw31_17 ⟨⟨rfl, rfl⟩, Nat.le_of_ble_eq_true rfl, Nat.le_of_ble_eq_true rfl⟩ rfl hl.1 rfl (Nat.le_of_ble_eq_true rfl) dX11_byteAt_74 ⟨Nat.zero_le _, Nat.zero_le _⟩ (fun H locs hP hS => ?_)
                refine lv_if_ne (tgt := 82) hx hb dX11_byteAt_77 (by decide) (fun hc27 => ?_) (fun hc27 => ?_)
                · replace hF := br_no hF hc27
                  exact J82 (p1) (p2) _ _ _ _ _ hF (lv_sub hl [1, 2, 3] rfl) hP hS
                · replace hF := br_yes hF hc27
                  exact J80  _ _ _ _ _ hF (lv_sub hl [1] rfl) hP hS
        · replace hF := br_no hF hc9
          exact J28  _ _ _ _ _ hF (lv_sub hl [0] rfl) hP hS
theorem cw_X11_byteAt : (Cond.instanceMethod yX11_byteAt ∈ TB ∧ Cond.selects RX11 yX11_byteAt yX11_byteAt ∈ TB ∧ Cond.code yX11_byteAt cX11_byteAt 4 (some .int) ∈ TB) ∧ (yX11_byteAt.cls = RX11 ∧ yX11_byteAt.cls ≠ "java/lang/invoke/MethodHandle" ∧ yX11_byteAt.cls ≠ "java/lang/invoke/VarHandle" ∧ (parseMethodDescriptor yX11_byteAt.desc).map (fun d => d.parameters.length) = some 2) := ⟨⟨mw36_12, mw36_13, mw36_14⟩, by decide +kernel⟩
/-! X11_format -/
noncomputable def M_format_592 (nf : Nat) (t0 : Int32) (fi : FI) (ar : AR) : Option (Int32 × FI × AR) :=
  some ((t0), fi, ar)
noncomputable def M_format_570 (nf : Nat) (x8 : Int32) (fi : FI) (ar : AR) : Option (Int32 × FI × AR) :=
  bnd (va_up fi 14 (0 : Int32)) fun fi1 => obnd3 (M_changed nf fi1 ar) fun r5 fi3 ar4 => br ((x8) = 0) (M_format_592 nf  (0 : Int32) fi3 ar4) (M_format_592 nf  (fi3 13) fi3 ar4)
noncomputable def M_format_537 (K502 : Int32 → Int32 → Int32 → Int32 → FI → AR → Option (Int32 × FI × AR)) (nf : Nat) (x5 : Int32) (x8 : Int32) (x9 : Int32) (x10 : Int32) (t1 : Int32) (t2 : Int32) (fi : FI) (ar : AR) : Option (Int32 × FI × AR) :=
  gd (¬ ((t1) < 0 ∨ 524288 ≤ (t1).toNatClampNeg)) (bnd (va_up ar 1 (upd (ar 1) (t1).toNatClampNeg (vp_nar .byte (t2)))) fun ar8 => bnd ((x10) + (1 : Int32)) fun x10_9 => K502 (x5) (x8) (x9) (x10_9) fi ar8)
noncomputable def M_format_502b (K502 : Int32 → Int32 → Int32 → Int32 → FI → AR → Option (Int32 × FI × AR)) (nf : Nat) (x5 : Int32) (x8 : Int32) (x9 : Int32) (x10 : Int32) (fi : FI) (ar : AR) : Option (Int32 × FI × AR) :=
  br ((11 : Int32) ≤ (x10)) (obnd3 (M_set nf fi ar ((x9) + (11 : Int32)) (1 : Int32) (8 : Int64)) fun r14 fi12 ar13 => obnd3 (M_set nf fi12 ar13 ((x9) + (24 : Int32)) (2 : Int32) (33 : Int64)) fun r18 fi16 ar17 => M_format_570 nf  (x8) fi16 ar17) (br ((x5) ≤ (x10)) (M_format_537 K502 nf  (x5) (x8) (x9) (x10) ((x9) + (x10)) (32 : Int32) fi ar) (gd (¬ ((x10) < 0 ∨ 4096 ≤ (x10).toNatClampNeg)) (M_format_537 K502 nf  (x5) (x8) (x9) (x10) ((x9) + (x10)) (ar 2 (x10).toNatClampNeg) fi ar)))
noncomputable def M_format_502 (nf : Nat) (kf : Nat) : Int32 → Int32 → Int32 → Int32 → FI → AR → Option (Int32 × FI × AR) := Nat.rec (fun _ _ _ _ _ _ => none) (fun _ K502 => M_format_502b K502 nf) kf
noncomputable def M_format_373b (K373 : Int32 → Int32 → FI → AR → Option (Int32 × FI × AR)) (nf : Nat) (x5 : Int32) (x8 : Int32) (fi : FI) (ar : AR) : Option (Int32 × FI × AR) :=
  br ((512 : Int32) ≤ (x8)) (obnd3 (M_set nf fi ar (512 : Int32) (4 : Int32) (1096897106 : Int64)) fun r25 fi23 ar24 => obnd3 (M_set nf fi23 ar24 (996 : Int32) (4 : Int32) (1631679090 : Int64)) fun r29 fi27 ar28 => obnd3 (M_set nf fi27 ar28 (1000 : Int32) (4 : Int32) (4294967295 : Int64)) fun r33 fi31 ar32 => obnd3 (M_set nf fi31 ar32 (1004 : Int32) (4 : Int32) (4294967295 : Int64)) fun r37 fi35 ar36 => obnd3 (M_set nf fi35 ar36 (1020 : Int32) (4 : Int32) (2857697280 : Int64)) fun r41 fi39 ar40 => obnd3 (M_head nf fi39 ar40) fun r45 fi43 ar44 => obnd3 (M_setEntry nf fi43 ar44 (0 : Int32) (268435448 : Int32)) fun r49 fi47 ar48 => obnd3 (M_setEntry nf fi47 ar48 (1 : Int32) (268435455 : Int32)) fun r53 fi51 ar52 => obnd3 (M_setEntry nf fi51 ar52 (2 : Int32) (268435455 : Int32)) fun r57 fi55 ar56 => br ((x5) ≤ 0) (M_format_570 nf  (r45) fi55 ar56) (obnd3 (M_place nf fi55 ar56 (2 : Int32)) fun r62 fi60 ar61 => M_format_502 nf nf (x5) (r45) (r62) (0 : Int32) fi60 ar61)) (gd (¬ ((x8) < 0 ∨ 524288 ≤ (x8).toNatClampNeg)) (gd (¬ (((3072 : Int32) + (x8)) < 0 ∨ 524288 ≤ ((3072 : Int32) + (x8)).toNatClampNeg)) (bnd (va_up ar 1 (upd (ar 1) ((3072 : Int32) + (x8)).toNatClampNeg (vp_nar .byte (ar 1 (x8).toNatClampNeg)))) fun ar65 => bnd ((x8) + (1 : Int32)) fun x8_66 => K373 (x5) (x8_66) fi ar65)))
noncomputable def M_format_373 (nf : Nat) (kf : Nat) : Int32 → Int32 → FI → AR → Option (Int32 × FI × AR) := Nat.rec (fun _ _ _ _ => none) (fun _ K373 => M_format_373b K373 nf) kf
noncomputable def M_format_240b (K240 : Int32 → Int32 → Int32 → Int32 → Int32 → Int32 → Int32 → FI → AR → Option (Int32 × FI × AR)) (nf : Nat) (x1 : Int32) (x2 : Int32) (x3 : Int32) (x4 : Int32) (x5 : Int32) (x7 : Int32) (x8 : Int32) (fi : FI) (ar : AR) : Option (Int32 × FI × AR) :=
  br ((11 : Int32) ≤ (x8)) (obnd3 (M_set nf fi ar (11 : Int32) (2 : Int32) (512 : Int64)) fun r71 fi69 ar70 => obnd3 (M_set nf fi69 ar70 (13 : Int32) (1 : Int32) ((x1).toInt64)) fun r75 fi73 ar74 => obnd3 (M_set nf fi73 ar74 (14 : Int32) (2 : Int32) ((x2).toInt64)) fun r79 fi77 ar78 => obnd3 (M_set nf fi77 ar78 (16 : Int32) (1 : Int32) ((x3).toInt64)) fun r83 fi81 ar82 => obnd3 (M_set nf fi81 ar82 (32 : Int32) (4 : Int32) ((fi81 0).toInt64)) fun r87 fi85 ar86 => obnd3 (M_set nf fi85 ar86 (36 : Int32) (4 : Int32) ((x7).toInt64)) fun r91 fi89 ar90 => obnd3 (M_set nf fi89 ar90 (44 : Int32) (4 : Int32) (2 : Int64)) fun r95 fi93 ar94 => obnd3 (M_set nf fi93 ar94 (48 : Int32) (2 : Int32) (1 : Int64)) fun r99 fi97 ar98 => obnd3 (M_set nf fi97 ar98 (50 : Int32) (2 : Int32) (6 : Int64)) fun r103 fi101 ar102 => obnd3 (M_set nf fi101 ar102 (67 : Int32) (4 : Int32) ((x4).toInt64)) fun r107 fi105 ar106 => obnd3 (M_set nf fi105 ar106 (510 : Int32) (2 : Int32) (43605 : Int64)) fun r111 fi109 ar110 => M_format_373 nf nf (x5) (0 : Int32) fi109 ar110) (gd (¬ ((x8) < 0 ∨ 524288 ≤ (x8).toNatClampNeg)) (bnd (va_up ar 1 (upd (ar 1) (x8).toNatClampNeg (vp_nar .byte (32 : Int32)))) fun ar113 => bnd ((x8) + (1 : Int32)) fun x8_114 => K240 (x1) (x2) (x3) (x4) (x5) (x7) (x8_114) fi ar113))
noncomputable def M_format_240 (nf : Nat) (kf : Nat) : Int32 → Int32 → Int32 → Int32 → Int32 → Int32 → Int32 → FI → AR → Option (Int32 × FI × AR) := Nat.rec (fun _ _ _ _ _ _ _ _ _ => none) (fun _ K240 => M_format_240b K240 nf) kf
noncomputable def M_format_216b (K216 : Int32 → Int32 → Int32 → Int32 → Int32 → Int32 → Int32 → FI → AR → Option (Int32 × FI × AR)) (nf : Nat) (x1 : Int32) (x2 : Int32) (x3 : Int32) (x4 : Int32) (x5 : Int32) (x7 : Int32) (x8 : Int32) (fi : FI) (ar : AR) : Option (Int32 × FI × AR) :=
  br ((524288 : Int32) ≤ (x8)) (M_format_240 nf nf (x1) (x2) (x3) (x4) (x5) (x7) (3 : Int32) fi ar) (gd (¬ ((x8) < 0 ∨ 524288 ≤ (x8).toNatClampNeg)) (bnd (va_up ar 1 (upd (ar 1) (x8).toNatClampNeg (vp_nar .byte (0 : Int32)))) fun ar117 => bnd ((x8) + (1 : Int32)) fun x8_118 => K216 (x1) (x2) (x3) (x4) (x5) (x7) (x8_118) fi ar117))
noncomputable def M_format_216 (nf : Nat) (kf : Nat) : Int32 → Int32 → Int32 → Int32 → Int32 → Int32 → Int32 → FI → AR → Option (Int32 × FI × AR) := Nat.rec (fun _ _ _ _ _ _ _ _ _ => none) (fun _ K216 => M_format_216b K216 nf) kf
noncomputable def M_format_204 (nf : Nat) (x1 : Int32) (x2 : Int32) (x3 : Int32) (x4 : Int32) (x5 : Int32) (x7 : Int32) (t1 : Int32) (fi : FI) (ar : AR) : Option (Int32 × FI × AR) :=
  obnd3 (M_fails nf fi ar (t1) (1 : Int32)) fun r122 fi120 ar121 => br ((r122) = 0) (M_format_216 nf nf (x1) (x2) (x3) (x4) (x5) (x7) (0 : Int32) fi120 ar121) (some ((0 : Int32), fi120, ar121))
noncomputable def M_format_199 (nf : Nat) (x1 : Int32) (x2 : Int32) (x3 : Int32) (x4 : Int32) (x5 : Int32) (x7 : Int32) (fi : FI) (ar : AR) : Option (Int32 × FI × AR) :=
  M_format_204 nf  (x1) (x2) (x3) (x4) (x5) (x7) (1 : Int32) fi ar
noncomputable def M_format_186 (nf : Nat) (x1 : Int32) (x2 : Int32) (x3 : Int32) (x4 : Int32) (x5 : Int32) (x6 : Int32) (x7 : Int32) (fi : FI) (ar : AR) : Option (Int32 × FI × AR) :=
  br ((x6) = 0) (M_format_199 nf  (x1) (x2) (x3) (x4) (x5) (x7) fi ar) (br ((x7) ≤ (32 : Int32)) (M_format_204 nf  (x1) (x2) (x3) (x4) (x5) (x7) (0 : Int32) fi ar) (M_format_199 nf  (x1) (x2) (x3) (x4) (x5) (x7) fi ar))
noncomputable def M_format_180 (K127 : Int32 → Int32 → Int32 → Int32 → Int32 → Int32 → Int32 → FI → AR → Option (Int32 × FI × AR)) (nf : Nat) (x1 : Int32) (x2 : Int32) (x3 : Int32) (x4 : Int32) (x5 : Int32) (x6 : Int32) (x7 : Int32) (fi : FI) (ar : AR) : Option (Int32 × FI × AR) :=
  bnd ((x7) + (1 : Int32)) fun x7_126 => K127 (x1) (x2) (x3) (x4) (x5) (x6) (x7_126) fi ar
noncomputable def M_format_127b (K127 : Int32 → Int32 → Int32 → Int32 → Int32 → Int32 → Int32 → FI → AR → Option (Int32 × FI × AR)) (nf : Nat) (x1 : Int32) (x2 : Int32) (x3 : Int32) (x4 : Int32) (x5 : Int32) (x6 : Int32) (x7 : Int32) (fi : FI) (ar : AR) : Option (Int32 × FI × AR) :=
  br ((x6) = 0) (M_format_186 nf  (x1) (x2) (x3) (x4) (x5) (x6) (x7) fi ar) (br ((33 : Int32) ≤ (x7)) (M_format_186 nf  (x1) (x2) (x3) (x4) (x5) (x6) (x7) fi ar) (gd (¬ (x1) = 0) (br (((((fi 0) - (x2)) - ((x3) * (x7))) / (x1)) < (4 : Int32)) (M_format_180 K127 nf  (x1) (x2) (x3) (x4) (x5) (x6) (x7) fi ar) (gd (¬ (x1) = 0) (br ((((((fi 0) - (x2)) - ((x3) * (x7))) / (x1)) + (2 : Int32)) ≤ ((128 : Int32) * (x7))) (M_format_186 nf  (x1) (x2) (x3) (x4) (x5) (x6) (x7) fi ar) (M_format_180 K127 nf  (x1) (x2) (x3) (x4) (x5) (x6) (x7) fi ar))))))
noncomputable def M_format_127 (nf : Nat) (kf : Nat) : Int32 → Int32 → Int32 → Int32 → Int32 → Int32 → Int32 → FI → AR → Option (Int32 × FI × AR) := Nat.rec (fun _ _ _ _ _ _ _ _ _ => none) (fun _ K127 => M_format_127b K127 nf) kf
noncomputable def M_format_124 (nf : Nat) (x1 : Int32) (x2 : Int32) (x3 : Int32) (x4 : Int32) (x5 : Int32) (x6 : Int32) (fi : FI) (ar : AR) : Option (Int32 × FI × AR) :=
  M_format_127 nf nf (x1) (x2) (x3) (x4) (x5) (x6) (1 : Int32) fi ar
noncomputable def M_format_116 (K71 : Int32 → Int32 → Int32 → Int32 → Int32 → Int32 → Int32 → FI → AR → Option (Int32 × FI × AR)) (nf : Nat) (x1 : Int32) (x2 : Int32) (x3 : Int32) (x4 : Int32) (x5 : Int32) (x7 : Int32) (t0 : Int32) (fi : FI) (ar : AR) : Option (Int32 × FI × AR) :=
  bnd ((x7) + (1 : Int32)) fun x7_133 => K71 (x1) (x2) (x3) (x4) (x5) (t0) (x7_133) fi ar
noncomputable def M_format_71b (K71 : Int32 → Int32 → Int32 → Int32 → Int32 → Int32 → Int32 → FI → AR → Option (Int32 × FI × AR)) (nf : Nat) (x1 : Int32) (x2 : Int32) (x3 : Int32) (x4 : Int32) (x5 : Int32) (x6 : Int32) (x7 : Int32) (fi : FI) (ar : AR) : Option (Int32 × FI × AR) :=
  br ((x5) ≤ (x7)) (M_format_124 nf  (x1) (x2) (x3) (x4) (x5) (x6) fi ar) (br ((x6) = 0) (M_format_124 nf  (x1) (x2) (x3) (x4) (x5) (x6) fi ar) (obnd3 (M_taken nf fi ar (x7)) fun r139 fi137 ar138 => br ((r139) = (32 : Int32)) (br ((x7) ≤ 0) (M_format_116 K71 nf  (x1) (x2) (x3) (x4) (x5) (x7) (0 : Int32) fi137 ar138) (M_format_116 K71 nf  (x1) (x2) (x3) (x4) (x5) (x7) (1 : Int32) fi137 ar138)) (obnd3 (M_taken nf fi137 ar138 (x7)) fun r144 fi142 ar143 => obnd (M_isShortSign nf (r144)) fun r146 => M_format_116 K71 nf  (x1) (x2) (x3) (x4) (x5) (x7) (r146) fi142 ar143)))
noncomputable def M_format_71 (nf : Nat) (kf : Nat) : Int32 → Int32 → Int32 → Int32 → Int32 → Int32 → Int32 → FI → AR → Option (Int32 × FI × AR) := Nat.rec (fun _ _ _ _ _ _ _ _ _ => none) (fun _ K71 => M_format_71b K71 nf) kf
noncomputable def M_format_66 (nf : Nat) (x1 : Int32) (x2 : Int32) (x3 : Int32) (x4 : Int32) (x5 : Int32) (t0 : Int32) (fi : FI) (ar : AR) : Option (Int32 × FI × AR) :=
  M_format_71 nf nf (x1) (x2) (x3) (x4) (x5) (t0) (0 : Int32) fi ar
noncomputable def M_format_65 (nf : Nat) (x1 : Int32) (x2 : Int32) (x3 : Int32) (x4 : Int32) (x5 : Int32) (fi : FI) (ar : AR) : Option (Int32 × FI × AR) :=
  M_format_66 nf  (x1) (x2) (x3) (x4) (x5) (0 : Int32) fi ar
noncomputable def M_format_54 (nf : Nat) (x1 : Int32) (x2 : Int32) (x3 : Int32) (x4 : Int32) (x5 : Int32) (fi : FI) (ar : AR) : Option (Int32 × FI × AR) :=
  br ((11 : Int32) < (x5)) (M_format_65 nf  (x1) (x2) (x3) (x4) (x5) fi ar) (M_format_66 nf  (x1) (x2) (x3) (x4) (x5) (1 : Int32) fi ar)
noncomputable def M_format_32 (nf : Nat) (x1 : Int32) (x2 : Int32) (x3 : Int32) (x4 : Int32) (x5 : Int32) (fi : FI) (ar : AR) : Option (Int32 × FI × AR) :=
  br ((x2) < (8 : Int32)) (M_format_65 nf  (x1) (x2) (x3) (x4) (x5) fi ar) (br ((64 : Int32) < (x2)) (M_format_65 nf  (x1) (x2) (x3) (x4) (x5) fi ar) (br ((x3) = (1 : Int32)) (M_format_54 nf  (x1) (x2) (x3) (x4) (x5) fi ar) (br ((x3) = (2 : Int32)) (M_format_54 nf  (x1) (x2) (x3) (x4) (x5) fi ar) (M_format_65 nf  (x1) (x2) (x3) (x4) (x5) fi ar))))
noncomputable def M_format (nf : Nat) (fi : FI) (ar : AR) (x1 : Int32) (x2 : Int32) (x3 : Int32) (x4 : Int32) : Option (Int32 × FI × AR) :=
  bnd (va_up fi 5 (0 : Int32)) fun fi153 => bnd (fi153 4) fun x5_154 => bnd (va_up fi153 4 (0 : Int32)) fun fi155 => br ((x1) = (2 : Int32)) (M_format_32 nf  (x1) (x2) (x3) (x4) (x5_154) fi155 ar) (br ((x1) = (4 : Int32)) (M_format_32 nf  (x1) (x2) (x3) (x4) (x5_154) fi155 ar) (br ((x1) = (8 : Int32)) (M_format_32 nf  (x1) (x2) (x3) (x4) (x5_154) fi155 ar) (M_format_65 nf  (x1) (x2) (x3) (x4) (x5_154) fi155 ar)))
set_option maxHeartbeats 4000000 in
set_option maxRecDepth 100000 in
theorem k_format (l : Launch) (g : GT) (am : Nat → Nat) (sz : Nat) (nf : Nat) (fi : FI) (ar : AR) (p1 : Int32) (p2 : Int32) (p3 : Int32) (p4 : Int32) (r : Int32) (fi' : FI) (ar' : AR) (hF : M_format nf fi ar p1 p2 p3 p4 = some (r, fi', ar')) : Met l yX11_format (wx yX11_format cX11_format 11 (some .int)) ({ frames := 5, cells := 0, slots := 0, locals := 111 } : Room) (va_Pc [.ref (am 0), .int p1, .int p2, .int p3, .int p4] (PM g am sz fi ar)) (QMi g am sz r fi' ar') 0 0 (AM am sz) := by
  refine Met.ofW (cc := cX11_format) (maxL := 11) (ret := (some .int)) (by decide) rfl ?_
  intro p e s m args below meth c s₁ B hml hv
  obtain ⟨rfl, hsz, hP, hK, hD0, hE⟩ := hv
  have hx := B.exec
  have hb := B.bytes
  have hr := B.returns
  have hts := atoms_spec (ws := (wx yX11_format cX11_format 11 (some .int))) B.pre
  have hT : ∀ w ∈ TB, w.before _ s = true := fun w h => hts w (List.mem_cons_of_mem _ h)
  have hown : s.vm.findClass RX11 = some m.cls := findClass_of_methodNamed B.named
  have hlocks := B.notSynchronized
  subst hsz
  have hD := dM hD0 s.heap.size
  have hA : ∀ q : Nat, s.heap.size ≤ q → AM am s.heap.size q := fun q h => Or.inr h
  have hS : va_S (AM am s.heap.size) s.heap s.heap [] := va_S.rf
  have hl := lv_entry ([.ref (am 0), .int p1, .int p2, .int p3, .int p4]) (n := 11) (Nat.le_of_ble_eq_true rfl)
  rw [lg_entry_eq]
  generalize (lg_sl ([.ref (am 0), .int p1, .int p2, .int p3, .int p4]) ++ List.replicate (11 - (lg_sl ([.ref (am 0), .int p1, .int p2, .int p3, .int p4])).length) Slot.unset).toArray = ls at hl ⊢
  have hl : lv_has ls 11 [(0, .ref (am 0)), (1, .int p1), (2, .int p2), (3, .int p3), (4, .int p4)] := hl
  unfold M_format at hF
  have J592 : ∀ (t0 : Int32) (fi : FI) (ar : AR) (H : Heap) (locs : List Loc) (ls : Array Slot), M_format_592 nf t0 fi ar = some (r, fi', ar') → lv_has ls 11 [(0, .ref (am 0))] → va_P (gD g) vwCl (WM g am fi ar) H → va_S (AM am s.heap.size) s.heap H locs → W p l e (headSpec (wx yX11_format cX11_format 11 (some .int)) ({ frames := 5, cells := 0, slots := 0, locals := 111 } : Room)).room s m ([.ref (am 0), .int p1, .int p2, .int p3, .int p4] : List Value).toArray below meth c H locs 0 0 (MQ below (QMi g am s.heap.size r fi' ar') ([.ref (am 0), .int p1, .int p2, .int p3, .int p4] : List Value).toArray s 0 0 (AM am s.heap.size)) (F0 m 592 ls [.int t0]) := by
    intro t0 fi ar H locs ls hF hl hP hS
    unfold M_format_592 at hF
    exact rM_i hx hb hr hlocks hF hP hS dX11_format_592
  have J570 : ∀ (x8 : Int32) (fi : FI) (ar : AR) (H : Heap) (locs : List Loc) (ls : Array Slot), M_format_570 nf x8 fi ar = some (r, fi', ar') → lv_has ls 11 [(0, .ref (am 0)), (8, .int x8)] → va_P (gD g) vwCl (WM g am fi ar) H → va_S (AM am s.heap.size) s.heap H locs → W p l e (headSpec (wx yX11_format cX11_format 11 (some .int)) ({ frames := 5, cells := 0, slots := 0, locals := 111 } : Room)).room s m ([.ref (am 0), .int p1, .int p2, .int p3, .int p4] : List Value).toArray below meth c H locs 0 0 (MQ below (QMi g am s.heap.size r fi' ar') ([.ref (am 0), .int p1, .int p2, .int p3, .int p4] : List Value).toArray s 0 0 (AM am s.heap.size)) (F0 m 570 ls []) := by
    intro x8 fi ar H locs ls hF hl hP hS
    unfold M_format_570 at hF
    refine lv_aload_n hx hb dX11_format_570 rfl (lv_at hl 0 rfl) ?_
    refine lv_iconst (v := (0 : Int32)) hx hb dX11_format_571 (by decide) ?_
    obtain ⟨fi1, efi1⟩ : ∃ y : FI, y = va_up fi 14 (0 : Int32) := ⟨_, rfl⟩
    replace hF := bnd_of hF efi1
    refine mp_14 hx hb hT hown hK hP hD hS mw18_4 dX11_format_572 (fun H locs hP hS => ?_)
    rw [← efi1] at hP
    refine lv_aload_n hx hb dX11_format_575 rfl (lv_at hl 0 rfl) ?_
    replace hF := obnd3_of hF
    obtain ⟨r5, fi3, ar4, h2, hF⟩ := hF
    refine cM_v (As := []) (rest := []) hx hb hml hT hown hK hE hD hA hP hS (k_changed l g am _ nf fi1 ar r5 fi3 ar4 h2) cw_X11_changed mw20_14 ⟨⟨rfl, rfl⟩, Nat.le_of_ble_eq_true rfl, Nat.le_of_ble_eq_true rfl⟩ rfl hl.1 rfl (Nat.le_of_ble_eq_true rfl) dX11_format_576 ⟨Nat.zero_le _, Nat.zero_le _⟩ (fun H locs hP hS => ?_)
    refine lv_iload hx hb dX11_format_579 (lv_at hl 1 rfl) ?_
    refine lv_if_eq (tgt := 591) hx hb dX11_format_581 (by decide) (fun hc6 => ?_) (fun hc6 => ?_)
    · replace hF := br_yes hF hc6
      refine lv_iconst (v := (0 : Int32)) hx hb dX11_format_591 (by decide) ?_
      exact J592 (0 : Int32) _ _ _ _ _ hF (lv_sub hl [0] rfl) hP hS
    · replace hF := br_no hF hc6
      refine lv_aload_n hx hb dX11_format_584 rfl (lv_at hl 0 rfl) ?_
      refine mg_13 hx hb hT hown hK hP mw18_5 dX11_format_585 ?_
      refine lv_goto (tgt := 592) hx hb dX11_format_588 (by decide) ?_
      exact J592 (fi3 13) _ _ _ _ _ hF (lv_sub hl [0] rfl) hP hS
  have L502 : ∀ kf : Nat, ∀ (x5 : Int32) (x8 : Int32) (x9 : Int32) (x10 : Int32) (fi : FI) (ar : AR) (H : Heap) (locs : List Loc) (ls : Array Slot), M_format_502 nf kf x5 x8 x9 x10 fi ar = some (r, fi', ar') → lv_has ls 11 [(0, .ref (am 0)), (5, .int x5), (8, .int x8), (9, .int x9), (10, .int x10)] → va_P (gD g) vwCl (WM g am fi ar) H → va_S (AM am s.heap.size) s.heap H locs → W p l e (headSpec (wx yX11_format cX11_format 11 (some .int)) ({ frames := 5, cells := 0, slots := 0, locals := 111 } : Room)).room s m ([.ref (am 0), .int p1, .int p2, .int p3, .int p4] : List Value).toArray below meth c H locs 0 0 (MQ below (QMi g am s.heap.size r fi' ar') ([.ref (am 0), .int p1, .int p2, .int p3, .int p4] : List Value).toArray s 0 0 (AM am s.heap.size)) (F0 m 502 ls []) := by
    intro kf
    induction kf with
    | zero => intro x5 x8 x9 x10 fi ar H locs ls hF hl hP hS; cases (show (none : Option (Int32 × FI × AR)) = _ from hF)
    | succ kf ih502 =>
      intro x5 x8 x9 x10 fi ar H locs ls hF hl hP hS
      obtain ⟨K502, hK502⟩ : ∃ K : Int32 → Int32 → Int32 → Int32 → FI → AR → Option (Int32 × FI × AR), K = M_format_502 nf kf := ⟨_, rfl⟩
      replace hF : M_format_502b K502 nf x5 x8 x9 x10 fi ar = some (r, fi', ar') := by rw [hK502]; exact hF
      rw [← hK502] at ih502
      clear hK502
      have J537 : ∀ (x5 : Int32) (x8 : Int32) (x9 : Int32) (x10 : Int32) (t1 : Int32) (t2 : Int32) (fi : FI) (ar : AR) (H : Heap) (locs : List Loc) (ls : Array Slot), M_format_537 K502 nf x5 x8 x9 x10 t1 t2 fi ar = some (r, fi', ar') → lv_has ls 11 [(0, .ref (am 0)), (5, .int x5), (8, .int x8), (9, .int x9), (10, .int x10)] → va_P (gD g) vwCl (WM g am fi ar) H → va_S (AM am s.heap.size) s.heap H locs → W p l e (headSpec (wx yX11_format cX11_format 11 (some .int)) ({ frames := 5, cells := 0, slots := 0, locals := 111 } : Room)).room s m ([.ref (am 0), .int p1, .int p2, .int p3, .int p4] : List Value).toArray below meth c H locs 0 0 (MQ below (QMi g am s.heap.size r fi' ar') ([.ref (am 0), .int p1, .int p2, .int p3, .int p4] : List Value).toArray s 0 0 (AM am s.heap.size)) (F0 m 537 ls [.int t2, .int t1, .ref (am 1)]) := by
        intro x5 x8 x9 x10 t1 t2 fi ar H locs ls hF hl hP hS
        unfold M_format_537 at hF
        replace hF := gd_of hF
        obtain ⟨hi7, hF⟩ := hF
        obtain ⟨ar8, ear8⟩ : ∃ y : AR, y = va_up ar 1 (upd (ar 1) (t1).toNatClampNeg (vp_nar .byte (t2))) := ⟨_, rfl⟩
        replace hF := bnd_of hF ear8
        refine ms_1 hx hb hK hP hD hS hi7 dX11_format_537 (fun H locs hP hS => ?_)
        rw [← ear8] at hP
        obtain ⟨x10_9, ex10_9⟩ : ∃ y : Int32, y = (x10) + (1 : Int32) := ⟨_, rfl⟩
        replace hF := bnd_of hF ex10_9
        refine lv_iinc (v := x10_9) (lv' := [(10, .int (x10_9)), (0, .ref (am 0)), (5, .int (x5)), (8, .int (x8)), (9, .int (x9))]) hx hb dX11_format_538 hl (k := 4) rfl (by rw [ex10_9]; rfl) (by decide) rfl (fun ls hl => ?_)
        refine lv_goto (tgt := 502) hx hb dX11_format_541 (by decide) ?_
        exact ih502 (x5) (x8) (x9) (x10_9) _ _ _ _ _ hF (lv_sub hl [1, 2, 3, 4, 0] rfl) hP hS
      unfold M_format_502b at hF
      refine lv_iload hx hb dX11_format_502 (lv_at hl 4 rfl) ?_
      refine lv_bipush (v := (11 : Int32)) hx hb dX11_format_504 (by decide) ?_
      refine lv_icmp_ge (tgt := 544) hx hb dX11_format_506 (by decide) (fun hc10 => ?_) (fun hc10 => ?_)
      · replace hF := br_yes hF hc10
        refine lv_aload_n hx hb dX11_format_544 rfl (lv_at hl 0 rfl) ?_
        refine lv_iload hx hb dX11_format_545 (lv_at hl 3 rfl) ?_
        refine lv_bipush (v := (11 : Int32)) hx hb dX11_format_547 (by decide) ?_
        refine lv_iadd hx hb dX11_format_549 ?_
        refine lv_iconst (v := (1 : Int32)) hx hb dX11_format_550 (by decide) ?_
        refine lv_ldc2 (v := (8 : Int64)) hx hb hown (hT _ mw18_2) dX11_format_551 ?_
        replace hF := obnd3_of hF
        obtain ⟨r14, fi12, ar13, h11, hF⟩ := hF
        refine cM_v (As := [.int ((x9) + (11 : Int32)), .int (1 : Int32), .long (8 : Int64)]) (rest := []) hx hb hml hT hown hK hE hD hA hP hS (k_set l g am _ nf fi ar ((x9) + (11 : Int32)) (1 : Int32) (8 : Int64) r14 fi12 ar13 h11) cw_X11_set mw18_18 ⟨⟨rfl, rfl⟩, Nat.le_of_ble_eq_true rfl, Nat.le_of_ble_eq_true rfl⟩ rfl hl.1 rfl (Nat.le_of_ble_eq_true rfl) dX11_format_554 ⟨Nat.zero_le _, Nat.zero_le _⟩ (fun H locs hP hS => ?_)
        refine lv_aload_n hx hb dX11_format_557 rfl (lv_at hl 0 rfl) ?_
        refine lv_iload hx hb dX11_format_558 (lv_at hl 3 rfl) ?_
        refine lv_bipush (v := (24 : Int32)) hx hb dX11_format_560 (by decide) ?_
        refine lv_iadd hx hb dX11_format_562 ?_
        refine lv_iconst (v := (2 : Int32)) hx hb dX11_format_563 (by decide) ?_
        refine lv_ldc2 (v := (33 : Int64)) hx hb hown (hT _ mw18_3) dX11_format_564 ?_
        replace hF := obnd3_of hF
        obtain ⟨r18, fi16, ar17, h15, hF⟩ := hF
        refine cM_v (As := [.int ((x9) + (24 : Int32)), .int (2 : Int32), .long (33 : Int64)]) (rest := []) hx hb hml hT hown hK hE hD hA hP hS (k_set l g am _ nf fi12 ar13 ((x9) + (24 : Int32)) (2 : Int32) (33 : Int64) r18 fi16 ar17 h15) cw_X11_set mw18_18 ⟨⟨rfl, rfl⟩, Nat.le_of_ble_eq_true rfl, Nat.le_of_ble_eq_true rfl⟩ rfl hl.1 rfl (Nat.le_of_ble_eq_true rfl) dX11_format_567 ⟨Nat.zero_le _, Nat.zero_le _⟩ (fun H locs hP hS => ?_)
        exact J570 (x8) _ _ _ _ _ hF (lv_sub hl [0, 2] rfl) hP hS
      · replace hF := br_no hF hc10
        refine lv_aload_n hx hb dX11_format_509 rfl (lv_at hl 0 rfl) ?_
        refine mg_1 hx hb hT hown hK hP mw6_1 dX11_format_510 ?_
        refine lv_iload hx hb dX11_format_513 (lv_at hl 3 rfl) ?_
        refine lv_iload hx hb dX11_format_515 (lv_at hl 4 rfl) ?_
        refine lv_iadd hx hb dX11_format_517 ?_
        refine lv_iload hx hb dX11_format_518 (lv_at hl 4 rfl) ?_
        refine lv_iload hx hb dX11_format_520 (lv_at hl 1 rfl) ?_
        refine lv_icmp_ge (tgt := 535) hx hb dX11_format_522 (by decide) (fun hc19 => ?_) (fun hc19 => ?_)
        · replace hF := br_yes hF hc19
          refine lv_bipush (v := (32 : Int32)) hx hb dX11_format_535 (by decide) ?_
          exact J537 (x5) (x8) (x9) (x10) ((x9) + (x10)) (32 : Int32) _ _ _ _ _ hF (lv_sub hl [0, 1, 2, 3, 4] rfl) hP hS
        · replace hF := br_no hF hc19
          refine lv_aload_n hx hb dX11_format_525 rfl (lv_at hl 0 rfl) ?_
          refine mg_2 hx hb hT hown hK hP mw6_2 dX11_format_526 ?_
          refine lv_iload hx hb dX11_format_529 (lv_at hl 4 rfl) ?_
          replace hF := gd_of hF
          obtain ⟨hi20, hF⟩ := hF
          refine ml_2 hx hb hK hP hi20 dX11_format_531 ?_
          refine lv_goto (tgt := 537) hx hb dX11_format_532 (by decide) ?_
          exact J537 (x5) (x8) (x9) (x10) ((x9) + (x10)) (ar 2 (x10).toNatClampNeg) _ _ _ _ _ hF (lv_sub hl [0, 1, 2, 3, 4] rfl) hP hS
  have L373 : ∀ kf : Nat, ∀ (x5 : Int32) (x8 : Int32) (fi : FI) (ar : AR) (H : Heap) (locs : List Loc) (ls : Array Slot), M_format_373 nf kf x5 x8 fi ar = some (r, fi', ar') → lv_has ls 11 [(0, .ref (am 0)), (5, .int x5), (8, .int x8)] → va_P (gD g) vwCl (WM g am fi ar) H → va_S (AM am s.heap.size) s.heap H locs → W p l e (headSpec (wx yX11_format cX11_format 11 (some .int)) ({ frames := 5, cells := 0, slots := 0, locals := 111 } : Room)).room s m ([.ref (am 0), .int p1, .int p2, .int p3, .int p4] : List Value).toArray below meth c H locs 0 0 (MQ below (QMi g am s.heap.size r fi' ar') ([.ref (am 0), .int p1, .int p2, .int p3, .int p4] : List Value).toArray s 0 0 (AM am s.heap.size)) (F0 m 373 ls []) := by
    intro kf
    induction kf with
    | zero => intro x5 x8 fi ar H locs ls hF hl hP hS; cases (show (none : Option (Int32 × FI × AR)) = _ from hF)
    | succ kf ih373 =>
      intro x5 x8 fi ar H locs ls hF hl hP hS
      obtain ⟨K373, hK373⟩ : ∃ K : Int32 → Int32 → FI → AR → Option (Int32 × FI × AR), K = M_format_373 nf kf := ⟨_, rfl⟩
      replace hF : M_format_373b K373 nf x5 x8 fi ar = some (r, fi', ar') := by rw [hK373]; exact hF
      rw [← hK373] at ih373
      clear hK373
      unfold M_format_373b at hF
      refine lv_iload hx hb dX11_format_373 (lv_at hl 2 rfl) ?_
      refine lv_sipush (v := (512 : Int32)) hx hb dX11_format_375 (by decide) ?_
      refine lv_icmp_ge (tgt := 405) hx hb dX11_format_378 (by decide) (fun hc21 => ?_) (fun hc21 => ?_)
      · replace hF := br_yes hF hc21
        refine lv_aload_n hx hb dX11_format_405 rfl (lv_at hl 0 rfl) ?_
        refine lv_sipush (v := (512 : Int32)) hx hb dX11_format_406 (by decide) ?_
        refine lv_iconst (v := (4 : Int32)) hx hb dX11_format_409 (by decide) ?_
        refine lv_ldc2 (v := (1096897106 : Int64)) hx hb hown (hT _ mw17_20) dX11_format_410 ?_
        replace hF := obnd3_of hF
        obtain ⟨r25, fi23, ar24, h22, hF⟩ := hF
        refine cM_v (As := [.int (512 : Int32), .int (4 : Int32), .long (1096897106 : Int64)]) (rest := []) hx hb hml hT hown hK hE hD hA hP hS (k_set l g am _ nf fi ar (512 : Int32) (4 : Int32) (1096897106 : Int64) r25 fi23 ar24 h22) cw_X11_set mw18_18 ⟨⟨rfl, rfl⟩, Nat.le_of_ble_eq_true rfl, Nat.le_of_ble_eq_true rfl⟩ rfl hl.1 rfl (Nat.le_of_ble_eq_true rfl) dX11_format_413 ⟨Nat.zero_le _, Nat.zero_le _⟩ (fun H locs hP hS => ?_)
        refine lv_aload_n hx hb dX11_format_416 rfl (lv_at hl 0 rfl) ?_
        refine lv_sipush (v := (996 : Int32)) hx hb dX11_format_417 (by decide) ?_
        refine lv_iconst (v := (4 : Int32)) hx hb dX11_format_420 (by decide) ?_
        refine lv_ldc2 (v := (1631679090 : Int64)) hx hb hown (hT _ mw17_21) dX11_format_421 ?_
        replace hF := obnd3_of hF
        obtain ⟨r29, fi27, ar28, h26, hF⟩ := hF
        refine cM_v (As := [.int (996 : Int32), .int (4 : Int32), .long (1631679090 : Int64)]) (rest := []) hx hb hml hT hown hK hE hD hA hP hS (k_set l g am _ nf fi23 ar24 (996 : Int32) (4 : Int32) (1631679090 : Int64) r29 fi27 ar28 h26) cw_X11_set mw18_18 ⟨⟨rfl, rfl⟩, Nat.le_of_ble_eq_true rfl, Nat.le_of_ble_eq_true rfl⟩ rfl hl.1 rfl (Nat.le_of_ble_eq_true rfl) dX11_format_424 ⟨Nat.zero_le _, Nat.zero_le _⟩ (fun H locs hP hS => ?_)
        refine lv_aload_n hx hb dX11_format_427 rfl (lv_at hl 0 rfl) ?_
        refine lv_sipush (v := (1000 : Int32)) hx hb dX11_format_428 (by decide) ?_
        refine lv_iconst (v := (4 : Int32)) hx hb dX11_format_431 (by decide) ?_
        refine lv_ldc2 (v := (4294967295 : Int64)) hx hb hown (hT _ mw17_22) dX11_format_432 ?_
        replace hF := obnd3_of hF
        obtain ⟨r33, fi31, ar32, h30, hF⟩ := hF
        refine cM_v (As := [.int (1000 : Int32), .int (4 : Int32), .long (4294967295 : Int64)]) (rest := []) hx hb hml hT hown hK hE hD hA hP hS (k_set l g am _ nf fi27 ar28 (1000 : Int32) (4 : Int32) (4294967295 : Int64) r33 fi31 ar32 h30) cw_X11_set mw18_18 ⟨⟨rfl, rfl⟩, Nat.le_of_ble_eq_true rfl, Nat.le_of_ble_eq_true rfl⟩ rfl hl.1 rfl (Nat.le_of_ble_eq_true rfl) dX11_format_435 ⟨Nat.zero_le _, Nat.zero_le _⟩ (fun H locs hP hS => ?_)
        refine lv_aload_n hx hb dX11_format_438 rfl (lv_at hl 0 rfl) ?_
        refine lv_sipush (v := (1004 : Int32)) hx hb dX11_format_439 (by decide) ?_
        refine lv_iconst (v := (4 : Int32)) hx hb dX11_format_442 (by decide) ?_
        refine lv_ldc2 (v := (4294967295 : Int64)) hx hb hown (hT _ mw17_22) dX11_format_443 ?_
        replace hF := obnd3_of hF
        obtain ⟨r37, fi35, ar36, h34, hF⟩ := hF
        refine cM_v (As := [.int (1004 : Int32), .int (4 : Int32), .long (4294967295 : Int64)]) (rest := []) hx hb hml hT hown hK hE hD hA hP hS (k_set l g am _ nf fi31 ar32 (1004 : Int32) (4 : Int32) (4294967295 : Int64) r37 fi35 ar36 h34) cw_X11_set mw18_18 ⟨⟨rfl, rfl⟩, Nat.le_of_ble_eq_true rfl, Nat.le_of_ble_eq_true rfl⟩ rfl hl.1 rfl (Nat.le_of_ble_eq_true rfl) dX11_format_446 ⟨Nat.zero_le _, Nat.zero_le _⟩ (fun H locs hP hS => ?_)
        refine lv_aload_n hx hb dX11_format_449 rfl (lv_at hl 0 rfl) ?_
        refine lv_sipush (v := (1020 : Int32)) hx hb dX11_format_450 (by decide) ?_
        refine lv_iconst (v := (4 : Int32)) hx hb dX11_format_453 (by decide) ?_
        refine lv_ldc2 (v := (2857697280 : Int64)) hx hb hown (hT _ mw17_23) dX11_format_454 ?_
        replace hF := obnd3_of hF
        obtain ⟨r41, fi39, ar40, h38, hF⟩ := hF
        refine cM_v (As := [.int (1020 : Int32), .int (4 : Int32), .long (2857697280 : Int64)]) (rest := []) hx hb hml hT hown hK hE hD hA hP hS (k_set l g am _ nf fi35 ar36 (1020 : Int32) (4 : Int32) (2857697280 : Int64) r41 fi39 ar40 h38) cw_X11_set mw18_18 ⟨⟨rfl, rfl⟩, Nat.le_of_ble_eq_true rfl, Nat.le_of_ble_eq_true rfl⟩ rfl hl.1 rfl (Nat.le_of_ble_eq_true rfl) dX11_format_457 ⟨Nat.zero_le _, Nat.zero_le _⟩ (fun H locs hP hS => ?_)
        refine lv_aload_n hx hb dX11_format_460 rfl (lv_at hl 0 rfl) ?_
        replace hF := obnd3_of hF
        obtain ⟨r45, fi43, ar44, h42, hF⟩ := hF
        refine cM_i (As := []) (rest := []) hx hb hml hT hown hK hE hD hA hP hS (k_head l g am _ nf fi39 ar40 r45 fi43 ar44 h42) cw_X11_head mw18_22 ⟨⟨rfl, rfl⟩, Nat.le_of_ble_eq_true rfl, Nat.le_of_ble_eq_true rfl⟩ rfl hl.1 rfl (Nat.le_of_ble_eq_true rfl) dX11_format_461 ⟨Nat.zero_le _, Nat.zero_le _⟩ (fun H locs hP hS => ?_)
        refine lv_istore (lv' := [(8, .int (r45)), (0, .ref (am 0)), (5, .int (x5))]) hx hb dX11_format_464 hl (by decide) rfl (fun ls hl => ?_)
        refine lv_aload_n hx hb dX11_format_466 rfl (lv_at hl 1 rfl) ?_
        refine lv_iconst (v := (0 : Int32)) hx hb dX11_format_467 (by decide) ?_
        refine lv_ldc (v := (268435448 : Int32)) hx hb hown (hT _ mw18_0) dX11_format_468 ?_
        replace hF := obnd3_of hF
        obtain ⟨r49, fi47, ar48, h46, hF⟩ := hF
        refine cM_v (As := [.int (0 : Int32), .int (268435448 : Int32)]) (rest := []) hx hb hml hT hown hK hE hD hA hP hS (k_setEntry l g am _ nf fi43 ar44 (0 : Int32) (268435448 : Int32) r49 fi47 ar48 h46) cw_X11_setEntry mw20_1 ⟨⟨rfl, rfl⟩, Nat.le_of_ble_eq_true rfl, Nat.le_of_ble_eq_true rfl⟩ rfl hl.1 rfl (Nat.le_of_ble_eq_true rfl) dX11_format_470 ⟨Nat.zero_le _, Nat.zero_le _⟩ (fun H locs hP hS => ?_)
        refine lv_aload_n hx hb dX11_format_473 rfl (lv_at hl 1 rfl) ?_
        refine lv_iconst (v := (1 : Int32)) hx hb dX11_format_474 (by decide) ?_
        refine lv_ldc (v := (268435455 : Int32)) hx hb hown (hT _ mw18_1) dX11_format_475 ?_
        replace hF := obnd3_of hF
        obtain ⟨r53, fi51, ar52, h50, hF⟩ := hF
        refine cM_v (As := [.int (1 : Int32), .int (268435455 : Int32)]) (rest := []) hx hb hml hT hown hK hE hD hA hP hS (k_setEntry l g am _ nf fi47 ar48 (1 : Int32) (268435455 : Int32) r53 fi51 ar52 h50) cw_X11_setEntry mw20_1 ⟨⟨rfl, rfl⟩, Nat.le_of_ble_eq_true rfl, Nat.le_of_ble_eq_true rfl⟩ rfl hl.1 rfl (Nat.le_of_ble_eq_true rfl) dX11_format_477 ⟨Nat.zero_le _, Nat.zero_le _⟩ (fun H locs hP hS => ?_)
        refine lv_aload_n hx hb dX11_format_480 rfl (lv_at hl 1 rfl) ?_
        refine lv_iconst (v := (2 : Int32)) hx hb dX11_format_481 (by decide) ?_
        refine lv_ldc (v := (268435455 : Int32)) hx hb hown (hT _ mw18_1) dX11_format_482 ?_
        replace hF := obnd3_of hF
        obtain ⟨r57, fi55, ar56, h54, hF⟩ := hF
        refine cM_v (As := [.int (2 : Int32), .int (268435455 : Int32)]) (rest := []) hx hb hml hT hown hK hE hD hA hP hS (k_setEntry l g am _ nf fi51 ar52 (2 : Int32) (268435455 : Int32) r57 fi55 ar56 h54) cw_X11_setEntry mw20_1 ⟨⟨rfl, rfl⟩, Nat.le_of_ble_eq_true rfl, Nat.le_of_ble_eq_true rfl⟩ rfl hl.1 rfl (Nat.le_of_ble_eq_true rfl) dX11_format_484 ⟨Nat.zero_le _, Nat.zero_le _⟩ (fun H locs hP hS => ?_)
        refine lv_iload hx hb dX11_format_487 (lv_at hl 2 rfl) ?_
        refine lv_if_le (tgt := 570) hx hb dX11_format_489 (by decide) (fun hc58 => ?_) (fun hc58 => ?_)
        · replace hF := br_yes hF hc58
          exact J570 (r45) _ _ _ _ _ hF (lv_sub hl [1, 0] rfl) hP hS
        · replace hF := br_no hF hc58
          refine lv_aload_n hx hb dX11_format_492 rfl (lv_at hl 1 rfl) ?_
          refine lv_iconst (v := (2 : Int32)) hx hb dX11_format_493 (by decide) ?_
          replace hF := obnd3_of hF
          obtain ⟨r62, fi60, ar61, h59, hF⟩ := hF
          refine cM_i (As := [.int (2 : Int32)]) (rest := []) hx hb hml hT hown hK hE hD hA hP hS (k_place l g am _ nf fi55 ar56 (2 : Int32) r62 fi60 ar61 h59) cw_X11_place mw20_10 ⟨⟨rfl, rfl⟩, Nat.le_of_ble_eq_true rfl, Nat.le_of_ble_eq_true rfl⟩ rfl hl.1 rfl (Nat.le_of_ble_eq_true rfl) dX11_format_494 ⟨Nat.zero_le _, Nat.zero_le _⟩ (fun H locs hP hS => ?_)
          refine lv_istore (lv' := [(9, .int (r62)), (8, .int (r45)), (0, .ref (am 0)), (5, .int (x5))]) hx hb dX11_format_497 hl (by decide) rfl (fun ls hl => ?_)
          refine lv_iconst (v := (0 : Int32)) hx hb dX11_format_499 (by decide) ?_
          refine lv_istore (lv' := [(10, .int (0 : Int32)), (9, .int (r62)), (8, .int (r45)), (0, .ref (am 0)), (5, .int (x5))]) hx hb dX11_format_500 hl (by decide) rfl (fun ls hl => ?_)
          exact L502 nf (x5) (r45) (r62) (0 : Int32) _ _ _ _ _ hF (lv_sub hl [3, 4, 2, 1, 0] rfl) hP hS
      · replace hF := br_no hF hc21
        refine lv_aload_n hx hb dX11_format_381 rfl (lv_at hl 0 rfl) ?_
        refine mg_1 hx hb hT hown hK hP mw6_1 dX11_format_382 ?_
        refine lv_sipush (v := (3072 : Int32)) hx hb dX11_format_385 (by decide) ?_
        refine lv_iload hx hb dX11_format_388 (lv_at hl 2 rfl) ?_
        refine lv_iadd hx hb dX11_format_390 ?_
        refine lv_aload_n hx hb dX11_format_391 rfl (lv_at hl 0 rfl) ?_
        refine mg_1 hx hb hT hown hK hP mw6_1 dX11_format_392 ?_
        refine lv_iload hx hb dX11_format_395 (lv_at hl 2 rfl) ?_
        replace hF := gd_of hF
        obtain ⟨hi63, hF⟩ := hF
        refine ml_1 hx hb hK hP hi63 dX11_format_397 ?_
        replace hF := gd_of hF
        obtain ⟨hi64, hF⟩ := hF
        obtain ⟨ar65, ear65⟩ : ∃ y : AR, y = va_up ar 1 (upd (ar 1) ((3072 : Int32) + (x8)).toNatClampNeg (vp_nar .byte (ar 1 (x8).toNatClampNeg))) := ⟨_, rfl⟩
        replace hF := bnd_of hF ear65
        refine ms_1 hx hb hK hP hD hS hi64 dX11_format_398 (fun H locs hP hS => ?_)
        rw [← ear65] at hP
        obtain ⟨x8_66, ex8_66⟩ : ∃ y : Int32, y = (x8) + (1 : Int32) := ⟨_, rfl⟩
        replace hF := bnd_of hF ex8_66
        refine lv_iinc (v := x8_66) (lv' := [(8, .int (x8_66)), (0, .ref (am 0)), (5, .int (x5))]) hx hb dX11_format_399 hl (k := 2) rfl (by rw [ex8_66]; rfl) (by decide) rfl (fun ls hl => ?_)
        refine lv_goto (tgt := 373) hx hb dX11_format_402 (by decide) ?_
        exact ih373 (x5) (x8_66) _ _ _ _ _ hF (lv_sub hl [1, 2, 0] rfl) hP hS
  have L240 : ∀ kf : Nat, ∀ (x1 : Int32) (x2 : Int32) (x3 : Int32) (x4 : Int32) (x5 : Int32) (x7 : Int32) (x8 : Int32) (fi : FI) (ar : AR) (H : Heap) (locs : List Loc) (ls : Array Slot), M_format_240 nf kf x1 x2 x3 x4 x5 x7 x8 fi ar = some (r, fi', ar') → lv_has ls 11 [(0, .ref (am 0)), (1, .int x1), (2, .int x2), (3, .int x3), (4, .int x4), (5, .int x5), (7, .int x7), (8, .int x8)] → va_P (gD g) vwCl (WM g am fi ar) H → va_S (AM am s.heap.size) s.heap H locs → W p l e (headSpec (wx yX11_format cX11_format 11 (some .int)) ({ frames := 5, cells := 0, slots := 0, locals := 111 } : Room)).room s m ([.ref (am 0), .int p1, .int p2, .int p3, .int p4] : List Value).toArray below meth c H locs 0 0 (MQ below (QMi g am s.heap.size r fi' ar') ([.ref (am 0), .int p1, .int p2, .int p3, .int p4] : List Value).toArray s 0 0 (AM am s.heap.size)) (F0 m 240 ls []) := by
    intro kf
    induction kf with
    | zero => intro x1 x2 x3 x4 x5 x7 x8 fi ar H locs ls hF hl hP hS; cases (show (none : Option (Int32 × FI × AR)) = _ from hF)
    | succ kf ih240 =>
      intro x1 x2 x3 x4 x5 x7 x8 fi ar H locs ls hF hl hP hS
      obtain ⟨K240, hK240⟩ : ∃ K : Int32 → Int32 → Int32 → Int32 → Int32 → Int32 → Int32 → FI → AR → Option (Int32 × FI × AR), K = M_format_240 nf kf := ⟨_, rfl⟩
      replace hF : M_format_240b K240 nf x1 x2 x3 x4 x5 x7 x8 fi ar = some (r, fi', ar') := by rw [hK240]; exact hF
      rw [← hK240] at ih240
      clear hK240
      unfold M_format_240b at hF
      refine lv_iload hx hb dX11_format_240 (lv_at hl 7 rfl) ?_
      refine lv_bipush (v := (11 : Int32)) hx hb dX11_format_242 (by decide) ?_
      refine lv_icmp_ge (tgt := 262) hx hb dX11_format_244 (by decide) (fun hc67 => ?_) (fun hc67 => ?_)
      · replace hF := br_yes hF hc67
        refine lv_aload_n hx hb dX11_format_262 rfl (lv_at hl 0 rfl) ?_
        refine lv_bipush (v := (11 : Int32)) hx hb dX11_format_263 (by decide) ?_
        refine lv_iconst (v := (2 : Int32)) hx hb dX11_format_265 (by decide) ?_
        refine lv_ldc2 (v := (512 : Int64)) hx hb hown (hT _ mw17_16) dX11_format_266 ?_
        replace hF := obnd3_of hF
        obtain ⟨r71, fi69, ar70, h68, hF⟩ := hF
        refine cM_v (As := [.int (11 : Int32), .int (2 : Int32), .long (512 : Int64)]) (rest := []) hx hb hml hT hown hK hE hD hA hP hS (k_set l g am _ nf fi ar (11 : Int32) (2 : Int32) (512 : Int64) r71 fi69 ar70 h68) cw_X11_set mw18_18 ⟨⟨rfl, rfl⟩, Nat.le_of_ble_eq_true rfl, Nat.le_of_ble_eq_true rfl⟩ rfl hl.1 rfl (Nat.le_of_ble_eq_true rfl) dX11_format_269 ⟨Nat.zero_le _, Nat.zero_le _⟩ (fun H locs hP hS => ?_)
        refine lv_aload_n hx hb dX11_format_272 rfl (lv_at hl 0 rfl) ?_
        refine lv_bipush (v := (13 : Int32)) hx hb dX11_format_273 (by decide) ?_
        refine lv_iconst (v := (1 : Int32)) hx hb dX11_format_275 (by decide) ?_
        refine lv_iload_n hx hb dX11_format_276 rfl (lv_at hl 1 rfl) ?_
        refine lv_i2l hx hb dX11_format_277 rfl ?_
        replace hF := obnd3_of hF
        obtain ⟨r75, fi73, ar74, h72, hF⟩ := hF
        refine cM_v (As := [.int (13 : Int32), .int (1 : Int32), .long ((x1).toInt64)]) (rest := []) hx hb hml hT hown hK hE hD hA hP hS (k_set l g am _ nf fi69 ar70 (13 : Int32) (1 : Int32) ((x1).toInt64) r75 fi73 ar74 h72) cw_X11_set mw18_18 ⟨⟨rfl, rfl⟩, Nat.le_of_ble_eq_true rfl, Nat.le_of_ble_eq_true rfl⟩ rfl hl.1 rfl (Nat.le_of_ble_eq_true rfl) dX11_format_278 ⟨Nat.zero_le _, Nat.zero_le _⟩ (fun H locs hP hS => ?_)
        refine lv_aload_n hx hb dX11_format_281 rfl (lv_at hl 0 rfl) ?_
        refine lv_bipush (v := (14 : Int32)) hx hb dX11_format_282 (by decide) ?_
        refine lv_iconst (v := (2 : Int32)) hx hb dX11_format_284 (by decide) ?_
        refine lv_iload_n hx hb dX11_format_285 rfl (lv_at hl 2 rfl) ?_
        refine lv_i2l hx hb dX11_format_286 rfl ?_
        replace hF := obnd3_of hF
        obtain ⟨r79, fi77, ar78, h76, hF⟩ := hF
        refine cM_v (As := [.int (14 : Int32), .int (2 : Int32), .long ((x2).toInt64)]) (rest := []) hx hb hml hT hown hK hE hD hA hP hS (k_set l g am _ nf fi73 ar74 (14 : Int32) (2 : Int32) ((x2).toInt64) r79 fi77 ar78 h76) cw_X11_set mw18_18 ⟨⟨rfl, rfl⟩, Nat.le_of_ble_eq_true rfl, Nat.le_of_ble_eq_true rfl⟩ rfl hl.1 rfl (Nat.le_of_ble_eq_true rfl) dX11_format_287 ⟨Nat.zero_le _, Nat.zero_le _⟩ (fun H locs hP hS => ?_)
        refine lv_aload_n hx hb dX11_format_290 rfl (lv_at hl 0 rfl) ?_
        refine lv_bipush (v := (16 : Int32)) hx hb dX11_format_291 (by decide) ?_
        refine lv_iconst (v := (1 : Int32)) hx hb dX11_format_293 (by decide) ?_
        refine lv_iload_n hx hb dX11_format_294 rfl (lv_at hl 3 rfl) ?_
        refine lv_i2l hx hb dX11_format_295 rfl ?_
        replace hF := obnd3_of hF
        obtain ⟨r83, fi81, ar82, h80, hF⟩ := hF
        refine cM_v (As := [.int (16 : Int32), .int (1 : Int32), .long ((x3).toInt64)]) (rest := []) hx hb hml hT hown hK hE hD hA hP hS (k_set l g am _ nf fi77 ar78 (16 : Int32) (1 : Int32) ((x3).toInt64) r83 fi81 ar82 h80) cw_X11_set mw18_18 ⟨⟨rfl, rfl⟩, Nat.le_of_ble_eq_true rfl, Nat.le_of_ble_eq_true rfl⟩ rfl hl.1 rfl (Nat.le_of_ble_eq_true rfl) dX11_format_296 ⟨Nat.zero_le _, Nat.zero_le _⟩ (fun H locs hP hS => ?_)
        refine lv_aload_n hx hb dX11_format_299 rfl (lv_at hl 0 rfl) ?_
        refine lv_bipush (v := (32 : Int32)) hx hb dX11_format_300 (by decide) ?_
        refine lv_iconst (v := (4 : Int32)) hx hb dX11_format_302 (by decide) ?_
        refine lv_aload_n hx hb dX11_format_303 rfl (lv_at hl 0 rfl) ?_
        refine mg_0 hx hb hT hown hK hP mw6_22 dX11_format_304 ?_
        refine lv_i2l hx hb dX11_format_307 rfl ?_
        replace hF := obnd3_of hF
        obtain ⟨r87, fi85, ar86, h84, hF⟩ := hF
        refine cM_v (As := [.int (32 : Int32), .int (4 : Int32), .long ((fi81 0).toInt64)]) (rest := []) hx hb hml hT hown hK hE hD hA hP hS (k_set l g am _ nf fi81 ar82 (32 : Int32) (4 : Int32) ((fi81 0).toInt64) r87 fi85 ar86 h84) cw_X11_set mw18_18 ⟨⟨rfl, rfl⟩, Nat.le_of_ble_eq_true rfl, Nat.le_of_ble_eq_true rfl⟩ rfl hl.1 rfl (Nat.le_of_ble_eq_true rfl) dX11_format_308 ⟨Nat.zero_le _, Nat.zero_le _⟩ (fun H locs hP hS => ?_)
        refine lv_aload_n hx hb dX11_format_311 rfl (lv_at hl 0 rfl) ?_
        refine lv_bipush (v := (36 : Int32)) hx hb dX11_format_312 (by decide) ?_
        refine lv_iconst (v := (4 : Int32)) hx hb dX11_format_314 (by decide) ?_
        refine lv_iload hx hb dX11_format_315 (lv_at hl 6 rfl) ?_
        refine lv_i2l hx hb dX11_format_317 rfl ?_
        replace hF := obnd3_of hF
        obtain ⟨r91, fi89, ar90, h88, hF⟩ := hF
        refine cM_v (As := [.int (36 : Int32), .int (4 : Int32), .long ((x7).toInt64)]) (rest := []) hx hb hml hT hown hK hE hD hA hP hS (k_set l g am _ nf fi85 ar86 (36 : Int32) (4 : Int32) ((x7).toInt64) r91 fi89 ar90 h88) cw_X11_set mw18_18 ⟨⟨rfl, rfl⟩, Nat.le_of_ble_eq_true rfl, Nat.le_of_ble_eq_true rfl⟩ rfl hl.1 rfl (Nat.le_of_ble_eq_true rfl) dX11_format_318 ⟨Nat.zero_le _, Nat.zero_le _⟩ (fun H locs hP hS => ?_)
        refine lv_aload_n hx hb dX11_format_321 rfl (lv_at hl 0 rfl) ?_
        refine lv_bipush (v := (44 : Int32)) hx hb dX11_format_322 (by decide) ?_
        refine lv_iconst (v := (4 : Int32)) hx hb dX11_format_324 (by decide) ?_
        refine lv_ldc2 (v := (2 : Int64)) hx hb hown (hT _ mw17_17) dX11_format_325 ?_
        replace hF := obnd3_of hF
        obtain ⟨r95, fi93, ar94, h92, hF⟩ := hF
        refine cM_v (As := [.int (44 : Int32), .int (4 : Int32), .long (2 : Int64)]) (rest := []) hx hb hml hT hown hK hE hD hA hP hS (k_set l g am _ nf fi89 ar90 (44 : Int32) (4 : Int32) (2 : Int64) r95 fi93 ar94 h92) cw_X11_set mw18_18 ⟨⟨rfl, rfl⟩, Nat.le_of_ble_eq_true rfl, Nat.le_of_ble_eq_true rfl⟩ rfl hl.1 rfl (Nat.le_of_ble_eq_true rfl) dX11_format_328 ⟨Nat.zero_le _, Nat.zero_le _⟩ (fun H locs hP hS => ?_)
        refine lv_aload_n hx hb dX11_format_331 rfl (lv_at hl 0 rfl) ?_
        refine lv_bipush (v := (48 : Int32)) hx hb dX11_format_332 (by decide) ?_
        refine lv_iconst (v := (2 : Int32)) hx hb dX11_format_334 (by decide) ?_
        refine lv_lconst (v := (1 : Int64)) hx hb dX11_format_335 (by decide) ?_
        replace hF := obnd3_of hF
        obtain ⟨r99, fi97, ar98, h96, hF⟩ := hF
        refine cM_v (As := [.int (48 : Int32), .int (2 : Int32), .long (1 : Int64)]) (rest := []) hx hb hml hT hown hK hE hD hA hP hS (k_set l g am _ nf fi93 ar94 (48 : Int32) (2 : Int32) (1 : Int64) r99 fi97 ar98 h96) cw_X11_set mw18_18 ⟨⟨rfl, rfl⟩, Nat.le_of_ble_eq_true rfl, Nat.le_of_ble_eq_true rfl⟩ rfl hl.1 rfl (Nat.le_of_ble_eq_true rfl) dX11_format_336 ⟨Nat.zero_le _, Nat.zero_le _⟩ (fun H locs hP hS => ?_)
        refine lv_aload_n hx hb dX11_format_339 rfl (lv_at hl 0 rfl) ?_
        refine lv_bipush (v := (50 : Int32)) hx hb dX11_format_340 (by decide) ?_
        refine lv_iconst (v := (2 : Int32)) hx hb dX11_format_342 (by decide) ?_
        refine lv_ldc2 (v := (6 : Int64)) hx hb hown (hT _ mw17_18) dX11_format_343 ?_
        replace hF := obnd3_of hF
        obtain ⟨r103, fi101, ar102, h100, hF⟩ := hF
        refine cM_v (As := [.int (50 : Int32), .int (2 : Int32), .long (6 : Int64)]) (rest := []) hx hb hml hT hown hK hE hD hA hP hS (k_set l g am _ nf fi97 ar98 (50 : Int32) (2 : Int32) (6 : Int64) r103 fi101 ar102 h100) cw_X11_set mw18_18 ⟨⟨rfl, rfl⟩, Nat.le_of_ble_eq_true rfl, Nat.le_of_ble_eq_true rfl⟩ rfl hl.1 rfl (Nat.le_of_ble_eq_true rfl) dX11_format_346 ⟨Nat.zero_le _, Nat.zero_le _⟩ (fun H locs hP hS => ?_)
        refine lv_aload_n hx hb dX11_format_349 rfl (lv_at hl 0 rfl) ?_
        refine lv_bipush (v := (67 : Int32)) hx hb dX11_format_350 (by decide) ?_
        refine lv_iconst (v := (4 : Int32)) hx hb dX11_format_352 (by decide) ?_
        refine lv_iload hx hb dX11_format_353 (lv_at hl 4 rfl) ?_
        refine lv_i2l hx hb dX11_format_355 rfl ?_
        replace hF := obnd3_of hF
        obtain ⟨r107, fi105, ar106, h104, hF⟩ := hF
        refine cM_v (As := [.int (67 : Int32), .int (4 : Int32), .long ((x4).toInt64)]) (rest := []) hx hb hml hT hown hK hE hD hA hP hS (k_set l g am _ nf fi101 ar102 (67 : Int32) (4 : Int32) ((x4).toInt64) r107 fi105 ar106 h104) cw_X11_set mw18_18 ⟨⟨rfl, rfl⟩, Nat.le_of_ble_eq_true rfl, Nat.le_of_ble_eq_true rfl⟩ rfl hl.1 rfl (Nat.le_of_ble_eq_true rfl) dX11_format_356 ⟨Nat.zero_le _, Nat.zero_le _⟩ (fun H locs hP hS => ?_)
        refine lv_aload_n hx hb dX11_format_359 rfl (lv_at hl 0 rfl) ?_
        refine lv_sipush (v := (510 : Int32)) hx hb dX11_format_360 (by decide) ?_
        refine lv_iconst (v := (2 : Int32)) hx hb dX11_format_363 (by decide) ?_
        refine lv_ldc2 (v := (43605 : Int64)) hx hb hown (hT _ mw17_19) dX11_format_364 ?_
        replace hF := obnd3_of hF
        obtain ⟨r111, fi109, ar110, h108, hF⟩ := hF
        refine cM_v (As := [.int (510 : Int32), .int (2 : Int32), .long (43605 : Int64)]) (rest := []) hx hb hml hT hown hK hE hD hA hP hS (k_set l g am _ nf fi105 ar106 (510 : Int32) (2 : Int32) (43605 : Int64) r111 fi109 ar110 h108) cw_X11_set mw18_18 ⟨⟨rfl, rfl⟩, Nat.le_of_ble_eq_true rfl, Nat.le_of_ble_eq_true rfl⟩ rfl hl.1 rfl (Nat.le_of_ble_eq_true rfl) dX11_format_367 ⟨Nat.zero_le _, Nat.zero_le _⟩ (fun H locs hP hS => ?_)
        refine lv_iconst (v := (0 : Int32)) hx hb dX11_format_370 (by decide) ?_
        refine lv_istore (lv' := [(8, .int (0 : Int32)), (0, .ref (am 0)), (1, .int (x1)), (2, .int (x2)), (3, .int (x3)), (4, .int (x4)), (5, .int (x5)), (7, .int (x7))]) hx hb dX11_format_371 hl (by decide) rfl (fun ls hl => ?_)
        exact L373 nf (x5) (0 : Int32) _ _ _ _ _ hF (lv_sub hl [1, 6, 0] rfl) hP hS
      · replace hF := br_no hF hc67
        refine lv_aload_n hx hb dX11_format_247 rfl (lv_at hl 0 rfl) ?_
        refine mg_1 hx hb hT hown hK hP mw6_1 dX11_format_248 ?_
        refine lv_iload hx hb dX11_format_251 (lv_at hl 7 rfl) ?_
        refine lv_bipush (v := (32 : Int32)) hx hb dX11_format_253 (by decide) ?_
        replace hF := gd_of hF
        obtain ⟨hi112, hF⟩ := hF
        obtain ⟨ar113, ear113⟩ : ∃ y : AR, y = va_up ar 1 (upd (ar 1) (x8).toNatClampNeg (vp_nar .byte (32 : Int32))) := ⟨_, rfl⟩
        replace hF := bnd_of hF ear113
        refine ms_1 hx hb hK hP hD hS hi112 dX11_format_255 (fun H locs hP hS => ?_)
        rw [← ear113] at hP
        obtain ⟨x8_114, ex8_114⟩ : ∃ y : Int32, y = (x8) + (1 : Int32) := ⟨_, rfl⟩
        replace hF := bnd_of hF ex8_114
        refine lv_iinc (v := x8_114) (lv' := [(8, .int (x8_114)), (0, .ref (am 0)), (1, .int (x1)), (2, .int (x2)), (3, .int (x3)), (4, .int (x4)), (5, .int (x5)), (7, .int (x7))]) hx hb dX11_format_256 hl (k := 7) rfl (by rw [ex8_114]; rfl) (by decide) rfl (fun ls hl => ?_)
        refine lv_goto (tgt := 240) hx hb dX11_format_259 (by decide) ?_
        exact ih240 (x1) (x2) (x3) (x4) (x5) (x7) (x8_114) _ _ _ _ _ hF (lv_sub hl [1, 2, 3, 4, 5, 6, 7, 0] rfl) hP hS
  have L216 : ∀ kf : Nat, ∀ (x1 : Int32) (x2 : Int32) (x3 : Int32) (x4 : Int32) (x5 : Int32) (x7 : Int32) (x8 : Int32) (fi : FI) (ar : AR) (H : Heap) (locs : List Loc) (ls : Array Slot), M_format_216 nf kf x1 x2 x3 x4 x5 x7 x8 fi ar = some (r, fi', ar') → lv_has ls 11 [(0, .ref (am 0)), (1, .int x1), (2, .int x2), (3, .int x3), (4, .int x4), (5, .int x5), (7, .int x7), (8, .int x8)] → va_P (gD g) vwCl (WM g am fi ar) H → va_S (AM am s.heap.size) s.heap H locs → W p l e (headSpec (wx yX11_format cX11_format 11 (some .int)) ({ frames := 5, cells := 0, slots := 0, locals := 111 } : Room)).room s m ([.ref (am 0), .int p1, .int p2, .int p3, .int p4] : List Value).toArray below meth c H locs 0 0 (MQ below (QMi g am s.heap.size r fi' ar') ([.ref (am 0), .int p1, .int p2, .int p3, .int p4] : List Value).toArray s 0 0 (AM am s.heap.size)) (F0 m 216 ls []) := by
    intro kf
    induction kf with
    | zero => intro x1 x2 x3 x4 x5 x7 x8 fi ar H locs ls hF hl hP hS; cases (show (none : Option (Int32 × FI × AR)) = _ from hF)
    | succ kf ih216 =>
      intro x1 x2 x3 x4 x5 x7 x8 fi ar H locs ls hF hl hP hS
      obtain ⟨K216, hK216⟩ : ∃ K : Int32 → Int32 → Int32 → Int32 → Int32 → Int32 → Int32 → FI → AR → Option (Int32 × FI × AR), K = M_format_216 nf kf := ⟨_, rfl⟩
      replace hF : M_format_216b K216 nf x1 x2 x3 x4 x5 x7 x8 fi ar = some (r, fi', ar') := by rw [hK216]; exact hF
      rw [← hK216] at ih216
      clear hK216
      unfold M_format_216b at hF
      refine lv_iload hx hb dX11_format_216 (lv_at hl 7 rfl) ?_
      refine lv_ldc (v := (524288 : Int32)) hx hb hown (hT _ mw6_0) dX11_format_218 ?_
      refine lv_icmp_ge (tgt := 237) hx hb dX11_format_220 (by decide) (fun hc115 => ?_) (fun hc115 => ?_)
      · replace hF := br_yes hF hc115
        refine lv_iconst (v := (3 : Int32)) hx hb dX11_format_237 (by decide) ?_
        refine lv_istore (lv' := [(8, .int (3 : Int32)), (0, .ref (am 0)), (1, .int (x1)), (2, .int (x2)), (3, .int (x3)), (4, .int (x4)), (5, .int (x5)), (7, .int (x7))]) hx hb dX11_format_238 hl (by decide) rfl (fun ls hl => ?_)
        exact L240 nf (x1) (x2) (x3) (x4) (x5) (x7) (3 : Int32) _ _ _ _ _ hF (lv_sub hl [1, 2, 3, 4, 5, 6, 7, 0] rfl) hP hS
      · replace hF := br_no hF hc115
        refine lv_aload_n hx hb dX11_format_223 rfl (lv_at hl 0 rfl) ?_
        refine mg_1 hx hb hT hown hK hP mw6_1 dX11_format_224 ?_
        refine lv_iload hx hb dX11_format_227 (lv_at hl 7 rfl) ?_
        refine lv_iconst (v := (0 : Int32)) hx hb dX11_format_229 (by decide) ?_
        replace hF := gd_of hF
        obtain ⟨hi116, hF⟩ := hF
        obtain ⟨ar117, ear117⟩ : ∃ y : AR, y = va_up ar 1 (upd (ar 1) (x8).toNatClampNeg (vp_nar .byte (0 : Int32))) := ⟨_, rfl⟩
        replace hF := bnd_of hF ear117
        refine ms_1 hx hb hK hP hD hS hi116 dX11_format_230 (fun H locs hP hS => ?_)
        rw [← ear117] at hP
        obtain ⟨x8_118, ex8_118⟩ : ∃ y : Int32, y = (x8) + (1 : Int32) := ⟨_, rfl⟩
        replace hF := bnd_of hF ex8_118
        refine lv_iinc (v := x8_118) (lv' := [(8, .int (x8_118)), (0, .ref (am 0)), (1, .int (x1)), (2, .int (x2)), (3, .int (x3)), (4, .int (x4)), (5, .int (x5)), (7, .int (x7))]) hx hb dX11_format_231 hl (k := 7) rfl (by rw [ex8_118]; rfl) (by decide) rfl (fun ls hl => ?_)
        refine lv_goto (tgt := 216) hx hb dX11_format_234 (by decide) ?_
        exact ih216 (x1) (x2) (x3) (x4) (x5) (x7) (x8_118) _ _ _ _ _ hF (lv_sub hl [1, 2, 3, 4, 5, 6, 7, 0] rfl) hP hS
  have J204 : ∀ (x1 : Int32) (x2 : Int32) (x3 : Int32) (x4 : Int32) (x5 : Int32) (x7 : Int32) (t1 : Int32) (fi : FI) (ar : AR) (H : Heap) (locs : List Loc) (ls : Array Slot), M_format_204 nf x1 x2 x3 x4 x5 x7 t1 fi ar = some (r, fi', ar') → lv_has ls 11 [(0, .ref (am 0)), (1, .int x1), (2, .int x2), (3, .int x3), (4, .int x4), (5, .int x5), (7, .int x7)] → va_P (gD g) vwCl (WM g am fi ar) H → va_S (AM am s.heap.size) s.heap H locs → W p l e (headSpec (wx yX11_format cX11_format 11 (some .int)) ({ frames := 5, cells := 0, slots := 0, locals := 111 } : Room)).room s m ([.ref (am 0), .int p1, .int p2, .int p3, .int p4] : List Value).toArray below meth c H locs 0 0 (MQ below (QMi g am s.heap.size r fi' ar') ([.ref (am 0), .int p1, .int p2, .int p3, .int p4] : List Value).toArray s 0 0 (AM am s.heap.size)) (F0 m 204 ls [.int t1, .ref (am 0)]) := by
    intro x1 x2 x3 x4 x5 x7 t1 fi ar H locs ls hF hl hP hS
    unfold M_format_204 at hF
    refine lv_iconst (v := (1 : Int32)) hx hb dX11_format_204 (by decide) ?_
    replace hF := obnd3_of hF
    obtain ⟨r122, fi120, ar121, h119, hF⟩ := hF
    refine cM_i (As := [.int (t1), .int (1 : Int32)]) (rest := []) hx hb hml hT hown hK hE hD hA hP hS (k_fails l g am _ nf fi ar (t1) (1 : Int32) r122 fi120 ar121 h119) cw_X11_fails mw18_14 ⟨⟨rfl, rfl⟩, Nat.le_of_ble_eq_true rfl, Nat.le_of_ble_eq_true rfl⟩ rfl hl.1 rfl (Nat.le_of_ble_eq_true rfl) dX11_format_205 ⟨Nat.zero_le _, Nat.zero_le _⟩ (fun H locs hP hS => ?_)
    refine lv_if_eq (tgt := 213) hx hb dX11_format_208 (by decide) (fun hc123 => ?_) (fun hc123 => ?_)
    · replace hF := br_yes hF hc123
      refine lv_iconst (v := (0 : Int32)) hx hb dX11_format_213 (by decide) ?_
      refine lv_istore (lv' := [(8, .int (0 : Int32)), (0, .ref (am 0)), (1, .int (x1)), (2, .int (x2)), (3, .int (x3)), (4, .int (x4)), (5, .int (x5)), (7, .int (x7))]) hx hb dX11_format_214 hl (by decide) rfl (fun ls hl => ?_)
      exact L216 nf (x1) (x2) (x3) (x4) (x5) (x7) (0 : Int32) _ _ _ _ _ hF (lv_sub hl [1, 2, 3, 4, 5, 6, 7, 0] rfl) hP hS
    · replace hF := br_no hF hc123
      refine lv_iconst (v := (0 : Int32)) hx hb dX11_format_211 (by decide) ?_
      exact rM_i hx hb hr hlocks hF hP hS dX11_format_212
  have J199 : ∀ (x1 : Int32) (x2 : Int32) (x3 : Int32) (x4 : Int32) (x5 : Int32) (x7 : Int32) (fi : FI) (ar : AR) (H : Heap) (locs : List Loc) (ls : Array Slot), M_format_199 nf x1 x2 x3 x4 x5 x7 fi ar = some (r, fi', ar') → lv_has ls 11 [(0, .ref (am 0)), (1, .int x1), (2, .int x2), (3, .int x3), (4, .int x4), (5, .int x5), (7, .int x7)] → va_P (gD g) vwCl (WM g am fi ar) H → va_S (AM am s.heap.size) s.heap H locs → W p l e (headSpec (wx yX11_format cX11_format 11 (some .int)) ({ frames := 5, cells := 0, slots := 0, locals := 111 } : Room)).room s m ([.ref (am 0), .int p1, .int p2, .int p3, .int p4] : List Value).toArray below meth c H locs 0 0 (MQ below (QMi g am s.heap.size r fi' ar') ([.ref (am 0), .int p1, .int p2, .int p3, .int p4] : List Value).toArray s 0 0 (AM am s.heap.size)) (F0 m 199 ls [.ref (am 0)]) := by
    intro x1 x2 x3 x4 x5 x7 fi ar H locs ls hF hl hP hS
    unfold M_format_199 at hF
    refine lv_iconst (v := (1 : Int32)) hx hb dX11_format_199 (by decide) ?_
    refine lv_goto (tgt := 204) hx hb dX11_format_200 (by decide) ?_
    exact J204 (x1) (x2) (x3) (x4) (x5) (x7) (1 : Int32) _ _ _ _ _ hF (lv_sub hl [0, 1, 2, 3, 4, 5, 6] rfl) hP hS
  have J186 : ∀ (x1 : Int32) (x2 : Int32) (x3 : Int32) (x4 : Int32) (x5 : Int32) (x6 : Int32) (x7 : Int32) (fi : FI) (ar : AR) (H : Heap) (locs : List Loc) (ls : Array Slot), M_format_186 nf x1 x2 x3 x4 x5 x6 x7 fi ar = some (r, fi', ar') → lv_has ls 11 [(0, .ref (am 0)), (1, .int x1), (2, .int x2), (3, .int x3), (4, .int x4), (5, .int x5), (6, .int x6), (7, .int x7)] → va_P (gD g) vwCl (WM g am fi ar) H → va_S (AM am s.heap.size) s.heap H locs → W p l e (headSpec (wx yX11_format cX11_format 11 (some .int)) ({ frames := 5, cells := 0, slots := 0, locals := 111 } : Room)).room s m ([.ref (am 0), .int p1, .int p2, .int p3, .int p4] : List Value).toArray below meth c H locs 0 0 (MQ below (QMi g am s.heap.size r fi' ar') ([.ref (am 0), .int p1, .int p2, .int p3, .int p4] : List Value).toArray s 0 0 (AM am s.heap.size)) (F0 m 186 ls []) := by
    intro x1 x2 x3 x4 x5 x6 x7 fi ar H locs ls hF hl hP hS
    unfold M_format_186 at hF
    refine lv_aload_n hx hb dX11_format_186 rfl (lv_at hl 0 rfl) ?_
    refine lv_iload hx hb dX11_format_187 (lv_at hl 6 rfl) ?_
    refine lv_if_eq (tgt := 199) hx hb dX11_format_189 (by decide) (fun hc124 => ?_) (fun hc124 => ?_)
    · replace hF := br_yes hF hc124
      exact J199 (x1) (x2) (x3) (x4) (x5) (x7) _ _ _ _ _ hF (lv_sub hl [0, 1, 2, 3, 4, 5, 7] rfl) hP hS
    · replace hF := br_no hF hc124
      refine lv_iload hx hb dX11_format_192 (lv_at hl 7 rfl) ?_
      refine lv_bipush (v := (32 : Int32)) hx hb dX11_format_194 (by decide) ?_
      refine lv_icmp_le (tgt := 203) hx hb dX11_format_196 (by decide) (fun hc125 => ?_) (fun hc125 => ?_)
      · replace hF := br_yes hF hc125
        refine lv_iconst (v := (0 : Int32)) hx hb dX11_format_203 (by decide) ?_
        exact J204 (x1) (x2) (x3) (x4) (x5) (x7) (0 : Int32) _ _ _ _ _ hF (lv_sub hl [0, 1, 2, 3, 4, 5, 7] rfl) hP hS
      · replace hF := br_no hF hc125
        exact J199 (x1) (x2) (x3) (x4) (x5) (x7) _ _ _ _ _ hF (lv_sub hl [0, 1, 2, 3, 4, 5, 7] rfl) hP hS
  have L127 : ∀ kf : Nat, ∀ (x1 : Int32) (x2 : Int32) (x3 : Int32) (x4 : Int32) (x5 : Int32) (x6 : Int32) (x7 : Int32) (fi : FI) (ar : AR) (H : Heap) (locs : List Loc) (ls : Array Slot), M_format_127 nf kf x1 x2 x3 x4 x5 x6 x7 fi ar = some (r, fi', ar') → lv_has ls 11 [(0, .ref (am 0)), (1, .int x1), (2, .int x2), (3, .int x3), (4, .int x4), (5, .int x5), (6, .int x6), (7, .int x7)] → va_P (gD g) vwCl (WM g am fi ar) H → va_S (AM am s.heap.size) s.heap H locs → W p l e (headSpec (wx yX11_format cX11_format 11 (some .int)) ({ frames := 5, cells := 0, slots := 0, locals := 111 } : Room)).room s m ([.ref (am 0), .int p1, .int p2, .int p3, .int p4] : List Value).toArray below meth c H locs 0 0 (MQ below (QMi g am s.heap.size r fi' ar') ([.ref (am 0), .int p1, .int p2, .int p3, .int p4] : List Value).toArray s 0 0 (AM am s.heap.size)) (F0 m 127 ls []) := by
    intro kf
    induction kf with
    | zero => intro x1 x2 x3 x4 x5 x6 x7 fi ar H locs ls hF hl hP hS; cases (show (none : Option (Int32 × FI × AR)) = _ from hF)
    | succ kf ih127 =>
      intro x1 x2 x3 x4 x5 x6 x7 fi ar H locs ls hF hl hP hS
      obtain ⟨K127, hK127⟩ : ∃ K : Int32 → Int32 → Int32 → Int32 → Int32 → Int32 → Int32 → FI → AR → Option (Int32 × FI × AR), K = M_format_127 nf kf := ⟨_, rfl⟩
      replace hF : M_format_127b K127 nf x1 x2 x3 x4 x5 x6 x7 fi ar = some (r, fi', ar') := by rw [hK127]; exact hF
      rw [← hK127] at ih127
      clear hK127
      have J180 : ∀ (x1 : Int32) (x2 : Int32) (x3 : Int32) (x4 : Int32) (x5 : Int32) (x6 : Int32) (x7 : Int32) (fi : FI) (ar : AR) (H : Heap) (locs : List Loc) (ls : Array Slot), M_format_180 K127 nf x1 x2 x3 x4 x5 x6 x7 fi ar = some (r, fi', ar') → lv_has ls 11 [(0, .ref (am 0)), (1, .int x1), (2, .int x2), (3, .int x3), (4, .int x4), (5, .int x5), (6, .int x6), (7, .int x7)] → va_P (gD g) vwCl (WM g am fi ar) H → va_S (AM am s.heap.size) s.heap H locs → W p l e (headSpec (wx yX11_format cX11_format 11 (some .int)) ({ frames := 5, cells := 0, slots := 0, locals := 111 } : Room)).room s m ([.ref (am 0), .int p1, .int p2, .int p3, .int p4] : List Value).toArray below meth c H locs 0 0 (MQ below (QMi g am s.heap.size r fi' ar') ([.ref (am 0), .int p1, .int p2, .int p3, .int p4] : List Value).toArray s 0 0 (AM am s.heap.size)) (F0 m 180 ls []) := by
        intro x1 x2 x3 x4 x5 x6 x7 fi ar H locs ls hF hl hP hS
        unfold M_format_180 at hF
        obtain ⟨x7_126, ex7_126⟩ : ∃ y : Int32, y = (x7) + (1 : Int32) := ⟨_, rfl⟩
        replace hF := bnd_of hF ex7_126
        refine lv_iinc (v := x7_126) (lv' := [(7, .int (x7_126)), (0, .ref (am 0)), (1, .int (x1)), (2, .int (x2)), (3, .int (x3)), (4, .int (x4)), (5, .int (x5)), (6, .int (x6))]) hx hb dX11_format_180 hl (k := 7) rfl (by rw [ex7_126]; rfl) (by decide) rfl (fun ls hl => ?_)
        refine lv_goto (tgt := 127) hx hb dX11_format_183 (by decide) ?_
        exact ih127 (x1) (x2) (x3) (x4) (x5) (x6) (x7_126) _ _ _ _ _ hF (lv_sub hl [1, 2, 3, 4, 5, 6, 7, 0] rfl) hP hS
      unfold M_format_127b at hF
      refine lv_iload hx hb dX11_format_127 (lv_at hl 6 rfl) ?_
      refine lv_if_eq (tgt := 186) hx hb dX11_format_129 (by decide) (fun hc127 => ?_) (fun hc127 => ?_)
      · replace hF := br_yes hF hc127
        exact J186 (x1) (x2) (x3) (x4) (x5) (x6) (x7) _ _ _ _ _ hF (lv_sub hl [0, 1, 2, 3, 4, 5, 6, 7] rfl) hP hS
      · replace hF := br_no hF hc127
        refine lv_iload hx hb dX11_format_132 (lv_at hl 7 rfl) ?_
        refine lv_bipush (v := (33 : Int32)) hx hb dX11_format_134 (by decide) ?_
        refine lv_icmp_ge (tgt := 186) hx hb dX11_format_136 (by decide) (fun hc128 => ?_) (fun hc128 => ?_)
        · replace hF := br_yes hF hc128
          exact J186 (x1) (x2) (x3) (x4) (x5) (x6) (x7) _ _ _ _ _ hF (lv_sub hl [0, 1, 2, 3, 4, 5, 6, 7] rfl) hP hS
        · replace hF := br_no hF hc128
          refine lv_aload_n hx hb dX11_format_139 rfl (lv_at hl 0 rfl) ?_
          refine mg_0 hx hb hT hown hK hP mw6_22 dX11_format_140 ?_
          refine lv_iload_n hx hb dX11_format_143 rfl (lv_at hl 2 rfl) ?_
          refine lv_isub hx hb dX11_format_144 ?_
          refine lv_iload_n hx hb dX11_format_145 rfl (lv_at hl 3 rfl) ?_
          refine lv_iload hx hb dX11_format_146 (lv_at hl 7 rfl) ?_
          refine lv_imul hx hb dX11_format_148 ?_
          refine lv_isub hx hb dX11_format_149 ?_
          refine lv_iload_n hx hb dX11_format_150 rfl (lv_at hl 1 rfl) ?_
          replace hF := gd_of hF
          obtain ⟨hz129, hF⟩ := hF
          refine lv_idiv hx hb dX11_format_151 hz129 ?_
          refine lv_iconst (v := (4 : Int32)) hx hb dX11_format_152 (by decide) ?_
          refine lv_icmp_lt (tgt := 180) hx hb dX11_format_153 (by decide) (fun hc130 => ?_) (fun hc130 => ?_)
          · replace hF := br_yes hF hc130
            exact J180 (x1) (x2) (x3) (x4) (x5) (x6) (x7) _ _ _ _ _ hF (lv_sub hl [0, 1, 2, 3, 4, 5, 6, 7] rfl) hP hS
          · replace hF := br_no hF hc130
            refine lv_sipush (v := (128 : Int32)) hx hb dX11_format_156 (by decide) ?_
            refine lv_iload hx hb dX11_format_159 (lv_at hl 7 rfl) ?_
            refine lv_imul hx hb dX11_format_161 ?_
            refine lv_aload_n hx hb dX11_format_162 rfl (lv_at hl 0 rfl) ?_
            refine mg_0 hx hb hT hown hK hP mw6_22 dX11_format_163 ?_
            refine lv_iload_n hx hb dX11_format_166 rfl (lv_at hl 2 rfl) ?_
            refine lv_isub hx hb dX11_format_167 ?_
            refine lv_iload_n hx hb dX11_format_168 rfl (lv_at hl 3 rfl) ?_
            refine lv_iload hx hb dX11_format_169 (lv_at hl 7 rfl) ?_
            refine lv_imul hx hb dX11_format_171 ?_
            refine lv_isub hx hb dX11_format_172 ?_
            refine lv_iload_n hx hb dX11_format_173 rfl (lv_at hl 1 rfl) ?_
            replace hF := gd_of hF
            obtain ⟨hz131, hF⟩ := hF
            refine lv_idiv hx hb dX11_format_174 hz131 ?_
            refine lv_iconst (v := (2 : Int32)) hx hb dX11_format_175 (by decide) ?_
            refine lv_iadd hx hb dX11_format_176 ?_
            refine lv_icmp_ge (tgt := 186) hx hb dX11_format_177 (by decide) (fun hc132 => ?_) (fun hc132 => ?_)
            · replace hF := br_yes hF hc132
              exact J186 (x1) (x2) (x3) (x4) (x5) (x6) (x7) _ _ _ _ _ hF (lv_sub hl [0, 1, 2, 3, 4, 5, 6, 7] rfl) hP hS
            · replace hF := br_no hF hc132
              exact J180 (x1) (x2) (x3) (x4) (x5) (x6) (x7) _ _ _ _ _ hF (lv_sub hl [0, 1, 2, 3, 4, 5, 6, 7] rfl) hP hS
  have J124 : ∀ (x1 : Int32) (x2 : Int32) (x3 : Int32) (x4 : Int32) (x5 : Int32) (x6 : Int32) (fi : FI) (ar : AR) (H : Heap) (locs : List Loc) (ls : Array Slot), M_format_124 nf x1 x2 x3 x4 x5 x6 fi ar = some (r, fi', ar') → lv_has ls 11 [(0, .ref (am 0)), (1, .int x1), (2, .int x2), (3, .int x3), (4, .int x4), (5, .int x5), (6, .int x6)] → va_P (gD g) vwCl (WM g am fi ar) H → va_S (AM am s.heap.size) s.heap H locs → W p l e (headSpec (wx yX11_format cX11_format 11 (some .int)) ({ frames := 5, cells := 0, slots := 0, locals := 111 } : Room)).room s m ([.ref (am 0), .int p1, .int p2, .int p3, .int p4] : List Value).toArray below meth c H locs 0 0 (MQ below (QMi g am s.heap.size r fi' ar') ([.ref (am 0), .int p1, .int p2, .int p3, .int p4] : List Value).toArray s 0 0 (AM am s.heap.size)) (F0 m 124 ls []) := by
    intro x1 x2 x3 x4 x5 x6 fi ar H locs ls hF hl hP hS
    unfold M_format_124 at hF
    refine lv_iconst (v := (1 : Int32)) hx hb dX11_format_124 (by decide) ?_
    refine lv_istore (lv' := [(7, .int (1 : Int32)), (0, .ref (am 0)), (1, .int (x1)), (2, .int (x2)), (3, .int (x3)), (4, .int (x4)), (5, .int (x5)), (6, .int (x6))]) hx hb dX11_format_125 hl (by decide) rfl (fun ls hl => ?_)
    exact L127 nf (x1) (x2) (x3) (x4) (x5) (x6) (1 : Int32) _ _ _ _ _ hF (lv_sub hl [1, 2, 3, 4, 5, 6, 7, 0] rfl) hP hS
  have L71 : ∀ kf : Nat, ∀ (x1 : Int32) (x2 : Int32) (x3 : Int32) (x4 : Int32) (x5 : Int32) (x6 : Int32) (x7 : Int32) (fi : FI) (ar : AR) (H : Heap) (locs : List Loc) (ls : Array Slot), M_format_71 nf kf x1 x2 x3 x4 x5 x6 x7 fi ar = some (r, fi', ar') → lv_has ls 11 [(0, .ref (am 0)), (1, .int x1), (2, .int x2), (3, .int x3), (4, .int x4), (5, .int x5), (6, .int x6), (7, .int x7)] → va_P (gD g) vwCl (WM g am fi ar) H → va_S (AM am s.heap.size) s.heap H locs → W p l e (headSpec (wx yX11_format cX11_format 11 (some .int)) ({ frames := 5, cells := 0, slots := 0, locals := 111 } : Room)).room s m ([.ref (am 0), .int p1, .int p2, .int p3, .int p4] : List Value).toArray below meth c H locs 0 0 (MQ below (QMi g am s.heap.size r fi' ar') ([.ref (am 0), .int p1, .int p2, .int p3, .int p4] : List Value).toArray s 0 0 (AM am s.heap.size)) (F0 m 71 ls []) := by
    intro kf
    induction kf with
    | zero => intro x1 x2 x3 x4 x5 x6 x7 fi ar H locs ls hF hl hP hS; cases (show (none : Option (Int32 × FI × AR)) = _ from hF)
    | succ kf ih71 =>
      intro x1 x2 x3 x4 x5 x6 x7 fi ar H locs ls hF hl hP hS
      obtain ⟨K71, hK71⟩ : ∃ K : Int32 → Int32 → Int32 → Int32 → Int32 → Int32 → Int32 → FI → AR → Option (Int32 × FI × AR), K = M_format_71 nf kf := ⟨_, rfl⟩
      replace hF : M_format_71b K71 nf x1 x2 x3 x4 x5 x6 x7 fi ar = some (r, fi', ar') := by rw [hK71]; exact hF
      rw [← hK71] at ih71
      clear hK71
      have J116 : ∀ (x1 : Int32) (x2 : Int32) (x3 : Int32) (x4 : Int32) (x5 : Int32) (x7 : Int32) (t0 : Int32) (fi : FI) (ar : AR) (H : Heap) (locs : List Loc) (ls : Array Slot), M_format_116 K71 nf x1 x2 x3 x4 x5 x7 t0 fi ar = some (r, fi', ar') → lv_has ls 11 [(0, .ref (am 0)), (1, .int x1), (2, .int x2), (3, .int x3), (4, .int x4), (5, .int x5), (7, .int x7)] → va_P (gD g) vwCl (WM g am fi ar) H → va_S (AM am s.heap.size) s.heap H locs → W p l e (headSpec (wx yX11_format cX11_format 11 (some .int)) ({ frames := 5, cells := 0, slots := 0, locals := 111 } : Room)).room s m ([.ref (am 0), .int p1, .int p2, .int p3, .int p4] : List Value).toArray below meth c H locs 0 0 (MQ below (QMi g am s.heap.size r fi' ar') ([.ref (am 0), .int p1, .int p2, .int p3, .int p4] : List Value).toArray s 0 0 (AM am s.heap.size)) (F0 m 116 ls [.int t0]) := by
        intro x1 x2 x3 x4 x5 x7 t0 fi ar H locs ls hF hl hP hS
        unfold M_format_116 at hF
        refine lv_istore (lv' := [(6, .int (t0)), (0, .ref (am 0)), (1, .int (x1)), (2, .int (x2)), (3, .int (x3)), (4, .int (x4)), (5, .int (x5)), (7, .int (x7))]) hx hb dX11_format_116 hl (by decide) rfl (fun ls hl => ?_)
        obtain ⟨x7_133, ex7_133⟩ : ∃ y : Int32, y = (x7) + (1 : Int32) := ⟨_, rfl⟩
        replace hF := bnd_of hF ex7_133
        refine lv_iinc (v := x7_133) (lv' := [(7, .int (x7_133)), (6, .int (t0)), (0, .ref (am 0)), (1, .int (x1)), (2, .int (x2)), (3, .int (x3)), (4, .int (x4)), (5, .int (x5))]) hx hb dX11_format_118 hl (k := 7) rfl (by rw [ex7_133]; rfl) (by decide) rfl (fun ls hl => ?_)
        refine lv_goto (tgt := 71) hx hb dX11_format_121 (by decide) ?_
        exact ih71 (x1) (x2) (x3) (x4) (x5) (t0) (x7_133) _ _ _ _ _ hF (lv_sub hl [2, 3, 4, 5, 6, 7, 1, 0] rfl) hP hS
      unfold M_format_71b at hF
      refine lv_iload hx hb dX11_format_71 (lv_at hl 7 rfl) ?_
      refine lv_iload hx hb dX11_format_73 (lv_at hl 5 rfl) ?_
      refine lv_icmp_ge (tgt := 124) hx hb dX11_format_75 (by decide) (fun hc134 => ?_) (fun hc134 => ?_)
      · replace hF := br_yes hF hc134
        exact J124 (x1) (x2) (x3) (x4) (x5) (x6) _ _ _ _ _ hF (lv_sub hl [0, 1, 2, 3, 4, 5, 6] rfl) hP hS
      · replace hF := br_no hF hc134
        refine lv_iload hx hb dX11_format_78 (lv_at hl 6 rfl) ?_
        refine lv_if_eq (tgt := 124) hx hb dX11_format_80 (by decide) (fun hc135 => ?_) (fun hc135 => ?_)
        · replace hF := br_yes hF hc135
          exact J124 (x1) (x2) (x3) (x4) (x5) (x6) _ _ _ _ _ hF (lv_sub hl [0, 1, 2, 3, 4, 5, 6] rfl) hP hS
        · replace hF := br_no hF hc135
          refine lv_aload_n hx hb dX11_format_83 rfl (lv_at hl 0 rfl) ?_
          refine lv_iload hx hb dX11_format_84 (lv_at hl 7 rfl) ?_
          replace hF := obnd3_of hF
          obtain ⟨r139, fi137, ar138, h136, hF⟩ := hF
          refine cM_i (As := [.int (x7)]) (rest := []) hx hb hml hT hown hK hE hD hA hP hS (k_taken l g am _ nf fi ar (x7) r139 fi137 ar138 h136) cw_X11_taken mw18_6 ⟨⟨rfl, rfl⟩, Nat.le_of_ble_eq_true rfl, Nat.le_of_ble_eq_true rfl⟩ rfl hl.1 rfl (Nat.le_of_ble_eq_true rfl) dX11_format_86 ⟨Nat.zero_le _, Nat.zero_le _⟩ (fun H locs hP hS => ?_)
          refine lv_bipush (v := (32 : Int32)) hx hb dX11_format_89 (by decide) ?_
          refine lv_icmp_ne (tgt := 107) hx hb dX11_format_91 (by decide) (fun hc140 => ?_) (fun hc140 => ?_)
          · replace hF := br_no hF hc140
            refine lv_aload_n hx hb dX11_format_107 rfl (lv_at hl 0 rfl) ?_
            refine lv_iload hx hb dX11_format_108 (lv_at hl 7 rfl) ?_
            replace hF := obnd3_of hF
            obtain ⟨r144, fi142, ar143, h141, hF⟩ := hF
            refine cM_i (As := [.int (x7)]) (rest := []) hx hb hml hT hown hK hE hD hA hP hS (k_taken l g am _ nf fi137 ar138 (x7) r144 fi142 ar143 h141) cw_X11_taken mw18_6 ⟨⟨rfl, rfl⟩, Nat.le_of_ble_eq_true rfl, Nat.le_of_ble_eq_true rfl⟩ rfl hl.1 rfl (Nat.le_of_ble_eq_true rfl) dX11_format_110 ⟨Nat.zero_le _, Nat.zero_le _⟩ (fun H locs hP hS => ?_)
            replace hF := obnd_of hF
            obtain ⟨r146, h145, hF⟩ := hF
            refine cS_i (As := [.int (r144)]) (rest := []) hx hb hml hT hown hE hP hS (k_isShortSign l g nf (r144) r146 h145) cw_X11_isShortSign mw18_10 ⟨⟨rfl, rfl⟩, Nat.le_of_ble_eq_true rfl, Nat.le_of_ble_eq_true rfl⟩ rfl hl.1 rfl (Nat.le_of_ble_eq_true rfl) dX11_format_113 ⟨Nat.zero_le _, Nat.zero_le _⟩ (fun H locs hP hS => ?_)
            exact J116 (x1) (x2) (x3) (x4) (x5) (x7) (r146) _ _ _ _ _ hF (lv_sub hl [0, 1, 2, 3, 4, 5, 7] rfl) hP hS
          · replace hF := br_yes hF hc140
            refine lv_iload hx hb dX11_format_94 (lv_at hl 7 rfl) ?_
            refine lv_if_le (tgt := 103) hx hb dX11_format_96 (by decide) (fun hc147 => ?_) (fun hc147 => ?_)
            · replace hF := br_yes hF hc147
              refine lv_iconst (v := (0 : Int32)) hx hb dX11_format_103 (by decide) ?_
              refine lv_goto (tgt := 116) hx hb dX11_format_104 (by decide) ?_
              exact J116 (x1) (x2) (x3) (x4) (x5) (x7) (0 : Int32) _ _ _ _ _ hF (lv_sub hl [0, 1, 2, 3, 4, 5, 7] rfl) hP hS
            · replace hF := br_no hF hc147
              refine lv_iconst (v := (1 : Int32)) hx hb dX11_format_99 (by decide) ?_
              refine lv_goto (tgt := 116) hx hb dX11_format_100 (by decide) ?_
              exact J116 (x1) (x2) (x3) (x4) (x5) (x7) (1 : Int32) _ _ _ _ _ hF (lv_sub hl [0, 1, 2, 3, 4, 5, 7] rfl) hP hS
  have J66 : ∀ (x1 : Int32) (x2 : Int32) (x3 : Int32) (x4 : Int32) (x5 : Int32) (t0 : Int32) (fi : FI) (ar : AR) (H : Heap) (locs : List Loc) (ls : Array Slot), M_format_66 nf x1 x2 x3 x4 x5 t0 fi ar = some (r, fi', ar') → lv_has ls 11 [(0, .ref (am 0)), (1, .int x1), (2, .int x2), (3, .int x3), (4, .int x4), (5, .int x5)] → va_P (gD g) vwCl (WM g am fi ar) H → va_S (AM am s.heap.size) s.heap H locs → W p l e (headSpec (wx yX11_format cX11_format 11 (some .int)) ({ frames := 5, cells := 0, slots := 0, locals := 111 } : Room)).room s m ([.ref (am 0), .int p1, .int p2, .int p3, .int p4] : List Value).toArray below meth c H locs 0 0 (MQ below (QMi g am s.heap.size r fi' ar') ([.ref (am 0), .int p1, .int p2, .int p3, .int p4] : List Value).toArray s 0 0 (AM am s.heap.size)) (F0 m 66 ls [.int t0]) := by
    intro x1 x2 x3 x4 x5 t0 fi ar H locs ls hF hl hP hS
    unfold M_format_66 at hF
    refine lv_istore (lv' := [(6, .int (t0)), (0, .ref (am 0)), (1, .int (x1)), (2, .int (x2)), (3, .int (x3)), (4, .int (x4)), (5, .int (x5))]) hx hb dX11_format_66 hl (by decide) rfl (fun ls hl => ?_)
    refine lv_iconst (v := (0 : Int32)) hx hb dX11_format_68 (by decide) ?_
    refine lv_istore (lv' := [(7, .int (0 : Int32)), (6, .int (t0)), (0, .ref (am 0)), (1, .int (x1)), (2, .int (x2)), (3, .int (x3)), (4, .int (x4)), (5, .int (x5))]) hx hb dX11_format_69 hl (by decide) rfl (fun ls hl => ?_)
    exact L71 nf (x1) (x2) (x3) (x4) (x5) (t0) (0 : Int32) _ _ _ _ _ hF (lv_sub hl [2, 3, 4, 5, 6, 7, 1, 0] rfl) hP hS
  have J65 : ∀ (x1 : Int32) (x2 : Int32) (x3 : Int32) (x4 : Int32) (x5 : Int32) (fi : FI) (ar : AR) (H : Heap) (locs : List Loc) (ls : Array Slot), M_format_65 nf x1 x2 x3 x4 x5 fi ar = some (r, fi', ar') → lv_has ls 11 [(0, .ref (am 0)), (1, .int x1), (2, .int x2), (3, .int x3), (4, .int x4), (5, .int x5)] → va_P (gD g) vwCl (WM g am fi ar) H → va_S (AM am s.heap.size) s.heap H locs → W p l e (headSpec (wx yX11_format cX11_format 11 (some .int)) ({ frames := 5, cells := 0, slots := 0, locals := 111 } : Room)).room s m ([.ref (am 0), .int p1, .int p2, .int p3, .int p4] : List Value).toArray below meth c H locs 0 0 (MQ below (QMi g am s.heap.size r fi' ar') ([.ref (am 0), .int p1, .int p2, .int p3, .int p4] : List Value).toArray s 0 0 (AM am s.heap.size)) (F0 m 65 ls []) := by
    intro x1 x2 x3 x4 x5 fi ar H locs ls hF hl hP hS
    unfold M_format_65 at hF
    refine lv_iconst (v := (0 : Int32)) hx hb dX11_format_65 (by decide) ?_
    exact J66 (x1) (x2) (x3) (x4) (x5) (0 : Int32) _ _ _ _ _ hF (lv_sub hl [0, 1, 2, 3, 4, 5] rfl) hP hS
  have J54 : ∀ (x1 : Int32) (x2 : Int32) (x3 : Int32) (x4 : Int32) (x5 : Int32) (fi : FI) (ar : AR) (H : Heap) (locs : List Loc) (ls : Array Slot), M_format_54 nf x1 x2 x3 x4 x5 fi ar = some (r, fi', ar') → lv_has ls 11 [(0, .ref (am 0)), (1, .int x1), (2, .int x2), (3, .int x3), (4, .int x4), (5, .int x5)] → va_P (gD g) vwCl (WM g am fi ar) H → va_S (AM am s.heap.size) s.heap H locs → W p l e (headSpec (wx yX11_format cX11_format 11 (some .int)) ({ frames := 5, cells := 0, slots := 0, locals := 111 } : Room)).room s m ([.ref (am 0), .int p1, .int p2, .int p3, .int p4] : List Value).toArray below meth c H locs 0 0 (MQ below (QMi g am s.heap.size r fi' ar') ([.ref (am 0), .int p1, .int p2, .int p3, .int p4] : List Value).toArray s 0 0 (AM am s.heap.size)) (F0 m 54 ls []) := by
    intro x1 x2 x3 x4 x5 fi ar H locs ls hF hl hP hS
    unfold M_format_54 at hF
    refine lv_iload hx hb dX11_format_54 (lv_at hl 5 rfl) ?_
    refine lv_bipush (v := (11 : Int32)) hx hb dX11_format_56 (by decide) ?_
    refine lv_icmp_gt (tgt := 65) hx hb dX11_format_58 (by decide) (fun hc148 => ?_) (fun hc148 => ?_)
    · replace hF := br_yes hF hc148
      exact J65 (x1) (x2) (x3) (x4) (x5) _ _ _ _ _ hF (lv_sub hl [0, 1, 2, 3, 4, 5] rfl) hP hS
    · replace hF := br_no hF hc148
      refine lv_iconst (v := (1 : Int32)) hx hb dX11_format_61 (by decide) ?_
      refine lv_goto (tgt := 66) hx hb dX11_format_62 (by decide) ?_
      exact J66 (x1) (x2) (x3) (x4) (x5) (1 : Int32) _ _ _ _ _ hF (lv_sub hl [0, 1, 2, 3, 4, 5] rfl) hP hS
  have J32 : ∀ (x1 : Int32) (x2 : Int32) (x3 : Int32) (x4 : Int32) (x5 : Int32) (fi : FI) (ar : AR) (H : Heap) (locs : List Loc) (ls : Array Slot), M_format_32 nf x1 x2 x3 x4 x5 fi ar = some (r, fi', ar') → lv_has ls 11 [(0, .ref (am 0)), (1, .int x1), (2, .int x2), (3, .int x3), (4, .int x4), (5, .int x5)] → va_P (gD g) vwCl (WM g am fi ar) H → va_S (AM am s.heap.size) s.heap H locs → W p l e (headSpec (wx yX11_format cX11_format 11 (some .int)) ({ frames := 5, cells := 0, slots := 0, locals := 111 } : Room)).room s m ([.ref (am 0), .int p1, .int p2, .int p3, .int p4] : List Value).toArray below meth c H locs 0 0 (MQ below (QMi g am s.heap.size r fi' ar') ([.ref (am 0), .int p1, .int p2, .int p3, .int p4] : List Value).toArray s 0 0 (AM am s.heap.size)) (F0 m 32 ls []) := by
    intro x1 x2 x3 x4 x5 fi ar H locs ls hF hl hP hS
    unfold M_format_32 at hF
    refine lv_iload_n hx hb dX11_format_32 rfl (lv_at hl 2 rfl) ?_
    refine lv_bipush (v := (8 : Int32)) hx hb dX11_format_33 (by decide) ?_
    refine lv_icmp_lt (tgt := 65) hx hb dX11_format_35 (by decide) (fun hc149 => ?_) (fun hc149 => ?_)
    · replace hF := br_yes hF hc149
      exact J65 (x1) (x2) (x3) (x4) (x5) _ _ _ _ _ hF (lv_sub hl [0, 1, 2, 3, 4, 5] rfl) hP hS
    · replace hF := br_no hF hc149
      refine lv_iload_n hx hb dX11_format_38 rfl (lv_at hl 2 rfl) ?_
      refine lv_bipush (v := (64 : Int32)) hx hb dX11_format_39 (by decide) ?_
      refine lv_icmp_gt (tgt := 65) hx hb dX11_format_41 (by decide) (fun hc150 => ?_) (fun hc150 => ?_)
      · replace hF := br_yes hF hc150
        exact J65 (x1) (x2) (x3) (x4) (x5) _ _ _ _ _ hF (lv_sub hl [0, 1, 2, 3, 4, 5] rfl) hP hS
      · replace hF := br_no hF hc150
        refine lv_iload_n hx hb dX11_format_44 rfl (lv_at hl 3 rfl) ?_
        refine lv_iconst (v := (1 : Int32)) hx hb dX11_format_45 (by decide) ?_
        refine lv_icmp_eq (tgt := 54) hx hb dX11_format_46 (by decide) (fun hc151 => ?_) (fun hc151 => ?_)
        · replace hF := br_yes hF hc151
          exact J54 (x1) (x2) (x3) (x4) (x5) _ _ _ _ _ hF (lv_sub hl [0, 1, 2, 3, 4, 5] rfl) hP hS
        · replace hF := br_no hF hc151
          refine lv_iload_n hx hb dX11_format_49 rfl (lv_at hl 3 rfl) ?_
          refine lv_iconst (v := (2 : Int32)) hx hb dX11_format_50 (by decide) ?_
          refine lv_icmp_ne (tgt := 65) hx hb dX11_format_51 (by decide) (fun hc152 => ?_) (fun hc152 => ?_)
          · replace hF := br_no hF hc152
            exact J65 (x1) (x2) (x3) (x4) (x5) _ _ _ _ _ hF (lv_sub hl [0, 1, 2, 3, 4, 5] rfl) hP hS
          · replace hF := br_yes hF hc152
            exact J54 (x1) (x2) (x3) (x4) (x5) _ _ _ _ _ hF (lv_sub hl [0, 1, 2, 3, 4, 5] rfl) hP hS
  replace hl := lv_sub hl [0, 1, 2, 3, 4] rfl
  refine lv_aload_n hx hb dX11_format_0 rfl (lv_at hl 0 rfl) ?_
  refine lv_iconst (v := (0 : Int32)) hx hb dX11_format_1 (by decide) ?_
  obtain ⟨fi153, efi153⟩ : ∃ y : FI, y = va_up fi 5 (0 : Int32) := ⟨_, rfl⟩
  replace hF := bnd_of hF efi153
  refine mp_5 hx hb hT hown hK hP hD hS mw7_11 dX11_format_2 (fun H locs hP hS => ?_)
  rw [← efi153] at hP
  refine lv_aload_n hx hb dX11_format_5 rfl (lv_at hl 0 rfl) ?_
  refine mg_4 hx hb hT hown hK hP mw8_6 dX11_format_6 ?_
  obtain ⟨x5_154, ex5_154⟩ : ∃ y : Int32, y = (fi153 4) := ⟨_, rfl⟩
  rw [← ex5_154]
  replace hF := bnd_of hF ex5_154
  refine lv_istore (lv' := [(5, .int (x5_154)), (0, .ref (am 0)), (1, .int (p1)), (2, .int (p2)), (3, .int (p3)), (4, .int (p4))]) hx hb dX11_format_9 hl (by decide) rfl (fun ls hl => ?_)
  refine lv_aload_n hx hb dX11_format_11 rfl (lv_at hl 1 rfl) ?_
  refine lv_iconst (v := (0 : Int32)) hx hb dX11_format_12 (by decide) ?_
  obtain ⟨fi155, efi155⟩ : ∃ y : FI, y = va_up fi153 4 (0 : Int32) := ⟨_, rfl⟩
  replace hF := bnd_of hF efi155
  refine mp_4 hx hb hT hown hK hP hD hS mw8_6 dX11_format_13 (fun H locs hP hS => ?_)
  rw [← efi155] at hP
  refine lv_iload_n hx hb dX11_format_16 rfl (lv_at hl 2 rfl) ?_
  refine lv_iconst (v := (2 : Int32)) hx hb dX11_format_17 (by decide) ?_
  refine lv_icmp_eq (tgt := 32) hx hb dX11_format_18 (by decide) (fun hc156 => ?_) (fun hc156 => ?_)
  · replace hF := br_yes hF hc156
    exact J32 (p1) (p2) (p3) (p4) (x5_154) _ _ _ _ _ hF (lv_sub hl [1, 2, 3, 4, 5, 0] rfl) hP hS
  · replace hF := br_no hF hc156
    refine lv_iload_n hx hb dX11_format_21 rfl (lv_at hl 2 rfl) ?_
    refine lv_iconst (v := (4 : Int32)) hx hb dX11_format_22 (by decide) ?_
    refine lv_icmp_eq (tgt := 32) hx hb dX11_format_23 (by decide) (fun hc157 => ?_) (fun hc157 => ?_)
    · replace hF := br_yes hF hc157
      exact J32 (p1) (p2) (p3) (p4) (x5_154) _ _ _ _ _ hF (lv_sub hl [1, 2, 3, 4, 5, 0] rfl) hP hS
    · replace hF := br_no hF hc157
      refine lv_iload_n hx hb dX11_format_26 rfl (lv_at hl 2 rfl) ?_
      refine lv_bipush (v := (8 : Int32)) hx hb dX11_format_27 (by decide) ?_
      refine lv_icmp_ne (tgt := 65) hx hb dX11_format_29 (by decide) (fun hc158 => ?_) (fun hc158 => ?_)
      · replace hF := br_no hF hc158
        exact J65 (p1) (p2) (p3) (p4) (x5_154) _ _ _ _ _ hF (lv_sub hl [1, 2, 3, 4, 5, 0] rfl) hP hS
      · replace hF := br_yes hF hc158
        exact J32 (p1) (p2) (p3) (p4) (x5_154) _ _ _ _ _ hF (lv_sub hl [1, 2, 3, 4, 5, 0] rfl) hP hS
theorem cw_X11_format : (Cond.instanceMethod yX11_format ∈ TB ∧ Cond.selects RX11 yX11_format yX11_format ∈ TB ∧ Cond.code yX11_format cX11_format 11 (some .int) ∈ TB) ∧ (yX11_format.cls = RX11 ∧ yX11_format.cls ≠ "java/lang/invoke/MethodHandle" ∧ yX11_format.cls ≠ "java/lang/invoke/VarHandle" ∧ (parseMethodDescriptor yX11_format.desc).map (fun d => d.parameters.length) = some 4) := ⟨⟨mw17_13, mw17_14, mw17_15⟩, by decide +kernel⟩
