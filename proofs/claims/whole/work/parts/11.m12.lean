/-! X11_append -/
noncomputable def M_append_261 (K195 : Int32 → Int32 → Int32 → Int32 → Int32 → Int32 → Int32 → FI → AR → Option (Int32 × FI × AR)) (nf : Nat) (x2 : Int32) (x3 : Int32) (x4 : Int32) (x5 : Int32) (x6 : Int32) (x7 : Int32) (x9 : Int32) (t1 : Int32) (t2 : Int32) (fi : FI) (ar : AR) : Option (Int32 × FI × AR) :=
  gd (¬ ((t1) < 0 ∨ 524288 ≤ (t1).toNatClampNeg)) (bnd (va_up ar 1 (upd (ar 1) (t1).toNatClampNeg (vp_nar .byte (t2)))) fun ar2 => bnd ((x9) + (1 : Int32)) fun x9_3 => K195 (x2) (x3) (x4) (x5) (x6) (x7) (x9_3) fi ar2)
noncomputable def M_append_195b (K195 : Int32 → Int32 → Int32 → Int32 → Int32 → Int32 → Int32 → FI → AR → Option (Int32 × FI × AR)) (nf : Nat) (x2 : Int32) (x3 : Int32) (x4 : Int32) (x5 : Int32) (x6 : Int32) (x7 : Int32) (x9 : Int32) (fi : FI) (ar : AR) : Option (Int32 × FI × AR) :=
  br ((x2) ≤ (x9)) (obnd3 (M_set nf fi ar ((x5) + (28 : Int32)) (4 : Int32) (((x6) + (x2)).toInt64)) fun r8 fi6 ar7 => obnd3 (M_changed nf fi6 ar7) fun r12 fi10 ar11 => some (((x6) + (x2)), fi10, ar11)) (bnd ((x6) + (x9)) fun x10_13 => gd (¬ (x7) = 0) (gd (¬ (((x10_13) / (x7)) < 0 ∨ 560 ≤ ((x10_13) / (x7)).toNatClampNeg)) (obnd3 (M_place nf fi ar (ar 29 ((x10_13) / (x7)).toNatClampNeg)) fun r19 fi17 ar18 => gd (¬ (x7) = 0) (br ((x3) = 0) (M_append_261 K195 nf  (x2) (x3) (x4) (x5) (x6) (x7) (x9) ((r19) + ((x10_13) - (x10_13) / (x7) * (x7))) ((((x4) + ((x9) * (x9))) + ((x9) >>> ((8 : Int32) &&& 31))).toInt8.toInt32) fi17 ar18) (gd (¬ ((x9) < 0 ∨ 4096 ≤ (x9).toNatClampNeg)) (M_append_261 K195 nf  (x2) (x3) (x4) (x5) (x6) (x7) (x9) ((r19) + ((x10_13) - (x10_13) / (x7) * (x7))) (ar18 2 (x9).toNatClampNeg) fi17 ar18))))))
noncomputable def M_append_195 (nf : Nat) (kf : Nat) : Int32 → Int32 → Int32 → Int32 → Int32 → Int32 → Int32 → FI → AR → Option (Int32 × FI × AR) := Nat.rec (fun _ _ _ _ _ _ _ _ _ => none) (fun _ K195 => M_append_195b K195 nf) kf
noncomputable def M_append_176 (K85 : Int32 → Int32 → Int32 → Int32 → Int32 → Int32 → Int32 → Int32 → FI → AR → Option (Int32 × FI × AR)) (nf : Nat) (x2 : Int32) (x3 : Int32) (x4 : Int32) (x5 : Int32) (x6 : Int32) (x7 : Int32) (x8 : Int32) (x9 : Int32) (fi : FI) (ar : AR) : Option (Int32 × FI × AR) :=
  bnd (va_up fi 31 ((fi 31) + (1 : Int32))) fun fi23 => bnd ((x9) + (1 : Int32)) fun x9_24 => K85 (x2) (x3) (x4) (x5) (x6) (x7) (x8) (x9_24) fi23 ar
noncomputable def M_append_85b (K85 : Int32 → Int32 → Int32 → Int32 → Int32 → Int32 → Int32 → Int32 → FI → AR → Option (Int32 × FI × AR)) (nf : Nat) (x2 : Int32) (x3 : Int32) (x4 : Int32) (x5 : Int32) (x6 : Int32) (x7 : Int32) (x8 : Int32) (x9 : Int32) (fi : FI) (ar : AR) : Option (Int32 × FI × AR) :=
  br ((x8) ≤ (x9)) (M_append_195 nf nf (x2) (x3) (x4) (x5) (x6) (x7) (0 : Int32) fi ar) (obnd3 (M_take nf fi ar) fun r29 fi27 ar28 => gd (¬ ((fi 31) < 0 ∨ 560 ≤ (fi 31).toNatClampNeg)) (bnd (va_up ar28 29 (upd (ar28 29) (fi 31).toNatClampNeg (r29))) fun ar31 => br ((fi27 31) ≤ 0) (gd (¬ ((0 : Int32) < 0 ∨ 560 ≤ (0 : Int32).toNatClampNeg)) (obnd3 (M_set nf fi27 ar31 ((x5) + (20 : Int32)) (2 : Int32) (((ar31 29 (0 : Int32).toNatClampNeg) >>> ((16 : Int32) &&& 31)).toInt64)) fun r37 fi35 ar36 => gd (¬ ((0 : Int32) < 0 ∨ 560 ≤ (0 : Int32).toNatClampNeg)) (obnd3 (M_set nf fi35 ar36 ((x5) + (26 : Int32)) (2 : Int32) ((ar36 29 (0 : Int32).toNatClampNeg).toInt64)) fun r42 fi40 ar41 => M_append_176 K85 nf  (x2) (x3) (x4) (x5) (x6) (x7) (x8) (x9) fi40 ar41))) (gd (¬ (((fi27 31) - (1 : Int32)) < 0 ∨ 560 ≤ ((fi27 31) - (1 : Int32)).toNatClampNeg)) (gd (¬ ((fi27 31) < 0 ∨ 560 ≤ (fi27 31).toNatClampNeg)) (obnd3 (M_setEntry nf fi27 ar31 (ar31 29 ((fi27 31) - (1 : Int32)).toNatClampNeg) (ar31 29 (fi27 31).toNatClampNeg)) fun r48 fi46 ar47 => M_append_176 K85 nf  (x2) (x3) (x4) (x5) (x6) (x7) (x8) (x9) fi46 ar47)))))
noncomputable def M_append_85 (nf : Nat) (kf : Nat) : Int32 → Int32 → Int32 → Int32 → Int32 → Int32 → Int32 → Int32 → FI → AR → Option (Int32 × FI × AR) := Nat.rec (fun _ _ _ _ _ _ _ _ _ _ => none) (fun _ K85 => M_append_85b K85 nf) kf
noncomputable def M_append_63 (nf : Nat) (x2 : Int32) (x3 : Int32) (x4 : Int32) (x5 : Int32) (x6 : Int32) (x7 : Int32) (x8 : Int32) (t1 : Int32) (fi : FI) (ar : AR) : Option (Int32 × FI × AR) :=
  obnd3 (M_fails nf fi ar (t1) (4 : Int32)) fun r52 fi50 ar51 => br ((r52) = 0) (obnd3 (M_firstOf nf fi50 ar51 (x5)) fun r57 fi55 ar56 => obnd3 (M_walk nf fi55 ar56 (r57)) fun r61 fi59 ar60 => M_append_85 nf nf (x2) (x3) (x4) (x5) (x6) (x7) (x8) (0 : Int32) fi59 ar60) (some ((0 : Int32), fi50, ar51))
noncomputable def M_append (nf : Nat) (fi : FI) (ar : AR) (x1 : Int32) (x2 : Int32) (x3 : Int32) (x4 : Int32) : Option (Int32 × FI × AR) :=
  gd (¬ ((x1) < 0 ∨ 16400 ≤ (x1).toNatClampNeg)) (bnd (ar 20 (x1).toNatClampNeg) fun x5_63 => obnd3 (M_four nf fi ar ((x5_63) + (28 : Int32))) fun r67 fi65 ar66 => bnd ((512 : Int32) * (fi65 7)) fun x7_68 => obnd (M_whole nf ((r67) + (x2)) (x7_68)) fun r70 => obnd (M_whole nf (r67) (x7_68)) fun r72 => bnd ((r70) - (r72)) fun x8_73 => obnd3 (M_freeOnes nf fi65 ar66) fun r77 fi75 ar76 => br ((x8_73) ≤ (r77)) (M_append_63 nf  (x2) (x3) (x4) (x5_63) (r67) (x7_68) (x8_73) (0 : Int32) fi75 ar76) (M_append_63 nf  (x2) (x3) (x4) (x5_63) (r67) (x7_68) (x8_73) (1 : Int32) fi75 ar76))
set_option maxHeartbeats 4000000 in
set_option maxRecDepth 100000 in
theorem k_append (l : Launch) (g : GT) (am : Nat → Nat) (sz : Nat) (nf : Nat) (fi : FI) (ar : AR) (p1 : Int32) (p2 : Int32) (p3 : Int32) (p4 : Int32) (r : Int32) (fi' : FI) (ar' : AR) (hF : M_append nf fi ar p1 p2 p3 p4 = some (r, fi', ar')) : Met l yX11_append (wx yX11_append cX11_append 11 (some .int)) ({ frames := 5, cells := 0, slots := 0, locals := 109 } : Room) (va_Pc [.ref (am 0), .int p1, .int p2, .int p3, .int p4] (PM g am sz fi ar)) (QMi g am sz r fi' ar') 0 0 (AM am sz) := by
  refine Met.ofW (cc := cX11_append) (maxL := 11) (ret := (some .int)) (by decide) rfl ?_
  intro p e s m args below meth c s₁ B hml hv
  obtain ⟨rfl, hsz, hP, hK, hD0, hE⟩ := hv
  have hx := B.exec
  have hb := B.bytes
  have hr := B.returns
  have hts := atoms_spec (ws := (wx yX11_append cX11_append 11 (some .int))) B.pre
  have hT : ∀ w ∈ TB, w.before _ s = true := fun w h => hts w (List.mem_cons_of_mem _ h)
  have hown : s.vm.findClass RX11 = some m.cls := findClass_of_methodNamed B.named
  have hlocks := B.notSynchronized
  subst hsz
  have hD := dM hD0 s.heap.size
  have hA : ∀ q : Nat, s.heap.size ≤ q → AM am s.heap.size q := fun q h => Or.inr h
  have hS : va_S (AM am s.heap.size) s.heap s.heap [] := va_S.rf
  have hl := lv_entry ([.ref (am 0), .int p1, .int p2, .int p3, .int p4]) (n := 11) (Nat.le_of_ble_eq_true rfl)
  rw [lg_entry_eq]
  generalize (lg_sl ([.ref (am 0), .int p1, .int p2, .int p3, .int p4]) ++ List.replicate (11 - (lg_sl ([.ref (am 0), .int p1, .int p2, .int p3, .int p4])).length) Slot.unset).toArray = ls at hl ⊢
  have hl : lv_has ls 11 [(0, .ref (am 0)), (1, .int p1), (2, .int p2), (3, .int p3), (4, .int p4)] := hl
  unfold M_append at hF
  have L195 : ∀ kf : Nat, ∀ (x2 : Int32) (x3 : Int32) (x4 : Int32) (x5 : Int32) (x6 : Int32) (x7 : Int32) (x9 : Int32) (fi : FI) (ar : AR) (H : Heap) (locs : List Loc) (ls : Array Slot), M_append_195 nf kf x2 x3 x4 x5 x6 x7 x9 fi ar = some (r, fi', ar') → lv_has ls 11 [(0, .ref (am 0)), (2, .int x2), (3, .int x3), (4, .int x4), (5, .int x5), (6, .int x6), (7, .int x7), (9, .int x9)] → va_P (gD g) vwCl (WM g am fi ar) H → va_S (AM am s.heap.size) s.heap H locs → W p l e (headSpec (wx yX11_append cX11_append 11 (some .int)) ({ frames := 5, cells := 0, slots := 0, locals := 109 } : Room)).room s m ([.ref (am 0), .int p1, .int p2, .int p3, .int p4] : List Value).toArray below meth c H locs 0 0 (MQ below (QMi g am s.heap.size r fi' ar') ([.ref (am 0), .int p1, .int p2, .int p3, .int p4] : List Value).toArray s 0 0 (AM am s.heap.size)) (F0 m 195 ls []) := by
    intro kf
    induction kf with
    | zero => intro x2 x3 x4 x5 x6 x7 x9 fi ar H locs ls hF hl hP hS; cases (show (none : Option (Int32 × FI × AR)) = _ from hF)
    | succ kf ih195 =>
      intro x2 x3 x4 x5 x6 x7 x9 fi ar H locs ls hF hl hP hS
      obtain ⟨K195, hK195⟩ : ∃ K : Int32 → Int32 → Int32 → Int32 → Int32 → Int32 → Int32 → FI → AR → Option (Int32 × FI × AR), K = M_append_195 nf kf := ⟨_, rfl⟩
      replace hF : M_append_195b K195 nf x2 x3 x4 x5 x6 x7 x9 fi ar = some (r, fi', ar') := by rw [hK195]; exact hF
      rw [← hK195] at ih195
      clear hK195
      have J261 : ∀ (x2 : Int32) (x3 : Int32) (x4 : Int32) (x5 : Int32) (x6 : Int32) (x7 : Int32) (x9 : Int32) (t1 : Int32) (t2 : Int32) (fi : FI) (ar : AR) (H : Heap) (locs : List Loc) (ls : Array Slot), M_append_261 K195 nf x2 x3 x4 x5 x6 x7 x9 t1 t2 fi ar = some (r, fi', ar') → lv_has ls 11 [(0, .ref (am 0)), (2, .int x2), (3, .int x3), (4, .int x4), (5, .int x5), (6, .int x6), (7, .int x7), (9, .int x9)] → va_P (gD g) vwCl (WM g am fi ar) H → va_S (AM am s.heap.size) s.heap H locs → W p l e (headSpec (wx yX11_append cX11_append 11 (some .int)) ({ frames := 5, cells := 0, slots := 0, locals := 109 } : Room)).room s m ([.ref (am 0), .int p1, .int p2, .int p3, .int p4] : List Value).toArray below meth c H locs 0 0 (MQ below (QMi g am s.heap.size r fi' ar') ([.ref (am 0), .int p1, .int p2, .int p3, .int p4] : List Value).toArray s 0 0 (AM am s.heap.size)) (F0 m 261 ls [.int t2, .int t1, .ref (am 1)]) := by
        intro x2 x3 x4 x5 x6 x7 x9 t1 t2 fi ar H locs ls hF hl hP hS
        unfold M_append_261 at hF
        replace hF := gd_of hF
        obtain ⟨hi1, hF⟩ := hF
        obtain ⟨ar2, ear2⟩ : ∃ y : AR, y = va_up ar 1 (upd (ar 1) (t1).toNatClampNeg (vp_nar .byte (t2))) := ⟨_, rfl⟩
        replace hF := bnd_of hF ear2
        refine ms_1 hx hb hK hP hD hS hi1 dX11_append_261 (fun H locs hP hS => ?_)
        rw [← ear2] at hP
        obtain ⟨x9_3, ex9_3⟩ : ∃ y : Int32, y = (x9) + (1 : Int32) := ⟨_, rfl⟩
        replace hF := bnd_of hF ex9_3
        refine lv_iinc (v := x9_3) (lv' := [(9, .int (x9_3)), (0, .ref (am 0)), (2, .int (x2)), (3, .int (x3)), (4, .int (x4)), (5, .int (x5)), (6, .int (x6)), (7, .int (x7))]) hx hb dX11_append_262 hl (k := 7) rfl (by rw [ex9_3]; rfl) (by decide) rfl (fun ls hl => ?_)
        refine lv_goto (tgt := 195) hx hb dX11_append_265 (by decide) ?_
        exact ih195 (x2) (x3) (x4) (x5) (x6) (x7) (x9_3) _ _ _ _ _ hF (lv_sub hl [1, 2, 3, 4, 5, 6, 7, 0] rfl) hP hS
      unfold M_append_195b at hF
      refine lv_iload hx hb dX11_append_195 (lv_at hl 7 rfl) ?_
      refine lv_iload_n hx hb dX11_append_197 rfl (lv_at hl 1 rfl) ?_
      refine lv_icmp_ge (tgt := 268) hx hb dX11_append_198 (by decide) (fun hc4 => ?_) (fun hc4 => ?_)
      · replace hF := br_yes hF hc4
        refine lv_aload_n hx hb dX11_append_268 rfl (lv_at hl 0 rfl) ?_
        refine lv_iload hx hb dX11_append_269 (lv_at hl 4 rfl) ?_
        refine lv_bipush (v := (28 : Int32)) hx hb dX11_append_271 (by decide) ?_
        refine lv_iadd hx hb dX11_append_273 ?_
        refine lv_iconst (v := (4 : Int32)) hx hb dX11_append_274 (by decide) ?_
        refine lv_iload hx hb dX11_append_275 (lv_at hl 5 rfl) ?_
        refine lv_iload_n hx hb dX11_append_277 rfl (lv_at hl 1 rfl) ?_
        refine lv_iadd hx hb dX11_append_278 ?_
        refine lv_i2l hx hb dX11_append_279 rfl ?_
        replace hF := obnd3_of hF
        obtain ⟨r8, fi6, ar7, h5, hF⟩ := hF
        refine cM_v (As := [.int ((x5) + (28 : Int32)), .int (4 : Int32), .long (((x6) + (x2)).toInt64)]) (rest := []) hx hb hml hT hown hK hE hD hA hP hS (k_set l g am _ nf fi ar ((x5) + (28 : Int32)) (4 : Int32) (((x6) + (x2)).toInt64) r8 fi6 ar7 h5) cw_X11_set mw18_18 ⟨⟨rfl, rfl⟩, Nat.le_of_ble_eq_true rfl, Nat.le_of_ble_eq_true rfl⟩ rfl hl.1 rfl (Nat.le_of_ble_eq_true rfl) dX11_append_280 ⟨Nat.zero_le _, Nat.zero_le _⟩ (fun H locs hP hS => ?_)
        refine lv_aload_n hx hb dX11_append_283 rfl (lv_at hl 0 rfl) ?_
        replace hF := obnd3_of hF
        obtain ⟨r12, fi10, ar11, h9, hF⟩ := hF
        refine cM_v (As := []) (rest := []) hx hb hml hT hown hK hE hD hA hP hS (k_changed l g am _ nf fi6 ar7 r12 fi10 ar11 h9) cw_X11_changed mw20_14 ⟨⟨rfl, rfl⟩, Nat.le_of_ble_eq_true rfl, Nat.le_of_ble_eq_true rfl⟩ rfl hl.1 rfl (Nat.le_of_ble_eq_true rfl) dX11_append_284 ⟨Nat.zero_le _, Nat.zero_le _⟩ (fun H locs hP hS => ?_)
        refine lv_iload hx hb dX11_append_287 (lv_at hl 5 rfl) ?_
        refine lv_iload_n hx hb dX11_append_289 rfl (lv_at hl 1 rfl) ?_
        refine lv_iadd hx hb dX11_append_290 ?_
        exact rM_i hx hb hr hlocks hF hP hS dX11_append_291
      · replace hF := br_no hF hc4
        refine lv_iload hx hb dX11_append_201 (lv_at hl 5 rfl) ?_
        refine lv_iload hx hb dX11_append_203 (lv_at hl 7 rfl) ?_
        refine lv_iadd hx hb dX11_append_205 ?_
        obtain ⟨x10_13, ex10_13⟩ : ∃ y : Int32, y = ((x6) + (x9)) := ⟨_, rfl⟩
        rw [← ex10_13]
        replace hF := bnd_of hF ex10_13
        refine lv_istore (lv' := [(10, .int (x10_13)), (0, .ref (am 0)), (2, .int (x2)), (3, .int (x3)), (4, .int (x4)), (5, .int (x5)), (6, .int (x6)), (7, .int (x7)), (9, .int (x9))]) hx hb dX11_append_206 hl (by decide) rfl (fun ls hl => ?_)
        refine lv_aload_n hx hb dX11_append_208 rfl (lv_at hl 1 rfl) ?_
        refine mg_1 hx hb hT hown hK hP mw6_1 dX11_append_209 ?_
        refine lv_aload_n hx hb dX11_append_212 rfl (lv_at hl 1 rfl) ?_
        refine lv_aload_n hx hb dX11_append_213 rfl (lv_at hl 1 rfl) ?_
        refine mg_29 hx hb hT hown hK hP mw6_16 dX11_append_214 ?_
        refine lv_iload hx hb dX11_append_217 (lv_at hl 0 rfl) ?_
        refine lv_iload hx hb dX11_append_219 (lv_at hl 7 rfl) ?_
        replace hF := gd_of hF
        obtain ⟨hz14, hF⟩ := hF
        refine lv_idiv hx hb dX11_append_221 hz14 ?_
        replace hF := gd_of hF
        obtain ⟨hi15, hF⟩ := hF
        refine ml_29 hx hb hK hP hi15 dX11_append_222 ?_
        replace hF := obnd3_of hF
        obtain ⟨r19, fi17, ar18, h16, hF⟩ := hF
        refine cM_i (As := [.int (ar 29 ((x10_13) / (x7)).toNatClampNeg)]) (rest := [.ref (am 1)]) hx hb hml hT hown hK hE hD hA hP hS (k_place l g am _ nf fi ar (ar 29 ((x10_13) / (x7)).toNatClampNeg) r19 fi17 ar18 h16) cw_X11_place mw20_10 ⟨⟨rfl, rfl⟩, Nat.le_of_ble_eq_true rfl, Nat.le_of_ble_eq_true rfl⟩ rfl hl.1 rfl (Nat.le_of_ble_eq_true rfl) dX11_append_223 ⟨Nat.zero_le _, Nat.zero_le _⟩ (fun H locs hP hS => ?_)
        refine lv_iload hx hb dX11_append_226 (lv_at hl 0 rfl) ?_
        refine lv_iload hx hb dX11_append_228 (lv_at hl 7 rfl) ?_
        replace hF := gd_of hF
        obtain ⟨hz20, hF⟩ := hF
        refine lv_irem hx hb dX11_append_230 hz20 ?_
        refine lv_iadd hx hb dX11_append_231 ?_
        refine lv_iload_n hx hb dX11_append_232 rfl (lv_at hl 3 rfl) ?_
        refine lv_if_eq (tgt := 246) hx hb dX11_append_233 (by decide) (fun hc21 => ?_) (fun hc21 => ?_)
        · replace hF := br_yes hF hc21
          refine lv_iload hx hb dX11_append_246 (lv_at hl 4 rfl) ?_
          refine lv_iload hx hb dX11_append_248 (lv_at hl 8 rfl) ?_
          refine lv_iload hx hb dX11_append_250 (lv_at hl 8 rfl) ?_
          refine lv_imul hx hb dX11_append_252 ?_
          refine lv_iadd hx hb dX11_append_253 ?_
          refine lv_iload hx hb dX11_append_254 (lv_at hl 8 rfl) ?_
          refine lv_bipush (v := (8 : Int32)) hx hb dX11_append_256 (by decide) ?_
          refine lv_ishr hx hb dX11_append_258 ?_
          refine lv_iadd hx hb dX11_append_259 ?_
          refine lv_i2b hx hb dX11_append_260 rfl ?_
          exact J261 (x2) (x3) (x4) (x5) (x6) (x7) (x9) ((r19) + ((x10_13) - (x10_13) / (x7) * (x7))) ((((x4) + ((x9) * (x9))) + ((x9) >>> ((8 : Int32) &&& 31))).toInt8.toInt32) _ _ _ _ _ hF (lv_sub hl [1, 2, 3, 4, 5, 6, 7, 8] rfl) hP hS
        · replace hF := br_no hF hc21
          refine lv_aload_n hx hb dX11_append_236 rfl (lv_at hl 1 rfl) ?_
          refine mg_2 hx hb hT hown hK hP mw6_2 dX11_append_237 ?_
          refine lv_iload hx hb dX11_append_240 (lv_at hl 8 rfl) ?_
          replace hF := gd_of hF
          obtain ⟨hi22, hF⟩ := hF
          refine ml_2 hx hb hK hP hi22 dX11_append_242 ?_
          refine lv_goto (tgt := 261) hx hb dX11_append_243 (by decide) ?_
          exact J261 (x2) (x3) (x4) (x5) (x6) (x7) (x9) ((r19) + ((x10_13) - (x10_13) / (x7) * (x7))) (ar18 2 (x9).toNatClampNeg) _ _ _ _ _ hF (lv_sub hl [1, 2, 3, 4, 5, 6, 7, 8] rfl) hP hS
  have L85 : ∀ kf : Nat, ∀ (x2 : Int32) (x3 : Int32) (x4 : Int32) (x5 : Int32) (x6 : Int32) (x7 : Int32) (x8 : Int32) (x9 : Int32) (fi : FI) (ar : AR) (H : Heap) (locs : List Loc) (ls : Array Slot), M_append_85 nf kf x2 x3 x4 x5 x6 x7 x8 x9 fi ar = some (r, fi', ar') → lv_has ls 11 [(0, .ref (am 0)), (2, .int x2), (3, .int x3), (4, .int x4), (5, .int x5), (6, .int x6), (7, .int x7), (8, .int x8), (9, .int x9)] → va_P (gD g) vwCl (WM g am fi ar) H → va_S (AM am s.heap.size) s.heap H locs → W p l e (headSpec (wx yX11_append cX11_append 11 (some .int)) ({ frames := 5, cells := 0, slots := 0, locals := 109 } : Room)).room s m ([.ref (am 0), .int p1, .int p2, .int p3, .int p4] : List Value).toArray below meth c H locs 0 0 (MQ below (QMi g am s.heap.size r fi' ar') ([.ref (am 0), .int p1, .int p2, .int p3, .int p4] : List Value).toArray s 0 0 (AM am s.heap.size)) (F0 m 85 ls []) := by
    intro kf
    induction kf with
    | zero => intro x2 x3 x4 x5 x6 x7 x8 x9 fi ar H locs ls hF hl hP hS; cases (show (none : Option (Int32 × FI × AR)) = _ from hF)
    | succ kf ih85 =>
      intro x2 x3 x4 x5 x6 x7 x8 x9 fi ar H locs ls hF hl hP hS
      obtain ⟨K85, hK85⟩ : ∃ K : Int32 → Int32 → Int32 → Int32 → Int32 → Int32 → Int32 → Int32 → FI → AR → Option (Int32 × FI × AR), K = M_append_85 nf kf := ⟨_, rfl⟩
      replace hF : M_append_85b K85 nf x2 x3 x4 x5 x6 x7 x8 x9 fi ar = some (r, fi', ar') := by rw [hK85]; exact hF
      rw [← hK85] at ih85
      clear hK85
      have J176 : ∀ (x2 : Int32) (x3 : Int32) (x4 : Int32) (x5 : Int32) (x6 : Int32) (x7 : Int32) (x8 : Int32) (x9 : Int32) (fi : FI) (ar : AR) (H : Heap) (locs : List Loc) (ls : Array Slot), M_append_176 K85 nf x2 x3 x4 x5 x6 x7 x8 x9 fi ar = some (r, fi', ar') → lv_has ls 11 [(0, .ref (am 0)), (2, .int x2), (3, .int x3), (4, .int x4), (5, .int x5), (6, .int x6), (7, .int x7), (8, .int x8), (9, .int x9)] → va_P (gD g) vwCl (WM g am fi ar) H → va_S (AM am s.heap.size) s.heap H locs → W p l e (headSpec (wx yX11_append cX11_append 11 (some .int)) ({ frames := 5, cells := 0, slots := 0, locals := 109 } : Room)).room s m ([.ref (am 0), .int p1, .int p2, .int p3, .int p4] : List Value).toArray below meth c H locs 0 0 (MQ below (QMi g am s.heap.size r fi' ar') ([.ref (am 0), .int p1, .int p2, .int p3, .int p4] : List Value).toArray s 0 0 (AM am s.heap.size)) (F0 m 176 ls []) := by
        intro x2 x3 x4 x5 x6 x7 x8 x9 fi ar H locs ls hF hl hP hS
        unfold M_append_176 at hF
        refine lv_aload_n hx hb dX11_append_176 rfl (lv_at hl 0 rfl) ?_
        refine lv_dup hx hb dX11_append_177 rfl ?_
        refine mg_31 hx hb hT hown hK hP mw32_5 dX11_append_178 ?_
        refine lv_iconst (v := (1 : Int32)) hx hb dX11_append_181 (by decide) ?_
        refine lv_iadd hx hb dX11_append_182 ?_
        obtain ⟨fi23, efi23⟩ : ∃ y : FI, y = va_up fi 31 ((fi 31) + (1 : Int32)) := ⟨_, rfl⟩
        replace hF := bnd_of hF efi23
        refine mp_31 hx hb hT hown hK hP hD hS mw32_5 dX11_append_183 (fun H locs hP hS => ?_)
        rw [← efi23] at hP
        obtain ⟨x9_24, ex9_24⟩ : ∃ y : Int32, y = (x9) + (1 : Int32) := ⟨_, rfl⟩
        replace hF := bnd_of hF ex9_24
        refine lv_iinc (v := x9_24) (lv' := [(9, .int (x9_24)), (0, .ref (am 0)), (2, .int (x2)), (3, .int (x3)), (4, .int (x4)), (5, .int (x5)), (6, .int (x6)), (7, .int (x7)), (8, .int (x8))]) hx hb dX11_append_186 hl (k := 8) rfl (by rw [ex9_24]; rfl) (by decide) rfl (fun ls hl => ?_)
        refine lv_goto (tgt := 85) hx hb dX11_append_189 (by decide) ?_
        exact ih85 (x2) (x3) (x4) (x5) (x6) (x7) (x8) (x9_24) _ _ _ _ _ hF (lv_sub hl [1, 2, 3, 4, 5, 6, 7, 8, 0] rfl) hP hS
      unfold M_append_85b at hF
      refine lv_iload hx hb dX11_append_85 (lv_at hl 8 rfl) ?_
      refine lv_iload hx hb dX11_append_87 (lv_at hl 7 rfl) ?_
      refine lv_icmp_ge (tgt := 192) hx hb dX11_append_89 (by decide) (fun hc25 => ?_) (fun hc25 => ?_)
      · replace hF := br_yes hF hc25
        refine lv_iconst (v := (0 : Int32)) hx hb dX11_append_192 (by decide) ?_
        refine lv_istore (lv' := [(9, .int (0 : Int32)), (0, .ref (am 0)), (2, .int (x2)), (3, .int (x3)), (4, .int (x4)), (5, .int (x5)), (6, .int (x6)), (7, .int (x7)), (8, .int (x8))]) hx hb dX11_append_193 hl (by decide) rfl (fun ls hl => ?_)
        exact L195 nf (x2) (x3) (x4) (x5) (x6) (x7) (0 : Int32) _ _ _ _ _ hF (lv_sub hl [1, 2, 3, 4, 5, 6, 7, 0] rfl) hP hS
      · replace hF := br_no hF hc25
        refine lv_aload_n hx hb dX11_append_92 rfl (lv_at hl 0 rfl) ?_
        refine mg_29 hx hb hT hown hK hP mw6_16 dX11_append_93 ?_
        refine lv_aload_n hx hb dX11_append_96 rfl (lv_at hl 0 rfl) ?_
        refine mg_31 hx hb hT hown hK hP mw32_5 dX11_append_97 ?_
        refine lv_aload_n hx hb dX11_append_100 rfl (lv_at hl 0 rfl) ?_
        replace hF := obnd3_of hF
        obtain ⟨r29, fi27, ar28, h26, hF⟩ := hF
        refine cM_i (As := []) (rest := [.int (fi 31), .ref (am 29)]) hx hb hml hT hown hK hE hD hA hP hS (k_take l g am _ nf fi ar r29 fi27 ar28 h26) cw_X11_take mw50_4 ⟨⟨rfl, rfl⟩, Nat.le_of_ble_eq_true rfl, Nat.le_of_ble_eq_true rfl⟩ rfl hl.1 rfl (Nat.le_of_ble_eq_true rfl) dX11_append_101 ⟨Nat.zero_le _, Nat.zero_le _⟩ (fun H locs hP hS => ?_)
        replace hF := gd_of hF
        obtain ⟨hi30, hF⟩ := hF
        obtain ⟨ar31, ear31⟩ : ∃ y : AR, y = va_up ar28 29 (upd (ar28 29) (fi 31).toNatClampNeg (r29)) := ⟨_, rfl⟩
        replace hF := bnd_of hF ear31
        refine ms_29 hx hb hK hP hD hS hi30 dX11_append_104 (fun H locs hP hS => ?_)
        rw [← ear31] at hP
        refine lv_aload_n hx hb dX11_append_105 rfl (lv_at hl 0 rfl) ?_
        refine mg_31 hx hb hT hown hK hP mw32_5 dX11_append_106 ?_
        refine lv_if_le (tgt := 139) hx hb dX11_append_109 (by decide) (fun hc32 => ?_) (fun hc32 => ?_)
        · replace hF := br_yes hF hc32
          refine lv_aload_n hx hb dX11_append_139 rfl (lv_at hl 0 rfl) ?_
          refine lv_iload hx hb dX11_append_140 (lv_at hl 4 rfl) ?_
          refine lv_bipush (v := (20 : Int32)) hx hb dX11_append_142 (by decide) ?_
          refine lv_iadd hx hb dX11_append_144 ?_
          refine lv_iconst (v := (2 : Int32)) hx hb dX11_append_145 (by decide) ?_
          refine lv_aload_n hx hb dX11_append_146 rfl (lv_at hl 0 rfl) ?_
          refine mg_29 hx hb hT hown hK hP mw6_16 dX11_append_147 ?_
          refine lv_iconst (v := (0 : Int32)) hx hb dX11_append_150 (by decide) ?_
          replace hF := gd_of hF
          obtain ⟨hi33, hF⟩ := hF
          refine ml_29 hx hb hK hP hi33 dX11_append_151 ?_
          refine lv_bipush (v := (16 : Int32)) hx hb dX11_append_152 (by decide) ?_
          refine lv_ishr hx hb dX11_append_154 ?_
          refine lv_i2l hx hb dX11_append_155 rfl ?_
          replace hF := obnd3_of hF
          obtain ⟨r37, fi35, ar36, h34, hF⟩ := hF
          refine cM_v (As := [.int ((x5) + (20 : Int32)), .int (2 : Int32), .long (((ar31 29 (0 : Int32).toNatClampNeg) >>> ((16 : Int32) &&& 31)).toInt64)]) (rest := []) hx hb hml hT hown hK hE hD hA hP hS (k_set l g am _ nf fi27 ar31 ((x5) + (20 : Int32)) (2 : Int32) (((ar31 29 (0 : Int32).toNatClampNeg) >>> ((16 : Int32) &&& 31)).toInt64) r37 fi35 ar36 h34) cw_X11_set mw18_18 ⟨⟨rfl, rfl⟩, Nat.le_of_ble_eq_true rfl, Nat.le_of_ble_eq_true rfl⟩ rfl hl.1 rfl (Nat.le_of_ble_eq_true rfl) dX11_append_156 ⟨Nat.zero_le _, Nat.zero_le _⟩ (fun H locs hP hS => ?_)
          refine lv_aload_n hx hb dX11_append_159 rfl (lv_at hl 0 rfl) ?_
          refine lv_iload hx hb dX11_append_160 (lv_at hl 4 rfl) ?_
          refine lv_bipush (v := (26 : Int32)) hx hb dX11_append_162 (by decide) ?_
          refine lv_iadd hx hb dX11_append_164 ?_
          refine lv_iconst (v := (2 : Int32)) hx hb dX11_append_165 (by decide) ?_
          refine lv_aload_n hx hb dX11_append_166 rfl (lv_at hl 0 rfl) ?_
          refine mg_29 hx hb hT hown hK hP mw6_16 dX11_append_167 ?_
          refine lv_iconst (v := (0 : Int32)) hx hb dX11_append_170 (by decide) ?_
          replace hF := gd_of hF
          obtain ⟨hi38, hF⟩ := hF
          refine ml_29 hx hb hK hP hi38 dX11_append_171 ?_
          refine lv_i2l hx hb dX11_append_172 rfl ?_
          replace hF := obnd3_of hF
          obtain ⟨r42, fi40, ar41, h39, hF⟩ := hF
          refine cM_v (As := [.int ((x5) + (26 : Int32)), .int (2 : Int32), .long ((ar36 29 (0 : Int32).toNatClampNeg).toInt64)]) (rest := []) hx hb hml hT hown hK hE hD hA hP hS (k_set l g am _ nf fi35 ar36 ((x5) + (26 : Int32)) (2 : Int32) ((ar36 29 (0 : Int32).toNatClampNeg).toInt64) r42 fi40 ar41 h39) cw_X11_set mw18_18 ⟨⟨rfl, rfl⟩, Nat.le_of_ble_eq_true rfl, Nat.le_of_ble_eq_true rfl⟩ rfl hl.1 rfl (Nat.le_of_ble_eq_true rfl) dX11_append_173 ⟨Nat.zero_le _, Nat.zero_le _⟩ (fun H locs hP hS => ?_)
          exact J176 (x2) (x3) (x4) (x5) (x6) (x7) (x8) (x9) _ _ _ _ _ hF (lv_sub hl [0, 1, 2, 3, 4, 5, 6, 7, 8] rfl) hP hS
        · replace hF := br_no hF hc32
          refine lv_aload_n hx hb dX11_append_112 rfl (lv_at hl 0 rfl) ?_
          refine lv_aload_n hx hb dX11_append_113 rfl (lv_at hl 0 rfl) ?_
          refine mg_29 hx hb hT hown hK hP mw6_16 dX11_append_114 ?_
          refine lv_aload_n hx hb dX11_append_117 rfl (lv_at hl 0 rfl) ?_
          refine mg_31 hx hb hT hown hK hP mw32_5 dX11_append_118 ?_
          refine lv_iconst (v := (1 : Int32)) hx hb dX11_append_121 (by decide) ?_
          refine lv_isub hx hb dX11_append_122 ?_
          replace hF := gd_of hF
          obtain ⟨hi43, hF⟩ := hF
          refine ml_29 hx hb hK hP hi43 dX11_append_123 ?_
          refine lv_aload_n hx hb dX11_append_124 rfl (lv_at hl 0 rfl) ?_
          refine mg_29 hx hb hT hown hK hP mw6_16 dX11_append_125 ?_
          refine lv_aload_n hx hb dX11_append_128 rfl (lv_at hl 0 rfl) ?_
          refine mg_31 hx hb hT hown hK hP mw32_5 dX11_append_129 ?_
          replace hF := gd_of hF
          obtain ⟨hi44, hF⟩ := hF
          refine ml_29 hx hb hK hP hi44 dX11_append_132 ?_
          replace hF := obnd3_of hF
          obtain ⟨r48, fi46, ar47, h45, hF⟩ := hF
          refine cM_v (As := [.int (ar31 29 ((fi27 31) - (1 : Int32)).toNatClampNeg), .int (ar31 29 (fi27 31).toNatClampNeg)]) (rest := []) hx hb hml hT hown hK hE hD hA hP hS (k_setEntry l g am _ nf fi27 ar31 (ar31 29 ((fi27 31) - (1 : Int32)).toNatClampNeg) (ar31 29 (fi27 31).toNatClampNeg) r48 fi46 ar47 h45) cw_X11_setEntry mw20_1 ⟨⟨rfl, rfl⟩, Nat.le_of_ble_eq_true rfl, Nat.le_of_ble_eq_true rfl⟩ rfl hl.1 rfl (Nat.le_of_ble_eq_true rfl) dX11_append_133 ⟨Nat.zero_le _, Nat.zero_le _⟩ (fun H locs hP hS => ?_)
          refine lv_goto (tgt := 176) hx hb dX11_append_136 (by decide) ?_
          exact J176 (x2) (x3) (x4) (x5) (x6) (x7) (x8) (x9) _ _ _ _ _ hF (lv_sub hl [0, 1, 2, 3, 4, 5, 6, 7, 8] rfl) hP hS
  have J63 : ∀ (x2 : Int32) (x3 : Int32) (x4 : Int32) (x5 : Int32) (x6 : Int32) (x7 : Int32) (x8 : Int32) (t1 : Int32) (fi : FI) (ar : AR) (H : Heap) (locs : List Loc) (ls : Array Slot), M_append_63 nf x2 x3 x4 x5 x6 x7 x8 t1 fi ar = some (r, fi', ar') → lv_has ls 11 [(0, .ref (am 0)), (2, .int x2), (3, .int x3), (4, .int x4), (5, .int x5), (6, .int x6), (7, .int x7), (8, .int x8)] → va_P (gD g) vwCl (WM g am fi ar) H → va_S (AM am s.heap.size) s.heap H locs → W p l e (headSpec (wx yX11_append cX11_append 11 (some .int)) ({ frames := 5, cells := 0, slots := 0, locals := 109 } : Room)).room s m ([.ref (am 0), .int p1, .int p2, .int p3, .int p4] : List Value).toArray below meth c H locs 0 0 (MQ below (QMi g am s.heap.size r fi' ar') ([.ref (am 0), .int p1, .int p2, .int p3, .int p4] : List Value).toArray s 0 0 (AM am s.heap.size)) (F0 m 63 ls [.int t1, .ref (am 0)]) := by
    intro x2 x3 x4 x5 x6 x7 x8 t1 fi ar H locs ls hF hl hP hS
    unfold M_append_63 at hF
    refine lv_iconst (v := (4 : Int32)) hx hb dX11_append_63 (by decide) ?_
    replace hF := obnd3_of hF
    obtain ⟨r52, fi50, ar51, h49, hF⟩ := hF
    refine cM_i (As := [.int (t1), .int (4 : Int32)]) (rest := []) hx hb hml hT hown hK hE hD hA hP hS (k_fails l g am _ nf fi ar (t1) (4 : Int32) r52 fi50 ar51 h49) cw_X11_fails mw18_14 ⟨⟨rfl, rfl⟩, Nat.le_of_ble_eq_true rfl, Nat.le_of_ble_eq_true rfl⟩ rfl hl.1 rfl (Nat.le_of_ble_eq_true rfl) dX11_append_64 ⟨Nat.zero_le _, Nat.zero_le _⟩ (fun H locs hP hS => ?_)
    refine lv_if_eq (tgt := 72) hx hb dX11_append_67 (by decide) (fun hc53 => ?_) (fun hc53 => ?_)
    · replace hF := br_yes hF hc53
      refine lv_aload_n hx hb dX11_append_72 rfl (lv_at hl 0 rfl) ?_
      refine lv_aload_n hx hb dX11_append_73 rfl (lv_at hl 0 rfl) ?_
      refine lv_iload hx hb dX11_append_74 (lv_at hl 4 rfl) ?_
      replace hF := obnd3_of hF
      obtain ⟨r57, fi55, ar56, h54, hF⟩ := hF
      refine cM_i (As := [.int (x5)]) (rest := [.ref (am 0)]) hx hb hml hT hown hK hE hD hA hP hS (k_firstOf l g am _ nf fi50 ar51 (x5) r57 fi55 ar56 h54) cw_X11_firstOf mw32_13 ⟨⟨rfl, rfl⟩, Nat.le_of_ble_eq_true rfl, Nat.le_of_ble_eq_true rfl⟩ rfl hl.1 rfl (Nat.le_of_ble_eq_true rfl) dX11_append_76 ⟨Nat.zero_le _, Nat.zero_le _⟩ (fun H locs hP hS => ?_)
      replace hF := obnd3_of hF
      obtain ⟨r61, fi59, ar60, h58, hF⟩ := hF
      refine cM_v (As := [.int (r57)]) (rest := []) hx hb hml hT hown hK hE hD hA hP hS (k_walk l g am _ nf fi55 ar56 (r57) r61 fi59 ar60 h58) cw_X11_walk mw43_9 ⟨⟨rfl, rfl⟩, Nat.le_of_ble_eq_true rfl, Nat.le_of_ble_eq_true rfl⟩ rfl hl.1 rfl (Nat.le_of_ble_eq_true rfl) dX11_append_79 ⟨Nat.zero_le _, Nat.zero_le _⟩ (fun H locs hP hS => ?_)
      refine lv_iconst (v := (0 : Int32)) hx hb dX11_append_82 (by decide) ?_
      refine lv_istore (lv' := [(9, .int (0 : Int32)), (0, .ref (am 0)), (2, .int (x2)), (3, .int (x3)), (4, .int (x4)), (5, .int (x5)), (6, .int (x6)), (7, .int (x7)), (8, .int (x8))]) hx hb dX11_append_83 hl (by decide) rfl (fun ls hl => ?_)
      exact L85 nf (x2) (x3) (x4) (x5) (x6) (x7) (x8) (0 : Int32) _ _ _ _ _ hF (lv_sub hl [1, 2, 3, 4, 5, 6, 7, 8, 0] rfl) hP hS
    · replace hF := br_no hF hc53
      refine lv_iconst (v := (0 : Int32)) hx hb dX11_append_70 (by decide) ?_
      exact rM_i hx hb hr hlocks hF hP hS dX11_append_71
  replace hl := lv_sub hl [0, 1, 2, 3, 4] rfl
  refine lv_aload_n hx hb dX11_append_0 rfl (lv_at hl 0 rfl) ?_
  refine mg_20 hx hb hT hown hK hP mw6_5 dX11_append_1 ?_
  refine lv_iload_n hx hb dX11_append_4 rfl (lv_at hl 1 rfl) ?_
  replace hF := gd_of hF
  obtain ⟨hi62, hF⟩ := hF
  refine ml_20 hx hb hK hP hi62 dX11_append_5 ?_
  obtain ⟨x5_63, ex5_63⟩ : ∃ y : Int32, y = (ar 20 (p1).toNatClampNeg) := ⟨_, rfl⟩
  rw [← ex5_63]
  replace hF := bnd_of hF ex5_63
  refine lv_istore (lv' := [(5, .int (x5_63)), (0, .ref (am 0)), (1, .int (p1)), (2, .int (p2)), (3, .int (p3)), (4, .int (p4))]) hx hb dX11_append_6 hl (by decide) rfl (fun ls hl => ?_)
  refine lv_aload_n hx hb dX11_append_8 rfl (lv_at hl 1 rfl) ?_
  refine lv_iload hx hb dX11_append_9 (lv_at hl 0 rfl) ?_
  refine lv_bipush (v := (28 : Int32)) hx hb dX11_append_11 (by decide) ?_
  refine lv_iadd hx hb dX11_append_13 ?_
  replace hF := obnd3_of hF
  obtain ⟨r67, fi65, ar66, h64, hF⟩ := hF
  refine cM_i (As := [.int ((x5_63) + (28 : Int32))]) (rest := []) hx hb hml hT hown hK hE hD hA hP hS (k_four l g am _ nf fi ar ((x5_63) + (28 : Int32)) r67 fi65 ar66 h64) cw_X11_four mw19_17 ⟨⟨rfl, rfl⟩, Nat.le_of_ble_eq_true rfl, Nat.le_of_ble_eq_true rfl⟩ rfl hl.1 rfl (Nat.le_of_ble_eq_true rfl) dX11_append_14 ⟨Nat.zero_le _, Nat.zero_le _⟩ (fun H locs hP hS => ?_)
  refine lv_istore (lv' := [(6, .int (r67)), (5, .int (x5_63)), (0, .ref (am 0)), (1, .int (p1)), (2, .int (p2)), (3, .int (p3)), (4, .int (p4))]) hx hb dX11_append_17 hl (by decide) rfl (fun ls hl => ?_)
  refine lv_sipush (v := (512 : Int32)) hx hb dX11_append_19 (by decide) ?_
  refine lv_aload_n hx hb dX11_append_22 rfl (lv_at hl 2 rfl) ?_
  refine mg_7 hx hb hT hown hK hP mw19_2 dX11_append_23 ?_
  refine lv_imul hx hb dX11_append_26 ?_
  obtain ⟨x7_68, ex7_68⟩ : ∃ y : Int32, y = ((512 : Int32) * (fi65 7)) := ⟨_, rfl⟩
  rw [← ex7_68]
  replace hF := bnd_of hF ex7_68
  refine lv_istore (lv' := [(7, .int (x7_68)), (6, .int (r67)), (5, .int (x5_63)), (0, .ref (am 0)), (1, .int (p1)), (2, .int (p2)), (3, .int (p3)), (4, .int (p4))]) hx hb dX11_append_27 hl (by decide) rfl (fun ls hl => ?_)
  refine lv_iload hx hb dX11_append_29 (lv_at hl 1 rfl) ?_
  refine lv_iload_n hx hb dX11_append_31 rfl (lv_at hl 5 rfl) ?_
  refine lv_iadd hx hb dX11_append_32 ?_
  refine lv_iload hx hb dX11_append_33 (lv_at hl 0 rfl) ?_
  replace hF := obnd_of hF
  obtain ⟨r70, h69, hF⟩ := hF
  refine cS_i (As := [.int ((r67) + (p2)), .int (x7_68)]) (rest := []) hx hb hml hT hown hE hP hS (k_whole l g nf ((r67) + (p2)) (x7_68) r70 h69) cw_X11_whole mw35_0 ⟨⟨rfl, rfl⟩, Nat.le_of_ble_eq_true rfl, Nat.le_of_ble_eq_true rfl⟩ rfl hl.1 rfl (Nat.le_of_ble_eq_true rfl) dX11_append_35 ⟨Nat.zero_le _, Nat.zero_le _⟩ (fun H locs hP hS => ?_)
  refine lv_iload hx hb dX11_append_38 (lv_at hl 1 rfl) ?_
  refine lv_iload hx hb dX11_append_40 (lv_at hl 0 rfl) ?_
  replace hF := obnd_of hF
  obtain ⟨r72, h71, hF⟩ := hF
  refine cS_i (As := [.int (r67), .int (x7_68)]) (rest := [.int (r70)]) hx hb hml hT hown hE hP hS (k_whole l g nf (r67) (x7_68) r72 h71) cw_X11_whole mw35_0 ⟨⟨rfl, rfl⟩, Nat.le_of_ble_eq_true rfl, Nat.le_of_ble_eq_true rfl⟩ rfl hl.1 rfl (Nat.le_of_ble_eq_true rfl) dX11_append_42 ⟨Nat.zero_le _, Nat.zero_le _⟩ (fun H locs hP hS => ?_)
  refine lv_isub hx hb dX11_append_45 ?_
  obtain ⟨x8_73, ex8_73⟩ : ∃ y : Int32, y = ((r70) - (r72)) := ⟨_, rfl⟩
  rw [← ex8_73]
  replace hF := bnd_of hF ex8_73
  refine lv_istore (lv' := [(8, .int (x8_73)), (7, .int (x7_68)), (6, .int (r67)), (5, .int (x5_63)), (0, .ref (am 0)), (1, .int (p1)), (2, .int (p2)), (3, .int (p3)), (4, .int (p4))]) hx hb dX11_append_46 hl (by decide) rfl (fun ls hl => ?_)
  refine lv_aload_n hx hb dX11_append_48 rfl (lv_at hl 4 rfl) ?_
  refine lv_iload hx hb dX11_append_49 (lv_at hl 0 rfl) ?_
  refine lv_aload_n hx hb dX11_append_51 rfl (lv_at hl 4 rfl) ?_
  replace hF := obnd3_of hF
  obtain ⟨r77, fi75, ar76, h74, hF⟩ := hF
  refine cM_i (As := []) (rest := [.int (x8_73), .ref (am 0)]) hx hb hml hT hown hK hE hD hA hP hS (k_freeOnes l g am _ nf fi65 ar66 r77 fi75 ar76 h74) cw_X11_freeOnes mw37_3 ⟨⟨rfl, rfl⟩, Nat.le_of_ble_eq_true rfl, Nat.le_of_ble_eq_true rfl⟩ rfl hl.1 rfl (Nat.le_of_ble_eq_true rfl) dX11_append_52 ⟨Nat.zero_le _, Nat.zero_le _⟩ (fun H locs hP hS => ?_)
  refine lv_icmp_le (tgt := 62) hx hb dX11_append_55 (by decide) (fun hc78 => ?_) (fun hc78 => ?_)
  · replace hF := br_yes hF hc78
    refine lv_iconst (v := (0 : Int32)) hx hb dX11_append_62 (by decide) ?_
    exact J63 (p2) (p3) (p4) (x5_63) (r67) (x7_68) (x8_73) (0 : Int32) _ _ _ _ _ hF (lv_sub hl [4, 6, 7, 8, 3, 2, 1, 0] rfl) hP hS
  · replace hF := br_no hF hc78
    refine lv_iconst (v := (1 : Int32)) hx hb dX11_append_58 (by decide) ?_
    refine lv_goto (tgt := 63) hx hb dX11_append_59 (by decide) ?_
    exact J63 (p2) (p3) (p4) (x5_63) (r67) (x7_68) (x8_73) (1 : Int32) _ _ _ _ _ hF (lv_sub hl [4, 6, 7, 8, 3, 2, 1, 0] rfl) hP hS
theorem cw_X11_append : (Cond.instanceMethod yX11_append ∈ TB ∧ Cond.selects RX11 yX11_append yX11_append ∈ TB ∧ Cond.code yX11_append cX11_append 11 (some .int) ∈ TB) ∧ (yX11_append.cls = RX11 ∧ yX11_append.cls ≠ "java/lang/invoke/MethodHandle" ∧ yX11_append.cls ≠ "java/lang/invoke/VarHandle" ∧ (parseMethodDescriptor yX11_append.desc).map (fun d => d.parameters.length) = some 4) := ⟨⟨mw53_3, mw53_4, mw53_5⟩, by decide +kernel⟩
/-! X11_noFile -/
noncomputable def M_noFile_66 (nf : Nat) (t0 : Int32) (fi : FI) (ar : AR) : Option (Int32 × FI × AR) :=
  gd ((t0) &&& 1 = (t0)) (some ((t0), fi, ar))
noncomputable def M_noFile_61 (nf : Nat)  (fi : FI) (ar : AR) : Option (Int32 × FI × AR) :=
  M_noFile_66 nf  (1 : Int32) fi ar
noncomputable def M_noFile_54 (nf : Nat) (t1 : Int32) (fi : FI) (ar : AR) : Option (Int32 × FI × AR) :=
  obnd3 (M_fails nf fi ar (t1) (3 : Int32)) fun r5 fi3 ar4 => br ((r5) = 0) (M_noFile_66 nf  (0 : Int32) fi3 ar4) (M_noFile_61 nf  fi3 ar4)
noncomputable def M_noFile_49 (nf : Nat)  (fi : FI) (ar : AR) : Option (Int32 × FI × AR) :=
  M_noFile_54 nf  (1 : Int32) fi ar
noncomputable def M_noFile_25 (nf : Nat) (x1 : Int32) (x2 : Int32) (t1 : Int32) (fi : FI) (ar : AR) : Option (Int32 × FI × AR) :=
  obnd3 (M_fails nf fi ar (t1) (2 : Int32)) fun r10 fi8 ar9 => br ((r10) = 0) (obnd3 (M_item nf fi8 ar9 (x1)) fun r15 fi13 ar14 => obnd3 (M_isFolder nf fi13 ar14 (r15)) fun r19 fi17 ar18 => br ((r19) = 0) (br ((x2) = 0) (M_noFile_54 nf  (0 : Int32) fi17 ar18) (M_noFile_49 nf  fi17 ar18)) (M_noFile_49 nf  fi17 ar18)) (M_noFile_61 nf  fi8 ar9)
noncomputable def M_noFile_20 (nf : Nat) (x1 : Int32) (x2 : Int32) (fi : FI) (ar : AR) : Option (Int32 × FI × AR) :=
  M_noFile_25 nf  (x1) (x2) (1 : Int32) fi ar
noncomputable def M_noFile (nf : Nat) (fi : FI) (ar : AR) (x1 : Int32) (x2 : Int32) : Option (Int32 × FI × AR) :=
  obnd3 (M_none nf fi ar) fun r25 fi23 ar24 => br ((r25) = 0) (br ((x1) < 0) (M_noFile_20 nf  (x1) (x2) fi23 ar24) (obnd3 (M_many nf fi23 ar24) fun r31 fi29 ar30 => br ((x1) < (r31)) (M_noFile_25 nf  (x1) (x2) (0 : Int32) fi29 ar30) (M_noFile_20 nf  (x1) (x2) fi29 ar30))) (M_noFile_61 nf  fi23 ar24)
set_option maxHeartbeats 4000000 in
set_option maxRecDepth 100000 in
theorem k_noFile (l : Launch) (g : GT) (am : Nat → Nat) (sz : Nat) (nf : Nat) (fi : FI) (ar : AR) (p1 : Int32) (p2 : Int32) (r : Int32) (fi' : FI) (ar' : AR) (hF : M_noFile nf fi ar p1 p2 = some (r, fi', ar')) : Met l yX11_noFile (wx yX11_noFile cX11_noFile 3 (some .boolean)) ({ frames := 10, cells := 0, slots := 0, locals := 229 } : Room) (va_Pc [.ref (am 0), .int p1, .int p2] (PM g am sz fi ar)) (QMi g am sz r fi' ar') 0 0 (AM am sz) := by
  refine Met.ofW (cc := cX11_noFile) (maxL := 3) (ret := (some .boolean)) (by decide) rfl ?_
  intro p e s m args below meth c s₁ B hml hv
  obtain ⟨rfl, hsz, hP, hK, hD0, hE⟩ := hv
  have hx := B.exec
  have hb := B.bytes
  have hr := B.returns
  have hts := atoms_spec (ws := (wx yX11_noFile cX11_noFile 3 (some .boolean))) B.pre
  have hT : ∀ w ∈ TB, w.before _ s = true := fun w h => hts w (List.mem_cons_of_mem _ h)
  have hown : s.vm.findClass RX11 = some m.cls := findClass_of_methodNamed B.named
  have hlocks := B.notSynchronized
  subst hsz
  have hD := dM hD0 s.heap.size
  have hA : ∀ q : Nat, s.heap.size ≤ q → AM am s.heap.size q := fun q h => Or.inr h
  have hS : va_S (AM am s.heap.size) s.heap s.heap [] := va_S.rf
  have hl := lv_entry ([.ref (am 0), .int p1, .int p2]) (n := 3) (Nat.le_of_ble_eq_true rfl)
  rw [lg_entry_eq]
  generalize (lg_sl ([.ref (am 0), .int p1, .int p2]) ++ List.replicate (3 - (lg_sl ([.ref (am 0), .int p1, .int p2])).length) Slot.unset).toArray = ls at hl ⊢
  have hl : lv_has ls 3 [(0, .ref (am 0)), (1, .int p1), (2, .int p2)] := hl
  unfold M_noFile at hF
  have J66 : ∀ (t0 : Int32) (fi : FI) (ar : AR) (H : Heap) (locs : List Loc) (ls : Array Slot), M_noFile_66 nf t0 fi ar = some (r, fi', ar') → lv_has ls 3 [(0, .ref (am 0))] → va_P (gD g) vwCl (WM g am fi ar) H → va_S (AM am s.heap.size) s.heap H locs → W p l e (headSpec (wx yX11_noFile cX11_noFile 3 (some .boolean)) ({ frames := 10, cells := 0, slots := 0, locals := 229 } : Room)).room s m ([.ref (am 0), .int p1, .int p2] : List Value).toArray below meth c H locs 0 0 (MQ below (QMi g am s.heap.size r fi' ar') ([.ref (am 0), .int p1, .int p2] : List Value).toArray s 0 0 (AM am s.heap.size)) (F0 m 66 ls [.int t0]) := by
    intro t0 fi ar H locs ls hF hl hP hS
    unfold M_noFile_66 at hF
    replace hF := gd_of hF
    obtain ⟨hz1, hF⟩ := hF
    exact rM_z hx hb hr hlocks (nar_z hz1) hF hP hS dX11_noFile_66
  have J61 : ∀  (fi : FI) (ar : AR) (H : Heap) (locs : List Loc) (ls : Array Slot), M_noFile_61 nf fi ar = some (r, fi', ar') → lv_has ls 3 [(0, .ref (am 0))] → va_P (gD g) vwCl (WM g am fi ar) H → va_S (AM am s.heap.size) s.heap H locs → W p l e (headSpec (wx yX11_noFile cX11_noFile 3 (some .boolean)) ({ frames := 10, cells := 0, slots := 0, locals := 229 } : Room)).room s m ([.ref (am 0), .int p1, .int p2] : List Value).toArray below meth c H locs 0 0 (MQ below (QMi g am s.heap.size r fi' ar') ([.ref (am 0), .int p1, .int p2] : List Value).toArray s 0 0 (AM am s.heap.size)) (F0 m 61 ls []) := by
    intro fi ar H locs ls hF hl hP hS
    unfold M_noFile_61 at hF
    refine lv_iconst (v := (1 : Int32)) hx hb dX11_noFile_61 (by decide) ?_
    refine lv_goto (tgt := 66) hx hb dX11_noFile_62 (by decide) ?_
    exact J66 (1 : Int32) _ _ _ _ _ hF (lv_sub hl [0] rfl) hP hS
  have J54 : ∀ (t1 : Int32) (fi : FI) (ar : AR) (H : Heap) (locs : List Loc) (ls : Array Slot), M_noFile_54 nf t1 fi ar = some (r, fi', ar') → lv_has ls 3 [(0, .ref (am 0))] → va_P (gD g) vwCl (WM g am fi ar) H → va_S (AM am s.heap.size) s.heap H locs → W p l e (headSpec (wx yX11_noFile cX11_noFile 3 (some .boolean)) ({ frames := 10, cells := 0, slots := 0, locals := 229 } : Room)).room s m ([.ref (am 0), .int p1, .int p2] : List Value).toArray below meth c H locs 0 0 (MQ below (QMi g am s.heap.size r fi' ar') ([.ref (am 0), .int p1, .int p2] : List Value).toArray s 0 0 (AM am s.heap.size)) (F0 m 54 ls [.int t1, .ref (am 0)]) := by
    intro t1 fi ar H locs ls hF hl hP hS
    unfold M_noFile_54 at hF
    refine lv_iconst (v := (3 : Int32)) hx hb dX11_noFile_54 (by decide) ?_
    replace hF := obnd3_of hF
    obtain ⟨r5, fi3, ar4, h2, hF⟩ := hF
    refine cM_i (As := [.int (t1), .int (3 : Int32)]) (rest := []) hx hb hml hT hown hK hE hD hA hP hS (k_fails l g am _ nf fi ar (t1) (3 : Int32) r5 fi3 ar4 h2) cw_X11_fails mw18_14 ⟨⟨rfl, rfl⟩, Nat.le_of_ble_eq_true rfl, Nat.le_of_ble_eq_true rfl⟩ rfl hl.1 rfl (Nat.le_of_ble_eq_true rfl) dX11_noFile_55 ⟨Nat.zero_le _, Nat.zero_le _⟩ (fun H locs hP hS => ?_)
    refine lv_if_eq (tgt := 65) hx hb dX11_noFile_58 (by decide) (fun hc6 => ?_) (fun hc6 => ?_)
    · replace hF := br_yes hF hc6
      refine lv_iconst (v := (0 : Int32)) hx hb dX11_noFile_65 (by decide) ?_
      exact J66 (0 : Int32) _ _ _ _ _ hF (lv_sub hl [0] rfl) hP hS
    · replace hF := br_no hF hc6
      exact J61  _ _ _ _ _ hF (lv_sub hl [0] rfl) hP hS
  have J49 : ∀  (fi : FI) (ar : AR) (H : Heap) (locs : List Loc) (ls : Array Slot), M_noFile_49 nf fi ar = some (r, fi', ar') → lv_has ls 3 [(0, .ref (am 0))] → va_P (gD g) vwCl (WM g am fi ar) H → va_S (AM am s.heap.size) s.heap H locs → W p l e (headSpec (wx yX11_noFile cX11_noFile 3 (some .boolean)) ({ frames := 10, cells := 0, slots := 0, locals := 229 } : Room)).room s m ([.ref (am 0), .int p1, .int p2] : List Value).toArray below meth c H locs 0 0 (MQ below (QMi g am s.heap.size r fi' ar') ([.ref (am 0), .int p1, .int p2] : List Value).toArray s 0 0 (AM am s.heap.size)) (F0 m 49 ls [.ref (am 0)]) := by
    intro fi ar H locs ls hF hl hP hS
    unfold M_noFile_49 at hF
    refine lv_iconst (v := (1 : Int32)) hx hb dX11_noFile_49 (by decide) ?_
    refine lv_goto (tgt := 54) hx hb dX11_noFile_50 (by decide) ?_
    exact J54 (1 : Int32) _ _ _ _ _ hF (lv_sub hl [0] rfl) hP hS
  have J25 : ∀ (x1 : Int32) (x2 : Int32) (t1 : Int32) (fi : FI) (ar : AR) (H : Heap) (locs : List Loc) (ls : Array Slot), M_noFile_25 nf x1 x2 t1 fi ar = some (r, fi', ar') → lv_has ls 3 [(0, .ref (am 0)), (1, .int x1), (2, .int x2)] → va_P (gD g) vwCl (WM g am fi ar) H → va_S (AM am s.heap.size) s.heap H locs → W p l e (headSpec (wx yX11_noFile cX11_noFile 3 (some .boolean)) ({ frames := 10, cells := 0, slots := 0, locals := 229 } : Room)).room s m ([.ref (am 0), .int p1, .int p2] : List Value).toArray below meth c H locs 0 0 (MQ below (QMi g am s.heap.size r fi' ar') ([.ref (am 0), .int p1, .int p2] : List Value).toArray s 0 0 (AM am s.heap.size)) (F0 m 25 ls [.int t1, .ref (am 0)]) := by
    intro x1 x2 t1 fi ar H locs ls hF hl hP hS
    unfold M_noFile_25 at hF
    refine lv_iconst (v := (2 : Int32)) hx hb dX11_noFile_25 (by decide) ?_
    replace hF := obnd3_of hF
    obtain ⟨r10, fi8, ar9, h7, hF⟩ := hF
    refine cM_i (As := [.int (t1), .int (2 : Int32)]) (rest := []) hx hb hml hT hown hK hE hD hA hP hS (k_fails l g am _ nf fi ar (t1) (2 : Int32) r10 fi8 ar9 h7) cw_X11_fails mw18_14 ⟨⟨rfl, rfl⟩, Nat.le_of_ble_eq_true rfl, Nat.le_of_ble_eq_true rfl⟩ rfl hl.1 rfl (Nat.le_of_ble_eq_true rfl) dX11_noFile_26 ⟨Nat.zero_le _, Nat.zero_le _⟩ (fun H locs hP hS => ?_)
    refine lv_if_ne (tgt := 61) hx hb dX11_noFile_29 (by decide) (fun hc11 => ?_) (fun hc11 => ?_)
    · replace hF := br_no hF hc11
      exact J61  _ _ _ _ _ hF (lv_sub hl [0] rfl) hP hS
    · replace hF := br_yes hF hc11
      refine lv_aload_n hx hb dX11_noFile_32 rfl (lv_at hl 0 rfl) ?_
      refine lv_aload_n hx hb dX11_noFile_33 rfl (lv_at hl 0 rfl) ?_
      refine lv_aload_n hx hb dX11_noFile_34 rfl (lv_at hl 0 rfl) ?_
      refine lv_iload_n hx hb dX11_noFile_35 rfl (lv_at hl 1 rfl) ?_
      replace hF := obnd3_of hF
      obtain ⟨r15, fi13, ar14, h12, hF⟩ := hF
      refine cM_i (As := [.int (x1)]) (rest := [.ref (am 0), .ref (am 0)]) hx hb hml hT hown hK hE hD hA hP hS (k_item l g am _ nf fi8 ar9 (x1) r15 fi13 ar14 h12) cw_X11_item mw40_7 ⟨⟨rfl, rfl⟩, Nat.le_of_ble_eq_true rfl, Nat.le_of_ble_eq_true rfl⟩ rfl hl.1 rfl (Nat.le_of_ble_eq_true rfl) dX11_noFile_36 ⟨Nat.zero_le _, Nat.zero_le _⟩ (fun H locs hP hS => ?_)
      replace hF := obnd3_of hF
      obtain ⟨r19, fi17, ar18, h16, hF⟩ := hF
      refine cM_i (As := [.int (r15)]) (rest := [.ref (am 0)]) hx hb hml hT hown hK hE hD hA hP hS (k_isFolder l g am _ nf fi13 ar14 (r15) r19 fi17 ar18 h16) cw_X11_isFolder mw31_21 ⟨⟨rfl, rfl⟩, Nat.le_of_ble_eq_true rfl, Nat.le_of_ble_eq_true rfl⟩ rfl hl.1 rfl (Nat.le_of_ble_eq_true rfl) dX11_noFile_39 ⟨Nat.zero_le _, Nat.zero_le _⟩ (fun H locs hP hS => ?_)
      refine lv_if_ne (tgt := 49) hx hb dX11_noFile_42 (by decide) (fun hc20 => ?_) (fun hc20 => ?_)
      · replace hF := br_no hF hc20
        exact J49  _ _ _ _ _ hF (lv_sub hl [0] rfl) hP hS
      · replace hF := br_yes hF hc20
        refine lv_iload_n hx hb dX11_noFile_45 rfl (lv_at hl 2 rfl) ?_
        refine lv_if_eq (tgt := 53) hx hb dX11_noFile_46 (by decide) (fun hc21 => ?_) (fun hc21 => ?_)
        · replace hF := br_yes hF hc21
          refine lv_iconst (v := (0 : Int32)) hx hb dX11_noFile_53 (by decide) ?_
          exact J54 (0 : Int32) _ _ _ _ _ hF (lv_sub hl [0] rfl) hP hS
        · replace hF := br_no hF hc21
          exact J49  _ _ _ _ _ hF (lv_sub hl [0] rfl) hP hS
  have J20 : ∀ (x1 : Int32) (x2 : Int32) (fi : FI) (ar : AR) (H : Heap) (locs : List Loc) (ls : Array Slot), M_noFile_20 nf x1 x2 fi ar = some (r, fi', ar') → lv_has ls 3 [(0, .ref (am 0)), (1, .int x1), (2, .int x2)] → va_P (gD g) vwCl (WM g am fi ar) H → va_S (AM am s.heap.size) s.heap H locs → W p l e (headSpec (wx yX11_noFile cX11_noFile 3 (some .boolean)) ({ frames := 10, cells := 0, slots := 0, locals := 229 } : Room)).room s m ([.ref (am 0), .int p1, .int p2] : List Value).toArray below meth c H locs 0 0 (MQ below (QMi g am s.heap.size r fi' ar') ([.ref (am 0), .int p1, .int p2] : List Value).toArray s 0 0 (AM am s.heap.size)) (F0 m 20 ls [.ref (am 0)]) := by
    intro x1 x2 fi ar H locs ls hF hl hP hS
    unfold M_noFile_20 at hF
    refine lv_iconst (v := (1 : Int32)) hx hb dX11_noFile_20 (by decide) ?_
    refine lv_goto (tgt := 25) hx hb dX11_noFile_21 (by decide) ?_
    exact J25 (x1) (x2) (1 : Int32) _ _ _ _ _ hF (lv_sub hl [0, 1, 2] rfl) hP hS
  replace hl := lv_sub hl [0, 1, 2] rfl
  refine lv_aload_n hx hb dX11_noFile_0 rfl (lv_at hl 0 rfl) ?_
  replace hF := obnd3_of hF
  obtain ⟨r25, fi23, ar24, h22, hF⟩ := hF
  refine cM_i (As := []) (rest := []) hx hb hml hT hown hK hE hD hA hP hS (k_none l g am _ nf fi ar r25 fi23 ar24 h22) cw_X11_none mw38_10 ⟨⟨rfl, rfl⟩, Nat.le_of_ble_eq_true rfl, Nat.le_of_ble_eq_true rfl⟩ rfl hl.1 rfl (Nat.le_of_ble_eq_true rfl) dX11_noFile_1 ⟨Nat.zero_le _, Nat.zero_le _⟩ (fun H locs hP hS => ?_)
  refine lv_if_ne (tgt := 61) hx hb dX11_noFile_4 (by decide) (fun hc26 => ?_) (fun hc26 => ?_)
  · replace hF := br_no hF hc26
    exact J61  _ _ _ _ _ hF (lv_sub hl [0] rfl) hP hS
  · replace hF := br_yes hF hc26
    refine lv_aload_n hx hb dX11_noFile_7 rfl (lv_at hl 0 rfl) ?_
    refine lv_iload_n hx hb dX11_noFile_8 rfl (lv_at hl 1 rfl) ?_
    refine lv_if_lt (tgt := 20) hx hb dX11_noFile_9 (by decide) (fun hc27 => ?_) (fun hc27 => ?_)
    · replace hF := br_yes hF hc27
      exact J20 (p1) (p2) _ _ _ _ _ hF (lv_sub hl [0, 1, 2] rfl) hP hS
    · replace hF := br_no hF hc27
      refine lv_iload_n hx hb dX11_noFile_12 rfl (lv_at hl 1 rfl) ?_
      refine lv_aload_n hx hb dX11_noFile_13 rfl (lv_at hl 0 rfl) ?_
      replace hF := obnd3_of hF
      obtain ⟨r31, fi29, ar30, h28, hF⟩ := hF
      refine cM_i (As := []) (rest := [.int (p1), .ref (am 0)]) hx hb hml hT hown hK hE hD hA hP hS (k_many l g am _ nf fi23 ar24 r31 fi29 ar30 h28) cw_X11_many mw38_14 ⟨⟨rfl, rfl⟩, Nat.le_of_ble_eq_true rfl, Nat.le_of_ble_eq_true rfl⟩ rfl hl.1 rfl (Nat.le_of_ble_eq_true rfl) dX11_noFile_14 ⟨Nat.zero_le _, Nat.zero_le _⟩ (fun H locs hP hS => ?_)
      refine lv_icmp_lt (tgt := 24) hx hb dX11_noFile_17 (by decide) (fun hc32 => ?_) (fun hc32 => ?_)
      · replace hF := br_yes hF hc32
        refine lv_iconst (v := (0 : Int32)) hx hb dX11_noFile_24 (by decide) ?_
        exact J25 (p1) (p2) (0 : Int32) _ _ _ _ _ hF (lv_sub hl [0, 1, 2] rfl) hP hS
      · replace hF := br_no hF hc32
        exact J20 (p1) (p2) _ _ _ _ _ hF (lv_sub hl [0, 1, 2] rfl) hP hS
theorem cw_X11_noFile : (Cond.instanceMethod yX11_noFile ∈ TB ∧ Cond.selects RX11 yX11_noFile yX11_noFile ∈ TB ∧ Cond.code yX11_noFile cX11_noFile 3 (some .boolean) ∈ TB) ∧ (yX11_noFile.cls = RX11 ∧ yX11_noFile.cls ≠ "java/lang/invoke/MethodHandle" ∧ yX11_noFile.cls ≠ "java/lang/invoke/VarHandle" ∧ (parseMethodDescriptor yX11_noFile.desc).map (fun d => d.parameters.length) = some 2) := ⟨⟨mw52_23, mw53_0, mw53_1⟩, by decide +kernel⟩
/-! X11_write -/
noncomputable def M_write_35 (nf : Nat) (t0 : Int32) (fi : FI) (ar : AR) : Option (Int32 × FI × AR) :=
  some ((t0), fi, ar)
noncomputable def M_write (nf : Nat) (fi : FI) (ar : AR) (x1 : Int32) : Option (Int32 × FI × AR) :=
  bnd (fi 4) fun x2_1 => bnd (va_up fi 4 (0 : Int32)) fun fi2 => obnd3 (M_noFile nf fi2 ar (x1) (0 : Int32)) fun r6 fi4 ar5 => br ((r6) = 0) (obnd3 (M_item nf fi4 ar5 (x1)) fun r11 fi9 ar10 => obnd3 (M_append nf fi9 ar10 (r11) (x2_1) (1 : Int32) (0 : Int32)) fun r15 fi13 ar14 => M_write_35 nf  (r15) fi13 ar14) (M_write_35 nf  (0 : Int32) fi4 ar5)
set_option maxHeartbeats 4000000 in
set_option maxRecDepth 100000 in
theorem k_write (l : Launch) (g : GT) (am : Nat → Nat) (sz : Nat) (nf : Nat) (fi : FI) (ar : AR) (p1 : Int32) (r : Int32) (fi' : FI) (ar' : AR) (hF : M_write nf fi ar p1 = some (r, fi', ar')) : Met l yX11_write (wx yX11_write cX11_write 3 (some .int)) ({ frames := 11, cells := 0, slots := 0, locals := 251 } : Room) (va_Pc [.ref (am 0), .int p1] (PM g am sz fi ar)) (QMi g am sz r fi' ar') 0 0 (AM am sz) := by
  refine Met.ofW (cc := cX11_write) (maxL := 3) (ret := (some .int)) (by decide) rfl ?_
  intro p e s m args below meth c s₁ B hml hv
  obtain ⟨rfl, hsz, hP, hK, hD0, hE⟩ := hv
  have hx := B.exec
  have hb := B.bytes
  have hr := B.returns
  have hts := atoms_spec (ws := (wx yX11_write cX11_write 3 (some .int))) B.pre
  have hT : ∀ w ∈ TB, w.before _ s = true := fun w h => hts w (List.mem_cons_of_mem _ h)
  have hown : s.vm.findClass RX11 = some m.cls := findClass_of_methodNamed B.named
  have hlocks := B.notSynchronized
  subst hsz
  have hD := dM hD0 s.heap.size
  have hA : ∀ q : Nat, s.heap.size ≤ q → AM am s.heap.size q := fun q h => Or.inr h
  have hS : va_S (AM am s.heap.size) s.heap s.heap [] := va_S.rf
  have hl := lv_entry ([.ref (am 0), .int p1]) (n := 3) (Nat.le_of_ble_eq_true rfl)
  rw [lg_entry_eq]
  generalize (lg_sl ([.ref (am 0), .int p1]) ++ List.replicate (3 - (lg_sl ([.ref (am 0), .int p1])).length) Slot.unset).toArray = ls at hl ⊢
  have hl : lv_has ls 3 [(0, .ref (am 0)), (1, .int p1)] := hl
  unfold M_write at hF
  have J35 : ∀ (t0 : Int32) (fi : FI) (ar : AR) (H : Heap) (locs : List Loc) (ls : Array Slot), M_write_35 nf t0 fi ar = some (r, fi', ar') → lv_has ls 3 [(0, .ref (am 0))] → va_P (gD g) vwCl (WM g am fi ar) H → va_S (AM am s.heap.size) s.heap H locs → W p l e (headSpec (wx yX11_write cX11_write 3 (some .int)) ({ frames := 11, cells := 0, slots := 0, locals := 251 } : Room)).room s m ([.ref (am 0), .int p1] : List Value).toArray below meth c H locs 0 0 (MQ below (QMi g am s.heap.size r fi' ar') ([.ref (am 0), .int p1] : List Value).toArray s 0 0 (AM am s.heap.size)) (F0 m 35 ls [.int t0]) := by
    intro t0 fi ar H locs ls hF hl hP hS
    unfold M_write_35 at hF
    exact rM_i hx hb hr hlocks hF hP hS dX11_write_35
  replace hl := lv_sub hl [0, 1] rfl
  refine lv_aload_n hx hb dX11_write_0 rfl (lv_at hl 0 rfl) ?_
  refine mg_4 hx hb hT hown hK hP mw8_6 dX11_write_1 ?_
  obtain ⟨x2_1, ex2_1⟩ : ∃ y : Int32, y = (fi 4) := ⟨_, rfl⟩
  rw [← ex2_1]
  replace hF := bnd_of hF ex2_1
  refine lv_istore_n (lv' := [(2, .int (x2_1)), (0, .ref (am 0)), (1, .int (p1))]) hx hb dX11_write_4 rfl hl (by decide) rfl (fun ls hl => ?_)
  refine lv_aload_n hx hb dX11_write_5 rfl (lv_at hl 1 rfl) ?_
  refine lv_iconst (v := (0 : Int32)) hx hb dX11_write_6 (by decide) ?_
  obtain ⟨fi2, efi2⟩ : ∃ y : FI, y = va_up fi 4 (0 : Int32) := ⟨_, rfl⟩
  replace hF := bnd_of hF efi2
  refine mp_4 hx hb hT hown hK hP hD hS mw8_6 dX11_write_7 (fun H locs hP hS => ?_)
  rw [← efi2] at hP
  refine lv_aload_n hx hb dX11_write_10 rfl (lv_at hl 1 rfl) ?_
  refine lv_iload_n hx hb dX11_write_11 rfl (lv_at hl 2 rfl) ?_
  refine lv_iconst (v := (0 : Int32)) hx hb dX11_write_12 (by decide) ?_
  replace hF := obnd3_of hF
  obtain ⟨r6, fi4, ar5, h3, hF⟩ := hF
  refine cM_i (As := [.int (p1), .int (0 : Int32)]) (rest := []) hx hb hml hT hown hK hE hD hA hP hS (k_noFile l g am _ nf fi2 ar (p1) (0 : Int32) r6 fi4 ar5 h3) cw_X11_noFile mw52_22 ⟨⟨rfl, rfl⟩, Nat.le_of_ble_eq_true rfl, Nat.le_of_ble_eq_true rfl⟩ rfl hl.1 rfl (Nat.le_of_ble_eq_true rfl) dX11_write_13 ⟨Nat.zero_le _, Nat.zero_le _⟩ (fun H locs hP hS => ?_)
  refine lv_if_eq (tgt := 23) hx hb dX11_write_16 (by decide) (fun hc7 => ?_) (fun hc7 => ?_)
  · replace hF := br_yes hF hc7
    refine lv_aload_n hx hb dX11_write_23 rfl (lv_at hl 1 rfl) ?_
    refine lv_aload_n hx hb dX11_write_24 rfl (lv_at hl 1 rfl) ?_
    refine lv_iload_n hx hb dX11_write_25 rfl (lv_at hl 2 rfl) ?_
    replace hF := obnd3_of hF
    obtain ⟨r11, fi9, ar10, h8, hF⟩ := hF
    refine cM_i (As := [.int (p1)]) (rest := [.ref (am 0)]) hx hb hml hT hown hK hE hD hA hP hS (k_item l g am _ nf fi4 ar5 (p1) r11 fi9 ar10 h8) cw_X11_item mw40_7 ⟨⟨rfl, rfl⟩, Nat.le_of_ble_eq_true rfl, Nat.le_of_ble_eq_true rfl⟩ rfl hl.1 rfl (Nat.le_of_ble_eq_true rfl) dX11_write_26 ⟨Nat.zero_le _, Nat.zero_le _⟩ (fun H locs hP hS => ?_)
    refine lv_iload_n hx hb dX11_write_29 rfl (lv_at hl 0 rfl) ?_
    refine lv_iconst (v := (1 : Int32)) hx hb dX11_write_30 (by decide) ?_
    refine lv_iconst (v := (0 : Int32)) hx hb dX11_write_31 (by decide) ?_
    replace hF := obnd3_of hF
    obtain ⟨r15, fi13, ar14, h12, hF⟩ := hF
    refine cM_i (As := [.int (r11), .int (x2_1), .int (1 : Int32), .int (0 : Int32)]) (rest := []) hx hb hml hT hown hK hE hD hA hP hS (k_append l g am _ nf fi9 ar10 (r11) (x2_1) (1 : Int32) (0 : Int32) r15 fi13 ar14 h12) cw_X11_append mw53_2 ⟨⟨rfl, rfl⟩, Nat.le_of_ble_eq_true rfl, Nat.le_of_ble_eq_true rfl⟩ rfl hl.1 rfl (Nat.le_of_ble_eq_true rfl) dX11_write_32 ⟨Nat.zero_le _, Nat.zero_le _⟩ (fun H locs hP hS => ?_)
    exact J35 (r15) _ _ _ _ _ hF (lv_sub hl [1] rfl) hP hS
  · replace hF := br_no hF hc7
    refine lv_iconst (v := (0 : Int32)) hx hb dX11_write_19 (by decide) ?_
    refine lv_goto (tgt := 35) hx hb dX11_write_20 (by decide) ?_
    exact J35 (0 : Int32) _ _ _ _ _ hF (lv_sub hl [1] rfl) hP hS
theorem cw_X11_write : (Cond.instanceMethod yX11_write ∈ TB ∧ Cond.selects RX11 yX11_write yX11_write ∈ TB ∧ Cond.code yX11_write cX11_write 3 (some .int) ∈ TB) ∧ (yX11_write.cls = RX11 ∧ yX11_write.cls ≠ "java/lang/invoke/MethodHandle" ∧ yX11_write.cls ≠ "java/lang/invoke/VarHandle" ∧ (parseMethodDescriptor yX11_write.desc).map (fun d => d.parameters.length) = some 1) := ⟨⟨mw52_19, mw52_20, mw52_21⟩, by decide +kernel⟩
/-! X11_grow -/
noncomputable def M_grow_40 (nf : Nat) (t0 : Int32) (fi : FI) (ar : AR) : Option (Int32 × FI × AR) :=
  some ((t0), fi, ar)
noncomputable def M_grow_18 (nf : Nat) (x1 : Int32) (x2 : Int32) (x3 : Int32) (t1 : Int32) (t2 : Int32) (fi : FI) (ar : AR) : Option (Int32 × FI × AR) :=
  obnd3 (M_noFile nf fi ar (t1) (t2)) fun r4 fi2 ar3 => br ((r4) = 0) (obnd3 (M_item nf fi2 ar3 (x1)) fun r9 fi7 ar8 => obnd3 (M_append nf fi7 ar8 (r9) (x2) (0 : Int32) (x3)) fun r13 fi11 ar12 => M_grow_40 nf  (r13) fi11 ar12) (M_grow_40 nf  (0 : Int32) fi2 ar3)
noncomputable def M_grow_13 (nf : Nat) (x1 : Int32) (x2 : Int32) (x3 : Int32) (t1 : Int32) (fi : FI) (ar : AR) : Option (Int32 × FI × AR) :=
  M_grow_18 nf  (x1) (x2) (x3) (t1) (1 : Int32) fi ar
noncomputable def M_grow (nf : Nat) (fi : FI) (ar : AR) (x1 : Int32) (x2 : Int32) (x3 : Int32) : Option (Int32 × FI × AR) :=
  br ((x2) < 0) (M_grow_13 nf  (x1) (x2) (x3) (x1) fi ar) (br ((x2) ≤ (400000 : Int32)) (M_grow_18 nf  (x1) (x2) (x3) (x1) (0 : Int32) fi ar) (M_grow_13 nf  (x1) (x2) (x3) (x1) fi ar))
set_option maxHeartbeats 4000000 in
set_option maxRecDepth 100000 in
theorem k_grow (l : Launch) (g : GT) (am : Nat → Nat) (sz : Nat) (nf : Nat) (fi : FI) (ar : AR) (p1 : Int32) (p2 : Int32) (p3 : Int32) (r : Int32) (fi' : FI) (ar' : AR) (hF : M_grow nf fi ar p1 p2 p3 = some (r, fi', ar')) : Met l yX11_grow (wx yX11_grow cX11_grow 4 (some .int)) ({ frames := 11, cells := 0, slots := 0, locals := 251 } : Room) (va_Pc [.ref (am 0), .int p1, .int p2, .int p3] (PM g am sz fi ar)) (QMi g am sz r fi' ar') 0 0 (AM am sz) := by
  refine Met.ofW (cc := cX11_grow) (maxL := 4) (ret := (some .int)) (by decide) rfl ?_
  intro p e s m args below meth c s₁ B hml hv
  obtain ⟨rfl, hsz, hP, hK, hD0, hE⟩ := hv
  have hx := B.exec
  have hb := B.bytes
  have hr := B.returns
  have hts := atoms_spec (ws := (wx yX11_grow cX11_grow 4 (some .int))) B.pre
  have hT : ∀ w ∈ TB, w.before _ s = true := fun w h => hts w (List.mem_cons_of_mem _ h)
  have hown : s.vm.findClass RX11 = some m.cls := findClass_of_methodNamed B.named
  have hlocks := B.notSynchronized
  subst hsz
  have hD := dM hD0 s.heap.size
  have hA : ∀ q : Nat, s.heap.size ≤ q → AM am s.heap.size q := fun q h => Or.inr h
  have hS : va_S (AM am s.heap.size) s.heap s.heap [] := va_S.rf
  have hl := lv_entry ([.ref (am 0), .int p1, .int p2, .int p3]) (n := 4) (Nat.le_of_ble_eq_true rfl)
  rw [lg_entry_eq]
  generalize (lg_sl ([.ref (am 0), .int p1, .int p2, .int p3]) ++ List.replicate (4 - (lg_sl ([.ref (am 0), .int p1, .int p2, .int p3])).length) Slot.unset).toArray = ls at hl ⊢
  have hl : lv_has ls 4 [(0, .ref (am 0)), (1, .int p1), (2, .int p2), (3, .int p3)] := hl
  unfold M_grow at hF
  have J40 : ∀ (t0 : Int32) (fi : FI) (ar : AR) (H : Heap) (locs : List Loc) (ls : Array Slot), M_grow_40 nf t0 fi ar = some (r, fi', ar') → lv_has ls 4 [(0, .ref (am 0))] → va_P (gD g) vwCl (WM g am fi ar) H → va_S (AM am s.heap.size) s.heap H locs → W p l e (headSpec (wx yX11_grow cX11_grow 4 (some .int)) ({ frames := 11, cells := 0, slots := 0, locals := 251 } : Room)).room s m ([.ref (am 0), .int p1, .int p2, .int p3] : List Value).toArray below meth c H locs 0 0 (MQ below (QMi g am s.heap.size r fi' ar') ([.ref (am 0), .int p1, .int p2, .int p3] : List Value).toArray s 0 0 (AM am s.heap.size)) (F0 m 40 ls [.int t0]) := by
    intro t0 fi ar H locs ls hF hl hP hS
    unfold M_grow_40 at hF
    exact rM_i hx hb hr hlocks hF hP hS dX11_grow_40
  have J18 : ∀ (x1 : Int32) (x2 : Int32) (x3 : Int32) (t1 : Int32) (t2 : Int32) (fi : FI) (ar : AR) (H : Heap) (locs : List Loc) (ls : Array Slot), M_grow_18 nf x1 x2 x3 t1 t2 fi ar = some (r, fi', ar') → lv_has ls 4 [(0, .ref (am 0)), (1, .int x1), (2, .int x2), (3, .int x3)] → va_P (gD g) vwCl (WM g am fi ar) H → va_S (AM am s.heap.size) s.heap H locs → W p l e (headSpec (wx yX11_grow cX11_grow 4 (some .int)) ({ frames := 11, cells := 0, slots := 0, locals := 251 } : Room)).room s m ([.ref (am 0), .int p1, .int p2, .int p3] : List Value).toArray below meth c H locs 0 0 (MQ below (QMi g am s.heap.size r fi' ar') ([.ref (am 0), .int p1, .int p2, .int p3] : List Value).toArray s 0 0 (AM am s.heap.size)) (F0 m 18 ls [.int t2, .int t1, .ref (am 0)]) := by
    intro x1 x2 x3 t1 t2 fi ar H locs ls hF hl hP hS
    unfold M_grow_18 at hF
    replace hF := obnd3_of hF
    obtain ⟨r4, fi2, ar3, h1, hF⟩ := hF
    refine cM_i (As := [.int (t1), .int (t2)]) (rest := []) hx hb hml hT hown hK hE hD hA hP hS (k_noFile l g am _ nf fi ar (t1) (t2) r4 fi2 ar3 h1) cw_X11_noFile mw52_22 ⟨⟨rfl, rfl⟩, Nat.le_of_ble_eq_true rfl, Nat.le_of_ble_eq_true rfl⟩ rfl hl.1 rfl (Nat.le_of_ble_eq_true rfl) dX11_grow_18 ⟨Nat.zero_le _, Nat.zero_le _⟩ (fun H locs hP hS => ?_)
    refine lv_if_eq (tgt := 28) hx hb dX11_grow_21 (by decide) (fun hc5 => ?_) (fun hc5 => ?_)
    · replace hF := br_yes hF hc5
      refine lv_aload_n hx hb dX11_grow_28 rfl (lv_at hl 0 rfl) ?_
      refine lv_aload_n hx hb dX11_grow_29 rfl (lv_at hl 0 rfl) ?_
      refine lv_iload_n hx hb dX11_grow_30 rfl (lv_at hl 1 rfl) ?_
      replace hF := obnd3_of hF
      obtain ⟨r9, fi7, ar8, h6, hF⟩ := hF
      refine cM_i (As := [.int (x1)]) (rest := [.ref (am 0)]) hx hb hml hT hown hK hE hD hA hP hS (k_item l g am _ nf fi2 ar3 (x1) r9 fi7 ar8 h6) cw_X11_item mw40_7 ⟨⟨rfl, rfl⟩, Nat.le_of_ble_eq_true rfl, Nat.le_of_ble_eq_true rfl⟩ rfl hl.1 rfl (Nat.le_of_ble_eq_true rfl) dX11_grow_31 ⟨Nat.zero_le _, Nat.zero_le _⟩ (fun H locs hP hS => ?_)
      refine lv_iload_n hx hb dX11_grow_34 rfl (lv_at hl 2 rfl) ?_
      refine lv_iconst (v := (0 : Int32)) hx hb dX11_grow_35 (by decide) ?_
      refine lv_iload_n hx hb dX11_grow_36 rfl (lv_at hl 3 rfl) ?_
      replace hF := obnd3_of hF
      obtain ⟨r13, fi11, ar12, h10, hF⟩ := hF
      refine cM_i (As := [.int (r9), .int (x2), .int (0 : Int32), .int (x3)]) (rest := []) hx hb hml hT hown hK hE hD hA hP hS (k_append l g am _ nf fi7 ar8 (r9) (x2) (0 : Int32) (x3) r13 fi11 ar12 h10) cw_X11_append mw53_2 ⟨⟨rfl, rfl⟩, Nat.le_of_ble_eq_true rfl, Nat.le_of_ble_eq_true rfl⟩ rfl hl.1 rfl (Nat.le_of_ble_eq_true rfl) dX11_grow_37 ⟨Nat.zero_le _, Nat.zero_le _⟩ (fun H locs hP hS => ?_)
      exact J40 (r13) _ _ _ _ _ hF (lv_sub hl [0] rfl) hP hS
    · replace hF := br_no hF hc5
      refine lv_iconst (v := (0 : Int32)) hx hb dX11_grow_24 (by decide) ?_
      refine lv_goto (tgt := 40) hx hb dX11_grow_25 (by decide) ?_
      exact J40 (0 : Int32) _ _ _ _ _ hF (lv_sub hl [0] rfl) hP hS
  have J13 : ∀ (x1 : Int32) (x2 : Int32) (x3 : Int32) (t1 : Int32) (fi : FI) (ar : AR) (H : Heap) (locs : List Loc) (ls : Array Slot), M_grow_13 nf x1 x2 x3 t1 fi ar = some (r, fi', ar') → lv_has ls 4 [(0, .ref (am 0)), (1, .int x1), (2, .int x2), (3, .int x3)] → va_P (gD g) vwCl (WM g am fi ar) H → va_S (AM am s.heap.size) s.heap H locs → W p l e (headSpec (wx yX11_grow cX11_grow 4 (some .int)) ({ frames := 11, cells := 0, slots := 0, locals := 251 } : Room)).room s m ([.ref (am 0), .int p1, .int p2, .int p3] : List Value).toArray below meth c H locs 0 0 (MQ below (QMi g am s.heap.size r fi' ar') ([.ref (am 0), .int p1, .int p2, .int p3] : List Value).toArray s 0 0 (AM am s.heap.size)) (F0 m 13 ls [.int t1, .ref (am 0)]) := by
    intro x1 x2 x3 t1 fi ar H locs ls hF hl hP hS
    unfold M_grow_13 at hF
    refine lv_iconst (v := (1 : Int32)) hx hb dX11_grow_13 (by decide) ?_
    refine lv_goto (tgt := 18) hx hb dX11_grow_14 (by decide) ?_
    exact J18 (x1) (x2) (x3) (t1) (1 : Int32) _ _ _ _ _ hF (lv_sub hl [0, 1, 2, 3] rfl) hP hS
  replace hl := lv_sub hl [0, 1, 2, 3] rfl
  refine lv_aload_n hx hb dX11_grow_0 rfl (lv_at hl 0 rfl) ?_
  refine lv_iload_n hx hb dX11_grow_1 rfl (lv_at hl 1 rfl) ?_
  refine lv_iload_n hx hb dX11_grow_2 rfl (lv_at hl 2 rfl) ?_
  refine lv_if_lt (tgt := 13) hx hb dX11_grow_3 (by decide) (fun hc14 => ?_) (fun hc14 => ?_)
  · replace hF := br_yes hF hc14
    exact J13 (p1) (p2) (p3) (p1) _ _ _ _ _ hF (lv_sub hl [0, 1, 2, 3] rfl) hP hS
  · replace hF := br_no hF hc14
    refine lv_iload_n hx hb dX11_grow_6 rfl (lv_at hl 2 rfl) ?_
    refine lv_ldcw (v := (400000 : Int32)) hx hb hown (hT _ mw53_18) dX11_grow_7 ?_
    refine lv_icmp_le (tgt := 17) hx hb dX11_grow_10 (by decide) (fun hc15 => ?_) (fun hc15 => ?_)
    · replace hF := br_yes hF hc15
      refine lv_iconst (v := (0 : Int32)) hx hb dX11_grow_17 (by decide) ?_
      exact J18 (p1) (p2) (p3) (p1) (0 : Int32) _ _ _ _ _ hF (lv_sub hl [0, 1, 2, 3] rfl) hP hS
    · replace hF := br_no hF hc15
      exact J13 (p1) (p2) (p3) (p1) _ _ _ _ _ hF (lv_sub hl [0, 1, 2, 3] rfl) hP hS
theorem cw_X11_grow : (Cond.instanceMethod yX11_grow ∈ TB ∧ Cond.selects RX11 yX11_grow yX11_grow ∈ TB ∧ Cond.code yX11_grow cX11_grow 4 (some .int) ∈ TB) ∧ (yX11_grow.cls = RX11 ∧ yX11_grow.cls ≠ "java/lang/invoke/MethodHandle" ∧ yX11_grow.cls ≠ "java/lang/invoke/VarHandle" ∧ (parseMethodDescriptor yX11_grow.desc).map (fun d => d.parameters.length) = some 3) := ⟨⟨mw53_15, mw53_16, mw53_17⟩, by decide +kernel⟩
/-! X11_cut -/
noncomputable def M_cut_170 (nf : Nat) (x2 : Int32) (x3 : Int32) (x4 : Int32) (fi : FI) (ar : AR) : Option (Int32 × FI × AR) :=
  obnd3 (M_set nf fi ar ((x3) + (28 : Int32)) (4 : Int32) ((x2).toInt64)) fun r4 fi2 ar3 => obnd3 (M_changed nf fi2 ar3) fun r8 fi6 ar7 => some (((fi6 31) - (x4)), fi6, ar7)
noncomputable def M_cut_91b (K91 : Int32 → Int32 → Int32 → Int32 → FI → AR → Option (Int32 × FI × AR)) (nf : Nat) (x2 : Int32) (x3 : Int32) (x4 : Int32) (x5 : Int32) (fi : FI) (ar : AR) : Option (Int32 × FI × AR) :=
  br ((fi 31) ≤ (x5)) (br ((x4) ≤ 0) (obnd3 (M_set nf fi ar ((x3) + (20 : Int32)) (2 : Int32) (0 : Int64)) fun r14 fi12 ar13 => obnd3 (M_set nf fi12 ar13 ((x3) + (26 : Int32)) (2 : Int32) (0 : Int64)) fun r18 fi16 ar17 => M_cut_170 nf  (x2) (x3) (x4) fi16 ar17) (br ((fi 31) ≤ (x4)) (M_cut_170 nf  (x2) (x3) (x4) fi ar) (gd (¬ (((x4) - (1 : Int32)) < 0 ∨ 560 ≤ ((x4) - (1 : Int32)).toNatClampNeg)) (obnd3 (M_setEntry nf fi ar (ar 29 ((x4) - (1 : Int32)).toNatClampNeg) (268435455 : Int32)) fun r24 fi22 ar23 => M_cut_170 nf  (x2) (x3) (x4) fi22 ar23)))) (gd (¬ ((x5) < 0 ∨ 560 ≤ (x5).toNatClampNeg)) (obnd3 (M_setEntry nf fi ar (ar 29 (x5).toNatClampNeg) (0 : Int32)) fun r29 fi27 ar28 => bnd ((x5) + (1 : Int32)) fun x5_30 => K91 (x2) (x3) (x4) (x5_30) fi27 ar28))
noncomputable def M_cut_91 (nf : Nat) (kf : Nat) : Int32 → Int32 → Int32 → Int32 → FI → AR → Option (Int32 × FI × AR) := Nat.rec (fun _ _ _ _ _ _ => none) (fun _ K91 => M_cut_91b K91 nf) kf
noncomputable def M_cut_51 (nf : Nat)  (fi : FI) (ar : AR) : Option (Int32 × FI × AR) :=
  some ((0 : Int32), fi, ar)
noncomputable def M_cut_44 (nf : Nat) (x1 : Int32) (x2 : Int32) (t1 : Int32) (fi : FI) (ar : AR) : Option (Int32 × FI × AR) :=
  obnd3 (M_fails nf fi ar (t1) (3 : Int32)) fun r34 fi32 ar33 => br ((r34) = 0) (obnd3 (M_item nf fi32 ar33 (x1)) fun r39 fi37 ar38 => gd (¬ ((r39) < 0 ∨ 16400 ≤ (r39).toNatClampNeg)) (bnd (ar38 20 (r39).toNatClampNeg) fun x3_41 => obnd (M_whole nf (x2) ((512 : Int32) * (fi37 7))) fun r43 => obnd3 (M_firstOf nf fi37 ar38 (x3_41)) fun r47 fi45 ar46 => obnd3 (M_walk nf fi45 ar46 (r47)) fun r51 fi49 ar50 => M_cut_91 nf nf (x2) (x3_41) (r43) (r43) fi49 ar50)) (M_cut_51 nf  fi32 ar33)
noncomputable def M_cut_11 (nf : Nat) (x1 : Int32) (x2 : Int32) (t1 : Int32) (t2 : Int32) (fi : FI) (ar : AR) : Option (Int32 × FI × AR) :=
  obnd3 (M_noFile nf fi ar (t1) (t2)) fun r55 fi53 ar54 => br ((r55) = 0) (obnd3 (M_item nf fi53 ar54 (x1)) fun r60 fi58 ar59 => gd (¬ ((r60) < 0 ∨ 16400 ≤ (r60).toNatClampNeg)) (obnd3 (M_four nf fi58 ar59 ((ar59 20 (r60).toNatClampNeg) + (28 : Int32))) fun r65 fi63 ar64 => br ((x2) ≤ (r65)) (M_cut_44 nf  (x1) (x2) (0 : Int32) fi63 ar64) (M_cut_44 nf  (x1) (x2) (1 : Int32) fi63 ar64))) (M_cut_51 nf  fi53 ar54)
noncomputable def M_cut (nf : Nat) (fi : FI) (ar : AR) (x1 : Int32) (x2 : Int32) : Option (Int32 × FI × AR) :=
  br (0 ≤ (x2)) (M_cut_11 nf  (x1) (x2) (x1) (0 : Int32) fi ar) (M_cut_11 nf  (x1) (x2) (x1) (1 : Int32) fi ar)
set_option maxHeartbeats 4000000 in
set_option maxRecDepth 100000 in
theorem k_cut (l : Launch) (g : GT) (am : Nat → Nat) (sz : Nat) (nf : Nat) (fi : FI) (ar : AR) (p1 : Int32) (p2 : Int32) (r : Int32) (fi' : FI) (ar' : AR) (hF : M_cut nf fi ar p1 p2 = some (r, fi', ar')) : Met l yX11_cut (wx yX11_cut cX11_cut 6 (some .int)) ({ frames := 11, cells := 0, slots := 0, locals := 251 } : Room) (va_Pc [.ref (am 0), .int p1, .int p2] (PM g am sz fi ar)) (QMi g am sz r fi' ar') 0 0 (AM am sz) := by
  refine Met.ofW (cc := cX11_cut) (maxL := 6) (ret := (some .int)) (by decide) rfl ?_
  intro p e s m args below meth c s₁ B hml hv
  obtain ⟨rfl, hsz, hP, hK, hD0, hE⟩ := hv
  have hx := B.exec
  have hb := B.bytes
  have hr := B.returns
  have hts := atoms_spec (ws := (wx yX11_cut cX11_cut 6 (some .int))) B.pre
  have hT : ∀ w ∈ TB, w.before _ s = true := fun w h => hts w (List.mem_cons_of_mem _ h)
  have hown : s.vm.findClass RX11 = some m.cls := findClass_of_methodNamed B.named
  have hlocks := B.notSynchronized
  subst hsz
  have hD := dM hD0 s.heap.size
  have hA : ∀ q : Nat, s.heap.size ≤ q → AM am s.heap.size q := fun q h => Or.inr h
  have hS : va_S (AM am s.heap.size) s.heap s.heap [] := va_S.rf
  have hl := lv_entry ([.ref (am 0), .int p1, .int p2]) (n := 6) (Nat.le_of_ble_eq_true rfl)
  rw [lg_entry_eq]
  generalize (lg_sl ([.ref (am 0), .int p1, .int p2]) ++ List.replicate (6 - (lg_sl ([.ref (am 0), .int p1, .int p2])).length) Slot.unset).toArray = ls at hl ⊢
  have hl : lv_has ls 6 [(0, .ref (am 0)), (1, .int p1), (2, .int p2)] := hl
  unfold M_cut at hF
  have J170 : ∀ (x2 : Int32) (x3 : Int32) (x4 : Int32) (fi : FI) (ar : AR) (H : Heap) (locs : List Loc) (ls : Array Slot), M_cut_170 nf x2 x3 x4 fi ar = some (r, fi', ar') → lv_has ls 6 [(0, .ref (am 0)), (2, .int x2), (3, .int x3), (4, .int x4)] → va_P (gD g) vwCl (WM g am fi ar) H → va_S (AM am s.heap.size) s.heap H locs → W p l e (headSpec (wx yX11_cut cX11_cut 6 (some .int)) ({ frames := 11, cells := 0, slots := 0, locals := 251 } : Room)).room s m ([.ref (am 0), .int p1, .int p2] : List Value).toArray below meth c H locs 0 0 (MQ below (QMi g am s.heap.size r fi' ar') ([.ref (am 0), .int p1, .int p2] : List Value).toArray s 0 0 (AM am s.heap.size)) (F0 m 170 ls []) := by
    intro x2 x3 x4 fi ar H locs ls hF hl hP hS
    unfold M_cut_170 at hF
    refine lv_aload_n hx hb dX11_cut_170 rfl (lv_at hl 0 rfl) ?_
    refine lv_iload_n hx hb dX11_cut_171 rfl (lv_at hl 2 rfl) ?_
    refine lv_bipush (v := (28 : Int32)) hx hb dX11_cut_172 (by decide) ?_
    refine lv_iadd hx hb dX11_cut_174 ?_
    refine lv_iconst (v := (4 : Int32)) hx hb dX11_cut_175 (by decide) ?_
    refine lv_iload_n hx hb dX11_cut_176 rfl (lv_at hl 1 rfl) ?_
    refine lv_i2l hx hb dX11_cut_177 rfl ?_
    replace hF := obnd3_of hF
    obtain ⟨r4, fi2, ar3, h1, hF⟩ := hF
    refine cM_v (As := [.int ((x3) + (28 : Int32)), .int (4 : Int32), .long ((x2).toInt64)]) (rest := []) hx hb hml hT hown hK hE hD hA hP hS (k_set l g am _ nf fi ar ((x3) + (28 : Int32)) (4 : Int32) ((x2).toInt64) r4 fi2 ar3 h1) cw_X11_set mw18_18 ⟨⟨rfl, rfl⟩, Nat.le_of_ble_eq_true rfl, Nat.le_of_ble_eq_true rfl⟩ rfl hl.1 rfl (Nat.le_of_ble_eq_true rfl) dX11_cut_178 ⟨Nat.zero_le _, Nat.zero_le _⟩ (fun H locs hP hS => ?_)
    refine lv_aload_n hx hb dX11_cut_181 rfl (lv_at hl 0 rfl) ?_
    replace hF := obnd3_of hF
    obtain ⟨r8, fi6, ar7, h5, hF⟩ := hF
    refine cM_v (As := []) (rest := []) hx hb hml hT hown hK hE hD hA hP hS (k_changed l g am _ nf fi2 ar3 r8 fi6 ar7 h5) cw_X11_changed mw20_14 ⟨⟨rfl, rfl⟩, Nat.le_of_ble_eq_true rfl, Nat.le_of_ble_eq_true rfl⟩ rfl hl.1 rfl (Nat.le_of_ble_eq_true rfl) dX11_cut_182 ⟨Nat.zero_le _, Nat.zero_le _⟩ (fun H locs hP hS => ?_)
    refine lv_aload_n hx hb dX11_cut_185 rfl (lv_at hl 0 rfl) ?_
    refine mg_31 hx hb hT hown hK hP mw32_5 dX11_cut_186 ?_
    refine lv_iload hx hb dX11_cut_189 (lv_at hl 3 rfl) ?_
    refine lv_isub hx hb dX11_cut_191 ?_
    exact rM_i hx hb hr hlocks hF hP hS dX11_cut_192
  have L91 : ∀ kf : Nat, ∀ (x2 : Int32) (x3 : Int32) (x4 : Int32) (x5 : Int32) (fi : FI) (ar : AR) (H : Heap) (locs : List Loc) (ls : Array Slot), M_cut_91 nf kf x2 x3 x4 x5 fi ar = some (r, fi', ar') → lv_has ls 6 [(0, .ref (am 0)), (2, .int x2), (3, .int x3), (4, .int x4), (5, .int x5)] → va_P (gD g) vwCl (WM g am fi ar) H → va_S (AM am s.heap.size) s.heap H locs → W p l e (headSpec (wx yX11_cut cX11_cut 6 (some .int)) ({ frames := 11, cells := 0, slots := 0, locals := 251 } : Room)).room s m ([.ref (am 0), .int p1, .int p2] : List Value).toArray below meth c H locs 0 0 (MQ below (QMi g am s.heap.size r fi' ar') ([.ref (am 0), .int p1, .int p2] : List Value).toArray s 0 0 (AM am s.heap.size)) (F0 m 91 ls []) := by
    intro kf
    induction kf with
    | zero => intro x2 x3 x4 x5 fi ar H locs ls hF hl hP hS; cases (show (none : Option (Int32 × FI × AR)) = _ from hF)
    | succ kf ih91 =>
      intro x2 x3 x4 x5 fi ar H locs ls hF hl hP hS
      obtain ⟨K91, hK91⟩ : ∃ K : Int32 → Int32 → Int32 → Int32 → FI → AR → Option (Int32 × FI × AR), K = M_cut_91 nf kf := ⟨_, rfl⟩
      replace hF : M_cut_91b K91 nf x2 x3 x4 x5 fi ar = some (r, fi', ar') := by rw [hK91]; exact hF
      rw [← hK91] at ih91
      clear hK91
      unfold M_cut_91b at hF
      refine lv_iload hx hb dX11_cut_91 (lv_at hl 4 rfl) ?_
      refine lv_aload_n hx hb dX11_cut_93 rfl (lv_at hl 0 rfl) ?_
      refine mg_31 hx hb hT hown hK hP mw32_5 dX11_cut_94 ?_
      refine lv_icmp_ge (tgt := 118) hx hb dX11_cut_97 (by decide) (fun hc9 => ?_) (fun hc9 => ?_)
      · replace hF := br_yes hF hc9
        refine lv_iload hx hb dX11_cut_118 (lv_at hl 3 rfl) ?_
        refine lv_if_le (tgt := 150) hx hb dX11_cut_120 (by decide) (fun hc10 => ?_) (fun hc10 => ?_)
        · replace hF := br_yes hF hc10
          refine lv_aload_n hx hb dX11_cut_150 rfl (lv_at hl 0 rfl) ?_
          refine lv_iload_n hx hb dX11_cut_151 rfl (lv_at hl 2 rfl) ?_
          refine lv_bipush (v := (20 : Int32)) hx hb dX11_cut_152 (by decide) ?_
          refine lv_iadd hx hb dX11_cut_154 ?_
          refine lv_iconst (v := (2 : Int32)) hx hb dX11_cut_155 (by decide) ?_
          refine lv_lconst (v := (0 : Int64)) hx hb dX11_cut_156 (by decide) ?_
          replace hF := obnd3_of hF
          obtain ⟨r14, fi12, ar13, h11, hF⟩ := hF
          refine cM_v (As := [.int ((x3) + (20 : Int32)), .int (2 : Int32), .long (0 : Int64)]) (rest := []) hx hb hml hT hown hK hE hD hA hP hS (k_set l g am _ nf fi ar ((x3) + (20 : Int32)) (2 : Int32) (0 : Int64) r14 fi12 ar13 h11) cw_X11_set mw18_18 ⟨⟨rfl, rfl⟩, Nat.le_of_ble_eq_true rfl, Nat.le_of_ble_eq_true rfl⟩ rfl hl.1 rfl (Nat.le_of_ble_eq_true rfl) dX11_cut_157 ⟨Nat.zero_le _, Nat.zero_le _⟩ (fun H locs hP hS => ?_)
          refine lv_aload_n hx hb dX11_cut_160 rfl (lv_at hl 0 rfl) ?_
          refine lv_iload_n hx hb dX11_cut_161 rfl (lv_at hl 2 rfl) ?_
          refine lv_bipush (v := (26 : Int32)) hx hb dX11_cut_162 (by decide) ?_
          refine lv_iadd hx hb dX11_cut_164 ?_
          refine lv_iconst (v := (2 : Int32)) hx hb dX11_cut_165 (by decide) ?_
          refine lv_lconst (v := (0 : Int64)) hx hb dX11_cut_166 (by decide) ?_
          replace hF := obnd3_of hF
          obtain ⟨r18, fi16, ar17, h15, hF⟩ := hF
          refine cM_v (As := [.int ((x3) + (26 : Int32)), .int (2 : Int32), .long (0 : Int64)]) (rest := []) hx hb hml hT hown hK hE hD hA hP hS (k_set l g am _ nf fi12 ar13 ((x3) + (26 : Int32)) (2 : Int32) (0 : Int64) r18 fi16 ar17 h15) cw_X11_set mw18_18 ⟨⟨rfl, rfl⟩, Nat.le_of_ble_eq_true rfl, Nat.le_of_ble_eq_true rfl⟩ rfl hl.1 rfl (Nat.le_of_ble_eq_true rfl) dX11_cut_167 ⟨Nat.zero_le _, Nat.zero_le _⟩ (fun H locs hP hS => ?_)
          exact J170 (x2) (x3) (x4) _ _ _ _ _ hF (lv_sub hl [0, 1, 2, 3] rfl) hP hS
        · replace hF := br_no hF hc10
          refine lv_aload_n hx hb dX11_cut_123 rfl (lv_at hl 0 rfl) ?_
          refine mg_31 hx hb hT hown hK hP mw32_5 dX11_cut_124 ?_
          refine lv_iload hx hb dX11_cut_127 (lv_at hl 3 rfl) ?_
          refine lv_icmp_le (tgt := 170) hx hb dX11_cut_129 (by decide) (fun hc19 => ?_) (fun hc19 => ?_)
          · replace hF := br_yes hF hc19
            exact J170 (x2) (x3) (x4) _ _ _ _ _ hF (lv_sub hl [0, 1, 2, 3] rfl) hP hS
          · replace hF := br_no hF hc19
            refine lv_aload_n hx hb dX11_cut_132 rfl (lv_at hl 0 rfl) ?_
            refine lv_aload_n hx hb dX11_cut_133 rfl (lv_at hl 0 rfl) ?_
            refine mg_29 hx hb hT hown hK hP mw6_16 dX11_cut_134 ?_
            refine lv_iload hx hb dX11_cut_137 (lv_at hl 3 rfl) ?_
            refine lv_iconst (v := (1 : Int32)) hx hb dX11_cut_139 (by decide) ?_
            refine lv_isub hx hb dX11_cut_140 ?_
            replace hF := gd_of hF
            obtain ⟨hi20, hF⟩ := hF
            refine ml_29 hx hb hK hP hi20 dX11_cut_141 ?_
            refine lv_ldc (v := (268435455 : Int32)) hx hb hown (hT _ mw18_1) dX11_cut_142 ?_
            replace hF := obnd3_of hF
            obtain ⟨r24, fi22, ar23, h21, hF⟩ := hF
            refine cM_v (As := [.int (ar 29 ((x4) - (1 : Int32)).toNatClampNeg), .int (268435455 : Int32)]) (rest := []) hx hb hml hT hown hK hE hD hA hP hS (k_setEntry l g am _ nf fi ar (ar 29 ((x4) - (1 : Int32)).toNatClampNeg) (268435455 : Int32) r24 fi22 ar23 h21) cw_X11_setEntry mw20_1 ⟨⟨rfl, rfl⟩, Nat.le_of_ble_eq_true rfl, Nat.le_of_ble_eq_true rfl⟩ rfl hl.1 rfl (Nat.le_of_ble_eq_true rfl) dX11_cut_144 ⟨Nat.zero_le _, Nat.zero_le _⟩ (fun H locs hP hS => ?_)
            refine lv_goto (tgt := 170) hx hb dX11_cut_147 (by decide) ?_
            exact J170 (x2) (x3) (x4) _ _ _ _ _ hF (lv_sub hl [0, 1, 2, 3] rfl) hP hS
      · replace hF := br_no hF hc9
        refine lv_aload_n hx hb dX11_cut_100 rfl (lv_at hl 0 rfl) ?_
        refine lv_aload_n hx hb dX11_cut_101 rfl (lv_at hl 0 rfl) ?_
        refine mg_29 hx hb hT hown hK hP mw6_16 dX11_cut_102 ?_
        refine lv_iload hx hb dX11_cut_105 (lv_at hl 4 rfl) ?_
        replace hF := gd_of hF
        obtain ⟨hi25, hF⟩ := hF
        refine ml_29 hx hb hK hP hi25 dX11_cut_107 ?_
        refine lv_iconst (v := (0 : Int32)) hx hb dX11_cut_108 (by decide) ?_
        replace hF := obnd3_of hF
        obtain ⟨r29, fi27, ar28, h26, hF⟩ := hF
        refine cM_v (As := [.int (ar 29 (x5).toNatClampNeg), .int (0 : Int32)]) (rest := []) hx hb hml hT hown hK hE hD hA hP hS (k_setEntry l g am _ nf fi ar (ar 29 (x5).toNatClampNeg) (0 : Int32) r29 fi27 ar28 h26) cw_X11_setEntry mw20_1 ⟨⟨rfl, rfl⟩, Nat.le_of_ble_eq_true rfl, Nat.le_of_ble_eq_true rfl⟩ rfl hl.1 rfl (Nat.le_of_ble_eq_true rfl) dX11_cut_109 ⟨Nat.zero_le _, Nat.zero_le _⟩ (fun H locs hP hS => ?_)
        obtain ⟨x5_30, ex5_30⟩ : ∃ y : Int32, y = (x5) + (1 : Int32) := ⟨_, rfl⟩
        replace hF := bnd_of hF ex5_30
        refine lv_iinc (v := x5_30) (lv' := [(5, .int (x5_30)), (0, .ref (am 0)), (2, .int (x2)), (3, .int (x3)), (4, .int (x4))]) hx hb dX11_cut_112 hl (k := 4) rfl (by rw [ex5_30]; rfl) (by decide) rfl (fun ls hl => ?_)
        refine lv_goto (tgt := 91) hx hb dX11_cut_115 (by decide) ?_
        exact ih91 (x2) (x3) (x4) (x5_30) _ _ _ _ _ hF (lv_sub hl [1, 2, 3, 4, 0] rfl) hP hS
  have J51 : ∀  (fi : FI) (ar : AR) (H : Heap) (locs : List Loc) (ls : Array Slot), M_cut_51 nf fi ar = some (r, fi', ar') → lv_has ls 6 [(0, .ref (am 0))] → va_P (gD g) vwCl (WM g am fi ar) H → va_S (AM am s.heap.size) s.heap H locs → W p l e (headSpec (wx yX11_cut cX11_cut 6 (some .int)) ({ frames := 11, cells := 0, slots := 0, locals := 251 } : Room)).room s m ([.ref (am 0), .int p1, .int p2] : List Value).toArray below meth c H locs 0 0 (MQ below (QMi g am s.heap.size r fi' ar') ([.ref (am 0), .int p1, .int p2] : List Value).toArray s 0 0 (AM am s.heap.size)) (F0 m 51 ls []) := by
    intro fi ar H locs ls hF hl hP hS
    unfold M_cut_51 at hF
    refine lv_iconst (v := (0 : Int32)) hx hb dX11_cut_51 (by decide) ?_
    exact rM_i hx hb hr hlocks hF hP hS dX11_cut_52
  have J44 : ∀ (x1 : Int32) (x2 : Int32) (t1 : Int32) (fi : FI) (ar : AR) (H : Heap) (locs : List Loc) (ls : Array Slot), M_cut_44 nf x1 x2 t1 fi ar = some (r, fi', ar') → lv_has ls 6 [(0, .ref (am 0)), (1, .int x1), (2, .int x2)] → va_P (gD g) vwCl (WM g am fi ar) H → va_S (AM am s.heap.size) s.heap H locs → W p l e (headSpec (wx yX11_cut cX11_cut 6 (some .int)) ({ frames := 11, cells := 0, slots := 0, locals := 251 } : Room)).room s m ([.ref (am 0), .int p1, .int p2] : List Value).toArray below meth c H locs 0 0 (MQ below (QMi g am s.heap.size r fi' ar') ([.ref (am 0), .int p1, .int p2] : List Value).toArray s 0 0 (AM am s.heap.size)) (F0 m 44 ls [.int t1, .ref (am 0)]) := by
    intro x1 x2 t1 fi ar H locs ls hF hl hP hS
    unfold M_cut_44 at hF
    refine lv_iconst (v := (3 : Int32)) hx hb dX11_cut_44 (by decide) ?_
    replace hF := obnd3_of hF
    obtain ⟨r34, fi32, ar33, h31, hF⟩ := hF
    refine cM_i (As := [.int (t1), .int (3 : Int32)]) (rest := []) hx hb hml hT hown hK hE hD hA hP hS (k_fails l g am _ nf fi ar (t1) (3 : Int32) r34 fi32 ar33 h31) cw_X11_fails mw18_14 ⟨⟨rfl, rfl⟩, Nat.le_of_ble_eq_true rfl, Nat.le_of_ble_eq_true rfl⟩ rfl hl.1 rfl (Nat.le_of_ble_eq_true rfl) dX11_cut_45 ⟨Nat.zero_le _, Nat.zero_le _⟩ (fun H locs hP hS => ?_)
    refine lv_if_eq (tgt := 53) hx hb dX11_cut_48 (by decide) (fun hc35 => ?_) (fun hc35 => ?_)
    · replace hF := br_yes hF hc35
      refine lv_aload_n hx hb dX11_cut_53 rfl (lv_at hl 0 rfl) ?_
      refine mg_20 hx hb hT hown hK hP mw6_5 dX11_cut_54 ?_
      refine lv_aload_n hx hb dX11_cut_57 rfl (lv_at hl 0 rfl) ?_
      refine lv_iload_n hx hb dX11_cut_58 rfl (lv_at hl 1 rfl) ?_
      replace hF := obnd3_of hF
      obtain ⟨r39, fi37, ar38, h36, hF⟩ := hF
      refine cM_i (As := [.int (x1)]) (rest := [.ref (am 20)]) hx hb hml hT hown hK hE hD hA hP hS (k_item l g am _ nf fi32 ar33 (x1) r39 fi37 ar38 h36) cw_X11_item mw40_7 ⟨⟨rfl, rfl⟩, Nat.le_of_ble_eq_true rfl, Nat.le_of_ble_eq_true rfl⟩ rfl hl.1 rfl (Nat.le_of_ble_eq_true rfl) dX11_cut_59 ⟨Nat.zero_le _, Nat.zero_le _⟩ (fun H locs hP hS => ?_)
      replace hF := gd_of hF
      obtain ⟨hi40, hF⟩ := hF
      refine ml_20 hx hb hK hP hi40 dX11_cut_62 ?_
      obtain ⟨x3_41, ex3_41⟩ : ∃ y : Int32, y = (ar38 20 (r39).toNatClampNeg) := ⟨_, rfl⟩
      rw [← ex3_41]
      replace hF := bnd_of hF ex3_41
      refine lv_istore_n (lv' := [(3, .int (x3_41)), (0, .ref (am 0)), (1, .int (x1)), (2, .int (x2))]) hx hb dX11_cut_63 rfl hl (by decide) rfl (fun ls hl => ?_)
      refine lv_iload_n hx hb dX11_cut_64 rfl (lv_at hl 3 rfl) ?_
      refine lv_sipush (v := (512 : Int32)) hx hb dX11_cut_65 (by decide) ?_
      refine lv_aload_n hx hb dX11_cut_68 rfl (lv_at hl 1 rfl) ?_
      refine mg_7 hx hb hT hown hK hP mw19_2 dX11_cut_69 ?_
      refine lv_imul hx hb dX11_cut_72 ?_
      replace hF := obnd_of hF
      obtain ⟨r43, h42, hF⟩ := hF
      refine cS_i (As := [.int (x2), .int ((512 : Int32) * (fi37 7))]) (rest := []) hx hb hml hT hown hE hP hS (k_whole l g nf (x2) ((512 : Int32) * (fi37 7)) r43 h42) cw_X11_whole mw35_0 ⟨⟨rfl, rfl⟩, Nat.le_of_ble_eq_true rfl, Nat.le_of_ble_eq_true rfl⟩ rfl hl.1 rfl (Nat.le_of_ble_eq_true rfl) dX11_cut_73 ⟨Nat.zero_le _, Nat.zero_le _⟩ (fun H locs hP hS => ?_)
      refine lv_istore (lv' := [(4, .int (r43)), (3, .int (x3_41)), (0, .ref (am 0)), (1, .int (x1)), (2, .int (x2))]) hx hb dX11_cut_76 hl (by decide) rfl (fun ls hl => ?_)
      refine lv_aload_n hx hb dX11_cut_78 rfl (lv_at hl 2 rfl) ?_
      refine lv_aload_n hx hb dX11_cut_79 rfl (lv_at hl 2 rfl) ?_
      refine lv_iload_n hx hb dX11_cut_80 rfl (lv_at hl 1 rfl) ?_
      replace hF := obnd3_of hF
      obtain ⟨r47, fi45, ar46, h44, hF⟩ := hF
      refine cM_i (As := [.int (x3_41)]) (rest := [.ref (am 0)]) hx hb hml hT hown hK hE hD hA hP hS (k_firstOf l g am _ nf fi37 ar38 (x3_41) r47 fi45 ar46 h44) cw_X11_firstOf mw32_13 ⟨⟨rfl, rfl⟩, Nat.le_of_ble_eq_true rfl, Nat.le_of_ble_eq_true rfl⟩ rfl hl.1 rfl (Nat.le_of_ble_eq_true rfl) dX11_cut_81 ⟨Nat.zero_le _, Nat.zero_le _⟩ (fun H locs hP hS => ?_)
      replace hF := obnd3_of hF
      obtain ⟨r51, fi49, ar50, h48, hF⟩ := hF
      refine cM_v (As := [.int (r47)]) (rest := []) hx hb hml hT hown hK hE hD hA hP hS (k_walk l g am _ nf fi45 ar46 (r47) r51 fi49 ar50 h48) cw_X11_walk mw43_9 ⟨⟨rfl, rfl⟩, Nat.le_of_ble_eq_true rfl, Nat.le_of_ble_eq_true rfl⟩ rfl hl.1 rfl (Nat.le_of_ble_eq_true rfl) dX11_cut_84 ⟨Nat.zero_le _, Nat.zero_le _⟩ (fun H locs hP hS => ?_)
      refine lv_iload hx hb dX11_cut_87 (lv_at hl 0 rfl) ?_
      refine lv_istore (lv' := [(5, .int (r43)), (4, .int (r43)), (3, .int (x3_41)), (0, .ref (am 0)), (1, .int (x1)), (2, .int (x2))]) hx hb dX11_cut_89 hl (by decide) rfl (fun ls hl => ?_)
      exact L91 nf (x2) (x3_41) (r43) (r43) _ _ _ _ _ hF (lv_sub hl [3, 5, 2, 1, 0] rfl) hP hS
    · replace hF := br_no hF hc35
      exact J51  _ _ _ _ _ hF (lv_sub hl [0] rfl) hP hS
  have J11 : ∀ (x1 : Int32) (x2 : Int32) (t1 : Int32) (t2 : Int32) (fi : FI) (ar : AR) (H : Heap) (locs : List Loc) (ls : Array Slot), M_cut_11 nf x1 x2 t1 t2 fi ar = some (r, fi', ar') → lv_has ls 6 [(0, .ref (am 0)), (1, .int x1), (2, .int x2)] → va_P (gD g) vwCl (WM g am fi ar) H → va_S (AM am s.heap.size) s.heap H locs → W p l e (headSpec (wx yX11_cut cX11_cut 6 (some .int)) ({ frames := 11, cells := 0, slots := 0, locals := 251 } : Room)).room s m ([.ref (am 0), .int p1, .int p2] : List Value).toArray below meth c H locs 0 0 (MQ below (QMi g am s.heap.size r fi' ar') ([.ref (am 0), .int p1, .int p2] : List Value).toArray s 0 0 (AM am s.heap.size)) (F0 m 11 ls [.int t2, .int t1, .ref (am 0)]) := by
    intro x1 x2 t1 t2 fi ar H locs ls hF hl hP hS
    unfold M_cut_11 at hF
    replace hF := obnd3_of hF
    obtain ⟨r55, fi53, ar54, h52, hF⟩ := hF
    refine cM_i (As := [.int (t1), .int (t2)]) (rest := []) hx hb hml hT hown hK hE hD hA hP hS (k_noFile l g am _ nf fi ar (t1) (t2) r55 fi53 ar54 h52) cw_X11_noFile mw52_22 ⟨⟨rfl, rfl⟩, Nat.le_of_ble_eq_true rfl, Nat.le_of_ble_eq_true rfl⟩ rfl hl.1 rfl (Nat.le_of_ble_eq_true rfl) dX11_cut_11 ⟨Nat.zero_le _, Nat.zero_le _⟩ (fun H locs hP hS => ?_)
    refine lv_if_ne (tgt := 51) hx hb dX11_cut_14 (by decide) (fun hc56 => ?_) (fun hc56 => ?_)
    · replace hF := br_no hF hc56
      exact J51  _ _ _ _ _ hF (lv_sub hl [0] rfl) hP hS
    · replace hF := br_yes hF hc56
      refine lv_aload_n hx hb dX11_cut_17 rfl (lv_at hl 0 rfl) ?_
      refine lv_iload_n hx hb dX11_cut_18 rfl (lv_at hl 2 rfl) ?_
      refine lv_aload_n hx hb dX11_cut_19 rfl (lv_at hl 0 rfl) ?_
      refine lv_aload_n hx hb dX11_cut_20 rfl (lv_at hl 0 rfl) ?_
      refine mg_20 hx hb hT hown hK hP mw6_5 dX11_cut_21 ?_
      refine lv_aload_n hx hb dX11_cut_24 rfl (lv_at hl 0 rfl) ?_
      refine lv_iload_n hx hb dX11_cut_25 rfl (lv_at hl 1 rfl) ?_
      replace hF := obnd3_of hF
      obtain ⟨r60, fi58, ar59, h57, hF⟩ := hF
      refine cM_i (As := [.int (x1)]) (rest := [.ref (am 20), .ref (am 0), .int (x2), .ref (am 0)]) hx hb hml hT hown hK hE hD hA hP hS (k_item l g am _ nf fi53 ar54 (x1) r60 fi58 ar59 h57) cw_X11_item mw40_7 ⟨⟨rfl, rfl⟩, Nat.le_of_ble_eq_true rfl, Nat.le_of_ble_eq_true rfl⟩ rfl hl.1 rfl (Nat.le_of_ble_eq_true rfl) dX11_cut_26 ⟨Nat.zero_le _, Nat.zero_le _⟩ (fun H locs hP hS => ?_)
      replace hF := gd_of hF
      obtain ⟨hi61, hF⟩ := hF
      refine ml_20 hx hb hK hP hi61 dX11_cut_29 ?_
      refine lv_bipush (v := (28 : Int32)) hx hb dX11_cut_30 (by decide) ?_
      refine lv_iadd hx hb dX11_cut_32 ?_
      replace hF := obnd3_of hF
      obtain ⟨r65, fi63, ar64, h62, hF⟩ := hF
      refine cM_i (As := [.int ((ar59 20 (r60).toNatClampNeg) + (28 : Int32))]) (rest := [.int (x2), .ref (am 0)]) hx hb hml hT hown hK hE hD hA hP hS (k_four l g am _ nf fi58 ar59 ((ar59 20 (r60).toNatClampNeg) + (28 : Int32)) r65 fi63 ar64 h62) cw_X11_four mw19_17 ⟨⟨rfl, rfl⟩, Nat.le_of_ble_eq_true rfl, Nat.le_of_ble_eq_true rfl⟩ rfl hl.1 rfl (Nat.le_of_ble_eq_true rfl) dX11_cut_33 ⟨Nat.zero_le _, Nat.zero_le _⟩ (fun H locs hP hS => ?_)
      refine lv_icmp_le (tgt := 43) hx hb dX11_cut_36 (by decide) (fun hc66 => ?_) (fun hc66 => ?_)
      · replace hF := br_yes hF hc66
        refine lv_iconst (v := (0 : Int32)) hx hb dX11_cut_43 (by decide) ?_
        exact J44 (x1) (x2) (0 : Int32) _ _ _ _ _ hF (lv_sub hl [0, 1, 2] rfl) hP hS
      · replace hF := br_no hF hc66
        refine lv_iconst (v := (1 : Int32)) hx hb dX11_cut_39 (by decide) ?_
        refine lv_goto (tgt := 44) hx hb dX11_cut_40 (by decide) ?_
        exact J44 (x1) (x2) (1 : Int32) _ _ _ _ _ hF (lv_sub hl [0, 1, 2] rfl) hP hS
  replace hl := lv_sub hl [0, 1, 2] rfl
  refine lv_aload_n hx hb dX11_cut_0 rfl (lv_at hl 0 rfl) ?_
  refine lv_iload_n hx hb dX11_cut_1 rfl (lv_at hl 1 rfl) ?_
  refine lv_iload_n hx hb dX11_cut_2 rfl (lv_at hl 2 rfl) ?_
  refine lv_if_ge (tgt := 10) hx hb dX11_cut_3 (by decide) (fun hc67 => ?_) (fun hc67 => ?_)
  · replace hF := br_yes hF hc67
    refine lv_iconst (v := (0 : Int32)) hx hb dX11_cut_10 (by decide) ?_
    exact J11 (p1) (p2) (p1) (0 : Int32) _ _ _ _ _ hF (lv_sub hl [0, 1, 2] rfl) hP hS
  · replace hF := br_no hF hc67
    refine lv_iconst (v := (1 : Int32)) hx hb dX11_cut_6 (by decide) ?_
    refine lv_goto (tgt := 11) hx hb dX11_cut_7 (by decide) ?_
    exact J11 (p1) (p2) (p1) (1 : Int32) _ _ _ _ _ hF (lv_sub hl [0, 1, 2] rfl) hP hS
theorem cw_X11_cut : (Cond.instanceMethod yX11_cut ∈ TB ∧ Cond.selects RX11 yX11_cut yX11_cut ∈ TB ∧ Cond.code yX11_cut cX11_cut 6 (some .int) ∈ TB) ∧ (yX11_cut.cls = RX11 ∧ yX11_cut.cls ≠ "java/lang/invoke/MethodHandle" ∧ yX11_cut.cls ≠ "java/lang/invoke/VarHandle" ∧ (parseMethodDescriptor yX11_cut.desc).map (fun d => d.parameters.length) = some 2) := ⟨⟨mw54_13, mw54_14, mw54_15⟩, by decide +kernel⟩
