/-! X11_scan -/
noncomputable def M_scan_248 (nf : Nat)  (fi : FI) (ar : AR) : Option (Unit × FI × AR) :=
  some ((), fi, ar)
noncomputable def M_scan_243 (nf : Nat)  (fi : FI) (ar : AR) : Option (Unit × FI × AR) :=
  bnd (va_up fi 16 (4 : Int32)) fun fi1 => M_scan_248 nf  fi1 ar
noncomputable def M_scan_220 (nf : Nat) (x1 : Int32) (x2 : Int32) (fi : FI) (ar : AR) : Option (Unit × FI × AR) :=
  br ((fi 16) = 0) (br (0 < (fi 36)) (M_scan_243 nf  fi ar) (br ((x1) ≤ 0) (M_scan_248 nf  fi ar) (br ((2 : Int32) ≤ (x2)) (M_scan_248 nf  fi ar) (M_scan_243 nf  fi ar)))) (M_scan_248 nf  fi ar)
noncomputable def M_scan_214 (K66 : Int32 → Int32 → FI → AR → Option (Unit × FI × AR)) (nf : Nat) (x1 : Int32) (x2 : Int32) (fi : FI) (ar : AR) : Option (Unit × FI × AR) :=
  bnd ((x2) + (1 : Int32)) fun x2_6 => K66 (x1) (x2_6) fi ar
noncomputable def M_scan_197 (K66 : Int32 → Int32 → FI → AR → Option (Unit × FI × AR)) (nf : Nat) (x1 : Int32) (x2 : Int32) (t1 : Int32) (fi : FI) (ar : AR) : Option (Unit × FI × AR) :=
  bnd (va_up fi 16 (t1)) fun fi7 => M_scan_214 K66 nf  (x1) (x2) fi7 ar
noncomputable def M_scan_161 (K66 : Int32 → Int32 → FI → AR → Option (Unit × FI × AR)) (nf : Nat) (x1 : Int32) (x2 : Int32) (t1 : Int32) (fi : FI) (ar : AR) : Option (Unit × FI × AR) :=
  bnd (va_up fi 16 (t1)) fun fi8 => M_scan_214 K66 nf  (x1) (x2) fi8 ar
noncomputable def M_scan_137 (K66 : Int32 → Int32 → FI → AR → Option (Unit × FI × AR)) (nf : Nat) (x1 : Int32) (x2 : Int32) (x3 : Int32) (fi : FI) (ar : AR) : Option (Unit × FI × AR) :=
  obnd3 (M_one nf fi ar (x3)) fun r12 fi10 ar11 => br ((r12) = (229 : Int32)) (br ((fi10 36) ≤ 0) (M_scan_161 K66 nf  (x1) (x2) (0 : Int32) fi10 ar11) (M_scan_161 K66 nf  (x1) (x2) (4 : Int32) fi10 ar11)) (obnd3 (M_one nf fi10 ar11 ((x3) + (11 : Int32))) fun r17 fi15 ar16 => br (((r17) &&& (63 : Int32)) = (15 : Int32)) (obnd3 (M_part nf fi15 ar16 (x3)) fun r27 fi25 ar26 => br ((r27) = 0) (M_scan_197 K66 nf  (x1) (x2) (4 : Int32) fi25 ar26) (M_scan_197 K66 nf  (x1) (x2) (0 : Int32) fi25 ar26)) (obnd3 (M_admit nf fi15 ar16 (x3) (x1) (x2)) fun r22 fi20 ar21 => bnd (va_up fi20 16 (r22)) fun fi23 => M_scan_214 K66 nf  (x1) (x2) fi23 ar21))
noncomputable def M_scan_131 (K66 : Int32 → Int32 → FI → AR → Option (Unit × FI × AR)) (nf : Nat) (x1 : Int32) (x2 : Int32) (t1 : Int32) (fi : FI) (ar : AR) : Option (Unit × FI × AR) :=
  bnd (va_up fi 16 (t1)) fun fi30 => M_scan_214 K66 nf  (x1) (x2) fi30 ar
noncomputable def M_scan_66b (K66 : Int32 → Int32 → FI → AR → Option (Unit × FI × AR)) (nf : Nat) (x1 : Int32) (x2 : Int32) (fi : FI) (ar : AR) : Option (Unit × FI × AR) :=
  br ((((fi 32) * (16 : Int32)) * (fi 7)) ≤ (x2)) (M_scan_220 nf  (x1) (x2) fi ar) (br ((fi 16) = 0) (obnd3 (M_slotAt nf fi ar (x2)) fun r36 fi34 ar35 => obnd3 (M_one nf fi34 ar35 (r36)) fun r40 fi38 ar39 => br ((r40) = 0) (M_scan_220 nf  (x1) (x2) fi38 ar39) (br ((x1) ≤ 0) (M_scan_137 K66 nf  (x1) (x2) (r36) fi38 ar39) (br ((2 : Int32) ≤ (x2)) (M_scan_137 K66 nf  (x1) (x2) (r36) fi38 ar39) (obnd3 (M_dots nf fi38 ar39 (r36) (x1) (x2)) fun r47 fi45 ar46 => br ((r47) = 0) (M_scan_131 K66 nf  (x1) (x2) (4 : Int32) fi45 ar46) (M_scan_131 K66 nf  (x1) (x2) (0 : Int32) fi45 ar46))))) (M_scan_220 nf  (x1) (x2) fi ar))
noncomputable def M_scan_66 (nf : Nat) (kf : Nat) : Int32 → Int32 → FI → AR → Option (Unit × FI × AR) := Nat.rec (fun _ _ _ _ => none) (fun _ K66 => M_scan_66b K66 nf) kf
noncomputable def M_scan_20b (K20 : Int32 → Int32 → FI → AR → Option (Unit × FI × AR)) (nf : Nat) (x1 : Int32) (x2 : Int32) (fi : FI) (ar : AR) : Option (Unit × FI × AR) :=
  br ((fi 31) ≤ (x2)) (bnd (va_up fi 32 (fi 31)) fun fi50 => bnd (va_up fi50 36 (0 : Int32)) fun fi51 => bnd (va_up fi51 37 (0 : Int32)) fun fi52 => M_scan_66 nf nf (x1) (0 : Int32) fi52 ar) (gd (¬ ((x2) < 0 ∨ 560 ≤ (x2).toNatClampNeg)) (gd (¬ ((x2) < 0 ∨ 560 ≤ (x2).toNatClampNeg)) (bnd (va_up ar 30 (upd (ar 30) (x2).toNatClampNeg (ar 29 (x2).toNatClampNeg))) fun ar55 => bnd ((x2) + (1 : Int32)) fun x2_56 => K20 (x1) (x2_56) fi ar55)))
noncomputable def M_scan_20 (nf : Nat) (kf : Nat) : Int32 → Int32 → FI → AR → Option (Unit × FI × AR) := Nat.rec (fun _ _ _ _ => none) (fun _ K20 => M_scan_20b K20 nf) kf
noncomputable def M_scan (nf : Nat) (fi : FI) (ar : AR) (x1 : Int32) : Option (Unit × FI × AR) :=
  obnd3 (M_beginOf nf fi ar (x1)) fun r60 fi58 ar59 => obnd3 (M_follows nf fi58 ar59 (r60)) fun r64 fi62 ar63 => br ((r64) = 0) (bnd (va_up fi62 16 (3 : Int32)) fun fi66 => some ((), fi66, ar63)) (M_scan_20 nf nf (x1) (0 : Int32) fi62 ar63)
set_option maxHeartbeats 4000000 in
set_option maxRecDepth 100000 in
theorem k_scan (l : Launch) (g : GT) (am : Nat → Nat) (sz : Nat) (nf : Nat) (fi : FI) (ar : AR) (p1 : Int32) (r : Unit) (fi' : FI) (ar' : AR) (hF : M_scan nf fi ar p1 = some (r, fi', ar')) : Met l yX11_scan (wx yX11_scan cX11_scan 4 none) ({ frames := 7, cells := 0, slots := 0, locals := 165 } : Room) (va_Pc [.ref (am 0), .int p1] (PM g am sz fi ar)) (QMv g am sz r fi' ar') 0 0 (AM am sz) := by
  refine Met.ofW (cc := cX11_scan) (maxL := 4) (ret := none) (by decide) rfl ?_
  intro p e s m args below meth c s₁ B hml hv
  obtain ⟨rfl, hsz, hP, hK, hD0, hE⟩ := hv
  have hx := B.exec
  have hb := B.bytes
  have hr := B.returns
  have hts := atoms_spec (ws := (wx yX11_scan cX11_scan 4 none)) B.pre
  have hT : ∀ w ∈ TB, w.before _ s = true := fun w h => hts w (List.mem_cons_of_mem _ h)
  have hown : s.vm.findClass RX11 = some m.cls := findClass_of_methodNamed B.named
  have hlocks := B.notSynchronized
  subst hsz
  have hD := dM hD0 s.heap.size
  have hA : ∀ q : Nat, s.heap.size ≤ q → AM am s.heap.size q := fun q h => Or.inr h
  have hS : va_S (AM am s.heap.size) s.heap s.heap [] := va_S.rf
  have hl := lv_entry ([.ref (am 0), .int p1]) (n := 4) (Nat.le_of_ble_eq_true rfl)
  rw [lg_entry_eq]
  generalize (lg_sl ([.ref (am 0), .int p1]) ++ List.replicate (4 - (lg_sl ([.ref (am 0), .int p1])).length) Slot.unset).toArray = ls at hl ⊢
  have hl : lv_has ls 4 [(0, .ref (am 0)), (1, .int p1)] := hl
  unfold M_scan at hF
  have J248 : ∀  (fi : FI) (ar : AR) (H : Heap) (locs : List Loc) (ls : Array Slot), M_scan_248 nf fi ar = some (r, fi', ar') → lv_has ls 4 [(0, .ref (am 0))] → va_P (gD g) vwCl (WM g am fi ar) H → va_S (AM am s.heap.size) s.heap H locs → W p l e (headSpec (wx yX11_scan cX11_scan 4 none) ({ frames := 7, cells := 0, slots := 0, locals := 165 } : Room)).room s m ([.ref (am 0), .int p1] : List Value).toArray below meth c H locs 0 0 (MQ below (QMv g am s.heap.size r fi' ar') ([.ref (am 0), .int p1] : List Value).toArray s 0 0 (AM am s.heap.size)) (F0 m 248 ls []) := by
    intro fi ar H locs ls hF hl hP hS
    unfold M_scan_248 at hF
    exact rM_v hx hb hr hlocks hF hP hS dX11_scan_248
  have J243 : ∀  (fi : FI) (ar : AR) (H : Heap) (locs : List Loc) (ls : Array Slot), M_scan_243 nf fi ar = some (r, fi', ar') → lv_has ls 4 [(0, .ref (am 0))] → va_P (gD g) vwCl (WM g am fi ar) H → va_S (AM am s.heap.size) s.heap H locs → W p l e (headSpec (wx yX11_scan cX11_scan 4 none) ({ frames := 7, cells := 0, slots := 0, locals := 165 } : Room)).room s m ([.ref (am 0), .int p1] : List Value).toArray below meth c H locs 0 0 (MQ below (QMv g am s.heap.size r fi' ar') ([.ref (am 0), .int p1] : List Value).toArray s 0 0 (AM am s.heap.size)) (F0 m 243 ls []) := by
    intro fi ar H locs ls hF hl hP hS
    unfold M_scan_243 at hF
    refine lv_aload_n hx hb dX11_scan_243 rfl (lv_at hl 0 rfl) ?_
    refine lv_iconst (v := (4 : Int32)) hx hb dX11_scan_244 (by decide) ?_
    obtain ⟨fi1, efi1⟩ : ∃ y : FI, y = va_up fi 16 (4 : Int32) := ⟨_, rfl⟩
    replace hF := bnd_of hF efi1
    refine mp_16 hx hb hT hown hK hP hD hS mw31_5 dX11_scan_245 (fun H locs hP hS => ?_)
    rw [← efi1] at hP
    exact J248  _ _ _ _ _ hF (lv_sub hl [0] rfl) hP hS
  have J220 : ∀ (x1 : Int32) (x2 : Int32) (fi : FI) (ar : AR) (H : Heap) (locs : List Loc) (ls : Array Slot), M_scan_220 nf x1 x2 fi ar = some (r, fi', ar') → lv_has ls 4 [(0, .ref (am 0)), (1, .int x1), (2, .int x2)] → va_P (gD g) vwCl (WM g am fi ar) H → va_S (AM am s.heap.size) s.heap H locs → W p l e (headSpec (wx yX11_scan cX11_scan 4 none) ({ frames := 7, cells := 0, slots := 0, locals := 165 } : Room)).room s m ([.ref (am 0), .int p1] : List Value).toArray below meth c H locs 0 0 (MQ below (QMv g am s.heap.size r fi' ar') ([.ref (am 0), .int p1] : List Value).toArray s 0 0 (AM am s.heap.size)) (F0 m 220 ls []) := by
    intro x1 x2 fi ar H locs ls hF hl hP hS
    unfold M_scan_220 at hF
    refine lv_aload_n hx hb dX11_scan_220 rfl (lv_at hl 0 rfl) ?_
    refine mg_16 hx hb hT hown hK hP mw31_5 dX11_scan_221 ?_
    refine lv_if_ne (tgt := 248) hx hb dX11_scan_224 (by decide) (fun hc2 => ?_) (fun hc2 => ?_)
    · replace hF := br_no hF hc2
      exact J248  _ _ _ _ _ hF (lv_sub hl [0] rfl) hP hS
    · replace hF := br_yes hF hc2
      refine lv_aload_n hx hb dX11_scan_227 rfl (lv_at hl 0 rfl) ?_
      refine mg_36 hx hb hT hown hK hP mw32_7 dX11_scan_228 ?_
      refine lv_if_gt (tgt := 243) hx hb dX11_scan_231 (by decide) (fun hc3 => ?_) (fun hc3 => ?_)
      · replace hF := br_yes hF hc3
        exact J243  _ _ _ _ _ hF (lv_sub hl [0] rfl) hP hS
      · replace hF := br_no hF hc3
        refine lv_iload_n hx hb dX11_scan_234 rfl (lv_at hl 1 rfl) ?_
        refine lv_if_le (tgt := 248) hx hb dX11_scan_235 (by decide) (fun hc4 => ?_) (fun hc4 => ?_)
        · replace hF := br_yes hF hc4
          exact J248  _ _ _ _ _ hF (lv_sub hl [0] rfl) hP hS
        · replace hF := br_no hF hc4
          refine lv_iload_n hx hb dX11_scan_238 rfl (lv_at hl 2 rfl) ?_
          refine lv_iconst (v := (2 : Int32)) hx hb dX11_scan_239 (by decide) ?_
          refine lv_icmp_ge (tgt := 248) hx hb dX11_scan_240 (by decide) (fun hc5 => ?_) (fun hc5 => ?_)
          · replace hF := br_yes hF hc5
            exact J248  _ _ _ _ _ hF (lv_sub hl [0] rfl) hP hS
          · replace hF := br_no hF hc5
            exact J243  _ _ _ _ _ hF (lv_sub hl [0] rfl) hP hS
  have L66 : ∀ kf : Nat, ∀ (x1 : Int32) (x2 : Int32) (fi : FI) (ar : AR) (H : Heap) (locs : List Loc) (ls : Array Slot), M_scan_66 nf kf x1 x2 fi ar = some (r, fi', ar') → lv_has ls 4 [(0, .ref (am 0)), (1, .int x1), (2, .int x2)] → va_P (gD g) vwCl (WM g am fi ar) H → va_S (AM am s.heap.size) s.heap H locs → W p l e (headSpec (wx yX11_scan cX11_scan 4 none) ({ frames := 7, cells := 0, slots := 0, locals := 165 } : Room)).room s m ([.ref (am 0), .int p1] : List Value).toArray below meth c H locs 0 0 (MQ below (QMv g am s.heap.size r fi' ar') ([.ref (am 0), .int p1] : List Value).toArray s 0 0 (AM am s.heap.size)) (F0 m 66 ls []) := by
    intro kf
    induction kf with
    | zero => intro x1 x2 fi ar H locs ls hF hl hP hS; cases (show (none : Option (Unit × FI × AR)) = _ from hF)
    | succ kf ih66 =>
      intro x1 x2 fi ar H locs ls hF hl hP hS
      obtain ⟨K66, hK66⟩ : ∃ K : Int32 → Int32 → FI → AR → Option (Unit × FI × AR), K = M_scan_66 nf kf := ⟨_, rfl⟩
      replace hF : M_scan_66b K66 nf x1 x2 fi ar = some (r, fi', ar') := by rw [hK66]; exact hF
      rw [← hK66] at ih66
      clear hK66
      have J214 : ∀ (x1 : Int32) (x2 : Int32) (fi : FI) (ar : AR) (H : Heap) (locs : List Loc) (ls : Array Slot), M_scan_214 K66 nf x1 x2 fi ar = some (r, fi', ar') → lv_has ls 4 [(0, .ref (am 0)), (1, .int x1), (2, .int x2)] → va_P (gD g) vwCl (WM g am fi ar) H → va_S (AM am s.heap.size) s.heap H locs → W p l e (headSpec (wx yX11_scan cX11_scan 4 none) ({ frames := 7, cells := 0, slots := 0, locals := 165 } : Room)).room s m ([.ref (am 0), .int p1] : List Value).toArray below meth c H locs 0 0 (MQ below (QMv g am s.heap.size r fi' ar') ([.ref (am 0), .int p1] : List Value).toArray s 0 0 (AM am s.heap.size)) (F0 m 214 ls []) := by
        intro x1 x2 fi ar H locs ls hF hl hP hS
        unfold M_scan_214 at hF
        obtain ⟨x2_6, ex2_6⟩ : ∃ y : Int32, y = (x2) + (1 : Int32) := ⟨_, rfl⟩
        replace hF := bnd_of hF ex2_6
        refine lv_iinc (v := x2_6) (lv' := [(2, .int (x2_6)), (0, .ref (am 0)), (1, .int (x1))]) hx hb dX11_scan_214 hl (k := 2) rfl (by rw [ex2_6]; rfl) (by decide) rfl (fun ls hl => ?_)
        refine lv_goto (tgt := 66) hx hb dX11_scan_217 (by decide) ?_
        exact ih66 (x1) (x2_6) _ _ _ _ _ hF (lv_sub hl [1, 2, 0] rfl) hP hS
      have J197 : ∀ (x1 : Int32) (x2 : Int32) (t1 : Int32) (fi : FI) (ar : AR) (H : Heap) (locs : List Loc) (ls : Array Slot), M_scan_197 K66 nf x1 x2 t1 fi ar = some (r, fi', ar') → lv_has ls 4 [(0, .ref (am 0)), (1, .int x1), (2, .int x2)] → va_P (gD g) vwCl (WM g am fi ar) H → va_S (AM am s.heap.size) s.heap H locs → W p l e (headSpec (wx yX11_scan cX11_scan 4 none) ({ frames := 7, cells := 0, slots := 0, locals := 165 } : Room)).room s m ([.ref (am 0), .int p1] : List Value).toArray below meth c H locs 0 0 (MQ below (QMv g am s.heap.size r fi' ar') ([.ref (am 0), .int p1] : List Value).toArray s 0 0 (AM am s.heap.size)) (F0 m 197 ls [.int t1, .ref (am 0)]) := by
        intro x1 x2 t1 fi ar H locs ls hF hl hP hS
        unfold M_scan_197 at hF
        obtain ⟨fi7, efi7⟩ : ∃ y : FI, y = va_up fi 16 (t1) := ⟨_, rfl⟩
        replace hF := bnd_of hF efi7
        refine mp_16 hx hb hT hown hK hP hD hS mw31_5 dX11_scan_197 (fun H locs hP hS => ?_)
        rw [← efi7] at hP
        refine lv_goto (tgt := 214) hx hb dX11_scan_200 (by decide) ?_
        exact J214 (x1) (x2) _ _ _ _ _ hF (lv_sub hl [0, 1, 2] rfl) hP hS
      have J161 : ∀ (x1 : Int32) (x2 : Int32) (t1 : Int32) (fi : FI) (ar : AR) (H : Heap) (locs : List Loc) (ls : Array Slot), M_scan_161 K66 nf x1 x2 t1 fi ar = some (r, fi', ar') → lv_has ls 4 [(0, .ref (am 0)), (1, .int x1), (2, .int x2)] → va_P (gD g) vwCl (WM g am fi ar) H → va_S (AM am s.heap.size) s.heap H locs → W p l e (headSpec (wx yX11_scan cX11_scan 4 none) ({ frames := 7, cells := 0, slots := 0, locals := 165 } : Room)).room s m ([.ref (am 0), .int p1] : List Value).toArray below meth c H locs 0 0 (MQ below (QMv g am s.heap.size r fi' ar') ([.ref (am 0), .int p1] : List Value).toArray s 0 0 (AM am s.heap.size)) (F0 m 161 ls [.int t1, .ref (am 0)]) := by
        intro x1 x2 t1 fi ar H locs ls hF hl hP hS
        unfold M_scan_161 at hF
        obtain ⟨fi8, efi8⟩ : ∃ y : FI, y = va_up fi 16 (t1) := ⟨_, rfl⟩
        replace hF := bnd_of hF efi8
        refine mp_16 hx hb hT hown hK hP hD hS mw31_5 dX11_scan_161 (fun H locs hP hS => ?_)
        rw [← efi8] at hP
        refine lv_goto (tgt := 214) hx hb dX11_scan_164 (by decide) ?_
        exact J214 (x1) (x2) _ _ _ _ _ hF (lv_sub hl [0, 1, 2] rfl) hP hS
      have J137 : ∀ (x1 : Int32) (x2 : Int32) (x3 : Int32) (fi : FI) (ar : AR) (H : Heap) (locs : List Loc) (ls : Array Slot), M_scan_137 K66 nf x1 x2 x3 fi ar = some (r, fi', ar') → lv_has ls 4 [(0, .ref (am 0)), (1, .int x1), (2, .int x2), (3, .int x3)] → va_P (gD g) vwCl (WM g am fi ar) H → va_S (AM am s.heap.size) s.heap H locs → W p l e (headSpec (wx yX11_scan cX11_scan 4 none) ({ frames := 7, cells := 0, slots := 0, locals := 165 } : Room)).room s m ([.ref (am 0), .int p1] : List Value).toArray below meth c H locs 0 0 (MQ below (QMv g am s.heap.size r fi' ar') ([.ref (am 0), .int p1] : List Value).toArray s 0 0 (AM am s.heap.size)) (F0 m 137 ls []) := by
        intro x1 x2 x3 fi ar H locs ls hF hl hP hS
        unfold M_scan_137 at hF
        refine lv_aload_n hx hb dX11_scan_137 rfl (lv_at hl 0 rfl) ?_
        refine lv_iload_n hx hb dX11_scan_138 rfl (lv_at hl 3 rfl) ?_
        replace hF := obnd3_of hF
        obtain ⟨r12, fi10, ar11, h9, hF⟩ := hF
        refine cM_i (As := [.int (x3)]) (rest := []) hx hb hml hT hown hK hE hD hA hP hS (k_one l g am _ nf fi ar (x3) r12 fi10 ar11 h9) cw_X11_one mw19_9 ⟨⟨rfl, rfl⟩, Nat.le_of_ble_eq_true rfl, Nat.le_of_ble_eq_true rfl⟩ rfl hl.1 rfl (Nat.le_of_ble_eq_true rfl) dX11_scan_139 ⟨Nat.zero_le _, Nat.zero_le _⟩ (fun H locs hP hS => ?_)
        refine lv_sipush (v := (229 : Int32)) hx hb dX11_scan_142 (by decide) ?_
        refine lv_icmp_ne (tgt := 167) hx hb dX11_scan_145 (by decide) (fun hc13 => ?_) (fun hc13 => ?_)
        · replace hF := br_no hF hc13
          refine lv_aload_n hx hb dX11_scan_167 rfl (lv_at hl 0 rfl) ?_
          refine lv_iload_n hx hb dX11_scan_168 rfl (lv_at hl 3 rfl) ?_
          refine lv_bipush (v := (11 : Int32)) hx hb dX11_scan_169 (by decide) ?_
          refine lv_iadd hx hb dX11_scan_171 ?_
          replace hF := obnd3_of hF
          obtain ⟨r17, fi15, ar16, h14, hF⟩ := hF
          refine cM_i (As := [.int ((x3) + (11 : Int32))]) (rest := []) hx hb hml hT hown hK hE hD hA hP hS (k_one l g am _ nf fi10 ar11 ((x3) + (11 : Int32)) r17 fi15 ar16 h14) cw_X11_one mw19_9 ⟨⟨rfl, rfl⟩, Nat.le_of_ble_eq_true rfl, Nat.le_of_ble_eq_true rfl⟩ rfl hl.1 rfl (Nat.le_of_ble_eq_true rfl) dX11_scan_172 ⟨Nat.zero_le _, Nat.zero_le _⟩ (fun H locs hP hS => ?_)
          refine lv_bipush (v := (63 : Int32)) hx hb dX11_scan_175 (by decide) ?_
          refine lv_iand hx hb dX11_scan_177 ?_
          refine lv_bipush (v := (15 : Int32)) hx hb dX11_scan_178 (by decide) ?_
          refine lv_icmp_ne (tgt := 203) hx hb dX11_scan_180 (by decide) (fun hc18 => ?_) (fun hc18 => ?_)
          · replace hF := br_no hF hc18
            refine lv_aload_n hx hb dX11_scan_203 rfl (lv_at hl 0 rfl) ?_
            refine lv_aload_n hx hb dX11_scan_204 rfl (lv_at hl 0 rfl) ?_
            refine lv_iload_n hx hb dX11_scan_205 rfl (lv_at hl 3 rfl) ?_
            refine lv_iload_n hx hb dX11_scan_206 rfl (lv_at hl 1 rfl) ?_
            refine lv_iload_n hx hb dX11_scan_207 rfl (lv_at hl 2 rfl) ?_
            replace hF := obnd3_of hF
            obtain ⟨r22, fi20, ar21, h19, hF⟩ := hF
            refine cM_i (As := [.int (x3), .int (x1), .int (x2)]) (rest := [.ref (am 0)]) hx hb hml hT hown hK hE hD hA hP hS (k_admit l g am _ nf fi15 ar16 (x3) (x1) (x2) r22 fi20 ar21 h19) cw_X11_admit mw33_11 ⟨⟨rfl, rfl⟩, Nat.le_of_ble_eq_true rfl, Nat.le_of_ble_eq_true rfl⟩ rfl hl.1 rfl (Nat.le_of_ble_eq_true rfl) dX11_scan_208 ⟨Nat.zero_le _, Nat.zero_le _⟩ (fun H locs hP hS => ?_)
            obtain ⟨fi23, efi23⟩ : ∃ y : FI, y = va_up fi20 16 (r22) := ⟨_, rfl⟩
            replace hF := bnd_of hF efi23
            refine mp_16 hx hb hT hown hK hP hD hS mw31_5 dX11_scan_211 (fun H locs hP hS => ?_)
            rw [← efi23] at hP
            exact J214 (x1) (x2) _ _ _ _ _ hF (lv_sub hl [0, 1, 2] rfl) hP hS
          · replace hF := br_yes hF hc18
            refine lv_aload_n hx hb dX11_scan_183 rfl (lv_at hl 0 rfl) ?_
            refine lv_aload_n hx hb dX11_scan_184 rfl (lv_at hl 0 rfl) ?_
            refine lv_iload_n hx hb dX11_scan_185 rfl (lv_at hl 3 rfl) ?_
            replace hF := obnd3_of hF
            obtain ⟨r27, fi25, ar26, h24, hF⟩ := hF
            refine cM_i (As := [.int (x3)]) (rest := [.ref (am 0)]) hx hb hml hT hown hK hE hD hA hP hS (k_part l g am _ nf fi15 ar16 (x3) r27 fi25 ar26 h24) cw_X11_part mw33_5 ⟨⟨rfl, rfl⟩, Nat.le_of_ble_eq_true rfl, Nat.le_of_ble_eq_true rfl⟩ rfl hl.1 rfl (Nat.le_of_ble_eq_true rfl) dX11_scan_186 ⟨Nat.zero_le _, Nat.zero_le _⟩ (fun H locs hP hS => ?_)
            refine lv_if_eq (tgt := 196) hx hb dX11_scan_189 (by decide) (fun hc28 => ?_) (fun hc28 => ?_)
            · replace hF := br_yes hF hc28
              refine lv_iconst (v := (4 : Int32)) hx hb dX11_scan_196 (by decide) ?_
              exact J197 (x1) (x2) (4 : Int32) _ _ _ _ _ hF (lv_sub hl [0, 1, 2] rfl) hP hS
            · replace hF := br_no hF hc28
              refine lv_iconst (v := (0 : Int32)) hx hb dX11_scan_192 (by decide) ?_
              refine lv_goto (tgt := 197) hx hb dX11_scan_193 (by decide) ?_
              exact J197 (x1) (x2) (0 : Int32) _ _ _ _ _ hF (lv_sub hl [0, 1, 2] rfl) hP hS
        · replace hF := br_yes hF hc13
          refine lv_aload_n hx hb dX11_scan_148 rfl (lv_at hl 0 rfl) ?_
          refine lv_aload_n hx hb dX11_scan_149 rfl (lv_at hl 0 rfl) ?_
          refine mg_36 hx hb hT hown hK hP mw32_7 dX11_scan_150 ?_
          refine lv_if_le (tgt := 160) hx hb dX11_scan_153 (by decide) (fun hc29 => ?_) (fun hc29 => ?_)
          · replace hF := br_yes hF hc29
            refine lv_iconst (v := (0 : Int32)) hx hb dX11_scan_160 (by decide) ?_
            exact J161 (x1) (x2) (0 : Int32) _ _ _ _ _ hF (lv_sub hl [0, 1, 2] rfl) hP hS
          · replace hF := br_no hF hc29
            refine lv_iconst (v := (4 : Int32)) hx hb dX11_scan_156 (by decide) ?_
            refine lv_goto (tgt := 161) hx hb dX11_scan_157 (by decide) ?_
            exact J161 (x1) (x2) (4 : Int32) _ _ _ _ _ hF (lv_sub hl [0, 1, 2] rfl) hP hS
      have J131 : ∀ (x1 : Int32) (x2 : Int32) (t1 : Int32) (fi : FI) (ar : AR) (H : Heap) (locs : List Loc) (ls : Array Slot), M_scan_131 K66 nf x1 x2 t1 fi ar = some (r, fi', ar') → lv_has ls 4 [(0, .ref (am 0)), (1, .int x1), (2, .int x2)] → va_P (gD g) vwCl (WM g am fi ar) H → va_S (AM am s.heap.size) s.heap H locs → W p l e (headSpec (wx yX11_scan cX11_scan 4 none) ({ frames := 7, cells := 0, slots := 0, locals := 165 } : Room)).room s m ([.ref (am 0), .int p1] : List Value).toArray below meth c H locs 0 0 (MQ below (QMv g am s.heap.size r fi' ar') ([.ref (am 0), .int p1] : List Value).toArray s 0 0 (AM am s.heap.size)) (F0 m 131 ls [.int t1, .ref (am 0)]) := by
        intro x1 x2 t1 fi ar H locs ls hF hl hP hS
        unfold M_scan_131 at hF
        obtain ⟨fi30, efi30⟩ : ∃ y : FI, y = va_up fi 16 (t1) := ⟨_, rfl⟩
        replace hF := bnd_of hF efi30
        refine mp_16 hx hb hT hown hK hP hD hS mw31_5 dX11_scan_131 (fun H locs hP hS => ?_)
        rw [← efi30] at hP
        refine lv_goto (tgt := 214) hx hb dX11_scan_134 (by decide) ?_
        exact J214 (x1) (x2) _ _ _ _ _ hF (lv_sub hl [0, 1, 2] rfl) hP hS
      unfold M_scan_66b at hF
      refine lv_iload_n hx hb dX11_scan_66 rfl (lv_at hl 2 rfl) ?_
      refine lv_aload_n hx hb dX11_scan_67 rfl (lv_at hl 0 rfl) ?_
      refine mg_32 hx hb hT hown hK hP mw32_6 dX11_scan_68 ?_
      refine lv_bipush (v := (16 : Int32)) hx hb dX11_scan_71 (by decide) ?_
      refine lv_imul hx hb dX11_scan_73 ?_
      refine lv_aload_n hx hb dX11_scan_74 rfl (lv_at hl 0 rfl) ?_
      refine mg_7 hx hb hT hown hK hP mw19_2 dX11_scan_75 ?_
      refine lv_imul hx hb dX11_scan_78 ?_
      refine lv_icmp_ge (tgt := 220) hx hb dX11_scan_79 (by decide) (fun hc31 => ?_) (fun hc31 => ?_)
      · replace hF := br_yes hF hc31
        exact J220 (x1) (x2) _ _ _ _ _ hF (lv_sub hl [0, 1, 2] rfl) hP hS
      · replace hF := br_no hF hc31
        refine lv_aload_n hx hb dX11_scan_82 rfl (lv_at hl 0 rfl) ?_
        refine mg_16 hx hb hT hown hK hP mw31_5 dX11_scan_83 ?_
        refine lv_if_ne (tgt := 220) hx hb dX11_scan_86 (by decide) (fun hc32 => ?_) (fun hc32 => ?_)
        · replace hF := br_no hF hc32
          exact J220 (x1) (x2) _ _ _ _ _ hF (lv_sub hl [0, 1, 2] rfl) hP hS
        · replace hF := br_yes hF hc32
          refine lv_aload_n hx hb dX11_scan_89 rfl (lv_at hl 0 rfl) ?_
          refine lv_iload_n hx hb dX11_scan_90 rfl (lv_at hl 2 rfl) ?_
          replace hF := obnd3_of hF
          obtain ⟨r36, fi34, ar35, h33, hF⟩ := hF
          refine cM_i (As := [.int (x2)]) (rest := []) hx hb hml hT hown hK hE hD hA hP hS (k_slotAt l g am _ nf fi ar (x2) r36 fi34 ar35 h33) cw_X11_slotAt mw32_21 ⟨⟨rfl, rfl⟩, Nat.le_of_ble_eq_true rfl, Nat.le_of_ble_eq_true rfl⟩ rfl hl.1 rfl (Nat.le_of_ble_eq_true rfl) dX11_scan_91 ⟨Nat.zero_le _, Nat.zero_le _⟩ (fun H locs hP hS => ?_)
          refine lv_istore_n (lv' := [(3, .int (r36)), (0, .ref (am 0)), (1, .int (x1)), (2, .int (x2))]) hx hb dX11_scan_94 rfl hl (by decide) rfl (fun ls hl => ?_)
          refine lv_aload_n hx hb dX11_scan_95 rfl (lv_at hl 1 rfl) ?_
          refine lv_iload_n hx hb dX11_scan_96 rfl (lv_at hl 0 rfl) ?_
          replace hF := obnd3_of hF
          obtain ⟨r40, fi38, ar39, h37, hF⟩ := hF
          refine cM_i (As := [.int (r36)]) (rest := []) hx hb hml hT hown hK hE hD hA hP hS (k_one l g am _ nf fi34 ar35 (r36) r40 fi38 ar39 h37) cw_X11_one mw19_9 ⟨⟨rfl, rfl⟩, Nat.le_of_ble_eq_true rfl, Nat.le_of_ble_eq_true rfl⟩ rfl hl.1 rfl (Nat.le_of_ble_eq_true rfl) dX11_scan_97 ⟨Nat.zero_le _, Nat.zero_le _⟩ (fun H locs hP hS => ?_)
          refine lv_if_ne (tgt := 106) hx hb dX11_scan_100 (by decide) (fun hc41 => ?_) (fun hc41 => ?_)
          · replace hF := br_no hF hc41
            refine lv_iload_n hx hb dX11_scan_106 rfl (lv_at hl 2 rfl) ?_
            refine lv_if_le (tgt := 137) hx hb dX11_scan_107 (by decide) (fun hc42 => ?_) (fun hc42 => ?_)
            · replace hF := br_yes hF hc42
              exact J137 (x1) (x2) (r36) _ _ _ _ _ hF (lv_sub hl [1, 2, 3, 0] rfl) hP hS
            · replace hF := br_no hF hc42
              refine lv_iload_n hx hb dX11_scan_110 rfl (lv_at hl 3 rfl) ?_
              refine lv_iconst (v := (2 : Int32)) hx hb dX11_scan_111 (by decide) ?_
              refine lv_icmp_ge (tgt := 137) hx hb dX11_scan_112 (by decide) (fun hc43 => ?_) (fun hc43 => ?_)
              · replace hF := br_yes hF hc43
                exact J137 (x1) (x2) (r36) _ _ _ _ _ hF (lv_sub hl [1, 2, 3, 0] rfl) hP hS
              · replace hF := br_no hF hc43
                refine lv_aload_n hx hb dX11_scan_115 rfl (lv_at hl 1 rfl) ?_
                refine lv_aload_n hx hb dX11_scan_116 rfl (lv_at hl 1 rfl) ?_
                refine lv_iload_n hx hb dX11_scan_117 rfl (lv_at hl 0 rfl) ?_
                refine lv_iload_n hx hb dX11_scan_118 rfl (lv_at hl 2 rfl) ?_
                refine lv_iload_n hx hb dX11_scan_119 rfl (lv_at hl 3 rfl) ?_
                replace hF := obnd3_of hF
                obtain ⟨r47, fi45, ar46, h44, hF⟩ := hF
                refine cM_i (As := [.int (r36), .int (x1), .int (x2)]) (rest := [.ref (am 0)]) hx hb hml hT hown hK hE hD hA hP hS (k_dots l g am _ nf fi38 ar39 (r36) (x1) (x2) r47 fi45 ar46 h44) cw_X11_dots mw33_1 ⟨⟨rfl, rfl⟩, Nat.le_of_ble_eq_true rfl, Nat.le_of_ble_eq_true rfl⟩ rfl hl.1 rfl (Nat.le_of_ble_eq_true rfl) dX11_scan_120 ⟨Nat.zero_le _, Nat.zero_le _⟩ (fun H locs hP hS => ?_)
                refine lv_if_eq (tgt := 130) hx hb dX11_scan_123 (by decide) (fun hc48 => ?_) (fun hc48 => ?_)
                · replace hF := br_yes hF hc48
                  refine lv_iconst (v := (4 : Int32)) hx hb dX11_scan_130 (by decide) ?_
                  exact J131 (x1) (x2) (4 : Int32) _ _ _ _ _ hF (lv_sub hl [1, 2, 3] rfl) hP hS
                · replace hF := br_no hF hc48
                  refine lv_iconst (v := (0 : Int32)) hx hb dX11_scan_126 (by decide) ?_
                  refine lv_goto (tgt := 131) hx hb dX11_scan_127 (by decide) ?_
                  exact J131 (x1) (x2) (0 : Int32) _ _ _ _ _ hF (lv_sub hl [1, 2, 3] rfl) hP hS
          · replace hF := br_yes hF hc41
            refine lv_goto (tgt := 220) hx hb dX11_scan_103 (by decide) ?_
            exact J220 (x1) (x2) _ _ _ _ _ hF (lv_sub hl [1, 2, 3] rfl) hP hS
  have L20 : ∀ kf : Nat, ∀ (x1 : Int32) (x2 : Int32) (fi : FI) (ar : AR) (H : Heap) (locs : List Loc) (ls : Array Slot), M_scan_20 nf kf x1 x2 fi ar = some (r, fi', ar') → lv_has ls 4 [(0, .ref (am 0)), (1, .int x1), (2, .int x2)] → va_P (gD g) vwCl (WM g am fi ar) H → va_S (AM am s.heap.size) s.heap H locs → W p l e (headSpec (wx yX11_scan cX11_scan 4 none) ({ frames := 7, cells := 0, slots := 0, locals := 165 } : Room)).room s m ([.ref (am 0), .int p1] : List Value).toArray below meth c H locs 0 0 (MQ below (QMv g am s.heap.size r fi' ar') ([.ref (am 0), .int p1] : List Value).toArray s 0 0 (AM am s.heap.size)) (F0 m 20 ls []) := by
    intro kf
    induction kf with
    | zero => intro x1 x2 fi ar H locs ls hF hl hP hS; cases (show (none : Option (Unit × FI × AR)) = _ from hF)
    | succ kf ih20 =>
      intro x1 x2 fi ar H locs ls hF hl hP hS
      obtain ⟨K20, hK20⟩ : ∃ K : Int32 → Int32 → FI → AR → Option (Unit × FI × AR), K = M_scan_20 nf kf := ⟨_, rfl⟩
      replace hF : M_scan_20b K20 nf x1 x2 fi ar = some (r, fi', ar') := by rw [hK20]; exact hF
      rw [← hK20] at ih20
      clear hK20
      unfold M_scan_20b at hF
      refine lv_iload_n hx hb dX11_scan_20 rfl (lv_at hl 2 rfl) ?_
      refine lv_aload_n hx hb dX11_scan_21 rfl (lv_at hl 0 rfl) ?_
      refine mg_31 hx hb hT hown hK hP mw32_5 dX11_scan_22 ?_
      refine lv_icmp_ge (tgt := 46) hx hb dX11_scan_25 (by decide) (fun hc49 => ?_) (fun hc49 => ?_)
      · replace hF := br_yes hF hc49
        refine lv_aload_n hx hb dX11_scan_46 rfl (lv_at hl 0 rfl) ?_
        refine lv_aload_n hx hb dX11_scan_47 rfl (lv_at hl 0 rfl) ?_
        refine mg_31 hx hb hT hown hK hP mw32_5 dX11_scan_48 ?_
        obtain ⟨fi50, efi50⟩ : ∃ y : FI, y = va_up fi 32 (fi 31) := ⟨_, rfl⟩
        replace hF := bnd_of hF efi50
        refine mp_32 hx hb hT hown hK hP hD hS mw32_6 dX11_scan_51 (fun H locs hP hS => ?_)
        rw [← efi50] at hP
        refine lv_aload_n hx hb dX11_scan_54 rfl (lv_at hl 0 rfl) ?_
        refine lv_iconst (v := (0 : Int32)) hx hb dX11_scan_55 (by decide) ?_
        obtain ⟨fi51, efi51⟩ : ∃ y : FI, y = va_up fi50 36 (0 : Int32) := ⟨_, rfl⟩
        replace hF := bnd_of hF efi51
        refine mp_36 hx hb hT hown hK hP hD hS mw32_7 dX11_scan_56 (fun H locs hP hS => ?_)
        rw [← efi51] at hP
        refine lv_aload_n hx hb dX11_scan_59 rfl (lv_at hl 0 rfl) ?_
        refine lv_iconst (v := (0 : Int32)) hx hb dX11_scan_60 (by decide) ?_
        obtain ⟨fi52, efi52⟩ : ∃ y : FI, y = va_up fi51 37 (0 : Int32) := ⟨_, rfl⟩
        replace hF := bnd_of hF efi52
        refine mp_37 hx hb hT hown hK hP hD hS mw32_8 dX11_scan_61 (fun H locs hP hS => ?_)
        rw [← efi52] at hP
        refine lv_iconst (v := (0 : Int32)) hx hb dX11_scan_64 (by decide) ?_
        refine lv_istore_n (lv' := [(2, .int (0 : Int32)), (0, .ref (am 0)), (1, .int (x1))]) hx hb dX11_scan_65 rfl hl (by decide) rfl (fun ls hl => ?_)
        exact L66 nf (x1) (0 : Int32) _ _ _ _ _ hF (lv_sub hl [1, 2, 0] rfl) hP hS
      · replace hF := br_no hF hc49
        refine lv_aload_n hx hb dX11_scan_28 rfl (lv_at hl 0 rfl) ?_
        refine mg_30 hx hb hT hown hK hP mw6_17 dX11_scan_29 ?_
        refine lv_iload_n hx hb dX11_scan_32 rfl (lv_at hl 2 rfl) ?_
        refine lv_aload_n hx hb dX11_scan_33 rfl (lv_at hl 0 rfl) ?_
        refine mg_29 hx hb hT hown hK hP mw6_16 dX11_scan_34 ?_
        refine lv_iload_n hx hb dX11_scan_37 rfl (lv_at hl 2 rfl) ?_
        replace hF := gd_of hF
        obtain ⟨hi53, hF⟩ := hF
        refine ml_29 hx hb hK hP hi53 dX11_scan_38 ?_
        replace hF := gd_of hF
        obtain ⟨hi54, hF⟩ := hF
        obtain ⟨ar55, ear55⟩ : ∃ y : AR, y = va_up ar 30 (upd (ar 30) (x2).toNatClampNeg (ar 29 (x2).toNatClampNeg)) := ⟨_, rfl⟩
        replace hF := bnd_of hF ear55
        refine ms_30 hx hb hK hP hD hS hi54 dX11_scan_39 (fun H locs hP hS => ?_)
        rw [← ear55] at hP
        obtain ⟨x2_56, ex2_56⟩ : ∃ y : Int32, y = (x2) + (1 : Int32) := ⟨_, rfl⟩
        replace hF := bnd_of hF ex2_56
        refine lv_iinc (v := x2_56) (lv' := [(2, .int (x2_56)), (0, .ref (am 0)), (1, .int (x1))]) hx hb dX11_scan_40 hl (k := 2) rfl (by rw [ex2_56]; rfl) (by decide) rfl (fun ls hl => ?_)
        refine lv_goto (tgt := 20) hx hb dX11_scan_43 (by decide) ?_
        exact ih20 (x1) (x2_56) _ _ _ _ _ hF (lv_sub hl [1, 2, 0] rfl) hP hS
  replace hl := lv_sub hl [0, 1] rfl
  refine lv_aload_n hx hb dX11_scan_0 rfl (lv_at hl 0 rfl) ?_
  refine lv_aload_n hx hb dX11_scan_1 rfl (lv_at hl 0 rfl) ?_
  refine lv_iload_n hx hb dX11_scan_2 rfl (lv_at hl 1 rfl) ?_
  replace hF := obnd3_of hF
  obtain ⟨r60, fi58, ar59, h57, hF⟩ := hF
  refine cM_i (As := [.int (p1)]) (rest := [.ref (am 0)]) hx hb hml hT hown hK hE hD hA hP hS (k_beginOf l g am _ nf fi ar (p1) r60 fi58 ar59 h57) cw_X11_beginOf mw32_9 ⟨⟨rfl, rfl⟩, Nat.le_of_ble_eq_true rfl, Nat.le_of_ble_eq_true rfl⟩ rfl hl.1 rfl (Nat.le_of_ble_eq_true rfl) dX11_scan_3 ⟨Nat.zero_le _, Nat.zero_le _⟩ (fun H locs hP hS => ?_)
  replace hF := obnd3_of hF
  obtain ⟨r64, fi62, ar63, h61, hF⟩ := hF
  refine cM_i (As := [.int (r60)]) (rest := []) hx hb hml hT hown hK hE hD hA hP hS (k_follows l g am _ nf fi58 ar59 (r60) r64 fi62 ar63 h61) cw_X11_follows mw32_17 ⟨⟨rfl, rfl⟩, Nat.le_of_ble_eq_true rfl, Nat.le_of_ble_eq_true rfl⟩ rfl hl.1 rfl (Nat.le_of_ble_eq_true rfl) dX11_scan_6 ⟨Nat.zero_le _, Nat.zero_le _⟩ (fun H locs hP hS => ?_)
  refine lv_if_ne (tgt := 18) hx hb dX11_scan_9 (by decide) (fun hc65 => ?_) (fun hc65 => ?_)
  · replace hF := br_no hF hc65
    refine lv_iconst (v := (0 : Int32)) hx hb dX11_scan_18 (by decide) ?_
    refine lv_istore_n (lv' := [(2, .int (0 : Int32)), (0, .ref (am 0)), (1, .int (p1))]) hx hb dX11_scan_19 rfl hl (by decide) rfl (fun ls hl => ?_)
    exact L20 nf (p1) (0 : Int32) _ _ _ _ _ hF (lv_sub hl [1, 2, 0] rfl) hP hS
  · replace hF := br_yes hF hc65
    refine lv_aload_n hx hb dX11_scan_12 rfl (lv_at hl 0 rfl) ?_
    refine lv_iconst (v := (3 : Int32)) hx hb dX11_scan_13 (by decide) ?_
    obtain ⟨fi66, efi66⟩ : ∃ y : FI, y = va_up fi62 16 (3 : Int32) := ⟨_, rfl⟩
    replace hF := bnd_of hF efi66
    refine mp_16 hx hb hT hown hK hP hD hS mw31_5 dX11_scan_14 (fun H locs hP hS => ?_)
    rw [← efi66] at hP
    exact rM_v hx hb hr hlocks hF hP hS dX11_scan_17
theorem cw_X11_scan : (Cond.instanceMethod yX11_scan ∈ TB ∧ Cond.selects RX11 yX11_scan yX11_scan ∈ TB ∧ Cond.code yX11_scan cX11_scan 4 none ∈ TB) ∧ (yX11_scan.cls = RX11 ∧ yX11_scan.cls ≠ "java/lang/invoke/MethodHandle" ∧ yX11_scan.cls ≠ "java/lang/invoke/VarHandle" ∧ (parseMethodDescriptor yX11_scan.desc).map (fun d => d.parameters.length) = some 1) := ⟨⟨mw32_2, mw32_3, mw32_4⟩, by decide +kernel⟩
/-! X11_look -/
noncomputable def M_look_186 (nf : Nat)  (fi : FI) (ar : AR) : Option (Unit × FI × AR) :=
  some ((), fi, ar)
noncomputable def M_look_180 (K140 : Int32 → FI → AR → Option (Unit × FI × AR)) (nf : Nat) (x1 : Int32) (fi : FI) (ar : AR) : Option (Unit × FI × AR) :=
  bnd ((x1) + (1 : Int32)) fun x1_1 => K140 (x1_1) fi ar
noncomputable def M_look_140b (K140 : Int32 → FI → AR → Option (Unit × FI × AR)) (nf : Nat) (x1 : Int32) (fi : FI) (ar : AR) : Option (Unit × FI × AR) :=
  br (((fi 13) + (2 : Int32)) ≤ (x1)) (M_look_186 nf  fi ar) (br ((fi 16) = 0) (obnd3 (M_entry nf fi ar (x1)) fun r7 fi5 ar6 => br ((r7) = 0) (M_look_180 K140 nf  (x1) fi5 ar6) (gd (¬ ((x1) < 0 ∨ 560 ≤ (x1).toNatClampNeg)) (br ((ar6 19 (x1).toNatClampNeg) = 0) (bnd (va_up fi5 16 (6 : Int32)) fun fi11 => M_look_180 K140 nf  (x1) fi11 ar6) (M_look_180 K140 nf  (x1) fi5 ar6)))) (M_look_186 nf  fi ar))
noncomputable def M_look_140 (nf : Nat) (kf : Nat) : Int32 → FI → AR → Option (Unit × FI × AR) := Nat.rec (fun _ _ _ => none) (fun _ K140 => M_look_140b K140 nf) kf
noncomputable def M_look_138 (nf : Nat)  (fi : FI) (ar : AR) : Option (Unit × FI × AR) :=
  M_look_140 nf nf (2 : Int32) fi ar
noncomputable def M_look_132 (K87 : Int32 → FI → AR → Option (Unit × FI × AR)) (nf : Nat) (x1 : Int32) (fi : FI) (ar : AR) : Option (Unit × FI × AR) :=
  bnd ((x1) + (1 : Int32)) fun x1_12 => K87 (x1_12) fi ar
noncomputable def M_look_87b (K87 : Int32 → FI → AR → Option (Unit × FI × AR)) (nf : Nat) (x1 : Int32) (fi : FI) (ar : AR) : Option (Unit × FI × AR) :=
  br ((fi 17) ≤ (x1)) (M_look_138 nf  fi ar) (br ((fi 16) = 0) (gd (¬ ((x1) < 0 ∨ 16400 ≤ (x1).toNatClampNeg)) (bnd (va_up ar 25 (upd (ar 25) (x1).toNatClampNeg (fi 17))) fun ar16 => gd (¬ ((x1) < 0 ∨ 16400 ≤ (x1).toNatClampNeg)) (bnd (va_up ar16 24 (upd (ar16 24) (x1).toNatClampNeg (0 : Int32))) fun ar18 => obnd3 (M_isFolder nf fi ar18 (x1)) fun r22 fi20 ar21 => br ((r22) = 0) (M_look_132 K87 nf  (x1) fi20 ar21) (obnd3 (M_scan nf fi20 ar21 (x1)) fun r27 fi25 ar26 => M_look_132 K87 nf  (x1) fi25 ar26)))) (M_look_138 nf  fi ar))
noncomputable def M_look_87 (nf : Nat) (kf : Nat) : Int32 → FI → AR → Option (Unit × FI × AR) := Nat.rec (fun _ _ _ => none) (fun _ K87 => M_look_87b K87 nf) kf
noncomputable def M_look_65b (K65 : Int32 → FI → AR → Option (Unit × FI × AR)) (nf : Nat) (x1 : Int32) (fi : FI) (ar : AR) : Option (Unit × FI × AR) :=
  br ((560 : Int32) ≤ (x1)) (M_look_87 nf nf (0 : Int32) fi ar) (gd (¬ ((x1) < 0 ∨ 560 ≤ (x1).toNatClampNeg)) (bnd (va_up ar 19 (upd (ar 19) (x1).toNatClampNeg (vp_nar .boolean (0 : Int32)))) fun ar30 => bnd ((x1) + (1 : Int32)) fun x1_31 => K65 (x1_31) fi ar30))
noncomputable def M_look_65 (nf : Nat) (kf : Nat) : Int32 → FI → AR → Option (Unit × FI × AR) := Nat.rec (fun _ _ _ => none) (fun _ K65 => M_look_65b K65 nf) kf
noncomputable def M_look_52 (nf : Nat) (t1 : Int32) (fi : FI) (ar : AR) : Option (Unit × FI × AR) :=
  bnd (va_up fi 16 (t1)) fun fi32 => br ((fi32 16) ≤ 0) (M_look_65 nf nf (0 : Int32) fi32 ar) (some ((), fi32, ar))
noncomputable def M_look (nf : Nat) (fi : FI) (ar : AR)  : Option (Unit × FI × AR) :=
  br ((fi 15) = 0) (bnd (va_up fi 15 (1 : Int32)) fun fi35 => bnd (va_up fi35 17 (1 : Int32)) fun fi36 => bnd (va_up fi36 18 (0 : Int32)) fun fi37 => bnd (va_up fi37 33 (-1 : Int32)) fun fi38 => obnd3 (M_head nf fi38 ar) fun r42 fi40 ar41 => br ((r42) = 0) (M_look_52 nf  (1 : Int32) fi40 ar41) (obnd3 (M_badTables nf fi40 ar41) fun r47 fi45 ar46 => br ((r47) = 0) (M_look_52 nf  (0 : Int32) fi45 ar46) (M_look_52 nf  (2 : Int32) fi45 ar46))) (some ((), fi, ar))
set_option maxHeartbeats 4000000 in
set_option maxRecDepth 100000 in
theorem k_look (l : Launch) (g : GT) (am : Nat → Nat) (sz : Nat) (nf : Nat) (fi : FI) (ar : AR)  (r : Unit) (fi' : FI) (ar' : AR) (hF : M_look nf fi ar  = some (r, fi', ar')) : Met l yX11_look (wx yX11_look cX11_look 2 none) ({ frames := 8, cells := 0, slots := 0, locals := 188 } : Room) (va_Pc [.ref (am 0)] (PM g am sz fi ar)) (QMv g am sz r fi' ar') 0 0 (AM am sz) := by
  refine Met.ofW (cc := cX11_look) (maxL := 2) (ret := none) (by decide) rfl ?_
  intro p e s m args below meth c s₁ B hml hv
  obtain ⟨rfl, hsz, hP, hK, hD0, hE⟩ := hv
  have hx := B.exec
  have hb := B.bytes
  have hr := B.returns
  have hts := atoms_spec (ws := (wx yX11_look cX11_look 2 none)) B.pre
  have hT : ∀ w ∈ TB, w.before _ s = true := fun w h => hts w (List.mem_cons_of_mem _ h)
  have hown : s.vm.findClass RX11 = some m.cls := findClass_of_methodNamed B.named
  have hlocks := B.notSynchronized
  subst hsz
  have hD := dM hD0 s.heap.size
  have hA : ∀ q : Nat, s.heap.size ≤ q → AM am s.heap.size q := fun q h => Or.inr h
  have hS : va_S (AM am s.heap.size) s.heap s.heap [] := va_S.rf
  have hl := lv_entry ([.ref (am 0)]) (n := 2) (Nat.le_of_ble_eq_true rfl)
  rw [lg_entry_eq]
  generalize (lg_sl ([.ref (am 0)]) ++ List.replicate (2 - (lg_sl ([.ref (am 0)])).length) Slot.unset).toArray = ls at hl ⊢
  have hl : lv_has ls 2 [(0, .ref (am 0))] := hl
  unfold M_look at hF
  have J186 : ∀  (fi : FI) (ar : AR) (H : Heap) (locs : List Loc) (ls : Array Slot), M_look_186 nf fi ar = some (r, fi', ar') → lv_has ls 2 [(0, .ref (am 0))] → va_P (gD g) vwCl (WM g am fi ar) H → va_S (AM am s.heap.size) s.heap H locs → W p l e (headSpec (wx yX11_look cX11_look 2 none) ({ frames := 8, cells := 0, slots := 0, locals := 188 } : Room)).room s m ([.ref (am 0)] : List Value).toArray below meth c H locs 0 0 (MQ below (QMv g am s.heap.size r fi' ar') ([.ref (am 0)] : List Value).toArray s 0 0 (AM am s.heap.size)) (F0 m 186 ls []) := by
    intro fi ar H locs ls hF hl hP hS
    unfold M_look_186 at hF
    exact rM_v hx hb hr hlocks hF hP hS dX11_look_186
  have L140 : ∀ kf : Nat, ∀ (x1 : Int32) (fi : FI) (ar : AR) (H : Heap) (locs : List Loc) (ls : Array Slot), M_look_140 nf kf x1 fi ar = some (r, fi', ar') → lv_has ls 2 [(0, .ref (am 0)), (1, .int x1)] → va_P (gD g) vwCl (WM g am fi ar) H → va_S (AM am s.heap.size) s.heap H locs → W p l e (headSpec (wx yX11_look cX11_look 2 none) ({ frames := 8, cells := 0, slots := 0, locals := 188 } : Room)).room s m ([.ref (am 0)] : List Value).toArray below meth c H locs 0 0 (MQ below (QMv g am s.heap.size r fi' ar') ([.ref (am 0)] : List Value).toArray s 0 0 (AM am s.heap.size)) (F0 m 140 ls []) := by
    intro kf
    induction kf with
    | zero => intro x1 fi ar H locs ls hF hl hP hS; cases (show (none : Option (Unit × FI × AR)) = _ from hF)
    | succ kf ih140 =>
      intro x1 fi ar H locs ls hF hl hP hS
      obtain ⟨K140, hK140⟩ : ∃ K : Int32 → FI → AR → Option (Unit × FI × AR), K = M_look_140 nf kf := ⟨_, rfl⟩
      replace hF : M_look_140b K140 nf x1 fi ar = some (r, fi', ar') := by rw [hK140]; exact hF
      rw [← hK140] at ih140
      clear hK140
      have J180 : ∀ (x1 : Int32) (fi : FI) (ar : AR) (H : Heap) (locs : List Loc) (ls : Array Slot), M_look_180 K140 nf x1 fi ar = some (r, fi', ar') → lv_has ls 2 [(0, .ref (am 0)), (1, .int x1)] → va_P (gD g) vwCl (WM g am fi ar) H → va_S (AM am s.heap.size) s.heap H locs → W p l e (headSpec (wx yX11_look cX11_look 2 none) ({ frames := 8, cells := 0, slots := 0, locals := 188 } : Room)).room s m ([.ref (am 0)] : List Value).toArray below meth c H locs 0 0 (MQ below (QMv g am s.heap.size r fi' ar') ([.ref (am 0)] : List Value).toArray s 0 0 (AM am s.heap.size)) (F0 m 180 ls []) := by
        intro x1 fi ar H locs ls hF hl hP hS
        unfold M_look_180 at hF
        obtain ⟨x1_1, ex1_1⟩ : ∃ y : Int32, y = (x1) + (1 : Int32) := ⟨_, rfl⟩
        replace hF := bnd_of hF ex1_1
        refine lv_iinc (v := x1_1) (lv' := [(1, .int (x1_1)), (0, .ref (am 0))]) hx hb dX11_look_180 hl (k := 1) rfl (by rw [ex1_1]; rfl) (by decide) rfl (fun ls hl => ?_)
        refine lv_goto (tgt := 140) hx hb dX11_look_183 (by decide) ?_
        exact ih140 (x1_1) _ _ _ _ _ hF (lv_sub hl [1, 0] rfl) hP hS
      unfold M_look_140b at hF
      refine lv_iload_n hx hb dX11_look_140 rfl (lv_at hl 1 rfl) ?_
      refine lv_aload_n hx hb dX11_look_141 rfl (lv_at hl 0 rfl) ?_
      refine mg_13 hx hb hT hown hK hP mw18_5 dX11_look_142 ?_
      refine lv_iconst (v := (2 : Int32)) hx hb dX11_look_145 (by decide) ?_
      refine lv_iadd hx hb dX11_look_146 ?_
      refine lv_icmp_ge (tgt := 186) hx hb dX11_look_147 (by decide) (fun hc2 => ?_) (fun hc2 => ?_)
      · replace hF := br_yes hF hc2
        exact J186  _ _ _ _ _ hF (lv_sub hl [0] rfl) hP hS
      · replace hF := br_no hF hc2
        refine lv_aload_n hx hb dX11_look_150 rfl (lv_at hl 0 rfl) ?_
        refine mg_16 hx hb hT hown hK hP mw31_5 dX11_look_151 ?_
        refine lv_if_ne (tgt := 186) hx hb dX11_look_154 (by decide) (fun hc3 => ?_) (fun hc3 => ?_)
        · replace hF := br_no hF hc3
          exact J186  _ _ _ _ _ hF (lv_sub hl [0] rfl) hP hS
        · replace hF := br_yes hF hc3
          refine lv_aload_n hx hb dX11_look_157 rfl (lv_at hl 0 rfl) ?_
          refine lv_iload_n hx hb dX11_look_158 rfl (lv_at hl 1 rfl) ?_
          replace hF := obnd3_of hF
          obtain ⟨r7, fi5, ar6, h4, hF⟩ := hF
          refine cM_i (As := [.int (x1)]) (rest := []) hx hb hml hT hown hK hE hD hA hP hS (k_entry l g am _ nf fi ar (x1) r7 fi5 ar6 h4) cw_X11_entry mw31_17 ⟨⟨rfl, rfl⟩, Nat.le_of_ble_eq_true rfl, Nat.le_of_ble_eq_true rfl⟩ rfl hl.1 rfl (Nat.le_of_ble_eq_true rfl) dX11_look_159 ⟨Nat.zero_le _, Nat.zero_le _⟩ (fun H locs hP hS => ?_)
          refine lv_if_eq (tgt := 180) hx hb dX11_look_162 (by decide) (fun hc8 => ?_) (fun hc8 => ?_)
          · replace hF := br_yes hF hc8
            exact J180 (x1) _ _ _ _ _ hF (lv_sub hl [0, 1] rfl) hP hS
          · replace hF := br_no hF hc8
            refine lv_aload_n hx hb dX11_look_165 rfl (lv_at hl 0 rfl) ?_
            refine mg_19 hx hb hT hown hK hP mw6_4 dX11_look_166 ?_
            refine lv_iload_n hx hb dX11_look_169 rfl (lv_at hl 1 rfl) ?_
            replace hF := gd_of hF
            obtain ⟨hi9, hF⟩ := hF
            refine ml_19 hx hb hK hP hi9 dX11_look_170 ?_
            refine lv_if_ne (tgt := 180) hx hb dX11_look_171 (by decide) (fun hc10 => ?_) (fun hc10 => ?_)
            · replace hF := br_no hF hc10
              exact J180 (x1) _ _ _ _ _ hF (lv_sub hl [0, 1] rfl) hP hS
            · replace hF := br_yes hF hc10
              refine lv_aload_n hx hb dX11_look_174 rfl (lv_at hl 0 rfl) ?_
              refine lv_bipush (v := (6 : Int32)) hx hb dX11_look_175 (by decide) ?_
              obtain ⟨fi11, efi11⟩ : ∃ y : FI, y = va_up fi5 16 (6 : Int32) := ⟨_, rfl⟩
              replace hF := bnd_of hF efi11
              refine mp_16 hx hb hT hown hK hP hD hS mw31_5 dX11_look_177 (fun H locs hP hS => ?_)
              rw [← efi11] at hP
              exact J180 (x1) _ _ _ _ _ hF (lv_sub hl [0, 1] rfl) hP hS
  have J138 : ∀  (fi : FI) (ar : AR) (H : Heap) (locs : List Loc) (ls : Array Slot), M_look_138 nf fi ar = some (r, fi', ar') → lv_has ls 2 [(0, .ref (am 0))] → va_P (gD g) vwCl (WM g am fi ar) H → va_S (AM am s.heap.size) s.heap H locs → W p l e (headSpec (wx yX11_look cX11_look 2 none) ({ frames := 8, cells := 0, slots := 0, locals := 188 } : Room)).room s m ([.ref (am 0)] : List Value).toArray below meth c H locs 0 0 (MQ below (QMv g am s.heap.size r fi' ar') ([.ref (am 0)] : List Value).toArray s 0 0 (AM am s.heap.size)) (F0 m 138 ls []) := by
    intro fi ar H locs ls hF hl hP hS
    unfold M_look_138 at hF
    refine lv_iconst (v := (2 : Int32)) hx hb dX11_look_138 (by decide) ?_
    refine lv_istore_n (lv' := [(1, .int (2 : Int32)), (0, .ref (am 0))]) hx hb dX11_look_139 rfl hl (by decide) rfl (fun ls hl => ?_)
    exact L140 nf (2 : Int32) _ _ _ _ _ hF (lv_sub hl [1, 0] rfl) hP hS
  have L87 : ∀ kf : Nat, ∀ (x1 : Int32) (fi : FI) (ar : AR) (H : Heap) (locs : List Loc) (ls : Array Slot), M_look_87 nf kf x1 fi ar = some (r, fi', ar') → lv_has ls 2 [(0, .ref (am 0)), (1, .int x1)] → va_P (gD g) vwCl (WM g am fi ar) H → va_S (AM am s.heap.size) s.heap H locs → W p l e (headSpec (wx yX11_look cX11_look 2 none) ({ frames := 8, cells := 0, slots := 0, locals := 188 } : Room)).room s m ([.ref (am 0)] : List Value).toArray below meth c H locs 0 0 (MQ below (QMv g am s.heap.size r fi' ar') ([.ref (am 0)] : List Value).toArray s 0 0 (AM am s.heap.size)) (F0 m 87 ls []) := by
    intro kf
    induction kf with
    | zero => intro x1 fi ar H locs ls hF hl hP hS; cases (show (none : Option (Unit × FI × AR)) = _ from hF)
    | succ kf ih87 =>
      intro x1 fi ar H locs ls hF hl hP hS
      obtain ⟨K87, hK87⟩ : ∃ K : Int32 → FI → AR → Option (Unit × FI × AR), K = M_look_87 nf kf := ⟨_, rfl⟩
      replace hF : M_look_87b K87 nf x1 fi ar = some (r, fi', ar') := by rw [hK87]; exact hF
      rw [← hK87] at ih87
      clear hK87
      have J132 : ∀ (x1 : Int32) (fi : FI) (ar : AR) (H : Heap) (locs : List Loc) (ls : Array Slot), M_look_132 K87 nf x1 fi ar = some (r, fi', ar') → lv_has ls 2 [(0, .ref (am 0)), (1, .int x1)] → va_P (gD g) vwCl (WM g am fi ar) H → va_S (AM am s.heap.size) s.heap H locs → W p l e (headSpec (wx yX11_look cX11_look 2 none) ({ frames := 8, cells := 0, slots := 0, locals := 188 } : Room)).room s m ([.ref (am 0)] : List Value).toArray below meth c H locs 0 0 (MQ below (QMv g am s.heap.size r fi' ar') ([.ref (am 0)] : List Value).toArray s 0 0 (AM am s.heap.size)) (F0 m 132 ls []) := by
        intro x1 fi ar H locs ls hF hl hP hS
        unfold M_look_132 at hF
        obtain ⟨x1_12, ex1_12⟩ : ∃ y : Int32, y = (x1) + (1 : Int32) := ⟨_, rfl⟩
        replace hF := bnd_of hF ex1_12
        refine lv_iinc (v := x1_12) (lv' := [(1, .int (x1_12)), (0, .ref (am 0))]) hx hb dX11_look_132 hl (k := 1) rfl (by rw [ex1_12]; rfl) (by decide) rfl (fun ls hl => ?_)
        refine lv_goto (tgt := 87) hx hb dX11_look_135 (by decide) ?_
        exact ih87 (x1_12) _ _ _ _ _ hF (lv_sub hl [1, 0] rfl) hP hS
      unfold M_look_87b at hF
      refine lv_iload_n hx hb dX11_look_87 rfl (lv_at hl 1 rfl) ?_
      refine lv_aload_n hx hb dX11_look_88 rfl (lv_at hl 0 rfl) ?_
      refine mg_17 hx hb hT hown hK hP mw31_10 dX11_look_89 ?_
      refine lv_icmp_ge (tgt := 138) hx hb dX11_look_92 (by decide) (fun hc13 => ?_) (fun hc13 => ?_)
      · replace hF := br_yes hF hc13
        exact J138  _ _ _ _ _ hF (lv_sub hl [0] rfl) hP hS
      · replace hF := br_no hF hc13
        refine lv_aload_n hx hb dX11_look_95 rfl (lv_at hl 0 rfl) ?_
        refine mg_16 hx hb hT hown hK hP mw31_5 dX11_look_96 ?_
        refine lv_if_ne (tgt := 138) hx hb dX11_look_99 (by decide) (fun hc14 => ?_) (fun hc14 => ?_)
        · replace hF := br_no hF hc14
          exact J138  _ _ _ _ _ hF (lv_sub hl [0] rfl) hP hS
        · replace hF := br_yes hF hc14
          refine lv_aload_n hx hb dX11_look_102 rfl (lv_at hl 0 rfl) ?_
          refine mg_25 hx hb hT hown hK hP mw6_10 dX11_look_103 ?_
          refine lv_iload_n hx hb dX11_look_106 rfl (lv_at hl 1 rfl) ?_
          refine lv_aload_n hx hb dX11_look_107 rfl (lv_at hl 0 rfl) ?_
          refine mg_17 hx hb hT hown hK hP mw31_10 dX11_look_108 ?_
          replace hF := gd_of hF
          obtain ⟨hi15, hF⟩ := hF
          obtain ⟨ar16, ear16⟩ : ∃ y : AR, y = va_up ar 25 (upd (ar 25) (x1).toNatClampNeg (fi 17)) := ⟨_, rfl⟩
          replace hF := bnd_of hF ear16
          refine ms_25 hx hb hK hP hD hS hi15 dX11_look_111 (fun H locs hP hS => ?_)
          rw [← ear16] at hP
          refine lv_aload_n hx hb dX11_look_112 rfl (lv_at hl 0 rfl) ?_
          refine mg_24 hx hb hT hown hK hP mw6_9 dX11_look_113 ?_
          refine lv_iload_n hx hb dX11_look_116 rfl (lv_at hl 1 rfl) ?_
          refine lv_iconst (v := (0 : Int32)) hx hb dX11_look_117 (by decide) ?_
          replace hF := gd_of hF
          obtain ⟨hi17, hF⟩ := hF
          obtain ⟨ar18, ear18⟩ : ∃ y : AR, y = va_up ar16 24 (upd (ar16 24) (x1).toNatClampNeg (0 : Int32)) := ⟨_, rfl⟩
          replace hF := bnd_of hF ear18
          refine ms_24 hx hb hK hP hD hS hi17 dX11_look_118 (fun H locs hP hS => ?_)
          rw [← ear18] at hP
          refine lv_aload_n hx hb dX11_look_119 rfl (lv_at hl 0 rfl) ?_
          refine lv_iload_n hx hb dX11_look_120 rfl (lv_at hl 1 rfl) ?_
          replace hF := obnd3_of hF
          obtain ⟨r22, fi20, ar21, h19, hF⟩ := hF
          refine cM_i (As := [.int (x1)]) (rest := []) hx hb hml hT hown hK hE hD hA hP hS (k_isFolder l g am _ nf fi ar18 (x1) r22 fi20 ar21 h19) cw_X11_isFolder mw31_21 ⟨⟨rfl, rfl⟩, Nat.le_of_ble_eq_true rfl, Nat.le_of_ble_eq_true rfl⟩ rfl hl.1 rfl (Nat.le_of_ble_eq_true rfl) dX11_look_121 ⟨Nat.zero_le _, Nat.zero_le _⟩ (fun H locs hP hS => ?_)
          refine lv_if_eq (tgt := 132) hx hb dX11_look_124 (by decide) (fun hc23 => ?_) (fun hc23 => ?_)
          · replace hF := br_yes hF hc23
            exact J132 (x1) _ _ _ _ _ hF (lv_sub hl [0, 1] rfl) hP hS
          · replace hF := br_no hF hc23
            refine lv_aload_n hx hb dX11_look_127 rfl (lv_at hl 0 rfl) ?_
            refine lv_iload_n hx hb dX11_look_128 rfl (lv_at hl 1 rfl) ?_
            replace hF := obnd3_of hF
            obtain ⟨r27, fi25, ar26, h24, hF⟩ := hF
            refine cM_v (As := [.int (x1)]) (rest := []) hx hb hml hT hown hK hE hD hA hP hS (k_scan l g am _ nf fi20 ar21 (x1) r27 fi25 ar26 h24) cw_X11_scan mw32_1 ⟨⟨rfl, rfl⟩, Nat.le_of_ble_eq_true rfl, Nat.le_of_ble_eq_true rfl⟩ rfl hl.1 rfl (Nat.le_of_ble_eq_true rfl) dX11_look_129 ⟨Nat.zero_le _, Nat.zero_le _⟩ (fun H locs hP hS => ?_)
            exact J132 (x1) _ _ _ _ _ hF (lv_sub hl [0, 1] rfl) hP hS
  have L65 : ∀ kf : Nat, ∀ (x1 : Int32) (fi : FI) (ar : AR) (H : Heap) (locs : List Loc) (ls : Array Slot), M_look_65 nf kf x1 fi ar = some (r, fi', ar') → lv_has ls 2 [(0, .ref (am 0)), (1, .int x1)] → va_P (gD g) vwCl (WM g am fi ar) H → va_S (AM am s.heap.size) s.heap H locs → W p l e (headSpec (wx yX11_look cX11_look 2 none) ({ frames := 8, cells := 0, slots := 0, locals := 188 } : Room)).room s m ([.ref (am 0)] : List Value).toArray below meth c H locs 0 0 (MQ below (QMv g am s.heap.size r fi' ar') ([.ref (am 0)] : List Value).toArray s 0 0 (AM am s.heap.size)) (F0 m 65 ls []) := by
    intro kf
    induction kf with
    | zero => intro x1 fi ar H locs ls hF hl hP hS; cases (show (none : Option (Unit × FI × AR)) = _ from hF)
    | succ kf ih65 =>
      intro x1 fi ar H locs ls hF hl hP hS
      obtain ⟨K65, hK65⟩ : ∃ K : Int32 → FI → AR → Option (Unit × FI × AR), K = M_look_65 nf kf := ⟨_, rfl⟩
      replace hF : M_look_65b K65 nf x1 fi ar = some (r, fi', ar') := by rw [hK65]; exact hF
      rw [← hK65] at ih65
      clear hK65
      unfold M_look_65b at hF
      refine lv_iload_n hx hb dX11_look_65 rfl (lv_at hl 1 rfl) ?_
      refine lv_sipush (v := (560 : Int32)) hx hb dX11_look_66 (by decide) ?_
      refine lv_icmp_ge (tgt := 85) hx hb dX11_look_69 (by decide) (fun hc28 => ?_) (fun hc28 => ?_)
      · replace hF := br_yes hF hc28
        refine lv_iconst (v := (0 : Int32)) hx hb dX11_look_85 (by decide) ?_
        refine lv_istore_n (lv' := [(1, .int (0 : Int32)), (0, .ref (am 0))]) hx hb dX11_look_86 rfl hl (by decide) rfl (fun ls hl => ?_)
        exact L87 nf (0 : Int32) _ _ _ _ _ hF (lv_sub hl [1, 0] rfl) hP hS
      · replace hF := br_no hF hc28
        refine lv_aload_n hx hb dX11_look_72 rfl (lv_at hl 0 rfl) ?_
        refine mg_19 hx hb hT hown hK hP mw6_4 dX11_look_73 ?_
        refine lv_iload_n hx hb dX11_look_76 rfl (lv_at hl 1 rfl) ?_
        refine lv_iconst (v := (0 : Int32)) hx hb dX11_look_77 (by decide) ?_
        replace hF := gd_of hF
        obtain ⟨hi29, hF⟩ := hF
        obtain ⟨ar30, ear30⟩ : ∃ y : AR, y = va_up ar 19 (upd (ar 19) (x1).toNatClampNeg (vp_nar .boolean (0 : Int32))) := ⟨_, rfl⟩
        replace hF := bnd_of hF ear30
        refine ms_19 hx hb hK hP hD hS hi29 dX11_look_78 (fun H locs hP hS => ?_)
        rw [← ear30] at hP
        obtain ⟨x1_31, ex1_31⟩ : ∃ y : Int32, y = (x1) + (1 : Int32) := ⟨_, rfl⟩
        replace hF := bnd_of hF ex1_31
        refine lv_iinc (v := x1_31) (lv' := [(1, .int (x1_31)), (0, .ref (am 0))]) hx hb dX11_look_79 hl (k := 1) rfl (by rw [ex1_31]; rfl) (by decide) rfl (fun ls hl => ?_)
        refine lv_goto (tgt := 65) hx hb dX11_look_82 (by decide) ?_
        exact ih65 (x1_31) _ _ _ _ _ hF (lv_sub hl [1, 0] rfl) hP hS
  have J52 : ∀ (t1 : Int32) (fi : FI) (ar : AR) (H : Heap) (locs : List Loc) (ls : Array Slot), M_look_52 nf t1 fi ar = some (r, fi', ar') → lv_has ls 2 [(0, .ref (am 0))] → va_P (gD g) vwCl (WM g am fi ar) H → va_S (AM am s.heap.size) s.heap H locs → W p l e (headSpec (wx yX11_look cX11_look 2 none) ({ frames := 8, cells := 0, slots := 0, locals := 188 } : Room)).room s m ([.ref (am 0)] : List Value).toArray below meth c H locs 0 0 (MQ below (QMv g am s.heap.size r fi' ar') ([.ref (am 0)] : List Value).toArray s 0 0 (AM am s.heap.size)) (F0 m 52 ls [.int t1, .ref (am 0)]) := by
    intro t1 fi ar H locs ls hF hl hP hS
    unfold M_look_52 at hF
    obtain ⟨fi32, efi32⟩ : ∃ y : FI, y = va_up fi 16 (t1) := ⟨_, rfl⟩
    replace hF := bnd_of hF efi32
    refine mp_16 hx hb hT hown hK hP hD hS mw31_5 dX11_look_52 (fun H locs hP hS => ?_)
    rw [← efi32] at hP
    refine lv_aload_n hx hb dX11_look_55 rfl (lv_at hl 0 rfl) ?_
    refine mg_16 hx hb hT hown hK hP mw31_5 dX11_look_56 ?_
    refine lv_if_le (tgt := 63) hx hb dX11_look_59 (by decide) (fun hc33 => ?_) (fun hc33 => ?_)
    · replace hF := br_yes hF hc33
      refine lv_iconst (v := (0 : Int32)) hx hb dX11_look_63 (by decide) ?_
      refine lv_istore_n (lv' := [(1, .int (0 : Int32)), (0, .ref (am 0))]) hx hb dX11_look_64 rfl hl (by decide) rfl (fun ls hl => ?_)
      exact L65 nf (0 : Int32) _ _ _ _ _ hF (lv_sub hl [1, 0] rfl) hP hS
    · replace hF := br_no hF hc33
      exact rM_v hx hb hr hlocks hF hP hS dX11_look_62
  replace hl := lv_sub hl [0] rfl
  refine lv_aload_n hx hb dX11_look_0 rfl (lv_at hl 0 rfl) ?_
  refine mg_15 hx hb hT hown hK hP mw20_18 dX11_look_1 ?_
  refine lv_if_eq (tgt := 8) hx hb dX11_look_4 (by decide) (fun hc34 => ?_) (fun hc34 => ?_)
  · replace hF := br_yes hF hc34
    refine lv_aload_n hx hb dX11_look_8 rfl (lv_at hl 0 rfl) ?_
    refine lv_iconst (v := (1 : Int32)) hx hb dX11_look_9 (by decide) ?_
    obtain ⟨fi35, efi35⟩ : ∃ y : FI, y = va_up fi 15 (1 : Int32) := ⟨_, rfl⟩
    replace hF := bnd_of hF efi35
    refine mp_15 hx hb hT hown hK hP hD hS mw20_18 rfl rfl dX11_look_10 (fun H locs hP hS => ?_)
    rw [← efi35] at hP
    refine lv_aload_n hx hb dX11_look_13 rfl (lv_at hl 0 rfl) ?_
    refine lv_iconst (v := (1 : Int32)) hx hb dX11_look_14 (by decide) ?_
    obtain ⟨fi36, efi36⟩ : ∃ y : FI, y = va_up fi35 17 (1 : Int32) := ⟨_, rfl⟩
    replace hF := bnd_of hF efi36
    refine mp_17 hx hb hT hown hK hP hD hS mw31_10 dX11_look_15 (fun H locs hP hS => ?_)
    rw [← efi36] at hP
    refine lv_aload_n hx hb dX11_look_18 rfl (lv_at hl 0 rfl) ?_
    refine lv_iconst (v := (0 : Int32)) hx hb dX11_look_19 (by decide) ?_
    obtain ⟨fi37, efi37⟩ : ∃ y : FI, y = va_up fi36 18 (0 : Int32) := ⟨_, rfl⟩
    replace hF := bnd_of hF efi37
    refine mp_18 hx hb hT hown hK hP hD hS mw31_11 dX11_look_20 (fun H locs hP hS => ?_)
    rw [← efi37] at hP
    refine lv_aload_n hx hb dX11_look_23 rfl (lv_at hl 0 rfl) ?_
    refine lv_iconst (v := (-1 : Int32)) hx hb dX11_look_24 (by decide) ?_
    obtain ⟨fi38, efi38⟩ : ∃ y : FI, y = va_up fi37 33 (-1 : Int32) := ⟨_, rfl⟩
    replace hF := bnd_of hF efi38
    refine mp_33 hx hb hT hown hK hP hD hS mw31_12 dX11_look_25 (fun H locs hP hS => ?_)
    rw [← efi38] at hP
    refine lv_aload_n hx hb dX11_look_28 rfl (lv_at hl 0 rfl) ?_
    refine lv_aload_n hx hb dX11_look_29 rfl (lv_at hl 0 rfl) ?_
    replace hF := obnd3_of hF
    obtain ⟨r42, fi40, ar41, h39, hF⟩ := hF
    refine cM_i (As := []) (rest := [.ref (am 0)]) hx hb hml hT hown hK hE hD hA hP hS (k_head l g am _ nf fi38 ar r42 fi40 ar41 h39) cw_X11_head mw18_22 ⟨⟨rfl, rfl⟩, Nat.le_of_ble_eq_true rfl, Nat.le_of_ble_eq_true rfl⟩ rfl hl.1 rfl (Nat.le_of_ble_eq_true rfl) dX11_look_30 ⟨Nat.zero_le _, Nat.zero_le _⟩ (fun H locs hP hS => ?_)
    refine lv_if_ne (tgt := 40) hx hb dX11_look_33 (by decide) (fun hc43 => ?_) (fun hc43 => ?_)
    · replace hF := br_no hF hc43
      refine lv_aload_n hx hb dX11_look_40 rfl (lv_at hl 0 rfl) ?_
      replace hF := obnd3_of hF
      obtain ⟨r47, fi45, ar46, h44, hF⟩ := hF
      refine cM_i (As := []) (rest := [.ref (am 0)]) hx hb hml hT hown hK hE hD hA hP hS (k_badTables l g am _ nf fi40 ar41 r47 fi45 ar46 h44) cw_X11_badTables mw31_13 ⟨⟨rfl, rfl⟩, Nat.le_of_ble_eq_true rfl, Nat.le_of_ble_eq_true rfl⟩ rfl hl.1 rfl (Nat.le_of_ble_eq_true rfl) dX11_look_41 ⟨Nat.zero_le _, Nat.zero_le _⟩ (fun H locs hP hS => ?_)
      refine lv_if_eq (tgt := 51) hx hb dX11_look_44 (by decide) (fun hc48 => ?_) (fun hc48 => ?_)
      · replace hF := br_yes hF hc48
        refine lv_iconst (v := (0 : Int32)) hx hb dX11_look_51 (by decide) ?_
        exact J52 (0 : Int32) _ _ _ _ _ hF (lv_sub hl [0] rfl) hP hS
      · replace hF := br_no hF hc48
        refine lv_iconst (v := (2 : Int32)) hx hb dX11_look_47 (by decide) ?_
        refine lv_goto (tgt := 52) hx hb dX11_look_48 (by decide) ?_
        exact J52 (2 : Int32) _ _ _ _ _ hF (lv_sub hl [0] rfl) hP hS
    · replace hF := br_yes hF hc43
      refine lv_iconst (v := (1 : Int32)) hx hb dX11_look_36 (by decide) ?_
      refine lv_goto (tgt := 52) hx hb dX11_look_37 (by decide) ?_
      exact J52 (1 : Int32) _ _ _ _ _ hF (lv_sub hl [0] rfl) hP hS
  · replace hF := br_no hF hc34
    exact rM_v hx hb hr hlocks hF hP hS dX11_look_7
theorem cw_X11_look : (Cond.instanceMethod yX11_look ∈ TB ∧ Cond.selects RX11 yX11_look yX11_look ∈ TB ∧ Cond.code yX11_look cX11_look 2 none ∈ TB) ∧ (yX11_look.cls = RX11 ∧ yX11_look.cls ≠ "java/lang/invoke/MethodHandle" ∧ yX11_look.cls ≠ "java/lang/invoke/VarHandle" ∧ (parseMethodDescriptor yX11_look.desc).map (fun d => d.parameters.length) = some 0) := ⟨⟨mw31_7, mw31_8, mw31_9⟩, by decide +kernel⟩
/-! X11_loadFolder -/
noncomputable def M_loadFolder_11b (K11 : Int32 → FI → AR → Option (Unit × FI × AR)) (nf : Nat) (x2 : Int32) (fi : FI) (ar : AR) : Option (Unit × FI × AR) :=
  br ((fi 31) ≤ (x2)) (bnd (va_up fi 32 (fi 31)) fun fi2 => some ((), fi2, ar)) (gd (¬ ((x2) < 0 ∨ 560 ≤ (x2).toNatClampNeg)) (gd (¬ ((x2) < 0 ∨ 560 ≤ (x2).toNatClampNeg)) (bnd (va_up ar 30 (upd (ar 30) (x2).toNatClampNeg (ar 29 (x2).toNatClampNeg))) fun ar5 => bnd ((x2) + (1 : Int32)) fun x2_6 => K11 (x2_6) fi ar5)))
noncomputable def M_loadFolder_11 (nf : Nat) (kf : Nat) : Int32 → FI → AR → Option (Unit × FI × AR) := Nat.rec (fun _ _ _ => none) (fun _ K11 => M_loadFolder_11b K11 nf) kf
noncomputable def M_loadFolder (nf : Nat) (fi : FI) (ar : AR) (x1 : Int32) : Option (Unit × FI × AR) :=
  obnd3 (M_beginOf nf fi ar (x1)) fun r10 fi8 ar9 => obnd3 (M_walk nf fi8 ar9 (r10)) fun r14 fi12 ar13 => M_loadFolder_11 nf nf (0 : Int32) fi12 ar13
set_option maxHeartbeats 4000000 in
set_option maxRecDepth 100000 in
theorem k_loadFolder (l : Launch) (g : GT) (am : Nat → Nat) (sz : Nat) (nf : Nat) (fi : FI) (ar : AR) (p1 : Int32) (r : Unit) (fi' : FI) (ar' : AR) (hF : M_loadFolder nf fi ar p1 = some (r, fi', ar')) : Met l yX11_loadFolder (wx yX11_loadFolder cX11_loadFolder 3 none) ({ frames := 5, cells := 0, slots := 0, locals := 106 } : Room) (va_Pc [.ref (am 0), .int p1] (PM g am sz fi ar)) (QMv g am sz r fi' ar') 0 0 (AM am sz) := by
  refine Met.ofW (cc := cX11_loadFolder) (maxL := 3) (ret := none) (by decide) rfl ?_
  intro p e s m args below meth c s₁ B hml hv
  obtain ⟨rfl, hsz, hP, hK, hD0, hE⟩ := hv
  have hx := B.exec
  have hb := B.bytes
  have hr := B.returns
  have hts := atoms_spec (ws := (wx yX11_loadFolder cX11_loadFolder 3 none)) B.pre
  have hT : ∀ w ∈ TB, w.before _ s = true := fun w h => hts w (List.mem_cons_of_mem _ h)
  have hown : s.vm.findClass RX11 = some m.cls := findClass_of_methodNamed B.named
  have hlocks := B.notSynchronized
  subst hsz
  have hD := dM hD0 s.heap.size
  have hA : ∀ q : Nat, s.heap.size ≤ q → AM am s.heap.size q := fun q h => Or.inr h
  have hS : va_S (AM am s.heap.size) s.heap s.heap [] := va_S.rf
  have hl := lv_entry ([.ref (am 0), .int p1]) (n := 3) (Nat.le_of_ble_eq_true rfl)
  rw [lg_entry_eq]
  generalize (lg_sl ([.ref (am 0), .int p1]) ++ List.replicate (3 - (lg_sl ([.ref (am 0), .int p1])).length) Slot.unset).toArray = ls at hl ⊢
  have hl : lv_has ls 3 [(0, .ref (am 0)), (1, .int p1)] := hl
  unfold M_loadFolder at hF
  have L11 : ∀ kf : Nat, ∀ (x2 : Int32) (fi : FI) (ar : AR) (H : Heap) (locs : List Loc) (ls : Array Slot), M_loadFolder_11 nf kf x2 fi ar = some (r, fi', ar') → lv_has ls 3 [(0, .ref (am 0)), (2, .int x2)] → va_P (gD g) vwCl (WM g am fi ar) H → va_S (AM am s.heap.size) s.heap H locs → W p l e (headSpec (wx yX11_loadFolder cX11_loadFolder 3 none) ({ frames := 5, cells := 0, slots := 0, locals := 106 } : Room)).room s m ([.ref (am 0), .int p1] : List Value).toArray below meth c H locs 0 0 (MQ below (QMv g am s.heap.size r fi' ar') ([.ref (am 0), .int p1] : List Value).toArray s 0 0 (AM am s.heap.size)) (F0 m 11 ls []) := by
    intro kf
    induction kf with
    | zero => intro x2 fi ar H locs ls hF hl hP hS; cases (show (none : Option (Unit × FI × AR)) = _ from hF)
    | succ kf ih11 =>
      intro x2 fi ar H locs ls hF hl hP hS
      obtain ⟨K11, hK11⟩ : ∃ K : Int32 → FI → AR → Option (Unit × FI × AR), K = M_loadFolder_11 nf kf := ⟨_, rfl⟩
      replace hF : M_loadFolder_11b K11 nf x2 fi ar = some (r, fi', ar') := by rw [hK11]; exact hF
      rw [← hK11] at ih11
      clear hK11
      unfold M_loadFolder_11b at hF
      refine lv_iload_n hx hb dX11_loadFolder_11 rfl (lv_at hl 1 rfl) ?_
      refine lv_aload_n hx hb dX11_loadFolder_12 rfl (lv_at hl 0 rfl) ?_
      refine mg_31 hx hb hT hown hK hP mw32_5 dX11_loadFolder_13 ?_
      refine lv_icmp_ge (tgt := 37) hx hb dX11_loadFolder_16 (by decide) (fun hc1 => ?_) (fun hc1 => ?_)
      · replace hF := br_yes hF hc1
        refine lv_aload_n hx hb dX11_loadFolder_37 rfl (lv_at hl 0 rfl) ?_
        refine lv_aload_n hx hb dX11_loadFolder_38 rfl (lv_at hl 0 rfl) ?_
        refine mg_31 hx hb hT hown hK hP mw32_5 dX11_loadFolder_39 ?_
        obtain ⟨fi2, efi2⟩ : ∃ y : FI, y = va_up fi 32 (fi 31) := ⟨_, rfl⟩
        replace hF := bnd_of hF efi2
        refine mp_32 hx hb hT hown hK hP hD hS mw32_6 dX11_loadFolder_42 (fun H locs hP hS => ?_)
        rw [← efi2] at hP
        exact rM_v hx hb hr hlocks hF hP hS dX11_loadFolder_45
      · replace hF := br_no hF hc1
        refine lv_aload_n hx hb dX11_loadFolder_19 rfl (lv_at hl 0 rfl) ?_
        refine mg_30 hx hb hT hown hK hP mw6_17 dX11_loadFolder_20 ?_
        refine lv_iload_n hx hb dX11_loadFolder_23 rfl (lv_at hl 1 rfl) ?_
        refine lv_aload_n hx hb dX11_loadFolder_24 rfl (lv_at hl 0 rfl) ?_
        refine mg_29 hx hb hT hown hK hP mw6_16 dX11_loadFolder_25 ?_
        refine lv_iload_n hx hb dX11_loadFolder_28 rfl (lv_at hl 1 rfl) ?_
        replace hF := gd_of hF
        obtain ⟨hi3, hF⟩ := hF
        refine ml_29 hx hb hK hP hi3 dX11_loadFolder_29 ?_
        replace hF := gd_of hF
        obtain ⟨hi4, hF⟩ := hF
        obtain ⟨ar5, ear5⟩ : ∃ y : AR, y = va_up ar 30 (upd (ar 30) (x2).toNatClampNeg (ar 29 (x2).toNatClampNeg)) := ⟨_, rfl⟩
        replace hF := bnd_of hF ear5
        refine ms_30 hx hb hK hP hD hS hi4 dX11_loadFolder_30 (fun H locs hP hS => ?_)
        rw [← ear5] at hP
        obtain ⟨x2_6, ex2_6⟩ : ∃ y : Int32, y = (x2) + (1 : Int32) := ⟨_, rfl⟩
        replace hF := bnd_of hF ex2_6
        refine lv_iinc (v := x2_6) (lv' := [(2, .int (x2_6)), (0, .ref (am 0))]) hx hb dX11_loadFolder_31 hl (k := 1) rfl (by rw [ex2_6]; rfl) (by decide) rfl (fun ls hl => ?_)
        refine lv_goto (tgt := 11) hx hb dX11_loadFolder_34 (by decide) ?_
        exact ih11 (x2_6) _ _ _ _ _ hF (lv_sub hl [1, 0] rfl) hP hS
  replace hl := lv_sub hl [0, 1] rfl
  refine lv_aload_n hx hb dX11_loadFolder_0 rfl (lv_at hl 0 rfl) ?_
  refine lv_aload_n hx hb dX11_loadFolder_1 rfl (lv_at hl 0 rfl) ?_
  refine lv_iload_n hx hb dX11_loadFolder_2 rfl (lv_at hl 1 rfl) ?_
  replace hF := obnd3_of hF
  obtain ⟨r10, fi8, ar9, h7, hF⟩ := hF
  refine cM_i (As := [.int (p1)]) (rest := [.ref (am 0)]) hx hb hml hT hown hK hE hD hA hP hS (k_beginOf l g am _ nf fi ar (p1) r10 fi8 ar9 h7) cw_X11_beginOf mw32_9 ⟨⟨rfl, rfl⟩, Nat.le_of_ble_eq_true rfl, Nat.le_of_ble_eq_true rfl⟩ rfl hl.1 rfl (Nat.le_of_ble_eq_true rfl) dX11_loadFolder_3 ⟨Nat.zero_le _, Nat.zero_le _⟩ (fun H locs hP hS => ?_)
  replace hF := obnd3_of hF
  obtain ⟨r14, fi12, ar13, h11, hF⟩ := hF
  refine cM_v (As := [.int (r10)]) (rest := []) hx hb hml hT hown hK hE hD hA hP hS (k_walk l g am _ nf fi8 ar9 (r10) r14 fi12 ar13 h11) cw_X11_walk mw43_9 ⟨⟨rfl, rfl⟩, Nat.le_of_ble_eq_true rfl, Nat.le_of_ble_eq_true rfl⟩ rfl hl.1 rfl (Nat.le_of_ble_eq_true rfl) dX11_loadFolder_6 ⟨Nat.zero_le _, Nat.zero_le _⟩ (fun H locs hP hS => ?_)
  refine lv_iconst (v := (0 : Int32)) hx hb dX11_loadFolder_9 (by decide) ?_
  refine lv_istore_n (lv' := [(2, .int (0 : Int32)), (0, .ref (am 0)), (1, .int (p1))]) hx hb dX11_loadFolder_10 rfl hl (by decide) rfl (fun ls hl => ?_)
  exact L11 nf (0 : Int32) _ _ _ _ _ hF (lv_sub hl [1, 0] rfl) hP hS
theorem cw_X11_loadFolder : (Cond.instanceMethod yX11_loadFolder ∈ TB ∧ Cond.selects RX11 yX11_loadFolder yX11_loadFolder ∈ TB ∧ Cond.code yX11_loadFolder cX11_loadFolder 3 none ∈ TB) ∧ (yX11_loadFolder.cls = RX11 ∧ yX11_loadFolder.cls ≠ "java/lang/invoke/MethodHandle" ∧ yX11_loadFolder.cls ≠ "java/lang/invoke/VarHandle" ∧ (parseMethodDescriptor yX11_loadFolder.desc).map (fun d => d.parameters.length) = some 1) := ⟨⟨mw50_1, mw50_2, mw50_3⟩, by decide +kernel⟩
