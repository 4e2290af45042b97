/-! X11_admit -/
noncomputable def M_admit_528 (nf : Nat) (t0 : Int32) (fi : FI) (ar : AR) : Option (Int32 × FI × AR) :=
  some ((t0), fi, ar)
noncomputable def M_admit_527 (nf : Nat)  (fi : FI) (ar : AR) : Option (Int32 × FI × AR) :=
  M_admit_528 nf  (3 : Int32) fi ar
noncomputable def M_admit_485 (nf : Nat) (t0 : Int32) (fi : FI) (ar : AR) : Option (Int32 × FI × AR) :=
  some ((t0), fi, ar)
noncomputable def M_admit_375b (K375 : Int32 → Int32 → Int32 → Int32 → FI → AR → Option (Int32 × FI × AR)) (nf : Nat) (x1 : Int32) (x2 : Int32) (x4 : Int32) (x6 : Int32) (fi : FI) (ar : AR) : Option (Int32 × FI × AR) :=
  br ((fi 35) ≤ (x6)) (bnd (va_up fi 18 ((fi 18) + (fi 35))) fun fi2 => bnd (va_up fi2 17 ((fi2 17) + (1 : Int32))) fun fi3 => gd (¬ ((x2) < 0 ∨ 16400 ≤ (x2).toNatClampNeg)) (gd (¬ ((x2) < 0 ∨ 16400 ≤ (x2).toNatClampNeg)) (bnd (va_up ar 24 (upd (ar 24) (x2).toNatClampNeg ((ar 24 (x2).toNatClampNeg) + (1 : Int32)))) fun ar6 => bnd (va_up fi3 36 (0 : Int32)) fun fi7 => br (((x4) &&& (16 : Int32)) = 0) (obnd3 (M_four nf fi7 ar6 ((x1) + (28 : Int32))) fun r12 fi10 ar11 => br ((r12) = 0) (obnd3 (M_firstOf nf fi10 ar11 (x1)) fun r30 fi28 ar29 => br ((r30) = 0) (M_admit_485 nf  (0 : Int32) fi28 ar29) (M_admit_485 nf  (3 : Int32) fi28 ar29)) (br ((r12) ≤ 0) (M_admit_527 nf  fi10 ar11) (obnd3 (M_firstOf nf fi10 ar11 (x1)) fun r18 fi16 ar17 => obnd3 (M_follows nf fi16 ar17 (r18)) fun r22 fi20 ar21 => br ((r22) = 0) (M_admit_527 nf  fi20 ar21) (obnd (M_whole nf (r12) ((512 : Int32) * (fi20 7))) fun r25 => br ((fi20 31) = (r25)) (M_admit_528 nf  (0 : Int32) fi20 ar21) (M_admit_527 nf  fi20 ar21))))) (some ((0 : Int32), fi7, ar6))))) (gd (¬ ((x6) < 0 ∨ 300 ≤ (x6).toNatClampNeg)) (gd (¬ (((fi 18) + (x6)) < 0 ∨ 213600 ≤ ((fi 18) + (x6)).toNatClampNeg)) (bnd (va_up ar 28 (upd (ar 28) ((fi 18) + (x6)).toNatClampNeg (vp_nar .char (ar 34 (x6).toNatClampNeg)))) fun ar34 => bnd ((x6) + (1 : Int32)) fun x6_35 => K375 (x1) (x2) (x4) (x6_35) fi ar34)))
noncomputable def M_admit_375 (nf : Nat) (kf : Nat) : Int32 → Int32 → Int32 → Int32 → FI → AR → Option (Int32 × FI × AR) := Nat.rec (fun _ _ _ _ _ _ => none) (fun _ K375 => M_admit_375b K375 nf) kf
noncomputable def M_admit_282 (K225 : Int32 → Int32 → Int32 → Int32 → Int32 → FI → AR → Option (Int32 × FI × AR)) (K240 : Int32 → Int32 → Int32 → Int32 → Int32 → Int32 → Int32 → FI → AR → Option (Int32 × FI × AR)) (nf : Nat) (x1 : Int32) (x2 : Int32) (x3 : Int32) (x4 : Int32) (x6 : Int32) (x8 : Int32) (t0 : Int32) (fi : FI) (ar : AR) : Option (Int32 × FI × AR) :=
  bnd ((x8) + (1 : Int32)) fun x8_36 => K240 (x1) (x2) (x3) (x4) (x6) (t0) (x8_36) fi ar
noncomputable def M_admit_281 (K225 : Int32 → Int32 → Int32 → Int32 → Int32 → FI → AR → Option (Int32 × FI × AR)) (K240 : Int32 → Int32 → Int32 → Int32 → Int32 → Int32 → Int32 → FI → AR → Option (Int32 × FI × AR)) (nf : Nat) (x1 : Int32) (x2 : Int32) (x3 : Int32) (x4 : Int32) (x6 : Int32) (x8 : Int32) (fi : FI) (ar : AR) : Option (Int32 × FI × AR) :=
  M_admit_282 K225 K240 nf  (x1) (x2) (x3) (x4) (x6) (x8) (0 : Int32) fi ar
noncomputable def M_admit_240b (K240 : Int32 → Int32 → Int32 → Int32 → Int32 → Int32 → Int32 → FI → AR → Option (Int32 × FI × AR)) (K225 : Int32 → Int32 → Int32 → Int32 → Int32 → FI → AR → Option (Int32 × FI × AR)) (nf : Nat) (x1 : Int32) (x2 : Int32) (x3 : Int32) (x4 : Int32) (x6 : Int32) (x7 : Int32) (x8 : Int32) (fi : FI) (ar : AR) : Option (Int32 × FI × AR) :=
  br ((11 : Int32) ≤ (x8)) (br ((x7) = 0) (bnd ((x6) + (1 : Int32)) fun x6_39 => K225 (x1) (x2) (x3) (x4) (x6_39) fi ar) (some ((5 : Int32), fi, ar))) (br ((x7) = 0) (M_admit_281 K225 K240 nf  (x1) (x2) (x3) (x4) (x6) (x8) fi ar) (gd (¬ ((x6) < 0 ∨ 16400 ≤ (x6).toNatClampNeg)) (obnd3 (M_one nf fi ar ((ar 20 (x6).toNatClampNeg) + (x8))) fun r45 fi43 ar44 => obnd3 (M_one nf fi43 ar44 ((x1) + (x8))) fun r49 fi47 ar48 => br ((r45) = (r49)) (M_admit_282 K225 K240 nf  (x1) (x2) (x3) (x4) (x6) (x8) (1 : Int32) fi47 ar48) (M_admit_281 K225 K240 nf  (x1) (x2) (x3) (x4) (x6) (x8) fi47 ar48))))
noncomputable def M_admit_240 (K225 : Int32 → Int32 → Int32 → Int32 → Int32 → FI → AR → Option (Int32 × FI × AR)) (nf : Nat) (kf : Nat) : Int32 → Int32 → Int32 → Int32 → Int32 → Int32 → Int32 → FI → AR → Option (Int32 × FI × AR) := Nat.rec (fun _ _ _ _ _ _ _ _ _ => none) (fun _ K240 => M_admit_240b K240 K225 nf) kf
noncomputable def M_admit_225b (K225 : Int32 → Int32 → Int32 → Int32 → Int32 → FI → AR → Option (Int32 × FI × AR)) (nf : Nat) (x1 : Int32) (x2 : Int32) (x3 : Int32) (x4 : Int32) (x6 : Int32) (fi : FI) (ar : AR) : Option (Int32 × FI × AR) :=
  br ((fi 17) ≤ (x6)) (gd (¬ ((fi 17) < 0 ∨ 16400 ≤ (fi 17).toNatClampNeg)) (bnd (va_up ar 20 (upd (ar 20) (fi 17).toNatClampNeg (x1))) fun ar53 => gd (¬ ((fi 17) < 0 ∨ 16400 ≤ (fi 17).toNatClampNeg)) (bnd (va_up ar53 21 (upd (ar53 21) (fi 17).toNatClampNeg (x3))) fun ar55 => gd (¬ ((fi 17) < 0 ∨ 16400 ≤ (fi 17).toNatClampNeg)) (bnd (va_up ar55 22 (upd (ar55 22) (fi 17).toNatClampNeg (fi 36))) fun ar57 => gd (¬ ((fi 17) < 0 ∨ 16400 ≤ (fi 17).toNatClampNeg)) (bnd (va_up ar57 23 (upd (ar57 23) (fi 17).toNatClampNeg (x2))) fun ar59 => gd (¬ ((fi 17) < 0 ∨ 16400 ≤ (fi 17).toNatClampNeg)) (bnd (va_up ar59 26 (upd (ar59 26) (fi 17).toNatClampNeg (fi 18))) fun ar61 => gd (¬ ((fi 17) < 0 ∨ 16400 ≤ (fi 17).toNatClampNeg)) (bnd (va_up ar61 27 (upd (ar61 27) (fi 17).toNatClampNeg (fi 35))) fun ar63 => M_admit_375 nf nf (x1) (x2) (x4) (0 : Int32) fi ar63))))))) (M_admit_240 K225 nf nf (x1) (x2) (x3) (x4) (x6) (1 : Int32) (0 : Int32) fi ar)
noncomputable def M_admit_225 (nf : Nat) (kf : Nat) : Int32 → Int32 → Int32 → Int32 → Int32 → FI → AR → Option (Int32 × FI × AR) := Nat.rec (fun _ _ _ _ _ _ _ => none) (fun _ K225 => M_admit_225b K225 nf) kf
noncomputable def M_admit_200 (nf : Nat) (x1 : Int32) (x2 : Int32) (x3 : Int32) (x4 : Int32) (x5 : Int32) (fi : FI) (ar : AR) : Option (Int32 × FI × AR) :=
  br ((x5) = 0) (obnd3 (M_isTaken nf fi ar (x2)) fun r68 fi66 ar67 => br ((r68) = 0) (gd (¬ ((x2) < 0 ∨ 16400 ≤ (x2).toNatClampNeg)) (bnd (ar67 25 (x2).toNatClampNeg) fun x6_71 => M_admit_225 nf nf (x1) (x2) (x3) (x4) (x6_71) fi66 ar67)) (some ((5 : Int32), fi66, ar67))) (some ((4 : Int32), fi, ar))
noncomputable def M_admit_190 (nf : Nat) (x1 : Int32) (x2 : Int32) (x3 : Int32) (x4 : Int32) (t0 : Int32) (fi : FI) (ar : AR) : Option (Int32 × FI × AR) :=
  M_admit_200 nf  (x1) (x2) (x3) (x4) (t0) fi ar
noncomputable def M_admit_185 (nf : Nat) (x1 : Int32) (x2 : Int32) (x3 : Int32) (x4 : Int32) (fi : FI) (ar : AR) : Option (Int32 × FI × AR) :=
  M_admit_190 nf  (x1) (x2) (x3) (x4) (1 : Int32) fi ar
noncomputable def M_admit_145 (nf : Nat) (x1 : Int32) (x2 : Int32) (x3 : Int32) (x4 : Int32) (t0 : Int32) (fi : FI) (ar : AR) : Option (Int32 × FI × AR) :=
  br ((fi 36) ≤ 0) (obnd3 (M_shown nf fi ar (x1)) fun r76 fi74 ar75 => M_admit_200 nf  (x1) (x2) (x3) (x4) (t0) fi74 ar75) (br ((t0) = 0) (br (0 < (fi 37)) (M_admit_185 nf  (x1) (x2) (x3) (x4) fi ar) (obnd3 (M_sumOf nf fi ar (x1)) fun r82 fi80 ar81 => br ((r82) = (fi80 38)) (obnd3 (M_said nf fi80 ar81) fun r87 fi85 ar86 => br ((r87) = 0) (M_admit_185 nf  (x1) (x2) (x3) (x4) fi85 ar86) (M_admit_190 nf  (x1) (x2) (x3) (x4) (0 : Int32) fi85 ar86)) (M_admit_185 nf  (x1) (x2) (x3) (x4) fi80 ar81))) (M_admit_185 nf  (x1) (x2) (x3) (x4) fi ar))
noncomputable def M_admit_144 (nf : Nat) (x1 : Int32) (x2 : Int32) (x3 : Int32) (x4 : Int32) (fi : FI) (ar : AR) : Option (Int32 × FI × AR) :=
  M_admit_145 nf  (x1) (x2) (x3) (x4) (0 : Int32) fi ar
noncomputable def M_admit_140 (nf : Nat) (x1 : Int32) (x2 : Int32) (x3 : Int32) (x4 : Int32) (fi : FI) (ar : AR) : Option (Int32 × FI × AR) :=
  M_admit_145 nf  (x1) (x2) (x3) (x4) (1 : Int32) fi ar
noncomputable def M_admit_111 (nf : Nat) (t0 : Int32) (fi : FI) (ar : AR) : Option (Int32 × FI × AR) :=
  some ((t0), fi, ar)
noncomputable def M_admit_94 (nf : Nat) (x1 : Int32) (t0 : Int32) (fi : FI) (ar : AR) : Option (Int32 × FI × AR) :=
  bnd (va_up fi 33 (x1)) fun fi89 => br ((t0) = 0) (M_admit_111 nf  (0 : Int32) fi89 ar) (M_admit_111 nf  (4 : Int32) fi89 ar)
noncomputable def M_admit_89 (nf : Nat) (x1 : Int32) (fi : FI) (ar : AR) : Option (Int32 × FI × AR) :=
  M_admit_94 nf  (x1) (1 : Int32) fi ar
noncomputable def M_admit_25 (nf : Nat)  (fi : FI) (ar : AR) : Option (Int32 × FI × AR) :=
  some ((4 : Int32), fi, ar)
noncomputable def M_admit (nf : Nat) (fi : FI) (ar : AR) (x1 : Int32) (x2 : Int32) (x3 : Int32) : Option (Int32 × FI × AR) :=
  obnd3 (M_one nf fi ar ((x1) + (11 : Int32))) fun r94 fi92 ar93 => br ((63 : Int32) < (r94)) (M_admit_25 nf  fi92 ar93) (obnd3 (M_areDays nf fi92 ar93 (x1)) fun r99 fi97 ar98 => br ((r99) = 0) (M_admit_25 nf  fi97 ar98) (br (((r94) &&& (8 : Int32)) = 0) (obnd3 (M_isShort nf fi97 ar98 (x1) (0 : Int32)) fun r105 fi103 ar104 => br ((r105) = 0) (M_admit_140 nf  (x1) (x2) (x3) (r94) fi103 ar104) (br (((r94) &&& (16 : Int32)) = 0) (M_admit_144 nf  (x1) (x2) (x3) (r94) fi103 ar104) (obnd3 (M_four nf fi103 ar104 ((x1) + (28 : Int32))) fun r111 fi109 ar110 => br ((r111) = 0) (M_admit_144 nf  (x1) (x2) (x3) (r94) fi109 ar110) (M_admit_140 nf  (x1) (x2) (x3) (r94) fi109 ar110)))) (br (((r94) &&& (16 : Int32)) = 0) (br (0 < (x2)) (M_admit_89 nf  (x1) fi97 ar98) (br (0 ≤ (fi97 33)) (M_admit_89 nf  (x1) fi97 ar98) (br (0 < (fi97 36)) (M_admit_89 nf  (x1) fi97 ar98) (obnd3 (M_firstOf nf fi97 ar98 (x1)) fun r120 fi118 ar119 => br ((r120) = 0) (obnd3 (M_four nf fi118 ar119 ((x1) + (28 : Int32))) fun r125 fi123 ar124 => br ((r125) = 0) (obnd3 (M_isShort nf fi123 ar124 (x1) (1 : Int32)) fun r130 fi128 ar129 => br ((r130) = 0) (M_admit_89 nf  (x1) fi128 ar129) (M_admit_94 nf  (x1) (0 : Int32) fi128 ar129)) (M_admit_89 nf  (x1) fi123 ar124)) (M_admit_89 nf  (x1) fi118 ar119))))) (M_admit_89 nf  (x1) fi97 ar98))))
set_option maxHeartbeats 4000000 in
set_option maxRecDepth 100000 in
theorem k_admit (l : Launch) (g : GT) (am : Nat → Nat) (sz : Nat) (nf : Nat) (fi : FI) (ar : AR) (p1 : Int32) (p2 : Int32) (p3 : Int32) (r : Int32) (fi' : FI) (ar' : AR) (hF : M_admit nf fi ar p1 p2 p3 = some (r, fi', ar')) : Met l yX11_admit (wx yX11_admit cX11_admit 9 (some .int)) ({ frames := 6, cells := 0, slots := 0, locals := 137 } : Room) (va_Pc [.ref (am 0), .int p1, .int p2, .int p3] (PM g am sz fi ar)) (QMi g am sz r fi' ar') 0 0 (AM am sz) := by
  refine Met.ofW (cc := cX11_admit) (maxL := 9) (ret := (some .int)) (by decide) rfl ?_
  intro p e s m args below meth c s₁ B hml hv
  obtain ⟨rfl, hsz, hP, hK, hD0, hE⟩ := hv
  have hx := B.exec
  have hb := B.bytes
  have hr := B.returns
  have hts := atoms_spec (ws := (wx yX11_admit cX11_admit 9 (some .int))) B.pre
  have hT : ∀ w ∈ TB, w.before _ s = true := fun w h => hts w (List.mem_cons_of_mem _ h)
  have hown : s.vm.findClass RX11 = some m.cls := findClass_of_methodNamed B.named
  have hlocks := B.notSynchronized
  subst hsz
  have hD := dM hD0 s.heap.size
  have hA : ∀ q : Nat, s.heap.size ≤ q → AM am s.heap.size q := fun q h => Or.inr h
  have hS : va_S (AM am s.heap.size) s.heap s.heap [] := va_S.rf
  have hl := lv_entry ([.ref (am 0), .int p1, .int p2, .int p3]) (n := 9) (Nat.le_of_ble_eq_true rfl)
  rw [lg_entry_eq]
  generalize (lg_sl ([.ref (am 0), .int p1, .int p2, .int p3]) ++ List.replicate (9 - (lg_sl ([.ref (am 0), .int p1, .int p2, .int p3])).length) Slot.unset).toArray = ls at hl ⊢
  have hl : lv_has ls 9 [(0, .ref (am 0)), (1, .int p1), (2, .int p2), (3, .int p3)] := hl
  unfold M_admit at hF
  have J528 : ∀ (t0 : Int32) (fi : FI) (ar : AR) (H : Heap) (locs : List Loc) (ls : Array Slot), M_admit_528 nf t0 fi ar = some (r, fi', ar') → lv_has ls 9 [(0, .ref (am 0))] → va_P (gD g) vwCl (WM g am fi ar) H → va_S (AM am s.heap.size) s.heap H locs → W p l e (headSpec (wx yX11_admit cX11_admit 9 (some .int)) ({ frames := 6, cells := 0, slots := 0, locals := 137 } : Room)).room s m ([.ref (am 0), .int p1, .int p2, .int p3] : List Value).toArray below meth c H locs 0 0 (MQ below (QMi g am s.heap.size r fi' ar') ([.ref (am 0), .int p1, .int p2, .int p3] : List Value).toArray s 0 0 (AM am s.heap.size)) (F0 m 528 ls [.int t0]) := by
    intro t0 fi ar H locs ls hF hl hP hS
    unfold M_admit_528 at hF
    exact rM_i hx hb hr hlocks hF hP hS dX11_admit_528
  have J527 : ∀  (fi : FI) (ar : AR) (H : Heap) (locs : List Loc) (ls : Array Slot), M_admit_527 nf fi ar = some (r, fi', ar') → lv_has ls 9 [(0, .ref (am 0))] → va_P (gD g) vwCl (WM g am fi ar) H → va_S (AM am s.heap.size) s.heap H locs → W p l e (headSpec (wx yX11_admit cX11_admit 9 (some .int)) ({ frames := 6, cells := 0, slots := 0, locals := 137 } : Room)).room s m ([.ref (am 0), .int p1, .int p2, .int p3] : List Value).toArray below meth c H locs 0 0 (MQ below (QMi g am s.heap.size r fi' ar') ([.ref (am 0), .int p1, .int p2, .int p3] : List Value).toArray s 0 0 (AM am s.heap.size)) (F0 m 527 ls []) := by
    intro fi ar H locs ls hF hl hP hS
    unfold M_admit_527 at hF
    refine lv_iconst (v := (3 : Int32)) hx hb dX11_admit_527 (by decide) ?_
    exact J528 (3 : Int32) _ _ _ _ _ hF (lv_sub hl [0] rfl) hP hS
  have J485 : ∀ (t0 : Int32) (fi : FI) (ar : AR) (H : Heap) (locs : List Loc) (ls : Array Slot), M_admit_485 nf t0 fi ar = some (r, fi', ar') → lv_has ls 9 [(0, .ref (am 0))] → va_P (gD g) vwCl (WM g am fi ar) H → va_S (AM am s.heap.size) s.heap H locs → W p l e (headSpec (wx yX11_admit cX11_admit 9 (some .int)) ({ frames := 6, cells := 0, slots := 0, locals := 137 } : Room)).room s m ([.ref (am 0), .int p1, .int p2, .int p3] : List Value).toArray below meth c H locs 0 0 (MQ below (QMi g am s.heap.size r fi' ar') ([.ref (am 0), .int p1, .int p2, .int p3] : List Value).toArray s 0 0 (AM am s.heap.size)) (F0 m 485 ls [.int t0]) := by
    intro t0 fi ar H locs ls hF hl hP hS
    unfold M_admit_485 at hF
    exact rM_i hx hb hr hlocks hF hP hS dX11_admit_485
  have L375 : ∀ kf : Nat, ∀ (x1 : Int32) (x2 : Int32) (x4 : Int32) (x6 : Int32) (fi : FI) (ar : AR) (H : Heap) (locs : List Loc) (ls : Array Slot), M_admit_375 nf kf x1 x2 x4 x6 fi ar = some (r, fi', ar') → lv_has ls 9 [(0, .ref (am 0)), (1, .int x1), (2, .int x2), (4, .int x4), (6, .int x6)] → va_P (gD g) vwCl (WM g am fi ar) H → va_S (AM am s.heap.size) s.heap H locs → W p l e (headSpec (wx yX11_admit cX11_admit 9 (some .int)) ({ frames := 6, cells := 0, slots := 0, locals := 137 } : Room)).room s m ([.ref (am 0), .int p1, .int p2, .int p3] : List Value).toArray below meth c H locs 0 0 (MQ below (QMi g am s.heap.size r fi' ar') ([.ref (am 0), .int p1, .int p2, .int p3] : List Value).toArray s 0 0 (AM am s.heap.size)) (F0 m 375 ls []) := by
    intro kf
    induction kf with
    | zero => intro x1 x2 x4 x6 fi ar H locs ls hF hl hP hS; cases (show (none : Option (Int32 × FI × AR)) = _ from hF)
    | succ kf ih375 =>
      intro x1 x2 x4 x6 fi ar H locs ls hF hl hP hS
      obtain ⟨K375, hK375⟩ : ∃ K : Int32 → Int32 → Int32 → Int32 → FI → AR → Option (Int32 × FI × AR), K = M_admit_375 nf kf := ⟨_, rfl⟩
      replace hF : M_admit_375b K375 nf x1 x2 x4 x6 fi ar = some (r, fi', ar') := by rw [hK375]; exact hF
      rw [← hK375] at ih375
      clear hK375
      unfold M_admit_375b at hF
      refine lv_iload hx hb dX11_admit_375 (lv_at hl 4 rfl) ?_
      refine lv_aload_n hx hb dX11_admit_377 rfl (lv_at hl 0 rfl) ?_
      refine mg_35 hx hb hT hown hK hP mw33_9 dX11_admit_378 ?_
      refine lv_icmp_ge (tgt := 409) hx hb dX11_admit_381 (by decide) (fun hc1 => ?_) (fun hc1 => ?_)
      · replace hF := br_yes hF hc1
        refine lv_aload_n hx hb dX11_admit_409 rfl (lv_at hl 0 rfl) ?_
        refine lv_dup hx hb dX11_admit_410 rfl ?_
        refine mg_18 hx hb hT hown hK hP mw31_11 dX11_admit_411 ?_
        refine lv_aload_n hx hb dX11_admit_414 rfl (lv_at hl 0 rfl) ?_
        refine mg_35 hx hb hT hown hK hP mw33_9 dX11_admit_415 ?_
        refine lv_iadd hx hb dX11_admit_418 ?_
        obtain ⟨fi2, efi2⟩ : ∃ y : FI, y = va_up fi 18 ((fi 18) + (fi 35)) := ⟨_, rfl⟩
        replace hF := bnd_of hF efi2
        refine mp_18 hx hb hT hown hK hP hD hS mw31_11 dX11_admit_419 (fun H locs hP hS => ?_)
        rw [← efi2] at hP
        refine lv_aload_n hx hb dX11_admit_422 rfl (lv_at hl 0 rfl) ?_
        refine lv_dup hx hb dX11_admit_423 rfl ?_
        refine mg_17 hx hb hT hown hK hP mw31_10 dX11_admit_424 ?_
        refine lv_iconst (v := (1 : Int32)) hx hb dX11_admit_427 (by decide) ?_
        refine lv_iadd hx hb dX11_admit_428 ?_
        obtain ⟨fi3, efi3⟩ : ∃ y : FI, y = va_up fi2 17 ((fi2 17) + (1 : Int32)) := ⟨_, rfl⟩
        replace hF := bnd_of hF efi3
        refine mp_17 hx hb hT hown hK hP hD hS mw31_10 dX11_admit_429 (fun H locs hP hS => ?_)
        rw [← efi3] at hP
        refine lv_aload_n hx hb dX11_admit_432 rfl (lv_at hl 0 rfl) ?_
        refine mg_24 hx hb hT hown hK hP mw6_9 dX11_admit_433 ?_
        refine lv_iload_n hx hb dX11_admit_436 rfl (lv_at hl 2 rfl) ?_
        refine lv_dup2_11 hx hb dX11_admit_437 rfl rfl ?_
        replace hF := gd_of hF
        obtain ⟨hi4, hF⟩ := hF
        refine ml_24 hx hb hK hP hi4 dX11_admit_438 ?_
        refine lv_iconst (v := (1 : Int32)) hx hb dX11_admit_439 (by decide) ?_
        refine lv_iadd hx hb dX11_admit_440 ?_
        replace hF := gd_of hF
        obtain ⟨hi5, hF⟩ := hF
        obtain ⟨ar6, ear6⟩ : ∃ y : AR, y = va_up ar 24 (upd (ar 24) (x2).toNatClampNeg ((ar 24 (x2).toNatClampNeg) + (1 : Int32))) := ⟨_, rfl⟩
        replace hF := bnd_of hF ear6
        refine ms_24 hx hb hK hP hD hS hi5 dX11_admit_441 (fun H locs hP hS => ?_)
        rw [← ear6] at hP
        refine lv_aload_n hx hb dX11_admit_442 rfl (lv_at hl 0 rfl) ?_
        refine lv_iconst (v := (0 : Int32)) hx hb dX11_admit_443 (by decide) ?_
        obtain ⟨fi7, efi7⟩ : ∃ y : FI, y = va_up fi3 36 (0 : Int32) := ⟨_, rfl⟩
        replace hF := bnd_of hF efi7
        refine mp_36 hx hb hT hown hK hP hD hS mw32_7 dX11_admit_444 (fun H locs hP hS => ?_)
        rw [← efi7] at hP
        refine lv_iload hx hb dX11_admit_447 (lv_at hl 3 rfl) ?_
        refine lv_bipush (v := (16 : Int32)) hx hb dX11_admit_449 (by decide) ?_
        refine lv_iand hx hb dX11_admit_451 ?_
        refine lv_if_eq (tgt := 457) hx hb dX11_admit_452 (by decide) (fun hc8 => ?_) (fun hc8 => ?_)
        · replace hF := br_yes hF hc8
          refine lv_aload_n hx hb dX11_admit_457 rfl (lv_at hl 0 rfl) ?_
          refine lv_iload_n hx hb dX11_admit_458 rfl (lv_at hl 1 rfl) ?_
          refine lv_bipush (v := (28 : Int32)) hx hb dX11_admit_459 (by decide) ?_
          refine lv_iadd hx hb dX11_admit_461 ?_
          replace hF := obnd3_of hF
          obtain ⟨r12, fi10, ar11, h9, hF⟩ := hF
          refine cM_i (As := [.int ((x1) + (28 : Int32))]) (rest := []) hx hb hml hT hown hK hE hD hA hP hS (k_four l g am _ nf fi7 ar6 ((x1) + (28 : Int32)) r12 fi10 ar11 h9) cw_X11_four mw19_17 ⟨⟨rfl, rfl⟩, Nat.le_of_ble_eq_true rfl, Nat.le_of_ble_eq_true rfl⟩ rfl hl.1 rfl (Nat.le_of_ble_eq_true rfl) dX11_admit_462 ⟨Nat.zero_le _, Nat.zero_le _⟩ (fun H locs hP hS => ?_)
          refine lv_istore (lv' := [(6, .int (r12)), (0, .ref (am 0)), (1, .int (x1)), (2, .int (x2)), (4, .int (x4))]) hx hb dX11_admit_465 hl (by decide) rfl (fun ls hl => ?_)
          refine lv_iload hx hb dX11_admit_467 (lv_at hl 0 rfl) ?_
          refine lv_if_ne (tgt := 486) hx hb dX11_admit_469 (by decide) (fun hc13 => ?_) (fun hc13 => ?_)
          · replace hF := br_no hF hc13
            refine lv_iload hx hb dX11_admit_486 (lv_at hl 0 rfl) ?_
            refine lv_if_le (tgt := 527) hx hb dX11_admit_488 (by decide) (fun hc14 => ?_) (fun hc14 => ?_)
            · replace hF := br_yes hF hc14
              exact J527  _ _ _ _ _ hF (lv_sub hl [1] rfl) hP hS
            · replace hF := br_no hF hc14
              refine lv_aload_n hx hb dX11_admit_491 rfl (lv_at hl 1 rfl) ?_
              refine lv_aload_n hx hb dX11_admit_492 rfl (lv_at hl 1 rfl) ?_
              refine lv_iload_n hx hb dX11_admit_493 rfl (lv_at hl 2 rfl) ?_
              replace hF := obnd3_of hF
              obtain ⟨r18, fi16, ar17, h15, hF⟩ := hF
              refine cM_i (As := [.int (x1)]) (rest := [.ref (am 0)]) hx hb hml hT hown hK hE hD hA hP hS (k_firstOf l g am _ nf fi10 ar11 (x1) r18 fi16 ar17 h15) cw_X11_firstOf mw32_13 ⟨⟨rfl, rfl⟩, Nat.le_of_ble_eq_true rfl, Nat.le_of_ble_eq_true rfl⟩ rfl hl.1 rfl (Nat.le_of_ble_eq_true rfl) dX11_admit_494 ⟨Nat.zero_le _, Nat.zero_le _⟩ (fun H locs hP hS => ?_)
              replace hF := obnd3_of hF
              obtain ⟨r22, fi20, ar21, h19, hF⟩ := hF
              refine cM_i (As := [.int (r18)]) (rest := []) hx hb hml hT hown hK hE hD hA hP hS (k_follows l g am _ nf fi16 ar17 (r18) r22 fi20 ar21 h19) cw_X11_follows mw32_17 ⟨⟨rfl, rfl⟩, Nat.le_of_ble_eq_true rfl, Nat.le_of_ble_eq_true rfl⟩ rfl hl.1 rfl (Nat.le_of_ble_eq_true rfl) dX11_admit_497 ⟨Nat.zero_le _, Nat.zero_le _⟩ (fun H locs hP hS => ?_)
              refine lv_if_eq (tgt := 527) hx hb dX11_admit_500 (by decide) (fun hc23 => ?_) (fun hc23 => ?_)
              · replace hF := br_yes hF hc23
                exact J527  _ _ _ _ _ hF (lv_sub hl [1] rfl) hP hS
              · replace hF := br_no hF hc23
                refine lv_aload_n hx hb dX11_admit_503 rfl (lv_at hl 1 rfl) ?_
                refine mg_31 hx hb hT hown hK hP mw32_5 dX11_admit_504 ?_
                refine lv_iload hx hb dX11_admit_507 (lv_at hl 0 rfl) ?_
                refine lv_sipush (v := (512 : Int32)) hx hb dX11_admit_509 (by decide) ?_
                refine lv_aload_n hx hb dX11_admit_512 rfl (lv_at hl 1 rfl) ?_
                refine mg_7 hx hb hT hown hK hP mw19_2 dX11_admit_513 ?_
                refine lv_imul hx hb dX11_admit_516 ?_
                replace hF := obnd_of hF
                obtain ⟨r25, h24, hF⟩ := hF
                refine cS_i (As := [.int (r12), .int ((512 : Int32) * (fi20 7))]) (rest := [.int (fi20 31)]) hx hb hml hT hown hE hP hS (k_whole l g nf (r12) ((512 : Int32) * (fi20 7)) r25 h24) cw_X11_whole mw35_0 ⟨⟨rfl, rfl⟩, Nat.le_of_ble_eq_true rfl, Nat.le_of_ble_eq_true rfl⟩ rfl hl.1 rfl (Nat.le_of_ble_eq_true rfl) dX11_admit_517 ⟨Nat.zero_le _, Nat.zero_le _⟩ (fun H locs hP hS => ?_)
                refine lv_icmp_ne (tgt := 527) hx hb dX11_admit_520 (by decide) (fun hc26 => ?_) (fun hc26 => ?_)
                · replace hF := br_no hF hc26
                  exact J527  _ _ _ _ _ hF (lv_sub hl [1] rfl) hP hS
                · replace hF := br_yes hF hc26
                  refine lv_iconst (v := (0 : Int32)) hx hb dX11_admit_523 (by decide) ?_
                  refine lv_goto (tgt := 528) hx hb dX11_admit_524 (by decide) ?_
                  exact J528 (0 : Int32) _ _ _ _ _ hF (lv_sub hl [1] rfl) hP hS
          · replace hF := br_yes hF hc13
            refine lv_aload_n hx hb dX11_admit_472 rfl (lv_at hl 1 rfl) ?_
            refine lv_iload_n hx hb dX11_admit_473 rfl (lv_at hl 2 rfl) ?_
            replace hF := obnd3_of hF
            obtain ⟨r30, fi28, ar29, h27, hF⟩ := hF
            refine cM_i (As := [.int (x1)]) (rest := []) hx hb hml hT hown hK hE hD hA hP hS (k_firstOf l g am _ nf fi10 ar11 (x1) r30 fi28 ar29 h27) cw_X11_firstOf mw32_13 ⟨⟨rfl, rfl⟩, Nat.le_of_ble_eq_true rfl, Nat.le_of_ble_eq_true rfl⟩ rfl hl.1 rfl (Nat.le_of_ble_eq_true rfl) dX11_admit_474 ⟨Nat.zero_le _, Nat.zero_le _⟩ (fun H locs hP hS => ?_)
            refine lv_if_ne (tgt := 484) hx hb dX11_admit_477 (by decide) (fun hc31 => ?_) (fun hc31 => ?_)
            · replace hF := br_no hF hc31
              refine lv_iconst (v := (3 : Int32)) hx hb dX11_admit_484 (by decide) ?_
              exact J485 (3 : Int32) _ _ _ _ _ hF (lv_sub hl [1] rfl) hP hS
            · replace hF := br_yes hF hc31
              refine lv_iconst (v := (0 : Int32)) hx hb dX11_admit_480 (by decide) ?_
              refine lv_goto (tgt := 485) hx hb dX11_admit_481 (by decide) ?_
              exact J485 (0 : Int32) _ _ _ _ _ hF (lv_sub hl [1] rfl) hP hS
        · replace hF := br_no hF hc8
          refine lv_iconst (v := (0 : Int32)) hx hb dX11_admit_455 (by decide) ?_
          exact rM_i hx hb hr hlocks hF hP hS dX11_admit_456
      · replace hF := br_no hF hc1
        refine lv_aload_n hx hb dX11_admit_384 rfl (lv_at hl 0 rfl) ?_
        refine mg_28 hx hb hT hown hK hP mw6_15 dX11_admit_385 ?_
        refine lv_aload_n hx hb dX11_admit_388 rfl (lv_at hl 0 rfl) ?_
        refine mg_18 hx hb hT hown hK hP mw31_11 dX11_admit_389 ?_
        refine lv_iload hx hb dX11_admit_392 (lv_at hl 4 rfl) ?_
        refine lv_iadd hx hb dX11_admit_394 ?_
        refine lv_aload_n hx hb dX11_admit_395 rfl (lv_at hl 0 rfl) ?_
        refine mg_34 hx hb hT hown hK hP mw6_18 dX11_admit_396 ?_
        refine lv_iload hx hb dX11_admit_399 (lv_at hl 4 rfl) ?_
        replace hF := gd_of hF
        obtain ⟨hi32, hF⟩ := hF
        refine ml_34 hx hb hK hP hi32 dX11_admit_401 ?_
        replace hF := gd_of hF
        obtain ⟨hi33, hF⟩ := hF
        obtain ⟨ar34, ear34⟩ : ∃ y : AR, y = va_up ar 28 (upd (ar 28) ((fi 18) + (x6)).toNatClampNeg (vp_nar .char (ar 34 (x6).toNatClampNeg))) := ⟨_, rfl⟩
        replace hF := bnd_of hF ear34
        refine ms_28 hx hb hK hP hD hS hi33 dX11_admit_402 (fun H locs hP hS => ?_)
        rw [← ear34] at hP
        obtain ⟨x6_35, ex6_35⟩ : ∃ y : Int32, y = (x6) + (1 : Int32) := ⟨_, rfl⟩
        replace hF := bnd_of hF ex6_35
        refine lv_iinc (v := x6_35) (lv' := [(6, .int (x6_35)), (0, .ref (am 0)), (1, .int (x1)), (2, .int (x2)), (4, .int (x4))]) hx hb dX11_admit_403 hl (k := 4) rfl (by rw [ex6_35]; rfl) (by decide) rfl (fun ls hl => ?_)
        refine lv_goto (tgt := 375) hx hb dX11_admit_406 (by decide) ?_
        exact ih375 (x1) (x2) (x4) (x6_35) _ _ _ _ _ hF (lv_sub hl [1, 2, 3, 4, 0] rfl) hP hS
  have L225 : ∀ kf : Nat, ∀ (x1 : Int32) (x2 : Int32) (x3 : Int32) (x4 : Int32) (x6 : Int32) (fi : FI) (ar : AR) (H : Heap) (locs : List Loc) (ls : Array Slot), M_admit_225 nf kf x1 x2 x3 x4 x6 fi ar = some (r, fi', ar') → lv_has ls 9 [(0, .ref (am 0)), (1, .int x1), (2, .int x2), (3, .int x3), (4, .int x4), (6, .int x6)] → va_P (gD g) vwCl (WM g am fi ar) H → va_S (AM am s.heap.size) s.heap H locs → W p l e (headSpec (wx yX11_admit cX11_admit 9 (some .int)) ({ frames := 6, cells := 0, slots := 0, locals := 137 } : Room)).room s m ([.ref (am 0), .int p1, .int p2, .int p3] : List Value).toArray below meth c H locs 0 0 (MQ below (QMi g am s.heap.size r fi' ar') ([.ref (am 0), .int p1, .int p2, .int p3] : List Value).toArray s 0 0 (AM am s.heap.size)) (F0 m 225 ls []) := by
    intro kf
    induction kf with
    | zero => intro x1 x2 x3 x4 x6 fi ar H locs ls hF hl hP hS; cases (show (none : Option (Int32 × FI × AR)) = _ from hF)
    | succ kf ih225 =>
      intro x1 x2 x3 x4 x6 fi ar H locs ls hF hl hP hS
      obtain ⟨K225, hK225⟩ : ∃ K : Int32 → Int32 → Int32 → Int32 → Int32 → FI → AR → Option (Int32 × FI × AR), K = M_admit_225 nf kf := ⟨_, rfl⟩
      replace hF : M_admit_225b K225 nf x1 x2 x3 x4 x6 fi ar = some (r, fi', ar') := by rw [hK225]; exact hF
      rw [← hK225] at ih225
      clear hK225
      have L240 : ∀ kf : Nat, ∀ (x1 : Int32) (x2 : Int32) (x3 : Int32) (x4 : Int32) (x6 : Int32) (x7 : Int32) (x8 : Int32) (fi : FI) (ar : AR) (H : Heap) (locs : List Loc) (ls : Array Slot), M_admit_240 K225 nf kf x1 x2 x3 x4 x6 x7 x8 fi ar = some (r, fi', ar') → lv_has ls 9 [(0, .ref (am 0)), (1, .int x1), (2, .int x2), (3, .int x3), (4, .int x4), (6, .int x6), (7, .int x7), (8, .int x8)] → va_P (gD g) vwCl (WM g am fi ar) H → va_S (AM am s.heap.size) s.heap H locs → W p l e (headSpec (wx yX11_admit cX11_admit 9 (some .int)) ({ frames := 6, cells := 0, slots := 0, locals := 137 } : Room)).room s m ([.ref (am 0), .int p1, .int p2, .int p3] : List Value).toArray below meth c H locs 0 0 (MQ below (QMi g am s.heap.size r fi' ar') ([.ref (am 0), .int p1, .int p2, .int p3] : List Value).toArray s 0 0 (AM am s.heap.size)) (F0 m 240 ls []) := by
        intro kf
        induction kf with
        | zero => intro x1 x2 x3 x4 x6 x7 x8 fi ar H locs ls hF hl hP hS; cases (show (none : Option (Int32 × FI × AR)) = _ from hF)
        | succ kf ih240 =>
          intro x1 x2 x3 x4 x6 x7 x8 fi ar H locs ls hF hl hP hS
          obtain ⟨K240, hK240⟩ : ∃ K : Int32 → Int32 → Int32 → Int32 → Int32 → Int32 → Int32 → FI → AR → Option (Int32 × FI × AR), K = M_admit_240 K225 nf kf := ⟨_, rfl⟩
          replace hF : M_admit_240b K240 K225 nf x1 x2 x3 x4 x6 x7 x8 fi ar = some (r, fi', ar') := by rw [hK240]; exact hF
          rw [← hK240] at ih240
          clear hK240
          have J282 : ∀ (x1 : Int32) (x2 : Int32) (x3 : Int32) (x4 : Int32) (x6 : Int32) (x8 : Int32) (t0 : Int32) (fi : FI) (ar : AR) (H : Heap) (locs : List Loc) (ls : Array Slot), M_admit_282 K225 K240 nf x1 x2 x3 x4 x6 x8 t0 fi ar = some (r, fi', ar') → lv_has ls 9 [(0, .ref (am 0)), (1, .int x1), (2, .int x2), (3, .int x3), (4, .int x4), (6, .int x6), (8, .int x8)] → va_P (gD g) vwCl (WM g am fi ar) H → va_S (AM am s.heap.size) s.heap H locs → W p l e (headSpec (wx yX11_admit cX11_admit 9 (some .int)) ({ frames := 6, cells := 0, slots := 0, locals := 137 } : Room)).room s m ([.ref (am 0), .int p1, .int p2, .int p3] : List Value).toArray below meth c H locs 0 0 (MQ below (QMi g am s.heap.size r fi' ar') ([.ref (am 0), .int p1, .int p2, .int p3] : List Value).toArray s 0 0 (AM am s.heap.size)) (F0 m 282 ls [.int t0]) := by
            intro x1 x2 x3 x4 x6 x8 t0 fi ar H locs ls hF hl hP hS
            unfold M_admit_282 at hF
            refine lv_istore (lv' := [(7, .int (t0)), (0, .ref (am 0)), (1, .int (x1)), (2, .int (x2)), (3, .int (x3)), (4, .int (x4)), (6, .int (x6)), (8, .int (x8))]) hx hb dX11_admit_282 hl (by decide) rfl (fun ls hl => ?_)
            obtain ⟨x8_36, ex8_36⟩ : ∃ y : Int32, y = (x8) + (1 : Int32) := ⟨_, rfl⟩
            replace hF := bnd_of hF ex8_36
            refine lv_iinc (v := x8_36) (lv' := [(8, .int (x8_36)), (7, .int (t0)), (0, .ref (am 0)), (1, .int (x1)), (2, .int (x2)), (3, .int (x3)), (4, .int (x4)), (6, .int (x6))]) hx hb dX11_admit_284 hl (k := 7) rfl (by rw [ex8_36]; rfl) (by decide) rfl (fun ls hl => ?_)
            refine lv_goto (tgt := 240) hx hb dX11_admit_287 (by decide) ?_
            exact ih240 (x1) (x2) (x3) (x4) (x6) (t0) (x8_36) _ _ _ _ _ hF (lv_sub hl [2, 3, 4, 5, 6, 7, 1, 0] rfl) hP hS
          have J281 : ∀ (x1 : Int32) (x2 : Int32) (x3 : Int32) (x4 : Int32) (x6 : Int32) (x8 : Int32) (fi : FI) (ar : AR) (H : Heap) (locs : List Loc) (ls : Array Slot), M_admit_281 K225 K240 nf x1 x2 x3 x4 x6 x8 fi ar = some (r, fi', ar') → lv_has ls 9 [(0, .ref (am 0)), (1, .int x1), (2, .int x2), (3, .int x3), (4, .int x4), (6, .int x6), (8, .int x8)] → va_P (gD g) vwCl (WM g am fi ar) H → va_S (AM am s.heap.size) s.heap H locs → W p l e (headSpec (wx yX11_admit cX11_admit 9 (some .int)) ({ frames := 6, cells := 0, slots := 0, locals := 137 } : Room)).room s m ([.ref (am 0), .int p1, .int p2, .int p3] : List Value).toArray below meth c H locs 0 0 (MQ below (QMi g am s.heap.size r fi' ar') ([.ref (am 0), .int p1, .int p2, .int p3] : List Value).toArray s 0 0 (AM am s.heap.size)) (F0 m 281 ls []) := by
            intro x1 x2 x3 x4 x6 x8 fi ar H locs ls hF hl hP hS
            unfold M_admit_281 at hF
            refine lv_iconst (v := (0 : Int32)) hx hb dX11_admit_281 (by decide) ?_
            exact J282 (x1) (x2) (x3) (x4) (x6) (x8) (0 : Int32) _ _ _ _ _ hF (lv_sub hl [0, 1, 2, 3, 4, 5, 6] rfl) hP hS
          unfold M_admit_240b at hF
          refine lv_iload hx hb dX11_admit_240 (lv_at hl 7 rfl) ?_
          refine lv_bipush (v := (11 : Int32)) hx hb dX11_admit_242 (by decide) ?_
          refine lv_icmp_ge (tgt := 290) hx hb dX11_admit_244 (by decide) (fun hc37 => ?_) (fun hc37 => ?_)
          · replace hF := br_yes hF hc37
            refine lv_iload hx hb dX11_admit_290 (lv_at hl 6 rfl) ?_
            refine lv_if_eq (tgt := 297) hx hb dX11_admit_292 (by decide) (fun hc38 => ?_) (fun hc38 => ?_)
            · replace hF := br_yes hF hc38
              obtain ⟨x6_39, ex6_39⟩ : ∃ y : Int32, y = (x6) + (1 : Int32) := ⟨_, rfl⟩
              replace hF := bnd_of hF ex6_39
              refine lv_iinc (v := x6_39) (lv' := [(6, .int (x6_39)), (0, .ref (am 0)), (1, .int (x1)), (2, .int (x2)), (3, .int (x3)), (4, .int (x4)), (7, .int (x7)), (8, .int (x8))]) hx hb dX11_admit_297 hl (k := 5) rfl (by rw [ex6_39]; rfl) (by decide) rfl (fun ls hl => ?_)
              refine lv_goto (tgt := 225) hx hb dX11_admit_300 (by decide) ?_
              exact ih225 (x1) (x2) (x3) (x4) (x6_39) _ _ _ _ _ hF (lv_sub hl [1, 2, 3, 4, 5, 0] rfl) hP hS
            · replace hF := br_no hF hc38
              refine lv_iconst (v := (5 : Int32)) hx hb dX11_admit_295 (by decide) ?_
              exact rM_i hx hb hr hlocks hF hP hS dX11_admit_296
          · replace hF := br_no hF hc37
            refine lv_iload hx hb dX11_admit_247 (lv_at hl 6 rfl) ?_
            refine lv_if_eq (tgt := 281) hx hb dX11_admit_249 (by decide) (fun hc40 => ?_) (fun hc40 => ?_)
            · replace hF := br_yes hF hc40
              exact J281 (x1) (x2) (x3) (x4) (x6) (x8) _ _ _ _ _ hF (lv_sub hl [0, 1, 2, 3, 4, 5, 7] rfl) hP hS
            · replace hF := br_no hF hc40
              refine lv_aload_n hx hb dX11_admit_252 rfl (lv_at hl 0 rfl) ?_
              refine lv_aload_n hx hb dX11_admit_253 rfl (lv_at hl 0 rfl) ?_
              refine mg_20 hx hb hT hown hK hP mw6_5 dX11_admit_254 ?_
              refine lv_iload hx hb dX11_admit_257 (lv_at hl 5 rfl) ?_
              replace hF := gd_of hF
              obtain ⟨hi41, hF⟩ := hF
              refine ml_20 hx hb hK hP hi41 dX11_admit_259 ?_
              refine lv_iload hx hb dX11_admit_260 (lv_at hl 7 rfl) ?_
              refine lv_iadd hx hb dX11_admit_262 ?_
              replace hF := obnd3_of hF
              obtain ⟨r45, fi43, ar44, h42, hF⟩ := hF
              refine cM_i (As := [.int ((ar 20 (x6).toNatClampNeg) + (x8))]) (rest := []) hx hb hml hT hown hK hE hD hA hP hS (k_one l g am _ nf fi ar ((ar 20 (x6).toNatClampNeg) + (x8)) r45 fi43 ar44 h42) cw_X11_one mw19_9 ⟨⟨rfl, rfl⟩, Nat.le_of_ble_eq_true rfl, Nat.le_of_ble_eq_true rfl⟩ rfl hl.1 rfl (Nat.le_of_ble_eq_true rfl) dX11_admit_263 ⟨Nat.zero_le _, Nat.zero_le _⟩ (fun H locs hP hS => ?_)
              refine lv_aload_n hx hb dX11_admit_266 rfl (lv_at hl 0 rfl) ?_
              refine lv_iload_n hx hb dX11_admit_267 rfl (lv_at hl 1 rfl) ?_
              refine lv_iload hx hb dX11_admit_268 (lv_at hl 7 rfl) ?_
              refine lv_iadd hx hb dX11_admit_270 ?_
              replace hF := obnd3_of hF
              obtain ⟨r49, fi47, ar48, h46, hF⟩ := hF
              refine cM_i (As := [.int ((x1) + (x8))]) (rest := [.int (r45)]) hx hb hml hT hown hK hE hD hA hP hS (k_one l g am _ nf fi43 ar44 ((x1) + (x8)) r49 fi47 ar48 h46) cw_X11_one mw19_9 ⟨⟨rfl, rfl⟩, Nat.le_of_ble_eq_true rfl, Nat.le_of_ble_eq_true rfl⟩ rfl hl.1 rfl (Nat.le_of_ble_eq_true rfl) dX11_admit_271 ⟨Nat.zero_le _, Nat.zero_le _⟩ (fun H locs hP hS => ?_)
              refine lv_icmp_ne (tgt := 281) hx hb dX11_admit_274 (by decide) (fun hc50 => ?_) (fun hc50 => ?_)
              · replace hF := br_no hF hc50
                exact J281 (x1) (x2) (x3) (x4) (x6) (x8) _ _ _ _ _ hF (lv_sub hl [0, 1, 2, 3, 4, 5, 7] rfl) hP hS
              · replace hF := br_yes hF hc50
                refine lv_iconst (v := (1 : Int32)) hx hb dX11_admit_277 (by decide) ?_
                refine lv_goto (tgt := 282) hx hb dX11_admit_278 (by decide) ?_
                exact J282 (x1) (x2) (x3) (x4) (x6) (x8) (1 : Int32) _ _ _ _ _ hF (lv_sub hl [0, 1, 2, 3, 4, 5, 7] rfl) hP hS
      unfold M_admit_225b at hF
      refine lv_iload hx hb dX11_admit_225 (lv_at hl 5 rfl) ?_
      refine lv_aload_n hx hb dX11_admit_227 rfl (lv_at hl 0 rfl) ?_
      refine mg_17 hx hb hT hown hK hP mw31_10 dX11_admit_228 ?_
      refine lv_icmp_ge (tgt := 303) hx hb dX11_admit_231 (by decide) (fun hc51 => ?_) (fun hc51 => ?_)
      · replace hF := br_yes hF hc51
        refine lv_aload_n hx hb dX11_admit_303 rfl (lv_at hl 0 rfl) ?_
        refine mg_20 hx hb hT hown hK hP mw6_5 dX11_admit_304 ?_
        refine lv_aload_n hx hb dX11_admit_307 rfl (lv_at hl 0 rfl) ?_
        refine mg_17 hx hb hT hown hK hP mw31_10 dX11_admit_308 ?_
        refine lv_iload_n hx hb dX11_admit_311 rfl (lv_at hl 1 rfl) ?_
        replace hF := gd_of hF
        obtain ⟨hi52, hF⟩ := hF
        obtain ⟨ar53, ear53⟩ : ∃ y : AR, y = va_up ar 20 (upd (ar 20) (fi 17).toNatClampNeg (x1)) := ⟨_, rfl⟩
        replace hF := bnd_of hF ear53
        refine ms_20 hx hb hK hP hD hS hi52 dX11_admit_312 (fun H locs hP hS => ?_)
        rw [← ear53] at hP
        refine lv_aload_n hx hb dX11_admit_313 rfl (lv_at hl 0 rfl) ?_
        refine mg_21 hx hb hT hown hK hP mw6_6 dX11_admit_314 ?_
        refine lv_aload_n hx hb dX11_admit_317 rfl (lv_at hl 0 rfl) ?_
        refine mg_17 hx hb hT hown hK hP mw31_10 dX11_admit_318 ?_
        refine lv_iload_n hx hb dX11_admit_321 rfl (lv_at hl 3 rfl) ?_
        replace hF := gd_of hF
        obtain ⟨hi54, hF⟩ := hF
        obtain ⟨ar55, ear55⟩ : ∃ y : AR, y = va_up ar53 21 (upd (ar53 21) (fi 17).toNatClampNeg (x3)) := ⟨_, rfl⟩
        replace hF := bnd_of hF ear55
        refine ms_21 hx hb hK hP hD hS hi54 dX11_admit_322 (fun H locs hP hS => ?_)
        rw [← ear55] at hP
        refine lv_aload_n hx hb dX11_admit_323 rfl (lv_at hl 0 rfl) ?_
        refine mg_22 hx hb hT hown hK hP mw6_7 dX11_admit_324 ?_
        refine lv_aload_n hx hb dX11_admit_327 rfl (lv_at hl 0 rfl) ?_
        refine mg_17 hx hb hT hown hK hP mw31_10 dX11_admit_328 ?_
        refine lv_aload_n hx hb dX11_admit_331 rfl (lv_at hl 0 rfl) ?_
        refine mg_36 hx hb hT hown hK hP mw32_7 dX11_admit_332 ?_
        replace hF := gd_of hF
        obtain ⟨hi56, hF⟩ := hF
        obtain ⟨ar57, ear57⟩ : ∃ y : AR, y = va_up ar55 22 (upd (ar55 22) (fi 17).toNatClampNeg (fi 36)) := ⟨_, rfl⟩
        replace hF := bnd_of hF ear57
        refine ms_22 hx hb hK hP hD hS hi56 dX11_admit_335 (fun H locs hP hS => ?_)
        rw [← ear57] at hP
        refine lv_aload_n hx hb dX11_admit_336 rfl (lv_at hl 0 rfl) ?_
        refine mg_23 hx hb hT hown hK hP mw6_8 dX11_admit_337 ?_
        refine lv_aload_n hx hb dX11_admit_340 rfl (lv_at hl 0 rfl) ?_
        refine mg_17 hx hb hT hown hK hP mw31_10 dX11_admit_341 ?_
        refine lv_iload_n hx hb dX11_admit_344 rfl (lv_at hl 2 rfl) ?_
        replace hF := gd_of hF
        obtain ⟨hi58, hF⟩ := hF
        obtain ⟨ar59, ear59⟩ : ∃ y : AR, y = va_up ar57 23 (upd (ar57 23) (fi 17).toNatClampNeg (x2)) := ⟨_, rfl⟩
        replace hF := bnd_of hF ear59
        refine ms_23 hx hb hK hP hD hS hi58 dX11_admit_345 (fun H locs hP hS => ?_)
        rw [← ear59] at hP
        refine lv_aload_n hx hb dX11_admit_346 rfl (lv_at hl 0 rfl) ?_
        refine mg_26 hx hb hT hown hK hP mw6_11 dX11_admit_347 ?_
        refine lv_aload_n hx hb dX11_admit_350 rfl (lv_at hl 0 rfl) ?_
        refine mg_17 hx hb hT hown hK hP mw31_10 dX11_admit_351 ?_
        refine lv_aload_n hx hb dX11_admit_354 rfl (lv_at hl 0 rfl) ?_
        refine mg_18 hx hb hT hown hK hP mw31_11 dX11_admit_355 ?_
        replace hF := gd_of hF
        obtain ⟨hi60, hF⟩ := hF
        obtain ⟨ar61, ear61⟩ : ∃ y : AR, y = va_up ar59 26 (upd (ar59 26) (fi 17).toNatClampNeg (fi 18)) := ⟨_, rfl⟩
        replace hF := bnd_of hF ear61
        refine ms_26 hx hb hK hP hD hS hi60 dX11_admit_358 (fun H locs hP hS => ?_)
        rw [← ear61] at hP
        refine lv_aload_n hx hb dX11_admit_359 rfl (lv_at hl 0 rfl) ?_
        refine mg_27 hx hb hT hown hK hP mw6_12 dX11_admit_360 ?_
        refine lv_aload_n hx hb dX11_admit_363 rfl (lv_at hl 0 rfl) ?_
        refine mg_17 hx hb hT hown hK hP mw31_10 dX11_admit_364 ?_
        refine lv_aload_n hx hb dX11_admit_367 rfl (lv_at hl 0 rfl) ?_
        refine mg_35 hx hb hT hown hK hP mw33_9 dX11_admit_368 ?_
        replace hF := gd_of hF
        obtain ⟨hi62, hF⟩ := hF
        obtain ⟨ar63, ear63⟩ : ∃ y : AR, y = va_up ar61 27 (upd (ar61 27) (fi 17).toNatClampNeg (fi 35)) := ⟨_, rfl⟩
        replace hF := bnd_of hF ear63
        refine ms_27 hx hb hK hP hD hS hi62 dX11_admit_371 (fun H locs hP hS => ?_)
        rw [← ear63] at hP
        refine lv_iconst (v := (0 : Int32)) hx hb dX11_admit_372 (by decide) ?_
        refine lv_istore (lv' := [(6, .int (0 : Int32)), (0, .ref (am 0)), (1, .int (x1)), (2, .int (x2)), (3, .int (x3)), (4, .int (x4))]) hx hb dX11_admit_373 hl (by decide) rfl (fun ls hl => ?_)
        exact L375 nf (x1) (x2) (x4) (0 : Int32) _ _ _ _ _ hF (lv_sub hl [1, 2, 3, 5, 0] rfl) hP hS
      · replace hF := br_no hF hc51
        refine lv_iconst (v := (1 : Int32)) hx hb dX11_admit_234 (by decide) ?_
        refine lv_istore (lv' := [(7, .int (1 : Int32)), (0, .ref (am 0)), (1, .int (x1)), (2, .int (x2)), (3, .int (x3)), (4, .int (x4)), (6, .int (x6))]) hx hb dX11_admit_235 hl (by decide) rfl (fun ls hl => ?_)
        refine lv_iconst (v := (0 : Int32)) hx hb dX11_admit_237 (by decide) ?_
        refine lv_istore (lv' := [(8, .int (0 : Int32)), (7, .int (1 : Int32)), (0, .ref (am 0)), (1, .int (x1)), (2, .int (x2)), (3, .int (x3)), (4, .int (x4)), (6, .int (x6))]) hx hb dX11_admit_238 hl (by decide) rfl (fun ls hl => ?_)
        exact L240 nf (x1) (x2) (x3) (x4) (x6) (1 : Int32) (0 : Int32) _ _ _ _ _ hF (lv_sub hl [2, 3, 4, 5, 6, 7, 1, 0] rfl) hP hS
  have J200 : ∀ (x1 : Int32) (x2 : Int32) (x3 : Int32) (x4 : Int32) (x5 : Int32) (fi : FI) (ar : AR) (H : Heap) (locs : List Loc) (ls : Array Slot), M_admit_200 nf x1 x2 x3 x4 x5 fi ar = some (r, fi', ar') → lv_has ls 9 [(0, .ref (am 0)), (1, .int x1), (2, .int x2), (3, .int x3), (4, .int x4), (5, .int x5)] → va_P (gD g) vwCl (WM g am fi ar) H → va_S (AM am s.heap.size) s.heap H locs → W p l e (headSpec (wx yX11_admit cX11_admit 9 (some .int)) ({ frames := 6, cells := 0, slots := 0, locals := 137 } : Room)).room s m ([.ref (am 0), .int p1, .int p2, .int p3] : List Value).toArray below meth c H locs 0 0 (MQ below (QMi g am s.heap.size r fi' ar') ([.ref (am 0), .int p1, .int p2, .int p3] : List Value).toArray s 0 0 (AM am s.heap.size)) (F0 m 200 ls []) := by
    intro x1 x2 x3 x4 x5 fi ar H locs ls hF hl hP hS
    unfold M_admit_200 at hF
    refine lv_iload hx hb dX11_admit_200 (lv_at hl 5 rfl) ?_
    refine lv_if_eq (tgt := 207) hx hb dX11_admit_202 (by decide) (fun hc64 => ?_) (fun hc64 => ?_)
    · replace hF := br_yes hF hc64
      refine lv_aload_n hx hb dX11_admit_207 rfl (lv_at hl 0 rfl) ?_
      refine lv_iload_n hx hb dX11_admit_208 rfl (lv_at hl 2 rfl) ?_
      replace hF := obnd3_of hF
      obtain ⟨r68, fi66, ar67, h65, hF⟩ := hF
      refine cM_i (As := [.int (x2)]) (rest := []) hx hb hml hT hown hK hE hD hA hP hS (k_isTaken l g am _ nf fi ar (x2) r68 fi66 ar67 h65) cw_X11_isTaken mw35_14 ⟨⟨rfl, rfl⟩, Nat.le_of_ble_eq_true rfl, Nat.le_of_ble_eq_true rfl⟩ rfl hl.1 rfl (Nat.le_of_ble_eq_true rfl) dX11_admit_209 ⟨Nat.zero_le _, Nat.zero_le _⟩ (fun H locs hP hS => ?_)
      refine lv_if_eq (tgt := 217) hx hb dX11_admit_212 (by decide) (fun hc69 => ?_) (fun hc69 => ?_)
      · replace hF := br_yes hF hc69
        refine lv_aload_n hx hb dX11_admit_217 rfl (lv_at hl 0 rfl) ?_
        refine mg_25 hx hb hT hown hK hP mw6_10 dX11_admit_218 ?_
        refine lv_iload_n hx hb dX11_admit_221 rfl (lv_at hl 2 rfl) ?_
        replace hF := gd_of hF
        obtain ⟨hi70, hF⟩ := hF
        refine ml_25 hx hb hK hP hi70 dX11_admit_222 ?_
        obtain ⟨x6_71, ex6_71⟩ : ∃ y : Int32, y = (ar67 25 (x2).toNatClampNeg) := ⟨_, rfl⟩
        rw [← ex6_71]
        replace hF := bnd_of hF ex6_71
        refine lv_istore (lv' := [(6, .int (x6_71)), (0, .ref (am 0)), (1, .int (x1)), (2, .int (x2)), (3, .int (x3)), (4, .int (x4)), (5, .int (x5))]) hx hb dX11_admit_223 hl (by decide) rfl (fun ls hl => ?_)
        exact L225 nf (x1) (x2) (x3) (x4) (x6_71) _ _ _ _ _ hF (lv_sub hl [1, 2, 3, 4, 5, 0] rfl) hP hS
      · replace hF := br_no hF hc69
        refine lv_iconst (v := (5 : Int32)) hx hb dX11_admit_215 (by decide) ?_
        exact rM_i hx hb hr hlocks hF hP hS dX11_admit_216
    · replace hF := br_no hF hc64
      refine lv_iconst (v := (4 : Int32)) hx hb dX11_admit_205 (by decide) ?_
      exact rM_i hx hb hr hlocks hF hP hS dX11_admit_206
  have J190 : ∀ (x1 : Int32) (x2 : Int32) (x3 : Int32) (x4 : Int32) (t0 : Int32) (fi : FI) (ar : AR) (H : Heap) (locs : List Loc) (ls : Array Slot), M_admit_190 nf x1 x2 x3 x4 t0 fi ar = some (r, fi', ar') → lv_has ls 9 [(0, .ref (am 0)), (1, .int x1), (2, .int x2), (3, .int x3), (4, .int x4)] → va_P (gD g) vwCl (WM g am fi ar) H → va_S (AM am s.heap.size) s.heap H locs → W p l e (headSpec (wx yX11_admit cX11_admit 9 (some .int)) ({ frames := 6, cells := 0, slots := 0, locals := 137 } : Room)).room s m ([.ref (am 0), .int p1, .int p2, .int p3] : List Value).toArray below meth c H locs 0 0 (MQ below (QMi g am s.heap.size r fi' ar') ([.ref (am 0), .int p1, .int p2, .int p3] : List Value).toArray s 0 0 (AM am s.heap.size)) (F0 m 190 ls [.int t0]) := by
    intro x1 x2 x3 x4 t0 fi ar H locs ls hF hl hP hS
    unfold M_admit_190 at hF
    refine lv_istore (lv' := [(5, .int (t0)), (0, .ref (am 0)), (1, .int (x1)), (2, .int (x2)), (3, .int (x3)), (4, .int (x4))]) hx hb dX11_admit_190 hl (by decide) rfl (fun ls hl => ?_)
    refine lv_goto (tgt := 200) hx hb dX11_admit_192 (by decide) ?_
    exact J200 (x1) (x2) (x3) (x4) (t0) _ _ _ _ _ hF (lv_sub hl [1, 2, 3, 4, 5, 0] rfl) hP hS
  have J185 : ∀ (x1 : Int32) (x2 : Int32) (x3 : Int32) (x4 : Int32) (fi : FI) (ar : AR) (H : Heap) (locs : List Loc) (ls : Array Slot), M_admit_185 nf x1 x2 x3 x4 fi ar = some (r, fi', ar') → lv_has ls 9 [(0, .ref (am 0)), (1, .int x1), (2, .int x2), (3, .int x3), (4, .int x4)] → va_P (gD g) vwCl (WM g am fi ar) H → va_S (AM am s.heap.size) s.heap H locs → W p l e (headSpec (wx yX11_admit cX11_admit 9 (some .int)) ({ frames := 6, cells := 0, slots := 0, locals := 137 } : Room)).room s m ([.ref (am 0), .int p1, .int p2, .int p3] : List Value).toArray below meth c H locs 0 0 (MQ below (QMi g am s.heap.size r fi' ar') ([.ref (am 0), .int p1, .int p2, .int p3] : List Value).toArray s 0 0 (AM am s.heap.size)) (F0 m 185 ls []) := by
    intro x1 x2 x3 x4 fi ar H locs ls hF hl hP hS
    unfold M_admit_185 at hF
    refine lv_iconst (v := (1 : Int32)) hx hb dX11_admit_185 (by decide) ?_
    refine lv_goto (tgt := 190) hx hb dX11_admit_186 (by decide) ?_
    exact J190 (x1) (x2) (x3) (x4) (1 : Int32) _ _ _ _ _ hF (lv_sub hl [0, 1, 2, 3, 4] rfl) hP hS
  have J145 : ∀ (x1 : Int32) (x2 : Int32) (x3 : Int32) (x4 : Int32) (t0 : Int32) (fi : FI) (ar : AR) (H : Heap) (locs : List Loc) (ls : Array Slot), M_admit_145 nf x1 x2 x3 x4 t0 fi ar = some (r, fi', ar') → lv_has ls 9 [(0, .ref (am 0)), (1, .int x1), (2, .int x2), (3, .int x3), (4, .int x4)] → va_P (gD g) vwCl (WM g am fi ar) H → va_S (AM am s.heap.size) s.heap H locs → W p l e (headSpec (wx yX11_admit cX11_admit 9 (some .int)) ({ frames := 6, cells := 0, slots := 0, locals := 137 } : Room)).room s m ([.ref (am 0), .int p1, .int p2, .int p3] : List Value).toArray below meth c H locs 0 0 (MQ below (QMi g am s.heap.size r fi' ar') ([.ref (am 0), .int p1, .int p2, .int p3] : List Value).toArray s 0 0 (AM am s.heap.size)) (F0 m 145 ls [.int t0]) := by
    intro x1 x2 x3 x4 t0 fi ar H locs ls hF hl hP hS
    unfold M_admit_145 at hF
    refine lv_istore (lv' := [(5, .int (t0)), (0, .ref (am 0)), (1, .int (x1)), (2, .int (x2)), (3, .int (x3)), (4, .int (x4))]) hx hb dX11_admit_145 hl (by decide) rfl (fun ls hl => ?_)
    refine lv_aload_n hx hb dX11_admit_147 rfl (lv_at hl 1 rfl) ?_
    refine mg_36 hx hb hT hown hK hP mw32_7 dX11_admit_148 ?_
    refine lv_if_le (tgt := 195) hx hb dX11_admit_151 (by decide) (fun hc72 => ?_) (fun hc72 => ?_)
    · replace hF := br_yes hF hc72
      refine lv_aload_n hx hb dX11_admit_195 rfl (lv_at hl 1 rfl) ?_
      refine lv_iload_n hx hb dX11_admit_196 rfl (lv_at hl 2 rfl) ?_
      replace hF := obnd3_of hF
      obtain ⟨r76, fi74, ar75, h73, hF⟩ := hF
      refine cM_v (As := [.int (x1)]) (rest := []) hx hb hml hT hown hK hE hD hA hP hS (k_shown l g am _ nf fi ar (x1) r76 fi74 ar75 h73) cw_X11_shown mw35_10 ⟨⟨rfl, rfl⟩, Nat.le_of_ble_eq_true rfl, Nat.le_of_ble_eq_true rfl⟩ rfl hl.1 rfl (Nat.le_of_ble_eq_true rfl) dX11_admit_197 ⟨Nat.zero_le _, Nat.zero_le _⟩ (fun H locs hP hS => ?_)
      exact J200 (x1) (x2) (x3) (x4) (t0) _ _ _ _ _ hF (lv_sub hl [1, 2, 3, 4, 5, 0] rfl) hP hS
    · replace hF := br_no hF hc72
      refine lv_iload hx hb dX11_admit_154 (lv_at hl 0 rfl) ?_
      refine lv_if_ne (tgt := 185) hx hb dX11_admit_156 (by decide) (fun hc77 => ?_) (fun hc77 => ?_)
      · replace hF := br_no hF hc77
        exact J185 (x1) (x2) (x3) (x4) _ _ _ _ _ hF (lv_sub hl [1, 2, 3, 4, 5] rfl) hP hS
      · replace hF := br_yes hF hc77
        refine lv_aload_n hx hb dX11_admit_159 rfl (lv_at hl 1 rfl) ?_
        refine mg_37 hx hb hT hown hK hP mw32_8 dX11_admit_160 ?_
        refine lv_if_gt (tgt := 185) hx hb dX11_admit_163 (by decide) (fun hc78 => ?_) (fun hc78 => ?_)
        · replace hF := br_yes hF hc78
          exact J185 (x1) (x2) (x3) (x4) _ _ _ _ _ hF (lv_sub hl [1, 2, 3, 4, 5] rfl) hP hS
        · replace hF := br_no hF hc78
          refine lv_aload_n hx hb dX11_admit_166 rfl (lv_at hl 1 rfl) ?_
          refine lv_iload_n hx hb dX11_admit_167 rfl (lv_at hl 2 rfl) ?_
          replace hF := obnd3_of hF
          obtain ⟨r82, fi80, ar81, h79, hF⟩ := hF
          refine cM_i (As := [.int (x1)]) (rest := []) hx hb hml hT hown hK hE hD hA hP hS (k_sumOf l g am _ nf fi ar (x1) r82 fi80 ar81 h79) cw_X11_sumOf mw34_15 ⟨⟨rfl, rfl⟩, Nat.le_of_ble_eq_true rfl, Nat.le_of_ble_eq_true rfl⟩ rfl hl.1 rfl (Nat.le_of_ble_eq_true rfl) dX11_admit_168 ⟨Nat.zero_le _, Nat.zero_le _⟩ (fun H locs hP hS => ?_)
          refine lv_aload_n hx hb dX11_admit_171 rfl (lv_at hl 1 rfl) ?_
          refine mg_38 hx hb hT hown hK hP mw33_10 dX11_admit_172 ?_
          refine lv_icmp_ne (tgt := 185) hx hb dX11_admit_175 (by decide) (fun hc83 => ?_) (fun hc83 => ?_)
          · replace hF := br_no hF hc83
            exact J185 (x1) (x2) (x3) (x4) _ _ _ _ _ hF (lv_sub hl [1, 2, 3, 4, 5] rfl) hP hS
          · replace hF := br_yes hF hc83
            refine lv_aload_n hx hb dX11_admit_178 rfl (lv_at hl 1 rfl) ?_
            replace hF := obnd3_of hF
            obtain ⟨r87, fi85, ar86, h84, hF⟩ := hF
            refine cM_i (As := []) (rest := []) hx hb hml hT hown hK hE hD hA hP hS (k_said l g am _ nf fi80 ar81 r87 fi85 ar86 h84) cw_X11_said mw34_19 ⟨⟨rfl, rfl⟩, Nat.le_of_ble_eq_true rfl, Nat.le_of_ble_eq_true rfl⟩ rfl hl.1 rfl (Nat.le_of_ble_eq_true rfl) dX11_admit_179 ⟨Nat.zero_le _, Nat.zero_le _⟩ (fun H locs hP hS => ?_)
            refine lv_if_ne (tgt := 189) hx hb dX11_admit_182 (by decide) (fun hc88 => ?_) (fun hc88 => ?_)
            · replace hF := br_no hF hc88
              refine lv_iconst (v := (0 : Int32)) hx hb dX11_admit_189 (by decide) ?_
              exact J190 (x1) (x2) (x3) (x4) (0 : Int32) _ _ _ _ _ hF (lv_sub hl [1, 2, 3, 4, 5] rfl) hP hS
            · replace hF := br_yes hF hc88
              exact J185 (x1) (x2) (x3) (x4) _ _ _ _ _ hF (lv_sub hl [1, 2, 3, 4, 5] rfl) hP hS
  have J144 : ∀ (x1 : Int32) (x2 : Int32) (x3 : Int32) (x4 : Int32) (fi : FI) (ar : AR) (H : Heap) (locs : List Loc) (ls : Array Slot), M_admit_144 nf x1 x2 x3 x4 fi ar = some (r, fi', ar') → lv_has ls 9 [(0, .ref (am 0)), (1, .int x1), (2, .int x2), (3, .int x3), (4, .int x4)] → va_P (gD g) vwCl (WM g am fi ar) H → va_S (AM am s.heap.size) s.heap H locs → W p l e (headSpec (wx yX11_admit cX11_admit 9 (some .int)) ({ frames := 6, cells := 0, slots := 0, locals := 137 } : Room)).room s m ([.ref (am 0), .int p1, .int p2, .int p3] : List Value).toArray below meth c H locs 0 0 (MQ below (QMi g am s.heap.size r fi' ar') ([.ref (am 0), .int p1, .int p2, .int p3] : List Value).toArray s 0 0 (AM am s.heap.size)) (F0 m 144 ls []) := by
    intro x1 x2 x3 x4 fi ar H locs ls hF hl hP hS
    unfold M_admit_144 at hF
    refine lv_iconst (v := (0 : Int32)) hx hb dX11_admit_144 (by decide) ?_
    exact J145 (x1) (x2) (x3) (x4) (0 : Int32) _ _ _ _ _ hF (lv_sub hl [0, 1, 2, 3, 4] rfl) hP hS
  have J140 : ∀ (x1 : Int32) (x2 : Int32) (x3 : Int32) (x4 : Int32) (fi : FI) (ar : AR) (H : Heap) (locs : List Loc) (ls : Array Slot), M_admit_140 nf x1 x2 x3 x4 fi ar = some (r, fi', ar') → lv_has ls 9 [(0, .ref (am 0)), (1, .int x1), (2, .int x2), (3, .int x3), (4, .int x4)] → va_P (gD g) vwCl (WM g am fi ar) H → va_S (AM am s.heap.size) s.heap H locs → W p l e (headSpec (wx yX11_admit cX11_admit 9 (some .int)) ({ frames := 6, cells := 0, slots := 0, locals := 137 } : Room)).room s m ([.ref (am 0), .int p1, .int p2, .int p3] : List Value).toArray below meth c H locs 0 0 (MQ below (QMi g am s.heap.size r fi' ar') ([.ref (am 0), .int p1, .int p2, .int p3] : List Value).toArray s 0 0 (AM am s.heap.size)) (F0 m 140 ls []) := by
    intro x1 x2 x3 x4 fi ar H locs ls hF hl hP hS
    unfold M_admit_140 at hF
    refine lv_iconst (v := (1 : Int32)) hx hb dX11_admit_140 (by decide) ?_
    refine lv_goto (tgt := 145) hx hb dX11_admit_141 (by decide) ?_
    exact J145 (x1) (x2) (x3) (x4) (1 : Int32) _ _ _ _ _ hF (lv_sub hl [0, 1, 2, 3, 4] rfl) hP hS
  have J111 : ∀ (t0 : Int32) (fi : FI) (ar : AR) (H : Heap) (locs : List Loc) (ls : Array Slot), M_admit_111 nf t0 fi ar = some (r, fi', ar') → lv_has ls 9 [(0, .ref (am 0))] → va_P (gD g) vwCl (WM g am fi ar) H → va_S (AM am s.heap.size) s.heap H locs → W p l e (headSpec (wx yX11_admit cX11_admit 9 (some .int)) ({ frames := 6, cells := 0, slots := 0, locals := 137 } : Room)).room s m ([.ref (am 0), .int p1, .int p2, .int p3] : List Value).toArray below meth c H locs 0 0 (MQ below (QMi g am s.heap.size r fi' ar') ([.ref (am 0), .int p1, .int p2, .int p3] : List Value).toArray s 0 0 (AM am s.heap.size)) (F0 m 111 ls [.int t0]) := by
    intro t0 fi ar H locs ls hF hl hP hS
    unfold M_admit_111 at hF
    exact rM_i hx hb hr hlocks hF hP hS dX11_admit_111
  have J94 : ∀ (x1 : Int32) (t0 : Int32) (fi : FI) (ar : AR) (H : Heap) (locs : List Loc) (ls : Array Slot), M_admit_94 nf x1 t0 fi ar = some (r, fi', ar') → lv_has ls 9 [(0, .ref (am 0)), (1, .int x1)] → va_P (gD g) vwCl (WM g am fi ar) H → va_S (AM am s.heap.size) s.heap H locs → W p l e (headSpec (wx yX11_admit cX11_admit 9 (some .int)) ({ frames := 6, cells := 0, slots := 0, locals := 137 } : Room)).room s m ([.ref (am 0), .int p1, .int p2, .int p3] : List Value).toArray below meth c H locs 0 0 (MQ below (QMi g am s.heap.size r fi' ar') ([.ref (am 0), .int p1, .int p2, .int p3] : List Value).toArray s 0 0 (AM am s.heap.size)) (F0 m 94 ls [.int t0]) := by
    intro x1 t0 fi ar H locs ls hF hl hP hS
    unfold M_admit_94 at hF
    refine lv_istore (lv' := [(5, .int (t0)), (0, .ref (am 0)), (1, .int (x1))]) hx hb dX11_admit_94 hl (by decide) rfl (fun ls hl => ?_)
    refine lv_aload_n hx hb dX11_admit_96 rfl (lv_at hl 1 rfl) ?_
    refine lv_iload_n hx hb dX11_admit_97 rfl (lv_at hl 2 rfl) ?_
    obtain ⟨fi89, efi89⟩ : ∃ y : FI, y = va_up fi 33 (x1) := ⟨_, rfl⟩
    replace hF := bnd_of hF efi89
    refine mp_33 hx hb hT hown hK hP hD hS mw31_12 dX11_admit_98 (fun H locs hP hS => ?_)
    rw [← efi89] at hP
    refine lv_iload hx hb dX11_admit_101 (lv_at hl 0 rfl) ?_
    refine lv_if_eq (tgt := 110) hx hb dX11_admit_103 (by decide) (fun hc90 => ?_) (fun hc90 => ?_)
    · replace hF := br_yes hF hc90
      refine lv_iconst (v := (0 : Int32)) hx hb dX11_admit_110 (by decide) ?_
      exact J111 (0 : Int32) _ _ _ _ _ hF (lv_sub hl [1] rfl) hP hS
    · replace hF := br_no hF hc90
      refine lv_iconst (v := (4 : Int32)) hx hb dX11_admit_106 (by decide) ?_
      refine lv_goto (tgt := 111) hx hb dX11_admit_107 (by decide) ?_
      exact J111 (4 : Int32) _ _ _ _ _ hF (lv_sub hl [1] rfl) hP hS
  have J89 : ∀ (x1 : Int32) (fi : FI) (ar : AR) (H : Heap) (locs : List Loc) (ls : Array Slot), M_admit_89 nf x1 fi ar = some (r, fi', ar') → lv_has ls 9 [(0, .ref (am 0)), (1, .int x1)] → va_P (gD g) vwCl (WM g am fi ar) H → va_S (AM am s.heap.size) s.heap H locs → W p l e (headSpec (wx yX11_admit cX11_admit 9 (some .int)) ({ frames := 6, cells := 0, slots := 0, locals := 137 } : Room)).room s m ([.ref (am 0), .int p1, .int p2, .int p3] : List Value).toArray below meth c H locs 0 0 (MQ below (QMi g am s.heap.size r fi' ar') ([.ref (am 0), .int p1, .int p2, .int p3] : List Value).toArray s 0 0 (AM am s.heap.size)) (F0 m 89 ls []) := by
    intro x1 fi ar H locs ls hF hl hP hS
    unfold M_admit_89 at hF
    refine lv_iconst (v := (1 : Int32)) hx hb dX11_admit_89 (by decide) ?_
    refine lv_goto (tgt := 94) hx hb dX11_admit_90 (by decide) ?_
    exact J94 (x1) (1 : Int32) _ _ _ _ _ hF (lv_sub hl [0, 1] rfl) hP hS
  have J25 : ∀  (fi : FI) (ar : AR) (H : Heap) (locs : List Loc) (ls : Array Slot), M_admit_25 nf fi ar = some (r, fi', ar') → lv_has ls 9 [(0, .ref (am 0))] → va_P (gD g) vwCl (WM g am fi ar) H → va_S (AM am s.heap.size) s.heap H locs → W p l e (headSpec (wx yX11_admit cX11_admit 9 (some .int)) ({ frames := 6, cells := 0, slots := 0, locals := 137 } : Room)).room s m ([.ref (am 0), .int p1, .int p2, .int p3] : List Value).toArray below meth c H locs 0 0 (MQ below (QMi g am s.heap.size r fi' ar') ([.ref (am 0), .int p1, .int p2, .int p3] : List Value).toArray s 0 0 (AM am s.heap.size)) (F0 m 25 ls []) := by
    intro fi ar H locs ls hF hl hP hS
    unfold M_admit_25 at hF
    refine lv_iconst (v := (4 : Int32)) hx hb dX11_admit_25 (by decide) ?_
    exact rM_i hx hb hr hlocks hF hP hS dX11_admit_26
  replace hl := lv_sub hl [0, 1, 2, 3] rfl
  refine lv_aload_n hx hb dX11_admit_0 rfl (lv_at hl 0 rfl) ?_
  refine lv_iload_n hx hb dX11_admit_1 rfl (lv_at hl 1 rfl) ?_
  refine lv_bipush (v := (11 : Int32)) hx hb dX11_admit_2 (by decide) ?_
  refine lv_iadd hx hb dX11_admit_4 ?_
  replace hF := obnd3_of hF
  obtain ⟨r94, fi92, ar93, h91, hF⟩ := hF
  refine cM_i (As := [.int ((p1) + (11 : Int32))]) (rest := []) hx hb hml hT hown hK hE hD hA hP hS (k_one l g am _ nf fi ar ((p1) + (11 : Int32)) r94 fi92 ar93 h91) cw_X11_one mw19_9 ⟨⟨rfl, rfl⟩, Nat.le_of_ble_eq_true rfl, Nat.le_of_ble_eq_true rfl⟩ rfl hl.1 rfl (Nat.le_of_ble_eq_true rfl) dX11_admit_5 ⟨Nat.zero_le _, Nat.zero_le _⟩ (fun H locs hP hS => ?_)
  refine lv_istore (lv' := [(4, .int (r94)), (0, .ref (am 0)), (1, .int (p1)), (2, .int (p2)), (3, .int (p3))]) hx hb dX11_admit_8 hl (by decide) rfl (fun ls hl => ?_)
  refine lv_iload hx hb dX11_admit_10 (lv_at hl 0 rfl) ?_
  refine lv_bipush (v := (63 : Int32)) hx hb dX11_admit_12 (by decide) ?_
  refine lv_icmp_gt (tgt := 25) hx hb dX11_admit_14 (by decide) (fun hc95 => ?_) (fun hc95 => ?_)
  · replace hF := br_yes hF hc95
    exact J25  _ _ _ _ _ hF (lv_sub hl [1] rfl) hP hS
  · replace hF := br_no hF hc95
    refine lv_aload_n hx hb dX11_admit_17 rfl (lv_at hl 1 rfl) ?_
    refine lv_iload_n hx hb dX11_admit_18 rfl (lv_at hl 2 rfl) ?_
    replace hF := obnd3_of hF
    obtain ⟨r99, fi97, ar98, h96, hF⟩ := hF
    refine cM_i (As := [.int (p1)]) (rest := []) hx hb hml hT hown hK hE hD hA hP hS (k_areDays l g am _ nf fi92 ar93 (p1) r99 fi97 ar98 h96) cw_X11_areDays mw33_15 ⟨⟨rfl, rfl⟩, Nat.le_of_ble_eq_true rfl, Nat.le_of_ble_eq_true rfl⟩ rfl hl.1 rfl (Nat.le_of_ble_eq_true rfl) dX11_admit_19 ⟨Nat.zero_le _, Nat.zero_le _⟩ (fun H locs hP hS => ?_)
    refine lv_if_ne (tgt := 27) hx hb dX11_admit_22 (by decide) (fun hc100 => ?_) (fun hc100 => ?_)
    · replace hF := br_no hF hc100
      refine lv_iload hx hb dX11_admit_27 (lv_at hl 0 rfl) ?_
      refine lv_bipush (v := (8 : Int32)) hx hb dX11_admit_29 (by decide) ?_
      refine lv_iand hx hb dX11_admit_31 ?_
      refine lv_if_eq (tgt := 112) hx hb dX11_admit_32 (by decide) (fun hc101 => ?_) (fun hc101 => ?_)
      · replace hF := br_yes hF hc101
        refine lv_aload_n hx hb dX11_admit_112 rfl (lv_at hl 1 rfl) ?_
        refine lv_iload_n hx hb dX11_admit_113 rfl (lv_at hl 2 rfl) ?_
        refine lv_iconst (v := (0 : Int32)) hx hb dX11_admit_114 (by decide) ?_
        replace hF := obnd3_of hF
        obtain ⟨r105, fi103, ar104, h102, hF⟩ := hF
        refine cM_i (As := [.int (p1), .int (0 : Int32)]) (rest := []) hx hb hml hT hown hK hE hD hA hP hS (k_isShort l g am _ nf fi97 ar98 (p1) (0 : Int32) r105 fi103 ar104 h102) cw_X11_isShort mw34_11 ⟨⟨rfl, rfl⟩, Nat.le_of_ble_eq_true rfl, Nat.le_of_ble_eq_true rfl⟩ rfl hl.1 rfl (Nat.le_of_ble_eq_true rfl) dX11_admit_115 ⟨Nat.zero_le _, Nat.zero_le _⟩ (fun H locs hP hS => ?_)
        refine lv_if_eq (tgt := 140) hx hb dX11_admit_118 (by decide) (fun hc106 => ?_) (fun hc106 => ?_)
        · replace hF := br_yes hF hc106
          exact J140 (p1) (p2) (p3) (r94) _ _ _ _ _ hF (lv_sub hl [1, 2, 3, 4, 0] rfl) hP hS
        · replace hF := br_no hF hc106
          refine lv_iload hx hb dX11_admit_121 (lv_at hl 0 rfl) ?_
          refine lv_bipush (v := (16 : Int32)) hx hb dX11_admit_123 (by decide) ?_
          refine lv_iand hx hb dX11_admit_125 ?_
          refine lv_if_eq (tgt := 144) hx hb dX11_admit_126 (by decide) (fun hc107 => ?_) (fun hc107 => ?_)
          · replace hF := br_yes hF hc107
            exact J144 (p1) (p2) (p3) (r94) _ _ _ _ _ hF (lv_sub hl [1, 2, 3, 4, 0] rfl) hP hS
          · replace hF := br_no hF hc107
            refine lv_aload_n hx hb dX11_admit_129 rfl (lv_at hl 1 rfl) ?_
            refine lv_iload_n hx hb dX11_admit_130 rfl (lv_at hl 2 rfl) ?_
            refine lv_bipush (v := (28 : Int32)) hx hb dX11_admit_131 (by decide) ?_
            refine lv_iadd hx hb dX11_admit_133 ?_
            replace hF := obnd3_of hF
            obtain ⟨r111, fi109, ar110, h108, hF⟩ := hF
            refine cM_i (As := [.int ((p1) + (28 : Int32))]) (rest := []) hx hb hml hT hown hK hE hD hA hP hS (k_four l g am _ nf fi103 ar104 ((p1) + (28 : Int32)) r111 fi109 ar110 h108) cw_X11_four mw19_17 ⟨⟨rfl, rfl⟩, Nat.le_of_ble_eq_true rfl, Nat.le_of_ble_eq_true rfl⟩ rfl hl.1 rfl (Nat.le_of_ble_eq_true rfl) dX11_admit_134 ⟨Nat.zero_le _, Nat.zero_le _⟩ (fun H locs hP hS => ?_)
            refine lv_if_eq (tgt := 144) hx hb dX11_admit_137 (by decide) (fun hc112 => ?_) (fun hc112 => ?_)
            · replace hF := br_yes hF hc112
              exact J144 (p1) (p2) (p3) (r94) _ _ _ _ _ hF (lv_sub hl [1, 2, 3, 4, 0] rfl) hP hS
            · replace hF := br_no hF hc112
              exact J140 (p1) (p2) (p3) (r94) _ _ _ _ _ hF (lv_sub hl [1, 2, 3, 4, 0] rfl) hP hS
      · replace hF := br_no hF hc101
        refine lv_iload hx hb dX11_admit_35 (lv_at hl 0 rfl) ?_
        refine lv_bipush (v := (16 : Int32)) hx hb dX11_admit_37 (by decide) ?_
        refine lv_iand hx hb dX11_admit_39 ?_
        refine lv_if_ne (tgt := 89) hx hb dX11_admit_40 (by decide) (fun hc113 => ?_) (fun hc113 => ?_)
        · replace hF := br_no hF hc113
          exact J89 (p1) _ _ _ _ _ hF (lv_sub hl [1, 2] rfl) hP hS
        · replace hF := br_yes hF hc113
          refine lv_iload_n hx hb dX11_admit_43 rfl (lv_at hl 3 rfl) ?_
          refine lv_if_gt (tgt := 89) hx hb dX11_admit_44 (by decide) (fun hc114 => ?_) (fun hc114 => ?_)
          · replace hF := br_yes hF hc114
            exact J89 (p1) _ _ _ _ _ hF (lv_sub hl [1, 2] rfl) hP hS
          · replace hF := br_no hF hc114
            refine lv_aload_n hx hb dX11_admit_47 rfl (lv_at hl 1 rfl) ?_
            refine mg_33 hx hb hT hown hK hP mw31_12 dX11_admit_48 ?_
            refine lv_if_ge (tgt := 89) hx hb dX11_admit_51 (by decide) (fun hc115 => ?_) (fun hc115 => ?_)
            · replace hF := br_yes hF hc115
              exact J89 (p1) _ _ _ _ _ hF (lv_sub hl [1, 2] rfl) hP hS
            · replace hF := br_no hF hc115
              refine lv_aload_n hx hb dX11_admit_54 rfl (lv_at hl 1 rfl) ?_
              refine mg_36 hx hb hT hown hK hP mw32_7 dX11_admit_55 ?_
              refine lv_if_gt (tgt := 89) hx hb dX11_admit_58 (by decide) (fun hc116 => ?_) (fun hc116 => ?_)
              · replace hF := br_yes hF hc116
                exact J89 (p1) _ _ _ _ _ hF (lv_sub hl [1, 2] rfl) hP hS
              · replace hF := br_no hF hc116
                refine lv_aload_n hx hb dX11_admit_61 rfl (lv_at hl 1 rfl) ?_
                refine lv_iload_n hx hb dX11_admit_62 rfl (lv_at hl 2 rfl) ?_
                replace hF := obnd3_of hF
                obtain ⟨r120, fi118, ar119, h117, hF⟩ := hF
                refine cM_i (As := [.int (p1)]) (rest := []) hx hb hml hT hown hK hE hD hA hP hS (k_firstOf l g am _ nf fi97 ar98 (p1) r120 fi118 ar119 h117) cw_X11_firstOf mw32_13 ⟨⟨rfl, rfl⟩, Nat.le_of_ble_eq_true rfl, Nat.le_of_ble_eq_true rfl⟩ rfl hl.1 rfl (Nat.le_of_ble_eq_true rfl) dX11_admit_63 ⟨Nat.zero_le _, Nat.zero_le _⟩ (fun H locs hP hS => ?_)
                refine lv_if_ne (tgt := 89) hx hb dX11_admit_66 (by decide) (fun hc121 => ?_) (fun hc121 => ?_)
                · replace hF := br_no hF hc121
                  exact J89 (p1) _ _ _ _ _ hF (lv_sub hl [1, 2] rfl) hP hS
                · replace hF := br_yes hF hc121
                  refine lv_aload_n hx hb dX11_admit_69 rfl (lv_at hl 1 rfl) ?_
                  refine lv_iload_n hx hb dX11_admit_70 rfl (lv_at hl 2 rfl) ?_
                  refine lv_bipush (v := (28 : Int32)) hx hb dX11_admit_71 (by decide) ?_
                  refine lv_iadd hx hb dX11_admit_73 ?_
                  replace hF := obnd3_of hF
                  obtain ⟨r125, fi123, ar124, h122, hF⟩ := hF
                  refine cM_i (As := [.int ((p1) + (28 : Int32))]) (rest := []) hx hb hml hT hown hK hE hD hA hP hS (k_four l g am _ nf fi118 ar119 ((p1) + (28 : Int32)) r125 fi123 ar124 h122) cw_X11_four mw19_17 ⟨⟨rfl, rfl⟩, Nat.le_of_ble_eq_true rfl, Nat.le_of_ble_eq_true rfl⟩ rfl hl.1 rfl (Nat.le_of_ble_eq_true rfl) dX11_admit_74 ⟨Nat.zero_le _, Nat.zero_le _⟩ (fun H locs hP hS => ?_)
                  refine lv_if_ne (tgt := 89) hx hb dX11_admit_77 (by decide) (fun hc126 => ?_) (fun hc126 => ?_)
                  · replace hF := br_no hF hc126
                    exact J89 (p1) _ _ _ _ _ hF (lv_sub hl [1, 2] rfl) hP hS
                  · replace hF := br_yes hF hc126
                    refine lv_aload_n hx hb dX11_admit_80 rfl (lv_at hl 1 rfl) ?_
                    refine lv_iload_n hx hb dX11_admit_81 rfl (lv_at hl 2 rfl) ?_
                    refine lv_iconst (v := (1 : Int32)) hx hb dX11_admit_82 (by decide) ?_
                    replace hF := obnd3_of hF
                    obtain ⟨r130, fi128, ar129, h127, hF⟩ := hF
                    refine cM_i (As := [.int (p1), .int (1 : Int32)]) (rest := []) hx hb hml hT hown hK hE hD hA hP hS (k_isShort l g am _ nf fi123 ar124 (p1) (1 : Int32) r130 fi128 ar129 h127) cw_X11_isShort mw34_11 ⟨⟨rfl, rfl⟩, Nat.le_of_ble_eq_true rfl, Nat.le_of_ble_eq_true rfl⟩ rfl hl.1 rfl (Nat.le_of_ble_eq_true rfl) dX11_admit_83 ⟨Nat.zero_le _, Nat.zero_le _⟩ (fun H locs hP hS => ?_)
                    refine lv_if_ne (tgt := 93) hx hb dX11_admit_86 (by decide) (fun hc131 => ?_) (fun hc131 => ?_)
                    · replace hF := br_no hF hc131
                      refine lv_iconst (v := (0 : Int32)) hx hb dX11_admit_93 (by decide) ?_
                      exact J94 (p1) (0 : Int32) _ _ _ _ _ hF (lv_sub hl [1, 2] rfl) hP hS
                    · replace hF := br_yes hF hc131
                      exact J89 (p1) _ _ _ _ _ hF (lv_sub hl [1, 2] rfl) hP hS
    · replace hF := br_yes hF hc100
      exact J25  _ _ _ _ _ hF (lv_sub hl [1] rfl) hP hS
theorem cw_X11_admit : (Cond.instanceMethod yX11_admit ∈ TB ∧ Cond.selects RX11 yX11_admit yX11_admit ∈ TB ∧ Cond.code yX11_admit cX11_admit 9 (some .int) ∈ TB) ∧ (yX11_admit.cls = RX11 ∧ yX11_admit.cls ≠ "java/lang/invoke/MethodHandle" ∧ yX11_admit.cls ≠ "java/lang/invoke/VarHandle" ∧ (parseMethodDescriptor yX11_admit.desc).map (fun d => d.parameters.length) = some 3) := ⟨⟨mw33_12, mw33_13, mw33_14⟩, by decide +kernel⟩
