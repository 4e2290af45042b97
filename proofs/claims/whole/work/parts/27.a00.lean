/-! X2_add -/
noncomputable def FX2_add_63 (nf : Nat) (i0 : Nat) (x1 : Int32) (x2 : Int32) (x3 : Int32) (fi : FI) (ar : AR) (ln : LN) : Option (Unit × FI × AR × LN × Nat × Nat) :=
  gd (¬ ((fi (20 + 10 * i0)) < 0 ∨ ln (11 + 4 * i0) ≤ (fi (20 + 10 * i0)).toNatClampNeg)) (bnd (va_up ar (11 + 4 * i0) (upd (ar (11 + 4 * i0)) (fi (20 + 10 * i0)).toNatClampNeg (x1))) fun ar2 => gd (¬ ((fi (20 + 10 * i0)) < 0 ∨ ln (12 + 4 * i0) ≤ (fi (20 + 10 * i0)).toNatClampNeg)) (bnd (va_up ar2 (12 + 4 * i0) (upd (ar2 (12 + 4 * i0)) (fi (20 + 10 * i0)).toNatClampNeg (x2))) fun ar4 => gd (¬ ((fi (20 + 10 * i0)) < 0 ∨ ln (13 + 4 * i0) ≤ (fi (20 + 10 * i0)).toNatClampNeg)) (bnd (va_up ar4 (13 + 4 * i0) (upd (ar4 (13 + 4 * i0)) (fi (20 + 10 * i0)).toNatClampNeg (x3))) fun ar6 => bnd (va_up fi (20 + 10 * i0) ((fi (20 + 10 * i0)) + (1 : Int32))) fun fi7 => some ((), fi7, ar6, ln, 0, 0))))
noncomputable def FX2_add (nf : Nat) (i0 : Nat) (fi : FI) (ar : AR) (ln : LN) (x1 : Int32) (x2 : Int32) (x3 : Int32) : Option (Unit × FI × AR × LN × Nat × Nat) :=
  br ((fi (20 + 10 * i0)) = (Int32.ofNat (ln (11 + 4 * i0)))) (gd (ln (11 + 4 * i0) < 2 ^ 31 ∧ ¬ ((2 : Int32) * (fi (20 + 10 * i0))) < 0 ∧ ¬ ((2 : Int32) * (fi (20 + 10 * i0))) = Int32.ofNat (ln (11 + 4 * i0)) ∧ ((2 : Int32) * (fi (20 + 10 * i0))).toNatClampNeg * 4 ≤ 536870912) (bnd (va_up ln (11 + 4 * i0) ((2 : Int32) * (fi (20 + 10 * i0))).toNatClampNeg) fun ln10 => bnd (va_up ar (11 + 4 * i0) (cpyN (ar (11 + 4 * i0)) (ln (11 + 4 * i0)) ((2 : Int32) * (fi (20 + 10 * i0))))) fun ar11 => addc (1) (((2 : Int32) * (fi (20 + 10 * i0))).toNatClampNeg) (gd (ln10 (12 + 4 * i0) < 2 ^ 31 ∧ ¬ ((2 : Int32) * (fi (20 + 10 * i0))) < 0 ∧ ¬ ((2 : Int32) * (fi (20 + 10 * i0))) = Int32.ofNat (ln10 (12 + 4 * i0)) ∧ ((2 : Int32) * (fi (20 + 10 * i0))).toNatClampNeg * 4 ≤ 536870912) (bnd (va_up ln10 (12 + 4 * i0) ((2 : Int32) * (fi (20 + 10 * i0))).toNatClampNeg) fun ln16 => bnd (va_up ar11 (12 + 4 * i0) (cpyN (ar11 (12 + 4 * i0)) (ln10 (12 + 4 * i0)) ((2 : Int32) * (fi (20 + 10 * i0))))) fun ar17 => addc (1) (((2 : Int32) * (fi (20 + 10 * i0))).toNatClampNeg) (gd (ln16 (13 + 4 * i0) < 2 ^ 31 ∧ ¬ ((2 : Int32) * (fi (20 + 10 * i0))) < 0 ∧ ¬ ((2 : Int32) * (fi (20 + 10 * i0))) = Int32.ofNat (ln16 (13 + 4 * i0)) ∧ ((2 : Int32) * (fi (20 + 10 * i0))).toNatClampNeg * 4 ≤ 536870912) (bnd (va_up ln16 (13 + 4 * i0) ((2 : Int32) * (fi (20 + 10 * i0))).toNatClampNeg) fun ln22 => bnd (va_up ar17 (13 + 4 * i0) (cpyN (ar17 (13 + 4 * i0)) (ln16 (13 + 4 * i0)) ((2 : Int32) * (fi (20 + 10 * i0))))) fun ar23 => addc (1) (((2 : Int32) * (fi (20 + 10 * i0))).toNatClampNeg) (FX2_add_63 nf i0  (x1) (x2) (x3) fi ar23 ln22))))))) (FX2_add_63 nf i0  (x1) (x2) (x3) fi ar ln)
set_option maxHeartbeats 8000000 in
set_option maxRecDepth 100000 in
theorem kX2_add (l : Launch) (g : GT) (ad rd0 : Nat → Nat) (sz : Nat) (nf : Nat) (i0 : Nat) (hi0 : i0 < 3) (fi : FI) (ar : AR) (ln : LN) (p1 : Int32) (p2 : Int32) (p3 : Int32) (r : Unit) (fi' : FI) (ar' : AR) (ln' : LN) (KC KS : Nat) (hF : FX2_add nf i0 fi ar ln p1 p2 p3 = some (r, fi', ar', ln', KC, KS)) : Met l yX2_add (wx yX2_add cX2_add 4 none) ({ frames := 2, cells := KC, slots := KS, locals := 82 } : Room) (va_Pc [.ref (ad (11 + 5 * i0)), .int p1, .int p2, .int p3] (PC g ad rd0 ln sz fi ar)) (QAv g ad (AC ad rd0 sz) r fi' ar' ln') KC KS (AC ad rd0 sz) := by
  refine Met.ofW (cc := cX2_add) (maxL := 4) (ret := none) (by decide) rfl ?_
  intro p e s m args below meth c s₁ B hml hv
  obtain ⟨rfl, hsz, hP, hK, hD0, hE⟩ := hv
  have hx := B.exec
  have hb := B.bytes
  have hr := B.returns
  have hts := atoms_spec (ws := (wx yX2_add cX2_add 4 none)) B.pre
  have hT : ∀ w ∈ TB, w.before _ s = true := fun w h => hts w (List.mem_cons_of_mem _ h)
  have hown : s.vm.findClass RX2 = some m.cls := findClass_of_methodNamed B.named
  have hlocks := B.notSynchronized
  subst hsz
  have hD : ∀ (ln : LN) (fi : FI) (ar : AR), va_D (AC ad rd0 s.heap.size) (WC g ad rd0 ln fi ar) := dCre (dC hD0 s.heap.size fi ar) (fun _ h => h)
  have hA : ∀ q : Nat, s.heap.size ≤ q → AC ad rd0 s.heap.size q := fun q h => Or.inr h
  have hS : va_S (AC ad rd0 s.heap.size) s.heap s.heap [] := va_S.rf
  have hl := lv_entry ([.ref (ad (11 + 5 * i0)), .int p1, .int p2, .int p3]) (n := 4) (Nat.le_of_ble_eq_true rfl)
  rw [lg_entry_eq]
  generalize (lg_sl ([.ref (ad (11 + 5 * i0)), .int p1, .int p2, .int p3]) ++ List.replicate (4 - (lg_sl ([.ref (ad (11 + 5 * i0)), .int p1, .int p2, .int p3])).length) Slot.unset).toArray = ls at hl ⊢
  have hl : lv_has ls 4 [(0, .ref (ad (11 + 5 * i0))), (1, .int p1), (2, .int p2), (3, .int p3)] := hl
  unfold FX2_add at hF
  have J63 : ∀ (x1 : Int32) (x2 : Int32) (x3 : Int32) (fi : FI) (ar : AR) (ln : LN) (kc ks cells slots : Nat) (rd : Nat → Nat) (H : Heap) (locs : List Loc) (ls : Array Slot), FX2_add_63 nf i0 x1 x2 x3 fi ar ln = some (r, fi', ar', ln', kc, ks) → cells + kc ≤ KC → slots + ks ≤ KS → lv_has ls 4 [(0, .ref (ad (11 + 5 * i0))), (1, .int x1), (2, .int x2), (3, .int x3)] → va_P (gD g) vwCl (WC g ad rd ln fi ar) H → (∀ (ln : LN) (fi : FI) (ar : AR), va_D (AC ad rd0 s.heap.size) (WC g ad rd ln fi ar)) → va_S (AC ad rd0 s.heap.size) s.heap H locs → W p l e (headSpec (wx yX2_add cX2_add 4 none) ({ frames := 2, cells := KC, slots := KS, locals := 82 } : Room)).room s m ([.ref (ad (11 + 5 * i0)), .int p1, .int p2, .int p3] : List Value).toArray below meth c H locs cells slots (MQ below (QAv g ad (AC ad rd0 s.heap.size) r fi' ar' ln') ([.ref (ad (11 + 5 * i0)), .int p1, .int p2, .int p3] : List Value).toArray s KC KS (AC ad rd0 s.heap.size)) (F0 m 63 ls []) := by
    intro x1 x2 x3 fi ar ln kc ks cells slots rd H locs ls hF hkc hks hl hP hD hS
    unfold FX2_add_63 at hF
    refine lv_aload_n hx hb dX2_add_63 rfl (lv_at hl 0 rfl) ?_
    refine cg_X2_entrySlots hi0 hx hb hT hown hK hP mw5_11 dX2_add_64 ?_
    refine lv_aload_n hx hb dX2_add_67 rfl (lv_at hl 0 rfl) ?_
    refine cg_X2_count hi0 hx hb hT hown hK hP mw23_16 dX2_add_68 ?_
    refine lv_iload_n hx hb dX2_add_71 rfl (lv_at hl 1 rfl) ?_
    replace hF := gd_of hF
    obtain ⟨hi1, hF⟩ := hF
    obtain ⟨ar2, ear2⟩ : ∃ y : AR, y = va_up ar (11 + 4 * i0) (upd (ar (11 + 4 * i0)) (fi (20 + 10 * i0)).toNatClampNeg (x1)) := ⟨_, rfl⟩
    replace hF := bnd_of hF ear2
    refine cs_entrySlots hi0 hx hb hK hP (hD _) hS hi1 dX2_add_72 (fun H locs hP hS => ?_)
    rw [← ear2] at hP
    refine lv_aload_n hx hb dX2_add_73 rfl (lv_at hl 0 rfl) ?_
    refine cg_X2_partCounts hi0 hx hb hT hown hK hP mw5_12 dX2_add_74 ?_
    refine lv_aload_n hx hb dX2_add_77 rfl (lv_at hl 0 rfl) ?_
    refine cg_X2_count hi0 hx hb hT hown hK hP mw23_16 dX2_add_78 ?_
    refine lv_iload_n hx hb dX2_add_81 rfl (lv_at hl 2 rfl) ?_
    replace hF := gd_of hF
    obtain ⟨hi3, hF⟩ := hF
    obtain ⟨ar4, ear4⟩ : ∃ y : AR, y = va_up ar2 (12 + 4 * i0) (upd (ar2 (12 + 4 * i0)) (fi (20 + 10 * i0)).toNatClampNeg (x2)) := ⟨_, rfl⟩
    replace hF := bnd_of hF ear4
    refine cs_partCounts hi0 hx hb hK hP (hD _) hS hi3 dX2_add_82 (fun H locs hP hS => ?_)
    rw [← ear4] at hP
    refine lv_aload_n hx hb dX2_add_83 rfl (lv_at hl 0 rfl) ?_
    refine cg_X2_hashes hi0 hx hb hT hown hK hP mw5_13 dX2_add_84 ?_
    refine lv_aload_n hx hb dX2_add_87 rfl (lv_at hl 0 rfl) ?_
    refine cg_X2_count hi0 hx hb hT hown hK hP mw23_16 dX2_add_88 ?_
    refine lv_iload_n hx hb dX2_add_91 rfl (lv_at hl 3 rfl) ?_
    replace hF := gd_of hF
    obtain ⟨hi5, hF⟩ := hF
    obtain ⟨ar6, ear6⟩ : ∃ y : AR, y = va_up ar4 (13 + 4 * i0) (upd (ar4 (13 + 4 * i0)) (fi (20 + 10 * i0)).toNatClampNeg (x3)) := ⟨_, rfl⟩
    replace hF := bnd_of hF ear6
    refine cs_hashes hi0 hx hb hK hP (hD _) hS hi5 dX2_add_92 (fun H locs hP hS => ?_)
    rw [← ear6] at hP
    refine lv_aload_n hx hb dX2_add_93 rfl (lv_at hl 0 rfl) ?_
    refine lv_dup hx hb dX2_add_94 rfl ?_
    refine cg_X2_count hi0 hx hb hT hown hK hP mw23_16 dX2_add_95 ?_
    refine lv_iconst (v := (1 : Int32)) hx hb dX2_add_98 (by decide) ?_
    refine lv_iadd hx hb dX2_add_99 ?_
    obtain ⟨fi7, efi7⟩ : ∃ y : FI, y = va_up fi (20 + 10 * i0) ((fi (20 + 10 * i0)) + (1 : Int32)) := ⟨_, rfl⟩
    replace hF := bnd_of hF efi7
    refine cp_X2_count hi0 hx hb hT hown hK hP (hD _) hS mw23_16 dX2_add_100 (fun H locs hP hS => ?_)
    rw [← efi7] at hP
    refine W.widen (k := KC) (n := KS) (by omega) (by omega) ?_
    exact rA_v hx hb hr hlocks hF hP hD hS dX2_add_103
  replace hl := lv_sub hl [0, 1, 2, 3] rfl
  obtain ⟨cells, ecells⟩ : ∃ z : Nat, z = 0 := ⟨_, rfl⟩
  obtain ⟨slots, eslots⟩ : ∃ z : Nat, z = 0 := ⟨_, rfl⟩
  obtain ⟨kc, ekc⟩ : ∃ z : Nat, z = KC := ⟨_, rfl⟩
  obtain ⟨ks, eks⟩ : ∃ z : Nat, z = KS := ⟨_, rfl⟩
  have hkc : cells + kc ≤ KC := by omega
  have hks : slots + ks ≤ KS := by omega
  replace hF := kcks_of hF ekc eks
  suffices hgo : W p l e (headSpec (wx yX2_add cX2_add 4 none) ({ frames := 2, cells := KC, slots := KS, locals := 82 } : Room)).room s m ([.ref (ad (11 + 5 * i0)), .int p1, .int p2, .int p3] : List Value).toArray below meth c s.heap [] cells slots (MQ below (QAv g ad (AC ad rd0 s.heap.size) r fi' ar' ln') ([.ref (ad (11 + 5 * i0)), .int p1, .int p2, .int p3] : List Value).toArray s KC KS (AC ad rd0 s.heap.size)) (F0 m 0 ls []) by rw [ecells, eslots] at hgo; exact hgo
  obtain ⟨rd, erd⟩ : ∃ z : Nat → Nat, z = rd0 := ⟨_, rfl⟩
  have hP : va_P (gD g) vwCl (WC g ad rd ln fi ar) s.heap := by rw [erd]; exact hP
  have hD : ∀ (ln : LN) (fi : FI) (ar : AR), va_D (AC ad rd0 s.heap.size) (WC g ad rd ln fi ar) := by rw [erd]; exact hD
  clear erd
  refine lv_aload_n hx hb dX2_add_0 rfl (lv_at hl 0 rfl) ?_
  refine cg_X2_count hi0 hx hb hT hown hK hP mw23_16 dX2_add_1 ?_
  refine lv_aload_n hx hb dX2_add_4 rfl (lv_at hl 0 rfl) ?_
  refine cg_X2_entrySlots hi0 hx hb hT hown hK hP mw5_11 dX2_add_5 ?_
  refine ca_entrySlots hi0 hx hb hK hP dX2_add_8 ?_
  refine lv_icmp_ne (tgt := 63) hx hb dX2_add_9 (by decide) (fun hc8 => ?_) (fun hc8 => ?_)
  · replace hF := br_no hF hc8
    exact J63 (p1) (p2) (p3) _ _ _ _ _ _ _ _ _ _ _ hF hkc hks (lv_sub hl [0, 1, 2, 3] rfl) hP hD hS
  · replace hF := br_yes hF hc8
    refine lv_aload_n hx hb dX2_add_12 rfl (lv_at hl 0 rfl) ?_
    refine lv_aload_n hx hb dX2_add_13 rfl (lv_at hl 0 rfl) ?_
    refine cg_X2_entrySlots hi0 hx hb hT hown hK hP mw5_11 dX2_add_14 ?_
    refine lv_iconst (v := (2 : Int32)) hx hb dX2_add_17 (by decide) ?_
    refine lv_aload_n hx hb dX2_add_18 rfl (lv_at hl 0 rfl) ?_
    refine cg_X2_count hi0 hx hb hT hown hK hP mw23_16 dX2_add_19 ?_
    refine lv_imul hx hb dX2_add_22 ?_
    replace hF := gd_of hF
    obtain ⟨hg9, hF⟩ := hF
    obtain ⟨ln10, eln10⟩ : ∃ y : LN, y = va_up ln (11 + 4 * i0) ((2 : Int32) * (fi (20 + 10 * i0))).toNatClampNeg := ⟨_, rfl⟩
    replace hF := bnd_of hF eln10
    obtain ⟨ar11, ear11⟩ : ∃ y : AR, y = va_up ar (11 + 4 * i0) (cpyN (ar (11 + 4 * i0)) (ln (11 + 4 * i0)) ((2 : Int32) * (fi (20 + 10 * i0)))) := ⟨_, rfl⟩
    replace hF := bnd_of hF ear11
    replace hF := addc_of hF
    obtain ⟨kc12, ks13, e14c, e14s, hF⟩ := hF
    refine cCopy_entrySlots hi0 hx hb hml hT hown hK hA hP (hD _) hS hg9 mw29_15 mw5_11 ⟨Nat.le_of_ble_eq_true rfl, Nat.le_of_ble_eq_true rfl⟩ hl.1 (Nat.le_of_ble_eq_true rfl) dX2_add_23 dX2_add_26 (by show _ ≤ KC; omega) (by show _ ≤ KS; omega) (fun rd H locs hP hD hS => ?_)
    rw [← eln10, ← ear11] at hP
    replace hkc : cells + 1 + kc12 ≤ KC := by omega
    replace hks : slots + ((2 : Int32) * (fi (20 + 10 * i0))).toNatClampNeg + ks13 ≤ KS := by omega
    refine lv_aload_n hx hb dX2_add_29 rfl (lv_at hl 0 rfl) ?_
    refine lv_aload_n hx hb dX2_add_30 rfl (lv_at hl 0 rfl) ?_
    refine cg_X2_partCounts hi0 hx hb hT hown hK hP mw5_12 dX2_add_31 ?_
    refine lv_iconst (v := (2 : Int32)) hx hb dX2_add_34 (by decide) ?_
    refine lv_aload_n hx hb dX2_add_35 rfl (lv_at hl 0 rfl) ?_
    refine cg_X2_count hi0 hx hb hT hown hK hP mw23_16 dX2_add_36 ?_
    refine lv_imul hx hb dX2_add_39 ?_
    replace hF := gd_of hF
    obtain ⟨hg15, hF⟩ := hF
    obtain ⟨ln16, eln16⟩ : ∃ y : LN, y = va_up ln10 (12 + 4 * i0) ((2 : Int32) * (fi (20 + 10 * i0))).toNatClampNeg := ⟨_, rfl⟩
    replace hF := bnd_of hF eln16
    obtain ⟨ar17, ear17⟩ : ∃ y : AR, y = va_up ar11 (12 + 4 * i0) (cpyN (ar11 (12 + 4 * i0)) (ln10 (12 + 4 * i0)) ((2 : Int32) * (fi (20 + 10 * i0)))) := ⟨_, rfl⟩
    replace hF := bnd_of hF ear17
    replace hF := addc_of hF
    obtain ⟨kc18, ks19, e20c, e20s, hF⟩ := hF
    refine cCopy_partCounts hi0 hx hb hml hT hown hK hA hP (hD _) hS hg15 mw29_15 mw5_12 ⟨Nat.le_of_ble_eq_true rfl, Nat.le_of_ble_eq_true rfl⟩ hl.1 (Nat.le_of_ble_eq_true rfl) dX2_add_40 dX2_add_43 (by show _ ≤ KC; omega) (by show _ ≤ KS; omega) (fun rd H locs hP hD hS => ?_)
    rw [← eln16, ← ear17] at hP
    replace hkc : cells + 1 + 1 + kc18 ≤ KC := by omega
    replace hks : slots + ((2 : Int32) * (fi (20 + 10 * i0))).toNatClampNeg + ((2 : Int32) * (fi (20 + 10 * i0))).toNatClampNeg + ks19 ≤ KS := by omega
    refine lv_aload_n hx hb dX2_add_46 rfl (lv_at hl 0 rfl) ?_
    refine lv_aload_n hx hb dX2_add_47 rfl (lv_at hl 0 rfl) ?_
    refine cg_X2_hashes hi0 hx hb hT hown hK hP mw5_13 dX2_add_48 ?_
    refine lv_iconst (v := (2 : Int32)) hx hb dX2_add_51 (by decide) ?_
    refine lv_aload_n hx hb dX2_add_52 rfl (lv_at hl 0 rfl) ?_
    refine cg_X2_count hi0 hx hb hT hown hK hP mw23_16 dX2_add_53 ?_
    refine lv_imul hx hb dX2_add_56 ?_
    replace hF := gd_of hF
    obtain ⟨hg21, hF⟩ := hF
    obtain ⟨ln22, eln22⟩ : ∃ y : LN, y = va_up ln16 (13 + 4 * i0) ((2 : Int32) * (fi (20 + 10 * i0))).toNatClampNeg := ⟨_, rfl⟩
    replace hF := bnd_of hF eln22
    obtain ⟨ar23, ear23⟩ : ∃ y : AR, y = va_up ar17 (13 + 4 * i0) (cpyN (ar17 (13 + 4 * i0)) (ln16 (13 + 4 * i0)) ((2 : Int32) * (fi (20 + 10 * i0)))) := ⟨_, rfl⟩
    replace hF := bnd_of hF ear23
    replace hF := addc_of hF
    obtain ⟨kc24, ks25, e26c, e26s, hF⟩ := hF
    refine cCopy_hashes hi0 hx hb hml hT hown hK hA hP (hD _) hS hg21 mw29_15 mw5_13 ⟨Nat.le_of_ble_eq_true rfl, Nat.le_of_ble_eq_true rfl⟩ hl.1 (Nat.le_of_ble_eq_true rfl) dX2_add_57 dX2_add_60 (by show _ ≤ KC; omega) (by show _ ≤ KS; omega) (fun rd H locs hP hD hS => ?_)
    rw [← eln22, ← ear23] at hP
    replace hkc : cells + 1 + 1 + 1 + kc24 ≤ KC := by omega
    replace hks : slots + ((2 : Int32) * (fi (20 + 10 * i0))).toNatClampNeg + ((2 : Int32) * (fi (20 + 10 * i0))).toNatClampNeg + ((2 : Int32) * (fi (20 + 10 * i0))).toNatClampNeg + ks25 ≤ KS := by omega
    exact J63 (p1) (p2) (p3) _ _ _ _ _ _ _ _ _ _ _ hF hkc hks (lv_sub hl [0, 1, 2, 3] rfl) hP hD hS
theorem cw_X2_add : (Cond.instanceMethod yX2_add ∈ TB ∧ Cond.selects RX2 yX2_add yX2_add ∈ TB ∧ Cond.code yX2_add cX2_add 4 none ∈ TB ∧ Cond.initialized RX2 ∈ TB) ∧ (yX2_add.cls = RX2 ∧ yX2_add.cls ≠ "java/lang/invoke/MethodHandle" ∧ yX2_add.cls ≠ "java/lang/invoke/VarHandle" ∧ (parseMethodDescriptor yX2_add.desc).map (fun d => d.parameters.length) = some 3) := ⟨⟨mw29_12, mw29_13, mw29_14, mw2_18⟩, by decide +kernel⟩
/-! X2_list -/
noncomputable def FX2_list_111 (K9 : Int32 → Int32 → FI → AR → LN → Option (Unit × FI × AR × LN × Nat × Nat)) (nf : Nat) (i0 : Nat) (x2 : Int32) (x3 : Int32) (fi : FI) (ar : AR) (ln : LN) : Option (Unit × FI × AR × LN × Nat × Nat) :=
  bnd ((x3) + (1 : Int32)) fun x3_1 => K9 (x2) (x3_1) fi ar ln
noncomputable def FX2_list_109 (K9 : Int32 → Int32 → FI → AR → LN → Option (Unit × FI × AR × LN × Nat × Nat)) (nf : Nat) (i0 : Nat) (x3 : Int32) (fi : FI) (ar : AR) (ln : LN) : Option (Unit × FI × AR × LN × Nat × Nat) :=
  FX2_list_111 K9 nf i0  (0 : Int32) (x3) fi ar ln
noncomputable def FX2_list_9b (K9 : Int32 → Int32 → FI → AR → LN → Option (Unit × FI × AR × LN × Nat × Nat)) (nf : Nat) (i0 : Nat) (x2 : Int32) (x3 : Int32) (fi : FI) (ar : AR) (ln : LN) : Option (Unit × FI × AR × LN × Nat × Nat) :=
  br ((fi (21 + 10 * i0)) ≤ (x3)) (some ((), fi, ar, ln, 0, 0)) (obnd3 (FX2_slotAddress nf ln i0 fi ar (x3)) fun r6 fi4 ar5 => obnd3 (FX3_one nf ln fi4 ar5 (r6)) fun r10 fi8 ar9 => obnd3 (FX3_one nf ln fi8 ar9 ((r6) + (11 : Int32))) fun r14 fi12 ar13 => br ((r10) = 0) (bnd (va_up fi12 (22 + 10 * i0) (x3)) fun fi31 => some ((), fi31, ar13, ln, 0, 0)) (br ((r10) = (229 : Int32)) (FX2_list_111 K9 nf i0  (x2) (x3) fi12 ar13 ln) (br (((r14) &&& (63 : Int32)) = (15 : Int32)) (bnd ((x2) + (1 : Int32)) fun x2_30 => FX2_list_111 K9 nf i0  (x2_30) (x3) fi12 ar13 ln) (br (((r14) &&& (8 : Int32)) = 0) (br ((r10) = (46 : Int32)) (FX2_list_109 K9 nf i0  (x3) fi12 ar13 ln) (obnd6 (FX2_add nf i0 fi12 ar13 ln (x3) (x2) (0 : Int32)) fun r24 fi21 ar22 ln23 kc25 ks26 => addc (kc25) (ks26) (FX2_list_109 K9 nf i0  (x3) fi21 ar22 ln23))) (FX2_list_109 K9 nf i0  (x3) fi12 ar13 ln)))))
noncomputable def FX2_list_9 (nf : Nat) (i0 : Nat) (kf : Nat) : Int32 → Int32 → FI → AR → LN → Option (Unit × FI × AR × LN × Nat × Nat) := Nat.rec (fun _ _ _ _ _ => none) (fun _ K9 => FX2_list_9b K9 nf i0) kf
noncomputable def FX2_list (nf : Nat) (i0 : Nat) (fi : FI) (ar : AR) (ln : LN) (x1 : Int32) : Option (Unit × FI × AR × LN × Nat × Nat) :=
  obnd3 (FX2_openChain nf ln i0 fi ar (x1)) fun r35 fi33 ar34 => FX2_list_9 nf i0 nf (0 : Int32) (0 : Int32) fi33 ar34 ln
set_option maxHeartbeats 8000000 in
set_option maxRecDepth 100000 in
theorem kX2_list (l : Launch) (g : GT) (ad rd0 : Nat → Nat) (sz : Nat) (nf : Nat) (i0 : Nat) (hi0 : i0 < 3) (fi : FI) (ar : AR) (ln : LN) (p1 : Int32) (r : Unit) (fi' : FI) (ar' : AR) (ln' : LN) (KC KS : Nat) (hF : FX2_list nf i0 fi ar ln p1 = some (r, fi', ar', ln', KC, KS)) : Met l yX2_list (wx yX2_list cX2_list 7 none) ({ frames := 3, cells := KC, slots := KS, locals := 105 } : Room) (va_Pc [.ref (ad (11 + 5 * i0)), .int p1] (PC g ad rd0 ln sz fi ar)) (QAv g ad (AC ad rd0 sz) r fi' ar' ln') KC KS (AC ad rd0 sz) := by
  refine Met.ofW (cc := cX2_list) (maxL := 7) (ret := none) (by decide) rfl ?_
  intro p e s m args below meth c s₁ B hml hv
  obtain ⟨rfl, hsz, hP, hK, hD0, hE⟩ := hv
  have hx := B.exec
  have hb := B.bytes
  have hr := B.returns
  have hts := atoms_spec (ws := (wx yX2_list cX2_list 7 none)) B.pre
  have hT : ∀ w ∈ TB, w.before _ s = true := fun w h => hts w (List.mem_cons_of_mem _ h)
  have hown : s.vm.findClass RX2 = some m.cls := findClass_of_methodNamed B.named
  have hlocks := B.notSynchronized
  subst hsz
  have hD : ∀ (ln : LN) (fi : FI) (ar : AR), va_D (AC ad rd0 s.heap.size) (WC g ad rd0 ln fi ar) := dCre (dC hD0 s.heap.size fi ar) (fun _ h => h)
  have hA : ∀ q : Nat, s.heap.size ≤ q → AC ad rd0 s.heap.size q := fun q h => Or.inr h
  have hS : va_S (AC ad rd0 s.heap.size) s.heap s.heap [] := va_S.rf
  have hl := lv_entry ([.ref (ad (11 + 5 * i0)), .int p1]) (n := 7) (Nat.le_of_ble_eq_true rfl)
  rw [lg_entry_eq]
  generalize (lg_sl ([.ref (ad (11 + 5 * i0)), .int p1]) ++ List.replicate (7 - (lg_sl ([.ref (ad (11 + 5 * i0)), .int p1])).length) Slot.unset).toArray = ls at hl ⊢
  have hl : lv_has ls 7 [(0, .ref (ad (11 + 5 * i0))), (1, .int p1)] := hl
  unfold FX2_list at hF
  have L9 : ∀ kf : Nat, ∀ (x2 : Int32) (x3 : Int32) (fi : FI) (ar : AR) (ln : LN) (kc ks cells slots : Nat) (rd : Nat → Nat) (H : Heap) (locs : List Loc) (ls : Array Slot), FX2_list_9 nf i0 kf x2 x3 fi ar ln = some (r, fi', ar', ln', kc, ks) → cells + kc ≤ KC → slots + ks ≤ KS → lv_has ls 7 [(0, .ref (ad (11 + 5 * i0))), (2, .int x2), (3, .int x3)] → va_P (gD g) vwCl (WC g ad rd ln fi ar) H → (∀ (ln : LN) (fi : FI) (ar : AR), va_D (AC ad rd0 s.heap.size) (WC g ad rd ln fi ar)) → va_S (AC ad rd0 s.heap.size) s.heap H locs → W p l e (headSpec (wx yX2_list cX2_list 7 none) ({ frames := 3, cells := KC, slots := KS, locals := 105 } : Room)).room s m ([.ref (ad (11 + 5 * i0)), .int p1] : List Value).toArray below meth c H locs cells slots (MQ below (QAv g ad (AC ad rd0 s.heap.size) r fi' ar' ln') ([.ref (ad (11 + 5 * i0)), .int p1] : List Value).toArray s KC KS (AC ad rd0 s.heap.size)) (F0 m 9 ls []) := by
    intro kf
    induction kf with
    | zero => intro x2 x3 fi ar ln kc ks cells slots rd H locs ls hF hkc hks hl hP hD hS; cases (show (none : Option (Unit × FI × AR × LN × Nat × Nat)) = _ from hF)
    | succ kf ih9 =>
      intro x2 x3 fi ar ln kc ks cells slots rd H locs ls hF hkc hks hl hP hD hS
      obtain ⟨K9, hK9⟩ : ∃ K : Int32 → Int32 → FI → AR → LN → Option (Unit × FI × AR × LN × Nat × Nat), K = FX2_list_9 nf i0 kf := ⟨_, rfl⟩
      replace hF : FX2_list_9b K9 nf i0 x2 x3 fi ar ln = some (r, fi', ar', ln', kc, ks) := by rw [hK9]; exact hF
      rw [← hK9] at ih9
      clear hK9
      have J111 : ∀ (x2 : Int32) (x3 : Int32) (fi : FI) (ar : AR) (ln : LN) (kc ks cells slots : Nat) (rd : Nat → Nat) (H : Heap) (locs : List Loc) (ls : Array Slot), FX2_list_111 K9 nf i0 x2 x3 fi ar ln = some (r, fi', ar', ln', kc, ks) → cells + kc ≤ KC → slots + ks ≤ KS → lv_has ls 7 [(0, .ref (ad (11 + 5 * i0))), (2, .int x2), (3, .int x3)] → va_P (gD g) vwCl (WC g ad rd ln fi ar) H → (∀ (ln : LN) (fi : FI) (ar : AR), va_D (AC ad rd0 s.heap.size) (WC g ad rd ln fi ar)) → va_S (AC ad rd0 s.heap.size) s.heap H locs → W p l e (headSpec (wx yX2_list cX2_list 7 none) ({ frames := 3, cells := KC, slots := KS, locals := 105 } : Room)).room s m ([.ref (ad (11 + 5 * i0)), .int p1] : List Value).toArray below meth c H locs cells slots (MQ below (QAv g ad (AC ad rd0 s.heap.size) r fi' ar' ln') ([.ref (ad (11 + 5 * i0)), .int p1] : List Value).toArray s KC KS (AC ad rd0 s.heap.size)) (F0 m 111 ls []) := by
        intro x2 x3 fi ar ln kc ks cells slots rd H locs ls hF hkc hks hl hP hD hS
        unfold FX2_list_111 at hF
        obtain ⟨x3_1, ex3_1⟩ : ∃ y : Int32, y = (x3) + (1 : Int32) := ⟨_, rfl⟩
        replace hF := bnd_of hF ex3_1
        refine lv_iinc (v := x3_1) (lv' := [(3, .int (x3_1)), (0, .ref (ad (11 + 5 * i0))), (2, .int (x2))]) hx hb dX2_list_111 hl (k := 2) rfl (by rw [ex3_1]; rfl) (by decide) rfl (fun ls hl => ?_)
        refine lv_goto (tgt := 9) hx hb dX2_list_114 (by decide) ?_
        exact ih9 (x2) (x3_1) _ _ _ _ _ _ _ _ _ _ _ hF hkc hks (lv_sub hl [1, 2, 0] rfl) hP hD hS
      have J109 : ∀ (x3 : Int32) (fi : FI) (ar : AR) (ln : LN) (kc ks cells slots : Nat) (rd : Nat → Nat) (H : Heap) (locs : List Loc) (ls : Array Slot), FX2_list_109 K9 nf i0 x3 fi ar ln = some (r, fi', ar', ln', kc, ks) → cells + kc ≤ KC → slots + ks ≤ KS → lv_has ls 7 [(0, .ref (ad (11 + 5 * i0))), (3, .int x3)] → va_P (gD g) vwCl (WC g ad rd ln fi ar) H → (∀ (ln : LN) (fi : FI) (ar : AR), va_D (AC ad rd0 s.heap.size) (WC g ad rd ln fi ar)) → va_S (AC ad rd0 s.heap.size) s.heap H locs → W p l e (headSpec (wx yX2_list cX2_list 7 none) ({ frames := 3, cells := KC, slots := KS, locals := 105 } : Room)).room s m ([.ref (ad (11 + 5 * i0)), .int p1] : List Value).toArray below meth c H locs cells slots (MQ below (QAv g ad (AC ad rd0 s.heap.size) r fi' ar' ln') ([.ref (ad (11 + 5 * i0)), .int p1] : List Value).toArray s KC KS (AC ad rd0 s.heap.size)) (F0 m 109 ls []) := by
        intro x3 fi ar ln kc ks cells slots rd H locs ls hF hkc hks hl hP hD hS
        unfold FX2_list_109 at hF
        refine lv_iconst (v := (0 : Int32)) hx hb dX2_list_109 (by decide) ?_
        refine lv_istore_n (lv' := [(2, .int (0 : Int32)), (0, .ref (ad (11 + 5 * i0))), (3, .int (x3))]) hx hb dX2_list_110 rfl hl (by decide) rfl (fun ls hl => ?_)
        exact J111 (0 : Int32) (x3) _ _ _ _ _ _ _ _ _ _ _ hF hkc hks (lv_sub hl [1, 0, 2] rfl) hP hD hS
      unfold FX2_list_9b at hF
      refine lv_iload_n hx hb dX2_list_9 rfl (lv_at hl 2 rfl) ?_
      refine lv_aload_n hx hb dX2_list_10 rfl (lv_at hl 0 rfl) ?_
      refine cg_X2_slots hi0 hx hb hT hown hK hP mw23_20 dX2_list_11 ?_
      refine lv_icmp_ge (tgt := 117) hx hb dX2_list_14 (by decide) (fun hc2 => ?_) (fun hc2 => ?_)
      · replace hF := br_yes hF hc2
        refine W.widen (k := KC) (n := KS) (by omega) (by omega) ?_
        exact rA_v hx hb hr hlocks hF hP hD hS dX2_list_117
      · replace hF := br_no hF hc2
        refine lv_aload_n hx hb dX2_list_17 rfl (lv_at hl 0 rfl) ?_
        refine lv_iload_n hx hb dX2_list_18 rfl (lv_at hl 2 rfl) ?_
        replace hF := obnd3_of hF
        obtain ⟨r6, fi4, ar5, h3, hF⟩ := hF
        refine cC_i (As := [.int (x3)]) (rest := []) hx hb hml hT hown hK hE (hD _) hA hP hS (rcv_X2 hi0 hK hP) (kX2_slotAddress l g ad rd _ nf ln i0 hi0 fi ar (x3) r6 fi4 ar5 h3) cw_X2_slotAddress mw38_3 ⟨⟨rfl, rfl⟩, Nat.le_of_ble_eq_true rfl, Nat.le_of_ble_eq_true rfl⟩ rfl hl.1 rfl (Nat.le_of_ble_eq_true rfl) dX2_list_19 ⟨by show _ ≤ KC; omega, by show _ ≤ KS; omega⟩ (fun H locs hP hS => ?_)
        refine lv_istore (lv' := [(4, .int (r6)), (0, .ref (ad (11 + 5 * i0))), (2, .int (x2)), (3, .int (x3))]) hx hb dX2_list_22 hl (by decide) rfl (fun ls hl => ?_)
        refine lv_aload_n hx hb dX2_list_24 rfl (lv_at hl 1 rfl) ?_
        refine cg_X2_disk hi0 hx hb hT hown hK hP mw5_16 dX2_list_25 ?_
        refine lv_iload hx hb dX2_list_28 (lv_at hl 0 rfl) ?_
        replace hF := obnd3_of hF
        obtain ⟨r10, fi8, ar9, h7, hF⟩ := hF
        refine cC_i (As := [.int (r6)]) (rest := []) hx hb hml hT hown hK hE (hD _) hA hP hS (rcv_X3 hK hP) (kX3_one l g ad rd _ nf ln fi4 ar5 (r6) r10 fi8 ar9 h7) cw_X3_one mw38_4 ⟨⟨rfl, rfl⟩, Nat.le_of_ble_eq_true rfl, Nat.le_of_ble_eq_true rfl⟩ rfl hl.1 rfl (Nat.le_of_ble_eq_true rfl) dX2_list_30 ⟨by show _ ≤ KC; omega, by show _ ≤ KS; omega⟩ (fun H locs hP hS => ?_)
        refine lv_istore (lv' := [(5, .int (r10)), (4, .int (r6)), (0, .ref (ad (11 + 5 * i0))), (2, .int (x2)), (3, .int (x3))]) hx hb dX2_list_33 hl (by decide) rfl (fun ls hl => ?_)
        refine lv_aload_n hx hb dX2_list_35 rfl (lv_at hl 2 rfl) ?_
        refine cg_X2_disk hi0 hx hb hT hown hK hP mw5_16 dX2_list_36 ?_
        refine lv_iload hx hb dX2_list_39 (lv_at hl 1 rfl) ?_
        refine lv_bipush (v := (11 : Int32)) hx hb dX2_list_41 (by decide) ?_
        refine lv_iadd hx hb dX2_list_43 ?_
        replace hF := obnd3_of hF
        obtain ⟨r14, fi12, ar13, h11, hF⟩ := hF
        refine cC_i (As := [.int ((r6) + (11 : Int32))]) (rest := []) hx hb hml hT hown hK hE (hD _) hA hP hS (rcv_X3 hK hP) (kX3_one l g ad rd _ nf ln fi8 ar9 ((r6) + (11 : Int32)) r14 fi12 ar13 h11) cw_X3_one mw38_4 ⟨⟨rfl, rfl⟩, Nat.le_of_ble_eq_true rfl, Nat.le_of_ble_eq_true rfl⟩ rfl hl.1 rfl (Nat.le_of_ble_eq_true rfl) dX2_list_44 ⟨by show _ ≤ KC; omega, by show _ ≤ KS; omega⟩ (fun H locs hP hS => ?_)
        refine lv_istore (lv' := [(6, .int (r14)), (5, .int (r10)), (4, .int (r6)), (0, .ref (ad (11 + 5 * i0))), (2, .int (x2)), (3, .int (x3))]) hx hb dX2_list_47 hl (by decide) rfl (fun ls hl => ?_)
        refine lv_iload hx hb dX2_list_49 (lv_at hl 1 rfl) ?_
        refine lv_if_ne (tgt := 60) hx hb dX2_list_51 (by decide) (fun hc15 => ?_) (fun hc15 => ?_)
        · replace hF := br_no hF hc15
          refine lv_iload hx hb dX2_list_60 (lv_at hl 1 rfl) ?_
          refine lv_sipush (v := (229 : Int32)) hx hb dX2_list_62 (by decide) ?_
          refine lv_icmp_ne (tgt := 71) hx hb dX2_list_65 (by decide) (fun hc16 => ?_) (fun hc16 => ?_)
          · replace hF := br_no hF hc16
            refine lv_iload hx hb dX2_list_71 (lv_at hl 0 rfl) ?_
            refine lv_bipush (v := (63 : Int32)) hx hb dX2_list_73 (by decide) ?_
            refine lv_iand hx hb dX2_list_75 ?_
            refine lv_bipush (v := (15 : Int32)) hx hb dX2_list_76 (by decide) ?_
            refine lv_icmp_ne (tgt := 87) hx hb dX2_list_78 (by decide) (fun hc17 => ?_) (fun hc17 => ?_)
            · replace hF := br_no hF hc17
              refine lv_iload hx hb dX2_list_87 (lv_at hl 0 rfl) ?_
              refine lv_bipush (v := (8 : Int32)) hx hb dX2_list_89 (by decide) ?_
              refine lv_iand hx hb dX2_list_91 ?_
              refine lv_if_ne (tgt := 109) hx hb dX2_list_92 (by decide) (fun hc18 => ?_) (fun hc18 => ?_)
              · replace hF := br_no hF hc18
                exact J109 (x3) _ _ _ _ _ _ _ _ _ _ _ hF hkc hks (lv_sub hl [3, 5] rfl) hP hD hS
              · replace hF := br_yes hF hc18
                refine lv_iload hx hb dX2_list_95 (lv_at hl 1 rfl) ?_
                refine lv_bipush (v := (46 : Int32)) hx hb dX2_list_97 (by decide) ?_
                refine lv_icmp_eq (tgt := 109) hx hb dX2_list_99 (by decide) (fun hc19 => ?_) (fun hc19 => ?_)
                · replace hF := br_yes hF hc19
                  exact J109 (x3) _ _ _ _ _ _ _ _ _ _ _ hF hkc hks (lv_sub hl [3, 5] rfl) hP hD hS
                · replace hF := br_no hF hc19
                  refine lv_aload_n hx hb dX2_list_102 rfl (lv_at hl 3 rfl) ?_
                  refine lv_iload_n hx hb dX2_list_103 rfl (lv_at hl 5 rfl) ?_
                  refine lv_iload_n hx hb dX2_list_104 rfl (lv_at hl 4 rfl) ?_
                  refine lv_iconst (v := (0 : Int32)) hx hb dX2_list_105 (by decide) ?_
                  replace hF := obnd6_of hF
                  obtain ⟨r24, fi21, ar22, ln23, kc25, ks26, h20, hF⟩ := hF
                  replace hF := addc_of hF
                  obtain ⟨kc27, ks28, e29c, e29s, hF⟩ := hF
                  refine cA_v (As := [.int (x3), .int (x2), .int (0 : Int32)]) (rest := []) hx hb hml hT hown hK hE hD hA hP hS (rcv_X2 hi0 hK hP) (kX2_add l g ad rd _ nf i0 hi0 fi12 ar13 ln (x3) (x2) (0 : Int32) r24 fi21 ar22 ln23 kc25 ks26 h20) cw_X2_add mw38_5 ⟨⟨rfl, rfl⟩, Nat.le_of_ble_eq_true rfl, Nat.le_of_ble_eq_true rfl⟩ rfl hl.1 rfl (Nat.le_of_ble_eq_true rfl) dX2_list_106 ⟨by show _ ≤ KC; omega, by show _ ≤ KS; omega⟩ (fun rd H locs hP hD hS => ?_)
                  replace hkc : cells + kc25 + kc27 ≤ KC := by omega
                  replace hks : slots + ks26 + ks28 ≤ KS := by omega
                  exact J109 (x3) _ _ _ _ _ _ _ _ _ _ _ hF hkc hks (lv_sub hl [3, 5] rfl) hP hD hS
            · replace hF := br_yes hF hc17
              obtain ⟨x2_30, ex2_30⟩ : ∃ y : Int32, y = (x2) + (1 : Int32) := ⟨_, rfl⟩
              replace hF := bnd_of hF ex2_30
              refine lv_iinc (v := x2_30) (lv' := [(2, .int (x2_30)), (6, .int (r14)), (5, .int (r10)), (4, .int (r6)), (0, .ref (ad (11 + 5 * i0))), (3, .int (x3))]) hx hb dX2_list_81 hl (k := 4) rfl (by rw [ex2_30]; rfl) (by decide) rfl (fun ls hl => ?_)
              refine lv_goto (tgt := 111) hx hb dX2_list_84 (by decide) ?_
              exact J111 (x2_30) (x3) _ _ _ _ _ _ _ _ _ _ _ hF hkc hks (lv_sub hl [4, 0, 5] rfl) hP hD hS
          · replace hF := br_yes hF hc16
            refine lv_goto (tgt := 111) hx hb dX2_list_68 (by decide) ?_
            exact J111 (x2) (x3) _ _ _ _ _ _ _ _ _ _ _ hF hkc hks (lv_sub hl [3, 4, 5] rfl) hP hD hS
        · replace hF := br_yes hF hc15
          refine lv_aload_n hx hb dX2_list_54 rfl (lv_at hl 3 rfl) ?_
          refine lv_iload_n hx hb dX2_list_55 rfl (lv_at hl 5 rfl) ?_
          obtain ⟨fi31, efi31⟩ : ∃ y : FI, y = va_up fi12 (22 + 10 * i0) (x3) := ⟨_, rfl⟩
          replace hF := bnd_of hF efi31
          refine cp_X2_looked hi0 hx hb hT hown hK hP (hD _) hS mw23_21 dX2_list_56 (fun H locs hP hS => ?_)
          rw [← efi31] at hP
          refine W.widen (k := KC) (n := KS) (by omega) (by omega) ?_
          exact rA_v hx hb hr hlocks hF hP hD hS dX2_list_59
  replace hl := lv_sub hl [0, 1] rfl
  obtain ⟨cells, ecells⟩ : ∃ z : Nat, z = 0 := ⟨_, rfl⟩
  obtain ⟨slots, eslots⟩ : ∃ z : Nat, z = 0 := ⟨_, rfl⟩
  obtain ⟨kc, ekc⟩ : ∃ z : Nat, z = KC := ⟨_, rfl⟩
  obtain ⟨ks, eks⟩ : ∃ z : Nat, z = KS := ⟨_, rfl⟩
  have hkc : cells + kc ≤ KC := by omega
  have hks : slots + ks ≤ KS := by omega
  replace hF := kcks_of hF ekc eks
  suffices hgo : W p l e (headSpec (wx yX2_list cX2_list 7 none) ({ frames := 3, cells := KC, slots := KS, locals := 105 } : Room)).room s m ([.ref (ad (11 + 5 * i0)), .int p1] : List Value).toArray below meth c s.heap [] cells slots (MQ below (QAv g ad (AC ad rd0 s.heap.size) r fi' ar' ln') ([.ref (ad (11 + 5 * i0)), .int p1] : List Value).toArray s KC KS (AC ad rd0 s.heap.size)) (F0 m 0 ls []) by rw [ecells, eslots] at hgo; exact hgo
  obtain ⟨rd, erd⟩ : ∃ z : Nat → Nat, z = rd0 := ⟨_, rfl⟩
  have hP : va_P (gD g) vwCl (WC g ad rd ln fi ar) s.heap := by rw [erd]; exact hP
  have hD : ∀ (ln : LN) (fi : FI) (ar : AR), va_D (AC ad rd0 s.heap.size) (WC g ad rd ln fi ar) := by rw [erd]; exact hD
  clear erd
  refine lv_aload_n hx hb dX2_list_0 rfl (lv_at hl 0 rfl) ?_
  refine lv_iload_n hx hb dX2_list_1 rfl (lv_at hl 1 rfl) ?_
  replace hF := obnd3_of hF
  obtain ⟨r35, fi33, ar34, h32, hF⟩ := hF
  refine cC_v (As := [.int (p1)]) (rest := []) hx hb hml hT hown hK hE (hD _) hA hP hS (rcv_X2 hi0 hK hP) (kX2_openChain l g ad rd _ nf ln i0 hi0 fi ar (p1) r35 fi33 ar34 h32) cw_X2_openChain mw38_2 ⟨⟨rfl, rfl⟩, Nat.le_of_ble_eq_true rfl, Nat.le_of_ble_eq_true rfl⟩ rfl hl.1 rfl (Nat.le_of_ble_eq_true rfl) dX2_list_2 ⟨by show _ ≤ KC; omega, by show _ ≤ KS; omega⟩ (fun H locs hP hS => ?_)
  refine lv_iconst (v := (0 : Int32)) hx hb dX2_list_5 (by decide) ?_
  refine lv_istore_n (lv' := [(2, .int (0 : Int32)), (0, .ref (ad (11 + 5 * i0))), (1, .int (p1))]) hx hb dX2_list_6 rfl hl (by decide) rfl (fun ls hl => ?_)
  refine lv_iconst (v := (0 : Int32)) hx hb dX2_list_7 (by decide) ?_
  refine lv_istore_n (lv' := [(3, .int (0 : Int32)), (2, .int (0 : Int32)), (0, .ref (ad (11 + 5 * i0))), (1, .int (p1))]) hx hb dX2_list_8 rfl hl (by decide) rfl (fun ls hl => ?_)
  exact L9 nf (0 : Int32) (0 : Int32) _ _ _ _ _ _ _ _ _ _ _ hF hkc hks (lv_sub hl [2, 1, 0] rfl) hP hD hS
theorem cw_X2_list : (Cond.instanceMethod yX2_list ∈ TB ∧ Cond.selects RX2 yX2_list yX2_list ∈ TB ∧ Cond.code yX2_list cX2_list 7 none ∈ TB ∧ Cond.initialized RX2 ∈ TB) ∧ (yX2_list.cls = RX2 ∧ yX2_list.cls ≠ "java/lang/invoke/MethodHandle" ∧ yX2_list.cls ≠ "java/lang/invoke/VarHandle" ∧ (parseMethodDescriptor yX2_list.desc).map (fun d => d.parameters.length) = some 1) := ⟨⟨mw37_23, mw38_0, mw38_1, mw2_18⟩, by decide +kernel⟩
/-! X0_entryFault -/
noncomputable def FX0_entryFault_199 (nf : Nat) (x1 : Int32) (x2 : Int32) (x3 : Int32) (fi : FI) (ar : AR) (ln : LN) : Option (Int32 × FI × AR × LN × Nat × Nat) :=
  obnd3 (FX6_hash nf ln 2 fi ar) fun r4 fi2 ar3 => obnd3 (FX0_isTwin nf ln fi2 ar3 (x2) (r4)) fun r8 fi6 ar7 => br ((r8) = 0) (obnd6 (FX2_add nf 2 fi6 ar7 ln (x1) (x3) (r4)) fun r14 fi11 ar12 ln13 kc15 ks16 => addc (kc15) (ks16) (some ((0 : Int32), fi11, ar12, ln13, 0, 0))) (some ((5 : Int32), fi6, ar7, ln, 0, 0))
noncomputable def FX0_entryFault_197 (nf : Nat)  (fi : FI) (ar : AR) (ln : LN) : Option (Int32 × FI × AR × LN × Nat × Nat) :=
  some ((4 : Int32), fi, ar, ln, 0, 0)
noncomputable def FX0_entryFault_157 (nf : Nat)  (fi : FI) (ar : AR) (ln : LN) : Option (Int32 × FI × AR × LN × Nat × Nat) :=
  some ((4 : Int32), fi, ar, ln, 0, 0)
noncomputable def FX0_entryFault_148 (nf : Nat) (x1 : Int32) (x2 : Int32) (x3 : Int32) (fi : FI) (ar : AR) (ln : LN) : Option (Int32 × FI × AR × LN × Nat × Nat) :=
  obnd3 (FX0_partsAsTold nf ln fi ar (x1) (x3)) fun r23 fi21 ar22 => br ((r23) = 0) (FX0_entryFault_157 nf  fi21 ar22 ln) (obnd3 (FX6_read nf ln 2 2 fi21 ar22 (x1) (x3)) fun r28 fi26 ar27 => obnd3 (FX6_asTold nf ln 2 fi26 ar27) fun r32 fi30 ar31 => br ((r32) = 0) (FX0_entryFault_197 nf  fi30 ar31 ln) (br ((x3) ≤ 0) (FX0_entryFault_199 nf  (x1) (x2) (x3) fi30 ar31 ln) (obnd3 (FX6_fills nf ln 2 fi30 ar31 (x3)) fun r38 fi36 ar37 => br ((r38) = 0) (FX0_entryFault_197 nf  fi36 ar37 ln) (FX0_entryFault_199 nf  (x1) (x2) (x3) fi36 ar37 ln))))
noncomputable def FX0_entryFault_125 (nf : Nat) (t0 : Int32) (fi : FI) (ar : AR) (ln : LN) : Option (Int32 × FI × AR × LN × Nat × Nat) :=
  some ((t0), fi, ar, ln, 0, 0)
noncomputable def FX0_entryFault_124 (nf : Nat)  (fi : FI) (ar : AR) (ln : LN) : Option (Int32 × FI × AR × LN × Nat × Nat) :=
  FX0_entryFault_125 nf  (4 : Int32) fi ar ln
noncomputable def FX0_entryFault_104 (nf : Nat) (x3 : Int32) (x4 : Int32) (t0 : Int32) (fi : FI) (ar : AR) (ln : LN) : Option (Int32 × FI × AR × LN × Nat × Nat) :=
  br ((x4) = 0) (FX0_entryFault_124 nf  fi ar ln) (br ((x3) = 0) (br ((t0) = 0) (FX0_entryFault_124 nf  fi ar ln) (FX0_entryFault_125 nf  (0 : Int32) fi ar ln)) (FX0_entryFault_124 nf  fi ar ln))
noncomputable def FX0_entryFault_103 (nf : Nat) (x3 : Int32) (x4 : Int32) (fi : FI) (ar : AR) (ln : LN) : Option (Int32 × FI × AR × LN × Nat × Nat) :=
  FX0_entryFault_104 nf  (x3) (x4) (0 : Int32) fi ar ln
noncomputable def FX0_entryFault_59 (nf : Nat)  (fi : FI) (ar : AR) (ln : LN) : Option (Int32 × FI × AR × LN × Nat × Nat) :=
  some ((4 : Int32), fi, ar, ln, 0, 0)
noncomputable def FX0_entryFault_26 (nf : Nat) (x1 : Int32) (x2 : Int32) (x3 : Int32) (x4 : Int32) (x5 : Int32) (t0 : Int32) (fi : FI) (ar : AR) (ln : LN) : Option (Int32 × FI × AR × LN × Nat × Nat) :=
  obnd3 (FX7_load nf ln 1 fi ar (x2)) fun r46 fi44 ar45 => br ((63 : Int32) < (x5)) (FX0_entryFault_59 nf  fi44 ar45 ln) (obnd3 (FX7_asTold nf ln 1 fi44 ar45 (t0)) fun r51 fi49 ar50 => br ((r51) = 0) (FX0_entryFault_59 nf  fi49 ar50 ln) (br ((t0) = 0) (br (((x5) &&& (16 : Int32)) = 0) (FX0_entryFault_148 nf  (x1) (x2) (x3) fi49 ar50 ln) (obnd3 (FX3_four nf ln fi49 ar50 ((x2) + (28 : Int32))) fun r58 fi56 ar57 => br ((r58) = 0) (FX0_entryFault_148 nf  (x1) (x2) (x3) fi56 ar57 ln) (FX0_entryFault_157 nf  fi56 ar57 ln))) (br (((x5) &&& (16 : Int32)) = 0) (obnd3 (FX3_firstCluster nf ln fi49 ar50 (x2)) fun r64 fi62 ar63 => br ((r64) = 0) (obnd3 (FX3_four nf ln fi62 ar63 ((x2) + (28 : Int32))) fun r69 fi67 ar68 => br ((r69) = 0) (FX0_entryFault_104 nf  (x3) (x4) (1 : Int32) fi67 ar68 ln) (FX0_entryFault_103 nf  (x3) (x4) fi67 ar68 ln)) (FX0_entryFault_103 nf  (x3) (x4) fi62 ar63 ln)) (FX0_entryFault_103 nf  (x3) (x4) fi49 ar50 ln))))
noncomputable def FX0_entryFault (nf : Nat) (fi : FI) (ar : AR) (ln : LN) (x1 : Int32) (x2 : Int32) (x3 : Int32) (x4 : Int32) : Option (Int32 × FI × AR × LN × Nat × Nat) :=
  obnd3 (FX3_one nf ln fi ar ((x2) + (11 : Int32))) fun r74 fi72 ar73 => br (((r74) &&& (8 : Int32)) = 0) (FX0_entryFault_26 nf  (x1) (x2) (x3) (x4) (r74) (0 : Int32) fi72 ar73 ln) (FX0_entryFault_26 nf  (x1) (x2) (x3) (x4) (r74) (1 : Int32) fi72 ar73 ln)
set_option maxHeartbeats 8000000 in
set_option maxRecDepth 100000 in
theorem kX0_entryFault (l : Launch) (g : GT) (ad rd0 : Nat → Nat) (sz : Nat) (nf : Nat) (fi : FI) (ar : AR) (ln : LN) (p1 : Int32) (p2 : Int32) (p3 : Int32) (p4 : Int32) (r : Int32) (fi' : FI) (ar' : AR) (ln' : LN) (KC KS : Nat) (hF : FX0_entryFault nf fi ar ln p1 p2 p3 p4 = some (r, fi', ar', ln', KC, KS)) : Met l yX0_entryFault (wx yX0_entryFault cX0_entryFault 8 (some .int)) ({ frames := 6, cells := KC, slots := KS, locals := 134 } : Room) (va_Pc [.ref (ad (7)), .int p1, .int p2, .int p3, .int p4] (PC g ad rd0 ln sz fi ar)) (QAi g ad (AC ad rd0 sz) r fi' ar' ln') KC KS (AC ad rd0 sz) := by
  refine Met.ofW (cc := cX0_entryFault) (maxL := 8) (ret := (some .int)) (by decide) rfl ?_
  intro p e s m args below meth c s₁ B hml hv
  obtain ⟨rfl, hsz, hP, hK, hD0, hE⟩ := hv
  have hx := B.exec
  have hb := B.bytes
  have hr := B.returns
  have hts := atoms_spec (ws := (wx yX0_entryFault cX0_entryFault 8 (some .int))) B.pre
  have hT : ∀ w ∈ TB, w.before _ s = true := fun w h => hts w (List.mem_cons_of_mem _ h)
  have hown : s.vm.findClass RX0 = some m.cls := findClass_of_methodNamed B.named
  have hlocks := B.notSynchronized
  subst hsz
  have hD : ∀ (ln : LN) (fi : FI) (ar : AR), va_D (AC ad rd0 s.heap.size) (WC g ad rd0 ln fi ar) := dCre (dC hD0 s.heap.size fi ar) (fun _ h => h)
  have hA : ∀ q : Nat, s.heap.size ≤ q → AC ad rd0 s.heap.size q := fun q h => Or.inr h
  have hS : va_S (AC ad rd0 s.heap.size) s.heap s.heap [] := va_S.rf
  have hl := lv_entry ([.ref (ad (7)), .int p1, .int p2, .int p3, .int p4]) (n := 8) (Nat.le_of_ble_eq_true rfl)
  rw [lg_entry_eq]
  generalize (lg_sl ([.ref (ad (7)), .int p1, .int p2, .int p3, .int p4]) ++ List.replicate (8 - (lg_sl ([.ref (ad (7)), .int p1, .int p2, .int p3, .int p4])).length) Slot.unset).toArray = ls at hl ⊢
  have hl : lv_has ls 8 [(0, .ref (ad (7))), (1, .int p1), (2, .int p2), (3, .int p3), (4, .int p4)] := hl
  unfold FX0_entryFault at hF
  have J199 : ∀ (x1 : Int32) (x2 : Int32) (x3 : Int32) (fi : FI) (ar : AR) (ln : LN) (kc ks cells slots : Nat) (rd : Nat → Nat) (H : Heap) (locs : List Loc) (ls : Array Slot), FX0_entryFault_199 nf x1 x2 x3 fi ar ln = some (r, fi', ar', ln', kc, ks) → cells + kc ≤ KC → slots + ks ≤ KS → lv_has ls 8 [(0, .ref (ad (7))), (1, .int x1), (2, .int x2), (3, .int x3)] → va_P (gD g) vwCl (WC g ad rd ln fi ar) H → (∀ (ln : LN) (fi : FI) (ar : AR), va_D (AC ad rd0 s.heap.size) (WC g ad rd ln fi ar)) → va_S (AC ad rd0 s.heap.size) s.heap H locs → W p l e (headSpec (wx yX0_entryFault cX0_entryFault 8 (some .int)) ({ frames := 6, cells := KC, slots := KS, locals := 134 } : Room)).room s m ([.ref (ad (7)), .int p1, .int p2, .int p3, .int p4] : List Value).toArray below meth c H locs cells slots (MQ below (QAi g ad (AC ad rd0 s.heap.size) r fi' ar' ln') ([.ref (ad (7)), .int p1, .int p2, .int p3, .int p4] : List Value).toArray s KC KS (AC ad rd0 s.heap.size)) (F0 m 199 ls []) := by
    intro x1 x2 x3 fi ar ln kc ks cells slots rd H locs ls hF hkc hks hl hP hD hS
    unfold FX0_entryFault_199 at hF
    refine lv_aload_n hx hb dX0_entryFault_199 rfl (lv_at hl 0 rfl) ?_
    refine cg_X0_name hx hb hT hown hK hP mw4_8 dX0_entryFault_200 ?_
    replace hF := obnd3_of hF
    obtain ⟨r4, fi2, ar3, h1, hF⟩ := hF
    refine cC_i (As := []) (rest := []) hx hb hml hT hown hK hE (hD _) hA hP hS (rcv_X6 (by decide) hK hP) (kX6_hash l g ad rd _ nf ln 2 (by decide) fi ar r4 fi2 ar3 h1) cw_X6_hash mw27_21 ⟨⟨rfl, rfl⟩, Nat.le_of_ble_eq_true rfl, Nat.le_of_ble_eq_true rfl⟩ rfl hl.1 rfl (Nat.le_of_ble_eq_true rfl) dX0_entryFault_203 ⟨by show _ ≤ KC; omega, by show _ ≤ KS; omega⟩ (fun H locs hP hS => ?_)
    refine lv_istore (lv' := [(7, .int (r4)), (0, .ref (ad (7))), (1, .int (x1)), (2, .int (x2)), (3, .int (x3))]) hx hb dX0_entryFault_206 hl (by decide) rfl (fun ls hl => ?_)
    refine lv_aload_n hx hb dX0_entryFault_208 rfl (lv_at hl 1 rfl) ?_
    refine lv_iload_n hx hb dX0_entryFault_209 rfl (lv_at hl 3 rfl) ?_
    refine lv_iload hx hb dX0_entryFault_210 (lv_at hl 0 rfl) ?_
    replace hF := obnd3_of hF
    obtain ⟨r8, fi6, ar7, h5, hF⟩ := hF
    refine cC_i (As := [.int (x2), .int (r4)]) (rest := []) hx hb hml hT hown hK hE (hD _) hA hP hS (rcv_X0 hK hP) (kX0_isTwin l g ad rd _ nf ln fi2 ar3 (x2) (r4) r8 fi6 ar7 h5) cw_X0_isTwin mw28_4 ⟨⟨rfl, rfl⟩, Nat.le_of_ble_eq_true rfl, Nat.le_of_ble_eq_true rfl⟩ rfl hl.1 rfl (Nat.le_of_ble_eq_true rfl) dX0_entryFault_212 ⟨by show _ ≤ KC; omega, by show _ ≤ KS; omega⟩ (fun H locs hP hS => ?_)
    refine lv_if_eq (tgt := 220) hx hb dX0_entryFault_215 (by decide) (fun hc9 => ?_) (fun hc9 => ?_)
    · replace hF := br_yes hF hc9
      refine lv_aload_n hx hb dX0_entryFault_220 rfl (lv_at hl 1 rfl) ?_
      refine cg_X0_directory hx hb hT hown hK hP mw4_16 dX0_entryFault_221 ?_
      refine lv_iload_n hx hb dX0_entryFault_224 rfl (lv_at hl 2 rfl) ?_
      refine lv_iload_n hx hb dX0_entryFault_225 rfl (lv_at hl 4 rfl) ?_
      refine lv_iload hx hb dX0_entryFault_226 (lv_at hl 0 rfl) ?_
      replace hF := obnd6_of hF
      obtain ⟨r14, fi11, ar12, ln13, kc15, ks16, h10, hF⟩ := hF
      replace hF := addc_of hF
      obtain ⟨kc17, ks18, e19c, e19s, hF⟩ := hF
      refine cA_v (As := [.int (x1), .int (x3), .int (r4)]) (rest := []) hx hb hml hT hown hK hE hD hA hP hS (rcv_X2 (by decide) hK hP) (kX2_add l g ad rd _ nf 2 (by decide) fi6 ar7 ln (x1) (x3) (r4) r14 fi11 ar12 ln13 kc15 ks16 h10) cw_X2_add mw29_11 ⟨⟨rfl, rfl⟩, Nat.le_of_ble_eq_true rfl, Nat.le_of_ble_eq_true rfl⟩ rfl hl.1 rfl (Nat.le_of_ble_eq_true rfl) dX0_entryFault_228 ⟨by show _ ≤ KC; omega, by show _ ≤ KS; omega⟩ (fun rd H locs hP hD hS => ?_)
      replace hkc : cells + kc15 + kc17 ≤ KC := by omega
      replace hks : slots + ks16 + ks18 ≤ KS := by omega
      refine lv_iconst (v := (0 : Int32)) hx hb dX0_entryFault_231 (by decide) ?_
      refine W.widen (k := KC) (n := KS) (by omega) (by omega) ?_
      exact rA_i hx hb hr hlocks hF hP hD hS dX0_entryFault_232
    · replace hF := br_no hF hc9
      refine lv_iconst (v := (5 : Int32)) hx hb dX0_entryFault_218 (by decide) ?_
      refine W.widen (k := KC) (n := KS) (by omega) (by omega) ?_
      exact rA_i hx hb hr hlocks hF hP hD hS dX0_entryFault_219
  have J197 : ∀  (fi : FI) (ar : AR) (ln : LN) (kc ks cells slots : Nat) (rd : Nat → Nat) (H : Heap) (locs : List Loc) (ls : Array Slot), FX0_entryFault_197 nf fi ar ln = some (r, fi', ar', ln', kc, ks) → cells + kc ≤ KC → slots + ks ≤ KS → lv_has ls 8 [(0, .ref (ad (7)))] → va_P (gD g) vwCl (WC g ad rd ln fi ar) H → (∀ (ln : LN) (fi : FI) (ar : AR), va_D (AC ad rd0 s.heap.size) (WC g ad rd ln fi ar)) → va_S (AC ad rd0 s.heap.size) s.heap H locs → W p l e (headSpec (wx yX0_entryFault cX0_entryFault 8 (some .int)) ({ frames := 6, cells := KC, slots := KS, locals := 134 } : Room)).room s m ([.ref (ad (7)), .int p1, .int p2, .int p3, .int p4] : List Value).toArray below meth c H locs cells slots (MQ below (QAi g ad (AC ad rd0 s.heap.size) r fi' ar' ln') ([.ref (ad (7)), .int p1, .int p2, .int p3, .int p4] : List Value).toArray s KC KS (AC ad rd0 s.heap.size)) (F0 m 197 ls []) := by
    intro fi ar ln kc ks cells slots rd H locs ls hF hkc hks hl hP hD hS
    unfold FX0_entryFault_197 at hF
    refine lv_iconst (v := (4 : Int32)) hx hb dX0_entryFault_197 (by decide) ?_
    refine W.widen (k := KC) (n := KS) (by omega) (by omega) ?_
    exact rA_i hx hb hr hlocks hF hP hD hS dX0_entryFault_198
  have J157 : ∀  (fi : FI) (ar : AR) (ln : LN) (kc ks cells slots : Nat) (rd : Nat → Nat) (H : Heap) (locs : List Loc) (ls : Array Slot), FX0_entryFault_157 nf fi ar ln = some (r, fi', ar', ln', kc, ks) → cells + kc ≤ KC → slots + ks ≤ KS → lv_has ls 8 [(0, .ref (ad (7)))] → va_P (gD g) vwCl (WC g ad rd ln fi ar) H → (∀ (ln : LN) (fi : FI) (ar : AR), va_D (AC ad rd0 s.heap.size) (WC g ad rd ln fi ar)) → va_S (AC ad rd0 s.heap.size) s.heap H locs → W p l e (headSpec (wx yX0_entryFault cX0_entryFault 8 (some .int)) ({ frames := 6, cells := KC, slots := KS, locals := 134 } : Room)).room s m ([.ref (ad (7)), .int p1, .int p2, .int p3, .int p4] : List Value).toArray below meth c H locs cells slots (MQ below (QAi g ad (AC ad rd0 s.heap.size) r fi' ar' ln') ([.ref (ad (7)), .int p1, .int p2, .int p3, .int p4] : List Value).toArray s KC KS (AC ad rd0 s.heap.size)) (F0 m 157 ls []) := by
    intro fi ar ln kc ks cells slots rd H locs ls hF hkc hks hl hP hD hS
    unfold FX0_entryFault_157 at hF
    refine lv_iconst (v := (4 : Int32)) hx hb dX0_entryFault_157 (by decide) ?_
    refine W.widen (k := KC) (n := KS) (by omega) (by omega) ?_
    exact rA_i hx hb hr hlocks hF hP hD hS dX0_entryFault_158
  have J148 : ∀ (x1 : Int32) (x2 : Int32) (x3 : Int32) (fi : FI) (ar : AR) (ln : LN) (kc ks cells slots : Nat) (rd : Nat → Nat) (H : Heap) (locs : List Loc) (ls : Array Slot), FX0_entryFault_148 nf x1 x2 x3 fi ar ln = some (r, fi', ar', ln', kc, ks) → cells + kc ≤ KC → slots + ks ≤ KS → lv_has ls 8 [(0, .ref (ad (7))), (1, .int x1), (2, .int x2), (3, .int x3)] → va_P (gD g) vwCl (WC g ad rd ln fi ar) H → (∀ (ln : LN) (fi : FI) (ar : AR), va_D (AC ad rd0 s.heap.size) (WC g ad rd ln fi ar)) → va_S (AC ad rd0 s.heap.size) s.heap H locs → W p l e (headSpec (wx yX0_entryFault cX0_entryFault 8 (some .int)) ({ frames := 6, cells := KC, slots := KS, locals := 134 } : Room)).room s m ([.ref (ad (7)), .int p1, .int p2, .int p3, .int p4] : List Value).toArray below meth c H locs cells slots (MQ below (QAi g ad (AC ad rd0 s.heap.size) r fi' ar' ln') ([.ref (ad (7)), .int p1, .int p2, .int p3, .int p4] : List Value).toArray s KC KS (AC ad rd0 s.heap.size)) (F0 m 148 ls []) := by
    intro x1 x2 x3 fi ar ln kc ks cells slots rd H locs ls hF hkc hks hl hP hD hS
    unfold FX0_entryFault_148 at hF
    refine lv_aload_n hx hb dX0_entryFault_148 rfl (lv_at hl 0 rfl) ?_
    refine lv_iload_n hx hb dX0_entryFault_149 rfl (lv_at hl 1 rfl) ?_
    refine lv_iload_n hx hb dX0_entryFault_150 rfl (lv_at hl 3 rfl) ?_
    replace hF := obnd3_of hF
    obtain ⟨r23, fi21, ar22, h20, hF⟩ := hF
    refine cC_i (As := [.int (x1), .int (x3)]) (rest := []) hx hb hml hT hown hK hE (hD _) hA hP hS (rcv_X0 hK hP) (kX0_partsAsTold l g ad rd _ nf ln fi ar (x1) (x3) r23 fi21 ar22 h20) cw_X0_partsAsTold mw26_7 ⟨⟨rfl, rfl⟩, Nat.le_of_ble_eq_true rfl, Nat.le_of_ble_eq_true rfl⟩ rfl hl.1 rfl (Nat.le_of_ble_eq_true rfl) dX0_entryFault_151 ⟨by show _ ≤ KC; omega, by show _ ≤ KS; omega⟩ (fun H locs hP hS => ?_)
    refine lv_if_ne (tgt := 159) hx hb dX0_entryFault_154 (by decide) (fun hc24 => ?_) (fun hc24 => ?_)
    · replace hF := br_no hF hc24
      refine lv_aload_n hx hb dX0_entryFault_159 rfl (lv_at hl 0 rfl) ?_
      refine cg_X0_name hx hb hT hown hK hP mw4_8 dX0_entryFault_160 ?_
      refine lv_aload_n hx hb dX0_entryFault_163 rfl (lv_at hl 0 rfl) ?_
      refine cg_X0_directory hx hb hT hown hK hP mw4_16 dX0_entryFault_164 ?_
      refine lv_iload_n hx hb dX0_entryFault_167 rfl (lv_at hl 1 rfl) ?_
      refine lv_iload_n hx hb dX0_entryFault_168 rfl (lv_at hl 3 rfl) ?_
      replace hF := obnd3_of hF
      obtain ⟨r28, fi26, ar27, h25, hF⟩ := hF
      refine cC_v (As := [.ref (ad (11 + 5 * 2)), .int (x1), .int (x3)]) (rest := []) hx hb hml hT hown hK hE (hD _) hA hP hS (rcv_X6 (by decide) hK hP) (kX6_read l g ad rd _ nf ln 2 2 (by decide) (by decide) fi21 ar22 (x1) (x3) r28 fi26 ar27 h25) cw_X6_read mw26_15 ⟨⟨rfl, rfl⟩, Nat.le_of_ble_eq_true rfl, Nat.le_of_ble_eq_true rfl⟩ rfl hl.1 rfl (Nat.le_of_ble_eq_true rfl) dX0_entryFault_169 ⟨by show _ ≤ KC; omega, by show _ ≤ KS; omega⟩ (fun H locs hP hS => ?_)
      refine lv_aload_n hx hb dX0_entryFault_172 rfl (lv_at hl 0 rfl) ?_
      refine cg_X0_name hx hb hT hown hK hP mw4_8 dX0_entryFault_173 ?_
      replace hF := obnd3_of hF
      obtain ⟨r32, fi30, ar31, h29, hF⟩ := hF
      refine cC_i (As := []) (rest := []) hx hb hml hT hown hK hE (hD _) hA hP hS (rcv_X6 (by decide) hK hP) (kX6_asTold l g ad rd _ nf ln 2 (by decide) fi26 ar27 r32 fi30 ar31 h29) cw_X6_asTold mw27_2 ⟨⟨rfl, rfl⟩, Nat.le_of_ble_eq_true rfl, Nat.le_of_ble_eq_true rfl⟩ rfl hl.1 rfl (Nat.le_of_ble_eq_true rfl) dX0_entryFault_176 ⟨by show _ ≤ KC; omega, by show _ ≤ KS; omega⟩ (fun H locs hP hS => ?_)
      refine lv_if_eq (tgt := 197) hx hb dX0_entryFault_179 (by decide) (fun hc33 => ?_) (fun hc33 => ?_)
      · replace hF := br_yes hF hc33
        exact J197  _ _ _ _ _ _ _ _ _ _ _ hF hkc hks (lv_sub hl [0] rfl) hP hD hS
      · replace hF := br_no hF hc33
        refine lv_iload_n hx hb dX0_entryFault_182 rfl (lv_at hl 3 rfl) ?_
        refine lv_if_le (tgt := 199) hx hb dX0_entryFault_183 (by decide) (fun hc34 => ?_) (fun hc34 => ?_)
        · replace hF := br_yes hF hc34
          exact J199 (x1) (x2) (x3) _ _ _ _ _ _ _ _ _ _ _ hF hkc hks (lv_sub hl [0, 1, 2, 3] rfl) hP hD hS
        · replace hF := br_no hF hc34
          refine lv_aload_n hx hb dX0_entryFault_186 rfl (lv_at hl 0 rfl) ?_
          refine cg_X0_name hx hb hT hown hK hP mw4_8 dX0_entryFault_187 ?_
          refine lv_iload_n hx hb dX0_entryFault_190 rfl (lv_at hl 3 rfl) ?_
          replace hF := obnd3_of hF
          obtain ⟨r38, fi36, ar37, h35, hF⟩ := hF
          refine cC_i (As := [.int (x3)]) (rest := []) hx hb hml hT hown hK hE (hD _) hA hP hS (rcv_X6 (by decide) hK hP) (kX6_fills l g ad rd _ nf ln 2 (by decide) fi30 ar31 (x3) r38 fi36 ar37 h35) cw_X6_fills mw27_12 ⟨⟨rfl, rfl⟩, Nat.le_of_ble_eq_true rfl, Nat.le_of_ble_eq_true rfl⟩ rfl hl.1 rfl (Nat.le_of_ble_eq_true rfl) dX0_entryFault_191 ⟨by show _ ≤ KC; omega, by show _ ≤ KS; omega⟩ (fun H locs hP hS => ?_)
          refine lv_if_ne (tgt := 199) hx hb dX0_entryFault_194 (by decide) (fun hc39 => ?_) (fun hc39 => ?_)
          · replace hF := br_no hF hc39
            exact J199 (x1) (x2) (x3) _ _ _ _ _ _ _ _ _ _ _ hF hkc hks (lv_sub hl [0, 1, 2, 3] rfl) hP hD hS
          · replace hF := br_yes hF hc39
            exact J197  _ _ _ _ _ _ _ _ _ _ _ hF hkc hks (lv_sub hl [0] rfl) hP hD hS
    · replace hF := br_yes hF hc24
      exact J157  _ _ _ _ _ _ _ _ _ _ _ hF hkc hks (lv_sub hl [0] rfl) hP hD hS
  have J125 : ∀ (t0 : Int32) (fi : FI) (ar : AR) (ln : LN) (kc ks cells slots : Nat) (rd : Nat → Nat) (H : Heap) (locs : List Loc) (ls : Array Slot), FX0_entryFault_125 nf t0 fi ar ln = some (r, fi', ar', ln', kc, ks) → cells + kc ≤ KC → slots + ks ≤ KS → lv_has ls 8 [(0, .ref (ad (7)))] → va_P (gD g) vwCl (WC g ad rd ln fi ar) H → (∀ (ln : LN) (fi : FI) (ar : AR), va_D (AC ad rd0 s.heap.size) (WC g ad rd ln fi ar)) → va_S (AC ad rd0 s.heap.size) s.heap H locs → W p l e (headSpec (wx yX0_entryFault cX0_entryFault 8 (some .int)) ({ frames := 6, cells := KC, slots := KS, locals := 134 } : Room)).room s m ([.ref (ad (7)), .int p1, .int p2, .int p3, .int p4] : List Value).toArray below meth c H locs cells slots (MQ below (QAi g ad (AC ad rd0 s.heap.size) r fi' ar' ln') ([.ref (ad (7)), .int p1, .int p2, .int p3, .int p4] : List Value).toArray s KC KS (AC ad rd0 s.heap.size)) (F0 m 125 ls [.int t0]) := by
    intro t0 fi ar ln kc ks cells slots rd H locs ls hF hkc hks hl hP hD hS
    unfold FX0_entryFault_125 at hF
    refine W.widen (k := KC) (n := KS) (by omega) (by omega) ?_
    exact rA_i hx hb hr hlocks hF hP hD hS dX0_entryFault_125
  have J124 : ∀  (fi : FI) (ar : AR) (ln : LN) (kc ks cells slots : Nat) (rd : Nat → Nat) (H : Heap) (locs : List Loc) (ls : Array Slot), FX0_entryFault_124 nf fi ar ln = some (r, fi', ar', ln', kc, ks) → cells + kc ≤ KC → slots + ks ≤ KS → lv_has ls 8 [(0, .ref (ad (7)))] → va_P (gD g) vwCl (WC g ad rd ln fi ar) H → (∀ (ln : LN) (fi : FI) (ar : AR), va_D (AC ad rd0 s.heap.size) (WC g ad rd ln fi ar)) → va_S (AC ad rd0 s.heap.size) s.heap H locs → W p l e (headSpec (wx yX0_entryFault cX0_entryFault 8 (some .int)) ({ frames := 6, cells := KC, slots := KS, locals := 134 } : Room)).room s m ([.ref (ad (7)), .int p1, .int p2, .int p3, .int p4] : List Value).toArray below meth c H locs cells slots (MQ below (QAi g ad (AC ad rd0 s.heap.size) r fi' ar' ln') ([.ref (ad (7)), .int p1, .int p2, .int p3, .int p4] : List Value).toArray s KC KS (AC ad rd0 s.heap.size)) (F0 m 124 ls []) := by
    intro fi ar ln kc ks cells slots rd H locs ls hF hkc hks hl hP hD hS
    unfold FX0_entryFault_124 at hF
    refine lv_iconst (v := (4 : Int32)) hx hb dX0_entryFault_124 (by decide) ?_
    exact J125 (4 : Int32) _ _ _ _ _ _ _ _ _ _ _ hF hkc hks (lv_sub hl [0] rfl) hP hD hS
  have J104 : ∀ (x3 : Int32) (x4 : Int32) (t0 : Int32) (fi : FI) (ar : AR) (ln : LN) (kc ks cells slots : Nat) (rd : Nat → Nat) (H : Heap) (locs : List Loc) (ls : Array Slot), FX0_entryFault_104 nf x3 x4 t0 fi ar ln = some (r, fi', ar', ln', kc, ks) → cells + kc ≤ KC → slots + ks ≤ KS → lv_has ls 8 [(0, .ref (ad (7))), (3, .int x3), (4, .int x4)] → va_P (gD g) vwCl (WC g ad rd ln fi ar) H → (∀ (ln : LN) (fi : FI) (ar : AR), va_D (AC ad rd0 s.heap.size) (WC g ad rd ln fi ar)) → va_S (AC ad rd0 s.heap.size) s.heap H locs → W p l e (headSpec (wx yX0_entryFault cX0_entryFault 8 (some .int)) ({ frames := 6, cells := KC, slots := KS, locals := 134 } : Room)).room s m ([.ref (ad (7)), .int p1, .int p2, .int p3, .int p4] : List Value).toArray below meth c H locs cells slots (MQ below (QAi g ad (AC ad rd0 s.heap.size) r fi' ar' ln') ([.ref (ad (7)), .int p1, .int p2, .int p3, .int p4] : List Value).toArray s KC KS (AC ad rd0 s.heap.size)) (F0 m 104 ls [.int t0]) := by
    intro x3 x4 t0 fi ar ln kc ks cells slots rd H locs ls hF hkc hks hl hP hD hS
    unfold FX0_entryFault_104 at hF
    refine lv_istore (lv' := [(7, .int (t0)), (0, .ref (ad (7))), (3, .int (x3)), (4, .int (x4))]) hx hb dX0_entryFault_104 hl (by decide) rfl (fun ls hl => ?_)
    refine lv_iload hx hb dX0_entryFault_106 (lv_at hl 3 rfl) ?_
    refine lv_if_eq (tgt := 124) hx hb dX0_entryFault_108 (by decide) (fun hc40 => ?_) (fun hc40 => ?_)
    · replace hF := br_yes hF hc40
      exact J124  _ _ _ _ _ _ _ _ _ _ _ hF hkc hks (lv_sub hl [1] rfl) hP hD hS
    · replace hF := br_no hF hc40
      refine lv_iload_n hx hb dX0_entryFault_111 rfl (lv_at hl 2 rfl) ?_
      refine lv_if_ne (tgt := 124) hx hb dX0_entryFault_112 (by decide) (fun hc41 => ?_) (fun hc41 => ?_)
      · replace hF := br_no hF hc41
        exact J124  _ _ _ _ _ _ _ _ _ _ _ hF hkc hks (lv_sub hl [1] rfl) hP hD hS
      · replace hF := br_yes hF hc41
        refine lv_iload hx hb dX0_entryFault_115 (lv_at hl 0 rfl) ?_
        refine lv_if_eq (tgt := 124) hx hb dX0_entryFault_117 (by decide) (fun hc42 => ?_) (fun hc42 => ?_)
        · replace hF := br_yes hF hc42
          exact J124  _ _ _ _ _ _ _ _ _ _ _ hF hkc hks (lv_sub hl [1] rfl) hP hD hS
        · replace hF := br_no hF hc42
          refine lv_iconst (v := (0 : Int32)) hx hb dX0_entryFault_120 (by decide) ?_
          refine lv_goto (tgt := 125) hx hb dX0_entryFault_121 (by decide) ?_
          exact J125 (0 : Int32) _ _ _ _ _ _ _ _ _ _ _ hF hkc hks (lv_sub hl [1] rfl) hP hD hS
  have J103 : ∀ (x3 : Int32) (x4 : Int32) (fi : FI) (ar : AR) (ln : LN) (kc ks cells slots : Nat) (rd : Nat → Nat) (H : Heap) (locs : List Loc) (ls : Array Slot), FX0_entryFault_103 nf x3 x4 fi ar ln = some (r, fi', ar', ln', kc, ks) → cells + kc ≤ KC → slots + ks ≤ KS → lv_has ls 8 [(0, .ref (ad (7))), (3, .int x3), (4, .int x4)] → va_P (gD g) vwCl (WC g ad rd ln fi ar) H → (∀ (ln : LN) (fi : FI) (ar : AR), va_D (AC ad rd0 s.heap.size) (WC g ad rd ln fi ar)) → va_S (AC ad rd0 s.heap.size) s.heap H locs → W p l e (headSpec (wx yX0_entryFault cX0_entryFault 8 (some .int)) ({ frames := 6, cells := KC, slots := KS, locals := 134 } : Room)).room s m ([.ref (ad (7)), .int p1, .int p2, .int p3, .int p4] : List Value).toArray below meth c H locs cells slots (MQ below (QAi g ad (AC ad rd0 s.heap.size) r fi' ar' ln') ([.ref (ad (7)), .int p1, .int p2, .int p3, .int p4] : List Value).toArray s KC KS (AC ad rd0 s.heap.size)) (F0 m 103 ls []) := by
    intro x3 x4 fi ar ln kc ks cells slots rd H locs ls hF hkc hks hl hP hD hS
    unfold FX0_entryFault_103 at hF
    refine lv_iconst (v := (0 : Int32)) hx hb dX0_entryFault_103 (by decide) ?_
    exact J104 (x3) (x4) (0 : Int32) _ _ _ _ _ _ _ _ _ _ _ hF hkc hks (lv_sub hl [0, 1, 2] rfl) hP hD hS
  have J59 : ∀  (fi : FI) (ar : AR) (ln : LN) (kc ks cells slots : Nat) (rd : Nat → Nat) (H : Heap) (locs : List Loc) (ls : Array Slot), FX0_entryFault_59 nf fi ar ln = some (r, fi', ar', ln', kc, ks) → cells + kc ≤ KC → slots + ks ≤ KS → lv_has ls 8 [(0, .ref (ad (7)))] → va_P (gD g) vwCl (WC g ad rd ln fi ar) H → (∀ (ln : LN) (fi : FI) (ar : AR), va_D (AC ad rd0 s.heap.size) (WC g ad rd ln fi ar)) → va_S (AC ad rd0 s.heap.size) s.heap H locs → W p l e (headSpec (wx yX0_entryFault cX0_entryFault 8 (some .int)) ({ frames := 6, cells := KC, slots := KS, locals := 134 } : Room)).room s m ([.ref (ad (7)), .int p1, .int p2, .int p3, .int p4] : List Value).toArray below meth c H locs cells slots (MQ below (QAi g ad (AC ad rd0 s.heap.size) r fi' ar' ln') ([.ref (ad (7)), .int p1, .int p2, .int p3, .int p4] : List Value).toArray s KC KS (AC ad rd0 s.heap.size)) (F0 m 59 ls []) := by
    intro fi ar ln kc ks cells slots rd H locs ls hF hkc hks hl hP hD hS
    unfold FX0_entryFault_59 at hF
    refine lv_iconst (v := (4 : Int32)) hx hb dX0_entryFault_59 (by decide) ?_
    refine W.widen (k := KC) (n := KS) (by omega) (by omega) ?_
    exact rA_i hx hb hr hlocks hF hP hD hS dX0_entryFault_60
  have J26 : ∀ (x1 : Int32) (x2 : Int32) (x3 : Int32) (x4 : Int32) (x5 : Int32) (t0 : Int32) (fi : FI) (ar : AR) (ln : LN) (kc ks cells slots : Nat) (rd : Nat → Nat) (H : Heap) (locs : List Loc) (ls : Array Slot), FX0_entryFault_26 nf x1 x2 x3 x4 x5 t0 fi ar ln = some (r, fi', ar', ln', kc, ks) → cells + kc ≤ KC → slots + ks ≤ KS → lv_has ls 8 [(0, .ref (ad (7))), (1, .int x1), (2, .int x2), (3, .int x3), (4, .int x4), (5, .int x5)] → va_P (gD g) vwCl (WC g ad rd ln fi ar) H → (∀ (ln : LN) (fi : FI) (ar : AR), va_D (AC ad rd0 s.heap.size) (WC g ad rd ln fi ar)) → va_S (AC ad rd0 s.heap.size) s.heap H locs → W p l e (headSpec (wx yX0_entryFault cX0_entryFault 8 (some .int)) ({ frames := 6, cells := KC, slots := KS, locals := 134 } : Room)).room s m ([.ref (ad (7)), .int p1, .int p2, .int p3, .int p4] : List Value).toArray below meth c H locs cells slots (MQ below (QAi g ad (AC ad rd0 s.heap.size) r fi' ar' ln') ([.ref (ad (7)), .int p1, .int p2, .int p3, .int p4] : List Value).toArray s KC KS (AC ad rd0 s.heap.size)) (F0 m 26 ls [.int t0]) := by
    intro x1 x2 x3 x4 x5 t0 fi ar ln kc ks cells slots rd H locs ls hF hkc hks hl hP hD hS
    unfold FX0_entryFault_26 at hF
    refine lv_istore (lv' := [(6, .int (t0)), (0, .ref (ad (7))), (1, .int (x1)), (2, .int (x2)), (3, .int (x3)), (4, .int (x4)), (5, .int (x5))]) hx hb dX0_entryFault_26 hl (by decide) rfl (fun ls hl => ?_)
    refine lv_aload_n hx hb dX0_entryFault_28 rfl (lv_at hl 1 rfl) ?_
    refine cg_X0_shortName hx hb hT hown hK hP mw4_11 dX0_entryFault_29 ?_
    refine lv_aload_n hx hb dX0_entryFault_32 rfl (lv_at hl 1 rfl) ?_
    refine cg_X0_disk hx hb hT hown hK hP mw4_14 dX0_entryFault_33 ?_
    refine lv_iload_n hx hb dX0_entryFault_36 rfl (lv_at hl 3 rfl) ?_
    replace hF := obnd3_of hF
    obtain ⟨r46, fi44, ar45, h43, hF⟩ := hF
    refine cC_v (As := [.ref (ad (1)), .int (x2)]) (rest := []) hx hb hml hT hown hK hE (hD _) hA hP hS (rcv_X7 (by decide) hK hP) (kX7_load l g ad rd _ nf ln 1 (by decide) fi ar (x2) r46 fi44 ar45 h43) cw_X7_load mw25_21 ⟨⟨rfl, rfl⟩, Nat.le_of_ble_eq_true rfl, Nat.le_of_ble_eq_true rfl⟩ rfl hl.1 rfl (Nat.le_of_ble_eq_true rfl) dX0_entryFault_37 ⟨by show _ ≤ KC; omega, by show _ ≤ KS; omega⟩ (fun H locs hP hS => ?_)
    refine lv_iload hx hb dX0_entryFault_40 (lv_at hl 6 rfl) ?_
    refine lv_bipush (v := (63 : Int32)) hx hb dX0_entryFault_42 (by decide) ?_
    refine lv_icmp_gt (tgt := 59) hx hb dX0_entryFault_44 (by decide) (fun hc47 => ?_) (fun hc47 => ?_)
    · replace hF := br_yes hF hc47
      exact J59  _ _ _ _ _ _ _ _ _ _ _ hF hkc hks (lv_sub hl [1] rfl) hP hD hS
    · replace hF := br_no hF hc47
      refine lv_aload_n hx hb dX0_entryFault_47 rfl (lv_at hl 1 rfl) ?_
      refine cg_X0_shortName hx hb hT hown hK hP mw4_11 dX0_entryFault_48 ?_
      refine lv_iload hx hb dX0_entryFault_51 (lv_at hl 0 rfl) ?_
      replace hF := obnd3_of hF
      obtain ⟨r51, fi49, ar50, h48, hF⟩ := hF
      refine cC_i (As := [.int (t0)]) (rest := []) hx hb hml hT hown hK hE (hD _) hA hP hS (rcv_X7 (by decide) hK hP) (kX7_asTold l g ad rd _ nf ln 1 (by decide) fi44 ar45 (t0) r51 fi49 ar50 h48) cw_X7_asTold mw26_2 ⟨⟨rfl, rfl⟩, Nat.le_of_ble_eq_true rfl, Nat.le_of_ble_eq_true rfl⟩ rfl hl.1 rfl (Nat.le_of_ble_eq_true rfl) dX0_entryFault_53 ⟨by show _ ≤ KC; omega, by show _ ≤ KS; omega⟩ (fun H locs hP hS => ?_)
      refine lv_if_ne (tgt := 61) hx hb dX0_entryFault_56 (by decide) (fun hc52 => ?_) (fun hc52 => ?_)
      · replace hF := br_no hF hc52
        refine lv_iload hx hb dX0_entryFault_61 (lv_at hl 0 rfl) ?_
        refine lv_if_eq (tgt := 126) hx hb dX0_entryFault_63 (by decide) (fun hc53 => ?_) (fun hc53 => ?_)
        · replace hF := br_yes hF hc53
          refine lv_iload hx hb dX0_entryFault_126 (lv_at hl 6 rfl) ?_
          refine lv_bipush (v := (16 : Int32)) hx hb dX0_entryFault_128 (by decide) ?_
          refine lv_iand hx hb dX0_entryFault_130 ?_
          refine lv_if_eq (tgt := 148) hx hb dX0_entryFault_131 (by decide) (fun hc54 => ?_) (fun hc54 => ?_)
          · replace hF := br_yes hF hc54
            exact J148 (x1) (x2) (x3) _ _ _ _ _ _ _ _ _ _ _ hF hkc hks (lv_sub hl [1, 2, 3, 4] rfl) hP hD hS
          · replace hF := br_no hF hc54
            refine lv_aload_n hx hb dX0_entryFault_134 rfl (lv_at hl 1 rfl) ?_
            refine cg_X0_disk hx hb hT hown hK hP mw4_14 dX0_entryFault_135 ?_
            refine lv_iload_n hx hb dX0_entryFault_138 rfl (lv_at hl 3 rfl) ?_
            refine lv_bipush (v := (28 : Int32)) hx hb dX0_entryFault_139 (by decide) ?_
            refine lv_iadd hx hb dX0_entryFault_141 ?_
            replace hF := obnd3_of hF
            obtain ⟨r58, fi56, ar57, h55, hF⟩ := hF
            refine cC_i (As := [.int ((x2) + (28 : Int32))]) (rest := []) hx hb hml hT hown hK hE (hD _) hA hP hS (rcv_X3 hK hP) (kX3_four l g ad rd _ nf ln fi49 ar50 ((x2) + (28 : Int32)) r58 fi56 ar57 h55) cw_X3_four mw26_6 ⟨⟨rfl, rfl⟩, Nat.le_of_ble_eq_true rfl, Nat.le_of_ble_eq_true rfl⟩ rfl hl.1 rfl (Nat.le_of_ble_eq_true rfl) dX0_entryFault_142 ⟨by show _ ≤ KC; omega, by show _ ≤ KS; omega⟩ (fun H locs hP hS => ?_)
            refine lv_if_ne (tgt := 157) hx hb dX0_entryFault_145 (by decide) (fun hc59 => ?_) (fun hc59 => ?_)
            · replace hF := br_no hF hc59
              exact J157  _ _ _ _ _ _ _ _ _ _ _ hF hkc hks (lv_sub hl [1] rfl) hP hD hS
            · replace hF := br_yes hF hc59
              exact J148 (x1) (x2) (x3) _ _ _ _ _ _ _ _ _ _ _ hF hkc hks (lv_sub hl [1, 2, 3, 4] rfl) hP hD hS
        · replace hF := br_no hF hc53
          refine lv_iload hx hb dX0_entryFault_66 (lv_at hl 6 rfl) ?_
          refine lv_bipush (v := (16 : Int32)) hx hb dX0_entryFault_68 (by decide) ?_
          refine lv_iand hx hb dX0_entryFault_70 ?_
          refine lv_if_ne (tgt := 103) hx hb dX0_entryFault_71 (by decide) (fun hc60 => ?_) (fun hc60 => ?_)
          · replace hF := br_no hF hc60
            exact J103 (x3) (x4) _ _ _ _ _ _ _ _ _ _ _ hF hkc hks (lv_sub hl [1, 4, 5] rfl) hP hD hS
          · replace hF := br_yes hF hc60
            refine lv_aload_n hx hb dX0_entryFault_74 rfl (lv_at hl 1 rfl) ?_
            refine cg_X0_disk hx hb hT hown hK hP mw4_14 dX0_entryFault_75 ?_
            refine lv_iload_n hx hb dX0_entryFault_78 rfl (lv_at hl 3 rfl) ?_
            replace hF := obnd3_of hF
            obtain ⟨r64, fi62, ar63, h61, hF⟩ := hF
            refine cC_i (As := [.int (x2)]) (rest := []) hx hb hml hT hown hK hE (hD _) hA hP hS (rcv_X3 hK hP) (kX3_firstCluster l g ad rd _ nf ln fi49 ar50 (x2) r64 fi62 ar63 h61) cw_X3_firstCluster mw24_14 ⟨⟨rfl, rfl⟩, Nat.le_of_ble_eq_true rfl, Nat.le_of_ble_eq_true rfl⟩ rfl hl.1 rfl (Nat.le_of_ble_eq_true rfl) dX0_entryFault_79 ⟨by show _ ≤ KC; omega, by show _ ≤ KS; omega⟩ (fun H locs hP hS => ?_)
            refine lv_if_ne (tgt := 103) hx hb dX0_entryFault_82 (by decide) (fun hc65 => ?_) (fun hc65 => ?_)
            · replace hF := br_no hF hc65
              exact J103 (x3) (x4) _ _ _ _ _ _ _ _ _ _ _ hF hkc hks (lv_sub hl [1, 4, 5] rfl) hP hD hS
            · replace hF := br_yes hF hc65
              refine lv_aload_n hx hb dX0_entryFault_85 rfl (lv_at hl 1 rfl) ?_
              refine cg_X0_disk hx hb hT hown hK hP mw4_14 dX0_entryFault_86 ?_
              refine lv_iload_n hx hb dX0_entryFault_89 rfl (lv_at hl 3 rfl) ?_
              refine lv_bipush (v := (28 : Int32)) hx hb dX0_entryFault_90 (by decide) ?_
              refine lv_iadd hx hb dX0_entryFault_92 ?_
              replace hF := obnd3_of hF
              obtain ⟨r69, fi67, ar68, h66, hF⟩ := hF
              refine cC_i (As := [.int ((x2) + (28 : Int32))]) (rest := []) hx hb hml hT hown hK hE (hD _) hA hP hS (rcv_X3 hK hP) (kX3_four l g ad rd _ nf ln fi62 ar63 ((x2) + (28 : Int32)) r69 fi67 ar68 h66) cw_X3_four mw26_6 ⟨⟨rfl, rfl⟩, Nat.le_of_ble_eq_true rfl, Nat.le_of_ble_eq_true rfl⟩ rfl hl.1 rfl (Nat.le_of_ble_eq_true rfl) dX0_entryFault_93 ⟨by show _ ≤ KC; omega, by show _ ≤ KS; omega⟩ (fun H locs hP hS => ?_)
              refine lv_if_ne (tgt := 103) hx hb dX0_entryFault_96 (by decide) (fun hc70 => ?_) (fun hc70 => ?_)
              · replace hF := br_no hF hc70
                exact J103 (x3) (x4) _ _ _ _ _ _ _ _ _ _ _ hF hkc hks (lv_sub hl [1, 4, 5] rfl) hP hD hS
              · replace hF := br_yes hF hc70
                refine lv_iconst (v := (1 : Int32)) hx hb dX0_entryFault_99 (by decide) ?_
                refine lv_goto (tgt := 104) hx hb dX0_entryFault_100 (by decide) ?_
                exact J104 (x3) (x4) (1 : Int32) _ _ _ _ _ _ _ _ _ _ _ hF hkc hks (lv_sub hl [1, 4, 5] rfl) hP hD hS
      · replace hF := br_yes hF hc52
        exact J59  _ _ _ _ _ _ _ _ _ _ _ hF hkc hks (lv_sub hl [1] rfl) hP hD hS
  replace hl := lv_sub hl [0, 1, 2, 3, 4] rfl
  obtain ⟨cells, ecells⟩ : ∃ z : Nat, z = 0 := ⟨_, rfl⟩
  obtain ⟨slots, eslots⟩ : ∃ z : Nat, z = 0 := ⟨_, rfl⟩
  obtain ⟨kc, ekc⟩ : ∃ z : Nat, z = KC := ⟨_, rfl⟩
  obtain ⟨ks, eks⟩ : ∃ z : Nat, z = KS := ⟨_, rfl⟩
  have hkc : cells + kc ≤ KC := by omega
  have hks : slots + ks ≤ KS := by omega
  replace hF := kcks_of hF ekc eks
  suffices hgo : W p l e (headSpec (wx yX0_entryFault cX0_entryFault 8 (some .int)) ({ frames := 6, cells := KC, slots := KS, locals := 134 } : Room)).room s m ([.ref (ad (7)), .int p1, .int p2, .int p3, .int p4] : List Value).toArray below meth c s.heap [] cells slots (MQ below (QAi g ad (AC ad rd0 s.heap.size) r fi' ar' ln') ([.ref (ad (7)), .int p1, .int p2, .int p3, .int p4] : List Value).toArray s KC KS (AC ad rd0 s.heap.size)) (F0 m 0 ls []) by rw [ecells, eslots] at hgo; exact hgo
  obtain ⟨rd, erd⟩ : ∃ z : Nat → Nat, z = rd0 := ⟨_, rfl⟩
  have hP : va_P (gD g) vwCl (WC g ad rd ln fi ar) s.heap := by rw [erd]; exact hP
  have hD : ∀ (ln : LN) (fi : FI) (ar : AR), va_D (AC ad rd0 s.heap.size) (WC g ad rd ln fi ar) := by rw [erd]; exact hD
  clear erd
  refine lv_aload_n hx hb dX0_entryFault_0 rfl (lv_at hl 0 rfl) ?_
  refine cg_X0_disk hx hb hT hown hK hP mw4_14 dX0_entryFault_1 ?_
  refine lv_iload_n hx hb dX0_entryFault_4 rfl (lv_at hl 2 rfl) ?_
  refine lv_bipush (v := (11 : Int32)) hx hb dX0_entryFault_5 (by decide) ?_
  refine lv_iadd hx hb dX0_entryFault_7 ?_
  replace hF := obnd3_of hF
  obtain ⟨r74, fi72, ar73, h71, hF⟩ := hF
  refine cC_i (As := [.int ((p2) + (11 : Int32))]) (rest := []) hx hb hml hT hown hK hE (hD _) hA hP hS (rcv_X3 hK hP) (kX3_one l g ad rd _ nf ln fi ar ((p2) + (11 : Int32)) r74 fi72 ar73 h71) cw_X3_one mw24_13 ⟨⟨rfl, rfl⟩, Nat.le_of_ble_eq_true rfl, Nat.le_of_ble_eq_true rfl⟩ rfl hl.1 rfl (Nat.le_of_ble_eq_true rfl) dX0_entryFault_8 ⟨by show _ ≤ KC; omega, by show _ ≤ KS; omega⟩ (fun H locs hP hS => ?_)
  refine lv_istore (lv' := [(5, .int (r74)), (0, .ref (ad (7))), (1, .int (p1)), (2, .int (p2)), (3, .int (p3)), (4, .int (p4))]) hx hb dX0_entryFault_11 hl (by decide) rfl (fun ls hl => ?_)
  refine lv_iload hx hb dX0_entryFault_13 (lv_at hl 0 rfl) ?_
  refine lv_bipush (v := (8 : Int32)) hx hb dX0_entryFault_15 (by decide) ?_
  refine lv_iand hx hb dX0_entryFault_17 ?_
  refine lv_if_eq (tgt := 25) hx hb dX0_entryFault_18 (by decide) (fun hc75 => ?_) (fun hc75 => ?_)
  · replace hF := br_yes hF hc75
    refine lv_iconst (v := (0 : Int32)) hx hb dX0_entryFault_25 (by decide) ?_
    exact J26 (p1) (p2) (p3) (p4) (r74) (0 : Int32) _ _ _ _ _ _ _ _ _ _ _ hF hkc hks (lv_sub hl [1, 2, 3, 4, 5, 0] rfl) hP hD hS
  · replace hF := br_no hF hc75
    refine lv_iconst (v := (1 : Int32)) hx hb dX0_entryFault_21 (by decide) ?_
    refine lv_goto (tgt := 26) hx hb dX0_entryFault_22 (by decide) ?_
    exact J26 (p1) (p2) (p3) (p4) (r74) (1 : Int32) _ _ _ _ _ _ _ _ _ _ _ hF hkc hks (lv_sub hl [1, 2, 3, 4, 5, 0] rfl) hP hD hS
theorem cw_X0_entryFault : (Cond.instanceMethod yX0_entryFault ∈ TB ∧ Cond.selects RX0 yX0_entryFault yX0_entryFault ∈ TB ∧ Cond.code yX0_entryFault cX0_entryFault 8 (some .int) ∈ TB ∧ Cond.initialized RX0 ∈ TB) ∧ (yX0_entryFault.cls = RX0 ∧ yX0_entryFault.cls ≠ "java/lang/invoke/MethodHandle" ∧ yX0_entryFault.cls ≠ "java/lang/invoke/VarHandle" ∧ (parseMethodDescriptor yX0_entryFault.desc).map (fun d => d.parameters.length) = some 4) := ⟨⟨mw25_18, mw25_19, mw25_20, mw2_14⟩, by decide +kernel⟩
/-! X0_directoryFault -/
noncomputable def FX0_directoryFault_285 (nf : Nat) (t0 : Int32) (fi : FI) (ar : AR) (ln : LN) : Option (Int32 × FI × AR × LN × Nat × Nat) :=
  some ((t0), fi, ar, ln, 0, 0)
noncomputable def FX0_directoryFault_275 (nf : Nat) (x4 : Int32) (fi : FI) (ar : AR) (ln : LN) : Option (Int32 × FI × AR × LN × Nat × Nat) :=
  br ((x4) ≤ 0) (FX0_directoryFault_285 nf  (0 : Int32) fi ar ln) (FX0_directoryFault_285 nf  (4 : Int32) fi ar ln)
noncomputable def FX0_directoryFault_269 (K60 : Int32 → Int32 → Int32 → Int32 → Int32 → FI → AR → LN → Option (Int32 × FI × AR × LN × Nat × Nat)) (nf : Nat) (x1 : Int32) (x3 : Int32) (x4 : Int32) (x5 : Int32) (x6 : Int32) (fi : FI) (ar : AR) (ln : LN) : Option (Int32 × FI × AR × LN × Nat × Nat) :=
  bnd ((x6) + (1 : Int32)) fun x6_2 => K60 (x1) (x3) (x4) (x5) (x6_2) fi ar ln
noncomputable def FX0_directoryFault_266 (K60 : Int32 → Int32 → Int32 → Int32 → Int32 → FI → AR → LN → Option (Int32 × FI × AR × LN × Nat × Nat)) (nf : Nat) (x1 : Int32) (x3 : Int32) (x5 : Int32) (x6 : Int32) (fi : FI) (ar : AR) (ln : LN) : Option (Int32 × FI × AR × LN × Nat × Nat) :=
  FX0_directoryFault_269 K60 nf  (x1) (x3) (0 : Int32) (x5) (x6) fi ar ln
noncomputable def FX0_directoryFault_249 (K60 : Int32 → Int32 → Int32 → Int32 → Int32 → FI → AR → LN → Option (Int32 × FI × AR × LN × Nat × Nat)) (nf : Nat) (x1 : Int32) (x3 : Int32) (x5 : Int32) (x6 : Int32) (t1 : Int32) (t2 : Int32) (fi : FI) (ar : AR) (ln : LN) : Option (Int32 × FI × AR × LN × Nat × Nat) :=
  obnd3 (FX0_enqueue nf ln fi ar (t1) (t2)) fun r6 fi4 ar5 => FX0_directoryFault_266 K60 nf  (x1) (x3) (x5) (x6) fi4 ar5 ln
noncomputable def FX0_directoryFault_212 (K60 : Int32 → Int32 → Int32 → Int32 → Int32 → FI → AR → LN → Option (Int32 × FI × AR × LN × Nat × Nat)) (nf : Nat) (x1 : Int32) (x3 : Int32) (x5 : Int32) (x6 : Int32) (x7 : Int32) (x9 : Int32) (t0 : Int32) (fi : FI) (ar : AR) (ln : LN) : Option (Int32 × FI × AR × LN × Nat × Nat) :=
  br ((t0) = 0) (br (((x9) &&& (16 : Int32)) = 0) (obnd3 (FX0_fileChainAsTold nf ln fi ar (x7)) fun r12 fi10 ar11 => br ((r12) = 0) (some ((3 : Int32), fi10, ar11, ln, 0, 0)) (FX0_directoryFault_266 K60 nf  (x1) (x3) (x5) (x6) fi10 ar11 ln)) (obnd3 (FX3_firstCluster nf ln fi ar (x7)) fun r17 fi15 ar16 => br ((x3) = 0) (FX0_directoryFault_249 K60 nf  (x1) (x3) (x5) (x6) (r17) (x1) fi15 ar16 ln) (FX0_directoryFault_249 K60 nf  (x1) (x3) (x5) (x6) (r17) (0 : Int32) fi15 ar16 ln))) (some ((t0), fi, ar, ln, 0, 0))
noncomputable def FX0_directoryFault_205 (K60 : Int32 → Int32 → Int32 → Int32 → Int32 → FI → AR → LN → Option (Int32 × FI × AR × LN × Nat × Nat)) (nf : Nat) (x1 : Int32) (x3 : Int32) (x5 : Int32) (x6 : Int32) (x7 : Int32) (x9 : Int32) (t1 : Int32) (t2 : Int32) (t3 : Int32) (t4 : Int32) (fi : FI) (ar : AR) (ln : LN) : Option (Int32 × FI × AR × LN × Nat × Nat) :=
  obnd6 (FX0_entryFault nf fi ar ln (t1) (t2) (t3) (t4)) fun r23 fi20 ar21 ln22 kc24 ks25 => addc (kc24) (ks25) (FX0_directoryFault_212 K60 nf  (x1) (x3) (x5) (x6) (x7) (x9) (r23) fi20 ar21 ln22)
noncomputable def FX0_directoryFault_204 (K60 : Int32 → Int32 → Int32 → Int32 → Int32 → FI → AR → LN → Option (Int32 × FI × AR × LN × Nat × Nat)) (nf : Nat) (x1 : Int32) (x3 : Int32) (x5 : Int32) (x6 : Int32) (x7 : Int32) (x9 : Int32) (t1 : Int32) (t2 : Int32) (t3 : Int32) (fi : FI) (ar : AR) (ln : LN) : Option (Int32 × FI × AR × LN × Nat × Nat) :=
  FX0_directoryFault_205 K60 nf  (x1) (x3) (x5) (x6) (x7) (x9) (t1) (t2) (t3) (0 : Int32) fi ar ln
noncomputable def FX0_directoryFault_171 (K60 : Int32 → Int32 → Int32 → Int32 → Int32 → FI → AR → LN → Option (Int32 × FI × AR × LN × Nat × Nat)) (nf : Nat) (x1 : Int32) (x3 : Int32) (x4 : Int32) (x6 : Int32) (x7 : Int32) (x9 : Int32) (t0 : Int32) (t1 : Int32) (fi : FI) (ar : AR) (ln : LN) : Option (Int32 × FI × AR × LN × Nat × Nat) :=
  bnd ((t0) + (t1)) fun x5_29 => obnd3 (FX0_timesAsTold nf ln fi ar (x7)) fun r33 fi31 ar32 => br ((r33) = 0) (FX0_directoryFault_212 K60 nf  (x1) (x3) (x5_29) (x6) (x7) (x9) (4 : Int32) fi31 ar32 ln) (br ((x3) = 0) (FX0_directoryFault_204 K60 nf  (x1) (x3) (x5_29) (x6) (x7) (x9) (x6) (x7) (x4) fi31 ar32 ln) (br ((2 : Int32) ≤ (x5_29)) (FX0_directoryFault_204 K60 nf  (x1) (x3) (x5_29) (x6) (x7) (x9) (x6) (x7) (x4) fi31 ar32 ln) (FX0_directoryFault_205 K60 nf  (x1) (x3) (x5_29) (x6) (x7) (x9) (x6) (x7) (x4) (1 : Int32) fi31 ar32 ln)))
noncomputable def FX0_directoryFault_129 (K60 : Int32 → Int32 → Int32 → Int32 → Int32 → FI → AR → LN → Option (Int32 × FI × AR × LN × Nat × Nat)) (nf : Nat) (x1 : Int32) (x3 : Int32) (x4 : Int32) (x5 : Int32) (x6 : Int32) (x7 : Int32) (x8 : Int32) (x9 : Int32) (fi : FI) (ar : AR) (ln : LN) : Option (Int32 × FI × AR × LN × Nat × Nat) :=
  br ((x8) = (229 : Int32)) (FX0_directoryFault_269 K60 nf  (x1) (x3) (x4) (x5) (x6) fi ar ln) (br (((x9) &&& (63 : Int32)) = (15 : Int32)) (bnd ((x4) + (1 : Int32)) fun x4_40 => FX0_directoryFault_269 K60 nf  (x1) (x3) (x4_40) (x5) (x6) fi ar ln) (br (((x9) &&& (8 : Int32)) = 0) (FX0_directoryFault_171 K60 nf  (x1) (x3) (x4) (x6) (x7) (x9) (x5) (0 : Int32) fi ar ln) (FX0_directoryFault_171 K60 nf  (x1) (x3) (x4) (x6) (x7) (x9) (x5) (1 : Int32) fi ar ln)))
noncomputable def FX0_directoryFault_60b (K60 : Int32 → Int32 → Int32 → Int32 → Int32 → FI → AR → LN → Option (Int32 × FI × AR × LN × Nat × Nat)) (nf : Nat) (x1 : Int32) (x3 : Int32) (x4 : Int32) (x5 : Int32) (x6 : Int32) (fi : FI) (ar : AR) (ln : LN) : Option (Int32 × FI × AR × LN × Nat × Nat) :=
  br ((fi (21 + 10 * 2)) ≤ (x6)) (FX0_directoryFault_275 nf  (x4) fi ar ln) (obnd3 (FX2_slotAddress nf ln 2 fi ar (x6)) fun r45 fi43 ar44 => obnd3 (FX3_one nf ln fi43 ar44 (r45)) fun r49 fi47 ar48 => obnd3 (FX3_one nf ln fi47 ar48 ((r45) + (11 : Int32))) fun r53 fi51 ar52 => br ((r49) = 0) (FX0_directoryFault_275 nf  (x4) fi51 ar52 ln) (br ((r49) = (229 : Int32)) (br ((x4) ≤ 0) (FX0_directoryFault_129 K60 nf  (x1) (x3) (x4) (x5) (x6) (r45) (r49) (r53) fi51 ar52 ln) (FX0_directoryFault_275 nf  (x4) fi51 ar52 ln)) (FX0_directoryFault_129 K60 nf  (x1) (x3) (x4) (x5) (x6) (r45) (r49) (r53) fi51 ar52 ln)))
noncomputable def FX0_directoryFault_60 (nf : Nat) (kf : Nat) : Int32 → Int32 → Int32 → Int32 → Int32 → FI → AR → LN → Option (Int32 × FI × AR × LN × Nat × Nat) := Nat.rec (fun _ _ _ _ _ _ _ _ => none) (fun _ K60 => FX0_directoryFault_60b K60 nf) kf
noncomputable def FX0_directoryFault_58 (nf : Nat) (x1 : Int32) (x3 : Int32) (x4 : Int32) (x5 : Int32) (t0 : Int32) (fi : FI) (ar : AR) (ln : LN) : Option (Int32 × FI × AR × LN × Nat × Nat) :=
  FX0_directoryFault_60 nf nf (x1) (x3) (x4) (x5) (t0) fi ar ln
noncomputable def FX0_directoryFault_43 (nf : Nat) (x1 : Int32) (x3 : Int32) (fi : FI) (ar : AR) (ln : LN) : Option (Int32 × FI × AR × LN × Nat × Nat) :=
  br ((x3) = 0) (FX0_directoryFault_58 nf  (x1) (x3) (0 : Int32) (0 : Int32) (2 : Int32) fi ar ln) (FX0_directoryFault_58 nf  (x1) (x3) (0 : Int32) (0 : Int32) (0 : Int32) fi ar ln)
noncomputable def FX0_directoryFault_41 (nf : Nat)  (fi : FI) (ar : AR) (ln : LN) : Option (Int32 × FI × AR × LN × Nat × Nat) :=
  some ((4 : Int32), fi, ar, ln, 0, 0)
noncomputable def FX0_directoryFault (nf : Nat) (fi : FI) (ar : AR) (ln : LN) (x1 : Int32) (x2 : Int32) (x3 : Int32) : Option (Int32 × FI × AR × LN × Nat × Nat) :=
  obnd3 (FX0_claimChain nf ln fi ar (x1)) fun r61 fi59 ar60 => br ((r61) = (-1 : Int32)) (some ((3 : Int32), fi59, ar60, ln, 0, 0)) (obnd3 (FX2_openChain nf ln 2 fi59 ar60 (x1)) fun r66 fi64 ar65 => br ((x3) = 0) (obnd3 (FX0_pointsAsTold nf ln fi64 ar65 (0 : Int32) (x1)) fun r71 fi69 ar70 => br ((r71) = 0) (FX0_directoryFault_41 nf  fi69 ar70 ln) (obnd3 (FX0_pointsAsTold nf ln fi69 ar70 (1 : Int32) (x2)) fun r76 fi74 ar75 => br ((r76) = 0) (FX0_directoryFault_41 nf  fi74 ar75 ln) (FX0_directoryFault_43 nf  (x1) (x3) fi74 ar75 ln))) (FX0_directoryFault_43 nf  (x1) (x3) fi64 ar65 ln))
set_option maxHeartbeats 8000000 in
set_option maxRecDepth 100000 in
theorem kX0_directoryFault (l : Launch) (g : GT) (ad rd0 : Nat → Nat) (sz : Nat) (nf : Nat) (fi : FI) (ar : AR) (ln : LN) (p1 : Int32) (p2 : Int32) (p3 : Int32) (r : Int32) (fi' : FI) (ar' : AR) (ln' : LN) (KC KS : Nat) (hF : FX0_directoryFault nf fi ar ln p1 p2 p3 = some (r, fi', ar', ln', KC, KS)) : Met l yX0_directoryFault (wx yX0_directoryFault cX0_directoryFault 11 (some .int)) ({ frames := 7, cells := KC, slots := KS, locals := 161 } : Room) (va_Pc [.ref (ad (7)), .int p1, .int p2, .int p3] (PC g ad rd0 ln sz fi ar)) (QAi g ad (AC ad rd0 sz) r fi' ar' ln') KC KS (AC ad rd0 sz) := by
  refine Met.ofW (cc := cX0_directoryFault) (maxL := 11) (ret := (some .int)) (by decide) rfl ?_
  intro p e s m args below meth c s₁ B hml hv
  obtain ⟨rfl, hsz, hP, hK, hD0, hE⟩ := hv
  have hx := B.exec
  have hb := B.bytes
  have hr := B.returns
  have hts := atoms_spec (ws := (wx yX0_directoryFault cX0_directoryFault 11 (some .int))) B.pre
  have hT : ∀ w ∈ TB, w.before _ s = true := fun w h => hts w (List.mem_cons_of_mem _ h)
  have hown : s.vm.findClass RX0 = some m.cls := findClass_of_methodNamed B.named
  have hlocks := B.notSynchronized
  subst hsz
  have hD : ∀ (ln : LN) (fi : FI) (ar : AR), va_D (AC ad rd0 s.heap.size) (WC g ad rd0 ln fi ar) := dCre (dC hD0 s.heap.size fi ar) (fun _ h => h)
  have hA : ∀ q : Nat, s.heap.size ≤ q → AC ad rd0 s.heap.size q := fun q h => Or.inr h
  have hS : va_S (AC ad rd0 s.heap.size) s.heap s.heap [] := va_S.rf
  have hl := lv_entry ([.ref (ad (7)), .int p1, .int p2, .int p3]) (n := 11) (Nat.le_of_ble_eq_true rfl)
  rw [lg_entry_eq]
  generalize (lg_sl ([.ref (ad (7)), .int p1, .int p2, .int p3]) ++ List.replicate (11 - (lg_sl ([.ref (ad (7)), .int p1, .int p2, .int p3])).length) Slot.unset).toArray = ls at hl ⊢
  have hl : lv_has ls 11 [(0, .ref (ad (7))), (1, .int p1), (2, .int p2), (3, .int p3)] := hl
  unfold FX0_directoryFault at hF
  have J285 : ∀ (t0 : Int32) (fi : FI) (ar : AR) (ln : LN) (kc ks cells slots : Nat) (rd : Nat → Nat) (H : Heap) (locs : List Loc) (ls : Array Slot), FX0_directoryFault_285 nf t0 fi ar ln = some (r, fi', ar', ln', kc, ks) → cells + kc ≤ KC → slots + ks ≤ KS → lv_has ls 11 [(0, .ref (ad (7)))] → va_P (gD g) vwCl (WC g ad rd ln fi ar) H → (∀ (ln : LN) (fi : FI) (ar : AR), va_D (AC ad rd0 s.heap.size) (WC g ad rd ln fi ar)) → va_S (AC ad rd0 s.heap.size) s.heap H locs → W p l e (headSpec (wx yX0_directoryFault cX0_directoryFault 11 (some .int)) ({ frames := 7, cells := KC, slots := KS, locals := 161 } : Room)).room s m ([.ref (ad (7)), .int p1, .int p2, .int p3] : List Value).toArray below meth c H locs cells slots (MQ below (QAi g ad (AC ad rd0 s.heap.size) r fi' ar' ln') ([.ref (ad (7)), .int p1, .int p2, .int p3] : List Value).toArray s KC KS (AC ad rd0 s.heap.size)) (F0 m 285 ls [.int t0]) := by
    intro t0 fi ar ln kc ks cells slots rd H locs ls hF hkc hks hl hP hD hS
    unfold FX0_directoryFault_285 at hF
    refine W.widen (k := KC) (n := KS) (by omega) (by omega) ?_
    exact rA_i hx hb hr hlocks hF hP hD hS dX0_directoryFault_285
  have J275 : ∀ (x4 : Int32) (fi : FI) (ar : AR) (ln : LN) (kc ks cells slots : Nat) (rd : Nat → Nat) (H : Heap) (locs : List Loc) (ls : Array Slot), FX0_directoryFault_275 nf x4 fi ar ln = some (r, fi', ar', ln', kc, ks) → cells + kc ≤ KC → slots + ks ≤ KS → lv_has ls 11 [(0, .ref (ad (7))), (4, .int x4)] → va_P (gD g) vwCl (WC g ad rd ln fi ar) H → (∀ (ln : LN) (fi : FI) (ar : AR), va_D (AC ad rd0 s.heap.size) (WC g ad rd ln fi ar)) → va_S (AC ad rd0 s.heap.size) s.heap H locs → W p l e (headSpec (wx yX0_directoryFault cX0_directoryFault 11 (some .int)) ({ frames := 7, cells := KC, slots := KS, locals := 161 } : Room)).room s m ([.ref (ad (7)), .int p1, .int p2, .int p3] : List Value).toArray below meth c H locs cells slots (MQ below (QAi g ad (AC ad rd0 s.heap.size) r fi' ar' ln') ([.ref (ad (7)), .int p1, .int p2, .int p3] : List Value).toArray s KC KS (AC ad rd0 s.heap.size)) (F0 m 275 ls []) := by
    intro x4 fi ar ln kc ks cells slots rd H locs ls hF hkc hks hl hP hD hS
    unfold FX0_directoryFault_275 at hF
    refine lv_iload hx hb dX0_directoryFault_275 (lv_at hl 1 rfl) ?_
    refine lv_if_le (tgt := 284) hx hb dX0_directoryFault_277 (by decide) (fun hc1 => ?_) (fun hc1 => ?_)
    · replace hF := br_yes hF hc1
      refine lv_iconst (v := (0 : Int32)) hx hb dX0_directoryFault_284 (by decide) ?_
      exact J285 (0 : Int32) _ _ _ _ _ _ _ _ _ _ _ hF hkc hks (lv_sub hl [0] rfl) hP hD hS
    · replace hF := br_no hF hc1
      refine lv_iconst (v := (4 : Int32)) hx hb dX0_directoryFault_280 (by decide) ?_
      refine lv_goto (tgt := 285) hx hb dX0_directoryFault_281 (by decide) ?_
      exact J285 (4 : Int32) _ _ _ _ _ _ _ _ _ _ _ hF hkc hks (lv_sub hl [0] rfl) hP hD hS
  have L60 : ∀ kf : Nat, ∀ (x1 : Int32) (x3 : Int32) (x4 : Int32) (x5 : Int32) (x6 : Int32) (fi : FI) (ar : AR) (ln : LN) (kc ks cells slots : Nat) (rd : Nat → Nat) (H : Heap) (locs : List Loc) (ls : Array Slot), FX0_directoryFault_60 nf kf x1 x3 x4 x5 x6 fi ar ln = some (r, fi', ar', ln', kc, ks) → cells + kc ≤ KC → slots + ks ≤ KS → lv_has ls 11 [(0, .ref (ad (7))), (1, .int x1), (3, .int x3), (4, .int x4), (5, .int x5), (6, .int x6)] → va_P (gD g) vwCl (WC g ad rd ln fi ar) H → (∀ (ln : LN) (fi : FI) (ar : AR), va_D (AC ad rd0 s.heap.size) (WC g ad rd ln fi ar)) → va_S (AC ad rd0 s.heap.size) s.heap H locs → W p l e (headSpec (wx yX0_directoryFault cX0_directoryFault 11 (some .int)) ({ frames := 7, cells := KC, slots := KS, locals := 161 } : Room)).room s m ([.ref (ad (7)), .int p1, .int p2, .int p3] : List Value).toArray below meth c H locs cells slots (MQ below (QAi g ad (AC ad rd0 s.heap.size) r fi' ar' ln') ([.ref (ad (7)), .int p1, .int p2, .int p3] : List Value).toArray s KC KS (AC ad rd0 s.heap.size)) (F0 m 60 ls []) := by
    intro kf
    induction kf with
    | zero => intro x1 x3 x4 x5 x6 fi ar ln kc ks cells slots rd H locs ls hF hkc hks hl hP hD hS; cases (show (none : Option (Int32 × FI × AR × LN × Nat × Nat)) = _ from hF)
    | succ kf ih60 =>
      intro x1 x3 x4 x5 x6 fi ar ln kc ks cells slots rd H locs ls hF hkc hks hl hP hD hS
      obtain ⟨K60, hK60⟩ : ∃ K : Int32 → Int32 → Int32 → Int32 → Int32 → FI → AR → LN → Option (Int32 × FI × AR × LN × Nat × Nat), K = FX0_directoryFault_60 nf kf := ⟨_, rfl⟩
      replace hF : FX0_directoryFault_60b K60 nf x1 x3 x4 x5 x6 fi ar ln = some (r, fi', ar', ln', kc, ks) := by rw [hK60]; exact hF
      rw [← hK60] at ih60
      clear hK60
      have J269 : ∀ (x1 : Int32) (x3 : Int32) (x4 : Int32) (x5 : Int32) (x6 : Int32) (fi : FI) (ar : AR) (ln : LN) (kc ks cells slots : Nat) (rd : Nat → Nat) (H : Heap) (locs : List Loc) (ls : Array Slot), FX0_directoryFault_269 K60 nf x1 x3 x4 x5 x6 fi ar ln = some (r, fi', ar', ln', kc, ks) → cells + kc ≤ KC → slots + ks ≤ KS → lv_has ls 11 [(0, .ref (ad (7))), (1, .int x1), (3, .int x3), (4, .int x4), (5, .int x5), (6, .int x6)] → va_P (gD g) vwCl (WC g ad rd ln fi ar) H → (∀ (ln : LN) (fi : FI) (ar : AR), va_D (AC ad rd0 s.heap.size) (WC g ad rd ln fi ar)) → va_S (AC ad rd0 s.heap.size) s.heap H locs → W p l e (headSpec (wx yX0_directoryFault cX0_directoryFault 11 (some .int)) ({ frames := 7, cells := KC, slots := KS, locals := 161 } : Room)).room s m ([.ref (ad (7)), .int p1, .int p2, .int p3] : List Value).toArray below meth c H locs cells slots (MQ below (QAi g ad (AC ad rd0 s.heap.size) r fi' ar' ln') ([.ref (ad (7)), .int p1, .int p2, .int p3] : List Value).toArray s KC KS (AC ad rd0 s.heap.size)) (F0 m 269 ls []) := by
        intro x1 x3 x4 x5 x6 fi ar ln kc ks cells slots rd H locs ls hF hkc hks hl hP hD hS
        unfold FX0_directoryFault_269 at hF
        obtain ⟨x6_2, ex6_2⟩ : ∃ y : Int32, y = (x6) + (1 : Int32) := ⟨_, rfl⟩
        replace hF := bnd_of hF ex6_2
        refine lv_iinc (v := x6_2) (lv' := [(6, .int (x6_2)), (0, .ref (ad (7))), (1, .int (x1)), (3, .int (x3)), (4, .int (x4)), (5, .int (x5))]) hx hb dX0_directoryFault_269 hl (k := 5) rfl (by rw [ex6_2]; rfl) (by decide) rfl (fun ls hl => ?_)
        refine lv_goto (tgt := 60) hx hb dX0_directoryFault_272 (by decide) ?_
        exact ih60 (x1) (x3) (x4) (x5) (x6_2) _ _ _ _ _ _ _ _ _ _ _ hF hkc hks (lv_sub hl [1, 2, 3, 4, 5, 0] rfl) hP hD hS
      have J266 : ∀ (x1 : Int32) (x3 : Int32) (x5 : Int32) (x6 : Int32) (fi : FI) (ar : AR) (ln : LN) (kc ks cells slots : Nat) (rd : Nat → Nat) (H : Heap) (locs : List Loc) (ls : Array Slot), FX0_directoryFault_266 K60 nf x1 x3 x5 x6 fi ar ln = some (r, fi', ar', ln', kc, ks) → cells + kc ≤ KC → slots + ks ≤ KS → lv_has ls 11 [(0, .ref (ad (7))), (1, .int x1), (3, .int x3), (5, .int x5), (6, .int x6)] → va_P (gD g) vwCl (WC g ad rd ln fi ar) H → (∀ (ln : LN) (fi : FI) (ar : AR), va_D (AC ad rd0 s.heap.size) (WC g ad rd ln fi ar)) → va_S (AC ad rd0 s.heap.size) s.heap H locs → W p l e (headSpec (wx yX0_directoryFault cX0_directoryFault 11 (some .int)) ({ frames := 7, cells := KC, slots := KS, locals := 161 } : Room)).room s m ([.ref (ad (7)), .int p1, .int p2, .int p3] : List Value).toArray below meth c H locs cells slots (MQ below (QAi g ad (AC ad rd0 s.heap.size) r fi' ar' ln') ([.ref (ad (7)), .int p1, .int p2, .int p3] : List Value).toArray s KC KS (AC ad rd0 s.heap.size)) (F0 m 266 ls []) := by
        intro x1 x3 x5 x6 fi ar ln kc ks cells slots rd H locs ls hF hkc hks hl hP hD hS
        unfold FX0_directoryFault_266 at hF
        refine lv_iconst (v := (0 : Int32)) hx hb dX0_directoryFault_266 (by decide) ?_
        refine lv_istore (lv' := [(4, .int (0 : Int32)), (0, .ref (ad (7))), (1, .int (x1)), (3, .int (x3)), (5, .int (x5)), (6, .int (x6))]) hx hb dX0_directoryFault_267 hl (by decide) rfl (fun ls hl => ?_)
        exact J269 (x1) (x3) (0 : Int32) (x5) (x6) _ _ _ _ _ _ _ _ _ _ _ hF hkc hks (lv_sub hl [1, 2, 3, 0, 4, 5] rfl) hP hD hS
      have J249 : ∀ (x1 : Int32) (x3 : Int32) (x5 : Int32) (x6 : Int32) (t1 : Int32) (t2 : Int32) (fi : FI) (ar : AR) (ln : LN) (kc ks cells slots : Nat) (rd : Nat → Nat) (H : Heap) (locs : List Loc) (ls : Array Slot), FX0_directoryFault_249 K60 nf x1 x3 x5 x6 t1 t2 fi ar ln = some (r, fi', ar', ln', kc, ks) → cells + kc ≤ KC → slots + ks ≤ KS → lv_has ls 11 [(0, .ref (ad (7))), (1, .int x1), (3, .int x3), (5, .int x5), (6, .int x6)] → va_P (gD g) vwCl (WC g ad rd ln fi ar) H → (∀ (ln : LN) (fi : FI) (ar : AR), va_D (AC ad rd0 s.heap.size) (WC g ad rd ln fi ar)) → va_S (AC ad rd0 s.heap.size) s.heap H locs → W p l e (headSpec (wx yX0_directoryFault cX0_directoryFault 11 (some .int)) ({ frames := 7, cells := KC, slots := KS, locals := 161 } : Room)).room s m ([.ref (ad (7)), .int p1, .int p2, .int p3] : List Value).toArray below meth c H locs cells slots (MQ below (QAi g ad (AC ad rd0 s.heap.size) r fi' ar' ln') ([.ref (ad (7)), .int p1, .int p2, .int p3] : List Value).toArray s KC KS (AC ad rd0 s.heap.size)) (F0 m 249 ls [.int t2, .int t1, .ref (ad (7))]) := by
        intro x1 x3 x5 x6 t1 t2 fi ar ln kc ks cells slots rd H locs ls hF hkc hks hl hP hD hS
        unfold FX0_directoryFault_249 at hF
        replace hF := obnd3_of hF
        obtain ⟨r6, fi4, ar5, h3, hF⟩ := hF
        refine cC_v (As := [.int (t1), .int (t2)]) (rest := []) hx hb hml hT hown hK hE (hD _) hA hP hS (rcv_X0 hK hP) (kX0_enqueue l g ad rd _ nf ln fi ar (t1) (t2) r6 fi4 ar5 h3) cw_X0_enqueue mw22_19 ⟨⟨rfl, rfl⟩, Nat.le_of_ble_eq_true rfl, Nat.le_of_ble_eq_true rfl⟩ rfl hl.1 rfl (Nat.le_of_ble_eq_true rfl) dX0_directoryFault_249 ⟨by show _ ≤ KC; omega, by show _ ≤ KS; omega⟩ (fun H locs hP hS => ?_)
        refine lv_goto (tgt := 266) hx hb dX0_directoryFault_252 (by decide) ?_
        exact J266 (x1) (x3) (x5) (x6) _ _ _ _ _ _ _ _ _ _ _ hF hkc hks (lv_sub hl [0, 1, 2, 3, 4] rfl) hP hD hS
      have J212 : ∀ (x1 : Int32) (x3 : Int32) (x5 : Int32) (x6 : Int32) (x7 : Int32) (x9 : Int32) (t0 : Int32) (fi : FI) (ar : AR) (ln : LN) (kc ks cells slots : Nat) (rd : Nat → Nat) (H : Heap) (locs : List Loc) (ls : Array Slot), FX0_directoryFault_212 K60 nf x1 x3 x5 x6 x7 x9 t0 fi ar ln = some (r, fi', ar', ln', kc, ks) → cells + kc ≤ KC → slots + ks ≤ KS → lv_has ls 11 [(0, .ref (ad (7))), (1, .int x1), (3, .int x3), (5, .int x5), (6, .int x6), (7, .int x7), (9, .int x9)] → va_P (gD g) vwCl (WC g ad rd ln fi ar) H → (∀ (ln : LN) (fi : FI) (ar : AR), va_D (AC ad rd0 s.heap.size) (WC g ad rd ln fi ar)) → va_S (AC ad rd0 s.heap.size) s.heap H locs → W p l e (headSpec (wx yX0_directoryFault cX0_directoryFault 11 (some .int)) ({ frames := 7, cells := KC, slots := KS, locals := 161 } : Room)).room s m ([.ref (ad (7)), .int p1, .int p2, .int p3] : List Value).toArray below meth c H locs cells slots (MQ below (QAi g ad (AC ad rd0 s.heap.size) r fi' ar' ln') ([.ref (ad (7)), .int p1, .int p2, .int p3] : List Value).toArray s KC KS (AC ad rd0 s.heap.size)) (F0 m 212 ls [.int t0]) := by
        intro x1 x3 x5 x6 x7 x9 t0 fi ar ln kc ks cells slots rd H locs ls hF hkc hks hl hP hD hS
        unfold FX0_directoryFault_212 at hF
        refine lv_istore (lv' := [(10, .int (t0)), (0, .ref (ad (7))), (1, .int (x1)), (3, .int (x3)), (5, .int (x5)), (6, .int (x6)), (7, .int (x7)), (9, .int (x9))]) hx hb dX0_directoryFault_212 hl (by decide) rfl (fun ls hl => ?_)
        refine lv_iload hx hb dX0_directoryFault_214 (lv_at hl 0 rfl) ?_
        refine lv_if_eq (tgt := 222) hx hb dX0_directoryFault_216 (by decide) (fun hc7 => ?_) (fun hc7 => ?_)
        · replace hF := br_yes hF hc7
          refine lv_iload hx hb dX0_directoryFault_222 (lv_at hl 7 rfl) ?_
          refine lv_bipush (v := (16 : Int32)) hx hb dX0_directoryFault_224 (by decide) ?_
          refine lv_iand hx hb dX0_directoryFault_226 ?_
          refine lv_if_eq (tgt := 255) hx hb dX0_directoryFault_227 (by decide) (fun hc8 => ?_) (fun hc8 => ?_)
          · replace hF := br_yes hF hc8
            refine lv_aload_n hx hb dX0_directoryFault_255 rfl (lv_at hl 1 rfl) ?_
            refine lv_iload hx hb dX0_directoryFault_256 (lv_at hl 6 rfl) ?_
            replace hF := obnd3_of hF
            obtain ⟨r12, fi10, ar11, h9, hF⟩ := hF
            refine cC_i (As := [.int (x7)]) (rest := []) hx hb hml hT hown hK hE (hD _) hA hP hS (rcv_X0 hK hP) (kX0_fileChainAsTold l g ad rd _ nf ln fi ar (x7) r12 fi10 ar11 h9) cw_X0_fileChainAsTold mw30_5 ⟨⟨rfl, rfl⟩, Nat.le_of_ble_eq_true rfl, Nat.le_of_ble_eq_true rfl⟩ rfl hl.1 rfl (Nat.le_of_ble_eq_true rfl) dX0_directoryFault_258 ⟨by show _ ≤ KC; omega, by show _ ≤ KS; omega⟩ (fun H locs hP hS => ?_)
            refine lv_if_ne (tgt := 266) hx hb dX0_directoryFault_261 (by decide) (fun hc13 => ?_) (fun hc13 => ?_)
            · replace hF := br_no hF hc13
              exact J266 (x1) (x3) (x5) (x6) _ _ _ _ _ _ _ _ _ _ _ hF hkc hks (lv_sub hl [1, 2, 3, 4, 5] rfl) hP hD hS
            · replace hF := br_yes hF hc13
              refine lv_iconst (v := (3 : Int32)) hx hb dX0_directoryFault_264 (by decide) ?_
              refine W.widen (k := KC) (n := KS) (by omega) (by omega) ?_
              exact rA_i hx hb hr hlocks hF hP hD hS dX0_directoryFault_265
          · replace hF := br_no hF hc8
            refine lv_aload_n hx hb dX0_directoryFault_230 rfl (lv_at hl 1 rfl) ?_
            refine lv_aload_n hx hb dX0_directoryFault_231 rfl (lv_at hl 1 rfl) ?_
            refine cg_X0_disk hx hb hT hown hK hP mw4_14 dX0_directoryFault_232 ?_
            refine lv_iload hx hb dX0_directoryFault_235 (lv_at hl 6 rfl) ?_
            replace hF := obnd3_of hF
            obtain ⟨r17, fi15, ar16, h14, hF⟩ := hF
            refine cC_i (As := [.int (x7)]) (rest := [.ref (ad (7))]) hx hb hml hT hown hK hE (hD _) hA hP hS (rcv_X3 hK hP) (kX3_firstCluster l g ad rd _ nf ln fi ar (x7) r17 fi15 ar16 h14) cw_X3_firstCluster mw24_14 ⟨⟨rfl, rfl⟩, Nat.le_of_ble_eq_true rfl, Nat.le_of_ble_eq_true rfl⟩ rfl hl.1 rfl (Nat.le_of_ble_eq_true rfl) dX0_directoryFault_237 ⟨by show _ ≤ KC; omega, by show _ ≤ KS; omega⟩ (fun H locs hP hS => ?_)
            refine lv_iload_n hx hb dX0_directoryFault_240 rfl (lv_at hl 3 rfl) ?_
            refine lv_if_eq (tgt := 248) hx hb dX0_directoryFault_241 (by decide) (fun hc18 => ?_) (fun hc18 => ?_)
            · replace hF := br_yes hF hc18
              refine lv_iload_n hx hb dX0_directoryFault_248 rfl (lv_at hl 2 rfl) ?_
              exact J249 (x1) (x3) (x5) (x6) (r17) (x1) _ _ _ _ _ _ _ _ _ _ _ hF hkc hks (lv_sub hl [1, 2, 3, 4, 5] rfl) hP hD hS
            · replace hF := br_no hF hc18
              refine lv_iconst (v := (0 : Int32)) hx hb dX0_directoryFault_244 (by decide) ?_
              refine lv_goto (tgt := 249) hx hb dX0_directoryFault_245 (by decide) ?_
              exact J249 (x1) (x3) (x5) (x6) (r17) (0 : Int32) _ _ _ _ _ _ _ _ _ _ _ hF hkc hks (lv_sub hl [1, 2, 3, 4, 5] rfl) hP hD hS
        · replace hF := br_no hF hc7
          refine lv_iload hx hb dX0_directoryFault_219 (lv_at hl 0 rfl) ?_
          refine W.widen (k := KC) (n := KS) (by omega) (by omega) ?_
          exact rA_i hx hb hr hlocks hF hP hD hS dX0_directoryFault_221
      have J205 : ∀ (x1 : Int32) (x3 : Int32) (x5 : Int32) (x6 : Int32) (x7 : Int32) (x9 : Int32) (t1 : Int32) (t2 : Int32) (t3 : Int32) (t4 : Int32) (fi : FI) (ar : AR) (ln : LN) (kc ks cells slots : Nat) (rd : Nat → Nat) (H : Heap) (locs : List Loc) (ls : Array Slot), FX0_directoryFault_205 K60 nf x1 x3 x5 x6 x7 x9 t1 t2 t3 t4 fi ar ln = some (r, fi', ar', ln', kc, ks) → cells + kc ≤ KC → slots + ks ≤ KS → lv_has ls 11 [(0, .ref (ad (7))), (1, .int x1), (3, .int x3), (5, .int x5), (6, .int x6), (7, .int x7), (9, .int x9)] → va_P (gD g) vwCl (WC g ad rd ln fi ar) H → (∀ (ln : LN) (fi : FI) (ar : AR), va_D (AC ad rd0 s.heap.size) (WC g ad rd ln fi ar)) → va_S (AC ad rd0 s.heap.size) s.heap H locs → W p l e (headSpec (wx yX0_directoryFault cX0_directoryFault 11 (some .int)) ({ frames := 7, cells := KC, slots := KS, locals := 161 } : Room)).room s m ([.ref (ad (7)), .int p1, .int p2, .int p3] : List Value).toArray below meth c H locs cells slots (MQ below (QAi g ad (AC ad rd0 s.heap.size) r fi' ar' ln') ([.ref (ad (7)), .int p1, .int p2, .int p3] : List Value).toArray s KC KS (AC ad rd0 s.heap.size)) (F0 m 205 ls [.int t4, .int t3, .int t2, .int t1, .ref (ad (7))]) := by
        intro x1 x3 x5 x6 x7 x9 t1 t2 t3 t4 fi ar ln kc ks cells slots rd H locs ls hF hkc hks hl hP hD hS
        unfold FX0_directoryFault_205 at hF
        replace hF := obnd6_of hF
        obtain ⟨r23, fi20, ar21, ln22, kc24, ks25, h19, hF⟩ := hF
        replace hF := addc_of hF
        obtain ⟨kc26, ks27, e28c, e28s, hF⟩ := hF
        refine cA_i (As := [.int (t1), .int (t2), .int (t3), .int (t4)]) (rest := []) hx hb hml hT hown hK hE hD hA hP hS (rcv_X0 hK hP) (kX0_entryFault l g ad rd _ nf fi ar ln (t1) (t2) (t3) (t4) r23 fi20 ar21 ln22 kc24 ks25 h19) cw_X0_entryFault mw25_17 ⟨⟨rfl, rfl⟩, Nat.le_of_ble_eq_true rfl, Nat.le_of_ble_eq_true rfl⟩ rfl hl.1 rfl (Nat.le_of_ble_eq_true rfl) dX0_directoryFault_205 ⟨by show _ ≤ KC; omega, by show _ ≤ KS; omega⟩ (fun rd H locs hP hD hS => ?_)
        replace hkc : cells + kc24 + kc26 ≤ KC := by omega
        replace hks : slots + ks25 + ks27 ≤ KS := by omega
        refine lv_goto (tgt := 212) hx hb dX0_directoryFault_208 (by decide) ?_
        exact J212 (x1) (x3) (x5) (x6) (x7) (x9) (r23) _ _ _ _ _ _ _ _ _ _ _ hF hkc hks (lv_sub hl [0, 1, 2, 3, 4, 5, 6] rfl) hP hD hS
      have J204 : ∀ (x1 : Int32) (x3 : Int32) (x5 : Int32) (x6 : Int32) (x7 : Int32) (x9 : Int32) (t1 : Int32) (t2 : Int32) (t3 : Int32) (fi : FI) (ar : AR) (ln : LN) (kc ks cells slots : Nat) (rd : Nat → Nat) (H : Heap) (locs : List Loc) (ls : Array Slot), FX0_directoryFault_204 K60 nf x1 x3 x5 x6 x7 x9 t1 t2 t3 fi ar ln = some (r, fi', ar', ln', kc, ks) → cells + kc ≤ KC → slots + ks ≤ KS → lv_has ls 11 [(0, .ref (ad (7))), (1, .int x1), (3, .int x3), (5, .int x5), (6, .int x6), (7, .int x7), (9, .int x9)] → va_P (gD g) vwCl (WC g ad rd ln fi ar) H → (∀ (ln : LN) (fi : FI) (ar : AR), va_D (AC ad rd0 s.heap.size) (WC g ad rd ln fi ar)) → va_S (AC ad rd0 s.heap.size) s.heap H locs → W p l e (headSpec (wx yX0_directoryFault cX0_directoryFault 11 (some .int)) ({ frames := 7, cells := KC, slots := KS, locals := 161 } : Room)).room s m ([.ref (ad (7)), .int p1, .int p2, .int p3] : List Value).toArray below meth c H locs cells slots (MQ below (QAi g ad (AC ad rd0 s.heap.size) r fi' ar' ln') ([.ref (ad (7)), .int p1, .int p2, .int p3] : List Value).toArray s KC KS (AC ad rd0 s.heap.size)) (F0 m 204 ls [.int t3, .int t2, .int t1, .ref (ad (7))]) := by
        intro x1 x3 x5 x6 x7 x9 t1 t2 t3 fi ar ln kc ks cells slots rd H locs ls hF hkc hks hl hP hD hS
        unfold FX0_directoryFault_204 at hF
        refine lv_iconst (v := (0 : Int32)) hx hb dX0_directoryFault_204 (by decide) ?_
        exact J205 (x1) (x3) (x5) (x6) (x7) (x9) (t1) (t2) (t3) (0 : Int32) _ _ _ _ _ _ _ _ _ _ _ hF hkc hks (lv_sub hl [0, 1, 2, 3, 4, 5, 6] rfl) hP hD hS
      have J171 : ∀ (x1 : Int32) (x3 : Int32) (x4 : Int32) (x6 : Int32) (x7 : Int32) (x9 : Int32) (t0 : Int32) (t1 : Int32) (fi : FI) (ar : AR) (ln : LN) (kc ks cells slots : Nat) (rd : Nat → Nat) (H : Heap) (locs : List Loc) (ls : Array Slot), FX0_directoryFault_171 K60 nf x1 x3 x4 x6 x7 x9 t0 t1 fi ar ln = some (r, fi', ar', ln', kc, ks) → cells + kc ≤ KC → slots + ks ≤ KS → lv_has ls 11 [(0, .ref (ad (7))), (1, .int x1), (3, .int x3), (4, .int x4), (6, .int x6), (7, .int x7), (9, .int x9)] → va_P (gD g) vwCl (WC g ad rd ln fi ar) H → (∀ (ln : LN) (fi : FI) (ar : AR), va_D (AC ad rd0 s.heap.size) (WC g ad rd ln fi ar)) → va_S (AC ad rd0 s.heap.size) s.heap H locs → W p l e (headSpec (wx yX0_directoryFault cX0_directoryFault 11 (some .int)) ({ frames := 7, cells := KC, slots := KS, locals := 161 } : Room)).room s m ([.ref (ad (7)), .int p1, .int p2, .int p3] : List Value).toArray below meth c H locs cells slots (MQ below (QAi g ad (AC ad rd0 s.heap.size) r fi' ar' ln') ([.ref (ad (7)), .int p1, .int p2, .int p3] : List Value).toArray s KC KS (AC ad rd0 s.heap.size)) (F0 m 171 ls [.int t1, .int t0]) := by
        intro x1 x3 x4 x6 x7 x9 t0 t1 fi ar ln kc ks cells slots rd H locs ls hF hkc hks hl hP hD hS
        unfold FX0_directoryFault_171 at hF
        refine lv_iadd hx hb dX0_directoryFault_171 ?_
        obtain ⟨x5_29, ex5_29⟩ : ∃ y : Int32, y = ((t0) + (t1)) := ⟨_, rfl⟩
        rw [← ex5_29]
        replace hF := bnd_of hF ex5_29
        refine lv_istore (lv' := [(5, .int (x5_29)), (0, .ref (ad (7))), (1, .int (x1)), (3, .int (x3)), (4, .int (x4)), (6, .int (x6)), (7, .int (x7)), (9, .int (x9))]) hx hb dX0_directoryFault_172 hl (by decide) rfl (fun ls hl => ?_)
        refine lv_aload_n hx hb dX0_directoryFault_174 rfl (lv_at hl 1 rfl) ?_
        refine lv_iload hx hb dX0_directoryFault_175 (lv_at hl 6 rfl) ?_
        replace hF := obnd3_of hF
        obtain ⟨r33, fi31, ar32, h30, hF⟩ := hF
        refine cC_i (As := [.int (x7)]) (rest := []) hx hb hml hT hown hK hE (hD _) hA hP hS (rcv_X0 hK hP) (kX0_timesAsTold l g ad rd _ nf ln fi ar (x7) r33 fi31 ar32 h30) cw_X0_timesAsTold mw24_19 ⟨⟨rfl, rfl⟩, Nat.le_of_ble_eq_true rfl, Nat.le_of_ble_eq_true rfl⟩ rfl hl.1 rfl (Nat.le_of_ble_eq_true rfl) dX0_directoryFault_177 ⟨by show _ ≤ KC; omega, by show _ ≤ KS; omega⟩ (fun H locs hP hS => ?_)
        refine lv_if_eq (tgt := 211) hx hb dX0_directoryFault_180 (by decide) (fun hc34 => ?_) (fun hc34 => ?_)
        · replace hF := br_yes hF hc34
          refine lv_iconst (v := (4 : Int32)) hx hb dX0_directoryFault_211 (by decide) ?_
          exact J212 (x1) (x3) (x5_29) (x6) (x7) (x9) (4 : Int32) _ _ _ _ _ _ _ _ _ _ _ hF hkc hks (lv_sub hl [1, 2, 3, 0, 5, 6, 7] rfl) hP hD hS
        · replace hF := br_no hF hc34
          refine lv_aload_n hx hb dX0_directoryFault_183 rfl (lv_at hl 1 rfl) ?_
          refine lv_iload hx hb dX0_directoryFault_184 (lv_at hl 5 rfl) ?_
          refine lv_iload hx hb dX0_directoryFault_186 (lv_at hl 6 rfl) ?_
          refine lv_iload hx hb dX0_directoryFault_188 (lv_at hl 4 rfl) ?_
          refine lv_iload_n hx hb dX0_directoryFault_190 rfl (lv_at hl 3 rfl) ?_
          refine lv_if_eq (tgt := 204) hx hb dX0_directoryFault_191 (by decide) (fun hc35 => ?_) (fun hc35 => ?_)
          · replace hF := br_yes hF hc35
            exact J204 (x1) (x3) (x5_29) (x6) (x7) (x9) (x6) (x7) (x4) _ _ _ _ _ _ _ _ _ _ _ hF hkc hks (lv_sub hl [1, 2, 3, 0, 5, 6, 7] rfl) hP hD hS
          · replace hF := br_no hF hc35
            refine lv_iload hx hb dX0_directoryFault_194 (lv_at hl 0 rfl) ?_
            refine lv_iconst (v := (2 : Int32)) hx hb dX0_directoryFault_196 (by decide) ?_
            refine lv_icmp_ge (tgt := 204) hx hb dX0_directoryFault_197 (by decide) (fun hc36 => ?_) (fun hc36 => ?_)
            · replace hF := br_yes hF hc36
              exact J204 (x1) (x3) (x5_29) (x6) (x7) (x9) (x6) (x7) (x4) _ _ _ _ _ _ _ _ _ _ _ hF hkc hks (lv_sub hl [1, 2, 3, 0, 5, 6, 7] rfl) hP hD hS
            · replace hF := br_no hF hc36
              refine lv_iconst (v := (1 : Int32)) hx hb dX0_directoryFault_200 (by decide) ?_
              refine lv_goto (tgt := 205) hx hb dX0_directoryFault_201 (by decide) ?_
              exact J205 (x1) (x3) (x5_29) (x6) (x7) (x9) (x6) (x7) (x4) (1 : Int32) _ _ _ _ _ _ _ _ _ _ _ hF hkc hks (lv_sub hl [1, 2, 3, 0, 5, 6, 7] rfl) hP hD hS
      have J129 : ∀ (x1 : Int32) (x3 : Int32) (x4 : Int32) (x5 : Int32) (x6 : Int32) (x7 : Int32) (x8 : Int32) (x9 : Int32) (fi : FI) (ar : AR) (ln : LN) (kc ks cells slots : Nat) (rd : Nat → Nat) (H : Heap) (locs : List Loc) (ls : Array Slot), FX0_directoryFault_129 K60 nf x1 x3 x4 x5 x6 x7 x8 x9 fi ar ln = some (r, fi', ar', ln', kc, ks) → cells + kc ≤ KC → slots + ks ≤ KS → lv_has ls 11 [(0, .ref (ad (7))), (1, .int x1), (3, .int x3), (4, .int x4), (5, .int x5), (6, .int x6), (7, .int x7), (8, .int x8), (9, .int x9)] → va_P (gD g) vwCl (WC g ad rd ln fi ar) H → (∀ (ln : LN) (fi : FI) (ar : AR), va_D (AC ad rd0 s.heap.size) (WC g ad rd ln fi ar)) → va_S (AC ad rd0 s.heap.size) s.heap H locs → W p l e (headSpec (wx yX0_directoryFault cX0_directoryFault 11 (some .int)) ({ frames := 7, cells := KC, slots := KS, locals := 161 } : Room)).room s m ([.ref (ad (7)), .int p1, .int p2, .int p3] : List Value).toArray below meth c H locs cells slots (MQ below (QAi g ad (AC ad rd0 s.heap.size) r fi' ar' ln') ([.ref (ad (7)), .int p1, .int p2, .int p3] : List Value).toArray s KC KS (AC ad rd0 s.heap.size)) (F0 m 129 ls []) := by
        intro x1 x3 x4 x5 x6 x7 x8 x9 fi ar ln kc ks cells slots rd H locs ls hF hkc hks hl hP hD hS
        unfold FX0_directoryFault_129 at hF
        refine lv_iload hx hb dX0_directoryFault_129 (lv_at hl 7 rfl) ?_
        refine lv_sipush (v := (229 : Int32)) hx hb dX0_directoryFault_131 (by decide) ?_
        refine lv_icmp_ne (tgt := 140) hx hb dX0_directoryFault_134 (by decide) (fun hc37 => ?_) (fun hc37 => ?_)
        · replace hF := br_no hF hc37
          refine lv_iload hx hb dX0_directoryFault_140 (lv_at hl 8 rfl) ?_
          refine lv_bipush (v := (63 : Int32)) hx hb dX0_directoryFault_142 (by decide) ?_
          refine lv_iand hx hb dX0_directoryFault_144 ?_
          refine lv_bipush (v := (15 : Int32)) hx hb dX0_directoryFault_145 (by decide) ?_
          refine lv_icmp_ne (tgt := 156) hx hb dX0_directoryFault_147 (by decide) (fun hc38 => ?_) (fun hc38 => ?_)
          · replace hF := br_no hF hc38
            refine lv_iload hx hb dX0_directoryFault_156 (lv_at hl 4 rfl) ?_
            refine lv_iload hx hb dX0_directoryFault_158 (lv_at hl 8 rfl) ?_
            refine lv_bipush (v := (8 : Int32)) hx hb dX0_directoryFault_160 (by decide) ?_
            refine lv_iand hx hb dX0_directoryFault_162 ?_
            refine lv_if_eq (tgt := 170) hx hb dX0_directoryFault_163 (by decide) (fun hc39 => ?_) (fun hc39 => ?_)
            · replace hF := br_yes hF hc39
              refine lv_iconst (v := (0 : Int32)) hx hb dX0_directoryFault_170 (by decide) ?_
              exact J171 (x1) (x3) (x4) (x6) (x7) (x9) (x5) (0 : Int32) _ _ _ _ _ _ _ _ _ _ _ hF hkc hks (lv_sub hl [0, 1, 2, 3, 5, 6, 8] rfl) hP hD hS
            · replace hF := br_no hF hc39
              refine lv_iconst (v := (1 : Int32)) hx hb dX0_directoryFault_166 (by decide) ?_
              refine lv_goto (tgt := 171) hx hb dX0_directoryFault_167 (by decide) ?_
              exact J171 (x1) (x3) (x4) (x6) (x7) (x9) (x5) (1 : Int32) _ _ _ _ _ _ _ _ _ _ _ hF hkc hks (lv_sub hl [0, 1, 2, 3, 5, 6, 8] rfl) hP hD hS
          · replace hF := br_yes hF hc38
            obtain ⟨x4_40, ex4_40⟩ : ∃ y : Int32, y = (x4) + (1 : Int32) := ⟨_, rfl⟩
            replace hF := bnd_of hF ex4_40
            refine lv_iinc (v := x4_40) (lv' := [(4, .int (x4_40)), (0, .ref (ad (7))), (1, .int (x1)), (3, .int (x3)), (5, .int (x5)), (6, .int (x6)), (7, .int (x7)), (8, .int (x8)), (9, .int (x9))]) hx hb dX0_directoryFault_150 hl (k := 3) rfl (by rw [ex4_40]; rfl) (by decide) rfl (fun ls hl => ?_)
            refine lv_goto (tgt := 269) hx hb dX0_directoryFault_153 (by decide) ?_
            exact J269 (x1) (x3) (x4_40) (x5) (x6) _ _ _ _ _ _ _ _ _ _ _ hF hkc hks (lv_sub hl [1, 2, 3, 0, 4, 5] rfl) hP hD hS
        · replace hF := br_yes hF hc37
          refine lv_goto (tgt := 269) hx hb dX0_directoryFault_137 (by decide) ?_
          exact J269 (x1) (x3) (x4) (x5) (x6) _ _ _ _ _ _ _ _ _ _ _ hF hkc hks (lv_sub hl [0, 1, 2, 3, 4, 5] rfl) hP hD hS
      unfold FX0_directoryFault_60b at hF
      refine lv_iload hx hb dX0_directoryFault_60 (lv_at hl 5 rfl) ?_
      refine lv_aload_n hx hb dX0_directoryFault_62 rfl (lv_at hl 0 rfl) ?_
      refine cg_X0_directory hx hb hT hown hK hP mw4_16 dX0_directoryFault_63 ?_
      refine cg_X2_slots (by decide) hx hb hT hown hK hP mw23_3 dX0_directoryFault_66 ?_
      refine lv_icmp_ge (tgt := 275) hx hb dX0_directoryFault_69 (by decide) (fun hc41 => ?_) (fun hc41 => ?_)
      · replace hF := br_yes hF hc41
        exact J275 (x4) _ _ _ _ _ _ _ _ _ _ _ hF hkc hks (lv_sub hl [0, 3] rfl) hP hD hS
      · replace hF := br_no hF hc41
        refine lv_aload_n hx hb dX0_directoryFault_72 rfl (lv_at hl 0 rfl) ?_
        refine cg_X0_directory hx hb hT hown hK hP mw4_16 dX0_directoryFault_73 ?_
        refine lv_iload hx hb dX0_directoryFault_76 (lv_at hl 5 rfl) ?_
        replace hF := obnd3_of hF
        obtain ⟨r45, fi43, ar44, h42, hF⟩ := hF
        refine cC_i (As := [.int (x6)]) (rest := []) hx hb hml hT hown hK hE (hD _) hA hP hS (rcv_X2 (by decide) hK hP) (kX2_slotAddress l g ad rd _ nf ln 2 (by decide) fi ar (x6) r45 fi43 ar44 h42) cw_X2_slotAddress mw24_9 ⟨⟨rfl, rfl⟩, Nat.le_of_ble_eq_true rfl, Nat.le_of_ble_eq_true rfl⟩ rfl hl.1 rfl (Nat.le_of_ble_eq_true rfl) dX0_directoryFault_78 ⟨by show _ ≤ KC; omega, by show _ ≤ KS; omega⟩ (fun H locs hP hS => ?_)
        refine lv_istore (lv' := [(7, .int (r45)), (0, .ref (ad (7))), (1, .int (x1)), (3, .int (x3)), (4, .int (x4)), (5, .int (x5)), (6, .int (x6))]) hx hb dX0_directoryFault_81 hl (by decide) rfl (fun ls hl => ?_)
        refine lv_aload_n hx hb dX0_directoryFault_83 rfl (lv_at hl 1 rfl) ?_
        refine cg_X0_disk hx hb hT hown hK hP mw4_14 dX0_directoryFault_84 ?_
        refine lv_iload hx hb dX0_directoryFault_87 (lv_at hl 0 rfl) ?_
        replace hF := obnd3_of hF
        obtain ⟨r49, fi47, ar48, h46, hF⟩ := hF
        refine cC_i (As := [.int (r45)]) (rest := []) hx hb hml hT hown hK hE (hD _) hA hP hS (rcv_X3 hK hP) (kX3_one l g ad rd _ nf ln fi43 ar44 (r45) r49 fi47 ar48 h46) cw_X3_one mw24_13 ⟨⟨rfl, rfl⟩, Nat.le_of_ble_eq_true rfl, Nat.le_of_ble_eq_true rfl⟩ rfl hl.1 rfl (Nat.le_of_ble_eq_true rfl) dX0_directoryFault_89 ⟨by show _ ≤ KC; omega, by show _ ≤ KS; omega⟩ (fun H locs hP hS => ?_)
        refine lv_istore (lv' := [(8, .int (r49)), (7, .int (r45)), (0, .ref (ad (7))), (1, .int (x1)), (3, .int (x3)), (4, .int (x4)), (5, .int (x5)), (6, .int (x6))]) hx hb dX0_directoryFault_92 hl (by decide) rfl (fun ls hl => ?_)
        refine lv_aload_n hx hb dX0_directoryFault_94 rfl (lv_at hl 2 rfl) ?_
        refine cg_X0_disk hx hb hT hown hK hP mw4_14 dX0_directoryFault_95 ?_
        refine lv_iload hx hb dX0_directoryFault_98 (lv_at hl 1 rfl) ?_
        refine lv_bipush (v := (11 : Int32)) hx hb dX0_directoryFault_100 (by decide) ?_
        refine lv_iadd hx hb dX0_directoryFault_102 ?_
        replace hF := obnd3_of hF
        obtain ⟨r53, fi51, ar52, h50, hF⟩ := hF
        refine cC_i (As := [.int ((r45) + (11 : Int32))]) (rest := []) hx hb hml hT hown hK hE (hD _) hA hP hS (rcv_X3 hK hP) (kX3_one l g ad rd _ nf ln fi47 ar48 ((r45) + (11 : Int32)) r53 fi51 ar52 h50) cw_X3_one mw24_13 ⟨⟨rfl, rfl⟩, Nat.le_of_ble_eq_true rfl, Nat.le_of_ble_eq_true rfl⟩ rfl hl.1 rfl (Nat.le_of_ble_eq_true rfl) dX0_directoryFault_103 ⟨by show _ ≤ KC; omega, by show _ ≤ KS; omega⟩ (fun H locs hP hS => ?_)
        refine lv_istore (lv' := [(9, .int (r53)), (8, .int (r49)), (7, .int (r45)), (0, .ref (ad (7))), (1, .int (x1)), (3, .int (x3)), (4, .int (x4)), (5, .int (x5)), (6, .int (x6))]) hx hb dX0_directoryFault_106 hl (by decide) rfl (fun ls hl => ?_)
        refine lv_iload hx hb dX0_directoryFault_108 (lv_at hl 1 rfl) ?_
        refine lv_if_eq (tgt := 275) hx hb dX0_directoryFault_110 (by decide) (fun hc54 => ?_) (fun hc54 => ?_)
        · replace hF := br_yes hF hc54
          exact J275 (x4) _ _ _ _ _ _ _ _ _ _ _ hF hkc hks (lv_sub hl [3, 6] rfl) hP hD hS
        · replace hF := br_no hF hc54
          refine lv_iload hx hb dX0_directoryFault_113 (lv_at hl 1 rfl) ?_
          refine lv_sipush (v := (229 : Int32)) hx hb dX0_directoryFault_115 (by decide) ?_
          refine lv_icmp_ne (tgt := 129) hx hb dX0_directoryFault_118 (by decide) (fun hc55 => ?_) (fun hc55 => ?_)
          · replace hF := br_no hF hc55
            exact J129 (x1) (x3) (x4) (x5) (x6) (r45) (r49) (r53) _ _ _ _ _ _ _ _ _ _ _ hF hkc hks (lv_sub hl [3, 4, 5, 6, 7, 8, 2, 1, 0] rfl) hP hD hS
          · replace hF := br_yes hF hc55
            refine lv_iload hx hb dX0_directoryFault_121 (lv_at hl 6 rfl) ?_
            refine lv_if_le (tgt := 129) hx hb dX0_directoryFault_123 (by decide) (fun hc56 => ?_) (fun hc56 => ?_)
            · replace hF := br_yes hF hc56
              exact J129 (x1) (x3) (x4) (x5) (x6) (r45) (r49) (r53) _ _ _ _ _ _ _ _ _ _ _ hF hkc hks (lv_sub hl [3, 4, 5, 6, 7, 8, 2, 1, 0] rfl) hP hD hS
            · replace hF := br_no hF hc56
              refine lv_goto (tgt := 275) hx hb dX0_directoryFault_126 (by decide) ?_
              exact J275 (x4) _ _ _ _ _ _ _ _ _ _ _ hF hkc hks (lv_sub hl [3, 6] rfl) hP hD hS
  have J58 : ∀ (x1 : Int32) (x3 : Int32) (x4 : Int32) (x5 : Int32) (t0 : Int32) (fi : FI) (ar : AR) (ln : LN) (kc ks cells slots : Nat) (rd : Nat → Nat) (H : Heap) (locs : List Loc) (ls : Array Slot), FX0_directoryFault_58 nf x1 x3 x4 x5 t0 fi ar ln = some (r, fi', ar', ln', kc, ks) → cells + kc ≤ KC → slots + ks ≤ KS → lv_has ls 11 [(0, .ref (ad (7))), (1, .int x1), (3, .int x3), (4, .int x4), (5, .int x5)] → va_P (gD g) vwCl (WC g ad rd ln fi ar) H → (∀ (ln : LN) (fi : FI) (ar : AR), va_D (AC ad rd0 s.heap.size) (WC g ad rd ln fi ar)) → va_S (AC ad rd0 s.heap.size) s.heap H locs → W p l e (headSpec (wx yX0_directoryFault cX0_directoryFault 11 (some .int)) ({ frames := 7, cells := KC, slots := KS, locals := 161 } : Room)).room s m ([.ref (ad (7)), .int p1, .int p2, .int p3] : List Value).toArray below meth c H locs cells slots (MQ below (QAi g ad (AC ad rd0 s.heap.size) r fi' ar' ln') ([.ref (ad (7)), .int p1, .int p2, .int p3] : List Value).toArray s KC KS (AC ad rd0 s.heap.size)) (F0 m 58 ls [.int t0]) := by
    intro x1 x3 x4 x5 t0 fi ar ln kc ks cells slots rd H locs ls hF hkc hks hl hP hD hS
    unfold FX0_directoryFault_58 at hF
    refine lv_istore (lv' := [(6, .int (t0)), (0, .ref (ad (7))), (1, .int (x1)), (3, .int (x3)), (4, .int (x4)), (5, .int (x5))]) hx hb dX0_directoryFault_58 hl (by decide) rfl (fun ls hl => ?_)
    exact L60 nf (x1) (x3) (x4) (x5) (t0) _ _ _ _ _ _ _ _ _ _ _ hF hkc hks (lv_sub hl [1, 2, 3, 4, 5, 0] rfl) hP hD hS
  have J43 : ∀ (x1 : Int32) (x3 : Int32) (fi : FI) (ar : AR) (ln : LN) (kc ks cells slots : Nat) (rd : Nat → Nat) (H : Heap) (locs : List Loc) (ls : Array Slot), FX0_directoryFault_43 nf x1 x3 fi ar ln = some (r, fi', ar', ln', kc, ks) → cells + kc ≤ KC → slots + ks ≤ KS → lv_has ls 11 [(0, .ref (ad (7))), (1, .int x1), (3, .int x3)] → va_P (gD g) vwCl (WC g ad rd ln fi ar) H → (∀ (ln : LN) (fi : FI) (ar : AR), va_D (AC ad rd0 s.heap.size) (WC g ad rd ln fi ar)) → va_S (AC ad rd0 s.heap.size) s.heap H locs → W p l e (headSpec (wx yX0_directoryFault cX0_directoryFault 11 (some .int)) ({ frames := 7, cells := KC, slots := KS, locals := 161 } : Room)).room s m ([.ref (ad (7)), .int p1, .int p2, .int p3] : List Value).toArray below meth c H locs cells slots (MQ below (QAi g ad (AC ad rd0 s.heap.size) r fi' ar' ln') ([.ref (ad (7)), .int p1, .int p2, .int p3] : List Value).toArray s KC KS (AC ad rd0 s.heap.size)) (F0 m 43 ls []) := by
    intro x1 x3 fi ar ln kc ks cells slots rd H locs ls hF hkc hks hl hP hD hS
    unfold FX0_directoryFault_43 at hF
    refine lv_iconst (v := (0 : Int32)) hx hb dX0_directoryFault_43 (by decide) ?_
    refine lv_istore (lv' := [(4, .int (0 : Int32)), (0, .ref (ad (7))), (1, .int (x1)), (3, .int (x3))]) hx hb dX0_directoryFault_44 hl (by decide) rfl (fun ls hl => ?_)
    refine lv_iconst (v := (0 : Int32)) hx hb dX0_directoryFault_46 (by decide) ?_
    refine lv_istore (lv' := [(5, .int (0 : Int32)), (4, .int (0 : Int32)), (0, .ref (ad (7))), (1, .int (x1)), (3, .int (x3))]) hx hb dX0_directoryFault_47 hl (by decide) rfl (fun ls hl => ?_)
    refine lv_iload_n hx hb dX0_directoryFault_49 rfl (lv_at hl 4 rfl) ?_
    refine lv_if_eq (tgt := 57) hx hb dX0_directoryFault_50 (by decide) (fun hc57 => ?_) (fun hc57 => ?_)
    · replace hF := br_yes hF hc57
      refine lv_iconst (v := (2 : Int32)) hx hb dX0_directoryFault_57 (by decide) ?_
      exact J58 (x1) (x3) (0 : Int32) (0 : Int32) (2 : Int32) _ _ _ _ _ _ _ _ _ _ _ hF hkc hks (lv_sub hl [2, 3, 4, 1, 0] rfl) hP hD hS
    · replace hF := br_no hF hc57
      refine lv_iconst (v := (0 : Int32)) hx hb dX0_directoryFault_53 (by decide) ?_
      refine lv_goto (tgt := 58) hx hb dX0_directoryFault_54 (by decide) ?_
      exact J58 (x1) (x3) (0 : Int32) (0 : Int32) (0 : Int32) _ _ _ _ _ _ _ _ _ _ _ hF hkc hks (lv_sub hl [2, 3, 4, 1, 0] rfl) hP hD hS
  have J41 : ∀  (fi : FI) (ar : AR) (ln : LN) (kc ks cells slots : Nat) (rd : Nat → Nat) (H : Heap) (locs : List Loc) (ls : Array Slot), FX0_directoryFault_41 nf fi ar ln = some (r, fi', ar', ln', kc, ks) → cells + kc ≤ KC → slots + ks ≤ KS → lv_has ls 11 [(0, .ref (ad (7)))] → va_P (gD g) vwCl (WC g ad rd ln fi ar) H → (∀ (ln : LN) (fi : FI) (ar : AR), va_D (AC ad rd0 s.heap.size) (WC g ad rd ln fi ar)) → va_S (AC ad rd0 s.heap.size) s.heap H locs → W p l e (headSpec (wx yX0_directoryFault cX0_directoryFault 11 (some .int)) ({ frames := 7, cells := KC, slots := KS, locals := 161 } : Room)).room s m ([.ref (ad (7)), .int p1, .int p2, .int p3] : List Value).toArray below meth c H locs cells slots (MQ below (QAi g ad (AC ad rd0 s.heap.size) r fi' ar' ln') ([.ref (ad (7)), .int p1, .int p2, .int p3] : List Value).toArray s KC KS (AC ad rd0 s.heap.size)) (F0 m 41 ls []) := by
    intro fi ar ln kc ks cells slots rd H locs ls hF hkc hks hl hP hD hS
    unfold FX0_directoryFault_41 at hF
    refine lv_iconst (v := (4 : Int32)) hx hb dX0_directoryFault_41 (by decide) ?_
    refine W.widen (k := KC) (n := KS) (by omega) (by omega) ?_
    exact rA_i hx hb hr hlocks hF hP hD hS dX0_directoryFault_42
  replace hl := lv_sub hl [0, 1, 2, 3] rfl
  obtain ⟨cells, ecells⟩ : ∃ z : Nat, z = 0 := ⟨_, rfl⟩
  obtain ⟨slots, eslots⟩ : ∃ z : Nat, z = 0 := ⟨_, rfl⟩
  obtain ⟨kc, ekc⟩ : ∃ z : Nat, z = KC := ⟨_, rfl⟩
  obtain ⟨ks, eks⟩ : ∃ z : Nat, z = KS := ⟨_, rfl⟩
  have hkc : cells + kc ≤ KC := by omega
  have hks : slots + ks ≤ KS := by omega
  replace hF := kcks_of hF ekc eks
  suffices hgo : W p l e (headSpec (wx yX0_directoryFault cX0_directoryFault 11 (some .int)) ({ frames := 7, cells := KC, slots := KS, locals := 161 } : Room)).room s m ([.ref (ad (7)), .int p1, .int p2, .int p3] : List Value).toArray below meth c s.heap [] cells slots (MQ below (QAi g ad (AC ad rd0 s.heap.size) r fi' ar' ln') ([.ref (ad (7)), .int p1, .int p2, .int p3] : List Value).toArray s KC KS (AC ad rd0 s.heap.size)) (F0 m 0 ls []) by rw [ecells, eslots] at hgo; exact hgo
  obtain ⟨rd, erd⟩ : ∃ z : Nat → Nat, z = rd0 := ⟨_, rfl⟩
  have hP : va_P (gD g) vwCl (WC g ad rd ln fi ar) s.heap := by rw [erd]; exact hP
  have hD : ∀ (ln : LN) (fi : FI) (ar : AR), va_D (AC ad rd0 s.heap.size) (WC g ad rd ln fi ar) := by rw [erd]; exact hD
  clear erd
  refine lv_aload_n hx hb dX0_directoryFault_0 rfl (lv_at hl 0 rfl) ?_
  refine lv_iload_n hx hb dX0_directoryFault_1 rfl (lv_at hl 1 rfl) ?_
  replace hF := obnd3_of hF
  obtain ⟨r61, fi59, ar60, h58, hF⟩ := hF
  refine cC_i (As := [.int (p1)]) (rest := []) hx hb hml hT hown hK hE (hD _) hA hP hS (rcv_X0 hK hP) (kX0_claimChain l g ad rd _ nf ln fi ar (p1) r61 fi59 ar60 h58) cw_X0_claimChain mw23_4 ⟨⟨rfl, rfl⟩, Nat.le_of_ble_eq_true rfl, Nat.le_of_ble_eq_true rfl⟩ rfl hl.1 rfl (Nat.le_of_ble_eq_true rfl) dX0_directoryFault_2 ⟨by show _ ≤ KC; omega, by show _ ≤ KS; omega⟩ (fun H locs hP hS => ?_)
  refine lv_iconst (v := (-1 : Int32)) hx hb dX0_directoryFault_5 (by decide) ?_
  refine lv_icmp_ne (tgt := 11) hx hb dX0_directoryFault_6 (by decide) (fun hc62 => ?_) (fun hc62 => ?_)
  · replace hF := br_no hF hc62
    refine lv_aload_n hx hb dX0_directoryFault_11 rfl (lv_at hl 0 rfl) ?_
    refine cg_X0_directory hx hb hT hown hK hP mw4_16 dX0_directoryFault_12 ?_
    refine lv_iload_n hx hb dX0_directoryFault_15 rfl (lv_at hl 1 rfl) ?_
    replace hF := obnd3_of hF
    obtain ⟨r66, fi64, ar65, h63, hF⟩ := hF
    refine cC_v (As := [.int (p1)]) (rest := []) hx hb hml hT hown hK hE (hD _) hA hP hS (rcv_X2 (by decide) hK hP) (kX2_openChain l g ad rd _ nf ln 2 (by decide) fi59 ar60 (p1) r66 fi64 ar65 h63) cw_X2_openChain mw23_12 ⟨⟨rfl, rfl⟩, Nat.le_of_ble_eq_true rfl, Nat.le_of_ble_eq_true rfl⟩ rfl hl.1 rfl (Nat.le_of_ble_eq_true rfl) dX0_directoryFault_16 ⟨by show _ ≤ KC; omega, by show _ ≤ KS; omega⟩ (fun H locs hP hS => ?_)
    refine lv_iload_n hx hb dX0_directoryFault_19 rfl (lv_at hl 3 rfl) ?_
    refine lv_if_ne (tgt := 43) hx hb dX0_directoryFault_20 (by decide) (fun hc67 => ?_) (fun hc67 => ?_)
    · replace hF := br_no hF hc67
      exact J43 (p1) (p3) _ _ _ _ _ _ _ _ _ _ _ hF hkc hks (lv_sub hl [0, 1, 3] rfl) hP hD hS
    · replace hF := br_yes hF hc67
      refine lv_aload_n hx hb dX0_directoryFault_23 rfl (lv_at hl 0 rfl) ?_
      refine lv_iconst (v := (0 : Int32)) hx hb dX0_directoryFault_24 (by decide) ?_
      refine lv_iload_n hx hb dX0_directoryFault_25 rfl (lv_at hl 1 rfl) ?_
      replace hF := obnd3_of hF
      obtain ⟨r71, fi69, ar70, h68, hF⟩ := hF
      refine cC_i (As := [.int (0 : Int32), .int (p1)]) (rest := []) hx hb hml hT hown hK hE (hD _) hA hP hS (rcv_X0 hK hP) (kX0_pointsAsTold l g ad rd _ nf ln fi64 ar65 (0 : Int32) (p1) r71 fi69 ar70 h68) cw_X0_pointsAsTold mw24_5 ⟨⟨rfl, rfl⟩, Nat.le_of_ble_eq_true rfl, Nat.le_of_ble_eq_true rfl⟩ rfl hl.1 rfl (Nat.le_of_ble_eq_true rfl) dX0_directoryFault_26 ⟨by show _ ≤ KC; omega, by show _ ≤ KS; omega⟩ (fun H locs hP hS => ?_)
      refine lv_if_eq (tgt := 41) hx hb dX0_directoryFault_29 (by decide) (fun hc72 => ?_) (fun hc72 => ?_)
      · replace hF := br_yes hF hc72
        exact J41  _ _ _ _ _ _ _ _ _ _ _ hF hkc hks (lv_sub hl [0] rfl) hP hD hS
      · replace hF := br_no hF hc72
        refine lv_aload_n hx hb dX0_directoryFault_32 rfl (lv_at hl 0 rfl) ?_
        refine lv_iconst (v := (1 : Int32)) hx hb dX0_directoryFault_33 (by decide) ?_
        refine lv_iload_n hx hb dX0_directoryFault_34 rfl (lv_at hl 2 rfl) ?_
        replace hF := obnd3_of hF
        obtain ⟨r76, fi74, ar75, h73, hF⟩ := hF
        refine cC_i (As := [.int (1 : Int32), .int (p2)]) (rest := []) hx hb hml hT hown hK hE (hD _) hA hP hS (rcv_X0 hK hP) (kX0_pointsAsTold l g ad rd _ nf ln fi69 ar70 (1 : Int32) (p2) r76 fi74 ar75 h73) cw_X0_pointsAsTold mw24_5 ⟨⟨rfl, rfl⟩, Nat.le_of_ble_eq_true rfl, Nat.le_of_ble_eq_true rfl⟩ rfl hl.1 rfl (Nat.le_of_ble_eq_true rfl) dX0_directoryFault_35 ⟨by show _ ≤ KC; omega, by show _ ≤ KS; omega⟩ (fun H locs hP hS => ?_)
        refine lv_if_ne (tgt := 43) hx hb dX0_directoryFault_38 (by decide) (fun hc77 => ?_) (fun hc77 => ?_)
        · replace hF := br_no hF hc77
          exact J43 (p1) (p3) _ _ _ _ _ _ _ _ _ _ _ hF hkc hks (lv_sub hl [0, 1, 3] rfl) hP hD hS
        · replace hF := br_yes hF hc77
          exact J41  _ _ _ _ _ _ _ _ _ _ _ hF hkc hks (lv_sub hl [0] rfl) hP hD hS
  · replace hF := br_yes hF hc62
    refine lv_iconst (v := (3 : Int32)) hx hb dX0_directoryFault_9 (by decide) ?_
    refine W.widen (k := KC) (n := KS) (by omega) (by omega) ?_
    exact rA_i hx hb hr hlocks hF hP hD hS dX0_directoryFault_10
theorem cw_X0_directoryFault : (Cond.instanceMethod yX0_directoryFault ∈ TB ∧ Cond.selects RX0 yX0_directoryFault yX0_directoryFault ∈ TB ∧ Cond.code yX0_directoryFault cX0_directoryFault 11 (some .int) ∈ TB ∧ Cond.initialized RX0 ∈ TB) ∧ (yX0_directoryFault.cls = RX0 ∧ yX0_directoryFault.cls ≠ "java/lang/invoke/MethodHandle" ∧ yX0_directoryFault.cls ≠ "java/lang/invoke/VarHandle" ∧ (parseMethodDescriptor yX0_directoryFault.desc).map (fun d => d.parameters.length) = some 3) := ⟨⟨mw23_0, mw23_1, mw23_2, mw2_14⟩, by decide +kernel⟩
/-! X0_firstFault -/
noncomputable def FX0_firstFault_126 (nf : Nat) (t0 : Int32) (fi : FI) (ar : AR) (ln : LN) : Option (Int32 × FI × AR × LN × Nat × Nat) :=
  some ((t0), fi, ar, ln, 0, 0)
noncomputable def FX0_firstFault_97 (K67 : Int32 → FI → AR → LN → Option (Int32 × FI × AR × LN × Nat × Nat)) (nf : Nat) (x1 : Int32) (t1 : Int32) (t2 : Int32) (t3 : Int32) (fi : FI) (ar : AR) (ln : LN) : Option (Int32 × FI × AR × LN × Nat × Nat) :=
  obnd6 (FX0_directoryFault nf fi ar ln (t1) (t2) (t3)) fun r5 fi2 ar3 ln4 kc6 ks7 => addc (kc6) (ks7) (br ((r5) = 0) (bnd ((x1) + (1 : Int32)) fun x1_12 => K67 (x1_12) fi2 ar3 ln4) (some ((r5), fi2, ar3, ln4, 0, 0)))
noncomputable def FX0_firstFault_67b (K67 : Int32 → FI → AR → LN → Option (Int32 × FI × AR × LN × Nat × Nat)) (nf : Nat) (x1 : Int32) (fi : FI) (ar : AR) (ln : LN) : Option (Int32 × FI × AR × LN × Nat × Nat) :=
  br ((fi (11)) ≤ (x1)) (obnd3 (FX0_hasLostCluster nf ln fi ar) fun r17 fi15 ar16 => br ((r17) = 0) (FX0_firstFault_126 nf  (0 : Int32) fi15 ar16 ln) (FX0_firstFault_126 nf  (6 : Int32) fi15 ar16 ln)) (gd (¬ ((x1) < 0 ∨ ln (4) ≤ (x1).toNatClampNeg)) (gd (¬ ((x1) < 0 ∨ ln (5) ≤ (x1).toNatClampNeg)) (br ((x1) = 0) (FX0_firstFault_97 K67 nf  (x1) (ar (4) (x1).toNatClampNeg) (ar (5) (x1).toNatClampNeg) (1 : Int32) fi ar ln) (FX0_firstFault_97 K67 nf  (x1) (ar (4) (x1).toNatClampNeg) (ar (5) (x1).toNatClampNeg) (0 : Int32) fi ar ln))))
noncomputable def FX0_firstFault_67 (nf : Nat) (kf : Nat) : Int32 → FI → AR → LN → Option (Int32 × FI × AR × LN × Nat × Nat) := Nat.rec (fun _ _ _ _ => none) (fun _ K67 => FX0_firstFault_67b K67 nf) kf
noncomputable def FX0_firstFault_26b (K26 : Int32 → FI → AR → LN → Option (Int32 × FI × AR × LN × Nat × Nat)) (nf : Nat) (x1 : Int32) (fi : FI) (ar : AR) (ln : LN) : Option (Int32 × FI × AR × LN × Nat × Nat) :=
  br ((Int32.ofNat (ln (3))) ≤ (x1)) (bnd (va_up fi (11) (0 : Int32)) fun fi23 => obnd3 (FX0_enqueue nf ln fi23 ar (fi23 (4)) (0 : Int32)) fun r27 fi25 ar26 => FX0_firstFault_67 nf nf (0 : Int32) fi25 ar26 ln) (gd (¬ ((x1) < 0 ∨ ln (3) ≤ (x1).toNatClampNeg)) (bnd (va_up ar (3) (upd (ar (3)) (x1).toNatClampNeg (vp_nar .boolean (0 : Int32)))) fun ar29 => bnd ((x1) + (1 : Int32)) fun x1_30 => K26 (x1_30) fi ar29 ln))
noncomputable def FX0_firstFault_26 (nf : Nat) (kf : Nat) : Int32 → FI → AR → LN → Option (Int32 × FI × AR × LN × Nat × Nat) := Nat.rec (fun _ _ _ _ => none) (fun _ K26 => FX0_firstFault_26b K26 nf) kf
noncomputable def FX0_firstFault (nf : Nat) (fi : FI) (ar : AR) (ln : LN)  : Option (Int32 × FI × AR × LN × Nat × Nat) :=
  obnd3 (FX9_readSectorZero nf ln fi ar) fun r34 fi32 ar33 => br ((r34) = 0) (some ((1 : Int32), fi32, ar33, ln, 0, 0)) (obnd3 (FX9_tablesAsTold nf ln fi32 ar33) fun r39 fi37 ar38 => br ((r39) = 0) (some ((2 : Int32), fi37, ar38, ln, 0, 0)) (FX0_firstFault_26 nf nf (0 : Int32) fi37 ar38 ln))
set_option maxHeartbeats 8000000 in
set_option maxRecDepth 100000 in
theorem kX0_firstFault (l : Launch) (g : GT) (ad rd0 : Nat → Nat) (sz : Nat) (nf : Nat) (fi : FI) (ar : AR) (ln : LN)  (r : Int32) (fi' : FI) (ar' : AR) (ln' : LN) (KC KS : Nat) (hF : FX0_firstFault nf fi ar ln  = some (r, fi', ar', ln', KC, KS)) : Met l yX0_firstFault (wx yX0_firstFault cX0_firstFault 3 (some .int)) ({ frames := 8, cells := KC, slots := KS, locals := 191 } : Room) (va_Pc [.ref (ad (7))] (PC g ad rd0 ln sz fi ar)) (QAi g ad (AC ad rd0 sz) r fi' ar' ln') KC KS (AC ad rd0 sz) := by
  refine Met.ofW (cc := cX0_firstFault) (maxL := 3) (ret := (some .int)) (by decide) rfl ?_
  intro p e s m args below meth c s₁ B hml hv
  obtain ⟨rfl, hsz, hP, hK, hD0, hE⟩ := hv
  have hx := B.exec
  have hb := B.bytes
  have hr := B.returns
  have hts := atoms_spec (ws := (wx yX0_firstFault cX0_firstFault 3 (some .int))) B.pre
  have hT : ∀ w ∈ TB, w.before _ s = true := fun w h => hts w (List.mem_cons_of_mem _ h)
  have hown : s.vm.findClass RX0 = some m.cls := findClass_of_methodNamed B.named
  have hlocks := B.notSynchronized
  subst hsz
  have hD : ∀ (ln : LN) (fi : FI) (ar : AR), va_D (AC ad rd0 s.heap.size) (WC g ad rd0 ln fi ar) := dCre (dC hD0 s.heap.size fi ar) (fun _ h => h)
  have hA : ∀ q : Nat, s.heap.size ≤ q → AC ad rd0 s.heap.size q := fun q h => Or.inr h
  have hS : va_S (AC ad rd0 s.heap.size) s.heap s.heap [] := va_S.rf
  have hl := lv_entry ([.ref (ad (7))]) (n := 3) (Nat.le_of_ble_eq_true rfl)
  rw [lg_entry_eq]
  generalize (lg_sl ([.ref (ad (7))]) ++ List.replicate (3 - (lg_sl ([.ref (ad (7))])).length) Slot.unset).toArray = ls at hl ⊢
  have hl : lv_has ls 3 [(0, .ref (ad (7)))] := hl
  unfold FX0_firstFault at hF
  have J126 : ∀ (t0 : Int32) (fi : FI) (ar : AR) (ln : LN) (kc ks cells slots : Nat) (rd : Nat → Nat) (H : Heap) (locs : List Loc) (ls : Array Slot), FX0_firstFault_126 nf t0 fi ar ln = some (r, fi', ar', ln', kc, ks) → cells + kc ≤ KC → slots + ks ≤ KS → lv_has ls 3 [(0, .ref (ad (7)))] → va_P (gD g) vwCl (WC g ad rd ln fi ar) H → (∀ (ln : LN) (fi : FI) (ar : AR), va_D (AC ad rd0 s.heap.size) (WC g ad rd ln fi ar)) → va_S (AC ad rd0 s.heap.size) s.heap H locs → W p l e (headSpec (wx yX0_firstFault cX0_firstFault 3 (some .int)) ({ frames := 8, cells := KC, slots := KS, locals := 191 } : Room)).room s m ([.ref (ad (7))] : List Value).toArray below meth c H locs cells slots (MQ below (QAi g ad (AC ad rd0 s.heap.size) r fi' ar' ln') ([.ref (ad (7))] : List Value).toArray s KC KS (AC ad rd0 s.heap.size)) (F0 m 126 ls [.int t0]) := by
    intro t0 fi ar ln kc ks cells slots rd H locs ls hF hkc hks hl hP hD hS
    unfold FX0_firstFault_126 at hF
    refine W.widen (k := KC) (n := KS) (by omega) (by omega) ?_
    exact rA_i hx hb hr hlocks hF hP hD hS dX0_firstFault_126
  have L67 : ∀ kf : Nat, ∀ (x1 : Int32) (fi : FI) (ar : AR) (ln : LN) (kc ks cells slots : Nat) (rd : Nat → Nat) (H : Heap) (locs : List Loc) (ls : Array Slot), FX0_firstFault_67 nf kf x1 fi ar ln = some (r, fi', ar', ln', kc, ks) → cells + kc ≤ KC → slots + ks ≤ KS → lv_has ls 3 [(0, .ref (ad (7))), (1, .int x1)] → va_P (gD g) vwCl (WC g ad rd ln fi ar) H → (∀ (ln : LN) (fi : FI) (ar : AR), va_D (AC ad rd0 s.heap.size) (WC g ad rd ln fi ar)) → va_S (AC ad rd0 s.heap.size) s.heap H locs → W p l e (headSpec (wx yX0_firstFault cX0_firstFault 3 (some .int)) ({ frames := 8, cells := KC, slots := KS, locals := 191 } : Room)).room s m ([.ref (ad (7))] : List Value).toArray below meth c H locs cells slots (MQ below (QAi g ad (AC ad rd0 s.heap.size) r fi' ar' ln') ([.ref (ad (7))] : List Value).toArray s KC KS (AC ad rd0 s.heap.size)) (F0 m 67 ls []) := by
    intro kf
    induction kf with
    | zero => intro x1 fi ar ln kc ks cells slots rd H locs ls hF hkc hks hl hP hD hS; cases (show (none : Option (Int32 × FI × AR × LN × Nat × Nat)) = _ from hF)
    | succ kf ih67 =>
      intro x1 fi ar ln kc ks cells slots rd H locs ls hF hkc hks hl hP hD hS
      obtain ⟨K67, hK67⟩ : ∃ K : Int32 → FI → AR → LN → Option (Int32 × FI × AR × LN × Nat × Nat), K = FX0_firstFault_67 nf kf := ⟨_, rfl⟩
      replace hF : FX0_firstFault_67b K67 nf x1 fi ar ln = some (r, fi', ar', ln', kc, ks) := by rw [hK67]; exact hF
      rw [← hK67] at ih67
      clear hK67
      have J97 : ∀ (x1 : Int32) (t1 : Int32) (t2 : Int32) (t3 : Int32) (fi : FI) (ar : AR) (ln : LN) (kc ks cells slots : Nat) (rd : Nat → Nat) (H : Heap) (locs : List Loc) (ls : Array Slot), FX0_firstFault_97 K67 nf x1 t1 t2 t3 fi ar ln = some (r, fi', ar', ln', kc, ks) → cells + kc ≤ KC → slots + ks ≤ KS → lv_has ls 3 [(0, .ref (ad (7))), (1, .int x1)] → va_P (gD g) vwCl (WC g ad rd ln fi ar) H → (∀ (ln : LN) (fi : FI) (ar : AR), va_D (AC ad rd0 s.heap.size) (WC g ad rd ln fi ar)) → va_S (AC ad rd0 s.heap.size) s.heap H locs → W p l e (headSpec (wx yX0_firstFault cX0_firstFault 3 (some .int)) ({ frames := 8, cells := KC, slots := KS, locals := 191 } : Room)).room s m ([.ref (ad (7))] : List Value).toArray below meth c H locs cells slots (MQ below (QAi g ad (AC ad rd0 s.heap.size) r fi' ar' ln') ([.ref (ad (7))] : List Value).toArray s KC KS (AC ad rd0 s.heap.size)) (F0 m 97 ls [.int t3, .int t2, .int t1, .ref (ad (7))]) := by
        intro x1 t1 t2 t3 fi ar ln kc ks cells slots rd H locs ls hF hkc hks hl hP hD hS
        unfold FX0_firstFault_97 at hF
        replace hF := obnd6_of hF
        obtain ⟨r5, fi2, ar3, ln4, kc6, ks7, h1, hF⟩ := hF
        replace hF := addc_of hF
        obtain ⟨kc8, ks9, e10c, e10s, hF⟩ := hF
        refine cA_i (As := [.int (t1), .int (t2), .int (t3)]) (rest := []) hx hb hml hT hown hK hE hD hA hP hS (rcv_X0 hK hP) (kX0_directoryFault l g ad rd _ nf fi ar ln (t1) (t2) (t3) r5 fi2 ar3 ln4 kc6 ks7 h1) cw_X0_directoryFault mw22_23 ⟨⟨rfl, rfl⟩, Nat.le_of_ble_eq_true rfl, Nat.le_of_ble_eq_true rfl⟩ rfl hl.1 rfl (Nat.le_of_ble_eq_true rfl) dX0_firstFault_97 ⟨by show _ ≤ KC; omega, by show _ ≤ KS; omega⟩ (fun rd H locs hP hD hS => ?_)
        replace hkc : cells + kc6 + kc8 ≤ KC := by omega
        replace hks : slots + ks7 + ks9 ≤ KS := by omega
        refine lv_istore_n (lv' := [(2, .int (r5)), (0, .ref (ad (7))), (1, .int (x1))]) hx hb dX0_firstFault_100 rfl hl (by decide) rfl (fun ls hl => ?_)
        refine lv_iload_n hx hb dX0_firstFault_101 rfl (lv_at hl 0 rfl) ?_
        refine lv_if_eq (tgt := 107) hx hb dX0_firstFault_102 (by decide) (fun hc11 => ?_) (fun hc11 => ?_)
        · replace hF := br_yes hF hc11
          obtain ⟨x1_12, ex1_12⟩ : ∃ y : Int32, y = (x1) + (1 : Int32) := ⟨_, rfl⟩
          replace hF := bnd_of hF ex1_12
          refine lv_iinc (v := x1_12) (lv' := [(1, .int (x1_12)), (2, .int (r5)), (0, .ref (ad (7)))]) hx hb dX0_firstFault_107 hl (k := 2) rfl (by rw [ex1_12]; rfl) (by decide) rfl (fun ls hl => ?_)
          refine lv_goto (tgt := 67) hx hb dX0_firstFault_110 (by decide) ?_
          exact ih67 (x1_12) _ _ _ _ _ _ _ _ _ _ _ hF hkc hks (lv_sub hl [2, 0] rfl) hP hD hS
        · replace hF := br_no hF hc11
          refine lv_iload_n hx hb dX0_firstFault_105 rfl (lv_at hl 0 rfl) ?_
          refine W.widen (k := KC) (n := KS) (by omega) (by omega) ?_
          exact rA_i hx hb hr hlocks hF hP hD hS dX0_firstFault_106
      unfold FX0_firstFault_67b at hF
      refine lv_iload_n hx hb dX0_firstFault_67 rfl (lv_at hl 1 rfl) ?_
      refine lv_aload_n hx hb dX0_firstFault_68 rfl (lv_at hl 0 rfl) ?_
      refine cg_X0_queued hx hb hT hown hK hP mw21_19 dX0_firstFault_69 ?_
      refine lv_icmp_ge (tgt := 113) hx hb dX0_firstFault_72 (by decide) (fun hc13 => ?_) (fun hc13 => ?_)
      · replace hF := br_yes hF hc13
        refine lv_aload_n hx hb dX0_firstFault_113 rfl (lv_at hl 0 rfl) ?_
        replace hF := obnd3_of hF
        obtain ⟨r17, fi15, ar16, h14, hF⟩ := hF
        refine cC_i (As := []) (rest := []) hx hb hml hT hown hK hE (hD _) hA hP hS (rcv_X0 hK hP) (kX0_hasLostCluster l g ad rd _ nf ln fi ar r17 fi15 ar16 h14) cw_X0_hasLostCluster mw30_21 ⟨⟨rfl, rfl⟩, Nat.le_of_ble_eq_true rfl, Nat.le_of_ble_eq_true rfl⟩ rfl hl.1 rfl (Nat.le_of_ble_eq_true rfl) dX0_firstFault_114 ⟨by show _ ≤ KC; omega, by show _ ≤ KS; omega⟩ (fun H locs hP hS => ?_)
        refine lv_if_eq (tgt := 125) hx hb dX0_firstFault_117 (by decide) (fun hc18 => ?_) (fun hc18 => ?_)
        · replace hF := br_yes hF hc18
          refine lv_iconst (v := (0 : Int32)) hx hb dX0_firstFault_125 (by decide) ?_
          exact J126 (0 : Int32) _ _ _ _ _ _ _ _ _ _ _ hF hkc hks (lv_sub hl [0] rfl) hP hD hS
        · replace hF := br_no hF hc18
          refine lv_bipush (v := (6 : Int32)) hx hb dX0_firstFault_120 (by decide) ?_
          refine lv_goto (tgt := 126) hx hb dX0_firstFault_122 (by decide) ?_
          exact J126 (6 : Int32) _ _ _ _ _ _ _ _ _ _ _ hF hkc hks (lv_sub hl [0] rfl) hP hD hS
      · replace hF := br_no hF hc13
        refine lv_aload_n hx hb dX0_firstFault_75 rfl (lv_at hl 0 rfl) ?_
        refine lv_aload_n hx hb dX0_firstFault_76 rfl (lv_at hl 0 rfl) ?_
        refine cg_X0_queue hx hb hT hown hK hP mw4_20 dX0_firstFault_77 ?_
        refine lv_iload_n hx hb dX0_firstFault_80 rfl (lv_at hl 1 rfl) ?_
        replace hF := gd_of hF
        obtain ⟨hi19, hF⟩ := hF
        refine cl_queue hx hb hK hP hi19 dX0_firstFault_81 ?_
        refine lv_aload_n hx hb dX0_firstFault_82 rfl (lv_at hl 0 rfl) ?_
        refine cg_X0_parents hx hb hT hown hK hP mw4_21 dX0_firstFault_83 ?_
        refine lv_iload_n hx hb dX0_firstFault_86 rfl (lv_at hl 1 rfl) ?_
        replace hF := gd_of hF
        obtain ⟨hi20, hF⟩ := hF
        refine cl_parents hx hb hK hP hi20 dX0_firstFault_87 ?_
        refine lv_iload_n hx hb dX0_firstFault_88 rfl (lv_at hl 1 rfl) ?_
        refine lv_if_ne (tgt := 96) hx hb dX0_firstFault_89 (by decide) (fun hc21 => ?_) (fun hc21 => ?_)
        · replace hF := br_no hF hc21
          refine lv_iconst (v := (0 : Int32)) hx hb dX0_firstFault_96 (by decide) ?_
          exact J97 (x1) (ar (4) (x1).toNatClampNeg) (ar (5) (x1).toNatClampNeg) (0 : Int32) _ _ _ _ _ _ _ _ _ _ _ hF hkc hks (lv_sub hl [0, 1] rfl) hP hD hS
        · replace hF := br_yes hF hc21
          refine lv_iconst (v := (1 : Int32)) hx hb dX0_firstFault_92 (by decide) ?_
          refine lv_goto (tgt := 97) hx hb dX0_firstFault_93 (by decide) ?_
          exact J97 (x1) (ar (4) (x1).toNatClampNeg) (ar (5) (x1).toNatClampNeg) (1 : Int32) _ _ _ _ _ _ _ _ _ _ _ hF hkc hks (lv_sub hl [0, 1] rfl) hP hD hS
  have L26 : ∀ kf : Nat, ∀ (x1 : Int32) (fi : FI) (ar : AR) (ln : LN) (kc ks cells slots : Nat) (rd : Nat → Nat) (H : Heap) (locs : List Loc) (ls : Array Slot), FX0_firstFault_26 nf kf x1 fi ar ln = some (r, fi', ar', ln', kc, ks) → cells + kc ≤ KC → slots + ks ≤ KS → lv_has ls 3 [(0, .ref (ad (7))), (1, .int x1)] → va_P (gD g) vwCl (WC g ad rd ln fi ar) H → (∀ (ln : LN) (fi : FI) (ar : AR), va_D (AC ad rd0 s.heap.size) (WC g ad rd ln fi ar)) → va_S (AC ad rd0 s.heap.size) s.heap H locs → W p l e (headSpec (wx yX0_firstFault cX0_firstFault 3 (some .int)) ({ frames := 8, cells := KC, slots := KS, locals := 191 } : Room)).room s m ([.ref (ad (7))] : List Value).toArray below meth c H locs cells slots (MQ below (QAi g ad (AC ad rd0 s.heap.size) r fi' ar' ln') ([.ref (ad (7))] : List Value).toArray s KC KS (AC ad rd0 s.heap.size)) (F0 m 26 ls []) := by
    intro kf
    induction kf with
    | zero => intro x1 fi ar ln kc ks cells slots rd H locs ls hF hkc hks hl hP hD hS; cases (show (none : Option (Int32 × FI × AR × LN × Nat × Nat)) = _ from hF)
    | succ kf ih26 =>
      intro x1 fi ar ln kc ks cells slots rd H locs ls hF hkc hks hl hP hD hS
      obtain ⟨K26, hK26⟩ : ∃ K : Int32 → FI → AR → LN → Option (Int32 × FI × AR × LN × Nat × Nat), K = FX0_firstFault_26 nf kf := ⟨_, rfl⟩
      replace hF : FX0_firstFault_26b K26 nf x1 fi ar ln = some (r, fi', ar', ln', kc, ks) := by rw [hK26]; exact hF
      rw [← hK26] at ih26
      clear hK26
      unfold FX0_firstFault_26b at hF
      refine lv_iload_n hx hb dX0_firstFault_26 rfl (lv_at hl 1 rfl) ?_
      refine lv_aload_n hx hb dX0_firstFault_27 rfl (lv_at hl 0 rfl) ?_
      refine cg_X0_claimed hx hb hT hown hK hP mw4_19 dX0_firstFault_28 ?_
      refine ca_claimed hx hb hK hP dX0_firstFault_31 ?_
      refine lv_icmp_ge (tgt := 48) hx hb dX0_firstFault_32 (by decide) (fun hc22 => ?_) (fun hc22 => ?_)
      · replace hF := br_yes hF hc22
        refine lv_aload_n hx hb dX0_firstFault_48 rfl (lv_at hl 0 rfl) ?_
        refine lv_iconst (v := (0 : Int32)) hx hb dX0_firstFault_49 (by decide) ?_
        obtain ⟨fi23, efi23⟩ : ∃ y : FI, y = va_up fi (11) (0 : Int32) := ⟨_, rfl⟩
        replace hF := bnd_of hF efi23
        refine cp_X0_queued hx hb hT hown hK hP (hD _) hS mw21_19 dX0_firstFault_50 (fun H locs hP hS => ?_)
        rw [← efi23] at hP
        refine lv_aload_n hx hb dX0_firstFault_53 rfl (lv_at hl 0 rfl) ?_
        refine lv_aload_n hx hb dX0_firstFault_54 rfl (lv_at hl 0 rfl) ?_
        refine cg_X0_volume hx hb hT hown hK hP mw4_12 dX0_firstFault_55 ?_
        refine cg_X9_root hx hb hT hown hK hP mw21_20 dX0_firstFault_58 ?_
        refine lv_iconst (v := (0 : Int32)) hx hb dX0_firstFault_61 (by decide) ?_
        replace hF := obnd3_of hF
        obtain ⟨r27, fi25, ar26, h24, hF⟩ := hF
        refine cC_v (As := [.int (fi23 (4)), .int (0 : Int32)]) (rest := []) hx hb hml hT hown hK hE (hD _) hA hP hS (rcv_X0 hK hP) (kX0_enqueue l g ad rd _ nf ln fi23 ar (fi23 (4)) (0 : Int32) r27 fi25 ar26 h24) cw_X0_enqueue mw22_19 ⟨⟨rfl, rfl⟩, Nat.le_of_ble_eq_true rfl, Nat.le_of_ble_eq_true rfl⟩ rfl hl.1 rfl (Nat.le_of_ble_eq_true rfl) dX0_firstFault_62 ⟨by show _ ≤ KC; omega, by show _ ≤ KS; omega⟩ (fun H locs hP hS => ?_)
        refine lv_iconst (v := (0 : Int32)) hx hb dX0_firstFault_65 (by decide) ?_
        refine lv_istore_n (lv' := [(1, .int (0 : Int32)), (0, .ref (ad (7)))]) hx hb dX0_firstFault_66 rfl hl (by decide) rfl (fun ls hl => ?_)
        exact L67 nf (0 : Int32) _ _ _ _ _ _ _ _ _ _ _ hF hkc hks (lv_sub hl [1, 0] rfl) hP hD hS
      · replace hF := br_no hF hc22
        refine lv_aload_n hx hb dX0_firstFault_35 rfl (lv_at hl 0 rfl) ?_
        refine cg_X0_claimed hx hb hT hown hK hP mw4_19 dX0_firstFault_36 ?_
        refine lv_iload_n hx hb dX0_firstFault_39 rfl (lv_at hl 1 rfl) ?_
        refine lv_iconst (v := (0 : Int32)) hx hb dX0_firstFault_40 (by decide) ?_
        replace hF := gd_of hF
        obtain ⟨hi28, hF⟩ := hF
        obtain ⟨ar29, ear29⟩ : ∃ y : AR, y = va_up ar (3) (upd (ar (3)) (x1).toNatClampNeg (vp_nar .boolean (0 : Int32))) := ⟨_, rfl⟩
        replace hF := bnd_of hF ear29
        refine cs_claimed hx hb hK hP (hD _) hS hi28 dX0_firstFault_41 (fun H locs hP hS => ?_)
        rw [← ear29] at hP
        obtain ⟨x1_30, ex1_30⟩ : ∃ y : Int32, y = (x1) + (1 : Int32) := ⟨_, rfl⟩
        replace hF := bnd_of hF ex1_30
        refine lv_iinc (v := x1_30) (lv' := [(1, .int (x1_30)), (0, .ref (ad (7)))]) hx hb dX0_firstFault_42 hl (k := 1) rfl (by rw [ex1_30]; rfl) (by decide) rfl (fun ls hl => ?_)
        refine lv_goto (tgt := 26) hx hb dX0_firstFault_45 (by decide) ?_
        exact ih26 (x1_30) _ _ _ _ _ _ _ _ _ _ _ hF hkc hks (lv_sub hl [1, 0] rfl) hP hD hS
  replace hl := lv_sub hl [0] rfl
  obtain ⟨cells, ecells⟩ : ∃ z : Nat, z = 0 := ⟨_, rfl⟩
  obtain ⟨slots, eslots⟩ : ∃ z : Nat, z = 0 := ⟨_, rfl⟩
  obtain ⟨kc, ekc⟩ : ∃ z : Nat, z = KC := ⟨_, rfl⟩
  obtain ⟨ks, eks⟩ : ∃ z : Nat, z = KS := ⟨_, rfl⟩
  have hkc : cells + kc ≤ KC := by omega
  have hks : slots + ks ≤ KS := by omega
  replace hF := kcks_of hF ekc eks
  suffices hgo : W p l e (headSpec (wx yX0_firstFault cX0_firstFault 3 (some .int)) ({ frames := 8, cells := KC, slots := KS, locals := 191 } : Room)).room s m ([.ref (ad (7))] : List Value).toArray below meth c s.heap [] cells slots (MQ below (QAi g ad (AC ad rd0 s.heap.size) r fi' ar' ln') ([.ref (ad (7))] : List Value).toArray s KC KS (AC ad rd0 s.heap.size)) (F0 m 0 ls []) by rw [ecells, eslots] at hgo; exact hgo
  obtain ⟨rd, erd⟩ : ∃ z : Nat → Nat, z = rd0 := ⟨_, rfl⟩
  have hP : va_P (gD g) vwCl (WC g ad rd ln fi ar) s.heap := by rw [erd]; exact hP
  have hD : ∀ (ln : LN) (fi : FI) (ar : AR), va_D (AC ad rd0 s.heap.size) (WC g ad rd ln fi ar) := by rw [erd]; exact hD
  clear erd
  refine lv_aload_n hx hb dX0_firstFault_0 rfl (lv_at hl 0 rfl) ?_
  refine cg_X0_volume hx hb hT hown hK hP mw4_12 dX0_firstFault_1 ?_
  replace hF := obnd3_of hF
  obtain ⟨r34, fi32, ar33, h31, hF⟩ := hF
  refine cC_i (As := []) (rest := []) hx hb hml hT hown hK hE (hD _) hA hP hS (rcv_X9 hK hP) (kX9_readSectorZero l g ad rd _ nf ln fi ar r34 fi32 ar33 h31) cw_X9_readSectorZero mw21_21 ⟨⟨rfl, rfl⟩, Nat.le_of_ble_eq_true rfl, Nat.le_of_ble_eq_true rfl⟩ rfl hl.1 rfl (Nat.le_of_ble_eq_true rfl) dX0_firstFault_4 ⟨by show _ ≤ KC; omega, by show _ ≤ KS; omega⟩ (fun H locs hP hS => ?_)
  refine lv_if_ne (tgt := 12) hx hb dX0_firstFault_7 (by decide) (fun hc35 => ?_) (fun hc35 => ?_)
  · replace hF := br_no hF hc35
    refine lv_aload_n hx hb dX0_firstFault_12 rfl (lv_at hl 0 rfl) ?_
    refine cg_X0_volume hx hb hT hown hK hP mw4_12 dX0_firstFault_13 ?_
    replace hF := obnd3_of hF
    obtain ⟨r39, fi37, ar38, h36, hF⟩ := hF
    refine cC_i (As := []) (rest := []) hx hb hml hT hown hK hE (hD _) hA hP hS (rcv_X9 hK hP) (kX9_tablesAsTold l g ad rd _ nf ln fi32 ar33 r39 fi37 ar38 h36) cw_X9_tablesAsTold mw22_7 ⟨⟨rfl, rfl⟩, Nat.le_of_ble_eq_true rfl, Nat.le_of_ble_eq_true rfl⟩ rfl hl.1 rfl (Nat.le_of_ble_eq_true rfl) dX0_firstFault_16 ⟨by show _ ≤ KC; omega, by show _ ≤ KS; omega⟩ (fun H locs hP hS => ?_)
    refine lv_if_ne (tgt := 24) hx hb dX0_firstFault_19 (by decide) (fun hc40 => ?_) (fun hc40 => ?_)
    · replace hF := br_no hF hc40
      refine lv_iconst (v := (0 : Int32)) hx hb dX0_firstFault_24 (by decide) ?_
      refine lv_istore_n (lv' := [(1, .int (0 : Int32)), (0, .ref (ad (7)))]) hx hb dX0_firstFault_25 rfl hl (by decide) rfl (fun ls hl => ?_)
      exact L26 nf (0 : Int32) _ _ _ _ _ _ _ _ _ _ _ hF hkc hks (lv_sub hl [1, 0] rfl) hP hD hS
    · replace hF := br_yes hF hc40
      refine lv_iconst (v := (2 : Int32)) hx hb dX0_firstFault_22 (by decide) ?_
      refine W.widen (k := KC) (n := KS) (by omega) (by omega) ?_
      exact rA_i hx hb hr hlocks hF hP hD hS dX0_firstFault_23
  · replace hF := br_yes hF hc35
    refine lv_iconst (v := (1 : Int32)) hx hb dX0_firstFault_10 (by decide) ?_
    refine W.widen (k := KC) (n := KS) (by omega) (by omega) ?_
    exact rA_i hx hb hr hlocks hF hP hD hS dX0_firstFault_11
theorem cw_X0_firstFault : (Cond.instanceMethod yX0_firstFault ∈ TB ∧ Cond.selects RX0 yX0_firstFault yX0_firstFault ∈ TB ∧ Cond.code yX0_firstFault cX0_firstFault 3 (some .int) ∈ TB ∧ Cond.initialized RX0 ∈ TB) ∧ (yX0_firstFault.cls = RX0 ∧ yX0_firstFault.cls ≠ "java/lang/invoke/MethodHandle" ∧ yX0_firstFault.cls ≠ "java/lang/invoke/VarHandle" ∧ (parseMethodDescriptor yX0_firstFault.desc).map (fun d => d.parameters.length) = some 0) := ⟨⟨mw21_16, mw21_17, mw21_18, mw2_14⟩, by decide +kernel⟩
/-! X10_fault -/
noncomputable def FX10_fault_19 (nf : Nat)  (fi : FI) (ar : AR) (ln : LN) : Option (Int32 × FI × AR × LN × Nat × Nat) :=
  some ((fi (1)), fi, ar, ln, 0, 0)
noncomputable def FX10_fault (nf : Nat) (fi : FI) (ar : AR) (ln : LN)  : Option (Int32 × FI × AR × LN × Nat × Nat) :=
  br ((fi (1)) = (-1 : Int32)) (obnd6 (FX0_firstFault nf fi ar ln) fun r6 fi3 ar4 ln5 kc7 ks8 => addc (kc7) (ks8) (bnd (va_up fi3 (1) (r6)) fun fi12 => FX10_fault_19 nf  fi12 ar4 ln5)) (FX10_fault_19 nf  fi ar ln)
set_option maxHeartbeats 8000000 in
set_option maxRecDepth 100000 in
theorem kX10_fault (l : Launch) (g : GT) (ad rd0 : Nat → Nat) (sz : Nat) (nf : Nat) (fi : FI) (ar : AR) (ln : LN)  (r : Int32) (fi' : FI) (ar' : AR) (ln' : LN) (KC KS : Nat) (hF : FX10_fault nf fi ar ln  = some (r, fi', ar', ln', KC, KS)) : Met l yX10_fault (wx yX10_fault cX10_fault 1 (some .int)) ({ frames := 9, cells := KC, slots := KS, locals := 213 } : Room) (va_Pc [.ref (ad (0))] (PC g ad rd0 ln sz fi ar)) (QAi g ad (AC ad rd0 sz) r fi' ar' ln') KC KS (AC ad rd0 sz) := by
  refine Met.ofW (cc := cX10_fault) (maxL := 1) (ret := (some .int)) (by decide) rfl ?_
  intro p e s m args below meth c s₁ B hml hv
  obtain ⟨rfl, hsz, hP, hK, hD0, hE⟩ := hv
  have hx := B.exec
  have hb := B.bytes
  have hr := B.returns
  have hts := atoms_spec (ws := (wx yX10_fault cX10_fault 1 (some .int))) B.pre
  have hT : ∀ w ∈ TB, w.before _ s = true := fun w h => hts w (List.mem_cons_of_mem _ h)
  have hown : s.vm.findClass RX10 = some m.cls := findClass_of_methodNamed B.named
  have hlocks := B.notSynchronized
  subst hsz
  have hD : ∀ (ln : LN) (fi : FI) (ar : AR), va_D (AC ad rd0 s.heap.size) (WC g ad rd0 ln fi ar) := dCre (dC hD0 s.heap.size fi ar) (fun _ h => h)
  have hA : ∀ q : Nat, s.heap.size ≤ q → AC ad rd0 s.heap.size q := fun q h => Or.inr h
  have hS : va_S (AC ad rd0 s.heap.size) s.heap s.heap [] := va_S.rf
  have hl := lv_entry ([.ref (ad (0))]) (n := 1) (Nat.le_of_ble_eq_true rfl)
  rw [lg_entry_eq]
  generalize (lg_sl ([.ref (ad (0))]) ++ List.replicate (1 - (lg_sl ([.ref (ad (0))])).length) Slot.unset).toArray = ls at hl ⊢
  have hl : lv_has ls 1 [(0, .ref (ad (0)))] := hl
  unfold FX10_fault at hF
  have J19 : ∀  (fi : FI) (ar : AR) (ln : LN) (kc ks cells slots : Nat) (rd : Nat → Nat) (H : Heap) (locs : List Loc) (ls : Array Slot), FX10_fault_19 nf fi ar ln = some (r, fi', ar', ln', kc, ks) → cells + kc ≤ KC → slots + ks ≤ KS → lv_has ls 1 [(0, .ref (ad (0)))] → va_P (gD g) vwCl (WC g ad rd ln fi ar) H → (∀ (ln : LN) (fi : FI) (ar : AR), va_D (AC ad rd0 s.heap.size) (WC g ad rd ln fi ar)) → va_S (AC ad rd0 s.heap.size) s.heap H locs → W p l e (headSpec (wx yX10_fault cX10_fault 1 (some .int)) ({ frames := 9, cells := KC, slots := KS, locals := 213 } : Room)).room s m ([.ref (ad (0))] : List Value).toArray below meth c H locs cells slots (MQ below (QAi g ad (AC ad rd0 s.heap.size) r fi' ar' ln') ([.ref (ad (0))] : List Value).toArray s KC KS (AC ad rd0 s.heap.size)) (F0 m 19 ls []) := by
    intro fi ar ln kc ks cells slots rd H locs ls hF hkc hks hl hP hD hS
    unfold FX10_fault_19 at hF
    refine lv_aload_n hx hb dX10_fault_19 rfl (lv_at hl 0 rfl) ?_
    refine cg_X10_knownFault hx hb hT hown hK hP mw3_7 dX10_fault_20 ?_
    refine W.widen (k := KC) (n := KS) (by omega) (by omega) ?_
    exact rA_i hx hb hr hlocks hF hP hD hS dX10_fault_23
  replace hl := lv_sub hl [0] rfl
  obtain ⟨cells, ecells⟩ : ∃ z : Nat, z = 0 := ⟨_, rfl⟩
  obtain ⟨slots, eslots⟩ : ∃ z : Nat, z = 0 := ⟨_, rfl⟩
  obtain ⟨kc, ekc⟩ : ∃ z : Nat, z = KC := ⟨_, rfl⟩
  obtain ⟨ks, eks⟩ : ∃ z : Nat, z = KS := ⟨_, rfl⟩
  have hkc : cells + kc ≤ KC := by omega
  have hks : slots + ks ≤ KS := by omega
  replace hF := kcks_of hF ekc eks
  suffices hgo : W p l e (headSpec (wx yX10_fault cX10_fault 1 (some .int)) ({ frames := 9, cells := KC, slots := KS, locals := 213 } : Room)).room s m ([.ref (ad (0))] : List Value).toArray below meth c s.heap [] cells slots (MQ below (QAi g ad (AC ad rd0 s.heap.size) r fi' ar' ln') ([.ref (ad (0))] : List Value).toArray s KC KS (AC ad rd0 s.heap.size)) (F0 m 0 ls []) by rw [ecells, eslots] at hgo; exact hgo
  obtain ⟨rd, erd⟩ : ∃ z : Nat → Nat, z = rd0 := ⟨_, rfl⟩
  have hP : va_P (gD g) vwCl (WC g ad rd ln fi ar) s.heap := by rw [erd]; exact hP
  have hD : ∀ (ln : LN) (fi : FI) (ar : AR), va_D (AC ad rd0 s.heap.size) (WC g ad rd ln fi ar) := by rw [erd]; exact hD
  clear erd
  refine lv_aload_n hx hb dX10_fault_0 rfl (lv_at hl 0 rfl) ?_
  refine cg_X10_knownFault hx hb hT hown hK hP mw3_7 dX10_fault_1 ?_
  refine lv_iconst (v := (-1 : Int32)) hx hb dX10_fault_4 (by decide) ?_
  refine lv_icmp_ne (tgt := 19) hx hb dX10_fault_5 (by decide) (fun hc1 => ?_) (fun hc1 => ?_)
  · replace hF := br_no hF hc1
    exact J19  _ _ _ _ _ _ _ _ _ _ _ hF hkc hks (lv_sub hl [0] rfl) hP hD hS
  · replace hF := br_yes hF hc1
    refine lv_aload_n hx hb dX10_fault_8 rfl (lv_at hl 0 rfl) ?_
    refine lv_aload_n hx hb dX10_fault_9 rfl (lv_at hl 0 rfl) ?_
    refine cg_X10_checker hx hb hT hown hK hP mw2_15 dX10_fault_10 ?_
    replace hF := obnd6_of hF
    obtain ⟨r6, fi3, ar4, ln5, kc7, ks8, h2, hF⟩ := hF
    replace hF := addc_of hF
    obtain ⟨kc9, ks10, e11c, e11s, hF⟩ := hF
    refine cA_i (As := []) (rest := [.ref (ad (0))]) hx hb hml hT hown hK hE hD hA hP hS (rcv_X0 hK hP) (kX0_firstFault l g ad rd _ nf fi ar ln r6 fi3 ar4 ln5 kc7 ks8 h2) cw_X0_firstFault mw21_15 ⟨⟨rfl, rfl⟩, Nat.le_of_ble_eq_true rfl, Nat.le_of_ble_eq_true rfl⟩ rfl hl.1 rfl (Nat.le_of_ble_eq_true rfl) dX10_fault_13 ⟨by show _ ≤ KC; omega, by show _ ≤ KS; omega⟩ (fun rd H locs hP hD hS => ?_)
    replace hkc : cells + kc7 + kc9 ≤ KC := by omega
    replace hks : slots + ks8 + ks10 ≤ KS := by omega
    obtain ⟨fi12, efi12⟩ : ∃ y : FI, y = va_up fi3 (1) (r6) := ⟨_, rfl⟩
    replace hF := bnd_of hF efi12
    refine cp_X10_knownFault hx hb hT hown hK hP (hD _) hS mw3_7 dX10_fault_16 (fun H locs hP hS => ?_)
    rw [← efi12] at hP
    exact J19  _ _ _ _ _ _ _ _ _ _ _ hF hkc hks (lv_sub hl [0] rfl) hP hD hS
theorem cw_X10_fault : (Cond.instanceMethod yX10_fault ∈ TB ∧ Cond.selects RX10 yX10_fault yX10_fault ∈ TB ∧ Cond.code yX10_fault cX10_fault 1 (some .int) ∈ TB ∧ Cond.initialized RX10 ∈ TB) ∧ (yX10_fault.cls = RX10 ∧ yX10_fault.cls ≠ "java/lang/invoke/MethodHandle" ∧ yX10_fault.cls ≠ "java/lang/invoke/VarHandle" ∧ (parseMethodDescriptor yX10_fault.desc).map (fun d => d.parameters.length) = some 0) := ⟨⟨mw21_12, mw21_13, mw21_14, mw1_2⟩, by decide +kernel⟩
