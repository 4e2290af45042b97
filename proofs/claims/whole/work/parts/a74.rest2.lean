/-! make: the way on, put together -/
theorem pz_hf {G : Geo} {h : Nat} (hh : h = 0 ∨ h ≠ G.r) : pz G (hf G h) = h := by
  unfold pz hf
  by_cases c : h = 0
  · rw [if_pos c, if_pos rfl, c]
  · rw [if_neg c, if_neg (hh.resolve_left c)]
theorem mk_rest {nf n h np j : Nat} {ln : LN} {fi fm : FI} {ar arm : AR} {d : Nat → Nat} {D : List Nat} {ρ : Nat → Nat} {N : List Nat} {B : Nat → Nat} {x1 : Int32} (b1 : VOL n ln fi ar fm arm d h) (t1 : fltS n d = 0) (t2 : Snd (geoOf n d) d D ρ) (t3 : hf (geoOf n d) h ∈ D) (t4 : h = 0 ∨ (h ∈ D ∧ h ≠ (geoOf n d).r)) (hH : HR ln fi ar (geoOf n d) d 0 (hf (geoOf n d) h)) (t6 : fi 1 = nI 0) (t10 : fm 5 = 0) (hRW : RW fm arm (geoOf n d) d) (hj : j < 16400) (hBG : BG fm arm d (geoOf n d).r j (hf (geoOf n d) h)) (hNB : NB fi ar 0 N) (hMN : MN fm arm N) (hN : nmOK N) (hN2 : ∀ x, x ∈ N → x < 65536) (hBc : ∀ i, i < 11 → ar 40 i = nI (B i)) (hBm : ∀ i, i < 11 → arm 39 i = nI (B i)) (hK : shK B) (H8 : (¬ ∃ e, e ∈ dI (geoOf n d) d (hf (geoOf n d) h) ∧ shB d (dA (geoOf n d) d (hf (geoOf n d) h)) B e) ∧ ¬ ∃ e, e ∈ dI (geoOf n d) d (hf (geoOf n d) h) ∧ alk (nm d (dA (geoOf n d) d (hf (geoOf n d) h)) e.1 e.2) N) (hnp : np ≤ 20) (hcase : (np = 0 ∧ brOK N ∧ ∀ i, i < 11 → B i = brB N i) ∨ (1 ≤ np ∧ (N.length + 12) / 13 = np)) (hnf : 600000 ≤ nf) : ∃ v r d' fi' ar' k s fm' arm', FX10_make_107 nf x1 (nI np) fi ar ln = some (r, fi', ar', ln, k, s) ∧ k ≤ 1 ∧ s ≤ 6 ∧ M_make_116 nf x1 (nI j) (nI (np + 1)) fm arm = some (v, fm', arm') ∧ ((r = Sum.inr 3 ∧ fm' 5 = 3) ∨ (r = Sum.inl v ∧ fm' 5 = 0)) ∧ VOL n ln fi' ar' fm' arm' d' h ∧ offF [21, 23, 24] fi fi' ∧ offAs [0, 10] ar ar' ∧ offF oFM fm fm' ∧ offAs (1 :: oAM) arm arm' := by
  have hn := b1.1
  have hb := b1.2.1
  have htb := ((flt_iff hn.1 hn.2).mp t1).2.1
  obtain ⟨G, hGe⟩ : ∃ G, G = geoOf n d := ⟨_, rfl⟩
  obtain ⟨f, hf0⟩ : ∃ f, f = hf (geoOf n d) h := ⟨_, rfl⟩
  have hpz : pz G f = h := by rw [hGe, hf0]; exact pz_hf (t4.imp_right (fun w => w.2))
  have hfi0 : fi 0 = nI h := b1.2.2.2.2.2.2.2.2.1
  have hfm14 : fm 14 = nI h := b1.2.2.2.2.2.2.2.2.2.1
  rw [← hf0] at t3 hH hBG H8
  rw [← hGe] at hH hBG H8
  rw [← hGe] at t2 hRW htb
  obtain ⟨g1, g2, g3, g4, g5, L, g6, g7⟩ := hH
  have hG := g1.2.2.1
  have b := hG.b
  have hc : 1 ≤ G.c := by omega
  have hDk := t2.2.2.1 _ t3
  have hlk := hDk.1
  have hlclu := lnk_clu hlk
  have hllen := hlclu.len
  have hS2 : (cl G d f).length * (16 * G.c) ≤ 65536 := Nat.le_trans (Nat.mul_le_mul hllen (Nat.le_refl _)) (Nat.le_trans (Nat.mul_le_mul (show G.k ≤ 512 by omega) (show 16 * G.c ≤ 128 by omega)) (by omega))
  have hEle := dE_le G d f
  have hNl : N.length ≤ 255 := hN.2.1
  have hl30 : ln 30 = 260 := g2.2.2.2.2.2.2.2.1 0 (by omega)
  have hl40 : ln 40 = 11 := (g2.2.2.2.2.2.2.2.2 0 (by omega)).1
  have hl10 : ln 10 = G.n / 2 := g2.2.2.2.2.2.2.1 0 (by omega)
  have hk10 : G.k ≤ ln 10 ∧ ln 10 < 100000 := by
    have : G.k * 2 ≤ G.k * G.c := Nat.mul_le_mul_left _ (by omega)
    omega
  have hhb : h < 65536 := by
    rcases t4 with w | ⟨w, _⟩
    · omega
    · have := (lnk_isC _ _ (t2.2.2.1 h w).1 h (lnk_head (t2.2.2.1 h w).1)).2; omega
  -- where it goes
  obtain ⟨a, ha⟩ : ∃ a, a = rmA d (sa G (cl G d f)) (dE G d f) (np + 1) ((cl G d f).length * (16 * G.c)) 0 0 := ⟨_, rfl⟩
  obtain ⟨q1, q2, q3⟩ := rmA_ok (d := d) (A := sa G (cl G d f)) (E := dE G d f) (want := np + 1) (S := (cl G d f).length * (16 * G.c)) _ 0 0 (Nat.zero_add _) (Nat.le_refl _) (by omega) (fun t t1 t2 => by omega) (Or.inl rfl)
  rw [← ha] at q1 q2 q3
  have haE : a ≤ dE G d f := by rcases q3 with w | w; omega; exact w.1
  have h229 : ∀ t, a ≤ t → t ≤ a + np → t < dE G d f → d (dA G d f t) = 229 := fun t t1 t2 t3 => q2 t t1 (by omega) (by omega) t3
  have hSpos : 16 ≤ (cl G d f).length * (16 * G.c) := by
    have := lnk_pos hlk
    exact Nat.le_trans (show 16 ≤ 1 * (16 * 1) by omega) (Nat.mul_le_mul this (Nat.mul_le_mul_left _ hc))
  have hza : zf G f ≤ a := by
    rcases zf_cases G f with ⟨_, w⟩ | ⟨w1, w⟩
    · omega
    · obtain ⟨p0, x, p1⟩ := hDk.2.1 w1
      have hE2 : 2 ≤ dE G d f := by
        have f0 : d (dA G d f 0) = 46 := by have := p0.1 0 (by omega); rw [Nat.add_zero, if_pos (by omega)] at this; exact this
        have f1 : d (dA G d f 1) = 46 := by have := p1.1 0 (by omega); rw [Nat.add_zero, if_pos (by omega)] at this; exact this
        apply Decidable.byContradiction
        intro q
        have hz := zl_end (fun t => d (dA G d f t)) ((cl G d f).length * (16 * G.c)) 0 (by show dE G d f < _; omega)
        have hz' : d (dA G d f (dE G d f)) = 0 := hz
        rcases (show dE G d f = 0 ∨ dE G d f = 1 by omega) with e | e
        · rw [e, f0] at hz'; exact absurd hz' (by decide)
        · rw [e, f1] at hz'; exact absurd hz' (by decide)
      rw [w]
      apply Decidable.byContradiction
      intro q
      have h0 := h229 a (Nat.le_refl _) (by omega) (by omega)
      rcases (show a = 0 ∨ a = 1 by omega) with e | e
      · rw [e] at h0
        have := p0.1 0 (by omega); rw [Nat.add_zero, if_pos (by omega), h0] at this; exact absurd this (by decide)
      · rw [e] at h0
        have := p1.1 0 (by omega); rw [Nat.add_zero, if_pos (by omega), h0] at this; exact absurd this (by decide)
  obtain ⟨more, hmore⟩ : ∃ more, more = msC G ((cl G d f).length * (16 * G.c)) (a + np + 1) := ⟨_, rfl⟩
  have hm5 : more < 100000 := by
    rw [hmore]; unfold msC
    have : (a + np + 1 - (cl G d f).length * (16 * G.c) + 16 * G.c - 1) / (16 * G.c) ≤ a + np + 1 - (cl G d f).length * (16 * G.c) + 16 * G.c - 1 := Nat.div_le_self _ _
    omega
  -- the class's way to the room
  have hC1 : FX10_make_107 nf x1 (nI np) fi ar ln = br (nI (more + mkO x1) ≤ nI (frC G d 2 G.k)) (br (x1 = 0) (FX10_make_182 nf x1 (nI np) (nI a) (nI more) 0 fi ar ln) (obnd3 (FX10_makeDirectory nf ln fi ar) fun r19 fi17 ar18 => FX10_make_182 nf x1 (nI np) (nI a) (nI more) r19 fi17 ar18 ln)) (some (Sum.inr 3, fi, ar, ln, 1, 6)) := by
    unfold FX10_make_107 FX10_make_156
    rw [show nI np + (1 : Int32) = nI (np + 1) from nI_add np 1, roomFor_eq g1 hlclu (by omega) g3 g5 hEle (by omega) (by omega) (by omega), obnd3_some, ← ha, nI_add, show nI (a + np) + (1 : Int32) = nI (a + np + 1) from nI_add _ 1, missing_eq hG hlclu g3 (by omega), obnd3_some, ← hmore, freeC_eq g1 (by omega), obnd3_some]
    unfold frA mkO
    by_cases c : x1 = 0
    · rw [brT c, if_pos c, show nI more + (0 : Int32) = nI (more + 0) from nI_add more 0]
    · rw [brF c, if_neg c, show nI more + (1 : Int32) = nI (more + 1) from nI_add more 1]
  -- the model's
  obtain ⟨fm1, arm1, p1, p2, p3, p4, p5⟩ := loadFolder_ok (nf := nf) hRW hj hBG hlk (by omega)
  have hRW1 := hRW.off p2 p3 (by simp) (by simp)
  have hMN1 : MN fm1 arm1 N := ⟨by rw [p2 35 (by simp)]; exact hMN.1, fun i hi => by rw [p3 34 (by simp)]; exact hMN.2 i hi⟩
  have hV1 : VOL n ln fi ar fm1 arm1 d h := b1.offM p2 p3 (by simp) (by simp)
  have h51 : fm1 5 = 0 := by rw [p2 5 (by simp)]; exact t10
  have ho1 : mkO x1 ≤ 1 := by unfold mkO; split <;> omega
  have hle := frC_le G d G.k 2
  have hM1 : M_make_116 nf x1 (nI j) (nI (np + 1)) fm arm = M_make_257 nf x1 (nI (np + 1)) (nI ((cl G d f).length * (16 * G.c))) (nI (dE G d f)) (nI a) (nI more) fm1 arm1 := by
    unfold M_make_116
    have e7 : fm1 32 * 16 * fm1 7 = nI ((cl G d f).length * (16 * G.c)) := by
      rw [p5, hRW1.2.1.2.1, show (16 : Int32) = nI 16 from rfl, pk_mul, pk_mul, Nat.mul_assoc]
    rw [p1, obnd3_some, bnd_eq, e7]
    have h1 := mk_end (nf := nf) (x1 := x1) (x6 := nI (np + 1)) hRW1 hlclu p4 _ 0 nf (Nat.zero_add _) (by omega)
    have h1' : M_make_141 nf nf x1 (nI (np + 1)) (nI ((cl G d f).length * (16 * G.c))) 0 fm1 arm1 = M_make_167 nf x1 (nI (np + 1)) (nI ((cl G d f).length * (16 * G.c))) (nI (dE G d f)) fm1 arm1 := h1
    rw [h1']
    unfold M_make_167
    have h2 := mk_from (nf := nf) (x1 := x1) (E := dE G d f) (want := np + 1) hRW1 hlclu p4 hEle (by omega) _ 0 0 nf (Nat.zero_add _) (Nat.le_refl _) (by omega)
    rw [← ha] at h2
    have h2' : M_make_173 nf nf x1 (nI (np + 1)) (nI ((cl G d f).length * (16 * G.c))) (nI (dE G d f)) 0 0 fm1 arm1 = _ := h2
    rw [h2', mk_more hRW1 hS2 q1 (by omega), show a + (np + 1) = a + np + 1 by omega, ← hmore]
  have oM1 : offF oFM fm fm1 := p2.mono (by simp [oFM])
  have oA1 : offAs (1 :: oAM) arm arm1 := p3.mono (by simp [oAM])
  rcases mk_room (nf := nf) (more := more) (x1 := x1) (x6 := nI (np + 1)) (x7 := nI ((cl G d f).length * (16 * G.c))) (x8 := nI (dE G d f)) (x9 := nI a) hRW1 hm5 (by omega) with ⟨hroom, hM2⟩ | ⟨hroom, hM2⟩
  · -- there is room
    have f0 : M_fails nf fm1 arm1 0 3 = _ := fails_eq (nf := nf) (ar := arm1) h51 (t := 0) (by decide) 3 (by decide)
    rw [if_pos rfl, if_pos rfl] at f0
    rw [hC1, hM1, hM2, brT (nI_le hroom (by omega))]
    unfold M_make_284 M_make_305
    rw [f0, obnd3_some, brT rfl]
    have hIC : IC fi ar 0 (itm d (dA G d f) (zf G f) (dE G d f)) (fun _ => 0) := g4
    -- what is left when the disk is known
    have fin : ∀ (dF dk d1 : Nat → Nat) (ow bits : Nat) (fi2 fi1 : FI) (ar1 ar2 : AR) (fm2 : FI) (arm2 : AR), MKD G d dk d1 dF bits ow (pz G f) → more ≤ frC G dk 2 G.k → MKS (adD G 0 more (cl G d f) dk).2 d1 (sa G (adD G 0 more (cl G d f) dk).1) (a + np) np N B bits ow (smS B 0 11) (dE G d f ≤ a + np + 1 ∧ a + np + 1 < (adD G 0 more (cl G d f) dk).1.length * (16 * G.c)) → CD ln ar2 dF → RD arm2 dF → offF [21, 23, 24] fi fi2 → offAs [0, 10] ar ar2 → offF [31, 32] fm fm2 → offAs [1, 29, 30] arm arm2 → ∃ v d' fm' arm', obnd3 (FX2_itemsBefore nf ln 0 fi2 ar2 (nI a)) (fun r8 fi6 ar7 => some ((Sum.inl r8 : Int32 ⊕ Nat), fi6, ar7, ln, 0, 0)) = some (Sum.inl v, fi2, ar2, ln, 0, 0) ∧ M_make_755 nf (nI (np + 1)) (nI a) fm2 arm2 = some (v, fm', arm') ∧ fm' 5 = 0 ∧ VOL n ln fi2 ar2 fm' arm' d' h ∧ offF oFM fm fm' ∧ offAs (1 :: oAM) arm arm' := fun dF dk d1 ow bits fi2 fi1 ar1 ar2 fm2 arm2 hM hfr hMK hCF hRF hoF hoA hoM hoB => by
      obtain ⟨s1, s2, s3, ⟨D', ρ', s4, s5⟩, r, s6⟩ := mk_snd hG hb htb t2 t3 hM hmore hfr hMK haE hza h229 H8 hN hN2 hK hnp hcase
      have hbe := before_ok (nf := nf) (fi := fi2) (ar := ar2) (a := a) (hIC.off hoF hoA (by simp) (by simp)) g6 g7 haE (by omega) (by omega)
      have hVm := b1.mut (d' := dF) (fi' := fi2) (fm' := va_up fm2 15 0) (ar' := ar2) (arm' := arm2) t1 t6 (by rw [← hGe]; exact g1.2.1) (S1 := [21, 23, 24]) (S2 := [15, 31, 32]) hoF ((hoM.mono (by simp)).up (by simp)) (by simp) (by simp) (va_up_self _ _ _) hCF hRF s1 s2 (by rw [← hGe]; exact s3) (D := D') (ρ := ρ') (by rw [← hGe]; exact s4) (by rw [← hGe]; rcases t4 with w | ⟨w1, w2⟩; exact Or.inl w; exact Or.inr ⟨s5 h w1, by rw [hGe]; exact w2⟩)
      have hgeo : geoOf n dF = G := by rw [hGe]; exact (head_congr (n := n) s2).1
      have hff : hf (geoOf n dF) h = f := by rw [hgeo, hf0, hGe]
      obtain ⟨fm3, arm3, z1, z2, z3, z4, z5⟩ := tell_ok (nf := nf) (np := np) (a := a) (p := itm d (dA G d f) (zf G f) a) (r := r) hVm.1 hVm.2 (by rw [hoM 5 (by simp)]; exact t10) (by rw [hff, hgeo]; exact s6) (fun e he => by have := ((mem_itm a).mp he).1; omega) (by omega) (by omega)
      refine ⟨_, dF, fm3, arm3, ?_, z1, z3, z2, (hoM.mono (by simp [oFM])).tr z4, (hoB.mono (by simp [oAM])).tr (z5.mono (fun j hj => List.mem_cons_of_mem _ hj))⟩
      rw [hbe, obnd3_some]
    by_cases c : x1 = 0
    · -- a file
      have hmk : mkO x1 = 0 := by unfold mkO; rw [if_pos c]
      have hDDI : DDI G d (cl G d f) f := ⟨hb, htb, hlk⟩
      obtain ⟨fi2, ar2, dC, fm2, arm2, d1, w1, w2, w3, w4, w5, w6, w7, w8, w9, w10⟩ := mk_both (nf := nf) (f := f) (a := a) (np := np) (ow := 0) (E := dE G d f) (more := more) (bits := 32) (x1 := x1) (b32 := 32) (N := N) (B := B) g1 hRW1 hDDI (fun q _ => rfl) hb (by omega) hmore hm5 hk10 hl30 hl40 g3 g5 hEle p4 p5 hNB hMN1 ⟨hNl, hN2⟩ hnp (fun i hi => ⟨hBc i hi, by have := hK.1 i hi; omega⟩) (fun i hi => ⟨by rw [p3 39 (by simp)]; exact hBm i hi, by have := hK.1 i hi; omega⟩) (by omega) rfl (by rw [if_pos c]) (by omega)
      have hdd : dC = d1 := MKS.uniq (by omega) w3 w8
      rw [hdd] at w2
      obtain ⟨v, d', fm3, arm3, y1, y2, y3, y4, y5, y6⟩ := fin d1 d d1 0 32 fi2 fi ar ar2 fm2 arm2 (Or.inl ⟨rfl, rfl, rfl, rfl⟩) (by omega) w8 w2 w7.1 w4 w5 ((p2.mono (by simp)).tr (w9.mono (by simp))) ((p3.mono (by simp)).tr (w10.mono (by simp)))
      refine ⟨v, Sum.inl v, d', fi2, ar2, 0, 0, fm3, arm3, ?_, by omega, by omega, ?_, Or.inr ⟨rfl, y3⟩, y4, w4, w5, y5, y6⟩
      · rw [brT c]
        unfold FX10_make_182 FX10_make_209
        have hlen : ∀ (K : FI → AR → Option ((Int32 ⊕ Nat) × FI × AR × LN × Nat × Nat)), obnd3 (FX2_lengthen nf ln 0 fi ar (nI more)) (fun r12 fi10 ar11 => obnd3 (FX10_placeEntry nf ln fi10 ar11 (nI a) (nI np) 32 0) fun r4 fi2 ar3 => K fi2 ar3) = K fi2 ar2 := fun K => by
          have w1' : obnd3 (FX2_lengthen nf ln 0 fi ar (nI more)) (fun r12 fi10 ar11 => FX10_placeEntry nf ln fi10 ar11 (nI a) (nI np) 32 0) = some ((), fi2, ar2) := w1
          cases hq : FX2_lengthen nf ln 0 fi ar (nI more) with
          | none => rw [hq] at w1'; exact absurd w1' (by simp [obnd3])
          | some x =>
            obtain ⟨x1, x2, x3⟩ := x
            rw [hq] at w1'
            rw [obnd3_some] at w1' ⊢
            rw [w1', obnd3_some]
        have hsel : (fun (r12 : Unit) (fi10 : FI) (ar11 : AR) => br (x1 = 0) (obnd3 (FX10_placeEntry nf ln fi10 ar11 (nI a) (nI np) 32 0) fun r4 fi2 ar3 => obnd3 (FX2_itemsBefore nf ln 0 fi2 ar3 (nI a)) fun r8 fi6 ar7 => some ((Sum.inl r8 : Int32 ⊕ Nat), fi6, ar7, ln, 0, 0)) (obnd3 (FX10_placeEntry nf ln fi10 ar11 (nI a) (nI np) 48 0) fun r4 fi2 ar3 => obnd3 (FX2_itemsBefore nf ln 0 fi2 ar3 (nI a)) fun r8 fi6 ar7 => some ((Sum.inl r8 : Int32 ⊕ Nat), fi6, ar7, ln, 0, 0))) = fun r12 fi10 ar11 => obnd3 (FX10_placeEntry nf ln fi10 ar11 (nI a) (nI np) 32 0) fun r4 fi2 ar3 => obnd3 (FX2_itemsBefore nf ln 0 fi2 ar3 (nI a)) fun r8 fi6 ar7 => some ((Sum.inl r8 : Int32 ⊕ Nat), fi6, ar7, ln, 0, 0) := by
          funext r12 fi10 ar11; rw [brT c]
        rw [hsel, hlen]
        exact y1
      · rw [brT c]
        have w6' : M_make_310 nf nf x1 (nI (np + 1)) (nI ((cl G d f).length * (16 * G.c))) (nI (dE G d f)) (nI a) (nI more) 0 0 fm1 arm1 = M_make_626 nf x1 (nI (np + 1)) (nI a) 0 fm2 arm2 := w6
        rw [w6', c, points_no (by omega)]
        exact y2
    · -- a directory
      have hmk : mkO x1 = 1 := by unfold mkO; rw [if_neg c]
      have hfrp : 0 < frC G d 2 G.k := by omega
      obtain ⟨ow, how⟩ : ∃ ow, ow = low G d 2 G.k := ⟨_, rfl⟩
      obtain ⟨l1, l2, l3⟩ := low_ok G.k 2 hfrp
      rw [← how] at l1 l2 l3
      have hoC : isC G ow := ⟨l1, by omega⟩
      have hoin := pl_in hG hoC
      obtain ⟨k1, k2, k3, k4, k5⟩ := tk_facts hG hb hoC
      obtain ⟨md1, md2, md3, md4⟩ := md_facts (h := h) hG hb hoC
      have hol : ow ∉ cl G d f := fun w => lnk_ent _ _ hlk ow w l3
      have hfrk : frC G d 2 G.k = frC G (tkD G d ow) 2 G.k + 1 := frC_one l3 (by rw [k4 ow (by omega), if_pos rfl]; omega) G.k 2 l1 (by omega) (fun y y1 y2 y3 => by rw [k4 y (by omega), if_neg y3])
      have hDDI : DDI G (tkD G d ow) (cl G d f) f := ⟨k1, k5 htb, lnk_congr _ _ hlk (fun y hy => by rw [k4 y (by have := (hlclu.2 y hy).2; omega), if_neg (fun w => hol (by rw [← w]; exact hy))])⟩
      have hsame : sameT G (tkD G d ow) (mdD G d ow h) := fun q hq => md4 q (by omega)
      obtain ⟨arc, u1, u2, u3⟩ := makeDir_ok (nf := nf) g1 hb hfrp hfi0 hhb (by omega)
      rw [← how] at u1 u2
      obtain ⟨armt, v1, v2, v3⟩ := take_ok (nf := nf) hRW1 hb hfrp (by omega)
      rw [← how] at v1 v2
      obtain ⟨fi2, ar2, dC, fm2, arm2, d1, w1, w2, w3, w4, w5, w6, w7, w8, w9, w10⟩ := mk_both (nf := nf) (f := f) (a := a) (np := np) (ow := ow) (E := dE G d f) (more := more) (bits := 48) (x1 := x1) (b32 := 48) (N := N) (B := B) u2 v2 hDDI hsame md1 (by omega) hmore hm5 hk10 hl30 hl40 (g3.off (S := []) (T := [0]) offF.rf u3.as (by simp) (by simp)) g5 hEle (fun q hq => by rw [v3 30 (by decide)]; exact p4 q hq) p5 (hNB.off (S := []) (T := [0]) offF.rf u3.as (by simp) (by simp)) ⟨hMN1.1, fun i hi => by rw [v3 34 (by decide)]; exact hMN1.2 i hi⟩ ⟨hNl, hN2⟩ hnp (fun i hi => ⟨by rw [u3 40 (by decide)]; exact hBc i hi, by have := hK.1 i hi; omega⟩) (fun i hi => ⟨by rw [v3 39 (by decide), p3 39 (by simp)]; exact hBm i hi, by have := hK.1 i hi; omega⟩) (by omega) rfl (by rw [if_neg c]) (by omega)
      obtain ⟨add, r1, r2, r3, r4, r5, r6, r7, r8⟩ := dd_ok hG more (cl G d f) (tkD G d ow) hDDI (by omega)
      obtain ⟨addc, c1, c2, c3, c4, c5, c6, c7, c8⟩ := dd_ok hG more (cl G d f) (mdD G d ow h) (hDDI.same hG hsame md1) (by rw [frC_same hG hsame]; omega)
      obtain ⟨e1, e2⟩ := ad_same hG more (cl G d f) (tkD G d ow) (mdD G d ow h) hDDI (by omega) hsame md1
      have hadd : addc = add := by
        rw [c1, r1] at e1
        exact List.append_cancel_left e1
      rw [hadd] at c7 c8
      have hl'clu := lnk_clu r3.2.2
      have hoa : ow ∉ cl G d f ++ add := fun w => by
        rcases List.mem_append.mp w with q | q
        · exact hol q
        · have := (r4 ow q).2; rw [k4 ow (by omega), if_pos rfl] at this; omega
      have hapo : ∀ y, y ∈ cl G d f ++ add → pl G ow + 512 * G.c ≤ pl G y ∨ pl G y + 512 * G.c ≤ pl G ow := fun y hy => pl_apart hoC.1 (hl'clu.2 y hy).1 (fun e => hoa (by rw [e]; exact hy))
      have hS' : a + np < (cl G d f ++ add).length * (16 * G.c) := by
        have h16 : 0 < 16 * G.c := by omega
        rw [List.length_append, r2, Nat.add_mul]
        have hge : a + np + 1 - (cl G d f).length * (16 * G.c) ≤ more * (16 * G.c) := by
          rw [hmore]
          unfold msC
          obtain ⟨w, hw⟩ : ∃ w, w = a + np + 1 - (cl G d f).length * (16 * G.c) := ⟨_, rfl⟩
          rw [← hw]
          have h1 := Nat.div_add_mod (w + 16 * G.c - 1) (16 * G.c)
          have h2 := Nat.mod_lt (w + 16 * G.c - 1) h16
          rw [Nat.mul_comm]
          omega
        omega
      -- in the directory's own cluster both are as their base
      have hbase : ∀ (e0 e1' : Nat → Nat), MKS e0 e1' (sa G (cl G d f ++ add)) (a + np) np N B 48 ow (smS B 0 11) (dE G d f ≤ a + np + 1 ∧ a + np + 1 < (cl G d f ++ add).length * (16 * G.c)) → ∀ q, pl G ow ≤ q → q < pl G ow + 512 * G.c → e1' q = e0 q := fun e0 e1' hmk q q1 q2 => by
        refine hmk.2.2.2.2 q (fun t t1 t2 => ?_) (fun w e => ?_)
        · obtain ⟨y1, y2, y3⟩ := sa_cl hG (l := cl G d f ++ add) (s := t) (by omega)
          have := hapo _ y1; omega
        · obtain ⟨y1, y2, y3⟩ := sa_cl hG (l := cl G d f ++ add) (s := a + np + 1) w.2
          have := hapo _ y1; omega
      have w3' := w3
      have w8' := w8
      rw [r1] at w3' w8'
      have hz1 : ∀ q, pl G ow ≤ q → q < pl G ow + 512 * G.c → d1 q = 0 := fun q q1 q2 => by
        rw [hbase _ _ w8' q q1 q2, r7 q (Or.inr (by omega)) (fun y hy => by have := hapo y (List.mem_append_right _ hy); omega), k3 q q1 q2]
      have hzc : ∀ q, pl G ow ≤ q → q < pl G ow + 512 * G.c → dC q = mdD G d ow h q := fun q q1 q2 => by
        rw [hbase _ _ w3' q q1 q2, c7 q (Or.inr (by omega)) (fun y hy => by have := hapo y (List.mem_append_right _ hy); omega)]
      have h142 : fm2 14 = nI h := by rw [w9 14 (by simp), p2 14 (by simp)]; exact hfm14
      obtain ⟨arm3, x1', x2', x3'⟩ := points_ok (nf := nf) (fm := fm2) (arm := arm2) (d := d1) (own := ow) (h := h) (x1 := x1) (x6 := nI (np + 1)) (x9 := nI a) w7 hoC h142 hhb c (by omega)
      obtain ⟨dF, hdF⟩ : ∃ dF, dF = ptM (pl G ow + 32) 1 h (ptM (pl G ow) 0 ow d1) := ⟨_, rfl⟩
      rw [← hdF] at x2'
      have hs0 : SLT dF (pl G ow) (cD 1 ow) := by
        rw [hdF]
        exact (ptM_slt (s := 0) (by omega) (fun i hi => hz1 _ (by omega) (by omega))).off (fun q q1 q2 => ptM_out (by omega))
      have hs1 : SLT dF (pl G ow + 32) (cD 2 h) := by
        rw [hdF]
        exact ptM_slt (s := 1) (by omega) (fun i hi => by rw [ptM_out (by omega)]; exact hz1 _ (by omega) (by omega))
      have hso : ∀ q, (q < pl G ow ∨ pl G ow + 64 ≤ q) → dF q = d1 q := fun q hq => by rw [hdF, ptM_out (by omega), ptM_out (by omega)]
      have hbF : ∀ q, dF q < 256 := by rw [hdF]; exact ptM_lt (ptM_lt w8.1)
      have hdd : dC = dF := funext fun q => by
        by_cases cq : pl G ow ≤ q ∧ q < pl G ow + 64
        · rw [hzc q cq.1 (by omega)]
          by_cases c32 : q < pl G ow + 32
          · obtain ⟨i, rfl⟩ : ∃ i, q = pl G ow + i := ⟨q - pl G ow, by omega⟩
            rw [md2 i (by omega), hs0 i (by omega)]
          · obtain ⟨i, rfl⟩ : ∃ i, q = pl G ow + 32 + i := ⟨q - (pl G ow + 32), by omega⟩
            rw [md3 i (by omega), hs1 i (by omega)]
        · rw [hso q (by omega)]
          refine MKS.same (by omega) w3 w8 ?_
          by_cases ca : q < 512 * G.a
          · exact e2 q ca
          · by_cases cb : ∃ y, y ∈ add ∧ pl G y ≤ q ∧ q < pl G y + 512 * G.c
            · obtain ⟨y, y1, y2, y3⟩ := cb
              rw [c8 y y1 q y2 y3, r8 y y1 q y2 y3]
            · have hno : ∀ y, y ∈ add → (q < pl G y ∨ pl G y + 512 * G.c ≤ q) := fun y hy => by
                apply Decidable.byContradiction
                intro w
                exact cb ⟨y, hy, by omega, by omega⟩
              rw [c7 q (Or.inr (by omega)) hno, r7 q (Or.inr (by omega)) hno, md4 q (by omega)]
      rw [hdd] at w2
      obtain ⟨v, d', fm3, arm4, y1, y2, y3, y4, y5, y6⟩ := fin dF (tkD G d ow) d1 ow 48 fi2 fi ar ar2 fm2 arm3 (Or.inr ⟨rfl, hoC, l3, rfl, hs0, by rw [hpz]; exact hs1, hso, hbF⟩) (by omega) w8 w2 x2'.1 w4 ((u3.as.mono (by simp)).tr w5) ((p2.mono (by simp)).tr (w9.mono (by simp))) ((((p3.mono (by simp)).tr (v3.as.mono (by simp))).tr (w10.mono (by simp))).tr (x3'.as.mono (by simp)))
      refine ⟨v, Sum.inl v, d', fi2, ar2, 0, 0, fm3, arm4, ?_, by omega, by omega, ?_, Or.inr ⟨rfl, y3⟩, y4, w4, (u3.as.mono (by simp)).tr w5, y5, y6⟩
      · rw [brF c, u1, obnd3_some]
        unfold FX10_make_182 FX10_make_209
        have hlen : ∀ (K : FI → AR → Option ((Int32 ⊕ Nat) × FI × AR × LN × Nat × Nat)), obnd3 (FX2_lengthen nf ln 0 fi arc (nI more)) (fun r12 fi10 ar11 => obnd3 (FX10_placeEntry nf ln fi10 ar11 (nI a) (nI np) 48 (nI ow)) fun r4 fi2 ar3 => K fi2 ar3) = K fi2 ar2 := fun K => by
          cases hq : FX2_lengthen nf ln 0 fi arc (nI more) with
          | none => rw [hq] at w1; exact absurd w1 (by simp [obnd3])
          | some x =>
            obtain ⟨x1, x2, x3⟩ := x
            rw [hq] at w1
            rw [obnd3_some] at w1 ⊢
            rw [w1, obnd3_some]
        have hsel : (fun (r12 : Unit) (fi10 : FI) (ar11 : AR) => br (x1 = 0) (obnd3 (FX10_placeEntry nf ln fi10 ar11 (nI a) (nI np) 32 (nI ow)) fun r4 fi2 ar3 => obnd3 (FX2_itemsBefore nf ln 0 fi2 ar3 (nI a)) fun r8 fi6 ar7 => some ((Sum.inl r8 : Int32 ⊕ Nat), fi6, ar7, ln, 0, 0)) (obnd3 (FX10_placeEntry nf ln fi10 ar11 (nI a) (nI np) 48 (nI ow)) fun r4 fi2 ar3 => obnd3 (FX2_itemsBefore nf ln 0 fi2 ar3 (nI a)) fun r8 fi6 ar7 => some ((Sum.inl r8 : Int32 ⊕ Nat), fi6, ar7, ln, 0, 0))) = fun r12 fi10 ar11 => obnd3 (FX10_placeEntry nf ln fi10 ar11 (nI a) (nI np) 48 (nI ow)) fun r4 fi2 ar3 => obnd3 (FX2_itemsBefore nf ln 0 fi2 ar3 (nI a)) fun r8 fi6 ar7 => some ((Sum.inl r8 : Int32 ⊕ Nat), fi6, ar7, ln, 0, 0) := by
          funext r12 fi10 ar11; rw [brF c]
        rw [hsel, hlen]
        exact y1
      · rw [brF c, v1, obnd3_some, w6, x1']
        exact y2
  · -- there is none
    have f1 : M_fails nf fm1 arm1 1 3 = _ := fails_eq (nf := nf) (ar := arm1) h51 (t := 1) (by decide) 3 (by decide)
    rw [if_neg (by decide), if_neg (by decide)] at f1
    rw [hC1, hM1, hM2, brF (nI_ge (by omega) (by omega))]
    unfold M_make_284
    rw [f1, obnd3_some, brF (show ¬ (1 : Int32) = 0 by decide)]
    exact ⟨_, _, d, fi, ar, 1, 6, _, arm1, rfl, by omega, by omega, rfl, Or.inl ⟨rfl, va_up_self _ _ _⟩, hV1.upM, offF.rf, offAs.rf, oM1.up (by simp [oFM]), oA1⟩
