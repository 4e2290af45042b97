/-! make answers alike -/
theorem make_alike {nf n h T : Nat} {ln : LN} {fi fm : FI} {ar arm : AR} {d : Nat → Nat} (hV0 : VOL n ln fi ar fm arm d h) (hT : TAP fi ar fm arm T) (x1 : Int32) (hnf : 600000 ≤ nf) : ∃ v r d' fi' ar' ln' kc ks fm' arm', FX10_make nf fi ar ln x1 = some (r, fi', ar', ln', kc, ks) ∧ M_make nf fm arm x1 = some (v, fm', arm') ∧ ((r = Sum.inr 0 ∧ fm' 5 = 1) ∨ (r = Sum.inr 2 ∧ fm' 5 = 2) ∨ (r = Sum.inr 3 ∧ fm' 5 = 3) ∨ (r = Sum.inl v ∧ fm' 5 = 0)) ∧ VOL n ln' fi' ar' fm' arm' d' h ∧ CST ln ln' kc ks 2 12 ∧ TAP fi' ar' fm' arm' 0 := by
  obtain ⟨T1, T2, T3, T4, T5⟩ := hT
  have hVa : VOL n ln (va_up fi 3 0) ar fm arm d h := hV0.offC (S := [3]) (T := []) (offF.rf.up (by simp)) offAs.rf (by simp) (by simp) hV0.2.2.2.2.2.2.1 hV0.2.2.2.2.2.2.2.1 (by
    rcases hV0.2.2.2.2.2.2.2.2.2.2.2.1 with w | ⟨w1, w2⟩
    · left; rw [va_up_off (by decide)]; exact w
    · right; exact ⟨by rw [va_up_off (by decide)]; exact w1, fun hh => (w2 hh).up (by simp)⟩)
  obtain ⟨fi1, ar1, ln1, k1, s1, r0, a1, a2, a3, a4, a5, a6⟩ := openHere_ok (nf := nf) hVa (by omega)
  obtain ⟨fm1, arm1, b1, b2, b3, b4⟩ := none_ok (nf := nf) a2 (by omega)
  have hT1 : ∀ j, j < 4096 → ar1 1 j = arm1 2 j := fun j hj => by rw [a4 1 (by simp), b3 2 (by simp)]; exact T4 j hj
  have h14 : fm1 4 = nI T := by rw [b2 4 (by simp)]; exact T3
  obtain ⟨fm2, arm2, n1, n2, n3, n4, n5⟩ := named_ok (nf := nf) (ar := ar1) (T := T) T1 h14 hT1 (by omega)
  have b1' : VOL n ln1 fi1 ar1 fm2 arm2 d h := b1.offM n4 n5.as (by simp) (by simp)
  have hTap : ∀ {S1 S2 T1' T2' : List Nat} {fi' fm' : FI} {ar' arm' : AR}, offF S1 fi1 fi' → offAs T1' ar1 ar' → offF S2 fm2 fm' → offAs T2' arm2 arm' → 3 ∉ S1 → (1 ∉ T1' ∧ 2 ∉ T1') → (4 ∉ S2 ∧ 6 ∉ S2) → (2 ∉ T2' ∧ 3 ∉ T2') → TAP fi' ar' fm' arm' 0 := fun h1 h2 h3 h4 c1 c2 c3 c4 => by
    have hT0 : TAP fi1 ar1 fm2 arm2 0 := ⟨by omega, by rw [a3 3 (by simp), va_up_self]; rfl, by rw [n3]; rfl, fun j hj => by rw [n5 2 (by decide)]; exact hT1 j hj, by
      rw [n4 6 (by simp), b2 6 (by simp), n5 3 (by decide), b3 3 (by simp), a4 2 (by simp)]; exact T5⟩
    exact hT0.off h1 h2 h3 h4 c1 c2 c3 c4
  have cst : ∀ k s, k ≤ 1 → s ≤ 6 → CST ln ln1 (k1 + k) (s1 + s) 2 12 := fun k s hk hs => by
    obtain ⟨c1, c2, c3⟩ := a5
    exact ⟨c1, by omega, by omega⟩
  unfold FX10_make M_make FX8_take
  rw [bnd_eq, bnd_eq, obnd3_some, T2, a1, obnd6_some]
  rcases a6 with ⟨hz, rfl⟩ | ⟨hz, rfl, h1, hH⟩
  · rcases b4 with ⟨_, m1, m2⟩ | ⟨m1, _⟩
    · rw [sumcR, m1, obnd3_some, n1, obnd3_some, brF (show ¬ (1 : Int32) = 0 by decide)]
      exact ⟨_, _, d, fi1, ar1, ln1, _, _, fm2, arm2, rfl, rfl, Or.inl ⟨rfl, by rw [n4 5 (by simp)]; exact m2⟩, b1', cst 0 0 (by omega) (by omega), hTap offF.rf offAs.rf offF.rf offAs.rf (S1 := []) (S2 := []) (T1' := []) (T2' := []) (by simp) (by simp) (by simp) (by simp)⟩
    · exact absurd m1 hz
  · rcases b4 with ⟨m1, _⟩ | ⟨_, m1, m2, m3, m4, _⟩
    · exact absurd hz m1
    · rw [sumcL, m1, obnd3_some, n1, obnd3_some, brT rfl]
      have m2' : fm2 5 = 0 := by rw [n4 5 (by simp)]; exact m2
      have hK : ∃ ms, KNW fm2 arm2 (geoOf n d) d ms := by
        rcases b1'.2.2.2.2.2.2.2.2.2.2.2.2.1 with w | ⟨_, _, _, w⟩
        · have e : fm2 15 = 1 := by rw [n4 15 (by simp)]; exact m3
          rw [e] at w; exact absurd w (by decide)
        · exact w hz
      obtain ⟨ms, hK⟩ := hK
      obtain ⟨D, ρ, t2, t3, t4⟩ := b1'.snd hz
      obtain ⟨j, b, NN, U, y1, y2, y3, y4, y5, y6, y7, y8, y9, y10, y11, y12, y13, y14, y15⟩ := here_model b1' hz hK (nf := nf) (by omega)
      have hDk := t2.2.2.1 _ t3
      have hG := hH.1.2.2.1
      have bG := hG.b
      have hLC := hH.2.1
      have hl1 : ln1 1 = 4096 := hLC.2.1
      have hl30 : ln1 30 = 260 := hLC.2.2.2.2.2.2.2.1 0 (by omega)
      have hl40 : ln1 40 = 11 := (hLC.2.2.2.2.2.2.2.2 0 (by omega)).1
      have hNf := tnm_facts (ar := ar1) T1
      have hits : ∀ e, e ∈ dI (geoOf n d) d (hf (geoOf n d) h) → dA (geoOf n d) d (hf (geoOf n d) h) e.1 + 32 ≤ 524288 := fun e he => by
        have := slot_in hG (lnk_clu hDk.1) (hDk.item he).1
        have h2 : dA (geoOf n d) d (hf (geoOf n d) h) e.1 = sa (geoOf n d) (cl (geoOf n d) d (hf (geoOf n d) h)) e.1 := rfl
        rw [h2]; omega
      have hitn : ∀ e, e ∈ dI (geoOf n d) d (hf (geoOf n d) h) → (nm d (dA (geoOf n d) d (hf (geoOf n d) h)) e.1 e.2).length ≤ 260 ∧ ∀ x, x ∈ nm d (dA (geoOf n d) d (hf (geoOf n d) h)) e.1 e.2 → x < 65536 := fun e he => nm_of hG hH.1.1 hH.1.2.2.2 (lnk_clu hDk.1) (hDk.item he).1 (hDk.item he).2.1
      have hRW2 : RW fm2 arm2 (geoOf n d) d := y10.1
      have hBG : BG fm2 arm2 d (geoOf n d).r j (hf (geoOf n d) h) := by
        unfold fsF at y14
        by_cases c : j = 0
        · rw [if_pos c] at y14; exact Or.inl ⟨c, y14.symm, hRW2.2.1.2.2.2.2.2.1⟩
        · rw [if_neg c] at y14
          have hj := (y10.2.2.2.2.2.2.2.1 j (by omega) y15).1
          exact Or.inr ⟨c, pA arm2 j, (nI_uv _).symm, hj, y14.symm⟩
      -- a refusal
      have bad : ∀ (fi' : FI) (ar' : AR) (S1 T1' : List Nat) (arm' : AR) (T2' : List Nat), offF S1 fi1 fi' → offAs T1' ar1 ar' → offAs T2' arm2 arm' → VOL n ln1 fi' ar' fm2 arm' d h → 3 ∉ S1 → (1 ∉ T1' ∧ 2 ∉ T1') → (2 ∉ T2' ∧ 3 ∉ T2') → VOL n ln1 fi' ar' (va_up fm2 5 2) arm' d h ∧ TAP fi' ar' (va_up fm2 5 2) arm' 0 := fun fi' ar' S1 T1' arm' T2' o1 o2 o3 hv c1 c2 c3 => ⟨hv.upM, hTap o1 o2 (S2 := [5]) (offF.rf.up (by simp)) o3 c1 c2 (by simp) c3⟩
      have hVC : ∀ (fi' : FI) (ar' : AR) (S1 T1' : List Nat) (arm' : AR) (T2' : List Nat), offF S1 fi1 fi' → offAs T1' ar1 ar' → offAs T2' arm2 arm' → (∀ j, j ∈ S1 → j ∉ [0, 1, 2, 4, 5, 6, 7, 8, 9, 10]) → (∀ j, j ∈ T1' → j ≠ 0) → (∀ j, j ∈ T2' → j ∉ [1, 19, 20, 21, 22, 23, 24, 25, 26, 27, 28]) → VOL n ln1 fi' ar' fm2 arm' d h := fun fi' ar' S1 T1' arm' T2' o1 o2 o3 c1 c2 c3 => by
        have hv : VOL n ln1 fi' ar' fm2 arm2 d h := b1'.offC o1 o2 (fun j hj w => c1 j hj (by simp at w ⊢; omega)) c2 hLC b1'.2.2.2.2.2.2.2.1 (Or.inr ⟨by rw [o1 1 (fun w => c1 1 w (by simp)), h1, hz], fun hh => by
          have := hH.1.2.1
          unfold CG at this ⊢
          rw [o1 2 (fun w => c1 2 w (by simp)), o1 4 (fun w => c1 4 w (by simp)), o1 5 (fun w => c1 5 w (by simp)), o1 6 (fun w => c1 6 w (by simp)), o1 7 (fun w => c1 7 w (by simp)), o1 8 (fun w => c1 8 w (by simp)), o1 9 (fun w => c1 9 w (by simp)), o1 10 (fun w => c1 10 w (by simp))]
          exact this⟩)
        exact hv.offM (S := []) (T := T2') offF.rf o3 (by simp) c3
      have f1 : ∀ arm, M_fails nf fm2 arm 1 2 = some (1, va_up fm2 5 2, arm) := fun arm => by
        have : M_fails nf fm2 arm 1 2 = _ := fails_eq (nf := nf) (ar := arm) m2' (t := 1) (by decide) 2 (by decide)
        rw [if_neg (by decide), if_neg (by decide)] at this
        exact this
      have f0 : ∀ arm, M_fails nf fm2 arm 0 2 = some (0, fm2, arm) := fun arm => by
        have : M_fails nf fm2 arm 0 2 = _ := fails_eq (nf := nf) (ar := arm) m2' (t := 0) (by decide) 2 (by decide)
        rw [if_pos rfl, if_pos rfl] at this
        exact this
      have hno : ∀ arm, M_make_30 nf x1 fm2 arm = some (0, va_up fm2 5 2, arm) := fun arm => by
        unfold M_make_30 M_make_35 M_make_42
        rw [f1, obnd3_some, brF (show ¬ (1 : Int32) = 0 by decide)]
      obtain ⟨r1, fi2, ar2, c1, c2, c3, c4⟩ := readTape_ok (nf := nf) (ln := ln1) (fi := fi1) (ar := ar1) T1 hl1 hl30 (by omega)
      rw [c1, obnd3_some]
      unfold FX10_make_34
      rcases c4 with ⟨rfl, hN, hNB⟩ | ⟨rfl, hN⟩
      · rw [if_pos hN, brF (show ¬ (1 : Int32) = 0 by decide), brF (show ¬ (1 : Int32) = 0 by decide)]
        -- alike names
        have hH2 := hH.off c2 c3.as (by simp) (by simp)
        obtain ⟨fi3, ar3, r2, d1, d2, d3, d4⟩ := alikeHere_ok (nf := nf) hH2 hDk hNB ⟨by omega, hNf.2⟩ (by omega)
        obtain ⟨r3, e1, e2⟩ := M_isTaken_eq (nf := nf) (fi := fm2) (ar := arm2) y2 y9 (by omega) y8 y3 y5 n2 hNf.2 (by omega) hitn (by omega)
        rw [d1, obnd3_some, y1, obnd3_some, e1, obnd3_some]
        have o3F : offF [60, 61] fi1 fi3 := (c2.mono (by simp)).tr (d3.mono (by simp))
        have o3A : offAs [30, 31] ar1 ar3 := (c3.as.mono (by simp)).tr (d4.mono (by simp))
        by_cases hal : ∃ e, e ∈ dI (geoOf n d) d (hf (geoOf n d) h) ∧ alk (nm d (dA (geoOf n d) d (hf (geoOf n d) h)) e.1 e.2) (tnm ar1 T)
        · have er2 : r2 = 1 := by rcases d2 with w | w; exact w.1; exact absurd hal w.2
          have er3 : r3 = 1 := by rcases e2 with w | w; exact w.1; exact absurd hal w.2
          rw [er2, er3, brF (show ¬ (1 : Int32) = 0 by decide), brF (show ¬ nI 1 = 0 by decide), hno]
          obtain ⟨g1, g2⟩ := bad fi3 ar3 [60, 61] [30, 31] arm2 [] o3F o3A offAs.rf (hVC fi3 ar3 [60, 61] [30, 31] arm2 [] o3F o3A offAs.rf (by simp) (by simp) (by simp)) (by simp) (by simp) (by simp)
          exact ⟨_, _, d, fi3, ar3, ln1, _, _, _, arm2, rfl, rfl, Or.inr (Or.inl ⟨rfl, va_up_self _ _ _⟩), g1, cst 1 6 (by omega) (by omega), g2⟩
        · have er2 : r2 = 0 := by rcases d2 with w | w; exact absurd w.2 hal; exact w.1
          have er3 : r3 = 0 := by rcases e2 with w | w; exact absurd w.2 hal; exact w.1
          rw [er2, er3, brT rfl, brT (show nI 0 = 0 from rfl)]
          have hH3 := hH2.off d3 d4 (by simp) (by simp)
          have hNB3 : NB fi3 ar3 0 (tnm ar1 T) := hNB.off d3 d4 (by simp) (by simp)
          obtain ⟨r4, ar4, u1, u2, u3⟩ := readShown_ok (nf := nf) (ln := ln1) hl40 hl30 ⟨hNf.1, hNf.2⟩ hNB3 (by omega)
          obtain ⟨r5, arm3, v1, v2, v3⟩ := isBrief_ok (nf := nf) (fm := fm2) (arm := arm2) ⟨hNf.1, hNf.2⟩ n2 (by omega)
          have o4A : offAs [30, 31, 40, 41] ar1 ar4 := (o3A.mono (by simp)).tr (u2.as.mono (by simp))
          have o3M : offAs [39, 40, 41] arm2 arm3 := v2.as.mono (by simp)
          have hH4 := hH3.off (S := []) (T := [40]) offF.rf u2.as (by simp) (by simp)
          have hNB4 : NB fi3 ar4 0 (tnm ar1 T) := hNB3.off (S := []) (T := [40]) offF.rf u2.as (by simp) (by simp)
          have hMIT3 := y9.off v2.as (by simp)
          have hRW3 : RW fm2 arm3 (geoOf n d) d := hRW2.off (S := []) (T := [39]) offF.rf v2.as (by simp) (by simp)
          have hMN3 : MN fm2 arm3 (tnm ar1 T) := ⟨n2.1, fun i hi => by rw [v2 34 (by decide)]; exact n2.2 i hi⟩
          unfold M_make_35
          rw [u1, obnd3_some, f0, obnd3_some, brT rfl, y1, obnd3_some, v1, obnd3_some]
          -- the common end
          have rest : ∀ (np : Nat) (B : Nat → Nat) (fi5 : FI) (ar5 : AR) (arm5 : AR), offF [60, 61, 70] fi1 fi5 → offAs [30, 31, 40, 41] ar1 ar5 → offAs [39, 40, 41] arm2 arm5 → (∀ i, i < 11 → ar5 40 i = nI (B i)) → (∀ i, i < 11 → arm5 39 i = nI (B i)) → shK B → NB fi5 ar5 0 (tnm ar1 T) → (¬ ∃ e, e ∈ dI (geoOf n d) d (hf (geoOf n d) h) ∧ shB d (dA (geoOf n d) d (hf (geoOf n d) h)) B e) → np ≤ 20 → ((np = 0 ∧ brOK (tnm ar1 T) ∧ ∀ i, i < 11 → B i = brB (tnm ar1 T) i) ∨ (1 ≤ np ∧ ((tnm ar1 T).length + 12) / 13 = np)) → ∃ v r d' fi' ar' ln' kc ks fm' arm', addc k1 s1 (FX10_make_107 nf x1 (nI np) fi5 ar5 ln1) = some (r, fi', ar', ln', kc, ks) ∧ M_make_116 nf x1 (nI j) (nI (np + 1)) fm2 arm5 = some (v, fm', arm') ∧ ((r = Sum.inr 0 ∧ fm' 5 = 1) ∨ (r = Sum.inr 2 ∧ fm' 5 = 2) ∨ (r = Sum.inr 3 ∧ fm' 5 = 3) ∨ (r = Sum.inl v ∧ fm' 5 = 0)) ∧ VOL n ln' fi' ar' fm' arm' d' h ∧ CST ln ln' kc ks 2 12 ∧ TAP fi' ar' fm' arm' 0 := fun np B fi5 ar5 arm5 o1 o2 o3 hB1 hB2 hK hNB5 hfree hnp hcase => by
            have hV5 := hVC fi5 ar5 _ _ arm5 _ o1 o2 o3 (by simp) (by simp) (by simp)
            have hH5 := hH.off o1 o2 (by simp) (by simp)
            have hRW5 : RW fm2 arm5 (geoOf n d) d := hRW2.off (S := []) (T := [39, 40, 41]) offF.rf o3 (by simp) (by simp)
            have hBG5 : BG fm2 arm5 d (geoOf n d).r j (hf (geoOf n d) h) := by
              rcases hBG with ⟨w1, w2, w3⟩ | ⟨w1, p, w2, w3⟩
              · exact Or.inl ⟨w1, w2, w3⟩
              · exact Or.inr ⟨w1, p, by rw [o3 20 (by simp)]; exact w2, w3⟩
            obtain ⟨v, r, d', fi', ar', k, s, fm', arm', g1, g2, g3, g4, g5, g6, g7, g8, g9, g10⟩ := mk_rest (nf := nf) (np := np) (j := j) (B := B) (N := tnm ar1 T) (x1 := x1) hV5 hz t2 t3 t4 hH5 (by rw [o1 1 (by simp)]; exact h1) m2' hRW5 y2 hBG5 hNB5 ⟨n2.1, fun i hi => by rw [o3 34 (by simp)]; exact n2.2 i hi⟩ hN hNf.2 hB1 hB2 hK ⟨hfree, hal⟩ hnp hcase hnf
            have hTp : TAP fi' ar' fm' arm' 0 := hTap (S1 := [21, 23, 24, 60, 61, 70]) (T1' := [0, 10, 30, 31, 40, 41]) (S2 := oFM) (T2' := 39 :: 40 :: 41 :: 1 :: oAM) ((o1.mono (by simp)).tr (g7.mono (by simp))) ((o2.mono (by simp)).tr (g8.mono (by simp))) g9 ((o3.mono (by simp)).tr (g10.mono (fun z hz => List.mem_cons_of_mem _ (List.mem_cons_of_mem _ (List.mem_cons_of_mem _ hz))))) (by simp) (by simp) (by simp [oFM]) (by simp [oAM])
            refine ⟨v, r, d', fi', ar', ln1, k1 + k, s1 + s, fm', arm', by rw [g1]; rfl, g4, ?_, g6, cst k s g2 g3, hTp⟩
            rcases g5 with w | w
            · exact Or.inr (Or.inr (Or.inl w))
            · exact Or.inr (Or.inr (Or.inr w))
          by_cases hbr : brOK (tnm ar1 T)
          · -- a short name as shown
            obtain ⟨er4, hB4⟩ : r4 = 1 ∧ ∀ j, j < 11 → ar4 40 j = nI (brB (tnm ar1 T) j) := by rcases u3 with w | w; exact ⟨w.1, w.2.2⟩; exact absurd hbr w.2
            obtain ⟨er5, hB5⟩ : r5 = 1 ∧ ∀ j, j < 11 → arm3 39 j = nI (brB (tnm ar1 T) j) := by rcases v3 with w | w; exact ⟨w.1, w.2.2⟩; exact absurd hbr w.2
            have hKb := shK_brief hbr
            obtain ⟨r6, w1, w2⟩ := hasShort_ok (nf := nf) (B := brB (tnm ar1 T)) hH4 hDk (fun i hi => ⟨hB4 i hi, by have := hKb.1 i hi; omega⟩) (by omega)
            obtain ⟨r7, z1, z2⟩ := bTaken_ok (nf := nf) (fm := fm2) (arm := arm3) (B := brB (tnm ar1 T)) hRW3.1 y2 hMIT3 (by omega) (by rw [v2 25 (by decide)]; exact y3) (by rw [v2 24 (by decide)]; exact y5) hits (fun i hi => ⟨hB5 i hi, by have := hKb.1 i hi; omega⟩) (by omega)
            rw [er4, er5, brF (show ¬ (1 : Int32) = 0 by decide), brF (show ¬ (1 : Int32) = 0 by decide), w1, obnd3_some, z1, obnd3_some]
            by_cases htk : ∃ e, e ∈ dI (geoOf n d) d (hf (geoOf n d) h) ∧ shB d (dA (geoOf n d) d (hf (geoOf n d) h)) (brB (tnm ar1 T)) e
            · have er6 : r6 = 1 := by rcases w2 with w | w; exact w.1; exact absurd htk w.2
              have er7 : r7 = 1 := by rcases z2 with w | w; exact w.1; exact absurd htk w.2
              rw [er6, er7, brF (show ¬ (1 : Int32) = 0 by decide), brF (show ¬ (1 : Int32) = 0 by decide)]
              unfold M_make_76
              rw [f1, obnd3_some, brF (show ¬ (1 : Int32) = 0 by decide)]
              obtain ⟨g1, g2⟩ := bad fi3 ar4 [60, 61] [30, 31, 40, 41] arm3 [39, 40, 41] o3F o4A o3M (hVC fi3 ar4 _ _ arm3 _ o3F o4A o3M (by simp) (by simp) (by simp)) (by simp) (by simp) (by simp)
              exact ⟨_, _, d, fi3, ar4, ln1, _, _, _, arm3, rfl, rfl, Or.inr (Or.inl ⟨rfl, va_up_self _ _ _⟩), g1, cst 1 6 (by omega) (by omega), g2⟩
            · have er6 : r6 = 0 := by rcases w2 with w | w; exact absurd w.2 htk; exact w.1
              have er7 : r7 = 0 := by rcases z2 with w | w; exact absurd w.2 htk; exact w.1
              rw [er6, er7, brT rfl, brT rfl]
              unfold FX10_make_84 FX10_make_92 M_make_75 M_make_76 M_make_96
              rw [brF (show ¬ (1 : Int32) = 0 by decide), brF (show ¬ (1 : Int32) = 0 by decide), f0, obnd3_some, brT rfl, brF (show ¬ (1 : Int32) = 0 by decide), brF (show ¬ (1 : Int32) = 0 by decide)]
              exact rest 0 (brB (tnm ar1 T)) fi3 ar4 arm3 (o3F.mono (by simp)) o4A o3M hB4 hB5 hKb hNB4 htk (by omega) (Or.inl ⟨rfl, hbr, fun _ _ => rfl⟩)
          · -- a name with parts
            have er4 : r4 = 0 := by rcases u3 with w | w; exact absurd w.2.1 hbr; exact w.1
            have er5 : r5 = 0 := by rcases v3 with w | w; exact absurd w.2.1 hbr; exact w.1
            obtain ⟨L, hL1, hL2⟩ := hH.2.2.2.2.2
            have hLb := hL1.2.2.2.2
            obtain ⟨K, K1, K2, K3, K4⟩ := tail_least (N := tnm ar1 T) (d := d) (A := dA (geoOf n d) d (hf (geoOf n d) h)) (its := dI (geoOf n d) d (hf (geoOf n d) h)) (by omega)
            obtain ⟨fi5, ar5, w1, w2, w3, w4⟩ := chooseTail_ok (nf := nf) (fi := fi3) (ar := ar4) hH4 hDk ⟨hNf.1, hNf.2⟩ hN.1 hNB4 K1 K2 K3 K4 (by omega)
            obtain ⟨arm5, z1, z2, z3⟩ := shorten_ok (nf := nf) (fm := fm2) (arm := arm3) y2 (by omega) hits ⟨hNf.1, hNf.2⟩ hN.1 hMN3 K1 K2 K3 K4 hRW3.1 hMIT3 (by rw [v2 25 (by decide)]; exact y3) (by rw [v2 24 (by decide)]; exact y5) (by omega)
            have hNl := hNf.1
            have hNB5 : NB fi5 ar5 0 (tnm ar1 T) := hNB4.off w3 w4 (by simp) (by simp)
            have hpw : FX6_partsWanted nf ln1 0 fi5 ar5 = some (nI (((tnm ar1 T).length + 12) / 13), fi5, ar5) := by
              unfold FX6_partsWanted
              rw [show fi5 (60 + 0) = nI (tnm ar1 T).length from hNB5.1, show nI (tnm ar1 T).length + (13 : Int32) = nI ((tnm ar1 T).length + 13) from nI_add _ 13, show nI ((tnm ar1 T).length + 13) - (1 : Int32) = nI ((tnm ar1 T).length + 12) from nI_sub (a := (tnm ar1 T).length + 13) (b := 1) (by omega), show (13 : Int32) = nI 13 from rfl, pk_div (by omega) (by omega) (by omega)]
            have hwh : M_whole nf (fm2 35) 13 = some (nI (((tnm ar1 T).length + 12) / 13)) := by
              rw [n2.1]
              have := whole_eq (nf := nf) (a := (tnm ar1 T).length) (B := 13) (by omega) (by omega) (by omega)
              exact this
            rw [er4, er5, brT rfl, brT rfl]
            unfold FX10_make_84 FX10_make_92 M_make_75 M_make_76 M_make_96
            rw [brT rfl, w1, obnd3_some, brT rfl, hpw, obnd3_some, f0, obnd3_some, brT rfl, brT rfl, z1, obnd3_some, brT rfl, hwh, obnd_some, show (1 : Int32) + nI (((tnm ar1 T).length + 12) / 13) = nI (((tnm ar1 T).length + 12) / 13 + 1) from by rw [show (1 : Int32) = nI 1 from rfl, nI_add, Nat.add_comm]]
            have hlN := hN.1
            exact rest (((tnm ar1 T).length + 12) / 13) (tlB (tnm ar1 T) K) fi5 ar5 arm5 ((o3F.mono (by simp)).tr (w3.mono (by simp))) (o4A.tr (w4.mono (by simp))) (o3M.tr z3) w2 z2 shK_tail hNB5 K3 (by omega) (Or.inr ⟨by omega, rfl⟩)
      · rw [if_neg hN, brT rfl, brT rfl, hno]
        obtain ⟨g1, g2⟩ := bad fi2 ar2 [60] [30] arm2 [] c2 c3.as offAs.rf (hVC fi2 ar2 [60] [30] arm2 [] c2 c3.as offAs.rf (by simp) (by simp) (by simp)) (by simp) (by simp) (by simp)
        exact ⟨_, _, d, fi2, ar2, ln1, _, _, _, arm2, rfl, rfl, Or.inr (Or.inl ⟨rfl, va_up_self _ _ _⟩), g1, cst 1 6 (by omega) (by omega), g2⟩
