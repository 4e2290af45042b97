/-! letter answers alike -/
theorem VOL.offS {n h : Nat} {ln : LN} {fi fi' fm : FI} {ar ar' arm : AR} {d : Nat → Nat} (hV : VOL n ln fi ar fm arm d h) {S T : List Nat} (hf : offF S fi fi') (ha : offAs T ar ar') (hS : ∀ j, j ∈ S → j ∉ [0, 1, 2, 4, 5, 6, 7, 8, 9, 10]) (hT : ∀ j, j ∈ T → j ≠ 0) : VOL n ln fi' ar' fm arm d h := by
  refine hV.offC hf ha (fun j hj q => hS j hj (by simp at q ⊢; omega)) hT hV.2.2.2.2.2.2.1 hV.2.2.2.2.2.2.2.1 ?_
  have e : ∀ j, j ∈ [0, 1, 2, 4, 5, 6, 7, 8, 9, 10] → fi' j = fi j := fun j hj => hf j (fun q => hS j q hj)
  rcases hV.2.2.2.2.2.2.2.2.2.2.2.1 with w | ⟨w1, w2⟩
  · left; rw [e 1 (by simp)]; exact w
  · right
    refine ⟨by rw [e 1 (by simp)]; exact w1, fun hh => ?_⟩
    unfold CG
    rw [e 2 (by simp), e 4 (by simp), e 5 (by simp), e 6 (by simp), e 7 (by simp), e 8 (by simp), e 9 (by simp), e 10 (by simp)]
    exact w2 hh
theorem DOK.item {G : Geo} {d : Nat → Nat} {f : Nat} (hD : DOK G d f) {e : Nat × Nat} (he : e ∈ dI G d f) : e.1 < (cl G d f).length * (16 * G.c) ∧ e.2 ≤ 20 ∧ e.2 ≤ e.1 := by
  have := hits_of (dE_le G d f) (fun t t1 t2 => (hD.2.2.1 t t1 t2).1) e he
  exact this
theorem M_item_eq {nf n h : Nat} {ln : LN} {fi fm : FI} {ar arm : AR} {d : Nat → Nat} {j b q : Nat} (m1 : M_folderHere nf fm arm = some (nI j, fm, arm)) (m2 : j < 16400) (m3 : arm 25 j = nI b) : M_item nf fm arm (nI q) = some (nI (b + q), fm, arm) := by
  unfold M_item
  rw [m1, obnd3_some, zgd (by omega) (by omega), nI_clamp (by omega), m3, nI_add]
theorem letter_alike {nf n h : Nat} {ln : LN} {fi fm : FI} {ar arm : AR} {d : Nat → Nat} (hV : VOL n ln fi ar fm arm d h) (x1 x2 : Int32) (hnf : 40000 ≤ nf) : ∃ v r fi' ar' ln' kc ks fm' arm', FX10_letter nf fi ar ln x1 x2 = some (r, fi', ar', ln', kc, ks) ∧ M_letter nf fm arm x1 x2 = some (v, fm', arm') ∧ ((r = Sum.inr 0 ∧ fm' 5 = 1) ∨ (r = Sum.inr 1 ∧ fm' 5 = 2) ∨ (r = Sum.inl v ∧ fm' 5 = 0)) ∧ VOL n ln' fi' ar' fm' arm' d h ∧ CST ln ln' kc ks 2 12 ∧ offF [1, 4, 5, 6, 7, 8, 9, 10, 11, 20, 21, 22, 23, 24, 25, 40, 41, 42, 43, 44, 45, 60, 62, 63] fi fi' ∧ offAs [3, 4, 5, 10, 11, 12, 13, 18, 19, 20, 21, 30, 32, 33, 42] ar ar' ∧ offF [5, 7, 8, 9, 10, 11, 12, 13, 15, 16, 17, 18, 31, 32, 33, 35, 36, 37, 38] fm fm' ∧ offAs [19, 20, 21, 22, 23, 24, 25, 26, 27, 28, 29, 30, 34] arm arm' := by
  obtain ⟨fi1, ar1, ln1, k1, s1, r, a1, a2, a3, a4, a5, a6⟩ := openHere_ok hV hnf
  obtain ⟨fm1, arm1, b1, b2, b3, b4⟩ := no_ok a2 x1 hnf
  have a3' : offF [1, 4, 5, 6, 7, 8, 9, 10, 11, 20, 21, 22, 23, 24, 25, 40, 41, 42, 43, 44, 45, 60, 62, 63] fi fi1 := a3.mono (by simp)
  have a4' : offAs [3, 4, 5, 10, 11, 12, 13, 18, 19, 20, 21, 30, 32, 33, 42] ar ar1 := fun j hj => a4 j (fun w => hj (by simp at w ⊢; omega))
  have cst : ∀ k s, k ≤ 1 → s ≤ 6 → CST ln ln1 (k1 + (k + 0)) (s1 + (s + 0)) 2 12 := fun k s hk hs => by
    obtain ⟨c1, c2, c3⟩ := a5
    exact ⟨c1, by omega, by omega⟩
  unfold FX10_letter M_letter M_letter_22
  rw [a1, obnd6_some]
  rcases a6 with ⟨q, rfl⟩ | ⟨q, rfl, c1, c2⟩
  · rcases b4 with ⟨_, e1, e2⟩ | ⟨e0, _⟩ | ⟨e0, _⟩
    · rw [e1, obnd3_some, brF (by decide)]
      exact ⟨_, _, fi1, ar1, ln1, _, _, fm1, arm1, rfl, rfl, Or.inl ⟨rfl, e2⟩, b1, cst 0 0 (by omega) (by omega), a3', a4', b2, b3⟩
    · exact absurd e0 q
    · exact absurd e0 q
  · obtain ⟨D, ρ, hS, hfD, hhD⟩ := a2.snd q
    have hDk := hS.2.2.1 _ hfD
    have hsc : ∀ (f : Unit → Option ((Int32 ⊕ Nat) × FI × AR × LN × Nat × Nat)) g, sumc (Sum.inl () : Unit ⊕ Nat) f g = f () := fun f g => rfl
    rw [hsc]
    rcases itemAt_ok (nf := nf) c2 hDk x1 with ⟨w1, w2⟩ | ⟨qi, w1, w2, w3⟩
    · rcases b4 with ⟨e0, _⟩ | ⟨_, _, e1, e2⟩ | ⟨_, e0, _⟩
      · exact absurd q e0
      · rw [w2, obnd6_some, e1, obnd3_some, brF (by decide)]
        exact ⟨_, _, fi1, ar1, ln1, _, _, fm1, arm1, rfl, rfl, Or.inr (Or.inl ⟨rfl, e2⟩), b1, cst 1 6 (by omega) (by omega), a3', a4', b2, b3⟩
      · exact absurd e0 w1
    · rcases b4 with ⟨e0, _⟩ | ⟨_, e0, _⟩ | ⟨_, _, e1, e2, e3, e4, ms, hK⟩
      · exact absurd q e0
      · exact absurd ⟨qi, w1, w2⟩ e0
      · obtain ⟨j, b, N, U, m1, m2, m3, m4, m5, m6, m7, m8, m9, _⟩ := here_model b1 q hK hnf
        obtain ⟨hW, hLC, hDC, hI, h22, L, hL, hle⟩ := c2
        have hG := hW.2.2.1
        have bb := hG.b
        have hkl := (lnk_clu hDk.1).len
        have hkn : (geoOf n d).k ≤ (geoOf n d).n / 2 := by
          have : (geoOf n d).k * 2 ≤ (geoOf n d).k * (geoOf n d).c := Nat.mul_le_mul_left _ (by omega)
          omega
        obtain ⟨e, he⟩ : ∃ e, e = (dI (geoOf n d) d (hf (geoOf n d) h)).getD qi (0, 0) := ⟨_, rfl⟩
        have hem : e ∈ dI (geoOf n d) d (hf (geoOf n d) h) := by rw [he, List.getD_eq_getElem?_getD, List.getElem?_eq_getElem w1]; exact List.getElem_mem w1
        have hit := hDk.item hem
        have c10 := hLC.2.2.2.2.2.2.1 0 (by omega)
        have c30 := hLC.2.2.2.2.2.2.2.1 0 (by omega)
        have hso := slotOf_eq (nf := nf) hI hL hle w1
        have hpo := partsOf_eq (nf := nf) hI hL hle w1
        rw [← he] at hso hpo
        obtain ⟨fi2, ar2, r1, r2, r3, r4, r5⟩ := read_ok (nf := nf) (i1 := 0) (j := 0) hG hW.1 (lnk_clu hDk.1) (by omega) (by omega) (by omega) c30 hLC.1 hit.2.1 hit.2.2 hit.1 (by omega) hDC
        have hnb := nm_of hG hW.1 hLC.1 (lnk_clu hDk.1) hit.1 hit.2.1
        have hmi := m9 qi w1
        rw [← he] at hmi
        obtain ⟨u, u1, u2, u3, u4⟩ := hmi.2.2.2.2
        have hnb' : (nm d (dA (geoOf n d) d (hf (geoOf n d) h)) e.1 e.2).length ≤ 260 ∧ ∀ x, x ∈ nm d (dA (geoOf n d) d (hf (geoOf n d) h)) e.1 e.2 → x < 65536 := hnb
        have r2' : NB fi2 ar2 0 (nm d (dA (geoOf n d) d (hf (geoOf n d) h)) e.1 e.2) := r2
        have key : ∃ v, FX6_encodedByte nf ln1 0 fi2 ar2 x2 = some (v, fi2, ar2) ∧ M_text nf fm1 arm1 (nI (b + qi)) x2 = some (v, fm1, arm1) := by
          by_cases hx : x2 < 0
          · refine ⟨-1, ?_, ?_⟩
            · unfold FX6_encodedByte
              obtain ⟨kf, hkf⟩ : ∃ k, nf = k + 1 := ⟨nf - 1, by omega⟩
              rw [show FX6_encodedByte_4 nf ln1 0 nf = FX6_encodedByte_4b (FX6_encodedByte_4 nf ln1 0 kf) nf ln1 0 by rw [show FX6_encodedByte_4 nf ln1 0 nf = FX6_encodedByte_4 nf ln1 0 (kf + 1) by rw [← hkf]]; rfl]
              unfold FX6_encodedByte_4b FX6_encodedByte_76
              rw [brT hx]
              unfold br
              split <;> rfl
            · unfold M_text
              obtain ⟨kf, hkf⟩ : ∃ k, nf = k + 1 := ⟨nf - 1, by omega⟩
              rw [show M_text_5 nf nf = M_text_5b (M_text_5 nf kf) nf by rw [show M_text_5 nf nf = M_text_5 nf (kf + 1) by rw [← hkf]]; rfl]
              unfold M_text_5b M_text_125
              rw [zgd (by omega) (by omega), brT hx]
              unfold br
              split <;> rfl
          · obtain ⟨v, t1, t2⟩ := text_loop (nf := nf) (ln := ln1) (fm := fm1) (show b + qi < 16400 by omega) u1 u2 (by omega) u4 r2' hnb'.2 hnb'.1 c30 hx _ 0 nf nf x2 (Nat.zero_add _) (by omega) (by omega) hx
            exact ⟨v, t1, t2⟩
        obtain ⟨v, k1', k2'⟩ := key
        rw [w3, obnd6_some]
        have hsc2 : ∀ (x : Int32) (f : Int32 → Option ((Int32 ⊕ Nat) × FI × AR × LN × Nat × Nat)) g, sumc (Sum.inl x : Int32 ⊕ Nat) f g = f x := fun x f g => rfl
        rw [hsc2, w2, hso, obnd3_some, hpo, obnd3_some, r1, obnd3_some, k1', obnd3_some, ← w2, e1, obnd3_some, brT rfl, w2, M_item_eq (n := n) (h := h) (ln := ln) (fi := fi) (ar := ar) (d := d) m1 m2 m3, obnd3_some, k2', obnd3_some]
        exact ⟨_, _, fi2, ar2, ln1, _, _, fm1, arm1, rfl, rfl, Or.inr (Or.inr ⟨rfl, e2⟩), b1.offS r4 r5.as (by simp) (by simp), cst 0 0 (by omega) (by omega), a3'.tr (r4.mono (by simp)), a4'.tr (fun j hj => r5 j (fun w => hj (by rw [w]; simp))), b2, b3⟩
