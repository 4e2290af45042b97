/-! up answers alike -/
theorem up_alike {nf n h : Nat} {ln : LN} {fi fm : FI} {ar arm : AR} {d : Nat → Nat} (hV : VOL n ln fi ar fm arm d h) (hnf : 40000 ≤ nf) : ∃ v r h' fi' ar' ln' kc ks fm' arm', FX10_up nf fi ar ln = some (r, fi', ar', ln', kc, ks) ∧ M_up nf fm arm = some (v, fm', arm') ∧ ((r = Sum.inr 0 ∧ fm' 5 = 1) ∨ (r = Sum.inl v ∧ fm' 5 = 0)) ∧ VOL n ln' fi' ar' fm' arm' d h' ∧ CST ln ln' kc ks 1 6 ∧ offF (0 :: oFC) fi fi' ∧ offAs oAC ar ar' ∧ offF (14 :: oFM) fm fm' ∧ offAs oAM arm arm' := by
  obtain ⟨fi1, ar1, ln1, k1, s1, r, a1, a2, a3, a4, a5, a6⟩ := openHere_ok hV hnf
  obtain ⟨fm1, arm1, b1, b2, b3, b4⟩ := none_ok a2 hnf
  have a3' : offF (0 :: oFC) fi fi1 := a3.mono (fun j hj => List.mem_cons_of_mem _ hj)
  have b2' : offF (14 :: oFM) fm fm1 := b2.mono (fun j hj => List.mem_cons_of_mem _ hj)
  have cst : CST ln ln1 (k1 + 0) (s1 + 0) 1 6 := a5
  unfold FX10_up M_up M_up_14
  rw [a1, obnd6_some]
  rcases a6 with ⟨q, rfl⟩ | ⟨q, rfl, c1, c2⟩
  · rcases b4 with ⟨_, e1, e2⟩ | ⟨e0, _⟩
    · rw [sumcR, e1, obnd3_some, brF (show ¬ (1 : Int32) = 0 by decide)]
      exact ⟨_, _, h, fi1, ar1, ln1, _, _, fm1, arm1, rfl, rfl, Or.inl ⟨rfl, e2⟩, b1, cst, a3', a4, b2', b3⟩
    · exact absurd e0 q
  · rcases b4 with ⟨e0, _⟩ | ⟨_, e1, e2, e3, e4, ms, hK⟩
    · exact absurd q e0
    · have hfi0 : fi1 0 = nI h := b1.2.2.2.2.2.2.2.2.1
      have hfm14 : fm1 14 = nI h := b1.2.2.2.2.2.2.2.2.2.1
      have hhb : h < 2147483648 := b1.2.2.2.2.2.2.2.2.2.2.1
      rw [e1, obnd3_some, brT rfl, sumcL, hfi0, hfm14]
      by_cases qh : h = 0
      · rw [qh, brT (show nI 0 = (0 : Int32) from rfl), brT (show nI 0 = (0 : Int32) from rfl)]
        exact ⟨_, _, h, fi1, ar1, ln1, _, _, fm1, arm1, rfl, rfl, Or.inr ⟨rfl, e2⟩, b1, cst, a3', a4, b2', b3⟩
      · have hne : ¬ nI h = (0 : Int32) := nI_ne0 (by omega) hhb
        rw [brF hne, brF hne]
        obtain ⟨D, ρ, hS, hfD, hhD⟩ := b1.snd q
        obtain ⟨j, b, N, U, m1, m2, m3, m4, m5, m6, m7, m8, m9, m10, m11, m12, m13, m14, m15⟩ := here_model b1 q hK hnf
        have hhf : hf (geoOf n d) h = h := by unfold hf; rw [if_neg qh]
        rw [hhf] at c2 m11 hfD
        obtain ⟨hW, hLC, hDC, hI, h22, L, hL, hle⟩ := c2
        have hG := hW.2.2.1
        have bb := hG.b
        have hDk := hS.2.2.1 h hfD
        have hj0 : j ≠ 0 := fun w => qh (m12.mp w)
        obtain ⟨hTne, hTp⟩ := m11.2.1 hj0
        have hlc := lnk_clu hDk.1
        have hkl := hlc.len
        have hkn : (geoOf n d).k ≤ (geoOf n d).n / 2 := by
          have : (geoOf n d).k * 2 ≤ (geoOf n d).k * (geoOf n d).c := Nat.mul_le_mul_left _ (by omega)
          omega
        have c10 := hLC.2.2.2.2.2.2.1 0 (by omega)
        have hS1 : 1 < (cl (geoOf n d) d h).length * (16 * (geoOf n d).c) := by
          have : 1 * 16 ≤ (cl (geoOf n d) d h).length * (16 * (geoOf n d).c) := Nat.mul_le_mul (lnk_pos hDk.1) (by omega)
          omega
        have hsl := slot_in hG hlc hS1
        have hln0 : ln1 0 = 128 * (geoOf n d).n := hLC.1
        have hsa : FX2_slotAddress nf ln1 0 fi1 ar1 1 = _ := slotAddress_eq (nf := nf) (ln := ln1) hG hlc hDC (by omega) hS1
        have efc : fcl d (sa (geoOf n d) (cl (geoOf n d) d h) 1) = prF arm1 d (geoOf n d).r j := hTp.2.2
        -- where up leads
        obtain ⟨g, g1, g2⟩ : ∃ g, g ∈ D ∧ h ∈ sub (geoOf n d) d g := by
          rcases List.mem_cons.mp (hS.1.mem_iff.mp hfD) with e | e
          · exact absurd e hTne
          · obtain ⟨g, g1, g2⟩ := List.mem_flatMap.mp e
            exact ⟨g, g1, g2⟩
        have hpz : fcl d (sa (geoOf n d) (cl (geoOf n d) d h) 1) = pz (geoOf n d) g := ((hS.2.1 g g1 h g2).2).2.2
        have hgC := lnk_isC _ _ (hS.2.2.1 g g1).1 g (lnk_head (hS.2.2.1 g g1).1)
        have hpzb : pz (geoOf n d) g < 2147483648 := by
          unfold pz; split <;> omega
        have hV2 := b1.go (h' := pz (geoOf n d) g) hpzb (fun w => ⟨q, D, ρ, hS, by
          unfold pz at w ⊢
          by_cases z : g = (geoOf n d).r
          · rw [if_pos z] at w; exact absurd rfl w
          · rw [if_neg z]; exact ⟨g1, z⟩⟩)
        have h27 : sa (geoOf n d) (cl (geoOf n d) d h) 1 + 27 < 4 * ln1 0 := by rw [hln0]; have := hsl.2.1; clear m11 m12 m13 m14 hTp efc hpz; omega
        rw [hsa, obnd3_some, FX3_firstCluster_eq hW.1 h27, obnd3_some, bnd_eq, hpz, m1, obnd3_some, zgd (by omega) (by omega), nI_clamp (by omega), bnd_eq]
        have hmod : br (arm1 23 j = 0) (M_up_40 nf 0 fm1 arm1) (obnd3 (M_beginOf nf fm1 arm1 (arm1 23 j)) fun r18 fi16 ar17 => M_up_40 nf r18 fi16 ar17) = some (1, va_up fm1 14 (nI (pz (geoOf n d) g)), arm1) := by
          rw [← hpz, efc]
          unfold prF M_up_40
          have hit := m10.2.2.2.2.2.2.2.1 j (by omega) m15
          obtain ⟨qq, hqq⟩ : ∃ qq, qq = uv (arm1 23 j) := ⟨_, rfl⟩
          have e23 : arm1 23 j = nI qq := by rw [hqq]; exact (nI_uv _).symm
          rw [← hqq] at hit ⊢
          by_cases z : qq = 0
          · rw [if_pos (Or.inr z), e23, z, brT (show nI 0 = (0 : Int32) from rfl), bnd_eq]; rfl
          · have hqN : qq < N := hit.2.2.1
            have hbg : M_beginOf nf fm1 arm1 (nI qq) = some (nI (fsF arm1 d (geoOf n d).r qq), fm1, arm1) := by
              refine beginOf_eq (r := (geoOf n d).r) m10.1.1 (by omega) (Or.inr ⟨z, pA arm1 qq, (nI_uv _).symm, (m10.2.2.2.2.2.2.2.1 _ (by omega) hqN).1, ?_⟩)
              unfold fsF; rw [if_neg z]
            rw [if_neg (fun y => y.elim hj0 z), e23, brF (nI_ne0 (by omega) (by omega)), hbg, obnd3_some, bnd_eq]
        rw [hmod]
        exact ⟨_, _, pz (geoOf n d) g, va_up fi1 0 (nI (pz (geoOf n d) g)), ar1, ln1, _, _, _, arm1, rfl, rfl, Or.inr ⟨rfl, by rw [va_up_off (by decide)]; exact e2⟩, hV2, cst, a3'.up List.mem_cons_self, a4, b2'.up List.mem_cons_self, b3⟩
