/-! what a change leaves; the way to an item without M_no -/
theorem VOL.mut {n h : Nat} {ln : LN} {fi fi' fm fm' : FI} {ar ar' arm arm' : AR} {d d' : Nat → Nat} (hV : VOL n ln fi ar fm arm d h) (hz : fltS n d = 0) (h1 : fi 1 = nI 0) (hCG : CG fi (geoOf n d)) {S1 S2 : List Nat} (o1 : offF S1 fi fi') (o2 : offF S2 fm fm') (c1 : ∀ j, j ∈ S1 → j ∉ [0, 1, 2, 4, 5, 6, 7, 8, 9, 10]) (c2 : ∀ j, j ∈ S2 → j ∉ [0, 14]) (h15 : fm' 15 = 0) (hC : CD ln ar' d') (hR : RD arm' d') (hlt : ∀ p, d' p < 256) (hd : ∀ p, p < 512 → d' p = d p) (ht : tabOK (geoOf n d) d') {D : List Nat} {ρ : Nat → Nat} (hS : Snd (geoOf n d) d' D ρ) (hh : h = 0 ∨ (h ∈ D ∧ h ≠ (geoOf n d).r)) : VOL n ln fi' ar' fm' arm' d' h ∧ fltS n d' = 0 := by
  obtain ⟨v1, v2, v3, v4, v5, v6, v7, v8, v9, v10, v11, v12, v13, v14⟩ := hV
  have hg := head_congr (n := n) hd
  have hH := ((flt_iff v1.1 v1.2).mp hz).1
  have hz' : fltS n d' = 0 := (flt_iff v1.1 v1.2).mpr ⟨hg.2 hH, by rw [hg.1]; exact ht, D, ρ, by rw [hg.1]; exact hS⟩
  have e : ∀ j, j ∈ [0, 1, 2, 4, 5, 6, 7, 8, 9, 10] → fi' j = fi j := fun j hj => o1 j (fun q => c1 j q hj)
  have e2 : ∀ j, j ∈ [0, 14] → fm' j = fm j := fun j hj => o2 j (fun q => c2 j q hj)
  have hCG' : CG fi' (geoOf n d) := by
    unfold CG
    rw [e 2 (by simp), e 4 (by simp), e 5 (by simp), e 6 (by simp), e 7 (by simp), e 8 (by simp), e 9 (by simp), e 10 (by simp)]
    exact hCG
  refine ⟨⟨v1, hlt, hR, hC, by rw [e 2 (by simp)]; exact v5, by rw [e2 0 (by simp)]; exact v6, v7, v8, by rw [e 0 (by simp)]; exact v9, by rw [e2 14 (by simp)]; exact v10, v11, Or.inr ⟨by rw [e 1 (by simp), hz']; exact h1, fun _ => by rw [hg.1]; exact hCG'⟩, Or.inl h15, fun hne => ⟨hz', D, ρ, by rw [hg.1]; exact hS, (hh.resolve_left hne).1, by rw [hg.1]; exact (hh.resolve_left hne).2⟩⟩, hz'⟩
theorem sel2_ok {nf n h : Nat} {ln : LN} {fi fm : FI} {ar arm : AR} {d : Nat → Nat} (hV : VOL n ln fi ar fm arm d h) (x1 : Int32) (hnf : 40000 ≤ nf) : ∃ fi1 ar1 ln1 k1 s1 fm0 fm1 arm1, VOL n ln1 fi1 ar1 fm1 arm1 d h ∧ CST ln ln1 k1 s1 1 6 ∧ offF oFC fi fi1 ∧ offAs oAC ar ar1 ∧ offF oFM fm fm1 ∧ offAs oAM arm arm1 ∧ ((FX10_openHere nf fi ar ln = some (Sum.inr 0, fi1, ar1, ln1, k1, s1) ∧ (∀ (α : Type) (K : Int32 → FI → AR → Option α) (Z : FI → AR → Option α), obnd3 (M_none nf fm arm) (fun r fi ar => br (r = 0) (br (x1 < 0) (K 1 fi ar) (obnd3 (M_many nf fi ar) fun r' fi' ar' => br (x1 < r') (K 0 fi' ar') (K 1 fi' ar'))) (Z fi ar)) = Z fm1 arm1) ∧ fm1 5 = 1) ∨ (FX10_openHere nf fi ar ln = some (Sum.inl (), fi1, ar1, ln1, k1, s1) ∧ FX10_itemAt nf fi1 ar1 ln1 x1 = some (Sum.inr 1, fi1, ar1, ln1, 1, 6) ∧ (∀ (α : Type) (K : Int32 → FI → AR → Option α) (Z : FI → AR → Option α), obnd3 (M_none nf fm arm) (fun r fi ar => br (r = 0) (br (x1 < 0) (K 1 fi ar) (obnd3 (M_many nf fi ar) fun r' fi' ar' => br (x1 < r') (K 0 fi' ar') (K 1 fi' ar'))) (Z fi ar)) = K 1 fm0 arm1) ∧ M_fails nf fm0 arm1 1 2 = some (1, fm1, arm1) ∧ fm1 5 = 2) ∨ ∃ q e j b N U ms D ρ, x1 = nI q ∧ FX10_openHere nf fi ar ln = some (Sum.inl (), fi1, ar1, ln1, k1, s1) ∧ FX10_itemAt nf fi1 ar1 ln1 x1 = some (Sum.inl (nI (dA (geoOf n d) d (hf (geoOf n d) h) e.1)), fi1, ar1, ln1, 0, 0) ∧ (∀ (α : Type) (K : Int32 → FI → AR → Option α) (Z : FI → AR → Option α), obnd3 (M_none nf fm arm) (fun r fi ar => br (r = 0) (br (x1 < 0) (K 1 fi ar) (obnd3 (M_many nf fi ar) fun r' fi' ar' => br (x1 < r') (K 0 fi' ar') (K 1 fi' ar'))) (Z fi ar)) = K 0 fm1 arm1) ∧ M_fails nf fm1 arm1 0 2 = some (0, fm1, arm1) ∧ SEL nf n h ln1 fi1 fm1 ar1 arm1 d q e j b N U ms D ρ) := by
  obtain ⟨fi1, ar1, ln1, k1, s1, r, a1, a2, a3, a4, a5, a6⟩ := openHere_ok hV hnf
  obtain ⟨fm1, arm1, b1, b2, b3, b4⟩ := none_ok a2 hnf
  rcases a6 with ⟨q, rfl⟩ | ⟨q, rfl, c1, c2⟩
  · rcases b4 with ⟨_, e1, e2⟩ | ⟨e0, _⟩
    · exact ⟨fi1, ar1, ln1, k1, s1, fm1, fm1, arm1, b1, a5, a3, a4, b2, b3, Or.inl ⟨a1, fun α K Z => by rw [e1, obnd3_some, brF (by decide)], e2⟩⟩
    · exact absurd e0 q
  · rcases b4 with ⟨e0, _⟩ | ⟨_, e1, e2, e3, e4, ms, hK⟩
    · exact absurd q e0
    · obtain ⟨D, ρ, hS, hfD, hhD⟩ := a2.snd q
      have hDk := hS.2.2.1 _ hfD
      obtain ⟨j, b, N, U, m1, m2, m3, m4, m5, m6, m7, m8, m9, m10, m11, m12, m13, m14, m15⟩ := here_model b1 q hK hnf
      have hmany : M_many nf fm1 arm1 = some (nI (dI (geoOf n d) d (hf (geoOf n d) h)).length, fm1, arm1) := by
        unfold M_many
        rw [m1, obnd3_some, zgd (by omega) (by omega), nI_clamp (by omega), m5]
      have f1 : M_fails nf fm1 arm1 1 2 = _ := fails_eq (nf := nf) (ar := arm1) e2 (t := 1) (by decide) 2 (by decide)
      have f0 : M_fails nf fm1 arm1 0 2 = _ := fails_eq (nf := nf) (ar := arm1) e2 (t := 0) (by decide) 2 (by decide)
      rw [if_neg (by decide), if_neg (by decide)] at f1
      rw [if_pos rfl, if_pos rfl] at f0
      rcases ix_cases (k := x1) (len := (dI (geoOf n d) d (hf (geoOf n d) h)).length) (by omega) with ⟨q1, q2⟩ | ⟨q1, q2, q3⟩ | ⟨q1, q2, q3⟩
      · rcases itemAt_ok (nf := nf) c2 hDk x1 with ⟨w1, w2⟩ | ⟨qi, w1, w2, w3⟩
        · exact ⟨fi1, ar1, ln1, k1, s1, fm1, va_up fm1 5 (nI 2), arm1, b1.upM, a5, a3, a4, b2.up (by simp [oFM]), b3, Or.inr (Or.inl ⟨a1, w2, fun α K Z => by rw [e1, obnd3_some, brT rfl, brT q1], f1, va_up_self _ _ _⟩)⟩
        · exact absurd ⟨qi, w1, w2⟩ q2
      · rcases itemAt_ok (nf := nf) c2 hDk x1 with ⟨w1, w2⟩ | ⟨qi, w1, w2, w3⟩
        · exact ⟨fi1, ar1, ln1, k1, s1, fm1, va_up fm1 5 (nI 2), arm1, b1.upM, a5, a3, a4, b2.up (by simp [oFM]), b3, Or.inr (Or.inl ⟨a1, w2, fun α K Z => by rw [e1, obnd3_some, brT rfl, brF q1, hmany, obnd3_some, brF q2], f1, va_up_self _ _ _⟩)⟩
        · exact absurd ⟨qi, w1, w2⟩ q3
      · rcases itemAt_ok (nf := nf) c2 hDk x1 with ⟨w1, w2⟩ | ⟨qi, w1, w2, w3⟩
        · exact absurd q3 w1
        · have hem : (dI (geoOf n d) d (hf (geoOf n d) h)).getD qi (0, 0) ∈ dI (geoOf n d) d (hf (geoOf n d) h) := by rw [List.getD_eq_getElem?_getD, List.getElem?_eq_getElem w1]; exact List.getElem_mem w1
          have hsl := slot_in c2.1.2.2.1 (lnk_clu hDk.1) (hDk.item hem).1
          exact ⟨fi1, ar1, ln1, k1, s1, fm1, fm1, arm1, b1, a5, a3, a4, b2, b3, Or.inr (Or.inr ⟨qi, _, j, b, N, U, ms, D, ρ, w2, a1, w3, fun α K Z => by rw [e1, obnd3_some, brT rfl, brF q1, hmany, obnd3_some, brT q2], f0, q, hS, hfD, hhD, c2, c1, w1, rfl, hem, e2, e3, e4, m10, m1, m15, m7, m8, m3, m4, m6, m9, M_item_eq (n := n) (h := h) (ln := ln) (fi := fi) (ar := ar) (d := d) m1 m2 m3, hsl.2.1, hsl.1, hsl.2.2.1, (m9 qi w1).1⟩)⟩
theorem M_setI {nf : Nat} {fi : FI} {ar : AR} {d : Nat → Nat} (hd : RD ar d) {p n : Nat} (x : Int32) (hp : p + n ≤ 524288) (hn : n ≤ 4) (hnf : 9 ≤ nf) : ∃ ar', M_set nf fi ar (nI p) (nI n) (x.toInt64) = some ((), fi, ar') ∧ RD ar' (wr d p n (uv x)) ∧ offA 1 ar ar' := by
  obtain ⟨ar', r1, r2, r3⟩ := M_set_ok (nf := nf) (fi := fi) hd (x.toInt64) hp (by omega) hnf
  refine ⟨ar', r1, ?_, r3⟩
  have e : wr d p n (lU (x.toInt64)) = wr d p n (uv x) := by
    have := wr_i2l (d := d) (p := p) (v := uv x) hn
    rw [nI_uv] at this; exact this
  rw [← e]; exact r2
theorem dayP_lt {x : Int32} (h : dayP x) : uv x < 65536 := by
  unfold dayP M_isDay M_isDay_59 M_isDay_60 at h
  rw [bnd_eq] at h
  have ab : ¬ (gd ((0 : Int32) &&& 1 = 0) (some (0 : Int32)) = some 1) := by decide
  by_cases q1 : x < 0
  · rw [brT q1] at h; exact absurd h ab
  · rw [brF q1] at h
    by_cases q2 : (65536 : Int32) ≤ x
    · rw [brT q2] at h; exact absurd h ab
    · obtain ⟨m, hm, rfl⟩ := nI_of q1
      rw [uv_nI (by omega)]
      apply Decidable.byContradiction
      intro w
      exact q2 (nI_le (a := 65536) (by omega) hm)
theorem timP_lt {x : Int32} (h : timP x) : uv x < 65536 := by
  unfold timP M_isTime M_isTime_37 M_isTime_38 at h
  have ab : ¬ (gd ((0 : Int32) &&& 1 = 0) (some (0 : Int32)) = some 1) := by decide
  by_cases q1 : x < 0
  · rw [brT q1] at h; exact absurd h ab
  · rw [brF q1] at h
    obtain ⟨m, hm, rfl⟩ := nI_of q1
    rw [pk_shrN hm ((11 : Int32) &&& 31) 11 (by decide)] at h
    by_cases q2 : 24 ≤ m / 2 ^ 11
    · rw [brT (show (24 : Int32) ≤ nI (m / 2 ^ 11) from nI_le (a := 24) q2 (by omega))] at h; exact absurd h ab
    · rw [uv_nI (by omega)]; omega
theorem madP_lt {x y z : Int32} (h : madP x y z) : uv x < 65536 ∧ uv y < 65536 ∧ uv z < 256 := by
  unfold madP M_isMade M_isMade_49 M_isMade_50 M_isMade_16 at h
  have ab : ¬ (gd ((0 : Int32) &&& 1 = 0) (some (0 : Int32)) = some 1) := by decide
  by_cases q0 : x = 0
  · rw [brT q0] at h
    by_cases q1 : y = 0
    · rw [brT q1] at h
      by_cases q2 : z = 0
      · rw [q0, q1, q2]; decide
      · rw [brF q2] at h; exact absurd h ab
    · rw [brF q1] at h; exact absurd h ab
  · rw [brF q0, day_tot, obnd_some] at h
    by_cases q1 : dayP x
    · rw [if_pos q1, brF (by decide), tim_tot, obnd_some] at h
      by_cases q2 : timP y
      · rw [if_pos q2, brF (by decide)] at h
        by_cases q3 : z < 0
        · rw [brT q3] at h; exact absurd h ab
        · rw [brF q3] at h
          by_cases q4 : (200 : Int32) ≤ z
          · rw [brT q4] at h; exact absurd h ab
          · obtain ⟨m, hm, rfl⟩ := nI_of q3
            refine ⟨dayP_lt q1, timP_lt q2, ?_⟩
            rw [uv_nI (by omega)]
            apply Decidable.byContradiction
            intro w
            exact q4 (nI_le (a := 200) (by omega) hm)
      · rw [if_neg q2, brT rfl] at h; exact absurd h ab
    · rw [if_neg q1, brT rfl] at h; exact absurd h ab
