/-! byteAt and poke -/
abbrev inD (n : Nat) (x1 x2 : Int32) : Prop := ∃ s, s < n ∧ ∃ a, a < 512 ∧ x1 = nI s ∧ x2 = nI a
theorem has_c {α : Type} {n : Nat} (hn : n ≤ 1024) (x1 x2 : Int32) (o1 o2 : Option α) : (inD n x1 x2 → br (x1 < 0) o1 (br (nI n ≤ x1) o1 (br (x2 < 0) o1 (br ((512 : Int32) ≤ x2) o1 o2))) = o2 ∧ br (x1 < 0) o1 (br (nI n ≤ x1) o1 (br (x2 < 0) o1 (br (x2 ≤ (511 : Int32)) o2 o1))) = o2) ∧ (¬ inD n x1 x2 → br (x1 < 0) o1 (br (nI n ≤ x1) o1 (br (x2 < 0) o1 (br ((512 : Int32) ≤ x2) o1 o2))) = o1 ∧ br (x1 < 0) o1 (br (nI n ≤ x1) o1 (br (x2 < 0) o1 (br (x2 ≤ (511 : Int32)) o2 o1))) = o1) := by
  constructor
  · rintro ⟨s, s1, a, a1, rfl, rfl⟩
    have h1 : ¬ nI s < (0 : Int32) := nI_pos (by omega)
    have h2 : ¬ nI n ≤ nI s := nI_ge s1 (by omega)
    have h3 : ¬ nI a < (0 : Int32) := nI_pos (by omega)
    have h4 : ¬ (512 : Int32) ≤ nI a := nI_ge (b := 512) a1 (by omega)
    have h5 : nI a ≤ (511 : Int32) := nI_le (b := 511) (by omega) (by omega)
    exact ⟨by rw [brF h1, brF h2, brF h3, brF h4], by rw [brF h1, brF h2, brF h3, brT h5]⟩
  · intro hno
    by_cases q1 : x1 < 0
    · exact ⟨by rw [brT q1], by rw [brT q1]⟩
    · rw [brF q1, brF q1]
      by_cases q2 : nI n ≤ x1
      · exact ⟨by rw [brT q2], by rw [brT q2]⟩
      · rw [brF q2, brF q2]
        by_cases q3 : x2 < 0
        · exact ⟨by rw [brT q3], by rw [brT q3]⟩
        · rw [brF q3, brF q3]
          have t1 := tI x1
          have t2 := tI x2
          have en : (nI n).toInt = (n : Int) := nI_toInt (by omega)
          have l0 : (0 : Int32).toInt = 0 := rfl
          have l512 : (512 : Int32).toInt = 512 := rfl
          have l511 : (511 : Int32).toInt = 511 := rfl
          have q4 : (512 : Int32) ≤ x2 := by
            apply Decidable.byContradiction
            intro w
            refine hno ⟨uv x1, ?_, uv x2, ?_, (nI_uv _).symm, (nI_uv _).symm⟩
            · rw [ltI, l0] at q1; rw [leI, en] at q2; omega
            · rw [ltI, l0] at q3; rw [leI, l512] at w; omega
          have q5 : ¬ x2 ≤ (511 : Int32) := by
            rw [leI, l511]; rw [leI, l512] at q4; omega
          exact ⟨by rw [brT q4], by rw [brF q5]⟩
theorem FX3_has_eq {nf : Nat} {ln : LN} {fi : FI} {ar : AR} {n : Nat} (h2 : fi 2 = nI n) (hn : n ≤ 1024) (x1 x2 : Int32) : (inD n x1 x2 → FX3_has nf ln fi ar x1 x2 = some (1, fi, ar)) ∧ (¬ inD n x1 x2 → FX3_has nf ln fi ar x1 x2 = some (0, fi, ar)) := by
  have := has_c hn x1 x2 (some ((0 : Int32), fi, ar)) (some ((1 : Int32), fi, ar))
  unfold FX3_has FX3_has_27 FX3_has_28
  rw [h2, zbit0, zbit1]
  exact ⟨fun w => (this.1 w).1, fun w => (this.2 w).1⟩
theorem poke_alike {nf n h : Nat} {ln : LN} {fi fm : FI} {ar arm : AR} {d : Nat → Nat} (hV : VOL n ln fi ar fm arm d h) (x1 x2 x3 : Int32) (hnf : 40000 ≤ nf) : ∃ v d' h' fi' ar' fm' arm', FX10_poke nf ln fi ar x1 x2 x3 = some (v, fi', ar') ∧ M_poke nf fm arm x1 x2 x3 = some (v, fm', arm') ∧ VOL n ln fi' ar' fm' arm' d' h' ∧ offF [0, 1] fi fi' ∧ offAs [0] ar ar' ∧ offF [5, 14, 15] fm fm' ∧ offAs [1] arm arm' := by
  obtain ⟨v1, v2, v3, v4, v5, v6, v7, v8, v9, v10, v11, v12, v13, v14⟩ := id hV
  have hh := FX3_has_eq (nf := nf) (ln := ln) (ar := ar) v5 v1.2 x1 x2
  have hl := v7.1
  unfold FX10_poke M_poke M_poke_28
  rw [bnd_eq, va_up_off (show (0 : Nat) ≠ 5 by decide), v6]
  have hc := fun (o1 o2 : Option (Int32 × FI × AR)) => has_c v1.2 x1 x2 o1 o2
  by_cases q : inD n x1 x2
  · rw [hh.1 q, obnd3_some, brF (by decide), ((hc _ _).1 q).2]
    obtain ⟨s, s1, a, a1, rfl, rfl⟩ := q
    have hp : 512 * s + a < 512 * n := by omega
    have ec : nI s * (512 : Int32) + nI a = nI (512 * s + a) := by rw [show nI s * (512 : Int32) = nI (s * 512) from pk_mul s 512, nI_add, Nat.mul_comm]
    have em : (512 : Int32) * nI s + nI a = nI (512 * s + a) := by rw [show (512 : Int32) * nI s = nI (512 * s) from pk_mul 512 s, nI_add]
    obtain ⟨ar1, r1, r2, r3⟩ := FX3_putOne_ok (nf := nf) (fi := fi) v4 x3 (show 512 * s + a < 4 * ln 0 by omega)
    rw [ec, r1, obnd3_some, em, zgd (by omega) (by omega), nI_clamp (by omega), bnd_eq]
    unfold FX10_forgetState M_changed
    rw [bnd_eq, bnd_eq, obnd3_some, bnd_eq, obnd3_some, bnd_eq]
    have hRD : RD (va_up arm 1 (upd (arm 1) (512 * s + a) (vp_nar .byte (x3.toInt8.toInt32)))) (wr d (512 * s + a) 1 (uv x3)) := by
      intro p hpp
      rw [va_up_self]
      unfold mb upd wr
      by_cases e : p = 512 * s + a
      · rw [if_pos e, if_pos (by omega), vp_nar_byte, uv_byte, uv_byte, show p - (512 * s + a) = 0 by omega, Nat.pow_zero, Nat.div_one]
      · rw [if_neg e, if_neg (by omega)]; exact v3 p hpp
    refine ⟨_, wr d (512 * s + a) 1 (uv x3), 0, _, ar1, _, _, rfl, rfl, ⟨v1, wr_lt v2 _ _ _, hRD, r2, ?_, ?_, v7, v8, ?_, ?_, by omega, Or.inl (va_up_self _ _ _), Or.inl ?_, fun w => absurd rfl w⟩, (offF.rf.up (by simp)).up (by simp), r3.as, ((offF.rf.up (by simp)).up (by simp)).up (by simp), offAs.rf.up (by simp)⟩
    · rw [va_up_off (by decide), va_up_off (by decide)]; exact v5
    · rw [va_up_off (by decide), va_up_off (by decide), va_up_off (by decide)]; exact v6
    · rw [va_up_off (by decide), va_up_self]; rfl
    · rw [va_up_self]; rfl
    · rw [va_up_off (by decide), va_up_self]
  · rw [hh.2 q, obnd3_some, brT rfl, ((hc _ _).2 q).2]
    exact ⟨_, d, h, fi, ar, _, arm, rfl, rfl, hV.upM, offF.rf, offAs.rf, offF.rf.up (by simp), offAs.rf⟩
theorem byteAt_alike {nf n h : Nat} {ln : LN} {fi fm : FI} {ar arm : AR} {d : Nat → Nat} (hV : VOL n ln fi ar fm arm d h) (x1 x2 : Int32) (hnf : 40000 ≤ nf) : ∃ v fi' fm' arm', FX10_byteAt nf ln fi ar x1 x2 = some (v, fi', ar) ∧ M_byteAt nf fm arm x1 x2 = some (v, fm', arm') ∧ VOL n ln fi' ar fm' arm' d h ∧ offF oFC fi fi' ∧ offF oFM fm fm' ∧ offAs oAM arm arm' := by
  obtain ⟨fm1, arm1, b1, b2, b3, b4, b5, b6, b7, b8, b9⟩ := look_any hV hnf
  obtain ⟨v1, v2, v3, v4, v5, v6, v7, v8, v9, v10, v11, v12, v13, v14⟩ := id b2
  have hlt := fltS_lt n d
  have hl := v7.1
  have hh := FX3_has_eq (nf := nf) (ln := ln) (ar := ar) v5 v1.2 x1 x2
  have hc := fun (o1 o2 : Option (Int32 × FI × AR)) => has_c v1.2 x1 x2 o1 o2
  have hm0 : fm 0 = nI n := hV.2.2.2.2.2.1
  unfold FX10_byteAt M_byteAt M_byteAt_28
  rw [bnd_eq, va_up_off (show (0 : Nat) ≠ 5 by decide), hm0]
  by_cases q : inD n x1 x2
  · rw [hh.1 q, obnd3_some, brF (by decide), ((hc _ _).1 q).2, b1, obnd3_some, b5]
    obtain ⟨s, s1, a, a1, rfl, rfl⟩ := q
    have hp : 512 * s + a < 512 * n := by omega
    have ec : nI s * (512 : Int32) + nI a = nI (512 * s + a) := by rw [show nI s * (512 : Int32) = nI (s * 512) from pk_mul s 512, nI_add, Nat.mul_comm]
    have em : (512 : Int32) * nI s + nI a = nI (512 * s + a) := by rw [show (512 : Int32) * nI s = nI (512 * s) from pk_mul 512 s, nI_add]
    have c37 : ∀ fi1 : FI, FX10_byteAt_37 nf ln (nI s) (nI a) fi1 ar = some (nI (d (512 * s + a)), fi1, ar) := fun fi1 => by
      unfold FX10_byteAt_37
      rw [ec, FX3_one_eq v4 (by omega), obnd3_some]
    have m82 : M_byteAt_82 nf (nI s) (nI a) fm1 arm1 = some (nI (d (512 * s + a)), fm1, arm1) := by
      unfold M_byteAt_82
      rw [em, M_one_eq v3 (by omega), obnd3_some]
    rcases FX9_readSectorZero_ok (nf := nf) v4 v5 v1.1 v1.2 v7.1 with ⟨hhd, fi1, r1, r2, r3⟩ | ⟨hhd, r1⟩
    · have hG := hhd.g v1.1 v1.2
      have b := hG.b
      have hcc := hG.1.1
      have hW : CW ln fi1 ar (geoOf n d) d := ⟨v4, r2, hG, v7.1⟩
      have hR : RW fm1 arm1 (geoOf n d) d := ⟨v3, b6 hhd, hG⟩
      have hne : ¬ nI (fltS n d) = (1 : Int32) := fun w => (flt_one.mp ((uI_eq (b := 1) (by omega) (by omega)).mp w)) hhd
      have g10 : fi1 10 = nI (geoOf n d).a := r2.2.2.2.2.2.2.2
      have g6 : fi1 6 = nI (shC (geoOf n d).c) := r2.2.2.2.1
      have g12 : fm1 12 = nI (geoOf n d).a := hR.2.1.2.2.2.2.2.2.1
      have g7 : fm1 7 = nI (geoOf n d).c := hR.2.1.2.1
      have hVf : VOL n ln fi1 ar fm1 arm1 d h := by
        refine b2.offC r3 offAs.rf (T := []) (by simp) (by simp) v7 v8 ?_
        rcases v12 with w | ⟨w1, w2⟩
        · left; rw [r3 1 (by simp)]; exact w
        · right; exact ⟨by rw [r3 1 (by simp)]; exact w1, fun _ => r2⟩
      have oF : offF oFC fi fi1 := r3.mono (by simp [oFC])
      rw [r1, obnd3_some, brF (by decide), brF hne, g12, zlt (by omega) (by omega)]
      unfold FX9_inUse FX9_inUse_44 FX9_inUse_45
      rw [g10, zle (by omega) (by omega)]
      by_cases qa : s < (geoOf n d).a
      · rw [if_pos qa, if_neg (by omega), obnd3_some, brF (by decide), c37, m82]
        exact ⟨_, fi1, fm1, arm1, rfl, rfl, hVf, oF, b8, b9⟩
      · obtain ⟨x, hx⟩ : ∃ x, x = (s - (geoOf n d).a) / (geoOf n d).c + 2 := ⟨_, rfl⟩
        have hxle := Nat.div_le_self (s - (geoOf n d).a) (geoOf n d).c
        have hshr : nI (s - (geoOf n d).a) >>> (nI (shC (geoOf n d).c) &&& 31) = nI ((s - (geoOf n d).a) / (geoOf n d).c) := by
          rcases hcc with w | w | w
          · rw [show (geoOf n d).c = 2 from w]; exact pk_shrN (by omega) _ 1 (by decide)
          · rw [show (geoOf n d).c = 4 from w]; exact pk_shrN (by omega) _ 2 (by decide)
          · rw [show (geoOf n d).c = 8 from w]; exact pk_shrN (by omega) _ 3 (by decide)
        rw [if_neg qa, if_pos (by omega), g6, nI_sub (by omega), hshr, bnd_eq, show nI ((s - (geoOf n d).a) / (geoOf n d).c) + (2 : Int32) = nI x by rw [hx]; exact nI_add _ 2, g7, gdT (nI_ne0 (by omega) (by omega)), pk_div (by omega) (by omega) (by omega), bnd_eq, show (2 : Int32) + nI ((s - (geoOf n d).a) / (geoOf n d).c) = nI x by rw [hx, Nat.add_comm]; exact nI_add 2 _, hW.isC (by omega), obnd3_some, hR.isC (by omega), obnd3_some]
        unfold M_byteAt_80
        by_cases qc : isC (geoOf n d) x
        · have he := ent_lt (geoOf n d) d x
          rw [if_pos qc, brF (by decide), brF (by decide), hW.next (by omega), obnd3_some, hR.entry (by omega), obnd3_some]
          by_cases qe : ent (geoOf n d) d x = 0
          · rw [brT (show nI (ent (geoOf n d) d x) = (0 : Int32) by rw [qe]; rfl), brT (show nI (ent (geoOf n d) d x) = (0 : Int32) by rw [qe]; rfl), zbit0, obnd3_some, brT rfl]
            exact ⟨_, fi1, fm1, arm1, rfl, rfl, hVf, oF, b8, b9⟩
          · rw [brF (nI_ne0 (by omega) (by omega)), brF (nI_ne0 (by omega) (by omega)), zbit1, obnd3_some, brF (by decide), c37, m82]
            exact ⟨_, fi1, fm1, arm1, rfl, rfl, hVf, oF, b8, b9⟩
        · rw [if_neg qc, brT rfl, brT rfl, zbit0, obnd3_some, brT rfl]
          exact ⟨_, fi1, fm1, arm1, rfl, rfl, hVf, oF, b8, b9⟩
    · rw [r1, obnd3_some, brT rfl, c37, flt_one.mpr hhd, brT (show nI 1 = (1 : Int32) from rfl), m82]
      exact ⟨_, fi, fm1, arm1, rfl, rfl, b2, offF.rf, b8, b9⟩
  · rw [hh.2 q, obnd3_some, brT rfl, ((hc _ _).2 q).2]
    exact ⟨_, fi, _, arm, rfl, rfl, hV.upM, offF.rf, offF.rf.up (by simp [oFM]), offAs.rf⟩
