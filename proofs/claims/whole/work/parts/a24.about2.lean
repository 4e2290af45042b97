/-! about answers alike -/
theorem made_day {x y z : Int32} (h : madP x y z) (h0 : ¬ x = 0) : dayP x := by
  unfold madP M_isMade M_isMade_49 M_isMade_50 M_isMade_16 at h
  rw [brF h0, day_tot, obnd_some] at h
  by_cases q : dayP x
  · exact q
  · rw [if_neg q, brT rfl] at h
    exact absurd h (by decide)
theorem written_eq {nf : Nat} {ln : LN} {fi fm : FI} {ar arm : AR} {d : Nat → Nat} (hb : ∀ p, d p < 256) (hC : CD ln ar d) (hR : RD arm d) {p : Nat} (hp : p + 32 ≤ 4 * ln 0) (hp2 : p + 32 ≤ 524288) (ht : timesOK d p) (hnf : 40000 ≤ nf) : ∃ v, FX10_secondsOfWritten nf ln fi ar (nI p) = some (v, fi, ar) ∧ M_timeOf_84 nf (nI p) fm arm = some (v, fm, arm) := by
  obtain ⟨v, g1, g2⟩ := sec_eq (nf := nf) (x := tw d (p + 24)) (t := tw d (p + 22)) (tw_lt hb _) ht.2.2.1 (tw_lt hb _) hnf
  refine ⟨v, ?_, ?_⟩
  · unfold FX10_secondsOfWritten
    rw [show nI p + (24 : Int32) = nI (p + 24) from nI_add p 24, show nI p + (22 : Int32) = nI (p + 22) from nI_add p 22, FX3_two_eq hC (by omega), obnd3_some, FX3_two_eq hC (by omega), obnd3_some, g1, obnd_some]
  · unfold M_timeOf_84
    rw [show nI p + (24 : Int32) = nI (p + 24) from nI_add p 24, show nI p + (22 : Int32) = nI (p + 22) from nI_add p 22, M_two_eq hR (by omega), obnd3_some, M_two_eq hR (by omega), obnd3_some, g2, obnd_some]
theorem read_eq {nf : Nat} {ln : LN} {fi fm : FI} {ar arm : AR} {d : Nat → Nat} (hb : ∀ p, d p < 256) (hC : CD ln ar d) (hR : RD arm d) {p : Nat} (hp : p + 32 ≤ 4 * ln 0) (hp2 : p + 32 ≤ 524288) (ht : timesOK d p) (hnf : 40000 ≤ nf) {q : Nat} (hq : q < 16400) (ha : arm 20 q = nI p) : ∃ v, FX10_secondsOfRead nf ln fi ar (nI p) = some (v, fi, ar) ∧ M_timeOf nf fm arm (nI q) 0 = some (v, fm, arm) := by
  have hlt := tw_lt hb (p + 18)
  unfold FX10_secondsOfRead FX10_secondsOfRead_29 M_timeOf M_timeOf_35
  rw [zgd hq (by omega), nI_clamp (by omega), ha, bnd_eq, brT rfl, show nI p + (18 : Int32) = nI (p + 18) from nI_add p 18, FX3_two_eq hC (by omega), obnd3_some, M_two_eq hR (by omega), obnd3_some]
  by_cases c : tw d (p + 18) = 0
  · obtain ⟨v, g1, g2⟩ := written_eq (nf := nf) (fi := fi) (fm := fm) hb hC hR hp hp2 ht hnf
    rw [c, brT (show nI 0 = (0 : Int32) from rfl), brT (show nI 0 = (0 : Int32) from rfl), g1, obnd3_some, brF (by decide), g2]
    exact ⟨v, rfl, rfl⟩
  · have hne : ¬ nI (tw d (p + 18)) = (0 : Int32) := nI_ne0 (by omega) (by omega)
    obtain ⟨v, g1, g2⟩ := sec_eq (nf := nf) (x := tw d (p + 18)) (t := 0) hlt (ht.2.1.resolve_left c) (by omega) hnf
    rw [brF hne, brF hne, M_two_eq hR (by omega), obnd3_some, show (0 : Int32) = nI 0 from rfl, g1, obnd_some, g2, obnd_some]
    exact ⟨v, rfl, rfl⟩
theorem madeS_eq {nf : Nat} {ln : LN} {fi fm : FI} {ar arm : AR} {d : Nat → Nat} (hb : ∀ p, d p < 256) (hC : CD ln ar d) (hR : RD arm d) {p : Nat} (hp : p + 32 ≤ 4 * ln 0) (hp2 : p + 32 ≤ 524288) (ht : timesOK d p) (hnf : 40000 ≤ nf) {q : Nat} (hq : q < 16400) (ha : arm 20 q = nI p) : ∃ v, FX10_secondsOfMade nf ln fi ar (nI p) = some (v, fi, ar) ∧ M_timeOf nf fm arm (nI q) 1 = some (v, fm, arm) := by
  have hlt := tw_lt hb (p + 16)
  unfold FX10_secondsOfMade M_timeOf M_timeOf_35
  rw [zgd hq (by omega), nI_clamp (by omega), ha, bnd_eq, brF (by decide), brT rfl, show nI p + (16 : Int32) = nI (p + 16) from nI_add p 16, show nI p + (14 : Int32) = nI (p + 14) from nI_add p 14, show nI p + (13 : Int32) = nI (p + 13) from nI_add p 13, FX3_two_eq hC (by omega), obnd3_some, M_two_eq hR (by omega), obnd3_some]
  by_cases c : tw d (p + 16) = 0
  · obtain ⟨v, g1, g2⟩ := written_eq (nf := nf) (fi := fi) (fm := fm) hb hC hR hp hp2 ht hnf
    rw [c, brT (show nI 0 = (0 : Int32) from rfl), brT (show nI 0 = (0 : Int32) from rfl), g1, obnd3_some, g2]
    exact ⟨v, rfl, rfl⟩
  · have hne : ¬ nI (tw d (p + 16)) = (0 : Int32) := nI_ne0 (by omega) (by omega)
    obtain ⟨v, g1, g2⟩ := sec_eq (nf := nf) (x := tw d (p + 16)) (t := tw d (p + 14)) hlt (made_day ht.1 hne) (tw_lt hb _) hnf
    rw [brF hne, brF hne, FX3_two_eq hC (by omega), obnd3_some, M_two_eq hR (by omega), obnd3_some, M_two_eq hR (by omega), obnd3_some, g1, obnd_some, g2, obnd_some, FX3_one_eq hC (by omega), obnd3_some, M_one_eq hR (by omega), obnd3_some]
    exact ⟨_, rfl, rfl⟩
theorem timeOf2 {nf : Nat} {fm : FI} {arm : AR} {p q : Nat} (hq : q < 16400) (ha : arm 20 q = nI p) : M_timeOf nf fm arm (nI q) 2 = M_timeOf_84 nf (nI p) fm arm := by
  unfold M_timeOf M_timeOf_35
  rw [zgd hq (by omega), nI_clamp (by omega), ha, bnd_eq, brF (by decide), brF (by decide)]
theorem about_alike {nf n h : Nat} {ln : LN} {fi fm : FI} {ar arm : AR} {d : Nat → Nat} (hV : VOL n ln fi ar fm arm d h) (x1 x2 : Int32) (hnf : 40000 ≤ nf) : ∃ v r fi' ar' ln' kc ks fm' arm', FX10_about nf fi ar ln x1 x2 = some (r, fi', ar', ln', kc, ks) ∧ M_about nf fm arm x1 x2 = some (v, fm', arm') ∧ ((r = Sum.inr 0 ∧ fm' 5 = 1) ∨ (r = Sum.inr 1 ∧ fm' 5 = 2) ∨ (r = Sum.inr 2 ∧ fm' 5 = 3) ∨ (r = Sum.inl v ∧ fm' 5 = 0)) ∧ VOL n ln' fi' ar' fm' arm' d h ∧ CST ln ln' kc ks 2 12 ∧ offF oFC fi fi' ∧ offAs oAC ar ar' ∧ offF oFM fm fm' ∧ offAs oAM arm arm' := by
  obtain ⟨fi1, ar1, ln1, k1, s1, fm1, arm1, b1, a5, a3, a4, b2, b3, b4⟩ := sel_ok hV x1 hnf
  have cst : ∀ k s, k ≤ 1 → s ≤ 6 → CST ln ln1 (k1 + k) (s1 + s) 2 12 := fun k s hk hs => by
    obtain ⟨c1, c2, c3⟩ := a5
    exact ⟨c1, by omega, by omega⟩
  unfold FX10_about FX10_about_65 M_about M_about_31
  rcases b4 with ⟨e1, e2, e3⟩ | ⟨e1, e2, e3, e4⟩ | ⟨q, e, j, b, N, U, ms, D, ρ, w1, e1, e2, e3, hSel⟩
  · rw [e1, obnd6_some, sumcR, e2, obnd3_some, brF (by decide)]
    exact ⟨_, _, fi1, ar1, ln1, _, _, fm1, arm1, rfl, rfl, Or.inl ⟨rfl, e3⟩, b1, cst 0 0 (by omega) (by omega), a3, a4, b2, b3⟩
  · rw [e1, obnd6_some, sumcL, e2, obnd6_some, sumcR, e3, obnd3_some, brF (by decide)]
    exact ⟨_, _, fi1, ar1, ln1, _, _, fm1, arm1, rfl, rfl, Or.inr (Or.inl ⟨rfl, e4⟩), b1, cst 1 6 (by omega) (by omega), a3, a4, b2, b3⟩
  · obtain ⟨t1, t2, t3, t4, t5, t6, t7, t8, t9, t10, t11, t12, t13, t14, t15, t16, t17, t18, t19, t20, t21, t22, t23, t24, t25, t26⟩ := hSel
    have hn := b1.1
    have hb := b1.2.1
    have hC := t5.1.1
    have hR := t13.1.1
    have hln0 : ln1 0 = 128 * n := t5.2.1.1
    have hDk := t2.2.2.1 _ t3
    have hte := (hDk.ent t9).1.2.1
    have hparts : FX2_partsOf nf ln1 0 fi1 ar1 (nI q) = some (nI e.2, fi1, ar1) := by
      obtain ⟨L, hL, hle⟩ := t5.2.2.2.2.2
      rw [t8]; exact partsOf_eq t5.2.2.2.1 hL hle t7
    have hp22 : arm1 22 (b + q) = nI e.2 := by rw [t8]; exact (t21 q t7).2.2.1
    obtain ⟨p, hp⟩ : ∃ p, p = dA (geoOf n d) d (hf (geoOf n d) h) e.1 := ⟨_, rfl⟩
    rw [← hp] at e2 t23 t24 t25 t26 hte
    have hbq : b + q ≠ 0 ∧ b + q < 16400 := by omega
    have hpa : pA arm1 (b + q) = p := pA_nI t26 (by omega)
    have hdr : drF arm1 d (b + q) ↔ isDr d p := by
      unfold drF
      rw [hpa]
      exact ⟨fun w => w.elim (fun z => absurd z hbq.1) id, Or.inr⟩
    have hp1 : p + 32 ≤ 4 * ln1 0 := by omega
    have hp2 : p + 32 ≤ 524288 := by omega
    have c0 : CST ln ln1 (k1 + (0 + 0)) (s1 + (0 + 0)) 2 12 := cst 0 0 (by omega) (by omega)
    have c1 : CST ln ln1 (k1 + (0 + 1)) (s1 + (0 + 6)) 2 12 := cst 1 6 (by omega) (by omega)
    have h28 : (p + 28) % 4 = 0 := by omega
    clear t25 t24 t23 t21 t13 t2 t3 t9 a5 cst hDk t8 t7 t5 t12
    rw [e1, obnd6_some, sumcL, e2, obnd6_some, sumcL, e3, obnd3_some, brT rfl]
    have f0 : M_fails nf fm1 arm1 0 3 = _ := fails_eq (nf := nf) (ar := arm1) t10 (t := 0) (by decide) 3 (by decide)
    rw [if_pos rfl, if_pos rfl] at f0
    have f1 : M_fails nf fm1 arm1 1 3 = _ := fails_eq (nf := nf) (ar := arm1) t10 (t := 1) (by decide) 3 (by decide)
    rw [if_neg (by decide), if_neg (by decide)] at f1
    have bad : ∃ v r fi' ar' ln' kc ks fm' arm', addc k1 s1 (addc 0 0 (some ((Sum.inr 2 : Int64 ⊕ Nat), fi1, ar1, ln1, 1, 6))) = some (r, fi', ar', ln', kc, ks) ∧ M_about_19 nf (nI q) x2 fm1 arm1 = some (v, fm', arm') ∧ ((r = Sum.inr 0 ∧ fm' 5 = 1) ∨ (r = Sum.inr 1 ∧ fm' 5 = 2) ∨ (r = Sum.inr 2 ∧ fm' 5 = 3) ∨ (r = Sum.inl v ∧ fm' 5 = 0)) ∧ VOL n ln' fi' ar' fm' arm' d h ∧ CST ln ln' kc ks 2 12 ∧ offF oFC fi fi' ∧ offAs oAC ar ar' ∧ offF oFM fm fm' ∧ offAs oAM arm arm' := by
      unfold M_about_19 M_about_24 M_about_31
      rw [f1, obnd3_some, brF (by decide)]
      exact ⟨_, _, fi1, ar1, ln1, _, _, _, arm1, rfl, rfl, Or.inr (Or.inr (Or.inl ⟨rfl, va_up_self _ _ _⟩)), b1.upM, c1, a3, a4, b2.up (by simp [oFM]), b3⟩
    have good : ∀ v : Int64, M_about_24 nf (nI q) x2 0 fm1 arm1 = some (v, fm1, arm1) → ∃ v' r fi' ar' ln' kc ks fm' arm', addc k1 s1 (addc 0 0 (some ((Sum.inl v : Int64 ⊕ Nat), fi1, ar1, ln1, 0, 0))) = some (r, fi', ar', ln', kc, ks) ∧ M_about_24 nf (nI q) x2 0 fm1 arm1 = some (v', fm', arm') ∧ ((r = Sum.inr 0 ∧ fm' 5 = 1) ∨ (r = Sum.inr 1 ∧ fm' 5 = 2) ∨ (r = Sum.inr 2 ∧ fm' 5 = 3) ∨ (r = Sum.inl v' ∧ fm' 5 = 0)) ∧ VOL n ln' fi' ar' fm' arm' d h ∧ CST ln ln' kc ks 2 12 ∧ offF oFC fi fi' ∧ offAs oAC ar ar' ∧ offF oFM fm fm' ∧ offAs oAM arm arm' := fun v hv =>
      ⟨v, _, fi1, ar1, ln1, _, _, fm1, arm1, rfl, hv, Or.inr (Or.inr (Or.inr ⟨rfl, t10⟩)), b1, c0, a3, a4, b2, b3⟩
    rw [w1]
    by_cases q0 : x2 = 0
    · subst q0
      rw [brT rfl, isDirectory_eq hC hp1, obnd3_some, brF (show ¬ (0 : Int32) < 0 by decide), brT (show (0 : Int32) ≤ 6 by decide)]
      by_cases qd : isDr d p
      · rw [if_pos qd, brF (by decide)]
        apply good
        unfold M_about_24 M_about_56
        rw [f0, obnd3_some, brT rfl, t22, obnd3_some, brT rfl, isFolder_eq hR hbq.2 (fun _ => by rw [hpa]; exact hp2), obnd3_some, if_pos (hdr.mpr qd), brF (by decide)]
      · rw [if_neg qd, brT rfl]
        apply good
        unfold M_about_24 M_about_56
        rw [f0, obnd3_some, brT rfl, t22, obnd3_some, brT rfl, isFolder_eq hR hbq.2 (fun _ => by rw [hpa]; exact hp2), obnd3_some, if_neg (fun w => qd (hdr.mp w)), brT rfl]
    · rw [brF q0]
      by_cases q1 : x2 = 1
      · subst q1
        rw [brT rfl, show nI p + (11 : Int32) = nI (p + 11) from nI_add p 11, FX3_one_eq hC (by omega), obnd3_some, brF (by decide), brT (by decide)]
        apply good
        unfold M_about_24
        rw [f0, obnd3_some, brT rfl, t22, obnd3_some, brF (by decide), brT rfl, zgd hbq.2 (by omega), nI_clamp (by omega), t26, show nI p + (11 : Int32) = nI (p + 11) from nI_add p 11, M_one_eq hR (by omega), obnd3_some]
      · rw [brF q1]
        by_cases q2 : x2 = 2
        · subst q2
          obtain ⟨v, g1, g2⟩ := read_eq (nf := nf) (fi := fi1) (fm := fm1) hb hC hR hp1 hp2 hte hnf hbq.2 t26
          rw [brT rfl, g1, obnd3_some, brF (by decide), brT (by decide)]
          apply good
          unfold M_about_24 M_about_123
          rw [f0, obnd3_some, brT rfl, t22, obnd3_some, brF (by decide), brF (by decide), brF (by decide), brF (by decide), show (2 : Int32) - 2 = 0 from rfl, g2, obnd3_some]
        · rw [brF q2]
          by_cases q3 : x2 = 3
          · subst q3
            obtain ⟨v, g1, g2⟩ := madeS_eq (nf := nf) (fi := fi1) (fm := fm1) hb hC hR hp1 hp2 hte hnf hbq.2 t26
            rw [brT rfl, g1, obnd3_some, brF (by decide), brT (by decide)]
            apply good
            unfold M_about_24 M_about_123
            rw [f0, obnd3_some, brT rfl, t22, obnd3_some, brF (by decide), brF (by decide), brF (by decide), brF (by decide), show (3 : Int32) - 2 = 1 from rfl, g2, obnd3_some]
          · rw [brF q3]
            by_cases q4 : x2 = 4
            · subst q4
              obtain ⟨v, g1, g2⟩ := written_eq (nf := nf) (fi := fi1) (fm := fm1) hb hC hR hp1 hp2 hte hnf
              rw [brT rfl, g1, obnd3_some, brF (by decide), brT (by decide)]
              apply good
              unfold M_about_24 M_about_123
              rw [f0, obnd3_some, brT rfl, t22, obnd3_some, brF (by decide), brF (by decide), brF (by decide), brF (by decide), show (4 : Int32) - 2 = 2 from rfl, timeOf2 hbq.2 t26, g2, obnd3_some]
            · rw [brF q4]
              by_cases q5 : x2 = 5
              · subst q5
                rw [brT rfl, show nI p + (28 : Int32) = nI (p + 28) from nI_add p 28, FX3_four_eq hC h28 (by omega), obnd3_some, brF (by decide), brT (by decide)]
                apply good
                unfold M_about_24 M_about_123
                rw [f0, obnd3_some, brT rfl, t22, obnd3_some, brF (by decide), brF (by decide), brF (by decide), brT (by decide), zgd hbq.2 (by omega), nI_clamp (by omega), t26, show nI p + (28 : Int32) = nI (p + 28) from nI_add p 28, M_four_eq hR (by omega), obnd3_some]
              · rw [brF q5]
                by_cases q6 : x2 = 6
                · subst q6
                  rw [brT rfl, hparts, obnd3_some, brF (by decide), brT (by decide)]
                  apply good
                  unfold M_about_24
                  rw [f0, obnd3_some, brT rfl, t22, obnd3_some, brF (by decide), brF (by decide), brT rfl, zgd hbq.2 (by omega), nI_clamp (by omega), hp22]
                · rw [brF q6]
                  by_cases q7 : x2 < 0
                  · rw [brT q7]; exact bad
                  · rw [brF q7]
                    have q8 : ¬ x2 ≤ 6 := by
                      obtain ⟨m, hm, rfl⟩ := nI_of q7
                      intro w
                      have : m ≤ 6 := by
                        have := tI (nI m)
                        rw [leI, nI_toInt hm] at w
                        have l6 : (6 : Int32).toInt = 6 := rfl
                        omega
                      rcases (show m = 0 ∨ m = 1 ∨ m = 2 ∨ m = 3 ∨ m = 4 ∨ m = 5 ∨ m = 6 by omega) with z | z | z | z | z | z | z <;> subst z
                      · exact q0 rfl
                      · exact q1 rfl
                      · exact q2 rfl
                      · exact q3 rfl
                      · exact q4 rfl
                      · exact q5 rfl
                      · exact q6 rfl
                    rw [brF q8]; exact bad
