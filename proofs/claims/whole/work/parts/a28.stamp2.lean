theorem stamp_alike {nf n h : Nat} {ln : LN} {fi fm : FI} {ar arm : AR} {d : Nat → Nat} (hV : VOL n ln fi ar fm arm d h) (x1 x2 x3 x4 : Int32) (hnf : 40000 ≤ nf) : ∃ r d' fi' ar' ln' kc ks fm' arm', FX10_stamp nf fi ar ln x1 x2 x3 x4 = some (r, fi', ar', ln', kc, ks) ∧ M_stamp nf fm arm x1 x2 x3 x4 = some ((), fm', arm') ∧ ((r = Sum.inr 0 ∧ fm' 5 = 1) ∨ (r = Sum.inr 1 ∧ fm' 5 = 2) ∨ (r = Sum.inr 2 ∧ fm' 5 = 3) ∨ (r = Sum.inl () ∧ fm' 5 = 0)) ∧ VOL n ln' fi' ar' fm' arm' d' h ∧ CST ln ln' kc ks 2 12 ∧ offF oFC fi fi' ∧ offAs (0 :: oAC) ar ar' ∧ offF oFM fm fm' ∧ offAs (1 :: oAM) arm arm' := by
  obtain ⟨fi1, ar1, ln1, k1, s1, fm0, fm1, arm1, b1, a5, a3, a4, b2, b3, b4⟩ := sel2_ok hV x1 hnf
  have a4' : offAs (0 :: oAC) ar ar1 := a4.mono (fun j hj => List.mem_cons_of_mem _ hj)
  have b3' : offAs (1 :: oAM) arm arm1 := b3.mono (fun j hj => List.mem_cons_of_mem _ hj)
  have cst : ∀ k s, k ≤ 1 → s ≤ 6 → CST ln ln1 (k1 + k) (s1 + s) 2 12 := fun k s hk hs => by
    obtain ⟨c1, c2, c3⟩ := a5
    exact ⟨c1, by omega, by omega⟩
  have hMs : M_stamp nf fm arm x1 x2 x3 x4 = obnd3 (M_none nf fm arm) (fun r fi ar => br (r = 0) (br (x1 < 0) (M_stamp_25 nf x1 x2 x3 x4 1 fi ar) (obnd3 (M_many nf fi ar) fun r' fi' ar' => br (x1 < r') (M_stamp_25 nf x1 x2 x3 x4 0 fi' ar') (M_stamp_25 nf x1 x2 x3 x4 1 fi' ar'))) (M_stamp_32 nf fi ar)) := rfl
  rw [hMs]
  unfold FX10_stamp
  rcases b4 with ⟨e1, e2, e3⟩ | ⟨e1, e2, e3, e4, e5⟩ | ⟨q, e, j, b, N, U, ms, D, ρ, w1, e1, e2, e3, e4, hSel⟩
  · rw [e1, obnd6_some, sumcR, e2 _ (fun t fi ar => M_stamp_25 nf x1 x2 x3 x4 t fi ar) (fun fi ar => M_stamp_32 nf fi ar)]
    exact ⟨_, d, fi1, ar1, ln1, _, _, fm1, arm1, rfl, rfl, Or.inl ⟨rfl, e3⟩, b1, cst 0 0 (by omega) (by omega), a3, a4', b2, b3'⟩
  · rw [e1, obnd6_some, sumcL, e2, obnd6_some, sumcR, e3 _ (fun t fi ar => M_stamp_25 nf x1 x2 x3 x4 t fi ar) (fun fi ar => M_stamp_32 nf fi ar)]
    unfold M_stamp_25 M_stamp_32
    rw [e4, obnd3_some, brF (by decide)]
    exact ⟨_, d, fi1, ar1, ln1, _, _, fm1, arm1, rfl, rfl, Or.inr (Or.inl ⟨rfl, e5⟩), b1, cst 1 6 (by omega) (by omega), a3, a4', b2, b3'⟩
  · obtain ⟨t1, t2, t3, t4, t5, t6, t7, t8, t9, t10, t11, t12, t13, t14, t15, t16, t17, t18, t19, t20, t21, t22, t23, t24, t25, t26⟩ := hSel
    have hn := b1.1
    have hb := b1.2.1
    have hW := t5.1
    have hC := t5.1.1
    have hR := t13.1.1
    have hln0 : ln1 0 = 128 * n := t5.2.1.1
    have hDk := t2.2.2.1 _ t3
    have hte := (hDk.ent t9).1.2.1
    have h63 := (hDk.ent t9).1.1
    obtain ⟨p, hp⟩ : ∃ p, p = dA (geoOf n d) d (hf (geoOf n d) h) e.1 := ⟨_, rfl⟩
    rw [← hp] at e2 t23 t24 t25 t26 hte h63
    have hbq : b + q < 16400 := by omega
    have hp1 : p + 32 ≤ 4 * ln1 0 := by omega
    have hp2 : p + 32 ≤ 524288 := by omega
    have htb := ((flt_iff hn.1 hn.2).mp t1).2.1
    have c0 : CST ln ln1 (k1 + (0 + 0)) (s1 + (0 + 0)) 2 12 := cst 0 0 (by omega) (by omega)
    have c1 : CST ln ln1 (k1 + (0 + 1)) (s1 + (0 + 6)) 2 12 := cst 1 6 (by omega) (by omega)
    clear t24 t23 t21 t13 a5 cst hDk t8 t7 t12
    rw [e1, obnd6_some, sumcL, e2, obnd6_some, sumcL, e3 _ (fun t fi ar => M_stamp_25 nf x1 x2 x3 x4 t fi ar) (fun fi ar => M_stamp_32 nf fi ar)]
    obtain ⟨t, ht, g1, g2⟩ := fits_ok (nf := nf) (fi := fi1) (fm := fm1) hC hR hp1 hp2 x2 x3 x4
    unfold M_stamp_25
    rw [e4, obnd3_some, brT rfl, w1, t22, obnd3_some, zgd hbq (by omega), nI_clamp (by omega), bnd_eq, t26, g2, g1, obnd3_some]
    rcases ht with ⟨rfl, hF⟩ | ⟨rfl, hF⟩
    · obtain ⟨d', ar2, arm2, y1, y2, y3, y4, y5, y6, y7, y8, y9, y10⟩ := stamp_wr (nf := nf) (fi := fi1) (fm := fm1) hb hC hR hp1 hp2 t10 hte h63 hF hnf
      rw [brF (show ¬ (1 : Int32) = 0 by decide), y1, y2]
      obtain ⟨z1, z2, z3⟩ := stamp_snd hW.2.2.1 t2 t3 t9 hp t25 htb y8 y9 y10
      have hV' := (b1.mut (d' := d') (fi' := fi1) (fm' := va_up fm1 15 0) (ar' := ar2) (arm' := arm2) t1 t6 hW.2.1 (S1 := []) (S2 := [15]) offF.rf (offF.rf.up (by simp)) (by simp) (by simp) (va_up_self _ _ _) y3 y4 y7 z3 z2 z1 t4).1
      exact ⟨_, d', fi1, ar2, ln1, _, _, _, arm2, rfl, rfl, Or.inr (Or.inr (Or.inr ⟨rfl, by rw [va_up_off (by decide)]; exact t10⟩)), hV', c0, a3, a4'.tr (y5.as.mono (by simp)), b2.up (by simp [oFM]), b3'.tr (y6.as.mono (by simp))⟩
    · have f1 : M_fails nf fm1 arm1 1 3 = _ := fails_eq (nf := nf) (ar := arm1) t10 (t := 1) (by decide) 3 (by decide)
      rw [if_neg (by decide), if_neg (by decide)] at f1
      unfold M_stamp_176 M_stamp_189
      rw [brT rfl, brT rfl, f1, obnd3_some, brF (by decide)]
      exact ⟨_, d, fi1, ar1, ln1, _, _, _, arm1, rfl, rfl, Or.inr (Or.inr (Or.inl ⟨rfl, va_up_self _ _ _⟩)), b1.upM, c1, a3, a4', b2.up (by simp [oFM]), b3'⟩
