/-! write and grow answer alike -/
def oFW : List Nat := 80 :: 81 :: 82 :: oFC
/-- the way on from a file that was found -/
theorem len_alike {nf n h : Nat} {ln1 : LN} {fi1 fm1 : FI} {ar1 arm1 : AR} {d : Nat → Nat} {q : Nat} {e : Nat × Nat} {j b N U : Nat} {ms D : List Nat} {ρ : Nat → Nat} {p cnt : Nat} {x3 x4 : Int32} {v : Nat → Nat} (b1 : VOL n ln1 fi1 ar1 fm1 arm1 d h) (hp : p = dA (geoOf n d) d (hf (geoOf n d) h) e.1) (hnd : ¬ isDr d p) (hSel : SEL nf n h ln1 fi1 fm1 ar1 arm1 d q e j b N U ms D ρ) (hcn : cnt ≤ 400000) (hv : ∀ j, j < cnt → (x3 = 0 ∧ v j % 256 = uv (x4 + nI j * nI j + (nI j >>> ((8 : Int32) &&& 31))) % 256) ∨ (¬ x3 = 0 ∧ j < 4096 ∧ v j % 256 = uv (ar1 1 j) % 256)) (hv2 : ∀ j, j < cnt → (x3 = 0 ∧ v j % 256 = uv (x4 + nI j * nI j + (nI j >>> ((8 : Int32) &&& 31))) % 256) ∨ (¬ x3 = 0 ∧ j < 4096 ∧ v j % 256 = uv (arm1 2 j) % 256)) (hnf : 600000 ≤ nf) : ∃ val r d' fi' ar' k s fm' arm', FX10_lengthenFile nf fi1 ar1 ln1 (nI p) (nI cnt) x3 x4 = some (r, fi', ar', ln1, k, s) ∧ k ≤ 1 ∧ s ≤ 6 ∧ M_append nf fm1 arm1 (nI (b + q)) (nI cnt) x3 x4 = some (val, fm', arm') ∧ ((r = Sum.inr 3 ∧ fm' 5 = 4) ∨ (r = Sum.inl val ∧ fm' 5 = 0)) ∧ VOL n ln1 fi' ar' fm' arm' d' h ∧ offF [80, 81, 82] fi1 fi' ∧ offA 0 ar1 ar' ∧ offF [5, 15, 31] fm1 fm' ∧ offAs [1, 29] arm1 arm' := by
  obtain ⟨t1, t2, t3, t4, t5, t6, t7, t8, t9, t10, t11, t12, t13, t14, t15, t16, t17, t18, t19, t20, t21, t22, t23, t24, t25, t26⟩ := hSel
  have hn := b1.1
  have hb := b1.2.1
  have hW := t5.1
  have hRW := t13.1
  have hln0 : ln1 0 = 128 * n := t5.2.1.1
  have hln1 : ln1 1 = 4096 := t5.2.1.2.1
  have hDk := t2.2.2.1 _ t3
  have hfok := (hDk.ent t9).2.2.2.2
  rw [← hp] at t23 t24 t25 t26 hfok
  have hfok := hfok hnd
  have hbq : b + q < 16400 := by omega
  have hp1 : p + 32 ≤ 4 * ln1 0 := by omega
  have hp2 : p + 32 ≤ 524288 := by omega
  have h28 : (p + 28) % 4 = 0 := by omega
  have htb := ((flt_iff hn.1 hn.2).mp t1).2.1
  have hG := hW.2.2.1
  have bG := hG.b
  clear t24 t23 t21 t13 hDk t8 t7 t12
  obtain ⟨f1, f2, f3⟩ := hfok.stp
  have hcl : clu (geoOf n d) (fc1 (geoOf n d) d p) := by
    rcases f1 with ⟨_, _, w⟩ | w
    · rw [w]; exact ⟨List.nodup_nil, fun y hy => absurd hy (by simp)⟩
    · exact lnk_clu w
  obtain ⟨s, hs⟩ : ∃ s, s = fo d (p + 28) := ⟨_, rfl⟩
  rw [← hs] at f2 f3
  have hsz : s ≤ 524288 := by
    have h1 := cls_ge (G := geoOf n d) (by omega) s
    have h2 : 512 * (geoOf n d).c * cls (geoOf n d) s ≤ 512 * (geoOf n d).c * (geoOf n d).k := Nat.mul_le_mul_left _ (by rw [← f2]; exact hcl.len)
    have h3 : 512 * (geoOf n d).c * (geoOf n d).k = 512 * ((geoOf n d).k * (geoOf n d).c) := by rw [Nat.mul_assoc, Nat.mul_comm (geoOf n d).c]
    have hnn : (geoOf n d).n = n := rfl
    omega
  by_cases c : cls (geoOf n d) (s + cnt) - cls (geoOf n d) s ≤ frC (geoOf n d) d 2 (geoOf n d).k
  · obtain ⟨z, add, r1, r2, r3, r4, r5, r7, r8, r9, r10, r11⟩ := wrt_snd (v := v) hb hG t2 t3 t9 hp hnd htb hfok hs (by omega) c
    obtain ⟨fi', ar', y1, y2, y3, y4⟩ := lenC_ok (nf := nf) (x3 := x3) (x4 := x4) (v := v) hW hs (by omega) (by omega) h28 hp1 hln1 f1 f2 c r1 r2 r3 r4 r5 r7 hv (by omega)
    obtain ⟨fm', arm', u1, u2, u3, u4, u5⟩ := appM_ok (nf := nf) (x3 := x3) (x4 := x4) (v := v) hRW t10 hbq t26 hp2 hs (by omega) (by omega) f1 c r1 r2 r3 r5 hv2 (by omega)
    have hV' := (b1.mut (fi' := fi') (fm' := fm') (ar' := ar') (arm' := arm') t1 t6 hW.2.1 (S1 := [80, 81, 82]) (S2 := [15, 31]) y3 u4 (by simp) (by simp) u3 y2 u2 r8 r9 r10 r11 t4).1
    exact ⟨_, _, _, fi', ar', 1, 5, fm', arm', y1, by omega, by omega, u1, Or.inr ⟨rfl, by rw [u4 5 (by simp)]; exact t10⟩, hV', y3, y4, u4.mono (by simp), u5⟩
  · have hcl2 : cls (geoOf n d) (s + cnt) < 2147483648 := by
      have : cls (geoOf n d) (s + cnt) ≤ (s + cnt + 512 * (geoOf n d).c - 1) := Nat.div_le_self _ _
      omega
    exact ⟨_, _, d, fi1, ar1, 1, 6, _, arm1, lenC_no hW hs (by omega) h28 hp1 c (by omega), by omega, by omega, appM_no hRW t10 hbq t26 hp2 hs (by omega) hcl2 c (by omega), Or.inl ⟨rfl, va_up_self _ _ _⟩, b1.upM, offF.rf, offA.rf, offF.rf.up (by simp), offAs.rf⟩
theorem grow_alike {nf n h : Nat} {ln : LN} {fi fm : FI} {ar arm : AR} {d : Nat → Nat} (hV : VOL n ln fi ar fm arm d h) (x1 x2 x3 : Int32) (hnf : 600000 ≤ nf) : ∃ v r d' fi' ar' ln' kc ks fm' arm', FX10_grow nf fi ar ln x1 x2 x3 = some (r, fi', ar', ln', kc, ks) ∧ M_grow nf fm arm x1 x2 x3 = some (v, fm', arm') ∧ ((r = Sum.inr 0 ∧ fm' 5 = 1) ∨ (r = Sum.inr 1 ∧ fm' 5 = 2) ∨ (r = Sum.inr 2 ∧ fm' 5 = 3) ∨ (r = Sum.inr 3 ∧ fm' 5 = 4) ∨ (r = Sum.inl v ∧ fm' 5 = 0)) ∧ VOL n ln' fi' ar' fm' arm' d' h ∧ CST ln ln' kc ks 2 12 ∧ offF oFW fi fi' ∧ offAs (0 :: oAC) ar ar' ∧ offF oFM fm fm' ∧ offAs (1 :: oAM) arm arm' := by
  have hMw : ∃ w, ((w = 0 ∧ ¬ x2 < 0 ∧ x2 ≤ 400000) ∨ (w = 1 ∧ (x2 < 0 ∨ (¬ x2 < 0 ∧ ¬ x2 ≤ 400000)))) ∧ M_grow nf fm arm x1 x2 x3 = M_grow_18 nf x1 x2 x3 x1 w fm arm := by
    unfold M_grow M_grow_13
    by_cases c : x2 < 0
    · exact ⟨1, Or.inr ⟨rfl, Or.inl c⟩, by rw [brT c]⟩
    · by_cases c2 : x2 ≤ 400000
      · exact ⟨0, Or.inl ⟨rfl, c, c2⟩, by rw [brF c, brT c2]⟩
      · exact ⟨1, Or.inr ⟨rfl, Or.inr ⟨c, c2⟩⟩, by rw [brF c, brF c2]⟩
  obtain ⟨w, hw, hM⟩ := hMw
  rw [hM]
  obtain ⟨fi1, ar1, ln1, k1, s1, fm1, arm1, b1, a5, a3, a4, b2, b3, b4⟩ := selF_ok (nf := nf) hV x1 w (by omega)
  have a3' : offF oFW fi fi1 := a3.mono (fun j hj => by unfold oFW; simp [hj])
  have a4' : offAs (0 :: oAC) ar ar1 := a4.mono (fun j hj => List.mem_cons_of_mem _ hj)
  have b3' : offAs (1 :: oAM) arm arm1 := b3.mono (fun j hj => List.mem_cons_of_mem _ hj)
  have cst : ∀ k s, k ≤ 1 → s ≤ 6 → CST ln ln1 (k1 + k) (s1 + s) 2 12 := fun k s hk hs => by
    obtain ⟨c1, c2, c3⟩ := a5
    exact ⟨c1, by omega, by omega⟩
  unfold FX10_grow M_grow_18 M_grow_40 FX10_grow_22
  rcases b4 with ⟨e1, e2, e3⟩ | ⟨e1, e2, e3, e4⟩ | ⟨e1, e2, e3, e4⟩ | ⟨q, e, j, b, N, U, ms, D, ρ, p, w1, hp, hnd, e1, e2, e3, e4, hSel⟩
  · rw [e1, obnd6_some, sumcR, e2, obnd3_some, brF (by decide)]
    exact ⟨_, _, d, fi1, ar1, ln1, _, _, fm1, arm1, rfl, rfl, Or.inl ⟨rfl, e3⟩, b1, cst 0 0 (by omega) (by omega), a3', a4', b2, b3'⟩
  · rw [e1, obnd6_some, sumcL, e2, obnd6_some, sumcR, e3, obnd3_some, brF (by decide)]
    exact ⟨_, _, d, fi1, ar1, ln1, _, _, fm1, arm1, rfl, rfl, Or.inr (Or.inl ⟨rfl, e4⟩), b1, cst 1 6 (by omega) (by omega), a3', a4', b2, b3'⟩
  · rw [e1, obnd6_some, sumcL, e2, obnd6_some, sumcR, e3, obnd3_some, brF (by decide)]
    exact ⟨_, _, d, fi1, ar1, ln1, _, _, fm1, arm1, rfl, rfl, Or.inr (Or.inr (Or.inl ⟨rfl, e4⟩)), b1, cst 1 6 (by omega) (by omega), a3', a4', b2, b3'⟩
  · rw [e1, obnd6_some, sumcL, e2, obnd6_some, sumcL]
    rcases hw with ⟨rfl, g1, g2⟩ | ⟨rfl, g⟩
    · obtain ⟨cnt, hcnt, rfl⟩ := nI_of g1
      have hc4 : cnt ≤ 400000 := by
        apply Decidable.byContradiction
        intro z
        exact nI_ge (a := 400000) (b := cnt) (by omega) (by omega) g2
      have hitem := hSel.2.2.2.2.2.2.2.2.2.2.2.2.2.2.2.2.2.2.2.2.2.1
      obtain ⟨val, r, d', fi', ar', k, s, fm', arm', y1, y2, y3, y4, y5, y6, y7, y8, y9, y10⟩ := len_alike (x3 := 0) (x4 := x3) (v := fun j => uv (x3 + nI j * nI j + (nI j >>> ((8 : Int32) &&& 31)))) b1 hp hnd hSel hc4 (fun j _ => Or.inl ⟨rfl, rfl⟩) (fun j _ => Or.inl ⟨rfl, rfl⟩) hnf
      have o3 : offF oFW fi fi' := a3'.tr (y7.mono (fun z hz => by simp at hz; simp [oFW]; omega))
      have o4 : offAs (0 :: oAC) ar ar' := a4'.tr (y8.as.mono (by simp))
      have o5 : offF oFM fm fm' := b2.tr (y9.mono (by simp [oFM]))
      have o6 : offAs (1 :: oAM) arm arm' := b3'.tr (y10.mono (by simp [oAM]))
      rw [brF g1, brT g2, y1, obnd6_some, e3 rfl, obnd3_some, brT rfl, w1, hitem, obnd3_some, y4, obnd3_some]
      rcases y5 with ⟨rfl, z⟩ | ⟨rfl, z⟩
      · rw [sumcR]
        exact ⟨_, _, d', fi', ar', ln1, _, _, fm', arm', rfl, rfl, Or.inr (Or.inr (Or.inr (Or.inl ⟨rfl, z⟩))), y6, cst (0 + (k + 0)) (0 + (s + 0)) (by omega) (by omega), o3, o4, o5, o6⟩
      · rw [sumcL]
        exact ⟨_, _, d', fi', ar', ln1, _, _, fm', arm', rfl, rfl, Or.inr (Or.inr (Or.inr (Or.inr ⟨rfl, z⟩))), y6, cst (0 + (k + 0)) (0 + (s + 0)) (by omega) (by omega), o3, o4, o5, o6⟩
    · rw [e4 (by decide), obnd3_some, brF (show ¬ (1 : Int32) = 0 by decide)]
      have hcc : br (x2 < 0) (some ((Sum.inr 2 : Int32 ⊕ Nat), fi1, ar1, ln1, 1, 6)) (br (x2 ≤ 400000) (obnd6 (FX10_lengthenFile nf fi1 ar1 ln1 (nI p) x2 0 x3) fun r31 fi28 ar29 ln30 kc33 ks34 => addc (kc33) (ks34) (sumc r31 (fun v32 => some (Sum.inl (v32), fi28, ar29, ln30, 0, 0)) (fun k35 => some (Sum.inr k35, fi28, ar29, ln30, 0, 0)))) (some ((Sum.inr 2 : Int32 ⊕ Nat), fi1, ar1, ln1, 1, 6))) = some ((Sum.inr 2 : Int32 ⊕ Nat), fi1, ar1, ln1, 1, 6) := by
        rcases g with g | ⟨g, g2⟩
        · rw [brT g]
        · rw [brF g, brF g2]
      rw [hcc]
      exact ⟨_, _, d, fi1, ar1, ln1, _, _, _, arm1, rfl, rfl, Or.inr (Or.inr (Or.inl ⟨rfl, va_up_self _ _ _⟩)), b1.upM, cst (0 + 1) (0 + 6) (by omega) (by omega), a3', a4', b2.up (by simp [oFM]), b3'⟩
theorem VOL.taken {n h : Nat} {ln : LN} {fi fm : FI} {ar arm : AR} {d : Nat → Nat} (hV : VOL n ln fi ar fm arm d h) : VOL n ln (va_up fi 3 0) ar (va_up fm 4 0) arm d h := by
  have h1 : VOL n ln (va_up fi 3 0) ar fm arm d h := hV.offC (S := [3]) (T := []) (offF.rf.up (by simp)) offAs.rf (by simp) (by simp) hV.2.2.2.2.2.2.1 hV.2.2.2.2.2.2.2.1 (by
    rcases hV.2.2.2.2.2.2.2.2.2.2.2.1 with w | ⟨w1, w2⟩
    · left; rw [va_up_off (by decide)]; exact w
    · right; exact ⟨by rw [va_up_off (by decide)]; exact w1, fun hh => (w2 hh).up (by simp)⟩)
  exact h1.offM (S := [4]) (T := []) (offF.rf.up (by simp)) offAs.rf (by simp) (by simp)
theorem write_alike {nf n h T : Nat} {ln : LN} {fi fm : FI} {ar arm : AR} {d : Nat → Nat} (hV0 : VOL n ln fi ar fm arm d h) (hT : TAP fi ar fm arm T) (x1 : Int32) (hnf : 600000 ≤ nf) : ∃ v r d' fi' ar' ln' kc ks fm' arm', FX10_write nf fi ar ln x1 = some (r, fi', ar', ln', kc, ks) ∧ M_write nf fm arm x1 = some (v, fm', arm') ∧ ((r = Sum.inr 0 ∧ fm' 5 = 1) ∨ (r = Sum.inr 1 ∧ fm' 5 = 2) ∨ (r = Sum.inr 2 ∧ fm' 5 = 3) ∨ (r = Sum.inr 3 ∧ fm' 5 = 4) ∨ (r = Sum.inl v ∧ fm' 5 = 0)) ∧ VOL n ln' fi' ar' fm' arm' d' h ∧ CST ln ln' kc ks 2 12 ∧ TAP fi' ar' fm' arm' 0 := by
  have hV := hV0.taken
  obtain ⟨T1, T2, T3, T4, T5⟩ := hT
  have hT0 : TAP (va_up fi 3 0) ar (va_up fm 4 0) arm 0 := ⟨by omega, va_up_self _ _ _, va_up_self _ _ _, T4, by
    rcases T5 with ⟨w1, w2⟩ | ⟨w1, w2⟩
    · exact Or.inl ⟨by rw [va_up_off (by decide)]; exact w1, w2⟩
    · exact Or.inr ⟨by rw [va_up_off (by decide)]; exact w1, w2⟩⟩
  obtain ⟨fi1, ar1, ln1, k1, s1, fm1, arm1, b1, a5, a3, a4, b2, b3, b4⟩ := selF_ok (nf := nf) hV x1 0 (by omega)
  have hT1 : TAP fi1 ar1 fm1 arm1 0 := hT0.off a3 a4 b2 b3 (by simp [oFC]) (by simp [oAC]) (by simp [oFM]) (by simp [oAM])
  have cst : ∀ k s, k ≤ 1 → s ≤ 6 → CST ln ln1 (k1 + k) (s1 + s) 2 12 := fun k s hk hs => by
    obtain ⟨c1, c2, c3⟩ := a5
    exact ⟨c1, by omega, by omega⟩
  unfold FX10_write M_write M_write_35 FX8_take
  rw [bnd_eq, bnd_eq, obnd3_some, bnd_eq, bnd_eq, T2, T3]
  rcases b4 with ⟨e1, e2, e3⟩ | ⟨e1, e2, e3, e4⟩ | ⟨e1, e2, e3, e4⟩ | ⟨q, e, j, b, N, U, ms, D, ρ, p, w1, hp, hnd, e1, e2, e3, e4, hSel⟩
  · rw [e1, obnd6_some, sumcR, e2, obnd3_some, brF (by decide)]
    exact ⟨_, _, d, fi1, ar1, ln1, _, _, fm1, arm1, rfl, rfl, Or.inl ⟨rfl, e3⟩, b1, cst 0 0 (by omega) (by omega), hT1⟩
  · rw [e1, obnd6_some, sumcL, e2, obnd6_some, sumcR, e3, obnd3_some, brF (by decide)]
    exact ⟨_, _, d, fi1, ar1, ln1, _, _, fm1, arm1, rfl, rfl, Or.inr (Or.inl ⟨rfl, e4⟩), b1, cst 1 6 (by omega) (by omega), hT1⟩
  · rw [e1, obnd6_some, sumcL, e2, obnd6_some, sumcR, e3, obnd3_some, brF (by decide)]
    exact ⟨_, _, d, fi1, ar1, ln1, _, _, fm1, arm1, rfl, rfl, Or.inr (Or.inr (Or.inl ⟨rfl, e4⟩)), b1, cst 1 6 (by omega) (by omega), hT1⟩
  · rw [e1, obnd6_some, sumcL, e2, obnd6_some, sumcL]
    have hitem := hSel.2.2.2.2.2.2.2.2.2.2.2.2.2.2.2.2.2.2.2.2.2.1
    have e1a : ar1 1 = ar 1 := a4 1 (by simp [oAC])
    have e2a : arm1 2 = arm 2 := b3 2 (by simp [oAM])
    obtain ⟨val, r, d', fi', ar', k, s, fm', arm', y1, y2, y3, y4, y5, y6, y7, y8, y9, y10⟩ := len_alike (cnt := T) (x3 := 1) (x4 := 0) (v := fun j => uv (ar 1 j)) b1 hp hnd hSel (by omega) (fun j hj => Or.inr ⟨by decide, by omega, by rw [e1a]⟩) (fun j hj => Or.inr ⟨by decide, by omega, by rw [e2a, T4 j (by omega)]⟩) hnf
    have hT' : TAP fi' ar' fm' arm' 0 := hT1.off y7 y8.as y9 y10 (by simp) (by simp) (by simp) (by simp)
    rw [y1, obnd6_some, e3 rfl, obnd3_some, brT rfl, w1, hitem, obnd3_some, y4, obnd3_some]
    rcases y5 with ⟨rfl, z⟩ | ⟨rfl, z⟩
    · rw [sumcR]
      exact ⟨_, _, d', fi', ar', ln1, _, _, fm', arm', rfl, rfl, Or.inr (Or.inr (Or.inr (Or.inl ⟨rfl, z⟩))), y6, cst (0 + (k + 0)) (0 + (s + 0)) (by omega) (by omega), hT'⟩
    · rw [sumcL]
      exact ⟨_, _, d', fi', ar', ln1, _, _, fm', arm', rfl, rfl, Or.inr (Or.inr (Or.inr (Or.inr ⟨rfl, z⟩))), y6, cst (0 + (k + 0)) (0 + (s + 0)) (by omega) (by omega), hT'⟩
