/-! cut answers alike -/
theorem cut_snd {n h : Nat} {d : Nat → Nat} {D : List Nat} {ρ : Nat → Nat} {e : Nat × Nat} (hb : ∀ p, d p < 256) (hG : GOK (geoOf n d)) (hS : Snd (geoOf n d) d D ρ) (hh : hf (geoOf n d) h ∈ D) (he : e ∈ dI (geoOf n d) d (hf (geoOf n d) h)) {p : Nat} (hp : p = dA (geoOf n d) d (hf (geoOf n d) h) e.1) (hpa : 512 * (geoOf n d).a ≤ p) (hnd : ¬ isDr d p) (ht : tabOK (geoOf n d) d) (hfok : fOK (geoOf n d) d p) {m : Nat} (hm : m ≤ fo d (p + 28)) : (∀ q, wr (cutD (geoOf n d) d (fc1 (geoOf n d) d p) p (cls (geoOf n d) m)) (p + 28) 4 m q < 256) ∧ (∀ q, q < 512 → wr (cutD (geoOf n d) d (fc1 (geoOf n d) d p) p (cls (geoOf n d) m)) (p + 28) 4 m q = d q) ∧ tabOK (geoOf n d) (wr (cutD (geoOf n d) d (fc1 (geoOf n d) d p) p (cls (geoOf n d) m)) (p + 28) 4 m) ∧ Snd (geoOf n d) (wr (cutD (geoOf n d) d (fc1 (geoOf n d) d p) p (cls (geoOf n d) m)) (p + 28) 4 m) D ρ := by
  obtain ⟨f1, f2, f3⟩ := hfok.stp
  have b := hG.b
  have hcl : clu (geoOf n d) (fc1 (geoOf n d) d p) := by
    rcases f1 with ⟨_, _, w⟩ | w
    · rw [w]; exact ⟨List.nodup_nil, fun y hy => absurd hy (by simp)⟩
    · exact lnk_clu w
  have hK : cls (geoOf n d) m ≤ (fc1 (geoOf n d) d p).length := by rw [f2]; exact cls_mono hm
  obtain ⟨c1, c2, c3, c4, c5, c6⟩ := cutD_ok hG hb hcl hpa hK ht
  have hK0 : cls (geoOf n d) m = 0 ↔ m = 0 := cls_zero (by omega)
  obtain ⟨l, hle⟩ : ∃ l, l = fc1 (geoOf n d) d p := ⟨_, rfl⟩
  obtain ⟨K, hKe⟩ : ∃ K, K = cls (geoOf n d) m := ⟨_, rfl⟩
  rw [← hle] at f1 f2 hcl hK c1 c2 c3 c4 c5 c6 ⊢
  rw [← hKe] at hK c1 c2 c3 c4 c5 c6 hK0 ⊢
  obtain ⟨c, hce⟩ : ∃ c, c = cutD (geoOf n d) d l p K := ⟨_, rfl⟩
  rw [← hce] at c1 c2 c3 c4 c5 c6 ⊢
  have hT := tab_congr (d := c) (d' := wr c (p + 28) 4 m) hG (fun q q1 q2 => by rw [wr_out (by omega)])
  have hent : ∀ y, isC (geoOf n d) y → ent (geoOf n d) (wr c (p + 28) 4 m) y = if y ∈ l.drop K then 0 else if K ≠ 0 ∧ K < l.length ∧ y = l.getD (K - 1) 0 then 268435455 else ent (geoOf n d) d y := fun y hy => by
    rw [hT.1 y (by omega), c4 y (by omega)]
  have hfo : fo (wr c (p + 28) 4 m) (p + 28) = m := fo_wr_in (by omega)
  have hfc0 : K = 0 → fcl (wr c (p + 28) 4 m) p = 0 := fun w => by rw [fcl_wr_out (by omega)]; exact c5 w
  have hfc1 : K ≠ 0 → fcl (wr c (p + 28) 4 m) p = fcl d p := fun w => by
    rw [fcl_wr_out (by omega)]
    unfold fcl tw
    rw [c6 w (p + 20) (by omega), c6 w (p + 20 + 1) (by omega), c6 w (p + 26) (by omega), c6 w (p + 26 + 1) (by omega)]
  have hlnk : K ≠ 0 → lnk (geoOf n d) d (fcl d p) l := fun w => f1.resolve_left (fun z => by rw [z.2.2] at hK; simp at hK; exact w hK)
  have htk : K ≠ 0 → lnk (geoOf n d) (wr c (p + 28) 4 m) (fcl d p) (l.take K) := fun w => by
    have hl := hlnk w
    by_cases z : K < l.length
    · have := lnk_take (d' := wr c (p + 28) 4 m) l (fcl d p) (K - 1) hl (by omega) (fun y hy => ?_) ?_
      · rw [show K - 1 + 1 = K by omega] at this; exact this
      · have hyl : y ∈ l := List.take_subset _ _ hy
        have hyK : y ∈ l.take K := by
          have : l.take (K - 1) = (l.take K).take (K - 1) := by rw [List.take_take, Nat.min_eq_left (by omega)]
          rw [this] at hy; exact List.take_subset _ _ hy
        have hne : y ≠ l.getD (K - 1) 0 := fun e => by
          have h2 : l.getD (K - 1) 0 ∈ l.drop (K - 1) := by
            rw [List.drop_eq_getElem_cons (show K - 1 < l.length by omega), List.getD_eq_getElem?_getD, List.getElem?_eq_getElem (show K - 1 < l.length by omega)]
            exact List.mem_cons_self
          exact take_drop_apart hcl.1 hy (by rw [e]; exact h2)
        rw [hent y (hcl.2 y hyl), if_neg (take_drop_apart hcl.1 hyK), if_neg (fun w => hne w.2.2)]
      · have hxK : l.getD (K - 1) 0 ∈ l.take K := getD_take (by omega) (by omega)
        rw [hent _ (hcl.2 _ (getD_mem (by omega))), if_neg (take_drop_apart hcl.1 hxK), if_pos ⟨w, z, rfl⟩]
        omega
    · have hKl : K = l.length := by omega
      rw [hKl, List.take_length]
      refine lnk_congr _ _ hl (fun y hy => ?_)
      rw [hent y (hcl.2 y hy), hKl, List.drop_length, if_neg (by simp), if_neg (fun w => by omega)]
  have hF : fOK (geoOf n d) (wr c (p + 28) 4 m) p ∧ fc1 (geoOf n d) (wr c (p + 28) 4 m) p = l.take K := by
    by_cases w : K = 0
    · have hm0 := hK0.mp w
      refine ⟨Or.inl ⟨by rw [hfo]; exact hm0, hfc0 w⟩, ?_⟩
      unfold fc1
      rw [hfo, if_pos hm0, w, List.take_zero]
    · have hm0 : m ≠ 0 := fun z => w (hK0.mpr z)
      have h1 := htk w
      have hcl2 := cl_of h1
      refine ⟨Or.inr ⟨by rw [hfo]; exact hm0, by rw [hfo]; omega, by rw [hfc1 w, hcl2]; exact h1, ?_⟩, ?_⟩
      · rw [hfc1 w, hcl2, hfo, ← hKe, List.length_take, Nat.min_eq_left hK]
      · unfold fc1
        rw [hfo, if_neg hm0, hfc1 w, hcl2]
  refine ⟨wr_lt c1 _ _ _, fun q hq => by rw [wr_out (by omega), c2 q (by omega) (by omega)], hT.2 c3, ?_⟩
  refine file_snd (add := []) (del := l.drop K) hG hS hh he hp hnd (fun q q1 q2 q3 => ?_) (fun f hf x hx i hi hq => ?_) hF.1 ?_ ⟨List.nodup_nil, fun y hy => absurd hy (by simp)⟩ (fun y hy => ?_) (fun y hy hy2 _ => ?_) (fun y hy hy2 => ?_)
  · rw [wr_out (by omega), c2 q (by omega) (by omega)]
  · have hxC := lnk_isC _ _ (hS.2.2.1 f hf).1 x hx
    have hpi := pl_in hG hxC
    rw [wr_out (by omega), c2 _ (by omega) (by omega)]
  · rw [hF.2, List.append_nil, List.take_append_drop, hle]
  · rw [← hle]; exact List.drop_subset _ _ hy
  · rw [← hle] at hy2
    rw [hent y hy, if_neg (fun w => hy2 (List.drop_subset _ _ w)), if_neg (fun w => hy2 (by rw [w.2.2]; exact getD_mem (by omega)))]
  · right
    rw [hent y hy] at hy2
    by_cases z : y ∈ l.drop K
    · rw [if_pos z] at hy2; exact absurd rfl hy2
    · rw [if_neg z] at hy2
      refine ⟨?_, z⟩
      by_cases z2 : K ≠ 0 ∧ K < l.length ∧ y = l.getD (K - 1) 0
      · rw [z2.2.2]; exact lnk_ent _ _ (hlnk z2.1) _ (getD_mem (by omega))
      · rw [if_neg z2] at hy2; exact hy2
theorem cut_alike {nf n h : Nat} {ln : LN} {fi fm : FI} {ar arm : AR} {d : Nat → Nat} (hV : VOL n ln fi ar fm arm d h) (x1 x2 : Int32) (hnf : 40000 ≤ nf) : ∃ v r d' fi' ar' ln' kc ks fm' arm', FX10_cut nf fi ar ln x1 x2 = some (r, fi', ar', ln', kc, ks) ∧ M_cut nf fm arm x1 x2 = some (v, fm', arm') ∧ ((r = Sum.inr 0 ∧ fm' 5 = 1) ∨ (r = Sum.inr 1 ∧ fm' 5 = 2) ∨ (r = Sum.inr 2 ∧ fm' 5 = 3) ∨ (r = Sum.inl v ∧ fm' 5 = 0)) ∧ VOL n ln' fi' ar' fm' arm' d' h ∧ CST ln ln' kc ks 2 12 ∧ offF oFC fi fi' ∧ offAs (0 :: oAC) ar ar' ∧ offF oFM fm fm' ∧ offAs (1 :: oAM) arm arm' := by
  have hMw : ∃ w, ((0 ≤ x2 ∧ w = 0) ∨ (¬ 0 ≤ x2 ∧ w = 1)) ∧ M_cut nf fm arm x1 x2 = M_cut_11 nf x1 x2 x1 w fm arm := by
    unfold M_cut
    by_cases c : (0 : Int32) ≤ x2
    · exact ⟨0, Or.inl ⟨c, rfl⟩, by rw [brT c]⟩
    · exact ⟨1, Or.inr ⟨c, rfl⟩, by rw [brF c]⟩
  obtain ⟨w, hw, hM⟩ := hMw
  rw [hM]
  obtain ⟨fi1, ar1, ln1, k1, s1, fm1, arm1, b1, a5, a3, a4, b2, b3, b4⟩ := selF_ok hV x1 w hnf
  have a4' : offAs (0 :: oAC) ar ar1 := a4.mono (fun j hj => List.mem_cons_of_mem _ hj)
  have b3' : offAs (1 :: oAM) arm arm1 := b3.mono (fun j hj => List.mem_cons_of_mem _ hj)
  have cst : ∀ k s, k ≤ 1 → s ≤ 6 → CST ln ln1 (k1 + k) (s1 + s) 2 12 := fun k s hk hs => by
    obtain ⟨c1, c2, c3⟩ := a5
    exact ⟨c1, by omega, by omega⟩
  unfold FX10_cut M_cut_11 M_cut_51
  rcases b4 with ⟨e1, e2, e3⟩ | ⟨e1, e2, e3, e4⟩ | ⟨e1, e2, e3, e4⟩ | ⟨q, e, j, b, N, U, ms, D, ρ, p, w1, hp, hnd, e1, e2, e3, e4, hSel⟩
  · rw [e1, obnd6_some, sumcR, e2, obnd3_some, brF (by decide)]
    exact ⟨_, _, d, fi1, ar1, ln1, _, _, fm1, arm1, rfl, rfl, Or.inl ⟨rfl, e3⟩, b1, cst 0 0 (by omega) (by omega), a3, a4', b2, b3'⟩
  · rw [e1, obnd6_some, sumcL, e2, obnd6_some, sumcR, e3, obnd3_some, brF (by decide)]
    exact ⟨_, _, d, fi1, ar1, ln1, _, _, fm1, arm1, rfl, rfl, Or.inr (Or.inl ⟨rfl, e4⟩), b1, cst 1 6 (by omega) (by omega), a3, a4', b2, b3'⟩
  · rw [e1, obnd6_some, sumcL, e2, obnd6_some, sumcR, e3, obnd3_some, brF (by decide)]
    exact ⟨_, _, d, fi1, ar1, ln1, _, _, fm1, arm1, rfl, rfl, Or.inr (Or.inr (Or.inl ⟨rfl, e4⟩)), b1, cst 1 6 (by omega) (by omega), a3, a4', b2, b3'⟩
  · obtain ⟨t1, t2, t3, t4, t5, t6, t7, t8, t9, t10, t11, t12, t13, t14, t15, t16, t17, t18, t19, t20, t21, t22, t23, t24, t25, t26⟩ := hSel
    have hn := b1.1
    have hb := b1.2.1
    have hW := t5.1
    have hC := t5.1.1
    have hRW := t13.1
    have hR := t13.1.1
    have hln0 : ln1 0 = 128 * n := t5.2.1.1
    have hDk := t2.2.2.1 _ t3
    have hfok := (hDk.ent t9).2.2.2.2
    rw [← hp] at t23 t24 t25 t26 hfok
    have hfok := hfok hnd
    have hbq : b + q < 16400 := by omega
    have hp1 : p + 32 ≤ 4 * ln1 0 := by omega
    have hp2 : p + 32 ≤ 524288 := by omega
    have h28 : (p + 28) % 4 = 0 := by omega
    have htb := ((flt_iff hn.1 hn.2).mp t1).2.1
    have c0 : CST ln ln1 (k1 + (0 + 0)) (s1 + (0 + 0)) 2 12 := cst 0 0 (by omega) (by omega)
    have c1 : CST ln ln1 (k1 + (0 + 1)) (s1 + (0 + 6)) 2 12 := cst 1 6 (by omega) (by omega)
    clear t24 t23 t21 t13 a5 cst hDk t8 t7 t12
    rw [e1, obnd6_some, sumcL, e2, obnd6_some, sumcL, show nI p + (28 : Int32) = nI (p + 28) from nI_add p 28, FX3_four_eq hC h28 (by omega), obnd3_some]
    unfold FX10_cut_33
    rcases hw with ⟨hx2, rfl⟩ | ⟨hx2, rfl⟩
    · have hneg : ¬ x2 < 0 := Int32.not_lt.mpr hx2
      obtain ⟨m, hm, rfl⟩ := nI_of hneg
      obtain ⟨f1, f2, f3⟩ := hfok.stp
      rw [e3 rfl, obnd3_some, brT rfl, w1, t22, obnd3_some, zgd hbq (by omega), nI_clamp (by omega), t26, show nI p + (28 : Int32) = nI (p + 28) from nI_add p 28, M_four_eq hR (by omega), obnd3_some, brF hneg]
      by_cases c : m ≤ fo d (p + 28)
      · have le : nI m ≤ nI (fo d (p + 28)) := nI_le c f3
        have hG := hW.2.2.1
        have bG := hG.b
        have hcl : clu (geoOf n d) (fc1 (geoOf n d) d p) := by
          rcases f1 with ⟨_, _, w⟩ | w
          · rw [w]; exact ⟨List.nodup_nil, fun y hy => absurd hy (by simp)⟩
          · exact lnk_clu w
        have hK : cls (geoOf n d) m ≤ (fc1 (geoOf n d) d p).length := by rw [f2]; exact cls_mono c
        have hz : fc1 (geoOf n d) d p = [] → fcl d p = 0 := fun w => by
          rcases hfok with ⟨_, z⟩ | ⟨z1, z2, z3, z4⟩
          · exact z
          · unfold fc1 at w
            rw [if_neg z1] at w
            rw [w] at z3
            exact absurd z3 (by simp [lnk])
        have hsz : fo d (p + 28) ≤ 524288 := by
          have h1 := cls_ge (G := geoOf n d) (by omega) (fo d (p + 28))
          have h2 : 512 * (geoOf n d).c * cls (geoOf n d) (fo d (p + 28)) ≤ 512 * (geoOf n d).c * (geoOf n d).k := Nat.mul_le_mul_left _ (by rw [← f2]; exact hcl.len)
          have h3 : 512 * (geoOf n d).c * (geoOf n d).k = 512 * ((geoOf n d).k * (geoOf n d).c) := by rw [Nat.mul_assoc, Nat.mul_comm (geoOf n d).c]
          have hnn : (geoOf n d).n = n := rfl
          omega
        obtain ⟨ar2, y1, y2, y3⟩ := cutC_end (nf := nf) hW hb f1 hcl hK hm hp1 t25 hz (by omega)
        have f0 : M_fails nf fm1 arm1 0 3 = _ := fails_eq (nf := nf) (ar := arm1) t10 (t := 0) (by decide) 3 (by decide)
        rw [if_pos rfl, if_pos rfl] at f0
        obtain ⟨fm2, arm2, r1, r2, r3, r4, r5⟩ := walk_ok (nf := nf) hRW f1 (by omega)
        have hRW2 : RW fm2 arm2 (geoOf n d) d := hRW.off r2 r3 (by simp) (by simp)
        obtain ⟨arm3, z1, z2, z3⟩ := cutM_loop (nf := nf) (x2 := nI m) (x3 := nI p) (x4 := nI (cls (geoOf n d) m)) hcl r4 (by omega) ((fc1 (geoOf n d) d p).length - cls (geoOf n d) m) (cls (geoOf n d) m) nf arm2 d (by omega) (by have := hcl.len; omega) hRW2 hb r5
        obtain ⟨arm4, u1, u2, u3⟩ := cutM_end (nf := nf) hG hb hcl r4 hK hm hp2 t25 hz (fun q hq => by rw [z3 29 (by decide)]; exact r5 q hq) z2 (by omega)
        obtain ⟨s1', s2', s3', s4'⟩ := cut_snd hb hG t2 t3 t9 hp t25 hnd htb hfok c
        have f7 : fm1 7 = nI (geoOf n d).c := hRW.2.1.2.1
        have e512 : (512 : Int32) * nI (geoOf n d).c = nI (512 * (geoOf n d).c) := pk_mul 512 _
        have hmodel : M_cut_44 nf (nI q) (nI m) 0 fm1 arm1 = some (nI ((fc1 (geoOf n d) d p).length - cls (geoOf n d) m), va_up fm2 15 0, arm4) := by
          unfold M_cut_44
          rw [f0, obnd3_some, brT rfl, t22, obnd3_some, zgd hbq (by omega), nI_clamp (by omega), bnd_eq, t26, f7, e512, whole_eq (by omega) (by omega) (by omega), obnd_some, M_firstOf_eq hR (by omega), obnd3_some, r1, obnd3_some]
          exact z1.trans u1
        rw [brT le, brT le, clustersFor_eq hW hm, obnd3_some, clustersFor_eq hW f3, obnd3_some, bnd_eq, ← f2, nI_sub hK, y1, hmodel]
        have hV' := (b1.mut (d' := _) (fi' := fi1) (fm' := va_up fm2 15 0) (ar' := ar2) (arm' := arm4) t1 t6 hW.2.1 (S1 := []) (S2 := [15, 31]) offF.rf ((r2.mono (by simp)).up (by simp)) (by simp) (by simp) (va_up_self _ _ _) y2 u2 s1' s2' s3' s4' t4).1
        exact ⟨_, _, _, fi1, ar2, ln1, _, _, _, arm4, rfl, rfl, Or.inr (Or.inr (Or.inr ⟨rfl, by rw [va_up_off (by decide), r2 5 (by simp)]; exact t10⟩)), hV', c0, a3, a4'.tr (y3.as.mono (by simp)), (b2.tr (r2.mono (by simp [oFM]))).up (by simp [oFM]), (b3'.tr (r3.mono (by simp [oAM]))).tr ((z3.tr u3).as.mono (by simp))⟩
      · have nle : ¬ nI m ≤ nI (fo d (p + 28)) := nI_ge (by omega) hm
        have f1' : M_fails nf fm1 arm1 1 3 = _ := fails_eq (nf := nf) (ar := arm1) t10 (t := 1) (by decide) 3 (by decide)
        rw [if_neg (by decide), if_neg (by decide)] at f1'
        rw [brF nle, brF nle]
        unfold M_cut_44 M_cut_51
        rw [f1', obnd3_some, brF (by decide)]
        exact ⟨_, _, d, fi1, ar1, ln1, _, _, _, arm1, rfl, rfl, Or.inr (Or.inr (Or.inl ⟨rfl, va_up_self _ _ _⟩)), b1.upM, c1, a3, a4', b2.up (by simp [oFM]), b3'⟩
    · have hneg : x2 < 0 := Int32.not_le.mp hx2
      rw [brT hneg, e4 (by decide), obnd3_some, brF (show ¬ (1 : Int32) = 0 by decide)]
      exact ⟨_, _, d, fi1, ar1, ln1, _, _, _, arm1, rfl, rfl, Or.inr (Or.inr (Or.inl ⟨rfl, va_up_self _ _ _⟩)), b1.upM, c1, a3, a4', b2.up (by simp [oFM]), b3'⟩
