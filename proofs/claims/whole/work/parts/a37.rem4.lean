/-! remove answers alike -/
theorem remC_end {nf : Nat} {ln : LN} {fi : FI} {ar : AR} {G : Geo} {d : Nat → Nat} {f q x : Nat} {e : Nat × Nat} {fl : List Nat} (hW : CW ln fi ar G d) (hb : ∀ p, d p < 256) (hLC : LNC ln G.n) (hD : DC fi ar 0 G (cl G d f)) (hI : IC fi ar 0 (dI G d f) (fun _ => 0)) (hL : ∃ L, LK ln 0 L ∧ (dI G d f).length ≤ L) (hDk : DOK G d f) (hq : q < (dI G d f).length) (he : e = (dI G d f).getD q (0, 0)) (he2 : e ∈ dI G d f) (hs : stp G d x fl) (hfl : ∀ y, y ∈ fl → y < G.k + 2) (hnf : 40000 ≤ nf) : ∃ ar', FX10_remove_56 nf (nI q) (nI x) fi ar ln = some (Sum.inl (), fi, ar', ln, 0, 0) ∧ CD ln ar' (frs G (rmS (dA G d f) (e.1 - e.2) (e.2 + 1) d) fl) ∧ offA 0 ar ar' := by
  obtain ⟨L, hL1, hL2⟩ := hL
  obtain ⟨i1, i2, i3⟩ := hDk.item he2
  have hlc := lnk_clu hDk.1
  have hG := hW.2.2.1
  have b := hG.b
  have hlen := hlc.len
  have hln : (cl G d f).length ≤ ln 10 := by
    have h10 : ln 10 = G.n / 2 := hLC.2.2.2.2.2.2.1 0 (by omega)
    rw [h10]
    have : G.k * 2 ≤ G.k * G.c := Nat.mul_le_mul_left _ (by omega)
    omega
  unfold FX10_remove_56
  rw [slotOf_eq hI hL1 hL2 hq, obnd3_some, partsOf_eq hI hL1 hL2 hq, obnd3_some, bnd_eq, ← he, nI_sub i3]
  obtain ⟨ar', r1, r2, r3⟩ := remC_loop (nf := nf) (x := x) hG hlc hln hfl (by omega) (e.2 + 1) (e.1 - e.2) nf ar d hW hb hD hs (by omega) (by omega) (by omega)
  rw [show e.1 - e.2 + (e.2 + 1) - 1 = e.1 by omega] at r1
  exact ⟨ar', r1, r2, r3⟩
theorem remM_end {nf : Nat} {fm : FI} {arm : AR} {G : Geo} {d : Nat → Nat} {f j B p : Nat} {e : Nat × Nat} {fl : List Nat} (hW : RW fm arm G d) (hb : ∀ p, d p < 256) (h5 : fm 5 = 0) (hH : M_folderHere nf fm arm = some (nI j, fm, arm)) (hj : j < 16400) (hBG : BG fm arm d G.r j f) (hDk : DOK G d f) (he2 : e ∈ dI G d f) (hB : B ≠ 0 ∧ B < 16400) (h20 : arm 20 B = nI p) (h21 : arm 21 B = nI e.1) (h22 : arm 22 B = nI e.2) (hp : p + 32 ≤ 524288) (hs : stp G d (fcl d p) fl) (hfl : clu G fl) (hnf : 40000 ≤ nf) : ∃ fm' arm', M_remove_62 nf (nI B) 0 fm arm = some ((), fm', arm') ∧ RD arm' (rmS (dA G d f) (e.1 - e.2) (e.2 + 1) (frs G d fl)) ∧ fm' 15 = 0 ∧ offF [15, 31, 32] fm fm' ∧ offAs [1, 29, 30] arm arm' := by
  obtain ⟨i1, i2, i3⟩ := hDk.item he2
  have hlc := lnk_clu hDk.1
  have b := hW.2.2.b
  have hlen := hfl.len
  have f0 : M_fails nf fm arm 0 3 = _ := fails_eq (nf := nf) (ar := arm) h5 (t := 0) (by decide) 3 (by decide)
  rw [if_pos rfl, if_pos rfl] at f0
  unfold M_remove_62
  rw [f0, obnd3_some, brT rfl, hH, obnd3_some]
  obtain ⟨fm1, arm1, r1, r2, r3, r4, r5⟩ := loadFolder_ok (nf := nf) hW hj hBG hDk.1 hnf
  have hW1 := hW.off r2 r3 (by simp) (by simp)
  have hbg : M_beginOf nf fm1 arm1 (nI B) = some (nI (fcl d p), fm1, arm1) := beginOf_eq (r := G.r) hW1.1 hB.2 (Or.inr ⟨hB.1, p, by rw [r3 20 (by simp)]; exact h20, hp, rfl⟩)
  obtain ⟨fm2, arm2, s1, s2, s3, s4, s5⟩ := walk_ok (nf := nf) hW1 hs (by omega)
  have hW2 := hW1.off s2 s3 (by simp) (by simp)
  obtain ⟨arm3, u1, u2, u3⟩ := remM_loop (nf := nf) hB.2 hlc i1 i3 i2 hfl s4 (by omega) fl.length 0 nf arm2 d (by omega) (by omega) hW2 hb (fun q hq => by rw [s3 30 (by simp)]; exact r4 q hq) (by rw [s3 21 (by simp), r3 21 (by simp)]; exact h21) (by rw [s3 22 (by simp), r3 22 (by simp)]; exact h22) s5
  rw [r1, obnd3_some, hbg, obnd3_some, s1, obnd3_some]
  exact ⟨_, _, u1, u2, va_up_self _ _ _, ((r2.mono (by simp)).tr (s2.mono (by simp))).up (by simp), ((r3.mono (by simp)).tr (s3.mono (by simp))).tr (u3.as.mono (by simp))⟩
theorem rem_sets {G : Geo} {d : Nat → Nat} {f : Nat} {e : Nat × Nat} {fl : List Nat} (hG : GOK G) (hb : ∀ p, d p < 256) (hDk : DOK G d f) (he2 : e ∈ dI G d f) (hfl : clu G fl) (ht : tabOK G d) : (∀ p, frs G (rmS (dA G d f) (e.1 - e.2) (e.2 + 1) d) fl p < 256) ∧ (∀ p, p < 512 → frs G (rmS (dA G d f) (e.1 - e.2) (e.2 + 1) d) fl p = d p) ∧ tabOK G (frs G (rmS (dA G d f) (e.1 - e.2) (e.2 + 1) d) fl) ∧ (∀ q, 512 * G.a ≤ q → (∀ t, e.1 - e.2 ≤ t → t ≤ e.1 → q ≠ dA G d f t) → frs G (rmS (dA G d f) (e.1 - e.2) (e.2 + 1) d) fl q = d q) ∧ (∀ t, e.1 - e.2 ≤ t → t ≤ e.1 → frs G (rmS (dA G d f) (e.1 - e.2) (e.2 + 1) d) fl (dA G d f t) = 229) ∧ (∀ y, isC G y → ent G (frs G (rmS (dA G d f) (e.1 - e.2) (e.2 + 1) d) fl) y = if y ∈ fl then 0 else ent G d y) ∧ frs G (rmS (dA G d f) (e.1 - e.2) (e.2 + 1) d) fl = rmS (dA G d f) (e.1 - e.2) (e.2 + 1) (frs G d fl) := by
  obtain ⟨i1, i2, i3⟩ := hDk.item he2
  have hlc := lnk_clu hDk.1
  have b := hG.b
  have hA : ∀ t, t ≤ e.1 → 512 * G.a ≤ dA G d f t := fun t htt => (slot_in hG hlc (s := t) (by omega)).2.2.1
  have hflk : ∀ y, y ∈ fl → y < G.k + 2 := fun y hy => by have := (hfl.2 y hy).2; omega
  have hlow : ∀ q, q < 512 * G.a → rmS (dA G d f) (e.1 - e.2) (e.2 + 1) d q = d q := fun q hq => rmS_out _ _ _ (fun s s1 s2 => by have := hA s (by omega); omega)
  have hT := tab_congr (d := d) (d' := rmS (dA G d f) (e.1 - e.2) (e.2 + 1) d) hG (fun q q1 q2 => hlow q q2)
  have hb1 := rmS_lt (A := dA G d f) (e.2 + 1) (e.1 - e.2) d hb
  have ho := frs_out hG fl (rmS (dA G d f) (e.1 - e.2) (e.2 + 1) d) hflk
  refine ⟨frs_lt fl _ hb1, fun p hp => ?_, frs_tab hG fl _ hb1 hfl.2 (hT.2 ht), fun q hq hne => ?_, fun t t1 t2 => ?_, fun y hy => ?_, ?_⟩
  · have hga : 4096 ≤ 512 * G.a := by have := hG.t (x := 0) (by omega); omega
    rw [ho p (Or.inl (by omega)), hlow p (by omega)]
  · rw [ho q (Or.inr hq)]
    exact rmS_out _ _ _ (fun s s1 s2 => hne s s1 (by omega))
  · rw [ho _ (Or.inr (hA t t2))]
    exact rmS_in _ _ _ t1 (by omega)
  · rw [frs_ent hG fl _ hb1 hflk y (by have := hy.2; omega), hT.1 y (by have := hy.2; omega)]
  · exact frs_rmS hG hflk _ _ _ (fun s s1 s2 => hA s (by omega))
def oFR : List Nat := oFC ++ [30, 31, 32, 33, 34, 35]
def oAR : List Nat := 0 :: (oAC ++ [14, 15, 16, 17])
theorem remove_alike {nf n h : Nat} {ln : LN} {fi fm : FI} {ar arm : AR} {d : Nat → Nat} (hV : VOL n ln fi ar fm arm d h) (x1 : Int32) (hnf : 40000 ≤ nf) : ∃ r d' fi' ar' ln' kc ks fm' arm', FX10_remove nf fi ar ln x1 = some (r, fi', ar', ln', kc, ks) ∧ M_remove nf fm arm x1 = some ((), fm', arm') ∧ ((r = Sum.inr 0 ∧ fm' 5 = 1) ∨ (r = Sum.inr 1 ∧ fm' 5 = 2) ∨ (r = Sum.inr 2 ∧ fm' 5 = 3) ∨ (r = Sum.inl () ∧ fm' 5 = 0)) ∧ VOL n ln' fi' ar' fm' arm' d' h ∧ CST ln ln' kc ks 2 12 ∧ offF oFR fi fi' ∧ offAs oAR ar ar' ∧ offF oFM fm fm' ∧ offAs (1 :: oAM) arm arm' := by
  obtain ⟨fi1, ar1, ln1, k1, s1, fm0, fm1, arm1, b1, a5, a3, a4, b2, b3, b4⟩ := sel2_ok hV x1 hnf
  have a3' : offF oFR fi fi1 := a3.mono (fun j hj => by unfold oFR; exact List.mem_append_left _ hj)
  have a4' : offAs oAR ar ar1 := a4.mono (fun j hj => by unfold oAR; exact List.mem_cons_of_mem _ (List.mem_append_left _ hj))
  have b3' : offAs (1 :: oAM) arm arm1 := b3.mono (fun j hj => List.mem_cons_of_mem _ hj)
  have cst : ∀ k s, k ≤ 1 → s ≤ 6 → CST ln ln1 (k1 + k) (s1 + s) 2 12 := fun k s hk hs => by
    obtain ⟨c1, c2, c3⟩ := a5
    exact ⟨c1, by omega, by omega⟩
  have hM : ∀ R, (obnd3 (M_none nf fm arm) (fun r fi ar => br (r = 0) (br (x1 < 0) (M_remove_25 nf x1 1 fi ar) (obnd3 (M_many nf fi ar) fun r' fi' ar' => br (x1 < r') (M_remove_25 nf x1 0 fi' ar') (M_remove_25 nf x1 1 fi' ar'))) (M_remove_32 nf fi ar)) = R) → M_remove nf fm arm x1 = R := fun R hR => by
    rw [← hR]; rfl
  unfold FX10_remove
  rcases b4 with ⟨e1, e2, e3⟩ | ⟨e1, e2, e3, e4, e5⟩ | ⟨q, e, j, b, N, U, ms, D, ρ, w1, e1, e2, e3, e4, hSel⟩
  · rw [e1, obnd6_some, sumcR, hM _ (e2 (Unit × FI × AR) (M_remove_25 nf x1) (M_remove_32 nf))]
    exact ⟨_, d, fi1, ar1, ln1, _, _, fm1, arm1, rfl, rfl, Or.inl ⟨rfl, e3⟩, b1, cst 0 0 (by omega) (by omega), a3', a4', b2, b3'⟩
  · rw [e1, obnd6_some, sumcL, e2, obnd6_some, sumcR, hM _ (e3 (Unit × FI × AR) (M_remove_25 nf x1) (M_remove_32 nf))]
    unfold M_remove_25 M_remove_32
    rw [e4, obnd3_some, brF (by decide)]
    exact ⟨_, d, fi1, ar1, ln1, _, _, fm1, arm1, rfl, rfl, Or.inr (Or.inl ⟨rfl, e5⟩), b1, cst 1 6 (by omega) (by omega), a3', a4', b2, b3'⟩
  · obtain ⟨t1, t2, t3, t4, t5, t6, t7, t8, t9, t10, t11, t12, t13, t14, t15, t16, t17, t18, t19, t20, t21, t22, t23, t24, t25, t26⟩ := hSel
    obtain ⟨j', b', N', U', m1, m2, m3, m4, m5, m6, m7, m8, m9, m10, m11, m12, m13, m14, m15⟩ := here_model b1 t1 ⟨N, U, t13⟩ hnf
    have hn := b1.1
    have hb := b1.2.1
    obtain ⟨g1, g2, g3, g4, g5, g6⟩ := t5
    have hRW := t13.1
    have hln0 : ln1 0 = 128 * n := g2.1
    have hDk := t2.2.2.1 _ t3
    have hG := g1.2.2.1
    have htb := ((flt_iff hn.1 hn.2).mp t1).2.1
    obtain ⟨f, hf0⟩ : ∃ f, f = hf (geoOf n d) h := ⟨_, rfl⟩
    have hhD : ∀ D' : List Nat, f ∈ D' → (h = 0 ∨ (h ∈ D' ∧ h ≠ (geoOf n d).r)) := fun D' hd' => by
      rcases t4 with z | ⟨z1, z2⟩
      · exact Or.inl z
      · by_cases c : h = 0
        · exact Or.inl c
        · right
          rw [hf0] at hd'
          unfold hf at hd'
          rw [if_neg c] at hd'
          exact ⟨hd', z2⟩
    rw [← hf0] at t3 g3 g4 g5 g6 t7 t8 t9 t20 t21 t23 t24 t25 t26 e2 hDk m14
    have hfile := (hDk.ent t9).2.2.2.2
    obtain ⟨p, hp⟩ : ∃ p, p = dA (geoOf n d) d f e.1 := ⟨_, rfl⟩
    have mit := t21 q t7
    rw [← t8] at mit
    obtain ⟨-, h21, h22, -, -⟩ := mit
    rw [← hp] at e2 t23 t24 t25 t26 hfile
    have hbq : b + q ≠ 0 ∧ b + q < 16400 := by omega
    have hbN : b + q < N := by omega
    have hpa : pA arm1 (b + q) = p := pA_nI t26 (by omega)
    have hdr : drF arm1 d (b + q) ↔ isDr d p := by
      unfold drF
      rw [hpa]
      exact ⟨fun w => w.elim (fun z => absurd z hbq.1) id, Or.inr⟩
    have hp1 : p + 32 ≤ 4 * ln1 0 := by omega
    have hp2 : p + 32 ≤ 524288 := by omega
    have hBG : BG fm1 arm1 d (geoOf n d).r j' f := by
      unfold fsF at m14
      by_cases c : j' = 0
      · rw [if_pos c] at m14; exact Or.inl ⟨c, m14.symm, t12.2.2.2.2.2.1⟩
      · rw [if_neg c] at m14
        have hj := (m10.2.2.2.2.2.2.2.1 j' (by omega) m15).1
        exact Or.inr ⟨c, pA arm1 j', (nI_uv _).symm, hj, m14.symm⟩
    have c0 : CST ln ln1 (k1 + (0 + 0)) (s1 + (0 + 0)) 2 12 := cst 0 0 (by omega) (by omega)
    have hkids : isDr d p → arm1 24 (b + q) = nI (dI (geoOf n d) d (fcl d p)).length := fun w => by
      have h0 := (t13.2.2.2.2.2.2.2.2.1 (b + q) hbN (hdr.mpr w)).2.2
      obtain ⟨b9, _, _, h24, _⟩ := h0
      rw [h24]
      unfold fsF
      rw [if_neg hbq.1, hpa]
    clear t21 t13 m10 m11 m9 t23 t24
    rw [e1, obnd6_some, sumcL, e2, obnd6_some, sumcL, FX3_firstCluster_eq g1.1 (by omega), obnd3_some, isDirectory_eq g1.1 (by omega), obnd3_some, hM _ (e3 (Unit × FI × AR) (M_remove_25 nf x1) (M_remove_32 nf))]
    unfold M_remove_25 M_remove_61
    rw [e4, obnd3_some, brT rfl, w1, t22, obnd3_some, isFolder_eq hRW.1 hbq.2 (fun _ => by rw [hpa]; exact hp2), obnd3_some]
    by_cases qd : isDr d p
    · have hdr' := hdr.mpr qd
      simp only [if_pos qd, if_pos hdr']
      have hsub : fcl d p ∈ sub (geoOf n d) d f := by rw [hp]; exact sub_mem t9 (by rw [← hp]; exact qd)
      have hD' : fcl d p ∈ D := t2.1.mem_iff.mpr (List.mem_cons_of_mem _ (List.mem_flatMap.mpr ⟨_, t3, hsub⟩))
      have hDk2 := t2.2.2.1 _ hD'
      obtain ⟨L1, hL1⟩ := b1.2.2.2.2.2.2.2.1 1 (by omega)
      obtain ⟨fi2, ar2, ln2, k2, s2, y1, y2, y3, y4, y5, y6, y7, y8⟩ := list_ok (nf := nf) (i0 := 1) (by omega) g1 g2 hL1 hDk2 hnf
      have h20 : fi2 (20 + 10 * 1) = nI (dI (geoOf n d) d (fcl d p)).length := y4.1
      have hlen : (dI (geoOf n d) d (fcl d p)).length < 2147483648 := by
        obtain ⟨L, z1, z2⟩ := y8
        have := z1.2.2.2
        omega
      have hcst := y2.cst (by omega)
      have hcst2 : ∀ k s, k ≤ 1 → s ≤ 6 → CST ln ln2 (k1 + (0 + (k2 + k))) (s1 + (0 + (s2 + s))) 2 12 := fun k s hk hs => by
        obtain ⟨c1, c2, c3⟩ := a5
        obtain ⟨c4, c5, c6⟩ := hcst
        exact ⟨by omega, by omega, by omega⟩
      have hW2 := g1.off y6 y7 (by simp) (by simp)
      have hW2' : CW ln2 fi2 ar2 (geoOf n d) d := ⟨⟨by have := hW2.1.1; rw [y2.off (by omega) (by omega) (by omega)]; exact this, fun z hz => hW2.1.2 z (by rw [y2.off (by omega) (by omega) (by omega)] at hz; exact hz)⟩, hW2.2.1, hW2.2.2.1, by rw [y2.off (by omega) (by omega) (by omega)]; exact hW2.2.2.2⟩
      have hLC2 := g2.gr y2 (by omega)
      have hV2 : VOL n ln2 fi2 ar2 fm1 arm1 d h := b1.offC y6 y7 (by simp) (by simp) hLC2 (LKs.gr b1.2.2.2.2.2.2.2.1 y2) (Or.inr ⟨by rw [y6 1 (by simp), t6, t1], fun hh => hW2.2.1⟩)
      have o3 : offF oFR fi fi2 := a3'.tr (y6.mono (fun z hz => by simp at hz; simp [oFR]; omega))
      have o4 : offAs oAR ar ar2 := a4'.tr (y7.mono (fun z hz => by simp at hz; simp [oAR]; omega))
      rw [brF (by decide), brF (by decide), y1, obnd6_some, h20, zgd hbq.2 (by omega), nI_clamp (by omega), hkids qd]
      by_cases c : (dI (geoOf n d) d (fcl d p)).length = 0
      · have c9 : dI (geoOf n d) d (fcl d p) = [] := List.length_eq_zero_iff.mp c
        have le : nI (dI (geoOf n d) d (fcl d p)).length ≤ 0 := by rw [c]; decide
        rw [brT le, brT le]
        have hlk := hDk2.1
        have hcl := lnk_clu hlk
        obtain ⟨ar3, u1, u2, u3⟩ := remC_end (nf := nf) hW2' hb hLC2 (g3.off y6 y7 (by simp) (by simp)) (g4.off y6 y7 (by simp) (by simp)) (by
          obtain ⟨L, z1, z2⟩ := g6
          exact ⟨L, z1.gr y2 (by omega), z2⟩) hDk t7 t8 t9 (Or.inr hlk) (fun y hy => by have := (hcl.2 y hy).2; omega) hnf
        obtain ⟨fm3, arm3, v1, v2, v3, v4, v5⟩ := remM_end (nf := nf) hRW hb t10 m1 m2 hBG hDk t9 hbq t26 h21 h22 hp2 (Or.inr hlk) hcl hnf
        obtain ⟨x1', x2', x3', x4', x5', x6', x7'⟩ := rem_sets hG hb hDk t9 hcl htb
        rw [← x7'] at v2
        obtain ⟨D2, hS2, hfD2⟩ := rem_dir (d' := frs (geoOf n d) (rmS (dA (geoOf n d) d f) (e.1 - e.2) (e.2 + 1) d) (cl (geoOf n d) d (fcl d p))) hG t2 t3 t9 (by rw [← hp]; exact qd) (by rw [← hp]; exact c9) x4' x5' (by rw [← hp]; exact x6')
        have hV' := (hV2.mut (fi' := fi2) (fm' := fm3) (ar' := ar3) (arm' := arm3) t1 (by rw [y6 1 (by simp)]; exact t6) hW2.2.1 (S1 := []) (S2 := [15, 31, 32]) offF.rf v4 (by simp) (by simp) v3 u2 v2 x1' x2' x3' hS2 (hhD D2 hfD2)).1
        rw [u1, v1]
        exact ⟨_, _, fi2, ar3, ln2, _, _, fm3, arm3, rfl, rfl, Or.inr (Or.inr (Or.inr ⟨rfl, by rw [v4 5 (by simp)]; exact t10⟩)), hV', hcst2 0 0 (by omega) (by omega), o3, o4.tr (u3.as.mono (by simp [oAR])), b2.tr (v4.mono (by simp [oFM])), b3'.tr (v5.mono (by simp [oAM]))⟩
      · have nle : ¬ nI (dI (geoOf n d) d (fcl d p)).length ≤ 0 := nI_nle (by omega) hlen
        rw [brF nle, brF nle]
        have f1 : M_fails nf fm1 arm1 1 3 = _ := fails_eq (nf := nf) (ar := arm1) t10 (t := 1) (by decide) 3 (by decide)
        rw [if_neg (by decide), if_neg (by decide)] at f1
        unfold M_remove_62
        rw [f1, obnd3_some, brF (by decide)]
        exact ⟨_, d, fi2, ar2, ln2, _, _, _, arm1, rfl, rfl, Or.inr (Or.inr (Or.inl ⟨rfl, va_up_self _ _ _⟩)), hV2.upM, hcst2 1 6 (by omega) (by omega), o3, o4, b2.up (by simp [oFM]), b3'⟩
    · have ndr : ¬ drF arm1 d (b + q) := fun w => qd (hdr.mp w)
      simp only [if_neg qd, if_neg ndr]
      rw [brT trivial, brT trivial]
      obtain ⟨f1, f2, f3⟩ := (hfile qd).stp
      have hcl : clu (geoOf n d) (fc1 (geoOf n d) d p) := by
        rcases f1 with ⟨_, _, w⟩ | w
        · rw [w]; exact ⟨List.nodup_nil, fun y hy => absurd hy (by simp)⟩
        · exact lnk_clu w
      obtain ⟨ar3, u1, u2, u3⟩ := remC_end (nf := nf) g1 hb g2 g3 g4 g6 hDk t7 t8 t9 f1 (fun y hy => by have := (hcl.2 y hy).2; omega) hnf
      obtain ⟨fm3, arm3, v1, v2, v3, v4, v5⟩ := remM_end (nf := nf) hRW hb t10 m1 m2 hBG hDk t9 hbq t26 h21 h22 hp2 f1 hcl hnf
      obtain ⟨x1', x2', x3', x4', x5', x6', x7'⟩ := rem_sets hG hb hDk t9 hcl htb
      rw [← x7'] at v2
      have hS2 := rem_file (d' := frs (geoOf n d) (rmS (dA (geoOf n d) d f) (e.1 - e.2) (e.2 + 1) d) (fc1 (geoOf n d) d p)) hG t2 t3 t9 (by rw [← hp]; exact qd) x4' x5' (by rw [← hp]; exact x6')
      have hV' := (b1.mut (fi' := fi1) (fm' := fm3) (ar' := ar3) (arm' := arm3) t1 t6 g1.2.1 (S1 := []) (S2 := [15, 31, 32]) offF.rf v4 (by simp) (by simp) v3 u2 v2 x1' x2' x3' hS2 t4).1
      rw [u1, v1]
      exact ⟨_, _, fi1, ar3, ln1, _, _, fm3, arm3, rfl, rfl, Or.inr (Or.inr (Or.inr ⟨rfl, by rw [v4 5 (by simp)]; exact t10⟩)), hV', c0, a3', a4'.tr (u3.as.mono (by simp [oAR])), b2.tr (v4.mono (by simp [oFM])), b3'.tr (v5.mono (by simp [oAM]))⟩
