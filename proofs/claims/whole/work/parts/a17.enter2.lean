/-! enter answers alike -/
theorem VOL.upM {n h : Nat} {ln : LN} {fi fm : FI} {ar arm : AR} {d : Nat → Nat} (hV : VOL n ln fi ar fm arm d h) {c : Int32} : VOL n ln fi ar (va_up fm 5 c) arm d h := by
  obtain ⟨v1, v2, v3, v4, v5, v6, v7, v8, v9, v10, v11, v12, v13, v14⟩ := hV
  refine ⟨v1, v2, v3, v4, v5, by rw [va_up_off (by decide)]; exact v6, v7, v8, v9, by rw [va_up_off (by decide)]; exact v10, v11, v12, ?_, v14⟩
  rcases v13 with w | ⟨w1, w2, w3, w4⟩
  · left; rw [va_up_off (by decide)]; exact w
  · refine Or.inr ⟨by rw [va_up_off (by decide)]; exact w1, by rw [va_up_off (by decide)]; exact w2, fun hh => (w3 hh).up (by simp), fun hz => ?_⟩
    obtain ⟨ms, N, U, k1, k2, k3, k4, k5, k6, k7, k8, k9, k10, k11⟩ := w4 hz
    exact ⟨ms, N, U, k1.upF (by simp), by rw [va_up_off (by decide)]; exact k2, by rw [va_up_off (by decide)]; exact k3, by rw [va_up_off (by decide)]; exact k4, k5, k6, k7, k8, k9, fun z => ⟨(k10 z).1, (k10 z).2.1, (k10 z).2.2.off (offF.rf.up (S := [5]) (by simp)) (by simp)⟩, k11⟩
theorem KNW.up14 {fm : FI} {arm : AR} {G : Geo} {d : Nat → Nat} {ms : List Nat} (h : KNW fm arm G d ms) {c : Int32} : KNW (va_up fm 14 c) arm G d ms := by
  obtain ⟨N, U, k1, k2, k3, k4, k5, k6, k7, k8, k9, k10, k11⟩ := h
  exact ⟨N, U, k1.upF (by simp), by rw [va_up_off (by decide)]; exact k2, by rw [va_up_off (by decide)]; exact k3, by rw [va_up_off (by decide)]; exact k4, k5, k6, k7, k8, k9, fun z => ⟨(k10 z).1, (k10 z).2.1, (k10 z).2.2.off (offF.rf.up (S := [14]) (by simp)) (by simp)⟩, k11⟩
/-- both go to another place -/
theorem VOL.go {n h h' : Nat} {ln : LN} {fi fm : FI} {ar arm : AR} {d : Nat → Nat} (hV : VOL n ln fi ar fm arm d h) (hb : h' < 2147483648) (hn : h' ≠ 0 → fltS n d = 0 ∧ ∃ D ρ, Snd (geoOf n d) d D ρ ∧ h' ∈ D ∧ h' ≠ (geoOf n d).r) : VOL n ln (va_up fi 0 (nI h')) ar (va_up fm 14 (nI h')) arm d h' := by
  obtain ⟨v1, v2, v3, v4, v5, v6, v7, v8, v9, v10, v11, v12, v13, v14⟩ := hV
  refine ⟨v1, v2, v3, v4, by rw [va_up_off (by decide)]; exact v5, by rw [va_up_off (by decide)]; exact v6, v7, v8, va_up_self _ _ _, va_up_self _ _ _, hb, ?_, ?_, hn⟩
  · rcases v12 with w | ⟨w1, w2⟩
    · left; rw [va_up_off (by decide)]; exact w
    · right; exact ⟨by rw [va_up_off (by decide)]; exact w1, fun hh => (w2 hh).up (by simp)⟩
  · rcases v13 with w | ⟨w1, w2, w3, w4⟩
    · left; rw [va_up_off (by decide)]; exact w
    · right
      exact ⟨by rw [va_up_off (by decide)]; exact w1, by rw [va_up_off (by decide)]; exact w2, fun hh => (w3 hh).up (by simp), fun hz => by obtain ⟨ms, hK⟩ := w4 hz; exact ⟨ms, hK.up14⟩⟩
theorem sub_mem {G : Geo} {d : Nat → Nat} {f : Nat} {e : Nat × Nat} (he : e ∈ dI G d f) (hd : isDr d (dA G d f e.1)) : fcl d (dA G d f e.1) ∈ sub G d f := List.mem_map.mpr ⟨e, List.mem_filter.mpr ⟨he, decide_eq_true hd⟩, rfl⟩
theorem enter_alike {nf n h : Nat} {ln : LN} {fi fm : FI} {ar arm : AR} {d : Nat → Nat} (hV : VOL n ln fi ar fm arm d h) (x1 : Int32) (hnf : 40000 ≤ nf) : ∃ v r h' fi' ar' ln' kc ks fm' arm', FX10_enter nf fi ar ln x1 = some (r, fi', ar', ln', kc, ks) ∧ M_enter nf fm arm x1 = some (v, fm', arm') ∧ ((r = Sum.inr 0 ∧ fm' 5 = 1) ∨ (r = Sum.inr 1 ∧ fm' 5 = 2) ∨ (r = Sum.inr 2 ∧ fm' 5 = 3) ∨ (r = Sum.inl v ∧ fm' 5 = 0)) ∧ VOL n ln' fi' ar' fm' arm' d h' ∧ CST ln ln' kc ks 2 12 ∧ offF (0 :: oFC) fi fi' ∧ offAs oAC ar ar' ∧ offF (14 :: oFM) fm fm' ∧ offAs oAM arm arm' := by
  obtain ⟨fi1, ar1, ln1, k1, s1, fm1, arm1, b1, a5, a3, a4, b2, b3, b4⟩ := sel_ok hV x1 hnf
  have a3' : offF (0 :: oFC) fi fi1 := a3.mono (fun j hj => List.mem_cons_of_mem _ hj)
  have b2' : offF (14 :: oFM) fm fm1 := b2.mono (fun j hj => List.mem_cons_of_mem _ hj)
  have cst : ∀ k s, k ≤ 1 → s ≤ 6 → CST ln ln1 (k1 + (k + 0)) (s1 + (s + 0)) 2 12 := fun k s hk hs => by
    obtain ⟨c1, c2, c3⟩ := a5
    exact ⟨c1, by omega, by omega⟩
  unfold FX10_enter M_enter M_enter_33
  rcases b4 with ⟨e1, e2, e3⟩ | ⟨e1, e2, e3, e4⟩ | ⟨q, e, j, b, N, U, ms, D, ρ, w1, e1, e2, e3, hSel⟩
  · rw [e1, obnd6_some, sumcR, e2, obnd3_some, brF (by decide)]
    exact ⟨_, _, h, fi1, ar1, ln1, _, _, fm1, arm1, rfl, rfl, Or.inl ⟨rfl, e3⟩, b1, cst 0 0 (by omega) (by omega), a3', a4, b2', b3⟩
  · rw [e1, obnd6_some, sumcL, e2, obnd6_some, sumcR, e3, obnd3_some, brF (by decide)]
    exact ⟨_, _, h, fi1, ar1, ln1, _, _, fm1, arm1, rfl, rfl, Or.inr (Or.inl ⟨rfl, e4⟩), b1, cst 1 6 (by omega) (by omega), a3', a4, b2', b3⟩
  · obtain ⟨t1, t2, t3, t4, t5, t6, t7, t8, t9, t10, t11, t12, t13, t14, t15, t16, t17, t18, t19, t20, t21, t22, t23, t24, t25, t26⟩ := hSel
    have hn := b1.1
    have hW := t5.1
    have hLC := t5.2.1
    have hln0 : ln1 0 = 128 * n := hLC.1
    obtain ⟨p, hp⟩ : ∃ p, p = dA (geoOf n d) d (hf (geoOf n d) h) e.1 := ⟨_, rfl⟩
    rw [← hp] at e2 t23 t24 t25 t26
    have hbq : b + q ≠ 0 ∧ b + q < 16400 := by omega
    have hpa : pA arm1 (b + q) = p := pA_nI t26 (by omega)
    have hdr : drF arm1 d (b + q) ↔ isDr d p := by
      unfold drF
      rw [hpa]
      exact ⟨fun w => w.elim (fun z => absurd z hbq.1) id, Or.inr⟩
    rw [e1, obnd6_some, sumcL, e2, obnd6_some, sumcL, isDirectory_eq hW.1 (by omega), obnd3_some, e3, obnd3_some, brT rfl, w1, t22, obnd3_some, isFolder_eq t13.1.1 hbq.2 (fun _ => by rw [hpa]; omega), obnd3_some]
    by_cases qd : isDr d p
    · have hdr' := hdr.mpr qd
      simp only [if_pos qd, if_pos hdr']
      rw [brF (by decide), brF (by decide), FX3_firstCluster_eq hW.1 (by omega), obnd3_some, bnd_eq, va_up_self]
      have hsub : fcl d p ∈ sub (geoOf n d) d (hf (geoOf n d) h) := by rw [hp]; exact sub_mem t9 (by rw [← hp]; exact qd)
      have hD' : fcl d p ∈ D := t2.1.mem_iff.mpr (List.mem_cons_of_mem _ (List.mem_flatMap.mpr ⟨_, t3, hsub⟩))
      have hne := t2.ne_r t3 hsub
      have hDk := t2.2.2.1 _ hD'
      have hC := lnk_isC _ _ hDk.1 _ (lnk_head hDk.1)
      have bb := hW.2.2.1.b
      have hV2 := b1.go (h' := fcl d p) (by omega) (fun _ => ⟨t1, D, ρ, t2, hD', hne⟩)
      have hW2 : CW ln1 (va_up fi1 0 (nI (fcl d p))) ar1 (geoOf n d) d := hW.upF (by simp)
      obtain ⟨L, hL, _⟩ := t5.2.2.2.2.2
      obtain ⟨fi2, ar2, ln2, k2, s2, g1, g2, g3, g4, g5, g6, g7, g8⟩ := list_ok (nf := nf) (i0 := 0) (by omega) hW2 hLC hL hDk hnf
      rw [g1, obnd6_some]
      have hV3 : VOL n ln2 fi2 ar2 (va_up fm1 14 (nI (fcl d p))) arm1 d (fcl d p) := hV2.offC g6 g7 (by simp) (by simp) (hLC.gr g2 (by omega)) (LKs.gr b1.2.2.2.2.2.2.2.1 g2) (Or.inr ⟨by rw [g6 1 (by simp), va_up_off (by decide), t6, t1], fun hh => (hW2.off g6 g7 (by simp) (by simp)).2.1⟩)
      have hK2 : KNW (va_up fm1 14 (nI (fcl d p))) arm1 (geoOf n d) d ms := KNW.up14 ⟨N, U, t13⟩
      obtain ⟨j', b', N', U', m1, m2, m3, m4, m5, _⟩ := here_model hV3 t1 hK2 hnf
      have hhf : hf (geoOf n d) (fcl d p) = fcl d p := by unfold hf; rw [if_neg (by omega)]
      rw [hhf] at m5
      have f0 : M_fails nf fm1 arm1 0 3 = _ := fails_eq (nf := nf) (ar := arm1) t10 (t := 0) (by decide) 3 (by decide)
      have hbg : M_beginOf nf fm1 arm1 (nI (b + q)) = some (nI (fcl d p), fm1, arm1) := beginOf_eq (r := (geoOf n d).r) t13.1.1 hbq.2 (Or.inr ⟨hbq.1, p, t26, by omega, rfl⟩)
      unfold M_enter_26 M_many
      rw [f0, obnd3_some, if_pos rfl, if_pos rfl, brT rfl, t22, obnd3_some, hbg, obnd3_some, bnd_eq, m1, obnd3_some, zgd (by omega) (by omega), nI_clamp (by omega), obnd3_some, m5]
      have h20 : fi2 (20 + 10 * 0) = nI (dI (geoOf n d) d (fcl d p)).length := g4.1
      have hc2 := g2.cst (by omega)
      refine ⟨_, _, fcl d p, fi2, ar2, ln2, k1 + (0 + (k2 + 0)), s1 + (0 + (s2 + 0)), _, arm1, rfl, rfl, Or.inr (Or.inr (Or.inr ⟨by rw [h20], by rw [va_up_off (by decide)]; exact t10⟩)), hV3, ?_, (a3'.up List.mem_cons_self).tr (g6.mono (fun j hj => by simp at hj; simp [oFC]; omega)), offAs.tr a4 (fun j hj => g7 j (fun w => hj (by simp at w; simp [oAC]; omega))), b2'.up List.mem_cons_self, b3⟩
      obtain ⟨c1, c2, c3⟩ := a5
      obtain ⟨c4, c5, c6⟩ := hc2
      exact ⟨by omega, by omega, by omega⟩
    · have ndr : ¬ drF arm1 d (b + q) := fun w => qd (hdr.mp w)
      simp only [if_neg qd, if_neg ndr]
      rw [brT trivial, brT trivial]
      have f1 : M_fails nf fm1 arm1 1 3 = _ := fails_eq (nf := nf) (ar := arm1) t10 (t := 1) (by decide) 3 (by decide)
      unfold M_enter_26 M_enter_33
      rw [f1, obnd3_some, if_neg (by decide), if_neg (by decide), brF (by decide)]
      refine ⟨_, _, h, fi1, ar1, ln1, k1 + (0 + 1), s1 + (0 + 6), _, arm1, rfl, rfl, Or.inr (Or.inr (Or.inl ⟨rfl, va_up_self _ _ _⟩)), b1.upM, ?_, a3', a4, b2'.up (by simp [oFM]), b3⟩
      obtain ⟨c1, c2, c3⟩ := a5
      exact ⟨c1, by omega, by omega⟩
