/-! an item by its number, in both -/
theorem ix_cases {k : Int32} {len : Nat} (hl : len < 2147483648) : (k < 0 ∧ ¬ ∃ q, q < len ∧ k = nI q) ∨ (¬ k < 0 ∧ ¬ k < nI len ∧ ¬ ∃ q, q < len ∧ k = nI q) ∨ (¬ k < 0 ∧ k < nI len ∧ ∃ q, q < len ∧ k = nI q) := by
  have t := tI k
  have e : (nI len).toInt = (len : Int) := nI_toInt (by omega)
  have l0 : (0 : Int32).toInt = 0 := rfl
  by_cases q1 : k < 0
  · refine Or.inl ⟨q1, fun w => ?_⟩
    obtain ⟨q, w1, w2⟩ := w
    rw [w2] at q1
    exact nI_pos (by omega) q1
  · right
    by_cases q2 : k < nI len
    · right
      refine ⟨q1, q2, uv k, ?_, (nI_uv k).symm⟩
      rw [ltI] at q1 q2
      rw [e] at q2
      rw [l0] at q1
      omega
    · left
      refine ⟨q1, q2, fun w => ?_⟩
      obtain ⟨q, w1, w2⟩ := w
      rw [w2] at q2
      exact q2 (nI_lt w1 (by omega))
/-- the class's way to an item -/
theorem itemAt_ok {nf : Nat} {ln : LN} {fi : FI} {ar : AR} {G : Geo} {d : Nat → Nat} {f : Nat} (h : HR ln fi ar G d 0 f) (hD : DOK G d f) (k : Int32) : ((¬ ∃ q, q < (dI G d f).length ∧ k = nI q) ∧ FX10_itemAt nf fi ar ln k = some (Sum.inr 1, fi, ar, ln, 1, 6)) ∨ (∃ q, q < (dI G d f).length ∧ k = nI q ∧ FX10_itemAt nf fi ar ln k = some (Sum.inl (nI (dA G d f ((dI G d f).getD q (0, 0)).1)), fi, ar, ln, 0, 0)) := by
  obtain ⟨hW, hLC, hDC, hI, h22, L, hL, hle⟩ := h
  have hG := hW.2.2.1
  have b := hG.b
  have hlc := lnk_clu hD.1
  have hkl := hlc.len
  have hkn : G.k ≤ G.n / 2 := by
    have : G.k * 2 ≤ G.k * G.c := Nat.mul_le_mul_left _ (by omega)
    omega
  have c10 := hLC.2.2.2.2.2.2.1 0 (by omega)
  have hLb := hL.2.2.2.2
  have h20 : fi (20 + 10 * 0) = nI (dI G d f).length := hI.1
  unfold FX10_itemAt FX10_itemAt_15
  rw [h20]
  rcases ix_cases (k := k) (len := (dI G d f).length) (by omega) with ⟨q1, q2⟩ | ⟨q1, q2, q3⟩ | ⟨q1, q2, q, q3, q4⟩
  · left; exact ⟨q2, by rw [brT q1]⟩
  · left; exact ⟨q3, by rw [brF q1, brF q2]⟩
  · right
    refine ⟨q, q3, q4, ?_⟩
    have hem : (dI G d f).getD q (0, 0) ∈ dI G d f := by rw [List.getD_eq_getElem?_getD, List.getElem?_eq_getElem q3]; exact List.getElem_mem q3
    have hxi := dI_lt hem
    have hlE := dE_le G d f
    rw [brF q1, brT q2, q4, slotOf_eq hI hL hle q3, obnd3_some, slotAddress_eq hG hlc hDC (by omega) (show ((dI G d f).getD q (0, 0)).1 < (cl G d f).length * (16 * G.c) by omega), obnd3_some]
    rfl
/-- the model's way to an item -/
theorem no_ok {nf n h : Nat} {ln : LN} {fi fm : FI} {ar arm : AR} {d : Nat → Nat} (hV : VOL n ln fi ar fm arm d h) (k : Int32) (hnf : 40000 ≤ nf) : ∃ fm' arm', VOL n ln fi ar fm' arm' d h ∧ offF [5, 7, 8, 9, 10, 11, 12, 13, 15, 16, 17, 18, 31, 32, 33, 35, 36, 37, 38] fm fm' ∧ offAs [19, 20, 21, 22, 23, 24, 25, 26, 27, 28, 29, 30, 34] arm arm' ∧ ((fltS n d ≠ 0 ∧ M_no nf fm arm k = some (1, fm', arm') ∧ fm' 5 = 1) ∨ (fltS n d = 0 ∧ (¬ ∃ q, q < (dI (geoOf n d) d (hf (geoOf n d) h)).length ∧ k = nI q) ∧ M_no nf fm arm k = some (1, fm', arm') ∧ fm' 5 = 2) ∨ (fltS n d = 0 ∧ (∃ q, q < (dI (geoOf n d) d (hf (geoOf n d) h)).length ∧ k = nI q) ∧ M_no nf fm arm k = some (0, fm', arm') ∧ fm' 5 = 0 ∧ fm' 15 = 1 ∧ RG fm' (geoOf n d) ∧ ∃ ms, KNW fm' arm' (geoOf n d) d ms)) := by
  obtain ⟨fm1, arm1, b1, b2, b3, b4⟩ := none_ok hV hnf
  unfold M_no M_no_20 M_no_25 M_no_32 M_no_37 M_many
  rcases b4 with ⟨e0, e1, e2⟩ | ⟨e0, e1, e2, e3, e4, ms, hK⟩
  · rw [e1, obnd3_some, brF (by decide), zbit1]
    exact ⟨fm1, arm1, b1, b2, b3, Or.inl ⟨e0, rfl, e2⟩⟩
  · obtain ⟨j, b, N, U, m1, m2, m3, m4, m5, m6, m7, _⟩ := here_model b1 e0 hK hnf
    rw [e1, obnd3_some, brT rfl, m1, obnd3_some, zgd (by omega) (by omega), nI_clamp (by omega), obnd3_some, m5]
    have f1 : M_fails nf fm1 arm1 1 2 = _ := fails_eq (nf := nf) (ar := arm1) e2 (t := 1) (by decide) 2 (by decide)
    have f0 : M_fails nf fm1 arm1 0 2 = _ := fails_eq (nf := nf) (ar := arm1) e2 (t := 0) (by decide) 2 (by decide)
    rw [f1, f0, obnd3_some, obnd3_some, if_neg (by decide), if_neg (by decide), if_pos rfl, if_pos rfl, brF (show ¬ (1 : Int32) = 0 by decide), brT (show (0 : Int32) = 0 from rfl), zbit1, zbit0]
    have hV2 : VOL n ln fi ar (va_up fm1 5 (nI 2)) arm1 d h := by
      obtain ⟨v1, v2, v3, v4, v5, v6, v7, v8, v9, v10, v11, v12, v13, v14⟩ := b1
      refine ⟨v1, v2, v3, v4, v5, by rw [va_up_off (by decide)]; exact v6, v7, v8, v9, by rw [va_up_off (by decide)]; exact v10, v11, v12, ?_, v14⟩
      rcases v13 with w | ⟨w1, w2, w3, w4⟩
      · rw [e3] at w; exact absurd w (by decide)
      · refine Or.inr ⟨by rw [va_up_off (by decide)]; exact w1, by rw [va_up_off (by decide)]; exact w2, fun hh => (w3 hh).up (by simp), fun hz => ?_⟩
        obtain ⟨ms, N, U, k1, k2, k3, k4, k5, k6, k7, k8, k9, k10, k11⟩ := w4 hz
        exact ⟨ms, N, U, k1.upF (by simp), by rw [va_up_off (by decide)]; exact k2, by rw [va_up_off (by decide)]; exact k3, by rw [va_up_off (by decide)]; exact k4, k5, k6, k7, k8, k9, fun z => ⟨(k10 z).1, (k10 z).2.1, (k10 z).2.2.off (offF.rf.up (S := [5]) (by simp)) (by simp)⟩, k11⟩
    rcases ix_cases (k := k) (len := (dI (geoOf n d) d (hf (geoOf n d) h)).length) (by omega) with ⟨q1, q2⟩ | ⟨q1, q2, q3⟩ | ⟨q1, q2, q3⟩
    · rw [brT q1]
      exact ⟨_, arm1, hV2, b2.up (by simp), b3, Or.inr (Or.inl ⟨e0, q2, rfl, va_up_self _ _ _⟩)⟩
    · rw [brF q1, brF q2]
      exact ⟨_, arm1, hV2, b2.up (by simp), b3, Or.inr (Or.inl ⟨e0, q3, rfl, va_up_self _ _ _⟩)⟩
    · rw [brF q1, brT q2]
      exact ⟨fm1, arm1, b1, b2, b3, Or.inr (Or.inr ⟨e0, q3, rfl, e2, e3, e4, ms, hK⟩)⟩
