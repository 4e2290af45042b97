/-! the class's first question, and what it lists then -/
def hf (G : Geo) (h : Nat) : Nat := if h = 0 then G.r else h
theorem VOL.snd {n h : Nat} {ln : LN} {fi fm : FI} {ar arm : AR} {d : Nat → Nat} (hV : VOL n ln fi ar fm arm d h) (hz : fltS n d = 0) : ∃ D ρ, Snd (geoOf n d) d D ρ ∧ hf (geoOf n d) h ∈ D ∧ (h = 0 ∨ (h ∈ D ∧ h ≠ (geoOf n d).r)) := by
  have h3 := hV.2.2.2.2.2.2.2.2.2.2.2.2.2
  unfold hf
  by_cases w : h = 0
  · obtain ⟨_, _, D, ρ, hS⟩ := (flt_iff hV.1.1 hV.1.2).mp hz
    rw [if_pos w]
    exact ⟨D, ρ, hS, hS.1.mem_iff.mpr List.mem_cons_self, Or.inl w⟩
  · obtain ⟨_, D, ρ, hS, h1, h2⟩ := h3 w
    rw [if_neg w]
    exact ⟨D, ρ, hS, h1, Or.inr ⟨h1, h2⟩⟩
/-- the class has the directory that begins with f listed in i0 -/
def HR (ln : LN) (fi : FI) (ar : AR) (G : Geo) (d : Nat → Nat) (i0 f : Nat) : Prop := CW ln fi ar G d ∧ LNC ln G.n ∧ DC fi ar i0 G (cl G d f) ∧ IC fi ar i0 (dI G d f) (fun _ => 0) ∧ fi (22 + 10 * i0) = nI (dE G d f) ∧ ∃ L, LK ln i0 L ∧ (dI G d f).length ≤ L
theorem VOL.offC {n h : Nat} {ln ln' : LN} {fi fi' fm : FI} {ar ar' arm : AR} {d : Nat → Nat} (hV : VOL n ln fi ar fm arm d h) {S T : List Nat} (hf : offF S fi fi') (ha : offAs T ar ar') (hS : ∀ j, j ∈ S → j ∉ [0, 2]) (hT : ∀ j, j ∈ T → j ≠ 0) (hln : LNC ln' n) (hL : ∀ i, i < 3 → ∃ L, LK ln' i L) (h1 : fi' 1 = -1 ∨ (fi' 1 = nI (fltS n d) ∧ (headOK n d → CG fi' (geoOf n d)))) : VOL n ln' fi' ar' fm arm d h := by
  obtain ⟨v1, v2, v3, v4, v5, v6, v7, v8, v9, v10, v11, v12, v13, v14⟩ := hV
  have e0 : ln' 0 = ln 0 := by rw [hln.1, v7.1]
  exact ⟨v1, v2, v3, ⟨by rw [e0]; exact v4.1, fun p hp => by rw [ha 0 (fun q => hT 0 q rfl)]; exact v4.2 p (by rw [e0] at hp; exact hp)⟩, by rw [hf 2 (fun q => hS 2 q (by simp))]; exact v5, v6, hln, hL, by rw [hf 0 (fun q => hS 0 q (by simp))]; exact v9, v10, v11, h1, v13, v14⟩
theorem openHere_ok {nf n h : Nat} {ln : LN} {fi fm : FI} {ar arm : AR} {d : Nat → Nat} (hV : VOL n ln fi ar fm arm d h) (hnf : 40000 ≤ nf) : ∃ fi' ar' ln' kc ks r, FX10_openHere nf fi ar ln = some (r, fi', ar', ln', kc, ks) ∧ VOL n ln' fi' ar' fm arm d h ∧ offF [1, 4, 5, 6, 7, 8, 9, 10, 11, 20, 21, 22, 23, 24, 25, 40, 41, 42, 43, 44, 45, 62, 63] fi fi' ∧ offAs [3, 4, 5, 10, 11, 12, 13, 18, 19, 20, 21, 32, 33, 42] ar ar' ∧ CST ln ln' kc ks 1 6 ∧ ((fltS n d ≠ 0 ∧ r = Sum.inr 0) ∨ (fltS n d = 0 ∧ r = Sum.inl () ∧ fi' 1 = nI 0 ∧ HR ln' fi' ar' (geoOf n d) d 0 (hf (geoOf n d) h))) := by
  have hlt := fltS_lt n d
  -- once the fault is known
  have k19 : ∀ (ln1 : LN) (fi1 : FI) (ar1 : AR), VOL n ln1 fi1 ar1 fm arm d h → fi1 1 = nI (fltS n d) → (headOK n d → CG fi1 (geoOf n d)) → ∃ fi' ar' ln' kc ks r, FX10_openHere_19 nf fi1 ar1 ln1 = some (r, fi', ar', ln', kc, ks) ∧ VOL n ln' fi' ar' fm arm d h ∧ offF [20, 21, 22, 23, 24, 25] fi1 fi' ∧ offAs [10, 11, 12, 13] ar1 ar' ∧ CST ln1 ln' kc ks 1 6 ∧ ((fltS n d ≠ 0 ∧ r = Sum.inr 0) ∨ (fltS n d = 0 ∧ r = Sum.inl () ∧ fi' 1 = nI 0 ∧ HR ln' fi' ar' (geoOf n d) d 0 (hf (geoOf n d) h))) := by
    intro ln1 fi1 ar1 hV1 h1 hCG
    unfold FX10_openHere_19 FX10_openHere_62
    rw [h1]
    by_cases q : fltS n d = 0
    · rw [q, brT (show nI 0 = (0 : Int32) from rfl)]
      obtain ⟨D, ρ, hS, hfD, hhD⟩ := hV1.snd q
      obtain ⟨v1, v2, v3, v4, v5, v6, v7, v8, v9, v10, v11, v12, v13, v14⟩ := id hV1
      have hh := ((flt_iff v1.1 v1.2).mp q).1
      have hW : CW ln1 fi1 ar1 (geoOf n d) d := ⟨v4, hCG hh, hh.g v1.1 v1.2, v7.1⟩
      obtain ⟨L, hL⟩ := v8 0 (by omega)
      obtain ⟨fi', ar', ln', kc, ks, g1, g2, g3, g4, g5, g6, g7, g8⟩ := list_ok (nf := nf) (i0 := 0) (by omega) hW v7 hL (hS.2.2.1 _ hfD) hnf
      have e : br (fi1 0 = 0) (obnd6 (FX2_list nf 0 fi1 ar1 ln1 (fi1 4)) fun r5 fi2 ar3 ln4 kc6 ks7 => addc kc6 ks7 (some ((Sum.inl () : Unit ⊕ Nat), fi2, ar3, ln4, 0, 0))) (obnd6 (FX2_list nf 0 fi1 ar1 ln1 (fi1 0)) fun r5 fi2 ar3 ln4 kc6 ks7 => addc kc6 ks7 (some ((Sum.inl () : Unit ⊕ Nat), fi2, ar3, ln4, 0, 0))) = some (Sum.inl (), fi', ar', ln', kc, ks) := by
        rw [v9, hW.2.1.2.1]
        unfold hf at g1
        by_cases w : h = 0
        · rw [if_pos w] at g1
          rw [w, brT (show nI 0 = (0 : Int32) from rfl), g1, obnd6_some, addc_some]; rfl
        · rw [if_neg w] at g1
          rw [brF (show ¬ nI h = (0 : Int32) from nI_ne0 (by omega) (by omega)), g1, obnd6_some, addc_some]; rfl
      have hcst := g2.cst (by omega)
      have hV' := hV1.offC g6 g7 (by simp) (by simp) (v7.gr g2 (by omega)) (LKs.gr v8 g2) (Or.inr ⟨by rw [g6 1 (by simp)]; exact h1, fun hh => (hW.off g6 g7 (by simp) (by simp)).2.1⟩)
      refine ⟨fi', ar', ln', kc, ks, Sum.inl (), e, hV', g6, g7, ?_, Or.inr ⟨rfl, rfl, by rw [g6 1 (by simp), h1, q], CX.gr (hW.off g6 g7 (by simp) (by simp)) g2 (by omega), v7.gr g2 (by omega), g3, g4, g5, g8⟩⟩
      obtain ⟨x1, x2, x3⟩ := hcst
      exact ⟨x1, by omega, by omega⟩
    · rw [brF (nI_ne0 (by omega) (by omega))]
      exact ⟨fi1, ar1, ln1, 1, 6, Sum.inr 0, rfl, hV1, offF.rf, offAs.rf, ⟨Nat.le_refl _, by omega, by omega⟩, Or.inl ⟨q, rfl⟩⟩
  obtain ⟨v1, v2, v3, v4, v5, v6, v7, v8, v9, v10, v11, v12, v13, v14⟩ := id hV
  have hne : ¬ nI (fltS n d) = (-1 : Int32) := fun w => by
    have := (uI_eq (a := fltS n d) (b := 4294967295) (by omega) (by omega)).mp w
    omega
  unfold FX10_openHere
  by_cases q1 : fi 1 = -1
  · rw [brT q1]
    obtain ⟨L, hL⟩ := v8 2 (by omega)
    obtain ⟨fi1, ar1, ln1, k1, s1, a1, a2, a3, a4, a5⟩ := firstFault_ok (nf := nf) v4 v5 v1.1 v1.2 v7 hL hnf
    rw [a1, obnd6_some, bnd_eq]
    have hV1 : VOL n ln1 (va_up fi1 1 (nI (fltS n d))) ar1 fm arm d h := hV.offC (S := [1, 4, 5, 6, 7, 8, 9, 10, 11, 40, 41, 42, 43, 44, 45, 62, 63]) ((a3.mono (by simp)).up (by simp)) a4 (by simp) (by simp) (v7.gr a2 (by omega)) (LKs.gr v8 a2) (Or.inr ⟨va_up_self _ _ _, fun hh => (a5 hh).up (by simp)⟩)
    obtain ⟨fi', ar', ln', kc, ks, r, g1, g2, g3, g4, g5, g6⟩ := k19 ln1 _ ar1 hV1 (va_up_self _ _ _) (fun hh => (a5 hh).up (by simp))
    rw [g1, addc_some]
    have hc := (a2.cst (by omega)).tr g5
    rw [Nat.zero_add, Nat.zero_add] at hc
    exact ⟨fi', ar', ln', k1 + kc, s1 + ks, r, rfl, g2, ((a3.mono (by simp)).up (by simp)).tr (g3.mono (by simp)), offAs.tr (fun j hj => a4 j (fun w => hj (by simp at w ⊢; omega))) (fun j hj => g4 j (fun w => hj (by simp at w ⊢; omega))), hc, g6⟩
  · rw [brF q1]
    rcases v12 with w | ⟨w1, w2⟩
    · exact absurd w q1
    · obtain ⟨fi', ar', ln', kc, ks, r, g1, g2, g3, g4, g5, g6⟩ := k19 ln fi ar hV w1 w2
      exact ⟨fi', ar', ln', kc, ks, r, g1, g2, g3.mono (by simp), fun j hj => g4 j (fun w => hj (by simp at w ⊢; omega)), g5, g6⟩
