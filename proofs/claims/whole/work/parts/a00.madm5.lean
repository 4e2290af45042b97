/-! the model's taking up of an item, whole -/
theorem adm200_1 {nf : Nat} {fi : FI} {ar : AR} (x1 x2 x3 x4 : Int32) : M_admit_200 nf x1 x2 x3 x4 1 fi ar = some (4, fi, ar) := by
  unfold M_admit_200; rw [brF (by decide)]
theorem admit_item {nf : Nat} {fi : FI} {ar : AR} {G : Geo} {d A : Nat → Nat} {b i s np U : Nat} {its : List (Nat × Nat)} {ms : List Nat} (hX : MX fi ar G d A b i its U ms) (hPD : PD fi ar d A s np) (hnps : np ≤ s) (hp : A s + 32 ≤ 524288) (hpp : ∀ j, j < np → A (s - 1 - j) + 32 ≤ 524288) (hs : s < 65536) (hi : i < 16400) (hb : b + its.length < 16400) (hU : U + 260 ≤ 213600) (hits : ∀ e, e ∈ its → A e.1 + 32 ≤ 524288 ∧ (nm d A e.1 e.2).length ≤ 260 ∧ ∀ x, x ∈ nm d A e.1 e.2 → x < 65536) (hL : ¬ d (A s + 11) / 8 % 2 = 1) (hnf : 20000 ≤ nf) : ∃ fi' ar' r, M_admit nf fi ar (nI (A s)) (nI i) (nI s) = some (nI r, fi', ar') ∧ offF [17, 18, 31, 35, 36] fi fi' ∧ offAs [19, 20, 21, 22, 23, 24, 26, 27, 28, 29, 34] ar ar' ∧ KP i b U ar ar' ∧ ((r = 4 ∧ ¬ e4 d A s np) ∨ (r = 5 ∧ e4 d A s np ∧ ∃ e, e ∈ its ∧ twn d A s np e) ∨ (e4 d A s np ∧ (¬ ∃ e, e ∈ its ∧ twn d A s np e) ∧ ADM G d A b i s np its U ms r fi' ar')) := by
  have h1 := hX.1
  have hd := h1.1
  obtain ⟨p, hpe⟩ : ∃ p, p = A s := ⟨_, rfl⟩
  have b11 := hd.lt (show p + 11 < 524288 by omega)
  have f28 := foR_lt hd (show p + 28 + 3 < 524288 by omega)
  have hish : M_isShort nf fi ar (nI p) 0 = some ((if shOK d p False then 1 else 0), fi, ar) := M_isShort_eq (nf := nf) (fi := fi) hd (show p + 32 ≤ 524288 by omega) False (lb := 0) (by omega) ⟨fun w => absurd rfl w, fun w => w.elim⟩ (by omega)
  have h36 := hPD.1
  have hbyte : ∀ t, A t + 32 ≤ 524288 → ∀ k, k < 32 → d (A t + k) < 256 := fun t ht k hk => hd.lt (by omega)
  have hp32 : p + 32 ≤ 524288 := by omega
  have hnpb : np < 2147483648 := by omega
  have n600 : 600 ≤ nf ∧ 300 ≤ nf ∧ 20 ≤ nf := by omega
  have hsmb : smS d p 11 < 4294967296 := by have := smS_lt d p 11; omega
  have c01 : (0 < 2 ∧ 1 < 2) ∧ (1 ≠ 0 ∧ ∀ x : Nat, x < 256 → x < 4294967296) := by
    refine ⟨by decide, by decide, fun x hx => by omega⟩
  have h28 : p + 28 + 3 < 524288 := by omega
  have unf := admit_unf (nf := nf) (fi := fi) hd (show p + 32 ≤ 524288 by omega) (nI i) (nI s)
  rw [← hpe]
  by_cases q1 : d (p + 11) ≤ 63 ∧ timesOK d p
  · rw [if_pos q1, if_neg (by rw [hpe]; exact hL)] at unf
    -- the last part: t says whether it is bad already
    have k145 : ∀ t, t < 2 → (t = 0 → shOK d p False ∧ (isDr d p → fo d (p + 28) = 0)) → (t ≠ 0 → ¬ e4 d A s np) → ∃ fi' ar' r, M_admit_145 nf (nI p) (nI i) (nI s) (nI (d (p + 11))) (nI t) fi ar = some (nI r, fi', ar') ∧ offF [17, 18, 31, 35, 36] fi fi' ∧ offAs [19, 20, 21, 22, 23, 24, 26, 27, 28, 29, 34] ar ar' ∧ KP i b U ar ar' ∧ ((r = 4 ∧ ¬ e4 d A s np) ∨ (r = 5 ∧ e4 d A s np ∧ ∃ e, e ∈ its ∧ twn d A s np e) ∨ (e4 d A s np ∧ (¬ ∃ e, e ∈ its ∧ twn d A s np e) ∧ ADM G d A b i s np its U ms r fi' ar')) := by
      intro t ht t0 t1
      have ht1' : t ≠ 0 → t = 1 := by clear t0 t1; intro h; omega
      unfold M_admit_145 M_admit_185 M_admit_190
      rw [h36]
      by_cases q0 : np = 0
      · subst q0
        obtain ⟨fi1, ar1, s1, s2, s3, s4⟩ := M_shown_ok (nf := nf) (fi := fi) hd hp32 n600.2.2
        rw [brT (show nI 0 ≤ (0 : Int32) by decide), s1, obnd3_some]
        have oF : offF [17, 18, 31, 35, 36] fi fi1 := s3.mono (by simp)
        have oA : offAs [19, 20, 21, 22, 23, 24, 26, 27, 28, 29, 34] ar ar1 := fun j hj => s4 j (fun w => hj (by rw [w]; simp))
        by_cases qt : t = 0
        · subst qt
          obtain ⟨g1, g2⟩ := t0 rfl
          rw [hpe] at g1 g2
          have he4 : e4 d A s 0 := ⟨by rw [← hpe]; exact q1.1, by rw [← hpe]; exact q1.2, g1, g2, ⟨Nat.zero_le _, fun i hi => absurd hi (Nat.not_lt_zero _)⟩, sh_nm g1, fun w => absurd w (Nat.lt_irrefl _)⟩
          have hN1 : MN fi1 ar1 (nm d A s 0) := by unfold nm; rw [if_pos rfl, ← hpe]; exact s2
          have hX1 : MX fi1 ar1 G d A b i its U ms := hX.off s3 s4.as (by simp) (by simp)
          obtain ⟨fi', ar', r, a1, a2, a3, a5, a4⟩ := admit200 (nf := nf) hX1 hN1 (by rw [s3 36 (by simp)]; exact h36) hp hs hi hb hU (nm_bound (Nat.zero_le _) (hbyte s hp) (fun j hj => absurd hj (Nat.not_lt_zero _))) hits hnf
          rw [← hpe] at a1
          refine ⟨fi', ar', r, a1, oF.tr (a2.mono (by simp)), oA.tr (fun j hj => a3 j (fun w => hj (by simp at w ⊢; omega))), KP.tr (KP.off s4.as (by simp)) (Nat.le_refl _) a5, ?_⟩
          rcases a4 with ⟨w1, w2⟩ | ⟨w1, w2⟩
          · exact Or.inr (Or.inl ⟨w1, he4, w2⟩)
          · exact Or.inr (Or.inr ⟨he4, w1, w2⟩)
        · have ht1 : t = 1 := ht1' qt
          subst ht1
          exact ⟨fi1, ar1, 4, adm200_1 _ _ _ _, oF, oA, KP.off s4.as (by simp), Or.inl ⟨rfl, t1 c01.2.1⟩⟩
      · have hnpos : 0 < np := Nat.pos_of_ne_zero q0
        rw [brF (nI_nle hnpos hnpb)]
        by_cases qt : t = 0
        · subst qt
          obtain ⟨g1, g2⟩ := t0 rfl
          rw [hpe] at g1 g2
          obtain ⟨T, sum, u1, u2, u3, u4, u5, u6⟩ := hPD.units hnpos hnps
          have hT := u1.2.1
          have hTn := u1.2.2.1
          rw [brT (show nI 0 = (0 : Int32) from rfl), u3]
          have hptiff : ptOK d A s np (smS d (A s) 11) → T = np ∧ sum = smS d (A s) 11 := fun w => by
            have w2 := ((pt_pd hnpos hnps).mp w).2.2.2 0 hnpos
            have w3 := u1.2.2.2 0 hnpos
            have e1 := w2.1.symm.trans w3.1
            rw [if_pos rfl] at e1
            exact ⟨(Nat.add_right_cancel e1).symm, w3.2.2.1.symm.trans w2.2.2.1⟩
          by_cases qT : T = np
          · rw [show T - np = 0 by rw [qT]; exact Nat.sub_self _, brF (show ¬ (0 : Int32) < nI 0 by decide), M_sumOf_eq hd hp32 n600.2.2, obnd3_some, u5, zeq hsmb (c01.2.2 _ u2)]
            by_cases qs : smS d p 11 = sum
            · rw [if_pos qs]
              have hpt : ptOK d A s np (smS d (A s) 11) := by
                rw [← hpe, qs]
                refine (pt_pd hnpos hnps).mpr ?_
                rw [qT] at u1; exact u1
              have hnp20 := hpt.1
              have huu : ∀ u, u < 13 * np → ar 34 u = nI (nU d A s u) ∧ nU d A s u < 65536 := fun u hu => ⟨u6 qT u hu, nU_lt (fun k hk => hbyte _ (hpp (u / 13) (Nat.div_lt_of_lt_mul hu)) k hk)⟩
              obtain ⟨fi1, v1, v2, v3⟩ := M_said_ok (nf := nf) (fi := fi) (d := d) (A := A) (s := s) (np := np) ⟨hnpos, hnp20⟩ (by rw [u4, qT]) huu n600.2.1
              rw [v1, obnd3_some]
              have oF : offF [17, 18, 31, 35, 36] fi fi1 := v3.mono (by simp)
              by_cases qf : flOK d A s np ∧ nmOK (nm d A s np)
              · rw [if_pos qf, brF (by decide)]
                have he4 : e4 d A s np := ⟨by rw [← hpe]; exact q1.1, by rw [← hpe]; exact q1.2, g1, g2, hpt, qf.2, fun _ => qf.1⟩
                have hX1 : MX fi1 ar G d A b i its U ms := hX.off v3 offAs.rf (T := []) (by simp) (by simp)
                obtain ⟨fi', ar', r, a1, a2, a3, a5, a4⟩ := admit200 (nf := nf) hX1 v2 (by rw [v3 36 (by simp)]; exact h36) hp hs hi hb hU (nm_bound hnp20 (hbyte s hp) (fun j hj => hbyte _ (hpp j hj))) hits hnf
                rw [← hpe] at a1
                refine ⟨fi', ar', r, a1, oF.tr (a2.mono (by simp)), fun j hj => a3 j (fun w => hj (by simp at w ⊢; omega)), a5, ?_⟩
                rcases a4 with ⟨w1, w2⟩ | ⟨w1, w2⟩
                · exact Or.inr (Or.inl ⟨w1, he4, w2⟩)
                · exact Or.inr (Or.inr ⟨he4, w1, w2⟩)
              · rw [if_neg qf, brT rfl]
                exact ⟨fi1, ar, 4, adm200_1 _ _ _ _, oF, offAs.rf, KP.rf, Or.inl ⟨rfl, fun w => qf ⟨w.2.2.2.2.2.2 hnpos, w.2.2.2.2.2.1⟩⟩⟩
            · rw [if_neg qs]
              exact ⟨fi, ar, 4, adm200_1 _ _ _ _, offF.rf, offAs.rf, KP.rf, Or.inl ⟨rfl, fun w => qs (by rw [hpe]; exact (hptiff w.2.2.2.2.1).2.symm)⟩⟩
          · have hTn2 : 0 < T - np := Nat.sub_pos_of_lt (Nat.lt_of_le_of_ne hTn (fun w => qT w.symm))
            have hTb : T - np < 2147483648 := Nat.lt_of_le_of_lt (Nat.sub_le _ _) (Nat.lt_of_le_of_lt hT (by decide))
            rw [brT (show (0 : Int32) < nI (T - np) from nI_lt (a := 0) hTn2 hTb)]
            exact ⟨fi, ar, 4, adm200_1 _ _ _ _, offF.rf, offAs.rf, KP.rf, Or.inl ⟨rfl, fun w => qT (hptiff w.2.2.2.2.1).1⟩⟩
        · have ht1 : t = 1 := ht1' qt
          subst ht1
          rw [brF (show ¬ nI 1 = (0 : Int32) by decide)]
          exact ⟨fi, ar, 4, adm200_1 _ _ _ _, offF.rf, offAs.rf, KP.rf, Or.inl ⟨rfl, t1 c01.2.1⟩⟩
    rw [unf]
    unfold admI M_admit_140 M_admit_144
    rw [hish, obnd3_some, show nI p + (28 : Int32) = nI (p + 28) from nI_add p 28, zbit16 b11, M_four_eq hd h28, obnd3_some]
    by_cases q2 : shOK d p False
    · rw [if_pos q2, brF (by decide)]
      by_cases q3 : d (p + 11) / 16 % 2 = 1
      · rw [q3, brF (by decide)]
        by_cases q4 : fo d (p + 28) = 0
        · rw [brT (show nI (fo d (p + 28)) = (0 : Int32) by rw [q4]; rfl)]
          exact k145 0 c01.1.1 (fun _ => ⟨q2, fun _ => q4⟩) (fun w => absurd rfl w)
        · rw [brF (show ¬ nI (fo d (p + 28)) = (0 : Int32) from fun w => q4 ((uI_eq (b := 0) f28 (by decide)).mp w))]
          exact k145 1 c01.1.2 (fun w => absurd w c01.2.1) (fun _ w => q4 (by rw [hpe]; exact w.2.2.2.1 (by rw [← hpe]; exact q3)))
      · rw [(Nat.mod_two_eq_zero_or_one _).resolve_right q3, brT (show nI (0 * 16) = (0 : Int32) from rfl)]
        exact k145 0 c01.1.1 (fun _ => ⟨q2, fun w => absurd w q3⟩) (fun w => absurd rfl w)
    · rw [if_neg q2, brT rfl]
      exact k145 1 c01.1.2 (fun w => absurd w c01.2.1) (fun _ w => q2 (by rw [hpe]; exact w.2.2.1))
  · rw [if_neg q1] at unf
    exact ⟨fi, ar, 4, unf, offF.rf, offAs.rf, KP.rf, Or.inl ⟨rfl, fun w => q1 (by rw [hpe]; exact ⟨w.1, w.2.1⟩)⟩⟩
