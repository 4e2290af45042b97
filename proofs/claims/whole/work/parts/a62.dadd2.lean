/-! make: clusters are added to a directory, both sides -/
def LDC (fi : FI) (ar : AR) (G : Geo) (l : List Nat) : Prop := fi 23 = nI l.length ∧ fi 25 = nI (shC G.c + 4) ∧ (∀ j, j < l.length → ar 10 j = nI (pl G (l.getD j 0))) ∧ fi 24 = nI (l.getD (l.length - 1) 0)
theorem lenD_loop {nf : Nat} {ln : LN} {G : Geo} {f M : Nat} (hM : M < 100000) (hnf : 600 ≤ nf) : ∀ (m i kf : Nat) (l : List Nat) (fi : FI) (ar : AR) (d : Nat → Nat), CW ln fi ar G d → DDI G d l f → m ≤ frC G d 2 G.k → i + m = M → m < kf → LDC fi ar G l → (G.k ≤ ln 10 ∧ ln 10 < 100000) → ∃ fi' ar', FX2_lengthen_2 nf ln 0 kf (nI M) (nI i) fi ar = some ((), fi', ar') ∧ CW ln fi' ar' G (adD G 0 m l d).2 ∧ DC fi' ar' 0 G (adD G 0 m l d).1 ∧ offF [21, 23, 24] fi fi' ∧ offAs [0, 10] ar ar' := by
  intro m
  induction m with
  | zero =>
    intro i kf l fi ar d hW hD hf hi hk hL hln
    have b := hW.2.2.1.b
    have hc := hW.2.2.1.1.1
    have hlen := (lnk_clu hD.2.2).len
    have hS : l.length * (16 * G.c) ≤ 65536 := Nat.le_trans (Nat.mul_le_mul hlen (Nat.le_refl _)) (Nat.le_trans (Nat.mul_le_mul (show G.k ≤ 512 by omega) (show 16 * G.c ≤ 128 by omega)) (by omega))
    obtain ⟨h23, h25, h10, h24⟩ := hL
    obtain ⟨kf, rfl⟩ : ∃ k, kf = k + 1 := ⟨kf - 1, by omega⟩
    rw [show FX2_lengthen_2 nf ln 0 (kf + 1) = FX2_lengthen_2b (FX2_lengthen_2 nf ln 0 kf) nf ln 0 from rfl]
    unfold FX2_lengthen_2b FX2_lengthen_77
    rw [brT (nI_le (by omega) (by omega)), bnd_eq, show fi (23 + 10 * 0) = nI l.length from h23, show fi (25 + 10 * 0) = nI (shC G.c + 4) from h25, shl4 hc (by omega)]
    have o1 : offF [21, 23, 24] fi (va_up fi 21 (nI (l.length * (16 * G.c)))) := offF.rf.up (by simp)
    refine ⟨_, ar, rfl, hW.off (S := [21, 23, 24]) (T := []) o1 offAs.rf (by simp) (by simp), ⟨?_, ?_, ?_, h10, ?_⟩, o1, offAs.rf⟩
    · rw [va_up_off (by decide)]; exact h23
    · exact va_up_self _ _ _
    · rw [va_up_off (by decide)]; exact h25
    · rw [va_up_off (by decide)]; exact h24
  | succ m ih =>
    intro i kf l fi ar d hW hD hf hi hk hL hln
    have hG := hW.2.2.1
    have b := hG.b
    obtain ⟨h23, h25, h10, h24⟩ := hL
    obtain ⟨x, hx⟩ : ∃ x, x = low G d 2 G.k := ⟨_, rfl⟩
    obtain ⟨s1, s2, s3, s5, s6, s7, s8, s9, s10⟩ := dd_step hG hD (by omega) hx
    have hlen2 := (lnk_clu s5.2.2).len
    rw [List.length_append, List.length_singleton] at hlen2
    have hne : l ≠ [] := fun q => by have := hD.2.2; rw [q] at this; exact absurd this (by simp [lnk])
    have hmC := (lnk_clu hD.2.2).2 _ (getD_mem (show l.length - 1 < l.length by have := List.length_pos_iff.mpr hne; omega))
    have hm1 := hmC.1
    have hm2 := hmC.2
    have hxk := s1.2
    obtain ⟨kf, rfl⟩ : ∃ k, kf = k + 1 := ⟨kf - 1, by omega⟩
    rw [show FX2_lengthen_2 nf ln 0 (kf + 1) = FX2_lengthen_2b (FX2_lengthen_2 nf ln 0 kf) nf ln 0 from rfl]
    unfold FX2_lengthen_2b
    obtain ⟨ar1, r1, r2, r3⟩ := clm_ok (nf := nf) hW hD.1 (by omega) hnf
    rw [← hx] at r1 r2
    obtain ⟨ar2, u1, u2, u3⟩ := link_ok (nf := nf) r2 (tk_facts hG hD.1 s1).1 (x := l.getD (l.length - 1) 0) (v := x) (by omega) (by omega) (by omega)
    rw [← adS_ne (p := 0) hne] at u2
    have o12 : offA 0 ar ar2 := r3.tr u3
    obtain ⟨fi1, hfi1⟩ : ∃ fi1, fi1 = va_up fi 24 (nI x) := ⟨_, rfl⟩
    have oF1 : offF [21, 23, 24] fi fi1 := by rw [hfi1]; exact offF.rf.up (by simp)
    have hA := addressOf_eq (nf := nf) (u2.off (S := [21, 23, 24]) (T := []) oF1 offAs.rf (by simp) (by simp)) s1
    have e23 : fi1 23 = nI l.length := by rw [hfi1, va_up_off (by decide)]; exact h23
    have o3 : offAs [0, 10] ar (va_up ar2 10 (upd (ar2 10) l.length (nI (pl G x)))) := (o12.as.mono (by simp)).up (by simp)
    have oF2 : offF [21, 23, 24] fi (va_up fi1 23 (nI (l.length + 1))) := oF1.up (by simp)
    obtain ⟨fi', ar', t1, t2, t3, t4, t5⟩ := ih (i + 1) kf (l ++ [x]) (va_up fi1 23 (nI (l.length + 1))) (va_up ar2 10 (upd (ar2 10) l.length (nI (pl G x)))) (adS G 0 d l x) (u2.off (S := [21, 23, 24]) (T := [10]) oF2 (offAs.rf.up (by simp)) (by simp) (by simp)) s5 (by omega) (by omega) (by omega) ⟨by rw [va_up_self, List.length_append, List.length_singleton], by rw [va_up_off (by decide), hfi1, va_up_off (by decide)]; exact h25, fun j hj => by
        rw [List.length_append, List.length_singleton] at hj
        rw [va_up_self, getD_snoc hj]
        unfold upd
        by_cases c : j = l.length
        · rw [if_pos c, if_pos c]
        · rw [if_neg c, if_neg c, o12 10 (by decide)]; exact h10 j (by omega), by rw [va_up_off (by decide), hfi1, va_up_self, last_snoc]⟩ hln
    refine ⟨fi', ar', ?_, by rw [adD, ← hx]; exact t2, by rw [adD, ← hx]; exact t3, oF2.tr t4, o3.tr t5⟩
    rw [brF (nI_ge (by omega) (by omega)), show fi (23 + 10 * 0) = nI l.length from h23, brF (show ¬ Int32.ofNat (ln (10 + 4 * 0)) ≤ nI l.length from nI_ge (by show l.length < ln 10; omega) (by show ln 10 < 2 ^ 31; omega)), r1, obnd3_some, show fi (24 + 10 * 0) = nI (l.getD (l.length - 1) 0) from h24, u1, obnd3_some, bnd_eq, ← hfi1, hA, obnd3_some, show fi1 (23 + 10 * 0) = nI l.length from e23, zgd (by show l.length < ln 10; omega) (by omega), nI_clamp (by omega), bnd_eq, bnd_eq, bnd_eq, show nI l.length + (1 : Int32) = nI (l.length + 1) from nI_add _ 1, show nI i + (1 : Int32) = nI (i + 1) from nI_add i 1]
    exact t1
theorem addM_loop {nf : Nat} {G : Geo} {f M : Nat} {x1 x6 x7 x8 x9 x11 : Int32} (hM : M < 100000) (hnf : 6000 ≤ nf) : ∀ (m i kf : Nat) (l : List Nat) (fm : FI) (arm : AR) (d : Nat → Nat), RW fm arm G d → DDI G d l f → m ≤ frC G d 2 G.k → i + m = M → m < kf → fm 32 = nI l.length → FOL arm l → ∃ fm' arm', M_make_310 nf kf x1 x6 x7 x8 x9 (nI M) x11 (nI i) fm arm = M_make_374 nf nf x1 x6 x7 x8 x9 x11 x9 fm' arm' ∧ RW fm' arm' G (adD G 0 m l d).2 ∧ FOL arm' (adD G 0 m l d).1 ∧ offF [32] fm fm' ∧ offAs [1, 30] arm arm' := by
  intro m
  induction m with
  | zero =>
    intro i kf l fm arm d hW hD hf hi hk h32 hF
    obtain ⟨kf, rfl⟩ : ∃ k, kf = k + 1 := ⟨kf - 1, by omega⟩
    rw [show M_make_310 nf (kf + 1) = M_make_310b (M_make_310 nf kf) nf from rfl]
    unfold M_make_310b
    rw [brT (nI_le (by omega) (by omega))]
    exact ⟨fm, arm, rfl, hW, hF, offF.rf, offAs.rf⟩
  | succ m ih =>
    intro i kf l fm arm d hW hD hf hi hk h32 hF
    have hG := hW.2.2
    have b := hG.b
    obtain ⟨x, hx⟩ : ∃ x, x = low G d 2 G.k := ⟨_, rfl⟩
    obtain ⟨s1, s2, s3, s5, s6, s7, s8, s9, s10⟩ := dd_step hG hD (by omega) hx
    have hlen2 := (lnk_clu s5.2.2).len
    rw [List.length_append, List.length_singleton] at hlen2
    have hne : l ≠ [] := fun q => by have := hD.2.2; rw [q] at this; exact absurd this (by simp [lnk])
    have hpos := List.length_pos_iff.mpr hne
    have hmC := (lnk_clu hD.2.2).2 _ (getD_mem (show l.length - 1 < l.length by omega))
    have hm1 := hmC.1
    have hm2 := hmC.2
    have hxk := s1.2
    obtain ⟨kf, rfl⟩ : ∃ k, kf = k + 1 := ⟨kf - 1, by omega⟩
    rw [show M_make_310 nf (kf + 1) = M_make_310b (M_make_310 nf kf) nf from rfl]
    unfold M_make_310b
    obtain ⟨arm1, r1, r2, r3⟩ := take_ok (nf := nf) hW hD.1 (by omega) hnf
    rw [← hx] at r1 r2
    obtain ⟨arm2, hr2⟩ : ∃ arm2, arm2 = va_up arm1 30 (upd (arm1 30) l.length (nI x)) := ⟨_, rfl⟩
    have o2 : offA 30 arm1 arm2 := fun j hj => by rw [hr2]; exact va_up_off hj
    have hF2 : FOL arm2 (l ++ [x]) := fun q hq => by
      rw [List.length_append, List.length_singleton] at hq
      rw [hr2, va_up_self, getD_snoc hq]
      unfold upd
      by_cases c : q = l.length
      · rw [if_pos c, if_pos c]
      · rw [if_neg c, if_neg c, r3 30 (by decide)]; exact hF q (by omega)
    have hW2 : RW fm arm2 G (tkD G d x) := r2.off (S := []) (T := [30]) offF.rf o2.as (by simp) (by simp)
    obtain ⟨arm3, u1, u2, u3⟩ := setEntry_ok (nf := nf) hW2 (tk_facts hG hD.1 s1).1 (x := l.getD (l.length - 1) 0) (v := x) (by omega) (by omega) (by omega)
    rw [← adS_ne (p := 0) hne] at u2
    have e1 : arm2 30 (l.length - 1) = nI (l.getD (l.length - 1) 0) := by rw [hF2 _ (by rw [List.length_append]; omega), getD_snoc (by omega), if_neg (by omega)]
    have e2 : arm2 30 l.length = nI x := by rw [hF2 _ (by rw [List.length_append, List.length_singleton]; omega), getD_snoc (by omega), if_pos rfl]
    obtain ⟨fm', arm', t1, t2, t3, t4, t5⟩ := ih (i + 1) kf (l ++ [x]) (va_up fm 32 (nI (l.length + 1))) arm3 (adS G 0 d l x) (u2.upF (by simp)) s5 (by omega) (by omega) (by omega) (by rw [va_up_self, List.length_append, List.length_singleton]) (fun q hq => by rw [u3 30 (by decide)]; exact hF2 q hq)
    refine ⟨fm', arm', ?_, by rw [adD, ← hx]; exact t2, by rw [adD, ← hx]; exact t3, (offF.rf.up (by simp)).tr t4, (((r3.as.mono (by simp)).tr (o2.as.mono (by simp))).tr (u3.as.mono (by simp))).tr t5⟩
    rw [brF (nI_ge (by omega) (by omega)), r1, obnd3_some, h32, zgd (by omega) (by omega), nI_clamp (by omega), bnd_eq, ← hr2, show nI l.length - (1 : Int32) = nI (l.length - 1) from nI_sub (b := 1) (by omega), zgd (by omega) (by omega), zgdc (by omega) (by omega), nI_clamp (by omega), e1, e2, u1, obnd3_some, bnd_eq, bnd_eq, h32, show nI l.length + (1 : Int32) = nI (l.length + 1) from nI_add _ 1, show nI i + (1 : Int32) = nI (i + 1) from nI_add i 1]
    exact t1
