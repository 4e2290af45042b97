/-! the class judges an entry that is no label -/
theorem CX.gr {ln ln' : LN} {fi : FI} {ar : AR} {G : Geo} {d : Nat → Nat} (h : CW ln fi ar G d) {kc ks i : Nat} (hg : GR i ln ln' kc ks) (hi : i < 3) : CW ln' fi ar G d := by
  have e : ln' 0 = ln 0 := hg.off (by omega) (by omega) (by omega)
  refine ⟨⟨by rw [e]; exact h.1.1, fun p hp => h.1.2 p (by rw [e] at hp; exact hp)⟩, h.2.1, h.2.2.1, by rw [e]; exact h.2.2.2⟩
theorem entry_item {nf : Nat} {ln : LN} {fi : FI} {ar : AR} {G : Geo} {d : Nat → Nat} {l : List Nat} {its : List (Nat × Nat)} {s np mb : Nat} (h : CX ln fi ar G d l its) (hl : clu G l) (hs : s < l.length * (16 * G.c)) (hnps : np ≤ s) (hmb : mb < 2) (hits : ∀ e, e ∈ its → e.1 < l.length * (16 * G.c) ∧ e.2 ≤ 20 ∧ e.2 ≤ e.1) (hlen : its.length < 16384) (hL : d (sa G l s + 11) / 8 % 2 = 0) (hnf : 40000 ≤ nf) : ∃ fi' ar' ln' kc ks r, FX0_entryFault nf fi ar ln (nI s) (nI (sa G l s)) (nI np) (nI mb) = some (nI r, fi', ar', ln', kc, ks) ∧ ((r = 4 ∧ ¬ e3 d (sa G l) s np) ∨ (r = 5 ∧ e3 d (sa G l) s np ∧ ∃ e, e ∈ its ∧ twn d (sa G l) s np e) ∨ (r = 0 ∧ e3 d (sa G l) s np ∧ (¬ ∃ e, e ∈ its ∧ twn d (sa G l) s np e) ∧ CX ln' fi' ar' G d l (its ++ [(s, np)]))) ∧ GR 2 ln ln' kc ks ∧ offF [40, 62, 63] fi fi' ∧ offAs [19, 20, 21, 32, 33, 42] ar ar' := by
  obtain ⟨hW, hLC, hD, hI, L, hLK, hleL⟩ := h
  have hd := hW.1
  have hl0 := hd.1
  have c0 := hLC.1
  have hG := hW.2.2.1
  have b := hG.b
  have hkl := hl.len
  have hkn : G.k ≤ G.n / 2 := by
    have : G.k * 2 ≤ G.k * G.c := Nat.mul_le_mul_left _ (by omega)
    omega
  have c18 := hLC.2.2.2.2.2.2.1 2 (by omega)
  have c32 := hLC.2.2.2.2.2.2.2.1 2 (by omega)
  have hss := slot_in hG hl hs
  obtain ⟨p, hp⟩ : ∃ p, p = sa G l s := ⟨_, rfl⟩
  have b11 := hd.lt (show p + 11 < 4 * ln 0 by omega)
  have f28 := foC_lt hd (show p + 28 + 3 < 4 * ln 0 by omega)
  obtain ⟨ar1, r1, r2, r3⟩ := FX7_load_ok (nf := nf) (fi := fi) (i0 := 1) (p := p) hd (hLC.2.2.2.2.2.2.2.2 1 (by omega)).1 (by omega) (by omega)
  have o1 : offAs [19, 20, 21, 32, 33, 42] ar ar1 := fun j hj => r3 j (fun e => hj (by rw [e]; simp))
  have hW1 : CW ln fi ar1 G d := hW.off offF.rf r3.as (S := []) (by simp) (by simp)
  have hD1 : DC fi ar1 2 G l := hD.off offF.rf r3.as (S := []) (by simp) (by simp)
  have hI1 : IC fi ar1 2 its (hsI d (sa G l)) := hI.off offF.rf r3.as (S := []) (by simp) (by simp)
  have hd1 := hW1.1
  have hshw := FX7_asTold_eq (nf := nf) (fi := fi) r2 False (by omega)
  rw [if_neg (fun w : False => w)] at hshw
  have unf : FX0_entryFault nf fi ar ln (nI s) (nI (sa G l s)) (nI np) (nI mb) = FX0_entryFault_26 nf (nI s) (nI p) (nI np) (nI mb) (nI (d (p + 11))) 0 fi ar ln := by
    unfold FX0_entryFault
    rw [← hp] at hL ⊢
    simp (disch := first | omega | decide) only [zlt, zle, zeq, zltl, zllt, zlel, zlle, zeql, zll, ↓zlt, ↓zle, ↓zeq, ↓zltl, ↓zllt, ↓zlel, ↓zlle, ↓zeql, ↓zll, ↓if_pos, ↓if_neg, if_pos, if_neg, ↓zgd, zgd, zgdc, ↓zgd0, zgd0c, zcl0, ↓zbit, zbitc, ↓zbit1, ↓zbit0, nI_clamp, zaddl, zladd, zsubl, zlsub, zmull, zlmul, zdivl, nI_1, nI_add, nI_mulL, zand1, zand3, zand15, zand31, zand63, zand255, zand65535, zshr1, zshl7, zshl8, zshl9, zbit8, zbit16, ↓bnd_eq, bnd_eq, obnd_some, obnd3_some, obnd6_some, FX3_one_eq hd, hL]
  rw [unf]
  -- behind the short name and the size
  have k148 : d (p + 11) ≤ 63 → shOK d p False → (isDr d p → fo d (p + 28) = 0) → ∃ fi' ar' ln' kc ks r, FX0_entryFault_148 nf (nI s) (nI p) (nI np) fi ar1 ln = some (nI r, fi', ar', ln', kc, ks) ∧ ((r = 4 ∧ ¬ e3 d (sa G l) s np) ∨ (r = 5 ∧ e3 d (sa G l) s np ∧ ∃ e, e ∈ its ∧ twn d (sa G l) s np e) ∨ (r = 0 ∧ e3 d (sa G l) s np ∧ (¬ ∃ e, e ∈ its ∧ twn d (sa G l) s np e) ∧ CX ln' fi' ar' G d l (its ++ [(s, np)]))) ∧ GR 2 ln ln' kc ks ∧ offF [40, 62, 63] fi fi' ∧ offAs [19, 20, 21, 32, 33, 42] ar1 ar' := by
    intro a1 a2 a3
    have hpt := partsAsTold_eq (nf := nf) (fi := fi) (np := np) hW1 hl hLC hD1 hs hnps (by rw [← hp]; exact r2) (by omega)
    unfold FX0_entryFault_148 FX0_entryFault_157 FX0_entryFault_197
    rw [hpt, obnd3_some]
    by_cases q1 : ptOK d (sa G l) s np (smS d (sa G l s) 11)
    · rw [if_pos q1, brF (by decide)]
      have hnp := q1.1
      obtain ⟨fi2, ar2, s1, s2, s3, s4, s5⟩ := read_ok (nf := nf) (i1 := 2) (j := 2) hG hd1 hl (by omega) (by omega) (by omega) c32 c0 hnp hnps hs (by omega) hD1
      have hnmb := nm_of hG hd1 c0 hl hs hnp
      rw [s1, obnd3_some, NB_asTold s2 hnmb.2 c32 hnmb.1 (by omega), obnd3_some]
      have o2f : offF [40, 62, 63] fi fi2 := s4.mono (by simp)
      have o2a : offAs [19, 20, 21, 32, 33, 42] ar1 ar2 := fun j hj => s5 j (fun e => hj (by rw [e]; simp))
      by_cases q2 : nmOK (nm d (sa G l) s np)
      · rw [if_pos q2, brF (by decide)]
        -- the last step
        have k199 : (0 < np → flOK d (sa G l) s np) → ∃ fi' ar' ln' kc ks r, FX0_entryFault_199 nf (nI s) (nI p) (nI np) fi2 ar2 ln = some (nI r, fi', ar', ln', kc, ks) ∧ ((r = 4 ∧ ¬ e3 d (sa G l) s np) ∨ (r = 5 ∧ e3 d (sa G l) s np ∧ ∃ e, e ∈ its ∧ twn d (sa G l) s np e) ∨ (r = 0 ∧ e3 d (sa G l) s np ∧ (¬ ∃ e, e ∈ its ∧ twn d (sa G l) s np e) ∧ CX ln' fi' ar' G d l (its ++ [(s, np)]))) ∧ GR 2 ln ln' kc ks ∧ offF [40, 62, 63] fi fi' ∧ offAs [19, 20, 21, 32, 33, 42] ar1 ar' := by
          intro q3
          have he3 : e3 d (sa G l) s np := ⟨by rw [← hp]; exact a1, by rw [← hp]; exact a2, by rw [← hp]; exact a3, q1, q2, q3⟩
          have hW2 : CW ln fi2 ar2 G d := hW1.off s4 s5.as (by simp) (by simp)
          have hD2 : DC fi2 ar2 2 G l := hD1.off s4 s5.as (by simp) (by simp)
          have hI2 : IC fi2 ar2 2 its (hsI d (sa G l)) := hI1.off s4 s5.as (by simp) (by simp)
          obtain ⟨fi3, ar3, r, t1, t2, t3, t4⟩ := isTwin_eq (nf := nf) hW2 hl hLK hLC hleL hs hnp hits hD2 hI2 s2 hnf
          have o3f : offF [40, 62, 63] fi fi3 := o2f.tr (t3.mono (by simp))
          have o3a : offAs [19, 20, 21, 32, 33, 42] ar1 ar3 := o2a.tr (fun j hj => t4 j (fun e => hj (by simp at e; rw [e]; simp)))
          unfold FX0_entryFault_199
          rw [hash_eq s2 hnmb.2 c32 hnmb.1 (by omega), obnd3_some]
          have t1' : FX0_isTwin nf ln fi2 ar2 (nI p) (hsh (nm d (sa G l) s np) (nI (nm d (sa G l) s np).length)) = some (r, fi3, ar3) := by rw [hp]; exact t1
          rw [t1', obnd3_some]
          rcases t2 with ⟨rfl, t2⟩ | ⟨rfl, t2⟩
          · rw [brF (by decide)]
            exact ⟨fi3, ar3, ln, 0, 0, 5, rfl, Or.inr (Or.inl ⟨rfl, he3, t2⟩), GR.rf hLK, o3f, o3a⟩
          · rw [brT rfl]
            have hW3 : CW ln fi3 ar3 G d := hW2.off t3 t4 (by simp) (by simp)
            have hD3 : DC fi3 ar3 2 G l := hD2.off t3 t4 (by simp) (by simp)
            have hI3 : IC fi3 ar3 2 its (hsI d (sa G l)) := hI2.off t3 t4 (by simp) (by simp)
            obtain ⟨fi4, ar4, ln4, kc, ks, u1, u2, u3, u4, u5, L', u6, u7⟩ := add_ok (nf := nf) hI3 hLK hleL hlen s np
            have u1' : FX2_add nf 2 fi3 ar3 ln (nI s) (nI np) (hsh (nm d (sa G l) s np) (nI (nm d (sa G l) s np).length)) = some ((), fi4, ar4, ln4, kc, ks) := u1
            rw [u1', obnd6_some, addc_some]
            refine ⟨fi4, ar4, ln4, kc + 0, ks + 0, 0, rfl, Or.inr (Or.inr ⟨rfl, he3, t2, ?_⟩), u5, o3f.tr (u3.mono (by simp)), o3a.tr (fun j hj => u4 j (fun e => hj (by simp at e ⊢; omega)))⟩
            refine ⟨CX.gr (hW3.off u3 u4 (by simp) (by simp)) u5 (by omega), hLC.gr u5 (by omega), hD3.off u3 u4 (by simp) (by simp), u2, L', u6, ?_⟩
            rw [List.length_append]; exact u7
        by_cases q0 : np = 0
        · obtain ⟨fi', ar', ln', kc, ks, r, w1, w2⟩ := k199 (fun w => by omega)
          refine ⟨fi', ar', ln', kc, ks, r, ?_, w2⟩
          rw [← w1]
          simp (disch := first | omega | decide) only [zlt, zle, zeq, zltl, zllt, zlel, zlle, zeql, zll, ↓zlt, ↓zle, ↓zeq, ↓zltl, ↓zllt, ↓zlel, ↓zlle, ↓zeql, ↓zll, ↓if_pos, ↓if_neg, if_pos, if_neg, ↓zgd, zgd, zgdc, ↓zgd0, zgd0c, zcl0, ↓zbit, zbitc, ↓zbit1, ↓zbit0, nI_clamp, zaddl, zladd, zsubl, zlsub, zmull, zlmul, zdivl, nI_1, nI_add, nI_mulL, zand1, zand3, zand15, zand31, zand63, zand255, zand65535, zshr1, zshl7, zshl8, zshl9, zbit8, zbit16, ↓bnd_eq, bnd_eq, obnd_some, obnd3_some, obnd6_some]
        · have hfl := fills_eq (nf := nf) (f := nU d (sa G l) s) s2 (by unfold nm; rw [if_neg q0, List.length_map, List.length_range]; have := (zl_le (nU d (sa G l) s) (13 * np) 0).2; omega) c32 hnp (fun u hu => ⟨s3 u hu, nU_lt (fun i hi => hd1.lt (by have := slot_in hG hl (show s - 1 - u / 13 < l.length * (16 * G.c) by omega); omega))⟩) (by omega)
          by_cases q3 : flOK d (sa G l) s np
          · rw [if_pos q3] at hfl
            obtain ⟨fi', ar', ln', kc, ks, r, w1, w2⟩ := k199 (fun _ => q3)
            refine ⟨fi', ar', ln', kc, ks, r, ?_, w2⟩
            rw [← w1]
            simp (disch := first | omega | decide) only [zlt, zle, zeq, zltl, zllt, zlel, zlle, zeql, zll, ↓zlt, ↓zle, ↓zeq, ↓zltl, ↓zllt, ↓zlel, ↓zlle, ↓zeql, ↓zll, ↓if_pos, ↓if_neg, if_pos, if_neg, ↓zgd, zgd, zgdc, ↓zgd0, zgd0c, zcl0, ↓zbit, zbitc, ↓zbit1, ↓zbit0, nI_clamp, zaddl, zladd, zsubl, zlsub, zmull, zlmul, zdivl, nI_1, nI_add, nI_mulL, zand1, zand3, zand15, zand31, zand63, zand255, zand65535, zshr1, zshl7, zshl8, zshl9, zbit8, zbit16, ↓bnd_eq, bnd_eq, obnd_some, obnd3_some, obnd6_some, hfl]
          · rw [if_neg q3] at hfl
            refine ⟨fi2, ar2, ln, 0, 0, 4, ?_, Or.inl ⟨rfl, fun w => q3 (w.2.2.2.2.2 (by omega))⟩, GR.rf hLK, o2f, o2a⟩
            simp (disch := first | omega | decide) only [zlt, zle, zeq, zltl, zllt, zlel, zlle, zeql, zll, ↓zlt, ↓zle, ↓zeq, ↓zltl, ↓zllt, ↓zlel, ↓zlle, ↓zeql, ↓zll, ↓if_pos, ↓if_neg, if_pos, if_neg, ↓zgd, zgd, zgdc, ↓zgd0, zgd0c, zcl0, ↓zbit, zbitc, ↓zbit1, ↓zbit0, nI_clamp, zaddl, zladd, zsubl, zlsub, zmull, zlmul, zdivl, nI_1, nI_add, nI_mulL, zand1, zand3, zand15, zand31, zand63, zand255, zand65535, zshr1, zshl7, zshl8, zshl9, zbit8, zbit16, ↓bnd_eq, bnd_eq, obnd_some, obnd3_some, obnd6_some, hfl]
            rfl
      · rw [if_neg q2, brT rfl]
        exact ⟨fi2, ar2, ln, 0, 0, 4, rfl, Or.inl ⟨rfl, fun w => q2 w.2.2.2.2.1⟩, GR.rf hLK, o2f, o2a⟩
    · rw [if_neg q1, brT rfl]
      exact ⟨fi, ar1, ln, 0, 0, 4, rfl, Or.inl ⟨rfl, fun w => q1 w.2.2.2.1⟩, GR.rf hLK, offF.rf, offAs.rf⟩
  by_cases q1 : d (p + 11) ≤ 63
  · by_cases q2 : shOK d p False
    · rw [if_pos q2] at hshw
      by_cases q3 : d (p + 11) / 16 % 2 = 0
      · obtain ⟨fi', ar', ln', kc, ks, r, w1, w2, w3, w4, w5⟩ := k148 q1 q2 (fun w => by have : d (p + 11) / 16 % 2 = 1 := w; omega)
        refine ⟨fi', ar', ln', kc, ks, r, ?_, w2, w3, w4, o1.tr w5⟩
        rw [← w1]
        unfold FX0_entryFault_26
        simp (disch := first | omega | decide) only [zlt, zle, zeq, zltl, zllt, zlel, zlle, zeql, zll, ↓zlt, ↓zle, ↓zeq, ↓zltl, ↓zllt, ↓zlel, ↓zlle, ↓zeql, ↓zll, ↓if_pos, ↓if_neg, if_pos, if_neg, ↓zgd, zgd, zgdc, ↓zgd0, zgd0c, zcl0, ↓zbit, zbitc, ↓zbit1, ↓zbit0, nI_clamp, zaddl, zladd, zsubl, zlsub, zmull, zlmul, zdivl, nI_1, nI_add, nI_mulL, zand1, zand3, zand15, zand31, zand63, zand255, zand65535, zshr1, zshl7, zshl8, zshl9, zbit8, zbit16, ↓bnd_eq, bnd_eq, obnd_some, obnd3_some, obnd6_some, r1, hshw]
      · have q3' : d (p + 11) / 16 % 2 = 1 := by omega
        by_cases q4 : fo d (p + 28) = 0
        · obtain ⟨fi', ar', ln', kc, ks, r, w1, w2, w3, w4, w5⟩ := k148 q1 q2 (fun _ => q4)
          refine ⟨fi', ar', ln', kc, ks, r, ?_, w2, w3, w4, o1.tr w5⟩
          rw [← w1]
          unfold FX0_entryFault_26
          simp (disch := first | omega | decide) only [zlt, zle, zeq, zltl, zllt, zlel, zlle, zeql, zll, ↓zlt, ↓zle, ↓zeq, ↓zltl, ↓zllt, ↓zlel, ↓zlle, ↓zeql, ↓zll, ↓if_pos, ↓if_neg, if_pos, if_neg, ↓zgd, zgd, zgdc, ↓zgd0, zgd0c, zcl0, ↓zbit, zbitc, ↓zbit1, ↓zbit0, nI_clamp, zaddl, zladd, zsubl, zlsub, zmull, zlmul, zdivl, nI_1, nI_add, nI_mulL, zand1, zand3, zand15, zand31, zand63, zand255, zand65535, zshr1, zshl7, zshl8, zshl9, zbit8, zbit16, ↓bnd_eq, bnd_eq, obnd_some, obnd3_some, obnd6_some, r1, hshw, FX3_four_eq hd1]
        · refine ⟨fi, ar1, ln, 0, 0, 4, ?_, Or.inl ⟨rfl, fun w => q4 (by have := w.2.2.1; rw [← hp] at this; exact this q3')⟩, GR.rf hLK, offF.rf, o1⟩
          unfold FX0_entryFault_26 FX0_entryFault_157
          simp (disch := first | omega | decide) only [zlt, zle, zeq, zltl, zllt, zlel, zlle, zeql, zll, ↓zlt, ↓zle, ↓zeq, ↓zltl, ↓zllt, ↓zlel, ↓zlle, ↓zeql, ↓zll, ↓if_pos, ↓if_neg, if_pos, if_neg, ↓zgd, zgd, zgdc, ↓zgd0, zgd0c, zcl0, ↓zbit, zbitc, ↓zbit1, ↓zbit0, nI_clamp, zaddl, zladd, zsubl, zlsub, zmull, zlmul, zdivl, nI_1, nI_add, nI_mulL, zand1, zand3, zand15, zand31, zand63, zand255, zand65535, zshr1, zshl7, zshl8, zshl9, zbit8, zbit16, ↓bnd_eq, bnd_eq, obnd_some, obnd3_some, obnd6_some, r1, hshw, FX3_four_eq hd1]
          rfl
    · rw [if_neg q2] at hshw
      refine ⟨fi, ar1, ln, 0, 0, 4, ?_, Or.inl ⟨rfl, fun w => q2 (by have := w.2.1; rw [← hp] at this; exact this)⟩, GR.rf hLK, offF.rf, o1⟩
      unfold FX0_entryFault_26 FX0_entryFault_59
      simp (disch := first | omega | decide) only [zlt, zle, zeq, zltl, zllt, zlel, zlle, zeql, zll, ↓zlt, ↓zle, ↓zeq, ↓zltl, ↓zllt, ↓zlel, ↓zlle, ↓zeql, ↓zll, ↓if_pos, ↓if_neg, if_pos, if_neg, ↓zgd, zgd, zgdc, ↓zgd0, zgd0c, zcl0, ↓zbit, zbitc, ↓zbit1, ↓zbit0, nI_clamp, zaddl, zladd, zsubl, zlsub, zmull, zlmul, zdivl, nI_1, nI_add, nI_mulL, zand1, zand3, zand15, zand31, zand63, zand255, zand65535, zshr1, zshl7, zshl8, zshl9, zbit8, zbit16, ↓bnd_eq, bnd_eq, obnd_some, obnd3_some, obnd6_some, r1, hshw]
      rfl
  · refine ⟨fi, ar1, ln, 0, 0, 4, ?_, Or.inl ⟨rfl, fun w => q1 (by have := w.1; rw [← hp] at this; exact this)⟩, GR.rf hLK, offF.rf, o1⟩
    unfold FX0_entryFault_26 FX0_entryFault_59
    simp (disch := first | omega | decide) only [zlt, zle, zeq, zltl, zllt, zlel, zlle, zeql, zll, ↓zlt, ↓zle, ↓zeq, ↓zltl, ↓zllt, ↓zlel, ↓zlle, ↓zeql, ↓zll, ↓if_pos, ↓if_neg, if_pos, if_neg, ↓zgd, zgd, zgdc, ↓zgd0, zgd0c, zcl0, ↓zbit, zbitc, ↓zbit1, ↓zbit0, nI_clamp, zaddl, zladd, zsubl, zlsub, zmull, zlmul, zdivl, nI_1, nI_add, nI_mulL, zand1, zand3, zand15, zand31, zand63, zand255, zand65535, zshr1, zshl7, zshl8, zshl9, zbit8, zbit16, ↓bnd_eq, bnd_eq, obnd_some, obnd3_some, obnd6_some, r1]
    rfl
