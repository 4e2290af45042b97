/-! the class lists a directory of a sound volume -/
theorem list_loop {nf : Nat} {G : Geo} {d : Nat → Nat} {l : List Nat} {i0 z E : Nat} (hi0 : i0 < 3) (hG : GOK G) (hl : clu G l) (hE : E = en d (sa G l) (l.length * (16 * G.c)) 0) (hok : ∀ t, z ≤ t → t < E → lf d (sa G l) z t = 0) (hdot : ∀ t, t < z → d (sa G l t) = 46 ∧ d (sa G l t + 11) = 16) (hnf : 40000 ≤ nf) : ∀ (m s kf : Nat) (fi : FI) (ar : AR) (ln : LN), s + m = l.length * (16 * G.c) → s ≤ E → m < kf → CW ln fi ar G d → LNC ln G.n → DC fi ar i0 G l → IC fi ar i0 (itm d (sa G l) z s) (fun _ => 0) → (∃ L, LK ln i0 L ∧ (itm d (sa G l) z s).length ≤ L) → fi (22 + 10 * i0) = nI (l.length * (16 * G.c)) → ∃ fi' ar' ln' kc ks, FX2_list_9 nf i0 kf (nI (rn d (sa G l) z s)) (nI s) fi ar ln = some ((), fi', ar', ln', kc, ks) ∧ GR i0 ln ln' kc ks ∧ IC fi' ar' i0 (itm d (sa G l) z E) (fun _ => 0) ∧ fi' (22 + 10 * i0) = nI E ∧ offF [20 + 10 * i0, 22 + 10 * i0] fi fi' ∧ offAs [11 + 4 * i0, 12 + 4 * i0, 13 + 4 * i0] ar ar' ∧ ∃ L, LK ln' i0 L ∧ (itm d (sa G l) z E).length ≤ L := by
  have b := hG.b
  have hS := slots_le hG hl
  have hkl := hl.len
  have hkn : G.k ≤ G.n / 2 := by
    have : G.k * 2 ≤ G.k * G.c := Nat.mul_le_mul_left _ (by omega)
    omega
  have hEz := zl_le (fun t => d (sa G l t)) (l.length * (16 * G.c)) 0
  have hEne : ∀ t, t < E → d (sa G l t) ≠ 0 := fun t ht => zl_ne (fun t => d (sa G l t)) _ 0 t (Nat.zero_le _) (by rw [hE] at ht; exact ht)
  have hE0 : E < l.length * (16 * G.c) → d (sa G l E) = 0 := fun h => by rw [hE]; exact zl_end (fun t => d (sa G l t)) _ 0 (by rw [hE] at h; unfold en at h; omega)
  have hEle : E ≤ l.length * (16 * G.c) := by rw [hE]; unfold en; omega
  intro m
  induction m with
  | zero =>
    intro s kf fi ar ln hs hsE hk hW hLC hD hI hLK h22
    obtain ⟨kf, rfl⟩ : ∃ k, kf = k + 1 := ⟨kf - 1, by omega⟩
    obtain ⟨L, hLK, hLe⟩ := hLK
    have hsE' : s = E := by omega
    refine ⟨fi, ar, ln, 0, 0, ?_, GR.rf hLK, by rw [← hsE']; exact hI, by rw [h22, ← hsE', ← hs]; rfl, offF.rf, offAs.rf, L, hLK, by rw [← hsE']; exact hLe⟩
    rw [show FX2_list_9 nf i0 (kf + 1) = FX2_list_9b (FX2_list_9 nf i0 kf) nf i0 from rfl]
    unfold FX2_list_9b
    rw [hD.2.1, zle (by omega) (by omega), if_pos (by omega)]
  | succ m ih =>
    intro s kf fi ar ln hs hsE hk hW hLC hD hI hLK h22
    obtain ⟨kf, rfl⟩ : ∃ k, kf = k + 1 := ⟨kf - 1, by omega⟩
    obtain ⟨L, hLK, hLe⟩ := hLK
    have hd := hW.1
    have c0 := hLC.1
    have c10 := hLC.2.2.2.2.2.2.1 i0 hi0
    have hsS : s < l.length * (16 * G.c) := by omega
    have hr := rn_le (d := d) (A := sa G l) (z := z) s
    have hil := itm_len d (sa G l) z s
    have hss := slot_in hG hl hsS
    have hsa := slotAddress_eq (nf := nf) (ln := ln) hG hl hD (by omega) hsS
    obtain ⟨p, hp⟩ : ∃ p, p = sa G l s := ⟨_, rfl⟩
    rw [← hp] at hss hsa
    have b0 := hd.lt (show p < 4 * ln 0 by omega)
    have b11 := hd.lt (show p + 11 < 4 * ln 0 by omega)
    have unf : FX2_list_9 nf i0 (kf + 1) (nI (rn d (sa G l) z s)) (nI s) fi ar ln = br (nI (d p) = 0) (some ((), va_up fi (22 + 10 * i0) (nI s), ar, ln, 0, 0)) (br (nI (d p) = 229) (FX2_list_9 nf i0 kf (nI (rn d (sa G l) z s)) (nI (s + 1)) fi ar ln) (br (nI (d (p + 11)) &&& 63 = 15) (FX2_list_9 nf i0 kf (nI (rn d (sa G l) z s + 1)) (nI (s + 1)) fi ar ln) (br (nI (d (p + 11)) &&& 8 = 0) (br (nI (d p) = 46) (FX2_list_9 nf i0 kf 0 (nI (s + 1)) fi ar ln) (obnd6 (FX2_add nf i0 fi ar ln (nI s) (nI (rn d (sa G l) z s)) 0) fun r24 fi21 ar22 ln23 kc25 ks26 => addc kc25 ks26 (FX2_list_9 nf i0 kf 0 (nI (s + 1)) fi21 ar22 ln23))) (FX2_list_9 nf i0 kf 0 (nI (s + 1)) fi ar ln)))) := by
      rw [show FX2_list_9 nf i0 (kf + 1) = FX2_list_9b (FX2_list_9 nf i0 kf) nf i0 from rfl]
      unfold FX2_list_9b FX2_list_111 FX2_list_109 FX2_list_111
      rw [hD.2.1, zle (by omega) (by omega), if_neg (by omega), hsa, obnd3_some, FX3_one_eq hd (by omega), obnd3_some, show nI p + (11 : Int32) = nI (p + 11) from nI_add p 11, FX3_one_eq hd (by omega), obnd3_some, bnd_eq, bnd_eq, bnd_eq, bnd_eq, bnd_eq, nI_1, nI_1]
      rfl
    rw [unf]
    clear unf
    have n46 : ¬ (46 : Nat) = 0 ∧ ¬ (46 : Nat) = 229 := by decide
    by_cases qE : s = E
    · have q0 : d p = 0 := by rw [hp, qE]; exact hE0 (by omega)
      rw [brT (show nI (d p) = (0 : Int32) by rw [q0]; rfl)]
      refine ⟨va_up fi (22 + 10 * i0) (nI s), ar, ln, 0, 0, rfl, GR.rf hLK, ?_, by rw [va_up_self, qE], offF.rf.up (by simp), offAs.rf, L, hLK, by rw [← qE]; exact hLe⟩
      rw [← qE]
      exact ⟨by rw [va_up_off (by omega)]; exact hI.1, hI.2⟩
    have hsE2 : s < E := by omega
    have q0' := hEne s hsE2
    have q0 : ¬ d p = 0 := by rw [hp]; exact q0'
    rw [brF (show ¬ nI (d p) = (0 : Int32) from nI_ne0 (by omega) (by omega))]
    have go : ∀ x2 : Int32, x2 = nI (rn d (sa G l) z (s + 1)) → itm d (sa G l) z (s + 1) = itm d (sa G l) z s → ∃ fi' ar' ln' kc ks, FX2_list_9 nf i0 kf x2 (nI (s + 1)) fi ar ln = some ((), fi', ar', ln', kc, ks) ∧ GR i0 ln ln' kc ks ∧ IC fi' ar' i0 (itm d (sa G l) z E) (fun _ => 0) ∧ fi' (22 + 10 * i0) = nI E ∧ offF [20 + 10 * i0, 22 + 10 * i0] fi fi' ∧ offAs [11 + 4 * i0, 12 + 4 * i0, 13 + 4 * i0] ar ar' ∧ ∃ L, LK ln' i0 L ∧ (itm d (sa G l) z E).length ≤ L := by
      intro x2 hx ei
      rw [hx]
      exact ih (s + 1) kf fi ar ln (by omega) (by omega) (by omega) hW hLC hD (by rw [ei]; exact hI) ⟨L, hLK, by rw [ei]; exact hLe⟩ h22
    by_cases qz : s < z
    · -- a point
      obtain ⟨w1, w2⟩ := hdot s qz
      rw [← hp] at w1 w2
      have nP : ¬ isP d (sa G l) z s := fun w => by have := w.1; omega
      have nE : ¬ isE d (sa G l) z s := fun w => by have := w.1; omega
      rw [w1, w2, brF (by decide), brF (by decide), brT (by decide), brT (show nI 46 = (46 : Int32) from rfl)]
      exact go 0 (by rw [rn, if_neg nP]; rfl) (by rw [itm, if_neg nE])
    have hlf := lf_zero.mp (hok s (by omega) hsE2)
    by_cases q229 : d p = 229
    · have q229' : d (sa G l s) = 229 := by rw [← hp]; exact q229
      have nP : ¬ isP d (sa G l) z s := fun w => w.2.2.1 q229'
      have nE : ¬ isE d (sa G l) z s := fun w => w.2.2.1 q229'
      rw [brT (show nI (d p) = (229 : Int32) by rw [q229]; rfl)]
      exact go _ (by rw [rn, if_neg nP, hlf.1 q229']) (by rw [itm, if_neg nE])
    have q229' : ¬ d (sa G l s) = 229 := by rw [← hp]; exact q229
    rw [brF (show ¬ nI (d p) = (229 : Int32) from fun w => q229 ((uI_eq (b := 229) (by omega) (by omega)).mp w)), zand63 (by omega)]
    by_cases qP : d (p + 11) % 64 = 15
    · have hP : isP d (sa G l) z s := ⟨by omega, q0', q229', by rw [← hp]; exact qP⟩
      have nE : ¬ isE d (sa G l) z s := fun w => w.2.2.2.1 hP.2.2.2
      rw [brT (show nI (d (p + 11) % 64) = (15 : Int32) by rw [qP]; rfl)]
      exact go _ (by rw [rn, if_pos hP]) (by rw [itm, if_neg nE])
    have qP' : ¬ d (sa G l s + 11) % 64 = 15 := by rw [← hp]; exact qP
    have nP : ¬ isP d (sa G l) z s := fun w => qP' w.2.2.2
    have er : rn d (sa G l) z (s + 1) = 0 := by rw [rn, if_neg nP]
    rw [brF (show ¬ nI (d (p + 11) % 64) = (15 : Int32) from fun w => qP ((uI_eq (b := 15) (by omega) (by omega)).mp w)), zbit8 b11]
    by_cases qL : d (p + 11) / 8 % 2 = 1
    · have nE : ¬ isE d (sa G l) z s := fun w => by have h1 := w.2.2.2.2; rw [← hp, qL] at h1; exact absurd h1 (by decide)
      rw [qL, brF (by decide)]
      exact go 0 (by rw [er]; rfl) (by rw [itm, if_neg nE])
    · have qL0 : d (p + 11) / 8 % 2 = 0 := (Nat.mod_two_eq_zero_or_one _).resolve_right qL
      have hEs : isE d (sa G l) z s := ⟨by omega, q0', q229', qP', by rw [← hp]; exact qL0⟩
      have ei : itm d (sa G l) z (s + 1) = itm d (sa G l) z s ++ [(s, rn d (sa G l) z s)] := by rw [itm, if_pos hEs]
      have h46 : d p ≠ 46 := by
        intro w
        have hsh := (hlf.2.1 hEs).1.2.2.1
        have := (hsh.2 0 (by decide) (by rw [Nat.add_zero, ← hp, w]; decide)).1
        rw [Nat.add_zero, ← hp, w] at this
        exact (sgn_lt this).2.2.1 rfl
      have fb : (itm d (sa G l) z s).length < 16384 := by clear hlf; omega
      have fs1 : s + 1 + m = l.length * (16 * G.c) := by clear hlf; omega
      have fs2 : s + 1 ≤ E := hsE2
      have fk : m < kf := by clear hlf; omega
      rw [qL0, brT (show nI (0 * 8) = (0 : Int32) from rfl), brF (show ¬ nI (d p) = (46 : Int32) from fun w => h46 ((uI_eq (b := 46) (by clear hlf; omega) (by decide)).mp w))]
      obtain ⟨fi1, ar1, ln1, k1, s1, u1, u2, u3, u4, u5, L', u6, u7⟩ := add_ok (nf := nf) hI hLK hLe fb s (rn d (sa G l) z s)
      have u1' : FX2_add nf i0 fi ar ln (nI s) (nI (rn d (sa G l) z s)) 0 = _ := u1
      rw [u1', obnd6_some]
      have hW1 : CW ln1 fi1 ar1 G d := CX.gr (hW.off u3 u4 (fun j hj => by simp at hj ⊢; omega) (fun j hj => by simp at hj; omega)) u5 hi0
      obtain ⟨fi', ar', ln', kc, ks, g1, g2, g3, g4, g5, g6, g7⟩ := ih (s + 1) kf fi1 ar1 ln1 fs1 fs2 fk hW1 (hLC.gr u5 hi0) (hD.off u3 u4 (fun j hj => by simp at hj; omega) (fun j hj => by simp at hj; omega)) (by rw [ei]; exact u2) ⟨L', u6, by rw [ei, List.length_append]; exact u7⟩ (by rw [u3 _ (by simp)]; exact h22)
      rw [er] at g1
      have g1' : FX2_list_9 nf i0 kf 0 (nI (s + 1)) fi1 ar1 ln1 = _ := g1
      rw [g1', addc_some]
      exact ⟨fi', ar', ln', k1 + kc, s1 + ks, rfl, u5.tr g2, g3, g4, (u3.mono (by simp)).tr g5, u4.tr g6, g7⟩
theorem list_ok {nf : Nat} {ln : LN} {fi : FI} {ar : AR} {G : Geo} {d : Nat → Nat} {i0 f : Nat} (hi0 : i0 < 3) (hW : CW ln fi ar G d) (hLC : LNC ln G.n) {L : Nat} (hLK : LK ln i0 L) (hD : DOK G d f) (hnf : 40000 ≤ nf) : ∃ fi' ar' ln' kc ks, FX2_list nf i0 fi ar ln (nI f) = some ((), fi', ar', ln', kc, ks) ∧ GR i0 ln ln' kc ks ∧ DC fi' ar' i0 G (cl G d f) ∧ IC fi' ar' i0 (dI G d f) (fun _ => 0) ∧ fi' (22 + 10 * i0) = nI (dE G d f) ∧ offF [20 + 10 * i0, 21 + 10 * i0, 22 + 10 * i0, 23 + 10 * i0, 24 + 10 * i0, 25 + 10 * i0] fi fi' ∧ offAs [10 + 4 * i0, 11 + 4 * i0, 12 + 4 * i0, 13 + 4 * i0] ar ar' ∧ ∃ L, LK ln' i0 L ∧ (dI G d f).length ≤ L := by
  obtain ⟨fi1, ar1, r1, r2, r3, r4, r5, r6⟩ := openChain_ok (nf := nf) hi0 hW hD.1 (hLC.2.2.2.2.2.2.1 i0 hi0) (by omega)
  have hW1 : CW ln fi1 ar1 G d := hW.off r5 r6.as (fun j hj => by simp at hj ⊢; omega) (fun j hj => by simp at hj; omega)
  have hlc := lnk_clu hD.1
  have hS := slots_le hW.2.2.1 hlc
  have hlp := lnk_pos hD.1
  have b := hW.2.2.1.b
  have hdot : ∀ t, t < zf G f → d (sa G (cl G d f) t) = 46 ∧ d (sa G (cl G d f) t + 11) = 16 := by
    intro t ht
    rcases zf_cases G f with w | w
    · omega
    · obtain ⟨g1, p, g2⟩ := hD.2.1 w.1
      rcases (show t = 0 ∨ t = 1 by omega) with e | e
      · rw [e]; exact ⟨g1.1 0 (by decide), g1.2.1⟩
      · rw [e]; exact ⟨g2.1 0 (by decide), g2.2.1⟩
  have g := list_loop (nf := nf) (d := d) (z := zf G f) (E := dE G d f) hi0 hW.2.2.1 hlc rfl (fun t t1 t2 => (hD.2.2.1 t t1 t2).1) hdot hnf ((cl G d f).length * (16 * G.c)) 0 nf fi1 ar1 ln (by omega) (Nat.zero_le _) (by omega) hW1 hLC r2 ⟨r3, fun q hq => absurd hq (by simp [itm])⟩ ⟨L, hLK, by simp [itm]⟩ r4
  obtain ⟨fi', ar', ln', kc, ks, g1, g2, g3, g4, g5, g6, g7⟩ := g
  refine ⟨fi', ar', ln', kc, ks, ?_, g2, r2.off g5 g6 (fun j hj => by simp at hj; omega) (fun j hj => by simp at hj; omega), g3, g4, (r5.mono (fun j hj => by simp at hj ⊢; omega)).tr (g5.mono (fun j hj => by simp at hj ⊢; omega)), offAs.tr (fun j hj => r6 j (fun w => hj (by rw [w]; simp))) (fun j hj => g6 j (fun w => hj (by simp at w ⊢; omega))), g7⟩
  unfold FX2_list
  rw [r1, obnd3_some]
  exact g1
