/-! the model scans a folder -/
theorem fol_copy {nf : Nat} {l : List Nat} {i : Nat} (hl : l.length ≤ 560) : ∀ (m j kf : Nat) (fi : FI) (ar : AR), fi 31 = nI l.length → (∀ t, t < l.length → ar 29 t = nI (l.getD t 0)) → j + m = l.length → m < kf → (∀ t, t < j → ar 30 t = nI (l.getD t 0)) → ∃ ar', M_scan_20 nf kf (nI i) (nI j) fi ar = M_scan_66 nf nf (nI i) (nI 0) (va_up (va_up (va_up fi 32 (nI l.length)) 36 (nI 0)) 37 (nI 0)) ar' ∧ FOL ar' l ∧ offAs [30] ar ar' := by
  intro m
  induction m with
  | zero =>
    intro j kf fi ar h31 h29 hj hk h30
    obtain ⟨kf, rfl⟩ : ∃ k, kf = k + 1 := ⟨kf - 1, by omega⟩
    refine ⟨ar, ?_, fun t ht => h30 t (by omega), offAs.rf⟩
    rw [show M_scan_20 nf (kf + 1) = M_scan_20b (M_scan_20 nf kf) nf from rfl]
    unfold M_scan_20b
    rw [h31, zle (by omega) (by omega), if_pos (by omega), bnd_eq, bnd_eq, bnd_eq]
    rfl
  | succ m ih =>
    intro j kf fi ar h31 h29 hj hk h30
    obtain ⟨kf, rfl⟩ : ∃ k, kf = k + 1 := ⟨kf - 1, by omega⟩
    obtain ⟨ar', r1, r2, r3⟩ := ih (j + 1) kf fi (va_up ar 30 (upd (ar 30) j (nI (l.getD j 0)))) h31 (fun t ht => by rw [va_up_off (by decide)]; exact h29 t ht) (by omega) (by omega) (fun t ht => by
      rw [va_up_self]; unfold upd
      by_cases e : t = j
      · rw [if_pos e, e]
      · rw [if_neg e]; exact h30 t (by omega))
    refine ⟨ar', ?_, r2, (offAs.rf.up (by simp)).tr r3⟩
    rw [← r1]
    rw [show M_scan_20 nf (kf + 1) = M_scan_20b (M_scan_20 nf kf) nf from rfl]
    unfold M_scan_20b
    rw [h31, zle (by omega) (by omega), if_neg (by omega), zgd (by omega) (by omega), zgd (by omega) (by omega), nI_clamp (by omega), h29 j (by omega), bnd_eq, bnd_eq, nI_1]
/-- folder q of the model begins with F -/
def BG (fi : FI) (ar : AR) (d : Nat → Nat) (r q F : Nat) : Prop := (q = 0 ∧ F = r ∧ fi 11 = nI r) ∨ (q ≠ 0 ∧ ∃ p, ar 20 q = nI p ∧ p + 32 ≤ 524288 ∧ F = fcl d p)
theorem beginOf_eq {nf : Nat} {fi : FI} {ar : AR} {d : Nat → Nat} {r q F : Nat} (hd : RD ar d) (hq : q < 16400) (h : BG fi ar d r q F) : M_beginOf nf fi ar (nI q) = some (nI F, fi, ar) := by
  unfold M_beginOf M_beginOf_21
  rcases h with ⟨h1, h2, h3⟩ | ⟨h1, p, h2, h3, h4⟩
  · rw [h1, brT (show nI 0 = (0 : Int32) from rfl), h3, h2]
  · rw [brF (nI_ne0 (by omega) (by omega)), zgd (by omega) (by omega), nI_clamp (by omega), h2, M_firstOf_eq hd (by omega), obnd3_some, h4]
theorem BG.off {fi fi' : FI} {ar ar' : AR} {d : Nat → Nat} {r q F : Nat} (h : BG fi ar d r q F) (h11 : fi' 11 = fi 11) (h20 : ar' 20 q = ar 20 q) : BG fi' ar' d r q F := by
  unfold BG at *
  rw [h11, h20]; exact h
theorem BG.lt {fi : FI} {ar : AR} {G : Geo} {d : Nat → Nat} {q F : Nat} (hd : RD ar d) (hG : GOK G) (h : BG fi ar d G.r q F) : F < 4294967296 := by
  rcases h with ⟨_, h2, _⟩ | ⟨_, p, _, h3, h4⟩
  · have := hG.2.1; have := hG.b; omega
  · have h1 := twR_lt hd (show p + 20 + 1 < 524288 by omega)
    have h2 := twR_lt hd (show p + 26 + 1 < 524288 by omega)
    rw [h4]; unfold fcl; omega
theorem M_scan_ok {nf : Nat} {fi : FI} {ar : AR} {G : Geo} {d : Nat → Nat} {i b U f par : Nat} {ms : List Nat} (h : RW fi ar G d) (hi : i < 16400) (hbg : BG fi ar d G.r i f) (hpar : i ≠ 0 → ∃ q, q < 16400 ∧ ar 23 i = nI q ∧ ((q = 0 ∧ par = 0) ∨ (q ≠ 0 ∧ BG fi ar d G.r q par))) (hir : f ∉ ms → (i = 0 ↔ f = G.r)) (h17 : fi 17 = nI b) (h18 : fi 18 = nI U) (h25 : ar 25 i = nI b) (h24 : ar 24 i = nI 0) (hm : mkR ar ms) (hc : clu G ms) (h16 : fi 16 = nI 0) (hLB : i = 0 → LBL fi 0) (hb : b ≤ 1 + 16 * G.c * ms.length) (hU : U ≤ 13 * (16 * G.c * ms.length)) (hparb : par < 4294967296) (hnf : 40000 ≤ nf) : ∃ fi' ar', M_scan nf fi ar (nI i) = some ((), fi', ar') ∧ offF [16, 17, 18, 31, 32, 33, 35, 36, 37, 38] fi fi' ∧ offAs [19, 20, 21, 22, 23, 24, 26, 27, 28, 29, 30, 34] ar ar' ∧ KP i b U ar ar' ∧ ((chS G d (G.k + 1) ms f = none ∧ fi' 16 = nI 3) ∨ ∃ l, chS G d (G.k + 1) ms f = some l ∧ fi' 16 = nI (dirF G d l (l ++ ms) f par).1 ∧ ((dirF G d l (l ++ ms) f par).1 = 0 → ∃ U', MX fi' ar' G d (sa G l) b i (itm d (sa G l) (zf G f) (en d (sa G l) (l.length * (16 * G.c)) 0)) U' (dirF G d l (l ++ ms) f par).2.1 ∧ U' ≤ U + 13 * (l.length * (16 * G.c)) ∧ U ≤ U')) := by
  have hG := h.2.2
  have b' := hG.b
  have hfb := hbg.lt h.1 hG
  have fl := h.follows (nf := nf) (x := f) (by omega) hc hm (by omega)
  unfold M_scan
  rw [beginOf_eq h.1 hi hbg, obnd3_some]
  cases hch : chS G d (G.k + 1) ms f with
  | none =>
    rw [hch] at fl
    obtain ⟨fi1, ar1, r1, r2, r3⟩ := fl
    rw [r1, obnd3_some, brT rfl, bnd_eq]
    exact ⟨va_up fi1 16 3, ar1, rfl, (r2.mono (by simp)).up (by simp), fun j hj => r3 j (fun w => hj (by simp at w ⊢; omega)), KP.off r3 (by simp), Or.inl ⟨rfl, va_up_self _ _ _⟩⟩
  | some l =>
    rw [hch] at fl
    obtain ⟨fi1, ar1, r1, r2, r3, r4, r5, r6, r7⟩ := fl
    obtain ⟨hl, hdis⟩ := chS_iff.mp hch
    have hlc := lnk_clu hl
    have hll := hlc.len
    have hlp := lnk_pos hl
    have hS16 : 16 ≤ l.length * (16 * G.c) := by
      have : 1 * 16 ≤ l.length * (16 * G.c) := Nat.mul_le_mul hlp (by omega)
      omega
    have hlen := r7.len
    rw [List.length_append] at hlen
    have hsum : 16 * G.c * ms.length + l.length * (16 * G.c) ≤ 16384 := by
      have e1 : 16 * G.c * ms.length + l.length * (16 * G.c) = (l.length + ms.length) * (16 * G.c) := by rw [Nat.add_mul, Nat.mul_comm (16 * G.c) ms.length, Nat.add_comm]
      have e2 : (l.length + ms.length) * (16 * G.c) ≤ G.k * (16 * G.c) := Nat.mul_le_mul_right _ hlen
      have e3 : G.k * (16 * G.c) = 16 * (G.k * G.c) := by rw [Nat.mul_left_comm]
      omega
    have hir' := hir (hdis f (lnk_head hl))
    rw [r1, obnd3_some, brF (by decide)]
    obtain ⟨ar2, s1, s2, s3⟩ := fol_copy (nf := nf) (i := i) (show l.length ≤ 560 by omega) l.length 0 nf fi1 ar1 r4 r5 (by omega) (by omega) (fun t ht => by omega)
    have s1' : M_scan_20 nf nf (nI i) 0 fi1 ar1 = _ := s1
    rw [s1']
    obtain ⟨fi2, hfi2⟩ : ∃ x, x = va_up (va_up (va_up fi1 32 (nI l.length)) 36 (nI 0)) 37 (nI 0) := ⟨_, rfl⟩
    rw [← hfi2]
    have o2f : offF [31, 32, 36, 37] fi fi2 := by
      rw [hfi2]
      exact ((((r2.mono (by simp)).up (by simp)).up (by simp)).up (by simp))
    have o2a : offAs [19, 29, 30] ar ar2 := offAs.tr (fun j hj => r3 j (fun w => hj (by simp at w ⊢; omega))) (fun j hj => s3 j (fun w => hj (by simp at w ⊢; omega)))
    have hW2 : RW fi2 ar2 G d := h.off o2f o2a (by simp) (by simp)
    have hX2 : MX fi2 ar2 G d (sa G l) b i [] U (l ++ ms) := ⟨hW2, fun q hq => absurd hq (by simp), by rw [o2f 17 (by simp), h17]; rfl, by rw [o2f 18 (by simp)]; exact h18, by rw [o2a 25 (by simp)]; exact h25, by rw [o2a 24 (by simp)]; exact h24, r6.off s3 (by simp), r7⟩
    have h32 : fi2 32 = nI l.length := by rw [hfi2, va_up_off (by decide), va_up_off (by decide), va_up_self]
    have h36 : fi2 36 = nI 0 := by rw [hfi2, va_up_off (by decide), va_up_self]
    have h16' : fi2 16 = nI 0 := by rw [o2f 16 (by simp)]; exact h16
    have K2 : KP i b U ar ar2 := KP.off o2a (by simp)
    have goSc : ∀ (fi3 : FI) (kf : Nat), offF [16] fi2 fi3 → fi3 16 = nI 0 → l.length * (16 * G.c) + 1 < kf + zf G f → ¬ (zf G f = 2 ∧ ¬ (pts d (sa G l 0) 0 f ∧ pts d (sa G l 1) 1 par)) → ∃ fi' ar', M_scan_66 nf kf (nI i) (nI (zf G f)) fi3 ar2 = some ((), fi', ar') ∧ offF [16, 17, 18, 31, 32, 33, 35, 36, 37, 38] fi fi' ∧ offAs [19, 20, 21, 22, 23, 24, 26, 27, 28, 29, 30, 34] ar ar' ∧ KP i b U ar ar' ∧ ((some l = none ∧ fi' 16 = nI 3) ∨ ∃ l', some l = some l' ∧ fi' 16 = nI (dirF G d l' (l' ++ ms) f par).1 ∧ ((dirF G d l' (l' ++ ms) f par).1 = 0 → ∃ U', MX fi' ar' G d (sa G l') b i (itm d (sa G l') (zf G f) (en d (sa G l') (l'.length * (16 * G.c)) 0)) U' (dirF G d l' (l' ++ ms) f par).2.1 ∧ U' ≤ U + 13 * (l'.length * (16 * G.c)) ∧ U ≤ U')) := by
      intro fi3 kf o3 h163 hkf hpts
      have hz2 : zf G f = 0 ∨ zf G f = 2 := by rcases zf_cases G f with w | w; exact Or.inl w.2; exact Or.inr w.2
      have hiz : i = 0 ↔ zf G f = 0 := by
        rw [hir']
        rcases zf_cases G f with w | w
        · exact ⟨fun _ => w.2, fun _ => w.1⟩
        · exact ⟨fun q => absurd q w.1, fun q => by omega⟩
      obtain ⟨i1, i2, i3⟩ := rn_z d (sa G l) (zf G f) (zf G f) (Nat.le_refl _)
      have hX3 : MX fi3 ar2 G d (sa G l) b i [] U (l ++ ms) := hX2.off o3 offAs.rf (T := []) (by simp) (by simp)
      have g := mscan_loop (nf := nf) (d := d) (z := zf G f) (B := U) hG hlc hi hiz hz2 (show b + l.length * (16 * G.c) < 16400 by omega) (by omega) hnf (l.length * (16 * G.c) - zf G f) (zf G f) kf U (l ++ ms) fi3 ar2 (by omega) (Nat.le_refl _) (by omega) (fun t a b => by omega) (by rw [i2]; exact hX3) (by rw [i1]; exact ⟨by rw [o3 36 (by simp)]; exact h36, fun w => by omega⟩) s2 (by rw [o3 32 (by simp)]; exact h32) h163 (fun w => by rw [i3]; exact ((hLB w).off o2f (by simp)).off o3 (by simp)) (by rw [i1]; omega)
      obtain ⟨fi', ar', g1, g2, g3, g4, g5, g6⟩ := g
      have ed : dirF G d l (l ++ ms) f par = ((scn G d (sa G l) (zf G f) (l.length * (16 * G.c) - zf G f) (zf G f) (l ++ ms)).1, (scn G d (sa G l) (zf G f) (l.length * (16 * G.c) - zf G f) (zf G f) (l ++ ms)).2, sbs d (sa G l) (itm d (sa G l) (zf G f) (en d (sa G l) (l.length * (16 * G.c)) 0))) := by
        unfold dirF; rw [if_neg hpts]
      have een : en d (sa G l) (l.length * (16 * G.c)) 0 = en d (sa G l) (l.length * (16 * G.c) - zf G f) (zf G f) := by
        rcases zf_cases G f with w | w
        · rw [w.2]; rfl
        · have hp2 : pts d (sa G l 0) 0 f ∧ pts d (sa G l 1) 1 par := Decidable.byContradiction (fun q => hpts ⟨w.2, q⟩)
          have e0 : d (sa G l 0) = 46 := hp2.1.1 0 (by decide)
          have e1 : d (sa G l 1) = 46 := hp2.2.1 0 (by decide)
          rw [w.2]
          obtain ⟨m, hm⟩ : ∃ m, l.length * (16 * G.c) = m + 2 := ⟨_, (Nat.sub_add_cancel (by omega)).symm⟩
          rw [hm]
          unfold en
          rw [zl, if_neg (by rw [e0]; decide), zl, if_neg (by rw [e1]; decide)]
          rfl
      refine ⟨fi', ar', g1, ((o2f.mono (by simp)).tr (o3.mono (by simp))).tr (g3.mono (by simp)), offAs.tr (fun j hj => o2a j (fun w => hj (by simp at w ⊢; omega))) (fun j hj => g4 j (fun w => hj (by simp at w ⊢; omega))), K2.tr (Nat.le_refl _) g5, Or.inr ⟨l, rfl, by rw [ed]; exact g2, fun w => ?_⟩⟩
      rw [ed] at w ⊢
      obtain ⟨U', u1, u2, u3⟩ := g6 w
      rw [een]
      exact ⟨U', u1, u2, u3⟩
    rcases zf_cases G f with w | w
    · have hpts : ¬ (zf G f = 2 ∧ ¬ (pts d (sa G l 0) 0 f ∧ pts d (sa G l 1) 1 par)) := fun q => by omega
      have g := goSc fi2 nf offF.rf h16' (by omega) hpts
      rw [w.2] at g
      rw [w.2]
      exact g
    · have hi0 : i ≠ 0 := fun q => w.1 (hir'.mp q)
      -- the two points
      have bad : ¬ (pts d (sa G l 0) 0 f ∧ pts d (sa G l 1) 1 par) → dirF G d l (l ++ ms) f par = (4, l ++ ms, []) := fun q => by unfold dirF; rw [if_pos ⟨w.2, q⟩]
      have fin4 : ∀ (fi3 : FI), offF [16] fi2 fi3 → fi3 16 = nI 4 → ¬ (pts d (sa G l 0) 0 f ∧ pts d (sa G l 1) 1 par) → ∃ fi' ar', some ((), fi3, ar2) = some ((), fi', ar') ∧ offF [16, 17, 18, 31, 32, 33, 35, 36, 37, 38] fi fi' ∧ offAs [19, 20, 21, 22, 23, 24, 26, 27, 28, 29, 30, 34] ar ar' ∧ KP i b U ar ar' ∧ ((some l = none ∧ fi' 16 = nI 3) ∨ ∃ l', some l = some l' ∧ fi' 16 = nI (dirF G d l' (l' ++ ms) f par).1 ∧ ((dirF G d l' (l' ++ ms) f par).1 = 0 → ∃ U', MX fi' ar' G d (sa G l') b i (itm d (sa G l') (zf G f) (en d (sa G l') (l'.length * (16 * G.c)) 0)) U' (dirF G d l' (l' ++ ms) f par).2.1 ∧ U' ≤ U + 13 * (l'.length * (16 * G.c)) ∧ U ≤ U')) := by
        intro fi3 o3 h163 hn
        refine ⟨fi3, ar2, rfl, (o2f.mono (by simp)).tr (o3.mono (by simp)), fun j hj => o2a j (fun w => hj (by simp at w ⊢; omega)), K2, Or.inr ⟨l, rfl, by rw [bad hn]; exact h163, fun q => ?_⟩⟩
        rw [bad hn] at q; exact absurd q (by simp)
      have hd2 := hW2.1
      have hself : BG fi2 ar2 d G.r i f := hbg.off (o2f 11 (by simp)) (by rw [o2a 20 (by simp)])
      have step : ∀ (t F kf : Nat) (fi3 : FI), t < 2 → offF [16] fi2 fi3 → fi3 16 = nI 0 → (t = 0 → F = f) → (t = 1 → F = par) → M_scan_66 nf (kf + 1) (nI i) (nI t) fi3 ar2 = if d (sa G l t) = 0 then some ((), va_up fi3 16 4, ar2) else M_scan_66 nf kf (nI i) (nI (t + 1)) (va_up fi3 16 (if pts d (sa G l t) t F then 0 else 4)) ar2 := by
        intro t F kf fi3 ht o3 h163 hF0 hF1
        have hW3 : RW fi3 ar2 G d := hW2.off o3 offAs.rf (T := []) (by simp) (by simp)
        have hss := slot_in hG hlc (show t < l.length * (16 * G.c) by omega)
        have g7 : fi3 7 = nI G.c := hW3.2.1.2.1
        have eS : nI l.length * (16 : Int32) * nI G.c = nI (l.length * (16 * G.c)) := by
          rw [show nI l.length * (16 : Int32) = nI (l.length * 16) from pk_mul _ 16, nI_mulL, Nat.mul_assoc]
        have h323 : fi3 32 = nI l.length := by rw [o3 32 (by simp)]; exact h32
        have b0 := hd2.lt (show sa G l t < 524288 by omega)
        have hFb : F < 4294967296 := by
          rcases (show t = 0 ∨ t = 1 by omega) with q | q
          · rw [hF0 q]; exact hfb
          · rw [hF1 q]; exact hparb
        have hdots := M_dots_eq (nf := nf) (fi := fi3) (F := F) hd2 (show sa G l t + 32 ≤ 524288 by omega) ht (by omega) hi hFb (fun q => by rw [hF0 q]; exact beginOf_eq hd2 hi (hself.off (o3 11 (by simp)) rfl)) (fun q => by
          obtain ⟨qq, q1, q2, q3⟩ := hpar hi0
          refine ⟨qq, q1, by rw [o2a 23 (by simp)]; exact q2, ?_⟩
          rw [hF1 q]
          rcases q3 with q3 | ⟨q3, q4⟩
          · exact Or.inl q3
          · exact Or.inr ⟨q3, beginOf_eq hd2 q1 (q4.off (by rw [o3 11 (by simp), o2f 11 (by simp)]) (by rw [o2a 20 (by simp)]))⟩) (by omega)
        rw [show M_scan_66 nf (kf + 1) = M_scan_66b (M_scan_66 nf kf) nf from rfl]
        unfold M_scan_66b M_scan_220 M_scan_243 M_scan_248 M_scan_131 M_scan_214
        rw [h323, g7, eS, zle (by omega) (by omega), if_neg (by omega), h163, brT (show nI 0 = (0 : Int32) from rfl), hW3.slotAt hlc s2 (by omega), obnd3_some, M_one_eq hd2 (by omega), obnd3_some, h163, brT (show nI 0 = (0 : Int32) from rfl), o3 36 (by simp), h36, brF (show ¬ (0 : Int32) < nI 0 by decide), brF (nI_nle (n := i) (by omega) (by omega)), brF (nI_nle (n := i) (by omega) (by omega)), show (2 : Int32) = nI 2 from rfl, zle (by omega) (by omega), zle (by omega) (by omega), if_neg (by omega), if_neg (by omega), hdots, obnd3_some, bnd_eq, nI_1]
        by_cases q : d (sa G l t) = 0
        · rw [if_pos q, brT (show nI (d (sa G l t)) = (0 : Int32) by rw [q]; rfl)]
        · rw [if_neg q, brF (show ¬ nI (d (sa G l t)) = (0 : Int32) from nI_ne0 (by omega) (by omega))]
          by_cases q2 : pts d (sa G l t) t F
          · rw [if_pos q2, if_pos q2, brF (by decide), bnd_eq, bnd_eq]
          · rw [if_neg q2, if_neg q2, brT rfl, bnd_eq, bnd_eq]
      obtain ⟨kf, hkf⟩ : ∃ k, nf = k + 3 := ⟨nf - 3, by omega⟩
      have e0 := step 0 f (kf + 2) fi2 (by omega) offF.rf h16' (fun _ => rfl) (fun q => by omega)
      rw [show M_scan_66 nf nf = M_scan_66 nf (kf + 2 + 1) by rw [← hkf], e0]
      by_cases q0 : d (sa G l 0) = 0
      · rw [if_pos q0]
        exact fin4 _ (offF.rf.up (by simp)) (va_up_self _ _ _) (fun q => by have : d (sa G l 0) = 46 := q.1.1 0 (by decide); omega)
      · rw [if_neg q0]
        by_cases p0 : pts d (sa G l 0) 0 f
        · rw [if_pos p0]
          have o3 : offF [16] fi2 (va_up fi2 16 0) := offF.rf.up (by simp)
          have e1 := step 1 par (kf + 1) (va_up fi2 16 0) (by omega) o3 (by rw [va_up_self]; rfl) (fun q => by omega) (fun _ => rfl)
          have e1' : M_scan_66 nf (kf + 2) (nI i) (nI (0 + 1)) (va_up fi2 16 0) ar2 = _ := e1
          rw [e1']
          by_cases q1 : d (sa G l 1) = 0
          · rw [if_pos q1]
            exact fin4 _ (o3.tr (offF.rf.up (by simp))) (va_up_self _ _ _) (fun q => by have : d (sa G l 1) = 46 := q.2.1 0 (by decide); omega)
          · rw [if_neg q1]
            by_cases p1 : pts d (sa G l 1) 1 par
            · rw [if_pos p1]
              have g := goSc (va_up (va_up fi2 16 0) 16 0) (kf + 1) (o3.tr (offF.rf.up (by simp))) (by rw [va_up_self]; rfl) (by have := slots_le hG hlc; omega) (fun q => q.2 ⟨p0, p1⟩)
              have g' := g
              rw [show M_scan_66 nf (kf + 1) (nI i) (nI (zf G f)) (va_up (va_up fi2 16 0) 16 0) ar2 = M_scan_66 nf (kf + 1) (nI i) (nI (1 + 1)) (va_up (va_up fi2 16 0) 16 0) ar2 by rw [w.2]] at g'
              exact g'
            · rw [if_neg p1, show M_scan_66 nf (kf + 1) (nI i) (nI (1 + 1)) (va_up (va_up fi2 16 0) 16 4) ar2 = _ from scan_stop (c := 4) (va_up_self _ _ _) (by omega) (by omega)]
              exact fin4 _ (o3.tr (offF.rf.up (by simp))) (va_up_self _ _ _) (fun q => p1 q.2)
        · rw [if_neg p0, show M_scan_66 nf (kf + 2) (nI i) (nI (0 + 1)) (va_up fi2 16 4) ar2 = _ from scan_stop (c := 4) (va_up_self _ _ _) (by omega) (by omega)]
          exact fin4 _ (offF.rf.up (by simp)) (va_up_self _ _ _) (fun q => p0 q.1)
