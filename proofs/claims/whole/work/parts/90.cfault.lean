/-! the class's fault is the spec's -/
theorem CW.lk {ln : LN} {fi : FI} {ar : AR} {G : Geo} {d : Nat → Nat} (h : CW ln fi ar G d) {ln' : LN} (e : ln' 0 = ln 0) : CW ln' fi ar G d :=
  ⟨⟨by rw [e]; exact h.1.1, fun p hp => h.1.2 p (by rw [e] at hp; exact hp)⟩, h.2.1, h.2.2.1, by rw [e]; exact h.2.2.2⟩
theorem directoryFault_ok {nf : Nat} {ln : LN} {fi : FI} {ar : AR} {G : Geo} {d : Nat → Nat} (h : CW ln fi ar G d) (hLC : LNC ln G.n) {L : Nat} (hLK : LK ln 2 L) {ms : List Nat} (hc : clu G ms) (hm : mkC ln ar ms) {Q0 : List (Nat × Nat)} (hQ : QR ln fi ar Q0) {f p rt : Nat} (hf : f < 4294967296) (hp : p < 4294967296) (hrt : rt < 2) (hrr : f ∉ ms → (rt ≠ 0 ↔ f = G.r)) (hnf : 40000 ≤ nf) : ∃ fi' ar' ln' kc ks r, FX0_directoryFault nf fi ar ln (nI f) (nI p) (nI rt) = some (nI r, fi', ar', ln', kc, ks) ∧ GR 2 ln ln' kc ks ∧ offF [11, 40, 41, 42, 43, 44, 45, 62, 63] fi fi' ∧ offAs [3, 4, 5, 18, 19, 20, 21, 32, 33, 42] ar ar' ∧ ((chS G d (G.k + 1) ms f = none ∧ r = 3) ∨ ∃ l, chS G d (G.k + 1) ms f = some l ∧ r = (dirF G d l (l ++ ms) f p).1 ∧ (r = 0 → mkC ln' ar' (dirF G d l (l ++ ms) f p).2.1 ∧ clu G (dirF G d l (l ++ ms) f p).2.1 ∧ QR ln' fi' ar' (Q0 ++ (dirF G d l (l ++ ms) f p).2.2.map (fun x => (x, pz G f))))) := by
  have hG := h.2.2.1
  have b := hG.b
  have hkn : G.k ≤ G.n / 2 := by
    have : G.k * 2 ≤ G.k * G.c := Nat.mul_le_mul_left _ (by omega)
    omega
  have c3 := hLC.2.2.2.1
  have c18 := hLC.2.2.2.2.2.2.1 2 (by omega)
  have cl := h.claimChain (nf := nf) (by omega) (by omega) (x := f) (by omega) hc hm (by omega)
  unfold FX0_directoryFault
  cases hch : chS G d (G.k + 1) ms f with
  | none =>
    rw [hch] at cl
    obtain ⟨ar1, r1, r2⟩ := cl
    rw [r1, obnd3_some, brT rfl]
    exact ⟨fi, ar1, ln, 0, 0, 3, rfl, GR.rf hLK, offF.rf, fun j hj => r2 j (fun w => hj (by simp at w ⊢; omega)), Or.inl ⟨rfl, rfl⟩⟩
  | some l =>
    rw [hch] at cl
    obtain ⟨ar1, r1, r2, r3, r4⟩ := cl
    obtain ⟨hl, hdis⟩ := chS_iff.mp hch
    have hlc := lnk_clu hl
    have hll := hlc.len
    have hlp := lnk_pos hl
    have hS16 : 16 ≤ l.length * (16 * G.c) := by
      have : 1 * 16 ≤ l.length * (16 * G.c) := Nat.mul_le_mul hlp (by omega)
      omega
    have hrr' := hrr (hdis f (lnk_head hl))
    have hne : ¬ nI l.length = (-1 : Int32) := fun w => by
      have := (uI_eq (a := l.length) (b := 4294967295) (by omega) (by omega)).mp w
      omega
    rw [r1, obnd3_some, brF hne]
    have h1 : CW ln fi ar1 G d := h.off offF.rf r2 (S := []) (by simp) (by simp)
    obtain ⟨fi2, ar2, s1, s2, s3, s4, s5, s6⟩ := openChain_ok (nf := nf) (i0 := 2) (by omega) h1 hl c18 (by omega)
    rw [s1, obnd3_some]
    have h2 : CW ln fi2 ar2 G d := h1.off s5 s6.as (by simp) (by simp)
    have hm2 : mkC ln ar2 (l ++ ms) := r3.off s6.as (by simp) rfl
    have hQ2 : QR ln fi2 ar2 Q0 := (hQ.off offF.rf r2 (S := []) (by simp) (by simp) (ln' := ln) rfl).off s5 s6.as (by simp) (by simp) rfl
    have oF2 : offF [11, 40, 41, 42, 43, 44, 45, 62, 63] fi fi2 := s5.mono (by simp)
    have oA2 : offAs [3, 4, 5, 18, 19, 20, 21, 32, 33, 42] ar ar2 := offAs.tr (fun j hj => r2 j (fun w => hj (by simp at w ⊢; omega))) (fun j hj => s6 j (fun w => hj (by simp at w ⊢; omega)))
    have scanGo : ∀ z, zf G f = z → z ≤ 2 → (¬ (zf G f = 2 ∧ ¬ (pts d (sa G l 0) 0 f ∧ pts d (sa G l 1) 1 p))) → ∃ fi' ar' ln' kc ks r, FX0_directoryFault_60 nf nf (nI f) (nI rt) (nI 0) (nI 0) (nI z) fi2 ar2 ln = some (nI r, fi', ar', ln', kc, ks) ∧ GR 2 ln ln' kc ks ∧ offF [11, 40, 41, 42, 43, 44, 45, 62, 63] fi fi' ∧ offAs [3, 4, 5, 18, 19, 20, 21, 32, 33, 42] ar ar' ∧ ((some l = none ∧ r = 3) ∨ ∃ l', some l = some l' ∧ r = (dirF G d l' (l' ++ ms) f p).1 ∧ (r = 0 → mkC ln' ar' (dirF G d l' (l' ++ ms) f p).2.1 ∧ clu G (dirF G d l' (l' ++ ms) f p).2.1 ∧ QR ln' fi' ar' (Q0 ++ (dirF G d l' (l' ++ ms) f p).2.2.map (fun x => (x, pz G f))))) := by
      intro z hz hz2 hpts
      have hrz : rt ≠ 0 ↔ z = 0 := by
        rw [hrr', ← hz]
        rcases zf_cases G f with w | w
        · exact ⟨fun _ => w.2, fun _ => w.1⟩
        · exact ⟨fun q => absurd q w.1, fun q => by omega⟩
      obtain ⟨i1, i2, i3⟩ := rn_z d (sa G l) z z (Nat.le_refl _)
      have hX : CX ln fi2 ar2 G d l (itm d (sa G l) z z) := by
        rw [i2]
        exact ⟨h2, hLC, s2, ⟨s3, fun q hq => absurd hq (by simp)⟩, L, hLK, Nat.zero_le _⟩
      have g := cscan_loop (nf := nf) (d := d) hG hlc hz hrt hrz hf Q0 hnf (l.length * (16 * G.c) - z) z nf (l ++ ms) fi2 ar2 ln (by omega) (Nat.le_refl _) (by have := slots_le hG hlc; omega) (fun t a b => by omega) hX hm2 r4 (by rw [i2]; simpa [sbs] using hQ2)
      rw [i1, i3] at g
      obtain ⟨fi', ar', ln', kc, ks, g1, g2, g3, g4, g5⟩ := g
      have ed : dirF G d l (l ++ ms) f p = ((scn G d (sa G l) z (l.length * (16 * G.c) - z) z (l ++ ms)).1, (scn G d (sa G l) z (l.length * (16 * G.c) - z) z (l ++ ms)).2, sbs d (sa G l) (itm d (sa G l) z (en d (sa G l) (l.length * (16 * G.c)) 0))) := by
        unfold dirF; rw [if_neg hpts, hz]
      have een : en d (sa G l) (l.length * (16 * G.c)) 0 = en d (sa G l) (l.length * (16 * G.c) - z) z := by
        rcases zf_cases G f with w | w
        · rw [show z = 0 by omega]; rfl
        · have hz' : z = 2 := by omega
          have hp2 : pts d (sa G l 0) 0 f ∧ pts d (sa G l 1) 1 p := Decidable.byContradiction (fun q => hpts ⟨by omega, q⟩)
          have e0 : d (sa G l 0) = 46 := hp2.1.1 0 (by decide)
          have e1 : d (sa G l 1) = 46 := hp2.2.1 0 (by decide)
          subst hz'
          obtain ⟨m, hm⟩ : ∃ m, l.length * (16 * G.c) = m + 2 := ⟨_, (Nat.sub_add_cancel (by omega)).symm⟩
          rw [hm]
          unfold en
          rw [zl, if_neg (by rw [e0]; decide), zl, if_neg (by rw [e1]; decide)]
          rfl
      refine ⟨fi', ar', ln', kc, ks, _, g1, g2, oF2.tr (g3.mono (by simp)), oA2.tr (fun j hj => g4 j (fun w => hj (by simp at w ⊢; omega))), Or.inr ⟨l, rfl, by rw [ed], fun w => ?_⟩⟩
      rw [ed]
      simp only
      rw [een]
      exact g5 w
    have fin43 : ∀ z, zf G f = z → ¬ (zf G f = 2 ∧ ¬ (pts d (sa G l 0) 0 f ∧ pts d (sa G l 1) 1 p)) → FX0_directoryFault_43 nf (nI f) (nI rt) fi2 ar2 ln = FX0_directoryFault_60 nf nf (nI f) (nI rt) (nI 0) (nI 0) (nI z) fi2 ar2 ln := by
      intro z hz _
      unfold FX0_directoryFault_43 FX0_directoryFault_58
      rcases zf_cases G f with w | w
      · have h0 : rt ≠ 0 := hrr'.mpr w.1
        have : z = 0 := by omega
        subst this
        simp (disch := first | omega | decide) only [zlt, zle, zeq, zltl, zllt, zlel, zlle, zeql, zll, ↓zlt, ↓zle, ↓zeq, ↓zltl, ↓zllt, ↓zlel, ↓zlle, ↓zeql, ↓zll, ↓if_pos, ↓if_neg, if_pos, if_neg, ↓zgd, zgd, zgdc, ↓zgd0, zgd0c, zcl0, ↓zbit, zbitc, ↓zbit1, ↓zbit0, nI_clamp, zaddl, zladd, zsubl, zlsub, zmull, zlmul, zdivl, nI_1, nI_add, nI_mulL, zand1, zand3, zand15, zand31, zand63, zand255, zand65535, zshr1, zshl7, zshl8, zshl9, zbit8, zbit16, ↓bnd_eq, bnd_eq, obnd_some, obnd3_some, obnd6_some]
        rfl
      · have h0 : rt = 0 := by
          apply Decidable.byContradiction
          intro q
          exact w.1 (hrr'.mp q)
        have : z = 2 := by omega
        subst this
        simp (disch := first | omega | decide) only [zlt, zle, zeq, zltl, zllt, zlel, zlle, zeql, zll, ↓zlt, ↓zle, ↓zeq, ↓zltl, ↓zllt, ↓zlel, ↓zlle, ↓zeql, ↓zll, ↓if_pos, ↓if_neg, if_pos, if_neg, ↓zgd, zgd, zgdc, ↓zgd0, zgd0c, zcl0, ↓zbit, zbitc, ↓zbit1, ↓zbit0, nI_clamp, zaddl, zladd, zsubl, zlsub, zmull, zlmul, zdivl, nI_1, nI_add, nI_mulL, zand1, zand3, zand15, zand31, zand63, zand255, zand65535, zshr1, zshl7, zshl8, zshl9, zbit8, zbit16, ↓bnd_eq, bnd_eq, obnd_some, obnd3_some, obnd6_some]
        rfl
    rcases zf_cases G f with w | w
    · have h0 : rt ≠ 0 := hrr'.mpr w.1
      have hpts : ¬ (zf G f = 2 ∧ ¬ (pts d (sa G l 0) 0 f ∧ pts d (sa G l 1) 1 p)) := fun q => by omega
      have e := fin43 0 w.2 hpts
      rw [zeql (n := 0) (by omega) (by decide), if_neg h0, e]
      exact scanGo 0 w.2 (by omega) hpts
    · have h0 : rt = 0 := by
        apply Decidable.byContradiction
        intro q
        exact w.1 (hrr'.mp q)
      have p0 := points_eq (nf := nf) (t := 0) (f := f) h2 hlc hLC s2 (by omega) (by omega) hf (by omega)
      have p1 := points_eq (nf := nf) (t := 1) (f := p) h2 hlc hLC s2 (by omega) (by omega) hp (by omega)
      have bad : (¬ (pts d (sa G l 0) 0 f ∧ pts d (sa G l 1) 1 p)) → dirF G d l (l ++ ms) f p = (4, l ++ ms, []) := fun q => by unfold dirF; rw [if_pos ⟨w.2, q⟩]
      have e0 : FX0_pointsAsTold nf ln fi2 ar2 0 (nI f) = _ := p0
      have e1 : FX0_pointsAsTold nf ln fi2 ar2 1 (nI p) = _ := p1
      rw [zeql (n := 0) (by omega) (by decide), if_pos h0, e0, obnd3_some]
      by_cases q0 : pts d (sa G l 0) 0 f
      · rw [if_pos q0, brF (by decide), e1, obnd3_some]
        by_cases q1 : pts d (sa G l 1) 1 p
        · rw [if_pos q1, brF (by decide)]
          have hpts : ¬ (zf G f = 2 ∧ ¬ (pts d (sa G l 0) 0 f ∧ pts d (sa G l 1) 1 p)) := fun q => q.2 ⟨q0, q1⟩
          rw [fin43 2 w.2 hpts]
          exact scanGo 2 w.2 (by omega) hpts
        · rw [if_neg q1, brT rfl]
          refine ⟨fi2, ar2, ln, 0, 0, 4, rfl, GR.rf hLK, oF2, oA2, Or.inr ⟨l, rfl, by rw [bad (fun q => q1 q.2)], fun q => by omega⟩⟩
      · rw [if_neg q0, brT rfl]
        refine ⟨fi2, ar2, ln, 0, 0, 4, rfl, GR.rf hLK, oF2, oA2, Or.inr ⟨l, rfl, by rw [bad (fun q => q0 q.1)], fun q => by omega⟩⟩
theorem lost_loop {nf : Nat} {ln : LN} {fi : FI} {ar : AR} {G : Geo} {d : Nat → Nat} (h : CW ln fi ar G d) (hLC : LNC ln G.n) {ms : List Nat} (hm : mkC ln ar ms) : ∀ (m x kf : Nat), x + m = G.k + 2 → 2 ≤ x → m < kf → FX0_hasLostCluster_2 nf ln kf (nI x) fi ar = some ((if ∃ y, y < G.k + 2 ∧ x ≤ y ∧ ent G d y ≠ 0 ∧ y ∉ ms then 1 else 0), fi, ar) := by
  have b := h.2.2.1.b
  have hkn : G.k ≤ G.n / 2 := by
    have : G.k * 2 ≤ G.k * G.c := Nat.mul_le_mul_left _ (by omega)
    omega
  have c3 := hLC.2.2.2.1
  have g5 := h.2.1.2.2.1
  intro m
  induction m with
  | zero =>
    intro x kf hx h2 hk
    obtain ⟨kf, rfl⟩ : ∃ k, kf = k + 1 := ⟨kf - 1, by omega⟩
    rw [if_neg (fun w => by obtain ⟨y, y1, y2, _⟩ := w; omega)]
    rw [show FX0_hasLostCluster_2 nf ln (kf + 1) = FX0_hasLostCluster_2b (FX0_hasLostCluster_2 nf ln kf) nf ln from rfl]
    unfold FX0_hasLostCluster_2b
    simp (disch := first | omega | decide) only [zlt, zle, zeq, zltl, zllt, zlel, zlle, zeql, zll, ↓zlt, ↓zle, ↓zeq, ↓zltl, ↓zllt, ↓zlel, ↓zlle, ↓zeql, ↓zll, ↓if_pos, ↓if_neg, if_pos, if_neg, ↓zgd, zgd, zgdc, ↓zgd0, zgd0c, zcl0, ↓zbit, zbitc, ↓zbit1, ↓zbit0, nI_clamp, zaddl, zladd, zsubl, zlsub, zmull, zlmul, zdivl, nI_1, nI_add, nI_mulL, zand1, zand3, zand15, zand31, zand63, zand255, zand65535, zshr1, zshl7, zshl8, zshl9, zbit8, zbit16, ↓bnd_eq, bnd_eq, obnd_some, obnd3_some, obnd6_some, g5]
  | succ m ih =>
    intro x kf hx h2 hk
    obtain ⟨kf, rfl⟩ : ∃ k, kf = k + 1 := ⟨kf - 1, by omega⟩
    have g := ih (x + 1) kf (by omega) (by omega) (by omega)
    have he := ent_lt G d x
    have hn := h.next (nf := nf) (show x ≤ G.k + 1 by omega)
    have step : ¬ (ent G d x ≠ 0 ∧ x ∉ ms) → FX0_hasLostCluster_2 nf ln kf (nI (x + 1)) fi ar = some ((if ∃ y, y < G.k + 2 ∧ x ≤ y ∧ ent G d y ≠ 0 ∧ y ∉ ms then 1 else 0), fi, ar) := by
      intro hno
      rw [g]
      have hiff : (∃ y, y < G.k + 2 ∧ x + 1 ≤ y ∧ ent G d y ≠ 0 ∧ y ∉ ms) ↔ (∃ y, y < G.k + 2 ∧ x ≤ y ∧ ent G d y ≠ 0 ∧ y ∉ ms) := by
        constructor
        · rintro ⟨y, a, b, c⟩; exact ⟨y, a, by omega, c⟩
        · rintro ⟨y, a, b, c⟩
          by_cases e : y = x
          · rw [e] at c; exact absurd c hno
          · exact ⟨y, a, by omega, c⟩
      rw [iteC hiff (fun _ => rfl)]
    rw [show FX0_hasLostCluster_2 nf ln (kf + 1) = FX0_hasLostCluster_2b (FX0_hasLostCluster_2 nf ln kf) nf ln from rfl]
    unfold FX0_hasLostCluster_2b FX0_hasLostCluster_37
    by_cases q1 : ent G d x = 0
    · have := step (fun w => w.1 q1)
      simp (disch := first | omega | decide) only [zlt, zle, zeq, zltl, zllt, zlel, zlle, zeql, zll, ↓zlt, ↓zle, ↓zeq, ↓zltl, ↓zllt, ↓zlel, ↓zlle, ↓zeql, ↓zll, ↓if_pos, ↓if_neg, if_pos, if_neg, ↓zgd, zgd, zgdc, ↓zgd0, zgd0c, zcl0, ↓zbit, zbitc, ↓zbit1, ↓zbit0, nI_clamp, zaddl, zladd, zsubl, zlsub, zmull, zlmul, zdivl, nI_1, nI_add, nI_mulL, zand1, zand3, zand15, zand31, zand63, zand255, zand65535, zshr1, zshl7, zshl8, zshl9, zbit8, zbit16, ↓bnd_eq, bnd_eq, obnd_some, obnd3_some, obnd6_some, g5, hn]
      exact this
    · by_cases q2 : x ∈ ms
      · have := step (fun w => w.2 q2)
        have hmx : ¬ ar 3 x = 0 := fun w => ((hm x (by omega)).mp w) q2
        simp (disch := first | omega | decide) only [zlt, zle, zeq, zltl, zllt, zlel, zlle, zeql, zll, ↓zlt, ↓zle, ↓zeq, ↓zltl, ↓zllt, ↓zlel, ↓zlle, ↓zeql, ↓zll, ↓if_pos, ↓if_neg, if_pos, if_neg, ↓zgd, zgd, zgdc, ↓zgd0, zgd0c, zcl0, ↓zbit, zbitc, ↓zbit1, ↓zbit0, nI_clamp, zaddl, zladd, zsubl, zlsub, zmull, zlmul, zdivl, nI_1, nI_add, nI_mulL, zand1, zand3, zand15, zand31, zand63, zand255, zand65535, zshr1, zshl7, zshl8, zshl9, zbit8, zbit16, ↓bnd_eq, bnd_eq, obnd_some, obnd3_some, obnd6_some, g5, hn]
        rw [brF hmx]
        exact this
      · have hmx : ar 3 x = 0 := (hm x (by omega)).mpr q2
        rw [if_pos ⟨x, by omega, Nat.le_refl _, q1, q2⟩]
        simp (disch := first | omega | decide) only [zlt, zle, zeq, zltl, zllt, zlel, zlle, zeql, zll, ↓zlt, ↓zle, ↓zeq, ↓zltl, ↓zllt, ↓zlel, ↓zlle, ↓zeql, ↓zll, ↓if_pos, ↓if_neg, if_pos, if_neg, ↓zgd, zgd, zgdc, ↓zgd0, zgd0c, zcl0, ↓zbit, zbitc, ↓zbit1, ↓zbit0, nI_clamp, zaddl, zladd, zsubl, zlsub, zmull, zlmul, zdivl, nI_1, nI_add, nI_mulL, zand1, zand3, zand15, zand31, zand63, zand255, zand65535, zshr1, zshl7, zshl8, zshl9, zbit8, zbit16, ↓bnd_eq, bnd_eq, obnd_some, obnd3_some, obnd6_some, g5, hn]
        rw [brT hmx]
theorem hasLost_eq {nf : Nat} {ln : LN} {fi : FI} {ar : AR} {G : Geo} {d : Nat → Nat} (h : CW ln fi ar G d) (hLC : LNC ln G.n) {ms : List Nat} (hm : mkC ln ar ms) (hnf : 600 ≤ nf) : FX0_hasLostCluster nf ln fi ar = some ((if lst G d ms then 1 else 0), fi, ar) := by
  have b := h.2.2.1.b
  have g := lost_loop (nf := nf) h hLC hm G.k 2 nf (by omega) (by omega) (by omega)
  have e : FX0_hasLostCluster nf ln fi ar = FX0_hasLostCluster_2 nf ln nf (nI 2) fi ar := rfl
  rw [e, g]
