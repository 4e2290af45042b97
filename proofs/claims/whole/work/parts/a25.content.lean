/-! chains that are read; content -/
theorem VOL.offM {n h : Nat} {ln : LN} {fi fm fm' : FI} {ar arm arm' : AR} {d : Nat → Nat} (hV : VOL n ln fi ar fm arm d h) {S T : List Nat} (h3 : offF S fm fm') (h4 : offAs T arm arm') (hS : ∀ j, j ∈ S → j ∉ [0, 7, 8, 9, 10, 11, 12, 13, 14, 15, 16, 17, 18, 33]) (hT : ∀ j, j ∈ T → j ∉ [1, 19, 20, 21, 22, 23, 24, 25, 26, 27, 28]) : VOL n ln fi ar fm' arm' d h := by
  obtain ⟨v1, v2, v3, v4, v5, v6, v7, v8, v9, v10, v11, v12, v13, v14⟩ := hV
  have e : ∀ j, j ∈ [0, 7, 8, 9, 10, 11, 12, 13, 14, 15, 16, 17, 18, 33] → fm' j = fm j := fun j hj => h3 j (fun q => hS j q hj)
  have a : ∀ j, j ∈ [1, 19, 20, 21, 22, 23, 24, 25, 26, 27, 28] → arm' j = arm j := fun j hj => h4 j (fun q => hT j q hj)
  have nT : ∀ j, j ∈ [1, 19, 20, 21, 22, 23, 24, 25, 26, 27, 28] → j ∉ T := fun j hj q => hT j q hj
  refine ⟨v1, v2, fun p hp => by rw [a 1 (by simp)]; exact v3 p hp, v4, v5, by rw [e 0 (by simp)]; exact v6, v7, v8, v9, by rw [e 14 (by simp)]; exact v10, v11, v12, ?_, v14⟩
  rcases v13 with w | ⟨w1, w2, w3, w4⟩
  · left; rw [e 15 (by simp)]; exact w
  · refine Or.inr ⟨by rw [e 15 (by simp)]; exact w1, by rw [e 16 (by simp)]; exact w2, fun hh => ?_, fun hz => ?_⟩
    · unfold RG
      rw [e 0 (by simp), e 7 (by simp), e 8 (by simp), e 9 (by simp), e 10 (by simp), e 11 (by simp), e 12 (by simp), e 13 (by simp)]
      exact w3 hh
    · obtain ⟨ms, N, U, k1, k2, k3, k4, k5, k6, k7, k8, k9, k10, k11⟩ := w4 hz
      have a20 : arm' 20 = arm 20 := a 20 (by simp)
      have a23 : arm' 23 = arm 23 := a 23 (by simp)
      have ep : ∀ j, pA arm' j = pA arm j := fun j => by unfold pA; rw [a20]
      have ef : ∀ j, fsF arm' d (geoOf n d).r j = fsF arm d (geoOf n d).r j := fun j => by unfold fsF; rw [ep]
      have ed : ∀ j, drF arm' d j ↔ drF arm d j := fun j => by unfold drF; rw [ep]
      refine ⟨ms, N, U, k1.off h3 h4 (fun j hj q => hS j hj (by simp at q ⊢; omega)) (fun j hj q => hT j hj (by simp [q])), by rw [e 17 (by simp)]; exact k2, by rw [e 18 (by simp)]; exact k3, by rw [e 16 (by simp)]; exact k4, k5.off h4 (nT 19 (by simp)), k6, k7, fun j j0 jN => ?_, fun j jN hd => ?_, fun z => ⟨(k10 z).1, (k10 z).2.1, (k10 z).2.2.off h3 (fun q => hS 33 q (by simp))⟩, k11⟩
      · have := k8 j j0 jN
        rw [ep, a23, ed]; exact this
      · obtain ⟨t1, t2, bb, tb, t3, t4, t5, t6⟩ := k9 j jN ((ed j).mp hd)
        rw [ef]
        refine ⟨t1, fun w => ⟨(t2 w).1, ?_⟩, bb, tb, by rw [a 25 (by simp)]; exact t3, by rw [a 24 (by simp)]; exact t4, t5, fun q hq => ?_⟩
        · have e : prF arm' d (geoOf n d).r j = prF arm d (geoOf n d).r j := by unfold prF; rw [a23, ef]
          rw [e]; exact (t2 w).2
        · obtain ⟨a1, a2, a3, a4, a5⟩ := t6 q hq
          rw [a20, a 21 (by simp), a 22 (by simp), a23]
          exact ⟨a1, a2, a3, a4, a5.off h4 ⟨nT 26 (by simp), nT 27 (by simp), nT 28 (by simp)⟩⟩
/-- a chain, or the number that ends one -/
def stp (G : Geo) (d : Nat → Nat) (x : Nat) (l : List Nat) : Prop := ((x = 0 ∨ 268435448 ≤ x) ∧ x < 268435456 ∧ l = []) ∨ lnk G d x l
theorem lnk.stp {G : Geo} {d : Nat → Nat} {x y : Nat} {l : List Nat} (h : lnk G d x (y :: l)) : x = y ∧ isC G x ∧ stp G d (ent G d x) l := by
  obtain ⟨h1, h2, h3⟩ := h
  have := ent_lt G d x
  refine ⟨h1, h2, ?_⟩
  rcases h3 with ⟨a, b⟩ | ⟨a, b, c⟩
  · exact Or.inl ⟨Or.inr b, this, a⟩
  · exact Or.inr c
theorem walk_loop {nf : Nat} {G : Geo} {d : Nat → Nat} : ∀ (l : List Nat) (x j kf : Nat) (fm : FI) (arm : AR), RW fm arm G d → stp G d x l → fm 31 = nI j → j + l.length < 560 → l.length < kf → ∃ fm' arm', M_walk_7 nf kf (nI x) fm arm = some ((), fm', arm') ∧ offF [31] fm fm' ∧ offAs [29] arm arm' ∧ fm' 31 = nI (j + l.length) ∧ (∀ q, q < j → arm' 29 q = arm 29 q) ∧ ∀ q, q < l.length → arm' 29 (j + q) = nI (l.getD q 0) := by
  intro l
  induction l with
  | nil =>
    intro x j kf fm arm hW hs h31 hj hk
    rcases hs with ⟨w, w2, _⟩ | w
    · obtain ⟨kf, rfl⟩ : ∃ k, kf = k + 1 := ⟨kf - 1, by omega⟩
      rw [show M_walk_7 nf (kf + 1) = M_walk_7b (M_walk_7 nf kf) nf from rfl]
      unfold M_walk_7b M_walk_46
      refine ⟨fm, arm, ?_, offF.rf, offAs.rf, by rw [h31]; rfl, fun _ _ => rfl, fun q hq => absurd hq (by simp)⟩
      by_cases c : x = 0
      · rw [c, brT (show nI 0 = (0 : Int32) from rfl)]
      · rw [brF (nI_ne0 (by omega) (by omega)), brT (show (268435448 : Int32) ≤ nI x from nI_le (a := 268435448) (w.resolve_left c) (by omega))]
    · exact absurd w (by simp [lnk])
  | cons y l ih =>
    intro x j kf fm arm hW hs h31 hj hk
    rcases hs with ⟨_, _, w⟩ | w
    · exact absurd w (by simp)
    · obtain ⟨rfl, hC, hst⟩ := w.stp
      have b := hW.2.2.b
      simp only [List.length_cons] at hj hk
      obtain ⟨kf, rfl⟩ : ∃ k, kf = k + 1 := ⟨kf - 1, by omega⟩
      rw [show M_walk_7 nf (kf + 1) = M_walk_7b (M_walk_7 nf kf) nf from rfl]
      unfold M_walk_7b
      have e31 : va_up fm 31 (nI j + 1) = va_up fm 31 (nI (j + 1)) := by rw [show nI j + (1 : Int32) = nI (j + 1) from nI_add j 1]
      rw [brF (nI_ne0 (by omega) (by omega)), brF (show ¬ (268435448 : Int32) ≤ nI x from nI_ge (b := 268435448) (by omega) (by omega)), h31, zgd (by omega) (by omega), nI_clamp (by omega), bnd_eq, bnd_eq, e31, ((hW.upF (by simp)).upA (by decide)).entry (by omega), obnd3_some]
      obtain ⟨fm', arm', r1, r2, r3, r4, r5, r6⟩ := ih (ent G d x) (j + 1) kf (va_up fm 31 (nI (j + 1))) (va_up arm 29 (upd (arm 29) j (nI x))) ((hW.upF (by simp)).upA (by decide)) hst (va_up_self _ _ _) (by omega) (by omega)
      refine ⟨fm', arm', r1, (offF.rf.up (by simp)).tr r2, (offAs.rf.up (by simp)).tr r3, by rw [r4]; simp only [List.length_cons]; congr 1; omega, fun q hq => ?_, fun q hq => ?_⟩
      · rw [r5 q (by omega), va_up_self]; unfold upd; rw [if_neg (by omega)]
      · cases q with
        | zero => rw [Nat.add_zero, r5 j (by omega), va_up_self]; unfold upd; rw [if_pos rfl]; rfl
        | succ q =>
          have := r6 q (by simp only [List.length_cons] at hq; omega)
          rw [show j + (q + 1) = j + 1 + q by omega, this]; rfl
theorem walk_ok {nf : Nat} {G : Geo} {d : Nat → Nat} {l : List Nat} {x : Nat} {fm : FI} {arm : AR} (hW : RW fm arm G d) (hs : stp G d x l) (hnf : 600 ≤ nf) : ∃ fm' arm', M_walk nf fm arm (nI x) = some ((), fm', arm') ∧ offF [31] fm fm' ∧ offAs [29] arm arm' ∧ fm' 31 = nI l.length ∧ ∀ q, q < l.length → arm' 29 q = nI (l.getD q 0) := by
  have b := hW.2.2.b
  have hl : l.length ≤ G.k := by
    rcases hs with ⟨_, _, w⟩ | w
    · rw [w]; exact Nat.zero_le _
    · exact (lnk_clu w).len
  obtain ⟨fm', arm', r1, r2, r3, r4, r5, r6⟩ := walk_loop (nf := nf) l x 0 nf (va_up fm 31 (nI 0)) arm (hW.upF (by simp)) hs (va_up_self _ _ _) (by omega) (by omega)
  refine ⟨fm', arm', ?_, (offF.rf.up (by simp)).tr r2, r3, by rw [r4, Nat.zero_add], fun q hq => by have := r6 q hq; rw [Nat.zero_add] at this; exact this⟩
  unfold M_walk
  rw [bnd_eq]; exact r1
theorem later_loop {nf : Nat} {ln : LN} {fi : FI} {ar : AR} {G : Geo} {d : Nat → Nat} (hW : CW ln fi ar G d) {K : Nat} (hK : K < 2147483648) : ∀ (l : List Nat) (x i kf : Nat), stp G d x l → i ≤ K → l.length < kf → ∃ v, FX9_later_5 nf ln kf (nI K) (nI x) (nI i) fi ar = some (nI v, fi, ar) ∧ v < 268435456 ∧ (K - i < l.length → v = l.getD (K - i) 0) := by
  have b := hW.2.2.1.b
  intro l
  induction l with
  | nil =>
    intro x i kf hs hi hk
    rcases hs with ⟨w, w2, _⟩ | w
    · obtain ⟨kf, rfl⟩ : ∃ k, kf = k + 1 := ⟨kf - 1, by omega⟩
      rw [show FX9_later_5 nf ln (kf + 1) = FX9_later_5b (FX9_later_5 nf ln kf) nf ln from rfl]
      unfold FX9_later_5b FX9_later_31
      refine ⟨x, ?_, w2, fun q => absurd q (by simp)⟩
      by_cases c : K ≤ i
      · rw [brT (nI_le c (by omega))]
      · rw [brF (nI_ge (by omega) (by omega)), hW.isC (by omega), obnd3_some, if_neg (by unfold isC; omega), brT rfl]
    · exact absurd w (by simp [lnk])
  | cons y l ih =>
    intro x i kf hs hi hk
    rcases hs with ⟨_, _, w⟩ | w
    · exact absurd w (by simp)
    · obtain ⟨rfl, hC, hst⟩ := w.stp
      simp only [List.length_cons] at hk
      obtain ⟨kf, rfl⟩ : ∃ k, kf = k + 1 := ⟨kf - 1, by omega⟩
      rw [show FX9_later_5 nf ln (kf + 1) = FX9_later_5b (FX9_later_5 nf ln kf) nf ln from rfl]
      unfold FX9_later_5b FX9_later_31
      by_cases c : K ≤ i
      · rw [brT (nI_le c (by omega))]
        exact ⟨x, rfl, by omega, fun _ => by rw [show K - i = 0 by omega]; rfl⟩
      · rw [brF (nI_ge (by omega) (by omega)), hW.isC (by omega), obnd3_some, if_pos hC, brF (by decide), hW.next (by omega), obnd3_some, bnd_eq, show nI i + (1 : Int32) = nI (i + 1) from nI_add i 1]
        obtain ⟨v, g1, g2, g3⟩ := ih (ent G d x) (i + 1) kf hst (by omega) (by omega)
        refine ⟨v, g1, g2, fun q => ?_⟩
        simp only [List.length_cons] at q
        rw [g3 (by omega), show K - i = K - (i + 1) + 1 by omega]; rfl
theorem later_ok {nf : Nat} {ln : LN} {fi : FI} {ar : AR} {G : Geo} {d : Nat → Nat} (hW : CW ln fi ar G d) {K : Nat} (hK : K < 2147483648) {l : List Nat} {x : Nat} (hs : stp G d x l) (hnf : 600 ≤ nf) : ∃ v, FX9_later nf ln fi ar (nI x) (nI K) = some (nI v, fi, ar) ∧ v < 268435456 ∧ (K < l.length → v = l.getD K 0) := by
  have b := hW.2.2.1.b
  have hl : l.length ≤ G.k := by
    rcases hs with ⟨_, _, w⟩ | w
    · rw [w]; exact Nat.zero_le _
    · exact (lnk_clu w).len
  exact later_loop hW hK l x 0 nf hs (Nat.zero_le _) (by omega)
theorem fOK.stp {G : Geo} {d : Nat → Nat} {p : Nat} (h : fOK G d p) : stp G d (fcl d p) (fc1 G d p) ∧ (fc1 G d p).length = cls G (fo d (p + 28)) ∧ fo d (p + 28) < 2147483648 := by
  unfold fc1
  rcases h with ⟨a, b⟩ | ⟨a, b, c, e⟩
  · rw [if_pos a, a, b]
    refine ⟨Or.inl ⟨Or.inl rfl, by omega, rfl⟩, ?_, by omega⟩
    unfold cls
    rw [Nat.zero_add]
    have : (512 * G.c - 1) / (512 * G.c) = 0 := by
      by_cases z : G.c = 0
      · rw [z]
      · exact Nat.div_eq_of_lt (by omega)
    rw [this]; rfl
  · rw [if_neg a]
    exact ⟨Or.inr c, e, b⟩
theorem cls_lt {G : Geo} (hG : 1 ≤ G.c) {a s : Nat} (h : a < s) : a / (512 * G.c) < cls G s := by
  unfold cls
  have h1 : (a / (512 * G.c) + 1) * (512 * G.c) ≤ s + 512 * G.c - 1 := by
    have := Nat.div_mul_le_self a (512 * G.c)
    rw [Nat.add_mul]; omega
  have := (Nat.le_div_iff_mul_le (show 0 < 512 * G.c by omega)).mpr h1
  omega
theorem content_alike {nf n h : Nat} {ln : LN} {fi fm : FI} {ar arm : AR} {d : Nat → Nat} (hV : VOL n ln fi ar fm arm d h) (x1 x2 : Int32) (hnf : 40000 ≤ nf) : ∃ v r fi' ar' ln' kc ks fm' arm', FX10_content nf fi ar ln x1 x2 = some (r, fi', ar', ln', kc, ks) ∧ M_content nf fm arm x1 x2 = some (v, fm', arm') ∧ ((r = Sum.inr 0 ∧ fm' 5 = 1) ∨ (r = Sum.inr 1 ∧ fm' 5 = 2) ∨ (r = Sum.inl v ∧ fm' 5 = 0)) ∧ VOL n ln' fi' ar' fm' arm' d h ∧ CST ln ln' kc ks 2 12 ∧ offF oFC fi fi' ∧ offAs oAC ar ar' ∧ offF oFM fm fm' ∧ offAs oAM arm arm' := by
  obtain ⟨fi1, ar1, ln1, k1, s1, fm1, arm1, b1, a5, a3, a4, b2, b3, b4⟩ := sel_ok hV x1 hnf
  have cst : ∀ k s, k ≤ 1 → s ≤ 6 → CST ln ln1 (k1 + k) (s1 + s) 2 12 := fun k s hk hs => by
    obtain ⟨c1, c2, c3⟩ := a5
    exact ⟨c1, by omega, by omega⟩
  unfold FX10_content FX10_content_29 M_content M_content_45
  rcases b4 with ⟨e1, e2, e3⟩ | ⟨e1, e2, e3, e4⟩ | ⟨q, e, j, b, N, U, ms, D, ρ, w1, e1, e2, e3, hSel⟩
  · rw [e1, obnd6_some, sumcR, e2, obnd3_some, brF (by decide)]
    exact ⟨_, _, fi1, ar1, ln1, _, _, fm1, arm1, rfl, rfl, Or.inl ⟨rfl, e3⟩, b1, cst 0 0 (by omega) (by omega), a3, a4, b2, b3⟩
  · rw [e1, obnd6_some, sumcL, e2, obnd6_some, sumcR, e3, obnd3_some, brF (by decide)]
    exact ⟨_, _, fi1, ar1, ln1, _, _, fm1, arm1, rfl, rfl, Or.inr (Or.inl ⟨rfl, e4⟩), b1, cst 1 6 (by omega) (by omega), a3, a4, b2, b3⟩
  · obtain ⟨t1, t2, t3, t4, t5, t6, t7, t8, t9, t10, t11, t12, t13, t14, t15, t16, t17, t18, t19, t20, t21, t22, t23, t24, t25, t26⟩ := hSel
    have hn := b1.1
    have hb := b1.2.1
    have hW := t5.1
    have hC := t5.1.1
    have hRW := t13.1
    have hR := t13.1.1
    have hln0 : ln1 0 = 128 * n := t5.2.1.1
    have hDk := t2.2.2.1 _ t3
    have hen := hDk.ent t9
    have hdz := hen.1.2.2.2.1
    have hfok := hen.2.2.2.2
    obtain ⟨p, hp⟩ : ∃ p, p = dA (geoOf n d) d (hf (geoOf n d) h) e.1 := ⟨_, rfl⟩
    rw [← hp] at e2 t23 t24 t25 t26 hdz hfok
    have hbq : b + q ≠ 0 ∧ b + q < 16400 := by omega
    have hpa : pA arm1 (b + q) = p := pA_nI t26 (by omega)
    have hdr : drF arm1 d (b + q) ↔ isDr d p := by
      unfold drF
      rw [hpa]
      exact ⟨fun w => w.elim (fun z => absurd z hbq.1) id, Or.inr⟩
    have hp1 : p + 32 ≤ 4 * ln1 0 := by omega
    have hp2 : p + 32 ≤ 524288 := by omega
    have h28 : (p + 28) % 4 = 0 := by omega
    have c0 : CST ln ln1 (k1 + (0 + 0)) (s1 + (0 + 0)) 2 12 := cst 0 0 (by omega) (by omega)
    have hbg : ∀ fm2, M_beginOf nf fm2 arm1 (nI (b + q)) = some (nI (fcl d p), fm2, arm1) := fun fm2 => beginOf_eq (r := (geoOf n d).r) hR hbq.2 (Or.inr ⟨hbq.1, p, t26, by omega, rfl⟩)
    clear t25 t24 t23 t21 t13 t2 t3 t9 a5 cst hDk t8 t7 t5 t12 hen
    rw [e1, obnd6_some, sumcL, e2, obnd6_some, sumcL, e3, obnd3_some, brT rfl, w1, t22, obnd3_some, isFolder_eq hR hbq.2 (fun _ => by rw [hpa]; exact hp2), obnd3_some, show nI p + (28 : Int32) = nI (p + 28) from nI_add p 28, FX3_four_eq hC h28 (by omega), obnd3_some]
    have none : ∃ v r fi' ar' ln' kc ks fm' arm', addc k1 s1 (addc 0 0 (some ((Sum.inl (-1) : Int32 ⊕ Nat), fi1, ar1, ln1, 0, 0))) = some (r, fi', ar', ln', kc, ks) ∧ some ((-1 : Int32), fm1, arm1) = some (v, fm', arm') ∧ ((r = Sum.inr 0 ∧ fm' 5 = 1) ∨ (r = Sum.inr 1 ∧ fm' 5 = 2) ∨ (r = Sum.inl v ∧ fm' 5 = 0)) ∧ VOL n ln' fi' ar' fm' arm' d h ∧ CST ln ln' kc ks 2 12 ∧ offF oFC fi fi' ∧ offAs oAC ar ar' ∧ offF oFM fm fm' ∧ offAs oAM arm arm' :=
      ⟨_, _, fi1, ar1, ln1, _, _, fm1, arm1, rfl, rfl, Or.inr (Or.inr ⟨rfl, t10⟩), b1, c0, a3, a4, b2, b3⟩
    by_cases qn : x2 < 0
    · rw [brT qn]
      by_cases qd : isDr d p
      · rw [if_pos (hdr.mpr qd), brF (by decide)]; exact none
      · rw [if_neg (fun w => qd (hdr.mp w)), brT rfl, brT qn]; exact none
    · rw [brF qn]
      obtain ⟨m, hm, rfl⟩ := nI_of qn
      by_cases qd : isDr d p
      · rw [if_pos (hdr.mpr qd), hdz qd, brF (show ¬ nI m < nI 0 from nI_nlt (Nat.zero_le _) hm), brF (by decide)]; exact none
      · obtain ⟨f1, f2, f3⟩ := (hfok qd).stp
        rw [if_neg (fun w => qd (hdr.mp w)), brT rfl, brF qn, zgd hbq.2 (by omega), nI_clamp (by omega), t26, show nI p + (28 : Int32) = nI (p + 28) from nI_add p 28, M_four_eq hR (by omega), obnd3_some]
        by_cases qs : m < fo d (p + 28)
        · have bG := hW.2.2.1.b
          have hcc := hW.2.2.1.1.1
          have lt : nI m < nI (fo d (p + 28)) := nI_lt qs f3
          have hi := cls_lt (G := geoOf n d) (by omega) qs
          rw [← f2] at hi
          have hlen : (fc1 (geoOf n d) d p).length ≤ (geoOf n d).k := by
            rcases f1 with ⟨_, _, w⟩ | w
            · rw [w]; exact Nat.zero_le _
            · exact (lnk_clu w).len
          obtain ⟨v, g1, g2, g3⟩ := later_ok (nf := nf) hW (K := m / (512 * (geoOf n d).c)) (by have := Nat.div_le_self m (512 * (geoOf n d).c); omega) f1 (by omega)
          have gv := g3 hi
          obtain ⟨fm2, arm2, r1, r2, r3, r4, r5⟩ := walk_ok (nf := nf) hRW f1 (by omega)
          have hv := r5 _ hi
          have hvC : isC (geoOf n d) v := by
            rcases f1 with ⟨_, _, w⟩ | w
            · rw [w] at hi; exact absurd hi (by simp)
            · refine lnk_isC _ _ w v ?_
              rw [gv, List.getD_eq_getElem?_getD, List.getElem?_eq_getElem hi]; exact List.getElem_mem hi
          have hpi := pl_in hW.2.2.1 hvC
          have hnn : (geoOf n d).n = n := rfl
          have hRW2 : RW fm2 arm2 (geoOf n d) d := hRW.off r2 r3 (by simp) (by simp)
          have f7 : fm2 7 = nI (geoOf n d).c := hRW2.2.1.2.1
          have e512 : (512 : Int32) * nI (geoOf n d).c = nI (512 * (geoOf n d).c) := pk_mul 512 _
          have hmod := Nat.mod_lt m (show 0 < 512 * (geoOf n d).c by omega)
          have hdm := Nat.div_add_mod m (512 * (geoOf n d).c)
          have erem : nI m - nI (m / (512 * (geoOf n d).c)) * nI (512 * (geoOf n d).c) = nI (m % (512 * (geoOf n d).c)) := by
            rw [nI_mulL, nI_sub (by rw [Nat.mul_comm]; omega)]
            congr 1
            rw [Nat.mul_comm]; omega
          have g6 := hW.2.1.2.2.2.1
          rw [brT lt, brT lt, FX3_firstCluster_eq hC (by omega), obnd3_some]
          unfold FX9_byteShift FX9_byteMask
          have es : nI (shC (geoOf n d).c) + (9 : Int32) = nI (shC (geoOf n d).c + 9) := nI_add _ 9
          rw [g6, obnd3_some, es, sh9 hcc hm, g1, obnd3_some, addressOf_eq hW hvC, obnd3_some, obnd3_some, g6, mask9 hcc (show m < 4294967296 by omega), nI_add, FX3_one_eq hC (by omega), obnd3_some, hbg fm1, obnd3_some, r1, obnd3_some, f7, e512, gdT (nI_ne0 (by omega) (by omega)), pk_div (by omega) (by omega) (by omega), zgd (by omega) (by omega), nI_clamp (by omega), hv, ← gv, hRW2.place (by omega), obnd3_some, f7, e512, gdT (nI_ne0 (by omega) (by omega)), pk_div (by omega) (by omega) (by omega), erem, nI_add, M_one_eq hRW2.1 (by omega), obnd3_some]
          exact ⟨_, _, fi1, ar1, ln1, _, _, fm2, arm2, rfl, rfl, Or.inr (Or.inr ⟨rfl, by rw [r2 5 (by simp)]; exact t10⟩), b1.offM r2 r3 (by simp) (by simp), c0, a3, a4, b2.tr (r2.mono (by simp [oFM])), b3.tr (r3.mono (by simp [oAM]))⟩
        · have nlt : ¬ nI m < nI (fo d (p + 28)) := nI_nlt (by omega) hm
          rw [brF nlt, brF nlt]; exact none
