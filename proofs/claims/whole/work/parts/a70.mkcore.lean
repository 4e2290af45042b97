/-! make: the directory after it -/
theorem Snd_A2 {G : Geo} {d d' : Nat → Nat} {D : List Nat} {ρ : Nat → Nat} {h : Nat} (hG : 1 ≤ G.c) (hS : Snd G d D ρ) (hh : h ∈ D) (hk : ∀ f, f ∈ D → f ≠ h → kept G d d' f) (hD : DOK G d' h) (hsub : (sub G d' h).Perm (sub G d h)) (hpt : h ≠ G.r → ∀ p, pts d (dA G d h 1) 1 p → pts d' (dA G d' h 1) 1 p) {add del : List Nat} (hown : (own G d' h ++ del).Perm (own G d h ++ add)) (hadd : add.Nodup ∧ ∀ y, y ∈ add → isC G y ∧ ent G d y = 0) (hdel : ∀ y, y ∈ del → y ∈ own G d h) (hent : ∀ y, isC G y → ent G d' y ≠ 0 → y ∈ add ∨ (ent G d y ≠ 0 ∧ y ∉ del)) : Snd G d' D ρ := by
  obtain ⟨D0, hp, h0⟩ := split_at hS.nodup hh
  have hk' : ∀ f, f ∈ D0 → _ := fun f hf => (hk f (h0 f hf).1 (h0 f hf).2).all hG (hS.2.2.1 f (h0 f hf).1)
  have hsubP : (D.flatMap (sub G d')).Perm (D.flatMap (sub G d)) := by
    refine (hp.flatMap_right (sub G d')).trans (List.Perm.trans ?_ (hp.flatMap_right (sub G d)).symm)
    rw [List.flatMap_cons, List.flatMap_cons, fmC D0 (fun f hf => (hk' f hf).2.2.1)]
    exact List.Perm.append_right _ hsub
  have e0 : D0.flatMap (own G d') = D0.flatMap (own G d) := fmC D0 (fun f hf => (hk' f hf).2.2.2.1)
  obtain ⟨c1, c2⟩ := own_change hS hp hown hadd hdel hent
  rw [← e0, ← List.flatMap_cons] at c1
  refine ⟨hS.1.trans (hsubP.symm.cons _), fun g hg f hf => ?_, fun f hf => ?_, (hp.flatMap_right (own G d')).nodup_iff.mpr c1, fun x hx he => ?_⟩
  · have hf2 : f ∈ sub G d g := by
      by_cases e : g = h
      · rw [e] at hf ⊢; exact hsub.mem_iff.mp hf
      · rw [((hk g hg e).all hG (hS.2.2.1 g hg)).2.2.1] at hf; exact hf
    obtain ⟨a1, a2⟩ := hS.2.1 g hg f hf2
    refine ⟨a1, ?_⟩
    by_cases e : f = h
    · have hne := hS.ne_r hg hf2
      rw [e] at a2 hne ⊢; exact hpt hne _ a2
    · have hfD : f ∈ D := hS.1.mem_iff.mpr (List.mem_cons_of_mem _ (List.mem_flatMap.mpr ⟨g, hg, hf2⟩))
      exact ((hk f hfD e).all hG (hS.2.2.1 f hfD)).2.2.2.2.2 _ a2
  · by_cases e : f = h
    · rw [e]; exact hD
    · exact ((hk f hf e).all hG (hS.2.2.1 f hf)).2.1
  · have := c2 x hx he
    rw [← e0, ← List.flatMap_cons] at this
    exact (hp.flatMap_right (own G d')).mem_iff.mpr this
theorem Snd_B2 {G : Geo} {d d' : Nat → Nat} {D : List Nat} {ρ : Nat → Nat} {h w : Nat} (hG : 1 ≤ G.c) (hS : Snd G d D ρ) (hh : h ∈ D) (hk : ∀ f, f ∈ D → f ≠ h → kept G d d' f) (hD : DOK G d' h) (hsub : (sub G d' h).Perm (w :: sub G d h)) (hpt : h ≠ G.r → ∀ p, pts d (dA G d h 1) 1 p → pts d' (dA G d' h 1) 1 p) (hw : DOK G d' w) (hws : sub G d' w = []) (hwp : pts d' (dA G d' w 1) 1 (pz G h)) {add : List Nat} (hown : (own G d' h ++ own G d' w).Perm (own G d h ++ add)) (hadd : add.Nodup ∧ ∀ y, y ∈ add → isC G y ∧ ent G d y = 0) (hwa : w ∈ add) (hent : ∀ y, isC G y → ent G d' y ≠ 0 → y ∈ add ∨ ent G d y ≠ 0) : Snd G d' (w :: D) (fun x => if x = w then ρ h + 1 else ρ x) := by
  obtain ⟨D0, hp, h0⟩ := split_at hS.nodup hh
  have hwD : w ∉ D := fun q => (hS.ownC (List.mem_flatMap.mpr ⟨w, q, own_self (hS.2.2.1 w q)⟩)).2 (hadd.2 w hwa).2
  have hk' : ∀ f, f ∈ D0 → _ := fun f hf => (hk f (h0 f hf).1 (h0 f hf).2).all hG (hS.2.2.1 f (h0 f hf).1)
  have hsubP : (D.flatMap (sub G d')).Perm (w :: D.flatMap (sub G d)) := by
    refine (hp.flatMap_right (sub G d')).trans (List.Perm.trans ?_ ((hp.flatMap_right (sub G d)).symm.cons w))
    rw [List.flatMap_cons, List.flatMap_cons, fmC D0 (fun f hf => (hk' f hf).2.2.1), ← List.cons_append]
    exact List.Perm.append_right _ hsub
  have e0 : D0.flatMap (own G d') = D0.flatMap (own G d) := fmC D0 (fun f hf => (hk' f hf).2.2.2.1)
  have hn := (hp.flatMap_right (own G d)).nodup_iff.mp hS.2.2.2.1
  rw [List.flatMap_cons] at hn
  have hmem : ∀ y, y ∈ own G d h ++ D0.flatMap (own G d) ↔ y ∈ D.flatMap (own G d) := fun y => by
    rw [(hp.flatMap_right (own G d)).mem_iff, List.flatMap_cons]
  have hfree : ∀ y, y ∈ add → y ∉ own G d h ++ D0.flatMap (own G d) := fun y hy hm => (hS.ownC ((hmem y).mp hm)).2 (hadd.2 y hy).2
  have hall : (add ++ (own G d h ++ D0.flatMap (own G d))).Nodup := List.nodup_append.mpr ⟨hadd.1, hn, fun a ha b hb e => hfree a ha (e ▸ hb)⟩
  have hperm : (add ++ (own G d h ++ D0.flatMap (own G d))).Perm ((w :: D).flatMap (own G d')) := by
    rw [List.flatMap_cons]
    refine List.Perm.trans ?_ (List.Perm.append_left _ (hp.flatMap_right (own G d')).symm)
    rw [List.flatMap_cons, e0, ← List.append_assoc, ← List.append_assoc]
    refine List.Perm.append_right _ ?_
    exact List.perm_append_comm.trans (hown.symm.trans List.perm_append_comm)
  refine ⟨?_, fun g hg f hf => ?_, fun f hf => ?_, hperm.nodup_iff.mp hall, fun x hx he => hperm.mem_iff.mp ?_⟩
  · rw [List.flatMap_cons, hws, List.nil_append]
    refine (hS.1.cons w).trans ((List.Perm.swap G.r w _).trans (List.Perm.cons _ hsubP.symm))
  · have hgD : g ∈ D := by
      rcases List.mem_cons.mp hg with e | e
      · rw [e, hws] at hf; exact absurd hf (by simp)
      · exact e
    have hgw : g ≠ w := fun e => hwD (e ▸ hgD)
    show (if g = w then ρ h + 1 else ρ g) < (if f = w then ρ h + 1 else ρ f) ∧ _
    rw [if_neg hgw]
    have hf2 : (g = h ∧ f = w) ∨ f ∈ sub G d g := by
      by_cases e : g = h
      · rw [e] at hf ⊢
        rcases List.mem_cons.mp (hsub.mem_iff.mp hf) with q | q
        · exact Or.inl ⟨rfl, q⟩
        · exact Or.inr q
      · rw [((hk g hgD e).all hG (hS.2.2.1 g hgD)).2.2.1] at hf; exact Or.inr hf
    rcases hf2 with ⟨q1, q2⟩ | q
    · rw [if_pos q2, q1, q2]
      exact ⟨by omega, hwp⟩
    · obtain ⟨a1, a2⟩ := hS.2.1 g hgD f q
      have hfD : f ∈ D := hS.1.mem_iff.mpr (List.mem_cons_of_mem _ (List.mem_flatMap.mpr ⟨g, hgD, q⟩))
      rw [if_neg (fun e : f = w => hwD (e ▸ hfD))]
      refine ⟨a1, ?_⟩
      by_cases e : f = h
      · have hne := hS.ne_r hgD q
        rw [e] at a2 hne ⊢; exact hpt hne _ a2
      · exact ((hk f hfD e).all hG (hS.2.2.1 f hfD)).2.2.2.2.2 _ a2
  · rcases List.mem_cons.mp hf with e | e
    · rw [e]; exact hw
    · by_cases e2 : f = h
      · rw [e2]; exact hD
      · exact ((hk f e e2).all hG (hS.2.2.1 f e)).2.1
  · rcases hent x hx he with q | q
    · exact List.mem_append_left _ q
    · exact List.mem_append_right _ ((hmem x).mpr (hS.2.2.2.2 x hx q))
theorem mk_core {G : Geo} {d dF : Nat → Nat} {f a np bits own : Nat} {add : List Nat} {N : List Nat} {B : Nat → Nat} (hDk : DOK G d f)
    (H1 : lnk G dF f (cl G d f ++ add)) (H2 : ∀ t, t < (cl G d f).length * (16 * G.c) → (t < a ∨ a + np < t) → ¬ (dE G d f ≤ a + np + 1 ∧ t = a + np + 1) → sl d (dA G d f t) dF (sa G (cl G d f ++ add) t))
    (H3 : SLT dF (sa G (cl G d f ++ add) (a + np)) (cE B bits own)) (H3p : ∀ j, j < np → SLT dF (sa G (cl G d f ++ add) (a + np - 1 - j)) (cP (uN N j) (nuN np j) (smS B 0 11)))
    (H4 : dE G d f ≤ a + np + 1 → a + np + 1 < (cl G d f ++ add).length * (16 * G.c) → dF (sa G (cl G d f ++ add) (a + np + 1)) = 0)
    (H5 : a + np < (cl G d f ++ add).length * (16 * G.c)) (H5b : a ≤ dE G d f) (H5c : zf G f ≤ a) (H5d : ∀ t, a ≤ t → t ≤ a + np → t < dE G d f → d (dA G d f t) = 229)
    (H6 : a + np + 1 ≤ (cl G d f).length * (16 * G.c) → add = [])
    (H7 : ∀ e, e ∈ dI G d f → ¬ isDr d (dA G d f e.1) → ∀ y, y ∈ fc1 G d (dA G d f e.1) → ent G dF y = ent G d y)
    (H8 : (¬ ∃ e, e ∈ dI G d f ∧ shB d (dA G d f) B e) ∧ ¬ ∃ e, e ∈ dI G d f ∧ alk (nm d (dA G d f) e.1 e.2) N)
    (hN : nmOK N) (hN2 : ∀ x, x ∈ N → x < 65536) (hK : shK B) (hbits : bits = 32 ∨ bits = 48) (hown : own < 65536) (hfile : bits = 32 → own = 0) (hnp : np ≤ 20) (hcase : (np = 0 ∧ brOK N ∧ ∀ i, i < 11 → B i = brB N i) ∨ (1 ≤ np ∧ (N.length + 12) / 13 = np)) :
    DOK G dF f ∧ cl G dF f = cl G d f ++ add ∧ (dI G dF f).Perm ((a + np, np) :: dI G d f) ∧ (∃ r, dI G dF f = itm d (dA G d f) (zf G f) a ++ (a + np, np) :: r) ∧ (∀ e, e ∈ dI G d f → (isDr dF (dA G dF f e.1) ↔ isDr d (dA G d f e.1)) ∧ fcl dF (dA G dF f e.1) = fcl d (dA G d f e.1) ∧ (¬ isDr d (dA G d f e.1) → fc1 G dF (dA G dF f e.1) = fc1 G d (dA G d f e.1))) ∧ (f ≠ G.r → ∀ p, pts d (dA G d f 1) 1 p → pts dF (dA G dF f 1) 1 p) ∧ (isDr dF (dA G dF f (a + np)) ↔ bits = 48) ∧ fcl dF (dA G dF f (a + np)) = own ∧ fo dF (dA G dF f (a + np) + 28) = 0 := by
  have hcl : cl G dF f = cl G d f ++ add := cl_of H1
  have hdA : dA G dF f = sa G (cl G d f ++ add) := by unfold dA; rw [hcl]
  obtain ⟨A', hA'⟩ : ∃ A', A' = sa G (cl G d f ++ add) := ⟨_, rfl⟩
  obtain ⟨A, hA⟩ : ∃ A, A = dA G d f := ⟨_, rfl⟩
  obtain ⟨E, hE⟩ : ∃ E, E = dE G d f := ⟨_, rfl⟩
  obtain ⟨S, hS⟩ : ∃ S, S = (cl G d f).length * (16 * G.c) := ⟨_, rfl⟩
  obtain ⟨S', hS'⟩ : ∃ S', S' = (cl G d f ++ add).length * (16 * G.c) := ⟨_, rfl⟩
  obtain ⟨z, hz⟩ : ∃ z, z = zf G f := ⟨_, rfl⟩
  have hEle : E ≤ S := by rw [hE, hS]; exact dE_le G d f
  have hSS : S ≤ S' := by rw [hS, hS', List.length_append]; exact Nat.mul_le_mul_right _ (by omega)
  have hen : E = en d A S 0 := by rw [hE, hA, hS]; rfl
  rw [← hA, ← hA', ← hS, ← hE] at H2
  rw [← hA'] at H3 H3p H4 hdA
  rw [← hE, ← hS'] at H4
  rw [← hS'] at H5
  rw [← hE] at H5b
  rw [← hz] at H5c
  rw [← hA, ← hE] at H5d
  rw [← hS] at H6
  have hcl2 := hDk
  obtain ⟨D1, D2, D3, D4⟩ := hDk
  rw [← hA, ← hz, ← hE] at D3 D4
  rw [← hA] at D2 H7 H8
  -- the old items' slots
  have hE0 : 0 < E ∨ E = 0 := by omega
  have hne0 : ∀ t, t < E → d (A t) ≠ 0 := fun t ht => zl_ne (fun t => d (A t)) S 0 t (Nat.zero_le _) (by rw [hen] at ht; exact ht)
  have hkeep : ∀ t, t < E → (t < a ∨ a + np < t) → sl d (A t) dF (A' t) := fun t ht ho => H2 t (by omega) ho (fun w => by omega)
  have hitE : ∀ e, e ∈ dI G d f ↔ e ∈ itm d A z E := fun e => by unfold dI; rw [← hA, ← hz, ← hE]
  have hold : ∀ e, e ∈ dI G d f → sl d (A e.1) dF (A' e.1) ∧ (∀ j, j < e.2 → sl d (A (e.1 - 1 - j)) dF (A' (e.1 - 1 - j))) ∧ e.1 < E := fun e he => by
    obtain ⟨m1, m2, m3⟩ := (mem_itm E).mp ((hitE e).mp he)
    have hrn := rn_le (d := d) (A := A) (z := z) e.1
    refine ⟨hkeep e.1 m1 ?_, fun j hj => hkeep _ (by omega) ?_, m1⟩
    · apply Decidable.byContradiction
      intro w
      exact m2.2.2.1 (H5d e.1 (by omega) (by omega) m1)
    · apply Decidable.byContradiction
      intro w
      have hp := rn_part e.1 j (by omega : j < rn d A z e.1)
      exact hp.2.2.1 (H5d _ (by omega) (by omega) (by omega))
  have hnmk : ∀ e, e ∈ dI G d f → nm dF A' e.1 e.2 = nm d A e.1 e.2 := fun e he => by
    obtain ⟨o1, o2, o3⟩ := hold e he
    exact (nm_congr (fun _ i hi => o1 i (by omega)) (fun j hj i hi => o2 j hj i hi)).1
  -- the new one
  obtain ⟨n1, n2, n3, n4, n5, n6, n7, n8⟩ := e4_new (d := dF) (A := A') (s := a + np) hN hN2 hK hbits hown (by omega) hnp hcase H3 H3p
  have hB0 := n6 0 (by omega)
  rw [Nat.add_zero] at hB0
  have hB0b := hK.1 0 (by omega)
  have hisE : isE dF A' z (a + np) := ⟨by omega, by rw [hB0]; exact hK.2.2.1, by rw [hB0]; omega, by rw [n7]; rcases hbits with w | w <;> rw [w] <;> decide, by rw [n7]; rcases hbits with w | w <;> rw [w] <;> decide⟩
  have hzE : z ≤ E := by omega
  have hz2 : ∀ t, t < z → dF (A' t) ≠ 0 := fun t ht => by
    have := hkeep t (by omega) (Or.inl (by omega)) 0 (by omega)
    rw [Nat.add_zero, Nat.add_zero] at this
    rw [this]; exact hne0 t (by omega)
  have hend2 : a + np + 1 < E → E < S' → dF (A' E) = 0 := fun h1 h2 => by
    have hadd := H6 (by omega)
    have hSeq : S' = S := by rw [hS', hS, hadd, List.append_nil]
    have := H2 E (by omega) (Or.inr (by omega)) (fun w => by omega) 0 (by omega)
    rw [Nat.add_zero, Nat.add_zero] at this
    rw [this]
    have hz := zl_end (fun t => d (A t)) S 0 (by rw [hen, hSeq] at h2; unfold en at h2; omega)
    unfold en at hen
    rw [← hen] at hz
    exact hz
  obtain ⟨M1, M2, M3, M4, M5⟩ := mk_change (d := d) (A := A) (d' := dF) (A' := A') (z := z) (S := S) (S' := S') (a := a) (np := np) (E := E) hen H5c H5b H5 (by omega) hkeep (fun t t1 t2 t3 => H5d t t1 t2 t3) (fun t t1 t2 => by
      have := n8 (a + np - 1 - t) (by omega)
      rw [show a + np - 1 - (a + np - 1 - t) = t by omega] at this
      exact this) hisE H4 hend2 (fun t t1 t2 => (D3 t t1 t2).1) D4 n1 (fun e he => by
      have he' := (hitE e).mpr he
      obtain ⟨o1, o2, o3⟩ := hold e he'
      rintro (w | w)
      · refine H8.1 ⟨e, he', fun i hi => ?_⟩
        have h1 := w i hi
        rw [n6 i hi, o1 i (by omega)] at h1
        exact h1.symm
      · rw [n2, hnmk e he'] at w
        exact H8.2 ⟨e, he', w.symm⟩) hz2 hzE
  have hdE : dE G dF f = max E (a + np + 1) := by
    unfold dE
    rw [hdA, hcl, ← hS']; exact M1
  have hdI : dI G dF f = itm dF A' z (max E (a + np + 1)) := by unfold dI; rw [hdA, ← hz, hdE]
  have hmem : ∀ e, e ∈ dI G dF f ↔ e ∈ dI G d f ∨ e = (a + np, np) := fun e => by rw [hdI, hitE]; exact M3 e
  have hnew : (a + np, np) ∉ dI G d f := fun w => by
    obtain ⟨m1, m2, m3⟩ := (mem_itm E).mp ((hitE _).mp w)
    exact m2.2.2.1 (H5d _ (by omega) (Nat.le_refl _) m1)
  have hitem : ∀ e, e ∈ dI G d f → (isDr dF (A' e.1) ↔ isDr d (A e.1)) ∧ fcl dF (A' e.1) = fcl d (A e.1) ∧ (¬ isDr d (A e.1) → fOK G dF (A' e.1) ∧ fc1 G dF (A' e.1) = fc1 G d (A e.1)) := fun e he => by
    obtain ⟨o1, o2, o3⟩ := hold e he
    have e11 := o1 11 (by omega)
    refine ⟨by unfold isDr; rw [e11], o1.fclE, fun hnd => ?_⟩
    have hf : fOK G d (A e.1) := by rw [hA] at hnd ⊢; exact (hcl2.ent he).2.2.2.2 hnd
    exact fOK_keep (o1.foE (i := 28) (by omega)) o1.fclE hf (fun y hy => H7 e he hnd y hy)
  have hpts : ∀ k x, k < z → pts d (A k) k x → pts dF (A' k) k x := fun k x hk hp => by
    have hs := hkeep k (by omega) (Or.inl (by omega))
    exact ⟨fun i hi => by rw [hs i (by omega)]; exact hp.1 i hi, by rw [hs 11 (by omega)]; exact hp.2.1, by rw [hs.fclE]; exact hp.2.2⟩
  refine ⟨⟨by rw [hcl]; exact H1, fun hfr => ?_, fun t t1 t2 => ?_, ?_⟩, hcl, ?_, ?_, fun e he => ?_, fun hfr p hp => ?_, by rw [hdA]; exact n3, by rw [hdA]; exact n4, by rw [hdA]; exact n5⟩
  · have h2 : z = 2 := by
      rcases zf_cases G f with ⟨w1, _⟩ | ⟨_, w2⟩
      · exact absurd w1 hfr
      · omega
    obtain ⟨q1, x, q2⟩ := D2 hfr
    rw [hdA]
    exact ⟨hpts 0 f (by omega) q1, x, hpts 1 x (by omega) q2⟩
  · rw [hdA]
    rw [← hz] at t1 ⊢
    rw [hdE] at t2
    refine ⟨M4 t t1 t2, fun hE2 hnd => ?_⟩
    have hin : (t, rn dF A' z t) ∈ dI G dF f := by
      rw [hdI]; exact (mem_itm _).mpr ⟨t2, hE2, rfl⟩
    rcases (hmem _).mp hin with w | w
    · have := hitem _ w
      exact (this.2.2 (fun q => hnd (this.1.mpr q))).1
    · have ht : t = a + np := (Prod.mk.inj w).1
      rw [ht] at hnd ⊢
      have hb32 : bits = 32 := hbits.resolve_right (fun q => hnd (n3.mpr q))
      exact Or.inl ⟨n5, by rw [n4]; exact hfile hb32⟩
  · rw [hdA, ← hz, hdE]; exact M5
  · refine perm_of_mem itm_nodup (List.nodup_cons.mpr ⟨hnew, itm_nodup⟩) (fun x => ?_)
    rw [List.mem_cons, hmem]
    exact ⟨fun w => w.elim Or.inr Or.inl, fun w => w.elim Or.inr Or.inl⟩
  · obtain ⟨r, hr⟩ := itm_mono dF A' z (a + np + 1) (max E (a + np + 1) - (a + np + 1))
    refine ⟨r, ?_⟩
    rw [hdI, show max E (a + np + 1) = a + np + 1 + (max E (a + np + 1) - (a + np + 1)) by omega, hr, M2, ← hA, ← hz]
    simp
  · rw [hdA, ← hA]
    have := hitem e he
    exact ⟨this.1, this.2.1, fun w => (this.2.2 w).2⟩
  · have h2 : z = 2 := by
      rcases zf_cases G f with ⟨w1, _⟩ | ⟨_, w2⟩
      · exact absurd w1 hfr
      · omega
    rw [hdA]
    rw [← hA] at hp
    exact hpts 1 p (by omega) hp
