/-! changes in one directory keep a volume sound -/
theorem split_at {D : List Nat} (hn : D.Nodup) {h : Nat} (hh : h ∈ D) : ∃ D0, D.Perm (h :: D0) ∧ (∀ f, f ∈ D0 → f ∈ D ∧ f ≠ h) := by
  refine ⟨D.erase h, List.perm_cons_erase hh, fun f hf => ⟨List.mem_of_mem_erase hf, fun e => ?_⟩⟩
  have := (List.perm_cons_erase hh).nodup_iff.mp hn
  exact (List.nodup_cons.mp this).1 (e ▸ hf)
theorem Snd.ownC {G : Geo} {d : Nat → Nat} {D : List Nat} {ρ : Nat → Nat} (hS : Snd G d D ρ) {y : Nat} (hy : y ∈ D.flatMap (own G d)) : isC G y ∧ ent G d y ≠ 0 := by
  obtain ⟨f, f1, f2⟩ := List.mem_flatMap.mp hy
  exact own_ent (hS.2.2.1 f f1) f2
/-- the clusters after a change: what h owns now, and the rest -/
theorem own_change {G : Geo} {d d' : Nat → Nat} {D D0 : List Nat} {ρ : Nat → Nat} {h : Nat} (hS : Snd G d D ρ) (hp : D.Perm (h :: D0)) {add del : List Nat} (hown : (own G d' h ++ del).Perm (own G d h ++ add)) (hadd : add.Nodup ∧ ∀ y, y ∈ add → isC G y ∧ ent G d y = 0) (hdel : ∀ y, y ∈ del → y ∈ own G d h) (hent : ∀ y, isC G y → ent G d' y ≠ 0 → y ∈ add ∨ (ent G d y ≠ 0 ∧ y ∉ del)) : (own G d' h ++ D0.flatMap (own G d)).Nodup ∧ (∀ x, isC G x → ent G d' x ≠ 0 → x ∈ own G d' h ++ D0.flatMap (own G d)) := by
  have hn := (hp.flatMap_right (own G d)).nodup_iff.mp hS.2.2.2.1
  rw [List.flatMap_cons] at hn
  have hmem : ∀ y, y ∈ own G d h ++ D0.flatMap (own G d) ↔ y ∈ D.flatMap (own G d) := fun y => by
    rw [(hp.flatMap_right (own G d)).mem_iff, List.flatMap_cons]
  have hfree : ∀ y, y ∈ add → y ∉ own G d h ++ D0.flatMap (own G d) := fun y hy hm => (hS.ownC ((hmem y).mp hm)).2 (hadd.2 y hy).2
  have hall : (add ++ (own G d h ++ D0.flatMap (own G d))).Nodup := List.nodup_append.mpr ⟨hadd.1, hn, fun a ha b hb e => hfree a ha (e ▸ hb)⟩
  have hperm : (add ++ (own G d h ++ D0.flatMap (own G d))).Perm (del ++ (own G d' h ++ D0.flatMap (own G d))) := by
    rw [← List.append_assoc, ← List.append_assoc]
    refine List.Perm.append_right _ ?_
    exact List.perm_append_comm.trans (hown.symm.trans List.perm_append_comm)
  have hall2 := List.nodup_append.mp (hperm.nodup_iff.mp hall)
  refine ⟨hall2.2.1, fun x hx he => ?_⟩
  rcases hent x hx he with q | ⟨q1, q2⟩
  · have : x ∈ own G d' h ++ del := hown.mem_iff.mpr (List.mem_append_right _ q)
    rcases List.mem_append.mp this with w | w
    · exact List.mem_append_left _ w
    · exact absurd (List.mem_append_left _ (hdel x w)) (hfree x q)
  · rcases List.mem_append.mp ((hmem x).mpr (hS.2.2.2.2 x hx q1)) with w | w
    · have : x ∈ own G d' h ++ del := hown.mem_iff.mpr (List.mem_append_left _ w)
      rcases List.mem_append.mp this with w2 | w2
      · exact List.mem_append_left _ w2
      · exact absurd w2 q2
    · exact List.mem_append_right _ w
/-- no directory comes or goes -/
theorem Snd_A {G : Geo} {d d' : Nat → Nat} {D : List Nat} {ρ : Nat → Nat} {h : Nat} (hG : 1 ≤ G.c) (hS : Snd G d D ρ) (hh : h ∈ D) (hk : ∀ f, f ∈ D → f ≠ h → kept G d d' f) (hD : DOK G d' h) (hsub : (sub G d' h).Perm (sub G d h)) (hpt : ∀ p, pts d (dA G d h 1) 1 p → pts d' (dA G d' h 1) 1 p) {add del : List Nat} (hown : (own G d' h ++ del).Perm (own G d h ++ add)) (hadd : add.Nodup ∧ ∀ y, y ∈ add → isC G y ∧ ent G d y = 0) (hdel : ∀ y, y ∈ del → y ∈ own G d h) (hent : ∀ y, isC G y → ent G d' y ≠ 0 → y ∈ add ∨ (ent G d y ≠ 0 ∧ y ∉ del)) : Snd G d' D ρ := by
  obtain ⟨D0, hp, h0⟩ := split_at hS.nodup hh
  have hk' : ∀ f, f ∈ D0 → _ := fun f hf => (hk f (h0 f hf).1 (h0 f hf).2).all hG (hS.2.2.1 f (h0 f hf).1)
  have hsubP : (D.flatMap (sub G d')).Perm (D.flatMap (sub G d)) := by
    refine (hp.flatMap_right (sub G d')).trans (List.Perm.trans ?_ (hp.flatMap_right (sub G d)).symm)
    rw [List.flatMap_cons, List.flatMap_cons, fmC D0 (fun f hf => (hk' f hf).2.2.1)]
    exact List.Perm.append_right _ hsub
  have e0 : D0.flatMap (own G d') = D0.flatMap (own G d) := fmC D0 (fun f hf => (hk' f hf).2.2.2.1)
  obtain ⟨c1, c2⟩ := own_change hS hp hown hadd hdel hent
  rw [← e0, ← List.flatMap_cons] at c1
  refine ⟨hS.1.trans (hsubP.symm.cons _), fun g hg f hf => ?_, fun f hf => ?_, (hp.flatMap_right (own G d')).nodup_iff.mpr c1, fun x hx he => ?_⟩
  · have hf2 : f ∈ sub G d g := by
      by_cases e : g = h
      · rw [e] at hf ⊢; exact hsub.mem_iff.mp hf
      · rw [((hk g hg e).all hG (hS.2.2.1 g hg)).2.2.1] at hf; exact hf
    obtain ⟨a1, a2⟩ := hS.2.1 g hg f hf2
    refine ⟨a1, ?_⟩
    by_cases e : f = h
    · rw [e] at a2 ⊢; exact hpt _ a2
    · have hfD : f ∈ D := hS.1.mem_iff.mpr (List.mem_cons_of_mem _ (List.mem_flatMap.mpr ⟨g, hg, hf2⟩))
      exact ((hk f hfD e).all hG (hS.2.2.1 f hfD)).2.2.2.2.2 _ a2
  · by_cases e : f = h
    · rw [e]; exact hD
    · exact ((hk f hf e).all hG (hS.2.2.1 f hf)).2.1
  · have := c2 x hx he
    rw [← e0, ← List.flatMap_cons] at this
    exact (hp.flatMap_right (own G d')).mem_iff.mpr this
/-- a directory comes, in a cluster of its own -/
theorem Snd_B {G : Geo} {d d' : Nat → Nat} {D : List Nat} {ρ : Nat → Nat} {h w : Nat} (hG : 1 ≤ G.c) (hS : Snd G d D ρ) (hh : h ∈ D) (hk : ∀ f, f ∈ D → f ≠ h → kept G d d' f) (hD : DOK G d' h) (hsub : (sub G d' h).Perm (w :: sub G d h)) (hpt : ∀ p, pts d (dA G d h 1) 1 p → pts d' (dA G d' h 1) 1 p) (hw : DOK G d' w) (hws : sub G d' w = []) (hwp : pts d' (dA G d' w 1) 1 (pz G h)) {add : List Nat} (hown : (own G d' h ++ own G d' w).Perm (own G d h ++ add)) (hadd : add.Nodup ∧ ∀ y, y ∈ add → isC G y ∧ ent G d y = 0) (hwa : w ∈ add) (hent : ∀ y, isC G y → ent G d' y ≠ 0 → y ∈ add ∨ ent G d y ≠ 0) : Snd G d' (w :: D) (fun x => if x = w then ρ h + 1 else ρ x) := by
  obtain ⟨D0, hp, h0⟩ := split_at hS.nodup hh
  have hwD : w ∉ D := fun q => (hS.ownC (List.mem_flatMap.mpr ⟨w, q, own_self (hS.2.2.1 w q)⟩)).2 (hadd.2 w hwa).2
  have hk' : ∀ f, f ∈ D0 → _ := fun f hf => (hk f (h0 f hf).1 (h0 f hf).2).all hG (hS.2.2.1 f (h0 f hf).1)
  have hsubP : (D.flatMap (sub G d')).Perm (w :: D.flatMap (sub G d)) := by
    refine (hp.flatMap_right (sub G d')).trans (List.Perm.trans ?_ ((hp.flatMap_right (sub G d)).symm.cons w))
    rw [List.flatMap_cons, List.flatMap_cons, fmC D0 (fun f hf => (hk' f hf).2.2.1), ← List.cons_append]
    exact List.Perm.append_right _ hsub
  have e0 : D0.flatMap (own G d') = D0.flatMap (own G d) := fmC D0 (fun f hf => (hk' f hf).2.2.2.1)
  have hn := (hp.flatMap_right (own G d)).nodup_iff.mp hS.2.2.2.1
  rw [List.flatMap_cons] at hn
  have hmem : ∀ y, y ∈ own G d h ++ D0.flatMap (own G d) ↔ y ∈ D.flatMap (own G d) := fun y => by
    rw [(hp.flatMap_right (own G d)).mem_iff, List.flatMap_cons]
  have hfree : ∀ y, y ∈ add → y ∉ own G d h ++ D0.flatMap (own G d) := fun y hy hm => (hS.ownC ((hmem y).mp hm)).2 (hadd.2 y hy).2
  have hall : (add ++ (own G d h ++ D0.flatMap (own G d))).Nodup := List.nodup_append.mpr ⟨hadd.1, hn, fun a ha b hb e => hfree a ha (e ▸ hb)⟩
  have hperm : (add ++ (own G d h ++ D0.flatMap (own G d))).Perm ((w :: D).flatMap (own G d')) := by
    rw [List.flatMap_cons]
    refine List.Perm.trans ?_ (List.Perm.append_left _ (hp.flatMap_right (own G d')).symm)
    rw [List.flatMap_cons, e0, ← List.append_assoc, ← List.append_assoc]
    refine List.Perm.append_right _ ?_
    exact List.perm_append_comm.trans (hown.symm.trans List.perm_append_comm)
  refine ⟨?_, fun g hg f hf => ?_, fun f hf => ?_, hperm.nodup_iff.mp hall, fun x hx he => hperm.mem_iff.mp ?_⟩
  · rw [List.flatMap_cons, hws, List.nil_append]
    refine (hS.1.cons w).trans ((List.Perm.swap G.r w _).trans (List.Perm.cons _ hsubP.symm))
  · have hgD : g ∈ D := by
      rcases List.mem_cons.mp hg with e | e
      · rw [e, hws] at hf; exact absurd hf (by simp)
      · exact e
    have hgw : g ≠ w := fun e => hwD (e ▸ hgD)
    show (if g = w then ρ h + 1 else ρ g) < (if f = w then ρ h + 1 else ρ f) ∧ _
    rw [if_neg hgw]
    have hf2 : (g = h ∧ f = w) ∨ f ∈ sub G d g := by
      by_cases e : g = h
      · rw [e] at hf ⊢
        rcases List.mem_cons.mp (hsub.mem_iff.mp hf) with q | q
        · exact Or.inl ⟨rfl, q⟩
        · exact Or.inr q
      · rw [((hk g hgD e).all hG (hS.2.2.1 g hgD)).2.2.1] at hf; exact Or.inr hf
    rcases hf2 with ⟨q1, q2⟩ | q
    · rw [if_pos q2, q1, q2]
      exact ⟨by omega, hwp⟩
    · obtain ⟨a1, a2⟩ := hS.2.1 g hgD f q
      have hfD : f ∈ D := hS.1.mem_iff.mpr (List.mem_cons_of_mem _ (List.mem_flatMap.mpr ⟨g, hgD, q⟩))
      rw [if_neg (fun e : f = w => hwD (e ▸ hfD))]
      refine ⟨a1, ?_⟩
      by_cases e : f = h
      · rw [e] at a2 ⊢; exact hpt _ a2
      · exact ((hk f hfD e).all hG (hS.2.2.1 f hfD)).2.2.2.2.2 _ a2
  · rcases List.mem_cons.mp hf with e | e
    · rw [e]; exact hw
    · by_cases e2 : f = h
      · rw [e2]; exact hD
      · exact ((hk f e e2).all hG (hS.2.2.1 f e)).2.1
  · rcases hent x hx he with q | q
    · exact List.mem_append_left _ q
    · exact List.mem_append_right _ ((hmem x).mpr (hS.2.2.2.2 x hx q))
/-- an empty directory goes -/
theorem Snd_C {G : Geo} {d d' : Nat → Nat} {D : List Nat} {ρ : Nat → Nat} {h w : Nat} (hG : 1 ≤ G.c) (hS : Snd G d D ρ) (hh : h ∈ D) (hk : ∀ f, f ∈ D → f ≠ h → f ≠ w → kept G d d' f) (hD : DOK G d' h) (hsub : (sub G d h).Perm (w :: sub G d' h)) (hpt : ∀ p, pts d (dA G d h 1) 1 p → pts d' (dA G d' h 1) 1 p) (hws : sub G d w = []) (hown : (own G d' h).Perm (own G d h)) (hent : ∀ y, isC G y → ent G d' y ≠ 0 → ent G d y ≠ 0 ∧ y ∉ own G d w) : ∃ D', Snd G d' D' ρ ∧ ∀ f, f ∈ D → f ≠ w → f ∈ D' := by
  have hwsub : w ∈ sub G d h := hsub.mem_iff.mpr List.mem_cons_self
  have hwD : w ∈ D := hS.1.mem_iff.mpr (List.mem_cons_of_mem _ (List.mem_flatMap.mpr ⟨h, hh, hwsub⟩))
  have hwh : w ≠ h := fun e => by
    have := (hS.2.1 h hh w hwsub).1
    rw [e] at this; omega
  obtain ⟨D1, hp1, h1⟩ := split_at hS.nodup hwD
  have hn1 : D1.Nodup := (List.nodup_cons.mp (hp1.nodup_iff.mp hS.nodup)).2
  have hh1 : h ∈ D1 := by
    rcases List.mem_cons.mp (hp1.mem_iff.mp hh) with e | e
    · exact absurd e.symm hwh
    · exact e
  obtain ⟨D0, hp, h0⟩ := split_at hn1 hh1
  have hk' : ∀ f, f ∈ D0 → _ := fun f hf => (hk f (h1 f (h0 f hf).1).1 (h0 f hf).2 (h1 f (h0 f hf).1).2).all hG (hS.2.2.1 f (h1 f (h0 f hf).1).1)
  have hP : D.Perm (w :: h :: D0) := hp1.trans (hp.cons w)
  have e0 : D0.flatMap (own G d') = D0.flatMap (own G d) := fmC D0 (fun f hf => (hk' f hf).2.2.2.1)
  have es : D0.flatMap (sub G d') = D0.flatMap (sub G d) := fmC D0 (fun f hf => (hk' f hf).2.2.1)
  have hn := (hP.flatMap_right (own G d)).nodup_iff.mp hS.2.2.2.1
  rw [List.flatMap_cons, List.flatMap_cons] at hn
  have hperm : (own G d h ++ D0.flatMap (own G d)).Perm (D1.flatMap (own G d')) := by
    refine List.Perm.trans ?_ (hp.flatMap_right (own G d')).symm
    rw [List.flatMap_cons, e0]
    exact List.Perm.append_right _ hown.symm
  refine ⟨D1, ⟨?_, fun g hg f hf => ?_, fun f hf => ?_, hperm.nodup_iff.mp (List.nodup_append.mp hn).2.1, fun x hx he => hperm.mem_iff.mp ?_⟩, fun f hf hfw => ?_⟩
  · have a1 : (w :: D1).Perm (G.r :: (w :: D1).flatMap (sub G d)) := hp1.symm.trans (hS.1.trans ((hp1.flatMap_right (sub G d)).cons _))
    rw [List.flatMap_cons, hws, List.nil_append] at a1
    have a2 : (D1.flatMap (sub G d)).Perm (w :: D1.flatMap (sub G d')) := by
      refine (hp.flatMap_right (sub G d)).trans (List.Perm.trans ?_ ((hp.flatMap_right (sub G d')).symm.cons w))
      rw [List.flatMap_cons, List.flatMap_cons, es, ← List.cons_append]
      exact List.Perm.append_right _ hsub
    exact List.Perm.cons_inv (a1.trans ((a2.cons _).trans (List.Perm.swap w G.r _)))
  · have hgD := (h1 g hg).1
    have hf2 : f ∈ sub G d g := by
      by_cases e : g = h
      · rw [e] at hf ⊢; exact hsub.mem_iff.mpr (List.mem_cons_of_mem _ hf)
      · rw [((hk g hgD e (h1 g hg).2).all hG (hS.2.2.1 g hgD)).2.2.1] at hf; exact hf
    obtain ⟨a1, a2⟩ := hS.2.1 g hgD f hf2
    refine ⟨a1, ?_⟩
    have hfD : f ∈ D := hS.1.mem_iff.mpr (List.mem_cons_of_mem _ (List.mem_flatMap.mpr ⟨g, hgD, hf2⟩))
    have hfw : f ≠ w := by
      intro e
      have hnd := (hS.1.nodup_iff.mp hS.nodup)
      have hnd2 := (List.nodup_cons.mp hnd).2
      have hnd3 := (hP.flatMap_right (sub G d)).nodup_iff.mp hnd2
      rw [List.flatMap_cons, List.flatMap_cons, hws, List.nil_append] at hnd3
      have hnd4 := List.nodup_append.mp hnd3
      by_cases eg : g = h
      · rw [eg, e] at hf
        have := List.nodup_cons.mp (hsub.nodup_iff.mp hnd4.1)
        exact this.1 hf
      · have hg0 : g ∈ D0 := by
          rcases List.mem_cons.mp (hp.mem_iff.mp hg) with q | q
          · exact absurd q eg
          · exact q
        exact hnd4.2.2 w hwsub w (List.mem_flatMap.mpr ⟨g, hg0, e ▸ hf2⟩) rfl
    by_cases e : f = h
    · rw [e] at a2 ⊢; exact hpt _ a2
    · exact ((hk f hfD e hfw).all hG (hS.2.2.1 f hfD)).2.2.2.2.2 _ a2
  · by_cases e2 : f = h
    · rw [e2]; exact hD
    · exact ((hk f (h1 f hf).1 e2 (h1 f hf).2).all hG (hS.2.2.1 f (h1 f hf).1)).2.1
  · obtain ⟨q1, q2⟩ := hent x hx he
    have := (hP.flatMap_right (own G d)).mem_iff.mp (hS.2.2.2.2 x hx q1)
    rw [List.flatMap_cons, List.flatMap_cons] at this
    rcases List.mem_append.mp this with q | q
    · exact absurd q q2
    · exact q
  · rcases List.mem_cons.mp (hp1.mem_iff.mp hf) with e | e
    · exact absurd e hfw
    · exact e
