/-! sound is: no fault -/
theorem sub_perm {α : Type} [DecidableEq α] : ∀ (V D : List α), V.Nodup → (∀ x, x ∈ V → x ∈ D) → ∃ W, D.Perm (V ++ W) := by
  intro V
  induction V with
  | nil => intro D _ _; exact ⟨D, List.Perm.refl _⟩
  | cons v V ih =>
    intro D hn hs
    have h := List.nodup_cons.mp hn
    obtain ⟨W, hW⟩ := ih (D.erase v) h.2 (fun x hx => (List.mem_erase_of_ne (fun e : x = v => h.1 (e ▸ hx))).mpr (hs x (List.mem_cons_of_mem _ hx)))
    exact ⟨W, (List.perm_cons_erase (hs v List.mem_cons_self)).trans (hW.cons v)⟩
theorem flat_nodup {α β : Type} [DecidableEq α] {V D : List α} {F : α → List β} (hn : V.Nodup) (hs : ∀ x, x ∈ V → x ∈ D) (h : (D.flatMap F).Nodup) : (V.flatMap F).Nodup := by
  obtain ⟨W, hW⟩ := sub_perm V D hn hs
  have := (hW.flatMap_right F).nodup_iff.mp h
  rw [List.flatMap_append] at this
  exact (List.nodup_append.mp this).1
theorem nodup_flat {F : Nat → List Nat} : ∀ (D : List Nat), (∀ x, x ∈ D → x ∈ F x) → (D.flatMap F).Nodup → D.Nodup := by
  intro D
  induction D with
  | nil => intro _ _; exact List.nodup_nil
  | cons x D ih =>
    intro h hn
    rw [List.flatMap_cons] at hn
    have hn2 := List.nodup_append.mp hn
    refine List.nodup_cons.mpr ⟨fun hx => ?_, ih (fun y hy => h y (List.mem_cons_of_mem _ hy)) hn2.2.1⟩
    have hxx := h x List.mem_cons_self
    exact hn2.2.2 x hxx x (List.mem_flatMap.mpr ⟨x, hx, hxx⟩) rfl
theorem sp_fst (G : Geo) (d : Nat → Nat) (V : List (Nat × Nat)) : (V.flatMap (sp G d)).map Prod.fst = (V.map Prod.fst).flatMap (sub G d) := by
  induction V with
  | nil => rfl
  | cons v V ih =>
    rw [List.flatMap_cons, List.map_append, ih, List.map_cons, List.flatMap_cons]
    congr 1
    unfold sp
    rw [List.map_map]
    exact List.map_id _
theorem own_fst (G : Geo) (d : Nat → Nat) (V : List (Nat × Nat)) : V.flatMap (fun v => own G d v.1) = (V.map Prod.fst).flatMap (own G d) := by
  rw [List.flatMap_map]
theorem own_self {G : Geo} {d : Nat → Nat} {f : Nat} (h : DOK G d f) : f ∈ own G d f := List.mem_append_left _ (lnk_head h.1)
theorem Snd.nodup {G : Geo} {d : Nat → Nat} {D : List Nat} {ρ : Nat → Nat} (h : Snd G d D ρ) : D.Nodup := nodup_flat D (fun f hf => own_self (h.2.2.1 f hf)) h.2.2.2.1
theorem Snd.ne_r {G : Geo} {d : Nat → Nat} {D : List Nat} {ρ : Nat → Nat} (h : Snd G d D ρ) {g f : Nat} (hg : g ∈ D) (hf : f ∈ sub G d g) : f ≠ G.r := fun e => by
  have := List.nodup_cons.mp (h.1.nodup_iff.mp h.nodup)
  exact this.1 (e ▸ List.mem_flatMap.mpr ⟨g, hg, hf⟩)
theorem Snd_fwd {G : Geo} {d : Nat → Nat} (hG : 1 ≤ G.c) {n : Nat} (h : (bfs G d n [(G.r, 0)] []).1 = 0) (hl : ¬ lst G d (bfs G d n [(G.r, 0)] []).2) : ∃ D ρ, Snd G d D ρ := by
  obtain ⟨V, ρ, c1, c2, c3, c4, c5⟩ := bfs_fwd hG n _ _ List.nodup_nil h
  rw [List.append_nil] at c3
  have hD : V.map Prod.fst = G.r :: (V.map Prod.fst).flatMap (sub G d) := by
    conv => lhs; rw [c1]
    rw [List.map_append, sp_fst]
    rfl
  have hok : ∀ f, f ∈ V.map Prod.fst → DOK G d f := fun f hf => by
    obtain ⟨v, hv, rfl⟩ := List.mem_map.mp hf
    exact (c2 v hv).1
  have hno : ((V.map Prod.fst).flatMap (own G d)).Nodup := by
    rw [← own_fst]; exact c3.nodup_iff.mp c4
  have hDn : (V.map Prod.fst).Nodup := nodup_flat _ (fun f hf => own_self (hok f hf)) hno
  refine ⟨V.map Prod.fst, ρ, by rw [← hD], ?_, hok, hno, ?_⟩
  · intro g hg f hf
    obtain ⟨v, hv, rfl⟩ := List.mem_map.mp hg
    refine ⟨c5 v hv f hf, ?_⟩
    have hm : (f, pz G v.1) ∈ V := by
      rw [c1]
      exact List.mem_append_right _ (List.mem_flatMap.mpr ⟨v, hv, List.mem_map.mpr ⟨f, hf, rfl⟩⟩)
    refine (c2 _ hm).2 (fun e => ?_)
    rw [hD] at hDn
    exact (List.nodup_cons.mp hDn).1 (e ▸ List.mem_flatMap.mpr ⟨v.1, hg, hf⟩)
  · intro x hx he
    rw [← own_fst]
    refine c3.mem_iff.mp (Decidable.byContradiction (fun q => hl ⟨x, by omega, by omega, he, q⟩))
theorem bfs_bwd {G : Geo} {d : Nat → Nat} (hG : 1 ≤ G.c) {D : List Nat} {ρ : Nat → Nat} (hS : Snd G d D ρ) : ∀ (n : Nat) (V Q : List (Nat × Nat)) (ms : List Nat), V ++ Q = (G.r, 0) :: V.flatMap (sp G d) → (∀ x, x ∈ V.map Prod.fst → x ∈ D) → (V.map Prod.fst).Nodup → ms.Perm ((V.map Prod.fst).flatMap (own G d)) → D.length < V.length + n → (bfs G d n Q ms).1 = 0 ∧ ∃ V' : List Nat, (bfs G d n Q ms).2.Perm (V'.flatMap (own G d)) ∧ V' = G.r :: V'.flatMap (sub G d) := by
  have hDn := hS.nodup
  have hDn2 := hS.1.nodup_iff.mp hDn
  intro n
  induction n with
  | zero =>
    intro V Q ms h1 h2 h3 h4 h5
    exfalso
    obtain ⟨W, hW⟩ := sub_perm _ D h3 h2
    have := hW.length_eq
    rw [List.length_append, List.length_map] at this
    omega
  | succ n ih =>
    intro V Q ms h1 h2 h3 h4 h5
    cases Q with
    | nil =>
      rw [bfs]
      refine ⟨rfl, V.map Prod.fst, h4, ?_⟩
      rw [List.append_nil] at h1
      conv => lhs; rw [h1]
      rw [List.map_cons, sp_fst]
    | cons q Q =>
      obtain ⟨f, p⟩ := q
      have hf1 : V.map Prod.fst ++ f :: Q.map Prod.fst = G.r :: (V.map Prod.fst).flatMap (sub G d) := by
        have := congrArg (List.map Prod.fst) h1
        rw [List.map_append, List.map_cons, List.map_cons, sp_fst] at this
        exact this
      have hVn : (G.r :: (V.map Prod.fst).flatMap (sub G d)).Nodup := by
        obtain ⟨W, hW⟩ := sub_perm _ D h3 h2
        have := ((hW.flatMap_right (sub G d)).cons G.r).nodup_iff.mp hDn2
        rw [List.flatMap_append, ← List.cons_append] at this
        exact (List.nodup_append.mp this).1
      rw [← hf1] at hVn
      have hfV : f ∉ V.map Prod.fst := fun q => (List.nodup_append.mp hVn).2.2 f q f List.mem_cons_self rfl
      have hfm : (f, p) = (G.r, 0) ∨ (f, p) ∈ V.flatMap (sp G d) := by
        have : (f, p) ∈ (G.r, 0) :: V.flatMap (sp G d) := by rw [← h1]; exact List.mem_append_right _ List.mem_cons_self
        exact List.mem_cons.mp this
      have hfD : f ∈ D := by
        refine hS.1.mem_iff.mpr ?_
        rcases hfm with e | e
        · rw [(Prod.mk.inj e).1]; exact List.mem_cons_self
        · obtain ⟨v, hv, he⟩ := List.mem_flatMap.mp e
          obtain ⟨x, hx, hxe⟩ := List.mem_map.mp he
          refine List.mem_cons_of_mem _ (List.mem_flatMap.mpr ⟨v.1, h2 _ (List.mem_map.mpr ⟨v, hv, rfl⟩), ?_⟩)
          rw [← (Prod.mk.inj hxe).1]; exact hx
      have hok := hS.2.2.1 f hfD
      have hpt : f ≠ G.r → pts d (dA G d f 1) 1 p := by
        intro hr
        rcases hfm with e | e
        · exact absurd (Prod.mk.inj e).1 hr
        · obtain ⟨v, hv, he⟩ := List.mem_flatMap.mp e
          obtain ⟨x, hx, hxe⟩ := List.mem_map.mp he
          have := (hS.2.1 v.1 (h2 _ (List.mem_map.mpr ⟨v, hv, rfl⟩)) x hx).2
          rw [(Prod.mk.inj hxe).1, (Prod.mk.inj hxe).2] at this
          exact this
      have hVf : (V.map Prod.fst ++ [f]).Nodup := List.nodup_append.mpr ⟨h3, by simp, fun a ha b hb hab => hfV (by rw [List.mem_singleton.mp hb] at hab; exact hab ▸ ha)⟩
      have hsub : ∀ x, x ∈ V.map Prod.fst ++ [f] → x ∈ D := fun x hx => by
        rcases List.mem_append.mp hx with e | e
        · exact h2 x e
        · rw [List.mem_singleton.mp e]; exact hfD
      have hon := flat_nodup hVf hsub hS.2.2.2.1
      rw [List.flatMap_append] at hon
      have hone : [f].flatMap (own G d) = own G d f := by simp
      rw [hone] at hon
      have hon2 := ((List.Perm.append_right (own G d f) h4)).nodup_iff.mpr hon
      have eo : own G d f = cl G d f ++ fcs G d (dA G d f) (dI G d f) := rfl
      have hch : chS G d (G.k + 1) ms f = some (cl G d f) := chS_iff.mpr ⟨hok.1, fun y hy hm => (List.nodup_append.mp hon2).2.2 y hm y (by rw [eo]; exact List.mem_append_left _ hy) rfl⟩
      rw [bfs, hch]
      simp only
      have hn3 : (own G d f ++ ms).Nodup := List.perm_append_comm.nodup_iff.mp hon2
      have hn1 : (cl G d f ++ ms).Nodup := by
        rw [eo, List.append_assoc] at hn3
        have h := List.nodup_append.mp hn3
        refine List.nodup_append.mpr ⟨h.1, (List.nodup_append.mp h.2.1).2.1, fun a ha b hb => h.2.2 a ha b (List.mem_append_right _ hb)⟩
      have hn4 : (fcs G d (dA G d f) (dI G d f) ++ (cl G d f ++ ms)).Nodup := by
        refine List.Perm.nodup_iff ?_ |>.mp hn3
        rw [eo, ← List.append_assoc]
        exact List.Perm.append_right ms List.perm_append_comm
      have h0 : (dirF G d (cl G d f) (cl G d f ++ ms) f p).1 = 0 := (dirF_iff hG hok.1 hn1).mpr ⟨hok, hpt, hn4⟩
      obtain ⟨b1, b2, b3⟩ := dirF_snd hG hok.1 hn1 h0
      rw [if_neg (by rw [h0]; decide), b3]
      refine ih (V ++ [(f, p)]) _ _ ?_ ?_ ?_ ?_ ?_
      · rw [List.flatMap_append, ← List.cons_append, ← h1]
        simp [sp]
      · rw [List.map_append]; exact hsub
      · rw [List.map_append]; exact hVf
      · rw [List.map_append, List.flatMap_append]
        show _
        refine b1.trans ?_
        rw [List.map_cons, List.map_nil, hone, eo]
        refine List.Perm.trans ?_ (List.Perm.append_right _ h4)
        rw [← List.append_assoc]
        exact (List.Perm.append_right ms List.perm_append_comm).trans List.perm_append_comm
      · rw [List.length_append]; simp only [List.length_cons, List.length_nil]; omega
theorem Snd_bwd {G : Geo} {d : Nat → Nat} (hG : 1 ≤ G.c) {D : List Nat} {ρ : Nat → Nat} (hS : Snd G d D ρ) : (bfs G d (G.k + 2) [(G.r, 0)] []).1 = 0 ∧ ¬ lst G d (bfs G d (G.k + 2) [(G.r, 0)] []).2 := by
  have hDl : D.length ≤ G.k := clu.len (G := G) ⟨hS.nodup, fun x hx => lnk_isC _ _ (hS.2.2.1 x hx).1 x (lnk_head (hS.2.2.1 x hx).1)⟩
  obtain ⟨h1, V, h2, h3⟩ := bfs_bwd hG hS (G.k + 2) [] [(G.r, 0)] [] rfl (fun x hx => absurd hx (by simp)) (by simp) (by simp) (by simp only [List.length_nil]; omega)
  refine ⟨h1, fun ⟨x, x1, x2, x3, x4⟩ => x4 (h2.mem_iff.mpr ?_)⟩
  have all : ∀ m f, ρ f < m → f ∈ D → f ∈ V := by
    intro m
    induction m with
    | zero => intro f h; omega
    | succ m ih =>
      intro f hm hf
      rcases List.mem_cons.mp (hS.1.mem_iff.mp hf) with e | e
      · rw [e, h3]; exact List.mem_cons_self
      · obtain ⟨g, g1, g2⟩ := List.mem_flatMap.mp e
        have := (hS.2.1 g g1 f g2).1
        rw [h3]
        exact List.mem_cons_of_mem _ (List.mem_flatMap.mpr ⟨g, ih g (by omega) g1, g2⟩)
  obtain ⟨f, f1, f2⟩ := List.mem_flatMap.mp (hS.2.2.2.2 x ⟨by omega, by omega⟩ x3)
  exact List.mem_flatMap.mpr ⟨f, all _ f (Nat.lt_succ_self _) f1, f2⟩
theorem flt_iff {n : Nat} {d : Nat → Nat} (h1 : 256 ≤ n) (h2 : n ≤ 1024) : fltS n d = 0 ↔ headOK n d ∧ tabOK (geoOf n d) d ∧ ∃ D ρ, Snd (geoOf n d) d D ρ := by
  unfold fltS
  by_cases hh : headOK n d
  · have hG : 1 ≤ (geoOf n d).c := by have := (hh.g h1 h2).b; omega
    rw [if_neg (fun q => q hh)]
    by_cases ht : tabOK (geoOf n d) d
    · rw [if_neg (fun q => q ht)]
      constructor
      · intro h
        by_cases q : (bfs (geoOf n d) d ((geoOf n d).k + 2) [((geoOf n d).r, 0)] []).1 ≠ 0
        · rw [if_pos q] at h; exact absurd h q
        · rw [if_neg q] at h
          have q2 : ¬ lst (geoOf n d) d (bfs (geoOf n d) d ((geoOf n d).k + 2) [((geoOf n d).r, 0)] []).2 := fun q3 => by rw [if_pos q3] at h; exact absurd h (by decide)
          exact ⟨hh, ht, Snd_fwd hG (by omega) q2⟩
      · rintro ⟨_, _, D, ρ, hS⟩
        obtain ⟨a, b⟩ := Snd_bwd hG hS
        rw [if_neg (fun q => q a), if_neg b]
    · rw [if_pos ht]
      exact ⟨fun h => absurd h (by decide), fun h => absurd h.2.1 ht⟩
  · rw [if_pos hh]
    exact ⟨fun h => absurd h (by decide), fun h => absurd h.1 hh⟩
