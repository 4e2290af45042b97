/-! where clusters and slots lie -/
theorem pl_apart {G : Geo} {x y : Nat} (hx : 2 ≤ x) (hy : 2 ≤ y) (h : x ≠ y) : pl G x + 512 * G.c ≤ pl G y ∨ pl G y + 512 * G.c ≤ pl G x := by
  unfold pl
  rcases Nat.lt_or_gt_of_ne h with q | q
  · left
    have : (x - 2 + 1) * G.c ≤ (y - 2) * G.c := Nat.mul_le_mul_right _ (by omega)
    rw [Nat.add_mul] at this
    omega
  · right
    have : (y - 2 + 1) * G.c ≤ (x - 2) * G.c := Nat.mul_le_mul_right _ (by omega)
    rw [Nat.add_mul] at this
    omega
theorem pl_in {G : Geo} (hG : GOK G) {x : Nat} (hx : isC G x) : 512 * G.a ≤ pl G x ∧ pl G x + 512 * G.c ≤ 512 * G.n := by
  have b := hG.b
  unfold pl
  have : (x - 2 + 1) * G.c ≤ G.k * G.c := Nat.mul_le_mul_right _ (by omega)
  rw [Nat.add_mul] at this
  omega
theorem sa_eq {G : Geo} {l : List Nat} {s : Nat} (hG : 1 ≤ G.c) (hs : s < l.length * (16 * G.c)) : ∃ (hq : s / (16 * G.c) < l.length), sa G l s = pl G l[s / (16 * G.c)] + 32 * (s % (16 * G.c)) := by
  have hq : s / (16 * G.c) < l.length := by
    apply Nat.div_lt_of_lt_mul
    rw [Nat.mul_comm]; exact hs
  refine ⟨hq, ?_⟩
  unfold sa
  rw [List.getD_eq_getElem?_getD, List.getElem?_eq_getElem hq]
  rfl
theorem sa_apart {G : Geo} {l : List Nat} {s t : Nat} (hG : 1 ≤ G.c) (hl : clu G l) (hs : s < l.length * (16 * G.c)) (ht : t < l.length * (16 * G.c)) (h : s ≠ t) : sa G l s + 32 ≤ sa G l t ∨ sa G l t + 32 ≤ sa G l s := by
  obtain ⟨q1, e1⟩ := sa_eq hG hs
  obtain ⟨q2, e2⟩ := sa_eq hG ht
  have m1 := Nat.mod_lt s (show 0 < 16 * G.c by omega)
  have m2 := Nat.mod_lt t (show 0 < 16 * G.c by omega)
  rw [e1, e2]
  by_cases hi : s / (16 * G.c) = t / (16 * G.c)
  · have e3 : l[s / (16 * G.c)] = l[t / (16 * G.c)] := by simp only [hi]
    rw [e3]
    have d1 := Nat.div_add_mod s (16 * G.c)
    have d2 := Nat.div_add_mod t (16 * G.c)
    rw [hi] at d1
    omega
  · have hne : l[s / (16 * G.c)] ≠ l[t / (16 * G.c)] := fun e => hi ((List.getElem_inj hl.1).mp e)
    have := pl_apart (G := G) (hl.2 _ (List.getElem_mem q1)).1 (hl.2 _ (List.getElem_mem q2)).1 hne
    omega
theorem Snd.apart {G : Geo} {d : Nat → Nat} {D : List Nat} {ρ : Nat → Nat} (hS : Snd G d D ρ) {f g y : Nat} (hf : f ∈ D) (hg : g ∈ D) (h : f ≠ g) (hy : y ∈ own G d f) : y ∉ own G d g := by
  intro hy2
  obtain ⟨W, hW⟩ := sub_perm [f, g] D (by simp [h]) (fun x hx => by
    rcases List.mem_cons.mp hx with e | e
    · rw [e]; exact hf
    · rw [List.mem_singleton.mp e]; exact hg)
  have hn := (hW.flatMap_right (own G d)).nodup_iff.mp hS.2.2.2.1
  rw [List.flatMap_append, List.flatMap_cons, List.flatMap_cons, List.flatMap_nil, List.append_nil] at hn
  exact (List.nodup_append.mp (List.nodup_append.mp hn).1).2.2 y hy y hy2 rfl
theorem Snd.ownN {G : Geo} {d : Nat → Nat} {D : List Nat} {ρ : Nat → Nat} (hS : Snd G d D ρ) {f : Nat} (hf : f ∈ D) : (own G d f).Nodup := by
  obtain ⟨W, hW⟩ := sub_perm [f] D (by simp) (fun x hx => by rw [List.mem_singleton.mp hx]; exact hf)
  have hn := (hW.flatMap_right (own G d)).nodup_iff.mp hS.2.2.2.1
  rw [List.flatMap_append, List.flatMap_cons, List.flatMap_nil, List.append_nil] at hn
  exact (List.nodup_append.mp hn).1
/-- what a file of h owns -/
def fcE (G : Geo) (d : Nat → Nat) (p : Nat) : List Nat := if isDr d p then [] else fc1 G d p
theorem fcs_perm {G : Geo} {d A : Nat → Nat} {I I0 : List (Nat × Nat)} {e : Nat × Nat} (h : I.Perm (e :: I0)) : (fcs G d A I).Perm (fcE G d (A e.1) ++ fcs G d A I0) := by
  have := h.flatMap_right (fun e => if isDr d (A e.1) then [] else fc1 G d (A e.1))
  rw [List.flatMap_cons] at this
  exact this
/-- one entry changes, behind its short name, and its file's chain -/
theorem Snd_entry {G : Geo} {d d' : Nat → Nat} {D : List Nat} {ρ : Nat → Nat} {h : Nat} {e : Nat × Nat} (hG : GOK G) (hS : Snd G d D ρ) (hh : h ∈ D) (he : e ∈ dI G d h)
    (H1 : ∀ f, f ∈ D → ∀ x, x ∈ cl G d f → ∀ i, i < 512 * G.c → (pl G x + i < dA G d h e.1 + 11 ∨ dA G d h e.1 + 32 ≤ pl G x + i) → d' (pl G x + i) = d (pl G x + i))
    (H2 : d' (dA G d h e.1 + 11) ≤ 63 ∧ d' (dA G d h e.1 + 11) % 64 ≠ 15 ∧ d' (dA G d h e.1 + 11) / 8 % 2 = 0) (H2d : isDr d' (dA G d h e.1) ↔ isDr d (dA G d h e.1)) (H2t : timesOK d' (dA G d h e.1)) (H2s : isDr d (dA G d h e.1) → fo d' (dA G d h e.1 + 28) = 0 ∧ fcl d' (dA G d h e.1) = fcl d (dA G d h e.1))
    (H3 : ¬ isDr d (dA G d h e.1) → fOK G d' (dA G d h e.1)) {add del : List Nat} (H4 : (fcE G d' (dA G d h e.1) ++ del).Perm (fcE G d (dA G d h e.1) ++ add)) (hadd : add.Nodup ∧ ∀ y, y ∈ add → isC G y ∧ ent G d y = 0) (hdel : ∀ y, y ∈ del → y ∈ fcE G d (dA G d h e.1)) (H5 : ∀ y, isC G y → y ∉ fcE G d (dA G d h e.1) → y ∉ add → ent G d' y = ent G d y) (H6 : ∀ y, isC G y → ent G d' y ≠ 0 → y ∈ add ∨ (ent G d y ≠ 0 ∧ y ∉ del)) :
    Snd G d' D ρ ∧ dI G d' h = dI G d h ∧ cl G d' h = cl G d h ∧ ∀ f, f ∈ D → f ≠ h → kept G d d' f := by
  have hc : 1 ≤ G.c := by have := hG.b; omega
  have hok := hS.2.2.1 h hh
  have hi := dI_lt he
  have hle := dE_le G d h
  have hpl : ∃ x0, x0 ∈ cl G d h ∧ ∃ o, dA G d h e.1 = pl G x0 + o ∧ o + 32 ≤ 512 * G.c := sa_in hc (show e.1 < (cl G d h).length * (16 * G.c) by omega)
  obtain ⟨x0, hx0, o, ho, hob⟩ := hpl
  obtain ⟨I0, hI⟩ : ∃ I0, (dI G d h).Perm (e :: I0) := ⟨_, List.perm_cons_erase he⟩
  have hown0 : (own G d h).Perm (cl G d h ++ (fcE G d (dA G d h e.1) ++ fcs G d (dA G d h) I0)) := List.Perm.append_left _ (fcs_perm hI)
  have hownN := hown0.nodup_iff.mp (hS.ownN hh)
  have hLh : ∀ y, y ∈ fcE G d (dA G d h e.1) → y ∈ own G d h := fun y hy => hown0.mem_iff.mpr (List.mem_append_right _ (List.mem_append_left _ hy))
  have haddfree : ∀ f, f ∈ D → ∀ y, y ∈ own G d f → y ∉ add := fun f hf y hy hm => (own_ent (hS.2.2.1 f hf) hy).2 (hadd.2 y hm).2
  have hkept : ∀ f, f ∈ D → f ≠ h → kept G d d' f := fun f hf hfh => by
    refine ⟨fun y hy => H5 y (own_ent (hS.2.2.1 f hf) hy).1 (fun q => hS.apart hf hh hfh hy (hLh y q)) (haddfree f hf y hy), fun x hx i hi2 => H1 f hf x hx i hi2 ?_⟩
    have hxo : x ∈ own G d f := List.mem_append_left _ hx
    have hne : x ≠ x0 := fun e => hS.apart hf hh hfh hxo (List.mem_append_left _ (e ▸ hx0))
    have := pl_apart (G := G) (lnk_isC _ _ (hS.2.2.1 f hf).1 x hx).1 (lnk_isC _ _ hok.1 x0 hx0).1 hne
    omega
  -- h itself
  have hclE : ∀ y, y ∈ cl G d h → ent G d' y = ent G d y := fun y hy => H5 y (lnk_isC _ _ hok.1 y hy) (fun q => (List.nodup_append.mp hownN).2.2 y hy y (List.mem_append_left _ q) rfl) (haddfree h hh y (List.mem_append_left _ hy))
  have hl := lnk_congr _ _ hok.1 hclE
  have ec : cl G d' h = cl G d h := cl_of hl
  have eA : dA G d' h = dA G d h := by unfold dA; rw [ec]
  have hslot : ∀ t, t < (cl G d h).length * (16 * G.c) → t ≠ e.1 → sl d (dA G d h t) d' (dA G d h t) := by
    intro t ht hne i hi2
    have hap : dA G d h t + 32 ≤ dA G d h e.1 ∨ dA G d h e.1 + 32 ≤ dA G d h t := sa_apart hc (lnk_clu hok.1) ht (by omega) hne
    obtain ⟨x, hx, o2, ho2, hb2⟩ : ∃ x, x ∈ cl G d h ∧ ∃ o, dA G d h t = pl G x + o ∧ o + 32 ≤ 512 * G.c := sa_in hc ht
    rw [ho2] at hap ⊢
    rw [Nat.add_assoc]
    exact H1 h hh x hx (o2 + i) (by omega) (by omega)
  have h11 : ∀ i, i < 11 → d' (dA G d h e.1 + i) = d (dA G d h e.1 + i) := fun i hi2 => by
    rw [ho, Nat.add_assoc]
    exact H1 h hh x0 hx0 (o + i) (by omega) (by omega)
  obtain ⟨c1, c2, c3⟩ := ent_change (d := d) (d' := d') (A := dA G d h) (z := zf G h) (S := (cl G d h).length * (16 * G.c)) (s := e.1) (by omega) hi.2.2.1 hslot h11 H2
  have eE : dE G d' h = dE G d h := by unfold dE; rw [ec, eA]; exact c1
  have eI : dI G d' h = dI G d h := by unfold dI; rw [eE, eA]; exact (c2 _ hle).2.1
  have hin : ∀ x, x ∈ dI G d h → x.1 < (cl G d h).length * (16 * G.c) := fun x hx => by have := dI_lt hx; omega
  have hI0 : ∀ x, x ∈ I0 → x ∈ dI G d h ∧ x.1 ≠ e.1 := fun x hx => by
    refine ⟨hI.mem_iff.mpr (List.mem_cons_of_mem _ hx), fun q => ?_⟩
    have hn : (e :: I0).Nodup := hI.nodup_iff.mp itm_nodup
    have e2 : x = e := by
      have a1 := dI_lt (hI.mem_iff.mpr (List.mem_cons_of_mem _ hx))
      exact Prod.ext q (by rw [a1.2.2.2, hi.2.2.2, q])
    exact (List.nodup_cons.mp hn).1 (e2 ▸ hx)
  have hoth : ∀ x, x ∈ I0 → (isDr d' (dA G d h x.1) ↔ isDr d (dA G d h x.1)) ∧ (¬ isDr d (dA G d h x.1) → fOK G d' (dA G d h x.1) ∧ fc1 G d' (dA G d h x.1) = fc1 G d (dA G d h x.1)) ∧ fcl d' (dA G d h x.1) = fcl d (dA G d h x.1) := by
    intro x hx
    have a := hI0 x hx
    have hs := hslot x.1 (hin x a.1) a.2
    have a1 := dI_lt a.1
    refine ⟨by unfold isDr; rw [hs 11 (by omega)], fun hd => ?_, hs.fclE⟩
    refine fOK_keep (hs.foE (by omega)) hs.fclE ((hok.2.2.1 x.1 a1.1 a1.2.1).2 a1.2.2.1 hd) (fun y hy => ?_)
    have hyR : y ∈ fcs G d (dA G d h) I0 := List.mem_flatMap.mpr ⟨x, hx, by rw [if_neg hd]; exact hy⟩
    have hyo : y ∈ own G d h := hown0.mem_iff.mpr (List.mem_append_right _ (List.mem_append_right _ hyR))
    exact H5 y (own_ent hok hyo).1 (fun q => (List.nodup_append.mp (List.nodup_append.mp hownN).2.1).2.2 y q y hyR rfl) (haddfree h hh y hyo)
  have hfR : fcs G d' (dA G d h) I0 = fcs G d (dA G d h) I0 := fcs_congr I0 (fun x hx => ⟨(hoth x hx).1, fun hd => ((hoth x hx).2.1 hd).2⟩)
  have hown1 : (own G d' h).Perm (cl G d h ++ (fcE G d' (dA G d h e.1) ++ fcs G d (dA G d h) I0)) := by
    have e2 : own G d' h = cl G d h ++ fcs G d' (dA G d h) (dI G d h) := by
      show cl G d' h ++ fcs G d' (dA G d' h) (dI G d' h) = _
      rw [ec, eA, eI]
    rw [e2, ← hfR]
    exact List.Perm.append_left _ (fcs_perm hI)
  have hD : DOK G d' h := by
    refine ⟨by rw [ec]; exact hl, fun hr => ?_, ?_, ?_⟩
    · rw [eA]
      have h2 : zf G h = 2 := by rcases zf_cases G h with q | q; exact absurd q.1 hr; exact q.2
      have hpt : ∀ t p s, t < 2 → pts d (dA G d h t) s p → pts d' (dA G d h t) s p := fun t p s ht hp => by
        have hs := hslot t (by omega) (by omega)
        exact ⟨fun i hi => by rw [hs i (by omega)]; exact hp.1 i hi, by rw [hs 11 (by omega)]; exact hp.2.1, by rw [hs.fclE]; exact hp.2.2⟩
      obtain ⟨g1, p, g2⟩ := hok.2.1 hr
      exact ⟨hpt 0 h 0 (by decide) g1, p, hpt 1 p 1 (by decide) g2⟩
    · rw [eA, eE]
      intro t t1 t2
      refine ⟨c3 H2t (fun q => (H2s (H2d.mp q)).1) t (by omega) (hok.2.2.1 t t1 t2).1, fun q1 q2 => ?_⟩
      by_cases ht : t = e.1
      · rw [ht] at q2 ⊢; exact H3 (fun q => q2 (H2d.mpr q))
      · have hs := hslot t (by omega) ht
        have q1' : isE d (dA G d h) (zf G h) t := by
          have e0 : d' (dA G d h t) = d (dA G d h t) := hs 0 (by omega)
          unfold isE at q1 ⊢
          rw [e0, hs 11 (by omega)] at q1; exact q1
        have hx : (t, rn d (dA G d h) (zf G h) t) ∈ dI G d h := (mem_itm _).mpr ⟨t2, q1', rfl⟩
        have hx0 : (t, rn d (dA G d h) (zf G h) t) ∈ I0 := by
          rcases List.mem_cons.mp (hI.mem_iff.mp hx) with q | q
          · exact absurd (congrArg Prod.fst q) ht
          · exact q
        have := hoth _ hx0
        exact (this.2.1 (fun q => q2 (this.1.mpr q))).1
    · rw [eA, eE, (c2 _ hle).1]; exact hok.2.2.2
  have hsub : sub G d' h = sub G d h := by
    unfold sub sbs
    rw [eA, eI]
    have hall : ∀ x, x ∈ dI G d h → (isDr d' (dA G d h x.1) ↔ isDr d (dA G d h x.1)) ∧ (isDr d (dA G d h x.1) → fcl d' (dA G d h x.1) = fcl d (dA G d h x.1)) := fun x hx => by
      rcases List.mem_cons.mp (hI.mem_iff.mp hx) with q | q
      · rw [q]; exact ⟨H2d, fun w => (H2s w).2⟩
      · exact ⟨(hoth x q).1, fun _ => (hoth x q).2.2⟩
    have hf : (dI G d h).filter (fun e => decide (isDr d' (dA G d h e.1))) = (dI G d h).filter (fun e => decide (isDr d (dA G d h e.1))) := List.filter_congr (fun e he => by simp only [(hall e he).1])
    rw [hf]
    refine List.map_congr_left (fun x hx => ?_)
    have := List.mem_filter.mp hx
    exact (hall x this.1).2 (of_decide_eq_true this.2)
  refine ⟨Snd_A (add := add) (del := del) hc hS hh hkept hD (by rw [hsub]) ?_ ?_ hadd (fun y hy => hLh y (hdel y hy)) H6, eI, ec, hkept⟩
  · intro p hp
    rw [eA]
    by_cases hr : h = G.r
    · -- the root's slot 1 may hold the entry itself, but then it is no point
      have hz : zf G h = 0 := by rcases zf_cases G h with q | q; exact q.2; exact absurd hr q.1
      by_cases ht : 1 = e.1
      · exfalso
        have h46 : d (dA G d h 1) = 46 := hp.1 0 (by decide)
        have hlf := (hok.2.2.1 e.1 hi.1 hi.2.1).1
        have hsh := ((lf_zero.mp hlf).2.1 hi.2.2.1).1.2.2.1
        rw [← ht] at hsh
        have := (hsh.2 0 (by decide) (by rw [Nat.add_zero, h46]; decide)).1
        rw [Nat.add_zero, h46] at this
        exact (sgn_lt this).2.2.1 rfl
      · have hS1 : 1 < (cl G d h).length * (16 * G.c) := by
          have : 1 * 16 ≤ (cl G d h).length * (16 * G.c) := Nat.mul_le_mul (lnk_pos hok.1) (by omega)
          omega
        have hs := hslot 1 hS1 ht
        exact ⟨fun i hi => by rw [hs i (by omega)]; exact hp.1 i hi, by rw [hs 11 (by omega)]; exact hp.2.1, by rw [hs.fclE]; exact hp.2.2⟩
    · have h2 : zf G h = 2 := by rcases zf_cases G h with q | q; exact absurd q.1 hr; exact q.2
      have hs := hslot 1 (by omega) (by omega)
      exact ⟨fun i hi => by rw [hs i (by omega)]; exact hp.1 i hi, by rw [hs 11 (by omega)]; exact hp.2.1, by rw [hs.fclE]; exact hp.2.2⟩
  · refine (List.Perm.append_right del hown1).trans (List.Perm.trans ?_ (List.Perm.append_right add hown0.symm))
    rw [List.append_assoc (cl G d h), List.append_assoc (cl G d h)]
    refine List.Perm.append_left _ ?_
    -- (F' ++ R) ++ del ~ (F ++ R) ++ add
    have a1 : (fcE G d' (dA G d h e.1) ++ fcs G d (dA G d h) I0 ++ del).Perm (fcE G d' (dA G d h e.1) ++ del ++ fcs G d (dA G d h) I0) := by
      rw [List.append_assoc, List.append_assoc]; exact List.Perm.append_left _ List.perm_append_comm
    have a2 : (fcE G d (dA G d h e.1) ++ add ++ fcs G d (dA G d h) I0).Perm (fcE G d (dA G d h e.1) ++ fcs G d (dA G d h) I0 ++ add) := by
      rw [List.append_assoc, List.append_assoc]; exact List.Perm.append_left _ List.perm_append_comm
    exact a1.trans ((List.Perm.append_right _ H4).trans a2)
