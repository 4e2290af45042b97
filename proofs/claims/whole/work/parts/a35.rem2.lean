/-! remove keeps the volume sound -/
theorem sbs_congr {d d' A : Nat → Nat} {l : List (Nat × Nat)} (h : ∀ e, e ∈ l → (isDr d' (A e.1) ↔ isDr d (A e.1)) ∧ fcl d' (A e.1) = fcl d (A e.1)) : sbs d' A l = sbs d A l := by
  unfold sbs
  rw [List.filter_congr (q := fun e => decide (isDr d (A e.1))) (fun e he => decide_eq_decide.mpr (h e he).1)]
  exact List.map_congr_left (fun e he => (h e (List.mem_filter.mp he).1).2)
theorem sbs_perm {d A : Nat → Nat} {l l' : List (Nat × Nat)} (h : l.Perm l') : (sbs d A l).Perm (sbs d A l') := (h.filter _).map _
theorem rem_kept {G : Geo} {d d' : Nat → Nat} {D : List Nat} {ρ : Nat → Nat} {f : Nat} {e : Nat × Nat} {l : List Nat} (hG : GOK G) (hS : Snd G d D ρ) (hh : f ∈ D) (he : e ∈ dI G d f)
    (B1 : ∀ q, 512 * G.a ≤ q → (∀ t, e.1 - e.2 ≤ t → t ≤ e.1 → q ≠ dA G d f t) → d' q = d q) (B3 : ∀ y, isC G y → ent G d' y = if y ∈ l then 0 else ent G d y) {g : Nat} (hg : g ∈ D) (hgf : g ≠ f) (hl : ∀ y, y ∈ l → y ∉ own G d g) : kept G d d' g := by
  have b := hG.b
  have hc : 1 ≤ G.c := by omega
  have hok := hS.2.2.1 f hh
  have hle := dE_le G d f
  have hi := dI_lt he
  refine ⟨fun y hy => by rw [B3 y (own_ent (hS.2.2.1 g hg) hy).1, if_neg (fun w => hl y w hy)], fun x hx i hi2 => ?_⟩
  have hxC := lnk_isC _ _ (hS.2.2.1 g hg).1 x hx
  have hpi := pl_in hG hxC
  refine B1 _ (by omega) (fun t t1 t2 => ?_)
  obtain ⟨x0, hx0, o, ho, hob⟩ : ∃ x0, x0 ∈ cl G d f ∧ ∃ o, dA G d f t = pl G x0 + o ∧ o + 32 ≤ 512 * G.c := sa_in hc (show t < (cl G d f).length * (16 * G.c) by omega)
  have hne : x ≠ x0 := fun w => hS.apart hg hh hgf (List.mem_append_left _ hx) (List.mem_append_left _ (w ▸ hx0))
  have := pl_apart (G := G) hxC.1 (lnk_isC _ _ hok.1 x0 hx0).1 hne
  omega
theorem rem_file {G : Geo} {d d' : Nat → Nat} {D : List Nat} {ρ : Nat → Nat} {f : Nat} {e : Nat × Nat} (hG : GOK G) (hS : Snd G d D ρ) (hh : f ∈ D) (he : e ∈ dI G d f) (hnd : ¬ isDr d (dA G d f e.1))
    (B1 : ∀ q, 512 * G.a ≤ q → (∀ t, e.1 - e.2 ≤ t → t ≤ e.1 → q ≠ dA G d f t) → d' q = d q) (B2 : ∀ t, e.1 - e.2 ≤ t → t ≤ e.1 → d' (dA G d f t) = 229) (B3 : ∀ y, isC G y → ent G d' y = if y ∈ fc1 G d (dA G d f e.1) then 0 else ent G d y) : Snd G d' D ρ := by
  have b := hG.b
  have hc : 1 ≤ G.c := by omega
  obtain ⟨I0, hI⟩ : ∃ I0, (dI G d f).Perm (e :: I0) := ⟨_, List.perm_cons_erase he⟩
  have hfE : fcE G d (dA G d f e.1) = fc1 G d (dA G d f e.1) := if_neg hnd
  have hown0 : (own G d f).Perm (cl G d f ++ (fc1 G d (dA G d f e.1) ++ fcs G d (dA G d f) I0)) := by
    rw [← hfE]; exact List.Perm.append_left _ (fcs_perm hI)
  have hN := hown0.nodup_iff.mp (hS.ownN hh)
  have hlo : ∀ y, y ∈ fc1 G d (dA G d f e.1) → y ∈ own G d f := fun y hy => hown0.mem_iff.mpr (List.mem_append_right _ (List.mem_append_left _ hy))
  obtain ⟨R1, R2, R3, R4, R5⟩ := rem_core hG hS hh he B1 B2 B3 (fun y hy hy2 => (List.nodup_append.mp hN).2.2 y hy2 y (List.mem_append_left _ hy) rfl) (fun e' h1 h2 h3 y hy hy2 => by
    have h4 : e' ∈ I0 := (List.mem_cons.mp (hI.mem_iff.mp h1)).resolve_left h2
    have h5 : y ∈ fcs G d (dA G d f) I0 := List.mem_flatMap.mpr ⟨e', h4, by rw [if_neg h3]; exact hy⟩
    exact (List.nodup_append.mp (List.nodup_append.mp hN).2.1).2.2 y hy2 y h5 rfl)
  have hdA : dA G d' f = dA G d f := by unfold dA; rw [R2]
  refine Snd_A hc hS hh (fun g hg hgf => rem_kept hG hS hh he B1 B3 hg hgf (fun y hy => hS.apart hh hg (Ne.symm hgf) (hlo y hy))) R1 ?_ R5 (add := []) (del := fc1 G d (dA G d f e.1)) ?_ ⟨List.nodup_nil, fun y hy => absurd hy (by simp)⟩ hlo (fun y hy hy2 => ?_)
  · unfold sub
    rw [hdA, sbs_congr (fun e' h => ⟨(R4 e' h).1, (R4 e' h).2.1⟩)]
    have := sbs_perm (d := d) (A := dA G d f) R3
    have h2 : sbs d (dA G d f) (e :: dI G d' f) = sbs d (dA G d f) (dI G d' f) := by
      unfold sbs
      rw [List.filter_cons_of_neg (by simpa using hnd)]
    rw [h2] at this
    exact this.symm
  · have h1 : own G d' f = cl G d f ++ fcs G d (dA G d f) (dI G d' f) := by
      unfold own
      rw [R2, hdA, fcs_congr _ (fun e' h => ⟨(R4 e' h).1, (R4 e' h).2.2⟩)]
    have h2 : (own G d f).Perm (cl G d f ++ (fc1 G d (dA G d f e.1) ++ fcs G d (dA G d f) (dI G d' f))) := by
      rw [← hfE]; exact List.Perm.append_left _ (fcs_perm R3)
    rw [h1, List.append_nil, List.append_assoc]
    exact (List.Perm.append_left _ List.perm_append_comm).trans h2.symm
  · right
    rw [B3 y hy] at hy2
    by_cases c : y ∈ fc1 G d (dA G d f e.1)
    · rw [if_pos c] at hy2; exact absurd rfl hy2
    · rw [if_neg c] at hy2; exact ⟨hy2, c⟩
theorem rem_dir {G : Geo} {d d' : Nat → Nat} {D : List Nat} {ρ : Nat → Nat} {f : Nat} {e : Nat × Nat} (hG : GOK G) (hS : Snd G d D ρ) (hh : f ∈ D) (he : e ∈ dI G d f) (hdr : isDr d (dA G d f e.1)) (h0 : dI G d (fcl d (dA G d f e.1)) = [])
    (B1 : ∀ q, 512 * G.a ≤ q → (∀ t, e.1 - e.2 ≤ t → t ≤ e.1 → q ≠ dA G d f t) → d' q = d q) (B2 : ∀ t, e.1 - e.2 ≤ t → t ≤ e.1 → d' (dA G d f t) = 229) (B3 : ∀ y, isC G y → ent G d' y = if y ∈ cl G d (fcl d (dA G d f e.1)) then 0 else ent G d y) : ∃ D', Snd G d' D' ρ ∧ f ∈ D' := by
  have b := hG.b
  have hc : 1 ≤ G.c := by omega
  have hsub := sub_mem he hdr
  have hw : fcl d (dA G d f e.1) ∈ D := hS.1.mem_iff.mpr (List.mem_cons_of_mem _ (List.mem_flatMap.mpr ⟨_, hh, hsub⟩))
  have hne : f ≠ fcl d (dA G d f e.1) := fun w => by
    have := (hS.2.1 f hh _ hsub).1
    rw [← w] at this; omega
  obtain ⟨w, hwe⟩ : ∃ w, w = fcl d (dA G d f e.1) := ⟨_, rfl⟩
  rw [← hwe] at h0 B3 hsub hw hne
  have hwo : own G d w = cl G d w := by unfold own; rw [h0]; exact List.append_nil _
  have hfE : fcE G d (dA G d f e.1) = [] := if_pos hdr
  have hlf : ∀ y, y ∈ cl G d w → ∀ g, g ∈ D → g ≠ w → y ∉ own G d g := fun y hy g hg hgw => hS.apart hw hg (Ne.symm hgw) (by rw [hwo]; exact hy)
  obtain ⟨R1, R2, R3, R4, R5⟩ := rem_core hG hS hh he B1 B2 B3 (fun y hy hy2 => hlf y hy f hh hne (List.mem_append_left _ hy2)) (fun e' h1 h2 h3 y hy hy2 => hlf y hy2 f hh hne (List.mem_append_right _ (List.mem_flatMap.mpr ⟨e', h1, by rw [if_neg h3]; exact hy⟩)))
  have hdA : dA G d' f = dA G d f := by unfold dA; rw [R2]
  obtain ⟨D', g1, g2⟩ := Snd_C (w := w) hc hS hh (fun g hg hgf hgw => rem_kept hG hS hh he B1 B3 hg hgf (fun y hy => hlf y hy g hg hgw)) R1 (by
    unfold sub
    rw [hdA, sbs_congr (fun e' h => ⟨(R4 e' h).1, (R4 e' h).2.1⟩)]
    have := sbs_perm (d := d) (A := dA G d f) R3
    have h2 : sbs d (dA G d f) (e :: dI G d' f) = w :: sbs d (dA G d f) (dI G d' f) := by
      unfold sbs
      rw [List.filter_cons_of_pos (by simpa using hdr), List.map_cons, hwe]
    rw [h2] at this
    exact this) R5 (by unfold sub; rw [h0]; rfl) (by
    have h1 : own G d' f = cl G d f ++ fcs G d (dA G d f) (dI G d' f) := by
      unfold own
      rw [R2, hdA, fcs_congr _ (fun e' h => ⟨(R4 e' h).1, (R4 e' h).2.2⟩)]
    have h2 : (own G d f).Perm (cl G d f ++ (fcE G d (dA G d f e.1) ++ fcs G d (dA G d f) (dI G d' f))) := List.Perm.append_left _ (fcs_perm R3)
    rw [hfE, List.nil_append] at h2
    rw [h1]; exact h2.symm) (fun y hy hy2 => by
    rw [B3 y hy] at hy2
    by_cases c : y ∈ cl G d w
    · rw [if_pos c] at hy2; exact absurd rfl hy2
    · rw [if_neg c] at hy2; exact ⟨hy2, by rw [hwo]; exact c⟩)
  exact ⟨D', g1, g2 f hh hne⟩
