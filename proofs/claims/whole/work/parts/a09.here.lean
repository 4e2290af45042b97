/-! the model finds the folder where it stands -/
theorem KNW.find {fi : FI} {ar : AR} {G : Geo} {d : Nat → Nat} {N U : Nat} {ms : List Nat} (h : LKS fi ar G d N N U ms) {D : List Nat} {ρ : Nat → Nat} (hS : Snd G d D ρ) : ∀ (m f : Nat), ρ f < m → f ∈ D → ∃ j, j < N ∧ drF ar d j ∧ fsF ar d G.r j = f := by
  obtain ⟨hW, h17, h18, h16, hmk, hc, ⟨hiN, hN1, hNb, hUb⟩, hits, hTI, hi0, hir⟩ := h
  have hG := hW.2.2
  have b' := hG.b
  intro m
  induction m with
  | zero => intro f hm; omega
  | succ m ih =>
    intro f hm hf
    rcases List.mem_cons.mp (hS.1.mem_iff.mp hf) with e | e
    · exact ⟨0, by omega, Or.inl rfl, by unfold fsF; rw [if_pos rfl, e]⟩
    · obtain ⟨g, g1, g2⟩ := List.mem_flatMap.mp e
      have hr := (hS.2.1 g g1 f g2).1
      obtain ⟨j, j1, j2, j3⟩ := ih g (by omega) g1
      have ht := hTI j j1 j2
      rw [j3] at ht
      obtain ⟨t1, t2, bb, tb, t3, t4, t5, t6⟩ := ht
      obtain ⟨x, hx, hxf⟩ := List.mem_map.mp g2
      have hx2 := List.mem_filter.mp hx
      obtain ⟨q, hq, hqe⟩ := List.getElem_of_mem hx2.1
      have h6 := t6 q hq
      have he : (dI G d g).getD q (0, 0) = x := by rw [List.getD_eq_getElem?_getD, List.getElem?_eq_getElem hq]; exact hqe
      rw [he] at h6
      have hxi := dI_lt hx2.1
      have hle := dE_le G d g
      have hsl := (slot_in hG (lnk_clu t1) (show x.1 < (cl G d g).length * (16 * G.c) by omega)).2.1
      have hpa : pA ar (bb + q) = dA G d g x.1 := pA_nI h6.1 (by show sa G (cl G d g) x.1 < _; omega)
      have hb0 : bb + q ≠ 0 := by omega
      refine ⟨bb + q, by omega, Or.inr (by rw [hpa]; exact of_decide_eq_true hx2.2), ?_⟩
      unfold fsF
      rw [if_neg hb0, hpa]
      exact hxf
theorem folderHere_loop {nf : Nat} {fi : FI} {ar : AR} {G : Geo} {d : Nat → Nat} {N U h : Nat} {ms : List Nat} (hL : LKS fi ar G d N N U ms) (h14 : fi 14 = nI h) (hhb : h < 4294967296) : ∀ (m i kf : Nat), i + m = N → 1 ≤ i → m < kf → (∃ j, i ≤ j ∧ j < N ∧ drF ar d j ∧ fsF ar d G.r j = h) → ∃ j, 1 ≤ j ∧ j < N ∧ drF ar d j ∧ fsF ar d G.r j = h ∧ M_folderHere_11 nf kf (nI i) fi ar = some (nI j, fi, ar) := by
  obtain ⟨hW, h17, h18, h16, hmk, hc, ⟨hiN, hN1, hNb, hUb⟩, hits, hTI, hi0, hir⟩ := hL
  have hG := hW.2.2
  have b' := hG.b
  have hcp : 16 * G.c * ms.length ≤ 16384 := by
    have h1 : 16 * G.c * ms.length ≤ 16 * G.c * G.k := Nat.mul_le_mul_left _ hc.len
    have h2 : 16 * G.c * G.k = 16 * (G.k * G.c) := by rw [Nat.mul_assoc, Nat.mul_comm G.c]
    omega
  intro m
  induction m with
  | zero => intro i kf hi h1 hk hex; obtain ⟨j, j1, j2, _⟩ := hex; omega
  | succ m ih =>
    intro i kf hi h1 hk hex
    obtain ⟨kf, rfl⟩ : ∃ k, kf = k + 1 := ⟨kf - 1, by omega⟩
    have hit := hits i (by omega) (by omega)
    have hf : fcl d (pA ar i) < 4294967296 := by
      have a1 := twR_lt hW.1 (show pA ar i + 20 + 1 < 524288 by omega)
      have a2 := twR_lt hW.1 (show pA ar i + 26 + 1 < 524288 by omega)
      unfold fcl; omega
    have e20 : ar 20 i = nI (pA ar i) := (nI_uv _).symm
    have efs : fsF ar d G.r i = fcl d (pA ar i) := by unfold fsF; rw [if_neg (by omega)]
    have e : M_folderHere_11 nf (kf + 1) (nI i) fi ar = if drF ar d i ∧ fsF ar d G.r i = h then some (nI i, fi, ar) else M_folderHere_11 nf kf (nI (i + 1)) fi ar := by
      rw [show M_folderHere_11 nf (kf + 1) = M_folderHere_11b (M_folderHere_11 nf kf) nf from rfl]
      unfold M_folderHere_11b M_folderHere_46
      rw [h17, zle (by omega) (by omega), if_neg (by omega), isFolder_eq hW.1 (by omega) (fun _ => hit.1), obnd3_some, bnd_eq, nI_1]
      by_cases q : drF ar d i
      · simp only [if_pos q]
        rw [brF (by decide), zgd (by omega) (by omega), nI_clamp (by omega), e20, M_firstOf_eq hW.1 (by omega), obnd3_some, h14, zeq hf hhb, bnd_eq, efs]
        by_cases w : fcl d (pA ar i) = h
        · rw [if_pos w, if_pos (And.intro q w)]
        · rw [if_neg w, if_neg (fun z => w z.2)]
      · simp only [if_neg q]
        rw [brT trivial, if_neg (fun z => q z.1)]
    rw [e]
    by_cases w : drF ar d i ∧ fsF ar d G.r i = h
    · rw [if_pos w]
      exact ⟨i, h1, by omega, w.1, w.2, rfl⟩
    · rw [if_neg w]
      obtain ⟨j, j1, j2, j3, j4⟩ := hex
      refine ih (i + 1) kf (by omega) (by omega) (by omega) ⟨j, ?_, j2, j3, j4⟩
      apply Decidable.byContradiction
      intro z
      have : j = i := by omega
      rw [this] at j3 j4
      exact w ⟨j3, j4⟩
/-- where the model stands: folder j, which begins with f -/
theorem folderHere_eq {nf : Nat} {fi : FI} {ar : AR} {G : Geo} {d : Nat → Nat} {N U h : Nat} {ms : List Nat} (hL : LKS fi ar G d N N U ms) (h14 : fi 14 = nI h) {D : List Nat} {ρ : Nat → Nat} (hS : Snd G d D ρ) (hh : h = 0 ∨ (h ∈ D ∧ h ≠ G.r)) (hnf : 40000 ≤ nf) : ∃ j, j < N ∧ M_folderHere nf fi ar = some (nI j, fi, ar) ∧ TI ar G d j (if h = 0 then G.r else h) N U ∧ (j = 0 ↔ h = 0) ∧ drF ar d j ∧ fsF ar d G.r j = (if h = 0 then G.r else h) := by
  obtain ⟨hW, h17, h18, h16, hmk, hc, ⟨hiN, hN1, hNb, hUb⟩, hits, hTI, hi0, hir⟩ := id hL
  have hG := hW.2.2
  have b' := hG.b
  have hcp : 16 * G.c * ms.length ≤ 16384 := by
    have h1 : 16 * G.c * ms.length ≤ 16 * G.c * G.k := Nat.mul_le_mul_left _ hc.len
    have h2 : 16 * G.c * G.k = 16 * (G.k * G.c) := by rw [Nat.mul_assoc, Nat.mul_comm G.c]
    omega
  unfold M_folderHere
  by_cases q : h = 0
  · rw [h14, q, brT (show nI 0 = (0 : Int32) from rfl), if_pos rfl]
    have e0 : fsF ar d G.r 0 = G.r := by unfold fsF; rw [if_pos rfl]
    have := hTI 0 (by omega) (Or.inl rfl)
    rw [e0] at this
    exact ⟨0, by omega, rfl, this, ⟨fun _ => rfl, fun _ => rfl⟩, Or.inl rfl, e0⟩
  · have hhD : h ∈ D ∧ h ≠ G.r := hh.elim (fun w => absurd w q) id
    obtain ⟨j, j1, j2, j3⟩ := KNW.find hL hS (ρ h + 1) h (Nat.lt_succ_self _) hhD.1
    have hj0 : j ≠ 0 := fun w => by
      rw [w] at j3
      unfold fsF at j3
      rw [if_pos rfl] at j3
      exact hhD.2 j3.symm
    have hhC := lnk_isC _ _ (hS.2.2.1 h hhD.1).1 h (lnk_head (hS.2.2.1 h hhD.1).1)
    obtain ⟨i, i1, i2, i3, i4, i5⟩ := folderHere_loop (nf := nf) hL h14 (by omega) (N - 1) 1 nf (by omega) (by omega) (by omega) ⟨j, by omega, j1, j2, j3⟩
    have i5' : M_folderHere_11 nf nf 1 fi ar = some (nI i, fi, ar) := i5
    rw [h14, brF (show ¬ nI h = (0 : Int32) from nI_ne0 (by omega) (by omega)), if_neg q, i5']
    have := hTI i i2 i3
    rw [i4] at this
    exact ⟨i, i2, rfl, this, ⟨fun w => by omega, fun w => absurd w q⟩, i3, i4⟩
