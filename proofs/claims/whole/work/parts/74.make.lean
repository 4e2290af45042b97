/-! an item comes -/
theorem mk_change {d A d' A' : Nat → Nat} {z S S' a np E : Nat} (hEd : E = en d A S 0) (hz : z ≤ a) (haE : a ≤ E) (hq : a + np < S') (hES : E ≤ S') (ho : ∀ t, t < E → (t < a ∨ a + np < t) → sl d (A t) d' (A' t)) (h229 : ∀ t, a ≤ t → t ≤ a + np → t < E → d (A t) = 229) (hpart : ∀ t, a ≤ t → t < a + np → d' (A' t) ≠ 0 ∧ d' (A' t) ≠ 229 ∧ d' (A' t + 11) % 64 = 15) (hent : isE d' A' z (a + np)) (hend : E ≤ a + np + 1 → a + np + 1 < S' → d' (A' (a + np + 1)) = 0) (hend2 : a + np + 1 < E → E < S' → d' (A' E) = 0) (hok : ∀ t, z ≤ t → t < E → lf d A z t = 0) (hr : rn d A z E = 0) (hnew : e4 d' A' (a + np) np) (htw : ∀ e, e ∈ itm d A z E → ¬ twn d' A' (a + np) np e) (hz2 : ∀ t, t < z → d' (A' t) ≠ 0) (hzE : z ≤ E) : en d' A' S' 0 = max E (a + np + 1) ∧ itm d' A' z (a + np + 1) = itm d A z a ++ [(a + np, np)] ∧ (∀ e, e ∈ itm d' A' z (max E (a + np + 1)) ↔ e ∈ itm d A z E ∨ e = (a + np, np)) ∧ (∀ t, z ≤ t → t < max E (a + np + 1) → lf d' A' z t = 0) ∧ rn d' A' z (max E (a + np + 1)) = 0 := by
  have hne : ∀ t, t < E → d (A t) ≠ 0 := fun t ht => zl_ne (fun t => d (A t)) S 0 t (Nat.zero_le _) (by rw [hEd] at ht; exact ht)
  have hP : ∀ t, t < E → (t < a ∨ a + np < t) → (isP d' A' z t ↔ isP d A z t) := fun t ht h => by
    have e := ho t ht h
    have e0 : d' (A' t) = d (A t) := e 0 (by omega)
    unfold isP; rw [e0, e 11 (by omega)]
  have hE : ∀ t, t < E → (t < a ∨ a + np < t) → (isE d' A' z t ↔ isE d A z t) := fun t ht h => by
    have e := ho t ht h
    have e0 : d' (A' t) = d (A t) := e 0 (by omega)
    unfold isE; rw [e0, e 11 (by omega)]
  have hL : ∀ t, t < E → (t < a ∨ a + np < t) → (isL d' A' z t ↔ isL d A z t) := fun t ht h => by
    have e := ho t ht h
    have e0 : d' (A' t) = d (A t) := e 0 (by omega)
    unfold isL; rw [e0, e 11 (by omega)]
  have hPn : ∀ t, a ≤ t → t < a + np → isP d' A' z t := fun t h1 h2 => ⟨by omega, hpart t h1 h2⟩
  have ra : rn d A z a = 0 := by
    by_cases h : a < E
    · exact (lf_zero.mp (hok a hz h)).1 (h229 a (Nat.le_refl _) (by omega) h)
    · rw [show a = E by omega]; exact hr
  have r1 : ∀ t, t ≤ a → rn d' A' z t = rn d A z t := fun t ht => by
    have := rn_congr (d := d) (A := A) (d' := d') (A' := A') (z := z) (a := 0) rfl t (fun u _ hu => hP u (by omega) (by omega))
    rwa [Nat.zero_add] at this
  have r2 : ∀ j, j ≤ np → rn d' A' z (a + j) = j := by
    intro j
    induction j with
    | zero => intro _; rw [Nat.add_zero, r1 a (Nat.le_refl _), ra]
    | succ j ih => intro hj; rw [← Nat.add_assoc, rn, if_pos (hPn _ (by omega) (by omega)), ih (by omega)]
  have rq := r2 np (Nat.le_refl _)
  have rq1 : rn d' A' z (a + np + 1) = 0 := by rw [rn, if_neg (fun q => hent.2.2.2.1 q.2.2.2)]
  have rq1' : a + np < E → rn d A z (a + np + 1) = 0 := fun h => by
    rw [rn, if_neg (fun q => q.2.2.1 (h229 _ (by omega) (Nat.le_refl _) h))]
  have r3 : ∀ t, a + np < t → t ≤ E → rn d' A' z t = rn d A z t := fun t h1 h2 => by
    have := rn_congr (d := d) (A := A) (d' := d') (A' := A') (z := z) (a := a + np + 1) (by rw [rq1, rq1' (by omega)]) (t - (a + np + 1)) (fun u _ hu => hP u (by omega) (by omega))
    rwa [show a + np + 1 + (t - (a + np + 1)) = t by omega] at this
  have hsep : ∀ t, t < E → (isE d A z t ∨ isL d A z t) → (t < a ∨ a + np < t) := fun t ht h => by
    apply Decidable.byContradiction
    intro hc
    have := h229 t (by omega) (by omega) ht
    rcases h with h | h
    · exact h.2.2.1 this
    · exact h.2.2.1 this
  have rsep : ∀ t, t ≤ E → (t < a ∨ a + np < t) → rn d' A' z t = rn d A z t := fun t ht h => by
    rcases h with h | h
    · exact r1 t (by omega)
    · exact r3 t h ht
  have i1 : ∀ t, t ≤ a → itm d' A' z t = itm d A z t := fun t ht => by
    have := itm_congr (d := d) (A := A) (d' := d') (A' := A') (z := z) (a := 0) rfl t (fun u _ hu => ⟨hE u (by omega) (by omega), fun _ => r1 u (by omega)⟩)
    rwa [Nat.zero_add] at this
  have i2 : ∀ j, j ≤ np → itm d' A' z (a + j) = itm d A z a := by
    intro j
    induction j with
    | zero => intro _; exact i1 a (Nat.le_refl _)
    | succ j ih => intro hj; rw [← Nat.add_assoc, itm, if_neg (fun q => q.2.2.2.1 (hPn (a + j) (by omega) (by omega)).2.2.2), ih (by omega)]
  have i3 : itm d' A' z (a + np + 1) = itm d A z a ++ [(a + np, np)] := by rw [itm, if_pos hent, i2 np (Nat.le_refl _), rq]
  have hmem : ∀ t, t ≤ max E (a + np + 1) → ∀ e, e ∈ itm d' A' z t ↔ (e ∈ itm d A z E ∧ e.1 < t) ∨ (e = (a + np, np) ∧ a + np < t) := fun t ht e => by
    rw [mem_itm, mem_itm]
    constructor
    · rintro ⟨h1, h2, h3⟩
      by_cases hc : e.1 < a ∨ a + np < e.1
      · left
        have h4 : e.1 < E := by omega
        exact ⟨⟨h4, (hE _ h4 hc).mp h2, by rw [h3, rsep _ (by omega) hc]⟩, h1⟩
      · right
        by_cases hc2 : e.1 = a + np
        · exact ⟨Prod.ext hc2 (by rw [h3, hc2, rq]), by omega⟩
        · exact absurd (hPn e.1 (by omega) (by omega)).2.2.2 h2.2.2.2.1
    · rintro (⟨⟨h1, h2, h3⟩, h4⟩ | ⟨h1, h2⟩)
      · have hc := hsep e.1 h1 (Or.inl h2)
        exact ⟨h4, (hE _ h1 hc).mpr h2, by rw [h3, rsep _ (by omega) hc]⟩
      · rw [h1]; exact ⟨h2, hent, rq.symm⟩
  have hparts : ∀ t, t < E → (t < a ∨ a + np < t) → ∀ j, j < rn d A z t → sl d (A (t - 1 - j)) d' (A' (t - 1 - j)) := fun t ht h j hj => by
    have h1 := rn_part t j hj
    have h2 := rn_le (d := d) (A := A) (z := z) t
    refine ho _ (by omega) ?_
    rcases h with h | h
    · left; omega
    · right
      apply Decidable.byContradiction
      intro hc
      have h3 := rn_part (d := d) (A := A) (z := z) t (t - 1 - (a + np)) (by omega)
      rw [show t - 1 - (t - 1 - (a + np)) = a + np by omega] at h3
      exact h3.2.2.1 (h229 _ (by omega) (Nat.le_refl _) (by omega))
  have hl : ∀ t, t ≤ E → lbl d' A' z t = lbl d A z t := by
    intro t
    induction t with
    | zero => intro _; rfl
    | succ t ih =>
      intro ht
      rw [lbl, lbl, ih (by omega)]
      by_cases hc : t < a ∨ a + np < t
      · by_cases q : isL d A z t
        · rw [if_pos q, if_pos ((hL t (by omega) hc).mpr q)]
        · rw [if_neg q, if_neg (fun q2 => q ((hL t (by omega) hc).mp q2))]
      · have n1 : ¬ isL d A z t := fun q => q.2.2.1 (h229 t (by omega) (by omega) (by omega))
        have n2 : ¬ isL d' A' z t := by
          intro q
          by_cases hc2 : t = a + np
          · rw [hc2] at q; have := q.2.2.2.2; have := hent.2.2.2.2; omega
          · exact q.2.2.2.1 (hPn t (by omega) (by omega)).2.2.2
        rw [if_neg n1, if_neg n2]
  have he11 : ∀ e, e ∈ itm d A z E → (∀ i, i < 11 → d' (A' e.1 + i) = d (A e.1 + i)) ∧ nm d' A' e.1 e.2 = nm d A e.1 e.2 := fun e he => by
    have hm := (mem_itm E).mp he
    have hc := hsep e.1 hm.1 (Or.inl hm.2.1)
    have h11 : ∀ i, i < 11 → d' (A' e.1 + i) = d (A e.1 + i) := fun i hi => ho e.1 hm.1 hc i (by omega)
    refine ⟨h11, (nm_congr (fun _ => h11) ?_).1⟩
    rw [hm.2.2]; exact hparts e.1 hm.1 hc
  refine ⟨?_, i3, fun e => ?_, fun t ht1 ht2 => ?_, ?_⟩
  · refine zl_uniq _ (Nat.zero_le _) (by omega) (fun t _ ht => ?_) (fun hlt => ?_)
    · show d' (A' t) ≠ 0
      by_cases hc : t < a ∨ a + np < t
      · have htE : t < E := by omega
        have := ho t htE hc 0 (by omega)
        rw [show d' (A' t) = d (A t) from this]; exact hne t htE
      · by_cases hc2 : t = a + np
        · rw [hc2]; exact hent.2.1
        · exact (hpart t (by omega) (by omega)).1
    · show d' (A' (max E (a + np + 1))) = 0
      by_cases hc : E ≤ a + np + 1
      · rw [Nat.max_eq_right hc]; rw [Nat.max_eq_right hc] at hlt; exact hend hc (by omega)
      · rw [Nat.max_eq_left (by omega)]; rw [Nat.max_eq_left (by omega)] at hlt; exact hend2 (by omega) (by omega)
  · rw [hmem _ (Nat.le_refl _)]
    constructor
    · rintro (h | h)
      · exact Or.inl h.1
      · exact Or.inr h.1
    · rintro (h | h)
      · have := (mem_itm E).mp h
        exact Or.inl ⟨h, by omega⟩
      · exact Or.inr ⟨h, by omega⟩
  · by_cases hc : t < a ∨ a + np < t
    · have htE : t < E := by omega
      refine lf_keep (ho t htE hc) (rsep t (by omega) hc) (hl t (by omega)) (hparts t htE hc) (fun hEt e he => ?_) (hok t ht1 htE)
      rcases (hmem t (by omega) e).mp he with ⟨h1, h2⟩ | ⟨h1, h2⟩
      · right
        have hm := (mem_itm E).mp h1
        exact ⟨(mem_itm t).mpr ⟨h2, hm.2⟩, he11 e h1⟩
      · left
        rw [h1]
        intro hw
        have hme : (t, rn d A z t) ∈ itm d A z E := (mem_itm E).mpr ⟨htE, hEt, rfl⟩
        exact htw _ hme (twn_symm hw)
    · by_cases hc2 : t = a + np
      · rw [hc2]
        refine lf_zero.mpr ⟨fun q => absurd q hent.2.2.1, fun _ => ?_, fun q => ?_⟩
        · rw [rq]
          refine ⟨hnew, fun e he => ?_⟩
          rcases (hmem (a + np) (by omega) e).mp he with ⟨h1, _⟩ | ⟨_, h2⟩
          · exact htw e h1
          · omega
        · have := q.2.2.2.2; have := hent.2.2.2.2; omega
      · have hp := hPn t (by omega) (by omega)
        exact lf_zero.mpr ⟨fun q => absurd q hp.2.2.1, fun q => absurd hp.2.2.2 q.2.2.2.1, fun q => absurd hp.2.2.2 q.2.2.2.1⟩
  · by_cases hc : E ≤ a + np + 1
    · rw [Nat.max_eq_right hc]; exact rq1
    · rw [Nat.max_eq_left (by omega), r3 E (by omega) (Nat.le_refl _)]; exact hr
