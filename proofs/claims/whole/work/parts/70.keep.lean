/-! slots that stay as they are keep their faults -/
theorem lf_zero {d A : Nat → Nat} {z s : Nat} : lf d A z s = 0 ↔ (d (A s) = 229 → rn d A z s = 0) ∧ (isE d A z s → e4 d A s (rn d A z s) ∧ ∀ e, e ∈ itm d A z s → ¬ twn d A s (rn d A z s) e) ∧ (isL d A z s → l4 d A z s) := by
  unfold lf
  by_cases h1 : d (A s) = 229
  · rw [if_pos h1]
    by_cases h2 : rn d A z s = 0
    · rw [if_pos h2]
      exact ⟨fun _ => ⟨fun _ => h2, fun q => absurd h1 q.2.2.1, fun q => absurd h1 q.2.2.1⟩, fun _ => rfl⟩
    · rw [if_neg h2]
      exact ⟨fun q => absurd q (by decide), fun q => absurd (q.1 h1) h2⟩
  · rw [if_neg h1]
    by_cases h2 : isE d A z s
    · rw [if_pos h2]
      have hl : ¬ isL d A z s := fun q => by have := q.2.2.2.2; have := h2.2.2.2.2; omega
      by_cases h3 : e4 d A s (rn d A z s)
      · rw [if_pos h3]
        by_cases h4 : ∃ e, e ∈ itm d A z s ∧ twn d A s (rn d A z s) e
        · rw [if_pos h4]
          refine ⟨fun q => absurd q (by decide), fun q => ?_⟩
          obtain ⟨e, e1, e2⟩ := h4
          exact absurd e2 ((q.2.1 h2).2 e e1)
        · rw [if_neg h4]
          exact ⟨fun _ => ⟨fun q => absurd q h1, fun _ => ⟨h3, fun e e1 e2 => h4 ⟨e, e1, e2⟩⟩, fun q => absurd q hl⟩, fun _ => rfl⟩
      · rw [if_neg h3]
        exact ⟨fun q => absurd q (by decide), fun q => absurd (q.2.1 h2).1 h3⟩
    · rw [if_neg h2]
      by_cases h3 : isL d A z s
      · rw [if_pos h3]
        by_cases h4 : l4 d A z s
        · rw [if_pos h4]
          exact ⟨fun _ => ⟨fun q => absurd q h1, fun q => absurd q h2, fun _ => h4⟩, fun _ => rfl⟩
        · rw [if_neg h4]
          exact ⟨fun q => absurd q (by decide), fun q => absurd (q.2.2 h3) h4⟩
      · rw [if_neg h3]
        exact ⟨fun _ => ⟨fun q => absurd q h1, fun q => absurd q h2, fun q => absurd q h3⟩, fun _ => rfl⟩
/-- two slots hold the same -/
abbrev sl (d : Nat → Nat) (p : Nat) (d' : Nat → Nat) (p' : Nat) : Prop := ∀ i, i < 32 → d' (p' + i) = d (p + i)
theorem sl.twE {d d' : Nat → Nat} {p p' : Nat} (h : sl d p d' p') {i : Nat} (hi : i + 1 < 32) : tw d' (p' + i) = tw d (p + i) := by
  unfold tw
  rw [h i (by omega), Nat.add_assoc, h (i + 1) hi, Nat.add_assoc]
theorem sl.foE {d d' : Nat → Nat} {p p' : Nat} (h : sl d p d' p') {i : Nat} (hi : i + 3 < 32) : fo d' (p' + i) = fo d (p + i) := by
  unfold fo
  rw [h.twE (by omega), Nat.add_assoc, h.twE (show i + 2 + 1 < 32 by omega), Nat.add_assoc]
theorem sl.fclE {d d' : Nat → Nat} {p p' : Nat} (h : sl d p d' p') : fcl d' p' = fcl d p := by
  unfold fcl
  rw [h.twE (by omega), h.twE (by omega)]
theorem sl.times {d d' : Nat → Nat} {p p' : Nat} (h : sl d p d' p') : timesOK d' p' ↔ timesOK d p := by
  unfold timesOK
  rw [h.twE (by omega), h.twE (by omega), h.twE (by omega), h.twE (by omega), h.twE (by omega), h 13 (by omega)]
theorem sh_congr {d d' : Nat → Nat} {p p' : Nat} (h : ∀ i, i < 11 → d' (p' + i) = d (p + i)) (lab : Prop) [Decidable lab] : shOK d' p' lab ↔ shOK d p lab := by
  have e0 : d' p' = d p := h 0 (by omega)
  have em : ∀ i, i < 11 → i ≠ 0 → d' (p' + i - 1) = d (p + i - 1) := fun i hi h0 => by
    have := h (i - 1) (by omega)
    rw [show p' + i - 1 = p' + (i - 1) by omega, show p + i - 1 = p + (i - 1) by omega]; exact this
  unfold shOK
  rw [e0]
  constructor
  · rintro ⟨h1, h2⟩
    refine ⟨h1, fun i hi hb => ?_⟩
    have := h2 i hi (by rw [h i hi]; exact hb)
    rw [h i hi] at this
    refine ⟨this.1, ?_⟩
    rcases this.2 with q | q | q | q
    · exact Or.inl q
    · exact Or.inr (Or.inl q)
    · exact Or.inr (Or.inr (Or.inl q))
    · by_cases hz : i = 0
      · exact Or.inr (Or.inl hz)
      · exact Or.inr (Or.inr (Or.inr (by rw [← em i hi hz]; exact q)))
  · rintro ⟨h1, h2⟩
    refine ⟨h1, fun i hi hb => ?_⟩
    have := h2 i hi (by rw [← h i hi]; exact hb)
    rw [← h i hi] at this
    refine ⟨this.1, ?_⟩
    rcases this.2 with q | q | q | q
    · exact Or.inl q
    · exact Or.inr (Or.inl q)
    · exact Or.inr (Or.inr (Or.inl q))
    · by_cases hz : i = 0
      · exact Or.inr (Or.inl hz)
      · exact Or.inr (Or.inr (Or.inr (by rw [em i hi hz]; exact q)))
theorem pt_congr {d A d' A' : Nat → Nat} {s np sum : Nat} (hp : ∀ j, j < np → sl d (A (s - 1 - j)) d' (A' (s - 1 - j))) (h : ptOK d A s np sum) : ptOK d' A' s np sum := by
  refine ⟨h.1, fun i hi => ?_⟩
  have h1 := hp i hi
  have h2 := h.2 i hi
  have e0 : d' (A' (s - 1 - i)) = d (A (s - 1 - i)) := h1 0 (by omega)
  rw [e0, h1 12 (by omega), h1 13 (by omega), h1.twE (by omega)]
  exact h2
theorem fl_congr {d A d' A' : Nat → Nat} {s np : Nat} (h0 : np = 0 → ∀ i, i < 11 → d' (A' s + i) = d (A s + i)) (hp : ∀ j, j < np → sl d (A (s - 1 - j)) d' (A' (s - 1 - j))) (h : flOK d A s np) : flOK d' A' s np := by
  obtain ⟨e1, e2⟩ := nm_congr (d := d) (A := A) (d' := d') (A' := A') (s := s) (np := np) h0 hp
  unfold flOK
  rw [e1]
  exact ⟨h.1, fun i hi hl => by rw [e2 i hi]; exact h.2 i hi hl⟩
/-- an entry whose first eleven bytes and parts stay, and whose other bytes are good -/
theorem e4_keep {d A d' A' : Nat → Nat} {s np : Nat} (h11 : ∀ i, i < 11 → d' (A' s + i) = d (A s + i)) (hp : ∀ j, j < np → sl d (A (s - 1 - j)) d' (A' (s - 1 - j))) (hb : d' (A' s + 11) ≤ 63) (ht : timesOK d' (A' s)) (hd : isDr d' (A' s) → fo d' (A' s + 28) = 0) (h : e4 d A s np) : e4 d' A' s np := by
  obtain ⟨_, _, g3, _, g5, g6, g7⟩ := h
  refine ⟨hb, ht, (sh_congr h11 False).mpr g3, hd, ?_, ?_, fun q => fl_congr (fun _ => h11) hp (g7 q)⟩
  · rw [sm_congr h11 11 (Nat.le_refl _)]; exact pt_congr hp g5
  · rw [(nm_congr (fun _ => h11) hp).1]; exact g6
theorem lf_keep {d A d' A' : Nat → Nat} {z t : Nat} (hs : sl d (A t) d' (A' t)) (hr : rn d' A' z t = rn d A z t) (hl : lbl d' A' z t = lbl d A z t) (hp : ∀ j, j < rn d A z t → sl d (A (t - 1 - j)) d' (A' (t - 1 - j))) (hi : isE d A z t → ∀ e, e ∈ itm d' A' z t → ¬ twn d' A' t (rn d A z t) e ∨ (e ∈ itm d A z t ∧ (∀ i, i < 11 → d' (A' e.1 + i) = d (A e.1 + i)) ∧ nm d' A' e.1 e.2 = nm d A e.1 e.2)) (h : lf d A z t = 0) : lf d' A' z t = 0 := by
  obtain ⟨h1, h2, h3⟩ := lf_zero.mp h
  have e0 : d' (A' t) = d (A t) := hs 0 (by omega)
  have e11 := hs 11 (by omega)
  have eE : isE d' A' z t ↔ isE d A z t := by unfold isE; rw [e0, e11]
  have eL : isL d' A' z t ↔ isL d A z t := by unfold isL; rw [e0, e11]
  have eD : isDr d' (A' t) ↔ isDr d (A t) := by unfold isDr; rw [e11]
  have h11 : ∀ i, i < 11 → d' (A' t + i) = d (A t + i) := fun i hi => hs i (by omega)
  refine lf_zero.mpr ⟨fun q => ?_, fun q => ?_, fun q => ?_⟩
  · rw [hr]; rw [e0] at q; exact h1 q
  · have q' := eE.mp q
    obtain ⟨g1, g2⟩ := h2 q'
    rw [hr]
    refine ⟨e4_keep h11 hp (by rw [e11]; exact g1.1) (hs.times.mpr g1.2.1) (fun q => by rw [hs.foE (by omega)]; exact g1.2.2.2.1 (eD.mp q)) g1, fun e he => ?_⟩
    rcases hi q' e he with g | ⟨k1, k2, k3⟩
    · exact g
    · intro hw
      refine g2 e k1 ?_
      rcases hw with w | w
      · left
        intro i hi
        rw [← h11 i hi, ← k2 i hi]; exact w i hi
      · right
        rw [k3, (nm_congr (fun _ => h11) hp).1] at w
        exact w
  · obtain ⟨a1, a2, a3, a4, a5, a6, a7, a8, a9⟩ := h3 (eL.mp q)
    exact ⟨by rw [e11]; exact a1, hs.times.mpr a2, (sh_congr h11 True).mpr a3, fun q => a4 (eD.mp q), by rw [hs.fclE]; exact a5, by rw [hs.foE (by omega)]; exact a6, by rw [hr]; exact a7, a8, by rw [hl]; exact a9⟩
theorem twn_symm {d A : Nat → Nat} {s np : Nat} {e : Nat × Nat} (h : twn d A s np e) : twn d A e.1 e.2 (s, np) := by
  rcases h with h | h
  · exact Or.inl (fun i hi => (h i hi).symm)
  · exact Or.inr h.symm
