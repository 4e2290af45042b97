/-! one entry's bytes behind its short name change -/
theorem ent_change {d d' A : Nat → Nat} {z S s : Nat} (hS : s < S) (hs : isE d A z s) (ho : ∀ t, t < S → t ≠ s → sl d (A t) d' (A t)) (h11 : ∀ i, i < 11 → d' (A s + i) = d (A s + i)) (hb : d' (A s + 11) ≤ 63 ∧ d' (A s + 11) % 64 ≠ 15 ∧ d' (A s + 11) / 8 % 2 = 0) : en d' A S 0 = en d A S 0 ∧ (∀ t, t ≤ S → rn d' A z t = rn d A z t ∧ itm d' A z t = itm d A z t ∧ lbl d' A z t = lbl d A z t) ∧ (timesOK d' (A s) → (isDr d' (A s) → fo d' (A s + 28) = 0) → ∀ t, t < S → lf d A z t = 0 → lf d' A z t = 0) := by
  have e0 : ∀ t, t < S → d' (A t) = d (A t) := fun t ht => by
    by_cases h : t = s
    · rw [h]; exact h11 0 (by omega)
    · exact ho t ht h 0 (by omega)
  have e11 : ∀ t, t < S → ∀ i, i < 11 → d' (A t + i) = d (A t + i) := fun t ht i hi => by
    by_cases h : t = s
    · rw [h]; exact h11 i hi
    · exact ho t ht h i (by omega)
  have hP : ∀ t, t < S → (isP d' A z t ↔ isP d A z t) := fun t ht => by
    by_cases h : t = s
    · rw [h]
      exact ⟨fun q => absurd q.2.2.2 hb.2.1, fun q => absurd q.2.2.2 hs.2.2.2.1⟩
    · unfold isP; rw [e0 t ht, ho t ht h 11 (by omega)]
  have hE : ∀ t, t < S → (isE d' A z t ↔ isE d A z t) := fun t ht => by
    by_cases h : t = s
    · rw [h]
      refine ⟨fun _ => hs, fun _ => ⟨hs.1, ?_, ?_, hb.2.1, hb.2.2⟩⟩
      · rw [e0 s hS]; exact hs.2.1
      · rw [e0 s hS]; exact hs.2.2.1
    · unfold isE; rw [e0 t ht, ho t ht h 11 (by omega)]
  have hL : ∀ t, t < S → (isL d' A z t ↔ isL d A z t) := fun t ht => by
    by_cases h : t = s
    · rw [h]
      exact ⟨fun q => absurd q.2.2.2.2 (by rw [hb.2.2]; decide), fun q => absurd q.2.2.2.2 (by rw [hs.2.2.2.2]; decide)⟩
    · unfold isL; rw [e0 t ht, ho t ht h 11 (by omega)]
  have hr : ∀ t, t ≤ S → rn d' A z t = rn d A z t := fun t ht => by
    have := rn_congr (d := d) (A := A) (d' := d') (A' := A) (z := z) (a := 0) rfl t (fun u _ hu => hP u (by omega))
    rwa [Nat.zero_add] at this
  have hi : ∀ t, t ≤ S → itm d' A z t = itm d A z t := fun t ht => by
    have := itm_congr (d := d) (A := A) (d' := d') (A' := A) (z := z) (a := 0) rfl t (fun u _ hu => ⟨hE u (by omega), fun _ => hr u (by omega)⟩)
    rwa [Nat.zero_add] at this
  have hl : ∀ t, t ≤ S → lbl d' A z t = lbl d A z t := fun t ht => by
    have := lbl_congr (d := d) (A := A) (d' := d') (A' := A) (z := z) (a := 0) rfl t (fun u _ hu => hL u (by omega))
    rwa [Nat.zero_add] at this
  have hparts : ∀ t, t < S → ∀ j, j < rn d A z t → sl d (A (t - 1 - j)) d' (A (t - 1 - j)) := fun t ht j hj => by
    have h1 := rn_part t j hj
    exact ho _ (by omega) (fun e => by rw [e] at h1; exact hs.2.2.2.1 h1.2.2.2)
  have hnm : ∀ t, t < S → nm d' A t (rn d A z t) = nm d A t (rn d A z t) := fun t ht => (nm_congr (fun _ => e11 t ht) (hparts t ht)).1
  refine ⟨zl_congr S 0 (fun t _ ht => e0 t (by omega)), fun t ht => ⟨hr t ht, hi t ht, hl t ht⟩, fun htm hdr t ht hlf => ?_⟩
  by_cases h : t = s
  · rw [h] at hlf ⊢
    obtain ⟨_, g2, _⟩ := lf_zero.mp hlf
    obtain ⟨g3, g4⟩ := g2 hs
    refine lf_zero.mpr ⟨fun q => ?_, fun q => ?_, fun q => ?_⟩
    · rw [e0 s hS] at q; exact absurd q hs.2.2.1
    · rw [hr s (by omega), hi s (by omega)]
      refine ⟨e4_keep h11 (hparts s hS) hb.1 htm hdr g3, fun e he hw => g4 e he ?_⟩
      have hm := (mem_itm s).mp he
      rcases hw with w | w
      · left
        intro i hi2
        rw [← h11 i hi2, ← e11 e.1 (by omega) i hi2]; exact w i hi2
      · right
        rw [hnm s hS, hm.2.2, hnm e.1 (by omega), ← hm.2.2] at w
        exact w
    · exact absurd ((hL s hS).mp q).2.2.2.2 (by rw [hs.2.2.2.2]; decide)
  · refine lf_keep (ho t ht h) (hr t (by omega)) (hl t (by omega)) (hparts t ht) (fun _ e he => Or.inr ?_) hlf
    rw [hi t (by omega)] at he
    have hm := (mem_itm t).mp he
    refine ⟨he, e11 e.1 (by omega), ?_⟩
    rw [hm.2.2]; exact hnm e.1 (by omega)
/-! an item goes -/
theorem rem_change {d d' A : Nat → Nat} {z S s : Nat} (hS : s < S) (hs : isE d A z s) (ho : ∀ t, t < S → (t < s - rn d A z s ∨ s < t) → sl d (A t) d' (A t)) (hb : ∀ t, s - rn d A z s ≤ t → t ≤ s → d' (A t) = 229) : en d' A S 0 = en d A S 0 ∧ (∀ t, t ≤ S → ∀ e, e ∈ itm d' A z t ↔ e ∈ itm d A z t ∧ e.1 ≠ s) ∧ (∀ t, t ≤ S → rn d' A z t ≤ rn d A z t) ∧ (∀ t, t < S → lf d A z t = 0 → lf d' A z t = 0) := by
  have hle := rn_le (d := d) (A := A) (z := z) s
  have hin : ∀ t, s - rn d A z s ≤ t → t ≤ s → d (A t) ≠ 0 := fun t h1 h2 => by
    by_cases h : t = s
    · rw [h]; exact hs.2.1
    · have := rn_part (d := d) (A := A) (z := z) s (s - 1 - t) (by omega)
      rw [show s - 1 - (s - 1 - t) = t by omega] at this
      exact this.2.1
  have hpin : ∀ t, s - rn d A z s ≤ t → t < s → isP d A z t := fun t h1 h2 => by
    have := rn_part (d := d) (A := A) (z := z) s (s - 1 - t) (by omega)
    rwa [show s - 1 - (s - 1 - t) = t by omega] at this
  have hP : ∀ t, t < S → (isP d' A z t ↔ isP d A z t ∧ (t < s - rn d A z s ∨ s < t)) := fun t ht => by
    by_cases h : t < s - rn d A z s ∨ s < t
    · have e := ho t ht h
      have e0 : d' (A t) = d (A t) := e 0 (by omega)
      unfold isP
      rw [e0, e 11 (by omega)]
      exact ⟨fun q => ⟨q, h⟩, fun q => q.1⟩
    · exact ⟨fun q => absurd (hb t (by omega) (by omega)) q.2.2.1, fun q => absurd q.2 h⟩
  have hE : ∀ t, t < S → (isE d' A z t ↔ isE d A z t ∧ t ≠ s) := fun t ht => by
    by_cases h : t < s - rn d A z s ∨ s < t
    · have e := ho t ht h
      have e0 : d' (A t) = d (A t) := e 0 (by omega)
      unfold isE
      rw [e0, e 11 (by omega)]
      exact ⟨fun q => ⟨q, by omega⟩, fun q => q.1⟩
    · refine ⟨fun q => absurd (hb t (by omega) (by omega)) q.2.2.1, fun q => ?_⟩
      exact absurd (hpin t (by omega) (by omega)).2.2.2 q.1.2.2.2.1
  have hL : ∀ t, t < S → (isL d' A z t ↔ isL d A z t) := fun t ht => by
    by_cases h : t < s - rn d A z s ∨ s < t
    · have e := ho t ht h
      have e0 : d' (A t) = d (A t) := e 0 (by omega)
      unfold isL
      rw [e0, e 11 (by omega)]
    · refine ⟨fun q => absurd (hb t (by omega) (by omega)) q.2.2.1, fun q => ?_⟩
      by_cases e : t = s
      · rw [e] at q; have := q.2.2.2.2; have := hs.2.2.2.2; omega
      · exact absurd (hpin t (by omega) (by omega)).2.2.2 q.2.2.2.1
  have hstop : ∀ t, t < S → t + 1 = s - rn d A z s → ¬ isP d A z t := fun t ht h1 q => by
    have := rn_stop (d := d) (A := A) (z := z) s (by omega)
    rw [show s - 1 - rn d A z s = t by omega] at this
    exact this q
  have hr0 : ∀ t, t ≤ S → s - rn d A z s ≤ t → t ≤ s + 1 → rn d' A z t = 0 := fun t ht h1 h2 => by
    cases t with
    | zero => rfl
    | succ t =>
      rw [rn, if_neg]
      intro q
      have q2 := (hP t (by omega)).mp q
      rcases q2.2 with w | w
      · exact hstop t (by omega) (by omega) q2.1
      · omega
  have hsr : ∀ t, t ≤ S → (t < s - rn d A z s ∨ s < t) → rn d' A z t = rn d A z t := fun t ht h => by
    rcases h with h | h
    · have := rn_congr (d := d) (A := A) (d' := d') (A' := A) (z := z) (a := 0) rfl t (fun u _ hu => ⟨fun q => ((hP u (by omega)).mp q).1, fun q => (hP u (by omega)).mpr ⟨q, by omega⟩⟩)
      rwa [Nat.zero_add] at this
    · have e1 : rn d A z (s + 1) = 0 := by rw [rn, if_neg (fun q => hs.2.2.2.1 q.2.2.2)]
      have := rn_congr (d := d) (A := A) (d' := d') (A' := A) (z := z) (a := s + 1) (by rw [e1]; exact hr0 _ (by omega) (by omega) (by omega)) (t - (s + 1)) (fun u h1 hu => ⟨fun q => ((hP u (by omega)).mp q).1, fun q => (hP u (by omega)).mpr ⟨q, by omega⟩⟩)
      rwa [show s + 1 + (t - (s + 1)) = t by omega] at this
  have hrle : ∀ t, t ≤ S → rn d' A z t ≤ rn d A z t := fun t ht => by
    by_cases h : t < s - rn d A z s ∨ s < t
    · rw [hsr t ht h]; exact Nat.le_refl _
    · rw [hr0 t ht (by omega) (by omega)]; exact Nat.zero_le _
  have hEsep : ∀ t, t < S → isE d A z t → t ≠ s → (t < s - rn d A z s ∨ s < t) := fun t ht h1 h2 => by
    apply Decidable.byContradiction
    intro h
    exact h1.2.2.2.1 (hpin t (by omega) (by omega)).2.2.2
  have hi : ∀ t, t ≤ S → ∀ e, e ∈ itm d' A z t ↔ e ∈ itm d A z t ∧ e.1 ≠ s := fun t ht e => by
    rw [mem_itm, mem_itm]
    constructor
    · rintro ⟨h1, h2, h3⟩
      have h4 := (hE e.1 (by omega)).mp h2
      rw [hsr e.1 (by omega) (hEsep e.1 (by omega) h4.1 h4.2)] at h3
      exact ⟨⟨h1, h4.1, h3⟩, h4.2⟩
    · rintro ⟨⟨h1, h2, h3⟩, h4⟩
      rw [hsr e.1 (by omega) (hEsep e.1 (by omega) h2 h4)]
      exact ⟨h1, (hE e.1 (by omega)).mpr ⟨h2, h4⟩, h3⟩
  have hparts : ∀ t, t < S → (t < s - rn d A z s ∨ s < t) → ∀ j, j < rn d A z t → sl d (A (t - 1 - j)) d' (A (t - 1 - j)) := fun t ht h j hj => by
    have h1 := rn_part t j hj
    have h2 := rn_le (d := d) (A := A) (z := z) t
    refine ho _ (by omega) ?_
    rcases h with h | h
    · left; omega
    · right
      apply Decidable.byContradiction
      intro hc
      -- the slot s would be a part
      have h3 := rn_part (d := d) (A := A) (z := z) t (t - 1 - s) (by omega)
      rw [show t - 1 - (t - 1 - s) = s by omega] at h3
      exact hs.2.2.2.1 h3.2.2.2
  have hl : ∀ t, t ≤ S → lbl d' A z t = lbl d A z t := fun t ht => by
    have := lbl_congr (d := d) (A := A) (d' := d') (A' := A) (z := z) (a := 0) rfl t (fun u _ hu => hL u (by omega))
    rwa [Nat.zero_add] at this
  refine ⟨?_, hi, hrle, fun t ht hlf => ?_⟩
  · refine zl_uniq _ (Nat.zero_le _) (zl_le _ S 0).2 (fun t _ ht => ?_) (fun hlt => ?_)
    · have hz := zl_ne (fun t => d (A t)) S 0 t (Nat.zero_le _) ht
      have hS2 := (zl_le (fun t => d (A t)) S 0).2
      unfold en at ht
      by_cases h : t < s - rn d A z s ∨ s < t
      · have := ho t (by omega) h 0 (by omega)
        show d' (A t) ≠ 0
        rw [show d' (A t) = d (A t) from this]; exact hz
      · show d' (A t) ≠ 0
        rw [hb t (by omega) (by omega)]; decide
    · have hz : d (A (en d A S 0)) = 0 := zl_end (fun t => d (A t)) S 0 hlt
      have h : en d A S 0 < s - rn d A z s ∨ s < en d A S 0 := by
        apply Decidable.byContradiction
        intro h
        exact hin _ (by omega) (by omega) hz
      have := ho _ (by omega) h 0 (by omega)
      show d' (A (en d A S 0)) = 0
      rw [show d' (A (en d A S 0)) = d (A (en d A S 0)) from this]; exact hz
  · by_cases h : t < s - rn d A z s ∨ s < t
    · refine lf_keep (ho t ht h) (hsr t (by omega) h) (hl t (by omega)) (hparts t ht h) (fun _ e he => Or.inr ?_) hlf
      obtain ⟨k1, k2⟩ := (hi t (by omega) e).mp he
      have hm := (mem_itm t).mp k1
      have hsep := hEsep e.1 (by omega) hm.2.1 k2
      have he11 : ∀ i, i < 11 → d' (A e.1 + i) = d (A e.1 + i) := fun i hi => ho e.1 (by omega) hsep i (by omega)
      refine ⟨k1, he11, (nm_congr (fun _ => he11) ?_).1⟩
      rw [hm.2.2]; exact hparts e.1 (by omega) hsep
    · have e229 := hb t (by omega) (by omega)
      exact lf_zero.mpr ⟨fun _ => hr0 t (by omega) (by omega) (by omega), fun q => absurd e229 q.2.2.1, fun q => absurd e229 q.2.2.1⟩
