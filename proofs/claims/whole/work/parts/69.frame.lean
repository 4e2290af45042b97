/-! what a look at slots depends on -/
/-- the slots before S hold the same bytes -/
def eqw (S : Nat) (d A d' A' : Nat → Nat) : Prop := ∀ t, t < S → ∀ i, i < 32 → d' (A' t + i) = d (A t + i)
theorem eqw.twE {S : Nat} {d A d' A' : Nat → Nat} (h : eqw S d A d' A') {t i : Nat} (ht : t < S) (hi : i + 1 < 32) : tw d' (A' t + i) = tw d (A t + i) := by
  unfold tw
  rw [h t ht i (by omega), Nat.add_assoc, h t ht (i + 1) hi, Nat.add_assoc]
theorem eqw.foE {S : Nat} {d A d' A' : Nat → Nat} (h : eqw S d A d' A') {t i : Nat} (ht : t < S) (hi : i + 3 < 32) : fo d' (A' t + i) = fo d (A t + i) := by
  unfold fo
  rw [h.twE ht (by omega), Nat.add_assoc, h.twE ht (show i + 2 + 1 < 32 by omega), Nat.add_assoc]
theorem eqw.fclE {S : Nat} {d A d' A' : Nat → Nat} (h : eqw S d A d' A') {t : Nat} (ht : t < S) : fcl d' (A' t) = fcl d (A t) := by
  unfold fcl
  rw [h.twE ht (by omega), h.twE ht (by omega)]
theorem eqw.z {S : Nat} {d A d' A' : Nat → Nat} (h : eqw S d A d' A') {t : Nat} (ht : t < S) : d' (A' t) = d (A t) := h t ht 0 (by omega)
theorem sm_congr {d d' : Nat → Nat} {p p' : Nat} (h : ∀ i, i < 11 → d' (p' + i) = d (p + i)) : ∀ n, n ≤ 11 → smS d' p' n = smS d p n := by
  intro n
  induction n with
  | zero => intro _; rfl
  | succ n ih => intro hn; rw [smS, smS, ih (by omega), h n (by omega)]
theorem shw_congr {d d' : Nat → Nat} {p p' : Nat} (h : ∀ i, i < 11 → d' (p' + i) = d (p + i)) : ∀ n, n ≤ 11 → shw d' p' n = shw d p n := by
  intro n
  induction n with
  | zero => intro _; rfl
  | succ n ih => intro hn; rw [shw, shw, ih (by omega), h n (by omega), h 8 (by omega)]
theorem plc_lt {q : Nat} (h : q < 13) : plc q + 1 < 32 := by
  unfold plc
  by_cases h1 : q < 5
  · rw [if_pos h1]; omega
  · rw [if_neg h1]
    by_cases h2 : q < 11
    · rw [if_pos h2]; omega
    · rw [if_neg h2]; omega
theorem zl_congr {f g : Nat → Nat} : ∀ m q, (∀ t, q ≤ t → t < q + m → f t = g t) → zl f m q = zl g m q := by
  intro m
  induction m with
  | zero => intro q _; rfl
  | succ m ih =>
    intro q h
    rw [zl, zl, h q (by omega) (by omega), ih (q + 1) (fun t h1 h2 => h t (by omega) (by omega))]
/-- a name depends on the entry's first eleven bytes, if it has no parts, else on the parts -/
theorem nm_congr {d A d' A' : Nat → Nat} {s np : Nat} (h0 : np = 0 → ∀ i, i < 11 → d' (A' s + i) = d (A s + i)) (h1 : ∀ j, j < np → ∀ i, i < 32 → d' (A' (s - 1 - j) + i) = d (A (s - 1 - j) + i)) : nm d' A' s np = nm d A s np ∧ ∀ u, u < 13 * np → nU d' A' s u = nU d A s u := by
  have hu : ∀ u, u < 13 * np → nU d' A' s u = nU d A s u := by
    intro u hu
    have h2 := h1 (u / 13) (by omega)
    have h3 := plc_lt (Nat.mod_lt u (show 0 < 13 by decide))
    unfold nU tw
    rw [h2 _ (by omega), Nat.add_assoc, h2 _ h3, Nat.add_assoc]
  refine ⟨?_, hu⟩
  unfold nm
  by_cases e : np = 0
  · rw [if_pos e, if_pos e, shw_congr (h0 e) 11 (Nat.le_refl _)]
  · rw [if_neg e, if_neg e, zl_congr (13 * np) 0 (fun t _ ht => hu t (by omega))]
    refine List.map_congr_left (fun u hx => hu u ?_)
    have := List.mem_range.mp hx
    have h2 := (zl_le (nU d A s) (13 * np) 0).2
    omega
theorem eqw.PE {S : Nat} {d A d' A' : Nat → Nat} (h : eqw S d A d' A') {z t : Nat} (ht : t < S) : isP d' A' z t ↔ isP d A z t := by
  unfold isP; rw [h.z ht, h t ht 11 (by omega)]
theorem eqw.EE {S : Nat} {d A d' A' : Nat → Nat} (h : eqw S d A d' A') {z t : Nat} (ht : t < S) : isE d' A' z t ↔ isE d A z t := by
  unfold isE; rw [h.z ht, h t ht 11 (by omega)]
theorem eqw.LE {S : Nat} {d A d' A' : Nat → Nat} (h : eqw S d A d' A') {z t : Nat} (ht : t < S) : isL d' A' z t ↔ isL d A z t := by
  unfold isL; rw [h.z ht, h t ht 11 (by omega)]
theorem eqw.DE {S : Nat} {d A d' A' : Nat → Nat} (h : eqw S d A d' A') {t : Nat} (ht : t < S) : isDr d' (A' t) ↔ isDr d (A t) := by
  unfold isDr; rw [h t ht 11 (by omega)]
theorem rn_congr {d A d' A' : Nat → Nat} {z a : Nat} (h0 : rn d' A' z a = rn d A z a) : ∀ m, (∀ t, a ≤ t → t < a + m → (isP d' A' z t ↔ isP d A z t)) → rn d' A' z (a + m) = rn d A z (a + m) := by
  intro m
  induction m with
  | zero => intro _; exact h0
  | succ m ih =>
    intro h
    have e := ih (fun t h1 h2 => h t h1 (by omega))
    rw [← Nat.add_assoc, rn, rn, e]
    by_cases q : isP d A z (a + m)
    · rw [if_pos q, if_pos ((h _ (by omega) (by omega)).mpr q)]
    · rw [if_neg q, if_neg (fun q2 => q ((h _ (by omega) (by omega)).mp q2))]
theorem lbl_congr {d A d' A' : Nat → Nat} {z a : Nat} (h0 : lbl d' A' z a = lbl d A z a) : ∀ m, (∀ t, a ≤ t → t < a + m → (isL d' A' z t ↔ isL d A z t)) → lbl d' A' z (a + m) = lbl d A z (a + m) := by
  intro m
  induction m with
  | zero => intro _; exact h0
  | succ m ih =>
    intro h
    have e := ih (fun t h1 h2 => h t h1 (by omega))
    rw [← Nat.add_assoc, lbl, lbl, e]
    by_cases q : isL d A z (a + m)
    · rw [if_pos q, if_pos ((h _ (by omega) (by omega)).mpr q)]
    · rw [if_neg q, if_neg (fun q2 => q ((h _ (by omega) (by omega)).mp q2))]
theorem itm_congr {d A d' A' : Nat → Nat} {z a : Nat} (h0 : itm d' A' z a = itm d A z a) : ∀ m, (∀ t, a ≤ t → t < a + m → (isE d' A' z t ↔ isE d A z t) ∧ (isE d A z t → rn d' A' z t = rn d A z t)) → itm d' A' z (a + m) = itm d A z (a + m) := by
  intro m
  induction m with
  | zero => intro _; exact h0
  | succ m ih =>
    intro h
    have e := ih (fun t h1 h2 => h t h1 (by omega))
    have h3 := h (a + m) (by omega) (by omega)
    rw [← Nat.add_assoc, itm, itm, e]
    by_cases q : isE d A z (a + m)
    · rw [if_pos q, if_pos (h3.1.mpr q), h3.2 q]
    · rw [if_neg q, if_neg (fun q2 => q (h3.1.mp q2))]
theorem eqw.rnE {S : Nat} {d A d' A' : Nat → Nat} (h : eqw S d A d' A') {z t : Nat} (ht : t ≤ S) : rn d' A' z t = rn d A z t := by
  have := rn_congr (d := d) (A := A) (d' := d') (A' := A') (z := z) (a := 0) rfl t (fun u _ hu => h.PE (by omega))
  rwa [Nat.zero_add] at this
theorem eqw.lblE {S : Nat} {d A d' A' : Nat → Nat} (h : eqw S d A d' A') {z t : Nat} (ht : t ≤ S) : lbl d' A' z t = lbl d A z t := by
  have := lbl_congr (d := d) (A := A) (d' := d') (A' := A') (z := z) (a := 0) rfl t (fun u _ hu => h.LE (by omega))
  rwa [Nat.zero_add] at this
theorem eqw.itmE {S : Nat} {d A d' A' : Nat → Nat} (h : eqw S d A d' A') {z t : Nat} (ht : t ≤ S) : itm d' A' z t = itm d A z t := by
  have := itm_congr (d := d) (A := A) (d' := d') (A' := A') (z := z) (a := 0) rfl t (fun u _ hu => ⟨h.EE (by omega), fun _ => h.rnE (by omega)⟩)
  rwa [Nat.zero_add] at this
theorem eqw.enE {S : Nat} {d A d' A' : Nat → Nat} (h : eqw S d A d' A') : en d' A' S 0 = en d A S 0 := zl_congr S 0 (fun t _ ht => h.z (by omega))
/-- how rn comes about -/
theorem rn_part {d A : Nat → Nat} {z : Nat} : ∀ s j, j < rn d A z s → isP d A z (s - 1 - j) := by
  intro s
  induction s with
  | zero => intro j h; rw [rn] at h; omega
  | succ s ih =>
    intro j h
    rw [rn] at h
    by_cases q : isP d A z s
    · rw [if_pos q] at h
      cases j with
      | zero => exact q
      | succ j =>
        have := ih j (by omega)
        rwa [show s + 1 - 1 - (j + 1) = s - 1 - j by omega]
    · rw [if_neg q] at h; omega
theorem rn_le {d A : Nat → Nat} {z : Nat} : ∀ s, rn d A z s ≤ s - z := by
  intro s
  induction s with
  | zero => rw [rn]; omega
  | succ s ih =>
    rw [rn]
    by_cases q : isP d A z s
    · rw [if_pos q]; have := q.1; omega
    · rw [if_neg q]; omega
theorem rn_stop {d A : Nat → Nat} {z : Nat} : ∀ s, rn d A z s < s → ¬ isP d A z (s - 1 - rn d A z s) := by
  intro s
  induction s with
  | zero => intro h; omega
  | succ s ih =>
    intro h
    rw [rn] at h ⊢
    by_cases q : isP d A z s
    · rw [if_pos q] at h ⊢
      have := ih (by omega)
      rwa [show s + 1 - 1 - (rn d A z s + 1) = s - 1 - rn d A z s by omega]
    · rw [if_neg q]; exact q
theorem mem_itm {d A : Nat → Nat} {z : Nat} {e : Nat × Nat} : ∀ s, e ∈ itm d A z s ↔ e.1 < s ∧ isE d A z e.1 ∧ e.2 = rn d A z e.1 := by
  intro s
  induction s with
  | zero => rw [itm]; exact ⟨fun h => absurd h (by simp), fun h => by omega⟩
  | succ s ih =>
    rw [itm]
    by_cases q : isE d A z s
    · rw [if_pos q, List.mem_append, ih, List.mem_singleton]
      constructor
      · rintro (h | h)
        · exact ⟨by omega, h.2⟩
        · rw [h]; exact ⟨by simp, q, rfl⟩
      · intro h
        by_cases e1 : e.1 = s
        · right; exact Prod.ext e1 (by rw [h.2.2, e1])
        · left; exact ⟨by omega, h.2⟩
    · rw [if_neg q, ih]
      constructor
      · intro h; exact ⟨by omega, h.2⟩
      · intro h
        refine ⟨?_, h.2⟩
        have : e.1 ≠ s := fun e1 => q (e1 ▸ h.2.1)
        omega
theorem itm_sorted {d A : Nat → Nat} {z : Nat} : ∀ s, (itm d A z s).Pairwise (fun a b => a.1 < b.1) := by
  intro s
  induction s with
  | zero => exact List.Pairwise.nil
  | succ s ih =>
    rw [itm]
    by_cases q : isE d A z s
    · rw [if_pos q]
      refine List.pairwise_append.mpr ⟨ih, List.pairwise_singleton _ _, fun a ha b hb => ?_⟩
      rw [List.mem_singleton.mp hb]
      exact ((mem_itm s).mp ha).1
    · rw [if_neg q]; exact ih
theorem itm_nodup {d A : Nat → Nat} {z s : Nat} : (itm d A z s).Nodup := (itm_sorted s).imp (fun h e => by rw [e] at h; omega)
theorem perm_of_mem {α : Type} [DecidableEq α] {a b : List α} (ha : a.Nodup) (hb : b.Nodup) (h : ∀ x, x ∈ a ↔ x ∈ b) : a.Perm b := by
  obtain ⟨W, hW⟩ := sub_perm a b ha (fun x hx => (h x).mp hx)
  cases W with
  | nil => rw [List.append_nil] at hW; exact hW.symm
  | cons w W =>
    have hn := List.nodup_append.mp (hW.nodup_iff.mp hb)
    have hw : w ∈ a := (h w).mpr (hW.mem_iff.mpr (List.mem_append_right _ List.mem_cons_self))
    exact absurd rfl (hn.2.2 w hw w List.mem_cons_self)
