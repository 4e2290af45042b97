/-! a scan without fault -/
def fcs (G : Geo) (d A : Nat → Nat) (its : List (Nat × Nat)) : List Nat := its.flatMap (fun e => if isDr d (A e.1) then [] else fc1 G d (A e.1))
theorem fcs_app (G : Geo) (d A : Nat → Nat) (a b : List (Nat × Nat)) : fcs G d A (a ++ b) = fcs G d A a ++ fcs G d A b := List.flatMap_append
theorem itm_mono (d A : Nat → Nat) (z s : Nat) : ∀ m, ∃ r, itm d A z (s + m) = itm d A z s ++ r := by
  intro m
  induction m with
  | zero => exact ⟨[], by simp⟩
  | succ m ih =>
    obtain ⟨r, hr⟩ := ih
    rw [← Nat.add_assoc, itm]
    by_cases h : isE d A z (s + m)
    · rw [if_pos h, hr]; exact ⟨r ++ [(s + m, rn d A z (s + m))], by rw [List.append_assoc]⟩
    · rw [if_neg h, hr]; exact ⟨r, rfl⟩
theorem zl_le (f : Nat → Nat) : ∀ m q, q ≤ zl f m q ∧ zl f m q ≤ q + m := by
  intro m
  induction m with
  | zero => intro q; exact ⟨Nat.le_refl _, Nat.le_refl _⟩
  | succ m ih =>
    intro q
    rw [zl]
    by_cases h : f q = 0
    · rw [if_pos h]; omega
    · rw [if_neg h]; have := ih (q + 1); omega
theorem zl_ne (f : Nat → Nat) : ∀ m q t, q ≤ t → t < zl f m q → f t ≠ 0 := by
  intro m
  induction m with
  | zero => intro q t h1 h2; rw [zl] at h2; omega
  | succ m ih =>
    intro q t h1 h2
    rw [zl] at h2
    by_cases h : f q = 0
    · rw [if_pos h] at h2; omega
    · rw [if_neg h] at h2
      by_cases e : t = q
      · rw [e]; exact h
      · exact ih (q + 1) t (by omega) h2
theorem zl_end (f : Nat → Nat) : ∀ m q, zl f m q < q + m → f (zl f m q) = 0 := by
  intro m
  induction m with
  | zero => intro q h; rw [zl] at h; omega
  | succ m ih =>
    intro q h
    rw [zl] at h ⊢
    by_cases h0 : f q = 0
    · rw [if_pos h0]; exact h0
    · rw [if_neg h0] at h ⊢; exact ih (q + 1) (by omega)
/-- the first zero is what it is -/
theorem zl_uniq (f : Nat → Nat) {m q e : Nat} (h1 : q ≤ e) (h2 : e ≤ q + m) (h3 : ∀ t, q ≤ t → t < e → f t ≠ 0) (h4 : e < q + m → f e = 0) : zl f m q = e := by
  have g := zl_le f m q
  rcases Nat.lt_trichotomy (zl f m q) e with h | h | h
  · exact absurd (zl_end f m q (by omega)) (h3 _ g.1 h)
  · exact h
  · exact absurd (h4 (by omega)) (zl_ne f m q e h1 h)
/-- slots s to e, without fault -/
def okS (G : Geo) (d A : Nat → Nat) (z s e : Nat) : Prop := ∀ t, s ≤ t → t < e → lf d A z t = 0 ∧ (isE d A z t → ¬ isDr d (A t) → fOK G d (A t))
theorem scn_fwd {G : Geo} {d A : Nat → Nat} {z : Nat} : ∀ (m s : Nat) (ms base : List Nat), ms.Nodup → ms.Perm (fcs G d A (itm d A z s) ++ base) → (scn G d A z m s ms).1 = 0 → okS G d A z s (en d A m s) ∧ rn d A z (en d A m s) = 0 ∧ (scn G d A z m s ms).2.Perm (fcs G d A (itm d A z (en d A m s)) ++ base) ∧ (scn G d A z m s ms).2.Nodup := by
  intro m
  induction m with
  | zero =>
    intro s ms base hn hp h
    have e : en d A 0 s = s := rfl
    rw [e]
    rw [scn] at h ⊢
    refine ⟨fun t h1 h2 => by omega, ?_, hp, hn⟩
    by_cases q : 0 < rn d A z s
    · rw [if_pos q] at h; exact absurd h (by simp)
    · omega
  | succ m ih =>
    intro s ms base hn hp h
    rw [scn] at h ⊢
    by_cases h0 : d (A s) = 0
    · have e : en d A (m + 1) s = s := by unfold en; rw [zl, if_pos h0]
      rw [e]
      rw [if_pos h0] at h ⊢
      refine ⟨fun t h1 h2 => by omega, ?_, hp, hn⟩
      by_cases q : 0 < rn d A z s
      · rw [if_pos q] at h; exact absurd h (by simp)
      · omega
    · have e : en d A (m + 1) s = en d A m (s + 1) := by unfold en; rw [zl, if_neg h0]
      rw [e]
      rw [if_neg h0] at h ⊢
      by_cases h1 : lf d A z s ≠ 0
      · rw [if_pos h1] at h; exact absurd h h1
      · rw [if_neg h1] at h ⊢
        by_cases h2 : isE d A z s ∧ ¬ isDr d (A s)
        · rw [if_pos h2] at h ⊢
          cases hr : fch G d ms (A s) with
          | none => rw [hr] at h; exact absurd h (by simp)
          | some l =>
            rw [hr] at h
            obtain ⟨g1, g2, g3⟩ := fch_iff.mp hr
            have hln : l.Nodup := by
              rw [g2]; unfold fc1
              by_cases q : fo d (A s + 28) = 0
              · rw [if_pos q]; exact List.nodup_nil
              · rw [if_neg q]
                rcases g1 with g1 | g1
                · exact absurd g1.1 q
                · exact lnk_nodup _ _ g1.2.2.1
            have ei : fcs G d A (itm d A z (s + 1)) = fcs G d A (itm d A z s) ++ l := by
              rw [itm, if_pos h2.1, fcs_app, g2]
              congr 1
              unfold fcs
              simp [h2.2]
            have := ih (s + 1) (l ++ ms) base (List.nodup_append.mpr ⟨hln, hn, fun a ha b hb hab => g3 a ha (hab ▸ hb)⟩) (by
              rw [ei]
              refine (List.Perm.append_left l hp).trans ?_
              rw [← List.append_assoc]
              exact List.Perm.append_right base List.perm_append_comm) h
            refine ⟨fun t t1 t2 => ?_, this.2⟩
            by_cases ht : t = s
            · rw [ht]; exact ⟨by omega, fun _ _ => g1⟩
            · exact this.1 t (by omega) t2
        · rw [if_neg h2] at h ⊢
          have ei : fcs G d A (itm d A z (s + 1)) = fcs G d A (itm d A z s) := by
            rw [itm]
            by_cases q : isE d A z s
            · rw [if_pos q, fcs_app]
              have : isDr d (A s) := Decidable.byContradiction (fun q2 => h2 ⟨q, q2⟩)
              unfold fcs
              simp [this]
            · rw [if_neg q]
          have := ih (s + 1) ms base hn (by rw [ei]; exact hp) h
          refine ⟨fun t t1 t2 => ?_, this.2⟩
          by_cases ht : t = s
          · rw [ht]; exact ⟨by omega, fun q1 q2 => absurd ⟨q1, q2⟩ h2⟩
          · exact this.1 t (by omega) t2
theorem scn_bwd {G : Geo} {d A : Nat → Nat} {z : Nat} : ∀ (m s : Nat) (ms base : List Nat), ms.Perm (fcs G d A (itm d A z s) ++ base) → okS G d A z s (en d A m s) → rn d A z (en d A m s) = 0 → (fcs G d A (itm d A z (en d A m s)) ++ base).Nodup → (scn G d A z m s ms).1 = 0 := by
  intro m
  induction m with
  | zero =>
    intro s ms base hp hk hr hn
    have e : en d A 0 s = s := rfl
    rw [e] at hr
    rw [scn, if_neg (by omega)]
  | succ m ih =>
    intro s ms base hp hk hr hn
    rw [scn]
    by_cases h0 : d (A s) = 0
    · have e : en d A (m + 1) s = s := by unfold en; rw [zl, if_pos h0]
      rw [e] at hr
      rw [if_pos h0, if_neg (by omega)]
    · have e : en d A (m + 1) s = en d A m (s + 1) := by unfold en; rw [zl, if_neg h0]
      rw [e] at hk hr hn
      have hle : s + 1 ≤ en d A m (s + 1) := (zl_le _ m (s + 1)).1
      have hs := hk s (Nat.le_refl _) (by omega)
      have hk' : okS G d A z (s + 1) (en d A m (s + 1)) := fun t t1 t2 => hk t (by omega) t2
      rw [if_neg h0, if_neg (by rw [hs.1]; decide)]
      by_cases h2 : isE d A z s ∧ ¬ isDr d (A s)
      · rw [if_pos h2]
        have ei : fcs G d A (itm d A z (s + 1)) = fcs G d A (itm d A z s) ++ fc1 G d (A s) := by
          rw [itm, if_pos h2.1, fcs_app]
          congr 1
          unfold fcs
          simp [h2.2]
        have hr2 : fch G d ms (A s) = some (fc1 G d (A s)) := by
          refine fch_iff.mpr ⟨hs.2 h2.1 h2.2, rfl, fun y hy hm => ?_⟩
          obtain ⟨r, hr⟩ := itm_mono d A z (s + 1) (en d A m (s + 1) - (s + 1))
          rw [show s + 1 + (en d A m (s + 1) - (s + 1)) = en d A m (s + 1) by omega] at hr
          rw [hr, fcs_app, ei] at hn
          have hm2 := hp.mem_iff.mp hm
          rcases List.mem_append.mp hm2 with q | q
          · have := (List.nodup_append.mp (List.nodup_append.mp (List.nodup_append.mp hn).1).1).2.2
            exact this y q y hy rfl
          · have := (List.nodup_append.mp hn).2.2
            exact this y (List.mem_append_left _ (List.mem_append_right _ hy)) y q rfl
        rw [hr2]
        refine ih (s + 1) (fc1 G d (A s) ++ ms) base ?_ hk' hr hn
        rw [ei]
        refine (List.Perm.append_left _ hp).trans ?_
        rw [← List.append_assoc]
        exact List.Perm.append_right base List.perm_append_comm
      · rw [if_neg h2]
        have ei : fcs G d A (itm d A z (s + 1)) = fcs G d A (itm d A z s) := by
          rw [itm]
          by_cases q : isE d A z s
          · rw [if_pos q, fcs_app]
            have : isDr d (A s) := Decidable.byContradiction (fun q2 => h2 ⟨q, q2⟩)
            unfold fcs
            simp [this]
          · rw [if_neg q]
        exact ih (s + 1) ms base (by rw [ei]; exact hp) hk' hr hn
