/-! remove: what it leaves -/
theorem rem_core {G : Geo} {d d' : Nat → Nat} {D : List Nat} {ρ : Nat → Nat} {f : Nat} {e : Nat × Nat} {l : List Nat} (hG : GOK G) (hS : Snd G d D ρ) (hh : f ∈ D) (he : e ∈ dI G d f)
    (B1 : ∀ q, 512 * G.a ≤ q → (∀ t, e.1 - e.2 ≤ t → t ≤ e.1 → q ≠ dA G d f t) → d' q = d q) (B2 : ∀ t, e.1 - e.2 ≤ t → t ≤ e.1 → d' (dA G d f t) = 229) (B3 : ∀ y, isC G y → ent G d' y = if y ∈ l then 0 else ent G d y) (hl1 : ∀ y, y ∈ l → y ∉ cl G d f) (hl2 : ∀ e', e' ∈ dI G d f → e' ≠ e → ¬ isDr d (dA G d f e'.1) → ∀ y, y ∈ fc1 G d (dA G d f e'.1) → y ∉ l) :
    DOK G d' f ∧ cl G d' f = cl G d f ∧ (dI G d f).Perm (e :: dI G d' f) ∧ (∀ e', e' ∈ dI G d' f → (isDr d' (dA G d f e'.1) ↔ isDr d (dA G d f e'.1)) ∧ fcl d' (dA G d f e'.1) = fcl d (dA G d f e'.1) ∧ (¬ isDr d (dA G d f e'.1) → fc1 G d' (dA G d f e'.1) = fc1 G d (dA G d f e'.1))) ∧ (∀ p, pts d (dA G d f 1) 1 p → pts d' (dA G d' f 1) 1 p) := by
  have b := hG.b
  have hc : 1 ≤ G.c := by omega
  have hok := hS.2.2.1 f hh
  obtain ⟨i1, i2, i3, i4⟩ := dI_lt he
  have hle := dE_le G d f
  have hrn := rn_le (d := d) (A := dA G d f) (z := zf G f) e.1
  rw [i4] at B1 B2
  have hlc := lnk_clu hok.1
  obtain ⟨S, hSe⟩ : ∃ S, S = (cl G d f).length * (16 * G.c) := ⟨_, rfl⟩
  have hsS : e.1 < S := by omega
  obtain ⟨A, hA⟩ : ∃ A, A = dA G d f := ⟨_, rfl⟩
  have hAs : ∀ t, t < S → A t % 4 = 0 ∧ A t + 32 ≤ 512 * G.n ∧ 512 * G.a ≤ A t := fun t ht => by
    have := slot_in hG hlc (s := t) (by omega)
    rw [hA]; exact ⟨this.1, this.2.1, this.2.2.1⟩
  have hap : ∀ t t', t < S → t' < S → t ≠ t' → A t + 32 ≤ A t' ∨ A t' + 32 ≤ A t := fun t t' h1 h2 h3 => by
    rw [hA]; exact sa_apart hc hlc (by omega) (by omega) h3
  rw [← hA] at B1 B2 hrn i3
  have hsl : ∀ t, t < S → (t < e.1 - rn d A (zf G f) e.1 ∨ e.1 < t) → sl d (A t) d' (A t) := fun t ht hto i hi => by
    refine B1 _ (by have := hAs t ht; omega) (fun t' h1 h2 => ?_)
    have := hap t t' ht (by omega) (by omega)
    omega
  have hcl : lnk G d' f (cl G d f) := lnk_congr _ _ hok.1 (fun y hy => by rw [B3 y (hlc.2 y hy), if_neg (fun w => hl1 y w hy)])
  have hcl2 : cl G d' f = cl G d f := cl_of hcl
  have hdA : dA G d' f = A := by rw [hA]; unfold dA; rw [hcl2]
  obtain ⟨R1, R2, R3, R4⟩ := rem_change hsS i3 hsl B2
  have hdE : dE G d' f = dE G d f := by
    unfold dE
    rw [hdA, hcl2, ← hA, ← hSe]; exact R1
  have hmem : ∀ e', e' ∈ dI G d' f ↔ e' ∈ dI G d f ∧ e'.1 ≠ e.1 := fun e' => by
    unfold dI
    rw [hdA, hdE, ← hA]; exact R2 _ (by omega) e'
  have huniq : ∀ e', e' ∈ dI G d f → e'.1 = e.1 → e' = e := fun e' h1 h2 => by
    obtain ⟨_, _, _, j4⟩ := dI_lt h1
    have : e'.2 = e.2 := by rw [j4, i4, h2]
    exact Prod.ext h2 this
  have hperm : (dI G d f).Perm (e :: dI G d' f) := by
    refine perm_of_mem itm_nodup (List.nodup_cons.mpr ⟨fun w => ((hmem e).mp w).2 rfl, itm_nodup⟩) (fun x => ?_)
    rw [List.mem_cons, hmem]
    constructor
    · intro hx
      by_cases c : x.1 = e.1
      · exact Or.inl (huniq x hx c)
      · exact Or.inr ⟨hx, c⟩
    · rintro (w | w)
      · rw [w]; exact he
      · exact w.1
  -- another item's slot is kept
  have hother : ∀ e', e' ∈ dI G d f → e'.1 ≠ e.1 → sl d (A e'.1) d' (A e'.1) := fun e' h1 h2 => by
    obtain ⟨j1, j2, j3, j4⟩ := dI_lt h1
    refine hsl _ (by omega) ?_
    apply Decidable.byContradiction
    intro w
    have hlt : e'.1 < e.1 := by omega
    have := rn_part (d := d) (A := A) (z := zf G f) e.1 (e.1 - 1 - e'.1) (by omega)
    rw [show e.1 - 1 - (e.1 - 1 - e'.1) = e'.1 by omega] at this
    rw [← hA] at j3
    exact j3.2.2.2.1 this.2.2.2
  have hitem : ∀ e', e' ∈ dI G d' f → (isDr d' (A e'.1) ↔ isDr d (A e'.1)) ∧ fcl d' (A e'.1) = fcl d (A e'.1) ∧ (¬ isDr d (A e'.1) → fOK G d' (A e'.1) ∧ fc1 G d' (A e'.1) = fc1 G d (A e'.1)) := fun e' h1 => by
    obtain ⟨h2, h3⟩ := (hmem e').mp h1
    have hs := hother e' h2 h3
    have hne : e' ≠ e := fun w => h3 (by rw [w])
    have e11 := hs 11 (by omega)
    have hfc := hs.fclE
    refine ⟨by unfold isDr; rw [e11], hfc, fun hnd => ?_⟩
    have hfo := hs.foE (i := 28) (by omega)
    have hf : fOK G d (A e'.1) := by rw [hA] at hnd ⊢; exact (hok.ent h2).2.2.2.2 hnd
    refine fOK_keep hfo hfc hf (fun y hy => ?_)
    have hyC : isC G y := by
      obtain ⟨s1, _, _⟩ := hf.stp
      rcases s1 with ⟨_, _, w⟩ | w
      · rw [w] at hy; exact absurd hy (by simp)
      · exact lnk_isC _ _ w y hy
    rw [B3 y hyC, if_neg (hl2 e' h2 hne (by rw [hA] at hnd; exact hnd) y (by rw [hA] at hy; exact hy))]
  have hpts : ∀ k x, k < e.1 - rn d A (zf G f) e.1 → pts d (A k) k x → pts d' (A k) k x := fun k x hk hp => by
    have hs := hsl k (by omega) (Or.inl hk)
    refine ⟨fun i hi => by rw [hs i (by omega)]; exact hp.1 i hi, by rw [hs 11 (by omega)]; exact hp.2.1, by rw [hs.fclE]; exact hp.2.2⟩
  have hzf : f ≠ G.r → 2 ≤ e.1 - rn d A (zf G f) e.1 := fun w => by
    rcases zf_cases G f with ⟨w1, _⟩ | ⟨_, w2⟩
    · exact absurd w1 w
    · omega
  refine ⟨⟨by rw [hcl2]; exact hcl, fun hfr => ?_, fun t t1 t2 => ?_, ?_⟩, hcl2, hperm, fun e' h1 => ?_, fun x hx => ?_⟩
  · have h2 := hzf hfr
    obtain ⟨q1, x, q2⟩ := hok.2.1 hfr
    rw [hdA]
    rw [← hA] at q1 q2
    exact ⟨hpts 0 f (by omega) q1, x, hpts 1 x (by omega) q2⟩
  · rw [hdA]
    rw [hdE] at t2
    have h0 := hok.2.2.1 t t1 t2
    rw [← hA] at h0
    refine ⟨R4 t (by omega) h0.1, fun hE hnd => ?_⟩
    have hin : (t, rn d' A (zf G f) t) ∈ dI G d' f := by
      unfold dI
      rw [hdA]
      exact (mem_itm _).mpr ⟨by rw [hdE]; exact t2, hE, rfl⟩
    have := hitem _ hin
    exact (this.2.2 (fun w => hnd (this.1.mpr w))).1
  · rw [hdA, hdE]
    have := R3 (dE G d f) (by omega)
    have h0 := hok.2.2.2
    rw [← hA] at h0
    omega
  · have := hitem e' h1
    rw [← hA]
    exact ⟨this.1, this.2.1, fun w => (this.2.2 w).2⟩
  · rw [hdA]
    by_cases c : 1 < e.1 - rn d A (zf G f) e.1
    · rw [← hA] at hx; exact hpts 1 x c hx
    · -- slot 1 cannot be ".." here: the item, or a part of it
      have hfr : f = G.r := Decidable.byContradiction (fun w => by have := hzf w; omega)
      rw [← hA] at hx
      by_cases c2 : e.1 < 1
      · have hs : sl d (A 1) d' (A 1) ∨ S ≤ 1 := by
          by_cases c3 : 1 < S
          · exact Or.inl (hsl 1 c3 (Or.inr c2))
          · exact Or.inr (by omega)
        rcases hs with hs | hs
        · exact ⟨fun i hi => by rw [hs i (by omega)]; exact hx.1 i hi, by rw [hs 11 (by omega)]; exact hx.2.1, by rw [hs.fclE]; exact hx.2.2⟩
        · have := lnk_pos hok.1
          have : 16 ≤ S := by rw [hSe]; exact Nat.le_trans (show 16 ≤ 1 * (16 * 1) by omega) (Nat.mul_le_mul this (Nat.mul_le_mul_left _ hc))
          omega
      · exfalso
        have x0 := hx.1 0 (by omega)
        rw [Nat.add_zero, if_pos (by omega)] at x0
        by_cases c4 : e.1 = 1
        · have hsh := (hok.ent he).1.2.2.1
          rw [← hA, c4] at hsh
          have h46 := hsh.2 0 (by omega)
          rw [Nat.add_zero, x0] at h46
          exact absurd (h46 (by decide)).1 (by decide)
        · have := rn_part (d := d) (A := A) (z := zf G f) e.1 (e.1 - 2) (by omega)
          rw [show e.1 - 1 - (e.1 - 2) = 1 by omega] at this
          have h16 := hx.2.1
          have h15 := this.2.2.2
          rw [h16] at h15
          exact absurd h15 (by decide)
