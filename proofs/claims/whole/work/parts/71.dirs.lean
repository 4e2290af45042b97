/-! directories that stay as they are -/
theorem lnk_congr {G : Geo} {d d' : Nat → Nat} : ∀ (l : List Nat) (x : Nat), lnk G d x l → (∀ y, y ∈ l → ent G d' y = ent G d y) → lnk G d' x l := by
  intro l
  induction l with
  | nil => intro x h; exact absurd h (by simp [lnk])
  | cons z l ih =>
    intro x h he
    obtain ⟨rfl, hc, h⟩ := h
    have e := he x List.mem_cons_self
    refine ⟨rfl, hc, ?_⟩
    rw [e]
    rcases h with h | ⟨h1, h2, h3⟩
    · exact Or.inl h
    · exact Or.inr ⟨h1, h2, ih _ h3 (fun y hy => he y (List.mem_cons_of_mem _ hy))⟩
theorem lnk_ent {G : Geo} {d : Nat → Nat} : ∀ (l : List Nat) (x : Nat), lnk G d x l → ∀ y, y ∈ l → ent G d y ≠ 0 := by
  intro l
  induction l with
  | nil => intro x h; exact absurd h (by simp [lnk])
  | cons z l ih =>
    intro x h y hy
    obtain ⟨rfl, hc, h⟩ := h
    rcases List.mem_cons.mp hy with e | e
    · rw [e]; rcases h with ⟨h1, h2⟩ | ⟨h1, h2, h3⟩
      · omega
      · exact h1
    · rcases h with ⟨h1, h2⟩ | ⟨h1, h2, h3⟩
      · rw [h1] at e; exact absurd e (by simp)
      · exact ih _ h3 y e
theorem sa_in {G : Geo} {l : List Nat} {s : Nat} (hG : 1 ≤ G.c) (hs : s < l.length * (16 * G.c)) : ∃ x, x ∈ l ∧ ∃ o, sa G l s = pl G x + o ∧ o + 32 ≤ 512 * G.c := by
  have h16 : 0 < 16 * G.c := by omega
  have hq : s / (16 * G.c) < l.length := by
    apply Nat.div_lt_of_lt_mul
    rw [Nat.mul_comm]; exact hs
  refine ⟨l[s / (16 * G.c)], List.getElem_mem hq, 32 * (s % (16 * G.c)), ?_, ?_⟩
  · unfold sa
    rw [List.getD_eq_getElem?_getD, List.getElem?_eq_getElem hq]
    rfl
  · have := Nat.mod_lt s h16
    omega
/-- f's directory keeps its bytes, and its chains stay -/
def kept (G : Geo) (d d' : Nat → Nat) (f : Nat) : Prop := (∀ y, y ∈ own G d f → ent G d' y = ent G d y) ∧ ∀ x, x ∈ cl G d f → ∀ i, i < 512 * G.c → d' (pl G x + i) = d (pl G x + i)
theorem dI_lt {G : Geo} {d : Nat → Nat} {f : Nat} {e : Nat × Nat} (he : e ∈ dI G d f) : zf G f ≤ e.1 ∧ e.1 < dE G d f ∧ isE d (dA G d f) (zf G f) e.1 ∧ e.2 = rn d (dA G d f) (zf G f) e.1 := by
  have := (mem_itm _).mp he
  exact ⟨this.2.1.1, this.1, this.2.1, this.2.2⟩
theorem dE_le (G : Geo) (d : Nat → Nat) (f : Nat) : dE G d f ≤ (cl G d f).length * (16 * G.c) := by
  have := (zl_le (fun t => d (dA G d f t)) ((cl G d f).length * (16 * G.c)) 0).2
  unfold dE en
  omega
theorem own_ent {G : Geo} {d : Nat → Nat} {f : Nat} (h : DOK G d f) {y : Nat} (hy : y ∈ own G d f) : isC G y ∧ ent G d y ≠ 0 := by
  rcases List.mem_append.mp hy with q | q
  · exact ⟨lnk_isC _ _ h.1 y q, lnk_ent _ _ h.1 y q⟩
  · obtain ⟨e, he, hq⟩ := List.mem_flatMap.mp q
    have hi := dI_lt he
    by_cases hd : isDr d (dA G d f e.1)
    · rw [if_pos hd] at hq; exact absurd hq (by simp)
    · rw [if_neg hd] at hq
      have hf := (h.2.2.1 e.1 hi.1 hi.2.1).2 hi.2.2.1 hd
      unfold fc1 at hq
      by_cases h0 : fo d (dA G d f e.1 + 28) = 0
      · rw [if_pos h0] at hq; exact absurd hq (by simp)
      · rw [if_neg h0] at hq
        rcases hf with hf | hf
        · exact absurd hf.1 h0
        · exact ⟨lnk_isC _ _ hf.2.2.1 y hq, lnk_ent _ _ hf.2.2.1 y hq⟩
theorem fOK_keep {G : Geo} {d d' : Nat → Nat} {p p' : Nat} (h1 : fo d' (p' + 28) = fo d (p + 28)) (h2 : fcl d' p' = fcl d p) (h : fOK G d p) (he : ∀ y, y ∈ fc1 G d p → ent G d' y = ent G d y) : fOK G d' p' ∧ fc1 G d' p' = fc1 G d p := by
  unfold fOK fc1 at *
  rw [h1, h2]
  rcases h with h | h
  · rw [if_pos h.1, if_pos h.1]; exact ⟨Or.inl h, rfl⟩
  · rw [if_neg h.1] at he
    have hl := lnk_congr _ _ h.2.2.1 he
    have e := cl_of hl
    rw [if_neg h.1, if_neg h.1, e]
    exact ⟨Or.inr ⟨h.1, h.2.1, hl, h.2.2.2⟩, rfl⟩
theorem fmC {α β : Type} {f g : α → List β} : ∀ (l : List α), (∀ e, e ∈ l → f e = g e) → l.flatMap f = l.flatMap g := by
  intro l
  induction l with
  | nil => intro _; rfl
  | cons e l ih =>
    intro hl
    rw [List.flatMap_cons, List.flatMap_cons, ih (fun e he => hl e (List.mem_cons_of_mem _ he)), hl e List.mem_cons_self]
theorem iteC {α : Type} {p q : Prop} [Decidable p] [Decidable q] {a b b' : α} (h : p ↔ q) (hb : ¬ q → b = b') : (if p then a else b) = (if q then a else b') := by
  by_cases hq : q
  · rw [if_pos hq, if_pos (h.mpr hq)]
  · rw [if_neg hq, if_neg (fun hp => hq (h.mp hp)), hb hq]
theorem fcs_congr {G : Geo} {d A d' A' : Nat → Nat} (l : List (Nat × Nat)) (h : ∀ e, e ∈ l → (isDr d' (A' e.1) ↔ isDr d (A e.1)) ∧ (¬ isDr d (A e.1) → fc1 G d' (A' e.1) = fc1 G d (A e.1))) : fcs G d' A' l = fcs G d A l :=
  fmC l (fun e he => iteC (h e he).1 (h e he).2)
theorem kept.all {G : Geo} {d d' : Nat → Nat} {f : Nat} (hG : 1 ≤ G.c) (h : DOK G d f) (k : kept G d d' f) : cl G d' f = cl G d f ∧ DOK G d' f ∧ sub G d' f = sub G d f ∧ own G d' f = own G d f ∧ dI G d' f = dI G d f ∧ ∀ p, pts d (dA G d f 1) 1 p → pts d' (dA G d' f 1) 1 p := by
  have hl := lnk_congr _ _ h.1 (fun y hy => k.1 y (List.mem_append_left _ hy))
  have ec : cl G d' f = cl G d f := cl_of hl
  have eA : dA G d' f = dA G d f := by unfold dA; rw [ec]
  have hw : eqw ((cl G d f).length * (16 * G.c)) d (dA G d f) d' (dA G d f) := by
    intro t ht i hi
    obtain ⟨x, hx, o, ho, hb⟩ := sa_in hG ht
    show d' (sa G (cl G d f) t + i) = d (sa G (cl G d f) t + i)
    rw [ho, Nat.add_assoc]
    exact k.2 x hx (o + i) (by omega)
  have eE : dE G d' f = dE G d f := by unfold dE; rw [ec, eA]; exact hw.enE
  have hle := dE_le G d f
  have eI : dI G d' f = dI G d f := by unfold dI; rw [eE, eA]; exact hw.itmE hle
  have hin : ∀ e, e ∈ dI G d f → e.1 < (cl G d f).length * (16 * G.c) := fun e he => by have := dI_lt he; omega
  have eD : ∀ e, e ∈ dI G d f → (isDr d' (dA G d f e.1) ↔ isDr d (dA G d f e.1)) := fun e he => hw.DE (hin e he)
  have hown : ∀ e, e ∈ dI G d f → ¬ isDr d (dA G d f e.1) → fOK G d' (dA G d f e.1) ∧ fc1 G d' (dA G d f e.1) = fc1 G d (dA G d f e.1) := by
    intro e he hd
    have hi := dI_lt he
    refine fOK_keep (hw.foE (hin e he) (by omega)) (hw.fclE (hin e he)) ((h.2.2.1 e.1 hi.1 hi.2.1).2 hi.2.2.1 hd) (fun y hy => k.1 y (List.mem_append_right _ (List.mem_flatMap.mpr ⟨e, he, ?_⟩)))
    rw [if_neg hd]; exact hy
  have h1S : 2 ≤ (cl G d f).length * (16 * G.c) := by
    have : 1 * 16 ≤ (cl G d f).length * (16 * G.c) := Nat.mul_le_mul (lnk_pos h.1) (by omega)
    omega
  have hpt : ∀ t p s, t < 2 → pts d (dA G d f t) s p → pts d' (dA G d f t) s p := fun t p s ht hp => by
    refine ⟨fun i hi => ?_, ?_, ?_⟩
    · rw [hw t (by omega) i (by omega)]; exact hp.1 i hi
    · rw [hw t (by omega) 11 (by omega)]; exact hp.2.1
    · rw [hw.fclE (by omega)]; exact hp.2.2
  refine ⟨ec, ⟨by rw [ec]; exact hl, ?_, ?_, ?_⟩, ?_, ?_, eI, fun p hp => by rw [eA]; exact hpt 1 p 1 (by decide) hp⟩
  · intro hr
    rw [eA]
    obtain ⟨g1, p, g2⟩ := h.2.1 hr
    exact ⟨hpt 0 f 0 (by decide) g1, p, hpt 1 p 1 (by decide) g2⟩
  · rw [eA, eE]
    intro t t1 t2
    have ht := h.2.2.1 t t1 t2
    refine ⟨lf_keep (hw t (by omega)) (hw.rnE (by omega)) (hw.lblE (by omega)) (fun j hj => ?_) (fun _ e he => ?_) ht.1, fun q1 q2 => ?_⟩
    · have := rn_le (d := d) (A := dA G d f) (z := zf G f) t
      exact hw _ (by omega)
    · right
      rw [hw.itmE (by omega)] at he
      have hi := (mem_itm t).mp he
      refine ⟨he, fun i hi2 => hw e.1 (by omega) i (by omega), (nm_congr (fun _ i hi2 => hw e.1 (by omega) i (by omega)) (fun j hj => hw _ (by omega))).1⟩
    · have q1' := (hw.EE (by omega)).mp q1
      have he : (t, rn d (dA G d f) (zf G f) t) ∈ dI G d f := (mem_itm _).mpr ⟨t2, q1', rfl⟩
      exact (hown _ he (fun q => q2 ((eD _ he).mpr q))).1
  · rw [eA, eE, hw.rnE hle]; exact h.2.2.2
  · unfold sub sbs
    rw [eA, eI]
    have hf : (dI G d f).filter (fun e => decide (isDr d' (dA G d f e.1))) = (dI G d f).filter (fun e => decide (isDr d (dA G d f e.1))) := List.filter_congr (fun e he => by simp only [eD e he])
    rw [hf]
    exact List.map_congr_left (fun e he => hw.fclE (hin e ((List.mem_filter.mp he).1)))
  · have e1 := fcs_congr (G := G) (d := d) (A := dA G d f) (d' := d') (A' := dA G d' f) (dI G d f) (fun e he => ⟨by rw [eA]; exact eD e he, fun q => by rw [eA]; exact (hown e he q).2⟩)
    have e2 : own G d' f = cl G d' f ++ fcs G d' (dA G d' f) (dI G d' f) := rfl
    have e3 : own G d f = cl G d f ++ fcs G d (dA G d f) (dI G d f) := rfl
    rw [e2, e3, eI, e1, ec]
