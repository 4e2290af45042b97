/-! sound volumes -/
def dA (G : Geo) (d : Nat → Nat) (f : Nat) : Nat → Nat := sa G (cl G d f)
def dE (G : Geo) (d : Nat → Nat) (f : Nat) : Nat := en d (dA G d f) ((cl G d f).length * (16 * G.c)) 0
/-- the items of the directory that begins with f -/
def dI (G : Geo) (d : Nat → Nat) (f : Nat) : List (Nat × Nat) := itm d (dA G d f) (zf G f) (dE G d f)
def sub (G : Geo) (d : Nat → Nat) (f : Nat) : List Nat := sbs d (dA G d f) (dI G d f)
def own (G : Geo) (d : Nat → Nat) (f : Nat) : List Nat := cl G d f ++ fcs G d (dA G d f) (dI G d f)
def DOK (G : Geo) (d : Nat → Nat) (f : Nat) : Prop := lnk G d f (cl G d f) ∧ (f ≠ G.r → pts d (dA G d f 0) 0 f ∧ ∃ p, pts d (dA G d f 1) 1 p) ∧ okS G d (dA G d f) (zf G f) (zf G f) (dE G d f) ∧ rn d (dA G d f) (zf G f) (dE G d f) = 0
def Snd (G : Geo) (d : Nat → Nat) (D : List Nat) (ρ : Nat → Nat) : Prop :=
  D.Perm (G.r :: D.flatMap (sub G d)) ∧ (∀ g, g ∈ D → ∀ f, f ∈ sub G d g → ρ g < ρ f ∧ pts d (dA G d f 1) 1 (pz G g)) ∧ (∀ f, f ∈ D → DOK G d f) ∧ (D.flatMap (own G d)).Nodup ∧ ∀ x, isC G x → ent G d x ≠ 0 → x ∈ D.flatMap (own G d)
theorem zf_cases (G : Geo) (f : Nat) : (f = G.r ∧ zf G f = 0) ∨ (f ≠ G.r ∧ zf G f = 2) := by
  unfold zf
  by_cases h : f = G.r
  · exact Or.inl ⟨h, if_pos h⟩
  · exact Or.inr ⟨h, if_neg h⟩
theorem rn_z (d A : Nat → Nat) (z : Nat) : ∀ s, s ≤ z → rn d A z s = 0 ∧ itm d A z s = [] ∧ lbl d A z s = 0 := by
  intro s
  induction s with
  | zero => intro _; exact ⟨rfl, rfl, rfl⟩
  | succ s ih =>
    intro h
    have := ih (by omega)
    refine ⟨?_, ?_, ?_⟩
    · rw [rn, if_neg (fun q => by have := q.1; omega)]
    · rw [itm, if_neg (fun q => by have := q.1; omega)]; exact this.2.1
    · rw [lbl, if_neg (fun q => by have := q.1; omega)]; exact this.2.2
theorem dirF_iff {G : Geo} {d : Nat → Nat} (hG : 1 ≤ G.c) {l ms : List Nat} {f p : Nat} (hl : lnk G d f l) (hn : ms.Nodup) : (dirF G d l ms f p).1 = 0 ↔ DOK G d f ∧ (f ≠ G.r → pts d (dA G d f 1) 1 p) ∧ (fcs G d (dA G d f) (dI G d f) ++ ms).Nodup := by
  have e := cl_of hl
  have hlp := lnk_pos hl
  have hS : 16 ≤ l.length * (16 * G.c) := by
    have : 1 * 16 ≤ l.length * (16 * G.c) := Nat.mul_le_mul hlp (by omega)
    omega
  unfold dirF DOK dI dE dA
  rw [e]
  rcases zf_cases G f with ⟨hf, hz⟩ | ⟨hf, hz⟩
  · rw [hz, if_neg (fun q => by omega), Nat.sub_zero]
    constructor
    · intro h
      obtain ⟨g1, g2, g3, g4⟩ := scn_fwd _ _ ms ms hn (List.Perm.refl _) h
      exact ⟨⟨hl, fun q => absurd hf q, g1, g2⟩, fun q => absurd hf q, g3.nodup_iff.mp g4⟩
    · intro h
      exact scn_bwd _ _ ms ms (List.Perm.refl _) h.1.2.2.1 h.1.2.2.2 h.2.2
  · rw [hz]
    by_cases hp : pts d (sa G l 0) 0 f ∧ pts d (sa G l 1) 1 p
    · rw [if_neg (fun q => q.2 hp)]
      have e0 : d (sa G l 0) = 46 := hp.1.1 0 (by decide)
      have e1 : d (sa G l 1) = 46 := hp.2.1 0 (by decide)
      have ee : en d (sa G l) (l.length * (16 * G.c)) 0 = en d (sa G l) (l.length * (16 * G.c) - 2) 2 := by
        obtain ⟨m, hm⟩ : ∃ m, l.length * (16 * G.c) = m + 2 := ⟨_, (Nat.sub_add_cancel (by omega)).symm⟩
        rw [hm]
        unfold en
        rw [zl, if_neg (by rw [e0]; decide), zl, if_neg (by rw [e1]; decide)]
        rfl
      rw [ee]
      have ei : itm d (sa G l) 2 2 = [] := (rn_z d (sa G l) 2 2 (Nat.le_refl _)).2.1
      constructor
      · intro h
        obtain ⟨g1, g2, g3, g4⟩ := scn_fwd _ _ ms ms hn (by rw [ei]; exact List.Perm.refl _) h
        exact ⟨⟨hl, fun q => ⟨hp.1, p, hp.2⟩, g1, g2⟩, fun q => hp.2, g3.nodup_iff.mp g4⟩
      · intro h
        exact scn_bwd _ _ ms ms (by rw [ei]; exact List.Perm.refl _) h.1.2.2.1 h.1.2.2.2 h.2.2
    · rw [if_pos ⟨rfl, hp⟩]
      exact ⟨fun h => absurd h (by simp), fun h => absurd ⟨(h.1.2.1 hf).1, h.2.1 hf⟩ hp⟩
theorem dirF_snd {G : Geo} {d : Nat → Nat} (hG : 1 ≤ G.c) {l ms : List Nat} {f p : Nat} (hl : lnk G d f l) (hn : ms.Nodup) (h0 : (dirF G d l ms f p).1 = 0) : (dirF G d l ms f p).2.1.Perm (fcs G d (dA G d f) (dI G d f) ++ ms) ∧ (dirF G d l ms f p).2.1.Nodup ∧ (dirF G d l ms f p).2.2 = sub G d f := by
  have e := cl_of hl
  have hlp := lnk_pos hl
  have hS : 16 ≤ l.length * (16 * G.c) := by
    have : 1 * 16 ≤ l.length * (16 * G.c) := Nat.mul_le_mul hlp (by omega)
    omega
  revert h0
  unfold dirF sub dI dE dA
  rw [e]
  rcases zf_cases G f with ⟨hf, hz⟩ | ⟨hf, hz⟩
  · rw [hz, if_neg (fun q => by omega), Nat.sub_zero]
    intro h
    obtain ⟨g1, g2, g3, g4⟩ := scn_fwd _ _ ms ms hn (List.Perm.refl _) h
    exact ⟨g3, g4, rfl⟩
  · rw [hz]
    by_cases hp : pts d (sa G l 0) 0 f ∧ pts d (sa G l 1) 1 p
    · rw [if_neg (fun q => q.2 hp)]
      have e0 : d (sa G l 0) = 46 := hp.1.1 0 (by decide)
      have e1 : d (sa G l 1) = 46 := hp.2.1 0 (by decide)
      have ee : en d (sa G l) (l.length * (16 * G.c)) 0 = en d (sa G l) (l.length * (16 * G.c) - 2) 2 := by
        obtain ⟨m, hm⟩ : ∃ m, l.length * (16 * G.c) = m + 2 := ⟨_, (Nat.sub_add_cancel (by omega)).symm⟩
        rw [hm]
        unfold en
        rw [zl, if_neg (by rw [e0]; decide), zl, if_neg (by rw [e1]; decide)]
        rfl
      rw [ee]
      have ei : itm d (sa G l) 2 2 = [] := (rn_z d (sa G l) 2 2 (Nat.le_refl _)).2.1
      intro h
      obtain ⟨g1, g2, g3, g4⟩ := scn_fwd _ _ ms ms hn (by rw [ei]; exact List.Perm.refl _) h
      exact ⟨g3, g4, rfl⟩
    · rw [if_pos ⟨rfl, hp⟩]
      exact fun h => absurd h (by simp)
def sp (G : Geo) (d : Nat → Nat) (v : Nat × Nat) : List (Nat × Nat) := (sub G d v.1).map (fun x => (x, pz G v.1))
theorem bfs_fwd {G : Geo} {d : Nat → Nat} (hG : 1 ≤ G.c) : ∀ (n : Nat) (Q : List (Nat × Nat)) (ms : List Nat), ms.Nodup → (bfs G d n Q ms).1 = 0 → ∃ (V : List (Nat × Nat)) (ρ : Nat → Nat), V = Q ++ V.flatMap (sp G d) ∧ (∀ v, v ∈ V → DOK G d v.1 ∧ (v.1 ≠ G.r → pts d (dA G d v.1 1) 1 v.2)) ∧ (bfs G d n Q ms).2.Perm (V.flatMap (fun v => own G d v.1) ++ ms) ∧ (bfs G d n Q ms).2.Nodup ∧ (∀ v, v ∈ V → ∀ f, f ∈ sub G d v.1 → ρ v.1 < ρ f) := by
  intro n
  induction n with
  | zero => intro Q ms _ h; exact absurd h (by simp [bfs])
  | succ n ih =>
    intro Q ms hn h
    cases Q with
    | nil => exact ⟨[], fun _ => 0, rfl, fun v hv => absurd hv (by simp), by simp [bfs], by simpa [bfs] using hn, fun v hv => absurd hv (by simp)⟩
    | cons q Q =>
      obtain ⟨f, p⟩ := q
      rw [bfs] at h ⊢
      cases hr : chS G d (G.k + 1) ms f with
      | none => rw [hr] at h; exact absurd h (by simp)
      | some l =>
        rw [hr] at h
        obtain ⟨hl, hd⟩ := chS_iff.mp hr
        have hn1 : (l ++ ms).Nodup := List.nodup_append.mpr ⟨lnk_nodup _ _ hl, hn, fun a ha b hb hab => hd a ha (hab ▸ hb)⟩
        simp only at h ⊢
        by_cases h0 : (dirF G d l (l ++ ms) f p).1 ≠ 0
        · rw [if_pos h0] at h; exact absurd h h0
        · rw [if_neg h0] at h ⊢
          have h0' := Decidable.not_not.mp h0
          obtain ⟨a1, a2, a3⟩ := (dirF_iff hG hl hn1).mp h0'
          obtain ⟨b1, b2, b3⟩ := dirF_snd hG hl hn1 h0'
          rw [b3] at h ⊢
          obtain ⟨V, ρ, c1, c2, c3, c4, c5⟩ := ih _ _ b2 h
          have eo : own G d f = l ++ fcs G d (dA G d f) (dI G d f) := by unfold own; rw [cl_of hl]
          have hperm : (dirF G d l (l ++ ms) f p).2.1.Perm (own G d f ++ ms) := by
            refine b1.trans ?_
            rw [eo, ← List.append_assoc]
            exact List.Perm.append_right ms List.perm_append_comm
          have hnot : ∀ v, v ∈ V → v.1 ≠ f := by
            intro v hv e
            have hn2 := c3.nodup_iff.mp c4
            have := (List.nodup_append.mp hn2).2.2 f (List.mem_flatMap.mpr ⟨v, hv, by
              rw [e]; unfold own; exact List.mem_append_left _ (by rw [cl_of hl]; exact lnk_head hl)⟩) f (hperm.mem_iff.mpr (List.mem_append_left _ (by rw [eo]; exact List.mem_append_left _ (lnk_head hl))))
            exact this rfl
          refine ⟨(f, p) :: V, fun x => if x = f then 0 else ρ x + 1, ?_, ?_, ?_, c4, ?_⟩
          · conv => lhs; rw [c1]
            rw [List.flatMap_cons, List.cons_append, ← List.append_assoc]
            rfl
          · intro v hv
            rcases List.mem_cons.mp hv with e | e
            · rw [e]; exact ⟨a1, a2⟩
            · exact c2 v e
          · refine c3.trans ?_
            rw [List.flatMap_cons]
            refine (List.Perm.append_left _ hperm).trans ?_
            rw [← List.append_assoc]
            exact List.Perm.append_right ms List.perm_append_comm
          · intro v hv x hx
            have hxV : ∃ w, w ∈ V ∧ w.1 = x := by
              have hm : (x, pz G v.1) ∈ V := by
                rcases List.mem_cons.mp hv with e | e
                · rw [c1]
                  rw [e] at hx
                  exact List.mem_append_left _ (List.mem_append_right _ (List.mem_map.mpr ⟨x, hx, by rw [e]⟩))
                · rw [c1]
                  exact List.mem_append_right _ (List.mem_flatMap.mpr ⟨v, e, List.mem_map.mpr ⟨x, hx, rfl⟩⟩)
              exact ⟨_, hm, rfl⟩
            obtain ⟨w, w1, w2⟩ := hxV
            have hxf : x ≠ f := by rw [← w2]; exact hnot w w1
            show (if v.1 = f then 0 else ρ v.1 + 1) < (if x = f then 0 else ρ x + 1)
            rw [if_neg hxf]
            rcases List.mem_cons.mp hv with e | e
            · rw [e, if_pos rfl]; omega
            · rw [if_neg (hnot v e)]
              have := c5 v e x hx
              omega
