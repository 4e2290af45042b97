/-! the class's look at the tables -/
abbrev entW (G : Geo) (d : Nat → Nat) (x : Nat) : Prop := (ent G d x = 0 ∨ isC G (ent G d x) ∨ 268435448 ≤ ent G d x) ∧ (G.y = 2 → fo d (512 * G.v + 4 * x) = fo d (512 * (G.v + G.z) + 4 * x))
theorem tA_loop {nf : Nat} {ln : LN} {fi : FI} {ar : AR} {G : Geo} {d : Nat → Nat} (h : CW ln fi ar G d) : ∀ (m x kf : Nat), x + m = G.k + 2 → m < kf → ((∀ y, x ≤ y → y < G.k + 2 → entW G d y) ∧ FX9_tablesAsTold_24 nf ln kf (nI x) fi ar = some (1, fi, ar)) ∨ (¬ (∀ y, x ≤ y → y < G.k + 2 → entW G d y) ∧ FX9_tablesAsTold_24 nf ln kf (nI x) fi ar = some (0, fi, ar)) := by
  have b := h.2.2.1.b
  have hl := h.2.2.2
  intro m
  induction m with
  | zero =>
    intro x kf hx hk
    obtain ⟨kf, rfl⟩ : ∃ k, kf = k + 1 := ⟨kf - 1, by omega⟩
    refine Or.inl ⟨fun y h1 h2 => by omega, ?_⟩
    show FX9_tablesAsTold_24b _ nf ln _ _ _ = _
    unfold FX9_tablesAsTold_24b
    rw [h.2.1.2.2.1, nI_1, brT (nI_lt (by omega) (by omega))]
  | succ m ih =>
    intro x kf hx hk
    obtain ⟨kf, rfl⟩ : ∃ k, kf = k + 1 := ⟨kf - 1, by omega⟩
    have e := ent_lt G d x
    have hyz : G.y = 2 → G.v + G.z + G.z = G.a := fun hy => by have := b.2.2.2.2.1; rw [hy] at this; omega
    have r60 : FX9_tablesAsTold_60 (FX9_tablesAsTold_24 nf ln kf) nf ln (nI x) fi ar = if (G.y = 2 → fo d (512 * G.v + 4 * x) = fo d (512 * (G.v + G.z) + 4 * x)) then FX9_tablesAsTold_24 nf ln kf (nI (x + 1)) fi ar else some (0, fi, ar) := by
      unfold FX9_tablesAsTold_60 FX9_tablesAsTold_111
      rw [bnd_eq, h.2.1.2.2.2.2.2.1, h.2.1.2.2.2.2.1, bnd_eq, show nI G.v * (512 : Int32) = nI (G.v * 512) from pk_mul _ 512, show (4 : Int32) * nI x = nI (4 * x) from pk_mul 4 x, nI_add, Nat.mul_comm G.v 512]
      by_cases hy : G.y = 2
      · have hz := hyz hy
        rw [brT (show nI G.y = (2 : Int32) by rw [hy]; rfl), FX3_four_eq h.1 (by omega) (by omega), obnd3_some, h.2.1.2.2.2.2.2.2.1, show nI G.z * (512 : Int32) = nI (G.z * 512) from pk_mul _ 512, nI_add, show 512 * G.v + 4 * x + G.z * 512 = 512 * (G.v + G.z) + 4 * x by omega, FX3_four_eq h.1 (by omega) (by omega), obnd3_some]
        by_cases hf : fo d (512 * G.v + 4 * x) = fo d (512 * (G.v + G.z) + 4 * x)
        · rw [brT (by rw [hf]), if_pos (fun _ => hf), bnd_eq, nI_1]
        · rw [brF (fun q => hf ((eq32 (foC_lt h.1 (by omega)) (foC_lt h.1 (by omega))).mp q)), if_neg (fun q => hf (q hy))]
      · rw [brF (show ¬ nI G.y = (2 : Int32) from fun q => hy ((nI_eq (b := 2) (by omega) (by omega)).mp q)), if_pos (fun q => absurd q hy), nI_1]
    have step : FX9_tablesAsTold_24 nf ln (kf + 1) (nI x) fi ar = if entW G d x then FX9_tablesAsTold_24 nf ln kf (nI (x + 1)) fi ar else some (0, fi, ar) := by
      show FX9_tablesAsTold_24b _ nf ln _ _ _ = _
      unfold FX9_tablesAsTold_24b
      have fin : ∀ A : Prop, [Decidable A] → (A ↔ (ent G d x = 0 ∨ isC G (ent G d x) ∨ 268435448 ≤ ent G d x)) → (if A then FX9_tablesAsTold_60 (FX9_tablesAsTold_24 nf ln kf) nf ln (nI x) fi ar else some (0, fi, ar)) = if entW G d x then FX9_tablesAsTold_24 nf ln kf (nI (x + 1)) fi ar else some (0, fi, ar) := by
        intro A _ hA
        by_cases ha : A
        · rw [if_pos ha, r60]
          by_cases hf : (G.y = 2 → fo d (512 * G.v + 4 * x) = fo d (512 * (G.v + G.z) + 4 * x))
          · rw [if_pos hf, if_pos (show entW G d x from ⟨hA.mp ha, hf⟩)]
          · rw [if_neg hf, if_neg (fun q : entW G d x => hf q.2)]
        · rw [if_neg ha, if_neg (fun q : entW G d x => ha (hA.mpr q.1))]
      rw [h.2.1.2.2.1, nI_1, brF (nI_nlt (by omega) (by omega)), h.next (by omega), obnd3_some, ← fin (ent G d x = 0 ∨ isC G (ent G d x) ∨ 268435448 ≤ ent G d x) Iff.rfl]
      by_cases q0 : ent G d x = 0
      · rw [brT (show nI (ent G d x) = 0 by rw [q0]; rfl), if_pos (Or.inl q0)]; rfl
      · rw [brF (show ¬ nI (ent G d x) = 0 from nI_ne0 (by omega) (by omega)), h.isC (by omega), obnd3_some]
        by_cases q1 : isC G (ent G d x)
        · rw [if_pos q1, brF (by decide), if_pos (Or.inr (Or.inl q1))]; rfl
        · rw [if_neg q1, brT rfl]
          by_cases q2 : 268435448 ≤ ent G d x
          · rw [brT (show (268435448 : Int32) ≤ nI (ent G d x) from nI_le (a := 268435448) q2 (by omega)), if_pos (Or.inr (Or.inr q2))]; rfl
          · rw [brF (show ¬ (268435448 : Int32) ≤ nI (ent G d x) from nI_ge (b := 268435448) (by omega) (by omega)), if_neg (fun z => by rcases z with z | z | z; exact q0 z; exact q1 z; exact q2 z)]
    rw [step]
    by_cases ho : entW G d x
    · rw [if_pos ho]
      rcases ih (x + 1) kf (by omega) (by omega) with ⟨h1, h2⟩ | ⟨h1, h2⟩
      · exact Or.inl ⟨fun y ha hb => if hy : y = x then hy ▸ ho else h1 y (by omega) hb, h2⟩
      · exact Or.inr ⟨fun q => h1 (fun y ha hb => q y (by omega) hb), h2⟩
    · rw [if_neg ho]
      exact Or.inr ⟨fun q => ho (q x (by omega) (by omega)), rfl⟩
theorem tab_iff {G : Geo} {d : Nat → Nat} (hk : 4 ≤ G.k) : tabOK G d ↔ ent G d 0 = 268435448 ∧ ent G d 1 = 268435455 ∧ ∀ y, 0 ≤ y → y < G.k + 2 → entW G d y := by
  constructor
  · intro h
    have h0 : ent G d 0 = 268435448 := (h 0 (by omega)).1
    have h1 : ent G d 1 = 268435455 := (h 1 (by omega)).1
    refine ⟨h0, h1, fun y _ hy => ⟨?_, (h y hy).2⟩⟩
    by_cases y0 : y = 0
    · subst y0; exact Or.inr (Or.inr (by omega))
    · by_cases y1 : y = 1
      · subst y1; exact Or.inr (Or.inr (by omega))
      · have := (h y hy).1
        rw [if_neg y0, if_neg y1] at this
        exact this
  · intro ⟨h0, h1, h⟩ y hy
    refine ⟨?_, (h y (by omega) hy).2⟩
    by_cases y0 : y = 0
    · rw [if_pos y0, y0]; exact h0
    · by_cases y1 : y = 1
      · rw [if_neg y0, if_pos y1, y1]; exact h1
      · rw [if_neg y0, if_neg y1]; exact (h y (by omega) hy).1
theorem CW.tablesAsTold {nf : Nat} {ln : LN} {fi : FI} {ar : AR} {G : Geo} {d : Nat → Nat} (h : CW ln fi ar G d) (hnf : 600 ≤ nf) : FX9_tablesAsTold nf ln fi ar = some ((if tabOK G d then 1 else 0), fi, ar) := by
  have b := h.2.2.1.b
  have e0 := ent_lt G d 0
  have e1 := ent_lt G d 1
  unfold FX9_tablesAsTold FX9_tablesAsTold_20
  rw [show FX9_next nf ln fi ar (0 : Int32) = some (nI (ent G d 0), fi, ar) from h.next (x := 0) (by omega), obnd3_some]
  by_cases a0 : ent G d 0 = 268435448
  · rw [brT (show nI (ent G d 0) = 268435448 by rw [a0]; rfl), show FX9_next nf ln fi ar (1 : Int32) = some (nI (ent G d 1), fi, ar) from h.next (x := 1) (by omega), obnd3_some]
    by_cases a1 : ent G d 1 = 268435455
    · rw [brT (show nI (ent G d 1) = 268435455 by rw [a1]; rfl)]
      rcases tA_loop (nf := nf) h (G.k + 2) 0 nf (by omega) (by omega) with ⟨h1, h2⟩ | ⟨h1, h2⟩
      · rw [if_pos ((tab_iff b.2.1).mpr ⟨a0, a1, h1⟩)]; exact h2
      · rw [if_neg (fun q => h1 ((tab_iff b.2.1).mp q).2.2)]; exact h2
    · rw [brF (show ¬ nI (ent G d 1) = 268435455 from fun z => a1 ((nI_eq (b := 268435455) (by omega) (by omega)).mp z)), if_neg (fun q => a1 ((tab_iff b.2.1).mp q).2.1)]
  · rw [brF (show ¬ nI (ent G d 0) = 268435448 from fun z => a0 ((nI_eq (b := 268435448) (by omega) (by omega)).mp z)), if_neg (fun q => a0 ((tab_iff b.2.1).mp q).1)]
