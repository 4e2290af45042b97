/-! the tables -/
abbrev isC (G : Geo) (x : Nat) : Prop := 2 ≤ x ∧ x ≤ G.k + 1
def ent (G : Geo) (d : Nat → Nat) (x : Nat) : Nat := fo d (512 * G.v + 4 * x) % 268435456
theorem ent_lt (G : Geo) (d : Nat → Nat) (x : Nat) : ent G d x < 268435456 := Nat.mod_lt _ (by decide)
/-- bounds that follow from a sound sector 0 -/
theorem GOK.b {G : Geo} (h : GOK G) : G.a ≤ 128 ∧ 4 ≤ G.k ∧ G.k + 2 ≤ 128 * G.z ∧ G.v + G.z ≤ G.a ∧ G.v + G.y * G.z = G.a ∧ (1 ≤ G.z ∧ G.z ≤ 32) ∧ G.a + G.k * G.c ≤ G.n ∧ (2 ≤ G.c ∧ G.c ≤ 8) ∧ G.k ≤ 512 ∧ 256 ≤ G.n ∧ G.n ≤ 1024 ∧ 8 ≤ G.v ∧ (G.y = 1 ∨ G.y = 2) := by
  obtain ⟨⟨hc, hv, hy, hz, hk⟩, hr, h1, h2⟩ := h
  have hyz : G.y * G.z ≤ 64 ∧ G.z ≤ G.y * G.z := by rcases hy with h | h <;> rw [h] <;> omega
  have ha : G.a = G.v + G.y * G.z := rfl
  have hkd : G.k = (G.n - G.a) / G.c := rfl
  have hm : G.k * G.c ≤ G.n - G.a := by rw [hkd]; exact Nat.div_mul_le_self _ _
  have h4 : 4 ≤ G.k ∧ G.k ≤ 512 := by
    rw [hkd]
    rcases hc with h | h | h <;> rw [h] <;> omega
  have hc2 : 2 ≤ G.c ∧ G.c ≤ 8 := by omega
  refine ⟨by omega, h4.1, ?_, by omega, ha.symm, hz, by omega, hc2, h4.2, h1, h2, hv.1, hy⟩
  rw [hkd, ha]
  exact hk
/-- the class's world at rest: its disk and its geometry -/
def CW (ln : LN) (fi : FI) (ar : AR) (G : Geo) (d : Nat → Nat) : Prop := CD ln ar d ∧ CG fi G ∧ GOK G ∧ ln 0 = 128 * G.n
def RW (fi : FI) (ar : AR) (G : Geo) (d : Nat → Nat) : Prop := RD ar d ∧ RG fi G ∧ GOK G
theorem FX9_isCluster_eq {nf : Nat} {ln : LN} {fi : FI} {ar : AR} {k : Nat} (hk : fi 5 = nI k) (hk2 : k ≤ 1024) (x : Int32) : FX9_isCluster nf ln fi ar x = some ((if 2 ≤ uv x ∧ uv x ≤ k + 1 then 1 else 0), fi, ar) := by
  unfold FX9_isCluster FX9_isCluster_19 FX9_isCluster_20
  have t := tI x
  have eK : (nI (k + 1)).toInt = ((k + 1 : Nat) : Int) := nI_toInt (by omega)
  have l2 : (2 : Int32).toInt = 2 := rfl
  rw [hk, nI_1]
  by_cases a1 : x < 2
  · rw [brT a1]
    rw [ltI] at a1
    rw [if_neg (by omega)]
    rfl
  · rw [brF a1]
    rw [ltI] at a1
    by_cases a2 : nI (k + 1) < x
    · rw [brT a2]
      rw [ltI, eK] at a2
      rw [if_neg (by omega)]
      rfl
    · rw [brF a2]
      rw [ltI, eK] at a2
      rw [if_pos (by omega)]
      rfl
theorem CW.isC {nf : Nat} {ln : LN} {fi : FI} {ar : AR} {G : Geo} {d : Nat → Nat} (h : CW ln fi ar G d) {x : Nat} (hx : x < 2 ^ 32) : FX9_isCluster nf ln fi ar (nI x) = some ((if isC G x then 1 else 0), fi, ar) := by
  have b := h.2.2.1.b
  rw [FX9_isCluster_eq h.2.1.2.2.1 (by omega), uv_nI hx]
theorem RW.isC {nf : Nat} {fi : FI} {ar : AR} {G : Geo} {d : Nat → Nat} (h : RW fi ar G d) {x : Nat} (hx : x < 2 ^ 32) : M_isCluster nf fi ar (nI x) = some ((if isC G x then 1 else 0), fi, ar) := by
  have b := h.2.2.b
  rw [M_isCluster_eq h.2.1.2.2.2.2.2.2.2 (by omega), uv_nI hx]
theorem CW.next {nf : Nat} {ln : LN} {fi : FI} {ar : AR} {G : Geo} {d : Nat → Nat} (h : CW ln fi ar G d) {x : Nat} (hx : x ≤ G.k + 1) : FX9_next nf ln fi ar (nI x) = some (nI (ent G d x), fi, ar) := by
  have b := h.2.2.1.b
  have hl := h.2.2.2
  unfold FX9_next
  rw [h.2.1.2.2.2.2.1, show nI G.v * (512 : Int32) = nI (G.v * 512) from pk_mul _ 512, show (4 : Int32) * nI x = nI (4 * x) from pk_mul 4 x, nI_add, Nat.mul_comm G.v 512, FX3_four_eq h.1 (by omega) (by omega), obnd3_some, pk_andN (foC_lt h.1 (by omega)) (m := 268435455) 28 (by decide)]
  rfl
theorem RW.entryAt {nf : Nat} {fi : FI} {ar : AR} {G : Geo} {d : Nat → Nat} (h : RW fi ar G d) {t x : Nat} : M_entryAt nf fi ar (nI t) (nI x) = some (nI (512 * (G.v + t * G.z) + 4 * x), fi, ar) := by
  unfold M_entryAt
  rw [h.2.1.2.2.1, h.2.1.2.2.2.2.1, pk_mul, nI_add, show (512 : Int32) * nI (G.v + t * G.z) = nI (512 * (G.v + t * G.z)) from pk_mul 512 _, show (4 : Int32) * nI x = nI (4 * x) from pk_mul 4 x, nI_add]
theorem RW.entry {nf : Nat} {fi : FI} {ar : AR} {G : Geo} {d : Nat → Nat} (h : RW fi ar G d) {x : Nat} (hx : x ≤ G.k + 1) : M_entry nf fi ar (nI x) = some (nI (ent G d x), fi, ar) := by
  have b := h.2.2.b
  unfold M_entry
  rw [show (0 : Int32) = nI 0 from rfl, h.entryAt, obnd3_some, Nat.zero_mul, Nat.add_zero, M_four_eq h.1 (by omega), obnd3_some, pk_andN (foR_lt h.1 (by omega)) (m := 268435455) 28 (by decide)]
  rfl
/-- entry x of the tables is as told -/
abbrev entOK (G : Geo) (d : Nat → Nat) (x : Nat) : Prop := (if x = 0 then ent G d x = 268435448 else if x = 1 then ent G d x = 268435455 else ent G d x = 0 ∨ isC G (ent G d x) ∨ 268435448 ≤ ent G d x) ∧ (G.y = 2 → fo d (512 * G.v + 4 * x) = fo d (512 * (G.v + G.z) + 4 * x))
abbrev tabOK (G : Geo) (d : Nat → Nat) : Prop := ∀ x, x < G.k + 2 → entOK G d x
theorem eq32 {a b : Nat} (ha : a < 2 ^ 32) (hb : b < 2 ^ 32) : nI a = nI b ↔ a = b := ⟨fun h => by have := congrArg uv h; rw [uv_nI ha, uv_nI hb] at this; exact this, fun h => by rw [h]⟩
theorem bT_loop {nf : Nat} {fi : FI} {ar : AR} {G : Geo} {d : Nat → Nat} (h : RW fi ar G d) : ∀ (m x kf : Nat), x + m = G.k + 2 → m < kf → ((∀ y, x ≤ y → y < G.k + 2 → entOK G d y) ∧ M_badTables_2 nf kf (nI x) fi ar = some (0, fi, ar)) ∨ (¬ (∀ y, x ≤ y → y < G.k + 2 → entOK G d y) ∧ M_badTables_2 nf kf (nI x) fi ar = some (1, fi, ar)) := by
  have b := h.2.2.b
  intro m
  induction m with
  | zero =>
    intro x kf hx hk
    obtain ⟨kf, rfl⟩ : ∃ k, kf = k + 1 := ⟨kf - 1, by omega⟩
    refine Or.inl ⟨fun y h1 h2 => by omega, ?_⟩
    show M_badTables_2b _ nf _ _ _ = _
    unfold M_badTables_2b
    rw [h.2.1.2.2.2.2.2.2.2, show nI G.k + (2 : Int32) = nI (G.k + 2) from nI_add _ 2, brT (nI_le (by omega) (by omega))]
  | succ m ih =>
    intro x kf hx hk
    obtain ⟨kf, rfl⟩ : ∃ k, kf = k + 1 := ⟨kf - 1, by omega⟩
    have e := ent_lt G d x
    have f1 := foR_lt h.1 (show 512 * G.v + 4 * x + 3 < 524288 by omega)
    have hyz : G.y = 2 → 512 * (G.v + G.z) + 4 * x + 3 < 524288 := fun hy => by have := b.2.2.2.2.1; rw [hy] at this; omega
    have r116 : M_badTables_116 (M_badTables_2 nf kf) nf (nI x) fi ar = M_badTables_2 nf kf (nI (x + 1)) fi ar := by unfold M_badTables_116; rw [bnd_eq, nI_1]
    have r78 : M_badTables_78 (M_badTables_2 nf kf) nf (nI x) 1 fi ar = if (G.y = 2 → fo d (512 * G.v + 4 * x) = fo d (512 * (G.v + G.z) + 4 * x)) then M_badTables_2 nf kf (nI (x + 1)) fi ar else some (1, fi, ar) := by
      unfold M_badTables_78 M_badTables_114
      rw [brF (by decide), h.2.1.2.2.2.1, r116]
      by_cases hy : G.y = 2
      · rw [brT (show nI G.y = (2 : Int32) by rw [hy]; rfl), show (0 : Int32) = nI 0 from rfl, h.entryAt, obnd3_some, Nat.zero_mul, Nat.add_zero, M_four_eq h.1 (by omega), obnd3_some, show (1 : Int32) = nI 1 from rfl, h.entryAt, obnd3_some, Nat.one_mul, M_four_eq h.1 (hyz hy), obnd3_some]
        by_cases hf : fo d (512 * G.v + 4 * x) = fo d (512 * (G.v + G.z) + 4 * x)
        · rw [brT (by rw [hf]), if_pos (fun _ => hf)]; unfold M_badTables_116; rw [bnd_eq, nI_1]
        · rw [brF (fun q => hf ((eq32 f1 (foR_lt h.1 (hyz hy))).mp q)), if_neg (fun q => hf (q hy))]
      · rw [brF (show ¬ nI G.y = (2 : Int32) from fun q => hy ((nI_eq (by omega) (by omega)).mp q)), if_pos (fun q => absurd q hy)]
    have r78z : M_badTables_78 (M_badTables_2 nf kf) nf (nI x) 0 fi ar = some (1, fi, ar) := by
      unfold M_badTables_78 M_badTables_114; rw [brT rfl]
    have step : M_badTables_2 nf (kf + 1) (nI x) fi ar = if entOK G d x then M_badTables_2 nf kf (nI (x + 1)) fi ar else some (1, fi, ar) := by
      show M_badTables_2b _ nf _ _ _ = _
      unfold M_badTables_2b M_badTables_73
      rw [h.2.1.2.2.2.2.2.2.2, show nI G.k + (2 : Int32) = nI (G.k + 2) from nI_add _ 2, brF (nI_ge (by omega) (by omega)), h.entry (by omega), obnd3_some]
      have fin : ∀ A : Prop, [Decidable A] → (A ↔ (if x = 0 then ent G d x = 268435448 else if x = 1 then ent G d x = 268435455 else ent G d x = 0 ∨ isC G (ent G d x) ∨ 268435448 ≤ ent G d x)) → (if A then M_badTables_78 (M_badTables_2 nf kf) nf (nI x) 1 fi ar else M_badTables_78 (M_badTables_2 nf kf) nf (nI x) 0 fi ar) = if entOK G d x then M_badTables_2 nf kf (nI (x + 1)) fi ar else some (1, fi, ar) := by
        intro A _ hA
        by_cases ha : A
        · rw [if_pos ha, r78]
          by_cases hf : (G.y = 2 → fo d (512 * G.v + 4 * x) = fo d (512 * (G.v + G.z) + 4 * x))
          · rw [if_pos hf, if_pos (show entOK G d x from ⟨hA.mp ha, hf⟩)]
          · rw [if_neg hf, if_neg (fun q : entOK G d x => hf q.2)]
        · rw [if_neg ha, r78z, if_neg (fun q : entOK G d x => ha (hA.mpr q.1))]
      by_cases x0 : x = 0
      · rw [brT (show nI x = 0 by rw [x0]; rfl), ← fin (ent G d x = 268435448) (by rw [if_pos x0])]
        by_cases q : ent G d x = 268435448
        · rw [brT (show nI (ent G d x) = 268435448 by rw [q]; rfl), if_pos q]; rfl
        · rw [brF (show ¬ nI (ent G d x) = 268435448 from fun z => q ((nI_eq (by omega) (by omega)).mp z)), if_neg q]; rfl
      · rw [brF (show ¬ nI x = 0 from nI_ne0 (by omega) (by omega))]
        by_cases x1 : x = 1
        · rw [brT (show nI x = 1 by rw [x1]; rfl), ← fin (ent G d x = 268435455) (by rw [if_neg x0, if_pos x1])]
          by_cases q : ent G d x = 268435455
          · rw [brT (show nI (ent G d x) = 268435455 by rw [q]; rfl), if_pos q]; rfl
          · rw [brF (show ¬ nI (ent G d x) = 268435455 from fun z => q ((nI_eq (by omega) (by omega)).mp z)), if_neg q]; rfl
        · rw [brF (show ¬ nI x = 1 from fun z => x1 ((nI_eq (b := 1) (by omega) (by omega)).mp z)), ← fin (ent G d x = 0 ∨ isC G (ent G d x) ∨ 268435448 ≤ ent G d x) (by rw [if_neg x0, if_neg x1])]
          by_cases q0 : ent G d x = 0
          · rw [brT (show nI (ent G d x) = 0 by rw [q0]; rfl), if_pos (Or.inl q0)]; rfl
          · rw [brF (show ¬ nI (ent G d x) = 0 from nI_ne0 (by omega) (by omega)), h.isC (by omega), obnd3_some]
            by_cases q1 : isC G (ent G d x)
            · rw [if_pos q1, brF (by decide), if_pos (Or.inr (Or.inl q1))]; rfl
            · rw [if_neg q1, brT rfl]
              by_cases q2 : ent G d x < 268435448
              · rw [brT (show nI (ent G d x) < (268435448 : Int32) from nI_lt (b := 268435448) q2 (by omega)), if_neg (fun z => by rcases z with z | z | z; exact q0 z; exact q1 z; omega)]; rfl
              · rw [brF (show ¬ nI (ent G d x) < (268435448 : Int32) from nI_nlt (b := 268435448) (by omega) (by omega)), if_pos (Or.inr (Or.inr (by omega)))]; rfl
    rw [step]
    by_cases ho : entOK G d x
    · rw [if_pos ho]
      rcases ih (x + 1) kf (by omega) (by omega) with ⟨h1, h2⟩ | ⟨h1, h2⟩
      · exact Or.inl ⟨fun y ha hb => if hy : y = x then hy ▸ ho else h1 y (by omega) hb, h2⟩
      · exact Or.inr ⟨fun q => h1 (fun y ha hb => q y (by omega) hb), h2⟩
    · rw [if_neg ho]
      exact Or.inr ⟨fun q => ho (q x (by omega) (by omega)), rfl⟩
theorem RW.badTables {nf : Nat} {fi : FI} {ar : AR} {G : Geo} {d : Nat → Nat} (h : RW fi ar G d) (hnf : 600 ≤ nf) : M_badTables nf fi ar = some ((if tabOK G d then 0 else 1), fi, ar) := by
  have b := h.2.2.b
  rcases bT_loop (nf := nf) h (G.k + 2) 0 nf (by omega) (by omega) with ⟨h1, h2⟩ | ⟨h1, h2⟩
  · rw [if_pos (show tabOK G d from fun y hy => h1 y (by omega) hy)]; exact h2
  · rw [if_neg (fun q : tabOK G d => h1 (fun y _ hb => q y hb))]; exact h2
