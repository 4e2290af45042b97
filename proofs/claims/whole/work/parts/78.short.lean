/-! short names in both -/
theorem smS_lt (d : Nat → Nat) (p : Nat) : ∀ i, smS d p i < 256 := fun i => by cases i with
  | zero => exact Nat.zero_lt_succ _
  | succ i => exact Nat.mod_lt _ (by decide)
theorem M_sum_loop {nf : Nat} {fi : FI} {ar : AR} {d : Nat → Nat} (hd : RD ar d) {p : Nat} (hp : p + 32 ≤ 524288) : ∀ (m i kf : Nat), i + m = 11 → m < kf → M_sumOf_4 nf kf (nI p) (nI (smS d p i)) (nI i) fi ar = some (nI (smS d p 11), fi, ar) := by
  intro m
  induction m with
  | zero =>
    intro i kf hi hk
    obtain ⟨kf, rfl⟩ : ∃ k, kf = k + 1 := ⟨kf - 1, by omega⟩
    show M_sumOf_4b _ nf _ _ _ _ _ = _
    unfold M_sumOf_4b
    simp (disch := first | omega | decide) only [zlt, zle, zeq, zltl, zllt, zlel, zlle, zeql, zll, ↓zlt, ↓zle, ↓zeq, ↓zltl, ↓zllt, ↓zlel, ↓zlle, ↓zeql, ↓zll, ↓if_pos, ↓if_neg, if_pos, if_neg, ↓zgd, zgd, zgdc, ↓zgd0, zgd0c, zcl0, ↓zbit, zbitc, ↓zbit1, ↓zbit0, nI_clamp, zaddl, zladd, zsubl, zlsub, zmull, zlmul, zdivl, nI_1, nI_add, nI_mulL, zand1, zand3, zand15, zand31, zand63, zand255, zand65535, zshr1, zshl7, zshl8, zshl9, zbit8, zbit16, ↓bnd_eq, bnd_eq, obnd_some, obnd3_some, obnd6_some, show i = 11 by omega]
  | succ m ih =>
    intro i kf hi hk
    obtain ⟨kf, rfl⟩ : ∃ k, kf = k + 1 := ⟨kf - 1, by omega⟩
    show M_sumOf_4b _ nf _ _ _ _ _ = _
    unfold M_sumOf_4b
    have h1 := hd.lt (show p + i < 524288 by omega)
    have h2 := smS_lt d p i
    simp (disch := first | omega | decide) only [zlt, zle, zeq, zltl, zllt, zlel, zlle, zeql, zll, ↓zlt, ↓zle, ↓zeq, ↓zltl, ↓zllt, ↓zlel, ↓zlle, ↓zeql, ↓zll, ↓if_pos, ↓if_neg, if_pos, if_neg, ↓zgd, zgd, zgdc, ↓zgd0, zgd0c, zcl0, ↓zbit, zbitc, ↓zbit1, ↓zbit0, nI_clamp, zaddl, zladd, zsubl, zlsub, zmull, zlmul, zdivl, nI_1, nI_add, nI_mulL, zand1, zand3, zand15, zand31, zand63, zand255, zand65535, zshr1, zshl7, zshl8, zshl9, zbit8, zbit16, ↓bnd_eq, bnd_eq, obnd_some, obnd3_some, obnd6_some, M_one_eq hd]
    exact ih (i + 1) kf (by omega) (by omega)
theorem M_sumOf_eq {nf : Nat} {fi : FI} {ar : AR} {d : Nat → Nat} (hd : RD ar d) {p : Nat} (hp : p + 32 ≤ 524288) (hnf : 20 ≤ nf) : M_sumOf nf fi ar (nI p) = some (nI (smS d p 11), fi, ar) := M_sum_loop hd hp 11 0 nf (by omega) (by omega)
/-- the class's short name i0 holds these bytes -/
def SB (ln : LN) (ar : AR) (i0 : Nat) (b : Nat → Nat) : Prop := ln (40 + 2 * i0) = 11 ∧ ∀ i, i < 11 → ar (40 + 2 * i0) i = nI (b i) ∧ b i < 256
theorem FX7_load_loop {nf : Nat} {ln : LN} {fi : FI} {d : Nat → Nat} {i0 p : Nat} (hl : ln (40 + 2 * i0) = 11) (hp : p + 32 ≤ 4 * ln 0) : ∀ (m i kf : Nat) (ar : AR), CD ln ar d → i + m = 11 → m < kf → (∀ j, j < i → ar (40 + 2 * i0) j = nI (d (p + j))) → ∃ ar', FX7_load_2 nf ln i0 kf (nI p) (nI i) fi ar = some ((), fi, ar') ∧ (∀ j, j < 11 → ar' (40 + 2 * i0) j = nI (d (p + j))) ∧ offA (40 + 2 * i0) ar ar' := by
  intro m
  induction m with
  | zero =>
    intro i kf ar hd hi hk hj
    obtain ⟨kf, rfl⟩ : ∃ k, kf = k + 1 := ⟨kf - 1, by omega⟩
    refine ⟨ar, ?_, fun j h => hj j (by omega), offA.rf⟩
    show FX7_load_2b _ nf _ _ _ _ _ _ = _
    unfold FX7_load_2b
    simp (disch := first | omega | decide) only [zlt, zle, zeq, zltl, zllt, zlel, zlle, zeql, zll, ↓zlt, ↓zle, ↓zeq, ↓zltl, ↓zllt, ↓zlel, ↓zlle, ↓zeql, ↓zll, ↓if_pos, ↓if_neg, if_pos, if_neg, ↓zgd, zgd, zgdc, ↓zgd0, zgd0c, zcl0, ↓zbit, zbitc, ↓zbit1, ↓zbit0, nI_clamp, zaddl, zladd, zsubl, zlsub, zmull, zlmul, zdivl, nI_1, nI_add, nI_mulL, zand1, zand3, zand15, zand31, zand63, zand255, zand65535, zshr1, zshl7, zshl8, zshl9, zbit8, zbit16, ↓bnd_eq, bnd_eq, obnd_some, obnd3_some, obnd6_some]
  | succ m ih =>
    intro i kf ar hd hi hk hj
    obtain ⟨kf, rfl⟩ : ∃ k, kf = k + 1 := ⟨kf - 1, by omega⟩
    have hl0 := hd.1
    have h1 := hd.lt (show p + i < 4 * ln 0 by omega)
    obtain ⟨ar', r1, r2, r3⟩ := ih (i + 1) kf (va_up ar (40 + 2 * i0) (upd (ar (40 + 2 * i0)) i (nI (d (p + i))))) (hd.up (by omega)) (by omega) (by omega) (fun j h => by
      rw [va_up_self]; unfold upd
      by_cases e : j = i
      · rw [if_pos e, e]
      · rw [if_neg e]; exact hj j (by omega))
    refine ⟨ar', ?_, r2, fun j h => by rw [r3 j h, va_up_ne _ _ h]⟩
    show FX7_load_2b _ nf _ _ _ _ _ _ = _
    unfold FX7_load_2b
    simp (disch := first | omega | decide) only [zlt, zle, zeq, zltl, zllt, zlel, zlle, zeql, zll, ↓zlt, ↓zle, ↓zeq, ↓zltl, ↓zllt, ↓zlel, ↓zlle, ↓zeql, ↓zll, ↓if_pos, ↓if_neg, if_pos, if_neg, ↓zgd, zgd, zgdc, ↓zgd0, zgd0c, zcl0, ↓zbit, zbitc, ↓zbit1, ↓zbit0, nI_clamp, zaddl, zladd, zsubl, zlsub, zmull, zlmul, zdivl, nI_1, nI_add, nI_mulL, zand1, zand3, zand15, zand31, zand63, zand255, zand65535, zshr1, zshl7, zshl8, zshl9, zbit8, zbit16, ↓bnd_eq, bnd_eq, obnd_some, obnd3_some, obnd6_some, FX3_one_eq hd]
    exact r1
theorem FX7_load_ok {nf : Nat} {ln : LN} {fi : FI} {ar : AR} {d : Nat → Nat} {i0 p : Nat} (hd : CD ln ar d) (hl : ln (40 + 2 * i0) = 11) (hp : p + 32 ≤ 4 * ln 0) (hnf : 20 ≤ nf) : ∃ ar', FX7_load nf ln i0 fi ar (nI p) = some ((), fi, ar') ∧ SB ln ar' i0 (fun i => d (p + i)) ∧ offA (40 + 2 * i0) ar ar' := by
  obtain ⟨ar', r1, r2, r3⟩ := FX7_load_loop (nf := nf) (fi := fi) hl hp 11 0 nf ar hd (by omega) (by omega) (fun j h => by omega)
  exact ⟨ar', r1, ⟨hl, fun i hi => ⟨r2 i hi, hd.lt (by omega)⟩⟩, r3⟩
theorem FX7_sum_loop {nf : Nat} {ln : LN} {fi : FI} {ar : AR} {i0 : Nat} {b : Nat → Nat} (hb : SB ln ar i0 b) : ∀ (m i kf : Nat), i + m = 11 → m < kf → FX7_sum_4 nf ln i0 kf (nI (smS b 0 i)) (nI i) fi ar = some (nI (smS b 0 11), fi, ar) := by
  intro m
  induction m with
  | zero =>
    intro i kf hi hk
    obtain ⟨kf, rfl⟩ : ∃ k, kf = k + 1 := ⟨kf - 1, by omega⟩
    show FX7_sum_4b _ nf _ _ _ _ _ _ = _
    unfold FX7_sum_4b
    simp (disch := first | omega | decide) only [zlt, zle, zeq, zltl, zllt, zlel, zlle, zeql, zll, ↓zlt, ↓zle, ↓zeq, ↓zltl, ↓zllt, ↓zlel, ↓zlle, ↓zeql, ↓zll, ↓if_pos, ↓if_neg, if_pos, if_neg, ↓zgd, zgd, zgdc, ↓zgd0, zgd0c, zcl0, ↓zbit, zbitc, ↓zbit1, ↓zbit0, nI_clamp, zaddl, zladd, zsubl, zlsub, zmull, zlmul, zdivl, nI_1, nI_add, nI_mulL, zand1, zand3, zand15, zand31, zand63, zand255, zand65535, zshr1, zshl7, zshl8, zshl9, zbit8, zbit16, ↓bnd_eq, bnd_eq, obnd_some, obnd3_some, obnd6_some, show i = 11 by omega]
  | succ m ih =>
    intro i kf hi hk
    obtain ⟨kf, rfl⟩ : ∃ k, kf = k + 1 := ⟨kf - 1, by omega⟩
    show FX7_sum_4b _ nf _ _ _ _ _ _ = _
    unfold FX7_sum_4b
    have h1 := hb.2 i (by omega)
    have h2 := smS_lt b 0 i
    have h3 := hb.1
    simp (disch := first | omega | decide) only [zlt, zle, zeq, zltl, zllt, zlel, zlle, zeql, zll, ↓zlt, ↓zle, ↓zeq, ↓zltl, ↓zllt, ↓zlel, ↓zlle, ↓zeql, ↓zll, ↓if_pos, ↓if_neg, if_pos, if_neg, ↓zgd, zgd, zgdc, ↓zgd0, zgd0c, zcl0, ↓zbit, zbitc, ↓zbit1, ↓zbit0, nI_clamp, zaddl, zladd, zsubl, zlsub, zmull, zlmul, zdivl, nI_1, nI_add, nI_mulL, zand1, zand3, zand15, zand31, zand63, zand255, zand65535, zshr1, zshl7, zshl8, zshl9, zbit8, zbit16, ↓bnd_eq, bnd_eq, obnd_some, obnd3_some, obnd6_some, h1.1]
    have := ih (i + 1) kf (by omega) (by omega)
    rw [smS, Nat.zero_add] at this
    exact this
theorem FX7_sum_eq {nf : Nat} {ln : LN} {fi : FI} {ar : AR} {i0 : Nat} {b : Nat → Nat} (hb : SB ln ar i0 b) (hnf : 20 ≤ nf) : FX7_sum nf ln i0 fi ar = some (nI (smS b 0 11), fi, ar) := FX7_sum_loop hb 11 0 nf (by omega) (by omega)
theorem sm0 (d : Nat → Nat) (p : Nat) : smS (fun i => d (p + i)) 0 11 = smS d p 11 := sm_congr (d := d) (p := p) (fun i _ => by simp) 11 (Nat.le_refl _)
theorem allS {N i : Nat} {P : Nat → Prop} (hi : i < N) : (∀ j, i ≤ j → j < N → P j) ↔ P i ∧ ∀ j, i + 1 ≤ j → j < N → P j :=
  ⟨fun h => ⟨h i (Nat.le_refl _) hi, fun j h1 h2 => h j (by omega) h2⟩, fun h j h1 h2 => if e : j = i then e ▸ h.1 else h.2 j (by omega) h2⟩
abbrev shG (b : Nat → Nat) (lab : Nat) (i : Nat) : Prop := b i ≠ 32 → sgn (b i) ∧ (lab ≠ 0 ∨ i = 0 ∨ i = 8 ∨ b (i - 1) ≠ 32)
theorem FX7_asTold_loop {nf : Nat} {ln : LN} {fi : FI} {ar : AR} {i0 : Nat} {b : Nat → Nat} (hb : SB ln ar i0 b) {lab : Nat} (hlab : lab < 2) (hnf : 20 ≤ nf) : ∀ (m i kf : Nat), i + m = 11 → m < kf → ((∀ j, i ≤ j → j < 11 → shG b lab j) → FX7_asTold_15 nf ln i0 kf (nI lab) (nI i) fi ar = some (1, fi, ar)) ∧ (¬ (∀ j, i ≤ j → j < 11 → shG b lab j) → FX7_asTold_15 nf ln i0 kf (nI lab) (nI i) fi ar = some (0, fi, ar)) := by
  intro m
  induction m with
  | zero =>
    intro i kf hi hk
    obtain ⟨kf, rfl⟩ : ∃ k, kf = k + 1 := ⟨kf - 1, by omega⟩
    refine ⟨fun _ => ?_, fun h => absurd (fun j h1 h2 => by omega) h⟩
    show FX7_asTold_15b _ nf _ _ _ _ _ _ = _
    unfold FX7_asTold_15b
    simp (disch := first | omega | decide) only [zlt, zle, zeq, zltl, zllt, zlel, zlle, zeql, zll, ↓zlt, ↓zle, ↓zeq, ↓zltl, ↓zllt, ↓zlel, ↓zlle, ↓zeql, ↓zll, ↓if_pos, ↓if_neg, if_pos, if_neg, ↓zgd, zgd, zgdc, ↓zgd0, zgd0c, zcl0, ↓zbit, zbitc, ↓zbit1, ↓zbit0, nI_clamp, zaddl, zladd, zsubl, zlsub, zmull, zlmul, zdivl, nI_1, nI_add, nI_mulL, zand1, zand3, zand15, zand31, zand63, zand255, zand65535, zshr1, zshl7, zshl8, zshl9, zbit8, zbit16, ↓bnd_eq, bnd_eq, obnd_some, obnd3_some, obnd6_some]
  | succ m ih =>
    intro i kf hi hk
    obtain ⟨kf, rfl⟩ : ∃ k, kf = k + 1 := ⟨kf - 1, by omega⟩
    have g := ih (i + 1) kf (by omega) (by omega)
    have h1 := hb.2 i (by omega)
    have h3 := hb.1
    have em : i ≠ 0 → ar (40 + 2 * i0) (i - 1) = nI (b (i - 1)) ∧ b (i - 1) < 256 := fun h => hb.2 (i - 1) (by omega)
    have e : FX7_asTold_15 nf ln i0 (kf + 1) (nI lab) (nI i) fi ar = if shG b lab i then FX7_asTold_15 nf ln i0 kf (nI lab) (nI (i + 1)) fi ar else some (0, fi, ar) := by
      have key : ∀ t, t < 2 → (t = 0 ↔ (i = 0 ∨ i = 8 ∨ b (i - 1) ≠ 32)) → FX7_asTold_49 (FX7_asTold_15 nf ln i0 kf) nf ln i0 (nI lab) (nI i) (nI t) fi ar = if shG b lab i then FX7_asTold_15 nf ln i0 kf (nI lab) (nI (i + 1)) fi ar else some (0, fi, ar) := by
        intro t ht htt
        unfold FX7_asTold_49 FX7_asTold_83 FX7_asTold_81
        by_cases q1 : b i = 32
        · rw [if_pos (fun q => absurd q1 q)]
          simp (disch := first | omega | decide) only [zlt, zle, zeq, zltl, zllt, zlel, zlle, zeql, zll, ↓zlt, ↓zle, ↓zeq, ↓zltl, ↓zllt, ↓zlel, ↓zlle, ↓zeql, ↓zll, ↓if_pos, ↓if_neg, if_pos, if_neg, ↓zgd, zgd, zgdc, ↓zgd0, zgd0c, zcl0, ↓zbit, zbitc, ↓zbit1, ↓zbit0, nI_clamp, zaddl, zladd, zsubl, zlsub, zmull, zlmul, zdivl, nI_1, nI_add, nI_mulL, zand1, zand3, zand15, zand31, zand63, zand255, zand65535, zshr1, zshl7, zshl8, zshl9, zbit8, zbit16, ↓bnd_eq, bnd_eq, obnd_some, obnd3_some, obnd6_some, h1.1]
        · by_cases q2 : sgn (b i)
          · by_cases q3 : t = 0
            · rw [if_pos (fun _ => ⟨q2, Or.inr (htt.mp q3)⟩)]
              simp (disch := first | omega | decide) only [zlt, zle, zeq, zltl, zllt, zlel, zlle, zeql, zll, ↓zlt, ↓zle, ↓zeq, ↓zltl, ↓zllt, ↓zlel, ↓zlle, ↓zeql, ↓zll, ↓if_pos, ↓if_neg, if_pos, if_neg, ↓zgd, zgd, zgdc, ↓zgd0, zgd0c, zcl0, ↓zbit, zbitc, ↓zbit1, ↓zbit0, nI_clamp, zaddl, zladd, zsubl, zlsub, zmull, zlmul, zdivl, nI_1, nI_add, nI_mulL, zand1, zand3, zand15, zand31, zand63, zand255, zand65535, zshr1, zshl7, zshl8, zshl9, zbit8, zbit16, ↓bnd_eq, bnd_eq, obnd_some, obnd3_some, obnd6_some, h1.1, FX5_mayStandInShortName_eq, q2, nI1, if_true]
            · by_cases q4 : lab = 0
              · rw [if_neg (fun q => by have := (q q1).2; rcases this with w | w; exact w q4; exact q3 (htt.mpr w))]
                simp (disch := first | omega | decide) only [zlt, zle, zeq, zltl, zllt, zlel, zlle, zeql, zll, ↓zlt, ↓zle, ↓zeq, ↓zltl, ↓zllt, ↓zlel, ↓zlle, ↓zeql, ↓zll, ↓if_pos, ↓if_neg, if_pos, if_neg, ↓zgd, zgd, zgdc, ↓zgd0, zgd0c, zcl0, ↓zbit, zbitc, ↓zbit1, ↓zbit0, nI_clamp, zaddl, zladd, zsubl, zlsub, zmull, zlmul, zdivl, nI_1, nI_add, nI_mulL, zand1, zand3, zand15, zand31, zand63, zand255, zand65535, zshr1, zshl7, zshl8, zshl9, zbit8, zbit16, ↓bnd_eq, bnd_eq, obnd_some, obnd3_some, obnd6_some, h1.1, FX5_mayStandInShortName_eq, q2, nI1, if_true]
              · rw [if_pos (fun _ => ⟨q2, Or.inl q4⟩)]
                simp (disch := first | omega | decide) only [zlt, zle, zeq, zltl, zllt, zlel, zlle, zeql, zll, ↓zlt, ↓zle, ↓zeq, ↓zltl, ↓zllt, ↓zlel, ↓zlle, ↓zeql, ↓zll, ↓if_pos, ↓if_neg, if_pos, if_neg, ↓zgd, zgd, zgdc, ↓zgd0, zgd0c, zcl0, ↓zbit, zbitc, ↓zbit1, ↓zbit0, nI_clamp, zaddl, zladd, zsubl, zlsub, zmull, zlmul, zdivl, nI_1, nI_add, nI_mulL, zand1, zand3, zand15, zand31, zand63, zand255, zand65535, zshr1, zshl7, zshl8, zshl9, zbit8, zbit16, ↓bnd_eq, bnd_eq, obnd_some, obnd3_some, obnd6_some, h1.1, FX5_mayStandInShortName_eq, q2, nI1, if_true]
          · rw [if_neg (fun q => q2 (q q1).1)]
            simp (disch := first | omega | decide) only [zlt, zle, zeq, zltl, zllt, zlel, zlle, zeql, zll, ↓zlt, ↓zle, ↓zeq, ↓zltl, ↓zllt, ↓zlel, ↓zlle, ↓zeql, ↓zll, ↓if_pos, ↓if_neg, if_pos, if_neg, ↓zgd, zgd, zgdc, ↓zgd0, zgd0c, zcl0, ↓zbit, zbitc, ↓zbit1, ↓zbit0, nI_clamp, zaddl, zladd, zsubl, zlsub, zmull, zlmul, zdivl, nI_1, nI_add, nI_mulL, zand1, zand3, zand15, zand31, zand63, zand255, zand65535, zshr1, zshl7, zshl8, zshl9, zbit8, zbit16, ↓bnd_eq, bnd_eq, obnd_some, obnd3_some, obnd6_some, h1.1, FX5_mayStandInShortName_eq, q2, if_false]
      show FX7_asTold_15b _ nf _ _ _ _ _ _ = _
      unfold FX7_asTold_15b FX7_asTold_48
      by_cases q0 : i = 0
      · simp (disch := first | omega | decide) only [zlt, zle, zeq, zltl, zllt, zlel, zlle, zeql, zll, ↓zlt, ↓zle, ↓zeq, ↓zltl, ↓zllt, ↓zlel, ↓zlle, ↓zeql, ↓zll, ↓if_pos, ↓if_neg, if_pos, if_neg, ↓zgd, zgd, zgdc, ↓zgd0, zgd0c, zcl0, ↓zbit, zbitc, ↓zbit1, ↓zbit0, nI_clamp, zaddl, zladd, zsubl, zlsub, zmull, zlmul, zdivl, nI_1, nI_add, nI_mulL, zand1, zand3, zand15, zand31, zand63, zand255, zand65535, zshr1, zshl7, zshl8, zshl9, zbit8, zbit16, ↓bnd_eq, bnd_eq, obnd_some, obnd3_some, obnd6_some]
        exact key 0 (by omega) ⟨fun _ => Or.inl q0, fun _ => rfl⟩
      · by_cases q8 : i = 8
        · simp (disch := first | omega | decide) only [zlt, zle, zeq, zltl, zllt, zlel, zlle, zeql, zll, ↓zlt, ↓zle, ↓zeq, ↓zltl, ↓zllt, ↓zlel, ↓zlle, ↓zeql, ↓zll, ↓if_pos, ↓if_neg, if_pos, if_neg, ↓zgd, zgd, zgdc, ↓zgd0, zgd0c, zcl0, ↓zbit, zbitc, ↓zbit1, ↓zbit0, nI_clamp, zaddl, zladd, zsubl, zlsub, zmull, zlmul, zdivl, nI_1, nI_add, nI_mulL, zand1, zand3, zand15, zand31, zand63, zand255, zand65535, zshr1, zshl7, zshl8, zshl9, zbit8, zbit16, ↓bnd_eq, bnd_eq, obnd_some, obnd3_some, obnd6_some]
          exact key 0 (by omega) ⟨fun _ => Or.inr (Or.inl q8), fun _ => rfl⟩
        · have hm := em q0
          by_cases q32 : b (i - 1) = 32
          · simp (disch := first | omega | decide) only [zlt, zle, zeq, zltl, zllt, zlel, zlle, zeql, zll, ↓zlt, ↓zle, ↓zeq, ↓zltl, ↓zllt, ↓zlel, ↓zlle, ↓zeql, ↓zll, ↓if_pos, ↓if_neg, if_pos, if_neg, ↓zgd, zgd, zgdc, ↓zgd0, zgd0c, zcl0, ↓zbit, zbitc, ↓zbit1, ↓zbit0, nI_clamp, zaddl, zladd, zsubl, zlsub, zmull, zlmul, zdivl, nI_1, nI_add, nI_mulL, zand1, zand3, zand15, zand31, zand63, zand255, zand65535, zshr1, zshl7, zshl8, zshl9, zbit8, zbit16, ↓bnd_eq, bnd_eq, obnd_some, obnd3_some, obnd6_some, hm.1]
            exact key 1 (by omega) ⟨fun h => by omega, fun h => by omega⟩
          · simp (disch := first | omega | decide) only [zlt, zle, zeq, zltl, zllt, zlel, zlle, zeql, zll, ↓zlt, ↓zle, ↓zeq, ↓zltl, ↓zllt, ↓zlel, ↓zlle, ↓zeql, ↓zll, ↓if_pos, ↓if_neg, if_pos, if_neg, ↓zgd, zgd, zgdc, ↓zgd0, zgd0c, zcl0, ↓zbit, zbitc, ↓zbit1, ↓zbit0, nI_clamp, zaddl, zladd, zsubl, zlsub, zmull, zlmul, zdivl, nI_1, nI_add, nI_mulL, zand1, zand3, zand15, zand31, zand63, zand255, zand65535, zshr1, zshl7, zshl8, zshl9, zbit8, zbit16, ↓bnd_eq, bnd_eq, obnd_some, obnd3_some, obnd6_some, hm.1]
            exact key 0 (by omega) ⟨fun _ => Or.inr (Or.inr q32), fun _ => rfl⟩
    rw [e]
    by_cases q : shG b lab i
    · rw [if_pos q]
      exact ⟨fun h => g.1 ((allS (by omega)).mp h).2, fun h => g.2 (fun h2 => h ((allS (by omega)).mpr ⟨q, h2⟩))⟩
    · rw [if_neg q]
      exact ⟨fun h => absurd (h i (Nat.le_refl _) (by omega)) q, fun _ => rfl⟩
theorem FX7_asTold_eq {nf : Nat} {ln : LN} {fi : FI} {ar : AR} {i0 : Nat} {d : Nat → Nat} {p : Nat} (hb : SB ln ar i0 (fun i => d (p + i))) (lab : Prop) [Decidable lab] (hnf : 20 ≤ nf) : FX7_asTold nf ln i0 fi ar (if lab then 1 else 0) = some ((if shOK d p lab then 1 else 0), fi, ar) := by
  have h3 := hb.1
  have h0 := hb.2 0 (by omega)
  rw [zif0]
  have g := FX7_asTold_loop (nf := nf) (fi := fi) hb (lab := if lab then 1 else 0) (by split <;> omega) hnf 11 0 nf (by omega) (by omega)
  have hiff : shOK d p lab ↔ d p ≠ 32 ∧ ∀ j, 0 ≤ j → j < 11 → shG (fun i => d (p + i)) (if lab then 1 else 0) j := by
    constructor
    · rintro ⟨a1, a2⟩
      refine ⟨a1, fun j _ hj hb => ?_⟩
      obtain ⟨w1, w2⟩ := a2 j hj hb
      refine ⟨w1, ?_⟩
      rcases w2 with w | w | w | w
      · left; rw [if_pos w]; decide
      · exact Or.inr (Or.inl w)
      · exact Or.inr (Or.inr (Or.inl w))
      · by_cases hj0 : j = 0
        · exact Or.inr (Or.inl hj0)
        · refine Or.inr (Or.inr (Or.inr ?_))
          rw [show p + j - 1 = p + (j - 1) by omega] at w
          exact w
    · rintro ⟨a1, a2⟩
      refine ⟨a1, fun j hj hb => ?_⟩
      obtain ⟨w1, w2⟩ := a2 j (Nat.zero_le _) hj hb
      refine ⟨w1, ?_⟩
      rcases w2 with w | w | w | w
      · left
        by_cases hl : lab
        · exact hl
        · rw [if_neg hl] at w; exact absurd rfl w
      · exact Or.inr (Or.inl w)
      · exact Or.inr (Or.inr (Or.inl w))
      · by_cases hj0 : j = 0
        · exact Or.inr (Or.inl hj0)
        · refine Or.inr (Or.inr (Or.inr ?_))
          rw [show p + j - 1 = p + (j - 1) by omega]
          exact w
  have e0 : ar (40 + 2 * i0) 0 = nI (d p) := h0.1
  have l0 : d p < 256 := h0.2
  unfold FX7_asTold
  by_cases q0 : d p = 32
  · rw [if_neg (fun q : shOK d p lab => q.1 q0)]
    simp (disch := first | omega | decide) only [zlt, zle, zeq, zltl, zllt, zlel, zlle, zeql, zll, ↓zlt, ↓zle, ↓zeq, ↓zltl, ↓zllt, ↓zlel, ↓zlle, ↓zeql, ↓zll, ↓if_pos, ↓if_neg, if_pos, if_neg, ↓zgd, zgd, zgdc, ↓zgd0, zgd0c, zcl0, ↓zbit, zbitc, ↓zbit1, ↓zbit0, nI_clamp, zaddl, zladd, zsubl, zlsub, zmull, zlmul, zdivl, nI_1, nI_add, nI_mulL, zand1, zand3, zand15, zand31, zand63, zand255, zand65535, zshr1, zshl7, zshl8, zshl9, zbit8, zbit16, ↓bnd_eq, bnd_eq, obnd_some, obnd3_some, obnd6_some, e0]
  · simp (disch := first | omega | decide) only [zlt, zle, zeq, zltl, zllt, zlel, zlle, zeql, zll, ↓zlt, ↓zle, ↓zeq, ↓zltl, ↓zllt, ↓zlel, ↓zlle, ↓zeql, ↓zll, ↓if_pos, ↓if_neg, if_pos, if_neg, ↓zgd, zgd, zgdc, ↓zgd0, zgd0c, zcl0, ↓zbit, zbitc, ↓zbit1, ↓zbit0, nI_clamp, zaddl, zladd, zsubl, zlsub, zmull, zlmul, zdivl, nI_1, nI_add, nI_mulL, zand1, zand3, zand15, zand31, zand63, zand255, zand65535, zshr1, zshl7, zshl8, zshl9, zbit8, zbit16, ↓bnd_eq, bnd_eq, obnd_some, obnd3_some, obnd6_some, e0]
    by_cases q : ∀ j, 0 ≤ j → j < 11 → shG (fun i => d (p + i)) (if lab then 1 else 0) j
    · rw [show FX7_asTold_15 nf ln i0 nf (nI (if lab then 1 else 0)) 0 fi ar = _ from g.1 q, if_pos (hiff.mpr ⟨q0, q⟩)]
    · rw [show FX7_asTold_15 nf ln i0 nf (nI (if lab then 1 else 0)) 0 fi ar = _ from g.2 q, if_neg (fun w => q (hiff.mp w).2)]
