/-! the class looks for twins, parts and points -/
/-- the lengths that never change -/
def LNC (ln : LN) (n : Nat) : Prop := ln 0 = 128 * n ∧ ln 1 = 4096 ∧ ln 2 = 5 ∧ ln 3 = n / 2 + 2 ∧ ln 4 = n / 2 + 2 ∧ ln 5 = n / 2 + 2 ∧ (∀ i, i < 3 → ln (10 + 4 * i) = n / 2) ∧ (∀ j, j < 4 → ln (30 + j) = 260) ∧ ∀ s, s < 2 → ln (40 + 2 * s) = 11 ∧ ln (41 + 2 * s) = 6
theorem LNC.gr {ln ln' : LN} {n i kc ks : Nat} (h : LNC ln n) (hg : GR i ln ln' kc ks) (hi : i < 3) : LNC ln' n := by
  obtain ⟨h0, h1, h2, h3, h4, h5, h6, h7, h8⟩ := h
  refine ⟨?_, ?_, ?_, ?_, ?_, ?_, fun j hj => ?_, fun j hj => ?_, fun j hj => ⟨?_, ?_⟩⟩
  · rw [hg.off (by omega) (by omega) (by omega)]; exact h0
  · rw [hg.off (by omega) (by omega) (by omega)]; exact h1
  · rw [hg.off (by omega) (by omega) (by omega)]; exact h2
  · rw [hg.off (by omega) (by omega) (by omega)]; exact h3
  · rw [hg.off (by omega) (by omega) (by omega)]; exact h4
  · rw [hg.off (by omega) (by omega) (by omega)]; exact h5
  · rw [hg.off (by omega) (by omega) (by omega)]; exact h6 j hj
  · rw [hg.off (by omega) (by omega) (by omega)]; exact h7 j hj
  · rw [hg.off (by omega) (by omega) (by omega)]; exact (h8 j hj).1
  · rw [hg.off (by omega) (by omega) (by omega)]; exact (h8 j hj).2
theorem fo_bytes {d : Nat → Nat} {p q : Nat} (hp : ∀ i, i < 4 → d (p + i) < 256) (hq : ∀ i, i < 4 → d (q + i) < 256) : fo d p = fo d q ↔ ∀ i, i < 4 → d (p + i) = d (q + i) := by
  have p0 := hp 0 (by omega); have p1 := hp 1 (by omega); have p2 := hp 2 (by omega); have p3 := hp 3 (by omega)
  have q0 := hq 0 (by omega); have q1 := hq 1 (by omega); have q2 := hq 2 (by omega); have q3 := hq 3 (by omega)
  rw [Nat.add_zero] at p0 q0
  unfold fo tw
  rw [show p + 2 + 1 = p + 3 from rfl, show q + 2 + 1 = q + 3 from rfl]
  constructor
  · intro h i hi
    rcases (show i = 0 ∨ i = 1 ∨ i = 2 ∨ i = 3 by omega) with e | e | e | e <;> subst e
    · rw [Nat.add_zero, Nat.add_zero]; omega
    · omega
    · omega
    · omega
  · intro h
    have a0 := h 0 (by omega); have a1 := h 1 (by omega); have a2 := h 2 (by omega); have a3 := h 3 (by omega)
    rw [Nat.add_zero, Nat.add_zero] at a0
    omega
theorem fo_bytes3 {d : Nat → Nat} {p q : Nat} (hp : ∀ i, i < 4 → d (p + i) < 256) (hq : ∀ i, i < 4 → d (q + i) < 256) : fo d p % 16777216 = fo d q % 16777216 ↔ ∀ i, i < 3 → d (p + i) = d (q + i) := by
  have p0 := hp 0 (by omega); have p1 := hp 1 (by omega); have p2 := hp 2 (by omega); have p3 := hp 3 (by omega)
  have q0 := hq 0 (by omega); have q1 := hq 1 (by omega); have q2 := hq 2 (by omega); have q3 := hq 3 (by omega)
  rw [Nat.add_zero] at p0 q0
  unfold fo tw
  rw [show p + 2 + 1 = p + 3 from rfl, show q + 2 + 1 = q + 3 from rfl]
  constructor
  · intro h i hi
    rcases (show i = 0 ∨ i = 1 ∨ i = 2 by omega) with e | e | e <;> subst e
    · rw [Nat.add_zero, Nat.add_zero]; omega
    · omega
    · omega
  · intro h
    have a0 := h 0 (by omega); have a1 := h 1 (by omega); have a2 := h 2 (by omega)
    rw [Nat.add_zero, Nat.add_zero] at a0
    omega
theorem sameShort_eq {nf : Nat} {ln : LN} {fi : FI} {ar : AR} {d : Nat → Nat} (hd : CD ln ar d) {p q : Nat} (hp : p % 4 = 0) (hq : q % 4 = 0) (hp2 : p + 32 ≤ 4 * ln 0) (hq2 : q + 32 ≤ 4 * ln 0) : FX3_sameShortName nf ln fi ar (nI p) (nI q) = some ((if sm11 d p q then 1 else 0), fi, ar) := by
  have hl0 := hd.1
  have bp : ∀ i, i < 32 → d (p + i) < 256 := fun i hi => hd.lt (by omega)
  have bq : ∀ i, i < 32 → d (q + i) < 256 := fun i hi => hd.lt (by omega)
  have f0 := foC_lt hd (show p + 3 < 4 * ln 0 by omega)
  have f1 := foC_lt hd (show q + 3 < 4 * ln 0 by omega)
  have f2 := foC_lt hd (show p + 4 + 3 < 4 * ln 0 by omega)
  have f3 := foC_lt hd (show q + 4 + 3 < 4 * ln 0 by omega)
  have f4 := foC_lt hd (show p + 8 + 3 < 4 * ln 0 by omega)
  have f5 := foC_lt hd (show q + 8 + 3 < 4 * ln 0 by omega)
  have e1 := fo_bytes (d := d) (p := p) (q := q) (fun i hi => bp i (by omega)) (fun i hi => bq i (by omega))
  have e2 := fo_bytes (d := d) (p := p + 4) (q := q + 4) (fun i hi => by rw [Nat.add_assoc]; exact bp _ (by omega)) (fun i hi => by rw [Nat.add_assoc]; exact bq _ (by omega))
  have e3 := fo_bytes3 (d := d) (p := p + 8) (q := q + 8) (fun i hi => by rw [Nat.add_assoc]; exact bp _ (by omega)) (fun i hi => by rw [Nat.add_assoc]; exact bq _ (by omega))
  have hiff : sm11 d p q ↔ fo d p = fo d q ∧ fo d (p + 4) = fo d (q + 4) ∧ fo d (p + 8) % 16777216 = fo d (q + 8) % 16777216 := by
    rw [e1, e2, e3]
    constructor
    · intro h
      exact ⟨fun i hi => h i (by omega), fun i hi => by rw [Nat.add_assoc, Nat.add_assoc]; exact h (4 + i) (by omega), fun i hi => by rw [Nat.add_assoc, Nat.add_assoc]; exact h (8 + i) (by omega)⟩
    · rintro ⟨a, b, c⟩ i hi
      by_cases h1 : i < 4
      · exact a i h1
      · by_cases h2 : i < 8
        · have := b (i - 4) (by omega)
          rwa [Nat.add_assoc, Nat.add_assoc, show 4 + (i - 4) = i by omega] at this
        · have := c (i - 8) (by omega)
          rwa [Nat.add_assoc, Nat.add_assoc, show 8 + (i - 8) = i by omega] at this
  have em : ∀ a : Nat, a < 4294967296 → nI a &&& 16777215 = nI (a % 16777216) := fun a h => pk_andN h 24 (by decide)
  unfold FX3_sameShortName FX3_sameShortName_59 FX3_sameShortName_60
  by_cases q1 : fo d p = fo d q
  · by_cases q2 : fo d (p + 4) = fo d (q + 4)
    · by_cases q3 : fo d (p + 8) % 16777216 = fo d (q + 8) % 16777216
      · rw [if_pos (hiff.mpr ⟨q1, q2, q3⟩)]
        simp (disch := first | omega | decide) only [zlt, zle, zeq, zltl, zllt, zlel, zlle, zeql, zll, ↓zlt, ↓zle, ↓zeq, ↓zltl, ↓zllt, ↓zlel, ↓zlle, ↓zeql, ↓zll, ↓if_pos, ↓if_neg, if_pos, if_neg, ↓zgd, zgd, zgdc, ↓zgd0, zgd0c, zcl0, ↓zbit, zbitc, ↓zbit1, ↓zbit0, nI_clamp, zaddl, zladd, zsubl, zlsub, zmull, zlmul, zdivl, nI_1, nI_add, nI_mulL, zand1, zand3, zand15, zand31, zand63, zand255, zand65535, zshr1, zshl7, zshl8, zshl9, zbit8, zbit16, ↓bnd_eq, bnd_eq, obnd_some, obnd3_some, obnd6_some, FX3_four_eq hd, em]
      · rw [if_neg (fun w => q3 (hiff.mp w).2.2)]
        simp (disch := first | omega | decide) only [zlt, zle, zeq, zltl, zllt, zlel, zlle, zeql, zll, ↓zlt, ↓zle, ↓zeq, ↓zltl, ↓zllt, ↓zlel, ↓zlle, ↓zeql, ↓zll, ↓if_pos, ↓if_neg, if_pos, if_neg, ↓zgd, zgd, zgdc, ↓zgd0, zgd0c, zcl0, ↓zbit, zbitc, ↓zbit1, ↓zbit0, nI_clamp, zaddl, zladd, zsubl, zlsub, zmull, zlmul, zdivl, nI_1, nI_add, nI_mulL, zand1, zand3, zand15, zand31, zand63, zand255, zand65535, zshr1, zshl7, zshl8, zshl9, zbit8, zbit16, ↓bnd_eq, bnd_eq, obnd_some, obnd3_some, obnd6_some, FX3_four_eq hd, em]
    · rw [if_neg (fun w => q2 (hiff.mp w).2.1)]
      simp (disch := first | omega | decide) only [zlt, zle, zeq, zltl, zllt, zlel, zlle, zeql, zll, ↓zlt, ↓zle, ↓zeq, ↓zltl, ↓zllt, ↓zlel, ↓zlle, ↓zeql, ↓zll, ↓if_pos, ↓if_neg, if_pos, if_neg, ↓zgd, zgd, zgdc, ↓zgd0, zgd0c, zcl0, ↓zbit, zbitc, ↓zbit1, ↓zbit0, nI_clamp, zaddl, zladd, zsubl, zlsub, zmull, zlmul, zdivl, nI_1, nI_add, nI_mulL, zand1, zand3, zand15, zand31, zand63, zand255, zand65535, zshr1, zshl7, zshl8, zshl9, zbit8, zbit16, ↓bnd_eq, bnd_eq, obnd_some, obnd3_some, obnd6_some, FX3_four_eq hd, em]
  · rw [if_neg (fun w => q1 (hiff.mp w).1)]
    simp (disch := first | omega | decide) only [zlt, zle, zeq, zltl, zllt, zlel, zlle, zeql, zll, ↓zlt, ↓zle, ↓zeq, ↓zltl, ↓zllt, ↓zlel, ↓zlle, ↓zeql, ↓zll, ↓if_pos, ↓if_neg, if_pos, if_neg, ↓zgd, zgd, zgdc, ↓zgd0, zgd0c, zcl0, ↓zbit, zbitc, ↓zbit1, ↓zbit0, nI_clamp, zaddl, zladd, zsubl, zlsub, zmull, zlmul, zdivl, nI_1, nI_add, nI_mulL, zand1, zand3, zand15, zand31, zand63, zand255, zand65535, zshr1, zshl7, zshl8, zshl9, zbit8, zbit16, ↓bnd_eq, bnd_eq, obnd_some, obnd3_some, obnd6_some, FX3_four_eq hd, em]
/-- a slot of a directory on the class's disk -/
theorem slot_in {G : Geo} {l : List Nat} {s : Nat} (hG : GOK G) (hl : clu G l) (hs : s < l.length * (16 * G.c)) : sa G l s % 4 = 0 ∧ sa G l s + 32 ≤ 512 * G.n ∧ 512 * G.a ≤ sa G l s ∧ s < 65536 := by
  have b := hG.b
  have hk := hl.len
  have hS : l.length * (16 * G.c) ≤ 512 * 128 := Nat.mul_le_mul (by omega) (by omega)
  obtain ⟨hq, e⟩ := sa_eq (show 1 ≤ G.c by omega) hs
  have hm := Nat.mod_lt s (show 0 < 16 * G.c by omega)
  have hin := pl_in hG (hl.2 _ (List.getElem_mem hq))
  have hp : pl G l[s / (16 * G.c)] % 4 = 0 := by unfold pl; omega
  rw [e]
  omega
theorem nm_bound {d A : Nat → Nat} {s np : Nat} (hnp : np ≤ 20) (h0 : ∀ i, i < 32 → d (A s + i) < 256) (hp : ∀ j, j < np → ∀ i, i < 32 → d (A (s - 1 - j) + i) < 256) : (nm d A s np).length ≤ 260 ∧ ∀ x, x ∈ nm d A s np → x < 65536 := by
  unfold nm
  by_cases e : np = 0
  · rw [if_pos e]
    have h1 := shw_len d (A s) 11
    rw [if_pos (by omega)] at h1
    refine ⟨by omega, ?_⟩
    have key : ∀ q, q ≤ 11 → ∀ x, x ∈ shw d (A s) q → x < 65536 := by
      intro q
      induction q with
      | zero => intro _ x hx; exact absurd hx (by simp [shw])
      | succ q ih =>
        intro hq x hx
        rw [shw] at hx
        rcases List.mem_append.mp hx with w | w
        · exact ih (by omega) x w
        · rcases List.mem_append.mp w with w | w
          · by_cases c : q = 8 ∧ d (A s + 8) ≠ 32
            · rw [if_pos c] at w; rw [List.mem_singleton.mp w]; decide
            · rw [if_neg c] at w; exact absurd w (by simp)
          · by_cases c : d (A s + q) = 32
            · rw [if_pos c] at w; exact absurd w (by simp)
            · rw [if_neg c] at w; rw [List.mem_singleton.mp w]; have := h0 q (by omega); omega
    exact key 11 (Nat.le_refl _)
  · rw [if_neg e]
    have hz := (zl_le (nU d A s) (13 * np) 0).2
    refine ⟨by rw [List.length_map, List.length_range]; omega, fun x hx => ?_⟩
    obtain ⟨u, hu, rfl⟩ := List.mem_map.mp hx
    have := List.mem_range.mp hu
    exact nU_lt (fun i hi => hp (u / 13) (by omega) i hi)
theorem nm_of {ln : LN} {ar : AR} {G : Geo} {d : Nat → Nat} {l : List Nat} {s np : Nat} (hG : GOK G) (hd : CD ln ar d) (hl0 : ln 0 = 128 * G.n) (hl : clu G l) (hs : s < l.length * (16 * G.c)) (hnp : np ≤ 20) : (nm d (sa G l) s np).length ≤ 260 ∧ ∀ x, x ∈ nm d (sa G l) s np → x < 65536 :=
  nm_bound hnp (fun i hi => hd.lt (by have := slot_in hG hl hs; omega)) (fun j hj i hi => hd.lt (by have := slot_in hG hl (show s - 1 - j < l.length * (16 * G.c) by omega); omega))
/-- the hash that the checker keeps of an item -/
def hsI (d A : Nat → Nat) (e : Nat × Nat) : Int32 := hsh (nm d A e.1 e.2) (nI (nm d A e.1 e.2).length)
theorem DC.off {fi fi' : FI} {ar ar' : AR} {i0 : Nat} {G : Geo} {l : List Nat} (h : DC fi ar i0 G l) {S T : List Nat} (hf : offF S fi fi') (ha : offAs T ar ar') (hS : ∀ j, j ∈ S → j ≠ 21 + 10 * i0 ∧ j ≠ 23 + 10 * i0 ∧ j ≠ 24 + 10 * i0 ∧ j ≠ 25 + 10 * i0) (hT : ∀ j, j ∈ T → j ≠ 10 + 4 * i0) : DC fi' ar' i0 G l := by
  refine ⟨?_, ?_, ?_, fun j hj => ?_, ?_⟩
  · rw [hf _ (fun q => (hS _ q).2.1 rfl)]; exact h.1
  · rw [hf _ (fun q => (hS _ q).1 rfl)]; exact h.2.1
  · rw [hf _ (fun q => (hS _ q).2.2.2 rfl)]; exact h.2.2.1
  · rw [ha _ (fun q => (hT _ q) rfl)]; exact h.2.2.2.1 j hj
  · rw [hf _ (fun q => (hS _ q).2.2.1 rfl)]; exact h.2.2.2.2
theorem IC.off {fi fi' : FI} {ar ar' : AR} {i0 : Nat} {its : List (Nat × Nat)} {hs : Nat × Nat → Int32} (h : IC fi ar i0 its hs) {S T : List Nat} (hf : offF S fi fi') (ha : offAs T ar ar') (hS : ∀ j, j ∈ S → j ≠ 20 + 10 * i0) (hT : ∀ j, j ∈ T → j ≠ 11 + 4 * i0 ∧ j ≠ 12 + 4 * i0 ∧ j ≠ 13 + 4 * i0) : IC fi' ar' i0 its hs := by
  refine ⟨?_, fun q hq => ?_⟩
  · rw [hf _ (fun q => (hS _ q) rfl)]; exact h.1
  · rw [ha _ (fun q => (hT _ q).1 rfl), ha _ (fun q => (hT _ q).2.1 rfl), ha _ (fun q => (hT _ q).2.2 rfl)]; exact h.2 q hq
theorem CW.off {ln : LN} {fi fi' : FI} {ar ar' : AR} {G : Geo} {d : Nat → Nat} (h : CW ln fi ar G d) {S T : List Nat} (hf : offF S fi fi') (ha : offAs T ar ar') (hS : ∀ j, j ∈ S → j ∉ [2, 4, 5, 6, 7, 8, 9, 10]) (hT : ∀ j, j ∈ T → j ≠ 0) : CW ln fi' ar' G d := by
  refine ⟨⟨h.1.1, fun p hp => ?_⟩, ?_, h.2.2⟩
  · rw [ha 0 (fun q => hT 0 q rfl)]; exact h.1.2 p hp
  · have e : ∀ j, j ∈ [2, 4, 5, 6, 7, 8, 9, 10] → fi' j = fi j := fun j hj => hf j (fun q => hS j q hj)
    unfold CG
    rw [e 2 (by simp), e 4 (by simp), e 5 (by simp), e 6 (by simp), e 7 (by simp), e 8 (by simp), e 9 (by simp), e 10 (by simp)]
    exact h.2.1
theorem NB.off {fi fi' : FI} {ar ar' : AR} {j : Nat} {l : List Nat} (h : NB fi ar j l) {S T : List Nat} (hf : offF S fi fi') (ha : offAs T ar ar') (hS : 60 + j ∉ S) (hT : 30 + j ∉ T) : NB fi' ar' j l := ⟨by rw [hf _ hS]; exact h.1, fun i hi => by rw [ha _ hT]; exact h.2 i hi⟩
theorem offA.as {k : Nat} {a b : AR} (h : offA k a b) : offAs [k] a b := fun j hj => h j (fun e => hj (by rw [e]; simp))
theorem isTwin_loop {nf : Nat} {ln : LN} {G : Geo} {d : Nat → Nat} {l : List Nat} {its : List (Nat × Nat)} {N : List Nat} {L p : Nat} (hl : clu G l) (hL : LK ln 2 L) (hLC : LNC ln G.n) (hle : its.length ≤ L) (hp : p % 4 = 0 ∧ p + 32 ≤ 512 * G.n) (hits : ∀ e, e ∈ its → e.1 < l.length * (16 * G.c) ∧ e.2 ≤ 20 ∧ e.2 ≤ e.1) (hN : N.length ≤ 260 ∧ ∀ x, x ∈ N → x < 65536) (hnf : 600 ≤ nf) : ∀ (m q kf : Nat) (fi : FI) (ar : AR), CW ln fi ar G d → DC fi ar 2 G l → IC fi ar 2 its (hsI d (sa G l)) → NB fi ar 2 N → q + m = its.length → m < kf → ∃ fi' ar', FX0_isTwin_2 nf ln kf (nI p) (hsh N (nI N.length)) (nI q) fi ar = some ((if ∃ t, t < its.length ∧ q ≤ t ∧ (sm11 d p (sa G l (its.getD t (0, 0)).1) ∨ alk N (nm d (sa G l) (its.getD t (0, 0)).1 (its.getD t (0, 0)).2)) then 1 else 0), fi', ar') ∧ offF [63] fi fi' ∧ offAs [33] ar ar' := by
  obtain ⟨c0, c1, c2, c3, c4, c5, c6, c7, c8⟩ := id hLC
  have c18 := c6 2 (by omega)
  have c32 := c7 2 (by omega)
  have c33 := c7 3 (by omega)
  intro m
  induction m with
  | zero =>
    intro q kf fi ar h hD hI hNB hq hk
    obtain ⟨kf, rfl⟩ : ∃ k, kf = k + 1 := ⟨kf - 1, by omega⟩
    refine ⟨fi, ar, ?_, offF.rf, offAs.rf⟩
    rw [if_neg (fun w => by obtain ⟨t, t1, t2, _⟩ := w; omega)]
    rw [show FX0_isTwin_2 nf ln (kf + 1) = FX0_isTwin_2b (FX0_isTwin_2 nf ln kf) nf ln from rfl]
    unfold FX0_isTwin_2b
    have hL5 := hL.2.2.2.2
    simp (disch := first | omega | decide) only [zlt, zle, zeq, zltl, zllt, zlel, zlle, zeql, zll, ↓zlt, ↓zle, ↓zeq, ↓zltl, ↓zllt, ↓zlel, ↓zlle, ↓zeql, ↓zll, ↓if_pos, ↓if_neg, if_pos, if_neg, ↓zgd, zgd, zgdc, ↓zgd0, zgd0c, zcl0, ↓zbit, zbitc, ↓zbit1, ↓zbit0, nI_clamp, zaddl, zladd, zsubl, zlsub, zmull, zlmul, zdivl, nI_1, nI_add, nI_mulL, zand1, zand3, zand15, zand31, zand63, zand255, zand65535, zshr1, zshl7, zshl8, zshl9, zbit8, zbit16, ↓bnd_eq, bnd_eq, obnd_some, obnd3_some, obnd6_some, hI.1]
  | succ m ih =>
    intro q kf fi ar h hD hI hNB hq hk
    obtain ⟨kf, rfl⟩ : ∃ k, kf = k + 1 := ⟨kf - 1, by omega⟩
    have b := h.2.2.1.b
    have hkl := hl.len
    have hkn : G.k ≤ G.n / 2 := by
      have : G.k * 2 ≤ G.k * G.c := Nat.mul_le_mul_left _ (by omega)
      omega
    have hL5 := hL.2.2.2.2
    have hq2 : q < its.length := by omega
    obtain ⟨e, he⟩ : ∃ e, e = its.getD q (0, 0) := ⟨_, rfl⟩
    have hem : e ∈ its := by
      rw [he, List.getD_eq_getElem?_getD, List.getElem?_eq_getElem hq2]; exact List.getElem_mem hq2
    have hei := hits e hem
    have hsl := slot_in h.2.2.1 hl hei.1
    have step : ∀ (fi1 : FI) (ar1 : AR), offF [63] fi fi1 → offAs [33] ar ar1 → ¬ (sm11 d p (sa G l e.1) ∨ alk N (nm d (sa G l) e.1 e.2)) → ∃ fi' ar', FX0_isTwin_2 nf ln kf (nI p) (hsh N (nI N.length)) (nI (q + 1)) fi1 ar1 = some ((if ∃ t, t < its.length ∧ q ≤ t ∧ (sm11 d p (sa G l (its.getD t (0, 0)).1) ∨ alk N (nm d (sa G l) (its.getD t (0, 0)).1 (its.getD t (0, 0)).2)) then 1 else 0), fi', ar') ∧ offF [63] fi fi' ∧ offAs [33] ar ar' := by
      intro fi1 ar1 hf1 ha1 hno
      obtain ⟨fi', ar', r1, r2, r3⟩ := ih (q + 1) kf fi1 ar1 (h.off hf1 ha1 (by simp) (by simp)) (hD.off hf1 ha1 (by simp) (by simp)) (hI.off hf1 ha1 (by simp) (by simp)) (hNB.off hf1 ha1 (by simp) (by simp)) (by omega) (by omega)
      refine ⟨fi', ar', ?_, hf1.tr r2, ha1.tr r3⟩
      rw [r1]
      have hiff : (∃ t, t < its.length ∧ q + 1 ≤ t ∧ (sm11 d p (sa G l (its.getD t (0, 0)).1) ∨ alk N (nm d (sa G l) (its.getD t (0, 0)).1 (its.getD t (0, 0)).2))) ↔ (∃ t, t < its.length ∧ q ≤ t ∧ (sm11 d p (sa G l (its.getD t (0, 0)).1) ∨ alk N (nm d (sa G l) (its.getD t (0, 0)).1 (its.getD t (0, 0)).2))) := by
        constructor
        · rintro ⟨t, a, b, c⟩; exact ⟨t, a, by omega, c⟩
        · rintro ⟨t, a, b, c⟩
          by_cases ht : t = q
          · rw [ht, ← he] at c; exact absurd c hno
          · exact ⟨t, a, by omega, c⟩
      rw [iteC hiff (fun _ => rfl)]
    have hso := slotOf_eq (nf := nf) hI hL hle hq2
    have hpo := partsOf_eq (nf := nf) hI hL hle hq2
    have hho := hashOf_eq (nf := nf) hI hL hle hq2
    rw [← he] at hso hpo hho
    have hsa := slotAddress_eq (nf := nf) (ln := ln) h.2.2.1 hl hD (by omega) hei.1
    have hss := sameShort_eq (nf := nf) (fi := fi) h.1 hp.1 hsl.1 (by omega) (by omega) (p := p) (q := sa G l e.1)
    have unf : FX0_isTwin_2 nf ln (kf + 1) (nI p) (hsh N (nI N.length)) (nI q) fi ar = br ((if sm11 d p (sa G l e.1) then (1 : Int32) else 0) = 0) (obnd3 (some (hsI d (sa G l) e, fi, ar)) fun r19 fi17 ar18 => br (r19 = hsh N (nI N.length)) (obnd3 (FX2_partsOf nf ln 2 fi17 ar18 (nI q)) fun r24 fi22 ar23 => obnd3 (FX6_read nf ln 3 2 fi22 ar23 (nI e.1) r24) fun r28 fi26 ar27 => obnd3 (FX6_isAlike nf ln 2 3 fi26 ar27) fun r32 fi30 ar31 => br (r32 = 0) (FX0_isTwin_94 (FX0_isTwin_2 nf ln kf) nf ln (nI p) (hsh N (nI N.length)) (nI q) fi30 ar31) (some (1, fi30, ar31))) (FX0_isTwin_94 (FX0_isTwin_2 nf ln kf) nf ln (nI p) (hsh N (nI N.length)) (nI q) fi17 ar18)) (some (1, fi, ar)) := by
      rw [show FX0_isTwin_2 nf ln (kf + 1) = FX0_isTwin_2b (FX0_isTwin_2 nf ln kf) nf ln from rfl]
      unfold FX0_isTwin_2b
      rw [hI.1, zle (by omega) (by omega), if_neg (by omega), hso, obnd3_some, hsa, obnd3_some, hss, obnd3_some, hho]
    rw [unf]
    by_cases q1 : sm11 d p (sa G l e.1)
    · rw [if_pos q1, brF (by decide)]
      refine ⟨fi, ar, ?_, offF.rf, offAs.rf⟩
      rw [if_pos ⟨q, hq2, Nat.le_refl _, Or.inl (by rw [← he]; exact q1)⟩]
    · rw [if_neg q1, brT rfl, obnd3_some]
      by_cases q2 : hsI d (sa G l) e = hsh N (nI N.length)
      · rw [brT q2, hpo, obnd3_some]
        obtain ⟨fi1, ar1, r1, r2, r3, r4, r5⟩ := read_ok (nf := nf) (i1 := 2) (j := 3) h.2.2.1 h.1 hl (by omega) (by omega) (by omega) c33 c0 hei.2.1 hei.2.2 hei.1 hnf hD
        have hnmb := nm_of h.2.2.1 h.1 c0 hl hei.1 hei.2.1
        have hNB1 := hNB.off r4 r5.as (by simp) (by simp)
        rw [r1, obnd3_some, alike_eq hNB1 r2 hN.2 hnmb.2 c32 c33 hN.1 hnmb.1 (by omega), obnd3_some]
        by_cases q3 : alk N (nm d (sa G l) e.1 e.2)
        · rw [if_pos q3, brF (by decide)]
          refine ⟨fi1, ar1, ?_, r4, r5.as⟩
          rw [if_pos ⟨q, hq2, Nat.le_refl _, Or.inr (by rw [← he]; exact q3)⟩]
        · rw [if_neg q3, brT rfl]
          unfold FX0_isTwin_94
          rw [bnd_eq, nI_1]
          exact step fi1 ar1 r4 r5.as (fun w => w.elim q1 q3)
      · rw [brF q2]
        unfold FX0_isTwin_94
        rw [bnd_eq, nI_1]
        refine step fi ar offF.rf offAs.rf (fun w => w.elim q1 (fun w2 => q2 ?_))
        unfold hsI
        rw [hsh_alk _ _ _ w2, alk_len w2]
theorem isTwin_eq {nf : Nat} {ln : LN} {fi : FI} {ar : AR} {G : Geo} {d : Nat → Nat} {l : List Nat} {its : List (Nat × Nat)} {s np : Nat} {L : Nat} (h : CW ln fi ar G d) (hl : clu G l) (hL : LK ln 2 L) (hLC : LNC ln G.n) (hle : its.length ≤ L) (hs : s < l.length * (16 * G.c)) (hnp : np ≤ 20) (hits : ∀ e, e ∈ its → e.1 < l.length * (16 * G.c) ∧ e.2 ≤ 20 ∧ e.2 ≤ e.1) (hD : DC fi ar 2 G l) (hI : IC fi ar 2 its (hsI d (sa G l))) (hNB : NB fi ar 2 (nm d (sa G l) s np)) (hnf : 40000 ≤ nf) : ∃ fi' ar' r, FX0_isTwin nf ln fi ar (nI (sa G l s)) (hsI d (sa G l) (s, np)) = some (r, fi', ar') ∧ ((r = 1 ∧ ∃ e, e ∈ its ∧ twn d (sa G l) s np e) ∨ (r = 0 ∧ ¬ ∃ e, e ∈ its ∧ twn d (sa G l) s np e)) ∧ offF [63] fi fi' ∧ offAs [33] ar ar' := by
  have hsl := slot_in h.2.2.1 hl hs
  have hL5 := hL.2.2.2.2
  obtain ⟨fi', ar', r1, r2, r3⟩ := isTwin_loop (nf := nf) (d := d) (p := sa G l s) hl hL hLC hle ⟨hsl.1, hsl.2.1⟩ hits (nm_of h.2.2.1 h.1 hLC.1 hl hs hnp) (by omega) its.length 0 nf fi ar h hD hI hNB (by omega) (by omega)
  refine ⟨fi', ar', _, r1, ?_, r2, r3⟩
  have hiff : (∃ t, t < its.length ∧ 0 ≤ t ∧ (sm11 d (sa G l s) (sa G l (its.getD t (0, 0)).1) ∨ alk (nm d (sa G l) s np) (nm d (sa G l) (its.getD t (0, 0)).1 (its.getD t (0, 0)).2))) ↔ ∃ e, e ∈ its ∧ twn d (sa G l) s np e := by
    constructor
    · rintro ⟨t, a, _, c⟩
      refine ⟨its.getD t (0, 0), ?_, c⟩
      rw [List.getD_eq_getElem?_getD, List.getElem?_eq_getElem a]; exact List.getElem_mem a
    · rintro ⟨e, he, c⟩
      obtain ⟨t, ht, rfl⟩ := List.getElem_of_mem he
      refine ⟨t, ht, Nat.zero_le _, ?_⟩
      rw [List.getD_eq_getElem?_getD, List.getElem?_eq_getElem ht]; exact c
  by_cases q : ∃ e, e ∈ its ∧ twn d (sa G l) s np e
  · left; rw [if_pos (hiff.mpr q)]; exact ⟨rfl, q⟩
  · right; rw [if_neg (fun w => q (hiff.mp w))]; exact ⟨rfl, q⟩
