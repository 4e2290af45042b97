/-! the class judges parts, points and entries -/
theorem parts_loop {nf : Nat} {ln : LN} {fi : FI} {ar : AR} {G : Geo} {d : Nat → Nat} {l : List Nat} {s np sum : Nat} (h : CW ln fi ar G d) (hl : clu G l) (hLC : LNC ln G.n) (hD : DC fi ar 2 G l) (hs : s < l.length * (16 * G.c)) (hnp : np ≤ 20) (hnps : np ≤ s) (hsum : sum < 256) : ∀ (m i kf : Nat), i + m = np → m < kf → FX0_partsAsTold_19 nf ln kf (nI s) (nI np) (nI sum) (nI (i + 1)) fi ar = some ((if ∀ t, t < np → i ≤ t → (d (sa G l (s - 1 - t)) = (if t + 1 = np then t + 1 + 64 else t + 1) ∧ d (sa G l (s - 1 - t) + 12) = 0 ∧ d (sa G l (s - 1 - t) + 13) = sum ∧ tw d (sa G l (s - 1 - t) + 26) = 0) then 1 else 0), fi, ar) := by
  have b := h.2.2.1.b
  have hkl := hl.len
  have hkn : G.k ≤ G.n / 2 := by
    have : G.k * 2 ≤ G.k * G.c := Nat.mul_le_mul_left _ (by omega)
    omega
  have c18 := hLC.2.2.2.2.2.2.1 2 (by omega)
  have c0 := hLC.1
  have hss := slot_in h.2.2.1 hl hs
  intro m
  induction m with
  | zero =>
    intro i kf hi hk
    obtain ⟨kf, rfl⟩ : ∃ k, kf = k + 1 := ⟨kf - 1, by omega⟩
    rw [if_pos (fun t a b => by omega)]
    rw [show FX0_partsAsTold_19 nf ln (kf + 1) = FX0_partsAsTold_19b (FX0_partsAsTold_19 nf ln kf) nf ln from rfl]
    unfold FX0_partsAsTold_19b
    simp (disch := first | omega | decide) only [zlt, zle, zeq, zltl, zllt, zlel, zlle, zeql, zll, ↓zlt, ↓zle, ↓zeq, ↓zltl, ↓zllt, ↓zlel, ↓zlle, ↓zeql, ↓zll, ↓if_pos, ↓if_neg, if_pos, if_neg, ↓zgd, zgd, zgdc, ↓zgd0, zgd0c, zcl0, ↓zbit, zbitc, ↓zbit1, ↓zbit0, nI_clamp, zaddl, zladd, zsubl, zlsub, zmull, zlmul, zdivl, nI_1, nI_add, nI_mulL, zand1, zand3, zand15, zand31, zand63, zand255, zand65535, zshr1, zshl7, zshl8, zshl9, zbit8, zbit16, ↓bnd_eq, bnd_eq, obnd_some, obnd3_some, obnd6_some]
  | succ m ih =>
    intro i kf hi hk
    obtain ⟨kf, rfl⟩ : ∃ k, kf = k + 1 := ⟨kf - 1, by omega⟩
    have g := ih (i + 1) kf (by omega) (by omega)
    have hsl := slot_in h.2.2.1 hl (show s - 1 - i < l.length * (16 * G.c) by omega)
    have hsa := slotAddress_eq (nf := nf) (ln := ln) h.2.2.1 hl hD (by omega) (show s - 1 - i < l.length * (16 * G.c) by omega)
    obtain ⟨p, hp⟩ : ∃ p, p = sa G l (s - 1 - i) := ⟨_, rfl⟩
    rw [← hp] at hsa hsl
    have b0 := h.1.lt (show p < 4 * ln 0 by omega)
    have b12 := h.1.lt (show p + 12 < 4 * ln 0 by omega)
    have b13 := h.1.lt (show p + 13 < 4 * ln 0 by omega)
    have b26 := twC_lt h.1 (show p + 26 + 1 < 4 * ln 0 by omega)
    have esub : nI s - nI (i + 1) = nI (s - 1 - i) := by rw [nI_sub (by omega)]; congr 1; omega
    obtain ⟨v, hv⟩ : ∃ v, v = (if i + 1 = np then i + 1 + 64 else i + 1) := ⟨_, rfl⟩
    have hvb : v < 100 := by rw [hv]; split <;> omega
    have k63 : FX0_partsAsTold_63 (FX0_partsAsTold_19 nf ln kf) nf ln (nI s) (nI np) (nI sum) (nI (i + 1)) (nI p) (nI (d p)) (nI v) fi ar = some ((if ∀ t, t < np → i ≤ t → (d (sa G l (s - 1 - t)) = (if t + 1 = np then t + 1 + 64 else t + 1) ∧ d (sa G l (s - 1 - t) + 12) = 0 ∧ d (sa G l (s - 1 - t) + 13) = sum ∧ tw d (sa G l (s - 1 - t) + 26) = 0) then 1 else 0), fi, ar) := by
      unfold FX0_partsAsTold_63 FX0_partsAsTold_112
      by_cases q : d p = v ∧ d (p + 12) = 0 ∧ d (p + 13) = sum ∧ tw d (p + 26) = 0
      · have hiff : (∀ t, t < np → i ≤ t → (d (sa G l (s - 1 - t)) = (if t + 1 = np then t + 1 + 64 else t + 1) ∧ d (sa G l (s - 1 - t) + 12) = 0 ∧ d (sa G l (s - 1 - t) + 13) = sum ∧ tw d (sa G l (s - 1 - t) + 26) = 0)) ↔ (∀ t, t < np → i + 1 ≤ t → (d (sa G l (s - 1 - t)) = (if t + 1 = np then t + 1 + 64 else t + 1) ∧ d (sa G l (s - 1 - t) + 12) = 0 ∧ d (sa G l (s - 1 - t) + 13) = sum ∧ tw d (sa G l (s - 1 - t) + 26) = 0)) := by
          rw [allT (show i < np by omega)]
          exact ⟨fun w => w.2, fun w => ⟨by rw [← hp, ← hv]; exact q, w⟩⟩
        rw [iteC hiff (fun _ => rfl), ← g]
        obtain ⟨q1, q2, q3, q4⟩ := q
        simp (disch := first | omega | decide) only [zlt, zle, zeq, zltl, zllt, zlel, zlle, zeql, zll, ↓zlt, ↓zle, ↓zeq, ↓zltl, ↓zllt, ↓zlel, ↓zlle, ↓zeql, ↓zll, ↓if_pos, ↓if_neg, if_pos, if_neg, ↓zgd, zgd, zgdc, ↓zgd0, zgd0c, zcl0, ↓zbit, zbitc, ↓zbit1, ↓zbit0, nI_clamp, zaddl, zladd, zsubl, zlsub, zmull, zlmul, zdivl, nI_1, nI_add, nI_mulL, zand1, zand3, zand15, zand31, zand63, zand255, zand65535, zshr1, zshl7, zshl8, zshl9, zbit8, zbit16, ↓bnd_eq, bnd_eq, obnd_some, obnd3_some, obnd6_some, FX3_one_eq h.1, FX3_two_eq h.1]
      · rw [if_neg (fun w => q (by have := w i (by omega) (Nat.le_refl _); rw [← hp, ← hv] at this; exact this))]
        by_cases q1 : d p = v
        · by_cases q2 : d (p + 12) = 0
          · by_cases q3 : d (p + 13) = sum
            · have q4 : tw d (p + 26) ≠ 0 := fun w => q ⟨q1, q2, q3, w⟩
              simp (disch := first | omega | decide) only [zlt, zle, zeq, zltl, zllt, zlel, zlle, zeql, zll, ↓zlt, ↓zle, ↓zeq, ↓zltl, ↓zllt, ↓zlel, ↓zlle, ↓zeql, ↓zll, ↓if_pos, ↓if_neg, if_pos, if_neg, ↓zgd, zgd, zgdc, ↓zgd0, zgd0c, zcl0, ↓zbit, zbitc, ↓zbit1, ↓zbit0, nI_clamp, zaddl, zladd, zsubl, zlsub, zmull, zlmul, zdivl, nI_1, nI_add, nI_mulL, zand1, zand3, zand15, zand31, zand63, zand255, zand65535, zshr1, zshl7, zshl8, zshl9, zbit8, zbit16, ↓bnd_eq, bnd_eq, obnd_some, obnd3_some, obnd6_some, FX3_one_eq h.1, FX3_two_eq h.1]
            · simp (disch := first | omega | decide) only [zlt, zle, zeq, zltl, zllt, zlel, zlle, zeql, zll, ↓zlt, ↓zle, ↓zeq, ↓zltl, ↓zllt, ↓zlel, ↓zlle, ↓zeql, ↓zll, ↓if_pos, ↓if_neg, if_pos, if_neg, ↓zgd, zgd, zgdc, ↓zgd0, zgd0c, zcl0, ↓zbit, zbitc, ↓zbit1, ↓zbit0, nI_clamp, zaddl, zladd, zsubl, zlsub, zmull, zlmul, zdivl, nI_1, nI_add, nI_mulL, zand1, zand3, zand15, zand31, zand63, zand255, zand65535, zshr1, zshl7, zshl8, zshl9, zbit8, zbit16, ↓bnd_eq, bnd_eq, obnd_some, obnd3_some, obnd6_some, FX3_one_eq h.1, FX3_two_eq h.1]
          · simp (disch := first | omega | decide) only [zlt, zle, zeq, zltl, zllt, zlel, zlle, zeql, zll, ↓zlt, ↓zle, ↓zeq, ↓zltl, ↓zllt, ↓zlel, ↓zlle, ↓zeql, ↓zll, ↓if_pos, ↓if_neg, if_pos, if_neg, ↓zgd, zgd, zgdc, ↓zgd0, zgd0c, zcl0, ↓zbit, zbitc, ↓zbit1, ↓zbit0, nI_clamp, zaddl, zladd, zsubl, zlsub, zmull, zlmul, zdivl, nI_1, nI_add, nI_mulL, zand1, zand3, zand15, zand31, zand63, zand255, zand65535, zshr1, zshl7, zshl8, zshl9, zbit8, zbit16, ↓bnd_eq, bnd_eq, obnd_some, obnd3_some, obnd6_some, FX3_one_eq h.1, FX3_two_eq h.1]
        · simp (disch := first | omega | decide) only [zlt, zle, zeq, zltl, zllt, zlel, zlle, zeql, zll, ↓zlt, ↓zle, ↓zeq, ↓zltl, ↓zllt, ↓zlel, ↓zlle, ↓zeql, ↓zll, ↓if_pos, ↓if_neg, if_pos, if_neg, ↓zgd, zgd, zgdc, ↓zgd0, zgd0c, zcl0, ↓zbit, zbitc, ↓zbit1, ↓zbit0, nI_clamp, zaddl, zladd, zsubl, zlsub, zmull, zlmul, zdivl, nI_1, nI_add, nI_mulL, zand1, zand3, zand15, zand31, zand63, zand255, zand65535, zshr1, zshl7, zshl8, zshl9, zbit8, zbit16, ↓bnd_eq, bnd_eq, obnd_some, obnd3_some, obnd6_some, FX3_one_eq h.1, FX3_two_eq h.1]
    rw [← k63]
    rw [show FX0_partsAsTold_19 nf ln (kf + 1) = FX0_partsAsTold_19b (FX0_partsAsTold_19 nf ln kf) nf ln from rfl]
    unfold FX0_partsAsTold_19b
    rw [esub, zlt (by omega) (by omega), if_neg (by omega), hsa, obnd3_some, FX3_one_eq h.1 (by omega), obnd3_some, zeq (by omega) (by omega)]
    by_cases q : i + 1 = np
    · rw [if_pos q]
      rw [if_pos q] at hv
      rw [show nI (i + 1) + (64 : Int32) = nI (i + 1 + 64) from nI_add _ 64, hv]
    · rw [if_neg q]
      rw [if_neg q] at hv
      rw [hv]
theorem partsAsTold_eq {nf : Nat} {ln : LN} {fi : FI} {ar : AR} {G : Geo} {d : Nat → Nat} {l : List Nat} {s np : Nat} (h : CW ln fi ar G d) (hl : clu G l) (hLC : LNC ln G.n) (hD : DC fi ar 2 G l) (hs : s < l.length * (16 * G.c)) (hnps : np ≤ s) (hB : SB ln ar 1 (fun i => d (sa G l s + i))) (hnf : 100 ≤ nf) : FX0_partsAsTold nf ln fi ar (nI s) (nI np) = some ((if ptOK d (sa G l) s np (smS d (sa G l s) 11) then 1 else 0), fi, ar) := by
  have hss := slot_in h.2.2.1 hl hs
  have hsm := FX7_sum_eq (nf := nf) (fi := fi) hB (by omega)
  rw [sm0] at hsm
  have hsl := smS_lt d (sa G l s) 11
  unfold FX0_partsAsTold
  rw [show (20 : Int32) = nI 20 from rfl, zle (by omega) (by omega)]
  by_cases q : np ≤ 20
  · rw [if_pos q, hsm, obnd3_some]
    have g := parts_loop (nf := nf) h hl hLC hD hs q hnps hsl np 0 nf (by omega) (by omega)
    have e : FX0_partsAsTold_19 nf ln nf (nI s) (nI np) (nI (smS d (sa G l s) 11)) 1 fi ar = FX0_partsAsTold_19 nf ln nf (nI s) (nI np) (nI (smS d (sa G l s) 11)) (nI (0 + 1)) fi ar := rfl
    rw [e, g]
    have hiff : (∀ t, t < np → 0 ≤ t → (d (sa G l (s - 1 - t)) = (if t + 1 = np then t + 1 + 64 else t + 1) ∧ d (sa G l (s - 1 - t) + 12) = 0 ∧ d (sa G l (s - 1 - t) + 13) = smS d (sa G l s) 11 ∧ tw d (sa G l (s - 1 - t) + 26) = 0)) ↔ ptOK d (sa G l) s np (smS d (sa G l s) 11) := ⟨fun w => ⟨q, fun t ht => w t ht (Nat.zero_le _)⟩, fun w t ht _ => w.2 t ht⟩
    rw [iteC hiff (fun _ => rfl)]
  · rw [if_neg q, if_neg (fun w => q w.1)]
theorem points_loop {nf : Nat} {ln : LN} {fi : FI} {ar : AR} {d : Nat → Nat} {p t f : Nat} (hd : CD ln ar d) (hp : p + 32 ≤ 4 * ln 0) (ht : t < 11) (hf : f < 4294967296) : ∀ (m i kf : Nat), i + m = 11 → m < kf → (((∀ j, j < 11 → i ≤ j → d (p + j) = if j ≤ t then 46 else 32) ∧ d (p + 11) = 16 ∧ fcl d p = f) → FX0_pointsAsTold_12 nf ln kf (nI t) (nI f) (nI p) (nI i) fi ar = some (1, fi, ar)) ∧ (¬ ((∀ j, j < 11 → i ≤ j → d (p + j) = if j ≤ t then 46 else 32) ∧ d (p + 11) = 16 ∧ fcl d p = f) → FX0_pointsAsTold_12 nf ln kf (nI t) (nI f) (nI p) (nI i) fi ar = some (0, fi, ar)) := by
  have hl0 := hd.1
  have b11 := hd.lt (show p + 11 < 4 * ln 0 by omega)
  have bf : fcl d p < 4294967296 := by
    have h1 := twC_lt hd (show p + 20 + 1 < 4 * ln 0 by omega)
    have h2 := twC_lt hd (show p + 26 + 1 < 4 * ln 0 by omega)
    unfold fcl; omega
  intro m
  induction m with
  | zero =>
    intro i kf hi hk
    obtain ⟨kf, rfl⟩ : ∃ k, kf = k + 1 := ⟨kf - 1, by omega⟩
    rw [show FX0_pointsAsTold_12 nf ln (kf + 1) = FX0_pointsAsTold_12b (FX0_pointsAsTold_12 nf ln kf) nf ln from rfl]
    unfold FX0_pointsAsTold_12b FX0_pointsAsTold_86 FX0_pointsAsTold_87
    have hall : ∀ j, j < 11 → i ≤ j → d (p + j) = if j ≤ t then 46 else 32 := fun j a b => by omega
    refine ⟨fun w => ?_, fun w => ?_⟩
    · obtain ⟨_, q1, q2⟩ := w
      simp (disch := first | omega | decide) only [zlt, zle, zeq, zltl, zllt, zlel, zlle, zeql, zll, ↓zlt, ↓zle, ↓zeq, ↓zltl, ↓zllt, ↓zlel, ↓zlle, ↓zeql, ↓zll, ↓if_pos, ↓if_neg, if_pos, if_neg, ↓zgd, zgd, zgdc, ↓zgd0, zgd0c, zcl0, ↓zbit, zbitc, ↓zbit1, ↓zbit0, nI_clamp, zaddl, zladd, zsubl, zlsub, zmull, zlmul, zdivl, nI_1, nI_add, nI_mulL, zand1, zand3, zand15, zand31, zand63, zand255, zand65535, zshr1, zshl7, zshl8, zshl9, zbit8, zbit16, ↓bnd_eq, bnd_eq, obnd_some, obnd3_some, obnd6_some, FX3_one_eq hd, FX3_firstCluster_eq hd]
    · by_cases q1 : d (p + 11) = 16
      · have q2 : fcl d p ≠ f := fun q2 => w ⟨hall, q1, q2⟩
        simp (disch := first | omega | decide) only [zlt, zle, zeq, zltl, zllt, zlel, zlle, zeql, zll, ↓zlt, ↓zle, ↓zeq, ↓zltl, ↓zllt, ↓zlel, ↓zlle, ↓zeql, ↓zll, ↓if_pos, ↓if_neg, if_pos, if_neg, ↓zgd, zgd, zgdc, ↓zgd0, zgd0c, zcl0, ↓zbit, zbitc, ↓zbit1, ↓zbit0, nI_clamp, zaddl, zladd, zsubl, zlsub, zmull, zlmul, zdivl, nI_1, nI_add, nI_mulL, zand1, zand3, zand15, zand31, zand63, zand255, zand65535, zshr1, zshl7, zshl8, zshl9, zbit8, zbit16, ↓bnd_eq, bnd_eq, obnd_some, obnd3_some, obnd6_some, FX3_one_eq hd, FX3_firstCluster_eq hd]
      · simp (disch := first | omega | decide) only [zlt, zle, zeq, zltl, zllt, zlel, zlle, zeql, zll, ↓zlt, ↓zle, ↓zeq, ↓zltl, ↓zllt, ↓zlel, ↓zlle, ↓zeql, ↓zll, ↓if_pos, ↓if_neg, if_pos, if_neg, ↓zgd, zgd, zgdc, ↓zgd0, zgd0c, zcl0, ↓zbit, zbitc, ↓zbit1, ↓zbit0, nI_clamp, zaddl, zladd, zsubl, zlsub, zmull, zlmul, zdivl, nI_1, nI_add, nI_mulL, zand1, zand3, zand15, zand31, zand63, zand255, zand65535, zshr1, zshl7, zshl8, zshl9, zbit8, zbit16, ↓bnd_eq, bnd_eq, obnd_some, obnd3_some, obnd6_some, FX3_one_eq hd]
  | succ m ih =>
    intro i kf hi hk
    obtain ⟨kf, rfl⟩ : ∃ k, kf = k + 1 := ⟨kf - 1, by omega⟩
    have g := ih (i + 1) kf (by omega) (by omega)
    have bi := hd.lt (show p + i < 4 * ln 0 by omega)
    obtain ⟨v, hv⟩ : ∃ v, v = (if i ≤ t then 46 else 32) := ⟨_, rfl⟩
    have hvb : v < 100 := by rw [hv]; split <;> omega
    have e : FX0_pointsAsTold_12 nf ln (kf + 1) (nI t) (nI f) (nI p) (nI i) fi ar = if d (p + i) = v then FX0_pointsAsTold_12 nf ln kf (nI t) (nI f) (nI p) (nI (i + 1)) fi ar else some (0, fi, ar) := by
      rw [show FX0_pointsAsTold_12 nf ln (kf + 1) = FX0_pointsAsTold_12b (FX0_pointsAsTold_12 nf ln kf) nf ln from rfl]
      unfold FX0_pointsAsTold_12b FX0_pointsAsTold_43
      by_cases q0 : i ≤ t
      · rw [if_pos q0] at hv
        subst hv
        simp (disch := first | omega | decide) only [zlt, zle, zeq, zltl, zllt, zlel, zlle, zeql, zll, ↓zlt, ↓zle, ↓zeq, ↓zltl, ↓zllt, ↓zlel, ↓zlle, ↓zeql, ↓zll, ↓if_pos, ↓if_neg, if_pos, if_neg, ↓zgd, zgd, zgdc, ↓zgd0, zgd0c, zcl0, ↓zbit, zbitc, ↓zbit1, ↓zbit0, nI_clamp, zaddl, zladd, zsubl, zlsub, zmull, zlmul, zdivl, nI_1, nI_add, nI_mulL, zand1, zand3, zand15, zand31, zand63, zand255, zand65535, zshr1, zshl7, zshl8, zshl9, zbit8, zbit16, ↓bnd_eq, bnd_eq, obnd_some, obnd3_some, obnd6_some, FX3_one_eq hd]
      · rw [if_neg q0] at hv
        subst hv
        simp (disch := first | omega | decide) only [zlt, zle, zeq, zltl, zllt, zlel, zlle, zeql, zll, ↓zlt, ↓zle, ↓zeq, ↓zltl, ↓zllt, ↓zlel, ↓zlle, ↓zeql, ↓zll, ↓if_pos, ↓if_neg, if_pos, if_neg, ↓zgd, zgd, zgdc, ↓zgd0, zgd0c, zcl0, ↓zbit, zbitc, ↓zbit1, ↓zbit0, nI_clamp, zaddl, zladd, zsubl, zlsub, zmull, zlmul, zdivl, nI_1, nI_add, nI_mulL, zand1, zand3, zand15, zand31, zand63, zand255, zand65535, zshr1, zshl7, zshl8, zshl9, zbit8, zbit16, ↓bnd_eq, bnd_eq, obnd_some, obnd3_some, obnd6_some, FX3_one_eq hd]
    rw [e]
    by_cases q : d (p + i) = v
    · rw [if_pos q]
      have hiff : ((∀ j, j < 11 → i ≤ j → d (p + j) = if j ≤ t then 46 else 32) ∧ d (p + 11) = 16 ∧ fcl d p = f) ↔ ((∀ j, j < 11 → i + 1 ≤ j → d (p + j) = if j ≤ t then 46 else 32) ∧ d (p + 11) = 16 ∧ fcl d p = f) := by
        rw [allT (show i < 11 by omega)]
        exact ⟨fun w => ⟨w.1.2, w.2⟩, fun w => ⟨⟨by rw [← hv]; exact q, w.1⟩, w.2⟩⟩
      exact ⟨fun w => g.1 (hiff.mp w), fun w => g.2 (fun z => w (hiff.mpr z))⟩
    · rw [if_neg q]
      exact ⟨fun w => absurd (by have := w.1 i (by omega) (Nat.le_refl _); rw [← hv] at this; exact this) q, fun _ => rfl⟩
theorem points_eq {nf : Nat} {ln : LN} {fi : FI} {ar : AR} {G : Geo} {d : Nat → Nat} {l : List Nat} {t f : Nat} (h : CW ln fi ar G d) (hl : clu G l) (hLC : LNC ln G.n) (hD : DC fi ar 2 G l) (ht : t < 2) (htS : t < l.length * (16 * G.c)) (hf : f < 4294967296) (hnf : 20 ≤ nf) : FX0_pointsAsTold nf ln fi ar (nI t) (nI f) = some ((if pts d (sa G l t) t f then 1 else 0), fi, ar) := by
  have b := h.2.2.1.b
  have hkl := hl.len
  have hkn : G.k ≤ G.n / 2 := by
    have : G.k * 2 ≤ G.k * G.c := Nat.mul_le_mul_left _ (by omega)
    omega
  have c18 := hLC.2.2.2.2.2.2.1 2 (by omega)
  have c0 := hLC.1
  have hss := slot_in h.2.2.1 hl htS
  have hsa := slotAddress_eq (nf := nf) (ln := ln) h.2.2.1 hl hD (by omega) htS
  have g := points_loop (nf := nf) (fi := fi) (t := t) (f := f) h.1 (show sa G l t + 32 ≤ 4 * ln 0 by omega) (by omega) hf 11 0 nf (by omega) (by omega)
  have hiff : ((∀ j, j < 11 → 0 ≤ j → d (sa G l t + j) = if j ≤ t then 46 else 32) ∧ d (sa G l t + 11) = 16 ∧ fcl d (sa G l t) = f) ↔ pts d (sa G l t) t f := ⟨fun w => ⟨fun i hi => w.1 i hi (Nat.zero_le _), w.2⟩, fun w => ⟨fun i hi _ => w.1 i hi, w.2⟩⟩
  unfold FX0_pointsAsTold
  rw [hsa, obnd3_some]
  by_cases q : pts d (sa G l t) t f
  · rw [if_pos q]; exact g.1 (hiff.mpr q)
  · rw [if_neg q]; exact g.2 (fun w => q (hiff.mp w))
/-- what an entry must be, times and twins aside -/
abbrev e3 (d A : Nat → Nat) (s np : Nat) : Prop := d (A s + 11) ≤ 63 ∧ shOK d (A s) False ∧ (isDr d (A s) → fo d (A s + 28) = 0) ∧ ptOK d A s np (smS d (A s) 11) ∧ nmOK (nm d A s np) ∧ (0 < np → flOK d A s np)
abbrev l3 (d A : Nat → Nat) (s np mb : Nat) : Prop := d (A s + 11) ≤ 63 ∧ shOK d (A s) True ∧ ¬ isDr d (A s) ∧ fcl d (A s) = 0 ∧ fo d (A s + 28) = 0 ∧ np = 0 ∧ mb ≠ 0
theorem SB.off {ln : LN} {ar ar' : AR} {i0 : Nat} {b : Nat → Nat} (h : SB ln ar i0 b) {T : List Nat} (ha : offAs T ar ar') (hT : 40 + 2 * i0 ∉ T) : SB ln ar' i0 b := ⟨h.1, fun i hi => by rw [ha _ hT]; exact h.2 i hi⟩
/-- the checker's state while it scans: ready for an entry -/
def CX (ln : LN) (fi : FI) (ar : AR) (G : Geo) (d : Nat → Nat) (l : List Nat) (its : List (Nat × Nat)) : Prop := CW ln fi ar G d ∧ LNC ln G.n ∧ DC fi ar 2 G l ∧ IC fi ar 2 its (hsI d (sa G l)) ∧ ∃ L, LK ln 2 L ∧ its.length ≤ L
theorem CX.off {ln : LN} {fi fi' : FI} {ar ar' : AR} {G : Geo} {d : Nat → Nat} {l : List Nat} {its : List (Nat × Nat)} (h : CX ln fi ar G d l its) {S T : List Nat} (hf : offF S fi fi') (ha : offAs T ar ar') (hS : ∀ j, j ∈ S → j ∉ [2, 4, 5, 6, 7, 8, 9, 10, 40, 41, 43, 44, 45]) (hT : ∀ j, j ∈ T → j ∉ [0, 18, 19, 20, 21]) : CX ln fi' ar' G d l its := by
  obtain ⟨h1, h2, h3, h4, h5⟩ := h
  refine ⟨h1.off hf ha (fun j hj hq => hS j hj ?_) (fun j hj e => hT j hj ?_), h2, h3.off hf ha (fun j hj => ?_) (fun j hj e => hT j hj ?_), h4.off hf ha (fun j hj e => hS j hj ?_) (fun j hj => ?_), h5⟩
  · simp at hq ⊢; omega
  · rw [e]; simp
  · have := hS j hj; simp at this; omega
  · rw [e]; simp
  · rw [e]; simp
  · have := hT j hj; simp at this; omega
theorem entry_label {nf : Nat} {ln : LN} {fi : FI} {ar : AR} {G : Geo} {d : Nat → Nat} {l : List Nat} {its : List (Nat × Nat)} {s np mb : Nat} (h : CX ln fi ar G d l its) (hl : clu G l) (hs : s < l.length * (16 * G.c)) (hnps : np ≤ s) (hmb : mb < 2) (hL : d (sa G l s + 11) / 8 % 2 = 1) (hnf : 600 ≤ nf) : ∃ ar' r, FX0_entryFault nf fi ar ln (nI s) (nI (sa G l s)) (nI np) (nI mb) = some (nI r, fi, ar', ln, 0, 0) ∧ ((r = 0 ∧ l3 d (sa G l) s np mb) ∨ (r = 4 ∧ ¬ l3 d (sa G l) s np mb)) ∧ offAs [42] ar ar' := by
  obtain ⟨hW, hLC, hD, hI, hLK⟩ := h
  have hd := hW.1
  have hl0 := hd.1
  have c0 := hLC.1
  have hss := slot_in hW.2.2.1 hl hs
  obtain ⟨p, hp⟩ : ∃ p, p = sa G l s := ⟨_, rfl⟩
  have b11 := hd.lt (show p + 11 < 4 * ln 0 by omega)
  have f28 := foC_lt hd (show p + 28 + 3 < 4 * ln 0 by omega)
  have bf : fcl d p < 4294967296 := by
    have h1 := twC_lt hd (show p + 20 + 1 < 4 * ln 0 by omega)
    have h2 := twC_lt hd (show p + 26 + 1 < 4 * ln 0 by omega)
    unfold fcl; omega
  obtain ⟨ar1, r1, r2, r3⟩ := FX7_load_ok (nf := nf) (fi := fi) (i0 := 1) (p := p) hd (hLC.2.2.2.2.2.2.2.2 1 (by omega)).1 (by omega) (by omega)
  have hd1 : CD ln ar1 d := ⟨hd.1, fun q hq => by rw [r3 0 (by omega)]; exact hd.2 q hq⟩
  have hsh := FX7_asTold_eq (nf := nf) (fi := fi) r2 True (by omega)
  rw [if_pos trivial] at hsh
  have unf : FX0_entryFault nf fi ar ln (nI s) (nI (sa G l s)) (nI np) (nI mb) = FX0_entryFault_26 nf (nI s) (nI p) (nI np) (nI mb) (nI (d (p + 11))) 1 fi ar ln := by
    unfold FX0_entryFault
    rw [← hp] at hL ⊢
    simp (disch := first | omega | decide) only [zlt, zle, zeq, zltl, zllt, zlel, zlle, zeql, zll, ↓zlt, ↓zle, ↓zeq, ↓zltl, ↓zllt, ↓zlel, ↓zlle, ↓zeql, ↓zll, ↓if_pos, ↓if_neg, if_pos, if_neg, ↓zgd, zgd, zgdc, ↓zgd0, zgd0c, zcl0, ↓zbit, zbitc, ↓zbit1, ↓zbit0, nI_clamp, zaddl, zladd, zsubl, zlsub, zmull, zlmul, zdivl, nI_1, nI_add, nI_mulL, zand1, zand3, zand15, zand31, zand63, zand255, zand65535, zshr1, zshl7, zshl8, zshl9, zbit8, zbit16, ↓bnd_eq, bnd_eq, obnd_some, obnd3_some, obnd6_some, FX3_one_eq hd, hL]
  rw [unf]
  have fin : ∀ t, t < 2 → ∀ r, ((r = 0 ∧ np = 0 ∧ mb ≠ 0 ∧ t ≠ 0) ∨ (r = 4 ∧ ¬ (np = 0 ∧ mb ≠ 0 ∧ t ≠ 0))) → FX0_entryFault_104 nf (nI np) (nI mb) (nI t) fi ar1 ln = some (nI r, fi, ar1, ln, 0, 0) := by
    intro t ht r hr
    unfold FX0_entryFault_104 FX0_entryFault_124 FX0_entryFault_125
    rcases hr with ⟨rfl, a1, a2, a3⟩ | ⟨rfl, a⟩
    · simp (disch := first | omega | decide) only [zlt, zle, zeq, zltl, zllt, zlel, zlle, zeql, zll, ↓zlt, ↓zle, ↓zeq, ↓zltl, ↓zllt, ↓zlel, ↓zlle, ↓zeql, ↓zll, ↓if_pos, ↓if_neg, if_pos, if_neg, ↓zgd, zgd, zgdc, ↓zgd0, zgd0c, zcl0, ↓zbit, zbitc, ↓zbit1, ↓zbit0, nI_clamp, zaddl, zladd, zsubl, zlsub, zmull, zlmul, zdivl, nI_1, nI_add, nI_mulL, zand1, zand3, zand15, zand31, zand63, zand255, zand65535, zshr1, zshl7, zshl8, zshl9, zbit8, zbit16, ↓bnd_eq, bnd_eq, obnd_some, obnd3_some, obnd6_some]
      rfl
    · by_cases q1 : mb = 0
      · simp (disch := first | omega | decide) only [zlt, zle, zeq, zltl, zllt, zlel, zlle, zeql, zll, ↓zlt, ↓zle, ↓zeq, ↓zltl, ↓zllt, ↓zlel, ↓zlle, ↓zeql, ↓zll, ↓if_pos, ↓if_neg, if_pos, if_neg, ↓zgd, zgd, zgdc, ↓zgd0, zgd0c, zcl0, ↓zbit, zbitc, ↓zbit1, ↓zbit0, nI_clamp, zaddl, zladd, zsubl, zlsub, zmull, zlmul, zdivl, nI_1, nI_add, nI_mulL, zand1, zand3, zand15, zand31, zand63, zand255, zand65535, zshr1, zshl7, zshl8, zshl9, zbit8, zbit16, ↓bnd_eq, bnd_eq, obnd_some, obnd3_some, obnd6_some]
        rfl
      · by_cases q2 : np = 0
        · have q3 : t = 0 := by
            apply Decidable.byContradiction
            intro w
            exact a ⟨q2, q1, w⟩
          simp (disch := first | omega | decide) only [zlt, zle, zeq, zltl, zllt, zlel, zlle, zeql, zll, ↓zlt, ↓zle, ↓zeq, ↓zltl, ↓zllt, ↓zlel, ↓zlle, ↓zeql, ↓zll, ↓if_pos, ↓if_neg, if_pos, if_neg, ↓zgd, zgd, zgdc, ↓zgd0, zgd0c, zcl0, ↓zbit, zbitc, ↓zbit1, ↓zbit0, nI_clamp, zaddl, zladd, zsubl, zlsub, zmull, zlmul, zdivl, nI_1, nI_add, nI_mulL, zand1, zand3, zand15, zand31, zand63, zand255, zand65535, zshr1, zshl7, zshl8, zshl9, zbit8, zbit16, ↓bnd_eq, bnd_eq, obnd_some, obnd3_some, obnd6_some]
          rfl
        · simp (disch := first | omega | decide) only [zlt, zle, zeq, zltl, zllt, zlel, zlle, zeql, zll, ↓zlt, ↓zle, ↓zeq, ↓zltl, ↓zllt, ↓zlel, ↓zlle, ↓zeql, ↓zll, ↓if_pos, ↓if_neg, if_pos, if_neg, ↓zgd, zgd, zgdc, ↓zgd0, zgd0c, zcl0, ↓zbit, zbitc, ↓zbit1, ↓zbit0, nI_clamp, zaddl, zladd, zsubl, zlsub, zmull, zlmul, zdivl, nI_1, nI_add, nI_mulL, zand1, zand3, zand15, zand31, zand63, zand255, zand65535, zshr1, zshl7, zshl8, zshl9, zbit8, zbit16, ↓bnd_eq, bnd_eq, obnd_some, obnd3_some, obnd6_some]
          rfl
  by_cases q : l3 d (sa G l) s np mb
  · obtain ⟨q1, q2, q3, q4, q5, q6, q7⟩ := id q
    rw [← hp] at q1 q2 q3 q4 q5
    have q3' : d (p + 11) / 16 % 2 = 0 := by have : ¬ d (p + 11) / 16 % 2 = 1 := q3; omega
    refine ⟨ar1, 0, ?_, Or.inl ⟨rfl, q⟩, r3.as⟩
    rw [← fin 1 (by omega) 0 (Or.inl ⟨rfl, q6, q7, by omega⟩)]
    unfold FX0_entryFault_26
    rw [if_pos q2] at hsh
    simp (disch := first | omega | decide) only [zlt, zle, zeq, zltl, zllt, zlel, zlle, zeql, zll, ↓zlt, ↓zle, ↓zeq, ↓zltl, ↓zllt, ↓zlel, ↓zlle, ↓zeql, ↓zll, ↓if_pos, ↓if_neg, if_pos, if_neg, ↓zgd, zgd, zgdc, ↓zgd0, zgd0c, zcl0, ↓zbit, zbitc, ↓zbit1, ↓zbit0, nI_clamp, zaddl, zladd, zsubl, zlsub, zmull, zlmul, zdivl, nI_1, nI_add, nI_mulL, zand1, zand3, zand15, zand31, zand63, zand255, zand65535, zshr1, zshl7, zshl8, zshl9, zbit8, zbit16, ↓bnd_eq, bnd_eq, obnd_some, obnd3_some, obnd6_some, r1, hsh, FX3_firstCluster_eq hd1, FX3_four_eq hd1]
    rfl
  · refine ⟨ar1, 4, ?_, Or.inr ⟨rfl, q⟩, r3.as⟩
    unfold FX0_entryFault_26 FX0_entryFault_59 FX0_entryFault_103
    by_cases q1 : d (p + 11) ≤ 63
    · by_cases q2 : shOK d p True
      · rw [if_pos q2] at hsh
        by_cases q3 : d (p + 11) / 16 % 2 = 0
        · by_cases q4 : fcl d p = 0
          · by_cases q5 : fo d (p + 28) = 0
            · rw [← fin 1 (by omega) 4 (Or.inr ⟨rfl, fun w => q (by unfold l3; rw [← hp]; exact ⟨q1, q2, fun z => by have : d (p + 11) / 16 % 2 = 1 := z; omega, q4, q5, w.1, w.2.1⟩)⟩)]
              simp (disch := first | omega | decide) only [zlt, zle, zeq, zltl, zllt, zlel, zlle, zeql, zll, ↓zlt, ↓zle, ↓zeq, ↓zltl, ↓zllt, ↓zlel, ↓zlle, ↓zeql, ↓zll, ↓if_pos, ↓if_neg, if_pos, if_neg, ↓zgd, zgd, zgdc, ↓zgd0, zgd0c, zcl0, ↓zbit, zbitc, ↓zbit1, ↓zbit0, nI_clamp, zaddl, zladd, zsubl, zlsub, zmull, zlmul, zdivl, nI_1, nI_add, nI_mulL, zand1, zand3, zand15, zand31, zand63, zand255, zand65535, zshr1, zshl7, zshl8, zshl9, zbit8, zbit16, ↓bnd_eq, bnd_eq, obnd_some, obnd3_some, obnd6_some, r1, hsh, FX3_firstCluster_eq hd1, FX3_four_eq hd1]
              rfl
            · rw [← fin 0 (by omega) 4 (Or.inr ⟨rfl, fun w => w.2.2 rfl⟩)]
              simp (disch := first | omega | decide) only [zlt, zle, zeq, zltl, zllt, zlel, zlle, zeql, zll, ↓zlt, ↓zle, ↓zeq, ↓zltl, ↓zllt, ↓zlel, ↓zlle, ↓zeql, ↓zll, ↓if_pos, ↓if_neg, if_pos, if_neg, ↓zgd, zgd, zgdc, ↓zgd0, zgd0c, zcl0, ↓zbit, zbitc, ↓zbit1, ↓zbit0, nI_clamp, zaddl, zladd, zsubl, zlsub, zmull, zlmul, zdivl, nI_1, nI_add, nI_mulL, zand1, zand3, zand15, zand31, zand63, zand255, zand65535, zshr1, zshl7, zshl8, zshl9, zbit8, zbit16, ↓bnd_eq, bnd_eq, obnd_some, obnd3_some, obnd6_some, r1, hsh, FX3_firstCluster_eq hd1, FX3_four_eq hd1]
              rfl
          · rw [← fin 0 (by omega) 4 (Or.inr ⟨rfl, fun w => w.2.2 rfl⟩)]
            simp (disch := first | omega | decide) only [zlt, zle, zeq, zltl, zllt, zlel, zlle, zeql, zll, ↓zlt, ↓zle, ↓zeq, ↓zltl, ↓zllt, ↓zlel, ↓zlle, ↓zeql, ↓zll, ↓if_pos, ↓if_neg, if_pos, if_neg, ↓zgd, zgd, zgdc, ↓zgd0, zgd0c, zcl0, ↓zbit, zbitc, ↓zbit1, ↓zbit0, nI_clamp, zaddl, zladd, zsubl, zlsub, zmull, zlmul, zdivl, nI_1, nI_add, nI_mulL, zand1, zand3, zand15, zand31, zand63, zand255, zand65535, zshr1, zshl7, zshl8, zshl9, zbit8, zbit16, ↓bnd_eq, bnd_eq, obnd_some, obnd3_some, obnd6_some, r1, hsh, FX3_firstCluster_eq hd1, FX3_four_eq hd1]
            rfl
        · have q3' : d (p + 11) / 16 % 2 = 1 := by omega
          rw [← fin 0 (by omega) 4 (Or.inr ⟨rfl, fun w => w.2.2 rfl⟩)]
          simp (disch := first | omega | decide) only [zlt, zle, zeq, zltl, zllt, zlel, zlle, zeql, zll, ↓zlt, ↓zle, ↓zeq, ↓zltl, ↓zllt, ↓zlel, ↓zlle, ↓zeql, ↓zll, ↓if_pos, ↓if_neg, if_pos, if_neg, ↓zgd, zgd, zgdc, ↓zgd0, zgd0c, zcl0, ↓zbit, zbitc, ↓zbit1, ↓zbit0, nI_clamp, zaddl, zladd, zsubl, zlsub, zmull, zlmul, zdivl, nI_1, nI_add, nI_mulL, zand1, zand3, zand15, zand31, zand63, zand255, zand65535, zshr1, zshl7, zshl8, zshl9, zbit8, zbit16, ↓bnd_eq, bnd_eq, obnd_some, obnd3_some, obnd6_some, r1, hsh, FX3_firstCluster_eq hd1, FX3_four_eq hd1]
          rfl
      · rw [if_neg q2] at hsh
        simp (disch := first | omega | decide) only [zlt, zle, zeq, zltl, zllt, zlel, zlle, zeql, zll, ↓zlt, ↓zle, ↓zeq, ↓zltl, ↓zllt, ↓zlel, ↓zlle, ↓zeql, ↓zll, ↓if_pos, ↓if_neg, if_pos, if_neg, ↓zgd, zgd, zgdc, ↓zgd0, zgd0c, zcl0, ↓zbit, zbitc, ↓zbit1, ↓zbit0, nI_clamp, zaddl, zladd, zsubl, zlsub, zmull, zlmul, zdivl, nI_1, nI_add, nI_mulL, zand1, zand3, zand15, zand31, zand63, zand255, zand65535, zshr1, zshl7, zshl8, zshl9, zbit8, zbit16, ↓bnd_eq, bnd_eq, obnd_some, obnd3_some, obnd6_some, r1, hsh]
        rfl
    · simp (disch := first | omega | decide) only [zlt, zle, zeq, zltl, zllt, zlel, zlle, zeql, zll, ↓zlt, ↓zle, ↓zeq, ↓zltl, ↓zllt, ↓zlel, ↓zlle, ↓zeql, ↓zll, ↓if_pos, ↓if_neg, if_pos, if_neg, ↓zgd, zgd, zgdc, ↓zgd0, zgd0c, zcl0, ↓zbit, zbitc, ↓zbit1, ↓zbit0, nI_clamp, zaddl, zladd, zsubl, zlsub, zmull, zlmul, zdivl, nI_1, nI_add, nI_mulL, zand1, zand3, zand15, zand31, zand63, zand255, zand65535, zshr1, zshl7, zshl8, zshl9, zbit8, zbit16, ↓bnd_eq, bnd_eq, obnd_some, obnd3_some, obnd6_some, r1]
      rfl
