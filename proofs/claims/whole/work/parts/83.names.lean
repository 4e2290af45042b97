/-! the class's names: as told, filled, alike -/
theorem allT {N i : Nat} {P : Nat → Prop} (hi : i < N) : (∀ j, j < N → i ≤ j → P j) ↔ P i ∧ ∀ j, j < N → i + 1 ≤ j → P j :=
  ⟨fun h => ⟨h i hi (Nat.le_refl _), fun j h1 h2 => h j h1 (by omega)⟩, fun h j h1 h2 => if e : j = i then e ▸ h.1 else h.2 j h1 (by omega)⟩
theorem mayName_eq {nf m : Nat} (hm : m < 65536) (hnf : 20 ≤ nf) : FX5_mayStandInName nf (nI m) = some (if uok m then 1 else 0) := by
  obtain ⟨r, r1, r2⟩ := ix_ok (nf := nf) (i := 1) (by decide) hm hnf
  have k24 : 32 ≤ m → m ≠ 127 → (m < 55296 ∨ 57343 < m) → FX5_mayStandInName_24 nf (nI m) = some (if uok m then 1 else 0) := by
    intro a1 a2 a3
    unfold FX5_mayStandInName_24 FX5_mayStandInName_48 FX5_mayStandInName_53 FX5_mayStandInName_30
    by_cases q1 : m ≤ 65533
    · by_cases q2 : 127 < m
      · have : uok m := ⟨a1, a2, a3, q1, fun h => by
          have : ∀ x, x ∈ sNat.getD 1 [] → x < 128 := by decide
          have := this m h
          omega⟩
        rw [if_pos this]
        simp (disch := first | omega | decide) only [zlt, zle, zeq, zltl, zllt, zlel, zlle, zeql, zll, ↓zlt, ↓zle, ↓zeq, ↓zltl, ↓zllt, ↓zlel, ↓zlle, ↓zeql, ↓zll, ↓if_pos, ↓if_neg, if_pos, if_neg, ↓zgd, zgd, zgdc, ↓zgd0, zgd0c, zcl0, ↓zbit, zbitc, ↓zbit1, ↓zbit0, nI_clamp, zaddl, zladd, zsubl, zlsub, zmull, zlmul, zdivl, nI_1, nI_add, nI_mulL, zand1, zand3, zand15, zand31, zand63, zand255, zand65535, zshr1, zshl7, zshl8, zshl9, zbit8, zbit16, ↓bnd_eq, bnd_eq, obnd_some, obnd3_some, obnd6_some]
      · by_cases q3 : m ∈ sNat.getD 1 []
        · rw [if_neg (fun w : uok m => w.2.2.2.2 q3)]
          have hr : (0 : Int32) ≤ r := Int32.not_lt.mp (fun h => (r2.mp h) q3)
          simp (disch := first | omega | decide) only [zlt, zle, zeq, zltl, zllt, zlel, zlle, zeql, zll, ↓zlt, ↓zle, ↓zeq, ↓zltl, ↓zllt, ↓zlel, ↓zlle, ↓zeql, ↓zll, ↓if_pos, ↓if_neg, if_pos, if_neg, ↓zgd, zgd, zgdc, ↓zgd0, zgd0c, zcl0, ↓zbit, zbitc, ↓zbit1, ↓zbit0, nI_clamp, zaddl, zladd, zsubl, zlsub, zmull, zlmul, zdivl, nI_1, nI_add, nI_mulL, zand1, zand3, zand15, zand31, zand63, zand255, zand65535, zshr1, zshl7, zshl8, zshl9, zbit8, zbit16, ↓bnd_eq, bnd_eq, obnd_some, obnd3_some, obnd6_some, r1]
          rw [brT hr]
        · rw [if_pos (show uok m from ⟨a1, a2, a3, q1, q3⟩)]
          have hr : ¬ (0 : Int32) ≤ r := Int32.not_le.mpr (r2.mpr q3)
          simp (disch := first | omega | decide) only [zlt, zle, zeq, zltl, zllt, zlel, zlle, zeql, zll, ↓zlt, ↓zle, ↓zeq, ↓zltl, ↓zllt, ↓zlel, ↓zlle, ↓zeql, ↓zll, ↓if_pos, ↓if_neg, if_pos, if_neg, ↓zgd, zgd, zgdc, ↓zgd0, zgd0c, zcl0, ↓zbit, zbitc, ↓zbit1, ↓zbit0, nI_clamp, zaddl, zladd, zsubl, zlsub, zmull, zlmul, zdivl, nI_1, nI_add, nI_mulL, zand1, zand3, zand15, zand31, zand63, zand255, zand65535, zshr1, zshl7, zshl8, zshl9, zbit8, zbit16, ↓bnd_eq, bnd_eq, obnd_some, obnd3_some, obnd6_some, r1]
          rw [brF hr]
    · rw [if_neg (fun w : uok m => q1 w.2.2.2.1)]
      simp (disch := first | omega | decide) only [zlt, zle, zeq, zltl, zllt, zlel, zlle, zeql, zll, ↓zlt, ↓zle, ↓zeq, ↓zltl, ↓zllt, ↓zlel, ↓zlle, ↓zeql, ↓zll, ↓if_pos, ↓if_neg, if_pos, if_neg, ↓zgd, zgd, zgdc, ↓zgd0, zgd0c, zcl0, ↓zbit, zbitc, ↓zbit1, ↓zbit0, nI_clamp, zaddl, zladd, zsubl, zlsub, zmull, zlmul, zdivl, nI_1, nI_add, nI_mulL, zand1, zand3, zand15, zand31, zand63, zand255, zand65535, zshr1, zshl7, zshl8, zshl9, zbit8, zbit16, ↓bnd_eq, bnd_eq, obnd_some, obnd3_some, obnd6_some]
  unfold FX5_mayStandInName FX5_mayStandInName_30
  by_cases a1 : 32 ≤ m
  · by_cases a2 : m = 127
    · rw [if_neg (fun w : uok m => w.2.1 a2)]
      simp (disch := first | omega | decide) only [zlt, zle, zeq, zltl, zllt, zlel, zlle, zeql, zll, ↓zlt, ↓zle, ↓zeq, ↓zltl, ↓zllt, ↓zlel, ↓zlle, ↓zeql, ↓zll, ↓if_pos, ↓if_neg, if_pos, if_neg, ↓zgd, zgd, zgdc, ↓zgd0, zgd0c, zcl0, ↓zbit, zbitc, ↓zbit1, ↓zbit0, nI_clamp, zaddl, zladd, zsubl, zlsub, zmull, zlmul, zdivl, nI_1, nI_add, nI_mulL, zand1, zand3, zand15, zand31, zand63, zand255, zand65535, zshr1, zshl7, zshl8, zshl9, zbit8, zbit16, ↓bnd_eq, bnd_eq, obnd_some, obnd3_some, obnd6_some]
    · by_cases a3 : m < 55296
      · refine Eq.trans ?_ (k24 a1 a2 (Or.inl a3))
        simp (disch := first | omega | decide) only [zlt, zle, zeq, zltl, zllt, zlel, zlle, zeql, zll, ↓zlt, ↓zle, ↓zeq, ↓zltl, ↓zllt, ↓zlel, ↓zlle, ↓zeql, ↓zll, ↓if_pos, ↓if_neg, if_pos, if_neg, ↓zgd, zgd, zgdc, ↓zgd0, zgd0c, zcl0, ↓zbit, zbitc, ↓zbit1, ↓zbit0, nI_clamp, zaddl, zladd, zsubl, zlsub, zmull, zlmul, zdivl, nI_1, nI_add, nI_mulL, zand1, zand3, zand15, zand31, zand63, zand255, zand65535, zshr1, zshl7, zshl8, zshl9, zbit8, zbit16, ↓bnd_eq, bnd_eq, obnd_some, obnd3_some, obnd6_some]
      · by_cases a4 : m ≤ 57343
        · rw [if_neg (fun w : uok m => by have := w.2.2.1; omega)]
          simp (disch := first | omega | decide) only [zlt, zle, zeq, zltl, zllt, zlel, zlle, zeql, zll, ↓zlt, ↓zle, ↓zeq, ↓zltl, ↓zllt, ↓zlel, ↓zlle, ↓zeql, ↓zll, ↓if_pos, ↓if_neg, if_pos, if_neg, ↓zgd, zgd, zgdc, ↓zgd0, zgd0c, zcl0, ↓zbit, zbitc, ↓zbit1, ↓zbit0, nI_clamp, zaddl, zladd, zsubl, zlsub, zmull, zlmul, zdivl, nI_1, nI_add, nI_mulL, zand1, zand3, zand15, zand31, zand63, zand255, zand65535, zshr1, zshl7, zshl8, zshl9, zbit8, zbit16, ↓bnd_eq, bnd_eq, obnd_some, obnd3_some, obnd6_some]
        · refine Eq.trans ?_ (k24 a1 a2 (Or.inr (by omega)))
          simp (disch := first | omega | decide) only [zlt, zle, zeq, zltl, zllt, zlel, zlle, zeql, zll, ↓zlt, ↓zle, ↓zeq, ↓zltl, ↓zllt, ↓zlel, ↓zlle, ↓zeql, ↓zll, ↓if_pos, ↓if_neg, if_pos, if_neg, ↓zgd, zgd, zgdc, ↓zgd0, zgd0c, zcl0, ↓zbit, zbitc, ↓zbit1, ↓zbit0, nI_clamp, zaddl, zladd, zsubl, zlsub, zmull, zlmul, zdivl, nI_1, nI_add, nI_mulL, zand1, zand3, zand15, zand31, zand63, zand255, zand65535, zshr1, zshl7, zshl8, zshl9, zbit8, zbit16, ↓bnd_eq, bnd_eq, obnd_some, obnd3_some, obnd6_some]
  · rw [if_neg (fun w : uok m => a1 w.1)]
    simp (disch := first | omega | decide) only [zlt, zle, zeq, zltl, zllt, zlel, zlle, zeql, zll, ↓zlt, ↓zle, ↓zeq, ↓zltl, ↓zllt, ↓zlel, ↓zlle, ↓zeql, ↓zll, ↓if_pos, ↓if_neg, if_pos, if_neg, ↓zgd, zgd, zgdc, ↓zgd0, zgd0c, zcl0, ↓zbit, zbitc, ↓zbit1, ↓zbit0, nI_clamp, zaddl, zladd, zsubl, zlsub, zmull, zlmul, zdivl, nI_1, nI_add, nI_mulL, zand1, zand3, zand15, zand31, zand63, zand255, zand65535, zshr1, zshl7, zshl8, zshl9, zbit8, zbit16, ↓bnd_eq, bnd_eq, obnd_some, obnd3_some, obnd6_some]
theorem NB_asTold_loop {nf : Nat} {ln : LN} {fi : FI} {ar : AR} {j : Nat} {l : List Nat} (hN : NB fi ar j l) (hl : ∀ x, x ∈ l → x < 65536) (hln : ln (30 + j) = 260) (h1 : 1 ≤ l.length) (h2 : l.length ≤ 255) (hnf : 20 ≤ nf) : ∀ (m i kf : Nat), i + m = l.length → m < kf → FX6_asTold_34 nf ln j kf (nI i) fi ar = some ((if (∀ t, t < l.length → i ≤ t → uok (l.getD t 0)) ∧ l.getD (l.length - 1) 0 ≠ 32 ∧ l.getD (l.length - 1) 0 ≠ 46 then 1 else 0), fi, ar) := by
  have hb : ∀ t, t < l.length → l.getD t 0 < 65536 := fun t ht => by
    rw [List.getD_eq_getElem?_getD, List.getElem?_eq_getElem ht]
    exact hl _ (List.getElem_mem ht)
  intro m
  induction m with
  | zero =>
    intro i kf hi hk
    obtain ⟨kf, rfl⟩ : ∃ k, kf = k + 1 := ⟨kf - 1, by omega⟩
    have hb1 := hb (l.length - 1) (by omega)
    have e1 := hN.2 (l.length - 1) (by omega)
    have hall : ∀ t, t < l.length → i ≤ t → uok (l.getD t 0) := fun t a b => by omega
    rw [show FX6_asTold_34 nf ln j (kf + 1) = FX6_asTold_34b (FX6_asTold_34 nf ln j kf) nf ln j from rfl]
    unfold FX6_asTold_34b FX6_asTold_98 FX6_asTold_99
    rw [hN.1]
    by_cases q1 : l.getD (l.length - 1) 0 = 32
    · rw [if_neg (fun w => w.2.1 q1)]
      simp (disch := first | omega | decide) only [zlt, zle, zeq, zltl, zllt, zlel, zlle, zeql, zll, ↓zlt, ↓zle, ↓zeq, ↓zltl, ↓zllt, ↓zlel, ↓zlle, ↓zeql, ↓zll, ↓if_pos, ↓if_neg, if_pos, if_neg, ↓zgd, zgd, zgdc, ↓zgd0, zgd0c, zcl0, ↓zbit, zbitc, ↓zbit1, ↓zbit0, nI_clamp, zaddl, zladd, zsubl, zlsub, zmull, zlmul, zdivl, nI_1, nI_add, nI_mulL, zand1, zand3, zand15, zand31, zand63, zand255, zand65535, zshr1, zshl7, zshl8, zshl9, zbit8, zbit16, ↓bnd_eq, bnd_eq, obnd_some, obnd3_some, obnd6_some, e1]
    · by_cases q2 : l.getD (l.length - 1) 0 = 46
      · rw [if_neg (fun w => w.2.2 q2)]
        simp (disch := first | omega | decide) only [zlt, zle, zeq, zltl, zllt, zlel, zlle, zeql, zll, ↓zlt, ↓zle, ↓zeq, ↓zltl, ↓zllt, ↓zlel, ↓zlle, ↓zeql, ↓zll, ↓if_pos, ↓if_neg, if_pos, if_neg, ↓zgd, zgd, zgdc, ↓zgd0, zgd0c, zcl0, ↓zbit, zbitc, ↓zbit1, ↓zbit0, nI_clamp, zaddl, zladd, zsubl, zlsub, zmull, zlmul, zdivl, nI_1, nI_add, nI_mulL, zand1, zand3, zand15, zand31, zand63, zand255, zand65535, zshr1, zshl7, zshl8, zshl9, zbit8, zbit16, ↓bnd_eq, bnd_eq, obnd_some, obnd3_some, obnd6_some, e1]
      · rw [if_pos ⟨hall, q1, q2⟩]
        simp (disch := first | omega | decide) only [zlt, zle, zeq, zltl, zllt, zlel, zlle, zeql, zll, ↓zlt, ↓zle, ↓zeq, ↓zltl, ↓zllt, ↓zlel, ↓zlle, ↓zeql, ↓zll, ↓if_pos, ↓if_neg, if_pos, if_neg, ↓zgd, zgd, zgdc, ↓zgd0, zgd0c, zcl0, ↓zbit, zbitc, ↓zbit1, ↓zbit0, nI_clamp, zaddl, zladd, zsubl, zlsub, zmull, zlmul, zdivl, nI_1, nI_add, nI_mulL, zand1, zand3, zand15, zand31, zand63, zand255, zand65535, zshr1, zshl7, zshl8, zshl9, zbit8, zbit16, ↓bnd_eq, bnd_eq, obnd_some, obnd3_some, obnd6_some, e1]
  | succ m ih =>
    intro i kf hi hk
    obtain ⟨kf, rfl⟩ : ∃ k, kf = k + 1 := ⟨kf - 1, by omega⟩
    have hb1 := hb i (by omega)
    have e1 := hN.2 i (by omega)
    have g := ih (i + 1) kf (by omega) (by omega)
    by_cases q : uok (l.getD i 0)
    · have hiff : ((∀ t, t < l.length → i ≤ t → uok (l.getD t 0)) ∧ l.getD (l.length - 1) 0 ≠ 32 ∧ l.getD (l.length - 1) 0 ≠ 46) ↔ ((∀ t, t < l.length → i + 1 ≤ t → uok (l.getD t 0)) ∧ l.getD (l.length - 1) 0 ≠ 32 ∧ l.getD (l.length - 1) 0 ≠ 46) := by
        rw [allT (by omega)]
        exact ⟨fun w => ⟨w.1.2, w.2⟩, fun w => ⟨⟨q, w.1⟩, w.2⟩⟩
      rw [iteC hiff (fun _ => rfl), ← g]
      rw [show FX6_asTold_34 nf ln j (kf + 1) = FX6_asTold_34b (FX6_asTold_34 nf ln j kf) nf ln j from rfl]
      unfold FX6_asTold_34b
      rw [hN.1]
      simp (disch := first | omega | decide) only [zlt, zle, zeq, zltl, zllt, zlel, zlle, zeql, zll, ↓zlt, ↓zle, ↓zeq, ↓zltl, ↓zllt, ↓zlel, ↓zlle, ↓zeql, ↓zll, ↓if_pos, ↓if_neg, if_pos, if_neg, ↓zgd, zgd, zgdc, ↓zgd0, zgd0c, zcl0, ↓zbit, zbitc, ↓zbit1, ↓zbit0, nI_clamp, zaddl, zladd, zsubl, zlsub, zmull, zlmul, zdivl, nI_1, nI_add, nI_mulL, zand1, zand3, zand15, zand31, zand63, zand255, zand65535, zshr1, zshl7, zshl8, zshl9, zbit8, zbit16, ↓bnd_eq, bnd_eq, obnd_some, obnd3_some, obnd6_some, e1, mayName_eq, q, if_true, nI1]
    · rw [if_neg (fun w => q (w.1 i (by omega) (Nat.le_refl _)))]
      rw [show FX6_asTold_34 nf ln j (kf + 1) = FX6_asTold_34b (FX6_asTold_34 nf ln j kf) nf ln j from rfl]
      unfold FX6_asTold_34b
      rw [hN.1]
      simp (disch := first | omega | decide) only [zlt, zle, zeq, zltl, zllt, zlel, zlle, zeql, zll, ↓zlt, ↓zle, ↓zeq, ↓zltl, ↓zllt, ↓zlel, ↓zlle, ↓zeql, ↓zll, ↓if_pos, ↓if_neg, if_pos, if_neg, ↓zgd, zgd, zgdc, ↓zgd0, zgd0c, zcl0, ↓zbit, zbitc, ↓zbit1, ↓zbit0, nI_clamp, zaddl, zladd, zsubl, zlsub, zmull, zlmul, zdivl, nI_1, nI_add, nI_mulL, zand1, zand3, zand15, zand31, zand63, zand255, zand65535, zshr1, zshl7, zshl8, zshl9, zbit8, zbit16, ↓bnd_eq, bnd_eq, obnd_some, obnd3_some, obnd6_some, e1, mayName_eq, q, if_false]
theorem NB_asTold {nf : Nat} {ln : LN} {fi : FI} {ar : AR} {j : Nat} {l : List Nat} (hN : NB fi ar j l) (hl : ∀ x, x ∈ l → x < 65536) (hln : ln (30 + j) = 260) (h2 : l.length ≤ 260) (hnf : 300 ≤ nf) : FX6_asTold nf ln j fi ar = some ((if nmOK l then 1 else 0), fi, ar) := by
  have e260 : Int32.ofNat (ln (30 + j)) = nI 260 := by rw [hln]; rfl
  unfold FX6_asTold FX6_asTold_30
  rw [e260, hN.1]
  by_cases q1 : 1 ≤ l.length
  · by_cases q2 : l.length ≤ 255
    · have g := NB_asTold_loop (nf := nf) hN hl hln q1 q2 (by omega) l.length 0 nf (by omega) (by omega)
      have hiff : nmOK l ↔ ((∀ t, t < l.length → 0 ≤ t → uok (l.getD t 0)) ∧ l.getD (l.length - 1) 0 ≠ 32 ∧ l.getD (l.length - 1) 0 ≠ 46) := by
        constructor
        · rintro ⟨_, _, w3, w4⟩
          refine ⟨fun t ht _ => ?_, w4⟩
          rw [List.getD_eq_getElem?_getD, List.getElem?_eq_getElem ht]
          exact w3 _ (List.getElem_mem ht)
        · rintro ⟨w1, w2⟩
          refine ⟨q1, q2, fun x hx => ?_, w2⟩
          obtain ⟨t, ht, rfl⟩ := List.getElem_of_mem hx
          have := w1 t ht (Nat.zero_le _)
          rwa [List.getD_eq_getElem?_getD, List.getElem?_eq_getElem ht] at this
      rw [iteC hiff (fun _ => rfl), ← g]
      simp (disch := first | omega | decide) only [zlt, zle, zeq, zltl, zllt, zlel, zlle, zeql, zll, ↓zlt, ↓zle, ↓zeq, ↓zltl, ↓zllt, ↓zlel, ↓zlle, ↓zeql, ↓zll, ↓if_pos, ↓if_neg, if_pos, if_neg, ↓zgd, zgd, zgdc, ↓zgd0, zgd0c, zcl0, ↓zbit, zbitc, ↓zbit1, ↓zbit0, nI_clamp, zaddl, zladd, zsubl, zlsub, zmull, zlmul, zdivl, nI_1, nI_add, nI_mulL, zand1, zand3, zand15, zand31, zand63, zand255, zand65535, zshr1, zshl7, zshl8, zshl9, zbit8, zbit16, ↓bnd_eq, bnd_eq, obnd_some, obnd3_some, obnd6_some]
      rfl
    · rw [if_neg (fun w : nmOK l => q2 w.2.1)]
      simp (disch := first | omega | decide) only [zlt, zle, zeq, zltl, zllt, zlel, zlle, zeql, zll, ↓zlt, ↓zle, ↓zeq, ↓zltl, ↓zllt, ↓zlel, ↓zlle, ↓zeql, ↓zll, ↓if_pos, ↓if_neg, if_pos, if_neg, ↓zgd, zgd, zgdc, ↓zgd0, zgd0c, zcl0, ↓zbit, zbitc, ↓zbit1, ↓zbit0, nI_clamp, zaddl, zladd, zsubl, zlsub, zmull, zlmul, zdivl, nI_1, nI_add, nI_mulL, zand1, zand3, zand15, zand31, zand63, zand255, zand65535, zshr1, zshl7, zshl8, zshl9, zbit8, zbit16, ↓bnd_eq, bnd_eq, obnd_some, obnd3_some, obnd6_some]
  · rw [if_neg (fun w : nmOK l => q1 w.1)]
    simp (disch := first | omega | decide) only [zlt, zle, zeq, zltl, zllt, zlel, zlle, zeql, zll, ↓zlt, ↓zle, ↓zeq, ↓zltl, ↓zllt, ↓zlel, ↓zlle, ↓zeql, ↓zll, ↓if_pos, ↓if_neg, if_pos, if_neg, ↓zgd, zgd, zgdc, ↓zgd0, zgd0c, zcl0, ↓zbit, zbitc, ↓zbit1, ↓zbit0, nI_clamp, zaddl, zladd, zsubl, zlsub, zmull, zlmul, zdivl, nI_1, nI_add, nI_mulL, zand1, zand3, zand15, zand31, zand63, zand255, zand65535, zshr1, zshl7, zshl8, zshl9, zbit8, zbit16, ↓bnd_eq, bnd_eq, obnd_some, obnd3_some, obnd6_some]
theorem fills_loop {nf : Nat} {ln : LN} {fi : FI} {ar : AR} {j np : Nat} {f : Nat → Nat} (hln : ln (30 + j) = 260) (hnp : np ≤ 20) (hu : ∀ u, u < 13 * np → ar (30 + j) u = nI (f u) ∧ f u < 65536) : ∀ (m i kf : Nat), i + m = 13 * np → m < kf → FX6_fills_17 nf ln j kf (nI np) (nI i) fi ar = some ((if (∀ t, t < 13 * np → i ≤ t → f t = 65535) then 1 else 0), fi, ar) := by
  have e260 : Int32.ofNat (ln (30 + j)) = nI 260 := by rw [hln]; rfl
  intro m
  induction m with
  | zero =>
    intro i kf hi hk
    obtain ⟨kf, rfl⟩ : ∃ k, kf = k + 1 := ⟨kf - 1, by omega⟩
    rw [if_pos (fun t a b => by omega)]
    rw [show FX6_fills_17 nf ln j (kf + 1) = FX6_fills_17b (FX6_fills_17 nf ln j kf) nf ln j from rfl]
    unfold FX6_fills_17b FX6_fills_53
    simp (disch := first | omega | decide) only [zlt, zle, zeq, zltl, zllt, zlel, zlle, zeql, zll, ↓zlt, ↓zle, ↓zeq, ↓zltl, ↓zllt, ↓zlel, ↓zlle, ↓zeql, ↓zll, ↓if_pos, ↓if_neg, if_pos, if_neg, ↓zgd, zgd, zgdc, ↓zgd0, zgd0c, zcl0, ↓zbit, zbitc, ↓zbit1, ↓zbit0, nI_clamp, zaddl, zladd, zsubl, zlsub, zmull, zlmul, zdivl, nI_1, nI_add, nI_mulL, zand1, zand3, zand15, zand31, zand63, zand255, zand65535, zshr1, zshl7, zshl8, zshl9, zbit8, zbit16, ↓bnd_eq, bnd_eq, obnd_some, obnd3_some, obnd6_some]
  | succ m ih =>
    intro i kf hi hk
    obtain ⟨kf, rfl⟩ : ∃ k, kf = k + 1 := ⟨kf - 1, by omega⟩
    have g := ih (i + 1) kf (by omega) (by omega)
    have h1 := hu i (by omega)
    by_cases q : f i = 65535
    · have hiff : (∀ t, t < 13 * np → i ≤ t → f t = 65535) ↔ (∀ t, t < 13 * np → i + 1 ≤ t → f t = 65535) := by
        rw [allT (by omega)]
        exact ⟨fun w => w.2, fun w => ⟨q, w⟩⟩
      rw [iteC hiff (fun _ => rfl), ← g]
      rw [show FX6_fills_17 nf ln j (kf + 1) = FX6_fills_17b (FX6_fills_17 nf ln j kf) nf ln j from rfl]
      unfold FX6_fills_17b FX6_fills_53
      rw [e260]
      simp (disch := first | omega | decide) only [zlt, zle, zeq, zltl, zllt, zlel, zlle, zeql, zll, ↓zlt, ↓zle, ↓zeq, ↓zltl, ↓zllt, ↓zlel, ↓zlle, ↓zeql, ↓zll, ↓if_pos, ↓if_neg, if_pos, if_neg, ↓zgd, zgd, zgdc, ↓zgd0, zgd0c, zcl0, ↓zbit, zbitc, ↓zbit1, ↓zbit0, nI_clamp, zaddl, zladd, zsubl, zlsub, zmull, zlmul, zdivl, nI_1, nI_add, nI_mulL, zand1, zand3, zand15, zand31, zand63, zand255, zand65535, zshr1, zshl7, zshl8, zshl9, zbit8, zbit16, ↓bnd_eq, bnd_eq, obnd_some, obnd3_some, obnd6_some, h1.1]
    · rw [if_neg (fun w => q (w i (by omega) (Nat.le_refl _)))]
      rw [show FX6_fills_17 nf ln j (kf + 1) = FX6_fills_17b (FX6_fills_17 nf ln j kf) nf ln j from rfl]
      unfold FX6_fills_17b FX6_fills_53
      rw [e260]
      simp (disch := first | omega | decide) only [zlt, zle, zeq, zltl, zllt, zlel, zlle, zeql, zll, ↓zlt, ↓zle, ↓zeq, ↓zltl, ↓zllt, ↓zlel, ↓zlle, ↓zeql, ↓zll, ↓if_pos, ↓if_neg, if_pos, if_neg, ↓zgd, zgd, zgdc, ↓zgd0, zgd0c, zcl0, ↓zbit, zbitc, ↓zbit1, ↓zbit0, nI_clamp, zaddl, zladd, zsubl, zlsub, zmull, zlmul, zdivl, nI_1, nI_add, nI_mulL, zand1, zand3, zand15, zand31, zand63, zand255, zand65535, zshr1, zshl7, zshl8, zshl9, zbit8, zbit16, ↓bnd_eq, bnd_eq, obnd_some, obnd3_some, obnd6_some, h1.1]
theorem fills_eq {nf : Nat} {ln : LN} {fi : FI} {ar : AR} {j np : Nat} {f : Nat → Nat} {l : List Nat} (hN : NB fi ar j l) (hl : l.length ≤ 13 * np) (hln : ln (30 + j) = 260) (hnp : np ≤ 20) (hu : ∀ u, u < 13 * np → ar (30 + j) u = nI (f u) ∧ f u < 65536) (hnf : 300 ≤ nf) : FX6_fills nf ln j fi ar (nI np) = some ((if (l.length + 12) / 13 = np ∧ ∀ i, i < 13 * np → l.length < i → f i = 65535 then 1 else 0), fi, ar) := by
  unfold FX6_fills FX6_partsWanted
  rw [hN.1]
  have e12 : l.length + 13 - 1 = l.length + 12 := by omega
  by_cases q : (l.length + 12) / 13 = np
  · by_cases q2 : l.length = 13 * np
    · have hnf1 : ∃ k, nf = k + 1 := ⟨nf - 1, by omega⟩
      obtain ⟨k, rfl⟩ := hnf1
      have hall : (l.length + 12) / 13 = np ∧ ∀ i, i < 13 * np → l.length < i → f i = 65535 := ⟨q, fun i a b => by omega⟩
      rw [if_pos hall]
      simp (disch := first | omega | decide) only [zlt, zle, zeq, zltl, zllt, zlel, zlle, zeql, zll, ↓zlt, ↓zle, ↓zeq, ↓zltl, ↓zllt, ↓zlel, ↓zlle, ↓zeql, ↓zll, ↓if_pos, ↓if_neg, if_pos, if_neg, ↓zgd, zgd, zgdc, ↓zgd0, zgd0c, zcl0, ↓zbit, zbitc, ↓zbit1, ↓zbit0, nI_clamp, zaddl, zladd, zsubl, zlsub, zmull, zlmul, zdivl, nI_1, nI_add, nI_mulL, zand1, zand3, zand15, zand31, zand63, zand255, zand65535, zshr1, zshl7, zshl8, zshl9, zbit8, zbit16, ↓bnd_eq, bnd_eq, obnd_some, obnd3_some, obnd6_some, e12, hN.1]
      rw [show FX6_fills_17 (k + 1) ln j (k + 1) = FX6_fills_17b (FX6_fills_17 (k + 1) ln j k) (k + 1) ln j from rfl]
      unfold FX6_fills_17b FX6_fills_53
      simp (disch := first | omega | decide) only [zlt, zle, zeq, zltl, zllt, zlel, zlle, zeql, zll, ↓zlt, ↓zle, ↓zeq, ↓zltl, ↓zllt, ↓zlel, ↓zlle, ↓zeql, ↓zll, ↓if_pos, ↓if_neg, if_pos, if_neg, ↓zgd, zgd, zgdc, ↓zgd0, zgd0c, zcl0, ↓zbit, zbitc, ↓zbit1, ↓zbit0, nI_clamp, zaddl, zladd, zsubl, zlsub, zmull, zlmul, zdivl, nI_1, nI_add, nI_mulL, zand1, zand3, zand15, zand31, zand63, zand255, zand65535, zshr1, zshl7, zshl8, zshl9, zbit8, zbit16, ↓bnd_eq, bnd_eq, obnd_some, obnd3_some, obnd6_some]
    · have g := fills_loop (nf := nf) (fi := fi) hln hnp hu (13 * np - (l.length + 1)) (l.length + 1) nf (by omega) (by omega)
      have hiff : ((l.length + 12) / 13 = np ∧ ∀ i, i < 13 * np → l.length < i → f i = 65535) ↔ (∀ t, t < 13 * np → l.length + 1 ≤ t → f t = 65535) := ⟨fun w t a b => w.2 t a (by omega), fun w => ⟨q, fun i a b => w i a (by omega)⟩⟩
      rw [iteC hiff (fun _ => rfl), ← g]
      simp (disch := first | omega | decide) only [zlt, zle, zeq, zltl, zllt, zlel, zlle, zeql, zll, ↓zlt, ↓zle, ↓zeq, ↓zltl, ↓zllt, ↓zlel, ↓zlle, ↓zeql, ↓zll, ↓if_pos, ↓if_neg, if_pos, if_neg, ↓zgd, zgd, zgdc, ↓zgd0, zgd0c, zcl0, ↓zbit, zbitc, ↓zbit1, ↓zbit0, nI_clamp, zaddl, zladd, zsubl, zlsub, zmull, zlmul, zdivl, nI_1, nI_add, nI_mulL, zand1, zand3, zand15, zand31, zand63, zand255, zand65535, zshr1, zshl7, zshl8, zshl9, zbit8, zbit16, ↓bnd_eq, bnd_eq, obnd_some, obnd3_some, obnd6_some, e12, hN.1]
  · rw [if_neg (fun w => q w.1)]
    simp (disch := first | omega | decide) only [zlt, zle, zeq, zltl, zllt, zlel, zlle, zeql, zll, ↓zlt, ↓zle, ↓zeq, ↓zltl, ↓zllt, ↓zlel, ↓zlle, ↓zeql, ↓zll, ↓if_pos, ↓if_neg, if_pos, if_neg, ↓zgd, zgd, zgdc, ↓zgd0, zgd0c, zcl0, ↓zbit, zbitc, ↓zbit1, ↓zbit0, nI_clamp, zaddl, zladd, zsubl, zlsub, zmull, zlmul, zdivl, nI_1, nI_add, nI_mulL, zand1, zand3, zand15, zand31, zand63, zand255, zand65535, zshr1, zshl7, zshl8, zshl9, zbit8, zbit16, ↓bnd_eq, bnd_eq, obnd_some, obnd3_some, obnd6_some, e12]
theorem capital_eq {nf m : Nat} (hm : m < 65536) : FX5_capital nf (nI m) = some (nI (cap m)) := by
  unfold FX5_capital FX5_capital_19 FX5_capital_20 cap
  by_cases q : 97 ≤ m ∧ m ≤ 122
  · rw [if_pos q]
    simp (disch := first | omega | decide) only [zlt, zle, zeq, zltl, zllt, zlel, zlle, zeql, zll, ↓zlt, ↓zle, ↓zeq, ↓zltl, ↓zllt, ↓zlel, ↓zlle, ↓zeql, ↓zll, ↓if_pos, ↓if_neg, if_pos, if_neg, ↓zgd, zgd, zgdc, ↓zgd0, zgd0c, zcl0, ↓zbit, zbitc, ↓zbit1, ↓zbit0, nI_clamp, zaddl, zladd, zsubl, zlsub, zmull, zlmul, zdivl, nI_1, nI_add, nI_mulL, zand1, zand3, zand15, zand31, zand63, zand255, zand65535, zshr1, zshl7, zshl8, zshl9, zbit8, zbit16, ↓bnd_eq, bnd_eq, obnd_some, obnd3_some, obnd6_some]
  · rw [if_neg q]
    by_cases q1 : m < 97
    · simp (disch := first | omega | decide) only [zlt, zle, zeq, zltl, zllt, zlel, zlle, zeql, zll, ↓zlt, ↓zle, ↓zeq, ↓zltl, ↓zllt, ↓zlel, ↓zlle, ↓zeql, ↓zll, ↓if_pos, ↓if_neg, if_pos, if_neg, ↓zgd, zgd, zgdc, ↓zgd0, zgd0c, zcl0, ↓zbit, zbitc, ↓zbit1, ↓zbit0, nI_clamp, zaddl, zladd, zsubl, zlsub, zmull, zlmul, zdivl, nI_1, nI_add, nI_mulL, zand1, zand3, zand15, zand31, zand63, zand255, zand65535, zshr1, zshl7, zshl8, zshl9, zbit8, zbit16, ↓bnd_eq, bnd_eq, obnd_some, obnd3_some, obnd6_some]
    · simp (disch := first | omega | decide) only [zlt, zle, zeq, zltl, zllt, zlel, zlle, zeql, zll, ↓zlt, ↓zle, ↓zeq, ↓zltl, ↓zllt, ↓zlel, ↓zlle, ↓zeql, ↓zll, ↓if_pos, ↓if_neg, if_pos, if_neg, ↓zgd, zgd, zgdc, ↓zgd0, zgd0c, zcl0, ↓zbit, zbitc, ↓zbit1, ↓zbit0, nI_clamp, zaddl, zladd, zsubl, zlsub, zmull, zlmul, zdivl, nI_1, nI_add, nI_mulL, zand1, zand3, zand15, zand31, zand63, zand255, zand65535, zshr1, zshl7, zshl8, zshl9, zbit8, zbit16, ↓bnd_eq, bnd_eq, obnd_some, obnd3_some, obnd6_some]
theorem cap_lt {m : Nat} (hm : m < 65536) : cap m < 65536 := by unfold cap; split <;> omega
def hsh : List Nat → Int32 → Int32
  | [], h => h
  | x :: l, h => hsh l (31 * h + nI (cap x))
theorem hash_loop {nf : Nat} {ln : LN} {fi : FI} {ar : AR} {j : Nat} {l : List Nat} (hN : NB fi ar j l) (hl : ∀ x, x ∈ l → x < 65536) (hln : ln (30 + j) = 260) (h2 : l.length ≤ 260) : ∀ (l2 l1 : List Nat) (kf : Nat) (h : Int32), l1 ++ l2 = l → l2.length < kf → FX6_hash_7 nf ln j kf h (nI l1.length) fi ar = some (hsh l2 h, fi, ar) := by
  have e260 : Int32.ofNat (ln (30 + j)) = nI 260 := by rw [hln]; rfl
  intro l2
  induction l2 with
  | nil =>
    intro l1 kf h hl1 hk
    obtain ⟨kf, rfl⟩ : ∃ k, kf = k + 1 := ⟨kf - 1, by omega⟩
    rw [List.append_nil] at hl1
    subst hl1
    rw [show FX6_hash_7 nf ln j (kf + 1) = FX6_hash_7b (FX6_hash_7 nf ln j kf) nf ln j from rfl]
    unfold FX6_hash_7b FX6_hash_45
    rw [hN.1]
    simp (disch := first | omega | decide) only [zlt, zle, zeq, zltl, zllt, zlel, zlle, zeql, zll, ↓zlt, ↓zle, ↓zeq, ↓zltl, ↓zllt, ↓zlel, ↓zlle, ↓zeql, ↓zll, ↓if_pos, ↓if_neg, if_pos, if_neg, ↓zgd, zgd, zgdc, ↓zgd0, zgd0c, zcl0, ↓zbit, zbitc, ↓zbit1, ↓zbit0, nI_clamp, zaddl, zladd, zsubl, zlsub, zmull, zlmul, zdivl, nI_1, nI_add, nI_mulL, zand1, zand3, zand15, zand31, zand63, zand255, zand65535, zshr1, zshl7, zshl8, zshl9, zbit8, zbit16, ↓bnd_eq, bnd_eq, obnd_some, obnd3_some, obnd6_some]
    rfl
  | cons x l2 ih =>
    intro l1 kf h hl1 hk
    obtain ⟨kf, rfl⟩ : ∃ k, kf = k + 1 := ⟨kf - 1, by omega⟩
    have hlen := congrArg List.length hl1
    rw [List.length_append, List.length_cons] at hlen
    simp only [List.length_cons] at hk
    have hx : x < 65536 := hl x (by rw [← hl1]; simp)
    have e1 : ar (30 + j) l1.length = nI x := by rw [hN.2 l1.length (by omega), ← hl1]; simp
    have g := ih (l1 ++ [x]) kf (31 * h + nI (cap x)) (by rw [List.append_assoc]; exact hl1) (by omega)
    rw [List.length_append] at g
    rw [show FX6_hash_7 nf ln j (kf + 1) = FX6_hash_7b (FX6_hash_7 nf ln j kf) nf ln j from rfl]
    unfold FX6_hash_7b FX6_hash_45
    rw [hN.1, e260]
    simp (disch := first | omega | decide) only [zlt, zle, zeq, zltl, zllt, zlel, zlle, zeql, zll, ↓zlt, ↓zle, ↓zeq, ↓zltl, ↓zllt, ↓zlel, ↓zlle, ↓zeql, ↓zll, ↓if_pos, ↓if_neg, if_pos, if_neg, ↓zgd, zgd, zgdc, ↓zgd0, zgd0c, zcl0, ↓zbit, zbitc, ↓zbit1, ↓zbit0, nI_clamp, zaddl, zladd, zsubl, zlsub, zmull, zlmul, zdivl, nI_1, nI_add, nI_mulL, zand1, zand3, zand15, zand31, zand63, zand255, zand65535, zshr1, zshl7, zshl8, zshl9, zbit8, zbit16, ↓bnd_eq, bnd_eq, obnd_some, obnd3_some, obnd6_some, e1, capital_eq]
    exact g
theorem hash_eq {nf : Nat} {ln : LN} {fi : FI} {ar : AR} {j : Nat} {l : List Nat} (hN : NB fi ar j l) (hl : ∀ x, x ∈ l → x < 65536) (hln : ln (30 + j) = 260) (h2 : l.length ≤ 260) (hnf : 300 ≤ nf) : FX6_hash nf ln j fi ar = some (hsh l (nI l.length), fi, ar) := by
  unfold FX6_hash
  rw [hN.1]
  exact hash_loop hN hl hln h2 l [] nf (nI l.length) rfl (by omega)
theorem hsh_alk : ∀ (a b : List Nat) (h : Int32), alk a b → hsh a h = hsh b h := by
  intro a
  induction a with
  | nil =>
    intro b h hab
    cases b with
    | nil => rfl
    | cons y b => simp [alk] at hab
  | cons x a ih =>
    intro b h hab
    cases b with
    | nil => simp [alk] at hab
    | cons y b =>
      simp only [alk, List.map_cons, List.cons.injEq] at hab
      rw [hsh, hsh, hab.1]
      exact ih b _ hab.2
theorem alk_len {a b : List Nat} (h : alk a b) : a.length = b.length := by have := congrArg List.length h; simpa using this
theorem unit_eq {nf : Nat} {ln : LN} {fi : FI} {ar : AR} {j i x : Nat} (hln : ln (30 + j) = 260) (hi : i < 260) (hx : ar (30 + j) i = nI x) : FX6_unit nf ln j fi ar (nI i) = some (nI x, fi, ar) := by
  have e260 : Int32.ofNat (ln (30 + j)) = nI 260 := by rw [hln]; rfl
  unfold FX6_unit FX6_unit_23 FX6_unit_13
  rw [e260]
  simp (disch := first | omega | decide) only [zlt, zle, zeq, zltl, zllt, zlel, zlle, zeql, zll, ↓zlt, ↓zle, ↓zeq, ↓zltl, ↓zllt, ↓zlel, ↓zlle, ↓zeql, ↓zll, ↓if_pos, ↓if_neg, if_pos, if_neg, ↓zgd, zgd, zgdc, ↓zgd0, zgd0c, zcl0, ↓zbit, zbitc, ↓zbit1, ↓zbit0, nI_clamp, zaddl, zladd, zsubl, zlsub, zmull, zlmul, zdivl, nI_1, nI_add, nI_mulL, zand1, zand3, zand15, zand31, zand63, zand255, zand65535, zshr1, zshl7, zshl8, zshl9, zbit8, zbit16, ↓bnd_eq, bnd_eq, obnd_some, obnd3_some, obnd6_some, hx]
theorem alike_loop {nf : Nat} {ln : LN} {fi : FI} {ar : AR} {j k : Nat} {a b : List Nat} (hA : NB fi ar j a) (hB : NB fi ar k b) (ha : ∀ x, x ∈ a → x < 65536) (hb : ∀ x, x ∈ b → x < 65536) (hln : ln (30 + j) = 260) (hln2 : ln (30 + k) = 260) (h2 : a.length ≤ 260) : ∀ (a2 b2 a1 b1 : List Nat) (kf : Nat), a1 ++ a2 = a → b1 ++ b2 = b → a1.length = b1.length → a2.length = b2.length → a2.length < kf → FX6_isAlike_15 nf ln j k kf (nI a1.length) fi ar = some ((if alk a2 b2 then 1 else 0), fi, ar) := by
  intro a2
  induction a2 with
  | nil =>
    intro b2 a1 b1 kf e1 e2 e3 e4 hk
    obtain ⟨kf, rfl⟩ : ∃ k, kf = k + 1 := ⟨kf - 1, by omega⟩
    have : b2 = [] := List.length_eq_zero_iff.mp e4.symm
    subst this
    rw [List.append_nil] at e1
    subst e1
    rw [if_pos rfl]
    rw [show FX6_isAlike_15 nf ln j k (kf + 1) = FX6_isAlike_15b (FX6_isAlike_15 nf ln j k kf) nf ln j k from rfl]
    unfold FX6_isAlike_15b
    rw [hA.1]
    simp (disch := first | omega | decide) only [zlt, zle, zeq, zltl, zllt, zlel, zlle, zeql, zll, ↓zlt, ↓zle, ↓zeq, ↓zltl, ↓zllt, ↓zlel, ↓zlle, ↓zeql, ↓zll, ↓if_pos, ↓if_neg, if_pos, if_neg, ↓zgd, zgd, zgdc, ↓zgd0, zgd0c, zcl0, ↓zbit, zbitc, ↓zbit1, ↓zbit0, nI_clamp, zaddl, zladd, zsubl, zlsub, zmull, zlmul, zdivl, nI_1, nI_add, nI_mulL, zand1, zand3, zand15, zand31, zand63, zand255, zand65535, zshr1, zshl7, zshl8, zshl9, zbit8, zbit16, ↓bnd_eq, bnd_eq, obnd_some, obnd3_some, obnd6_some]
  | cons x a2 ih =>
    intro b2 a1 b1 kf e1 e2 e3 e4 hk
    obtain ⟨kf, rfl⟩ : ∃ k, kf = k + 1 := ⟨kf - 1, by omega⟩
    cases b2 with
    | nil => simp at e4
    | cons y b2 =>
      have hlen := congrArg List.length e1
      rw [List.length_append, List.length_cons] at hlen
      have hlen2 := congrArg List.length e2
      rw [List.length_append, List.length_cons] at hlen2
      simp only [List.length_cons] at hk e4
      have hx : x < 65536 := ha x (by rw [← e1]; simp)
      have hy : y < 65536 := hb y (by rw [← e2]; simp)
      have cx := cap_lt hx
      have cy := cap_lt hy
      have u1 : ar (30 + j) a1.length = nI x := by rw [hA.2 a1.length (by omega), ← e1]; simp
      have u2 : ar (30 + k) a1.length = nI y := by rw [hB.2 a1.length (by omega), ← e2, e3]; simp
      have g := ih b2 (a1 ++ [x]) (b1 ++ [y]) kf (by rw [List.append_assoc]; exact e1) (by rw [List.append_assoc]; exact e2) (by rw [List.length_append, List.length_append, e3]; rfl) (by omega) (by omega)
      rw [List.length_append] at g
      rw [show FX6_isAlike_15 nf ln j k (kf + 1) = FX6_isAlike_15b (FX6_isAlike_15 nf ln j k kf) nf ln j k from rfl]
      unfold FX6_isAlike_15b
      rw [hA.1]
      by_cases q : cap x = cap y
      · have hiff : alk (x :: a2) (y :: b2) ↔ alk a2 b2 := by simp [alk, q]
        rw [iteC hiff (fun _ => rfl), ← g]
        simp (disch := first | omega | decide) only [zlt, zle, zeq, zltl, zllt, zlel, zlle, zeql, zll, ↓zlt, ↓zle, ↓zeq, ↓zltl, ↓zllt, ↓zlel, ↓zlle, ↓zeql, ↓zll, ↓if_pos, ↓if_neg, if_pos, if_neg, ↓zgd, zgd, zgdc, ↓zgd0, zgd0c, zcl0, ↓zbit, zbitc, ↓zbit1, ↓zbit0, nI_clamp, zaddl, zladd, zsubl, zlsub, zmull, zlmul, zdivl, nI_1, nI_add, nI_mulL, zand1, zand3, zand15, zand31, zand63, zand255, zand65535, zshr1, zshl7, zshl8, zshl9, zbit8, zbit16, ↓bnd_eq, bnd_eq, obnd_some, obnd3_some, obnd6_some, unit_eq hln _ u1, unit_eq hln2 _ u2, capital_eq]
        rfl
      · rw [if_neg (fun w : alk (x :: a2) (y :: b2) => q (by simp only [alk, List.map_cons, List.cons.injEq] at w; exact w.1))]
        simp (disch := first | omega | decide) only [zlt, zle, zeq, zltl, zllt, zlel, zlle, zeql, zll, ↓zlt, ↓zle, ↓zeq, ↓zltl, ↓zllt, ↓zlel, ↓zlle, ↓zeql, ↓zll, ↓if_pos, ↓if_neg, if_pos, if_neg, ↓zgd, zgd, zgdc, ↓zgd0, zgd0c, zcl0, ↓zbit, zbitc, ↓zbit1, ↓zbit0, nI_clamp, zaddl, zladd, zsubl, zlsub, zmull, zlmul, zdivl, nI_1, nI_add, nI_mulL, zand1, zand3, zand15, zand31, zand63, zand255, zand65535, zshr1, zshl7, zshl8, zshl9, zbit8, zbit16, ↓bnd_eq, bnd_eq, obnd_some, obnd3_some, obnd6_some, unit_eq hln _ u1, unit_eq hln2 _ u2, capital_eq]
theorem alike_eq {nf : Nat} {ln : LN} {fi : FI} {ar : AR} {j k : Nat} {a b : List Nat} (hA : NB fi ar j a) (hB : NB fi ar k b) (ha : ∀ x, x ∈ a → x < 65536) (hb : ∀ x, x ∈ b → x < 65536) (hln : ln (30 + j) = 260) (hln2 : ln (30 + k) = 260) (h2 : a.length ≤ 260) (h3 : b.length ≤ 260) (hnf : 300 ≤ nf) : FX6_isAlike nf ln j k fi ar = some ((if alk a b then 1 else 0), fi, ar) := by
  unfold FX6_isAlike
  rw [hA.1, hB.1]
  by_cases q : a.length = b.length
  · rw [← alike_loop (nf := nf) hA hB ha hb hln hln2 h2 a b [] [] nf rfl rfl rfl q (by omega)]
    simp (disch := first | omega | decide) only [zlt, zle, zeq, zltl, zllt, zlel, zlle, zeql, zll, ↓zlt, ↓zle, ↓zeq, ↓zltl, ↓zllt, ↓zlel, ↓zlle, ↓zeql, ↓zll, ↓if_pos, ↓if_neg, if_pos, if_neg, ↓zgd, zgd, zgdc, ↓zgd0, zgd0c, zcl0, ↓zbit, zbitc, ↓zbit1, ↓zbit0, nI_clamp, zaddl, zladd, zsubl, zlsub, zmull, zlmul, zdivl, nI_1, nI_add, nI_mulL, zand1, zand3, zand15, zand31, zand63, zand255, zand65535, zshr1, zshl7, zshl8, zshl9, zbit8, zbit16, ↓bnd_eq, bnd_eq, obnd_some, obnd3_some, obnd6_some]
    rfl
  · rw [if_neg (fun w : alk a b => q (alk_len w))]
    simp (disch := first | omega | decide) only [zlt, zle, zeq, zltl, zllt, zlel, zlle, zeql, zll, ↓zlt, ↓zle, ↓zeq, ↓zltl, ↓zllt, ↓zlel, ↓zlle, ↓zeql, ↓zll, ↓if_pos, ↓if_neg, if_pos, if_neg, ↓zgd, zgd, zgdc, ↓zgd0, zgd0c, zcl0, ↓zbit, zbitc, ↓zbit1, ↓zbit0, nI_clamp, zaddl, zladd, zsubl, zlsub, zmull, zlmul, zdivl, nI_1, nI_add, nI_mulL, zand1, zand3, zand15, zand31, zand63, zand255, zand65535, zshr1, zshl7, zshl8, zshl9, zbit8, zbit16, ↓bnd_eq, bnd_eq, obnd_some, obnd3_some, obnd6_some]
