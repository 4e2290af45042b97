/-! the class reads names -/
/-- name j of the class is l -/
def NB (fi : FI) (ar : AR) (j : Nat) (l : List Nat) : Prop := fi (60 + j) = nI l.length ∧ ∀ i, i < l.length → ar (30 + j) i = nI (l.getD i 0)
theorem tPla_eq : ∀ q, q < 13 → tPla.getD q 0 = nI (plc q) := by decide
theorem zrem13 {i : Nat} (h : i < 2147483648) : nI i - nI i / (13 : Int32) * (13 : Int32) = nI (i % 13) := pk_rem (d := 13) h (by omega) (by omega)
theorem shw_len (d : Nat → Nat) (p : Nat) : ∀ q, (shw d p q).length ≤ if 8 < q then q + 1 else q := by
  intro q
  induction q with
  | zero => exact Nat.zero_le _
  | succ q ih =>
    rw [shw, List.length_append, List.length_append]
    have h1 : (if q = 8 ∧ d (p + 8) ≠ 32 then [46] else []).length ≤ if q = 8 then 1 else 0 := by
      by_cases h : q = 8 ∧ d (p + 8) ≠ 32
      · rw [if_pos h, if_pos h.1]; exact Nat.le_refl _
      · rw [if_neg h]; exact Nat.zero_le _
    have h2 : (if d (p + q) = 32 then [] else [d (p + q)]).length ≤ 1 := by
      by_cases h : d (p + q) = 32
      · rw [if_pos h]; exact Nat.zero_le _
      · rw [if_neg h]; exact Nat.le_refl _
    generalize (if q = 8 ∧ d (p + 8) ≠ 32 then [46] else []).length = a at h1 ⊢
    generalize (if d (p + q) = 32 then [] else [d (p + q)]).length = c at h2 ⊢
    generalize (shw d p q).length = e at ih ⊢
    split at ih <;> split at h1 <;> split <;> omega
theorem getD_app1 {l : List Nat} {x i : Nat} : (l ++ [x]).getD i 0 = if i = l.length then x else l.getD i 0 := by
  by_cases h : i = l.length
  · rw [if_pos h, h]; simp
  · rw [if_neg h]
    by_cases h2 : i < l.length
    · rw [List.getD_eq_getElem?_getD, List.getD_eq_getElem?_getD, List.getElem?_append_left h2]
    · rw [List.getD_eq_getElem?_getD, List.getD_eq_getElem?_getD, List.getElem?_eq_none (by rw [List.length_append]; simp only [List.length_cons, List.length_nil]; omega), List.getElem?_eq_none (by omega)]
theorem NB.push {fi : FI} {ar : AR} {j : Nat} {l : List Nat} (h : NB fi ar j l) (x : Nat) : NB (va_up fi (60 + j) (nI (l.length + 1))) (va_up ar (30 + j) (upd (ar (30 + j)) l.length (nI x))) j (l ++ [x]) := by
  refine ⟨by rw [va_up_self, List.length_append]; rfl, fun i hi => ?_⟩
  rw [va_up_self, getD_app1]
  unfold upd
  rw [List.length_append] at hi
  simp only [List.length_cons, List.length_nil] at hi
  by_cases e : i = l.length
  · rw [if_pos e, if_pos e]
  · rw [if_neg e, if_neg e]; exact h.2 i (by omega)
theorem read0_loop {nf : Nat} {ln : LN} {d : Nat → Nat} {i1 j s p : Nat} (hln : ln (30 + j) = 260) (hp : p + 32 ≤ 4 * ln 0) (hnf : 600 ≤ nf) : ∀ (m i kf : Nat) (fi : FI) (ar : AR), CD ln ar d → i + m = 11 → m < kf → NB fi ar j (shw d p i) → ∃ fi' ar', FX6_read_15 nf ln j i1 kf (nI s) (nI 0) (nI p) (nI i) fi ar = some ((), fi', ar') ∧ NB fi' ar' j (shw d p 11) ∧ offF [60 + j] fi fi' ∧ offA (30 + j) ar ar' := by
  intro m
  induction m with
  | zero =>
    intro i kf fi ar hd hi hk hN
    have hl0 := hd.1
    obtain ⟨kf, rfl⟩ : ∃ k, kf = k + 1 := ⟨kf - 1, by omega⟩
    have e11 : i = 11 := by omega
    subst e11
    refine ⟨fi, ar, ?_, hN, offF.rf, offA.rf⟩
    show FX6_read_15b _ nf _ _ _ _ _ _ _ _ _ = _
    unfold FX6_read_15b FX6_read_109
    have e260 : Int32.ofNat (ln (30 + j)) = nI 260 := by rw [hln]; rfl
    rw [e260]
    have em : (if nI 260 < nI 0 * (13 : Int32) then nI 260 else nI 0 * (13 : Int32)) = nI 0 := by decide
    simp (disch := first | omega | decide) only [zlt, zle, zeq, zltl, zllt, zlel, zlle, zeql, zll, ↓zlt, ↓zle, ↓zeq, ↓zltl, ↓zllt, ↓zlel, ↓zlle, ↓zeql, ↓zll, ↓if_pos, ↓if_neg, if_pos, if_neg, ↓zgd, zgd, zgdc, ↓zgd0, zgd0c, zcl0, ↓zbit, zbitc, ↓zbit1, ↓zbit0, nI_clamp, zaddl, zladd, zsubl, zlsub, zmull, zlmul, zdivl, nI_1, nI_add, nI_mulL, zand1, zand3, zand15, zand31, zand63, zand255, zand65535, zshr1, zshl7, zshl8, zshl9, zbit8, zbit16, ↓bnd_eq, bnd_eq, obnd_some, obnd3_some, obnd6_some, em]
    obtain ⟨nf, rfl⟩ : ∃ k, nf = k + 1 := ⟨nf - 1, by omega⟩
    show FX6_read_126b _ (nf + 1) _ _ _ _ _ _ _ _ _ = _
    unfold FX6_read_126b
    rw [show (0 : Int32) = nI 0 from rfl]
    simp (disch := first | omega | decide) only [zlt, zle, zeq, zltl, zllt, zlel, zlle, zeql, zll, ↓zlt, ↓zle, ↓zeq, ↓zltl, ↓zllt, ↓zlel, ↓zlle, ↓zeql, ↓zll, ↓if_pos, ↓if_neg, if_pos, if_neg, ↓zgd, zgd, zgdc, ↓zgd0, zgd0c, zcl0, ↓zbit, zbitc, ↓zbit1, ↓zbit0, nI_clamp, zaddl, zladd, zsubl, zlsub, zmull, zlmul, zdivl, nI_1, nI_add, nI_mulL, zand1, zand3, zand15, zand31, zand63, zand255, zand65535, zshr1, zshl7, zshl8, zshl9, zbit8, zbit16, ↓bnd_eq, bnd_eq, obnd_some, obnd3_some, obnd6_some]
    show FX6_read_189b _ (nf + 1) _ _ _ _ _ _ = _
    unfold FX6_read_189b FX6_read_223
    rw [hN.1]
    have := shw_len d p 11
    rw [if_pos (by omega)] at this
    simp (disch := first | omega | decide) only [zlt, zle, zeq, zltl, zllt, zlel, zlle, zeql, zll, ↓zlt, ↓zle, ↓zeq, ↓zltl, ↓zllt, ↓zlel, ↓zlle, ↓zeql, ↓zll, ↓if_pos, ↓if_neg, if_pos, if_neg, ↓zgd, zgd, zgdc, ↓zgd0, zgd0c, zcl0, ↓zbit, zbitc, ↓zbit1, ↓zbit0, nI_clamp, zaddl, zladd, zsubl, zlsub, zmull, zlmul, zdivl, nI_1, nI_add, nI_mulL, zand1, zand3, zand15, zand31, zand63, zand255, zand65535, zshr1, zshl7, zshl8, zshl9, zbit8, zbit16, ↓bnd_eq, bnd_eq, obnd_some, obnd3_some, obnd6_some]
  | succ m ih =>
    intro i kf fi ar hd hi hk hN
    have hl0 := hd.1
    obtain ⟨kf, rfl⟩ : ∃ k, kf = k + 1 := ⟨kf - 1, by omega⟩
    have h1 := hd.lt (show p + i < 4 * ln 0 by omega)
    have hlen := shw_len d p i
    have hlen2 : (shw d p i).length ≤ 11 := by
      by_cases e : 8 < i
      · rw [if_pos e] at hlen; omega
      · rw [if_neg e] at hlen; omega
    -- the letter itself
    have k75 : ∀ (fi1 : FI) (ar1 : AR) (l : List Nat), CD ln ar1 d → NB fi1 ar1 j l → l.length ≤ 12 → shw d p (i + 1) = l ++ (if d (p + i) = 32 then [] else [d (p + i)]) → ∃ fi' ar', FX6_read_75 (FX6_read_15 nf ln j i1 kf) nf ln j i1 (nI s) (nI 0) (nI p) (nI i) (nI (d (p + i))) fi1 ar1 = some ((), fi', ar') ∧ NB fi' ar' j (shw d p 11) ∧ offF [60 + j] fi1 fi' ∧ offA (30 + j) ar1 ar' := by
      intro fi1 ar1 l hd1 hN1 hl hsh
      unfold FX6_read_75 FX6_read_103
      by_cases q : d (p + i) = 32
      · rw [if_pos q, List.append_nil] at hsh
        obtain ⟨fi', ar', r1, r2, r3, r4⟩ := ih (i + 1) kf fi1 ar1 hd1 (by omega) (by omega) (by rw [hsh]; exact hN1)
        refine ⟨fi', ar', ?_, r2, r3, r4⟩
        simp (disch := first | omega | decide) only [zlt, zle, zeq, zltl, zllt, zlel, zlle, zeql, zll, ↓zlt, ↓zle, ↓zeq, ↓zltl, ↓zllt, ↓zlel, ↓zlle, ↓zeql, ↓zll, ↓if_pos, ↓if_neg, if_pos, if_neg, ↓zgd, zgd, zgdc, ↓zgd0, zgd0c, zcl0, ↓zbit, zbitc, ↓zbit1, ↓zbit0, nI_clamp, zaddl, zladd, zsubl, zlsub, zmull, zlmul, zdivl, nI_1, nI_add, nI_mulL, zand1, zand3, zand15, zand31, zand63, zand255, zand65535, zshr1, zshl7, zshl8, zshl9, zbit8, zbit16, ↓bnd_eq, bnd_eq, obnd_some, obnd3_some, obnd6_some]
        exact r1
      · rw [if_neg q] at hsh
        obtain ⟨fi', ar', r1, r2, r3, r4⟩ := ih (i + 1) kf _ _ (hd1.up (k := 30 + j) (by omega)) (by omega) (by omega) (by rw [hsh]; exact hN1.push (d (p + i)))
        refine ⟨fi', ar', ?_, r2, (offF.rf.up (by simp)).tr r3, fun k hk => by rw [r4 k hk, va_up_ne _ _ hk]⟩
        rw [hN1.1]
        simp (disch := first | omega | decide) only [zlt, zle, zeq, zltl, zllt, zlel, zlle, zeql, zll, ↓zlt, ↓zle, ↓zeq, ↓zltl, ↓zllt, ↓zlel, ↓zlle, ↓zeql, ↓zll, ↓if_pos, ↓if_neg, if_pos, if_neg, ↓zgd, zgd, zgdc, ↓zgd0, zgd0c, zcl0, ↓zbit, zbitc, ↓zbit1, ↓zbit0, nI_clamp, zaddl, zladd, zsubl, zlsub, zmull, zlmul, zdivl, nI_1, nI_add, nI_mulL, zand1, zand3, zand15, zand31, zand63, zand255, zand65535, zshr1, zshl7, zshl8, zshl9, zbit8, zbit16, ↓bnd_eq, bnd_eq, obnd_some, obnd3_some, obnd6_some]
        exact r1
    by_cases e8 : i = 8 ∧ d (p + 8) ≠ 32
    · have hi8 := e8.1
      have q8 : d (p + i) ≠ 32 := by rw [hi8]; exact e8.2
      obtain ⟨fi', ar', r1, r2, r3, r4⟩ := k75 _ _ _ (hd.up (k := 30 + j) (by omega)) (hN.push 46) (by rw [List.length_append]; simp only [List.length_cons, List.length_nil]; omega) (by rw [shw, if_pos e8, List.append_assoc])
      refine ⟨fi', ar', ?_, r2, (offF.rf.up (by simp)).tr r3, fun k hk => by rw [r4 k hk, va_up_ne _ _ hk]⟩
      show FX6_read_15b _ nf _ _ _ _ _ _ _ _ _ = _
      unfold FX6_read_15b
      simp (disch := first | omega | decide) only [zlt, zle, zeq, zltl, zllt, zlel, zlle, zeql, zll, ↓zlt, ↓zle, ↓zeq, ↓zltl, ↓zllt, ↓zlel, ↓zlle, ↓zeql, ↓zll, ↓if_pos, ↓if_neg, if_pos, if_neg, ↓zgd, zgd, zgdc, ↓zgd0, zgd0c, zcl0, ↓zbit, zbitc, ↓zbit1, ↓zbit0, nI_clamp, zaddl, zladd, zsubl, zlsub, zmull, zlmul, zdivl, nI_1, nI_add, nI_mulL, zand1, zand3, zand15, zand31, zand63, zand255, zand65535, zshr1, zshl7, zshl8, zshl9, zbit8, zbit16, ↓bnd_eq, bnd_eq, obnd_some, obnd3_some, obnd6_some, FX3_one_eq hd, hN.1]
      exact r1
    · obtain ⟨fi', ar', r1, r2, r3, r4⟩ := k75 fi ar (shw d p i) hd hN (by omega) (by rw [shw, if_neg e8, List.nil_append])
      refine ⟨fi', ar', ?_, r2, r3, r4⟩
      show FX6_read_15b _ nf _ _ _ _ _ _ _ _ _ = _
      unfold FX6_read_15b
      by_cases hi8 : i = 8
      · have q8 : d (p + i) = 32 := by
          apply Decidable.byContradiction
          intro q
          exact e8 ⟨hi8, by rw [← hi8]; exact q⟩
        simp (disch := first | omega | decide) only [zlt, zle, zeq, zltl, zllt, zlel, zlle, zeql, zll, ↓zlt, ↓zle, ↓zeq, ↓zltl, ↓zllt, ↓zlel, ↓zlle, ↓zeql, ↓zll, ↓if_pos, ↓if_neg, if_pos, if_neg, ↓zgd, zgd, zgdc, ↓zgd0, zgd0c, zcl0, ↓zbit, zbitc, ↓zbit1, ↓zbit0, nI_clamp, zaddl, zladd, zsubl, zlsub, zmull, zlmul, zdivl, nI_1, nI_add, nI_mulL, zand1, zand3, zand15, zand31, zand63, zand255, zand65535, zshr1, zshl7, zshl8, zshl9, zbit8, zbit16, ↓bnd_eq, bnd_eq, obnd_some, obnd3_some, obnd6_some, FX3_one_eq hd]
        exact r1
      · simp (disch := first | omega | decide) only [zlt, zle, zeq, zltl, zllt, zlel, zlle, zeql, zll, ↓zlt, ↓zle, ↓zeq, ↓zltl, ↓zllt, ↓zlel, ↓zlle, ↓zeql, ↓zll, ↓if_pos, ↓if_neg, if_pos, if_neg, ↓zgd, zgd, zgdc, ↓zgd0, zgd0c, zcl0, ↓zbit, zbitc, ↓zbit1, ↓zbit0, nI_clamp, zaddl, zladd, zsubl, zlsub, zmull, zlmul, zdivl, nI_1, nI_add, nI_mulL, zand1, zand3, zand15, zand31, zand63, zand255, zand65535, zshr1, zshl7, zshl8, zshl9, zbit8, zbit16, ↓bnd_eq, bnd_eq, obnd_some, obnd3_some, obnd6_some, FX3_one_eq hd]
        exact r1
