/-! the class's items: read and added -/
theorem addc_some {R : Type} (a b : Nat) (r : R) (fi : FI) (ar : AR) (ln : LN) (kc ks : Nat) : addc a b (some (r, fi, ar, ln, kc, ks)) = some (r, fi, ar, ln, a + kc, b + ks) := rfl
/-- the three arrays of directory i have the length L -/
def LK (ln : LN) (i L : Nat) : Prop := ln (11 + 4 * i) = L ∧ ln (12 + 4 * i) = L ∧ ln (13 + 4 * i) = L ∧ 64 ≤ L ∧ L ≤ 32768
/-- the arrays of directory i have grown: what that cost -/
def GR (i : Nat) (ln ln' : LN) (kc ks : Nat) : Prop := ∃ L L', LK ln i L ∧ LK ln' i L' ∧ L ≤ L' ∧ ks = 6 * (L' - L) ∧ 128 * kc ≤ ks ∧ ∀ k, k ≠ 11 + 4 * i → k ≠ 12 + 4 * i → k ≠ 13 + 4 * i → ln' k = ln k
theorem GR.rf {i : Nat} {ln : LN} {L : Nat} (h : LK ln i L) : GR i ln ln 0 0 := ⟨L, L, h, h, Nat.le_refl _, by omega, by omega, fun _ _ _ _ => rfl⟩
theorem GR.tr {i : Nat} {a b c : LN} {k1 s1 k2 s2 : Nat} (h1 : GR i a b k1 s1) (h2 : GR i b c k2 s2) : GR i a c (k1 + k2) (s1 + s2) := by
  obtain ⟨L1, L2, a1, a2, a3, a4, a5, a6⟩ := h1
  obtain ⟨M1, M2, b1, b2, b3, b4, b5, b6⟩ := h2
  have e : M1 = L2 := b1.1.symm.trans a2.1
  subst e
  exact ⟨L1, M2, a1, b2, by omega, by omega, by omega, fun k p q r => by rw [b6 k p q r, a6 k p q r]⟩
theorem GR.lk {i : Nat} {a b : LN} {k1 s1 : Nat} (h1 : GR i a b k1 s1) : ∃ L, LK b i L := by
  obtain ⟨L1, L2, a1, a2, _⟩ := h1
  exact ⟨L2, a2⟩
theorem GR.off {i : Nat} {a b : LN} {k1 s1 : Nat} (h1 : GR i a b k1 s1) {k : Nat} (p : k ≠ 11 + 4 * i) (q : k ≠ 12 + 4 * i) (r : k ≠ 13 + 4 * i) : b k = a k := by
  obtain ⟨L1, L2, a1, a2, _, _, _, a6⟩ := h1
  exact a6 k p q r
/-- directory i0 of the class has these items -/
def IC (fi : FI) (ar : AR) (i0 : Nat) (its : List (Nat × Nat)) (hs : Nat × Nat → Int32) : Prop := fi (20 + 10 * i0) = nI its.length ∧ ∀ q, q < its.length → ar (11 + 4 * i0) q = nI (its.getD q (0, 0)).1 ∧ ar (12 + 4 * i0) q = nI (its.getD q (0, 0)).2 ∧ ar (13 + 4 * i0) q = hs (its.getD q (0, 0))
theorem slotOf_eq {nf : Nat} {ln : LN} {fi : FI} {ar : AR} {i0 L : Nat} {its : List (Nat × Nat)} {hs : Nat × Nat → Int32} (h : IC fi ar i0 its hs) (hL : LK ln i0 L) (hle : its.length ≤ L) {q : Nat} (hq : q < its.length) : FX2_slotOf nf ln i0 fi ar (nI q) = some (nI (its.getD q (0, 0)).1, fi, ar) := by
  have h1 := hL.1
  have h2 := hL.2.2.2.2
  unfold FX2_slotOf FX2_slotOf_22 FX2_slotOf_12
  simp (disch := first | omega | decide) only [zlt, zle, zeq, zltl, zllt, zlel, zlle, zeql, zll, ↓zlt, ↓zle, ↓zeq, ↓zltl, ↓zllt, ↓zlel, ↓zlle, ↓zeql, ↓zll, ↓if_pos, ↓if_neg, if_pos, if_neg, ↓zgd, zgd, zgdc, ↓zgd0, zgd0c, zcl0, ↓zbit, zbitc, ↓zbit1, ↓zbit0, nI_clamp, zaddl, zladd, zsubl, zlsub, zmull, zlmul, zdivl, nI_1, nI_add, nI_mulL, zand1, zand3, zand15, zand31, zand63, zand255, zand65535, zshr1, zshl7, zshl8, zshl9, zbit8, zbit16, ↓bnd_eq, bnd_eq, obnd_some, obnd3_some, obnd6_some, h.1, (h.2 q hq).1]
theorem partsOf_eq {nf : Nat} {ln : LN} {fi : FI} {ar : AR} {i0 L : Nat} {its : List (Nat × Nat)} {hs : Nat × Nat → Int32} (h : IC fi ar i0 its hs) (hL : LK ln i0 L) (hle : its.length ≤ L) {q : Nat} (hq : q < its.length) : FX2_partsOf nf ln i0 fi ar (nI q) = some (nI (its.getD q (0, 0)).2, fi, ar) := by
  have h1 := hL.2.1
  have h2 := hL.2.2.2.2
  unfold FX2_partsOf FX2_partsOf_22 FX2_partsOf_12
  simp (disch := first | omega | decide) only [zlt, zle, zeq, zltl, zllt, zlel, zlle, zeql, zll, ↓zlt, ↓zle, ↓zeq, ↓zltl, ↓zllt, ↓zlel, ↓zlle, ↓zeql, ↓zll, ↓if_pos, ↓if_neg, if_pos, if_neg, ↓zgd, zgd, zgdc, ↓zgd0, zgd0c, zcl0, ↓zbit, zbitc, ↓zbit1, ↓zbit0, nI_clamp, zaddl, zladd, zsubl, zlsub, zmull, zlmul, zdivl, nI_1, nI_add, nI_mulL, zand1, zand3, zand15, zand31, zand63, zand255, zand65535, zshr1, zshl7, zshl8, zshl9, zbit8, zbit16, ↓bnd_eq, bnd_eq, obnd_some, obnd3_some, obnd6_some, h.1, (h.2 q hq).2.1]
theorem hashOf_eq {nf : Nat} {ln : LN} {fi : FI} {ar : AR} {i0 L : Nat} {its : List (Nat × Nat)} {hs : Nat × Nat → Int32} (h : IC fi ar i0 its hs) (hL : LK ln i0 L) (hle : its.length ≤ L) {q : Nat} (hq : q < its.length) : FX2_hashOf nf ln i0 fi ar (nI q) = some (hs (its.getD q (0, 0)), fi, ar) := by
  have h1 := hL.2.2.1
  have h2 := hL.2.2.2.2
  unfold FX2_hashOf FX2_hashOf_22 FX2_hashOf_12
  simp (disch := first | omega | decide) only [zlt, zle, zeq, zltl, zllt, zlel, zlle, zeql, zll, ↓zlt, ↓zle, ↓zeq, ↓zltl, ↓zllt, ↓zlel, ↓zlle, ↓zeql, ↓zll, ↓if_pos, ↓if_neg, if_pos, if_neg, ↓zgd, zgd, zgdc, ↓zgd0, zgd0c, zcl0, ↓zbit, zbitc, ↓zbit1, ↓zbit0, nI_clamp, zaddl, zladd, zsubl, zlsub, zmull, zlmul, zdivl, nI_1, nI_add, nI_mulL, zand1, zand3, zand15, zand31, zand63, zand255, zand65535, zshr1, zshl7, zshl8, zshl9, zbit8, zbit16, ↓bnd_eq, bnd_eq, obnd_some, obnd3_some, obnd6_some, h.1, (h.2 q hq).2.2]
theorem getD_app2 {α : Type} {l : List α} {x d : α} {i : Nat} : (l ++ [x]).getD i d = if i = l.length then x else l.getD i d := by
  by_cases h : i = l.length
  · rw [if_pos h, h]; simp
  · rw [if_neg h]
    by_cases h2 : i < l.length
    · rw [List.getD_eq_getElem?_getD, List.getD_eq_getElem?_getD, List.getElem?_append_left h2]
    · rw [List.getD_eq_getElem?_getD, List.getD_eq_getElem?_getD, List.getElem?_eq_none (by rw [List.length_append]; simp only [List.length_cons, List.length_nil]; omega), List.getElem?_eq_none (by omega)]
theorem add63_ok {nf i0 L : Nat} {fi : FI} {ar : AR} {ln : LN} {its : List (Nat × Nat)} {hs : Nat × Nat → Int32} (h : IC fi ar i0 its hs) (hL : LK ln i0 L) (hle : its.length < L) (s np : Nat) : ∃ fi' ar', FX2_add_63 nf i0 (nI s) (nI np) (hs (s, np)) fi ar ln = some ((), fi', ar', ln, 0, 0) ∧ IC fi' ar' i0 (its ++ [(s, np)]) hs ∧ offF [20 + 10 * i0] fi fi' ∧ offAs [11 + 4 * i0, 12 + 4 * i0, 13 + 4 * i0] ar ar' := by
  obtain ⟨l1, l2, l3, l4, l5⟩ := hL
  unfold FX2_add_63
  refine ⟨_, _, by simp (disch := first | omega | decide) only [zlt, zle, zeq, zltl, zllt, zlel, zlle, zeql, zll, ↓zlt, ↓zle, ↓zeq, ↓zltl, ↓zllt, ↓zlel, ↓zlle, ↓zeql, ↓zll, ↓if_pos, ↓if_neg, if_pos, if_neg, ↓zgd, zgd, zgdc, ↓zgd0, zgd0c, zcl0, ↓zbit, zbitc, ↓zbit1, ↓zbit0, nI_clamp, zaddl, zladd, zsubl, zlsub, zmull, zlmul, zdivl, nI_1, nI_add, nI_mulL, zand1, zand3, zand15, zand31, zand63, zand255, zand65535, zshr1, zshl7, zshl8, zshl9, zbit8, zbit16, ↓bnd_eq, bnd_eq, obnd_some, obnd3_some, obnd6_some, h.1, l1, l2, l3]; rfl, ⟨?_, fun q hq => ?_⟩, offF.rf.up (by simp), ((offAs.rf.up (by simp)).up (by simp)).up (by simp)⟩
  · rw [va_up_self, List.length_append]; rfl
  · rw [List.length_append] at hq
    simp only [List.length_cons, List.length_nil] at hq
    rw [getD_app2, va_up_off (by omega), va_up_off (by omega), va_up_self, va_up_off (by omega), va_up_self, va_up_self]
    rw [va_up_off (show 12 + 4 * i0 ≠ 11 + 4 * i0 by omega), va_up_off (show 13 + 4 * i0 ≠ 12 + 4 * i0 by omega), va_up_off (show 13 + 4 * i0 ≠ 11 + 4 * i0 by omega)]
    unfold upd
    by_cases e : q = its.length
    · rw [if_pos e, if_pos e, if_pos e, if_pos e]; exact ⟨rfl, rfl, rfl⟩
    · rw [if_neg e, if_neg e, if_neg e, if_neg e]; exact h.2 q (by omega)
theorem cpyN_eq {f : Nat → Int32} {n m : Nat} (h1 : n ≤ m) (h2 : m < 2147483648) {j : Nat} (hj : j < n) : cpyN f n (nI m) j = f j := by
  unfold cpyN
  have e : (if nI m < Int32.ofNat n then nI m else Int32.ofNat n).toNatClampNeg = n := by
    rw [if_neg (show ¬ nI m < Int32.ofNat n from nI_nlt (b := n) h1 h2)]
    exact nI_clamp (by omega)
  rw [e]
  unfold va_cpy
  rw [if_pos (by omega)]
  congr 1
  omega
theorem add_ok {nf i0 L : Nat} {fi : FI} {ar : AR} {ln : LN} {its : List (Nat × Nat)} {hs : Nat × Nat → Int32} (h : IC fi ar i0 its hs) (hL : LK ln i0 L) (hle : its.length ≤ L) (hb : its.length < 16384) (s np : Nat) : ∃ fi' ar' ln' kc ks, FX2_add nf i0 fi ar ln (nI s) (nI np) (hs (s, np)) = some ((), fi', ar', ln', kc, ks) ∧ IC fi' ar' i0 (its ++ [(s, np)]) hs ∧ offF [20 + 10 * i0] fi fi' ∧ offAs [11 + 4 * i0, 12 + 4 * i0, 13 + 4 * i0] ar ar' ∧ GR i0 ln ln' kc ks ∧ (∃ L', LK ln' i0 L' ∧ its.length + 1 ≤ L') := by
  obtain ⟨l1, l2, l3, l4, l5⟩ := id hL
  by_cases q : its.length = L
  · have e2 : (2 : Int32) * nI its.length = nI (2 * L) := by rw [q]; exact pk_mul 2 L
    obtain ⟨ln1, hln1⟩ : ∃ x, x = va_up (va_up (va_up ln (11 + 4 * i0) (2 * L)) (12 + 4 * i0) (2 * L)) (13 + 4 * i0) (2 * L) := ⟨_, rfl⟩
    have hL1 : LK ln1 i0 (2 * L) := by
      rw [hln1]
      refine ⟨?_, ?_, va_up_self _ _ _, by omega, by omega⟩
      · rw [va_up_off (by omega), va_up_off (by omega), va_up_self]
      · rw [va_up_off (by omega), va_up_self]
    obtain ⟨ar1, har1⟩ : ∃ x, x = va_up (va_up (va_up ar (11 + 4 * i0) (cpyN (ar (11 + 4 * i0)) L (nI (2 * L)))) (12 + 4 * i0) (cpyN (ar (12 + 4 * i0)) L (nI (2 * L)))) (13 + 4 * i0) (cpyN (ar (13 + 4 * i0)) L (nI (2 * L))) := ⟨_, rfl⟩
    have hI1 : IC fi ar1 i0 its hs := by
      refine ⟨h.1, fun j hj => ?_⟩
      have g := h.2 j hj
      rw [har1, va_up_off (show 11 + 4 * i0 ≠ 13 + 4 * i0 by omega), va_up_off (show 11 + 4 * i0 ≠ 12 + 4 * i0 by omega), va_up_self, va_up_off (show 12 + 4 * i0 ≠ 13 + 4 * i0 by omega), va_up_self, va_up_self, cpyN_eq (by omega) (by omega) (by omega), cpyN_eq (by omega) (by omega) (by omega), cpyN_eq (by omega) (by omega) (by omega)]
      exact g
    obtain ⟨fi', ar', r1, r2, r3, r4⟩ := add63_ok (nf := nf) hI1 hL1 (by omega) s np
    refine ⟨fi', ar', ln1, 1 + (1 + (1 + 0)), 2 * L + (2 * L + (2 * L + 0)), ?_, r2, r3, ?_, ⟨L, 2 * L, hL, hL1, by omega, by omega, by omega, fun k a b c => by rw [hln1, va_up_off c, va_up_off b, va_up_off a]⟩, 2 * L, hL1, by omega⟩
    · have hc : (nI (2 * L)).toNatClampNeg = 2 * L := nI_clamp (by omega)
      have hgd : ∀ x : Nat, x = L → (x < 2 ^ 31 ∧ ¬ nI (2 * L) < 0 ∧ ¬ nI (2 * L) = Int32.ofNat x ∧ 2 * L * 4 ≤ 536870912) := by
        intro x hx
        subst hx
        refine ⟨by omega, nI_pos (by omega), fun w => ?_, by omega⟩
        have := (uI_eq (a := 2 * x) (b := x) (by omega) (by omega)).mp w
        omega
      have hgd2 : (L < 2 ^ 31 ∧ ¬ nI (2 * L) < 0 ∧ ¬ nI (2 * L) = nI L ∧ 2 * L * 4 ≤ 536870912) := hgd L rfl
      unfold FX2_add
      rw [h.1, l1, show Int32.ofNat L = nI L from rfl, zeq (by omega) (by omega), if_pos q, e2, hc, gdT hgd2, bnd_eq, bnd_eq]
      rw [va_up_off (f := ln) (show 12 + 4 * i0 ≠ 11 + 4 * i0 by omega), l2, gdT (hgd L rfl), bnd_eq, bnd_eq]
      rw [va_up_off (show 13 + 4 * i0 ≠ 12 + 4 * i0 by omega), va_up_off (f := ln) (show 13 + 4 * i0 ≠ 11 + 4 * i0 by omega), l3, gdT (hgd L rfl), bnd_eq, bnd_eq]
      rw [va_up_off (f := ar) (show 12 + 4 * i0 ≠ 11 + 4 * i0 by omega), va_up_off (show 13 + 4 * i0 ≠ 12 + 4 * i0 by omega), va_up_off (f := ar) (show 13 + 4 * i0 ≠ 11 + 4 * i0 by omega), ← hln1, ← har1, r1, addc_some, addc_some, addc_some]
    · intro k hk
      rw [r4 k hk, har1]
      simp only [List.mem_cons, List.not_mem_nil, or_false, not_or] at hk
      rw [va_up_off hk.2.2, va_up_off hk.2.1, va_up_off hk.1]
  · obtain ⟨fi', ar', r1, r2, r3, r4⟩ := add63_ok (nf := nf) h hL (by omega) s np
    refine ⟨fi', ar', ln, 0, 0, ?_, r2, r3, r4, GR.rf hL, L, hL, by omega⟩
    unfold FX2_add
    rw [h.1, l1, show Int32.ofNat L = nI L from rfl, zeq (by omega) (by omega), if_neg q]
    exact r1
