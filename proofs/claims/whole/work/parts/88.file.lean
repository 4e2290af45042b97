/-! the class judges a file's chain, and what it lines up -/
theorem sh9 {c y : Nat} (hc : c = 2 ∨ c = 4 ∨ c = 8) (hy : y < 2147483648) : nI y >>> (nI (shC c + 9) &&& 31) = nI (y / (512 * c)) := by
  rcases hc with rfl | rfl | rfl
  · exact pk_shrN hy _ 10 (by decide)
  · exact pk_shrN hy _ 11 (by decide)
  · exact pk_shrN hy _ 12 (by decide)
theorem mask9 {c y : Nat} (hc : c = 2 ∨ c = 4 ∨ c = 8) (hy : y < 4294967296) : nI y &&& ((512 : Int32) <<< (nI (shC c) &&& 31) - 1) = nI (y % (512 * c)) := by
  rcases hc with rfl | rfl | rfl
  · exact pk_andN hy 10 (by decide)
  · exact pk_andN hy 11 (by decide)
  · exact pk_andN hy 12 (by decide)
theorem ceil_eq {B y : Nat} (hb : 0 < B) : (y + B - 1) / B = y / B + (if y % B = 0 then 0 else 1) := by
  have hdm := Nat.div_add_mod y B
  have hm := Nat.mod_lt y hb
  generalize y / B = q at hdm ⊢
  generalize y % B = r at hdm hm ⊢
  by_cases h0 : r = 0
  · rw [if_pos h0, show y + B - 1 = B - 1 + B * q by omega, Nat.add_mul_div_left _ _ hb, Nat.div_eq_of_lt (by omega)]
    omega
  · rw [if_neg h0, show y + B - 1 = (r - 1) + B * (q + 1) by rw [Nat.mul_add]; omega, Nat.add_mul_div_left _ _ hb, Nat.div_eq_of_lt (by omega)]
    omega
theorem clustersFor_eq {nf : Nat} {ln : LN} {fi : FI} {ar : AR} {G : Geo} {d : Nat → Nat} (h : CW ln fi ar G d) {y : Nat} (hy : y < 2147483648) : FX9_clustersFor nf ln fi ar (nI y) = some (nI (cls G y), fi, ar) := by
  have b := h.2.2.1.b
  have hc := h.2.2.1.1.1
  have g6 := h.2.1.2.2.2.1
  have e := ceil_eq (B := 512 * G.c) (y := y) (by omega)
  unfold cls
  rw [e]
  have hm := Nat.mod_lt y (show 0 < 512 * G.c by omega)
  have es : nI (shC G.c) + (9 : Int32) = nI (shC G.c + 9) := nI_add _ 9
  unfold FX9_clustersFor FX9_clustersFor_20 FX9_byteShift FX9_byteMask
  rw [g6, obnd3_some, es, sh9 hc hy, g6, obnd3_some, mask9 hc (by omega)]
  by_cases q : y % (512 * G.c) = 0
  · rw [if_pos q]
    simp (disch := first | omega | decide) only [zlt, zle, zeq, zltl, zllt, zlel, zlle, zeql, zll, ↓zlt, ↓zle, ↓zeq, ↓zltl, ↓zllt, ↓zlel, ↓zlle, ↓zeql, ↓zll, ↓if_pos, ↓if_neg, if_pos, if_neg, ↓zgd, zgd, zgdc, ↓zgd0, zgd0c, zcl0, ↓zbit, zbitc, ↓zbit1, ↓zbit0, nI_clamp, zaddl, zladd, zsubl, zlsub, zmull, zlmul, zdivl, nI_1, nI_add, nI_mulL, zand1, zand3, zand15, zand31, zand63, zand255, zand65535, zshr1, zshl7, zshl8, zshl9, zbit8, zbit16, ↓bnd_eq, bnd_eq, obnd_some, obnd3_some, obnd6_some]
  · rw [if_neg q]
    simp (disch := first | omega | decide) only [zlt, zle, zeq, zltl, zllt, zlel, zlle, zeql, zll, ↓zlt, ↓zle, ↓zeq, ↓zltl, ↓zllt, ↓zlel, ↓zlle, ↓zeql, ↓zll, ↓if_pos, ↓if_neg, if_pos, if_neg, ↓zgd, zgd, zgdc, ↓zgd0, zgd0c, zcl0, ↓zbit, zbitc, ↓zbit1, ↓zbit0, nI_clamp, zaddl, zladd, zsubl, zlsub, zmull, zlmul, zdivl, nI_1, nI_add, nI_mulL, zand1, zand3, zand15, zand31, zand63, zand255, zand65535, zshr1, zshl7, zshl8, zshl9, zbit8, zbit16, ↓bnd_eq, bnd_eq, obnd_some, obnd3_some, obnd6_some]
theorem fch_none_claim {G : Geo} {d : Nat → Nat} {ms : List Nat} {p : Nat} (h0 : fo d (p + 28) ≠ 0) (h1 : fo d (p + 28) < 2147483648) (h : chS G d (G.k + 1) ms (fcl d p) = none) : fch G d ms p = none := by
  unfold fch
  rw [if_neg h0, if_pos h1, h]
theorem fch_some_claim {G : Geo} {d : Nat → Nat} {ms l : List Nat} {p : Nat} (h0 : fo d (p + 28) ≠ 0) (h1 : fo d (p + 28) < 2147483648) (h : chS G d (G.k + 1) ms (fcl d p) = some l) : fch G d ms p = if l.length = cls G (fo d (p + 28)) then some l else none := by
  unfold fch
  rw [if_neg h0, if_pos h1, h]
theorem fileChain_ok {nf : Nat} {ln : LN} {fi : FI} {ar : AR} {G : Geo} {d : Nat → Nat} (h : CW ln fi ar G d) (hLC : LNC ln G.n) {ms : List Nat} (hc : clu G ms) (hm : mkC ln ar ms) {p : Nat} (hp4 : p % 4 = 0) (hp : p + 32 ≤ 512 * G.n) (hnf : 600 ≤ nf) : (fch G d ms p = none ∧ ∃ ar', FX0_fileChainAsTold nf ln fi ar (nI p) = some (0, fi, ar') ∧ offAs [3] ar ar') ∨ (∃ l, fch G d ms p = some l ∧ ∃ ar', FX0_fileChainAsTold nf ln fi ar (nI p) = some (1, fi, ar') ∧ offAs [3] ar ar' ∧ mkC ln ar' (l ++ ms) ∧ clu G (l ++ ms)) := by
  have hd := h.1
  have hl0 := hd.1
  have b := h.2.2.1.b
  have c0 := hLC.1
  have f28 := foC_lt hd (show p + 28 + 3 < 4 * ln 0 by omega)
  have bf : fcl d p < 4294967296 := by
    have h1 := twC_lt hd (show p + 20 + 1 < 4 * ln 0 by omega)
    have h2 := twC_lt hd (show p + 26 + 1 < 4 * ln 0 by omega)
    unfold fcl; omega
  have hkn : G.k ≤ G.n / 2 := by
    have : G.k * 2 ≤ G.k * G.c := Nat.mul_le_mul_left _ (by omega)
    omega
  have c3 := hLC.2.2.2.1
  have e4 := FX3_four_eq (nf := nf) (fi := fi) hd (p := p + 28) (by omega) (by omega)
  have e5 := FX3_firstCluster_eq (nf := nf) (fi := fi) hd (p := p) (by omega)
  have ea : nI p + (28 : Int32) = nI (p + 28) := nI_add p 28
  unfold FX0_fileChainAsTold FX0_fileChainAsTold_34 FX0_fileChainAsTold_59 FX0_fileChainAsTold_60
  rw [ea, e4, obnd3_some, e5, obnd3_some]
  by_cases q0 : fo d (p + 28) = 0
  · by_cases q1 : fcl d p = 0
    · right
      refine ⟨[], by unfold fch; rw [if_pos q0, if_pos q1], ar, ?_, offAs.rf, hm, hc⟩
      simp (disch := first | omega | decide) only [zlt, zle, zeq, zltl, zllt, zlel, zlle, zeql, zll, ↓zlt, ↓zle, ↓zeq, ↓zltl, ↓zllt, ↓zlel, ↓zlle, ↓zeql, ↓zll, ↓if_pos, ↓if_neg, if_pos, if_neg, ↓zgd, zgd, zgdc, ↓zgd0, zgd0c, zcl0, ↓zbit, zbitc, ↓zbit1, ↓zbit0, nI_clamp, zaddl, zladd, zsubl, zlsub, zmull, zlmul, zdivl, nI_1, nI_add, nI_mulL, zand1, zand3, zand15, zand31, zand63, zand255, zand65535, zshr1, zshl7, zshl8, zshl9, zbit8, zbit16, ↓bnd_eq, bnd_eq, obnd_some, obnd3_some, obnd6_some, q0, q1]
    · left
      refine ⟨by unfold fch; rw [if_pos q0, if_neg q1], ar, ?_, offAs.rf⟩
      simp (disch := first | omega | decide) only [zlt, zle, zeq, zltl, zllt, zlel, zlle, zeql, zll, ↓zlt, ↓zle, ↓zeq, ↓zltl, ↓zllt, ↓zlel, ↓zlle, ↓zeql, ↓zll, ↓if_pos, ↓if_neg, if_pos, if_neg, ↓zgd, zgd, zgdc, ↓zgd0, zgd0c, zcl0, ↓zbit, zbitc, ↓zbit1, ↓zbit0, nI_clamp, zaddl, zladd, zsubl, zlsub, zmull, zlmul, zdivl, nI_1, nI_add, nI_mulL, zand1, zand3, zand15, zand31, zand63, zand255, zand65535, zshr1, zshl7, zshl8, zshl9, zbit8, zbit16, ↓bnd_eq, bnd_eq, obnd_some, obnd3_some, obnd6_some, q0]
  · by_cases q1 : fo d (p + 28) < 2147483648
    · have cl := h.claimChain (nf := nf) (by omega) (by omega) (x := fcl d p) (by omega) hc hm (by omega)
      cases hch : chS G d (G.k + 1) ms (fcl d p) with
      | none =>
        rw [hch] at cl
        obtain ⟨ar', r1, r2⟩ := cl
        left
        refine ⟨fch_none_claim q0 q1 hch, ar', ?_, r2⟩
        have hW' : CW ln fi ar' G d := h.off offF.rf r2 (S := []) (by simp) (by simp)
        have hcl := clustersFor_eq (nf := nf) hW' q1
        have hcb : cls G (fo d (p + 28)) < 4294967295 := by
          unfold cls
          have : (fo d (p + 28) + 512 * G.c - 1) / (512 * G.c) ≤ fo d (p + 28) + 512 * G.c - 1 := Nat.div_le_self _ _
          omega
        have hne : ¬ (-1 : Int32) = nI (cls G (fo d (p + 28))) := fun w => by
          have := (uI_eq (a := 4294967295) (b := cls G (fo d (p + 28))) (by omega) (by omega)).mp w
          omega
        simp (disch := first | omega | decide) only [zlt, zle, zeq, zltl, zllt, zlel, zlle, zeql, zll, ↓zlt, ↓zle, ↓zeq, ↓zltl, ↓zllt, ↓zlel, ↓zlle, ↓zeql, ↓zll, ↓if_pos, ↓if_neg, if_pos, if_neg, ↓zgd, zgd, zgdc, ↓zgd0, zgd0c, zcl0, ↓zbit, zbitc, ↓zbit1, ↓zbit0, nI_clamp, zaddl, zladd, zsubl, zlsub, zmull, zlmul, zdivl, nI_1, nI_add, nI_mulL, zand1, zand3, zand15, zand31, zand63, zand255, zand65535, zshr1, zshl7, zshl8, zshl9, zbit8, zbit16, ↓bnd_eq, bnd_eq, obnd_some, obnd3_some, obnd6_some, r1, hcl]
        rw [brF hne]
      | some l =>
        rw [hch] at cl
        obtain ⟨ar', r1, r2, r3, r4⟩ := cl
        have hW' : CW ln fi ar' G d := h.off offF.rf r2 (S := []) (by simp) (by simp)
        have hcl := clustersFor_eq (nf := nf) hW' q1
        have hcb : cls G (fo d (p + 28)) < 4294967295 := by
          unfold cls
          have : (fo d (p + 28) + 512 * G.c - 1) / (512 * G.c) ≤ fo d (p + 28) + 512 * G.c - 1 := Nat.div_le_self _ _
          omega
        have hll : l.length ≤ G.k := by
          have := r4.len
          rw [List.length_append] at this
          omega
        have ef := fch_some_claim q0 q1 hch
        by_cases q2 : l.length = cls G (fo d (p + 28))
        · right
          refine ⟨l, by rw [ef, if_pos q2], ar', ?_, r2, r3, r4⟩
          simp (disch := first | omega | decide) only [zlt, zle, zeq, zltl, zllt, zlel, zlle, zeql, zll, ↓zlt, ↓zle, ↓zeq, ↓zltl, ↓zllt, ↓zlel, ↓zlle, ↓zeql, ↓zll, ↓if_pos, ↓if_neg, if_pos, if_neg, ↓zgd, zgd, zgdc, ↓zgd0, zgd0c, zcl0, ↓zbit, zbitc, ↓zbit1, ↓zbit0, nI_clamp, zaddl, zladd, zsubl, zlsub, zmull, zlmul, zdivl, nI_1, nI_add, nI_mulL, zand1, zand3, zand15, zand31, zand63, zand255, zand65535, zshr1, zshl7, zshl8, zshl9, zbit8, zbit16, ↓bnd_eq, bnd_eq, obnd_some, obnd3_some, obnd6_some, r1, hcl]
        · left
          refine ⟨by rw [ef, if_neg q2], ar', ?_, r2⟩
          simp (disch := first | omega | decide) only [zlt, zle, zeq, zltl, zllt, zlel, zlle, zeql, zll, ↓zlt, ↓zle, ↓zeq, ↓zltl, ↓zllt, ↓zlel, ↓zlle, ↓zeql, ↓zll, ↓if_pos, ↓if_neg, if_pos, if_neg, ↓zgd, zgd, zgdc, ↓zgd0, zgd0c, zcl0, ↓zbit, zbitc, ↓zbit1, ↓zbit0, nI_clamp, zaddl, zladd, zsubl, zlsub, zmull, zlmul, zdivl, nI_1, nI_add, nI_mulL, zand1, zand3, zand15, zand31, zand63, zand255, zand65535, zshr1, zshl7, zshl8, zshl9, zbit8, zbit16, ↓bnd_eq, bnd_eq, obnd_some, obnd3_some, obnd6_some, r1, hcl]
    · left
      refine ⟨by unfold fch; rw [if_neg q0, if_neg q1], ar, ?_, offAs.rf⟩
      have t := tI (nI (fo d (p + 28)))
      rw [uv_nI (by omega)] at t
      have hle : nI (fo d (p + 28)) ≤ 0 := by
        rw [leI]
        have l0 : (0 : Int32).toInt = 0 := rfl
        omega
      simp (disch := first | omega | decide) only [zlt, zle, zeq, zltl, zllt, zlel, zlle, zeql, zll, ↓zlt, ↓zle, ↓zeq, ↓zltl, ↓zllt, ↓zlel, ↓zlle, ↓zeql, ↓zll, ↓if_pos, ↓if_neg, if_pos, if_neg, ↓zgd, zgd, zgdc, ↓zgd0, zgd0c, zcl0, ↓zbit, zbitc, ↓zbit1, ↓zbit0, nI_clamp, zaddl, zladd, zsubl, zlsub, zmull, zlmul, zdivl, nI_1, nI_add, nI_mulL, zand1, zand3, zand15, zand31, zand63, zand255, zand65535, zshr1, zshl7, zshl8, zshl9, zbit8, zbit16, ↓bnd_eq, bnd_eq, obnd_some, obnd3_some, obnd6_some]
      rw [brT hle]
/-- what the checker has lined up -/
def QR (ln : LN) (fi : FI) (ar : AR) (Q : List (Nat × Nat)) : Prop := fi 11 = nI (min Q.length (ln 4)) ∧ ∀ t, t < Q.length → t < ln 4 → ar 4 t = nI (Q.getD t (0, 0)).1 ∧ ar 5 t = nI (Q.getD t (0, 0)).2
theorem enqueue_ok {nf : Nat} {ln : LN} {fi : FI} {ar : AR} {n : Nat} (hLC : LNC ln n) (hn : n ≤ 1024) {Q : List (Nat × Nat)} (h : QR ln fi ar Q) (f p : Nat) : ∃ fi' ar', FX0_enqueue nf ln fi ar (nI f) (nI p) = some ((), fi', ar') ∧ QR ln fi' ar' (Q ++ [(f, p)]) ∧ offF [11] fi fi' ∧ offAs [4, 5] ar ar' := by
  have c4 := hLC.2.2.2.2.1
  have c5 := hLC.2.2.2.2.2.1
  have e0 : Int32.ofNat (ln 4) = nI (ln 4) := rfl
  unfold FX0_enqueue FX0_enqueue_42
  rw [h.1, e0]
  by_cases q : ln 4 ≤ Q.length
  · refine ⟨fi, ar, by simp (disch := first | omega | decide) only [zlt, zle, zeq, zltl, zllt, zlel, zlle, zeql, zll, ↓zlt, ↓zle, ↓zeq, ↓zltl, ↓zllt, ↓zlel, ↓zlle, ↓zeql, ↓zll, ↓if_pos, ↓if_neg, if_pos, if_neg, ↓zgd, zgd, zgdc, ↓zgd0, zgd0c, zcl0, ↓zbit, zbitc, ↓zbit1, ↓zbit0, nI_clamp, zaddl, zladd, zsubl, zlsub, zmull, zlmul, zdivl, nI_1, nI_add, nI_mulL, zand1, zand3, zand15, zand31, zand63, zand255, zand65535, zshr1, zshl7, zshl8, zshl9, zbit8, zbit16, ↓bnd_eq, bnd_eq, obnd_some, obnd3_some, obnd6_some, Nat.min_eq_right q], ⟨?_, fun t h1 h2 => ?_⟩, offF.rf, offAs.rf⟩
    · rw [h.1, List.length_append, Nat.min_eq_right q, Nat.min_eq_right (by omega)]
    · rw [getD_app2, if_neg (by omega)]; exact h.2 t (by omega) h2
  · have em : min Q.length (ln 4) = Q.length := Nat.min_eq_left (by omega)
    refine ⟨_, _, by simp (disch := first | omega | decide) only [zlt, zle, zeq, zltl, zllt, zlel, zlle, zeql, zll, ↓zlt, ↓zle, ↓zeq, ↓zltl, ↓zllt, ↓zlel, ↓zlle, ↓zeql, ↓zll, ↓if_pos, ↓if_neg, if_pos, if_neg, ↓zgd, zgd, zgdc, ↓zgd0, zgd0c, zcl0, ↓zbit, zbitc, ↓zbit1, ↓zbit0, nI_clamp, zaddl, zladd, zsubl, zlsub, zmull, zlmul, zdivl, nI_1, nI_add, nI_mulL, zand1, zand3, zand15, zand31, zand63, zand255, zand65535, zshr1, zshl7, zshl8, zshl9, zbit8, zbit16, ↓bnd_eq, bnd_eq, obnd_some, obnd3_some, obnd6_some, em]; rfl, ⟨?_, fun t h1 h2 => ?_⟩, offF.rf.up (by simp), (offAs.rf.up (by simp)).up (by simp)⟩
    · rw [va_up_self, List.length_append, Nat.min_eq_left (by simp only [List.length_cons, List.length_nil]; omega)]; rfl
    · rw [List.length_append] at h1
      simp only [List.length_cons, List.length_nil] at h1
      rw [getD_app2, va_up_off (by omega), va_up_self, va_up_self, va_up_off (by omega)]
      unfold upd
      by_cases e : t = Q.length
      · rw [if_pos e, if_pos e, if_pos e]; exact ⟨rfl, rfl⟩
      · rw [if_neg e, if_neg e, if_neg e]; exact h.2 t (by omega) h2
