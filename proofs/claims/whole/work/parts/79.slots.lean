/-! slots in both -/
theorem shG_sh {d : Nat → Nat} {p : Nat} {lab : Prop} [Decidable lab] {lb : Nat} (hlb : lb ≠ 0 ↔ lab) : shOK d p lab ↔ d p ≠ 32 ∧ ∀ j, j < 11 → shG (fun i => d (p + i)) lb j := by
  constructor
  · rintro ⟨a1, a2⟩
    refine ⟨a1, fun j hj hb => ?_⟩
    obtain ⟨w1, w2⟩ := a2 j hj hb
    refine ⟨w1, ?_⟩
    rcases w2 with w | w | w | w
    · exact Or.inl (hlb.mpr w)
    · exact Or.inr (Or.inl w)
    · exact Or.inr (Or.inr (Or.inl w))
    · by_cases hj0 : j = 0
      · exact Or.inr (Or.inl hj0)
      · refine Or.inr (Or.inr (Or.inr ?_))
        rw [show p + j - 1 = p + (j - 1) by omega] at w
        exact w
  · rintro ⟨a1, a2⟩
    refine ⟨a1, fun j hj hb => ?_⟩
    obtain ⟨w1, w2⟩ := a2 j hj hb
    refine ⟨w1, ?_⟩
    rcases w2 with w | w | w | w
    · exact Or.inl (hlb.mp w)
    · exact Or.inr (Or.inl w)
    · exact Or.inr (Or.inr (Or.inl w))
    · by_cases hj0 : j = 0
      · exact Or.inr (Or.inl hj0)
      · refine Or.inr (Or.inr (Or.inr ?_))
        rw [show p + j - 1 = p + (j - 1) by omega]
        exact w
theorem M_isShort_loop {nf : Nat} {fi : FI} {ar : AR} {d : Nat → Nat} (hd : RD ar d) {p lb : Nat} (hp : p + 32 ≤ 524288) (hlb : lb < 2) (hnf : 20 ≤ nf) : ∀ (m i kf g : Nat), i + m = 11 → m < kf → g < 2 → (g ≠ 0 ↔ d p ≠ 32 ∧ ∀ j, j < i → shG (fun i => d (p + i)) lb j) → ∃ r, r < 2 ∧ M_isShort_19 nf kf (nI p) (nI lb) (nI g) (nI i) fi ar = some (nI r, fi, ar) ∧ (r ≠ 0 ↔ d p ≠ 32 ∧ ∀ j, j < 11 → shG (fun i => d (p + i)) lb j) := by
  intro m
  induction m with
  | zero =>
    intro i kf g hi hk hg hgg
    obtain ⟨kf, rfl⟩ : ∃ k, kf = k + 1 := ⟨kf - 1, by omega⟩
    refine ⟨g, hg, ?_, by rw [hgg, show i = 11 by omega]⟩
    show M_isShort_19b _ nf _ _ _ _ _ _ = _
    unfold M_isShort_19b
    simp (disch := first | omega | decide) only [zlt, zle, zeq, zltl, zllt, zlel, zlle, zeql, zll, ↓zlt, ↓zle, ↓zeq, ↓zltl, ↓zllt, ↓zlel, ↓zlle, ↓zeql, ↓zll, ↓if_pos, ↓if_neg, if_pos, if_neg, ↓zgd, zgd, zgdc, ↓zgd0, zgd0c, zcl0, ↓zbit, zbitc, ↓zbit1, ↓zbit0, nI_clamp, zaddl, zladd, zsubl, zlsub, zmull, zlmul, zdivl, nI_1, nI_add, nI_mulL, zand1, zand3, zand15, zand31, zand63, zand255, zand65535, zshr1, zshl7, zshl8, zshl9, zbit8, zbit16, ↓bnd_eq, bnd_eq, obnd_some, obnd3_some, obnd6_some]
  | succ m ih =>
    intro i kf g hi hk hg hgg
    obtain ⟨kf, rfl⟩ : ∃ k, kf = k + 1 := ⟨kf - 1, by omega⟩
    have h1 := hd.lt (show p + i < 524288 by omega)
    have hm1 : i ≠ 0 → d (p + i - 1) < 256 := fun h => hd.lt (by omega)
    have e : ∃ g', g' < 2 ∧ (g' ≠ 0 ↔ g ≠ 0 ∧ shG (fun i => d (p + i)) lb i) ∧ M_isShort_19 nf (kf + 1) (nI p) (nI lb) (nI g) (nI i) fi ar = M_isShort_19 nf kf (nI p) (nI lb) (nI g') (nI (i + 1)) fi ar := by
      have k74 : ∀ t, t < 2 → ∀ bl, bl < 2 → (bl ≠ 0 ↔ d (p + i) = 32) → ∃ g', g' < 2 ∧ (g' ≠ 0 ↔ t ≠ 0 ∧ (d (p + i) ≠ 32 → (lb ≠ 0 ∨ i = 0 ∨ i = 8 ∨ d (p + (i - 1)) ≠ 32))) ∧ M_isShort_74 (M_isShort_19 nf kf) nf (nI p) (nI lb) (nI i) (nI bl) (nI t) fi ar = M_isShort_19 nf kf (nI p) (nI lb) (nI g') (nI (i + 1)) fi ar := by
        intro t ht bl hbl hblank
        unfold M_isShort_74 M_isShort_119 M_isShort_115 M_isShort_120
        by_cases q1 : t = 0
        · refine ⟨0, by omega, ⟨fun h => absurd rfl h, fun h => absurd q1 h.1⟩, ?_⟩
          simp (disch := first | omega | decide) only [zlt, zle, zeq, zltl, zllt, zlel, zlle, zeql, zll, ↓zlt, ↓zle, ↓zeq, ↓zltl, ↓zllt, ↓zlel, ↓zlle, ↓zeql, ↓zll, ↓if_pos, ↓if_neg, if_pos, if_neg, ↓zgd, zgd, zgdc, ↓zgd0, zgd0c, zcl0, ↓zbit, zbitc, ↓zbit1, ↓zbit0, nI_clamp, zaddl, zladd, zsubl, zlsub, zmull, zlmul, zdivl, nI_1, nI_add, nI_mulL, zand1, zand3, zand15, zand31, zand63, zand255, zand65535, zshr1, zshl7, zshl8, zshl9, zbit8, zbit16, ↓bnd_eq, bnd_eq, obnd_some, obnd3_some, obnd6_some]
          rfl
        · by_cases q2 : lb = 0
          · by_cases q3 : i = 0
            · refine ⟨1, by omega, ⟨fun _ => ⟨q1, fun _ => Or.inr (Or.inl q3)⟩, fun _ => by omega⟩, ?_⟩
              simp (disch := first | omega | decide) only [zlt, zle, zeq, zltl, zllt, zlel, zlle, zeql, zll, ↓zlt, ↓zle, ↓zeq, ↓zltl, ↓zllt, ↓zlel, ↓zlle, ↓zeql, ↓zll, ↓if_pos, ↓if_neg, if_pos, if_neg, ↓zgd, zgd, zgdc, ↓zgd0, zgd0c, zcl0, ↓zbit, zbitc, ↓zbit1, ↓zbit0, nI_clamp, zaddl, zladd, zsubl, zlsub, zmull, zlmul, zdivl, nI_1, nI_add, nI_mulL, zand1, zand3, zand15, zand31, zand63, zand255, zand65535, zshr1, zshl7, zshl8, zshl9, zbit8, zbit16, ↓bnd_eq, bnd_eq, obnd_some, obnd3_some, obnd6_some]
              rfl
            · by_cases q4 : i = 8
              · refine ⟨1, by omega, ⟨fun _ => ⟨q1, fun _ => Or.inr (Or.inr (Or.inl q4))⟩, fun _ => by omega⟩, ?_⟩
                simp (disch := first | omega | decide) only [zlt, zle, zeq, zltl, zllt, zlel, zlle, zeql, zll, ↓zlt, ↓zle, ↓zeq, ↓zltl, ↓zllt, ↓zlel, ↓zlle, ↓zeql, ↓zll, ↓if_pos, ↓if_neg, if_pos, if_neg, ↓zgd, zgd, zgdc, ↓zgd0, zgd0c, zcl0, ↓zbit, zbitc, ↓zbit1, ↓zbit0, nI_clamp, zaddl, zladd, zsubl, zlsub, zmull, zlmul, zdivl, nI_1, nI_add, nI_mulL, zand1, zand3, zand15, zand31, zand63, zand255, zand65535, zshr1, zshl7, zshl8, zshl9, zbit8, zbit16, ↓bnd_eq, bnd_eq, obnd_some, obnd3_some, obnd6_some]
                rfl
              · have hm := hm1 q3
                by_cases q5 : bl = 0
                · have hnb : d (p + i) ≠ 32 := fun h => (hblank.mpr h) q5
                  by_cases q6 : d (p + i - 1) = 32
                  · refine ⟨0, by omega, ⟨fun h => absurd rfl h, fun h => ?_⟩, ?_⟩
                    · rcases h.2 hnb with w | w | w | w
                      · exact absurd q2 w
                      · exact absurd w q3
                      · exact absurd w q4
                      · rw [show p + (i - 1) = p + i - 1 by omega] at w; exact absurd q6 w
                    · simp (disch := first | omega | decide) only [zlt, zle, zeq, zltl, zllt, zlel, zlle, zeql, zll, ↓zlt, ↓zle, ↓zeq, ↓zltl, ↓zllt, ↓zlel, ↓zlle, ↓zeql, ↓zll, ↓if_pos, ↓if_neg, if_pos, if_neg, ↓zgd, zgd, zgdc, ↓zgd0, zgd0c, zcl0, ↓zbit, zbitc, ↓zbit1, ↓zbit0, nI_clamp, zaddl, zladd, zsubl, zlsub, zmull, zlmul, zdivl, nI_1, nI_add, nI_mulL, zand1, zand3, zand15, zand31, zand63, zand255, zand65535, zshr1, zshl7, zshl8, zshl9, zbit8, zbit16, ↓bnd_eq, bnd_eq, obnd_some, obnd3_some, obnd6_some, M_one_eq hd]
                      rfl
                  · refine ⟨1, by omega, ⟨fun _ => ⟨q1, fun _ => Or.inr (Or.inr (Or.inr (by rw [show p + (i - 1) = p + i - 1 by omega]; exact q6)))⟩, fun _ => by omega⟩, ?_⟩
                    simp (disch := first | omega | decide) only [zlt, zle, zeq, zltl, zllt, zlel, zlle, zeql, zll, ↓zlt, ↓zle, ↓zeq, ↓zltl, ↓zllt, ↓zlel, ↓zlle, ↓zeql, ↓zll, ↓if_pos, ↓if_neg, if_pos, if_neg, ↓zgd, zgd, zgdc, ↓zgd0, zgd0c, zcl0, ↓zbit, zbitc, ↓zbit1, ↓zbit0, nI_clamp, zaddl, zladd, zsubl, zlsub, zmull, zlmul, zdivl, nI_1, nI_add, nI_mulL, zand1, zand3, zand15, zand31, zand63, zand255, zand65535, zshr1, zshl7, zshl8, zshl9, zbit8, zbit16, ↓bnd_eq, bnd_eq, obnd_some, obnd3_some, obnd6_some, M_one_eq hd]
                    rfl
                · refine ⟨1, by omega, ⟨fun _ => ⟨q1, fun h => absurd (hblank.mp q5) h⟩, fun _ => by omega⟩, ?_⟩
                  simp (disch := first | omega | decide) only [zlt, zle, zeq, zltl, zllt, zlel, zlle, zeql, zll, ↓zlt, ↓zle, ↓zeq, ↓zltl, ↓zllt, ↓zlel, ↓zlle, ↓zeql, ↓zll, ↓if_pos, ↓if_neg, if_pos, if_neg, ↓zgd, zgd, zgdc, ↓zgd0, zgd0c, zcl0, ↓zbit, zbitc, ↓zbit1, ↓zbit0, nI_clamp, zaddl, zladd, zsubl, zlsub, zmull, zlmul, zdivl, nI_1, nI_add, nI_mulL, zand1, zand3, zand15, zand31, zand63, zand255, zand65535, zshr1, zshl7, zshl8, zshl9, zbit8, zbit16, ↓bnd_eq, bnd_eq, obnd_some, obnd3_some, obnd6_some]
                  rfl
          · refine ⟨1, by omega, ⟨fun _ => ⟨q1, fun _ => Or.inl q2⟩, fun _ => by omega⟩, ?_⟩
            simp (disch := first | omega | decide) only [zlt, zle, zeq, zltl, zllt, zlel, zlle, zeql, zll, ↓zlt, ↓zle, ↓zeq, ↓zltl, ↓zllt, ↓zlel, ↓zlle, ↓zeql, ↓zll, ↓if_pos, ↓if_neg, if_pos, if_neg, ↓zgd, zgd, zgdc, ↓zgd0, zgd0c, zcl0, ↓zbit, zbitc, ↓zbit1, ↓zbit0, nI_clamp, zaddl, zladd, zsubl, zlsub, zmull, zlmul, zdivl, nI_1, nI_add, nI_mulL, zand1, zand3, zand15, zand31, zand63, zand255, zand65535, zshr1, zshl7, zshl8, zshl9, zbit8, zbit16, ↓bnd_eq, bnd_eq, obnd_some, obnd3_some, obnd6_some]
            rfl
      have k44 : ∀ bl, bl < 2 → (bl ≠ 0 ↔ d (p + i) = 32) → ∃ g', g' < 2 ∧ (g' ≠ 0 ↔ g ≠ 0 ∧ shG (fun i => d (p + i)) lb i) ∧ M_isShort_44 (M_isShort_19 nf kf) nf (nI p) (nI lb) (nI g) (nI i) (nI bl) fi ar = M_isShort_19 nf kf (nI p) (nI lb) (nI g') (nI (i + 1)) fi ar := by
        intro bl hbl hblank
        unfold M_isShort_44 M_isShort_73 M_isShort_69
        by_cases q1 : g = 0
        · obtain ⟨g', a1, a2, a3⟩ := k74 0 (by omega) bl hbl hblank
          refine ⟨g', a1, ⟨fun h => absurd rfl (a2.mp h).1, fun h => absurd q1 h.1⟩, ?_⟩
          rw [← a3]
          simp (disch := first | omega | decide) only [zlt, zle, zeq, zltl, zllt, zlel, zlle, zeql, zll, ↓zlt, ↓zle, ↓zeq, ↓zltl, ↓zllt, ↓zlel, ↓zlle, ↓zeql, ↓zll, ↓if_pos, ↓if_neg, if_pos, if_neg, ↓zgd, zgd, zgdc, ↓zgd0, zgd0c, zcl0, ↓zbit, zbitc, ↓zbit1, ↓zbit0, nI_clamp, zaddl, zladd, zsubl, zlsub, zmull, zlmul, zdivl, nI_1, nI_add, nI_mulL, zand1, zand3, zand15, zand31, zand63, zand255, zand65535, zshr1, zshl7, zshl8, zshl9, zbit8, zbit16, ↓bnd_eq, bnd_eq, obnd_some, obnd3_some, obnd6_some]
          rfl
        · by_cases q2 : bl = 0
          · have hnb : d (p + i) ≠ 32 := fun h => (hblank.mpr h) q2
            by_cases q3 : sgn (d (p + i))
            · obtain ⟨g', a1, a2, a3⟩ := k74 1 (by omega) bl hbl hblank
              refine ⟨g', a1, ⟨fun h => ⟨q1, fun _ => ⟨q3, (a2.mp h).2 hnb⟩⟩, fun h => a2.mpr ⟨by omega, fun _ => (h.2 hnb).2⟩⟩, ?_⟩
              rw [← a3]
              simp (disch := first | omega | decide) only [zlt, zle, zeq, zltl, zllt, zlel, zlle, zeql, zll, ↓zlt, ↓zle, ↓zeq, ↓zltl, ↓zllt, ↓zlel, ↓zlle, ↓zeql, ↓zll, ↓if_pos, ↓if_neg, if_pos, if_neg, ↓zgd, zgd, zgdc, ↓zgd0, zgd0c, zcl0, ↓zbit, zbitc, ↓zbit1, ↓zbit0, nI_clamp, zaddl, zladd, zsubl, zlsub, zmull, zlmul, zdivl, nI_1, nI_add, nI_mulL, zand1, zand3, zand15, zand31, zand63, zand255, zand65535, zshr1, zshl7, zshl8, zshl9, zbit8, zbit16, ↓bnd_eq, bnd_eq, obnd_some, obnd3_some, obnd6_some, M_one_eq hd, M_isShortSign_eq, q3, if_true, nI1]
            · obtain ⟨g', a1, a2, a3⟩ := k74 0 (by omega) bl hbl hblank
              refine ⟨g', a1, ⟨fun h => absurd rfl (a2.mp h).1, fun h => absurd (h.2 hnb).1 q3⟩, ?_⟩
              rw [← a3]
              simp (disch := first | omega | decide) only [zlt, zle, zeq, zltl, zllt, zlel, zlle, zeql, zll, ↓zlt, ↓zle, ↓zeq, ↓zltl, ↓zllt, ↓zlel, ↓zlle, ↓zeql, ↓zll, ↓if_pos, ↓if_neg, if_pos, if_neg, ↓zgd, zgd, zgdc, ↓zgd0, zgd0c, zcl0, ↓zbit, zbitc, ↓zbit1, ↓zbit0, nI_clamp, zaddl, zladd, zsubl, zlsub, zmull, zlmul, zdivl, nI_1, nI_add, nI_mulL, zand1, zand3, zand15, zand31, zand63, zand255, zand65535, zshr1, zshl7, zshl8, zshl9, zbit8, zbit16, ↓bnd_eq, bnd_eq, obnd_some, obnd3_some, obnd6_some, M_one_eq hd, M_isShortSign_eq, q3, if_false]
              rfl
          · obtain ⟨g', a1, a2, a3⟩ := k74 1 (by omega) bl hbl hblank
            have hbk := hblank.mp q2
            refine ⟨g', a1, ⟨fun _ => ⟨q1, fun h => absurd hbk h⟩, fun _ => a2.mpr ⟨by omega, fun h => absurd hbk h⟩⟩, ?_⟩
            rw [← a3]
            simp (disch := first | omega | decide) only [zlt, zle, zeq, zltl, zllt, zlel, zlle, zeql, zll, ↓zlt, ↓zle, ↓zeq, ↓zltl, ↓zllt, ↓zlel, ↓zlle, ↓zeql, ↓zll, ↓if_pos, ↓if_neg, if_pos, if_neg, ↓zgd, zgd, zgdc, ↓zgd0, zgd0c, zcl0, ↓zbit, zbitc, ↓zbit1, ↓zbit0, nI_clamp, zaddl, zladd, zsubl, zlsub, zmull, zlmul, zdivl, nI_1, nI_add, nI_mulL, zand1, zand3, zand15, zand31, zand63, zand255, zand65535, zshr1, zshl7, zshl8, zshl9, zbit8, zbit16, ↓bnd_eq, bnd_eq, obnd_some, obnd3_some, obnd6_some]
            rfl
      by_cases q : d (p + i) = 32
      · obtain ⟨g', a1, a2, a3⟩ := k44 1 (by omega) ⟨fun _ => q, fun _ => by omega⟩
        refine ⟨g', a1, a2, ?_⟩
        rw [← a3]
        show M_isShort_19b _ nf _ _ _ _ _ _ = _
        unfold M_isShort_19b
        simp (disch := first | omega | decide) only [zlt, zle, zeq, zltl, zllt, zlel, zlle, zeql, zll, ↓zlt, ↓zle, ↓zeq, ↓zltl, ↓zllt, ↓zlel, ↓zlle, ↓zeql, ↓zll, ↓if_pos, ↓if_neg, if_pos, if_neg, ↓zgd, zgd, zgdc, ↓zgd0, zgd0c, zcl0, ↓zbit, zbitc, ↓zbit1, ↓zbit0, nI_clamp, zaddl, zladd, zsubl, zlsub, zmull, zlmul, zdivl, nI_1, nI_add, nI_mulL, zand1, zand3, zand15, zand31, zand63, zand255, zand65535, zshr1, zshl7, zshl8, zshl9, zbit8, zbit16, ↓bnd_eq, bnd_eq, obnd_some, obnd3_some, obnd6_some, M_one_eq hd]
        rfl
      · obtain ⟨g', a1, a2, a3⟩ := k44 0 (by omega) ⟨fun h => absurd rfl h, fun h => absurd h q⟩
        refine ⟨g', a1, a2, ?_⟩
        rw [← a3]
        show M_isShort_19b _ nf _ _ _ _ _ _ = _
        unfold M_isShort_19b
        simp (disch := first | omega | decide) only [zlt, zle, zeq, zltl, zllt, zlel, zlle, zeql, zll, ↓zlt, ↓zle, ↓zeq, ↓zltl, ↓zllt, ↓zlel, ↓zlle, ↓zeql, ↓zll, ↓if_pos, ↓if_neg, if_pos, if_neg, ↓zgd, zgd, zgdc, ↓zgd0, zgd0c, zcl0, ↓zbit, zbitc, ↓zbit1, ↓zbit0, nI_clamp, zaddl, zladd, zsubl, zlsub, zmull, zlmul, zdivl, nI_1, nI_add, nI_mulL, zand1, zand3, zand15, zand31, zand63, zand255, zand65535, zshr1, zshl7, zshl8, zshl9, zbit8, zbit16, ↓bnd_eq, bnd_eq, obnd_some, obnd3_some, obnd6_some, M_one_eq hd]
        rfl
    obtain ⟨g', a1, a2, a3⟩ := e
    rw [a3]
    refine ih (i + 1) kf g' (by omega) (by omega) a1 ?_
    rw [a2, hgg]
    constructor
    · rintro ⟨⟨w1, w2⟩, w3⟩
      exact ⟨w1, fun j hj => if e : j = i then e ▸ w3 else w2 j (by omega)⟩
    · rintro ⟨w1, w2⟩
      exact ⟨⟨w1, fun j hj => w2 j (by omega)⟩, w2 i (by omega)⟩
theorem M_isShort_eq {nf : Nat} {fi : FI} {ar : AR} {d : Nat → Nat} (hd : RD ar d) {p : Nat} (hp : p + 32 ≤ 524288) (lab : Prop) [Decidable lab] {lb : Nat} (hlb2 : lb < 2) (hlb : lb ≠ 0 ↔ lab) (hnf : 20 ≤ nf) : M_isShort nf fi ar (nI p) (nI lb) = some ((if shOK d p lab then 1 else 0), fi, ar) := by
  have h1 := hd.lt (show p < 524288 by omega)
  have key : ∀ g, g < 2 → (g ≠ 0 ↔ d p ≠ 32) → M_isShort_15 nf (nI p) (nI lb) (nI g) fi ar = some ((if shOK d p lab then 1 else 0), fi, ar) := by
    intro g hg hgg
    obtain ⟨r, a1, a2, a3⟩ := M_isShort_loop (nf := nf) (fi := fi) hd hp hlb2 hnf 11 0 nf g (by omega) (by omega) hg ⟨fun h => ⟨hgg.mp h, fun j hj => by omega⟩, fun h => hgg.mpr h.1⟩
    rw [← shG_sh hlb] at a3
    have e : M_isShort_15 nf (nI p) (nI lb) (nI g) fi ar = M_isShort_19 nf nf (nI p) (nI lb) (nI g) (nI 0) fi ar := rfl
    rw [e, a2]
    by_cases q : shOK d p lab
    · rw [if_pos q, show r = 1 by have := a3.mpr q; omega]; rfl
    · rw [if_neg q, show r = 0 by
        apply Decidable.byContradiction
        intro h
        exact q (a3.mp h)]; rfl
  by_cases q : d p = 32
  · refine Eq.trans ?_ (key 0 (by omega) ⟨fun h => absurd rfl h, fun h => absurd q h⟩)
    unfold M_isShort
    simp (disch := first | omega | decide) only [zlt, zle, zeq, zltl, zllt, zlel, zlle, zeql, zll, ↓zlt, ↓zle, ↓zeq, ↓zltl, ↓zllt, ↓zlel, ↓zlle, ↓zeql, ↓zll, ↓if_pos, ↓if_neg, if_pos, if_neg, ↓zgd, zgd, zgdc, ↓zgd0, zgd0c, zcl0, ↓zbit, zbitc, ↓zbit1, ↓zbit0, nI_clamp, zaddl, zladd, zsubl, zlsub, zmull, zlmul, zdivl, nI_1, nI_add, nI_mulL, zand1, zand3, zand15, zand31, zand63, zand255, zand65535, zshr1, zshl7, zshl8, zshl9, zbit8, zbit16, ↓bnd_eq, bnd_eq, obnd_some, obnd3_some, obnd6_some, M_one_eq hd]
    rfl
  · refine Eq.trans ?_ (key 1 (by omega) ⟨fun _ => q, fun _ => by omega⟩)
    unfold M_isShort
    simp (disch := first | omega | decide) only [zlt, zle, zeq, zltl, zllt, zlel, zlle, zeql, zll, ↓zlt, ↓zle, ↓zeq, ↓zltl, ↓zllt, ↓zlel, ↓zlle, ↓zeql, ↓zll, ↓if_pos, ↓if_neg, if_pos, if_neg, ↓zgd, zgd, zgdc, ↓zgd0, zgd0c, zcl0, ↓zbit, zbitc, ↓zbit1, ↓zbit0, nI_clamp, zaddl, zladd, zsubl, zlsub, zmull, zlmul, zdivl, nI_1, nI_add, nI_mulL, zand1, zand3, zand15, zand31, zand63, zand255, zand65535, zshr1, zshl7, zshl8, zshl9, zbit8, zbit16, ↓bnd_eq, bnd_eq, obnd_some, obnd3_some, obnd6_some, M_one_eq hd]
    rfl
theorem RW.place {nf : Nat} {fi : FI} {ar : AR} {G : Geo} {d : Nat → Nat} (h : RW fi ar G d) {x : Nat} (hx : 2 ≤ x) : M_place nf fi ar (nI x) = some (nI (pl G x), fi, ar) := by
  obtain ⟨g1, g2, g3, g4, g5, g6, g7, g8⟩ := h.2.1
  unfold M_place
  simp (disch := first | omega | decide) only [zlt, zle, zeq, zltl, zllt, zlel, zlle, zeql, zll, ↓zlt, ↓zle, ↓zeq, ↓zltl, ↓zllt, ↓zlel, ↓zlle, ↓zeql, ↓zll, ↓if_pos, ↓if_neg, if_pos, if_neg, ↓zgd, zgd, zgdc, ↓zgd0, zgd0c, zcl0, ↓zbit, zbitc, ↓zbit1, ↓zbit0, nI_clamp, zaddl, zladd, zsubl, zlsub, zmull, zlmul, zdivl, nI_1, nI_add, nI_mulL, zand1, zand3, zand15, zand31, zand63, zand255, zand65535, zshr1, zshl7, zshl8, zshl9, zbit8, zbit16, ↓bnd_eq, bnd_eq, obnd_some, obnd3_some, obnd6_some, g2, g7]
  rfl
/-- the model's folder is the chain l -/
def FOL (ar : AR) (l : List Nat) : Prop := ∀ j, j < l.length → ar 30 j = nI (l.getD j 0)
theorem RW.slotAt {nf : Nat} {fi : FI} {ar : AR} {G : Geo} {d : Nat → Nat} (h : RW fi ar G d) {l : List Nat} (hl : clu G l) (hf : FOL ar l) {s : Nat} (hs : s < l.length * (16 * G.c)) : M_slotAt nf fi ar (nI s) = some (nI (sa G l s), fi, ar) := by
  have b := h.2.2.b
  obtain ⟨_, g2, _⟩ := h.2.1
  have hk := hl.len
  have hc : 1 ≤ G.c := by omega
  obtain ⟨hq, e⟩ := sa_eq hc hs
  have hS : l.length * (16 * G.c) ≤ 512 * 128 := Nat.mul_le_mul (by omega) (by omega)
  have hm := hl.2 _ (List.getElem_mem hq)
  have ef : ar 30 (s / (16 * G.c)) = nI l[s / (16 * G.c)] := by
    rw [hf _ hq, List.getD_eq_getElem?_getD, List.getElem?_eq_getElem hq]; rfl
  have hdv : nI s / nI (16 * G.c) = nI (s / (16 * G.c)) := pk_div (by omega) (by omega) (by omega)
  have hrm : nI s - nI (s / (16 * G.c)) * nI (16 * G.c) = nI (s % (16 * G.c)) := by rw [← hdv]; exact pk_rem (by omega) (by omega) (by omega)
  have h0 : ¬ nI (16 * G.c) = 0 := nI_ne0 (by omega) (by omega)
  unfold M_slotAt
  have e16 : (16 : Int32) * nI G.c = nI (16 * G.c) := pk_mul 16 _
  rw [g2, e16, gdT h0, hdv, zgd (by omega) (by omega), nI_clamp (by omega), ef, h.place hm.1, obnd3_some, g2, e16, gdT h0, hdv, hrm, e]
  have e32 : (32 : Int32) * nI (s % (16 * G.c)) = nI (32 * (s % (16 * G.c))) := pk_mul 32 _
  rw [e32, nI_add]
/-- a shift by the cluster's exponent -/
theorem shlC {c y : Nat} (hc : c = 2 ∨ c = 4 ∨ c = 8) (hy : y * c < 4294967296) : nI y <<< (nI (shC c) &&& 31) = nI (y * c) := by
  rcases hc with rfl | rfl | rfl
  · exact pk_shlN _ 1 (by decide) hy
  · exact pk_shlN _ 2 (by decide) hy
  · exact pk_shlN _ 3 (by decide) hy
theorem addressOf_eq {nf : Nat} {ln : LN} {fi : FI} {ar : AR} {G : Geo} {d : Nat → Nat} (h : CW ln fi ar G d) {x : Nat} (hx : isC G x) : FX9_addressOf nf ln fi ar (nI x) = some (nI (pl G x), fi, ar) := by
  have b := h.2.2.1.b
  obtain ⟨g1, g2, g3, g4, g5, g6, g7, g8⟩ := h.2.1
  have hc := h.2.2.1.1.1
  have hin := pl_in h.2.2.1 hx
  unfold pl at hin
  have hm : (x - 2) * G.c ≤ 1024 := by omega
  unfold FX9_addressOf
  rw [g8, g4, show nI x - (2 : Int32) = nI (x - 2) from zsubl (n := 2) hx.1, shlC hc (by omega), nI_add, zshl9 (by omega)]
  unfold pl
  rw [Nat.mul_comm 512]
/-- the class's directory i0 has the chain l at hand -/
def DC (fi : FI) (ar : AR) (i0 : Nat) (G : Geo) (l : List Nat) : Prop := fi (23 + 10 * i0) = nI l.length ∧ fi (21 + 10 * i0) = nI (l.length * (16 * G.c)) ∧ fi (25 + 10 * i0) = nI (shC G.c + 4) ∧ (∀ j, j < l.length → ar (10 + 4 * i0) j = nI (pl G (l.getD j 0))) ∧ fi (24 + 10 * i0) = nI (l.getD (l.length - 1) 0)
theorem sh4 {c y : Nat} (hc : c = 2 ∨ c = 4 ∨ c = 8) (hy : y < 2147483648) : nI y >>> (nI (shC c + 4) &&& 31) = nI (y / (16 * c)) := by
  rcases hc with rfl | rfl | rfl
  · exact pk_shrN hy _ 5 (by decide)
  · exact pk_shrN hy _ 6 (by decide)
  · exact pk_shrN hy _ 7 (by decide)
theorem shl4 {c y : Nat} (hc : c = 2 ∨ c = 4 ∨ c = 8) (hy : y * (16 * c) < 4294967296) : nI y <<< (nI (shC c + 4) &&& 31) = nI (y * (16 * c)) := by
  rcases hc with rfl | rfl | rfl
  · exact pk_shlN _ 5 (by decide) hy
  · exact pk_shlN _ 6 (by decide) hy
  · exact pk_shlN _ 7 (by decide) hy
theorem slotAddress_eq {nf : Nat} {ln : LN} {fi : FI} {ar : AR} {G : Geo} {i0 : Nat} {l : List Nat} (hG : GOK G) (hl : clu G l) (hD : DC fi ar i0 G l) (hln : l.length ≤ ln (10 + 4 * i0)) {s : Nat} (hs : s < l.length * (16 * G.c)) : FX2_slotAddress nf ln i0 fi ar (nI s) = some (nI (sa G l s), fi, ar) := by
  have b := hG.b
  have hc := hG.1.1
  have hk := hl.len
  obtain ⟨hq, e⟩ := sa_eq (show 1 ≤ G.c by omega) hs
  have hS : l.length * (16 * G.c) ≤ 512 * 128 := Nat.mul_le_mul (by omega) (by omega)
  have ef : ar (10 + 4 * i0) (s / (16 * G.c)) = nI (pl G l[s / (16 * G.c)]) := by
    rw [hD.2.2.2.1 _ hq, List.getD_eq_getElem?_getD, List.getElem?_eq_getElem hq]; rfl
  have hdm := Nat.div_add_mod s (16 * G.c)
  have hdl : s / (16 * G.c) * (16 * G.c) ≤ s := Nat.div_mul_le_self _ _
  unfold FX2_slotAddress FX2_slotAddress_19
  rw [hD.2.2.1, sh4 hc (by omega), bnd_eq, hD.1, zltl (n := 0) (by omega) (by decide), if_neg (by simp), zlt (by omega) (by omega), if_pos hq, zgd (by omega) (by omega), nI_clamp (by omega), ef, shl4 hc (by omega), nI_sub hdl, show s - s / (16 * G.c) * (16 * G.c) = s % (16 * G.c) by rw [Nat.mul_comm] at hdm; omega, zmull (n := 32), nI_add, e, Nat.mul_comm _ 32]
