/-! the model's parts -/
abbrev pdG (d A : Nat → Nat) (t T sum i : Nat) : Prop := d (A t) = T - i + (if i = 0 then 64 else 0) ∧ d (A t + 12) = 0 ∧ d (A t + 13) = sum ∧ tw d (A t + 26) = 0
/-- np parts before slot s, the first of them numbered T -/
def pdOK (d A : Nat → Nat) (s np T sum : Nat) : Prop := 1 ≤ T ∧ T ≤ 20 ∧ np ≤ T ∧ ∀ i, i < np → pdG d A (s - np + i) T sum i
theorem pt_pd {d A : Nat → Nat} {s np sum : Nat} (h1 : 1 ≤ np) (h2 : np ≤ s) : ptOK d A s np sum ↔ pdOK d A s np np sum := by
  constructor
  · rintro ⟨a, b⟩
    refine ⟨h1, a, Nat.le_refl _, fun i hi => ?_⟩
    have := b (np - 1 - i) (by omega)
    rw [show s - 1 - (np - 1 - i) = s - np + i by omega] at this
    refine ⟨?_, this.2.1, this.2.2.1, this.2.2.2⟩
    rw [this.1]
    by_cases e : i = 0
    · rw [if_pos (by omega), if_pos e]; omega
    · rw [if_neg (by omega), if_neg e]; omega
  · rintro ⟨a, b, c, g⟩
    refine ⟨b, fun i hi => ?_⟩
    have := g (np - 1 - i) (by omega)
    rw [show s - np + (np - 1 - i) = s - 1 - i by omega] at this
    refine ⟨?_, this.2.1, this.2.2.1, this.2.2.2⟩
    rw [this.1]
    by_cases e : i + 1 = np
    · rw [if_pos e, if_pos (by omega)]; omega
    · rw [if_neg e, if_neg (by omega)]; omega
theorem pd_mono {d A : Nat → Nat} {s np T sum : Nat} (h2 : np ≤ s) (h : pdOK d A (s + 1) (np + 1) T sum) : pdOK d A s np T sum := by
  obtain ⟨a, b, c, g⟩ := h
  refine ⟨a, b, by omega, fun i hi => ?_⟩
  have := g i (by omega)
  rwa [show s + 1 - (np + 1) + i = s - np + i by omega] at this
/-- parts that can't be right any more end in fault 4 -/
theorem scn_bad {G : Geo} {d A : Nat → Nat} {z : Nat} : ∀ (m s : Nat) (ms : List Nat), z ≤ s → 0 < rn d A z s → (¬ ∃ T sum, pdOK d A s (rn d A z s) T sum) → (scn G d A z m s ms).1 = 4 := by
  intro m
  induction m with
  | zero => intro s ms hz hr _; rw [scn, if_pos hr]
  | succ m ih =>
    intro s ms hz hr hbad
    have hrl := rn_le (d := d) (A := A) (z := z) s
    rw [scn]
    by_cases q0 : d (A s) = 0
    · rw [if_pos q0, if_pos hr]
    · rw [if_neg q0]
      by_cases qP : isP d A z s
      · have hlf : lf d A z s = 0 := lf_zero.mpr ⟨fun w => absurd w qP.2.2.1, fun w => absurd qP.2.2.2 w.2.2.2.1, fun w => absurd qP.2.2.2 w.2.2.2.1⟩
        have er : rn d A z (s + 1) = rn d A z s + 1 := by rw [rn, if_pos qP]
        rw [if_neg (by rw [hlf]; decide), if_neg (fun w => w.1.2.2.2.1 qP.2.2.2)]
        refine ih (s + 1) ms (by omega) (by omega) (fun w => ?_)
        obtain ⟨T, sum, w⟩ := w
        rw [er] at w
        exact hbad ⟨T, sum, pd_mono (by omega) w⟩
      · have hlf : lf d A z s = 4 := by
          unfold lf
          by_cases q1 : d (A s) = 229
          · rw [if_pos q1, if_neg (by omega)]
          · rw [if_neg q1]
            by_cases q2 : isE d A z s
            · rw [if_pos q2, if_neg (fun w => hbad ⟨_, _, (pt_pd hr (by omega)).mp w.2.2.2.2.1⟩)]
            · rw [if_neg q2]
              have q3 : isL d A z s := by
                have h15 : d (A s + 11) % 64 ≠ 15 := fun w => qP ⟨hz, q0, q1, w⟩
                refine ⟨hz, q0, q1, h15, ?_⟩
                apply Decidable.byContradiction
                intro w
                exact q2 ⟨hz, q0, q1, h15, by omega⟩
              rw [if_pos q3, if_neg (fun w => by have := w.2.2.2.2.2.2.1; omega)]
        rw [if_pos (by rw [hlf]; decide)]
        exact hlf
/-- the model's pending parts -/
def PD (fi : FI) (ar : AR) (d A : Nat → Nat) (s np : Nat) : Prop := fi 36 = nI np ∧ (0 < np → ∃ T sum, pdOK d A s np T sum ∧ sum < 256 ∧ fi 37 = nI (T - np) ∧ fi 35 = nI (13 * T) ∧ fi 38 = nI sum ∧ ∀ i, i < np → ∀ q, q < 13 → ar 34 (13 * (T - 1 - i) + q) = nI (tw d (A (s - np + i) + plc q)))
theorem part_loop {nf : Nat} {d : Nat → Nat} {p lf0 met : Nat} (hp : p + 32 ≤ 524288) (hlf : 1 ≤ lf0 ∧ lf0 ≤ 20) (hmet : met < 100) : ∀ (m i kf : Nat) (fi : FI) (ar : AR), RD ar d → i + m = 13 → m < kf → fi 37 = nI lf0 → fi 36 = nI met → (∀ q, q < i → ar 34 (13 * (lf0 - 1) + q) = nI (tw d (p + plc q))) → ∃ fi' ar', M_part_119 nf kf (nI p) (nI i) fi ar = some (1, fi', ar') ∧ fi' 37 = nI (lf0 - 1) ∧ fi' 36 = nI (met + 1) ∧ (∀ q, q < 13 → ar' 34 (13 * (lf0 - 1) + q) = nI (tw d (p + plc q))) ∧ (∀ j, (j < 13 * (lf0 - 1) ∨ 13 * lf0 ≤ j) → ar' 34 j = ar 34 j) ∧ offF [36, 37] fi fi' ∧ offA 34 ar ar' := by
  intro m
  induction m with
  | zero =>
    intro i kf fi ar hd hi hk h37 h36 hq
    obtain ⟨kf, rfl⟩ : ∃ k, kf = k + 1 := ⟨kf - 1, by omega⟩
    refine ⟨va_up (va_up fi 36 (nI (met + 1))) 37 (nI (lf0 - 1)), ar, ?_, va_up_self _ _ _, by rw [va_up_off (by decide), va_up_self], fun q h => hq q (by omega), fun _ _ => rfl, (offF.rf.up (by simp)).up (by simp), offA.rf⟩
    rw [show M_part_119 nf (kf + 1) = M_part_119b (M_part_119 nf kf) nf from rfl]
    unfold M_part_119b
    rw [show (13 : Int32) = nI 13 from rfl, zle (by omega) (by omega), if_pos (by omega), h36, nI_1, bnd_eq, va_up_off (by decide), h37, show nI lf0 - (1 : Int32) = nI (lf0 - 1) from nI_sub (b := 1) hlf.1, bnd_eq]
  | succ m ih =>
    intro i kf fi ar hd hi hk h37 h36 hq
    obtain ⟨kf, rfl⟩ : ∃ k, kf = k + 1 := ⟨kf - 1, by omega⟩
    have hpl := plc_lt (show i < 13 by omega)
    have htw := twR_lt hd (show p + plc i + 1 < 524288 by omega)
    obtain ⟨fi', ar', r1, r2, r3, r4, r5, r6, r7⟩ := ih (i + 1) kf fi (va_up ar 34 (upd (ar 34) (13 * (lf0 - 1) + i) (nI (tw d (p + plc i))))) (hd.up (by omega)) (by omega) (by omega) h37 h36 (fun q h => by
      rw [va_up_self]; unfold upd
      by_cases e : q = i
      · rw [if_pos (by omega), e]
      · rw [if_neg (by omega)]; exact hq q (by omega))
    refine ⟨fi', ar', ?_, r2, r3, r4, fun j hj => ?_, r6, fun j hj => by rw [r7 j hj, va_up_ne _ _ hj]⟩
    · rw [← r1]
      rw [show M_part_119 nf (kf + 1) = M_part_119b (M_part_119 nf kf) nf from rfl]
      have k175 : ∀ x : Nat, plc i = x → M_part_175 (M_part_119 nf kf) nf (nI p) (nI i) (nI (13 * (lf0 - 1) + i)) (nI p) (nI x) fi ar = M_part_119 nf kf (nI p) (nI (i + 1)) fi (va_up ar 34 (upd (ar 34) (13 * (lf0 - 1) + i) (nI (tw d (p + plc i))))) := by
        intro x hx
        subst hx
        unfold M_part_175
        simp (disch := first | omega | decide) only [zlt, zle, zeq, zltl, zllt, zlel, zlle, zeql, zll, ↓zlt, ↓zle, ↓zeq, ↓zltl, ↓zllt, ↓zlel, ↓zlle, ↓zeql, ↓zll, ↓if_pos, ↓if_neg, if_pos, if_neg, ↓zgd, zgd, zgdc, ↓zgd0, zgd0c, zcl0, ↓zbit, zbitc, ↓zbit1, ↓zbit0, nI_clamp, zaddl, zladd, zsubl, zlsub, zmull, zlmul, zdivl, nI_1, nI_add, nI_mulL, zand1, zand3, zand15, zand31, zand63, zand255, zand65535, zshr1, zshl7, zshl8, zshl9, zbit8, zbit16, ↓bnd_eq, bnd_eq, obnd_some, obnd3_some, obnd6_some, M_two_eq hd, zchar]
      have e37 : (13 : Int32) * (nI lf0 - 1) + nI i = nI (13 * (lf0 - 1) + i) := by
        rw [show nI lf0 - (1 : Int32) = nI (lf0 - 1) from nI_sub (b := 1) hlf.1, show (13 : Int32) * nI (lf0 - 1) = nI (13 * (lf0 - 1)) from pk_mul 13 _, nI_add]
      unfold M_part_119b
      rw [h37, e37, show (13 : Int32) = nI 13 from rfl, show (5 : Int32) = nI 5 from rfl, show (11 : Int32) = nI 11 from rfl, show (6 : Int32) = nI 6 from rfl, show (4 : Int32) = nI 4 from rfl, show (2 : Int32) * nI i = nI (2 * i) from pk_mul 2 i, nI_add, nI_add, show (1 : Int32) + nI (2 * i) = nI (1 + 2 * i) from nI_add 1 _, zle (by omega) (by omega), if_neg (by omega), zle (by omega) (by omega), zle (by omega) (by omega)]
      by_cases q1 : 5 ≤ i
      · rw [if_pos q1]
        by_cases q2 : 11 ≤ i
        · rw [if_pos q2]; exact k175 _ (by unfold plc; rw [if_neg (by omega), if_neg (by omega)])
        · rw [if_neg q2]; exact k175 _ (by unfold plc; rw [if_neg (by omega), if_pos (by omega)])
      · rw [if_neg q1]; exact k175 _ (by unfold plc; rw [if_pos (by omega)])
    · rw [r5 j hj, va_up_self]; unfold upd; rw [if_neg (by omega)]
theorem M_part_ok {nf : Nat} {fi : FI} {ar : AR} {d A : Nat → Nat} {s np : Nat} (hd : RD ar d) (hp : A s + 32 ≤ 524288) (hnps : np ≤ s) (hsb : s < 65536) (h : PD fi ar d A s np) (hnf : 100 ≤ nf) : ∃ fi' ar' r, M_part nf fi ar (nI (A s)) = some (r, fi', ar') ∧ offF [35, 36, 37, 38] fi fi' ∧ offA 34 ar ar' ∧ ((r = 1 ∧ PD fi' ar' d A (s + 1) (np + 1)) ∨ (r = 0 ∧ ¬ ∃ T sum, pdOK d A (s + 1) (np + 1) T sum)) := by
  obtain ⟨p, hpe⟩ : ∃ p, p = A s := ⟨_, rfl⟩
  rw [← hpe] at hp
  have b0 := hd.lt (show p < 524288 by omega)
  have b12 := hd.lt (show p + 12 < 524288 by omega)
  have b13 := hd.lt (show p + 13 < 524288 by omega)
  have b26 := twR_lt hd (show p + 26 + 1 < 524288 by omega)
  have lastG : ∀ T sum, pdOK d A (s + 1) (np + 1) T sum → pdG d A s T sum np := fun T sum w => by
    have := w.2.2.2 np (by omega)
    rwa [show s + 1 - (np + 1) + np = s by omega] at this
  -- the common end
  have k71 : ∀ (fi1 : FI) (T sum : Nat), fi1 36 = nI np → fi1 37 = nI (T - np) → fi1 35 = nI (13 * T) → fi1 38 = nI sum → sum < 256 → offF [35, 36, 37, 38] fi fi1 → (1 ≤ T ∧ T ≤ 20 ∧ np ≤ T ∧ ∀ i, i < np → pdG d A (s - np + i) T sum i) → (∀ i, i < np → ∀ q, q < 13 → ar 34 (13 * (T - 1 - i) + q) = nI (tw d (A (s - np + i) + plc q))) → d p = T - np + (if np = 0 then 64 else 0) → (∀ T' sum', pdOK d A (s + 1) (np + 1) T' sum' → T' = T ∧ sum' = sum) → ∃ fi' ar' r, M_part_71 nf (nI p) fi1 ar = some (r, fi', ar') ∧ offF [35, 36, 37, 38] fi fi' ∧ offA 34 ar ar' ∧ ((r = 1 ∧ PD fi' ar' d A (s + 1) (np + 1)) ∨ (r = 0 ∧ ¬ ∃ T sum, pdOK d A (s + 1) (np + 1) T sum)) := by
    intro fi1 T sum f36 f37 f35 f38 hsum ho hpd harr hnum huniq
    unfold M_part_71 M_part_115
    have fail : (T - np = 0 ∨ d (p + 12) ≠ 0 ∨ tw d (p + 26) ≠ 0 ∨ d (p + 13) ≠ sum) → ¬ ∃ T sum, pdOK d A (s + 1) (np + 1) T sum := by
      rintro hf ⟨T', sum', w⟩
      obtain ⟨e1, e2⟩ := huniq T' sum' w
      subst e1; subst e2
      have hg := lastG _ _ w
      unfold pdG at hg
      rw [← hpe] at hg
      rcases hf with f | f | f | f
      · have := w.2.2.1; omega
      · exact f hg.2.1
      · exact f hg.2.2.2
      · exact f hg.2.2.1
    by_cases q1 : T - np = 0
    · refine ⟨fi1, ar, 0, ?_, ho, offA.rf, Or.inr ⟨rfl, fail (Or.inl q1)⟩⟩
      simp (disch := first | omega | decide) only [zlt, zle, zeq, zltl, zllt, zlel, zlle, zeql, zll, ↓zlt, ↓zle, ↓zeq, ↓zltl, ↓zllt, ↓zlel, ↓zlle, ↓zeql, ↓zll, ↓if_pos, ↓if_neg, if_pos, if_neg, ↓zgd, zgd, zgdc, ↓zgd0, zgd0c, zcl0, ↓zbit, zbitc, ↓zbit1, ↓zbit0, nI_clamp, zaddl, zladd, zsubl, zlsub, zmull, zlmul, zdivl, nI_1, nI_add, nI_mulL, zand1, zand3, zand15, zand31, zand63, zand255, zand65535, zshr1, zshl7, zshl8, zshl9, zbit8, zbit16, ↓bnd_eq, bnd_eq, obnd_some, obnd3_some, obnd6_some, f37]
    · by_cases q2 : d (p + 12) = 0
      · by_cases q3 : tw d (p + 26) = 0
        · by_cases q4 : d (p + 13) = sum
          · obtain ⟨fi', ar', r1, r2, r3, r4, r5, r6, r7⟩ := part_loop (nf := nf) (p := p) (lf0 := T - np) (met := np) hp (by omega) (by omega) 13 0 nf fi1 ar hd (by omega) (by omega) f37 f36 (fun q h => by omega)
            have e := hpd
            refine ⟨fi', ar', 1, ?_, ho.tr (r6.mono (by simp)), r7, Or.inl ⟨rfl, ⟨r3, fun _ => ⟨T, sum, ⟨hpd.1, hpd.2.1, by omega, fun i hi => ?_⟩, hsum, by rw [r2]; congr 1, ?_, ?_, fun i hi q hq => ?_⟩⟩⟩⟩
            · simp (disch := first | omega | decide) only [zlt, zle, zeq, zltl, zllt, zlel, zlle, zeql, zll, ↓zlt, ↓zle, ↓zeq, ↓zltl, ↓zllt, ↓zlel, ↓zlle, ↓zeql, ↓zll, ↓if_pos, ↓if_neg, if_pos, if_neg, ↓zgd, zgd, zgdc, ↓zgd0, zgd0c, zcl0, ↓zbit, zbitc, ↓zbit1, ↓zbit0, nI_clamp, zaddl, zladd, zsubl, zlsub, zmull, zlmul, zdivl, nI_1, nI_add, nI_mulL, zand1, zand3, zand15, zand31, zand63, zand255, zand65535, zshr1, zshl7, zshl8, zshl9, zbit8, zbit16, ↓bnd_eq, bnd_eq, obnd_some, obnd3_some, obnd6_some, f37, M_one_eq hd, M_two_eq hd, f38]
              exact r1
            · by_cases ei : i = np
              · rw [ei, show s + 1 - (np + 1) + np = s by omega]
                rw [hpe] at q2 q3 q4 hnum
                exact ⟨hnum, q2, q4, q3⟩
              · have := hpd.2.2.2 i (by omega)
                rwa [show s + 1 - (np + 1) + i = s - np + i by omega]
            · rw [r6 35 (by simp)]; exact f35
            · rw [r6 38 (by simp)]; exact f38
            · by_cases ei : i = np
              · rw [ei, show s + 1 - (np + 1) + np = s by omega, ← hpe, show T - 1 - np = T - np - 1 by omega]
                exact r4 q hq
              · rw [r5 _ (by right; omega), show s + 1 - (np + 1) + i = s - np + i by omega]
                exact harr i (by omega) q hq
          · refine ⟨fi1, ar, 0, ?_, ho, offA.rf, Or.inr ⟨rfl, fail (Or.inr (Or.inr (Or.inr q4)))⟩⟩
            simp (disch := first | omega | decide) only [zlt, zle, zeq, zltl, zllt, zlel, zlle, zeql, zll, ↓zlt, ↓zle, ↓zeq, ↓zltl, ↓zllt, ↓zlel, ↓zlle, ↓zeql, ↓zll, ↓if_pos, ↓if_neg, if_pos, if_neg, ↓zgd, zgd, zgdc, ↓zgd0, zgd0c, zcl0, ↓zbit, zbitc, ↓zbit1, ↓zbit0, nI_clamp, zaddl, zladd, zsubl, zlsub, zmull, zlmul, zdivl, nI_1, nI_add, nI_mulL, zand1, zand3, zand15, zand31, zand63, zand255, zand65535, zshr1, zshl7, zshl8, zshl9, zbit8, zbit16, ↓bnd_eq, bnd_eq, obnd_some, obnd3_some, obnd6_some, f37, M_one_eq hd, M_two_eq hd, f38]
        · refine ⟨fi1, ar, 0, ?_, ho, offA.rf, Or.inr ⟨rfl, fail (Or.inr (Or.inr (Or.inl q3)))⟩⟩
          simp (disch := first | omega | decide) only [zlt, zle, zeq, zltl, zllt, zlel, zlle, zeql, zll, ↓zlt, ↓zle, ↓zeq, ↓zltl, ↓zllt, ↓zlel, ↓zlle, ↓zeql, ↓zll, ↓if_pos, ↓if_neg, if_pos, if_neg, ↓zgd, zgd, zgdc, ↓zgd0, zgd0c, zcl0, ↓zbit, zbitc, ↓zbit1, ↓zbit0, nI_clamp, zaddl, zladd, zsubl, zlsub, zmull, zlmul, zdivl, nI_1, nI_add, nI_mulL, zand1, zand3, zand15, zand31, zand63, zand255, zand65535, zshr1, zshl7, zshl8, zshl9, zbit8, zbit16, ↓bnd_eq, bnd_eq, obnd_some, obnd3_some, obnd6_some, f37, M_one_eq hd, M_two_eq hd]
      · refine ⟨fi1, ar, 0, ?_, ho, offA.rf, Or.inr ⟨rfl, fail (Or.inr (Or.inl q2))⟩⟩
        simp (disch := first | omega | decide) only [zlt, zle, zeq, zltl, zllt, zlel, zlle, zeql, zll, ↓zlt, ↓zle, ↓zeq, ↓zltl, ↓zllt, ↓zlel, ↓zlle, ↓zeql, ↓zll, ↓if_pos, ↓if_neg, if_pos, if_neg, ↓zgd, zgd, zgdc, ↓zgd0, zgd0c, zcl0, ↓zbit, zbitc, ↓zbit1, ↓zbit0, nI_clamp, zaddl, zladd, zsubl, zlsub, zmull, zlmul, zdivl, nI_1, nI_add, nI_mulL, zand1, zand3, zand15, zand31, zand63, zand255, zand65535, zshr1, zshl7, zshl8, zshl9, zbit8, zbit16, ↓bnd_eq, bnd_eq, obnd_some, obnd3_some, obnd6_some, f37, M_one_eq hd]
  rw [← hpe]
  unfold M_part M_part_25
  by_cases q0 : np = 0
  · subst q0
    have f36 := h.1
    by_cases q1 : d p < 65 ∨ 84 < d p
    · refine ⟨fi, ar, 0, ?_, offF.rf, offA.rf, Or.inr ⟨rfl, ?_⟩⟩
      · rcases q1 with q | q
        · simp (disch := first | omega | decide) only [zlt, zle, zeq, zltl, zllt, zlel, zlle, zeql, zll, ↓zlt, ↓zle, ↓zeq, ↓zltl, ↓zllt, ↓zlel, ↓zlle, ↓zeql, ↓zll, ↓if_pos, ↓if_neg, if_pos, if_neg, ↓zgd, zgd, zgdc, ↓zgd0, zgd0c, zcl0, ↓zbit, zbitc, ↓zbit1, ↓zbit0, nI_clamp, zaddl, zladd, zsubl, zlsub, zmull, zlmul, zdivl, nI_1, nI_add, nI_mulL, zand1, zand3, zand15, zand31, zand63, zand255, zand65535, zshr1, zshl7, zshl8, zshl9, zbit8, zbit16, ↓bnd_eq, bnd_eq, obnd_some, obnd3_some, obnd6_some, M_one_eq hd, f36]
        · simp (disch := first | omega | decide) only [zlt, zle, zeq, zltl, zllt, zlel, zlle, zeql, zll, ↓zlt, ↓zle, ↓zeq, ↓zltl, ↓zllt, ↓zlel, ↓zlle, ↓zeql, ↓zll, ↓if_pos, ↓if_neg, if_pos, if_neg, ↓zgd, zgd, zgdc, ↓zgd0, zgd0c, zcl0, ↓zbit, zbitc, ↓zbit1, ↓zbit0, nI_clamp, zaddl, zladd, zsubl, zlsub, zmull, zlmul, zdivl, nI_1, nI_add, nI_mulL, zand1, zand3, zand15, zand31, zand63, zand255, zand65535, zshr1, zshl7, zshl8, zshl9, zbit8, zbit16, ↓bnd_eq, bnd_eq, obnd_some, obnd3_some, obnd6_some, M_one_eq hd, f36]
      · rintro ⟨T, sum, w⟩
        have hg := (lastG T sum w).1
        rw [← hpe, if_pos rfl] at hg
        have := w.1; have := w.2.1
        omega
    · have q1' : 65 ≤ d p ∧ d p ≤ 84 := by omega
      obtain ⟨fi', ar', r, w1, w2⟩ := k71 (va_up (va_up (va_up fi 37 (nI (d p - 64))) 35 (nI (13 * (d p - 64)))) 38 (nI (d (p + 13)))) (d p - 64) (d (p + 13)) (by rw [va_up_off (by decide), va_up_off (by decide), va_up_off (by decide)]; exact f36) (by rw [va_up_off (by decide), va_up_off (by decide), va_up_self]; rfl) (by rw [va_up_off (by decide), va_up_self]) (va_up_self _ _ _) b13 (((offF.rf.up (by simp)).up (by simp)).up (by simp)) ⟨by omega, by omega, by omega, fun i hi => by omega⟩ (fun i hi => by omega) (by rw [if_pos rfl]; omega) (fun T' sum' w => by
        have hg := lastG T' sum' w
        unfold pdG at hg
        rw [← hpe, if_pos rfl] at hg
        have := w.1
        exact ⟨by omega, hg.2.2.1.symm⟩)
      refine ⟨fi', ar', r, ?_, w2⟩
      rw [← w1]
      simp (disch := first | omega | decide) only [zlt, zle, zeq, zltl, zllt, zlel, zlle, zeql, zll, ↓zlt, ↓zle, ↓zeq, ↓zltl, ↓zllt, ↓zlel, ↓zlle, ↓zeql, ↓zll, ↓if_pos, ↓if_neg, if_pos, if_neg, ↓zgd, zgd, zgdc, ↓zgd0, zgd0c, zcl0, ↓zbit, zbitc, ↓zbit1, ↓zbit0, nI_clamp, zaddl, zladd, zsubl, zlsub, zmull, zlmul, zdivl, nI_1, nI_add, nI_mulL, zand1, zand3, zand15, zand31, zand63, zand255, zand65535, zshr1, zshl7, zshl8, zshl9, zbit8, zbit16, ↓bnd_eq, bnd_eq, obnd_some, obnd3_some, obnd6_some, M_one_eq hd, f36, va_up_self]
  · obtain ⟨T, sum, hpd, hsum, f37, f35, f38, harr⟩ := h.2 (by omega)
    have hTb := hpd.2.1
    have huniq : ∀ T' sum', pdOK d A (s + 1) (np + 1) T' sum' → T' = T ∧ sum' = sum := fun T' sum' w => by
      have w2 := (pd_mono hnps w).2.2.2 0 (by omega)
      have w3 := hpd.2.2.2 0 (by omega)
      have e1 := w2.1.symm.trans w3.1
      have e2 := w2.2.2.1.symm.trans w3.2.2.1
      rw [if_pos rfl] at e1
      exact ⟨by omega, e2⟩
    by_cases q1 : d p = T - np
    · obtain ⟨fi', ar', r, w1, w2⟩ := k71 fi T sum h.1 f37 f35 f38 hsum offF.rf hpd harr (by rw [if_neg q0]; omega) huniq
      refine ⟨fi', ar', r, ?_, w2⟩
      rw [← w1]
      have f36 := h.1
      simp (disch := first | omega | decide) only [zlt, zle, zeq, zltl, zllt, zlel, zlle, zeql, zll, ↓zlt, ↓zle, ↓zeq, ↓zltl, ↓zllt, ↓zlel, ↓zlle, ↓zeql, ↓zll, ↓if_pos, ↓if_neg, if_pos, if_neg, ↓zgd, zgd, zgdc, ↓zgd0, zgd0c, zcl0, ↓zbit, zbitc, ↓zbit1, ↓zbit0, nI_clamp, zaddl, zladd, zsubl, zlsub, zmull, zlmul, zdivl, nI_1, nI_add, nI_mulL, zand1, zand3, zand15, zand31, zand63, zand255, zand65535, zshr1, zshl7, zshl8, zshl9, zbit8, zbit16, ↓bnd_eq, bnd_eq, obnd_some, obnd3_some, obnd6_some, M_one_eq hd, f36, f37]
    · refine ⟨fi, ar, 0, ?_, offF.rf, offA.rf, Or.inr ⟨rfl, ?_⟩⟩
      · have f36 := h.1
        simp (disch := first | omega | decide) only [zlt, zle, zeq, zltl, zllt, zlel, zlle, zeql, zll, ↓zlt, ↓zle, ↓zeq, ↓zltl, ↓zllt, ↓zlel, ↓zlle, ↓zeql, ↓zll, ↓if_pos, ↓if_neg, if_pos, if_neg, ↓zgd, zgd, zgdc, ↓zgd0, zgd0c, zcl0, ↓zbit, zbitc, ↓zbit1, ↓zbit0, nI_clamp, zaddl, zladd, zsubl, zlsub, zmull, zlmul, zdivl, nI_1, nI_add, nI_mulL, zand1, zand3, zand15, zand31, zand63, zand255, zand65535, zshr1, zshl7, zshl8, zshl9, zbit8, zbit16, ↓bnd_eq, bnd_eq, obnd_some, obnd3_some, obnd6_some, M_one_eq hd, f36, f37]
      · rintro ⟨T', sum', w⟩
        obtain ⟨e1, e2⟩ := huniq T' sum' w
        have hg := (lastG T' sum' w).1
        rw [← hpe, if_neg q0, e1] at hg
        omega
