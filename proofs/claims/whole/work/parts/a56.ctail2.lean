/-! make: a tail is set, and chosen: the class -/
theorem pow_div10 {k j : Nat} : k / 10 ^ j / 10 = k / 10 ^ (j + 1) := by rw [Nat.div_div_eq_div_mul, Nat.pow_succ]
theorem st_digits {nf : Nat} {ln : LN} {fi : FI} {ar : AR} {k : Nat} (h1 : 1 ≤ k) (h2 : k < 100000) : ∀ (m j kf : Nat), j + m = dg k → 1 ≤ j → m < kf → FX7_setTail_7 nf ln 0 kf (nI k) (nI j) (nI (k / 10 ^ j)) fi ar = FX7_setTail_28 nf ln 0 (nI k) (nI (dg k)) fi ar := by
  have hd := dg_b k
  intro m
  induction m with
  | zero =>
    intro j kf hj h1j hk
    have e : j = dg k := by omega
    subst e
    obtain ⟨kf, rfl⟩ : ∃ k, kf = k + 1 := ⟨kf - 1, by omega⟩
    rw [show FX7_setTail_7 nf ln 0 (kf + 1) = FX7_setTail_7b (FX7_setTail_7 nf ln 0 kf) nf ln 0 from rfl]
    unfold FX7_setTail_7b
    rw [(dg_pow h1 h2 hd.2).mpr (Nat.le_refl _), brT (show nI 0 ≤ 0 by decide)]
  | succ m ih =>
    intro j kf hj h1j hk
    have hne : k / 10 ^ j ≠ 0 := fun w => by have := (dg_pow h1 h2 (j := j) (by omega)).mp w; omega
    have hle : k / 10 ^ j ≤ k := Nat.div_le_self _ _
    have hlt : k / 10 ^ j < 2 ^ 31 := Nat.lt_of_le_of_lt hle (by omega)
    obtain ⟨kf, rfl⟩ : ∃ k, kf = k + 1 := ⟨kf - 1, by omega⟩
    rw [show FX7_setTail_7 nf ln 0 (kf + 1) = FX7_setTail_7b (FX7_setTail_7 nf ln 0 kf) nf ln 0 from rfl]
    unfold FX7_setTail_7b
    rw [brF (nI_nle (Nat.pos_of_ne_zero hne) hlt), brF (show ¬ (7 : Int32) ≤ nI j from nI_ge (b := 7) (by omega) (by omega)), bnd_eq, bnd_eq, show nI j + (1 : Int32) = nI (j + 1) from nI_add j 1, show (10 : Int32) = nI 10 from rfl, pk_div hlt (by omega) (by omega), pow_div10]
    exact ih (j + 1) kf (by omega) (by omega) (by omega)
def tlW (N : List Nat) (k t i : Nat) : Nat := if kp N k + t < i ∧ i ≤ kp N k + dg k then 48 + k / 10 ^ (kp N k + dg k - i) % 10 else if i < kp N k then (bas N).getD i 0 else if i = kp N k then 126 else if i < 8 then 32 else if i - 8 < (ext N).length then (ext N).getD (i - 8) 0 else 32
theorem tlW_zero {N : List Nat} {k i : Nat} : tlW N k 0 i = tlB N k i := by
  unfold tlW tlB
  by_cases c : i < kp N k
  · rw [if_neg (by omega), if_pos c, if_pos c]
  · by_cases c2 : i = kp N k
    · rw [if_neg (by omega), if_neg c, if_pos c2, if_neg c, if_pos c2]
    · by_cases c3 : i ≤ kp N k + dg k
      · rw [if_pos (by omega), if_neg c, if_neg c2, if_pos c3]
      · rw [if_neg (by omega), if_neg c, if_neg c2, if_neg c, if_neg c2, if_neg c3]
theorem st_nums {nf : Nat} {ln : LN} {fi : FI} {N : List Nat} {k : Nat} (hl40 : ln 40 = 11) (h2 : k < 100000) : ∀ (t kf : Nat) (ar : AR), t ≤ dg k → t < kf → (∀ i, i < 11 → ar 40 i = nI (tlW N k t i)) → ∃ ar', FX7_setTail_97 nf ln 0 kf (nI (kp N k)) (nI (k / 10 ^ (dg k - t))) (nI (kp N k + t)) fi ar = some ((), fi, ar') ∧ (∀ i, i < 11 → ar' 40 i = nI (tlB N k i)) ∧ offA 40 ar ar' := by
  have hd := dg_b k
  have hkp : kp N k ≤ 7 - dg k := Nat.min_le_left _ _
  intro t
  induction t with
  | zero =>
    intro kf ar ht hk hW
    obtain ⟨kf, rfl⟩ : ∃ k, kf = k + 1 := ⟨kf - 1, by omega⟩
    rw [show FX7_setTail_97 nf ln 0 (kf + 1) = FX7_setTail_97b (FX7_setTail_97 nf ln 0 kf) nf ln 0 from rfl]
    unfold FX7_setTail_97b
    rw [brT (nI_le (by omega) (by omega))]
    exact ⟨ar, rfl, fun i hi => by rw [hW i hi, tlW_zero], offA.rf⟩
  | succ t ih =>
    intro kf ar ht hk hW
    have hle : k / 10 ^ (dg k - (t + 1)) ≤ k := Nat.div_le_self _ _
    obtain ⟨kf, rfl⟩ : ∃ k, kf = k + 1 := ⟨kf - 1, by omega⟩
    rw [show FX7_setTail_97 nf ln 0 (kf + 1) = FX7_setTail_97b (FX7_setTail_97 nf ln 0 kf) nf ln 0 from rfl]
    unfold FX7_setTail_97b
    have hrem : nI (k / 10 ^ (dg k - (t + 1))) - nI (k / 10 ^ (dg k - (t + 1))) / (10 : Int32) * (10 : Int32) = nI (k / 10 ^ (dg k - (t + 1)) % 10) := by
      rw [show (10 : Int32) = nI 10 from rfl]; exact pk_rem (by omega) (by omega) (by omega)
    have hdiv : nI (k / 10 ^ (dg k - (t + 1))) / (10 : Int32) = nI (k / 10 ^ (dg k - t)) := by
      rw [show (10 : Int32) = nI 10 from rfl, pk_div (by omega) (by omega) (by omega), pow_div10, show dg k - (t + 1) + 1 = dg k - t by omega]
    have hdec : nI (kp N k + (t + 1)) + (-1 : Int32) = nI (kp N k + t) := by
      rw [← Nat.add_assoc, ← nI_1, Int32.add_assoc, show (1 : Int32) + -1 = 0 from by decide, Int32.add_zero]
    rw [brF (nI_ge (by omega) (by omega)), zgd (by show kp N k + (t + 1) < ln 40; omega) (by omega), nI_clamp (by omega), bnd_eq, bnd_eq, bnd_eq, hrem, hdiv, hdec, show (48 : Int32) + nI (k / 10 ^ (dg k - (t + 1)) % 10) = nI (48 + k / 10 ^ (dg k - (t + 1)) % 10) from nI_add 48 _]
    have o1 : offA 40 ar (va_up ar 40 (upd (ar 40) (kp N k + (t + 1)) (nI (48 + k / 10 ^ (dg k - (t + 1)) % 10)))) := fun z hz => va_up_off hz
    obtain ⟨ar', s1, s2, s3⟩ := ih kf (va_up ar 40 (upd (ar 40) (kp N k + (t + 1)) (nI (48 + k / 10 ^ (dg k - (t + 1)) % 10)))) (by omega) (by omega) (fun i hi => by
      rw [va_up_self]
      unfold upd
      by_cases e : i = kp N k + (t + 1)
      · rw [if_pos e]
        unfold tlW
        rw [if_pos (by omega), e, show kp N k + dg k - (kp N k + (t + 1)) = dg k - (t + 1) by omega]
      · rw [if_neg e, hW i hi]
        unfold tlW
        by_cases c : kp N k + (t + 1) < i ∧ i ≤ kp N k + dg k
        · rw [if_pos c, if_pos (show kp N k + t < i ∧ i ≤ kp N k + dg k by omega)]
        · rw [if_neg c, if_neg (show ¬ (kp N k + t < i ∧ i ≤ kp N k + dg k) by omega)])
    exact ⟨ar', s1, s2, o1.tr s3⟩
theorem st_fill {nf : Nat} {ln : LN} {fi : FI} {N : List Nat} {k : Nat} (hl40 : ln 40 = 11) (hl41 : ln 41 = 6) (h2 : k < 100000) (hnf : 20 ≤ nf) : ∀ (m i kf : Nat) (ar : AR), i + m = 8 → m < kf → (∀ j, j < kp N k → ar 41 j = nI ((bas N).getD j 0)) → (∀ j, j < i → ar 40 j = nI (if j < kp N k then (bas N).getD j 0 else 32)) → (∀ j, 8 ≤ j → j < 11 → ar 40 j = nI (if j - 8 < (ext N).length then (ext N).getD (j - 8) 0 else 32)) → ∃ ar', FX7_setTail_43 nf ln 0 kf (nI k) (nI (dg k)) (nI (kp N k)) (nI i) fi ar = some ((), fi, ar') ∧ (∀ i, i < 11 → ar' 40 i = nI (tlB N k i)) ∧ offA 40 ar ar' := by
  have hd := dg_b k
  have hkp : kp N k ≤ 7 - dg k := Nat.min_le_left _ _
  intro m
  induction m with
  | zero =>
    intro i kf ar hi hk h41 hlo hhi
    obtain ⟨kf, rfl⟩ : ∃ k, kf = k + 1 := ⟨kf - 1, by omega⟩
    rw [show FX7_setTail_43 nf ln 0 (kf + 1) = FX7_setTail_43b (FX7_setTail_43 nf ln 0 kf) nf ln 0 from rfl]
    unfold FX7_setTail_43b
    have o1 : offA 40 ar (va_up ar 40 (upd (ar 40) (kp N k) 126)) := fun z hz => va_up_off hz
    obtain ⟨ar', s1, s2, s3⟩ := st_nums (nf := nf) (ln := ln) (fi := fi) (N := N) (k := k) hl40 h2 (dg k) nf (va_up ar 40 (upd (ar 40) (kp N k) 126)) (Nat.le_refl _) (by omega) (fun j hj => by
      rw [va_up_self]
      unfold upd tlW
      rw [if_neg (show ¬ (kp N k + dg k < j ∧ j ≤ kp N k + dg k) by omega)]
      by_cases e : j = kp N k
      · rw [if_pos e, if_neg (by omega), if_pos e]; rfl
      · rw [if_neg e]
        by_cases c : j < 8
        · rw [hlo j (by omega)]
          by_cases c2 : j < kp N k
          · rw [if_pos c2, if_pos c2]
          · rw [if_neg c2, if_neg c2, if_neg e, if_pos c]
        · rw [hhi j (by omega) hj, if_neg (show ¬ j < kp N k by omega), if_neg e, if_neg c])
    rw [Nat.sub_self, Nat.pow_zero, Nat.div_one] at s1
    refine ⟨ar', ?_, s2, o1.tr s3⟩
    rw [brT (show (8 : Int32) ≤ nI i from nI_le (a := 8) (by omega) (by omega)), zgd (by show kp N k < ln 40; omega) (by omega), nI_clamp (by omega), bnd_eq, bnd_eq, nI_add]
    exact s1
  | succ m ih =>
    intro i kf ar hi hk h41 hlo hhi
    obtain ⟨kf, rfl⟩ : ∃ k, kf = k + 1 := ⟨kf - 1, by omega⟩
    rw [show FX7_setTail_43 nf ln 0 (kf + 1) = FX7_setTail_43b (FX7_setTail_43 nf ln 0 kf) nf ln 0 from rfl]
    unfold FX7_setTail_43b FX7_setTail_74
    have hj1 : nI i + (1 : Int32) = nI (i + 1) := nI_add i 1
    have go : ∀ v : Nat, v = (if i < kp N k then (bas N).getD i 0 else 32) → ∃ ar', FX7_setTail_43 nf ln 0 kf (nI k) (nI (dg k)) (nI (kp N k)) (nI (i + 1)) fi (va_up ar 40 (upd (ar 40) i (nI v))) = some ((), fi, ar') ∧ (∀ i, i < 11 → ar' 40 i = nI (tlB N k i)) ∧ offA 40 ar ar' := fun v hv => by
      have o1 : offA 40 ar (va_up ar 40 (upd (ar 40) i (nI v))) := fun z hz => va_up_off hz
      obtain ⟨ar', s1, s2, s3⟩ := ih (i + 1) kf (va_up ar 40 (upd (ar 40) i (nI v))) (by omega) (by omega) (fun j hj => by rw [o1 41 (by decide)]; exact h41 j hj) (fun j hj => by
        rw [va_up_self]
        unfold upd
        by_cases e : j = i
        · rw [if_pos e, e, hv]
        · rw [if_neg e]; exact hlo j (by omega)) (fun j j1 j2 => by
        rw [va_up_self]
        unfold upd
        rw [if_neg (by omega)]; exact hhi j j1 j2)
      exact ⟨ar', s1, s2, o1.tr s3⟩
    rw [brF (show ¬ (8 : Int32) ≤ nI i from nI_ge (b := 8) (by omega) (by omega))]
    by_cases c : i < kp N k
    · obtain ⟨ar', s1, s2, s3⟩ := go ((bas N).getD i 0) (by rw [if_pos c])
      refine ⟨ar', ?_, s2, s3⟩
      rw [brF (nI_ge c (by omega)), zgd (by show i < ln 41; omega) (by omega), zgd (by show i < ln 40; omega) (by omega), nI_clamp (by omega), bnd_eq, bnd_eq, hj1, show ar (41 + 2 * 0) i = nI ((bas N).getD i 0) from h41 i c]
      exact s1
    · obtain ⟨ar', s1, s2, s3⟩ := go 32 (by rw [if_neg c])
      refine ⟨ar', ?_, s2, s3⟩
      rw [brT (nI_le (by omega) (by omega)), zgd (by show i < ln 40; omega) (by omega), nI_clamp (by omega), bnd_eq, bnd_eq, hj1]
      exact s1
theorem setTail_ok {nf : Nat} {ln : LN} {fi : FI} {ar : AR} {N : List Nat} {k : Nat} (hl40 : ln 40 = 11) (hl41 : ln 41 = 6) (h1 : 1 ≤ k) (h2 : k < 100000) (hb : bsI fi ar (bas N)) (hhi : ∀ j, 8 ≤ j → j < 11 → ar 40 j = nI (if j - 8 < (ext N).length then (ext N).getD (j - 8) 0 else 32)) (hnf : 20 ≤ nf) : ∃ ar', FX7_setTail nf ln 0 fi ar (nI k) = some ((), fi, ar') ∧ (∀ i, i < 11 → ar' 40 i = nI (tlB N k i)) ∧ offA 40 ar ar' := by
  have hd := dg_b k
  have hkp1 : kp N k ≤ 7 - dg k := Nat.min_le_left _ _
  have hkp2 : kp N k ≤ (bas N).length := Nat.min_le_right _ _
  obtain ⟨ar', s1, s2, s3⟩ := st_fill (nf := nf) (ln := ln) (fi := fi) (N := N) (k := k) hl40 hl41 h2 hnf 8 0 nf ar (by omega) (by omega) (fun j hj => hb.2 j (by omega)) (fun j hj => absurd hj (by omega)) hhi
  refine ⟨ar', ?_, s2, s3⟩
  have hdg := st_digits (nf := nf) (ln := ln) (fi := fi) (ar := ar) h1 h2 (dg k - 1) 1 nf (by omega) (by omega) (by omega)
  unfold FX7_setTail
  rw [bnd_eq, show (10 : Int32) = nI 10 from rfl, pk_div (by omega) (by omega) (by omega), show k / 10 = k / 10 ^ 1 by rw [Nat.pow_one]]
  have hdg' : FX7_setTail_7 nf ln 0 nf (nI k) 1 (nI (k / 10 ^ 1)) fi ar = _ := hdg
  rw [hdg']
  unfold FX7_setTail_28
  have e7 : (7 : Int32) - nI (dg k) = nI (7 - dg k) := nI_sub (a := 7) (by omega)
  have ekp : (if fi (70 + 0) < (7 : Int32) - nI (dg k) then fi (70 + 0) else (7 : Int32) - nI (dg k)) = nI (kp N k) := by
    rw [e7, show fi (70 + 0) = nI (min 6 (bas N).length) from hb.1]
    by_cases c : min 6 (bas N).length < 7 - dg k
    · rw [if_pos (nI_lt c (by omega))]; congr 1; unfold kp; omega
    · rw [if_neg (nI_nlt (by omega) (by omega))]; congr 1; unfold kp; omega
  rw [ekp, bnd_eq]
  exact s1
theorem HR.off {ln : LN} {fi fi' : FI} {ar ar' : AR} {G : Geo} {d : Nat → Nat} {f : Nat} (h : HR ln fi ar G d 0 f) {S T : List Nat} (hF : offF S fi fi') (hA : offAs T ar ar') (hS : ∀ j, j ∈ S → j ∉ [2, 4, 5, 6, 7, 8, 9, 10, 20, 21, 22, 23, 24, 25]) (hT : ∀ j, j ∈ T → j ∉ [0, 10, 11, 12, 13]) : HR ln fi' ar' G d 0 f := by
  obtain ⟨h1, h2, h3, h4, h5, h6⟩ := h
  refine ⟨h1.off hF hA (fun j hj => ?_) (fun j hj => ?_), h2, h3.off hF hA (fun j hj => ?_) (fun j hj => ?_), h4.off hF hA (fun j hj => ?_) (fun j hj => ?_), ?_, h6⟩
  · have := hS j hj; simp at this ⊢; omega
  · have := hT j hj; simp at this; omega
  · have := hS j hj; simp at this; omega
  · have := hT j hj; simp at this; omega
  · have := hS j hj; simp at this; omega
  · have := hT j hj; simp at this; omega
  · rw [hF _ (fun w => by have := hS _ w; simp at this)]; exact h5
theorem choose_loop {nf : Nat} {ln : LN} {fi : FI} {G : Geo} {d : Nat → Nat} {f : Nat} {N : List Nat} {K : Nat} (hDk : DOK G d f) (hl40 : ln 40 = 11) (hl41 : ln 41 = 6) (hK1 : K ≤ (dI G d f).length + 1) (hK2 : K < 100000) (hfree : ¬ ∃ e, e ∈ dI G d f ∧ shB d (dA G d f) (tlB N K) e) (htk : ∀ j, 1 ≤ j → j < K → ∃ e, e ∈ dI G d f ∧ shB d (dA G d f) (tlB N j) e) (hnf : 40000 ≤ nf) : ∀ (m k kf : Nat) (ar : AR), k + m = K → 1 ≤ k → m < kf → HR ln fi ar G d 0 f → bsI fi ar (bas N) → (∀ j, 8 ≤ j → j < 11 → ar 40 j = nI (if j - 8 < (ext N).length then (ext N).getD (j - 8) 0 else 32)) → ∃ ar', FX10_chooseTail_13 nf ln kf (nI k) fi ar = some ((), fi, ar') ∧ (∀ i, i < 11 → ar' 40 i = nI (tlB N K i)) ∧ offA 40 ar ar' := by
  intro m
  induction m with
  | zero =>
    intro k kf ar hk h1 hkf hH hb hhi
    have e : k = K := by omega
    subst e
    obtain ⟨kf, rfl⟩ : ∃ k, kf = k + 1 := ⟨kf - 1, by omega⟩
    rw [show FX10_chooseTail_13 nf ln (kf + 1) = FX10_chooseTail_13b (FX10_chooseTail_13 nf ln kf) nf ln from rfl]
    unfold FX10_chooseTail_13b
    obtain ⟨ar1, s1, s2, s3⟩ := setTail_ok (nf := nf) hl40 hl41 h1 hK2 hb hhi (by omega)
    have hH1 := hH.off (S := []) (T := [40]) offF.rf s3.as (by simp) (by simp)
    obtain ⟨r, t1, t2⟩ := hasShort_ok (nf := nf) (B := tlB N k) hH1 hDk (fun i hi => ⟨s2 i hi, by have := tlB_lt N k i; omega⟩) hnf
    obtain ⟨L, hL1, hL2⟩ := hH.2.2.2.2.2
    have hLb := hL1.2.2.2.2
    rw [hH.2.2.2.1.1, show nI (dI G d f).length + (1 : Int32) = nI ((dI G d f).length + 1) from nI_add _ 1, brF (nI_nlt (by omega) (by omega)), s1, obnd3_some, t1, obnd3_some]
    rcases t2 with ⟨_, w⟩ | ⟨rfl, _⟩
    · exact absurd w hfree
    · rw [brT rfl]; exact ⟨ar1, rfl, s2, s3⟩
  | succ m ih =>
    intro k kf ar hk h1 hkf hH hb hhi
    obtain ⟨kf, rfl⟩ : ∃ k, kf = k + 1 := ⟨kf - 1, by omega⟩
    rw [show FX10_chooseTail_13 nf ln (kf + 1) = FX10_chooseTail_13b (FX10_chooseTail_13 nf ln kf) nf ln from rfl]
    unfold FX10_chooseTail_13b
    obtain ⟨ar1, s1, s2, s3⟩ := setTail_ok (nf := nf) hl40 hl41 h1 (by omega) hb hhi (by omega)
    have hH1 := hH.off (S := []) (T := [40]) offF.rf s3.as (by simp) (by simp)
    obtain ⟨r, t1, t2⟩ := hasShort_ok (nf := nf) (B := tlB N k) hH1 hDk (fun i hi => ⟨s2 i hi, by have := tlB_lt N k i; omega⟩) hnf
    obtain ⟨L, hL1, hL2⟩ := hH.2.2.2.2.2
    have hLb := hL1.2.2.2.2
    rw [hH.2.2.2.1.1, show nI (dI G d f).length + (1 : Int32) = nI ((dI G d f).length + 1) from nI_add _ 1, brF (nI_nlt (by omega) (by omega)), s1, obnd3_some, t1, obnd3_some]
    rcases t2 with ⟨rfl, _⟩ | ⟨_, w⟩
    · rw [brF (by decide), bnd_eq, show nI k + (1 : Int32) = nI (k + 1) from nI_add k 1]
      have hd := dg_b k
      have hkp : kp N k ≤ 7 - dg k := Nat.min_le_left _ _
      obtain ⟨ar', u1, u2, u3⟩ := ih (k + 1) kf ar1 (by omega) (by omega) (by omega) hH1 ⟨hb.1, fun j hj => by rw [s3 41 (by decide)]; exact hb.2 j hj⟩ (fun j j1 j2 => by
        rw [s2 j j2]
        unfold tlB
        rw [if_neg (by omega), if_neg (by omega), if_neg (by omega), if_neg (by omega)])
      exact ⟨ar', u1, u2, s3.tr u3⟩
    · exact absurd (htk k h1 (by omega)) w
theorem chooseTail_ok {nf : Nat} {ln : LN} {fi : FI} {ar : AR} {G : Geo} {d : Nat → Nat} {f : Nat} {N : List Nat} {K : Nat} (hH : HR ln fi ar G d 0 f) (hDk : DOK G d f) (hN : N.length ≤ 255 ∧ ∀ x, x ∈ N → x < 65536) (h1 : 1 ≤ N.length) (hNB : NB fi ar 0 N) (hK0 : 1 ≤ K) (hK1 : K ≤ (dI G d f).length + 1) (hfree : ¬ ∃ e, e ∈ dI G d f ∧ shB d (dA G d f) (tlB N K) e) (htk : ∀ j, 1 ≤ j → j < K → ∃ e, e ∈ dI G d f ∧ shB d (dA G d f) (tlB N j) e) (hnf : 40000 ≤ nf) : ∃ fi' ar', FX10_chooseTail nf ln fi ar = some ((), fi', ar') ∧ (∀ i, i < 11 → ar' 40 i = nI (tlB N K i)) ∧ offF [70] fi fi' ∧ offAs [40, 41] ar ar' := by
  have hLC := hH.2.1
  have hl40 : ln 40 = 11 := (hLC.2.2.2.2.2.2.2.2 0 (by omega)).1
  have hl41 : ln 41 = 6 := (hLC.2.2.2.2.2.2.2.2 0 (by omega)).2
  obtain ⟨L, hL1, hL2⟩ := hH.2.2.2.2.2
  have hLb := hL1.2.2.2.2
  obtain ⟨fi1, ar1, s1, s2, s3, s4, s5⟩ := readLong_ok (nf := nf) (hLC.2.2.2.2.2.2.2.1 0 (by omega)) hl40 hl41 hN h1 hNB (by omega)
  have hH1 := hH.off s4 s5 (by simp) (by simp)
  obtain ⟨ar', t1, t2, t3⟩ := choose_loop (nf := nf) (fi := fi1) hDk hl40 hl41 hK1 (by omega) hfree htk hnf (K - 1) 1 nf ar1 (by omega) (by omega) (by omega) hH1 s2 (fun j j1 j2 => by rw [s3 j j2, if_neg (by omega)])
  refine ⟨fi1, ar', ?_, t2, s4, s5.tr (t3.as.mono (by simp))⟩
  unfold FX10_chooseTail
  rw [s1, obnd3_some]
  exact t1
