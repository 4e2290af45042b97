/-! make: a tail is chosen: the model -/
theorem MIT.off {ar ar' : AR} {d A : Nat → Nat} {b i U : Nat} {its : List (Nat × Nat)} (h : MIT ar d A b i its U) {T : List Nat} (ha : offAs T ar ar') (hT : ∀ j, j ∈ T → j ∉ [20, 21, 22, 23, 26, 27, 28]) : MIT ar' d A b i its U := fun q hq => by
  obtain ⟨h1, h2, h3, h4, h5⟩ := h q hq
  have e : ∀ k, k ∈ [20, 21, 22, 23, 26, 27, 28] → ar' k = ar k := fun k hk => ha k (fun w => hT k w hk)
  refine ⟨by rw [e 20 (by simp)]; exact h1, by rw [e 21 (by simp)]; exact h2, by rw [e 22 (by simp)]; exact h3, by rw [e 23 (by simp)]; exact h4, h5.off ha ⟨fun w => hT _ w (by simp), fun w => hT _ w (by simp), fun w => hT _ w (by simp)⟩⟩
theorem mt_digits {nf : Nat} {fm : FI} {arm : AR} {N : List Nat} {k : Nat} {x1 x4 : Int32} (K : Int32 → Int32 → Int32 → Int32 → Int32 → FI → AR → Option (Unit × FI × AR)) (h1 : 1 ≤ k) (h2 : k < 100000) (hbl : (bas N).length < 1000) : ∀ (m j kf : Nat), j + m + 1 = dg k → m < kf → M_shorten_187 K nf kf x1 (nI (bas N).length) x4 (nI k) (nI (j + 1)) (nI (10 ^ j)) fm arm = M_shorten_228 K nf x1 (nI (bas N).length) x4 (nI k) (nI (dg k)) (nI (10 ^ (dg k - 1))) (nI (kp N k)) fm arm := by
  have hd := dg_b k
  have pw : ∀ j, j ≤ 5 → 0 < 10 ^ j ∧ 10 ^ j ≤ 100000 := fun j hj => ⟨Nat.pow_pos (by omega), by
    have : 10 ^ j ≤ 10 ^ 5 := Nat.pow_le_pow_right (by omega) hj
    exact this⟩
  have q9 : ∀ j, j + 1 ≤ 5 → (k / 10 ^ j ≤ 9 ↔ dg k ≤ j + 1) := fun j hj => by
    rw [← dg_pow h1 h2 hj, ← pow_div10]
    generalize k / 10 ^ j = Q
    omega
  intro m
  induction m with
  | zero =>
    intro j kf hj hk
    have e : dg k = j + 1 := by omega
    obtain ⟨kf, rfl⟩ : ∃ k, kf = k + 1 := ⟨kf - 1, by omega⟩
    rw [show M_shorten_187 K nf (kf + 1) = M_shorten_187b (M_shorten_187 K nf kf) K nf from rfl]
    unfold M_shorten_187b
    have hp := pw j (by omega)
    have hle : k / 10 ^ j ≤ k := Nat.div_le_self _ _
    have hlt : k / 10 ^ j < 2 ^ 31 := Nat.lt_of_le_of_lt hle (by omega)
    have e7 : (7 : Int32) - nI (j + 1) = nI (7 - (j + 1)) := nI_sub (a := 7) (by omega)
    rw [gdT (nI_ne0 hp.1 (by omega)), pk_div (by omega) hp.1 (by omega), brT (show nI (k / 10 ^ j) ≤ (9 : Int32) from nI_le (b := 9) ((q9 j (by omega)).mpr (by omega)) (by omega)), e7, e, show j + 1 - 1 = j by omega]
    by_cases c : 7 - (j + 1) ≤ (bas N).length
    · rw [brT (nI_le c (by omega)), show kp N k = 7 - (j + 1) by unfold kp; rw [e]; omega]
    · rw [brF (nI_ge (by omega) (by omega)), show kp N k = (bas N).length by unfold kp; rw [e]; omega]
  | succ m ih =>
    intro j kf hj hk
    obtain ⟨kf, rfl⟩ : ∃ k, kf = k + 1 := ⟨kf - 1, by omega⟩
    rw [show M_shorten_187 K nf (kf + 1) = M_shorten_187b (M_shorten_187 K nf kf) K nf from rfl]
    unfold M_shorten_187b
    have hp := pw j (by omega)
    have hle : k / 10 ^ j ≤ k := Nat.div_le_self _ _
    have hlt : k / 10 ^ j < 2 ^ 31 := Nat.lt_of_le_of_lt hle (by omega)
    have h9 : ¬ k / 10 ^ j ≤ 9 := fun w => by have := (q9 j (by omega)).mp w; omega
    rw [gdT (nI_ne0 hp.1 (by omega)), pk_div (by omega) hp.1 (by omega), brF (show ¬ nI (k / 10 ^ j) ≤ (9 : Int32) from nI_ge (a := 9) (Nat.lt_of_not_le h9) hlt), bnd_eq, bnd_eq, show nI (j + 1) + (1 : Int32) = nI (j + 1 + 1) from nI_add _ 1, show (10 : Int32) = nI 10 from rfl, pk_mul, ← Nat.pow_succ]
    exact ih (j + 1) kf (by omega) (by omega)
def tlV (N : List Nat) (k t i : Nat) : Nat := if kp N k < i ∧ i ≤ kp N k + t then 48 + k / 10 ^ (kp N k + dg k - i) % 10 else if i < kp N k then (bas N).getD i 0 else if i = kp N k then 126 else if i < 8 then 32 else if i - 8 < (ext N).length then (ext N).getD (i - 8) 0 else 32
theorem tlV_dg {N : List Nat} {k i : Nat} : tlV N k (dg k) i = tlB N k i := by
  unfold tlV tlB
  by_cases c : i < kp N k
  · rw [if_neg (by omega), if_pos c, if_pos c]
  · by_cases c2 : i = kp N k
    · rw [if_neg (by omega), if_neg c, if_pos c2, if_neg c, if_pos c2]
    · by_cases c3 : i ≤ kp N k + dg k
      · rw [if_pos (by omega), if_neg c, if_neg c2, if_pos c3]
      · rw [if_neg (by omega), if_neg c, if_neg c2, if_neg c, if_neg c2, if_neg c3]
theorem mt_nums {nf : Nat} {fm : FI} {N : List Nat} {k : Nat} {x1 x3 x4 : Int32} (K : Int32 → Int32 → Int32 → Int32 → Int32 → FI → AR → Option (Unit × FI × AR)) (h2 : k < 100000) : ∀ (m t kf : Nat) (arm : AR), t + m = dg k → m < kf → (∀ i, i < 11 → arm 39 i = nI (tlV N k t i)) → ∀ x8 : Int32, (t < dg k → x8 = nI (10 ^ (dg k - 1 - t))) → ∃ arm', M_shorten_317 K nf kf x1 x3 x4 (nI k) (nI (dg k)) x8 (nI (kp N k)) (nI t) fm arm = (obnd3 (M_isBriefTaken nf fm arm' x1) fun r5 fi3 ar4 => K x1 x3 x4 r5 (nI (k + 1)) fi3 ar4) ∧ (∀ i, i < 11 → arm' 39 i = nI (tlB N k i)) ∧ offA 39 arm arm' := by
  have hd := dg_b k
  have hkp : kp N k ≤ 7 - dg k := Nat.min_le_left _ _
  have pw : ∀ j, j ≤ 5 → 0 < 10 ^ j ∧ 10 ^ j ≤ 100000 := fun j hj => ⟨Nat.pow_pos (by omega), by
    have : 10 ^ j ≤ 10 ^ 5 := Nat.pow_le_pow_right (by omega) hj
    exact this⟩
  intro m
  induction m with
  | zero =>
    intro t kf arm ht hk hV x8 hx8
    have e : t = dg k := by omega
    subst e
    obtain ⟨kf, rfl⟩ : ∃ k, kf = k + 1 := ⟨kf - 1, by omega⟩
    rw [show M_shorten_317 K nf (kf + 1) = M_shorten_317b (M_shorten_317 K nf kf) K nf from rfl]
    unfold M_shorten_317b
    rw [brT (nI_le (Nat.le_refl _) (by omega))]
    refine ⟨arm, ?_, fun i hi => by rw [hV i hi, tlV_dg], offA.rf⟩
    rw [show (fun (r5 : Int32) (fi3 : FI) (ar4 : AR) => bnd (nI k + 1) fun x6_6 => K x1 x3 x4 r5 x6_6 fi3 ar4) = fun r5 fi3 ar4 => K x1 x3 x4 r5 (nI (k + 1)) fi3 ar4 from by
      funext r5 fi3 ar4
      rw [bnd_eq, show nI k + (1 : Int32) = nI (k + 1) from nI_add k 1]]
  | succ m ih =>
    intro t kf arm ht hk hV x8 hx8
    have hx := hx8 (by omega)
    subst hx
    have hp := pw (dg k - 1 - t) (by omega)
    have hle : k / 10 ^ (dg k - 1 - t) ≤ k := Nat.div_le_self _ _
    have hlt : k / 10 ^ (dg k - 1 - t) < 2 ^ 31 := Nat.lt_of_le_of_lt hle (by omega)
    obtain ⟨kf, rfl⟩ : ∃ k, kf = k + 1 := ⟨kf - 1, by omega⟩
    rw [show M_shorten_317 K nf (kf + 1) = M_shorten_317b (M_shorten_317 K nf kf) K nf from rfl]
    unfold M_shorten_317b
    have hrem : nI (k / 10 ^ (dg k - 1 - t)) - nI (k / 10 ^ (dg k - 1 - t)) / (10 : Int32) * (10 : Int32) = nI (k / 10 ^ (dg k - 1 - t) % 10) := by
      rw [show (10 : Int32) = nI 10 from rfl]; exact pk_rem hlt (by omega) (by omega)
    have hpos : nI (kp N k) + (1 : Int32) + nI t = nI (kp N k + 1 + t) := by rw [show nI (kp N k) + (1 : Int32) = nI (kp N k + 1) from nI_add _ 1, nI_add]
    rw [brF (nI_ge (by omega) (by omega)), gdT (nI_ne0 hp.1 (by omega)), hpos, zgd (by omega) (by omega), nI_clamp (by omega), bnd_eq, bnd_eq, bnd_eq, pk_div (by omega) hp.1 (by omega), hrem, show (48 : Int32) + nI (k / 10 ^ (dg k - 1 - t) % 10) = nI (48 + k / 10 ^ (dg k - 1 - t) % 10) from nI_add 48 _, show nI t + (1 : Int32) = nI (t + 1) from nI_add t 1]
    have o1 : offA 39 arm (va_up arm 39 (upd (arm 39) (kp N k + 1 + t) (nI (48 + k / 10 ^ (dg k - 1 - t) % 10)))) := fun z hz => va_up_off hz
    obtain ⟨arm', s1, s2, s3⟩ := ih (t + 1) kf (va_up arm 39 (upd (arm 39) (kp N k + 1 + t) (nI (48 + k / 10 ^ (dg k - 1 - t) % 10)))) (by omega) (by omega) (fun i hi => by
      rw [va_up_self]
      unfold upd
      by_cases e : i = kp N k + 1 + t
      · rw [if_pos e]
        unfold tlV
        rw [if_pos (by omega), e, show kp N k + dg k - (kp N k + 1 + t) = dg k - 1 - t by omega]
      · rw [if_neg e, hV i hi]
        unfold tlV
        by_cases c : kp N k < i ∧ i ≤ kp N k + t
        · rw [if_pos c, if_pos (show kp N k < i ∧ i ≤ kp N k + (t + 1) by omega)]
        · rw [if_neg c, if_neg (show ¬ (kp N k < i ∧ i ≤ kp N k + (t + 1)) by omega)]) (nI (10 ^ (dg k - 1 - t)) / 10) (fun hlt2 => by
      rw [show (10 : Int32) = nI 10 from rfl, pk_div (by omega) (by omega) (by omega), show dg k - 1 - t = dg k - 1 - (t + 1) + 1 by omega, Nat.pow_succ, Nat.mul_div_cancel _ (by omega)])
    exact ⟨arm', s1, s2, o1.tr s3⟩
theorem mt_fill {nf : Nat} {fm : FI} {N : List Nat} {k : Nat} {x1 x3 : Int32} (K : Int32 → Int32 → Int32 → Int32 → Int32 → FI → AR → Option (Unit × FI × AR)) (h2 : k < 100000) (hnf : 20 ≤ nf) : ∀ (m i kf : Nat) (arm : AR), i + m = 11 → m < kf → (∀ j, j < (bas N).length → arm 40 j = nI ((bas N).getD j 0)) → (∀ j, j < min 3 (ext N).length → arm 41 j = nI ((ext N).getD j 0)) → (∀ j, j < i → arm 39 j = nI (tlV N k 0 j)) → ∃ arm', M_shorten_233 K nf kf x1 x3 (nI (min 3 (ext N).length)) (nI k) (nI (dg k)) (nI (10 ^ (dg k - 1))) (nI (kp N k)) (nI i) fm arm = (obnd3 (M_isBriefTaken nf fm arm' x1) fun r5 fi3 ar4 => K x1 x3 (nI (min 3 (ext N).length)) r5 (nI (k + 1)) fi3 ar4) ∧ (∀ i, i < 11 → arm' 39 i = nI (tlB N k i)) ∧ offA 39 arm arm' := by
  have hd := dg_b k
  have hkp : kp N k ≤ 7 - dg k := Nat.min_le_left _ _
  have hkp2 : kp N k ≤ (bas N).length := Nat.min_le_right _ _
  intro m
  induction m with
  | zero =>
    intro i kf arm hi hk h40 h41 h39
    obtain ⟨kf, rfl⟩ : ∃ k, kf = k + 1 := ⟨kf - 1, by omega⟩
    rw [show M_shorten_233 K nf (kf + 1) = M_shorten_233b (M_shorten_233 K nf kf) K nf from rfl]
    unfold M_shorten_233b
    rw [brT (show (11 : Int32) ≤ nI i from nI_le (a := 11) (by omega) (by omega))]
    exact mt_nums K h2 (dg k) 0 nf arm (by omega) (by omega) (fun j hj => h39 j (by omega)) _ (fun _ => by rw [Nat.sub_zero])
  | succ m ih =>
    intro i kf arm hi hk h40 h41 h39
    obtain ⟨kf, rfl⟩ : ∃ k, kf = k + 1 := ⟨kf - 1, by omega⟩
    rw [show M_shorten_233 K nf (kf + 1) = M_shorten_233b (M_shorten_233 K nf kf) K nf from rfl]
    unfold M_shorten_233b M_shorten_305 M_shorten_307
    have hj1 : nI i + (1 : Int32) = nI (i + 1) := nI_add i 1
    have go : ∀ v : Int32, v = nI (tlV N k 0 i) → ∃ arm', gd (¬ (nI i < 0 ∨ 11 ≤ (nI i).toNatClampNeg)) (bnd (va_up arm 39 (upd (arm 39) (nI i).toNatClampNeg v)) fun ar13 => bnd (nI i + 1) fun x10_14 => M_shorten_233 K nf kf x1 x3 (nI (min 3 (ext N).length)) (nI k) (nI (dg k)) (nI (10 ^ (dg k - 1))) (nI (kp N k)) x10_14 fm ar13) = (obnd3 (M_isBriefTaken nf fm arm' x1) fun r5 fi3 ar4 => K x1 x3 (nI (min 3 (ext N).length)) r5 (nI (k + 1)) fi3 ar4) ∧ (∀ i, i < 11 → arm' 39 i = nI (tlB N k i)) ∧ offA 39 arm arm' := fun v hv => by
      have o1 : offA 39 arm (va_up arm 39 (upd (arm 39) i v)) := fun z hz => va_up_off hz
      obtain ⟨arm', s1, s2, s3⟩ := ih (i + 1) kf (va_up arm 39 (upd (arm 39) i v)) (by omega) (by omega) (fun j hj => by rw [o1 40 (by decide)]; exact h40 j hj) (fun j hj => by rw [o1 41 (by decide)]; exact h41 j hj) (fun j hj => by
        rw [va_up_self]
        unfold upd
        by_cases e : j = i
        · rw [if_pos e, e, hv]
        · rw [if_neg e]; exact h39 j (by omega))
      exact ⟨arm', by rw [zgd (by omega) (by omega), nI_clamp (by omega), bnd_eq, bnd_eq, hj1]; exact s1, s2, o1.tr s3⟩
    rw [brF (show ¬ (11 : Int32) ≤ nI i from nI_ge (b := 11) (by omega) (by omega))]
    have hV0 : ∀ w, tlV N k 0 i = w → nI w = nI (tlV N k 0 i) := fun w hw => by rw [hw]
    by_cases c1 : i < kp N k
    · have hv : tlV N k 0 i = (bas N).getD i 0 := by unfold tlV; rw [if_neg (by omega), if_pos c1]
      have := go (arm 40 i) (by rw [h40 i (by omega), hv])
      rw [brF (nI_ge c1 (by omega)), zgd (by omega) (by omega)]
      rw [nI_clamp (show i < 2 ^ 31 by omega)] at this ⊢
      exact this
    · rw [brT (nI_le (by omega) (by omega))]
      by_cases c2 : i = kp N k
      · have hv : tlV N k 0 i = 126 := by unfold tlV; rw [if_neg (by omega), if_neg c1, if_pos c2]
        rw [brT (by rw [c2])]
        exact go 126 (hV0 126 hv)
      · rw [brF (fun w => c2 ((nI_eq (by omega) (by omega)).mp w))]
        by_cases c3 : i ≤ 7
        · have hv : tlV N k 0 i = 32 := by unfold tlV; rw [if_neg (by omega), if_neg c1, if_neg c2, if_pos (by omega)]
          rw [brT (show nI i ≤ (7 : Int32) from nI_le (b := 7) c3 (by omega))]
          exact go 32 (hV0 32 hv)
        · rw [brF (show ¬ nI i ≤ (7 : Int32) from nI_ge (a := 7) (by omega) (by omega)), show nI i - (8 : Int32) = nI (i - 8) from nI_sub (b := 8) (by omega)]
          by_cases c4 : i - 8 < (ext N).length
          · have hv : tlV N k 0 i = (ext N).getD (i - 8) 0 := by unfold tlV; rw [if_neg (by omega), if_neg c1, if_neg c2, if_neg (by omega), if_pos c4]
            rw [brF (nI_ge (by omega) (by omega)), zgd (show i - 8 < 3 by omega) (by omega), nI_clamp (show i - 8 < 2 ^ 31 by omega)]
            exact go (arm 41 (i - 8)) (by rw [h41 (i - 8) (by omega), hv])
          · have hv : tlV N k 0 i = 32 := by unfold tlV; rw [if_neg (by omega), if_neg c1, if_neg c2, if_neg (by omega), if_neg c4]
            rw [brT (nI_le (by omega) (by omega))]
            exact go 32 (hV0 32 hv)
theorem shorten_loop {nf : Nat} {fm : FI} {d A : Nat → Nat} {b i0 U : Nat} {its : List (Nat × Nat)} {N : List Nat} {K : Nat} (hi0 : i0 < 16400) (hb : b + its.length ≤ 16400) (hits : ∀ e, e ∈ its → A e.1 + 32 ≤ 524288) (hbl : (bas N).length < 1000) (hK2 : K < 100000) (hfree : ¬ ∃ e, e ∈ its ∧ shB d A (tlB N K) e) (htk : ∀ j, 1 ≤ j → j < K → ∃ e, e ∈ its ∧ shB d A (tlB N j) e) (hnf : 40000 ≤ nf) : ∀ (m k kf : Nat) (arm : AR), k + m = K → 1 ≤ k → m + 1 < kf → RD arm d → MIT arm d A b i0 its U → arm 25 i0 = nI b → arm 24 i0 = nI its.length → (∀ j, j < (bas N).length → arm 40 j = nI ((bas N).getD j 0)) → (∀ j, j < min 3 (ext N).length → arm 41 j = nI ((ext N).getD j 0)) → ∃ arm', M_shorten_176 nf kf (nI i0) (nI (bas N).length) (nI (min 3 (ext N).length)) 1 (nI k) fm arm = some ((), fm, arm') ∧ (∀ i, i < 11 → arm' 39 i = nI (tlB N K i)) ∧ offA 39 arm arm' := by
  have step : ∀ (k kf : Nat) (arm : AR), 1 ≤ k → k < 100000 → RD arm d → MIT arm d A b i0 its U → arm 25 i0 = nI b → arm 24 i0 = nI its.length → (∀ j, j < (bas N).length → arm 40 j = nI ((bas N).getD j 0)) → (∀ j, j < min 3 (ext N).length → arm 41 j = nI ((ext N).getD j 0)) → ∃ r arm', M_shorten_176 nf (kf + 1) (nI i0) (nI (bas N).length) (nI (min 3 (ext N).length)) 1 (nI k) fm arm = M_shorten_176 nf kf (nI i0) (nI (bas N).length) (nI (min 3 (ext N).length)) r (nI (k + 1)) fm arm' ∧ (∀ i, i < 11 → arm' 39 i = nI (tlB N k i)) ∧ offA 39 arm arm' ∧ ((r = 1 ∧ ∃ e, e ∈ its ∧ shB d A (tlB N k) e) ∨ (r = 0 ∧ ¬ ∃ e, e ∈ its ∧ shB d A (tlB N k) e)) := fun k kf arm h1 h2 hR hM h25 h24 h40 h41 => by
    have hd := dg_b k
    obtain ⟨arm', s1, s2, s3⟩ := mt_fill (nf := nf) (fm := fm) (N := N) (k := k) (x1 := nI i0) (x3 := nI (bas N).length) (M_shorten_176 nf kf) h2 (by omega) 11 0 nf arm (by omega) (by omega) h40 h41 (fun j hj => absurd hj (by omega))
    have hR' : RD arm' d := fun p hp => by rw [s3 1 (by decide)]; exact hR p hp
    obtain ⟨r, t1, t2⟩ := bTaken_ok (nf := nf) (fm := fm) (B := tlB N k) hR' hi0 (hM.off s3.as (by simp)) hb (by rw [s3 25 (by decide)]; exact h25) (by rw [s3 24 (by decide)]; exact h24) hits (fun i hi => ⟨s2 i hi, by have := tlB_lt N k i; omega⟩) hnf
    refine ⟨r, arm', ?_, s2, s3, t2⟩
    rw [show M_shorten_176 nf (kf + 1) = M_shorten_176b (M_shorten_176 nf kf) nf from rfl]
    unfold M_shorten_176b
    have hdg := mt_digits (nf := nf) (fm := fm) (arm := arm) (N := N) (k := k) (x1 := nI i0) (x4 := nI (min 3 (ext N).length)) (M_shorten_176 nf kf) h1 h2 hbl (dg k - 1) 0 nf (by omega) (by omega)
    have hdg' : M_shorten_187 (M_shorten_176 nf kf) nf nf (nI i0) (nI (bas N).length) (nI (min 3 (ext N).length)) (nI k) 1 1 fm arm = _ := hdg
    rw [brF (show ¬ (1 : Int32) = 0 by decide), hdg']
    unfold M_shorten_228
    have s1' : M_shorten_233 (M_shorten_176 nf kf) nf nf (nI i0) (nI (bas N).length) (nI (min 3 (ext N).length)) (nI k) (nI (dg k)) (nI (10 ^ (dg k - 1))) (nI (kp N k)) 0 fm arm = _ := s1
    rw [s1', t1, obnd3_some]
  intro m
  induction m with
  | zero =>
    intro k kf arm hk h1 hkf hR hM h25 h24 h40 h41
    have e : k = K := by omega
    subst e
    obtain ⟨kf, rfl⟩ : ∃ k, kf = k + 2 := ⟨kf - 2, by omega⟩
    obtain ⟨r, arm', s1, s2, s3, s4⟩ := step k (kf + 1) arm h1 hK2 hR hM h25 h24 h40 h41
    rcases s4 with ⟨_, w⟩ | ⟨rfl, _⟩
    · exact absurd w hfree
    · refine ⟨arm', ?_, s2, s3⟩
      rw [s1, show M_shorten_176 nf (kf + 1) = M_shorten_176b (M_shorten_176 nf kf) nf from rfl]
      unfold M_shorten_176b
      rw [brT rfl]
  | succ m ih =>
    intro k kf arm hk h1 hkf hR hM h25 h24 h40 h41
    obtain ⟨kf, rfl⟩ : ∃ k, kf = k + 1 := ⟨kf - 1, by omega⟩
    obtain ⟨r, arm1, s1, s2, s3, s4⟩ := step k kf arm h1 (by omega) hR hM h25 h24 h40 h41
    rcases s4 with ⟨rfl, _⟩ | ⟨_, w⟩
    · obtain ⟨arm', u1, u2, u3⟩ := ih (k + 1) kf arm1 (by omega) (by omega) (by omega) (fun p hp => by rw [s3 1 (by decide)]; exact hR p hp) (hM.off s3.as (by simp)) (by rw [s3 25 (by decide)]; exact h25) (by rw [s3 24 (by decide)]; exact h24) (fun j hj => by rw [s3 40 (by decide)]; exact h40 j hj) (fun j hj => by rw [s3 41 (by decide)]; exact h41 j hj)
      exact ⟨arm', s1.trans u1, u2, s3.tr u3⟩
    · exact absurd (htk k h1 (by omega)) w
theorem shorten_ok {nf : Nat} {fm : FI} {arm : AR} {d A : Nat → Nat} {b i0 U : Nat} {its : List (Nat × Nat)} {N : List Nat} {K : Nat} (hi0 : i0 < 16400) (hb : b + its.length ≤ 16400) (hits : ∀ e, e ∈ its → A e.1 + 32 ≤ 524288) (hN : N.length ≤ 255 ∧ ∀ x, x ∈ N → x < 65536) (h1 : 1 ≤ N.length) (hMN : MN fm arm N) (hK0 : 1 ≤ K) (hK1 : K ≤ its.length + 1) (hfree : ¬ ∃ e, e ∈ its ∧ shB d A (tlB N K) e) (htk : ∀ j, 1 ≤ j → j < K → ∃ e, e ∈ its ∧ shB d A (tlB N j) e) (hR : RD arm d) (hM : MIT arm d A b i0 its U) (h25 : arm 25 i0 = nI b) (h24 : arm 24 i0 = nI its.length) (hnf : 40000 ≤ nf) : ∃ arm', M_shorten nf fm arm (nI i0) = some ((), fm, arm') ∧ (∀ i, i < 11 → arm' 39 i = nI (tlB N K i)) ∧ offAs [39, 40, 41] arm arm' := by
  obtain ⟨arm1, s1, s2, s3, s4⟩ := ms_start (nf := nf) (x1 := nI i0) hN h1 hMN (by omega)
  have hbl : (bas N).length < 1000 := by
    have := shl_len N (sto N) 0
    have hS : sto N ≤ N.length := by
      have := (lpz_ok N (N.length - 1)).1
      unfold sto lpt; split <;> omega
    unfold bas; omega
  obtain ⟨arm2, t1, t2, t3⟩ := shorten_loop (nf := nf) (fm := fm) hi0 hb hits hbl (by omega) hfree htk hnf (K - 1) 1 nf arm1 (by omega) (by omega) (by omega) (fun p hp => by rw [s4 1 (by simp)]; exact hR p hp) (hM.off s4 (by simp)) (by rw [s4 25 (by simp)]; exact h25) (by rw [s4 24 (by simp)]; exact h24) s2 s3
  refine ⟨arm2, ?_, t2, (s4.mono (by simp)).tr (t3.as.mono (by simp))⟩
  rw [s1]
  unfold M_shorten_170
  exact t1
