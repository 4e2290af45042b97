/-! the model takes an item in -/
theorem neg_div {v b : Int32} {l : Nat} (hl : 1 ≤ l) (hl2 : l < 1000) (hv : v.toInt < 0) (hb : 0 < b.toInt) (h : nI l = v / b) : False := by
  have e := congrArg Int32.toInt h
  rw [nI_toInt (by omega), Int32.toInt_div] at e
  have h1 : v.toInt.tdiv b.toInt ≤ 0 := by
    have : (-v.toInt).tdiv b.toInt ≥ 0 := Int.tdiv_nonneg (by omega) (by omega)
    rw [Int.neg_tdiv] at this
    omega
  have h2 := Int32.le_toInt v
  have h3 : -2147483648 ≤ v.toInt.tdiv b.toInt := by
    have : (-v.toInt).tdiv b.toInt ≤ -v.toInt := Int.tdiv_le_self _ (by omega)
    rw [Int.neg_tdiv] at this
    omega
  rw [Int.bmod_eq_of_le (by omega) (by omega)] at e
  omega
/-- a chain's length held against the size that is told -/
theorem M_len_eq {nf : Nat} {G : Geo} (hG : GOK G) {l y : Nat} (hl : 1 ≤ l) (hl2 : l < 1000) (hy : y < 2147483648) (o1 o2 : Option (Int32 × FI × AR)) : obnd (M_whole nf (nI y) ((512 : Int32) * nI G.c)) (fun r => br (nI l = r) o1 o2) = if l = cls G y then o1 else o2 := by
  have b := hG.b
  have e512 : (512 : Int32) * nI G.c = nI (512 * G.c) := pk_mul 512 _
  unfold M_whole cls
  rw [e512, gdT (nI_ne0 (by omega) (by omega)), obnd_some, nI_add, show nI (y + 512 * G.c) - (1 : Int32) = nI (y + 512 * G.c - 1) from nI_sub (b := 1) (by omega)]
  by_cases q : y + 512 * G.c - 1 < 2147483648
  · have hle := Nat.div_le_self (y + 512 * G.c - 1) (512 * G.c)
    rw [pk_div q (by omega) (by omega), zeq (by omega) (by omega)]
  · have hne : l ≠ (y + 512 * G.c - 1) / (512 * G.c) := by
      intro w
      have h1 : 2147483648 / 4096 ≤ (y + 512 * G.c - 1) / (512 * G.c) := by
        refine Nat.le_trans (Nat.div_le_div_right (c := 4096) (show 2147483648 ≤ y + 512 * G.c - 1 by omega)) ?_
        exact Nat.div_le_div_left (by omega) (by omega)
      omega
    rw [if_neg hne, brF]
    intro w
    have t1 := tI (nI (y + 512 * G.c - 1))
    rw [uv_nI (by omega)] at t1
    have t2 : (nI (512 * G.c)).toInt = ((512 * G.c : Nat) : Int) := nI_toInt (by omega)
    exact neg_div hl hl2 (by omega) (by omega) w
/-- behind an item that is new: it is counted, and its chain judged -/
noncomputable def admT (nf : Nat) (x1 x2 x4 : Int32) (fi : FI) (ar : AR) : Option (Int32 × FI × AR) :=
  bnd (va_up fi 18 ((fi 18) + (fi 35))) fun fi2 => bnd (va_up fi2 17 ((fi2 17) + (1))) fun fi3 => gd (¬ ((x2) < 0 ∨ 16400 ≤ (x2).toNatClampNeg)) (gd (¬ ((x2) < 0 ∨ 16400 ≤ (x2).toNatClampNeg)) (bnd (va_up ar 24 (upd (ar 24) (x2).toNatClampNeg ((ar 24 (x2).toNatClampNeg) + (1)))) fun ar6 => bnd (va_up fi3 36 (0)) fun fi7 => br (((x4) &&& (16)) = 0) (obnd3 (M_four nf fi7 ar6 ((x1) + (28))) fun r12 fi10 ar11 => br ((r12) = 0) (obnd3 (M_firstOf nf fi10 ar11 (x1)) fun r30 fi28 ar29 => br ((r30) = 0) (M_admit_485 nf  (0) fi28 ar29) (M_admit_485 nf  (3) fi28 ar29)) (br ((r12) ≤ 0) (M_admit_527 nf  fi10 ar11) (obnd3 (M_firstOf nf fi10 ar11 (x1)) fun r18 fi16 ar17 => obnd3 (M_follows nf fi16 ar17 (r18)) fun r22 fi20 ar21 => br ((r22) = 0) (M_admit_527 nf  fi20 ar21) (obnd (M_whole nf (r12) ((512) * (fi20 7))) fun r25 => br ((fi20 31) = (r25)) (M_admit_528 nf  (0) fi20 ar21) (M_admit_527 nf  fi20 ar21))))) (some ((0), fi7, ar6))))
theorem vnchar {x : Nat} (h : x < 65536) : vp_nar .char (nI x) = nI x := by
  have e : ((nI x).toUInt32 % 65536).toInt32 = nI x := by
    rw [pk_char, show (nI x).toBitVec.toNat = x from uv_nI (by omega), Nat.mod_eq_of_lt h]
  have := zchar h
  rwa [e] at this
theorem copy_loop {nf : Nat} {fi : FI} {x1 x2 x4 : Int32} {N : List Nat} {U : Nat} (h18 : fi 18 = nI U) (hU : U + N.length ≤ 213600) (hN2 : N.length ≤ 260) (hNb : ∀ x, x ∈ N → x < 65536) : ∀ (m i kf : Nat) (ar : AR), MN fi ar N → i + m = N.length → m < kf → (∀ x, x < i → ar 28 (U + x) = nI (N.getD x 0)) → ∃ ar', M_admit_375 nf kf x1 x2 x4 (nI i) fi ar = admT nf x1 x2 x4 fi ar' ∧ (∀ x, x < N.length → ar' 28 (U + x) = nI (N.getD x 0)) ∧ (∀ j, j < U → ar' 28 j = ar 28 j) ∧ offAs [28] ar ar' := by
  intro m
  induction m with
  | zero =>
    intro i kf ar hN hi hk hx
    obtain ⟨kf, rfl⟩ : ∃ k, kf = k + 1 := ⟨kf - 1, by omega⟩
    refine ⟨ar, ?_, fun x h => hx x (by omega), fun _ _ => rfl, offAs.rf⟩
    rw [show M_admit_375 nf (kf + 1) = M_admit_375b (M_admit_375 nf kf) nf from rfl]
    unfold M_admit_375b
    rw [hN.1, zle (by omega) (by omega), if_pos (by omega)]
    unfold admT
    rw [hN.1]
  | succ m ih =>
    intro i kf ar hN hi hk hx
    obtain ⟨kf, rfl⟩ : ∃ k, kf = k + 1 := ⟨kf - 1, by omega⟩
    have e2 := hN.2 i (by omega)
    have b2 : N.getD i 0 < 65536 := by
      rw [List.getD_eq_getElem?_getD, List.getElem?_eq_getElem (show i < N.length by omega)]; exact hNb _ (List.getElem_mem _)
    obtain ⟨ar', r1, r2, r3, r4⟩ := ih (i + 1) kf (va_up ar 28 (upd (ar 28) (U + i) (nI (N.getD i 0)))) ⟨hN.1, fun x h => by rw [va_up_off (by decide)]; exact hN.2 x h⟩ (by omega) (by omega) (fun x h => by
      rw [va_up_self]; unfold upd
      by_cases e : x = i
      · rw [if_pos (by omega), e]
      · rw [if_neg (by omega)]; exact hx x (by omega))
    refine ⟨ar', ?_, r2, fun j hj => ?_, (offAs.rf.up (by simp)).tr r4⟩
    · rw [← r1]
      rw [show M_admit_375 nf (kf + 1) = M_admit_375b (M_admit_375 nf kf) nf from rfl]
      unfold M_admit_375b
      simp (disch := first | omega | decide) only [zlt, zle, zeq, zltl, zllt, zlel, zlle, zeql, zll, ↓zlt, ↓zle, ↓zeq, ↓zltl, ↓zllt, ↓zlel, ↓zlle, ↓zeql, ↓zll, ↓if_pos, ↓if_neg, if_pos, if_neg, ↓zgd, zgd, zgdc, ↓zgd0, zgd0c, zcl0, ↓zbit, zbitc, ↓zbit1, ↓zbit0, nI_clamp, zaddl, zladd, zsubl, zlsub, zmull, zlmul, zdivl, nI_1, nI_add, nI_mulL, zand1, zand3, zand15, zand31, zand63, zand255, zand65535, zshr1, zshl7, zshl8, zshl9, zbit8, zbit16, ↓bnd_eq, bnd_eq, obnd_some, obnd3_some, obnd6_some, hN.1, h18, e2, vnchar]
    · rw [r3 j hj, va_up_self]; unfold upd; rw [if_neg (by omega)]
theorem same_loop {nf : Nat} {fi : FI} {ar : AR} {d : Nat → Nat} {p a j : Nat} {x2 x3 x4 : Int32} (hd : RD ar d) (hp : p + 32 ≤ 524288) (ha : a + 32 ≤ 524288) (hj : j < 16400) (hja : ar 20 j = nI a) (K : Int32 → Int32 → Int32 → Int32 → Int32 → FI → AR → Option (Int32 × FI × AR)) : ∀ (m i kf g : Nat), i + m = 11 → m < kf → g < 2 → (g ≠ 0 ↔ ∀ t, t < i → d (a + t) = d (p + t)) → (sm11 d a p → M_admit_240 K nf kf (nI p) x2 x3 x4 (nI j) (nI g) (nI i) fi ar = some (5, fi, ar)) ∧ (¬ sm11 d a p → M_admit_240 K nf kf (nI p) x2 x3 x4 (nI j) (nI g) (nI i) fi ar = K (nI p) x2 x3 x4 (nI (j + 1)) fi ar) := by
  intro m
  induction m with
  | zero =>
    intro i kf g hi hk hg hgg
    obtain ⟨kf, rfl⟩ : ∃ k, kf = k + 1 := ⟨kf - 1, by omega⟩
    have e11 : i = 11 := by omega
    subst e11
    rw [show M_admit_240 K nf (kf + 1) = M_admit_240b (M_admit_240 K nf kf) K nf from rfl]
    unfold M_admit_240b
    refine ⟨fun w => ?_, fun w => ?_⟩
    · have hg1 : g ≠ 0 := hgg.mpr w
      simp (disch := first | omega | decide) only [zlt, zle, zeq, zltl, zllt, zlel, zlle, zeql, zll, ↓zlt, ↓zle, ↓zeq, ↓zltl, ↓zllt, ↓zlel, ↓zlle, ↓zeql, ↓zll, ↓if_pos, ↓if_neg, if_pos, if_neg, ↓zgd, zgd, zgdc, ↓zgd0, zgd0c, zcl0, ↓zbit, zbitc, ↓zbit1, ↓zbit0, nI_clamp, zaddl, zladd, zsubl, zlsub, zmull, zlmul, zdivl, nI_1, nI_add, nI_mulL, zand1, zand3, zand15, zand31, zand63, zand255, zand65535, zshr1, zshl7, zshl8, zshl9, zbit8, zbit16, ↓bnd_eq, bnd_eq, obnd_some, obnd3_some, obnd6_some]
    · have hg0 : g = 0 := by
        apply Decidable.byContradiction
        intro h
        exact w (hgg.mp h)
      simp (disch := first | omega | decide) only [zlt, zle, zeq, zltl, zllt, zlel, zlle, zeql, zll, ↓zlt, ↓zle, ↓zeq, ↓zltl, ↓zllt, ↓zlel, ↓zlle, ↓zeql, ↓zll, ↓if_pos, ↓if_neg, if_pos, if_neg, ↓zgd, zgd, zgdc, ↓zgd0, zgd0c, zcl0, ↓zbit, zbitc, ↓zbit1, ↓zbit0, nI_clamp, zaddl, zladd, zsubl, zlsub, zmull, zlmul, zdivl, nI_1, nI_add, nI_mulL, zand1, zand3, zand15, zand31, zand63, zand255, zand65535, zshr1, zshl7, zshl8, zshl9, zbit8, zbit16, ↓bnd_eq, bnd_eq, obnd_some, obnd3_some, obnd6_some]
  | succ m ih =>
    intro i kf g hi hk hg hgg
    obtain ⟨kf, rfl⟩ : ∃ k, kf = k + 1 := ⟨kf - 1, by omega⟩
    have b1 := hd.lt (show a + i < 524288 by omega)
    have b2 := hd.lt (show p + i < 524288 by omega)
    rw [show M_admit_240 K nf (kf + 1) = M_admit_240b (M_admit_240 K nf kf) K nf from rfl]
    obtain ⟨g', g1, g2, g3⟩ : ∃ g', g' < 2 ∧ (g' ≠ 0 ↔ ∀ t, t < i + 1 → d (a + t) = d (p + t)) ∧ M_admit_240b (M_admit_240 K nf kf) K nf (nI p) x2 x3 x4 (nI j) (nI g) (nI i) fi ar = M_admit_240 K nf kf (nI p) x2 x3 x4 (nI j) (nI g') (nI (i + 1)) fi ar := by
      unfold M_admit_240b M_admit_281 M_admit_282
      by_cases q0 : g = 0
      · refine ⟨0, by omega, ⟨fun w => absurd rfl w, fun w => absurd (hgg.mpr (fun t ht => w t (by omega))) (by omega)⟩, ?_⟩
        simp (disch := first | omega | decide) only [zlt, zle, zeq, zltl, zllt, zlel, zlle, zeql, zll, ↓zlt, ↓zle, ↓zeq, ↓zltl, ↓zllt, ↓zlel, ↓zlle, ↓zeql, ↓zll, ↓if_pos, ↓if_neg, if_pos, if_neg, ↓zgd, zgd, zgdc, ↓zgd0, zgd0c, zcl0, ↓zbit, zbitc, ↓zbit1, ↓zbit0, nI_clamp, zaddl, zladd, zsubl, zlsub, zmull, zlmul, zdivl, nI_1, nI_add, nI_mulL, zand1, zand3, zand15, zand31, zand63, zand255, zand65535, zshr1, zshl7, zshl8, zshl9, zbit8, zbit16, ↓bnd_eq, bnd_eq, obnd_some, obnd3_some, obnd6_some]
        rfl
      · by_cases q : d (a + i) = d (p + i)
        · refine ⟨1, by omega, ⟨fun _ t ht => if e : t = i then e ▸ q else hgg.mp q0 t (by omega), fun _ => by omega⟩, ?_⟩
          simp (disch := first | omega | decide) only [zlt, zle, zeq, zltl, zllt, zlel, zlle, zeql, zll, ↓zlt, ↓zle, ↓zeq, ↓zltl, ↓zllt, ↓zlel, ↓zlle, ↓zeql, ↓zll, ↓if_pos, ↓if_neg, if_pos, if_neg, ↓zgd, zgd, zgdc, ↓zgd0, zgd0c, zcl0, ↓zbit, zbitc, ↓zbit1, ↓zbit0, nI_clamp, zaddl, zladd, zsubl, zlsub, zmull, zlmul, zdivl, nI_1, nI_add, nI_mulL, zand1, zand3, zand15, zand31, zand63, zand255, zand65535, zshr1, zshl7, zshl8, zshl9, zbit8, zbit16, ↓bnd_eq, bnd_eq, obnd_some, obnd3_some, obnd6_some, hja, M_one_eq hd]
          rfl
        · refine ⟨0, by omega, ⟨fun w => absurd rfl w, fun w => absurd (w i (by omega)) q⟩, ?_⟩
          simp (disch := first | omega | decide) only [zlt, zle, zeq, zltl, zllt, zlel, zlle, zeql, zll, ↓zlt, ↓zle, ↓zeq, ↓zltl, ↓zllt, ↓zlel, ↓zlle, ↓zeql, ↓zll, ↓if_pos, ↓if_neg, if_pos, if_neg, ↓zgd, zgd, zgdc, ↓zgd0, zgd0c, zcl0, ↓zbit, zbitc, ↓zbit1, ↓zbit0, nI_clamp, zaddl, zladd, zsubl, zlsub, zmull, zlmul, zdivl, nI_1, nI_add, nI_mulL, zand1, zand3, zand15, zand31, zand63, zand255, zand65535, zshr1, zshl7, zshl8, zshl9, zbit8, zbit16, ↓bnd_eq, bnd_eq, obnd_some, obnd3_some, obnd6_some, hja, M_one_eq hd]
          rfl
    rw [g3]
    exact ih (i + 1) kf g' (by omega) (by omega) g1 g2
theorem short_loop {nf : Nat} {fi : FI} {ar : AR} {d A : Nat → Nat} {b i U p : Nat} {its : List (Nat × Nat)} {x2 x3 x4 : Int32} (hd : RD ar d) (hp : p + 32 ≤ 524288) (h : MIT ar d A b i its U) (hb : b + its.length ≤ 16400) (h17 : fi 17 = nI (b + its.length)) (hits : ∀ e, e ∈ its → A e.1 + 32 ≤ 524288) (hnf : 20 ≤ nf) : ∀ (m q kf : Nat), q + m = its.length → m < kf → ((∃ t, t < its.length ∧ q ≤ t ∧ sm11 d (A (its.getD t (0, 0)).1) p) → M_admit_225 nf kf (nI p) x2 x3 x4 (nI (b + q)) fi ar = some (5, fi, ar)) ∧ ((¬ ∃ t, t < its.length ∧ q ≤ t ∧ sm11 d (A (its.getD t (0, 0)).1) p) → ∃ k, M_admit_225 nf kf (nI p) x2 x3 x4 (nI (b + q)) fi ar = M_admit_225b (M_admit_225 nf k) nf (nI p) x2 x3 x4 (nI (b + its.length)) fi ar) := by
  intro m
  induction m with
  | zero =>
    intro q kf hq hk
    obtain ⟨kf, rfl⟩ : ∃ k, kf = k + 1 := ⟨kf - 1, by omega⟩
    refine ⟨fun w => by obtain ⟨t, t1, t2, _⟩ := w; omega, fun _ => ⟨kf, ?_⟩⟩
    rw [show M_admit_225 nf (kf + 1) = M_admit_225b (M_admit_225 nf kf) nf from rfl, show q = its.length by omega]
  | succ m ih =>
    intro q kf hq hk
    obtain ⟨kf, rfl⟩ : ∃ k, kf = k + 1 := ⟨kf - 1, by omega⟩
    have hq2 : q < its.length := by omega
    have hem : its.getD q (0, 0) ∈ its := by
      rw [List.getD_eq_getElem?_getD, List.getElem?_eq_getElem hq2]; exact List.getElem_mem hq2
    have g := ih (q + 1) kf (by omega) (by omega)
    have sl := same_loop (nf := nf) (fi := fi) (x2 := x2) (x3 := x3) (x4 := x4) hd hp (hits _ hem) (show b + q < 16400 by omega) (h q hq2).1 (M_admit_225 nf kf) 11 0 nf 1 (by omega) (by omega) (by omega) ⟨fun _ t ht => by omega, fun _ => by omega⟩
    have e : M_admit_225 nf (kf + 1) (nI p) x2 x3 x4 (nI (b + q)) fi ar = M_admit_240 (M_admit_225 nf kf) nf nf (nI p) x2 x3 x4 (nI (b + q)) (nI 1) (nI 0) fi ar := by
      rw [show M_admit_225 nf (kf + 1) = M_admit_225b (M_admit_225 nf kf) nf from rfl]
      unfold M_admit_225b
      rw [h17, zle (by omega) (by omega), if_neg (by omega)]
      rfl
    rw [e]
    by_cases w : sm11 d (A (its.getD q (0, 0)).1) p
    · exact ⟨fun _ => sl.1 w, fun w2 => absurd ⟨q, hq2, Nat.le_refl _, w⟩ w2⟩
    · rw [sl.2 w, Nat.add_assoc]
      refine ⟨fun w2 => g.1 ?_, fun w2 => g.2 (fun w3 => w2 ?_)⟩
      · obtain ⟨t, t1, t2, t3⟩ := w2
        refine ⟨t, t1, ?_, t3⟩
        apply Decidable.byContradiction
        intro hc
        rw [show t = q by omega] at t3
        exact w t3
      · obtain ⟨t, t1, t2, t3⟩ := w3
        exact ⟨t, t1, by omega, t3⟩
