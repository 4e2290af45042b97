/-! make: the number of the new item -/
theorem before_loop {nf : Nat} {ln : LN} {fi : FI} {ar : AR} {its p r : List (Nat × Nat)} {a L : Nat} (hI : IC fi ar 0 its (fun _ => 0)) (hL : LK ln 0 L) (hle : its.length ≤ L) (he : its = p ++ r) (hp : ∀ e, e ∈ p → e.1 < a) (hr : ∀ e, e ∈ r → a ≤ e.1 ∧ e.1 < 100000) (ha : a < 100000) : ∀ (m q kf : Nat), q + m = its.length → m < kf → FX2_itemsBefore_4 nf ln 0 kf (nI a) (nI (min q p.length)) (nI q) fi ar = some (nI p.length, fi, ar) := by
  have hLb := hL.2.2.2.2
  have hlen : its.length = p.length + r.length := by rw [he, List.length_append]
  intro m
  induction m with
  | zero =>
    intro q kf hq hk
    obtain ⟨kf, rfl⟩ : ∃ k, kf = k + 1 := ⟨kf - 1, by omega⟩
    rw [show FX2_itemsBefore_4 nf ln 0 (kf + 1) = FX2_itemsBefore_4b (FX2_itemsBefore_4 nf ln 0 kf) nf ln 0 from rfl]
    unfold FX2_itemsBefore_4b
    rw [hI.1, brT (nI_le (by omega) (by omega)), show min q p.length = p.length by omega]
  | succ m ih =>
    intro q kf hq hk
    obtain ⟨kf, rfl⟩ : ∃ k, kf = k + 1 := ⟨kf - 1, by omega⟩
    rw [show FX2_itemsBefore_4 nf ln 0 (kf + 1) = FX2_itemsBefore_4b (FX2_itemsBefore_4 nf ln 0 kf) nf ln 0 from rfl]
    unfold FX2_itemsBefore_4b FX2_itemsBefore_25
    have hq2 : q < its.length := by omega
    have hL1 : ln (11 + 4 * 0) = L := hL.1
    rw [hI.1, brF (nI_ge (by omega) (by omega)), zgd (by omega) (by omega), nI_clamp (by omega), (hI.2 q hq2).1, show nI q + (1 : Int32) = nI (q + 1) from nI_add q 1]
    by_cases c : q < p.length
    · have hm : its.getD q (0, 0) ∈ p := by
        rw [he, List.getD_eq_getElem?_getD, List.getElem?_append_left c, List.getElem?_eq_getElem c]; exact List.getElem_mem c
      have := hp _ hm
      rw [brF (nI_ge this (by omega)), bnd_eq, bnd_eq, show min q p.length = q by omega, show nI q + (1 : Int32) = nI (q + 1) from nI_add q 1]
      have h2 := ih (q + 1) kf (by omega) (by omega)
      rw [show min (q + 1) p.length = q + 1 by omega] at h2
      exact h2
    · have hm : its.getD q (0, 0) ∈ r := by
        rw [he, List.getD_eq_getElem?_getD, List.getElem?_append_right (by omega), List.getElem?_eq_getElem (by omega)]; exact List.getElem_mem _
      have := hr _ hm
      rw [brT (nI_le this.1 (by omega)), bnd_eq]
      have h2 := ih (q + 1) kf (by omega) (by omega)
      rw [show min (q + 1) p.length = min q p.length by omega] at h2
      exact h2
theorem itm_split {d A : Nat → Nat} {z a E : Nat} (h : a ≤ E) : ∃ r, itm d A z E = itm d A z a ++ r ∧ (∀ e, e ∈ itm d A z a → e.1 < a) ∧ ∀ e, e ∈ r → a ≤ e.1 ∧ e.1 < E := by
  obtain ⟨r, hr⟩ := itm_mono d A z a (E - a)
  rw [show a + (E - a) = E by omega] at hr
  refine ⟨r, hr, fun e he => ((mem_itm a).mp he).1, fun e he => ?_⟩
  have hm : e ∈ itm d A z E := by rw [hr]; exact List.mem_append_right _ he
  have h1 := (mem_itm E).mp hm
  refine ⟨?_, h1.1⟩
  apply Decidable.byContradiction
  intro w
  have h2 : e ∈ itm d A z a := (mem_itm a).mpr ⟨by omega, h1.2⟩
  have hn := itm_nodup (d := d) (A := A) (z := z) (s := E)
  rw [hr] at hn
  exact (List.nodup_append.mp hn).2.2 e h2 e he rfl
theorem before_ok {nf : Nat} {ln : LN} {fi : FI} {ar : AR} {d A : Nat → Nat} {z a E L : Nat} (hI : IC fi ar 0 (itm d A z E) (fun _ => 0)) (hL : LK ln 0 L) (hle : (itm d A z E).length ≤ L) (ha : a ≤ E) (hE : E < 100000) (hnf : 40000 ≤ nf) : FX2_itemsBefore nf ln 0 fi ar (nI a) = some (nI (itm d A z a).length, fi, ar) := by
  obtain ⟨r, h1, h2, h3⟩ := itm_split (d := d) (A := A) (z := z) ha
  have hLb := hL.2.2.2.2
  have := before_loop (nf := nf) hI hL hle h1 h2 (fun e he => by have := h3 e he; omega) (by omega) _ 0 nf (Nat.zero_add _) (by omega)
  rw [Nat.zero_min] at this
  exact this
theorem number_loop {nf : Nat} {fm : FI} {arm : AR} {d A : Nat → Nat} {b i0 U a np : Nat} {its p r : List (Nat × Nat)} (hi0 : i0 < 16400) (h : MIT arm d A b i0 its U) (hb : b + its.length ≤ 16400) (h25 : arm 25 i0 = nI b) (he : its = p ++ (a + np, np) :: r) (hp : ∀ e, e ∈ p → e.1 < a + np) (ha : a + np < 100000) : ∀ (m q kf : Nat), q + m = p.length → m < kf → M_make_772 nf kf (nI i0) (nI (np + 1)) (nI a) (nI q) fm arm = some (nI p.length, fm, arm) := by
  have hlen : its.length = p.length + (r.length + 1) := by rw [he, List.length_append, List.length_cons]
  have es : nI a + nI (np + 1) - (1 : Int32) = nI (a + np) := by rw [nI_add, show nI (a + (np + 1)) - (1 : Int32) = nI (a + (np + 1) - 1) from nI_sub (b := 1) (by omega), show a + (np + 1) - 1 = a + np by omega]
  intro m
  induction m with
  | zero =>
    intro q kf hq hk
    have e : q = p.length := by omega
    subst e
    obtain ⟨kf, rfl⟩ : ∃ k, kf = k + 1 := ⟨kf - 1, by omega⟩
    rw [show M_make_772 nf (kf + 1) = M_make_772b (M_make_772 nf kf) nf from rfl]
    unfold M_make_772b
    have h21 := (h p.length (by omega)).2.1
    have hg : its.getD p.length (0, 0) = (a + np, np) := by
      rw [he, List.getD_eq_getElem?_getD, List.getElem?_append_right (Nat.le_refl _), Nat.sub_self]; rfl
    rw [hg] at h21
    rw [zgd hi0 (by omega), nI_clamp (by omega), h25, nI_add, zgd (by omega) (by omega), nI_clamp (by omega), h21, es, brT rfl]
  | succ m ih =>
    intro q kf hq hk
    obtain ⟨kf, rfl⟩ : ∃ k, kf = k + 1 := ⟨kf - 1, by omega⟩
    rw [show M_make_772 nf (kf + 1) = M_make_772b (M_make_772 nf kf) nf from rfl]
    unfold M_make_772b
    have hq2 : q < p.length := by omega
    have h21 := (h q (by omega)).2.1
    have hm : its.getD q (0, 0) ∈ p := by
      rw [he, List.getD_eq_getElem?_getD, List.getElem?_append_left hq2, List.getElem?_eq_getElem hq2]; exact List.getElem_mem hq2
    have hlt := hp _ hm
    rw [zgd hi0 (by omega), nI_clamp (by omega), h25, nI_add, zgd (by omega) (by omega), nI_clamp (by omega), h21, es, brF (fun w => by have := (nI_eq (by omega) (by omega)).mp w; omega), bnd_eq, show nI q + (1 : Int32) = nI (q + 1) from nI_add q 1]
    exact ih (q + 1) kf (by omega) (by omega)
theorem va_up_eq {f : FI} {k : Nat} {v : Int32} (h : f k = v) : va_up f k v = f := funext fun j => by
  unfold va_up
  by_cases c : j = k
  · rw [if_pos c, c, h]
  · rw [if_neg c]
/-- the model looks again and tells the new item's number -/
theorem tell_ok {nf n h a np : Nat} {ln : LN} {fi fm : FI} {ar arm : AR} {d : Nat → Nat} {p r : List (Nat × Nat)} (hV : VOL n ln fi ar (va_up fm 15 0) arm d h) (hz : fltS n d = 0) (h5 : fm 5 = 0) (he : dI (geoOf n d) d (hf (geoOf n d) h) = p ++ (a + np, np) :: r) (hp : ∀ e, e ∈ p → e.1 < a + np) (ha : a + np < 100000) (hnf : 40000 ≤ nf) : ∃ fm' arm', M_make_755 nf (nI (np + 1)) (nI a) fm arm = some (nI p.length, fm', arm') ∧ VOL n ln fi ar fm' arm' d h ∧ fm' 5 = 0 ∧ offF [5, 7, 8, 9, 10, 11, 12, 13, 15, 16, 17, 18, 31, 32, 33, 35, 36, 37, 38] fm fm' ∧ offAs [19, 20, 21, 22, 23, 24, 25, 26, 27, 28, 29, 30, 34] arm arm' := by
  obtain ⟨fm1, arm1, a1, a2, a3, a4, a5, a6, a7, a8, a9⟩ := look_any hV hnf
  have h55 : (va_up fm 15 0) 5 = 0 := by rw [va_up_off (by decide)]; exact h5
  rw [va_up_eq h55] at a1
  obtain ⟨ms, hK⟩ := a7 hz
  obtain ⟨j, b, N, U, m1, m2, m3, m4, m5, m6, m7, m8, m9, m10⟩ := here_model a2 hz hK hnf
  have hlen : p.length ≤ (dI (geoOf n d) d (hf (geoOf n d) h)).length := by rw [he, List.length_append]; omega
  have hnum := number_loop (nf := nf) (fm := fm1) m2 m9 (by omega) m3 he hp ha p.length 0 nf (by omega) (by omega)
  refine ⟨fm1, arm1, ?_, a2, a3, (offF.rf.up (by simp)).tr a8, a9⟩
  unfold M_make_755 M_changed
  rw [bnd_eq, obnd3_some, a1, obnd3_some, m1, obnd3_some]
  exact hnum
