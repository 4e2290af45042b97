/-! the model's items -/
/-- item j of the model has the name l, which ends before U -/
def NMU (ar : AR) (j : Nat) (l : List Nat) (U : Nat) : Prop := ∃ u, ar 26 j = nI u ∧ ar 27 j = nI l.length ∧ u + l.length ≤ U ∧ ∀ x, x < l.length → ar 28 (u + x) = nI (l.getD x 0)
/-- items b, b + 1 .. of the model are its, of folder i -/
def MIT (ar : AR) (d A : Nat → Nat) (b i : Nat) (its : List (Nat × Nat)) (U : Nat) : Prop := ∀ q, q < its.length → ar 20 (b + q) = nI (A (its.getD q (0, 0)).1) ∧ ar 21 (b + q) = nI (its.getD q (0, 0)).1 ∧ ar 22 (b + q) = nI (its.getD q (0, 0)).2 ∧ ar 23 (b + q) = nI i ∧ NMU ar (b + q) (nm d A (its.getD q (0, 0)).1 (its.getD q (0, 0)).2) U
theorem alkG_app {a1 a2 b1 b2 : List Nat} (h : a1.length = b1.length) : alk (a1 ++ a2) (b1 ++ b2) ↔ alk a1 b1 ∧ alk a2 b2 := by
  unfold alk
  rw [List.map_append, List.map_append]
  constructor
  · intro w
    exact List.append_inj w (by simpa using h)
  · rintro ⟨w1, w2⟩; rw [w1, w2]
theorem M_alike_loop {nf : Nat} {fi : FI} {ar : AR} {j u : Nat} {a N : List Nat} (hj : j < 16400) (hu : ar 26 j = nI u) (hub : u + a.length ≤ 213600) (hua : ∀ x, x < a.length → ar 28 (u + x) = nI (a.getD x 0)) (hN : MN fi ar N) (ha : ∀ x, x ∈ a → x < 65536) (hNb : ∀ x, x ∈ N → x < 65536) (hlen : a.length = N.length) (hN2 : N.length ≤ 260) : ∀ (m i kf g : Nat), i + m = N.length → m < kf → g < 2 → (g ≠ 0 ↔ ∀ t, t < i → cap (a.getD t 0) = cap (N.getD t 0)) → ∃ r, r < 2 ∧ M_isAlike_21 nf kf (nI j) (nI g) (nI i) fi ar = some (nI r, fi, ar) ∧ (r ≠ 0 ↔ ∀ t, t < N.length → cap (a.getD t 0) = cap (N.getD t 0)) := by
  have gb : ∀ (l : List Nat), (∀ x, x ∈ l → x < 65536) → ∀ t, l.getD t 0 < 65536 := fun l hl t => by
    by_cases h : t < l.length
    · rw [List.getD_eq_getElem?_getD, List.getElem?_eq_getElem h]; exact hl _ (List.getElem_mem h)
    · rw [List.getD_eq_getElem?_getD, List.getElem?_eq_none (by omega)]; decide
  intro m
  induction m with
  | zero =>
    intro i kf g hi hk hg hgg
    obtain ⟨kf, rfl⟩ : ∃ k, kf = k + 1 := ⟨kf - 1, by omega⟩
    refine ⟨g, hg, ?_, by rw [hgg, show i = N.length by omega]⟩
    rw [show M_isAlike_21 nf (kf + 1) = M_isAlike_21b (M_isAlike_21 nf kf) nf from rfl]
    unfold M_isAlike_21b M_isAlike_73
    simp (disch := first | omega | decide) only [zlt, zle, zeq, zltl, zllt, zlel, zlle, zeql, zll, ↓zlt, ↓zle, ↓zeq, ↓zltl, ↓zllt, ↓zlel, ↓zlle, ↓zeql, ↓zll, ↓if_pos, ↓if_neg, if_pos, if_neg, ↓zgd, zgd, zgdc, ↓zgd0, zgd0c, zcl0, ↓zbit, zbitc, ↓zbit1, ↓zbit0, nI_clamp, zaddl, zladd, zsubl, zlsub, zmull, zlmul, zdivl, nI_1, nI_add, nI_mulL, zand1, zand3, zand15, zand31, zand63, zand255, zand65535, zshr1, zshl7, zshl8, zshl9, zbit8, zbit16, ↓bnd_eq, bnd_eq, obnd_some, obnd3_some, obnd6_some, hN.1]
  | succ m ih =>
    intro i kf g hi hk hg hgg
    obtain ⟨kf, rfl⟩ : ∃ k, kf = k + 1 := ⟨kf - 1, by omega⟩
    rw [show M_isAlike_21 nf (kf + 1) = M_isAlike_21b (M_isAlike_21 nf kf) nf from rfl]
    unfold M_isAlike_21b M_isAlike_73 M_isAlike_66
    by_cases q0 : g = 0
    · refine ⟨0, by omega, ?_, ⟨fun w => absurd rfl w, fun w => absurd (hgg.mpr (fun t ht => w t (by omega))) (by omega)⟩⟩
      subst q0
      simp (disch := first | omega | decide) only [zlt, zle, zeq, zltl, zllt, zlel, zlle, zeql, zll, ↓zlt, ↓zle, ↓zeq, ↓zltl, ↓zllt, ↓zlel, ↓zlle, ↓zeql, ↓zll, ↓if_pos, ↓if_neg, if_pos, if_neg, ↓zgd, zgd, zgdc, ↓zgd0, zgd0c, zcl0, ↓zbit, zbitc, ↓zbit1, ↓zbit0, nI_clamp, zaddl, zladd, zsubl, zlsub, zmull, zlmul, zdivl, nI_1, nI_add, nI_mulL, zand1, zand3, zand15, zand31, zand63, zand255, zand65535, zshr1, zshl7, zshl8, zshl9, zbit8, zbit16, ↓bnd_eq, bnd_eq, obnd_some, obnd3_some, obnd6_some, hN.1]
    · have e1 := hua i (by omega)
      have e2 := hN.2 i (by omega)
      have b1 := gb a ha i
      have b2 := gb N hNb i
      have c1 := cap_lt b1
      have c2 := cap_lt b2
      by_cases q : cap (a.getD i 0) = cap (N.getD i 0)
      · obtain ⟨r, r1, r2, r3⟩ := ih (i + 1) kf 1 (by omega) (by omega) (by omega) ⟨fun _ t ht => if e : t = i then e ▸ q else hgg.mp q0 t (by omega), fun _ => by omega⟩
        refine ⟨r, r1, ?_, r3⟩
        rw [← r2]
        simp (disch := first | omega | decide) only [zlt, zle, zeq, zltl, zllt, zlel, zlle, zeql, zll, ↓zlt, ↓zle, ↓zeq, ↓zltl, ↓zllt, ↓zlel, ↓zlle, ↓zeql, ↓zll, ↓if_pos, ↓if_neg, if_pos, if_neg, ↓zgd, zgd, zgdc, ↓zgd0, zgd0c, zcl0, ↓zbit, zbitc, ↓zbit1, ↓zbit0, nI_clamp, zaddl, zladd, zsubl, zlsub, zmull, zlmul, zdivl, nI_1, nI_add, nI_mulL, zand1, zand3, zand15, zand31, zand63, zand255, zand65535, zshr1, zshl7, zshl8, zshl9, zbit8, zbit16, ↓bnd_eq, bnd_eq, obnd_some, obnd3_some, obnd6_some, hN.1, hu, e1, e2, M_capital_eq]
        rfl
      · obtain ⟨r, r1, r2, r3⟩ := ih (i + 1) kf 0 (by omega) (by omega) (by omega) ⟨fun w => absurd rfl w, fun w => absurd (w i (by omega)) q⟩
        refine ⟨r, r1, ?_, r3⟩
        rw [← r2]
        simp (disch := first | omega | decide) only [zlt, zle, zeq, zltl, zllt, zlel, zlle, zeql, zll, ↓zlt, ↓zle, ↓zeq, ↓zltl, ↓zllt, ↓zlel, ↓zlle, ↓zeql, ↓zll, ↓if_pos, ↓if_neg, if_pos, if_neg, ↓zgd, zgd, zgdc, ↓zgd0, zgd0c, zcl0, ↓zbit, zbitc, ↓zbit1, ↓zbit0, nI_clamp, zaddl, zladd, zsubl, zlsub, zmull, zlmul, zdivl, nI_1, nI_add, nI_mulL, zand1, zand3, zand15, zand31, zand63, zand255, zand65535, zshr1, zshl7, zshl8, zshl9, zbit8, zbit16, ↓bnd_eq, bnd_eq, obnd_some, obnd3_some, obnd6_some, hN.1, hu, e1, e2, M_capital_eq]
        rfl
theorem alk_iff {a b : List Nat} : alk a b ↔ a.length = b.length ∧ ∀ t, t < b.length → cap (a.getD t 0) = cap (b.getD t 0) := by
  unfold alk
  constructor
  · intro h
    have hl := congrArg List.length h
    rw [List.length_map, List.length_map] at hl
    refine ⟨hl, fun t ht => ?_⟩
    have := congrArg (fun l => l[t]?) h
    simp only [List.getElem?_map, List.getElem?_eq_getElem ht, List.getElem?_eq_getElem (show t < a.length by omega), Option.map_some, Option.some.injEq] at this
    rw [List.getD_eq_getElem?_getD, List.getD_eq_getElem?_getD, List.getElem?_eq_getElem ht, List.getElem?_eq_getElem (show t < a.length by omega)]
    exact this
  · rintro ⟨hl, h⟩
    apply List.ext_getElem
    · rw [List.length_map, List.length_map]; exact hl
    · intro t h1 h2
      rw [List.length_map] at h1 h2
      rw [List.getElem_map, List.getElem_map]
      have := h t h2
      rw [List.getD_eq_getElem?_getD, List.getD_eq_getElem?_getD, List.getElem?_eq_getElem h2, List.getElem?_eq_getElem h1] at this
      exact this
theorem M_isAlike_eq {nf : Nat} {fi : FI} {ar : AR} {j U : Nat} {a N : List Nat} (hj : j < 16400) (h : NMU ar j a U) (hU : U ≤ 213600) (hN : MN fi ar N) (ha : ∀ x, x ∈ a → x < 65536) (hNb : ∀ x, x ∈ N → x < 65536) (ha2 : a.length ≤ 260) (hN2 : N.length ≤ 260) (hnf : 300 ≤ nf) : M_isAlike nf fi ar (nI j) = some ((if alk a N then 1 else 0), fi, ar) := by
  obtain ⟨u, u1, u2, u3, u4⟩ := h
  unfold M_isAlike M_isAlike_18
  rw [zgd (by omega) (by omega), nI_clamp (by omega), u2, hN.1, zeq (by omega) (by omega)]
  by_cases q : a.length = N.length
  · rw [if_pos q]
    obtain ⟨r, r1, r2, r3⟩ := M_alike_loop (nf := nf) hj u1 (by omega) u4 hN ha hNb q hN2 N.length 0 nf 1 (by omega) (by omega) (by omega) ⟨fun _ t ht => by omega, fun _ => by omega⟩
    have r2' : M_isAlike_21 nf nf (nI j) 1 0 fi ar = some (nI r, fi, ar) := r2
    rw [r2']
    by_cases w : alk a N
    · rw [if_pos w, show r = 1 by have := r3.mpr (alk_iff.mp w).2; omega]; rfl
    · rw [if_neg w, show r = 0 by
        apply Decidable.byContradiction
        intro h2
        exact w (alk_iff.mpr ⟨q, r3.mp h2⟩)]; rfl
  · rw [if_neg q, if_neg (fun w => q (alk_len w))]
    obtain ⟨k, rfl⟩ : ∃ k, nf = k + 1 := ⟨nf - 1, by omega⟩
    rw [show M_isAlike_21 (k + 1) (k + 1) = M_isAlike_21b (M_isAlike_21 (k + 1) k) (k + 1) from rfl]
    unfold M_isAlike_21b M_isAlike_73
    rw [hN.1]
    by_cases w : N.length = 0
    · rw [brT (show nI N.length ≤ 0 by rw [w]; decide), zbit0]
    · rw [brF (nI_nle (by omega) (by omega)), brT rfl, zbit0]
theorem M_taken_loop {nf : Nat} {fi : FI} {ar : AR} {d A : Nat → Nat} {b i U : Nat} {its : List (Nat × Nat)} {N : List Nat} (hi : i < 16400) (h : MIT ar d A b i its U) (hb : b + its.length ≤ 16400) (hU : U ≤ 213600) (h25 : ar 25 i = nI b) (h24 : ar 24 i = nI its.length) (hN : MN fi ar N) (hNb : ∀ x, x ∈ N → x < 65536) (hN2 : N.length ≤ 260) (hits : ∀ e, e ∈ its → (nm d A e.1 e.2).length ≤ 260 ∧ ∀ x, x ∈ nm d A e.1 e.2 → x < 65536) (hnf : 300 ≤ nf) : ∀ (m q kf g : Nat), q + m = its.length → m < kf → g < 2 → (g ≠ 0 ↔ ∃ t, t < q ∧ t < its.length ∧ alk (nm d A (its.getD t (0, 0)).1 (its.getD t (0, 0)).2) N) → ∃ r, r < 2 ∧ M_isTaken_9 nf kf (nI i) (nI g) (nI (b + q)) fi ar = some (nI r, fi, ar) ∧ (r ≠ 0 ↔ ∃ t, t < its.length ∧ alk (nm d A (its.getD t (0, 0)).1 (its.getD t (0, 0)).2) N) := by
  intro m
  induction m with
  | zero =>
    intro q kf g hq hk hg hgg
    obtain ⟨kf, rfl⟩ : ∃ k, kf = k + 1 := ⟨kf - 1, by omega⟩
    refine ⟨g, hg, ?_, hgg.trans ⟨fun w => by obtain ⟨t, _, t2, t3⟩ := w; exact ⟨t, t2, t3⟩, fun w => by obtain ⟨t, t2, t3⟩ := w; exact ⟨t, by omega, t2, t3⟩⟩⟩
    rw [show M_isTaken_9 nf (kf + 1) = M_isTaken_9b (M_isTaken_9 nf kf) nf from rfl]
    unfold M_isTaken_9b M_isTaken_42
    simp (disch := first | omega | decide) only [zlt, zle, zeq, zltl, zllt, zlel, zlle, zeql, zll, ↓zlt, ↓zle, ↓zeq, ↓zltl, ↓zllt, ↓zlel, ↓zlle, ↓zeql, ↓zll, ↓if_pos, ↓if_neg, if_pos, if_neg, ↓zgd, zgd, zgdc, ↓zgd0, zgd0c, zcl0, ↓zbit, zbitc, ↓zbit1, ↓zbit0, nI_clamp, zaddl, zladd, zsubl, zlsub, zmull, zlmul, zdivl, nI_1, nI_add, nI_mulL, zand1, zand3, zand15, zand31, zand63, zand255, zand65535, zshr1, zshl7, zshl8, zshl9, zbit8, zbit16, ↓bnd_eq, bnd_eq, obnd_some, obnd3_some, obnd6_some, h25, h24]
  | succ m ih =>
    intro q kf g hq hk hg hgg
    obtain ⟨kf, rfl⟩ : ∃ k, kf = k + 1 := ⟨kf - 1, by omega⟩
    rw [show M_isTaken_9 nf (kf + 1) = M_isTaken_9b (M_isTaken_9 nf kf) nf from rfl]
    unfold M_isTaken_9b M_isTaken_42
    by_cases q0 : g = 0
    · subst q0
      have hq2 : q < its.length := by omega
      have hem : its.getD q (0, 0) ∈ its := by
        rw [List.getD_eq_getElem?_getD, List.getElem?_eq_getElem hq2]; exact List.getElem_mem hq2
      have hib := hits _ hem
      have hal := M_isAlike_eq (nf := nf) (fi := fi) (show b + q < 16400 by omega) (h q hq2).2.2.2.2 hU hN hib.2 hNb hib.1 hN2 hnf
      by_cases w : alk (nm d A (its.getD q (0, 0)).1 (its.getD q (0, 0)).2) N
      · rw [if_pos w] at hal
        obtain ⟨r, r1, r2, r3⟩ := ih (q + 1) kf 1 (by omega) (by omega) (by omega) ⟨fun _ => ⟨q, by omega, hq2, w⟩, fun _ => by omega⟩
        refine ⟨r, r1, ?_, r3⟩
        rw [← r2]
        simp (disch := first | omega | decide) only [zlt, zle, zeq, zltl, zllt, zlel, zlle, zeql, zll, ↓zlt, ↓zle, ↓zeq, ↓zltl, ↓zllt, ↓zlel, ↓zlle, ↓zeql, ↓zll, ↓if_pos, ↓if_neg, if_pos, if_neg, ↓zgd, zgd, zgdc, ↓zgd0, zgd0c, zcl0, ↓zbit, zbitc, ↓zbit1, ↓zbit0, nI_clamp, zaddl, zladd, zsubl, zlsub, zmull, zlmul, zdivl, nI_1, nI_add, nI_mulL, zand1, zand3, zand15, zand31, zand63, zand255, zand65535, zshr1, zshl7, zshl8, zshl9, zbit8, zbit16, ↓bnd_eq, bnd_eq, obnd_some, obnd3_some, obnd6_some, h25, h24, hal, Nat.add_assoc]
        rfl
      · rw [if_neg w] at hal
        obtain ⟨r, r1, r2, r3⟩ := ih (q + 1) kf 0 (by omega) (by omega) (by omega) ⟨fun w => absurd rfl w, fun w2 => by
          obtain ⟨t, t1, t2, t3⟩ := w2
          by_cases e : t = q
          · rw [e] at t3; exact absurd t3 w
          · exact absurd (hgg.mpr ⟨t, by omega, t2, t3⟩) (fun w => w rfl)⟩
        refine ⟨r, r1, ?_, r3⟩
        rw [← r2]
        simp (disch := first | omega | decide) only [zlt, zle, zeq, zltl, zllt, zlel, zlle, zeql, zll, ↓zlt, ↓zle, ↓zeq, ↓zltl, ↓zllt, ↓zlel, ↓zlle, ↓zeql, ↓zll, ↓if_pos, ↓if_neg, if_pos, if_neg, ↓zgd, zgd, zgdc, ↓zgd0, zgd0c, zcl0, ↓zbit, zbitc, ↓zbit1, ↓zbit0, nI_clamp, zaddl, zladd, zsubl, zlsub, zmull, zlmul, zdivl, nI_1, nI_add, nI_mulL, zand1, zand3, zand15, zand31, zand63, zand255, zand65535, zshr1, zshl7, zshl8, zshl9, zbit8, zbit16, ↓bnd_eq, bnd_eq, obnd_some, obnd3_some, obnd6_some, h25, h24, hal, Nat.add_assoc]
        rfl
    · refine ⟨g, hg, ?_, ⟨fun _ => by obtain ⟨t, _, t2, t3⟩ := hgg.mp q0; exact ⟨t, t2, t3⟩, fun _ => q0⟩⟩
      simp (disch := first | omega | decide) only [zlt, zle, zeq, zltl, zllt, zlel, zlle, zeql, zll, ↓zlt, ↓zle, ↓zeq, ↓zltl, ↓zllt, ↓zlel, ↓zlle, ↓zeql, ↓zll, ↓if_pos, ↓if_neg, if_pos, if_neg, ↓zgd, zgd, zgdc, ↓zgd0, zgd0c, zcl0, ↓zbit, zbitc, ↓zbit1, ↓zbit0, nI_clamp, zaddl, zladd, zsubl, zlsub, zmull, zlmul, zdivl, nI_1, nI_add, nI_mulL, zand1, zand3, zand15, zand31, zand63, zand255, zand65535, zshr1, zshl7, zshl8, zshl9, zbit8, zbit16, ↓bnd_eq, bnd_eq, obnd_some, obnd3_some, obnd6_some, h25, h24]
theorem M_isTaken_eq {nf : Nat} {fi : FI} {ar : AR} {d A : Nat → Nat} {b i U : Nat} {its : List (Nat × Nat)} {N : List Nat} (hi : i < 16400) (h : MIT ar d A b i its U) (hb : b + its.length ≤ 16400) (hU : U ≤ 213600) (h25 : ar 25 i = nI b) (h24 : ar 24 i = nI its.length) (hN : MN fi ar N) (hNb : ∀ x, x ∈ N → x < 65536) (hN2 : N.length ≤ 260) (hits : ∀ e, e ∈ its → (nm d A e.1 e.2).length ≤ 260 ∧ ∀ x, x ∈ nm d A e.1 e.2 → x < 65536) (hnf : 20000 ≤ nf) : ∃ r, M_isTaken nf fi ar (nI i) = some (nI r, fi, ar) ∧ ((r = 1 ∧ ∃ e, e ∈ its ∧ alk (nm d A e.1 e.2) N) ∨ (r = 0 ∧ ¬ ∃ e, e ∈ its ∧ alk (nm d A e.1 e.2) N)) := by
  obtain ⟨r, r1, r2, r3⟩ := M_taken_loop (nf := nf) hi h hb hU h25 h24 hN hNb hN2 hits (by omega) its.length 0 nf 0 (by omega) (by omega) (by omega) ⟨fun w => absurd rfl w, fun w => by obtain ⟨t, t1, _⟩ := w; omega⟩
  have hiff : (∃ t, t < its.length ∧ alk (nm d A (its.getD t (0, 0)).1 (its.getD t (0, 0)).2) N) ↔ ∃ e, e ∈ its ∧ alk (nm d A e.1 e.2) N := by
    constructor
    · rintro ⟨t, a, c⟩
      refine ⟨its.getD t (0, 0), ?_, c⟩
      rw [List.getD_eq_getElem?_getD, List.getElem?_eq_getElem a]; exact List.getElem_mem a
    · rintro ⟨e, he, c⟩
      obtain ⟨t, ht, rfl⟩ := List.getElem_of_mem he
      refine ⟨t, ht, ?_⟩
      rw [List.getD_eq_getElem?_getD, List.getElem?_eq_getElem ht]; exact c
  rw [hiff] at r3
  refine ⟨r, ?_, ?_⟩
  · unfold M_isTaken
    rw [zgd (by omega) (by omega), nI_clamp (by omega), h25, bnd_eq]
    exact r2
  · by_cases w : r = 0
    · right; exact ⟨w, fun w2 => (r3.mpr w2) w⟩
    · left; exact ⟨by omega, r3.mp w⟩
