/-! what holds between calls -/
def PH (ln : LN) : Nat := 6 * (ln 11 + ln 15 + ln 19)
/-- the cost of a step: what the arrays have grown, and a cells, b slots -/
def CST (ln ln' : LN) (kc ks a b : Nat) : Prop := PH ln ≤ PH ln' ∧ ks ≤ (PH ln' - PH ln) + b ∧ 128 * kc ≤ (PH ln' - PH ln) + 128 * a
theorem CST.rf {ln : LN} : CST ln ln 0 0 0 0 := ⟨Nat.le_refl _, by omega, by omega⟩
theorem CST.tr {l1 l2 l3 : LN} {k1 s1 a1 b1 k2 s2 a2 b2 : Nat} (h1 : CST l1 l2 k1 s1 a1 b1) (h2 : CST l2 l3 k2 s2 a2 b2) : CST l1 l3 (k1 + k2) (s1 + s2) (a1 + a2) (b1 + b2) := by
  unfold CST at *
  omega
theorem GR.cst {i : Nat} {ln ln' : LN} {kc ks : Nat} (h : GR i ln ln' kc ks) (hi : i < 3) : CST ln ln' kc ks 0 0 := by
  obtain ⟨L, L', a1, a2, a3, a4, a5, a6⟩ := h
  have e : ∀ k, k ∈ [11, 15, 19] → k ≠ 11 + 4 * i → ln' k = ln k := fun k hk hne => a6 k hne (by simp at hk; omega) (by simp at hk; omega)
  have b1 := a1.1
  have b2 := a2.1
  unfold CST PH
  rcases (show i = 0 ∨ i = 1 ∨ i = 2 by omega) with w | w | w <;> subst w
  · rw [e 15 (by simp) (by omega), e 19 (by simp) (by omega)]
    have c1 : ln 11 = L := b1
    have c2 : ln' 11 = L' := b2
    omega
  · rw [e 11 (by simp) (by omega), e 19 (by simp) (by omega)]
    have c1 : ln 15 = L := b1
    have c2 : ln' 15 = L' := b2
    omega
  · rw [e 11 (by simp) (by omega), e 15 (by simp) (by omega)]
    have c1 : ln 19 = L := b1
    have c2 : ln' 19 = L' := b2
    omega
theorem LK.gr {i j : Nat} {ln ln' : LN} {kc ks L : Nat} (h : LK ln j L) (hg : GR i ln ln' kc ks) (hne : i ≠ j) : LK ln' j L := by
  obtain ⟨h1, h2, h3, h4⟩ := h
  exact ⟨by rw [hg.off (by omega) (by omega) (by omega)]; exact h1, by rw [hg.off (by omega) (by omega) (by omega)]; exact h2, by rw [hg.off (by omega) (by omega) (by omega)]; exact h3, h4⟩
theorem LKs.gr {ln ln' : LN} {i kc ks : Nat} (h : ∀ j, j < 3 → ∃ L, LK ln j L) (hg : GR i ln ln' kc ks) : ∀ j, j < 3 → ∃ L, LK ln' j L := fun j hj => by
  by_cases e : i = j
  · rw [← e]; exact hg.lk
  · obtain ⟨L, hL⟩ := h j hj
    exact ⟨L, hL.gr hg e⟩
/-- the volume and what both know of it, where they stand -/
def VOL (n : Nat) (ln : LN) (fi : FI) (ar : AR) (fm : FI) (arm : AR) (d : Nat → Nat) (h : Nat) : Prop :=
  (256 ≤ n ∧ n ≤ 1024) ∧ (∀ p, d p < 256) ∧ RD arm d ∧ CD ln ar d ∧ fi 2 = nI n ∧ fm 0 = nI n ∧ LNC ln n ∧ (∀ i, i < 3 → ∃ L, LK ln i L)
  ∧ fi 0 = nI h ∧ fm 14 = nI h ∧ h < 2147483648
  ∧ (fi 1 = -1 ∨ (fi 1 = nI (fltS n d) ∧ (headOK n d → CG fi (geoOf n d))))
  ∧ (fm 15 = 0 ∨ (fm 15 = 1 ∧ fm 16 = nI (fltS n d) ∧ (headOK n d → RG fm (geoOf n d)) ∧ (fltS n d = 0 → ∃ ms, KNW fm arm (geoOf n d) d ms)))
  ∧ (h ≠ 0 → fltS n d = 0 ∧ ∃ D ρ, Snd (geoOf n d) d D ρ ∧ h ∈ D ∧ h ≠ (geoOf n d).r)
theorem fltS_lt (n : Nat) (d : Nat → Nat) : fltS n d < 10 := by
  unfold fltS
  split
  · decide
  · split
    · decide
    · split
      · have key : ∀ (m : Nat) (Q : List (Nat × Nat)) (ms : List Nat), (bfs (geoOf n d) d m Q ms).1 < 10 := by
          intro m
          induction m with
          | zero => intro Q ms; rw [bfs]; show 3 < 10; decide
          | succ m ih =>
            intro Q ms
            cases Q with
            | nil => rw [bfs]; show 0 < 10; decide
            | cons q Q =>
              obtain ⟨f, p⟩ := q
              rw [bfs]
              split
              · show 3 < 10; decide
              · split
                · exact dirF_lt
                · exact ih _ _
        exact key _ _ _
      · split <;> decide
/-- the model looks, if it hasn't -/
theorem look_any {nf n h : Nat} {ln : LN} {fi fm : FI} {ar arm : AR} {d : Nat → Nat} (hV : VOL n ln fi ar fm arm d h) (hnf : 40000 ≤ nf) : ∃ fm' arm', M_look nf (va_up fm 5 0) arm = some ((), fm', arm') ∧ VOL n ln fi ar fm' arm' d h ∧ fm' 5 = 0 ∧ fm' 15 = 1 ∧ fm' 16 = nI (fltS n d) ∧ (headOK n d → RG fm' (geoOf n d)) ∧ (fltS n d = 0 → ∃ ms, KNW fm' arm' (geoOf n d) d ms) ∧ offF [5, 7, 8, 9, 10, 11, 12, 13, 15, 16, 17, 18, 31, 32, 33, 35, 36, 37, 38] fm fm' ∧ offAs [19, 20, 21, 22, 23, 24, 25, 26, 27, 28, 29, 30, 34] arm arm' := by
  obtain ⟨v1, v2, v3, v4, v5, v6, v7, v8, v9, v10, v11, v12, v13, v14⟩ := id hV
  have o5 : offF [5, 7, 8, 9, 10, 11, 12, 13, 15, 16, 17, 18, 31, 32, 33, 35, 36, 37, 38] fm (va_up fm 5 0) := offF.rf.up (by simp)
  rcases v13 with w | ⟨w1, w2, w3, w4⟩
  · obtain ⟨fm', arm', a1, a2, a3, a4, a5, a6, a7⟩ := M_look_ok (nf := nf) (fi := va_up fm 5 0) v3 (by rw [va_up_off (by decide)]; exact v6) v1.1 v1.2 (by rw [va_up_off (by decide)]; exact w) hnf
    have oF := o5.tr (a6.mono (T := [5, 7, 8, 9, 10, 11, 12, 13, 15, 16, 17, 18, 31, 32, 33, 35, 36, 37, 38]) (by simp))
    refine ⟨fm', arm', a1, ⟨v1, v2, fun p hp => by rw [a7 1 (by simp)]; exact v3 p hp, v4, v5, by rw [oF 0 (by simp)]; exact v6, v7, v8, v9, by rw [oF 14 (by simp)]; exact v10, v11, v12, Or.inr ⟨a2, a3, a4, a5⟩, v14⟩, by rw [a6 5 (by simp), va_up_self], a2, a3, a4, a5, oF, a7⟩
  · have hR : headOK n d → RG (va_up fm 5 0) (geoOf n d) := fun hh => (w3 hh).up (by simp)
    have hK : fltS n d = 0 → ∃ ms, KNW (va_up fm 5 0) arm (geoOf n d) d ms := fun hz => by
      obtain ⟨ms, N, U, k1, k2, k3, k4, k5, k6, k7, k8, k9, k10, k11⟩ := w4 hz
      exact ⟨ms, N, U, k1.upF (by simp), by rw [va_up_off (by decide)]; exact k2, by rw [va_up_off (by decide)]; exact k3, by rw [va_up_off (by decide)]; exact k4, k5, k6, k7, k8, k9, fun z => ⟨(k10 z).1, (k10 z).2.1, (k10 z).2.2.off (offF.rf.up (S := [5]) (by simp)) (by simp)⟩, k11⟩
    refine ⟨va_up fm 5 0, arm, ?_, ⟨v1, v2, v3, v4, v5, by rw [va_up_off (by decide)]; exact v6, v7, v8, v9, by rw [va_up_off (by decide)]; exact v10, v11, v12, Or.inr ⟨by rw [va_up_off (by decide)]; exact w1, by rw [va_up_off (by decide)]; exact w2, hR, hK⟩, v14⟩, va_up_self _ _ _, by rw [va_up_off (by decide)]; exact w1, by rw [va_up_off (by decide)]; exact w2, hR, hK, o5, offAs.rf⟩
    unfold M_look
    rw [va_up_off (by decide), w1, brF (by decide)]
theorem fails_eq {nf : Nat} {fi : FI} {ar : AR} (h5 : fi 5 = 0) {t : Nat} (ht : t < 2) (c : Nat) (hc : 0 < c ∧ c < 10) : M_fails nf fi ar (nI t) (nI c) = some ((if t = 0 then 0 else 1), (if t = 0 then fi else va_up fi 5 (nI c)), ar) := by
  unfold M_fails M_fails_16 M_fails_28
  rw [h5]
  rcases (show t = 0 ∨ t = 1 by omega) with w | w
  · rw [w, if_pos rfl, if_pos rfl, brT (show nI 0 = (0 : Int32) from rfl), brT rfl, zbit0]
  · rw [w, if_neg (by decide), if_neg (by decide), brF (by decide), brT rfl, bnd_eq, va_up_self, brF (nI_ne0 hc.1 (by omega)), zbit1]
/-- the model's first question: is the volume sound -/
theorem none_ok {nf n h : Nat} {ln : LN} {fi fm : FI} {ar arm : AR} {d : Nat → Nat} (hV : VOL n ln fi ar fm arm d h) (hnf : 40000 ≤ nf) : ∃ fm' arm', VOL n ln fi ar fm' arm' d h ∧ offF [5, 7, 8, 9, 10, 11, 12, 13, 15, 16, 17, 18, 31, 32, 33, 35, 36, 37, 38] fm fm' ∧ offAs [19, 20, 21, 22, 23, 24, 25, 26, 27, 28, 29, 30, 34] arm arm' ∧ ((fltS n d ≠ 0 ∧ M_none nf fm arm = some (1, fm', arm') ∧ fm' 5 = 1) ∨ (fltS n d = 0 ∧ M_none nf fm arm = some (0, fm', arm') ∧ fm' 5 = 0 ∧ fm' 15 = 1 ∧ RG fm' (geoOf n d) ∧ ∃ ms, KNW fm' arm' (geoOf n d) d ms)) := by
  obtain ⟨fm1, arm1, a1, a2, a3, a4, a5, a6, a7, a8, a9⟩ := look_any hV hnf
  have hlt := fltS_lt n d
  have unf : ∀ t, t < 2 → M_none_22 nf (nI t) fm1 arm1 = some ((if t = 0 then 0 else 1), (if t = 0 then fm1 else va_up fm1 5 (nI 1)), arm1) := by
    intro t ht
    unfold M_none_22
    have := fails_eq (nf := nf) (ar := arm1) a3 ht 1 (by decide)
    have e : M_fails nf fm1 arm1 (nI t) 1 = _ := this
    rw [e, obnd3_some]
    rcases (show t = 0 ∨ t = 1 by omega) with w | w
    · rw [w, if_pos rfl, zbit0]
    · rw [w, if_neg (by decide), zbit1]
  unfold M_none
  rw [bnd_eq, a1, obnd3_some, a5]
  by_cases q : fltS n d = 0
  · rw [q, brT (show nI 0 ≤ (0 : Int32) by decide)]
    have hh := ((flt_iff (hV.1.1) (hV.1.2)).mp q).1
    exact ⟨fm1, arm1, a2, a8, a9, Or.inr ⟨rfl, (unf 0 (by decide)).trans (by rw [if_pos rfl, if_pos rfl]), a3, a4, a6 hh, a7 q⟩⟩
  · rw [brF (nI_nle (by omega) (by omega))]
    refine ⟨va_up fm1 5 (nI 1), arm1, ?_, a8.up (by simp), a9, Or.inl ⟨q, (unf 1 (by decide)).trans (by rw [if_neg (by decide), if_neg (by decide)]), va_up_self _ _ _⟩⟩
    obtain ⟨v1, v2, v3, v4, v5, v6, v7, v8, v9, v10, v11, v12, v13, v14⟩ := a2
    refine ⟨v1, v2, v3, v4, v5, by rw [va_up_off (by decide)]; exact v6, v7, v8, v9, by rw [va_up_off (by decide)]; exact v10, v11, v12, Or.inr ⟨by rw [va_up_off (by decide)]; exact a4, by rw [va_up_off (by decide)]; exact a5, fun hh => (a6 hh).up (by simp), fun z => absurd z q⟩, v14⟩
