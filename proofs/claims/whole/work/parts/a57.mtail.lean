/-! make: short names with tails, the model -/
theorem plain_eq {nf x : Nat} (hx : x < 65536) (h1 : x ≠ 32) (h2 : x ≠ 46) (hnf : 20 ≤ nf) : M_plain nf (nI x) = some (nI (shd x)) ∧ shd x ≠ 0 := by
  have hs : shd x = if sgn (cap x) then cap x else 95 := by unfold shd; rw [if_neg (by omega)]
  refine ⟨?_, ?_⟩
  · unfold M_plain M_plain_23 M_plain_25
    rw [M_capital_eq hx, obnd_some, hs]
    by_cases c : 128 ≤ x
    · have hc : cap x = x := by unfold cap; rw [if_neg (by omega)]
      rw [brT (show (128 : Int32) ≤ nI x from nI_le (a := 128) c (by omega)), if_neg (fun w => by have := (sgn_lt w).2.1; omega)]; rfl
    · rw [brF (show ¬ (128 : Int32) ≤ nI x from nI_ge (b := 128) (by omega) (by omega)), M_isShortSign_eq (cap_lt hx) hnf, obnd_some]
      by_cases c2 : sgn (cap x)
      · rw [if_pos c2, if_pos c2, brF (by decide)]
      · rw [if_neg c2, if_neg c2, brT rfl]; rfl
  · rw [hs]
    split
    · rename_i h; have := (sgn_lt h).1; omega
    · omega
theorem ms_point {nf : Nat} {fm : FI} {arm : AR} {N : List Nat} {x1 : Int32} (hN : N.length ≤ 255 ∧ ∀ x, x ∈ N → x < 65536) (hM : MN fm arm N) : ∀ (q kf : Nat), q < N.length → q < kf → M_shorten_7 nf kf x1 (nI q) fm arm = M_shorten_28 nf x1 (nI (lpz N q)) fm arm := by
  intro q
  induction q with
  | zero =>
    intro kf hq hk
    obtain ⟨kf, rfl⟩ : ∃ k, kf = k + 1 := ⟨kf - 1, by omega⟩
    rw [show M_shorten_7 nf (kf + 1) = M_shorten_7b (M_shorten_7 nf kf) nf from rfl]
    unfold M_shorten_7b
    rw [brT (show nI 0 ≤ 0 by decide), lpz]
  | succ q ih =>
    intro kf hq hk
    have hu := hN.2 _ (getD_mem hq)
    obtain ⟨kf, rfl⟩ : ∃ k, kf = k + 1 := ⟨kf - 1, by omega⟩
    rw [show M_shorten_7 nf (kf + 1) = M_shorten_7b (M_shorten_7 nf kf) nf from rfl]
    unfold M_shorten_7b
    rw [brF (nI_nle (by omega) (by omega)), zgd (by omega) (by omega), nI_clamp (by omega), hM.2 _ hq, lpz]
    by_cases c : N.getD (q + 1) 0 = 46
    · rw [brT (show nI (N.getD (q + 1) 0) = (46 : Int32) by rw [c]; rfl), if_pos c]
    · rw [brF (show ¬ nI (N.getD (q + 1) 0) = (46 : Int32) from fun w => c ((nI_eq (b := 46) (by omega) (by omega)).mp w)), if_neg c, bnd_eq, show nI (q + 1) + (-1 : Int32) = nI q from by
        rw [← nI_1, Int32.add_assoc, show (1 : Int32) + -1 = 0 from by decide, Int32.add_zero]]
      exact ih kf (by omega) (by omega)
theorem ms_stem {nf : Nat} {fm : FI} {N : List Nat} {x1 : Int32} (hN : N.length ≤ 255 ∧ ∀ x, x ∈ N → x < 65536) (h35 : fm 35 = nI N.length) (hlp : lpt N < N.length) (hS : sto N ≤ N.length) (hnf : 20 ≤ nf) : ∀ (m i kf : Nat) (arm : AR), i + m = sto N → m < kf → (∀ j, j < N.length → arm 34 j = nI (N.getD j 0)) → (∀ j, j < (shl N 0 i).length → arm 40 j = nI ((shl N 0 i).getD j 0)) → ∃ arm', M_shorten_36 nf kf x1 (nI (lpt N)) (nI (shl N 0 i).length) 0 (nI i) fm arm = M_shorten_110 nf nf x1 (nI (lpt N)) (nI (bas N).length) 0 (nI (lpt N + 1)) fm arm' ∧ (∀ j, j < (bas N).length → arm' 40 j = nI ((bas N).getD j 0)) ∧ offA 40 arm arm' := by
  have e50 : ∀ (K : Int32 → Int32 → Int32 → Int32 → Int32 → FI → AR → Option (Unit × FI × AR)) (x3 x5 : Int32) (arm : AR), br (nI (lpt N) ≤ 0) (M_shorten_50 K nf x1 (nI (lpt N)) x3 0 x5 x5 (fm 35) fm arm) (M_shorten_50 K nf x1 (nI (lpt N)) x3 0 x5 x5 (nI (lpt N)) fm arm) = M_shorten_50 K nf x1 (nI (lpt N)) x3 0 x5 x5 (nI (sto N)) fm arm := fun K x3 x5 arm => by
    unfold sto
    by_cases c : lpt N = 0
    · rw [brT (by rw [c]; decide), if_pos c, h35]
    · rw [brF (nI_nle (by omega) (by omega)), if_neg c]
  intro m
  induction m with
  | zero =>
    intro i kf arm hi hk h34 h40
    have e : i = sto N := by omega
    subst e
    obtain ⟨kf, rfl⟩ : ∃ k, kf = k + 1 := ⟨kf - 1, by omega⟩
    rw [show M_shorten_36 nf (kf + 1) = M_shorten_36b (M_shorten_36 nf kf) nf from rfl]
    unfold M_shorten_36b
    rw [e50]
    unfold M_shorten_50
    rw [brT (nI_le (Nat.le_refl _) (by omega)), bnd_eq, show nI (lpt N) + (1 : Int32) = nI (lpt N + 1) from nI_add _ 1]
    exact ⟨arm, rfl, h40, offA.rf⟩
  | succ m ih =>
    intro i kf arm hi hk h34 h40
    have hi2 : i < N.length := by omega
    have hu := hN.2 _ (getD_mem hi2)
    have hj1 : nI i + (1 : Int32) = nI (i + 1) := nI_add i 1
    have hsn : shl N 0 (i + 1) = shl N 0 i ++ (if shd (N.getD i 0) = 0 then [] else [shd (N.getD i 0)]) := by rw [shl_app N i 1 0, Nat.zero_add, shl_one]
    have hsl := shl_len N i 0
    obtain ⟨kf, rfl⟩ : ∃ k, kf = k + 1 := ⟨kf - 1, by omega⟩
    rw [show M_shorten_36 nf (kf + 1) = M_shorten_36b (M_shorten_36 nf kf) nf from rfl]
    unfold M_shorten_36b
    rw [e50]
    unfold M_shorten_50 M_shorten_99
    rw [brF (nI_ge (by omega) (by omega)), zgd (by omega) (by omega), nI_clamp (by omega), h34 i hi2]
    have skip : shd (N.getD i 0) = 0 → ∃ arm', M_shorten_36 nf kf x1 (nI (lpt N)) (nI (shl N 0 i).length) 0 (nI (i + 1)) fm arm = M_shorten_110 nf nf x1 (nI (lpt N)) (nI (bas N).length) 0 (nI (lpt N + 1)) fm arm' ∧ (∀ j, j < (bas N).length → arm' 40 j = nI ((bas N).getD j 0)) ∧ offA 40 arm arm' := fun h0 => by
      rw [if_pos h0, List.append_nil] at hsn
      have := ih (i + 1) kf arm (by omega) (by omega) h34 (by rw [hsn]; exact h40)
      rw [hsn] at this
      exact this
    by_cases c1 : N.getD i 0 = 32
    · rw [brT (show nI (N.getD i 0) = (32 : Int32) by rw [c1]; rfl), bnd_eq, hj1]
      exact skip (by rw [c1]; decide)
    · rw [brF (show ¬ nI (N.getD i 0) = (32 : Int32) from fun w => c1 ((nI_eq (b := 32) (by omega) (by omega)).mp w)), zgdc (by omega) (by omega)]
      by_cases c2 : N.getD i 0 = 46
      · rw [brT (show nI (N.getD i 0) = (46 : Int32) by rw [c2]; rfl), bnd_eq, hj1]
        exact skip (by rw [c2]; decide)
      · obtain ⟨p1, p2⟩ := plain_eq (nf := nf) hu c1 c2 hnf
        rw [if_neg p2] at hsn
        rw [brF (show ¬ nI (N.getD i 0) = (46 : Int32) from fun w => c2 ((nI_eq (b := 46) (by omega) (by omega)).mp w)), zgdc (by omega) (by omega), p1, obnd_some, zgd (by omega) (by omega), nI_clamp (by omega), bnd_eq, bnd_eq, bnd_eq, hj1, show nI (shl N 0 i).length + (1 : Int32) = nI ((shl N 0 i).length + 1) from nI_add _ 1]
        have o1 : offA 40 arm (va_up arm 40 (upd (arm 40) (shl N 0 i).length (nI (shd (N.getD i 0))))) := fun z hz => va_up_off hz
        have hlen : (shl N 0 (i + 1)).length = (shl N 0 i).length + 1 := by rw [hsn, List.length_append, List.length_singleton]
        obtain ⟨arm', s1, s2, s3⟩ := ih (i + 1) kf (va_up arm 40 (upd (arm 40) (shl N 0 i).length (nI (shd (N.getD i 0))))) (by omega) (by omega) (fun j hj => by rw [o1 34 (by decide)]; exact h34 j hj) (fun j hj => by
          rw [hlen] at hj
          rw [va_up_self, hsn, getD_snoc hj]
          unfold upd
          by_cases e : j = (shl N 0 i).length
          · rw [if_pos e, if_pos e]
          · rw [if_neg e, if_neg e]; exact h40 j (by omega))
        rw [hlen] at s1
        exact ⟨arm', s1, s2, o1.tr s3⟩
theorem ms_ext {nf : Nat} {fm : FI} {N : List Nat} {x1 x3 : Int32} (hN : N.length ≤ 255 ∧ ∀ x, x ∈ N → x < 65536) (h35 : fm 35 = nI N.length) (hlp : lpt N ≠ 0) (hno : ∀ t, lpt N < t → t < N.length → N.getD t 0 ≠ 46) (hnf : 20 ≤ nf) : ∀ (m t kf : Nat) (arm : AR), lpt N + 1 + t + m = N.length → m < kf → (∀ j, j < N.length → arm 34 j = nI (N.getD j 0)) → (shl N (lpt N + 1) t).length ≤ 3 → (∀ j, j < (shl N (lpt N + 1) t).length → arm 41 j = nI ((shl N (lpt N + 1) t).getD j 0)) → ∃ arm', M_shorten_110 nf kf x1 (nI (lpt N)) x3 (nI (shl N (lpt N + 1) t).length) (nI (lpt N + 1 + t)) fm arm = M_shorten_170 nf x1 x3 (nI (min 3 (shl N (lpt N + 1) (t + m)).length)) fm arm' ∧ (∀ j, j < min 3 (shl N (lpt N + 1) (t + m)).length → arm' 41 j = nI ((shl N (lpt N + 1) (t + m)).getD j 0)) ∧ offA 41 arm arm' := by
  intro m
  induction m with
  | zero =>
    intro t kf arm hi hk h34 h3 h41
    obtain ⟨kf, rfl⟩ : ∃ k, kf = k + 1 := ⟨kf - 1, by omega⟩
    rw [show M_shorten_110 nf (kf + 1) = M_shorten_110b (M_shorten_110 nf kf) nf from rfl]
    unfold M_shorten_110b
    rw [brF (nI_nle (by omega) (by omega)), h35, brT (nI_le (by omega) (by omega)), show t + 0 = t from rfl]
    exact ⟨arm, by rw [show min 3 (shl N (lpt N + 1) t).length = (shl N (lpt N + 1) t).length by omega], fun j hj => h41 j (by omega), offA.rf⟩
  | succ m ih =>
    intro t kf arm hi hk h34 h3 h41
    have hi2 : lpt N + 1 + t < N.length := by omega
    have hu := hN.2 _ (getD_mem hi2)
    have hj1 : nI (lpt N + 1 + t) + (1 : Int32) = nI (lpt N + 1 + (t + 1)) := nI_add (lpt N + 1 + t) 1
    have hsn : shl N (lpt N + 1) (t + 1) = shl N (lpt N + 1) t ++ (if shd (N.getD (lpt N + 1 + t) 0) = 0 then [] else [shd (N.getD (lpt N + 1 + t) 0)]) := by rw [shl_app N t 1, shl_one]
    obtain ⟨kf, rfl⟩ : ∃ k, kf = k + 1 := ⟨kf - 1, by omega⟩
    rw [show M_shorten_110 nf (kf + 1) = M_shorten_110b (M_shorten_110 nf kf) nf from rfl]
    unfold M_shorten_110b M_shorten_164
    rw [brF (nI_nle (by omega) (by omega)), h35, brF (nI_ge (by omega) (by omega))]
    by_cases c : (shl N (lpt N + 1) t).length = 3
    · rw [brT (show (3 : Int32) ≤ nI (shl N (lpt N + 1) t).length from nI_le (a := 3) (by omega) (by omega))]
      have e : shl N (lpt N + 1) (t + (m + 1)) = shl N (lpt N + 1) t ++ shl N (lpt N + 1 + t) (m + 1) := shl_app N t (m + 1) _
      refine ⟨arm, ?_, fun j hj => ?_, offA.rf⟩
      · rw [e, List.length_append, show min 3 ((shl N (lpt N + 1) t).length + (shl N (lpt N + 1 + t) (m + 1)).length) = (shl N (lpt N + 1) t).length by omega]
      · rw [h41 j (by omega), e, List.getD_eq_getElem?_getD, List.getD_eq_getElem?_getD, List.getElem?_append_left (by omega)]
    · rw [brF (show ¬ (3 : Int32) ≤ nI (shl N (lpt N + 1) t).length from nI_ge (b := 3) (by omega) (by omega)), zgd (by omega) (by omega), nI_clamp (by omega), h34 _ hi2]
      by_cases c1 : N.getD (lpt N + 1 + t) 0 = 32
      · rw [brT (show nI (N.getD (lpt N + 1 + t) 0) = (32 : Int32) by rw [c1]; rfl), bnd_eq, hj1]
        rw [c1, if_pos (by decide), List.append_nil] at hsn
        have := ih (t + 1) kf arm (by omega) (by omega) h34 (by rw [hsn]; exact h3) (by rw [hsn]; exact h41)
        rw [hsn, show t + 1 + m = t + (m + 1) by omega] at this
        exact this
      · obtain ⟨p1, p2⟩ := plain_eq (nf := nf) hu c1 (hno _ (by omega) hi2) hnf
        rw [if_neg p2] at hsn
        rw [brF (show ¬ nI (N.getD (lpt N + 1 + t) 0) = (32 : Int32) from fun w => c1 ((nI_eq (b := 32) (by omega) (by omega)).mp w)), zgdc (by omega) (by omega), p1, obnd_some, zgd (by omega) (by omega), nI_clamp (by omega), bnd_eq, bnd_eq, bnd_eq, hj1, show nI (shl N (lpt N + 1) t).length + (1 : Int32) = nI ((shl N (lpt N + 1) t).length + 1) from nI_add _ 1]
        have o1 : offA 41 arm (va_up arm 41 (upd (arm 41) (shl N (lpt N + 1) t).length (nI (shd (N.getD (lpt N + 1 + t) 0))))) := fun z hz => va_up_off hz
        have hlen : (shl N (lpt N + 1) (t + 1)).length = (shl N (lpt N + 1) t).length + 1 := by rw [hsn, List.length_append, List.length_singleton]
        obtain ⟨arm', s1, s2, s3⟩ := ih (t + 1) kf (va_up arm 41 (upd (arm 41) (shl N (lpt N + 1) t).length (nI (shd (N.getD (lpt N + 1 + t) 0))))) (by omega) (by omega) (fun j hj => by rw [o1 34 (by decide)]; exact h34 j hj) (by omega) (fun j hj => by
          rw [hlen] at hj
          rw [va_up_self, hsn, getD_snoc hj]
          unfold upd
          by_cases e : j = (shl N (lpt N + 1) t).length
          · rw [if_pos e, if_pos e]
          · rw [if_neg e, if_neg e]; exact h41 j (by omega))
        rw [hlen, show t + 1 + m = t + (m + 1) by omega] at s1
        rw [show t + 1 + m = t + (m + 1) by omega] at s2
        exact ⟨arm', s1, s2, o1.tr s3⟩
theorem ms_start {nf : Nat} {fm : FI} {arm : AR} {N : List Nat} {x1 : Int32} (hN : N.length ≤ 255 ∧ ∀ x, x ∈ N → x < 65536) (h1 : 1 ≤ N.length) (hM : MN fm arm N) (hnf : 600 ≤ nf) : ∃ arm', M_shorten nf fm arm x1 = M_shorten_170 nf x1 (nI (bas N).length) (nI (min 3 (ext N).length)) fm arm' ∧ (∀ j, j < (bas N).length → arm' 40 j = nI ((bas N).getD j 0)) ∧ (∀ j, j < min 3 (ext N).length → arm' 41 j = nI ((ext N).getD j 0)) ∧ offAs [40, 41] arm arm' := by
  obtain ⟨l1, l2, l3⟩ := lpz_ok N (N.length - 1)
  have hlp : lpt N < N.length := by unfold lpt; omega
  have hS : sto N ≤ N.length := by unfold sto; split <;> omega
  obtain ⟨arm1, s1, s2, s3⟩ := ms_stem (nf := nf) (x1 := x1) hN hM.1 hlp hS (by omega) (sto N) 0 nf arm (by omega) (by omega) hM.2 (fun j hj => absurd hj (by simp [shl]))
  have e0 : M_shorten nf fm arm x1 = M_shorten_110 nf nf x1 (nI (lpt N)) (nI (bas N).length) 0 (nI (lpt N + 1)) fm arm1 := by
    unfold M_shorten
    rw [hM.1, bnd_eq, show nI N.length - (1 : Int32) = nI (N.length - 1) from nI_sub (b := 1) h1, ms_point hN hM (N.length - 1) nf (by omega) (by omega)]
    exact s1
  by_cases c : lpt N = 0
  · have hE : ext N = [] := by
      unfold ext sto
      rw [if_pos c, show N.length - (N.length + 1) = 0 by omega]; rfl
    refine ⟨arm1, ?_, s2, fun j hj => absurd hj (by rw [hE]; simp), s3.as.mono (by simp)⟩
    rw [e0, hE]
    obtain ⟨kf, hk⟩ : ∃ k, nf = k + 1 := ⟨nf - 1, by omega⟩
    rw [hk, show M_shorten_110 (kf + 1) (kf + 1) = M_shorten_110b (M_shorten_110 (kf + 1) kf) (kf + 1) from rfl]
    unfold M_shorten_110b
    rw [brT (by rw [c]; decide)]; rfl
  · have hst : sto N = lpt N := by unfold sto; rw [if_neg c]
    obtain ⟨arm2, t1, t2, t3⟩ := ms_ext (nf := nf) (x1 := x1) (x3 := nI (bas N).length) hN hM.1 c (fun t t1 t2 => l3 t t1 (by omega)) (by omega) (N.length - (lpt N + 1)) 0 nf arm1 (by omega) (by omega) (fun j hj => by rw [s3 34 (by decide)]; exact hM.2 j hj) (by simp [shl]) (fun j hj => absurd hj (by simp [shl]))
    have hE : shl N (lpt N + 1) (0 + (N.length - (lpt N + 1))) = ext N := by unfold ext; rw [hst, Nat.zero_add]
    rw [hE] at t1 t2
    refine ⟨arm2, ?_, fun j hj => by rw [t3 40 (by decide)]; exact s2 j hj, t2, (s3.as.mono (by simp)).tr (t3.as.mono (by simp))⟩
    rw [e0]; exact t1
