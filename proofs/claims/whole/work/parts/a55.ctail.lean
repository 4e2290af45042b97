/-! make: short names with tails, the class -/
theorem shl_app (N : List Nat) : ∀ m m' i, shl N i (m + m') = shl N i m ++ shl N (i + m) m'
  | 0, m', i => by rw [Nat.zero_add, shl, List.nil_append, Nat.add_zero]
  | m + 1, m', i => by rw [show m + 1 + m' = m + m' + 1 by omega, shl, shl, shl_app N m m' (i + 1), List.append_assoc, show i + 1 + m = i + (m + 1) by omega]
theorem shl_one (N : List Nat) (i : Nat) : shl N i 1 = if shd (N.getD i 0) = 0 then [] else [shd (N.getD i 0)] := by
  rw [shl, shl, List.append_nil]
theorem shortened_eq {nf x : Nat} (hx : x < 65536) (hnf : 20 ≤ nf) : FX5_shortened nf (nI x) = some (nI (shd x)) := by
  unfold FX5_shortened FX5_shortened_12 FX5_shortened_32 shd
  by_cases c1 : x = 32
  · rw [brT (show nI x = (32 : Int32) by rw [c1]; rfl), if_pos (Or.inl c1)]; rfl
  · rw [brF (show ¬ nI x = (32 : Int32) from fun w => c1 ((nI_eq (b := 32) (by omega) (by omega)).mp w))]
    by_cases c2 : x = 46
    · rw [brT (show nI x = (46 : Int32) by rw [c2]; rfl), if_pos (Or.inr c2)]; rfl
    · rw [brF (show ¬ nI x = (46 : Int32) from fun w => c2 ((nI_eq (b := 46) (by omega) (by omega)).mp w)), if_neg (by omega), capital_eq hx, obnd_some, FX5_mayStandInShortName_eq (cap_lt hx) hnf, obnd_some]
      by_cases c3 : sgn (cap x)
      · rw [if_pos c3, if_pos c3, brF (by decide)]
      · rw [if_neg c3, if_neg c3, brT rfl]; rfl
theorem lastPoint_loop {nf : Nat} {ln : LN} {fi : FI} {ar : AR} {N : List Nat} (hl2 : ln 30 = 260) (hN : N.length ≤ 255 ∧ ∀ x, x ∈ N → x < 65536) (hNB : NB fi ar 0 N) : ∀ (q kf : Nat), q < N.length → q + 1 < kf → ∃ r, FX6_lastPoint_7 nf ln 0 kf (nI q) fi ar = some (r, fi, ar) ∧ ((lpz N q ≠ 0 ∧ r = nI (lpz N q)) ∨ (lpz N q = 0 ∧ r ≤ 0)) := by
  intro q
  induction q with
  | zero =>
    intro kf hq hk
    have hu := hN.2 _ (getD_mem hq)
    obtain ⟨kf, rfl⟩ : ∃ k, kf = k + 1 := ⟨kf - 1, by omega⟩
    rw [show FX6_lastPoint_7 nf ln 0 (kf + 1) = FX6_lastPoint_7b (FX6_lastPoint_7 nf ln 0 kf) nf ln 0 from rfl]
    unfold FX6_lastPoint_7b
    rw [brF (nI_pos (by omega)), unit_eq (j := 0) hl2 (by omega) (hNB.2 0 hq), obnd3_some]
    by_cases c : nI (N.getD 0 0) = (46 : Int32)
    · rw [brT c]; exact ⟨_, rfl, Or.inr ⟨rfl, by decide⟩⟩
    · rw [brF c, bnd_eq, show nI 0 + (-1 : Int32) = -1 from by decide]
      obtain ⟨kf, rfl⟩ : ∃ k, kf = k + 1 := ⟨kf - 1, by omega⟩
      rw [show FX6_lastPoint_7 nf ln 0 (kf + 1) = FX6_lastPoint_7b (FX6_lastPoint_7 nf ln 0 kf) nf ln 0 from rfl]
      unfold FX6_lastPoint_7b
      rw [brT (show (-1 : Int32) < 0 from by decide)]
      exact ⟨_, rfl, Or.inr ⟨rfl, by decide⟩⟩
  | succ q ih =>
    intro kf hq hk
    have hu := hN.2 _ (getD_mem hq)
    obtain ⟨kf, rfl⟩ : ∃ k, kf = k + 1 := ⟨kf - 1, by omega⟩
    rw [show FX6_lastPoint_7 nf ln 0 (kf + 1) = FX6_lastPoint_7b (FX6_lastPoint_7 nf ln 0 kf) nf ln 0 from rfl]
    unfold FX6_lastPoint_7b
    rw [brF (nI_pos (by omega)), unit_eq (j := 0) hl2 (by omega) (hNB.2 _ hq), obnd3_some, lpz]
    by_cases c : N.getD (q + 1) 0 = 46
    · rw [brT (show nI (N.getD (q + 1) 0) = (46 : Int32) by rw [c]; rfl), if_pos c]
      exact ⟨_, rfl, Or.inl ⟨by omega, rfl⟩⟩
    · rw [brF (show ¬ nI (N.getD (q + 1) 0) = (46 : Int32) from fun w => c ((nI_eq (b := 46) (by omega) (by omega)).mp w)), if_neg c, bnd_eq, show nI (q + 1) + (-1 : Int32) = nI q from by
        rw [← nI_1, Int32.add_assoc, show (1 : Int32) + -1 = 0 from by decide, Int32.add_zero]]
      exact ih kf (by omega) (by omega)
/-- the name's base so far -/
def bsI (fi : FI) (ar : AR) (P : List Nat) : Prop := fi 70 = nI (min 6 P.length) ∧ ∀ j, j < min 6 P.length → ar 41 j = nI (P.getD j 0)
/-- the extension in the short name so far -/
def exI (ar : AR) (E : List Nat) : Prop := ∀ j, j < 11 → ar 40 j = nI (if j < 8 then 32 else if j - 8 < E.length then E.getD (j - 8) 0 else 32)
theorem bsI.app {fi : FI} {ar : AR} {P Q : List Nat} (h : bsI fi ar P) (h6 : 6 ≤ P.length) : bsI fi ar (P ++ Q) := by
  refine ⟨?_, fun j hj => ?_⟩
  · rw [h.1, List.length_append]; congr 1; omega
  · rw [List.length_append] at hj
    rw [h.2 j (by omega), List.getD_eq_getElem?_getD, List.getD_eq_getElem?_getD, List.getElem?_append_left (by omega)]
theorem long1_loop {nf : Nat} {ln : LN} {N : List Nat} {S : Nat} (hl2 : ln 30 = 260) (hl41 : ln 41 = 6) (hN : N.length ≤ 255 ∧ ∀ x, x ∈ N → x < 65536) (hS : S ≤ N.length) (hnf : 20 ≤ nf) : ∀ (m i kf : Nat) (fi : FI) (ar : AR), i + m = S → m < kf → NB fi ar 0 N → bsI fi ar (shl N 0 i) → ∃ fi' ar', FX7_readLong_35 nf ln 0 0 kf (nI S) (nI i) fi ar = FX7_readLong_96 nf ln 0 0 (nI S) fi' ar' ∧ bsI fi' ar' (shl N 0 S) ∧ offF [70] fi fi' ∧ offA 41 ar ar' := by
  intro m
  induction m with
  | zero =>
    intro i kf fi ar hi hk hNB hb
    obtain ⟨kf, rfl⟩ : ∃ k, kf = k + 1 := ⟨kf - 1, by omega⟩
    rw [show FX7_readLong_35 nf ln 0 0 (kf + 1) = FX7_readLong_35b (FX7_readLong_35 nf ln 0 0 kf) nf ln 0 0 from rfl]
    unfold FX7_readLong_35b
    rw [brT (nI_le (by omega) (by omega))]
    exact ⟨fi, ar, rfl, by rw [show S = i by omega]; exact hb, offF.rf, offA.rf⟩
  | succ m ih =>
    intro i kf fi ar hi hk hNB hb
    have hi2 : i < N.length := by omega
    have hu := hN.2 _ (getD_mem hi2)
    have hj1 : nI i + (1 : Int32) = nI (i + 1) := nI_add i 1
    obtain ⟨kf, rfl⟩ : ∃ k, kf = k + 1 := ⟨kf - 1, by omega⟩
    rw [show FX7_readLong_35 nf ln 0 0 (kf + 1) = FX7_readLong_35b (FX7_readLong_35 nf ln 0 0 kf) nf ln 0 0 from rfl]
    unfold FX7_readLong_35b FX7_readLong_90
    have h70 : fi (70 + 0) = nI (min 6 (shl N 0 i).length) := hb.1
    have e41 : Int32.ofNat (ln (41 + 2 * 0)) = nI 6 := by show nI (ln 41) = nI 6; rw [hl41]
    rw [brF (nI_ge (by omega) (by omega)), e41, h70]
    by_cases c : 6 ≤ (shl N 0 i).length
    · rw [brT (nI_le (by omega) (by omega))]
      refine ⟨fi, ar, rfl, ?_, offF.rf, offA.rf⟩
      have : shl N 0 S = shl N 0 i ++ shl N (0 + i) (S - i) := by rw [← shl_app]; congr 1; omega
      rw [this]; exact hb.app c
    · rw [brF (nI_ge (by omega) (by omega)), unit_eq (j := 0) hl2 (by omega) (hNB.2 i hi2), obnd3_some, shortened_eq hu hnf, obnd_some]
      have hsn : shl N 0 (i + 1) = shl N 0 i ++ (if shd (N.getD i 0) = 0 then [] else [shd (N.getD i 0)]) := by rw [shl_app N i 1 0, Nat.zero_add, shl_one]
      have hsl := shd_lt (N.getD i 0)
      by_cases c2 : shd (N.getD i 0) = 0
      · rw [brT (by rw [c2]; rfl), bnd_eq, hj1]
        rw [if_pos c2, List.append_nil] at hsn
        exact ih (i + 1) kf fi ar (by omega) (by omega) hNB (by rw [hsn]; exact hb)
      · rw [if_neg c2] at hsn
        rw [brF (nI_ne0 (by omega) (by omega)), h70, zgd (by show min 6 (shl N 0 i).length < ln 41; omega) (by omega), nI_clamp (by omega), bnd_eq, bnd_eq, bnd_eq, hj1, show min 6 (shl N 0 i).length = (shl N 0 i).length by omega, show nI (shl N 0 i).length + (1 : Int32) = nI ((shl N 0 i).length + 1) from nI_add _ 1]
        have o1 : offA 41 ar (va_up ar 41 (upd (ar 41) (shl N 0 i).length (nI (shd (N.getD i 0))))) := fun z hz => va_up_off hz
        obtain ⟨fi', ar', s1, s2, s3, s4⟩ := ih (i + 1) kf (va_up fi 70 (nI ((shl N 0 i).length + 1))) (va_up ar 41 (upd (ar 41) (shl N 0 i).length (nI (shd (N.getD i 0))))) (by omega) (by omega) (hNB.off (S := [70]) (T := [41]) (offF.rf.up (by simp)) o1.as (by simp) (by simp)) (by
          rw [hsn]
          refine ⟨?_, fun j hj => ?_⟩
          · rw [va_up_self, List.length_append, List.length_singleton]; congr 1; omega
          · rw [List.length_append, List.length_singleton] at hj
            rw [va_up_self, getD_snoc (by omega)]
            unfold upd
            by_cases e : j = (shl N 0 i).length
            · rw [if_pos e, if_pos e]
            · rw [if_neg e, if_neg e]; exact hb.2 j (by omega))
        exact ⟨fi', ar', s1, s2, (offF.rf.up (by simp)).tr s3, o1.tr s4⟩
theorem long2_loop {nf : Nat} {ln : LN} {fi : FI} {N : List Nat} {S : Nat} (hl2 : ln 30 = 260) (hl40 : ln 40 = 11) (hN : N.length ≤ 255 ∧ ∀ x, x ∈ N → x < 65536) (h60 : fi 60 = nI N.length) (hnf : 20 ≤ nf) : ∀ (m t kf : Nat) (ar : AR), S + t + m = N.length → m < kf → (∀ j, j < N.length → ar 30 j = nI (N.getD j 0)) → (shl N S t).length ≤ 3 → exI ar (shl N S t) → ∃ ar', FX7_readLong_105 nf ln 0 0 kf (nI (8 + (shl N S t).length)) (nI (S + t)) fi ar = some ((), fi, ar') ∧ exI ar' (shl N S (t + m)) ∧ offA 40 ar ar' := by
  intro m
  induction m with
  | zero =>
    intro t kf ar hi hk h30 h3 hE
    obtain ⟨kf, rfl⟩ : ∃ k, kf = k + 1 := ⟨kf - 1, by omega⟩
    rw [show FX7_readLong_105 nf ln 0 0 (kf + 1) = FX7_readLong_105b (FX7_readLong_105 nf ln 0 0 kf) nf ln 0 0 from rfl]
    unfold FX7_readLong_105b FX7_readLong_155
    rw [show fi (60 + 0) = nI N.length from h60, brT (nI_le (by omega) (by omega))]
    exact ⟨ar, rfl, hE, offA.rf⟩
  | succ m ih =>
    intro t kf ar hi hk h30 h3 hE
    have hi2 : S + t < N.length := by omega
    have hu := hN.2 _ (getD_mem hi2)
    have hj1 : nI (S + t) + (1 : Int32) = nI (S + (t + 1)) := nI_add (S + t) 1
    obtain ⟨kf, rfl⟩ : ∃ k, kf = k + 1 := ⟨kf - 1, by omega⟩
    rw [show FX7_readLong_105 nf ln 0 0 (kf + 1) = FX7_readLong_105b (FX7_readLong_105 nf ln 0 0 kf) nf ln 0 0 from rfl]
    unfold FX7_readLong_105b FX7_readLong_149 FX7_readLong_155
    rw [show fi (60 + 0) = nI N.length from h60, brF (nI_ge hi2 (by omega))]
    by_cases c : (shl N S t).length = 3
    · rw [brT (show (11 : Int32) ≤ nI (8 + (shl N S t).length) from nI_le (a := 11) (by omega) (by omega))]
      refine ⟨ar, rfl, fun j hj => ?_, offA.rf⟩
      rw [hE j hj]
      by_cases z : j < 8
      · rw [if_pos z, if_pos z]
      · rw [if_neg z, if_neg z, shl_app N t (m + 1) S, if_pos (by omega), if_pos (by rw [List.length_append]; omega), List.getD_eq_getElem?_getD, List.getD_eq_getElem?_getD, List.getElem?_append_left (by omega)]
    · rw [brF (show ¬ (11 : Int32) ≤ nI (8 + (shl N S t).length) from nI_ge (b := 11) (by omega) (by omega)), unit_eq (j := 0) hl2 (by omega) (h30 _ hi2), obnd3_some, shortened_eq hu hnf, obnd_some]
      have hsn : shl N S (t + 1) = shl N S t ++ (if shd (N.getD (S + t) 0) = 0 then [] else [shd (N.getD (S + t) 0)]) := by rw [shl_app N t 1 S, shl_one]
      have hsl := shd_lt (N.getD (S + t) 0)
      by_cases c2 : shd (N.getD (S + t) 0) = 0
      · rw [if_pos c2, List.append_nil] at hsn
        rw [brT (by rw [c2]; rfl), bnd_eq, hj1, ← hsn, show t + (m + 1) = t + 1 + m by omega]
        exact ih (t + 1) kf ar (by omega) (by omega) h30 (by rw [hsn]; exact h3) (by rw [hsn]; exact hE)
      · rw [if_neg c2] at hsn
        rw [brF (nI_ne0 (by omega) (by omega)), zgd (by show 8 + (shl N S t).length < ln 40; omega) (by omega), nI_clamp (by omega), bnd_eq, bnd_eq, bnd_eq, hj1, show nI (8 + (shl N S t).length) + (1 : Int32) = nI (8 + (shl N S t).length + 1) from nI_add _ 1]
        have o1 : offA 40 ar (va_up ar 40 (upd (ar 40) (8 + (shl N S t).length) (nI (shd (N.getD (S + t) 0))))) := fun z hz => va_up_off hz
        have hlen : (shl N S (t + 1)).length = (shl N S t).length + 1 := by rw [hsn, List.length_append, List.length_singleton]
        obtain ⟨ar', s1, s2, s3⟩ := ih (t + 1) kf (va_up ar 40 (upd (ar 40) (8 + (shl N S t).length) (nI (shd (N.getD (S + t) 0))))) (by omega) (by omega) (fun j hj => by rw [o1 30 (by decide)]; exact h30 j hj) (by omega) (fun j hj => by
          rw [va_up_self, hlen, hsn]
          unfold upd
          by_cases e : j = 8 + (shl N S t).length
          · rw [if_pos e, if_neg (by omega), if_pos (by omega), getD_snoc (by omega), if_pos (by omega)]
          · rw [if_neg e, hE j hj]
            by_cases z : j < 8
            · rw [if_pos z, if_pos z]
            · rw [if_neg z, if_neg z]
              by_cases z2 : j - 8 < (shl N S t).length
              · rw [if_pos z2, if_pos (by omega), getD_snoc (by omega), if_neg (by omega)]
              · rw [if_neg z2, if_neg (by omega)])
        rw [hlen, ← Nat.add_assoc] at s1
        rw [show t + (m + 1) = t + 1 + m by omega]
        exact ⟨ar', s1, s2, o1.tr s3⟩
theorem readLong_ok {nf : Nat} {ln : LN} {fi : FI} {ar : AR} {N : List Nat} (hl2 : ln 30 = 260) (hl40 : ln 40 = 11) (hl41 : ln 41 = 6) (hN : N.length ≤ 255 ∧ ∀ x, x ∈ N → x < 65536) (h1 : 1 ≤ N.length) (hNB : NB fi ar 0 N) (hnf : 600 ≤ nf) : ∃ fi' ar', FX7_readLong nf ln 0 0 fi ar = some ((), fi', ar') ∧ bsI fi' ar' (bas N) ∧ exI ar' (ext N) ∧ offF [70] fi fi' ∧ offAs [40, 41] ar ar' := by
  have hlp := lpz_ok N (N.length - 1)
  have hS : sto N ≤ N.length := by unfold sto lpt; split <;> omega
  have hS0 : sto N < 256 := by omega
  obtain ⟨r, q1, q2⟩ := lastPoint_loop (nf := nf) hl2 hN hNB (N.length - 1) nf (by omega) (by omega)
  have key : FX7_readLong nf ln 0 0 fi ar = FX7_readLong_17 nf ln 0 0 (nI (sto N)) fi ar := by
    unfold FX7_readLong FX6_lastPoint
    rw [show fi (60 + 0) = nI N.length from hNB.1, bnd_eq, show nI N.length - (1 : Int32) = nI (N.length - 1) from nI_sub (b := 1) h1, q1, obnd3_some]
    rcases q2 with ⟨w1, w2⟩ | ⟨w1, w2⟩
    · have e : sto N = lpz N (N.length - 1) := by unfold sto lpt; rw [if_neg w1]
      rw [w2, brF (nI_nle (by omega) (by omega)), e]
    · have e : sto N = N.length := by unfold sto lpt; rw [if_pos w1]
      rw [brT w2, e, show fi (60 + 0) = nI N.length from hNB.1]
  have oA : offA 40 ar (va_up ar 40 (fillN (ar 40) 32 (ln 40))) := fun z hz => va_up_off hz
  have hNB0 : NB (va_up fi 70 0) (va_up ar 40 (fillN (ar 40) 32 (ln 40))) 0 N := hNB.off (S := [70]) (T := [40]) (offF.rf.up (by simp)) oA.as (by simp) (by simp)
  obtain ⟨fi1, ar1, s1, s2, s3, s4⟩ := long1_loop (nf := nf) hl2 hl41 hN hS (by omega) (sto N) 0 nf (va_up fi 70 0) (va_up ar 40 (fillN (ar 40) 32 (ln 40))) (by omega) (by omega) hNB0 ⟨va_up_self _ _ _, fun j hj => absurd hj (by rw [shl]; simp)⟩
  have h60 : fi1 60 = nI N.length := by rw [s3 60 (by simp), va_up_off (by decide)]; exact hNB.1
  have hE0 : exI ar1 (shl N (sto N + 1) 0) := fun j hj => by
    rw [s4 40 (by decide), va_up_self, fillN_eq, if_pos (by omega), shl]
    by_cases z : j < 8
    · rw [if_pos z]; rfl
    · rw [if_neg z, if_neg (by simp)]; rfl
  have fin : ∃ ar2, FX7_readLong_96 nf ln 0 0 (nI (sto N)) fi1 ar1 = some ((), fi1, ar2) ∧ exI ar2 (ext N) ∧ offA 40 ar1 ar2 := by
    unfold FX7_readLong_96
    rw [bnd_eq, show nI (sto N) + (1 : Int32) = nI (sto N + 1) from nI_add _ 1]
    by_cases c : sto N + 1 ≤ N.length
    · obtain ⟨ar2, t1, t2, t3⟩ := long2_loop (nf := nf) (S := sto N + 1) hl2 hl40 hN h60 (by omega) (N.length - (sto N + 1)) 0 nf ar1 (by omega) (by omega) (fun j hj => by rw [s4 30 (by decide)]; exact hNB0.2 j hj) (by simp [shl]) hE0
      rw [Nat.zero_add] at t2
      exact ⟨ar2, t1, t2, t3⟩
    · obtain ⟨kf, hk⟩ : ∃ k, nf = k + 1 := ⟨nf - 1, by omega⟩
      have e0 : N.length - (sto N + 1) = 0 := by omega
      refine ⟨ar1, ?_, by unfold ext; rw [e0]; exact hE0, offA.rf⟩
      rw [hk, show FX7_readLong_105 (kf + 1) ln 0 0 (kf + 1) = FX7_readLong_105b (FX7_readLong_105 (kf + 1) ln 0 0 kf) (kf + 1) ln 0 0 from rfl]
      unfold FX7_readLong_105b FX7_readLong_155
      rw [show fi1 (60 + 0) = nI N.length from h60, brT (nI_le (by omega) (by omega))]
  obtain ⟨ar2, t1, t2, t3⟩ := fin
  refine ⟨fi1, ar2, ?_, ⟨s2.1, fun j hj => by rw [t3 41 (by decide)]; exact s2.2 j hj⟩, t2, (offF.rf.up (by simp)).tr s3, ((oA.as.mono (by simp)).tr (s4.as.mono (by simp))).tr (t3.as.mono (by simp))⟩
  rw [key]
  unfold FX7_readLong_17
  rw [gdT (by show ln 40 < 2 ^ 31; omega), bnd_eq, bnd_eq]
  exact s1.trans t1
