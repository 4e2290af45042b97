/-! make: a name that is a short name as shown -/
/-- the first point of a name, or its length -/
def fpt (N : List Nat) : Nat := zl (fun q => if N.getD q 0 = 46 then 0 else 1) N.length 0
abbrev brOK (N : List Nat) : Prop := fpt N ≠ 0 ∧ fpt N ≤ 8 ∧ N.length - fpt N ≤ 4 ∧ (fpt N < N.length → 2 ≤ N.length - fpt N) ∧ ∀ q, q < N.length → q ≠ fpt N → sgn (N.getD q 0)
/-- the short name's bytes, so far as the units before i tell -/
def brP (N : List Nat) (i j : Nat) : Nat := if j < 8 then (if j < i ∧ j < fpt N then N.getD j 0 else 32) else (if fpt N + 1 + (j - 8) < i then N.getD (fpt N + 1 + (j - 8)) 0 else 32)
def brB (N : List Nat) (j : Nat) : Nat := brP N N.length j
theorem fpt_le (N : List Nat) : fpt N ≤ N.length := by
  have := zl_le (fun q => if N.getD q 0 = 46 then 0 else 1) N.length 0
  unfold fpt; omega
theorem fpt_ne {N : List Nat} {q : Nat} (h : q < fpt N) : N.getD q 0 ≠ 46 := fun e => by
  have := zl_ne (fun q => if N.getD q 0 = 46 then 0 else 1) N.length 0 q (Nat.zero_le _) h
  exact this (if_pos e)
theorem fpt_eq {N : List Nat} (h : fpt N < N.length) : N.getD (fpt N) 0 = 46 := by
  have := zl_end (fun q => if N.getD q 0 = 46 then 0 else 1) N.length 0 (by show fpt N < 0 + N.length; omega)
  apply Decidable.byContradiction
  intro e
  have h2 : (if N.getD (fpt N) 0 = 46 then 0 else 1) = 0 := this
  rw [if_neg e] at h2
  exact absurd h2 (by decide)
theorem sgn46 : ¬ sgn 46 := by decide
theorem brP_lt {N : List Nat} (hN : ∀ x, x ∈ N → x < 65536) (i j : Nat) (hi : i ≤ N.length) : brP N i j < 65536 := by
  unfold brP
  split
  · split
    · rename_i h; exact hN _ (getD_mem (by omega))
    · omega
  · split
    · rename_i h; exact hN _ (getD_mem (by omega))
    · omega
/-- what the units before i must be -/
def brQ (N : List Nat) (i : Nat) : Prop := ∀ q, q < i → (q < fpt N → q < 8 ∧ sgn (N.getD q 0)) ∧ (q = fpt N → 0 < fpt N) ∧ (fpt N < q → q - fpt N - 1 < 3 ∧ sgn (N.getD q 0))
theorem shown_end {N : List Nat} (h : brQ N N.length) : brOK N ↔ (0 < fpt N ∧ (fpt N < N.length → 2 ≤ N.length - fpt N)) := by
  have hle := fpt_le N
  constructor
  · intro w; exact ⟨by have := w.1; omega, w.2.2.2.1⟩
  · rintro ⟨w1, w2⟩
    refine ⟨by omega, ?_, ?_, w2, fun q hq hne => ?_⟩
    · have := (h (fpt N - 1) (by omega)).1 (by omega); omega
    · by_cases c : fpt N + 1 < N.length
      · have := (h (N.length - 1) (by omega)).2.2 (by omega); omega
      · omega
    · by_cases c : q < fpt N
      · exact ((h q hq).1 c).2
      · exact ((h q hq).2.2 (by omega)).2
theorem readShown_loop {nf : Nat} {ln : LN} {fi : FI} {N : List Nat} (hl : ln 40 = 11) (hl2 : ln 30 = 260) (hN : N.length ≤ 255 ∧ ∀ x, x ∈ N → x < 65536) (h60 : fi 60 = nI N.length) (hnf : 600 ≤ nf) : ∀ (m i kf : Nat) (ar : AR), i + m = N.length → m < kf → (∀ j, j < N.length → ar 30 j = nI (N.getD j 0)) → brQ N i → (∀ j, j < 11 → ar 40 j = nI (brP N i j)) → ∃ r ar', FX7_readShown_17 nf ln 0 0 kf (nI (if i ≤ fpt N then i else 8 + (i - fpt N - 1))) (nI (if i ≤ fpt N then 8 else 11)) (nI i) fi ar = some (r, fi, ar') ∧ offA 40 ar ar' ∧ ((r = 1 ∧ brOK N ∧ ∀ j, j < 11 → ar' 40 j = nI (brB N j)) ∨ (r = 0 ∧ ¬ brOK N)) := by
  have hfl := fpt_le N
  intro m
  induction m with
  | zero =>
    intro i kf ar hi hk h30 hQ h40
    have e : i = N.length := by omega
    subst e
    obtain ⟨kf, rfl⟩ : ∃ k, kf = k + 1 := ⟨kf - 1, by omega⟩
    rw [show FX7_readShown_17 nf ln 0 0 (kf + 1) = FX7_readShown_17b (FX7_readShown_17 nf ln 0 0 kf) nf ln 0 0 from rfl]
    unfold FX7_readShown_17b FX7_readShown_115 FX7_readShown_111 FX7_readShown_116
    have hend := shown_end hQ
    rw [show fi (60 + 0) = nI N.length from h60, brT (nI_le (Nat.le_refl _) (by omega))]
    by_cases c : N.length ≤ fpt N
    · rw [if_pos c, if_pos c]
      by_cases c0 : N.length = 0
      · rw [brT (by rw [c0]; decide), gdT (by decide)]
        exact ⟨0, ar, rfl, offA.rf, Or.inr ⟨rfl, fun w => by have := (hend.mp w).1; omega⟩⟩
      · rw [brF (nI_nle (by omega) (by omega)), brT (show nI 8 = (8 : Int32) from rfl), gdT (by decide)]
        exact ⟨1, ar, rfl, offA.rf, Or.inl ⟨rfl, hend.mpr ⟨by omega, fun w => by omega⟩, h40⟩⟩
    · rw [if_neg c, if_neg c, brF (nI_nle (by omega) (by omega)), brF (show ¬ nI 11 = (8 : Int32) by decide)]
      have hpos := (hQ (fpt N) (by omega)).2.1 rfl
      by_cases c1 : N.length - fpt N - 1 = 0
      · rw [brT (show nI (8 + (N.length - fpt N - 1)) ≤ (8 : Int32) from nI_le (b := 8) (by omega) (by omega)), gdT (by decide)]
        exact ⟨0, ar, rfl, offA.rf, Or.inr ⟨rfl, fun w => by have := (hend.mp w).2 (by omega); omega⟩⟩
      · rw [brF (show ¬ nI (8 + (N.length - fpt N - 1)) ≤ (8 : Int32) from nI_ge (a := 8) (by omega) (by omega)), gdT (by decide)]
        exact ⟨1, ar, rfl, offA.rf, Or.inl ⟨rfl, hend.mpr ⟨hpos, fun w => by omega⟩, h40⟩⟩
  | succ m ih =>
    intro i kf ar hi hk h30 hQ h40
    have hi2 : i < N.length := by omega
    have hu := hN.2 _ (getD_mem hi2)
    have hl40 : ln (40 + 2 * 0) = 11 := hl
    obtain ⟨kf, rfl⟩ : ∃ k, kf = k + 1 := ⟨kf - 1, by omega⟩
    rw [show FX7_readShown_17 nf ln 0 0 (kf + 1) = FX7_readShown_17b (FX7_readShown_17 nf ln 0 0 kf) nf ln 0 0 from rfl]
    unfold FX7_readShown_17b FX7_readShown_60 FX7_readShown_87 FX7_readShown_89
    have hj1 : nI i + (1 : Int32) = nI (i + 1) := nI_add i 1
    -- a unit that is stored at place a
    have store : ∀ a, a < 11 → (∀ j, j < 11 → j ≠ a → brP N (i + 1) j = brP N i j) → brP N (i + 1) a = N.getD i 0 → brQ N (i + 1) → a + 1 = (if i + 1 ≤ fpt N then i + 1 else 8 + (i + 1 - fpt N - 1)) → ∃ r ar', gd (¬ (nI a < 0 ∨ ln (40 + 2 * 0) ≤ (nI a).toNatClampNeg)) (bnd (va_up ar (40 + 2 * 0) (upd (ar (40 + 2 * 0)) (nI a).toNatClampNeg (nI (N.getD i 0)))) fun ar8 => bnd (nI a + 1) fun x2_9 => bnd (nI i + 1) fun x4_2 => FX7_readShown_17 nf ln 0 0 kf x2_9 (nI (if i + 1 ≤ fpt N then 8 else 11)) x4_2 fi ar8) = some (r, fi, ar') ∧ offA 40 ar ar' ∧ ((r = 1 ∧ brOK N ∧ ∀ j, j < 11 → ar' 40 j = nI (brB N j)) ∨ (r = 0 ∧ ¬ brOK N)) := fun a ha g1 g2 g3 g4 => by
      have o1 : offA 40 ar (va_up ar 40 (upd (ar 40) a (nI (N.getD i 0)))) := fun z hz => va_up_off hz
      obtain ⟨r, ar', s1, s2, s3⟩ := ih (i + 1) kf (va_up ar 40 (upd (ar 40) a (nI (N.getD i 0)))) (by omega) (by omega) (fun j hj => by rw [o1 30 (by decide)]; exact h30 j hj) g3 (fun j hj => by
        rw [va_up_self]
        unfold upd
        by_cases c : j = a
        · rw [if_pos c, c, g2]
        · rw [if_neg c, g1 j hj c]; exact h40 j hj)
      refine ⟨r, ar', ?_, o1.tr s2, s3⟩
      rw [zgd (by omega) (by omega), nI_clamp (by omega), bnd_eq, bnd_eq, bnd_eq, hj1, show nI a + (1 : Int32) = nI (a + 1) from nI_add a 1, g4]
      exact s1
    have h60' : fi (60 + 0) = nI N.length := h60
    rw [h60', brF (nI_ge hi2 (by omega)), unit_eq (j := 0) hl2 (by omega) (h30 i hi2), obnd3_some]
    have eqS : ∀ c : Nat, c < 65536 → (nI (N.getD i 0) = nI c ↔ N.getD i 0 = c) := fun c hc => nI_eq (by omega) (by omega)
    by_cases c1 : i < fpt N
    · -- before the point
      have hne : ¬ nI (N.getD i 0) = (46 : Int32) := fun w => fpt_ne c1 ((eqS 46 (by omega)).mp w)
      rw [if_pos (show i ≤ fpt N by omega), if_pos (show i ≤ fpt N by omega), brF hne]
      by_cases c2 : 8 ≤ i
      · rw [brT (nI_le c2 (by omega))]
        exact ⟨0, ar, rfl, offA.rf, Or.inr ⟨rfl, fun w => by have := w.2.1; omega⟩⟩
      · rw [brF (nI_ge (by omega) (by omega)), FX5_mayStandInShortName_eq hu (by omega), obnd_some]
        by_cases c3 : sgn (N.getD i 0)
        · rw [if_pos c3, brF (by decide)]
          have := store i (by omega) (fun j hj hne => by
            unfold brP
            by_cases z : j < 8
            · rw [if_pos z, if_pos z]
              by_cases z2 : j < i ∧ j < fpt N
              · rw [if_pos z2, if_pos ⟨by omega, z2.2⟩]
              · rw [if_neg z2, if_neg (fun w => z2 ⟨by omega, w.2⟩)]
            · rw [if_neg z, if_neg z, if_neg (by omega), if_neg (by omega)]) (by
            unfold brP
            rw [if_pos (by omega), if_pos ⟨by omega, c1⟩]) (fun q hq => by
            by_cases z : q = i
            · rw [z]; exact ⟨fun _ => ⟨by omega, c3⟩, fun w => by omega, fun w => by omega⟩
            · exact hQ q (by omega)) (by rw [if_pos (by omega)])
          rw [if_pos (show i + 1 ≤ fpt N by omega)] at this
          exact this
        · rw [if_neg c3, brT rfl]
          exact ⟨0, ar, rfl, offA.rf, Or.inr ⟨rfl, fun w => c3 (w.2.2.2.2 i hi2 (by omega))⟩⟩
    · by_cases c2 : i = fpt N
      · -- the point
        have h46 : N.getD i 0 = 46 := by rw [c2]; exact fpt_eq (by omega)
        have e46 : nI (N.getD i 0) = (46 : Int32) := by rw [h46]; rfl
        rw [if_pos (show i ≤ fpt N by omega), if_pos (show i ≤ fpt N by omega), brT e46]
        by_cases c3 : i = 0
        · rw [brT (by rw [c3]; decide), brF (show ¬ nI 8 ≤ nI i from nI_ge (by omega) (by omega)), FX5_mayStandInShortName_eq hu (by omega), obnd_some, if_neg (by rw [h46]; exact sgn46), brT rfl]
          exact ⟨0, ar, rfl, offA.rf, Or.inr ⟨rfl, fun w => w.1 (by omega)⟩⟩
        · rw [brF (nI_nle (by omega) (by omega)), brT (show nI 8 = (8 : Int32) from rfl), bnd_eq, hj1]
          obtain ⟨r, ar', s1, s2, s3⟩ := ih (i + 1) kf ar (by omega) (by omega) h30 (fun q hq => by
            by_cases z : q = i
            · rw [z]; exact ⟨fun w => by omega, fun _ => by omega, fun w => by omega⟩
            · exact hQ q (by omega)) (fun j hj => by
            rw [h40 j hj]
            unfold brP
            by_cases z : j < 8
            · rw [if_pos z, if_pos z]
              by_cases z2 : j < i ∧ j < fpt N
              · rw [if_pos z2, if_pos ⟨by omega, z2.2⟩]
              · rw [if_neg z2, if_neg (fun w => z2 ⟨by omega, w.2⟩)]
            · rw [if_neg z, if_neg z, if_neg (by omega), if_neg (by omega)])
          rw [if_neg (show ¬ i + 1 ≤ fpt N by omega), if_neg (show ¬ i + 1 ≤ fpt N by omega), show 8 + (i + 1 - fpt N - 1) = 8 by omega] at s1
          exact ⟨r, ar', s1, s2, s3⟩
      · -- behind it
        have hs : ∀ X : Option (Int32 × FI × AR), br (nI (N.getD i 0) = 46) (br (nI (8 + (i - fpt N - 1)) ≤ 0) X (br (nI 11 = 8) (bnd (nI i + 1) fun x4_2 => FX7_readShown_17 nf ln 0 0 kf 8 11 x4_2 fi ar) X)) X = X := fun X => by
          by_cases z : nI (N.getD i 0) = (46 : Int32)
          · rw [brT z, brF (nI_nle (by omega) (by omega)), brF (by decide)]
          · rw [brF z]
        rw [if_neg (show ¬ i ≤ fpt N by omega), if_neg (show ¬ i ≤ fpt N by omega), hs]
        by_cases c3 : 3 ≤ i - fpt N - 1
        · rw [brT (nI_le (by omega) (by omega))]
          exact ⟨0, ar, rfl, offA.rf, Or.inr ⟨rfl, fun w => by have := w.2.2.1; omega⟩⟩
        · rw [brF (nI_ge (by omega) (by omega)), FX5_mayStandInShortName_eq hu (by omega), obnd_some]
          by_cases c4 : sgn (N.getD i 0)
          · rw [if_pos c4, brF (by decide)]
            have := store (8 + (i - fpt N - 1)) (by omega) (fun j hj hne => by
              unfold brP
              by_cases z : j < 8
              · rw [if_pos z, if_pos z]
                by_cases z2 : j < i ∧ j < fpt N
                · rw [if_pos z2, if_pos ⟨by omega, z2.2⟩]
                · rw [if_neg z2, if_neg (fun w => z2 ⟨by omega, w.2⟩)]
              · rw [if_neg z, if_neg z]
                by_cases z2 : fpt N + 1 + (j - 8) < i
                · rw [if_pos z2, if_pos (by omega)]
                · rw [if_neg z2, if_neg (by omega)]) (by
              unfold brP
              rw [if_neg (by omega), if_pos (by omega), show fpt N + 1 + (8 + (i - fpt N - 1) - 8) = i by omega]) (fun q hq => by
              by_cases z : q = i
              · rw [z]; exact ⟨fun w => by omega, fun w => by omega, fun _ => ⟨by omega, c4⟩⟩
              · exact hQ q (by omega)) (by rw [if_neg (by omega)]; omega)
            rw [if_neg (show ¬ i + 1 ≤ fpt N by omega)] at this
            exact this
          · rw [if_neg c4, brT rfl]
            exact ⟨0, ar, rfl, offA.rf, Or.inr ⟨rfl, fun w => c4 (w.2.2.2.2 i hi2 (by omega))⟩⟩
theorem readShown_ok {nf : Nat} {ln : LN} {fi : FI} {ar : AR} {N : List Nat} (hl : ln 40 = 11) (hl2 : ln 30 = 260) (hN : N.length ≤ 255 ∧ ∀ x, x ∈ N → x < 65536) (hNB : NB fi ar 0 N) (hnf : 600 ≤ nf) : ∃ r ar', FX7_readShown nf ln 0 0 fi ar = some (r, fi, ar') ∧ offA 40 ar ar' ∧ ((r = 1 ∧ brOK N ∧ ∀ j, j < 11 → ar' 40 j = nI (brB N j)) ∨ (r = 0 ∧ ¬ brOK N)) := by
  have o1 : offA 40 ar (va_up ar 40 (fillN (ar 40) 32 (ln 40))) := fun z hz => va_up_off hz
  obtain ⟨r, ar', s1, s2, s3⟩ := readShown_loop (nf := nf) (ln := ln) hl hl2 hN hNB.1 hnf N.length 0 nf (va_up ar 40 (fillN (ar 40) 32 (ln 40))) (by omega) (by omega) (fun j hj => by rw [o1 30 (by decide)]; exact hNB.2 j hj) (fun q hq => absurd hq (by omega)) (fun j hj => by
    rw [va_up_self, fillN_eq, if_pos (by omega)]
    unfold brP
    split
    · rw [if_neg (by omega)]; rfl
    · rw [if_neg (by omega)]; rfl)
  rw [if_pos (Nat.zero_le _), if_pos (Nat.zero_le _)] at s1
  refine ⟨r, ar', ?_, o1.tr s2, s3⟩
  unfold FX7_readShown
  rw [gdT (by show ln 40 < 2 ^ 31; omega), bnd_eq]
  exact s1
