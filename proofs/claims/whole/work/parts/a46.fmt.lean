/-! format: the label, the least table -/
def pb (f : Nat → Nat) (p : Nat) : Nat → Nat → (Nat → Nat) → (Nat → Nat)
  | _, 0, d => d
  | j, m + 1, d => pb f p (j + 1) m (wr d (p + j) 1 (f j))
theorem pb_lt {f : Nat → Nat} {p : Nat} : ∀ (m j : Nat) (d : Nat → Nat), (∀ q, d q < 256) → ∀ q, pb f p j m d q < 256
  | 0, _, _, h, q => h q
  | m + 1, j, d, h, q => pb_lt m (j + 1) _ (fun q => wr_lt h _ _ _ q) q
theorem pb_out {f : Nat → Nat} {p q : Nat} : ∀ (m j : Nat) (d : Nat → Nat), (q < p + j ∨ p + j + m ≤ q) → pb f p j m d q = d q
  | 0, _, _, _ => rfl
  | m + 1, j, d, h => by rw [pb, pb_out m (j + 1) _ (by omega), wr_out (by omega)]
theorem pb_in {f : Nat → Nat} {p i : Nat} : ∀ (m j : Nat) (d : Nat → Nat), j ≤ i → i < j + m → pb f p j m d (p + i) = f i % 256
  | 0, _, _, h1, h2 => absurd h2 (by omega)
  | m + 1, j, d, h1, h2 => by
    rw [pb]
    by_cases c : i = j
    · rw [pb_out m (j + 1) _ (by omega), wr_in (by omega) (by omega), c, Nat.sub_self, Nat.pow_zero, Nat.div_one]
    · exact pb_in m (j + 1) _ (by omega) (by omega)
theorem store_loop {nf : Nat} {ln : LN} {fi : FI} {i0 p : Nat} {f : Nat → Nat} (hl : ln (40 + 2 * i0) = 11) (hp : p + 11 ≤ 4 * ln 0) (h0 : ln 0 < 2 ^ 18) : ∀ (m j kf : Nat) (ar : AR) (d : Nat → Nat), j + m = 11 → m < kf → CD ln ar d → (∀ i, i < 11 → uv (ar (40 + 2 * i0) i) % 256 = f i % 256) → ∃ ar', FX7_store_2 nf ln i0 kf (nI p) (nI j) fi ar = some ((), fi, ar') ∧ CD ln ar' (pb f p j m d) ∧ offA 0 ar ar' := by
  intro m
  induction m with
  | zero =>
    intro j kf ar d hj hk hC hf
    obtain ⟨kf, rfl⟩ : ∃ k, kf = k + 1 := ⟨kf - 1, by omega⟩
    rw [show FX7_store_2 nf ln i0 (kf + 1) = FX7_store_2b (FX7_store_2 nf ln i0 kf) nf ln i0 from rfl]
    unfold FX7_store_2b
    rw [brT (show (11 : Int32) ≤ nI j from nI_le (a := 11) (by omega) (by omega))]
    exact ⟨ar, rfl, hC, offA.rf⟩
  | succ m ih =>
    intro j kf ar d hj hk hC hf
    obtain ⟨kf, rfl⟩ : ∃ k, kf = k + 1 := ⟨kf - 1, by omega⟩
    rw [show FX7_store_2 nf ln i0 (kf + 1) = FX7_store_2b (FX7_store_2 nf ln i0 kf) nf ln i0 from rfl]
    unfold FX7_store_2b
    obtain ⟨ar1, r1, r2, r3⟩ := FX3_putOne_ok (nf := nf) (fi := fi) hC (p := p + j) (ar (40 + 2 * i0) j) (by omega)
    rw [wr_b (hf j (by omega))] at r2
    rw [brF (show ¬ (11 : Int32) ≤ nI j from nI_ge (b := 11) (by omega) (by omega)), zgd (by omega) (by omega), nI_clamp (by omega), nI_add, r1, obnd3_some, bnd_eq, show nI j + (1 : Int32) = nI (j + 1) from nI_add j 1]
    obtain ⟨ar', s1, s2, s3⟩ := ih (j + 1) kf ar1 _ (by omega) (by omega) r2 (fun i hi => by rw [r3 _ (by omega)]; exact hf i hi)
    exact ⟨ar', s1, s2, r3.tr s3⟩
theorem store_ok {nf : Nat} {ln : LN} {fi : FI} {ar : AR} {d : Nat → Nat} {i0 p : Nat} {f : Nat → Nat} (hC : CD ln ar d) (hl : ln (40 + 2 * i0) = 11) (hp : p + 11 ≤ 4 * ln 0) (hf : ∀ i, i < 11 → uv (ar (40 + 2 * i0) i) % 256 = f i % 256) (hnf : 20 ≤ nf) : ∃ ar', FX7_store nf ln i0 fi ar (nI p) = some ((), fi, ar') ∧ CD ln ar' (pb f p 0 11 d) ∧ offA 0 ar ar' :=
  store_loop hl hp hC.1 11 0 nf ar d (by omega) (by omega) hC hf
theorem fillN_eq (f : Nat → Int32) (v : Int32) : ∀ k j, fillN f v k j = if j < k then v else f j
  | 0, j => by rw [fillN, if_neg (by omega)]
  | k + 1, j => by
    rw [fillN]
    unfold upd
    by_cases c : j = k
    · rw [if_pos c, if_pos (by omega)]
    · rw [if_neg c, fillN_eq f v k j]
      by_cases e : j < k
      · rw [if_pos e, if_pos (by omega)]
      · rw [if_neg e, if_neg (by omega)]
/-- a sign of the tape -/
def tby (ar : AR) (j : Nat) : Nat := uv (ar 1 j) % 256
theorem tby_lt {ar : AR} {j : Nat} : tby ar j < 256 := Nat.mod_lt _ (by decide)
theorem at_eq {nf : Nat} {ln : LN} {fi : FI} {ar : AR} {j : Nat} (hl : ln 1 = 4096) (hj : j < 4096) : FX8_at nf ln fi ar (nI j) = some (nI (tby ar j), fi, ar) := by
  unfold FX8_at FX8_at_25
  rw [brF (nI_pos (by omega)), brT (show nI j < (4096 : Int32) from nI_lt (b := 4096) hj (by omega)), zgd (by omega) (by omega), nI_clamp (by omega)]
  have : ar 1 j &&& (255 : Int32) = nI (uv (ar 1 j) % 2 ^ 8) := pk_and _ 8 (by decide)
  rw [this]; rfl
def labC (ar : AR) (j : Nat) : Prop := tby ar j = 32 ∨ sgn (tby ar j)
/-- what may stand at place j of a label -/
def labK (ar : AR) (j : Nat) : Prop := (tby ar j = 32 ∧ j ≠ 0) ∨ (tby ar j ≠ 32 ∧ sgn (tby ar j))
/-- the label's 11 bytes -/
def labB (ar : AR) (T j : Nat) : Nat := if j < T then tby ar j else 32
theorem label_loop {nf : Nat} {ln : LN} {fi : FI} {T : Nat} (hT : T ≤ 11) (hl : ln 1 = 4096) (hl2 : ln 40 = 11) (hnf : 20 ≤ nf) : ∀ (m j kf : Nat) (ar : AR), j + m = T → m < kf → (∀ i, i < 11 → ar 40 i = nI (if i < j then tby ar i else 32)) → ∃ r ar', FX7_readLabel_33 nf ln 0 kf (nI T) (nI j) fi ar = some (r, fi, ar') ∧ offA 40 ar ar' ∧ ((r = 1 ∧ (∀ i, j ≤ i → i < T → labC ar i) ∧ ∀ i, i < 11 → ar' 40 i = nI (labB ar T i)) ∨ (r = 0 ∧ ∃ i, i < T ∧ ¬ labC ar i)) := by
  intro m
  induction m with
  | zero =>
    intro j kf ar hj hk ha
    obtain ⟨kf, rfl⟩ : ∃ k, kf = k + 1 := ⟨kf - 1, by omega⟩
    rw [show FX7_readLabel_33 nf ln 0 (kf + 1) = FX7_readLabel_33b (FX7_readLabel_33 nf ln 0 kf) nf ln 0 from rfl]
    unfold FX7_readLabel_33b
    rw [brT (nI_le (by omega) (by omega))]
    refine ⟨1, ar, rfl, offA.rf, Or.inl ⟨rfl, fun i h1 h2 => absurd h2 (by omega), fun i hi => ?_⟩⟩
    rw [ha i hi]; unfold labB; rw [show j = T by omega]
  | succ m ih =>
    intro j kf ar hj hk ha
    have hb := tby_lt (ar := ar) (j := j)
    obtain ⟨kf, rfl⟩ : ∃ k, kf = k + 1 := ⟨kf - 1, by omega⟩
    rw [show FX7_readLabel_33 nf ln 0 (kf + 1) = FX7_readLabel_33b (FX7_readLabel_33 nf ln 0 kf) nf ln 0 from rfl]
    unfold FX7_readLabel_33b FX7_readLabel_62
    rw [brF (nI_ge (by omega) (by omega)), at_eq hl (by omega), obnd3_some]
    have o1 : offA 40 ar (va_up ar 40 (upd (ar 40) j (nI (tby ar j)))) := fun z hz => va_up_off hz
    have htb : ∀ i, tby (va_up ar 40 (upd (ar 40) j (nI (tby ar j)))) i = tby ar i := fun i => congrArg (fun g : Nat → Int32 => uv (g i) % 256) (o1 1 (by decide))
    have go : labC ar j → ∃ r ar', gd (¬ (nI j < 0 ∨ ln (40 + 2 * 0) ≤ (nI j).toNatClampNeg)) (bnd (va_up ar (40 + 2 * 0) (upd (ar (40 + 2 * 0)) (nI j).toNatClampNeg (nI (tby ar j)))) fun ar2 => bnd (nI j + 1) fun x3_3 => FX7_readLabel_33 nf ln 0 kf (nI T) x3_3 fi ar2) = some (r, fi, ar') ∧ offA 40 ar ar' ∧ ((r = 1 ∧ (∀ i, j ≤ i → i < T → labC ar i) ∧ ∀ i, i < 11 → ar' 40 i = nI (labB ar T i)) ∨ (r = 0 ∧ ∃ i, i < T ∧ ¬ labC ar i)) := fun hc => by
      obtain ⟨r, ar', s1, s2, s3⟩ := ih (j + 1) kf (va_up ar 40 (upd (ar 40) j (nI (tby ar j)))) (by omega) (by omega) (fun i hi => by
        rw [va_up_self, htb]
        unfold upd
        by_cases e : i = j
        · rw [if_pos e, if_pos (by omega), e]
        · rw [if_neg e, ha i hi]
          by_cases e2 : i < j
          · rw [if_pos e2, if_pos (by omega)]
          · rw [if_neg e2, if_neg (by omega)])
      refine ⟨r, ar', ?_, o1.tr s2, ?_⟩
      · rw [zgd (by show j < ln 40; omega) (by omega), nI_clamp (by omega), bnd_eq, bnd_eq, show nI j + (1 : Int32) = nI (j + 1) from nI_add j 1]; exact s1
      · unfold labC labB at s3 ⊢
        simp only [htb] at s3
        rcases s3 with ⟨w1, w2, w3⟩ | ⟨w1, i, w2, w3⟩
        · refine Or.inl ⟨w1, fun i h1 h2 => ?_, w3⟩
          by_cases e : i = j
          · rw [e]; exact hc
          · exact w2 i (by omega) h2
        · exact Or.inr ⟨w1, i, w2, w3⟩
    by_cases c : tby ar j = 32
    · rw [brT (show nI (tby ar j) = 32 by rw [c]; rfl)]
      exact go (Or.inl c)
    · rw [brF (show ¬ nI (tby ar j) = (32 : Int32) from fun w => c ((nI_eq (b := 32) (by omega) (by omega)).mp w)), FX5_mayStandInShortName_eq (by omega) hnf, obnd_some]
      by_cases c2 : sgn (tby ar j)
      · rw [if_pos c2, brF (by decide)]
        exact go (Or.inr c2)
      · rw [if_neg c2, brT rfl]
        exact ⟨0, ar, rfl, offA.rf, Or.inr ⟨rfl, j, by omega, fun w => w.elim c c2⟩⟩
theorem readLabel_ok {nf : Nat} {ln : LN} {fi : FI} {ar : AR} {T : Nat} (hT : T ≤ 4096) (hl : ln 1 = 4096) (hl2 : ln 40 = 11) (hnf : 20 ≤ nf) : ∃ r ar', FX7_readLabel nf ln 0 fi ar (nI T) = some (r, fi, ar') ∧ offA 40 ar ar' ∧ ((r = 1 ∧ T ≤ 11 ∧ (∀ i, i < T → labK ar i) ∧ ∀ i, i < 11 → ar' 40 i = nI (labB ar T i)) ∨ (r = 0 ∧ ¬ (T ≤ 11 ∧ ∀ i, i < T → labK ar i))) := by
  unfold FX7_readLabel FX7_readLabel_20
  by_cases c : 11 < T
  · rw [brT (show (11 : Int32) < nI T from nI_lt (a := 11) c (by omega))]
    exact ⟨0, ar, rfl, offA.rf, Or.inr ⟨rfl, fun w => by omega⟩⟩
  · rw [brF (show ¬ (11 : Int32) < nI T from nI_nlt (b := T) (a := 11) (by omega) (by omega))]
    have key : (T = 0 ∨ tby ar 0 ≠ 32) → ∃ r ar', FX7_readLabel_22 nf ln 0 (nI T) fi ar = some (r, fi, ar') ∧ offA 40 ar ar' ∧ ((r = 1 ∧ T ≤ 11 ∧ (∀ i, i < T → labK ar i) ∧ ∀ i, i < 11 → ar' 40 i = nI (labB ar T i)) ∨ (r = 0 ∧ ¬ (T ≤ 11 ∧ ∀ i, i < T → labK ar i))) := fun h0 => by
      unfold FX7_readLabel_22
      have o1 : offA 40 ar (va_up ar 40 (fillN (ar 40) 32 (ln 40))) := fun z hz => va_up_off hz
      have htb : ∀ i, tby (va_up ar 40 (fillN (ar 40) 32 (ln 40))) i = tby ar i := fun i => congrArg (fun g : Nat → Int32 => uv (g i) % 256) (o1 1 (by decide))
      obtain ⟨r, ar', s1, s2, s3⟩ := label_loop (nf := nf) (fi := fi) (T := T) (by omega) hl hl2 hnf T 0 nf (va_up ar 40 (fillN (ar 40) 32 (ln 40))) (by omega) (by omega) (fun i hi => by rw [va_up_self, fillN_eq, if_pos (by omega), if_neg (by omega)]; rfl)
      refine ⟨r, ar', ?_, o1.tr s2, ?_⟩
      · rw [gdT (by show ln 40 < 2 ^ 31; omega), bnd_eq]; exact s1
      · unfold labC labB at s3
        unfold labK labB
        simp only [htb] at s3
        rcases s3 with ⟨w1, w2, w3⟩ | ⟨w1, i, w2, w3⟩
        · refine Or.inl ⟨w1, by omega, fun i hi => ?_, w3⟩
          by_cases e : tby ar i = 32
          · exact Or.inl ⟨e, fun z => by rw [z] at e hi; exact h0.elim (fun q => by omega) (fun q => q e)⟩
          · exact Or.inr ⟨e, (w2 i (by omega) hi).resolve_left e⟩
        · exact Or.inr ⟨w1, fun z => w3 ((z.2 i w2).elim (fun q => Or.inl q.1) (fun q => Or.inr q.2))⟩
    by_cases c0 : T = 0
    · rw [brT (show nI T ≤ 0 by rw [c0]; decide)]
      exact key (Or.inl c0)
    · rw [brF (nI_nle (by omega) (by omega)), show (0 : Int32) = nI 0 from rfl, at_eq hl (by omega), obnd3_some]
      have hb := tby_lt (ar := ar) (j := 0)
      by_cases c1 : tby ar 0 = 32
      · rw [brT (show nI (tby ar 0) = 32 by rw [c1]; rfl)]
        refine ⟨0, ar, rfl, offA.rf, Or.inr ⟨rfl, fun w => ?_⟩⟩
        rcases w.2 0 (by omega) with q | q
        · exact q.2 rfl
        · exact q.1 c1
      · rw [brF (show ¬ nI (tby ar 0) = (32 : Int32) from fun w => c1 ((nI_eq (b := 32) (by omega) (by omega)).mp w))]
        exact key (Or.inr c1)
/-- the least table that fits, 0: none -/
def lz (n c v y : Nat) : Nat → Nat → Nat
  | _, 0 => 0
  | z, m + 1 => if geoOK n c v y z then z else lz n c v y (z + 1) m
theorem lz_ok {n c v y : Nat} : ∀ (m z : Nat), lz n c v y z m = 0 ∨ geoOK n c v y (lz n c v y z m)
  | 0, _ => Or.inl rfl
  | m + 1, z => by
    rw [lz]
    by_cases g : geoOK n c v y z
    · rw [if_pos g]; exact Or.inr g
    · rw [if_neg g]; exact lz_ok m (z + 1)
theorem least_loop {nf : Nat} {ln : LN} {fi : FI} {ar : AR} {n : Nat} (hn : fi 2 = nI n) (h1 : 256 ≤ n) (h2 : n ≤ 1024) (x1 x2 x3 : Int32) : ∀ (m z kf : Nat), z + m = 33 → m < kf → FX9_leastTable_3 nf ln kf x1 x2 x3 (nI z) fi ar = some (nI (lz n (uv x1) (uv x2) (uv x3) z m), fi, ar) := by
  intro m
  induction m with
  | zero =>
    intro z kf hz hk
    obtain ⟨kf, rfl⟩ : ∃ k, kf = k + 1 := ⟨kf - 1, by omega⟩
    rw [show FX9_leastTable_3 nf ln (kf + 1) = FX9_leastTable_3b (FX9_leastTable_3 nf ln kf) nf ln from rfl]
    unfold FX9_leastTable_3b
    rw [brT (show (32 : Int32) < nI z from nI_lt (a := 32) (by omega) (by omega)), lz]; rfl
  | succ m ih =>
    intro z kf hz hk
    obtain ⟨kf, rfl⟩ : ∃ k, kf = k + 1 := ⟨kf - 1, by omega⟩
    rw [show FX9_leastTable_3 nf ln (kf + 1) = FX9_leastTable_3b (FX9_leastTable_3 nf ln kf) nf ln from rfl]
    unfold FX9_leastTable_3b
    rw [brF (show ¬ (32 : Int32) < nI z from nI_nlt (a := 32) (by omega) (by omega)), FX9_tableFits_eq hn h1 h2, obnd3_some, uv_nI (by omega), lz]
    by_cases g : geoOK n (uv x1) (uv x2) (uv x3) z
    · rw [if_pos g, if_pos g, brF (by decide)]
    · rw [if_neg g, if_neg g, brT rfl, bnd_eq, show nI z + (1 : Int32) = nI (z + 1) from nI_add z 1]
      exact ih (z + 1) kf (by omega) (by omega)
theorem leastTable_eq {nf : Nat} {ln : LN} {fi : FI} {ar : AR} {n : Nat} (hn : fi 2 = nI n) (h1 : 256 ≤ n) (h2 : n ≤ 1024) (x1 x2 x3 : Int32) (hnf : 50 ≤ nf) : FX9_leastTable nf ln fi ar x1 x2 x3 = some (nI (lz n (uv x1) (uv x2) (uv x3) 1 32), fi, ar) := least_loop hn h1 h2 x1 x2 x3 32 1 nf (by omega) (by omega)
