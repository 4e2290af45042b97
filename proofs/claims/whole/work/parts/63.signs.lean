/-! signs: where a letter stands in one of the two texts -/
def sNat : List (List Nat) := [[33, 35, 36, 37, 38, 39, 40, 41, 45, 64, 94, 95, 96, 123, 125, 126], [34, 42, 47, 58, 60, 62, 63, 92, 124]]
theorem sNat_byt : ∀ i, i < 2 → ∀ t, t < sLen.getD i 0 → (sByt.getD i []).getD t 0 = nI ((sNat.getD i []).getD t 0) ∧ (sNat.getD i []).getD t 0 < 128 := by decide
theorem sNat_len : ∀ i, i < 2 → sLen.getD i 0 ≤ 16 ∧ (sNat.getD i []).length = sLen.getD i 0 := by decide
theorem ixc_loop {nf i : Nat} (hi : i < 2) (x4 : Int32) : ∀ (m j kf : Nat), j + m = sLen.getD i 0 → m < kf → ∃ r, FJ1_indexOfChar_4cfef_7 nf i kf (nI (sLen.getD i 0)) x4 (nI j) = some r ∧ (r < 0 ↔ ∀ t, j ≤ t → t < sLen.getD i 0 → (sByt.getD i []).getD t 0 ≠ x4) := by
  have hl := sNat_len i hi
  intro m
  induction m with
  | zero =>
    intro j kf hj hk
    obtain ⟨kf, rfl⟩ : ∃ k, kf = k + 1 := ⟨kf - 1, by omega⟩
    refine ⟨-1, ?_, fun _ t h1 h2 => by omega, fun _ => by decide⟩
    show FJ1_indexOfChar_4cfef_7b _ nf i _ _ _ = _
    unfold FJ1_indexOfChar_4cfef_7b
    rw [brT (nI_le (by omega) (by omega))]
  | succ m ih =>
    intro j kf hj hk
    obtain ⟨kf, rfl⟩ : ∃ k, kf = k + 1 := ⟨kf - 1, by omega⟩
    have e : FJ1_indexOfChar_4cfef_7 nf i (kf + 1) (nI (sLen.getD i 0)) x4 (nI j) = FJ1_indexOfChar_4cfef_7b (FJ1_indexOfChar_4cfef_7 nf i kf) nf i (nI (sLen.getD i 0)) x4 (nI j) := rfl
    rw [e]
    unfold FJ1_indexOfChar_4cfef_7b
    rw [brF (nI_ge (by omega) (by omega)), gdT (vpin_nI (by omega) (by omega)), nI_clamp (by omega)]
    by_cases q : (sByt.getD i []).getD j 0 = x4
    · rw [brT q]
      exact ⟨nI j, rfl, fun h => absurd h (nI_pos (by omega)), fun h => absurd q (h j (by omega) (by omega))⟩
    · rw [brF q, bnd_eq, nI_1]
      obtain ⟨r, r1, r2⟩ := ih (j + 1) kf (by omega) (by omega)
      refine ⟨r, r1, r2.trans ⟨fun h t h1 h2 => if ht : t = j then ht ▸ q else h t (by omega) h2, fun h t h1 h2 => h t (by omega) h2⟩⟩
theorem toI8_small : ∀ m, m < 256 → ((nI m).toInt8.toInt32 = nI m ↔ m < 128) ∧ (128 ≤ m → (nI m).toInt8.toInt32 < 0) := by decide +kernel
theorem ix_ok {nf i : Nat} (hi : i < 2) {m : Nat} (hm : m < 65536) (hnf : 20 ≤ nf) : ∃ r, FJ0_indexOf_0f7a4 nf i (((nI m).toUInt32 % 65536).toInt32) = some r ∧ (r < 0 ↔ m ∉ sNat.getD i []) := by
  have hl := sNat_len i hi
  rw [pk_char (nI m), show (nI m).toBitVec.toNat = m from uv_nI (by omega), Nat.mod_eq_of_lt hm]
  unfold FJ0_indexOf_0f7a4 FJ0_indexOf_7cf53 FJ0_indexOf_7cf53_36
  have e1 : FJ0_isLatin1_aae02 nf i = some 1 := rfl
  have e2 : FJ0_length_8abf5 nf i = some (nI (sLen.getD i 0)) := by
    have : FJ0_coder_7d493 nf i = some 0 := rfl
    unfold FJ0_length_8abf5
    rw [this, obnd_some]
    have e := pk_shrN (n := sLen.getD i 0) (by omega) ((0 : Int32) &&& 31) 0 (by decide)
    rw [Nat.pow_zero, Nat.div_one] at e
    exact congrArg some e
  rw [e1, obnd_some, brF (by decide), e2, obnd_some]
  unfold FJ1_indexOf_4cfef
  by_cases h255 : m ≤ 255
  · have e3 : FJ1_canEncode_9a6ad nf (nI m) = some 1 := by
      unfold FJ1_canEncode_9a6ad FJ1_canEncode_9a6ad_16
      rw [brF (nI_pos (by omega)), brF (show ¬ (255 : Int32) < nI m from nI_nlt (a := 255) h255 (by omega))]
      rfl
    rw [e3, obnd_some, brF (by decide), bnd_eq, bnd_eq, if_neg (show ¬ (0 : Int32) < 0 by decide), if_neg (show ¬ Int32.ofNat (sLen.getD i 0) < nI (sLen.getD i 0) from nI_nlt (a := sLen.getD i 0) (Nat.le_refl _) (by omega))]
    have h0 : 0 < sLen.getD i 0 := by rcases (show i = 0 ∨ i = 1 by omega) with rfl | rfl <;> decide
    rw [brT (show (0 : Int32) < nI (sLen.getD i 0) from nI_lt (a := 0) h0 (by omega))]
    unfold FJ1_indexOfChar_4cfef
    rw [bnd_eq]
    obtain ⟨r, r1, r2⟩ := ixc_loop (nf := nf) hi ((nI m).toInt8.toInt32) (sLen.getD i 0) 0 nf (by omega) (by omega)
    refine ⟨r, by rw [show (0 : Int32) = nI 0 from rfl, r1]; rfl, r2.trans ⟨fun h hmem => ?_, fun h t _ ht q => ?_⟩⟩
    · obtain ⟨t, ht⟩ := List.getElem?_of_mem hmem
      have htl := (List.getElem?_eq_some_iff.mp ht).1
      rw [hl.2] at htl
      have hg : (sNat.getD i []).getD t 0 = m := by rw [List.getD_eq_getElem?_getD, ht]; rfl
      have hb := sNat_byt i hi t htl
      rw [hg] at hb
      exact h t (by omega) htl (hb.1.trans (((toI8_small m (by omega)).1.mpr hb.2).symm))
    · have hb := sNat_byt i hi t ht
      rw [hb.1] at q
      by_cases h8 : m < 128
      · rw [(toI8_small m (by omega)).1.mpr h8] at q
        have := (nI_eq (by omega) (by omega)).mp q
        apply h
        rw [← this]
        have htl : t < (sNat.getD i []).length := by rw [hl.2]; exact ht
        have key : ∀ (l : List Nat) (t : Nat), t < l.length → l.getD t 0 ∈ l := fun l t ht => by
          rw [List.getD_eq_getElem?_getD, List.getElem?_eq_getElem ht]
          exact List.getElem_mem ht
        exact key _ t htl
      · have := (toI8_small m (by omega)).2 (by omega)
        rw [← q] at this
        exact nI_pos (by omega) this
  · have e3 : FJ1_canEncode_9a6ad nf (nI m) = some 0 := by
      unfold FJ1_canEncode_9a6ad FJ1_canEncode_9a6ad_15 FJ1_canEncode_9a6ad_16
      rw [brF (nI_pos (by omega)), brT (show (255 : Int32) < nI m from nI_lt (a := 255) (by omega) (by omega))]
      rfl
    rw [e3, obnd_some, brT rfl]
    refine ⟨-1, rfl, fun _ hmem => ?_, fun _ => by decide⟩
    have : ∀ i, i < 2 → ∀ x, x ∈ sNat.getD i [] → x < 128 := by decide
    have := this i hi m hmem
    omega
/-- a sign of short names -/
abbrev sgn (m : Nat) : Prop := (65 ≤ m ∧ m ≤ 90) ∨ (48 ≤ m ∧ m ≤ 57) ∨ m ∈ sNat.getD 0 []
theorem sgn_lt {m : Nat} (h : sgn m) : 33 ≤ m ∧ m < 128 ∧ m ≠ 46 ∧ m ≠ 127 := by
  rcases h with h | h | h
  · omega
  · omega
  · have : ∀ x, x ∈ sNat.getD 0 [] → 33 ≤ x ∧ x < 128 ∧ x ≠ 46 ∧ x ≠ 127 := by decide
    exact this m h
theorem M_isShortSign_eq {nf : Nat} {m : Nat} (hm : m < 65536) (hnf : 20 ≤ nf) : M_isShortSign nf (nI m) = some (if sgn m then 1 else 0) := by
  have k24 : ¬ (65 ≤ m ∧ m ≤ 90) → ¬ (48 ≤ m ∧ m ≤ 57) → M_isShortSign_24 nf (nI m) = some (if sgn m then 1 else 0) := by
    intro h1 h2
    unfold M_isShortSign_24
    by_cases h0 : m = 0
    · subst h0
      rw [brT (show nI 0 ≤ 0 by decide)]; rfl
    · rw [brF (nI_nle (by omega) (by omega))]
      obtain ⟨r, r1, r2⟩ := ix_ok (nf := nf) (i := 0) (by decide) hm hnf
      rw [r1, obnd_some]
      by_cases h3 : m ∈ sNat.getD 0 []
      · rw [brF (fun q => (r2.mp q) h3), if_pos (Or.inr (Or.inr h3))]; rfl
      · rw [brT (r2.mpr h3), if_neg (fun q => by rcases q with q | q | q; exact h1 q; exact h2 q; exact h3 q)]; rfl
  have k12 : ¬ (65 ≤ m ∧ m ≤ 90) → M_isShortSign_12 nf (nI m) = some (if sgn m then 1 else 0) := by
    intro h1
    unfold M_isShortSign_12
    by_cases a : m < 48
    · rw [brT (show nI m < (48 : Int32) from nI_lt (b := 48) a (by omega))]; exact k24 h1 (by omega)
    · rw [brF (show ¬ nI m < (48 : Int32) from nI_nlt (b := 48) (by omega) (by omega))]
      by_cases c : m ≤ 57
      · rw [brT (show nI m ≤ (57 : Int32) from nI_le (b := 57) c (by omega)), if_pos (Or.inr (Or.inl ⟨by omega, c⟩))]; rfl
      · rw [brF (show ¬ nI m ≤ (57 : Int32) from nI_ge (a := 57) (by omega) (by omega))]; exact k24 h1 (by omega)
  unfold M_isShortSign
  by_cases a : m < 65
  · rw [brT (show nI m < (65 : Int32) from nI_lt (b := 65) a (by omega))]; exact k12 (by omega)
  · rw [brF (show ¬ nI m < (65 : Int32) from nI_nlt (b := 65) (by omega) (by omega))]
    by_cases c : m ≤ 90
    · rw [brT (show nI m ≤ (90 : Int32) from nI_le (b := 90) c (by omega)), if_pos (Or.inl ⟨by omega, c⟩)]; rfl
    · rw [brF (show ¬ nI m ≤ (90 : Int32) from nI_ge (a := 90) (by omega) (by omega))]; exact k12 (by omega)
theorem FX5_mayStandInShortName_eq {nf : Nat} {m : Nat} (hm : m < 65536) (hnf : 20 ≤ nf) : FX5_mayStandInShortName nf (nI m) = some (if sgn m then 1 else 0) := by
  have k24 : ¬ (65 ≤ m ∧ m ≤ 90) → ¬ (48 ≤ m ∧ m ≤ 57) → FX5_mayStandInShortName_24 nf (nI m) = some (if sgn m then 1 else 0) := by
    intro h1 h2
    unfold FX5_mayStandInShortName_24
    by_cases h0 : 128 ≤ m
    · rw [brT (show (128 : Int32) ≤ nI m from nI_le (a := 128) h0 (by omega)), if_neg (fun q => by have := sgn_lt q; omega)]; rfl
    · rw [brF (show ¬ (128 : Int32) ≤ nI m from nI_ge (b := 128) (by omega) (by omega)), brF (nI_pos (by omega))]
      obtain ⟨r, r1, r2⟩ := ix_ok (nf := nf) (i := 0) (by decide) hm hnf
      rw [r1, obnd_some]
      by_cases h3 : m ∈ sNat.getD 0 []
      · rw [brF (fun q => (r2.mp q) h3), if_pos (Or.inr (Or.inr h3))]; rfl
      · rw [brT (r2.mpr h3), if_neg (fun q => by rcases q with q | q | q; exact h1 q; exact h2 q; exact h3 q)]; rfl
  have k12 : ¬ (65 ≤ m ∧ m ≤ 90) → FX5_mayStandInShortName_12 nf (nI m) = some (if sgn m then 1 else 0) := by
    intro h1
    unfold FX5_mayStandInShortName_12
    by_cases a : m < 48
    · rw [brT (show nI m < (48 : Int32) from nI_lt (b := 48) a (by omega))]; exact k24 h1 (by omega)
    · rw [brF (show ¬ nI m < (48 : Int32) from nI_nlt (b := 48) (by omega) (by omega))]
      by_cases c : m ≤ 57
      · rw [brT (show nI m ≤ (57 : Int32) from nI_le (b := 57) c (by omega)), if_pos (Or.inr (Or.inl ⟨by omega, c⟩))]; rfl
      · rw [brF (show ¬ nI m ≤ (57 : Int32) from nI_ge (a := 57) (by omega) (by omega))]; exact k24 h1 (by omega)
  unfold FX5_mayStandInShortName
  by_cases a : m < 65
  · rw [brT (show nI m < (65 : Int32) from nI_lt (b := 65) a (by omega))]; exact k12 (by omega)
  · rw [brF (show ¬ nI m < (65 : Int32) from nI_nlt (b := 65) (by omega) (by omega))]
    by_cases c : m ≤ 90
    · rw [brT (show nI m ≤ (90 : Int32) from nI_le (b := 90) c (by omega)), if_pos (Or.inl ⟨by omega, c⟩)]; rfl
    · rw [brF (show ¬ nI m ≤ (90 : Int32) from nI_ge (a := 90) (by omega) (by omega))]; exact k12 (by omega)
