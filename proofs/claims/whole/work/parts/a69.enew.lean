/-! make: the new entry is as told -/
def shK (B : Nat → Nat) : Prop := (∀ i, i < 11 → B i < 128) ∧ B 0 ≠ 32 ∧ B 0 ≠ 0 ∧ ∀ i, i < 11 → B i ≠ 32 → sgn (B i) ∧ (i = 0 ∨ i = 8 ∨ B (i - 1) ≠ 32)
theorem shd_sgn {x : Nat} (h : shd x ≠ 0) : sgn (shd x) := by
  unfold shd at h ⊢
  split at h
  · exact absurd rfl h
  · rename_i c
    rw [if_neg c]
    split
    · rename_i s; exact s
    · decide
theorem shl_sgn (N : List Nat) : ∀ m i x, x ∈ shl N i m → sgn x
  | 0, _, x, h => absurd h (by simp [shl])
  | m + 1, i, x, h => by
    rw [shl] at h
    rcases List.mem_append.mp h with h | h
    · by_cases c : shd (N.getD i 0) = 0
      · rw [if_pos c] at h; exact absurd h (by simp)
      · rw [if_neg c] at h
        rw [List.mem_singleton] at h
        rw [h]; exact shd_sgn c
    · exact shl_sgn N m (i + 1) x h
theorem sgn_ne32 {x : Nat} (h : sgn x) : x ≠ 32 ∧ x ≠ 0 ∧ x < 128 := by have := sgn_lt h; omega
theorem shK_brief {N : List Nat} (hbr : brOK N) : shK (brB N) := by
  obtain ⟨b1, b2, b3, b4, b5⟩ := hbr
  have hfl := fpt_le N
  have lo : ∀ i, i < 8 → brB N i = if i < fpt N then N.getD i 0 else 32 := fun i hi => by
    unfold brB brP
    rw [if_pos hi]
    by_cases c : i < fpt N
    · rw [if_pos ⟨by omega, c⟩, if_pos c]
    · rw [if_neg (by omega), if_neg c]
  have hi' : ∀ i, 8 ≤ i → brB N i = if fpt N + 1 + (i - 8) < N.length then N.getD (fpt N + 1 + (i - 8)) 0 else 32 := fun i hi => by
    unfold brB brP
    rw [if_neg (by omega)]
  have sg : ∀ q, q < N.length → q ≠ fpt N → N.getD q 0 ≠ 32 ∧ N.getD q 0 ≠ 0 ∧ N.getD q 0 < 128 := fun q h1 h2 => sgn_ne32 (b5 q h1 h2)
  have h0 := sg 0 (by omega) (by omega)
  refine ⟨fun i hi => ?_, by rw [lo 0 (by omega), if_pos (by omega)]; exact h0.1, by rw [lo 0 (by omega), if_pos (by omega)]; exact h0.2.1, fun i hi hne => ?_⟩
  · by_cases c : i < 8
    · rw [lo i c]
      split
      · exact (sg i (by omega) (by omega)).2.2
      · omega
    · rw [hi' i (by omega)]
      split
      · exact (sg _ (by omega) (by omega)).2.2
      · omega
  · by_cases c : i < 8
    · rw [lo i c] at hne ⊢
      by_cases c2 : i < fpt N
      · rw [if_pos c2]
        refine ⟨b5 i (by omega) (by omega), ?_⟩
        by_cases z : i = 0
        · exact Or.inl z
        · right; right
          rw [lo (i - 1) (by omega), if_pos (by omega)]; exact (sg _ (by omega) (by omega)).1
      · rw [if_neg c2] at hne; exact absurd rfl hne
    · rw [hi' i (by omega)] at hne ⊢
      by_cases c2 : fpt N + 1 + (i - 8) < N.length
      · rw [if_pos c2]
        refine ⟨b5 _ c2 (by omega), ?_⟩
        by_cases z : i = 8
        · exact Or.inr (Or.inl z)
        · right; right
          rw [hi' (i - 1) (by omega), if_pos (by omega)]; exact (sg _ (by omega) (by omega)).1
      · rw [if_neg c2] at hne; exact absurd rfl hne
theorem shK_tail {N : List Nat} {k : Nat} : shK (tlB N k) := by
  have hd := dg_b k
  have hkp : kp N k ≤ 7 - dg k := Nat.min_le_left _ _
  have hkp2 : kp N k ≤ (bas N).length := Nat.min_le_right _ _
  have v1 : ∀ i, i < kp N k → tlB N k i = (bas N).getD i 0 := fun i h => by unfold tlB; rw [if_pos h]
  have v2 : tlB N k (kp N k) = 126 := by unfold tlB; rw [if_neg (by omega), if_pos rfl]
  have v3 : ∀ i, kp N k < i → i ≤ kp N k + dg k → tlB N k i = 48 + k / 10 ^ (kp N k + dg k - i) % 10 := fun i h1 h2 => by unfold tlB; rw [if_neg (by omega), if_neg (by omega), if_pos h2]
  have v4 : ∀ i, kp N k + dg k < i → i < 8 → tlB N k i = 32 := fun i h1 h2 => by unfold tlB; rw [if_neg (by omega), if_neg (by omega), if_neg (by omega), if_pos h2]
  have v5 : ∀ i, 8 ≤ i → tlB N k i = if i - 8 < (ext N).length then (ext N).getD (i - 8) 0 else 32 := fun i h => by unfold tlB; rw [if_neg (by omega), if_neg (by omega), if_neg (by omega), if_neg (by omega)]
  have sb : ∀ i, i < (bas N).length → sgn ((bas N).getD i 0) := fun i h => shl_sgn N _ _ _ (getD_mem (l := bas N) h)
  have se : ∀ i, i < (ext N).length → sgn ((ext N).getD i 0) := fun i h => shl_sgn N _ _ _ (getD_mem (l := ext N) h)
  have s126 : sgn 126 := by decide
  have sdig : ∀ m, sgn (48 + m % 10) := fun m => Or.inr (Or.inl ⟨by omega, by have := Nat.mod_lt m (show 0 < 10 by omega); omega⟩)
  -- every place up to the last digit holds a sign
  have lo : ∀ i, i ≤ kp N k + dg k → sgn (tlB N k i) := fun i hi => by
    by_cases c1 : i < kp N k
    · rw [v1 i c1]; exact sb i (by omega)
    · by_cases c2 : i = kp N k
      · rw [c2, v2]; exact s126
      · rw [v3 i (by omega) hi]; exact sdig _
  refine ⟨fun i _ => tlB_lt N k i, (sgn_ne32 (lo 0 (by omega))).1, (sgn_ne32 (lo 0 (by omega))).2.1, fun i hi hne => ?_⟩
  by_cases c : i ≤ kp N k + dg k
  · refine ⟨lo i c, ?_⟩
    by_cases z : i = 0
    · exact Or.inl z
    · exact Or.inr (Or.inr (sgn_ne32 (lo (i - 1) (by omega))).1)
  · by_cases c2 : i < 8
    · exact absurd (v4 i (by omega) c2) hne
    · rw [v5 i (by omega)] at hne ⊢
      by_cases c3 : i - 8 < (ext N).length
      · rw [if_pos c3]
        refine ⟨se _ c3, ?_⟩
        by_cases z : i = 8
        · exact Or.inr (Or.inl z)
        · right; right
          rw [v5 (i - 1) (by omega), if_pos (by omega)]; exact (sgn_ne32 (se _ (by omega))).1
      · rw [if_neg c3] at hne; exact absurd rfl hne
theorem day33 : dayP (nI 33) := by decide
theorem tim0 : timP (nI 0) := by decide
theorem mad0 : madP (nI 0) (nI 0) (nI 0) := by decide
/-- the slots of a new item tell what they should -/
theorem e4_new {d A : Nat → Nat} {s np bits own : Nat} {N : List Nat} {B : Nat → Nat} (hN : nmOK N) (hN2 : ∀ x, x ∈ N → x < 65536) (hK : shK B) (hbits : bits = 32 ∨ bits = 48) (hown : own < 65536) (hnps : np ≤ s) (hnp : np ≤ 20) (hcase : (np = 0 ∧ brOK N ∧ ∀ i, i < 11 → B i = brB N i) ∨ (1 ≤ np ∧ (N.length + 12) / 13 = np)) (hE : SLT d (A s) (cE B bits own)) (hP : ∀ j, j < np → SLT d (A (s - 1 - j)) (cP (uN N j) (nuN np j) (smS B 0 11))) : e4 d A s np ∧ nm d A s np = N ∧ (isDr d (A s) ↔ bits = 48) ∧ fcl d (A s) = own ∧ fo d (A s + 28) = 0 ∧ (∀ i, i < 11 → d (A s + i) = B i) ∧ d (A s + 11) = bits ∧ ∀ j, j < np → d (A (s - 1 - j)) ≠ 0 ∧ d (A (s - 1 - j)) ≠ 229 ∧ d (A (s - 1 - j) + 11) % 64 = 15 := by
  have hsm : smS B 0 11 < 256 := by rw [smS]; exact Nat.mod_lt _ (by decide)
  obtain ⟨k1, k2, k3, k4⟩ := hK
  obtain ⟨c1, c2, c3, ⟨c4, c5, c6, c7, c8, c9, c10, c11⟩, c12⟩ := cE_read (B := B) (bits := bits) (own := own) (fun i hi => by have := k1 i hi; omega) (by omega) hown
  have r : ∀ i, i < 32 → d (A s + i) = cE B bits own i := hE
  have rB : ∀ i, i < 11 → d (A s + i) = B i := fun i hi => by rw [r i (by omega), c1 i hi]
  have r11 : d (A s + 11) = bits := by rw [r 11 (by omega), c2]
  have rp : ∀ j, j < np → d (A (s - 1 - j)) = nuN np j ∧ d (A (s - 1 - j) + 11) = 15 ∧ d (A (s - 1 - j) + 12) = 0 ∧ d (A (s - 1 - j) + 13) = smS B 0 11 ∧ tw d (A (s - 1 - j) + 26) = 0 ∧ ∀ q, q < 13 → tw d (A (s - 1 - j) + plc q) = uN N j q := fun j hj => by
    have hnu : nuN np j < 256 := by unfold nuN; split <;> omega
    obtain ⟨p1, p2, p3, p4, p5, p6, p7⟩ := cP_read (u := uN N j) (num := nuN np j) (sum := smS B 0 11) hnu hsm (fun q _ => uN_lt hN2 j q)
    have h := hP j hj
    refine ⟨?_, by rw [h 11 (by omega), p2], by rw [h 12 (by omega), p3], by rw [h 13 (by omega), p4], ?_, fun q hq => ?_⟩
    · have := h 0 (by omega)
      rw [Nat.add_zero] at this
      rw [this, p1]
    · rw [h.tw (by omega)]; unfold tw; rw [p5, p6]
    · rw [h.tw (by have := plc_no hq; omega)]; exact p7 q hq
  have hnm : nm d A s np = N ∧ (0 < np → ∀ i, i < 13 * np → N.length < i → nU d A s i = 65535) := by
    rcases hcase with ⟨h0, hbr, hBb⟩ | ⟨h1, h2⟩
    · refine ⟨?_, fun w => by omega⟩
      unfold nm
      rw [if_pos h0]
      exact shw_brief hbr (fun i hi => by rw [rB i hi]; exact hBb i hi)
    · have := nm_parts (d := d) (A := A) (s := s) (np := np) hN hN2 h1 h2 (fun j hj => (rp j hj).2.2.2.2.2)
      exact ⟨this.1, fun _ => this.2⟩
  have htw : ∀ k, k + 1 < 32 → tw d (A s + k) = tw (cE B bits own) k := fun k hk => hE.tw hk
  have hfo : fo d (A s + 28) = 0 := by
    unfold fo
    rw [htw 28 (by omega), show A s + 28 + 2 = A s + 30 from rfl, htw 30 (by omega)]
    unfold tw
    rw [c12 28 (by omega), c12 (28 + 1) (by omega), c12 30 (by omega), c12 (30 + 1) (by omega)]
  have hfcl : fcl d (A s) = own := by
    unfold fcl
    rw [htw 20 (by omega), htw 26 (by omega)]
    unfold tw
    rw [c4, c5, c10, c11]
    omega
  have hT : timesOK d (A s) := by
    unfold timesOK
    rw [htw 16 (by omega), htw 14 (by omega), htw 18 (by omega), htw 24 (by omega), htw 22 (by omega), r 13 (by omega), c3 13 (by omega) (by omega)]
    unfold tw
    rw [c3 16 (by omega) (by omega), c3 (16 + 1) (by omega) (by omega), c3 14 (by omega) (by omega), c3 (14 + 1) (by omega) (by omega), c3 18 (by omega) (by omega), c3 (18 + 1) (by omega) (by omega), c8, c9, c6, c7]
    exact ⟨mad0, Or.inl rfl, day33, tim0⟩
  have hsh : shOK d (A s) False := by
    refine ⟨by have := rB 0 (by omega); rw [Nat.add_zero] at this; rw [this]; exact k2, fun i hi hne => ?_⟩
    rw [rB i hi] at hne ⊢
    obtain ⟨g1, g2⟩ := k4 i hi hne
    refine ⟨g1, Or.inr ?_⟩
    rcases g2 with g | g | g
    · exact Or.inl g
    · exact Or.inr (Or.inl g)
    · by_cases z : i = 0
      · exact Or.inl z
      · right; right
        rw [show A s + i - 1 = A s + (i - 1) by omega, rB (i - 1) (by omega)]; exact g
  have hsum : smS d (A s) 11 = smS B 0 11 := smS_congr 11 rB
  refine ⟨⟨by rw [r11]; omega, hT, hsh, fun _ => hfo, ⟨hnp, fun i hi => ?_⟩, by rw [hnm.1]; exact hN, fun w => ⟨by rw [hnm.1]; rcases hcase with h | h; omega; exact h.2, by rw [hnm.1]; exact hnm.2 w⟩⟩, hnm.1, ?_, hfcl, hfo, rB, r11, fun j hj => ?_⟩
  · obtain ⟨p1, p2, p3, p4, p5, p6⟩ := rp i hi
    rw [hsum]
    exact ⟨by rw [p1]; rfl, p3, p4, p5⟩
  · unfold isDr
    rw [r11]; omega
  · obtain ⟨p1, p2, p3, p4, p5, p6⟩ := rp j hj
    rw [p1, p2]
    have : nuN np j < 229 ∧ nuN np j ≠ 0 := by unfold nuN; split <;> omega
    omega
