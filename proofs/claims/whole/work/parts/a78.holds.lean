/-! what the law's loop must come to holds, for every script -/
theorem law_holds : LawHolds := fun L xs hL => by
  obtain ⟨⟨hN1, hN2, hN3⟩, _⟩ := NV_ok (v0 L xs)
  obtain ⟨nf, kf, kc, ks, h, hc, hs⟩ := law_pure hN1 hN2 L xs hL
  have hf := fCost_le hN2
  have q1 : (500000 : Nat) ≤ room_1.cells := by decide +kernel
  have q2 : (3000000 : Nat) ≤ room_1.slots := by decide +kernel
  exact ⟨nf, kf, kc, ks, h, Nat.le_trans (by omega : 61 + kc ≤ 500000) q1, Nat.le_trans (by omega : fCost (NV (v0 L xs)) + ks ≤ 3000000) q2⟩
