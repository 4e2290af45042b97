/-! the law holds, in pure functions -/
theorem PH_le {n h : Nat} {ln : LN} {fi fm : FI} {ar arm : AR} {d : Nat → Nat} (hV : VOL n ln fi ar fm arm d h) : PH ln ≤ 589824 := by
  have hL := hV.2.2.2.2.2.2.2.1
  obtain ⟨L0, a0⟩ := hL 0 (by omega)
  obtain ⟨L1, a1⟩ := hL 1 (by omega)
  obtain ⟨L2, a2⟩ := hL 2 (by omega)
  have b0 : ln 11 = L0 := a0.1
  have b1 : ln 15 = L1 := a1.1
  have b2 : ln 19 = L2 := a2.1
  have c0 := a0.2.2.2.2
  have c1 := a1.2.2.2.2
  have c2 := a2.2.2.2.2
  unfold PH
  omega
theorem law_run {nf n L : Nat} {xs : Nat → Int32} (hL : L ≤ 3073) (hnf : 600000 ≤ nf) : ∀ (m i kf h T : Nat) (ln : LN) (fi fm : FI) (ar arm : AR) (d : Nat → Nat) (fo : Nat → Int64), i + 6 * m ≤ L ∨ m = 0 → L < i + 6 * m + 6 → i ≤ 4000 → m < kf → VOL n ln fi ar fm arm d h → TAP fi ar fm arm T → ∃ kc ks ln', FL_law_33 nf L xs kf (nI i) fi ar ln fo fm arm = some (1, kc, ks) ∧ CST ln ln' kc ks (2 * m) (12 * m) ∧ PH ln' ≤ 589824 := by
  intro m
  induction m with
  | zero =>
    intro i kf h T ln fi fm ar arm d fo h1 h2 hi hk hV hT
    obtain ⟨kf, rfl⟩ : ∃ k, kf = k + 1 := ⟨kf - 1, by omega⟩
    rw [show FL_law_33 nf L xs (kf + 1) = FL_law_33b (FL_law_33 nf L xs kf) nf L xs from rfl]
    unfold FL_law_33b
    have hlt : Int32.ofNat L - (6 : Int32) < nI i := by
      have e6 : (6 : Int32).toInt = 6 := by decide
      have eL : (Int32.ofNat L).toInt = (L : Int) := nI_toInt (by omega)
      rw [Int32.lt_iff_toInt_lt, Int32.toInt_sub, eL, e6, nI_toInt (by omega), Int.bmod_def]
      split <;> omega
    rw [brT hlt]
    exact ⟨0, 0, ln, rfl, CST.rf, PH_le hV⟩
  | succ m ih =>
    intro i kf h T ln fi fm ar arm d fo h1 h2 hi hk hV hT
    obtain ⟨kf, rfl⟩ : ∃ k, kf = k + 1 := ⟨kf - 1, by omega⟩
    rw [show FL_law_33 nf L xs (kf + 1) = FL_law_33b (FL_law_33 nf L xs kf) nf L xs from rfl]
    obtain ⟨d', h', T', fi', ar', ln1, fo', fm', arm', kc, ks, a1, a2, a3, a4⟩ := law_step (nf := nf) (xs := xs) (fo := fo) (FL_law_33 nf L xs kf) hV hT (show i + 6 ≤ L by omega) hL hnf
    obtain ⟨kc2, ks2, ln2, b1, b2, b3⟩ := ih (i + 6) kf h' T' ln1 fi' fm' ar' arm' d' fo' (by omega) (by omega) (by omega) (by omega) a2 a3
    refine ⟨kc + kc2, ks + ks2, ln2, ?_, ?_, b3⟩
    · rw [a1, b1]; rfl
    · have := a4.tr b2
      rw [show 2 * (m + 1) = 2 + 2 * m by omega, show 12 * (m + 1) = 12 + 12 * m by omega]
      exact this
theorem start_vol {n : Nat} (h1 : 256 ≤ n) (h2 : n ≤ 1024) : VOL n (ln0 n) (fi0 n) (fun _ _ => 0) (fiM0 n) (fun _ _ => 0) (fun _ => 0) 0 := by
  refine ⟨⟨h1, h2⟩, fun _ => (by decide : 0 < 256), fun p _ => rfl, ⟨by show n * 128 < 2 ^ 18; omega, fun p _ => ?_⟩, rfl, rfl, ⟨Nat.mul_comm n 128, rfl, rfl, rfl, rfl, rfl, fun i hi => ?_, fun j hj => ?_, fun s hs => ?_⟩, fun i hi => ⟨64, ?_⟩, rfl, rfl, by omega, Or.inl rfl, Or.inl rfl, fun w => absurd rfl w⟩
  · show 0 / _ % 256 = 0
    rw [Nat.zero_div]
  · rcases (show i = 0 ∨ i = 1 ∨ i = 2 by omega) with w | w | w <;> subst w <;> rfl
  · rcases (show j = 0 ∨ j = 1 ∨ j = 2 ∨ j = 3 by omega) with w | w | w | w <;> subst w <;> rfl
  · rcases (show s = 0 ∨ s = 1 by omega) with w | w <;> subst w <;> exact ⟨rfl, rfl⟩
  · rcases (show i = 0 ∨ i = 1 ∨ i = 2 by omega) with w | w | w <;> subst w <;> exact ⟨rfl, rfl, rfl, by omega, by omega⟩
theorem start_tap {n : Nat} : TAP (fi0 n) (fun _ _ => 0) (fiM0 n) (fun _ _ => 0) 0 := ⟨by omega, rfl, rfl, fun _ _ => rfl, Or.inl ⟨rfl, fun _ _ => rfl⟩⟩
theorem law_pure {n : Nat} (h1 : 256 ≤ n) (h2 : n ≤ 1024) (L : Nat) (xs : Nat → Int32) (hL : L ≤ 3073) : ∃ nf kf kc ks : Nat, FL_law_33 nf L xs kf 1 (fi0 n) (fun _ _ => 0) (ln0 n) (fun _ => 0) (fiM0 n) (fun _ _ => 0) = some ((1 : Int32), kc, ks) ∧ kc ≤ 10000 ∧ ks ≤ 700000 := by
  obtain ⟨kc, ks, ln', a1, a2, a3⟩ := law_run (nf := 600000) (n := n) (xs := xs) hL (Nat.le_refl _) ((L - 1) / 6) 1 600 0 0 (ln0 n) (fi0 n) (fiM0 n) (fun _ _ => 0) (fun _ _ => 0) (fun _ => 0) (fun _ => 0) (by omega) (by omega) (by omega) (by omega) (start_vol h1 h2) start_tap
  refine ⟨600000, 600, kc, ks, a1, ?_, ?_⟩
  · have := a2.2.2; omega
  · have := a2.2.1; omega
