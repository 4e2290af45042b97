/-! days and times: the two programs say the same of every number -/
theorem leap_tot (nf : Nat) (y : Int32) : M_isLeap nf y = some (if (y - y / 4 * 4 = 0 ∧ (¬ y - y / 100 * 100 = 0 ∨ y - y / 400 * 400 = 0)) then 1 else 0) := by
  unfold M_isLeap M_isLeap_21 M_isLeap_25 M_isLeap_26
  by_cases a : y - y / 4 * 4 = 0
  · rw [brT a]
    by_cases b : y - y / 100 * 100 = 0
    · rw [brT b]
      by_cases c : y - y / 400 * 400 = 0
      · rw [brT c, if_pos ⟨a, Or.inr c⟩]; rfl
      · rw [brF c, if_neg (fun q => q.2.elim (fun z => z b) c)]; rfl
    · rw [brF b, if_pos ⟨a, Or.inl b⟩]; rfl
  · rw [brF a, if_neg (fun q => a q.1)]; rfl
theorem dom_eq (nf : Nat) (y : Int32) {m : Nat} (h1 : 1 ≤ m) (h2 : m ≤ 12) : FX1_daysOfMonth nf y (nI m) = M_daysOf nf (nI m) y := by
  unfold FX1_daysOfMonth M_daysOf
  rw [leap_tot, brF (show ¬ nI m < (1 : Int32) from nI_nlt (b := 1) h1 (by omega)), brT (show nI m ≤ (12 : Int32) from nI_le (b := 12) h2 (by omega))]
  have key : (br (y - y / 4 * 4 = 0) (br (y - y / 100 * 100 = 0) (br (y - y / 400 * 400 = 0) (FX1_daysOfMonth_34 nf (nI m)) (FX1_daysOfMonth_38 nf (nI m))) (FX1_daysOfMonth_34 nf (nI m))) (FX1_daysOfMonth_38 nf (nI m))) = FX1_daysOfMonth_39 nf (nI m) (if (y - y / 4 * 4 = 0 ∧ (¬ y - y / 100 * 100 = 0 ∨ y - y / 400 * 400 = 0)) then 1 else 0) := by
    unfold FX1_daysOfMonth_34 FX1_daysOfMonth_38
    by_cases a : y - y / 4 * 4 = 0
    · rw [brT a]
      by_cases b : y - y / 100 * 100 = 0
      · rw [brT b]
        by_cases c : y - y / 400 * 400 = 0
        · rw [brT c, if_pos ⟨a, Or.inr c⟩]
        · rw [brF c, if_neg (fun q => q.2.elim (fun z => z b) c)]
      · rw [brF b, if_pos ⟨a, Or.inl b⟩]
    · rw [brF a, if_neg (fun q => a q.1)]
  rw [key]
  generalize (if (y - y / 4 * 4 = 0 ∧ (¬ y - y / 100 * 100 = 0 ∨ y - y / 400 * 400 = 0)) then (1 : Int32) else 0) = t
  rcases (show m = 1 ∨ m = 2 ∨ m = 3 ∨ m = 4 ∨ m = 5 ∨ m = 6 ∨ m = 7 ∨ m = 8 ∨ m = 9 ∨ m = 10 ∨ m = 11 ∨ m = 12 by omega) with rfl | rfl | rfl | rfl | rfl | rfl | rfl | rfl | rfl | rfl | rfl | rfl <;> rfl
theorem day_eq (nf : Nat) (x : Int32) : FX1_dayAsTold nf x = M_isDay nf x := by
  unfold FX1_dayAsTold M_isDay FX1_dayAsTold_10 FX1_dayAsTold_47 FX1_dayAsTold_48 M_isDay_59 M_isDay_60
  by_cases a : x < 0
  · rw [brT a, bnd_eq, brT a]; rfl
  · rw [brF a, bnd_eq, bnd_eq, brF a]
    obtain ⟨m, hm, rfl⟩ := nI_of a
    by_cases b : m ≤ 65535
    · rw [brT (show nI m ≤ (65535 : Int32) from nI_le (b := 65535) b (by omega)), brF (show ¬ (65536 : Int32) ≤ nI m from nI_ge (b := 65536) (by omega) (by omega))]
      generalize (1980 : Int32) + nI m >>> ((9 : Int32) &&& 31) = yr
      rw [pk_shrN hm ((5 : Int32) &&& 31) 5 (by decide), pk_andN (n := m / 2 ^ 5) (by omega) (m := 15) 4 (by decide), pk_andN (n := m) (by omega) (m := 31) 5 (by decide)]
      have h16 : m / 2 ^ 5 % 2 ^ 4 < 16 := Nat.mod_lt _ (by decide)
      generalize m / 2 ^ 5 % 2 ^ 4 = mo at h16
      have h32 : m % 2 ^ 5 < 32 := Nat.mod_lt _ (by decide)
      generalize m % 2 ^ 5 = dy at h32
      by_cases d0 : dy < 1
      · rw [brT (show nI dy < (1 : Int32) from nI_lt (b := 1) d0 (by omega))]
        by_cases m1 : mo < 1
        · rw [brT (show nI mo < (1 : Int32) from nI_lt (b := 1) m1 (by omega))]
        · rw [brF (show ¬ nI mo < (1 : Int32) from nI_nlt (b := 1) (by omega) (by omega))]
          by_cases m2 : 12 < mo
          · rw [brT (show (12 : Int32) < nI mo from nI_lt (a := 12) m2 (by omega))]
          · rw [brF (show ¬ (12 : Int32) < nI mo from nI_nlt (a := 12) (by omega) (by omega)), brT (show nI dy < (1 : Int32) from nI_lt (b := 1) d0 (by omega))]
      · rw [brF (show ¬ nI dy < (1 : Int32) from nI_nlt (b := 1) (by omega) (by omega))]
        have z : (0 : Int32) < nI dy := nI_lt (a := 0) (by omega) (by omega)
        by_cases m1 : mo < 1
        · rw [brT (show nI mo < (1 : Int32) from nI_lt (b := 1) m1 (by omega))]
          unfold FX1_daysOfMonth FX1_daysOfMonth_11
          rw [brT (show nI mo < (1 : Int32) from nI_lt (b := 1) m1 (by omega)), obnd_some, brT z]
        · rw [brF (show ¬ nI mo < (1 : Int32) from nI_nlt (b := 1) (by omega) (by omega))]
          by_cases m2 : 12 < mo
          · rw [brT (show (12 : Int32) < nI mo from nI_lt (a := 12) m2 (by omega))]
            unfold FX1_daysOfMonth FX1_daysOfMonth_11
            rw [brF (show ¬ nI mo < (1 : Int32) from nI_nlt (b := 1) (by omega) (by omega)), brF (show ¬ nI mo ≤ (12 : Int32) from nI_ge (a := 12) m2 (by omega)), obnd_some, brT z]
          · rw [brF (show ¬ (12 : Int32) < nI mo from nI_nlt (a := 12) (by omega) (by omega)), brF (show ¬ nI dy < (1 : Int32) from nI_nlt (b := 1) (by omega) (by omega)), dom_eq nf yr (by omega) (by omega)]
    · rw [brF (show ¬ nI m ≤ (65535 : Int32) from nI_ge (a := 65535) (by omega) (by omega)), brT (show (65536 : Int32) ≤ nI m from nI_le (a := 65536) (by omega) (by omega))]; rfl
theorem time_eq (nf : Nat) (x : Int32) : FX1_timeAsTold nf x = M_isTime nf x := rfl
theorem made_eq (nf : Nat) (x y z : Int32) : FX1_madeAsTold nf x y z = M_isMade nf x y z := by
  unfold FX1_madeAsTold M_isMade
  rw [day_eq, time_eq]
  have e : ∀ w : Int32, ((199 : Int32) < w ↔ (200 : Int32) ≤ w) := fun w => by
    rw [ltI, leI]
    have : (199 : Int32).toInt = 199 := rfl
    have : (200 : Int32).toInt = 200 := rfl
    omega
  by_cases h : (200 : Int32) ≤ z
  · rw [brT h, brT ((e z).mpr h)]; rfl
  · rw [brF h, brF (fun q => h ((e z).mp q))]; rfl
