/-! about -/
theorem DOK.ent {G : Geo} {d : Nat → Nat} {f : Nat} (hD : DOK G d f) {e : Nat × Nat} (he : e ∈ dI G d f) : e4 d (dA G d f) e.1 e.2 ∧ isE d (dA G d f) (zf G f) e.1 ∧ e.2 = rn d (dA G d f) (zf G f) e.1 ∧ e.1 < dE G d f ∧ (¬ isDr d (dA G d f e.1) → fOK G d (dA G d f e.1)) := by
  obtain ⟨a1, a2, a3, a4⟩ := dI_lt he
  have h := hD.2.2.1 e.1 a1 a2
  have h4 := ((lf_zero.mp h.1).2.1 a3).1
  rw [← a4] at h4
  exact ⟨h4, a3, a4, a2, h.2 a3⟩
def nL (n : Nat) : Int64 := Int64.ofNat n
theorem nL_add (a b : Nat) : nL a + nL b = nL (a + b) := (Int64.ofNat_add a b).symm
theorem nL_mul (a b : Nat) : nL a * nL b = nL (a * b) := (Int64.ofNat_mul a b).symm
theorem nI_L {a : Nat} (h : a < 2147483648) : (nI a).toInt64 = nL a := by
  apply Int64.toInt.inj
  rw [Int32.toInt_toInt64, nI_toInt h]
  show _ = (Int64.ofNat a).toInt
  rw [Int64.toInt_ofNat_of_lt (by omega)]
theorem dayP_mo {m : Nat} (hm : m < 65536) (h : dayP (nI m)) : 1 ≤ m % 32 ∧ 1 ≤ m / 32 % 16 ∧ m / 32 % 16 ≤ 12 := by
  unfold dayP M_isDay M_isDay_59 M_isDay_60 at h
  rw [bnd_eq, pk_shrN (show m < 2147483648 by omega) ((5 : Int32) &&& 31) 5 (by decide), pk_andN (n := m / 2 ^ 5) (by omega) (m := 15) 4 (by decide), pk_andN (n := m) (by omega) (m := 31) 5 (by decide), brF (show ¬ nI m < (0 : Int32) from nI_pos (by omega)), brF (show ¬ (65536 : Int32) ≤ nI m from nI_ge (b := 65536) (by omega) (by omega))] at h
  have e1 : m / 2 ^ 5 % 2 ^ 4 = m / 32 % 16 := rfl
  have e2 : m % 2 ^ 5 = m % 32 := rfl
  rw [e1, e2] at h
  have h16 : m / 32 % 16 < 16 := Nat.mod_lt _ (by decide)
  have h32 : m % 32 < 32 := Nat.mod_lt _ (by decide)
  generalize m / 32 % 16 = mo at h h16 ⊢
  generalize m % 32 = dy at h h32 ⊢
  have ab : ¬ (gd ((0 : Int32) &&& 1 = 0) (some (0 : Int32)) = some 1) := by decide
  by_cases q1 : mo < 1
  · rw [brT (show nI mo < (1 : Int32) from nI_lt (b := 1) q1 (by omega))] at h; exact absurd h ab
  · rw [brF (show ¬ nI mo < (1 : Int32) from nI_nlt (b := 1) (by omega) (by omega))] at h
    by_cases q2 : 12 < mo
    · rw [brT (show (12 : Int32) < nI mo from nI_lt (a := 12) q2 (by omega))] at h; exact absurd h ab
    · rw [brF (show ¬ (12 : Int32) < nI mo from nI_nlt (a := 12) (by omega) (by omega))] at h
      by_cases q3 : dy < 1
      · rw [brT (show nI dy < (1 : Int32) from nI_lt (b := 1) q3 (by omega))] at h; exact absurd h ab
      · exact ⟨by omega, by omega, by omega⟩
def secN (D t : Nat) : Nat := 86400 * D + 3600 * (t / 2048) + 60 * (t / 32 % 64) + 2 * (t % 32)
theorem secC_end {D t : Nat} (hD : D < 100000) (ht : t < 65536) : (((((nI D).toInt64) * (86400 : Int64)) + ((((nI t) >>> ((11 : Int32) &&& 31)) * (3600 : Int32)).toInt64)) + (((((nI t) >>> ((5 : Int32) &&& 31)) &&& (63 : Int32)) * (60 : Int32)).toInt64)) + ((((nI t) &&& (31 : Int32)) * (2 : Int32)).toInt64) = nL (secN D t) := by
  rw [pk_shrN (show t < 2147483648 by omega) ((11 : Int32) &&& 31) 11 (by decide), pk_shrN (show t < 2147483648 by omega) ((5 : Int32) &&& 31) 5 (by decide), pk_andN (n := t / 2 ^ 5) (by omega) (m := 63) 6 (by decide), pk_andN (n := t) (by omega) (m := 31) 5 (by decide), show nI (t / 2 ^ 11) * (3600 : Int32) = nI (t / 2 ^ 11 * 3600) from pk_mul _ 3600, show nI (t / 2 ^ 5 % 2 ^ 6) * (60 : Int32) = nI (t / 2 ^ 5 % 2 ^ 6 * 60) from pk_mul _ 60, show nI (t % 2 ^ 5) * (2 : Int32) = nI (t % 2 ^ 5 * 2) from pk_mul _ 2, nI_L (by omega), nI_L (by omega), nI_L (by omega), nI_L (by omega), show nL D * (86400 : Int64) = nL (D * 86400) from nL_mul D 86400, nL_add, nL_add, nL_add]
  unfold secN
  congr 1
  show D * 86400 + t / 2048 * 3600 + t / 32 % 64 * 60 + t % 32 * 2 = _
  omega
theorem secM_end {D t : Nat} (ht : t < 65536) : ((((86400 : Int64) * nL D) + ((3600 : Int64) * (((nI t) >>> ((11 : Int32) &&& 31)).toInt64))) + ((60 : Int64) * ((((nI t) >>> ((5 : Int32) &&& 31)) &&& (63 : Int32)).toInt64))) + ((2 : Int64) * (((nI t) &&& (31 : Int32)).toInt64)) = nL (secN D t) := by
  rw [pk_shrN (show t < 2147483648 by omega) ((11 : Int32) &&& 31) 11 (by decide), pk_shrN (show t < 2147483648 by omega) ((5 : Int32) &&& 31) 5 (by decide), pk_andN (n := t / 2 ^ 5) (by omega) (m := 63) 6 (by decide), pk_andN (n := t) (by omega) (m := 31) 5 (by decide), nI_L (by omega), nI_L (by omega), nI_L (by omega), show (86400 : Int64) * nL D = nL (86400 * D) from nL_mul 86400 D, show (3600 : Int64) * nL (t / 2 ^ 11) = nL (3600 * (t / 2 ^ 11)) from nL_mul 3600 _, show (60 : Int64) * nL (t / 2 ^ 5 % 2 ^ 6) = nL (60 * (t / 2 ^ 5 % 2 ^ 6)) from nL_mul 60 _, show (2 : Int64) * nL (t % 2 ^ 5) = nL (2 * (t % 2 ^ 5)) from nL_mul 2 _, nL_add, nL_add, nL_add]
  rfl
theorem daysOf_nI (nf : Nat) (y : Int32) (m : Int32) : ∃ D, D ≤ 31 ∧ M_daysOf nf m y = some (nI D) := by
  unfold M_daysOf M_daysOf_45 M_daysOf_52
  rw [leap_tot, obnd_some]
  unfold br
  repeat' split
  all_goals first | exact ⟨28, by omega, rfl⟩ | exact ⟨29, by omega, rfl⟩ | exact ⟨30, by omega, rfl⟩ | exact ⟨31, by omega, rfl⟩
theorem sec_months {nf : Nat} {x t : Nat} {yr : Int32} (hx : x < 65536) (hm : x / 32 % 16 ≤ 12) (ht : t < 65536) : ∀ (m q D kf kf' : Nat), 1 ≤ q → x / 32 % 16 ≤ q + m → q + m ≤ 100 → m < kf → m < kf' → D + 31 * m < 100000 → ∃ E, FX1_seconds_49 nf kf (nI x) (nI t) yr (nI D) (nI q) = some (nL (secN E t)) ∧ M_seconds_67 nf kf' (nI t) yr (nI (x / 32 % 16)) (nL D) (nI q) = some (nL (secN E t)) := by
  have hsh : (nI x >>> ((5 : Int32) &&& 31)) &&& (15 : Int32) = nI (x / 32 % 16) := by
    rw [pk_shrN (show x < 2147483648 by omega) ((5 : Int32) &&& 31) 5 (by decide), pk_andN (n := x / 2 ^ 5) (by omega) (m := 15) 4 (by decide)]
  intro m
  induction m with
  | zero =>
    intro q D kf kf' h1 hq hqq hk hk' hD
    obtain ⟨kf, rfl⟩ : ∃ k, kf = k + 1 := ⟨kf - 1, by omega⟩
    obtain ⟨kf', rfl⟩ : ∃ k, kf' = k + 1 := ⟨kf' - 1, by omega⟩
    rw [show FX1_seconds_49 nf (kf + 1) = FX1_seconds_49b (FX1_seconds_49 nf kf) nf from rfl]
    rw [show M_seconds_67 nf (kf' + 1) = M_seconds_67b (M_seconds_67 nf kf') nf from rfl]
    unfold FX1_seconds_49b M_seconds_67b
    by_cases c : q < 2147483648
    · have le : nI (x / 32 % 16) ≤ nI q := nI_le (by omega) c
      rw [hsh, brT le, brT le, secC_end (by omega) ht, secM_end ht]
      exact ⟨D, rfl, rfl⟩
    · omega
  | succ m ih =>
    intro q D kf kf' h1 hq hqq hk hk' hD
    obtain ⟨kf, rfl⟩ : ∃ k, kf = k + 1 := ⟨kf - 1, by omega⟩
    obtain ⟨kf', rfl⟩ : ∃ k, kf' = k + 1 := ⟨kf' - 1, by omega⟩
    rw [show FX1_seconds_49 nf (kf + 1) = FX1_seconds_49b (FX1_seconds_49 nf kf) nf from rfl]
    rw [show M_seconds_67 nf (kf' + 1) = M_seconds_67b (M_seconds_67 nf kf') nf from rfl]
    unfold FX1_seconds_49b M_seconds_67b
    by_cases c : x / 32 % 16 ≤ q
    · have le : nI (x / 32 % 16) ≤ nI q := nI_le c (by omega)
      rw [hsh, brT le, brT le, secC_end (by omega) ht, secM_end ht]
      exact ⟨D, rfl, rfl⟩
    · have nle : ¬ nI (x / 32 % 16) ≤ nI q := nI_ge (by omega) (by omega)
      obtain ⟨w, hw, ew⟩ := daysOf_nI nf yr (nI q)
      rw [hsh, brF nle, brF nle, dom_eq nf yr h1 (by omega), ew, obnd_some, obnd_some, bnd_eq, bnd_eq, bnd_eq, bnd_eq, nI_add, nI_L (by omega), nL_add, show nI q + (1 : Int32) = nI (q + 1) from nI_add q 1]
      exact ih (q + 1) (D + w) kf kf' (by omega) (by omega) (by omega) (by omega) (by omega) (by omega)
theorem feb {nf : Nat} (y : Int32) : ∃ L, L ≤ 366 ∧ obnd (FX1_daysOfMonth nf y 2) (fun r => some ((337 : Int32) + r)) = some (nI L) ∧ ((M_isLeap nf y = some 0 ∧ L = 365) ∨ (M_isLeap nf y = some 1 ∧ L = 366)) := by
  rw [show (2 : Int32) = nI 2 from rfl, dom_eq nf y (by omega) (by omega)]
  unfold M_daysOf M_daysOf_52
  rw [brT (show nI 2 = (2 : Int32) from rfl), leap_tot, obnd_some]
  by_cases c : (y - y / 4 * 4 = 0 ∧ (¬ y - y / 100 * 100 = 0 ∨ y - y / 400 * 400 = 0))
  · rw [if_pos c, brF (by decide)]
    exact ⟨366, by omega, rfl, Or.inr ⟨rfl, rfl⟩⟩
  · rw [if_neg c, brT rfl]
    exact ⟨365, by omega, rfl, Or.inl ⟨rfl, rfl⟩⟩
theorem sec_years {nf : Nat} {x t Y : Nat} (hx : x < 65536) (hm : 1 ≤ x / 32 % 16 ∧ x / 32 % 16 ≤ 12) (ht : t < 65536) (hY : Y < 2200) (hnf : 40000 ≤ nf) : ∀ (m q D kf kf' : Nat), Y ≤ q + m → q ≤ Y → m < kf → m < kf' → D + 366 * m < 90000 → ∃ E, FX1_seconds_21 nf kf (nI x) (nI t) (nI Y) (nI D) (nI q) = some (nL (secN E t)) ∧ M_seconds_30 nf kf' (nI t) (nI Y) (nI (x / 32 % 16)) (nL D) (nI q) = some (nL (secN E t)) := by
  intro m
  induction m with
  | zero =>
    intro q D kf kf' hq hq2 hk hk' hD
    obtain ⟨kf, rfl⟩ : ∃ k, kf = k + 1 := ⟨kf - 1, by omega⟩
    obtain ⟨kf', rfl⟩ : ∃ k, kf' = k + 1 := ⟨kf' - 1, by omega⟩
    rw [show FX1_seconds_21 nf (kf + 1) = FX1_seconds_21b (FX1_seconds_21 nf kf) nf from rfl]
    rw [show M_seconds_30 nf (kf' + 1) = M_seconds_30b (M_seconds_30 nf kf') nf from rfl]
    unfold FX1_seconds_21b M_seconds_30b
    have le : nI Y ≤ nI q := nI_le (by omega) (by omega)
    rw [brT le, brT le]
    exact sec_months (nf := nf) (yr := nI Y) hx hm.2 ht 12 1 D nf nf (by omega) (by omega) (by omega) (by omega) (by omega) (by omega)
  | succ m ih =>
    intro q D kf kf' hq hq2 hk hk' hD
    obtain ⟨kf, rfl⟩ : ∃ k, kf = k + 1 := ⟨kf - 1, by omega⟩
    obtain ⟨kf', rfl⟩ : ∃ k, kf' = k + 1 := ⟨kf' - 1, by omega⟩
    rw [show FX1_seconds_21 nf (kf + 1) = FX1_seconds_21b (FX1_seconds_21 nf kf) nf from rfl]
    rw [show M_seconds_30 nf (kf' + 1) = M_seconds_30b (M_seconds_30 nf kf') nf from rfl]
    unfold FX1_seconds_21b M_seconds_30b
    by_cases c : Y ≤ q
    · have le : nI Y ≤ nI q := nI_le (by omega) (by omega)
      have hD' : D < 90000 := by omega
      rw [brT le, brT le]
      exact sec_months (nf := nf) (yr := nI Y) hx hm.2 ht 12 1 D nf nf (by omega) (by omega) (by omega) (by omega) (by omega) (by clear hD; omega)
    · have nle : ¬ nI Y ≤ nI q := nI_ge (by omega) (by omega)
      rw [brF nle, brF nle]
      obtain ⟨L, hL, e1, e2⟩ := feb (nf := nf) (nI q)
      obtain ⟨r, hr⟩ : ∃ r, FX1_daysOfMonth nf (nI q) 2 = some r := by
        cases e : FX1_daysOfMonth nf (nI q) 2 with
        | none => rw [e] at e1; exact absurd e1 (by intro w; cases w)
        | some r => exact ⟨r, rfl⟩
      rw [hr, obnd_some] at e1
      have e3 : (337 : Int32) + r = nI L := Option.some.inj e1
      rw [hr, obnd_some, e3, bnd_eq, bnd_eq, nI_add, show nI q + (1 : Int32) = nI (q + 1) from nI_add q 1]
      obtain ⟨E, g1, g2⟩ := ih (q + 1) (D + L) kf kf' (by omega) (by omega) (by omega) (by omega) (by omega)
      refine ⟨E, g1, ?_⟩
      have m55 : ∀ t1 : Int64, t1 = nL L → M_seconds_55 (M_seconds_30 nf kf') nf (nI t) (nI Y) (nI (x / 32 % 16)) (nI q) (nL D) t1 = some (nL (secN E t)) := by
        intro t1 e
        unfold M_seconds_55
        rw [e, nL_add, bnd_eq, bnd_eq, show nI q + (1 : Int32) = nI (q + 1) from nI_add q 1]
        exact g2
      rcases e2 with ⟨w1, w2⟩ | ⟨w1, w2⟩
      · rw [w1, obnd_some, brT rfl]; exact m55 _ (by rw [w2]; rfl)
      · rw [w1, obnd_some, brF (by decide)]; exact m55 _ (by rw [w2]; rfl)
theorem sec_eq {nf : Nat} {x t : Nat} (hx : x < 65536) (hd : dayP (nI x)) (ht : t < 65536) (hnf : 40000 ≤ nf) : ∃ v, FX1_seconds nf (nI x) (nI t) = some v ∧ M_seconds nf (nI x) (nI t) = some v := by
  have hm := dayP_mo hx hd
  have e9 : (1980 : Int32) + nI x >>> ((9 : Int32) &&& 31) = nI (1980 + x / 512) := by
    rw [pk_shrN (show x < 2147483648 by omega) ((9 : Int32) &&& 31) 9 (by decide)]; exact nI_add 1980 _
  have hsh : (nI x >>> ((5 : Int32) &&& 31)) &&& (15 : Int32) = nI (x / 32 % 16) := by
    rw [pk_shrN (show x < 2147483648 by omega) ((5 : Int32) &&& 31) 5 (by decide), pk_andN (n := x / 2 ^ 5) (by omega) (m := 15) 4 (by decide)]
  have hdy : (nI x &&& (31 : Int32)) - (1 : Int32) = nI (x % 32 - 1) := by
    rw [pk_andN (n := x) (by omega) (m := 31) 5 (by decide)]; exact nI_sub (b := 1) hm.1
  have hl : x % 32 < 32 := Nat.mod_lt _ (by decide)
  obtain ⟨E, g1, g2⟩ := sec_years (nf := nf) (x := x) (t := t) (Y := 1980 + x / 512) hx hm.2 ht (by omega) hnf 140 1970 (x % 32 - 1) nf nf (by omega) (by omega) (by omega) (by omega) (by omega)
  refine ⟨nL (secN E t), ?_, ?_⟩
  · unfold FX1_seconds
    rw [e9, hdy, bnd_eq, bnd_eq]; exact g1
  · unfold M_seconds
    rw [e9, hdy, hsh, bnd_eq, bnd_eq, bnd_eq, nI_L (by omega)]; exact g2
