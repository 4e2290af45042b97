/-! make: short names with tails -/
def shd (x : Nat) : Nat := if x = 32 ∨ x = 46 then 0 else if sgn (cap x) then cap x else 95
theorem shd_lt (x : Nat) : shd x < 128 := by
  unfold shd
  split
  · omega
  · split
    · rename_i h; exact (sgn_lt h).2.1
    · omega
def lpz (N : List Nat) : Nat → Nat
  | 0 => 0
  | q + 1 => if N.getD (q + 1) 0 = 46 then q + 1 else lpz N q
/-- the last point that is not the first letter, or 0 -/
def lpt (N : List Nat) : Nat := lpz N (N.length - 1)
theorem lpz_ok (N : List Nat) : ∀ q, lpz N q ≤ q ∧ (lpz N q ≠ 0 → N.getD (lpz N q) 0 = 46) ∧ ∀ t, lpz N q < t → t ≤ q → N.getD t 0 ≠ 46
  | 0 => ⟨Nat.le_refl _, fun w => absurd rfl w, fun t t1 t2 => by rw [lpz] at t1; omega⟩
  | q + 1 => by
    rw [lpz]
    by_cases c : N.getD (q + 1) 0 = 46
    · rw [if_pos c]; exact ⟨Nat.le_refl _, fun _ => c, fun t t1 t2 => by omega⟩
    · rw [if_neg c]
      obtain ⟨h1, h2, h3⟩ := lpz_ok N q
      refine ⟨by omega, h2, fun t t1 t2 => ?_⟩
      by_cases e : t = q + 1
      · rw [e]; exact c
      · exact h3 t t1 (by omega)
def sto (N : List Nat) : Nat := if lpt N = 0 then N.length else lpt N
/-- what the units of N from i on, before j, become -/
def shl (N : List Nat) (i : Nat) : Nat → List Nat
  | 0 => []
  | m + 1 => (if shd (N.getD i 0) = 0 then [] else [shd (N.getD i 0)]) ++ shl N (i + 1) m
theorem shl_lt (N : List Nat) : ∀ m i x, x ∈ shl N i m → x < 128 ∧ x ≠ 0
  | 0, _, x, h => absurd h (by simp [shl])
  | m + 1, i, x, h => by
    rw [shl] at h
    rcases List.mem_append.mp h with h | h
    · by_cases c : shd (N.getD i 0) = 0
      · rw [if_pos c] at h; exact absurd h (by simp)
      · rw [if_neg c] at h
        rw [List.mem_singleton] at h
        rw [h]; exact ⟨shd_lt _, c⟩
    · exact shl_lt N m (i + 1) x h
theorem shl_len (N : List Nat) : ∀ m i, (shl N i m).length ≤ m
  | 0, _ => Nat.le_refl _
  | m + 1, i => by
    rw [shl, List.length_append]
    have := shl_len N m (i + 1)
    split
    · simp; omega
    · simp; omega
def bas (N : List Nat) : List Nat := shl N 0 (sto N)
def ext (N : List Nat) : List Nat := shl N (sto N + 1) (N.length - (sto N + 1))
def dg (k : Nat) : Nat := if k < 10 then 1 else if k < 100 then 2 else if k < 1000 then 3 else if k < 10000 then 4 else 5
theorem dg_b (k : Nat) : 1 ≤ dg k ∧ dg k ≤ 5 := by
  unfold dg
  split
  · omega
  · split
    · omega
    · split
      · omega
      · split <;> omega
theorem dg_pow {k : Nat} (h1 : 1 ≤ k) (h2 : k < 100000) {j : Nat} (hj : j ≤ 5) : k / 10 ^ j = 0 ↔ dg k ≤ j := by
  unfold dg
  rcases (show j = 0 ∨ j = 1 ∨ j = 2 ∨ j = 3 ∨ j = 4 ∨ j = 5 by omega) with w | w | w | w | w | w <;> subst w <;> simp only [Nat.reducePow] <;> split <;> (try split) <;> (try split) <;> (try split) <;> omega
/-- the letters of the base that stay -/
def kp (N : List Nat) (k : Nat) : Nat := min (7 - dg k) (bas N).length
def tlB (N : List Nat) (k i : Nat) : Nat := if i < kp N k then (bas N).getD i 0 else if i = kp N k then 126 else if i ≤ kp N k + dg k then 48 + k / 10 ^ (kp N k + dg k - i) % 10 else if i < 8 then 32 else if i - 8 < (ext N).length then (ext N).getD (i - 8) 0 else 32
theorem tlB_lt (N : List Nat) (k i : Nat) : tlB N k i < 128 := by
  have hd := dg_b k
  have hk : kp N k ≤ (bas N).length := Nat.min_le_right _ _
  unfold tlB
  split
  · have := getD_mem (l := bas N) (q := i) (by omega)
    exact (shl_lt N _ _ _ this).1
  · split
    · omega
    · split
      · have := Nat.mod_lt (k / 10 ^ (kp N k + dg k - i)) (show 0 < 10 by omega); omega
      · split
        · omega
        · split
          · rename_i h
            have := getD_mem (l := ext N) (q := i - 8) h
            exact (shl_lt N _ _ _ this).1
          · omega
theorem tlB_inj {N : List Nat} {k k' : Nat} (h1 : 1 ≤ k) (h2 : k < 100000) (h1' : 1 ≤ k') (h2' : k' < 100000) (h : ∀ i, i < 11 → tlB N k i = tlB N k' i) : k = k' := by
  have key : ∀ a b, 1 ≤ a → a < 100000 → 1 ≤ b → b < 100000 → (∀ i, i < 11 → tlB N a i = tlB N b i) → dg a < dg b → False := fun a b ha1 ha2 hb1 hb2 hab hlt => by
    have da := dg_b a
    have db := dg_b b
    by_cases c : kp N b = kp N a
    · have e := hab (kp N a + dg a + 1) (by have : kp N a ≤ 7 - dg a := Nat.min_le_left _ _; omega)
      have hka : kp N a ≤ 7 - dg b := by rw [← c]; exact Nat.min_le_left _ _
      unfold tlB at e
      rw [if_neg (by omega), if_neg (by omega), if_neg (by omega), if_pos (by omega), c, if_neg (by omega), if_neg (by omega), if_pos (by omega)] at e
      omega
    · have e1 : kp N b ≤ 7 - dg b := Nat.min_le_left _ _
      have e2 : kp N b ≤ (bas N).length := Nat.min_le_right _ _
      have e3 : kp N a ≤ 7 - dg a := Nat.min_le_left _ _
      have e4 : kp N a ≤ (bas N).length := Nat.min_le_right _ _
      have e5 : kp N b = 7 - dg b ∨ kp N b = (bas N).length := by unfold kp; omega
      have e6 : kp N a = 7 - dg a ∨ kp N a = (bas N).length := by unfold kp; omega
      have e := hab (kp N a) (by omega)
      unfold tlB at e
      rw [if_neg (by omega), if_pos rfl, if_neg (by omega), if_neg (by omega), if_pos (by omega)] at e
      have := Nat.mod_lt (b / 10 ^ (kp N b + dg b - kp N a)) (show 0 < 10 by omega)
      omega
  rcases Nat.lt_trichotomy (dg k) (dg k') with c | c | c
  · exact absurd c (fun c => key k k' h1 h2 h1' h2' h c)
  · have hkp : kp N k' = kp N k := by unfold kp; rw [c]
    have hkl : kp N k ≤ 7 - dg k := Nat.min_le_left _ _
    have db := dg_b k
    have dig : ∀ j, j < dg k → k / 10 ^ j % 10 = k' / 10 ^ j % 10 := fun j hj => by
      have e := h (kp N k + dg k - j) (by omega)
      unfold tlB at e
      rw [if_neg (by omega), if_neg (by omega), if_pos (by omega), hkp, ← c, if_neg (by omega), if_neg (by omega), if_pos (by omega), show kp N k + dg k - (kp N k + dg k - j) = j by omega] at e
      omega
    have z1 := (dg_pow h1 h2 (j := dg k) db.2).mpr (Nat.le_refl _)
    have z2 := (dg_pow h1' h2' (j := dg k) db.2).mpr (by omega)
    have d0 := dig 0
    have d1 := dig 1
    have d2 := dig 2
    have d3 := dig 3
    have d4 := dig 4
    clear dig h key
    rcases (show dg k = 1 ∨ dg k = 2 ∨ dg k = 3 ∨ dg k = 4 ∨ dg k = 5 by omega) with w | w | w | w | w <;> rw [w] at z1 z2 d0 d1 d2 d3 d4 <;> simp only [Nat.reducePow] at z1 z2 d0 d1 d2 d3 d4 <;> omega
  · exact absurd c (fun c => key k' k h1' h2' h1 h2 (fun i hi => (h i hi).symm) c)
theorem nodupLe {α : Type} [DecidableEq α] : ∀ (l1 l2 : List α), l1.Nodup → (∀ x, x ∈ l1 → x ∈ l2) → l1.length ≤ l2.length
  | [], _, _, _ => Nat.zero_le _
  | x :: l1, l2, hn, h => by
    obtain ⟨h1, h2⟩ := List.nodup_cons.mp hn
    have hx := h x List.mem_cons_self
    have := nodupLe l1 (l2.erase x) h2 (fun y hy => (List.mem_erase_of_ne (fun e => h1 (by rw [← e]; exact hy))).mpr (h y (List.mem_cons_of_mem _ hy)))
    rw [List.length_erase_of_mem hx] at this
    have := List.length_pos_of_mem hx
    simp only [List.length_cons]
    omega
/-- one of the first so many numbers is free -/
theorem tail_free {N : List Nat} {d A : Nat → Nat} {its : List (Nat × Nat)} (hl : its.length < 50000) : ∃ k, 1 ≤ k ∧ k ≤ its.length + 1 ∧ ¬ ∃ e, e ∈ its ∧ shB d A (tlB N k) e := by
  apply Classical.byContradiction
  intro w
  have w2 : ∀ k, 1 ≤ k → k ≤ its.length + 1 → ∃ e, e ∈ its ∧ shB d A (tlB N k) e := fun k k1 k2 => Classical.byContradiction (fun q => w ⟨k, k1, k2, q⟩)
  have hN : ((List.range (its.length + 1)).map (fun k => (List.range 11).map (tlB N (k + 1)))).Nodup := by
    refine List.pairwise_map.mpr (List.Pairwise.imp_of_mem ?_ List.nodup_range)
    intro a b ha hb hab e
    rw [List.mem_range] at ha hb
    apply hab
    have : a + 1 = b + 1 := tlB_inj (N := N) (by omega) (by omega) (by omega) (by omega) (fun i hi => by
      have := congrArg (fun l => l.getD i 0) e
      simp only [getD_mapR hi] at this
      exact this)
    omega
  have hle := nodupLe _ (its.map (fun e => (List.range 11).map (fun i => d (A e.1 + i)))) hN (fun x hx => by
    obtain ⟨k, hk, rfl⟩ := List.mem_map.mp hx
    rw [List.mem_range] at hk
    obtain ⟨e, he, hs⟩ := w2 (k + 1) (by omega) (by omega)
    refine List.mem_map.mpr ⟨e, he, ?_⟩
    exact List.map_congr_left (fun i hi => hs i (List.mem_range.mp hi)))
  rw [List.length_map, List.length_map, List.length_range] at hle
  omega
/-- the least free number -/
theorem tail_least {N : List Nat} {d A : Nat → Nat} {its : List (Nat × Nat)} (hl : its.length < 50000) : ∃ k, 1 ≤ k ∧ k ≤ its.length + 1 ∧ (¬ ∃ e, e ∈ its ∧ shB d A (tlB N k) e) ∧ ∀ j, 1 ≤ j → j < k → ∃ e, e ∈ its ∧ shB d A (tlB N j) e := by
  obtain ⟨k0, a1, a2, a3⟩ := tail_free (N := N) (d := d) (A := A) hl
  have : ∀ m k, k + m = k0 → 1 ≤ k → (∀ j, 1 ≤ j → j < k → ∃ e, e ∈ its ∧ shB d A (tlB N j) e) → ∃ k, 1 ≤ k ∧ k ≤ its.length + 1 ∧ (¬ ∃ e, e ∈ its ∧ shB d A (tlB N k) e) ∧ ∀ j, 1 ≤ j → j < k → ∃ e, e ∈ its ∧ shB d A (tlB N j) e := by
    intro m
    induction m with
    | zero => intro k hk h1 h2; exact ⟨k, h1, by omega, by rw [show k = k0 by omega]; exact a3, h2⟩
    | succ m ih =>
      intro k hk h1 h2
      by_cases c : ∃ e, e ∈ its ∧ shB d A (tlB N k) e
      · refine ih (k + 1) (by omega) (by omega) (fun j j1 j2 => ?_)
        by_cases e : j = k
        · rw [e]; exact c
        · exact h2 j j1 (by omega)
      · exact ⟨k, h1, by omega, c, h2⟩
  exact this (k0 - 1) 1 (by omega) (by omega) (fun j j1 j2 => by omega)
