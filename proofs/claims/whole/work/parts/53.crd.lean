/-! the class's other readers and writers of bytes -/
theorem shl_nI (x : Int32) (s : Int32) (k : Nat) (hs : (s.toBitVec.smod 32).toNat = k) : x <<< s = nI (uv x * 2 ^ k % 2 ^ 32) := by
  have h := pk_shl x s k hs
  rw [← nI_uv (x <<< s)]
  congr 1
theorem FX3_two_eq {nf : Nat} {ln : LN} {fi : FI} {ar : AR} {d : Nat → Nat} (hd : CD ln ar d) {p : Nat} (hp : p + 1 < 4 * ln 0) : FX3_two nf ln fi ar (nI p) = some (nI (tw d p), fi, ar) := by
  have hl := hd.1
  have hq : p / 4 < ln 0 := by omega
  have hj : p % 4 < 4 := Nat.mod_lt _ (by decide)
  have hw := uv_lt (ar 0 (p / 4))
  have e0 := hd.2 p (by omega)
  have e1 := hd.2 (p + 1) hp
  unfold FX3_two FX3_two_54 FX3_two_55 FX3_two_79
  rw [bnd_eq, ix4 (by omega), brF (nI_pos (by omega)), brT (show nI (p / 4) < Int32.ofNat (ln 0) from nI_lt hq (by omega)), gdT (vpin_nI hq (by omega)), bnd_eq, nI_clamp (by omega), lo4 (by omega), ushr4 _ hj, pk_andN (by omega) (m := 3) 2 (by decide), nI_1]
  by_cases h3 : p % 4 = 3
  · rw [brT (show nI (p % 2 ^ 2) = (3 : Int32) by rw [show p % 2 ^ 2 = 3 from h3]; rfl), brF (show ¬ Int32.ofNat (ln 0) ≤ nI (p / 4 + 1) from nI_ge (by omega) (by omega)), brF (show ¬ (1 : Int32) = 0 by decide), gdT (vpin_nI (by omega) (by omega)), nI_clamp (by omega), shl_nI _ _ 8 (by decide)]
    have h4 : uv (ar 0 (p / 4 + 1)) * 2 ^ 8 % 2 ^ 32 = (uv (ar 0 (p / 4 + 1)) % 2 ^ 24) * 2 ^ 8 := by omega
    rw [h4, or_nI (by rw [h3]; omega), pk_andN (by rw [h3]; omega) (m := 65535) 16 (by decide)]
    unfold tw
    rw [← e0, ← e1]
    unfold cb
    rw [h3, show (p + 1) / 4 = p / 4 + 1 by omega, show (p + 1) % 4 = 0 by omega]
    congr 3
    omega
  · rw [brF (show ¬ nI (p % 2 ^ 2) = (3 : Int32) from fun h => h3 ((nI_eq (by omega) (by omega)).mp h)), brT rfl]
    have hb : uv (ar 0 (p / 4)) / 2 ^ (8 * (p % 4)) < 2 ^ 32 := Nat.lt_of_le_of_lt (Nat.div_le_self _ _) hw
    rw [pk_andN hb (m := 65535) 16 (by decide)]
    unfold tw
    rw [← e0, ← e1]
    unfold cb
    rw [show (p + 1) / 4 = p / 4 by omega, show (p + 1) % 4 = p % 4 + 1 by omega]
    congr 3
    generalize uv (ar 0 (p / 4)) = u
    rw [show 8 * (p % 4 + 1) = 8 * (p % 4) + 8 by omega, Nat.pow_add, ← Nat.div_div_eq_div_mul]
    generalize u / 2 ^ (8 * (p % 4)) = w
    omega
theorem twC_lt {ln : LN} {ar : AR} {d : Nat → Nat} (hd : CD ln ar d) {p : Nat} (hp : p + 1 < 4 * ln 0) : tw d p < 65536 := by
  have := hd.lt (show p < 4 * ln 0 by omega); have := hd.lt hp; unfold tw; omega
theorem twR_lt {ar : AR} {d : Nat → Nat} (hd : RD ar d) {p : Nat} (hp : p + 1 < 524288) : tw d p < 65536 := by
  have := hd.lt (show p < 524288 by omega); have := hd.lt hp; unfold tw; omega
theorem foC_lt {ln : LN} {ar : AR} {d : Nat → Nat} (hd : CD ln ar d) {p : Nat} (hp : p + 3 < 4 * ln 0) : fo d p < 2 ^ 32 := by
  have := twC_lt hd (show p + 1 < 4 * ln 0 by omega); have := twC_lt hd (show p + 2 + 1 < 4 * ln 0 by omega); unfold fo; omega
theorem foR_lt {ar : AR} {d : Nat → Nat} (hd : RD ar d) {p : Nat} (hp : p + 3 < 524288) : fo d p < 2 ^ 32 := by
  have := twR_lt hd (show p + 1 < 524288 by omega); have := twR_lt hd (show p + 2 + 1 < 524288 by omega); unfold fo; omega
/-- the first cluster that an entry at p tells -/
def fcl (d : Nat → Nat) (p : Nat) : Nat := tw d (p + 20) * 65536 + tw d (p + 26)
theorem or_nI' {a b k : Nat} (ha : a < 2 ^ k) : nI (b * 2 ^ k) ||| nI a = nI (b * 2 ^ k + a) := by
  rw [nx_or, Nat.or_comm, ← nx_or, or_nI ha, Nat.add_comm]
theorem FX3_firstCluster_eq {nf : Nat} {ln : LN} {fi : FI} {ar : AR} {d : Nat → Nat} (hd : CD ln ar d) {p : Nat} (hp : p + 27 < 4 * ln 0) : FX3_firstCluster nf ln fi ar (nI p) = some (nI (fcl d p), fi, ar) := by
  unfold FX3_firstCluster
  have h1 := twC_lt hd (show p + 20 + 1 < 4 * ln 0 by omega)
  have h2 := twC_lt hd (show p + 26 + 1 < 4 * ln 0 by omega)
  rw [show nI p + (20 : Int32) = nI (p + 20) from nI_add p 20, show nI p + (26 : Int32) = nI (p + 26) from nI_add p 26, FX3_two_eq hd (by omega), obnd3_some, FX3_two_eq hd (by omega), obnd3_some, pk_shlN ((16 : Int32) &&& 31) 16 (by decide) (by omega), or_nI' (by omega)]
  rfl
theorem M_firstOf_eq {nf : Nat} {fi : FI} {ar : AR} {d : Nat → Nat} (hd : RD ar d) {p : Nat} (hp : p + 27 < 524288) : M_firstOf nf fi ar (nI p) = some (nI (fcl d p), fi, ar) := by
  unfold M_firstOf
  have h1 := twR_lt hd (show p + 20 + 1 < 524288 by omega)
  have h2 := twR_lt hd (show p + 26 + 1 < 524288 by omega)
  rw [show nI p + (20 : Int32) = nI (p + 20) from nI_add p 20, show nI p + (26 : Int32) = nI (p + 26) from nI_add p 26, M_two_eq hd (by omega), obnd3_some, M_two_eq hd (by omega), obnd3_some, pk_shlN ((16 : Int32) &&& 31) 16 (by decide) (by omega), or_nI' (by omega)]
  rfl
theorem FX3_putFirstCluster_ok {nf : Nat} {ln : LN} {fi : FI} {ar : AR} {d : Nat → Nat} (hd : CD ln ar d) {p x : Nat} (hx : x < 65536) (hp : p + 27 < 4 * ln 0) : ∃ ar', FX3_putFirstCluster nf ln fi ar (nI p) (nI x) = some ((), fi, ar') ∧ CD ln ar' (wr (wr d (p + 20) 2 0) (p + 26) 2 x) ∧ offA 0 ar ar' := by
  obtain ⟨a1, h1, h2, h3⟩ := FX3_putTwo_ok (nf := nf) (fi := fi) hd (nI (x / 2 ^ 16)) (show p + 20 + 1 < 4 * ln 0 by omega)
  obtain ⟨a2, g1, g2, g3⟩ := FX3_putTwo_ok (nf := nf) (fi := fi) h2 (nI x) (show p + 26 + 1 < 4 * ln 0 by omega)
  refine ⟨a2, ?_, ?_, h3.tr g3⟩
  · unfold FX3_putFirstCluster
    rw [show nI p + (20 : Int32) = nI (p + 20) from nI_add p 20, show nI p + (26 : Int32) = nI (p + 26) from nI_add p 26, pk_shrN (by omega) _ 16 (by decide), h1, obnd3_some, g1, obnd3_some]
  · rw [uv_nI (by omega), uv_nI (by omega), show x / 2 ^ 16 = 0 by omega] at g2
    exact g2
/-- n bytes all v from p on -/
def fil (d : Nat → Nat) (p n v : Nat) : Nat → Nat := fun q => if p ≤ q ∧ q < p + n then v else d q
theorem fil_succ (d : Nat → Nat) (p n v : Nat) : wr (fil d p n (v % 256)) (p + n) 1 v = fil d p (n + 1) (v % 256) := by
  funext q
  unfold wr fil
  by_cases h : p + n ≤ q ∧ q < p + n + 1
  · rw [if_pos h, if_pos (by omega), show q - (p + n) = 0 by omega, Nat.pow_zero, Nat.div_one]
  · rw [if_neg h]
    by_cases h2 : p ≤ q ∧ q < p + n
    · rw [if_pos h2, if_pos (by omega)]
    · rw [if_neg h2, if_neg (by omega)]
theorem fil_zero (d : Nat → Nat) (p v : Nat) : fil d p 0 v = d := funext fun q => if_neg (by omega)
theorem FX3_fill_loop {nf : Nat} {ln : LN} {fi : FI} {v : Int32} {p n : Nat} (hp : p + n ≤ 4 * ln 0) (hn : n < 2 ^ 31) : ∀ (m i kf : Nat) (ar : AR) (d : Nat → Nat), i + m = n → m < kf → CD ln ar (fil d p i (uv v % 256)) → ∃ ar', FX3_fill_3 nf ln kf (nI p) (nI n) v (nI i) fi ar = some ((), fi, ar') ∧ CD ln ar' (fil d p n (uv v % 256)) ∧ offA 0 ar ar' := by
  intro m
  induction m with
  | zero =>
    intro i kf ar d hi hk hd
    obtain ⟨kf, rfl⟩ : ∃ k, kf = k + 1 := ⟨kf - 1, by omega⟩
    refine ⟨ar, ?_, by rw [show n = i by omega]; exact hd, offA.rf⟩
    show FX3_fill_3b _ nf ln _ _ _ _ _ _ = _
    unfold FX3_fill_3b
    rw [brT (nI_le (by omega) (by omega))]
  | succ m ih =>
    intro i kf ar d hi hk hd
    obtain ⟨kf, rfl⟩ : ∃ k, kf = k + 1 := ⟨kf - 1, by omega⟩
    obtain ⟨a1, h1, h2, h3⟩ := FX3_putOne_ok (nf := nf) (fi := fi) hd v (show p + i < 4 * ln 0 by omega)
    rw [fil_succ] at h2
    obtain ⟨a2, g1, g2, g3⟩ := ih (i + 1) kf a1 d (by omega) (by omega) h2
    refine ⟨a2, ?_, g2, h3.tr g3⟩
    show FX3_fill_3b _ nf ln _ _ _ _ _ _ = _
    unfold FX3_fill_3b
    rw [brF (nI_ge (by omega) hn), nI_add, h1, obnd3_some, bnd_eq, nI_1]
    exact g1
theorem FX3_fill_ok {nf : Nat} {ln : LN} {fi : FI} {ar : AR} {d : Nat → Nat} (hd : CD ln ar d) {p n : Nat} (v : Int32) (hp : p + n ≤ 4 * ln 0) (hn : n < nf) : ∃ ar', FX3_fill nf ln fi ar (nI p) (nI n) v = some ((), fi, ar') ∧ CD ln ar' (fil d p n (uv v % 256)) ∧ offA 0 ar ar' := by
  have hl := hd.1
  exact FX3_fill_loop (nf := nf) (fi := fi) (v := v) hp (by omega) n 0 nf ar d (by omega) hn (by rw [fil_zero]; exact hd)
