/-! writes -/
theorem uv_byte (z : Int32) : uv (z.toInt8.toInt32) % 256 = uv z % 256 := by
  unfold uv
  rw [Int8.toBitVec_toInt32, Int32.toBitVec_toInt8]
  apply Nat.eq_of_testBit_eq
  intro i
  rw [show (256 : Nat) = 2 ^ 8 from rfl, Nat.testBit_mod_two_pow, Nat.testBit_mod_two_pow]
  by_cases hi : i < 8
  · simp only [hi, decide_true, Bool.true_and]
    rw [BitVec.testBit_toNat, BitVec.testBit_toNat, BitVec.getLsbD_signExtend]
    simp only [show i < 32 by omega, hi, decide_true, Bool.true_and, if_true]
    rw [BitVec.getLsbD_signExtend]
    simp only [show i < 32 by omega, hi, decide_true, Bool.true_and, if_true]
  · simp [hi]
def lU (x : Int64) : Nat := x.toBitVec.toNat
theorem lsh8 : ∀ i, i < 8 → ((nI (8 * i)).toInt64 &&& 63).toBitVec.toNat = 8 * i ∧ (((nI (8 * i)).toInt64 &&& 63).toBitVec.smod 64).toNat = 8 * i := by decide
theorem setbyte (x : Int64) {i : Nat} (hi : i < 8) : uv (vp_nar .byte (((x >>> ((nI (8 * i)).toInt64 &&& 63)).toInt32).toInt8.toInt32)) % 256 = lU x / 256 ^ i % 256 := by
  rw [vp_nar_byte, uv_byte, uv_byte]
  unfold uv lU
  have h : ((x >>> ((nI (8 * i)).toInt64 &&& 63)).toInt32).toBitVec = (x.toBitVec.sshiftRight (8 * i)).signExtend 32 := by
    rw [Int64.toBitVec_toInt32, Int64.toBitVec_shiftRight, BitVec.sshiftRight_eq', (lsh8 i hi).2]
  rw [h]
  apply Nat.eq_of_testBit_eq
  intro j
  rw [show (256 : Nat) = 2 ^ 8 from rfl, ← Nat.pow_mul, Nat.testBit_mod_two_pow, Nat.testBit_mod_two_pow, Nat.testBit_div_two_pow, BitVec.testBit_toNat, BitVec.testBit_toNat]
  by_cases hj : j < 8
  · simp only [hj, decide_true, Bool.true_and]
    rw [BitVec.getLsbD_signExtend]
    simp only [show j < 32 by omega, show j < 64 by omega, decide_true, Bool.true_and, if_true]
    rw [BitVec.getLsbD_sshiftRight, Nat.add_comm j (8 * i)]
    simp only [show ¬ 64 ≤ j by omega, show 8 * i + j < 64 by omega, decide_false, Bool.not_false, Bool.true_and, if_true]
  · simp [hj]
theorem nI_mulL (a b : Nat) : nI a * nI b = nI (a * b) := pk_mul a b
/-- only array 1 changed -/
def offA (k : Nat) (ar ar' : AR) : Prop := ∀ j, j ≠ k → ar' j = ar j
theorem offA.rf {k : Nat} {ar : AR} : offA k ar ar := fun _ _ => rfl
theorem offA.tr {k : Nat} {a b c : AR} (h1 : offA k a b) (h2 : offA k b c) : offA k a c := fun j hj => (h2 j hj).trans (h1 j hj)
theorem wr_succ (d : Nat → Nat) (p n v q : Nat) : (if q = p + n then v / 256 ^ n % 256 else wr d p n v q) = wr d p (n + 1) v q := by
  unfold wr
  by_cases h1 : q = p + n
  · rw [if_pos h1, if_pos (by omega), h1, Nat.add_sub_cancel_left]
  · rw [if_neg h1]
    by_cases h2 : p ≤ q ∧ q < p + n
    · rw [if_pos h2, if_pos (by omega)]
    · rw [if_neg h2, if_neg (by omega)]
theorem wr_zero (d : Nat → Nat) (p v : Nat) : wr d p 0 v = d := funext fun q => if_neg (by omega)
theorem M_set_loop {nf : Nat} {fi : FI} {x : Int64} {p n : Nat} (hp : p + n ≤ 524288) (hn : n ≤ 8) : ∀ (m i kf : Nat) (ar : AR) (d : Nat → Nat), i + m = n → m < kf → RD ar (wr d p i (lU x)) → ∃ ar', M_set_3 nf kf (nI p) (nI n) x (nI i) fi ar = some ((), fi, ar') ∧ RD ar' (wr d p n (lU x)) ∧ offA 1 ar ar' := by
  intro m
  induction m with
  | zero =>
    intro i kf ar d hi hk hd
    obtain ⟨kf, rfl⟩ : ∃ k, kf = k + 1 := ⟨kf - 1, by omega⟩
    refine ⟨ar, ?_, by rw [show n = i by omega]; exact hd, offA.rf⟩
    show M_set_3b _ nf _ _ _ _ _ _ = _
    unfold M_set_3b
    rw [brT (nI_le (by omega) (by omega))]
  | succ m ih =>
    intro i kf ar d hi hk hd
    obtain ⟨kf, rfl⟩ : ∃ k, kf = k + 1 := ⟨kf - 1, by omega⟩
    have e8 : (8 : Int32) * nI i = nI (8 * i) := pk_mul 8 i
    obtain ⟨ar', h1, h2, h3⟩ := ih (i + 1) kf (va_up ar 1 (upd (ar 1) (p + i) (vp_nar .byte (((x >>> ((nI (8 * i)).toInt64 &&& 63)).toInt32).toInt8.toInt32)))) d (by omega) (by omega) (fun q hq => by
      rw [va_up_self]
      unfold mb upd
      rw [← wr_succ]
      by_cases h : q = p + i
      · rw [if_pos h, if_pos h, setbyte x (by omega)]
      · rw [if_neg h, if_neg h]; exact hd q hq)
    refine ⟨ar', ?_, h2, fun j hj => by rw [h3 j hj, va_up_ne _ _ hj]⟩
    show M_set_3b _ nf _ _ _ _ _ _ = _
    unfold M_set_3b
    rw [brF (nI_ge (by omega) (by omega)), nI_add, gdT (vpin_nI (by omega) (by decide)), bnd_eq, bnd_eq, nI_clamp (by omega), e8, nI_1]
    exact h1
theorem M_set_ok {nf : Nat} {fi : FI} {ar : AR} {d : Nat → Nat} (hd : RD ar d) {p n : Nat} (x : Int64) (hp : p + n ≤ 524288) (hn : n ≤ 8) (hnf : 9 ≤ nf) : ∃ ar', M_set nf fi ar (nI p) (nI n) x = some ((), fi, ar') ∧ RD ar' (wr d p n (lU x)) ∧ offA 1 ar ar' := by
  have := M_set_loop (nf := nf) (fi := fi) (x := x) hp hn n 0 nf ar d (by omega) (by omega) (by rw [wr_zero]; exact hd)
  exact this
theorem lU_i2l {v : Nat} : lU ((nI v).toInt64) % 2 ^ 32 = v % 2 ^ 32 := by
  unfold lU
  rw [Int32.toBitVec_toInt64]
  apply Nat.eq_of_testBit_eq
  intro j
  rw [Nat.testBit_mod_two_pow, Nat.testBit_mod_two_pow, BitVec.testBit_toNat]
  by_cases hj : j < 32
  · simp only [hj, decide_true, Bool.true_and]
    rw [BitVec.getLsbD_signExtend]
    simp only [show j < 64 by omega, decide_true, Bool.true_and, hj, if_true]
    show (BitVec.ofNat 32 v).getLsbD j = _
    rw [BitVec.getLsbD_ofNat]
    simp [hj]
  · simp [hj]
theorem wr_mod {d : Nat → Nat} {p n v w : Nat} (hn : n ≤ 4) (h : v % 2 ^ 32 = w % 2 ^ 32) : wr d p n v = wr d p n w := by
  funext q
  unfold wr
  by_cases hq : p ≤ q ∧ q < p + n
  · rw [if_pos hq, if_pos hq]
    have h4 : q - p < 4 := by omega
    have key : ∀ u : Nat, u / 256 ^ (q - p) % 256 = u % 2 ^ 32 / 256 ^ (q - p) % 256 := fun u => by
      rcases (show q - p = 0 ∨ q - p = 1 ∨ q - p = 2 ∨ q - p = 3 by omega) with h | h | h | h <;> rw [h] <;> simp <;> omega
    rw [key v, key w, h]
  · rw [if_neg hq, if_neg hq]
theorem wr_i2l {d : Nat → Nat} {p n v : Nat} (hn : n ≤ 4) : wr d p n (lU ((nI v).toInt64)) = wr d p n v := wr_mod hn lU_i2l
