/-! the class's writes -/
theorem toBV_shl (a : Int32) {j : Nat} (hj : j < 4) : (a <<< (nI (j * 2 ^ 3) &&& 31)).toBitVec = a.toBitVec <<< (8 * j) := by
  rw [Int32.toBitVec_shiftLeft, BitVec.shiftLeft_eq', sh8l j hj]
theorem putw_bit (w v : Int32) {j : Nat} (hj : j < 4) (t : Nat) (ht : t < 32) : ((w &&& (((255 : Int32) <<< (nI (j * 2 ^ 3) &&& 31)) ^^^ (-1))) ||| ((v &&& 255) <<< (nI (j * 2 ^ 3) &&& 31))).toBitVec.getLsbD t = if 8 * j ≤ t ∧ t < 8 * j + 8 then v.toBitVec.getLsbD (t - 8 * j) else w.toBitVec.getLsbD t := by
  have e255 : ∀ i, (255 : Int32).toBitVec.getLsbD i = decide (i < 8) := fun i => by
    show (BitVec.ofNat 32 255).getLsbD i = _
    rw [BitVec.getLsbD_ofNat, show (255 : Nat) = 2 ^ 8 - 1 from rfl, Nat.testBit_two_pow_sub_one]
    by_cases h : i < 8
    · simp [h, show i < 32 by omega]
    · simp [h]
  have em : ∀ i, i < 32 → (-1 : Int32).toBitVec.getLsbD i = true := by decide
  rw [Int32.toBitVec_or, Int32.toBitVec_and, Int32.toBitVec_xor, toBV_shl _ hj, toBV_shl _ hj, Int32.toBitVec_and, BitVec.getLsbD_or, BitVec.getLsbD_and, BitVec.getLsbD_xor, BitVec.getLsbD_shiftLeft, BitVec.getLsbD_shiftLeft, BitVec.getLsbD_and, e255, em t ht]
  by_cases h1 : t < 8 * j
  · rw [if_neg (by omega)]
    simp [h1, ht]
  · by_cases h2 : t < 8 * j + 8
    · rw [if_pos (by omega)]
      simp [h1, ht, show t - 8 * j < 8 by omega]
    · rw [if_neg (by omega)]
      simp [h1, ht, show ¬ t - 8 * j < 8 by omega]
theorem byte_bit (x i b : Nat) : (x / 2 ^ (8 * i) % 256).testBit b = (decide (b < 8) && x.testBit (8 * i + b)) := by
  rw [show (256 : Nat) = 2 ^ 8 from rfl, Nat.testBit_mod_two_pow, Nat.testBit_div_two_pow, Nat.add_comm]
theorem putw (w v : Int32) {j i : Nat} (hj : j < 4) (hi : i < 4) : uv ((w &&& (((255 : Int32) <<< (nI (j * 2 ^ 3) &&& 31)) ^^^ (-1))) ||| ((v &&& 255) <<< (nI (j * 2 ^ 3) &&& 31))) / 2 ^ (8 * i) % 256 = if i = j then uv v % 256 else uv w / 2 ^ (8 * i) % 256 := by
  apply Nat.eq_of_testBit_eq
  intro b
  rw [byte_bit]
  by_cases hb : b < 8
  · unfold uv
    rw [BitVec.testBit_toNat, putw_bit w v hj _ (by omega)]
    by_cases h : i = j
    · subst h
      rw [if_pos (by omega), if_pos rfl, Nat.add_sub_cancel_left, show (256 : Nat) = 2 ^ 8 from rfl, Nat.testBit_mod_two_pow, BitVec.testBit_toNat]
    · rw [if_neg (by omega), if_neg h, byte_bit, BitVec.testBit_toNat]
  · simp only [hb, decide_false, Bool.false_and]
    symm
    split
    · rw [show (256 : Nat) = 2 ^ 8 from rfl, Nat.testBit_mod_two_pow]; simp [hb]
    · rw [byte_bit]; simp [hb]
theorem CD.ext {ln : LN} {ar : AR} {d d' : Nat → Nat} (h : CD ln ar d) (he : ∀ p, p < 4 * ln 0 → d p = d' p) : CD ln ar d' := ⟨h.1, fun p hp => (h.2 p hp).trans (he p hp)⟩
theorem RD.ext {ar : AR} {d d' : Nat → Nat} (h : RD ar d) (he : ∀ p, p < 524288 → d p = d' p) : RD ar d' := fun p hp => (h p hp).trans (he p hp)
theorem FX3_putOne_ok {nf : Nat} {ln : LN} {fi : FI} {ar : AR} {d : Nat → Nat} (hd : CD ln ar d) {p : Nat} (v : Int32) (hp : p < 4 * ln 0) : ∃ ar', FX3_putOne nf ln fi ar (nI p) v = some ((), fi, ar') ∧ CD ln ar' (wr d p 1 (uv v)) ∧ offA 0 ar ar' := by
  have hl := hd.1
  have hq : p / 4 < ln 0 := by omega
  have hj : p % 4 < 4 := Nat.mod_lt _ (by decide)
  refine ⟨va_up ar 0 (upd (ar 0) (p / 4) ((ar 0 (p / 4) &&& (((255 : Int32) <<< (nI (p % 4 * 2 ^ 3) &&& 31)) ^^^ (-1))) ||| ((v &&& 255) <<< (nI (p % 4 * 2 ^ 3) &&& 31)))), ?_, ⟨hd.1, fun q hq2 => ?_⟩, fun j hj => va_up_ne _ _ hj⟩
  · unfold FX3_putOne FX3_putOne_54
    rw [bnd_eq, ix4 (by omega), brF (nI_pos (by omega)), brF (show ¬ Int32.ofNat (ln 0) ≤ nI (p / 4) from nI_ge hq (by omega)), bnd_eq, gdT (vpin_nI hq (by omega)), gdT (vpin_nI hq (by omega)), bnd_eq, nI_clamp (by omega), lo4 (by omega)]
  · rw [va_up_self]
    unfold cb upd wr
    by_cases h : q / 4 = p / 4
    · rw [if_pos h, putw _ _ hj (Nat.mod_lt _ (by decide))]
      by_cases h2 : q % 4 = p % 4
      · have e : q = p := by omega
        rw [if_pos h2, if_pos (by omega), e]
        simp
      · rw [if_neg h2, if_neg (by omega), ← h]
        exact hd.2 q hq2
    · rw [if_neg h, if_neg (by omega)]
      exact hd.2 q hq2
theorem wr_join {d : Nat → Nat} {p m n v : Nat} : wr (wr d p m v) (p + m) n (v / 256 ^ m) = wr d p (m + n) v := by
  funext q
  unfold wr
  by_cases h1 : p + m ≤ q ∧ q < p + m + n
  · rw [if_pos h1, if_pos (by omega), Nat.div_div_eq_div_mul, ← Nat.pow_add, show m + (q - (p + m)) = q - p by omega]
  · rw [if_neg h1]
    by_cases h2 : p ≤ q ∧ q < p + m
    · rw [if_pos h2, if_pos (by omega)]
    · rw [if_neg h2, if_neg (by omega)]
theorem wr_le4 {d : Nat → Nat} {p n v w : Nat} (h : ∀ i, i < n → v / 256 ^ i % 256 = w / 256 ^ i % 256) : wr d p n v = wr d p n w := by
  funext q
  unfold wr
  by_cases hq : p ≤ q ∧ q < p + n
  · rw [if_pos hq, if_pos hq, h _ (by omega)]
  · rw [if_neg hq, if_neg hq]
theorem uv_shr (v : Int32) (s : Int32) (k : Nat) (hs : (s.toBitVec.smod 32).toNat = k) (i : Nat) (hi : k + 8 * i + 8 ≤ 32) : uv (v >>> s) / 256 ^ i % 256 = uv v / 2 ^ k / 256 ^ i % 256 := by
  rw [show (256 : Nat) ^ i = 2 ^ (8 * i) by rw [Nat.pow_mul]]
  apply Nat.eq_of_testBit_eq
  intro b
  rw [byte_bit, Nat.div_div_eq_div_mul, ← Nat.pow_add, show (256 : Nat) = 2 ^ 8 from rfl, Nat.testBit_mod_two_pow, Nat.testBit_div_two_pow]
  by_cases hb : b < 8
  · simp only [hb, decide_true, Bool.true_and]
    unfold uv
    rw [Int32.toBitVec_shiftRight, BitVec.sshiftRight_eq', hs, BitVec.testBit_toNat, BitVec.getLsbD_sshiftRight, BitVec.testBit_toNat, show b + (k + 8 * i) = k + (8 * i + b) by omega]
    simp only [show ¬ 32 ≤ 8 * i + b by omega, show k + (8 * i + b) < 32 by omega, decide_false, Bool.not_false, Bool.true_and, if_true]
  · simp [hb]
theorem FX3_putTwo_ok {nf : Nat} {ln : LN} {fi : FI} {ar : AR} {d : Nat → Nat} (hd : CD ln ar d) {p : Nat} (v : Int32) (hp : p + 1 < 4 * ln 0) : ∃ ar', FX3_putTwo nf ln fi ar (nI p) v = some ((), fi, ar') ∧ CD ln ar' (wr d p 2 (uv v)) ∧ offA 0 ar ar' := by
  obtain ⟨a1, h1, h2, h3⟩ := FX3_putOne_ok (nf := nf) (fi := fi) hd v (show p < 4 * ln 0 by omega)
  obtain ⟨a2, g1, g2, g3⟩ := FX3_putOne_ok (nf := nf) (fi := fi) h2 (v >>> ((8 : Int32) &&& 31)) hp
  refine ⟨a2, ?_, ?_, h3.tr g3⟩
  · unfold FX3_putTwo
    rw [h1, obnd3_some, nI_1, g1, obnd3_some]
  · rw [← wr_join (m := 1) (n := 1), ← wr_le4 (v := uv (v >>> ((8 : Int32) &&& 31)))]
    · exact g2
    · intro i hi
      rw [uv_shr v _ 8 (by decide) i (by omega)]
theorem FX3_putFour_ok {nf : Nat} {ln : LN} {fi : FI} {ar : AR} {d : Nat → Nat} (hd : CD ln ar d) {p : Nat} (v : Int32) (hp : p + 3 < 4 * ln 0) : ∃ ar', FX3_putFour nf ln fi ar (nI p) v = some ((), fi, ar') ∧ CD ln ar' (wr d p 4 (uv v)) ∧ offA 0 ar ar' := by
  obtain ⟨a1, h1, h2, h3⟩ := FX3_putTwo_ok (nf := nf) (fi := fi) hd v (show p + 1 < 4 * ln 0 by omega)
  obtain ⟨a2, g1, g2, g3⟩ := FX3_putTwo_ok (nf := nf) (fi := fi) (p := p + 2) h2 (v >>> ((16 : Int32) &&& 31)) (by omega)
  refine ⟨a2, ?_, ?_, h3.tr g3⟩
  · unfold FX3_putFour
    rw [h1, obnd3_some, show nI p + (2 : Int32) = nI (p + 2) from nI_add p 2, g1, obnd3_some]
  · rw [← wr_join (m := 2) (n := 2), ← wr_le4 (v := uv (v >>> ((16 : Int32) &&& 31)))]
    · exact g2
    · intro i hi
      rw [uv_shr v _ 16 (by decide) i (by omega)]
