/-! both write an entry of the tables -/
theorem msk28 {w v : Nat} (hw : w < 4294967296) (hv : v < 268435456) : (w &&& 4026531840) ||| v = w / 268435456 * 268435456 + v := by
  apply Nat.eq_of_testBit_eq
  intro i
  rw [Nat.testBit_or, Nat.testBit_and]
  have e1 : w / 268435456 * 268435456 + v = 2 ^ 28 * (w / 2 ^ 28) + v := by
    rw [Nat.mul_comm]
  have e2 : (4026531840 : Nat) = 2 ^ 28 * (2 ^ 4 - 1) + 0 := by decide
  rw [e1, e2, Nat.testBit_two_pow_mul_add _ (show v < 2 ^ 28 from hv), Nat.testBit_two_pow_mul_add _ (show 0 < 2 ^ 28 by decide)]
  by_cases h : i < 28
  · rw [if_pos h, if_pos h, Nat.zero_testBit, Bool.and_false, Bool.false_or]
  · have hv0 : v.testBit i = false := Nat.testBit_lt_two_pow (Nat.lt_of_lt_of_le hv (show 268435456 ≤ 2 ^ i from Nat.pow_le_pow_right (n := 2) (by omega) (show 28 ≤ i by omega)))
    rw [if_neg h, if_neg h, Nat.testBit_two_pow_sub_one, Nat.testBit_div_two_pow, hv0, Bool.or_false, show i - 28 + 28 = i by omega]
    by_cases h2 : i < 32
    · rw [show decide (i - 28 < 4) = true from decide_eq_true (by omega), Bool.and_true]
    · have hw0 : w.testBit i = false := Nat.testBit_lt_two_pow (Nat.lt_of_lt_of_le hw (show 4294967296 ≤ 2 ^ i from Nat.pow_le_pow_right (n := 2) (by omega) (show 32 ≤ i by omega)))
      rw [hw0, Bool.false_and]
theorem uv_and (x y : Int32) : uv (x &&& y) = uv x &&& uv y := by
  show (x &&& y).toBitVec.toNat = _
  rw [Int32.toBitVec_and, BitVec.toNat_and]; rfl
theorem uv_or (x y : Int32) : uv (x ||| y) = uv x ||| uv y := by
  show (x ||| y).toBitVec.toNat = _
  rw [Int32.toBitVec_or, BitVec.toNat_or]; rfl
theorem msk_c {w v : Nat} (hw : w < 4294967296) (hv : v < 268435456) : (nI w &&& (-268435456 : Int32)) ||| nI v = nI (w / 268435456 * 268435456 + v) := by
  apply uv_inj
  rw [uv_or, uv_and, uv_nI (by omega), uv_nI (by omega), uv_nI (by omega), show uv (-268435456 : Int32) = 4026531840 from by decide, msk28 hw hv]
theorem msk_m {w v : Nat} (hw : w < 4294967296) (hv : v < 268435456) : nI v ||| (nI w &&& (-268435456 : Int32)) = nI (w / 268435456 * 268435456 + v) := by
  rw [Int32.or_comm]; exact msk_c hw hv
theorem link_ok {nf : Nat} {ln : LN} {fi : FI} {ar : AR} {G : Geo} {d : Nat → Nat} (hW : CW ln fi ar G d) (hb : ∀ p, d p < 256) {x v : Nat} (hx : x < G.k + 2) (hv : v < 268435456) (hnf : 5 ≤ nf) : ∃ ar', FX9_link nf ln fi ar (nI x) (nI v) = some ((), fi, ar') ∧ CW ln fi ar' G (stE G d x v) ∧ offA 0 ar ar' := by
  obtain ⟨hC, hg, hG, hl⟩ := id hW
  have b := hG.b
  have t := hG.t hx
  have bk : 512 * G.a ≤ 512 * G.n := by omega
  obtain ⟨g2, g4, g5, g6, g7, g8, g9, g10⟩ := hg
  have step : ∀ (ar : AR) (d : Nat → Nat) (j kf : Nat), (∀ p, d p < 256) → CD ln ar d → j < G.y → ∃ ar', FX9_link_2 nf ln (kf + 1) (nI x) (nI v) (nI j) fi ar = FX9_link_2 nf ln kf (nI x) (nI v) (nI (j + 1)) fi ar' ∧ CD ln ar' (st1 d (512 * (G.v + j * G.z) + 4 * x) v) ∧ offA 0 ar ar' := by
    intro ar d j kf hb hC hj
    have hj1 : j * G.z ≤ G.z := by
      have : j ≤ 1 := by omega
      have := Nat.mul_le_mul_right G.z this
      omega
    have hP : 512 * (G.v + j * G.z) + 4 * x + 4 ≤ 512 * G.a := by
      rcases b.2.2.2.2.2.2.2.2.2.2.2.2 with w | w
      · have : j = 0 := by omega
        rw [this]; omega
      · rcases (show j = 0 ∨ j = 1 by omega) with z | z
        · rw [z]; omega
        · rw [z, Nat.one_mul]; exact t.2.2.2 w
    obtain ⟨P, hPe⟩ : ∃ P, P = 512 * (G.v + j * G.z) + 4 * x := ⟨_, rfl⟩
    have hPx : (nI G.v + nI j * nI G.z) * (512 : Int32) + (4 : Int32) * nI x = nI P := by
      rw [pk_mul, nI_add, show nI (G.v + j * G.z) * (512 : Int32) = nI ((G.v + j * G.z) * 512) from pk_mul _ 512, show (4 : Int32) * nI x = nI (4 * x) from pk_mul 4 x, nI_add, hPe, Nat.mul_comm (G.v + j * G.z) 512]
    have hP4 : P % 4 = 0 := by omega
    obtain ⟨ar', r1, r2, r3⟩ := FX3_putFour_ok (nf := nf) (fi := fi) hC (p := P) (nI (fo d P / 268435456 * 268435456 + v)) (by omega)
    refine ⟨ar', ?_, ?_, r3⟩
    · rw [show FX9_link_2 nf ln (kf + 1) = FX9_link_2b (FX9_link_2 nf ln kf) nf ln from rfl]
      unfold FX9_link_2b
      rw [g8, g7, g9, brF (nI_ge hj (by omega)), hPx, bnd_eq, FX3_four_eq hC hP4 (by omega), obnd3_some, msk_c (fo_lt hb P) hv, r1, obnd3_some, bnd_eq, show nI j + (1 : Int32) = nI (j + 1) from nI_add j 1]
    · rw [← hPe]
      have := fo_lt hb P
      rw [uv_nI (by omega)] at r2
      exact r2
  have fin : ∀ (ar : AR) (kf : Nat), FX9_link_2 nf ln (kf + 1) (nI x) (nI v) (nI G.y) fi ar = some ((), fi, ar) := by
    intro ar kf
    rw [show FX9_link_2 nf ln (kf + 1) = FX9_link_2b (FX9_link_2 nf ln kf) nf ln from rfl]
    unfold FX9_link_2b
    rw [g8, brT (show nI G.y ≤ nI G.y from Int32.le_refl _)]
  have e0 : FX9_link nf ln fi ar (nI x) (nI v) = FX9_link_2 nf ln (nf - 3 + 1 + 1 + 1) (nI x) (nI v) (nI 0) fi ar := by
    rw [show nf - 3 + 1 + 1 + 1 = nf by omega]; rfl
  rw [e0]
  obtain ⟨ar1, r1, r2, r3⟩ := step ar d 0 (nf - 3 + 1 + 1) hb hC (by omega)
  rw [Nat.zero_mul, Nat.add_zero] at r2
  rw [r1]
  unfold stE
  rcases b.2.2.2.2.2.2.2.2.2.2.2.2 with w | w
  · rw [if_neg (by omega)]
    exact ⟨ar1, by have := fin ar1 (nf - 3 + 1); rw [w] at this; exact this, ⟨r2, hW.2.1, hG, hl⟩, r3⟩
  · rw [if_pos w]
    obtain ⟨ar2, s1, s2, s3⟩ := step ar1 _ 1 (nf - 3 + 1) (fun p => by unfold st1; exact wr_lt hb _ _ _ _) r2 (by omega)
    rw [Nat.one_mul] at s2
    rw [s1]
    exact ⟨ar2, by have := fin ar2 (nf - 3); rw [w] at this; exact this, ⟨s2, hW.2.1, hG, hl⟩, r3.tr s3⟩
theorem setEntry_ok {nf : Nat} {fi : FI} {ar : AR} {G : Geo} {d : Nat → Nat} (hW : RW fi ar G d) (hb : ∀ p, d p < 256) {x v : Nat} (hx : x < G.k + 2) (hv : v < 268435456) (hnf : 9 ≤ nf) : ∃ ar', M_setEntry nf fi ar (nI x) (nI v) = some ((), fi, ar') ∧ RW fi ar' G (stE G d x v) ∧ offA 1 ar ar' := by
  obtain ⟨hR, hg, hG⟩ := id hW
  have b := hG.b
  have t := hG.t hx
  have bk : 512 * G.a ≤ 512 * G.n := by omega
  have g9 : fi 9 = nI G.y := hg.2.2.2.1
  have step : ∀ (ar : AR) (d : Nat → Nat) (j kf : Nat), (∀ p, d p < 256) → RW fi ar G d → j < G.y → ∃ ar', M_setEntry_2 nf (kf + 1) (nI x) (nI v) (nI j) fi ar = M_setEntry_2 nf kf (nI x) (nI v) (nI (j + 1)) fi ar' ∧ RW fi ar' G (st1 d (512 * (G.v + j * G.z) + 4 * x) v) ∧ offA 1 ar ar' := by
    intro ar d j kf hb hW hj
    have hP : 512 * (G.v + j * G.z) + 4 * x + 4 ≤ 512 * G.a := by
      rcases b.2.2.2.2.2.2.2.2.2.2.2.2 with w | w
      · have : j = 0 := by omega
        rw [this]; omega
      · rcases (show j = 0 ∨ j = 1 by omega) with z | z
        · rw [z]; omega
        · rw [z, Nat.one_mul]; exact t.2.2.2 w
    have hE := hW.entryAt (nf := nf) (t := j) (x := x)
    obtain ⟨P, hPe⟩ : ∃ P, P = 512 * (G.v + j * G.z) + 4 * x := ⟨_, rfl⟩
    rw [← hPe] at hE
    obtain ⟨ar', r1, r2, r3⟩ := M_setI (nf := nf) (fi := fi) hW.1 (p := P) (n := 4) (nI (fo d P / 268435456 * 268435456 + v)) (by omega) (by omega) hnf
    refine ⟨ar', ?_, ?_, r3⟩
    · rw [show M_setEntry_2 nf (kf + 1) = M_setEntry_2b (M_setEntry_2 nf kf) nf from rfl]
      unfold M_setEntry_2b
      rw [g9, brF (nI_ge hj (by omega)), hE, obnd3_some, M_four_eq hW.1 (by omega), obnd3_some, msk_m (fo_lt hb P) hv, show (4 : Int32) = nI 4 from rfl, r1, obnd3_some, bnd_eq, show nI j + (1 : Int32) = nI (j + 1) from nI_add j 1]
    · rw [← hPe]
      have := fo_lt hb P
      rw [uv_nI (by omega)] at r2
      exact ⟨r2, hg, hG⟩
  have fin : ∀ (ar : AR) (kf : Nat), M_setEntry_2 nf (kf + 1) (nI x) (nI v) (nI G.y) fi ar = some ((), fi, ar) := by
    intro ar kf
    rw [show M_setEntry_2 nf (kf + 1) = M_setEntry_2b (M_setEntry_2 nf kf) nf from rfl]
    unfold M_setEntry_2b
    rw [g9, brT (show nI G.y ≤ nI G.y from Int32.le_refl _)]
  have e0 : M_setEntry nf fi ar (nI x) (nI v) = M_setEntry_2 nf (nf - 3 + 1 + 1 + 1) (nI x) (nI v) (nI 0) fi ar := by
    rw [show nf - 3 + 1 + 1 + 1 = nf by omega]; rfl
  rw [e0]
  obtain ⟨ar1, r1, r2, r3⟩ := step ar d 0 (nf - 3 + 1 + 1) hb hW (by omega)
  rw [Nat.zero_mul, Nat.add_zero] at r2
  rw [r1]
  unfold stE
  rcases b.2.2.2.2.2.2.2.2.2.2.2.2 with w | w
  · rw [if_neg (by omega)]
    exact ⟨ar1, by have := fin ar1 (nf - 3 + 1); rw [w] at this; exact this, r2, r3⟩
  · rw [if_pos w]
    obtain ⟨ar2, s1, s2, s3⟩ := step ar1 _ 1 (nf - 3 + 1) (fun p => by unfold st1; exact wr_lt hb _ _ _ _) r2 (by omega)
    rw [Nat.one_mul] at s2
    rw [s1]
    exact ⟨ar2, by have := fin ar2 (nf - 3); rw [w] at this; exact this, s2, r3.tr s3⟩
