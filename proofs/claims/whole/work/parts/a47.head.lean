/-! format: sector 0 and what goes with it -/
def hdD (n c v y z : Nat) (x : Int32) : Nat → Nat := wr (wr (wr (wr (wr (wr (wr (wr (wr (wr (wr (fil (fun _ => 0) 3 8 32) 11 2 512) 13 1 c) 14 2 v) 16 1 y) 32 4 n) 36 4 z) 44 4 2) 48 2 1) 50 2 6) 67 4 (uv x)) 510 2 43605
def cpS : Nat → Nat → (Nat → Nat) → (Nat → Nat)
  | _, 0, d => d
  | j, m + 1, d => cpS (j + 1) m (wr d (3072 + j) 1 (d j))
theorem cpS_out {q : Nat} : ∀ (m j : Nat) (d : Nat → Nat), (q < 3072 + j ∨ 3072 + j + m ≤ q) → cpS j m d q = d q
  | 0, _, _, _ => rfl
  | m + 1, j, d, h => by rw [cpS, cpS_out m (j + 1) _ (by omega), wr_out (by omega)]
theorem cpS_lt : ∀ (m j : Nat) (d : Nat → Nat), (∀ q, d q < 256) → ∀ q, cpS j m d q < 256
  | 0, _, _, h, q => h q
  | m + 1, j, d, h, q => cpS_lt m (j + 1) _ (fun q => wr_lt h _ _ _ q) q
def hdE (n c v y z : Nat) (x : Int32) : Nat → Nat := wr (wr (wr (wr (wr (cpS 0 512 (hdD n c v y z x)) 512 4 1096897106) 996 4 1631679090) 1000 4 4294967295) 1004 4 4294967295) 1020 4 2857697280
theorem hd_facts {n c v y z : Nat} {x : Int32} : (∀ q, hdE n c v y z x q < 256) ∧ (∀ q, q < 512 → hdE n c v y z x q = hdD n c v y z x q) ∧ (∀ q, 4096 ≤ q → hdE n c v y z x q = 0) := by
  have h0 : ∀ q, fil (fun _ => 0) 3 8 32 q < 256 := fun q => by unfold fil; split; exact (by decide : 32 < 256); exact (by decide : 0 < 256)
  have h1 : ∀ q, hdD n c v y z x q < 256 := by
    unfold hdD
    repeat' apply wr_lt
    exact h0
  refine ⟨?_, fun q hq => ?_, fun q hq => ?_⟩
  · unfold hdE
    exact wr_lt (wr_lt (wr_lt (wr_lt (wr_lt (cpS_lt 512 0 _ h1) _ _ _) _ _ _) _ _ _) _ _ _) _ _ _
  · unfold hdE
    rw [wr_out (by omega), wr_out (by omega), wr_out (by omega), wr_out (by omega), wr_out (by omega), cpS_out 512 0 _ (by omega)]
  · unfold hdE
    rw [wr_out (by omega), wr_out (by omega), wr_out (by omega), wr_out (by omega), wr_out (by omega), cpS_out 512 0 _ (by omega)]
    unfold hdD
    rw [wr_out (by omega), wr_out (by omega), wr_out (by omega), wr_out (by omega), wr_out (by omega), wr_out (by omega), wr_out (by omega), wr_out (by omega), wr_out (by omega), wr_out (by omega), wr_out (by omega)]
    unfold fil
    rw [if_neg (by omega)]
theorem fo_wr_off {d : Nat → Nat} {p n v q : Nat} (h : q + 4 ≤ p ∨ p + n ≤ q) : fo (wr d p n v) q = fo d q := by
  unfold fo
  rw [tw_wr_out (by omega), tw_wr_out (by omega)]
theorem tw_low {d d' : Nat → Nat} (h : ∀ q, q < 512 → d' q = d q) {q : Nat} (hq : q + 1 < 512) : tw d' q = tw d q := by unfold tw; rw [h q (by omega), h (q + 1) (by omega)]
theorem fo_low {d d' : Nat → Nat} (h : ∀ q, q < 512 → d' q = d q) {q : Nat} (hq : q + 3 < 512) : fo d' q = fo d q := by unfold fo; rw [tw_low h (by omega), tw_low h (by omega)]
theorem hd_read {n c v y z : Nat} {x : Int32} (hc : c < 256) (hv : v < 65536) (hy : y < 256) (hz : z < 65536) (hn : n < 65536) : tw (hdD n c v y z x) 11 = 512 ∧ hdD n c v y z x 13 = c ∧ tw (hdD n c v y z x) 14 = v ∧ hdD n c v y z x 16 = y ∧ tw (hdD n c v y z x) 17 = 0 ∧ tw (hdD n c v y z x) 19 = 0 ∧ tw (hdD n c v y z x) 22 = 0 ∧ fo (hdD n c v y z x) 32 = n ∧ fo (hdD n c v y z x) 36 = z ∧ fo (hdD n c v y z x) 44 = 2 ∧ tw (hdD n c v y z x) 48 = 1 ∧ tw (hdD n c v y z x) 50 = 6 ∧ tw (hdD n c v y z x) 510 = 43605 := by
  have z0 : ∀ q, 11 ≤ q → tw (fil (fun _ => 0) 3 8 32) q = 0 := fun q hq => by
    unfold tw fil
    rw [if_neg (by omega), if_neg (by omega)]
    show 0 + 0 * 256 = 0
    omega
  unfold hdD
  refine ⟨?_, ?_, ?_, ?_, ?_, ?_, ?_, ?_, ?_, ?_, ?_, ?_, ?_⟩
  · rw [tw_wr_out (by omega), tw_wr_out (by omega), tw_wr_out (by omega), tw_wr_out (by omega), tw_wr_out (by omega), tw_wr_out (by omega), tw_wr_out (by omega), tw_wr_out (by omega), tw_wr_out (by omega), tw_wr_out (by omega), tw_wr_in (by omega)]
  · rw [wr_out (by omega), wr_out (by omega), wr_out (by omega), wr_out (by omega), wr_out (by omega), wr_out (by omega), wr_out (by omega), wr_out (by omega), wr_out (by omega), wr_in (by omega) (by omega), Nat.sub_self, Nat.pow_zero, Nat.div_one]; omega
  · rw [tw_wr_out (by omega), tw_wr_out (by omega), tw_wr_out (by omega), tw_wr_out (by omega), tw_wr_out (by omega), tw_wr_out (by omega), tw_wr_out (by omega), tw_wr_out (by omega), tw_wr_in (by omega)]
  · rw [wr_out (by omega), wr_out (by omega), wr_out (by omega), wr_out (by omega), wr_out (by omega), wr_out (by omega), wr_out (by omega), wr_in (by omega) (by omega), Nat.sub_self, Nat.pow_zero, Nat.div_one]; omega
  · rw [tw_wr_out (by omega), tw_wr_out (by omega), tw_wr_out (by omega), tw_wr_out (by omega), tw_wr_out (by omega), tw_wr_out (by omega), tw_wr_out (by omega), tw_wr_out (by omega), tw_wr_out (by omega), tw_wr_out (by omega), tw_wr_out (by omega), z0 _ (by omega)]
  · rw [tw_wr_out (by omega), tw_wr_out (by omega), tw_wr_out (by omega), tw_wr_out (by omega), tw_wr_out (by omega), tw_wr_out (by omega), tw_wr_out (by omega), tw_wr_out (by omega), tw_wr_out (by omega), tw_wr_out (by omega), tw_wr_out (by omega), z0 _ (by omega)]
  · rw [tw_wr_out (by omega), tw_wr_out (by omega), tw_wr_out (by omega), tw_wr_out (by omega), tw_wr_out (by omega), tw_wr_out (by omega), tw_wr_out (by omega), tw_wr_out (by omega), tw_wr_out (by omega), tw_wr_out (by omega), tw_wr_out (by omega), z0 _ (by omega)]
  · rw [fo_wr_off (by omega), fo_wr_off (by omega), fo_wr_off (by omega), fo_wr_off (by omega), fo_wr_off (by omega), fo_wr_off (by omega), fo_wr_in (by omega)]
  · rw [fo_wr_off (by omega), fo_wr_off (by omega), fo_wr_off (by omega), fo_wr_off (by omega), fo_wr_off (by omega), fo_wr_in (by omega)]
  · rw [fo_wr_off (by omega), fo_wr_off (by omega), fo_wr_off (by omega), fo_wr_off (by omega), fo_wr_in (by omega)]
  · rw [tw_wr_out (by omega), tw_wr_out (by omega), tw_wr_out (by omega), tw_wr_in (by omega)]
  · rw [tw_wr_out (by omega), tw_wr_out (by omega), tw_wr_in (by omega)]
  · rw [tw_wr_in (by omega)]
theorem hd_ok {n c v y z : Nat} {x : Int32} (h1 : 256 ≤ n) (h2 : n ≤ 1024) (hg : geoOK n c v y z) : headOK n (hdE n c v y z x) ∧ geoOf n (hdE n c v y z x) = (n, c, v, y, z, 2) ∧ GOK (n, c, v, y, z, 2) := by
  obtain ⟨g1, g2, g3, g4, g5⟩ := hg
  obtain ⟨a1, a2, a3, a4, a5, a6, a7, a8, a9, a10, a11, a12, a13⟩ := hd_read (n := n) (c := c) (v := v) (y := y) (z := z) (x := x) (by omega) (by omega) (by omega) (by omega) (by omega)
  have L := (hd_facts (n := n) (c := c) (v := v) (y := y) (z := z) (x := x)).2.1
  have eG : geoOf n (hdE n c v y z x) = (n, c, v, y, z, 2) := by
    unfold geoOf
    rw [L 13 (by omega), tw_low L (by omega), L 16 (by omega), fo_low L (by omega), fo_low L (by omega), a2, a3, a4, a9, a10]
  have hyz : y * z ≤ 64 := by
    rcases g3 with w | w <;> rw [w] <;> omega
  have hk : 2 ≤ (n - (v + y * z)) / c + 1 := by
    have : 4 ≤ (n - (v + y * z)) / c := (Nat.le_div_iff_mul_le (by omega)).mpr (by omega)
    omega
  have hGk : (2 : Nat) ≤ (Geo.k (n, c, v, y, z, 2)) + 1 := hk
  refine ⟨⟨⟨by rw [tw_low L (by omega)]; exact a1, by rw [tw_low L (by omega)]; exact a5, by rw [tw_low L (by omega)]; exact a6, by rw [tw_low L (by omega)]; exact a7, by rw [fo_low L (by omega)]; exact a8, by rw [tw_low L (by omega)]; exact a11, by rw [tw_low L (by omega)]; exact a12, by rw [tw_low L (by omega)]; exact a13⟩, ?_, ?_, ?_⟩, eG, ⟨⟨g1, g2, g3, g4, g5⟩, ⟨Nat.le_refl 2, hGk⟩, h1, h2⟩⟩
  · rw [L 13 (by omega), tw_low L (by omega), L 16 (by omega), fo_low L (by omega), a2, a3, a4, a9]; exact ⟨g1, g2, g3, g4, g5⟩
  · rw [fo_low L (by omega), a10]; exact Nat.le_refl 2
  · rw [fo_low L (by omega), a10, eG]; exact hGk
/-- the tables' first three entries -/
def tbD (G : Geo) (d : Nat → Nat) : Nat → Nat := stE G (stE G (stE G d 0 268435448) 1 268435455) 2 268435455
theorem copyC_loop {nf : Nat} {ln : LN} {fi : FI} (hl : 1024 ≤ ln 0) : ∀ (m j kf : Nat) (ar : AR) (d : Nat → Nat), j + m = 512 → m < kf → CD ln ar d → (∀ q, d q < 256) → ∃ ar', FX3_copySector_2 nf ln kf 0 6 (nI j) fi ar = some ((), fi, ar') ∧ CD ln ar' (cpS j m d) ∧ offA 0 ar ar' := by
  intro m
  induction m with
  | zero =>
    intro j kf ar d hj hk hC hb
    obtain ⟨kf, rfl⟩ : ∃ k, kf = k + 1 := ⟨kf - 1, by omega⟩
    rw [show FX3_copySector_2 nf ln (kf + 1) = FX3_copySector_2b (FX3_copySector_2 nf ln kf) nf ln from rfl]
    unfold FX3_copySector_2b
    rw [brT (show (512 : Int32) ≤ nI j from nI_le (a := 512) (by omega) (by omega))]
    exact ⟨ar, rfl, hC, offA.rf⟩
  | succ m ih =>
    intro j kf ar d hj hk hC hb
    obtain ⟨kf, rfl⟩ : ∃ k, kf = k + 1 := ⟨kf - 1, by omega⟩
    rw [show FX3_copySector_2 nf ln (kf + 1) = FX3_copySector_2b (FX3_copySector_2 nf ln kf) nf ln from rfl]
    unfold FX3_copySector_2b
    have e1 : (0 : Int32) * 512 + nI j = nI j := by rw [show (0 : Int32) * 512 = nI 0 from rfl, nI_add, Nat.zero_add]
    have e2 : (6 : Int32) * 512 + nI j = nI (3072 + j) := nI_add 3072 j
    obtain ⟨ar1, r1, r2, r3⟩ := FX3_putOne_ok (nf := nf) (fi := fi) hC (p := 3072 + j) (nI (d j)) (by omega)
    rw [uv_nI (by have := hb j; omega)] at r2
    rw [brF (show ¬ (512 : Int32) ≤ nI j from nI_ge (b := 512) (by omega) (by omega)), e1, FX3_one_eq hC (by omega), obnd3_some, e2, r1, obnd3_some, bnd_eq, show nI j + (1 : Int32) = nI (j + 1) from nI_add j 1]
    obtain ⟨ar', s1, s2, s3⟩ := ih (j + 1) kf ar1 _ (by omega) (by omega) r2 (fun q => wr_lt hb _ _ _ q)
    exact ⟨ar', s1, s2, r3.tr s3⟩
theorem layC {nf : Nat} {ln : LN} {fi : FI} {ar0 : AR} {n c v y z : Nat} {x : Int32} (hC0 : CD ln ar0 (fun _ => 0)) (hn : fi 2 = nI n) (hl : ln 0 = 128 * n) (h1 : 256 ≤ n) (h2 : n ≤ 1024) (hg : geoOK n c v y z) (hnf : 600 ≤ nf) : ∃ fi' ar', FX9_lay nf ln fi ar0 (nI c) (nI v) (nI y) (nI z) x = some ((), fi', ar') ∧ CW ln fi' ar' (n, c, v, y, z, 2) (tbD (n, c, v, y, z, 2) (hdE n c v y z x)) ∧ offF [4, 5, 6, 7, 8, 9, 10] fi fi' ∧ offA 0 ar0 ar' := by
  obtain ⟨hd1, hd2, hd3⟩ := hd_ok (x := x) h1 h2 hg
  obtain ⟨hf1, hf2, hf3⟩ := hd_facts (n := n) (c := c) (v := v) (y := y) (z := z) (x := x)
  obtain ⟨g1, g2, g3, g4, g5⟩ := hg
  have hyz : y * z ≤ 64 := by
    rcases g3 with w | w <;> rw [w] <;> omega
  have hb0 : ∀ q, hdD n c v y z x q < 256 := by
    unfold hdD
    repeat' apply wr_lt
    intro q; unfold fil; split; exact (by decide : 32 < 256); exact (by decide : 0 < 256)
  obtain ⟨ar1, p1, q1, o1⟩ := FX3_fill_ok (nf := nf) (fi := fi) hC0 (p := 3) (n := 8) 32 (by omega) (by omega)
  have p1' : FX3_fill nf ln fi ar0 3 8 32 = some ((), fi, ar1) := p1
  obtain ⟨ar2, p2, q2, o2⟩ := FX3_putTwo_ok (nf := nf) (fi := fi) q1 (p := 11) 512 (by omega)
  have p2' : FX3_putTwo nf ln fi ar1 11 512 = some ((), fi, ar2) := p2
  obtain ⟨ar3, p3, q3, o3⟩ := FX3_putOne_ok (nf := nf) (fi := fi) q2 (p := 13) (nI c) (by omega)
  rw [uv_nI (by omega)] at q3
  have p3' : FX3_putOne nf ln fi ar2 13 (nI c) = some ((), fi, ar3) := p3
  obtain ⟨ar4, p4, q4, o4⟩ := FX3_putTwo_ok (nf := nf) (fi := fi) q3 (p := 14) (nI v) (by omega)
  rw [uv_nI (by omega)] at q4
  have p4' : FX3_putTwo nf ln fi ar3 14 (nI v) = some ((), fi, ar4) := p4
  obtain ⟨ar5, p5, q5, o5⟩ := FX3_putOne_ok (nf := nf) (fi := fi) q4 (p := 16) (nI y) (by omega)
  rw [uv_nI (by omega)] at q5
  have p5' : FX3_putOne nf ln fi ar4 16 (nI y) = some ((), fi, ar5) := p5
  obtain ⟨ar6, p6, q6, o6⟩ := FX3_putFour_ok (nf := nf) (fi := fi) q5 (p := 32) (nI n) (by omega)
  rw [uv_nI (by omega)] at q6
  have p6' : FX3_putFour nf ln fi ar5 32 (nI n) = some ((), fi, ar6) := p6
  obtain ⟨ar7, p7, q7, o7⟩ := FX3_putFour_ok (nf := nf) (fi := fi) q6 (p := 36) (nI z) (by omega)
  rw [uv_nI (by omega)] at q7
  have p7' : FX3_putFour nf ln fi ar6 36 (nI z) = some ((), fi, ar7) := p7
  obtain ⟨ar8, p8, q8, o8⟩ := FX3_putFour_ok (nf := nf) (fi := fi) q7 (p := 44) 2 (by omega)
  have p8' : FX3_putFour nf ln fi ar7 44 2 = some ((), fi, ar8) := p8
  obtain ⟨ar9, p9, q9, o9⟩ := FX3_putTwo_ok (nf := nf) (fi := fi) q8 (p := 48) 1 (by omega)
  have p9' : FX3_putTwo nf ln fi ar8 48 1 = some ((), fi, ar9) := p9
  obtain ⟨ar10, p10, q10, o10⟩ := FX3_putTwo_ok (nf := nf) (fi := fi) q9 (p := 50) 6 (by omega)
  have p10' : FX3_putTwo nf ln fi ar9 50 6 = some ((), fi, ar10) := p10
  obtain ⟨ar11, p11, q11, o11⟩ := FX3_putFour_ok (nf := nf) (fi := fi) q10 (p := 67) x (by omega)
  have p11' : FX3_putFour nf ln fi ar10 67 x = some ((), fi, ar11) := p11
  obtain ⟨ar12, p12, q12, o12⟩ := FX3_putTwo_ok (nf := nf) (fi := fi) q11 (p := 510) 43605 (by omega)
  have p12' : FX3_putTwo nf ln fi ar11 510 43605 = some ((), fi, ar12) := p12
  have q12d : CD ln ar12 (hdD n c v y z x) := q12
  obtain ⟨ar13, p13, q13, o13⟩ := copyC_loop (nf := nf) (ln := ln) (fi := fi) (by omega) 512 0 nf ar12 _ (by omega) (by omega) q12d hb0
  have p13' : FX3_copySector nf ln fi ar12 0 6 = some ((), fi, ar13) := p13
  obtain ⟨ar14, p14, q14, o14⟩ := FX3_putFour_ok (nf := nf) (fi := fi) q13 (p := 512) 1096897106 (by omega)
  have p14' : FX3_putFour nf ln fi ar13 512 1096897106 = some ((), fi, ar14) := p14
  obtain ⟨ar15, p15, q15, o15⟩ := FX3_putFour_ok (nf := nf) (fi := fi) q14 (p := 996) 1631679090 (by omega)
  have p15' : FX3_putFour nf ln fi ar14 996 1631679090 = some ((), fi, ar15) := p15
  obtain ⟨ar16, p16, q16, o16⟩ := FX3_putFour_ok (nf := nf) (fi := fi) q15 (p := 1000) (-1) (by omega)
  have p16' : FX3_putFour nf ln fi ar15 1000 (-1) = some ((), fi, ar16) := p16
  obtain ⟨ar17, p17, q17, o17⟩ := FX3_putFour_ok (nf := nf) (fi := fi) q16 (p := 1004) (-1) (by omega)
  have p17' : FX3_putFour nf ln fi ar16 1004 (-1) = some ((), fi, ar17) := p17
  obtain ⟨ar18, p18, q18, o18⟩ := FX3_putFour_ok (nf := nf) (fi := fi) q17 (p := 1020) (-1437270016) (by omega)
  have p18' : FX3_putFour nf ln fi ar17 1020 (-1437270016) = some ((), fi, ar18) := p18
  have qE : CD ln ar18 (hdE n c v y z x) := q18
  obtain ⟨fi2, u1, u2, u3⟩ := FX9_adopt_ok (nf := nf) (ln := ln) (ar := ar18) hn h2 (c := c) (v := v) (y := y) (z := z) (r := 2) (by omega) (by omega)
  have u1' : FX9_adopt nf ln fi ar18 (nI c) (nI v) (nI y) (nI z) 2 = some ((), fi2, ar18) := u1
  have hWE : CW ln fi2 ar18 (n, c, v, y, z, 2) (hdE n c v y z x) := ⟨qE, u2 g1, hd3, hl⟩
  have hk4 : 4 ≤ Geo.k (n, c, v, y, z, 2) := hd3.b.2.1
  obtain ⟨arA, l1, l2, l3⟩ := link_ok (nf := nf) hWE hf1 (x := 0) (v := 268435448) (by omega) (by omega) (by omega)
  obtain ⟨arB, m1, m2, m3⟩ := link_ok (nf := nf) l2 (stE_lt hf1 _ _) (x := 1) (v := 268435455) (by omega) (by omega) (by omega)
  obtain ⟨arC, n1, n2, n3⟩ := link_ok (nf := nf) m2 (stE_lt (stE_lt hf1 _ _) _ _) (x := 2) (v := 268435455) (by omega) (by omega) (by omega)
  have l1' : FX9_link nf ln fi2 ar18 0 268435448 = some ((), fi2, arA) := l1
  have m1' : FX9_link nf ln fi2 arA 1 268435455 = some ((), fi2, arB) := m1
  have n1' : FX9_link nf ln fi2 arB 2 268435455 = some ((), fi2, arC) := n1
  refine ⟨fi2, arC, ?_, n2, u3, ((((((((((((((((((((o1).tr o2).tr o3).tr o4).tr o5).tr o6).tr o7).tr o8).tr o9).tr o10).tr o11).tr o12).tr o13).tr o14).tr o15).tr o16).tr o17).tr o18).tr l3).tr m3).tr n3⟩
  unfold FX9_lay
  rw [p1', obnd3_some, p2', obnd3_some, p3', obnd3_some, p4', obnd3_some, p5', obnd3_some, hn, p6', obnd3_some, p7', obnd3_some, p8', obnd3_some, p9', obnd3_some, p10', obnd3_some, p11', obnd3_some, p12', obnd3_some, p13', obnd3_some, p14', obnd3_some, p15', obnd3_some, p16', obnd3_some, p17', obnd3_some, p18', obnd3_some, u1', obnd3_some, l1', obnd3_some, m1', obnd3_some, n1', obnd3_some]
