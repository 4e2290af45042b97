/-! make: the entry is placed, the model -/
theorem smS_congr {d B : Nat → Nat} {p : Nat} : ∀ m, (∀ i, i < m → d (p + i) = B i) → smS d p m = smS B 0 m
  | 0, _ => rfl
  | m + 1, h => by rw [smS, smS, smS_congr m (fun i hi => h i (by omega)), h m (by omega), Nat.zero_add]
theorem mz_slot {nf : Nat} {fm : FI} {G : Geo} {l : List Nat} {t : Nat} {x1 x6 x7 x8 x9 x11 : Int32} (K : Int32 → Int32 → Int32 → Int32 → Int32 → Int32 → Int32 → FI → AR → Option (Int32 × FI × AR)) (hl : clu G l) (ht : t < l.length * (16 * G.c)) : ∀ (m i kf : Nat) (arm : AR) (d : Nat → Nat), i + m = 32 → m < kf → RW fm arm G d → FOL arm l → ∃ arm', M_make_387 K nf kf x1 x6 x7 x8 x9 x11 (nI t) (nI i) fm arm = K x1 x6 x7 x8 x9 x11 (nI (t + 1)) fm arm' ∧ RW fm arm' G (wr d (sa G l t + i) m 0) ∧ offA 1 arm arm' := by
  intro m
  induction m with
  | zero =>
    intro i kf arm d hi hk hW hF
    obtain ⟨kf, rfl⟩ : ∃ k, kf = k + 1 := ⟨kf - 1, by omega⟩
    rw [show M_make_387 K nf (kf + 1) = M_make_387b (M_make_387 K nf kf) K nf from rfl]
    unfold M_make_387b
    rw [brT (show (32 : Int32) ≤ nI i from nI_le (a := 32) (by omega) (by omega)), bnd_eq, show nI t + (1 : Int32) = nI (t + 1) from nI_add t 1]
    exact ⟨arm, rfl, by rw [wr_zero]; exact hW, offA.rf⟩
  | succ m ih =>
    intro i kf arm d hi hk hW hF
    have b := hW.2.2.b
    have hin := slot_in hW.2.2 hl ht
    obtain ⟨kf, rfl⟩ : ∃ k, kf = k + 1 := ⟨kf - 1, by omega⟩
    rw [show M_make_387 K nf (kf + 1) = M_make_387b (M_make_387 K nf kf) K nf from rfl]
    unfold M_make_387b
    rw [brF (show ¬ (32 : Int32) ≤ nI i from nI_ge (b := 32) (by omega) (by omega)), hW.slotAt hl hF ht, obnd3_some, nI_add, zgd (by omega) (by omega), nI_clamp (by omega), bnd_eq, bnd_eq, show nI i + (1 : Int32) = nI (i + 1) from nI_add i 1]
    have o1 : offA 1 arm (va_up arm 1 (upd (arm 1) (sa G l t + i) (vp_nar .byte 0))) := fun z hz => va_up_off hz
    have h0 := RD_put hW.1 (a := sa G l t + i) 0
    rw [show uv (0 : Int32) = 0 from rfl] at h0
    obtain ⟨arm', s1, s2, s3⟩ := ih (i + 1) kf (va_up arm 1 (upd (arm 1) (sa G l t + i) (vp_nar .byte 0))) (wr d (sa G l t + i) 1 0) (by omega) (by omega) ⟨h0, hW.2⟩ (fun q hq => by rw [o1 30 (by decide)]; exact hF q hq)
    rw [wr_join0 (by omega), show 1 + m = m + 1 by omega] at s2
    exact ⟨arm', s1, s2, o1.tr s3⟩
theorem mz_loop {nf : Nat} {fm : FI} {G : Geo} {l : List Nat} {a want : Nat} {x1 x7 x8 x11 : Int32} (hl : clu G l) (hs : a + want ≤ l.length * (16 * G.c)) (hw : 1 ≤ want) (hnf : 600 ≤ nf) : ∀ (m t kf : Nat) (arm : AR) (d : Nat → Nat), t + m = a + want → a ≤ t → m < kf → RW fm arm G d → (∀ q, d q < 256) → FOL arm l → ∃ arm' d', M_make_374 nf kf x1 (nI want) x7 x8 (nI a) x11 (nI t) fm arm = M_make_437 nf nf x1 (nI want) x7 x8 (nI a) x11 (nI (sa G l (a + want - 1))) 0 fm arm' ∧ RW fm arm' G d' ∧ (∀ q, d' q < 256) ∧ (∀ i, t ≤ i → i < a + want → SLT d' (sa G l i) (fun _ => 0)) ∧ (∀ q, (∀ i, t ≤ i → i < a + want → (q < sa G l i ∨ sa G l i + 32 ≤ q)) → d' q = d q) ∧ offA 1 arm arm' := by
  intro m
  induction m with
  | zero =>
    intro t kf arm d ht hat hk hW hb hF
    have b := hW.2.2.b
    have hin := slot_in hW.2.2 hl (s := a + want - 1) (by omega)
    obtain ⟨kf, rfl⟩ : ∃ k, kf = k + 1 := ⟨kf - 1, by omega⟩
    rw [show M_make_374 nf (kf + 1) = M_make_374b (M_make_374 nf kf) nf from rfl]
    unfold M_make_374b
    rw [nI_add, brT (nI_le (by omega) (by omega)), show nI (a + want) - (1 : Int32) = nI (a + want - 1) from nI_sub (b := 1) (by omega), hW.slotAt hl hF (by omega), obnd3_some]
    exact ⟨arm, d, rfl, hW, hb, fun i i1 i2 => by omega, fun q _ => rfl, offA.rf⟩
  | succ m ih =>
    intro t kf arm d ht hat hk hW hb hF
    have hG := hW.2.2
    have b := hG.b
    have hin := slot_in hG hl (s := a + want - 1) (by omega)
    have hint := slot_in hG hl (s := t) (by omega)
    obtain ⟨kf, rfl⟩ : ∃ k, kf = k + 1 := ⟨kf - 1, by omega⟩
    rw [show M_make_374 nf (kf + 1) = M_make_374b (M_make_374 nf kf) nf from rfl]
    unfold M_make_374b
    obtain ⟨arm1, r1, r2, r3⟩ := mz_slot (nf := nf) (fm := fm) (x1 := x1) (x6 := nI want) (x7 := x7) (x8 := x8) (x9 := nI a) (x11 := x11) (M_make_374 nf kf) hl (t := t) (by omega) 32 0 nf arm d (by omega) (by omega) hW hF
    rw [Nat.add_zero] at r2
    have r1' : M_make_387 (M_make_374 nf kf) nf nf x1 (nI want) x7 x8 (nI a) x11 (nI t) 0 fm arm = M_make_374 nf kf x1 (nI want) x7 x8 (nI a) x11 (nI (t + 1)) fm arm1 := r1
    obtain ⟨arm', d', s1, s2, s3, s4, s5, s6⟩ := ih (t + 1) kf arm1 _ (by omega) (by omega) (by omega) r2 (wr_lt hb _ _ _) (fun q hq => by rw [r3 30 (by decide)]; exact hF q hq)
    refine ⟨arm', d', ?_, s2, s3, fun i i1 i2 => ?_, fun q q1 => ?_, r3.tr s6⟩
    · rw [nI_add, brF (nI_ge (by omega) (by omega)), r1']; exact s1
    · by_cases e : i = t
      · rw [e]
        have hz : SLT (wr d (sa G l t) 32 0) (sa G l t) (fun _ => 0) := fun j hj => by rw [wr_in (by omega) (by omega), Nat.zero_div]
        refine hz.off (fun q q1 q2 => s5 q (fun i' i1' i2' => ?_))
        have := sa_apart (show 1 ≤ G.c by omega) hl (s := t) (t := i') (by omega) (by omega) (by omega); omega
      · exact s4 i (by omega) i2
    · rw [s5 q (fun i i1 i2 => q1 i (by omega) i2), wr_out (q1 t (Nat.le_refl _) (by omega))]
theorem mb_loop {nf : Nat} {fm : FI} {p : Nat} {B : Nat → Nat} {x1 x6 x7 x8 x9 x11 : Int32} (hp : p + 32 ≤ 524288) : ∀ (m j kf : Nat) (arm : AR) (d : Nat → Nat), j + m = 11 → m < kf → RD arm d → (∀ i, i < 11 → arm 39 i = nI (B i) ∧ B i < 256) → ∃ arm', M_make_437 nf kf x1 x6 x7 x8 x9 x11 (nI p) (nI j) fm arm = M_make_472 nf nf x1 x6 x7 x8 x9 x11 (nI p) x9 fm arm' ∧ RD arm' (pb B p j m d) ∧ offA 1 arm arm' := by
  intro m
  induction m with
  | zero =>
    intro j kf arm d hj hk hR hB
    obtain ⟨kf, rfl⟩ : ∃ k, kf = k + 1 := ⟨kf - 1, by omega⟩
    rw [show M_make_437 nf (kf + 1) = M_make_437b (M_make_437 nf kf) nf from rfl]
    unfold M_make_437b
    rw [brT (show (11 : Int32) ≤ nI j from nI_le (a := 11) (by omega) (by omega))]
    exact ⟨arm, rfl, hR, offA.rf⟩
  | succ m ih =>
    intro j kf arm d hj hk hR hB
    obtain ⟨b1, b2⟩ := hB j (by omega)
    obtain ⟨kf, rfl⟩ : ∃ k, kf = k + 1 := ⟨kf - 1, by omega⟩
    rw [show M_make_437 nf (kf + 1) = M_make_437b (M_make_437 nf kf) nf from rfl]
    unfold M_make_437b
    rw [brF (show ¬ (11 : Int32) ≤ nI j from nI_ge (b := 11) (by omega) (by omega)), zgd (by omega) (by omega), nI_add, zgd (by omega) (by omega), nI_clamp (by omega), nI_clamp (by omega), bnd_eq, bnd_eq, show nI j + (1 : Int32) = nI (j + 1) from nI_add j 1, b1]
    have o1 : offA 1 arm (va_up arm 1 (upd (arm 1) (p + j) (vp_nar .byte ((nI (B j)).toInt8.toInt32)))) := fun z hz => va_up_off hz
    have h0 := RD_put hR (a := p + j) ((nI (B j)).toInt8.toInt32)
    rw [wr_b (show uv ((nI (B j)).toInt8.toInt32) % 256 = B j % 256 by rw [uv_byte, uv_nI (by omega)])] at h0
    obtain ⟨arm', s1, s2, s3⟩ := ih (j + 1) kf _ _ (by omega) (by omega) h0 (fun i hi => by rw [o1 39 (by decide)]; exact hB i hi)
    exact ⟨arm', s1, s2, o1.tr s3⟩
/-- a part laid on a slot that holds 0 alone -/
def lpD (u : Nat → Nat) (p num sum : Nat) (d : Nat → Nat) : Nat → Nat := pu u p 0 13 (wr (wr (wr d p 1 num) (p + 11) 1 15) (p + 13) 1 sum)
theorem lpD_slt {u : Nat → Nat} {p num sum : Nat} {d : Nat → Nat} (h : SLT d p (fun _ => 0)) : SLT (lpD u p num sum d) p (cP u num sum) := SLT.pu 13 0 _ _ (((h.wr 0 1 num).wr 11 1 15).wr 13 1 sum)
theorem lpD_out {u : Nat → Nat} {p num sum q : Nat} {d : Nat → Nat} (h : q < p ∨ p + 32 ≤ q) : lpD u p num sum d q = d q := by
  unfold lpD
  rw [pu_out 13 0 _ (by omega) h, wr_out (by omega), wr_out (by omega), wr_out (by omega)]
theorem lpD_lt {u : Nat → Nat} {p num sum : Nat} {d : Nat → Nat} (h : ∀ q, d q < 256) : ∀ q, lpD u p num sum d q < 256 := pu_lt 13 0 _ (wr_lt (wr_lt (wr_lt h _ _ _) _ _ _) _ _ _)
theorem lay_loop {nf : Nat} {fm : FI} {N : List Nat} {p j : Nat} (hN : N.length ≤ 255 ∧ ∀ x, x ∈ N → x < 65536) (h35 : fm 35 = nI N.length) (hp : p + 32 ≤ 524288) (hj : j < 20) (hnf : 9 ≤ nf) : ∀ (m q kf : Nat) (arm : AR) (d : Nat → Nat), q + m = 13 → m < kf → RD arm d → (∀ i, i < N.length → arm 34 i = nI (N.getD i 0)) → ∃ arm', M_layPart_46 nf kf (nI p) (nI (j + 1)) (nI q) fm arm = some ((), fm, arm') ∧ RD arm' (pu (uN N j) p q m d) ∧ offA 1 arm arm' := by
  intro m
  induction m with
  | zero =>
    intro q kf arm d hq hk hR hu
    obtain ⟨kf, rfl⟩ : ∃ k, kf = k + 1 := ⟨kf - 1, by omega⟩
    rw [show M_layPart_46 nf (kf + 1) = M_layPart_46b (M_layPart_46 nf kf) nf from rfl]
    unfold M_layPart_46b
    rw [brT (show (13 : Int32) ≤ nI q from nI_le (a := 13) (by omega) (by omega))]
    exact ⟨arm, rfl, hR, offA.rf⟩
  | succ m ih =>
    intro q kf arm d hq hk hR hu
    have hpl := plc_b (q := q) (by omega)
    obtain ⟨kf, rfl⟩ : ∃ k, kf = k + 1 := ⟨kf - 1, by omega⟩
    rw [show M_layPart_46 nf (kf + 1) = M_layPart_46b (M_layPart_46 nf kf) nf from rfl]
    unfold M_layPart_46b M_layPart_104 M_layPart_142
    have e6 : (13 : Int32) * (nI (j + 1) - 1) + nI q = nI (13 * j + q) := by
      rw [show nI (j + 1) - (1 : Int32) = nI j from nI_sub (b := 1) (a := j + 1) (by omega), show (13 : Int32) = nI 13 from rfl, pk_mul, nI_add]
    have e2 : (2 : Int32) * nI q = nI (2 * q) := pk_mul 2 q
    have go : ∀ t : Int64, lU t % 65536 = uN N j q → ∃ arm', obnd3 (M_set nf fm arm (nI (p + plc q)) 2 t) (fun r4 fi2 ar3 => bnd (nI q + 1) fun x5_5 => M_layPart_46 nf kf (nI p) (nI (j + 1)) x5_5 fi2 ar3) = some ((), fm, arm') ∧ RD arm' (pu (uN N j) p q (m + 1) d) ∧ offA 1 arm arm' := fun t ht => by
      obtain ⟨arm1, r1, r2, r3⟩ := M_set_ok (nf := nf) (fi := fm) hR (p := p + plc q) (n := 2) t (by omega) (by omega) hnf
      have r1' : M_set nf fm arm (nI (p + plc q)) 2 t = some ((), fm, arm1) := r1
      have hw : wr d (p + plc q) 2 (lU t) = wr d (p + plc q) 2 (uN N j q) := wr_le4 (fun i hi => by
        rcases (show i = 0 ∨ i = 1 by omega) with w | w <;> subst w <;> simp only [Nat.reducePow, Nat.div_one] <;> omega)
      rw [hw] at r2
      obtain ⟨arm', s1, s2, s3⟩ := ih (q + 1) kf arm1 _ (by omega) (by omega) r2 (fun i hi => by rw [r3 34 (by decide)]; exact hu i hi)
      exact ⟨arm', by rw [r1', obnd3_some, bnd_eq, show nI q + (1 : Int32) = nI (q + 1) from nI_add q 1]; exact s1, s2, r3.tr s3⟩
    -- the unit, at place plc q
    have unit : ∃ arm', br (nI N.length ≤ nI (13 * j + q)) (br (nI (13 * j + q) = nI N.length) (obnd3 (M_set nf fm arm (nI (p + plc q)) 2 0) (fun r4 fi2 ar3 => bnd (nI q + 1) fun x5_5 => M_layPart_46 nf kf (nI p) (nI (j + 1)) x5_5 fi2 ar3)) (obnd3 (M_set nf fm arm (nI (p + plc q)) 2 65535) (fun r4 fi2 ar3 => bnd (nI q + 1) fun x5_5 => M_layPart_46 nf kf (nI p) (nI (j + 1)) x5_5 fi2 ar3))) (gd (¬ (nI (13 * j + q) < 0 ∨ 300 ≤ (nI (13 * j + q)).toNatClampNeg)) (obnd3 (M_set nf fm arm (nI (p + plc q)) 2 ((arm 34 (nI (13 * j + q)).toNatClampNeg).toInt64)) (fun r4 fi2 ar3 => bnd (nI q + 1) fun x5_5 => M_layPart_46 nf kf (nI p) (nI (j + 1)) x5_5 fi2 ar3))) = some ((), fm, arm') ∧ RD arm' (pu (uN N j) p q (m + 1) d) ∧ offA 1 arm arm' := by
      by_cases c1 : 13 * j + q < N.length
      · have hb := hN.2 _ (getD_mem c1)
        rw [brF (nI_ge c1 (by omega)), zgd (by omega) (by omega), nI_clamp (by omega), hu _ c1]
        refine go _ ?_
        have h := lU_i2l (v := N.getD (13 * j + q) 0)
        unfold uN; rw [if_pos c1]; omega
      · rw [brT (nI_le (by omega) (by omega))]
        by_cases c2 : 13 * j + q = N.length
        · rw [brT (by rw [c2])]
          exact go 0 (by unfold uN; rw [if_neg c1, if_pos c2]; rfl)
        · rw [brF (fun w => c2 ((nI_eq (by omega) (by omega)).mp w))]
          exact go 65535 (by unfold uN; rw [if_neg c1, if_neg c2]; rfl)
    rw [brF (show ¬ (13 : Int32) ≤ nI q from nI_ge (b := 13) (by omega) (by omega)), bnd_eq, e6, h35, e2]
    by_cases q1 : 5 ≤ q
    · rw [brT (show (5 : Int32) ≤ nI q from nI_le (a := 5) q1 (by omega))]
      by_cases q2 : 11 ≤ q
      · rw [brT (show (11 : Int32) ≤ nI q from nI_le (a := 11) q2 (by omega)), show nI p + ((6 : Int32) + nI (2 * q)) = nI (p + plc q) from by
          rw [show (6 : Int32) + nI (2 * q) = nI (6 + 2 * q) from nI_add 6 _, nI_add]; unfold plc; rw [if_neg (by omega), if_neg (by omega)]]
        exact unit
      · rw [brF (show ¬ (11 : Int32) ≤ nI q from nI_ge (b := 11) (by omega) (by omega)), show nI p + ((4 : Int32) + nI (2 * q)) = nI (p + plc q) from by
          rw [show (4 : Int32) + nI (2 * q) = nI (4 + 2 * q) from nI_add 4 _, nI_add]; unfold plc; rw [if_neg (by omega), if_pos (by omega)]]
        exact unit
    · rw [brF (show ¬ (5 : Int32) ≤ nI q from nI_ge (b := 5) (by omega) (by omega)), show nI p + ((1 : Int32) + nI (2 * q)) = nI (p + plc q) from by
          rw [show (1 : Int32) + nI (2 * q) = nI (1 + 2 * q) from nI_add 1 _, nI_add]; unfold plc; rw [if_pos (by omega)]]
      exact unit
theorem layPart_ok {nf : Nat} {fm : FI} {arm : AR} {d : Nat → Nat} {N : List Nat} {p j np sum : Nat} {x3 : Int32} (hR : RD arm d) (hN : N.length ≤ 255 ∧ ∀ x, x ∈ N → x < 65536) (hM : MN fm arm N) (hp : p + 32 ≤ 524288) (hj : j < 20) (hsum : sum < 256) (hx3 : (x3 = 0 ∧ j + 1 ≠ np) ∨ (x3 = 1 ∧ j + 1 = np)) (hnf : 40 ≤ nf) : ∃ arm', M_layPart nf fm arm (nI p) (nI (j + 1)) x3 (nI sum) = some ((), fm, arm') ∧ RD arm' (lpD (uN N j) p (nuN np j) sum d) ∧ offA 1 arm arm' := by
  have hnu : nuN np j < 256 := by unfold nuN; split <;> omega
  obtain ⟨ar1, r1, r2, r3⟩ := M_setI (nf := nf) (fi := fm) hR (p := p) (n := 1) (nI (nuN np j)) (by omega) (by omega) (by omega)
  obtain ⟨ar2, s1, s2, s3⟩ := M_set_ok (nf := nf) (fi := fm) r2 (p := p + 11) (n := 1) 15 (by omega) (by omega) (by omega)
  obtain ⟨ar3, t1, t2, t3⟩ := M_setI (nf := nf) (fi := fm) s2 (p := p + 13) (n := 1) (nI sum) (by omega) (by omega) (by omega)
  rw [uv_nI (by omega), uv_nI (by omega)] at t2
  have o3 : offA 1 arm ar3 := (r3.tr s3).tr t3
  obtain ⟨ar4, v1, v2, v3⟩ := lay_loop (nf := nf) (fm := fm) (p := p) (j := j) hN hM.1 hp hj (by omega) 13 0 nf ar3 _ (by omega) (by omega) t2 (fun i hi => by rw [o3 34 (by decide)]; exact hM.2 i hi)
  refine ⟨ar4, ?_, v2, o3.tr v3⟩
  have r1' : M_set nf fm arm (nI p) 1 ((nI (nuN np j)).toInt64) = some ((), fm, ar1) := r1
  have s1' : M_set nf fm ar1 (nI (p + 11)) 1 15 = some ((), fm, ar2) := s1
  have t1' : M_set nf fm ar2 (nI (p + 13)) 1 ((nI sum).toInt64) = some ((), fm, ar3) := t1
  have key : ∀ t4 : Int32, nI (j + 1) + t4 = nI (nuN np j) → M_layPart_14 nf (nI p) (nI (j + 1)) (nI sum) (nI p) 1 (nI (j + 1)) t4 fm arm = some ((), fm, ar4) := fun t4 h4 => by
    unfold M_layPart_14
    rw [h4, r1', obnd3_some, show nI p + (11 : Int32) = nI (p + 11) from nI_add p 11, s1', obnd3_some, show nI p + (13 : Int32) = nI (p + 13) from nI_add p 13, t1', obnd3_some]
    exact v1
  unfold M_layPart
  rcases hx3 with ⟨rfl, h⟩ | ⟨rfl, h⟩
  · rw [brT rfl]
    exact key 0 (by unfold nuN; rw [if_neg h]; exact nI_add _ 0)
  · rw [brF (by decide)]
    exact key 64 (by unfold nuN; rw [if_pos h]; exact nI_add _ 64)
