/-! bytes are added to a file: the class's loop -/
theorem nI_mod8 (x : Int32) : uv (x &&& 255) % 256 = uv x % 256 := by
  have : x &&& (255 : Int32) = nI (uv x % 2 ^ 8) := pk_and x 8 (by decide)
  rw [this, uv_nI (by omega)]; omega
theorem byC_loop {nf : Nat} {ln : LN} {G : Geo} {l : List Nat} {p s cnt : Nat} {x3 x4 : Int32} {v : Nat → Nat} (hG : GOK G) (hl : clu G l) (hs : s + cnt ≤ l.length * (512 * G.c)) (hp : p + 32 ≤ 4 * ln 0) (h1 : ln 1 = 4096) : ∀ (m j kf : Nat) (fi : FI) (ar : AR) (d : Nat → Nat), j + m = cnt → m < kf → CW ln fi ar G d → (m ≠ 0 → FE fi G l (s + j)) → (∀ c, c + 1 < l.length → ent G d (l.getD c 0) = l.getD (c + 1) 0) → (∀ j, j < cnt → (x3 = 0 ∧ v j % 256 = uv (x4 + nI j * nI j + (nI j >>> ((8 : Int32) &&& 31))) % 256) ∨ (¬ x3 = 0 ∧ j < 4096 ∧ v j % 256 = uv (ar 1 j) % 256)) → ∃ fi' ar', FX10_lengthenFile_36 nf kf (nI p) (nI cnt) x3 x4 (nI s) (nI j) fi ar ln = some (Sum.inl (nI (s + cnt)), fi', ar', ln, 0, 0) ∧ CD ln ar' (wr (byD G l s v j m d) (p + 28) 4 (s + cnt)) ∧ offF [80, 81, 82] fi fi' ∧ offA 0 ar ar' := by
  have b := hG.b
  have hlen := hl.len
  have hbig : l.length * (512 * G.c) ≤ 524288 := by
    have h1 : l.length * (512 * G.c) ≤ G.k * (512 * G.c) := Nat.mul_le_mul_right _ hlen
    have h2 : G.k * (512 * G.c) = 512 * (G.k * G.c) := by rw [Nat.mul_left_comm]
    omega
  intro m
  induction m with
  | zero =>
    intro j kf fi ar d hj hk hW hF hlk hv
    obtain ⟨kf, rfl⟩ : ∃ k, kf = k + 1 := ⟨kf - 1, by omega⟩
    rw [show FX10_lengthenFile_36 nf (kf + 1) = FX10_lengthenFile_36b (FX10_lengthenFile_36 nf kf) nf from rfl]
    unfold FX10_lengthenFile_36b
    obtain ⟨ar', r1, r2, r3⟩ := FX3_putFour_ok (nf := nf) (fi := fi) hW.1 (p := p + 28) (nI (s + cnt)) (by omega)
    rw [uv_nI (by omega)] at r2
    rw [brT (nI_le (by omega) (by omega)), show nI p + (28 : Int32) = nI (p + 28) from nI_add p 28, nI_add, r1, obnd3_some, gdT ⟨rfl, rfl, rfl⟩]
    exact ⟨fi, ar', rfl, r2, offF.rf, r3⟩
  | succ m ih =>
    intro j kf fi ar d hj hk hW hF hlk hv
    obtain ⟨kf, rfl⟩ : ∃ k, kf = k + 1 := ⟨kf - 1, by omega⟩
    rw [show FX10_lengthenFile_36 nf (kf + 1) = FX10_lengthenFile_36b (FX10_lengthenFile_36 nf kf) nf from rfl]
    unfold FX10_lengthenFile_36b FX10_lengthenFile_74
    obtain ⟨a1, a2, a3, a4⟩ := adr_in hG hl (a := s + j) (by omega)
    have hin := pl_in hG a2
    have hj1 : nI j + (1 : Int32) = nI (j + 1) := nI_add j 1
    have fin : ∀ t2 : Int32, v j % 256 = uv t2 % 256 → ∃ fi' ar', obnd3 (FX4_append nf ln fi ar t2) (fun r4 fi2 ar3 => bnd (nI j + 1) fun x7_5 => FX10_lengthenFile_36 nf kf (nI p) (nI cnt) x3 x4 (nI s) x7_5 fi2 ar3 ln) = some (Sum.inl (nI (s + cnt)), fi', ar', ln, 0, 0) ∧ CD ln ar' (wr (byD G l s v j (m + 1) d) (p + 28) 4 (s + cnt)) ∧ offF [80, 81, 82] fi fi' ∧ offA 0 ar ar' := fun t2 ht => by
      obtain ⟨fi1, ar1, r1, r2, r3, r4, r5⟩ := append_ok (nf := nf) hW hl hlk (hF (by omega)) (by omega) t2
      rw [wr_b ht.symm] at r2
      obtain ⟨fi', ar', s1, s2, s3, s4⟩ := ih (j + 1) kf fi1 ar1 _ (by omega) (by omega) r2 (fun _ => by rw [show s + (j + 1) = s + j + 1 by omega]; exact r3) (fun c hc => by
        have hcC := (hl.2 _ (getD_mem (show c < l.length by omega))).2
        rw [(tab_congr (d := d) (d' := wr d (adr G l (s + j)) 1 (v j)) hG (fun q q1 q2 => by rw [wr_out (by omega)])).1 _ (by omega)]
        exact hlk c hc) (fun i hi => by rw [r5 1 (by decide)]; exact hv i hi)
      exact ⟨fi', ar', by rw [r1, obnd3_some, bnd_eq, hj1]; exact s1, s2, r4.tr s3, r5.tr s4⟩
    rw [brF (nI_ge (by omega) (by omega))]
    rcases hv j (by omega) with ⟨w1, w2⟩ | ⟨w1, w2, w3⟩
    · rw [brT w1]
      exact fin _ w2
    · rw [brF w1]
      unfold FX8_at FX8_at_25
      rw [brF (nI_pos (by omega)), brT (show nI j < (4096 : Int32) from nI_lt (b := 4096) w2 (by omega)), zgd (by omega) (by omega), nI_clamp (by omega), obnd3_some, gdT ⟨rfl, rfl, rfl⟩]
      exact fin _ (by rw [nI_mod8]; exact w3)
theorem init_ok {nf : Nat} {ln : LN} {fi : FI} {ar : AR} {G : Geo} {d : Nat → Nat} {l : List Nat} {p s : Nat} (hW : CW ln fi ar G d) (hs : s = fo d (p + 28)) (hs2 : s < 2147483648) (hp4 : (p + 28) % 4 = 0) (hp : p + 32 ≤ 4 * ln 0) (hst : stp G d (fcl d p) l) (hnf : 600 ≤ nf) : ∃ fi', FX4_init nf ln fi ar (nI p) = some ((), fi', ar) ∧ offF [80, 81, 82] fi fi' ∧ (s / (512 * G.c) < l.length → FE fi' G l s) := by
  have hG := hW.2.2.1
  have b := hG.b
  have hc := hG.1.1
  have hB : 0 < 512 * G.c := by omega
  have g6 : fi 6 = nI (shC G.c) := hW.2.1.2.2.2.1
  have hdm := Nat.div_add_mod s (512 * G.c)
  have hm := Nat.mod_lt s hB
  have hdl := Nat.div_le_self s (512 * G.c)
  obtain ⟨v, r1, r2, r3⟩ := later_ok (nf := nf) hW (K := s / (512 * G.c)) (by omega) hst hnf
  obtain ⟨A, hA, hA2⟩ : ∃ A, FX9_addressOf nf ln (va_up fi 80 (nI v)) ar (nI v) = some (A, va_up fi 80 (nI v), ar) ∧ (isC G v → A = nI (pl G v)) := ⟨_, rfl, fun hC => by
    have := addressOf_eq (nf := nf) (hW.upF (k := 80) (v := nI v) (by simp)) hC
    exact (Prod.mk.inj (Option.some.inj this)).1⟩
  refine ⟨va_up (va_up (va_up fi 80 (nI v)) 81 (A + nI (s % (512 * G.c)))) 82 (nI (512 * G.c) - nI (s % (512 * G.c))), ?_, ((offF.rf.up (by simp)).up (by simp)).up (by simp), fun hlt => ?_⟩
  · unfold FX4_init FX9_byteMask FX9_byteShift
    rw [show nI p + (28 : Int32) = nI (p + 28) from nI_add p 28, FX3_four_eq hW.1 hp4 (by omega), ← hs, obnd3_some, gdT ⟨rfl, rfl, rfl⟩, obnd3_some, gdT ⟨rfl, rfl, rfl⟩, bnd_eq, FX3_firstCluster_eq hW.1 (by omega), obnd3_some, gdT ⟨rfl, rfl, rfl⟩, obnd3_some, gdT ⟨rfl, rfl, rfl⟩, g6, mask9 hc (by omega), show nI (shC G.c) + (9 : Int32) = nI (shC G.c + 9) from nI_add _ 9, sh9 hc hs2, r1, obnd3_some, gdT ⟨rfl, rfl, rfl⟩, bnd_eq, va_up_self, hA, obnd3_some, gdT ⟨va_up_self _ _ _, rfl, rfl⟩, bnd_eq, obnd3_some, gdT ⟨rfl, rfl, rfl⟩, bnd_eq, va_up_off (by decide), va_up_off (by decide), g6, mask1 hc]
  · have hv := r3 hlt
    have hvC : isC G v := by
      rcases hst with ⟨_, _, w⟩ | w
      · rw [w] at hlt; exact absurd hlt (by simp)
      · rw [hv]; exact (lnk_clu w).2 _ (getD_mem hlt)
    have hA' := hA2 hvC
    refine ⟨s / (512 * G.c), s % (512 * G.c), by rw [Nat.mul_comm]; exact hdm, by omega, hlt, ?_, ?_, ?_⟩
    · rw [va_up_off (by decide), va_up_off (by decide), va_up_self, hv]
    · rw [va_up_off (by decide), va_up_self, hA', nI_add, hv]
    · rw [va_up_self, nI_sub (by omega)]
