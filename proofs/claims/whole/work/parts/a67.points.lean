/-! make: a directory's points -/
def cD (pts x i : Nat) : Nat := if i < 11 then (if i < pts then 46 else 32) else if i = 11 then 16 else if i = 24 then 33 else if i = 26 then x % 256 else if i = 27 then x / 256 % 256 else 0
def wtD (p pts x : Nat) (d : Nat → Nat) : Nat → Nat := wr (pfc (wr (fil (fil d p 11 32) p pts 46) (p + 11) 1 16) p x) (p + 24) 2 33
theorem wtD_slt {p pts x : Nat} {d : Nat → Nat} (hp : pts ≤ 11) (h : SLT d p (fun _ => 0)) : SLT (wtD p pts x d) p (cD pts x) := fun i hi => by
  have h0 := h i hi
  have hf : ∀ i, i < 32 → fil (fil d p 11 32) p pts 46 (p + i) = if i < 11 then (if i < pts then 46 else 32) else d (p + i) := fun i hi => by
    unfold fil
    by_cases c : i < pts
    · rw [if_pos (by omega), if_pos (by omega), if_pos c]
    · rw [if_neg (by omega)]
      by_cases c2 : i < 11
      · rw [if_pos (by omega), if_pos c2, if_neg c]
      · rw [if_neg (by omega), if_neg c2]
  unfold wtD pfc cD
  by_cases c1 : i < 11
  · rw [wr_out (by omega), wr_out (by omega), wr_out (by omega), wr_out (by omega), hf i hi, if_pos c1, if_pos c1]
  · rw [if_neg c1]
    by_cases c2 : i = 11
    · rw [wr_out (by omega), wr_out (by omega), wr_out (by omega), wr_in (by omega) (by omega), if_pos c2, show p + i - (p + 11) = 0 by omega]
    · rw [if_neg c2]
      by_cases c3 : i = 24
      · rw [wr_in (by omega) (by omega), if_pos c3, show p + i - (p + 24) = 0 by omega]
      · rw [if_neg c3]
        by_cases c3b : i = 25
        · rw [wr_in (by omega) (by omega), if_neg (by omega), if_neg (by omega), show p + i - (p + 24) = 1 by omega]
        · by_cases c4 : i = 26
          · rw [wr_out (by omega), wr_in (by omega) (by omega), if_pos c4, show p + i - (p + 26) = 0 by omega, Nat.pow_zero, Nat.div_one]
          · rw [if_neg c4]
            by_cases c5 : i = 27
            · rw [wr_out (by omega), wr_in (by omega) (by omega), if_pos c5, show p + i - (p + 26) = 1 by omega, Nat.pow_one]
            · rw [if_neg c5]
              by_cases c6 : i = 20 ∨ i = 21
              · rw [wr_out (by omega), wr_out (by omega), wr_in (by omega) (by omega), Nat.zero_div]
              · rw [wr_out (by omega), wr_out (by omega), wr_out (by omega), wr_out (by omega), hf i hi, if_neg c1]; exact h0
theorem wtD_out {p pts x q : Nat} {d : Nat → Nat} (hp : pts ≤ 11) (h : q < p ∨ p + 32 ≤ q) : wtD p pts x d q = d q := by
  unfold wtD pfc
  rw [wr_out (by omega), wr_out (by omega), wr_out (by omega), wr_out (by omega)]
  unfold fil
  rw [if_neg (by omega), if_neg (by omega)]
theorem wtD_lt {p pts x : Nat} {d : Nat → Nat} (h : ∀ q, d q < 256) : ∀ q, wtD p pts x d q < 256 := by
  have h0 : ∀ q, fil (fil d p 11 32) p pts 46 q < 256 := fun q => by
    unfold fil
    split
    · exact (by decide : 46 < 256)
    · split
      · exact (by decide : 32 < 256)
      · exact h q
  exact wr_lt (wr_lt (wr_lt (wr_lt h0 _ _ _) _ _ _) _ _ _) _ _ _
theorem writePoints_ok {nf : Nat} {ln : LN} {fi : FI} {ar : AR} {d : Nat → Nat} {p pts x : Nat} (hC : CD ln ar d) (hp : p + 32 ≤ 4 * ln 0) (hpt : pts ≤ 11) (hx : x < 65536) (hnf : 40 ≤ nf) : ∃ ar', FX10_writePoints nf ln fi ar (nI p) (nI pts) (nI x) = some ((), fi, ar') ∧ CD ln ar' (wtD p pts x d) ∧ offA 0 ar ar' := by
  obtain ⟨ar1, r1, r2, r3⟩ := FX3_fill_ok (nf := nf) (fi := fi) hC (p := p) (n := 11) 32 (by omega) (by omega)
  have r1' : FX3_fill nf ln fi ar (nI p) 11 32 = some ((), fi, ar1) := r1
  obtain ⟨ar2, s1, s2, s3⟩ := FX3_fill_ok (nf := nf) (fi := fi) r2 (p := p) (n := pts) 46 (by omega) (by omega)
  obtain ⟨ar3, t1, t2, t3⟩ := FX3_putOne_ok (nf := nf) (fi := fi) s2 (p := p + 11) 16 (by omega)
  obtain ⟨ar4, u1, u2, u3⟩ := FX3_putFirstCluster_ok (nf := nf) (fi := fi) t2 (p := p) (x := x) hx (by omega)
  obtain ⟨ar5, v1, v2, v3⟩ := FX3_putTwo_ok (nf := nf) (fi := fi) u2 (p := p + 24) 33 (by omega)
  refine ⟨ar5, ?_, v2, (((r3.tr s3).tr t3).tr u3).tr v3⟩
  unfold FX10_writePoints
  rw [r1', obnd3_some, s1, obnd3_some, show nI p + (11 : Int32) = nI (p + 11) from nI_add p 11, t1, obnd3_some, u1, obnd3_some, show nI p + (24 : Int32) = nI (p + 24) from nI_add p 24, v1, obnd3_some]
/-- a cluster taken for a directory, its points written -/
def mdD (G : Geo) (d : Nat → Nat) (own h : Nat) : Nat → Nat := wtD (pl G own + 32) 2 h (wtD (pl G own) 1 own (tkD G d own))
theorem makeDir_ok {nf : Nat} {ln : LN} {fi : FI} {ar : AR} {G : Geo} {d : Nat → Nat} {h : Nat} (hW : CW ln fi ar G d) (hb : ∀ q, d q < 256) (hf : 0 < frC G d 2 G.k) (h0 : fi 0 = nI h) (hh : h < 65536) (hnf : 600 ≤ nf) : ∃ ar', FX10_makeDirectory nf ln fi ar = some (nI (low G d 2 G.k), fi, ar') ∧ CW ln fi ar' G (mdD G d (low G d 2 G.k) h) ∧ offA 0 ar ar' := by
  have hG := hW.2.2.1
  have b := hG.b
  have hl0 := hW.2.2.2
  obtain ⟨x, hx⟩ : ∃ x, x = low G d 2 G.k := ⟨_, rfl⟩
  obtain ⟨l1, l2, l3⟩ := low_ok G.k 2 hf
  rw [← hx] at l1 l2 l3 ⊢
  have hxC : isC G x := ⟨l1, by omega⟩
  have hin := pl_in hG hxC
  obtain ⟨ar1, r1, r2, r3⟩ := clm_ok (nf := nf) hW hb hf hnf
  rw [← hx] at r1 r2
  obtain ⟨ar2, s1, s2, s3⟩ := writePoints_ok (nf := nf) (fi := fi) (p := pl G x) (pts := 1) (x := x) r2.1 (by omega) (by omega) (by omega) (by omega)
  obtain ⟨ar3, t1, t2, t3⟩ := writePoints_ok (nf := nf) (fi := fi) (p := pl G x + 32) (pts := 2) (x := h) s2 (by omega) (by omega) hh (by omega)
  have s1' : FX10_writePoints nf ln fi ar1 (nI (pl G x)) 1 (nI x) = some ((), fi, ar2) := s1
  have t1' : FX10_writePoints nf ln fi ar2 (nI (pl G x + 32)) 2 (nI h) = some ((), fi, ar3) := t1
  refine ⟨ar3, ?_, ⟨t2, hW.2⟩, (r3.tr s3).tr t3⟩
  unfold FX10_makeDirectory
  rw [r1, obnd3_some, addressOf_eq r2 hxC, obnd3_some, s1', obnd3_some, show nI (pl G x) + (32 : Int32) = nI (pl G x + 32) from nI_add _ 32, show fi 0 = nI h from h0, t1', obnd3_some]
theorem md_facts {G : Geo} {d : Nat → Nat} {own h : Nat} (hG : GOK G) (hb : ∀ q, d q < 256) (ho : isC G own) : (∀ q, mdD G d own h q < 256) ∧ SLT (mdD G d own h) (pl G own) (cD 1 own) ∧ SLT (mdD G d own h) (pl G own + 32) (cD 2 h) ∧ ∀ q, (q < pl G own ∨ pl G own + 64 ≤ q) → mdD G d own h q = tkD G d own q := by
  have b := hG.b
  have hin := pl_in hG ho
  obtain ⟨k1, k2, k3, k4, k5⟩ := tk_facts hG hb ho
  have z1 : SLT (tkD G d own) (pl G own) (fun _ => 0) := fun i hi => k3 _ (by omega) (by omega)
  have z2 : SLT (tkD G d own) (pl G own + 32) (fun _ => 0) := fun i hi => k3 _ (by omega) (by omega)
  have z3 : SLT (wtD (pl G own) 1 own (tkD G d own)) (pl G own + 32) (fun _ => 0) := z2.off (fun q q1 q2 => wtD_out (by omega) (by omega))
  refine ⟨wtD_lt (wtD_lt k1), (wtD_slt (by omega) z1).off (fun q q1 q2 => wtD_out (by omega) (by omega)), wtD_slt (by omega) z3, fun q hq => ?_⟩
  unfold mdD
  rw [wtD_out (by omega) (by omega), wtD_out (by omega) (by omega)]
/-- the model's points -/
def ptM (p s x : Nat) (d : Nat → Nat) : Nat → Nat := wr (wr (wr (pb (fun q => if q ≤ s then 46 else 32) p 0 11 d) (p + 11) 1 16) (p + 24) 2 33) (p + 26) 2 x
theorem ptM_slt {p s x : Nat} {d : Nat → Nat} (hs : s < 2) (h : SLT d p (fun _ => 0)) : SLT (ptM p s x d) p (cD (s + 1) x) := fun i hi => by
  have h0 := h i hi
  unfold ptM cD
  by_cases c1 : i < 11
  · rw [wr_out (by omega), wr_out (by omega), wr_out (by omega), pb_in 11 0 d (Nat.zero_le _) (by omega), if_pos c1]
    by_cases c : i ≤ s
    · rw [if_pos c, if_pos (by omega)]
    · rw [if_neg c, if_neg (by omega)]
  · rw [if_neg c1]
    by_cases c2 : i = 11
    · rw [wr_out (by omega), wr_out (by omega), wr_in (by omega) (by omega), if_pos c2, show p + i - (p + 11) = 0 by omega]
    · rw [if_neg c2]
      by_cases c3 : i = 24
      · rw [wr_out (by omega), wr_in (by omega) (by omega), if_pos c3, show p + i - (p + 24) = 0 by omega]
      · rw [if_neg c3]
        by_cases c3b : i = 25
        · rw [wr_out (by omega), wr_in (by omega) (by omega), if_neg (by omega), if_neg (by omega), show p + i - (p + 24) = 1 by omega]
        · by_cases c4 : i = 26
          · rw [wr_in (by omega) (by omega), if_pos c4, show p + i - (p + 26) = 0 by omega, Nat.pow_zero, Nat.div_one]
          · rw [if_neg c4]
            by_cases c5 : i = 27
            · rw [wr_in (by omega) (by omega), if_pos c5, show p + i - (p + 26) = 1 by omega, Nat.pow_one]
            · rw [if_neg c5, wr_out (by omega), wr_out (by omega), wr_out (by omega), pb_out 11 0 d (by omega)]; exact h0
theorem ptM_out {p s x q : Nat} {d : Nat → Nat} (h : q < p ∨ p + 32 ≤ q) : ptM p s x d q = d q := by
  unfold ptM
  rw [wr_out (by omega), wr_out (by omega), wr_out (by omega), pb_out 11 0 d (by omega)]
theorem ptM_lt {p s x : Nat} {d : Nat → Nat} (h : ∀ q, d q < 256) : ∀ q, ptM p s x d q < 256 := wr_lt (wr_lt (wr_lt (pb_lt 11 0 _ h) _ _ _) _ _ _) _ _ _
theorem pt_loop {nf : Nat} {fm : FI} {p s x : Nat} {x1 x6 x9 x11 : Int32} (K : Int32 → Int32 → Int32 → Int32 → Int32 → FI → AR → Option (Int32 × FI × AR)) (hp : p + 32 ≤ 524288) (hs : s < 2) (hx : x < 65536) (hnf : 9 ≤ nf) : ∀ (m j kf : Nat) (arm : AR) (d : Nat → Nat), j + m = 11 → m < kf → RD arm d → ∃ arm', M_make_672 K nf kf x1 x6 x9 x11 (nI s) (nI p) (nI x) (nI j) fm arm = K x1 x6 x9 x11 (nI (s + 1)) fm arm' ∧ RD arm' (wr (wr (wr (pb (fun q => if q ≤ s then 46 else 32) p j m d) (p + 11) 1 16) (p + 24) 2 33) (p + 26) 2 x) ∧ offA 1 arm arm' := by
  intro m
  induction m with
  | zero =>
    intro j kf arm d hj hk hR
    obtain ⟨kf, rfl⟩ : ∃ k, kf = k + 1 := ⟨kf - 1, by omega⟩
    rw [show M_make_672 K nf (kf + 1) = M_make_672b (M_make_672 K nf kf) K nf from rfl]
    unfold M_make_672b
    obtain ⟨ar1, r1, r2, r3⟩ := M_set_ok (nf := nf) (fi := fm) hR (p := p + 11) (n := 1) 16 (by omega) (by omega) hnf
    obtain ⟨ar2, s1, s2, s3⟩ := M_set_ok (nf := nf) (fi := fm) r2 (p := p + 24) (n := 2) 33 (by omega) (by omega) hnf
    obtain ⟨ar3, t1, t2, t3⟩ := M_setI (nf := nf) (fi := fm) s2 (p := p + 26) (n := 2) (nI x) (by omega) (by omega) hnf
    rw [uv_nI (by omega)] at t2
    have r1' : M_set nf fm arm (nI (p + 11)) 1 16 = some ((), fm, ar1) := r1
    have s1' : M_set nf fm ar1 (nI (p + 24)) 2 33 = some ((), fm, ar2) := s1
    have t1' : M_set nf fm ar2 (nI (p + 26)) 2 ((nI x).toInt64) = some ((), fm, ar3) := t1
    rw [brT (show (11 : Int32) ≤ nI j from nI_le (a := 11) (by omega) (by omega)), show nI p + (11 : Int32) = nI (p + 11) from nI_add p 11, r1', obnd3_some, show nI p + (24 : Int32) = nI (p + 24) from nI_add p 24, s1', obnd3_some, show nI p + (26 : Int32) = nI (p + 26) from nI_add p 26, t1', obnd3_some, bnd_eq, show nI s + (1 : Int32) = nI (s + 1) from nI_add s 1]
    exact ⟨ar3, rfl, t2, (r3.tr s3).tr t3⟩
  | succ m ih =>
    intro j kf arm d hj hk hR
    obtain ⟨kf, rfl⟩ : ∃ k, kf = k + 1 := ⟨kf - 1, by omega⟩
    rw [show M_make_672 K nf (kf + 1) = M_make_672b (M_make_672 K nf kf) K nf from rfl]
    unfold M_make_672b M_make_702
    have go : ∀ t2 : Int32, uv t2 % 256 = (if j ≤ s then 46 else 32) → ∃ arm', gd (¬ (nI (p + j) < 0 ∨ 524288 ≤ (nI (p + j)).toNatClampNeg)) (bnd (va_up arm 1 (upd (arm 1) (nI (p + j)).toNatClampNeg (vp_nar .byte (t2.toInt8.toInt32)))) fun ar18 => bnd (nI j + 1) fun x17_19 => M_make_672 K nf kf x1 x6 x9 x11 (nI s) (nI p) (nI x) x17_19 fm ar18) = K x1 x6 x9 x11 (nI (s + 1)) fm arm' ∧ RD arm' (wr (wr (wr (pb (fun q => if q ≤ s then 46 else 32) p j (m + 1) d) (p + 11) 1 16) (p + 24) 2 33) (p + 26) 2 x) ∧ offA 1 arm arm' := fun t2 ht => by
      have o1 : offA 1 arm (va_up arm 1 (upd (arm 1) (p + j) (vp_nar .byte (t2.toInt8.toInt32)))) := fun z hz => va_up_off hz
      have h0 := RD_put hR (a := p + j) (t2.toInt8.toInt32)
      rw [wr_b (show uv (t2.toInt8.toInt32) % 256 = (if j ≤ s then 46 else 32) % 256 by rw [uv_byte, ht]; split <;> rfl)] at h0
      obtain ⟨arm', s1, s2, s3⟩ := ih (j + 1) kf _ _ (by omega) (by omega) h0
      exact ⟨arm', by rw [zgd (by omega) (by omega), nI_clamp (by omega), bnd_eq, bnd_eq, show nI j + (1 : Int32) = nI (j + 1) from nI_add j 1]; exact s1, s2, o1.tr s3⟩
    rw [brF (show ¬ (11 : Int32) ≤ nI j from nI_ge (b := 11) (by omega) (by omega)), nI_add]
    by_cases c : s < j
    · rw [brT (nI_lt c (by omega))]; exact go 32 (by rw [if_neg (by omega)]; rfl)
    · rw [brF (nI_nlt (by omega) (by omega))]; exact go 46 (by rw [if_pos (by omega)]; rfl)
theorem points_ok {nf : Nat} {fm : FI} {arm : AR} {G : Geo} {d : Nat → Nat} {own h : Nat} {x1 x6 x9 : Int32} (hW : RW fm arm G d) (ho : isC G own) (h14 : fm 14 = nI h) (hh : h < 65536) (hx1 : ¬ x1 = 0) (hnf : 600 ≤ nf) : ∃ arm', M_make_626 nf x1 x6 x9 (nI own) fm arm = M_make_755 nf x6 x9 fm arm' ∧ RW fm arm' G (ptM (pl G own + 32) 1 h (ptM (pl G own) 0 own d)) ∧ offA 1 arm arm' := by
  have hG := hW.2.2
  have b := hG.b
  have hin := pl_in hG ho
  have hok := ho.2
  obtain ⟨k, rfl⟩ : ∃ k, nf = k + 3 := ⟨nf - 3, by omega⟩
  obtain ⟨ar1, r1, r2, r3⟩ := pt_loop (nf := k + 3) (fm := fm) (p := pl G own) (s := 0) (x := own) (x1 := x1) (x6 := x6) (x9 := x9) (x11 := nI own) (M_make_629 (k + 3) (k + 2)) (by omega) (by omega) (by omega) (by omega) 11 0 (k + 3) arm d (by omega) (by omega) hW.1
  obtain ⟨ar2, s1, s2, s3⟩ := pt_loop (nf := k + 3) (fm := fm) (p := pl G own + 32) (s := 1) (x := h) (x1 := x1) (x6 := x6) (x9 := x9) (x11 := nI own) (M_make_629 (k + 3) (k + 1)) (by omega) (by omega) hh (by omega) 11 0 (k + 3) ar1 _ (by omega) (by omega) r2
  have r1' : M_make_672 (M_make_629 (k + 3) (k + 2)) (k + 3) (k + 3) x1 x6 x9 (nI own) 0 (nI (pl G own)) (nI own) 0 fm arm = M_make_629 (k + 3) (k + 2) x1 x6 x9 (nI own) 1 fm ar1 := r1
  have s1' : M_make_672 (M_make_629 (k + 3) (k + 1)) (k + 3) (k + 3) x1 x6 x9 (nI own) 1 (nI (pl G own + 32)) (nI h) 0 fm ar1 = M_make_629 (k + 3) (k + 1) x1 x6 x9 (nI own) 2 fm ar2 := s1
  refine ⟨ar2, ?_, ⟨s2, hW.2⟩, r3.tr s3⟩
  unfold M_make_626
  rw [show M_make_629 (k + 3) (k + 3) = M_make_629b (M_make_629 (k + 3) (k + 2)) (k + 3) from rfl]
  unfold M_make_629b M_make_667
  have e0 : nI (pl G own) + (32 : Int32) * 0 = nI (pl G own) := by rw [show (32 : Int32) * 0 = nI 0 from rfl, nI_add, Nat.add_zero]
  have e1 : nI (pl G own) + (32 : Int32) * 1 = nI (pl G own + 32) := nI_add (pl G own) 32
  rw [brF (show ¬ (2 : Int32) ≤ 0 by decide), brF hx1, hW.place ho.1, obnd3_some, bnd_eq, e0, brT rfl, r1']
  rw [show M_make_629 (k + 3) (k + 2) = M_make_629b (M_make_629 (k + 3) (k + 1)) (k + 3) from rfl]
  unfold M_make_629b M_make_667
  have hW1 : RW fm ar1 G (ptM (pl G own) 0 own d) := ⟨r2, hW.2⟩
  rw [brF (show ¬ (2 : Int32) ≤ 1 by decide), brF hx1, hW1.place ho.1, obnd3_some, bnd_eq, e1, brF (show ¬ (1 : Int32) = 0 by decide), h14, s1']
  rw [show M_make_629 (k + 3) (k + 1) = M_make_629b (M_make_629 (k + 3) k) (k + 3) from rfl]
  unfold M_make_629b
  rw [brT (show (2 : Int32) ≤ 2 by decide)]
theorem points_no {nf : Nat} {fm : FI} {arm : AR} {x6 x9 x11 : Int32} (hnf : 9 ≤ nf) : M_make_626 nf 0 x6 x9 x11 fm arm = M_make_755 nf x6 x9 fm arm := by
  obtain ⟨k, rfl⟩ : ∃ k, nf = k + 1 := ⟨nf - 1, by omega⟩
  unfold M_make_626
  rw [show M_make_629 (k + 1) (k + 1) = M_make_629b (M_make_629 (k + 1) k) (k + 1) from rfl]
  unfold M_make_629b
  rw [brF (show ¬ (2 : Int32) ≤ 0 by decide), brT rfl]
