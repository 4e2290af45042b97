/-! format: sector 0, the model -/
theorem zeroM_loop {nf : Nat} {fm : FI} {x1 x2 x3 x4 x5 x7 : Int32} : ∀ (m j kf : Nat) (arm : AR), j + m = 524288 → m < kf → (∀ p, p < j → mb (arm 1) p = 0) → ∃ arm', M_format_216 nf kf x1 x2 x3 x4 x5 x7 (nI j) fm arm = M_format_240 nf nf x1 x2 x3 x4 x5 x7 3 fm arm' ∧ RD arm' (fun _ => 0) ∧ offA 1 arm arm' := by
  intro m
  induction m with
  | zero =>
    intro j kf arm hj hk h0
    obtain ⟨kf, rfl⟩ : ∃ k, kf = k + 1 := ⟨kf - 1, by omega⟩
    rw [show M_format_216 nf (kf + 1) = M_format_216b (M_format_216 nf kf) nf from rfl]
    unfold M_format_216b
    rw [brT (show (524288 : Int32) ≤ nI j from nI_le (a := 524288) (by omega) (by omega))]
    exact ⟨arm, rfl, fun p hp => h0 p (by omega), offA.rf⟩
  | succ m ih =>
    intro j kf arm hj hk h0
    obtain ⟨kf, rfl⟩ : ∃ k, kf = k + 1 := ⟨kf - 1, by omega⟩
    rw [show M_format_216 nf (kf + 1) = M_format_216b (M_format_216 nf kf) nf from rfl]
    unfold M_format_216b
    rw [brF (show ¬ (524288 : Int32) ≤ nI j from nI_ge (b := 524288) (by omega) (by omega)), zgd (by omega) (by omega), nI_clamp (by omega), bnd_eq, bnd_eq, show nI j + (1 : Int32) = nI (j + 1) from nI_add j 1]
    have o1 : offA 1 arm (va_up arm 1 (upd (arm 1) j (vp_nar .byte 0))) := fun z hz => va_up_off hz
    obtain ⟨arm', s1, s2, s3⟩ := ih (j + 1) kf _ (by omega) (by omega) (fun p hp => by
      show mb (va_up arm 1 (upd (arm 1) j (vp_nar .byte 0)) 1) p = 0
      rw [va_up_self]
      unfold mb upd
      by_cases e : p = j
      · rw [if_pos e]; rfl
      · rw [if_neg e]; exact h0 p (by omega))
    exact ⟨arm', s1, s2, o1.tr s3⟩
theorem fillM_loop {nf : Nat} {fm : FI} {x1 x2 x3 x4 x5 x7 : Int32} {d : Nat → Nat} : ∀ (m j kf : Nat) (arm : AR), j + m = 8 → m < kf → RD arm (fil d 3 j 32) → ∃ arm', M_format_240 nf kf x1 x2 x3 x4 x5 x7 (nI (3 + j)) fm arm = M_format_240 nf 1 x1 x2 x3 x4 x5 x7 11 fm arm' ∧ RD arm' (fil d 3 8 32) ∧ offA 1 arm arm' := by
  intro m
  induction m with
  | zero =>
    intro j kf arm hj hk hR
    have e : j = 8 := by omega
    subst e
    obtain ⟨kf, rfl⟩ : ∃ k, kf = k + 1 := ⟨kf - 1, by omega⟩
    refine ⟨arm, ?_, hR, offA.rf⟩
    rw [show M_format_240 nf (kf + 1) = M_format_240b (M_format_240 nf kf) nf from rfl]
    rw [show M_format_240 nf 1 = M_format_240b (M_format_240 nf 0) nf from rfl]
    unfold M_format_240b
    rw [brT (show (11 : Int32) ≤ nI (3 + 8) from by decide), brT (show (11 : Int32) ≤ 11 from by decide)]
  | succ m ih =>
    intro j kf arm hj hk hR
    obtain ⟨kf, rfl⟩ : ∃ k, kf = k + 1 := ⟨kf - 1, by omega⟩
    rw [show M_format_240 nf (kf + 1) = M_format_240b (M_format_240 nf kf) nf from rfl]
    unfold M_format_240b
    rw [brF (show ¬ (11 : Int32) ≤ nI (3 + j) from nI_ge (b := 11) (by omega) (by omega)), zgd (by omega) (by omega), nI_clamp (by omega), bnd_eq, bnd_eq, show nI (3 + j) + (1 : Int32) = nI (3 + (j + 1)) from nI_add (3 + j) 1]
    have o1 : offA 1 arm (va_up arm 1 (upd (arm 1) (3 + j) (vp_nar .byte 32))) := fun z hz => va_up_off hz
    have h0 := RD_put hR (a := 3 + j) 32
    have h1 : wr (fil d 3 j 32) (3 + j) 1 32 = fil d 3 (j + 1) 32 := fil_succ d 3 j 32
    rw [show uv (32 : Int32) = 32 from rfl, h1] at h0
    obtain ⟨arm', s1, s2, s3⟩ := ih (j + 1) kf _ (by omega) (by omega) h0
    exact ⟨arm', s1, s2, o1.tr s3⟩
theorem copyM_loop {nf : Nat} {fm : FI} {x5 : Int32} : ∀ (m j kf : Nat) (arm : AR) (d : Nat → Nat), j + m = 512 → m < kf → RD arm d → ∃ arm', M_format_373 nf kf x5 (nI j) fm arm = M_format_373 nf 1 x5 512 fm arm' ∧ RD arm' (cpS j m d) ∧ offA 1 arm arm' := by
  intro m
  induction m with
  | zero =>
    intro j kf arm d hj hk hR
    have e : j = 512 := by omega
    subst e
    obtain ⟨kf, rfl⟩ : ∃ k, kf = k + 1 := ⟨kf - 1, by omega⟩
    refine ⟨arm, ?_, hR, offA.rf⟩
    rw [show M_format_373 nf (kf + 1) = M_format_373b (M_format_373 nf kf) nf from rfl]
    rw [show M_format_373 nf 1 = M_format_373b (M_format_373 nf 0) nf from rfl]
    unfold M_format_373b
    rw [brT (show (512 : Int32) ≤ nI 512 from by decide), brT (show (512 : Int32) ≤ 512 from by decide)]
  | succ m ih =>
    intro j kf arm d hj hk hR
    obtain ⟨kf, rfl⟩ : ∃ k, kf = k + 1 := ⟨kf - 1, by omega⟩
    rw [show M_format_373 nf (kf + 1) = M_format_373b (M_format_373 nf kf) nf from rfl]
    unfold M_format_373b
    rw [brF (show ¬ (512 : Int32) ≤ nI j from nI_ge (b := 512) (by omega) (by omega)), show (3072 : Int32) + nI j = nI (3072 + j) from nI_add 3072 j, zgd (by omega) (by omega), zgd (by omega) (by omega), nI_clamp (by omega), nI_clamp (by omega), bnd_eq, bnd_eq, show nI j + (1 : Int32) = nI (j + 1) from nI_add j 1]
    have o1 : offA 1 arm (va_up arm 1 (upd (arm 1) (3072 + j) (vp_nar .byte (arm 1 j)))) := fun z hz => va_up_off hz
    have h0 := RD_put hR (a := 3072 + j) (arm 1 j)
    have h1 : uv (arm 1 j) % 256 = d j % 256 := by
      have h2 : uv (arm 1 j) % 256 = d j := hR j (by omega)
      rw [← h2, Nat.mod_mod]
    rw [wr_b h1] at h0
    obtain ⟨arm', s1, s2, s3⟩ := ih (j + 1) kf _ _ (by omega) (by omega) h0
    exact ⟨arm', s1, s2, o1.tr s3⟩
/-- the label's entry -/
def laD (f : Nat → Nat) (p : Nat) (d : Nat → Nat) : Nat → Nat := wr (wr (pb f p 0 11 d) (p + 11) 1 8) (p + 24) 2 33
theorem labM_loop {nf : Nat} {fm : FI} {x8 : Int32} {T p : Nat} {f : Nat → Nat} (hT : T ≤ 11) (hp : p + 32 ≤ 524288) (hnf : 9 ≤ nf) : ∀ (m j kf : Nat) (arm : AR) (d : Nat → Nat), j + m = 11 → m < kf → RD arm d → (∀ i, i < 11 → f i % 256 = if i < T then uv (arm 2 i) % 256 else 32) → ∃ arm', M_format_502 nf kf (nI T) x8 (nI p) (nI j) fm arm = M_format_570 nf x8 fm arm' ∧ RD arm' (wr (wr (pb f p j m d) (p + 11) 1 8) (p + 24) 2 33) ∧ offA 1 arm arm' := by
  intro m
  induction m with
  | zero =>
    intro j kf arm d hj hk hR hf
    obtain ⟨kf, rfl⟩ : ∃ k, kf = k + 1 := ⟨kf - 1, by omega⟩
    rw [show M_format_502 nf (kf + 1) = M_format_502b (M_format_502 nf kf) nf from rfl]
    unfold M_format_502b
    obtain ⟨arm1, r1, r2, r3⟩ := M_set_ok (nf := nf) (fi := fm) hR (p := p + 11) (n := 1) 8 (by omega) (by omega) hnf
    obtain ⟨arm2, s1, s2, s3⟩ := M_set_ok (nf := nf) (fi := fm) r2 (p := p + 24) (n := 2) 33 (by omega) (by omega) hnf
    have r1' : M_set nf fm arm (nI (p + 11)) 1 8 = some ((), fm, arm1) := r1
    have s1' : M_set nf fm arm1 (nI (p + 24)) 2 33 = some ((), fm, arm2) := s1
    rw [brT (show (11 : Int32) ≤ nI j from nI_le (a := 11) (by omega) (by omega)), show nI p + (11 : Int32) = nI (p + 11) from nI_add p 11, r1', obnd3_some, show nI p + (24 : Int32) = nI (p + 24) from nI_add p 24, s1', obnd3_some]
    exact ⟨arm2, rfl, s2, r3.tr s3⟩
  | succ m ih =>
    intro j kf arm d hj hk hR hf
    obtain ⟨kf, rfl⟩ : ∃ k, kf = k + 1 := ⟨kf - 1, by omega⟩
    rw [show M_format_502 nf (kf + 1) = M_format_502b (M_format_502 nf kf) nf from rfl]
    unfold M_format_502b M_format_537
    have fin : ∀ t2 : Int32, f j % 256 = uv t2 % 256 → ∃ arm', gd (¬ (nI (p + j) < 0 ∨ 524288 ≤ (nI (p + j)).toNatClampNeg)) (bnd (va_up arm 1 (upd (arm 1) (nI (p + j)).toNatClampNeg (vp_nar .byte t2))) fun ar8 => bnd (nI j + 1) fun x10_9 => M_format_502 nf kf (nI T) x8 (nI p) x10_9 fm ar8) = M_format_570 nf x8 fm arm' ∧ RD arm' (wr (wr (pb f p j (m + 1) d) (p + 11) 1 8) (p + 24) 2 33) ∧ offA 1 arm arm' := fun t2 ht => by
      have o1 : offA 1 arm (va_up arm 1 (upd (arm 1) (p + j) (vp_nar .byte t2))) := fun z hz => va_up_off hz
      have h0 := RD_put hR (a := p + j) t2
      rw [wr_b ht.symm] at h0
      obtain ⟨arm', s1, s2, s3⟩ := ih (j + 1) kf _ _ (by omega) (by omega) h0 (fun i hi => by rw [o1 2 (by decide)]; exact hf i hi)
      exact ⟨arm', by rw [zgd (by omega) (by omega), nI_clamp (by omega), bnd_eq, bnd_eq, show nI j + (1 : Int32) = nI (j + 1) from nI_add j 1]; exact s1, s2, o1.tr s3⟩
    have hfj := hf j (by omega)
    rw [brF (show ¬ (11 : Int32) ≤ nI j from nI_ge (b := 11) (by omega) (by omega)), nI_add]
    by_cases c : j < T
    · rw [if_pos c] at hfj
      rw [brF (nI_ge c (by omega)), zgd (show j < 4096 by omega) (by omega), nI_clamp (show j < 2 ^ 31 by omega)]
      exact fin _ hfj
    · rw [if_neg c] at hfj
      rw [brT (nI_le (by omega) (by omega))]
      exact fin 32 hfj
theorem layM {nf : Nat} {fm : FI} {arm0 : AR} {n c v y z T : Nat} {x : Int32} {f : Nat → Nat} (hn : fm 0 = nI n) (h1 : 256 ≤ n) (h2 : n ≤ 1024) (hg : geoOK n c v y z) (hT : T ≤ 11) (hf : ∀ i, i < 11 → f i % 256 = if i < T then uv (arm0 2 i) % 256 else 32) (hnf : 600000 ≤ nf) : ∃ fm' arm', M_format_216 nf nf (nI c) (nI v) (nI y) x (nI T) (nI z) 0 fm arm0 = some (nI (Geo.k (n, c, v, y, z, 2)), fm', arm') ∧ RD arm' (if T = 0 then tbD (n, c, v, y, z, 2) (hdE n c v y z x) else laD f (pl (n, c, v, y, z, 2) 2) (tbD (n, c, v, y, z, 2) (hdE n c v y z x))) ∧ fm' 14 = 0 ∧ fm' 15 = 0 ∧ offF [7, 8, 9, 10, 11, 12, 13, 14, 15] fm fm' ∧ offA 1 arm0 arm' := by
  obtain ⟨hd1, hd2, hd3⟩ := hd_ok (x := x) h1 h2 hg
  obtain ⟨hf1, hf2, hf3⟩ := hd_facts (n := n) (c := c) (v := v) (y := y) (z := z) (x := x)
  obtain ⟨g1, g2, g3, g4, g5⟩ := hg
  have b := hd3.b
  obtain ⟨armZ, pz, qz, oz⟩ := zeroM_loop (nf := nf) (fm := fm) (x1 := nI c) (x2 := nI v) (x3 := nI y) (x4 := x) (x5 := nI T) (x7 := nI z) 524288 0 nf arm0 (by omega) (by omega) (fun p hp => absurd hp (by omega))
  obtain ⟨ar1, p1, q1, o1⟩ := fillM_loop (nf := nf) (fm := fm) (x1 := nI c) (x2 := nI v) (x3 := nI y) (x4 := x) (x5 := nI T) (x7 := nI z) (d := fun _ => 0) 8 0 nf armZ (by omega) (by omega) (by rw [fil_zero]; exact qz)
  have pz' : M_format_216 nf nf (nI c) (nI v) (nI y) x (nI T) (nI z) 0 fm arm0 = M_format_240 nf nf (nI c) (nI v) (nI y) x (nI T) (nI z) 3 fm armZ := pz
  have p1' : M_format_240 nf nf (nI c) (nI v) (nI y) x (nI T) (nI z) 3 fm armZ = M_format_240 nf 1 (nI c) (nI v) (nI y) x (nI T) (nI z) 11 fm ar1 := p1
  obtain ⟨ar2, p2, q2, o2⟩ := M_set_ok (nf := nf) (fi := fm) q1 (p := 11) (n := 2) 512 (by omega) (by omega) (by omega)
  have p2' : M_set nf fm ar1 11 2 (512 : Int64) = some ((), fm, ar2) := p2
  obtain ⟨ar3, p3, q3, o3⟩ := M_setI (nf := nf) (fi := fm) q2 (p := 13) (n := 1) (nI c) (by omega) (by omega) (by omega)
  rw [uv_nI (by omega)] at q3
  have p3' : M_set nf fm ar2 13 1 ((nI c).toInt64) = some ((), fm, ar3) := p3
  obtain ⟨ar4, p4, q4, o4⟩ := M_setI (nf := nf) (fi := fm) q3 (p := 14) (n := 2) (nI v) (by omega) (by omega) (by omega)
  rw [uv_nI (by omega)] at q4
  have p4' : M_set nf fm ar3 14 2 ((nI v).toInt64) = some ((), fm, ar4) := p4
  obtain ⟨ar5, p5, q5, o5⟩ := M_setI (nf := nf) (fi := fm) q4 (p := 16) (n := 1) (nI y) (by omega) (by omega) (by omega)
  rw [uv_nI (by omega)] at q5
  have p5' : M_set nf fm ar4 16 1 ((nI y).toInt64) = some ((), fm, ar5) := p5
  obtain ⟨ar6, p6, q6, o6⟩ := M_setI (nf := nf) (fi := fm) q5 (p := 32) (n := 4) (nI n) (by omega) (by omega) (by omega)
  rw [uv_nI (by omega)] at q6
  have p6' : M_set nf fm ar5 32 4 ((nI n).toInt64) = some ((), fm, ar6) := p6
  obtain ⟨ar7, p7, q7, o7⟩ := M_setI (nf := nf) (fi := fm) q6 (p := 36) (n := 4) (nI z) (by omega) (by omega) (by omega)
  rw [uv_nI (by omega)] at q7
  have p7' : M_set nf fm ar6 36 4 ((nI z).toInt64) = some ((), fm, ar7) := p7
  obtain ⟨ar8, p8, q8, o8⟩ := M_set_ok (nf := nf) (fi := fm) q7 (p := 44) (n := 4) 2 (by omega) (by omega) (by omega)
  have p8' : M_set nf fm ar7 44 4 (2 : Int64) = some ((), fm, ar8) := p8
  obtain ⟨ar9, p9, q9, o9⟩ := M_set_ok (nf := nf) (fi := fm) q8 (p := 48) (n := 2) 1 (by omega) (by omega) (by omega)
  have p9' : M_set nf fm ar8 48 2 (1 : Int64) = some ((), fm, ar9) := p9
  obtain ⟨ar10, p10, q10, o10⟩ := M_set_ok (nf := nf) (fi := fm) q9 (p := 50) (n := 2) 6 (by omega) (by omega) (by omega)
  have p10' : M_set nf fm ar9 50 2 (6 : Int64) = some ((), fm, ar10) := p10
  obtain ⟨ar11, p11, q11, o11⟩ := M_setI (nf := nf) (fi := fm) q10 (p := 67) (n := 4) x (by omega) (by omega) (by omega)
  have p11' : M_set nf fm ar10 67 4 (x.toInt64) = some ((), fm, ar11) := p11
  obtain ⟨ar12, p12, q12, o12⟩ := M_set_ok (nf := nf) (fi := fm) q11 (p := 510) (n := 2) 43605 (by omega) (by omega) (by omega)
  have p12' : M_set nf fm ar11 510 2 (43605 : Int64) = some ((), fm, ar12) := p12
  have q12d : RD ar12 (hdD n c v y z x) := q12
  obtain ⟨ar13, p13, q13, o13⟩ := copyM_loop (nf := nf) (fm := fm) (x5 := nI T) 512 0 nf ar12 _ (by omega) (by omega) q12d
  have p13' : M_format_373 nf nf (nI T) 0 fm ar12 = M_format_373 nf 1 (nI T) 512 fm ar13 := p13
  obtain ⟨ar14, p14, q14, o14⟩ := M_set_ok (nf := nf) (fi := fm) q13 (p := 512) (n := 4) 1096897106 (by omega) (by omega) (by omega)
  have p14' : M_set nf fm ar13 512 4 (1096897106 : Int64) = some ((), fm, ar14) := p14
  obtain ⟨ar15, p15, q15, o15⟩ := M_set_ok (nf := nf) (fi := fm) q14 (p := 996) (n := 4) 1631679090 (by omega) (by omega) (by omega)
  have p15' : M_set nf fm ar14 996 4 (1631679090 : Int64) = some ((), fm, ar15) := p15
  obtain ⟨ar16, p16, q16, o16⟩ := M_set_ok (nf := nf) (fi := fm) q15 (p := 1000) (n := 4) 4294967295 (by omega) (by omega) (by omega)
  have p16' : M_set nf fm ar15 1000 4 (4294967295 : Int64) = some ((), fm, ar16) := p16
  obtain ⟨ar17, p17, q17, o17⟩ := M_set_ok (nf := nf) (fi := fm) q16 (p := 1004) (n := 4) 4294967295 (by omega) (by omega) (by omega)
  have p17' : M_set nf fm ar16 1004 4 (4294967295 : Int64) = some ((), fm, ar17) := p17
  obtain ⟨ar18, p18, q18, o18⟩ := M_set_ok (nf := nf) (fi := fm) q17 (p := 1020) (n := 4) 2857697280 (by omega) (by omega) (by omega)
  have p18' : M_set nf fm ar17 1020 4 (2857697280 : Int64) = some ((), fm, ar18) := p18
  have qE : RD ar18 (hdE n c v y z x) := q18
  obtain ⟨fm1, u1, u2, u3⟩ : ∃ fm1, M_head nf fm ar18 = some (1, fm1, ar18) ∧ RG fm1 (geoOf n (hdE n c v y z x)) ∧ offF [7, 8, 9, 10, 11, 12, 13] fm fm1 := by
    rcases M_head_ok (nf := nf) qE hn h1 h2 with ⟨_, w⟩ | ⟨w, _⟩
    · exact w
    · exact absurd hd1 w
  rw [hd2] at u2
  have hWE : RW fm1 ar18 (n, c, v, y, z, 2) (hdE n c v y z x) := ⟨qE, u2, hd3⟩
  obtain ⟨arA, l1, l2, l3⟩ := setEntry_ok (nf := nf) hWE hf1 (x := 0) (v := 268435448) (by omega) (by omega) (by omega)
  obtain ⟨arB, m1, m2, m3⟩ := setEntry_ok (nf := nf) l2 (stE_lt hf1 _ _) (x := 1) (v := 268435455) (by omega) (by omega) (by omega)
  obtain ⟨arC, n1, n2, n3⟩ := setEntry_ok (nf := nf) m2 (stE_lt (stE_lt hf1 _ _) _ _) (x := 2) (v := 268435455) (by omega) (by omega) (by omega)
  have l1' : M_setEntry nf fm1 ar18 0 268435448 = some ((), fm1, arA) := l1
  have m1' : M_setEntry nf fm1 arA 1 268435455 = some ((), fm1, arB) := m1
  have n1' : M_setEntry nf fm1 arB 2 268435455 = some ((), fm1, arC) := n1
  have oC : offA 1 arm0 arC := (((((((((((((((((((((oz).tr o1).tr o2).tr o3).tr o4).tr o5).tr o6).tr o7).tr o8).tr o9).tr o10).tr o11).tr o12).tr o13).tr o14).tr o15).tr o16).tr o17).tr o18).tr l3).tr m3).tr n3
  have fin : ∀ arm, M_format_570 nf 1 fm1 arm = some (nI (Geo.k (n, c, v, y, z, 2)), va_up (va_up fm1 14 0) 15 0, arm) := fun arm => by
    unfold M_format_570 M_changed M_format_592
    rw [bnd_eq, bnd_eq, obnd3_some, brF (by decide), va_up_off (by decide), va_up_off (by decide), u2.2.2.2.2.2.2.2]
  have oF : offF [7, 8, 9, 10, 11, 12, 13, 14, 15] fm (va_up (va_up fm1 14 0) 15 0) := ((u3.mono (by simp)).up (by simp)).up (by simp)
  have start : ∀ R, br (nI T ≤ 0) (M_format_570 nf 1 fm1 arC) (obnd3 (M_place nf fm1 arC 2) fun r62 fi60 ar61 => M_format_502 nf nf (nI T) 1 r62 0 fi60 ar61) = R → M_format_216 nf nf (nI c) (nI v) (nI y) x (nI T) (nI z) 0 fm arm0 = R := fun R hR => by
    rw [pz', p1', show M_format_240 nf 1 = M_format_240b (M_format_240 nf 0) nf from rfl]
    unfold M_format_240b
    rw [brT (show (11 : Int32) ≤ 11 from by decide), p2', obnd3_some, p3', obnd3_some, p4', obnd3_some, p5', obnd3_some, hn, p6', obnd3_some, p7', obnd3_some, p8', obnd3_some, p9', obnd3_some, p10', obnd3_some, p11', obnd3_some, p12', obnd3_some, p13', show M_format_373 nf 1 = M_format_373b (M_format_373 nf 0) nf from rfl]
    unfold M_format_373b
    rw [brT (show (512 : Int32) ≤ 512 from by decide), p14', obnd3_some, p15', obnd3_some, p16', obnd3_some, p17', obnd3_some, p18', obnd3_some, u1, obnd3_some, l1', obnd3_some, m1', obnd3_some, n1', obnd3_some]
    exact hR
  by_cases c0 : T = 0
  · rw [if_pos c0]
    refine ⟨_, arC, start _ ?_, n2.1, by rw [va_up_off (by decide), va_up_self], va_up_self _ _ _, oF, oC⟩
    rw [brT (show nI T ≤ 0 by rw [c0]; decide)]
    exact fin arC
  · rw [if_neg c0]
    have hpl := pl_in hd3 (x := 2) ⟨Nat.le_refl 2, by omega⟩
    have hpl2 : M_place nf fm1 arC 2 = some (nI (pl (n, c, v, y, z, 2) 2), fm1, arC) := RW.place n2 (x := 2) (Nat.le_refl 2)
    obtain ⟨arD, y1, y2, y3⟩ := labM_loop (nf := nf) (fm := fm1) (x8 := 1) (f := f) hT (show pl (n, c, v, y, z, 2) 2 + 32 ≤ 524288 by omega) (by omega) 11 0 nf arC _ (by omega) (by omega) n2.1 (fun i hi => by rw [oC 2 (by decide)]; exact hf i hi)
    refine ⟨_, arD, start _ ?_, y2, by rw [va_up_off (by decide), va_up_self], va_up_self _ _ _, oF, oC.tr y3⟩
    rw [brF (nI_nle (by omega) (by omega)), hpl2, obnd3_some]
    exact y1.trans (fin arD)
