/-! the lowest free cluster is taken and wiped -/
def low (G : Geo) (d : Nat → Nat) : Nat → Nat → Nat
  | x, 0 => x
  | x, m + 1 => if ent G d x = 0 then x else low G d (x + 1) m
def tkD (G : Geo) (d : Nat → Nat) (x : Nat) : Nat → Nat := wr (stE G d x 268435455) (pl G x) (512 * G.c) 0
theorem low_ok {G : Geo} {d : Nat → Nat} : ∀ (m x : Nat), 0 < frC G d x m → x ≤ low G d x m ∧ low G d x m < x + m ∧ ent G d (low G d x m) = 0
  | 0, x, h => absurd h (by rw [frC]; omega)
  | m + 1, x, h => by
    rw [frC] at h
    rw [low]
    by_cases c : ent G d x = 0
    · rw [if_pos c]; exact ⟨by omega, by omega, c⟩
    · rw [if_neg c] at h ⊢
      obtain ⟨a1, a2, a3⟩ := low_ok (G := G) (d := d) m (x + 1) (by omega)
      exact ⟨by omega, by omega, a3⟩
theorem frC_congr {G : Geo} {d d' : Nat → Nat} : ∀ (m x : Nat), (∀ z, x ≤ z → z < x + m → (ent G d' z = 0 ↔ ent G d z = 0)) → frC G d' x m = frC G d x m
  | 0, _, _ => rfl
  | m + 1, x, h => by
    rw [frC, frC, frC_congr m (x + 1) (fun z z1 z2 => h z (by omega) (by omega))]
    have := h x (by omega) (by omega)
    by_cases c : ent G d x = 0
    · rw [if_pos c, if_pos (this.mpr c)]
    · rw [if_neg c, if_neg (fun w => c (this.mp w))]
theorem frC_one {G : Geo} {d d' : Nat → Nat} {y : Nat} (h0 : ent G d y = 0) (h1 : ent G d' y ≠ 0) : ∀ (m x : Nat), x ≤ y → y < x + m → (∀ z, x ≤ z → z < x + m → z ≠ y → (ent G d' z = 0 ↔ ent G d z = 0)) → frC G d x m = frC G d' x m + 1
  | 0, x, a, b, _ => by omega
  | m + 1, x, a, b, h => by
    rw [frC, frC]
    by_cases c : x = y
    · rw [frC_congr m (x + 1) (fun z z1 z2 => h z (by omega) (by omega) (by omega)), c, if_pos h0, if_neg h1]
      omega
    · rw [frC_one h0 h1 m (x + 1) (by omega) (by omega) (fun z z1 z2 => h z (by omega) (by omega))]
      have := h x (by omega) (by omega) c
      by_cases e : ent G d x = 0
      · rw [if_pos e, if_pos (this.mpr e)]; omega
      · rw [if_neg e, if_neg (fun w => e (this.mp w))]; omega
theorem CD_zero4 {ln : LN} {ar : AR} {d : Nat → Nat} (h : CD ln ar d) {w : Nat} : CD ln (va_up ar 0 (upd (ar 0) w 0)) (wr d (4 * w) 4 0) := ⟨h.1, fun q hq => by
  have h0 := h.2 q hq
  unfold cb at h0 ⊢
  rw [va_up_self]
  unfold upd wr
  by_cases e : q / 4 = w
  · rw [if_pos e, if_pos (by omega), show uv (0 : Int32) = 0 from rfl, Nat.zero_div, Nat.zero_div]
  · rw [if_neg e, if_neg (by omega)]; exact h0⟩
theorem RD_put {ar : AR} {d : Nat → Nat} (h : RD ar d) {a : Nat} (v : Int32) : RD (va_up ar 1 (upd (ar 1) a (vp_nar .byte v))) (wr d a 1 (uv v)) := fun p hp => by
  have h0 := h p hp
  unfold mb at h0 ⊢
  rw [va_up_self]
  unfold upd wr
  by_cases e : p = a
  · rw [if_pos e, if_pos (by omega), vp_nar_byte, uv_byte, show p - a = 0 by omega, Nat.pow_zero, Nat.div_one]
  · rw [if_neg e, if_neg (by omega)]; exact h0
theorem wr_join0 {d : Nat → Nat} {p q m n : Nat} (h : q = p + m) : wr (wr d p m 0) q n 0 = wr d p (m + n) 0 := by
  have := wr_join (d := d) (p := p) (m := m) (n := n) (v := 0)
  rw [Nat.zero_div] at this
  rw [h]; exact this
theorem wipe_loop {nf : Nat} {ln : LN} {fi : FI} {s : Nat} (hs : 128 * s + 128 ≤ ln 0) (h0 : ln 0 < 2 ^ 18) : ∀ (m j kf : Nat) (ar : AR) (d : Nat → Nat), j + m = 128 → m < kf → CD ln ar d → ∃ ar', FX3_wipeSector_2 nf ln kf (nI s) (nI j) fi ar = some ((), fi, ar') ∧ CD ln ar' (wr d (512 * s + 4 * j) (4 * m) 0) ∧ offA 0 ar ar' := by
  intro m
  induction m with
  | zero =>
    intro j kf ar d hj hk hC
    obtain ⟨kf, rfl⟩ : ∃ k, kf = k + 1 := ⟨kf - 1, by omega⟩
    rw [show FX3_wipeSector_2 nf ln (kf + 1) = FX3_wipeSector_2b (FX3_wipeSector_2 nf ln kf) nf ln from rfl]
    unfold FX3_wipeSector_2b
    rw [brT (show (128 : Int32) ≤ nI j from nI_le (a := 128) (by omega) (by omega))]
    exact ⟨ar, rfl, by rw [Nat.mul_zero, wr_zero]; exact hC, offA.rf⟩
  | succ m ih =>
    intro j kf ar d hj hk hC
    obtain ⟨kf, rfl⟩ : ∃ k, kf = k + 1 := ⟨kf - 1, by omega⟩
    rw [show FX3_wipeSector_2 nf ln (kf + 1) = FX3_wipeSector_2b (FX3_wipeSector_2 nf ln kf) nf ln from rfl]
    unfold FX3_wipeSector_2b FX3_wipeSector_37
    have e1 : nI s * (128 : Int32) + nI j = nI (128 * s + j) := by
      rw [show (128 : Int32) = nI 128 from rfl, pk_mul, nI_add, Nat.mul_comm]
    rw [brF (show ¬ (128 : Int32) ≤ nI j from nI_ge (b := 128) (by omega) (by omega)), bnd_eq, e1, brF (nI_pos (by omega)), brF (show ¬ Int32.ofNat (ln 0) ≤ nI (128 * s + j) from nI_ge (by omega) (by omega)), zgd (by omega) (by omega), nI_clamp (by omega), bnd_eq, bnd_eq, show nI j + (1 : Int32) = nI (j + 1) from nI_add j 1]
    have o1 : offA 0 ar (va_up ar 0 (upd (ar 0) (128 * s + j) 0)) := fun z hz => va_up_off hz
    obtain ⟨ar', r1, r2, r3⟩ := ih (j + 1) kf _ _ (by omega) (by omega) (CD_zero4 hC (w := 128 * s + j))
    rw [show 4 * (128 * s + j) = 512 * s + 4 * j by omega, wr_join0 (by omega), show 4 + 4 * m = 4 * (m + 1) by omega] at r2
    exact ⟨ar', r1, r2, o1.tr r3⟩
theorem wipe_ok {nf : Nat} {ln : LN} {fi : FI} {ar : AR} {d : Nat → Nat} {s : Nat} (hC : CD ln ar d) (hs : 128 * s + 128 ≤ ln 0) (hnf : 200 ≤ nf) : ∃ ar', FX3_wipeSector nf ln fi ar (nI s) = some ((), fi, ar') ∧ CD ln ar' (wr d (512 * s) 512 0) ∧ offA 0 ar ar' :=
  wipe_loop hs hC.1 128 0 nf ar d (by omega) (by omega) hC
theorem cwipe_loop {nf : Nat} {ln : LN} {fi : FI} {x S c : Nat} (h6 : fi 6 = nI (shC c)) (hc : c = 2 ∨ c = 4 ∨ c = 8) (hS : 128 * (S + c) ≤ ln 0) (h0 : ln 0 < 2 ^ 18) (hnf : 200 ≤ nf) : ∀ (m i kf : Nat) (ar : AR) (d : Nat → Nat), i + m = c → m < kf → CD ln ar d → ∃ ar', FX9_claimLowest_43 nf ln kf (nI x) (nI S) (nI i) fi ar = some (nI x, fi, ar') ∧ CD ln ar' (wr d (512 * (S + i)) (512 * m) 0) ∧ offA 0 ar ar' := by
  have e1 : (1 : Int32) <<< (fi 6 &&& 31) = nI c := by
    rw [h6, show (1 : Int32) = nI 1 from rfl, shlC hc (by omega), Nat.one_mul]
  intro m
  induction m with
  | zero =>
    intro i kf ar d hi hk hC
    obtain ⟨kf, rfl⟩ : ∃ k, kf = k + 1 := ⟨kf - 1, by omega⟩
    rw [show FX9_claimLowest_43 nf ln (kf + 1) = FX9_claimLowest_43b (FX9_claimLowest_43 nf ln kf) nf ln from rfl]
    unfold FX9_claimLowest_43b
    rw [e1, brT (nI_le (by omega) (by omega))]
    exact ⟨ar, rfl, by rw [Nat.mul_zero, wr_zero]; exact hC, offA.rf⟩
  | succ m ih =>
    intro i kf ar d hi hk hC
    obtain ⟨kf, rfl⟩ : ∃ k, kf = k + 1 := ⟨kf - 1, by omega⟩
    rw [show FX9_claimLowest_43 nf ln (kf + 1) = FX9_claimLowest_43b (FX9_claimLowest_43 nf ln kf) nf ln from rfl]
    unfold FX9_claimLowest_43b
    obtain ⟨ar1, r1, r2, r3⟩ := wipe_ok (nf := nf) (fi := fi) hC (s := S + i) (by omega) hnf
    rw [e1, brF (nI_ge (by omega) (by omega)), nI_add, r1, obnd3_some, bnd_eq, show nI i + (1 : Int32) = nI (i + 1) from nI_add i 1]
    obtain ⟨ar', s1, s2, s3⟩ := ih (i + 1) kf _ _ (by omega) (by omega) r2
    rw [wr_join0 (by omega), show 512 + 512 * m = 512 * (m + 1) by omega] at s2
    exact ⟨ar', s1, s2, r3.tr s3⟩
theorem clm_loop {nf : Nat} {ln : LN} {fi : FI} {ar : AR} {G : Geo} {d : Nat → Nat} (hW : CW ln fi ar G d) (hb : ∀ p, d p < 256) (hnf : 200 ≤ nf) : ∀ (m x kf : Nat), x + m = G.k + 2 → 2 ≤ x → m < kf → 0 < frC G d x m → ∃ ar', FX9_claimLowest_2 nf ln kf (nI x) fi ar = some (nI (low G d x m), fi, ar') ∧ CW ln fi ar' G (tkD G d (low G d x m)) ∧ offA 0 ar ar' := by
  have hG := hW.2.2.1
  have b := hG.b
  have g5 : fi 5 = nI G.k := hW.2.1.2.2.1
  have g6 : fi 6 = nI (shC G.c) := hW.2.1.2.2.2.1
  have g10 : fi 10 = nI G.a := hW.2.1.2.2.2.2.2.2.2
  have hl0 : ln 0 = 128 * G.n := hW.2.2.2
  have hc := hG.1.1
  intro m
  induction m with
  | zero => intro x kf hx h2 hk hf; exact absurd hf (by rw [frC]; omega)
  | succ m ih =>
    intro x kf hx h2 hk hf
    obtain ⟨kf, rfl⟩ : ∃ k, kf = k + 1 := ⟨kf - 1, by omega⟩
    have he := ent_lt G d x
    rw [show FX9_claimLowest_2 nf ln (kf + 1) = FX9_claimLowest_2b (FX9_claimLowest_2 nf ln kf) nf ln from rfl]
    unfold FX9_claimLowest_2b
    rw [g5, nI_1, brF (nI_nlt (by omega) (by omega)), hW.next (by omega), obnd3_some, low]
    rw [frC] at hf
    by_cases c : ent G d x = 0
    · rw [if_pos c, c, brT (show nI 0 = 0 from rfl)]
      obtain ⟨ar1, r1, r2, r3⟩ := link_ok (nf := nf) hW hb (x := x) (v := 268435455) (by omega) (by omega) (by omega)
      have r1' : FX9_link nf ln fi ar (nI x) 268435455 = some ((), fi, ar1) := r1
      have hin := pl_in hG (x := x) ⟨h2, by omega⟩
      have hpl : pl G x = 512 * (G.a + (x - 2) * G.c) := rfl
      have hxc : (x - 2) * G.c < 4294967296 := by omega
      rw [r1', obnd3_some, bnd_eq, g6, g10, show nI x - (2 : Int32) = nI (x - 2) from nI_sub (b := 2) h2, shlC hc hxc, nI_add]
      obtain ⟨ar2, s1, s2, s3⟩ := cwipe_loop (nf := nf) (x := x) (S := G.a + (x - 2) * G.c) g6 hc (by omega) r2.1.1 hnf G.c 0 nf ar1 _ (by omega) (by omega) r2.1
      rw [Nat.add_zero, ← hpl] at s2
      exact ⟨ar2, s1, ⟨s2, hW.2⟩, r3.tr s3⟩
    · rw [if_neg c] at hf ⊢
      rw [brF (nI_ne0 (by omega) (by omega)), bnd_eq, nI_1]
      exact ih (x + 1) kf (by omega) (by omega) (by omega) (by omega)
theorem clm_ok {nf : Nat} {ln : LN} {fi : FI} {ar : AR} {G : Geo} {d : Nat → Nat} (hW : CW ln fi ar G d) (hb : ∀ p, d p < 256) (hf : 0 < frC G d 2 G.k) (hnf : 600 ≤ nf) : ∃ ar', FX9_claimLowest nf ln fi ar = some (nI (low G d 2 G.k), fi, ar') ∧ CW ln fi ar' G (tkD G d (low G d 2 G.k)) ∧ offA 0 ar ar' := by
  have b := hW.2.2.1.b
  exact clm_loop hW hb (by omega) G.k 2 nf (by omega) (by omega) (by omega) hf
theorem mwipe_loop {nf : Nat} {fm : FI} {G : Geo} {x : Nat} (hG : GOK G) (hRG : RG fm G) (hx : isC G x) : ∀ (m i kf : Nat) (arm : AR) (d : Nat → Nat), i + m = 512 * G.c → m < kf → RD arm d → ∃ arm', M_take_25 nf kf (nI x) (nI i) fm arm = some (nI x, fm, arm') ∧ RD arm' (wr d (pl G x + i) m 0) ∧ offA 1 arm arm' := by
  have b := hG.b
  have hin := pl_in hG hx
  have e1 : (512 : Int32) * fm 7 = nI (512 * G.c) := by rw [hRG.2.1]; exact pk_mul 512 _
  intro m
  induction m with
  | zero =>
    intro i kf arm d hi hk hR
    obtain ⟨kf, rfl⟩ : ∃ k, kf = k + 1 := ⟨kf - 1, by omega⟩
    rw [show M_take_25 nf (kf + 1) = M_take_25b (M_take_25 nf kf) nf from rfl]
    unfold M_take_25b
    rw [e1, brT (nI_le (by omega) (by omega))]
    exact ⟨arm, rfl, by rw [wr_zero]; exact hR, offA.rf⟩
  | succ m ih =>
    intro i kf arm d hi hk hR
    obtain ⟨kf, rfl⟩ : ∃ k, kf = k + 1 := ⟨kf - 1, by omega⟩
    rw [show M_take_25 nf (kf + 1) = M_take_25b (M_take_25 nf kf) nf from rfl]
    unfold M_take_25b
    rw [e1, brF (nI_ge (by omega) (by omega)), RW.place ⟨hR, hRG, hG⟩ hx.1, obnd3_some, nI_add, zgd (by omega) (by omega), nI_clamp (by omega), bnd_eq, bnd_eq, show nI i + (1 : Int32) = nI (i + 1) from nI_add i 1]
    have o1 : offA 1 arm (va_up arm 1 (upd (arm 1) (pl G x + i) (vp_nar .byte 0))) := fun z hz => va_up_off hz
    have h0 := RD_put hR (a := pl G x + i) 0
    rw [show uv (0 : Int32) = 0 from rfl] at h0
    obtain ⟨arm', s1, s2, s3⟩ := ih (i + 1) kf _ _ (by omega) (by omega) h0
    rw [wr_join0 (by omega), show 1 + m = m + 1 by omega] at s2
    exact ⟨arm', s1, s2, o1.tr s3⟩
theorem take_loop {nf : Nat} {fm : FI} {arm : AR} {G : Geo} {d : Nat → Nat} (hW : RW fm arm G d) (hb : ∀ p, d p < 256) (hnf : 6000 ≤ nf) : ∀ (m x kf : Nat), x + m = G.k + 2 → 2 ≤ x → m < kf → 0 < frC G d x m → ∃ arm', M_take_2 nf kf (nI x) fm arm = some (nI (low G d x m), fm, arm') ∧ RW fm arm' G (tkD G d (low G d x m)) ∧ offA 1 arm arm' := by
  have hG := hW.2.2
  have b := hG.b
  intro m
  induction m with
  | zero => intro x kf hx h2 hk hf; exact absurd hf (by rw [frC]; omega)
  | succ m ih =>
    intro x kf hx h2 hk hf
    obtain ⟨kf, rfl⟩ : ∃ k, kf = k + 1 := ⟨kf - 1, by omega⟩
    have he := ent_lt G d x
    rw [show M_take_2 nf (kf + 1) = M_take_2b (M_take_2 nf kf) nf from rfl]
    unfold M_take_2b
    rw [hW.entry (by omega), obnd3_some, low]
    rw [frC] at hf
    by_cases c : ent G d x = 0
    · rw [if_pos c, c, brT (show nI 0 = 0 from rfl)]
      obtain ⟨arm1, r1, r2, r3⟩ := setEntry_ok (nf := nf) hW hb (x := x) (v := 268435455) (by omega) (by omega) (by omega)
      have r1' : M_setEntry nf fm arm (nI x) 268435455 = some ((), fm, arm1) := r1
      rw [r1', obnd3_some]
      obtain ⟨arm2, s1, s2, s3⟩ := mwipe_loop (nf := nf) hG hW.2.1 (x := x) ⟨h2, by omega⟩ (512 * G.c) 0 nf arm1 _ (by omega) (by omega) r2.1
      rw [Nat.add_zero] at s2
      exact ⟨arm2, s1, ⟨s2, hW.2⟩, r3.tr s3⟩
    · rw [if_neg c] at hf ⊢
      rw [brF (nI_ne0 (by omega) (by omega)), bnd_eq, nI_1]
      exact ih (x + 1) kf (by omega) (by omega) (by omega) (by omega)
theorem take_ok {nf : Nat} {fm : FI} {arm : AR} {G : Geo} {d : Nat → Nat} (hW : RW fm arm G d) (hb : ∀ p, d p < 256) (hf : 0 < frC G d 2 G.k) (hnf : 6000 ≤ nf) : ∃ arm', M_take nf fm arm = some (nI (low G d 2 G.k), fm, arm') ∧ RW fm arm' G (tkD G d (low G d 2 G.k)) ∧ offA 1 arm arm' := by
  have b := hW.2.2.b
  exact take_loop hW hb hnf G.k 2 nf (by omega) (by omega) (by omega) hf
theorem tk_facts {G : Geo} {d : Nat → Nat} {x : Nat} (hG : GOK G) (hb : ∀ p, d p < 256) (hx : isC G x) : (∀ q, tkD G d x q < 256) ∧ (∀ q, (q < 4096 ∨ 512 * G.a ≤ q) → (q < pl G x ∨ pl G x + 512 * G.c ≤ q) → tkD G d x q = d q) ∧ (∀ q, pl G x ≤ q → q < pl G x + 512 * G.c → tkD G d x q = 0) ∧ (∀ y, y < G.k + 2 → ent G (tkD G d x) y = if y = x then 268435455 else ent G d y) ∧ (tabOK G d → tabOK G (tkD G d x)) := by
  have b := hG.b
  have hin := pl_in hG hx
  have hxk : x < G.k + 2 := by have := hx.2; omega
  have hT := tab_congr (d := stE G d x 268435455) (d' := tkD G d x) hG (fun q q1 q2 => by unfold tkD; rw [wr_out (by omega)])
  refine ⟨fun q => wr_lt (stE_lt hb _ _) _ _ _ q, fun q q1 q2 => ?_, fun q q1 q2 => ?_, fun y hy => ?_, fun ht => hT.2 (tab_stE hG hb hx.1 hxk (by omega) (Or.inr (Or.inr (by omega))) ht)⟩
  · unfold tkD
    rw [wr_out (by omega), stE_out hG hxk q1]
  · unfold tkD
    rw [wr_in q1 q2, Nat.zero_div]
  · rw [hT.1 y hy, ent_stE hG hb hxk (by omega) hy]
