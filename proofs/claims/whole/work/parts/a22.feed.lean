/-! feed and end -/
theorem shC3 : ∀ q, q < 20 → ((24 : Int32) - ((nI q &&& 3) <<< ((3 : Int32) &&& 31))) = nI (24 - 8 * (q % 4)) := by decide
theorem shM3 : ∀ q, q < 20 → ((24 : Int32) - ((8 : Int32) * (nI q - nI q / 4 * 4))) = nI (24 - 8 * (q % 4)) := by decide
theorem shR2 : ∀ q, q < 20 → nI q >>> ((2 : Int32) &&& 31) = nI (q / 4) := by decide
def fd5 (x1 x2 x3 x4 x5 : Int32) (g : Nat → Int32) : Nat → Int32 := fun q => if q = 0 then x1 else if q = 1 then x2 else if q = 2 then x3 else if q = 3 then x4 else if q = 4 then x5 else g q
theorem feed_loop {nf : Nat} (x1 x2 x3 x4 x5 : Int32) (g : Nat → Int32) : ∀ (m q kf : Nat) (fm : FI) (arm : AR), q + m = 20 → m < kf → ∃ arm', M_feed_8 nf kf x1 x2 x3 x4 x5 (nI q) fm arm = some ((), va_up fm 6 1, arm') ∧ offAs [3] arm arm' ∧ (∀ t, t < q → arm' 3 t = arm 3 t) ∧ (∀ t, t < 20 → q ≤ t → arm' 3 t = rb (fd5 x1 x2 x3 x4 x5 g (t / 4)) (t % 4)) := by
  intro m
  induction m with
  | zero =>
    intro q kf fm arm hq hk
    obtain ⟨kf, rfl⟩ : ∃ k, kf = k + 1 := ⟨kf - 1, by omega⟩
    rw [show M_feed_8 nf (kf + 1) = M_feed_8b (M_feed_8 nf kf) nf from rfl]
    unfold M_feed_8b
    rw [brT (show (20 : Int32) ≤ nI q by rw [show q = 20 by omega]; decide), bnd_eq]
    exact ⟨arm, rfl, offAs.rf, fun _ _ => rfl, fun t h1 h2 => by omega⟩
  | succ m ih =>
    intro q kf fm arm hq hk
    obtain ⟨kf, rfl⟩ : ∃ k, kf = k + 1 := ⟨kf - 1, by omega⟩
    rw [show M_feed_8 nf (kf + 1) = M_feed_8b (M_feed_8 nf kf) nf from rfl]
    have key : ∀ t0 : Int32, t0 = fd5 x1 x2 x3 x4 x5 g (q / 4) → ∃ arm', M_feed_61 (M_feed_8 nf kf) nf x1 x2 x3 x4 x5 (nI q) t0 fm arm = some ((), va_up fm 6 1, arm') ∧ offAs [3] arm arm' ∧ (∀ t, t < q → arm' 3 t = arm 3 t) ∧ (∀ t, t < 20 → q ≤ t → arm' 3 t = rb (fd5 x1 x2 x3 x4 x5 g (t / 4)) (t % 4)) := by
      intro t0 ht0
      obtain ⟨arm', r1, r2, r3, r4⟩ := ih (q + 1) kf fm (va_up arm 3 (upd (arm 3) q (rb t0 (q % 4)))) (by omega) (by omega)
      refine ⟨arm', ?_, offAs.tr (offAs.rf.up (by simp)) r2, fun t ht => ?_, fun t h1 h2 => ?_⟩
      · unfold M_feed_61
        rw [zgd (by omega) (by omega), nI_clamp (by omega), shM3 q (by omega), bnd_eq, bnd_eq, show nI q + (1 : Int32) = nI (q + 1) from nI_add q 1]
        exact r1
      · rw [r3 t (by omega), va_up_self]; unfold upd; rw [if_neg (by omega)]
      · by_cases e : t = q
        · rw [e, r3 q (by omega), va_up_self]; unfold upd; rw [if_pos rfl, ht0]
        · exact r4 t h1 (by omega)
    unfold M_feed_8b
    rw [brF (show ¬ (20 : Int32) ≤ nI q from nI_ge (b := 20) (by omega) (by omega))]
    rcases (show q / 4 = 0 ∨ q / 4 = 1 ∨ q / 4 = 2 ∨ q / 4 = 3 ∨ q / 4 = 4 by omega) with w | w | w | w | w
    · rw [brF (show ¬ (4 : Int32) ≤ nI q from nI_ge (b := 4) (by omega) (by omega))]
      exact key x1 (by rw [w]; rfl)
    · rw [brT (show (4 : Int32) ≤ nI q from nI_le (a := 4) (by omega) (by omega)), brF (show ¬ (8 : Int32) ≤ nI q from nI_ge (b := 8) (by omega) (by omega))]
      exact key x2 (by rw [w]; rfl)
    · rw [brT (show (4 : Int32) ≤ nI q from nI_le (a := 4) (by omega) (by omega)), brT (show (8 : Int32) ≤ nI q from nI_le (a := 8) (by omega) (by omega)), brF (show ¬ (12 : Int32) ≤ nI q from nI_ge (b := 12) (by omega) (by omega))]
      exact key x3 (by rw [w]; rfl)
    · rw [brT (show (4 : Int32) ≤ nI q from nI_le (a := 4) (by omega) (by omega)), brT (show (8 : Int32) ≤ nI q from nI_le (a := 8) (by omega) (by omega)), brT (show (12 : Int32) ≤ nI q from nI_le (a := 12) (by omega) (by omega)), brF (show ¬ (16 : Int32) ≤ nI q from nI_ge (b := 16) (by omega) (by omega))]
      exact key x4 (by rw [w]; rfl)
    · rw [brT (show (4 : Int32) ≤ nI q from nI_le (a := 4) (by omega) (by omega)), brT (show (8 : Int32) ≤ nI q from nI_le (a := 8) (by omega) (by omega)), brT (show (12 : Int32) ≤ nI q from nI_le (a := 12) (by omega) (by omega)), brT (show (16 : Int32) ≤ nI q from nI_le (a := 16) (by omega) (by omega))]
      exact key x5 (by rw [w]; rfl)
theorem feed_alike {nf n h T : Nat} {ln : LN} {fi fm : FI} {ar arm : AR} {d : Nat → Nat} (hV : VOL n ln fi ar fm arm d h) (hT : TAP fi ar fm arm T) (x1 x2 x3 x4 x5 : Int32) (hnf : 40000 ≤ nf) : ∃ fi' ar' fm' arm', FX10_feed nf ln fi ar x1 x2 x3 x4 x5 = some ((), fi', ar') ∧ M_feed nf fm arm x1 x2 x3 x4 x5 = some ((), fm', arm') ∧ VOL n ln fi' ar' fm' arm' d h ∧ TAP fi' ar' fm' arm' T := by
  have hl2 : ln 2 = 5 := hV.2.2.2.2.2.2.1.2.2.1
  obtain ⟨arm', r1, r2, r3, r4⟩ := feed_loop (nf := nf) x1 x2 x3 x4 x5 (ar 2) 20 0 nf (va_up fm 5 0) arm (by omega) (by omega)
  have e : FX10_feed nf ln fi ar x1 x2 x3 x4 x5 = some ((), fi, va_up ar 2 (fd5 x1 x2 x3 x4 x5 (ar 2))) := by
    unfold FX10_feed FX8_prepare
    rw [hl2]
    rw [gdT (show ¬ ((0 : Int32) < 0 ∨ 5 ≤ (0 : Int32).toNatClampNeg) by decide), bnd_eq, gdT (show ¬ ((1 : Int32) < 0 ∨ 5 ≤ (1 : Int32).toNatClampNeg) by decide), bnd_eq, gdT (show ¬ ((2 : Int32) < 0 ∨ 5 ≤ (2 : Int32).toNatClampNeg) by decide), bnd_eq, gdT (show ¬ ((3 : Int32) < 0 ∨ 5 ≤ (3 : Int32).toNatClampNeg) by decide), bnd_eq, gdT (show ¬ ((4 : Int32) < 0 ∨ 5 ≤ (4 : Int32).toNatClampNeg) by decide), bnd_eq, obnd3_some]
    simp only [va_up_self]
    congr 3
    funext j
    by_cases w : j = 2
    · rw [w]
      simp only [va_up_self]
      funext q
      simp only [upd, fd5, show (0 : Int32).toNatClampNeg = 0 from rfl, show (1 : Int32).toNatClampNeg = 1 from rfl, show (2 : Int32).toNatClampNeg = 2 from rfl, show (3 : Int32).toNatClampNeg = 3 from rfl, show (4 : Int32).toNatClampNeg = 4 from rfl]
      rcases (show q = 0 ∨ q = 1 ∨ q = 2 ∨ q = 3 ∨ q = 4 ∨ 4 < q by omega) with z | z | z | z | z | z
      · subst z; rfl
      · subst z; rfl
      · subst z; rfl
      · subst z; rfl
      · subst z; rfl
      · simp [show q ≠ 0 by omega, show q ≠ 1 by omega, show q ≠ 2 by omega, show q ≠ 3 by omega, show q ≠ 4 by omega]
    · simp only [va_up_off w]
  refine ⟨fi, _, _, arm', e, ?_, hV.tape offF.rf (offAs.rf.up (by simp)) ((offF.rf.up (k := 5) (v := 0) (by simp)).up (k := 6) (v := 1) (by simp)) (r2.mono (by simp)), ?_⟩
  · unfold M_feed
    rw [bnd_eq]; exact r1
  · obtain ⟨t1, t2, t3, t4, t5⟩ := hT
    refine ⟨t1, t2, by rw [va_up_off (by decide), va_up_off (by decide)]; exact t3, fun j hj => by rw [va_up_off (by decide), r2 2 (by simp)]; exact t4 j hj, Or.inr ⟨va_up_self _ _ _, fun q hq => by rw [va_up_self]; exact r4 q hq (by omega)⟩⟩
theorem app_loop {nf n T K : Nat} {ln : LN} {arm0 : AR} {fi : FI} {f6 : Int32} {r2 : Nat → Int32} (hn : LNC ln n) (hT : T + K ≤ 4096) (hK : K ≤ 20) (h3 : fi 3 = nI T) (hb : (f6 = 0 ∧ ∀ q, q < 5 → r2 q = 0) ∨ (f6 = 1 ∧ ∀ q, q < 20 → arm0 3 q = rb (r2 (q / 4)) (q % 4))) : ∀ (m q kf kf' : Nat) (ar : AR) (fm : FI) (arm : AR), q + m = K → m < kf → m < kf' → ar 2 = r2 → arm 3 = arm0 3 → fm 6 = f6 → fm 4 = nI (T + q) → (∀ j, j < 4096 → ar 1 j = arm 2 j) → ∃ ar' fm' arm', FX8_append_26 nf ln kf (nI K) (nI q) fi ar = some (nI (T + K), va_up fi 3 (nI (T + K)), ar') ∧ M_end_31 nf kf' (nI K) (nI q) fm arm = some (nI (T + K), fm', arm') ∧ offAs [1, 2] ar ar' ∧ offF [4, 6] fm fm' ∧ offAs [2] arm arm' ∧ fm' 4 = nI (T + K) ∧ fm' 6 = 0 ∧ (∀ q, q < 5 → ar' 2 q = 0) ∧ (∀ j, j < 4096 → ar' 1 j = arm' 2 j) := by
  have hl1 : ln 1 = 4096 := hn.2.1
  have hl2 : ln 2 = 5 := hn.2.2.1
  intro m
  induction m with
  | zero =>
    intro q kf kf' ar fm arm hq hk hk' h2 ha3 h6 h4 hj
    have eq : q = K := by omega
    subst eq
    obtain ⟨kf, rfl⟩ : ∃ k, kf = k + 1 := ⟨kf - 1, by omega⟩
    obtain ⟨kf', rfl⟩ : ∃ k, kf' = k + 1 := ⟨kf' - 1, by omega⟩
    rw [show FX8_append_26 nf ln (kf + 1) = FX8_append_26b (FX8_append_26 nf ln kf) nf ln from rfl]
    rw [show M_end_31 nf (kf' + 1) = M_end_31b (M_end_31 nf kf') nf from rfl]
    unfold FX8_append_26b M_end_31b
    have le : nI q ≤ nI q := Int32.le_refl _
    rw [brT le, brT le, bnd_eq, bnd_eq, hl2, gdT (show (5 : Nat) < 2 ^ 31 by decide), bnd_eq, va_up_self, va_up_off (show (4 : Nat) ≠ 6 by decide), h3, nI_add, h4]
    refine ⟨_, _, arm, rfl, rfl, offAs.rf.up (by simp), offF.rf.up (by simp), offAs.rf, by rw [va_up_off (by decide)]; exact h4, va_up_self _ _ _, fun q hq => ?_, fun j hjj => by rw [va_up_off (by decide)]; exact hj j hjj⟩
    rw [va_up_self]
    have : ∀ (g : Nat → Int32), ∀ q, q < 5 → fillN g 0 5 q = 0 := fun g q hq => by
      rcases (show q = 0 ∨ q = 1 ∨ q = 2 ∨ q = 3 ∨ q = 4 by omega) with z | z | z | z | z <;> subst z <;> rfl
    exact this _ q hq
  | succ m ih =>
    intro q kf kf' ar fm arm hq hk hk' h2 ha3 h6 h4 hj
    obtain ⟨kf, rfl⟩ : ∃ k, kf = k + 1 := ⟨kf - 1, by omega⟩
    obtain ⟨kf', rfl⟩ : ∃ k, kf' = k + 1 := ⟨kf' - 1, by omega⟩
    rw [show FX8_append_26 nf ln (kf + 1) = FX8_append_26b (FX8_append_26 nf ln kf) nf ln from rfl]
    rw [show M_end_31 nf (kf' + 1) = M_end_31b (M_end_31 nf kf') nf from rfl]
    have nle : ¬ nI K ≤ nI q := nI_ge (by omega) (by omega)
    have ec : rb (ar 2 (q / 4)) (q % 4) = vp_nar .byte (if f6 = 0 then 0 else arm 3 q) := by
      rw [h2]
      rcases hb with ⟨b1, b2⟩ | ⟨b1, b2⟩
      · rw [if_pos b1, b2 (q / 4) (by omega), rb0 _ (by omega)]
      · rw [if_neg (by rw [b1]; decide), ha3, b2 q (by omega)]; unfold rb; rw [byte_idem]
    obtain ⟨ar', fm', arm', r1, r2', r3, r4, r5, r6, r7, r8, r9⟩ := ih (q + 1) kf kf' (va_up ar 1 (upd (ar 1) (T + q) (rb (ar 2 (q / 4)) (q % 4)))) (va_up fm 4 (nI (T + (q + 1)))) (va_up arm 2 (upd (arm 2) (T + q) (vp_nar .byte (if f6 = 0 then 0 else arm 3 q)))) (by omega) (by omega) (by omega) (by rw [va_up_off (by decide)]; exact h2) (by rw [va_up_off (by decide)]; exact ha3) (by rw [va_up_off (by decide)]; exact h6) (va_up_self _ _ _) (fun j hjj => by
      rw [va_up_self, va_up_self]; unfold upd
      by_cases e : j = T + q
      · rw [if_pos e, if_pos e, ec]
      · rw [if_neg e, if_neg e]; exact hj j hjj)
    refine ⟨ar', fm', arm', ?_, ?_, offAs.tr (offAs.rf.up (by simp)) r3, (offF.rf.up (by simp)).tr r4, offAs.tr (offAs.rf.up (by simp)) r5, r6, r7, r8, r9⟩
    · unfold FX8_append_26b
      rw [brF nle, shR2 q (by omega), shC3 q (by omega), h3, nI_add, hl1, hl2, zgd (by omega) (by omega), zgd (by omega) (by omega), nI_clamp (by omega), nI_clamp (by omega), bnd_eq, bnd_eq, show nI q + (1 : Int32) = nI (q + 1) from nI_add q 1]
      exact r1
    · have m61 : ∀ v, v = (if f6 = 0 then 0 else arm 3 q) → M_end_61 (M_end_31 nf kf') nf (nI K) (nI q) (fm 4) v fm arm = some (nI (T + K), fm', arm') := by
        intro v hv
        unfold M_end_61
        rw [h4, zgd (by omega) (by omega), nI_clamp (by omega), bnd_eq, bnd_eq, bnd_eq, show nI q + (1 : Int32) = nI (q + 1) from nI_add q 1, show nI (T + q) + (1 : Int32) = nI (T + (q + 1)) from nI_add (T + q) 1, hv]
        exact r2'
      unfold M_end_31b
      rw [brF nle, h6]
      rcases hb with ⟨b1, b2⟩ | ⟨b1, b2⟩
      · rw [brT b1]; exact m61 0 (by rw [if_pos b1])
      · rw [brF (by rw [b1]; decide), zgd (by omega) (by omega), nI_clamp (by omega)]
        exact m61 _ (by rw [if_neg (by rw [b1]; decide)])
theorem end_alike {nf n h T : Nat} {ln : LN} {fi fm : FI} {ar arm : AR} {d : Nat → Nat} (hV : VOL n ln fi ar fm arm d h) (hT : TAP fi ar fm arm T) (x1 : Int32) (hnf : 40000 ≤ nf) : ∃ v T' fi' ar' fm' arm', FX10_end nf ln fi ar x1 = some (v, fi', ar') ∧ M_end nf fm arm x1 = some (v, fm', arm') ∧ VOL n ln fi' ar' fm' arm' d h ∧ TAP fi' ar' fm' arm' T' := by
  have hL := hV.2.2.2.2.2.2.1
  obtain ⟨t1, t2, t3, t4, t5⟩ := id hT
  have bad : ∃ v T' fi' ar' fm' arm', some ((-1 : Int32), fi, ar) = some (v, fi', ar') ∧ some ((-1 : Int32), va_up fm 5 0, arm) = some (v, fm', arm') ∧ VOL n ln fi' ar' fm' arm' d h ∧ TAP fi' ar' fm' arm' T' := ⟨-1, T, fi, ar, _, arm, rfl, rfl, hV.upM, hT.off (offF.rf (S := [])) (offAs.rf (S := [])) (offF.rf.up (S := [5]) (by simp)) (offAs.rf (S := [])) (by simp) (by simp) (by simp) (by simp)⟩
  unfold FX10_end FX8_append FX8_append_22 M_end M_end_27
  rw [bnd_eq, va_up_off (show (4 : Nat) ≠ 5 by decide), t2, t3]
  by_cases q1 : x1 < 0
  · rw [brT q1, brT q1, obnd3_some]; exact bad
  · rw [brF q1, brF q1]
    by_cases q2 : (20 : Int32) < x1
    · rw [brT q2, brT q2, obnd3_some]; exact bad
    · rw [brF q2, brF q2]
      obtain ⟨K, hK, rfl⟩ : ∃ K, K ≤ 20 ∧ x1 = nI K := by
        refine ⟨uv x1, ?_, (nI_uv _).symm⟩
        have := tI x1
        have l0 : (0 : Int32).toInt = 0 := rfl
        have l20 : (20 : Int32).toInt = 20 := rfl
        rw [ltI, l0] at q1; rw [ltI, l20] at q2; omega
      rw [nI_add]
      by_cases q3 : T + K ≤ 4096
      · rw [brT (show nI (T + K) ≤ (4096 : Int32) from nI_le (b := 4096) q3 (by omega)), brT (show nI (T + K) ≤ (4096 : Int32) from nI_le (b := 4096) q3 (by omega))]
        obtain ⟨ar', fm', arm', r1, r2, r3, r4, r5, r6, r7, r8, r9⟩ := app_loop (nf := nf) (arm0 := arm) (f6 := fm 6) (r2 := ar 2) hL q3 hK t2 t5 K 0 nf nf ar (va_up fm 5 0) arm (by omega) (by omega) (by omega) rfl rfl (va_up_off (by decide)) (by rw [va_up_off (by decide), t3]; rfl) t4
        rw [show (0 : Int32) = nI 0 from rfl]
        rw [r1, obnd3_some]
        refine ⟨_, T + K, _, ar', fm', arm', rfl, r2, hV.tape (offF.rf.up (by simp)) r3 (((offF.rf.up (k := 5) (v := 0) (S := [4, 5, 6]) (by simp))).tr (r4.mono (by simp))) (r5.mono (by simp)), q3, va_up_self _ _ _, r6, r9, Or.inl ⟨r7, r8⟩⟩
      · rw [brF (show ¬ nI (T + K) ≤ (4096 : Int32) from nI_ge (a := 4096) (b := T + K) (by omega) (by omega)), brF (show ¬ nI (T + K) ≤ (4096 : Int32) from nI_ge (a := 4096) (b := T + K) (by omega) (by omega)), obnd3_some]
        exact bad
