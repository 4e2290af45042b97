/-! the tape -/
def rb (x : Int32) (r : Nat) : Int32 := vp_nar .byte ((x >>> (nI (24 - 8 * r) &&& 31)).toInt8.toInt32)
theorem byte_idem (x : Int32) : vp_nar .byte (vp_nar .byte x) = vp_nar .byte x := by
  rw [vp_nar_byte, vp_nar_byte, Int8.toInt8_toInt32]
theorem rb0 : ∀ r, r < 4 → rb 0 r = vp_nar .byte 0 := by decide
/-- the tape of both -/
def TAP (fi : FI) (ar : AR) (fm : FI) (arm : AR) (T : Nat) : Prop := T ≤ 4096 ∧ fi 3 = nI T ∧ fm 4 = nI T ∧ (∀ j, j < 4096 → ar 1 j = arm 2 j) ∧ ((fm 6 = 0 ∧ ∀ q, q < 5 → ar 2 q = 0) ∨ (fm 6 = 1 ∧ ∀ q, q < 20 → arm 3 q = rb (ar 2 (q / 4)) (q % 4)))
theorem TAP.off {fi fi' fm fm' : FI} {ar ar' arm arm' : AR} {T : Nat} (h : TAP fi ar fm arm T) {S1 S2 T1 T2 : List Nat} (h1 : offF S1 fi fi') (h2 : offAs T1 ar ar') (h3 : offF S2 fm fm') (h4 : offAs T2 arm arm') (c1 : 3 ∉ S1) (c2 : 1 ∉ T1 ∧ 2 ∉ T1) (c3 : 4 ∉ S2 ∧ 6 ∉ S2) (c4 : 2 ∉ T2 ∧ 3 ∉ T2) : TAP fi' ar' fm' arm' T := by
  unfold TAP at *
  rw [h1 3 c1, h3 4 c3.1, h3 6 c3.2, h2 1 c2.1, h2 2 c2.2, h4 2 c4.1, h4 3 c4.2]
  exact h
theorem VOL.tape {n h : Nat} {ln : LN} {fi fi' fm fm' : FI} {ar ar' arm arm' : AR} {d : Nat → Nat} (hV : VOL n ln fi ar fm arm d h) (h1 : offF [3] fi fi') (h2 : offAs [1, 2] ar ar') (h3 : offF [4, 5, 6] fm fm') (h4 : offAs [2, 3] arm arm') : VOL n ln fi' ar' fm' arm' d h := by
  obtain ⟨v1, v2, v3, v4, v5, v6, v7, v8, v9, v10, v11, v12, v13, v14⟩ := hV.offS h1 h2 (by simp) (by simp)
  refine ⟨v1, v2, fun p hp => by rw [h4 1 (by simp)]; exact v3 p hp, v4, v5, by rw [h3 0 (by simp)]; exact v6, v7, v8, v9, by rw [h3 14 (by simp)]; exact v10, v11, v12, ?_, v14⟩
  rcases v13 with w | ⟨w1, w2, w3, w4⟩
  · left; rw [h3 15 (by simp)]; exact w
  · refine Or.inr ⟨by rw [h3 15 (by simp)]; exact w1, by rw [h3 16 (by simp)]; exact w2, fun hh => ?_, fun hz => ?_⟩
    · have e : ∀ j, j ∈ [0, 7, 8, 9, 10, 11, 12, 13] → fm' j = fm j := fun j hj => h3 j (by simp at hj ⊢; omega)
      unfold RG
      rw [e 0 (by simp), e 7 (by simp), e 8 (by simp), e 9 (by simp), e 10 (by simp), e 11 (by simp), e 12 (by simp), e 13 (by simp)]
      exact w3 hh
    · obtain ⟨ms, N, U, k1, k2, k3, k4, k5, k6, k7, k8, k9, k10, k11⟩ := w4 hz
      have a20 : arm' 20 = arm 20 := h4 20 (by simp)
      have a23 : arm' 23 = arm 23 := h4 23 (by simp)
      have ep : ∀ j, pA arm' j = pA arm j := fun j => by unfold pA; rw [a20]
      have ef : ∀ j, fsF arm' d (geoOf n d).r j = fsF arm d (geoOf n d).r j := fun j => by unfold fsF; rw [ep]
      have ed : ∀ j, drF arm' d j ↔ drF arm d j := fun j => by unfold drF; rw [ep]
      refine ⟨ms, N, U, k1.off h3 h4 (by simp) (by simp), by rw [h3 17 (by simp)]; exact k2, by rw [h3 18 (by simp)]; exact k3, by rw [h3 16 (by simp)]; exact k4, k5.off h4 (by simp), k6, k7, fun j j0 jN => ?_, fun j jN hd => ?_, fun z => ⟨(k10 z).1, (k10 z).2.1, (k10 z).2.2.off h3 (by simp)⟩, k11⟩
      · have := k8 j j0 jN
        rw [ep, a23, ed]; exact this
      · obtain ⟨t1, t2, bb, tb, t3, t4, t5, t6⟩ := k9 j jN ((ed j).mp hd)
        rw [ef]
        refine ⟨t1, fun w => ⟨(t2 w).1, ?_⟩, bb, tb, by rw [h4 25 (by simp)]; exact t3, by rw [h4 24 (by simp)]; exact t4, t5, fun q hq => ?_⟩
        · have e : prF arm' d (geoOf n d).r j = prF arm d (geoOf n d).r j := by unfold prF; rw [a23, ef]
          rw [e]; exact (t2 w).2
        · obtain ⟨a1, a2, a3, a4, a5⟩ := t6 q hq
          rw [a20, h4 21 (by simp), h4 22 (by simp), a23]
          exact ⟨a1, a2, a3, a4, a5.off h4 (by simp)⟩
theorem clear_alike {nf n h T : Nat} {ln : LN} {fi fm : FI} {ar arm : AR} {d : Nat → Nat} (hV : VOL n ln fi ar fm arm d h) (hT : TAP fi ar fm arm T) : ∃ fi' fm', FX10_clear nf ln fi ar = some ((), fi', ar) ∧ M_clear nf fm arm = some ((), fm', arm) ∧ VOL n ln fi' ar fm' arm d h ∧ TAP fi' ar fm' arm 0 := by
  refine ⟨va_up fi 3 0, va_up (va_up fm 5 0) 4 0, rfl, rfl, hV.tape (offF.rf.up (by simp)) offAs.rf ((offF.rf.up (by simp)).up (by simp)) offAs.rf, ?_⟩
  obtain ⟨t1, t2, t3, t4, t5⟩ := hT
  refine ⟨by omega, by rw [va_up_self]; rfl, by rw [va_up_self]; rfl, t4, ?_⟩
  rw [va_up_off (by decide), va_up_off (by decide)]; exact t5
