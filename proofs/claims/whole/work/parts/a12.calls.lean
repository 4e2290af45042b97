/-! calls that answer alike: fault, items; items by number -/
theorem fault_alike {nf n h : Nat} {ln : LN} {fi fm : FI} {ar arm : AR} {d : Nat → Nat} (hV : VOL n ln fi ar fm arm d h) (hnf : 40000 ≤ nf) : ∃ v fi' ar' ln' kc ks fm' arm', FX10_fault nf fi ar ln = some (v, fi', ar', ln', kc, ks) ∧ M_fault nf fm arm = some (v, fm', arm') ∧ VOL n ln' fi' ar' fm' arm' d h ∧ CST ln ln' kc ks 0 0 ∧ offF [1, 4, 5, 6, 7, 8, 9, 10, 11, 40, 41, 42, 43, 44, 45, 62, 63] fi fi' ∧ offAs [3, 4, 5, 18, 19, 20, 21, 32, 33, 42] ar ar' ∧ offF [5, 7, 8, 9, 10, 11, 12, 13, 15, 16, 17, 18, 31, 32, 33, 35, 36, 37, 38] fm fm' ∧ offAs [19, 20, 21, 22, 23, 24, 25, 26, 27, 28, 29, 30, 34] arm arm' := by
  obtain ⟨fm1, arm1, b1, b2, b3, b4, b5, b6, b7, b8, b9⟩ := look_any hV hnf
  have hM : M_fault nf fm arm = some (nI (fltS n d), fm1, arm1) := by
    unfold M_fault
    rw [bnd_eq, b1, obnd3_some, b5]
  obtain ⟨v1, v2, v3, v4, v5, v6, v7, v8, v9, v10, v11, v12, v13, v14⟩ := id b2
  unfold FX10_fault FX10_fault_19
  by_cases q1 : fi 1 = -1
  · rw [brT q1]
    obtain ⟨L, hL⟩ := v8 2 (by omega)
    obtain ⟨fi1, ar1, ln1, k1, s1, a1, a2, a3, a4, a5⟩ := firstFault_ok (nf := nf) v4 v5 v1.1 v1.2 v7 hL hnf
    rw [a1, obnd6_some, bnd_eq, va_up_self, addc_some]
    have oF : offF [1, 4, 5, 6, 7, 8, 9, 10, 11, 40, 41, 42, 43, 44, 45, 62, 63] fi (va_up fi1 1 (nI (fltS n d))) := (a3.mono (by simp)).up (by simp)
    exact ⟨_, _, ar1, ln1, _, _, fm1, arm1, rfl, hM, b2.offC oF a4 (by simp) (by simp) (v7.gr a2 (by omega)) (LKs.gr v8 a2) (Or.inr ⟨va_up_self _ _ _, fun hh => (a5 hh).up (by simp)⟩), a2.cst (by omega), oF, a4, b8, b9⟩
  · rw [brF q1]
    rcases v12 with w | ⟨w1, w2⟩
    · exact absurd w q1
    · exact ⟨_, fi, ar, ln, 0, 0, fm1, arm1, by rw [w1], hM, b2, CST.rf, offF.rf, offAs.rf, b8, b9⟩
/-- the model stands in a sound volume: folder j, its kids from b on -/
def MH (fm : FI) (arm : AR) (G : Geo) (d : Nat → Nat) (f j b N U : Nat) : Prop := M_folderHere 40000 fm arm = some (nI j, fm, arm) ∧ j < 16400 ∧ arm 25 j = nI b ∧ 1 ≤ b ∧ arm 24 j = nI (dI G d f).length ∧ b + (dI G d f).length ≤ N ∧ N ≤ 16400 ∧ U ≤ 213600 ∧ MIT arm d (dA G d f) b j (dI G d f) U
theorem here_model {nf n h : Nat} {ln : LN} {fi fm : FI} {ar arm : AR} {d : Nat → Nat} (hV : VOL n ln fi ar fm arm d h) (hz : fltS n d = 0) {ms : List Nat} (hK : KNW fm arm (geoOf n d) d ms) (hnf : 40000 ≤ nf) : ∃ j b N U, M_folderHere nf fm arm = some (nI j, fm, arm) ∧ j < 16400 ∧ arm 25 j = nI b ∧ 1 ≤ b ∧ arm 24 j = nI (dI (geoOf n d) d (hf (geoOf n d) h)).length ∧ b + (dI (geoOf n d) d (hf (geoOf n d) h)).length ≤ N ∧ N ≤ 16400 ∧ U ≤ 213600 ∧ MIT arm d (dA (geoOf n d) d (hf (geoOf n d) h)) b j (dI (geoOf n d) d (hf (geoOf n d) h)) U ∧ LKS fm arm (geoOf n d) d N N U ms ∧ TI arm (geoOf n d) d j (hf (geoOf n d) h) N U ∧ (j = 0 ↔ h = 0) ∧ drF arm d j ∧ fsF arm d (geoOf n d).r j = hf (geoOf n d) h ∧ j < N := by
  obtain ⟨D, ρ, hS, hfD, hhD⟩ := hV.snd hz
  obtain ⟨N, U, hL⟩ := hK
  obtain ⟨j, j1, j2, j3, j4, j5, j6⟩ := folderHere_eq (nf := nf) hL hV.2.2.2.2.2.2.2.2.2.1 hS hhD hnf
  have hc := hL.2.2.2.2.2.1
  have hG := hL.1.2.2
  have b' := hG.b
  have hcp : 16 * (geoOf n d).c * ms.length ≤ 16384 := by
    have h1 : 16 * (geoOf n d).c * ms.length ≤ 16 * (geoOf n d).c * (geoOf n d).k := Nat.mul_le_mul_left _ hc.len
    have h2 : 16 * (geoOf n d).c * (geoOf n d).k = 16 * ((geoOf n d).k * (geoOf n d).c) := by rw [Nat.mul_assoc, Nat.mul_comm (geoOf n d).c]
    omega
  have hb := hL.2.2.2.2.2.2.1
  obtain ⟨t1, t2, bb, tb, t3, t4, t5, t6⟩ := id j3
  exact ⟨j, bb, N, U, j2, by omega, t3, tb, t4, t5, by omega, by omega, t6, hL, j3, j4, j5, j6, j1⟩
theorem items_alike {nf n h : Nat} {ln : LN} {fi fm : FI} {ar arm : AR} {d : Nat → Nat} (hV : VOL n ln fi ar fm arm d h) (hnf : 40000 ≤ nf) : ∃ v r fi' ar' ln' kc ks fm' arm', FX10_items nf fi ar ln = some (r, fi', ar', ln', kc, ks) ∧ M_items nf fm arm = some (v, fm', arm') ∧ ((r = Sum.inr 0 ∧ fm' 5 = 1) ∨ (r = Sum.inl v ∧ fm' 5 = 0)) ∧ VOL n ln' fi' ar' fm' arm' d h ∧ CST ln ln' kc ks 1 6 ∧ offF [1, 4, 5, 6, 7, 8, 9, 10, 11, 20, 21, 22, 23, 24, 25, 40, 41, 42, 43, 44, 45, 62, 63] fi fi' ∧ offAs [3, 4, 5, 10, 11, 12, 13, 18, 19, 20, 21, 32, 33, 42] ar ar' ∧ offF [5, 7, 8, 9, 10, 11, 12, 13, 15, 16, 17, 18, 31, 32, 33, 35, 36, 37, 38] fm fm' ∧ offAs [19, 20, 21, 22, 23, 24, 25, 26, 27, 28, 29, 30, 34] arm arm' := by
  obtain ⟨fi1, ar1, ln1, k1, s1, r, a1, a2, a3, a4, a5, a6⟩ := openHere_ok hV hnf
  obtain ⟨fm1, arm1, b1, b2, b3, b4⟩ := none_ok a2 hnf
  unfold FX10_items M_items M_items_15 M_many
  rw [a1, obnd6_some]
  rcases a6 with ⟨q, rfl⟩ | ⟨q, rfl, c1, c2⟩
  · rcases b4 with ⟨_, e1, e2⟩ | ⟨e0, _⟩
    · rw [e1, obnd3_some, brF (by decide)]
      exact ⟨_, _, fi1, ar1, ln1, _, _, fm1, arm1, rfl, rfl, Or.inl ⟨rfl, e2⟩, b1, by simpa using a5, a3, a4, b2, b3⟩
    · exact absurd e0 q
  · rcases b4 with ⟨e0, _⟩ | ⟨_, e1, e2, e3, e4, ms, hK⟩
    · exact absurd q e0
    · obtain ⟨j, b, N, U, m1, m2, m3, m4, m5, _⟩ := here_model b1 q hK hnf
      rw [e1, obnd3_some, brT rfl, m1, obnd3_some, zgd (by omega) (by omega), nI_clamp (by omega), obnd3_some, m5]
      have h20 : fi1 (20 + 10 * 0) = nI (dI (geoOf n d) d (hf (geoOf n d) h)).length := c2.2.2.2.1.1
      refine ⟨_, _, fi1, ar1, ln1, _, _, fm1, arm1, rfl, rfl, Or.inr ⟨by rw [h20], e2⟩, b1, by simpa using a5, a3, a4, b2, b3⟩
