/-! the way to a file -/
theorem selF_ok {nf n h : Nat} {ln : LN} {fi fm : FI} {ar arm : AR} {d : Nat → Nat} (hV : VOL n ln fi ar fm arm d h) (x1 w : Int32) (hnf : 40000 ≤ nf) : ∃ fi1 ar1 ln1 k1 s1 fm1 arm1, VOL n ln1 fi1 ar1 fm1 arm1 d h ∧ CST ln ln1 k1 s1 1 6 ∧ offF oFC fi fi1 ∧ offAs oAC ar ar1 ∧ offF oFM fm fm1 ∧ offAs oAM arm arm1 ∧ ((FX10_openHere nf fi ar ln = some (Sum.inr 0, fi1, ar1, ln1, k1, s1) ∧ M_noFile nf fm arm x1 w = some (1, fm1, arm1) ∧ fm1 5 = 1) ∨ (FX10_openHere nf fi ar ln = some (Sum.inl (), fi1, ar1, ln1, k1, s1) ∧ FX10_fileAt nf fi1 ar1 ln1 x1 = some (Sum.inr 1, fi1, ar1, ln1, 1, 6) ∧ M_noFile nf fm arm x1 w = some (1, fm1, arm1) ∧ fm1 5 = 2) ∨ (FX10_openHere nf fi ar ln = some (Sum.inl (), fi1, ar1, ln1, k1, s1) ∧ FX10_fileAt nf fi1 ar1 ln1 x1 = some (Sum.inr 2, fi1, ar1, ln1, 1, 6) ∧ M_noFile nf fm arm x1 w = some (1, fm1, arm1) ∧ fm1 5 = 3) ∨ ∃ q e j b N U ms D ρ p, x1 = nI q ∧ p = dA (geoOf n d) d (hf (geoOf n d) h) e.1 ∧ ¬ isDr d p ∧ FX10_openHere nf fi ar ln = some (Sum.inl (), fi1, ar1, ln1, k1, s1) ∧ FX10_fileAt nf fi1 ar1 ln1 x1 = some (Sum.inl (nI p), fi1, ar1, ln1, 0, 0) ∧ (w = 0 → M_noFile nf fm arm x1 w = some (0, fm1, arm1)) ∧ (¬ w = 0 → M_noFile nf fm arm x1 w = some (1, va_up fm1 5 3, arm1)) ∧ SEL nf n h ln1 fi1 fm1 ar1 arm1 d q e j b N U ms D ρ) := by
  obtain ⟨fi1, ar1, ln1, k1, s1, fm0, fm1, arm1, b1, a5, a3, a4, b2, b3, b4⟩ := sel2_ok hV x1 hnf
  have hMs : M_noFile nf fm arm x1 w = obnd3 (M_none nf fm arm) (fun r fi ar => br (r = 0) (br (x1 < 0) (M_noFile_25 nf x1 w 1 fi ar) (obnd3 (M_many nf fi ar) fun r' fi' ar' => br (x1 < r') (M_noFile_25 nf x1 w 0 fi' ar') (M_noFile_25 nf x1 w 1 fi' ar'))) (M_noFile_61 nf fi ar)) := rfl
  rw [hMs]
  rcases b4 with ⟨e1, e2, e3⟩ | ⟨e1, e2, e3, e4, e5⟩ | ⟨q, e, j, b, N, U, ms, D, ρ, w1, e1, e2, e3, e4, hSel⟩
  · rw [e2 _ (fun t fi ar => M_noFile_25 nf x1 w t fi ar) (fun fi ar => M_noFile_61 nf fi ar)]
    refine ⟨fi1, ar1, ln1, k1, s1, fm1, arm1, b1, a5, a3, a4, b2, b3, Or.inl ⟨e1, ?_, e3⟩⟩
    unfold M_noFile_61 M_noFile_66; rw [zbit1]
  · rw [e3 _ (fun t fi ar => M_noFile_25 nf x1 w t fi ar) (fun fi ar => M_noFile_61 nf fi ar)]
    refine ⟨fi1, ar1, ln1, k1, s1, fm1, arm1, b1, a5, a3, a4, b2, b3, Or.inr (Or.inl ⟨e1, ?_, ?_, e5⟩)⟩
    · unfold FX10_fileAt
      rw [e2, obnd6_some, sumcR]; rfl
    · unfold M_noFile_25 M_noFile_61 M_noFile_66
      rw [e4, obnd3_some, brF (by decide), zbit1]
  · rw [e3 _ (fun t fi ar => M_noFile_25 nf x1 w t fi ar) (fun fi ar => M_noFile_61 nf fi ar)]
    have hS0 := hSel
    obtain ⟨t1, t2, t3, t4, t5, t6, t7, t8, t9, t10, t11, t12, t13, t14, t15, t16, t17, t18, t19, t20, t21, t22, t23, t24, t25, t26⟩ := hSel
    have hn := b1.1
    have hC := t5.1.1
    have hR := t13.1.1
    have hln0 : ln1 0 = 128 * n := t5.2.1.1
    obtain ⟨p, hp⟩ : ∃ p, p = dA (geoOf n d) d (hf (geoOf n d) h) e.1 := ⟨_, rfl⟩
    rw [← hp] at e2 t23 t24 t25 t26
    have hbq : b + q ≠ 0 ∧ b + q < 16400 := by omega
    have hpa : pA arm1 (b + q) = p := pA_nI t26 (by omega)
    have hdr : drF arm1 d (b + q) ↔ isDr d p := by
      unfold drF
      rw [hpa]
      exact ⟨fun w => w.elim (fun z => absurd z hbq.1) id, Or.inr⟩
    have f1 : M_fails nf fm1 arm1 1 3 = _ := fails_eq (nf := nf) (ar := arm1) t10 (t := 1) (by decide) 3 (by decide)
    rw [if_neg (by decide), if_neg (by decide)] at f1
    have f0 : M_fails nf fm1 arm1 0 3 = _ := fails_eq (nf := nf) (ar := arm1) t10 (t := 0) (by decide) 3 (by decide)
    rw [if_pos rfl, if_pos rfl] at f0
    have hisf := isFolder_eq (nf := nf) (fi := fm1) hR hbq.2 (fun _ => by rw [hpa]; omega)
    have hisd := isDirectory_eq (nf := nf) (fi := fi1) hC (p := p) (by omega)
    by_cases qd : isDr d p
    · rw [if_pos (hdr.mpr qd)] at hisf
      rw [if_pos qd] at hisd
      refine ⟨fi1, ar1, ln1, k1, s1, va_up fm1 5 (nI 3), arm1, b1.upM, a5, a3, a4, b2.up (by simp [oFM]), b3, Or.inr (Or.inr (Or.inl ⟨e1, ?_, ?_, va_up_self _ _ _⟩))⟩
      · unfold FX10_fileAt
        rw [e2, obnd6_some, sumcL, hisd, obnd3_some, brF (by decide)]; rfl
      · unfold M_noFile_25 M_noFile_49 M_noFile_54 M_noFile_61 M_noFile_66
        rw [e4, obnd3_some, brT rfl, w1, t22, obnd3_some, hisf, obnd3_some, brF (by decide), f1, obnd3_some, brF (by decide), zbit1]
    · rw [if_neg (fun w => qd (hdr.mp w))] at hisf
      rw [if_neg qd] at hisd
      refine ⟨fi1, ar1, ln1, k1, s1, fm1, arm1, b1, a5, a3, a4, b2, b3, Or.inr (Or.inr (Or.inr ⟨q, e, j, b, N, U, ms, D, ρ, p, w1, hp, qd, e1, ?_, fun hw => ?_, fun hw => ?_, hS0⟩))⟩
      · unfold FX10_fileAt
        rw [e2, obnd6_some, sumcL, hisd, obnd3_some, brT rfl]; rfl
      · unfold M_noFile_25 M_noFile_54 M_noFile_66
        rw [e4, obnd3_some, brT rfl, w1, t22, obnd3_some, hisf, obnd3_some, brT rfl, brT hw, f0, obnd3_some, brT rfl, zbit0]
      · unfold M_noFile_25 M_noFile_49 M_noFile_54 M_noFile_61 M_noFile_66
        rw [e4, obnd3_some, brT rfl, w1, t22, obnd3_some, hisf, obnd3_some, brT rfl, brF hw, f1, obnd3_some, brF (by decide), zbit1]; rfl
/-- a file's entry and its chain change -/
theorem file_snd {n h : Nat} {d d' : Nat → Nat} {D : List Nat} {ρ : Nat → Nat} {e : Nat × Nat} (hG : GOK (geoOf n d)) (hS : Snd (geoOf n d) d D ρ) (hh : hf (geoOf n d) h ∈ D) (he : e ∈ dI (geoOf n d) d (hf (geoOf n d) h)) {p : Nat} (hp : p = dA (geoOf n d) d (hf (geoOf n d) h) e.1) (hnd : ¬ isDr d p) (ho : ∀ q, p ≤ q → q < p + 32 → (q < p + 20 ∨ (p + 22 ≤ q ∧ q < p + 26)) → d' q = d q) (ho2 : ∀ f, f ∈ D → ∀ x, x ∈ cl (geoOf n d) d f → ∀ i, i < 512 * (geoOf n d).c → (pl (geoOf n d) x + i < p ∨ p + 32 ≤ pl (geoOf n d) x + i) → d' (pl (geoOf n d) x + i) = d (pl (geoOf n d) x + i)) (hF : fOK (geoOf n d) d' p) {add del : List Nat} (H4 : (fc1 (geoOf n d) d' p ++ del).Perm (fc1 (geoOf n d) d p ++ add)) (hadd : add.Nodup ∧ ∀ y, y ∈ add → isC (geoOf n d) y ∧ ent (geoOf n d) d y = 0) (hdel : ∀ y, y ∈ del → y ∈ fc1 (geoOf n d) d p) (H5 : ∀ y, isC (geoOf n d) y → y ∉ fc1 (geoOf n d) d p → y ∉ add → ent (geoOf n d) d' y = ent (geoOf n d) d y) (H6 : ∀ y, isC (geoOf n d) y → ent (geoOf n d) d' y ≠ 0 → y ∈ add ∨ (ent (geoOf n d) d y ≠ 0 ∧ y ∉ del)) : Snd (geoOf n d) d' D ρ := by
  have b := hG.b
  have hDk := hS.2.2.1 _ hh
  have hE := hDk.ent he
  have h63 : d (p + 11) ≤ 63 := by rw [hp]; exact hE.1.1
  have h8 : d (p + 11) / 8 % 2 = 0 := by rw [hp]; exact hE.2.1.2.2.2.2
  have hT : timesOK d p := by rw [hp]; exact hE.1.2.1
  clear hE
  have e11 : d' (p + 11) = d (p + 11) := ho _ (by omega) (by omega) (by omega)
  have etw : ∀ i, i + 1 < 20 ∨ (22 ≤ i ∧ i + 1 < 26) → tw d' (p + i) = tw d (p + i) := fun i hi => by
    unfold tw
    rw [ho (p + i) (by omega) (by omega) (by omega), ho (p + i + 1) (by omega) (by omega) (by omega)]
  have hT' : timesOK d' p := by
    unfold timesOK
    rw [etw 16 (by omega), etw 14 (by omega), ho (p + 13) (by omega) (by omega) (by omega), etw 18 (by omega), etw 24 (by omega), etw 22 (by omega)]
    exact hT
  have hdr : isDr d' p ↔ isDr d p := by unfold isDr; rw [e11]
  have c1 : fcE (geoOf n d) d p = fc1 (geoOf n d) d p := if_neg hnd
  have c2 : fcE (geoOf n d) d' p = fc1 (geoOf n d) d' p := if_neg (fun w => hnd (hdr.mp w))
  refine (Snd_entry (add := add) (del := del) hG hS hh he (fun f hf x hx i hi hq => ?_) (by rw [← hp, e11]; omega) (by rw [← hp]; exact hdr) (by rw [← hp]; exact hT') (fun q => absurd (by rw [hp]; exact q) hnd) (fun q => by rw [← hp]; exact hF) (by rw [← hp, c1, c2]; exact H4) hadd (fun y hy => by rw [← hp, c1]; exact hdel y hy) (fun y hy hy2 hy3 => H5 y hy (by rw [← hp, c1] at hy2; exact hy2) hy3) H6).1
  rw [← hp] at hq
  by_cases c : pl (geoOf n d) x + i < p ∨ p + 32 ≤ pl (geoOf n d) x + i
  · exact ho2 f hf x hx i hi c
  · exact ho _ (by omega) (by omega) (by omega)
