/-! the model's scan is the spec's -/
theorem scan_stop {nf : Nat} {fi : FI} {ar : AR} {c i t kf : Nat} (h : fi 16 = nI c) (h0 : 0 < c) (hc : c < 10) : M_scan_66 nf (kf + 1) (nI i) (nI t) fi ar = some ((), fi, ar) := by
  have hne : ¬ nI c = (0 : Int32) := nI_ne0 h0 (by omega)
  have k220 : M_scan_220 nf (nI i) (nI t) fi ar = some ((), fi, ar) := by
    unfold M_scan_220 M_scan_248
    rw [h, brF hne]
  rw [show M_scan_66 nf (kf + 1) = M_scan_66b (M_scan_66 nf kf) nf from rfl]
  unfold M_scan_66b
  rw [h, brF hne, k220]
  unfold br
  split <;> rfl
theorem nm_len {d A : Nat → Nat} {s np : Nat} : (nm d A s np).length ≤ 13 * (np + 1) := by
  unfold nm
  by_cases e : np = 0
  · rw [if_pos e]
    have := shw_len d (A s) 11
    rw [if_pos (by omega)] at this
    omega
  · rw [if_neg e, List.length_map, List.length_range]
    have := (zl_le (nU d A s) (13 * np) 0).2
    omega
theorem LBL.off {fi fi' : FI} {lb : Nat} (h : LBL fi lb) {S : List Nat} (hf : offF S fi fi') (hS : 33 ∉ S) : LBL fi' lb := by
  unfold LBL at *
  rw [hf 33 hS]; exact h
theorem FOL.off {ar ar' : AR} {l : List Nat} (h : FOL ar l) {T : List Nat} (ha : offAs T ar ar') (hT : 30 ∉ T) : FOL ar' l := fun j hj => by rw [ha 30 hT]; exact h j hj
def MSR (G : Geo) (d A : Nat → Nat) (z m s b i B S U : Nat) (ms : List Nat) (fi : FI) (ar : AR) (o : Option (Unit × FI × AR)) : Prop := ∃ fi' ar', o = some ((), fi', ar') ∧ fi' 16 = nI (scn G d A z m s ms).1 ∧ offF [16, 17, 18, 31, 33, 35, 36, 37, 38] fi fi' ∧ offAs [19, 20, 21, 22, 23, 24, 26, 27, 28, 29, 34] ar ar' ∧ KP i b U ar ar' ∧ ((scn G d A z m s ms).1 = 0 → ∃ U', MX fi' ar' G d A b i (itm d A z (en d A m s)) U' (scn G d A z m s ms).2 ∧ U' ≤ B + 13 * S ∧ U ≤ U')
theorem mscan_loop {nf : Nat} {G : Geo} {d : Nat → Nat} {l : List Nat} {z b i B : Nat} (hG : GOK G) (hl : clu G l) (hi : i < 16400) (hiz : i = 0 ↔ z = 0) (hz2 : z = 0 ∨ z = 2) (hb : b + l.length * (16 * G.c) < 16400) (hB : B + 13 * (l.length * (16 * G.c)) + 260 ≤ 213600) (hnf : 40000 ≤ nf) : ∀ (m s kf U : Nat) (ms : List Nat) (fi : FI) (ar : AR), s + m = l.length * (16 * G.c) → z ≤ s → m + 1 < kf → (∀ t, z ≤ t → t < s → lf d (sa G l) z t = 0) → MX fi ar G d (sa G l) b i (itm d (sa G l) z s) U ms → PD fi ar d (sa G l) s (rn d (sa G l) z s) → FOL ar l → fi 32 = nI l.length → fi 16 = nI 0 → (i = 0 → LBL fi (lbl d (sa G l) z s)) → U ≤ B + 13 * (s - rn d (sa G l) z s) → MSR G d (sa G l) z m s b i B (l.length * (16 * G.c)) U ms fi ar (M_scan_66 nf kf (nI i) (nI s) fi ar) := by
  have b' := hG.b
  have hS := slots_le hG hl
  have hkl := hl.len
  intro m
  induction m with
  | zero =>
    intro s kf U ms fi ar hs hzs hk hok hX hPD hF h32 h16 hLB hUb
    obtain ⟨kf, rfl⟩ : ∃ k, kf = k + 1 := ⟨kf - 1, by omega⟩
    have hr := rn_le (d := d) (A := sa G l) (z := z) s
    have g7 : fi 7 = nI G.c := hX.1.2.1.2.1
    have eS : nI l.length * (16 : Int32) * nI G.c = nI (l.length * (16 * G.c)) := by
      rw [show nI l.length * (16 : Int32) = nI (l.length * 16) from pk_mul _ 16, nI_mulL, Nat.mul_assoc]
    have hc2 : 16 ≤ l.length * (16 * G.c) ∨ l.length = 0 := by
      by_cases w : l.length = 0
      · exact Or.inr w
      · left
        have : 1 * 16 ≤ l.length * (16 * G.c) := Nat.mul_le_mul (by omega) (by omega)
        omega
    have een : en d (sa G l) 0 s = s := rfl
    unfold MSR
    rw [scn, een]
    rw [show M_scan_66 nf (kf + 1) = M_scan_66b (M_scan_66 nf kf) nf from rfl]
    unfold M_scan_66b
    rw [h32, g7, eS, zle (by omega) (by omega), if_pos (by omega)]
    unfold M_scan_220 M_scan_243 M_scan_248
    rw [h16, brT (show nI 0 = (0 : Int32) from rfl), hPD.1]
    by_cases q : 0 < rn d (sa G l) z s
    · rw [if_pos q, brT (show (0 : Int32) < nI (rn d (sa G l) z s) from nI_lt (a := 0) q (by omega)), bnd_eq]
      exact ⟨va_up fi 16 4, ar, rfl, va_up_self _ _ _, offF.rf.up (by simp), offAs.rf, KP.rf, fun w => absurd w (by simp)⟩
    · rw [if_neg q, show rn d (sa G l) z s = 0 by omega, brF (by decide)]
      have hpost : ∃ U', MX fi ar G d (sa G l) b i (itm d (sa G l) z s) U' ms ∧ U' ≤ B + 13 * (l.length * (16 * G.c)) ∧ U ≤ U' := ⟨U, hX, by omega, Nat.le_refl _⟩
      by_cases w : i = 0
      · rw [w, brT (show nI 0 ≤ (0 : Int32) by decide)]
        exact ⟨fi, ar, rfl, h16, offF.rf, offAs.rf, KP.rf, fun _ => by rw [← w]; exact hpost⟩
      · have hzz : z = 2 := by
          rcases hz2 with v | v
          · exact absurd (hiz.mpr v) w
          · exact v
        rw [brF (nI_nle (by omega) (by omega)), show (2 : Int32) = nI 2 from rfl, zle (by omega) (by omega), if_pos (by omega)]
        exact ⟨fi, ar, rfl, h16, offF.rf, offAs.rf, KP.rf, fun _ => hpost⟩
  | succ m ih =>
    intro s kf U ms fi ar hs hzs hk hok hX hPD hF h32 h16 hLB hUb
    obtain ⟨kf, rfl⟩ : ∃ k, kf = k + 2 := ⟨kf - 2, by omega⟩
    have hsS : s < l.length * (16 * G.c) := by omega
    have hr := rn_le (d := d) (A := sa G l) (z := z) s
    have hd := hX.1.1
    have g7 : fi 7 = nI G.c := hX.1.2.1.2.1
    have eS : nI l.length * (16 : Int32) * nI G.c = nI (l.length * (16 * G.c)) := by
      rw [show nI l.length * (16 : Int32) = nI (l.length * 16) from pk_mul _ 16, nI_mulL, Nat.mul_assoc]
    have hss := slot_in hG hl hsS
    have hil := itm_len d (sa G l) z s
    have hnml := nm_len (d := d) (A := sa G l) (s := s) (np := rn d (sa G l) z s)
    have fr : rn d (sa G l) z s ≤ s := by omega
    have fsub : ∀ j, s - 1 - j < l.length * (16 * G.c) := fun j => by omega
    have fs65 : s < 65536 := by omega
    have frn65 : rn d (sa G l) z s < 65536 := by omega
    have fbl : b + (itm d (sa G l) z s).length < 16400 := by omega
    have fU260 : U + 260 ≤ 213600 := by omega
    have fU0 : U ≤ B + 13 * (s + 1 - 0) := by omega
    have fUn : U + (nm d (sa G l) s (rn d (sa G l) z s)).length ≤ B + 13 * (s + 1 - 0) := by omega
    have fsS : s ≤ l.length * (16 * G.c) := by omega
    have fnf : 20000 ≤ nf := by omega
    have fnf2 : 100 ≤ nf := by omega
    have fnf3 : 20 ≤ nf := by omega
    have fp32 : sa G l s + 32 ≤ 524288 := by omega
    have fpb : sa G l s < 2147483648 := by omega
    have c4 : (0 < 4 ∧ 4 < 10) ∧ (0 < 5 ∧ 5 < 10) ∧ (0 < 3 ∧ 3 < 10) := by decide
    have hslot : ∀ t, t < l.length * (16 * G.c) → sa G l t + 32 ≤ 524288 := fun t ht => by have := slot_in hG hl ht; omega
    have hbyte : ∀ t, t < l.length * (16 * G.c) → ∀ k, k < 32 → d (sa G l t + k) < 256 := fun t ht k hk => hd.lt (by have := hslot t ht; omega)
    have fsub2 : ∀ e j : Nat, e < l.length * (16 * G.c) → e - 1 - j < l.length * (16 * G.c) := fun e j h => by omega
    have hsa := hX.1.slotAt (nf := nf) hl hF hsS
    obtain ⟨p, hp⟩ : ∃ p, p = sa G l s := ⟨_, rfl⟩
    rw [← hp] at hss hsa
    have b0 := hd.lt (show p < 524288 by omega)
    have b11 := hd.lt (show p + 11 < 524288 by omega)
    have o0 := M_one_eq (nf := nf) (fi := fi) hd (show p < 524288 by omega)
    have o11 := M_one_eq (nf := nf) (fi := fi) hd (show p + 11 < 524288 by omega)
    have ea : nI p + (11 : Int32) = nI (p + 11) := nI_add p 11
    have unf : M_scan_66 nf (kf + 2) (nI i) (nI s) fi ar = if d p = 0 then M_scan_220 nf (nI i) (nI s) fi ar else M_scan_137 (M_scan_66 nf (kf + 1)) nf (nI i) (nI s) (nI p) fi ar := by
      rw [show M_scan_66 nf (kf + 2) = M_scan_66b (M_scan_66 nf (kf + 1)) nf from rfl]
      unfold M_scan_66b
      rw [h32, g7, eS, zle (by omega) (by omega), if_neg (by omega), h16, brT (show nI 0 = (0 : Int32) from rfl), hsa, obnd3_some, o0, obnd3_some]
      by_cases q : d p = 0
      · rw [if_pos q, brT (show nI (d p) = (0 : Int32) by rw [q]; rfl)]
      · rw [if_neg q, brF (show ¬ nI (d p) = (0 : Int32) from nI_ne0 (by omega) (by omega))]
        by_cases w : i = 0
        · rw [w, brT (show nI 0 ≤ (0 : Int32) by decide)]
        · have hzz : z = 2 := by
            rcases hz2 with v | v
            · exact absurd (hiz.mpr v) w
            · exact v
          rw [brF (nI_nle (by omega) (by omega)), show (2 : Int32) = nI 2 from rfl, zle (by omega) (by omega), if_pos (by omega)]
    rw [unf]
    clear unf
    unfold MSR
    by_cases q0 : d p = 0
    · have q0' : d (sa G l s) = 0 := by rw [← hp]; exact q0
      have een : en d (sa G l) (m + 1) s = s := by unfold en; rw [zl, if_pos q0']
      rw [if_pos q0, scn, if_pos q0', een]
      unfold M_scan_220 M_scan_243 M_scan_248
      rw [h16, brT (show nI 0 = (0 : Int32) from rfl), hPD.1]
      by_cases q : 0 < rn d (sa G l) z s
      · rw [if_pos q, brT (show (0 : Int32) < nI (rn d (sa G l) z s) from nI_lt (a := 0) q (by omega)), bnd_eq]
        exact ⟨va_up fi 16 4, ar, rfl, va_up_self _ _ _, offF.rf.up (by simp), offAs.rf, KP.rf, fun w => absurd w (by simp)⟩
      · rw [if_neg q, show rn d (sa G l) z s = 0 by omega, brF (by decide)]
        have hpost : ∃ U', MX fi ar G d (sa G l) b i (itm d (sa G l) z s) U' ms ∧ U' ≤ B + 13 * (l.length * (16 * G.c)) ∧ U ≤ U' := ⟨U, hX, by omega, Nat.le_refl _⟩
        by_cases w : i = 0
        · rw [w, brT (show nI 0 ≤ (0 : Int32) by decide)]
          exact ⟨fi, ar, rfl, h16, offF.rf, offAs.rf, KP.rf, fun _ => by rw [← w]; exact hpost⟩
        · have hzz : z = 2 := by
            rcases hz2 with v | v
            · exact absurd (hiz.mpr v) w
            · exact v
          rw [brF (nI_nle (by omega) (by omega)), show (2 : Int32) = nI 2 from rfl, zle (by omega) (by omega), if_pos (by omega)]
          exact ⟨fi, ar, rfl, h16, offF.rf, offAs.rf, KP.rf, fun _ => hpost⟩
    rw [if_neg q0]
    have q0' : ¬ d (sa G l s) = 0 := by rw [← hp]; exact q0
    have een : en d (sa G l) (m + 1) s = en d (sa G l) m (s + 1) := by unfold en; rw [zl, if_neg q0']
    have cont : ∀ (fi1 : FI) (ar1 : AR) (ms1 : List Nat) (U1 : Nat), lf d (sa G l) z s = 0 → scn G d (sa G l) z (m + 1) s ms = scn G d (sa G l) z m (s + 1) ms1 → offF [16, 17, 18, 31, 33, 35, 36, 37, 38] fi fi1 → offAs [19, 20, 21, 22, 23, 24, 26, 27, 28, 29, 34] ar ar1 → KP i b U ar ar1 → U ≤ U1 → MX fi1 ar1 G d (sa G l) b i (itm d (sa G l) z (s + 1)) U1 ms1 → PD fi1 ar1 d (sa G l) (s + 1) (rn d (sa G l) z (s + 1)) → (i = 0 → LBL fi1 (lbl d (sa G l) z (s + 1))) → U1 ≤ B + 13 * (s + 1 - rn d (sa G l) z (s + 1)) → ∃ fi' ar', M_scan_66 nf (kf + 1) (nI i) (nI s + 1) (va_up fi1 16 0) ar1 = some ((), fi', ar') ∧ fi' 16 = nI (scn G d (sa G l) z (m + 1) s ms).1 ∧ offF [16, 17, 18, 31, 33, 35, 36, 37, 38] fi fi' ∧ offAs [19, 20, 21, 22, 23, 24, 26, 27, 28, 29, 34] ar ar' ∧ KP i b U ar ar' ∧ ((scn G d (sa G l) z (m + 1) s ms).1 = 0 → ∃ U', MX fi' ar' G d (sa G l) b i (itm d (sa G l) z (en d (sa G l) (m + 1) s)) U' (scn G d (sa G l) z (m + 1) s ms).2 ∧ U' ≤ B + 13 * (l.length * (16 * G.c)) ∧ U ≤ U') := by
      intro fi1 ar1 ms1 U1 a1 a2 a3 a4 aK aU a5 a6 a7 a8
      have o16 : offF [16] fi1 (va_up fi1 16 0) := offF.rf.up (by simp)
      have g := ih (s + 1) (kf + 1) U1 ms1 (va_up fi1 16 0) ar1 (by omega) (by omega) (by omega) (fun t t1 t2 => if e : t = s then e ▸ a1 else hok t t1 (by omega)) (a5.off o16 offAs.rf (T := []) (by simp) (by simp)) ⟨by rw [va_up_off (by decide)]; exact a6.1, fun w => by
        obtain ⟨T, sum, c1, c2, c3, c4, c5, c6⟩ := a6.2 w
        exact ⟨T, sum, c1, c2, by rw [va_up_off (by decide)]; exact c3, by rw [va_up_off (by decide)]; exact c4, by rw [va_up_off (by decide)]; exact c5, c6⟩⟩ (hF.off a4 (by simp)) (by rw [va_up_off (by decide), a3 32 (by simp)]; exact h32) (by rw [va_up_self]; rfl) (fun w => (a7 w).off o16 (by simp)) a8
      obtain ⟨fi', ar', r1, r2, r3, r4, r6, r5⟩ := g
      rw [a2, een, nI_1]
      exact ⟨fi', ar', r1, r2, (a3.tr (o16.mono (by simp))).tr r3, a4.tr r4, aK.tr aU r6, fun w => by obtain ⟨U', u1, u2, u3⟩ := r5 w; exact ⟨U', u1, u2, Nat.le_trans aU u3⟩⟩
    have stop : ∀ (fi1 : FI) (ar1 : AR) (c : Nat) (cI : Int32), cI = nI c → 0 < c → c < 10 → (scn G d (sa G l) z (m + 1) s ms).1 = c → offF [16, 17, 18, 31, 33, 35, 36, 37, 38] fi fi1 → offAs [19, 20, 21, 22, 23, 24, 26, 27, 28, 29, 34] ar ar1 → KP i b U ar ar1 → ∃ fi' ar', M_scan_66 nf (kf + 1) (nI i) (nI s + 1) (va_up fi1 16 cI) ar1 = some ((), fi', ar') ∧ fi' 16 = nI (scn G d (sa G l) z (m + 1) s ms).1 ∧ offF [16, 17, 18, 31, 33, 35, 36, 37, 38] fi fi' ∧ offAs [19, 20, 21, 22, 23, 24, 26, 27, 28, 29, 34] ar ar' ∧ KP i b U ar ar' ∧ ((scn G d (sa G l) z (m + 1) s ms).1 = 0 → ∃ U', MX fi' ar' G d (sa G l) b i (itm d (sa G l) z (en d (sa G l) (m + 1) s)) U' (scn G d (sa G l) z (m + 1) s ms).2 ∧ U' ≤ B + 13 * (l.length * (16 * G.c)) ∧ U ≤ U') := by
      intro fi1 ar1 c cI hcI c1 c2 hsc o1 o2 oK
      subst hcI
      rw [nI_1, hsc]
      refine ⟨va_up fi1 16 (nI c), ar1, scan_stop (va_up_self _ _ _) c1 c2, va_up_self _ _ _, o1.up (by simp), o2, oK, fun w => by omega⟩
    unfold M_scan_137 M_scan_161 M_scan_197 M_scan_214
    rw [o0, obnd3_some, ea, o11, obnd3_some, hPD.1, show (229 : Int32) = nI 229 from rfl, zeq (by omega) (by omega)]
    by_cases q229 : d p = 229
    · have q229' : d (sa G l s) = 229 := by rw [← hp]; exact q229
      have nP : ¬ isP d (sa G l) z s := fun w => w.2.2.1 q229'
      have nE : ¬ isE d (sa G l) z s := fun w => w.2.2.1 q229'
      have nL : ¬ isL d (sa G l) z s := fun w => w.2.2.1 q229'
      rw [if_pos q229]
      by_cases q : rn d (sa G l) z s = 0
      · have hlf : lf d (sa G l) z s = 0 := lf_zero.mpr ⟨fun _ => q, fun w => absurd w nE, fun w => absurd w nL⟩
        have hsc : scn G d (sa G l) z (m + 1) s ms = scn G d (sa G l) z m (s + 1) ms := by
          rw [scn, if_neg q0', if_neg (by rw [hlf]; decide), if_neg (fun w => nE w.1)]
        have ei : itm d (sa G l) z (s + 1) = itm d (sa G l) z s := by rw [itm, if_neg nE]
        have er : rn d (sa G l) z (s + 1) = 0 := by rw [rn, if_neg nP]
        have el : lbl d (sa G l) z (s + 1) = lbl d (sa G l) z s := by rw [lbl, if_neg nL]
        rw [q, brT (show nI 0 ≤ (0 : Int32) by decide), bnd_eq, bnd_eq]
        exact cont fi ar ms U hlf hsc offF.rf offAs.rf KP.rf (Nat.le_refl _) (by rw [ei]; exact hX) (by rw [er]; exact ⟨by rw [hPD.1, q], fun w => by omega⟩) (fun w => by rw [el]; exact hLB w) (by rw [er]; exact fU0)
      · have hlf : lf d (sa G l) z s = 4 := by unfold lf; rw [if_pos q229', if_neg q]
        have hsc : (scn G d (sa G l) z (m + 1) s ms).1 = 4 := by rw [scn, if_neg q0', if_pos (by rw [hlf]; decide)]; exact hlf
        rw [brF (nI_nle (by omega) (by omega)), bnd_eq, bnd_eq]
        exact stop fi ar 4 4 rfl c4.1.1 c4.1.2 hsc offF.rf offAs.rf KP.rf
    rw [if_neg q229]
    have q229' : ¬ d (sa G l s) = 229 := by rw [← hp]; exact q229
    rw [zand63 (by omega), show (15 : Int32) = nI 15 from rfl, zeq (by omega) (by omega)]
    by_cases qP : d (p + 11) % 64 = 15
    · have hP : isP d (sa G l) z s := ⟨hzs, q0', q229', by rw [← hp]; exact qP⟩
      have nE : ¬ isE d (sa G l) z s := fun w => w.2.2.2.1 hP.2.2.2
      have nL : ¬ isL d (sa G l) z s := fun w => w.2.2.2.1 hP.2.2.2
      have hlf : lf d (sa G l) z s = 0 := lf_zero.mpr ⟨fun w => absurd w q229', fun w => absurd w nE, fun w => absurd w nL⟩
      have hsc : scn G d (sa G l) z (m + 1) s ms = scn G d (sa G l) z m (s + 1) ms := by
        rw [scn, if_neg q0', if_neg (by rw [hlf]; decide), if_neg (fun w => nE w.1)]
      have ei : itm d (sa G l) z (s + 1) = itm d (sa G l) z s := by rw [itm, if_neg nE]
      have er : rn d (sa G l) z (s + 1) = rn d (sa G l) z s + 1 := by rw [rn, if_pos hP]
      have el : lbl d (sa G l) z (s + 1) = lbl d (sa G l) z s := by rw [lbl, if_neg nL]
      rw [if_pos qP]
      obtain ⟨fi1, ar1, r, w1, w2, w3, w4⟩ := M_part_ok (nf := nf) (A := sa G l) hd fp32 fr fs65 hPD fnf2
      rw [← hp] at w1
      rw [w1, obnd3_some]
      have oF : offF [16, 17, 18, 31, 33, 35, 36, 37, 38] fi fi1 := w2.mono (by simp)
      have oA : offAs [19, 20, 21, 22, 23, 24, 26, 27, 28, 29, 34] ar ar1 := fun j hj => w3 j (fun w => hj (by rw [w]; simp))
      rcases w4 with ⟨rfl, w4⟩ | ⟨rfl, w4⟩
      · rw [brF (by decide), bnd_eq, bnd_eq]
        exact cont fi1 ar1 ms U hlf hsc oF oA (KP.off w3.as (by simp)) (Nat.le_refl _) (by rw [ei]; exact hX.off w2 w3.as (by simp) (by simp)) (by rw [er]; exact w4) (fun w => by rw [el]; exact (hLB w).off w2 (by simp)) (by rw [er, Nat.add_sub_add_right]; exact hUb)
      · rw [brT rfl, bnd_eq, bnd_eq]
        have hbad : (scn G d (sa G l) z (m + 1) s ms).1 = 4 := by
          rw [hsc]
          exact scn_bad m (s + 1) ms (by omega) (by omega) (by rw [er]; exact w4)
        exact stop fi1 ar1 4 4 rfl c4.1.1 c4.1.2 hbad oF oA (KP.off w3.as (by simp))
    rw [if_neg qP]
    have qP' : ¬ d (sa G l s + 11) % 64 = 15 := by rw [← hp]; exact qP
    have nP : ¬ isP d (sa G l) z s := fun w => qP' w.2.2.2
    have er : rn d (sa G l) z (s + 1) = 0 := by rw [rn, if_neg nP]
    by_cases qL : d (p + 11) / 8 % 2 = 1
    · have hLb : isL d (sa G l) z s := ⟨hzs, q0', q229', qP', by rw [← hp]; exact qL⟩
      have nE : ¬ isE d (sa G l) z s := fun w => by have := w.2.2.2.2; have := hLb.2.2.2.2; omega
      have ei : itm d (sa G l) z (s + 1) = itm d (sa G l) z s := by rw [itm, if_neg nE]
      have el : lbl d (sa G l) z (s + 1) = lbl d (sa G l) z s + 1 := by rw [lbl, if_pos hLb]
      obtain ⟨fi1, r, w1, w2, w3⟩ := admit_label (nf := nf) (A := sa G l) hX.1 fp32 hi hiz hLB hPD.1 frn65 rfl hLb.2.2.2.2 fnf3
      rw [← hp] at w1
      rw [w1, obnd3_some, bnd_eq, bnd_eq]
      have oF : offF [16, 17, 18, 31, 33, 35, 36, 37, 38] fi fi1 := w2.mono (by simp)
      rcases w3 with ⟨rfl, w3, w4⟩ | ⟨rfl, w3⟩
      · have hlf : lf d (sa G l) z s = 0 := lf_zero.mpr ⟨fun w => absurd w q229', fun w => absurd w nE, fun _ => w3⟩
        have hsc : scn G d (sa G l) z (m + 1) s ms = scn G d (sa G l) z m (s + 1) ms := by
          rw [scn, if_neg q0', if_neg (by rw [hlf]; decide), if_neg (fun w => nE w.1)]
        have hrn0 := w3.2.2.2.2.2.2.1
        exact cont fi1 ar ms U hlf hsc oF offAs.rf KP.rf (Nat.le_refl _) (by rw [ei]; exact hX.off w2 offAs.rf (T := []) (by simp) (by simp)) (by rw [er]; exact ⟨by rw [w2 36 (by simp), hPD.1, hrn0], fun w => absurd w (Nat.lt_irrefl _)⟩) (fun _ => by rw [el]; exact Or.inr ⟨Nat.succ_ne_zero _, sa G l s, fpb, w4⟩) (by rw [er]; exact fU0)
      · have hlf : lf d (sa G l) z s = 4 := by
          unfold lf
          rw [if_neg q229', if_neg nE, if_pos hLb, if_neg w3]
        have hsc : (scn G d (sa G l) z (m + 1) s ms).1 = 4 := by rw [scn, if_neg q0', if_pos (by rw [hlf]; decide)]; exact hlf
        exact stop fi1 ar 4 (nI 4) rfl c4.1.1 c4.1.2 hsc oF offAs.rf KP.rf
    · have hE : isE d (sa G l) z s := ⟨hzs, q0', q229', qP', by rw [← hp]; omega⟩
      have nL : ¬ isL d (sa G l) z s := fun w => by have := w.2.2.2.2; have := hE.2.2.2.2; omega
      have ei : itm d (sa G l) z (s + 1) = itm d (sa G l) z s ++ [(s, rn d (sa G l) z s)] := by rw [itm, if_pos hE]
      have el : lbl d (sa G l) z (s + 1) = lbl d (sa G l) z s := by rw [lbl, if_neg nL]
      have hits := hits_of fsS hok
      obtain ⟨fi1, ar1, r, w1, w2, w3, wK, w4⟩ := admit_item (nf := nf) (A := sa G l) hX hPD fr (hslot s hsS) (fun j hj => hslot _ (fsub j)) fs65 hi fbl fU260 (fun e he => by
        have h1 := hits e he
        exact ⟨hslot _ h1.1, nm_bound h1.2.1 (hbyte _ h1.1) (fun j hj => hbyte _ (fsub2 _ j h1.1))⟩) (by rw [← hp]; exact qL) fnf
      rw [← hp] at w1
      rw [w1, obnd3_some, bnd_eq, bnd_eq]
      have oF : offF [16, 17, 18, 31, 33, 35, 36, 37, 38] fi fi1 := w2.mono (by simp)
      rcases w4 with ⟨rfl, w4⟩ | ⟨rfl, w4, w5⟩ | ⟨w4, w5, w6⟩
      · have hlf : lf d (sa G l) z s = 4 := by
          unfold lf
          rw [if_neg q229', if_pos hE, if_neg w4]
        have hsc : (scn G d (sa G l) z (m + 1) s ms).1 = 4 := by rw [scn, if_neg q0', if_pos (by rw [hlf]; decide)]; exact hlf
        exact stop fi1 ar1 4 (nI 4) rfl c4.1.1 c4.1.2 hsc oF w3 wK
      · have hlf : lf d (sa G l) z s = 5 := by
          unfold lf
          rw [if_neg q229', if_pos hE, if_pos w4, if_pos w5]
        have hsc : (scn G d (sa G l) z (m + 1) s ms).1 = 5 := by rw [scn, if_neg q0', if_pos (by rw [hlf]; decide)]; exact hlf
        exact stop fi1 ar1 5 (nI 5) rfl c4.2.1.1 c4.2.1.2 hsc oF w3 wK
      · have hlf : lf d (sa G l) z s = 0 := by
          unfold lf
          rw [if_neg q229', if_pos hE, if_pos w4, if_neg w5]
        rcases w6 with ⟨v1, rfl, v2, v3⟩ | ⟨v1, v2⟩
        · have hsc : scn G d (sa G l) z (m + 1) s ms = scn G d (sa G l) z m (s + 1) ms := by
            rw [scn, if_neg q0', if_neg (by rw [hlf]; decide), if_neg (fun w => w.2 v1)]
          exact cont fi1 ar1 ms _ hlf hsc oF w3 wK (Nat.le_add_right _ _) (by rw [ei]; exact v2) (by rw [er]; exact ⟨v3, fun w => absurd w (Nat.lt_irrefl _)⟩) (fun w => by rw [el]; exact (hLB w).off w2 (by simp)) (by rw [er]; exact fUn)
        · rcases v2 with ⟨v2, rfl⟩ | ⟨l9, v2, rfl, v3, v4⟩
          · have hsc : (scn G d (sa G l) z (m + 1) s ms).1 = 3 := by
              rw [scn, if_neg q0', if_neg (by rw [hlf]; decide), if_pos ⟨hE, v1⟩, v2]
            exact stop fi1 ar1 3 (nI 3) rfl c4.2.2.1 c4.2.2.2 hsc oF w3 wK
          · have hsc : scn G d (sa G l) z (m + 1) s ms = scn G d (sa G l) z m (s + 1) (l9 ++ ms) := by
              rw [scn, if_neg q0', if_neg (by rw [hlf]; decide), if_pos ⟨hE, v1⟩, v2]
            exact cont fi1 ar1 (l9 ++ ms) _ hlf hsc oF w3 wK (Nat.le_add_right _ _) (by rw [ei]; exact v3) (by rw [er]; exact ⟨v4, fun w => absurd w (Nat.lt_irrefl _)⟩) (fun w => by rw [el]; exact (hLB w).off w2 (by simp)) (by rw [er]; exact fUn)
