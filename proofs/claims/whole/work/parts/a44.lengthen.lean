/-! a file is lengthened, both sides -/
theorem lnk_links {G : Geo} {d : Nat → Nat} : ∀ (l : List Nat) (x : Nat), lnk G d x l → ∀ c, c + 1 < l.length → ent G d (l.getD c 0) = l.getD (c + 1) 0
  | [], _, h, _, _ => absurd h (by simp [lnk])
  | [_], _, _, c, hc => absurd hc (by simp)
  | y :: w :: l, x, h, c, hc => by
    obtain ⟨rfl, hC, hr⟩ := h
    rcases hr with ⟨hr, _⟩ | ⟨r1, r2, r3⟩
    · exact absurd hr (by simp)
    · cases c with
      | zero => exact r3.1
      | succ c => exact lnk_links (w :: l) _ r3 c (by simp at hc ⊢; omega)
theorem lenC_no {nf : Nat} {ln : LN} {fi : FI} {ar : AR} {G : Geo} {d : Nat → Nat} {p s cnt : Nat} {x3 x4 : Int32} (hW : CW ln fi ar G d) (hs : s = fo d (p + 28)) (hsc : s + cnt < 2147483648) (hp4 : (p + 28) % 4 = 0) (hp : p + 32 ≤ 4 * ln 0) (hfr : ¬ cls G (s + cnt) - cls G s ≤ frC G d 2 G.k) (hnf : 600 ≤ nf) : FX10_lengthenFile nf fi ar ln (nI p) (nI cnt) x3 x4 = some (Sum.inr 3, fi, ar, ln, 1, 6) := by
  have b := hW.2.2.1.b
  have hle := frC_le G d G.k 2
  have hmono := cls_mono (G := G) (show s ≤ s + cnt by omega)
  have hcl : cls G (s + cnt) < 2147483648 := by
    have h1 : cls G (s + cnt) ≤ s + cnt := by
      unfold cls
      refine Nat.le_of_lt_succ ((Nat.div_lt_iff_lt_mul (by omega)).mpr ?_)
      have : (s + cnt + 1) * (512 * G.c) ≥ (s + cnt) * 1 + 512 * G.c := by rw [Nat.succ_mul]; have := Nat.mul_le_mul_left (s + cnt) (show 1 ≤ 512 * G.c by omega); omega
      show s + cnt + 512 * G.c - 1 < (s + cnt + 1) * (512 * G.c)
      omega
    omega
  have h4 : ∀ fi ar, CD ln ar d → FX3_four nf ln fi ar (nI p + 28) = some (nI s, fi, ar) := fun fi ar h => by
    rw [show nI p + (28 : Int32) = nI (p + 28) from nI_add p 28, FX3_four_eq h hp4 (by omega), ← hs]
  unfold FX10_lengthenFile FX10_makeRoom
  rw [h4 fi ar hW.1, obnd3_some, h4 fi ar hW.1, obnd3_some, nI_add, clustersFor_eq hW hsc, obnd3_some, clustersFor_eq hW (by omega), obnd3_some, bnd_eq, nI_sub hmono, freeC_eq hW hnf, obnd3_some]
  unfold frA
  rw [brF (nI_ge (by omega) (by omega)), obnd6_some, sumcR]
  rfl
theorem lenC_ok {nf : Nat} {ln : LN} {fi : FI} {ar : AR} {G : Geo} {d : Nat → Nat} {p z s cnt : Nat} {add : List Nat} {x3 x4 : Int32} {v : Nat → Nat} (hW : CW ln fi ar G d) (hs : s = fo d (p + 28)) (hsc : s + cnt < 2147483648) (hcn : cnt < nf) (hp4 : (p + 28) % 4 = 0) (hp : p + 32 ≤ 4 * ln 0) (hln1 : ln 1 = 4096) (hst : stp G d (fcl d p) (fc1 G d p)) (hlen0 : (fc1 G d p).length = cls G s) (hfr : cls G (s + cnt) - cls G s ≤ frC G d 2 G.k) (r1 : ADI G p z d (fc1 G d p)) (r2 : (adD G p (cls G (s + cnt) - cls G s) (fc1 G d p) d).1 = fc1 G d p ++ add) (r3 : ADI G p z (adD G p (cls G (s + cnt) - cls G s) (fc1 G d p) d).2 (fc1 G d p ++ add)) (r4 : (fc1 G d p ++ add).length = cls G (s + cnt)) (r5 : s + cnt ≤ (fc1 G d p ++ add).length * (512 * G.c)) (r7 : fo (adD G p (cls G (s + cnt) - cls G s) (fc1 G d p) d).2 (p + 28) = s) (hv : ∀ j, j < cnt → (x3 = 0 ∧ v j % 256 = uv (x4 + nI j * nI j + (nI j >>> ((8 : Int32) &&& 31))) % 256) ∨ (¬ x3 = 0 ∧ j < 4096 ∧ v j % 256 = uv (ar 1 j) % 256)) (hnf : 600 ≤ nf) : ∃ fi' ar', FX10_lengthenFile nf fi ar ln (nI p) (nI cnt) x3 x4 = some (Sum.inl (nI (s + cnt)), fi', ar', ln, 1, 5) ∧ CD ln ar' (wrtD G d p s v cnt) ∧ offF [80, 81, 82] fi fi' ∧ offA 0 ar ar' := by
  have hG := hW.2.2.1
  have b := hG.b
  have hle := frC_le G d G.k 2
  have hmono := cls_mono (G := G) (show s ≤ s + cnt by omega)
  have h4 : ∀ fi ar, CD ln ar d → FX3_four nf ln fi ar (nI p + 28) = some (nI s, fi, ar) := fun fi ar h => by
    rw [show nI p + (28 : Int32) = nI (p + 28) from nI_add p 28, FX3_four_eq h hp4 (by omega), ← hs]
  obtain ⟨ar1, u1, u2, u3⟩ := adC_loop (nf := nf) (fi := fi) (ln := ln) (G := G) (p := p) (z := z) (M := cls G (s + cnt) - cls G s) (by omega) (by omega) hnf _ 0 nf (fc1 G d p) ar d hW r1 hfr (by omega) (by omega)
  obtain ⟨d1, hd1⟩ : ∃ d1, d1 = (adD G p (cls G (s + cnt) - cls G s) (fc1 G d p) d).2 := ⟨_, rfl⟩
  have hst1 : stp G d1 (fcl d1 p) (fc1 G d p ++ add) := by
    rcases r3.2.2.1 with w | w
    · have hm0 : cls G (s + cnt) - cls G s = 0 := by rw [w] at r4; rw [← r4]; simp
      have e : d1 = d := by rw [hd1, hm0]; rfl
      have e2 : add = [] := (List.append_eq_nil_iff.mp w).2
      rw [e, e2, List.append_nil]; exact hst
    · rw [hd1]; exact Or.inr w
  rw [← hd1] at u2 r3 r7
  obtain ⟨fi0, hfi0⟩ : ∃ fi0, fi0 = va_up (va_up (va_up fi 80 0) 81 0) 82 0 := ⟨_, rfl⟩
  have o0 : offF [80, 81, 82] fi fi0 := by rw [hfi0]; exact ((offF.rf.up (by simp)).up (by simp)).up (by simp)
  have hW0 : CW ln fi0 ar1 G d1 := u2.off (S := [80, 81, 82]) (T := []) o0 offAs.rf (by simp) (by simp)
  obtain ⟨fi2, i1, i2, i3⟩ := init_ok (nf := nf) hW0 r7.symm (by omega) hp4 hp hst1 hnf
  have hW2 : CW ln fi2 ar1 G d1 := hW0.off (S := [80, 81, 82]) (T := []) i2 offAs.rf (by simp) (by simp)
  have hlk : ∀ c, c + 1 < (fc1 G d p ++ add).length → ent G d1 ((fc1 G d p ++ add).getD c 0) = (fc1 G d p ++ add).getD (c + 1) 0 := by
    rcases r3.2.2.1 with w | w
    · intro c hc; rw [w] at hc; exact absurd hc (by simp)
    · exact lnk_links _ _ w
  obtain ⟨fi3, ar3, y1, y2, y3, y4⟩ := byC_loop (nf := nf) (x3 := x3) (x4 := x4) (v := v) hG r3.clu r5 hp hln1 cnt 0 nf fi2 ar1 d1 (by omega) hcn hW2 (fun hne => i3 ((Nat.div_lt_iff_lt_mul (by omega)).mpr (by omega))) hlk (fun j hj => by rw [u3 1 (by decide)]; exact hv j hj)
  refine ⟨fi3, ar3, ?_, ?_, (o0.tr i2).tr y3, u3.tr y4⟩
  · unfold FX10_lengthenFile FX10_makeRoom
    rw [h4 fi ar hW.1, obnd3_some, h4 fi ar hW.1, obnd3_some, nI_add, clustersFor_eq hW hsc, obnd3_some, clustersFor_eq hW (by omega), obnd3_some, bnd_eq, nI_sub hmono, freeC_eq hW hnf, obnd3_some]
    unfold frA
    rw [brT (nI_le hfr (by omega)), FX3_firstCluster_eq hW.1 (by omega), obnd3_some, last_ok hW hst hnf, obnd3_some, show (0 : Int32) = nI 0 from rfl, u1, obnd6_some, sumcL, bnd_eq, show nI 0 = (0 : Int32) from rfl, ← hfi0, i1, obnd3_some]
    have y1' : FX10_lengthenFile_36 nf nf (nI p) (nI cnt) x3 x4 (nI s) 0 fi2 ar1 ln = some (Sum.inl (nI (s + cnt)), fi3, ar3, ln, 0, 0) := y1
    rw [y1']
    rfl
  · unfold wrtD
    rw [r2, ← hd1]; exact y2
theorem appM_no {nf : Nat} {fm : FI} {arm : AR} {G : Geo} {d : Nat → Nat} {B p s cnt : Nat} {x3 x4 : Int32} (hW : RW fm arm G d) (h5 : fm 5 = 0) (hB : B < 16400) (h20 : arm 20 B = nI p) (hp : p + 32 ≤ 524288) (hs : s = fo d (p + 28)) (hsc : s + cnt < 2000000000) (hcl : cls G (s + cnt) < 2147483648) (hfr : ¬ cls G (s + cnt) - cls G s ≤ frC G d 2 G.k) (hnf : 600 ≤ nf) : M_append nf fm arm (nI B) (nI cnt) x3 x4 = some (0, va_up fm 5 4, arm) := by
  have b := hW.2.2.b
  have hmono := cls_mono (G := G) (show s ≤ s + cnt by omega)
  have e512 : (512 : Int32) * fm 7 = nI (512 * G.c) := by rw [hW.2.1.2.1]; exact pk_mul 512 _
  have f1 : M_fails nf fm arm 1 4 = _ := fails_eq (nf := nf) (ar := arm) h5 (t := 1) (by decide) 4 (by decide)
  rw [if_neg (by decide), if_neg (by decide)] at f1
  have w1 : M_whole nf (nI (s + cnt)) (nI (512 * G.c)) = some (nI (cls G (s + cnt))) := whole_eq (by omega) (by omega) (by omega)
  have w2 : M_whole nf (nI s) (nI (512 * G.c)) = some (nI (cls G s)) := whole_eq (by omega) (by omega) (by omega)
  unfold M_append
  rw [zgd hB (by omega), nI_clamp (by omega), bnd_eq, h20, show nI p + (28 : Int32) = nI (p + 28) from nI_add p 28, M_four_eq hW.1 (by omega), ← hs, obnd3_some, bnd_eq, e512, nI_add, w1, obnd_some, w2, obnd_some, bnd_eq, nI_sub hmono, freeM_eq hW hnf, obnd3_some]
  unfold frA
  rw [brF (nI_ge (by omega) (by omega))]
  unfold M_append_63
  rw [f1, obnd3_some, brF (by decide)]
  rfl
theorem appM_ok {nf : Nat} {fm : FI} {arm : AR} {G : Geo} {d : Nat → Nat} {B p z s cnt : Nat} {add : List Nat} {x3 x4 : Int32} {v : Nat → Nat} (hW : RW fm arm G d) (h5 : fm 5 = 0) (hB : B < 16400) (h20 : arm 20 B = nI p) (hp : p + 32 ≤ 524288) (hs : s = fo d (p + 28)) (hsc : s + cnt < 2000000000) (hcn : cnt < nf) (hst : stp G d (fcl d p) (fc1 G d p)) (hfr : cls G (s + cnt) - cls G s ≤ frC G d 2 G.k) (r1 : ADI G p z d (fc1 G d p)) (r2 : (adD G p (cls G (s + cnt) - cls G s) (fc1 G d p) d).1 = fc1 G d p ++ add) (r3 : ADI G p z (adD G p (cls G (s + cnt) - cls G s) (fc1 G d p) d).2 (fc1 G d p ++ add)) (r5 : s + cnt ≤ (fc1 G d p ++ add).length * (512 * G.c)) (hv : ∀ j, j < cnt → (x3 = 0 ∧ v j % 256 = uv (x4 + nI j * nI j + (nI j >>> ((8 : Int32) &&& 31))) % 256) ∨ (¬ x3 = 0 ∧ j < 4096 ∧ v j % 256 = uv (arm 2 j) % 256)) (hnf : 6000 ≤ nf) : ∃ fm' arm', M_append nf fm arm (nI B) (nI cnt) x3 x4 = some (nI (s + cnt), fm', arm') ∧ RD arm' (wrtD G d p s v cnt) ∧ fm' 15 = 0 ∧ offF [15, 31] fm fm' ∧ offAs [1, 29] arm arm' := by
  have hG := hW.2.2
  have b := hG.b
  have hle := frC_le G d G.k 2
  have hmono := cls_mono (G := G) (show s ≤ s + cnt by omega)
  have e512 : (512 : Int32) * fm 7 = nI (512 * G.c) := by rw [hW.2.1.2.1]; exact pk_mul 512 _
  have f0 : M_fails nf fm arm 0 4 = _ := fails_eq (nf := nf) (ar := arm) h5 (t := 0) (by decide) 4 (by decide)
  rw [if_pos rfl, if_pos rfl] at f0
  have w1 : M_whole nf (nI (s + cnt)) (nI (512 * G.c)) = some (nI (cls G (s + cnt))) := whole_eq (by omega) (by omega) (by omega)
  have w2 : M_whole nf (nI s) (nI (512 * G.c)) = some (nI (cls G s)) := whole_eq (by omega) (by omega) (by omega)
  obtain ⟨fm1, arm1, k1, k2, k3, k4, k5⟩ := walk_ok (nf := nf) hW hst (by omega)
  have hW1 := hW.off k2 k3 (by simp) (by simp)
  obtain ⟨fm2, arm2, t1, t2, t3, t4, t5⟩ := adM_loop (nf := nf) (G := G) (p := p) (z := z) (M := cls G (s + cnt) - cls G s) (x2 := nI cnt) (x3 := x3) (x4 := x4) (x6 := nI s) (x7 := nI (512 * G.c)) (by omega) hp (by omega) _ 0 nf (fc1 G d p) fm1 arm1 d hW1 r1 hfr (by omega) (by omega) k4 k5
  obtain ⟨arm3, y1, y2, y3⟩ := byM_loop (nf := nf) (p := p) (x3 := x3) (x4 := x4) (v := v) hG t2.2.1 r3.clu r5 hp (by omega) cnt 0 nf arm2 _ (by omega) hcn t2.1 (by rw [r2] at t3; exact t3) (fun j hj => by rw [t5 2 (by simp), k3 2 (by simp)]; exact hv j hj)
  refine ⟨_, arm3, ?_, ?_, va_up_self fm2 15 0, ((k2.mono (by simp)).tr (t4.mono (by simp))).up (by simp), ((k3.mono (by simp)).tr t5).tr (y3.as.mono (by simp))⟩
  · unfold M_append
    rw [zgd hB (by omega), nI_clamp (by omega), bnd_eq, h20, show nI p + (28 : Int32) = nI (p + 28) from nI_add p 28, M_four_eq hW.1 (by omega), ← hs, obnd3_some, bnd_eq, e512, nI_add, w1, obnd_some, w2, obnd_some, bnd_eq, nI_sub hmono, freeM_eq hW (by omega), obnd3_some]
    unfold frA
    rw [brT (nI_le hfr (by omega))]
    unfold M_append_63
    rw [f0, obnd3_some, brT rfl, M_firstOf_eq hW.1 (by omega), obnd3_some, k1, obnd3_some]
    exact t1.trans y1
  · unfold wrtD
    rw [r2]; exact y2
