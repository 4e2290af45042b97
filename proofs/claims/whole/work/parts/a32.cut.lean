/-! cut -/
/-- the tables and the entry's first cluster after a cut to K clusters of l -/
def cutD (G : Geo) (d : Nat → Nat) (l : List Nat) (p K : Nat) : Nat → Nat := if K = 0 then wr (wr (frs G d (l.drop K)) (p + 20) 2 0) (p + 26) 2 0 else if K < l.length then stE G (frs G d (l.drop K)) (l.getD (K - 1) 0) 268435455 else d
theorem getD_mem {l : List Nat} {q : Nat} (h : q < l.length) : l.getD q 0 ∈ l := by
  rw [List.getD_eq_getElem?_getD, List.getElem?_eq_getElem h]; exact List.getElem_mem h
theorem getD_take {l : List Nat} {q K : Nat} (h : q < K) (hq : q < l.length) : l.getD q 0 ∈ l.take K := by
  rw [List.getD_eq_getElem?_getD, List.getElem?_eq_getElem hq]
  exact List.mem_take_iff_getElem.mpr ⟨q, by omega, rfl⟩
theorem take_drop_apart {l : List Nat} (hn : l.Nodup) {K y : Nat} (h1 : y ∈ l.take K) : y ∉ l.drop K := by
  have := hn
  rw [← List.take_append_drop K l] at this
  exact fun h2 => (List.nodup_append.mp this).2.2 y h1 y h2 rfl
theorem cutD_ok {G : Geo} {d : Nat → Nat} (hG : GOK G) (hb : ∀ p, d p < 256) {l : List Nat} {p K : Nat} (hl : clu G l) (hp : 512 * G.a ≤ p) (hK : K ≤ l.length) (ht : tabOK G d) : (∀ q, cutD G d l p K q < 256) ∧ (∀ q, (q < 4096 ∨ 512 * G.a ≤ q) → (q < p + 20 ∨ (p + 22 ≤ q ∧ q < p + 26) ∨ p + 28 ≤ q) → cutD G d l p K q = d q) ∧ tabOK G (cutD G d l p K) ∧ (∀ y, y < G.k + 2 → ent G (cutD G d l p K) y = if y ∈ l.drop K then 0 else if K ≠ 0 ∧ K < l.length ∧ y = l.getD (K - 1) 0 then 268435455 else ent G d y) ∧ (K = 0 → fcl (cutD G d l p K) p = 0) ∧ (K ≠ 0 → ∀ q, 512 * G.a ≤ q → cutD G d l p K q = d q) := by
  have hdC : ∀ y, y ∈ l.drop K → isC G y := fun y hy => hl.2 y (List.drop_subset _ _ hy)
  have hdk : ∀ y, y ∈ l.drop K → y < G.k + 2 := fun y hy => by have := (hdC y hy).2; omega
  have fl := frs_lt (G := G) (l.drop K) d hb
  have fo := frs_out hG (l.drop K) d hdk
  have fe := frs_ent hG (l.drop K) d hb hdk
  have ft := frs_tab hG (l.drop K) d hb hdC ht
  unfold cutD
  by_cases c : K = 0
  · rw [if_pos c]
    have hT := tab_congr (d := frs G d (l.drop K)) (d' := wr (wr (frs G d (l.drop K)) (p + 20) 2 0) (p + 26) 2 0) hG (fun q q1 q2 => by rw [wr_out (by omega), wr_out (by omega)])
    refine ⟨wr_lt (wr_lt fl _ _ _) _ _ _, fun q q1 q2 => by rw [wr_out (by omega), wr_out (by omega)]; exact fo q q1, hT.2 ft, fun y hy => ?_, fun _ => ?_, fun w => absurd c w⟩
    · rw [hT.1 y hy, fe y hy]
      by_cases z : y ∈ l.drop K
      · rw [if_pos z, if_pos z]
      · rw [if_neg z, if_neg z, if_neg (fun w => w.1 c)]
    · unfold fcl
      rw [tw_wr_in (by omega), tw_wr_out (by omega), tw_wr_in (by omega)]
  · rw [if_neg c]
    by_cases c2 : K < l.length
    · have hx : l.getD (K - 1) 0 ∈ l := getD_mem (by omega)
      have hxC := hl.2 _ hx
      have hxn : l.getD (K - 1) 0 ∉ l.drop K := take_drop_apart hl.1 (getD_take (by omega) (by omega))
      rw [if_pos c2]
      refine ⟨stE_lt fl _ _, fun q q1 q2 => by rw [stE_out hG (by omega) q1]; exact fo q q1, tab_stE hG fl hxC.1 (by omega) (by omega) (Or.inr (Or.inr (by omega))) ft, fun y hy => ?_, fun w => absurd w c, fun _ q q1 => by rw [stE_out hG (by omega) (Or.inr q1)]; exact fo q (Or.inr q1)⟩
      rw [ent_stE hG fl (by omega) (by omega) hy, fe y hy]
      by_cases z : y ∈ l.drop K
      · rw [if_pos z, if_pos z, if_neg (fun e => hxn (by rw [← e]; exact z))]
      · rw [if_neg z, if_neg z]
        by_cases z2 : y = l.getD (K - 1) 0
        · rw [if_pos z2, if_pos ⟨c, c2, z2⟩]
        · rw [if_neg z2, if_neg (fun w => z2 w.2.2)]
    · rw [if_neg c2]
      have hd : l.drop K = [] := by rw [show K = l.length by omega, List.drop_length]
      refine ⟨hb, fun q _ _ => rfl, ht, fun y hy => ?_, fun w => absurd w c, fun _ _ _ => rfl⟩
      rw [hd, if_neg (by simp), if_neg (fun w => c2 w.2.1)]
noncomputable def cutE (nf : Nat) (x2 x3 x4 : Int32) (fi : FI) (ar : AR) : Option (Int32 × FI × AR) :=
  br ((x4) ≤ 0) (obnd3 (M_set nf fi ar ((x3) + (20)) (2) (0 : Int64)) fun r14 fi12 ar13 => obnd3 (M_set nf fi12 ar13 ((x3) + (26)) (2) (0 : Int64)) fun r18 fi16 ar17 => M_cut_170 nf  (x2) (x3) (x4) fi16 ar17) (br ((fi 31) ≤ (x4)) (M_cut_170 nf  (x2) (x3) (x4) fi ar) (gd (¬ (((x4) - (1)) < 0 ∨ 560 ≤ ((x4) - (1)).toNatClampNeg)) (obnd3 (M_setEntry nf fi ar (ar 29 ((x4) - (1)).toNatClampNeg) (268435455)) fun r24 fi22 ar23 => M_cut_170 nf  (x2) (x3) (x4) fi22 ar23)))
theorem cutM_loop {nf : Nat} {G : Geo} {fm : FI} {l : List Nat} {x2 x3 x4 : Int32} (hl : clu G l) (h31 : fm 31 = nI l.length) (hnf : 600 ≤ nf) : ∀ (m j kf : Nat) (arm : AR) (d : Nat → Nat), j + m = l.length → m < kf → RW fm arm G d → (∀ p, d p < 256) → (∀ q, q < l.length → arm 29 q = nI (l.getD q 0)) → ∃ arm', M_cut_91 nf kf x2 x3 x4 (nI j) fm arm = cutE nf x2 x3 x4 fm arm' ∧ RW fm arm' G (frs G d (l.drop j)) ∧ offA 1 arm arm' := by
  have hlk := hl.len
  intro m
  induction m with
  | zero =>
    intro j kf arm d hj hk hW hb ha
    have b := hW.2.2.b
    obtain ⟨kf, rfl⟩ : ∃ k, kf = k + 1 := ⟨kf - 1, by omega⟩
    rw [show M_cut_91 nf (kf + 1) = M_cut_91b (M_cut_91 nf kf) nf from rfl]
    unfold M_cut_91b
    rw [h31, brT (nI_le (by omega) (by omega)), show l.drop j = [] from List.drop_eq_nil_of_le (by omega)]
    refine ⟨arm, ?_, hW, offA.rf⟩
    unfold cutE
    rw [h31]
  | succ m ih =>
    intro j kf arm d hj hk hW hb ha
    have b := hW.2.2.b
    have hj2 : j < l.length := by omega
    have hxC := hl.2 _ (getD_mem hj2)
    obtain ⟨kf, rfl⟩ : ∃ k, kf = k + 1 := ⟨kf - 1, by omega⟩
    rw [show M_cut_91 nf (kf + 1) = M_cut_91b (M_cut_91 nf kf) nf from rfl]
    unfold M_cut_91b
    obtain ⟨arm1, r1, r2, r3⟩ := setEntry_ok (nf := nf) hW hb (x := l.getD j 0) (v := 0) (by omega) (by omega) (by omega)
    have r1' : M_setEntry nf fm arm (nI (l.getD j 0)) 0 = some ((), fm, arm1) := r1
    rw [h31, brF (nI_ge (by omega) (by omega)), zgd (by omega) (by omega), nI_clamp (by omega), ha j hj2, r1', obnd3_some, bnd_eq, show nI j + (1 : Int32) = nI (j + 1) from nI_add j 1]
    obtain ⟨arm', s1, s2, s3⟩ := ih (j + 1) kf arm1 _ (by omega) (by omega) r2 (stE_lt hb _ _) (fun q hq => by rw [r3 29 (by decide)]; exact ha q hq)
    refine ⟨arm', s1, ?_, r3.tr s3⟩
    have e : l.drop j = l.getD j 0 :: l.drop (j + 1) := by
      rw [List.drop_eq_getElem_cons hj2, List.getD_eq_getElem?_getD, List.getElem?_eq_getElem hj2]; rfl
    rw [e]; exact s2
theorem cutM_end {nf : Nat} {G : Geo} {fm : FI} {arm : AR} {d : Nat → Nat} {l : List Nat} {p K m : Nat} (hG : GOK G) (hb : ∀ p, d p < 256) (hl : clu G l) (h31 : fm 31 = nI l.length) (hK : K ≤ l.length) (hm : m < 2147483648) (hp : p + 32 ≤ 524288) (hpa : 512 * G.a ≤ p) (hz : l = [] → fcl d p = 0) (ha : ∀ q, q < l.length → arm 29 q = nI (l.getD q 0)) (hW : RW fm arm G (frs G d (l.drop K))) (hnf : 600 ≤ nf) : ∃ arm', cutE nf (nI m) (nI p) (nI K) fm arm = some (nI (l.length - K), va_up fm 15 0, arm') ∧ RD arm' (wr (cutD G d l p K) (p + 28) 4 m) ∧ offA 1 arm arm' := by
  have b := hG.b
  have hlk := hl.len
  have l0 : lU (0 : Int64) = 0 := rfl
  have fin : ∀ (arm1 : AR), RD arm1 (cutD G d l p K) → ∃ arm', M_cut_170 nf (nI m) (nI p) (nI K) fm arm1 = some (nI (l.length - K), va_up fm 15 0, arm') ∧ RD arm' (wr (cutD G d l p K) (p + 28) 4 m) ∧ offA 1 arm1 arm' := by
    intro arm1 hR
    obtain ⟨arm2, r1, r2, r3⟩ := M_setI (nf := nf) (fi := fm) hR (p := p + 28) (n := 4) (nI m) (by omega) (by omega) (by omega)
    rw [uv_nI (by omega)] at r2
    refine ⟨arm2, ?_, r2, r3⟩
    unfold M_cut_170 M_changed
    rw [show nI p + (28 : Int32) = nI (p + 28) from nI_add p 28, show (4 : Int32) = nI 4 from rfl, r1, obnd3_some, bnd_eq, obnd3_some, va_up_off (by decide), h31, nI_sub hK]
  unfold cutE
  by_cases c : K = 0
  · obtain ⟨arm1, r1, r2, r3⟩ := M_set_ok (nf := nf) (fi := fm) hW.1 (p := p + 20) (n := 2) (0 : Int64) (by omega) (by omega) (by omega)
    obtain ⟨arm2, s1, s2, s3⟩ := M_set_ok (nf := nf) (fi := fm) r2 (p := p + 26) (n := 2) (0 : Int64) (by omega) (by omega) (by omega)
    rw [l0] at s2
    have hD : cutD G d l p K = wr (wr (frs G d (l.drop K)) (p + 20) 2 0) (p + 26) 2 0 := if_pos c
    obtain ⟨arm', g1, g2, g3⟩ := fin arm2 (by rw [hD]; exact s2)
    refine ⟨arm', ?_, g2, (r3.tr s3).tr g3⟩
    rw [brT (show nI K ≤ (0 : Int32) by rw [c]; decide), show nI p + (20 : Int32) = nI (p + 20) from nI_add p 20, show nI p + (26 : Int32) = nI (p + 26) from nI_add p 26, show (2 : Int32) = nI 2 from rfl, r1, obnd3_some, s1, obnd3_some]
    exact g1
  · rw [brF (show ¬ nI K ≤ (0 : Int32) from nI_nle (by omega) (by omega)), h31]
    by_cases c2 : K < l.length
    · have hxC := hl.2 _ (getD_mem (show K - 1 < l.length by omega))
      have fl := frs_lt (G := G) (l.drop K) d hb
      obtain ⟨arm1, r1, r2, r3⟩ := setEntry_ok (nf := nf) hW fl (x := l.getD (K - 1) 0) (v := 268435455) (by omega) (by omega) (by omega)
      have r1' : M_setEntry nf fm arm (nI (l.getD (K - 1) 0)) 268435455 = some ((), fm, arm1) := r1
      have hD : cutD G d l p K = stE G (frs G d (l.drop K)) (l.getD (K - 1) 0) 268435455 := by unfold cutD; rw [if_neg c, if_pos c2]
      obtain ⟨arm', g1, g2, g3⟩ := fin arm1 (by rw [hD]; exact r2.1)
      refine ⟨arm', ?_, g2, r3.tr g3⟩
      rw [brF (nI_ge (by omega) (by omega)), show nI K - (1 : Int32) = nI (K - 1) from nI_sub (b := 1) (by omega), zgd (by omega) (by omega), nI_clamp (by omega), ha _ (by omega), r1', obnd3_some]
      exact g1
    · have hd : l.drop K = [] := by rw [show K = l.length by omega, List.drop_length]
      rw [hd] at hW
      have hD : cutD G d l p K = d := by unfold cutD; rw [if_neg c, if_neg c2]
      obtain ⟨arm', g1, g2, g3⟩ := fin arm (by rw [hD]; exact hW.1)
      exact ⟨arm', by rw [brT (nI_le (by omega) (by omega))]; exact g1, g2, g3⟩
theorem cutC_end {nf : Nat} {ln : LN} {G : Geo} {fi : FI} {ar : AR} {d : Nat → Nat} {l : List Nat} {p K m : Nat} (hW : CW ln fi ar G d) (hb : ∀ p, d p < 256) (hs : stp G d (fcl d p) l) (hl : clu G l) (hK : K ≤ l.length) (hm : m < 2147483648) (hp : p + 32 ≤ 4 * ln 0) (hpa : 512 * G.a ≤ p) (hz : l = [] → fcl d p = 0) (hnf : 600 ≤ nf) : ∃ ar', br (nI (l.length - K) ≤ 0) (FX10_cut_80 nf (nI m) (nI p) (nI (l.length - K)) fi ar ln) (obnd3 (FX10_shorten nf ln fi ar (nI p) (nI K)) fun r48 fi46 ar47 => FX10_cut_80 nf (nI m) (nI p) (nI (l.length - K)) fi46 ar47 ln) = some (Sum.inl (nI (l.length - K)), fi, ar', ln, 0, 0) ∧ CD ln ar' (wr (cutD G d l p K) (p + 28) 4 m) ∧ offA 0 ar ar' := by
  have hG := hW.2.2.1
  have b := hG.b
  have hlk := hl.len
  have hC := hW.1
  have fin : ∀ (ar1 : AR), CD ln ar1 (cutD G d l p K) → ∃ ar', FX10_cut_80 nf (nI m) (nI p) (nI (l.length - K)) fi ar1 ln = some (Sum.inl (nI (l.length - K)), fi, ar', ln, 0, 0) ∧ CD ln ar' (wr (cutD G d l p K) (p + 28) 4 m) ∧ offA 0 ar1 ar' := by
    intro ar1 hR
    obtain ⟨ar2, r1, r2, r3⟩ := FX3_putFour_ok (nf := nf) (fi := fi) hR (p := p + 28) (nI m) (by omega)
    rw [uv_nI (by omega)] at r2
    refine ⟨ar2, ?_, r2, r3⟩
    unfold FX10_cut_80
    rw [show nI p + (28 : Int32) = nI (p + 28) from nI_add p 28, r1, obnd3_some]
  by_cases c0 : K = l.length
  · have hd : l.drop K = [] := by rw [c0, List.drop_length]
    have hD : cutD G d l p K = d := by
      unfold cutD
      rw [hd]
      by_cases c : K = 0
      · have hln : l = [] := List.length_eq_zero_iff.mp (by omega)
        have hf0 := hz hln
        unfold fcl tw at hf0
        rw [if_pos c, frs, wr_same (d := d) (p := p + 20) (by omega) (by omega), wr_same (by omega) (by omega)]
      · rw [if_neg c, if_neg (by omega)]
    obtain ⟨ar', g1, g2, g3⟩ := fin ar (by rw [hD]; exact hC)
    exact ⟨ar', by rw [brT (show nI (l.length - K) ≤ (0 : Int32) by rw [show l.length - K = 0 by omega]; decide)]; exact g1, g2, g3⟩
  · have c2 : K < l.length := by omega
    rw [brF (show ¬ nI (l.length - K) ≤ (0 : Int32) from nI_nle (by omega) (by omega))]
    have hlnk : lnk G d (fcl d p) l := hs.resolve_left (fun w => by rw [w.2.2] at c2; simp at c2)
    have hsh : ∃ ar1, FX10_shorten nf ln fi ar (nI p) (nI K) = some ((), fi, ar1) ∧ CD ln ar1 (cutD G d l p K) ∧ offA 0 ar ar1 := by
      unfold FX10_shorten
      rw [FX3_firstCluster_eq hC (by omega), obnd3_some]
      by_cases c : K = 0
      · obtain ⟨ar1, r1, r2, r3⟩ := FX3_putFirstCluster_ok (nf := nf) (fi := fi) hC (p := p) (x := 0) (by omega) (by omega)
        have hW1 : CW ln fi ar1 G (wr (wr d (p + 20) 2 0) (p + 26) 2 0) := ⟨r2, hW.2.1, hG, hW.2.2.2⟩
        have hT := tab_congr (d := d) (d' := wr (wr d (p + 20) 2 0) (p + 26) 2 0) hG (fun q q1 q2 => by rw [wr_out (by omega), wr_out (by omega)])
        have hs1 : stp G (wr (wr d (p + 20) 2 0) (p + 26) 2 0) (fcl d p) l := Or.inr (lnk_congr _ _ hlnk (fun y hy => hT.1 y (by have := (hl.2 y hy).2; omega)))
        obtain ⟨ar2, s1, s2, s3⟩ := release_ok (nf := nf) hW1 (wr_lt (wr_lt hb _ _ _) _ _ _) hs1 hnf
        have r1' : FX3_putFirstCluster nf ln fi ar (nI p) 0 = some ((), fi, ar1) := r1
        refine ⟨ar2, ?_, ?_, r3.tr s3⟩
        · rw [brT (show nI K = (0 : Int32) by rw [c]; rfl), r1', obnd3_some, s1, obnd3_some]
        · have hk : ∀ y, y ∈ l → y < G.k + 2 := fun y hy => by have := (hl.2 y hy).2; omega
          have hD : cutD G d l p K = wr (wr (frs G d l) (p + 20) 2 0) (p + 26) 2 0 := by unfold cutD; rw [if_pos c, c, List.drop_zero]
          have := s2.1
          rw [frs_wr hG (by omega) l _ hk, frs_wr hG (by omega) l _ hk] at this
          rw [hD]; exact this
      · have hxi : K - 1 < l.length := by omega
        have hxC := hl.2 _ (getD_mem hxi)
        obtain ⟨v, g1, g2, g3⟩ := later_ok (nf := nf) hW (K := K - 1) (by omega) hs hnf
        have gv := g3 hxi
        obtain ⟨ar1, r1, r2, r3⟩ := link_ok (nf := nf) hW hb (x := l.getD (K - 1) 0) (v := 268435455) (by omega) (by omega) (by omega)
        have r1' : FX9_link nf ln fi ar (nI (l.getD (K - 1) 0)) 268435455 = some ((), fi, ar1) := r1
        have hdr := lnk_drop l (fcl d p) (K - 1) hlnk hxi
        rw [show K - 1 + 1 = K by omega] at hdr
        have hxn : l.getD (K - 1) 0 ∉ l.drop K := take_drop_apart hl.1 (getD_take (by omega) (by omega))
        have hs1 : stp G (stE G d (l.getD (K - 1) 0) 268435455) (ent G d (l.getD (K - 1) 0)) (l.drop K) := by
          rcases hdr with w | w
          · exact Or.inl w
          · refine Or.inr (lnk_congr _ _ w (fun y hy => ?_))
            have hyC := hl.2 y (List.drop_subset _ _ hy)
            rw [ent_stE hG hb (by omega) (by omega) (by omega), if_neg (fun e => hxn (by rw [← e]; exact hy))]
        obtain ⟨ar2, s1, s2, s3⟩ := release_ok (nf := nf) r2 (stE_lt hb _ _) hs1 hnf
        refine ⟨ar2, ?_, ?_, r3.tr s3⟩
        · rw [brF (nI_ne0 (by omega) (by omega)), show nI K - (1 : Int32) = nI (K - 1) from nI_sub (b := 1) (by omega), g1, obnd3_some, gv, hW.next (by omega), obnd3_some, r1', obnd3_some, s1, obnd3_some]
        · have hk : ∀ y, y ∈ l.drop K → y < G.k + 2 := fun y hy => by have := (hl.2 y (List.drop_subset _ _ hy)).2; omega
          have hD : cutD G d l p K = stE G (frs G d (l.drop K)) (l.getD (K - 1) 0) 268435455 := by unfold cutD; rw [if_neg c, if_pos c2]
          have := s2.1
          rw [frs_stE hG (by omega) _ _ hk hxn] at this
          rw [hD]; exact this
    obtain ⟨ar1, h1, h2, h3⟩ := hsh
    obtain ⟨ar', g1, g2, g3⟩ := fin ar1 h2
    exact ⟨ar', by rw [h1, obnd3_some]; exact g1, g2, h3.tr g3⟩
