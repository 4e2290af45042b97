/-! room is made, both sides -/
theorem last_snoc {l : List Nat} {x : Nat} : (l ++ [x]).getD ((l ++ [x]).length - 1) 0 = x := by
  rw [List.length_append, List.length_singleton, Nat.add_sub_cancel, List.getD_eq_getElem?_getD, List.getElem?_append_right (Nat.le_refl _), Nat.sub_self]; rfl
theorem getD_snoc {l : List Nat} {x q : Nat} (h : q < l.length + 1) : (l ++ [x]).getD q 0 = if q = l.length then x else l.getD q 0 := by
  by_cases c : q = l.length
  · rw [if_pos c, c, List.getD_eq_getElem?_getD, List.getElem?_append_right (Nat.le_refl _), Nat.sub_self]; rfl
  · rw [if_neg c, List.getD_eq_getElem?_getD, List.getElem?_append_left (by omega), List.getD_eq_getElem?_getD]
theorem adC_loop {nf : Nat} {ln : LN} {fi : FI} {G : Geo} {p z M : Nat} (hM : M < 2147483648) (hp : p + 27 < 4 * ln 0) (hnf : 600 ≤ nf) : ∀ (m i kf : Nat) (l : List Nat) (ar : AR) (d : Nat → Nat), CW ln fi ar G d → ADI G p z d l → m ≤ frC G d 2 G.k → i + m = M → m < kf → ∃ ar', FX10_makeRoom_75 nf kf (nI p) (nI M) (nI (l.getD (l.length - 1) 0)) (nI i) fi ar ln = some (Sum.inl (), fi, ar', ln, 0, 0) ∧ CW ln fi ar' G (adD G p m l d).2 ∧ offA 0 ar ar' := by
  intro m
  induction m with
  | zero =>
    intro i kf l ar d hW hA hf hi hk
    obtain ⟨kf, rfl⟩ : ∃ k, kf = k + 1 := ⟨kf - 1, by omega⟩
    rw [show FX10_makeRoom_75 nf (kf + 1) = FX10_makeRoom_75b (FX10_makeRoom_75 nf kf) nf from rfl]
    unfold FX10_makeRoom_75b
    rw [brT (nI_le (by omega) (by omega))]
    exact ⟨ar, rfl, hW, offA.rf⟩
  | succ m ih =>
    intro i kf l ar d hW hA hf hi hk
    have hG := hW.2.2.1
    have b := hG.b
    obtain ⟨kf, rfl⟩ : ∃ k, kf = k + 1 := ⟨kf - 1, by omega⟩
    rw [show FX10_makeRoom_75 nf (kf + 1) = FX10_makeRoom_75b (FX10_makeRoom_75 nf kf) nf from rfl]
    unfold FX10_makeRoom_75b FX10_makeRoom_120
    obtain ⟨ar1, r1, r2, r3⟩ := clm_ok (nf := nf) hW hA.1 (by omega) hnf
    obtain ⟨x, hx⟩ : ∃ x, x = low G d 2 G.k := ⟨_, rfl⟩
    obtain ⟨s1, s2, s3, s4, s5, s6, s7, s8, s9, s10⟩ := ad_step hG hA (by omega) hx
    rw [← hx] at r1 r2
    have hxk := s1.2
    have key : ∃ ar2, br (nI (l.getD (l.length - 1) 0) = 0) (obnd3 (FX3_putFirstCluster nf ln fi ar1 (nI p) (nI x)) fun r15 fi13 ar14 => bnd (nI i + 1) fun x6_1 => FX10_makeRoom_75 nf kf (nI p) (nI M) (nI x) x6_1 fi13 ar14 ln) (obnd3 (FX9_link nf ln fi ar1 (nI (l.getD (l.length - 1) 0)) (nI x)) fun r11 fi9 ar10 => bnd (nI i + 1) fun x6_1 => FX10_makeRoom_75 nf kf (nI p) (nI M) (nI x) x6_1 fi9 ar10 ln) = FX10_makeRoom_75 nf kf (nI p) (nI M) (nI x) (nI (i + 1)) fi ar2 ln ∧ CW ln fi ar2 G (adS G p d l x) ∧ offA 0 ar1 ar2 := by
      unfold adS
      by_cases c : l = []
      · rw [if_pos c]
        obtain ⟨ar2, u1, u2, u3⟩ := FX3_putFirstCluster_ok (nf := nf) (fi := fi) r2.1 (p := p) (x := x) (by omega) hp
        refine ⟨ar2, ?_, ⟨u2, hW.2⟩, u3⟩
        rw [brT (by rw [c]; rfl), u1, obnd3_some, bnd_eq, show nI i + (1 : Int32) = nI (i + 1) from nI_add i 1]
      · rw [if_neg c]
        have hm : l.getD (l.length - 1) 0 ∈ l := getD_mem (by have := List.length_pos_iff.mpr c; omega)
        have hmC := hA.clu.2 _ hm
        have hm1 := hmC.1
        have hm2 := hmC.2
        obtain ⟨ar2, u1, u2, u3⟩ := link_ok (nf := nf) r2 (tk_facts hG hA.1 s1).1 (x := l.getD (l.length - 1) 0) (v := x) (by omega) (by omega) (by omega)
        refine ⟨ar2, ?_, u2, u3⟩
        rw [brF (nI_ne0 (by omega) (by omega)), u1, obnd3_some, bnd_eq, show nI i + (1 : Int32) = nI (i + 1) from nI_add i 1]
    obtain ⟨ar2, k1, k2, k3⟩ := key
    obtain ⟨ar', t1, t2, t3⟩ := ih (i + 1) kf (l ++ [x]) ar2 _ k2 s5 (by omega) (by omega) (by omega)
    rw [last_snoc] at t1
    refine ⟨ar', ?_, ?_, (r3.tr k3).tr t3⟩
    · rw [brF (nI_ge (by omega) (by omega)), r1, obnd3_some]
      exact k1.trans t1
    · rw [adD, ← hx]; exact t2
theorem adM_loop {nf : Nat} {G : Geo} {p z M : Nat} {x2 x3 x4 x6 x7 : Int32} (hM : M < 2147483648) (hp : p + 32 ≤ 524288) (hnf : 6000 ≤ nf) : ∀ (m i kf : Nat) (l : List Nat) (fm : FI) (arm : AR) (d : Nat → Nat), RW fm arm G d → ADI G p z d l → m ≤ frC G d 2 G.k → i + m = M → m < kf → fm 31 = nI l.length → (∀ q, q < l.length → arm 29 q = nI (l.getD q 0)) → ∃ fm' arm', M_append_85 nf kf x2 x3 x4 (nI p) x6 x7 (nI M) (nI i) fm arm = M_append_195 nf nf x2 x3 x4 (nI p) x6 x7 0 fm' arm' ∧ RW fm' arm' G (adD G p m l d).2 ∧ (∀ q, q < (adD G p m l d).1.length → arm' 29 q = nI ((adD G p m l d).1.getD q 0)) ∧ offF [31] fm fm' ∧ offAs [1, 29] arm arm' := by
  intro m
  induction m with
  | zero =>
    intro i kf l fm arm d hW hA hf hi hk h31 h29
    obtain ⟨kf, rfl⟩ : ∃ k, kf = k + 1 := ⟨kf - 1, by omega⟩
    rw [show M_append_85 nf (kf + 1) = M_append_85b (M_append_85 nf kf) nf from rfl]
    unfold M_append_85b
    rw [brT (nI_le (by omega) (by omega))]
    exact ⟨fm, arm, rfl, hW, h29, offF.rf, offAs.rf⟩
  | succ m ih =>
    intro i kf l fm arm d hW hA hf hi hk h31 h29
    have hG := hW.2.2
    have b := hG.b
    have hlen := hA.clu.len
    obtain ⟨kf, rfl⟩ : ∃ k, kf = k + 1 := ⟨kf - 1, by omega⟩
    rw [show M_append_85 nf (kf + 1) = M_append_85b (M_append_85 nf kf) nf from rfl]
    unfold M_append_85b M_append_176
    obtain ⟨arm1, r1, r2, r3⟩ := take_ok (nf := nf) hW hA.1 (by omega) hnf
    obtain ⟨x, hx⟩ : ∃ x, x = low G d 2 G.k := ⟨_, rfl⟩
    obtain ⟨s1, s2, s3, s4, s5, s6, s7, s8, s9, s10⟩ := ad_step hG hA (by omega) hx
    rw [← hx] at r1 r2
    have hxk := s1.2
    obtain ⟨arm2, hr2⟩ : ∃ arm2, arm2 = va_up arm1 29 (upd (arm1 29) l.length (nI x)) := ⟨_, rfl⟩
    have o2 : offA 29 arm1 arm2 := fun j hj => by rw [hr2]; exact va_up_off hj
    have h29b : ∀ q, q < l.length + 1 → arm2 29 q = nI ((l ++ [x]).getD q 0) := fun q hq => by
      rw [hr2, va_up_self, getD_snoc hq]
      unfold upd
      by_cases c : q = l.length
      · rw [if_pos c, if_pos c]
      · rw [if_neg c, if_neg c, r3 29 (by decide)]; exact h29 q (by omega)
    have hW2 : RW fm arm2 G (tkD G d x) := r2.off (S := []) (T := [29]) offF.rf o2.as (by simp) (by simp)
    have key : ∃ arm3, br (fm 31 ≤ 0) (gd (¬ ((0 : Int32) < 0 ∨ 560 ≤ (0 : Int32).toNatClampNeg)) (obnd3 (M_set nf fm arm2 (nI p + 20) 2 (((arm2 29 (0 : Int32).toNatClampNeg) >>> ((16 : Int32) &&& 31)).toInt64)) fun r37 fi35 ar36 => gd (¬ ((0 : Int32) < 0 ∨ 560 ≤ (0 : Int32).toNatClampNeg)) (obnd3 (M_set nf fi35 ar36 (nI p + 26) 2 ((ar36 29 (0 : Int32).toNatClampNeg).toInt64)) fun r42 fi40 ar41 => bnd (va_up fi40 31 ((fi40 31) + 1)) fun fi23 => bnd (nI i + 1) fun x9_24 => M_append_85 nf kf x2 x3 x4 (nI p) x6 x7 (nI M) x9_24 fi23 ar41))) (gd (¬ (((fm 31) - 1) < 0 ∨ 560 ≤ ((fm 31) - 1).toNatClampNeg)) (gd (¬ ((fm 31) < 0 ∨ 560 ≤ (fm 31).toNatClampNeg)) (obnd3 (M_setEntry nf fm arm2 (arm2 29 ((fm 31) - 1).toNatClampNeg) (arm2 29 (fm 31).toNatClampNeg)) fun r48 fi46 ar47 => bnd (va_up fi46 31 ((fi46 31) + 1)) fun fi23 => bnd (nI i + 1) fun x9_24 => M_append_85 nf kf x2 x3 x4 (nI p) x6 x7 (nI M) x9_24 fi23 ar47))) = M_append_85 nf kf x2 x3 x4 (nI p) x6 x7 (nI M) (nI (i + 1)) (va_up fm 31 (nI (l.length + 1))) arm3 ∧ RW fm arm3 G (adS G p d l x) ∧ offA 1 arm2 arm3 := by
      unfold adS
      have e31 : fm 31 + (1 : Int32) = nI (l.length + 1) := by rw [h31]; exact nI_add _ 1
      by_cases c : l = []
      · rw [if_pos c]
        have h290 : arm2 29 (0 : Int32).toNatClampNeg = nI x := by
          have := h29b 0 (by omega)
          rw [c] at this
          exact this
        obtain ⟨arm3, u1, u2, u3⟩ := M_setI (nf := nf) (fi := fm) hW2.1 (p := p + 20) (n := 2) (nI (x / 2 ^ 16)) (by omega) (by omega) (by omega)
        obtain ⟨arm4, v1, v2, v3⟩ := M_setI (nf := nf) (fi := fm) u2 (p := p + 26) (n := 2) (nI x) (by omega) (by omega) (by omega)
        have h290' : arm3 29 (0 : Int32).toNatClampNeg = nI x := by rw [u3 29 (by decide)]; exact h290
        have u1' : M_set nf fm arm2 (nI (p + 20)) 2 ((nI (x / 2 ^ 16)).toInt64) = some ((), fm, arm3) := u1
        have v1' : M_set nf fm arm3 (nI (p + 26)) 2 ((nI x).toInt64) = some ((), fm, arm4) := v1
        refine ⟨arm4, ?_, ⟨?_, hW.2⟩, u3.tr v3⟩
        · rw [brT (by rw [h31, c]; decide), zgd0 (by omega), h290, pk_shrN (by omega) _ 16 (by decide), show nI p + (20 : Int32) = nI (p + 20) from nI_add p 20, u1', obnd3_some, zgd0 (by omega), h290', show nI p + (26 : Int32) = nI (p + 26) from nI_add p 26, v1', obnd3_some, bnd_eq, bnd_eq, e31, show nI i + (1 : Int32) = nI (i + 1) from nI_add i 1]
        · rw [uv_nI (by omega), uv_nI (by omega), show x / 2 ^ 16 = 0 by omega] at v2
          exact v2
      · rw [if_neg c]
        have hpos := List.length_pos_iff.mpr c
        have hm : l.getD (l.length - 1) 0 ∈ l := getD_mem (by omega)
        have hmC := hA.clu.2 _ hm
        have hm1 := hmC.1
        have hm2 := hmC.2
        obtain ⟨arm3, u1, u2, u3⟩ := setEntry_ok (nf := nf) hW2 (tk_facts hG hA.1 s1).1 (x := l.getD (l.length - 1) 0) (v := x) (by omega) (by omega) (by omega)
        have e1 : arm2 29 (l.length - 1) = nI (l.getD (l.length - 1) 0) := by rw [h29b _ (by omega), getD_snoc (by omega), if_neg (by omega)]
        have e2 : arm2 29 l.length = nI x := by rw [h29b _ (by omega), getD_snoc (by omega), if_pos rfl]
        refine ⟨arm3, ?_, u2, u3⟩
        rw [h31, brF (nI_nle hpos (by omega)), show nI l.length - (1 : Int32) = nI (l.length - 1) from nI_sub (b := 1) (by omega), zgd (by omega) (by omega), zgd (by omega) (by omega), nI_clamp (by omega), nI_clamp (by omega), e1, e2, u1, obnd3_some, bnd_eq, bnd_eq, e31, show nI i + (1 : Int32) = nI (i + 1) from nI_add i 1]
    obtain ⟨arm3, k1, k2, k3⟩ := key
    obtain ⟨fm', arm', t1, t2, t3, t4, t5⟩ := ih (i + 1) kf (l ++ [x]) (va_up fm 31 (nI (l.length + 1))) arm3 _ (k2.upF (by simp)) s5 (by omega) (by omega) (by omega) (by rw [va_up_self]; simp) (fun q hq => by rw [k3 29 (by decide)]; exact h29b q (by simp at hq; omega))
    have e : adD G p (m + 1) l d = adD G p m (l ++ [x]) (adS G p d l x) := by rw [adD, ← hx]
    refine ⟨fm', arm', ?_, by rw [e]; exact t2, by rw [e]; exact t3, (offF.rf.up (by simp)).tr t4, (((r3.as.mono (by simp)).tr (o2.as.mono (by simp))).tr (k3.as.mono (by simp))).tr t5⟩
    rw [brF (nI_ge (by omega) (by omega)), r1, obnd3_some, h31, zgd (by omega) (by omega), nI_clamp (by omega), bnd_eq, ← hr2]
    rw [h31, nI_clamp (show l.length < 2 ^ 31 by omega)] at k1
    exact k1.trans t1
