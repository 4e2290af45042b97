/-! format answers alike -/
def weD (f : Nat → Nat) (p a x : Nat) (d : Nat → Nat) : Nat → Nat := pfc (wr (wr (pb f p 0 11 (fil d p 32 0)) (p + 11) 1 a) (p + 24) 2 33) p x
theorem writeEntry_ok {nf : Nat} {ln : LN} {fi : FI} {ar : AR} {d : Nat → Nat} {p x : Nat} {a : Int32} {f : Nat → Nat} (hC : CD ln ar d) (hl : ln 40 = 11) (hp : p + 32 ≤ 4 * ln 0) (hx : x < 65536) (hf : ∀ i, i < 11 → uv (ar 40 i) % 256 = f i % 256) (hnf : 40 ≤ nf) : ∃ ar', FX10_writeEntry nf ln fi ar (nI p) a (nI x) = some ((), fi, ar') ∧ CD ln ar' (weD f p (uv a) x d) ∧ offA 0 ar ar' := by
  obtain ⟨ar1, r1, r2, r3⟩ := FX3_fill_ok (nf := nf) (fi := fi) hC (p := p) (n := 32) 0 (by omega) (by omega)
  have r1' : FX3_fill nf ln fi ar (nI p) 32 0 = some ((), fi, ar1) := r1
  obtain ⟨ar2, s1, s2, s3⟩ := store_ok (nf := nf) (fi := fi) (i0 := 0) (p := p) (f := f) r2 hl (by omega) (fun i hi => by rw [r3 (40 + 2 * 0) (by decide)]; exact hf i hi) (by omega)
  obtain ⟨ar3, t1, t2, t3⟩ := FX3_putOne_ok (nf := nf) (fi := fi) s2 (p := p + 11) a (by omega)
  obtain ⟨ar4, u1, u2, u3⟩ := FX3_putTwo_ok (nf := nf) (fi := fi) t2 (p := p + 24) 33 (by omega)
  obtain ⟨ar5, v1, v2, v3⟩ := FX3_putFirstCluster_ok (nf := nf) (fi := fi) u2 (p := p) (x := x) hx (by omega)
  refine ⟨ar5, ?_, v2, (((r3.tr s3).tr t3).tr u3).tr v3⟩
  unfold FX10_writeEntry
  rw [r1', obnd3_some, s1, obnd3_some, show nI p + (11 : Int32) = nI (p + 11) from nI_add p 11, t1, obnd3_some, show nI p + (24 : Int32) = nI (p + 24) from nI_add p 24, u1, obnd3_some, v1, obnd3_some]
theorem weD_zero {f : Nat → Nat} {p : Nat} {d : Nat → Nat} (h : ∀ q, p ≤ q → q < p + 32 → d q = 0) : weD f p 8 0 d = laD f p d := by
  have e1 : fil d p 32 0 = d := funext fun q => by
    unfold fil
    by_cases c : p ≤ q ∧ q < p + 32
    · rw [if_pos c, h q c.1 c.2]
    · rw [if_neg c]
  unfold weD laD
  rw [e1]
  have z : ∀ i, 20 ≤ i → i < 32 → i ≠ 24 → i ≠ 25 → wr (wr (pb f p 0 11 d) (p + 11) 1 8) (p + 24) 2 33 (p + i) = 0 := fun i h1 h2 h3 h4 => by
    rw [wr_out (by omega), wr_out (by omega), pb_out _ _ _ (by omega), h _ (by omega) (by omega)]
  unfold pfc
  rw [wr_same (z 20 (by omega) (by omega) (by omega) (by omega)) (z 21 (by omega) (by omega) (by omega) (by omega)), wr_same (z 26 (by omega) (by omega) (by omega) (by omega)) (z 27 (by omega) (by omega) (by omega) (by omega))]
theorem fm_no {nf : Nat} {fm : FI} {arm : AR} (x1 x2 x3 x4 x5 : Int32) (h5 : fm 5 = 0) (hnf : 9 ≤ nf) : M_format_124 nf x1 x2 x3 x4 x5 0 fm arm = some (0, va_up fm 5 1, arm) := by
  have f1 : M_fails nf fm arm 1 1 = _ := fails_eq (nf := nf) (ar := arm) h5 (t := 1) (by decide) 1 (by decide)
  rw [if_neg (by decide), if_neg (by decide)] at f1
  obtain ⟨k, rfl⟩ : ∃ k, nf = k + 1 := ⟨nf - 1, by omega⟩
  unfold M_format_124
  rw [show M_format_127 (k + 1) (k + 1) = M_format_127b (M_format_127 (k + 1) k) (k + 1) from rfl]
  unfold M_format_127b M_format_186 M_format_199 M_format_204
  rw [brT rfl, brT rfl, f1, obnd3_some, brF (show ¬ (1 : Int32) = 0 by decide)]
  rfl
theorem fm_lab {nf : Nat} {fm : FI} {ar arm : AR} {x1 x2 x3 x4 : Int32} {T : Nat} (hT : T ≤ 11) (ht : ∀ j, j < 4096 → ar 1 j = arm 2 j) (hnf : 40 ≤ nf) : ∀ (m j kf : Nat), j + m = T → m + 1 < kf → (∀ i, i < j → labK ar i) → ∃ w : Int32, ((w = 1 ∧ ∀ i, i < T → labK ar i) ∨ (w = 0 ∧ ¬ ∀ i, i < T → labK ar i)) ∧ M_format_71 nf kf x1 x2 x3 x4 (nI T) 1 (nI j) fm arm = M_format_124 nf x1 x2 x3 x4 (nI T) w fm arm := by
  have bad : ∀ j kf, 0 < kf → M_format_71 nf kf x1 x2 x3 x4 (nI T) 0 (nI j) fm arm = M_format_124 nf x1 x2 x3 x4 (nI T) 0 fm arm := fun j kf hk => by
    obtain ⟨kf, rfl⟩ : ∃ k, kf = k + 1 := ⟨kf - 1, by omega⟩
    rw [show M_format_71 nf (kf + 1) = M_format_71b (M_format_71 nf kf) nf from rfl]
    unfold M_format_71b
    by_cases c : nI T ≤ nI j
    · rw [brT c]
    · rw [brF c, brT rfl]
  intro m
  induction m with
  | zero =>
    intro j kf hj hk h0
    obtain ⟨kf, rfl⟩ : ∃ k, kf = k + 1 := ⟨kf - 1, by omega⟩
    refine ⟨1, Or.inl ⟨rfl, fun i hi => h0 i (by omega)⟩, ?_⟩
    rw [show M_format_71 nf (kf + 1) = M_format_71b (M_format_71 nf kf) nf from rfl]
    unfold M_format_71b
    rw [brT (nI_le (by omega) (by omega))]
  | succ m ih =>
    intro j kf hj hk h0
    have hb := tby_lt (ar := ar) (j := j)
    obtain ⟨kf, rfl⟩ : ∃ k, kf = k + 1 := ⟨kf - 1, by omega⟩
    rw [show M_format_71 nf (kf + 1) = M_format_71b (M_format_71 nf kf) nf from rfl]
    unfold M_format_71b M_format_116
    have htk : M_taken nf fm arm (nI j) = some (nI (tby ar j), fm, arm) := by
      unfold M_taken
      rw [zgd (by omega) (by omega), nI_clamp (by omega), ← ht j (by omega)]
      have : ar 1 j &&& (255 : Int32) = nI (uv (ar 1 j) % 2 ^ 8) := pk_and _ 8 (by decide)
      rw [this]; rfl
    rw [brF (nI_ge (by omega) (by omega)), brF (show ¬ (1 : Int32) = 0 by decide), htk, obnd3_some]
    have ok : labK ar j → ∃ w : Int32, ((w = 1 ∧ ∀ i, i < T → labK ar i) ∨ (w = 0 ∧ ¬ ∀ i, i < T → labK ar i)) ∧ M_format_71 nf kf x1 x2 x3 x4 (nI T) 1 (nI (j + 1)) fm arm = M_format_124 nf x1 x2 x3 x4 (nI T) w fm arm := fun hk2 => ih (j + 1) kf (by omega) (by omega) (fun i hi => by
      by_cases e : i = j
      · rw [e]; exact hk2
      · exact h0 i (by omega))
    have hj1 : nI j + (1 : Int32) = nI (j + 1) := nI_add j 1
    by_cases c : tby ar j = 32
    · rw [brT (show nI (tby ar j) = 32 by rw [c]; rfl)]
      by_cases c2 : j = 0
      · rw [brT (show nI j ≤ 0 by rw [c2]; decide), bnd_eq, hj1, bad (j + 1) kf (by omega)]
        refine ⟨0, Or.inr ⟨rfl, fun w => ?_⟩, rfl⟩
        rcases w j (by omega) with q | q
        · exact q.2 c2
        · exact q.1 c
      · rw [brF (nI_nle (by omega) (by omega)), bnd_eq, hj1]
        exact ok (Or.inl ⟨c, c2⟩)
    · rw [brF (show ¬ nI (tby ar j) = (32 : Int32) from fun w => c ((nI_eq (b := 32) (by omega) (by omega)).mp w)), htk, obnd3_some, M_isShortSign_eq (by omega) (by omega), obnd_some, bnd_eq, hj1]
      by_cases c2 : sgn (tby ar j)
      · rw [if_pos c2]
        exact ok (Or.inr ⟨c, c2⟩)
      · rw [if_neg c2, bad (j + 1) kf (by omega)]
        refine ⟨0, Or.inr ⟨rfl, fun w => ?_⟩, rfl⟩
        rcases w j (by omega) with q | q
        · exact c q.1
        · exact c2 q.2
theorem fm_tab {nf : Nat} {fm : FI} {arm : AR} {n c v y : Nat} {x4 x5 : Int32} (hn : fm 0 = nI n) (h1 : 256 ≤ n) (h2 : n ≤ 1024) (hc : c = 2 ∨ c = 4 ∨ c = 8) (hv : 8 ≤ v ∧ v ≤ 64) (hy : y = 1 ∨ y = 2) : ∀ (m z kf : Nat), z + m = 33 → 1 ≤ z → m < kf → M_format_127 nf kf (nI c) (nI v) (nI y) x4 x5 1 (nI z) fm arm = M_format_186 nf (nI c) (nI v) (nI y) x4 x5 1 (nI (if lz n c v y z m = 0 then 33 else lz n c v y z m)) fm arm := by
  intro m
  induction m with
  | zero =>
    intro z kf hz h1z hk
    obtain ⟨kf, rfl⟩ : ∃ k, kf = k + 1 := ⟨kf - 1, by omega⟩
    rw [show M_format_127 nf (kf + 1) = M_format_127b (M_format_127 nf kf) nf from rfl]
    unfold M_format_127b
    rw [brF (show ¬ (1 : Int32) = 0 by decide), brT (show (33 : Int32) ≤ nI z from nI_le (a := 33) (by omega) (by omega)), lz, if_pos rfl, show z = 33 by omega]
  | succ m ih =>
    intro z kf hz h1z hk
    have hyz : y * z ≤ 64 := by rcases hy with w | w <;> rw [w] <;> omega
    have hcp : 0 < c := by omega
    have hkk : 4 ≤ (n - (v + y * z)) / c := (Nat.le_div_iff_mul_le hcp).mpr (by omega)
    have hkl : (n - (v + y * z)) / c ≤ 1024 := Nat.le_trans (Nat.div_le_self _ _) (by omega)
    obtain ⟨kf, rfl⟩ : ∃ k, kf = k + 1 := ⟨kf - 1, by omega⟩
    rw [show M_format_127 nf (kf + 1) = M_format_127b (M_format_127 nf kf) nf from rfl]
    unfold M_format_127b M_format_180
    have e0 : ¬ nI c = 0 := nI_ne0 hcp (by omega)
    have e1 : ((fm 0 - nI v) - nI y * nI z) / nI c = nI ((n - (v + y * z)) / c) := by
      rw [hn, nI_sub (by omega), pk_mul, nI_sub (by omega), pk_div (by omega) hcp (by omega), Nat.sub_sub]
    have e2 : (128 : Int32) * nI z = nI (128 * z) := pk_mul 128 z
    rw [brF (show ¬ (1 : Int32) = 0 by decide), brF (show ¬ (33 : Int32) ≤ nI z from nI_ge (b := 33) (by omega) (by omega)), gdT e0, e1, brF (show ¬ nI ((n - (v + y * z)) / c) < (4 : Int32) from nI_nlt (b := 4) hkk (by omega)), gdT e0, e2, show nI ((n - (v + y * z)) / c) + (2 : Int32) = nI ((n - (v + y * z)) / c + 2) from nI_add _ 2, lz]
    by_cases g : geoOK n c v y z
    · rw [brT (nI_le g.2.2.2.2 (by omega)), if_pos g, if_neg (by omega)]
    · have g2 : ¬ (n - (v + y * z)) / c + 2 ≤ 128 * z := fun w => g ⟨hc, hv, hy, ⟨h1z, by omega⟩, w⟩
      rw [brF (nI_ge (by omega) (by omega)), if_neg g, bnd_eq, show nI z + (1 : Int32) = nI (z + 1) from nI_add z 1]
      exact ih (z + 1) kf (by omega) (by omega) (by omega)
theorem lz_none {n c v y : Nat} (h : ¬ ((c = 2 ∨ c = 4 ∨ c = 8) ∧ (8 ≤ v ∧ v ≤ 64) ∧ (y = 1 ∨ y = 2))) : ∀ m z, lz n c v y z m = 0
  | 0, _ => rfl
  | m + 1, z => by rw [lz, if_neg (fun g => h ⟨g.1, g.2.1, g.2.2.1⟩)]; exact lz_none h m (z + 1)
theorem fm_ok {nf n T : Nat} {fm : FI} {ar arm : AR} (x1 x2 x3 x4 : Int32) (hn : fm 0 = nI n) (h1 : 256 ≤ n) (h2 : n ≤ 1024) (h4 : fm 4 = nI T) (hT : T ≤ 4096) (ht : ∀ j, j < 4096 → ar 1 j = arm 2 j) (hnf : 100 ≤ nf) : (lz n (uv x1) (uv x2) (uv x3) 1 32 ≠ 0 ∧ T ≤ 11 ∧ (∀ i, i < T → labK ar i) ∧ M_format nf fm arm x1 x2 x3 x4 = M_format_216 nf nf x1 x2 x3 x4 (nI T) (nI (lz n (uv x1) (uv x2) (uv x3) 1 32)) 0 (va_up (va_up fm 5 0) 4 0) arm) ∨ (¬ (lz n (uv x1) (uv x2) (uv x3) 1 32 ≠ 0 ∧ T ≤ 11 ∧ ∀ i, i < T → labK ar i) ∧ M_format nf fm arm x1 x2 x3 x4 = some (0, va_up (va_up (va_up fm 5 0) 4 0) 5 1, arm)) := by
  obtain ⟨fA, hfA⟩ : ∃ fA, fA = va_up (va_up fm 5 0) 4 0 := ⟨_, rfl⟩
  have hA5 : fA 5 = 0 := by rw [hfA, va_up_off (by decide), va_up_self]
  have hA0 : fA 0 = nI n := by rw [hfA, va_up_off (by decide), va_up_off (by decide)]; exact hn
  have hbad : M_format_65 nf x1 x2 x3 x4 (nI T) fA arm = some (0, va_up fA 5 1, arm) := by
    unfold M_format_65 M_format_66
    obtain ⟨k, hk⟩ : ∃ k, nf = k + 1 := ⟨nf - 1, by omega⟩
    have : M_format_71 nf nf x1 x2 x3 x4 (nI T) 0 0 fA arm = M_format_124 nf x1 x2 x3 x4 (nI T) 0 fA arm := by
      rw [hk, show M_format_71 (k + 1) (k + 1) = M_format_71b (M_format_71 (k + 1) k) (k + 1) from rfl]
      unfold M_format_71b
      by_cases c : nI T ≤ 0
      · rw [brT c]
      · rw [brF c, brT rfl]
    rw [this]; exact fm_no _ _ _ _ _ hA5 (by omega)
  have hunf : M_format nf fm arm x1 x2 x3 x4 = br (x1 = 2) (M_format_32 nf x1 x2 x3 x4 (nI T) fA arm) (br (x1 = 4) (M_format_32 nf x1 x2 x3 x4 (nI T) fA arm) (br (x1 = 8) (M_format_32 nf x1 x2 x3 x4 (nI T) fA arm) (M_format_65 nf x1 x2 x3 x4 (nI T) fA arm))) := by
    unfold M_format
    rw [bnd_eq, bnd_eq, bnd_eq, va_up_off (by decide), h4, ← hfA]
  have t2 := tI x2
  have c8 : (8 : Int32).toInt = 8 := by decide
  have c64 : (64 : Int32).toInt = 64 := by decide
  have hP : (((uv x1 = 2 ∨ uv x1 = 4 ∨ uv x1 = 8) ∧ (8 ≤ uv x2 ∧ uv x2 ≤ 64) ∧ (uv x3 = 1 ∨ uv x3 = 2)) ∧ M_format nf fm arm x1 x2 x3 x4 = M_format_54 nf x1 x2 x3 x4 (nI T) fA arm) ∨ (¬ ((uv x1 = 2 ∨ uv x1 = 4 ∨ uv x1 = 8) ∧ (8 ≤ uv x2 ∧ uv x2 ≤ 64) ∧ (uv x3 = 1 ∨ uv x3 = 2)) ∧ M_format nf fm arm x1 x2 x3 x4 = M_format_65 nf x1 x2 x3 x4 (nI T) fA arm) := by
    have u2 : ∀ x : Int32, x = 2 ↔ uv x = 2 := fun x => eqU (y := 2)
    have u4 : ∀ x : Int32, x = 4 ↔ uv x = 4 := fun x => eqU (y := 4)
    have u8 : ∀ x : Int32, x = 8 ↔ uv x = 8 := fun x => eqU (y := 8)
    have u1 : ∀ x : Int32, x = 1 ↔ uv x = 1 := fun x => eqU (y := 1)
    have key : (((8 ≤ uv x2 ∧ uv x2 ≤ 64) ∧ (uv x3 = 1 ∨ uv x3 = 2)) ∧ M_format_32 nf x1 x2 x3 x4 (nI T) fA arm = M_format_54 nf x1 x2 x3 x4 (nI T) fA arm) ∨ (¬ ((8 ≤ uv x2 ∧ uv x2 ≤ 64) ∧ (uv x3 = 1 ∨ uv x3 = 2)) ∧ M_format_32 nf x1 x2 x3 x4 (nI T) fA arm = M_format_65 nf x1 x2 x3 x4 (nI T) fA arm) := by
      unfold M_format_32
      by_cases q1 : x2 < 8
      · rw [brT q1]
        rw [ltI, c8] at q1
        exact Or.inr ⟨fun w => by omega, rfl⟩
      · rw [brF q1]
        rw [ltI, c8] at q1
        by_cases q2 : 64 < x2
        · rw [brT q2]
          rw [ltI, c64] at q2
          exact Or.inr ⟨fun w => by omega, rfl⟩
        · rw [brF q2]
          rw [ltI, c64] at q2
          have hv : 8 ≤ uv x2 ∧ uv x2 ≤ 64 := by omega
          by_cases q3 : x3 = 1
          · rw [brT q3]; exact Or.inl ⟨⟨hv, Or.inl ((u1 _).mp q3)⟩, rfl⟩
          · rw [brF q3]
            by_cases q4 : x3 = 2
            · rw [brT q4]; exact Or.inl ⟨⟨hv, Or.inr ((u2 _).mp q4)⟩, rfl⟩
            · rw [brF q4]
              exact Or.inr ⟨fun w => w.2.elim (fun z => q3 ((u1 _).mpr z)) (fun z => q4 ((u2 _).mpr z)), rfl⟩
    have fin : (uv x1 = 2 ∨ uv x1 = 4 ∨ uv x1 = 8) → M_format nf fm arm x1 x2 x3 x4 = M_format_32 nf x1 x2 x3 x4 (nI T) fA arm → (((uv x1 = 2 ∨ uv x1 = 4 ∨ uv x1 = 8) ∧ (8 ≤ uv x2 ∧ uv x2 ≤ 64) ∧ (uv x3 = 1 ∨ uv x3 = 2)) ∧ M_format nf fm arm x1 x2 x3 x4 = M_format_54 nf x1 x2 x3 x4 (nI T) fA arm) ∨ (¬ ((uv x1 = 2 ∨ uv x1 = 4 ∨ uv x1 = 8) ∧ (8 ≤ uv x2 ∧ uv x2 ≤ 64) ∧ (uv x3 = 1 ∨ uv x3 = 2)) ∧ M_format nf fm arm x1 x2 x3 x4 = M_format_65 nf x1 x2 x3 x4 (nI T) fA arm) := fun hc he => by
      rcases key with ⟨k1, k2⟩ | ⟨k1, k2⟩
      · exact Or.inl ⟨⟨hc, k1⟩, he.trans k2⟩
      · exact Or.inr ⟨fun w => k1 w.2, he.trans k2⟩
    by_cases q1 : x1 = 2
    · exact fin (Or.inl ((u2 _).mp q1)) (by rw [hunf, brT q1])
    · by_cases q2 : x1 = 4
      · exact fin (Or.inr (Or.inl ((u4 _).mp q2))) (by rw [hunf, brF q1, brT q2])
      · by_cases q3 : x1 = 8
        · exact fin (Or.inr (Or.inr ((u8 _).mp q3))) (by rw [hunf, brF q1, brF q2, brT q3])
        · exact Or.inr ⟨fun w => w.1.elim (fun z => q1 ((u2 _).mpr z)) (fun z => z.elim (fun z => q2 ((u4 _).mpr z)) (fun z => q3 ((u8 _).mpr z))), by rw [hunf, brF q1, brF q2, brF q3]⟩
  rw [← hfA]
  rcases hP with ⟨⟨p1, p2, p3⟩, hM⟩ | ⟨hp, hM⟩
  · rw [hM]
    unfold M_format_54
    by_cases cT : 11 < T
    · rw [brT (show (11 : Int32) < nI T from nI_lt (a := 11) cT (by omega)), hbad]
      exact Or.inr ⟨fun w => by omega, rfl⟩
    · rw [brF (show ¬ (11 : Int32) < nI T from nI_nlt (a := 11) (by omega) (by omega))]
      unfold M_format_66
      obtain ⟨w, hw, he⟩ := fm_lab (nf := nf) (fm := fA) (ar := ar) (arm := arm) (x1 := x1) (x2 := x2) (x3 := x3) (x4 := x4) (T := T) (by omega) ht (by omega) T 0 nf (by omega) (by omega) (fun i hi => absurd hi (by omega))
      have he' : M_format_71 nf nf x1 x2 x3 x4 (nI T) 1 0 fA arm = M_format_124 nf x1 x2 x3 x4 (nI T) w fA arm := he
      rw [he']
      rcases hw with ⟨rfl, hw⟩ | ⟨rfl, hw⟩
      · unfold M_format_124
        have ht2 := fm_tab (nf := nf) (arm := arm) (x4 := x4) (x5 := nI T) hA0 h1 h2 p1 p2 p3 32 1 nf (by omega) (by omega) (by omega)
        rw [nI_uv, nI_uv, nI_uv] at ht2
        have ht3 : M_format_127 nf nf x1 x2 x3 x4 (nI T) 1 1 fA arm = _ := ht2
        rw [ht3]
        unfold M_format_186
        rw [brF (show ¬ (1 : Int32) = 0 by decide)]
        by_cases z : lz n (uv x1) (uv x2) (uv x3) 1 32 = 0
        · rw [if_pos z, brF (show ¬ nI 33 ≤ (32 : Int32) by decide)]
          unfold M_format_199 M_format_204
          have f1 : M_fails nf fA arm 1 1 = _ := fails_eq (nf := nf) (ar := arm) hA5 (t := 1) (by decide) 1 (by decide)
          rw [if_neg (by decide), if_neg (by decide)] at f1
          rw [f1, obnd3_some, brF (show ¬ (1 : Int32) = 0 by decide)]
          exact Or.inr ⟨fun q => q.1 z, rfl⟩
        · have hz := (lz_ok (n := n) (c := uv x1) (v := uv x2) (y := uv x3) 32 1).resolve_left z
          rw [if_neg z, brT (show nI (lz n (uv x1) (uv x2) (uv x3) 1 32) ≤ (32 : Int32) from nI_le (b := 32) hz.2.2.2.1.2 (by omega))]
          unfold M_format_204
          have f0 : M_fails nf fA arm 0 1 = _ := fails_eq (nf := nf) (ar := arm) hA5 (t := 0) (by decide) 1 (by decide)
          rw [if_pos rfl, if_pos rfl] at f0
          rw [f0, obnd3_some, brT rfl]
          exact Or.inl ⟨z, by omega, hw, rfl⟩
      · rw [fm_no _ _ _ _ _ hA5 (by omega)]
        exact Or.inr ⟨fun q => hw q.2.2, rfl⟩
  · rw [hM, hbad]
    exact Or.inr ⟨fun w => w.1 (lz_none hp 32 1), rfl⟩
theorem format_alike {nf n h T : Nat} {ln : LN} {fi fm : FI} {ar arm : AR} {d : Nat → Nat} (hV0 : VOL n ln fi ar fm arm d h) (hT0 : TAP fi ar fm arm T) (x1 x2 x3 x4 : Int32) (hnf : 600000 ≤ nf) : ∃ v r d' h' fi' ar' kc ks fm' arm', FX10_format nf fi ar ln x1 x2 x3 x4 = some (r, fi', ar', ln, kc, ks) ∧ M_format nf fm arm x1 x2 x3 x4 = some (v, fm', arm') ∧ ((r = Sum.inr 2 ∧ fm' 5 = 1) ∨ (r = Sum.inl v ∧ fm' 5 = 0)) ∧ VOL n ln fi' ar' fm' arm' d' h' ∧ CST ln ln kc ks 1 6 ∧ TAP fi' ar' fm' arm' 0 := by
  obtain ⟨T1, T2, T3, T4, T5⟩ := hT0
  have hn := hV0.1
  have hfm0 : fm 0 = nI n := hV0.2.2.2.2.2.1
  have hfi2 : fi 2 = nI n := hV0.2.2.2.2.1
  have hLC : LNC ln n := hV0.2.2.2.2.2.2.1
  have hl0 : ln 0 = 128 * n := hLC.1
  have hl1 : ln 1 = 4096 := hLC.2.1
  have hl40 : ln 40 = 11 := (hLC.2.2.2.2.2.2.2.2 0 (by omega)).1
  have hC := hV0.2.2.2.1
  have hVt : VOL n ln (va_up fi 3 0) ar (va_up (va_up fm 5 0) 4 0) arm d h := hV0.upM.taken
  obtain ⟨fA, hfA⟩ : ∃ fA, fA = va_up (va_up fm 5 0) 4 0 := ⟨_, rfl⟩
  obtain ⟨fC, hfC⟩ : ∃ fC, fC = va_up fi 3 0 := ⟨_, rfl⟩
  have hM := fm_ok (nf := nf) x1 x2 x3 x4 hfm0 hn.1 hn.2 T3 T1 T4 (by omega)
  rw [← hfA] at hVt hM
  rw [← hfC] at hVt
  have hC2 : fC 2 = nI n := by rw [hfC, va_up_off (by decide)]; exact hfi2
  have hTA : TAP fC ar fA arm 0 := ⟨by omega, by rw [hfC, va_up_self]; rfl, by rw [hfA, va_up_self]; rfl, T4, by
    rw [hfA, va_up_off (by decide), va_up_off (by decide)]; exact T5⟩
  have cst : ∀ k s, k ≤ 1 → s ≤ 6 → CST ln ln k s 1 6 := fun k s hk hs => ⟨Nat.le_refl _, by omega, by omega⟩
  have bad : ∀ ar', offA 40 ar ar' → some ((Sum.inr 2 : Int32 ⊕ Nat), fC, ar', ln, 1, 6) = some (Sum.inr 2, fC, ar', ln, 1, 6) → M_format nf fm arm x1 x2 x3 x4 = some (0, va_up fA 5 1, arm) → ∃ v r d' h' fi' ar'' kc ks fm' arm', some ((Sum.inr 2 : Int32 ⊕ Nat), fC, ar', ln, 1, 6) = some (r, fi', ar'', ln, kc, ks) ∧ M_format nf fm arm x1 x2 x3 x4 = some (v, fm', arm') ∧ ((r = Sum.inr 2 ∧ fm' 5 = 1) ∨ (r = Sum.inl v ∧ fm' 5 = 0)) ∧ VOL n ln fi' ar'' fm' arm' d' h' ∧ CST ln ln kc ks 1 6 ∧ TAP fi' ar'' fm' arm' 0 := fun ar' ho _ hm => by
    refine ⟨_, _, d, h, fC, ar', 1, 6, _, arm, rfl, hm, Or.inl ⟨rfl, va_up_self _ _ _⟩, ?_, cst 1 6 (by omega) (by omega), ?_⟩
    · have h1 : VOL n ln fC ar' fA arm d h := hVt.offC (S := []) (T := [40]) offF.rf ho.as (by simp) (by simp) hLC hV0.2.2.2.2.2.2.2.1 hVt.2.2.2.2.2.2.2.2.2.2.2.1
      exact h1.upM
    · exact hTA.off (S1 := []) (S2 := [5]) (T1 := [40]) (T2 := []) offF.rf ho.as (offF.rf.up (by simp)) offAs.rf (by simp) (by simp) (by simp) (by simp)
  unfold FX10_format FX8_take FX10_format_42
  rw [bnd_eq, bnd_eq, obnd3_some, T2, ← hfC, leastTable_eq hC2 hn.1 hn.2 x1 x2 x3 (by omega), obnd3_some]
  by_cases z : lz n (uv x1) (uv x2) (uv x3) 1 32 = 0
  · rw [brT (show nI (lz n (uv x1) (uv x2) (uv x3) 1 32) = 0 by rw [z]; rfl)]
    rcases hM with ⟨w, _⟩ | ⟨_, hM⟩
    · exact absurd z w
    · exact bad ar offA.rf rfl hM
  · have hg := (lz_ok (n := n) (c := uv x1) (v := uv x2) (y := uv x3) 32 1).resolve_left z
    obtain ⟨r, ar1, y1, y2, y3⟩ := readLabel_ok (nf := nf) (fi := fC) (ar := ar) T1 hl1 hl40 (by omega)
    rw [brF (nI_ne0 (by omega) (by have := hg.2.2.2.1; omega)), y1, obnd3_some]
    rcases y3 with ⟨rfl, k1, k2, k3⟩ | ⟨rfl, k1⟩
    · rcases hM with ⟨_, _, _, hM⟩ | ⟨w, _⟩
      · obtain ⟨c, hc⟩ : ∃ c, c = uv x1 := ⟨_, rfl⟩
        obtain ⟨v, hv⟩ : ∃ v, v = uv x2 := ⟨_, rfl⟩
        obtain ⟨y, hy⟩ : ∃ y, y = uv x3 := ⟨_, rfl⟩
        obtain ⟨Z, hZ⟩ : ∃ Z, Z = lz n (uv x1) (uv x2) (uv x3) 1 32 := ⟨_, rfl⟩
        have ex1 : x1 = nI c := by rw [hc, nI_uv]
        have ex2 : x2 = nI v := by rw [hv, nI_uv]
        have ex3 : x3 = nI y := by rw [hy, nI_uv]
        rw [← hZ] at hg hM ⊢
        rw [← hc, ← hv, ← hy] at hg
        clear hc hv hy hZ z
        subst ex1 ex2 ex3
        obtain ⟨hd1, hd2, hd3⟩ := hd_ok (x := x4) hn.1 hn.2 hg
        obtain ⟨hf1, hf2, hf3⟩ := hd_facts (n := n) (c := c) (v := v) (y := y) (z := Z) (x := x4)
        have b := hd3.b
        have hwC : CD ln (va_up ar1 0 (fillN (ar1 0) 0 (ln 0))) (fun _ => 0) := ⟨hC.1, fun p hp => by
          unfold cb
          rw [va_up_self, fillN_eq, if_pos (by omega)]
          show 0 / _ % 256 = 0
          rw [Nat.zero_div]⟩
        obtain ⟨fi2, ar2, l1, l2, l3, l4⟩ := layC (nf := nf) (x := x4) hwC hC2 hl0 hn.1 hn.2 hg (by omega)
        have o2 : offAs [0, 40] ar ar2 := ((y2.as.mono (by simp)).up (by simp)).tr (l4.as.mono (by simp))
        have a40 : ∀ i, i < 11 → ar2 40 i = nI (labB ar T i) := fun i hi => by
          rw [l4 40 (by decide), va_up_off (by decide)]; exact k3 i hi
        have hlb : ∀ i, labB ar T i < 256 := fun i => by unfold labB; split; exact tby_lt; omega
        obtain ⟨fm2, arm2, m1, m2, m3, m4, m5, m6⟩ := layM (nf := nf) (x := x4) (fm := fA) (arm0 := arm) (f := labB ar T) (by rw [hfA, va_up_off (by decide), va_up_off (by decide)]; exact hfm0) hn.1 hn.2 hg k1 (fun i hi => by
          unfold labB
          by_cases e : i < T
          · rw [if_pos e, if_pos e]
            unfold tby
            rw [T4 i (by omega), Nat.mod_mod]
          · rw [if_neg e, if_neg e]) hnf
        unfold FX3_wipe FX10_format_99 FX10_forgetState
        rw [brF (show ¬ (1 : Int32) = 0 by decide), gdT (by omega), bnd_eq, obnd3_some, l1, obnd3_some, hM, m1]
        obtain ⟨G, hGe⟩ : ∃ G : Geo, G = (n, c, v, y, Z, 2) := ⟨_, rfl⟩
        rw [← hGe] at l2 m2 hd3 b ⊢
        have g4 : fi2 4 = nI 2 := by rw [l2.2.1.2.1, hGe]
        have g5 : fi2 5 = nI G.k := l2.2.1.2.2.1
        have h8 : fm2 5 = 0 := by rw [m5 5 (by simp), hfA, va_up_off (by decide), va_up_self]
        have hbt : ∀ q, tbD G (hdE n c v y Z x4) q < 256 := stE_lt (stE_lt (stE_lt hf1 _ _) _ _) _ _
        have fin : ∀ (fi3 : FI) (ar3 : AR) (dF : Nat → Nat), offF [] fi2 fi3 → offAs [0] ar2 ar3 → CD ln ar3 dF → RD arm2 dF → (∀ q, dF q < 256) → VOL n ln (va_up (va_up fi3 0 0) 1 (-1)) ar3 fm2 arm2 dF 0 ∧ TAP (va_up (va_up fi3 0 0) 1 (-1)) ar3 fm2 arm2 0 := fun fi3 ar3 dF q1 q2 q3 q4 q5 => by
          have e2 : fi3 2 = nI n := by rw [q1 2 (by simp), l3 2 (by simp)]; exact hC2
          refine ⟨⟨hn, q5, q4, q3, by rw [va_up_off (by decide), va_up_off (by decide)]; exact e2, by rw [m5 0 (by simp), hfA, va_up_off (by decide), va_up_off (by decide)]; exact hfm0, hLC, hV0.2.2.2.2.2.2.2.1, by rw [va_up_off (by decide), va_up_self]; rfl, by rw [m3]; rfl, by omega, Or.inl (va_up_self _ _ _), Or.inl m4, fun w => absurd rfl w⟩, ?_⟩
          exact hTA.off (S1 := [0, 1, 4, 5, 6, 7, 8, 9, 10]) (T1 := [0, 40]) (S2 := [7, 8, 9, 10, 11, 12, 13, 14, 15]) (T2 := [1]) ((((l3.mono (by simp)).tr (q1.mono (by simp))).up (by simp)).up (by simp)) (o2.tr (q2.mono (by simp))) m5 m6.as (by simp) (by simp) (by simp) (by simp)
        by_cases c0 : T = 0
        · rw [if_pos c0] at m2
          rw [brT (show nI T ≤ 0 by rw [c0]; decide), bnd_eq, bnd_eq, obnd3_some, va_up_off (by decide), va_up_off (by decide), g5]
          obtain ⟨w1, w2⟩ := fin fi2 ar2 _ offF.rf offAs.rf l2.1 m2 hbt
          exact ⟨_, _, _, 0, _, ar2, _, _, fm2, arm2, rfl, rfl, Or.inr ⟨rfl, h8⟩, w1, cst 0 0 (by omega) (by omega), w2⟩
        · rw [if_neg c0] at m2
          have hpl := pl_in hd3 (x := 2) ⟨Nat.le_refl 2, by omega⟩
          have hnG : G.n = n := by rw [hGe]
          obtain ⟨ar3, v1, v2, v3⟩ := writeEntry_ok (nf := nf) (fi := fi2) (p := pl G 2) (x := 0) (a := 8) (f := labB ar T) l2.1 hl40 (by omega) (by omega) (fun i hi => by rw [a40 i hi, uv_nI (by have := hlb i; omega)]) (by omega)
          have v1' : FX10_writeEntry nf ln fi2 ar2 (nI (pl G 2)) 8 0 = some ((), fi2, ar3) := v1
          have hz0 : ∀ q, pl G 2 ≤ q → q < pl G 2 + 32 → tbD G (hdE n c v y Z x4) q = 0 := fun q q1 q2 => by
            have hga : 4096 ≤ 512 * G.a := by have := hd3.t (x := 0) (by omega); omega
            unfold tbD
            rw [stE_out hd3 (by omega) (Or.inr (by omega)), stE_out hd3 (by omega) (Or.inr (by omega)), stE_out hd3 (by omega) (Or.inr (by omega)), hf3 q (by omega)]
          rw [show uv (8 : Int32) = 8 from rfl, weD_zero hz0] at v2
          have hla : ∀ q, laD (labB ar T) (pl G 2) (tbD G (hdE n c v y Z x4)) q < 256 := wr_lt (wr_lt (pb_lt _ _ _ hbt) _ _ _) _ _ _
          rw [brF (nI_nle (by omega) (by omega)), g4, addressOf_eq l2 (x := 2) ⟨Nat.le_refl 2, by omega⟩, obnd3_some, v1', obnd3_some, bnd_eq, bnd_eq, obnd3_some, va_up_off (by decide), va_up_off (by decide), g5]
          obtain ⟨w1, w2⟩ := fin fi2 ar3 _ offF.rf v3.as v2 m2 hla
          exact ⟨_, _, _, 0, _, ar3, _, _, fm2, arm2, rfl, rfl, Or.inr ⟨rfl, h8⟩, w1, cst 0 0 (by omega) (by omega), w2⟩
      · exact absurd ⟨z, k1, k2⟩ w
    · rw [brT rfl]
      rcases hM with ⟨_, w1, w2, _⟩ | ⟨_, hM⟩
      · exact absurd ⟨w1, w2⟩ k1
      · exact bad ar1 y2 rfl hM
