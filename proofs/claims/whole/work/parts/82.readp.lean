/-! the class reads names of parts -/
theorem read_end {nf : Nat} {ln : LN} {i1 j all : Nat} {f : Nat → Nat} {ar : AR} (hln : ln (30 + j) = 260) (hall : all ≤ 260) (hu : ∀ i, i < all → ar (30 + j) i = nI (f i) ∧ f i < 65536) : ∀ (m i kf : Nat) (fi : FI), i + m = all → m < kf → fi (60 + j) = nI i → ∃ fi', FX6_read_189 nf ln j i1 kf (nI all) fi ar = some ((), fi', ar) ∧ fi' (60 + j) = nI (zl f m i) ∧ offF [60 + j] fi fi' := by
  intro m
  induction m with
  | zero =>
    intro i kf fi hi hk h60
    obtain ⟨kf, rfl⟩ : ∃ k, kf = k + 1 := ⟨kf - 1, by omega⟩
    refine ⟨fi, ?_, h60, offF.rf⟩
    show FX6_read_189b _ nf _ _ _ _ _ _ = _
    unfold FX6_read_189b FX6_read_223
    rw [h60]
    simp (disch := first | omega | decide) only [zlt, zle, zeq, zltl, zllt, zlel, zlle, zeql, zll, ↓zlt, ↓zle, ↓zeq, ↓zltl, ↓zllt, ↓zlel, ↓zlle, ↓zeql, ↓zll, ↓if_pos, ↓if_neg, if_pos, if_neg, ↓zgd, zgd, zgdc, ↓zgd0, zgd0c, zcl0, ↓zbit, zbitc, ↓zbit1, ↓zbit0, nI_clamp, zaddl, zladd, zsubl, zlsub, zmull, zlmul, zdivl, nI_1, nI_add, nI_mulL, zand1, zand3, zand15, zand31, zand63, zand255, zand65535, zshr1, zshl7, zshl8, zshl9, zbit8, zbit16, ↓bnd_eq, bnd_eq, obnd_some, obnd3_some, obnd6_some]
  | succ m ih =>
    intro i kf fi hi hk h60
    obtain ⟨kf, rfl⟩ : ∃ k, kf = k + 1 := ⟨kf - 1, by omega⟩
    have h1 := hu i (by omega)
    by_cases q : f i = 0
    · refine ⟨fi, ?_, by rw [zl, if_pos q]; exact h60, offF.rf⟩
      show FX6_read_189b _ nf _ _ _ _ _ _ = _
      unfold FX6_read_189b FX6_read_223
      rw [h60]
      simp (disch := first | omega | decide) only [zlt, zle, zeq, zltl, zllt, zlel, zlle, zeql, zll, ↓zlt, ↓zle, ↓zeq, ↓zltl, ↓zllt, ↓zlel, ↓zlle, ↓zeql, ↓zll, ↓if_pos, ↓if_neg, if_pos, if_neg, ↓zgd, zgd, zgdc, ↓zgd0, zgd0c, zcl0, ↓zbit, zbitc, ↓zbit1, ↓zbit0, nI_clamp, zaddl, zladd, zsubl, zlsub, zmull, zlmul, zdivl, nI_1, nI_add, nI_mulL, zand1, zand3, zand15, zand31, zand63, zand255, zand65535, zshr1, zshl7, zshl8, zshl9, zbit8, zbit16, ↓bnd_eq, bnd_eq, obnd_some, obnd3_some, obnd6_some, h1.1]
    · obtain ⟨fi', r1, r2, r3⟩ := ih (i + 1) kf (va_up fi (60 + j) (nI (i + 1))) (by omega) (by omega) (va_up_self _ _ _)
      refine ⟨fi', ?_, by rw [zl, if_neg q]; exact r2, (offF.rf.up (by simp)).tr r3⟩
      show FX6_read_189b _ nf _ _ _ _ _ _ = _
      unfold FX6_read_189b FX6_read_223
      rw [h60]
      simp (disch := first | omega | decide) only [zlt, zle, zeq, zltl, zllt, zlel, zlle, zeql, zll, ↓zlt, ↓zle, ↓zeq, ↓zltl, ↓zllt, ↓zlel, ↓zlle, ↓zeql, ↓zll, ↓if_pos, ↓if_neg, if_pos, if_neg, ↓zgd, zgd, zgdc, ↓zgd0, zgd0c, zcl0, ↓zbit, zbitc, ↓zbit1, ↓zbit0, nI_clamp, zaddl, zladd, zsubl, zlsub, zmull, zlmul, zdivl, nI_1, nI_add, nI_mulL, zand1, zand3, zand15, zand31, zand63, zand255, zand65535, zshr1, zshl7, zshl8, zshl9, zbit8, zbit16, ↓bnd_eq, bnd_eq, obnd_some, obnd3_some, obnd6_some, h1.1]
      exact r1
theorem nU_lt {d A : Nat → Nat} {s u : Nat} (h : ∀ i, i < 32 → d (A (s - 1 - u / 13) + i) < 256) : nU d A s u < 65536 := by
  have h1 := plc_lt (Nat.mod_lt u (show 0 < 13 by decide))
  have a1 := h (plc (u % 13)) (by omega)
  have a2 := h (plc (u % 13) + 1) (by omega)
  unfold nU tw
  rw [Nat.add_assoc]
  omega
theorem readp_loop {nf : Nat} {ln : LN} {fi : FI} {d : Nat → Nat} {G : Geo} {l : List Nat} {i1 j s np : Nat} (hG : GOK G) (hl : clu G l) (hDln : l.length ≤ ln (10 + 4 * i1)) (hi1 : i1 < 3) (hj4 : j < 4) (hln : ln (30 + j) = 260) (hl0 : ln 0 = 128 * G.n) (hnp : np ≤ 20) (hnps : np ≤ s) (hs : s < l.length * (16 * G.c)) (hnf : 600 ≤ nf) (h60 : fi (60 + j) = nI 0) : ∀ (m i kf x4 : Nat) (ar : AR), CD ln ar d → DC fi ar i1 G l → i + m = 13 * np → m < kf → (i % 13 ≠ 0 → x4 = sa G l (s - 1 - i / 13)) → (∀ u, u < i → ar (30 + j) u = nI (nU d (sa G l) s u)) → ∃ fi' ar', FX6_read_126 nf ln j i1 kf (nI s) (nI x4) (nI (13 * np)) (nI i) fi ar = some ((), fi', ar') ∧ (∀ u, u < 13 * np → ar' (30 + j) u = nI (nU d (sa G l) s u)) ∧ fi' (60 + j) = nI (zl (nU d (sa G l) s) (13 * np) 0) ∧ offF [60 + j] fi fi' ∧ offA (30 + j) ar ar' := by
  have b := hG.b
  have hk := hl.len
  have hS : l.length * (16 * G.c) ≤ 512 * 128 := Nat.mul_le_mul (by omega) (by omega)
  have hbyte : ∀ (ar : AR), CD ln ar d → ∀ t, t < l.length * (16 * G.c) → sa G l t + 32 ≤ 4 * ln 0 ∧ ∀ i, i < 32 → d (sa G l t + i) < 256 := by
    intro ar hd t ht
    obtain ⟨x, hx, o, ho, hob⟩ := sa_in (show 1 ≤ G.c by omega) ht
    have hin := pl_in hG (hl.2 x hx)
    have : sa G l t + 32 ≤ 4 * ln 0 := by omega
    exact ⟨this, fun i hi => hd.lt (by omega)⟩
  intro m
  induction m with
  | zero =>
    intro i kf x4 ar hd hD hi hkf hx4 hu
    obtain ⟨kf, rfl⟩ : ∃ k, kf = k + 1 := ⟨kf - 1, by omega⟩
    obtain ⟨fi', r1, r2, r3⟩ := read_end (nf := nf) (i1 := i1) (f := nU d (sa G l) s) hln (show 13 * np ≤ 260 by omega) (fun u hu2 => ⟨hu u (by omega), nU_lt (fun i hi => (hbyte ar hd (s - 1 - u / 13) (by omega)).2 i hi)⟩) (13 * np) 0 nf fi (by omega) (by omega) h60
    refine ⟨fi', ar, ?_, fun u hu2 => hu u (by omega), r2, r3, offA.rf⟩
    show FX6_read_126b _ nf _ _ _ _ _ _ _ _ _ = _
    unfold FX6_read_126b
    simp (disch := first | omega | decide) only [zlt, zle, zeq, zltl, zllt, zlel, zlle, zeql, zll, ↓zlt, ↓zle, ↓zeq, ↓zltl, ↓zllt, ↓zlel, ↓zlle, ↓zeql, ↓zll, ↓if_pos, ↓if_neg, if_pos, if_neg, ↓zgd, zgd, zgdc, ↓zgd0, zgd0c, zcl0, ↓zbit, zbitc, ↓zbit1, ↓zbit0, nI_clamp, zaddl, zladd, zsubl, zlsub, zmull, zlmul, zdivl, nI_1, nI_add, nI_mulL, zand1, zand3, zand15, zand31, zand63, zand255, zand65535, zshr1, zshl7, zshl8, zshl9, zbit8, zbit16, ↓bnd_eq, bnd_eq, obnd_some, obnd3_some, obnd6_some]
    exact r1
  | succ m ih =>
    intro i kf x4 ar hd hD hi hkf hx4 hu
    obtain ⟨kf, rfl⟩ : ∃ k, kf = k + 1 := ⟨kf - 1, by omega⟩
    have hb := hbyte ar hd (s - 1 - i / 13) (by omega)
    have hpl := plc_lt (Nat.mod_lt i (show 0 < 13 by decide))
    have hmod := Nat.mod_lt i (show 0 < 13 by decide)
    have k160 : FX6_read_160 (FX6_read_126 nf ln j i1 kf) nf ln j i1 (nI s) (nI (sa G l (s - 1 - i / 13))) (nI (13 * np)) (nI i) (nI (i % 13)) fi ar = FX6_read_126 nf ln j i1 kf (nI s) (nI (sa G l (s - 1 - i / 13))) (nI (13 * np)) (nI (i + 1)) fi (va_up ar (30 + j) (upd (ar (30 + j)) i (nI (nU d (sa G l) s i)))) := by
      unfold FX6_read_160
      simp (disch := first | omega | decide) only [zlt, zle, zeq, zltl, zllt, zlel, zlle, zeql, zll, ↓zlt, ↓zle, ↓zeq, ↓zltl, ↓zllt, ↓zlel, ↓zlle, ↓zeql, ↓zll, ↓if_pos, ↓if_neg, if_pos, if_neg, ↓zgd, zgd, zgdc, ↓zgd0, zgd0c, zcl0, ↓zbit, zbitc, ↓zbit1, ↓zbit0, nI_clamp, zaddl, zladd, zsubl, zlsub, zmull, zlmul, zdivl, nI_1, nI_add, nI_mulL, zand1, zand3, zand15, zand31, zand63, zand255, zand65535, zshr1, zshl7, zshl8, zshl9, zbit8, zbit16, ↓bnd_eq, bnd_eq, obnd_some, obnd3_some, obnd6_some, tPla_eq, FX3_two_eq hd]
      rfl
    have hD1 : DC fi (va_up ar (30 + j) (upd (ar (30 + j)) i (nI (nU d (sa G l) s i)))) i1 G l := ⟨hD.1, hD.2.1, hD.2.2.1, fun q hq => by rw [va_up_ne _ _ (by omega)]; exact hD.2.2.2.1 q hq, hD.2.2.2.2⟩
    obtain ⟨fi', ar', r1, r2, r3, r4, r5⟩ := ih (i + 1) kf (sa G l (s - 1 - i / 13)) _ (hd.up (k := 30 + j) (by omega)) hD1 (by omega) (by omega) (fun h => by
      have : (i + 1) / 13 = i / 13 := by omega
      rw [this]) (fun u hu2 => by
      rw [va_up_self]; unfold upd
      by_cases e : u = i
      · rw [if_pos e, e]
      · rw [if_neg e]; exact hu u (by omega))
    refine ⟨fi', ar', ?_, r2, r3, r4, fun q hq => by rw [r5 q hq, va_up_ne _ _ hq]⟩
    show FX6_read_126b _ nf _ _ _ _ _ _ _ _ _ = _
    unfold FX6_read_126b
    have hdiv : nI i / (13 : Int32) = nI (i / 13) := zdivl (n := 13) (by omega) (by decide) (by decide)
    rw [zrem13 (by omega), hdiv]
    by_cases q : i % 13 = 0
    · have hsub : nI s - (1 : Int32) - nI (i / 13) = nI (s - 1 - i / 13) := by
        rw [show nI s - (1 : Int32) = nI (s - 1) from nI_sub (b := 1) (by omega), nI_sub (by omega)]
      rw [hsub]
      simp (disch := first | omega | decide) only [zlt, zle, zeq, zltl, zllt, zlel, zlle, zeql, zll, ↓zlt, ↓zle, ↓zeq, ↓zltl, ↓zllt, ↓zlel, ↓zlle, ↓zeql, ↓zll, ↓if_pos, ↓if_neg, if_pos, if_neg, ↓zgd, zgd, zgdc, ↓zgd0, zgd0c, zcl0, ↓zbit, zbitc, ↓zbit1, ↓zbit0, nI_clamp, zaddl, zladd, zsubl, zlsub, zmull, zlmul, zdivl, nI_1, nI_add, nI_mulL, zand1, zand3, zand15, zand31, zand63, zand255, zand65535, zshr1, zshl7, zshl8, zshl9, zbit8, zbit16, ↓bnd_eq, bnd_eq, obnd_some, obnd3_some, obnd6_some, slotAddress_eq hG hl hD hDln]
      exact k160.trans r1
    · have e4 := hx4 q
      simp (disch := first | omega | decide) only [zlt, zle, zeq, zltl, zllt, zlel, zlle, zeql, zll, ↓zlt, ↓zle, ↓zeq, ↓zltl, ↓zllt, ↓zlel, ↓zlle, ↓zeql, ↓zll, ↓if_pos, ↓if_neg, if_pos, if_neg, ↓zgd, zgd, zgdc, ↓zgd0, zgd0c, zcl0, ↓zbit, zbitc, ↓zbit1, ↓zbit0, nI_clamp, zaddl, zladd, zsubl, zlsub, zmull, zlmul, zdivl, nI_1, nI_add, nI_mulL, zand1, zand3, zand15, zand31, zand63, zand255, zand65535, zshr1, zshl7, zshl8, zshl9, zbit8, zbit16, ↓bnd_eq, bnd_eq, obnd_some, obnd3_some, obnd6_some]
      rw [e4]
      exact k160.trans r1
theorem read_ok {nf : Nat} {ln : LN} {fi : FI} {ar : AR} {d : Nat → Nat} {G : Geo} {l : List Nat} {i1 j s np : Nat} (hG : GOK G) (hd : CD ln ar d) (hl : clu G l) (hDln : l.length ≤ ln (10 + 4 * i1)) (hi1 : i1 < 3) (hj4 : j < 4) (hln : ln (30 + j) = 260) (hl0 : ln 0 = 128 * G.n) (hnp : np ≤ 20) (hnps : np ≤ s) (hs : s < l.length * (16 * G.c)) (hnf : 600 ≤ nf) (hD : DC fi ar i1 G l) : ∃ fi' ar', FX6_read nf ln j i1 fi ar (nI s) (nI np) = some ((), fi', ar') ∧ NB fi' ar' j (nm d (sa G l) s np) ∧ (∀ u, u < 13 * np → ar' (30 + j) u = nI (nU d (sa G l) s u)) ∧ offF [60 + j] fi fi' ∧ offA (30 + j) ar ar' := by
  have b := hG.b
  have hk := hl.len
  have hS : l.length * (16 * G.c) ≤ 512 * 128 := Nat.mul_le_mul (by omega) (by omega)
  have hin : sa G l s + 32 ≤ 4 * ln 0 := by
    obtain ⟨x, hx, o, ho, hob⟩ := sa_in (show 1 ≤ G.c by omega) hs
    have hin := pl_in hG (hl.2 x hx)
    omega
  have hD0 : DC (va_up fi (60 + j) (nI 0)) ar i1 G l := by
    refine ⟨?_, ?_, ?_, hD.2.2.2.1, ?_⟩
    · rw [va_up_off (by omega)]; exact hD.1
    · rw [va_up_off (by omega)]; exact hD.2.1
    · rw [va_up_off (by omega)]; exact hD.2.2.1
    · rw [va_up_off (by omega)]; exact hD.2.2.2.2
  have e : FX6_read nf ln j i1 fi ar (nI s) (nI np) = FX6_read_15 nf ln j i1 nf (nI s) (nI np) (nI (sa G l s)) (nI 0) (va_up fi (60 + j) (nI 0)) ar := by
    unfold FX6_read
    rw [show (0 : Int32) = nI 0 from rfl, bnd_eq, slotAddress_eq hG hl hD0 hDln hs, obnd3_some]
  rw [e]
  by_cases h0 : np = 0
  · subst h0
    obtain ⟨fi', ar', r1, r2, r3, r4⟩ := read0_loop (nf := nf) (i1 := i1) (s := s) hln hin hnf 11 0 nf (va_up fi (60 + j) (nI 0)) ar hd (by omega) (by omega) ⟨va_up_self _ _ _, fun i hi => absurd hi (by simp [shw])⟩
    exact ⟨fi', ar', r1, by unfold nm; rw [if_pos rfl]; exact r2, fun u hu => by omega, (offF.rf.up (by simp)).tr r3, r4⟩
  · obtain ⟨nf', rfl⟩ : ∃ k, nf = k + 1 := ⟨nf - 1, by omega⟩
    obtain ⟨fi', ar', r1, r2, r3, r4, r5⟩ := readp_loop (nf := nf' + 1) (fi := va_up fi (60 + j) (nI 0)) (d := d) (j := j) (s := s) hG hl hDln hi1 hj4 hln hl0 hnp hnps hs hnf (va_up_self _ _ _) (13 * np) 0 (nf' + 1) (sa G l s) ar hd hD0 (by omega) (by omega) (fun h => absurd rfl h) (fun u hu => by omega)
    refine ⟨fi', ar', ?_, ⟨?_, fun i hi => ?_⟩, r2, (offF.rf.up (by simp)).tr r4, r5⟩
    · show FX6_read_15b _ (nf' + 1) _ _ _ _ _ _ _ _ _ = _
      unfold FX6_read_15b FX6_read_109
      have e260 : Int32.ofNat (ln (30 + j)) = nI 260 := by rw [hln]; rfl
      have em : (if nI 260 < nI np * (13 : Int32) then nI 260 else nI np * (13 : Int32)) = nI (13 * np) := by
        rw [show nI np * (13 : Int32) = nI (np * 13) from pk_mul np 13, if_neg (nI_nlt (by omega) (by omega)), Nat.mul_comm]
      rw [e260, em]
      simp (disch := first | omega | decide) only [zlt, zle, zeq, zltl, zllt, zlel, zlle, zeql, zll, ↓zlt, ↓zle, ↓zeq, ↓zltl, ↓zllt, ↓zlel, ↓zlle, ↓zeql, ↓zll, ↓if_pos, ↓if_neg, if_pos, if_neg, ↓zgd, zgd, zgdc, ↓zgd0, zgd0c, zcl0, ↓zbit, zbitc, ↓zbit1, ↓zbit0, nI_clamp, zaddl, zladd, zsubl, zlsub, zmull, zlmul, zdivl, nI_1, nI_add, nI_mulL, zand1, zand3, zand15, zand31, zand63, zand255, zand65535, zshr1, zshl7, zshl8, zshl9, zbit8, zbit16, ↓bnd_eq, bnd_eq, obnd_some, obnd3_some, obnd6_some]
      exact r1
    · unfold nm
      rw [if_neg h0, List.length_map, List.length_range]; exact r3
    · unfold nm at hi ⊢
      rw [if_neg h0, List.length_map, List.length_range] at hi
      have hz := (zl_le (nU d (sa G l) s) (13 * np) 0).2
      rw [if_neg h0, r2 i (by omega), List.getD_eq_getElem?_getD, List.getElem?_map, List.getElem?_range hi]
      rfl
