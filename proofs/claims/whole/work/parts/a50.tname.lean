/-! make: the name on the tape -/
def tun (ar : AR) (j : Nat) : Nat := tby ar (2 * j) * 256 + tby ar (2 * j + 1)
/-- the name that T bytes of the tape are -/
def tnm (ar : AR) (T : Nat) : List Nat := if T % 2 = 0 ∧ T ≤ 510 then (List.range (T / 2)).map (tun ar) else []
theorem tun_lt {ar : AR} {j : Nat} : tun ar j < 65536 := by
  have h1 := tby_lt (ar := ar) (j := 2 * j)
  have h2 := tby_lt (ar := ar) (j := 2 * j + 1)
  unfold tun; omega
theorem getD_mapR {f : Nat → Nat} {m i : Nat} (h : i < m) : ((List.range m).map f).getD i 0 = f i := by
  rw [List.getD_eq_getElem?_getD, List.getElem?_map, List.getElem?_range h]; rfl
theorem tnm_facts {ar : AR} {T : Nat} (hT : T ≤ 4096) : (tnm ar T).length ≤ 255 ∧ (∀ x, x ∈ tnm ar T → x < 65536) := by
  unfold tnm
  by_cases c : T % 2 = 0 ∧ T ≤ 510
  · rw [if_pos c]
    refine ⟨by rw [List.length_map, List.length_range]; omega, fun x hx => ?_⟩
    obtain ⟨j, _, rfl⟩ := List.mem_map.mp hx
    exact tun_lt
  · rw [if_neg c]; exact ⟨by simp, fun x hx => absurd hx (by simp)⟩
theorem or8 {a b : Nat} (ha : a < 256) (hb : b < 256) : (nI a <<< ((8 : Int32) &&& 31)) ||| nI b = nI (a * 256 + b) := by
  have e1 : nI a <<< ((8 : Int32) &&& 31) = nI (a * 2 ^ 8) := by
    have := shl_nI (nI a) ((8 : Int32) &&& 31) 8 (by decide)
    rw [this, uv_nI (by omega), Nat.mod_eq_of_lt (by omega)]
  rw [e1, or_nI' (k := 8) (by omega)]
theorem readTape_loop {nf : Nat} {ln : LN} {m0 : Nat} (hm : m0 ≤ 255) (hl : ln 1 = 4096) (hl2 : ln 30 = 260) : ∀ (m i kf : Nat) (fi : FI) (ar : AR), i + m = m0 → m < kf → fi 60 = nI i → (∀ j, j < i → ar 30 j = nI (tun ar j)) → ∃ fi' ar', FX6_readTape_22 nf ln 0 kf (nI (2 * m0)) (nI i) fi ar = FX6_readTape_80 nf ln 0 fi' ar' ∧ NB fi' ar' 0 ((List.range m0).map (tun ar)) ∧ offF [60] fi fi' ∧ offA 30 ar ar' := by
  have e2 : nI (2 * m0) / (2 : Int32) = nI m0 := by
    rw [show (2 : Int32) = nI 2 from rfl, pk_div (by omega) (by omega) (by omega), Nat.mul_div_cancel_left _ (by omega)]
  intro m
  induction m with
  | zero =>
    intro i kf fi ar hi hk h60 h30
    obtain ⟨kf, rfl⟩ : ∃ k, kf = k + 1 := ⟨kf - 1, by omega⟩
    rw [show FX6_readTape_22 nf ln 0 (kf + 1) = FX6_readTape_22b (FX6_readTape_22 nf ln 0 kf) nf ln 0 from rfl]
    unfold FX6_readTape_22b
    rw [e2, brT (nI_le (by omega) (by omega))]
    refine ⟨fi, ar, rfl, ⟨?_, fun j hj => ?_⟩, offF.rf, offA.rf⟩
    · rw [List.length_map, List.length_range, show m0 = i by omega]; exact h60
    · rw [List.length_map, List.length_range] at hj
      rw [getD_mapR hj]; exact h30 j (by omega)
  | succ m ih =>
    intro i kf fi ar hi hk h60 h30
    obtain ⟨kf, rfl⟩ : ∃ k, kf = k + 1 := ⟨kf - 1, by omega⟩
    rw [show FX6_readTape_22 nf ln 0 (kf + 1) = FX6_readTape_22b (FX6_readTape_22 nf ln 0 kf) nf ln 0 from rfl]
    unfold FX6_readTape_22b
    have hb1 := tby_lt (ar := ar) (j := 2 * i)
    have hb2 := tby_lt (ar := ar) (j := 2 * i + 1)
    have e3 : (2 : Int32) * nI i = nI (2 * i) := pk_mul 2 i
    have o1 : offA 30 ar (va_up ar 30 (upd (ar 30) i (nI (tun ar i)))) := fun z hz => va_up_off hz
    have htb : ∀ q, tby (va_up ar 30 (upd (ar 30) i (nI (tun ar i)))) q = tby ar q := fun q => congrArg (fun g : Nat → Int32 => uv (g q) % 256) (o1 1 (by decide))
    have htu : ∀ q, tun (va_up ar 30 (upd (ar 30) i (nI (tun ar i)))) q = tun ar q := fun q => by
      show tby _ _ * 256 + tby _ _ = tby ar _ * 256 + tby ar _
      rw [htb, htb]
    have hor : (nI (tby ar (2 * i)) <<< ((8 : Int32) &&& 31)) ||| nI (tby ar (2 * i + 1)) = nI (tun ar i) := or8 hb1 hb2
    rw [e2, brF (nI_ge (by omega) (by omega)), brF (show ¬ Int32.ofNat (ln (30 + 0)) ≤ nI i from nI_ge (by show i < ln 30; omega) (by show ln 30 < 2 ^ 31; omega)), e3, at_eq hl (by omega), obnd3_some, show nI (2 * i) + (1 : Int32) = nI (2 * i + 1) from nI_add _ 1, at_eq hl (by omega), obnd3_some, zgd (by show i < ln 30; omega) (by omega), nI_clamp (by omega), bnd_eq, bnd_eq, bnd_eq, hor, show nI i + (1 : Int32) = nI (i + 1) from nI_add i 1]
    obtain ⟨fi', ar', s1, s2, s3, s4⟩ := ih (i + 1) kf (va_up fi 60 (fi 60 + 1)) (va_up ar 30 (upd (ar 30) i (nI (tun ar i)))) (by omega) (by omega) (by rw [va_up_self, h60]; exact nI_add i 1) (fun j hj => by
      rw [va_up_self, htu]
      unfold upd
      by_cases c : j = i
      · rw [if_pos c, c]
      · rw [if_neg c]; exact h30 j (by omega))
    have hmap : (List.range m0).map (tun (va_up ar 30 (upd (ar 30) i (nI (tun ar i))))) = (List.range m0).map (tun ar) := List.map_congr_left (fun q _ => htu q)
    rw [hmap] at s2
    exact ⟨fi', ar', s1, s2, (offF.rf.up (by simp)).tr s3, o1.tr s4⟩
theorem readTape_ok {nf T : Nat} {ln : LN} {fi : FI} {ar : AR} (hT : T ≤ 4096) (hl : ln 1 = 4096) (hl2 : ln 30 = 260) (hnf : 600 ≤ nf) : ∃ r fi' ar', FX6_readTape nf ln 0 fi ar (nI T) = some (r, fi', ar') ∧ offF [60] fi fi' ∧ offA 30 ar ar' ∧ ((r = 1 ∧ nmOK (tnm ar T) ∧ NB fi' ar' 0 (tnm ar T)) ∨ (r = 0 ∧ ¬ nmOK (tnm ar T))) := by
  have e1 : nI T &&& (1 : Int32) = nI (T % 2) := pk_andN (by omega) 1 (by decide)
  unfold FX6_readTape FX6_readTape_18
  rw [bnd_eq, e1]
  by_cases c1 : T % 2 = 0
  · rw [brT (by rw [c1]; rfl)]
    by_cases c2 : T ≤ 510
    · rw [brT (show nI T ≤ (510 : Int32) from nI_le (b := 510) c2 (by omega))]
      obtain ⟨fi', ar', s1, s2, s3, s4⟩ := readTape_loop (nf := nf) (ln := ln) (m0 := T / 2) (by omega) hl hl2 (T / 2) 0 nf (va_up fi 60 0) ar (by omega) (by omega) (va_up_self _ _ _) (fun j hj => absurd hj (by omega))
      rw [show 2 * (T / 2) = T by omega] at s1
      have s1' : FX6_readTape_22 nf ln 0 nf (nI T) 0 (va_up fi (60 + 0) 0) ar = FX6_readTape_80 nf ln 0 fi' ar' := s1
      have hN : (List.range (T / 2)).map (tun ar) = tnm ar T := by unfold tnm; rw [if_pos ⟨c1, c2⟩]
      rw [hN] at s2
      have hf := tnm_facts (ar := ar) hT
      rw [s1']
      unfold FX6_readTape_80
      rw [NB_asTold s2 hf.2 hl2 (by omega) (by omega), obnd3_some]
      by_cases c3 : nmOK (tnm ar T)
      · rw [if_pos c3, gdT (by decide)]
        exact ⟨1, fi', ar', rfl, (offF.rf.up (by simp)).tr s3, s4, Or.inl ⟨rfl, c3, s2⟩⟩
      · rw [if_neg c3, gdT (by decide)]
        exact ⟨0, fi', ar', rfl, (offF.rf.up (by simp)).tr s3, s4, Or.inr ⟨rfl, c3⟩⟩
    · rw [brF (show ¬ nI T ≤ (510 : Int32) from nI_ge (a := 510) (by omega) (by omega))]
      refine ⟨0, _, ar, rfl, offF.rf.up (by simp), offA.rf, Or.inr ⟨rfl, fun w => ?_⟩⟩
      unfold tnm at w
      rw [if_neg (fun q => c2 q.2)] at w
      exact absurd w.1 (by decide)
  · rw [brF (nI_ne0 (by omega) (by omega))]
    refine ⟨0, _, ar, rfl, offF.rf.up (by simp), offA.rf, Or.inr ⟨rfl, fun w => ?_⟩⟩
    unfold tnm at w
    rw [if_neg (fun q => c1 q.1)] at w
    exact absurd w.1 (by decide)
theorem taken_eq {nf : Nat} {fm : FI} {ar arm : AR} {j : Nat} (ht : ar 1 j = arm 2 j) (hj : j < 4096) : M_taken nf fm arm (nI j) = some (nI (tby ar j), fm, arm) := by
  unfold M_taken
  rw [zgd (by omega) (by omega), nI_clamp (by omega), ← ht]
  have : ar 1 j &&& (255 : Int32) = nI (uv (ar 1 j) % 2 ^ 8) := pk_and _ 8 (by decide)
  rw [this]; rfl
theorem named_loop {nf : Nat} {ar : AR} {fm : FI} {m0 : Nat} (hm : m0 ≤ 255) (h35 : fm 35 = nI m0) (hnf : 600 ≤ nf) : ∀ (m i kf : Nat) (arm : AR), i + m = m0 → m < kf → (∀ j, j < 4096 → ar 1 j = arm 2 j) → (∀ j, j < i → arm 34 j = nI (tun ar j)) → ∃ arm', M_named_35 nf kf (nI i) fm arm = some ((if nmOK ((List.range m0).map (tun ar)) then 1 else 0), va_up fm 4 0, arm') ∧ MN fm arm' ((List.range m0).map (tun ar)) ∧ offA 34 arm arm' := by
  intro m
  induction m with
  | zero =>
    intro i kf arm hi hk ht h34
    obtain ⟨kf, rfl⟩ : ∃ k, kf = k + 1 := ⟨kf - 1, by omega⟩
    rw [show M_named_35 nf (kf + 1) = M_named_35b (M_named_35 nf kf) nf from rfl]
    unfold M_named_35b
    have hlen : ((List.range m0).map (tun ar)).length = m0 := by rw [List.length_map, List.length_range]
    have hMN : MN fm arm ((List.range m0).map (tun ar)) := ⟨by rw [hlen]; exact h35, fun j hj => by
      rw [hlen] at hj
      rw [getD_mapR hj]; exact h34 j (by omega)⟩
    have hMN2 : MN (va_up fm 4 0) arm ((List.range m0).map (tun ar)) := ⟨by rw [va_up_off (by decide)]; exact hMN.1, hMN.2⟩
    rw [h35, brT (nI_le (by omega) (by omega)), bnd_eq, M_isName_eq hMN2 (fun x hx => by obtain ⟨j, _, rfl⟩ := List.mem_map.mp hx; exact tun_lt) (by omega) (by omega), obnd3_some]
    refine ⟨arm, ?_, hMN, offA.rf⟩
    split <;> rw [gdT (by decide)]
  | succ m ih =>
    intro i kf arm hi hk ht h34
    obtain ⟨kf, rfl⟩ : ∃ k, kf = k + 1 := ⟨kf - 1, by omega⟩
    rw [show M_named_35 nf (kf + 1) = M_named_35b (M_named_35 nf kf) nf from rfl]
    unfold M_named_35b
    have hb1 := tby_lt (ar := ar) (j := 2 * i)
    have hb2 := tby_lt (ar := ar) (j := 2 * i + 1)
    have e3 : (2 : Int32) * nI i = nI (2 * i) := pk_mul 2 i
    have hor : (nI (tby ar (2 * i)) <<< ((8 : Int32) &&& 31)) ||| nI (tby ar (2 * i + 1)) = nI (tun ar i) := or8 hb1 hb2
    have hlt := tun_lt (ar := ar) (j := i)
    rw [h35, brF (nI_ge (by omega) (by omega)), e3, taken_eq (ht _ (by omega)) (by omega), obnd3_some, show nI (2 * i) + (1 : Int32) = nI (2 * i + 1) from nI_add _ 1, taken_eq (ht _ (by omega)) (by omega), obnd3_some, zgd (by omega) (by omega), nI_clamp (by omega), bnd_eq, bnd_eq, hor, zchar hlt, show nI i + (1 : Int32) = nI (i + 1) from nI_add i 1]
    have o1 : offA 34 arm (va_up arm 34 (upd (arm 34) i (nI (tun ar i)))) := fun z hz => va_up_off hz
    obtain ⟨arm', s1, s2, s3⟩ := ih (i + 1) kf (va_up arm 34 (upd (arm 34) i (nI (tun ar i)))) (by omega) (by omega) (fun j hj => by rw [o1 2 (by decide)]; exact ht j hj) (fun j hj => by
      rw [va_up_self]
      unfold upd
      by_cases c : j = i
      · rw [if_pos c, c]
      · rw [if_neg c]; exact h34 j (by omega))
    exact ⟨arm', s1, s2, o1.tr s3⟩
theorem named_ok {nf T : Nat} {ar : AR} {fm : FI} {arm : AR} (hT : T ≤ 4096) (h4 : fm 4 = nI T) (ht : ∀ j, j < 4096 → ar 1 j = arm 2 j) (hnf : 600 ≤ nf) : ∃ fm' arm', M_named nf fm arm = some ((if nmOK (tnm ar T) then 1 else 0), fm', arm') ∧ MN fm' arm' (tnm ar T) ∧ fm' 4 = 0 ∧ offF [4, 35] fm fm' ∧ offA 34 arm arm' := by
  have e1 : fm 4 - fm 4 / (2 : Int32) * (2 : Int32) = nI (T % 2) := by
    rw [h4, show (2 : Int32) = nI 2 from rfl]; exact pk_rem (by omega) (by omega) (by omega)
  have e2 : fm 4 / (2 : Int32) = nI (T / 2) := by
    rw [h4, show (2 : Int32) = nI 2 from rfl]; exact pk_div (by omega) (by omega) (by omega)
  have fin : ∀ m0, m0 ≤ 255 → tnm ar T = (List.range m0).map (tun ar) → ∃ fm' arm', M_named_30 nf (nI m0) fm arm = some ((if nmOK (tnm ar T) then 1 else 0), fm', arm') ∧ MN fm' arm' (tnm ar T) ∧ fm' 4 = 0 ∧ offF [4, 35] fm fm' ∧ offA 34 arm arm' := fun m0 hm0 he => by
    unfold M_named_30
    rw [bnd_eq]
    obtain ⟨arm', s1, s2, s3⟩ := named_loop (nf := nf) (ar := ar) (fm := va_up fm 35 (nI m0)) hm0 (va_up_self _ _ _) hnf m0 0 nf arm (by omega) (by omega) ht (fun j hj => absurd hj (by omega))
    rw [← he] at s1 s2
    exact ⟨_, arm', s1, ⟨by rw [va_up_off (by decide)]; exact s2.1, s2.2⟩, va_up_self _ _ _, (offF.rf.up (by simp)).up (by simp), s3⟩
  unfold M_named M_named_29
  rw [e1]
  by_cases c1 : T % 2 = 0
  · rw [brT (by rw [c1]; rfl), h4]
    by_cases c2 : T ≤ 510
    · rw [brF (show ¬ (510 : Int32) < nI T from nI_nlt (a := 510) c2 (by omega)), ← h4, e2]
      exact fin (T / 2) (by omega) (by unfold tnm; rw [if_pos ⟨c1, c2⟩])
    · rw [brT (show (510 : Int32) < nI T from nI_lt (a := 510) (by omega) (by omega))]
      exact fin 0 (by omega) (by unfold tnm; rw [if_neg (fun q => c2 q.2)]; rfl)
  · rw [brF (nI_ne0 (by omega) (by omega))]
    exact fin 0 (by omega) (by unfold tnm; rw [if_neg (fun q => c1 q.1)]; rfl)
