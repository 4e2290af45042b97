/-! letter -/
theorem sumc_inl {α β γ : Type} (v : α) (f : α → Option γ) (g : Nat → Option γ) : sumc (Sum.inl v : α ⊕ Nat) f g = f v := rfl
theorem sumc_inr {α β γ : Type} (k : Nat) (f : α → Option γ) (g : Nat → Option γ) : sumc (Sum.inr k : α ⊕ Nat) f g = g k := rfl
theorem text_loop {nf : Nat} {ln : LN} {fi fm : FI} {ar arm : AR} {j u : Nat} {N : List Nat} {x2 : Int32} (hj : j < 16400) (hu : arm 26 j = nI u) (hu2 : arm 27 j = nI N.length) (hub : u + N.length ≤ 213600) (hua : ∀ x, x < N.length → arm 28 (u + x) = nI (N.getD x 0)) (hN : NB fi ar 0 N) (hNb : ∀ x, x ∈ N → x < 65536) (hN2 : N.length ≤ 260) (hln : ln 30 = 260) (hx2 : ¬ x2 < 0) : ∀ (m i kf kf' : Nat) (left : Int32), i + m = N.length → m < kf → m < kf' → ¬ left < 0 → ∃ v, FX6_encodedByte_4 nf ln 0 kf left (nI i) fi ar = some (v, fi, ar) ∧ M_text_5 nf kf' (nI j) x2 left (nI i) fm arm = some (v, fm, arm) := by
  intro m
  induction m with
  | zero =>
    intro i kf kf' left hi hk hk' hl
    obtain ⟨kf, rfl⟩ : ∃ k, kf = k + 1 := ⟨kf - 1, by omega⟩
    obtain ⟨kf', rfl⟩ : ∃ k, kf' = k + 1 := ⟨kf' - 1, by omega⟩
    refine ⟨-1, ?_, ?_⟩
    · rw [show FX6_encodedByte_4 nf ln 0 (kf + 1) = FX6_encodedByte_4b (FX6_encodedByte_4 nf ln 0 kf) nf ln 0 from rfl]
      unfold FX6_encodedByte_4b FX6_encodedByte_76
      rw [hN.1, zle (by omega) (by omega), if_pos (by omega)]
    · rw [show M_text_5 nf (kf' + 1) = M_text_5b (M_text_5 nf kf') nf from rfl]
      unfold M_text_5b M_text_125
      rw [zgd (by omega) (by omega), nI_clamp (by omega), hu2, zle (by omega) (by omega), if_pos (by omega)]
  | succ m ih =>
    intro i kf kf' left hi hk hk' hl
    obtain ⟨kf, rfl⟩ : ∃ k, kf = k + 1 := ⟨kf - 1, by omega⟩
    obtain ⟨kf', rfl⟩ : ∃ k, kf' = k + 1 := ⟨kf' - 1, by omega⟩
    have hil : i < N.length := by omega
    obtain ⟨x, hx⟩ : ∃ x, x = N.getD i 0 := ⟨_, rfl⟩
    have hxb : x < 65536 := by
      rw [hx, List.getD_eq_getElem?_getD, List.getElem?_eq_getElem hil]; exact hNb _ (List.getElem_mem hil)
    have e1 := hN.2 i hil
    have e2 := hua i hil
    rw [← hx] at e1 e2
    have eC : FX6_encodedByte_4 nf ln 0 (kf + 1) left (nI i) fi ar = br ((128 : Int32) ≤ nI x) (br ((2048 : Int32) ≤ nI x) (FX6_encodedByte_48 (FX6_encodedByte_4 nf ln 0 kf) nf ln 0 left (nI i) (nI x) 3 fi ar) (FX6_encodedByte_48 (FX6_encodedByte_4 nf ln 0 kf) nf ln 0 left (nI i) (nI x) 2 fi ar)) (FX6_encodedByte_48 (FX6_encodedByte_4 nf ln 0 kf) nf ln 0 left (nI i) (nI x) 1 fi ar) := by
      rw [show FX6_encodedByte_4 nf ln 0 (kf + 1) = FX6_encodedByte_4b (FX6_encodedByte_4 nf ln 0 kf) nf ln 0 from rfl]
      unfold FX6_encodedByte_4b
      rw [hN.1, zle (by omega) (by omega), if_neg (by omega), brF hl, unit_eq (j := 0) hln (by omega) e1, obnd3_some]
    have eM : M_text_5 nf (kf' + 1) (nI j) x2 left (nI i) fm arm = obnd (M_bytesOf nf (nI x)) fun r8 => br (r8 ≤ left) (bnd (left - r8) fun x3_10 => bnd (nI i + 1) fun x4_11 => M_text_5 nf kf' (nI j) x2 x3_10 x4_11 fm arm) (br (r8 = 1) (M_text_113 nf (nI x) fm arm) (br (left ≤ 0) (br (r8 = 2) (M_text_113 nf ((192 : Int32) ||| (nI x >>> ((6 : Int32) &&& 31))) fm arm) (M_text_113 nf ((224 : Int32) ||| (nI x >>> ((12 : Int32) &&& 31))) fm arm)) (M_text_113 nf ((128 : Int32) ||| ((nI x >>> (((6 : Int32) * ((r8 - 1) - left)) &&& 31)) &&& 63)) fm arm))) := by
      rw [show M_text_5 nf (kf' + 1) = M_text_5b (M_text_5 nf kf') nf from rfl]
      unfold M_text_5b
      rw [zgd (by omega) (by omega), nI_clamp (by omega), hu2, zle (by omega) (by omega), if_neg (by omega), brF hx2, zgdc (by omega) (by omega), hu, nI_add, zgd (by omega) (by omega), nI_clamp (by omega), e2, bnd_eq]
    have go : ∀ sz : Nat, 1 ≤ sz → sz ≤ 3 → ∃ v, FX6_encodedByte_48 (FX6_encodedByte_4 nf ln 0 kf) nf ln 0 left (nI i) (nI x) (nI sz) fi ar = some (v, fi, ar) ∧ br (nI sz ≤ left) (bnd (left - nI sz) fun x3_10 => bnd (nI i + 1) fun x4_11 => M_text_5 nf kf' (nI j) x2 x3_10 x4_11 fm arm) (br (nI sz = 1) (M_text_113 nf (nI x) fm arm) (br (left ≤ 0) (br (nI sz = 2) (M_text_113 nf ((192 : Int32) ||| (nI x >>> ((6 : Int32) &&& 31))) fm arm) (M_text_113 nf ((224 : Int32) ||| (nI x >>> ((12 : Int32) &&& 31))) fm arm)) (M_text_113 nf ((128 : Int32) ||| ((nI x >>> (((6 : Int32) * ((nI sz - 1) - left)) &&& 31)) &&& 63)) fm arm))) = some (v, fm, arm) := by
      intro sz h1 h3
      unfold FX6_encodedByte_48 M_text_113 FX5_encoded FX5_encoded_53
      by_cases q : nI sz ≤ left
      · rw [brT q, brT q, bnd_eq, bnd_eq, bnd_eq, bnd_eq, nI_1]
        refine ih (i + 1) kf kf' (left - nI sz) (by omega) (by omega) (by omega) (fun w => ?_)
        have t := tI left
        have e : (nI sz).toInt = (sz : Int) := nI_toInt (by omega)
        rw [leI, e] at q
        have el : left = nI (uv left) := (nI_uv left).symm
        rw [el, nI_sub (by omega)] at w
        exact nI_pos (by omega) w
      · rw [brF q, brF q]
        by_cases c1 : nI sz = (1 : Int32)
        · rw [brT c1, brT c1, obnd_some]; exact ⟨_, rfl, rfl⟩
        · rw [brF c1, brF c1]
          by_cases c2 : left ≤ 0
          · rw [brT c2, brT c2]
            by_cases c3 : nI sz = (2 : Int32)
            · rw [brT c3, brT c3, obnd_some]; exact ⟨_, rfl, rfl⟩
            · rw [brF c3, brF c3, obnd_some]; exact ⟨_, rfl, rfl⟩
          · rw [brF c2, brF c2, obnd_some]; exact ⟨_, rfl, rfl⟩
    rw [eC, eM]
    unfold M_bytesOf M_bytesOf_23
    by_cases q1 : (128 : Int32) ≤ nI x
    · rw [brT q1, brT q1]
      by_cases q2 : (2048 : Int32) ≤ nI x
      · rw [brT q2, brT q2, obnd_some]; exact go 3 (by omega) (by omega)
      · rw [brF q2, brF q2, obnd_some]; exact go 2 (by omega) (by omega)
    · rw [brF q1, brF q1, obnd_some]; exact go 1 (by omega) (by omega)
