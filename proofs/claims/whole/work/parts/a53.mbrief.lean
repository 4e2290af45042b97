/-! make: a name that is a short name as shown, the model -/
theorem mbr_point {nf : Nat} {fm : FI} {arm : AR} {N : List Nat} (hN : N.length ≤ 255 ∧ ∀ x, x ∈ N → x < 65536) (hM : MN fm arm N) : ∀ (m i kf : Nat), i + m = N.length → m < kf → i ≤ fpt N → M_isBrief_2 nf kf (nI i) fm arm = M_isBrief_27 nf (nI (fpt N)) fm arm := by
  have hfl := fpt_le N
  intro m
  induction m with
  | zero =>
    intro i kf hi hk hf
    obtain ⟨kf, rfl⟩ : ∃ k, kf = k + 1 := ⟨kf - 1, by omega⟩
    rw [show M_isBrief_2 nf (kf + 1) = M_isBrief_2b (M_isBrief_2 nf kf) nf from rfl]
    unfold M_isBrief_2b
    rw [hM.1, brT (nI_le (by omega) (by omega)), show fpt N = i by omega]
  | succ m ih =>
    intro i kf hi hk hf
    have hi2 : i < N.length := by omega
    have hu := hN.2 _ (getD_mem hi2)
    obtain ⟨kf, rfl⟩ : ∃ k, kf = k + 1 := ⟨kf - 1, by omega⟩
    rw [show M_isBrief_2 nf (kf + 1) = M_isBrief_2b (M_isBrief_2 nf kf) nf from rfl]
    unfold M_isBrief_2b
    rw [hM.1, brF (nI_ge (by omega) (by omega)), zgd (by omega) (by omega), nI_clamp (by omega), hM.2 i hi2]
    by_cases c : i = fpt N
    · rw [brT (show nI (N.getD i 0) = (46 : Int32) by rw [c, fpt_eq (by omega)]; rfl), ← c]
    · rw [brF (show ¬ nI (N.getD i 0) = (46 : Int32) from fun w => fpt_ne (show i < fpt N by omega) ((nI_eq (b := 46) (by omega) (by omega)).mp w)), bnd_eq, show nI i + (1 : Int32) = nI (i + 1) from nI_add i 1]
      exact ih (i + 1) kf (by omega) (by omega) (by omega)
theorem mbr_loop {nf : Nat} {fm : FI} {N : List Nat} (hN : N.length ≤ 255 ∧ ∀ x, x ∈ N → x < 65536) (h35 : fm 35 = nI N.length) (hp : fpt N ≤ 8) (hp2 : N.length - fpt N ≤ 4) (hnf : 600 ≤ nf) : ∀ (m i kf : Nat) (arm : AR), i + m = N.length → m < kf → (∀ j, j < N.length → arm 34 j = nI (N.getD j 0)) → (∀ q, q < i → q ≠ fpt N → sgn (N.getD q 0)) → (∀ j, j < 11 → arm 39 j = nI (brP N i j)) → ∃ r arm', M_isBrief_91 nf kf (nI (fpt N)) (nI i) fm arm = some (r, fm, arm') ∧ offA 39 arm arm' ∧ ((r = 1 ∧ (∀ q, q < N.length → q ≠ fpt N → sgn (N.getD q 0)) ∧ ∀ j, j < 11 → arm' 39 j = nI (brB N j)) ∨ (r = 0 ∧ ¬ ∀ q, q < N.length → q ≠ fpt N → sgn (N.getD q 0))) := by
  have hfl := fpt_le N
  intro m
  induction m with
  | zero =>
    intro i kf arm hi hk h34 hQ h39
    have e : i = N.length := by omega
    subst e
    obtain ⟨kf, rfl⟩ : ∃ k, kf = k + 1 := ⟨kf - 1, by omega⟩
    rw [show M_isBrief_91 nf (kf + 1) = M_isBrief_91b (M_isBrief_91 nf kf) nf from rfl]
    unfold M_isBrief_91b
    rw [h35, brT (nI_le (Nat.le_refl _) (by omega))]
    exact ⟨1, arm, rfl, offA.rf, Or.inl ⟨rfl, hQ, h39⟩⟩
  | succ m ih =>
    intro i kf arm hi hk h34 hQ h39
    have hi2 : i < N.length := by omega
    have hu := hN.2 _ (getD_mem hi2)
    have hj1 : nI i + (1 : Int32) = nI (i + 1) := nI_add i 1
    obtain ⟨kf, rfl⟩ : ∃ k, kf = k + 1 := ⟨kf - 1, by omega⟩
    rw [show M_isBrief_91 nf (kf + 1) = M_isBrief_91b (M_isBrief_91 nf kf) nf from rfl]
    unfold M_isBrief_91b M_isBrief_118 M_isBrief_142 M_isBrief_149
    rw [h35, brF (nI_ge hi2 (by omega))]
    by_cases c : i = fpt N
    · rw [brT (show nI i = nI (fpt N) by rw [c]), brT (show nI i = nI (fpt N) by rw [c]), bnd_eq, hj1]
      refine ih (i + 1) kf arm (by omega) (by omega) h34 (fun q hq hne => hQ q (by omega) hne) (fun j hj => ?_)
      rw [h39 j hj]
      unfold brP
      by_cases z : j < 8
      · rw [if_pos z, if_pos z]
        by_cases z2 : j < i ∧ j < fpt N
        · rw [if_pos z2, if_pos ⟨by omega, z2.2⟩]
        · rw [if_neg z2, if_neg (fun w => z2 ⟨by omega, w.2⟩)]
      · rw [if_neg z, if_neg z, if_neg (by omega), if_neg (by omega)]
    · have cne : ¬ nI i = nI (fpt N) := fun w => c ((nI_eq (by omega) (by omega)).mp w)
      rw [brF cne, zgd (show i < 300 by omega) (by omega), nI_clamp (by omega), h34 i hi2, M_isShortSign_eq hu (by omega), obnd_some]
      by_cases c2 : sgn (N.getD i 0)
      · rw [if_pos c2, brF (by decide), brF cne]
        have store : ∀ a, a < 11 → (∀ j, j < 11 → j ≠ a → brP N (i + 1) j = brP N i j) → brP N (i + 1) a = N.getD i 0 → ∃ r arm', gd (¬ (nI i < 0 ∨ 300 ≤ (nI i).toNatClampNeg)) (gd (¬ (nI a < 0 ∨ 11 ≤ (nI a).toNatClampNeg)) (bnd (va_up arm 39 (upd (arm 39) (nI a).toNatClampNeg (arm 34 i))) fun ar4 => bnd (nI i + 1) fun x2_1 => M_isBrief_91 nf kf (nI (fpt N)) x2_1 fm ar4)) = some (r, fm, arm') ∧ offA 39 arm arm' ∧ ((r = 1 ∧ (∀ q, q < N.length → q ≠ fpt N → sgn (N.getD q 0)) ∧ ∀ j, j < 11 → arm' 39 j = nI (brB N j)) ∨ (r = 0 ∧ ¬ ∀ q, q < N.length → q ≠ fpt N → sgn (N.getD q 0))) := fun a ha g1 g2 => by
          have o1 : offA 39 arm (va_up arm 39 (upd (arm 39) a (nI (N.getD i 0)))) := fun z hz => va_up_off hz
          obtain ⟨r, arm', s1, s2, s3⟩ := ih (i + 1) kf (va_up arm 39 (upd (arm 39) a (nI (N.getD i 0)))) (by omega) (by omega) (fun j hj => by rw [o1 34 (by decide)]; exact h34 j hj) (fun q hq hne => by
            by_cases z : q = i
            · rw [z]; exact c2
            · exact hQ q (by omega) hne) (fun j hj => by
            rw [va_up_self]
            unfold upd
            by_cases z : j = a
            · rw [if_pos z, z, g2]
            · rw [if_neg z, g1 j hj z]; exact h39 j hj)
          refine ⟨r, arm', ?_, o1.tr s2, s3⟩
          rw [zgd (by omega) (by omega), zgd ha (by omega), nI_clamp (by omega), bnd_eq, bnd_eq, hj1, h34 i hi2]
          exact s1
        by_cases c3 : fpt N ≤ i
        · have e7 : (7 : Int32) + nI i - nI (fpt N) = nI (7 + i - fpt N) := by
            rw [show (7 : Int32) + nI i = nI (7 + i) from nI_add 7 i, nI_sub (by omega)]
          rw [brT (nI_le c3 (by omega)), e7]
          have := store (7 + i - fpt N) (by omega) (fun j hj hne => ?_) ?_
          · rw [nI_clamp (show i < 2 ^ 31 by omega), h34 i hi2] at this; exact this
          · unfold brP
            by_cases z : j < 8
            · rw [if_pos z, if_pos z]
              by_cases z2 : j < i ∧ j < fpt N
              · rw [if_pos z2, if_pos ⟨by omega, z2.2⟩]
              · rw [if_neg z2, if_neg (fun w => z2 ⟨by omega, w.2⟩)]
            · rw [if_neg z, if_neg z]
              by_cases z2 : fpt N + 1 + (j - 8) < i
              · rw [if_pos z2, if_pos (by omega)]
              · rw [if_neg z2, if_neg (by omega)]
          · unfold brP
            rw [if_neg (by omega), if_pos (by omega), show fpt N + 1 + (7 + i - fpt N - 8) = i by omega]
        · rw [brF (nI_ge (by omega) (by omega))]
          have := store i (by omega) (fun j hj hne => ?_) ?_
          · rw [nI_clamp (show i < 2 ^ 31 by omega), h34 i hi2] at this; exact this
          · unfold brP
            by_cases z : j < 8
            · rw [if_pos z, if_pos z]
              by_cases z2 : j < i ∧ j < fpt N
              · rw [if_pos z2, if_pos ⟨by omega, z2.2⟩]
              · rw [if_neg z2, if_neg (fun w => z2 ⟨by omega, w.2⟩)]
            · rw [if_neg z, if_neg z, if_neg (by omega), if_neg (by omega)]
          · unfold brP
            rw [if_pos (by omega), if_pos ⟨by omega, by omega⟩]
      · rw [if_neg c2, brT rfl]
        exact ⟨0, arm, rfl, offA.rf, Or.inr ⟨rfl, fun w => c2 (w i hi2 c)⟩⟩
theorem mbr_fill {nf : Nat} {fm : FI} {x1 : Int32} : ∀ (m j kf : Nat) (arm : AR), j + m = 11 → m < kf → (∀ q, q < j → arm 39 q = 32) → ∃ arm', M_isBrief_69 nf kf x1 (nI j) fm arm = M_isBrief_91 nf nf x1 0 fm arm' ∧ (∀ q, q < 11 → arm' 39 q = 32) ∧ offA 39 arm arm' := by
  intro m
  induction m with
  | zero =>
    intro j kf arm hj hk h0
    obtain ⟨kf, rfl⟩ : ∃ k, kf = k + 1 := ⟨kf - 1, by omega⟩
    rw [show M_isBrief_69 nf (kf + 1) = M_isBrief_69b (M_isBrief_69 nf kf) nf from rfl]
    unfold M_isBrief_69b
    rw [brT (show (11 : Int32) ≤ nI j from nI_le (a := 11) (by omega) (by omega))]
    exact ⟨arm, rfl, fun q hq => h0 q (by omega), offA.rf⟩
  | succ m ih =>
    intro j kf arm hj hk h0
    obtain ⟨kf, rfl⟩ : ∃ k, kf = k + 1 := ⟨kf - 1, by omega⟩
    rw [show M_isBrief_69 nf (kf + 1) = M_isBrief_69b (M_isBrief_69 nf kf) nf from rfl]
    unfold M_isBrief_69b
    rw [brF (show ¬ (11 : Int32) ≤ nI j from nI_ge (b := 11) (by omega) (by omega)), zgd (by omega) (by omega), nI_clamp (by omega), bnd_eq, bnd_eq, show nI j + (1 : Int32) = nI (j + 1) from nI_add j 1]
    have o1 : offA 39 arm (va_up arm 39 (upd (arm 39) j 32)) := fun z hz => va_up_off hz
    obtain ⟨arm', s1, s2, s3⟩ := ih (j + 1) kf (va_up arm 39 (upd (arm 39) j 32)) (by omega) (by omega) (fun q hq => by
      rw [va_up_self]
      unfold upd
      by_cases c : q = j
      · rw [if_pos c]
      · rw [if_neg c]; exact h0 q (by omega))
    exact ⟨arm', s1, s2, o1.tr s3⟩
theorem isBrief_ok {nf : Nat} {fm : FI} {arm : AR} {N : List Nat} (hN : N.length ≤ 255 ∧ ∀ x, x ∈ N → x < 65536) (hM : MN fm arm N) (hnf : 600 ≤ nf) : ∃ r arm', M_isBrief nf fm arm = some (r, fm, arm') ∧ offA 39 arm arm' ∧ ((r = 1 ∧ brOK N ∧ ∀ j, j < 11 → arm' 39 j = nI (brB N j)) ∨ (r = 0 ∧ ¬ brOK N)) := by
  have hfl := fpt_le N
  have h0 := mbr_point (nf := nf) hN hM N.length 0 nf (by omega) (by omega) (Nat.zero_le _)
  have h0' : M_isBrief nf fm arm = M_isBrief_27 nf (nI (fpt N)) fm arm := h0
  rw [h0']
  unfold M_isBrief_27 M_isBrief_65
  have no : ¬ brOK N → ∃ r arm', some ((0 : Int32), fm, arm) = some (r, fm, arm') ∧ offA 39 arm arm' ∧ ((r = 1 ∧ brOK N ∧ ∀ j, j < 11 → arm' 39 j = nI (brB N j)) ∨ (r = 0 ∧ ¬ brOK N)) := fun w => ⟨0, arm, rfl, offA.rf, Or.inr ⟨rfl, w⟩⟩
  by_cases c0 : fpt N = 0
  · rw [brT (by rw [c0]; rfl)]; exact no (fun w => w.1 c0)
  · rw [brF (nI_ne0 (by omega) (by omega))]
    by_cases c1 : 8 < fpt N
    · rw [brT (show (8 : Int32) < nI (fpt N) from nI_lt (a := 8) c1 (by omega))]; exact no (fun w => by have := w.2.1; omega)
    · rw [brF (show ¬ (8 : Int32) < nI (fpt N) from nI_nlt (a := 8) (by omega) (by omega)), hM.1, nI_sub hfl]
      by_cases c2 : 4 < N.length - fpt N
      · rw [brT (show (4 : Int32) < nI (N.length - fpt N) from nI_lt (a := 4) c2 (by omega))]; exact no (fun w => by have := w.2.2.1; omega)
      · rw [brF (show ¬ (4 : Int32) < nI (N.length - fpt N) from nI_nlt (a := 4) (by omega) (by omega))]
        have go : (fpt N < N.length → 2 ≤ N.length - fpt N) → ∃ r arm', M_isBrief_67 nf (nI (fpt N)) fm arm = some (r, fm, arm') ∧ offA 39 arm arm' ∧ ((r = 1 ∧ brOK N ∧ ∀ j, j < 11 → arm' 39 j = nI (brB N j)) ∨ (r = 0 ∧ ¬ brOK N)) := fun h2 => by
          unfold M_isBrief_67
          obtain ⟨arm1, s1, s2, s3⟩ := mbr_fill (nf := nf) (fm := fm) (x1 := nI (fpt N)) 11 0 nf arm (by omega) (by omega) (fun q hq => absurd hq (by omega))
          obtain ⟨r, arm2, t1, t2, t3⟩ := mbr_loop (nf := nf) hN hM.1 (by omega) (by omega) hnf N.length 0 nf arm1 (by omega) (by omega) (fun j hj => by rw [s3 34 (by decide)]; exact hM.2 j hj) (fun q hq => absurd hq (by omega)) (fun j hj => by
            rw [s2 j hj]
            unfold brP
            split
            · rw [if_neg (by omega)]; rfl
            · rw [if_neg (by omega)]; rfl)
          refine ⟨r, arm2, s1.trans t1, s3.tr t2, ?_⟩
          rcases t3 with ⟨w1, w2, w3⟩ | ⟨w1, w2⟩
          · exact Or.inl ⟨w1, ⟨c0, by omega, by omega, h2, w2⟩, w3⟩
          · exact Or.inr ⟨w1, fun w => w2 w.2.2.2.2⟩
        by_cases c3 : N.length ≤ fpt N
        · rw [brT (nI_le c3 (by omega))]; exact go (fun w => by omega)
        · rw [brF (nI_ge (by omega) (by omega))]
          by_cases c4 : 2 ≤ N.length - fpt N
          · rw [brT (show (2 : Int32) ≤ nI (N.length - fpt N) from nI_le (a := 2) c4 (by omega))]; exact go (fun _ => c4)
          · rw [brF (show ¬ (2 : Int32) ≤ nI (N.length - fpt N) from nI_ge (b := 2) (by omega) (by omega))]
            exact no (fun w => by have := w.2.2.2.1 (by omega); omega)
