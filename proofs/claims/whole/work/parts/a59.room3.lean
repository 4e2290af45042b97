/-! make: where the entry goes -/
/-- the first of the slots that are to be had: m slots to look at, s the next, fr the first of the run -/
def rmA (d A : Nat → Nat) (E want : Nat) : Nat → Nat → Nat → Nat
  | 0, _, fr => fr
  | m + 1, s, fr => if want ≤ s - fr then fr else rmA d A E want m (s + 1) (if s < E ∧ d (A s) ≠ 229 then s + 1 else fr)
theorem rmA_ok {d A : Nat → Nat} {E want S : Nat} : ∀ (m s fr : Nat), s + m = S → fr ≤ s → s - fr ≤ want → (∀ t, fr ≤ t → t < s → t < E → d (A t) = 229) → (fr = 0 ∨ (fr ≤ E ∧ 0 < fr)) → (rmA d A E want m s fr ≤ S ∧ (∀ t, rmA d A E want m s fr ≤ t → t < rmA d A E want m s fr + want → t < S → t < E → d (A t) = 229) ∧ (rmA d A E want m s fr = 0 ∨ (rmA d A E want m s fr ≤ E ∧ 0 < rmA d A E want m s fr)))
  | 0, s, fr, h1, h2, h3, h4, h5 => ⟨by rw [rmA]; omega, fun t t1 t2 t3 t4 => by rw [rmA] at t1; exact h4 t t1 (by omega) t4, by rw [rmA]; exact h5⟩
  | m + 1, s, fr, h1, h2, h3, h4, h5 => by
    rw [rmA]
    by_cases c : want ≤ s - fr
    · rw [if_pos c]
      exact ⟨by omega, fun t t1 t2 t3 t4 => h4 t t1 (by omega) t4, h5⟩
    · rw [if_neg c]
      by_cases q : s < E ∧ d (A s) ≠ 229
      · rw [if_pos q]
        exact rmA_ok m (s + 1) (s + 1) (by omega) (by omega) (by omega) (fun t t1 t2 => by omega) (Or.inr ⟨by omega, by omega⟩)
      · rw [if_neg q]
        refine rmA_ok m (s + 1) fr (by omega) (by omega) (by omega) (fun t t1 t2 t3 => ?_) h5
        by_cases e : t = s
        · rw [e] at t3 ⊢
          exact Decidable.byContradiction (fun w => q ⟨t3, w⟩)
        · exact h4 t t1 (by omega) t3
theorem roomC_loop {nf : Nat} {ln : LN} {fi : FI} {ar : AR} {G : Geo} {d : Nat → Nat} {l : List Nat} {E want : Nat} (hW : CW ln fi ar G d) (hl : clu G l) (hln : l.length ≤ ln 10) (hD : DC fi ar 0 G l) (h22 : fi 22 = nI E) (hE : E ≤ l.length * (16 * G.c)) (hw : 1 ≤ want) (hw2 : want < 1000) : ∀ (m s fr kf : Nat), s + m = l.length * (16 * G.c) → fr ≤ s → s - fr < want → m < kf → FX2_roomFor_4 nf ln 0 kf (nI want) (nI (s - fr)) (nI s) fi ar = some (nI (rmA d (sa G l) E want m s fr), fi, ar) := by
  have hG := hW.2.2.1
  have b := hG.b
  have hlen := hl.len
  have hS : l.length * (16 * G.c) ≤ 65536 := Nat.le_trans (Nat.mul_le_mul hlen (Nat.le_refl _)) (Nat.le_trans (Nat.mul_le_mul (show G.k ≤ 512 by omega) (show 16 * G.c ≤ 128 by omega)) (by omega))
  have h21 : fi (21 + 10 * 0) = nI (l.length * (16 * G.c)) := hD.2.1
  have h22' : fi (22 + 10 * 0) = nI E := h22
  intro m
  induction m with
  | zero =>
    intro s fr kf hs hfr hrun hk
    obtain ⟨kf, rfl⟩ : ∃ k, kf = k + 1 := ⟨kf - 1, by omega⟩
    rw [show FX2_roomFor_4 nf ln 0 (kf + 1) = FX2_roomFor_4b (FX2_roomFor_4 nf ln 0 kf) nf ln 0 from rfl]
    unfold FX2_roomFor_4b
    rw [h21, brT (nI_le (by omega) (by omega)), nI_sub (by omega), rmA, show l.length * (16 * G.c) - (s - fr) = fr by omega]
  | succ m ih =>
    intro s fr kf hs hfr hrun hk
    obtain ⟨kf, rfl⟩ : ∃ k, kf = k + 1 := ⟨kf - 1, by omega⟩
    rw [show FX2_roomFor_4 nf ln 0 (kf + 1) = FX2_roomFor_4b (FX2_roomFor_4 nf ln 0 kf) nf ln 0 from rfl]
    unfold FX2_roomFor_4b FX2_roomFor_42 FX2_roomFor_43 FX2_roomFor_57
    have hs1 : nI s + (1 : Int32) = nI (s + 1) := nI_add s 1
    have hin := slot_in hG hl (s := s) (by omega)
    have hd := hW.1.lt (p := sa G l s) (by have := hW.2.2.2; omega)
    rw [h21, brF (nI_ge (by omega) (by omega)), h22', rmA, if_neg (by omega)]
    -- not taken
    have free : ¬ (s < E ∧ d (sa G l s) ≠ 229) → br (nI (s - fr) + 1 = nI want) (some (nI s + 1 - nI want, fi, ar)) (bnd (nI s + 1) fun x3_2 => FX2_roomFor_4 nf ln 0 kf (nI want) (nI (s - fr) + 1) x3_2 fi ar) = some (nI (rmA d (sa G l) E want m (s + 1) (if s < E ∧ d (sa G l s) ≠ 229 then s + 1 else fr)), fi, ar) := fun hq => by
      rw [if_neg hq, show nI (s - fr) + (1 : Int32) = nI (s - fr + 1) from nI_add _ 1, hs1, bnd_eq]
      by_cases c : s - fr + 1 = want
      · have e : rmA d (sa G l) E want m (s + 1) fr = fr := by
          cases m with
          | zero => rfl
          | succ m => rw [rmA, if_pos (by omega)]
        rw [brT (by rw [c]), nI_sub (by omega), e, show s + 1 - want = fr by omega]
      · rw [brF (fun w => c ((nI_eq (by omega) (by omega)).mp w)), show s - fr + 1 = s + 1 - fr by omega]
        exact ih (s + 1) fr kf (by omega) (by omega) (by omega) (by omega)
    by_cases c1 : E ≤ s
    · rw [brT (nI_le c1 (by omega)), brT rfl]
      exact free (fun w => by omega)
    · rw [brF (nI_ge (by omega) (by omega)), slotAddress_eq hG hl hD hln (by omega), obnd3_some, FX3_one_eq hW.1 (by have := hW.2.2.2; omega), obnd3_some]
      by_cases c2 : d (sa G l s) = 229
      · rw [brT (show nI (d (sa G l s)) = (229 : Int32) by rw [c2]; rfl), brT rfl]
        exact free (fun w => w.2 c2)
      · rw [brF (show ¬ nI (d (sa G l s)) = (229 : Int32) from fun w => c2 ((nI_eq (b := 229) (by omega) (by omega)).mp w)), brF (show ¬ (1 : Int32) = 0 by decide), if_pos ⟨by omega, c2⟩, brF (show ¬ (0 : Int32) = nI want from fun w => nI_ne0 (show 0 < want by omega) (by omega) w.symm), bnd_eq, hs1]
        have := ih (s + 1) (s + 1) kf (by omega) (by omega) (by omega) (by omega)
        rw [Nat.sub_self] at this
        exact this
theorem roomFor_eq {nf : Nat} {ln : LN} {fi : FI} {ar : AR} {G : Geo} {d : Nat → Nat} {l : List Nat} {E want : Nat} (hW : CW ln fi ar G d) (hl : clu G l) (hln : l.length ≤ ln 10) (hD : DC fi ar 0 G l) (h22 : fi 22 = nI E) (hE : E ≤ l.length * (16 * G.c)) (hw : 1 ≤ want) (hw2 : want < 1000) (hnf : 70000 ≤ nf) : FX2_roomFor nf ln 0 fi ar (nI want) = some (nI (rmA d (sa G l) E want (l.length * (16 * G.c)) 0 0), fi, ar) := by
  have b := hW.2.2.1.b
  have hlen := hl.len
  have hS : l.length * (16 * G.c) ≤ 65536 := Nat.le_trans (Nat.mul_le_mul hlen (Nat.le_refl _)) (Nat.le_trans (Nat.mul_le_mul (show G.k ≤ 512 by omega) (show 16 * G.c ≤ 128 by omega)) (by omega))
  exact roomC_loop hW hl hln hD h22 hE hw hw2 _ 0 0 nf (by omega) (by omega) (by omega) (by omega)
/-- the clusters that so many slots want more than there are -/
def msC (G : Geo) (S w : Nat) : Nat := (w - S + 16 * G.c - 1) / (16 * G.c)
theorem missing_eq {nf : Nat} {ln : LN} {fi : FI} {ar : AR} {G : Geo} {l : List Nat} {w : Nat} (hG : GOK G) (hl : clu G l) (hD : DC fi ar 0 G l) (hw : w < 100000) : FX2_clustersMissing nf ln 0 fi ar (nI w) = some (nI (msC G (l.length * (16 * G.c)) w), fi, ar) := by
  have b := hG.b
  have hc := hG.1.1
  have hlen := hl.len
  have hS : l.length * (16 * G.c) ≤ 65536 := Nat.le_trans (Nat.mul_le_mul hlen (Nat.le_refl _)) (Nat.le_trans (Nat.mul_le_mul (show G.k ≤ 512 by omega) (show 16 * G.c ≤ 128 by omega)) (by omega))
  have h21 : fi (21 + 10 * 0) = nI (l.length * (16 * G.c)) := hD.2.1
  have h25 : fi (25 + 10 * 0) = nI (shC G.c + 4) := hD.2.2.1
  unfold FX2_clustersMissing FX2_clustersMissing_25 msC
  rw [bnd_eq, h21, h25]
  by_cases c : w ≤ l.length * (16 * G.c)
  · have hneg : ¬ 0 < nI w - nI (l.length * (16 * G.c)) := by
      by_cases e : w = l.length * (16 * G.c)
      · rw [e, nI_sub (Nat.le_refl _), Nat.sub_self]; decide
      · intro w2
        rw [Int32.lt_iff_toInt_lt, Int32.toInt_sub, nI_toInt (by omega), nI_toInt (by omega), Int32.toInt_zero, Int.bmod_def] at w2
        split at w2 <;> omega
    rw [brF hneg, show w - l.length * (16 * G.c) = 0 by omega, Nat.zero_add, Nat.div_eq_of_lt (by omega)]; rfl
  · rw [nI_sub (by omega), brT (show (0 : Int32) < nI (w - l.length * (16 * G.c)) from nI_lt (a := 0) (by omega) (by omega)), show nI (w - l.length * (16 * G.c)) - (1 : Int32) = nI (w - l.length * (16 * G.c) - 1) from nI_sub (b := 1) (by omega), sh4 hc (by omega), show nI ((w - l.length * (16 * G.c) - 1) / (16 * G.c)) + (1 : Int32) = nI ((w - l.length * (16 * G.c) - 1) / (16 * G.c) + 1) from nI_add _ 1]
    congr 3
    rw [← Nat.add_div_right _ (show 0 < 16 * G.c by omega)]
    congr 1
    omega
