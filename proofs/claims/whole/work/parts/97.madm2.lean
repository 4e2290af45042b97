/-! the model judges an entry -/
theorem RW.off {fi fi' : FI} {ar ar' : AR} {G : Geo} {d : Nat → Nat} (h : RW fi ar G d) {S T : List Nat} (hf : offF S fi fi') (ha : offAs T ar ar') (hS : ∀ j, j ∈ S → j ∉ [0, 7, 8, 9, 10, 11, 12, 13]) (hT : ∀ j, j ∈ T → j ≠ 1) : RW fi' ar' G d := by
  refine ⟨fun p hp => ?_, ?_, h.2.2⟩
  · rw [ha 1 (fun q => hT 1 q rfl)]; exact h.1 p hp
  · have e : ∀ j, j ∈ [0, 7, 8, 9, 10, 11, 12, 13] → fi' j = fi j := fun j hj => hf j (fun q => hS j q hj)
    unfold RG
    rw [e 0 (by simp), e 7 (by simp), e 8 (by simp), e 9 (by simp), e 10 (by simp), e 11 (by simp), e 12 (by simp), e 13 (by simp)]
    exact h.2.1
theorem mkR.off {ar ar' : AR} {ms : List Nat} (h : mkR ar ms) {T : List Nat} (ha : offAs T ar ar') (hT : 19 ∉ T) : mkR ar' ms := fun x hx => by rw [ha 19 hT]; exact h x hx
/-- whether the model has met a label -/
def LBL (fi : FI) (lb : Nat) : Prop := (lb = 0 ∧ fi 33 = -1) ∨ (lb ≠ 0 ∧ ∃ x, x < 2147483648 ∧ fi 33 = nI x)
theorem LBL.br {fi : FI} {lb : Nat} (h : LBL fi lb) (o1 o2 : Option (Int32 × FI × AR)) : br (0 ≤ fi 33) o1 o2 = if lb = 0 then o2 else o1 := by
  rcases h with ⟨h1, h2⟩ | ⟨h1, x, h2, h3⟩
  · rw [h2, if_pos h1, brF (by decide)]
  · rw [h3, if_neg h1, brT (show (0 : Int32) ≤ nI x from nI_le (a := 0) (Nat.zero_le _) h2)]
/-- the model's way with a label, and with an item -/
noncomputable def admL (nf : Nat) (x1 x2 r94 : Int32) (fi97 : FI) (ar98 : AR) : Option (Int32 × FI × AR) := br (((r94) &&& (16)) = 0) (br (0 < (x2)) (M_admit_89 nf  (x1) fi97 ar98) (br (0 ≤ (fi97 33)) (M_admit_89 nf  (x1) fi97 ar98) (br (0 < (fi97 36)) (M_admit_89 nf  (x1) fi97 ar98) (obnd3 (M_firstOf nf fi97 ar98 (x1)) fun r120 fi118 ar119 => br ((r120) = 0) (obnd3 (M_four nf fi118 ar119 ((x1) + (28))) fun r125 fi123 ar124 => br ((r125) = 0) (obnd3 (M_isShort nf fi123 ar124 (x1) (1)) fun r130 fi128 ar129 => br ((r130) = 0) (M_admit_89 nf  (x1) fi128 ar129) (M_admit_94 nf  (x1) (0) fi128 ar129)) (M_admit_89 nf  (x1) fi123 ar124)) (M_admit_89 nf  (x1) fi118 ar119))))) (M_admit_89 nf  (x1) fi97 ar98)
noncomputable def admI (nf : Nat) (x1 x2 x3 r94 : Int32) (fi97 : FI) (ar98 : AR) : Option (Int32 × FI × AR) := obnd3 (M_isShort nf fi97 ar98 (x1) (0)) fun r105 fi103 ar104 => br ((r105) = 0) (M_admit_140 nf  (x1) (x2) (x3) (r94) fi103 ar104) (br (((r94) &&& (16)) = 0) (M_admit_144 nf  (x1) (x2) (x3) (r94) fi103 ar104) (obnd3 (M_four nf fi103 ar104 ((x1) + (28))) fun r111 fi109 ar110 => br ((r111) = 0) (M_admit_144 nf  (x1) (x2) (x3) (r94) fi109 ar110) (M_admit_140 nf  (x1) (x2) (x3) (r94) fi109 ar110)))
theorem admit_unf {nf : Nat} {fi : FI} {ar : AR} {d : Nat → Nat} {p : Nat} (hd : RD ar d) (hp : p + 32 ≤ 524288) (x2 x3 : Int32) : M_admit nf fi ar (nI p) x2 x3 = if d (p + 11) ≤ 63 ∧ timesOK d p then (if d (p + 11) / 8 % 2 = 1 then admL nf (nI p) x2 (nI (d (p + 11))) fi ar else admI nf (nI p) x2 x3 (nI (d (p + 11))) fi ar) else some (4, fi, ar) := by
  have b11 := hd.lt (show p + 11 < 524288 by omega)
  have had := M_areDays_eq (nf := nf) (fi := fi) hd hp
  unfold M_admit M_admit_25
  rw [show nI p + (11 : Int32) = nI (p + 11) from nI_add p 11, M_one_eq hd (by omega), obnd3_some, show (63 : Int32) = nI 63 from rfl, zlt (by omega) (by omega)]
  by_cases q1 : d (p + 11) ≤ 63
  · rw [if_neg (by omega), had, obnd3_some]
    by_cases q2 : timesOK d p
    · rw [if_pos (And.intro q1 q2)]
      simp only [if_pos q2]
      rw [brF (by decide), zbit8 b11]
      by_cases q3 : d (p + 11) / 8 % 2 = 1
      · rw [if_pos q3, q3, brF (by decide)]; rfl
      · rw [if_neg q3, show d (p + 11) / 8 % 2 = 0 by omega, brT (show nI (0 * 8) = (0 : Int32) from rfl)]; rfl
    · rw [if_neg (show ¬ (d (p + 11) ≤ 63 ∧ timesOK d p) from fun w => q2 w.2)]
      simp only [if_neg q2]
      rw [brT trivial]
  · rw [if_pos (by omega), if_neg (show ¬ (d (p + 11) ≤ 63 ∧ timesOK d p) from fun w => q1 w.1)]
theorem admit_label {nf : Nat} {fi : FI} {ar : AR} {G : Geo} {d A : Nat → Nat} {z s i lb : Nat} (h : RW fi ar G d) (hp : A s + 32 ≤ 524288) (hi : i < 16400) (hiz : i = 0 ↔ z = 0) (hlb : i = 0 → LBL fi lb) (h36 : fi 36 = nI (rn d A z s)) (hrn : rn d A z s < 65536) (hlbl : lb = lbl d A z s) (hL : d (A s + 11) / 8 % 2 = 1) (hnf : 20 ≤ nf) : ∃ fi' r, M_admit nf fi ar (nI (A s)) (nI i) (nI s) = some (nI r, fi', ar) ∧ offF [33] fi fi' ∧ ((r = 0 ∧ l4 d A z s ∧ fi' 33 = nI (A s)) ∨ (r = 4 ∧ ¬ l4 d A z s)) := by
  have hd := h.1
  obtain ⟨p, hpe⟩ : ∃ p, p = A s := ⟨_, rfl⟩
  have b11 := hd.lt (show p + 11 < 524288 by omega)
  have f28 := foR_lt hd (show p + 28 + 3 < 524288 by omega)
  have bf : fcl d p < 4294967296 := by
    have h1 := twR_lt hd (show p + 20 + 1 < 524288 by omega)
    have h2 := twR_lt hd (show p + 26 + 1 < 524288 by omega)
    unfold fcl; omega
  have hish : M_isShort nf fi ar (nI p) 1 = some ((if shOK d p True then 1 else 0), fi, ar) := M_isShort_eq (nf := nf) (fi := fi) hd (show p + 32 ≤ 524288 by omega) True (lb := 1) (by omega) ⟨fun _ => trivial, fun _ => by omega⟩ hnf
  have hl4 : l4 d A z s ↔ d (p + 11) ≤ 63 ∧ timesOK d p ∧ shOK d p True ∧ ¬ isDr d p ∧ fcl d p = 0 ∧ fo d (p + 28) = 0 ∧ rn d A z s = 0 ∧ z = 0 ∧ lb = 0 := by rw [hpe, hlbl]
  rw [← hpe] at hL ⊢
  have bad : ¬ l4 d A z s → M_admit nf fi ar (nI p) (nI i) (nI s) = M_admit_89 nf (nI p) fi ar → ∃ fi' r, M_admit nf fi ar (nI p) (nI i) (nI s) = some (nI r, fi', ar) ∧ offF [33] fi fi' ∧ ((r = 0 ∧ l4 d A z s ∧ fi' 33 = nI p) ∨ (r = 4 ∧ ¬ l4 d A z s)) := by
    intro w e
    refine ⟨va_up fi 33 (nI p), 4, ?_, offF.rf.up (by simp), Or.inr ⟨rfl, w⟩⟩
    rw [e]
    unfold M_admit_89 M_admit_94 M_admit_111
    rw [bnd_eq, brF (by decide)]; rfl
  have unf := admit_unf (nf := nf) (fi := fi) hd (show p + 32 ≤ 524288 by omega) (nI i) (nI s)
  by_cases q1 : d (p + 11) ≤ 63 ∧ timesOK d p
  · rw [if_pos q1, if_pos hL] at unf
    unfold admL at unf
    by_cases q3 : d (p + 11) / 16 % 2 = 0
    · rw [zbit16 b11, q3, brT (show nI (0 * 16) = (0 : Int32) from rfl)] at unf
      by_cases q4 : i = 0
      · have hlbr := (hlb q4).br
        rw [q4, brF (by decide), hlbr, h36] at unf
        by_cases q5 : lb = 0
        · rw [if_pos q5] at unf
          by_cases q6 : rn d A z s = 0
          · rw [q6, brF (by decide), M_firstOf_eq hd (by omega), obnd3_some] at unf
            by_cases q7 : fcl d p = 0
            · rw [brT (show nI (fcl d p) = 0 by rw [q7]; rfl), show nI p + (28 : Int32) = nI (p + 28) from nI_add p 28, M_four_eq hd (by omega), obnd3_some] at unf
              by_cases q8 : fo d (p + 28) = 0
              · rw [brT (show nI (fo d (p + 28)) = 0 by rw [q8]; rfl), hish, obnd3_some] at unf
                by_cases q9 : shOK d p True
                · simp only [if_pos q9] at unf
                  rw [brF (by decide)] at unf
                  have hok : l4 d A z s := hl4.mpr ⟨q1.1, q1.2, q9, fun w => by have : d (p + 11) / 16 % 2 = 1 := w; omega, q7, q8, q6, hiz.mp q4, q5⟩
                  refine ⟨va_up fi 33 (nI p), 0, ?_, offF.rf.up (by simp), Or.inl ⟨rfl, hok, va_up_self _ _ _⟩⟩
                  rw [q4, unf]
                  unfold M_admit_94 M_admit_111
                  rw [bnd_eq, brT rfl]; rfl
                · simp only [if_neg q9] at unf
                  rw [brT trivial] at unf
                  exact bad (fun w => q9 (hl4.mp w).2.2.1) (by rw [q4]; exact unf)
              · rw [brF (show ¬ nI (fo d (p + 28)) = (0 : Int32) from fun w => q8 ((uI_eq (b := 0) (by omega) (by omega)).mp w))] at unf
                exact bad (fun w => q8 (hl4.mp w).2.2.2.2.2.1) (by rw [q4]; exact unf)
            · rw [brF (show ¬ nI (fcl d p) = (0 : Int32) from fun w => q7 ((uI_eq (b := 0) (by omega) (by omega)).mp w))] at unf
              exact bad (fun w => q7 (hl4.mp w).2.2.2.2.1) (by rw [q4]; exact unf)
          · rw [brT (show (0 : Int32) < nI (rn d A z s) from nI_lt (a := 0) (by omega) (by omega))] at unf
            exact bad (fun w => q6 (hl4.mp w).2.2.2.2.2.2.1) (by rw [q4]; exact unf)
        · rw [if_neg q5] at unf
          exact bad (fun w => q5 (hl4.mp w).2.2.2.2.2.2.2.2) (by rw [q4]; exact unf)
      · rw [brT (show (0 : Int32) < nI i from nI_lt (a := 0) (by omega) (by omega))] at unf
        exact bad (fun w => q4 (hiz.mpr (hl4.mp w).2.2.2.2.2.2.2.1)) unf
    · have q3' : d (p + 11) / 16 % 2 = 1 := by omega
      rw [zbit16 b11, q3', brF (by decide)] at unf
      exact bad (fun w => (hl4.mp w).2.2.2.1 q3') unf
  · rw [if_neg q1] at unf
    exact ⟨fi, 4, unf, offF.rf, Or.inr ⟨rfl, fun w => q1 ⟨(hl4.mp w).1, (hl4.mp w).2.1⟩⟩⟩
/-- the model's state while it scans folder i -/
def MX (fi : FI) (ar : AR) (G : Geo) (d A : Nat → Nat) (b i : Nat) (its : List (Nat × Nat)) (U : Nat) (ms : List Nat) : Prop := RW fi ar G d ∧ MIT ar d A b i its U ∧ fi 17 = nI (b + its.length) ∧ fi 18 = nI U ∧ ar 25 i = nI b ∧ ar 24 i = nI its.length ∧ mkR ar ms ∧ clu G ms
theorem NMU.off {ar ar' : AR} {j U : Nat} {l : List Nat} (h : NMU ar j l U) {T : List Nat} (ha : offAs T ar ar') (hT : 26 ∉ T ∧ 27 ∉ T ∧ 28 ∉ T) : NMU ar' j l U := by
  obtain ⟨u, u1, u2, u3, u4⟩ := h
  exact ⟨u, by rw [ha 26 hT.1]; exact u1, by rw [ha 27 hT.2.1]; exact u2, u3, fun x hx => by rw [ha 28 hT.2.2]; exact u4 x hx⟩
theorem MX.off {fi fi' : FI} {ar ar' : AR} {G : Geo} {d A : Nat → Nat} {b i U : Nat} {its : List (Nat × Nat)} {ms : List Nat} (h : MX fi ar G d A b i its U ms) {S T : List Nat} (hf : offF S fi fi') (ha : offAs T ar ar') (hS : ∀ j, j ∈ S → j ∉ [0, 7, 8, 9, 10, 11, 12, 13, 17, 18]) (hT : ∀ j, j ∈ T → j ∉ [1, 19, 20, 21, 22, 23, 24, 25, 26, 27, 28]) : MX fi' ar' G d A b i its U ms := by
  obtain ⟨h1, h2, h3, h4, h5, h6, h7, h8⟩ := h
  have t : ∀ j, j ∈ [1, 19, 20, 21, 22, 23, 24, 25, 26, 27, 28] → j ∉ T := fun j hj q => hT j q hj
  refine ⟨h1.off hf ha (fun j hj q => hS j hj (by simp at q ⊢; omega)) (fun j hj e => hT j hj (by rw [e]; simp)), fun q hq => ?_, ?_, ?_, ?_, ?_, h7.off ha (t 19 (by simp)), h8⟩
  · obtain ⟨a1, a2, a3, a4, a5⟩ := h2 q hq
    rw [ha 20 (t 20 (by simp)), ha 21 (t 21 (by simp)), ha 22 (t 22 (by simp)), ha 23 (t 23 (by simp))]
    exact ⟨a1, a2, a3, a4, a5.off ha ⟨t 26 (by simp), t 27 (by simp), t 28 (by simp)⟩⟩
  · rw [hf 17 (fun q => hS 17 q (by simp))]; exact h3
  · rw [hf 18 (fun q => hS 18 q (by simp))]; exact h4
  · rw [ha 25 (t 25 (by simp))]; exact h5
  · rw [ha 24 (t 24 (by simp))]; exact h6
