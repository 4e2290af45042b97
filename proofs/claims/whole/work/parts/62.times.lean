abbrev dayP (x : Int32) : Prop := M_isDay 0 x = some 1
abbrev timP (x : Int32) : Prop := M_isTime 0 x = some 1
abbrev madP (x y z : Int32) : Prop := M_isMade 0 x y z = some 1
theorem br01 {p : Prop} [Decidable p] {a b : Option Int32} (ha : a = some 0 ∨ a = some 1) (hb : b = some 0 ∨ b = some 1) : br p a b = some 0 ∨ br p a b = some 1 := by
  unfold br; split
  · exact ha
  · exact hb
theorem daysOf_some (x y : Int32) : ∃ r, M_daysOf 0 x y = some r := by
  unfold M_daysOf M_daysOf_45 M_daysOf_52
  rw [leap_tot, obnd_some]
  unfold br
  repeat' split
  all_goals exact ⟨_, rfl⟩
theorem day_tot (nf : Nat) (x : Int32) : M_isDay nf x = some (if dayP x then 1 else 0) := by
  have e : M_isDay nf x = M_isDay 0 x := rfl
  have h : M_isDay 0 x = some 0 ∨ M_isDay 0 x = some 1 := by
    unfold M_isDay M_isDay_59 M_isDay_60
    rw [bnd_eq]
    obtain ⟨r, hr⟩ := daysOf_some (x >>> ((5 : Int32) &&& 31) &&& 15) (1980 + x >>> ((9 : Int32) &&& 31))
    rw [hr, obnd_some]
    exact br01 (Or.inl rfl) (br01 (Or.inl rfl) (br01 (Or.inl rfl) (br01 (Or.inl rfl) (br01 (Or.inl rfl) (br01 (Or.inl rfl) (Or.inr rfl))))))
  rw [e]
  rcases h with h | h
  · rw [if_neg (fun q => absurd (h.symm.trans q) (by decide))]; exact h
  · rw [if_pos h]; exact h
theorem tim_tot (nf : Nat) (x : Int32) : M_isTime nf x = some (if timP x then 1 else 0) := by
  have e : M_isTime nf x = M_isTime 0 x := rfl
  have h : M_isTime 0 x = some 0 ∨ M_isTime 0 x = some 1 := by
    unfold M_isTime M_isTime_37 M_isTime_38
    exact br01 (Or.inl rfl) (br01 (Or.inl rfl) (br01 (Or.inl rfl) (br01 (Or.inl rfl) (Or.inr rfl))))
  rw [e]
  rcases h with h | h
  · rw [if_neg (fun q => absurd (h.symm.trans q) (by decide))]; exact h
  · rw [if_pos h]; exact h
theorem mad_tot (nf : Nat) (x y z : Int32) : M_isMade nf x y z = some (if madP x y z then 1 else 0) := by
  have e : M_isMade nf x y z = M_isMade 0 x y z := rfl
  have h : M_isMade 0 x y z = some 0 ∨ M_isMade 0 x y z = some 1 := by
    unfold M_isMade M_isMade_49 M_isMade_50 M_isMade_16
    rw [day_tot, obnd_some, tim_tot, obnd_some]
    exact br01 (br01 (br01 (Or.inr rfl) (Or.inl rfl)) (Or.inl rfl)) (br01 (Or.inl rfl) (br01 (Or.inl rfl) (br01 (Or.inl rfl) (br01 (Or.inl rfl) (Or.inr rfl)))))
  rw [e]
  rcases h with h | h
  · rw [if_neg (fun q => absurd (h.symm.trans q) (by decide))]; exact h
  · rw [if_pos h]; exact h
/-- the days and times of an entry at p are as told -/
abbrev timesOK (d : Nat → Nat) (p : Nat) : Prop := madP (nI (tw d (p + 16))) (nI (tw d (p + 14))) (nI (d (p + 13))) ∧ (tw d (p + 18) = 0 ∨ dayP (nI (tw d (p + 18)))) ∧ dayP (nI (tw d (p + 24))) ∧ timP (nI (tw d (p + 22)))
theorem M_areDays_eq {nf : Nat} {fi : FI} {ar : AR} {d : Nat → Nat} (hd : RD ar d) {p : Nat} (hp : p + 32 ≤ 524288) : M_areDays nf fi ar (nI p) = some ((if timesOK d p then 1 else 0), fi, ar) := by
  have b18 := twR_lt hd (show p + 18 + 1 < 524288 by omega)
  have bad : ¬ timesOK d p → M_areDays_87 nf fi ar = some ((if timesOK d p then 1 else 0), fi, ar) := fun h => by rw [if_neg h]; rfl
  have k55 : madP (nI (tw d (p + 16))) (nI (tw d (p + 14))) (nI (d (p + 13))) → (tw d (p + 18) = 0 ∨ dayP (nI (tw d (p + 18)))) → M_areDays_55 nf (nI p) fi ar = some ((if timesOK d p then 1 else 0), fi, ar) := by
    intro h1 h2
    unfold M_areDays_55
    rw [show nI p + (24 : Int32) = nI (p + 24) from nI_add p 24, show nI p + (22 : Int32) = nI (p + 22) from nI_add p 22, M_two_eq hd (by omega), obnd3_some, day_tot, obnd_some]
    by_cases h3 : dayP (nI (tw d (p + 24)))
    · rw [if_pos h3, brF (by decide), M_two_eq hd (by omega), obnd3_some, tim_tot, obnd_some]
      by_cases h4 : timP (nI (tw d (p + 22)))
      · rw [if_pos h4, brF (by decide), if_pos (show timesOK d p from ⟨h1, h2, h3, h4⟩)]; rfl
      · rw [if_neg h4, brT rfl]; exact bad (fun q => h4 q.2.2.2)
    · rw [if_neg h3, brT rfl]; exact bad (fun q => h3 q.2.2.1)
  unfold M_areDays
  rw [show nI p + (16 : Int32) = nI (p + 16) from nI_add p 16, show nI p + (14 : Int32) = nI (p + 14) from nI_add p 14, show nI p + (13 : Int32) = nI (p + 13) from nI_add p 13, show nI p + (18 : Int32) = nI (p + 18) from nI_add p 18, M_two_eq hd (by omega), obnd3_some, M_two_eq hd (by omega), obnd3_some, M_one_eq hd (by omega), obnd3_some, mad_tot, obnd_some]
  by_cases h1 : madP (nI (tw d (p + 16))) (nI (tw d (p + 14))) (nI (d (p + 13)))
  · rw [if_pos h1, brF (by decide), M_two_eq hd (by omega), obnd3_some]
    by_cases h2 : tw d (p + 18) = 0
    · rw [brT (show nI (tw d (p + 18)) = 0 by rw [h2]; rfl)]; exact k55 h1 (Or.inl h2)
    · rw [brF (show ¬ nI (tw d (p + 18)) = 0 from nI_ne0 (by omega) (by omega)), M_two_eq hd (by omega), obnd3_some, day_tot, obnd_some]
      by_cases h3 : dayP (nI (tw d (p + 18)))
      · rw [if_pos h3, brF (by decide)]; exact k55 h1 (Or.inr h3)
      · rw [if_neg h3, brT rfl]; exact bad (fun q => q.2.1.elim h2 h3)
  · rw [if_neg h1, brT rfl]; exact bad (fun q => h1 q.1)
theorem FX0_timesAsTold_eq {nf : Nat} {ln : LN} {fi : FI} {ar : AR} {d : Nat → Nat} (hd : CD ln ar d) {p : Nat} (hp : p + 32 ≤ 4 * ln 0) : FX0_timesAsTold nf ln fi ar (nI p) = some ((if timesOK d p then 1 else 0), fi, ar) := by
  have hl := hd.1
  have b18 := twC_lt hd (show p + 18 + 1 < 4 * ln 0 by omega)
  have bad : ¬ timesOK d p → FX0_timesAsTold_100 nf ln fi ar = some ((if timesOK d p then 1 else 0), fi, ar) := fun h => by rw [if_neg h]; rfl
  have k55 : madP (nI (tw d (p + 16))) (nI (tw d (p + 14))) (nI (d (p + 13))) → (tw d (p + 18) = 0 ∨ dayP (nI (tw d (p + 18)))) → FX0_timesAsTold_62 nf ln (nI p) fi ar = some ((if timesOK d p then 1 else 0), fi, ar) := by
    intro h1 h2
    unfold FX0_timesAsTold_62
    rw [show nI p + (24 : Int32) = nI (p + 24) from nI_add p 24, show nI p + (22 : Int32) = nI (p + 22) from nI_add p 22, FX3_two_eq hd (by omega), obnd3_some, day_eq, day_tot, obnd_some]
    by_cases h3 : dayP (nI (tw d (p + 24)))
    · rw [if_pos h3, brF (by decide), FX3_two_eq hd (by omega), obnd3_some, time_eq, tim_tot, obnd_some]
      by_cases h4 : timP (nI (tw d (p + 22)))
      · rw [if_pos h4, brF (by decide), if_pos (show timesOK d p from ⟨h1, h2, h3, h4⟩)]; rfl
      · rw [if_neg h4, brT rfl]; exact bad (fun q => h4 q.2.2.2)
    · rw [if_neg h3, brT rfl]; exact bad (fun q => h3 q.2.2.1)
  unfold FX0_timesAsTold
  rw [show nI p + (16 : Int32) = nI (p + 16) from nI_add p 16, show nI p + (14 : Int32) = nI (p + 14) from nI_add p 14, show nI p + (13 : Int32) = nI (p + 13) from nI_add p 13, show nI p + (18 : Int32) = nI (p + 18) from nI_add p 18, FX3_two_eq hd (by omega), obnd3_some, FX3_two_eq hd (by omega), obnd3_some, FX3_two_eq hd (by omega), obnd3_some, FX3_one_eq hd (by omega), obnd3_some, made_eq, mad_tot, obnd_some]
  by_cases h1 : madP (nI (tw d (p + 16))) (nI (tw d (p + 14))) (nI (d (p + 13)))
  · rw [if_pos h1, brF (by decide)]
    by_cases h2 : tw d (p + 18) = 0
    · rw [brT (show nI (tw d (p + 18)) = 0 by rw [h2]; rfl)]; exact k55 h1 (Or.inl h2)
    · rw [brF (show ¬ nI (tw d (p + 18)) = 0 from nI_ne0 (by omega) (by omega)), day_eq, day_tot, obnd_some]
      by_cases h3 : dayP (nI (tw d (p + 18)))
      · rw [if_pos h3, brF (by decide)]; exact k55 h1 (Or.inr h3)
      · rw [if_neg h3, brT rfl]; exact bad (fun q => q.2.1.elim h2 h3)
  · rw [if_neg h1, brT rfl]; exact bad (fun q => h1 q.1)
