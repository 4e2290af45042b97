/-! the model judges an entry that is no label -/
theorem sgn_uok {x : Nat} (h : sgn x) : uok x := by
  have hl := sgn_lt h
  refine ⟨by omega, hl.2.2.2, by omega, by omega, fun hm => ?_⟩
  have k : ∀ y, y ∈ sNat.getD 1 [] → ¬ sgn y := by decide
  exact k x hm h
theorem shw_ok {d : Nat → Nat} {p : Nat} (h : ∀ i, i < 11 → d (p + i) ≠ 32 → sgn (d (p + i))) (h0 : d p ≠ 32) : ∀ q, q < 11 → (∀ x, x ∈ shw d p (q + 1) → uok x) ∧ 1 ≤ (shw d p (q + 1)).length ∧ sgn ((shw d p (q + 1)).getD ((shw d p (q + 1)).length - 1) 0) := by
  intro q
  induction q with
  | zero =>
    intro _
    have e : shw d p 1 = [d p] := by
      rw [shw, shw, if_neg (fun w => by omega), if_neg (by rw [Nat.add_zero]; exact h0)]; rfl
    have hs : sgn (d p) := h 0 (by omega) (by rw [Nat.add_zero]; exact h0)
    rw [e]
    exact ⟨fun x hx => by rw [List.mem_singleton.mp hx]; exact sgn_uok hs, by simp, by simpa using hs⟩
  | succ q ih =>
    intro hq
    obtain ⟨i1, i2, i3⟩ := ih (by omega)
    rw [shw]
    by_cases c : d (p + (q + 1)) = 32
    · rw [if_pos c, if_neg (fun w => w.2 (by rw [← w.1]; exact c)), List.append_nil, List.append_nil]
      exact ⟨i1, i2, i3⟩
    · have hs := h (q + 1) hq c
      rw [if_neg c]
      refine ⟨fun x hx => ?_, ?_, ?_⟩
      · rcases List.mem_append.mp hx with w | w
        · exact i1 x w
        · rcases List.mem_append.mp w with w | w
          · by_cases c8 : q + 1 = 8 ∧ d (p + 8) ≠ 32
            · rw [if_pos c8] at w; rw [List.mem_singleton.mp w]; decide
            · rw [if_neg c8] at w; exact absurd w (by simp)
          · rw [List.mem_singleton.mp w]; exact sgn_uok hs
      · rw [List.length_append]; omega
      · rw [← List.append_assoc, List.length_append, getD_app1, if_pos (by simp)]; exact hs
theorem sh_nm {d A : Nat → Nat} {s : Nat} (h : shOK d (A s) False) : nmOK (nm d A s 0) := by
  unfold nm
  rw [if_pos rfl]
  obtain ⟨a1, a2, a3⟩ : (∀ x, x ∈ shw d (A s) 11 → uok x) ∧ 1 ≤ (shw d (A s) 11).length ∧ sgn ((shw d (A s) 11).getD ((shw d (A s) 11).length - 1) 0) := shw_ok (fun i hi hb => (h.2 i hi hb).1) h.1 10 (by omega)
  have hlen := shw_len d (A s) 11
  rw [if_pos (by omega)] at hlen
  have hl := sgn_lt a3
  exact ⟨a2, by omega, a1, by omega, hl.2.2.1⟩
theorem MIT.push {ar ar' : AR} {d A : Nat → Nat} {b i U U' s np : Nat} {its : List (Nat × Nat)} (h : MIT ar d A b i its U) (hU : U ≤ U') (ho : ∀ k, k ∈ [20, 21, 22, 23, 26, 27] → ∀ j, j ≠ b + its.length → ar' k j = ar k j) (h28 : ∀ j, j < U → ar' 28 j = ar 28 j) (n20 : ar' 20 (b + its.length) = nI (A s)) (n21 : ar' 21 (b + its.length) = nI s) (n22 : ar' 22 (b + its.length) = nI np) (n23 : ar' 23 (b + its.length) = nI i) (nn : NMU ar' (b + its.length) (nm d A s np) U') : MIT ar' d A b i (its ++ [(s, np)]) U' := by
  intro q hq
  rw [List.length_append] at hq
  simp only [List.length_cons, List.length_nil] at hq
  rw [getD_app2]
  by_cases e : q = its.length
  · rw [if_pos e, e]
    exact ⟨n20, n21, n22, n23, nn⟩
  · rw [if_neg e]
    obtain ⟨a1, a2, a3, a4, u, u1, u2, u3, u4⟩ := h q (by omega)
    rw [ho 20 (by simp) _ (by omega), ho 21 (by simp) _ (by omega), ho 22 (by simp) _ (by omega), ho 23 (by simp) _ (by omega)]
    exact ⟨a1, a2, a3, a4, u, by rw [ho 26 (by simp) _ (by omega)]; exact u1, by rw [ho 27 (by simp) _ (by omega)]; exact u2, by omega, fun x hx => by rw [h28 _ (by omega)]; exact u4 x hx⟩
/-- what a scan of folder i, from item b and unit U on, leaves as it is -/
def KP (i b U : Nat) (ar ar' : AR) : Prop := (∀ k, k ∈ [20, 21, 22, 23, 26, 27] → ∀ j, j < b → ar' k j = ar k j) ∧ (∀ j, j < U → ar' 28 j = ar 28 j) ∧ ∀ j, j ≠ i → ar' 24 j = ar 24 j
theorem KP.rf {i b U : Nat} {ar : AR} : KP i b U ar ar := ⟨fun _ _ _ _ => rfl, fun _ _ => rfl, fun _ _ => rfl⟩
theorem KP.tr {i b U U' : Nat} {a1 a2 a3 : AR} (h1 : KP i b U a1 a2) (hU : U ≤ U') (h2 : KP i b U' a2 a3) : KP i b U a1 a3 := ⟨fun k hk j hj => (h2.1 k hk j hj).trans (h1.1 k hk j hj), fun j hj => (h2.2.1 j (by omega)).trans (h1.2.1 j hj), fun j hj => (h2.2.2 j hj).trans (h1.2.2 j hj)⟩
theorem KP.off {i b U : Nat} {ar ar' : AR} {T : List Nat} (ha : offAs T ar ar') (hT : ∀ j, j ∈ T → j ∉ [20, 21, 22, 23, 24, 26, 27, 28]) : KP i b U ar ar' := ⟨fun k hk j hj => by rw [ha k (fun w => hT k w (by simp at hk ⊢; omega))], fun j hj => by rw [ha 28 (fun w => hT 28 w (by simp))], fun j hj => by rw [ha 24 (fun w => hT 24 w (by simp))]⟩
/-- what an item that is taken in leaves -/
def ADM (G : Geo) (d A : Nat → Nat) (b i s np : Nat) (its : List (Nat × Nat)) (U : Nat) (ms : List Nat) (r : Nat) (fi' : FI) (ar' : AR) : Prop := (isDr d (A s) ∧ r = 0 ∧ MX fi' ar' G d A b i (its ++ [(s, np)]) (U + (nm d A s np).length) ms ∧ fi' 36 = nI 0) ∨ (¬ isDr d (A s) ∧ ((fch G d ms (A s) = none ∧ r = 3) ∨ ∃ l, fch G d ms (A s) = some l ∧ r = 0 ∧ MX fi' ar' G d A b i (its ++ [(s, np)]) (U + (nm d A s np).length) (l ++ ms) ∧ fi' 36 = nI 0))
theorem admT_ok {nf : Nat} {fi : FI} {ar : AR} {G : Geo} {d A : Nat → Nat} {b i s np U : Nat} {its : List (Nat × Nat)} {ms : List Nat} (h : RW fi ar G d) (hm : mkR ar ms) (hc : clu G ms) (hM : MIT ar d A b i (its ++ [(s, np)]) (U + (nm d A s np).length)) (h17 : fi 17 = nI (b + its.length)) (h18 : fi 18 = nI U) (h35 : fi 35 = nI (nm d A s np).length) (h25 : ar 25 i = nI b) (h24 : ar 24 i = nI its.length) (hi : i < 16400) (hp : A s + 32 ≤ 524288) (hnf : 600 ≤ nf) : ∃ fi' ar' r, admT nf (nI (A s)) (nI i) (nI (d (A s + 11))) fi ar = some (nI r, fi', ar') ∧ offF [17, 18, 31, 36] fi fi' ∧ offAs [19, 24, 29] ar ar' ∧ (∀ j, j ≠ i → ar' 24 j = ar 24 j) ∧ ADM G d A b i s np its U ms r fi' ar' := by
  have hd := h.1
  obtain ⟨p, hpe⟩ : ∃ p, p = A s := ⟨_, rfl⟩
  have b11 := hd.lt (show p + 11 < 524288 by omega)
  have f28 := foR_lt hd (show p + 28 + 3 < 524288 by omega)
  have bf : fcl d p < 4294967296 := by
    have h1 := twR_lt hd (show p + 20 + 1 < 524288 by omega)
    have h2 := twR_lt hd (show p + 26 + 1 < 524288 by omega)
    unfold fcl; omega
  obtain ⟨fi1, hfi1⟩ : ∃ f, f = va_up (va_up (va_up fi 18 (nI (U + (nm d A s np).length))) 17 (nI (b + its.length + 1))) 36 (nI 0) := ⟨_, rfl⟩
  obtain ⟨ar1, har1⟩ : ∃ a, a = va_up ar 24 (upd (ar 24) i (nI (its.length + 1))) := ⟨_, rfl⟩
  have o1 : offF [17, 18, 31, 36] fi fi1 := by rw [hfi1]; exact ((offF.rf.up (by simp)).up (by simp)).up (by simp)
  have o2 : offAs [19, 24, 29] ar ar1 := by rw [har1]; exact offAs.rf.up (by simp)
  have hW1 : RW fi1 ar1 G d := h.off o1 o2 (by simp) (by simp)
  have hd1 := hW1.1
  have hX1 : MX fi1 ar1 G d A b i (its ++ [(s, np)]) (U + (nm d A s np).length) ms := by
    refine ⟨hW1, fun q hq => ?_, ?_, ?_, ?_, ?_, fun x hx => ?_, hc⟩
    · obtain ⟨a1, a2, a3, a4, a5⟩ := hM q hq
      have oo : offAs [24] ar ar1 := by rw [har1]; exact offAs.rf.up (by simp)
      rw [oo 20 (by simp), oo 21 (by simp), oo 22 (by simp), oo 23 (by simp)]
      exact ⟨a1, a2, a3, a4, a5.off oo (by simp)⟩
    · rw [hfi1, va_up_off (by decide), va_up_self, List.length_append]; rfl
    · rw [hfi1, va_up_off (by decide), va_up_off (by decide), va_up_self]
    · rw [har1, va_up_off (by decide)]; exact h25
    · rw [har1, va_up_self, List.length_append]; unfold upd; rw [if_pos rfl]; rfl
    · rw [har1, va_up_off (by decide)]; exact hm x hx
  have h36 : fi1 36 = nI 0 := by rw [hfi1, va_up_self]
  have hk24 : ∀ j, j ≠ i → ar1 24 j = ar 24 j := fun j hj => by rw [har1, va_up_self]; unfold upd; rw [if_neg hj]
  have unf : admT nf (nI (A s)) (nI i) (nI (d (A s + 11))) fi ar = br ((nI (d (p + 11)) &&& 16) = 0) (obnd3 (M_four nf fi1 ar1 (nI p + 28)) fun r12 fi10 ar11 => br ((r12) = 0) (obnd3 (M_firstOf nf fi10 ar11 (nI p)) fun r30 fi28 ar29 => br ((r30) = 0) (M_admit_485 nf (0) fi28 ar29) (M_admit_485 nf (3) fi28 ar29)) (br ((r12) ≤ 0) (M_admit_527 nf fi10 ar11) (obnd3 (M_firstOf nf fi10 ar11 (nI p)) fun r18 fi16 ar17 => obnd3 (M_follows nf fi16 ar17 (r18)) fun r22 fi20 ar21 => br ((r22) = 0) (M_admit_527 nf fi20 ar21) (obnd (M_whole nf (r12) ((512) * (fi20 7))) fun r25 => br ((fi20 31) = (r25)) (M_admit_528 nf (0) fi20 ar21) (M_admit_527 nf fi20 ar21))))) (some ((0), fi1, ar1)) := by
    unfold admT
    rw [← hpe, h18, h35, nI_add, bnd_eq, va_up_off (by decide), h17, nI_1, bnd_eq, zgd (by omega) (by omega), zgd (by omega) (by omega), nI_clamp (by omega), h24, nI_1, bnd_eq, bnd_eq, show (0 : Int32) = nI 0 from rfl, ← hfi1, ← har1]
  rw [unf, zbit16 b11]
  by_cases qd : d (p + 11) / 16 % 2 = 1
  · rw [qd, brF (by decide)]
    exact ⟨fi1, ar1, 0, rfl, o1, o2, hk24, Or.inl ⟨by rw [← hpe]; exact qd, rfl, hX1, h36⟩⟩
  · have nd : ¬ isDr d (A s) := by rw [← hpe]; exact qd
    rw [show d (p + 11) / 16 % 2 = 0 by omega, brT (show nI (0 * 16) = (0 : Int32) from rfl), show nI p + (28 : Int32) = nI (p + 28) from nI_add p 28, M_four_eq hd1 (by omega), obnd3_some]
    by_cases q0 : fo d (p + 28) = 0
    · rw [brT (show nI (fo d (p + 28)) = (0 : Int32) by rw [q0]; rfl), M_firstOf_eq hd1 (by omega), obnd3_some]
      unfold M_admit_485
      by_cases q1 : fcl d p = 0
      · rw [brT (show nI (fcl d p) = (0 : Int32) by rw [q1]; rfl)]
        exact ⟨fi1, ar1, 0, rfl, o1, o2, hk24, Or.inr ⟨nd, Or.inr ⟨[], by unfold fch; rw [← hpe, if_pos q0, if_pos q1], rfl, hX1, h36⟩⟩⟩
      · rw [brF (show ¬ nI (fcl d p) = (0 : Int32) from fun w => q1 ((uI_eq (b := 0) (by omega) (by omega)).mp w))]
        exact ⟨fi1, ar1, 3, rfl, o1, o2, hk24, Or.inr ⟨nd, Or.inl ⟨by unfold fch; rw [← hpe, if_pos q0, if_neg q1], rfl⟩⟩⟩
    · rw [brF (show ¬ nI (fo d (p + 28)) = (0 : Int32) from fun w => q0 ((uI_eq (b := 0) (by omega) (by omega)).mp w))]
      by_cases q1 : fo d (p + 28) < 2147483648
      · rw [brF (nI_nle (by omega) (by omega)), M_firstOf_eq hd1 (by omega), obnd3_some]
        have fl := hW1.follows (nf := nf) (x := fcl d p) (by omega) hc hX1.2.2.2.2.2.2.1 (by omega)
        cases hch : chS G d (G.k + 1) ms (fcl d p) with
        | none =>
          rw [hch] at fl
          obtain ⟨fi2, ar2, r1, r2, r3⟩ := fl
          rw [r1, obnd3_some, brT rfl]
          exact ⟨fi2, ar2, 3, rfl, o1.tr (r2.mono (by simp)), o2.tr (fun j hj => r3 j (fun w => hj (by simp at w ⊢; omega))), fun j hj => by rw [r3 24 (by simp)]; exact hk24 j hj, Or.inr ⟨nd, Or.inl ⟨by rw [← hpe]; exact fch_none_claim q0 q1 hch, rfl⟩⟩⟩
        | some l =>
          rw [hch] at fl
          obtain ⟨fi2, ar2, r1, r2, r3, r4, r5, r6, r7⟩ := fl
          have hlp := lnk_pos (chS_iff.mp hch).1
          have hll : l.length ≤ G.k := by have := (lnk_clu (chS_iff.mp hch).1).len; omega
          have b := h.2.2.b
          have ef := fch_some_claim q0 q1 hch
          rw [hpe] at ef
          have f7 : fi2 7 = nI G.c := by rw [r2 7 (by simp)]; exact hW1.2.1.2.1
          rw [r1, obnd3_some, brF (by decide), r4, f7, M_len_eq h.2.2 hlp (by omega) q1]
          have oo1 := o1.tr (r2.mono (T := [17, 18, 31, 36]) (by simp))
          have oo2 : offAs [19, 24, 29] ar ar2 := o2.tr (fun j hj => r3 j (fun w => hj (by simp at w ⊢; omega)))
          by_cases q2 : l.length = cls G (fo d (p + 28))
          · rw [if_pos q2]
            rw [← hpe, if_pos q2] at ef
            refine ⟨fi2, ar2, 0, rfl, oo1, oo2, fun j hj => by rw [r3 24 (by simp)]; exact hk24 j hj, Or.inr ⟨nd, Or.inr ⟨l, by rw [← hpe]; exact ef, rfl, ?_, by rw [r2 36 (by simp)]; exact h36⟩⟩⟩
            obtain ⟨x1, x2, x3, x4, x5, x6, x7, x8⟩ := hX1
            refine ⟨x1.off r2 r3 (by simp) (by simp), fun q hq => ?_, by rw [r2 17 (by simp)]; exact x3, by rw [r2 18 (by simp)]; exact x4, by rw [r3 25 (by simp)]; exact x5, by rw [r3 24 (by simp)]; exact x6, r6, r7⟩
            obtain ⟨a1, a2, a3, a4, a5⟩ := x2 q hq
            rw [r3 20 (by simp), r3 21 (by simp), r3 22 (by simp), r3 23 (by simp)]
            exact ⟨a1, a2, a3, a4, a5.off r3 (by simp)⟩
          · rw [if_neg q2]
            rw [← hpe, if_neg q2] at ef
            exact ⟨fi2, ar2, 3, rfl, oo1, oo2, fun j hj => by rw [r3 24 (by simp)]; exact hk24 j hj, Or.inr ⟨nd, Or.inl ⟨by rw [← hpe]; exact ef, rfl⟩⟩⟩
      · have hle : nI (fo d (p + 28)) ≤ 0 := by
          have t := tI (nI (fo d (p + 28)))
          rw [uv_nI (by omega)] at t
          rw [leI]
          have l0 : (0 : Int32).toInt = 0 := rfl
          omega
        rw [brT hle]
        exact ⟨fi1, ar1, 3, rfl, o1, o2, hk24, Or.inr ⟨nd, Or.inl ⟨by unfold fch; rw [← hpe, if_neg q0, if_neg q1], rfl⟩⟩⟩
