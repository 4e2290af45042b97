theorem RW.follows {nf : Nat} {fi : FI} {ar : AR} {G : Geo} {d : Nat → Nat} (h : RW fi ar G d) {ms : List Nat} {x : Nat} (hx : x < 2 ^ 32) (hc : clu G ms) (hm : mkR ar ms) (hnf : 600 ≤ nf) : (match chS G d (G.k + 1) ms x with
    | none => ∃ fi' ar', M_follows nf fi ar (nI x) = some (0, fi', ar') ∧ offF [31] fi fi' ∧ offAs [19, 29] ar ar'
    | some l => ∃ fi' ar', M_follows nf fi ar (nI x) = some (1, fi', ar') ∧ offF [31] fi fi' ∧ offAs [19, 29] ar ar' ∧ fi' 31 = nI l.length ∧ (∀ j, j < l.length → ar' 29 j = nI (l.getD j 0)) ∧ mkR ar' (l ++ ms) ∧ clu G (l ++ ms)) := by
  have b := h.2.2.b
  have := fol_loop (nf := nf) (G.k + 1) nf ms x 0 (va_up fi 31 (nI 0)) ar (h.upF (by decide)) hx hc hm (by omega) (by omega) (va_up_self _ _ _) (Nat.zero_le _)
  have e : M_follows nf fi ar (nI x) = M_follows_7 nf nf (nI x) (va_up fi 31 (nI 0)) ar := rfl
  rw [e]
  cases hch : chS G d (G.k + 1) ms x with
  | none =>
    rw [hch] at this
    obtain ⟨fi', ar', r1, r2, r3⟩ := this
    exact ⟨fi', ar', r1, (offF.rf.up (by decide)).tr r2, r3⟩
  | some l =>
    rw [hch] at this
    obtain ⟨fi', ar', r1, r2, r3, r4, r5, r6, r7, r8⟩ := this
    exact ⟨fi', ar', r1, (offF.rf.up (by decide)).tr r2, r3, by rw [r4, Nat.zero_add], fun j hj => by have := r6 j hj; rw [Nat.zero_add] at this; exact this, r7, r8⟩
/-- the marks of the class -/
def mkC (ln : LN) (ar : AR) (ms : List Nat) : Prop := ∀ x, x < ln 3 → (ar 3 x = 0 ↔ x ∉ ms)
theorem CG.up {fi : FI} {G : Geo} (h : CG fi G) {k : Nat} {v : Int32} (hk : k ∉ [2, 4, 5, 6, 7, 8, 9, 10]) : CG (va_up fi k v) G := by
  simp only [List.mem_cons, List.not_mem_nil, or_false, not_or] at hk
  have e : ∀ j, j ≠ k → va_up fi k v j = fi j := fun j hj => va_up_ne _ _ hj
  unfold CG
  rw [e 2 (by omega), e 4 (by omega), e 5 (by omega), e 6 (by omega), e 7 (by omega), e 8 (by omega), e 9 (by omega), e 10 (by omega)]
  exact h
theorem CD.up {ln : LN} {ar : AR} {d : Nat → Nat} (h : CD ln ar d) {k : Nat} {g : Nat → Int32} (hk : k ≠ 0) : CD ln (va_up ar k g) d := ⟨h.1, fun p hp => by
  rw [va_up_ne _ _ (Ne.symm hk)]; exact h.2 p hp⟩
theorem CW.upF {ln : LN} {fi : FI} {ar : AR} {G : Geo} {d : Nat → Nat} (h : CW ln fi ar G d) {k : Nat} {v : Int32} (hk : k ∉ [2, 4, 5, 6, 7, 8, 9, 10]) : CW ln (va_up fi k v) ar G d := ⟨h.1, h.2.1.up hk, h.2.2⟩
theorem CW.upA {ln : LN} {fi : FI} {ar : AR} {G : Geo} {d : Nat → Nat} (h : CW ln fi ar G d) {k : Nat} {g : Nat → Int32} (hk : k ≠ 0) : CW ln fi (va_up ar k g) G d := ⟨h.1.up hk, h.2⟩
theorem chS_none {G : Geo} {d : Nat → Nat} {f : Nat} {ms : List Nat} {x : Nat} (h : ¬ (isC G x ∧ x ∉ ms)) : chS G d f ms x = none := by
  cases f with
  | zero => rfl
  | succ f =>
    show (if isC G x ∧ x ∉ ms ∧ ent G d x ≠ 0 then _ else none) = none
    rw [if_neg (fun q => h ⟨q.1, q.2.1⟩)]
theorem claim_loop {nf : Nat} {ln : LN} {G : Geo} {d : Nat → Nat} : ∀ (f kf : Nat) (ms : List Nat) (x i : Nat) (fi : FI) (ar : AR), CW ln fi ar G d → G.k + 2 ≤ ln 3 → ln 3 < 2 ^ 31 → x < 2 ^ 32 → clu G ms → mkC ln ar ms → G.k + 1 ≤ ms.length + f → f ≤ kf → i ≤ ms.length → (match chS G d f ms x with
    | none => ∃ ar', FX0_claimChain_4 nf ln kf (nI x) (nI (i + 1)) fi ar = some (-1, fi, ar') ∧ offAs [3] ar ar'
    | some l => ∃ ar', FX0_claimChain_4 nf ln kf (nI x) (nI (i + 1)) fi ar = some (nI (i + l.length), fi, ar') ∧ offAs [3] ar ar' ∧ mkC ln ar' (l ++ ms) ∧ clu G (l ++ ms)) := by
  intro f
  induction f with
  | zero =>
    intro kf ms x i fi ar h _ _ hx hc hm hl
    have := hc.len
    omega
  | succ f ih =>
    intro kf ms x i fi ar h hl3 hl31 hx hc hm hl hk him
    have b := h.2.2.1.b
    have hlen := hc.len
    obtain ⟨kf, rfl⟩ : ∃ k, kf = k + 1 := ⟨kf - 1, by omega⟩
    have e : FX0_claimChain_4 nf ln (kf + 1) (nI x) (nI (i + 1)) fi ar = FX0_claimChain_4b (FX0_claimChain_4 nf ln kf) nf ln (nI x) (nI (i + 1)) fi ar := rfl
    rw [e]
    unfold FX0_claimChain_4b FX0_claimChain_35
    rw [h.2.1.2.2.1]
    by_cases q0 : G.k < i + 1
    · rw [brT (nI_lt q0 (by omega)), chS_none (fun q => by have := (hc.cons q.1 q.2).len; simp only [List.length_cons] at this; omega)]
      exact ⟨ar, rfl, offAs.rf⟩
    rw [brF (nI_nlt (by omega) (by omega)), h.isC hx, obnd3_some]
    have ec : chS G d (f + 1) ms x = if isC G x ∧ x ∉ ms ∧ ent G d x ≠ 0 then (if ent G d x < 268435448 then (chS G d f (x :: ms) (ent G d x)).map (fun l => x :: l) else some [x]) else none := rfl
    rw [ec]
    by_cases q1 : isC G x
    · rw [if_pos q1, brF (by decide), gdT (vpin_nI (by omega) hl31), nI_clamp (by omega)]
      by_cases q2 : x ∈ ms
      · rw [if_neg (fun q => q.2.1 q2), brF (fun q => ((hm x (by omega)).mp q) q2)]
        exact ⟨ar, rfl, offAs.rf⟩
      · rw [brT ((hm x (by omega)).mpr q2), h.next (by omega), obnd3_some]
        have he := ent_lt G d x
        by_cases q3 : ent G d x = 0
        · rw [if_neg (fun q => q.2.2 q3), brT (show nI (ent G d x) = 0 by rw [q3]; rfl)]
          exact ⟨ar, rfl, offAs.rf⟩
        · have gx : ¬ (nI x < 0 ∨ ln 3 ≤ x) := fun q => q.elim (nI_pos (by omega)) (fun q => by omega)
          rw [if_pos ⟨q1, q2, q3⟩, brF (show ¬ nI (ent G d x) = 0 from nI_ne0 (by omega) (by omega)), gdT gx, bnd_eq]
          obtain ⟨ar1, ha1⟩ : ∃ a, a = va_up ar 3 (upd (ar 3) x (vp_nar .boolean 1)) := ⟨_, rfl⟩
          have hR : CW ln fi ar1 G d := by rw [ha1]; exact h.upA (by decide)
          have o1 : offAs [3] ar ar1 := by rw [ha1]; exact offAs.rf.up (by decide)
          have m1 : mkC ln ar1 (x :: ms) := by
            intro y hy
            rw [ha1, va_up_self]
            unfold upd
            by_cases hyx : y = x
            · rw [if_pos hyx]
              exact ⟨fun q => absurd q (by decide), fun q => absurd (List.mem_cons.mpr (Or.inl hyx)) q⟩
            · rw [if_neg hyx, hm y hy]
              exact ⟨fun q z => (List.mem_cons.mp z).elim hyx q, fun q z => q (List.mem_cons_of_mem _ z)⟩
          rw [← ha1]
          have c1 := hc.cons q1 q2
          by_cases q4 : ent G d x < 268435448
          · rw [if_pos q4, brT (show nI (ent G d x) < (268435448 : Int32) from nI_lt (b := 268435448) q4 (by omega)), bnd_eq, nI_1]
            have := ih kf (x :: ms) (ent G d x) (i + 1) fi ar1 hR hl3 hl31 (by omega) c1 m1 (by simp only [List.length_cons]; omega) (by omega) (by simp only [List.length_cons]; omega)
            cases hch : chS G d f (x :: ms) (ent G d x) with
            | none =>
              rw [hch] at this
              obtain ⟨ar', r1, r3⟩ := this
              exact ⟨ar', r1, o1.tr r3⟩
            | some l =>
              rw [hch] at this
              obtain ⟨ar', r1, r3, r7, r8⟩ := this
              refine ⟨ar', by rw [r1, List.length_cons, show i + 1 + l.length = i + (l.length + 1) by omega], o1.tr r3, ?_, ?_⟩
              · intro y hy
                rw [r7 y hy]
                simp only [List.mem_append, List.mem_cons, List.cons_append]
                exact ⟨fun q z => q (by rcases z with z | z | z; exact Or.inr (Or.inl z); exact Or.inl z; exact Or.inr (Or.inr z)), fun q z => q (by rcases z with z | z | z; exact Or.inr (Or.inl z); exact Or.inl z; exact Or.inr (Or.inr z))⟩
              · refine ⟨?_, fun y hy => r8.2 y (by simp only [List.mem_append, List.mem_cons, List.cons_append] at hy ⊢; rcases hy with z | z | z; exact Or.inr (Or.inl z); exact Or.inl z; exact Or.inr (Or.inr z))⟩
                exact (List.perm_middle.nodup_iff).mp r8.1
          · rw [if_neg q4, brF (show ¬ nI (ent G d x) < (268435448 : Int32) from nI_nlt (b := 268435448) (by omega) (by omega))]
            exact ⟨ar1, rfl, o1, m1, c1⟩
    · rw [if_neg q1, brT rfl, if_neg (fun q => q1 q.1)]
      exact ⟨ar, rfl, offAs.rf⟩
theorem CW.claimChain {nf : Nat} {ln : LN} {fi : FI} {ar : AR} {G : Geo} {d : Nat → Nat} (h : CW ln fi ar G d) (h3 : G.k + 2 ≤ ln 3) (h31 : ln 3 < 2 ^ 31) {ms : List Nat} {x : Nat} (hx : x < 2 ^ 32) (hc : clu G ms) (hm : mkC ln ar ms) (hnf : 600 ≤ nf) : (match chS G d (G.k + 1) ms x with
    | none => ∃ ar', FX0_claimChain nf ln fi ar (nI x) = some (-1, fi, ar') ∧ offAs [3] ar ar'
    | some l => ∃ ar', FX0_claimChain nf ln fi ar (nI x) = some (nI l.length, fi, ar') ∧ offAs [3] ar ar' ∧ mkC ln ar' (l ++ ms) ∧ clu G (l ++ ms)) := by
  have b := h.2.2.1.b
  have := claim_loop (nf := nf) (G.k + 1) nf ms x 0 fi ar h h3 h31 hx hc hm (by omega) (by omega) (Nat.zero_le _)
  have e : FX0_claimChain nf ln fi ar (nI x) = FX0_claimChain_4 nf ln nf (nI x) (nI (0 + 1)) fi ar := rfl
  rw [e]
  simp only [Nat.zero_add] at this ⊢
  exact this
