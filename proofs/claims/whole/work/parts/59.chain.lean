/-! chains that are claimed -/
def chS (G : Geo) (d : Nat → Nat) : Nat → List Nat → Nat → Option (List Nat)
  | 0, _, _ => none
  | f + 1, ms, x => if isC G x ∧ x ∉ ms ∧ ent G d x ≠ 0 then (if ent G d x < 268435448 then (chS G d f (x :: ms) (ent G d x)).map (fun l => x :: l) else some [x]) else none
/-- a list of clusters, each once -/
def clu (G : Geo) (ms : List Nat) : Prop := ms.Nodup ∧ ∀ x, x ∈ ms → isC G x
theorem nodup_le (k : Nat) : ∀ (l : List Nat), l.Nodup → (∀ x, x ∈ l → x < k) → l.length ≤ k := by
  induction k with
  | zero =>
    intro l _ h
    cases l with
    | nil => exact Nat.le_refl 0
    | cons a l => exact absurd (h a List.mem_cons_self) (Nat.not_lt_zero a)
  | succ k ih =>
    intro l hn h
    have h1 := ih (l.filter (fun x => decide (x ≠ k))) (hn.filter _) (fun x hx => by
      have h2 := List.mem_filter.mp hx
      have h3 := h x h2.1
      have h4 : x ≠ k := of_decide_eq_true h2.2
      omega)
    have h5 : l.length ≤ (l.filter (fun x => decide (x ≠ k))).length + 1 := by
      clear h h1 ih
      induction l with
      | nil => exact Nat.zero_le _
      | cons a l ihl =>
        have hn2 := List.nodup_cons.mp hn
        by_cases ha : a = k
        · subst ha
          have e : (l.filter (fun x => decide (x ≠ a))) = l := List.filter_eq_self.mpr (fun x hx => decide_eq_true (fun e => hn2.1 (e ▸ hx)))
          rw [List.filter_cons_of_neg (by simp), e]
          exact Nat.le_refl _
        · rw [List.filter_cons_of_pos (by simpa using ha)]
          have := ihl hn2.2
          simp only [List.length_cons]
          omega
    omega
theorem clu.len {G : Geo} {ms : List Nat} (h : clu G ms) : ms.length ≤ G.k := by
  have e : (ms.map (fun x => x - 2)).length = ms.length := List.length_map _
  rw [← e]
  refine nodup_le G.k _ ?_ ?_
  · refine List.Pairwise.map _ ?_ (List.Pairwise.and_mem.mp h.1)
    intro a b hab hq
    have h1 := h.2 a hab.1
    have h2 := h.2 b hab.2.1
    exact hab.2.2 (by omega)
  · intro x hx
    obtain ⟨y, hy, rfl⟩ := List.mem_map.mp hx
    have := h.2 y hy
    omega
theorem clu.cons {G : Geo} {ms : List Nat} (h : clu G ms) {x : Nat} (h1 : isC G x) (h2 : x ∉ ms) : clu G (x :: ms) := ⟨List.nodup_cons.mpr ⟨h2, h.1⟩, fun y hy => (List.mem_cons.mp hy).elim (fun e => e ▸ h1) (h.2 y)⟩
theorem RG.up {fi : FI} {G : Geo} (h : RG fi G) {k : Nat} {v : Int32} (hk : k ∉ [0, 7, 8, 9, 10, 11, 12, 13]) : RG (va_up fi k v) G := by
  simp only [List.mem_cons, List.not_mem_nil, or_false, not_or] at hk
  have e : ∀ j, j ≠ k → va_up fi k v j = fi j := fun j hj => va_up_ne _ _ hj
  unfold RG
  rw [e 0 (by omega), e 7 (by omega), e 8 (by omega), e 9 (by omega), e 10 (by omega), e 11 (by omega), e 12 (by omega), e 13 (by omega)]
  exact h
theorem RD.up {ar : AR} {d : Nat → Nat} (h : RD ar d) {k : Nat} {g : Nat → Int32} (hk : k ≠ 1) : RD (va_up ar k g) d := fun p hp => by
  rw [va_up_ne _ _ (Ne.symm hk)]; exact h p hp
theorem RW.upF {fi : FI} {ar : AR} {G : Geo} {d : Nat → Nat} (h : RW fi ar G d) {k : Nat} {v : Int32} (hk : k ∉ [0, 7, 8, 9, 10, 11, 12, 13]) : RW (va_up fi k v) ar G d := ⟨h.1, h.2.1.up hk, h.2.2⟩
theorem RW.upA {fi : FI} {ar : AR} {G : Geo} {d : Nat → Nat} (h : RW fi ar G d) {k : Nat} {g : Nat → Int32} (hk : k ≠ 1) : RW fi (va_up ar k g) G d := ⟨h.1.up hk, h.2⟩
/-- the marks of the model are those of ms -/
def mkR (ar : AR) (ms : List Nat) : Prop := ∀ x, x < 560 → (ar 19 x = 0 ↔ x ∉ ms)
def offAs (S : List Nat) (ar ar' : AR) : Prop := ∀ j, j ∉ S → ar' j = ar j
theorem offAs.rf {S : List Nat} {ar : AR} : offAs S ar ar := fun _ _ => rfl
theorem offAs.tr {S : List Nat} {a b c : AR} (h1 : offAs S a b) (h2 : offAs S b c) : offAs S a c := fun j hj => (h2 j hj).trans (h1 j hj)
theorem offAs.up {S : List Nat} {a b : AR} {k : Nat} {g : Nat → Int32} (h1 : offAs S a b) (h : k ∈ S) : offAs S a (va_up b k g) := fun j hj => by rw [va_up_ne _ _ (fun e => hj (by rw [e]; exact h))]; exact h1 j hj
theorem offAs.mono {S T : List Nat} {a b : AR} (h1 : offAs S a b) (h : ∀ j, j ∈ S → j ∈ T) : offAs T a b := fun j hj => h1 j (fun q => hj (h j q))
theorem fol_loop {nf : Nat} {G : Geo} {d : Nat → Nat} : ∀ (f kf : Nat) (ms : List Nat) (x i : Nat) (fi : FI) (ar : AR), RW fi ar G d → x < 2 ^ 32 → clu G ms → mkR ar ms → G.k + 1 ≤ ms.length + f → f ≤ kf → fi 31 = nI i → i ≤ ms.length → (match chS G d f ms x with
    | none => ∃ fi' ar', M_follows_7 nf kf (nI x) fi ar = some (0, fi', ar') ∧ offF [31] fi fi' ∧ offAs [19, 29] ar ar'
    | some l => ∃ fi' ar', M_follows_7 nf kf (nI x) fi ar = some (1, fi', ar') ∧ offF [31] fi fi' ∧ offAs [19, 29] ar ar' ∧ fi' 31 = nI (i + l.length) ∧ (∀ j, j < i → ar' 29 j = ar 29 j) ∧ (∀ j, j < l.length → ar' 29 (i + j) = nI (l.getD j 0)) ∧ mkR ar' (l ++ ms) ∧ clu G (l ++ ms)) := by
  intro f
  induction f with
  | zero =>
    intro kf ms x i fi ar h hx hc hm hl
    have := hc.len
    omega
  | succ f ih =>
    intro kf ms x i fi ar h hx hc hm hl hk hi him
    have b := h.2.2.b
    have hlen := hc.len
    obtain ⟨kf, rfl⟩ : ∃ k, kf = k + 1 := ⟨kf - 1, by omega⟩
    have e : M_follows_7 nf (kf + 1) (nI x) fi ar = M_follows_7b (M_follows_7 nf kf) nf (nI x) fi ar := rfl
    rw [e]
    unfold M_follows_7b M_follows_32
    rw [h.isC hx, obnd3_some]
    have ec : chS G d (f + 1) ms x = if isC G x ∧ x ∉ ms ∧ ent G d x ≠ 0 then (if ent G d x < 268435448 then (chS G d f (x :: ms) (ent G d x)).map (fun l => x :: l) else some [x]) else none := rfl
    rw [ec]
    by_cases q1 : isC G x
    · rw [if_pos q1, brF (by decide), gdT (vpin_nI (by omega) (by decide)), nI_clamp (by omega)]
      by_cases q2 : x ∈ ms
      · rw [if_neg (fun q => q.2.1 q2), brF (fun q => ((hm x (by omega)).mp q) q2)]
        exact ⟨fi, ar, rfl, offF.rf, offAs.rf⟩
      · rw [brT ((hm x (by omega)).mpr q2), h.entry (by omega), obnd3_some]
        have he := ent_lt G d x
        by_cases q3 : ent G d x = 0
        · rw [if_neg (fun q => q.2.2 q3), brT (show nI (ent G d x) = 0 by rw [q3]; rfl)]
          exact ⟨fi, ar, rfl, offF.rf, offAs.rf⟩
        · have gx : ¬ (nI x < 0 ∨ 560 ≤ x) := fun q => q.elim (nI_pos (by omega)) (fun q => by omega)
          rw [if_pos ⟨q1, q2, q3⟩, brF (show ¬ nI (ent G d x) = 0 from nI_ne0 (by omega) (by omega)), gdT gx, bnd_eq, hi, gdT (vpin_nI (n := i) (by omega) (by decide)), bnd_eq, bnd_eq, nI_clamp (n := i) (by omega), nI_1]
          obtain ⟨ar1, ha1⟩ : ∃ a, a = va_up (va_up ar 19 (upd (ar 19) x (vp_nar .boolean 1))) 29 (upd (va_up ar 19 (upd (ar 19) x (vp_nar .boolean 1)) 29) i (nI x)) := ⟨_, rfl⟩
          have hR : RW (va_up fi 31 (nI (i + 1))) ar1 G d := by rw [ha1]; exact ((h.upF (by decide)).upA (by decide)).upA (by decide)
          have o1 : offAs [19, 29] ar ar1 := by rw [ha1]; exact (offAs.rf.up (by decide)).up (by decide)
          have m1 : mkR ar1 (x :: ms) := by
            intro y hy
            rw [ha1, va_up_ne _ _ (by decide), va_up_self]
            unfold upd
            by_cases hyx : y = x
            · rw [if_pos hyx]
              exact ⟨fun q => absurd q (by decide), fun q => absurd (List.mem_cons.mpr (Or.inl hyx)) q⟩
            · rw [if_neg hyx, hm y hy]
              exact ⟨fun q z => (List.mem_cons.mp z).elim hyx q, fun q z => q (List.mem_cons_of_mem _ z)⟩
          have l1 : ∀ j, j < i → ar1 29 j = ar 29 j := by
            intro j hj
            rw [ha1, va_up_self]
            unfold upd
            rw [if_neg (by omega), va_up_ne _ _ (by decide)]
          have l2 : ar1 29 i = nI x := by
            rw [ha1, va_up_self]
            unfold upd
            rw [if_pos rfl]
          rw [← ha1]
          rw [hR.entry (by omega), obnd3_some]
          have c1 := hc.cons q1 q2
          by_cases q4 : ent G d x < 268435448
          · rw [if_pos q4, brT (show nI (ent G d x) < (268435448 : Int32) from nI_lt (b := 268435448) q4 (by omega))]
            have := ih kf (x :: ms) (ent G d x) (i + 1) (va_up fi 31 (nI (i + 1))) ar1 hR (by omega) c1 m1 (by simp only [List.length_cons]; omega) (by omega) (va_up_self _ _ _) (by simp only [List.length_cons]; omega)
            cases hch : chS G d f (x :: ms) (ent G d x) with
            | none =>
              rw [hch] at this
              obtain ⟨fi', ar', r1, r2, r3⟩ := this
              exact ⟨fi', ar', r1, (offF.rf.up (by decide)).tr r2, o1.tr r3⟩
            | some l =>
              rw [hch] at this
              obtain ⟨fi', ar', r1, r2, r3, r4, r5, r6, r7, r8⟩ := this
              refine ⟨fi', ar', r1, (offF.rf.up (by decide)).tr r2, o1.tr r3, ?_, ?_, ?_, ?_, ?_⟩
              · rw [r4]; congr 1; simp only [List.length_cons]; omega
              · intro j hj; rw [r5 j (by omega), l1 j hj]
              · intro j hj
                cases j with
                | zero => rw [Nat.add_zero, r5 i (by omega), l2]; rfl
                | succ j => rw [show i + (j + 1) = i + 1 + j by omega, r6 j (by simp only [List.length_cons] at hj; omega)]; rfl
              · intro y hy
                rw [r7 y hy]
                simp only [List.mem_append, List.mem_cons, List.cons_append]
                exact ⟨fun q z => q (by rcases z with z | z | z; exact Or.inr (Or.inl z); exact Or.inl z; exact Or.inr (Or.inr z)), fun q z => q (by rcases z with z | z | z; exact Or.inr (Or.inl z); exact Or.inl z; exact Or.inr (Or.inr z))⟩
              · refine ⟨?_, fun y hy => r8.2 y (by simp only [List.mem_append, List.mem_cons, List.cons_append] at hy ⊢; rcases hy with z | z | z; exact Or.inr (Or.inl z); exact Or.inl z; exact Or.inr (Or.inr z))⟩
                exact (List.perm_middle.nodup_iff).mp r8.1
          · rw [if_neg q4, brF (show ¬ nI (ent G d x) < (268435448 : Int32) from nI_nlt (b := 268435448) (by omega) (by omega))]
            refine ⟨_, ar1, rfl, offF.rf.up (by decide), o1, va_up_self _ _ _, l1, ?_, m1, c1⟩
            intro j hj
            simp only [List.length_cons, List.length_nil] at hj
            rw [show j = 0 by omega, Nat.add_zero, l2]
            rfl
    · rw [if_neg q1, brT rfl, if_neg (fun q => q1 q.1)]
      exact ⟨fi, ar, rfl, offF.rf, offAs.rf⟩
