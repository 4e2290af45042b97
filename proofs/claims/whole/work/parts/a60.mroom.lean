/-! make: where the entry goes, the model -/
theorem mk_end {nf : Nat} {fm : FI} {arm : AR} {G : Geo} {d : Nat → Nat} {l : List Nat} {x1 x6 : Int32} (hW : RW fm arm G d) (hl : clu G l) (hF : FOL arm l) : ∀ (m s kf : Nat), s + m = l.length * (16 * G.c) → m < kf → M_make_141 nf kf x1 x6 (nI (l.length * (16 * G.c))) (nI s) fm arm = M_make_167 nf x1 x6 (nI (l.length * (16 * G.c))) (nI (zl (fun t => d (sa G l t)) m s)) fm arm := by
  have hG := hW.2.2
  have b := hG.b
  have hlen := hl.len
  have hS : l.length * (16 * G.c) ≤ 65536 := Nat.le_trans (Nat.mul_le_mul hlen (Nat.le_refl _)) (Nat.le_trans (Nat.mul_le_mul (show G.k ≤ 512 by omega) (show 16 * G.c ≤ 128 by omega)) (by omega))
  intro m
  induction m with
  | zero =>
    intro s kf hs hk
    obtain ⟨kf, rfl⟩ : ∃ k, kf = k + 1 := ⟨kf - 1, by omega⟩
    rw [show M_make_141 nf (kf + 1) = M_make_141b (M_make_141 nf kf) nf from rfl]
    unfold M_make_141b
    rw [brT (nI_le (by omega) (by omega)), zl]
  | succ m ih =>
    intro s kf hs hk
    have hin := slot_in hG hl (s := s) (by omega)
    have hd := hW.1.lt (p := sa G l s) (by omega)
    obtain ⟨kf, rfl⟩ : ∃ k, kf = k + 1 := ⟨kf - 1, by omega⟩
    rw [show M_make_141 nf (kf + 1) = M_make_141b (M_make_141 nf kf) nf from rfl]
    unfold M_make_141b
    rw [brF (nI_ge (by omega) (by omega)), hW.slotAt hl hF (by omega), obnd3_some, M_one_eq hW.1 (by omega), obnd3_some, zl]
    by_cases c : d (sa G l s) = 0
    · rw [brT (by rw [c]; rfl), if_pos c]
    · rw [brF (nI_ne0 (by omega) (by omega)), if_neg c, bnd_eq, show nI s + (1 : Int32) = nI (s + 1) from nI_add s 1]
      exact ih (s + 1) kf (by omega) (by omega)
theorem mk_from {nf : Nat} {fm : FI} {arm : AR} {G : Geo} {d : Nat → Nat} {l : List Nat} {x1 : Int32} {E want : Nat} (hW : RW fm arm G d) (hl : clu G l) (hF : FOL arm l) (hE : E ≤ l.length * (16 * G.c)) (hw2 : want < 1000) : ∀ (m s fr kf : Nat), s + m = l.length * (16 * G.c) → fr ≤ s → m < kf → M_make_173 nf kf x1 (nI want) (nI (l.length * (16 * G.c))) (nI E) (nI fr) (nI s) fm arm = M_make_225 nf x1 (nI want) (nI (l.length * (16 * G.c))) (nI E) (nI (rmA d (sa G l) E want m s fr)) fm arm := by
  have hG := hW.2.2
  have b := hG.b
  have hlen := hl.len
  have hS : l.length * (16 * G.c) ≤ 65536 := Nat.le_trans (Nat.mul_le_mul hlen (Nat.le_refl _)) (Nat.le_trans (Nat.mul_le_mul (show G.k ≤ 512 by omega) (show 16 * G.c ≤ 128 by omega)) (by omega))
  intro m
  induction m with
  | zero =>
    intro s fr kf hs hfr hk
    obtain ⟨kf, rfl⟩ : ∃ k, kf = k + 1 := ⟨kf - 1, by omega⟩
    rw [show M_make_173 nf (kf + 1) = M_make_173b (M_make_173 nf kf) nf from rfl]
    unfold M_make_173b
    rw [brT (nI_le (by omega) (by omega)), rmA]
  | succ m ih =>
    intro s fr kf hs hfr hk
    have hin := slot_in hG hl (s := s) (by omega)
    have hd := hW.1.lt (p := sa G l s) (by omega)
    have hs1 : nI s + (1 : Int32) = nI (s + 1) := nI_add s 1
    obtain ⟨kf, rfl⟩ : ∃ k, kf = k + 1 := ⟨kf - 1, by omega⟩
    rw [show M_make_173 nf (kf + 1) = M_make_173b (M_make_173 nf kf) nf from rfl]
    unfold M_make_173b M_make_219
    rw [brF (nI_ge (by omega) (by omega)), nI_sub hfr, rmA]
    by_cases c0 : want ≤ s - fr
    · rw [brT (nI_le c0 (by omega)), if_pos c0]
    · rw [brF (nI_ge (by omega) (by omega)), if_neg c0]
      by_cases c1 : E ≤ s
      · rw [brT (nI_le c1 (by omega)), bnd_eq, hs1, if_neg (by omega)]
        exact ih (s + 1) fr kf (by omega) (by omega) (by omega)
      · rw [brF (nI_ge (by omega) (by omega)), hW.slotAt hl hF (by omega), obnd3_some, M_one_eq hW.1 (by omega), obnd3_some]
        by_cases c2 : d (sa G l s) = 229
        · rw [brT (show nI (d (sa G l s)) = (229 : Int32) by rw [c2]; rfl), bnd_eq, hs1, if_neg (fun w => w.2 c2)]
          exact ih (s + 1) fr kf (by omega) (by omega) (by omega)
        · rw [brF (show ¬ nI (d (sa G l s)) = (229 : Int32) from fun w => c2 ((nI_eq (b := 229) (by omega) (by omega)).mp w)), bnd_eq, bnd_eq, hs1, if_pos ⟨by omega, c2⟩]
          exact ih (s + 1) (s + 1) kf (by omega) (by omega) (by omega)
theorem mk_more {nf : Nat} {fm : FI} {arm : AR} {G : Geo} {d : Nat → Nat} {S a want E : Nat} {x1 : Int32} (hW : RW fm arm G d) (hS : S ≤ 65536) (ha : a ≤ S) (hw2 : want < 1000) : M_make_225 nf x1 (nI want) (nI S) (nI E) (nI a) fm arm = M_make_257 nf x1 (nI want) (nI S) (nI E) (nI a) (nI (msC G S (a + want))) fm arm := by
  have b := hW.2.2.b
  have e16 : (16 : Int32) * fm 7 = nI (16 * G.c) := by rw [hW.2.1.2.1]; exact pk_mul 16 _
  unfold M_make_225 msC
  rw [nI_add]
  by_cases c : a + want ≤ S
  · rw [brT (nI_le c (by omega)), show a + want - S = 0 by omega, Nat.zero_add, Nat.div_eq_of_lt (by omega)]; rfl
  · rw [brF (nI_ge (by omega) (by omega)), nI_sub (by omega), e16, whole_eq (by omega) (by omega) (by omega), obnd_some]
/-- the clusters a make wants -/
def mkO (x1 : Int32) : Nat := if x1 = 0 then 0 else 1
theorem mk_room {nf : Nat} {fm : FI} {arm : AR} {G : Geo} {d : Nat → Nat} {more : Nat} {x1 x6 x7 x8 x9 : Int32} (hW : RW fm arm G d) (hm : more < 100000) (hnf : 600 ≤ nf) : (more + mkO x1 ≤ frC G d 2 G.k ∧ M_make_257 nf x1 x6 x7 x8 x9 (nI more) fm arm = M_make_284 nf x1 x6 x7 x8 x9 (nI more) 0 fm arm) ∨ (¬ more + mkO x1 ≤ frC G d 2 G.k ∧ M_make_257 nf x1 x6 x7 x8 x9 (nI more) fm arm = M_make_284 nf x1 x6 x7 x8 x9 (nI more) 1 fm arm) := by
  have b := hW.2.2.b
  have hle := frC_le G d G.k 2
  have key : M_make_257 nf x1 x6 x7 x8 x9 (nI more) fm arm = br (nI (more + mkO x1) ≤ nI (frC G d 2 G.k)) (M_make_284 nf x1 x6 x7 x8 x9 (nI more) 0 fm arm) (M_make_284 nf x1 x6 x7 x8 x9 (nI more) 1 fm arm) := by
    unfold M_make_257 M_make_271 mkO
    rw [freeM_eq hW hnf]
    unfold frA
    by_cases c : x1 = 0
    · rw [brT c, obnd3_some, if_pos c, show nI more + (0 : Int32) = nI (more + 0) from nI_add more 0]
    · rw [brF c, obnd3_some, if_neg c, show nI more + (1 : Int32) = nI (more + 1) from nI_add more 1]
  have ho : mkO x1 ≤ 1 := by unfold mkO; split <;> omega
  by_cases c : more + mkO x1 ≤ frC G d 2 G.k
  · exact Or.inl ⟨c, by rw [key, brT (nI_le c (by omega))]⟩
  · exact Or.inr ⟨c, by rw [key, brF (nI_ge (by omega) (by omega))]⟩
