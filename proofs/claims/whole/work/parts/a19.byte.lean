/-! free and byteAt -/
theorem scn_ne1 {G : Geo} {d A : Nat → Nat} {z : Nat} : ∀ m s ms, (scn G d A z m s ms).1 ≠ 1 := by
  intro m
  induction m with
  | zero => intro s ms; rw [scn]; split <;> simp
  | succ m ih2 =>
    intro s ms
    rw [scn]
    split
    · split <;> simp
    · split
      · show lf _ _ _ _ ≠ 1
        unfold lf
        split
        · split <;> decide
        · split
          · split
            · split <;> decide
            · decide
          · split
            · split <;> decide
            · decide
      · split
        · split
          · show 3 ≠ 1; decide
          · exact ih2 _ _
        · exact ih2 _ _
theorem dirF_ne1 {G : Geo} {d : Nat → Nat} {l ms : List Nat} {f p : Nat} : (dirF G d l ms f p).1 ≠ 1 := by
  unfold dirF
  split
  · show 4 ≠ 1; decide
  · exact scn_ne1 _ _ _
theorem flt_one {n : Nat} {d : Nat → Nat} : fltS n d = 1 ↔ ¬ headOK n d := by
  unfold fltS
  by_cases hh : headOK n d
  · rw [if_neg (fun w => w hh)]
    refine ⟨fun w => ?_, fun w => absurd hh w⟩
    exfalso
    revert w
    split
    · decide
    · split
      · have key : ∀ (m : Nat) (Q : List (Nat × Nat)) (ms : List Nat), (bfs (geoOf n d) d m Q ms).1 ≠ 1 := by
          intro m
          induction m with
          | zero => intro Q ms; rw [bfs]; show 3 ≠ 1; decide
          | succ m ih =>
            intro Q ms
            cases Q with
            | nil => rw [bfs]; show 0 ≠ 1; decide
            | cons q Q =>
              obtain ⟨f, p⟩ := q
              rw [bfs]
              split
              · show 3 ≠ 1; decide
              · split
                · exact dirF_ne1
                · exact ih _ _
        exact fun w => key _ _ _ w
      · split <;> decide
  · rw [if_pos hh]
    exact ⟨fun _ => hh, fun _ => rfl⟩
/-- the free clusters from x on -/
def frC (G : Geo) (d : Nat → Nat) (x : Nat) : Nat → Nat
  | 0 => 0
  | m + 1 => (if ent G d x = 0 then 1 else 0) + frC G d (x + 1) m
theorem frC_le (G : Geo) (d : Nat → Nat) : ∀ m x, frC G d x m ≤ m := by
  intro m
  induction m with
  | zero => intro x; exact Nat.le_refl _
  | succ m ih => intro x; rw [frC]; have := ih (x + 1); split <;> omega
theorem cfree_loop {nf : Nat} {ln : LN} {fi : FI} {ar : AR} {G : Geo} {d : Nat → Nat} (h : CW ln fi ar G d) : ∀ (m x kf a : Nat), x + m = G.k + 2 → m < kf → FX9_freeClusters_4 nf ln kf (nI a) (nI x) fi ar = some (nI (a + frC G d x m), fi, ar) := by
  have b := h.2.2.1.b
  have g5 := h.2.1.2.2.1
  intro m
  induction m with
  | zero =>
    intro x kf a hx hk
    obtain ⟨kf, rfl⟩ : ∃ k, kf = k + 1 := ⟨kf - 1, by omega⟩
    rw [show FX9_freeClusters_4 nf ln (kf + 1) = FX9_freeClusters_4b (FX9_freeClusters_4 nf ln kf) nf ln from rfl]
    unfold FX9_freeClusters_4b
    rw [g5, nI_1, zlt (by omega) (by omega), if_pos (by omega), frC, Nat.add_zero]
  | succ m ih =>
    intro x kf a hx hk
    obtain ⟨kf, rfl⟩ : ∃ k, kf = k + 1 := ⟨kf - 1, by omega⟩
    have he := ent_lt G d x
    rw [show FX9_freeClusters_4 nf ln (kf + 1) = FX9_freeClusters_4b (FX9_freeClusters_4 nf ln kf) nf ln from rfl]
    unfold FX9_freeClusters_4b FX9_freeClusters_25
    rw [g5, nI_1, zlt (by omega) (by omega), if_neg (by omega), h.next (by omega), obnd3_some, frC]
    by_cases q : ent G d x = 0
    · rw [brT (show nI (ent G d x) = (0 : Int32) by rw [q]; rfl), bnd_eq, bnd_eq, nI_1, nI_1, ih (x + 1) kf (a + 1) (by omega) (by omega), if_pos q, Nat.add_assoc]
    · rw [brF (nI_ne0 (by omega) (by omega)), bnd_eq, nI_1, ih (x + 1) kf a (by omega) (by omega), if_neg q, Nat.zero_add]
theorem mfree_loop {nf : Nat} {fi : FI} {ar : AR} {G : Geo} {d : Nat → Nat} (h : RW fi ar G d) : ∀ (m x kf a : Nat), x + m = G.k + 2 → m < kf → M_freeOnes_4 nf kf (nI a) (nI x) fi ar = some (nI (a + frC G d x m), fi, ar) := by
  have b := h.2.2.b
  have g13 := h.2.1.2.2.2.2.2.2.2
  intro m
  induction m with
  | zero =>
    intro x kf a hx hk
    obtain ⟨kf, rfl⟩ : ∃ k, kf = k + 1 := ⟨kf - 1, by omega⟩
    rw [show M_freeOnes_4 nf (kf + 1) = M_freeOnes_4b (M_freeOnes_4 nf kf) nf from rfl]
    unfold M_freeOnes_4b
    rw [g13, show nI G.k + (2 : Int32) = nI (G.k + 2) from nI_add _ 2, zle (by omega) (by omega), if_pos (by omega), frC, Nat.add_zero]
  | succ m ih =>
    intro x kf a hx hk
    obtain ⟨kf, rfl⟩ : ∃ k, kf = k + 1 := ⟨kf - 1, by omega⟩
    have he := ent_lt G d x
    rw [show M_freeOnes_4 nf (kf + 1) = M_freeOnes_4b (M_freeOnes_4 nf kf) nf from rfl]
    unfold M_freeOnes_4b M_freeOnes_28
    rw [g13, show nI G.k + (2 : Int32) = nI (G.k + 2) from nI_add _ 2, zle (by omega) (by omega), if_neg (by omega), h.entry (by omega), obnd3_some, frC]
    by_cases q : ent G d x = 0
    · rw [brT (show nI (ent G d x) = (0 : Int32) by rw [q]; rfl), bnd_eq, bnd_eq, nI_1, nI_1, ih (x + 1) kf (a + 1) (by omega) (by omega), if_pos q, Nat.add_assoc]
    · rw [brF (nI_ne0 (by omega) (by omega)), bnd_eq, bnd_eq, show nI a + (0 : Int32) = nI a from nI_add a 0, nI_1, ih (x + 1) kf a (by omega) (by omega), if_neg q, Nat.zero_add]
/-- the free clusters of a volume -/
def frA (G : Geo) (d : Nat → Nat) : Nat := frC G d 2 G.k
theorem freeC_eq {nf : Nat} {ln : LN} {fi : FI} {ar : AR} {G : Geo} {d : Nat → Nat} (h : CW ln fi ar G d) (hnf : 600 ≤ nf) : FX9_freeClusters nf ln fi ar = some (nI (frA G d), fi, ar) := by
  have b := h.2.2.1.b
  have := cfree_loop (nf := nf) h G.k 2 nf 0 (by omega) (by omega)
  rw [Nat.zero_add] at this
  exact this
theorem freeM_eq {nf : Nat} {fi : FI} {ar : AR} {G : Geo} {d : Nat → Nat} (h : RW fi ar G d) (hnf : 600 ≤ nf) : M_freeOnes nf fi ar = some (nI (frA G d), fi, ar) := by
  have b := h.2.2.b
  have := mfree_loop (nf := nf) h G.k 2 nf 0 (by omega) (by omega)
  rw [Nat.zero_add] at this
  exact this
theorem free_alike {nf n h : Nat} {ln : LN} {fi fm : FI} {ar arm : AR} {d : Nat → Nat} (hV : VOL n ln fi ar fm arm d h) (hnf : 40000 ≤ nf) : ∃ v fi' fm' arm', FX10_free nf ln fi ar = some (v, fi', ar) ∧ M_free nf fm arm = some (v, fm', arm') ∧ VOL n ln fi' ar fm' arm' d h ∧ offF oFC fi fi' ∧ offF oFM fm fm' ∧ offAs oAM arm arm' := by
  obtain ⟨fm1, arm1, b1, b2, b3, b4, b5, b6, b7, b8, b9⟩ := look_any hV hnf
  obtain ⟨v1, v2, v3, v4, v5, v6, v7, v8, v9, v10, v11, v12, v13, v14⟩ := id b2
  have hlt := fltS_lt n d
  unfold FX10_free FX10_free_21 M_free M_free_25
  rw [bnd_eq, b1, obnd3_some, b5]
  rcases FX9_readSectorZero_ok (nf := nf) v4 v5 v1.1 v1.2 v7.1 with ⟨hh, fi1, a1, a2, a3⟩ | ⟨hh, a1⟩
  · have hG := hh.g v1.1 v1.2
    have hW : CW ln fi1 ar (geoOf n d) d := ⟨v4, a2, hG, v7.1⟩
    have hR : RW fm1 arm1 (geoOf n d) d := ⟨v3, b6 hh, hG⟩
    have hne : ¬ nI (fltS n d) = (1 : Int32) := fun w => (flt_one.mp ((uI_eq (b := 1) (by omega) (by omega)).mp w)) hh
    rw [a1, obnd3_some, brF (by decide), freeC_eq hW (by omega), obnd3_some, brF hne, freeM_eq hR (by omega), obnd3_some]
    refine ⟨_, fi1, fm1, arm1, rfl, rfl, b2.offC a3 offAs.rf (T := []) (by simp) (by simp) v7 v8 ?_, a3.mono (by simp [oFC]), b8, b9⟩
    rcases v12 with w | ⟨w1, w2⟩
    · left; rw [a3 1 (by simp)]; exact w
    · right; exact ⟨by rw [a3 1 (by simp)]; exact w1, fun _ => a2⟩
  · rw [a1, obnd3_some, brT rfl, flt_one.mpr hh, brT (show nI 1 = (1 : Int32) from rfl)]
    exact ⟨_, fi, fm1, arm1, rfl, rfl, b2, offF.rf, b8, b9⟩
