/-! the way to an item in both at once; enter -/
def oFC : List Nat := [1, 4, 5, 6, 7, 8, 9, 10, 11, 20, 21, 22, 23, 24, 25, 40, 41, 42, 43, 44, 45, 62, 63]
def oAC : List Nat := [3, 4, 5, 10, 11, 12, 13, 18, 19, 20, 21, 32, 33, 42]
def oFM : List Nat := [5, 7, 8, 9, 10, 11, 12, 13, 15, 16, 17, 18, 31, 32, 33, 35, 36, 37, 38]
def oAM : List Nat := [19, 20, 21, 22, 23, 24, 25, 26, 27, 28, 29, 30, 34]
/-- item q, which is e, in both -/
def SEL (nf n h : Nat) (ln : LN) (fi fm : FI) (ar arm : AR) (d : Nat → Nat) (q : Nat) (e : Nat × Nat) (j b N U : Nat) (ms : List Nat) (D : List Nat) (ρ : Nat → Nat) : Prop :=
  fltS n d = 0 ∧ Snd (geoOf n d) d D ρ ∧ hf (geoOf n d) h ∈ D ∧ (h = 0 ∨ (h ∈ D ∧ h ≠ (geoOf n d).r)) ∧ HR ln fi ar (geoOf n d) d 0 (hf (geoOf n d) h) ∧ fi 1 = nI 0 ∧ q < (dI (geoOf n d) d (hf (geoOf n d) h)).length ∧ e = (dI (geoOf n d) d (hf (geoOf n d) h)).getD q (0, 0) ∧ e ∈ dI (geoOf n d) d (hf (geoOf n d) h) ∧ fm 5 = 0 ∧ fm 15 = 1 ∧ RG fm (geoOf n d) ∧ LKS fm arm (geoOf n d) d N N U ms ∧ M_folderHere nf fm arm = some (nI j, fm, arm) ∧ j < N ∧ N ≤ 16400 ∧ U ≤ 213600 ∧ arm 25 j = nI b ∧ 1 ≤ b ∧ b + (dI (geoOf n d) d (hf (geoOf n d) h)).length ≤ N ∧ MIT arm d (dA (geoOf n d) d (hf (geoOf n d) h)) b j (dI (geoOf n d) d (hf (geoOf n d) h)) U ∧ M_item nf fm arm (nI q) = some (nI (b + q), fm, arm) ∧ dA (geoOf n d) d (hf (geoOf n d) h) e.1 + 32 ≤ 512 * n ∧ dA (geoOf n d) d (hf (geoOf n d) h) e.1 % 4 = 0 ∧ 512 * (geoOf n d).a ≤ dA (geoOf n d) d (hf (geoOf n d) h) e.1 ∧ arm 20 (b + q) = nI (dA (geoOf n d) d (hf (geoOf n d) h) e.1)
theorem sel_ok {nf n h : Nat} {ln : LN} {fi fm : FI} {ar arm : AR} {d : Nat → Nat} (hV : VOL n ln fi ar fm arm d h) (x1 : Int32) (hnf : 40000 ≤ nf) : ∃ fi1 ar1 ln1 k1 s1 fm1 arm1, VOL n ln1 fi1 ar1 fm1 arm1 d h ∧ CST ln ln1 k1 s1 1 6 ∧ offF oFC fi fi1 ∧ offAs oAC ar ar1 ∧ offF oFM fm fm1 ∧ offAs oAM arm arm1 ∧ ((FX10_openHere nf fi ar ln = some (Sum.inr 0, fi1, ar1, ln1, k1, s1) ∧ M_no nf fm arm x1 = some (1, fm1, arm1) ∧ fm1 5 = 1) ∨ (FX10_openHere nf fi ar ln = some (Sum.inl (), fi1, ar1, ln1, k1, s1) ∧ FX10_itemAt nf fi1 ar1 ln1 x1 = some (Sum.inr 1, fi1, ar1, ln1, 1, 6) ∧ M_no nf fm arm x1 = some (1, fm1, arm1) ∧ fm1 5 = 2) ∨ ∃ q e j b N U ms D ρ, x1 = nI q ∧ FX10_openHere nf fi ar ln = some (Sum.inl (), fi1, ar1, ln1, k1, s1) ∧ FX10_itemAt nf fi1 ar1 ln1 x1 = some (Sum.inl (nI (dA (geoOf n d) d (hf (geoOf n d) h) e.1)), fi1, ar1, ln1, 0, 0) ∧ M_no nf fm arm x1 = some (0, fm1, arm1) ∧ SEL nf n h ln1 fi1 fm1 ar1 arm1 d q e j b N U ms D ρ) := by
  obtain ⟨fi1, ar1, ln1, k1, s1, r, a1, a2, a3, a4, a5, a6⟩ := openHere_ok hV hnf
  obtain ⟨fm1, arm1, b1, b2, b3, b4⟩ := no_ok a2 x1 hnf
  refine ⟨fi1, ar1, ln1, k1, s1, fm1, arm1, b1, a5, a3, a4, b2, b3, ?_⟩
  rcases a6 with ⟨q, rfl⟩ | ⟨q, rfl, c1, c2⟩
  · rcases b4 with ⟨_, e1, e2⟩ | ⟨e0, _⟩ | ⟨e0, _⟩
    · exact Or.inl ⟨a1, e1, e2⟩
    · exact absurd e0 q
    · exact absurd e0 q
  · obtain ⟨D, ρ, hS, hfD, hhD⟩ := a2.snd q
    have hDk := hS.2.2.1 _ hfD
    rcases itemAt_ok (nf := nf) c2 hDk x1 with ⟨w1, w2⟩ | ⟨qi, w1, w2, w3⟩
    · rcases b4 with ⟨e0, _⟩ | ⟨_, _, e1, e2⟩ | ⟨_, e0, _⟩
      · exact absurd q e0
      · exact Or.inr (Or.inl ⟨a1, w2, e1, e2⟩)
      · exact absurd e0 w1
    · rcases b4 with ⟨e0, _⟩ | ⟨_, e0, _⟩ | ⟨_, _, e1, e2, e3, e4, ms, hK⟩
      · exact absurd q e0
      · exact absurd ⟨qi, w1, w2⟩ e0
      · obtain ⟨j, b, N, U, m1, m2, m3, m4, m5, m6, m7, m8, m9, m10, m11, m12, m13, m14, m15⟩ := here_model b1 q hK hnf
        have hem : (dI (geoOf n d) d (hf (geoOf n d) h)).getD qi (0, 0) ∈ dI (geoOf n d) d (hf (geoOf n d) h) := by rw [List.getD_eq_getElem?_getD, List.getElem?_eq_getElem w1]; exact List.getElem_mem w1
        have hsl := slot_in c2.1.2.2.1 (lnk_clu hDk.1) (hDk.item hem).1
        exact Or.inr (Or.inr ⟨qi, _, j, b, N, U, ms, D, ρ, w2, a1, w3, e1, q, hS, hfD, hhD, c2, c1, w1, rfl, hem, e2, e3, e4, m10, m1, m15, m7, m8, m3, m4, m6, m9, M_item_eq (n := n) (h := h) (ln := ln) (fi := fi) (ar := ar) (d := d) m1 m2 m3, hsl.2.1, hsl.1, hsl.2.2.1, (m9 qi w1).1⟩)
theorem isDirectory_eq {nf : Nat} {ln : LN} {fi : FI} {ar : AR} {d : Nat → Nat} (hd : CD ln ar d) {p : Nat} (hp : p + 32 ≤ 4 * ln 0) : FX10_isDirectory nf ln fi ar (nI p) = some ((if isDr d p then 1 else 0), fi, ar) := by
  have hl0 := hd.1
  have b11 := hd.lt (show p + 11 < 4 * ln 0 by omega)
  unfold FX10_isDirectory FX10_isDirectory_22
  rw [show nI p + (11 : Int32) = nI (p + 11) from nI_add p 11, FX3_one_eq hd (by omega), obnd3_some, zbit16 b11, zbit0, zbit1]
  by_cases w : d (p + 11) / 16 % 2 = 1
  · rw [if_pos (show isDr d p from w), w, brF (by decide)]
  · rw [if_neg (show ¬ isDr d p from w), (Nat.mod_two_eq_zero_or_one _).resolve_right w, brT (show nI (0 * 16) = (0 : Int32) from rfl)]
theorem sumcL {α γ : Type} (v : α) (f : α → Option γ) (g : Nat → Option γ) : sumc (Sum.inl v : α ⊕ Nat) f g = f v := rfl
theorem sumcR {α γ : Type} (k : Nat) (f : α → Option γ) (g : Nat → Option γ) : sumc (Sum.inr k : α ⊕ Nat) f g = g k := rfl
