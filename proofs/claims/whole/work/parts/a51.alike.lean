/-! make: names and short names that are here -/
theorem alikeHere_loop {nf : Nat} {ln : LN} {G : Geo} {d : Nat → Nat} {l : List Nat} {its : List (Nat × Nat)} {N : List Nat} {L : Nat} (hl : clu G l) (hL : LK ln 0 L) (hLC : LNC ln G.n) (hle : its.length ≤ L) (hits : ∀ e, e ∈ its → e.1 < l.length * (16 * G.c) ∧ e.2 ≤ 20 ∧ e.2 ≤ e.1) (hN : N.length ≤ 260 ∧ ∀ x, x ∈ N → x < 65536) (hnf : 600 ≤ nf) : ∀ (m q kf : Nat) (fi : FI) (ar : AR), CW ln fi ar G d → DC fi ar 0 G l → IC fi ar 0 its (fun _ => 0) → NB fi ar 0 N → q + m = its.length → m < kf → ∃ fi' ar' r, FX10_isAlikeHere_2 nf ln kf (nI q) fi ar = some (r, fi', ar') ∧ ((r = 1 ∧ ∃ t, t < its.length ∧ q ≤ t ∧ alk N (nm d (sa G l) (its.getD t (0, 0)).1 (its.getD t (0, 0)).2)) ∨ (r = 0 ∧ ¬ ∃ t, t < its.length ∧ q ≤ t ∧ alk N (nm d (sa G l) (its.getD t (0, 0)).1 (its.getD t (0, 0)).2))) ∧ offF [61] fi fi' ∧ offAs [31] ar ar' := by
  intro m
  induction m with
  | zero =>
    intro q kf fi ar hW hD hI hNB hq hk
    have hLb := hL.2.2.2.2
    obtain ⟨kf, rfl⟩ : ∃ k, kf = k + 1 := ⟨kf - 1, by omega⟩
    rw [show FX10_isAlikeHere_2 nf ln (kf + 1) = FX10_isAlikeHere_2b (FX10_isAlikeHere_2 nf ln kf) nf ln from rfl]
    unfold FX10_isAlikeHere_2b
    rw [hI.1, brT (nI_le (by omega) (by omega))]
    exact ⟨fi, ar, 0, rfl, Or.inr ⟨rfl, fun ⟨t, t1, t2, _⟩ => by omega⟩, offF.rf, offAs.rf⟩
  | succ m ih =>
    intro q kf fi ar hW hD hI hNB hq hk
    have hLb := hL.2.2.2.2
    have hG := hW.2.2.1
    have b := hG.b
    have hlen := hl.len
    have hln : l.length ≤ ln (10 + 4 * 0) := by
      rw [hLC.2.2.2.2.2.2.1 0 (by omega)]
      have : G.k * 2 ≤ G.k * G.c := Nat.mul_le_mul_left _ (by omega)
      omega
    obtain ⟨kf, rfl⟩ : ∃ k, kf = k + 1 := ⟨kf - 1, by omega⟩
    rw [show FX10_isAlikeHere_2 nf ln (kf + 1) = FX10_isAlikeHere_2b (FX10_isAlikeHere_2 nf ln kf) nf ln from rfl]
    unfold FX10_isAlikeHere_2b
    have hq2 : q < its.length := by omega
    obtain ⟨e, he⟩ : ∃ e, e = its.getD q (0, 0) := ⟨_, rfl⟩
    have hem : e ∈ its := by
      rw [he, List.getD_eq_getElem?_getD, List.getElem?_eq_getElem hq2]; exact List.getElem_mem hq2
    obtain ⟨i1, i2, i3⟩ := hits e hem
    rw [hI.1, brF (nI_ge (by omega) (by omega)), slotOf_eq hI hL hle hq2, obnd3_some, partsOf_eq hI hL hle hq2, obnd3_some, ← he]
    obtain ⟨fi1, ar1, r1, r2, r3, r4, r5⟩ := read_ok (nf := nf) (i1 := 0) (j := 1) hG hW.1 hl hln (by omega) (by omega) (hLC.2.2.2.2.2.2.2.1 1 (by omega)) hW.2.2.2 i2 i3 i1 hnf hD
    have hNB1 : NB fi1 ar1 0 N := hNB.off r4 r5.as (by simp) (by simp)
    have hnm := nm_of (s := e.1) (np := e.2) hG hW.1 hW.2.2.2 hl i1 i2
    rw [r1, obnd3_some, alike_eq hNB1 r2 hN.2 hnm.2 (hLC.2.2.2.2.2.2.2.1 0 (by omega)) (hLC.2.2.2.2.2.2.2.1 1 (by omega)) hN.1 hnm.1 (by omega), obnd3_some]
    by_cases c : alk N (nm d (sa G l) e.1 e.2)
    · rw [if_pos c, brF (by decide)]
      exact ⟨fi1, ar1, 1, rfl, Or.inl ⟨rfl, q, hq2, Nat.le_refl _, by rw [← he]; exact c⟩, r4, r5.as⟩
    · rw [if_neg c, brT rfl, bnd_eq, show nI q + (1 : Int32) = nI (q + 1) from nI_add q 1]
      obtain ⟨fi2, ar2, r, s1, s2, s3, s4⟩ := ih (q + 1) kf fi1 ar1 (hW.off r4 r5.as (by simp) (by simp)) (hD.off r4 r5.as (by simp) (by simp)) (hI.off r4 r5.as (by simp) (by simp)) hNB1 (by omega) (by omega)
      refine ⟨fi2, ar2, r, s1, ?_, r4.tr s3, r5.as.tr s4⟩
      rcases s2 with ⟨w1, t, w2, w3, w4⟩ | ⟨w1, w2⟩
      · exact Or.inl ⟨w1, t, w2, by omega, w4⟩
      · refine Or.inr ⟨w1, fun ⟨t, t1, t2, t3⟩ => ?_⟩
        by_cases z : t = q
        · rw [z, ← he] at t3; exact c t3
        · exact w2 ⟨t, t1, by omega, t3⟩
theorem mem_getD {α : Type} {l : List α} {d0 : α} {P : α → Prop} : (∃ t, t < l.length ∧ 0 ≤ t ∧ P (l.getD t d0)) ↔ ∃ e, e ∈ l ∧ P e := by
  constructor
  · rintro ⟨t, h1, _, h2⟩
    refine ⟨_, ?_, h2⟩
    rw [List.getD_eq_getElem?_getD, List.getElem?_eq_getElem h1]; exact List.getElem_mem h1
  · rintro ⟨e, h1, h2⟩
    obtain ⟨t, ht, rfl⟩ := List.getElem_of_mem h1
    refine ⟨t, ht, Nat.zero_le _, ?_⟩
    rw [List.getD_eq_getElem?_getD, List.getElem?_eq_getElem ht]; exact h2
theorem alikeHere_ok {nf : Nat} {ln : LN} {fi : FI} {ar : AR} {G : Geo} {d : Nat → Nat} {f : Nat} {N : List Nat} (h : HR ln fi ar G d 0 f) (hDk : DOK G d f) (hNB : NB fi ar 0 N) (hN : N.length ≤ 260 ∧ ∀ x, x ∈ N → x < 65536) (hnf : 40000 ≤ nf) : ∃ fi' ar' r, FX10_isAlikeHere nf ln fi ar = some (r, fi', ar') ∧ ((r = 1 ∧ ∃ e, e ∈ dI G d f ∧ alk (nm d (dA G d f) e.1 e.2) N) ∨ (r = 0 ∧ ¬ ∃ e, e ∈ dI G d f ∧ alk (nm d (dA G d f) e.1 e.2) N)) ∧ offF [61] fi fi' ∧ offAs [31] ar ar' := by
  obtain ⟨h1, h2, h3, h4, h5, L, h6, h7⟩ := h
  have hLb := h6.2.2.2.2
  obtain ⟨fi', ar', r, s1, s2, s3, s4⟩ := alikeHere_loop (nf := nf) (lnk_clu hDk.1) h6 h2 h7 (fun e he => hDk.item he) hN (by omega) (dI G d f).length 0 nf fi ar h1 h3 h4 hNB (by omega) (by omega)
  refine ⟨fi', ar', r, s1, ?_, s3, s4⟩
  rw [mem_getD (P := fun e : Nat × Nat => alk N (nm d (sa G (cl G d f)) e.1 e.2))] at s2
  rcases s2 with ⟨w1, e, w2, w3⟩ | ⟨w1, w2⟩
  · exact Or.inl ⟨w1, e, w2, w3.symm⟩
  · exact Or.inr ⟨w1, fun ⟨e, z1, z2⟩ => w2 ⟨e, z1, Eq.symm z2⟩⟩
/-- an item's short name is B -/
def shB (d A : Nat → Nat) (B : Nat → Nat) (e : Nat × Nat) : Prop := ∀ i, i < 11 → d (A e.1 + i) = B i
theorem isAt_loop {nf : Nat} {ln : LN} {fi : FI} {ar : AR} {d B : Nat → Nat} {p : Nat} (hC : CD ln ar d) (hl : ln 40 = 11) (hp : p + 32 ≤ 4 * ln 0) (hB : ∀ i, i < 11 → ar 40 i = nI (B i) ∧ B i < 65536) : ∀ (m i kf : Nat), i + m = 11 → m < kf → ∃ r, FX7_isAt_2 nf ln 0 kf (nI p) (nI i) fi ar = some (r, fi, ar) ∧ ((r = 1 ∧ ∀ t, i ≤ t → t < 11 → d (p + t) = B t) ∨ (r = 0 ∧ ∃ t, t < 11 ∧ d (p + t) ≠ B t)) := by
  have h0 := hC.1
  intro m
  induction m with
  | zero =>
    intro i kf hi hk
    obtain ⟨kf, rfl⟩ : ∃ k, kf = k + 1 := ⟨kf - 1, by omega⟩
    rw [show FX7_isAt_2 nf ln 0 (kf + 1) = FX7_isAt_2b (FX7_isAt_2 nf ln 0 kf) nf ln 0 from rfl]
    unfold FX7_isAt_2b
    rw [brT (show (11 : Int32) ≤ nI i from nI_le (a := 11) (by omega) (by omega))]
    exact ⟨1, rfl, Or.inl ⟨rfl, fun t t1 t2 => by omega⟩⟩
  | succ m ih =>
    intro i kf hi hk
    obtain ⟨kf, rfl⟩ : ∃ k, kf = k + 1 := ⟨kf - 1, by omega⟩
    rw [show FX7_isAt_2 nf ln 0 (kf + 1) = FX7_isAt_2b (FX7_isAt_2 nf ln 0 kf) nf ln 0 from rfl]
    unfold FX7_isAt_2b
    have hd := hC.lt (p := p + i) (by omega)
    obtain ⟨b1, b2⟩ := hB i (by omega)
    rw [brF (show ¬ (11 : Int32) ≤ nI i from nI_ge (b := 11) (by omega) (by omega)), nI_add, FX3_one_eq hC (by omega), obnd3_some, zgd (by show i < ln 40; omega) (by omega), nI_clamp (by omega), show ar (40 + 2 * 0) i = nI (B i) from b1]
    by_cases c : d (p + i) = B i
    · rw [brT (by rw [c]), bnd_eq, show nI i + (1 : Int32) = nI (i + 1) from nI_add i 1]
      obtain ⟨r, s1, s2⟩ := ih (i + 1) kf (by omega) (by omega)
      refine ⟨r, s1, ?_⟩
      rcases s2 with ⟨w1, w2⟩ | w
      · refine Or.inl ⟨w1, fun t t1 t2 => ?_⟩
        by_cases z : t = i
        · rw [z]; exact c
        · exact w2 t (by omega) t2
      · exact Or.inr w
    · rw [brF (fun w => c ((nI_eq (by omega) (by omega)).mp w))]
      exact ⟨0, rfl, Or.inr ⟨rfl, i, by omega, c⟩⟩
theorem hasShort_loop {nf : Nat} {ln : LN} {fi : FI} {ar : AR} {G : Geo} {d B : Nat → Nat} {l : List Nat} {its : List (Nat × Nat)} {L : Nat} (hW : CW ln fi ar G d) (hl : clu G l) (hL : LK ln 0 L) (hLC : LNC ln G.n) (hle : its.length ≤ L) (hits : ∀ e, e ∈ its → e.1 < l.length * (16 * G.c)) (hD : DC fi ar 0 G l) (hI : IC fi ar 0 its (fun _ => 0)) (hB : ∀ i, i < 11 → ar 40 i = nI (B i) ∧ B i < 65536) (hnf : 600 ≤ nf) : ∀ (m q kf : Nat), q + m = its.length → m < kf → ∃ r, FX2_hasShort_2 nf ln 0 0 kf (nI q) fi ar = some (r, fi, ar) ∧ ((r = 1 ∧ ∃ t, t < its.length ∧ q ≤ t ∧ shB d (sa G l) B (its.getD t (0, 0))) ∨ (r = 0 ∧ ¬ ∃ t, t < its.length ∧ q ≤ t ∧ shB d (sa G l) B (its.getD t (0, 0)))) := by
  have hLb := hL.2.2.2.2
  have hG := hW.2.2.1
  have b := hG.b
  have hl40 : ln 40 = 11 := (hLC.2.2.2.2.2.2.2.2 0 (by omega)).1
  have hlen := hl.len
  have hln : l.length ≤ ln (10 + 4 * 0) := by
    rw [hLC.2.2.2.2.2.2.1 0 (by omega)]
    have : G.k * 2 ≤ G.k * G.c := Nat.mul_le_mul_left _ (by omega)
    omega
  intro m
  induction m with
  | zero =>
    intro q kf hq hk
    obtain ⟨kf, rfl⟩ : ∃ k, kf = k + 1 := ⟨kf - 1, by omega⟩
    rw [show FX2_hasShort_2 nf ln 0 0 (kf + 1) = FX2_hasShort_2b (FX2_hasShort_2 nf ln 0 0 kf) nf ln 0 0 from rfl]
    unfold FX2_hasShort_2b
    rw [hI.1, brT (nI_le (by omega) (by omega))]
    exact ⟨0, rfl, Or.inr ⟨rfl, fun ⟨t, t1, t2, _⟩ => by omega⟩⟩
  | succ m ih =>
    intro q kf hq hk
    obtain ⟨kf, rfl⟩ : ∃ k, kf = k + 1 := ⟨kf - 1, by omega⟩
    rw [show FX2_hasShort_2 nf ln 0 0 (kf + 1) = FX2_hasShort_2b (FX2_hasShort_2 nf ln 0 0 kf) nf ln 0 0 from rfl]
    unfold FX2_hasShort_2b
    have hq2 : q < its.length := by omega
    obtain ⟨e, he⟩ : ∃ e, e = its.getD q (0, 0) := ⟨_, rfl⟩
    have hem : e ∈ its := by
      rw [he, List.getD_eq_getElem?_getD, List.getElem?_eq_getElem hq2]; exact List.getElem_mem hq2
    have i1 := hits e hem
    have hin := slot_in hG hl i1
    have hl0 := hW.2.2.2
    obtain ⟨r, s1, s2⟩ := isAt_loop (nf := nf) (fi := fi) (B := B) (p := sa G l e.1) hW.1 hl40 (by omega) hB 11 0 nf (by omega) (by omega)
    have s1' : FX7_isAt nf ln 0 fi ar (nI (sa G l e.1)) = some (r, fi, ar) := s1
    have hL1 : ln (11 + 4 * 0) = L := hL.1
    rw [hI.1, brF (nI_ge (by omega) (by omega)), zgd (by omega) (by omega), nI_clamp (by omega), (hI.2 q hq2).1, ← he, slotAddress_eq hG hl hD hln i1, obnd3_some, s1', obnd3_some]
    rcases s2 with ⟨rfl, w⟩ | ⟨rfl, t0, w1, w2⟩
    · rw [brF (by decide)]
      exact ⟨1, rfl, Or.inl ⟨rfl, q, hq2, Nat.le_refl _, by rw [← he]; exact fun i hi => w i (Nat.zero_le _) hi⟩⟩
    · rw [brT rfl, bnd_eq, show nI q + (1 : Int32) = nI (q + 1) from nI_add q 1]
      obtain ⟨r, s1, s2⟩ := ih (q + 1) kf (by omega) (by omega)
      refine ⟨r, s1, ?_⟩
      rcases s2 with ⟨z1, t, z2, z3, z4⟩ | ⟨z1, z2⟩
      · exact Or.inl ⟨z1, t, z2, by omega, z4⟩
      · refine Or.inr ⟨z1, fun ⟨t, t1, t2, t3⟩ => ?_⟩
        by_cases z : t = q
        · rw [z, ← he] at t3; exact w2 (t3 t0 w1)
        · exact z2 ⟨t, t1, by omega, t3⟩
theorem hasShort_ok {nf : Nat} {ln : LN} {fi : FI} {ar : AR} {G : Geo} {d B : Nat → Nat} {f : Nat} (h : HR ln fi ar G d 0 f) (hDk : DOK G d f) (hB : ∀ i, i < 11 → ar 40 i = nI (B i) ∧ B i < 65536) (hnf : 40000 ≤ nf) : ∃ r, FX2_hasShort nf ln 0 0 fi ar = some (r, fi, ar) ∧ ((r = 1 ∧ ∃ e, e ∈ dI G d f ∧ shB d (dA G d f) B e) ∨ (r = 0 ∧ ¬ ∃ e, e ∈ dI G d f ∧ shB d (dA G d f) B e)) := by
  obtain ⟨h1, h2, h3, h4, h5, L, h6, h7⟩ := h
  have hLb := h6.2.2.2.2
  obtain ⟨r, s1, s2⟩ := hasShort_loop (nf := nf) h1 (lnk_clu hDk.1) h6 h2 h7 (fun e he => (hDk.item he).1) h3 h4 hB (by omega) (dI G d f).length 0 nf (by omega) (by omega)
  refine ⟨r, s1, ?_⟩
  rw [mem_getD (P := fun e : Nat × Nat => shB d (sa G (cl G d f)) B e)] at s2
  exact s2
theorem brt_loop {nf : Nat} {fm : FI} {arm : AR} {d B : Nat → Nat} {j p i0 : Nat} (hR : RD arm d) (hj : j < 16400) (h20 : arm 20 j = nI p) (hp : p + 32 ≤ 524288) (hB : ∀ i, i < 11 → arm 39 i = nI (B i) ∧ B i < 65536) (K : Int32 → Int32 → FI → AR → Option (Int32 × FI × AR)) : ∀ (m i kf g : Nat), i + m = 11 → m < kf → g < 2 → (g ≠ 0 ↔ ∀ t, t < i → d (p + t) = B t) → ((∀ t, t < 11 → d (p + t) = B t) → M_isBriefTaken_29 K nf kf (nI i0) (nI j) (nI g) (nI i) fm arm = some (1, fm, arm)) ∧ ((¬ ∀ t, t < 11 → d (p + t) = B t) → M_isBriefTaken_29 K nf kf (nI i0) (nI j) (nI g) (nI i) fm arm = K (nI i0) (nI (j + 1)) fm arm) := by
  intro m
  induction m with
  | zero =>
    intro i kf g hi hk hg hgi
    obtain ⟨kf, rfl⟩ : ∃ k, kf = k + 1 := ⟨kf - 1, by omega⟩
    rw [show M_isBriefTaken_29 K nf (kf + 1) = M_isBriefTaken_29b (M_isBriefTaken_29 K nf kf) K nf from rfl]
    unfold M_isBriefTaken_29b
    rw [brT (show (11 : Int32) ≤ nI i from nI_le (a := 11) (by omega) (by omega))]
    have e : i = 11 := by omega
    rw [e] at hgi
    constructor
    · intro w
      rw [brF (nI_ne0 (by have := hgi.mpr w; omega) (by omega))]
    · intro w
      have g0 : g = 0 := Decidable.byContradiction (fun q => w (hgi.mp q))
      rw [brT (by rw [g0]; rfl), bnd_eq, show nI j + (1 : Int32) = nI (j + 1) from nI_add j 1]
  | succ m ih =>
    intro i kf g hi hk hg hgi
    obtain ⟨kf, rfl⟩ : ∃ k, kf = k + 1 := ⟨kf - 1, by omega⟩
    rw [show M_isBriefTaken_29 K nf (kf + 1) = M_isBriefTaken_29b (M_isBriefTaken_29 K nf kf) K nf from rfl]
    unfold M_isBriefTaken_29b M_isBriefTaken_67 M_isBriefTaken_68
    have hd := hR.lt (p := p + i) (by omega)
    obtain ⟨b1, b2⟩ := hB i (by omega)
    have hi1 : nI i + (1 : Int32) = nI (i + 1) := nI_add i 1
    rw [brF (show ¬ (11 : Int32) ≤ nI i from nI_ge (b := 11) (by omega) (by omega))]
    by_cases g0 : g = 0
    · rw [brT (by rw [g0]; rfl), bnd_eq, hi1]
      have := ih (i + 1) kf 0 (by omega) (by omega) (by omega) ⟨fun w => absurd rfl w, fun w => absurd g0 (hgi.mpr (fun t ht => w t (by omega)))⟩
      exact this
    · rw [brF (nI_ne0 (by omega) (by omega)), zgd hj (by omega), nI_clamp (by omega), h20, nI_add, M_one_eq hR (by omega), obnd3_some, zgd (show i < 11 by omega) (by omega), nI_clamp (show i < 2 ^ 31 by omega), b1]
      by_cases c : d (p + i) = B i
      · rw [brT (by rw [c]), bnd_eq, hi1]
        exact ih (i + 1) kf 1 (by omega) (by omega) (by omega) ⟨fun _ t ht => by
          by_cases z : t = i
          · rw [z]; exact c
          · exact hgi.mp g0 t (by omega), fun _ => by omega⟩
      · rw [brF (fun w => c ((nI_eq (by omega) (by omega)).mp w)), bnd_eq, hi1]
        exact ih (i + 1) kf 0 (by omega) (by omega) (by omega) ⟨fun w => absurd rfl w, fun w => absurd (w i (by omega)) c⟩
theorem bTaken_loop {nf : Nat} {fm : FI} {arm : AR} {d A B : Nat → Nat} {b i0 U : Nat} {its : List (Nat × Nat)} (hR : RD arm d) (hi0 : i0 < 16400) (h : MIT arm d A b i0 its U) (hb : b + its.length ≤ 16400) (h25 : arm 25 i0 = nI b) (h24 : arm 24 i0 = nI its.length) (hits : ∀ e, e ∈ its → A e.1 + 32 ≤ 524288) (hB : ∀ i, i < 11 → arm 39 i = nI (B i) ∧ B i < 65536) (hnf : 20 ≤ nf) : ∀ (m q kf : Nat), q + m = its.length → m < kf → ∃ r, M_isBriefTaken_7 nf kf (nI i0) (nI (b + q)) fm arm = some (r, fm, arm) ∧ ((r = 1 ∧ ∃ t, t < its.length ∧ q ≤ t ∧ shB d A B (its.getD t (0, 0))) ∨ (r = 0 ∧ ¬ ∃ t, t < its.length ∧ q ≤ t ∧ shB d A B (its.getD t (0, 0)))) := by
  intro m
  induction m with
  | zero =>
    intro q kf hq hk
    obtain ⟨kf, rfl⟩ : ∃ k, kf = k + 1 := ⟨kf - 1, by omega⟩
    rw [show M_isBriefTaken_7 nf (kf + 1) = M_isBriefTaken_7b (M_isBriefTaken_7 nf kf) nf from rfl]
    unfold M_isBriefTaken_7b
    rw [zgd hi0 (by omega), zgd hi0 (by omega), nI_clamp (by omega), h25, h24, nI_add, brT (nI_le (by omega) (by omega))]
    exact ⟨0, rfl, Or.inr ⟨rfl, fun ⟨t, t1, t2, _⟩ => by omega⟩⟩
  | succ m ih =>
    intro q kf hq hk
    obtain ⟨kf, rfl⟩ : ∃ k, kf = k + 1 := ⟨kf - 1, by omega⟩
    rw [show M_isBriefTaken_7 nf (kf + 1) = M_isBriefTaken_7b (M_isBriefTaken_7 nf kf) nf from rfl]
    unfold M_isBriefTaken_7b
    have hq2 : q < its.length := by omega
    obtain ⟨e, he⟩ : ∃ e, e = its.getD q (0, 0) := ⟨_, rfl⟩
    have hem : e ∈ its := by
      rw [he, List.getD_eq_getElem?_getD, List.getElem?_eq_getElem hq2]; exact List.getElem_mem hq2
    have h20 := (h q hq2).1
    rw [← he] at h20
    have hbr := brt_loop (nf := nf) (fm := fm) (i0 := i0) (j := b + q) hR (by omega) h20 (hits e hem) hB (M_isBriefTaken_7 nf kf) 11 0 nf 1 (by omega) (by omega) (by omega) ⟨fun _ t ht => absurd ht (by omega), fun _ => by omega⟩
    rw [zgd hi0 (by omega), zgd hi0 (by omega), nI_clamp (by omega), h25, h24, nI_add, brF (nI_ge (by omega) (by omega))]
    by_cases c : ∀ t, t < 11 → d (A e.1 + t) = B t
    · exact ⟨1, hbr.1 c, Or.inl ⟨rfl, q, hq2, Nat.le_refl _, by rw [← he]; exact c⟩⟩
    · obtain ⟨r, s1, s2⟩ := ih (q + 1) kf (by omega) (by omega)
      refine ⟨r, (hbr.2 c).trans s1, ?_⟩
      rcases s2 with ⟨z1, t, z2, z3, z4⟩ | ⟨z1, z2⟩
      · exact Or.inl ⟨z1, t, z2, by omega, z4⟩
      · refine Or.inr ⟨z1, fun ⟨t, t1, t2, t3⟩ => ?_⟩
        by_cases z : t = q
        · rw [z, ← he] at t3; exact c t3
        · exact z2 ⟨t, t1, by omega, t3⟩
theorem bTaken_ok {nf : Nat} {fm : FI} {arm : AR} {d A B : Nat → Nat} {b i0 U : Nat} {its : List (Nat × Nat)} (hR : RD arm d) (hi0 : i0 < 16400) (h : MIT arm d A b i0 its U) (hb : b + its.length ≤ 16400) (h25 : arm 25 i0 = nI b) (h24 : arm 24 i0 = nI its.length) (hits : ∀ e, e ∈ its → A e.1 + 32 ≤ 524288) (hB : ∀ i, i < 11 → arm 39 i = nI (B i) ∧ B i < 65536) (hnf : 40000 ≤ nf) : ∃ r, M_isBriefTaken nf fm arm (nI i0) = some (r, fm, arm) ∧ ((r = 1 ∧ ∃ e, e ∈ its ∧ shB d A B e) ∨ (r = 0 ∧ ¬ ∃ e, e ∈ its ∧ shB d A B e)) := by
  obtain ⟨r, s1, s2⟩ := bTaken_loop (nf := nf) (fm := fm) hR hi0 h hb h25 h24 hits hB (by omega) its.length 0 nf (by omega) (by omega)
  refine ⟨r, ?_, ?_⟩
  · unfold M_isBriefTaken
    rw [zgd hi0 (by omega), nI_clamp (by omega), bnd_eq, h25]; exact s1
  · rw [mem_getD (P := fun e : Nat × Nat => shB d A B e)] at s2
    exact s2
