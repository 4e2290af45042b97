/-! make: the way on from a name and its short name -/
theorem MKS.same {d0 d0' d1 d2 A : Nat → Nat} {s np : Nat} {N : List Nat} {B : Nat → Nat} {bits own sum : Nat} {bz : Prop} (hnp : np ≤ s) (h1 : MKS d0 d1 A s np N B bits own sum bz) (h2 : MKS d0' d2 A s np N B bits own sum bz) {q : Nat} (hq : d0 q = d0' q) : d1 q = d2 q := by
  obtain ⟨a1, a2, a3, a4, a5⟩ := h1
  obtain ⟨b1, b2, b3, b4, b5⟩ := h2
  by_cases c : ∃ t, s - np ≤ t ∧ t ≤ s ∧ A t ≤ q ∧ q < A t + 32
  · obtain ⟨t, t1, t2, t3, t4⟩ := c
    obtain ⟨i, rfl⟩ : ∃ i, q = A t + i := ⟨q - A t, by omega⟩
    by_cases e : t = s
    · rw [e] at t3 t4 ⊢
      rw [a2 i (by omega), b2 i (by omega)]
    · have h1 := a3 (s - 1 - t) (by omega) i
      have h2 := b3 (s - 1 - t) (by omega) i
      rw [show s - 1 - (s - 1 - t) = t by omega] at h1 h2
      rw [h1 (by omega), h2 (by omega)]
  · have h0 : ∀ t, s - np ≤ t → t ≤ s → (q < A t ∨ A t + 32 ≤ q) := fun t t1 t2 => by
      apply Decidable.byContradiction
      intro w
      exact c ⟨t, t1, t2, by omega, by omega⟩
    by_cases e : bz ∧ q = A (s + 1)
    · rw [e.2, a4 e.1, b4 e.1]
    · rw [a5 q h0 (fun z w => e ⟨z, w⟩), b5 q h0 (fun z w => e ⟨z, w⟩), hq]
/-- both sides from the cluster for a directory on: class disk dc, model disk dk, the same tables -/
theorem mk_both {nf : Nat} {ln : LN} {fi fm : FI} {ar arm : AR} {G : Geo} {dc dk : Nat → Nat} {l N : List Nat} {B : Nat → Nat} {f a np ow E more bits : Nat} {x1 b32 : Int32} (hWc : CW ln fi ar G dc) (hWm : RW fm arm G dk) (hDD : DDI G dk l f) (hsame : sameT G dk dc) (hcb : ∀ q, dc q < 256) (hfr : more ≤ frC G dk 2 G.k) (hmore : more = msC G (l.length * (16 * G.c)) (a + np + 1)) (hm5 : more < 100000) (hln : G.k ≤ ln 10 ∧ ln 10 < 100000) (hl30 : ln 30 = 260) (hl40 : ln 40 = 11) (hDC : DC fi ar 0 G l) (h22 : fi 22 = nI E) (hE : E ≤ l.length * (16 * G.c)) (hF : FOL arm l) (h32 : fm 32 = nI l.length) (hNB : NB fi ar 0 N) (hMN : MN fm arm N) (hN : N.length ≤ 255 ∧ ∀ x, x ∈ N → x < 65536) (hnp : np ≤ 20) (hBc : ∀ i, i < 11 → ar 40 i = nI (B i) ∧ B i < 256) (hBm : ∀ i, i < 11 → arm 39 i = nI (B i) ∧ B i < 256) (how : ow < 65536) (hb32 : uv b32 = bits) (hbits : bits = if x1 = 0 then 32 else 48) (hnf : 6000 ≤ nf) : ∃ fi' ar' dC fm' arm' d1, obnd3 (FX2_lengthen nf ln 0 fi ar (nI more)) (fun r12 fi10 ar11 => FX10_placeEntry nf ln fi10 ar11 (nI a) (nI np) b32 (nI ow)) = some ((), fi', ar') ∧ CD ln ar' dC ∧ MKS (adD G 0 more l dc).2 dC (sa G (adD G 0 more l dk).1) (a + np) np N B bits ow (smS B 0 11) (E ≤ a + np + 1 ∧ a + np + 1 < (adD G 0 more l dk).1.length * (16 * G.c)) ∧ offF [21, 23, 24] fi fi' ∧ offAs [0, 10] ar ar' ∧ M_make_310 nf nf x1 (nI (np + 1)) (nI (l.length * (16 * G.c))) (nI E) (nI a) (nI more) (nI ow) 0 fm arm = M_make_626 nf x1 (nI (np + 1)) (nI a) (nI ow) fm' arm' ∧ RW fm' arm' G d1 ∧ MKS (adD G 0 more l dk).2 d1 (sa G (adD G 0 more l dk).1) (a + np) np N B bits ow (smS B 0 11) (E ≤ a + np + 1 ∧ a + np + 1 < (adD G 0 more l dk).1.length * (16 * G.c)) ∧ offF [32] fm fm' ∧ offAs [1, 30] arm arm' := by
  have hG := hWc.2.2.1
  have b := hG.b
  have hc : 1 ≤ G.c := by omega
  have hDDc : DDI G dc l f := hDD.same hG hsame hcb
  have hfrc : more ≤ frC G dc 2 G.k := by rw [frC_same hG hsame]; exact hfr
  obtain ⟨e1, e2⟩ := ad_same hG more l dk dc hDD hfr hsame hcb
  obtain ⟨add, r1, r2, r3, r4, r5, r6, r7, r8⟩ := dd_ok hG more l dk hDD hfr
  obtain ⟨addc, c1, c2, c3, c4, c5, c6, c7, c8⟩ := dd_ok hG more l dc hDDc hfrc
  have hl'clu := lnk_clu r3.2.2
  have hlen' := hl'clu.len
  have hllen := (lnk_clu hDD.2.2).len
  have hS2 : l.length * (16 * G.c) ≤ 65536 := Nat.le_trans (Nat.mul_le_mul hllen (Nat.le_refl _)) (Nat.le_trans (Nat.mul_le_mul (show G.k ≤ 512 by omega) (show 16 * G.c ≤ 128 by omega)) (by omega))
  have hSS : l.length * (16 * G.c) ≤ (l ++ add).length * (16 * G.c) := Nat.mul_le_mul_right _ (by rw [List.length_append]; omega)
  have hS' : a + np < (l ++ add).length * (16 * G.c) := by
    have h16 : 0 < 16 * G.c := by omega
    rw [List.length_append, r2, Nat.add_mul]
    have hge : a + np + 1 - l.length * (16 * G.c) ≤ more * (16 * G.c) := by
      rw [hmore]
      unfold msC
      obtain ⟨w, hw⟩ : ∃ w, w = a + np + 1 - l.length * (16 * G.c) := ⟨_, rfl⟩
      rw [← hw]
      have h1 := Nat.div_add_mod (w + 16 * G.c - 1) (16 * G.c)
      have h2 := Nat.mod_lt (w + 16 * G.c - 1) h16
      rw [Nat.mul_comm]
      omega
    omega
  -- the class
  obtain ⟨h23, h21, h25, h10, h24⟩ := hDC
  obtain ⟨fi1, ar1, u1, u2, u3, u4, u5⟩ := lenD_loop (nf := nf) (ln := ln) (G := G) (f := f) (M := more) hm5 (by omega) more 0 nf l fi ar dc hWc hDDc hfrc (by omega) (by have := frC_le G dk G.k 2; omega) ⟨h23, h25, h10, h24⟩ hln
  rw [e1, r1] at u3
  have hlnl : (l ++ add).length ≤ ln 10 := by omega
  obtain ⟨ar2, dC, v1, v2, v3, v4⟩ := placeC (nf := nf) (fi := fi1) (ar := ar1) (G := G) (l := l ++ add) (N := N) (B := B) (a := a) (np := np) (own := ow) (E := E) (bits := b32) u2.1 c3.1 hG hl'clu hlnl u2.2.2.2 u3 (by rw [u4 22 (by simp)]; exact h22) (by omega) hS' hnp hN hl30 hl40 (hNB.off u4 u5 (by simp) (by simp)) (fun i hi => by rw [u5 40 (by simp)]; exact hBc i hi) how (by omega)
  -- the model
  obtain ⟨fm1, arm1, w1, w2, w3, w4, w5⟩ := addM_loop (nf := nf) (G := G) (f := f) (M := more) (x1 := x1) (x6 := nI (np + 1)) (x7 := nI (l.length * (16 * G.c))) (x8 := nI E) (x9 := nI a) (x11 := nI ow) hm5 hnf more 0 nf l fm arm dk hWm hDD hfr (by omega) (by have := frC_le G dk G.k 2; omega) h32 hF
  rw [r1] at w3
  obtain ⟨arm2, d1, z1, z2, z3, z4⟩ := placeM (nf := nf) (fm := fm1) (arm := arm1) (G := G) (l := l ++ add) (N := N) (B := B) (a := a) (np := np) (own := ow) (E := E) (S := l.length * (16 * G.c)) (bits := bits) (x1 := x1) w2 r3.1 hl'clu w3 hS' hSS (by omega) hnp hN ⟨by rw [w4 35 (by simp)]; exact hMN.1, fun i hi => by rw [w5 34 (by simp)]; exact hMN.2 i hi⟩ (fun i hi => by rw [w5 39 (by simp)]; exact hBm i hi) how hbits (by omega)
  have z3' : MKS (adD G 0 more l dk).2 d1 (sa G (l ++ add)) (a + np) np N B bits ow (smS B 0 11) (E ≤ a + np + 1 ∧ a + np + 1 < (l ++ add).length * (16 * G.c)) := by
    refine z3.mono (fun w => ⟨w.1, by omega⟩) (fun w hw => ?_)
    have hge : l.length * (16 * G.c) ≤ a + np + 1 := by
      apply Decidable.byContradiction
      intro q
      exact hw ⟨w.1, by omega⟩
    refine ⟨?_, fun t t1 t2 => ?_⟩
    · -- the slot behind lies in an added cluster
      have h16 : 0 < 16 * G.c := by omega
      have hi : l.length ≤ (a + np + 1) / (16 * G.c) := (Nat.le_div_iff_mul_le h16).mpr hge
      have hi2 : (a + np + 1) / (16 * G.c) < (l ++ add).length := (Nat.div_lt_iff_lt_mul h16).mpr w.2
      obtain ⟨y1, y2, y3⟩ := sa_cl hG w.2
      have hya : (l ++ add).getD ((a + np + 1) / (16 * G.c)) 0 ∈ add := by
        rw [List.length_append] at hi2
        rw [List.getD_eq_getElem?_getD, List.getElem?_append_right hi, List.getElem?_eq_getElem (by omega)]
        exact List.getElem_mem _
      exact r8 _ hya _ y2 (by omega)
    · have := sa_apart hc hl'clu w.2 (t := t) (by omega) (by omega); omega
  refine ⟨fi1, ar2, dC, fm1, arm2, d1, ?_, v2, ?_, u4, u5.tr (v4.as.mono (by simp)), ?_, z2, ?_, w4, w5.tr (z4.as.mono (by simp))⟩
  · unfold FX2_lengthen
    have u1' : FX2_lengthen_2 nf ln 0 nf (nI more) 0 fi ar = some ((), fi1, ar1) := u1
    rw [u1', obnd3_some]; exact v1
  · rw [r1, ← hb32]; exact v3
  · have w1' : M_make_310 nf nf x1 (nI (np + 1)) (nI (l.length * (16 * G.c))) (nI E) (nI a) (nI more) (nI ow) 0 fm arm = _ := w1
    rw [w1']; exact z1
  · rw [r1]; exact z3'
