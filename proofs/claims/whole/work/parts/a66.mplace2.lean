/-! make: the entry is placed, the model, put together -/
theorem partsM_loop {nf : Nat} {fm : FI} {G : Geo} {l : List Nat} {N : List Nat} {B : Nat → Nat} {a np : Nat} {x1 x7 x8 x11 : Int32} (hl : clu G l) (hs : a + np < l.length * (16 * G.c)) (hnp : np ≤ 20) (hN : N.length ≤ 255 ∧ ∀ x, x ∈ N → x < 65536) (h35 : fm 35 = nI N.length) (hnf : 600 ≤ nf) : ∀ (m t kf : Nat) (arm : AR) (d : Nat → Nat), t + m = a + np → a ≤ t → m < kf → RW fm arm G d → (∀ q, d q < 256) → FOL arm l → (∀ i, i < N.length → arm 34 i = nI (N.getD i 0)) → (∀ i, i < 11 → d (sa G l (a + np) + i) = B i) → (∀ i, t ≤ i → i < a + np → SLT d (sa G l i) (fun _ => 0)) → ∃ arm' d', M_make_472 nf kf x1 (nI (np + 1)) x7 x8 (nI a) x11 (nI (sa G l (a + np))) (nI t) fm arm = br (x1 = 0) (M_make_548 nf x1 (nI (np + 1)) x7 x8 (nI a) x11 (nI (sa G l (a + np))) (nI (sa G l (a + np)) + 11) 1 32 fm arm') (M_make_548 nf x1 (nI (np + 1)) x7 x8 (nI a) x11 (nI (sa G l (a + np))) (nI (sa G l (a + np)) + 11) 1 48 fm arm') ∧ RW fm arm' G d' ∧ (∀ q, d' q < 256) ∧ (∀ i, t ≤ i → i < a + np → SLT d' (sa G l i) (cP (uN N (a + np - 1 - i)) (nuN np (a + np - 1 - i)) (smS B 0 11))) ∧ (∀ q, (∀ i, t ≤ i → i < a + np → (q < sa G l i ∨ sa G l i + 32 ≤ q)) → d' q = d q) ∧ offA 1 arm arm' := by
  have hsm : smS B 0 11 < 256 := by rw [smS]; exact Nat.mod_lt _ (by decide)
  intro m
  induction m with
  | zero =>
    intro t kf arm d ht hat hk hW hb hF h34 hB hz
    have hin := slot_in hW.2.2 hl (s := a + np) hs
    obtain ⟨kf, rfl⟩ : ∃ k, kf = k + 1 := ⟨kf - 1, by omega⟩
    rw [show M_make_472 nf (kf + 1) = M_make_472b (M_make_472 nf kf) nf from rfl]
    unfold M_make_472b
    rw [nI_add, show nI (a + (np + 1)) - (1 : Int32) = nI (a + np) from nI_sub (a := a + (np + 1)) (b := 1) (by omega), brT (nI_le (by omega) (by omega))]
    exact ⟨arm, d, rfl, hW, hb, fun i i1 i2 => by omega, fun q _ => rfl, offA.rf⟩
  | succ m ih =>
    intro t kf arm d ht hat hk hW hb hF h34 hB hz
    have hG := hW.2.2
    have b := hG.b
    have hin := slot_in hG hl (s := a + np) hs
    have hint := slot_in hG hl (s := t) (by omega)
    have hap : ∀ t', t' < l.length * (16 * G.c) → t' ≠ t → sa G l t + 32 ≤ sa G l t' ∨ sa G l t' + 32 ≤ sa G l t := fun t' h1 h2 => sa_apart (show 1 ≤ G.c by omega) hl (by omega) h1 (fun e => h2 e.symm)
    obtain ⟨j, hj⟩ : ∃ j, j = a + np - 1 - t := ⟨_, rfl⟩
    obtain ⟨kf, rfl⟩ : ∃ k, kf = k + 1 := ⟨kf - 1, by omega⟩
    rw [show M_make_472 nf (kf + 1) = M_make_472b (M_make_472 nf kf) nf from rfl]
    unfold M_make_472b M_make_513
    have hsum : smS d (sa G l (a + np)) 11 = smS B 0 11 := smS_congr 11 hB
    have hM : MN fm arm N := ⟨h35, h34⟩
    have lay : ∀ x3 : Int32, ((x3 = 0 ∧ j + 1 ≠ np) ∨ (x3 = 1 ∧ j + 1 = np)) → ∃ arm' d', obnd3 (M_sumOf nf fm arm (nI (sa G l (a + np)))) (fun r71 fi69 ar70 => obnd3 (M_layPart nf fi69 ar70 (nI (sa G l t)) (nI (j + 1)) x3 r71) fun r75 fi73 ar74 => bnd (nI t + 1) fun x13_76 => M_make_472 nf kf x1 (nI (np + 1)) x7 x8 (nI a) x11 (nI (sa G l (a + np))) x13_76 fi73 ar74) = br (x1 = 0) (M_make_548 nf x1 (nI (np + 1)) x7 x8 (nI a) x11 (nI (sa G l (a + np))) (nI (sa G l (a + np)) + 11) 1 32 fm arm') (M_make_548 nf x1 (nI (np + 1)) x7 x8 (nI a) x11 (nI (sa G l (a + np))) (nI (sa G l (a + np)) + 11) 1 48 fm arm') ∧ RW fm arm' G d' ∧ (∀ q, d' q < 256) ∧ (∀ i, t ≤ i → i < a + np → SLT d' (sa G l i) (cP (uN N (a + np - 1 - i)) (nuN np (a + np - 1 - i)) (smS B 0 11))) ∧ (∀ q, (∀ i, t ≤ i → i < a + np → (q < sa G l i ∨ sa G l i + 32 ≤ q)) → d' q = d q) ∧ offA 1 arm arm' := fun x3 hx3 => by
      obtain ⟨arm1, r1, r2, r3⟩ := layPart_ok (nf := nf) (p := sa G l t) (j := j) (np := np) (sum := smS B 0 11) (x3 := x3) hW.1 hN hM (by omega) (by omega) hsm hx3 (by omega)
      have hap0 := hap (a + np) hs (by omega)
      obtain ⟨arm', d', s1, s2, s3, s4, s5, s6⟩ := ih (t + 1) kf arm1 _ (by omega) (by omega) (by omega) ⟨r2, hW.2⟩ (lpD_lt hb) (fun q hq => by rw [r3 30 (by decide)]; exact hF q hq) (fun i hi => by rw [r3 34 (by decide)]; exact h34 i hi) (fun i hi => by rw [lpD_out (by omega)]; exact hB i hi) (fun i i1 i2 => (hz i (by omega) i2).off (fun q q1 q2 => lpD_out (by have := hap i (by omega) (by omega); omega)))
      refine ⟨arm', d', ?_, s2, s3, fun i i1 i2 => ?_, fun q q1 => ?_, r3.tr s6⟩
      · rw [M_sumOf_eq hW.1 (by omega) (by omega), obnd3_some, hsum, r1, obnd3_some, bnd_eq, show nI t + (1 : Int32) = nI (t + 1) from nI_add t 1]; exact s1
      · by_cases e : i = t
        · rw [e, ← hj]
          exact (lpD_slt (hz t (Nat.le_refl _) (by omega))).off (fun q q1 q2 => s5 q (fun i' i1' i2' => by have := hap i' (by omega) (by omega); omega))
        · exact s4 i (by omega) i2
      · rw [s5 q (fun i i1 i2 => q1 i (by omega) i2), lpD_out (q1 t (Nat.le_refl _) (by omega))]
    have enum : nI (np + 1) - (1 : Int32) - (nI t - nI a) = nI (j + 1) := by
      rw [show nI (np + 1) - (1 : Int32) = nI np from nI_sub (a := np + 1) (b := 1) (by omega), nI_sub hat, nI_sub (by omega), show np - (t - a) = j + 1 by omega]
    rw [nI_add, show nI (a + (np + 1)) - (1 : Int32) = nI (a + np) from nI_sub (a := a + (np + 1)) (b := 1) (by omega), brF (nI_ge (by omega) (by omega)), hW.slotAt hl hF (by omega), obnd3_some, enum]
    by_cases c : t = a
    · rw [brT (by rw [c])]; exact lay 1 (Or.inr ⟨rfl, by omega⟩)
    · rw [brF (fun w => c ((nI_eq (by omega) (by omega)).mp w))]; exact lay 0 (Or.inl ⟨rfl, by omega⟩)
theorem MKS.mono {d0 d' A : Nat → Nat} {s np : Nat} {N : List Nat} {B : Nat → Nat} {bits own sum : Nat} {bz bz' : Prop} (h : MKS d0 d' A s np N B bits own sum bz) (hi : bz → bz') (hz : bz' → ¬ bz → d0 (A (s + 1)) = 0 ∧ ∀ t, s - np ≤ t → t ≤ s → (A (s + 1) < A t ∨ A t + 32 ≤ A (s + 1))) : MKS d0 d' A s np N B bits own sum bz' := by
  obtain ⟨a1, a2, a3, a4, a5⟩ := h
  refine ⟨a1, a2, a3, fun w => ?_, fun q q1 q2 => a5 q q1 (fun w => q2 (hi w))⟩
  rcases Classical.em bz with c | c
  · exact a4 c
  · obtain ⟨z1, z2⟩ := hz w c
    rw [a5 _ z2 (fun w => absurd w c)]; exact z1
theorem placeM {nf : Nat} {fm : FI} {arm : AR} {G : Geo} {d : Nat → Nat} {l : List Nat} {N : List Nat} {B : Nat → Nat} {a np own E S bits : Nat} {x1 : Int32} (hW : RW fm arm G d) (hb : ∀ q, d q < 256) (hl : clu G l) (hF : FOL arm l) (hs : a + np < l.length * (16 * G.c)) (hS : S ≤ l.length * (16 * G.c)) (hE : E < 100000) (hnp : np ≤ 20) (hN : N.length ≤ 255 ∧ ∀ x, x ∈ N → x < 65536) (hM : MN fm arm N) (hB : ∀ i, i < 11 → arm 39 i = nI (B i) ∧ B i < 256) (hown : own < 65536) (hbits : bits = if x1 = 0 then 32 else 48) (hnf : 600 ≤ nf) : ∃ arm' d', M_make_374 nf nf x1 (nI (np + 1)) (nI S) (nI E) (nI a) (nI own) (nI a) fm arm = M_make_626 nf x1 (nI (np + 1)) (nI a) (nI own) fm arm' ∧ RW fm arm' G d' ∧ MKS d d' (sa G l) (a + np) np N B bits own (smS B 0 11) (E ≤ a + np + 1 ∧ a + np + 1 < S) ∧ offA 1 arm arm' := by
  have hG := hW.2.2
  have b := hG.b
  have hin := slot_in hG hl hs
  have hlen := hl.len
  have hS2 : l.length * (16 * G.c) ≤ 65536 := Nat.le_trans (Nat.mul_le_mul hlen (Nat.le_refl _)) (Nat.le_trans (Nat.mul_le_mul (show G.k ≤ 512 by omega) (show 16 * G.c ≤ 128 by omega)) (by omega))
  obtain ⟨P, hP⟩ : ∃ P, P = sa G l (a + np) := ⟨_, rfl⟩
  have hap : ∀ t, t < l.length * (16 * G.c) → t ≠ a + np → P + 32 ≤ sa G l t ∨ sa G l t + 32 ≤ P := fun t h1 h2 => by rw [hP]; exact sa_apart (show 1 ≤ G.c by omega) hl hs h1 (fun e => h2 e.symm)
  -- all slots wiped
  obtain ⟨ar1, d1, p1, p2, p3, p4, p5, p6⟩ := mz_loop (nf := nf) (fm := fm) (a := a) (want := np + 1) (x1 := x1) (x7 := nI S) (x8 := nI E) (x11 := nI own) hl (by omega) (by omega) hnf (np + 1) a nf arm d (by omega) (Nat.le_refl _) (by omega) hW hb hF
  rw [show a + (np + 1) - 1 = a + np by omega, ← hP] at p1
  -- the short name
  obtain ⟨ar2, q1, q2, q3⟩ := mb_loop (nf := nf) (fm := fm) (p := P) (B := B) (x1 := x1) (x6 := nI (np + 1)) (x7 := nI S) (x8 := nI E) (x9 := nI a) (x11 := nI own) (by omega) 11 0 nf ar1 d1 (by omega) (by omega) p2.1 (fun i hi => by rw [p6 39 (by decide)]; exact hB i hi)
  have o2 : offA 1 arm ar2 := p6.tr q3
  have hpb : SLT (pb B P 0 11 d1) P (pb B 0 0 11 (fun _ => 0)) := SLT.pb 11 0 _ _ (by have := p4 (a + np) (by omega) (by omega); rw [← hP] at this; exact this)
  have hBd : ∀ i, i < 11 → pb B P 0 11 d1 (P + i) = B i := fun i hi => by
    rw [pb_in 11 0 d1 (Nat.zero_le _) (by omega), Nat.mod_eq_of_lt (hB i hi).2]
  -- the parts
  obtain ⟨ar3, d3, s1, s2, s3, s4, s5, s6⟩ := partsM_loop (nf := nf) (fm := fm) (G := G) (l := l) (N := N) (B := B) (a := a) (np := np) (x1 := x1) (x7 := nI S) (x8 := nI E) (x11 := nI own) hl hs hnp hN hM.1 hnf np a nf ar2 (pb B P 0 11 d1) (by omega) (Nat.le_refl _) (by omega) ⟨q2, hW.2⟩ (pb_lt 11 0 _ p3) (fun q hq => by rw [o2 30 (by decide)]; exact hF q hq) (fun i hi => by rw [o2 34 (by decide)]; exact hM.2 i hi) (by rw [← hP]; exact hBd) (fun i i1 i2 => (p4 i (by omega) (by omega)).off (fun q q1 q2 => pb_out 11 0 _ (by have := hap i (by omega) (by omega); omega)))
  rw [← hP] at s1
  have hent3 : SLT d3 P (pb B 0 0 11 (fun _ => 0)) := hpb.off (fun q q1 q2 => s5 q (fun i i1 i2 => by have := hap i (by omega) (by omega); omega))
  -- the entry's fields
  have hbl : bits < 256 := by rw [hbits]; split <;> omega
  obtain ⟨ar4, t1, t2, t3⟩ := M_set_ok (nf := nf) (fi := fm) s2.1 (p := P + 11) (n := 1) (if x1 = 0 then 32 else 48) (by omega) (by omega) (by omega)
  have hlU : lU (if x1 = 0 then (32 : Int64) else 48) = bits := by rw [hbits]; by_cases c : x1 = 0 <;> simp only [c, if_true, if_false] <;> rfl
  rw [hlU] at t2
  obtain ⟨ar5, u1, u2, u3⟩ := M_set_ok (nf := nf) (fi := fm) t2 (p := P + 24) (n := 2) 33 (by omega) (by omega) (by omega)
  obtain ⟨ar6, v1, v2, v3⟩ := M_setI (nf := nf) (fi := fm) u2 (p := P + 20) (n := 2) (nI (own / 2 ^ 16)) (by omega) (by omega) (by omega)
  obtain ⟨ar7, w1, w2, w3⟩ := M_setI (nf := nf) (fi := fm) v2 (p := P + 26) (n := 2) (nI own) (by omega) (by omega) (by omega)
  rw [uv_nI (by omega), uv_nI (by omega), show own / 2 ^ 16 = 0 by omega, show lU (33 : Int64) = 33 from rfl] at w2
  obtain ⟨d7, hd7⟩ : ∃ d7, d7 = pfc (wr (wr d3 (P + 11) 1 bits) (P + 24) 2 33) P own := ⟨_, rfl⟩
  have w2' : RD ar7 d7 := by rw [hd7]; exact w2
  have o7 : offA 1 arm ar7 := (((((o2.tr s6).tr t3).tr u3).tr v3).tr w3)
  have hent : SLT d7 P (cE B bits own) := by rw [hd7]; exact ((hent3.wr 11 1 bits).wr 24 2 33).pfc own
  have hb7 : ∀ q, d7 q < 256 := by rw [hd7]; exact wr_lt (wr_lt (wr_lt (wr_lt s3 _ _ _) _ _ _) _ _ _) _ _ _
  have hout7 : ∀ q, (q < P ∨ P + 32 ≤ q) → d7 q = d3 q := fun q hq => by
    rw [hd7]; unfold pfc
    rw [wr_out (by omega), wr_out (by omega), wr_out (by omega), wr_out (by omega)]
  have hall : ∀ q, (∀ t, a + np - np ≤ t → t ≤ a + np → (q < sa G l t ∨ sa G l t + 32 ≤ q)) → d7 q = d q := fun q hq => by
    have hqP := hq (a + np) (by omega) (Nat.le_refl _)
    rw [← hP] at hqP
    rw [hout7 q hqP, s5 q (fun i i1 i2 => hq i (by omega) (by omega)), pb_out 11 0 _ (by omega), p5 q (fun i i1 i2 => hq i (by omega) (by omega))]
  have hparts : ∀ j, j < np → SLT d7 (sa G l (a + np - 1 - j)) (cP (uN N j) (nuN np j) (smS B 0 11)) := fun j hj => by
    have := s4 (a + np - 1 - j) (by omega) (by omega)
    rw [show a + np - 1 - (a + np - 1 - j) = j by omega] at this
    exact this.off (fun q q1 q2 => hout7 q (by have := hap (a + np - 1 - j) (by omega) (by omega); omega))
  -- all but the slot behind
  have t1' : M_set nf fm ar3 (nI (P + 11)) 1 (if x1 = 0 then 32 else 48) = some ((), fm, ar4) := t1
  have u1' : M_set nf fm ar4 (nI (P + 24)) 2 33 = some ((), fm, ar5) := u1
  have v1' : M_set nf fm ar5 (nI (P + 20)) 2 ((nI (own / 2 ^ 16)).toInt64) = some ((), fm, ar6) := v1
  have w1' : M_set nf fm ar6 (nI (P + 26)) 2 ((nI own).toInt64) = some ((), fm, ar7) := w1
  have start : ∀ R, (br (nI (a + np + 1) < nI E) (M_make_626 nf x1 (nI (np + 1)) (nI a) (nI own) fm ar7) (br (nI S ≤ nI (a + np + 1)) (M_make_626 nf x1 (nI (np + 1)) (nI a) (nI own) fm ar7) (obnd3 (M_slotAt nf fm ar7 (nI (a + np + 1))) fun r65 fi63 ar64 => gd (¬ ((r65) < 0 ∨ 524288 ≤ (r65).toNatClampNeg)) (bnd (va_up ar64 1 (upd (ar64 1) (r65).toNatClampNeg (vp_nar .byte (0)))) fun ar67 => M_make_626 nf x1 (nI (np + 1)) (nI a) (nI own) fi63 ar67)))) = R → M_make_374 nf nf x1 (nI (np + 1)) (nI S) (nI E) (nI a) (nI own) (nI a) fm arm = R := fun R hR => by
    have q1' : M_make_437 nf nf x1 (nI (np + 1)) (nI S) (nI E) (nI a) (nI own) (nI P) 0 fm ar1 = _ := q1
    rw [p1, q1', s1]
    have key : M_make_548 nf x1 (nI (np + 1)) (nI S) (nI E) (nI a) (nI own) (nI P) (nI P + 11) 1 (if x1 = 0 then 32 else 48) fm ar3 = R := by
      unfold M_make_548
      rw [show nI P + (11 : Int32) = nI (P + 11) from nI_add P 11, t1', obnd3_some, show nI P + (24 : Int32) = nI (P + 24) from nI_add P 24, u1', obnd3_some, show nI P + (20 : Int32) = nI (P + 20) from nI_add P 20, pk_shrN (by omega) _ 16 (by decide), v1', obnd3_some, show nI P + (26 : Int32) = nI (P + 26) from nI_add P 26, w1', obnd3_some, bnd_eq, nI_add, show a + (np + 1) = a + np + 1 by omega]
      exact hR
    by_cases c : x1 = 0
    · rw [brT c]; rw [if_pos c] at key; exact key
    · rw [brF c]; rw [if_neg c] at key; exact key
  by_cases c1 : a + np + 1 < E
  · refine ⟨ar7, d7, start _ (by rw [brT (nI_lt c1 (by omega))]), ⟨w2', hW.2⟩, ⟨hb7, by rw [← hP]; exact hent, hparts, fun w => by omega, fun q q1 _ => hall q q1⟩, o7⟩
  · by_cases c2 : S ≤ a + np + 1
    · refine ⟨ar7, d7, start _ (by rw [brF (nI_nlt (by omega) (by omega)), brT (nI_le c2 (by omega))]), ⟨w2', hW.2⟩, ⟨hb7, by rw [← hP]; exact hent, hparts, fun w => by omega, fun q q1 _ => hall q q1⟩, o7⟩
    · have hin1 := slot_in hG hl (s := a + np + 1) (by omega)
      have hW7 : RW fm ar7 G d7 := ⟨w2', hW.2⟩
      have hF7 : FOL ar7 l := fun q hq => by rw [o7 30 (by decide)]; exact hF q hq
      have hap1 : ∀ t, t ≤ a + np → sa G l (a + np + 1) + 32 ≤ sa G l t ∨ sa G l t + 32 ≤ sa G l (a + np + 1) := fun t ht => sa_apart (show 1 ≤ G.c by omega) hl (by omega) (by omega) (by omega)
      have h0 := RD_put w2' (a := sa G l (a + np + 1)) 0
      have o8 : offA 1 ar7 (va_up ar7 1 (upd (ar7 1) (sa G l (a + np + 1)) (vp_nar .byte 0))) := fun z hz => va_up_off hz
      refine ⟨_, _, start _ (by rw [brF (nI_nlt (by omega) (by omega)), brF (nI_ge (by omega) (by omega)), hW7.slotAt hl hF7 (by omega), obnd3_some, zgd (by omega) (by omega), nI_clamp (by omega), bnd_eq]), ⟨h0, hW.2⟩, ⟨wr_lt hb7 _ _ _, ?_, fun j hj => ?_, fun _ => ?_, fun q q1 q2 => ?_⟩, o7.tr o8⟩
      · have := hap1 (a + np) (Nat.le_refl _)
        rw [← hP] at this ⊢
        exact hent.off (fun q q1 q2 => wr_out (by omega))
      · have := hap1 (a + np - 1 - j) (by omega)
        exact (hparts j hj).off (fun q q1 q2 => wr_out (by omega))
      · rw [wr_in (Nat.le_refl _) (by omega), Nat.sub_self]; rfl
      · have := q2 ⟨by omega, by omega⟩
        rw [wr_out (by omega)]; exact hall q q1
