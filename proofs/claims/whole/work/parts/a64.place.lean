/-! make: the entry is placed, the class -/
def MKS (d0 d' A : Nat → Nat) (s np : Nat) (N : List Nat) (B : Nat → Nat) (bits own sum : Nat) (bz : Prop) : Prop :=
  (∀ q, d' q < 256) ∧ SLT d' (A s) (cE B bits own) ∧ (∀ j, j < np → SLT d' (A (s - 1 - j)) (cP (uN N j) (nuN np j) sum)) ∧ (bz → d' (A (s + 1)) = 0) ∧ ∀ q, (∀ t, s - np ≤ t → t ≤ s → (q < A t ∨ A t + 32 ≤ q)) → (bz → q ≠ A (s + 1)) → d' q = d0 q
theorem MKS.uniq {d0 d1 d2 A : Nat → Nat} {s np : Nat} {N : List Nat} {B : Nat → Nat} {bits own sum : Nat} {bz : Prop} (hnp : np ≤ s) (h1 : MKS d0 d1 A s np N B bits own sum bz) (h2 : MKS d0 d2 A s np N B bits own sum bz) : d1 = d2 := funext fun q => by
  obtain ⟨a1, a2, a3, a4, a5⟩ := h1
  obtain ⟨b1, b2, b3, b4, b5⟩ := h2
  by_cases c : ∃ t, s - np ≤ t ∧ t ≤ s ∧ A t ≤ q ∧ q < A t + 32
  · obtain ⟨t, t1, t2, t3, t4⟩ := c
    obtain ⟨i, rfl⟩ : ∃ i, q = A t + i := ⟨q - A t, by omega⟩
    by_cases e : t = s
    · rw [e] at t3 t4 ⊢
      rw [a2 i (by omega), b2 i (by omega)]
    · have h1 := a3 (s - 1 - t) (by omega) i
      have h2 := b3 (s - 1 - t) (by omega) i
      rw [show s - 1 - (s - 1 - t) = t by omega] at h1 h2
      rw [h1 (by omega), h2 (by omega)]
  · have h0 : ∀ t, s - np ≤ t → t ≤ s → (q < A t ∨ A t + 32 ≤ q) := fun t t1 t2 => by
      apply Decidable.byContradiction
      intro w
      exact c ⟨t, t1, t2, by omega, by omega⟩
    by_cases e : bz ∧ q = A (s + 1)
    · rw [e.2, a4 e.1, b4 e.1]
    · rw [a5 q h0 (fun z w => e ⟨z, w⟩), b5 q h0 (fun z w => e ⟨z, w⟩)]
theorem partsC_loop {nf : Nat} {ln : LN} {fi : FI} {G : Geo} {l : List Nat} {N : List Nat} {B : Nat → Nat} {s np E : Nat} (hG : GOK G) (hl : clu G l) (hln : l.length ≤ ln 10) (hl0 : ln 0 = 128 * G.n) (h22 : fi 22 = nI E) (h21 : fi 21 = nI (l.length * (16 * G.c))) (hE : E < 100000) (hs : s < l.length * (16 * G.c)) (hnp : np ≤ 20) (hnps : np ≤ s) (hN : N.length ≤ 255 ∧ ∀ x, x ∈ N → x < 65536) (hl30 : ln 30 = 260) (hnf : 600 ≤ nf) : ∀ (m j kf : Nat) (ar : AR) (d : Nat → Nat), j + m = np → m < kf → CD ln ar d → (∀ q, d q < 256) → DC fi ar 0 G l → NB fi ar 0 N → SB ln ar 0 B → ∃ ar' d', FX10_placeEntry_24 nf ln kf (nI np) (nI s) (nI (j + 1)) fi ar = some ((), fi, ar') ∧ CD ln ar' d' ∧ (∀ q, d' q < 256) ∧ (∀ i, j ≤ i → i < np → SLT d' (sa G l (s - 1 - i)) (cP (uN N i) (nuN np i) (smS B 0 11))) ∧ ((E ≤ s + 1 ∧ s + 1 < l.length * (16 * G.c)) → d' (sa G l (s + 1)) = 0) ∧ (∀ q, (∀ i, j ≤ i → i < np → (q < sa G l (s - 1 - i) ∨ sa G l (s - 1 - i) + 32 ≤ q)) → ((E ≤ s + 1 ∧ s + 1 < l.length * (16 * G.c)) → q ≠ sa G l (s + 1)) → d' q = d q) ∧ offA 0 ar ar' := by
  have b := hG.b
  have hlen := hl.len
  have hS : l.length * (16 * G.c) ≤ 65536 := Nat.le_trans (Nat.mul_le_mul hlen (Nat.le_refl _)) (Nat.le_trans (Nat.mul_le_mul (show G.k ≤ 512 by omega) (show 16 * G.c ≤ 128 by omega)) (by omega))
  have hsm : smS B 0 11 < 256 := by rw [smS]; exact Nat.mod_lt _ (by decide)
  intro m
  induction m with
  | zero =>
    intro j kf ar d hj hk hC hb hD hNB hSB
    obtain ⟨kf, rfl⟩ : ∃ k, kf = k + 1 := ⟨kf - 1, by omega⟩
    rw [show FX10_placeEntry_24 nf ln (kf + 1) = FX10_placeEntry_24b (FX10_placeEntry_24 nf ln kf) nf ln from rfl]
    unfold FX10_placeEntry_24b FX10_placeEntry_135
    rw [brT (nI_lt (by omega) (by omega)), bnd_eq, show nI s + (1 : Int32) = nI (s + 1) from nI_add s 1, show fi (22 + 10 * 0) = nI E from h22, show fi (21 + 10 * 0) = nI (l.length * (16 * G.c)) from h21]
    by_cases c1 : s + 1 < E
    · rw [brT (nI_lt c1 (by omega))]
      exact ⟨ar, d, rfl, hC, hb, fun i i1 i2 => by omega, fun w => by omega, fun q _ _ => rfl, offA.rf⟩
    · rw [brF (nI_nlt (by omega) (by omega))]
      by_cases c2 : l.length * (16 * G.c) ≤ s + 1
      · rw [brT (nI_le c2 (by omega))]
        exact ⟨ar, d, rfl, hC, hb, fun i i1 i2 => by omega, fun w => by omega, fun q _ _ => rfl, offA.rf⟩
      · have hin := slot_in hG hl (s := s + 1) (by omega)
        obtain ⟨ar1, r1, r2, r3⟩ := FX3_putOne_ok (nf := nf) (fi := fi) hC (p := sa G l (s + 1)) 0 (by omega)
        rw [brF (nI_ge (by omega) (by omega)), slotAddress_eq hG hl hD hln (by omega), obnd3_some, r1, obnd3_some]
        refine ⟨ar1, _, rfl, r2, wr_lt hb _ _ _, fun i i1 i2 => by omega, fun _ => ?_, fun q _ q2 => ?_, r3⟩
        · rw [wr_in (Nat.le_refl _) (by omega), Nat.sub_self]; rfl
        · have := q2 ⟨by omega, by omega⟩
          rw [wr_out (by omega)]
  | succ m ih =>
    intro j kf ar d hj hk hC hb hD hNB hSB
    obtain ⟨kf, rfl⟩ : ∃ k, kf = k + 1 := ⟨kf - 1, by omega⟩
    rw [show FX10_placeEntry_24 nf ln (kf + 1) = FX10_placeEntry_24b (FX10_placeEntry_24 nf ln kf) nf ln from rfl]
    unfold FX10_placeEntry_24b FX10_placeEntry_46
    have hin := slot_in hG hl (s := s - 1 - j) (by omega)
    have hnu : nuN np j < 256 := by unfold nuN; split <;> omega
    obtain ⟨ar1, r1, r2, r3⟩ := writePart_ok (nf := nf) (fi := fi) (p := sa G l (s - 1 - j)) (j := j) (num := nuN np j) (sum := smS B 0 11) hC hN hl30 hNB (by omega) (by omega) hnu hsm (by omega)
    obtain ⟨ar', d', t1, t2, t3, t4, t5, t6, t7⟩ := ih (j + 1) kf ar1 _ (by omega) (by omega) r2 (wpD_lt hb) (hD.off (S := []) (T := [0]) offF.rf r3.as (by simp) (by simp)) (hNB.off (S := []) (T := [0]) offF.rf r3.as (by simp) (by simp)) ⟨hSB.1, fun i hi => by rw [r3 _ (by decide)]; exact hSB.2 i hi⟩
    have hsub : nI s - nI (j + 1) = nI (s - 1 - j) := by rw [nI_sub (by omega), show s - (j + 1) = s - 1 - j by omega]
    have hj2 : nI (j + 1) + (1 : Int32) = nI (j + 1 + 1) := nI_add _ 1
    have hap : ∀ t, t < l.length * (16 * G.c) → t ≠ s - 1 - j → sa G l (s - 1 - j) + 32 ≤ sa G l t ∨ sa G l t + 32 ≤ sa G l (s - 1 - j) := fun t ht hne => sa_apart (show 1 ≤ G.c by omega) hl (by omega) ht (fun e => hne e.symm)
    refine ⟨ar', d', ?_, t2, t3, fun i i1 i2 => ?_, t5, fun q q1 q2 => ?_, r3.tr t7⟩
    · rw [brF (nI_nlt (by omega) (by omega)), hsub, slotAddress_eq hG hl hD hln (by omega)]
      by_cases c : j + 1 = np
      · have e : nI (j + 1) + (64 : Int32) = nI (nuN np j) := by unfold nuN; rw [if_pos c]; exact nI_add _ 64
        rw [brT (by rw [c]), obnd3_some, FX7_sum_eq hSB (by omega), obnd3_some, e, r1, obnd3_some, bnd_eq, hj2]; exact t1
      · have e : nI (j + 1) = nI (nuN np j) := by unfold nuN; rw [if_neg c]
        rw [brF (fun w => c ((nI_eq (by omega) (by omega)).mp w)), obnd3_some, FX7_sum_eq hSB (by omega), obnd3_some]
        have r1' : FX6_writePart nf ln 0 fi ar (nI (sa G l (s - 1 - j))) (nI (j + 1)) (nI (j + 1)) (nI (smS B 0 11)) = some ((), fi, ar1) := by rw [← e] at r1; exact r1
        rw [r1', obnd3_some, bnd_eq, hj2]; exact t1
    · by_cases e : i = j
      · rw [e]
        refine (wpD_slt (d := d)).off (fun q q1 q2 => t6 q (fun i' i1' i2' => ?_) (fun w => ?_))
        · have := hap (s - 1 - i') (by omega) (by omega); omega
        · have := hap (s + 1) w.2 (by omega); omega
      · exact t4 i (by omega) i2
    · rw [t6 q (fun i i1 i2 => q1 i (by omega) i2) q2, wpD_out (q1 j (Nat.le_refl _) (by omega))]
theorem placeC {nf : Nat} {ln : LN} {fi : FI} {ar : AR} {G : Geo} {d : Nat → Nat} {l : List Nat} {N : List Nat} {B : Nat → Nat} {a np own E : Nat} {bits : Int32} (hC : CD ln ar d) (hb : ∀ q, d q < 256) (hG : GOK G) (hl : clu G l) (hln : l.length ≤ ln 10) (hl0 : ln 0 = 128 * G.n) (hD : DC fi ar 0 G l) (h22 : fi 22 = nI E) (hE : E < 100000) (hs : a + np < l.length * (16 * G.c)) (hnp : np ≤ 20) (hN : N.length ≤ 255 ∧ ∀ x, x ∈ N → x < 65536) (hl30 : ln 30 = 260) (hl40 : ln 40 = 11) (hNB : NB fi ar 0 N) (hB : ∀ i, i < 11 → ar 40 i = nI (B i) ∧ B i < 256) (hown : own < 65536) (hnf : 600 ≤ nf) : ∃ ar' d', FX10_placeEntry nf ln fi ar (nI a) (nI np) bits (nI own) = some ((), fi, ar') ∧ CD ln ar' d' ∧ MKS d d' (sa G l) (a + np) np N B (uv bits) own (smS B 0 11) (E ≤ a + np + 1 ∧ a + np + 1 < l.length * (16 * G.c)) ∧ offA 0 ar ar' := by
  have b := hG.b
  have hin := slot_in hG hl hs
  obtain ⟨ar1, r1, r2, r3⟩ := writeEntry_ok (nf := nf) (fi := fi) (p := sa G l (a + np)) (x := own) (a := bits) (f := B) hC hl40 (by omega) hown (fun i hi => by rw [(hB i hi).1, uv_nI (by have := (hB i hi).2; omega)]) (by omega)
  obtain ⟨ar', d', t1, t2, t3, t4, t5, t6, t7⟩ := partsC_loop (nf := nf) (fi := fi) (B := B) (N := N) (s := a + np) (np := np) (E := E) hG hl hln hl0 h22 hD.2.1 hE hs hnp (by omega) hN hl30 hnf np 0 nf ar1 _ (by omega) (by omega) r2 (weD_lt hb) (hD.off (S := []) (T := [0]) offF.rf r3.as (by simp) (by simp)) (hNB.off (S := []) (T := [0]) offF.rf r3.as (by simp) (by simp)) ⟨hl40, fun i hi => by rw [r3 _ (by decide)]; exact hB i hi⟩
  refine ⟨ar', d', ?_, t2, ⟨t3, ?_, fun j hj => t4 j (Nat.zero_le _) hj, t5, fun q q1 q2 => ?_⟩, r3.tr t7⟩
  · unfold FX10_placeEntry
    rw [bnd_eq, nI_add, slotAddress_eq hG hl hD hln hs, obnd3_some, r1, obnd3_some]
    exact t1
  · refine (weD_slt (d := d)).off (fun q q1 q2 => t6 q (fun i i1 i2 => ?_) (fun w => ?_))
    · have := sa_apart (show 1 ≤ G.c by omega) hl hs (t := a + np - 1 - i) (by omega) (by omega); omega
    · have := sa_apart (show 1 ≤ G.c by omega) hl hs w.2 (by omega); omega
  · rw [t6 q (fun i i1 i2 => q1 _ (by omega) (by omega)) q2, weD_out (q1 (a + np) (by omega) (Nat.le_refl _))]
