/-! the class's scan is the spec's -/
theorem sbs_snoc (d A : Nat → Nat) (its : List (Nat × Nat)) (e : Nat × Nat) : sbs d A (its ++ [e]) = sbs d A its ++ (if isDr d (A e.1) then [fcl d (A e.1)] else []) := by
  unfold sbs
  rw [List.filter_append, List.map_append]
  congr 1
  by_cases h : isDr d (A e.1)
  · have hd : decide (isDr d (A e.1)) = true := decide_eq_true h
    rw [if_pos h, List.filter_cons, hd]; rfl
  · have hd : decide (isDr d (A e.1)) = false := decide_eq_false h
    rw [if_neg h, List.filter_cons, hd]; rfl
theorem lbl_le (d A : Nat → Nat) (z : Nat) : ∀ s, lbl d A z s ≤ s := by
  intro s
  induction s with
  | zero => exact Nat.le_refl _
  | succ s ih => rw [lbl]; split <;> omega
theorem itm_len (d A : Nat → Nat) (z : Nat) : ∀ s, (itm d A z s).length ≤ s := by
  intro s
  induction s with
  | zero => exact Nat.le_refl _
  | succ s ih =>
    rw [itm]
    by_cases h : isE d A z s
    · rw [if_pos h, List.length_append]; simp only [List.length_cons, List.length_nil]; omega
    · rw [if_neg h]; omega
theorem slots_le {G : Geo} {l : List Nat} (hG : GOK G) (hl : clu G l) : l.length * (16 * G.c) ≤ 16384 := by
  have b := hG.b
  have h1 : l.length * (16 * G.c) ≤ G.k * (16 * G.c) := Nat.mul_le_mul_right _ hl.len
  have h2 : G.k * (16 * G.c) = 16 * (G.k * G.c) := by rw [Nat.mul_left_comm]
  omega
theorem hits_of {d A : Nat → Nat} {z s S : Nat} (hs : s ≤ S) (hok : ∀ t, z ≤ t → t < s → lf d A z t = 0) : ∀ e, e ∈ itm d A z s → e.1 < S ∧ e.2 ≤ 20 ∧ e.2 ≤ e.1 := by
  intro e he
  have hm := (mem_itm s).mp he
  have h4 := ((lf_zero.mp (hok e.1 hm.2.1.1 hm.1)).2.1 hm.2.1).1
  rw [← hm.2.2] at h4
  have hr := rn_le (d := d) (A := A) (z := z) e.1
  exact ⟨by omega, h4.2.2.2.2.1.1, by omega⟩
theorem mkC.off {ln ln' : LN} {ar ar' : AR} {ms : List Nat} (h : mkC ln ar ms) {T : List Nat} (ha : offAs T ar ar') (hT : 3 ∉ T) (hln : ln' 3 = ln 3) : mkC ln' ar' ms := fun x hx => by rw [ha 3 hT]; exact h x (by rw [hln] at hx; exact hx)
theorem QR.off {ln ln' : LN} {fi fi' : FI} {ar ar' : AR} {Q : List (Nat × Nat)} (h : QR ln fi ar Q) {S T : List Nat} (hf : offF S fi fi') (ha : offAs T ar ar') (hS : 11 ∉ S) (hT : 4 ∉ T ∧ 5 ∉ T) (hln : ln' 4 = ln 4) : QR ln' fi' ar' Q := by
  refine ⟨by rw [hf _ hS, hln]; exact h.1, fun t h1 h2 => ?_⟩
  rw [ha _ hT.1, ha _ hT.2]; exact h.2 t h1 (by rw [hln] at h2; exact h2)
/-- what the class's scan leaves -/
def SCR (G : Geo) (d A : Nat → Nat) (z m s f : Nat) (ms : List Nat) (Q0 : List (Nat × Nat)) (fi : FI) (ar : AR) (ln : LN) (o : Option (Int32 × FI × AR × LN × Nat × Nat)) : Prop := ∃ fi' ar' ln' kc ks, o = some (nI (scn G d A z m s ms).1, fi', ar', ln', kc, ks) ∧ GR 2 ln ln' kc ks ∧ offF [11, 40, 62, 63] fi fi' ∧ offAs [3, 4, 5, 19, 20, 21, 32, 33, 42] ar ar' ∧ ((scn G d A z m s ms).1 = 0 → mkC ln' ar' (scn G d A z m s ms).2 ∧ clu G (scn G d A z m s ms).2 ∧ QR ln' fi' ar' (Q0 ++ (sbs d A (itm d A z (en d A m s))).map (fun x => (x, pz G f))))
theorem cscan_loop {nf : Nat} {G : Geo} {d : Nat → Nat} {l : List Nat} {z f rt : Nat} (hG : GOK G) (hl : clu G l) (hz : zf G f = z) (hrt : rt < 2) (hrz : rt ≠ 0 ↔ z = 0) (hfb : f < 4294967296) (Q0 : List (Nat × Nat)) (hnf : 40000 ≤ nf) : ∀ (m s kf : Nat) (ms : List Nat) (fi : FI) (ar : AR) (ln : LN), s + m = l.length * (16 * G.c) → z ≤ s → m < kf → (∀ t, z ≤ t → t < s → lf d (sa G l) z t = 0) → CX ln fi ar G d l (itm d (sa G l) z s) → mkC ln ar ms → clu G ms → QR ln fi ar (Q0 ++ (sbs d (sa G l) (itm d (sa G l) z s)).map (fun x => (x, pz G f))) → SCR G d (sa G l) z m s f ms Q0 fi ar ln (FX0_directoryFault_60 nf kf (nI f) (nI rt) (nI (rn d (sa G l) z s)) (nI (lbl d (sa G l) z s)) (nI s) fi ar ln) := by
  have b := hG.b
  have hS := slots_le hG hl
  have hkl := hl.len
  have hkn : G.k ≤ G.n / 2 := by
    have : G.k * 2 ≤ G.k * G.c := Nat.mul_le_mul_left _ (by omega)
    omega
  intro m
  induction m with
  | zero =>
    intro s kf ms fi ar ln hs hzs hk hok hX hm hc hQ
    obtain ⟨kf, rfl⟩ : ∃ k, kf = k + 1 := ⟨kf - 1, by omega⟩
    obtain ⟨hW, hLC, hD, hI, L, hLK, hLe⟩ := hX
    have hr := rn_le (d := d) (A := sa G l) (z := z) s
    have h41 : fi (21 + 10 * 2) = nI (l.length * (16 * G.c)) := hD.2.1
    refine ⟨fi, ar, ln, 0, 0, ?_, GR.rf hLK, offF.rf, offAs.rf, fun _ => ⟨hm, hc, hQ⟩⟩
    rw [show FX0_directoryFault_60 nf (kf + 1) = FX0_directoryFault_60b (FX0_directoryFault_60 nf kf) nf from rfl]
    unfold FX0_directoryFault_60b FX0_directoryFault_275 FX0_directoryFault_285
    rw [h41, scn]
    by_cases q : 0 < rn d (sa G l) z s
    · rw [if_pos q]
      simp (disch := first | omega | decide) only [zlt, zle, zeq, zltl, zllt, zlel, zlle, zeql, zll, ↓zlt, ↓zle, ↓zeq, ↓zltl, ↓zllt, ↓zlel, ↓zlle, ↓zeql, ↓zll, ↓if_pos, ↓if_neg, if_pos, if_neg, ↓zgd, zgd, zgdc, ↓zgd0, zgd0c, zcl0, ↓zbit, zbitc, ↓zbit1, ↓zbit0, nI_clamp, zaddl, zladd, zsubl, zlsub, zmull, zlmul, zdivl, nI_1, nI_add, nI_mulL, zand1, zand3, zand15, zand31, zand63, zand255, zand65535, zshr1, zshl7, zshl8, zshl9, zbit8, zbit16, ↓bnd_eq, bnd_eq, obnd_some, obnd3_some, obnd6_some]
      rfl
    · rw [if_neg q]
      simp (disch := first | omega | decide) only [zlt, zle, zeq, zltl, zllt, zlel, zlle, zeql, zll, ↓zlt, ↓zle, ↓zeq, ↓zltl, ↓zllt, ↓zlel, ↓zlle, ↓zeql, ↓zll, ↓if_pos, ↓if_neg, if_pos, if_neg, ↓zgd, zgd, zgdc, ↓zgd0, zgd0c, zcl0, ↓zbit, zbitc, ↓zbit1, ↓zbit0, nI_clamp, zaddl, zladd, zsubl, zlsub, zmull, zlmul, zdivl, nI_1, nI_add, nI_mulL, zand1, zand3, zand15, zand31, zand63, zand255, zand65535, zshr1, zshl7, zshl8, zshl9, zbit8, zbit16, ↓bnd_eq, bnd_eq, obnd_some, obnd3_some, obnd6_some]
      rfl
  | succ m ih =>
    intro s kf ms fi ar ln hs hzs hk hok hX hm hc hQ
    obtain ⟨kf, rfl⟩ : ∃ k, kf = k + 1 := ⟨kf - 1, by omega⟩
    obtain ⟨hW, hLC, hD, hI, L, hLK, hLe⟩ := id hX
    have hd := hW.1
    have hl0 := hd.1
    have c0 := hLC.1
    have c18 := hLC.2.2.2.2.2.2.1 2 (by omega)
    have hsS : s < l.length * (16 * G.c) := by omega
    have hr := rn_le (d := d) (A := sa G l) (z := z) s
    have hlb := lbl_le d (sa G l) z s
    have h41 : fi (21 + 10 * 2) = nI (l.length * (16 * G.c)) := hD.2.1
    have hss := slot_in hG hl hsS
    have hsa := slotAddress_eq (nf := nf) (ln := ln) hG hl hD (by omega) hsS
    obtain ⟨p, hp⟩ : ∃ p, p = sa G l s := ⟨_, rfl⟩
    rw [← hp] at hss hsa
    have b0 := hd.lt (show p < 4 * ln 0 by omega)
    have b11 := hd.lt (show p + 11 < 4 * ln 0 by omega)
    have o0 := FX3_one_eq (nf := nf) (fi := fi) hd (show p < 4 * ln 0 by omega)
    have o11 := FX3_one_eq (nf := nf) (fi := fi) hd (show p + 11 < 4 * ln 0 by omega)
    have ea : nI p + (11 : Int32) = nI (p + 11) := nI_add p 11
    rw [show FX0_directoryFault_60 nf (kf + 1) = FX0_directoryFault_60b (FX0_directoryFault_60 nf kf) nf from rfl]
    have unf : FX0_directoryFault_60b (FX0_directoryFault_60 nf kf) nf (nI f) (nI rt) (nI (rn d (sa G l) z s)) (nI (lbl d (sa G l) z s)) (nI s) fi ar ln = br (nI (d p) = 0) (FX0_directoryFault_275 nf (nI (rn d (sa G l) z s)) fi ar ln) (br (nI (d p) = 229) (br (nI (rn d (sa G l) z s) ≤ 0) (FX0_directoryFault_129 (FX0_directoryFault_60 nf kf) nf (nI f) (nI rt) (nI (rn d (sa G l) z s)) (nI (lbl d (sa G l) z s)) (nI s) (nI p) (nI (d p)) (nI (d (p + 11))) fi ar ln) (FX0_directoryFault_275 nf (nI (rn d (sa G l) z s)) fi ar ln)) (FX0_directoryFault_129 (FX0_directoryFault_60 nf kf) nf (nI f) (nI rt) (nI (rn d (sa G l) z s)) (nI (lbl d (sa G l) z s)) (nI s) (nI p) (nI (d p)) (nI (d (p + 11))) fi ar ln)) := by
      unfold FX0_directoryFault_60b
      rw [h41, zle (by omega) (by omega), if_neg (by omega), hsa, obnd3_some, o0, obnd3_some, ea, o11, obnd3_some]
    rw [unf]
    clear unf
    unfold SCR
    by_cases q0 : d p = 0
    · have q0' : d (sa G l s) = 0 := by rw [← hp]; exact q0
      have een : en d (sa G l) (m + 1) s = s := by unfold en; rw [zl, if_pos q0']
      rw [scn, if_pos q0', een]
      refine ⟨fi, ar, ln, 0, 0, ?_, GR.rf hLK, offF.rf, offAs.rf, fun _ => ⟨hm, hc, hQ⟩⟩
      unfold FX0_directoryFault_275 FX0_directoryFault_285
      by_cases q : 0 < rn d (sa G l) z s
      · rw [if_pos q]
        simp (disch := first | omega | decide) only [zlt, zle, zeq, zltl, zllt, zlel, zlle, zeql, zll, ↓zlt, ↓zle, ↓zeq, ↓zltl, ↓zllt, ↓zlel, ↓zlle, ↓zeql, ↓zll, ↓if_pos, ↓if_neg, if_pos, if_neg, ↓zgd, zgd, zgdc, ↓zgd0, zgd0c, zcl0, ↓zbit, zbitc, ↓zbit1, ↓zbit0, nI_clamp, zaddl, zladd, zsubl, zlsub, zmull, zlmul, zdivl, nI_1, nI_add, nI_mulL, zand1, zand3, zand15, zand31, zand63, zand255, zand65535, zshr1, zshl7, zshl8, zshl9, zbit8, zbit16, ↓bnd_eq, bnd_eq, obnd_some, obnd3_some, obnd6_some]
        rfl
      · rw [if_neg q]
        simp (disch := first | omega | decide) only [zlt, zle, zeq, zltl, zllt, zlel, zlle, zeql, zll, ↓zlt, ↓zle, ↓zeq, ↓zltl, ↓zllt, ↓zlel, ↓zlle, ↓zeql, ↓zll, ↓if_pos, ↓if_neg, if_pos, if_neg, ↓zgd, zgd, zgdc, ↓zgd0, zgd0c, zcl0, ↓zbit, zbitc, ↓zbit1, ↓zbit0, nI_clamp, zaddl, zladd, zsubl, zlsub, zmull, zlmul, zdivl, nI_1, nI_add, nI_mulL, zand1, zand3, zand15, zand31, zand63, zand255, zand65535, zshr1, zshl7, zshl8, zshl9, zbit8, zbit16, ↓bnd_eq, bnd_eq, obnd_some, obnd3_some, obnd6_some]
        rfl
    have q0' : ¬ d (sa G l s) = 0 := by rw [← hp]; exact q0
    have een : en d (sa G l) (m + 1) s = en d (sa G l) m (s + 1) := by unfold en; rw [zl, if_neg q0']
    -- the slot has no fault and nothing to claim
    have cont : ∀ (fi1 : FI) (ar1 : AR) (ln1 : LN) (k1 s1 : Nat) (ms1 : List Nat), lf d (sa G l) z s = 0 → scn G d (sa G l) z (m + 1) s ms = scn G d (sa G l) z m (s + 1) ms1 → GR 2 ln ln1 k1 s1 → offF [11, 40, 62, 63] fi fi1 → offAs [3, 4, 5, 19, 20, 21, 32, 33, 42] ar ar1 → CX ln1 fi1 ar1 G d l (itm d (sa G l) z (s + 1)) → mkC ln1 ar1 ms1 → clu G ms1 → QR ln1 fi1 ar1 (Q0 ++ (sbs d (sa G l) (itm d (sa G l) z (s + 1))).map (fun x => (x, pz G f))) → ∃ fi' ar' ln' kc ks, addc k1 s1 (FX0_directoryFault_60 nf kf (nI f) (nI rt) (nI (rn d (sa G l) z (s + 1))) (nI (lbl d (sa G l) z (s + 1))) (nI (s + 1)) fi1 ar1 ln1) = some (nI (scn G d (sa G l) z (m + 1) s ms).1, fi', ar', ln', kc, ks) ∧ GR 2 ln ln' kc ks ∧ offF [11, 40, 62, 63] fi fi' ∧ offAs [3, 4, 5, 19, 20, 21, 32, 33, 42] ar ar' ∧ ((scn G d (sa G l) z (m + 1) s ms).1 = 0 → mkC ln' ar' (scn G d (sa G l) z (m + 1) s ms).2 ∧ clu G (scn G d (sa G l) z (m + 1) s ms).2 ∧ QR ln' fi' ar' (Q0 ++ (sbs d (sa G l) (itm d (sa G l) z (en d (sa G l) (m + 1) s))).map (fun x => (x, pz G f)))) := by
      intro fi1 ar1 ln1 k1 s1 ms1 a1 a2 a3 a4 a5 a6 a7 a8 a9
      obtain ⟨fi', ar', ln', kc, ks, r1, r2, r3, r4, r5⟩ := ih (s + 1) kf ms1 fi1 ar1 ln1 (by omega) (by omega) (by omega) (fun t t1 t2 => if e : t = s then e ▸ a1 else hok t t1 (by omega)) a6 a7 a8 a9
      rw [a2, een]
      exact ⟨fi', ar', ln', k1 + kc, s1 + ks, by rw [r1, addc_some], a3.tr r2, a4.tr r3, a5.tr r4, r5⟩
    -- without cost
    have addc0 : ∀ (o : Option (Int32 × FI × AR × LN × Nat × Nat)), addc 0 0 o = o := fun o => by
      cases o with
      | none => rfl
      | some q => obtain ⟨a, b, c, d, e, g⟩ := q; simp [addc]
    by_cases q229 : d p = 229
    · have q229' : d (sa G l s) = 229 := by rw [← hp]; exact q229
      have nP : ¬ isP d (sa G l) z s := fun w => w.2.2.1 q229'
      have nE : ¬ isE d (sa G l) z s := fun w => w.2.2.1 q229'
      have nL : ¬ isL d (sa G l) z s := fun w => w.2.2.1 q229'
      by_cases q : rn d (sa G l) z s = 0
      · have hlf : lf d (sa G l) z s = 0 := lf_zero.mpr ⟨fun _ => q, fun w => absurd w nE, fun w => absurd w nL⟩
        have hsc : scn G d (sa G l) z (m + 1) s ms = scn G d (sa G l) z m (s + 1) ms := by
          rw [scn, if_neg q0', if_neg (by rw [hlf]; decide), if_neg (fun w => nE w.1)]
        have ei : itm d (sa G l) z (s + 1) = itm d (sa G l) z s := by rw [itm, if_neg nE]
        have := cont fi ar ln 0 0 ms hlf hsc (GR.rf hLK) offF.rf offAs.rf (by rw [ei]; exact hX) hm hc (by rw [ei]; exact hQ)
        rw [addc0] at this
        have er : rn d (sa G l) z (s + 1) = 0 := by rw [rn, if_neg nP]
        have el : lbl d (sa G l) z (s + 1) = lbl d (sa G l) z s := by rw [lbl, if_neg nL]
        rw [er, el] at this
        rw [q]
        unfold FX0_directoryFault_129 FX0_directoryFault_269
        simp (disch := first | omega | decide) only [zlt, zle, zeq, zltl, zllt, zlel, zlle, zeql, zll, ↓zlt, ↓zle, ↓zeq, ↓zltl, ↓zllt, ↓zlel, ↓zlle, ↓zeql, ↓zll, ↓if_pos, ↓if_neg, if_pos, if_neg, ↓zgd, zgd, zgdc, ↓zgd0, zgd0c, zcl0, ↓zbit, zbitc, ↓zbit1, ↓zbit0, nI_clamp, zaddl, zladd, zsubl, zlsub, zmull, zlmul, zdivl, nI_1, nI_add, nI_mulL, zand1, zand3, zand15, zand31, zand63, zand255, zand65535, zshr1, zshl7, zshl8, zshl9, zbit8, zbit16, ↓bnd_eq, bnd_eq, obnd_some, obnd3_some, obnd6_some]
        exact this
      · have hlf : lf d (sa G l) z s = 4 := by unfold lf; rw [if_pos q229', if_neg q]
        have hsc : scn G d (sa G l) z (m + 1) s ms = (4, ms) := by rw [scn, if_neg q0', if_pos (by rw [hlf]; decide), hlf]
        rw [hsc]
        refine ⟨fi, ar, ln, 0, 0, ?_, GR.rf hLK, offF.rf, offAs.rf, fun w => absurd w (by simp)⟩
        unfold FX0_directoryFault_275 FX0_directoryFault_285
        simp (disch := first | omega | decide) only [zlt, zle, zeq, zltl, zllt, zlel, zlle, zeql, zll, ↓zlt, ↓zle, ↓zeq, ↓zltl, ↓zllt, ↓zlel, ↓zlle, ↓zeql, ↓zll, ↓if_pos, ↓if_neg, if_pos, if_neg, ↓zgd, zgd, zgdc, ↓zgd0, zgd0c, zcl0, ↓zbit, zbitc, ↓zbit1, ↓zbit0, nI_clamp, zaddl, zladd, zsubl, zlsub, zmull, zlmul, zdivl, nI_1, nI_add, nI_mulL, zand1, zand3, zand15, zand31, zand63, zand255, zand65535, zshr1, zshl7, zshl8, zshl9, zbit8, zbit16, ↓bnd_eq, bnd_eq, obnd_some, obnd3_some, obnd6_some]
        rfl
    have q229' : ¬ d (sa G l s) = 229 := by rw [← hp]; exact q229
    have k129 : br (nI (d p) = 0) (FX0_directoryFault_275 nf (nI (rn d (sa G l) z s)) fi ar ln) (br (nI (d p) = 229) (br (nI (rn d (sa G l) z s) ≤ 0) (FX0_directoryFault_129 (FX0_directoryFault_60 nf kf) nf (nI f) (nI rt) (nI (rn d (sa G l) z s)) (nI (lbl d (sa G l) z s)) (nI s) (nI p) (nI (d p)) (nI (d (p + 11))) fi ar ln) (FX0_directoryFault_275 nf (nI (rn d (sa G l) z s)) fi ar ln)) (FX0_directoryFault_129 (FX0_directoryFault_60 nf kf) nf (nI f) (nI rt) (nI (rn d (sa G l) z s)) (nI (lbl d (sa G l) z s)) (nI s) (nI p) (nI (d p)) (nI (d (p + 11))) fi ar ln)) = FX0_directoryFault_129 (FX0_directoryFault_60 nf kf) nf (nI f) (nI rt) (nI (rn d (sa G l) z s)) (nI (lbl d (sa G l) z s)) (nI s) (nI p) (nI (d p)) (nI (d (p + 11))) fi ar ln := by
      simp (disch := first | omega | decide) only [zlt, zle, zeq, zltl, zllt, zlel, zlle, zeql, zll, ↓zlt, ↓zle, ↓zeq, ↓zltl, ↓zllt, ↓zlel, ↓zlle, ↓zeql, ↓zll, ↓if_pos, ↓if_neg, if_pos, if_neg, ↓zgd, zgd, zgdc, ↓zgd0, zgd0c, zcl0, ↓zbit, zbitc, ↓zbit1, ↓zbit0, nI_clamp, zaddl, zladd, zsubl, zlsub, zmull, zlmul, zdivl, nI_1, nI_add, nI_mulL, zand1, zand3, zand15, zand31, zand63, zand255, zand65535, zshr1, zshl7, zshl8, zshl9, zbit8, zbit16, ↓bnd_eq, bnd_eq, obnd_some, obnd3_some, obnd6_some]
    rw [k129]
    clear k129
    by_cases qP : d (p + 11) % 64 = 15
    · have hP : isP d (sa G l) z s := ⟨hzs, q0', q229', by rw [← hp]; exact qP⟩
      have nE : ¬ isE d (sa G l) z s := fun w => w.2.2.2.1 hP.2.2.2
      have nL : ¬ isL d (sa G l) z s := fun w => w.2.2.2.1 hP.2.2.2
      have hlf : lf d (sa G l) z s = 0 := lf_zero.mpr ⟨fun w => absurd w q229', fun w => absurd w nE, fun w => absurd w nL⟩
      have hsc : scn G d (sa G l) z (m + 1) s ms = scn G d (sa G l) z m (s + 1) ms := by
        rw [scn, if_neg q0', if_neg (by rw [hlf]; decide), if_neg (fun w => nE w.1)]
      have ei : itm d (sa G l) z (s + 1) = itm d (sa G l) z s := by rw [itm, if_neg nE]
      have := cont fi ar ln 0 0 ms hlf hsc (GR.rf hLK) offF.rf offAs.rf (by rw [ei]; exact hX) hm hc (by rw [ei]; exact hQ)
      rw [addc0] at this
      have er : rn d (sa G l) z (s + 1) = rn d (sa G l) z s + 1 := by rw [rn, if_pos hP]
      have el : lbl d (sa G l) z (s + 1) = lbl d (sa G l) z s := by rw [lbl, if_neg nL]
      rw [er, el] at this
      unfold FX0_directoryFault_129 FX0_directoryFault_269
      simp (disch := first | omega | decide) only [zlt, zle, zeq, zltl, zllt, zlel, zlle, zeql, zll, ↓zlt, ↓zle, ↓zeq, ↓zltl, ↓zllt, ↓zlel, ↓zlle, ↓zeql, ↓zll, ↓if_pos, ↓if_neg, if_pos, if_neg, ↓zgd, zgd, zgdc, ↓zgd0, zgd0c, zcl0, ↓zbit, zbitc, ↓zbit1, ↓zbit0, nI_clamp, zaddl, zladd, zsubl, zlsub, zmull, zlmul, zdivl, nI_1, nI_add, nI_mulL, zand1, zand3, zand15, zand31, zand63, zand255, zand65535, zshr1, zshl7, zshl8, zshl9, zbit8, zbit16, ↓bnd_eq, bnd_eq, obnd_some, obnd3_some, obnd6_some]
      exact this
    have qP' : ¬ d (sa G l s + 11) % 64 = 15 := by rw [← hp]; exact qP
    have nP : ¬ isP d (sa G l) z s := fun w => qP' w.2.2.2
    have er : rn d (sa G l) z (s + 1) = 0 := by rw [rn, if_neg nP]
    have htm := FX0_timesAsTold_eq (nf := nf) (fi := fi) hd (show p + 32 ≤ 4 * ln 0 by omega)
    -- a fault ends the scan
    have stop4 : ∀ (fi1 : FI) (ar1 : AR) (x5 : Int32) (c : Nat), 0 < c → c < 10 → lf d (sa G l) z s = c → ∀ (ln1 : LN) (k1 s1 : Nat), GR 2 ln ln1 k1 s1 → offF [11, 40, 62, 63] fi fi1 → offAs [3, 4, 5, 19, 20, 21, 32, 33, 42] ar ar1 → ∃ fi' ar' ln' kc ks, addc k1 s1 (FX0_directoryFault_212 (FX0_directoryFault_60 nf kf) nf (nI f) (nI rt) x5 (nI s) (nI p) (nI (d (p + 11))) (nI c) fi1 ar1 ln1) = some (nI (scn G d (sa G l) z (m + 1) s ms).1, fi', ar', ln', kc, ks) ∧ GR 2 ln ln' kc ks ∧ offF [11, 40, 62, 63] fi fi' ∧ offAs [3, 4, 5, 19, 20, 21, 32, 33, 42] ar ar' ∧ ((scn G d (sa G l) z (m + 1) s ms).1 = 0 → mkC ln' ar' (scn G d (sa G l) z (m + 1) s ms).2 ∧ clu G (scn G d (sa G l) z (m + 1) s ms).2 ∧ QR ln' fi' ar' (Q0 ++ (sbs d (sa G l) (itm d (sa G l) z (en d (sa G l) (m + 1) s))).map (fun x => (x, pz G f)))) := by
      intro fi1 ar1 x5 c c1 c2 hlf ln1 k1 s1 g1 g2 g3
      have hsc : scn G d (sa G l) z (m + 1) s ms = (c, ms) := by rw [scn, if_neg q0', if_pos (by rw [hlf]; omega), hlf]
      rw [hsc]
      refine ⟨fi1, ar1, ln1, k1 + 0, s1 + 0, ?_, g1, g2, g3, fun w => by simp only at w; omega⟩
      unfold FX0_directoryFault_212
      simp (disch := first | omega | decide) only [zlt, zle, zeq, zltl, zllt, zlel, zlle, zeql, zll, ↓zlt, ↓zle, ↓zeq, ↓zltl, ↓zllt, ↓zlel, ↓zlle, ↓zeql, ↓zll, ↓if_pos, ↓if_neg, if_pos, if_neg, ↓zgd, zgd, zgdc, ↓zgd0, zgd0c, zcl0, ↓zbit, zbitc, ↓zbit1, ↓zbit0, nI_clamp, zaddl, zladd, zsubl, zlsub, zmull, zlmul, zdivl, nI_1, nI_add, nI_mulL, zand1, zand3, zand15, zand31, zand63, zand255, zand65535, zshr1, zshl7, zshl8, zshl9, zbit8, zbit16, ↓bnd_eq, bnd_eq, obnd_some, obnd3_some, obnd6_some, addc_some]
    by_cases qL : d (p + 11) / 8 % 2 = 1
    · -- a label
      have hLb : isL d (sa G l) z s := ⟨hzs, q0', q229', qP', by rw [← hp]; exact qL⟩
      have nE : ¬ isE d (sa G l) z s := fun w => by have := w.2.2.2.2; have := hLb.2.2.2.2; omega
      have ei : itm d (sa G l) z (s + 1) = itm d (sa G l) z s := by rw [itm, if_neg nE]
      have el : lbl d (sa G l) z (s + 1) = lbl d (sa G l) z s + 1 := by rw [lbl, if_pos hLb]
      have u1 : FX0_directoryFault_129 (FX0_directoryFault_60 nf kf) nf (nI f) (nI rt) (nI (rn d (sa G l) z s)) (nI (lbl d (sa G l) z s)) (nI s) (nI p) (nI (d p)) (nI (d (p + 11))) fi ar ln = FX0_directoryFault_171 (FX0_directoryFault_60 nf kf) nf (nI f) (nI rt) (nI (rn d (sa G l) z s)) (nI s) (nI p) (nI (d (p + 11))) (nI (lbl d (sa G l) z s)) 1 fi ar ln := by
        unfold FX0_directoryFault_129
        simp (disch := first | omega | decide) only [zlt, zle, zeq, zltl, zllt, zlel, zlle, zeql, zll, ↓zlt, ↓zle, ↓zeq, ↓zltl, ↓zllt, ↓zlel, ↓zlle, ↓zeql, ↓zll, ↓if_pos, ↓if_neg, if_pos, if_neg, ↓zgd, zgd, zgdc, ↓zgd0, zgd0c, zcl0, ↓zbit, zbitc, ↓zbit1, ↓zbit0, nI_clamp, zaddl, zladd, zsubl, zlsub, zmull, zlmul, zdivl, nI_1, nI_add, nI_mulL, zand1, zand3, zand15, zand31, zand63, zand255, zand65535, zshr1, zshl7, zshl8, zshl9, zbit8, zbit16, ↓bnd_eq, bnd_eq, obnd_some, obnd3_some, obnd6_some, qL]
      rw [u1]
      unfold FX0_directoryFault_171
      rw [bnd_eq, show nI (lbl d (sa G l) z s) + (1 : Int32) = nI (lbl d (sa G l) z s + 1) from nI_add _ 1, htm, obnd3_some]
      by_cases qt : timesOK d p
      · rw [if_pos qt, brF (by decide)]
        obtain ⟨mb, hmb2, hmb, hmu⟩ : ∃ mb, mb < 2 ∧ (mb ≠ 0 ↔ z = 0 ∧ lbl d (sa G l) z s = 0) ∧ br (nI rt = 0) (FX0_directoryFault_204 (FX0_directoryFault_60 nf kf) nf (nI f) (nI rt) (nI (lbl d (sa G l) z s + 1)) (nI s) (nI p) (nI (d (p + 11))) (nI s) (nI p) (nI (rn d (sa G l) z s)) fi ar ln) (br ((2 : Int32) ≤ nI (lbl d (sa G l) z s + 1)) (FX0_directoryFault_204 (FX0_directoryFault_60 nf kf) nf (nI f) (nI rt) (nI (lbl d (sa G l) z s + 1)) (nI s) (nI p) (nI (d (p + 11))) (nI s) (nI p) (nI (rn d (sa G l) z s)) fi ar ln) (FX0_directoryFault_205 (FX0_directoryFault_60 nf kf) nf (nI f) (nI rt) (nI (lbl d (sa G l) z s + 1)) (nI s) (nI p) (nI (d (p + 11))) (nI s) (nI p) (nI (rn d (sa G l) z s)) 1 fi ar ln)) = FX0_directoryFault_205 (FX0_directoryFault_60 nf kf) nf (nI f) (nI rt) (nI (lbl d (sa G l) z s + 1)) (nI s) (nI p) (nI (d (p + 11))) (nI s) (nI p) (nI (rn d (sa G l) z s)) (nI mb) fi ar ln := by
          unfold FX0_directoryFault_204
          by_cases w1 : rt = 0
          · exact ⟨0, by omega, ⟨fun w => absurd rfl w, fun w => absurd w1 (hrz.mpr w.1)⟩, by simp (disch := first | omega | decide) only [zlt, zle, zeq, zltl, zllt, zlel, zlle, zeql, zll, ↓zlt, ↓zle, ↓zeq, ↓zltl, ↓zllt, ↓zlel, ↓zlle, ↓zeql, ↓zll, ↓if_pos, ↓if_neg, if_pos, if_neg, ↓zgd, zgd, zgdc, ↓zgd0, zgd0c, zcl0, ↓zbit, zbitc, ↓zbit1, ↓zbit0, nI_clamp, zaddl, zladd, zsubl, zlsub, zmull, zlmul, zdivl, nI_1, nI_add, nI_mulL, zand1, zand3, zand15, zand31, zand63, zand255, zand65535, zshr1, zshl7, zshl8, zshl9, zbit8, zbit16, ↓bnd_eq, bnd_eq, obnd_some, obnd3_some, obnd6_some]; rfl⟩
          · by_cases w2 : lbl d (sa G l) z s = 0
            · exact ⟨1, by omega, ⟨fun _ => ⟨hrz.mp w1, w2⟩, fun _ => by omega⟩, by simp (disch := first | omega | decide) only [zlt, zle, zeq, zltl, zllt, zlel, zlle, zeql, zll, ↓zlt, ↓zle, ↓zeq, ↓zltl, ↓zllt, ↓zlel, ↓zlle, ↓zeql, ↓zll, ↓if_pos, ↓if_neg, if_pos, if_neg, ↓zgd, zgd, zgdc, ↓zgd0, zgd0c, zcl0, ↓zbit, zbitc, ↓zbit1, ↓zbit0, nI_clamp, zaddl, zladd, zsubl, zlsub, zmull, zlmul, zdivl, nI_1, nI_add, nI_mulL, zand1, zand3, zand15, zand31, zand63, zand255, zand65535, zshr1, zshl7, zshl8, zshl9, zbit8, zbit16, ↓bnd_eq, bnd_eq, obnd_some, obnd3_some, obnd6_some]; rfl⟩
            · exact ⟨0, by omega, ⟨fun w => absurd rfl w, fun w => absurd w.2 w2⟩, by simp (disch := first | omega | decide) only [zlt, zle, zeq, zltl, zllt, zlel, zlle, zeql, zll, ↓zlt, ↓zle, ↓zeq, ↓zltl, ↓zllt, ↓zlel, ↓zlle, ↓zeql, ↓zll, ↓if_pos, ↓if_neg, if_pos, if_neg, ↓zgd, zgd, zgdc, ↓zgd0, zgd0c, zcl0, ↓zbit, zbitc, ↓zbit1, ↓zbit0, nI_clamp, zaddl, zladd, zsubl, zlsub, zmull, zlmul, zdivl, nI_1, nI_add, nI_mulL, zand1, zand3, zand15, zand31, zand63, zand255, zand65535, zshr1, zshl7, zshl8, zshl9, zbit8, zbit16, ↓bnd_eq, bnd_eq, obnd_some, obnd3_some, obnd6_some]; rfl⟩
        rw [hmu]
        unfold FX0_directoryFault_205
        obtain ⟨ar1, r, e1, e2, e3'⟩ := entry_label (nf := nf) (mb := mb) hX hl hsS (show rn d (sa G l) z s ≤ s by omega) hmb2 hLb.2.2.2.2 (by omega)
        rw [← hp] at e1
        rw [e1, obnd6_some]
        have oA : offAs [3, 4, 5, 19, 20, 21, 32, 33, 42] ar ar1 := fun j hj => e3' j (fun w => hj (by simp at w; rw [w]; simp))
        rcases e2 with ⟨rfl, e2⟩ | ⟨rfl, e2⟩
        · have hl4 : l4 d (sa G l) z s := ⟨e2.1, by rw [← hp]; exact qt, e2.2.1, e2.2.2.1, e2.2.2.2.1, e2.2.2.2.2.1, e2.2.2.2.2.2.1, (hmb.mp e2.2.2.2.2.2.2).1, (hmb.mp e2.2.2.2.2.2.2).2⟩
          have hlf : lf d (sa G l) z s = 0 := lf_zero.mpr ⟨fun w => absurd w q229', fun w => absurd w nE, fun _ => hl4⟩
          have hsc : scn G d (sa G l) z (m + 1) s ms = scn G d (sa G l) z m (s + 1) ms := by
            rw [scn, if_neg q0', if_neg (by rw [hlf]; decide), if_neg (fun w => nE w.1)]
          have hX1 : CX ln fi ar1 G d l (itm d (sa G l) z s) := hX.off offF.rf e3' (S := []) (by simp) (by simp)
          have hm1 : mkC ln ar1 ms := hm.off e3' (by simp) rfl
          have hQ1 := hQ.off offF.rf e3' (S := []) (by simp) (by simp) (ln' := ln) rfl
          -- a label's chain is none
          have hfz : fo d (p + 28) = 0 := by rw [hp]; exact hl4.2.2.2.2.2.1
          have hcz : fcl d p = 0 := by rw [hp]; exact hl4.2.2.2.2.1
          have hfc : fch G d ms p = some [] := by unfold fch; rw [if_pos hfz, if_pos hcz]
          have hdz : d (p + 11) / 16 % 2 = 0 := by have : ¬ d (sa G l s + 11) / 16 % 2 = 1 := hl4.2.2.2.1; rw [hp]; omega
          rcases fileChain_ok (nf := nf) hX1.1 hLC hc hm1 hss.1 hss.2.1 (by omega) with ⟨w1, _⟩ | ⟨l9, w1, ar2, w2, w3, w4, w5⟩
          · rw [hfc] at w1; exact absurd w1 (by simp)
          · rw [hfc] at w1
            obtain rfl : [] = l9 := by simpa using w1
            rw [List.nil_append] at w4 w5
            have hX2 : CX ln fi ar2 G d l (itm d (sa G l) z s) := hX1.off offF.rf w3 (S := []) (by simp) (by simp)
            have hQ2 := hQ1.off offF.rf w3 (S := []) (by simp) (by simp) (ln' := ln) rfl
            have := cont fi ar2 ln 0 0 ms hlf hsc (GR.rf hLK) offF.rf (oA.tr (fun j hj => w3 j (fun w => hj (by simp at w; rw [w]; simp)))) (by rw [ei]; exact hX2) w4 w5 (by rw [ei]; exact hQ2)
            rw [er, el] at this
            unfold FX0_directoryFault_212 FX0_directoryFault_266 FX0_directoryFault_269
            have e16 : nI (d (p + 11)) &&& 16 = (0 : Int32) := by rw [zbit16 b11, hdz]; rfl
            rw [brT (show nI 0 = (0 : Int32) from rfl), e16, brT rfl, w2, obnd3_some, brF (by decide), bnd_eq, nI_1]
            exact this
        · have hlf : lf d (sa G l) z s = 4 := by
            unfold lf
            rw [if_neg q229', if_neg nE, if_pos hLb, if_neg (fun w => e2 ⟨w.1, w.2.2.1, w.2.2.2.1, w.2.2.2.2.1, w.2.2.2.2.2.1, w.2.2.2.2.2.2.1, hmb.mpr ⟨w.2.2.2.2.2.2.2.1, w.2.2.2.2.2.2.2.2⟩⟩)]
          exact stop4 fi ar1 _ 4 (by omega) (by omega) hlf ln 0 0 (GR.rf hLK) offF.rf oA
      · rw [if_neg qt, brT rfl]
        have hlf : lf d (sa G l) z s = 4 := by
          unfold lf
          rw [if_neg q229', if_neg nE, if_pos hLb, if_neg (fun w => qt (by rw [hp]; exact w.2.1))]
        have := stop4 fi ar (nI (lbl d (sa G l) z s + 1)) 4 (by omega) (by omega) hlf ln 0 0 (GR.rf hLK) offF.rf offAs.rf
        rw [addc0] at this
        exact this
    · -- an item
      have qL0 : d (p + 11) / 8 % 2 = 0 := by omega
      have hE : isE d (sa G l) z s := ⟨hzs, q0', q229', qP', by rw [← hp]; exact qL0⟩
      have nL : ¬ isL d (sa G l) z s := fun w => by have := w.2.2.2.2; have := hE.2.2.2.2; omega
      have ei : itm d (sa G l) z (s + 1) = itm d (sa G l) z s ++ [(s, rn d (sa G l) z s)] := by rw [itm, if_pos hE]
      have el : lbl d (sa G l) z (s + 1) = lbl d (sa G l) z s := by rw [lbl, if_neg nL]
      have u1 : FX0_directoryFault_129 (FX0_directoryFault_60 nf kf) nf (nI f) (nI rt) (nI (rn d (sa G l) z s)) (nI (lbl d (sa G l) z s)) (nI s) (nI p) (nI (d p)) (nI (d (p + 11))) fi ar ln = FX0_directoryFault_171 (FX0_directoryFault_60 nf kf) nf (nI f) (nI rt) (nI (rn d (sa G l) z s)) (nI s) (nI p) (nI (d (p + 11))) (nI (lbl d (sa G l) z s)) 0 fi ar ln := by
        unfold FX0_directoryFault_129
        simp (disch := first | omega | decide) only [zlt, zle, zeq, zltl, zllt, zlel, zlle, zeql, zll, ↓zlt, ↓zle, ↓zeq, ↓zltl, ↓zllt, ↓zlel, ↓zlle, ↓zeql, ↓zll, ↓if_pos, ↓if_neg, if_pos, if_neg, ↓zgd, zgd, zgdc, ↓zgd0, zgd0c, zcl0, ↓zbit, zbitc, ↓zbit1, ↓zbit0, nI_clamp, zaddl, zladd, zsubl, zlsub, zmull, zlmul, zdivl, nI_1, nI_add, nI_mulL, zand1, zand3, zand15, zand31, zand63, zand255, zand65535, zshr1, zshl7, zshl8, zshl9, zbit8, zbit16, ↓bnd_eq, bnd_eq, obnd_some, obnd3_some, obnd6_some, qL0]
      rw [u1]
      unfold FX0_directoryFault_171
      rw [bnd_eq, show nI (lbl d (sa G l) z s) + (0 : Int32) = nI (lbl d (sa G l) z s) from nI_add _ 0, htm, obnd3_some]
      by_cases qt : timesOK d p
      · rw [if_pos qt, brF (by decide)]
        obtain ⟨mb, hmb2, hmu⟩ : ∃ mb, mb < 2 ∧ br (nI rt = 0) (FX0_directoryFault_204 (FX0_directoryFault_60 nf kf) nf (nI f) (nI rt) (nI (lbl d (sa G l) z s)) (nI s) (nI p) (nI (d (p + 11))) (nI s) (nI p) (nI (rn d (sa G l) z s)) fi ar ln) (br ((2 : Int32) ≤ nI (lbl d (sa G l) z s)) (FX0_directoryFault_204 (FX0_directoryFault_60 nf kf) nf (nI f) (nI rt) (nI (lbl d (sa G l) z s)) (nI s) (nI p) (nI (d (p + 11))) (nI s) (nI p) (nI (rn d (sa G l) z s)) fi ar ln) (FX0_directoryFault_205 (FX0_directoryFault_60 nf kf) nf (nI f) (nI rt) (nI (lbl d (sa G l) z s)) (nI s) (nI p) (nI (d (p + 11))) (nI s) (nI p) (nI (rn d (sa G l) z s)) 1 fi ar ln)) = FX0_directoryFault_205 (FX0_directoryFault_60 nf kf) nf (nI f) (nI rt) (nI (lbl d (sa G l) z s)) (nI s) (nI p) (nI (d (p + 11))) (nI s) (nI p) (nI (rn d (sa G l) z s)) (nI mb) fi ar ln := by
          unfold FX0_directoryFault_204
          by_cases w1 : rt = 0
          · exact ⟨0, by omega, by simp (disch := first | omega | decide) only [zlt, zle, zeq, zltl, zllt, zlel, zlle, zeql, zll, ↓zlt, ↓zle, ↓zeq, ↓zltl, ↓zllt, ↓zlel, ↓zlle, ↓zeql, ↓zll, ↓if_pos, ↓if_neg, if_pos, if_neg, ↓zgd, zgd, zgdc, ↓zgd0, zgd0c, zcl0, ↓zbit, zbitc, ↓zbit1, ↓zbit0, nI_clamp, zaddl, zladd, zsubl, zlsub, zmull, zlmul, zdivl, nI_1, nI_add, nI_mulL, zand1, zand3, zand15, zand31, zand63, zand255, zand65535, zshr1, zshl7, zshl8, zshl9, zbit8, zbit16, ↓bnd_eq, bnd_eq, obnd_some, obnd3_some, obnd6_some]; rfl⟩
          · by_cases w2 : 2 ≤ lbl d (sa G l) z s
            · exact ⟨0, by omega, by simp (disch := first | omega | decide) only [zlt, zle, zeq, zltl, zllt, zlel, zlle, zeql, zll, ↓zlt, ↓zle, ↓zeq, ↓zltl, ↓zllt, ↓zlel, ↓zlle, ↓zeql, ↓zll, ↓if_pos, ↓if_neg, if_pos, if_neg, ↓zgd, zgd, zgdc, ↓zgd0, zgd0c, zcl0, ↓zbit, zbitc, ↓zbit1, ↓zbit0, nI_clamp, zaddl, zladd, zsubl, zlsub, zmull, zlmul, zdivl, nI_1, nI_add, nI_mulL, zand1, zand3, zand15, zand31, zand63, zand255, zand65535, zshr1, zshl7, zshl8, zshl9, zbit8, zbit16, ↓bnd_eq, bnd_eq, obnd_some, obnd3_some, obnd6_some]; rfl⟩
            · exact ⟨1, by omega, by simp (disch := first | omega | decide) only [zlt, zle, zeq, zltl, zllt, zlel, zlle, zeql, zll, ↓zlt, ↓zle, ↓zeq, ↓zltl, ↓zllt, ↓zlel, ↓zlle, ↓zeql, ↓zll, ↓if_pos, ↓if_neg, if_pos, if_neg, ↓zgd, zgd, zgdc, ↓zgd0, zgd0c, zcl0, ↓zbit, zbitc, ↓zbit1, ↓zbit0, nI_clamp, zaddl, zladd, zsubl, zlsub, zmull, zlmul, zdivl, nI_1, nI_add, nI_mulL, zand1, zand3, zand15, zand31, zand63, zand255, zand65535, zshr1, zshl7, zshl8, zshl9, zbit8, zbit16, ↓bnd_eq, bnd_eq, obnd_some, obnd3_some, obnd6_some]; rfl⟩
        rw [hmu]
        unfold FX0_directoryFault_205
        obtain ⟨fi1, ar1, ln1, k1, s1, r, e1, e2, e3', e4', e5⟩ := entry_item (nf := nf) (mb := mb) hX hl hsS (show rn d (sa G l) z s ≤ s by omega) hmb2 (hits_of (by omega) hok) (by have := itm_len d (sa G l) z s; omega) hE.2.2.2.2 hnf
        rw [← hp] at e1
        rw [e1, obnd6_some]
        have oF : offF [11, 40, 62, 63] fi fi1 := e4'.mono (by simp)
        have oA : offAs [3, 4, 5, 19, 20, 21, 32, 33, 42] ar ar1 := fun j hj => e5 j (fun w => hj (by simp at w ⊢; omega))
        have he34 : e3 d (sa G l) s (rn d (sa G l) z s) ↔ e4 d (sa G l) s (rn d (sa G l) z s) := by
          rw [hp] at qt
          exact ⟨fun w => ⟨w.1, qt, w.2⟩, fun w => ⟨w.1, w.2.2⟩⟩
        rcases e2 with ⟨rfl, e2⟩ | ⟨rfl, e2, e6⟩ | ⟨rfl, e2, e6, e7⟩
        · have hlf : lf d (sa G l) z s = 4 := by
            unfold lf
            rw [if_neg q229', if_pos hE, if_neg (fun w => e2 (he34.mpr w))]
          exact stop4 fi1 ar1 _ 4 (by omega) (by omega) hlf ln1 k1 s1 e3' oF oA
        · have hlf : lf d (sa G l) z s = 5 := by
            unfold lf
            rw [if_neg q229', if_pos hE, if_pos (he34.mp e2), if_pos e6]
          exact stop4 fi1 ar1 _ 5 (by omega) (by omega) hlf ln1 k1 s1 e3' oF oA
        · have hlf : lf d (sa G l) z s = 0 := by
            unfold lf
            rw [if_neg q229', if_pos hE, if_pos (he34.mp e2), if_neg e6]
          have hln3 : ln1 3 = ln 3 := e3'.off (by omega) (by omega) (by omega)
          have hln4 : ln1 4 = ln 4 := e3'.off (by omega) (by omega) (by omega)
          have hm1 : mkC ln1 ar1 ms := hm.off e5 (by simp) hln3
          have hQ1 := hQ.off e4' e5 (by simp) (by simp) hln4
          have hLC1 := e7.2.1
          unfold FX0_directoryFault_212 FX0_directoryFault_266 FX0_directoryFault_249
          by_cases qd : d (p + 11) / 16 % 2 = 1
          · -- a directory
            have hDr : isDr d (sa G l s) := by rw [← hp]; exact qd
            have hsc : scn G d (sa G l) z (m + 1) s ms = scn G d (sa G l) z m (s + 1) ms := by
              rw [scn, if_neg q0', if_neg (by rw [hlf]; decide), if_neg (fun w => w.2 hDr)]
            have hfc := FX3_firstCluster_eq (nf := nf) (fi := fi1) e7.1.1 (p := p) (by rw [hLC1.1]; omega)
            obtain ⟨fi2, ar2, w1, w2, w3, w4⟩ := enqueue_ok (nf := nf) hLC1 (by omega) hQ1 (fcl d p) (pz G f)
            have hX2 : CX ln1 fi2 ar2 G d l (itm d (sa G l) z s ++ [(s, rn d (sa G l) z s)]) := e7.off w3 w4 (by simp) (by simp)
            have hm2 : mkC ln1 ar2 ms := hm1.off w4 (by simp) rfl
            have hQ2 : QR ln1 fi2 ar2 (Q0 ++ (sbs d (sa G l) (itm d (sa G l) z (s + 1))).map (fun x => (x, pz G f))) := by
              rw [ei, sbs_snoc, if_pos hDr, List.map_append, ← List.append_assoc, ← hp]; exact w2
            have := cont fi2 ar2 ln1 k1 s1 ms hlf hsc e3' (oF.tr (w3.mono (by simp))) (oA.tr (fun j hj => w4 j (fun w => hj (by simp at w ⊢; omega)))) (by rw [ei]; exact hX2) hm2 hc hQ2
            rw [er, el, ← nI_1] at this
            unfold FX0_directoryFault_266 FX0_directoryFault_269
            have hpz : br (nI rt = 0) (obnd3 (FX0_enqueue nf ln1 fi1 ar1 (nI (fcl d p)) (nI f)) fun r6 fi4 ar5 => bnd (nI s + 1) fun x6_2 => FX0_directoryFault_60 nf kf (nI f) (nI rt) 0 (nI (lbl d (sa G l) z s)) x6_2 fi4 ar5 ln1) (obnd3 (FX0_enqueue nf ln1 fi1 ar1 (nI (fcl d p)) 0) fun r6 fi4 ar5 => bnd (nI s + 1) fun x6_2 => FX0_directoryFault_60 nf kf (nI f) (nI rt) 0 (nI (lbl d (sa G l) z s)) x6_2 fi4 ar5 ln1) = FX0_directoryFault_60 nf kf (nI f) (nI rt) 0 (nI (lbl d (sa G l) z s)) (nI s + 1) fi2 ar2 ln1 := by
              by_cases w : rt = 0
              · have hz0 : z ≠ 0 := fun w2 => (hrz.mpr w2) w
                have hfr : f ≠ G.r := fun w2 => hz0 (by rw [← hz]; unfold zf; rw [if_pos w2])
                have epz : pz G f = f := by unfold pz; rw [if_neg hfr]
                rw [epz] at w1
                rw [zeql (n := 0) (by omega) (by decide), if_pos w, w1, obnd3_some, bnd_eq]
              · have hz0 : z = 0 := hrz.mp w
                have hfr : f = G.r := by
                  rcases zf_cases G f with w2 | w2
                  · exact w2.1
                  · omega
                have epz : pz G f = 0 := by unfold pz; rw [if_pos hfr]
                rw [epz] at w1
                rw [zeql (n := 0) (by omega) (by decide), if_neg w, show (0 : Int32) = nI 0 from rfl, w1, obnd3_some, bnd_eq]
            have e16 : nI (d (p + 11)) &&& 16 = nI 16 := by rw [zbit16 b11, qd]
            rw [show nI 0 = (0 : Int32) from rfl, brT rfl, e16, brF (by decide), hfc, obnd3_some, hpz]
            exact this
          · have nDr : ¬ isDr d (sa G l s) := by rw [← hp]; exact qd
            have qd0 : d (p + 11) / 16 % 2 = 0 := by omega
            have e16 : nI (d (p + 11)) &&& 16 = nI 0 := by rw [zbit16 b11, qd0]
            rw [brT (show nI 0 = (0 : Int32) from rfl), e16, brT (show nI 0 = (0 : Int32) from rfl)]
            rcases fileChain_ok (nf := nf) e7.1 hLC1 hc hm1 hss.1 hss.2.1 (by omega) with ⟨w1, ar2, w2, w3⟩ | ⟨l9, w1, ar2, w2, w3, w4, w5⟩
            · have hsc : scn G d (sa G l) z (m + 1) s ms = (3, ms) := by
                rw [scn, if_neg q0', if_neg (by rw [hlf]; decide), if_pos ⟨hE, nDr⟩, ← hp, w1]
              rw [w2, obnd3_some, brT rfl, addc_some, hsc]
              exact ⟨fi1, ar2, ln1, k1 + 0, s1 + 0, rfl, e3', oF, oA.tr (fun j hj => w3 j (fun w => hj (by simp at w ⊢; omega))), fun w => absurd w (by simp)⟩
            · have hsc : scn G d (sa G l) z (m + 1) s ms = scn G d (sa G l) z m (s + 1) (l9 ++ ms) := by
                rw [scn, if_neg q0', if_neg (by rw [hlf]; decide), if_pos ⟨hE, nDr⟩, ← hp, w1]
              have hX2 : CX ln1 fi1 ar2 G d l (itm d (sa G l) z s ++ [(s, rn d (sa G l) z s)]) := e7.off offF.rf w3 (S := []) (by simp) (by simp)
              have hQ2 : QR ln1 fi1 ar2 (Q0 ++ (sbs d (sa G l) (itm d (sa G l) z (s + 1))).map (fun x => (x, pz G f))) := by
                rw [ei, sbs_snoc, if_neg nDr, List.append_nil]; exact hQ1.off offF.rf w3 (S := []) (by simp) (by simp) rfl
              have := cont fi1 ar2 ln1 k1 s1 (l9 ++ ms) hlf hsc e3' oF (oA.tr (fun j hj => w3 j (fun w => hj (by simp at w ⊢; omega)))) (by rw [ei]; exact hX2) w4 w5 hQ2
              rw [er, el, ← nI_1] at this
              rw [w2, obnd3_some, brF (by decide)]
              unfold FX0_directoryFault_269
              rw [bnd_eq]
              exact this
      · rw [if_neg qt, brT rfl]
        have hlf : lf d (sa G l) z s = 4 := by
          unfold lf
          rw [if_neg q229', if_pos hE, if_neg (fun w => qt (by rw [hp]; exact w.2.1))]
        have := stop4 fi ar (nI (lbl d (sa G l) z s)) 4 (by omega) (by omega) hlf ln 0 0 (GR.rf hLK) offF.rf offAs.rf
        rw [addc0] at this
        exact this
