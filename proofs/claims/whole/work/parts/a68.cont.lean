/-! make: what is read from the slots -/
theorem cE_read {B : Nat → Nat} {bits own : Nat} (hB : ∀ i, i < 11 → B i < 256) (hbits : bits < 256) (hown : own < 65536) : (∀ i, i < 11 → cE B bits own i = B i) ∧ cE B bits own 11 = bits ∧ (∀ i, 12 ≤ i → i < 20 → cE B bits own i = 0) ∧ (cE B bits own 20 = 0 ∧ cE B bits own 21 = 0 ∧ cE B bits own 22 = 0 ∧ cE B bits own 23 = 0 ∧ cE B bits own 24 = 33 ∧ cE B bits own 25 = 0 ∧ cE B bits own 26 = own % 256 ∧ cE B bits own 27 = own / 256) ∧ ∀ i, 28 ≤ i → cE B bits own i = 0 := by
  unfold cE pfc
  refine ⟨fun i hi => ?_, ?_, fun i h1 h2 => ?_, ⟨?_, ?_, ?_, ?_, ?_, ?_, ?_, ?_⟩, fun i hi => ?_⟩
  · rw [wr_out (by omega), wr_out (by omega), wr_out (by omega), wr_out (by omega)]
    have := pb_in (f := B) (p := 0) (i := i) 11 0 (fun _ => 0) (Nat.zero_le _) (by omega)
    rw [Nat.zero_add] at this
    rw [this, Nat.mod_eq_of_lt (hB i hi)]
  · rw [wr_out (by omega), wr_out (by omega), wr_out (by omega), wr_in (by omega) (by omega), Nat.sub_self, Nat.pow_zero, Nat.div_one, Nat.mod_eq_of_lt hbits]
  · rw [wr_out (by omega), wr_out (by omega), wr_out (by omega), wr_out (by omega), pb_out 11 0 _ (by omega)]
  · rw [wr_out (by omega), wr_in (by omega) (by omega), Nat.zero_div]
  · rw [wr_out (by omega), wr_in (by omega) (by omega), Nat.zero_div]
  · rw [wr_out (by omega), wr_out (by omega), wr_out (by omega), wr_out (by omega), pb_out 11 0 _ (by omega)]
  · rw [wr_out (by omega), wr_out (by omega), wr_out (by omega), wr_out (by omega), pb_out 11 0 _ (by omega)]
  · rw [wr_out (by omega), wr_out (by omega), wr_in (by omega) (by omega)]
  · rw [wr_out (by omega), wr_out (by omega), wr_in (by omega) (by omega)]
  · rw [wr_in (by omega) (by omega), show 26 - (0 + 26) = 0 from rfl, Nat.pow_zero, Nat.div_one]
  · rw [wr_in (by omega) (by omega), show 27 - (0 + 26) = 1 from rfl, Nat.pow_one, Nat.mod_eq_of_lt (by omega)]
  · rw [wr_out (by omega), wr_out (by omega), wr_out (by omega), wr_out (by omega), pb_out 11 0 _ (by omega)]
theorem plc_ap {q q' : Nat} (h : q < 13) (h' : q' < 13) (hne : q ≠ q') : plc q + 2 ≤ plc q' ∨ plc q' + 2 ≤ plc q := by
  have : ∀ q, q < 13 → ∀ q', q' < 13 → q ≠ q' → (plc q + 2 ≤ plc q' ∨ plc q' + 2 ≤ plc q) := by decide
  exact this q h q' h' hne
theorem plc_no {q : Nat} (h : q < 13) : 1 ≤ plc q ∧ (plc q + 2 ≤ 11 ∨ 14 ≤ plc q) ∧ (plc q + 2 ≤ 26 ∨ 28 ≤ plc q) ∧ plc q + 2 ≤ 32 := by
  have : ∀ q, q < 13 → 1 ≤ plc q ∧ (plc q + 2 ≤ 11 ∨ 14 ≤ plc q) ∧ (plc q + 2 ≤ 26 ∨ 28 ≤ plc q) ∧ plc q + 2 ≤ 32 := by decide
  exact this q h
theorem pu_far {u : Nat → Nat} {x : Nat} : ∀ (m q : Nat) (e : Nat → Nat), q + m ≤ 13 → (∀ q', q ≤ q' → q' < q + m → (x < plc q' ∨ plc q' + 2 ≤ x)) → pu u 0 q m e x = e x
  | 0, _, _, _, _ => rfl
  | m + 1, q, e, h1, h2 => by
    have := h2 q (Nat.le_refl _) (by omega)
    rw [pu, pu_far m (q + 1) _ (by omega) (fun q' a b => h2 q' (by omega) (by omega)), wr_out (by omega)]
theorem pu_tw {u : Nat → Nat} {x : Nat} (hx : x < 13) (hu : u x < 65536) : ∀ (m q : Nat) (e : Nat → Nat), q + m ≤ 13 → q ≤ x → x < q + m → tw (pu u 0 q m e) (plc x) = u x
  | 0, _, _, _, h2, h3 => absurd h3 (by omega)
  | m + 1, q, e, h1, h2, h3 => by
    rw [pu]
    by_cases c : x = q
    · have f : ∀ i, i < 2 → pu u 0 (q + 1) m (wr e (0 + plc q) 2 (u q)) (plc q + i) = wr e (0 + plc q) 2 (u q) (plc q + i) := fun i hi => pu_far m (q + 1) _ (by omega) (fun q' a b => by
        have := plc_ap (q := q) (q' := q') (by omega) (by omega) (by omega); omega)
      have f0 : pu u 0 (q + 1) m (wr e (0 + plc q) 2 (u q)) (plc q) = wr e (0 + plc q) 2 (u q) (plc q) := f 0 (by omega)
      have f1 := f 1 (by omega)
      rw [c]
      have : tw (pu u 0 (q + 1) m (wr e (0 + plc q) 2 (u q))) (plc q) = tw (wr e (0 + plc q) 2 (u q)) (plc q) := by
        unfold tw
        rw [f1, f0]
      rw [this, Nat.zero_add, tw_wr_in (by rw [← c]; exact hu)]
    · exact pu_tw hx hu m (q + 1) _ (by omega) (by omega) (by omega)
theorem cP_read {u : Nat → Nat} {num sum : Nat} (hnum : num < 256) (hsum : sum < 256) (hu : ∀ q, q < 13 → u q < 65536) : cP u num sum 0 = num ∧ cP u num sum 11 = 15 ∧ cP u num sum 12 = 0 ∧ cP u num sum 13 = sum ∧ cP u num sum 26 = 0 ∧ cP u num sum 27 = 0 ∧ ∀ q, q < 13 → tw (cP u num sum) (plc q) = u q := by
  have far : ∀ x, (∀ q, q < 13 → (x < plc q ∨ plc q + 2 ≤ x)) → cP u num sum x = wr (wr (wr (fun _ => 0) 0 1 num) 11 1 15) 13 1 sum x := fun x hx => by
    unfold cP
    exact pu_far 13 0 _ (by omega) (fun q' _ h => hx q' (by omega))
  refine ⟨?_, ?_, ?_, ?_, ?_, ?_, fun q hq => ?_⟩
  · rw [far 0 (fun q hq => by have := plc_no hq; omega), wr_out (by omega), wr_out (by omega), wr_in (by omega) (by omega), Nat.sub_self, Nat.pow_zero, Nat.div_one, Nat.mod_eq_of_lt hnum]
  · rw [far 11 (fun q hq => by have := plc_no hq; omega), wr_out (by omega), wr_in (by omega) (by omega)]
  · rw [far 12 (fun q hq => by have := plc_no hq; omega), wr_out (by omega), wr_out (by omega), wr_out (by omega)]
  · rw [far 13 (fun q hq => by have := plc_no hq; omega), wr_in (by omega) (by omega), Nat.sub_self, Nat.pow_zero, Nat.div_one, Nat.mod_eq_of_lt hsum]
  · rw [far 26 (fun q hq => by have := plc_no hq; omega), wr_out (by omega), wr_out (by omega), wr_out (by omega)]
  · rw [far 27 (fun q hq => by have := plc_no hq; omega), wr_out (by omega), wr_out (by omega), wr_out (by omega)]
  · unfold cP
    exact pu_tw hq (hu q hq) 13 0 _ (by omega) (Nat.zero_le _) (by omega)
theorem SLT.tw {d e : Nat → Nat} {p : Nat} (h : SLT d p e) {k : Nat} (hk : k + 1 < 32) : tw d (p + k) = tw e k := by
  unfold Jvm.Pilot.CTableVolumesLaw_law_r4528_56697b.tw
  rw [h k (by omega), show p + k + 1 = p + (k + 1) from rfl, h (k + 1) hk]
/-- the name that parts tell -/
theorem nm_parts {d A : Nat → Nat} {s np : Nat} {N : List Nat} (hN : nmOK N) (hN2 : ∀ x, x ∈ N → x < 65536) (h1 : 1 ≤ np) (hnp : (N.length + 12) / 13 = np) (hu : ∀ j, j < np → ∀ q, q < 13 → tw d (A (s - 1 - j) + plc q) = uN N j q) : nm d A s np = N ∧ ∀ i, i < 13 * np → N.length < i → nU d A s i = 65535 := by
  have hnU : ∀ i, i < 13 * np → nU d A s i = if i < N.length then N.getD i 0 else if i = N.length then 0 else 65535 := fun i hi => by
    unfold nU
    rw [hu (i / 13) (by omega) (i % 13) (by omega)]
    unfold uN
    rw [show 13 * (i / 13) + i % 13 = i by omega]
  have hzl : zl (nU d A s) (13 * np) 0 = N.length := by
    refine zl_uniq _ (Nat.zero_le _) (by omega) (fun t _ ht => ?_) (fun hlt => ?_)
    · rw [hnU t (by omega), if_pos ht]
      have := (hN.2.2.1 _ (getD_mem ht)).1
      omega
    · rw [hnU _ (by omega), if_neg (by omega), if_pos rfl]
  refine ⟨?_, fun i hi hlt => by rw [hnU i hi, if_neg (by omega), if_neg (by omega)]⟩
  unfold nm
  rw [if_neg (by omega), hzl]
  apply List.ext_getElem?
  intro i
  by_cases c : i < N.length
  · rw [List.getElem?_map, List.getElem?_range c, List.getElem?_eq_getElem c]
    show some (nU d A s i) = _
    rw [hnU i (by omega), if_pos c, List.getD_eq_getElem?_getD, List.getElem?_eq_getElem c]; rfl
  · rw [List.getElem?_eq_none (by rw [List.length_map, List.length_range]; omega), List.getElem?_eq_none (by omega)]
/-- the shown short name of a name that is one -/
theorem shw_brief {d : Nat → Nat} {p : Nat} {N : List Nat} (hbr : brOK N) (hd : ∀ i, i < 11 → d (p + i) = brB N i) : shw d p 11 = N := by
  obtain ⟨b1, b2, b3, b4, b5⟩ := hbr
  have hfl := fpt_le N
  have hs32 : ∀ q, q < N.length → q ≠ fpt N → N.getD q 0 ≠ 32 := fun q hq hne => by have := (sgn_lt (b5 q hq hne)).1; omega
  have lo : ∀ i, i < 8 → brB N i = if i < fpt N then N.getD i 0 else 32 := fun i hi => by
    unfold brB brP
    rw [if_pos hi]
    by_cases c : i < fpt N
    · rw [if_pos ⟨by omega, c⟩, if_pos c]
    · rw [if_neg (by omega), if_neg c]
  have hi' : ∀ i, 8 ≤ i → brB N i = if fpt N + 1 + (i - 8) < N.length then N.getD (fpt N + 1 + (i - 8)) 0 else 32 := fun i hi => by
    unfold brB brP
    rw [if_neg (by omega)]
  -- the first 8
  have s8 : ∀ i, i ≤ 8 → shw d p i = N.take (min i (fpt N)) := by
    intro i
    induction i with
    | zero => intro _; rw [shw, Nat.zero_min, List.take_zero]
    | succ i ih =>
      intro hi
      rw [shw, ih (by omega), if_neg (by omega), List.nil_append, hd i (by omega), lo i (by omega)]
      by_cases c : i < fpt N
      · rw [if_pos c, if_neg (hs32 i (by omega) (by omega)), show min i (fpt N) = i by omega, show min (i + 1) (fpt N) = i + 1 by omega, List.take_add_one, List.getElem?_eq_getElem (show i < N.length by omega)]
        rw [List.getD_eq_getElem?_getD, List.getElem?_eq_getElem (show i < N.length by omega)]; rfl
      · rw [if_neg c, if_pos rfl, List.append_nil, show min i (fpt N) = min (i + 1) (fpt N) by omega]
  -- the last 3
  have s11 : ∀ t, t ≤ 3 → shw d p (8 + t) = N.take (if t = 0 then fpt N else min (fpt N + 1 + t) N.length) ∨ (t ≠ 0 ∧ fpt N = N.length ∧ shw d p (8 + t) = N) := by
    intro t
    induction t with
    | zero => intro _; left; rw [if_pos rfl, Nat.add_zero, s8 8 (by omega), show min 8 (fpt N) = fpt N by omega]
    | succ t ih =>
      intro ht
      by_cases e : fpt N = N.length
      · right
        refine ⟨by omega, e, ?_⟩
        have hprev : shw d p (8 + t) = N := by
          rcases ih (by omega) with w | w
          · rw [w]
            split
            · rw [e, List.take_length]
            · rw [show min (fpt N + 1 + t) N.length = N.length by omega, List.take_length]
          · exact w.2.2
        have h32 : d (p + (8 + t)) = 32 := by rw [hd _ (by omega), hi' _ (by omega), if_neg (by omega)]
        have h832 : d (p + 8) = 32 := by rw [hd _ (by omega), hi' _ (by omega), if_neg (by omega)]
        rw [show 8 + (t + 1) = 8 + t + 1 from rfl, shw, hprev, h32, if_pos rfl, if_neg (fun w => w.2 h832)]; simp
      · left
        have hlt : fpt N < N.length := by omega
        have h2 := b4 hlt
        have h8 : d (p + 8) = N.getD (fpt N + 1) 0 := by rw [hd _ (by omega), hi' _ (by omega), if_pos (by omega)]
        have h8ne : d (p + 8) ≠ 32 := by rw [h8]; exact hs32 _ (by omega) (by omega)
        have hdt : d (p + (8 + t)) = if fpt N + 1 + t < N.length then N.getD (fpt N + 1 + t) 0 else 32 := by rw [hd _ (by omega), hi' _ (by omega), show 8 + t - 8 = t by omega]
        rw [show 8 + (t + 1) = 8 + t + 1 from rfl, shw, if_neg (show ¬ t + 1 = 0 by omega)]
        rcases ih (by omega) with w | w
        · rw [w, hdt]
          by_cases t0 : t = 0
          · subst t0
            rw [if_pos rfl, if_pos ⟨rfl, h8ne⟩, if_pos (show fpt N + 1 + 0 < N.length by omega), if_neg (hs32 (fpt N + 1 + 0) (by omega) (by omega)), show min (fpt N + 1 + (0 + 1)) N.length = fpt N + 2 by omega, List.take_add_one, List.take_add_one, List.getElem?_eq_getElem (show fpt N + 1 < N.length by omega), List.getElem?_eq_getElem hlt]
            have e46 := fpt_eq hlt
            rw [List.getD_eq_getElem?_getD, List.getElem?_eq_getElem hlt] at e46
            rw [List.getD_eq_getElem?_getD, List.getElem?_eq_getElem (show fpt N + 1 + 0 < N.length by omega)]
            have e46' : N[fpt N] = 46 := e46
            simp [e46']
          · rw [if_neg t0, if_neg (by omega), List.nil_append]
            by_cases c : fpt N + 1 + t < N.length
            · rw [if_pos c, if_neg (hs32 _ c (by omega)), show min (fpt N + 1 + t) N.length = fpt N + 1 + t by omega, show min (fpt N + 1 + (t + 1)) N.length = fpt N + 1 + t + 1 by omega, List.take_add_one, List.getElem?_eq_getElem c, List.getD_eq_getElem?_getD, List.getElem?_eq_getElem c]; rfl
            · rw [if_neg c, if_pos rfl, List.append_nil, show min (fpt N + 1 + t) N.length = min (fpt N + 1 + (t + 1)) N.length by omega]
        · exact absurd w.2.1 e
  rcases s11 3 (Nat.le_refl _) with w | w
  · have w' : shw d p 11 = _ := w
    rw [w', if_neg (by omega), List.take_of_length_le (by omega)]
  · exact w.2.2
