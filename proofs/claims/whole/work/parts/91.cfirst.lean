/-! the class's first fault -/
theorem vnb0 : vp_nar .boolean (0 : Int32) = 0 := by decide
theorem clear_loop {nf : Nat} {fi : FI} {ln : LN} (hl : ln 3 < 2147483648) : ∀ (m i kf : Nat) (ar : AR), i + m = ln 3 → m < kf → (∀ x, x < i → ar 3 x = 0) → ∃ ar' k2, FX0_firstFault_26 nf kf (nI i) fi ar ln = bnd (va_up fi 11 (0 : Int32)) (fun fi23 => obnd3 (FX0_enqueue nf ln fi23 ar' (fi23 4) 0) fun r27 fi25 ar26 => FX0_firstFault_67 nf k2 (0 : Int32) fi25 ar26 ln) ∧ k2 = nf ∧ (∀ x, x < ln 3 → ar' 3 x = 0) ∧ offAs [3] ar ar' := by
  intro m
  induction m with
  | zero =>
    intro i kf ar hi hk h0
    obtain ⟨kf, rfl⟩ : ∃ k, kf = k + 1 := ⟨kf - 1, by omega⟩
    refine ⟨ar, nf, ?_, rfl, fun x hx => h0 x (by omega), offAs.rf⟩
    rw [show FX0_firstFault_26 nf (kf + 1) = FX0_firstFault_26b (FX0_firstFault_26 nf kf) nf from rfl]
    unfold FX0_firstFault_26b
    rw [show Int32.ofNat (ln 3) = nI (ln 3) from rfl, zle (by omega) (by omega), if_pos (by omega)]
  | succ m ih =>
    intro i kf ar hi hk h0
    obtain ⟨kf, rfl⟩ : ∃ k, kf = k + 1 := ⟨kf - 1, by omega⟩
    obtain ⟨ar', k2, r1, r2, r3, r4⟩ := ih (i + 1) kf (va_up ar 3 (upd (ar 3) i (vp_nar .boolean 0))) (by omega) (by omega) (fun x hx => by
      rw [va_up_self]; unfold upd
      by_cases e : x = i
      · rw [if_pos e]; exact vnb0
      · rw [if_neg e]; exact h0 x (by omega))
    refine ⟨ar', k2, ?_, r2, r3, (offAs.rf.up (by simp)).tr r4⟩
    rw [← r1]
    rw [show FX0_firstFault_26 nf (kf + 1) = FX0_firstFault_26b (FX0_firstFault_26 nf kf) nf from rfl]
    unfold FX0_firstFault_26b
    rw [show Int32.ofNat (ln 3) = nI (ln 3) from rfl, zle (by omega) (by omega), if_neg (by omega), zgd (by omega) (by omega), nI_clamp (by omega), bnd_eq, bnd_eq, nI_1]
theorem sbs_lt {ln : LN} {ar : AR} {G : Geo} {d : Nat → Nat} {l : List Nat} {z E : Nat} (hG : GOK G) (hd : CD ln ar d) (hl0 : ln 0 = 128 * G.n) (hl : clu G l) (hE : E ≤ l.length * (16 * G.c)) : ∀ x, x ∈ sbs d (sa G l) (itm d (sa G l) z E) → x < 4294967296 := by
  intro x hx
  obtain ⟨e, he, rfl⟩ := List.mem_map.mp hx
  have hm := (mem_itm E).mp (List.mem_filter.mp he).1
  have hs := slot_in hG hl (show e.1 < l.length * (16 * G.c) by omega)
  have h1 := twC_lt hd (show sa G l e.1 + 20 + 1 < 4 * ln 0 by omega)
  have h2 := twC_lt hd (show sa G l e.1 + 26 + 1 < 4 * ln 0 by omega)
  unfold fcl
  omega
theorem dirF_sub_lt {ln : LN} {ar : AR} {G : Geo} {d : Nat → Nat} {l ms : List Nat} {f p : Nat} (hG : GOK G) (hd : CD ln ar d) (hl0 : ln 0 = 128 * G.n) (hl : clu G l) : ∀ x, x ∈ (dirF G d l ms f p).2.2 → x < 4294967296 := by
  intro x hx
  unfold dirF at hx
  by_cases q : zf G f = 2 ∧ ¬ (pts d (sa G l 0) 0 f ∧ pts d (sa G l 1) 1 p)
  · rw [if_pos q] at hx; exact absurd hx (by simp)
  · rw [if_neg q] at hx
    exact sbs_lt hG hd hl0 hl (by have := (zl_le (fun t => d (sa G l t)) (l.length * (16 * G.c)) 0).2; unfold en; omega) x hx
/-- the code that a look ends with, given what the lined up directories say -/
noncomputable def endC (G : Geo) (d : Nat → Nat) (o : Nat × List Nat) : Nat := if o.1 ≠ 0 then o.1 else if lst G d o.2 then 6 else 0
theorem ff_loop {nf : Nat} {G : Geo} {d : Nat → Nat} (hG : GOK G) (hnf : 40000 ≤ nf) : ∀ (n turn kf : Nat) (ms : List Nat) (QL : List (Nat × Nat)) (fi : FI) (ar : AR) (ln : LN), CW ln fi ar G d → LNC ln G.n → (∃ L, LK ln 2 L) → mkC ln ar ms → clu G ms → QR ln fi ar QL → (∀ e, e ∈ QL → e.1 < 4294967296 ∧ e.2 < 4294967296) → (turn = 0 → QL = [(G.r, 0)] ∧ ms = []) → (0 < turn → G.r ∈ ms) → turn ≤ ms.length → turn ≤ QL.length → G.k + 2 ≤ n + turn → n < kf → ∃ fi' ar' ln' kc ks, FX0_firstFault_67 nf kf (nI turn) fi ar ln = some (nI (endC G d (bfs G d n (QL.drop turn) ms)), fi', ar', ln', kc, ks) ∧ GR 2 ln ln' kc ks ∧ offF [11, 40, 41, 42, 43, 44, 45, 62, 63] fi fi' ∧ offAs [3, 4, 5, 18, 19, 20, 21, 32, 33, 42] ar ar' := by
  have b := hG.b
  have hkn : G.k ≤ G.n / 2 := by
    have : G.k * 2 ≤ G.k * G.c := Nat.mul_le_mul_left _ (by omega)
    omega
  intro n
  induction n with
  | zero =>
    intro turn kf ms QL fi ar ln h hLC hLK hm hc hQ hb h0 h1 ht htq hn hk
    have := hc.len
    omega
  | succ n ih =>
    intro turn kf ms QL fi ar ln h hLC hLK hm hc hQ hb h0 h1 ht htq hn hk
    obtain ⟨L, hLK⟩ := hLK
    have hml := hc.len
    have c4 := hLC.2.2.2.2.1
    have c5 := hLC.2.2.2.2.2.1
    obtain ⟨kf, rfl⟩ : ∃ k, kf = k + 1 := ⟨kf - 1, by omega⟩
    rw [show FX0_firstFault_67 nf (kf + 1) = FX0_firstFault_67b (FX0_firstFault_67 nf kf) nf from rfl]
    unfold FX0_firstFault_67b
    rw [hQ.1]
    by_cases q : QL.length ≤ turn
    · have hdrop : QL.drop turn = [] := List.drop_eq_nil_of_le q
      rw [hdrop, bfs, zle (by omega) (by omega), if_pos (by omega), hasLost_eq h hLC hm (by omega), obnd3_some]
      have ec : endC G d (0, ms) = if lst G d ms then 6 else 0 := by unfold endC; rw [if_neg (show ¬ (0, ms).1 ≠ 0 from fun w => w rfl)]
      rw [ec]
      unfold FX0_firstFault_126
      by_cases q2 : lst G d ms
      · simp only [if_pos q2]
        rw [brF (by decide)]
        exact ⟨fi, ar, ln, 0, 0, rfl, GR.rf hLK, offF.rf, offAs.rf⟩
      · simp only [if_neg q2]
        rw [brT trivial]
        exact ⟨fi, ar, ln, 0, 0, rfl, GR.rf hLK, offF.rf, offAs.rf⟩
    · have htl : turn < QL.length := by omega
      obtain ⟨e, he⟩ : ∃ e, e = QL.getD turn (0, 0) := ⟨_, rfl⟩
      have hge : QL[turn] = e := by rw [he, List.getD_eq_getElem?_getD, List.getElem?_eq_getElem htl]; rfl
      have hdrop : QL.drop turn = e :: QL.drop (turn + 1) := by rw [← hge]; exact List.drop_eq_getElem_cons htl
      have heb := hb e (by rw [← hge]; exact List.getElem_mem htl)
      have hq2 := hQ.2 turn htl (by omega)
      rw [← he] at hq2
      obtain ⟨rt, hrt2, hrt0, hrt⟩ : ∃ rt, rt < 2 ∧ (rt ≠ 0 ↔ turn = 0) ∧ br (nI turn = 0) (FX0_firstFault_97 (FX0_firstFault_67 nf kf) nf (nI turn) (nI e.1) (nI e.2) 1 fi ar ln) (FX0_firstFault_97 (FX0_firstFault_67 nf kf) nf (nI turn) (nI e.1) (nI e.2) 0 fi ar ln) = FX0_firstFault_97 (FX0_firstFault_67 nf kf) nf (nI turn) (nI e.1) (nI e.2) (nI rt) fi ar ln := by
        by_cases w : turn = 0
        · refine ⟨1, by omega, ⟨fun _ => w, fun _ => by omega⟩, ?_⟩
          rw [brT (show nI turn = 0 by rw [w]; rfl)]; rfl
        · refine ⟨0, by omega, ⟨fun w2 => absurd rfl w2, fun w2 => absurd w2 w⟩, ?_⟩
          rw [brF (show ¬ nI turn = 0 from nI_ne0 (by omega) (by omega))]; rfl
      rw [zle (by omega) (by omega), if_neg (by omega), zgd (by omega) (by omega), zgd (by omega) (by omega), nI_clamp (by omega), hq2.1, hq2.2, hrt]
      unfold FX0_firstFault_97
      have hrr : e.1 ∉ ms → (rt ≠ 0 ↔ e.1 = G.r) := by
        intro hne
        rw [hrt0]
        constructor
        · intro w
          have := (h0 w).1
          rw [he, w, this]; rfl
        · intro w
          apply Decidable.byContradiction
          intro w2
          exact hne (w ▸ h1 (by omega))
      obtain ⟨fi1, ar1, ln1, k1, s1, r, d1, d2, d3, d4, d5⟩ := directoryFault_ok (nf := nf) h hLC hLK hc hm hQ heb.1 heb.2 hrt2 hrr hnf
      rw [d1, obnd6_some, hdrop]
      have ee : e = (e.1, e.2) := rfl
      rw [ee, bfs]
      rcases d5 with ⟨w1, w2⟩ | ⟨l, w1, w2, w3⟩
      · rw [w1, w2, brF (by decide), addc_some]
        exact ⟨fi1, ar1, ln1, k1 + 0, s1 + 0, rfl, d2, d3, d4⟩
      · rw [w1]
        simp only
        by_cases qr : r = 0
        · have hz : ¬ (dirF G d l (l ++ ms) e.1 e.2).1 ≠ 0 := fun w => w (by rw [← w2]; exact qr)
          obtain ⟨y1, y2, y3⟩ := w3 qr
          obtain ⟨hl, hdis⟩ := chS_iff.mp w1
          have hn1 : (l ++ ms).Nodup := List.nodup_append.mpr ⟨lnk_nodup _ _ hl, hc.1, fun a ha b hb hab => hdis a ha (hab ▸ hb)⟩
          obtain ⟨z1, z2, z3⟩ := dirF_snd (show 1 ≤ G.c by omega) hl hn1 (Decidable.not_not.mp hz)
          have hlen1 : ms.length + 1 ≤ (dirF G d l (l ++ ms) e.1 e.2).2.1.length := by
            rw [z1.length_eq, List.length_append, List.length_append]
            have := lnk_pos hl
            omega
          rw [if_neg hz, qr, brT (show nI 0 = (0 : Int32) from rfl), bnd_eq, nI_1]
          have hW1 : CW ln1 fi1 ar1 G d := (h.off d3 d4 (by simp) (by simp)).lk (d2.off (by omega) (by omega) (by omega))
          have hmem : G.r ∈ (dirF G d l (l ++ ms) e.1 e.2).2.1 := by
            refine z1.mem_iff.mpr (List.mem_append_right _ ?_)
            by_cases w : turn = 0
            · refine List.mem_append_left _ ?_
              have := (h0 w).1
              have e1r : e.1 = G.r := by rw [he, w, this]; rfl
              rw [← e1r]; exact lnk_head hl
            · exact List.mem_append_right _ (h1 (by omega))
          have g := ih (turn + 1) kf (dirF G d l (l ++ ms) e.1 e.2).2.1 (QL ++ (dirF G d l (l ++ ms) e.1 e.2).2.2.map (fun x => (x, pz G e.1))) fi1 ar1 ln1 hW1 (hLC.gr d2 (by omega)) d2.lk y1 y2 y3 (fun x hx => by
            rcases List.mem_append.mp hx with w | w
            · exact hb x w
            · obtain ⟨y, hy, rfl⟩ := List.mem_map.mp w
              refine ⟨dirF_sub_lt hG h.1 hLC.1 (lnk_clu hl) y hy, ?_⟩
              show pz G e.1 < _
              unfold pz; split
              · decide
              · exact heb.1) (fun w => by omega) (fun _ => hmem) (by omega) (by rw [List.length_append]; omega) (by omega) (by omega)
          rw [List.drop_append_of_le_length (by omega)] at g
          obtain ⟨fi', ar', ln', kc, ks, g1, g2, g3, g4⟩ := g
          rw [g1, addc_some]
          exact ⟨fi', ar', ln', k1 + kc, s1 + ks, rfl, d2.tr g2, d3.tr g3, d4.tr g4⟩
        · have hz : (dirF G d l (l ++ ms) e.1 e.2).1 ≠ 0 := fun w => qr (by rw [w2]; exact w)
          rw [if_pos hz, ← w2]
          have hrb : r < 4294967296 := by
            rw [w2]
            have : ∀ m s ms, (scn G d (sa G l) (zf G e.1) m s ms).1 < 10 := by
              intro m
              induction m with
              | zero => intro s ms; rw [scn]; split <;> simp
              | succ m ih2 =>
                intro s ms
                rw [scn]
                split
                · split <;> simp
                · split
                  · show lf _ _ _ _ < 10
                    unfold lf
                    split
                    · split <;> decide
                    · split
                      · split
                        · split <;> decide
                        · decide
                      · split
                        · split <;> decide
                        · decide
                  · split
                    · split
                      · show 3 < 10; decide
                      · exact ih2 _ _
                    · exact ih2 _ _
            unfold dirF
            split
            · show 4 < _; decide
            · show (scn _ _ _ _ _ _ _).1 < _
              have := this (l.length * (16 * G.c) - zf G e.1) (zf G e.1) (l ++ ms)
              omega
          have hne : ¬ nI r = 0 := fun w => qr ((uI_eq (b := 0) hrb (by omega)).mp w)
          rw [brF hne, addc_some]
          unfold endC
          rw [if_pos (show r ≠ 0 from qr)]
          exact ⟨fi1, ar1, ln1, k1 + 0, s1 + 0, rfl, d2, d3, d4⟩
theorem firstFault_ok {nf : Nat} {ln : LN} {fi : FI} {ar : AR} {d : Nat → Nat} {n : Nat} (hd : CD ln ar d) (hn : fi 2 = nI n) (h1 : 256 ≤ n) (h2 : n ≤ 1024) (hLC : LNC ln n) {L : Nat} (hLK : LK ln 2 L) (hnf : 40000 ≤ nf) : ∃ fi' ar' ln' kc ks, FX0_firstFault nf fi ar ln = some (nI (fltS n d), fi', ar', ln', kc, ks) ∧ GR 2 ln ln' kc ks ∧ offF [4, 5, 6, 7, 8, 9, 10, 11, 40, 41, 42, 43, 44, 45, 62, 63] fi fi' ∧ offAs [3, 4, 5, 18, 19, 20, 21, 32, 33, 42] ar ar' ∧ (headOK n d → CG fi' (geoOf n d)) := by
  unfold FX0_firstFault fltS
  rcases FX9_readSectorZero_ok (nf := nf) hd hn h1 h2 hLC.1 with ⟨hh, fi1, a1, a2, a3⟩ | ⟨hh, a1⟩
  · rw [a1, obnd3_some, brF (by decide), if_neg (fun w => w hh)]
    have hG := hh.g h1 h2
    have b := hG.b
    have hW : CW ln fi1 ar (geoOf n d) d := ⟨hd, a2, hG, hLC.1⟩
    have o1 : offF [4, 5, 6, 7, 8, 9, 10, 11, 40, 41, 42, 43, 44, 45, 62, 63] fi fi1 := a3.mono (by simp)
    rw [hW.tablesAsTold (by omega), obnd3_some]
    by_cases ht : tabOK (geoOf n d) d
    · rw [if_pos ht, brF (by decide), if_neg (fun w => w ht)]
      have c3 := hLC.2.2.2.1
      obtain ⟨ar2, k2, r1, r2, r3, r4⟩ := clear_loop (nf := nf) (fi := fi1) (ln := ln) (by omega) (ln 3) 0 nf ar (by omega) (by omega) (fun x hx => by omega)
      have r1' : FX0_firstFault_26 nf nf 0 fi1 ar ln = _ := r1
      rw [r1', r2, bnd_eq, va_up_off (by decide)]
      have hW2 : CW ln (va_up fi1 11 (0 : Int32)) ar2 (geoOf n d) d := (hW.off offF.rf r4 (S := []) (by simp) (by simp)).upF (by simp)
      have hQ0 : QR ln (va_up fi1 11 (0 : Int32)) ar2 [] := ⟨by rw [va_up_self]; simp; rfl, fun t ht => absurd ht (by simp)⟩
      obtain ⟨fi3, ar3, e1, e2, e3, e4⟩ := enqueue_ok (nf := nf) hLC h2 hQ0 (geoOf n d).r 0
      have e1' : FX0_enqueue nf ln (va_up fi1 11 0) ar2 (fi1 4) 0 = some ((), fi3, ar3) := by rw [a2.2.1]; exact e1
      rw [e1', obnd3_some]
      have hW3 := hW2.off e3 e4 (by simp) (by simp)
      have hm3 : mkC ln ar3 [] := fun x hx => by
        rw [e4 3 (by simp), r3 x hx]
        exact ⟨fun _ => by simp, fun _ => rfl⟩
      obtain ⟨fi', ar', ln', kc, ks, g1, g2, g3, g4⟩ := ff_loop (nf := nf) (d := d) hG hnf ((geoOf n d).k + 2) 0 nf [] [((geoOf n d).r, 0)] fi3 ar3 ln hW3 hLC ⟨L, hLK⟩ hm3 ⟨List.nodup_nil, fun x hx => absurd hx (by simp)⟩ e2 (fun e he => by
        rw [List.mem_singleton.mp he]
        have := hG.2.1
        exact ⟨by show (geoOf n d).r < _; omega, by show 0 < _; omega⟩) (fun _ => ⟨rfl, rfl⟩) (fun w => by omega) (by simp) (by simp) (by omega) (by omega)
      have g1' : FX0_firstFault_67 nf nf 0 fi3 ar3 ln = _ := g1
      rw [g1', List.drop_zero]
      have oF : offF [4, 5, 6, 7, 8, 9, 10, 11, 40, 41, 42, 43, 44, 45, 62, 63] fi1 fi' := ((offF.rf.up (by simp)).tr (e3.mono (by simp))).tr (g3.mono (by simp))
      refine ⟨fi', ar', ln', kc, ks, rfl, g2, o1.tr oF, (offAs.tr (S := [3, 4, 5, 18, 19, 20, 21, 32, 33, 42]) (fun j hj => r4 j (fun w => hj (by simp at w ⊢; omega))) (fun j hj => e4 j (fun w => hj (by simp at w ⊢; omega)))).tr g4, fun _ => ?_⟩
      have : CW ln fi' ar' (geoOf n d) d := hW3.off g3 g4 (by simp) (by simp)
      exact this.2.1
    · rw [if_neg ht, brT rfl, if_pos ht]
      exact ⟨fi1, ar, ln, 0, 0, rfl, GR.rf hLK, o1, offAs.rf, fun _ => a2⟩
  · rw [a1, obnd3_some, brT rfl, if_pos hh]
    exact ⟨fi, ar, ln, 0, 0, rfl, GR.rf hLK, offF.rf, offAs.rf, fun w => absurd w hh⟩
