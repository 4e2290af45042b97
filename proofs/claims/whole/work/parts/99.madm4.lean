/-! the model's taking up of an item -/
theorem PD.units {fi : FI} {ar : AR} {d A : Nat → Nat} {s np : Nat} (h : PD fi ar d A s np) (hnp : 0 < np) (hnps : np ≤ s) : ∃ T sum, pdOK d A s np T sum ∧ sum < 256 ∧ fi 37 = nI (T - np) ∧ fi 35 = nI (13 * T) ∧ fi 38 = nI sum ∧ (T = np → ∀ u, u < 13 * np → ar 34 u = nI (nU d A s u)) := by
  obtain ⟨T, sum, a1, a2, a3, a4, a5, a6⟩ := h.2 hnp
  refine ⟨T, sum, a1, a2, a3, a4, a5, fun hT u hu => ?_⟩
  have := a6 (np - 1 - u / 13) (by omega) (u % 13) (Nat.mod_lt _ (by decide))
  rw [hT, show 13 * (np - 1 - (np - 1 - u / 13)) + u % 13 = u by omega, show s - np + (np - 1 - u / 13) = s - 1 - u / 13 by omega] at this
  exact this
theorem admit200 {nf : Nat} {fi : FI} {ar : AR} {G : Geo} {d A : Nat → Nat} {b i s np U : Nat} {its : List (Nat × Nat)} {ms : List Nat} (hX : MX fi ar G d A b i its U ms) (hN : MN fi ar (nm d A s np)) (h36 : fi 36 = nI np) (hp : A s + 32 ≤ 524288) (hs : s < 65536) (hi : i < 16400) (hb : b + its.length < 16400) (hU : U + 260 ≤ 213600) (hnb : (nm d A s np).length ≤ 260 ∧ ∀ x, x ∈ nm d A s np → x < 65536) (hits : ∀ e, e ∈ its → A e.1 + 32 ≤ 524288 ∧ (nm d A e.1 e.2).length ≤ 260 ∧ ∀ x, x ∈ nm d A e.1 e.2 → x < 65536) (hnf : 20000 ≤ nf) : ∃ fi' ar' r, M_admit_200 nf (nI (A s)) (nI i) (nI s) (nI (d (A s + 11))) 0 fi ar = some (nI r, fi', ar') ∧ offF [17, 18, 31, 36] fi fi' ∧ offAs [19, 20, 21, 22, 23, 24, 26, 27, 28, 29] ar ar' ∧ KP i b U ar ar' ∧ ((r = 5 ∧ ∃ e, e ∈ its ∧ twn d A s np e) ∨ ((¬ ∃ e, e ∈ its ∧ twn d A s np e) ∧ ADM G d A b i s np its U ms r fi' ar')) := by
  obtain ⟨h1, h2, h17, h18, h25, h24, hm, hc⟩ := hX
  obtain ⟨r, t1, t2⟩ := M_isTaken_eq (nf := nf) hi h2 (by omega) (by omega) h25 h24 hN hnb.2 hnb.1 (fun e he => (hits e he).2) hnf
  unfold M_admit_200
  rw [brT rfl, t1, obnd3_some]
  rcases t2 with ⟨rfl, t2⟩ | ⟨rfl, t2⟩
  · rw [brF (by decide)]
    obtain ⟨e, he, hw⟩ := t2
    exact ⟨fi, ar, 5, rfl, offF.rf, offAs.rf, KP.rf, Or.inl ⟨rfl, e, he, Or.inr hw.symm⟩⟩
  · rw [brT (show nI 0 = (0 : Int32) from rfl), zgd (by omega) (by omega), nI_clamp (by omega), h25, bnd_eq]
    have sl := short_loop (nf := nf) (fi := fi) (x2 := nI i) (x3 := nI s) (x4 := nI (d (A s + 11))) h1.1 hp h2 (by omega) h17 (fun e he => (hits e he).1) (by omega) its.length 0 nf (by omega) (by omega)
    have hiff : (∃ t, t < its.length ∧ 0 ≤ t ∧ sm11 d (A (its.getD t (0, 0)).1) (A s)) ↔ ∃ e, e ∈ its ∧ sm11 d (A s) (A e.1) := by
      constructor
      · rintro ⟨t, a, _, c⟩
        refine ⟨its.getD t (0, 0), ?_, fun i hi => (c i hi).symm⟩
        rw [List.getD_eq_getElem?_getD, List.getElem?_eq_getElem a]; exact List.getElem_mem a
      · rintro ⟨e, he, c⟩
        obtain ⟨t, ht, rfl⟩ := List.getElem_of_mem he
        refine ⟨t, ht, Nat.zero_le _, ?_⟩
        rw [List.getD_eq_getElem?_getD, List.getElem?_eq_getElem ht]; exact fun i hi => (c i hi).symm
    by_cases q : ∃ e, e ∈ its ∧ sm11 d (A s) (A e.1)
    · have sl1 : M_admit_225 nf nf (nI (A s)) (nI i) (nI s) (nI (d (A s + 11))) (nI b) fi ar = _ := sl.1 (hiff.mpr q)
      rw [sl1]
      obtain ⟨e, he, hw⟩ := q
      exact ⟨fi, ar, 5, rfl, offF.rf, offAs.rf, KP.rf, Or.inl ⟨rfl, e, he, Or.inl hw⟩⟩
    · obtain ⟨k, hk⟩ := sl.2 (fun w => q (hiff.mp w))
      have hk' : M_admit_225 nf nf (nI (A s)) (nI i) (nI s) (nI (d (A s + 11))) (nI b) fi ar = _ := hk
      rw [hk']
      obtain ⟨ar1, har1⟩ : ∃ a, a = va_up (va_up (va_up (va_up (va_up (va_up ar 20 (upd (ar 20) (b + its.length) (nI (A s)))) 21 (upd (ar 21) (b + its.length) (nI s))) 22 (upd (ar 22) (b + its.length) (nI np))) 23 (upd (ar 23) (b + its.length) (nI i))) 26 (upd (ar 26) (b + its.length) (nI U))) 27 (upd (ar 27) (b + its.length) (nI (nm d A s np).length)) := ⟨_, rfl⟩
      have o1 : offAs [20, 21, 22, 23, 26, 27] ar ar1 := by
        rw [har1]
        exact (((((offAs.rf.up (by simp)).up (by simp)).up (by simp)).up (by simp)).up (by simp)).up (by simp)
      have hN1 : MN fi ar1 (nm d A s np) := ⟨hN.1, fun x hx => by rw [o1 34 (by simp)]; exact hN.2 x hx⟩
      obtain ⟨ar2, c1, c2, c3, c4⟩ := copy_loop (nf := nf) (x1 := nI (A s)) (x2 := nI i) (x4 := nI (d (A s + 11))) h18 (by omega) hnb.1 hnb.2 (nm d A s np).length 0 nf ar1 hN1 (by omega) (by omega) (fun x hx => by omega)
      have hkeep : ∀ k, k ∈ [20, 21, 22, 23, 26, 27] → ∀ j, j ≠ b + its.length → ar2 k j = ar k j := by
        intro k hk j hj
        rw [c4 k (by simp at hk ⊢; omega), har1]
        simp only [List.mem_cons, List.not_mem_nil, or_false] at hk
        rcases hk with rfl | rfl | rfl | rfl | rfl | rfl
        · rw [va_up_off (by decide), va_up_off (by decide), va_up_off (by decide), va_up_off (by decide), va_up_off (by decide), va_up_self]; unfold upd; rw [if_neg hj]
        · rw [va_up_off (by decide), va_up_off (by decide), va_up_off (by decide), va_up_off (by decide), va_up_self]; unfold upd; rw [if_neg hj]
        · rw [va_up_off (by decide), va_up_off (by decide), va_up_off (by decide), va_up_self]; unfold upd; rw [if_neg hj]
        · rw [va_up_off (by decide), va_up_off (by decide), va_up_self]; unfold upd; rw [if_neg hj]
        · rw [va_up_off (by decide), va_up_self]; unfold upd; rw [if_neg hj]
        · rw [va_up_self]; unfold upd; rw [if_neg hj]
      have hM2 : MIT ar2 d A b i (its ++ [(s, np)]) (U + (nm d A s np).length) := by
        refine h2.push (ar' := ar2) (by omega) (fun k hk j hj => ?_) (fun j hj => ?_) ?_ ?_ ?_ ?_ ⟨U, ?_, ?_, Nat.le_refl _, c2⟩
        · exact hkeep k hk j hj
        · rw [c3 j hj, o1 28 (by simp)]
        · rw [c4 20 (by simp), har1, va_up_off (by decide), va_up_off (by decide), va_up_off (by decide), va_up_off (by decide), va_up_off (by decide), va_up_self]; unfold upd; rw [if_pos rfl]
        · rw [c4 21 (by simp), har1, va_up_off (by decide), va_up_off (by decide), va_up_off (by decide), va_up_off (by decide), va_up_self]; unfold upd; rw [if_pos rfl]
        · rw [c4 22 (by simp), har1, va_up_off (by decide), va_up_off (by decide), va_up_off (by decide), va_up_self]; unfold upd; rw [if_pos rfl]
        · rw [c4 23 (by simp), har1, va_up_off (by decide), va_up_off (by decide), va_up_self]; unfold upd; rw [if_pos rfl]
        · rw [c4 26 (by simp), har1, va_up_off (by decide), va_up_self]; unfold upd; rw [if_pos rfl]
        · rw [c4 27 (by simp), har1, va_up_self]; unfold upd; rw [if_pos rfl]
      have o12 : offAs [20, 21, 22, 23, 26, 27, 28] ar ar2 := offAs.tr (fun j hj => o1 j (fun w => hj (by simp at w ⊢; omega))) (fun j hj => c4 j (fun w => hj (by simp at w ⊢; omega)))
      obtain ⟨fi', ar', r, a1, a2, a3, a5, a4⟩ := admT_ok (nf := nf) (h1.off offF.rf o12 (S := []) (by simp) (by simp)) (hm.off o12 (by simp)) hc hM2 h17 h18 hN.1 (by rw [o12 25 (by simp)]; exact h25) (by rw [o12 24 (by simp)]; exact h24) hi hp (by omega)
      refine ⟨fi', ar', r, ?_, a2, offAs.tr (fun j hj => o12 j (fun w => hj (by simp at w ⊢; omega))) (fun j hj => a3 j (fun w => hj (by simp at w ⊢; omega))), ⟨fun k hk j hj => ?_, fun j hj => ?_, fun j hj => ?_⟩, Or.inr ⟨fun w => ?_, a4⟩⟩
      · rw [← a1, ← c1]
        unfold M_admit_225b
        rw [h17, zle (by omega) (by omega), if_pos (Nat.le_refl _), zgd (by omega) (by omega), nI_clamp (by omega), bnd_eq]
        have gx : ∀ (X : Option (Int32 × FI × AR)), gd (¬ (nI (b + its.length) < 0 ∨ 16400 ≤ b + its.length)) X = X := fun X => zgdc (by omega) (by omega)
        rw [gx, bnd_eq, gx, bnd_eq, gx, bnd_eq, gx, bnd_eq, gx, bnd_eq, h36, h18, hN.1]
        rw [va_up_off (f := ar) (show 21 ≠ 20 by decide)]
        rw [har1]
        rfl
      · rw [a3 k (by simp at hk ⊢; omega)]; exact hkeep k hk j (by omega)
      · rw [a3 28 (by simp), c3 j hj, o1 28 (by simp)]
      · rw [a5 j hj, o12 24 (by simp)]
      · obtain ⟨e, he, hw⟩ := w
        rcases hw with hw | hw
        · exact q ⟨e, he, hw⟩
        · exact t2 ⟨e, he, hw.symm⟩
