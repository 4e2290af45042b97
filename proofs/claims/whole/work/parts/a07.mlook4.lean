/-! the model's look -/
theorem mclear_loop {nf : Nat} {fi : FI} : ∀ (m i kf : Nat) (ar : AR), i + m = 560 → m < kf → (∀ x, x < i → ar 19 x = 0) → ∃ ar', M_look_65 nf kf (nI i) fi ar = M_look_87 nf nf (nI 0) fi ar' ∧ (∀ x, x < 560 → ar' 19 x = 0) ∧ offAs [19] ar ar' := by
  intro m
  induction m with
  | zero =>
    intro i kf ar hi hk h0
    obtain ⟨kf, rfl⟩ : ∃ k, kf = k + 1 := ⟨kf - 1, by omega⟩
    refine ⟨ar, ?_, fun x hx => h0 x (by omega), offAs.rf⟩
    rw [show M_look_65 nf (kf + 1) = M_look_65b (M_look_65 nf kf) nf from rfl]
    unfold M_look_65b
    rw [show (560 : Int32) = nI 560 from rfl, zle (by omega) (by omega), if_pos (by omega)]
    rfl
  | succ m ih =>
    intro i kf ar hi hk h0
    obtain ⟨kf, rfl⟩ : ∃ k, kf = k + 1 := ⟨kf - 1, by omega⟩
    obtain ⟨ar', r1, r2, r3⟩ := ih (i + 1) kf (va_up ar 19 (upd (ar 19) i (vp_nar .boolean 0))) (by omega) (by omega) (fun x hx => by
      rw [va_up_self]; unfold upd
      by_cases e : x = i
      · rw [if_pos e]; exact vnb0
      · rw [if_neg e]; exact h0 x (by omega))
    refine ⟨ar', ?_, r2, (offAs.rf.up (by simp)).tr r3⟩
    rw [← r1]
    rw [show M_look_65 nf (kf + 1) = M_look_65b (M_look_65 nf kf) nf from rfl]
    unfold M_look_65b
    rw [show (560 : Int32) = nI 560 from rfl, zle (by omega) (by omega), if_neg (by omega), zgd (by omega) (by omega), nI_clamp (by omega), bnd_eq, bnd_eq, nI_1]
theorem M_look_ok {nf : Nat} {fi : FI} {ar : AR} {d : Nat → Nat} {n : Nat} (hd : RD ar d) (hn : fi 0 = nI n) (h1 : 256 ≤ n) (h2 : n ≤ 1024) (h15 : fi 15 = 0) (hnf : 40000 ≤ nf) : ∃ fi' ar', M_look nf fi ar = some ((), fi', ar') ∧ fi' 15 = 1 ∧ fi' 16 = nI (fltS n d) ∧ (headOK n d → RG fi' (geoOf n d)) ∧ (fltS n d = 0 → ∃ ms, KNW fi' ar' (geoOf n d) d ms) ∧ offF [7, 8, 9, 10, 11, 12, 13, 15, 16, 17, 18, 31, 32, 33, 35, 36, 37, 38] fi fi' ∧ offAs [19, 20, 21, 22, 23, 24, 25, 26, 27, 28, 29, 30, 34] ar ar' := by
  obtain ⟨fi1, hfi1⟩ : ∃ f, f = va_up (va_up (va_up (va_up fi 15 1) 17 1) 18 0) 33 (-1) := ⟨_, rfl⟩
  have o1 : offF [7, 8, 9, 10, 11, 12, 13, 15, 16, 17, 18, 31, 32, 33, 35, 36, 37, 38] fi fi1 := by
    rw [hfi1]; exact (((offF.rf.up (by simp)).up (by simp)).up (by simp)).up (by simp)
  have f0 : fi1 0 = nI n := by rw [o1 0 (by simp)]; exact hn
  have f15 : fi1 15 = 1 := by rw [hfi1, va_up_off (by decide), va_up_off (by decide), va_up_off (by decide), va_up_self]
  have f17 : fi1 17 = nI 1 := by rw [hfi1, va_up_off (by decide), va_up_off (by decide), va_up_self]; rfl
  have f18 : fi1 18 = nI 0 := by rw [hfi1, va_up_off (by decide), va_up_self]; rfl
  have f33 : fi1 33 = -1 := by rw [hfi1, va_up_self]
  have unf : M_look nf fi ar = obnd3 (M_head nf fi1 ar) fun r42 fi40 ar41 => br ((r42) = 0) (M_look_52 nf (1) fi40 ar41) (obnd3 (M_badTables nf fi40 ar41) fun r47 fi45 ar46 => br ((r47) = 0) (M_look_52 nf (0) fi45 ar46) (M_look_52 nf (2) fi45 ar46)) := by
    unfold M_look
    rw [h15, brT rfl, bnd_eq, bnd_eq, bnd_eq, bnd_eq, ← hfi1]
  rw [unf]
  unfold fltS
  rcases M_head_ok (nf := nf) hd f0 h1 h2 with ⟨hh, fi2, a1, a2, a3⟩ | ⟨hh, fi2, a1, a3⟩
  · rw [a1, obnd3_some, brF (by decide), if_neg (fun w => w hh)]
    have hG := hh.g h1 h2
    have b := hG.b
    have hW : RW fi2 ar (geoOf n d) d := ⟨hd, a2, hG⟩
    rw [hW.badTables (by omega), obnd3_some]
    have o2 := o1.tr (a3.mono (T := [7, 8, 9, 10, 11, 12, 13, 15, 16, 17, 18, 31, 32, 33, 35, 36, 37, 38]) (by simp))
    by_cases ht : tabOK (geoOf n d) d
    · rw [if_pos ht, brT rfl, if_neg (fun w => w ht)]
      unfold M_look_52
      rw [bnd_eq, va_up_self, brT (show (0 : Int32) ≤ 0 by decide)]
      obtain ⟨ar2, r1, r2, r3⟩ := mclear_loop (nf := nf) (fi := va_up fi2 16 0) 560 0 nf ar (by omega) (by omega) (fun x hx => by omega)
      have r1' : M_look_65 nf nf 0 (va_up fi2 16 0) ar = _ := r1
      rw [r1']
      have o16 : offF [16] fi2 (va_up fi2 16 0) := offF.rf.up (by simp)
      have hLK : LKS (va_up fi2 16 0) ar2 (geoOf n d) d 0 1 0 [] := by
        refine ⟨hW.off o16 r3 (by simp) (by simp), by rw [va_up_off (by decide), a3 17 (by simp)]; exact f17, by rw [va_up_off (by decide), a3 18 (by simp)]; exact f18, by rw [va_up_self]; rfl, fun x hx => ⟨fun _ => by simp, fun _ => r2 x hx⟩, ⟨List.nodup_nil, fun x hx => absurd hx (by simp)⟩, ⟨by omega, by omega, by simp, by simp⟩, fun j j1 j2 => by omega, fun j hj => by omega, fun _ => ⟨rfl, rfl, Or.inl ⟨rfl, by rw [va_up_off (by decide), a3 33 (by simp)]; exact f33⟩⟩, fun w => by omega⟩
      obtain ⟨nf', hnf'⟩ : ∃ k, nf = k + 1 := ⟨nf - 1, by omega⟩
      obtain ⟨fi', ar', g1, g2, g3, g4, g5⟩ := look_loop (nf := nf) (d := d) hG hnf 16400 0 nf' ((geoOf n d).k + 2) 1 0 0 [] (va_up fi2 16 0) ar2 (by omega) (by omega) hLK (by simp) (by omega)
      rw [← hnf'] at g1
      have hq : qF ar2 d (geoOf n d).r 0 (1 - 0) = [((geoOf n d).r, 0)] := by
        rw [show 1 - 0 = 0 + 1 from rfl, qF_cons, if_pos (Or.inl rfl)]
        rfl
      rw [hq] at g2 g5
      have oF := (o2.tr (o16.mono (by simp))).tr (g3.mono (T := [7, 8, 9, 10, 11, 12, 13, 15, 16, 17, 18, 31, 32, 33, 35, 36, 37, 38]) (by simp))
      refine ⟨fi', ar', g1, ?_, g2, fun _ => ?_, g5, oF, offAs.tr (fun j hj => r3 j (fun w => hj (by simp at w ⊢; omega))) g4⟩
      · rw [g3 15 (by simp), va_up_off (by decide), a3 15 (by simp)]; exact f15
      · exact ((hW.off o16 r3 (by simp) (by simp)).off g3 g4 (by simp) (by simp)).2.1
    · rw [if_neg ht, brF (by decide), if_pos ht]
      unfold M_look_52
      rw [bnd_eq, va_up_self, brF (show ¬ (2 : Int32) ≤ 0 by decide)]
      refine ⟨va_up fi2 16 2, ar, rfl, by rw [va_up_off (by decide), a3 15 (by simp)]; exact f15, va_up_self _ _ _, fun _ => ?_, fun w => absurd w (by decide), o2.up (by simp), offAs.rf⟩
      exact (hW.off (offF.rf.up (S := [16]) (by simp)) offAs.rf (T := []) (by simp) (by simp)).2.1
  · rw [a1, obnd3_some, brT rfl, if_pos hh]
    unfold M_look_52
    rw [bnd_eq, va_up_self, brF (show ¬ (1 : Int32) ≤ 0 by decide)]
    refine ⟨va_up fi2 16 1, ar, rfl, by rw [va_up_off (by decide), a3 15 (by simp)]; exact f15, va_up_self _ _ _, fun w => absurd w hh, fun w => absurd w (by decide), (o1.tr (a3.mono (by simp))).up (by simp), offAs.rf⟩
