/-! the class opens a chain -/
theorem va_up_off {α : Type} {f : Nat → α} {k : Nat} {v : α} {j : Nat} (h : j ≠ k) : va_up f k v j = f j := va_up_ne _ _ h
theorem open_loop {nf : Nat} {ln : LN} {G : Geo} {d : Nat → Nat} {i0 : Nat} (hi : i0 < 3) : ∀ (l2 l1 : List Nat) (x kf : Nat) (fi : FI) (ar : AR), CW ln fi ar G d → (lnk G d x l2 ∨ (l2 = [] ∧ ¬ isC G x)) → x < 4294967296 → l2.length < kf → fi (23 + 10 * i0) = nI l1.length → (∀ j, j < l1.length → ar (10 + 4 * i0) j = nI (pl G (l1.getD j 0))) → l1.length + l2.length ≤ ln (10 + 4 * i0) → ln (10 + 4 * i0) ≤ 512 → fi (24 + 10 * i0) = nI (l1.getD (l1.length - 1) 0) → ∃ fi' ar', FX2_openChain_17 nf ln i0 kf (nI x) fi ar = some ((), fi', ar') ∧ DC fi' ar' i0 G (l1 ++ l2) ∧ fi' (22 + 10 * i0) = nI ((l1 ++ l2).length * (16 * G.c)) ∧ offF [21 + 10 * i0, 22 + 10 * i0, 23 + 10 * i0, 24 + 10 * i0, 25 + 10 * i0] fi fi' ∧ offA (10 + 4 * i0) ar ar' := by
  intro l2
  induction l2 with
  | nil =>
    intro l1 x kf fi ar h hx hxb hk h23 hj hle hln h24
    have b := h.2.2.1.b
    have hc := h.2.2.1.1.1
    have hx0 : ¬ isC G x := hx.elim (fun q => absurd q (by simp [lnk])) (fun q => q.2)
    obtain ⟨kf, rfl⟩ : ∃ k, kf = k + 1 := ⟨kf - 1, by omega⟩
    have hS : l1.length * (16 * G.c) ≤ 512 * 128 := Nat.mul_le_mul (by simp only [List.length_nil] at hle; omega) (by omega)
    have fin : ∃ fi' ar', FX2_openChain_84 nf ln i0 fi ar = some ((), fi', ar') ∧ DC fi' ar' i0 G (l1 ++ []) ∧ fi' (22 + 10 * i0) = nI ((l1 ++ []).length * (16 * G.c)) ∧ offF [21 + 10 * i0, 22 + 10 * i0, 23 + 10 * i0, 24 + 10 * i0, 25 + 10 * i0] fi fi' ∧ offA (10 + 4 * i0) ar ar' := by
      unfold FX2_openChain_84 FX9_slotShift
      have g6 := h.2.1.2.2.2.1
      rw [g6]
      refine ⟨_, _, by simp (disch := first | omega | decide) only [zlt, zle, zeq, zltl, zllt, zlel, zlle, zeql, zll, ↓zlt, ↓zle, ↓zeq, ↓zltl, ↓zllt, ↓zlel, ↓zlle, ↓zeql, ↓zll, ↓if_pos, ↓if_neg, if_pos, if_neg, ↓zgd, zgd, zgdc, ↓zgd0, zgd0c, zcl0, ↓zbit, zbitc, ↓zbit1, ↓zbit0, nI_clamp, zaddl, zladd, zsubl, zlsub, zmull, zlmul, zdivl, nI_1, nI_add, nI_mulL, zand1, zand3, zand15, zand31, zand63, zand255, zand65535, zshr1, zshl7, zshl8, zshl9, zbit8, zbit16, ↓bnd_eq, bnd_eq, obnd_some, obnd3_some, obnd6_some]; rfl, ?_, ?_, ?_, offA.rf⟩
      · rw [List.append_nil]
        refine ⟨?_, ?_, ?_, hj, ?_⟩
        · rw [va_up_off (by omega), va_up_off (by omega), va_up_off (by omega)]; exact h23
        · rw [va_up_off (by omega), va_up_self, va_up_off (by omega), va_up_self, h23]
          exact shl4 hc (by omega)
        · rw [va_up_off (by omega), va_up_off (by omega), va_up_self]
        · rw [va_up_off (by omega), va_up_off (by omega), va_up_off (by omega)]; exact h24
      · rw [List.append_nil, va_up_self, va_up_self, va_up_off (by omega), va_up_self, h23]
        exact shl4 hc (by omega)
      · exact (((offF.rf.up (by simp)).up (by simp)).up (by simp))
    show ∃ fi' ar', FX2_openChain_17b _ nf _ _ _ _ _ = some ((), fi', ar') ∧ _
    unfold FX2_openChain_17b
    rw [h23]
    have e0 : Int32.ofNat (ln (10 + 4 * i0)) = nI (ln (10 + 4 * i0)) := rfl
    simp only [List.length_nil] at hle
    by_cases q : ln (10 + 4 * i0) ≤ l1.length
    · rw [e0, zle (by omega) (by omega), if_pos q]; exact fin
    · rw [e0, zle (by omega) (by omega), if_neg q, h.isC hxb, obnd3_some, if_neg hx0, brT rfl]; exact fin
  | cons y l2 ih =>
    intro l1 x kf fi ar h hx hxb hk h23 hj hle hln h24
    have b := h.2.2.1.b
    obtain ⟨kf, rfl⟩ : ∃ k, kf = k + 1 := ⟨kf - 1, by omega⟩
    have hl : lnk G d x (y :: l2) := hx.elim id (fun q => absurd q.1 (by simp))
    obtain ⟨rfl, hc, hn⟩ := hl
    simp only [List.length_cons] at hle hk
    have e0 : Int32.ofNat (ln (10 + 4 * i0)) = nI (ln (10 + 4 * i0)) := rfl
    have he := ent_lt G d x
    obtain ⟨fi1, hfi1⟩ : ∃ f, f = va_up (va_up fi (23 + 10 * i0) (nI (l1.length + 1))) (24 + 10 * i0) (nI x) := ⟨_, rfl⟩
    obtain ⟨ar1, har1⟩ : ∃ a, a = va_up ar (10 + 4 * i0) (upd (ar (10 + 4 * i0)) l1.length (nI (pl G x))) := ⟨_, rfl⟩
    have hW : CW ln fi1 ar1 G d := by
      rw [hfi1, har1]
      exact ((h.upF (by simp; omega)).upF (by simp; omega)).upA (by omega)
    have hnx : lnk G d (ent G d x) l2 ∨ (l2 = [] ∧ ¬ isC G (ent G d x)) := by
      rcases hn with ⟨q1, q2⟩ | ⟨q1, q2, q3⟩
      · exact Or.inr ⟨q1, fun w => by omega⟩
      · exact Or.inl q3
    obtain ⟨fi', ar', r1, r2, r3, r4, r5⟩ := ih (l1 ++ [x]) (ent G d x) kf fi1 ar1 hW hnx (by omega) (by omega) (by rw [hfi1, va_up_off (by omega), va_up_self, List.length_append]; rfl) (fun j hjl => by
      rw [har1, va_up_self]
      unfold upd
      rw [List.length_append] at hjl
      simp only [List.length_cons, List.length_nil] at hjl
      by_cases e : j = l1.length
      · rw [if_pos e, e]; simp
      · rw [if_neg e, hj j (by omega)]
        congr 2
        rw [List.getD_eq_getElem?_getD, List.getD_eq_getElem?_getD, List.getElem?_append_left (by omega)]) (by rw [List.length_append]; simp only [List.length_cons, List.length_nil]; omega) hln (by rw [hfi1, va_up_self]; simp)
    rw [List.append_assoc] at r2 r3
    refine ⟨fi', ar', ?_, r2, r3, ?_, fun j hj2 => by rw [r5 j hj2, har1, va_up_ne _ _ hj2]⟩
    · show FX2_openChain_17b _ nf _ _ _ _ _ = _
      unfold FX2_openChain_17b
      rw [h23, e0, zle (by omega) (by omega), if_neg (by omega), h.isC hxb, obnd3_some, if_pos hc, brF (by decide), addressOf_eq h hc, obnd3_some, h23, zgd (by omega) (by omega), nI_clamp (by omega), bnd_eq, nI_1, bnd_eq, bnd_eq, ← hfi1, ← har1, hW.next (by omega), obnd3_some]
      exact r1
    · refine offF.tr ?_ r4
      rw [hfi1]
      exact (offF.rf.up (by simp)).up (by simp)
theorem openChain_ok {nf : Nat} {ln : LN} {fi : FI} {ar : AR} {G : Geo} {d : Nat → Nat} {i0 f : Nat} {l : List Nat} (hi : i0 < 3) (h : CW ln fi ar G d) (hl : lnk G d f l) (hln : ln (10 + 4 * i0) = G.n / 2) (hnf : 1000 ≤ nf) : ∃ fi' ar', FX2_openChain nf ln i0 fi ar (nI f) = some ((), fi', ar') ∧ DC fi' ar' i0 G l ∧ fi' (20 + 10 * i0) = nI 0 ∧ fi' (22 + 10 * i0) = nI (l.length * (16 * G.c)) ∧ offF [20 + 10 * i0, 21 + 10 * i0, 22 + 10 * i0, 23 + 10 * i0, 24 + 10 * i0, 25 + 10 * i0] fi fi' ∧ offA (10 + 4 * i0) ar ar' := by
  have b := h.2.2.1.b
  have hkl := (lnk_clu hl).len
  have hkn : G.k ≤ G.n / 2 := by
    have : G.k * 2 ≤ G.k * G.c := Nat.mul_le_mul_left _ (by omega)
    omega
  have hfb : isC G f := lnk_isC _ _ hl f (lnk_head hl)
  have hW : CW ln (va_up (va_up (va_up fi (20 + 10 * i0) (nI 0)) (23 + 10 * i0) (nI 0)) (24 + 10 * i0) (nI 0)) ar G d := ((h.upF (by simp; omega)).upF (by simp; omega)).upF (by simp; omega)
  obtain ⟨fi', ar', r1, r2, r3, r4, r5⟩ := open_loop (nf := nf) hi l [] f nf _ ar hW (Or.inl hl) (by omega) (by omega) (by rw [va_up_off (by omega), va_up_self]; rfl) (fun j hj => absurd hj (by simp)) (by simp only [List.length_nil]; omega) (by omega) (by rw [va_up_self]; rfl)
  refine ⟨fi', ar', r1, r2, ?_, r3, ?_, r5⟩
  · rw [r4 (20 + 10 * i0) (by simp), va_up_off (by omega), va_up_off (by omega), va_up_self]
  · refine offF.tr (((offF.rf.up (k := 20 + 10 * i0) (v := nI 0) (by simp)).up (k := 23 + 10 * i0) (v := nI 0) (by simp)).up (k := 24 + 10 * i0) (v := nI 0) (by simp)) (r4.mono (fun j hj => by simp at hj ⊢; omega))
