/-! the model's names -/
theorem zchar {v : Nat} (h : v < 65536) : vp_nar .char (((nI v).toUInt32 % 65536).toInt32) = nI v := by
  have e : ((nI v).toUInt32 % 65536).toInt32 = nI v := by
    rw [pk_char, show (nI v).toBitVec.toNat = v from uv_nI (by omega), Nat.mod_eq_of_lt h]
  rw [vp_nar_char, e]
  apply uv_inj
  show ((nI v).toUInt32.toUInt16.toUInt32).toNat = uv (nI v)
  rw [UInt16.toNat_toUInt32, UInt32.toNat_toUInt16]
  show uv (nI v) % 65536 = uv (nI v)
  rw [uv_nI (by omega)]
  omega
theorem zchar46 : vp_nar .char (46 : Int32) = nI 46 := by decide
/-- the model's name is l -/
def MN (fi : FI) (ar : AR) (l : List Nat) : Prop := fi 35 = nI l.length ∧ ∀ i, i < l.length → ar 34 i = nI (l.getD i 0)
theorem MN.push {fi : FI} {ar : AR} {l : List Nat} (h : MN fi ar l) (x : Nat) : MN (va_up fi 35 (nI (l.length + 1))) (va_up ar 34 (upd (ar 34) l.length (nI x))) (l ++ [x]) := by
  refine ⟨by rw [va_up_self, List.length_append]; rfl, fun i hi => ?_⟩
  rw [va_up_self, getD_app1]
  unfold upd
  rw [List.length_append] at hi
  simp only [List.length_cons, List.length_nil] at hi
  by_cases e : i = l.length
  · rw [if_pos e, if_pos e]
  · rw [if_neg e, if_neg e]; exact h.2 i (by omega)
theorem shown_loop {nf : Nat} {d : Nat → Nat} {p : Nat} (hp : p + 32 ≤ 524288) : ∀ (m i kf : Nat) (fi : FI) (ar : AR), RD ar d → i + m = 11 → m < kf → MN fi ar (shw d p i) → ∃ fi' ar', M_shown_7 nf kf (nI p) (nI i) fi ar = some ((), fi', ar') ∧ MN fi' ar' (shw d p 11) ∧ offF [35] fi fi' ∧ offA 34 ar ar' := by
  intro m
  induction m with
  | zero =>
    intro i kf fi ar hd hi hk hN
    obtain ⟨kf, rfl⟩ : ∃ k, kf = k + 1 := ⟨kf - 1, by omega⟩
    have e11 : i = 11 := by omega
    subst e11
    refine ⟨fi, ar, ?_, hN, offF.rf, offA.rf⟩
    rw [show M_shown_7 nf (kf + 1) = M_shown_7b (M_shown_7 nf kf) nf from rfl]
    unfold M_shown_7b
    simp (disch := first | omega | decide) only [zlt, zle, zeq, zltl, zllt, zlel, zlle, zeql, zll, ↓zlt, ↓zle, ↓zeq, ↓zltl, ↓zllt, ↓zlel, ↓zlle, ↓zeql, ↓zll, ↓if_pos, ↓if_neg, if_pos, if_neg, ↓zgd, zgd, zgdc, ↓zgd0, zgd0c, zcl0, ↓zbit, zbitc, ↓zbit1, ↓zbit0, nI_clamp, zaddl, zladd, zsubl, zlsub, zmull, zlmul, zdivl, nI_1, nI_add, nI_mulL, zand1, zand3, zand15, zand31, zand63, zand255, zand65535, zshr1, zshl7, zshl8, zshl9, zbit8, zbit16, ↓bnd_eq, bnd_eq, obnd_some, obnd3_some, obnd6_some]
  | succ m ih =>
    intro i kf fi ar hd hi hk hN
    obtain ⟨kf, rfl⟩ : ∃ k, kf = k + 1 := ⟨kf - 1, by omega⟩
    have h1 := hd.lt (show p + i < 524288 by omega)
    have hlen := shw_len d p i
    have hlen2 : (shw d p i).length ≤ 11 := by split at hlen <;> omega
    have k53 : ∀ (fi1 : FI) (ar1 : AR) (l : List Nat), RD ar1 d → MN fi1 ar1 l → l.length ≤ 12 → shw d p (i + 1) = l ++ (if d (p + i) = 32 then [] else [d (p + i)]) → ∃ fi' ar', M_shown_53 (M_shown_7 nf kf) nf (nI p) (nI i) fi1 ar1 = some ((), fi', ar') ∧ MN fi' ar' (shw d p 11) ∧ offF [35] fi1 fi' ∧ offA 34 ar1 ar' := by
      intro fi1 ar1 l hd1 hN1 hl hsh
      unfold M_shown_53 M_shown_95
      by_cases q : d (p + i) = 32
      · rw [if_pos q, List.append_nil] at hsh
        obtain ⟨fi', ar', r1, r2, r3, r4⟩ := ih (i + 1) kf fi1 ar1 hd1 (by omega) (by omega) (by rw [hsh]; exact hN1)
        refine ⟨fi', ar', ?_, r2, r3, r4⟩
        simp (disch := first | omega | decide) only [zlt, zle, zeq, zltl, zllt, zlel, zlle, zeql, zll, ↓zlt, ↓zle, ↓zeq, ↓zltl, ↓zllt, ↓zlel, ↓zlle, ↓zeql, ↓zll, ↓if_pos, ↓if_neg, if_pos, if_neg, ↓zgd, zgd, zgdc, ↓zgd0, zgd0c, zcl0, ↓zbit, zbitc, ↓zbit1, ↓zbit0, nI_clamp, zaddl, zladd, zsubl, zlsub, zmull, zlmul, zdivl, nI_1, nI_add, nI_mulL, zand1, zand3, zand15, zand31, zand63, zand255, zand65535, zshr1, zshl7, zshl8, zshl9, zbit8, zbit16, ↓bnd_eq, bnd_eq, obnd_some, obnd3_some, obnd6_some, M_one_eq hd1]
        exact r1
      · rw [if_neg q] at hsh
        obtain ⟨fi', ar', r1, r2, r3, r4⟩ := ih (i + 1) kf _ _ (hd1.up (k := 34) (by omega)) (by omega) (by omega) (by rw [hsh]; exact hN1.push (d (p + i)))
        refine ⟨fi', ar', ?_, r2, (offF.rf.up (by simp)).tr r3, fun k hk => by rw [r4 k hk, va_up_ne _ _ hk]⟩
        simp (disch := first | omega | decide) only [zlt, zle, zeq, zltl, zllt, zlel, zlle, zeql, zll, ↓zlt, ↓zle, ↓zeq, ↓zltl, ↓zllt, ↓zlel, ↓zlle, ↓zeql, ↓zll, ↓if_pos, ↓if_neg, if_pos, if_neg, ↓zgd, zgd, zgdc, ↓zgd0, zgd0c, zcl0, ↓zbit, zbitc, ↓zbit1, ↓zbit0, nI_clamp, zaddl, zladd, zsubl, zlsub, zmull, zlmul, zdivl, nI_1, nI_add, nI_mulL, zand1, zand3, zand15, zand31, zand63, zand255, zand65535, zshr1, zshl7, zshl8, zshl9, zbit8, zbit16, ↓bnd_eq, bnd_eq, obnd_some, obnd3_some, obnd6_some, M_one_eq hd1, hN1.1, zchar]
        exact r1
    by_cases e8 : i = 8 ∧ d (p + 8) ≠ 32
    · have hi8 := e8.1
      have q8 : d (p + 8) ≠ 32 := e8.2
      have h8 := hd.lt (show p + 8 < 524288 by omega)
      obtain ⟨fi', ar', r1, r2, r3, r4⟩ := k53 _ _ _ (hd.up (k := 34) (by omega)) (hN.push 46) (by rw [List.length_append]; simp only [List.length_cons, List.length_nil]; omega) (by rw [shw, if_pos e8, List.append_assoc])
      refine ⟨fi', ar', ?_, r2, (offF.rf.up (by simp)).tr r3, fun k hk => by rw [r4 k hk, va_up_ne _ _ hk]⟩
      rw [show M_shown_7 nf (kf + 1) = M_shown_7b (M_shown_7 nf kf) nf from rfl]
      unfold M_shown_7b
      simp (disch := first | omega | decide) only [zlt, zle, zeq, zltl, zllt, zlel, zlle, zeql, zll, ↓zlt, ↓zle, ↓zeq, ↓zltl, ↓zllt, ↓zlel, ↓zlle, ↓zeql, ↓zll, ↓if_pos, ↓if_neg, if_pos, if_neg, ↓zgd, zgd, zgdc, ↓zgd0, zgd0c, zcl0, ↓zbit, zbitc, ↓zbit1, ↓zbit0, nI_clamp, zaddl, zladd, zsubl, zlsub, zmull, zlmul, zdivl, nI_1, nI_add, nI_mulL, zand1, zand3, zand15, zand31, zand63, zand255, zand65535, zshr1, zshl7, zshl8, zshl9, zbit8, zbit16, ↓bnd_eq, bnd_eq, obnd_some, obnd3_some, obnd6_some, M_one_eq hd, hN.1, zchar46]
      exact r1
    · obtain ⟨fi', ar', r1, r2, r3, r4⟩ := k53 fi ar (shw d p i) hd hN (by omega) (by rw [shw, if_neg e8, List.nil_append])
      refine ⟨fi', ar', ?_, r2, r3, r4⟩
      rw [show M_shown_7 nf (kf + 1) = M_shown_7b (M_shown_7 nf kf) nf from rfl]
      unfold M_shown_7b
      by_cases hi8 : i = 8
      · have q8 : d (p + 8) = 32 := by
          apply Decidable.byContradiction
          intro q
          exact e8 ⟨hi8, q⟩
        have h8 := hd.lt (show p + 8 < 524288 by omega)
        simp (disch := first | omega | decide) only [zlt, zle, zeq, zltl, zllt, zlel, zlle, zeql, zll, ↓zlt, ↓zle, ↓zeq, ↓zltl, ↓zllt, ↓zlel, ↓zlle, ↓zeql, ↓zll, ↓if_pos, ↓if_neg, if_pos, if_neg, ↓zgd, zgd, zgdc, ↓zgd0, zgd0c, zcl0, ↓zbit, zbitc, ↓zbit1, ↓zbit0, nI_clamp, zaddl, zladd, zsubl, zlsub, zmull, zlmul, zdivl, nI_1, nI_add, nI_mulL, zand1, zand3, zand15, zand31, zand63, zand255, zand65535, zshr1, zshl7, zshl8, zshl9, zbit8, zbit16, ↓bnd_eq, bnd_eq, obnd_some, obnd3_some, obnd6_some, M_one_eq hd]
        exact r1
      · simp (disch := first | omega | decide) only [zlt, zle, zeq, zltl, zllt, zlel, zlle, zeql, zll, ↓zlt, ↓zle, ↓zeq, ↓zltl, ↓zllt, ↓zlel, ↓zlle, ↓zeql, ↓zll, ↓if_pos, ↓if_neg, if_pos, if_neg, ↓zgd, zgd, zgdc, ↓zgd0, zgd0c, zcl0, ↓zbit, zbitc, ↓zbit1, ↓zbit0, nI_clamp, zaddl, zladd, zsubl, zlsub, zmull, zlmul, zdivl, nI_1, nI_add, nI_mulL, zand1, zand3, zand15, zand31, zand63, zand255, zand65535, zshr1, zshl7, zshl8, zshl9, zbit8, zbit16, ↓bnd_eq, bnd_eq, obnd_some, obnd3_some, obnd6_some, M_one_eq hd]
        exact r1
theorem M_shown_ok {nf : Nat} {fi : FI} {ar : AR} {d : Nat → Nat} {p : Nat} (hd : RD ar d) (hp : p + 32 ≤ 524288) (hnf : 20 ≤ nf) : ∃ fi' ar', M_shown nf fi ar (nI p) = some ((), fi', ar') ∧ MN fi' ar' (shw d p 11) ∧ offF [35] fi fi' ∧ offA 34 ar ar' := by
  obtain ⟨fi', ar', r1, r2, r3, r4⟩ := shown_loop (nf := nf) hp 11 0 nf (va_up fi 35 (nI 0)) ar hd (by omega) (by omega) ⟨va_up_self _ _ _, fun i hi => absurd hi (by simp [shw])⟩
  exact ⟨fi', ar', r1, r2, (offF.rf.up (by simp)).tr r3, r4⟩
theorem M_isName_loop {nf : Nat} {fi : FI} {ar : AR} {l : List Nat} (hN : MN fi ar l) (hl : ∀ x, x ∈ l → x < 65536) (h1 : 1 ≤ l.length) (h2 : l.length ≤ 255) (hnf : 20 ≤ nf) : ∀ (m i kf : Nat), i + m = l.length → m < kf → M_isName_26 nf kf 1 (nI i) fi ar = some ((if (∀ t, t < l.length → i ≤ t → uok (l.getD t 0)) ∧ l.getD (l.length - 1) 0 ≠ 32 ∧ l.getD (l.length - 1) 0 ≠ 46 then 1 else 0), fi, ar) := by
  have hb : ∀ t, t < l.length → l.getD t 0 < 65536 := fun t ht => by
    rw [List.getD_eq_getElem?_getD, List.getElem?_eq_getElem ht]
    exact hl _ (List.getElem_mem ht)
  intro m
  induction m with
  | zero =>
    intro i kf hi hk
    obtain ⟨kf, rfl⟩ : ∃ k, kf = k + 1 := ⟨kf - 1, by omega⟩
    have hb1 := hb (l.length - 1) (by omega)
    have e1 := hN.2 (l.length - 1) (by omega)
    have hall : ∀ t, t < l.length → i ≤ t → uok (l.getD t 0) := fun t a b => by omega
    rw [show M_isName_26 nf (kf + 1) = M_isName_26b (M_isName_26 nf kf) nf from rfl]
    unfold M_isName_26b M_isName_103 M_isName_143 M_isName_144
    by_cases q1 : l.getD (l.length - 1) 0 = 32
    · rw [if_neg (fun w => w.2.1 q1)]
      simp (disch := first | omega | decide) only [zlt, zle, zeq, zltl, zllt, zlel, zlle, zeql, zll, ↓zlt, ↓zle, ↓zeq, ↓zltl, ↓zllt, ↓zlel, ↓zlle, ↓zeql, ↓zll, ↓if_pos, ↓if_neg, if_pos, if_neg, ↓zgd, zgd, zgdc, ↓zgd0, zgd0c, zcl0, ↓zbit, zbitc, ↓zbit1, ↓zbit0, nI_clamp, zaddl, zladd, zsubl, zlsub, zmull, zlmul, zdivl, nI_1, nI_add, nI_mulL, zand1, zand3, zand15, zand31, zand63, zand255, zand65535, zshr1, zshl7, zshl8, zshl9, zbit8, zbit16, ↓bnd_eq, bnd_eq, obnd_some, obnd3_some, obnd6_some, e1, hN.1]
    · by_cases q2 : l.getD (l.length - 1) 0 = 46
      · rw [if_neg (fun w => w.2.2 q2)]
        simp (disch := first | omega | decide) only [zlt, zle, zeq, zltl, zllt, zlel, zlle, zeql, zll, ↓zlt, ↓zle, ↓zeq, ↓zltl, ↓zllt, ↓zlel, ↓zlle, ↓zeql, ↓zll, ↓if_pos, ↓if_neg, if_pos, if_neg, ↓zgd, zgd, zgdc, ↓zgd0, zgd0c, zcl0, ↓zbit, zbitc, ↓zbit1, ↓zbit0, nI_clamp, zaddl, zladd, zsubl, zlsub, zmull, zlmul, zdivl, nI_1, nI_add, nI_mulL, zand1, zand3, zand15, zand31, zand63, zand255, zand65535, zshr1, zshl7, zshl8, zshl9, zbit8, zbit16, ↓bnd_eq, bnd_eq, obnd_some, obnd3_some, obnd6_some, e1, hN.1]
      · rw [if_pos (And.intro hall (And.intro q1 q2))]
        simp (disch := first | omega | decide) only [zlt, zle, zeq, zltl, zllt, zlel, zlle, zeql, zll, ↓zlt, ↓zle, ↓zeq, ↓zltl, ↓zllt, ↓zlel, ↓zlle, ↓zeql, ↓zll, ↓if_pos, ↓if_neg, if_pos, if_neg, ↓zgd, zgd, zgdc, ↓zgd0, zgd0c, zcl0, ↓zbit, zbitc, ↓zbit1, ↓zbit0, nI_clamp, zaddl, zladd, zsubl, zlsub, zmull, zlmul, zdivl, nI_1, nI_add, nI_mulL, zand1, zand3, zand15, zand31, zand63, zand255, zand65535, zshr1, zshl7, zshl8, zshl9, zbit8, zbit16, ↓bnd_eq, bnd_eq, obnd_some, obnd3_some, obnd6_some, e1, hN.1]
  | succ m ih =>
    intro i kf hi hk
    obtain ⟨kf, rfl⟩ : ∃ k, kf = k + 2 := ⟨kf - 2, by omega⟩
    have hb1 := hb i (by omega)
    have e1 := hN.2 i (by omega)
    have g := ih (i + 1) (kf + 1) (by omega) (by omega)
    obtain ⟨x, hx⟩ : ∃ x, x = l.getD i 0 := ⟨_, rfl⟩
    rw [← hx] at e1 hb1
    obtain ⟨r, r1, r2⟩ := ix_ok (nf := nf) (i := 1) (by decide) hb1 hnf
    have bad : ¬ uok x → M_isName_26 nf (kf + 1) 0 (nI (i + 1)) fi ar = some ((if (∀ t, t < l.length → i ≤ t → uok (l.getD t 0)) ∧ l.getD (l.length - 1) 0 ≠ 32 ∧ l.getD (l.length - 1) 0 ≠ 46 then 1 else 0), fi, ar) := by
      intro q
      rw [if_neg (fun w => q (by rw [hx]; exact w.1 i (by omega) (Nat.le_refl _)))]
      rw [show M_isName_26 nf (kf + 1) = M_isName_26b (M_isName_26 nf kf) nf from rfl]
      unfold M_isName_26b M_isName_103 M_isName_143 M_isName_144
      by_cases w : l.length ≤ i + 1
      · simp (disch := first | omega | decide) only [zlt, zle, zeq, zltl, zllt, zlel, zlle, zeql, zll, ↓zlt, ↓zle, ↓zeq, ↓zltl, ↓zllt, ↓zlel, ↓zlle, ↓zeql, ↓zll, ↓if_pos, ↓if_neg, if_pos, if_neg, ↓zgd, zgd, zgdc, ↓zgd0, zgd0c, zcl0, ↓zbit, zbitc, ↓zbit1, ↓zbit0, nI_clamp, zaddl, zladd, zsubl, zlsub, zmull, zlmul, zdivl, nI_1, nI_add, nI_mulL, zand1, zand3, zand15, zand31, zand63, zand255, zand65535, zshr1, zshl7, zshl8, zshl9, zbit8, zbit16, ↓bnd_eq, bnd_eq, obnd_some, obnd3_some, obnd6_some, hN.1]
      · simp (disch := first | omega | decide) only [zlt, zle, zeq, zltl, zllt, zlel, zlle, zeql, zll, ↓zlt, ↓zle, ↓zeq, ↓zltl, ↓zllt, ↓zlel, ↓zlle, ↓zeql, ↓zll, ↓if_pos, ↓if_neg, if_pos, if_neg, ↓zgd, zgd, zgdc, ↓zgd0, zgd0c, zcl0, ↓zbit, zbitc, ↓zbit1, ↓zbit0, nI_clamp, zaddl, zladd, zsubl, zlsub, zmull, zlmul, zdivl, nI_1, nI_add, nI_mulL, zand1, zand3, zand15, zand31, zand63, zand255, zand65535, zshr1, zshl7, zshl8, zshl9, zbit8, zbit16, ↓bnd_eq, bnd_eq, obnd_some, obnd3_some, obnd6_some, hN.1]
    have good : uok x → M_isName_26 nf (kf + 1) 1 (nI (i + 1)) fi ar = some ((if (∀ t, t < l.length → i ≤ t → uok (l.getD t 0)) ∧ l.getD (l.length - 1) 0 ≠ 32 ∧ l.getD (l.length - 1) 0 ≠ 46 then 1 else 0), fi, ar) := by
      intro q
      have hiff : ((∀ t, t < l.length → i ≤ t → uok (l.getD t 0)) ∧ l.getD (l.length - 1) 0 ≠ 32 ∧ l.getD (l.length - 1) 0 ≠ 46) ↔ ((∀ t, t < l.length → i + 1 ≤ t → uok (l.getD t 0)) ∧ l.getD (l.length - 1) 0 ≠ 32 ∧ l.getD (l.length - 1) 0 ≠ 46) := by
        rw [allT (by omega)]
        exact ⟨fun w => ⟨w.1.2, w.2⟩, fun w => ⟨⟨by rw [← hx]; exact q, w.1⟩, w.2⟩⟩
      rw [iteC hiff (fun _ => rfl), ← g]
    rw [show M_isName_26 nf (kf + 2) = M_isName_26b (M_isName_26 nf (kf + 1)) nf from rfl]
    have k69 : 32 ≤ x → x ≠ 127 → (x < 55296 ∨ 57343 < x) → M_isName_69 (M_isName_26 nf (kf + 1)) nf (nI i) (nI x) fi ar = some ((if (∀ t, t < l.length → i ≤ t → uok (l.getD t 0)) ∧ l.getD (l.length - 1) 0 ≠ 32 ∧ l.getD (l.length - 1) 0 ≠ 46 then 1 else 0), fi, ar) := by
      intro a1 a2 a3
      unfold M_isName_69 M_isName_95 M_isName_91 M_isName_96
      by_cases q1 : x ≤ 65533
      · by_cases q2 : 127 < x
        · have hu : uok x := ⟨a1, a2, a3, q1, fun h => by
            have : ∀ x, x ∈ sNat.getD 1 [] → x < 128 := by decide
            have := this x h
            omega⟩
          rw [← good hu]
          simp (disch := first | omega | decide) only [zlt, zle, zeq, zltl, zllt, zlel, zlle, zeql, zll, ↓zlt, ↓zle, ↓zeq, ↓zltl, ↓zllt, ↓zlel, ↓zlle, ↓zeql, ↓zll, ↓if_pos, ↓if_neg, if_pos, if_neg, ↓zgd, zgd, zgdc, ↓zgd0, zgd0c, zcl0, ↓zbit, zbitc, ↓zbit1, ↓zbit0, nI_clamp, zaddl, zladd, zsubl, zlsub, zmull, zlmul, zdivl, nI_1, nI_add, nI_mulL, zand1, zand3, zand15, zand31, zand63, zand255, zand65535, zshr1, zshl7, zshl8, zshl9, zbit8, zbit16, ↓bnd_eq, bnd_eq, obnd_some, obnd3_some, obnd6_some]
        · by_cases q3 : x ∈ sNat.getD 1 []
          · have hr : (0 : Int32) ≤ r := Int32.not_lt.mp (fun h => (r2.mp h) q3)
            rw [← bad (fun w => w.2.2.2.2 q3)]
            simp (disch := first | omega | decide) only [zlt, zle, zeq, zltl, zllt, zlel, zlle, zeql, zll, ↓zlt, ↓zle, ↓zeq, ↓zltl, ↓zllt, ↓zlel, ↓zlle, ↓zeql, ↓zll, ↓if_pos, ↓if_neg, if_pos, if_neg, ↓zgd, zgd, zgdc, ↓zgd0, zgd0c, zcl0, ↓zbit, zbitc, ↓zbit1, ↓zbit0, nI_clamp, zaddl, zladd, zsubl, zlsub, zmull, zlmul, zdivl, nI_1, nI_add, nI_mulL, zand1, zand3, zand15, zand31, zand63, zand255, zand65535, zshr1, zshl7, zshl8, zshl9, zbit8, zbit16, ↓bnd_eq, bnd_eq, obnd_some, obnd3_some, obnd6_some, r1]
            rw [brT hr]
          · have hr : ¬ (0 : Int32) ≤ r := Int32.not_le.mpr (r2.mpr q3)
            rw [← good ⟨a1, a2, a3, q1, q3⟩]
            simp (disch := first | omega | decide) only [zlt, zle, zeq, zltl, zllt, zlel, zlle, zeql, zll, ↓zlt, ↓zle, ↓zeq, ↓zltl, ↓zllt, ↓zlel, ↓zlle, ↓zeql, ↓zll, ↓if_pos, ↓if_neg, if_pos, if_neg, ↓zgd, zgd, zgdc, ↓zgd0, zgd0c, zcl0, ↓zbit, zbitc, ↓zbit1, ↓zbit0, nI_clamp, zaddl, zladd, zsubl, zlsub, zmull, zlmul, zdivl, nI_1, nI_add, nI_mulL, zand1, zand3, zand15, zand31, zand63, zand255, zand65535, zshr1, zshl7, zshl8, zshl9, zbit8, zbit16, ↓bnd_eq, bnd_eq, obnd_some, obnd3_some, obnd6_some, r1]
            rw [brF hr]
      · rw [← bad (fun w => q1 w.2.2.2.1)]
        simp (disch := first | omega | decide) only [zlt, zle, zeq, zltl, zllt, zlel, zlle, zeql, zll, ↓zlt, ↓zle, ↓zeq, ↓zltl, ↓zllt, ↓zlel, ↓zlle, ↓zeql, ↓zll, ↓if_pos, ↓if_neg, if_pos, if_neg, ↓zgd, zgd, zgdc, ↓zgd0, zgd0c, zcl0, ↓zbit, zbitc, ↓zbit1, ↓zbit0, nI_clamp, zaddl, zladd, zsubl, zlsub, zmull, zlmul, zdivl, nI_1, nI_add, nI_mulL, zand1, zand3, zand15, zand31, zand63, zand255, zand65535, zshr1, zshl7, zshl8, zshl9, zbit8, zbit16, ↓bnd_eq, bnd_eq, obnd_some, obnd3_some, obnd6_some]
    unfold M_isName_26b
    by_cases a1 : 32 ≤ x
    · by_cases a2 : x = 127
      · rw [← bad (fun w => w.2.1 a2)]
        unfold M_isName_95 M_isName_96
        simp (disch := first | omega | decide) only [zlt, zle, zeq, zltl, zllt, zlel, zlle, zeql, zll, ↓zlt, ↓zle, ↓zeq, ↓zltl, ↓zllt, ↓zlel, ↓zlle, ↓zeql, ↓zll, ↓if_pos, ↓if_neg, if_pos, if_neg, ↓zgd, zgd, zgdc, ↓zgd0, zgd0c, zcl0, ↓zbit, zbitc, ↓zbit1, ↓zbit0, nI_clamp, zaddl, zladd, zsubl, zlsub, zmull, zlmul, zdivl, nI_1, nI_add, nI_mulL, zand1, zand3, zand15, zand31, zand63, zand255, zand65535, zshr1, zshl7, zshl8, zshl9, zbit8, zbit16, ↓bnd_eq, bnd_eq, obnd_some, obnd3_some, obnd6_some, hN.1, e1]
      · by_cases a3 : x < 55296
        · rw [← k69 a1 a2 (Or.inl a3)]
          simp (disch := first | omega | decide) only [zlt, zle, zeq, zltl, zllt, zlel, zlle, zeql, zll, ↓zlt, ↓zle, ↓zeq, ↓zltl, ↓zllt, ↓zlel, ↓zlle, ↓zeql, ↓zll, ↓if_pos, ↓if_neg, if_pos, if_neg, ↓zgd, zgd, zgdc, ↓zgd0, zgd0c, zcl0, ↓zbit, zbitc, ↓zbit1, ↓zbit0, nI_clamp, zaddl, zladd, zsubl, zlsub, zmull, zlmul, zdivl, nI_1, nI_add, nI_mulL, zand1, zand3, zand15, zand31, zand63, zand255, zand65535, zshr1, zshl7, zshl8, zshl9, zbit8, zbit16, ↓bnd_eq, bnd_eq, obnd_some, obnd3_some, obnd6_some, hN.1, e1]
        · by_cases a4 : x ≤ 57343
          · rw [← bad (fun w => by have := w.2.2.1; omega)]
            unfold M_isName_95 M_isName_96
            simp (disch := first | omega | decide) only [zlt, zle, zeq, zltl, zllt, zlel, zlle, zeql, zll, ↓zlt, ↓zle, ↓zeq, ↓zltl, ↓zllt, ↓zlel, ↓zlle, ↓zeql, ↓zll, ↓if_pos, ↓if_neg, if_pos, if_neg, ↓zgd, zgd, zgdc, ↓zgd0, zgd0c, zcl0, ↓zbit, zbitc, ↓zbit1, ↓zbit0, nI_clamp, zaddl, zladd, zsubl, zlsub, zmull, zlmul, zdivl, nI_1, nI_add, nI_mulL, zand1, zand3, zand15, zand31, zand63, zand255, zand65535, zshr1, zshl7, zshl8, zshl9, zbit8, zbit16, ↓bnd_eq, bnd_eq, obnd_some, obnd3_some, obnd6_some, hN.1, e1]
          · rw [← k69 a1 a2 (Or.inr (by omega))]
            simp (disch := first | omega | decide) only [zlt, zle, zeq, zltl, zllt, zlel, zlle, zeql, zll, ↓zlt, ↓zle, ↓zeq, ↓zltl, ↓zllt, ↓zlel, ↓zlle, ↓zeql, ↓zll, ↓if_pos, ↓if_neg, if_pos, if_neg, ↓zgd, zgd, zgdc, ↓zgd0, zgd0c, zcl0, ↓zbit, zbitc, ↓zbit1, ↓zbit0, nI_clamp, zaddl, zladd, zsubl, zlsub, zmull, zlmul, zdivl, nI_1, nI_add, nI_mulL, zand1, zand3, zand15, zand31, zand63, zand255, zand65535, zshr1, zshl7, zshl8, zshl9, zbit8, zbit16, ↓bnd_eq, bnd_eq, obnd_some, obnd3_some, obnd6_some, hN.1, e1]
    · rw [← bad (fun w => a1 w.1)]
      unfold M_isName_95 M_isName_96
      simp (disch := first | omega | decide) only [zlt, zle, zeq, zltl, zllt, zlel, zlle, zeql, zll, ↓zlt, ↓zle, ↓zeq, ↓zltl, ↓zllt, ↓zlel, ↓zlle, ↓zeql, ↓zll, ↓if_pos, ↓if_neg, if_pos, if_neg, ↓zgd, zgd, zgdc, ↓zgd0, zgd0c, zcl0, ↓zbit, zbitc, ↓zbit1, ↓zbit0, nI_clamp, zaddl, zladd, zsubl, zlsub, zmull, zlmul, zdivl, nI_1, nI_add, nI_mulL, zand1, zand3, zand15, zand31, zand63, zand255, zand65535, zshr1, zshl7, zshl8, zshl9, zbit8, zbit16, ↓bnd_eq, bnd_eq, obnd_some, obnd3_some, obnd6_some, hN.1, e1]
theorem M_isName_eq {nf : Nat} {fi : FI} {ar : AR} {l : List Nat} (hN : MN fi ar l) (hl : ∀ x, x ∈ l → x < 65536) (h2 : l.length ≤ 260) (hnf : 300 ≤ nf) : M_isName nf fi ar = some ((if nmOK l then 1 else 0), fi, ar) := by
  unfold M_isName M_isName_22 M_isName_23
  by_cases q1 : 1 ≤ l.length
  · by_cases q2 : l.length ≤ 255
    · have g := M_isName_loop (nf := nf) hN hl q1 q2 (by omega) l.length 0 nf (by omega) (by omega)
      have hiff : nmOK l ↔ ((∀ t, t < l.length → 0 ≤ t → uok (l.getD t 0)) ∧ l.getD (l.length - 1) 0 ≠ 32 ∧ l.getD (l.length - 1) 0 ≠ 46) := by
        constructor
        · rintro ⟨_, _, w3, w4⟩
          refine ⟨fun t ht _ => ?_, w4⟩
          rw [List.getD_eq_getElem?_getD, List.getElem?_eq_getElem ht]
          exact w3 _ (List.getElem_mem ht)
        · rintro ⟨w1, w2⟩
          refine ⟨q1, q2, fun x hx => ?_, w2⟩
          obtain ⟨t, ht, rfl⟩ := List.getElem_of_mem hx
          have := w1 t ht (Nat.zero_le _)
          rwa [List.getD_eq_getElem?_getD, List.getElem?_eq_getElem ht] at this
      rw [iteC hiff (fun _ => rfl), ← g]
      simp (disch := first | omega | decide) only [zlt, zle, zeq, zltl, zllt, zlel, zlle, zeql, zll, ↓zlt, ↓zle, ↓zeq, ↓zltl, ↓zllt, ↓zlel, ↓zlle, ↓zeql, ↓zll, ↓if_pos, ↓if_neg, if_pos, if_neg, ↓zgd, zgd, zgdc, ↓zgd0, zgd0c, zcl0, ↓zbit, zbitc, ↓zbit1, ↓zbit0, nI_clamp, zaddl, zladd, zsubl, zlsub, zmull, zlmul, zdivl, nI_1, nI_add, nI_mulL, zand1, zand3, zand15, zand31, zand63, zand255, zand65535, zshr1, zshl7, zshl8, zshl9, zbit8, zbit16, ↓bnd_eq, bnd_eq, obnd_some, obnd3_some, obnd6_some, hN.1]
      rfl
    · obtain ⟨k, rfl⟩ : ∃ k, nf = k + 1 := ⟨nf - 1, by omega⟩
      rw [if_neg (fun w : nmOK l => q2 w.2.1)]
      simp (disch := first | omega | decide) only [zlt, zle, zeq, zltl, zllt, zlel, zlle, zeql, zll, ↓zlt, ↓zle, ↓zeq, ↓zltl, ↓zllt, ↓zlel, ↓zlle, ↓zeql, ↓zll, ↓if_pos, ↓if_neg, if_pos, if_neg, ↓zgd, zgd, zgdc, ↓zgd0, zgd0c, zcl0, ↓zbit, zbitc, ↓zbit1, ↓zbit0, nI_clamp, zaddl, zladd, zsubl, zlsub, zmull, zlmul, zdivl, nI_1, nI_add, nI_mulL, zand1, zand3, zand15, zand31, zand63, zand255, zand65535, zshr1, zshl7, zshl8, zshl9, zbit8, zbit16, ↓bnd_eq, bnd_eq, obnd_some, obnd3_some, obnd6_some, hN.1]
      rw [show M_isName_26 (k + 1) (k + 1) = M_isName_26b (M_isName_26 (k + 1) k) (k + 1) from rfl]
      unfold M_isName_26b M_isName_103 M_isName_143 M_isName_144
      rw [hN.1, show (0 : Int32) = nI 0 from rfl]
      simp (disch := first | omega | decide) only [zlt, zle, zeq, zltl, zllt, zlel, zlle, zeql, zll, ↓zlt, ↓zle, ↓zeq, ↓zltl, ↓zllt, ↓zlel, ↓zlle, ↓zeql, ↓zll, ↓if_pos, ↓if_neg, if_pos, if_neg, ↓zgd, zgd, zgdc, ↓zgd0, zgd0c, zcl0, ↓zbit, zbitc, ↓zbit1, ↓zbit0, nI_clamp, zaddl, zladd, zsubl, zlsub, zmull, zlmul, zdivl, nI_1, nI_add, nI_mulL, zand1, zand3, zand15, zand31, zand63, zand255, zand65535, zshr1, zshl7, zshl8, zshl9, zbit8, zbit16, ↓bnd_eq, bnd_eq, obnd_some, obnd3_some, obnd6_some]
  · obtain ⟨k, rfl⟩ : ∃ k, nf = k + 1 := ⟨nf - 1, by omega⟩
    rw [if_neg (fun w : nmOK l => q1 w.1)]
    simp (disch := first | omega | decide) only [zlt, zle, zeq, zltl, zllt, zlel, zlle, zeql, zll, ↓zlt, ↓zle, ↓zeq, ↓zltl, ↓zllt, ↓zlel, ↓zlle, ↓zeql, ↓zll, ↓if_pos, ↓if_neg, if_pos, if_neg, ↓zgd, zgd, zgdc, ↓zgd0, zgd0c, zcl0, ↓zbit, zbitc, ↓zbit1, ↓zbit0, nI_clamp, zaddl, zladd, zsubl, zlsub, zmull, zlmul, zdivl, nI_1, nI_add, nI_mulL, zand1, zand3, zand15, zand31, zand63, zand255, zand65535, zshr1, zshl7, zshl8, zshl9, zbit8, zbit16, ↓bnd_eq, bnd_eq, obnd_some, obnd3_some, obnd6_some, hN.1]
    rw [show M_isName_26 (k + 1) (k + 1) = M_isName_26b (M_isName_26 (k + 1) k) (k + 1) from rfl]
    unfold M_isName_26b M_isName_103 M_isName_143 M_isName_144
    rw [hN.1, show (0 : Int32) = nI 0 from rfl]
    simp (disch := first | omega | decide) only [zlt, zle, zeq, zltl, zllt, zlel, zlle, zeql, zll, ↓zlt, ↓zle, ↓zeq, ↓zltl, ↓zllt, ↓zlel, ↓zlle, ↓zeql, ↓zll, ↓if_pos, ↓if_neg, if_pos, if_neg, ↓zgd, zgd, zgdc, ↓zgd0, zgd0c, zcl0, ↓zbit, zbitc, ↓zbit1, ↓zbit0, nI_clamp, zaddl, zladd, zsubl, zlsub, zmull, zlmul, zdivl, nI_1, nI_add, nI_mulL, zand1, zand3, zand15, zand31, zand63, zand255, zand65535, zshr1, zshl7, zshl8, zshl9, zbit8, zbit16, ↓bnd_eq, bnd_eq, obnd_some, obnd3_some, obnd6_some]
theorem M_capital_eq {nf m : Nat} (hm : m < 65536) : M_capital nf (nI m) = some (nI (cap m)) := by
  unfold M_capital M_capital_19 M_capital_20 cap
  by_cases q : 97 ≤ m ∧ m ≤ 122
  · rw [if_pos q]
    simp (disch := first | omega | decide) only [zlt, zle, zeq, zltl, zllt, zlel, zlle, zeql, zll, ↓zlt, ↓zle, ↓zeq, ↓zltl, ↓zllt, ↓zlel, ↓zlle, ↓zeql, ↓zll, ↓if_pos, ↓if_neg, if_pos, if_neg, ↓zgd, zgd, zgdc, ↓zgd0, zgd0c, zcl0, ↓zbit, zbitc, ↓zbit1, ↓zbit0, nI_clamp, zaddl, zladd, zsubl, zlsub, zmull, zlmul, zdivl, nI_1, nI_add, nI_mulL, zand1, zand3, zand15, zand31, zand63, zand255, zand65535, zshr1, zshl7, zshl8, zshl9, zbit8, zbit16, ↓bnd_eq, bnd_eq, obnd_some, obnd3_some, obnd6_some]
  · rw [if_neg q]
    by_cases q1 : m < 97
    · simp (disch := first | omega | decide) only [zlt, zle, zeq, zltl, zllt, zlel, zlle, zeql, zll, ↓zlt, ↓zle, ↓zeq, ↓zltl, ↓zllt, ↓zlel, ↓zlle, ↓zeql, ↓zll, ↓if_pos, ↓if_neg, if_pos, if_neg, ↓zgd, zgd, zgdc, ↓zgd0, zgd0c, zcl0, ↓zbit, zbitc, ↓zbit1, ↓zbit0, nI_clamp, zaddl, zladd, zsubl, zlsub, zmull, zlmul, zdivl, nI_1, nI_add, nI_mulL, zand1, zand3, zand15, zand31, zand63, zand255, zand65535, zshr1, zshl7, zshl8, zshl9, zbit8, zbit16, ↓bnd_eq, bnd_eq, obnd_some, obnd3_some, obnd6_some]
    · simp (disch := first | omega | decide) only [zlt, zle, zeq, zltl, zllt, zlel, zlle, zeql, zll, ↓zlt, ↓zle, ↓zeq, ↓zltl, ↓zllt, ↓zlel, ↓zlle, ↓zeql, ↓zll, ↓if_pos, ↓if_neg, if_pos, if_neg, ↓zgd, zgd, zgdc, ↓zgd0, zgd0c, zcl0, ↓zbit, zbitc, ↓zbit1, ↓zbit0, nI_clamp, zaddl, zladd, zsubl, zlsub, zmull, zlmul, zdivl, nI_1, nI_add, nI_mulL, zand1, zand3, zand15, zand31, zand63, zand255, zand65535, zshr1, zshl7, zshl8, zshl9, zbit8, zbit16, ↓bnd_eq, bnd_eq, obnd_some, obnd3_some, obnd6_some]
theorem M_whole_eq {nf x y : Nat} (hx : x < 1073741824) (hy : 0 < y) (hy2 : y < 1073741824) : M_whole nf (nI x) (nI y) = some (nI ((x + y - 1) / y)) := by
  unfold M_whole
  rw [gdT (nI_ne0 hy (by omega)), nI_add, show nI (x + y) - (1 : Int32) = nI (x + y - 1) from nI_sub (b := 1) (by omega), pk_div (by omega) hy (by omega)]
