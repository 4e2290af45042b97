/-! the model's name of parts -/
theorem said_loop2 {nf : Nat} {ar : AR} {d A : Nat → Nat} {s np : Nat} {fi : FI} {l : List Nat} (hnp : 1 ≤ np ∧ np ≤ 20) (hN : MN fi ar l) (hl : ∀ x, x ∈ l → x < 65536) (hll : l.length ≤ 13 * np) (hu : ∀ u, u < 13 * np → ar 34 u = nI (nU d A s u) ∧ nU d A s u < 65536) (hnf : 300 ≤ nf) : ∀ (m i kf : Nat), i + m = 13 * np → m < kf → M_said_36 nf kf (nI (13 * np)) (nI i) fi ar = some ((if (∀ t, t < 13 * np → i ≤ t → nU d A s t = 65535) ∧ (l.length + 12) / 13 = np ∧ nmOK l then 1 else 0), fi, ar) := by
  intro m
  induction m with
  | zero =>
    intro i kf hi hk
    obtain ⟨kf, rfl⟩ : ∃ k, kf = k + 1 := ⟨kf - 1, by omega⟩
    have hall : ∀ t, t < 13 * np → i ≤ t → nU d A s t = 65535 := fun t a b => by omega
    have hw := M_whole_eq (nf := nf) (x := l.length) (y := 13) (by omega) (by omega) (by omega)
    have hw' : M_whole nf (nI l.length) 13 = some (nI ((l.length + 12) / 13)) := hw
    have hd1 := Nat.div_mul_le_self (l.length + 12) 13
    rw [show M_said_36 nf (kf + 1) = M_said_36b (M_said_36 nf kf) nf from rfl]
    unfold M_said_36b M_said_87 M_said_88
    rw [hN.1, zle (by omega) (by omega), if_pos (by omega), hw', obnd_some, show nI ((l.length + 12) / 13) * (13 : Int32) = nI ((l.length + 12) / 13 * 13) from pk_mul _ 13, zeq (by omega) (by omega)]
    by_cases q1 : (l.length + 12) / 13 = np
    · rw [if_pos (by omega), M_isName_eq hN hl (by omega) hnf, obnd3_some]
      by_cases q2 : nmOK l
      · simp only [if_pos q2]
        rw [if_pos (And.intro hall (And.intro q1 q2)), brF (by decide), zbit1]
      · simp only [if_neg q2]
        rw [if_neg (fun w => q2 w.2.2), brT trivial, zbit0]
    · rw [if_neg (by omega), if_neg (fun w => q1 w.2.1), zbit0]
  | succ m ih =>
    intro i kf hi hk
    obtain ⟨kf, rfl⟩ : ∃ k, kf = k + 1 := ⟨kf - 1, by omega⟩
    have g := ih (i + 1) kf (by omega) (by omega)
    have h1 := hu i (by omega)
    by_cases q : nU d A s i = 65535
    · have hiff : ((∀ t, t < 13 * np → i ≤ t → nU d A s t = 65535) ∧ (l.length + 12) / 13 = np ∧ nmOK l) ↔ ((∀ t, t < 13 * np → i + 1 ≤ t → nU d A s t = 65535) ∧ (l.length + 12) / 13 = np ∧ nmOK l) := by
        rw [allT (by omega)]
        exact ⟨fun w => ⟨w.1.2, w.2⟩, fun w => ⟨⟨q, w.1⟩, w.2⟩⟩
      rw [iteC hiff (fun _ => rfl), ← g]
      rw [show M_said_36 nf (kf + 1) = M_said_36b (M_said_36 nf kf) nf from rfl]
      unfold M_said_36b
      simp (disch := first | omega | decide) only [zlt, zle, zeq, zltl, zllt, zlel, zlle, zeql, zll, ↓zlt, ↓zle, ↓zeq, ↓zltl, ↓zllt, ↓zlel, ↓zlle, ↓zeql, ↓zll, ↓if_pos, ↓if_neg, if_pos, if_neg, ↓zgd, zgd, zgdc, ↓zgd0, zgd0c, zcl0, ↓zbit, zbitc, ↓zbit1, ↓zbit0, nI_clamp, zaddl, zladd, zsubl, zlsub, zmull, zlmul, zdivl, nI_1, nI_add, nI_mulL, zand1, zand3, zand15, zand31, zand63, zand255, zand65535, zshr1, zshl7, zshl8, zshl9, zbit8, zbit16, ↓bnd_eq, bnd_eq, obnd_some, obnd3_some, obnd6_some, h1.1]
    · rw [if_neg (fun w => q (w.1 i (by omega) (Nat.le_refl _)))]
      rw [show M_said_36 nf (kf + 1) = M_said_36b (M_said_36 nf kf) nf from rfl]
      unfold M_said_36b
      simp (disch := first | omega | decide) only [zlt, zle, zeq, zltl, zllt, zlel, zlle, zeql, zll, ↓zlt, ↓zle, ↓zeq, ↓zltl, ↓zllt, ↓zlel, ↓zlle, ↓zeql, ↓zll, ↓if_pos, ↓if_neg, if_pos, if_neg, ↓zgd, zgd, zgdc, ↓zgd0, zgd0c, zcl0, ↓zbit, zbitc, ↓zbit1, ↓zbit0, nI_clamp, zaddl, zladd, zsubl, zlsub, zmull, zlmul, zdivl, nI_1, nI_add, nI_mulL, zand1, zand3, zand15, zand31, zand63, zand255, zand65535, zshr1, zshl7, zshl8, zshl9, zbit8, zbit16, ↓bnd_eq, bnd_eq, obnd_some, obnd3_some, obnd6_some, h1.1]
theorem said_loop1 {nf : Nat} {fi : FI} {ar : AR} {d A : Nat → Nat} {s np : Nat} (hnp : 1 ≤ np ∧ np ≤ 20) (hu : ∀ u, u < 13 * np → ar 34 u = nI (nU d A s u) ∧ nU d A s u < 65536) : ∀ (m i kf : Nat), i + m = 13 * np → m < kf → M_said_7 nf kf (nI (13 * np)) (nI i) fi ar = M_said_27 nf (nI (13 * np)) (nI (zl (nU d A s) m i)) fi ar := by
  intro m
  induction m with
  | zero =>
    intro i kf hi hk
    obtain ⟨kf, rfl⟩ : ∃ k, kf = k + 1 := ⟨kf - 1, by omega⟩
    rw [zl]
    rw [show M_said_7 nf (kf + 1) = M_said_7b (M_said_7 nf kf) nf from rfl]
    unfold M_said_7b
    simp (disch := first | omega | decide) only [zlt, zle, zeq, zltl, zllt, zlel, zlle, zeql, zll, ↓zlt, ↓zle, ↓zeq, ↓zltl, ↓zllt, ↓zlel, ↓zlle, ↓zeql, ↓zll, ↓if_pos, ↓if_neg, if_pos, if_neg, ↓zgd, zgd, zgdc, ↓zgd0, zgd0c, zcl0, ↓zbit, zbitc, ↓zbit1, ↓zbit0, nI_clamp, zaddl, zladd, zsubl, zlsub, zmull, zlmul, zdivl, nI_1, nI_add, nI_mulL, zand1, zand3, zand15, zand31, zand63, zand255, zand65535, zshr1, zshl7, zshl8, zshl9, zbit8, zbit16, ↓bnd_eq, bnd_eq, obnd_some, obnd3_some, obnd6_some]
  | succ m ih =>
    intro i kf hi hk
    obtain ⟨kf, rfl⟩ : ∃ k, kf = k + 1 := ⟨kf - 1, by omega⟩
    have g := ih (i + 1) kf (by omega) (by omega)
    have h1 := hu i (by omega)
    rw [zl]
    rw [show M_said_7 nf (kf + 1) = M_said_7b (M_said_7 nf kf) nf from rfl]
    unfold M_said_7b
    by_cases q : nU d A s i = 0
    · rw [if_pos q]
      simp (disch := first | omega | decide) only [zlt, zle, zeq, zltl, zllt, zlel, zlle, zeql, zll, ↓zlt, ↓zle, ↓zeq, ↓zltl, ↓zllt, ↓zlel, ↓zlle, ↓zeql, ↓zll, ↓if_pos, ↓if_neg, if_pos, if_neg, ↓zgd, zgd, zgdc, ↓zgd0, zgd0c, zcl0, ↓zbit, zbitc, ↓zbit1, ↓zbit0, nI_clamp, zaddl, zladd, zsubl, zlsub, zmull, zlmul, zdivl, nI_1, nI_add, nI_mulL, zand1, zand3, zand15, zand31, zand63, zand255, zand65535, zshr1, zshl7, zshl8, zshl9, zbit8, zbit16, ↓bnd_eq, bnd_eq, obnd_some, obnd3_some, obnd6_some, h1.1]
    · rw [if_neg q, ← g]
      simp (disch := first | omega | decide) only [zlt, zle, zeq, zltl, zllt, zlel, zlle, zeql, zll, ↓zlt, ↓zle, ↓zeq, ↓zltl, ↓zllt, ↓zlel, ↓zlle, ↓zeql, ↓zll, ↓if_pos, ↓if_neg, if_pos, if_neg, ↓zgd, zgd, zgdc, ↓zgd0, zgd0c, zcl0, ↓zbit, zbitc, ↓zbit1, ↓zbit0, nI_clamp, zaddl, zladd, zsubl, zlsub, zmull, zlmul, zdivl, nI_1, nI_add, nI_mulL, zand1, zand3, zand15, zand31, zand63, zand255, zand65535, zshr1, zshl7, zshl8, zshl9, zbit8, zbit16, ↓bnd_eq, bnd_eq, obnd_some, obnd3_some, obnd6_some, h1.1]
theorem M_said_ok {nf : Nat} {fi : FI} {ar : AR} {d A : Nat → Nat} {s np : Nat} (hnp : 1 ≤ np ∧ np ≤ 20) (h35 : fi 35 = nI (13 * np)) (hu : ∀ u, u < 13 * np → ar 34 u = nI (nU d A s u) ∧ nU d A s u < 65536) (hnf : 300 ≤ nf) : ∃ fi', M_said nf fi ar = some ((if flOK d A s np ∧ nmOK (nm d A s np) then 1 else 0), fi', ar) ∧ MN fi' ar (nm d A s np) ∧ offF [35] fi fi' := by
  have hne : np ≠ 0 := by omega
  have hz := (zl_le (nU d A s) (13 * np) 0).2
  have hlen : (nm d A s np).length = zl (nU d A s) (13 * np) 0 := by unfold nm; rw [if_neg hne, List.length_map, List.length_range]
  have hN : MN (va_up fi 35 (nI (nm d A s np).length)) ar (nm d A s np) := by
    refine ⟨va_up_self _ _ _, fun i hi => ?_⟩
    rw [hlen] at hi
    rw [(hu i (by omega)).1]
    unfold nm
    rw [if_neg hne, List.getD_eq_getElem?_getD, List.getElem?_map, List.getElem?_range hi]
    rfl
  have hl : ∀ x, x ∈ nm d A s np → x < 65536 := by
    intro x hx
    unfold nm at hx
    rw [if_neg hne] at hx
    obtain ⟨u, h1, rfl⟩ := List.mem_map.mp hx
    have := List.mem_range.mp h1
    exact (hu u (by omega)).2
  refine ⟨va_up fi 35 (nI (nm d A s np).length), ?_, hN, offF.rf.up (by simp)⟩
  unfold M_said
  rw [h35, bnd_eq]
  have e1 := said_loop1 (nf := nf) (fi := fi) hnp hu (13 * np) 0 nf (by omega) (by omega)
  have e1' : M_said_7 nf nf (nI (13 * np)) 0 fi ar = _ := e1
  rw [e1', ← hlen]
  unfold M_said_27
  rw [bnd_eq, bnd_eq, nI_1]
  by_cases q2 : (nm d A s np).length = 13 * np
  · obtain ⟨k, rfl⟩ : ∃ k, nf = k + 1 := ⟨nf - 1, by omega⟩
    have hw' : M_whole (k + 1) (nI (nm d A s np).length) 13 = some (nI (((nm d A s np).length + 12) / 13)) := M_whole_eq (nf := k + 1) (x := (nm d A s np).length) (y := 13) (by omega) (by omega) (by omega)
    rw [show M_said_36 (k + 1) (k + 1) = M_said_36b (M_said_36 (k + 1) k) (k + 1) from rfl]
    unfold M_said_36b M_said_87 M_said_88
    have hdv : ((nm d A s np).length + 12) / 13 = np := by omega
    have hw2 : M_whole (k + 1) (nI (nm d A s np).length) 13 = some (nI np) := by rw [hw', hdv]
    rw [zle (by omega) (by omega), if_pos (by omega), hN.1, hw2, obnd_some, show nI np * (13 : Int32) = nI (np * 13) from pk_mul _ 13, zeq (by omega) (by omega), if_pos (by omega), M_isName_eq hN hl (by omega) (by omega), obnd3_some]
    have hfl : flOK d A s np := ⟨hdv, fun i a b => by omega⟩
    by_cases q : nmOK (nm d A s np)
    · rw [if_pos (And.intro hfl q)]
      simp only [if_pos q]
      rw [brF (by decide), zbit1]
    · rw [if_neg (show ¬ (flOK d A s np ∧ nmOK (nm d A s np)) from fun w => q w.2)]
      simp only [if_neg q]
      rw [brT trivial, zbit0]
  · have g := said_loop2 (nf := nf) (d := d) (A := A) (s := s) hnp hN hl (by omega) hu hnf (13 * np - ((nm d A s np).length + 1)) ((nm d A s np).length + 1) nf (by omega) (by omega)
    rw [g]
    have hiff : ((∀ t, t < 13 * np → (nm d A s np).length + 1 ≤ t → nU d A s t = 65535) ∧ ((nm d A s np).length + 12) / 13 = np ∧ nmOK (nm d A s np)) ↔ (flOK d A s np ∧ nmOK (nm d A s np)) := ⟨fun w => ⟨⟨w.2.1, fun i a b => w.1 i a (by omega)⟩, w.2.2⟩, fun w => ⟨fun t a b => w.1.2 t a (by omega), w.1.1, w.2⟩⟩
    rw [iteC hiff (fun _ => rfl)]
