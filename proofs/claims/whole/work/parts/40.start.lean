theorem mS_ok (v : Int32) : 256 ≤ (mS v).toNatClampNeg ∧ (mS v).toNatClampNeg ≤ 1024 ∧ mS v = nI (mS v).toNatClampNeg := by
  have key : ∀ x : Int32, (256 : Int32) ≤ x → x ≤ (1024 : Int32) → 256 ≤ x.toNatClampNeg ∧ x.toNatClampNeg ≤ 1024 ∧ x = nI x.toNatClampNeg := by
    intro x h1 h2
    have a1 : (256 : Int32).toInt ≤ x.toInt := Int32.le_iff_toInt_le.mp h1
    have a2 : x.toInt ≤ (1024 : Int32).toInt := Int32.le_iff_toInt_le.mp h2
    have e1 : (256 : Int32).toInt = 256 := by decide
    have e2 : (1024 : Int32).toInt = 1024 := by decide
    have e3 : x.toNatClampNeg = x.toInt.toNat := rfl
    refine ⟨by omega, by omega, ?_⟩
    apply Int32.toInt_inj.mp
    rw [show nI x.toNatClampNeg = Int32.ofNat x.toNatClampNeg from rfl, Int32.toInt_ofNat_of_lt (by omega)]
    omega
  unfold mS
  by_cases h1 : (256 : Int32) ≤ v
  · rw [if_pos h1]
    by_cases h2 : v ≤ (1024 : Int32)
    · rw [if_pos h2]; exact key v h1 h2
    · rw [if_neg h2]; exact key 1024 (by decide) (by decide)
  · rw [if_neg h1]; exact key 256 (by decide) (by decide)
theorem mS_cl (v : Int32) : (if (256 : Int32) < (if (v) < (1024 : Int32) then (v) else (1024 : Int32)) then (if (v) < (1024 : Int32) then (v) else (1024 : Int32)) else (256 : Int32)) = mS v := by
  unfold mS
  have i1 : ∀ a b : Int32, a < b ↔ a.toInt < b.toInt := fun a b => Int32.lt_iff_toInt_lt
  have i2 : ∀ a b : Int32, a ≤ b ↔ a.toInt ≤ b.toInt := fun a b => Int32.le_iff_toInt_le
  have e1 : (256 : Int32).toInt = 256 := by decide
  have e2 : (1024 : Int32).toInt = 1024 := by decide
  by_cases h1 : v < (1024 : Int32)
  · rw [if_pos h1]
    by_cases h2 : (256 : Int32) < v
    · rw [if_pos h2, if_pos (by rw [i1] at h2; rw [i2]; omega), if_pos (by rw [i1] at h1; rw [i2]; omega)]
    · rw [if_neg h2]
      by_cases h3 : (256 : Int32) ≤ v
      · rw [if_pos h3, if_pos (by rw [i1] at h1; rw [i2]; omega)]
        apply Int32.toInt_inj.mp
        rw [i1] at h2; rw [i2] at h3; omega
      · rw [if_neg h3]
  · rw [if_neg h1, if_pos (by decide), if_pos (by rw [i1] at h1; rw [i2]; omega)]
    by_cases h2 : v ≤ (1024 : Int32)
    · rw [if_pos h2]
      apply Int32.toInt_inj.mp
      rw [i1] at h1; rw [i2] at h2; omega
    · rw [if_neg h2]
set_option maxRecDepth 20000 in
theorem num_all : ∀ n : Nat, n < 1025 → (nI n - (nI n &&& 1) = nI (n - n % 2) ∧ (if nI n - nI n / 2 * 2 = 0 then nI n else nI n - 1) = nI (n - n % 2) ∧ nI n / 2 = nI (n / 2) ∧ nI n / 2 + 2 = nI (n / 2 + 2)) := by decide +kernel
def NV (v : Int32) : Nat := (mS v).toNatClampNeg - (mS v).toNatClampNeg % 2
theorem NV_ok (v : Int32) : (256 ≤ NV v ∧ NV v ≤ 1024 ∧ NV v % 2 = 0) ∧ mN v = nI (NV v) ∧ nI (NV v) / (2 : Int32) = nI (NV v / 2) ∧ nI (NV v) / (2 : Int32) + (2 : Int32) = nI (NV v / 2 + 2) ∧ (if (256 : Int32) < (if (v) < (1024 : Int32) then (v) else (1024 : Int32)) then (if (v) < (1024 : Int32) then (v) else (1024 : Int32)) else (256 : Int32)) - ((if (256 : Int32) < (if (v) < (1024 : Int32) then (v) else (1024 : Int32)) then (if (v) < (1024 : Int32) then (v) else (1024 : Int32)) else (256 : Int32)) &&& (1 : Int32)) = nI (NV v) := by
  obtain ⟨h1, h2, h3⟩ := mS_ok v
  have q := num_all (mS v).toNatClampNeg (by omega)
  have hb : 256 ≤ NV v ∧ NV v ≤ 1024 ∧ NV v % 2 = 0 := by unfold NV; omega
  have r := num_all (NV v) (by omega)
  refine ⟨hb, ?_, r.2.2.1, r.2.2.2, ?_⟩
  · unfold mN NV
    rw [← h3] at q
    exact q.2.1
  · rw [mS_cl v]
    unfold NV
    rw [← h3] at q
    exact q.1
def v0 (L : Nat) (xs : Nat → Int32) : Int32 := if L = 0 then 0 else xs 0
theorem kL_cell (l : Launch) (b L : Nat) (xs : Nat → Int32) (hL : L ≤ 3073) : Met l yL_cell (wx yL_cell cL_cell 2 (some .int)) ({ frames := 0, cells := 0, slots := 0, locals := 0 } : Room) (va_Pc [.ref b, .int 0] (fun U => va_X b L xs U U.heap ∧ b < U.heap.size)) (QSi (v0 L xs)) 0 0 noA := by
  refine Met.ofW (cc := cL_cell) (maxL := 2) (ret := (some .int)) (by decide) rfl ?_
  intro p e s m args below meth c s₁ B hml hv
  obtain ⟨rfl, hX, hbl⟩ := hv
  have hx := B.exec
  have hb := B.bytes
  have hr := B.returns
  have hlocks := B.notSynchronized
  have hS : va_S noA s.heap s.heap [] := va_S.rf
  have hl := lv_entry ([.ref b, .int 0]) (n := 2) (Nat.le_of_ble_eq_true rfl)
  rw [lg_entry_eq]
  generalize (lg_sl ([.ref b, .int 0]) ++ List.replicate (2 - (lg_sl ([.ref b, .int 0])).length) Slot.unset).toArray = ls at hl ⊢
  have hl : lv_has ls 2 [(0, .ref b), (1, .int 0)] := hl
  have hbA : ¬ noA b := fun h => h
  have i2 : ∀ a b : Int32, a ≤ b ↔ a.toInt ≤ b.toInt := fun a b => Int32.le_iff_toInt_le
  have e0 : (Int32.ofNat L).toInt = L := Int32.toInt_ofNat_of_lt (by omega)
  have e1 : (0 : Int32).toInt = 0 := by decide
  refine lv_iload_n hx hb dL_cell_0 rfl (lv_at hl 1 rfl) ?_
  refine lv_aload_n hx hb dL_cell_1 rfl (lv_at hl 0 rfl) ?_
  refine va_slen hx hb hX hbl hbA hS dL_cell_2 ?_
  refine lv_icmp_ge (tgt := 12) hx hb dL_cell_3 (by decide) (fun h1 => ?_) (fun h1 => ?_)
  · have hz : L = 0 := by have := (i2 _ _).mp h1; omega
    refine lv_iconst (v := (0 : Int32)) hx hb dL_cell_12 (by decide) ?_
    exact rS_i hx hb hr hlocks (by unfold v0; rw [if_pos hz]) hS dL_cell_13
  · have hz : ¬ L = 0 := fun h => h1 ((i2 _ _).mpr (by omega))
    refine lv_aload_n hx hb dL_cell_6 rfl (lv_at hl 0 rfl) ?_
    refine lv_iload_n hx hb dL_cell_7 rfl (lv_at hl 1 rfl) ?_
    have hin : vp_in (0 : Int32) L := fun h => h.elim (fun h => absurd h (by decide)) (fun h => hz (Nat.le_zero.mp h))
    refine va_sld hx hb hX hbl hbA hS (i := 0) hin dL_cell_8 ?_
    refine lv_goto (tgt := 13) hx hb dL_cell_9 (by decide) ?_
    exact rS_i hx hb hr hlocks (by unfold v0; rw [if_neg hz]; rfl) hS dL_cell_13
def tmS (i : Nat) : Term := if i = 0 then .string RX5 11 else .string RX5 22
set_option maxRecDepth 20000 in
theorem strIn : (∀ i : Nat, i < 2 → Cond.exactly (tmS i) "java/lang/String" ∈ flatC (Jvm.Cond.and given_1 narrow_1)) ∧ (∀ i : Nat, i < 2 → Cond.eq (.field (tmS i) "java/lang/String" "coder" "B") (.int 0) ∈ flatC (Jvm.Cond.and given_1 narrow_1)) ∧ (∀ i : Nat, i < 2 → Cond.arrayOf (.field (tmS i) "java/lang/String" "value" "[B") .byte ∈ flatC (Jvm.Cond.and given_1 narrow_1)) ∧ (∀ i : Nat, i < 2 → Cond.eq (.length (.field (tmS i) "java/lang/String" "value" "[B")) (.int (Int32.ofNat (sLen.getD i 0))) ∈ flatC (Jvm.Cond.and given_1 narrow_1)) ∧ (∀ i : Nat, i < 2 → ∀ j : Nat, j < sLen.getD i 0 → Cond.eq (.elem (.field (tmS i) "java/lang/String" "value" "[B") (.int (Int32.ofNat j))) (.int ((sByt.getD i []).getD j 0)) ∈ flatC (Jvm.Cond.and given_1 narrow_1)) := by decide +kernel
set_option maxRecDepth 20000 in
theorem monIn : (∀ j : Nat, j < 12 → Cond.eq (.elem (.static "TableVolumes$Days" "MONTHS" "[I") (.int (Int32.ofNat j))) (.int (tMon.getD j 0)) ∈ flatC (Jvm.Cond.and given_1 narrow_1)) ∧ (∀ j : Nat, j < 13 → Cond.eq (.elem (.static "TableVolumes$Name" "PLACES" "[I") (.int (Int32.ofNat j))) (.int (tPla.getD j 0)) ∈ flatC (Jvm.Cond.and given_1 narrow_1)) := by decide +kernel
set_option maxRecDepth 20000 in
theorem notIn : ∀ a : Nat, a < 4 → ∀ b : Nat, b < 4 → a ≠ b → Cond.not (.castable (exN a) (exN b)) ∈ flatC (Jvm.Cond.and given_1 narrow_1) := by decide +kernel
theorem strX {args : Array Value} {s : State} {own tx : String} {k : Nat} (h1 : (Cond.stringRef own k tx).before args s = true) (h2 : (Cond.exactly (.string own k) "java/lang/String").before args s = true) : ∃ sa : Nat, vk_R own k tx sa s := by
  obtain ⟨a, c, cA, kA, q1, -⟩ := Cond.exactly_spec (args := args) (first := s) (o := none) (s := s) (idx := []) h2
  exact ⟨a, vk_R.of h1 q1⟩
theorem arrK {args : Array Value} {s : State} {ty : FieldType} (h : (Cond.arrayClass ty).before args s = true) (hp : ∀ C, ty ≠ .object C) : ∃ cA : ClassId, ArrOfT s cA ty ∧ va_RA s cA ty := by
  obtain ⟨cA, kA, comp, h1, h2, h3⟩ := Cond.arrayClass_spec h
  refine ⟨cA, fun n z => ⟨fun k h => (by cases h), kA, h2, comp, h3⟩, ?_⟩
  cases ty with
  | object C => exact absurd rfl (hp C)
  | _ => exact h1
set_option maxHeartbeats 4000000 in
set_option maxRecDepth 20000 in
theorem envs {args : Array Value} {s : State} (hts : ∀ w ∈ lw_tbl, w.before args s = true) (hT : ∀ w ∈ TB, w.before args s = true) (hgv : (Jvm.Cond.and given_1 narrow_1).before args s = true) : ∃ g : GT, va_K (gD g) vwCl (tyl g) s ∧ EV g (fun q : Nat => s.heap.size ≤ q) s s.heap ∧ EVX (fun q : Nat => s.heap.size ≤ q) s s.heap ∧ NcX s := by
  have hq := flat_of_before _ hgv
  have hA : ∀ a : Nat, a < s.heap.size → ¬ (fun q : Nat => s.heap.size ≤ q) a := fun a h h2 => absurd h (Nat.not_lt.mpr h2)
  generalize (fun q : Nat => s.heap.size ≤ q) = A at hA ⊢
  obtain ⟨c0, i0, k0⟩ := u_known (C := RX0) (T := TX0) (N := 10) (n := 10) hT inTX00 (hT _ mw2_13)
  obtain ⟨c1, i1, k1⟩ := u_known (C := RX2) (T := TX2) (N := 12) (n := 12) hT inTX20 (hT _ mw2_17)
  obtain ⟨c2, i2, k2⟩ := u_known (C := RX3) (T := TX3) (N := 2) (n := 2) hT inTX30 (hT _ mw2_1)
  obtain ⟨c3, i3, k3⟩ := u_known (C := RX4) (T := TX4) (N := 5) (n := 5) hT inTX40 (hT _ mw51_6)
  obtain ⟨c4, i4, k4⟩ := u_known (C := RX6) (T := TX6) (N := 2) (n := 2) hT inTX60 (hT _ mw2_22)
  obtain ⟨c5, i5, k5⟩ := u_known (C := RX7) (T := TX7) (N := 3) (n := 3) hT inTX70 (hT _ mw3_3)
  obtain ⟨c6, i6, k6⟩ := u_known (C := RX8) (T := TX8) (N := 3) (n := 3) hT inTX80 (hT _ mw2_5)
  obtain ⟨c7, i7, k7⟩ := u_known (C := RX9) (T := TX9) (N := 8) (n := 8) hT inTX90 (hT _ mw2_9)
  obtain ⟨c8, i8, k8⟩ := u_known (C := RX10) (T := TX10) (N := 11) (n := 11) hT inTX100 (hT _ mw1_1)
  obtain ⟨c9, i9, k9⟩ := u_known (C := RX11) (T := TX11) (N := 42) (n := 42) hT inTX110 (hT _ mw1_4)
  obtain ⟨a0, t0⟩ := arrK (ty := .byte) (hT _ mw3_18) (fun _ h => by cases h)
  obtain ⟨a1, t1⟩ := arrK (ty := .char) (hT _ mw6_14) (fun _ h => by cases h)
  obtain ⟨a2, t2⟩ := arrK (ty := .int) (hT _ mw3_13) (fun _ h => by cases h)
  obtain ⟨a3, t3⟩ := arrK (ty := .boolean) (hT _ mw4_18) (fun _ h => by cases h)
  obtain ⟨a4, t4⟩ := arrK (ty := .long) (hT _ mw1_6) (fun _ h => by cases h)
  obtain ⟨adK, adV, hSt, hEv⟩ := vk_Sof (tm := tmS) (len := sLen) (byt := sByt) (N := 2) (A := A) (fun i hi => by rcases (show i = 0 ∨ i = 1 by omega) with rfl | rfl <;> decide) (fun i hi => hq _ (strIn.1 i hi)) (fun i hi => hq _ (strIn.2.1 i hi)) (fun i hi => hq _ (strIn.2.2.1 i hi)) (fun i hi => hq _ (strIn.2.2.2.1 i hi)) (fun i hi j hj => hq _ (strIn.2.2.2.2 i hi j hj)) (fun i j hi hj hij => by
    have hn : (Cond.not (Cond.eq (Term.string RX5 11) (Term.string RX5 22))).before args s = true := hq _ (by decide +kernel)
    rcases (show (i = 0 ∧ j = 1) ∨ (i = 1 ∧ j = 0) by omega) with ⟨rfl, rfl⟩ | ⟨rfl, rfl⟩
    · exact Or.inl hn
    · exact Or.inr hn) hA
  have e11 : (Term.string RX5 11).eval args s none [] s = some (.ref (adK 0)) := hEv 0 (by decide)
  have e22 : (Term.string RX5 22).eval args s none [] s = some (.ref (adK 1)) := hEv 1 (by decide)
  have f11 : (Term.string RX11 206).eval args s none [] s = some (.ref (adK 0)) := by
    have h1 : (Cond.eq (Term.string RX5 11) (Term.string RX11 206)).before args s = true := hq _ (by decide +kernel)
    obtain ⟨a, c, cA, kA, q1, -⟩ := Cond.exactly_spec (args := args) (first := s) (o := none) (s := s) (idx := []) (t := .string RX11 206) (cls := "java/lang/String") (hq _ (by decide +kernel))
    have h2 := Cond.eq_refs h1 q1 rfl
    rw [e11] at h2
    rw [q1, ← h2]
  have f22 : (Term.string RX11 235).eval args s none [] s = some (.ref (adK 1)) := by
    have h1 : (Cond.eq (Term.string RX5 22) (Term.string RX11 235)).before args s = true := hq _ (by decide +kernel)
    obtain ⟨a, c, cA, kA, q1, -⟩ := Cond.exactly_spec (args := args) (first := s) (o := none) (s := s) (idx := []) (t := .string RX11 235) (cls := "java/lang/String") (hq _ (by decide +kernel))
    have h2 := Cond.eq_refs h1 q1 rfl
    rw [e22] at h2
    rw [q1, ← h2]
  obtain ⟨tm, htm, hTm⟩ := va_Tof (tm := .static "TableVolumes$Days" "MONTHS" "[I") (ty := .int) (N := 12) (f := fun j => .int (tMon.getD j 0)) (A := A) (by decide) (hq _ (by decide +kernel)) (va_eqt (hq _ (by decide +kernel))) (fun j hj => va_eqt (hq _ (monIn.1 j hj))) hA
  obtain ⟨tp, htp, hTp⟩ := va_Tof (tm := .static "TableVolumes$Name" "PLACES" "[I") (ty := .int) (N := 13) (f := fun j => .int (tPla.getD j 0)) (A := A) (by decide) (hq _ (by decide +kernel)) (va_eqt (hq _ (by decide +kernel))) (fun j hj => va_eqt (hq _ (monIn.2 j hj))) hA
  have zC : va_Z "java/lang/String" "COMPACT_STRINGS" "Z" (.int 1) A s s.heap := va_Zof (hts _ (by decide +kernel)) (hts _ (by decide +kernel)) (va_eqi (hq _ (by decide +kernel))) hA
  have zM : va_Z "TableVolumes$Days" "MONTHS" "[I" (.ref tm) A s s.heap := va_Zof (hts _ (by decide +kernel)) (hts _ (by decide +kernel)) htm hA
  have zP : va_Z "TableVolumes$Name" "PLACES" "[I" (.ref tp) A s s.heap := va_Zof (hts _ (by decide +kernel)) (hts _ (by decide +kernel)) htp hA
  refine ⟨(fun k => match k with
    | 0 => c0
    | 1 => c1
    | 2 => c2
    | 3 => c3
    | 4 => c4
    | 5 => c5
    | 6 => c6
    | 7 => c7
    | 8 => c8
    | _ => c9, fun k => match k with
    | 0 => i0
    | 1 => i1
    | 2 => i2
    | 3 => i3
    | 4 => i4
    | 5 => i5
    | 6 => i6
    | 7 => i7
    | 8 => i8
    | _ => i9, fun k => match k with
    | 0 => a0
    | 1 => a1
    | 2 => a2
    | 3 => a3
    | _ => a4, fun k => match k with
    | 0 => adK 0
    | 1 => adK 1
    | 2 => adV 0
    | 3 => adV 1
    | 4 => tm
    | _ => tp), ⟨?_, ?_⟩, ⟨⟨?_, zC, zM, hTm, zP, hTp⟩, vk_R.of (hts (Cond.stringRef RX11 206 "!#$%&'()-@^_`{}~") (by decide +kernel)) f11, vk_R.of (hts (Cond.stringRef RX11 235 "\"*/:<>?\\|") (by decide +kernel)) f22, vk_R.of (hts (Cond.stringRef RX5 11 "!#$%&'()-@^_`{}~") (by decide +kernel)) e11, vk_R.of (hts (Cond.stringRef RX5 22 "\"*/:<>?\\|") (by decide +kernel)) e22⟩, ⟨⟨?_, ?_, strX (hts _ (by decide +kernel)) (hq _ (by decide +kernel)), strX (hts _ (by decide +kernel)) (hq _ (by decide +kernel)), strX (hts _ (by decide +kernel)) (hq _ (by decide +kernel)), strX (hts _ (by decide +kernel)) (hq _ (by decide +kernel)), strX (hts _ (by decide +kernel)) (hq _ (by decide +kernel)), strX (hts _ (by decide +kernel)) (hq _ (by decide +kernel)), strX (hts _ (by decide +kernel)) (hq _ (by decide +kernel)), strX (hts _ (by decide +kernel)) (hq _ (by decide +kernel)), strX (hts _ (by decide +kernel)) (hq _ (by decide +kernel)), strX (hts _ (by decide +kernel)) (hq _ (by decide +kernel)), strX (hts _ (by decide +kernel)) (hq _ (by decide +kernel)), strX (hts _ (by decide +kernel)) (hq _ (by decide +kernel)), strX (hts _ (by decide +kernel)) (hq _ (by decide +kernel))⟩, ⟨va_Nw.of rfl (hts _ (by decide +kernel)), va_Nw.of rfl (hts _ (by decide +kernel)), va_Nw.of rfl (hts _ (by decide +kernel)), va_Nw.of rfl (hts _ (by decide +kernel)), va_Nw.of rfl (hts _ (by decide +kernel)), va_Nw.of rfl (hts _ (by decide +kernel)), va_Nw.of rfl (hts _ (by decide +kernel))⟩⟩, ?_⟩
  · intro c q hc
    have hlt := (List.getElem?_eq_some_iff.mp hc).1
    simp only [List.length_cons, List.length_nil] at hlt
    rcases (show c = 0 ∨ c = 1 ∨ c = 2 ∨ c = 3 ∨ c = 4 ∨ c = 5 ∨ c = 6 ∨ c = 7 ∨ c = 8 ∨ c = 9 by omega) with rfl | rfl | rfl | rfl | rfl | rfl | rfl | rfl | rfl | rfl
    · cases hc; exact k0
    · cases hc; exact k1
    · cases hc; exact k2
    · cases hc; exact k3
    · cases hc; exact k4
    · cases hc; exact k5
    · cases hc; exact k6
    · cases hc; exact k7
    · cases hc; exact k8
    · cases hc; exact k9
  · intro k q hk
    have hlt := (List.getElem?_eq_some_iff.mp hk).1
    simp only [List.length_cons, List.length_nil] at hlt
    rcases (show k = 0 ∨ k = 1 ∨ k = 2 ∨ k = 3 ∨ k = 4 by omega) with rfl | rfl | rfl | rfl | rfl
    · cases hk; exact t0
    · cases hk; exact t1
    · cases hk; exact t2
    · cases hk; exact t3
    · cases hk; exact t4
  · refine ⟨fun i hi => ?_, fun i j hi hj h => ?_⟩
    · rcases (show i = 0 ∨ i = 1 by omega) with rfl | rfl
      · exact hSt.1 0 (by decide)
      · exact hSt.1 1 (by decide)
    · rcases (show i = 0 ∨ i = 1 by omega) with rfl | rfl <;> rcases (show j = 0 ∨ j = 1 by omega) with rfl | rfl <;> first | rfl | exact hSt.2 _ _ (by decide) (by decide) h
  · exact vx_Zqof (hts _ (by decide +kernel)) (hts _ (by decide +kernel)) (hq _ (by decide +kernel)) hA
  · exact vx_Zqof (hts _ (by decide +kernel)) (hts _ (by decide +kernel)) (hq _ (by decide +kernel)) hA
  · exact fun a b ha hb hab => va_Nc.of (hq _ (notIn a ha b hb hab))
theorem wm_of2 {A : Nat → Prop} {g : GT} {H : Heap} {X : va_W} {a2 N r1 r2 r3 r4 r5 r6 r7 r8 r9 r10 r11 r12 r13 r14 r15 r16 r17 r18 r19 : Nat} (h : va_P (gD g) vwCl ([(a2, .inr (9, [.int (nI N), .ref r1, .ref r2, .ref r3, .int 0, .int 0, .int 0, .int 0, .int 0, .int 0, .int 0, .int 0, .int 0, .int 0, .int 0, .int 0, .int 0, .int 0, .int 0, .ref r4, .ref r5, .ref r6, .ref r7, .ref r8, .ref r9, .ref r10, .ref r11, .ref r12, .ref r13, .ref r14, .ref r15, .int 0, .int 0, .int 0, .ref r16, .int 0, .int 0, .int 0, .int 0, .ref r17, .ref r18, .ref r19])), (r1, .inl (g.2.2.1 0, 524288, .inl (fun _ => 0))), (r2, .inl (g.2.2.1 0, 4096, .inl (fun _ => 0))), (r3, .inl (g.2.2.1 0, 20, .inl (fun _ => 0))), (r4, .inl (g.2.2.1 3, 560, .inl (fun _ => 0))), (r5, .inl (g.2.2.1 2, 16400, .inl (fun _ => 0))), (r6, .inl (g.2.2.1 2, 16400, .inl (fun _ => 0))), (r7, .inl (g.2.2.1 2, 16400, .inl (fun _ => 0))), (r8, .inl (g.2.2.1 2, 16400, .inl (fun _ => 0))), (r9, .inl (g.2.2.1 2, 16400, .inl (fun _ => 0))), (r10, .inl (g.2.2.1 2, 16400, .inl (fun _ => 0))), (r11, .inl (g.2.2.1 2, 16400, .inl (fun _ => 0))), (r12, .inl (g.2.2.1 2, 16400, .inl (fun _ => 0))), (r13, .inl (g.2.2.1 1, 213600, .inl (fun _ => 0))), (r14, .inl (g.2.2.1 2, 560, .inl (fun _ => 0))), (r15, .inl (g.2.2.1 2, 560, .inl (fun _ => 0))), (r16, .inl (g.2.2.1 1, 300, .inl (fun _ => 0))), (r17, .inl (g.2.2.1 2, 11, .inl (fun _ => 0))), (r18, .inl (g.2.2.1 2, 255, .inl (fun _ => 0))), (r19, .inl (g.2.2.1 2, 3, .inl (fun _ => 0)))]) H) (hD : va_D A (X ++ [(a2, .inr (9, [.int (nI N), .ref r1, .ref r2, .ref r3, .int 0, .int 0, .int 0, .int 0, .int 0, .int 0, .int 0, .int 0, .int 0, .int 0, .int 0, .int 0, .int 0, .int 0, .int 0, .ref r4, .ref r5, .ref r6, .ref r7, .ref r8, .ref r9, .ref r10, .ref r11, .ref r12, .ref r13, .ref r14, .ref r15, .int 0, .int 0, .int 0, .ref r16, .int 0, .int 0, .int 0, .int 0, .ref r17, .ref r18, .ref r19])), (r1, .inl (g.2.2.1 0, 524288, .inl (fun _ => 0))), (r2, .inl (g.2.2.1 0, 4096, .inl (fun _ => 0))), (r3, .inl (g.2.2.1 0, 20, .inl (fun _ => 0))), (r4, .inl (g.2.2.1 3, 560, .inl (fun _ => 0))), (r5, .inl (g.2.2.1 2, 16400, .inl (fun _ => 0))), (r6, .inl (g.2.2.1 2, 16400, .inl (fun _ => 0))), (r7, .inl (g.2.2.1 2, 16400, .inl (fun _ => 0))), (r8, .inl (g.2.2.1 2, 16400, .inl (fun _ => 0))), (r9, .inl (g.2.2.1 2, 16400, .inl (fun _ => 0))), (r10, .inl (g.2.2.1 2, 16400, .inl (fun _ => 0))), (r11, .inl (g.2.2.1 2, 16400, .inl (fun _ => 0))), (r12, .inl (g.2.2.1 2, 16400, .inl (fun _ => 0))), (r13, .inl (g.2.2.1 1, 213600, .inl (fun _ => 0))), (r14, .inl (g.2.2.1 2, 560, .inl (fun _ => 0))), (r15, .inl (g.2.2.1 2, 560, .inl (fun _ => 0))), (r16, .inl (g.2.2.1 1, 300, .inl (fun _ => 0))), (r17, .inl (g.2.2.1 2, 11, .inl (fun _ => 0))), (r18, .inl (g.2.2.1 2, 255, .inl (fun _ => 0))), (r19, .inl (g.2.2.1 2, 3, .inl (fun _ => 0)))])) : ∃ am : Nat → Nat, am 0 = a2 ∧ va_P (gD g) vwCl (WM g am (fiM0 N) (fun _ _ => 0)) H ∧ va_D A (X ++ WM g am (fiM0 N) (fun _ _ => 0)) := ⟨fun k => match k with
    | 0 => a2
    | 1 => r1
    | 2 => r2
    | 3 => r3
    | 19 => r4
    | 20 => r5
    | 21 => r6
    | 22 => r7
    | 23 => r8
    | 24 => r9
    | 25 => r10
    | 26 => r11
    | 27 => r12
    | 28 => r13
    | 29 => r14
    | 30 => r15
    | 34 => r16
    | 39 => r17
    | 40 => r18
    | 41 => r19
    | _ => 0, rfl, h, hD⟩
theorem nw_4 {p : Program} {l : Launch} {e : Env} {R : Room} {s : State} {m : MethodId} {args : Array Value} {below : List Frame} {meth : Method} {c : Code} {H : Heap} {locs : List Loc} {cells slots : Nat} {Q : State → Prop} {cc : ByteArray} {pc : Nat} {ls : Array Slot} {rest : List Value} {A : Nat → Prop} {g : GT} {ws : va_W} (hx : p.tables.exec = Jvm.exec) (hb : c.code = cc) (hT : ∀ w ∈ TB, w.before args s = true) (hK : va_K (gD g) vwCl (tyl g) s) (hP : va_P (gD g) vwCl ws H) (hD : va_D A ws) (hS : va_S A s.heap H locs) (hA : ∀ q : Nat, s.heap.size ≤ q → A q) (hc : cells + 1 ≤ R.cells) (hs : slots + 1 ≤ R.slots) (hdg : decode cc pc = .ok (.newarray .long, 2))
    (kk : ∀ (q : Nat) (H : Heap), va_P (gD g) vwCl (ws ++ [(q, .inl (g.2.2.1 4, 1, .inr (.inl (fun _ => 0))))]) H → va_D A (ws ++ [(q, .inl (g.2.2.1 4, 1, .inr (.inl (fun _ => 0))))]) → va_S A s.heap H locs → W p l e R s m args below meth c H locs (cells + 1) (slots + 1) Q (F0 m (pc + 2) ls (.ref q :: rest))) : W p l e R s m args below meth c H locs cells slots Q (F0 m pc ls (.int (1 : Int32) :: rest)) := by
  refine va_newa (atype := .long) (N' := 1) (a0 := (1, .inr (.inl (fun _ => 0)))) (ty := .long) hx hb (hT _ mw1_6) rfl hK hP hD hS hA (fun _ => rfl) (by decide) (by decide) (by simp [componentBytes]) hc hs hdg (fun q cA H hK2 hP hD hS => ?_)
  have hcA : g.2.2.1 4 = cA := by
    have h1 := (hK2.2 4 (g.2.2.1 4, .long) rfl).2
    have h2 := (hK2.2 5 (cA, .long) rfl).2
    exact Option.some.inj (h1.symm.trans h2)
  subst hcA
  exact kk q H hP hD hS
def fCost : Nat → Nat := fun N => (2 + ((N * 128)) + 3 + (4096 + 5) + 8 + (0) + 10 + (2 + (260) + 2 + (260) + 3 + (11 + 6) + 12 + (64 + 64 + 64 + (N / 2)) + (N / 2 + 2) + (N / 2 + 2) + (N / 2 + 2)) + 12 + (64 + 64 + 64 + (N / 2)) + 12 + (64 + 64 + 64 + (N / 2)) + 2 + (260) + 2 + (260) + 3 + (11 + 6)) + (524288 + 4096 + 20 + 560 + 16400 + 16400 + 16400 + 16400 + 16400 + 16400 + 16400 + 16400 + 213600 + 560 + 560 + 300 + 11 + 255 + 3) + 11 + 42 + 1
theorem fCost_le {N : Nat} (h : N ≤ 1024) : fCost N ≤ 1050000 := by unfold fCost; omega
/-- what the law's loop must come to, for every script -/
def LawHolds : Prop := ∀ (L : Nat) (xs : Nat → Int32), L ≤ 3073 → ∃ nf kf kc ks : Nat, FL_law_33 nf L xs kf 1 (fi0 (NV (v0 L xs))) (fun _ _ => 0) (ln0 (NV (v0 L xs))) (fun _ => 0) (fiM0 (NV (v0 L xs))) (fun _ _ => 0) = some ((1 : Int32), kc, ks) ∧ 61 + kc ≤ room_1.cells ∧ fCost (NV (v0 L xs)) + ks ≤ room_1.slots
set_option maxHeartbeats 8000000 in
set_option maxRecDepth 100000 in
theorem whole_start0 (hLaw : LawHolds) {p : Program} {e : Env} {s : State} {m : MethodId} {below : List Frame} {meth : Method} {c : Code} (l : Launch) (hlt : l.stackTraces = false) {b L : Nat} {xs : Nat → Int32} (hL : L ≤ 3073) (hTX : ∀ w ∈ TBX, w.before #[Value.ref b] s = true) (C0 : lw_At p s m meth c b L xs) : W p l e room_1 s m #[Value.ref b] below meth c s.heap [] 0 0 (lw_Z below #[Value.ref b] s) (entryFrame m ([Value.ref b] : List Value).toArray 8) := by
  obtain ⟨hx, hb, hr, hml, hown, hts, hX, hbl, hlocks, hgv⟩ := C0
  have hT : ∀ w ∈ TB, w.before #[Value.ref b] s = true := fun w h => hTX w (tbx0 w h)
  obtain ⟨g, hK, hE, hEX, hNc⟩ := envs hts hT hgv
  have hn_X10_29 : va_Nw (.methodLinkNest RX10 29 yX8_init "TableVolumes") s := va_Nw.of rfl (hts _ (by decide +kernel))
  have hn_X10_64 : va_Nw (.methodLinkNest RX10 64 yX6_init "TableVolumes") s := va_Nw.of rfl (hts _ (by decide +kernel))
  have hn_X10_74 : va_Nw (.methodLinkNest RX10 74 yX7_init "TableVolumes") s := va_Nw.of rfl (hts _ (by decide +kernel))
  have hn_X0_11 : va_Nw (.methodLinkNest RX0 11 yX6_init "TableVolumes") s := va_Nw.of rfl (hts _ (by decide +kernel))
  have hn_X0_23 : va_Nw (.methodLinkNest RX0 23 yX7_init "TableVolumes") s := va_Nw.of rfl (hts _ (by decide +kernel))
  obtain ⟨nf, kf, kc, ks, hF, hkc, hks⟩ := hLaw L xs hL
  obtain ⟨⟨hN1, hN2, hN3⟩, hm, hHalf, hHalf2, hNN⟩ := NV_ok (v0 L xs)
  have hfc := fCost_le hN2
  unfold fCost at hfc hks
  have hA : ∀ q : Nat, s.heap.size ≤ q → (fun q : Nat => s.heap.size ≤ q) q := fun _ h => h
  have hbA : ¬ (fun q : Nat => s.heap.size ≤ q) b := Nat.not_le.mpr hbl
  have hS : va_S (fun q : Nat => s.heap.size ≤ q) s.heap s.heap [] := va_S.rf
  have hP : va_P (gD g) vwCl [] s.heap := fun k q h => by cases h
  have hD : va_D (fun q : Nat => s.heap.size ≤ q) [] := ⟨fun i j p q h => (by cases h), fun k q h => (by cases h)⟩
  have hl := lv_entry ([.ref b]) (n := 8) (Nat.le_of_ble_eq_true rfl)
  rw [lg_entry_eq]
  generalize (lg_sl ([.ref b]) ++ List.replicate (8 - (lg_sl ([.ref b])).length) Slot.unset).toArray = ls at hl ⊢
  have hl : lv_has ls 8 [(0, .ref b)] := hl
  refine va_new (ci := 8) (fs := [.null, .null, .null, .null, .null, .null, .null, .null, .null, .int 0, .int 0]) (C := RX10) (T := TX10) (N := 11) hx hb hT inTX100 tyX10 tyX10_ok hown (hT _ mw1_0) (hT _ mw1_1) (hT _ mw1_2) hK hP hD hS hA rfl (fun j hj => by rcases (show j = 0 ∨ j = 1 ∨ j = 2 ∨ j = 3 ∨ j = 4 ∨ j = 5 ∨ j = 6 ∨ j = 7 ∨ j = 8 ∨ j = 9 ∨ j = 10 by omega) with rfl | rfl | rfl | rfl | rfl | rfl | rfl | rfl | rfl | rfl | rfl <;> rfl) (by show _ ≤ room_1.cells; omega) (by show _ ≤ room_1.slots; omega) dL_law_0 (fun a H hP hD hS => ?_)
  have hP : va_P (gD g) vwCl [(a, .inr (8, [.null, .null, .null, .null, .null, .null, .null, .null, .null, .int 0, .int 0]))] H := hP
  have hD : va_D (fun q : Nat => s.heap.size ≤ q) [(a, .inr (8, [.null, .null, .null, .null, .null, .null, .null, .null, .null, .int 0, .int 0]))] := hD
  refine lv_dup hx hb dL_law_3 rfl ?_
  refine lv_aload_n hx hb dL_law_4 rfl (lv_at hl 0 rfl) ?_
  refine lv_iconst (v := (0 : Int32)) hx hb dL_law_5 (by decide) ?_
  refine va_calli (va_runS (Ts := TB) (As := [.ref b, .int 0]) (rest := [.ref a, .ref a]) ⟨hx, hb, hml, hown, hT⟩ (kL_cell l b L xs hL) ⟨callB_of 2 hT (TB_in1 mw1_10) rfl rfl rfl (hT _ mw1_9) (hT _ mw1_7) (by decide +kernel) ⟨Nat.le_of_ble_eq_true rfl, Nat.le_of_ble_eq_true rfl⟩, hT _ mw1_8⟩ ⟨fun a U f mk q => ⟨q.1, va_X.moved (u := U) (U := U.calling f mk a) (Vm.Alike.refl U.vm) q.2.1, q.2.2⟩, fun U hU hW => ⟨rfl, va_X.moved hW.alike (va_X.kept hX (by rw [hU]; exact hS.2.1 b hbl hbA)), by rw [hU]; exact Nat.lt_of_lt_of_le hbl hS.1⟩⟩ rfl rfl hl.1 rfl (lv_room (Nat.le_of_ble_eq_true rfl)) dL_law_6 ⟨by show _ ≤ room_1.cells; omega, by show _ ≤ room_1.slots; omega⟩) hS (fun q _ h => h.elim) (fun q h => h.elim) (fun r1 u t H1 locs ht hvm hw hB hz1 hk1 hS => ?_)
  obtain rfl := hw
  replace hP := hP.kept (fun k q hk => hk1 q.1 (hP k q hk).lt (fun h => h))
  clear hk1 hz1 ht
  generalize H1 = H at hP hS ⊢
  have hPc := hP.sub (ws' := [(a, .inr (8, [.null, .null, .null, .null, .null, .null, .null, .null, .null, .int 0, .int 0]))]) [0] rfl
  have hDc := hD.sub (ws' := [(a, .inr (8, [.null, .null, .null, .null, .null, .null, .null, .null, .null, .int 0, .int 0]))]) [0] (by decide) rfl
  have hFc := va_free (wc := [(a, .inr (8, [.null, .null, .null, .null, .null, .null, .null, .null, .null, .int 0, .int 0]))]) hD hS hA [0] rfl
  refine va_callv (va_runI (Ts := TB) (As := [.int (v0 L xs)]) (rest := [.ref a]) ⟨hx, hb, hml, hown, hT⟩ (kX10_init l g H.size a (NV (v0 L xs)) (v0 L xs) hN2 hHalf hHalf2 hNN) (cwI 1 hT (TB_in1 mw1_13) rfl rfl rfl (hT _ mw1_2) (hT _ mw1_11) (hT _ mw1_12) rfl (by decide +kernel) ⟨Nat.le_of_ble_eq_true rfl, Nat.le_of_ble_eq_true rfl⟩) ⟨fun a U f mk q => ⟨q.1, q.2.1, q.2.2.1, va_K.moved (u := U) (U := U.calling f mk a) (Vm.Alike.refl U.vm) q.2.2.2.1, q.2.2.2.2.1, va_Nw.same rfl rfl q.2.2.2.2.2.1, va_Nw.same rfl rfl q.2.2.2.2.2.2.1, va_Nw.same rfl rfl q.2.2.2.2.2.2.2.1, va_Nw.same rfl rfl q.2.2.2.2.2.2.2.2.1, va_Nw.same rfl rfl q.2.2.2.2.2.2.2.2.2⟩, fun U hU hW => ⟨rfl, by rw [hU], by rw [hU]; exact hPc, va_K.moved hW.alike hK, hDc.weaken (fun _ _ _ _ => trivial), va_Nw.warmM hW hn_X10_29, va_Nw.warmM hW hn_X10_64, va_Nw.warmM hW hn_X10_74, va_Nw.warmM hW hn_X0_11, va_Nw.warmM hW hn_X0_23⟩⟩ rfl rfl hl.1 rfl (lv_room (Nat.le_of_ble_eq_true rfl)) dL_law_9 ⟨by show _ ≤ room_1.cells; omega, by show _ ≤ room_1.slots; omega⟩) hS (fun q _ h => hFc q h) hFc (fun u t H1 locs ht hvm hw hB hz1 hk1 hS => ?_)
  obtain ⟨q1, q2, q3, q4, q5, q6, q7, q8, q9, q10, q11, q12, q13, q14, q15, q16, q17, q18, q19, q20, q21, q22, q23, q24, q25, q26, q27, q28, q29, q30, q31, q32, q33, q34, q35, q36, q37, q38, q39, hP1, hD1⟩ := hB
  rw [ht] at hP1
  obtain ⟨ad, rd, e0, hP2, hD2⟩ := wc_of hP1 hD1
  subst e0
  have hP : va_P (gD g) vwCl (WC g ad rd (ln0 (NV (v0 L xs))) (fi0 (NV (v0 L xs))) (fun _ _ => 0)) H1 := hP2
  have hD : va_D (fun q : Nat => s.heap.size ≤ q) (WC g ad rd (ln0 (NV (v0 L xs))) (fi0 (NV (v0 L xs))) (fun _ _ => 0)) := hD2.weaken (fun k q _ h => hFc q.1 h)
  clear hP1 hD1 hP2 hD2 hPc hDc hFc hk1 hz1 ht
  generalize H1 = H at hP hS ⊢
  refine lv_astore_n (lv' := [(1, .ref (ad 0)), (0, .ref b)]) hx hb dL_law_12 rfl hl (by decide) rfl (fun ls hl => ?_)
  refine va_new (ci := 9) (fs := [.int 0, .null, .null, .null, .int 0, .int 0, .int 0, .int 0, .int 0, .int 0, .int 0, .int 0, .int 0, .int 0, .int 0, .int 0, .int 0, .int 0, .int 0, .null, .null, .null, .null, .null, .null, .null, .null, .null, .null, .null, .null, .int 0, .int 0, .int 0, .null, .int 0, .int 0, .int 0, .int 0, .null, .null, .null]) (C := RX11) (T := TX11) (N := 42) hx hb hT inTX110 tyX11 tyX11_ok hown (hT _ mw1_3) (hT _ mw1_4) (hT _ mw1_5) hK hP hD hS hA rfl (fun j hj => by rcases (show j = 0 ∨ j = 1 ∨ j = 2 ∨ j = 3 ∨ j = 4 ∨ j = 5 ∨ j = 6 ∨ j = 7 ∨ j = 8 ∨ j = 9 ∨ j = 10 ∨ j = 11 ∨ j = 12 ∨ j = 13 ∨ j = 14 ∨ j = 15 ∨ j = 16 ∨ j = 17 ∨ j = 18 ∨ j = 19 ∨ j = 20 ∨ j = 21 ∨ j = 22 ∨ j = 23 ∨ j = 24 ∨ j = 25 ∨ j = 26 ∨ j = 27 ∨ j = 28 ∨ j = 29 ∨ j = 30 ∨ j = 31 ∨ j = 32 ∨ j = 33 ∨ j = 34 ∨ j = 35 ∨ j = 36 ∨ j = 37 ∨ j = 38 ∨ j = 39 ∨ j = 40 ∨ j = 41 by omega) with rfl | rfl | rfl | rfl | rfl | rfl | rfl | rfl | rfl | rfl | rfl | rfl | rfl | rfl | rfl | rfl | rfl | rfl | rfl | rfl | rfl | rfl | rfl | rfl | rfl | rfl | rfl | rfl | rfl | rfl | rfl | rfl | rfl | rfl | rfl | rfl | rfl | rfl | rfl | rfl | rfl | rfl <;> rfl) (by show _ ≤ room_1.cells; omega) (by show _ ≤ room_1.slots; omega) dL_law_13 (fun a2 H hP hD hS => ?_)
  refine lv_dup hx hb dL_law_16 rfl ?_
  refine lv_aload_n hx hb dL_law_17 rfl (lv_at hl 1 rfl) ?_
  refine lv_iconst (v := (0 : Int32)) hx hb dL_law_18 (by decide) ?_
  refine va_calli (va_runS (Ts := TB) (As := [.ref b, .int 0]) (rest := [.ref a2, .ref a2]) ⟨hx, hb, hml, hown, hT⟩ (kL_cell l b L xs hL) ⟨callB_of 2 hT (TB_in1 mw1_10) rfl rfl rfl (hT _ mw1_9) (hT _ mw1_7) (by decide +kernel) ⟨Nat.le_of_ble_eq_true rfl, Nat.le_of_ble_eq_true rfl⟩, hT _ mw1_8⟩ ⟨fun a U f mk q => ⟨q.1, va_X.moved (u := U) (U := U.calling f mk a) (Vm.Alike.refl U.vm) q.2.1, q.2.2⟩, fun U hU hW => ⟨rfl, va_X.moved hW.alike (va_X.kept hX (by rw [hU]; exact hS.2.1 b hbl hbA)), by rw [hU]; exact Nat.lt_of_lt_of_le hbl hS.1⟩⟩ rfl rfl hl.1 rfl (lv_room (Nat.le_of_ble_eq_true rfl)) dL_law_19 ⟨by show _ ≤ room_1.cells; omega, by show _ ≤ room_1.slots; omega⟩) hS (fun q _ h => h.elim) (fun q h => h.elim) (fun r1 u t H1 locs ht hvm hw hB hz1 hk1 hS => ?_)
  obtain rfl := hw
  replace hP := hP.kept (fun k q hk => hk1 q.1 (hP k q hk).lt (fun h => h))
  clear hk1 hz1 ht
  generalize H1 = H at hP hS ⊢
  have hPc := hP.sub (ws' := [(a2, .inr (9, [.int 0, .null, .null, .null, .int 0, .int 0, .int 0, .int 0, .int 0, .int 0, .int 0, .int 0, .int 0, .int 0, .int 0, .int 0, .int 0, .int 0, .int 0, .null, .null, .null, .null, .null, .null, .null, .null, .null, .null, .null, .null, .int 0, .int 0, .int 0, .null, .int 0, .int 0, .int 0, .int 0, .null, .null, .null]))]) [40] rfl
  have hDc := hD.sub (ws' := [(a2, .inr (9, [.int 0, .null, .null, .null, .int 0, .int 0, .int 0, .int 0, .int 0, .int 0, .int 0, .int 0, .int 0, .int 0, .int 0, .int 0, .int 0, .int 0, .int 0, .null, .null, .null, .null, .null, .null, .null, .null, .null, .null, .null, .null, .int 0, .int 0, .int 0, .null, .int 0, .int 0, .int 0, .int 0, .null, .null, .null]))]) [40] (by decide) rfl
  have hFc := va_free (wc := [(a2, .inr (9, [.int 0, .null, .null, .null, .int 0, .int 0, .int 0, .int 0, .int 0, .int 0, .int 0, .int 0, .int 0, .int 0, .int 0, .int 0, .int 0, .int 0, .int 0, .null, .null, .null, .null, .null, .null, .null, .null, .null, .null, .null, .null, .int 0, .int 0, .int 0, .null, .int 0, .int 0, .int 0, .int 0, .null, .null, .null]))]) hD hS hA [40] rfl
  refine va_callv (va_runI (Ts := TB) (As := [.int (v0 L xs)]) (rest := [.ref a2]) ⟨hx, hb, hml, hown, hT⟩ (kX11_init l g H.size a2 (NV (v0 L xs)) (v0 L xs) hm) (cwI 1 hT (TB_in1 mw5_22) rfl rfl rfl (hT _ mw1_5) (hT _ mw5_20) (hT _ mw5_21) rfl (by decide +kernel) ⟨Nat.le_of_ble_eq_true rfl, Nat.le_of_ble_eq_true rfl⟩) ⟨fun a U f mk q => ⟨q.1, q.2.1, q.2.2.1, va_K.moved (u := U) (U := U.calling f mk a) (Vm.Alike.refl U.vm) q.2.2.2.1, q.2.2.2.2⟩, fun U hU hW => ⟨rfl, by rw [hU], by rw [hU]; exact hPc, va_K.moved hW.alike hK, hDc.weaken (fun _ _ _ _ => trivial)⟩⟩ rfl rfl hl.1 rfl (lv_room (Nat.le_of_ble_eq_true rfl)) dL_law_22 ⟨by show _ ≤ room_1.cells; omega, by show _ ≤ room_1.slots; omega⟩) hS (fun q _ h => hFc q h) hFc (fun u t H1 locs ht hvm hw hB hz1 hk1 hS => ?_)
  obtain ⟨r1, r2, r3, r4, r5, r6, r7, r8, r9, r10, r11, r12, r13, r14, r15, r16, r17, r18, r19, hP1, hD1⟩ := hB
  rw [ht] at hP1
  obtain ⟨hP, hD⟩ := va_join (wr := WC g ad rd (ln0 (NV (v0 L xs))) (fi0 (NV (v0 L xs))) (fun _ _ => 0)) (w1 := [(a2, .inr (9, [.int (nI (NV (v0 L xs))), .ref r1, .ref r2, .ref r3, .int 0, .int 0, .int 0, .int 0, .int 0, .int 0, .int 0, .int 0, .int 0, .int 0, .int 0, .int 0, .int 0, .int 0, .int 0, .ref r4, .ref r5, .ref r6, .ref r7, .ref r8, .ref r9, .ref r10, .ref r11, .ref r12, .ref r13, .ref r14, .ref r15, .int 0, .int 0, .int 0, .ref r16, .int 0, .int 0, .int 0, .int 0, .ref r17, .ref r18, .ref r19])), (r1, .inl (g.2.2.1 0, 524288, .inl (fun _ => 0))), (r2, .inl (g.2.2.1 0, 4096, .inl (fun _ => 0))), (r3, .inl (g.2.2.1 0, 20, .inl (fun _ => 0))), (r4, .inl (g.2.2.1 3, 560, .inl (fun _ => 0))), (r5, .inl (g.2.2.1 2, 16400, .inl (fun _ => 0))), (r6, .inl (g.2.2.1 2, 16400, .inl (fun _ => 0))), (r7, .inl (g.2.2.1 2, 16400, .inl (fun _ => 0))), (r8, .inl (g.2.2.1 2, 16400, .inl (fun _ => 0))), (r9, .inl (g.2.2.1 2, 16400, .inl (fun _ => 0))), (r10, .inl (g.2.2.1 2, 16400, .inl (fun _ => 0))), (r11, .inl (g.2.2.1 2, 16400, .inl (fun _ => 0))), (r12, .inl (g.2.2.1 2, 16400, .inl (fun _ => 0))), (r13, .inl (g.2.2.1 1, 213600, .inl (fun _ => 0))), (r14, .inl (g.2.2.1 2, 560, .inl (fun _ => 0))), (r15, .inl (g.2.2.1 2, 560, .inl (fun _ => 0))), (r16, .inl (g.2.2.1 1, 300, .inl (fun _ => 0))), (r17, .inl (g.2.2.1 2, 11, .inl (fun _ => 0))), (r18, .inl (g.2.2.1 2, 255, .inl (fun _ => 0))), (r19, .inl (g.2.2.1 2, 3, .inl (fun _ => 0)))]) hP hD [40] (List.range 40) rfl rfl (by decide) (by decide) hk1 hFc hP1 hD1
  clear hPc hDc hFc hk1
  obtain ⟨am, e1, hPm, hDm⟩ := wm_of2 (X := WC g ad rd (ln0 (NV (v0 L xs))) (fi0 (NV (v0 L xs))) (fun _ _ => 0)) hP1 hD
  have hPo : va_P (gD g) vwCl (WC g ad rd (ln0 (NV (v0 L xs))) (fi0 (NV (v0 L xs))) (fun _ _ => 0)) H1 := hP.sub (List.range 40) rfl
  clear hP hD hP1 hD1 hz1 ht
  subst e1
  have hP : va_P (gD g) vwCl (WC g ad rd (ln0 (NV (v0 L xs))) (fi0 (NV (v0 L xs))) (fun _ _ => 0) ++ WM g am (fiM0 (NV (v0 L xs))) (fun _ _ => 0)) H1 := va_P.app hPo hPm
  clear hPo hPm
  generalize H1 = H at hP hS ⊢
  refine lv_astore_n (lv' := [(2, .ref (am 0)), (1, .ref (ad 0)), (0, .ref b)]) hx hb dL_law_25 rfl hl (by decide) rfl (fun ls hl => ?_)
  refine lv_iconst (v := (1 : Int32)) hx hb dL_law_26 (by decide) ?_
  refine nw_4 hx hb hT hK hP hDm hS hA (by show _ ≤ room_1.cells; omega) (by show _ ≤ room_1.slots; omega) dL_law_27 (fun ou H hP hD hS => ?_)
  refine lv_astore_n (lv' := [(3, .ref ou), (2, .ref (am 0)), (1, .ref (ad 0)), (0, .ref b)]) hx hb dL_law_29 rfl hl (by decide) rfl (fun ls hl => ?_)
  refine lv_iconst (v := (1 : Int32)) hx hb dL_law_30 (by decide) ?_
  refine lv_istore (lv' := [(4, .int 1), (3, .ref ou), (2, .ref (am 0)), (1, .ref (ad 0)), (0, .ref b)]) hx hb dL_law_31 hl (by decide) rfl (fun ls hl => ?_)
  have hDL : va_D (fun q : Nat => s.heap.size ≤ q) (WL g ad rd am (ln0 (NV (v0 L xs))) ou (fi0 (NV (v0 L xs))) (fun _ _ => 0) (fun _ => 0) (fiM0 (NV (v0 L xs))) (fun _ _ => 0)) := hD.sub (List.range 40 ++ [60] ++ (List.range 20).map (fun k => 40 + k)) (by decide) rfl
  exact law_loop hlt hx hb hr hml hown hTX hX hbl hlocks hK hE hEX hNc kf 1 _ _ _ _ _ _ kc ks _ _ rd H _ ls hF (by omega) (by omega) (lv_sub hl [4, 3, 2, 1, 0] rfl) (hP.sub (List.range 40 ++ [60]) rfl) (hP.sub ((List.range 20).map (fun k => 40 + k)) rfl) (dLre hDL) hS
