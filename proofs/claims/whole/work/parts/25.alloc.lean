
def cpyN (f : Nat → Int32) (n : Nat) (v : Int32) : Nat → Int32 := va_cpy f (fun _ => 0) 0 0 (if v < Int32.ofNat n then v else Int32.ofNat n).toNatClampNeg
abbrev Bcopy (g : GT) (a sz n : Nat) (f : Nat → Int32) (v : Int32) : Unit → Nat → State → Prop := fun _ q t => va_P (gD g) vwCl [(a, .inl (g.2.2.1 2, n, .inl f)), (q, .inl (g.2.2.1 2, v.toNatClampNeg, .inl (cpyN f n v)))] t.heap ∧ sz ≤ q
set_option maxHeartbeats 4000000 in
set_option maxRecDepth 100000 in
theorem k_copyOf (l : Launch) (g : GT) (a sz n : Nat) (f : Nat → Int32) (v : Int32) (hn : n < 2 ^ 31) (hv : ¬ v < 0) (hne : ¬ v = Int32.ofNat n) (hb4 : v.toNatClampNeg * 4 ≤ 536870912) : Met l yJ7_copyOf_59c91 (wx yJ7_copyOf_59c91 cJ7_copyOf_59c91 3 (some (.array .int))) ({ frames := 1, cells := 1, slots := v.toNatClampNeg, locals := 60 } : Room) (va_Pc [.ref a, .int v] (fun U => U.heap.size = sz ∧ va_P (gD g) vwCl [(a, .inl (g.2.2.1 2, n, .inl f))] U.heap ∧ va_K (gD g) vwCl (tyl g) U)) (va_Qr (fun (_ : Unit) => True) (Bcopy g a sz n f v) (FA a sz)) 1 v.toNatClampNeg (FA a sz) := by
  refine Met.ofW (cc := cJ7_copyOf_59c91) (maxL := 3) (ret := (some (.array .int))) (by decide) rfl ?_
  intro p e s m args below meth c s₁ B hml hw
  obtain ⟨rfl, hsz, hP, hK⟩ := hw
  have hx := B.exec
  have hb := B.bytes
  have hr := B.returns
  have hlocks := B.notSynchronized
  have hts := atoms_spec (ws := (wx yJ7_copyOf_59c91 cJ7_copyOf_59c91 3 (some (.array .int)))) B.pre
  have hT : ∀ w ∈ TB, w.before _ s = true := fun w h => hts w (List.mem_cons_of_mem _ h)
  have hown : s.vm.findClass RJ7 = some m.cls := findClass_of_methodNamed B.named
  subst hsz
  have hD : va_D (FA a s.heap.size) [(a, .inl (g.2.2.1 2, n, .inl f))] := ⟨fun i j x y hi hj _ => by
    have h1 := (List.getElem?_eq_some_iff.mp hi).1
    have h2 := (List.getElem?_eq_some_iff.mp hj).1
    simp only [List.length_cons, List.length_nil] at h1 h2
    omega, fun k q hk => by
    have h1 := (List.getElem?_eq_some_iff.mp hk).1
    simp only [List.length_cons, List.length_nil] at h1
    have h0 : k = 0 := by omega
    subst h0
    cases hk
    exact Or.inl rfl⟩
  have hS : va_S (FA a s.heap.size) s.heap s.heap [] := va_S.rf
  have hA : ∀ q : Nat, s.heap.size ≤ q → FA a s.heap.size q := fun q h => Or.inr h
  have hal : a < s.heap.size := (hP 0 _ rfl).lt
  obtain ⟨j, hj, rfl⟩ := nI_of hv
  have hjc : (nI j).toNatClampNeg = j := nI_clamp hj
  have hl := lv_entry ([.ref a, .int (nI j)]) (n := 3) (Nat.le_of_ble_eq_true rfl)
  rw [lg_entry_eq]
  generalize (lg_sl ([.ref a, .int (nI j)]) ++ List.replicate (3 - (lg_sl ([.ref a, .int (nI j)])).length) Slot.unset).toArray = ls at hl ⊢
  have hl : lv_has ls 3 [(0, .ref a), (1, .int (nI j))] := hl
  refine lv_iload_n hx hb dJ7_copyOf_59c91_0 rfl (lv_at hl 1 rfl) ?_
  refine lv_aload_n hx hb dJ7_copyOf_59c91_1 rfl (lv_at hl 0 rfl) ?_
  refine va_alen hx hb hK hP 0 2 rfl (ty := .int) rfl rfl dJ7_copyOf_59c91_2 ?_
  refine lv_icmp_ne (tgt := 14) hx hb dJ7_copyOf_59c91_3 (by decide) (fun hc => ?_) (fun hc => absurd hc hne)
  refine lv_iload_n hx hb dJ7_copyOf_59c91_14 rfl (lv_at hl 1 rfl) ?_
  refine va_newa (atype := .int) (N' := j) (a0 := (j, .inl (fun _ => 0))) (ty := .int) hx hb (hT _ mw3_13) rfl hK hP hD hS hA (fun _ => rfl) hv hjc (by rw [hjc] at hb4; exact hb4) (Nat.le_refl 1) (by show 0 + j ≤ _; rw [Nat.zero_add]; exact Nat.le_of_eq hjc.symm) dJ7_copyOf_59c91_15 (fun q cA H hK hP hD hS => ?_)
  have hcA : g.2.2.1 2 = cA := by
    have h1 := (hK.2 2 (g.2.2.1 2, .int) rfl).2
    have h2 := (hK.2 5 (cA, .int) rfl).2
    exact Option.some.inj (h1.symm.trans h2)
  subst hcA
  have hP : va_P (gD g) vwCl [(a, .inl (g.2.2.1 2, n, .inl f)), (q, .inl (g.2.2.1 2, j, .inl (fun _ => 0)))] H := hP
  have hD : va_D (FA a s.heap.size) [(a, .inl (g.2.2.1 2, n, .inl f)), (q, .inl (g.2.2.1 2, j, .inl (fun _ => 0)))] := hD
  have hqn : s.heap.size ≤ q := by
    rcases hD.2 1 _ rfl with h | h
    · have := hD.1 0 1 _ _ rfl rfl h.symm
      omega
    · exact h
  refine lv_astore_n (lv' := [(2, .ref q), (0, .ref a), (1, .int (nI j))]) hx hb dJ7_copyOf_59c91_17 rfl hl (by decide) rfl (fun ls hl => ?_)
  refine lv_aload_n hx hb dJ7_copyOf_59c91_18 rfl (lv_at hl 1 rfl) ?_
  refine lv_iconst (v := (0 : Int32)) hx hb dJ7_copyOf_59c91_19 (by decide) ?_
  refine lv_aload_n hx hb dJ7_copyOf_59c91_20 rfl (lv_at hl 0 rfl) ?_
  refine lv_iconst (v := (0 : Int32)) hx hb dJ7_copyOf_59c91_21 (by decide) ?_
  refine lv_aload_n hx hb dJ7_copyOf_59c91_22 rfl (lv_at hl 1 rfl) ?_
  refine va_alen hx hb hK hP 0 2 rfl (ty := .int) rfl rfl dJ7_copyOf_59c91_23 ?_
  refine lv_iload_n hx hb dJ7_copyOf_59c91_24 rfl (lv_at hl 2 rfl) ?_
  refine va_mmin hx hb (by rw [hml, hl.1]) hown (hT _ mw30_0) (hT _ mw1_18) (hT _ mw1_19) (hT _ mw1_20) (Nat.le_of_ble_eq_true rfl) (Nat.le_of_ble_eq_true rfl) (by show 0 + 1 ≤ 1; omega) (by show 0 + j ≤ (nI j).toNatClampNeg; omega) dJ7_copyOf_59c91_25 ?_
  have hmn : ((if nI j < Int32.ofNat n then nI j else Int32.ofNat n).toNatClampNeg = (if j < n then j else n)) ∧ ¬ (if nI j < Int32.ofNat n then nI j else Int32.ofNat n) < 0 := by
    have h1 : nI j < Int32.ofNat n ↔ j < n := nI_ltI hj hn
    by_cases h : j < n
    · rw [if_pos (h1.mpr h), if_pos h]; exact ⟨hjc, nI_pos hj⟩
    · rw [if_neg (fun q => h (h1.mp q)), if_neg h]; exact ⟨nI_clamp hn, nI_pos hn⟩
  have hle : (if j < n then j else n) ≤ n ∧ (if j < n then j else n) ≤ j := by by_cases h : j < n <;> simp [h] <;> omega
  refine va_copyi hx hb (by rw [hml, hl.1]) hown (hT _ mw30_1) (hT _ mw30_2) (hT _ mw30_3) (hT _ mw30_4) hK hP hD hS 0 1 2 2 rfl rfl rfl rfl rfl (by decide) (by decide) hmn.2 (by rw [hmn.1]; show 0 + _ ≤ n; omega) (by rw [hmn.1]; show 0 + _ ≤ j; omega) (fun _ _ => rfl) (Nat.le_of_ble_eq_true rfl) (Nat.le_of_ble_eq_true rfl) dJ7_copyOf_59c91_28 (fun H locs hP hD hS => ?_)
  refine lv_aload_n hx hb dJ7_copyOf_59c91_31 rfl (lv_at hl 0 rfl) ?_
  refine W.widen (k := 1) (n := (nI j).toNatClampNeg) (by omega) (by rw [hjc]; omega) ?_
  refine W.aret hx hb hr (Or.inr ⟨_, rfl⟩) (Or.inr ⟨_, rfl⟩) (fun t ht _ => ⟨⟨(), q, rfl, trivial, ?_, hqn⟩, hS.F ht⟩) hS.2.2 dJ7_copyOf_59c91_32 hlocks
  rw [ht, hjc]
  exact hP


theorem va_P.more {D : va_G} {cl : List vw_C} {ws : va_W} {H H1 : Heap} {a q n n' : Nat} {cA : ClassId} {f f' : Nat → Int32} {q0 : Nat} (hP : va_P D cl ws H) (he : ws[q0]? = some (a, .inl (cA, n, .inl f))) (hB : va_P D cl [(a, .inl (cA, n, .inl f)), (q, .inl (cA, n', .inl f'))] H1) (hk : ∀ x : Nat, x < H.size → x ≠ a → H1[x]? = H[x]?) : va_P D cl (ws ++ [(q, .inl (cA, n', .inl f'))]) H1 := by
  refine va_P.app (hP.kept (fun k x hx => ?_)) (fun k x hx => ?_)
  · by_cases h : x.1 = a
    · rw [h]
      exact (hB 0 _ rfl).trans (hP q0 _ he).symm
    · exact hk x.1 (hP k x hx).lt h
  · have h1 := (List.getElem?_eq_some_iff.mp hx).1
    simp only [List.length_cons, List.length_nil] at h1
    have h0 : k = 0 := by omega
    subst h0
    cases hx
    exact hB 1 _ rfl
theorem va_D.more {A : Nat → Prop} {D : va_G} {cl : List vw_C} {ws : va_W} {H : Heap} {q : Nat} {e : va_E} (hD : va_D A ws) (hP : va_P D cl ws H) (hq : H.size ≤ q) (hA : A q) : va_D A (ws ++ [(q, e)]) := by
  refine va_D.app hD ⟨fun i j x y hi hj _ => ?_, fun k x hx => ?_⟩ (fun i j x y hx hy hxy => ?_)
  · have h1 := (List.getElem?_eq_some_iff.mp hi).1
    have h2 := (List.getElem?_eq_some_iff.mp hj).1
    simp only [List.length_cons, List.length_nil] at h1 h2
    omega
  · have h1 := (List.getElem?_eq_some_iff.mp hx).1
    simp only [List.length_cons, List.length_nil] at h1
    have h0 : k = 0 := by omega
    subst h0
    cases hx
    exact hA
  · have h1 := (List.getElem?_eq_some_iff.mp hy).1
    simp only [List.length_cons, List.length_nil] at h1
    have h0 : j = 0 := by omega
    subst h0
    cases hy
    have h2 := (hP i x hx).lt
    rw [hxy] at h2
    exact absurd h2 (Nat.not_lt.mpr hq)
theorem dCre {A A1 : Nat → Prop} {g : GT} {ad rd : Nat → Nat} {ln : LN} {fi : FI} {ar : AR} (h : va_D A1 (WC g ad rd ln fi ar)) (hA : ∀ q, A1 q → A q) : ∀ (ln : LN) (fi : FI) (ar : AR), va_D A (WC g ad rd ln fi ar) := fun ln2 fi2 ar2 => va_D.re h rfl (fun a ha => by
  obtain ⟨c, hc, rfl⟩ := List.mem_map.mp (show a ∈ (WC g ad rd ln fi ar).map (fun q => q.1) from ha)
  obtain ⟨k, hk⟩ := List.getElem?_of_mem hc
  exact hA _ (h.2 k c hk))
section COPY
variable {p : Program} {l : Launch} {e : Env} {R : Room} {s : State} {m : MethodId} {args : Array Value} {below : List Frame} {meth : Method} {c : Code} {H : Heap} {locs : List Loc} {cells slots : Nat} {Q : State → Prop}
variable {cc : ByteArray} {pc : Nat} {ls : Array Slot} {rest : List Value} {A : Nat → Prop} {g : GT} {ad rd : Nat → Nat} {ln : LN} {fi : FI} {ar : AR} {index ix2 i : Nat}
theorem rlP_entrySlots {q n : Nat} {f : Nat → Int32} (hi : i < 3) (h : va_P (gD g) vwCl ((WC g ad rd ln fi ar ++ ([(q, .inl (g.2.2.1 2, n, .inl f))] : va_W)).set (11 + 5 * i) ((ad (11 + 5 * i), .inr (1, ([.ref (ad (1)), .int (fi (20 + 10 * i)), .int (fi (21 + 10 * i)), .int (fi (22 + 10 * i)), .ref (ad (6)), .ref (ad (12 + 5 * i)), .int (fi (23 + 10 * i)), .int (fi (24 + 10 * i)), .int (fi (25 + 10 * i)), .ref (rd (13 + 5 * i)), .ref (rd (14 + 5 * i)), .ref (rd (15 + 5 * i))] : List Value).set 9 (.ref q))) : Nat × va_E)) H) : va_P (gD g) vwCl (WC g ad (va_up rd (13 + 5 * i) q) (va_up ln (11 + 4 * i) n) fi (va_up ar (11 + 4 * i) f)) H := match i, hi with
  | 0, _ => h.sub [0, 1, 2, 3, 4, 5, 6, 7, 8, 9, 10, 11, 12, 40, 14, 15, 16, 17, 18, 19, 20, 21, 22, 23, 24, 25, 26, 27, 28, 29, 30, 31, 32, 33, 34, 35, 36, 37, 38, 39] rfl
  | 1, _ => h.sub [0, 1, 2, 3, 4, 5, 6, 7, 8, 9, 10, 11, 12, 13, 14, 15, 16, 17, 40, 19, 20, 21, 22, 23, 24, 25, 26, 27, 28, 29, 30, 31, 32, 33, 34, 35, 36, 37, 38, 39] rfl
  | 2, _ => h.sub [0, 1, 2, 3, 4, 5, 6, 7, 8, 9, 10, 11, 12, 13, 14, 15, 16, 17, 18, 19, 20, 21, 22, 40, 24, 25, 26, 27, 28, 29, 30, 31, 32, 33, 34, 35, 36, 37, 38, 39] rfl
theorem rlD_entrySlots {q n : Nat} {f : Nat → Int32} (hi : i < 3) (h : va_D A ((WC g ad rd ln fi ar ++ ([(q, .inl (g.2.2.1 2, n, .inl f))] : va_W)).set (11 + 5 * i) ((ad (11 + 5 * i), .inr (1, ([.ref (ad (1)), .int (fi (20 + 10 * i)), .int (fi (21 + 10 * i)), .int (fi (22 + 10 * i)), .ref (ad (6)), .ref (ad (12 + 5 * i)), .int (fi (23 + 10 * i)), .int (fi (24 + 10 * i)), .int (fi (25 + 10 * i)), .ref (rd (13 + 5 * i)), .ref (rd (14 + 5 * i)), .ref (rd (15 + 5 * i))] : List Value).set 9 (.ref q))) : Nat × va_E))) : va_D A (WC g ad (va_up rd (13 + 5 * i) q) (va_up ln (11 + 4 * i) n) fi (va_up ar (11 + 4 * i) f)) := match i, hi with
  | 0, _ => h.sub [0, 1, 2, 3, 4, 5, 6, 7, 8, 9, 10, 11, 12, 40, 14, 15, 16, 17, 18, 19, 20, 21, 22, 23, 24, 25, 26, 27, 28, 29, 30, 31, 32, 33, 34, 35, 36, 37, 38, 39] (by decide) rfl
  | 1, _ => h.sub [0, 1, 2, 3, 4, 5, 6, 7, 8, 9, 10, 11, 12, 13, 14, 15, 16, 17, 40, 19, 20, 21, 22, 23, 24, 25, 26, 27, 28, 29, 30, 31, 32, 33, 34, 35, 36, 37, 38, 39] (by decide) rfl
  | 2, _ => h.sub [0, 1, 2, 3, 4, 5, 6, 7, 8, 9, 10, 11, 12, 13, 14, 15, 16, 17, 18, 19, 20, 21, 22, 40, 24, 25, 26, 27, 28, 29, 30, 31, 32, 33, 34, 35, 36, 37, 38, 39] (by decide) rfl
set_option maxHeartbeats 4000000 in
theorem cCopy_entrySlots {nL : Nat} {v : Int32} (hi : i < 3) (hx : p.tables.exec = Jvm.exec) (hb : c.code = cc) (hml : c.maxLocals = nL) (hT : ∀ w ∈ TB, w.before args s = true) (hown : s.vm.findClass RX2 = some m.cls) (hK : va_K (gD g) vwCl (tyl g) s) (hA : ∀ q : Nat, s.heap.size ≤ q → A q)
    (hP : va_P (gD g) vwCl (WC g ad rd ln fi ar) H) (hD : ∀ (fi : FI) (ar : AR), va_D A (WC g ad rd ln fi ar)) (hS : va_S A s.heap H locs)
    (hgd : ln (11 + 4 * i) < 2 ^ 31 ∧ ¬ v < 0 ∧ ¬ v = Int32.ofNat (ln (11 + 4 * i)) ∧ v.toNatClampNeg * 4 ≤ 536870912)
    (hl : Cond.methodLink RX2 index yJ7_copyOf_59c91 ∈ TB) (hl2 : Cond.fieldLink RX2 ix2 "TableVolumes$Directory" "entrySlots" "[I" ∈ TB) (hR : 2 ≤ R.frames ∧ 82 ≤ R.locals) (hls : ls.size = nL) (hW : (rest.map fun v => v.category).sum ≤ 6)
    (hdg : decode cc pc = .ok (.invokestatic index, 3)) (hdg2 : decode cc (pc + 3) = .ok (.putfield ix2, 3)) (hc : cells + 1 ≤ R.cells) (hs : slots + v.toNatClampNeg ≤ R.slots)
    (kk : ∀ (rd : Nat → Nat) (H : Heap) (locs : List Loc), va_P (gD g) vwCl (WC g ad rd (va_up ln (11 + 4 * i) v.toNatClampNeg) fi (va_up ar (11 + 4 * i) (cpyN (ar (11 + 4 * i)) (ln (11 + 4 * i)) v))) H → (∀ (ln : LN) (fi : FI) (ar : AR), va_D A (WC g ad rd ln fi ar)) → va_S A s.heap H locs → W p l e R s m args below meth c H locs (cells + 1) (slots + v.toNatClampNeg) Q (F0 m (pc + 3 + 3) ls rest)) :
    W p l e R s m args below meth c H locs cells slots Q (F0 m pc ls (.int v :: .ref (rd (13 + 5 * i)) :: .ref (ad (11 + 5 * i)) :: rest)) := by
  have he := wa_entrySlots (g := g) (ad := ad) (rd := rd) (ln := ln) (fi := fi) (ar := ar) hi
  have hin : ∀ q, FA (rd (13 + 5 * i)) H.size q → A q := fun q h => h.elim (fun e => by rw [e]; exact (hD fi ar).2 _ _ he) (fun h => hA q (Nat.le_trans hS.1 h))
  have h1 : va_P (gD g) vwCl [(rd (13 + 5 * i), .inl (g.2.2.1 2, ln (11 + 4 * i), .inl (ar (11 + 4 * i))))] H := fun k q hk => by
    have h1 := (List.getElem?_eq_some_iff.mp hk).1
    simp only [List.length_cons, List.length_nil] at h1
    have h0 : k = 0 := by omega
    subst h0
    cases hk
    exact hP _ _ he
  refine va_callr (va_runS (Ts := TB) (As := [.ref (rd (13 + 5 * i)), .int v]) (rest := .ref (ad (11 + 5 * i)) :: rest) ⟨hx, hb, hml, hown, hT⟩ (k_copyOf l g (rd (13 + 5 * i)) H.size (ln (11 + 4 * i)) (ar (11 + 4 * i)) v hgd.1 hgd.2.1 hgd.2.2.1 hgd.2.2.2) ⟨callB_of 2 hT (TB_in1 mw29_17) rfl rfl rfl (hT _ mw8_0) (hT _ hl) (by decide +kernel) ⟨hR.1, hR.2⟩, hT _ mw29_16⟩ ⟨fun b U f mk q => ⟨q.1, q.2.1, q.2.2.1, va_K.moved (u := U) (U := U.calling f mk b) (Vm.Alike.refl U.vm) q.2.2.2⟩, fun U hU hW => ⟨rfl, by rw [hU], by rw [hU]; exact h1, va_K.moved hW.alike hK⟩⟩ rfl rfl hls rfl (lv_room (by rw [List.map_cons, List.sum_cons]; show 1 + _ ≤ 8; omega)) hdg ⟨hc, hs⟩) hS (fun q _ h => hin q h) hin (fun u q t H1 locs1 ht hvm hw hB hz1 hk1 hS => ?_)
  obtain ⟨hB, hq⟩ := hB
  rw [ht] at hB
  have hP2 := hP.more he hB (fun x h2 h3 => hk1 x h2 (fun h => h.elim h3 (fun h => absurd h2 (Nat.not_lt.mpr h))))
  have hD2 : va_D A (WC g ad rd ln fi ar ++ ([(q, .inl (g.2.2.1 2, v.toNatClampNeg, .inl (cpyN (ar (11 + 4 * i)) (ln (11 + 4 * i)) v)))] : va_W)) := (hD fi ar).more hP hq (hin q (Or.inr hq))
  refine va_put (ci := 1) (v := .ref q) (ty := .array .int) (C := RX2) (T := TX2) (N := 12) hx hb hT inTX20 tyX2 tyX2_ok nmX2 hown hK hP2 hD2 hS (11 + 5 * i) (by rw [List.getElem?_append_left (by show 11 + 5 * i < 40; omega)]; exact wc_X2 hi) rfl 9 (by decide) (hT _ hl2) (fun _ h => h) rfl (by decide +kernel) rfl rfl (Nat.le_of_ble_eq_true rfl) hdg2 (fun H2 locs2 hP3 hD3 hS => ?_)
  exact kk (va_up rd (13 + 5 * i) q) H2 locs2 (rlP_entrySlots hi hP3) (dCre (rlD_entrySlots hi hD3) (fun _ h => h)) hS
theorem rlP_partCounts {q n : Nat} {f : Nat → Int32} (hi : i < 3) (h : va_P (gD g) vwCl ((WC g ad rd ln fi ar ++ ([(q, .inl (g.2.2.1 2, n, .inl f))] : va_W)).set (11 + 5 * i) ((ad (11 + 5 * i), .inr (1, ([.ref (ad (1)), .int (fi (20 + 10 * i)), .int (fi (21 + 10 * i)), .int (fi (22 + 10 * i)), .ref (ad (6)), .ref (ad (12 + 5 * i)), .int (fi (23 + 10 * i)), .int (fi (24 + 10 * i)), .int (fi (25 + 10 * i)), .ref (rd (13 + 5 * i)), .ref (rd (14 + 5 * i)), .ref (rd (15 + 5 * i))] : List Value).set 10 (.ref q))) : Nat × va_E)) H) : va_P (gD g) vwCl (WC g ad (va_up rd (14 + 5 * i) q) (va_up ln (12 + 4 * i) n) fi (va_up ar (12 + 4 * i) f)) H := match i, hi with
  | 0, _ => h.sub [0, 1, 2, 3, 4, 5, 6, 7, 8, 9, 10, 11, 12, 13, 40, 15, 16, 17, 18, 19, 20, 21, 22, 23, 24, 25, 26, 27, 28, 29, 30, 31, 32, 33, 34, 35, 36, 37, 38, 39] rfl
  | 1, _ => h.sub [0, 1, 2, 3, 4, 5, 6, 7, 8, 9, 10, 11, 12, 13, 14, 15, 16, 17, 18, 40, 20, 21, 22, 23, 24, 25, 26, 27, 28, 29, 30, 31, 32, 33, 34, 35, 36, 37, 38, 39] rfl
  | 2, _ => h.sub [0, 1, 2, 3, 4, 5, 6, 7, 8, 9, 10, 11, 12, 13, 14, 15, 16, 17, 18, 19, 20, 21, 22, 23, 40, 25, 26, 27, 28, 29, 30, 31, 32, 33, 34, 35, 36, 37, 38, 39] rfl
theorem rlD_partCounts {q n : Nat} {f : Nat → Int32} (hi : i < 3) (h : va_D A ((WC g ad rd ln fi ar ++ ([(q, .inl (g.2.2.1 2, n, .inl f))] : va_W)).set (11 + 5 * i) ((ad (11 + 5 * i), .inr (1, ([.ref (ad (1)), .int (fi (20 + 10 * i)), .int (fi (21 + 10 * i)), .int (fi (22 + 10 * i)), .ref (ad (6)), .ref (ad (12 + 5 * i)), .int (fi (23 + 10 * i)), .int (fi (24 + 10 * i)), .int (fi (25 + 10 * i)), .ref (rd (13 + 5 * i)), .ref (rd (14 + 5 * i)), .ref (rd (15 + 5 * i))] : List Value).set 10 (.ref q))) : Nat × va_E))) : va_D A (WC g ad (va_up rd (14 + 5 * i) q) (va_up ln (12 + 4 * i) n) fi (va_up ar (12 + 4 * i) f)) := match i, hi with
  | 0, _ => h.sub [0, 1, 2, 3, 4, 5, 6, 7, 8, 9, 10, 11, 12, 13, 40, 15, 16, 17, 18, 19, 20, 21, 22, 23, 24, 25, 26, 27, 28, 29, 30, 31, 32, 33, 34, 35, 36, 37, 38, 39] (by decide) rfl
  | 1, _ => h.sub [0, 1, 2, 3, 4, 5, 6, 7, 8, 9, 10, 11, 12, 13, 14, 15, 16, 17, 18, 40, 20, 21, 22, 23, 24, 25, 26, 27, 28, 29, 30, 31, 32, 33, 34, 35, 36, 37, 38, 39] (by decide) rfl
  | 2, _ => h.sub [0, 1, 2, 3, 4, 5, 6, 7, 8, 9, 10, 11, 12, 13, 14, 15, 16, 17, 18, 19, 20, 21, 22, 23, 40, 25, 26, 27, 28, 29, 30, 31, 32, 33, 34, 35, 36, 37, 38, 39] (by decide) rfl
set_option maxHeartbeats 4000000 in
theorem cCopy_partCounts {nL : Nat} {v : Int32} (hi : i < 3) (hx : p.tables.exec = Jvm.exec) (hb : c.code = cc) (hml : c.maxLocals = nL) (hT : ∀ w ∈ TB, w.before args s = true) (hown : s.vm.findClass RX2 = some m.cls) (hK : va_K (gD g) vwCl (tyl g) s) (hA : ∀ q : Nat, s.heap.size ≤ q → A q)
    (hP : va_P (gD g) vwCl (WC g ad rd ln fi ar) H) (hD : ∀ (fi : FI) (ar : AR), va_D A (WC g ad rd ln fi ar)) (hS : va_S A s.heap H locs)
    (hgd : ln (12 + 4 * i) < 2 ^ 31 ∧ ¬ v < 0 ∧ ¬ v = Int32.ofNat (ln (12 + 4 * i)) ∧ v.toNatClampNeg * 4 ≤ 536870912)
    (hl : Cond.methodLink RX2 index yJ7_copyOf_59c91 ∈ TB) (hl2 : Cond.fieldLink RX2 ix2 "TableVolumes$Directory" "partCounts" "[I" ∈ TB) (hR : 2 ≤ R.frames ∧ 82 ≤ R.locals) (hls : ls.size = nL) (hW : (rest.map fun v => v.category).sum ≤ 6)
    (hdg : decode cc pc = .ok (.invokestatic index, 3)) (hdg2 : decode cc (pc + 3) = .ok (.putfield ix2, 3)) (hc : cells + 1 ≤ R.cells) (hs : slots + v.toNatClampNeg ≤ R.slots)
    (kk : ∀ (rd : Nat → Nat) (H : Heap) (locs : List Loc), va_P (gD g) vwCl (WC g ad rd (va_up ln (12 + 4 * i) v.toNatClampNeg) fi (va_up ar (12 + 4 * i) (cpyN (ar (12 + 4 * i)) (ln (12 + 4 * i)) v))) H → (∀ (ln : LN) (fi : FI) (ar : AR), va_D A (WC g ad rd ln fi ar)) → va_S A s.heap H locs → W p l e R s m args below meth c H locs (cells + 1) (slots + v.toNatClampNeg) Q (F0 m (pc + 3 + 3) ls rest)) :
    W p l e R s m args below meth c H locs cells slots Q (F0 m pc ls (.int v :: .ref (rd (14 + 5 * i)) :: .ref (ad (11 + 5 * i)) :: rest)) := by
  have he := wa_partCounts (g := g) (ad := ad) (rd := rd) (ln := ln) (fi := fi) (ar := ar) hi
  have hin : ∀ q, FA (rd (14 + 5 * i)) H.size q → A q := fun q h => h.elim (fun e => by rw [e]; exact (hD fi ar).2 _ _ he) (fun h => hA q (Nat.le_trans hS.1 h))
  have h1 : va_P (gD g) vwCl [(rd (14 + 5 * i), .inl (g.2.2.1 2, ln (12 + 4 * i), .inl (ar (12 + 4 * i))))] H := fun k q hk => by
    have h1 := (List.getElem?_eq_some_iff.mp hk).1
    simp only [List.length_cons, List.length_nil] at h1
    have h0 : k = 0 := by omega
    subst h0
    cases hk
    exact hP _ _ he
  refine va_callr (va_runS (Ts := TB) (As := [.ref (rd (14 + 5 * i)), .int v]) (rest := .ref (ad (11 + 5 * i)) :: rest) ⟨hx, hb, hml, hown, hT⟩ (k_copyOf l g (rd (14 + 5 * i)) H.size (ln (12 + 4 * i)) (ar (12 + 4 * i)) v hgd.1 hgd.2.1 hgd.2.2.1 hgd.2.2.2) ⟨callB_of 2 hT (TB_in1 mw29_17) rfl rfl rfl (hT _ mw8_0) (hT _ hl) (by decide +kernel) ⟨hR.1, hR.2⟩, hT _ mw29_16⟩ ⟨fun b U f mk q => ⟨q.1, q.2.1, q.2.2.1, va_K.moved (u := U) (U := U.calling f mk b) (Vm.Alike.refl U.vm) q.2.2.2⟩, fun U hU hW => ⟨rfl, by rw [hU], by rw [hU]; exact h1, va_K.moved hW.alike hK⟩⟩ rfl rfl hls rfl (lv_room (by rw [List.map_cons, List.sum_cons]; show 1 + _ ≤ 8; omega)) hdg ⟨hc, hs⟩) hS (fun q _ h => hin q h) hin (fun u q t H1 locs1 ht hvm hw hB hz1 hk1 hS => ?_)
  obtain ⟨hB, hq⟩ := hB
  rw [ht] at hB
  have hP2 := hP.more he hB (fun x h2 h3 => hk1 x h2 (fun h => h.elim h3 (fun h => absurd h2 (Nat.not_lt.mpr h))))
  have hD2 : va_D A (WC g ad rd ln fi ar ++ ([(q, .inl (g.2.2.1 2, v.toNatClampNeg, .inl (cpyN (ar (12 + 4 * i)) (ln (12 + 4 * i)) v)))] : va_W)) := (hD fi ar).more hP hq (hin q (Or.inr hq))
  refine va_put (ci := 1) (v := .ref q) (ty := .array .int) (C := RX2) (T := TX2) (N := 12) hx hb hT inTX20 tyX2 tyX2_ok nmX2 hown hK hP2 hD2 hS (11 + 5 * i) (by rw [List.getElem?_append_left (by show 11 + 5 * i < 40; omega)]; exact wc_X2 hi) rfl 10 (by decide) (hT _ hl2) (fun _ h => h) rfl (by decide +kernel) rfl rfl (Nat.le_of_ble_eq_true rfl) hdg2 (fun H2 locs2 hP3 hD3 hS => ?_)
  exact kk (va_up rd (14 + 5 * i) q) H2 locs2 (rlP_partCounts hi hP3) (dCre (rlD_partCounts hi hD3) (fun _ h => h)) hS
theorem rlP_hashes {q n : Nat} {f : Nat → Int32} (hi : i < 3) (h : va_P (gD g) vwCl ((WC g ad rd ln fi ar ++ ([(q, .inl (g.2.2.1 2, n, .inl f))] : va_W)).set (11 + 5 * i) ((ad (11 + 5 * i), .inr (1, ([.ref (ad (1)), .int (fi (20 + 10 * i)), .int (fi (21 + 10 * i)), .int (fi (22 + 10 * i)), .ref (ad (6)), .ref (ad (12 + 5 * i)), .int (fi (23 + 10 * i)), .int (fi (24 + 10 * i)), .int (fi (25 + 10 * i)), .ref (rd (13 + 5 * i)), .ref (rd (14 + 5 * i)), .ref (rd (15 + 5 * i))] : List Value).set 11 (.ref q))) : Nat × va_E)) H) : va_P (gD g) vwCl (WC g ad (va_up rd (15 + 5 * i) q) (va_up ln (13 + 4 * i) n) fi (va_up ar (13 + 4 * i) f)) H := match i, hi with
  | 0, _ => h.sub [0, 1, 2, 3, 4, 5, 6, 7, 8, 9, 10, 11, 12, 13, 14, 40, 16, 17, 18, 19, 20, 21, 22, 23, 24, 25, 26, 27, 28, 29, 30, 31, 32, 33, 34, 35, 36, 37, 38, 39] rfl
  | 1, _ => h.sub [0, 1, 2, 3, 4, 5, 6, 7, 8, 9, 10, 11, 12, 13, 14, 15, 16, 17, 18, 19, 40, 21, 22, 23, 24, 25, 26, 27, 28, 29, 30, 31, 32, 33, 34, 35, 36, 37, 38, 39] rfl
  | 2, _ => h.sub [0, 1, 2, 3, 4, 5, 6, 7, 8, 9, 10, 11, 12, 13, 14, 15, 16, 17, 18, 19, 20, 21, 22, 23, 24, 40, 26, 27, 28, 29, 30, 31, 32, 33, 34, 35, 36, 37, 38, 39] rfl
theorem rlD_hashes {q n : Nat} {f : Nat → Int32} (hi : i < 3) (h : va_D A ((WC g ad rd ln fi ar ++ ([(q, .inl (g.2.2.1 2, n, .inl f))] : va_W)).set (11 + 5 * i) ((ad (11 + 5 * i), .inr (1, ([.ref (ad (1)), .int (fi (20 + 10 * i)), .int (fi (21 + 10 * i)), .int (fi (22 + 10 * i)), .ref (ad (6)), .ref (ad (12 + 5 * i)), .int (fi (23 + 10 * i)), .int (fi (24 + 10 * i)), .int (fi (25 + 10 * i)), .ref (rd (13 + 5 * i)), .ref (rd (14 + 5 * i)), .ref (rd (15 + 5 * i))] : List Value).set 11 (.ref q))) : Nat × va_E))) : va_D A (WC g ad (va_up rd (15 + 5 * i) q) (va_up ln (13 + 4 * i) n) fi (va_up ar (13 + 4 * i) f)) := match i, hi with
  | 0, _ => h.sub [0, 1, 2, 3, 4, 5, 6, 7, 8, 9, 10, 11, 12, 13, 14, 40, 16, 17, 18, 19, 20, 21, 22, 23, 24, 25, 26, 27, 28, 29, 30, 31, 32, 33, 34, 35, 36, 37, 38, 39] (by decide) rfl
  | 1, _ => h.sub [0, 1, 2, 3, 4, 5, 6, 7, 8, 9, 10, 11, 12, 13, 14, 15, 16, 17, 18, 19, 40, 21, 22, 23, 24, 25, 26, 27, 28, 29, 30, 31, 32, 33, 34, 35, 36, 37, 38, 39] (by decide) rfl
  | 2, _ => h.sub [0, 1, 2, 3, 4, 5, 6, 7, 8, 9, 10, 11, 12, 13, 14, 15, 16, 17, 18, 19, 20, 21, 22, 23, 24, 40, 26, 27, 28, 29, 30, 31, 32, 33, 34, 35, 36, 37, 38, 39] (by decide) rfl
set_option maxHeartbeats 4000000 in
theorem cCopy_hashes {nL : Nat} {v : Int32} (hi : i < 3) (hx : p.tables.exec = Jvm.exec) (hb : c.code = cc) (hml : c.maxLocals = nL) (hT : ∀ w ∈ TB, w.before args s = true) (hown : s.vm.findClass RX2 = some m.cls) (hK : va_K (gD g) vwCl (tyl g) s) (hA : ∀ q : Nat, s.heap.size ≤ q → A q)
    (hP : va_P (gD g) vwCl (WC g ad rd ln fi ar) H) (hD : ∀ (fi : FI) (ar : AR), va_D A (WC g ad rd ln fi ar)) (hS : va_S A s.heap H locs)
    (hgd : ln (13 + 4 * i) < 2 ^ 31 ∧ ¬ v < 0 ∧ ¬ v = Int32.ofNat (ln (13 + 4 * i)) ∧ v.toNatClampNeg * 4 ≤ 536870912)
    (hl : Cond.methodLink RX2 index yJ7_copyOf_59c91 ∈ TB) (hl2 : Cond.fieldLink RX2 ix2 "TableVolumes$Directory" "hashes" "[I" ∈ TB) (hR : 2 ≤ R.frames ∧ 82 ≤ R.locals) (hls : ls.size = nL) (hW : (rest.map fun v => v.category).sum ≤ 6)
    (hdg : decode cc pc = .ok (.invokestatic index, 3)) (hdg2 : decode cc (pc + 3) = .ok (.putfield ix2, 3)) (hc : cells + 1 ≤ R.cells) (hs : slots + v.toNatClampNeg ≤ R.slots)
    (kk : ∀ (rd : Nat → Nat) (H : Heap) (locs : List Loc), va_P (gD g) vwCl (WC g ad rd (va_up ln (13 + 4 * i) v.toNatClampNeg) fi (va_up ar (13 + 4 * i) (cpyN (ar (13 + 4 * i)) (ln (13 + 4 * i)) v))) H → (∀ (ln : LN) (fi : FI) (ar : AR), va_D A (WC g ad rd ln fi ar)) → va_S A s.heap H locs → W p l e R s m args below meth c H locs (cells + 1) (slots + v.toNatClampNeg) Q (F0 m (pc + 3 + 3) ls rest)) :
    W p l e R s m args below meth c H locs cells slots Q (F0 m pc ls (.int v :: .ref (rd (15 + 5 * i)) :: .ref (ad (11 + 5 * i)) :: rest)) := by
  have he := wa_hashes (g := g) (ad := ad) (rd := rd) (ln := ln) (fi := fi) (ar := ar) hi
  have hin : ∀ q, FA (rd (15 + 5 * i)) H.size q → A q := fun q h => h.elim (fun e => by rw [e]; exact (hD fi ar).2 _ _ he) (fun h => hA q (Nat.le_trans hS.1 h))
  have h1 : va_P (gD g) vwCl [(rd (15 + 5 * i), .inl (g.2.2.1 2, ln (13 + 4 * i), .inl (ar (13 + 4 * i))))] H := fun k q hk => by
    have h1 := (List.getElem?_eq_some_iff.mp hk).1
    simp only [List.length_cons, List.length_nil] at h1
    have h0 : k = 0 := by omega
    subst h0
    cases hk
    exact hP _ _ he
  refine va_callr (va_runS (Ts := TB) (As := [.ref (rd (15 + 5 * i)), .int v]) (rest := .ref (ad (11 + 5 * i)) :: rest) ⟨hx, hb, hml, hown, hT⟩ (k_copyOf l g (rd (15 + 5 * i)) H.size (ln (13 + 4 * i)) (ar (13 + 4 * i)) v hgd.1 hgd.2.1 hgd.2.2.1 hgd.2.2.2) ⟨callB_of 2 hT (TB_in1 mw29_17) rfl rfl rfl (hT _ mw8_0) (hT _ hl) (by decide +kernel) ⟨hR.1, hR.2⟩, hT _ mw29_16⟩ ⟨fun b U f mk q => ⟨q.1, q.2.1, q.2.2.1, va_K.moved (u := U) (U := U.calling f mk b) (Vm.Alike.refl U.vm) q.2.2.2⟩, fun U hU hW => ⟨rfl, by rw [hU], by rw [hU]; exact h1, va_K.moved hW.alike hK⟩⟩ rfl rfl hls rfl (lv_room (by rw [List.map_cons, List.sum_cons]; show 1 + _ ≤ 8; omega)) hdg ⟨hc, hs⟩) hS (fun q _ h => hin q h) hin (fun u q t H1 locs1 ht hvm hw hB hz1 hk1 hS => ?_)
  obtain ⟨hB, hq⟩ := hB
  rw [ht] at hB
  have hP2 := hP.more he hB (fun x h2 h3 => hk1 x h2 (fun h => h.elim h3 (fun h => absurd h2 (Nat.not_lt.mpr h))))
  have hD2 : va_D A (WC g ad rd ln fi ar ++ ([(q, .inl (g.2.2.1 2, v.toNatClampNeg, .inl (cpyN (ar (13 + 4 * i)) (ln (13 + 4 * i)) v)))] : va_W)) := (hD fi ar).more hP hq (hin q (Or.inr hq))
  refine va_put (ci := 1) (v := .ref q) (ty := .array .int) (C := RX2) (T := TX2) (N := 12) hx hb hT inTX20 tyX2 tyX2_ok nmX2 hown hK hP2 hD2 hS (11 + 5 * i) (by rw [List.getElem?_append_left (by show 11 + 5 * i < 40; omega)]; exact wc_X2 hi) rfl 11 (by decide) (hT _ hl2) (fun _ h => h) rfl (by decide +kernel) rfl rfl (Nat.le_of_ble_eq_true rfl) hdg2 (fun H2 locs2 hP3 hD3 hS => ?_)
  exact kk (va_up rd (15 + 5 * i) q) H2 locs2 (rlP_hashes hi hP3) (dCre (rlD_hashes hi hD3) (fun _ h => h)) hS
end COPY
