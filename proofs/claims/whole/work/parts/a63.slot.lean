/-! make: what the slots hold -/
def SLT (d : Nat → Nat) (p : Nat) (e : Nat → Nat) : Prop := ∀ i, i < 32 → d (p + i) = e i
theorem SLT.wr {d e : Nat → Nat} {p : Nat} (h : SLT d p e) (k n v : Nat) : SLT (wr d (p + k) n v) p (wr e k n v) := fun i hi => by
  unfold Jvm.Pilot.CTableVolumesLaw_law_r4528_56697b.wr
  by_cases c : k ≤ i ∧ i < k + n
  · rw [if_pos (by omega), if_pos c, show p + i - (p + k) = i - k by omega]
  · rw [if_neg (by omega), if_neg c]; exact h i hi
theorem SLT.off {d d' e : Nat → Nat} {p : Nat} (h : SLT d p e) (ho : ∀ q, p ≤ q → q < p + 32 → d' q = d q) : SLT d' p e := fun i hi => by rw [ho _ (by omega) (by omega)]; exact h i hi
theorem SLT.pb {f : Nat → Nat} {p : Nat} : ∀ (m j : Nat) (d e : Nat → Nat), SLT d p e → SLT (pb f p j m d) p (pb f 0 j m e)
  | 0, _, _, _, h => h
  | m + 1, j, d, e, h => by
    have := SLT.pb (f := f) m (j + 1) _ _ (h.wr j 1 (f j))
    show SLT (Jvm.Pilot.CTableVolumesLaw_law_r4528_56697b.pb f p (j + 1) m (Jvm.Pilot.CTableVolumesLaw_law_r4528_56697b.wr d (p + j) 1 (f j))) p (Jvm.Pilot.CTableVolumesLaw_law_r4528_56697b.pb f 0 (j + 1) m (Jvm.Pilot.CTableVolumesLaw_law_r4528_56697b.wr e (0 + j) 1 (f j)))
    rw [Nat.zero_add]; exact this
/-- the units of a part -/
def pu (u : Nat → Nat) (p : Nat) : Nat → Nat → (Nat → Nat) → (Nat → Nat)
  | _, 0, d => d
  | q, m + 1, d => pu u p (q + 1) m (wr d (p + plc q) 2 (u q))
theorem SLT.pu {u : Nat → Nat} {p : Nat} : ∀ (m q : Nat) (d e : Nat → Nat), SLT d p e → SLT (pu u p q m d) p (pu u 0 q m e)
  | 0, _, _, _, h => h
  | m + 1, q, d, e, h => by
    have := SLT.pu (u := u) m (q + 1) _ _ (h.wr (plc q) 2 (u q))
    show SLT (Jvm.Pilot.CTableVolumesLaw_law_r4528_56697b.pu u p (q + 1) m (Jvm.Pilot.CTableVolumesLaw_law_r4528_56697b.wr d (p + plc q) 2 (u q))) p (Jvm.Pilot.CTableVolumesLaw_law_r4528_56697b.pu u 0 (q + 1) m (Jvm.Pilot.CTableVolumesLaw_law_r4528_56697b.wr e (0 + plc q) 2 (u q)))
    rw [Nat.zero_add]; exact this
theorem plc_b {q : Nat} (h : q < 13) : 1 ≤ plc q ∧ plc q + 2 ≤ 32 := by unfold plc; split; omega; split <;> omega
theorem pu_out {u : Nat → Nat} {p x : Nat} : ∀ (m q : Nat) (d : Nat → Nat), q + m ≤ 13 → (x < p ∨ p + 32 ≤ x) → pu u p q m d x = d x
  | 0, _, _, _, _ => rfl
  | m + 1, q, d, h1, h2 => by
    have := plc_b (q := q) (by omega)
    rw [pu, pu_out m (q + 1) _ (by omega) h2, wr_out (by omega)]
theorem pu_lt {u : Nat → Nat} {p : Nat} : ∀ (m q : Nat) (d : Nat → Nat), (∀ x, d x < 256) → ∀ x, pu u p q m d x < 256
  | 0, _, _, h, x => h x
  | m + 1, q, d, h, x => pu_lt m (q + 1) _ (fun x => wr_lt h _ _ _ x) x
/-- an entry's slot -/
def cE (B : Nat → Nat) (bits own : Nat) : Nat → Nat := pfc (wr (wr (pb B 0 0 11 (fun _ => 0)) 11 1 bits) 24 2 33) 0 own
/-- a part's slot -/
def cP (u : Nat → Nat) (num sum : Nat) : Nat → Nat := pu u 0 0 13 (wr (wr (wr (fun _ => 0) 0 1 num) 11 1 15) 13 1 sum)
theorem SLT.pfc {d e : Nat → Nat} {p : Nat} (h : SLT d p e) (x : Nat) : SLT (pfc d p x) p (pfc e 0 x) := by
  have := (h.wr 20 2 0).wr 26 2 x
  exact this
theorem SLT.fil {d : Nat → Nat} {p : Nat} : SLT (fil d p 32 0) p (fun _ => 0) := fun i hi => by
  unfold Jvm.Pilot.CTableVolumesLaw_law_r4528_56697b.fil
  rw [if_pos (by omega)]
theorem weD_slt {f : Nat → Nat} {p a x : Nat} {d : Nat → Nat} : SLT (weD f p a x d) p (cE f a x) := (((SLT.pb 11 0 _ _ SLT.fil).wr 11 1 a).wr 24 2 33).pfc x
theorem weD_out {f : Nat → Nat} {p a x q : Nat} {d : Nat → Nat} (h : q < p ∨ p + 32 ≤ q) : weD f p a x d q = d q := by
  unfold weD pfc
  rw [wr_out (by omega), wr_out (by omega), wr_out (by omega), wr_out (by omega), pb_out 11 0 _ (by omega)]
  unfold fil
  rw [if_neg (by omega)]
theorem weD_lt {f : Nat → Nat} {p a x : Nat} {d : Nat → Nat} (h : ∀ q, d q < 256) : ∀ q, weD f p a x d q < 256 := by
  have h0 : ∀ q, fil d p 32 0 q < 256 := fun q => by unfold fil; split; exact (by decide : 0 < 256); exact h q
  exact wr_lt (wr_lt (wr_lt (wr_lt (pb_lt 11 0 _ h0) _ _ _) _ _ _) _ _ _) _ _ _
def wpD (u : Nat → Nat) (p num sum : Nat) (d : Nat → Nat) : Nat → Nat := pu u p 0 13 (wr (wr (wr (fil d p 32 0) p 1 num) (p + 11) 1 15) (p + 13) 1 sum)
theorem wpD_slt {u : Nat → Nat} {p num sum : Nat} {d : Nat → Nat} : SLT (wpD u p num sum d) p (cP u num sum) := SLT.pu 13 0 _ _ (((SLT.fil.wr 0 1 num).wr 11 1 15).wr 13 1 sum)
theorem wpD_out {u : Nat → Nat} {p num sum q : Nat} {d : Nat → Nat} (h : q < p ∨ p + 32 ≤ q) : wpD u p num sum d q = d q := by
  unfold wpD
  rw [pu_out 13 0 _ (by omega) h, wr_out (by omega), wr_out (by omega), wr_out (by omega)]
  unfold fil
  rw [if_neg (by omega)]
theorem wpD_lt {u : Nat → Nat} {p num sum : Nat} {d : Nat → Nat} (h : ∀ q, d q < 256) : ∀ q, wpD u p num sum d q < 256 := by
  have h0 : ∀ q, fil d p 32 0 q < 256 := fun q => by unfold fil; split; exact (by decide : 0 < 256); exact h q
  exact pu_lt 13 0 _ (wr_lt (wr_lt (wr_lt h0 _ _ _) _ _ _) _ _ _)
/-- unit q of part j of a name, and what fills it up -/
def uN (N : List Nat) (j q : Nat) : Nat := if 13 * j + q < N.length then N.getD (13 * j + q) 0 else if 13 * j + q = N.length then 0 else 65535
theorem uN_lt {N : List Nat} (hN : ∀ x, x ∈ N → x < 65536) (j q : Nat) : uN N j q < 65536 := by
  unfold uN
  split
  · rename_i h; exact hN _ (getD_mem h)
  · split <;> omega
def nuN (np j : Nat) : Nat := if j + 1 = np then j + 1 + 64 else j + 1
theorem part_loop1 {nf : Nat} {ln : LN} {fi : FI} {N : List Nat} {p j : Nat} (hN : N.length ≤ 255 ∧ ∀ x, x ∈ N → x < 65536) (hl30 : ln 30 = 260) (h60 : fi 60 = nI N.length) (hp : p + 32 ≤ 4 * ln 0) (h0 : ln 0 < 2 ^ 18) (hj : j < 20) : ∀ (m q kf : Nat) (ar : AR) (d : Nat → Nat), q + m = 13 → m < kf → CD ln ar d → (∀ i, i < N.length → ar 30 i = nI (N.getD i 0)) → ∃ ar', FX6_writePart_38 nf ln 0 kf (nI p) (nI (j + 1)) (nI q) fi ar = some ((), fi, ar') ∧ CD ln ar' (pu (uN N j) p q m d) ∧ offA 0 ar ar' := by
  intro m
  induction m with
  | zero =>
    intro q kf ar d hq hk hC hu
    obtain ⟨kf, rfl⟩ : ∃ k, kf = k + 1 := ⟨kf - 1, by omega⟩
    rw [show FX6_writePart_38 nf ln 0 (kf + 1) = FX6_writePart_38b (FX6_writePart_38 nf ln 0 kf) nf ln 0 from rfl]
    unfold FX6_writePart_38b
    rw [brT (show (13 : Int32) ≤ nI q from nI_le (a := 13) (by omega) (by omega))]
    exact ⟨ar, rfl, hC, offA.rf⟩
  | succ m ih =>
    intro q kf ar d hq hk hC hu
    have hpl := plc_b (q := q) (by omega)
    have hpla : tPla.getD q 0 = nI (plc q) := by
      have : ∀ q, q < 13 → tPla.getD q 0 = nI (plc q) := by decide
      exact this q (by omega)
    obtain ⟨kf, rfl⟩ : ∃ k, kf = k + 1 := ⟨kf - 1, by omega⟩
    rw [show FX6_writePart_38 nf ln 0 (kf + 1) = FX6_writePart_38b (FX6_writePart_38 nf ln 0 kf) nf ln 0 from rfl]
    unfold FX6_writePart_38b FX6_writePart_71 FX6_writePart_102
    have e7 : (nI (j + 1) - 1) * (13 : Int32) + nI q = nI (13 * j + q) := by
      rw [show nI (j + 1) - (1 : Int32) = nI j from nI_sub (b := 1) (a := j + 1) (by omega), show (13 : Int32) = nI 13 from rfl, pk_mul, nI_add, Nat.mul_comm]
    have go : ∀ t : Int32, uv t = uN N j q → ∃ ar', obnd3 (FX3_putTwo nf ln fi ar (nI (p + plc q)) t) (fun r4 fi2 ar3 => bnd (nI q + 1) fun x6_5 => FX6_writePart_38 nf ln 0 kf (nI p) (nI (j + 1)) x6_5 fi2 ar3) = some ((), fi, ar') ∧ CD ln ar' (pu (uN N j) p q (m + 1) d) ∧ offA 0 ar ar' := fun t ht => by
      obtain ⟨ar1, r1, r2, r3⟩ := FX3_putTwo_ok (nf := nf) (fi := fi) hC (p := p + plc q) t (by omega)
      rw [ht] at r2
      obtain ⟨ar', s1, s2, s3⟩ := ih (q + 1) kf ar1 _ (by omega) (by omega) r2 (fun i hi => by rw [r3 30 (by decide)]; exact hu i hi)
      exact ⟨ar', by rw [r1, obnd3_some, bnd_eq, show nI q + (1 : Int32) = nI (q + 1) from nI_add q 1]; exact s1, s2, r3.tr s3⟩
    rw [brF (show ¬ (13 : Int32) ≤ nI q from nI_ge (b := 13) (by omega) (by omega)), bnd_eq, e7, show fi (60 + 0) = nI N.length from h60]
    have hgd : ∀ X : Option (Unit × FI × AR), gd (¬ (nI q < 0 ∨ 13 ≤ (nI q).toNatClampNeg)) X = X := fun X => zgd (by omega) (by omega)
    rw [hgd, hgd, nI_clamp (show q < 2 ^ 31 by omega), hpla, nI_add]
    by_cases c1 : 13 * j + q < N.length
    · have hu2 : uN N j q = N.getD (13 * j + q) 0 := by unfold uN; rw [if_pos c1]
      have hb := hN.2 _ (getD_mem c1)
      rw [brF (show ¬ nI (13 * j + q) = nI N.length from fun w => by have := (nI_eq (by omega) (by omega)).mp w; omega), brF (show ¬ nI N.length ≤ nI (13 * j + q) from nI_ge c1 (by omega)), unit_eq (j := 0) hl30 (by omega) (hu _ c1), obnd3_some]
      exact go (nI (N.getD (13 * j + q) 0)) (by rw [uv_nI (by omega), hu2])
    · have hle : nI N.length ≤ nI (13 * j + q) := nI_le (by omega) (by omega)
      by_cases c2 : 13 * j + q = N.length
      · rw [brT (show nI (13 * j + q) = nI N.length by rw [c2]), brT hle]
        exact go 0 (by unfold uN; rw [if_neg c1, if_pos c2]; rfl)
      · rw [brF (show ¬ nI (13 * j + q) = nI N.length from fun w => c2 ((nI_eq (by omega) (by omega)).mp w)), brT hle]
        exact go 65535 (by unfold uN; rw [if_neg c1, if_neg c2]; rfl)
theorem writePart_ok {nf : Nat} {ln : LN} {fi : FI} {ar : AR} {d : Nat → Nat} {N : List Nat} {p j num sum : Nat} (hC : CD ln ar d) (hN : N.length ≤ 255 ∧ ∀ x, x ∈ N → x < 65536) (hl30 : ln 30 = 260) (hNB : NB fi ar 0 N) (hp : p + 32 ≤ 4 * ln 0) (hj : j < 20) (hnum : num < 256) (hsum : sum < 256) (hnf : 40 ≤ nf) : ∃ ar', FX6_writePart nf ln 0 fi ar (nI p) (nI (j + 1)) (nI num) (nI sum) = some ((), fi, ar') ∧ CD ln ar' (wpD (uN N j) p num sum d) ∧ offA 0 ar ar' := by
  obtain ⟨ar1, r1, r2, r3⟩ := FX3_fill_ok (nf := nf) (fi := fi) hC (p := p) (n := 32) 0 (by omega) (by omega)
  have r1' : FX3_fill nf ln fi ar (nI p) 32 0 = some ((), fi, ar1) := r1
  obtain ⟨ar2, s1, s2, s3⟩ := FX3_putOne_ok (nf := nf) (fi := fi) r2 (p := p) (nI num) (by omega)
  obtain ⟨ar3, t1, t2, t3⟩ := FX3_putOne_ok (nf := nf) (fi := fi) s2 (p := p + 11) 15 (by omega)
  obtain ⟨ar4, u1, u2, u3⟩ := FX3_putOne_ok (nf := nf) (fi := fi) t2 (p := p + 13) (nI sum) (by omega)
  rw [uv_nI (by omega), uv_nI (by omega)] at u2
  have o4 : offA 0 ar ar4 := ((r3.tr s3).tr t3).tr u3
  obtain ⟨ar5, v1, v2, v3⟩ := part_loop1 (nf := nf) (fi := fi) (p := p) (j := j) hN hl30 hNB.1 hp hC.1 hj 13 0 nf ar4 _ (by omega) (by omega) u2 (fun i hi => by rw [o4 30 (by decide)]; exact hNB.2 i hi)
  refine ⟨ar5, ?_, v2, o4.tr v3⟩
  unfold FX6_writePart
  rw [r1', obnd3_some, s1, obnd3_some, show nI p + (11 : Int32) = nI (p + 11) from nI_add p 11, t1, obnd3_some, show nI p + (13 : Int32) = nI (p + 13) from nI_add p 13, u1, obnd3_some]
  exact v1
