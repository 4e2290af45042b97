/-! a file lengthened stays sound -/
theorem fc_apart {G : Geo} {d : Nat → Nat} {D : List Nat} {ρ : Nat → Nat} {f g : Nat} {e : Nat × Nat} (hS : Snd G d D ρ) (hh : f ∈ D) (he : e ∈ dI G d f) (hnd : ¬ isDr d (dA G d f e.1)) (hg : g ∈ D) {x : Nat} (hx : x ∈ cl G d g) : x ∉ fc1 G d (dA G d f e.1) := fun hy => by
  obtain ⟨I0, hI⟩ : ∃ I0, (dI G d f).Perm (e :: I0) := ⟨_, List.perm_cons_erase he⟩
  have hfE : fcE G d (dA G d f e.1) = fc1 G d (dA G d f e.1) := if_neg hnd
  have hown0 : (own G d f).Perm (cl G d f ++ (fc1 G d (dA G d f e.1) ++ fcs G d (dA G d f) I0)) := by
    rw [← hfE]; exact List.Perm.append_left _ (fcs_perm hI)
  have hN := hown0.nodup_iff.mp (hS.ownN hh)
  have hlo : x ∈ own G d f := hown0.mem_iff.mpr (List.mem_append_right _ (List.mem_append_left _ hy))
  by_cases c : g = f
  · rw [c] at hx
    exact (List.nodup_append.mp hN).2.2 x hx x (List.mem_append_left _ hy) rfl
  · exact hS.apart hh hg (Ne.symm c) hlo (List.mem_append_left _ hx)
theorem sa_cl {G : Geo} (hG : GOK G) {l : List Nat} {s : Nat} (hs : s < l.length * (16 * G.c)) : l.getD (s / (16 * G.c)) 0 ∈ l ∧ pl G (l.getD (s / (16 * G.c)) 0) ≤ sa G l s ∧ sa G l s + 32 ≤ pl G (l.getD (s / (16 * G.c)) 0) + 512 * G.c := by
  have b := hG.b
  have hB : 0 < 16 * G.c := by omega
  have h1 : s / (16 * G.c) < l.length := (Nat.div_lt_iff_lt_mul hB).mpr hs
  have h2 := Nat.mod_lt s hB
  exact ⟨getD_mem h1, by unfold sa; omega, by unfold sa; omega⟩
/-- the file at p, s long, after cnt bytes v were added -/
def wrtD (G : Geo) (d : Nat → Nat) (p s : Nat) (v : Nat → Nat) (cnt : Nat) : Nat → Nat := wr (byD G (adD G p (cls G (s + cnt) - cls G s) (fc1 G d p) d).1 s v 0 cnt (adD G p (cls G (s + cnt) - cls G s) (fc1 G d p) d).2) (p + 28) 4 (s + cnt)
theorem wrt_facts {G : Geo} {d : Nat → Nat} {p z s cnt : Nat} {v : Nat → Nat} (hG : GOK G) (hb : ∀ q, d q < 256) (ht : tabOK G d) (hfok : fOK G d p) (hs : s = fo d (p + 28)) (hsc : s + cnt < 2147483648) (hz1 : isC G z) (hz2 : ent G d z ≠ 0) (hz3 : z ∉ fc1 G d p) (hz4 : pl G z ≤ p) (hz5 : p + 32 ≤ pl G z + 512 * G.c) (hfr : cls G (s + cnt) - cls G s ≤ frC G d 2 G.k) : ∃ add, ADI G p z d (fc1 G d p) ∧ (adD G p (cls G (s + cnt) - cls G s) (fc1 G d p) d).1 = fc1 G d p ++ add ∧ ADI G p z (adD G p (cls G (s + cnt) - cls G s) (fc1 G d p) d).2 (fc1 G d p ++ add) ∧ (fc1 G d p ++ add).length = cls G (s + cnt) ∧ s + cnt ≤ (fc1 G d p ++ add).length * (512 * G.c) ∧ (∀ y, y ∈ add → isC G y ∧ ent G d y = 0) ∧ fo (adD G p (cls G (s + cnt) - cls G s) (fc1 G d p) d).2 (p + 28) = s ∧ (∀ q, wrtD G d p s v cnt q < 256) ∧ (∀ q, q < 512 → wrtD G d p s v cnt q = d q) ∧ tabOK G (wrtD G d p s v cnt) ∧ fOK G (wrtD G d p s v cnt) p ∧ fc1 G (wrtD G d p s v cnt) p = fc1 G d p ++ add ∧ (∀ y, isC G y → y ∉ fc1 G d p → y ∉ add → ent G (wrtD G d p s v cnt) y = ent G d y) ∧ (∀ q, 512 * G.a ≤ q → (∀ y, y ∈ fc1 G d p ++ add → (q < pl G y ∨ pl G y + 512 * G.c ≤ q)) → (q < p + 20 ∨ (p + 22 ≤ q ∧ q < p + 26) ∨ p + 32 ≤ q) → wrtD G d p s v cnt q = d q) := by
  have b := hG.b
  have hB : 0 < 512 * G.c := by omega
  obtain ⟨f1, f2, f3⟩ := hfok.stp
  rw [← hs] at f2 f3
  have hA : ADI G p z d (fc1 G d p) := ⟨hb, ht, by
    rcases f1 with ⟨_, _, w⟩ | w
    · exact Or.inl w
    · exact Or.inr w, hz1, hz2, hz3, hz4, hz5⟩
  obtain ⟨add, r1, r2, r3, r4, r5, r6, r7, r8, r9⟩ := ad_ok (p := p) (z := z) hG _ _ _ hA hfr
  have hmono := cls_mono (G := G) (show s ≤ s + cnt by omega)
  have hlen : (fc1 G d p ++ add).length = cls G (s + cnt) := by rw [List.length_append, r2, f2]; omega
  have hcap : s + cnt ≤ (fc1 G d p ++ add).length * (512 * G.c) := by rw [hlen, Nat.mul_comm]; exact cls_ge (by omega) _
  obtain ⟨d1, hd1⟩ : ∃ d1, d1 = (adD G p (cls G (s + cnt) - cls G s) (fc1 G d p) d).2 := ⟨_, rfl⟩
  obtain ⟨l', hl'⟩ : ∃ l', l' = fc1 G d p ++ add := ⟨_, rfl⟩
  have hzin := pl_in hG hz1
  have hclu := r3.clu
  have ha4 : 4096 ≤ 512 * G.a := by have := hG.t (x := 0) (by omega); omega
  unfold wrtD
  rw [r1]
  rw [← hd1] at r3 r5 r6 r7 r8 r9 ⊢
  have hdef : ∀ q, (∀ y, y ∈ fc1 G d p ++ add → (q < pl G y ∨ pl G y + 512 * G.c ≤ q)) → (q < p + 28 ∨ p + 32 ≤ q) → wr (byD G (fc1 G d p ++ add) s v 0 cnt d1) (p + 28) 4 (s + cnt) q = d1 q := fun q q1 q2 => by
    rw [wr_out (by omega), byD_out hG hclu q1 _ _ _ (by omega)]
  have hout : ∀ q, q < 512 * G.a → ∀ y, y ∈ fc1 G d p ++ add → (q < pl G y ∨ pl G y + 512 * G.c ≤ q) := fun q hq y hy => by
    have := pl_in hG (hclu.2 y hy); omega
  have hzo : ∀ q, pl G z ≤ q → q < pl G z + 512 * G.c → ∀ y, y ∈ fc1 G d p ++ add → (q < pl G y ∨ pl G y + 512 * G.c ≤ q) := fun q q1 q2 y hy => by
    have hne : y ≠ z := fun w => r3.2.2.2.2.2.1 (by rw [← w]; exact hy)
    have := pl_apart (G := G) (hclu.2 y hy).1 hz1.1 hne
    omega
  have hT := tab_congr (d := d1) (d' := wr (byD G (fc1 G d p ++ add) s v 0 cnt d1) (p + 28) 4 (s + cnt)) hG (fun q q1 q2 => hdef q (hout q q2) (by omega))
  have hfo1 : fo d1 (p + 28) = s := by
    have e : ∀ i, i < 4 → d1 (p + 28 + i) = d (p + 28 + i) := fun i hi => r7 _ (Or.inr (by omega)) (fun y hy => hzo _ (by omega) (by omega) y (List.mem_append_right _ hy)) (by omega)
    rw [hs]
    unfold fo tw
    have e0 := e 0 (by omega)
    have e1 := e 1 (by omega)
    have e2 := e 2 (by omega)
    have e3 := e 3 (by omega)
    rw [show p + 28 + 2 + 1 = p + 28 + 3 from rfl, e1, e2, e3, show d1 (p + 28) = d (p + 28) from e0]
  have hfo : fo (wr (byD G (fc1 G d p ++ add) s v 0 cnt d1) (p + 28) 4 (s + cnt)) (p + 28) = s + cnt := fo_wr_in (by omega)
  have hfcl : fcl (wr (byD G (fc1 G d p ++ add) s v 0 cnt d1) (p + 28) 4 (s + cnt)) p = fcl d1 p := by
    unfold fcl tw
    rw [hdef (p + 20) (hzo _ (by omega) (by omega)) (by omega), hdef (p + 20 + 1) (hzo _ (by omega) (by omega)) (by omega), hdef (p + 26) (hzo _ (by omega) (by omega)) (by omega), hdef (p + 26 + 1) (hzo _ (by omega) (by omega)) (by omega)]
  have hF : fOK G (wr (byD G (fc1 G d p ++ add) s v 0 cnt d1) (p + 28) 4 (s + cnt)) p ∧ fc1 G (wr (byD G (fc1 G d p ++ add) s v 0 cnt d1) (p + 28) 4 (s + cnt)) p = fc1 G d p ++ add := by
    by_cases w : s + cnt = 0
    · have h0 : cls G (s + cnt) = 0 := (cls_zero (by omega)).mpr w
      rw [h0] at hlen
      have hnil := List.length_eq_zero_iff.mp hlen
      have hm0 : cls G (s + cnt) - cls G s = 0 := by omega
      have hfc : fcl d p = 0 := by
        rcases hfok with ⟨_, z⟩ | ⟨z, _⟩
        · exact z
        · exact absurd (by omega) z
      refine ⟨Or.inl ⟨by rw [hfo]; exact w, by rw [hfcl, r9 hm0]; exact hfc⟩, ?_⟩
      generalize hg : fc1 G d p ++ add = L at *
      unfold fc1
      rw [hfo, if_pos w]; exact hnil.symm
    · have h0 : cls G (s + cnt) ≠ 0 := fun q => w ((cls_zero (by omega)).mp q)
      have hne : fc1 G d p ++ add ≠ [] := fun q => by rw [q] at hlen; exact h0 hlen.symm
      have hlk := r3.2.2.1.resolve_left hne
      have hlk2 : lnk G (wr (byD G (fc1 G d p ++ add) s v 0 cnt d1) (p + 28) 4 (s + cnt)) (fcl d1 p) (fc1 G d p ++ add) := lnk_congr _ _ hlk (fun y hy => hT.1 y (by have := (hclu.2 y hy).2; omega))
      have hcl := cl_of hlk2
      refine ⟨Or.inr ⟨by rw [hfo]; exact w, by rw [hfo]; exact hsc, by rw [hfcl, hcl]; exact hlk2, by rw [hfcl, hcl, hfo]; exact hlen⟩, ?_⟩
      generalize hg : fc1 G d p ++ add = L at *
      unfold fc1
      rw [hfo, if_neg w, hfcl, hcl]
  refine ⟨add, hA, by rw [← r1], r3, hlen, hcap, r4, hfo1, fun q => wr_lt (byD_lt _ _ _ r3.1) _ _ _ q, fun q hq => ?_, hT.2 r3.2.1, hF.1, hF.2, fun y hy hy1 hy2 => ?_, fun q q1 q2 q3 => ?_⟩
  · rw [hdef q (hout q (by omega)) (by omega), r7 q (Or.inl (by omega)) (fun y hy => hout q (by omega) y (List.mem_append_right _ hy)) (by omega)]
  · rw [hT.1 y (by have := hy.2; omega), r5 y (by have := hy.2; omega) hy1 hy2]
  · rw [hdef q q2 (by omega), r7 q (Or.inr q1) (fun y hy => q2 y (List.mem_append_right _ hy)) (by omega)]
theorem wrt_snd {n h : Nat} {d : Nat → Nat} {D : List Nat} {ρ : Nat → Nat} {e : Nat × Nat} (hb : ∀ p, d p < 256) (hG : GOK (geoOf n d)) (hS : Snd (geoOf n d) d D ρ) (hh : hf (geoOf n d) h ∈ D) (he : e ∈ dI (geoOf n d) d (hf (geoOf n d) h)) {p : Nat} (hp : p = dA (geoOf n d) d (hf (geoOf n d) h) e.1) (hnd : ¬ isDr d p) (ht : tabOK (geoOf n d) d) (hfok : fOK (geoOf n d) d p) {s cnt : Nat} {v : Nat → Nat} (hs : s = fo d (p + 28)) (hsc : s + cnt < 2147483648) (hfr : cls (geoOf n d) (s + cnt) - cls (geoOf n d) s ≤ frC (geoOf n d) d 2 (geoOf n d).k) : ∃ z add, ADI (geoOf n d) p z d (fc1 (geoOf n d) d p) ∧ (adD (geoOf n d) p (cls (geoOf n d) (s + cnt) - cls (geoOf n d) s) (fc1 (geoOf n d) d p) d).1 = fc1 (geoOf n d) d p ++ add ∧ ADI (geoOf n d) p z (adD (geoOf n d) p (cls (geoOf n d) (s + cnt) - cls (geoOf n d) s) (fc1 (geoOf n d) d p) d).2 (fc1 (geoOf n d) d p ++ add) ∧ (fc1 (geoOf n d) d p ++ add).length = cls (geoOf n d) (s + cnt) ∧ s + cnt ≤ (fc1 (geoOf n d) d p ++ add).length * (512 * (geoOf n d).c) ∧ fo (adD (geoOf n d) p (cls (geoOf n d) (s + cnt) - cls (geoOf n d) s) (fc1 (geoOf n d) d p) d).2 (p + 28) = s ∧ (∀ q, wrtD (geoOf n d) d p s v cnt q < 256) ∧ (∀ q, q < 512 → wrtD (geoOf n d) d p s v cnt q = d q) ∧ tabOK (geoOf n d) (wrtD (geoOf n d) d p s v cnt) ∧ Snd (geoOf n d) (wrtD (geoOf n d) d p s v cnt) D ρ := by
  have b := hG.b
  have hDk := hS.2.2.1 _ hh
  obtain ⟨i1, i2, i3⟩ := hDk.item he
  obtain ⟨z1, z2, z3⟩ := sa_cl hG i1
  have hp' : p = sa (geoOf n d) (cl (geoOf n d) d (hf (geoOf n d) h)) e.1 := hp
  rw [← hp'] at z2 z3
  obtain ⟨z, hz⟩ : ∃ z, z = (cl (geoOf n d) d (hf (geoOf n d) h)).getD (e.1 / (16 * (geoOf n d).c)) 0 := ⟨_, rfl⟩
  rw [← hz] at z1 z2 z3
  have hzC := (lnk_clu hDk.1).2 z z1
  have hap : ∀ g, g ∈ D → ∀ x, x ∈ cl (geoOf n d) d g → x ∉ fc1 (geoOf n d) d p := fun g hg x hx => by
    rw [hp]; exact fc_apart hS hh he (by rw [← hp]; exact hnd) hg hx
  obtain ⟨add, r1, r2, r3, r4, r5, r6, r7, r8, r9, r10, r11, r12, r13, r14⟩ := wrt_facts (v := v) hG hb ht hfok hs hsc hzC (lnk_ent _ _ hDk.1 z z1) (hap _ hh z z1) z2 z3 hfr
  have hclu := r3.clu
  have hadd0 : ∀ g, g ∈ D → ∀ x, x ∈ cl (geoOf n d) d g → x ∉ fc1 (geoOf n d) d p ++ add := fun g hg x hx w => by
    rcases List.mem_append.mp w with w | w
    · exact hap g hg x hx w
    · exact lnk_ent _ _ (hS.2.2.1 g hg).1 x hx (r6 x w).2
  refine ⟨z, add, r1, r2, r3, r4, r5, r7, r8, r9, r10, ?_⟩
  refine file_snd (add := add) (del := []) hG hS hh he hp hnd (fun q q1 q2 q3 => ?_) (fun f hf x hx i hi hq => ?_) r11 (by rw [r12, List.append_nil]) ⟨(List.nodup_append.mp hclu.1).2.1, r6⟩ (fun y hy => absurd hy (by simp)) r13 (fun y hy hy2 => ?_)
  · have hzin := pl_in hG hzC
    refine r14 q (by omega) (fun y hy => ?_) (by omega)
    have hne : y ≠ z := fun w => hadd0 _ hh z z1 (by rw [← w]; exact hy)
    have := pl_apart (G := geoOf n d) (hclu.2 y hy).1 hzC.1 hne
    omega
  · have hxC := lnk_isC _ _ (hS.2.2.1 f hf).1 x hx
    have hpi := pl_in hG hxC
    refine r14 _ (by omega) (fun y hy => ?_) (by omega)
    have hne : y ≠ x := fun w => hadd0 f hf x hx (by rw [← w]; exact hy)
    have := pl_apart (G := geoOf n d) (hclu.2 y hy).1 hxC.1 hne
    omega
  · by_cases c1 : y ∈ add
    · exact Or.inl c1
    · right
      refine ⟨?_, by simp⟩
      by_cases c2 : y ∈ fc1 (geoOf n d) d p
      · exact r1.nz y c2
      · rw [r13 y hy c2 c1] at hy2; exact hy2
