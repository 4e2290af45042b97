abbrev Geo : Type := Nat × Nat × Nat × Nat × Nat × Nat
abbrev Geo.n (G : Geo) : Nat := G.1
abbrev Geo.c (G : Geo) : Nat := G.2.1
abbrev Geo.v (G : Geo) : Nat := G.2.2.1
abbrev Geo.y (G : Geo) : Nat := G.2.2.2.1
abbrev Geo.z (G : Geo) : Nat := G.2.2.2.2.1
abbrev Geo.r (G : Geo) : Nat := G.2.2.2.2.2
def Geo.a (G : Geo) : Nat := G.v + G.y * G.z
def Geo.k (G : Geo) : Nat := (G.n - G.a) / G.c
def GOK (G : Geo) : Prop := geoOK G.n G.c G.v G.y G.z ∧ (2 ≤ G.r ∧ G.r ≤ G.k + 1) ∧ 256 ≤ G.n ∧ G.n ≤ 1024
def geoOf (n : Nat) (d : Nat → Nat) : Geo := (n, d 13, tw d 14, d 16, fo d 36, fo d 44)
abbrev fixOK (n : Nat) (d : Nat → Nat) : Prop := tw d 11 = 512 ∧ tw d 17 = 0 ∧ tw d 19 = 0 ∧ tw d 22 = 0 ∧ fo d 32 = n ∧ tw d 48 = 1 ∧ tw d 50 = 6 ∧ tw d 510 = 43605
abbrev headOK (n : Nat) (d : Nat → Nat) : Prop := fixOK n d ∧ geoOK n (d 13) (tw d 14) (d 16) (fo d 36) ∧ 2 ≤ fo d 44 ∧ fo d 44 ≤ (geoOf n d).k + 1
theorem headOK.g {n : Nat} {d : Nat → Nat} (h : headOK n d) (h1 : 256 ≤ n) (h2 : n ≤ 1024) : GOK (geoOf n d) := ⟨h.2.1, h.2.2, h1, h2⟩
def offF (S : List Nat) (fi fi' : FI) : Prop := ∀ j, j ∉ S → fi' j = fi j
theorem offF.rf {S : List Nat} {fi : FI} : offF S fi fi := fun _ _ => rfl
theorem offF.tr {S : List Nat} {a b c : FI} (h1 : offF S a b) (h2 : offF S b c) : offF S a c := fun j hj => (h2 j hj).trans (h1 j hj)
theorem offF.mono {S T : List Nat} {a b : FI} (h1 : offF S a b) (h : ∀ j, j ∈ S → j ∈ T) : offF T a b := fun j hj => h1 j (fun q => hj (h j q))
theorem offF.up {S : List Nat} {a b : FI} {k : Nat} {v : Int32} (h1 : offF S a b) (h : k ∈ S) : offF S a (va_up b k v) := fun j hj => by rw [va_up_ne _ _ (fun e => hj (by rw [e]; exact h))]; exact h1 j hj
/-- the class's volume holds G -/
def CG (fi : FI) (G : Geo) : Prop := fi 2 = nI G.n ∧ fi 4 = nI G.r ∧ fi 5 = nI G.k ∧ fi 6 = nI (shC G.c) ∧ fi 7 = nI G.v ∧ fi 8 = nI G.y ∧ fi 9 = nI G.z ∧ fi 10 = nI G.a
/-- the model holds G -/
def RG (fi : FI) (G : Geo) : Prop := fi 0 = nI G.n ∧ fi 7 = nI G.c ∧ fi 8 = nI G.v ∧ fi 9 = nI G.y ∧ fi 10 = nI G.z ∧ fi 11 = nI G.r ∧ fi 12 = nI G.a ∧ fi 13 = nI G.k
theorem FX9_adopt_ok {nf : Nat} {ln : LN} {fi : FI} {ar : AR} {n : Nat} (hn : fi 2 = nI n) (h2 : n ≤ 1024) {c v y z r : Nat} (hc : c < 2 ^ 32) (ha : v + y * z ≤ n) : ∃ fi', FX9_adopt nf ln fi ar (nI c) (nI v) (nI y) (nI z) (nI r) = some ((), fi', ar) ∧ ((c = 2 ∨ c = 4 ∨ c = 8) → CG fi' (n, c, v, y, z, r)) ∧ offF [4, 5, 6, 7, 8, 9, 10] fi fi' := by
  unfold FX9_adopt
  rw [FX9_shiftOf_eq, obnd_some, bnd_eq, bnd_eq, bnd_eq, bnd_eq, bnd_eq, va_up_self, pk_mul, nI_add, uv_nI hc]
  rw [FX9_clusterCount_eq (nI c) (n := n) (by simpa [va_up] using hn) h2 ha, obnd3_some, bnd_eq, bnd_eq, uv_nI hc]
  refine ⟨_, rfl, fun hcc => ?_, fun j hj => ?_⟩
  · have e := shC_pow hcc
    simp only [e]
    refine ⟨by simpa [va_up] using hn, ?_⟩
    simp [va_up, Geo.a, Geo.k]
  · simp only [List.mem_cons, List.not_mem_nil, or_false, not_or] at hj
    simp [va_up, hj]
theorem FX9_readSectorZero_ok {nf : Nat} {ln : LN} {fi : FI} {ar : AR} {d : Nat → Nat} {n : Nat} (hd : CD ln ar d) (hn : fi 2 = nI n) (h1 : 256 ≤ n) (h2 : n ≤ 1024) (hl : ln 0 = 128 * n) : (headOK n d ∧ ∃ fi', FX9_readSectorZero nf ln fi ar = some (1, fi', ar) ∧ CG fi' (geoOf n d) ∧ offF [4, 5, 6, 7, 8, 9, 10] fi fi') ∨ (¬ headOK n d ∧ FX9_readSectorZero nf ln fi ar = some (0, fi, ar)) := by
  have b13 := hd.lt (show 13 < 4 * ln 0 by omega)
  have b16 := hd.lt (show 16 < 4 * ln 0 by omega)
  have b14 := twC_lt hd (show 14 + 1 < 4 * ln 0 by omega)
  have b36 := foC_lt hd (show 36 + 3 < 4 * ln 0 by omega)
  have b44 := foC_lt hd (show 44 + 3 < 4 * ln 0 by omega)
  have b32 := foC_lt hd (show 32 + 3 < 4 * ln 0 by omega)
  have bt : ∀ p, p < 511 → tw d p < 65536 := fun p hp => twC_lt hd (by omega)
  have rt : ∀ p, p < 511 → FX3_two nf ln fi ar (nI p) = some (nI (tw d p), fi, ar) := fun p hp => FX3_two_eq hd (by omega)
  have r0 : ∀ t0 : Int32, FX9_readSectorZero_117 nf ln t0 fi ar = br (t0 = 0) (some (0, fi, ar)) (if geoOK n (d 13) (tw d 14) (d 16) (fo d 36) ∧ 2 ≤ fo d 44 ∧ fo d 44 ≤ (geoOf n d).k + 1 then obnd3 (FX9_adopt nf ln fi ar (nI (d 13)) (nI (tw d 14)) (nI (d 16)) (nI (fo d 36)) (nI (fo d 44))) (fun _ fi2 ar2 => some (1, fi2, ar2)) else some (0, fi, ar)) := by
    intro t0
    unfold FX9_readSectorZero_117 FX9_readSectorZero_181 FX9_readSectorZero_221
    rw [show (13 : Int32) = nI 13 from rfl, show (44 : Int32) = nI 44 from rfl, show (36 : Int32) = nI 36 from rfl, show (14 : Int32) = nI 14 from rfl, show (16 : Int32) = nI 16 from rfl]
    rw [FX3_one_eq hd (by omega), obnd3_some, FX3_four_eq hd (by decide) (by omega), obnd3_some, FX3_four_eq hd (by decide) (by omega), obnd3_some]
    congr 1
    rw [rt 14 (by omega), obnd3_some, FX3_one_eq hd (by omega), obnd3_some, FX9_tableFits_eq hn h1 h2, obnd3_some, uv_nI (by omega), uv_nI (by omega), uv_nI (by omega), uv_nI b36]
    by_cases hg : geoOK n (d 13) (tw d 14) (d 16) (fo d 36)
    · have o16 : FX3_one nf ln fi ar (nI 16) = some (nI (d 16), fi, ar) := FX3_one_eq hd (by omega)
      rw [if_pos hg, brF (show ¬ (1 : Int32) = 0 by decide)]
      simp only [rt 14 (by omega), o16, obnd3_some, pk_mul, nI_add]
      have hz := hg.2.2.2.1
      have hyz : d 16 * fo d 36 ≤ 64 := by rcases hg.2.2.1 with h | h <;> rw [h] <;> omega
      have hv := hg.2.1
      rw [FX9_clusterCount_eq (nI (d 13)) hn h2 (by omega)]
      simp only [rt 14 (by omega), o16, obnd3_some]
      rw [uv_nI (by omega), shC_pow hg.1, nI_1]
      have hk : (n - (tw d 14 + d 16 * fo d 36)) / d 13 ≤ 1024 := Nat.le_trans (Nat.div_le_self _ _) (by omega)
      have ek : (geoOf n d).k = (n - (tw d 14 + d 16 * fo d 36)) / d 13 := rfl
      rw [ek]
      have eK : (nI ((n - (tw d 14 + d 16 * fo d 36)) / d 13 + 1)).toInt = (((n - (tw d 14 + d 16 * fo d 36)) / d 13 + 1 : Nat) : Int) := nI_toInt (by omega)
      have t := tI (nI (fo d 44))
      rw [uv_nI b44] at t
      by_cases a1 : nI (fo d 44) < (2 : Int32)
      · rw [brT a1, if_neg]
        intro h
        rw [ltI] at a1
        have l2 : (2 : Int32).toInt = 2 := rfl
        omega
      · rw [brF a1]
        have l2 : (2 : Int32).toInt = 2 := rfl
        by_cases a2 : nI (fo d 44) ≤ nI ((n - (tw d 14 + d 16 * fo d 36)) / d 13 + 1)
        · rw [brT a2, if_pos]
          · rw [leI, eK] at a2
            rw [ltI] at a1
            refine ⟨hg, ?_, ?_⟩ <;> omega
        · rw [brF a2, if_neg]
          intro h
          rw [leI, eK] at a2
          omega
    · rw [if_neg hg, brT rfl, if_neg (fun h => hg h.1)]
  have fin : fixOK n d → ((headOK n d ∧ ∃ fi', FX9_readSectorZero_117 nf ln 1 fi ar = some (1, fi', ar) ∧ CG fi' (geoOf n d) ∧ offF [4, 5, 6, 7, 8, 9, 10] fi fi') ∨ (¬ headOK n d ∧ FX9_readSectorZero_117 nf ln 1 fi ar = some (0, fi, ar))) := by
    intro hf
    rw [r0, brF (by decide)]
    by_cases hg : geoOK n (d 13) (tw d 14) (d 16) (fo d 36) ∧ 2 ≤ fo d 44 ∧ fo d 44 ≤ (geoOf n d).k + 1
    · left
      refine ⟨⟨hf, hg⟩, ?_⟩
      rw [if_pos hg]
      have hyz : d 16 * fo d 36 ≤ 64 := by have := hg.1.2.2.2.1; rcases hg.1.2.2.1 with h | h <;> rw [h] <;> omega
      have hv := hg.1.2.1
      obtain ⟨fi', e1, e2, e3⟩ := FX9_adopt_ok (nf := nf) (ln := ln) (ar := ar) hn h2 (c := d 13) (v := tw d 14) (y := d 16) (z := fo d 36) (r := fo d 44) (by omega) (by omega)
      exact ⟨fi', by rw [e1, obnd3_some], e2 hg.1.1, e3⟩
    · right
      exact ⟨fun h => hg h.2, by rw [if_neg hg]⟩
  have bad : FX9_readSectorZero_116 nf ln fi ar = some (0, fi, ar) := by
    unfold FX9_readSectorZero_116; rw [r0, brT rfl]
  have no : ¬ fixOK n d → ∀ o : Option (Int32 × FI × AR), o = some (0, fi, ar) → ((headOK n d ∧ ∃ fi', o = some (1, fi', ar) ∧ CG fi' (geoOf n d) ∧ offF [4, 5, 6, 7, 8, 9, 10] fi fi') ∨ (¬ headOK n d ∧ o = some (0, fi, ar))) := fun h o ho => Or.inr ⟨fun h2 => h h2.1, ho⟩
  have q : ∀ {a : Nat} (b : Nat), a < 65536 → b < 65536 → (nI a = nI b ↔ a = b) := fun b ha hb => nI_eq (by omega) (by omega)
  unfold FX9_readSectorZero
  rw [show (11 : Int32) = nI 11 from rfl, show (17 : Int32) = nI 17 from rfl, show (19 : Int32) = nI 19 from rfl, show (22 : Int32) = nI 22 from rfl, show (32 : Int32) = nI 32 from rfl, show (48 : Int32) = nI 48 from rfl, show (50 : Int32) = nI 50 from rfl, show (510 : Int32) = nI 510 from rfl]
  rw [rt 11 (by omega), obnd3_some]
  by_cases a1 : tw d 11 = 512
  · rw [brT (show nI (tw d 11) = 512 from (q 512 (bt 11 (by omega)) (by omega)).mpr a1), rt 17 (by omega), obnd3_some]
    by_cases a2 : tw d 17 = 0
    · rw [brT (show nI (tw d 17) = 0 from (q 0 (bt 17 (by omega)) (by omega)).mpr a2), rt 19 (by omega), obnd3_some]
      by_cases a3 : tw d 19 = 0
      · rw [brT (show nI (tw d 19) = 0 from (q 0 (bt 19 (by omega)) (by omega)).mpr a3), rt 22 (by omega), obnd3_some]
        by_cases a4 : tw d 22 = 0
        · rw [brT (show nI (tw d 22) = 0 from (q 0 (bt 22 (by omega)) (by omega)).mpr a4), FX3_four_eq hd (by decide) (by omega), obnd3_some, hn]
          have e32 : nI (fo d 32) = nI n ↔ fo d 32 = n := ⟨fun h => by have := congrArg uv h; rw [uv_nI b32, uv_nI (by omega)] at this; exact this, fun h => by rw [h]⟩
          by_cases a5 : fo d 32 = n
          · rw [brT (e32.mpr a5), rt 48 (by omega), obnd3_some]
            by_cases a6 : tw d 48 = 1
            · rw [brT (show nI (tw d 48) = 1 from (q 1 (bt 48 (by omega)) (by omega)).mpr a6), rt 50 (by omega), obnd3_some]
              by_cases a7 : tw d 50 = 6
              · rw [brT (show nI (tw d 50) = 6 from (q 6 (bt 50 (by omega)) (by omega)).mpr a7), rt 510 (by omega), obnd3_some]
                by_cases a8 : tw d 510 = 43605
                · rw [brT (show nI (tw d 510) = 43605 from (q 43605 (bt 510 (by omega)) (by omega)).mpr a8)]
                  exact fin ⟨a1, a2, a3, a4, a5, a6, a7, a8⟩
                · rw [brF (show ¬ nI (tw d 510) = (43605 : Int32) from fun h => a8 ((q 43605 (bt 510 (by omega)) (by omega)).mp h))]; exact no (fun h => a8 h.2.2.2.2.2.2.2) _ bad
              · rw [brF (show ¬ nI (tw d 50) = (6 : Int32) from fun h => a7 ((q 6 (bt 50 (by omega)) (by omega)).mp h))]; exact no (fun h => a7 h.2.2.2.2.2.2.1) _ bad
            · rw [brF (show ¬ nI (tw d 48) = (1 : Int32) from fun h => a6 ((q 1 (bt 48 (by omega)) (by omega)).mp h))]; exact no (fun h => a6 h.2.2.2.2.2.1) _ bad
          · rw [brF (fun h => a5 (e32.mp h))]; exact no (fun h => a5 h.2.2.2.2.1) _ bad
        · rw [brF (show ¬ nI (tw d 22) = (0 : Int32) from fun h => a4 ((q 0 (bt 22 (by omega)) (by omega)).mp h))]; exact no (fun h => a4 h.2.2.2.1) _ bad
      · rw [brF (show ¬ nI (tw d 19) = (0 : Int32) from fun h => a3 ((q 0 (bt 19 (by omega)) (by omega)).mp h))]; exact no (fun h => a3 h.2.2.1) _ bad
    · rw [brF (show ¬ nI (tw d 17) = (0 : Int32) from fun h => a2 ((q 0 (bt 17 (by omega)) (by omega)).mp h))]; exact no (fun h => a2 h.2.1) _ bad
  · rw [brF (show ¬ nI (tw d 11) = (512 : Int32) from fun h => a1 ((q 512 (bt 11 (by omega)) (by omega)).mp h))]; exact no (fun h => a1 h.1) _ bad
