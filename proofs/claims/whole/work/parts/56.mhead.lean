theorem M_isCluster_eq {nf : Nat} {fi : FI} {ar : AR} {k : Nat} (hk : fi 13 = nI k) (hk2 : k ≤ 1024) (x : Int32) : M_isCluster nf fi ar x = some ((if 2 ≤ uv x ∧ uv x ≤ k + 1 then 1 else 0), fi, ar) := by
  unfold M_isCluster M_isCluster_19 M_isCluster_20
  have t := tI x
  have eK : (nI (k + 1)).toInt = ((k + 1 : Nat) : Int) := nI_toInt (by omega)
  have l2 : (2 : Int32).toInt = 2 := rfl
  rw [hk, nI_1]
  by_cases a1 : x < 2
  · rw [brT a1]
    rw [ltI] at a1
    rw [if_neg (by omega)]
    rfl
  · rw [brF a1]
    rw [ltI] at a1
    by_cases a2 : nI (k + 1) < x
    · rw [brT a2]
      rw [ltI, eK] at a2
      rw [if_neg (by omega)]
      rfl
    · rw [brF a2]
      rw [ltI, eK] at a2
      rw [if_pos (by omega)]
      rfl
theorem M_head_ok {nf : Nat} {fi : FI} {ar : AR} {d : Nat → Nat} {n : Nat} (hd : RD ar d) (hn : fi 0 = nI n) (h1 : 256 ≤ n) (h2 : n ≤ 1024) : (headOK n d ∧ ∃ fi', M_head nf fi ar = some (1, fi', ar) ∧ RG fi' (geoOf n d) ∧ offF [7, 8, 9, 10, 11, 12, 13] fi fi') ∨ (¬ headOK n d ∧ ∃ fi', M_head nf fi ar = some (0, fi', ar) ∧ offF [7, 8, 9, 10, 11, 12, 13] fi fi') := by
  have b13 := hd.lt (show 13 < 524288 by omega)
  have b16 := hd.lt (show 16 < 524288 by omega)
  have b14 := twR_lt hd (show 14 + 1 < 524288 by omega)
  have b36 := foR_lt hd (show 36 + 3 < 524288 by omega)
  have b44 := foR_lt hd (show 44 + 3 < 524288 by omega)
  have b32 := foR_lt hd (show 32 + 3 < 524288 by omega)
  have bt : ∀ p, p < 511 → tw d p < 65536 := fun p hp => twR_lt hd (by omega)
  have q : ∀ {a : Nat} (b : Nat), a < 65536 → b < 65536 → (nI a = nI b ↔ a = b) := fun b ha hb => nI_eq (by omega) (by omega)
  unfold M_head
  rw [show (13 : Int32) = nI 13 from rfl, show (14 : Int32) = nI 14 from rfl, show (16 : Int32) = nI 16 from rfl, show (36 : Int32) = nI 36 from rfl, show (44 : Int32) = nI 44 from rfl, show (11 : Int32) = nI 11 from rfl]
  rw [M_one_eq hd (by omega), obnd3_some, bnd_eq, M_two_eq hd (by omega), obnd3_some, bnd_eq, M_one_eq hd (by omega), obnd3_some, bnd_eq, M_four_eq hd (by omega), obnd3_some, bnd_eq, M_four_eq hd (by omega), obnd3_some, bnd_eq, M_two_eq hd (by omega), obnd3_some]
  obtain ⟨f, hf⟩ : ∃ f, f = va_up (va_up (va_up (va_up (va_up fi 7 (nI (d 13))) 8 (nI (tw d 14))) 9 (nI (d 16))) 10 (nI (fo d 36))) 11 (nI (fo d 44)) := ⟨_, rfl⟩
  have f0 : f 0 = nI n := by rw [hf]; simpa [va_up] using hn
  have f7 : f 7 = nI (d 13) := by rw [hf]; simp [va_up]
  have f8 : f 8 = nI (tw d 14) := by rw [hf]; simp [va_up]
  have f9 : f 9 = nI (d 16) := by rw [hf]; simp [va_up]
  have f10 : f 10 = nI (fo d 36) := by rw [hf]; simp [va_up]
  have f11 : f 11 = nI (fo d 44) := by rw [hf]; simp [va_up]
  have fo' : offF [7, 8, 9, 10, 11, 12, 13] fi f := by
    rw [hf]
    exact ((((offF.rf.up (by decide)).up (by decide)).up (by decide)).up (by decide)).up (by decide)
  rw [← hf]
  clear hf
  have rt : ∀ p, p < 511 → M_two nf f ar (nI p) = some (nI (tw d p), f, ar) := fun p hp => M_two_eq hd (by omega)
  have no : ¬ headOK n d → ∀ o : Option (Int32 × FI × AR), o = M_head_215 nf f ar → ((headOK n d ∧ ∃ fi', o = some (1, fi', ar) ∧ RG fi' (geoOf n d) ∧ offF [7, 8, 9, 10, 11, 12, 13] fi fi') ∨ (¬ headOK n d ∧ ∃ fi', o = some (0, fi', ar) ∧ offF [7, 8, 9, 10, 11, 12, 13] fi fi')) := fun h o ho => Or.inr ⟨h, f, by rw [ho]; unfold M_head_215 M_head_216; rw [brT rfl], fo'⟩
  have k216 : fixOK n d → (d 13 = 2 ∨ d 13 = 4 ∨ d 13 = 8) → (8 ≤ tw d 14 ∧ tw d 14 ≤ 64) → (d 16 = 1 ∨ d 16 = 2) → (1 ≤ fo d 36 ∧ fo d 36 ≤ 32) → ((headOK n d ∧ ∃ fi', M_head_216 nf 1 f ar = some (1, fi', ar) ∧ RG fi' (geoOf n d) ∧ offF [7, 8, 9, 10, 11, 12, 13] fi fi') ∨ (¬ headOK n d ∧ ∃ fi', M_head_216 nf 1 f ar = some (0, fi', ar) ∧ offF [7, 8, 9, 10, 11, 12, 13] fi fi')) := by
    intro hfix hc hv hy hz
    have hyz : d 16 * fo d 36 ≤ 64 := by rcases hy with h | h <;> rw [h] <;> omega
    unfold M_head_216 M_head_310 M_head_311
    rw [brF (by decide), f8, f9, f10, pk_mul, nI_add, bnd_eq]
    have g7 : va_up f 12 (nI (tw d 14 + d 16 * fo d 36)) 7 = nI (d 13) := by simp [va_up, f7]
    have g0 : va_up f 12 (nI (tw d 14 + d 16 * fo d 36)) 0 = nI n := by simp [va_up, f0]
    have hc0 : 0 < d 13 := by omega
    rw [g7, g0, va_up_self, gdT (show ¬ nI (d 13) = 0 from nI_ne0 hc0 (by omega)), bnd_eq, nI_sub (by omega), pk_div (by omega) hc0 (by omega)]
    have hk : 4 ≤ (n - (tw d 14 + d 16 * fo d 36)) / d 13 := by rcases hc with h | h | h <;> rw [h] <;> omega
    have hk2 : (n - (tw d 14 + d 16 * fo d 36)) / d 13 ≤ 1024 := Nat.le_trans (Nat.div_le_self _ _) (by omega)
    obtain ⟨K, hK⟩ : ∃ K, K = (n - (tw d 14 + d 16 * fo d 36)) / d 13 := ⟨_, rfl⟩
    have eG : (geoOf n d).k = K := hK.symm
    have eA : (geoOf n d).a = tw d 14 + d 16 * fo d 36 := rfl
    rw [← hK] at hk hk2 ⊢
    obtain ⟨h, hh⟩ : ∃ h, h = va_up (va_up f 12 (nI (tw d 14 + d 16 * fo d 36))) 13 (nI K) := ⟨_, rfl⟩
    have h0' : h 0 = nI n := by rw [hh]; simp [va_up, f0]
    have h7' : h 7 = nI (d 13) := by rw [hh]; simp [va_up, f7]
    have h8' : h 8 = nI (tw d 14) := by rw [hh]; simp [va_up, f8]
    have h9' : h 9 = nI (d 16) := by rw [hh]; simp [va_up, f9]
    have h10' : h 10 = nI (fo d 36) := by rw [hh]; simp [va_up, f10]
    have h11' : h 11 = nI (fo d 44) := by rw [hh]; simp [va_up, f11]
    have h12' : h 12 = nI (tw d 14 + d 16 * fo d 36) := by rw [hh]; simp [va_up]
    have h13' : h 13 = nI K := by rw [hh]; simp [va_up]
    have ho : offF [7, 8, 9, 10, 11, 12, 13] fi h := by rw [hh]; exact (fo'.up (by decide)).up (by decide)
    rw [← hh]
    clear hh
    rw [h0', h12', h13', h10', brF (show ¬ nI n ≤ nI (tw d 14 + d 16 * fo d 36) from nI_ge (by omega) (by omega)), brF (show ¬ nI K < (4 : Int32) from nI_nlt hk (by omega)), show (128 : Int32) * nI (fo d 36) = nI (128 * fo d 36) from pk_mul 128 _, show nI K + (2 : Int32) = nI (K + 2) from nI_add K 2]
    by_cases a3 : 128 * fo d 36 < K + 2
    · rw [brT (nI_lt a3 (by omega))]
      refine Or.inr ⟨fun hh => ?_, h, rfl, ho⟩
      have := hh.2.1.2.2.2.2
      omega
    · rw [brF (nI_nlt (by omega) (by omega)), h11', M_isCluster_eq h13' hk2, obnd3_some, uv_nI b44]
      have hg : geoOK n (d 13) (tw d 14) (d 16) (fo d 36) := ⟨hc, hv, hy, hz, by omega⟩
      by_cases a4 : 2 ≤ fo d 44 ∧ fo d 44 ≤ K + 1
      · rw [if_pos a4, brF (by decide)]
        exact Or.inl ⟨⟨hfix, hg, by rw [eG]; exact a4⟩, h, rfl, ⟨h0', h7', h8', h9', h10', h11', h12', by rw [eG]; exact h13'⟩, ho⟩
      · rw [if_neg a4, brT rfl]
        exact Or.inr ⟨fun hh => a4 (by rw [← eG]; exact hh.2.2), h, rfl, ho⟩
  have k121 : tw d 11 = 512 → (d 13 = 2 ∨ d 13 = 4 ∨ d 13 = 8) → (8 ≤ tw d 14 ∧ tw d 14 ≤ 64) → (d 16 = 1 ∨ d 16 = 2) → ((headOK n d ∧ ∃ fi', M_head_121 nf f ar = some (1, fi', ar) ∧ RG fi' (geoOf n d) ∧ offF [7, 8, 9, 10, 11, 12, 13] fi fi') ∨ (¬ headOK n d ∧ ∃ fi', M_head_121 nf f ar = some (0, fi', ar) ∧ offF [7, 8, 9, 10, 11, 12, 13] fi fi')) := by
    intro a1 hc hv hy
    unfold M_head_121
    rw [show (17 : Int32) = nI 17 from rfl, show (19 : Int32) = nI 19 from rfl, show (22 : Int32) = nI 22 from rfl, show M_four nf = M_four nf from rfl, show (48 : Int32) = nI 48 from rfl, show (50 : Int32) = nI 50 from rfl, show (510 : Int32) = nI 510 from rfl, rt 17 (by omega), obnd3_some]
    by_cases a2 : tw d 17 = 0
    · rw [brT (show nI (tw d 17) = 0 from (q 0 (bt 17 (by omega)) (by omega)).mpr a2), rt 19 (by omega), obnd3_some]
      by_cases a3 : tw d 19 = 0
      · rw [brT (show nI (tw d 19) = 0 from (q 0 (bt 19 (by omega)) (by omega)).mpr a3), rt 22 (by omega), obnd3_some]
        by_cases a4 : tw d 22 = 0
        · rw [brT (show nI (tw d 22) = 0 from (q 0 (bt 22 (by omega)) (by omega)).mpr a4), show M_four nf f ar (32 : Int32) = some (nI (fo d 32), f, ar) from M_four_eq (p := 32) hd (by omega), obnd3_some, f0, f10]
          have e32 : nI (fo d 32) = nI n ↔ fo d 32 = n := ⟨fun h => by have := congrArg uv h; rw [uv_nI b32, uv_nI (by omega)] at this; exact this, fun h => by rw [h]⟩
          by_cases a5 : fo d 32 = n
          · rw [brT (e32.mpr a5)]
            have t := tI (nI (fo d 36))
            rw [uv_nI b36] at t
            have l1 : (1 : Int32).toInt = 1 := rfl
            have l32 : (32 : Int32).toInt = 32 := rfl
            by_cases z1 : nI (fo d 36) < (1 : Int32)
            · rw [brT z1]; exact no (fun h => by have := h.2.1.2.2.2.1; rw [ltI] at z1; omega) _ rfl
            · rw [brF z1]
              by_cases z2 : (32 : Int32) < nI (fo d 36)
              · rw [brT z2]; exact no (fun h => by have := h.2.1.2.2.2.1; rw [ltI] at z2; omega) _ rfl
              · rw [brF z2, rt 48 (by omega), obnd3_some]
                have hz : 1 ≤ fo d 36 ∧ fo d 36 ≤ 32 := by rw [ltI] at z1 z2; omega
                by_cases a6 : tw d 48 = 1
                · rw [brT (show nI (tw d 48) = 1 from (q 1 (bt 48 (by omega)) (by omega)).mpr a6), rt 50 (by omega), obnd3_some]
                  by_cases a7 : tw d 50 = 6
                  · rw [brT (show nI (tw d 50) = 6 from (q 6 (bt 50 (by omega)) (by omega)).mpr a7), rt 510 (by omega), obnd3_some]
                    by_cases a8 : tw d 510 = 43605
                    · rw [brT (show nI (tw d 510) = 43605 from (q 43605 (bt 510 (by omega)) (by omega)).mpr a8)]
                      exact k216 ⟨a1, a2, a3, a4, a5, a6, a7, a8⟩ hc hv hy hz
                    · rw [brF (show ¬ nI (tw d 510) = (43605 : Int32) from fun h => a8 ((q 43605 (bt 510 (by omega)) (by omega)).mp h))]; exact no (fun h => a8 h.1.2.2.2.2.2.2.2) _ rfl
                  · rw [brF (show ¬ nI (tw d 50) = (6 : Int32) from fun h => a7 ((q 6 (bt 50 (by omega)) (by omega)).mp h))]; exact no (fun h => a7 h.1.2.2.2.2.2.2.1) _ rfl
                · rw [brF (show ¬ nI (tw d 48) = (1 : Int32) from fun h => a6 ((q 1 (bt 48 (by omega)) (by omega)).mp h))]; exact no (fun h => a6 h.1.2.2.2.2.2.1) _ rfl
          · rw [brF (fun h => a5 (e32.mp h))]; exact no (fun h => a5 h.1.2.2.2.2.1) _ rfl
        · rw [brF (show ¬ nI (tw d 22) = (0 : Int32) from fun h => a4 ((q 0 (bt 22 (by omega)) (by omega)).mp h))]; exact no (fun h => a4 h.1.2.2.2.1) _ rfl
      · rw [brF (show ¬ nI (tw d 19) = (0 : Int32) from fun h => a3 ((q 0 (bt 19 (by omega)) (by omega)).mp h))]; exact no (fun h => a3 h.1.2.2.1) _ rfl
    · rw [brF (show ¬ nI (tw d 17) = (0 : Int32) from fun h => a2 ((q 0 (bt 17 (by omega)) (by omega)).mp h))]; exact no (fun h => a2 h.1.2.1) _ rfl
  have k87 : tw d 11 = 512 → (d 13 = 2 ∨ d 13 = 4 ∨ d 13 = 8) → ((headOK n d ∧ ∃ fi', M_head_87 nf f ar = some (1, fi', ar) ∧ RG fi' (geoOf n d) ∧ offF [7, 8, 9, 10, 11, 12, 13] fi fi') ∨ (¬ headOK n d ∧ ∃ fi', M_head_87 nf f ar = some (0, fi', ar) ∧ offF [7, 8, 9, 10, 11, 12, 13] fi fi')) := by
    intro a1 hc
    unfold M_head_87
    rw [f8, f9]
    by_cases v1 : tw d 14 < 8
    · rw [brT (show nI (tw d 14) < (8 : Int32) from nI_lt (b := 8) v1 (by omega))]; exact no (fun h => by have := h.2.1.2.1; omega) _ rfl
    · rw [brF (show ¬ nI (tw d 14) < (8 : Int32) from nI_nlt (a := tw d 14) (b := 8) (by omega) (by omega))]
      by_cases v2 : 64 < tw d 14
      · rw [brT (show (64 : Int32) < nI (tw d 14) from nI_lt (a := 64) v2 (by omega))]; exact no (fun h => by have := h.2.1.2.1; omega) _ rfl
      · rw [brF (show ¬ (64 : Int32) < nI (tw d 14) from nI_nlt (a := 64) (b := tw d 14) (by omega) (by omega))]
        by_cases y1 : d 16 = 1
        · rw [brT (show nI (d 16) = (1 : Int32) by rw [y1]; rfl)]; exact k121 a1 hc (by omega) (Or.inl y1)
        · rw [brF (show ¬ nI (d 16) = (1 : Int32) from fun h => y1 ((q 1 (by omega) (by omega)).mp h))]
          by_cases y2 : d 16 = 2
          · rw [brT (show nI (d 16) = (2 : Int32) by rw [y2]; rfl)]; exact k121 a1 hc (by omega) (Or.inr y2)
          · rw [brF (show ¬ nI (d 16) = (2 : Int32) from fun h => y2 ((q 2 (by omega) (by omega)).mp h))]; exact no (fun h => by have := h.2.1.2.2.1; omega) _ rfl
  rw [f7]
  by_cases a1 : tw d 11 = 512
  · rw [brT (show nI (tw d 11) = 512 from (q 512 (bt 11 (by omega)) (by omega)).mpr a1)]
    by_cases c1 : d 13 = 2
    · rw [brT (show nI (d 13) = (2 : Int32) by rw [c1]; rfl)]; exact k87 a1 (Or.inl c1)
    · rw [brF (show ¬ nI (d 13) = (2 : Int32) from fun h => c1 ((q 2 (by omega) (by omega)).mp h))]
      by_cases c2 : d 13 = 4
      · rw [brT (show nI (d 13) = (4 : Int32) by rw [c2]; rfl)]; exact k87 a1 (Or.inr (Or.inl c2))
      · rw [brF (show ¬ nI (d 13) = (4 : Int32) from fun h => c2 ((q 4 (by omega) (by omega)).mp h))]
        by_cases c3 : d 13 = 8
        · rw [brT (show nI (d 13) = (8 : Int32) by rw [c3]; rfl)]; exact k87 a1 (Or.inr (Or.inr c3))
        · rw [brF (show ¬ nI (d 13) = (8 : Int32) from fun h => c3 ((q 8 (by omega) (by omega)).mp h))]; exact no (fun h => by have := h.2.1.1; omega) _ rfl
  · rw [brF (show ¬ nI (tw d 11) = (512 : Int32) from fun h => a1 ((q 512 (bt 11 (by omega)) (by omega)).mp h))]; exact no (fun h => a1 h.1.1) _ rfl
