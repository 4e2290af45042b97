/-! sector 0 -/
theorem tI (x : Int32) : ((uv x < 2147483648 ∧ x.toInt = (uv x : Int)) ∨ (2147483648 ≤ uv x ∧ x.toInt = (uv x : Int) - 4294967296)) ∧ uv x < 4294967296 := by
  have h := uv_lt x
  refine ⟨?_, h⟩
  have e : x.toInt = x.toBitVec.toInt := rfl
  rw [e, BitVec.toInt_eq_toNat_cond]
  have : uv x = x.toBitVec.toNat := rfl
  rw [← this]
  split <;> omega
theorem eqU {x y : Int32} : x = y ↔ uv x = uv y := ⟨fun h => by rw [h], uv_inj⟩
theorem ltI {x y : Int32} : x < y ↔ x.toInt < y.toInt := Int32.lt_iff_toInt_lt
theorem leI {x y : Int32} : x ≤ y ↔ x.toInt ≤ y.toInt := Int32.le_iff_toInt_le
abbrev geoOK (n c v y z : Nat) : Prop := (c = 2 ∨ c = 4 ∨ c = 8) ∧ (8 ≤ v ∧ v ≤ 64) ∧ (y = 1 ∨ y = 2) ∧ (1 ≤ z ∧ z ≤ 32) ∧ (n - (v + y * z)) / c + 2 ≤ 128 * z
/-- the shift that belongs to sectors of a cluster -/
def shC (c : Nat) : Nat := if c = 8 then 3 else if c = 4 then 2 else 1
theorem shC_pow {c : Nat} (h : c = 2 ∨ c = 4 ∨ c = 8) : 2 ^ shC c = c := by rcases h with rfl | rfl | rfl <;> rfl
theorem FX9_shiftOf_eq {nf : Nat} (x : Int32) : FX9_shiftOf nf x = some (nI (shC (uv x))) := by
  unfold FX9_shiftOf FX9_shiftOf_20 br shC
  have e8 : x = 8 ↔ uv x = 8 := eqU
  have e4 : x = 4 ↔ uv x = 4 := eqU
  by_cases h8 : uv x = 8
  · rw [if_pos (e8.mpr h8), if_pos h8]; rfl
  · rw [if_neg (fun h => h8 (e8.mp h)), if_neg h8]
    by_cases h4 : uv x = 4
    · rw [if_pos (e4.mpr h4), if_pos h4]; rfl
    · rw [if_neg (fun h => h4 (e4.mp h)), if_neg h4]; rfl
theorem smC : ∀ s, s < 4 → ((nI s &&& 31).toBitVec.smod 32).toNat = s := by decide
theorem shC_lt (c : Nat) : shC c < 4 := by unfold shC; split; decide; split <;> decide
theorem FX9_clusterCount_eq {nf : Nat} {ln : LN} {fi : FI} {ar : AR} {n a : Nat} (x : Int32) (hn : fi 2 = nI n) (hn2 : n ≤ 1024) (ha : a ≤ n) : FX9_clusterCount nf ln fi ar x (nI a) = some (nI ((n - a) / 2 ^ shC (uv x)), fi, ar) := by
  unfold FX9_clusterCount
  rw [FX9_shiftOf_eq, obnd_some, hn, nI_sub ha, pk_shrN (by omega) _ (shC (uv x)) (smC _ (shC_lt _))]
theorem FX9_tableFits_eq {nf : Nat} {ln : LN} {fi : FI} {ar : AR} {n : Nat} (hn : fi 2 = nI n) (h1 : 256 ≤ n) (h2 : n ≤ 1024) (x1 x2 x3 x4 : Int32) : FX9_tableFits nf ln fi ar x1 x2 x3 x4 = some ((if geoOK n (uv x1) (uv x2) (uv x3) (uv x4) then 1 else 0), fi, ar) := by
  have bad : ¬ geoOK n (uv x1) (uv x2) (uv x3) (uv x4) → ∀ o : Option (Int32 × FI × AR), o = some (0, fi, ar) → o = some ((if geoOK n (uv x1) (uv x2) (uv x3) (uv x4) then 1 else 0), fi, ar) := fun h o ho => by rw [if_neg h]; exact ho
  have f55 : FX9_tableFits_55 nf ln x1 x2 x3 x4 fi ar = some (0, fi, ar) := by
    unfold FX9_tableFits_55 FX9_tableFits_56; rw [brT rfl]
  have t2 := tI x2
  have t4 := tI x4
  have l8 : (8 : Int32).toInt = 8 := rfl
  have l64 : (64 : Int32).toInt = 64 := rfl
  have l1 : (1 : Int32).toInt = 1 := rfl
  have l32 : (32 : Int32).toInt = 32 := rfl
  have key : (uv x1 = 2 ∨ uv x1 = 4 ∨ uv x1 = 8) → FX9_tableFits_16 nf ln x1 x2 x3 x4 fi ar = some ((if geoOK n (uv x1) (uv x2) (uv x3) (uv x4) then 1 else 0), fi, ar) := by
    intro hc
    have key2 : (8 ≤ uv x2 ∧ uv x2 ≤ 64) → (uv x3 = 1 ∨ uv x3 = 2) → FX9_tableFits_38 nf ln x1 x2 x3 x4 fi ar = some ((if geoOK n (uv x1) (uv x2) (uv x3) (uv x4) then 1 else 0), fi, ar) := by
      intro hv hy
      unfold FX9_tableFits_38
      by_cases a1 : x4 < 1
      · rw [brT a1]; exact bad (fun h => by have := h.2.2.2.1; rw [ltI] at a1; omega) _ f55
      · rw [brF a1]
        by_cases a2 : 32 < x4
        · rw [brT a2]; exact bad (fun h => by have := h.2.2.2.1; rw [ltI] at a2; omega) _ f55
        · rw [brF a2]
          have hz : 1 ≤ uv x4 ∧ uv x4 ≤ 32 := by rw [ltI] at a1 a2; omega
          have hyz : uv x3 * uv x4 ≤ 64 := by rcases hy with h | h <;> rw [h] <;> omega
          unfold FX9_tableFits_56 FX9_tableFits_101 FX9_tableFits_102
          have ea : x2 + x3 * x4 = nI (uv x2 + uv x3 * uv x4) := by
            conv => lhs; rw [← nI_uv x2, ← nI_uv x3, ← nI_uv x4]
            rw [pk_mul, nI_add]
          rw [brF (by decide), ea, FX9_clusterCount_eq x1 hn h2 (by omega), obnd3_some, shC_pow hc]
          have hk : 4 ≤ (n - (uv x2 + uv x3 * uv x4)) / uv x1 := by
            rcases hc with h | h | h <;> rw [h] <;> omega
          have hk2 : (n - (uv x2 + uv x3 * uv x4)) / uv x1 ≤ 1024 := Nat.le_trans (Nat.div_le_self _ _) (by omega)
          rw [brF (show ¬ nI ((n - (uv x2 + uv x3 * uv x4)) / uv x1) < (4 : Int32) from nI_nlt hk (by omega))]
          have e4 : (128 : Int32) * x4 = nI (128 * uv x4) := by
            conv => lhs; rw [← nI_uv x4]
            exact pk_mul 128 _
          rw [e4, show nI ((n - (uv x2 + uv x3 * uv x4)) / uv x1) + (2 : Int32) = nI ((n - (uv x2 + uv x3 * uv x4)) / uv x1 + 2) from nI_add _ 2]
          by_cases a3 : 128 * uv x4 < (n - (uv x2 + uv x3 * uv x4)) / uv x1 + 2
          · rw [brT (nI_lt a3 (by omega)), if_neg (fun h => by have := h.2.2.2.2; omega)]; rfl
          · rw [brF (nI_nlt (by omega) (by omega)), if_pos ⟨hc, hv, hy, hz, by omega⟩]; rfl
    unfold FX9_tableFits_16
    by_cases a1 : x2 < 8
    · rw [brT a1]; exact bad (fun h => by have := h.2.1; rw [ltI] at a1; omega) _ f55
    · rw [brF a1]
      by_cases a2 : 64 < x2
      · rw [brT a2]; exact bad (fun h => by have := h.2.1; rw [ltI] at a2; omega) _ f55
      · rw [brF a2]
        have hv : 8 ≤ uv x2 ∧ uv x2 ≤ 64 := by rw [ltI] at a1 a2; omega
        by_cases a3 : x3 = 1
        · rw [brT a3]; exact key2 hv (Or.inl (by rw [a3]; rfl))
        · rw [brF a3]
          by_cases a4 : x3 = 2
          · rw [brT a4]; exact key2 hv (Or.inr (by rw [a4]; rfl))
          · rw [brF a4]; exact bad (fun h => by rcases h.2.2.1 with h | h; exact a3 (uv_inj h); exact a4 (uv_inj h)) _ f55
  unfold FX9_tableFits
  by_cases a1 : x1 = 2
  · rw [brT a1]; exact key (Or.inl (by rw [a1]; rfl))
  · rw [brF a1]
    by_cases a2 : x1 = 4
    · rw [brT a2]; exact key (Or.inr (Or.inl (by rw [a2]; rfl)))
    · rw [brF a2]
      by_cases a3 : x1 = 8
      · rw [brT a3]; exact key (Or.inr (Or.inr (by rw [a3]; rfl)))
      · rw [brF a3]; exact bad (fun h => by rcases h.1 with h | h | h; exact a1 (uv_inj h); exact a2 (uv_inj h); exact a3 (uv_inj h)) _ f55
