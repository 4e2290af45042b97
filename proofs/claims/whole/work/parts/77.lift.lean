/-! how numbers go through: rows for simp -/
theorem uI_eq {a b : Nat} (ha : a < 4294967296) (hb : b < 4294967296) : nI a = nI b ↔ a = b := ⟨fun h => by have := congrArg uv h; rwa [uv_nI ha, uv_nI hb] at this, fun h => by rw [h]⟩
theorem zlt {β : Type} {a b : Nat} {X Y : Option β} [Decidable (nI a < nI b)] (ha : a < 2147483648) (hb : b < 2147483648) : br (nI a < nI b) X Y = if a < b then X else Y := by
  unfold br
  by_cases h : a < b
  · rw [if_pos h, if_pos (nI_lt h hb)]
  · rw [if_neg h, if_neg (nI_nlt (by omega) ha)]
theorem zle {β : Type} {a b : Nat} {X Y : Option β} [Decidable (nI a ≤ nI b)] (ha : a < 2147483648) (hb : b < 2147483648) : br (nI a ≤ nI b) X Y = if a ≤ b then X else Y := by
  unfold br
  by_cases h : a ≤ b
  · rw [if_pos h, if_pos (nI_le h hb)]
  · rw [if_neg h, if_neg (nI_ge (by omega) ha)]
theorem zeq {β : Type} {a b : Nat} {X Y : Option β} [Decidable (nI a = nI b)] (ha : a < 4294967296) (hb : b < 4294967296) : br (nI a = nI b) X Y = if a = b then X else Y := by
  unfold br
  by_cases h : a = b
  · rw [if_pos h, if_pos (by rw [h])]
  · rw [if_neg h, if_neg (fun q => h ((uI_eq ha hb).mp q))]
theorem zltl {β : Type} {a n : Nat} {X Y : Option β} [iD : Decidable (nI a < (no_index (OfNat.ofNat n) : Int32))] (ha : a < 2147483648) (hb : (OfNat.ofNat n : Nat) < 2147483648) : br (nI a < (no_index (OfNat.ofNat n) : Int32)) X Y = if a < (OfNat.ofNat n : Nat) then X else Y := @zlt β a n X Y iD ha hb
theorem zllt {β : Type} {a n : Nat} {X Y : Option β} [iD : Decidable ((no_index (OfNat.ofNat n) : Int32) < nI a)] (ha : a < 2147483648) (hb : (OfNat.ofNat n : Nat) < 2147483648) : br ((no_index (OfNat.ofNat n) : Int32) < nI a) X Y = if (OfNat.ofNat n : Nat) < a then X else Y := @zlt β n a X Y iD hb ha
theorem zlel {β : Type} {a n : Nat} {X Y : Option β} [iD : Decidable (nI a ≤ (no_index (OfNat.ofNat n) : Int32))] (ha : a < 2147483648) (hb : (OfNat.ofNat n : Nat) < 2147483648) : br (nI a ≤ (no_index (OfNat.ofNat n) : Int32)) X Y = if a ≤ (OfNat.ofNat n : Nat) then X else Y := @zle β a n X Y iD ha hb
theorem zlle {β : Type} {a n : Nat} {X Y : Option β} [iD : Decidable ((no_index (OfNat.ofNat n) : Int32) ≤ nI a)] (ha : a < 2147483648) (hb : (OfNat.ofNat n : Nat) < 2147483648) : br ((no_index (OfNat.ofNat n) : Int32) ≤ nI a) X Y = if (OfNat.ofNat n : Nat) ≤ a then X else Y := @zle β n a X Y iD hb ha
theorem zeql {β : Type} {a n : Nat} {X Y : Option β} [iD : Decidable (nI a = (no_index (OfNat.ofNat n) : Int32))] (ha : a < 4294967296) (hb : (OfNat.ofNat n : Nat) < 4294967296) : br (nI a = (no_index (OfNat.ofNat n) : Int32)) X Y = if a = (OfNat.ofNat n : Nat) then X else Y := @zeq β a n X Y iD ha hb
theorem zll {β : Type} {m n : Nat} {X Y : Option β} [iD : Decidable ((no_index (OfNat.ofNat m) : Int32) = (no_index (OfNat.ofNat n) : Int32))] (ha : (OfNat.ofNat m : Nat) < 4294967296) (hb : (OfNat.ofNat n : Nat) < 4294967296) : br ((no_index (OfNat.ofNat m) : Int32) = (no_index (OfNat.ofNat n) : Int32)) X Y = if (OfNat.ofNat m : Nat) = (OfNat.ofNat n : Nat) then X else Y := @zeq β m n X Y iD ha hb
theorem zgd {β : Type} {a N : Nat} {X : Option β} [Decidable (¬ (nI a < 0 ∨ N ≤ (nI a).toNatClampNeg))] (ha : a < N) (hN : a < 2147483648) : gd (¬ (nI a < 0 ∨ N ≤ (nI a).toNatClampNeg)) X = X := by
  refine gdT ?_
  rw [nI_clamp hN]
  exact fun q => q.elim (nI_pos hN) (fun q => by omega)
theorem zgdc {β : Type} {a N : Nat} {X : Option β} [Decidable (¬ (nI a < 0 ∨ N ≤ a))] (ha : a < N) (hN : a < 2147483648) : gd (¬ (nI a < 0 ∨ N ≤ a)) X = X := gdT (fun q => q.elim (nI_pos hN) (fun q => by omega))
theorem zgd0 {β : Type} {N : Nat} {X : Option β} [iD : Decidable (¬ ((0 : Int32) < 0 ∨ N ≤ (0 : Int32).toNatClampNeg))] (ha : 0 < N) : gd (¬ ((0 : Int32) < 0 ∨ N ≤ (0 : Int32).toNatClampNeg)) X = X := @zgd β 0 N X iD ha (by omega)
theorem zcl0 : (0 : Int32).toNatClampNeg = 0 := rfl
theorem zaddl {a n : Nat} : nI a + (no_index (OfNat.ofNat n) : Int32) = nI (a + (OfNat.ofNat n : Nat)) := nI_add a n
theorem zladd {a n : Nat} : (no_index (OfNat.ofNat n) : Int32) + nI a = nI ((OfNat.ofNat n : Nat) + a) := nI_add n a
theorem zsubl {a n : Nat} (h : (OfNat.ofNat n : Nat) ≤ a) : nI a - (no_index (OfNat.ofNat n) : Int32) = nI (a - (OfNat.ofNat n : Nat)) := nI_sub (b := n) h
theorem zlsub {a n : Nat} (h : a ≤ (OfNat.ofNat n : Nat)) : (no_index (OfNat.ofNat n) : Int32) - nI a = nI ((OfNat.ofNat n : Nat) - a) := nI_sub (a := n) h
theorem zmull {a n : Nat} : nI a * (no_index (OfNat.ofNat n) : Int32) = nI (a * (OfNat.ofNat n : Nat)) := pk_mul a n
theorem zlmul {a n : Nat} : (no_index (OfNat.ofNat n) : Int32) * nI a = nI ((OfNat.ofNat n : Nat) * a) := pk_mul n a
theorem zdivl {a n : Nat} (ha : a < 2147483648) (h0 : 0 < (OfNat.ofNat n : Nat)) (hn : (OfNat.ofNat n : Nat) < 2147483648) : nI a / (no_index (OfNat.ofNat n) : Int32) = nI (a / (OfNat.ofNat n : Nat)) := pk_div (d := n) ha h0 hn
theorem zand1 {a : Nat} (h : a < 4294967296) : nI a &&& 1 = nI (a % 2) := pk_andN h 1 (by decide)
theorem zand3 {a : Nat} (h : a < 4294967296) : nI a &&& 3 = nI (a % 4) := pk_andN h 2 (by decide)
theorem zand15 {a : Nat} (h : a < 4294967296) : nI a &&& 15 = nI (a % 16) := pk_andN h 4 (by decide)
theorem zand31 {a : Nat} (h : a < 4294967296) : nI a &&& 31 = nI (a % 32) := pk_andN h 5 (by decide)
theorem zand63 {a : Nat} (h : a < 4294967296) : nI a &&& 63 = nI (a % 64) := pk_andN h 6 (by decide)
theorem zand255 {a : Nat} (h : a < 4294967296) : nI a &&& 255 = nI (a % 256) := pk_andN h 8 (by decide)
theorem zand65535 {a : Nat} (h : a < 4294967296) : nI a &&& 65535 = nI (a % 65536) := pk_andN h 16 (by decide)
theorem zshr1 {a : Nat} (h : a < 2147483648) : nI a >>> ((1 : Int32) &&& 31) = nI (a / 2) := pk_shrN h _ 1 (by decide)
theorem zshl7 {a : Nat} (h : a * 128 < 4294967296) : nI a <<< ((7 : Int32) &&& 31) = nI (a * 128) := pk_shlN _ 7 (by decide) h
theorem zshl8 {a : Nat} (h : a * 256 < 4294967296) : nI a <<< ((8 : Int32) &&& 31) = nI (a * 256) := pk_shlN _ 8 (by decide) h
theorem zshl9 {a : Nat} (h : a * 512 < 4294967296) : nI a <<< ((9 : Int32) &&& 31) = nI (a * 512) := pk_shlN _ 9 (by decide) h
/-- one bit of a byte -/
theorem zbit8 {a : Nat} (h : a < 256) : nI a &&& 8 = nI (a / 8 % 2 * 8) := by
  have : ∀ a, a < 256 → nI a &&& 8 = nI (a / 8 % 2 * 8) := by decide +kernel
  exact this a h
theorem zbit16 {a : Nat} (h : a < 256) : nI a &&& 16 = nI (a / 16 % 2 * 16) := by
  have : ∀ a, a < 256 → nI a &&& 16 = nI (a / 16 % 2 * 16) := by decide +kernel
  exact this a h
theorem nI0 : (0 : Int32) = nI 0 := rfl
theorem nI1 : (1 : Int32) = nI 1 := rfl
theorem zif0 {p : Prop} [Decidable p] : (if p then (1 : Int32) else 0) = nI (if p then 1 else 0) := by
  by_cases h : p
  · rw [if_pos h, if_pos h]; rfl
  · rw [if_neg h, if_neg h]; rfl
theorem zgd0c {β : Type} {N : Nat} {X : Option β} [iD : Decidable (¬ ((0 : Int32) < 0 ∨ N ≤ 0))] (ha : 0 < N) : gd (¬ ((0 : Int32) < 0 ∨ N ≤ 0)) X = X := gdT (fun q => q.elim (fun h => absurd h (by decide)) (fun q => by omega))
theorem zbit {β : Type} {n : Nat} {X : Option β} [iD : Decidable (nI n &&& 1 = nI n)] (hn : n < 2) : gd (nI n &&& 1 = nI n) X = X := gdT (by rw [zand1 (by omega)]; congr 1; omega)
theorem zbitc {β : Type} {n : Nat} {X : Option β} [iD : Decidable (nI (n % 2) = nI n)] (hn : n < 2) : gd (nI (n % 2) = nI n) X = X := gdT (by congr 1; omega)
theorem zbit1 {β : Type} {X : Option β} [iD : Decidable ((1 : Int32) &&& 1 = 1)] : gd ((1 : Int32) &&& 1 = 1) X = X := gdT rfl
theorem zbit0 {β : Type} {X : Option β} [iD : Decidable ((0 : Int32) &&& 1 = 0)] : gd ((0 : Int32) &&& 1 = 0) X = X := gdT rfl
