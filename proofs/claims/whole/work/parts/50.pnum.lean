/-! numbers and bytes: what the two programs say, as natural numbers -/
theorem brT {β : Type} {p : Prop} [Decidable p] {a b : Option β} (h : p) : br p a b = a := by unfold br; exact if_pos h
theorem brF {β : Type} {p : Prop} [Decidable p] {a b : Option β} (h : ¬ p) : br p a b = b := by unfold br; exact if_neg h
theorem gdT {β : Type} {p : Prop} [Decidable p] {a : Option β} (h : p) : gd p a = a := by unfold gd; exact if_pos h
theorem bnd_eq {α β : Type} (e : α) (f : α → β) : bnd e f = f e := rfl
theorem obnd3_some {α β γ δ : Type} (a : α) (b : β) (c : γ) (f : α → β → γ → Option δ) : obnd3 (some (a, b, c)) f = f a b c := rfl
theorem obnd_some {α δ : Type} (a : α) (f : α → Option δ) : obnd (some a) f = f a := rfl
theorem obnd6_some {R δ : Type} (a : R) (fi : FI) (ar : AR) (ln : LN) (x y : Nat) (f : R → FI → AR → LN → Nat → Nat → Option δ) : obnd6 (some (a, fi, ar, ln, x, y)) f = f a fi ar ln x y := rfl
def uv (x : Int32) : Nat := x.toBitVec.toNat
theorem uv_lt (x : Int32) : uv x < 2 ^ 32 := x.toBitVec.isLt
theorem uv_nI {n : Nat} (h : n < 2 ^ 32) : uv (nI n) = n := pk_tn h
theorem uv_nIm (n : Nat) : uv (nI n) = n % 2 ^ 32 := by show (BitVec.ofNat 32 n).toNat = _; exact BitVec.toNat_ofNat n 32
theorem nI_uv (x : Int32) : nI (uv x) = x := Int32.toBitVec_inj.mp (by show BitVec.ofNat 32 _ = _; simp [uv])
theorem uv_inj {x y : Int32} (h : uv x = uv y) : x = y := by rw [← nI_uv x, ← nI_uv y, h]
theorem nI_mod (n : Nat) : nI (n % 2 ^ 32) = nI n := uv_inj (by rw [uv_nIm, uv_nIm, Nat.mod_mod])
theorem nI_sub {a b : Nat} (h : b ≤ a) : nI a - nI b = nI (a - b) := by
  have e : nI a = nI (a - b) + nI b := by rw [nI_add, Nat.sub_add_cancel h]
  rw [e, Int32.add_sub_cancel]
theorem nx_or (a b : Nat) : nI a ||| nI b = nI (a ||| b) := by
  apply Int32.toBitVec_inj.1
  show BitVec.ofNat 32 a ||| BitVec.ofNat 32 b = BitVec.ofNat 32 (a ||| b)
  apply BitVec.eq_of_getLsbD_eq
  intro i hi
  simp [hi]
theorem nx_and (a b : Nat) : nI a &&& nI b = nI (a &&& b) := by
  apply Int32.toBitVec_inj.1
  show BitVec.ofNat 32 a &&& BitVec.ofNat 32 b = BitVec.ofNat 32 (a &&& b)
  apply BitVec.eq_of_getLsbD_eq
  intro i hi
  simp [hi]
theorem or_nI {a b k : Nat} (ha : a < 2 ^ k) : nI a ||| nI (b * 2 ^ k) = nI (a + b * 2 ^ k) := by
  rw [nx_or]
  congr 1
  rw [Nat.or_comm, ← Nat.shiftLeft_eq, ← Nat.shiftLeft_add_eq_or_of_lt ha, Nat.add_comm]
theorem vpin_nI {n N : Nat} (h : n < N) (hN : N < 2 ^ 31) : ¬ (nI n < 0 ∨ N ≤ (nI n).toNatClampNeg) := nI_in h hN
/-- two and four bytes of a disk, the lowest first -/
def tw (d : Nat → Nat) (p : Nat) : Nat := d p + d (p + 1) * 256
def fo (d : Nat → Nat) (p : Nat) : Nat := tw d p + tw d (p + 2) * 65536
theorem tw_lt {d : Nat → Nat} (h : ∀ p, d p < 256) (p : Nat) : tw d p < 65536 := by
  have := h p; have := h (p + 1); unfold tw; omega
theorem fo_lt {d : Nat → Nat} (h : ∀ p, d p < 256) (p : Nat) : fo d p < 2 ^ 32 := by
  have := tw_lt h p; have := tw_lt h (p + 2); unfold fo; omega
/-- the bytes of a disk, as many as n of v from p on -/
def wr (d : Nat → Nat) (p n v : Nat) : Nat → Nat := fun q => if p ≤ q ∧ q < p + n then v / 256 ^ (q - p) % 256 else d q
theorem wr_in {d : Nat → Nat} {p n v q : Nat} (h1 : p ≤ q) (h2 : q < p + n) : wr d p n v q = v / 256 ^ (q - p) % 256 := if_pos ⟨h1, h2⟩
theorem wr_out {d : Nat → Nat} {p n v q : Nat} (h : q < p ∨ p + n ≤ q) : wr d p n v q = d q := if_neg (fun h2 => by omega)
theorem wr_lt {d : Nat → Nat} (h : ∀ p, d p < 256) (p n v q : Nat) : wr d p n v q < 256 := by
  unfold wr; split
  · exact Nat.mod_lt _ (by decide)
  · exact h q
/-- the model's disk -/
def mb (d : Nat → Int32) (p : Nat) : Nat := uv (d p) % 256
theorem mb_lt (d : Nat → Int32) (p : Nat) : mb d p < 256 := Nat.mod_lt _ (by decide)
/-- d is what the model's disk holds -/
def RD (ar : AR) (d : Nat → Nat) : Prop := ∀ p, p < 524288 → mb (ar 1) p = d p
theorem M_one_eq {nf : Nat} {fi : FI} {ar : AR} {d : Nat → Nat} (hd : RD ar d) {p : Nat} (hp : p < 524288) : M_one nf fi ar (nI p) = some (nI (d p), fi, ar) := by
  unfold M_one
  rw [gdT (vpin_nI hp (by decide)), nI_clamp (by omega), pk_and (ar 1 p) (m := 255) 8 (by decide), ← hd p hp]
  rfl
theorem RD.lt {ar : AR} {d : Nat → Nat} (hd : RD ar d) {p : Nat} (hp : p < 524288) : d p < 256 := by rw [← hd p hp]; exact mb_lt _ _
theorem M_two_eq {nf : Nat} {fi : FI} {ar : AR} {d : Nat → Nat} (hd : RD ar d) {p : Nat} (hp : p + 1 < 524288) : M_two nf fi ar (nI p) = some (nI (tw d p), fi, ar) := by
  unfold M_two
  rw [M_one_eq hd (by omega), obnd3_some, nI_1, M_one_eq hd hp, obnd3_some]
  have h1 := hd.lt (show p < 524288 by omega)
  have h2 := hd.lt hp
  rw [pk_shlN ((8 : Int32) &&& 31) 8 (by decide) (by omega), or_nI (by omega)]
  rfl
theorem M_four_eq {nf : Nat} {fi : FI} {ar : AR} {d : Nat → Nat} (hd : RD ar d) {p : Nat} (hp : p + 3 < 524288) : M_four nf fi ar (nI p) = some (nI (fo d p), fi, ar) := by
  unfold M_four
  rw [M_two_eq hd (by omega), obnd3_some]
  have e : nI p + (2 : Int32) = nI (p + 2) := nI_add p 2
  rw [e, M_two_eq hd (by omega), obnd3_some]
  have h1 := hd.lt (show p < 524288 by omega)
  have h2 := hd.lt (show p + 1 < 524288 by omega)
  have h3 := hd.lt (show p + 2 < 524288 by omega)
  have h4 := hd.lt (show p + 2 + 1 < 524288 by omega)
  have e1 : tw d p < 65536 := by unfold tw; omega
  have e2 : tw d (p + 2) < 65536 := by unfold tw; omega
  rw [pk_shlN ((16 : Int32) &&& 31) 16 (by decide) (by omega), or_nI (by omega)]
  rfl
/-- the class's disk -/
def cb (w : Nat → Int32) (p : Nat) : Nat := uv (w (p / 4)) / 2 ^ (8 * (p % 4)) % 256
theorem cb_lt (w : Nat → Int32) (p : Nat) : cb w p < 256 := Nat.mod_lt _ (by decide)
def CD (ln : LN) (ar : AR) (d : Nat → Nat) : Prop := ln 0 < 2 ^ 18 ∧ ∀ p, p < 4 * ln 0 → cb (ar 0) p = d p
theorem CD.lt {ln : LN} {ar : AR} {d : Nat → Nat} (hd : CD ln ar d) {p : Nat} (hp : p < 4 * ln 0) : d p < 256 := by rw [← hd.2 p hp]; exact cb_lt _ _
theorem sh8 : ∀ j, j < 4 → (((nI (j * 2 ^ 3)).toUInt32 &&& Int32.toUInt32 31).toBitVec % 32).toNat = 8 * j := by decide
theorem sh8l : ∀ j, j < 4 → ((nI (j * 2 ^ 3) &&& 31).toBitVec.smod 32).toNat = 8 * j := by decide
theorem ix4 {p : Nat} (h : p < 2 ^ 31) : nI p >>> ((2 : Int32) &&& 31) = nI (p / 4) := pk_shrN h _ 2 (by decide)
theorem lo4 {p : Nat} (h : p < 2 ^ 31) : (nI p &&& (3 : Int32)) <<< ((3 : Int32) &&& 31) = nI (p % 4 * 2 ^ 3) := by
  rw [pk_andN (by omega) (m := 3) 2 (by decide)]
  have : p % 2 ^ 2 < 4 := Nat.mod_lt _ (by decide)
  rw [pk_shlN ((3 : Int32) &&& 31) 3 (by decide) (by omega)]
theorem ushr4 (x : Int32) {j : Nat} (hj : j < 4) : ((x.toUInt32 >>> ((nI (j * 2 ^ 3)).toUInt32 &&& Int32.toUInt32 31)).toInt32) = nI (uv x / 2 ^ (8 * j)) := by
  have h := pk_ushrN (uv_lt x) (nI (j * 2 ^ 3)) (8 * j) (sh8 j hj)
  rw [nI_uv] at h
  exact h
theorem FX3_one_eq {nf : Nat} {ln : LN} {fi : FI} {ar : AR} {d : Nat → Nat} (hd : CD ln ar d) {p : Nat} (hp : p < 4 * ln 0) : FX3_one nf ln fi ar (nI p) = some (nI (d p), fi, ar) := by
  have hl := hd.1
  have hq : p / 4 < ln 0 := by omega
  unfold FX3_one
  rw [bnd_eq, ix4 (by omega), brF (nI_pos (by omega)), brT (show nI (p / 4) < Int32.ofNat (ln 0) from nI_lt hq (by omega)), gdT (vpin_nI hq (by omega)), nI_clamp (by omega), lo4 (by omega), ushr4 _ (Nat.mod_lt _ (by decide)), pk_and _ (m := 255) 8 (by decide)]
  have h3 : uv (ar 0 (p / 4)) / 2 ^ (8 * (p % 4)) < 2 ^ 32 := Nat.lt_of_le_of_lt (Nat.div_le_self _ _) (uv_lt _)
  rw [pk_tn h3, ← hd.2 p hp]
  rfl
theorem word_cb (w : Nat → Int32) (i : Nat) : uv (w i) = cb w (4 * i) + cb w (4 * i + 1) * 256 + (cb w (4 * i + 2) + cb w (4 * i + 3) * 256) * 65536 := by
  have h := uv_lt (w i)
  unfold cb
  rw [show 4 * i / 4 = i by omega, show (4 * i + 1) / 4 = i by omega, show (4 * i + 2) / 4 = i by omega, show (4 * i + 3) / 4 = i by omega, show 4 * i % 4 = 0 by omega, show (4 * i + 1) % 4 = 1 by omega, show (4 * i + 2) % 4 = 2 by omega, show (4 * i + 3) % 4 = 3 by omega]
  generalize uv (w i) = u at h
  simp only [Nat.mul_zero, Nat.pow_zero, Nat.div_one]
  omega
theorem FX3_four_eq {nf : Nat} {ln : LN} {fi : FI} {ar : AR} {d : Nat → Nat} (hd : CD ln ar d) {p : Nat} (h4 : p % 4 = 0) (hp : p < 4 * ln 0) : FX3_four nf ln fi ar (nI p) = some (nI (fo d p), fi, ar) := by
  have hl := hd.1
  have hq : p / 4 < ln 0 := by omega
  unfold FX3_four
  rw [bnd_eq, ix4 (by omega), brF (nI_pos (by omega)), brT (show nI (p / 4) < Int32.ofNat (ln 0) from nI_lt hq (by omega)), gdT (vpin_nI hq (by omega)), nI_clamp (by omega)]
  have e : ar 0 (p / 4) = nI (fo d p) := by
    rw [← nI_uv (ar 0 (p / 4)), word_cb]
    rw [hd.2 _ (by omega), hd.2 _ (by omega), hd.2 _ (by omega), hd.2 _ (by omega)]
    rw [show 4 * (p / 4) = p by omega]
    rfl
  rw [e]
  rfl
