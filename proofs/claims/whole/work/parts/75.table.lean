/-! writes and what is read then -/
theorem tw_wr_out {d : Nat → Nat} {p n v q : Nat} (h : q + 2 ≤ p ∨ p + n ≤ q) : tw (wr d p n v) q = tw d q := by
  unfold tw; rw [wr_out (by omega), wr_out (by omega)]
theorem fo_wr_out {d : Nat → Nat} {p n v q : Nat} (h : q + 4 ≤ p ∨ p + n ≤ q) : fo (wr d p n v) q = fo d q := by
  unfold fo; rw [tw_wr_out (by omega), tw_wr_out (by omega)]
theorem fcl_wr_out {d : Nat → Nat} {p n v q : Nat} (h : q + 28 ≤ p ∨ p + n ≤ q + 20) : fcl (wr d p n v) q = fcl d q := by
  unfold fcl; rw [tw_wr_out (by omega), tw_wr_out (by omega)]
theorem tw_wr_in {d : Nat → Nat} {p v : Nat} (hv : v < 65536) : tw (wr d p 2 v) p = v := by
  unfold tw; rw [wr_in (by omega) (by omega), wr_in (by omega) (by omega), show p - p = 0 by omega, show p + 1 - p = 1 by omega]
  simp only [Nat.pow_zero, Nat.div_one, Nat.pow_one]
  omega
theorem fo_wr_in {d : Nat → Nat} {p v : Nat} (hv : v < 4294967296) : fo (wr d p 4 v) p = v := by
  unfold fo tw
  rw [wr_in (by omega) (by omega), wr_in (by omega) (by omega), wr_in (by omega) (by omega), wr_in (by omega) (by omega), show p - p = 0 by omega, show p + 1 - p = 1 by omega, show p + 2 - p = 2 by omega, show p + 2 + 1 - p = 3 by omega]
  simp only [Nat.pow_zero, Nat.div_one, Nat.pow_one, show (256 : Nat) ^ 2 = 65536 from rfl, show (256 : Nat) ^ 3 = 16777216 from rfl]
  omega
theorem wr_comm {d : Nat → Nat} {p n v q m w : Nat} (h : p + n ≤ q ∨ q + m ≤ p) : wr (wr d p n v) q m w = wr (wr d q m w) p n v := by
  funext t
  unfold wr
  by_cases h1 : q ≤ t ∧ t < q + m
  · rw [if_pos h1, if_neg (by omega), if_pos h1]
  · rw [if_neg h1]
    by_cases h2 : p ≤ t ∧ t < p + n
    · rw [if_pos h2, if_pos h2]
    · rw [if_neg h2, if_neg h2, if_neg h1]
/-- one table's entry of x is v in its lowest 28 bits -/
def st1 (d : Nat → Nat) (p v : Nat) : Nat → Nat := wr d p 4 (fo d p / 268435456 * 268435456 + v)
theorem st1_in {d : Nat → Nat} {p v : Nat} (hd : fo d p < 4294967296) (hv : v < 268435456) : fo (st1 d p v) p = fo d p / 268435456 * 268435456 + v := fo_wr_in (by omega)
theorem st1_out {d : Nat → Nat} {p v q : Nat} (h : q + 4 ≤ p ∨ p + 4 ≤ q) : fo (st1 d p v) q = fo d q := fo_wr_out h
theorem st1_comm {d : Nat → Nat} {p v q w : Nat} (h : q + 4 ≤ p ∨ p + 4 ≤ q) : st1 (st1 d p v) q w = st1 (st1 d q w) p v := by
  have e1 : st1 (st1 d p v) q w = wr (st1 d p v) q 4 (fo d q / 268435456 * 268435456 + w) := by
    show wr (st1 d p v) q 4 (fo (st1 d p v) q / 268435456 * 268435456 + w) = _
    rw [st1_out h]
  have e2 : st1 (st1 d q w) p v = wr (st1 d q w) p 4 (fo d p / 268435456 * 268435456 + v) := by
    show wr (st1 d q w) p 4 (fo (st1 d q w) p / 268435456 * 268435456 + v) = _
    rw [st1_out (by omega)]
  rw [e1, e2]
  exact wr_comm (by omega)
/-- both tables' -/
def stE (G : Geo) (d : Nat → Nat) (x v : Nat) : Nat → Nat := if G.y = 2 then st1 (st1 d (512 * G.v + 4 * x) v) (512 * (G.v + G.z) + 4 * x) v else st1 d (512 * G.v + 4 * x) v
/-- x has an entry in the tables -/
theorem GOK.t {G : Geo} (h : GOK G) {x : Nat} (hx : x < G.k + 2) : 4096 ≤ 512 * G.v + 4 * x ∧ 512 * G.v + 4 * x + 4 ≤ 512 * (G.v + G.z) ∧ 512 * (G.v + G.z) ≤ 512 * G.a ∧ (G.y = 2 → 512 * (G.v + G.z) + 4 * x + 4 ≤ 512 * G.a) := by
  have b := h.b
  refine ⟨by omega, by omega, by omega, fun hy => ?_⟩
  have e : G.v + G.y * G.z = G.a := b.2.2.2.2.1
  rw [hy] at e
  omega
theorem stE_out {G : Geo} {d : Nat → Nat} {x v : Nat} (hG : GOK G) (hx : x < G.k + 2) {p : Nat} (hp : p < 4096 ∨ 512 * G.a ≤ p) : stE G d x v p = d p := by
  have t := hG.t hx
  unfold stE st1
  by_cases hy : G.y = 2
  · have := t.2.2.2 hy
    rw [if_pos hy, wr_out (by omega), wr_out (by omega)]
  · rw [if_neg hy, wr_out (by omega)]
theorem fo_bound {d : Nat → Nat} (hd : ∀ p, d p < 256) (p : Nat) : fo d p < 4294967296 := fo_lt hd p
theorem stE_lt {G : Geo} {d : Nat → Nat} (hd : ∀ p, d p < 256) (x v : Nat) : ∀ p, stE G d x v p < 256 := by
  intro p
  unfold stE st1
  by_cases hy : G.y = 2
  · rw [if_pos hy]; exact wr_lt (wr_lt hd _ _ _) _ _ _ _
  · rw [if_neg hy]; exact wr_lt hd _ _ _ _
theorem fo_stE0 {G : Geo} {d : Nat → Nat} {x v : Nat} (hG : GOK G) (hd : ∀ p, d p < 256) (hx : x < G.k + 2) (hv : v < 268435456) {y : Nat} (hy : y < G.k + 2) : fo (stE G d x v) (512 * G.v + 4 * y) = if y = x then fo d (512 * G.v + 4 * x) / 268435456 * 268435456 + v else fo d (512 * G.v + 4 * y) := by
  have t := hG.t hx
  have t' := hG.t hy
  have key : fo (st1 d (512 * G.v + 4 * x) v) (512 * G.v + 4 * y) = if y = x then fo d (512 * G.v + 4 * x) / 268435456 * 268435456 + v else fo d (512 * G.v + 4 * y) := by
    by_cases h : y = x
    · rw [if_pos h, h, st1_in (fo_bound hd _) hv]
    · rw [if_neg h, st1_out (by omega)]
  unfold stE
  by_cases h2 : G.y = 2
  · rw [if_pos h2, st1_out (by omega)]; exact key
  · rw [if_neg h2]; exact key
theorem fo_stE1 {G : Geo} {d : Nat → Nat} {x v : Nat} (hG : GOK G) (hd : ∀ p, d p < 256) (hx : x < G.k + 2) (hv : v < 268435456) {y : Nat} (hy : y < G.k + 2) (h2 : G.y = 2) : fo (stE G d x v) (512 * (G.v + G.z) + 4 * y) = if y = x then fo d (512 * (G.v + G.z) + 4 * x) / 268435456 * 268435456 + v else fo d (512 * (G.v + G.z) + 4 * y) := by
  have t := hG.t hx
  have t' := hG.t hy
  unfold stE
  rw [if_pos h2]
  by_cases h : y = x
  · have hb : fo (st1 d (512 * G.v + 4 * x) v) (512 * (G.v + G.z) + 4 * x) < 4294967296 := fo_lt (wr_lt hd _ _ _) _
    rw [if_pos h, h, st1_in hb hv, st1_out (by omega)]
  · rw [if_neg h, st1_out (by omega), st1_out (by omega)]
theorem ent_stE {G : Geo} {d : Nat → Nat} {x v : Nat} (hG : GOK G) (hd : ∀ p, d p < 256) (hx : x < G.k + 2) (hv : v < 268435456) {y : Nat} (hy : y < G.k + 2) : ent G (stE G d x v) y = if y = x then v else ent G d y := by
  unfold ent
  rw [fo_stE0 hG hd hx hv hy]
  by_cases h : y = x
  · rw [if_pos h, if_pos h]; omega
  · rw [if_neg h, if_neg h]
theorem tab_stE {G : Geo} {d : Nat → Nat} {x v : Nat} (hG : GOK G) (hd : ∀ p, d p < 256) (h2x : 2 ≤ x) (hx : x < G.k + 2) (hv : v < 268435456) (hv2 : v = 0 ∨ isC G v ∨ 268435448 ≤ v) (h : tabOK G d) : tabOK G (stE G d x v) := by
  intro y hy
  have hyk := h y hy
  unfold entOK at hyk ⊢
  rw [ent_stE hG hd hx hv hy]
  refine ⟨?_, fun h2 => ?_⟩
  · by_cases e : y = x
    · rw [if_pos e, if_neg (by omega), if_neg (by omega)]; exact hv2
    · rw [if_neg e]; exact hyk.1
  · rw [fo_stE0 hG hd hx hv hy, fo_stE1 hG hd hx hv hy h2]
    by_cases e : y = x
    · rw [if_pos e, if_pos e]
      have := hyk.2 h2
      rw [e] at this
      rw [this]
    · rw [if_neg e, if_neg e]; exact hyk.2 h2
theorem stE_comm {G : Geo} {d : Nat → Nat} {x v y w : Nat} (hG : GOK G) (hx : x < G.k + 2) (hy : y < G.k + 2) (h : x ≠ y) : stE G (stE G d x v) y w = stE G (stE G d y w) x v := by
  have t := hG.t hx
  have t' := hG.t hy
  unfold stE
  by_cases h2 : G.y = 2
  · rw [if_pos h2, if_pos h2, if_pos h2, if_pos h2]
    rw [st1_comm (d := st1 d (512 * G.v + 4 * x) v) (p := 512 * (G.v + G.z) + 4 * x) (q := 512 * G.v + 4 * y) (by omega)]
    rw [st1_comm (d := d) (p := 512 * G.v + 4 * x) (q := 512 * G.v + 4 * y) (by omega)]
    rw [st1_comm (p := 512 * (G.v + G.z) + 4 * x) (q := 512 * (G.v + G.z) + 4 * y) (by omega)]
    rw [st1_comm (d := st1 d (512 * G.v + 4 * y) w) (p := 512 * G.v + 4 * x) (q := 512 * (G.v + G.z) + 4 * y) (by omega)]
  · rw [if_neg h2, if_neg h2, if_neg h2, if_neg h2]
    exact st1_comm (by omega)
/-- sector 0 decides the geometry -/
theorem head_congr {n : Nat} {d d' : Nat → Nat} (h : ∀ p, p < 512 → d' p = d p) : geoOf n d' = geoOf n d ∧ (headOK n d → headOK n d') := by
  have t : ∀ p, p < 511 → tw d' p = tw d p := fun p hp => by unfold tw; rw [h p (by omega), h (p + 1) (by omega)]
  have f : ∀ p, p < 509 → fo d' p = fo d p := fun p hp => by unfold fo; rw [t p (by omega), t (p + 2) (by omega)]
  have e : geoOf n d' = geoOf n d := by unfold geoOf; rw [h 13 (by omega), t 14 (by omega), h 16 (by omega), f 36 (by omega), f 44 (by omega)]
  refine ⟨e, fun q => ?_⟩
  unfold headOK fixOK at *
  rw [e, t 11 (by omega), t 17 (by omega), t 19 (by omega), t 22 (by omega), f 32 (by omega), t 48 (by omega), t 50 (by omega), t 510 (by omega), h 13 (by omega), t 14 (by omega), h 16 (by omega), f 36 (by omega), f 44 (by omega)]
  exact q
/-- the tables are what they were -/
theorem tab_congr {G : Geo} {d d' : Nat → Nat} (hG : GOK G) (h : ∀ p, 4096 ≤ p → p < 512 * G.a → d' p = d p) : (∀ x, x < G.k + 2 → ent G d' x = ent G d x) ∧ (tabOK G d → tabOK G d') := by
  have f : ∀ p, 4096 ≤ p → p + 4 ≤ 512 * G.a → fo d' p = fo d p := fun p h1 h2 => by
    unfold fo tw; rw [h p (by omega) (by omega), h (p + 1) (by omega) (by omega), h (p + 2) (by omega) (by omega), h (p + 2 + 1) (by omega) (by omega)]
  have e : ∀ x, x < G.k + 2 → ent G d' x = ent G d x := fun x hx => by
    have t := hG.t hx
    unfold ent; rw [f _ (by omega) (by omega)]
  refine ⟨e, fun q x hx => ?_⟩
  have t := hG.t hx
  have qx := q x hx
  unfold entOK at qx ⊢
  rw [e x hx]
  refine ⟨qx.1, fun h2 => ?_⟩
  have := t.2.2.2 h2
  rw [f _ (by omega) (by omega), f _ (by omega) (by omega)]
  exact qx.2 h2
