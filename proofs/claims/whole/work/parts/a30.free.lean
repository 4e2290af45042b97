/-! chains that are freed -/
def frs (G : Geo) (d : Nat → Nat) : List Nat → (Nat → Nat)
  | [] => d
  | x :: l => frs G (stE G d x 0) l
theorem frs_lt {G : Geo} : ∀ (l : List Nat) (d : Nat → Nat), (∀ p, d p < 256) → ∀ p, frs G d l p < 256
  | [], d, h => h
  | x :: l, d, h => frs_lt l _ (stE_lt h x 0)
theorem frs_out {G : Geo} (hG : GOK G) : ∀ (l : List Nat) (d : Nat → Nat), (∀ y, y ∈ l → y < G.k + 2) → ∀ p, (p < 4096 ∨ 512 * G.a ≤ p) → frs G d l p = d p
  | [], d, _, p, _ => rfl
  | x :: l, d, h, p, hp => by
    rw [frs, frs_out hG l _ (fun y hy => h y (List.mem_cons_of_mem _ hy)) p hp, stE_out hG (h x List.mem_cons_self) hp]
theorem frs_ent {G : Geo} (hG : GOK G) : ∀ (l : List Nat) (d : Nat → Nat), (∀ p, d p < 256) → (∀ y, y ∈ l → y < G.k + 2) → ∀ y, y < G.k + 2 → ent G (frs G d l) y = if y ∈ l then 0 else ent G d y
  | [], d, _, _, y, _ => by rw [frs, if_neg (by simp)]
  | x :: l, d, hb, h, y, hy => by
    rw [frs, frs_ent hG l _ (stE_lt hb x 0) (fun y hy => h y (List.mem_cons_of_mem _ hy)) y hy, ent_stE hG hb (h x List.mem_cons_self) (by omega) hy]
    by_cases c : y ∈ l
    · rw [if_pos c, if_pos (List.mem_cons_of_mem _ c)]
    · rw [if_neg c]
      by_cases c2 : y = x
      · rw [if_pos c2, if_pos (by rw [c2]; exact List.mem_cons_self)]
      · rw [if_neg c2, if_neg (fun w => (List.mem_cons.mp w).elim c2 c)]
theorem frs_tab {G : Geo} (hG : GOK G) : ∀ (l : List Nat) (d : Nat → Nat), (∀ p, d p < 256) → (∀ y, y ∈ l → isC G y) → tabOK G d → tabOK G (frs G d l)
  | [], d, _, _, h => h
  | x :: l, d, hb, h, ht => frs_tab hG l _ (stE_lt hb x 0) (fun y hy => h y (List.mem_cons_of_mem _ hy)) (tab_stE hG hb (h x List.mem_cons_self).1 (by have := (h x List.mem_cons_self).2; omega) (by omega) (Or.inl rfl) ht)
theorem frs_stE {G : Geo} (hG : GOK G) {x v : Nat} (hx : x < G.k + 2) : ∀ (l : List Nat) (d : Nat → Nat), (∀ y, y ∈ l → y < G.k + 2) → x ∉ l → frs G (stE G d x v) l = stE G (frs G d l) x v
  | [], d, _, _ => rfl
  | y :: l, d, h, hn => by
    have hxy : x ≠ y := fun e => hn (by rw [e]; exact List.mem_cons_self)
    rw [frs, frs, stE_comm hG hx (h y List.mem_cons_self) hxy, frs_stE hG hx l _ (fun y hy => h y (List.mem_cons_of_mem _ hy)) (fun w => hn (List.mem_cons_of_mem _ w))]
theorem st1_wr {d : Nat → Nat} {q v p n w : Nat} (h : q + 4 ≤ p ∨ p + n ≤ q) : st1 (wr d p n w) q v = wr (st1 d q v) p n w := by
  unfold st1
  rw [fo_wr_out (by omega), wr_comm (by omega)]
theorem stE_wr {G : Geo} (hG : GOK G) {d : Nat → Nat} {x v p n w : Nat} (hx : x < G.k + 2) (hp : 512 * G.a ≤ p) : stE G (wr d p n w) x v = wr (stE G d x v) p n w := by
  have t := hG.t hx
  unfold stE
  split
  · rename_i h2
    have := t.2.2.2 h2
    rw [st1_wr (by omega), st1_wr (by omega)]
  · rw [st1_wr (by omega)]
theorem frs_wr {G : Geo} (hG : GOK G) {p n w : Nat} (hp : 512 * G.a ≤ p) : ∀ (l : List Nat) (d : Nat → Nat), (∀ y, y ∈ l → y < G.k + 2) → frs G (wr d p n w) l = wr (frs G d l) p n w
  | [], d, _ => rfl
  | y :: l, d, h => by
    rw [frs, frs, stE_wr hG (h y List.mem_cons_self) hp, frs_wr hG hp l _ (fun y hy => h y (List.mem_cons_of_mem _ hy))]
theorem lnk_tail {G : Geo} {d : Nat → Nat} (hG : GOK G) (hb : ∀ p, d p < 256) {x v : Nat} {l : List Nat} (h : lnk G d x (x :: l)) (hv : v < 268435456) : stp G (stE G d x v) (ent G d x) l := by
  obtain ⟨_, hC, hst⟩ := h.stp
  have hnd := lnk_nodup _ _ h
  rcases hst with w | w
  · exact Or.inl w
  · refine Or.inr (lnk_congr _ _ w (fun y hy => ?_))
    rw [ent_stE hG hb (by omega) hv (show y < G.k + 2 by have := (lnk_isC _ _ w y hy).2; omega), if_neg (fun e => (List.nodup_cons.mp hnd).1 (by rw [← e]; exact hy))]
theorem release_loop {nf : Nat} {ln : LN} {fi : FI} {G : Geo} (hnf : 600 ≤ nf) : ∀ (l : List Nat) (x i kf : Nat) (ar : AR) (d : Nat → Nat), CW ln fi ar G d → (∀ p, d p < 256) → stp G d x l → i + l.length ≤ G.k → l.length < kf → ∃ ar', FX9_release_4 nf ln kf (nI x) (nI i) fi ar = some ((), fi, ar') ∧ CW ln fi ar' G (frs G d l) ∧ offA 0 ar ar' := by
  intro l
  induction l with
  | nil =>
    intro x i kf ar d hW hb hs hi hk
    rcases hs with ⟨w, w2, _⟩ | w
    · have b := hW.2.2.1.b
      have g5 : fi 5 = nI G.k := hW.2.1.2.2.1
      obtain ⟨kf, rfl⟩ : ∃ k, kf = k + 1 := ⟨kf - 1, by omega⟩
      rw [show FX9_release_4 nf ln (kf + 1) = FX9_release_4b (FX9_release_4 nf ln kf) nf ln from rfl]
      unfold FX9_release_4b FX9_release_42
      refine ⟨ar, ?_, hW, offA.rf⟩
      rw [g5]
      by_cases c : G.k ≤ i
      · rw [brT (nI_le c (by simp at hi; omega))]
      · rw [brF (nI_ge (by omega) (by omega)), hW.isC (by omega), obnd3_some, if_neg (by unfold isC; omega), brT rfl]
    · exact absurd w (by simp [lnk])
  | cons y l ih =>
    intro x i kf ar d hW hb hs hi hk
    rcases hs with ⟨_, _, w⟩ | w
    · exact absurd w (by simp)
    · obtain ⟨rfl, hC, hst⟩ := w.stp
      have b := hW.2.2.1.b
      have g5 : fi 5 = nI G.k := hW.2.1.2.2.1
      simp only [List.length_cons] at hi hk
      obtain ⟨kf, rfl⟩ : ∃ k, kf = k + 1 := ⟨kf - 1, by omega⟩
      rw [show FX9_release_4 nf ln (kf + 1) = FX9_release_4b (FX9_release_4 nf ln kf) nf ln from rfl]
      unfold FX9_release_4b FX9_release_42
      obtain ⟨ar1, r1, r2, r3⟩ := link_ok (nf := nf) hW hb (x := x) (v := 0) (by omega) (by omega) (by omega)
      have r1' : FX9_link nf ln fi ar (nI x) 0 = some ((), fi, ar1) := r1
      rw [g5, brF (nI_ge (by omega) (by omega)), hW.isC (by omega), obnd3_some, if_pos hC, brF (by decide), hW.next (by omega), obnd3_some, r1', obnd3_some, bnd_eq, show nI i + (1 : Int32) = nI (i + 1) from nI_add i 1]
      obtain ⟨ar', s1, s2, s3⟩ := ih (ent G d x) (i + 1) kf ar1 (stE G d x 0) r2 (stE_lt hb x 0) (lnk_tail hW.2.2.1 hb w (by omega)) (by omega) (by omega)
      exact ⟨ar', s1, s2, r3.tr s3⟩
theorem release_ok {nf : Nat} {ln : LN} {fi : FI} {ar : AR} {G : Geo} {d : Nat → Nat} (hW : CW ln fi ar G d) (hb : ∀ p, d p < 256) {x : Nat} {l : List Nat} (hs : stp G d x l) (hnf : 600 ≤ nf) : ∃ ar', FX9_release nf ln fi ar (nI x) = some ((), fi, ar') ∧ CW ln fi ar' G (frs G d l) ∧ offA 0 ar ar' := by
  have b := hW.2.2.1.b
  have hl : l.length ≤ G.k := by
    rcases hs with ⟨_, _, w⟩ | w
    · rw [w]; exact Nat.zero_le _
    · exact (lnk_clu w).len
  exact release_loop hnf l x 0 nf ar d hW hb hs (by omega) (by omega)
/-- a chain cut behind K clusters -/
theorem lnk_take {G : Geo} {d d' : Nat → Nat} : ∀ (l : List Nat) (x K : Nat), lnk G d x l → K + 1 ≤ l.length → (∀ y, y ∈ l.take K → ent G d' y = ent G d y) → 268435448 ≤ ent G d' (l.getD K 0) → lnk G d' x (l.take (K + 1)) := by
  intro l
  induction l with
  | nil => intro x K h; exact absurd h (by simp [lnk])
  | cons y l ih =>
    intro x K h hK he hl
    obtain ⟨rfl, hC, h3⟩ := h
    cases K with
    | zero => exact ⟨rfl, hC, Or.inl ⟨by simp, hl⟩⟩
    | succ K =>
      simp only [List.length_cons] at hK
      rcases h3 with ⟨w, _⟩ | ⟨w1, w2, w3⟩
      · rw [w] at hK; simp at hK
      · have e0 := he x (by simp)
        refine ⟨rfl, hC, Or.inr ⟨by rw [e0]; exact w1, by rw [e0]; exact w2, ?_⟩⟩
        rw [e0]
        exact ih _ K w3 (by omega) (fun y hy => he y (by rw [List.take_succ_cons]; exact List.mem_cons_of_mem _ hy)) hl
theorem lnk_drop {G : Geo} {d : Nat → Nat} : ∀ (l : List Nat) (x K : Nat), lnk G d x l → K < l.length → stp G d (ent G d (l.getD K 0)) (l.drop (K + 1)) := by
  intro l
  induction l with
  | nil => intro x K h; exact absurd h (by simp [lnk])
  | cons y l ih =>
    intro x K h hK
    obtain ⟨rfl, hC, hst⟩ := h.stp
    cases K with
    | zero => exact hst
    | succ K =>
      simp only [List.length_cons] at hK
      rcases hst with ⟨_, _, w⟩ | w
      · rw [w] at hK; simp at hK
      · exact ih _ K w (by omega)
theorem wr_same {d : Nat → Nat} {p : Nat} (h0 : d p = 0) (h1 : d (p + 1) = 0) : wr d p 2 0 = d := by
  funext q
  unfold wr
  split
  · rename_i h
    rw [Nat.zero_div]
    rcases (show q = p ∨ q = p + 1 by omega) with e | e <;> rw [e]
    · rw [h0]
    · rw [h1]
  · rfl
theorem cls_ge {G : Geo} (hG : 1 ≤ G.c) (s : Nat) : s ≤ 512 * G.c * cls G s := by
  unfold cls
  have h1 := Nat.div_add_mod (s + 512 * G.c - 1) (512 * G.c)
  have h2 := Nat.mod_lt (s + 512 * G.c - 1) (show 0 < 512 * G.c by omega)
  omega
theorem cls_mono {G : Geo} {a b : Nat} (h : a ≤ b) : cls G a ≤ cls G b := Nat.div_le_div_right (by omega)
theorem cls_zero {G : Geo} (hG : 1 ≤ G.c) {s : Nat} : cls G s = 0 ↔ s = 0 := by
  have := cls_ge hG s
  constructor
  · intro h; rw [h] at this; omega
  · intro h; rw [h]; unfold cls; exact Nat.div_eq_of_lt (by omega)
theorem whole_eq {nf : Nat} {a B : Nat} (hB : 0 < B) (hb : B < 100000) (ha : a < 2000000000) : M_whole nf (nI a) (nI B) = some (nI ((a + B - 1) / B)) := by
  unfold M_whole
  rw [gdT (nI_ne0 hB (by omega)), nI_add, show nI (a + B) - (1 : Int32) = nI (a + B - 1) from nI_sub (b := 1) (by omega), pk_div (by omega) (by omega) (by omega)]
