/-! make: clusters are added to a directory -/
def DDI (G : Geo) (d : Nat → Nat) (l : List Nat) (f : Nat) : Prop := (∀ q, d q < 256) ∧ tabOK G d ∧ lnk G d f l
theorem adS_ne {G : Geo} {d : Nat → Nat} {l : List Nat} {x p : Nat} (h : l ≠ []) : adS G p d l x = stE G (tkD G d x) (l.getD (l.length - 1) 0) x := by unfold adS; rw [if_neg h]
theorem dd_step {G : Geo} {d : Nat → Nat} {l : List Nat} {f : Nat} (hG : GOK G) (h : DDI G d l f) (hf : 0 < frC G d 2 G.k) {x : Nat} (hx : x = low G d 2 G.k) : isC G x ∧ ent G d x = 0 ∧ x ∉ l ∧ DDI G (adS G 0 d l x) (l ++ [x]) f ∧ frC G d 2 G.k = frC G (adS G 0 d l x) 2 G.k + 1 ∧ (∀ y, y < G.k + 2 → y ∉ l → y ≠ x → ent G (adS G 0 d l x) y = ent G d y) ∧ (∀ y, y < G.k + 2 → ent G d y ≠ 0 → ent G (adS G 0 d l x) y ≠ 0) ∧ (∀ q, (q < 4096 ∨ 512 * G.a ≤ q) → (q < pl G x ∨ pl G x + 512 * G.c ≤ q) → adS G 0 d l x q = d q) ∧ (∀ q, pl G x ≤ q → q < pl G x + 512 * G.c → adS G 0 d l x q = 0) := by
  have b := hG.b
  obtain ⟨l1, l2, l3⟩ := low_ok G.k 2 hf
  rw [← hx] at l1 l2 l3
  have hxC : isC G x := ⟨l1, by omega⟩
  obtain ⟨h1, h2, h3⟩ := h
  have hxl : x ∉ l := fun w => lnk_ent _ _ h3 x w l3
  have hclu := lnk_clu h3
  have hne : l ≠ [] := fun q => by rw [q] at h3; exact absurd h3 (by simp [lnk])
  have hm : l.getD (l.length - 1) 0 ∈ l := getD_mem (by have := List.length_pos_iff.mpr hne; omega)
  have hmC := hclu.2 _ hm
  have hmk : l.getD (l.length - 1) 0 < G.k + 2 := by have := hmC.2; omega
  have hxin := pl_in hG hxC
  obtain ⟨k1, k2, k3, k4, k5⟩ := tk_facts hG h1 hxC
  rw [adS_ne hne]
  have hent : ∀ y, y < G.k + 2 → ent G (stE G (tkD G d x) (l.getD (l.length - 1) 0) x) y = if y = x then 268435455 else if y = l.getD (l.length - 1) 0 then x else ent G d y := fun y hy => by
    rw [ent_stE hG k1 hmk (by omega) hy, k4 y hy]
    by_cases e1 : y = x
    · rw [if_pos e1, if_neg (fun w => hxl (by rw [← e1, w]; exact hm)), if_pos e1]
    · rw [if_neg e1, if_neg e1]
  have hex : ent G (stE G (tkD G d x) (l.getD (l.length - 1) 0) x) x = 268435455 := by rw [hent x (by omega), if_pos rfl]
  have hlk : lnk G (stE G (tkD G d x) (l.getD (l.length - 1) 0) x) f (l ++ [x]) := by
    refine lnk_snoc hxC (by omega) (by rw [hex]; omega) l _ h3 (fun y hy hne => ?_) ?_ hclu.1
    · rw [hent y (by have := (hclu.2 y hy).2; omega), if_neg (fun q => hxl (by rw [← q]; exact hy)), if_neg hne]
    · rw [hent _ hmk, if_neg (fun q => hxl (by rw [← q]; exact hm)), if_pos rfl]
  refine ⟨hxC, l3, hxl, ⟨stE_lt k1 _ _, tab_stE hG k1 hmC.1 hmk (by omega) (Or.inr (Or.inl hxC)) (k5 h2), hlk⟩, ?_, fun y hy hyl hyx => ?_, fun y hy hy0 => ?_, fun q q1 q2 => ?_, fun q q1 q2 => ?_⟩
  · refine frC_one l3 (by rw [hex]; omega) G.k 2 l1 (by omega) (fun y y1 y2 y3 => ?_)
    rw [hent y (by omega), if_neg y3]
    by_cases c : y = l.getD (l.length - 1) 0
    · rw [if_pos c]
      have : ent G d y ≠ 0 := by rw [c]; exact lnk_ent _ _ h3 _ hm
      exact ⟨fun w => absurd w (by omega), fun w => absurd w this⟩
    · rw [if_neg c]
  · rw [hent y hy, if_neg hyx, if_neg (fun w => hyl (by rw [w]; exact hm))]
  · rw [hent y hy]
    split
    · omega
    · split
      · omega
      · exact hy0
  · rw [stE_out hG hmk q1, k2 q q1 q2]
  · rw [stE_out hG hmk (Or.inr (by omega)), k3 q q1 q2]
theorem dd_ok {G : Geo} {f : Nat} (hG : GOK G) : ∀ (m : Nat) (l : List Nat) (d : Nat → Nat), DDI G d l f → m ≤ frC G d 2 G.k → ∃ add, (adD G 0 m l d).1 = l ++ add ∧ add.length = m ∧ DDI G (adD G 0 m l d).2 (l ++ add) f ∧ (∀ y, y ∈ add → isC G y ∧ ent G d y = 0) ∧ (∀ y, y < G.k + 2 → y ∉ l → y ∉ add → ent G (adD G 0 m l d).2 y = ent G d y) ∧ (∀ y, y < G.k + 2 → ent G d y ≠ 0 → ent G (adD G 0 m l d).2 y ≠ 0) ∧ (∀ q, (q < 4096 ∨ 512 * G.a ≤ q) → (∀ y, y ∈ add → (q < pl G y ∨ pl G y + 512 * G.c ≤ q)) → (adD G 0 m l d).2 q = d q) ∧ (∀ y, y ∈ add → ∀ q, pl G y ≤ q → q < pl G y + 512 * G.c → (adD G 0 m l d).2 q = 0)
  | 0, l, d, h, _ => ⟨[], by rw [List.append_nil]; rfl, rfl, by rw [List.append_nil]; exact h, fun y hy => absurd hy (by simp), fun _ _ _ _ => rfl, fun _ _ w => w, fun _ _ _ => rfl, fun y hy => absurd hy (by simp)⟩
  | m + 1, l, d, h, hm => by
    obtain ⟨x, hx⟩ : ∃ x, x = low G d 2 G.k := ⟨_, rfl⟩
    obtain ⟨s1, s2, s3, s5, s6, s7, s8, s9, s10⟩ := dd_step hG h (by omega) hx
    obtain ⟨add, r1, r2, r3, r4, r5, r6, r7, r8⟩ := dd_ok hG m (l ++ [x]) (adS G 0 d l x) s5 (by omega)
    have e : adD G 0 (m + 1) l d = adD G 0 m (l ++ [x]) (adS G 0 d l x) := by rw [adD, ← hx]
    have hclu := lnk_clu r3.2.2
    have hxa : x ∉ add := fun w => by
      have := (List.nodup_append.mp hclu.1).2.2 x (List.mem_append_right _ (List.mem_singleton.mpr rfl)) x w
      exact this rfl
    rw [e]
    refine ⟨x :: add, by rw [r1]; simp, by rw [List.length_cons, r2], by rw [List.append_assoc] at r3; exact r3, fun y hy => ?_, fun y y1 y2 y3 => ?_, fun y y1 y2 => r6 y y1 (s8 y y1 y2), fun q q1 q2 => ?_, fun y hy q q1 q2 => ?_⟩
    · rcases List.mem_cons.mp hy with w | w
      · rw [w]; exact ⟨s1, s2⟩
      · obtain ⟨a1, a2⟩ := r4 y w
        have ay : y < G.k + 2 := by have := a1.2; omega
        exact ⟨a1, Decidable.byContradiction (fun q => s8 y ay q a2)⟩
    · have n1 : y ≠ x := fun w => y3 (by rw [w]; exact List.mem_cons_self)
      rw [r5 y y1 (fun w => (List.mem_append.mp w).elim y2 (fun w => n1 (List.mem_singleton.mp w))) (fun w => y3 (List.mem_cons_of_mem _ w)), s7 y y1 y2 n1]
    · rw [r7 q q1 (fun y hy => q2 y (List.mem_cons_of_mem _ hy)), s9 q q1 (q2 x List.mem_cons_self)]
    · have hin := pl_in hG s1
      rcases List.mem_cons.mp hy with w | w
      · rw [w] at q1 q2
        rw [r7 q (Or.inr (by omega)) (fun z hz => by
          have hne : z ≠ x := fun e => hxa (by rw [← e]; exact hz)
          have := pl_apart (G := G) (r4 z hz).1.1 s1.1 hne
          omega)]
        exact s10 q q1 q2
      · exact r8 y w q q1 q2
/-- the tables of two disks are the same -/
def sameT (G : Geo) (d d' : Nat → Nat) : Prop := ∀ q, q < 512 * G.a → d' q = d q
theorem st1_congr {G : Geo} {d d' : Nat → Nat} {p v : Nat} (hp : p + 4 ≤ 512 * G.a) (h : sameT G d d') : sameT G (st1 d p v) (st1 d' p v) := fun q hq => by
  have e : fo d' p = fo d p := by
    unfold fo tw
    rw [h p (by omega), h (p + 1) (by omega), h (p + 2) (by omega), h (p + 2 + 1) (by omega)]
  unfold st1
  rw [e]
  unfold wr
  by_cases c : p ≤ q ∧ q < p + 4
  · rw [if_pos c, if_pos c]
  · rw [if_neg c, if_neg c]; exact h q hq
theorem stE_congr {G : Geo} {d d' : Nat → Nat} {x v : Nat} (hG : GOK G) (hx : x < G.k + 2) (h : sameT G d d') : sameT G (stE G d x v) (stE G d' x v) := by
  have t := hG.t hx
  unfold stE
  split
  · rename_i h2
    have := t.2.2.2 h2
    exact st1_congr (by omega) (st1_congr (by omega) h)
  · exact st1_congr (by omega) h
theorem ent_same {G : Geo} {d d' : Nat → Nat} (hG : GOK G) (h : sameT G d d') {y : Nat} (hy : y < G.k + 2) : ent G d' y = ent G d y := (tab_congr (d := d) (d' := d') hG (fun q _ q2 => h q q2)).1 y hy
theorem low_same {G : Geo} {d d' : Nat → Nat} (hG : GOK G) (h : sameT G d d') : ∀ (m x : Nat), x + m ≤ G.k + 2 → low G d' x m = low G d x m
  | 0, _, _ => rfl
  | m + 1, x, hx => by rw [low, low, ent_same hG h (by omega), low_same hG h m (x + 1) (by omega)]
theorem frC_same {G : Geo} {d d' : Nat → Nat} (hG : GOK G) (h : sameT G d d') : frC G d' 2 G.k = frC G d 2 G.k := frC_congr G.k 2 (fun z _ z2 => by rw [ent_same hG h (by omega)])
theorem tk_same {G : Geo} {d d' : Nat → Nat} {x : Nat} (hG : GOK G) (h : sameT G d d') (hx : isC G x) : sameT G (tkD G d x) (tkD G d' x) := fun q hq => by
  have hin := pl_in hG hx
  unfold tkD
  rw [wr_out (by omega), wr_out (by omega)]
  exact stE_congr hG (by have := hx.2; omega) h q hq
/-- on two disks with the same tables the same clusters are added -/
theorem ad_same {G : Geo} {f : Nat} (hG : GOK G) : ∀ (m : Nat) (l : List Nat) (d d' : Nat → Nat), DDI G d l f → m ≤ frC G d 2 G.k → sameT G d d' → (∀ q, d' q < 256) → (adD G 0 m l d').1 = (adD G 0 m l d).1 ∧ sameT G (adD G 0 m l d).2 (adD G 0 m l d').2
  | 0, l, d, d', _, _, h, _ => ⟨rfl, h⟩
  | m + 1, l, d, d', hD, hm, h, hb => by
    have b := hG.b
    have hx : low G d' 2 G.k = low G d 2 G.k := low_same hG h G.k 2 (by omega)
    obtain ⟨x, hxe⟩ : ∃ x, x = low G d 2 G.k := ⟨_, rfl⟩
    obtain ⟨s1, s2, s3, s5, s6, s7, s8, s9, s10⟩ := dd_step hG hD (by omega) hxe
    have hne : l ≠ [] := fun q => by have := hD.2.2; rw [q] at this; exact absurd this (by simp [lnk])
    have hm2 : l.getD (l.length - 1) 0 < G.k + 2 := by
      have := ((lnk_clu hD.2.2).2 _ (getD_mem (show l.length - 1 < l.length by have := List.length_pos_iff.mpr hne; omega))).2
      omega
    have hs : sameT G (adS G 0 d l x) (adS G 0 d' l x) := by
      rw [adS_ne hne, adS_ne hne]
      exact stE_congr hG hm2 (tk_same hG h s1)
    have := ad_same hG m (l ++ [x]) (adS G 0 d l x) (adS G 0 d' l x) s5 (by omega) hs (by
      rw [adS_ne hne]
      exact stE_lt (tk_facts hG hb s1).1 _ _)
    rw [adD, adD, hx, ← hxe]
    exact this
theorem DDI.same {G : Geo} {d d' : Nat → Nat} {l : List Nat} {f : Nat} (hG : GOK G) (h : DDI G d l f) (hs : sameT G d d') (hb : ∀ q, d' q < 256) : DDI G d' l f :=
  ⟨hb, (tab_congr (d := d) (d' := d') hG (fun q _ q2 => hs q q2)).2 h.2.1, lnk_congr _ _ h.2.2 (fun y hy => ent_same hG hs (by have := ((lnk_clu h.2.2).2 y hy).2; omega))⟩
