/-! room is made: clusters are added to a chain -/
theorem lnk_snoc {G : Geo} {d d' : Nat → Nat} {y : Nat} (hy : isC G y) (hyk : y < 268435448) (he : 268435448 ≤ ent G d' y) : ∀ (l : List Nat) (x : Nat), lnk G d x l → (∀ z, z ∈ l → z ≠ l.getD (l.length - 1) 0 → ent G d' z = ent G d z) → ent G d' (l.getD (l.length - 1) 0) = y → l.Nodup → lnk G d' x (l ++ [y])
  | [], x, h, _, _, _ => absurd h (by simp [lnk])
  | [z], x, h, h1, h2, _ => by
    obtain ⟨rfl, hC, _⟩ := h
    have h2' : ent G d' x = y := h2
    have hy2 : 2 ≤ y := hy.1
    exact ⟨rfl, hC, Or.inr ⟨by rw [h2']; omega, by rw [h2']; omega, by rw [h2']; exact ⟨rfl, hy, Or.inl ⟨rfl, he⟩⟩⟩⟩
  | z :: w :: l, x, h, h1, h2, hn => by
    obtain ⟨rfl, hC, hr⟩ := h
    rcases hr with ⟨hr, _⟩ | ⟨r1, r2, r3⟩
    · exact absurd hr (by simp)
    · have hlast : (x :: w :: l).getD ((x :: w :: l).length - 1) 0 = (w :: l).getD ((w :: l).length - 1) 0 := rfl
      have hm : (w :: l).getD ((w :: l).length - 1) 0 ∈ w :: l := getD_mem (by simp)
      have hx := (List.nodup_cons.mp hn)
      have e : ent G d' x = ent G d x := h1 x List.mem_cons_self (fun q => hx.1 (by rw [hlast] at q; rw [q]; exact hm))
      refine ⟨rfl, hC, Or.inr ⟨by rw [e]; exact r1, by rw [e]; exact r2, ?_⟩⟩
      rw [e]
      exact lnk_snoc hy hyk he (w :: l) _ r3 (fun z hz hne => h1 z (List.mem_cons_of_mem _ hz) (by rw [hlast]; exact hne)) (by rw [hlast] at h2; exact h2) hx.2
def pfc (d : Nat → Nat) (p x : Nat) : Nat → Nat := wr (wr d (p + 20) 2 0) (p + 26) 2 x
theorem fcl_pfc {d : Nat → Nat} {p x : Nat} (hx : x < 65536) : fcl (pfc d p x) p = x := by
  unfold fcl pfc
  rw [tw_wr_in hx, tw_wr_out (by omega), tw_wr_in (by omega)]; omega
def adS (G : Geo) (p : Nat) (d : Nat → Nat) (l : List Nat) (x : Nat) : Nat → Nat := if l = [] then pfc (tkD G d x) p x else stE G (tkD G d x) (l.getD (l.length - 1) 0) x
def adD (G : Geo) (p : Nat) : Nat → List Nat → (Nat → Nat) → List Nat × (Nat → Nat)
  | 0, l, d => (l, d)
  | m + 1, l, d => adD G p m (l ++ [low G d 2 G.k]) (adS G p d l (low G d 2 G.k))
/-- a chain that room is made for; p, where its entry lies, in the cluster z -/
def ADI (G : Geo) (p z : Nat) (d : Nat → Nat) (l : List Nat) : Prop := (∀ q, d q < 256) ∧ tabOK G d ∧ (l = [] ∨ lnk G d (fcl d p) l) ∧ isC G z ∧ ent G d z ≠ 0 ∧ z ∉ l ∧ pl G z ≤ p ∧ p + 32 ≤ pl G z + 512 * G.c
theorem ADI.clu {G : Geo} {p z : Nat} {d : Nat → Nat} {l : List Nat} (h : ADI G p z d l) : clu G l := by
  rcases h.2.2.1 with w | w
  · rw [w]; exact ⟨List.nodup_nil, fun y hy => absurd hy (by simp)⟩
  · exact lnk_clu w
theorem ADI.nz {G : Geo} {p z : Nat} {d : Nat → Nat} {l : List Nat} (h : ADI G p z d l) : ∀ y, y ∈ l → ent G d y ≠ 0 := fun y hy => by
  rcases h.2.2.1 with w | w
  · rw [w] at hy; exact absurd hy (by simp)
  · exact lnk_ent _ _ w y hy
theorem ad_step {G : Geo} {p z : Nat} {d : Nat → Nat} {l : List Nat} (hG : GOK G) (h : ADI G p z d l) (hf : 0 < frC G d 2 G.k) {x : Nat} (hx : x = low G d 2 G.k) : isC G x ∧ ent G d x = 0 ∧ x ∉ l ∧ x ≠ z ∧ ADI G p z (adS G p d l x) (l ++ [x]) ∧ frC G d 2 G.k = frC G (adS G p d l x) 2 G.k + 1 ∧ (∀ y, y < G.k + 2 → y ∉ l → y ≠ x → ent G (adS G p d l x) y = ent G d y) ∧ (∀ y, y < G.k + 2 → ent G d y ≠ 0 → ent G (adS G p d l x) y ≠ 0) ∧ (∀ q, (q < 4096 ∨ 512 * G.a ≤ q) → (q < pl G x ∨ pl G x + 512 * G.c ≤ q) → (q < p + 20 ∨ (p + 22 ≤ q ∧ q < p + 26) ∨ p + 28 ≤ q) → adS G p d l x q = d q) ∧ (l ≠ [] → fcl (adS G p d l x) p = fcl d p) := by
  have b := hG.b
  obtain ⟨l1, l2, l3⟩ := low_ok G.k 2 hf
  rw [← hx] at l1 l2 l3
  have hxC : isC G x := ⟨l1, by omega⟩
  have hxl : x ∉ l := fun w => h.nz x w l3
  obtain ⟨h1, h2, h3, h4, h5, h6, h7, h8⟩ := h
  have hclu : _root_.Jvm.Pilot.CTableVolumesLaw_law_r4528_56697b.clu G l := ADI.clu ⟨h1, h2, h3, h4, h5, h6, h7, h8⟩
  have hxz : x ≠ z := fun w => h5 (by rw [← w]; exact l3)
  have hap := pl_apart (G := G) l1 h4.1 hxz
  have hzin := pl_in hG h4
  have hxin := pl_in hG hxC
  obtain ⟨k1, k2, k3, k4, k5⟩ := tk_facts hG h1 hxC
  have hlast : l ≠ [] → l.getD (l.length - 1) 0 ∈ l := fun w => getD_mem (by have := List.length_pos_iff.mpr w; omega)
  have hent : ∀ y, y < G.k + 2 → ent G (adS G p d l x) y = if y = x then 268435455 else if l ≠ [] ∧ y = l.getD (l.length - 1) 0 then x else ent G d y := fun y hy => by
    unfold adS
    by_cases c : l = []
    · rw [if_pos c]
      have hT := tab_congr (d := tkD G d x) (d' := pfc (tkD G d x) p x) hG (fun q q1 q2 => by unfold pfc; rw [wr_out (by omega), wr_out (by omega)])
      rw [hT.1 y hy, k4 y hy, if_neg (fun w : l ≠ [] ∧ _ => w.1 c)]
    · rw [if_neg c]
      have hm := hlast c
      have hmC := hclu.2 _ hm
      rw [ent_stE hG k1 (by have := hmC.2; omega) (by omega) hy, k4 y hy]
      by_cases e1 : y = x
      · rw [if_pos e1, if_neg (fun w => hxl (by rw [← e1, w]; exact hm)), if_pos e1]
      · rw [if_neg e1, if_neg e1]
        by_cases e2 : y = l.getD (l.length - 1) 0
        · rw [if_pos e2, if_pos ⟨c, e2⟩]
        · rw [if_neg e2, if_neg (fun w => e2 w.2)]
  have hlt : ∀ q, adS G p d l x q < 256 := fun q => by
    unfold adS
    split
    · exact wr_lt (wr_lt k1 _ _ _) _ _ _ q
    · exact stE_lt k1 _ _ q
  have hb9 : ∀ q, (q < 4096 ∨ 512 * G.a ≤ q) → (q < pl G x ∨ pl G x + 512 * G.c ≤ q) → (q < p + 20 ∨ (p + 22 ≤ q ∧ q < p + 26) ∨ p + 28 ≤ q) → adS G p d l x q = d q := fun q q1 q2 q3 => by
    unfold adS
    by_cases c : l = []
    · rw [if_pos c]; unfold pfc
      rw [wr_out (by omega), wr_out (by omega), k2 q q1 q2]
    · rw [if_neg c, stE_out hG (by have := (hclu.2 _ (hlast c)).2; omega) q1, k2 q q1 q2]
  have hfc : l ≠ [] → fcl (adS G p d l x) p = fcl d p := fun c => by
    have e : ∀ i, i < 32 → adS G p d l x (p + i) = d (p + i) := fun i hi => by
      unfold adS
      rw [if_neg c, stE_out hG (by have := (hclu.2 _ (hlast c)).2; omega) (Or.inr (by omega)), k2 _ (Or.inr (by omega)) (by omega)]
    unfold fcl tw
    rw [e 20 (by omega), show p + 20 + 1 = p + 21 from rfl, e 21 (by omega), e 26 (by omega), show p + 26 + 1 = p + 27 from rfl, e 27 (by omega)]
  have htab : tabOK G (adS G p d l x) := by
    unfold adS
    by_cases c : l = []
    · rw [if_pos c]
      exact (tab_congr (d := tkD G d x) (d' := pfc (tkD G d x) p x) hG (fun q q1 q2 => by unfold pfc; rw [wr_out (by omega), wr_out (by omega)])).2 (k5 h2)
    · rw [if_neg c]
      have hmC := hclu.2 _ (hlast c)
      exact tab_stE hG k1 hmC.1 (by have := hmC.2; omega) (by omega) (Or.inr (Or.inl hxC)) (k5 h2)
  have hex : ent G (adS G p d l x) x = 268435455 := by rw [hent x (by omega), if_pos rfl]
  have hlk : lnk G (adS G p d l x) (fcl (adS G p d l x) p) (l ++ [x]) := by
    rcases h3 with w | w
    · have e : fcl (adS G p d l x) p = x := by
        unfold adS
        rw [if_pos w]
        exact fcl_pfc (by omega)
      rw [e]
      have hl0 : l ++ [x] = [x] := by rw [w]; rfl
      rw [hl0]
      exact ⟨rfl, hxC, Or.inl ⟨rfl, by rw [hex]; omega⟩⟩
    · have c : l ≠ [] := fun q => by rw [q] at w; exact absurd w (by simp [lnk])
      rw [hfc c]
      refine lnk_snoc hxC (by omega) (by rw [hex]; omega) l _ w (fun y hy hne => ?_) ?_ hclu.1
      · rw [hent y (by have := (hclu.2 y hy).2; omega), if_neg (fun q => hxl (by rw [← q]; exact hy)), if_neg (fun q => hne q.2)]
      · have hm := hlast c
        rw [hent _ (by have := (hclu.2 _ hm).2; omega), if_neg (fun q => hxl (by rw [← q]; exact hm)), if_pos ⟨c, rfl⟩]
  have hnz : ∀ y, y < G.k + 2 → ent G d y ≠ 0 → ent G (adS G p d l x) y ≠ 0 := fun y hy hy0 => by
    rw [hent y hy]
    split
    · omega
    · split
      · omega
      · exact hy0
  refine ⟨hxC, l3, hxl, hxz, ⟨hlt, htab, Or.inr hlk, h4, hnz z (by have := h4.2; omega) h5, fun w => ?_, h7, h8⟩, ?_, fun y hy hyl hyx => ?_, hnz, hb9, hfc⟩
  · rcases List.mem_append.mp w with w | w
    · exact h6 w
    · exact hxz (by rw [List.mem_singleton] at w; exact w.symm)
  · refine frC_one l3 (by rw [hex]; omega) G.k 2 l1 (by omega) (fun y y1 y2 y3 => ?_)
    rw [hent y (by omega), if_neg y3]
    by_cases c : l ≠ [] ∧ y = l.getD (l.length - 1) 0
    · rw [if_pos c]
      have hm := hlast c.1
      rw [← c.2] at hm
      have : ent G d y ≠ 0 := ADI.nz ⟨h1, h2, h3, h4, h5, h6, h7, h8⟩ y hm
      exact ⟨fun w => absurd w (by omega), fun w => absurd w this⟩
    · rw [if_neg c]
  · rw [hent y hy, if_neg hyx, if_neg (fun w => hyl (by rw [w.2]; exact hlast w.1))]
theorem ad_ok {G : Geo} {p z : Nat} (hG : GOK G) : ∀ (m : Nat) (l : List Nat) (d : Nat → Nat), ADI G p z d l → m ≤ frC G d 2 G.k → ∃ add, (adD G p m l d).1 = l ++ add ∧ add.length = m ∧ ADI G p z (adD G p m l d).2 (l ++ add) ∧ (∀ y, y ∈ add → isC G y ∧ ent G d y = 0) ∧ (∀ y, y < G.k + 2 → y ∉ l → y ∉ add → ent G (adD G p m l d).2 y = ent G d y) ∧ (∀ y, y < G.k + 2 → ent G d y ≠ 0 → ent G (adD G p m l d).2 y ≠ 0) ∧ (∀ q, (q < 4096 ∨ 512 * G.a ≤ q) → (∀ y, y ∈ add → (q < pl G y ∨ pl G y + 512 * G.c ≤ q)) → (q < p + 20 ∨ (p + 22 ≤ q ∧ q < p + 26) ∨ p + 28 ≤ q) → (adD G p m l d).2 q = d q) ∧ (l ≠ [] → fcl (adD G p m l d).2 p = fcl d p) ∧ (m = 0 → (adD G p m l d).2 = d)
  | 0, l, d, h, _ => ⟨[], by rw [List.append_nil]; rfl, rfl, by rw [List.append_nil]; exact h, fun y hy => absurd hy (by simp), fun _ _ _ _ => rfl, fun _ _ w => w, fun _ _ _ _ => rfl, fun _ => rfl, fun _ => rfl⟩
  | m + 1, l, d, h, hm => by
    obtain ⟨x, hx⟩ : ∃ x, x = low G d 2 G.k := ⟨_, rfl⟩
    obtain ⟨s1, s2, s3, s4, s5, s6, s7, s8, s9, s10⟩ := ad_step hG h (by omega) hx
    obtain ⟨add, r1, r2, r3, r4, r5, r6, r7, r8, r9⟩ := ad_ok hG m (l ++ [x]) (adS G p d l x) s5 (by omega)
    have e : adD G p (m + 1) l d = adD G p m (l ++ [x]) (adS G p d l x) := by rw [adD, ← hx]
    rw [e]
    refine ⟨x :: add, by rw [r1]; simp, by rw [List.length_cons, r2], by rw [List.append_assoc] at r3; exact r3, fun y hy => ?_, fun y y1 y2 y3 => ?_, fun y y1 y2 => r6 y y1 (s8 y y1 y2), fun q q1 q2 q3 => ?_, fun c => ?_, fun w => absurd w (by omega)⟩
    · rcases List.mem_cons.mp hy with w | w
      · rw [w]; exact ⟨s1, s2⟩
      · obtain ⟨a1, a2⟩ := r4 y w
        have ay : y < G.k + 2 := by have := a1.2; omega
        exact ⟨a1, Decidable.byContradiction (fun q => s8 y ay q a2)⟩
    · have n1 : y ≠ x := fun w => y3 (by rw [w]; exact List.mem_cons_self)
      rw [r5 y y1 (fun w => (List.mem_append.mp w).elim y2 (fun w => n1 (List.mem_singleton.mp w))) (fun w => y3 (List.mem_cons_of_mem _ w)), s7 y y1 y2 n1]
    · rw [r7 q q1 (fun y hy => q2 y (List.mem_cons_of_mem _ hy)) q3, s9 q q1 (q2 x List.mem_cons_self) q3]
    · rw [r8 (by simp), s10 c]
theorem last_loop {nf : Nat} {ln : LN} {fi : FI} {ar : AR} {G : Geo} {d : Nat → Nat} (hW : CW ln fi ar G d) : ∀ (l : List Nat) (x i kf v : Nat), stp G d x l → i + l.length ≤ G.k → l.length < kf → FX9_last_7 nf ln kf (nI v) (nI x) (nI i) fi ar = some (nI (if l = [] then v else l.getD (l.length - 1) 0), fi, ar) := by
  have b := hW.2.2.1.b
  have g5 : fi 5 = nI G.k := hW.2.1.2.2.1
  intro l
  induction l with
  | nil =>
    intro x i kf v hs hi hk
    rcases hs with ⟨w, w2, _⟩ | w
    · obtain ⟨kf, rfl⟩ : ∃ k, kf = k + 1 := ⟨kf - 1, by omega⟩
      rw [show FX9_last_7 nf ln (kf + 1) = FX9_last_7b (FX9_last_7 nf ln kf) nf ln from rfl]
      unfold FX9_last_7b FX9_last_38
      rw [if_pos rfl, g5]
      by_cases c : G.k ≤ i
      · rw [brT (nI_le c (by simp at hi; omega))]
      · rw [brF (nI_ge (by omega) (by omega)), hW.isC (by omega), obnd3_some, if_neg (by unfold isC; omega), brT rfl]
    · exact absurd w (by simp [lnk])
  | cons y l ih =>
    intro x i kf v hs hi hk
    rcases hs with ⟨_, _, w⟩ | w
    · exact absurd w (by simp)
    · obtain ⟨rfl, hC, hst⟩ := w.stp
      simp only [List.length_cons] at hk hi
      obtain ⟨kf, rfl⟩ : ∃ k, kf = k + 1 := ⟨kf - 1, by omega⟩
      rw [show FX9_last_7 nf ln (kf + 1) = FX9_last_7b (FX9_last_7 nf ln kf) nf ln from rfl]
      unfold FX9_last_7b FX9_last_38
      rw [g5, brF (nI_ge (by omega) (by omega)), hW.isC (by omega), obnd3_some, if_pos hC, brF (by decide), hW.next (by omega), obnd3_some, bnd_eq, show nI i + (1 : Int32) = nI (i + 1) from nI_add i 1, ih (ent G d x) (i + 1) kf x hst (by omega) (by omega)]
      cases l with
      | nil => rfl
      | cons w l => rw [if_neg (by simp), if_neg (by simp)]; rfl
theorem last_ok {nf : Nat} {ln : LN} {fi : FI} {ar : AR} {G : Geo} {d : Nat → Nat} (hW : CW ln fi ar G d) {l : List Nat} {x : Nat} (hs : stp G d x l) (hnf : 600 ≤ nf) : FX9_last nf ln fi ar (nI x) = some (nI (l.getD (l.length - 1) 0), fi, ar) := by
  have b := hW.2.2.1.b
  have hl : l.length ≤ G.k := by
    rcases hs with ⟨_, _, w⟩ | w
    · rw [w]; exact Nat.zero_le _
    · exact (lnk_clu w).len
  unfold FX9_last
  have := last_loop (nf := nf) hW l x 0 nf 0 hs (by omega) (by omega)
  rw [show nI 0 = (0 : Int32) from rfl] at this
  rw [this]
  cases l with
  | nil => rfl
  | cons y l => rw [if_neg (by simp)]
