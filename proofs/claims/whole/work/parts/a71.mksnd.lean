/-! make keeps the volume sound -/
theorem sa_app {G : Geo} {l add : List Nat} {t : Nat} (hc : 1 ≤ G.c) (h : t < l.length * (16 * G.c)) : sa G (l ++ add) t = sa G l t := by
  have h1 : t / (16 * G.c) < l.length := (Nat.div_lt_iff_lt_mul (by omega)).mpr h
  unfold sa
  rw [List.getD_eq_getElem?_getD, List.getElem?_append_left h1, ← List.getD_eq_getElem?_getD]
theorem sbs_congr2 {d d' A A' : Nat → Nat} {l : List (Nat × Nat)} (h : ∀ e, e ∈ l → (isDr d' (A' e.1) ↔ isDr d (A e.1)) ∧ fcl d' (A' e.1) = fcl d (A e.1)) : sbs d' A' l = sbs d A l := by
  unfold sbs
  rw [List.filter_congr (q := fun e => decide (isDr d (A e.1))) (fun e he => decide_eq_decide.mpr (h e he).1)]
  exact List.map_congr_left (fun e he => (h e (List.mem_filter.mp he).1).2)
/-- the disks of a make: d before, dk after a cluster was taken for a directory, d1 with the entry, dF at the end -/
def MKD (G : Geo) (d dk d1 dF : Nat → Nat) (bits ow hp : Nat) : Prop := (bits = 32 ∧ ow = 0 ∧ dk = d ∧ dF = d1) ∨ (bits = 48 ∧ isC G ow ∧ ent G d ow = 0 ∧ dk = tkD G d ow ∧ SLT dF (pl G ow) (cD 1 ow) ∧ SLT dF (pl G ow + 32) (cD 2 hp) ∧ (∀ q, (q < pl G ow ∨ pl G ow + 64 ≤ q) → dF q = d1 q) ∧ ∀ q, dF q < 256)
theorem cD_pts {dF : Nat → Nat} {p s x : Nat} (hs : s < 2) (hx : x < 65536) (h : SLT dF p (cD (s + 1) x)) : pts dF p s x := by
  refine ⟨fun i hi => ?_, ?_, ?_⟩
  · rw [h i (by omega)]; unfold cD
    rw [if_pos hi]
    by_cases c : i ≤ s
    · rw [if_pos (by omega), if_pos c]
    · rw [if_neg (by omega), if_neg c]
  · rw [h 11 (by omega)]; rfl
  · unfold fcl
    rw [h.tw (by omega), h.tw (by omega)]
    unfold tw cD
    simp only [show ¬ (20 : Nat) < 11 by omega, show ¬ (20 : Nat) + 1 < 11 by omega, show ¬ (26 : Nat) < 11 by omega, show ¬ (26 : Nat) + 1 < 11 by omega, if_false, show ¬ (20 : Nat) = 11 by omega, show ¬ (20 : Nat) = 24 by omega, show ¬ (20 : Nat) = 26 by omega, show ¬ (20 : Nat) = 27 by omega, show ¬ (20 : Nat) + 1 = 11 by omega, show ¬ (20 : Nat) + 1 = 24 by omega, show ¬ (20 : Nat) + 1 = 26 by omega, show ¬ (20 : Nat) + 1 = 27 by omega, show ¬ (26 : Nat) = 11 by omega, show ¬ (26 : Nat) = 24 by omega, if_true, show ¬ (26 : Nat) + 1 = 11 by omega, show ¬ (26 : Nat) + 1 = 24 by omega, show ¬ (26 : Nat) + 1 = 26 by omega, show (26 : Nat) + 1 = 27 from rfl]
    omega
theorem mk_snd {G : Geo} {d dk d1 dF : Nat → Nat} {D : List Nat} {ρ : Nat → Nat} {f a np bits ow more : Nat} {N : List Nat} {B : Nat → Nat} (hG : GOK G) (hb : ∀ q, d q < 256) (htb : tabOK G d) (hS : Snd G d D ρ) (hf : f ∈ D) (hM : MKD G d dk d1 dF bits ow (pz G f))
    (hmore : more = msC G ((cl G d f).length * (16 * G.c)) (a + np + 1)) (hfr : more ≤ frC G dk 2 G.k)
    (hMK : MKS (adD G 0 more (cl G d f) dk).2 d1 (sa G (adD G 0 more (cl G d f) dk).1) (a + np) np N B bits ow (smS B 0 11) (dE G d f ≤ a + np + 1 ∧ a + np + 1 < (adD G 0 more (cl G d f) dk).1.length * (16 * G.c)))
    (haE : a ≤ dE G d f) (hza : zf G f ≤ a) (h229 : ∀ t, a ≤ t → t ≤ a + np → t < dE G d f → d (dA G d f t) = 229)
    (H8 : (¬ ∃ e, e ∈ dI G d f ∧ shB d (dA G d f) B e) ∧ ¬ ∃ e, e ∈ dI G d f ∧ alk (nm d (dA G d f) e.1 e.2) N)
    (hN : nmOK N) (hN2 : ∀ x, x ∈ N → x < 65536) (hK : shK B) (hnp : np ≤ 20) (hcase : (np = 0 ∧ brOK N ∧ ∀ i, i < 11 → B i = brB N i) ∨ (1 ≤ np ∧ (N.length + 12) / 13 = np)) :
    (∀ q, dF q < 256) ∧ (∀ q, q < 512 → dF q = d q) ∧ tabOK G dF ∧ (∃ D' ρ', Snd G dF D' ρ' ∧ ∀ g, g ∈ D → g ∈ D') ∧ (∃ r, dI G dF f = itm d (dA G d f) (zf G f) a ++ (a + np, np) :: r) := by
  have b := hG.b
  have hc : 1 ≤ G.c := by omega
  have ha4 : 4096 ≤ 512 * G.a := by have := hG.t (x := 0) (by omega); omega
  have hDk := hS.2.2.1 f hf
  have hlk := hDk.1
  have hlclu := lnk_clu hlk
  have hbits : bits = 32 ∨ bits = 48 := by rcases hM with h | h; exact Or.inl h.1; exact Or.inr h.1
  have hdk : (∀ q, dk q < 256) ∧ tabOK G dk ∧ (∀ y, y < G.k + 2 → (bits = 48 → y ≠ ow) → ent G dk y = ent G d y) ∧ (bits = 48 → 268435448 ≤ ent G dk ow) ∧ (∀ q, (q < 4096 ∨ 512 * G.a ≤ q) → (bits = 48 → (q < pl G ow ∨ pl G ow + 512 * G.c ≤ q)) → dk q = d q) ∧ (bits = 48 → isC G ow ∧ ent G d ow = 0) ∧ ow < 65536 ∧ (bits = 32 → ow = 0) ∧ (bits = 48 → ∀ q, pl G ow ≤ q → q < pl G ow + 512 * G.c → dk q = 0) := by
    rcases hM with ⟨h1, h2, h3, h4⟩ | ⟨h1, h2, h3, h4, h5, h6, h7, h8⟩
    · rw [h3]; exact ⟨hb, htb, fun _ _ _ => rfl, fun w => by omega, fun _ _ _ => rfl, fun w => by omega, by omega, fun _ => h2, fun w => by omega⟩
    · obtain ⟨k1, k2, k3, k4, k5⟩ := tk_facts hG hb h2
      have hok := h2.2
      rw [h4]
      exact ⟨k1, k5 htb, fun y hy hne => by rw [k4 y hy, if_neg (hne h1)], fun _ => by rw [k4 ow (by omega), if_pos rfl]; omega, fun q q1 q2 => k2 q q1 (q2 h1), fun _ => ⟨h2, h3⟩, by omega, fun w => by omega, fun _ => k3⟩
  obtain ⟨kb, kt, ke, keo, kq, ko, kol, kof, kz⟩ := hdk
  have hnow : ∀ y, ent G d y ≠ 0 → (bits = 48 → y ≠ ow) := fun y hy w e => hy (by rw [e]; exact (ko w).2)
  have hlen0 : ∀ y, y ∈ cl G d f → ent G d y ≠ 0 := fun y hy => lnk_ent _ _ hlk y hy
  have hisk : ∀ y, isC G y → y < G.k + 2 := fun y hy => by have := hy.2; omega
  have hDDI : DDI G dk (cl G d f) f := ⟨kb, kt, lnk_congr _ _ hlk (fun y hy => ke y (hisk y (hlclu.2 y hy)) (hnow y (hlen0 y hy)))⟩
  obtain ⟨add, r1, r2, r3, r4, r5, r6, r7, r8⟩ := dd_ok hG more (cl G d f) dk hDDI hfr
  rw [r1] at hMK
  obtain ⟨d0, hd0⟩ : ∃ d0, d0 = (adD G 0 more (cl G d f) dk).2 := ⟨_, rfl⟩
  rw [← hd0] at hMK r3 r5 r6 r7 r8
  have hl'clu := lnk_clu r3.2.2
  obtain ⟨m1, m2, m3, m4, m5⟩ := hMK
  have hadd0 : ∀ y, y ∈ add → isC G y ∧ ent G d y = 0 ∧ (bits = 48 → y ≠ ow) := fun y hy => by
    obtain ⟨a1, a2⟩ := r4 y hy
    have hne : bits = 48 → y ≠ ow := fun w e => by have := keo w; rw [← e, a2] at this; omega
    exact ⟨a1, by rw [← ke y (hisk y a1) hne]; exact a2, hne⟩
  have hS' : a + np < (cl G d f ++ add).length * (16 * G.c) := by
    have h16 : 0 < 16 * G.c := by omega
    rw [List.length_append, r2, Nat.add_mul]
    have hge : a + np + 1 - (cl G d f).length * (16 * G.c) ≤ more * (16 * G.c) := by
      rw [hmore]
      unfold msC
      obtain ⟨w, hw⟩ : ∃ w, w = a + np + 1 - (cl G d f).length * (16 * G.c) := ⟨_, rfl⟩
      rw [← hw]
      have h1 := Nat.div_add_mod (w + 16 * G.c - 1) (16 * G.c)
      have h2 := Nat.mod_lt (w + 16 * G.c - 1) h16
      rw [Nat.mul_comm]
      omega
    omega
  have hadd6 : a + np + 1 ≤ (cl G d f).length * (16 * G.c) → add = [] := fun h => by
    apply List.length_eq_zero_iff.mp
    rw [r2, hmore]
    unfold msC
    rw [show a + np + 1 - (cl G d f).length * (16 * G.c) = 0 by omega, Nat.zero_add]
    exact Nat.div_eq_of_lt (by omega)
  -- clusters of slots
  have hslot : ∀ t, t < (cl G d f ++ add).length * (16 * G.c) → ∃ y, y ∈ cl G d f ++ add ∧ pl G y ≤ sa G (cl G d f ++ add) t ∧ sa G (cl G d f ++ add) t + 32 ≤ pl G y + 512 * G.c := fun t ht => ⟨_, sa_cl hG ht⟩
  have howl : bits = 48 → ow ∉ cl G d f ++ add := fun w hm => by
    rcases List.mem_append.mp hm with q | q
    · exact hlen0 ow q (ko w).2
    · exact (hadd0 ow q).2.2 w rfl
  -- a byte in no cluster of the directory is as in d0
  have hfar : ∀ q, (∀ y, y ∈ cl G d f ++ add → (q < pl G y ∨ pl G y + 512 * G.c ≤ q)) → d1 q = d0 q := fun q hq => by
    refine m5 q (fun t t1 t2 => ?_) (fun w e => ?_)
    · obtain ⟨y, y1, y2, y3⟩ := hslot t (by omega)
      have := hq y y1; omega
    · obtain ⟨y, y1, y2, y3⟩ := hslot (a + np + 1) w.2
      have := hq y y1; omega
  have hF1 : ∀ q, (bits = 48 → (q < pl G ow ∨ pl G ow + 64 ≤ q)) → dF q = d1 q := fun q hq => by
    rcases hM with ⟨h1, h2, h3, h4⟩ | ⟨h1, h2, h3, h4, h5, h6, h7, h8⟩
    · rw [h4]
    · exact h7 q (hq h1)
  have hFb : ∀ q, dF q < 256 := by
    rcases hM with ⟨h1, h2, h3, h4⟩ | ⟨h1, h2, h3, h4, h5, h6, h7, h8⟩
    · rw [h4]; exact m1
    · exact h8
  have hlowF : ∀ q, q < 512 * G.a → dF q = d0 q := fun q hq => by
    rw [hF1 q (fun w => by have := pl_in hG (ko w).1; omega)]
    exact hfar q (fun y hy => by have := pl_in hG (hl'clu.2 y hy); omega)
  have hT := tab_congr (d := d0) (d' := dF) hG (fun q _ q2 => hlowF q q2)
  have hentF : ∀ y, isC G y → y ∉ cl G d f → y ∉ add → (bits = 48 → y ≠ ow) → ent G dF y = ent G d y := fun y hy h1 h2 h3 => by
    rw [hT.1 y (hisk y hy), r5 y (hisk y hy) h1 h2, ke y (hisk y hy) h3]
  -- a cluster that is none of them keeps its bytes
  have hother : ∀ x, isC G x → x ∉ cl G d f ++ add → (bits = 48 → x ≠ ow) → ∀ i, i < 512 * G.c → dF (pl G x + i) = d (pl G x + i) := fun x hx h1 h2 i hi => by
    have hin := pl_in hG hx
    have hap : ∀ y, y ∈ cl G d f ++ add → (pl G x + i < pl G y ∨ pl G y + 512 * G.c ≤ pl G x + i) := fun y hy => by
      have := pl_apart (G := G) hx.1 (hl'clu.2 y hy).1 (fun e => h1 (by rw [e]; exact hy)); omega
    have how : bits = 48 → (pl G x + i < pl G ow ∨ pl G ow + 512 * G.c ≤ pl G x + i) := fun w => by
      have := pl_apart (G := G) hx.1 (ko w).1.1 (h2 w); omega
    rw [hF1 _ (fun w => by have := how w; omega), hfar _ hap, r7 _ (Or.inr (by omega)) (fun y hy => hap y (List.mem_append_right _ hy)), kq _ (Or.inr (by omega)) how]
  have hH2 : ∀ t, t < (cl G d f).length * (16 * G.c) → (t < a ∨ a + np < t) → ¬ (dE G d f ≤ a + np + 1 ∧ t = a + np + 1) → sl d (dA G d f t) dF (sa G (cl G d f ++ add) t) := fun t ht ho hnb i hi => by
    have e : sa G (cl G d f ++ add) t = dA G d f t := sa_app hc ht
    have hlen' : (cl G d f).length * (16 * G.c) ≤ (cl G d f ++ add).length * (16 * G.c) := Nat.mul_le_mul_right _ (by rw [List.length_append]; omega)
    obtain ⟨y1, y2, y3⟩ := sa_cl hG ht
    obtain ⟨y, hy⟩ : ∃ y, y = (cl G d f).getD (t / (16 * G.c)) 0 := ⟨_, rfl⟩
    rw [← hy] at y1 y2 y3
    have hyC := hlclu.2 y y1
    have hin := pl_in hG hyC
    have e2 : sa G (cl G d f) t = dA G d f t := rfl
    rw [e2] at y2 y3
    have how : bits = 48 → (dA G d f t + i < pl G ow ∨ pl G ow + 512 * G.c ≤ dA G d f t + i) := fun w => by
      have := pl_apart (G := G) hyC.1 (ko w).1.1 (hnow y (hlen0 y y1) w); omega
    have hnadd : ∀ x, x ∈ add → (dA G d f t + i < pl G x ∨ pl G x + 512 * G.c ≤ dA G d f t + i) := fun x hx => by
      have hne : y ≠ x := fun q => hlen0 y y1 (by rw [q]; exact (hadd0 x hx).2.1)
      have := pl_apart (G := G) hyC.1 (hadd0 x hx).1.1 hne; omega
    have hap : ∀ t', t' < (cl G d f ++ add).length * (16 * G.c) → t' ≠ t → dA G d f t + 32 ≤ sa G (cl G d f ++ add) t' ∨ sa G (cl G d f ++ add) t' + 32 ≤ dA G d f t := fun t' h1 h2 => by
      have := sa_apart hc hl'clu (s := t) (t := t') (by omega) h1 (fun q => h2 q.symm)
      rw [e] at this; exact this
    rw [e, hF1 _ (fun w => by have := how w; omega), m5 _ (fun t' t1 t2 => by have := hap t' (by omega) (by omega); omega) (fun w q => by have := hap (a + np + 1) w.2 (fun z => hnb ⟨w.1, z.symm⟩); omega), r7 _ (Or.inr (by omega)) hnadd, kq _ (Or.inr (by omega)) how]
  have hSLTF : ∀ t, t < (cl G d f ++ add).length * (16 * G.c) → ∀ e, SLT d1 (sa G (cl G d f ++ add) t) e → SLT dF (sa G (cl G d f ++ add) t) e := fun t ht e h => by
    refine h.off (fun q q1 q2 => hF1 q (fun w => ?_))
    obtain ⟨y, y1, y2, y3⟩ := hslot t ht
    have := pl_apart (G := G) (hl'clu.2 y y1).1 (ko w).1.1 (fun z => howl w (by rw [← z]; exact y1)); omega
  have hlkF : lnk G dF f (cl G d f ++ add) := lnk_congr _ _ r3.2.2 (fun y hy => hT.1 y (hisk y (hl'clu.2 y hy)))
  have hown_ent : ∀ g, g ∈ D → ∀ y, y ∈ own G d g → isC G y ∧ ent G d y ≠ 0 := fun g hg y hy => own_ent (hS.2.2.1 g hg) hy
  have hfcA : ∀ e, e ∈ dI G d f → ¬ isDr d (dA G d f e.1) → ∀ y, y ∈ fc1 G d (dA G d f e.1) → ent G dF y = ent G d y := fun e he hnd y hy => by
    have hyo : y ∈ own G d f := List.mem_append_right _ (List.mem_flatMap.mpr ⟨e, he, by rw [if_neg hnd]; exact hy⟩)
    obtain ⟨h1, h2⟩ := hown_ent f hf y hyo
    have hyl : y ∉ cl G d f := fun w => fc_apart hS hf he hnd hf w hy
    exact hentF y h1 hyl (fun w => h2 (hadd0 y w).2.1) (hnow y h2)
  obtain ⟨C1, C2, C3, C4, C5, C6, C7, C8, C9⟩ := mk_core (dF := dF) (a := a) (np := np) (bits := bits) (own := ow) (add := add) (N := N) (B := B) hDk hlkF hH2 (hSLTF _ hS' _ m2) (fun j hj => hSLTF _ (by omega) _ (m3 j hj)) (fun h1 h2 => by
      rw [hF1 _ (fun w => by
        obtain ⟨y, y1, y2, y3⟩ := hslot (a + np + 1) h2
        have := pl_apart (G := G) (hl'clu.2 y y1).1 (ko w).1.1 (fun z => howl w (by rw [← z]; exact y1)); omega)]
      exact m4 ⟨h1, h2⟩) hS' haE hza h229 hadd6 hfcA H8 hN hN2 hK hbits kol kof hnp hcase
  have hkept : ∀ g, g ∈ D → g ≠ f → kept G d dF g := fun g hg hne => by
    have hy : ∀ y, y ∈ own G d g → isC G y ∧ y ∉ cl G d f ∧ y ∉ add ∧ (bits = 48 → y ≠ ow) := fun y hy => by
      obtain ⟨h1, h2⟩ := hown_ent g hg y hy
      exact ⟨h1, fun w => hS.apart hg hf hne hy (List.mem_append_left _ w), fun w => h2 (hadd0 y w).2.1, hnow y h2⟩
    refine ⟨fun y hyo => ?_, fun x hx i hi => ?_⟩
    · obtain ⟨h1, h2, h3, h4⟩ := hy y hyo; exact hentF y h1 h2 h3 h4
    · obtain ⟨h1, h2, h3, h4⟩ := hy x (List.mem_append_left _ hx)
      exact hother x h1 (fun w => (List.mem_append.mp w).elim h2 h3) h4 i hi
  have haddN : add.Nodup := (List.nodup_append.mp hl'clu.1).2.1
  have hfcs : fcs G dF (dA G dF f) (dI G d f) = fcs G d (dA G d f) (dI G d f) := fcs_congr _ (fun e he => ⟨(C5 e he).1, (C5 e he).2.2⟩)
  have hfcE : fcE G dF (dA G dF f (a + np)) = [] := by
    unfold fcE
    by_cases w : isDr dF (dA G dF f (a + np))
    · rw [if_pos w]
    · rw [if_neg w]; unfold fc1; rw [if_pos C9]
  have hownF : (own G dF f).Perm (own G d f ++ add) := by
    have h1 := fcs_perm (G := G) (d := dF) (A := dA G dF f) C3
    have h1' : (fcs G dF (dA G dF f) (dI G dF f)).Perm (fcE G dF (dA G dF f (a + np)) ++ fcs G dF (dA G dF f) (dI G d f)) := h1
    rw [hfcE, List.nil_append, hfcs] at h1'
    unfold own
    rw [C2]
    refine (List.Perm.append_left _ h1').trans ?_
    rw [List.append_assoc, List.append_assoc]
    exact List.Perm.append_left _ List.perm_append_comm
  have hsubF : (sub G dF f).Perm (sbs dF (dA G dF f) [(a + np, np)] ++ sub G d f) := by
    unfold sub
    have h1 := sbs_perm (d := dF) (A := dA G dF f) C3
    have h2 : sbs dF (dA G dF f) ((a + np, np) :: dI G d f) = sbs dF (dA G dF f) [(a + np, np)] ++ sbs dF (dA G dF f) (dI G d f) := by
      unfold sbs
      rw [← List.map_append, ← List.filter_append]; rfl
    rw [h2, sbs_congr2 (fun e he => ⟨(C5 e he).1, (C5 e he).2.1⟩)] at h1
    exact h1
  have hlow : ∀ q, q < 512 → dF q = d q := fun q hq => by
    rw [hlowF q (by omega), r7 q (Or.inl (by omega)) (fun y hy => by have := pl_in hG (hadd0 y hy).1; omega), kq q (Or.inl (by omega)) (fun w => by have := pl_in hG (ko w).1; omega)]
  refine ⟨hFb, hlow, hT.2 r3.2.1, ?_, C4⟩
  rcases hM with ⟨h1, h2, h3, h4⟩ | ⟨h1, h2, h3, h4, h5, h6, h7, h8⟩
  · -- a file
    refine ⟨D, ρ, Snd_A2 hc hS hf hkept C1 ?_ C6 (add := add) (del := []) (by rw [List.append_nil]; exact hownF) ⟨haddN, fun y hy => ⟨(hadd0 y hy).1, (hadd0 y hy).2.1⟩⟩ (fun y hy => absurd hy (by simp)) (fun y hy hy2 => ?_), fun g hg => hg⟩
    · have hs0 : sbs dF (dA G dF f) [(a + np, np)] = [] := by
        unfold sbs
        rw [List.filter_cons_of_neg (by simp only [decide_eq_true_eq]; intro w; have := C7.mp w; omega)]; rfl
      rw [hs0, List.nil_append] at hsubF
      exact hsubF
    · by_cases w : y ∈ add
      · exact Or.inl w
      · refine Or.inr ⟨?_, by simp⟩
        by_cases w2 : y ∈ cl G d f
        · exact hlen0 y w2
        · rw [hentF y hy w2 w (fun z => by omega)] at hy2; exact hy2
  · -- a directory
    have how48 : bits = 48 := h1
    have howr : ow ≠ G.r := fun e => by
      have hr : G.r ∈ D := hS.1.mem_iff.mpr List.mem_cons_self
      have := (hown_ent G.r hr G.r (List.mem_append_left _ (lnk_head (hS.2.2.1 G.r hr).1))).2
      rw [← e] at this; exact this h3
    have hwn := howl how48
    have hentw : 268435448 ≤ ent G dF ow := by
      rw [hT.1 ow (hisk ow h2), r5 ow (hisk ow h2) (fun w => hwn (List.mem_append_left _ w)) (fun w => hwn (List.mem_append_right _ w))]
      exact keo how48
    have hlkw : lnk G dF ow [ow] := ⟨rfl, h2, Or.inl ⟨rfl, hentw⟩⟩
    have hclw : cl G dF ow = [ow] := cl_of hlkw
    have hdAw : ∀ t, t < 16 * G.c → dA G dF ow t = pl G ow + 32 * t := fun t ht => by
      unfold dA sa
      rw [hclw, Nat.div_eq_of_lt ht, Nat.mod_eq_of_lt ht]; rfl
    have hA0 : dA G dF ow 0 = pl G ow := hdAw 0 (by omega)
    have hA1 : dA G dF ow 1 = pl G ow + 32 := hdAw 1 (by omega)
    have hp0 : pts dF (dA G dF ow 0) 0 ow := by rw [hA0]; exact cD_pts (by omega) kol h5
    have hpzl : pz G f < 65536 := by
      unfold pz
      split
      · omega
      · have := (hlclu.2 f (lnk_head hlk)).2; omega
    have hp1 : pts dF (dA G dF ow 1) 1 (pz G f) := by rw [hA1]; exact cD_pts (by omega) hpzl h6
    have hzw : zf G ow = 2 := by unfold zf; rw [if_neg howr]
    have hEw : dE G dF ow = 2 := by
      unfold dE en
      rw [hclw]
      refine zl_uniq _ (by omega) (by simp only [List.length_singleton]; omega) (fun t _ ht => ?_) (fun _ => ?_)
      · rcases (show t = 0 ∨ t = 1 by omega) with w | w <;> subst w
        · have := hp0.1 0 (by omega)
          rw [Nat.add_zero, if_pos (by omega)] at this
          rw [this]; decide
        · have := hp1.1 0 (by omega)
          rw [Nat.add_zero, if_pos (by omega)] at this
          rw [this]; decide
      · rw [hdAw 2 (by omega)]
        have hin := pl_in hG h2
        have hap : ∀ y, y ∈ cl G d f ++ add → (pl G ow + 32 * 2 < pl G y ∨ pl G y + 512 * G.c ≤ pl G ow + 32 * 2) := fun y hy => by
          have := pl_apart (G := G) h2.1 (hl'clu.2 y hy).1 (fun e => hwn (by rw [e]; exact hy)); omega
        rw [h7 _ (by omega), hfar _ hap, r7 _ (Or.inr (by omega)) (fun y hy => hap y (List.mem_append_right _ hy)), kz how48 _ (by omega) (by omega)]
    have hzz := rn_z dF (dA G dF ow) 2 2 (Nat.le_refl _)
    have hIw : dI G dF ow = [] := by unfold dI; rw [hzw, hEw]; exact hzz.2.1
    have hDw : DOK G dF ow := ⟨by rw [hclw]; exact hlkw, fun _ => ⟨hp0, _, hp1⟩, fun t t1 t2 => by rw [hzw] at t1; rw [hEw] at t2; omega, by rw [hzw, hEw]; exact hzz.1⟩
    have hsw : sub G dF ow = [] := by unfold sub; rw [hIw]; rfl
    have howw : own G dF ow = [ow] := by unfold own; rw [hclw, hIw]; rfl
    have hs1 : sbs dF (dA G dF f) [(a + np, np)] = [ow] := by
      unfold sbs
      rw [List.filter_cons_of_pos (by simp only [decide_eq_true_eq]; exact C7.mpr how48)]
      show [fcl dF (dA G dF f (a + np))] = [ow]
      rw [C8]
    rw [hs1] at hsubF
    refine ⟨ow :: D, _, Snd_B2 hc hS hf hkept C1 hsubF C6 hDw hsw hp1 (add := add ++ [ow]) ?_ ⟨?_, fun y hy => ?_⟩ (by simp) (fun y hy hy2 => ?_), fun g hg => List.mem_cons_of_mem _ hg⟩
    · rw [howw, ← List.append_assoc]; exact List.Perm.append_right _ hownF
    · refine List.nodup_append.mpr ⟨haddN, by simp, fun x hx y hy e => ?_⟩
      rw [List.mem_singleton] at hy
      exact (hadd0 x hx).2.2 how48 (by rw [e, hy])
    · rcases List.mem_append.mp hy with w | w
      · exact ⟨(hadd0 y w).1, (hadd0 y w).2.1⟩
      · rw [List.mem_singleton] at w
        rw [w]; exact ⟨h2, h3⟩
    · by_cases w : y ∈ add
      · exact Or.inl (List.mem_append_left _ w)
      · by_cases w3 : y = ow
        · exact Or.inl (List.mem_append_right _ (by rw [w3]; simp))
        · right
          by_cases w2 : y ∈ cl G d f
          · exact hlen0 y w2
          · rw [hentF y hy w2 w (fun _ => w3)] at hy2; exact hy2
