/-! remove: the writes -/
def rmS (A : Nat → Nat) : Nat → Nat → (Nat → Nat) → (Nat → Nat)
  | _, 0, d => d
  | t, m + 1, d => rmS A (t + 1) m (wr d (A t) 1 229)
theorem rmS_lt {A : Nat → Nat} : ∀ (m t : Nat) (d : Nat → Nat), (∀ p, d p < 256) → ∀ p, rmS A t m d p < 256
  | 0, _, _, h, p => h p
  | m + 1, t, d, h, p => rmS_lt m (t + 1) _ (fun q => wr_lt h _ _ _ q) p
theorem rmS_out {A : Nat → Nat} {q : Nat} : ∀ (m t : Nat) (d : Nat → Nat), (∀ s, t ≤ s → s < t + m → q ≠ A s) → rmS A t m d q = d q
  | 0, _, _, _ => rfl
  | m + 1, t, d, h => by
    show rmS A (t + 1) m (wr d (A t) 1 229) q = d q
    rw [rmS_out m (t + 1) _ (fun s h1 h2 => h s (by omega) (by omega)), wr_out (by have := h t (by omega) (by omega); omega)]
theorem rmS_keep {A : Nat → Nat} {q : Nat} : ∀ (m t : Nat) (d : Nat → Nat), d q = 229 → rmS A t m d q = 229
  | 0, _, _, h => h
  | m + 1, t, d, h => rmS_keep m (t + 1) _ (by
      by_cases c : q = A t
      · rw [wr_in (by omega) (by omega), c, Nat.sub_self]
      · rw [wr_out (by omega)]; exact h)
theorem rmS_in {A : Nat → Nat} {s : Nat} : ∀ (m t : Nat) (d : Nat → Nat), t ≤ s → s < t + m → rmS A t m d (A s) = 229
  | 0, t, _, h1, h2 => absurd h2 (by omega)
  | m + 1, t, d, h1, h2 => by
    show rmS A (t + 1) m (wr d (A t) 1 229) (A s) = 229
    by_cases c : s = t
    · subst c
      exact rmS_keep m _ _ (by rw [wr_in (by omega) (by omega), Nat.sub_self])
    · exact rmS_in m (t + 1) _ (by omega) (by omega)
theorem frs_rmS {G : Geo} (hG : GOK G) {A : Nat → Nat} {l : List Nat} (hl : ∀ y, y ∈ l → y < G.k + 2) : ∀ (m t : Nat) (d : Nat → Nat), (∀ s, t ≤ s → s < t + m → 512 * G.a ≤ A s) → frs G (rmS A t m d) l = rmS A t m (frs G d l)
  | 0, _, _, _ => rfl
  | m + 1, t, d, h => by
    show frs G (rmS A (t + 1) m (wr d (A t) 1 229)) l = rmS A (t + 1) m (wr (frs G d l) (A t) 1 229)
    rw [frs_rmS hG hl m (t + 1) _ (fun s h1 h2 => h s (by omega) (by omega)), frs_wr hG (h t (by omega) (by omega)) l d hl]
theorem RD_byte {ar : AR} {d : Nat → Nat} (h : RD ar d) {a : Nat} : RD (va_up ar 1 (upd (ar 1) a (vp_nar .byte (-27)))) (wr d a 1 229) := fun p hp => by
  have h0 := h p hp
  unfold mb at h0 ⊢
  rw [va_up_self]
  unfold upd wr
  by_cases e : p = a
  · rw [if_pos e, if_pos (by omega), show p - a = 0 by omega]; decide
  · rw [if_neg e, if_neg (by omega)]; exact h0
theorem load_loop {nf : Nat} {fm : FI} {l : List Nat} (h31 : fm 31 = nI l.length) (hl : l.length < 560) : ∀ (m i kf : Nat) (arm : AR), i + m = l.length → m < kf → (∀ q, q < l.length → arm 29 q = nI (l.getD q 0)) → (∀ q, q < i → arm 30 q = nI (l.getD q 0)) → ∃ arm', M_loadFolder_11 nf kf (nI i) fm arm = some ((), va_up fm 32 (nI l.length), arm') ∧ FOL arm' l ∧ offAs [30] arm arm' := by
  intro m
  induction m with
  | zero =>
    intro i kf arm hi hk h29 h30
    obtain ⟨kf, rfl⟩ : ∃ k, kf = k + 1 := ⟨kf - 1, by omega⟩
    rw [show M_loadFolder_11 nf (kf + 1) = M_loadFolder_11b (M_loadFolder_11 nf kf) nf from rfl]
    unfold M_loadFolder_11b
    rw [h31, brT (nI_le (by omega) (by omega)), bnd_eq]
    exact ⟨arm, rfl, fun q hq => h30 q (by omega), offAs.rf⟩
  | succ m ih =>
    intro i kf arm hi hk h29 h30
    obtain ⟨kf, rfl⟩ : ∃ k, kf = k + 1 := ⟨kf - 1, by omega⟩
    rw [show M_loadFolder_11 nf (kf + 1) = M_loadFolder_11b (M_loadFolder_11 nf kf) nf from rfl]
    unfold M_loadFolder_11b
    rw [h31, brF (nI_ge (by omega) (by omega)), zgd (by omega) (by omega), zgd (by omega) (by omega), nI_clamp (by omega), bnd_eq, bnd_eq, show nI i + (1 : Int32) = nI (i + 1) from nI_add i 1, h29 i (by omega)]
    obtain ⟨arm', s1, s2, s3⟩ := ih (i + 1) kf (va_up arm 30 (upd (arm 30) i (nI (l.getD i 0)))) (by omega) (by omega) (fun q hq => by rw [va_up_off (by decide)]; exact h29 q hq) (fun q hq => by
      rw [va_up_self]
      unfold upd
      by_cases e : q = i
      · rw [if_pos e, e]
      · rw [if_neg e]; exact h30 q (by omega))
    exact ⟨arm', s1, s2, (offAs.rf.up (by simp)).tr s3⟩
theorem loadFolder_ok {nf : Nat} {G : Geo} {d : Nat → Nat} {l : List Nat} {fm : FI} {arm : AR} {j f : Nat} (hW : RW fm arm G d) (hj : j < 16400) (hB : BG fm arm d G.r j f) (hl : lnk G d f l) (hnf : 40000 ≤ nf) : ∃ fm' arm', M_loadFolder nf fm arm (nI j) = some ((), fm', arm') ∧ offF [31, 32] fm fm' ∧ offAs [29, 30] arm arm' ∧ FOL arm' l ∧ fm' 32 = nI l.length := by
  have b := hW.2.2.b
  have hc := (lnk_clu hl).len
  unfold M_loadFolder
  rw [beginOf_eq hW.1 hj hB, obnd3_some]
  obtain ⟨fm1, arm1, r1, r2, r3, r4, r5⟩ := walk_ok (nf := nf) hW (Or.inr hl) (by omega)
  rw [r1, obnd3_some]
  obtain ⟨arm2, s1, s2, s3⟩ := load_loop (nf := nf) r4 (by omega) l.length 0 nf arm1 (by omega) (by omega) r5 (fun q hq => absurd hq (by omega))
  exact ⟨_, _, s1, (r2.mono (by simp)).up (by simp), (r3.mono (by simp)).tr (s3.mono (by simp)), s2, va_up_self _ _ _⟩
theorem remC_loop {nf : Nat} {ln : LN} {fi : FI} {G : Geo} {l : List Nat} {x : Nat} {fl : List Nat} (hG : GOK G) (hl : clu G l) (hln : l.length ≤ ln 10) (hx3 : ∀ y, y ∈ fl → y < G.k + 2) (hnf : 600 ≤ nf) : ∀ (m t kf : Nat) (ar : AR) (d : Nat → Nat), CW ln fi ar G d → (∀ p, d p < 256) → DC fi ar 0 G l → stp G d x fl → t + m ≤ l.length * (16 * G.c) → 1 ≤ t + m → m < kf → ∃ ar', FX10_remove_79 nf kf (nI x) (nI (t + m - 1)) (nI t) fi ar ln = some (Sum.inl (), fi, ar', ln, 0, 0) ∧ CD ln ar' (frs G (rmS (sa G l) t m d) fl) ∧ offA 0 ar ar' := by
  intro m
  induction m with
  | zero =>
    intro t kf ar d hW hb hD hs htm ht0 hk
    have b0 := (slot_in hG hl (s := t - 1) (by omega)).2.2.2
    obtain ⟨kf, rfl⟩ : ∃ k, kf = k + 1 := ⟨kf - 1, by omega⟩
    rw [show FX10_remove_79 nf (kf + 1) = FX10_remove_79b (FX10_remove_79 nf kf) nf from rfl]
    unfold FX10_remove_79b
    obtain ⟨ar', r1, r2, r3⟩ := release_ok (nf := nf) hW hb hs hnf
    rw [brT (nI_lt (by omega) (by omega)), r1, obnd3_some]
    exact ⟨ar', rfl, r2.1, r3⟩
  | succ m ih =>
    intro t kf ar d hW hb hD hs htm ht0 hk
    have b0 := slot_in hG hl (s := t) (by omega)
    have b1 := slot_in hG hl (s := t + m) (by omega)
    have hl0 : ln 0 = 128 * G.n := hW.2.2.2
    obtain ⟨kf, rfl⟩ : ∃ k, kf = k + 1 := ⟨kf - 1, by omega⟩
    rw [show FX10_remove_79 nf (kf + 1) = FX10_remove_79b (FX10_remove_79 nf kf) nf from rfl]
    unfold FX10_remove_79b
    obtain ⟨ar1, r1, r2, r3⟩ := FX3_putOne_ok (nf := nf) (fi := fi) hW.1 (p := sa G l t) 229 (by omega)
    rw [brF (nI_nlt (by omega) (by omega)), slotAddress_eq hG hl hD (by omega) (by omega), obnd3_some, r1, obnd3_some, bnd_eq, show nI t + (1 : Int32) = nI (t + 1) from nI_add t 1]
    have hst : stp G (wr d (sa G l t) 1 229) x fl := by
      rcases hs with ⟨h1, h2, h3⟩ | h1
      · exact Or.inl ⟨h1, h2, h3⟩
      · refine Or.inr (lnk_congr _ _ h1 (fun y hy => ?_))
        exact (tab_congr (d := d) (d' := wr d (sa G l t) 1 229) hG (fun q q1 q2 => by rw [wr_out (by omega)])).1 y (hx3 y hy)
    obtain ⟨ar', s1, s2, s3⟩ := ih (t + 1) kf ar1 _ ⟨r2, hW.2⟩ (fun q => wr_lt hb _ _ _ q) (hD.off (S := []) (T := [0]) offF.rf r3.as (by simp) (by simp)) hst (by omega) (by omega) (by omega)
    rw [show t + 1 + m - 1 = t + (m + 1) - 1 by omega] at s1
    exact ⟨ar', s1, s2, r3.tr s3⟩
theorem remM_slots {nf : Nat} {G : Geo} {fm : FI} {l : List Nat} {B e : Nat} (hB : B < 16400) (hl : clu G l) (he : e < l.length * (16 * G.c)) : ∀ (m t kf : Nat) (arm : AR) (d : Nat → Nat), t + m = e + 1 → m < kf → RW fm arm G d → FOL arm l → arm 21 B = nI e → ∃ arm', M_remove_128 nf kf (nI B) (nI t) fm arm = some ((), va_up fm 15 0, arm') ∧ RD arm' (rmS (sa G l) t m d) ∧ offA 1 arm arm' := by
  intro m
  induction m with
  | zero =>
    intro t kf arm d ht hk hW hF h21
    have b0 := (slot_in hW.2.2 hl he).2.2.2
    obtain ⟨kf, rfl⟩ : ∃ k, kf = k + 1 := ⟨kf - 1, by omega⟩
    rw [show M_remove_128 nf (kf + 1) = M_remove_128b (M_remove_128 nf kf) nf from rfl]
    unfold M_remove_128b
    rw [zgd hB (by omega), nI_clamp (by omega), h21, brT (nI_lt (by omega) (by omega))]
    unfold M_changed
    rw [bnd_eq, obnd3_some]
    exact ⟨arm, rfl, hW.1, offA.rf⟩
  | succ m ih =>
    intro t kf arm d ht hk hW hF h21
    have b0 := (slot_in hW.2.2 hl he).2.2.2
    have b1 := slot_in hW.2.2 hl (s := t) (by omega)
    have bb := hW.2.2.b
    obtain ⟨kf, rfl⟩ : ∃ k, kf = k + 1 := ⟨kf - 1, by omega⟩
    rw [show M_remove_128 nf (kf + 1) = M_remove_128b (M_remove_128 nf kf) nf from rfl]
    unfold M_remove_128b
    rw [zgd hB (by omega), nI_clamp (by omega), h21, brF (nI_nlt (by omega) (by omega)), hW.slotAt hl hF (by omega), obnd3_some, zgd (by omega) (by omega), nI_clamp (by omega), bnd_eq, bnd_eq, show nI t + (1 : Int32) = nI (t + 1) from nI_add t 1]
    have o1 : offA 1 arm (va_up arm 1 (upd (arm 1) (sa G l t) (vp_nar .byte (-27)))) := fun j hj => va_up_off hj
    obtain ⟨arm', s1, s2, s3⟩ := ih (t + 1) kf _ (wr d (sa G l t) 1 229) (by omega) (by omega) ⟨RD_byte hW.1, hW.2⟩ (fun q hq => by rw [o1 30 (by decide)]; exact hF q hq) (by rw [o1 21 (by decide)]; exact h21)
    exact ⟨arm', s1, s2, o1.tr s3⟩
theorem remM_loop {nf : Nat} {G : Geo} {fm : FI} {l fl : List Nat} {B e np : Nat} (hB : B < 16400) (hl : clu G l) (he : e < l.length * (16 * G.c)) (hnp : np ≤ e) (hnp2 : np ≤ 20) (hfl : clu G fl) (h31 : fm 31 = nI fl.length) (hnf : 600 ≤ nf) : ∀ (m j kf : Nat) (arm : AR) (d : Nat → Nat), j + m = fl.length → m < kf → RW fm arm G d → (∀ p, d p < 256) → FOL arm l → arm 21 B = nI e → arm 22 B = nI np → (∀ q, q < fl.length → arm 29 q = nI (fl.getD q 0)) → ∃ arm', M_remove_89 nf kf (nI B) (nI j) fm arm = some ((), va_up fm 15 0, arm') ∧ RD arm' (rmS (sa G l) (e - np) (np + 1) (frs G d (fl.drop j))) ∧ offA 1 arm arm' := by
  have hlk := hfl.len
  intro m
  induction m with
  | zero =>
    intro j kf arm d hj hk hW hb hF h21 h22 h29
    have b := hW.2.2.b
    have b0 := (slot_in hW.2.2 hl he).2.2.2
    obtain ⟨kf, rfl⟩ : ∃ k, kf = k + 1 := ⟨kf - 1, by omega⟩
    rw [show M_remove_89 nf (kf + 1) = M_remove_89b (M_remove_89 nf kf) nf from rfl]
    unfold M_remove_89b
    rw [h31, brT (nI_le (by omega) (by omega)), zgd hB (by omega), zgd hB (by omega), nI_clamp (by omega), bnd_eq, h21, h22, nI_sub hnp, show fl.drop j = [] from List.drop_eq_nil_of_le (by omega)]
    exact remM_slots hB hl he (np + 1) (e - np) nf arm d (by omega) (by omega) hW hF h21
  | succ m ih =>
    intro j kf arm d hj hk hW hb hF h21 h22 h29
    have b := hW.2.2.b
    have hj2 : j < fl.length := by omega
    have hxC := hfl.2 _ (getD_mem hj2)
    obtain ⟨kf, rfl⟩ : ∃ k, kf = k + 1 := ⟨kf - 1, by omega⟩
    rw [show M_remove_89 nf (kf + 1) = M_remove_89b (M_remove_89 nf kf) nf from rfl]
    unfold M_remove_89b
    obtain ⟨arm1, r1, r2, r3⟩ := setEntry_ok (nf := nf) hW hb (x := fl.getD j 0) (v := 0) (by omega) (by omega) (by omega)
    have r1' : M_setEntry nf fm arm (nI (fl.getD j 0)) 0 = some ((), fm, arm1) := r1
    rw [h31, brF (nI_ge (by omega) (by omega)), zgd (by omega) (by omega), nI_clamp (by omega), h29 j hj2, r1', obnd3_some, bnd_eq, show nI j + (1 : Int32) = nI (j + 1) from nI_add j 1]
    obtain ⟨arm', s1, s2, s3⟩ := ih (j + 1) kf arm1 _ (by omega) (by omega) r2 (stE_lt hb _ _) (fun q hq => by rw [r3 30 (by decide)]; exact hF q hq) (by rw [r3 21 (by decide)]; exact h21) (by rw [r3 22 (by decide)]; exact h22) (fun q hq => by rw [r3 29 (by decide)]; exact h29 q hq)
    refine ⟨arm', s1, ?_, r3.tr s3⟩
    have e : fl.drop j = fl.getD j 0 :: fl.drop (j + 1) := by
      rw [List.drop_eq_getElem_cons hj2, List.getD_eq_getElem?_getD, List.getElem?_eq_getElem hj2]; rfl
    rw [e]; exact s2
