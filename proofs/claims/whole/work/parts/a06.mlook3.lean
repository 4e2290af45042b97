/-! the model's look, item by item -/
/-- what the model knows after a look without fault -/
def KNW (fi : FI) (ar : AR) (G : Geo) (d : Nat → Nat) (ms : List Nat) : Prop := ∃ N U, LKS fi ar G d N N U ms
theorem scn_lt {G : Geo} {d A : Nat → Nat} {z : Nat} : ∀ m s ms, (scn G d A z m s ms).1 < 10 := by
  intro m
  induction m with
  | zero => intro s ms; rw [scn]; split <;> simp
  | succ m ih2 =>
    intro s ms
    rw [scn]
    split
    · split <;> simp
    · split
      · show lf _ _ _ _ < 10
        unfold lf
        split
        · split <;> decide
        · split
          · split
            · split <;> decide
            · decide
          · split
            · split <;> decide
            · decide
      · split
        · split
          · show 3 < 10; decide
          · exact ih2 _ _
        · exact ih2 _ _
theorem dirF_lt {G : Geo} {d : Nat → Nat} {l ms : List Nat} {f p : Nat} : (dirF G d l ms f p).1 < 10 := by
  unfold dirF
  split
  · show 4 < 10; decide
  · exact scn_lt _ _ _
theorem look_loop {nf : Nat} {G : Geo} {d : Nat → Nat} (hG : GOK G) (hnf : 40000 ≤ nf) : ∀ (m i kf n N U pf : Nat) (ms : List Nat) (fi : FI) (ar : AR), m + i = 16400 → m < kf → LKS fi ar G d i N U ms → pf ≤ ms.length → G.k + 2 ≤ n + pf → ∃ fi' ar', M_look_87 nf (kf + 1) (nI i) fi ar = some ((), fi', ar') ∧ fi' 16 = nI (endC G d (bfs G d n (qF ar d G.r i (N - i)) ms)) ∧ offF [16, 17, 18, 31, 32, 33, 35, 36, 37, 38] fi fi' ∧ offAs [19, 20, 21, 22, 23, 24, 25, 26, 27, 28, 29, 30, 34] ar ar' ∧ (endC G d (bfs G d n (qF ar d G.r i (N - i)) ms) = 0 → ∃ ms', KNW fi' ar' G d ms') := by
  have b' := hG.b
  have hcap : ∀ ms, clu G ms → 16 * G.c * ms.length ≤ 16384 := fun ms hc => by
    have h1 : 16 * G.c * ms.length ≤ 16 * G.c * G.k := Nat.mul_le_mul_left _ hc.len
    have h2 : 16 * G.c * G.k = 16 * (G.k * G.c) := by rw [Nat.mul_assoc, Nat.mul_comm G.c]
    omega
  intro m
  induction m with
  | zero =>
    intro i kf n N U pf ms fi ar hm hk hL hpf hn
    have := hcap ms hL.2.2.2.2.2.1
    have := hL.2.2.2.2.2.2.1
    omega
  | succ m ih =>
    intro i kf n N U pf ms fi ar hm hk hL hpf hn
    obtain ⟨hW, h17, h18, h16, hmk, hc, ⟨hiN, hN1, hNb, hUb⟩, hits, hTI, hi0, hir⟩ := id hL
    have hcp := hcap ms hc
    have hml := hc.len
    obtain ⟨n, rfl⟩ : ∃ k, n = k + 1 := ⟨n - 1, by omega⟩
    obtain ⟨kf, rfl⟩ : ∃ k, kf = k + 1 := ⟨kf - 1, by omega⟩
    rw [show M_look_87 nf (kf + 1 + 1) = M_look_87b (M_look_87 nf (kf + 1)) nf from rfl]
    unfold M_look_87b M_look_132
    rw [h17, zle (by omega) (by omega)]
    by_cases qe : N ≤ i
    · -- the end
      have hNi : N = i := by omega
      rw [if_pos qe, show N - i = 0 by omega]
      have eq : qF ar d G.r i 0 = [] := rfl
      rw [eq, bfs]
      unfold M_look_138
      obtain ⟨fi', r1, r2, r3⟩ := mlost_loop (nf := nf) (ms := ms) G.k 2 nf fi ar hW hmk (by omega) (by omega) (by omega) h16
      have r1' : M_look_140 nf nf 2 fi ar = _ := r1
      have ec : endC G d (0, ms) = if lst G d ms then 6 else 0 := by unfold endC; rw [if_neg (show ¬ (0, ms).1 ≠ 0 from fun w => w rfl)]
      refine ⟨fi', ar, r1', by rw [ec]; exact r2, r3.mono (by simp), offAs.rf, fun w => ⟨ms, N, U, ?_⟩⟩
      have h16' : fi' 16 = nI 0 := by
        rw [ec] at w
        rw [r2]
        congr 1
      refine ⟨hW.off r3 offAs.rf (T := []) (by simp) (by simp), by rw [r3 17 (by simp)]; exact h17, by rw [r3 18 (by simp)]; exact h18, h16', hmk, hc, ⟨Nat.le_refl _, hN1, hNb, hUb⟩, by rw [hNi] at hits ⊢; exact hits, by rw [hNi] at hTI ⊢; exact hTI, fun w => by omega, fun w => hir (by omega)⟩
    · have hiN2 : i < N := by omega
      rw [if_neg qe, h16, brT (show nI 0 = (0 : Int32) from rfl), zgd (by omega) (by omega), nI_clamp (by omega), bnd_eq, zgdc (by omega) (by omega), bnd_eq]
      obtain ⟨ar1, har1⟩ : ∃ a, a = va_up (va_up ar 25 (upd (ar 25) i (nI N))) 24 (upd (ar 24) i (nI 0)) := ⟨_, rfl⟩
      have e1 : va_up (va_up ar 25 (upd (ar 25) i (nI N))) 24 (upd ((va_up ar 25 (upd (ar 25) i (nI N))) 24) i 0) = ar1 := by rw [har1, va_up_off (show 24 ≠ 25 by decide)]; rfl
      rw [e1]
      have o1 : offAs [24, 25] ar ar1 := by rw [har1]; exact (offAs.rf.up (by simp)).up (by simp)
      have n25 : ∀ j, ar1 25 j = if j = i then nI N else ar 25 j := fun j => by rw [har1, va_up_off (by decide), va_up_self]; rfl
      have n24 : ∀ j, ar1 24 j = if j = i then nI 0 else ar 24 j := fun j => by rw [har1, va_up_self]; rfl
      have hW1 : RW fi ar1 G d := hW.off offF.rf o1 (S := []) (by simp) (by simp)
      have hA1 : AGR N ar ar1 := fun j _ => ⟨by rw [o1 20 (by simp)], by rw [o1 23 (by simp)]⟩
      have hq23 : ∀ j, j < N → j ≠ 0 → uv (ar 23 j) < N := fun j hj w => by have := (hits j (by omega) hj).2.1; omega
      rw [isFolder_eq hW1.1 (by omega) (fun w => by rw [hA1.p hiN2]; exact (hits i (by omega) hiN2).1), obnd3_some]
      have hqs : qF ar d G.r i (N - i) = (if drF ar d i then [(fsF ar d G.r i, prF ar d G.r i)] else []) ++ qF ar d G.r (i + 1) (N - (i + 1)) := by
        rw [show N - i = (N - (i + 1)) + 1 by omega, qF_cons]
      -- folders known before stay known
      have keepTI : ∀ (ar2 : AR) (N2 U2 : Nat), KP i N U ar ar2 → (∀ j, j ≠ i → ar2 25 j = ar 25 j) → N ≤ N2 → U ≤ U2 → ∀ j, j < i → drF ar2 d j → TI ar2 G d j (fsF ar2 d G.r j) N2 U2 := by
        intro ar2 N2 U2 hK h25 hN2 hU2 j hj hdr
        have hA2 : AGR N ar ar2 := fun j hj => ⟨hK.1 20 (by simp) j hj, hK.1 23 (by simp) j hj⟩
        have hdr' := (hA2.dr (show j < N by omega)).mp hdr
        obtain ⟨t1, t2, bb, tb, t3, t4, t5, t6⟩ := hTI j hj hdr'
        rw [hA2.fs (show j < N by omega)]
        refine ⟨t1, fun w => ⟨(t2 w).1, ?_⟩, bb, tb, by rw [h25 j (by omega)]; exact t3, by rw [hK.2.2 j (by omega)]; exact t4, by omega, t6.keep (by omega) hK hU2⟩
        rw [hA2.pr (by omega) (fun w => hq23 j (by omega) w)]; exact (t2 w).2
      by_cases qf : drF ar d i
      · have qf1 : drF ar1 d i := (hA1.dr hiN2).mpr qf
        rw [if_pos qf1, brF (by decide), hqs, if_pos qf, List.singleton_append]
        obtain ⟨f, hf⟩ : ∃ f, f = fsF ar d G.r i := ⟨_, rfl⟩
        obtain ⟨P, hP⟩ : ∃ P, P = prF ar d G.r i := ⟨_, rfl⟩
        rw [← hf, ← hP]
        have hbg : ∀ j, j < N → BG fi ar1 d G.r j (fsF ar d G.r j) := fun j hj => by
          unfold fsF
          by_cases w : j = 0
          · rw [if_pos w]; exact Or.inl ⟨w, rfl, hW.2.1.2.2.2.2.2.1⟩
          · rw [if_neg w]
            exact Or.inr ⟨w, pA ar j, by rw [o1 20 (by simp)]; exact (nI_uv _).symm, (hits j (by omega) hj).1, rfl⟩
        have hpar : i ≠ 0 → ∃ q, q < 16400 ∧ ar1 23 i = nI q ∧ ((q = 0 ∧ P = 0) ∨ (q ≠ 0 ∧ BG fi ar1 d G.r q P)) := fun w => by
          have h23 := hits i (by omega) hiN2
          refine ⟨uv (ar 23 i), by omega, by rw [o1 23 (by simp)]; exact (nI_uv _).symm, ?_⟩
          rw [hP]
          unfold prF
          by_cases z : uv (ar 23 i) = 0
          · exact Or.inl ⟨z, by rw [if_pos (Or.inr z)]⟩
          · refine Or.inr ⟨z, ?_⟩
            rw [if_neg (fun y => y.elim w z)]
            exact hbg _ (by omega)
        have hbgi := hbg i hiN2
        rw [← hf] at hbgi
        have hPb : P < 4294967296 := by
          by_cases w : i = 0
          · rw [hP]; unfold prF; rw [if_pos (Or.inl w)]; decide
          · obtain ⟨q, _, _, q3⟩ := hpar w
            rcases q3 with q3 | q3
            · rw [q3.2]; decide
            · exact q3.2.lt hW1.1 hG
        have hir2 : f ∉ ms → (i = 0 ↔ f = G.r) := by
          intro hne
          constructor
          · intro w; rw [hf]; unfold fsF; rw [if_pos w]
          · intro w
            apply Decidable.byContradiction
            intro w2
            exact hne (w ▸ hir (by omega))
        obtain ⟨fi2, ar2, s1, s2, s3, s4, s5⟩ := M_scan_ok (nf := nf) (par := P) hW1 (show i < 16400 by omega) hbgi hpar hir2 h17 h18 (by rw [n25, if_pos rfl]) (by rw [n24, if_pos rfl]) (hmk.off o1 (by simp)) hc h16 (fun w => (hi0 w).2.2) hNb hUb hPb hnf
        rw [s1, obnd3_some, bnd_eq, nI_1, bfs]
        have hK : KP i N U ar ar2 := KP.tr ⟨fun k hk j hj => by rw [o1 k (by simp at hk ⊢; omega)], fun j hj => by rw [o1 28 (by simp)], fun j hj => by rw [n24, if_neg hj]⟩ (Nat.le_refl _) s4
        have o12 : offAs [19, 20, 21, 22, 23, 24, 25, 26, 27, 28, 29, 30, 34] ar ar2 := offAs.tr (fun j hj => o1 j (fun w => hj (by simp at w ⊢; omega))) (fun j hj => s3 j (fun w => hj (by simp at w ⊢; omega)))
        rcases s5 with ⟨w1, w2⟩ | ⟨l, w1, w2, w3⟩
        · rw [w1]
          have ec : endC G d (3, ms) = 3 := by unfold endC; rw [if_pos (show (3, ms).1 ≠ 0 by simp)]
          rw [look_stop w2 (by omega) (by omega) (by omega)]
          refine ⟨fi2, ar2, rfl, by show fi2 16 = nI (endC G d (3, ms)); rw [ec]; exact w2, s2, o12, fun w => ?_⟩
          have w' : endC G d (3, ms) = 0 := w
          rw [ec] at w'; exact absurd w' (by decide)
        · rw [w1]
          simp only
          by_cases qr : (dirF G d l (l ++ ms) f P).1 = 0
          · obtain ⟨U', hX, hU', hUU⟩ := w3 qr
            obtain ⟨hl, hdis⟩ := chS_iff.mp w1
            have hlp := lnk_pos hl
            have hcl := cl_of hl
            have hn1 : (l ++ ms).Nodup := List.nodup_append.mpr ⟨lnk_nodup _ _ hl, hc.1, fun a ha b hb hab => hdis a ha (hab ▸ hb)⟩
            obtain ⟨z1, z2, z3⟩ := dirF_snd (show 1 ≤ G.c by omega) hl hn1 qr
            obtain ⟨y1, y2, y3⟩ := (dirF_iff (show 1 ≤ G.c by omega) hl hn1).mp qr
            rw [if_neg (fun w => w qr)]
            have eI : itm d (sa G l) (zf G f) (en d (sa G l) (l.length * (16 * G.c)) 0) = dI G d f := by unfold dI dE dA; rw [hcl]
            have eA : sa G l = dA G d f := by unfold dA; rw [hcl]
            rw [eI, eA] at hX
            obtain ⟨x1, x2, x3, x4, x5, x6, x7, x8⟩ := hX
            have hdl : (dI G d f).length ≤ l.length * (16 * G.c) := by
              rw [← eI]
              refine Nat.le_trans (itm_len _ _ _ _) ?_
              have := (zl_le (fun t => d (sa G l t)) (l.length * (16 * G.c)) 0).2
              unfold en; omega
            have hlen1 : ms.length + l.length ≤ (dirF G d l (l ++ ms) f P).2.1.length := by
              rw [z1.length_eq, List.length_append, List.length_append]; omega
            have hmulb : 16 * G.c * ms.length + l.length * (16 * G.c) ≤ 16 * G.c * (dirF G d l (l ++ ms) f P).2.1.length := by
              have e2 : 16 * G.c * ms.length + l.length * (16 * G.c) = 16 * G.c * (ms.length + l.length) := by rw [Nat.mul_add, Nat.mul_comm l.length]
              rw [e2]; exact Nat.mul_le_mul_left _ hlen1
            have hcp2 := hcap _ x8
            have hA2 : AGR N ar ar2 := fun j hj => ⟨hK.1 20 (by simp) j hj, hK.1 23 (by simp) j hj⟩
            have h25' : ∀ j, j ≠ i → ar2 25 j = ar 25 j := fun j hj => by rw [s3 25 (by simp), n25, if_neg hj]
            have hfi2 : fsF ar2 d G.r i = f := by rw [hA2.fs hiN2, hf]
            have hsl : ∀ e, e ∈ dI G d f → dA G d f e.1 + 32 ≤ 512 * G.n := fun e he => by
              have h1 := dI_lt he
              have h2 := dE_le G d f
              rw [hcl] at h2
              rw [← eA]
              exact (slot_in hG (lnk_clu hl) (show e.1 < l.length * (16 * G.c) by omega)).2.1
            have hPz : (if i = 0 then 0 else fsF ar2 d G.r i) = pz G f := by
              rw [hfi2]
              unfold pz
              have := hir2 (hdis f (lnk_head hl))
              by_cases w : i = 0
              · rw [if_pos w, if_pos (this.mp w)]
              · rw [if_neg w, if_neg (fun z => w (this.mpr z))]
            have hqn : qF ar2 d G.r N (dI G d f).length = (sub G d f).map (fun x => (x, pz G f)) := qF_new x2 (fun e he => by have := hsl e he; omega) (by omega) (by omega) hPz
            have hQ : qF ar d G.r (i + 1) (N - (i + 1)) ++ (dirF G d l (l ++ ms) f P).2.2.map (fun x => (x, pz G f)) = qF ar2 d G.r (i + 1) (N + (dI G d f).length - (i + 1)) := by
              rw [z3, ← hqn, ← hA2.q (show i + 1 + (N - (i + 1)) ≤ N by omega) hq23, show N + (dI G d f).length - (i + 1) = (N - (i + 1)) + (dI G d f).length by omega, qF_add, show i + 1 + (N - (i + 1)) = N by omega]
            rw [hQ]
            have hnew : ∀ q, q < (dI G d f).length → pA ar2 (N + q) + 32 ≤ 524288 ∧ uv (ar2 23 (N + q)) = i := fun q hq => by
              have h1 := x2 q hq
              have hem : (dI G d f).getD q (0, 0) ∈ dI G d f := by rw [List.getD_eq_getElem?_getD, List.getElem?_eq_getElem hq]; exact List.getElem_mem hq
              have h2 := hsl _ hem
              refine ⟨by rw [pA_nI h1.1 (by omega)]; omega, by rw [h1.2.2.2.1]; exact uv_nI (by omega)⟩
            have hdriv : drF ar2 d i := (hA2.dr hiN2).mpr qf
            have hzf : f ≠ G.r → i ≠ 0 := fun w w2 => w ((hir2 (hdis f (lnk_head hl))).mp w2)
            have hLK2 : LKS fi2 ar2 G d (i + 1) (N + (dI G d f).length) U' (dirF G d l (l ++ ms) f P).2.1 := by
              refine ⟨x1, x3, x4, by rw [w2, qr], x7, x8, ⟨by omega, by omega, by omega, by omega⟩, fun j hj0 hj => ?_, fun j hj hdr => ?_, fun w => by omega, fun _ => ?_⟩
              · by_cases hjN : j < N
                · have h1 := hits j hj0 hjN
                  rw [hA2.p hjN, (hA2 j hjN).2]
                  exact ⟨h1.1, h1.2.1, by omega, (hA2.dr (show uv (ar 23 j) < N by omega)).mpr h1.2.2.2⟩
                · have h1 := hnew (j - N) (by omega)
                  rw [show N + (j - N) = j by omega] at h1
                  rw [h1.2]
                  exact ⟨h1.1, by omega, by omega, hdriv⟩
              · by_cases hji : j = i
                · rw [hji, hfi2]
                  refine ⟨y1.1, fun w => ⟨fun z => w ((hir2 (hdis f (lnk_head hl))).mpr z), ?_⟩, N, hN1, x5, x6, Nat.le_refl _, x2⟩
                  rw [hA2.pr hiN2 (fun w => hq23 i hiN2 w), ← hP]
                  exact y2 (fun z => w ((hir2 (hdis f (lnk_head hl))).mpr z))
                · exact keepTI ar2 _ U' hK h25' (by omega) hUU j (by omega) hdr
              · refine z1.mem_iff.mpr (List.mem_append_right _ ?_)
                by_cases w : i = 0
                · refine List.mem_append_left _ ?_
                  rw [← (hir2 (hdis f (lnk_head hl))).mp w]; exact lnk_head hl
                · exact List.mem_append_right _ (hir (by omega))
            obtain ⟨fi', ar', g1, g2, g3, g4, g5⟩ := ih (i + 1) kf n (N + (dI G d f).length) U' (pf + 1) (dirF G d l (l ++ ms) f P).2.1 fi2 ar2 (by omega) (by omega) hLK2 (by omega) (by omega)
            exact ⟨fi', ar', g1, g2, s2.tr g3, o12.tr g4, g5⟩
          · have hz : (dirF G d l (l ++ ms) f P).1 ≠ 0 := qr
            rw [if_pos hz]
            have hcb : (dirF G d l (l ++ ms) f P).1 < 10 := dirF_lt
            have ec : endC G d ((dirF G d l (l ++ ms) f P).1, (dirF G d l (l ++ ms) f P).2.1) = (dirF G d l (l ++ ms) f P).1 := by unfold endC; rw [if_pos hz]
            rw [look_stop w2 (by omega) hcb (by omega), ec]
            exact ⟨fi2, ar2, rfl, w2, s2, o12, fun w => absurd w hz⟩
      · have qf1 : ¬ drF ar1 d i := fun w => qf ((hA1.dr hiN2).mp w)
        rw [if_neg qf1, brT rfl, hqs, if_neg qf, List.nil_append, bnd_eq, nI_1]
        have hi0' : i ≠ 0 := fun w => qf (Or.inl w)
        have hK1 : KP i N U ar ar1 := ⟨fun k hk j hj => by rw [o1 k (by simp at hk ⊢; omega)], fun j hj => by rw [o1 28 (by simp)], fun j hj => by rw [n24, if_neg hj]⟩
        have hLK1 : LKS fi ar1 G d (i + 1) N U ms := by
          refine ⟨hW1, h17, h18, h16, hmk.off o1 (by simp), hc, ⟨by omega, hN1, hNb, hUb⟩, fun j hj0 hj => ?_, fun j hj hdr => ?_, fun w => by omega, fun _ => hir (by omega)⟩
          · have h1 := hits j hj0 hj
            rw [hA1.p hj, (hA1 j hj).2]
            exact ⟨h1.1, h1.2.1, by omega, (hA1.dr (show uv (ar 23 j) < N by omega)).mpr h1.2.2.2⟩
          · by_cases hji : j = i
            · rw [hji] at hdr; exact absurd hdr qf1
            · exact keepTI ar1 N U hK1 (fun j hj => by rw [n25, if_neg hj]) (Nat.le_refl _) (Nat.le_refl _) j (by omega) hdr
        obtain ⟨fi', ar', g1, g2, g3, g4, g5⟩ := ih (i + 1) kf (n + 1) N U pf ms fi ar1 (by omega) (by omega) hLK1 hpf hn
        rw [hA1.q (show i + 1 + (N - (i + 1)) ≤ N by omega) hq23] at g2 g5
        exact ⟨fi', ar', g1, g2, g3, offAs.tr (fun j hj => o1 j (fun w => hj (by simp at w ⊢; omega))) g4, g5⟩
