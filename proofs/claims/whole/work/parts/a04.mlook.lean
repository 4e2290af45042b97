/-! the model looks through a volume -/
theorem mlost_loop {nf : Nat} {G : Geo} {d : Nat → Nat} {ms : List Nat} : ∀ (m x kf : Nat) (fi : FI) (ar : AR), RW fi ar G d → mkR ar ms → x + m = G.k + 2 → 2 ≤ x → m + 1 < kf → fi 16 = nI 0 → ∃ fi', M_look_140 nf kf (nI x) fi ar = some ((), fi', ar) ∧ fi' 16 = nI (if ∃ y, y < G.k + 2 ∧ x ≤ y ∧ ent G d y ≠ 0 ∧ y ∉ ms then 6 else 0) ∧ offF [16] fi fi' := by
  intro m
  induction m with
  | zero =>
    intro x kf fi ar h hm hx h2 hk h16
    have b := h.2.2.b
    obtain ⟨kf, rfl⟩ : ∃ k, kf = k + 1 := ⟨kf - 1, by omega⟩
    refine ⟨fi, ?_, by rw [if_neg (fun w => by obtain ⟨y, y1, y2, _⟩ := w; omega)]; exact h16, offF.rf⟩
    rw [show M_look_140 nf (kf + 1) = M_look_140b (M_look_140 nf kf) nf from rfl]
    unfold M_look_140b M_look_186
    rw [h.2.1.2.2.2.2.2.2.2, show nI G.k + (2 : Int32) = nI (G.k + 2) from nI_add _ 2, zle (by omega) (by omega), if_pos (by omega)]
  | succ m ih =>
    intro x kf fi ar h hm hx h2 hk h16
    have b := h.2.2.b
    have he := ent_lt G d x
    obtain ⟨kf, rfl⟩ : ∃ k, kf = k + 2 := ⟨kf - 2, by omega⟩
    have step : ¬ (ent G d x ≠ 0 ∧ x ∉ ms) → ∃ fi', M_look_140 nf (kf + 1) (nI (x + 1)) fi ar = some ((), fi', ar) ∧ fi' 16 = nI (if ∃ y, y < G.k + 2 ∧ x ≤ y ∧ ent G d y ≠ 0 ∧ y ∉ ms then 6 else 0) ∧ offF [16] fi fi' := by
      intro hno
      obtain ⟨fi', r1, r2, r3⟩ := ih (x + 1) (kf + 1) fi ar h hm (by omega) (by omega) (by omega) h16
      refine ⟨fi', r1, ?_, r3⟩
      rw [r2]
      have hiff : (∃ y, y < G.k + 2 ∧ x + 1 ≤ y ∧ ent G d y ≠ 0 ∧ y ∉ ms) ↔ (∃ y, y < G.k + 2 ∧ x ≤ y ∧ ent G d y ≠ 0 ∧ y ∉ ms) := by
        constructor
        · rintro ⟨y, a, b, c⟩; exact ⟨y, a, by omega, c⟩
        · rintro ⟨y, a, b, c⟩
          by_cases e : y = x
          · rw [e] at c; exact absurd c hno
          · exact ⟨y, a, by omega, c⟩
      rw [iteC hiff (fun _ => rfl)]
    have unf : M_look_140 nf (kf + 2) (nI x) fi ar = br (nI (ent G d x) = 0) (M_look_140 nf (kf + 1) (nI (x + 1)) fi ar) (br (ar 19 x = 0) (M_look_140 nf (kf + 1) (nI (x + 1)) (va_up fi 16 6) ar) (M_look_140 nf (kf + 1) (nI (x + 1)) fi ar)) := by
      rw [show M_look_140 nf (kf + 2) = M_look_140b (M_look_140 nf (kf + 1)) nf from rfl]
      unfold M_look_140b M_look_180
      rw [h.2.1.2.2.2.2.2.2.2, show nI G.k + (2 : Int32) = nI (G.k + 2) from nI_add _ 2, zle (by omega) (by omega), if_neg (by omega), h16, brT (show nI 0 = (0 : Int32) from rfl), h.entry (by omega), obnd3_some, zgd (by omega) (by omega), nI_clamp (by omega), bnd_eq, bnd_eq, bnd_eq, nI_1]
    rw [unf]
    by_cases q1 : ent G d x = 0
    · rw [brT (show nI (ent G d x) = (0 : Int32) by rw [q1]; rfl)]
      exact step (fun w => w.1 q1)
    · rw [brF (show ¬ nI (ent G d x) = (0 : Int32) from nI_ne0 (by omega) (by omega))]
      by_cases q2 : x ∈ ms
      · rw [brF (fun w => ((hm x (by omega)).mp w) q2)]
        exact step (fun w => w.2 q2)
      · rw [brT ((hm x (by omega)).mpr q2), if_pos ⟨x, by omega, Nat.le_refl _, q1, q2⟩]
        refine ⟨va_up fi 16 6, ?_, va_up_self _ _ _, offF.rf.up (by simp)⟩
        rw [show M_look_140 nf (kf + 1) = M_look_140b (M_look_140 nf kf) nf from rfl]
        unfold M_look_140b M_look_186
        have h13 : (va_up fi 16 (6 : Int32)) 13 = nI G.k := by rw [va_up_off (by decide)]; exact h.2.1.2.2.2.2.2.2.2
        rw [va_up_self, brF (show ¬ (6 : Int32) = 0 by decide)]
        unfold br
        split <;> rfl
/-- item j of the model: where its entry lies, whether it is a folder, its first cluster, what its ".." must tell -/
def pA (ar : AR) (j : Nat) : Nat := uv (ar 20 j)
abbrev drF (ar : AR) (d : Nat → Nat) (j : Nat) : Prop := j = 0 ∨ isDr d (pA ar j)
def fsF (ar : AR) (d : Nat → Nat) (r j : Nat) : Nat := if j = 0 then r else fcl d (pA ar j)
def prF (ar : AR) (d : Nat → Nat) (r j : Nat) : Nat := if j = 0 ∨ uv (ar 23 j) = 0 then 0 else fsF ar d r (uv (ar 23 j))
def qF (ar : AR) (d : Nat → Nat) (r i n : Nat) : List (Nat × Nat) := ((List.range' i n).filter (fun j => decide (drF ar d j))).map (fun j => (fsF ar d r j, prF ar d r j))
/-- what the model knows of folder j, which begins with f -/
def TI (ar : AR) (G : Geo) (d : Nat → Nat) (j f N U : Nat) : Prop := lnk G d f (cl G d f) ∧ (j ≠ 0 → f ≠ G.r ∧ pts d (dA G d f 1) 1 (prF ar d G.r j)) ∧ ∃ b, 1 ≤ b ∧ ar 25 j = nI b ∧ ar 24 j = nI (dI G d f).length ∧ b + (dI G d f).length ≤ N ∧ MIT ar d (dA G d f) b j (dI G d f) U
def LKS (fi : FI) (ar : AR) (G : Geo) (d : Nat → Nat) (i N U : Nat) (ms : List Nat) : Prop := RW fi ar G d ∧ fi 17 = nI N ∧ fi 18 = nI U ∧ fi 16 = nI 0 ∧ mkR ar ms ∧ clu G ms ∧ (i ≤ N ∧ 1 ≤ N ∧ N ≤ 1 + 16 * G.c * ms.length ∧ U ≤ 13 * (16 * G.c * ms.length)) ∧ (∀ j, 0 < j → j < N → pA ar j + 32 ≤ 524288 ∧ uv (ar 23 j) < j ∧ uv (ar 23 j) < i ∧ drF ar d (uv (ar 23 j))) ∧ (∀ j, j < i → drF ar d j → TI ar G d j (fsF ar d G.r j) N U) ∧ (i = 0 → N = 1 ∧ ms = [] ∧ LBL fi 0) ∧ (0 < i → G.r ∈ ms)
theorem pA_nI {ar : AR} {j p : Nat} (h : ar 20 j = nI p) (hp : p < 4294967296) : pA ar j = p := by unfold pA; rw [h]; exact uv_nI (by omega)
theorem isFolder_eq {nf : Nat} {fi : FI} {ar : AR} {d : Nat → Nat} {j : Nat} (hd : RD ar d) (hj : j < 16400) (hp : j ≠ 0 → pA ar j + 32 ≤ 524288) : M_isFolder nf fi ar (nI j) = some ((if drF ar d j then 1 else 0), fi, ar) := by
  unfold M_isFolder M_isFolder_23 M_isFolder_28
  by_cases q : j = 0
  · rw [q, brT (show nI 0 = (0 : Int32) from rfl), zbit1, if_pos (Or.inl rfl)]
  · have h32 := hp q
    have e20 : ar 20 j = nI (pA ar j) := (nI_uv _).symm
    have b11 := hd.lt (show pA ar j + 11 < 524288 by omega)
    rw [brF (nI_ne0 (by omega) (by omega)), zgd (by omega) (by omega), nI_clamp (by omega), e20, show nI (pA ar j) + (11 : Int32) = nI (pA ar j + 11) from nI_add _ 11, M_one_eq hd (by omega), obnd3_some, zbit16 b11, zbit1, zbit0]
    by_cases w : d (pA ar j + 11) / 16 % 2 = 1
    · rw [if_pos (show drF ar d j from Or.inr w), w, brF (by decide)]
    · rw [if_neg (show ¬ drF ar d j from fun z => z.elim q w), (Nat.mod_two_eq_zero_or_one _).resolve_right w, brT (show nI (0 * 16) = (0 : Int32) from rfl)]
theorem look_stop {nf : Nat} {fi : FI} {ar : AR} {c i kf : Nat} (h : fi 16 = nI c) (h0 : 0 < c) (hc : c < 10) (hnf : 1 ≤ nf) : M_look_87 nf (kf + 1) (nI i) fi ar = some ((), fi, ar) := by
  have hne : ¬ nI c = (0 : Int32) := nI_ne0 h0 (by omega)
  have k138 : M_look_138 nf fi ar = some ((), fi, ar) := by
    obtain ⟨k, rfl⟩ : ∃ k, nf = k + 1 := ⟨nf - 1, by omega⟩
    unfold M_look_138
    rw [show M_look_140 (k + 1) (k + 1) = M_look_140b (M_look_140 (k + 1) k) (k + 1) from rfl]
    unfold M_look_140b M_look_186
    rw [h, brF hne]
    unfold br
    split <;> rfl
  rw [show M_look_87 nf (kf + 1) = M_look_87b (M_look_87 nf kf) nf from rfl]
  unfold M_look_87b
  rw [h, brF hne, k138]
  unfold br
  split <;> rfl
