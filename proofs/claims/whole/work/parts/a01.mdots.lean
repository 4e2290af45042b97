/-! the model's points -/
theorem mdots_loop {nf : Nat} {fi : FI} {ar : AR} {d : Nat → Nat} {p i s F : Nat} (hd : RD ar d) (hp : p + 32 ≤ 524288) (hs : s < 2) (hi0 : 0 < i) (hi : i < 16400) (hF : F < 4294967296) (hself : s = 0 → M_beginOf nf fi ar (nI i) = some (nI F, fi, ar)) (hpar : s = 1 → ∃ q, q < 16400 ∧ ar 23 i = nI q ∧ ((q = 0 ∧ F = 0) ∨ (q ≠ 0 ∧ M_beginOf nf fi ar (nI q) = some (nI F, fi, ar)))) : ∀ (m t kf : Nat), t + m = 11 → m < kf → (((∀ j, j < 11 → t ≤ j → d (p + j) = if j ≤ s then 46 else 32) ∧ d (p + 11) = 16 ∧ fcl d p = F) → M_dots_3 nf kf (nI p) (nI i) (nI s) (nI t) fi ar = some (1, fi, ar)) ∧ (¬ ((∀ j, j < 11 → t ≤ j → d (p + j) = if j ≤ s then 46 else 32) ∧ d (p + 11) = 16 ∧ fcl d p = F) → M_dots_3 nf kf (nI p) (nI i) (nI s) (nI t) fi ar = some (0, fi, ar)) := by
  have b11 := hd.lt (show p + 11 < 524288 by omega)
  have bf : fcl d p < 4294967296 := by
    have h1 := twR_lt hd (show p + 20 + 1 < 524288 by omega)
    have h2 := twR_lt hd (show p + 26 + 1 < 524288 by omega)
    unfold fcl; omega
  intro m
  induction m with
  | zero =>
    intro t kf ht hk
    obtain ⟨kf, rfl⟩ : ∃ k, kf = k + 1 := ⟨kf - 1, by omega⟩
    have hall : ∀ j, j < 11 → t ≤ j → d (p + j) = if j ≤ s then 46 else 32 := fun j a b => by omega
    have key : M_dots_3 nf (kf + 1) (nI p) (nI i) (nI s) (nI t) fi ar = if d (p + 11) = 16 ∧ fcl d p = F then some (1, fi, ar) else some (0, fi, ar) := by
      rw [show M_dots_3 nf (kf + 1) = M_dots_3b (M_dots_3 nf kf) nf from rfl]
      have k95 : M_dots_95 nf (nI (fcl d p)) (nI F) fi ar = if fcl d p = F then some (1, fi, ar) else some (0, fi, ar) := by
        unfold M_dots_95 M_dots_102 M_dots_103
        rw [zeq bf hF, zbit1, zbit0]
      unfold M_dots_3b
      rw [show (11 : Int32) = nI 11 from rfl, zle (by omega) (by omega), if_pos (by omega), nI_add, M_one_eq hd (by omega), obnd3_some, show (16 : Int32) = nI 16 from rfl, zeq (by omega) (by omega)]
      by_cases q1 : d (p + 11) = 16
      · rw [if_pos q1, M_firstOf_eq hd (by omega), obnd3_some]
        have hfin : (if d (p + 11) = 16 ∧ fcl d p = F then some ((1 : Int32), fi, ar) else some (0, fi, ar)) = if fcl d p = F then some (1, fi, ar) else some (0, fi, ar) := by
          by_cases w : fcl d p = F
          · rw [if_pos w, if_pos (And.intro q1 w)]
          · rw [if_neg w, if_neg (fun z => w z.2)]
        rw [hfin, ← k95]
        by_cases q2 : s = 0
        · rw [q2, brT (show nI 0 = (0 : Int32) from rfl), hself q2, obnd3_some]
        · have hs1 : s = 1 := by omega
          obtain ⟨q, w1, w2, w3⟩ := hpar hs1
          rw [hs1, brF (show ¬ nI 1 = (0 : Int32) by decide), zgd (by omega) (by omega), nI_clamp (by omega), w2]
          rcases w3 with ⟨w4, w5⟩ | ⟨w4, w5⟩
          · rw [w4, brT (show nI 0 = (0 : Int32) from rfl), w5]; rfl
          · rw [brF (nI_ne0 (by omega) (by omega)), zgdc (by omega) (by omega), w5, obnd3_some]
      · rw [if_neg q1, if_neg (fun z => q1 z.1)]
        unfold M_dots_102 M_dots_103
        rw [zbit0]
    rw [key]
    refine ⟨fun w => if_pos w.2, fun w => if_neg (fun z => w ⟨hall, z⟩)⟩
  | succ m ih =>
    intro t kf ht hk
    obtain ⟨kf, rfl⟩ : ∃ k, kf = k + 1 := ⟨kf - 1, by omega⟩
    have g := ih (t + 1) kf (by omega) (by omega)
    have bt := hd.lt (show p + t < 524288 by omega)
    obtain ⟨v, hv⟩ : ∃ v, v = (if t ≤ s then 46 else 32) := ⟨_, rfl⟩
    have hvb : v < 100 := by rw [hv]; split <;> omega
    have e : M_dots_3 nf (kf + 1) (nI p) (nI i) (nI s) (nI t) fi ar = if d (p + t) = v then M_dots_3 nf kf (nI p) (nI i) (nI s) (nI (t + 1)) fi ar else some (0, fi, ar) := by
      rw [show M_dots_3 nf (kf + 1) = M_dots_3b (M_dots_3 nf kf) nf from rfl]
      unfold M_dots_3b M_dots_31
      rw [show (11 : Int32) = nI 11 from rfl, zle (by omega) (by omega), if_neg (by omega), nI_add, M_one_eq hd (by omega), obnd3_some, zlt (by omega) (by omega), nI_1]
      by_cases q0 : t ≤ s
      · rw [if_pos q0] at hv
        rw [if_neg (by omega), hv, show (46 : Int32) = nI 46 from rfl, zeq (by omega) (by omega), bnd_eq]
      · rw [if_neg q0] at hv
        rw [if_pos (by omega), hv, show (32 : Int32) = nI 32 from rfl, zeq (by omega) (by omega), bnd_eq]
    rw [e]
    by_cases q : d (p + t) = v
    · rw [if_pos q]
      have hiff : ((∀ j, j < 11 → t ≤ j → d (p + j) = if j ≤ s then 46 else 32) ∧ d (p + 11) = 16 ∧ fcl d p = F) ↔ ((∀ j, j < 11 → t + 1 ≤ j → d (p + j) = if j ≤ s then 46 else 32) ∧ d (p + 11) = 16 ∧ fcl d p = F) := by
        rw [allT (show t < 11 by omega)]
        exact ⟨fun w => ⟨w.1.2, w.2⟩, fun w => ⟨⟨by rw [← hv]; exact q, w.1⟩, w.2⟩⟩
      exact ⟨fun w => g.1 (hiff.mp w), fun w => g.2 (fun z => w (hiff.mpr z))⟩
    · rw [if_neg q]
      exact ⟨fun w => absurd (by have := w.1 t (by omega) (Nat.le_refl _); rw [← hv] at this; exact this) q, fun _ => rfl⟩
theorem M_dots_eq {nf : Nat} {fi : FI} {ar : AR} {d : Nat → Nat} {p i s F : Nat} (hd : RD ar d) (hp : p + 32 ≤ 524288) (hs : s < 2) (hi0 : 0 < i) (hi : i < 16400) (hF : F < 4294967296) (hself : s = 0 → M_beginOf nf fi ar (nI i) = some (nI F, fi, ar)) (hpar : s = 1 → ∃ q, q < 16400 ∧ ar 23 i = nI q ∧ ((q = 0 ∧ F = 0) ∨ (q ≠ 0 ∧ M_beginOf nf fi ar (nI q) = some (nI F, fi, ar)))) (hnf : 20 ≤ nf) : M_dots nf fi ar (nI p) (nI i) (nI s) = some ((if pts d p s F then 1 else 0), fi, ar) := by
  have g := mdots_loop hd hp hs hi0 hi hF hself hpar 11 0 nf (by omega) (by omega)
  have hiff : ((∀ j, j < 11 → 0 ≤ j → d (p + j) = if j ≤ s then 46 else 32) ∧ d (p + 11) = 16 ∧ fcl d p = F) ↔ pts d p s F := ⟨fun w => ⟨fun i hi => w.1 i hi (Nat.zero_le _), w.2⟩, fun w => ⟨fun i hi _ => w.1 i hi, w.2⟩⟩
  have e : M_dots nf fi ar (nI p) (nI i) (nI s) = M_dots_3 nf nf (nI p) (nI i) (nI s) (nI 0) fi ar := rfl
  rw [e]
  by_cases q : pts d p s F
  · rw [if_pos q]; exact g.1 (hiff.mpr q)
  · rw [if_neg q]; exact g.2 (fun w => q (hiff.mp w))
