/-! chains without marks -/
def lnk (G : Geo) (d : Nat → Nat) : Nat → List Nat → Prop
  | _, [] => False
  | x, y :: l => x = y ∧ isC G x ∧ ((l = [] ∧ 268435448 ≤ ent G d x) ∨ (ent G d x ≠ 0 ∧ ent G d x < 268435448 ∧ lnk G d (ent G d x) l))
theorem lnk_det {G : Geo} {d : Nat → Nat} : ∀ (l l' : List Nat) (x : Nat), lnk G d x l → lnk G d x l' → l = l' := by
  intro l
  induction l with
  | nil => intro l' x h; exact absurd h (by simp [lnk])
  | cons y l ih =>
    intro l' x h h'
    cases l' with
    | nil => exact absurd h' (by simp [lnk])
    | cons y' l' =>
      obtain ⟨rfl, hc, h⟩ := h
      obtain ⟨rfl, hc', h'⟩ := h'
      rcases h with ⟨h1, h2⟩ | ⟨h1, h2, h3⟩
      · rcases h' with ⟨g1, g2⟩ | ⟨g1, g2, g3⟩
        · rw [h1, g1]
        · omega
      · rcases h' with ⟨g1, g2⟩ | ⟨g1, g2, g3⟩
        · omega
        · rw [ih l' _ h3 g3]
theorem lnk_isC {G : Geo} {d : Nat → Nat} : ∀ (l : List Nat) (x : Nat), lnk G d x l → ∀ y, y ∈ l → isC G y := by
  intro l
  induction l with
  | nil => intro x h; exact absurd h (by simp [lnk])
  | cons z l ih =>
    intro x h y hy
    obtain ⟨rfl, hc, h⟩ := h
    rcases List.mem_cons.mp hy with e | e
    · rw [e]; exact hc
    · rcases h with ⟨h1, h2⟩ | ⟨h1, h2, h3⟩
      · rw [h1] at e; exact absurd e (by simp)
      · exact ih _ h3 y e
theorem lnk_suf {G : Geo} {d : Nat → Nat} : ∀ (l : List Nat) (x : Nat), lnk G d x l → ∀ y, y ∈ l → ∃ l2, lnk G d y l2 ∧ l2.length ≤ l.length := by
  intro l
  induction l with
  | nil => intro x h; exact absurd h (by simp [lnk])
  | cons z l ih =>
    intro x h y hy
    have h0 := h
    obtain ⟨rfl, hc, h⟩ := h
    rcases List.mem_cons.mp hy with e | e
    · rw [e]; exact ⟨_, h0, Nat.le_refl _⟩
    · rcases h with ⟨h1, h2⟩ | ⟨h1, h2, h3⟩
      · rw [h1] at e; exact absurd e (by simp)
      · obtain ⟨l2, g1, g2⟩ := ih _ h3 y e
        exact ⟨l2, g1, by simp only [List.length_cons]; omega⟩
theorem lnk_nodup {G : Geo} {d : Nat → Nat} : ∀ (l : List Nat) (x : Nat), lnk G d x l → l.Nodup := by
  intro l
  induction l with
  | nil => intro x h; exact List.nodup_nil
  | cons z l ih =>
    intro x h
    have h0 := h
    obtain ⟨rfl, hc, h⟩ := h
    rcases h with ⟨h1, h2⟩ | ⟨h1, h2, h3⟩
    · rw [h1]; simp
    · refine List.nodup_cons.mpr ⟨fun hm => ?_, ih _ h3⟩
      obtain ⟨l2, g1, g2⟩ := lnk_suf _ _ h3 _ hm
      have := lnk_det _ _ _ h0 g1
      rw [← this] at g2
      simp only [List.length_cons] at g2
      omega
theorem lnk_clu {G : Geo} {d : Nat → Nat} {l : List Nat} {x : Nat} (h : lnk G d x l) : clu G l := ⟨lnk_nodup l x h, lnk_isC l x h⟩
theorem chS_of {G : Geo} {d : Nat → Nat} : ∀ (f : Nat) (ms : List Nat) (x : Nat) (l : List Nat), chS G d f ms x = some l → lnk G d x l ∧ ∀ y, y ∈ l → y ∉ ms := by
  intro f
  induction f with
  | zero => intro ms x l h; exact absurd h (by simp [chS])
  | succ f ih =>
    intro ms x l h
    rw [chS] at h
    by_cases q : isC G x ∧ x ∉ ms ∧ ent G d x ≠ 0
    · rw [if_pos q] at h
      by_cases q2 : ent G d x < 268435448
      · rw [if_pos q2] at h
        cases hr : chS G d f (x :: ms) (ent G d x) with
        | none => rw [hr] at h; exact absurd h (by simp)
        | some t =>
          rw [hr] at h
          obtain rfl : x :: t = l := by simpa using h
          obtain ⟨g1, g2⟩ := ih _ _ _ hr
          refine ⟨⟨rfl, q.1, Or.inr ⟨q.2.2, q2, g1⟩⟩, fun y hy => ?_⟩
          rcases List.mem_cons.mp hy with e | e
          · rw [e]; exact q.2.1
          · exact fun hm => g2 y e (List.mem_cons_of_mem _ hm)
      · rw [if_neg q2] at h
        obtain rfl : [x] = l := by simpa using h
        refine ⟨⟨rfl, q.1, Or.inl ⟨rfl, by omega⟩⟩, fun y hy => ?_⟩
        rw [List.mem_singleton.mp hy]; exact q.2.1
    · rw [if_neg q] at h; exact absurd h (by simp)
theorem chS_to {G : Geo} {d : Nat → Nat} : ∀ (f : Nat) (ms : List Nat) (x : Nat) (l : List Nat), lnk G d x l → l.length ≤ f → (∀ y, y ∈ l → y ∉ ms) → chS G d f ms x = some l := by
  intro f
  induction f with
  | zero =>
    intro ms x l h hl
    cases l with
    | nil => exact absurd h (by simp [lnk])
    | cons y l => simp at hl
  | succ f ih =>
    intro ms x l h hl hm
    cases l with
    | nil => exact absurd h (by simp [lnk])
    | cons y l =>
      have hn := List.nodup_cons.mp (lnk_nodup _ _ h)
      obtain ⟨rfl, hc, h⟩ := h
      have hx := hm x List.mem_cons_self
      rw [chS]
      rcases h with ⟨h1, h2⟩ | ⟨h1, h2, h3⟩
      · rw [if_pos ⟨hc, hx, by omega⟩, if_neg (by omega), h1]
      · rw [if_pos ⟨hc, hx, h1⟩, if_pos h2, ih (x :: ms) _ l h3 (by simpa using hl) (fun y hy q => by
          rcases List.mem_cons.mp q with e | e
          · exact hn.1 (e ▸ hy)
          · exact hm y (List.mem_cons_of_mem _ hy) e)]
        rfl
theorem chS_iff {G : Geo} {d : Nat → Nat} {ms : List Nat} {x : Nat} {l : List Nat} : chS G d (G.k + 1) ms x = some l ↔ lnk G d x l ∧ ∀ y, y ∈ l → y ∉ ms :=
  ⟨chS_of _ _ _ _, fun h => chS_to _ _ _ _ h.1 (by have := (lnk_clu h.1).len; omega) h.2⟩
/-- the chain that begins with x -/
def cl (G : Geo) (d : Nat → Nat) (x : Nat) : List Nat := (chS G d (G.k + 1) [] x).getD []
theorem cl_of {G : Geo} {d : Nat → Nat} {x : Nat} {l : List Nat} (h : lnk G d x l) : cl G d x = l := by
  unfold cl
  rw [chS_iff.mpr ⟨h, fun _ _ => by simp⟩]; rfl
theorem lnk_cl {G : Geo} {d : Nat → Nat} {x : Nat} {l : List Nat} (h : lnk G d x l) : lnk G d x (cl G d x) := by rw [cl_of h]; exact h
theorem lnk_head {G : Geo} {d : Nat → Nat} {x : Nat} {l : List Nat} (h : lnk G d x l) : x ∈ l := by
  cases l with
  | nil => exact absurd h (by simp [lnk])
  | cons y l => rw [h.1]; exact List.mem_cons_self
theorem lnk_pos {G : Geo} {d : Nat → Nat} {x : Nat} {l : List Nat} (h : lnk G d x l) : 0 < l.length := List.length_pos_of_mem (lnk_head h)
/-- the chain of a file -/
def fc1 (G : Geo) (d : Nat → Nat) (p : Nat) : List Nat := if fo d (p + 28) = 0 then [] else cl G d (fcl d p)
def fOK (G : Geo) (d : Nat → Nat) (p : Nat) : Prop := (fo d (p + 28) = 0 ∧ fcl d p = 0) ∨ (fo d (p + 28) ≠ 0 ∧ fo d (p + 28) < 2147483648 ∧ lnk G d (fcl d p) (cl G d (fcl d p)) ∧ (cl G d (fcl d p)).length = cls G (fo d (p + 28)))
theorem fch_iff {G : Geo} {d : Nat → Nat} {ms : List Nat} {p : Nat} {l : List Nat} : fch G d ms p = some l ↔ fOK G d p ∧ l = fc1 G d p ∧ ∀ y, y ∈ l → y ∉ ms := by
  unfold fch fOK fc1
  by_cases h0 : fo d (p + 28) = 0
  · rw [if_pos h0, if_pos h0]
    by_cases h1 : fcl d p = 0
    · rw [if_pos h1]
      constructor
      · intro h
        obtain rfl : [] = l := by simpa using h
        exact ⟨Or.inl ⟨h0, h1⟩, rfl, fun y hy => absurd hy (by simp)⟩
      · intro h; rw [h.2.1]
    · rw [if_neg h1]
      exact ⟨fun h => absurd h (by simp), fun h => by rcases h.1 with h | h; exact absurd h.2 h1; exact absurd h0 h.1⟩
  · rw [if_neg h0, if_neg h0]
    by_cases h1 : fo d (p + 28) < 2147483648
    · rw [if_pos h1]
      cases hr : chS G d (G.k + 1) ms (fcl d p) with
      | none =>
        refine ⟨fun h => absurd h (by simp), fun h => ?_⟩
        rcases h.1 with g | g
        · exact absurd g.1 h0
        · have := chS_iff.mpr ⟨g.2.2.1, by rw [← h.2.1]; exact h.2.2⟩
          rw [hr] at this
          exact absurd this (by simp)
      | some t =>
        obtain ⟨g1, g2⟩ := chS_iff.mp hr
        have e := cl_of g1
        show (if t.length = cls G (fo d (p + 28)) then some t else none) = some l ↔ _
        rw [e]
        by_cases h2 : t.length = cls G (fo d (p + 28))
        · rw [if_pos h2]
          constructor
          · intro h
            obtain rfl : t = l := by simpa using h
            exact ⟨Or.inr ⟨h0, h1, g1, h2⟩, rfl, g2⟩
          · intro h; rw [h.2.1]
        · rw [if_neg h2]
          exact ⟨fun h => absurd h (by simp), fun h => by rcases h.1 with h | h; exact absurd h.1 h0; exact absurd h.2.2.2 h2⟩
    · rw [if_neg h1]
      exact ⟨fun h => absurd h (by simp), fun h => by rcases h.1 with h | h; exact absurd h.1 h0; exact absurd h.2.1 h1⟩
