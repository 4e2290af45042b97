
/-! pure words of the extracted programs: naming, binding, guards, branches -/
def bnd {α β : Type} (e : α) (f : α → β) : β := f e
theorem bnd_of {α β : Type} {e : α} {f : α → β} {r : β} (h : bnd e f = r) {x : α} (hx : x = e) : f x = r := by subst hx; exact h
def obnd {α β : Type} (o : Option α) (f : α → Option β) : Option β := match o with
  | none => none
  | some a => f a
theorem obnd_of {α β : Type} {o : Option α} {f : α → Option β} {r : β} (h : obnd o f = some r) : ∃ a, o = some a ∧ f a = some r := by
  cases o with
  | none => cases h
  | some a => exact ⟨a, rfl, h⟩
def gd {β : Type} (p : Prop) [Decidable p] (k : Option β) : Option β := if p then k else none
theorem gd_of {β : Type} {p : Prop} [Decidable p] {k : Option β} {r : β} (h : gd p k = some r) : p ∧ k = some r := by
  unfold gd at h
  by_cases hp : p
  · rw [if_pos hp] at h; exact ⟨hp, h⟩
  · rw [if_neg hp] at h; cases h
def br {β : Type} (p : Prop) [Decidable p] (a b : Option β) : Option β := if p then a else b
theorem br_yes {β : Type} {p : Prop} [Decidable p] {a b r : Option β} (h : br p a b = r) (hp : p) : a = r := by unfold br at h; rw [if_pos hp] at h; exact h
theorem br_no {β : Type} {p : Prop} [Decidable p] {a b r : Option β} (h : br p a b = r) (hp : ¬ p) : b = r := by unfold br at h; rw [if_neg hp] at h; exact h
/-- the row's branches are the other way about -/
theorem br_yes' {β : Type} {p : Prop} [Decidable p] {a b r : Option β} (h : br (¬ p) a b = r) (hp : p) : b = r := br_no h (fun q => q hp)
abbrev FI : Type := Nat → Int32
abbrev AR : Type := Nat → Nat → Int32
theorem ret_of {α β γ : Type} {v r : α} {a a' : β} {b b' : γ} (h : some (v, a, b) = some (r, a', b')) : v = r ∧ (a, b) = (a', b') := by
  have := Option.some.inj h
  exact ⟨(Prod.mk.inj this).1, (Prod.mk.inj this).2⟩
abbrev GT : Type := (Nat → ClassId) × (Nat → Nat → Nat) × (Nat → ClassId) × (Nat → Nat)
abbrev gD (g : GT) : va_G := (g.1, g.2.1)
abbrev tyl (g : GT) : List (ClassId × FieldType) := [(g.2.2.1 0, .byte), (g.2.2.1 1, .char), (g.2.2.1 2, .int), (g.2.2.1 3, .boolean), (g.2.2.1 4, .long)]
/-! what stands fixed outside: two texts, two static rows, String's own switch -/
def sLen : List Nat := [16, 9]
def sByt : List (List Int32) := [[33, 35, 36, 37, 38, 39, 40, 41, 45, 64, 94, 95, 96, 123, 125, 126], [34, 42, 47, 58, 60, 62, 63, 92, 124]]
def tMon : List Int32 := [31, 28, 31, 30, 31, 30, 31, 31, 30, 31, 30, 31]
def tPla : List Int32 := [1, 3, 5, 7, 9, 14, 16, 18, 20, 22, 24, 28, 30]
def Ev0 (g : GT) (A : Nat → Prop) (U : State) (H : Heap) : Prop :=
  vk_S 2 sLen sByt (fun i => g.2.2.2 i) (fun i => g.2.2.2 (2 + i)) A U H ∧ va_Z "java/lang/String" "COMPACT_STRINGS" "Z" (.int 1) A U H ∧
  va_Z "TableVolumes$Days" "MONTHS" "[I" (.ref (g.2.2.2 4)) A U H ∧ va_T .int (g.2.2.2 4) 12 (fun j => .int (tMon.getD j 0)) A U H ∧
  va_Z "TableVolumes$Name" "PLACES" "[I" (.ref (g.2.2.2 5)) A U H ∧ va_T .int (g.2.2.2 5) 13 (fun j => .int (tPla.getD j 0)) A U H
def EvR (g : GT) (U : State) : Prop :=
  vk_R RX11 206 "!#$%&'()-@^_`{}~" (g.2.2.2 0) U ∧ vk_R RX11 235 "\"*/:<>?\\|" (g.2.2.2 1) U ∧ vk_R RX5 11 "!#$%&'()-@^_`{}~" (g.2.2.2 0) U ∧ vk_R RX5 22 "\"*/:<>?\\|" (g.2.2.2 1) U
def EV (g : GT) (A : Nat → Prop) (U : State) (H : Heap) : Prop := Ev0 g A U H ∧ EvR g U
theorem Ev0.moved {g : GT} {A : Nat → Prop} {u U : State} {H : Heap} (hvm : u.vm.Alike U.vm) (h : Ev0 g A u H) : Ev0 g A U H :=
  ⟨h.1.moved hvm, h.2.1.moved hvm, h.2.2.1.moved hvm, h.2.2.2.1.moved hvm, h.2.2.2.2.1.moved hvm, h.2.2.2.2.2.moved hvm⟩
theorem Ev0.kept {g : GT} {A : Nat → Prop} {U : State} {H H1 : Heap} (h : Ev0 g A U H) (hq : ∀ a : Nat, a < H.size → ¬ A a → H1[a]? = H[a]?) : Ev0 g A U H1 :=
  ⟨h.1.kept hq, h.2.1.kept hq, h.2.2.1.kept hq, h.2.2.2.1.kept hq, h.2.2.2.2.1.kept hq, h.2.2.2.2.2.kept hq⟩
theorem Ev0.narrow {g : GT} {A B : Nat → Prop} {U : State} {H : Heap} (h : Ev0 g A U H) (hAB : ∀ q, B q → A q) : Ev0 g B U H :=
  ⟨h.1.narrow hAB, h.2.1.narrow hAB, h.2.2.1.narrow hAB, h.2.2.2.1.narrow hAB, h.2.2.2.2.1.narrow hAB, h.2.2.2.2.2.narrow hAB⟩
theorem EV.call {g : GT} {A B : Nat → Prop} {s U : State} {H : Heap} {locs : List Loc} (h : EV g A s s.heap) (hS : va_S A s.heap H locs) (hAB : ∀ q, B q → A q) (hU : U.heap = H) (hW : s.WarmedH U.vm) : EV g B U U.heap := by
  rw [hU]
  exact ⟨((h.1.kept hS.2.1).moved hW.alike).narrow hAB, h.2.1.warm hW, h.2.2.1.warm hW, h.2.2.2.1.warm hW, h.2.2.2.2.warm hW⟩
theorem EV.blind {g : GT} {A : Nat → Prop} {U : State} {f : JFrame} {mk : MethodId} {a : Array Value} (h : EV g A U U.heap) : EV g A (U.calling f mk a) (U.calling f mk a).heap :=
  ⟨Ev0.moved (u := U) (U := U.calling f mk a) (Vm.Alike.refl U.vm) h.1, h.2.1.same rfl, h.2.2.1.same rfl, h.2.2.2.1.same rfl, h.2.2.2.2.same rfl⟩
theorem va_D.re {A B : Nat → Prop} {ws ws' : va_W} (h : va_D A ws) (hm : ws.map (fun q => q.1) = ws'.map (fun q => q.1)) (hB : ∀ a ∈ ws'.map (fun q => q.1), B a) : va_D B ws' := by
  have key : ∀ (k : Nat) (q : Nat × va_E), ws'[k]? = some q → ∃ q0, ws[k]? = some q0 ∧ q0.1 = q.1 := by
    intro k q hk
    have h1 : (ws'.map (fun q => q.1))[k]? = some q.1 := by rw [List.getElem?_map, hk]; rfl
    rw [← hm, List.getElem?_map] at h1
    cases h0 : ws[k]? with
    | none => rw [h0] at h1; cases h1
    | some q0 => rw [h0] at h1; exact ⟨q0, rfl, Option.some.inj h1⟩
  refine ⟨fun i j p q hi hj e => ?_, fun k q hk => hB _ (List.mem_map.mpr ⟨q, List.mem_of_getElem? hk, rfl⟩)⟩
  obtain ⟨p0, a1, a2⟩ := key i p hi
  obtain ⟨q0, b1, b2⟩ := key j q hj
  exact h.1 i j p0 q0 a1 b1 (by rw [a2, b2, e])
/-! static methods: no world of their own; nothing old changes -/
abbrev noA : Nat → Prop := fun _ => False
abbrev PS (g : GT) : State → Prop := fun U => EV g noA U U.heap
abbrev QSi (r : Int32) : Array Value → State → Outcome → State → Prop := va_Qi (fun r' (_ : Unit) => r' = r) (fun _ _ => True) noA
abbrev QSl (r : Int64) : Array Value → State → Outcome → State → Prop := va_Ql (fun r' (_ : Unit) => r' = r) (fun _ _ => True) noA
