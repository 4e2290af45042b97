/-! the model's look is the spec's -/
theorem MIT.keep {ar ar' : AR} {d A : Nat → Nat} {b j N U U' i' : Nat} {its : List (Nat × Nat)} (h : MIT ar d A b j its U) (hb : b + its.length ≤ N) (hK : KP i' N U ar ar') (hU : U ≤ U') : MIT ar' d A b j its U' := by
  intro q hq
  obtain ⟨a1, a2, a3, a4, u, u1, u2, u3, u4⟩ := h q hq
  rw [hK.1 20 (by simp) _ (by omega), hK.1 21 (by simp) _ (by omega), hK.1 22 (by simp) _ (by omega), hK.1 23 (by simp) _ (by omega)]
  exact ⟨a1, a2, a3, a4, u, by rw [hK.1 26 (by simp) _ (by omega)]; exact u1, by rw [hK.1 27 (by simp) _ (by omega)]; exact u2, by omega, fun x hx => by rw [hK.2.1 _ (by omega)]; exact u4 x hx⟩
/-- two states of the model that agree on the items before N -/
def AGR (N : Nat) (ar ar' : AR) : Prop := ∀ j, j < N → ar' 20 j = ar 20 j ∧ ar' 23 j = ar 23 j
theorem AGR.p {N : Nat} {ar ar' : AR} (h : AGR N ar ar') {j : Nat} (hj : j < N) : pA ar' j = pA ar j := by unfold pA; rw [(h j hj).1]
theorem AGR.dr {N : Nat} {ar ar' : AR} {d : Nat → Nat} (h : AGR N ar ar') {j : Nat} (hj : j < N) : drF ar' d j ↔ drF ar d j := by unfold drF; rw [h.p hj]
theorem AGR.fs {N : Nat} {ar ar' : AR} {d : Nat → Nat} {r : Nat} (h : AGR N ar ar') {j : Nat} (hj : j < N) : fsF ar' d r j = fsF ar d r j := by unfold fsF; rw [h.p hj]
theorem AGR.pr {N : Nat} {ar ar' : AR} {d : Nat → Nat} {r : Nat} (h : AGR N ar ar') {j : Nat} (hj : j < N) (hq : j ≠ 0 → uv (ar 23 j) < N) : prF ar' d r j = prF ar d r j := by
  unfold prF
  rw [(h j hj).2]
  by_cases w : j = 0 ∨ uv (ar 23 j) = 0
  · rw [if_pos w, if_pos w]
  · rw [if_neg w, if_neg w, h.fs (hq (fun z => w (Or.inl z)))]
theorem AGR.q {N : Nat} {ar ar' : AR} {d : Nat → Nat} {r : Nat} (h : AGR N ar ar') {i n : Nat} (hn : i + n ≤ N) (hq : ∀ j, j < N → j ≠ 0 → uv (ar 23 j) < N) : qF ar' d r i n = qF ar d r i n := by
  unfold qF
  have e1 : (List.range' i n).filter (fun j => decide (drF ar' d j)) = (List.range' i n).filter (fun j => decide (drF ar d j)) := List.filter_congr (fun j hj => by
    have := List.mem_range'_1.mp hj
    simp only [h.dr (show j < N by omega)])
  rw [e1]
  refine List.map_congr_left (fun j hj => ?_)
  have := List.mem_range'_1.mp (List.mem_filter.mp hj).1
  rw [h.fs (by omega), h.pr (by omega) (fun w => hq j (by omega) w)]
theorem qF_cons {ar : AR} {d : Nat → Nat} {r i n : Nat} : qF ar d r i (n + 1) = (if drF ar d i then [(fsF ar d r i, prF ar d r i)] else []) ++ qF ar d r (i + 1) n := by
  unfold qF
  rw [List.range'_succ, List.filter_cons]
  by_cases w : drF ar d i
  · rw [if_pos w, if_pos (decide_eq_true w)]; rfl
  · rw [if_neg w, if_neg (fun z => w (of_decide_eq_true z))]; rfl
theorem qF_add {ar : AR} {d : Nat → Nat} {r i n m : Nat} : qF ar d r i (n + m) = qF ar d r i n ++ qF ar d r (i + n) m := by
  induction n generalizing i with
  | zero => simp [qF]
  | succ n ih =>
    rw [show n + 1 + m = (n + m) + 1 by omega, qF_cons, qF_cons, ih, List.append_assoc, show i + 1 + n = i + (n + 1) by omega]
/-- the new items of folder i, lined up -/
theorem qF_new {ar : AR} {d A : Nat → Nat} {r i b U P : Nat} {its : List (Nat × Nat)} (h : MIT ar d A b i its U) (hA : ∀ e, e ∈ its → A e.1 < 4294967296) (hb : 0 < b) (hi : i < 4294967296) (hP : (if i = 0 then 0 else fsF ar d r i) = P) : qF ar d r b its.length = (sbs d A its).map (fun x => (x, P)) := by
  have key : ∀ (l2 l1 : List (Nat × Nat)), l1 ++ l2 = its → qF ar d r (b + l1.length) l2.length = (sbs d A l2).map (fun x => (x, P)) := by
    intro l2
    induction l2 with
    | nil => intro l1 _; rfl
    | cons e l2 ih =>
      intro l1 hl
      have hlen := congrArg List.length hl
      rw [List.length_append, List.length_cons] at hlen
      have he : its.getD l1.length (0, 0) = e := by rw [← hl]; simp
      have hem : e ∈ its := by rw [← hl]; simp
      have hq := h l1.length (by omega)
      rw [he] at hq
      have hpa : pA ar (b + l1.length) = A e.1 := pA_nI hq.1 (hA e hem)
      have g := ih (l1 ++ [e]) (by rw [List.append_assoc]; exact hl)
      rw [List.length_append] at g
      rw [List.length_cons, qF_cons]
      have e1 : sbs d A (e :: l2) = (if isDr d (A e.1) then [fcl d (A e.1)] else []) ++ sbs d A l2 := by
        have := sbs_snoc d A [] e
        unfold sbs at *
        rw [List.filter_cons]
        by_cases w : isDr d (A e.1)
        · have hd : decide (isDr d (A e.1)) = true := decide_eq_true w
          rw [if_pos w, hd]; rfl
        · have hd : decide (isDr d (A e.1)) = false := decide_eq_false w
          rw [if_neg w, hd]; rfl
      have g' : qF ar d r (b + l1.length + 1) l2.length = (sbs d A l2).map (fun x => (x, P)) := g
      rw [e1, List.map_append, ← g']
      congr 1
      have hdr : drF ar d (b + l1.length) ↔ isDr d (A e.1) := by
        unfold drF
        rw [hpa]
        exact ⟨fun w => w.elim (fun z => by omega) id, fun w => Or.inr w⟩
      by_cases w : isDr d (A e.1)
      · rw [if_pos w, if_pos (hdr.mpr w)]
        have e2 : fsF ar d r (b + l1.length) = fcl d (A e.1) := by unfold fsF; rw [if_neg (by omega), hpa]
        have e3 : prF ar d r (b + l1.length) = P := by
          unfold prF
          rw [hq.2.2.2.1, uv_nI (by omega)]
          by_cases z : i = 0
          · rw [if_pos (Or.inr z)]; rw [if_pos z] at hP; exact hP
          · rw [if_neg (fun y => y.elim (fun y => by omega) z)]; rw [if_neg z] at hP; exact hP
        rw [e2, e3]; rfl
      · rw [if_neg w, if_neg (fun z => w (hdr.mp z))]; rfl
  exact key its [] rfl
