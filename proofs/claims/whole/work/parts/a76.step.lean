/-! the law: one step of its loop -/
theorem addc2_zero (o : Option (Int32 × Nat × Nat)) : addc2 0 0 o = o := by
  cases o with
  | none => rfl
  | some q => obtain ⟨r, a, b⟩ := q; show some (r, 0 + a, 0 + b) = _; rw [Nat.zero_add, Nat.zero_add]
theorem lg_self (x : Int64) : lg_cmp x x = 0 := by
  unfold lg_cmp
  rw [if_neg (show ¬ x > x from Int64.lt_irrefl), if_pos rfl]
theorem CST.weak {l1 l2 : LN} {k s a b a' b' : Nat} (h : CST l1 l2 k s a b) (ha : a ≤ a') (hb : b ≤ b') : CST l1 l2 k s a' b' := ⟨h.1, by have := h.2.1; omega, by have := h.2.2; omega⟩
theorem CST.nil {l : LN} : CST l l 0 0 2 12 := ⟨Nat.le_refl _, by omega, by omega⟩
/-- what a call and the reference tell is compared: alike -/
theorem cmp_val {code : Int32} {fo' : Nat → Int64} {v : Int64} {X Y : Option (Int32 × Nat × Nat)} (h : code = 0 → fo' 0 = v) : br (code = 0) (br (lg_cmp (fo' (0 : Int32).toNatClampNeg) v = 0) X Y) X = X := by
  by_cases c : code = 0
  · rw [brT c, brT]
    show lg_cmp (fo' 0) v = 0
    rw [h c]; exact lg_self v
  · rw [brF c]
theorem upd0 (fo : Nat → Int64) (v : Int64) : vp_updL fo (0 : Int32).toNatClampNeg v 0 = v := by
  show (if 0 = (0 : Int32).toNatClampNeg then v else fo 0) = v
  rw [if_pos (by decide)]

theorem FL_format_ok {nf : Nat} {fi fi' : FI} {ar ar' : AR} {ln ln' : LN} {fo : Nat → Int64} {x1 x2 x3 x4 : Int32} {r : Int32 ⊕ Nat} {v : Int32} {kc ks : Nat} {m5 : Int32} (h : FX10_format nf fi ar ln x1 x2 x3 x4 = some (r, fi', ar', ln', kc, ks)) (hr : (r = Sum.inr 2 ∧ m5 = 1) ∨ (r = Sum.inl v ∧ m5 = 0)) : ∃ fo', FL_format nf fi ar ln fo x1 x2 x3 x4 = some ((m5, fo'), fi', ar', ln', kc, ks) ∧ (m5 = 0 → fo' 0 = v.toInt64) := by
  unfold FL_format
  rcases hr with ⟨rfl, rfl⟩ | ⟨rfl, rfl⟩
  · rw [h, obnd6_some, sumcR, brT rfl]; exact ⟨fo, rfl, fun w => absurd w (by decide)⟩
  · rw [h, obnd6_some, sumcL]; exact ⟨_, rfl, fun _ => upd0 _ _⟩
theorem FL_items_ok {nf : Nat} {fi fi' : FI} {ar ar' : AR} {ln ln' : LN} {fo : Nat → Int64} {r : Int32 ⊕ Nat} {v : Int32} {kc ks : Nat} {m5 : Int32} (h : FX10_items nf fi ar ln = some (r, fi', ar', ln', kc, ks)) (hr : (r = Sum.inr 0 ∧ m5 = 1) ∨ (r = Sum.inl v ∧ m5 = 0)) : ∃ fo', FL_items nf fi ar ln fo = some ((m5, fo'), fi', ar', ln', kc, ks) ∧ (m5 = 0 → fo' 0 = v.toInt64) := by
  unfold FL_items
  rcases hr with ⟨rfl, rfl⟩ | ⟨rfl, rfl⟩
  · rw [h, obnd6_some, sumcR, brT rfl]; exact ⟨fo, rfl, fun w => absurd w (by decide)⟩
  · rw [h, obnd6_some, sumcL]; exact ⟨_, rfl, fun _ => upd0 _ _⟩
theorem FL_letter_ok {nf : Nat} {fi fi' : FI} {ar ar' : AR} {ln ln' : LN} {fo : Nat → Int64} {x1 x2 : Int32} {r : Int32 ⊕ Nat} {v : Int32} {kc ks : Nat} {m5 : Int32} (h : FX10_letter nf fi ar ln x1 x2 = some (r, fi', ar', ln', kc, ks)) (hr : (r = Sum.inr 0 ∧ m5 = 1) ∨ (r = Sum.inr 1 ∧ m5 = 2) ∨ (r = Sum.inl v ∧ m5 = 0)) : ∃ fo', FL_letter nf fi ar ln fo x1 x2 = some ((m5, fo'), fi', ar', ln', kc, ks) ∧ (m5 = 0 → fo' 0 = v.toInt64) := by
  unfold FL_letter
  rcases hr with ⟨rfl, rfl⟩ | ⟨rfl, rfl⟩ | ⟨rfl, rfl⟩
  · rw [h, obnd6_some, sumcR, brT rfl]; exact ⟨fo, rfl, fun w => absurd w (by decide)⟩
  · rw [h, obnd6_some, sumcR, brF (by decide), brT rfl]; exact ⟨fo, rfl, fun w => absurd w (by decide)⟩
  · rw [h, obnd6_some, sumcL]; exact ⟨_, rfl, fun _ => upd0 _ _⟩
theorem FL_about_ok {nf : Nat} {fi fi' : FI} {ar ar' : AR} {ln ln' : LN} {fo : Nat → Int64} {x1 x2 : Int32} {r : Int64 ⊕ Nat} {v : Int64} {kc ks : Nat} {m5 : Int32} (h : FX10_about nf fi ar ln x1 x2 = some (r, fi', ar', ln', kc, ks)) (hr : (r = Sum.inr 0 ∧ m5 = 1) ∨ (r = Sum.inr 1 ∧ m5 = 2) ∨ (r = Sum.inr 2 ∧ m5 = 3) ∨ (r = Sum.inl v ∧ m5 = 0)) : ∃ fo', FL_about nf fi ar ln fo x1 x2 = some ((m5, fo'), fi', ar', ln', kc, ks) ∧ (m5 = 0 → fo' 0 = v) := by
  unfold FL_about
  rcases hr with ⟨rfl, rfl⟩ | ⟨rfl, rfl⟩ | ⟨rfl, rfl⟩ | ⟨rfl, rfl⟩
  · rw [h, obnd6_some, sumcR, brT rfl]; exact ⟨fo, rfl, fun w => absurd w (by decide)⟩
  · rw [h, obnd6_some, sumcR, brF (by decide), brT rfl]; exact ⟨fo, rfl, fun w => absurd w (by decide)⟩
  · rw [h, obnd6_some, sumcR, brF (by decide), brF (by decide), brT rfl]; exact ⟨fo, rfl, fun w => absurd w (by decide)⟩
  · rw [h, obnd6_some, sumcL]; exact ⟨_, rfl, fun _ => upd0 _ _⟩
theorem FL_content_ok {nf : Nat} {fi fi' : FI} {ar ar' : AR} {ln ln' : LN} {fo : Nat → Int64} {x1 x2 : Int32} {r : Int32 ⊕ Nat} {v : Int32} {kc ks : Nat} {m5 : Int32} (h : FX10_content nf fi ar ln x1 x2 = some (r, fi', ar', ln', kc, ks)) (hr : (r = Sum.inr 0 ∧ m5 = 1) ∨ (r = Sum.inr 1 ∧ m5 = 2) ∨ (r = Sum.inl v ∧ m5 = 0)) : ∃ fo', FL_content nf fi ar ln fo x1 x2 = some ((m5, fo'), fi', ar', ln', kc, ks) ∧ (m5 = 0 → fo' 0 = v.toInt64) := by
  unfold FL_content
  rcases hr with ⟨rfl, rfl⟩ | ⟨rfl, rfl⟩ | ⟨rfl, rfl⟩
  · rw [h, obnd6_some, sumcR, brT rfl]; exact ⟨fo, rfl, fun w => absurd w (by decide)⟩
  · rw [h, obnd6_some, sumcR, brF (by decide), brT rfl]; exact ⟨fo, rfl, fun w => absurd w (by decide)⟩
  · rw [h, obnd6_some, sumcL]; exact ⟨_, rfl, fun _ => upd0 _ _⟩
theorem FL_enter_ok {nf : Nat} {fi fi' : FI} {ar ar' : AR} {ln ln' : LN} {fo : Nat → Int64} {x1 : Int32} {r : Int32 ⊕ Nat} {v : Int32} {kc ks : Nat} {m5 : Int32} (h : FX10_enter nf fi ar ln x1 = some (r, fi', ar', ln', kc, ks)) (hr : (r = Sum.inr 0 ∧ m5 = 1) ∨ (r = Sum.inr 1 ∧ m5 = 2) ∨ (r = Sum.inr 2 ∧ m5 = 3) ∨ (r = Sum.inl v ∧ m5 = 0)) : ∃ fo', FL_enter nf fi ar ln fo x1 = some ((m5, fo'), fi', ar', ln', kc, ks) ∧ (m5 = 0 → fo' 0 = v.toInt64) := by
  unfold FL_enter
  rcases hr with ⟨rfl, rfl⟩ | ⟨rfl, rfl⟩ | ⟨rfl, rfl⟩ | ⟨rfl, rfl⟩
  · rw [h, obnd6_some, sumcR, brT rfl]; exact ⟨fo, rfl, fun w => absurd w (by decide)⟩
  · rw [h, obnd6_some, sumcR, brF (by decide), brT rfl]; exact ⟨fo, rfl, fun w => absurd w (by decide)⟩
  · rw [h, obnd6_some, sumcR, brF (by decide), brF (by decide), brT rfl]; exact ⟨fo, rfl, fun w => absurd w (by decide)⟩
  · rw [h, obnd6_some, sumcL]; exact ⟨_, rfl, fun _ => upd0 _ _⟩
theorem FL_make_ok {nf : Nat} {fi fi' : FI} {ar ar' : AR} {ln ln' : LN} {fo : Nat → Int64} {x1 : Int32} {r : Int32 ⊕ Nat} {v : Int32} {kc ks : Nat} {m5 : Int32} (h : FX10_make nf fi ar ln x1 = some (r, fi', ar', ln', kc, ks)) (hr : (r = Sum.inr 0 ∧ m5 = 1) ∨ (r = Sum.inr 2 ∧ m5 = 2) ∨ (r = Sum.inr 3 ∧ m5 = 3) ∨ (r = Sum.inl v ∧ m5 = 0)) : ∃ fo', FL_make nf fi ar ln fo x1 = some ((m5, fo'), fi', ar', ln', kc, ks) ∧ (m5 = 0 → fo' 0 = v.toInt64) := by
  unfold FL_make
  rcases hr with ⟨rfl, rfl⟩ | ⟨rfl, rfl⟩ | ⟨rfl, rfl⟩ | ⟨rfl, rfl⟩
  · rw [h, obnd6_some, sumcR, brT rfl]; exact ⟨fo, rfl, fun w => absurd w (by decide)⟩
  · rw [h, obnd6_some, sumcR, brF (by decide), brT rfl]; exact ⟨fo, rfl, fun w => absurd w (by decide)⟩
  · rw [h, obnd6_some, sumcR, brF (by decide), brF (by decide), brT rfl]; exact ⟨fo, rfl, fun w => absurd w (by decide)⟩
  · rw [h, obnd6_some, sumcL]; exact ⟨_, rfl, fun _ => upd0 _ _⟩
theorem FL_write_ok {nf : Nat} {fi fi' : FI} {ar ar' : AR} {ln ln' : LN} {fo : Nat → Int64} {x1 : Int32} {r : Int32 ⊕ Nat} {v : Int32} {kc ks : Nat} {m5 : Int32} (h : FX10_write nf fi ar ln x1 = some (r, fi', ar', ln', kc, ks)) (hr : (r = Sum.inr 0 ∧ m5 = 1) ∨ (r = Sum.inr 1 ∧ m5 = 2) ∨ (r = Sum.inr 2 ∧ m5 = 3) ∨ (r = Sum.inr 3 ∧ m5 = 4) ∨ (r = Sum.inl v ∧ m5 = 0)) : ∃ fo', FL_write nf fi ar ln fo x1 = some ((m5, fo'), fi', ar', ln', kc, ks) ∧ (m5 = 0 → fo' 0 = v.toInt64) := by
  unfold FL_write
  rcases hr with ⟨rfl, rfl⟩ | ⟨rfl, rfl⟩ | ⟨rfl, rfl⟩ | ⟨rfl, rfl⟩ | ⟨rfl, rfl⟩
  · rw [h, obnd6_some, sumcR, brT rfl]; exact ⟨fo, rfl, fun w => absurd w (by decide)⟩
  · rw [h, obnd6_some, sumcR, brF (by decide), brT rfl]; exact ⟨fo, rfl, fun w => absurd w (by decide)⟩
  · rw [h, obnd6_some, sumcR, brF (by decide), brF (by decide), brT rfl]; exact ⟨fo, rfl, fun w => absurd w (by decide)⟩
  · rw [h, obnd6_some, sumcR, brF (by decide), brF (by decide), brF (by decide), brT rfl]; exact ⟨fo, rfl, fun w => absurd w (by decide)⟩
  · rw [h, obnd6_some, sumcL]; exact ⟨_, rfl, fun _ => upd0 _ _⟩
theorem FL_grow_ok {nf : Nat} {fi fi' : FI} {ar ar' : AR} {ln ln' : LN} {fo : Nat → Int64} {x1 x2 x3 : Int32} {r : Int32 ⊕ Nat} {v : Int32} {kc ks : Nat} {m5 : Int32} (h : FX10_grow nf fi ar ln x1 x2 x3 = some (r, fi', ar', ln', kc, ks)) (hr : (r = Sum.inr 0 ∧ m5 = 1) ∨ (r = Sum.inr 1 ∧ m5 = 2) ∨ (r = Sum.inr 2 ∧ m5 = 3) ∨ (r = Sum.inr 3 ∧ m5 = 4) ∨ (r = Sum.inl v ∧ m5 = 0)) : ∃ fo', FL_grow nf fi ar ln fo x1 x2 x3 = some ((m5, fo'), fi', ar', ln', kc, ks) ∧ (m5 = 0 → fo' 0 = v.toInt64) := by
  unfold FL_grow
  rcases hr with ⟨rfl, rfl⟩ | ⟨rfl, rfl⟩ | ⟨rfl, rfl⟩ | ⟨rfl, rfl⟩ | ⟨rfl, rfl⟩
  · rw [h, obnd6_some, sumcR, brT rfl]; exact ⟨fo, rfl, fun w => absurd w (by decide)⟩
  · rw [h, obnd6_some, sumcR, brF (by decide), brT rfl]; exact ⟨fo, rfl, fun w => absurd w (by decide)⟩
  · rw [h, obnd6_some, sumcR, brF (by decide), brF (by decide), brT rfl]; exact ⟨fo, rfl, fun w => absurd w (by decide)⟩
  · rw [h, obnd6_some, sumcR, brF (by decide), brF (by decide), brF (by decide), brT rfl]; exact ⟨fo, rfl, fun w => absurd w (by decide)⟩
  · rw [h, obnd6_some, sumcL]; exact ⟨_, rfl, fun _ => upd0 _ _⟩
theorem FL_cut_ok {nf : Nat} {fi fi' : FI} {ar ar' : AR} {ln ln' : LN} {fo : Nat → Int64} {x1 x2 : Int32} {r : Int32 ⊕ Nat} {v : Int32} {kc ks : Nat} {m5 : Int32} (h : FX10_cut nf fi ar ln x1 x2 = some (r, fi', ar', ln', kc, ks)) (hr : (r = Sum.inr 0 ∧ m5 = 1) ∨ (r = Sum.inr 1 ∧ m5 = 2) ∨ (r = Sum.inr 2 ∧ m5 = 3) ∨ (r = Sum.inl v ∧ m5 = 0)) : ∃ fo', FL_cut nf fi ar ln fo x1 x2 = some ((m5, fo'), fi', ar', ln', kc, ks) ∧ (m5 = 0 → fo' 0 = v.toInt64) := by
  unfold FL_cut
  rcases hr with ⟨rfl, rfl⟩ | ⟨rfl, rfl⟩ | ⟨rfl, rfl⟩ | ⟨rfl, rfl⟩
  · rw [h, obnd6_some, sumcR, brT rfl]; exact ⟨fo, rfl, fun w => absurd w (by decide)⟩
  · rw [h, obnd6_some, sumcR, brF (by decide), brT rfl]; exact ⟨fo, rfl, fun w => absurd w (by decide)⟩
  · rw [h, obnd6_some, sumcR, brF (by decide), brF (by decide), brT rfl]; exact ⟨fo, rfl, fun w => absurd w (by decide)⟩
  · rw [h, obnd6_some, sumcL]; exact ⟨_, rfl, fun _ => upd0 _ _⟩
theorem FL_remove_ok {nf : Nat} {fi fi' : FI} {ar ar' : AR} {ln ln' : LN} {fo : Nat → Int64} {x1 : Int32} {r : Unit ⊕ Nat} {kc ks : Nat} {m5 : Int32} (h : FX10_remove nf fi ar ln x1 = some (r, fi', ar', ln', kc, ks)) (hr : (r = Sum.inr 0 ∧ m5 = 1) ∨ (r = Sum.inr 1 ∧ m5 = 2) ∨ (r = Sum.inr 2 ∧ m5 = 3) ∨ (r = Sum.inl () ∧ m5 = 0)) : ∃ fo', FL_remove nf fi ar ln fo x1 = some ((m5, fo'), fi', ar', ln', kc, ks) := by
  unfold FL_remove
  rcases hr with ⟨rfl, rfl⟩ | ⟨rfl, rfl⟩ | ⟨rfl, rfl⟩ | ⟨rfl, rfl⟩
  · rw [h, obnd6_some, sumcR, brT rfl]; exact ⟨fo, rfl⟩
  · rw [h, obnd6_some, sumcR, brF (by decide), brT rfl]; exact ⟨fo, rfl⟩
  · rw [h, obnd6_some, sumcR, brF (by decide), brF (by decide), brT rfl]; exact ⟨fo, rfl⟩
  · rw [h, obnd6_some, sumcL]; exact ⟨fo, rfl⟩
theorem FL_stamp_ok {nf : Nat} {fi fi' : FI} {ar ar' : AR} {ln ln' : LN} {fo : Nat → Int64} {x1 x2 x3 x4 : Int32} {r : Unit ⊕ Nat} {kc ks : Nat} {m5 : Int32} (h : FX10_stamp nf fi ar ln x1 x2 x3 x4 = some (r, fi', ar', ln', kc, ks)) (hr : (r = Sum.inr 0 ∧ m5 = 1) ∨ (r = Sum.inr 1 ∧ m5 = 2) ∨ (r = Sum.inr 2 ∧ m5 = 3) ∨ (r = Sum.inl () ∧ m5 = 0)) : ∃ fo', FL_stamp nf fi ar ln fo x1 x2 x3 x4 = some ((m5, fo'), fi', ar', ln', kc, ks) := by
  unfold FL_stamp
  rcases hr with ⟨rfl, rfl⟩ | ⟨rfl, rfl⟩ | ⟨rfl, rfl⟩ | ⟨rfl, rfl⟩
  · rw [h, obnd6_some, sumcR, brT rfl]; exact ⟨fo, rfl⟩
  · rw [h, obnd6_some, sumcR, brF (by decide), brT rfl]; exact ⟨fo, rfl⟩
  · rw [h, obnd6_some, sumcR, brF (by decide), brF (by decide), brT rfl]; exact ⟨fo, rfl⟩
  · rw [h, obnd6_some, sumcL]; exact ⟨fo, rfl⟩
theorem FL_up_ok {nf : Nat} {fi fi' : FI} {ar ar' : AR} {ln ln' : LN} {fo : Nat → Int64} {r : Int32 ⊕ Nat} {v : Int32} {kc ks : Nat} {m5 : Int32} (h : FX10_up nf fi ar ln = some (r, fi', ar', ln', kc, ks)) (hr : (r = Sum.inr 0 ∧ m5 = 1) ∨ (r = Sum.inl v ∧ m5 = 0)) : ∃ fo', FL_up nf fi ar ln fo = some ((m5, fo'), fi', ar', ln', kc, ks) ∧ (m5 = 0 → fo' 0 = if v = 0 then 0 else 1) := by
  unfold FL_up
  rcases hr with ⟨rfl, rfl⟩ | ⟨rfl, rfl⟩
  · rw [h, obnd6_some, sumcR, brT rfl]; exact ⟨fo, rfl, fun w => absurd w (by decide)⟩
  · rw [h, obnd6_some, sumcL]
    by_cases c : v = 0
    · rw [brT c, if_pos c]; exact ⟨_, rfl, fun _ => upd0 _ _⟩
    · rw [brF c, if_neg c]; exact ⟨_, rfl, fun _ => upd0 _ _⟩
theorem law_step {nf n h T i L : Nat} {xs : Nat → Int32} {ln : LN} {fi fm : FI} {ar arm : AR} {d : Nat → Nat} {fo : Nat → Int64} (K : Int32 → FI → AR → LN → (Nat → Int64) → FI → AR → Option (Int32 × Nat × Nat)) (hV : VOL n ln fi ar fm arm d h) (hT : TAP fi ar fm arm T) (hi : i + 6 ≤ L) (hL : L ≤ 3073) (hnf : 600000 ≤ nf) : ∃ d' h' T' fi' ar' ln' fo' fm' arm' kc ks, FL_law_33b K nf L xs (nI i) fi ar ln fo fm arm = addc2 kc ks (K (nI (i + 6)) fi' ar' ln' fo' fm' arm') ∧ VOL n ln' fi' ar' fm' arm' d' h' ∧ TAP fi' ar' fm' arm' T' ∧ CST ln ln' kc ks 2 12 := by
  have g0 : ∀ X : Option (Int32 × Nat × Nat), gd (¬ (nI i < 0 ∨ L ≤ (nI i).toNatClampNeg)) X = X := fun X => zgd (by omega) (by omega)
  have k0 : (nI i).toNatClampNeg = i := nI_clamp (by omega)
  have e1 : nI i + (1 : Int32) = nI (i + 1) := nI_add i 1
  have g1 : ∀ X : Option (Int32 × Nat × Nat), gd (¬ (nI (i + 1) < 0 ∨ L ≤ (nI (i + 1)).toNatClampNeg)) X = X := fun X => zgd (by omega) (by omega)
  have k1 : (nI (i + 1)).toNatClampNeg = i + 1 := nI_clamp (by omega)
  have e2 : nI i + (2 : Int32) = nI (i + 2) := nI_add i 2
  have g2 : ∀ X : Option (Int32 × Nat × Nat), gd (¬ (nI (i + 2) < 0 ∨ L ≤ (nI (i + 2)).toNatClampNeg)) X = X := fun X => zgd (by omega) (by omega)
  have k2 : (nI (i + 2)).toNatClampNeg = i + 2 := nI_clamp (by omega)
  have e3 : nI i + (3 : Int32) = nI (i + 3) := nI_add i 3
  have g3 : ∀ X : Option (Int32 × Nat × Nat), gd (¬ (nI (i + 3) < 0 ∨ L ≤ (nI (i + 3)).toNatClampNeg)) X = X := fun X => zgd (by omega) (by omega)
  have k3 : (nI (i + 3)).toNatClampNeg = i + 3 := nI_clamp (by omega)
  have e4 : nI i + (4 : Int32) = nI (i + 4) := nI_add i 4
  have g4 : ∀ X : Option (Int32 × Nat × Nat), gd (¬ (nI (i + 4) < 0 ∨ L ≤ (nI (i + 4)).toNatClampNeg)) X = X := fun X => zgd (by omega) (by omega)
  have k4 : (nI (i + 4)).toNatClampNeg = i + 4 := nI_clamp (by omega)
  have e5 : nI i + (5 : Int32) = nI (i + 5) := nI_add i 5
  have g5 : ∀ X : Option (Int32 × Nat × Nat), gd (¬ (nI (i + 5) < 0 ∨ L ≤ (nI (i + 5)).toNatClampNeg)) X = X := fun X => zgd (by omega) (by omega)
  have k5 : (nI (i + 5)).toNatClampNeg = i + 5 := nI_clamp (by omega)
  have eL : Int32.ofNat L - (6 : Int32) = nI (L - 6) := nI_sub (a := L) (b := 6) (by omega)
  have eN : ∀ fi ar ln fo fm arm, FL_law_1193 K nf L xs (nI i) fi ar ln fo fm arm = K (nI (i + 6)) fi ar ln fo fm arm := fun fi ar ln fo fm arm => by
    unfold FL_law_1193
    rw [bnd_eq, show nI i + (6 : Int32) = nI (i + 6) from nI_add i 6]
  have z2 : ∀ o : Option (Int32 × Nat × Nat), o = addc2 0 0 o := fun o => (addc2_zero o).symm
  unfold FL_law_33b
  rw [eL, brF (nI_nlt (by omega) (by omega)), g0, k0]
  obtain ⟨s, hs⟩ : ∃ s, s = xs i &&& (31 : Int32) := ⟨_, rfl⟩
  rw [← hs]
  by_cases c0 : s = 0
  · rw [brT c0]
    obtain ⟨fi', ar', fm', arm', a1, a2, a3, a4⟩ := feed_alike (nf := nf) hV hT (xs (i + 1)) (xs (i + 2)) (xs (i + 3)) (xs (i + 4)) (xs (i + 5)) (by omega)
    simp (disch := omega) only [zgdc, zgd, e1, k1, e2, k2, e3, k3, e4, k4, e5, k5, a1, a2, obnd3_some, eN]
    exact ⟨d, h, T, fi', ar', ln, fo, fm', arm', 0, 0, z2 _, a3, a4, CST.nil⟩
  rw [brF c0]
  by_cases c1 : s = 1
  · rw [brT c1]
    obtain ⟨v, T', fi', ar', fm', arm', a1, a2, a3, a4⟩ := end_alike (nf := nf) hV hT (xs (i + 1)) (by omega)
    simp (disch := omega) only [zgdc, zgd, e1, k1, a1, a2, obnd3_some, eN]
    rw [brT trivial]
    exact ⟨d, h, T', fi', ar', ln, fo, fm', arm', 0, 0, z2 _, a3, a4, CST.nil⟩
  rw [brF c1]
  by_cases c2 : s = 2
  · rw [brT c2]
    obtain ⟨fi', fm', a1, a2, a3, a4⟩ := clear_alike (nf := nf) hV hT
    simp (disch := omega) only [zgdc, zgd, a1, a2, obnd3_some, eN]
    exact ⟨d, h, 0, fi', ar, ln, fo, fm', arm, 0, 0, z2 _, a3, a4, CST.nil⟩
  rw [brF c2]
  by_cases c3 : s = 3
  · rw [brT c3]
    obtain ⟨v, r, d', h', fi', ar', kc, ks, fm', arm', a1, a2, a3, a4, a5, a6⟩ := format_alike (nf := nf) hV hT (xs (i + 1)) (xs (i + 2)) (xs (i + 3)) (xs (i + 4)) hnf
    obtain ⟨fo', b1, b2⟩ := FL_format_ok (fo := fo) a1 a3
    unfold FL_law_340 M_thrown
    simp (disch := omega) only [zgdc, zgd, e1, k1, e2, k2, e3, k3, e4, k4, b1, a2, obnd6_some, obnd3_some, bnd_eq, eN]
    rw [brT trivial, cmp_val b2]
    exact ⟨d', h', 0, fi', ar', ln, fo', fm', arm', _, _, rfl, a4, a6, a5.weak (by omega) (by omega)⟩
  rw [brF c3]
  by_cases c4 : s = 4
  · rw [brT c4]
    obtain ⟨v, d', h', fi', ar', fm', arm', a1, a2, a3, a4, a5, a6, a7⟩ := poke_alike (nf := nf) hV (xs (i + 1)) (xs (i + 2)) (xs (i + 3)) (by omega)
    simp (disch := omega) only [zgdc, zgd, e1, k1, e2, k2, e3, k3, a1, a2, obnd3_some, eN]
    rw [brT trivial]
    exact ⟨d', h', T, fi', ar', ln, fo, fm', arm', 0, 0, z2 _, a3, (hT.off a4 a5 a6 a7 (by simp [oFC, oAC, oFM, oAM, oFR, oAR, oFW]) (by simp [oFC, oAC, oFM, oAM, oFR, oAR, oFW]) (by simp [oFC, oAC, oFM, oAM, oFR, oAR, oFW]) (by simp [oFC, oAC, oFM, oAM, oFR, oAR, oFW])), CST.nil⟩
  rw [brF c4]
  by_cases c5 : s = 5
  · rw [brT c5]
    obtain ⟨v, fi', ar', ln', kc, ks, fm', arm', a1, a2, a3, a4, a5, a6, a7, a8⟩ := fault_alike (nf := nf) hV (by omega)
    simp (disch := omega) only [zgdc, zgd, a1, a2, obnd6_some, obnd3_some, eN]
    rw [brT trivial]
    exact ⟨d, h, T, fi', ar', ln', fo, fm', arm', _, _, rfl, a3, (hT.off a5 a6 a7 a8 (by simp [oFC, oAC, oFM, oAM, oFR, oAR, oFW]) (by simp [oFC, oAC, oFM, oAM, oFR, oAR, oFW]) (by simp [oFC, oAC, oFM, oAM, oFR, oAR, oFW]) (by simp [oFC, oAC, oFM, oAM, oFR, oAR, oFW])), a4.weak (by omega) (by omega)⟩
  rw [brF c5]
  by_cases c6 : s = 6
  · rw [brT c6]
    obtain ⟨v, fi', fm', arm', a1, a2, a3, a4, a5, a6⟩ := byteAt_alike (nf := nf) hV (xs (i + 1)) (xs (i + 2)) (by omega)
    simp (disch := omega) only [zgdc, zgd, e1, k1, e2, k2, a1, a2, obnd3_some, eN]
    rw [brT trivial]
    exact ⟨d, h, T, fi', ar, ln, fo, fm', arm', 0, 0, z2 _, a3, (hT.off a4 (offAs.rf (S := [])) a5 a6 (by simp [oFC, oAC, oFM, oAM, oFR, oAR, oFW]) (by simp [oFC, oAC, oFM, oAM, oFR, oAR, oFW]) (by simp [oFC, oAC, oFM, oAM, oFR, oAR, oFW]) (by simp [oFC, oAC, oFM, oAM, oFR, oAR, oFW])), CST.nil⟩
  rw [brF c6]
  by_cases c7 : s = 7
  · rw [brT c7]
    obtain ⟨v, fi', fm', arm', a1, a2, a3, a4, a5, a6⟩ := free_alike (nf := nf) hV (by omega)
    simp (disch := omega) only [zgdc, zgd, a1, a2, obnd3_some, eN]
    rw [brT trivial]
    exact ⟨d, h, T, fi', ar, ln, fo, fm', arm', 0, 0, z2 _, a3, (hT.off a4 (offAs.rf (S := [])) a5 a6 (by simp [oFC, oAC, oFM, oAM, oFR, oAR, oFW]) (by simp [oFC, oAC, oFM, oAM, oFR, oAR, oFW]) (by simp [oFC, oAC, oFM, oAM, oFR, oAR, oFW]) (by simp [oFC, oAC, oFM, oAM, oFR, oAR, oFW])), CST.nil⟩
  rw [brF c7]
  by_cases c8 : s = 8
  · rw [brT c8]
    obtain ⟨v, r, fi', ar', ln', kc, ks, fm', arm', a1, a2, a3, a4, a5, a6, a7, a8, a9⟩ := items_alike (nf := nf) hV (by omega)
    obtain ⟨fo', b1, b2⟩ := FL_items_ok (fo := fo) a1 a3
    unfold FL_law_496 M_thrown
    simp (disch := omega) only [zgdc, zgd, b1, a2, obnd6_some, obnd3_some, bnd_eq, eN]
    rw [brT trivial, cmp_val b2]
    exact ⟨d, h, T, fi', ar', ln', fo', fm', arm', _, _, rfl, a4, (hT.off a6 a7 a8 a9 (by simp [oFC, oAC, oFM, oAM, oFR, oAR, oFW]) (by simp [oFC, oAC, oFM, oAM, oFR, oAR, oFW]) (by simp [oFC, oAC, oFM, oAM, oFR, oAR, oFW]) (by simp [oFC, oAC, oFM, oAM, oFR, oAR, oFW])), a5.weak (by omega) (by omega)⟩
  rw [brF c8]
  by_cases c9 : s = 9
  · rw [brT c9]
    obtain ⟨v, r, fi', ar', ln', kc, ks, fm', arm', a1, a2, a3, a4, a5, a6, a7, a8, a9⟩ := letter_alike (nf := nf) hV (xs (i + 1)) (xs (i + 2)) (by omega)
    obtain ⟨fo', b1, b2⟩ := FL_letter_ok (fo := fo) a1 a3
    unfold FL_law_564 M_thrown
    simp (disch := omega) only [zgdc, zgd, e1, k1, e2, k2, b1, a2, obnd6_some, obnd3_some, bnd_eq, eN]
    rw [brT trivial, cmp_val b2]
    exact ⟨d, h, T, fi', ar', ln', fo', fm', arm', _, _, rfl, a4, (hT.off a6 a7 a8 a9 (by simp [oFC, oAC, oFM, oAM, oFR, oAR, oFW]) (by simp [oFC, oAC, oFM, oAM, oFR, oAR, oFW]) (by simp [oFC, oAC, oFM, oAM, oFR, oAR, oFW]) (by simp [oFC, oAC, oFM, oAM, oFR, oAR, oFW])), a5⟩
  rw [brF c9]
  by_cases c10 : s = 10
  · rw [brT c10]
    obtain ⟨v, r, fi', ar', ln', kc, ks, fm', arm', a1, a2, a3, a4, a5, a6, a7, a8, a9⟩ := about_alike (nf := nf) hV (xs (i + 1)) (xs (i + 2)) (by omega)
    obtain ⟨fo', b1, b2⟩ := FL_about_ok (fo := fo) a1 a3
    unfold FL_law_631 M_thrown
    simp (disch := omega) only [zgdc, zgd, e1, k1, e2, k2, b1, a2, obnd6_some, obnd3_some, bnd_eq, eN]
    rw [brT trivial, cmp_val b2]
    exact ⟨d, h, T, fi', ar', ln', fo', fm', arm', _, _, rfl, a4, (hT.off a6 a7 a8 a9 (by simp [oFC, oAC, oFM, oAM, oFR, oAR, oFW]) (by simp [oFC, oAC, oFM, oAM, oFR, oAR, oFW]) (by simp [oFC, oAC, oFM, oAM, oFR, oAR, oFW]) (by simp [oFC, oAC, oFM, oAM, oFR, oAR, oFW])), a5⟩
  rw [brF c10]
  by_cases c11 : s = 11
  · rw [brT c11]
    obtain ⟨v, r, fi', ar', ln', kc, ks, fm', arm', a1, a2, a3, a4, a5, a6, a7, a8, a9⟩ := content_alike (nf := nf) hV (xs (i + 1)) (xs (i + 2)) (by omega)
    obtain ⟨fo', b1, b2⟩ := FL_content_ok (fo := fo) a1 a3
    unfold FL_law_699 M_thrown
    simp (disch := omega) only [zgdc, zgd, e1, k1, e2, k2, b1, a2, obnd6_some, obnd3_some, bnd_eq, eN]
    rw [brT trivial, cmp_val b2]
    exact ⟨d, h, T, fi', ar', ln', fo', fm', arm', _, _, rfl, a4, (hT.off a6 a7 a8 a9 (by simp [oFC, oAC, oFM, oAM, oFR, oAR, oFW]) (by simp [oFC, oAC, oFM, oAM, oFR, oAR, oFW]) (by simp [oFC, oAC, oFM, oAM, oFR, oAR, oFW]) (by simp [oFC, oAC, oFM, oAM, oFR, oAR, oFW])), a5⟩
  rw [brF c11]
  by_cases c12 : s = 12
  · rw [brT c12]
    obtain ⟨v, r, h', fi', ar', ln', kc, ks, fm', arm', a1, a2, a3, a4, a5, a6, a7, a8, a9⟩ := enter_alike (nf := nf) hV (xs (i + 1)) (by omega)
    obtain ⟨fo', b1, b2⟩ := FL_enter_ok (fo := fo) a1 a3
    unfold FL_law_755 M_thrown
    simp (disch := omega) only [zgdc, zgd, e1, k1, b1, a2, obnd6_some, obnd3_some, bnd_eq, eN]
    rw [brT trivial, cmp_val b2]
    exact ⟨d, h', T, fi', ar', ln', fo', fm', arm', _, _, rfl, a4, (hT.off a6 a7 a8 a9 (by simp [oFC, oAC, oFM, oAM, oFR, oAR, oFW]) (by simp [oFC, oAC, oFM, oAM, oFR, oAR, oFW]) (by simp [oFC, oAC, oFM, oAM, oFR, oAR, oFW]) (by simp [oFC, oAC, oFM, oAM, oFR, oAR, oFW])), a5⟩
  rw [brF c12]
  by_cases c13 : s = 13
  · rw [brT c13]
    obtain ⟨v, r, h', fi', ar', ln', kc, ks, fm', arm', a1, a2, a3, a4, a5, a6, a7, a8, a9⟩ := up_alike (nf := nf) hV (by omega)
    obtain ⟨fo', b1, b2⟩ := FL_up_ok (fo := fo) a1 a3
    unfold FL_law_800 FL_law_806 M_thrown
    simp (disch := omega) only [zgdc, zgd, b1, a2, obnd6_some, obnd3_some, bnd_eq, eN]
    have hx : br (v = 0) (br (lg_cmp (fo' (0 : Int32).toNatClampNeg) (0 : Int64) = 0) (K (nI (i + 6)) fi' ar' ln' fo' fm' arm') (some ((0 : Int32), 0, 0))) (br (lg_cmp (fo' (0 : Int32).toNatClampNeg) (1 : Int64) = 0) (K (nI (i + 6)) fi' ar' ln' fo' fm' arm') (some ((0 : Int32), 0, 0))) = br (lg_cmp (fo' (0 : Int32).toNatClampNeg) (if v = 0 then 0 else 1) = 0) (K (nI (i + 6)) fi' ar' ln' fo' fm' arm') (some ((0 : Int32), 0, 0)) := by
      by_cases c : v = 0
      · rw [brT c, if_pos c]
      · rw [brF c, if_neg c]
    rw [brT trivial, hx, cmp_val b2]
    exact ⟨d, h', T, fi', ar', ln', fo', fm', arm', _, _, rfl, a4, (hT.off a6 a7 a8 a9 (by simp [oFC, oAC, oFM, oAM, oFR, oAR, oFW]) (by simp [oFC, oAC, oFM, oAM, oFR, oAR, oFW]) (by simp [oFC, oAC, oFM, oAM, oFR, oAR, oFW]) (by simp [oFC, oAC, oFM, oAM, oFR, oAR, oFW])), a5.weak (by omega) (by omega)⟩
  rw [brF c13]
  by_cases c14 : s = 14
  · rw [brT c14]
    have mk : ∀ t : Int32, ((xs (i + 1) = 0 ∧ t = 0) ∨ (¬ xs (i + 1) = 0 ∧ t = 1)) → ∃ d' h' T' fi' ar' ln' fo' fm' arm' kc ks, FL_law_824 K nf L xs (nI i) t fi ar ln fo fm arm = addc2 kc ks (K (nI (i + 6)) fi' ar' ln' fo' fm' arm') ∧ VOL n ln' fi' ar' fm' arm' d' h' ∧ TAP fi' ar' fm' arm' T' ∧ CST ln ln' kc ks 2 12 := fun t ht => by
      obtain ⟨v, r, d', fi', ar', ln', kc, ks, fm', arm', a1, a2, a3, a4, a5, a6⟩ := make_alike (nf := nf) hV hT t hnf
      obtain ⟨fo', b1, b2⟩ := FL_make_ok (fo := fo) a1 a3
      unfold FL_law_824 FL_law_845 FL_law_878 M_thrown
      simp (disch := omega) only [zgdc, zgd, e1, k1, b1, obnd6_some, bnd_eq, eN]
      rcases ht with ⟨q, rfl⟩ | ⟨q, rfl⟩
      · rw [brT q, a2, obnd3_some, obnd3_some, brT rfl, cmp_val b2]
        exact ⟨d', h, 0, fi', ar', ln', fo', fm', arm', _, _, rfl, a4, a6, a5⟩
      · rw [brF q, a2, obnd3_some, obnd3_some, brT rfl, cmp_val b2]
        exact ⟨d', h, 0, fi', ar', ln', fo', fm', arm', _, _, rfl, a4, a6, a5⟩
    simp (disch := omega) only [zgdc, zgd, e1, k1]
    by_cases q : xs (i + 1) = 0
    · rw [brT q]; exact mk 0 (Or.inl ⟨q, rfl⟩)
    · rw [brF q]; exact mk 1 (Or.inr ⟨q, rfl⟩)
  rw [brF c14]
  by_cases c15 : s = 15
  · rw [brT c15]
    obtain ⟨v, r, d', fi', ar', ln', kc, ks, fm', arm', a1, a2, a3, a4, a5, a6⟩ := write_alike (nf := nf) hV hT (xs (i + 1)) hnf
    obtain ⟨fo', b1, b2⟩ := FL_write_ok (fo := fo) a1 a3
    unfold FL_law_934 M_thrown
    simp (disch := omega) only [zgdc, zgd, e1, k1, b1, a2, obnd6_some, obnd3_some, bnd_eq, eN]
    rw [brT trivial, cmp_val b2]
    exact ⟨d', h, 0, fi', ar', ln', fo', fm', arm', _, _, rfl, a4, a6, a5⟩
  rw [brF c15]
  by_cases c16 : s = 16
  · rw [brT c16]
    obtain ⟨v, r, d', fi', ar', ln', kc, ks, fm', arm', a1, a2, a3, a4, a5, a6, a7, a8, a9⟩ := grow_alike (nf := nf) hV (xs (i + 1)) (xs (i + 2)) (xs (i + 3)) hnf
    obtain ⟨fo', b1, b2⟩ := FL_grow_ok (fo := fo) a1 a3
    unfold FL_law_1014 M_thrown
    simp (disch := omega) only [zgdc, zgd, e1, k1, e2, k2, e3, k3, b1, a2, obnd6_some, obnd3_some, bnd_eq, eN]
    rw [brT trivial, cmp_val b2]
    exact ⟨d', h, T, fi', ar', ln', fo', fm', arm', _, _, rfl, a4, (hT.off a6 a7 a8 a9 (by simp [oFC, oAC, oFM, oAM, oFR, oAR, oFW]) (by simp [oFC, oAC, oFM, oAM, oFR, oAR, oFW]) (by simp [oFC, oAC, oFM, oAM, oFR, oAR, oFW]) (by simp [oFC, oAC, oFM, oAM, oFR, oAR, oFW])), a5⟩
  rw [brF c16]
  by_cases c17 : s = 17
  · rw [brT c17]
    obtain ⟨v, r, d', fi', ar', ln', kc, ks, fm', arm', a1, a2, a3, a4, a5, a6, a7, a8, a9⟩ := cut_alike (nf := nf) hV (xs (i + 1)) (xs (i + 2)) (by omega)
    obtain ⟨fo', b1, b2⟩ := FL_cut_ok (fo := fo) a1 a3
    unfold FL_law_1082 M_thrown
    simp (disch := omega) only [zgdc, zgd, e1, k1, e2, k2, b1, a2, obnd6_some, obnd3_some, bnd_eq, eN]
    rw [brT trivial, cmp_val b2]
    exact ⟨d', h, T, fi', ar', ln', fo', fm', arm', _, _, rfl, a4, (hT.off a6 a7 a8 a9 (by simp [oFC, oAC, oFM, oAM, oFR, oAR, oFW]) (by simp [oFC, oAC, oFM, oAM, oFR, oAR, oFW]) (by simp [oFC, oAC, oFM, oAM, oFR, oAR, oFW]) (by simp [oFC, oAC, oFM, oAM, oFR, oAR, oFW])), a5⟩
  rw [brF c17]
  by_cases c18 : s = 18
  · rw [brT c18]
    obtain ⟨r, d', fi', ar', ln', kc, ks, fm', arm', a1, a2, a3, a4, a5, a6, a7, a8, a9⟩ := remove_alike (nf := nf) hV (xs (i + 1)) (by omega)
    obtain ⟨fo', b1⟩ := FL_remove_ok (fo := fo) a1 a3
    unfold M_thrown
    simp (disch := omega) only [zgdc, zgd, e1, k1, b1, a2, obnd6_some, obnd3_some, bnd_eq, eN]
    rw [brT trivial]
    exact ⟨d', h, T, fi', ar', ln', fo', fm', arm', _, _, rfl, a4, (hT.off a6 a7 a8 a9 (by simp [oFC, oAC, oFM, oAM, oFR, oAR, oFW]) (by simp [oFC, oAC, oFM, oAM, oFR, oAR, oFW]) (by simp [oFC, oAC, oFM, oAM, oFR, oAR, oFW]) (by simp [oFC, oAC, oFM, oAM, oFR, oAR, oFW])), a5⟩
  rw [brF c18]
  by_cases c19 : s = 19
  · rw [brT c19]
    obtain ⟨r, d', fi', ar', ln', kc, ks, fm', arm', a1, a2, a3, a4, a5, a6, a7, a8, a9⟩ := stamp_alike (nf := nf) hV (xs (i + 1)) (xs (i + 2)) (xs (i + 3)) (xs (i + 4)) (by omega)
    obtain ⟨fo', b1⟩ := FL_stamp_ok (fo := fo) a1 a3
    unfold M_thrown
    simp (disch := omega) only [zgdc, zgd, e1, k1, e2, k2, e3, k3, e4, k4, b1, a2, obnd6_some, obnd3_some, bnd_eq, eN]
    rw [brT trivial]
    exact ⟨d', h, T, fi', ar', ln', fo', fm', arm', _, _, rfl, a4, (hT.off a6 a7 a8 a9 (by simp [oFC, oAC, oFM, oAM, oFR, oAR, oFW]) (by simp [oFC, oAC, oFM, oAM, oFR, oAR, oFW]) (by simp [oFC, oAC, oFM, oAM, oFR, oAR, oFW]) (by simp [oFC, oAC, oFM, oAM, oFR, oAR, oFW])), a5⟩
  rw [brF c19]
  rw [eN]
  exact ⟨d, h, T, fi, ar, ln, fo, fm, arm, 0, 0, z2 _, hV, hT, CST.nil⟩
