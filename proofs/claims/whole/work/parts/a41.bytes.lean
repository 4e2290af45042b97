/-! bytes are added to a file -/
def adr (G : Geo) (l : List Nat) (a : Nat) : Nat := pl G (l.getD (a / (512 * G.c)) 0) + a % (512 * G.c)
def byD (G : Geo) (l : List Nat) (s : Nat) (v : Nat → Nat) : Nat → Nat → (Nat → Nat) → (Nat → Nat)
  | _, 0, d => d
  | j, m + 1, d => byD G l s v (j + 1) m (wr d (adr G l (s + j)) 1 (v j))
theorem adr_in {G : Geo} (hG : GOK G) {l : List Nat} (hl : clu G l) {a : Nat} (ha : a < l.length * (512 * G.c)) : a / (512 * G.c) < l.length ∧ isC G (l.getD (a / (512 * G.c)) 0) ∧ pl G (l.getD (a / (512 * G.c)) 0) ≤ adr G l a ∧ adr G l a < pl G (l.getD (a / (512 * G.c)) 0) + 512 * G.c := by
  have b := hG.b
  have hB : 0 < 512 * G.c := by omega
  have h1 : a / (512 * G.c) < l.length := (Nat.div_lt_iff_lt_mul hB).mpr ha
  have h2 := Nat.mod_lt a hB
  exact ⟨h1, hl.2 _ (getD_mem h1), by unfold adr; omega, by unfold adr; omega⟩
theorem byD_lt {G : Geo} {l : List Nat} {s : Nat} {v : Nat → Nat} : ∀ (m j : Nat) (d : Nat → Nat), (∀ q, d q < 256) → ∀ q, byD G l s v j m d q < 256
  | 0, _, _, h, q => h q
  | m + 1, j, d, h, q => byD_lt m (j + 1) _ (fun q => wr_lt h _ _ _ q) q
theorem byD_out {G : Geo} (hG : GOK G) {l : List Nat} (hl : clu G l) {s : Nat} {v : Nat → Nat} {q : Nat} (hq : ∀ y, y ∈ l → (q < pl G y ∨ pl G y + 512 * G.c ≤ q)) : ∀ (m j : Nat) (d : Nat → Nat), s + j + m ≤ l.length * (512 * G.c) → byD G l s v j m d q = d q
  | 0, _, _, _ => rfl
  | m + 1, j, d, h => by
    rw [byD, byD_out hG hl hq m (j + 1) _ (by omega)]
    obtain ⟨a1, a2, a3, a4⟩ := adr_in hG hl (a := s + j) (by omega)
    have := hq _ (getD_mem a1)
    rw [wr_out (by omega)]
theorem wr_b {d : Nat → Nat} {p v w : Nat} (h : v % 256 = w % 256) : wr d p 1 v = wr d p 1 w := wr_le4 (fun i hi => by
  have : i = 0 := by omega
  subst this
  rw [Nat.pow_zero, Nat.div_one, Nat.div_one]; exact h)
theorem byM_loop {nf : Nat} {G : Geo} {l : List Nat} {p s cnt : Nat} {x3 x4 : Int32} {fm : FI} {v : Nat → Nat} (hG : GOK G) (hRG : RG fm G) (hl : clu G l) (hs : s + cnt ≤ l.length * (512 * G.c)) (hp : p + 32 ≤ 524288) (hnf : 9 ≤ nf) : ∀ (m j kf : Nat) (arm : AR) (d : Nat → Nat), j + m = cnt → m < kf → RD arm d → (∀ q, q < l.length → arm 29 q = nI (l.getD q 0)) → (∀ j, j < cnt → (x3 = 0 ∧ v j % 256 = uv (x4 + nI j * nI j + (nI j >>> ((8 : Int32) &&& 31))) % 256) ∨ (¬ x3 = 0 ∧ j < 4096 ∧ v j % 256 = uv (arm 2 j) % 256)) → ∃ arm', M_append_195 nf kf (nI cnt) x3 x4 (nI p) (nI s) (nI (512 * G.c)) (nI j) fm arm = some (nI (s + cnt), va_up fm 15 0, arm') ∧ RD arm' (wr (byD G l s v j m d) (p + 28) 4 (s + cnt)) ∧ offA 1 arm arm' := by
  have b := hG.b
  have hlen := hl.len
  have hbig : l.length * (512 * G.c) ≤ 524288 := by
    have h1 : l.length * (512 * G.c) ≤ G.k * (512 * G.c) := Nat.mul_le_mul_right _ hlen
    have h2 : G.k * (512 * G.c) = 512 * (G.k * G.c) := by rw [Nat.mul_left_comm]
    omega
  intro m
  induction m with
  | zero =>
    intro j kf arm d hj hk hR h29 hv
    obtain ⟨kf, rfl⟩ : ∃ k, kf = k + 1 := ⟨kf - 1, by omega⟩
    rw [show M_append_195 nf (kf + 1) = M_append_195b (M_append_195 nf kf) nf from rfl]
    unfold M_append_195b
    obtain ⟨arm', r1, r2, r3⟩ := M_setI (nf := nf) (fi := fm) hR (p := p + 28) (n := 4) (nI (s + cnt)) (by omega) (by omega) hnf
    have r1' : M_set nf fm arm (nI (p + 28)) 4 ((nI (s + cnt)).toInt64) = some ((), fm, arm') := r1
    rw [uv_nI (by omega)] at r2
    rw [brT (nI_le (by omega) (by omega)), show nI p + (28 : Int32) = nI (p + 28) from nI_add p 28, nI_add, r1', obnd3_some]
    unfold M_changed
    rw [bnd_eq, obnd3_some]
    exact ⟨arm', rfl, r2, r3⟩
  | succ m ih =>
    intro j kf arm d hj hk hR h29 hv
    obtain ⟨kf, rfl⟩ : ∃ k, kf = k + 1 := ⟨kf - 1, by omega⟩
    rw [show M_append_195 nf (kf + 1) = M_append_195b (M_append_195 nf kf) nf from rfl]
    unfold M_append_195b M_append_261
    obtain ⟨a1, a2, a3, a4⟩ := adr_in hG hl (a := s + j) (by omega)
    have hin := pl_in hG a2
    have hB : ¬ nI (512 * G.c) = 0 := nI_ne0 (by omega) (by omega)
    have hdiv : nI (s + j) / nI (512 * G.c) = nI ((s + j) / (512 * G.c)) := pk_div (by omega) (by omega) (by omega)
    have hrem : nI (s + j) - nI ((s + j) / (512 * G.c)) * nI (512 * G.c) = nI ((s + j) % (512 * G.c)) := by rw [← hdiv]; exact pk_rem (by omega) (by omega) (by omega)
    have hadr : nI (pl G (l.getD ((s + j) / (512 * G.c)) 0)) + nI ((s + j) % (512 * G.c)) = nI (adr G l (s + j)) := nI_add _ _
    have hlt : adr G l (s + j) < 524288 := by omega
    have hj1 : nI j + (1 : Int32) = nI (j + 1) := nI_add j 1
    have fin : ∀ t2 : Int32, v j % 256 = uv t2 % 256 → ∃ arm', bnd (va_up arm 1 (upd (arm 1) (adr G l (s + j)) (vp_nar .byte t2))) (fun ar2 => bnd (nI j + 1) fun x9_3 => M_append_195 nf kf (nI cnt) x3 x4 (nI p) (nI s) (nI (512 * G.c)) x9_3 fm ar2) = some (nI (s + cnt), va_up fm 15 0, arm') ∧ RD arm' (wr (byD G l s v j (m + 1) d) (p + 28) 4 (s + cnt)) ∧ offA 1 arm arm' := fun t2 ht => by
      have o1 : offA 1 arm (va_up arm 1 (upd (arm 1) (adr G l (s + j)) (vp_nar .byte t2))) := fun z hz => va_up_off hz
      have h0 := RD_put hR (a := adr G l (s + j)) t2
      rw [wr_b ht.symm] at h0
      obtain ⟨arm', s1, s2, s3⟩ := ih (j + 1) kf _ _ (by omega) (by omega) h0 (fun q hq => by rw [o1 29 (by decide)]; exact h29 q hq) (fun i hi => by rw [o1 2 (by decide)]; exact hv i hi)
      exact ⟨arm', by rw [bnd_eq, bnd_eq, hj1]; exact s1, s2, o1.tr s3⟩
    rw [brF (nI_ge (by omega) (by omega)), bnd_eq, nI_add, gdT hB, hdiv, zgd (by omega) (by omega), nI_clamp (by omega), h29 _ a1, RW.place ⟨hR, hRG, hG⟩ a2.1, obnd3_some, gdT hB, hrem, hadr]
    rcases hv j (by omega) with ⟨w1, w2⟩ | ⟨w1, w2, w3⟩
    · rw [brT w1, zgd hlt (by omega), nI_clamp (by omega)]
      exact fin _ (by rw [uv_byte]; exact w2)
    · rw [brF w1, zgd w2 (by omega), zgd hlt (by omega), nI_clamp (by omega), nI_clamp (by omega)]
      exact fin _ w3
/-- where the class's FileEnd stands before byte a -/
def FE (fi : FI) (G : Geo) (l : List Nat) (a : Nat) : Prop := ∃ c o, c * (512 * G.c) + o = a ∧ o ≤ 512 * G.c ∧ c < l.length ∧ fi 80 = nI (l.getD c 0) ∧ fi 81 = nI (pl G (l.getD c 0) + o) ∧ fi 82 = nI (512 * G.c - o)
theorem append50_ok {nf : Nat} {ln : LN} {fi : FI} {ar : AR} {G : Geo} {d : Nat → Nat} {l : List Nat} {a c o : Nat} (hW : CW ln fi ar G d) (hl : clu G l) (h1 : c * (512 * G.c) + o = a) (h2 : o < 512 * G.c) (h3 : c < l.length) (h80 : fi 80 = nI (l.getD c 0)) (h81 : fi 81 = nI (pl G (l.getD c 0) + o)) (h82 : fi 82 = nI (512 * G.c - o)) (x : Int32) : ∃ fi' ar', FX4_append_50 nf ln x fi ar = some ((), fi', ar') ∧ CW ln fi' ar' G (wr d (adr G l a) 1 (uv x)) ∧ FE fi' G l (a + 1) ∧ offF [80, 81, 82] fi fi' ∧ offA 0 ar ar' := by
  have hG := hW.2.2.1
  have b := hG.b
  have hC := hl.2 _ (getD_mem h3)
  have hin := pl_in hG hC
  have hl0 : ln 0 = 128 * G.n := hW.2.2.2
  have hB : 0 < 512 * G.c := by omega
  have hdv : a / (512 * G.c) = c := by rw [← h1, Nat.mul_comm, Nat.mul_add_div hB, Nat.div_eq_of_lt h2, Nat.add_zero]
  have hmd : a % (512 * G.c) = o := by rw [← h1, Nat.mul_comm, Nat.mul_add_mod, Nat.mod_eq_of_lt h2]
  have hadr : adr G l a = pl G (l.getD c 0) + o := by unfold adr; rw [hdv, hmd]
  obtain ⟨ar', r1, r2, r3⟩ := FX3_putOne_ok (nf := nf) (fi := fi) hW.1 (p := pl G (l.getD c 0) + o) x (by omega)
  unfold FX4_append_50
  rw [h81, r1, obnd3_some, gdT ⟨rfl, h81, rfl⟩, bnd_eq, bnd_eq]
  have o1 : offF [80, 81, 82] fi (va_up (va_up fi 81 (fi 81 + 1)) 82 ((va_up fi 81 (fi 81 + 1)) 82 - 1)) := (offF.rf.up (by simp)).up (by simp)
  refine ⟨_, ar', rfl, ?_, ⟨c, o + 1, by omega, by omega, h3, ?_, ?_, ?_⟩, o1, r3⟩
  · rw [hadr]
    have := hW.off (S := [80, 81, 82]) (T := []) o1 offAs.rf (by simp) (by simp)
    exact ⟨r2, this.2⟩
  · rw [va_up_off (by decide), va_up_off (by decide)]; exact h80
  · rw [va_up_off (by decide), va_up_self, h81]; exact nI_add _ 1
  · rw [va_up_self, va_up_off (by decide), h82, show nI (512 * G.c - o) - (1 : Int32) = nI (512 * G.c - o - 1) from nI_sub (b := 1) (by omega), Nat.sub_sub]
theorem mask1 {c : Nat} (hc : c = 2 ∨ c = 4 ∨ c = 8) : (512 : Int32) <<< (nI (shC c) &&& 31) - 1 + 1 = nI (512 * c) := by
  have : (512 : Int32) <<< (nI (shC c) &&& 31) = nI (512 * c) := shlC (y := 512) hc (by omega)
  rw [this, show nI (512 * c) - (1 : Int32) = nI (512 * c - 1) from nI_sub (b := 1) (by omega), show nI (512 * c - 1) + (1 : Int32) = nI (512 * c - 1 + 1) from nI_add _ 1, show 512 * c - 1 + 1 = 512 * c by omega]
theorem append_ok {nf : Nat} {ln : LN} {fi : FI} {ar : AR} {G : Geo} {d : Nat → Nat} {l : List Nat} {a : Nat} (hW : CW ln fi ar G d) (hl : clu G l) (hlk : ∀ c, c + 1 < l.length → ent G d (l.getD c 0) = l.getD (c + 1) 0) (hF : FE fi G l a) (ha : a < l.length * (512 * G.c)) (x : Int32) : ∃ fi' ar', FX4_append nf ln fi ar x = some ((), fi', ar') ∧ CW ln fi' ar' G (wr d (adr G l a) 1 (uv x)) ∧ FE fi' G l (a + 1) ∧ offF [80, 81, 82] fi fi' ∧ offA 0 ar ar' := by
  have hG := hW.2.2.1
  have b := hG.b
  have hc := hG.1.1
  obtain ⟨c, o, h1, h2, h3, h80, h81, h82⟩ := hF
  have hC := hl.2 _ (getD_mem h3)
  have hC2 := hC.2
  unfold FX4_append
  by_cases q : o = 512 * G.c
  · have hc1 : c + 1 < l.length := by
      apply Decidable.byContradiction
      intro w
      have e : l.length = c + 1 := by omega
      rw [e, Nat.succ_mul] at ha
      omega
    have hC1 := hl.2 _ (getD_mem hc1)
    have g6 : fi 6 = nI (shC G.c) := hW.2.1.2.2.2.1
    have hA := addressOf_eq (nf := nf) (hW.upF (k := 80) (v := nI (l.getD (c + 1) 0)) (by simp)) hC1
    obtain ⟨fiX, hfX⟩ : ∃ fiX, fiX = va_up (va_up (va_up fi 80 (nI (l.getD (c + 1) 0))) 81 (nI (pl G (l.getD (c + 1) 0)))) 82 (nI (512 * G.c)) := ⟨_, rfl⟩
    have oX : offF [80, 81, 82] fi fiX := by rw [hfX]; exact ((offF.rf.up (by simp)).up (by simp)).up (by simp)
    have hWX : CW ln fiX ar G d := hW.off (S := [80, 81, 82]) (T := []) oX offAs.rf (by simp) (by simp)
    obtain ⟨fi', ar', r1, r2, r3, r4, r5⟩ := append50_ok (nf := nf) hWX hl (a := a) (c := c + 1) (o := 0) (by rw [Nat.succ_mul]; omega) (by omega) hc1 (by rw [hfX, va_up_off (by decide), va_up_off (by decide), va_up_self]) (by rw [hfX, va_up_off (by decide), va_up_self]; rfl) (by rw [hfX, va_up_self, Nat.sub_zero]) x
    refine ⟨fi', ar', ?_, r2, r3, oX.tr r4, r5⟩
    rw [brT (by rw [h82, q, Nat.sub_self]; rfl), h80, hW.next (by omega), obnd3_some, gdT ⟨h80, rfl, rfl⟩, bnd_eq, hlk c hc1, va_up_self, hA, obnd3_some, gdT ⟨va_up_self _ _ _, rfl, rfl⟩, bnd_eq]
    unfold FX9_byteMask
    rw [obnd3_some, gdT ⟨rfl, rfl, rfl⟩, bnd_eq, va_up_off (by decide), va_up_off (by decide), g6, mask1 hc, ← hfX]
    exact r1
  · rw [brF (by rw [h82]; exact nI_ne0 (by omega) (by omega))]
    exact append50_ok hW hl h1 (by omega) h3 h80 h81 h82 x
