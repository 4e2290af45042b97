/-! stamp -/
theorem stamp_snd {n h : Nat} {d d' : Nat → Nat} {D : List Nat} {ρ : Nat → Nat} {e : Nat × Nat} (hG : GOK (geoOf n d)) (hS : Snd (geoOf n d) d D ρ) (hh : hf (geoOf n d) h ∈ D) (he : e ∈ dI (geoOf n d) d (hf (geoOf n d) h)) {p : Nat} (hp : p = dA (geoOf n d) d (hf (geoOf n d) h) e.1) (hpa : 512 * (geoOf n d).a ≤ p) (htb : tabOK (geoOf n d) d) (ho : ∀ q, (q < p + 11 ∨ p + 26 ≤ q ∨ q = p + 20 ∨ q = p + 21) → d' q = d q) (hb : d' (p + 11) / 2 = d (p + 11) / 2) (ht : timesOK d' p) : Snd (geoOf n d) d' D ρ ∧ tabOK (geoOf n d) d' ∧ ∀ q, q < 512 → d' q = d q := by
  have b := hG.b
  have hDk := hS.2.2.1 _ hh
  have hE := hDk.ent he
  have h63 : d (p + 11) ≤ 63 := by rw [hp]; exact hE.1.1
  have h8 : d (p + 11) / 8 % 2 = 0 := by rw [hp]; exact hE.2.1.2.2.2.2
  have hz : isDr d p → fo d (p + 28) = 0 := by rw [hp]; exact hE.1.2.2.2.1
  have x5 : ¬ isDr d p → fOK (geoOf n d) d p := by rw [hp]; exact hE.2.2.2.2
  clear hE
  have hT := tab_congr hG (d := d) (d' := d') (fun q _ q2 => ho q (by omega))
  have hfo : fo d' (p + 28) = fo d (p + 28) := by
    unfold fo tw
    rw [ho (p + 28) (by omega), ho (p + 28 + 1) (by omega), ho (p + 28 + 2) (by omega), ho (p + 28 + 2 + 1) (by omega)]
  have hfc : fcl d' p = fcl d p := by
    unfold fcl tw
    rw [ho (p + 20) (by omega), ho (p + 20 + 1) (by omega), ho (p + 26) (by omega), ho (p + 26 + 1) (by omega)]
  have hdr : isDr d' p ↔ isDr d p := by unfold isDr; omega
  have hent : ∀ y, isC (geoOf n d) y → ent (geoOf n d) d' y = ent (geoOf n d) d y := fun y hy => hT.1 y (by omega)
  have hfE : fcE (geoOf n d) d' p = fcE (geoOf n d) d p ∧ (¬ isDr d p → fOK (geoOf n d) d' p) := by
    by_cases q : isDr d p
    · unfold fcE
      rw [if_pos q, if_pos (hdr.mpr q)]
      exact ⟨rfl, fun w => absurd q w⟩
    · have hk := fOK_keep (d := d) (d' := d') (p := p) (p' := p) hfo hfc (x5 q) (fun y hy => by
        have hf : fOK (geoOf n d) d p := x5 q
        obtain ⟨s1, s2, s3⟩ := hf.stp
        rcases s1 with ⟨_, _, w⟩ | w
        · rw [w] at hy; exact absurd hy (by simp)
        · exact hent y (lnk_isC _ _ w y hy))
      unfold fcE
      rw [if_neg q, if_neg (fun w => q (hdr.mp w))]
      exact ⟨hk.2, fun _ => hk.1⟩
  refine ⟨(Snd_entry (add := []) (del := []) hG hS hh he (fun f hf x hx i hi hq => ho _ (by rw [← hp] at hq; omega)) (by rw [← hp]; omega) (by rw [← hp]; exact hdr) (by rw [← hp]; exact ht) (fun q => by rw [← hp] at q ⊢; exact ⟨by rw [hfo]; exact hz q, hfc⟩) (fun q => by rw [← hp] at q ⊢; exact hfE.2 q) (by rw [← hp, hfE.1]) ⟨List.nodup_nil, fun y hy => absurd hy (by simp)⟩ (fun y hy => absurd hy (by simp)) (fun y hy _ _ => hent y hy) (fun y hy hy2 => Or.inr ⟨by rw [← hent y hy]; exact hy2, by simp⟩)).1, hT.2 htb, fun q hq => ho q (by omega)⟩
def fitP (d : Nat → Nat) (p : Nat) (x2 x3 x4 : Int32) : Prop := (x2 = 0 ∧ madP x3 x4 (nI (d (p + 13)))) ∨ (x2 = 1 ∧ x4 = 0 ∧ (x3 = 0 ∨ dayP x3)) ∨ (x2 = 2 ∧ dayP x3 ∧ timP x4) ∨ (x2 = 3 ∧ madP (nI (tw d (p + 16))) (nI (tw d (p + 14))) x4) ∨ (x2 = 4 ∧ (x4 = 0 ∨ x4 = 1))
theorem fits_ok {nf : Nat} {ln : LN} {fi fm : FI} {ar arm : AR} {d : Nat → Nat} (hC : CD ln ar d) (hR : RD arm d) {p : Nat} (hp : p + 32 ≤ 4 * ln 0) (hp2 : p + 32 ≤ 524288) (x2 x3 x4 : Int32) : ∃ t : Int32, ((t = 1 ∧ fitP d p x2 x3 x4) ∨ (t = 0 ∧ ¬ fitP d p x2 x3 x4)) ∧ FX10_stampFits nf ln fi ar (nI p) x2 x3 x4 = some (t, fi, ar) ∧ br (x2 = 0) (obnd3 (M_one nf fm arm (nI p + 13)) fun r81 fi79 ar80 => obnd (M_isMade nf x3 x4 r81) fun r83 => M_stamp_176 nf x2 x3 x4 (nI p) r83 fi79 ar80) (br (x2 = 1) (br (x4 = 0) (br (x3 = 0) (M_stamp_88 nf x2 x3 x4 (nI p) fm arm) (obnd (M_isDay nf x3) fun r76 => br (r76 = 0) (M_stamp_92 nf x2 x3 x4 (nI p) fm arm) (M_stamp_88 nf x2 x3 x4 (nI p) fm arm))) (M_stamp_92 nf x2 x3 x4 (nI p) fm arm)) (br (x2 = 2) (obnd (M_isDay nf x3) fun r68 => br (r68 = 0) (M_stamp_120 nf x2 x3 x4 (nI p) fm arm) (obnd (M_isTime nf x4) fun r71 => br (r71 = 0) (M_stamp_120 nf x2 x3 x4 (nI p) fm arm) (M_stamp_176 nf x2 x3 x4 (nI p) 1 fm arm))) (br (x2 = 3) (obnd3 (M_two nf fm arm (nI p + 16)) fun r60 fi58 ar59 => obnd3 (M_two nf fi58 ar59 (nI p + 14)) fun r64 fi62 ar63 => obnd (M_isMade nf r60 r64 x4) fun r66 => M_stamp_176 nf x2 x3 x4 (nI p) r66 fi62 ar63) (br (x2 = 4) (br (x4 = 0) (M_stamp_171 nf x2 x3 x4 (nI p) fm arm) (br (x4 = 1) (M_stamp_171 nf x2 x3 x4 (nI p) fm arm) (M_stamp_175 nf x2 x3 x4 (nI p) fm arm))) (M_stamp_175 nf x2 x3 x4 (nI p) fm arm))))) = M_stamp_176 nf x2 x3 x4 (nI p) t fm arm := by
  unfold FX10_stampFits FX10_stampFits_70 FX10_stampFits_74 FX10_stampFits_75 FX10_stampFits_95 FX10_stampFits_96 FX10_stampFits_136 FX10_stampFits_141 M_stamp_88 M_stamp_92 M_stamp_120 M_stamp_171 M_stamp_175
  rw [show nI p + (13 : Int32) = nI (p + 13) from nI_add p 13, show nI p + (16 : Int32) = nI (p + 16) from nI_add p 16, show nI p + (14 : Int32) = nI (p + 14) from nI_add p 14]
  by_cases q0 : x2 = 0
  · rw [brT q0, brT q0, FX3_one_eq hC (by omega), obnd3_some, M_one_eq hR (by omega), obnd3_some, made_eq, mad_tot, obnd_some, obnd_some]
    by_cases c : madP x3 x4 (nI (d (p + 13)))
    · rw [if_pos c, zbit1]; exact ⟨1, Or.inl ⟨rfl, Or.inl ⟨q0, c⟩⟩, rfl, rfl⟩
    · rw [if_neg c, zbit0]
      refine ⟨0, Or.inr ⟨rfl, ?_⟩, rfl, rfl⟩
      rw [q0]
      rintro (⟨_, w⟩ | ⟨w, _⟩ | ⟨w, _⟩ | ⟨w, _⟩ | ⟨w, _⟩)
      · exact c w
      all_goals exact absurd w (by decide)
  · rw [brF q0, brF q0]
    by_cases q1 : x2 = 1
    · rw [brT q1, brT q1]
      by_cases c1 : x4 = 0
      · rw [brT c1, brT c1]
        by_cases c2 : x3 = 0
        · rw [brT c2, brT c2, zbit1]; exact ⟨1, Or.inl ⟨rfl, Or.inr (Or.inl ⟨q1, c1, Or.inl c2⟩)⟩, rfl, rfl⟩
        · rw [brF c2, brF c2, day_eq, day_tot, obnd_some, obnd_some]
          by_cases c3 : dayP x3
          · rw [if_pos c3, brF (by decide), brF (by decide), zbit1]; exact ⟨1, Or.inl ⟨rfl, Or.inr (Or.inl ⟨q1, c1, Or.inr c3⟩)⟩, rfl, rfl⟩
          · rw [if_neg c3, brT rfl, brT rfl, zbit0]
            refine ⟨0, Or.inr ⟨rfl, ?_⟩, rfl, rfl⟩
            rw [q1]
            rintro (⟨w, _⟩ | ⟨_, _, w⟩ | ⟨w, _⟩ | ⟨w, _⟩ | ⟨w, _⟩)
            · exact absurd w (by decide)
            · exact w.elim c2 c3
            all_goals exact absurd w (by decide)
      · rw [brF c1, brF c1, zbit0]
        refine ⟨0, Or.inr ⟨rfl, ?_⟩, rfl, rfl⟩
        rw [q1]
        rintro (⟨w, _⟩ | ⟨_, w, _⟩ | ⟨w, _⟩ | ⟨w, _⟩ | ⟨w, _⟩)
        · exact absurd w (by decide)
        · exact c1 w
        all_goals exact absurd w (by decide)
    · rw [brF q1, brF q1]
      by_cases q2 : x2 = 2
      · rw [brT q2, brT q2, day_eq, day_tot, obnd_some, obnd_some, time_eq, tim_tot, obnd_some, obnd_some]
        by_cases c1 : dayP x3
        · rw [if_pos c1, brF (show ¬ (1 : Int32) = 0 by decide), brF (show ¬ (1 : Int32) = 0 by decide)]
          by_cases c2 : timP x4
          · rw [if_pos c2, brF (by decide), brF (by decide), zbit1]; exact ⟨1, Or.inl ⟨rfl, Or.inr (Or.inr (Or.inl ⟨q2, c1, c2⟩))⟩, rfl, rfl⟩
          · rw [if_neg c2, brT rfl, brT rfl, zbit0]
            refine ⟨0, Or.inr ⟨rfl, ?_⟩, rfl, rfl⟩
            rw [q2]
            rintro (⟨w, _⟩ | ⟨w, _⟩ | ⟨_, _, w⟩ | ⟨w, _⟩ | ⟨w, _⟩)
            · exact absurd w (by decide)
            · exact absurd w (by decide)
            · exact c2 w
            all_goals exact absurd w (by decide)
        · rw [if_neg c1, brT rfl, brT rfl, zbit0]
          refine ⟨0, Or.inr ⟨rfl, ?_⟩, rfl, rfl⟩
          rw [q2]
          rintro (⟨w, _⟩ | ⟨w, _⟩ | ⟨_, w, _⟩ | ⟨w, _⟩ | ⟨w, _⟩)
          · exact absurd w (by decide)
          · exact absurd w (by decide)
          · exact c1 w
          all_goals exact absurd w (by decide)
      · rw [brF q2, brF q2]
        by_cases q3 : x2 = 3
        · rw [brT q3, brT q3, FX3_two_eq hC (by omega), obnd3_some, M_two_eq hR (by omega), obnd3_some, FX3_two_eq hC (by omega), obnd3_some, M_two_eq hR (by omega), obnd3_some, made_eq, mad_tot, obnd_some, obnd_some]
          by_cases c : madP (nI (tw d (p + 16))) (nI (tw d (p + 14))) x4
          · rw [if_pos c, zbit1]; exact ⟨1, Or.inl ⟨rfl, Or.inr (Or.inr (Or.inr (Or.inl ⟨q3, c⟩)))⟩, rfl, rfl⟩
          · rw [if_neg c, zbit0]
            refine ⟨0, Or.inr ⟨rfl, ?_⟩, rfl, rfl⟩
            rw [q3]
            rintro (⟨w, _⟩ | ⟨w, _⟩ | ⟨w, _⟩ | ⟨_, w⟩ | ⟨w, _⟩)
            · exact absurd w (by decide)
            · exact absurd w (by decide)
            · exact absurd w (by decide)
            · exact c w
            · exact absurd w (by decide)
        · rw [brF q3, brF q3]
          by_cases q4 : x2 = 4
          · rw [brT q4, brT q4]
            by_cases c1 : x4 = 0
            · rw [brT c1, brT c1, zbit1]; exact ⟨1, Or.inl ⟨rfl, Or.inr (Or.inr (Or.inr (Or.inr ⟨q4, Or.inl c1⟩)))⟩, rfl, rfl⟩
            · rw [brF c1, brF c1]
              by_cases c2 : x4 = 1
              · rw [brT c2, brT c2, zbit1]; exact ⟨1, Or.inl ⟨rfl, Or.inr (Or.inr (Or.inr (Or.inr ⟨q4, Or.inr c2⟩)))⟩, rfl, rfl⟩
              · rw [brF c2, brF c2, zbit0]
                refine ⟨0, Or.inr ⟨rfl, ?_⟩, rfl, rfl⟩
                rw [q4]
                rintro (⟨w, _⟩ | ⟨w, _⟩ | ⟨w, _⟩ | ⟨w, _⟩ | ⟨_, w⟩)
                · exact absurd w (by decide)
                · exact absurd w (by decide)
                · exact absurd w (by decide)
                · exact absurd w (by decide)
                · exact w.elim c1 c2
          · rw [brF q4, brF q4]
            refine ⟨0, Or.inr ⟨rfl, ?_⟩, rfl, rfl⟩
            rintro (⟨w, _⟩ | ⟨w, _⟩ | ⟨w, _⟩ | ⟨w, _⟩ | ⟨w, _⟩)
            · exact q0 w
            · exact q1 w
            · exact q2 w
            · exact q3 w
            · exact q4 w
/-- what both write -/
theorem stamp_wr {nf : Nat} {ln : LN} {fi fm : FI} {ar arm : AR} {d : Nat → Nat} (hb : ∀ p, d p < 256) (hC : CD ln ar d) (hR : RD arm d) {p : Nat} (hp : p + 32 ≤ 4 * ln 0) (hp2 : p + 32 ≤ 524288) (h5 : fm 5 = 0) (ht : timesOK d p) (h63 : d (p + 11) ≤ 63) {x2 x3 x4 : Int32} (hF : fitP d p x2 x3 x4) (hnf : 40000 ≤ nf) : ∃ d' ar' arm', br (x2 = 0) (obnd3 (FX3_putTwo nf ln fi ar (nI p + 14) x4) fun r34 fi32 ar33 => obnd3 (FX3_putTwo nf ln fi32 ar33 (nI p + 16) x3) fun r38 fi36 ar37 => FX10_stamp_191 nf fi36 ar37 ln) (br (x2 = 1) (obnd3 (FX3_putTwo nf ln fi ar (nI p + 18) x3) fun r43 fi41 ar42 => FX10_stamp_191 nf fi41 ar42 ln) (br (x2 = 2) (obnd3 (FX3_putTwo nf ln fi ar (nI p + 22) x4) fun r48 fi46 ar47 => obnd3 (FX3_putTwo nf ln fi46 ar47 (nI p + 24) x3) fun r52 fi50 ar51 => FX10_stamp_191 nf fi50 ar51 ln) (br (x2 = 3) (obnd3 (FX3_putOne nf ln fi ar (nI p + 13) x4) fun r57 fi55 ar56 => FX10_stamp_191 nf fi55 ar56 ln) (obnd3 (FX3_one nf ln fi ar (nI p + 11)) fun r61 fi59 ar60 => obnd3 (FX3_putOne nf ln fi59 ar60 (nI p + 11) ((r61 &&& (-2)) ||| x4)) fun r65 fi63 ar64 => FX10_stamp_191 nf fi63 ar64 ln)))) = some (Sum.inl (), fi, ar', ln, 0, 0) ∧ M_stamp_176 nf x2 x3 x4 (nI p) 1 fm arm = some ((), va_up fm 15 0, arm') ∧ CD ln ar' d' ∧ RD arm' d' ∧ offA 0 ar ar' ∧ offA 1 arm arm' ∧ (∀ q, d' q < 256) ∧ (∀ q, (q < p + 11 ∨ p + 26 ≤ q ∨ q = p + 20 ∨ q = p + 21) → d' q = d q) ∧ d' (p + 11) / 2 = d (p + 11) / 2 ∧ timesOK d' p := by
  have f0 : M_fails nf fm arm 0 3 = _ := fails_eq (nf := nf) (ar := arm) h5 (t := 0) (by decide) 3 (by decide)
  rw [if_pos rfl, if_pos rfl] at f0
  have i13 : nI p + (13 : Int32) = nI (p + 13) := nI_add p 13
  have i11 : nI p + (11 : Int32) = nI (p + 11) := nI_add p 11
  have i14 : nI p + (14 : Int32) = nI (p + 14) := nI_add p 14
  have i16 : nI p + (16 : Int32) = nI (p + 16) := nI_add p 16
  have i18 : nI p + (18 : Int32) = nI (p + 18) := nI_add p 18
  have i22 : nI p + (22 : Int32) = nI (p + 22) := nI_add p 22
  have i24 : nI p + (24 : Int32) = nI (p + 24) := nI_add p 24
  unfold M_stamp_176 M_stamp_189 M_stamp_226 M_stamp_233 M_stamp_242 M_stamp_256 M_stamp_264 M_stamp_282 M_stamp_314 M_changed FX10_stamp_191
  rw [brF (show ¬ (1 : Int32) = 0 by decide), f0, obnd3_some, brT rfl]
  rcases hF with ⟨rfl, hm⟩ | ⟨rfl, rfl, hm⟩ | ⟨rfl, hm, hm2⟩ | ⟨rfl, hm⟩ | ⟨rfl, hm⟩
  · obtain ⟨l1, l2, l3⟩ := madP_lt hm
    obtain ⟨ar1, r1, r2, r3⟩ := FX3_putTwo_ok (nf := nf) (fi := fi) hC (p := p + 14) x4 (by omega)
    obtain ⟨ar2, s1, s2, s3⟩ := FX3_putTwo_ok (nf := nf) (fi := fi) r2 (p := p + 16) x3 (by omega)
    obtain ⟨am1, m1, m2, m3⟩ := M_setI (nf := nf) (fi := fm) hR (p := p + 16) (n := 2) x3 (by omega) (by omega) (by omega)
    obtain ⟨am2, n1, n2, n3⟩ := M_setI (nf := nf) (fi := fm) m2 (p := p + 14) (n := 2) x4 (by omega) (by omega) (by omega)
    rw [wr_comm (by omega)] at n2
    refine ⟨_, ar2, am2, ?_, ?_, s2, n2, r3.tr s3, m3.tr n3, wr_lt (wr_lt hb _ _ _) _ _ _, fun q hq => by rw [wr_out (by omega), wr_out (by omega)], by rw [wr_out (by omega), wr_out (by omega)], ?_⟩
    · rw [brT rfl, i14, i16, r1, obnd3_some, s1, obnd3_some]
    · rw [brF (by decide), brT rfl, i16, show (2 : Int32) = nI 2 from rfl, m1, obnd3_some, brT rfl, brT rfl, i14, n1, obnd3_some, brF (by decide), brF (by decide), bnd_eq, obnd3_some]
    · refine ⟨?_, ?_, ?_, ?_⟩
      · rw [tw_wr_in l1, tw_wr_out (by omega), tw_wr_in l2, wr_out (by omega), wr_out (by omega), nI_uv, nI_uv]; exact hm
      · rw [tw_wr_out (by omega), tw_wr_out (by omega)]; exact ht.2.1
      · rw [tw_wr_out (by omega), tw_wr_out (by omega)]; exact ht.2.2.1
      · rw [tw_wr_out (by omega), tw_wr_out (by omega)]; exact ht.2.2.2
  · have l1 : uv x3 < 65536 := hm.elim (fun w => by rw [w]; decide) dayP_lt
    obtain ⟨ar1, r1, r2, r3⟩ := FX3_putTwo_ok (nf := nf) (fi := fi) hC (p := p + 18) x3 (by omega)
    obtain ⟨am1, m1, m2, m3⟩ := M_setI (nf := nf) (fi := fm) hR (p := p + 18) (n := 2) x3 (by omega) (by omega) (by omega)
    refine ⟨_, ar1, am1, ?_, ?_, r2, m2, r3, m3, wr_lt hb _ _ _, fun q hq => by rw [wr_out (by omega)], by rw [wr_out (by omega)], ?_⟩
    · rw [brF (by decide), brT rfl, i18, r1, obnd3_some]
    · rw [brF (by decide), brF (by decide), brT rfl, i18, show (2 : Int32) = nI 2 from rfl, m1, obnd3_some, brF (by decide), brF (by decide), brF (by decide), brF (by decide), bnd_eq, obnd3_some]
    · refine ⟨?_, ?_, ?_, ?_⟩
      · rw [tw_wr_out (by omega), tw_wr_out (by omega), wr_out (by omega)]; exact ht.1
      · rw [tw_wr_in l1, nI_uv]; exact hm.imp (fun w => by rw [w]; rfl) id
      · rw [tw_wr_out (by omega)]; exact ht.2.2.1
      · rw [tw_wr_out (by omega)]; exact ht.2.2.2
  · have l1 := dayP_lt hm
    have l2 := timP_lt hm2
    obtain ⟨ar1, r1, r2, r3⟩ := FX3_putTwo_ok (nf := nf) (fi := fi) hC (p := p + 22) x4 (by omega)
    obtain ⟨ar2, s1, s2, s3⟩ := FX3_putTwo_ok (nf := nf) (fi := fi) r2 (p := p + 24) x3 (by omega)
    obtain ⟨am1, m1, m2, m3⟩ := M_setI (nf := nf) (fi := fm) hR (p := p + 24) (n := 2) x3 (by omega) (by omega) (by omega)
    obtain ⟨am2, n1, n2, n3⟩ := M_setI (nf := nf) (fi := fm) m2 (p := p + 22) (n := 2) x4 (by omega) (by omega) (by omega)
    rw [wr_comm (by omega)] at n2
    refine ⟨_, ar2, am2, ?_, ?_, s2, n2, r3.tr s3, m3.tr n3, wr_lt (wr_lt hb _ _ _) _ _ _, fun q hq => by rw [wr_out (by omega), wr_out (by omega)], by rw [wr_out (by omega), wr_out (by omega)], ?_⟩
    · rw [brF (by decide), brF (by decide), brT rfl, i22, i24, r1, obnd3_some, s1, obnd3_some]
    · rw [brF (by decide), brF (by decide), brF (by decide), i24, show (2 : Int32) = nI 2 from rfl, m1, obnd3_some, brF (by decide), brT rfl, brF (by decide), i22, n1, obnd3_some, brF (by decide), brF (by decide), bnd_eq, obnd3_some]
    · refine ⟨?_, ?_, ?_, ?_⟩
      · rw [tw_wr_out (by omega), tw_wr_out (by omega), tw_wr_out (by omega), tw_wr_out (by omega), wr_out (by omega), wr_out (by omega)]; exact ht.1
      · rw [tw_wr_out (by omega), tw_wr_out (by omega)]; exact ht.2.1
      · rw [tw_wr_in l1, nI_uv]; exact hm
      · rw [tw_wr_out (by omega), tw_wr_in l2, nI_uv]; exact hm2
  · obtain ⟨l1, l2, l3⟩ := madP_lt hm
    obtain ⟨ar1, r1, r2, r3⟩ := FX3_putOne_ok (nf := nf) (fi := fi) hC (p := p + 13) x4 (by omega)
    obtain ⟨am1, m1, m2, m3⟩ := M_setI (nf := nf) (fi := fm) hR (p := p + 13) (n := 1) x4 (by omega) (by omega) (by omega)
    refine ⟨_, ar1, am1, ?_, ?_, r2, m2, r3, m3, wr_lt hb _ _ _, fun q hq => by rw [wr_out (by omega)], by rw [wr_out (by omega)], ?_⟩
    · rw [brF (by decide), brF (by decide), brF (by decide), brT rfl, i13, r1, obnd3_some]
    · rw [brT (by decide), brF (by decide), brF (by decide), brT rfl, i13, show (1 : Int32) = nI 1 from rfl, m1, obnd3_some, brF (by decide), bnd_eq, obnd3_some]
    · refine ⟨?_, ?_, ?_, ?_⟩
      · rw [tw_wr_out (by omega), tw_wr_out (by omega), wr_in (by omega) (by omega), show p + 13 - (p + 13) = 0 by omega, Nat.pow_zero, Nat.div_one, Nat.mod_eq_of_lt l3, nI_uv]; exact hm
      · rw [tw_wr_out (by omega)]; exact ht.2.1
      · rw [tw_wr_out (by omega)]; exact ht.2.2.1
      · rw [tw_wr_out (by omega)]; exact ht.2.2.2
  · obtain ⟨t, ht2, rfl⟩ : ∃ t, t < 2 ∧ x4 = nI t := hm.elim (fun w => ⟨0, by omega, w⟩) (fun w => ⟨1, by omega, w⟩)
    have dk : ∀ r, r < 64 → ∀ t, t < 2 → ((nI r &&& (-2)) ||| nI t) = nI (r / 2 * 2 + t) ∧ ((nI r &&& (254 : Int32)) ||| nI t) = nI (r / 2 * 2 + t) := by decide
    obtain ⟨k1, k2⟩ := dk _ (show d (p + 11) < 64 by omega) t ht2
    obtain ⟨ar1, r1, r2, r3⟩ := FX3_putOne_ok (nf := nf) (fi := fi) hC (p := p + 11) (nI (d (p + 11) / 2 * 2 + t)) (by omega)
    obtain ⟨am1, m1, m2, m3⟩ := M_setI (nf := nf) (fi := fm) hR (p := p + 11) (n := 1) (nI (d (p + 11) / 2 * 2 + t)) (by omega) (by omega) (by omega)
    refine ⟨_, ar1, am1, ?_, ?_, r2, m2, r3, m3, wr_lt hb _ _ _, fun q hq => by rw [wr_out (by omega)], ?_, ?_⟩
    · rw [brF (by decide), brF (by decide), brF (by decide), brF (by decide), i11, FX3_one_eq hC (by omega), obnd3_some, k1, r1, obnd3_some]
    · rw [brT (by decide), brF (by decide), brF (by decide), brF (by decide), brT rfl, i11, M_one_eq hR (by omega), obnd3_some, k2, show (1 : Int32) = nI 1 from rfl, m1, obnd3_some, bnd_eq, obnd3_some]
    · rw [wr_in (by omega) (by omega), show p + 11 - (p + 11) = 0 by omega, Nat.pow_zero, Nat.div_one, uv_nI (by omega)]; omega
    · refine ⟨?_, ?_, ?_, ?_⟩
      · rw [tw_wr_out (by omega), tw_wr_out (by omega), wr_out (by omega)]; exact ht.1
      · rw [tw_wr_out (by omega)]; exact ht.2.1
      · rw [tw_wr_out (by omega)]; exact ht.2.2.1
      · rw [tw_wr_out (by omega)]; exact ht.2.2.2
