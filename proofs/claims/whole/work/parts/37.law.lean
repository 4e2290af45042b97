noncomputable def FL_law_1193 (K33 : Int32 → FI → AR → LN → (Nat → Int64) → FI → AR → Option (Int32 × Nat × Nat)) (nf L : Nat) (xs : Nat → Int32) (x4 : Int32) (fi : FI) (ar : AR) (ln : LN) (fo : Nat → Int64) (fm : FI) (arm : AR) : Option (Int32 × Nat × Nat) :=
  bnd ((x4) + (6 : Int32)) fun x4_1 => K33 (x4_1) fi ar ln fo fm arm
noncomputable def FL_law_1082 (K33 : Int32 → FI → AR → LN → (Nat → Int64) → FI → AR → Option (Int32 × Nat × Nat)) (nf L : Nat) (xs : Nat → Int32) (x4 : Int32) (fi : FI) (ar : AR) (ln : LN) (fo : Nat → Int64) (fm : FI) (arm : AR) : Option (Int32 × Nat × Nat) :=
  FL_law_1193 K33 nf L xs  (x4) fi ar ln fo fm arm
noncomputable def FL_law_1014 (K33 : Int32 → FI → AR → LN → (Nat → Int64) → FI → AR → Option (Int32 × Nat × Nat)) (nf L : Nat) (xs : Nat → Int32) (x4 : Int32) (fi : FI) (ar : AR) (ln : LN) (fo : Nat → Int64) (fm : FI) (arm : AR) : Option (Int32 × Nat × Nat) :=
  FL_law_1193 K33 nf L xs  (x4) fi ar ln fo fm arm
noncomputable def FL_law_934 (K33 : Int32 → FI → AR → LN → (Nat → Int64) → FI → AR → Option (Int32 × Nat × Nat)) (nf L : Nat) (xs : Nat → Int32) (x4 : Int32) (fi : FI) (ar : AR) (ln : LN) (fo : Nat → Int64) (fm : FI) (arm : AR) : Option (Int32 × Nat × Nat) :=
  FL_law_1193 K33 nf L xs  (x4) fi ar ln fo fm arm
noncomputable def FL_law_878 (K33 : Int32 → FI → AR → LN → (Nat → Int64) → FI → AR → Option (Int32 × Nat × Nat)) (nf L : Nat) (xs : Nat → Int32) (x4 : Int32) (fi : FI) (ar : AR) (ln : LN) (fo : Nat → Int64) (fm : FI) (arm : AR) : Option (Int32 × Nat × Nat) :=
  FL_law_1193 K33 nf L xs  (x4) fi ar ln fo fm arm
noncomputable def FL_law_845 (K33 : Int32 → FI → AR → LN → (Nat → Int64) → FI → AR → Option (Int32 × Nat × Nat)) (nf L : Nat) (xs : Nat → Int32) (x4 : Int32) (x5 : Int32) (t1 : Int32) (fi : FI) (ar : AR) (ln : LN) (fo : Nat → Int64) (fm : FI) (arm : AR) : Option (Int32 × Nat × Nat) :=
  obnd3 (M_make nf fm arm (t1)) fun r3 fm4 arm5 => obnd3 (M_thrown nf fm4 arm5) fun r7 fm8 arm9 => br ((r7) = (x5)) (br ((x5) = 0) (br ((lg_cmp (fo (0 : Int32).toNatClampNeg) ((r3).toInt64)) = 0) (FL_law_878 K33 nf L xs  (x4) fi ar ln fo fm8 arm9) (some ((0 : Int32), 0, 0))) (FL_law_878 K33 nf L xs  (x4) fi ar ln fo fm8 arm9)) (some ((0 : Int32), 0, 0))
noncomputable def FL_law_824 (K33 : Int32 → FI → AR → LN → (Nat → Int64) → FI → AR → Option (Int32 × Nat × Nat)) (nf L : Nat) (xs : Nat → Int32) (x4 : Int32) (t1 : Int32) (fi : FI) (ar : AR) (ln : LN) (fo : Nat → Int64) (fm : FI) (arm : AR) : Option (Int32 × Nat × Nat) :=
  obnd6 (FL_make nf fi ar ln fo (t1)) fun r17 fi14 ar15 ln16 kc18 ks19 => addc2 (kc18) (ks19) (bnd (r17.1) fun x5_23 => gd (¬ (((x4) + (1 : Int32)) < 0 ∨ L ≤ ((x4) + (1 : Int32)).toNatClampNeg)) (br ((xs ((x4) + (1 : Int32)).toNatClampNeg) = 0) (FL_law_845 K33 nf L xs  (x4) (x5_23) (0 : Int32) fi14 ar15 ln16 r17.2 fm arm) (FL_law_845 K33 nf L xs  (x4) (x5_23) (1 : Int32) fi14 ar15 ln16 r17.2 fm arm)))
noncomputable def FL_law_806 (K33 : Int32 → FI → AR → LN → (Nat → Int64) → FI → AR → Option (Int32 × Nat × Nat)) (nf L : Nat) (xs : Nat → Int32) (x4 : Int32) (fi : FI) (ar : AR) (ln : LN) (fo : Nat → Int64) (fm : FI) (arm : AR) : Option (Int32 × Nat × Nat) :=
  FL_law_1193 K33 nf L xs  (x4) fi ar ln fo fm arm
noncomputable def FL_law_800 (K33 : Int32 → FI → AR → LN → (Nat → Int64) → FI → AR → Option (Int32 × Nat × Nat)) (nf L : Nat) (xs : Nat → Int32) (x4 : Int32) (t0 : Int64) (t1 : Int64) (fi : FI) (ar : AR) (ln : LN) (fo : Nat → Int64) (fm : FI) (arm : AR) : Option (Int32 × Nat × Nat) :=
  br ((lg_cmp (t0) (t1)) = 0) (FL_law_806 K33 nf L xs  (x4) fi ar ln fo fm arm) (some ((0 : Int32), 0, 0))
noncomputable def FL_law_755 (K33 : Int32 → FI → AR → LN → (Nat → Int64) → FI → AR → Option (Int32 × Nat × Nat)) (nf L : Nat) (xs : Nat → Int32) (x4 : Int32) (fi : FI) (ar : AR) (ln : LN) (fo : Nat → Int64) (fm : FI) (arm : AR) : Option (Int32 × Nat × Nat) :=
  FL_law_1193 K33 nf L xs  (x4) fi ar ln fo fm arm
noncomputable def FL_law_699 (K33 : Int32 → FI → AR → LN → (Nat → Int64) → FI → AR → Option (Int32 × Nat × Nat)) (nf L : Nat) (xs : Nat → Int32) (x4 : Int32) (fi : FI) (ar : AR) (ln : LN) (fo : Nat → Int64) (fm : FI) (arm : AR) : Option (Int32 × Nat × Nat) :=
  FL_law_1193 K33 nf L xs  (x4) fi ar ln fo fm arm
noncomputable def FL_law_631 (K33 : Int32 → FI → AR → LN → (Nat → Int64) → FI → AR → Option (Int32 × Nat × Nat)) (nf L : Nat) (xs : Nat → Int32) (x4 : Int32) (fi : FI) (ar : AR) (ln : LN) (fo : Nat → Int64) (fm : FI) (arm : AR) : Option (Int32 × Nat × Nat) :=
  FL_law_1193 K33 nf L xs  (x4) fi ar ln fo fm arm
noncomputable def FL_law_564 (K33 : Int32 → FI → AR → LN → (Nat → Int64) → FI → AR → Option (Int32 × Nat × Nat)) (nf L : Nat) (xs : Nat → Int32) (x4 : Int32) (fi : FI) (ar : AR) (ln : LN) (fo : Nat → Int64) (fm : FI) (arm : AR) : Option (Int32 × Nat × Nat) :=
  FL_law_1193 K33 nf L xs  (x4) fi ar ln fo fm arm
noncomputable def FL_law_496 (K33 : Int32 → FI → AR → LN → (Nat → Int64) → FI → AR → Option (Int32 × Nat × Nat)) (nf L : Nat) (xs : Nat → Int32) (x4 : Int32) (fi : FI) (ar : AR) (ln : LN) (fo : Nat → Int64) (fm : FI) (arm : AR) : Option (Int32 × Nat × Nat) :=
  FL_law_1193 K33 nf L xs  (x4) fi ar ln fo fm arm
noncomputable def FL_law_340 (K33 : Int32 → FI → AR → LN → (Nat → Int64) → FI → AR → Option (Int32 × Nat × Nat)) (nf L : Nat) (xs : Nat → Int32) (x4 : Int32) (fi : FI) (ar : AR) (ln : LN) (fo : Nat → Int64) (fm : FI) (arm : AR) : Option (Int32 × Nat × Nat) :=
  FL_law_1193 K33 nf L xs  (x4) fi ar ln fo fm arm
noncomputable def FL_law_33b (K33 : Int32 → FI → AR → LN → (Nat → Int64) → FI → AR → Option (Int32 × Nat × Nat)) (nf L : Nat) (xs : Nat → Int32) (x4 : Int32) (fi : FI) (ar : AR) (ln : LN) (fo : Nat → Int64) (fm : FI) (arm : AR) : Option (Int32 × Nat × Nat) :=
  br (((Int32.ofNat L) - (6 : Int32)) < (x4)) (some ((1 : Int32), 0, 0)) (gd (¬ ((x4) < 0 ∨ L ≤ (x4).toNatClampNeg)) (br (((xs (x4).toNatClampNeg) &&& (31 : Int32)) = (0 : Int32)) (gd (¬ (((x4) + (1 : Int32)) < 0 ∨ L ≤ ((x4) + (1 : Int32)).toNatClampNeg)) (gd (¬ (((x4) + (2 : Int32)) < 0 ∨ L ≤ ((x4) + (2 : Int32)).toNatClampNeg)) (gd (¬ (((x4) + (3 : Int32)) < 0 ∨ L ≤ ((x4) + (3 : Int32)).toNatClampNeg)) (gd (¬ (((x4) + (4 : Int32)) < 0 ∨ L ≤ ((x4) + (4 : Int32)).toNatClampNeg)) (gd (¬ (((x4) + (5 : Int32)) < 0 ∨ L ≤ ((x4) + (5 : Int32)).toNatClampNeg)) (obnd3 (FX10_feed nf ln fi ar (xs ((x4) + (1 : Int32)).toNatClampNeg) (xs ((x4) + (2 : Int32)).toNatClampNeg) (xs ((x4) + (3 : Int32)).toNatClampNeg) (xs ((x4) + (4 : Int32)).toNatClampNeg) (xs ((x4) + (5 : Int32)).toNatClampNeg)) fun r36 fi37 ar38 => gd (¬ (((x4) + (1 : Int32)) < 0 ∨ L ≤ ((x4) + (1 : Int32)).toNatClampNeg)) (gd (¬ (((x4) + (2 : Int32)) < 0 ∨ L ≤ ((x4) + (2 : Int32)).toNatClampNeg)) (gd (¬ (((x4) + (3 : Int32)) < 0 ∨ L ≤ ((x4) + (3 : Int32)).toNatClampNeg)) (gd (¬ (((x4) + (4 : Int32)) < 0 ∨ L ≤ ((x4) + (4 : Int32)).toNatClampNeg)) (gd (¬ (((x4) + (5 : Int32)) < 0 ∨ L ≤ ((x4) + (5 : Int32)).toNatClampNeg)) (obnd3 (M_feed nf fm arm (xs ((x4) + (1 : Int32)).toNatClampNeg) (xs ((x4) + (2 : Int32)).toNatClampNeg) (xs ((x4) + (3 : Int32)).toNatClampNeg) (xs ((x4) + (4 : Int32)).toNatClampNeg) (xs ((x4) + (5 : Int32)).toNatClampNeg)) fun r45 fm46 arm47 => FL_law_1193 K33 nf L xs  (x4) fi37 ar38 ln fo fm46 arm47))))))))))) (br (((xs (x4).toNatClampNeg) &&& (31 : Int32)) = (1 : Int32)) (gd (¬ (((x4) + (1 : Int32)) < 0 ∨ L ≤ ((x4) + (1 : Int32)).toNatClampNeg)) (obnd3 (FX10_end nf ln fi ar (xs ((x4) + (1 : Int32)).toNatClampNeg)) fun r51 fi52 ar53 => gd (¬ (((x4) + (1 : Int32)) < 0 ∨ L ≤ ((x4) + (1 : Int32)).toNatClampNeg)) (obnd3 (M_end nf fm arm (xs ((x4) + (1 : Int32)).toNatClampNeg)) fun r56 fm57 arm58 => br ((r51) = (r56)) (FL_law_1193 K33 nf L xs  (x4) fi52 ar53 ln fo fm57 arm58) (some ((0 : Int32), 0, 0))))) (br (((xs (x4).toNatClampNeg) &&& (31 : Int32)) = (2 : Int32)) (obnd3 (FX10_clear nf ln fi ar) fun r62 fi63 ar64 => obnd3 (M_clear nf fm arm) fun r66 fm67 arm68 => FL_law_1193 K33 nf L xs  (x4) fi63 ar64 ln fo fm67 arm68) (br (((xs (x4).toNatClampNeg) &&& (31 : Int32)) = (3 : Int32)) (gd (¬ (((x4) + (1 : Int32)) < 0 ∨ L ≤ ((x4) + (1 : Int32)).toNatClampNeg)) (gd (¬ (((x4) + (2 : Int32)) < 0 ∨ L ≤ ((x4) + (2 : Int32)).toNatClampNeg)) (gd (¬ (((x4) + (3 : Int32)) < 0 ∨ L ≤ ((x4) + (3 : Int32)).toNatClampNeg)) (gd (¬ (((x4) + (4 : Int32)) < 0 ∨ L ≤ ((x4) + (4 : Int32)).toNatClampNeg)) (obnd6 (FL_format nf fi ar ln fo (xs ((x4) + (1 : Int32)).toNatClampNeg) (xs ((x4) + (2 : Int32)).toNatClampNeg) (xs ((x4) + (3 : Int32)).toNatClampNeg) (xs ((x4) + (4 : Int32)).toNatClampNeg)) fun r78 fi75 ar76 ln77 kc79 ks80 => addc2 (kc79) (ks80) (bnd (r78.1) fun x5_84 => gd (¬ (((x4) + (1 : Int32)) < 0 ∨ L ≤ ((x4) + (1 : Int32)).toNatClampNeg)) (gd (¬ (((x4) + (2 : Int32)) < 0 ∨ L ≤ ((x4) + (2 : Int32)).toNatClampNeg)) (gd (¬ (((x4) + (3 : Int32)) < 0 ∨ L ≤ ((x4) + (3 : Int32)).toNatClampNeg)) (gd (¬ (((x4) + (4 : Int32)) < 0 ∨ L ≤ ((x4) + (4 : Int32)).toNatClampNeg)) (obnd3 (M_format nf fm arm (xs ((x4) + (1 : Int32)).toNatClampNeg) (xs ((x4) + (2 : Int32)).toNatClampNeg) (xs ((x4) + (3 : Int32)).toNatClampNeg) (xs ((x4) + (4 : Int32)).toNatClampNeg)) fun r90 fm91 arm92 => obnd3 (M_thrown nf fm91 arm92) fun r94 fm95 arm96 => br ((r94) = (x5_84)) (br ((x5_84) = 0) (br ((lg_cmp (r78.2 (0 : Int32).toNatClampNeg) ((r90).toInt64)) = 0) (FL_law_340 K33 nf L xs  (x4) fi75 ar76 ln77 r78.2 fm95 arm96) (some ((0 : Int32), 0, 0))) (FL_law_340 K33 nf L xs  (x4) fi75 ar76 ln77 r78.2 fm95 arm96)) (some ((0 : Int32), 0, 0)))))))))))) (br (((xs (x4).toNatClampNeg) &&& (31 : Int32)) = (4 : Int32)) (gd (¬ (((x4) + (1 : Int32)) < 0 ∨ L ≤ ((x4) + (1 : Int32)).toNatClampNeg)) (gd (¬ (((x4) + (2 : Int32)) < 0 ∨ L ≤ ((x4) + (2 : Int32)).toNatClampNeg)) (gd (¬ (((x4) + (3 : Int32)) < 0 ∨ L ≤ ((x4) + (3 : Int32)).toNatClampNeg)) (obnd3 (FX10_poke nf ln fi ar (xs ((x4) + (1 : Int32)).toNatClampNeg) (xs ((x4) + (2 : Int32)).toNatClampNeg) (xs ((x4) + (3 : Int32)).toNatClampNeg)) fun r105 fi106 ar107 => gd (¬ (((x4) + (1 : Int32)) < 0 ∨ L ≤ ((x4) + (1 : Int32)).toNatClampNeg)) (gd (¬ (((x4) + (2 : Int32)) < 0 ∨ L ≤ ((x4) + (2 : Int32)).toNatClampNeg)) (gd (¬ (((x4) + (3 : Int32)) < 0 ∨ L ≤ ((x4) + (3 : Int32)).toNatClampNeg)) (obnd3 (M_poke nf fm arm (xs ((x4) + (1 : Int32)).toNatClampNeg) (xs ((x4) + (2 : Int32)).toNatClampNeg) (xs ((x4) + (3 : Int32)).toNatClampNeg)) fun r112 fm113 arm114 => br ((r105) = (r112)) (FL_law_1193 K33 nf L xs  (x4) fi106 ar107 ln fo fm113 arm114) (some ((0 : Int32), 0, 0))))))))) (br (((xs (x4).toNatClampNeg) &&& (31 : Int32)) = (5 : Int32)) (obnd6 (FX10_fault nf fi ar ln) fun r118 fi119 ar120 ln121 kc122 ks123 => addc2 (kc122) (ks123) (obnd3 (M_fault nf fm arm) fun r128 fm129 arm130 => br ((r118) = (r128)) (FL_law_1193 K33 nf L xs  (x4) fi119 ar120 ln121 fo fm129 arm130) (some ((0 : Int32), 0, 0)))) (br (((xs (x4).toNatClampNeg) &&& (31 : Int32)) = (6 : Int32)) (gd (¬ (((x4) + (1 : Int32)) < 0 ∨ L ≤ ((x4) + (1 : Int32)).toNatClampNeg)) (gd (¬ (((x4) + (2 : Int32)) < 0 ∨ L ≤ ((x4) + (2 : Int32)).toNatClampNeg)) (obnd3 (FX10_byteAt nf ln fi ar (xs ((x4) + (1 : Int32)).toNatClampNeg) (xs ((x4) + (2 : Int32)).toNatClampNeg)) fun r136 fi137 ar138 => gd (¬ (((x4) + (1 : Int32)) < 0 ∨ L ≤ ((x4) + (1 : Int32)).toNatClampNeg)) (gd (¬ (((x4) + (2 : Int32)) < 0 ∨ L ≤ ((x4) + (2 : Int32)).toNatClampNeg)) (obnd3 (M_byteAt nf fm arm (xs ((x4) + (1 : Int32)).toNatClampNeg) (xs ((x4) + (2 : Int32)).toNatClampNeg)) fun r142 fm143 arm144 => br ((r136) = (r142)) (FL_law_1193 K33 nf L xs  (x4) fi137 ar138 ln fo fm143 arm144) (some ((0 : Int32), 0, 0))))))) (br (((xs (x4).toNatClampNeg) &&& (31 : Int32)) = (7 : Int32)) (obnd3 (FX10_free nf ln fi ar) fun r148 fi149 ar150 => obnd3 (M_free nf fm arm) fun r152 fm153 arm154 => br ((r148) = (r152)) (FL_law_1193 K33 nf L xs  (x4) fi149 ar150 ln fo fm153 arm154) (some ((0 : Int32), 0, 0))) (br (((xs (x4).toNatClampNeg) &&& (31 : Int32)) = (8 : Int32)) (obnd6 (FL_items nf fi ar ln fo) fun r161 fi158 ar159 ln160 kc162 ks163 => addc2 (kc162) (ks163) (bnd (r161.1) fun x5_167 => obnd3 (M_items nf fm arm) fun r169 fm170 arm171 => obnd3 (M_thrown nf fm170 arm171) fun r173 fm174 arm175 => br ((r173) = (x5_167)) (br ((x5_167) = 0) (br ((lg_cmp (r161.2 (0 : Int32).toNatClampNeg) ((r169).toInt64)) = 0) (FL_law_496 K33 nf L xs  (x4) fi158 ar159 ln160 r161.2 fm174 arm175) (some ((0 : Int32), 0, 0))) (FL_law_496 K33 nf L xs  (x4) fi158 ar159 ln160 r161.2 fm174 arm175)) (some ((0 : Int32), 0, 0)))) (br (((xs (x4).toNatClampNeg) &&& (31 : Int32)) = (9 : Int32)) (gd (¬ (((x4) + (1 : Int32)) < 0 ∨ L ≤ ((x4) + (1 : Int32)).toNatClampNeg)) (gd (¬ (((x4) + (2 : Int32)) < 0 ∨ L ≤ ((x4) + (2 : Int32)).toNatClampNeg)) (obnd6 (FL_letter nf fi ar ln fo (xs ((x4) + (1 : Int32)).toNatClampNeg) (xs ((x4) + (2 : Int32)).toNatClampNeg)) fun r186 fi183 ar184 ln185 kc187 ks188 => addc2 (kc187) (ks188) (bnd (r186.1) fun x5_192 => gd (¬ (((x4) + (1 : Int32)) < 0 ∨ L ≤ ((x4) + (1 : Int32)).toNatClampNeg)) (gd (¬ (((x4) + (2 : Int32)) < 0 ∨ L ≤ ((x4) + (2 : Int32)).toNatClampNeg)) (obnd3 (M_letter nf fm arm (xs ((x4) + (1 : Int32)).toNatClampNeg) (xs ((x4) + (2 : Int32)).toNatClampNeg)) fun r196 fm197 arm198 => obnd3 (M_thrown nf fm197 arm198) fun r200 fm201 arm202 => br ((r200) = (x5_192)) (br ((x5_192) = 0) (br ((lg_cmp (r186.2 (0 : Int32).toNatClampNeg) ((r196).toInt64)) = 0) (FL_law_564 K33 nf L xs  (x4) fi183 ar184 ln185 r186.2 fm201 arm202) (some ((0 : Int32), 0, 0))) (FL_law_564 K33 nf L xs  (x4) fi183 ar184 ln185 r186.2 fm201 arm202)) (some ((0 : Int32), 0, 0)))))))) (br (((xs (x4).toNatClampNeg) &&& (31 : Int32)) = (10 : Int32)) (gd (¬ (((x4) + (1 : Int32)) < 0 ∨ L ≤ ((x4) + (1 : Int32)).toNatClampNeg)) (gd (¬ (((x4) + (2 : Int32)) < 0 ∨ L ≤ ((x4) + (2 : Int32)).toNatClampNeg)) (obnd6 (FL_about nf fi ar ln fo (xs ((x4) + (1 : Int32)).toNatClampNeg) (xs ((x4) + (2 : Int32)).toNatClampNeg)) fun r213 fi210 ar211 ln212 kc214 ks215 => addc2 (kc214) (ks215) (bnd (r213.1) fun x5_219 => gd (¬ (((x4) + (1 : Int32)) < 0 ∨ L ≤ ((x4) + (1 : Int32)).toNatClampNeg)) (gd (¬ (((x4) + (2 : Int32)) < 0 ∨ L ≤ ((x4) + (2 : Int32)).toNatClampNeg)) (obnd3 (M_about nf fm arm (xs ((x4) + (1 : Int32)).toNatClampNeg) (xs ((x4) + (2 : Int32)).toNatClampNeg)) fun r223 fm224 arm225 => obnd3 (M_thrown nf fm224 arm225) fun r227 fm228 arm229 => br ((r227) = (x5_219)) (br ((x5_219) = 0) (br ((lg_cmp (r213.2 (0 : Int32).toNatClampNeg) (r223)) = 0) (FL_law_631 K33 nf L xs  (x4) fi210 ar211 ln212 r213.2 fm228 arm229) (some ((0 : Int32), 0, 0))) (FL_law_631 K33 nf L xs  (x4) fi210 ar211 ln212 r213.2 fm228 arm229)) (some ((0 : Int32), 0, 0)))))))) (br (((xs (x4).toNatClampNeg) &&& (31 : Int32)) = (11 : Int32)) (gd (¬ (((x4) + (1 : Int32)) < 0 ∨ L ≤ ((x4) + (1 : Int32)).toNatClampNeg)) (gd (¬ (((x4) + (2 : Int32)) < 0 ∨ L ≤ ((x4) + (2 : Int32)).toNatClampNeg)) (obnd6 (FL_content nf fi ar ln fo (xs ((x4) + (1 : Int32)).toNatClampNeg) (xs ((x4) + (2 : Int32)).toNatClampNeg)) fun r240 fi237 ar238 ln239 kc241 ks242 => addc2 (kc241) (ks242) (bnd (r240.1) fun x5_246 => gd (¬ (((x4) + (1 : Int32)) < 0 ∨ L ≤ ((x4) + (1 : Int32)).toNatClampNeg)) (gd (¬ (((x4) + (2 : Int32)) < 0 ∨ L ≤ ((x4) + (2 : Int32)).toNatClampNeg)) (obnd3 (M_content nf fm arm (xs ((x4) + (1 : Int32)).toNatClampNeg) (xs ((x4) + (2 : Int32)).toNatClampNeg)) fun r250 fm251 arm252 => obnd3 (M_thrown nf fm251 arm252) fun r254 fm255 arm256 => br ((r254) = (x5_246)) (br ((x5_246) = 0) (br ((lg_cmp (r240.2 (0 : Int32).toNatClampNeg) ((r250).toInt64)) = 0) (FL_law_699 K33 nf L xs  (x4) fi237 ar238 ln239 r240.2 fm255 arm256) (some ((0 : Int32), 0, 0))) (FL_law_699 K33 nf L xs  (x4) fi237 ar238 ln239 r240.2 fm255 arm256)) (some ((0 : Int32), 0, 0)))))))) (br (((xs (x4).toNatClampNeg) &&& (31 : Int32)) = (12 : Int32)) (gd (¬ (((x4) + (1 : Int32)) < 0 ∨ L ≤ ((x4) + (1 : Int32)).toNatClampNeg)) (obnd6 (FL_enter nf fi ar ln fo (xs ((x4) + (1 : Int32)).toNatClampNeg)) fun r266 fi263 ar264 ln265 kc267 ks268 => addc2 (kc267) (ks268) (bnd (r266.1) fun x5_272 => gd (¬ (((x4) + (1 : Int32)) < 0 ∨ L ≤ ((x4) + (1 : Int32)).toNatClampNeg)) (obnd3 (M_enter nf fm arm (xs ((x4) + (1 : Int32)).toNatClampNeg)) fun r275 fm276 arm277 => obnd3 (M_thrown nf fm276 arm277) fun r279 fm280 arm281 => br ((r279) = (x5_272)) (br ((x5_272) = 0) (br ((lg_cmp (r266.2 (0 : Int32).toNatClampNeg) ((r275).toInt64)) = 0) (FL_law_755 K33 nf L xs  (x4) fi263 ar264 ln265 r266.2 fm280 arm281) (some ((0 : Int32), 0, 0))) (FL_law_755 K33 nf L xs  (x4) fi263 ar264 ln265 r266.2 fm280 arm281)) (some ((0 : Int32), 0, 0)))))) (br (((xs (x4).toNatClampNeg) &&& (31 : Int32)) = (13 : Int32)) (obnd6 (FL_up nf fi ar ln fo) fun r290 fi287 ar288 ln289 kc291 ks292 => addc2 (kc291) (ks292) (bnd (r290.1) fun x5_296 => obnd3 (M_up nf fm arm) fun r298 fm299 arm300 => obnd3 (M_thrown nf fm299 arm300) fun r302 fm303 arm304 => br ((r302) = (x5_296)) (br ((x5_296) = 0) (br ((r298) = 0) (FL_law_800 K33 nf L xs  (x4) (r290.2 (0 : Int32).toNatClampNeg) (0 : Int64) fi287 ar288 ln289 r290.2 fm303 arm304) (FL_law_800 K33 nf L xs  (x4) (r290.2 (0 : Int32).toNatClampNeg) (1 : Int64) fi287 ar288 ln289 r290.2 fm303 arm304)) (FL_law_806 K33 nf L xs  (x4) fi287 ar288 ln289 r290.2 fm303 arm304)) (some ((0 : Int32), 0, 0)))) (br (((xs (x4).toNatClampNeg) &&& (31 : Int32)) = (14 : Int32)) (gd (¬ (((x4) + (1 : Int32)) < 0 ∨ L ≤ ((x4) + (1 : Int32)).toNatClampNeg)) (br ((xs ((x4) + (1 : Int32)).toNatClampNeg) = 0) (FL_law_824 K33 nf L xs  (x4) (0 : Int32) fi ar ln fo fm arm) (FL_law_824 K33 nf L xs  (x4) (1 : Int32) fi ar ln fo fm arm))) (br (((xs (x4).toNatClampNeg) &&& (31 : Int32)) = (15 : Int32)) (gd (¬ (((x4) + (1 : Int32)) < 0 ∨ L ≤ ((x4) + (1 : Int32)).toNatClampNeg)) (obnd6 (FL_write nf fi ar ln fo (xs ((x4) + (1 : Int32)).toNatClampNeg)) fun r317 fi314 ar315 ln316 kc318 ks319 => addc2 (kc318) (ks319) (bnd (r317.1) fun x5_323 => gd (¬ (((x4) + (1 : Int32)) < 0 ∨ L ≤ ((x4) + (1 : Int32)).toNatClampNeg)) (obnd3 (M_write nf fm arm (xs ((x4) + (1 : Int32)).toNatClampNeg)) fun r326 fm327 arm328 => obnd3 (M_thrown nf fm327 arm328) fun r330 fm331 arm332 => br ((r330) = (x5_323)) (br ((x5_323) = 0) (br ((lg_cmp (r317.2 (0 : Int32).toNatClampNeg) ((r326).toInt64)) = 0) (FL_law_934 K33 nf L xs  (x4) fi314 ar315 ln316 r317.2 fm331 arm332) (some ((0 : Int32), 0, 0))) (FL_law_934 K33 nf L xs  (x4) fi314 ar315 ln316 r317.2 fm331 arm332)) (some ((0 : Int32), 0, 0)))))) (br (((xs (x4).toNatClampNeg) &&& (31 : Int32)) = (16 : Int32)) (gd (¬ (((x4) + (1 : Int32)) < 0 ∨ L ≤ ((x4) + (1 : Int32)).toNatClampNeg)) (gd (¬ (((x4) + (2 : Int32)) < 0 ∨ L ≤ ((x4) + (2 : Int32)).toNatClampNeg)) (gd (¬ (((x4) + (3 : Int32)) < 0 ∨ L ≤ ((x4) + (3 : Int32)).toNatClampNeg)) (obnd6 (FL_grow nf fi ar ln fo (xs ((x4) + (1 : Int32)).toNatClampNeg) (xs ((x4) + (2 : Int32)).toNatClampNeg) (xs ((x4) + (3 : Int32)).toNatClampNeg)) fun r344 fi341 ar342 ln343 kc345 ks346 => addc2 (kc345) (ks346) (bnd (r344.1) fun x5_350 => gd (¬ (((x4) + (1 : Int32)) < 0 ∨ L ≤ ((x4) + (1 : Int32)).toNatClampNeg)) (gd (¬ (((x4) + (2 : Int32)) < 0 ∨ L ≤ ((x4) + (2 : Int32)).toNatClampNeg)) (gd (¬ (((x4) + (3 : Int32)) < 0 ∨ L ≤ ((x4) + (3 : Int32)).toNatClampNeg)) (obnd3 (M_grow nf fm arm (xs ((x4) + (1 : Int32)).toNatClampNeg) (xs ((x4) + (2 : Int32)).toNatClampNeg) (xs ((x4) + (3 : Int32)).toNatClampNeg)) fun r355 fm356 arm357 => obnd3 (M_thrown nf fm356 arm357) fun r359 fm360 arm361 => br ((r359) = (x5_350)) (br ((x5_350) = 0) (br ((lg_cmp (r344.2 (0 : Int32).toNatClampNeg) ((r355).toInt64)) = 0) (FL_law_1014 K33 nf L xs  (x4) fi341 ar342 ln343 r344.2 fm360 arm361) (some ((0 : Int32), 0, 0))) (FL_law_1014 K33 nf L xs  (x4) fi341 ar342 ln343 r344.2 fm360 arm361)) (some ((0 : Int32), 0, 0)))))))))) (br (((xs (x4).toNatClampNeg) &&& (31 : Int32)) = (17 : Int32)) (gd (¬ (((x4) + (1 : Int32)) < 0 ∨ L ≤ ((x4) + (1 : Int32)).toNatClampNeg)) (gd (¬ (((x4) + (2 : Int32)) < 0 ∨ L ≤ ((x4) + (2 : Int32)).toNatClampNeg)) (obnd6 (FL_cut nf fi ar ln fo (xs ((x4) + (1 : Int32)).toNatClampNeg) (xs ((x4) + (2 : Int32)).toNatClampNeg)) fun r372 fi369 ar370 ln371 kc373 ks374 => addc2 (kc373) (ks374) (bnd (r372.1) fun x5_378 => gd (¬ (((x4) + (1 : Int32)) < 0 ∨ L ≤ ((x4) + (1 : Int32)).toNatClampNeg)) (gd (¬ (((x4) + (2 : Int32)) < 0 ∨ L ≤ ((x4) + (2 : Int32)).toNatClampNeg)) (obnd3 (M_cut nf fm arm (xs ((x4) + (1 : Int32)).toNatClampNeg) (xs ((x4) + (2 : Int32)).toNatClampNeg)) fun r382 fm383 arm384 => obnd3 (M_thrown nf fm383 arm384) fun r386 fm387 arm388 => br ((r386) = (x5_378)) (br ((x5_378) = 0) (br ((lg_cmp (r372.2 (0 : Int32).toNatClampNeg) ((r382).toInt64)) = 0) (FL_law_1082 K33 nf L xs  (x4) fi369 ar370 ln371 r372.2 fm387 arm388) (some ((0 : Int32), 0, 0))) (FL_law_1082 K33 nf L xs  (x4) fi369 ar370 ln371 r372.2 fm387 arm388)) (some ((0 : Int32), 0, 0)))))))) (br (((xs (x4).toNatClampNeg) &&& (31 : Int32)) = (18 : Int32)) (gd (¬ (((x4) + (1 : Int32)) < 0 ∨ L ≤ ((x4) + (1 : Int32)).toNatClampNeg)) (obnd6 (FL_remove nf fi ar ln fo (xs ((x4) + (1 : Int32)).toNatClampNeg)) fun r398 fi395 ar396 ln397 kc399 ks400 => addc2 (kc399) (ks400) (bnd (r398.1) fun x5_404 => gd (¬ (((x4) + (1 : Int32)) < 0 ∨ L ≤ ((x4) + (1 : Int32)).toNatClampNeg)) (obnd3 (M_remove nf fm arm (xs ((x4) + (1 : Int32)).toNatClampNeg)) fun r407 fm408 arm409 => obnd3 (M_thrown nf fm408 arm409) fun r411 fm412 arm413 => br ((r411) = (x5_404)) (FL_law_1193 K33 nf L xs  (x4) fi395 ar396 ln397 r398.2 fm412 arm413) (some ((0 : Int32), 0, 0)))))) (br (((xs (x4).toNatClampNeg) &&& (31 : Int32)) = (19 : Int32)) (gd (¬ (((x4) + (1 : Int32)) < 0 ∨ L ≤ ((x4) + (1 : Int32)).toNatClampNeg)) (gd (¬ (((x4) + (2 : Int32)) < 0 ∨ L ≤ ((x4) + (2 : Int32)).toNatClampNeg)) (gd (¬ (((x4) + (3 : Int32)) < 0 ∨ L ≤ ((x4) + (3 : Int32)).toNatClampNeg)) (gd (¬ (((x4) + (4 : Int32)) < 0 ∨ L ≤ ((x4) + (4 : Int32)).toNatClampNeg)) (obnd6 (FL_stamp nf fi ar ln fo (xs ((x4) + (1 : Int32)).toNatClampNeg) (xs ((x4) + (2 : Int32)).toNatClampNeg) (xs ((x4) + (3 : Int32)).toNatClampNeg) (xs ((x4) + (4 : Int32)).toNatClampNeg)) fun r424 fi421 ar422 ln423 kc425 ks426 => addc2 (kc425) (ks426) (bnd (r424.1) fun x5_430 => gd (¬ (((x4) + (1 : Int32)) < 0 ∨ L ≤ ((x4) + (1 : Int32)).toNatClampNeg)) (gd (¬ (((x4) + (2 : Int32)) < 0 ∨ L ≤ ((x4) + (2 : Int32)).toNatClampNeg)) (gd (¬ (((x4) + (3 : Int32)) < 0 ∨ L ≤ ((x4) + (3 : Int32)).toNatClampNeg)) (gd (¬ (((x4) + (4 : Int32)) < 0 ∨ L ≤ ((x4) + (4 : Int32)).toNatClampNeg)) (obnd3 (M_stamp nf fm arm (xs ((x4) + (1 : Int32)).toNatClampNeg) (xs ((x4) + (2 : Int32)).toNatClampNeg) (xs ((x4) + (3 : Int32)).toNatClampNeg) (xs ((x4) + (4 : Int32)).toNatClampNeg)) fun r436 fm437 arm438 => obnd3 (M_thrown nf fm437 arm438) fun r440 fm441 arm442 => br ((r440) = (x5_430)) (FL_law_1193 K33 nf L xs  (x4) fi421 ar422 ln423 r424.2 fm441 arm442) (some ((0 : Int32), 0, 0)))))))))))) (FL_law_1193 K33 nf L xs  (x4) fi ar ln fo fm arm))))))))))))))))))))))
noncomputable def FL_law_33 (nf L : Nat) (xs : Nat → Int32) (kf : Nat) : Int32 → FI → AR → LN → (Nat → Int64) → FI → AR → Option (Int32 × Nat × Nat) := Nat.rec (fun _ _ _ _ _ _ _ => none) (fun _ K33 => FL_law_33b K33 nf L xs) kf
set_option maxHeartbeats 40000000 in
set_option maxRecDepth 100000 in
theorem law_loop {p : Program} {l : Launch} {e : Env} {s : State} {m : MethodId} {below : List Frame} {meth : Method} {c : Code} {b L nf ou : Nat} {xs : Nat → Int32} {g : GT} {ad am : Nat → Nat} (hlt : l.stackTraces = false) (hx : p.tables.exec = Jvm.exec) (hb : c.code = cL_law) (hr : meth.sig.returnType = ret) (hml : c.maxLocals = 8) (hown : s.vm.findClass RL = some m.cls) (hTX : ∀ w ∈ TBX, w.before #[Value.ref b] s = true) (hX : va_X b L xs s s.heap) (hbl : b < s.heap.size) (hlocks : meth.locks = false) (hK : va_K (gD g) vwCl (tyl g) s) (hE : EV g (fun q : Nat => s.heap.size ≤ q) s s.heap) (hEX : EVX (fun q : Nat => s.heap.size ≤ q) s s.heap) (hNc : NcX s) : ∀ kf : Nat, ∀ (x4 : Int32) (fi : FI) (ar : AR) (ln : LN) (fo : Nat → Int64) (fm : FI) (arm : AR) (kc ks cells slots : Nat) (rd : Nat → Nat) (H : Heap) (locs : List Loc) (ls : Array Slot), FL_law_33 nf L xs kf x4 fi ar ln fo fm arm = some ((1 : Int32), kc, ks) → cells + kc ≤ room_1.cells → slots + ks ≤ room_1.slots → lv_has ls 8 [(0, .ref (b)), (1, .ref (ad (0))), (2, .ref (am 0)), (3, .ref (ou)), (4, .int x4)] → va_P (gD g) vwCl (WO g ad rd ln ou fi ar fo) H → va_P (gD g) vwCl (WM g am fm arm) H → DL (fun q : Nat => s.heap.size ≤ q) g ad rd am ou → va_S (fun q : Nat => s.heap.size ≤ q) s.heap H locs → W p l e room_1 s m #[Value.ref b] below meth c H locs cells slots (lw_Z below #[Value.ref b] s) (F0 m 33 ls []) := by
  have hA : ∀ q : Nat, s.heap.size ≤ q → (fun q : Nat => s.heap.size ≤ q) q := fun _ h => h
  have hbA : ¬ (fun q : Nat => s.heap.size ≤ q) b := Nat.not_le.mpr hbl
  have hT : ∀ w ∈ TB, w.before #[Value.ref b] s = true := fun w h => hTX w (tbx0 w h)
  intro kf
  induction kf with
  | zero => intro x4 fi ar ln fo fm arm kc ks cells slots rd H locs ls hF hkc hks hl hPo hPm hD hS; cases (show (none : Option (Int32 × Nat × Nat)) = _ from hF)
  | succ kf ih33 =>
    intro x4 fi ar ln fo fm arm kc ks cells slots rd H locs ls hF hkc hks hl hPo hPm hD hS
    obtain ⟨K33, hK33⟩ : ∃ K : Int32 → FI → AR → LN → (Nat → Int64) → FI → AR → Option (Int32 × Nat × Nat), K = FL_law_33 nf L xs kf := ⟨_, rfl⟩
    replace hF : FL_law_33b K33 nf L xs x4 fi ar ln fo fm arm = some ((1 : Int32), kc, ks) := by rw [hK33]; exact hF
    rw [← hK33] at ih33
    clear hK33
    have J1193 : ∀ (x4 : Int32) (fi : FI) (ar : AR) (ln : LN) (fo : Nat → Int64) (fm : FI) (arm : AR) (kc ks cells slots : Nat) (rd : Nat → Nat) (H : Heap) (locs : List Loc) (ls : Array Slot), FL_law_1193 K33 nf L xs x4 fi ar ln fo fm arm = some ((1 : Int32), kc, ks) → cells + kc ≤ room_1.cells → slots + ks ≤ room_1.slots → lv_has ls 8 [(0, .ref (b)), (1, .ref (ad (0))), (2, .ref (am 0)), (3, .ref (ou)), (4, .int x4)] → va_P (gD g) vwCl (WO g ad rd ln ou fi ar fo) H → va_P (gD g) vwCl (WM g am fm arm) H → DL (fun q : Nat => s.heap.size ≤ q) g ad rd am ou → va_S (fun q : Nat => s.heap.size ≤ q) s.heap H locs → W p l e room_1 s m #[Value.ref b] below meth c H locs cells slots (lw_Z below #[Value.ref b] s) (F0 m 1193 ls []) := by
      intro x4 fi ar ln fo fm arm kc ks cells slots rd H locs ls hF hkc hks hl hPo hPm hD hS
      unfold FL_law_1193 at hF
      obtain ⟨x4_1, ex4_1⟩ : ∃ y : Int32, y = (x4) + (6 : Int32) := ⟨_, rfl⟩
      replace hF := bnd_of hF ex4_1
      refine lv_iinc (v := x4_1) (lv' := [(4, .int (x4_1)), (0, .ref (b)), (1, .ref (ad (0))), (2, .ref (am 0)), (3, .ref (ou))]) hx hb dL_law_1193 hl (k := 4) rfl (by rw [ex4_1]; rfl) (by decide) rfl (fun ls hl => ?_)
      refine lv_goto (tgt := 33) hx hb dL_law_1196 (by decide) ?_
      exact ih33 (x4_1) _ _ _ _ _ _ _ _ _ _ _ _ _ _ hF hkc hks (lv_sub hl [1, 2, 3, 4, 0] rfl) hPo hPm hD hS
    have J1082 : ∀ (x4 : Int32) (fi : FI) (ar : AR) (ln : LN) (fo : Nat → Int64) (fm : FI) (arm : AR) (kc ks cells slots : Nat) (rd : Nat → Nat) (H : Heap) (locs : List Loc) (ls : Array Slot), FL_law_1082 K33 nf L xs x4 fi ar ln fo fm arm = some ((1 : Int32), kc, ks) → cells + kc ≤ room_1.cells → slots + ks ≤ room_1.slots → lv_has ls 8 [(0, .ref (b)), (1, .ref (ad (0))), (2, .ref (am 0)), (3, .ref (ou)), (4, .int x4)] → va_P (gD g) vwCl (WO g ad rd ln ou fi ar fo) H → va_P (gD g) vwCl (WM g am fm arm) H → DL (fun q : Nat => s.heap.size ≤ q) g ad rd am ou → va_S (fun q : Nat => s.heap.size ≤ q) s.heap H locs → W p l e room_1 s m #[Value.ref b] below meth c H locs cells slots (lw_Z below #[Value.ref b] s) (F0 m 1082 ls []) := by
      intro x4 fi ar ln fo fm arm kc ks cells slots rd H locs ls hF hkc hks hl hPo hPm hD hS
      unfold FL_law_1082 at hF
      refine lv_goto (tgt := 1193) hx hb dL_law_1082 (by decide) ?_
      exact J1193 (x4) _ _ _ _ _ _ _ _ _ _ _ _ _ _ hF hkc hks (lv_sub hl [0, 1, 2, 3, 4] rfl) hPo hPm hD hS
    have J1014 : ∀ (x4 : Int32) (fi : FI) (ar : AR) (ln : LN) (fo : Nat → Int64) (fm : FI) (arm : AR) (kc ks cells slots : Nat) (rd : Nat → Nat) (H : Heap) (locs : List Loc) (ls : Array Slot), FL_law_1014 K33 nf L xs x4 fi ar ln fo fm arm = some ((1 : Int32), kc, ks) → cells + kc ≤ room_1.cells → slots + ks ≤ room_1.slots → lv_has ls 8 [(0, .ref (b)), (1, .ref (ad (0))), (2, .ref (am 0)), (3, .ref (ou)), (4, .int x4)] → va_P (gD g) vwCl (WO g ad rd ln ou fi ar fo) H → va_P (gD g) vwCl (WM g am fm arm) H → DL (fun q : Nat => s.heap.size ≤ q) g ad rd am ou → va_S (fun q : Nat => s.heap.size ≤ q) s.heap H locs → W p l e room_1 s m #[Value.ref b] below meth c H locs cells slots (lw_Z below #[Value.ref b] s) (F0 m 1014 ls []) := by
      intro x4 fi ar ln fo fm arm kc ks cells slots rd H locs ls hF hkc hks hl hPo hPm hD hS
      unfold FL_law_1014 at hF
      refine lv_goto (tgt := 1193) hx hb dL_law_1014 (by decide) ?_
      exact J1193 (x4) _ _ _ _ _ _ _ _ _ _ _ _ _ _ hF hkc hks (lv_sub hl [0, 1, 2, 3, 4] rfl) hPo hPm hD hS
    have J934 : ∀ (x4 : Int32) (fi : FI) (ar : AR) (ln : LN) (fo : Nat → Int64) (fm : FI) (arm : AR) (kc ks cells slots : Nat) (rd : Nat → Nat) (H : Heap) (locs : List Loc) (ls : Array Slot), FL_law_934 K33 nf L xs x4 fi ar ln fo fm arm = some ((1 : Int32), kc, ks) → cells + kc ≤ room_1.cells → slots + ks ≤ room_1.slots → lv_has ls 8 [(0, .ref (b)), (1, .ref (ad (0))), (2, .ref (am 0)), (3, .ref (ou)), (4, .int x4)] → va_P (gD g) vwCl (WO g ad rd ln ou fi ar fo) H → va_P (gD g) vwCl (WM g am fm arm) H → DL (fun q : Nat => s.heap.size ≤ q) g ad rd am ou → va_S (fun q : Nat => s.heap.size ≤ q) s.heap H locs → W p l e room_1 s m #[Value.ref b] below meth c H locs cells slots (lw_Z below #[Value.ref b] s) (F0 m 934 ls []) := by
      intro x4 fi ar ln fo fm arm kc ks cells slots rd H locs ls hF hkc hks hl hPo hPm hD hS
      unfold FL_law_934 at hF
      refine lv_goto (tgt := 1193) hx hb dL_law_934 (by decide) ?_
      exact J1193 (x4) _ _ _ _ _ _ _ _ _ _ _ _ _ _ hF hkc hks (lv_sub hl [0, 1, 2, 3, 4] rfl) hPo hPm hD hS
    have J878 : ∀ (x4 : Int32) (fi : FI) (ar : AR) (ln : LN) (fo : Nat → Int64) (fm : FI) (arm : AR) (kc ks cells slots : Nat) (rd : Nat → Nat) (H : Heap) (locs : List Loc) (ls : Array Slot), FL_law_878 K33 nf L xs x4 fi ar ln fo fm arm = some ((1 : Int32), kc, ks) → cells + kc ≤ room_1.cells → slots + ks ≤ room_1.slots → lv_has ls 8 [(0, .ref (b)), (1, .ref (ad (0))), (2, .ref (am 0)), (3, .ref (ou)), (4, .int x4)] → va_P (gD g) vwCl (WO g ad rd ln ou fi ar fo) H → va_P (gD g) vwCl (WM g am fm arm) H → DL (fun q : Nat => s.heap.size ≤ q) g ad rd am ou → va_S (fun q : Nat => s.heap.size ≤ q) s.heap H locs → W p l e room_1 s m #[Value.ref b] below meth c H locs cells slots (lw_Z below #[Value.ref b] s) (F0 m 878 ls []) := by
      intro x4 fi ar ln fo fm arm kc ks cells slots rd H locs ls hF hkc hks hl hPo hPm hD hS
      unfold FL_law_878 at hF
      refine lv_goto (tgt := 1193) hx hb dL_law_878 (by decide) ?_
      exact J1193 (x4) _ _ _ _ _ _ _ _ _ _ _ _ _ _ hF hkc hks (lv_sub hl [0, 1, 2, 3, 4] rfl) hPo hPm hD hS
    have J845 : ∀ (x4 : Int32) (x5 : Int32) (t1 : Int32) (fi : FI) (ar : AR) (ln : LN) (fo : Nat → Int64) (fm : FI) (arm : AR) (kc ks cells slots : Nat) (rd : Nat → Nat) (H : Heap) (locs : List Loc) (ls : Array Slot), FL_law_845 K33 nf L xs x4 x5 t1 fi ar ln fo fm arm = some ((1 : Int32), kc, ks) → cells + kc ≤ room_1.cells → slots + ks ≤ room_1.slots → lv_has ls 8 [(0, .ref (b)), (1, .ref (ad (0))), (2, .ref (am 0)), (3, .ref (ou)), (4, .int x4), (5, .int x5)] → va_P (gD g) vwCl (WO g ad rd ln ou fi ar fo) H → va_P (gD g) vwCl (WM g am fm arm) H → DL (fun q : Nat => s.heap.size ≤ q) g ad rd am ou → va_S (fun q : Nat => s.heap.size ≤ q) s.heap H locs → W p l e room_1 s m #[Value.ref b] below meth c H locs cells slots (lw_Z below #[Value.ref b] s) (F0 m 845 ls [.int t1, .ref (am 0)]) := by
      intro x4 x5 t1 fi ar ln fo fm arm kc ks cells slots rd H locs ls hF hkc hks hl hPo hPm hD hS
      unfold FL_law_845 at hF
      replace hF := obnd3_of hF
      obtain ⟨r3, fm4, arm5, h2, hF⟩ := hF
      refine lM_i (As := [.int (t1)]) (rest := []) hx hb hml hTX hown hK hE hD hA hPo hPm hS (k_make l g am _ nf fm arm (t1) r3 fm4 arm5 h2) cw_X11_make mw48_22 ⟨⟨rfl, rfl⟩, Nat.le_of_ble_eq_true rfl, Nat.le_of_ble_eq_true rfl⟩ rfl hl.1 rfl (Nat.le_of_ble_eq_true rfl) dL_law_845 ⟨by show _ ≤ room_1.cells; omega, by show _ ≤ room_1.slots; omega⟩ (fun H locs hPo hPm hS => ?_)
      refine lv_istore (lv' := [(6, .int (r3)), (0, .ref (b)), (1, .ref (ad (0))), (2, .ref (am 0)), (3, .ref (ou)), (4, .int (x4)), (5, .int (x5))]) hx hb dL_law_848 hl (by decide) rfl (fun ls hl => ?_)
      refine lv_aload_n hx hb dL_law_850 rfl (lv_at hl 3 rfl) ?_
      replace hF := obnd3_of hF
      obtain ⟨r7, fm8, arm9, h6, hF⟩ := hF
      refine lM_i (As := []) (rest := []) hx hb hml hTX hown hK hE hD hA hPo hPm hS (k_thrown l g am _ nf fm4 arm5 r7 fm8 arm9 h6) cw_X11_thrown mw20_19 ⟨⟨rfl, rfl⟩, Nat.le_of_ble_eq_true rfl, Nat.le_of_ble_eq_true rfl⟩ rfl hl.1 rfl (Nat.le_of_ble_eq_true rfl) dL_law_851 ⟨by show _ ≤ room_1.cells; omega, by show _ ≤ room_1.slots; omega⟩ (fun H locs hPo hPm hS => ?_)
      refine lv_iload hx hb dL_law_854 (lv_at hl 6 rfl) ?_
      refine lv_icmp_eq (tgt := 861) hx hb dL_law_856 (by decide) (fun hc10 => ?_) (fun hc10 => ?_)
      · replace hF := br_yes hF hc10
        refine lv_iload hx hb dL_law_861 (lv_at hl 6 rfl) ?_
        refine lv_if_ne (tgt := 878) hx hb dL_law_863 (by decide) (fun hc11 => ?_) (fun hc11 => ?_)
        · replace hF := br_no hF hc11
          exact J878 (x4) _ _ _ _ _ _ _ _ _ _ _ _ _ _ hF hkc hks (lv_sub hl [1, 2, 3, 4, 5] rfl) hPo hPm hD hS
        · replace hF := br_yes hF hc11
          refine lv_aload_n hx hb dL_law_866 rfl (lv_at hl 4 rfl) ?_
          refine lv_iconst (v := (0 : Int32)) hx hb dL_law_867 (by decide) ?_
          refine va_lald hx hb hK hPo 40 4 wo_at rfl (by unfold vp_in; decide) dL_law_868 ?_
          refine lv_iload hx hb dL_law_869 (lv_at hl 0 rfl) ?_
          refine lv_i2l hx hb dL_law_871 rfl ?_
          refine W.lcmp hx hb dL_law_872 ?_
          refine lv_if_eq (tgt := 878) hx hb dL_law_873 (by decide) (fun hc12 => ?_) (fun hc12 => ?_)
          · replace hF := br_yes hF hc12
            exact J878 (x4) _ _ _ _ _ _ _ _ _ _ _ _ _ _ hF hkc hks (lv_sub hl [1, 2, 3, 4, 5] rfl) hPo hPm hD hS
          · replace hF := br_no hF hc12
            refine lv_iconst (v := (0 : Int32)) hx hb dL_law_876 (by decide) ?_
            exact (ret0_no hF).elim
      · replace hF := br_no hF hc10
        refine lv_iconst (v := (0 : Int32)) hx hb dL_law_859 (by decide) ?_
        exact (ret0_no hF).elim
    have J824 : ∀ (x4 : Int32) (t1 : Int32) (fi : FI) (ar : AR) (ln : LN) (fo : Nat → Int64) (fm : FI) (arm : AR) (kc ks cells slots : Nat) (rd : Nat → Nat) (H : Heap) (locs : List Loc) (ls : Array Slot), FL_law_824 K33 nf L xs x4 t1 fi ar ln fo fm arm = some ((1 : Int32), kc, ks) → cells + kc ≤ room_1.cells → slots + ks ≤ room_1.slots → lv_has ls 8 [(0, .ref (b)), (1, .ref (ad (0))), (2, .ref (am 0)), (3, .ref (ou)), (4, .int x4)] → va_P (gD g) vwCl (WO g ad rd ln ou fi ar fo) H → va_P (gD g) vwCl (WM g am fm arm) H → DL (fun q : Nat => s.heap.size ≤ q) g ad rd am ou → va_S (fun q : Nat => s.heap.size ≤ q) s.heap H locs → W p l e room_1 s m #[Value.ref b] below meth c H locs cells slots (lw_Z below #[Value.ref b] s) (F0 m 824 ls [.int t1, .ref (ad (0))]) := by
      intro x4 t1 fi ar ln fo fm arm kc ks cells slots rd H locs ls hF hkc hks hl hPo hPm hD hS
      unfold FL_law_824 at hF
      refine lv_aload_n hx hb dL_law_824 rfl (lv_at hl 3 rfl) ?_
      replace hF := obnd6_of hF
      obtain ⟨r17, fi14, ar15, ln16, kc18, ks19, h13, hF⟩ := hF
      replace hF := addc2_of hF
      obtain ⟨kc20, ks21, e22c, e22s, hF⟩ := hF
      refine lO_i (As := [.ref (ad (0)), .int (t1), .ref (ou)]) (rest := []) hx hb hml hTX hown hK hE hEX hNc hD hA hPo hPm hS (kL_make l g ad rd ou _ nf hlt fi ar ln fo (t1) r17 fi14 ar15 ln16 kc18 ks19 h13) cw_L_make mw44_11 ⟨⟨rfl, rfl⟩, Nat.le_of_ble_eq_true rfl, Nat.le_of_ble_eq_true rfl⟩ rfl hl.1 rfl (Nat.le_of_ble_eq_true rfl) dL_law_825 ⟨by show _ ≤ room_1.cells; omega, by show _ ≤ room_1.slots; omega⟩ (fun rd H locs hPo hPm hD hS => ?_)
      replace hkc : cells + kc18 + kc20 ≤ room_1.cells := by omega
      replace hks : slots + ks19 + ks21 ≤ room_1.slots := by omega
      obtain ⟨x5_23, ex5_23⟩ : ∃ y : Int32, y = (r17.1) := ⟨_, rfl⟩
      rw [← ex5_23]
      replace hF := bnd_of hF ex5_23
      refine lv_istore (lv' := [(5, .int (x5_23)), (0, .ref (b)), (1, .ref (ad (0))), (2, .ref (am 0)), (3, .ref (ou)), (4, .int (x4))]) hx hb dL_law_828 hl (by decide) rfl (fun ls hl => ?_)
      refine lv_aload_n hx hb dL_law_830 rfl (lv_at hl 3 rfl) ?_
      refine lv_aload_n hx hb dL_law_831 rfl (lv_at hl 1 rfl) ?_
      refine lv_iload hx hb dL_law_832 (lv_at hl 5 rfl) ?_
      refine lv_iconst (v := (1 : Int32)) hx hb dL_law_834 (by decide) ?_
      refine lv_iadd hx hb dL_law_835 ?_
      replace hF := gd_of hF
      obtain ⟨hi24, hF⟩ := hF
      refine va_sld hx hb hX hbl hbA hS hi24 dL_law_836 ?_
      refine lv_if_eq (tgt := 844) hx hb dL_law_837 (by decide) (fun hc25 => ?_) (fun hc25 => ?_)
      · replace hF := br_yes hF hc25
        refine lv_iconst (v := (0 : Int32)) hx hb dL_law_844 (by decide) ?_
        exact J845 (x4) (x5_23) (0 : Int32) _ _ _ _ _ _ _ _ _ _ _ _ _ _ hF hkc hks (lv_sub hl [1, 2, 3, 4, 5, 0] rfl) hPo hPm hD hS
      · replace hF := br_no hF hc25
        refine lv_iconst (v := (1 : Int32)) hx hb dL_law_840 (by decide) ?_
        refine lv_goto (tgt := 845) hx hb dL_law_841 (by decide) ?_
        exact J845 (x4) (x5_23) (1 : Int32) _ _ _ _ _ _ _ _ _ _ _ _ _ _ hF hkc hks (lv_sub hl [1, 2, 3, 4, 5, 0] rfl) hPo hPm hD hS
    have J806 : ∀ (x4 : Int32) (fi : FI) (ar : AR) (ln : LN) (fo : Nat → Int64) (fm : FI) (arm : AR) (kc ks cells slots : Nat) (rd : Nat → Nat) (H : Heap) (locs : List Loc) (ls : Array Slot), FL_law_806 K33 nf L xs x4 fi ar ln fo fm arm = some ((1 : Int32), kc, ks) → cells + kc ≤ room_1.cells → slots + ks ≤ room_1.slots → lv_has ls 8 [(0, .ref (b)), (1, .ref (ad (0))), (2, .ref (am 0)), (3, .ref (ou)), (4, .int x4)] → va_P (gD g) vwCl (WO g ad rd ln ou fi ar fo) H → va_P (gD g) vwCl (WM g am fm arm) H → DL (fun q : Nat => s.heap.size ≤ q) g ad rd am ou → va_S (fun q : Nat => s.heap.size ≤ q) s.heap H locs → W p l e room_1 s m #[Value.ref b] below meth c H locs cells slots (lw_Z below #[Value.ref b] s) (F0 m 806 ls []) := by
      intro x4 fi ar ln fo fm arm kc ks cells slots rd H locs ls hF hkc hks hl hPo hPm hD hS
      unfold FL_law_806 at hF
      refine lv_goto (tgt := 1193) hx hb dL_law_806 (by decide) ?_
      exact J1193 (x4) _ _ _ _ _ _ _ _ _ _ _ _ _ _ hF hkc hks (lv_sub hl [0, 1, 2, 3, 4] rfl) hPo hPm hD hS
    have J800 : ∀ (x4 : Int32) (t0 : Int64) (t1 : Int64) (fi : FI) (ar : AR) (ln : LN) (fo : Nat → Int64) (fm : FI) (arm : AR) (kc ks cells slots : Nat) (rd : Nat → Nat) (H : Heap) (locs : List Loc) (ls : Array Slot), FL_law_800 K33 nf L xs x4 t0 t1 fi ar ln fo fm arm = some ((1 : Int32), kc, ks) → cells + kc ≤ room_1.cells → slots + ks ≤ room_1.slots → lv_has ls 8 [(0, .ref (b)), (1, .ref (ad (0))), (2, .ref (am 0)), (3, .ref (ou)), (4, .int x4)] → va_P (gD g) vwCl (WO g ad rd ln ou fi ar fo) H → va_P (gD g) vwCl (WM g am fm arm) H → DL (fun q : Nat => s.heap.size ≤ q) g ad rd am ou → va_S (fun q : Nat => s.heap.size ≤ q) s.heap H locs → W p l e room_1 s m #[Value.ref b] below meth c H locs cells slots (lw_Z below #[Value.ref b] s) (F0 m 800 ls [.long t1, .long t0]) := by
      intro x4 t0 t1 fi ar ln fo fm arm kc ks cells slots rd H locs ls hF hkc hks hl hPo hPm hD hS
      unfold FL_law_800 at hF
      refine W.lcmp hx hb dL_law_800 ?_
      refine lv_if_eq (tgt := 806) hx hb dL_law_801 (by decide) (fun hc26 => ?_) (fun hc26 => ?_)
      · replace hF := br_yes hF hc26
        exact J806 (x4) _ _ _ _ _ _ _ _ _ _ _ _ _ _ hF hkc hks (lv_sub hl [0, 1, 2, 3, 4] rfl) hPo hPm hD hS
      · replace hF := br_no hF hc26
        refine lv_iconst (v := (0 : Int32)) hx hb dL_law_804 (by decide) ?_
        exact (ret0_no hF).elim
    have J755 : ∀ (x4 : Int32) (fi : FI) (ar : AR) (ln : LN) (fo : Nat → Int64) (fm : FI) (arm : AR) (kc ks cells slots : Nat) (rd : Nat → Nat) (H : Heap) (locs : List Loc) (ls : Array Slot), FL_law_755 K33 nf L xs x4 fi ar ln fo fm arm = some ((1 : Int32), kc, ks) → cells + kc ≤ room_1.cells → slots + ks ≤ room_1.slots → lv_has ls 8 [(0, .ref (b)), (1, .ref (ad (0))), (2, .ref (am 0)), (3, .ref (ou)), (4, .int x4)] → va_P (gD g) vwCl (WO g ad rd ln ou fi ar fo) H → va_P (gD g) vwCl (WM g am fm arm) H → DL (fun q : Nat => s.heap.size ≤ q) g ad rd am ou → va_S (fun q : Nat => s.heap.size ≤ q) s.heap H locs → W p l e room_1 s m #[Value.ref b] below meth c H locs cells slots (lw_Z below #[Value.ref b] s) (F0 m 755 ls []) := by
      intro x4 fi ar ln fo fm arm kc ks cells slots rd H locs ls hF hkc hks hl hPo hPm hD hS
      unfold FL_law_755 at hF
      refine lv_goto (tgt := 1193) hx hb dL_law_755 (by decide) ?_
      exact J1193 (x4) _ _ _ _ _ _ _ _ _ _ _ _ _ _ hF hkc hks (lv_sub hl [0, 1, 2, 3, 4] rfl) hPo hPm hD hS
    have J699 : ∀ (x4 : Int32) (fi : FI) (ar : AR) (ln : LN) (fo : Nat → Int64) (fm : FI) (arm : AR) (kc ks cells slots : Nat) (rd : Nat → Nat) (H : Heap) (locs : List Loc) (ls : Array Slot), FL_law_699 K33 nf L xs x4 fi ar ln fo fm arm = some ((1 : Int32), kc, ks) → cells + kc ≤ room_1.cells → slots + ks ≤ room_1.slots → lv_has ls 8 [(0, .ref (b)), (1, .ref (ad (0))), (2, .ref (am 0)), (3, .ref (ou)), (4, .int x4)] → va_P (gD g) vwCl (WO g ad rd ln ou fi ar fo) H → va_P (gD g) vwCl (WM g am fm arm) H → DL (fun q : Nat => s.heap.size ≤ q) g ad rd am ou → va_S (fun q : Nat => s.heap.size ≤ q) s.heap H locs → W p l e room_1 s m #[Value.ref b] below meth c H locs cells slots (lw_Z below #[Value.ref b] s) (F0 m 699 ls []) := by
      intro x4 fi ar ln fo fm arm kc ks cells slots rd H locs ls hF hkc hks hl hPo hPm hD hS
      unfold FL_law_699 at hF
      refine lv_goto (tgt := 1193) hx hb dL_law_699 (by decide) ?_
      exact J1193 (x4) _ _ _ _ _ _ _ _ _ _ _ _ _ _ hF hkc hks (lv_sub hl [0, 1, 2, 3, 4] rfl) hPo hPm hD hS
    have J631 : ∀ (x4 : Int32) (fi : FI) (ar : AR) (ln : LN) (fo : Nat → Int64) (fm : FI) (arm : AR) (kc ks cells slots : Nat) (rd : Nat → Nat) (H : Heap) (locs : List Loc) (ls : Array Slot), FL_law_631 K33 nf L xs x4 fi ar ln fo fm arm = some ((1 : Int32), kc, ks) → cells + kc ≤ room_1.cells → slots + ks ≤ room_1.slots → lv_has ls 8 [(0, .ref (b)), (1, .ref (ad (0))), (2, .ref (am 0)), (3, .ref (ou)), (4, .int x4)] → va_P (gD g) vwCl (WO g ad rd ln ou fi ar fo) H → va_P (gD g) vwCl (WM g am fm arm) H → DL (fun q : Nat => s.heap.size ≤ q) g ad rd am ou → va_S (fun q : Nat => s.heap.size ≤ q) s.heap H locs → W p l e room_1 s m #[Value.ref b] below meth c H locs cells slots (lw_Z below #[Value.ref b] s) (F0 m 631 ls []) := by
      intro x4 fi ar ln fo fm arm kc ks cells slots rd H locs ls hF hkc hks hl hPo hPm hD hS
      unfold FL_law_631 at hF
      refine lv_goto (tgt := 1193) hx hb dL_law_631 (by decide) ?_
      exact J1193 (x4) _ _ _ _ _ _ _ _ _ _ _ _ _ _ hF hkc hks (lv_sub hl [0, 1, 2, 3, 4] rfl) hPo hPm hD hS
    have J564 : ∀ (x4 : Int32) (fi : FI) (ar : AR) (ln : LN) (fo : Nat → Int64) (fm : FI) (arm : AR) (kc ks cells slots : Nat) (rd : Nat → Nat) (H : Heap) (locs : List Loc) (ls : Array Slot), FL_law_564 K33 nf L xs x4 fi ar ln fo fm arm = some ((1 : Int32), kc, ks) → cells + kc ≤ room_1.cells → slots + ks ≤ room_1.slots → lv_has ls 8 [(0, .ref (b)), (1, .ref (ad (0))), (2, .ref (am 0)), (3, .ref (ou)), (4, .int x4)] → va_P (gD g) vwCl (WO g ad rd ln ou fi ar fo) H → va_P (gD g) vwCl (WM g am fm arm) H → DL (fun q : Nat => s.heap.size ≤ q) g ad rd am ou → va_S (fun q : Nat => s.heap.size ≤ q) s.heap H locs → W p l e room_1 s m #[Value.ref b] below meth c H locs cells slots (lw_Z below #[Value.ref b] s) (F0 m 564 ls []) := by
      intro x4 fi ar ln fo fm arm kc ks cells slots rd H locs ls hF hkc hks hl hPo hPm hD hS
      unfold FL_law_564 at hF
      refine lv_goto (tgt := 1193) hx hb dL_law_564 (by decide) ?_
      exact J1193 (x4) _ _ _ _ _ _ _ _ _ _ _ _ _ _ hF hkc hks (lv_sub hl [0, 1, 2, 3, 4] rfl) hPo hPm hD hS
    have J496 : ∀ (x4 : Int32) (fi : FI) (ar : AR) (ln : LN) (fo : Nat → Int64) (fm : FI) (arm : AR) (kc ks cells slots : Nat) (rd : Nat → Nat) (H : Heap) (locs : List Loc) (ls : Array Slot), FL_law_496 K33 nf L xs x4 fi ar ln fo fm arm = some ((1 : Int32), kc, ks) → cells + kc ≤ room_1.cells → slots + ks ≤ room_1.slots → lv_has ls 8 [(0, .ref (b)), (1, .ref (ad (0))), (2, .ref (am 0)), (3, .ref (ou)), (4, .int x4)] → va_P (gD g) vwCl (WO g ad rd ln ou fi ar fo) H → va_P (gD g) vwCl (WM g am fm arm) H → DL (fun q : Nat => s.heap.size ≤ q) g ad rd am ou → va_S (fun q : Nat => s.heap.size ≤ q) s.heap H locs → W p l e room_1 s m #[Value.ref b] below meth c H locs cells slots (lw_Z below #[Value.ref b] s) (F0 m 496 ls []) := by
      intro x4 fi ar ln fo fm arm kc ks cells slots rd H locs ls hF hkc hks hl hPo hPm hD hS
      unfold FL_law_496 at hF
      refine lv_goto (tgt := 1193) hx hb dL_law_496 (by decide) ?_
      exact J1193 (x4) _ _ _ _ _ _ _ _ _ _ _ _ _ _ hF hkc hks (lv_sub hl [0, 1, 2, 3, 4] rfl) hPo hPm hD hS
    have J340 : ∀ (x4 : Int32) (fi : FI) (ar : AR) (ln : LN) (fo : Nat → Int64) (fm : FI) (arm : AR) (kc ks cells slots : Nat) (rd : Nat → Nat) (H : Heap) (locs : List Loc) (ls : Array Slot), FL_law_340 K33 nf L xs x4 fi ar ln fo fm arm = some ((1 : Int32), kc, ks) → cells + kc ≤ room_1.cells → slots + ks ≤ room_1.slots → lv_has ls 8 [(0, .ref (b)), (1, .ref (ad (0))), (2, .ref (am 0)), (3, .ref (ou)), (4, .int x4)] → va_P (gD g) vwCl (WO g ad rd ln ou fi ar fo) H → va_P (gD g) vwCl (WM g am fm arm) H → DL (fun q : Nat => s.heap.size ≤ q) g ad rd am ou → va_S (fun q : Nat => s.heap.size ≤ q) s.heap H locs → W p l e room_1 s m #[Value.ref b] below meth c H locs cells slots (lw_Z below #[Value.ref b] s) (F0 m 340 ls []) := by
      intro x4 fi ar ln fo fm arm kc ks cells slots rd H locs ls hF hkc hks hl hPo hPm hD hS
      unfold FL_law_340 at hF
      refine lv_goto (tgt := 1193) hx hb dL_law_340 (by decide) ?_
      exact J1193 (x4) _ _ _ _ _ _ _ _ _ _ _ _ _ _ hF hkc hks (lv_sub hl [0, 1, 2, 3, 4] rfl) hPo hPm hD hS
    unfold FL_law_33b at hF
    refine lv_iload hx hb dL_law_33 (lv_at hl 4 rfl) ?_
    refine lv_aload_n hx hb dL_law_35 rfl (lv_at hl 0 rfl) ?_
    refine va_slen hx hb hX hbl hbA hS dL_law_36 ?_
    refine lv_bipush (v := (6 : Int32)) hx hb dL_law_37 (by decide) ?_
    refine lv_isub hx hb dL_law_39 ?_
    refine lv_icmp_gt (tgt := 1199) hx hb dL_law_40 (by decide) (fun hc27 => ?_) (fun hc27 => ?_)
    · replace hF := br_yes hF hc27
      refine lv_iconst (v := (1 : Int32)) hx hb dL_law_1199 (by decide) ?_
      refine va_forget (fun q hq => hS.2.2 q hq) ?_
      refine W.widen (k := room_1.cells) (n := room_1.slots) (by omega) (by omega) ?_
      exact lw_ret hx hb hr hlocks dL_law_1200
    · replace hF := br_no hF hc27
      refine lv_aload_n hx hb dL_law_43 rfl (lv_at hl 0 rfl) ?_
      refine lv_iload hx hb dL_law_44 (lv_at hl 4 rfl) ?_
      replace hF := gd_of hF
      obtain ⟨hi28, hF⟩ := hF
      refine va_sld hx hb hX hbl hbA hS hi28 dL_law_46 ?_
      refine lv_bipush (v := (31 : Int32)) hx hb dL_law_47 (by decide) ?_
      refine lv_iand hx hb dL_law_49 ?_
      by_cases hc29 : ((xs (x4).toNatClampNeg) &&& (31 : Int32)) = (0 : Int32)
      · replace hF := br_yes hF hc29
        refine lv_tableIn (tgt := 144) (off := 94) hx hb dL_law_50 (by rw [hc29]; decide) (by rw [hc29]; decide) (by rw [hc29]; rfl) (by decide) ?_
        refine lv_aload_n hx hb dL_law_144 rfl (lv_at hl 1 rfl) ?_
        refine lv_aload_n hx hb dL_law_145 rfl (lv_at hl 0 rfl) ?_
        refine lv_iload hx hb dL_law_146 (lv_at hl 4 rfl) ?_
        refine lv_iconst (v := (1 : Int32)) hx hb dL_law_148 (by decide) ?_
        refine lv_iadd hx hb dL_law_149 ?_
        replace hF := gd_of hF
        obtain ⟨hi30, hF⟩ := hF
        refine va_sld hx hb hX hbl hbA hS hi30 dL_law_150 ?_
        refine lv_aload_n hx hb dL_law_151 rfl (lv_at hl 0 rfl) ?_
        refine lv_iload hx hb dL_law_152 (lv_at hl 4 rfl) ?_
        refine lv_iconst (v := (2 : Int32)) hx hb dL_law_154 (by decide) ?_
        refine lv_iadd hx hb dL_law_155 ?_
        replace hF := gd_of hF
        obtain ⟨hi31, hF⟩ := hF
        refine va_sld hx hb hX hbl hbA hS hi31 dL_law_156 ?_
        refine lv_aload_n hx hb dL_law_157 rfl (lv_at hl 0 rfl) ?_
        refine lv_iload hx hb dL_law_158 (lv_at hl 4 rfl) ?_
        refine lv_iconst (v := (3 : Int32)) hx hb dL_law_160 (by decide) ?_
        refine lv_iadd hx hb dL_law_161 ?_
        replace hF := gd_of hF
        obtain ⟨hi32, hF⟩ := hF
        refine va_sld hx hb hX hbl hbA hS hi32 dL_law_162 ?_
        refine lv_aload_n hx hb dL_law_163 rfl (lv_at hl 0 rfl) ?_
        refine lv_iload hx hb dL_law_164 (lv_at hl 4 rfl) ?_
        refine lv_iconst (v := (4 : Int32)) hx hb dL_law_166 (by decide) ?_
        refine lv_iadd hx hb dL_law_167 ?_
        replace hF := gd_of hF
        obtain ⟨hi33, hF⟩ := hF
        refine va_sld hx hb hX hbl hbA hS hi33 dL_law_168 ?_
        refine lv_aload_n hx hb dL_law_169 rfl (lv_at hl 0 rfl) ?_
        refine lv_iload hx hb dL_law_170 (lv_at hl 4 rfl) ?_
        refine lv_iconst (v := (5 : Int32)) hx hb dL_law_172 (by decide) ?_
        refine lv_iadd hx hb dL_law_173 ?_
        replace hF := gd_of hF
        obtain ⟨hi34, hF⟩ := hF
        refine va_sld hx hb hX hbl hbA hS hi34 dL_law_174 ?_
        replace hF := obnd3_of hF
        obtain ⟨r36, fi37, ar38, h35, hF⟩ := hF
        refine lC_v (As := [.int (xs ((x4) + (1 : Int32)).toNatClampNeg), .int (xs ((x4) + (2 : Int32)).toNatClampNeg), .int (xs ((x4) + (3 : Int32)).toNatClampNeg), .int (xs ((x4) + (4 : Int32)).toNatClampNeg), .int (xs ((x4) + (5 : Int32)).toNatClampNeg)]) (rest := []) hx hb hml hTX hown hK hE hD hA hPo hPm hS (kX10_feed l g ad rd _ nf ln fi ar (xs ((x4) + (1 : Int32)).toNatClampNeg) (xs ((x4) + (2 : Int32)).toNatClampNeg) (xs ((x4) + (3 : Int32)).toNatClampNeg) (xs ((x4) + (4 : Int32)).toNatClampNeg) (xs ((x4) + (5 : Int32)).toNatClampNeg) r36 fi37 ar38 h35) cw_X10_feed mw6_23 ⟨⟨rfl, rfl⟩, Nat.le_of_ble_eq_true rfl, Nat.le_of_ble_eq_true rfl⟩ rfl hl.1 rfl (Nat.le_of_ble_eq_true rfl) dL_law_175 ⟨by show _ ≤ room_1.cells; omega, by show _ ≤ room_1.slots; omega⟩ (fun H locs hPo hPm hS => ?_)
        refine lv_aload_n hx hb dL_law_178 rfl (lv_at hl 2 rfl) ?_
        refine lv_aload_n hx hb dL_law_179 rfl (lv_at hl 0 rfl) ?_
        refine lv_iload hx hb dL_law_180 (lv_at hl 4 rfl) ?_
        refine lv_iconst (v := (1 : Int32)) hx hb dL_law_182 (by decide) ?_
        refine lv_iadd hx hb dL_law_183 ?_
        replace hF := gd_of hF
        obtain ⟨hi39, hF⟩ := hF
        refine va_sld hx hb hX hbl hbA hS hi39 dL_law_184 ?_
        refine lv_aload_n hx hb dL_law_185 rfl (lv_at hl 0 rfl) ?_
        refine lv_iload hx hb dL_law_186 (lv_at hl 4 rfl) ?_
        refine lv_iconst (v := (2 : Int32)) hx hb dL_law_188 (by decide) ?_
        refine lv_iadd hx hb dL_law_189 ?_
        replace hF := gd_of hF
        obtain ⟨hi40, hF⟩ := hF
        refine va_sld hx hb hX hbl hbA hS hi40 dL_law_190 ?_
        refine lv_aload_n hx hb dL_law_191 rfl (lv_at hl 0 rfl) ?_
        refine lv_iload hx hb dL_law_192 (lv_at hl 4 rfl) ?_
        refine lv_iconst (v := (3 : Int32)) hx hb dL_law_194 (by decide) ?_
        refine lv_iadd hx hb dL_law_195 ?_
        replace hF := gd_of hF
        obtain ⟨hi41, hF⟩ := hF
        refine va_sld hx hb hX hbl hbA hS hi41 dL_law_196 ?_
        refine lv_aload_n hx hb dL_law_197 rfl (lv_at hl 0 rfl) ?_
        refine lv_iload hx hb dL_law_198 (lv_at hl 4 rfl) ?_
        refine lv_iconst (v := (4 : Int32)) hx hb dL_law_200 (by decide) ?_
        refine lv_iadd hx hb dL_law_201 ?_
        replace hF := gd_of hF
        obtain ⟨hi42, hF⟩ := hF
        refine va_sld hx hb hX hbl hbA hS hi42 dL_law_202 ?_
        refine lv_aload_n hx hb dL_law_203 rfl (lv_at hl 0 rfl) ?_
        refine lv_iload hx hb dL_law_204 (lv_at hl 4 rfl) ?_
        refine lv_iconst (v := (5 : Int32)) hx hb dL_law_206 (by decide) ?_
        refine lv_iadd hx hb dL_law_207 ?_
        replace hF := gd_of hF
        obtain ⟨hi43, hF⟩ := hF
        refine va_sld hx hb hX hbl hbA hS hi43 dL_law_208 ?_
        replace hF := obnd3_of hF
        obtain ⟨r45, fm46, arm47, h44, hF⟩ := hF
        refine lM_v (As := [.int (xs ((x4) + (1 : Int32)).toNatClampNeg), .int (xs ((x4) + (2 : Int32)).toNatClampNeg), .int (xs ((x4) + (3 : Int32)).toNatClampNeg), .int (xs ((x4) + (4 : Int32)).toNatClampNeg), .int (xs ((x4) + (5 : Int32)).toNatClampNeg)]) (rest := []) hx hb hml hTX hown hK hE hD hA hPo hPm hS (k_feed l g am _ nf fm arm (xs ((x4) + (1 : Int32)).toNatClampNeg) (xs ((x4) + (2 : Int32)).toNatClampNeg) (xs ((x4) + (3 : Int32)).toNatClampNeg) (xs ((x4) + (4 : Int32)).toNatClampNeg) (xs ((x4) + (5 : Int32)).toNatClampNeg) r45 fm46 arm47 h44) cw_X11_feed mw7_7 ⟨⟨rfl, rfl⟩, Nat.le_of_ble_eq_true rfl, Nat.le_of_ble_eq_true rfl⟩ rfl hl.1 rfl (Nat.le_of_ble_eq_true rfl) dL_law_209 ⟨by show _ ≤ room_1.cells; omega, by show _ ≤ room_1.slots; omega⟩ (fun H locs hPo hPm hS => ?_)
        refine lv_goto (tgt := 1193) hx hb dL_law_212 (by decide) ?_
        exact J1193 (x4) _ _ _ _ _ _ _ _ _ _ _ _ _ _ hF hkc hks (lv_sub hl [0, 1, 2, 3, 4] rfl) hPo hPm hD hS
      · replace hF := br_no hF hc29
        by_cases hc48 : ((xs (x4).toNatClampNeg) &&& (31 : Int32)) = (1 : Int32)
        · replace hF := br_yes hF hc48
          refine lv_tableIn (tgt := 215) (off := 165) hx hb dL_law_50 (by rw [hc48]; decide) (by rw [hc48]; decide) (by rw [hc48]; rfl) (by decide) ?_
          refine lv_aload_n hx hb dL_law_215 rfl (lv_at hl 1 rfl) ?_
          refine lv_aload_n hx hb dL_law_216 rfl (lv_at hl 0 rfl) ?_
          refine lv_iload hx hb dL_law_217 (lv_at hl 4 rfl) ?_
          refine lv_iconst (v := (1 : Int32)) hx hb dL_law_219 (by decide) ?_
          refine lv_iadd hx hb dL_law_220 ?_
          replace hF := gd_of hF
          obtain ⟨hi49, hF⟩ := hF
          refine va_sld hx hb hX hbl hbA hS hi49 dL_law_221 ?_
          replace hF := obnd3_of hF
          obtain ⟨r51, fi52, ar53, h50, hF⟩ := hF
          refine lC_i (As := [.int (xs ((x4) + (1 : Int32)).toNatClampNeg)]) (rest := []) hx hb hml hTX hown hK hE hD hA hPo hPm hS (kX10_end l g ad rd _ nf ln fi ar (xs ((x4) + (1 : Int32)).toNatClampNeg) r51 fi52 ar53 h50) cw_X10_end mw7_13 ⟨⟨rfl, rfl⟩, Nat.le_of_ble_eq_true rfl, Nat.le_of_ble_eq_true rfl⟩ rfl hl.1 rfl (Nat.le_of_ble_eq_true rfl) dL_law_222 ⟨by show _ ≤ room_1.cells; omega, by show _ ≤ room_1.slots; omega⟩ (fun H locs hPo hPm hS => ?_)
          refine lv_aload_n hx hb dL_law_225 rfl (lv_at hl 2 rfl) ?_
          refine lv_aload_n hx hb dL_law_226 rfl (lv_at hl 0 rfl) ?_
          refine lv_iload hx hb dL_law_227 (lv_at hl 4 rfl) ?_
          refine lv_iconst (v := (1 : Int32)) hx hb dL_law_229 (by decide) ?_
          refine lv_iadd hx hb dL_law_230 ?_
          replace hF := gd_of hF
          obtain ⟨hi54, hF⟩ := hF
          refine va_sld hx hb hX hbl hbA hS hi54 dL_law_231 ?_
          replace hF := obnd3_of hF
          obtain ⟨r56, fm57, arm58, h55, hF⟩ := hF
          refine lM_i (As := [.int (xs ((x4) + (1 : Int32)).toNatClampNeg)]) (rest := [.int (r51)]) hx hb hml hTX hown hK hE hD hA hPo hPm hS (k_end l g am _ nf fm arm (xs ((x4) + (1 : Int32)).toNatClampNeg) r56 fm57 arm58 h55) cw_X11_end mw8_2 ⟨⟨rfl, rfl⟩, Nat.le_of_ble_eq_true rfl, Nat.le_of_ble_eq_true rfl⟩ rfl hl.1 rfl (Nat.le_of_ble_eq_true rfl) dL_law_232 ⟨by show _ ≤ room_1.cells; omega, by show _ ≤ room_1.slots; omega⟩ (fun H locs hPo hPm hS => ?_)
          refine lv_icmp_eq (tgt := 1193) hx hb dL_law_235 (by decide) (fun hc59 => ?_) (fun hc59 => ?_)
          · replace hF := br_yes hF hc59
            exact J1193 (x4) _ _ _ _ _ _ _ _ _ _ _ _ _ _ hF hkc hks (lv_sub hl [0, 1, 2, 3, 4] rfl) hPo hPm hD hS
          · replace hF := br_no hF hc59
            refine lv_iconst (v := (0 : Int32)) hx hb dL_law_238 (by decide) ?_
            exact (ret0_no hF).elim
        · replace hF := br_no hF hc48
          by_cases hc60 : ((xs (x4).toNatClampNeg) &&& (31 : Int32)) = (2 : Int32)
          · replace hF := br_yes hF hc60
            refine lv_tableIn (tgt := 240) (off := 190) hx hb dL_law_50 (by rw [hc60]; decide) (by rw [hc60]; decide) (by rw [hc60]; rfl) (by decide) ?_
            refine lv_aload_n hx hb dL_law_240 rfl (lv_at hl 1 rfl) ?_
            replace hF := obnd3_of hF
            obtain ⟨r62, fi63, ar64, h61, hF⟩ := hF
            refine lC_v (As := []) (rest := []) hx hb hml hTX hown hK hE hD hA hPo hPm hS (kX10_clear l g ad rd _ nf ln fi ar r62 fi63 ar64 h61) cw_X10_clear mw8_7 ⟨⟨rfl, rfl⟩, Nat.le_of_ble_eq_true rfl, Nat.le_of_ble_eq_true rfl⟩ rfl hl.1 rfl (Nat.le_of_ble_eq_true rfl) dL_law_241 ⟨by show _ ≤ room_1.cells; omega, by show _ ≤ room_1.slots; omega⟩ (fun H locs hPo hPm hS => ?_)
            refine lv_aload_n hx hb dL_law_244 rfl (lv_at hl 2 rfl) ?_
            replace hF := obnd3_of hF
            obtain ⟨r66, fm67, arm68, h65, hF⟩ := hF
            refine lM_v (As := []) (rest := []) hx hb hml hTX hown hK hE hD hA hPo hPm hS (k_clear l g am _ nf fm arm r66 fm67 arm68 h65) cw_X11_clear mw8_15 ⟨⟨rfl, rfl⟩, Nat.le_of_ble_eq_true rfl, Nat.le_of_ble_eq_true rfl⟩ rfl hl.1 rfl (Nat.le_of_ble_eq_true rfl) dL_law_245 ⟨by show _ ≤ room_1.cells; omega, by show _ ≤ room_1.slots; omega⟩ (fun H locs hPo hPm hS => ?_)
            refine lv_goto (tgt := 1193) hx hb dL_law_248 (by decide) ?_
            exact J1193 (x4) _ _ _ _ _ _ _ _ _ _ _ _ _ _ hF hkc hks (lv_sub hl [0, 1, 2, 3, 4] rfl) hPo hPm hD hS
          · replace hF := br_no hF hc60
            by_cases hc69 : ((xs (x4).toNatClampNeg) &&& (31 : Int32)) = (3 : Int32)
            · replace hF := br_yes hF hc69
              refine lv_tableIn (tgt := 251) (off := 201) hx hb dL_law_50 (by rw [hc69]; decide) (by rw [hc69]; decide) (by rw [hc69]; rfl) (by decide) ?_
              refine lv_aload_n hx hb dL_law_251 rfl (lv_at hl 1 rfl) ?_
              refine lv_aload_n hx hb dL_law_252 rfl (lv_at hl 0 rfl) ?_
              refine lv_iload hx hb dL_law_253 (lv_at hl 4 rfl) ?_
              refine lv_iconst (v := (1 : Int32)) hx hb dL_law_255 (by decide) ?_
              refine lv_iadd hx hb dL_law_256 ?_
              replace hF := gd_of hF
              obtain ⟨hi70, hF⟩ := hF
              refine va_sld hx hb hX hbl hbA hS hi70 dL_law_257 ?_
              refine lv_aload_n hx hb dL_law_258 rfl (lv_at hl 0 rfl) ?_
              refine lv_iload hx hb dL_law_259 (lv_at hl 4 rfl) ?_
              refine lv_iconst (v := (2 : Int32)) hx hb dL_law_261 (by decide) ?_
              refine lv_iadd hx hb dL_law_262 ?_
              replace hF := gd_of hF
              obtain ⟨hi71, hF⟩ := hF
              refine va_sld hx hb hX hbl hbA hS hi71 dL_law_263 ?_
              refine lv_aload_n hx hb dL_law_264 rfl (lv_at hl 0 rfl) ?_
              refine lv_iload hx hb dL_law_265 (lv_at hl 4 rfl) ?_
              refine lv_iconst (v := (3 : Int32)) hx hb dL_law_267 (by decide) ?_
              refine lv_iadd hx hb dL_law_268 ?_
              replace hF := gd_of hF
              obtain ⟨hi72, hF⟩ := hF
              refine va_sld hx hb hX hbl hbA hS hi72 dL_law_269 ?_
              refine lv_aload_n hx hb dL_law_270 rfl (lv_at hl 0 rfl) ?_
              refine lv_iload hx hb dL_law_271 (lv_at hl 4 rfl) ?_
              refine lv_iconst (v := (4 : Int32)) hx hb dL_law_273 (by decide) ?_
              refine lv_iadd hx hb dL_law_274 ?_
              replace hF := gd_of hF
              obtain ⟨hi73, hF⟩ := hF
              refine va_sld hx hb hX hbl hbA hS hi73 dL_law_275 ?_
              refine lv_aload_n hx hb dL_law_276 rfl (lv_at hl 3 rfl) ?_
              replace hF := obnd6_of hF
              obtain ⟨r78, fi75, ar76, ln77, kc79, ks80, h74, hF⟩ := hF
              replace hF := addc2_of hF
              obtain ⟨kc81, ks82, e83c, e83s, hF⟩ := hF
              refine lO_i (As := [.ref (ad (0)), .int (xs ((x4) + (1 : Int32)).toNatClampNeg), .int (xs ((x4) + (2 : Int32)).toNatClampNeg), .int (xs ((x4) + (3 : Int32)).toNatClampNeg), .int (xs ((x4) + (4 : Int32)).toNatClampNeg), .ref (ou)]) (rest := []) hx hb hml hTX hown hK hE hEX hNc hD hA hPo hPm hS (kL_format l g ad rd ou _ nf hlt fi ar ln fo (xs ((x4) + (1 : Int32)).toNatClampNeg) (xs ((x4) + (2 : Int32)).toNatClampNeg) (xs ((x4) + (3 : Int32)).toNatClampNeg) (xs ((x4) + (4 : Int32)).toNatClampNeg) r78 fi75 ar76 ln77 kc79 ks80 h74) cw_L_format mw8_19 ⟨⟨rfl, rfl⟩, Nat.le_of_ble_eq_true rfl, Nat.le_of_ble_eq_true rfl⟩ rfl hl.1 rfl (Nat.le_of_ble_eq_true rfl) dL_law_277 ⟨by show _ ≤ room_1.cells; omega, by show _ ≤ room_1.slots; omega⟩ (fun rd H locs hPo hPm hD hS => ?_)
              replace hkc : cells + kc79 + kc81 ≤ room_1.cells := by omega
              replace hks : slots + ks80 + ks82 ≤ room_1.slots := by omega
              obtain ⟨x5_84, ex5_84⟩ : ∃ y : Int32, y = (r78.1) := ⟨_, rfl⟩
              rw [← ex5_84]
              replace hF := bnd_of hF ex5_84
              refine lv_istore (lv' := [(5, .int (x5_84)), (0, .ref (b)), (1, .ref (ad (0))), (2, .ref (am 0)), (3, .ref (ou)), (4, .int (x4))]) hx hb dL_law_280 hl (by decide) rfl (fun ls hl => ?_)
              refine lv_aload_n hx hb dL_law_282 rfl (lv_at hl 3 rfl) ?_
              refine lv_aload_n hx hb dL_law_283 rfl (lv_at hl 1 rfl) ?_
              refine lv_iload hx hb dL_law_284 (lv_at hl 5 rfl) ?_
              refine lv_iconst (v := (1 : Int32)) hx hb dL_law_286 (by decide) ?_
              refine lv_iadd hx hb dL_law_287 ?_
              replace hF := gd_of hF
              obtain ⟨hi85, hF⟩ := hF
              refine va_sld hx hb hX hbl hbA hS hi85 dL_law_288 ?_
              refine lv_aload_n hx hb dL_law_289 rfl (lv_at hl 1 rfl) ?_
              refine lv_iload hx hb dL_law_290 (lv_at hl 5 rfl) ?_
              refine lv_iconst (v := (2 : Int32)) hx hb dL_law_292 (by decide) ?_
              refine lv_iadd hx hb dL_law_293 ?_
              replace hF := gd_of hF
              obtain ⟨hi86, hF⟩ := hF
              refine va_sld hx hb hX hbl hbA hS hi86 dL_law_294 ?_
              refine lv_aload_n hx hb dL_law_295 rfl (lv_at hl 1 rfl) ?_
              refine lv_iload hx hb dL_law_296 (lv_at hl 5 rfl) ?_
              refine lv_iconst (v := (3 : Int32)) hx hb dL_law_298 (by decide) ?_
              refine lv_iadd hx hb dL_law_299 ?_
              replace hF := gd_of hF
              obtain ⟨hi87, hF⟩ := hF
              refine va_sld hx hb hX hbl hbA hS hi87 dL_law_300 ?_
              refine lv_aload_n hx hb dL_law_301 rfl (lv_at hl 1 rfl) ?_
              refine lv_iload hx hb dL_law_302 (lv_at hl 5 rfl) ?_
              refine lv_iconst (v := (4 : Int32)) hx hb dL_law_304 (by decide) ?_
              refine lv_iadd hx hb dL_law_305 ?_
              replace hF := gd_of hF
              obtain ⟨hi88, hF⟩ := hF
              refine va_sld hx hb hX hbl hbA hS hi88 dL_law_306 ?_
              replace hF := obnd3_of hF
              obtain ⟨r90, fm91, arm92, h89, hF⟩ := hF
              refine lM_i (As := [.int (xs ((x4) + (1 : Int32)).toNatClampNeg), .int (xs ((x4) + (2 : Int32)).toNatClampNeg), .int (xs ((x4) + (3 : Int32)).toNatClampNeg), .int (xs ((x4) + (4 : Int32)).toNatClampNeg)]) (rest := []) hx hb hml hTX hown hK hE hD hA hPo hPm hS (k_format l g am _ nf fm arm (xs ((x4) + (1 : Int32)).toNatClampNeg) (xs ((x4) + (2 : Int32)).toNatClampNeg) (xs ((x4) + (3 : Int32)).toNatClampNeg) (xs ((x4) + (4 : Int32)).toNatClampNeg) r90 fm91 arm92 h89) cw_X11_format mw17_12 ⟨⟨rfl, rfl⟩, Nat.le_of_ble_eq_true rfl, Nat.le_of_ble_eq_true rfl⟩ rfl hl.1 rfl (Nat.le_of_ble_eq_true rfl) dL_law_307 ⟨by show _ ≤ room_1.cells; omega, by show _ ≤ room_1.slots; omega⟩ (fun H locs hPo hPm hS => ?_)
              refine lv_istore (lv' := [(6, .int (r90)), (5, .int (x5_84)), (0, .ref (b)), (1, .ref (ad (0))), (2, .ref (am 0)), (3, .ref (ou)), (4, .int (x4))]) hx hb dL_law_310 hl (by decide) rfl (fun ls hl => ?_)
              refine lv_aload_n hx hb dL_law_312 rfl (lv_at hl 4 rfl) ?_
              replace hF := obnd3_of hF
              obtain ⟨r94, fm95, arm96, h93, hF⟩ := hF
              refine lM_i (As := []) (rest := []) hx hb hml hTX hown hK hE hD hA hPo hPm hS (k_thrown l g am _ nf fm91 arm92 r94 fm95 arm96 h93) cw_X11_thrown mw20_19 ⟨⟨rfl, rfl⟩, Nat.le_of_ble_eq_true rfl, Nat.le_of_ble_eq_true rfl⟩ rfl hl.1 rfl (Nat.le_of_ble_eq_true rfl) dL_law_313 ⟨by show _ ≤ room_1.cells; omega, by show _ ≤ room_1.slots; omega⟩ (fun H locs hPo hPm hS => ?_)
              refine lv_iload hx hb dL_law_316 (lv_at hl 1 rfl) ?_
              refine lv_icmp_eq (tgt := 323) hx hb dL_law_318 (by decide) (fun hc97 => ?_) (fun hc97 => ?_)
              · replace hF := br_yes hF hc97
                refine lv_iload hx hb dL_law_323 (lv_at hl 1 rfl) ?_
                refine lv_if_ne (tgt := 340) hx hb dL_law_325 (by decide) (fun hc98 => ?_) (fun hc98 => ?_)
                · replace hF := br_no hF hc98
                  exact J340 (x4) _ _ _ _ _ _ _ _ _ _ _ _ _ _ hF hkc hks (lv_sub hl [2, 3, 4, 5, 6] rfl) hPo hPm hD hS
                · replace hF := br_yes hF hc98
                  refine lv_aload_n hx hb dL_law_328 rfl (lv_at hl 5 rfl) ?_
                  refine lv_iconst (v := (0 : Int32)) hx hb dL_law_329 (by decide) ?_
                  refine va_lald hx hb hK hPo 40 4 wo_at rfl (by unfold vp_in; decide) dL_law_330 ?_
                  refine lv_iload hx hb dL_law_331 (lv_at hl 0 rfl) ?_
                  refine lv_i2l hx hb dL_law_333 rfl ?_
                  refine W.lcmp hx hb dL_law_334 ?_
                  refine lv_if_eq (tgt := 340) hx hb dL_law_335 (by decide) (fun hc99 => ?_) (fun hc99 => ?_)
                  · replace hF := br_yes hF hc99
                    exact J340 (x4) _ _ _ _ _ _ _ _ _ _ _ _ _ _ hF hkc hks (lv_sub hl [2, 3, 4, 5, 6] rfl) hPo hPm hD hS
                  · replace hF := br_no hF hc99
                    refine lv_iconst (v := (0 : Int32)) hx hb dL_law_338 (by decide) ?_
                    exact (ret0_no hF).elim
              · replace hF := br_no hF hc97
                refine lv_iconst (v := (0 : Int32)) hx hb dL_law_321 (by decide) ?_
                exact (ret0_no hF).elim
            · replace hF := br_no hF hc69
              by_cases hc100 : ((xs (x4).toNatClampNeg) &&& (31 : Int32)) = (4 : Int32)
              · replace hF := br_yes hF hc100
                refine lv_tableIn (tgt := 343) (off := 293) hx hb dL_law_50 (by rw [hc100]; decide) (by rw [hc100]; decide) (by rw [hc100]; rfl) (by decide) ?_
                refine lv_aload_n hx hb dL_law_343 rfl (lv_at hl 1 rfl) ?_
                refine lv_aload_n hx hb dL_law_344 rfl (lv_at hl 0 rfl) ?_
                refine lv_iload hx hb dL_law_345 (lv_at hl 4 rfl) ?_
                refine lv_iconst (v := (1 : Int32)) hx hb dL_law_347 (by decide) ?_
                refine lv_iadd hx hb dL_law_348 ?_
                replace hF := gd_of hF
                obtain ⟨hi101, hF⟩ := hF
                refine va_sld hx hb hX hbl hbA hS hi101 dL_law_349 ?_
                refine lv_aload_n hx hb dL_law_350 rfl (lv_at hl 0 rfl) ?_
                refine lv_iload hx hb dL_law_351 (lv_at hl 4 rfl) ?_
                refine lv_iconst (v := (2 : Int32)) hx hb dL_law_353 (by decide) ?_
                refine lv_iadd hx hb dL_law_354 ?_
                replace hF := gd_of hF
                obtain ⟨hi102, hF⟩ := hF
                refine va_sld hx hb hX hbl hbA hS hi102 dL_law_355 ?_
                refine lv_aload_n hx hb dL_law_356 rfl (lv_at hl 0 rfl) ?_
                refine lv_iload hx hb dL_law_357 (lv_at hl 4 rfl) ?_
                refine lv_iconst (v := (3 : Int32)) hx hb dL_law_359 (by decide) ?_
                refine lv_iadd hx hb dL_law_360 ?_
                replace hF := gd_of hF
                obtain ⟨hi103, hF⟩ := hF
                refine va_sld hx hb hX hbl hbA hS hi103 dL_law_361 ?_
                replace hF := obnd3_of hF
                obtain ⟨r105, fi106, ar107, h104, hF⟩ := hF
                refine lC_i (As := [.int (xs ((x4) + (1 : Int32)).toNatClampNeg), .int (xs ((x4) + (2 : Int32)).toNatClampNeg), .int (xs ((x4) + (3 : Int32)).toNatClampNeg)]) (rest := []) hx hb hml hTX hown hK hE hD hA hPo hPm hS (kX10_poke l g ad rd _ nf ln fi ar (xs ((x4) + (1 : Int32)).toNatClampNeg) (xs ((x4) + (2 : Int32)).toNatClampNeg) (xs ((x4) + (3 : Int32)).toNatClampNeg) r105 fi106 ar107 h104) cw_X10_poke mw20_23 ⟨⟨rfl, rfl⟩, Nat.le_of_ble_eq_true rfl, Nat.le_of_ble_eq_true rfl⟩ rfl hl.1 rfl (Nat.le_of_ble_eq_true rfl) dL_law_362 ⟨by show _ ≤ room_1.cells; omega, by show _ ≤ room_1.slots; omega⟩ (fun H locs hPo hPm hS => ?_)
                refine lv_aload_n hx hb dL_law_365 rfl (lv_at hl 2 rfl) ?_
                refine lv_aload_n hx hb dL_law_366 rfl (lv_at hl 0 rfl) ?_
                refine lv_iload hx hb dL_law_367 (lv_at hl 4 rfl) ?_
                refine lv_iconst (v := (1 : Int32)) hx hb dL_law_369 (by decide) ?_
                refine lv_iadd hx hb dL_law_370 ?_
                replace hF := gd_of hF
                obtain ⟨hi108, hF⟩ := hF
                refine va_sld hx hb hX hbl hbA hS hi108 dL_law_371 ?_
                refine lv_aload_n hx hb dL_law_372 rfl (lv_at hl 0 rfl) ?_
                refine lv_iload hx hb dL_law_373 (lv_at hl 4 rfl) ?_
                refine lv_iconst (v := (2 : Int32)) hx hb dL_law_375 (by decide) ?_
                refine lv_iadd hx hb dL_law_376 ?_
                replace hF := gd_of hF
                obtain ⟨hi109, hF⟩ := hF
                refine va_sld hx hb hX hbl hbA hS hi109 dL_law_377 ?_
                refine lv_aload_n hx hb dL_law_378 rfl (lv_at hl 0 rfl) ?_
                refine lv_iload hx hb dL_law_379 (lv_at hl 4 rfl) ?_
                refine lv_iconst (v := (3 : Int32)) hx hb dL_law_381 (by decide) ?_
                refine lv_iadd hx hb dL_law_382 ?_
                replace hF := gd_of hF
                obtain ⟨hi110, hF⟩ := hF
                refine va_sld hx hb hX hbl hbA hS hi110 dL_law_383 ?_
                replace hF := obnd3_of hF
                obtain ⟨r112, fm113, arm114, h111, hF⟩ := hF
                refine lM_i (As := [.int (xs ((x4) + (1 : Int32)).toNatClampNeg), .int (xs ((x4) + (2 : Int32)).toNatClampNeg), .int (xs ((x4) + (3 : Int32)).toNatClampNeg)]) (rest := [.int (r105)]) hx hb hml hTX hown hK hE hD hA hPo hPm hS (k_poke l g am _ nf fm arm (xs ((x4) + (1 : Int32)).toNatClampNeg) (xs ((x4) + (2 : Int32)).toNatClampNeg) (xs ((x4) + (3 : Int32)).toNatClampNeg) r112 fm113 arm114 h111) cw_X11_poke mw21_7 ⟨⟨rfl, rfl⟩, Nat.le_of_ble_eq_true rfl, Nat.le_of_ble_eq_true rfl⟩ rfl hl.1 rfl (Nat.le_of_ble_eq_true rfl) dL_law_384 ⟨by show _ ≤ room_1.cells; omega, by show _ ≤ room_1.slots; omega⟩ (fun H locs hPo hPm hS => ?_)
                refine lv_icmp_eq (tgt := 1193) hx hb dL_law_387 (by decide) (fun hc115 => ?_) (fun hc115 => ?_)
                · replace hF := br_yes hF hc115
                  exact J1193 (x4) _ _ _ _ _ _ _ _ _ _ _ _ _ _ hF hkc hks (lv_sub hl [0, 1, 2, 3, 4] rfl) hPo hPm hD hS
                · replace hF := br_no hF hc115
                  refine lv_iconst (v := (0 : Int32)) hx hb dL_law_390 (by decide) ?_
                  exact (ret0_no hF).elim
              · replace hF := br_no hF hc100
                by_cases hc116 : ((xs (x4).toNatClampNeg) &&& (31 : Int32)) = (5 : Int32)
                · replace hF := br_yes hF hc116
                  refine lv_tableIn (tgt := 392) (off := 342) hx hb dL_law_50 (by rw [hc116]; decide) (by rw [hc116]; decide) (by rw [hc116]; rfl) (by decide) ?_
                  refine lv_aload_n hx hb dL_law_392 rfl (lv_at hl 1 rfl) ?_
                  replace hF := obnd6_of hF
                  obtain ⟨r118, fi119, ar120, ln121, kc122, ks123, h117, hF⟩ := hF
                  replace hF := addc2_of hF
                  obtain ⟨kc124, ks125, e126c, e126s, hF⟩ := hF
                  refine lA_i (As := []) (rest := []) hx hb hml hTX hown hK hE hD hA hPo hPm hS (kX10_fault l g ad rd _ nf fi ar ln r118 fi119 ar120 ln121 kc122 ks123 h117) cw_X10_fault mw21_11 ⟨⟨rfl, rfl⟩, Nat.le_of_ble_eq_true rfl, Nat.le_of_ble_eq_true rfl⟩ rfl hl.1 rfl (Nat.le_of_ble_eq_true rfl) dL_law_393 ⟨by show _ ≤ room_1.cells; omega, by show _ ≤ room_1.slots; omega⟩ (fun rd H locs hPo hPm hD hS => ?_)
                  replace hkc : cells + kc122 + kc124 ≤ room_1.cells := by omega
                  replace hks : slots + ks123 + ks125 ≤ room_1.slots := by omega
                  refine lv_aload_n hx hb dL_law_396 rfl (lv_at hl 2 rfl) ?_
                  replace hF := obnd3_of hF
                  obtain ⟨r128, fm129, arm130, h127, hF⟩ := hF
                  refine lM_i (As := []) (rest := [.int (r118)]) hx hb hml hTX hown hK hE hD hA hPo hPm hS (k_fault l g am _ nf fm arm r128 fm129 arm130 h127) cw_X11_fault mw31_1 ⟨⟨rfl, rfl⟩, Nat.le_of_ble_eq_true rfl, Nat.le_of_ble_eq_true rfl⟩ rfl hl.1 rfl (Nat.le_of_ble_eq_true rfl) dL_law_397 ⟨by show _ ≤ room_1.cells; omega, by show _ ≤ room_1.slots; omega⟩ (fun H locs hPo hPm hS => ?_)
                  refine lv_icmp_eq (tgt := 1193) hx hb dL_law_400 (by decide) (fun hc131 => ?_) (fun hc131 => ?_)
                  · replace hF := br_yes hF hc131
                    exact J1193 (x4) _ _ _ _ _ _ _ _ _ _ _ _ _ _ hF hkc hks (lv_sub hl [0, 1, 2, 3, 4] rfl) hPo hPm hD hS
                  · replace hF := br_no hF hc131
                    refine lv_iconst (v := (0 : Int32)) hx hb dL_law_403 (by decide) ?_
                    exact (ret0_no hF).elim
                · replace hF := br_no hF hc116
                  by_cases hc132 : ((xs (x4).toNatClampNeg) &&& (31 : Int32)) = (6 : Int32)
                  · replace hF := br_yes hF hc132
                    refine lv_tableIn (tgt := 405) (off := 355) hx hb dL_law_50 (by rw [hc132]; decide) (by rw [hc132]; decide) (by rw [hc132]; rfl) (by decide) ?_
                    refine lv_aload_n hx hb dL_law_405 rfl (lv_at hl 1 rfl) ?_
                    refine lv_aload_n hx hb dL_law_406 rfl (lv_at hl 0 rfl) ?_
                    refine lv_iload hx hb dL_law_407 (lv_at hl 4 rfl) ?_
                    refine lv_iconst (v := (1 : Int32)) hx hb dL_law_409 (by decide) ?_
                    refine lv_iadd hx hb dL_law_410 ?_
                    replace hF := gd_of hF
                    obtain ⟨hi133, hF⟩ := hF
                    refine va_sld hx hb hX hbl hbA hS hi133 dL_law_411 ?_
                    refine lv_aload_n hx hb dL_law_412 rfl (lv_at hl 0 rfl) ?_
                    refine lv_iload hx hb dL_law_413 (lv_at hl 4 rfl) ?_
                    refine lv_iconst (v := (2 : Int32)) hx hb dL_law_415 (by decide) ?_
                    refine lv_iadd hx hb dL_law_416 ?_
                    replace hF := gd_of hF
                    obtain ⟨hi134, hF⟩ := hF
                    refine va_sld hx hb hX hbl hbA hS hi134 dL_law_417 ?_
                    replace hF := obnd3_of hF
                    obtain ⟨r136, fi137, ar138, h135, hF⟩ := hF
                    refine lC_i (As := [.int (xs ((x4) + (1 : Int32)).toNatClampNeg), .int (xs ((x4) + (2 : Int32)).toNatClampNeg)]) (rest := []) hx hb hml hTX hown hK hE hD hA hPo hPm hS (kX10_byteAt l g ad rd _ nf ln fi ar (xs ((x4) + (1 : Int32)).toNatClampNeg) (xs ((x4) + (2 : Int32)).toNatClampNeg) r136 fi137 ar138 h135) cw_X10_byteAt mw36_1 ⟨⟨rfl, rfl⟩, Nat.le_of_ble_eq_true rfl, Nat.le_of_ble_eq_true rfl⟩ rfl hl.1 rfl (Nat.le_of_ble_eq_true rfl) dL_law_418 ⟨by show _ ≤ room_1.cells; omega, by show _ ≤ room_1.slots; omega⟩ (fun H locs hPo hPm hS => ?_)
                    refine lv_aload_n hx hb dL_law_421 rfl (lv_at hl 2 rfl) ?_
                    refine lv_aload_n hx hb dL_law_422 rfl (lv_at hl 0 rfl) ?_
                    refine lv_iload hx hb dL_law_423 (lv_at hl 4 rfl) ?_
                    refine lv_iconst (v := (1 : Int32)) hx hb dL_law_425 (by decide) ?_
                    refine lv_iadd hx hb dL_law_426 ?_
                    replace hF := gd_of hF
                    obtain ⟨hi139, hF⟩ := hF
                    refine va_sld hx hb hX hbl hbA hS hi139 dL_law_427 ?_
                    refine lv_aload_n hx hb dL_law_428 rfl (lv_at hl 0 rfl) ?_
                    refine lv_iload hx hb dL_law_429 (lv_at hl 4 rfl) ?_
                    refine lv_iconst (v := (2 : Int32)) hx hb dL_law_431 (by decide) ?_
                    refine lv_iadd hx hb dL_law_432 ?_
                    replace hF := gd_of hF
                    obtain ⟨hi140, hF⟩ := hF
                    refine va_sld hx hb hX hbl hbA hS hi140 dL_law_433 ?_
                    replace hF := obnd3_of hF
                    obtain ⟨r142, fm143, arm144, h141, hF⟩ := hF
                    refine lM_i (As := [.int (xs ((x4) + (1 : Int32)).toNatClampNeg), .int (xs ((x4) + (2 : Int32)).toNatClampNeg)]) (rest := [.int (r136)]) hx hb hml hTX hown hK hE hD hA hPo hPm hS (k_byteAt l g am _ nf fm arm (xs ((x4) + (1 : Int32)).toNatClampNeg) (xs ((x4) + (2 : Int32)).toNatClampNeg) r142 fm143 arm144 h141) cw_X11_byteAt mw36_11 ⟨⟨rfl, rfl⟩, Nat.le_of_ble_eq_true rfl, Nat.le_of_ble_eq_true rfl⟩ rfl hl.1 rfl (Nat.le_of_ble_eq_true rfl) dL_law_434 ⟨by show _ ≤ room_1.cells; omega, by show _ ≤ room_1.slots; omega⟩ (fun H locs hPo hPm hS => ?_)
                    refine lv_icmp_eq (tgt := 1193) hx hb dL_law_437 (by decide) (fun hc145 => ?_) (fun hc145 => ?_)
                    · replace hF := br_yes hF hc145
                      exact J1193 (x4) _ _ _ _ _ _ _ _ _ _ _ _ _ _ hF hkc hks (lv_sub hl [0, 1, 2, 3, 4] rfl) hPo hPm hD hS
                    · replace hF := br_no hF hc145
                      refine lv_iconst (v := (0 : Int32)) hx hb dL_law_440 (by decide) ?_
                      exact (ret0_no hF).elim
                  · replace hF := br_no hF hc132
                    by_cases hc146 : ((xs (x4).toNatClampNeg) &&& (31 : Int32)) = (7 : Int32)
                    · replace hF := br_yes hF hc146
                      refine lv_tableIn (tgt := 442) (off := 392) hx hb dL_law_50 (by rw [hc146]; decide) (by rw [hc146]; decide) (by rw [hc146]; rfl) (by decide) ?_
                      refine lv_aload_n hx hb dL_law_442 rfl (lv_at hl 1 rfl) ?_
                      replace hF := obnd3_of hF
                      obtain ⟨r148, fi149, ar150, h147, hF⟩ := hF
                      refine lC_i (As := []) (rest := []) hx hb hml hTX hown hK hE hD hA hPo hPm hS (kX10_free l g ad rd _ nf ln fi ar r148 fi149 ar150 h147) cw_X10_free mw36_15 ⟨⟨rfl, rfl⟩, Nat.le_of_ble_eq_true rfl, Nat.le_of_ble_eq_true rfl⟩ rfl hl.1 rfl (Nat.le_of_ble_eq_true rfl) dL_law_443 ⟨by show _ ≤ room_1.cells; omega, by show _ ≤ room_1.slots; omega⟩ (fun H locs hPo hPm hS => ?_)
                      refine lv_aload_n hx hb dL_law_446 rfl (lv_at hl 2 rfl) ?_
                      replace hF := obnd3_of hF
                      obtain ⟨r152, fm153, arm154, h151, hF⟩ := hF
                      refine lM_i (As := []) (rest := [.int (r148)]) hx hb hml hTX hown hK hE hD hA hPo hPm hS (k_free l g am _ nf fm arm r152 fm153 arm154 h151) cw_X11_free mw36_23 ⟨⟨rfl, rfl⟩, Nat.le_of_ble_eq_true rfl, Nat.le_of_ble_eq_true rfl⟩ rfl hl.1 rfl (Nat.le_of_ble_eq_true rfl) dL_law_447 ⟨by show _ ≤ room_1.cells; omega, by show _ ≤ room_1.slots; omega⟩ (fun H locs hPo hPm hS => ?_)
                      refine lv_icmp_eq (tgt := 1193) hx hb dL_law_450 (by decide) (fun hc155 => ?_) (fun hc155 => ?_)
                      · replace hF := br_yes hF hc155
                        exact J1193 (x4) _ _ _ _ _ _ _ _ _ _ _ _ _ _ hF hkc hks (lv_sub hl [0, 1, 2, 3, 4] rfl) hPo hPm hD hS
                      · replace hF := br_no hF hc155
                        refine lv_iconst (v := (0 : Int32)) hx hb dL_law_453 (by decide) ?_
                        exact (ret0_no hF).elim
                    · replace hF := br_no hF hc146
                      by_cases hc156 : ((xs (x4).toNatClampNeg) &&& (31 : Int32)) = (8 : Int32)
                      · replace hF := br_yes hF hc156
                        refine lv_tableIn (tgt := 455) (off := 405) hx hb dL_law_50 (by rw [hc156]; decide) (by rw [hc156]; decide) (by rw [hc156]; rfl) (by decide) ?_
                        refine lv_aload_n hx hb dL_law_455 rfl (lv_at hl 1 rfl) ?_
                        refine lv_aload_n hx hb dL_law_456 rfl (lv_at hl 3 rfl) ?_
                        replace hF := obnd6_of hF
                        obtain ⟨r161, fi158, ar159, ln160, kc162, ks163, h157, hF⟩ := hF
                        replace hF := addc2_of hF
                        obtain ⟨kc164, ks165, e166c, e166s, hF⟩ := hF
                        refine lO_i (As := [.ref (ad (0)), .ref (ou)]) (rest := []) hx hb hml hTX hown hK hE hEX hNc hD hA hPo hPm hS (kL_items l g ad rd ou _ nf hlt fi ar ln fo r161 fi158 ar159 ln160 kc162 ks163 h157) cw_L_items mw37_7 ⟨⟨rfl, rfl⟩, Nat.le_of_ble_eq_true rfl, Nat.le_of_ble_eq_true rfl⟩ rfl hl.1 rfl (Nat.le_of_ble_eq_true rfl) dL_law_457 ⟨by show _ ≤ room_1.cells; omega, by show _ ≤ room_1.slots; omega⟩ (fun rd H locs hPo hPm hD hS => ?_)
                        replace hkc : cells + kc162 + kc164 ≤ room_1.cells := by omega
                        replace hks : slots + ks163 + ks165 ≤ room_1.slots := by omega
                        obtain ⟨x5_167, ex5_167⟩ : ∃ y : Int32, y = (r161.1) := ⟨_, rfl⟩
                        rw [← ex5_167]
                        replace hF := bnd_of hF ex5_167
                        refine lv_istore (lv' := [(5, .int (x5_167)), (0, .ref (b)), (1, .ref (ad (0))), (2, .ref (am 0)), (3, .ref (ou)), (4, .int (x4))]) hx hb dL_law_460 hl (by decide) rfl (fun ls hl => ?_)
                        refine lv_aload_n hx hb dL_law_462 rfl (lv_at hl 3 rfl) ?_
                        replace hF := obnd3_of hF
                        obtain ⟨r169, fm170, arm171, h168, hF⟩ := hF
                        refine lM_i (As := []) (rest := []) hx hb hml hTX hown hK hE hD hA hPo hPm hS (k_items l g am _ nf fm arm r169 fm170 arm171 h168) cw_X11_items mw38_6 ⟨⟨rfl, rfl⟩, Nat.le_of_ble_eq_true rfl, Nat.le_of_ble_eq_true rfl⟩ rfl hl.1 rfl (Nat.le_of_ble_eq_true rfl) dL_law_463 ⟨by show _ ≤ room_1.cells; omega, by show _ ≤ room_1.slots; omega⟩ (fun H locs hPo hPm hS => ?_)
                        refine lv_istore (lv' := [(6, .int (r169)), (5, .int (x5_167)), (0, .ref (b)), (1, .ref (ad (0))), (2, .ref (am 0)), (3, .ref (ou)), (4, .int (x4))]) hx hb dL_law_466 hl (by decide) rfl (fun ls hl => ?_)
                        refine lv_aload_n hx hb dL_law_468 rfl (lv_at hl 4 rfl) ?_
                        replace hF := obnd3_of hF
                        obtain ⟨r173, fm174, arm175, h172, hF⟩ := hF
                        refine lM_i (As := []) (rest := []) hx hb hml hTX hown hK hE hD hA hPo hPm hS (k_thrown l g am _ nf fm170 arm171 r173 fm174 arm175 h172) cw_X11_thrown mw20_19 ⟨⟨rfl, rfl⟩, Nat.le_of_ble_eq_true rfl, Nat.le_of_ble_eq_true rfl⟩ rfl hl.1 rfl (Nat.le_of_ble_eq_true rfl) dL_law_469 ⟨by show _ ≤ room_1.cells; omega, by show _ ≤ room_1.slots; omega⟩ (fun H locs hPo hPm hS => ?_)
                        refine lv_iload hx hb dL_law_472 (lv_at hl 1 rfl) ?_
                        refine lv_icmp_eq (tgt := 479) hx hb dL_law_474 (by decide) (fun hc176 => ?_) (fun hc176 => ?_)
                        · replace hF := br_yes hF hc176
                          refine lv_iload hx hb dL_law_479 (lv_at hl 1 rfl) ?_
                          refine lv_if_ne (tgt := 496) hx hb dL_law_481 (by decide) (fun hc177 => ?_) (fun hc177 => ?_)
                          · replace hF := br_no hF hc177
                            exact J496 (x4) _ _ _ _ _ _ _ _ _ _ _ _ _ _ hF hkc hks (lv_sub hl [2, 3, 4, 5, 6] rfl) hPo hPm hD hS
                          · replace hF := br_yes hF hc177
                            refine lv_aload_n hx hb dL_law_484 rfl (lv_at hl 5 rfl) ?_
                            refine lv_iconst (v := (0 : Int32)) hx hb dL_law_485 (by decide) ?_
                            refine va_lald hx hb hK hPo 40 4 wo_at rfl (by unfold vp_in; decide) dL_law_486 ?_
                            refine lv_iload hx hb dL_law_487 (lv_at hl 0 rfl) ?_
                            refine lv_i2l hx hb dL_law_489 rfl ?_
                            refine W.lcmp hx hb dL_law_490 ?_
                            refine lv_if_eq (tgt := 496) hx hb dL_law_491 (by decide) (fun hc178 => ?_) (fun hc178 => ?_)
                            · replace hF := br_yes hF hc178
                              exact J496 (x4) _ _ _ _ _ _ _ _ _ _ _ _ _ _ hF hkc hks (lv_sub hl [2, 3, 4, 5, 6] rfl) hPo hPm hD hS
                            · replace hF := br_no hF hc178
                              refine lv_iconst (v := (0 : Int32)) hx hb dL_law_494 (by decide) ?_
                              exact (ret0_no hF).elim
                        · replace hF := br_no hF hc176
                          refine lv_iconst (v := (0 : Int32)) hx hb dL_law_477 (by decide) ?_
                          exact (ret0_no hF).elim
                      · replace hF := br_no hF hc156
                        by_cases hc179 : ((xs (x4).toNatClampNeg) &&& (31 : Int32)) = (9 : Int32)
                        · replace hF := br_yes hF hc179
                          refine lv_tableIn (tgt := 499) (off := 449) hx hb dL_law_50 (by rw [hc179]; decide) (by rw [hc179]; decide) (by rw [hc179]; rfl) (by decide) ?_
                          refine lv_aload_n hx hb dL_law_499 rfl (lv_at hl 1 rfl) ?_
                          refine lv_aload_n hx hb dL_law_500 rfl (lv_at hl 0 rfl) ?_
                          refine lv_iload hx hb dL_law_501 (lv_at hl 4 rfl) ?_
                          refine lv_iconst (v := (1 : Int32)) hx hb dL_law_503 (by decide) ?_
                          refine lv_iadd hx hb dL_law_504 ?_
                          replace hF := gd_of hF
                          obtain ⟨hi180, hF⟩ := hF
                          refine va_sld hx hb hX hbl hbA hS hi180 dL_law_505 ?_
                          refine lv_aload_n hx hb dL_law_506 rfl (lv_at hl 0 rfl) ?_
                          refine lv_iload hx hb dL_law_507 (lv_at hl 4 rfl) ?_
                          refine lv_iconst (v := (2 : Int32)) hx hb dL_law_509 (by decide) ?_
                          refine lv_iadd hx hb dL_law_510 ?_
                          replace hF := gd_of hF
                          obtain ⟨hi181, hF⟩ := hF
                          refine va_sld hx hb hX hbl hbA hS hi181 dL_law_511 ?_
                          refine lv_aload_n hx hb dL_law_512 rfl (lv_at hl 3 rfl) ?_
                          replace hF := obnd6_of hF
                          obtain ⟨r186, fi183, ar184, ln185, kc187, ks188, h182, hF⟩ := hF
                          replace hF := addc2_of hF
                          obtain ⟨kc189, ks190, e191c, e191s, hF⟩ := hF
                          refine lO_i (As := [.ref (ad (0)), .int (xs ((x4) + (1 : Int32)).toNatClampNeg), .int (xs ((x4) + (2 : Int32)).toNatClampNeg), .ref (ou)]) (rest := []) hx hb hml hTX hown hK hE hEX hNc hD hA hPo hPm hS (kL_letter l g ad rd ou _ nf hlt fi ar ln fo (xs ((x4) + (1 : Int32)).toNatClampNeg) (xs ((x4) + (2 : Int32)).toNatClampNeg) r186 fi183 ar184 ln185 kc187 ks188 h182) cw_L_letter mw38_22 ⟨⟨rfl, rfl⟩, Nat.le_of_ble_eq_true rfl, Nat.le_of_ble_eq_true rfl⟩ rfl hl.1 rfl (Nat.le_of_ble_eq_true rfl) dL_law_513 ⟨by show _ ≤ room_1.cells; omega, by show _ ≤ room_1.slots; omega⟩ (fun rd H locs hPo hPm hD hS => ?_)
                          replace hkc : cells + kc187 + kc189 ≤ room_1.cells := by omega
                          replace hks : slots + ks188 + ks190 ≤ room_1.slots := by omega
                          obtain ⟨x5_192, ex5_192⟩ : ∃ y : Int32, y = (r186.1) := ⟨_, rfl⟩
                          rw [← ex5_192]
                          replace hF := bnd_of hF ex5_192
                          refine lv_istore (lv' := [(5, .int (x5_192)), (0, .ref (b)), (1, .ref (ad (0))), (2, .ref (am 0)), (3, .ref (ou)), (4, .int (x4))]) hx hb dL_law_516 hl (by decide) rfl (fun ls hl => ?_)
                          refine lv_aload_n hx hb dL_law_518 rfl (lv_at hl 3 rfl) ?_
                          refine lv_aload_n hx hb dL_law_519 rfl (lv_at hl 1 rfl) ?_
                          refine lv_iload hx hb dL_law_520 (lv_at hl 5 rfl) ?_
                          refine lv_iconst (v := (1 : Int32)) hx hb dL_law_522 (by decide) ?_
                          refine lv_iadd hx hb dL_law_523 ?_
                          replace hF := gd_of hF
                          obtain ⟨hi193, hF⟩ := hF
                          refine va_sld hx hb hX hbl hbA hS hi193 dL_law_524 ?_
                          refine lv_aload_n hx hb dL_law_525 rfl (lv_at hl 1 rfl) ?_
                          refine lv_iload hx hb dL_law_526 (lv_at hl 5 rfl) ?_
                          refine lv_iconst (v := (2 : Int32)) hx hb dL_law_528 (by decide) ?_
                          refine lv_iadd hx hb dL_law_529 ?_
                          replace hF := gd_of hF
                          obtain ⟨hi194, hF⟩ := hF
                          refine va_sld hx hb hX hbl hbA hS hi194 dL_law_530 ?_
                          replace hF := obnd3_of hF
                          obtain ⟨r196, fm197, arm198, h195, hF⟩ := hF
                          refine lM_i (As := [.int (xs ((x4) + (1 : Int32)).toNatClampNeg), .int (xs ((x4) + (2 : Int32)).toNatClampNeg)]) (rest := []) hx hb hml hTX hown hK hE hD hA hPo hPm hS (k_letter l g am _ nf fm arm (xs ((x4) + (1 : Int32)).toNatClampNeg) (xs ((x4) + (2 : Int32)).toNatClampNeg) r196 fm197 arm198 h195) cw_X11_letter mw39_23 ⟨⟨rfl, rfl⟩, Nat.le_of_ble_eq_true rfl, Nat.le_of_ble_eq_true rfl⟩ rfl hl.1 rfl (Nat.le_of_ble_eq_true rfl) dL_law_531 ⟨by show _ ≤ room_1.cells; omega, by show _ ≤ room_1.slots; omega⟩ (fun H locs hPo hPm hS => ?_)
                          refine lv_istore (lv' := [(6, .int (r196)), (5, .int (x5_192)), (0, .ref (b)), (1, .ref (ad (0))), (2, .ref (am 0)), (3, .ref (ou)), (4, .int (x4))]) hx hb dL_law_534 hl (by decide) rfl (fun ls hl => ?_)
                          refine lv_aload_n hx hb dL_law_536 rfl (lv_at hl 4 rfl) ?_
                          replace hF := obnd3_of hF
                          obtain ⟨r200, fm201, arm202, h199, hF⟩ := hF
                          refine lM_i (As := []) (rest := []) hx hb hml hTX hown hK hE hD hA hPo hPm hS (k_thrown l g am _ nf fm197 arm198 r200 fm201 arm202 h199) cw_X11_thrown mw20_19 ⟨⟨rfl, rfl⟩, Nat.le_of_ble_eq_true rfl, Nat.le_of_ble_eq_true rfl⟩ rfl hl.1 rfl (Nat.le_of_ble_eq_true rfl) dL_law_537 ⟨by show _ ≤ room_1.cells; omega, by show _ ≤ room_1.slots; omega⟩ (fun H locs hPo hPm hS => ?_)
                          refine lv_iload hx hb dL_law_540 (lv_at hl 1 rfl) ?_
                          refine lv_icmp_eq (tgt := 547) hx hb dL_law_542 (by decide) (fun hc203 => ?_) (fun hc203 => ?_)
                          · replace hF := br_yes hF hc203
                            refine lv_iload hx hb dL_law_547 (lv_at hl 1 rfl) ?_
                            refine lv_if_ne (tgt := 564) hx hb dL_law_549 (by decide) (fun hc204 => ?_) (fun hc204 => ?_)
                            · replace hF := br_no hF hc204
                              exact J564 (x4) _ _ _ _ _ _ _ _ _ _ _ _ _ _ hF hkc hks (lv_sub hl [2, 3, 4, 5, 6] rfl) hPo hPm hD hS
                            · replace hF := br_yes hF hc204
                              refine lv_aload_n hx hb dL_law_552 rfl (lv_at hl 5 rfl) ?_
                              refine lv_iconst (v := (0 : Int32)) hx hb dL_law_553 (by decide) ?_
                              refine va_lald hx hb hK hPo 40 4 wo_at rfl (by unfold vp_in; decide) dL_law_554 ?_
                              refine lv_iload hx hb dL_law_555 (lv_at hl 0 rfl) ?_
                              refine lv_i2l hx hb dL_law_557 rfl ?_
                              refine W.lcmp hx hb dL_law_558 ?_
                              refine lv_if_eq (tgt := 564) hx hb dL_law_559 (by decide) (fun hc205 => ?_) (fun hc205 => ?_)
                              · replace hF := br_yes hF hc205
                                exact J564 (x4) _ _ _ _ _ _ _ _ _ _ _ _ _ _ hF hkc hks (lv_sub hl [2, 3, 4, 5, 6] rfl) hPo hPm hD hS
                              · replace hF := br_no hF hc205
                                refine lv_iconst (v := (0 : Int32)) hx hb dL_law_562 (by decide) ?_
                                exact (ret0_no hF).elim
                          · replace hF := br_no hF hc203
                            refine lv_iconst (v := (0 : Int32)) hx hb dL_law_545 (by decide) ?_
                            exact (ret0_no hF).elim
                        · replace hF := br_no hF hc179
                          by_cases hc206 : ((xs (x4).toNatClampNeg) &&& (31 : Int32)) = (10 : Int32)
                          · replace hF := br_yes hF hc206
                            refine lv_tableIn (tgt := 567) (off := 517) hx hb dL_law_50 (by rw [hc206]; decide) (by rw [hc206]; decide) (by rw [hc206]; rfl) (by decide) ?_
                            refine lv_aload_n hx hb dL_law_567 rfl (lv_at hl 1 rfl) ?_
                            refine lv_aload_n hx hb dL_law_568 rfl (lv_at hl 0 rfl) ?_
                            refine lv_iload hx hb dL_law_569 (lv_at hl 4 rfl) ?_
                            refine lv_iconst (v := (1 : Int32)) hx hb dL_law_571 (by decide) ?_
                            refine lv_iadd hx hb dL_law_572 ?_
                            replace hF := gd_of hF
                            obtain ⟨hi207, hF⟩ := hF
                            refine va_sld hx hb hX hbl hbA hS hi207 dL_law_573 ?_
                            refine lv_aload_n hx hb dL_law_574 rfl (lv_at hl 0 rfl) ?_
                            refine lv_iload hx hb dL_law_575 (lv_at hl 4 rfl) ?_
                            refine lv_iconst (v := (2 : Int32)) hx hb dL_law_577 (by decide) ?_
                            refine lv_iadd hx hb dL_law_578 ?_
                            replace hF := gd_of hF
                            obtain ⟨hi208, hF⟩ := hF
                            refine va_sld hx hb hX hbl hbA hS hi208 dL_law_579 ?_
                            refine lv_aload_n hx hb dL_law_580 rfl (lv_at hl 3 rfl) ?_
                            replace hF := obnd6_of hF
                            obtain ⟨r213, fi210, ar211, ln212, kc214, ks215, h209, hF⟩ := hF
                            replace hF := addc2_of hF
                            obtain ⟨kc216, ks217, e218c, e218s, hF⟩ := hF
                            refine lO_i (As := [.ref (ad (0)), .int (xs ((x4) + (1 : Int32)).toNatClampNeg), .int (xs ((x4) + (2 : Int32)).toNatClampNeg), .ref (ou)]) (rest := []) hx hb hml hTX hown hK hE hEX hNc hD hA hPo hPm hS (kL_about l g ad rd ou _ nf hlt fi ar ln fo (xs ((x4) + (1 : Int32)).toNatClampNeg) (xs ((x4) + (2 : Int32)).toNatClampNeg) r213 fi210 ar211 ln212 kc214 ks215 h209) cw_L_about mw40_18 ⟨⟨rfl, rfl⟩, Nat.le_of_ble_eq_true rfl, Nat.le_of_ble_eq_true rfl⟩ rfl hl.1 rfl (Nat.le_of_ble_eq_true rfl) dL_law_581 ⟨by show _ ≤ room_1.cells; omega, by show _ ≤ room_1.slots; omega⟩ (fun rd H locs hPo hPm hD hS => ?_)
                            replace hkc : cells + kc214 + kc216 ≤ room_1.cells := by omega
                            replace hks : slots + ks215 + ks217 ≤ room_1.slots := by omega
                            obtain ⟨x5_219, ex5_219⟩ : ∃ y : Int32, y = (r213.1) := ⟨_, rfl⟩
                            rw [← ex5_219]
                            replace hF := bnd_of hF ex5_219
                            refine lv_istore (lv' := [(5, .int (x5_219)), (0, .ref (b)), (1, .ref (ad (0))), (2, .ref (am 0)), (3, .ref (ou)), (4, .int (x4))]) hx hb dL_law_584 hl (by decide) rfl (fun ls hl => ?_)
                            refine lv_aload_n hx hb dL_law_586 rfl (lv_at hl 3 rfl) ?_
                            refine lv_aload_n hx hb dL_law_587 rfl (lv_at hl 1 rfl) ?_
                            refine lv_iload hx hb dL_law_588 (lv_at hl 5 rfl) ?_
                            refine lv_iconst (v := (1 : Int32)) hx hb dL_law_590 (by decide) ?_
                            refine lv_iadd hx hb dL_law_591 ?_
                            replace hF := gd_of hF
                            obtain ⟨hi220, hF⟩ := hF
                            refine va_sld hx hb hX hbl hbA hS hi220 dL_law_592 ?_
                            refine lv_aload_n hx hb dL_law_593 rfl (lv_at hl 1 rfl) ?_
                            refine lv_iload hx hb dL_law_594 (lv_at hl 5 rfl) ?_
                            refine lv_iconst (v := (2 : Int32)) hx hb dL_law_596 (by decide) ?_
                            refine lv_iadd hx hb dL_law_597 ?_
                            replace hF := gd_of hF
                            obtain ⟨hi221, hF⟩ := hF
                            refine va_sld hx hb hX hbl hbA hS hi221 dL_law_598 ?_
                            replace hF := obnd3_of hF
                            obtain ⟨r223, fm224, arm225, h222, hF⟩ := hF
                            refine lM_l (As := [.int (xs ((x4) + (1 : Int32)).toNatClampNeg), .int (xs ((x4) + (2 : Int32)).toNatClampNeg)]) (rest := []) hx hb hml hTX hown hK hE hD hA hPo hPm hS (k_about l g am _ nf fm arm (xs ((x4) + (1 : Int32)).toNatClampNeg) (xs ((x4) + (2 : Int32)).toNatClampNeg) r223 fm224 arm225 h222) cw_X11_about mw41_23 ⟨⟨rfl, rfl⟩, Nat.le_of_ble_eq_true rfl, Nat.le_of_ble_eq_true rfl⟩ rfl hl.1 rfl (Nat.le_of_ble_eq_true rfl) dL_law_599 ⟨by show _ ≤ room_1.cells; omega, by show _ ≤ room_1.slots; omega⟩ (fun H locs hPo hPm hS => ?_)
                            refine lv_lstore (lv' := [(6, .long (r223)), (5, .int (x5_219)), (0, .ref (b)), (1, .ref (ad (0))), (2, .ref (am 0)), (3, .ref (ou)), (4, .int (x4))]) hx hb dL_law_602 hl (by decide) rfl (fun ls hl => ?_)
                            refine lv_aload_n hx hb dL_law_604 rfl (lv_at hl 4 rfl) ?_
                            replace hF := obnd3_of hF
                            obtain ⟨r227, fm228, arm229, h226, hF⟩ := hF
                            refine lM_i (As := []) (rest := []) hx hb hml hTX hown hK hE hD hA hPo hPm hS (k_thrown l g am _ nf fm224 arm225 r227 fm228 arm229 h226) cw_X11_thrown mw20_19 ⟨⟨rfl, rfl⟩, Nat.le_of_ble_eq_true rfl, Nat.le_of_ble_eq_true rfl⟩ rfl hl.1 rfl (Nat.le_of_ble_eq_true rfl) dL_law_605 ⟨by show _ ≤ room_1.cells; omega, by show _ ≤ room_1.slots; omega⟩ (fun H locs hPo hPm hS => ?_)
                            refine lv_iload hx hb dL_law_608 (lv_at hl 1 rfl) ?_
                            refine lv_icmp_eq (tgt := 615) hx hb dL_law_610 (by decide) (fun hc230 => ?_) (fun hc230 => ?_)
                            · replace hF := br_yes hF hc230
                              refine lv_iload hx hb dL_law_615 (lv_at hl 1 rfl) ?_
                              refine lv_if_ne (tgt := 631) hx hb dL_law_617 (by decide) (fun hc231 => ?_) (fun hc231 => ?_)
                              · replace hF := br_no hF hc231
                                exact J631 (x4) _ _ _ _ _ _ _ _ _ _ _ _ _ _ hF hkc hks (lv_sub hl [2, 3, 4, 5, 6] rfl) hPo hPm hD hS
                              · replace hF := br_yes hF hc231
                                refine lv_aload_n hx hb dL_law_620 rfl (lv_at hl 5 rfl) ?_
                                refine lv_iconst (v := (0 : Int32)) hx hb dL_law_621 (by decide) ?_
                                refine va_lald hx hb hK hPo 40 4 wo_at rfl (by unfold vp_in; decide) dL_law_622 ?_
                                refine lv_lload hx hb dL_law_623 (lv_at hl 0 rfl) ?_
                                refine W.lcmp hx hb dL_law_625 ?_
                                refine lv_if_eq (tgt := 631) hx hb dL_law_626 (by decide) (fun hc232 => ?_) (fun hc232 => ?_)
                                · replace hF := br_yes hF hc232
                                  exact J631 (x4) _ _ _ _ _ _ _ _ _ _ _ _ _ _ hF hkc hks (lv_sub hl [2, 3, 4, 5, 6] rfl) hPo hPm hD hS
                                · replace hF := br_no hF hc232
                                  refine lv_iconst (v := (0 : Int32)) hx hb dL_law_629 (by decide) ?_
                                  exact (ret0_no hF).elim
                            · replace hF := br_no hF hc230
                              refine lv_iconst (v := (0 : Int32)) hx hb dL_law_613 (by decide) ?_
                              exact (ret0_no hF).elim
                          · replace hF := br_no hF hc206
                            by_cases hc233 : ((xs (x4).toNatClampNeg) &&& (31 : Int32)) = (11 : Int32)
                            · replace hF := br_yes hF hc233
                              refine lv_tableIn (tgt := 634) (off := 584) hx hb dL_law_50 (by rw [hc233]; decide) (by rw [hc233]; decide) (by rw [hc233]; rfl) (by decide) ?_
                              refine lv_aload_n hx hb dL_law_634 rfl (lv_at hl 1 rfl) ?_
                              refine lv_aload_n hx hb dL_law_635 rfl (lv_at hl 0 rfl) ?_
                              refine lv_iload hx hb dL_law_636 (lv_at hl 4 rfl) ?_
                              refine lv_iconst (v := (1 : Int32)) hx hb dL_law_638 (by decide) ?_
                              refine lv_iadd hx hb dL_law_639 ?_
                              replace hF := gd_of hF
                              obtain ⟨hi234, hF⟩ := hF
                              refine va_sld hx hb hX hbl hbA hS hi234 dL_law_640 ?_
                              refine lv_aload_n hx hb dL_law_641 rfl (lv_at hl 0 rfl) ?_
                              refine lv_iload hx hb dL_law_642 (lv_at hl 4 rfl) ?_
                              refine lv_iconst (v := (2 : Int32)) hx hb dL_law_644 (by decide) ?_
                              refine lv_iadd hx hb dL_law_645 ?_
                              replace hF := gd_of hF
                              obtain ⟨hi235, hF⟩ := hF
                              refine va_sld hx hb hX hbl hbA hS hi235 dL_law_646 ?_
                              refine lv_aload_n hx hb dL_law_647 rfl (lv_at hl 3 rfl) ?_
                              replace hF := obnd6_of hF
                              obtain ⟨r240, fi237, ar238, ln239, kc241, ks242, h236, hF⟩ := hF
                              replace hF := addc2_of hF
                              obtain ⟨kc243, ks244, e245c, e245s, hF⟩ := hF
                              refine lO_i (As := [.ref (ad (0)), .int (xs ((x4) + (1 : Int32)).toNatClampNeg), .int (xs ((x4) + (2 : Int32)).toNatClampNeg), .ref (ou)]) (rest := []) hx hb hml hTX hown hK hE hEX hNc hD hA hPo hPm hS (kL_content l g ad rd ou _ nf hlt fi ar ln fo (xs ((x4) + (1 : Int32)).toNatClampNeg) (xs ((x4) + (2 : Int32)).toNatClampNeg) r240 fi237 ar238 ln239 kc241 ks242 h236) cw_L_content mw42_15 ⟨⟨rfl, rfl⟩, Nat.le_of_ble_eq_true rfl, Nat.le_of_ble_eq_true rfl⟩ rfl hl.1 rfl (Nat.le_of_ble_eq_true rfl) dL_law_648 ⟨by show _ ≤ room_1.cells; omega, by show _ ≤ room_1.slots; omega⟩ (fun rd H locs hPo hPm hD hS => ?_)
                              replace hkc : cells + kc241 + kc243 ≤ room_1.cells := by omega
                              replace hks : slots + ks242 + ks244 ≤ room_1.slots := by omega
                              obtain ⟨x5_246, ex5_246⟩ : ∃ y : Int32, y = (r240.1) := ⟨_, rfl⟩
                              rw [← ex5_246]
                              replace hF := bnd_of hF ex5_246
                              refine lv_istore (lv' := [(5, .int (x5_246)), (0, .ref (b)), (1, .ref (ad (0))), (2, .ref (am 0)), (3, .ref (ou)), (4, .int (x4))]) hx hb dL_law_651 hl (by decide) rfl (fun ls hl => ?_)
                              refine lv_aload_n hx hb dL_law_653 rfl (lv_at hl 3 rfl) ?_
                              refine lv_aload_n hx hb dL_law_654 rfl (lv_at hl 1 rfl) ?_
                              refine lv_iload hx hb dL_law_655 (lv_at hl 5 rfl) ?_
                              refine lv_iconst (v := (1 : Int32)) hx hb dL_law_657 (by decide) ?_
                              refine lv_iadd hx hb dL_law_658 ?_
                              replace hF := gd_of hF
                              obtain ⟨hi247, hF⟩ := hF
                              refine va_sld hx hb hX hbl hbA hS hi247 dL_law_659 ?_
                              refine lv_aload_n hx hb dL_law_660 rfl (lv_at hl 1 rfl) ?_
                              refine lv_iload hx hb dL_law_661 (lv_at hl 5 rfl) ?_
                              refine lv_iconst (v := (2 : Int32)) hx hb dL_law_663 (by decide) ?_
                              refine lv_iadd hx hb dL_law_664 ?_
                              replace hF := gd_of hF
                              obtain ⟨hi248, hF⟩ := hF
                              refine va_sld hx hb hX hbl hbA hS hi248 dL_law_665 ?_
                              replace hF := obnd3_of hF
                              obtain ⟨r250, fm251, arm252, h249, hF⟩ := hF
                              refine lM_i (As := [.int (xs ((x4) + (1 : Int32)).toNatClampNeg), .int (xs ((x4) + (2 : Int32)).toNatClampNeg)]) (rest := []) hx hb hml hTX hown hK hE hD hA hPo hPm hS (k_content l g am _ nf fm arm (xs ((x4) + (1 : Int32)).toNatClampNeg) (xs ((x4) + (2 : Int32)).toNatClampNeg) r250 fm251 arm252 h249) cw_X11_content mw43_5 ⟨⟨rfl, rfl⟩, Nat.le_of_ble_eq_true rfl, Nat.le_of_ble_eq_true rfl⟩ rfl hl.1 rfl (Nat.le_of_ble_eq_true rfl) dL_law_666 ⟨by show _ ≤ room_1.cells; omega, by show _ ≤ room_1.slots; omega⟩ (fun H locs hPo hPm hS => ?_)
                              refine lv_istore (lv' := [(6, .int (r250)), (5, .int (x5_246)), (0, .ref (b)), (1, .ref (ad (0))), (2, .ref (am 0)), (3, .ref (ou)), (4, .int (x4))]) hx hb dL_law_669 hl (by decide) rfl (fun ls hl => ?_)
                              refine lv_aload_n hx hb dL_law_671 rfl (lv_at hl 4 rfl) ?_
                              replace hF := obnd3_of hF
                              obtain ⟨r254, fm255, arm256, h253, hF⟩ := hF
                              refine lM_i (As := []) (rest := []) hx hb hml hTX hown hK hE hD hA hPo hPm hS (k_thrown l g am _ nf fm251 arm252 r254 fm255 arm256 h253) cw_X11_thrown mw20_19 ⟨⟨rfl, rfl⟩, Nat.le_of_ble_eq_true rfl, Nat.le_of_ble_eq_true rfl⟩ rfl hl.1 rfl (Nat.le_of_ble_eq_true rfl) dL_law_672 ⟨by show _ ≤ room_1.cells; omega, by show _ ≤ room_1.slots; omega⟩ (fun H locs hPo hPm hS => ?_)
                              refine lv_iload hx hb dL_law_675 (lv_at hl 1 rfl) ?_
                              refine lv_icmp_eq (tgt := 682) hx hb dL_law_677 (by decide) (fun hc257 => ?_) (fun hc257 => ?_)
                              · replace hF := br_yes hF hc257
                                refine lv_iload hx hb dL_law_682 (lv_at hl 1 rfl) ?_
                                refine lv_if_ne (tgt := 699) hx hb dL_law_684 (by decide) (fun hc258 => ?_) (fun hc258 => ?_)
                                · replace hF := br_no hF hc258
                                  exact J699 (x4) _ _ _ _ _ _ _ _ _ _ _ _ _ _ hF hkc hks (lv_sub hl [2, 3, 4, 5, 6] rfl) hPo hPm hD hS
                                · replace hF := br_yes hF hc258
                                  refine lv_aload_n hx hb dL_law_687 rfl (lv_at hl 5 rfl) ?_
                                  refine lv_iconst (v := (0 : Int32)) hx hb dL_law_688 (by decide) ?_
                                  refine va_lald hx hb hK hPo 40 4 wo_at rfl (by unfold vp_in; decide) dL_law_689 ?_
                                  refine lv_iload hx hb dL_law_690 (lv_at hl 0 rfl) ?_
                                  refine lv_i2l hx hb dL_law_692 rfl ?_
                                  refine W.lcmp hx hb dL_law_693 ?_
                                  refine lv_if_eq (tgt := 699) hx hb dL_law_694 (by decide) (fun hc259 => ?_) (fun hc259 => ?_)
                                  · replace hF := br_yes hF hc259
                                    exact J699 (x4) _ _ _ _ _ _ _ _ _ _ _ _ _ _ hF hkc hks (lv_sub hl [2, 3, 4, 5, 6] rfl) hPo hPm hD hS
                                  · replace hF := br_no hF hc259
                                    refine lv_iconst (v := (0 : Int32)) hx hb dL_law_697 (by decide) ?_
                                    exact (ret0_no hF).elim
                              · replace hF := br_no hF hc257
                                refine lv_iconst (v := (0 : Int32)) hx hb dL_law_680 (by decide) ?_
                                exact (ret0_no hF).elim
                            · replace hF := br_no hF hc233
                              by_cases hc260 : ((xs (x4).toNatClampNeg) &&& (31 : Int32)) = (12 : Int32)
                              · replace hF := br_yes hF hc260
                                refine lv_tableIn (tgt := 702) (off := 652) hx hb dL_law_50 (by rw [hc260]; decide) (by rw [hc260]; decide) (by rw [hc260]; rfl) (by decide) ?_
                                refine lv_aload_n hx hb dL_law_702 rfl (lv_at hl 1 rfl) ?_
                                refine lv_aload_n hx hb dL_law_703 rfl (lv_at hl 0 rfl) ?_
                                refine lv_iload hx hb dL_law_704 (lv_at hl 4 rfl) ?_
                                refine lv_iconst (v := (1 : Int32)) hx hb dL_law_706 (by decide) ?_
                                refine lv_iadd hx hb dL_law_707 ?_
                                replace hF := gd_of hF
                                obtain ⟨hi261, hF⟩ := hF
                                refine va_sld hx hb hX hbl hbA hS hi261 dL_law_708 ?_
                                refine lv_aload_n hx hb dL_law_709 rfl (lv_at hl 3 rfl) ?_
                                replace hF := obnd6_of hF
                                obtain ⟨r266, fi263, ar264, ln265, kc267, ks268, h262, hF⟩ := hF
                                replace hF := addc2_of hF
                                obtain ⟨kc269, ks270, e271c, e271s, hF⟩ := hF
                                refine lO_i (As := [.ref (ad (0)), .int (xs ((x4) + (1 : Int32)).toNatClampNeg), .ref (ou)]) (rest := []) hx hb hml hTX hown hK hE hEX hNc hD hA hPo hPm hS (kL_enter l g ad rd ou _ nf hlt fi ar ln fo (xs ((x4) + (1 : Int32)).toNatClampNeg) r266 fi263 ar264 ln265 kc267 ks268 h262) cw_L_enter mw43_13 ⟨⟨rfl, rfl⟩, Nat.le_of_ble_eq_true rfl, Nat.le_of_ble_eq_true rfl⟩ rfl hl.1 rfl (Nat.le_of_ble_eq_true rfl) dL_law_710 ⟨by show _ ≤ room_1.cells; omega, by show _ ≤ room_1.slots; omega⟩ (fun rd H locs hPo hPm hD hS => ?_)
                                replace hkc : cells + kc267 + kc269 ≤ room_1.cells := by omega
                                replace hks : slots + ks268 + ks270 ≤ room_1.slots := by omega
                                obtain ⟨x5_272, ex5_272⟩ : ∃ y : Int32, y = (r266.1) := ⟨_, rfl⟩
                                rw [← ex5_272]
                                replace hF := bnd_of hF ex5_272
                                refine lv_istore (lv' := [(5, .int (x5_272)), (0, .ref (b)), (1, .ref (ad (0))), (2, .ref (am 0)), (3, .ref (ou)), (4, .int (x4))]) hx hb dL_law_713 hl (by decide) rfl (fun ls hl => ?_)
                                refine lv_aload_n hx hb dL_law_715 rfl (lv_at hl 3 rfl) ?_
                                refine lv_aload_n hx hb dL_law_716 rfl (lv_at hl 1 rfl) ?_
                                refine lv_iload hx hb dL_law_717 (lv_at hl 5 rfl) ?_
                                refine lv_iconst (v := (1 : Int32)) hx hb dL_law_719 (by decide) ?_
                                refine lv_iadd hx hb dL_law_720 ?_
                                replace hF := gd_of hF
                                obtain ⟨hi273, hF⟩ := hF
                                refine va_sld hx hb hX hbl hbA hS hi273 dL_law_721 ?_
                                replace hF := obnd3_of hF
                                obtain ⟨r275, fm276, arm277, h274, hF⟩ := hF
                                refine lM_i (As := [.int (xs ((x4) + (1 : Int32)).toNatClampNeg)]) (rest := []) hx hb hml hTX hown hK hE hD hA hPo hPm hS (k_enter l g am _ nf fm arm (xs ((x4) + (1 : Int32)).toNatClampNeg) r275 fm276 arm277 h274) cw_X11_enter mw43_20 ⟨⟨rfl, rfl⟩, Nat.le_of_ble_eq_true rfl, Nat.le_of_ble_eq_true rfl⟩ rfl hl.1 rfl (Nat.le_of_ble_eq_true rfl) dL_law_722 ⟨by show _ ≤ room_1.cells; omega, by show _ ≤ room_1.slots; omega⟩ (fun H locs hPo hPm hS => ?_)
                                refine lv_istore (lv' := [(6, .int (r275)), (5, .int (x5_272)), (0, .ref (b)), (1, .ref (ad (0))), (2, .ref (am 0)), (3, .ref (ou)), (4, .int (x4))]) hx hb dL_law_725 hl (by decide) rfl (fun ls hl => ?_)
                                refine lv_aload_n hx hb dL_law_727 rfl (lv_at hl 4 rfl) ?_
                                replace hF := obnd3_of hF
                                obtain ⟨r279, fm280, arm281, h278, hF⟩ := hF
                                refine lM_i (As := []) (rest := []) hx hb hml hTX hown hK hE hD hA hPo hPm hS (k_thrown l g am _ nf fm276 arm277 r279 fm280 arm281 h278) cw_X11_thrown mw20_19 ⟨⟨rfl, rfl⟩, Nat.le_of_ble_eq_true rfl, Nat.le_of_ble_eq_true rfl⟩ rfl hl.1 rfl (Nat.le_of_ble_eq_true rfl) dL_law_728 ⟨by show _ ≤ room_1.cells; omega, by show _ ≤ room_1.slots; omega⟩ (fun H locs hPo hPm hS => ?_)
                                refine lv_iload hx hb dL_law_731 (lv_at hl 1 rfl) ?_
                                refine lv_icmp_eq (tgt := 738) hx hb dL_law_733 (by decide) (fun hc282 => ?_) (fun hc282 => ?_)
                                · replace hF := br_yes hF hc282
                                  refine lv_iload hx hb dL_law_738 (lv_at hl 1 rfl) ?_
                                  refine lv_if_ne (tgt := 755) hx hb dL_law_740 (by decide) (fun hc283 => ?_) (fun hc283 => ?_)
                                  · replace hF := br_no hF hc283
                                    exact J755 (x4) _ _ _ _ _ _ _ _ _ _ _ _ _ _ hF hkc hks (lv_sub hl [2, 3, 4, 5, 6] rfl) hPo hPm hD hS
                                  · replace hF := br_yes hF hc283
                                    refine lv_aload_n hx hb dL_law_743 rfl (lv_at hl 5 rfl) ?_
                                    refine lv_iconst (v := (0 : Int32)) hx hb dL_law_744 (by decide) ?_
                                    refine va_lald hx hb hK hPo 40 4 wo_at rfl (by unfold vp_in; decide) dL_law_745 ?_
                                    refine lv_iload hx hb dL_law_746 (lv_at hl 0 rfl) ?_
                                    refine lv_i2l hx hb dL_law_748 rfl ?_
                                    refine W.lcmp hx hb dL_law_749 ?_
                                    refine lv_if_eq (tgt := 755) hx hb dL_law_750 (by decide) (fun hc284 => ?_) (fun hc284 => ?_)
                                    · replace hF := br_yes hF hc284
                                      exact J755 (x4) _ _ _ _ _ _ _ _ _ _ _ _ _ _ hF hkc hks (lv_sub hl [2, 3, 4, 5, 6] rfl) hPo hPm hD hS
                                    · replace hF := br_no hF hc284
                                      refine lv_iconst (v := (0 : Int32)) hx hb dL_law_753 (by decide) ?_
                                      exact (ret0_no hF).elim
                                · replace hF := br_no hF hc282
                                  refine lv_iconst (v := (0 : Int32)) hx hb dL_law_736 (by decide) ?_
                                  exact (ret0_no hF).elim
                              · replace hF := br_no hF hc260
                                by_cases hc285 : ((xs (x4).toNatClampNeg) &&& (31 : Int32)) = (13 : Int32)
                                · replace hF := br_yes hF hc285
                                  refine lv_tableIn (tgt := 758) (off := 708) hx hb dL_law_50 (by rw [hc285]; decide) (by rw [hc285]; decide) (by rw [hc285]; rfl) (by decide) ?_
                                  refine lv_aload_n hx hb dL_law_758 rfl (lv_at hl 1 rfl) ?_
                                  refine lv_aload_n hx hb dL_law_759 rfl (lv_at hl 3 rfl) ?_
                                  replace hF := obnd6_of hF
                                  obtain ⟨r290, fi287, ar288, ln289, kc291, ks292, h286, hF⟩ := hF
                                  replace hF := addc2_of hF
                                  obtain ⟨kc293, ks294, e295c, e295s, hF⟩ := hF
                                  refine lO_i (As := [.ref (ad (0)), .ref (ou)]) (rest := []) hx hb hml hTX hown hK hE hEX hNc hD hA hPo hPm hS (kL_up l g ad rd ou _ nf hlt fi ar ln fo r290 fi287 ar288 ln289 kc291 ks292 h286) cw_L_up mw44_0 ⟨⟨rfl, rfl⟩, Nat.le_of_ble_eq_true rfl, Nat.le_of_ble_eq_true rfl⟩ rfl hl.1 rfl (Nat.le_of_ble_eq_true rfl) dL_law_760 ⟨by show _ ≤ room_1.cells; omega, by show _ ≤ room_1.slots; omega⟩ (fun rd H locs hPo hPm hD hS => ?_)
                                  replace hkc : cells + kc291 + kc293 ≤ room_1.cells := by omega
                                  replace hks : slots + ks292 + ks294 ≤ room_1.slots := by omega
                                  obtain ⟨x5_296, ex5_296⟩ : ∃ y : Int32, y = (r290.1) := ⟨_, rfl⟩
                                  rw [← ex5_296]
                                  replace hF := bnd_of hF ex5_296
                                  refine lv_istore (lv' := [(5, .int (x5_296)), (0, .ref (b)), (1, .ref (ad (0))), (2, .ref (am 0)), (3, .ref (ou)), (4, .int (x4))]) hx hb dL_law_763 hl (by decide) rfl (fun ls hl => ?_)
                                  refine lv_aload_n hx hb dL_law_765 rfl (lv_at hl 3 rfl) ?_
                                  replace hF := obnd3_of hF
                                  obtain ⟨r298, fm299, arm300, h297, hF⟩ := hF
                                  refine lM_i (As := []) (rest := []) hx hb hml hTX hown hK hE hD hA hPo hPm hS (k_up l g am _ nf fm arm r298 fm299 arm300 h297) cw_X11_up mw44_7 ⟨⟨rfl, rfl⟩, Nat.le_of_ble_eq_true rfl, Nat.le_of_ble_eq_true rfl⟩ rfl hl.1 rfl (Nat.le_of_ble_eq_true rfl) dL_law_766 ⟨by show _ ≤ room_1.cells; omega, by show _ ≤ room_1.slots; omega⟩ (fun H locs hPo hPm hS => ?_)
                                  refine lv_istore (lv' := [(6, .int (r298)), (5, .int (x5_296)), (0, .ref (b)), (1, .ref (ad (0))), (2, .ref (am 0)), (3, .ref (ou)), (4, .int (x4))]) hx hb dL_law_769 hl (by decide) rfl (fun ls hl => ?_)
                                  refine lv_aload_n hx hb dL_law_771 rfl (lv_at hl 4 rfl) ?_
                                  replace hF := obnd3_of hF
                                  obtain ⟨r302, fm303, arm304, h301, hF⟩ := hF
                                  refine lM_i (As := []) (rest := []) hx hb hml hTX hown hK hE hD hA hPo hPm hS (k_thrown l g am _ nf fm299 arm300 r302 fm303 arm304 h301) cw_X11_thrown mw20_19 ⟨⟨rfl, rfl⟩, Nat.le_of_ble_eq_true rfl, Nat.le_of_ble_eq_true rfl⟩ rfl hl.1 rfl (Nat.le_of_ble_eq_true rfl) dL_law_772 ⟨by show _ ≤ room_1.cells; omega, by show _ ≤ room_1.slots; omega⟩ (fun H locs hPo hPm hS => ?_)
                                  refine lv_iload hx hb dL_law_775 (lv_at hl 1 rfl) ?_
                                  refine lv_icmp_eq (tgt := 782) hx hb dL_law_777 (by decide) (fun hc305 => ?_) (fun hc305 => ?_)
                                  · replace hF := br_yes hF hc305
                                    refine lv_iload hx hb dL_law_782 (lv_at hl 1 rfl) ?_
                                    refine lv_if_ne (tgt := 806) hx hb dL_law_784 (by decide) (fun hc306 => ?_) (fun hc306 => ?_)
                                    · replace hF := br_no hF hc306
                                      exact J806 (x4) _ _ _ _ _ _ _ _ _ _ _ _ _ _ hF hkc hks (lv_sub hl [2, 3, 4, 5, 6] rfl) hPo hPm hD hS
                                    · replace hF := br_yes hF hc306
                                      refine lv_aload_n hx hb dL_law_787 rfl (lv_at hl 5 rfl) ?_
                                      refine lv_iconst (v := (0 : Int32)) hx hb dL_law_788 (by decide) ?_
                                      refine va_lald hx hb hK hPo 40 4 wo_at rfl (by unfold vp_in; decide) dL_law_789 ?_
                                      refine lv_iload hx hb dL_law_790 (lv_at hl 0 rfl) ?_
                                      refine lv_if_eq (tgt := 799) hx hb dL_law_792 (by decide) (fun hc307 => ?_) (fun hc307 => ?_)
                                      · replace hF := br_yes hF hc307
                                        refine lv_lconst (v := (0 : Int64)) hx hb dL_law_799 (by decide) ?_
                                        exact J800 (x4) (r290.2 (0 : Int32).toNatClampNeg) (0 : Int64) _ _ _ _ _ _ _ _ _ _ _ _ _ _ hF hkc hks (lv_sub hl [2, 3, 4, 5, 6] rfl) hPo hPm hD hS
                                      · replace hF := br_no hF hc307
                                        refine lv_lconst (v := (1 : Int64)) hx hb dL_law_795 (by decide) ?_
                                        refine lv_goto (tgt := 800) hx hb dL_law_796 (by decide) ?_
                                        exact J800 (x4) (r290.2 (0 : Int32).toNatClampNeg) (1 : Int64) _ _ _ _ _ _ _ _ _ _ _ _ _ _ hF hkc hks (lv_sub hl [2, 3, 4, 5, 6] rfl) hPo hPm hD hS
                                  · replace hF := br_no hF hc305
                                    refine lv_iconst (v := (0 : Int32)) hx hb dL_law_780 (by decide) ?_
                                    exact (ret0_no hF).elim
                                · replace hF := br_no hF hc285
                                  by_cases hc308 : ((xs (x4).toNatClampNeg) &&& (31 : Int32)) = (14 : Int32)
                                  · replace hF := br_yes hF hc308
                                    refine lv_tableIn (tgt := 809) (off := 759) hx hb dL_law_50 (by rw [hc308]; decide) (by rw [hc308]; decide) (by rw [hc308]; rfl) (by decide) ?_
                                    refine lv_aload_n hx hb dL_law_809 rfl (lv_at hl 1 rfl) ?_
                                    refine lv_aload_n hx hb dL_law_810 rfl (lv_at hl 0 rfl) ?_
                                    refine lv_iload hx hb dL_law_811 (lv_at hl 4 rfl) ?_
                                    refine lv_iconst (v := (1 : Int32)) hx hb dL_law_813 (by decide) ?_
                                    refine lv_iadd hx hb dL_law_814 ?_
                                    replace hF := gd_of hF
                                    obtain ⟨hi309, hF⟩ := hF
                                    refine va_sld hx hb hX hbl hbA hS hi309 dL_law_815 ?_
                                    refine lv_if_eq (tgt := 823) hx hb dL_law_816 (by decide) (fun hc310 => ?_) (fun hc310 => ?_)
                                    · replace hF := br_yes hF hc310
                                      refine lv_iconst (v := (0 : Int32)) hx hb dL_law_823 (by decide) ?_
                                      exact J824 (x4) (0 : Int32) _ _ _ _ _ _ _ _ _ _ _ _ _ _ hF hkc hks (lv_sub hl [0, 1, 2, 3, 4] rfl) hPo hPm hD hS
                                    · replace hF := br_no hF hc310
                                      refine lv_iconst (v := (1 : Int32)) hx hb dL_law_819 (by decide) ?_
                                      refine lv_goto (tgt := 824) hx hb dL_law_820 (by decide) ?_
                                      exact J824 (x4) (1 : Int32) _ _ _ _ _ _ _ _ _ _ _ _ _ _ hF hkc hks (lv_sub hl [0, 1, 2, 3, 4] rfl) hPo hPm hD hS
                                  · replace hF := br_no hF hc308
                                    by_cases hc311 : ((xs (x4).toNatClampNeg) &&& (31 : Int32)) = (15 : Int32)
                                    · replace hF := br_yes hF hc311
                                      refine lv_tableIn (tgt := 881) (off := 831) hx hb dL_law_50 (by rw [hc311]; decide) (by rw [hc311]; decide) (by rw [hc311]; rfl) (by decide) ?_
                                      refine lv_aload_n hx hb dL_law_881 rfl (lv_at hl 1 rfl) ?_
                                      refine lv_aload_n hx hb dL_law_882 rfl (lv_at hl 0 rfl) ?_
                                      refine lv_iload hx hb dL_law_883 (lv_at hl 4 rfl) ?_
                                      refine lv_iconst (v := (1 : Int32)) hx hb dL_law_885 (by decide) ?_
                                      refine lv_iadd hx hb dL_law_886 ?_
                                      replace hF := gd_of hF
                                      obtain ⟨hi312, hF⟩ := hF
                                      refine va_sld hx hb hX hbl hbA hS hi312 dL_law_887 ?_
                                      refine lv_aload_n hx hb dL_law_888 rfl (lv_at hl 3 rfl) ?_
                                      replace hF := obnd6_of hF
                                      obtain ⟨r317, fi314, ar315, ln316, kc318, ks319, h313, hF⟩ := hF
                                      replace hF := addc2_of hF
                                      obtain ⟨kc320, ks321, e322c, e322s, hF⟩ := hF
                                      refine lO_i (As := [.ref (ad (0)), .int (xs ((x4) + (1 : Int32)).toNatClampNeg), .ref (ou)]) (rest := []) hx hb hml hTX hown hK hE hEX hNc hD hA hPo hPm hS (kL_write l g ad rd ou _ nf hlt fi ar ln fo (xs ((x4) + (1 : Int32)).toNatClampNeg) r317 fi314 ar315 ln316 kc318 ks319 h313) cw_L_write mw50_14 ⟨⟨rfl, rfl⟩, Nat.le_of_ble_eq_true rfl, Nat.le_of_ble_eq_true rfl⟩ rfl hl.1 rfl (Nat.le_of_ble_eq_true rfl) dL_law_889 ⟨by show _ ≤ room_1.cells; omega, by show _ ≤ room_1.slots; omega⟩ (fun rd H locs hPo hPm hD hS => ?_)
                                      replace hkc : cells + kc318 + kc320 ≤ room_1.cells := by omega
                                      replace hks : slots + ks319 + ks321 ≤ room_1.slots := by omega
                                      obtain ⟨x5_323, ex5_323⟩ : ∃ y : Int32, y = (r317.1) := ⟨_, rfl⟩
                                      rw [← ex5_323]
                                      replace hF := bnd_of hF ex5_323
                                      refine lv_istore (lv' := [(5, .int (x5_323)), (0, .ref (b)), (1, .ref (ad (0))), (2, .ref (am 0)), (3, .ref (ou)), (4, .int (x4))]) hx hb dL_law_892 hl (by decide) rfl (fun ls hl => ?_)
                                      refine lv_aload_n hx hb dL_law_894 rfl (lv_at hl 3 rfl) ?_
                                      refine lv_aload_n hx hb dL_law_895 rfl (lv_at hl 1 rfl) ?_
                                      refine lv_iload hx hb dL_law_896 (lv_at hl 5 rfl) ?_
                                      refine lv_iconst (v := (1 : Int32)) hx hb dL_law_898 (by decide) ?_
                                      refine lv_iadd hx hb dL_law_899 ?_
                                      replace hF := gd_of hF
                                      obtain ⟨hi324, hF⟩ := hF
                                      refine va_sld hx hb hX hbl hbA hS hi324 dL_law_900 ?_
                                      replace hF := obnd3_of hF
                                      obtain ⟨r326, fm327, arm328, h325, hF⟩ := hF
                                      refine lM_i (As := [.int (xs ((x4) + (1 : Int32)).toNatClampNeg)]) (rest := []) hx hb hml hTX hown hK hE hD hA hPo hPm hS (k_write l g am _ nf fm arm (xs ((x4) + (1 : Int32)).toNatClampNeg) r326 fm327 arm328 h325) cw_X11_write mw52_18 ⟨⟨rfl, rfl⟩, Nat.le_of_ble_eq_true rfl, Nat.le_of_ble_eq_true rfl⟩ rfl hl.1 rfl (Nat.le_of_ble_eq_true rfl) dL_law_901 ⟨by show _ ≤ room_1.cells; omega, by show _ ≤ room_1.slots; omega⟩ (fun H locs hPo hPm hS => ?_)
                                      refine lv_istore (lv' := [(6, .int (r326)), (5, .int (x5_323)), (0, .ref (b)), (1, .ref (ad (0))), (2, .ref (am 0)), (3, .ref (ou)), (4, .int (x4))]) hx hb dL_law_904 hl (by decide) rfl (fun ls hl => ?_)
                                      refine lv_aload_n hx hb dL_law_906 rfl (lv_at hl 4 rfl) ?_
                                      replace hF := obnd3_of hF
                                      obtain ⟨r330, fm331, arm332, h329, hF⟩ := hF
                                      refine lM_i (As := []) (rest := []) hx hb hml hTX hown hK hE hD hA hPo hPm hS (k_thrown l g am _ nf fm327 arm328 r330 fm331 arm332 h329) cw_X11_thrown mw20_19 ⟨⟨rfl, rfl⟩, Nat.le_of_ble_eq_true rfl, Nat.le_of_ble_eq_true rfl⟩ rfl hl.1 rfl (Nat.le_of_ble_eq_true rfl) dL_law_907 ⟨by show _ ≤ room_1.cells; omega, by show _ ≤ room_1.slots; omega⟩ (fun H locs hPo hPm hS => ?_)
                                      refine lv_iload hx hb dL_law_910 (lv_at hl 1 rfl) ?_
                                      refine lv_icmp_eq (tgt := 917) hx hb dL_law_912 (by decide) (fun hc333 => ?_) (fun hc333 => ?_)
                                      · replace hF := br_yes hF hc333
                                        refine lv_iload hx hb dL_law_917 (lv_at hl 1 rfl) ?_
                                        refine lv_if_ne (tgt := 934) hx hb dL_law_919 (by decide) (fun hc334 => ?_) (fun hc334 => ?_)
                                        · replace hF := br_no hF hc334
                                          exact J934 (x4) _ _ _ _ _ _ _ _ _ _ _ _ _ _ hF hkc hks (lv_sub hl [2, 3, 4, 5, 6] rfl) hPo hPm hD hS
                                        · replace hF := br_yes hF hc334
                                          refine lv_aload_n hx hb dL_law_922 rfl (lv_at hl 5 rfl) ?_
                                          refine lv_iconst (v := (0 : Int32)) hx hb dL_law_923 (by decide) ?_
                                          refine va_lald hx hb hK hPo 40 4 wo_at rfl (by unfold vp_in; decide) dL_law_924 ?_
                                          refine lv_iload hx hb dL_law_925 (lv_at hl 0 rfl) ?_
                                          refine lv_i2l hx hb dL_law_927 rfl ?_
                                          refine W.lcmp hx hb dL_law_928 ?_
                                          refine lv_if_eq (tgt := 934) hx hb dL_law_929 (by decide) (fun hc335 => ?_) (fun hc335 => ?_)
                                          · replace hF := br_yes hF hc335
                                            exact J934 (x4) _ _ _ _ _ _ _ _ _ _ _ _ _ _ hF hkc hks (lv_sub hl [2, 3, 4, 5, 6] rfl) hPo hPm hD hS
                                          · replace hF := br_no hF hc335
                                            refine lv_iconst (v := (0 : Int32)) hx hb dL_law_932 (by decide) ?_
                                            exact (ret0_no hF).elim
                                      · replace hF := br_no hF hc333
                                        refine lv_iconst (v := (0 : Int32)) hx hb dL_law_915 (by decide) ?_
                                        exact (ret0_no hF).elim
                                    · replace hF := br_no hF hc311
                                      by_cases hc336 : ((xs (x4).toNatClampNeg) &&& (31 : Int32)) = (16 : Int32)
                                      · replace hF := br_yes hF hc336
                                        refine lv_tableIn (tgt := 937) (off := 887) hx hb dL_law_50 (by rw [hc336]; decide) (by rw [hc336]; decide) (by rw [hc336]; rfl) (by decide) ?_
                                        refine lv_aload_n hx hb dL_law_937 rfl (lv_at hl 1 rfl) ?_
                                        refine lv_aload_n hx hb dL_law_938 rfl (lv_at hl 0 rfl) ?_
                                        refine lv_iload hx hb dL_law_939 (lv_at hl 4 rfl) ?_
                                        refine lv_iconst (v := (1 : Int32)) hx hb dL_law_941 (by decide) ?_
                                        refine lv_iadd hx hb dL_law_942 ?_
                                        replace hF := gd_of hF
                                        obtain ⟨hi337, hF⟩ := hF
                                        refine va_sld hx hb hX hbl hbA hS hi337 dL_law_943 ?_
                                        refine lv_aload_n hx hb dL_law_944 rfl (lv_at hl 0 rfl) ?_
                                        refine lv_iload hx hb dL_law_945 (lv_at hl 4 rfl) ?_
                                        refine lv_iconst (v := (2 : Int32)) hx hb dL_law_947 (by decide) ?_
                                        refine lv_iadd hx hb dL_law_948 ?_
                                        replace hF := gd_of hF
                                        obtain ⟨hi338, hF⟩ := hF
                                        refine va_sld hx hb hX hbl hbA hS hi338 dL_law_949 ?_
                                        refine lv_aload_n hx hb dL_law_950 rfl (lv_at hl 0 rfl) ?_
                                        refine lv_iload hx hb dL_law_951 (lv_at hl 4 rfl) ?_
                                        refine lv_iconst (v := (3 : Int32)) hx hb dL_law_953 (by decide) ?_
                                        refine lv_iadd hx hb dL_law_954 ?_
                                        replace hF := gd_of hF
                                        obtain ⟨hi339, hF⟩ := hF
                                        refine va_sld hx hb hX hbl hbA hS hi339 dL_law_955 ?_
                                        refine lv_aload_n hx hb dL_law_956 rfl (lv_at hl 3 rfl) ?_
                                        replace hF := obnd6_of hF
                                        obtain ⟨r344, fi341, ar342, ln343, kc345, ks346, h340, hF⟩ := hF
                                        replace hF := addc2_of hF
                                        obtain ⟨kc347, ks348, e349c, e349s, hF⟩ := hF
                                        refine lO_i (As := [.ref (ad (0)), .int (xs ((x4) + (1 : Int32)).toNatClampNeg), .int (xs ((x4) + (2 : Int32)).toNatClampNeg), .int (xs ((x4) + (3 : Int32)).toNatClampNeg), .ref (ou)]) (rest := []) hx hb hml hTX hown hK hE hEX hNc hD hA hPo hPm hS (kL_grow l g ad rd ou _ nf hlt fi ar ln fo (xs ((x4) + (1 : Int32)).toNatClampNeg) (xs ((x4) + (2 : Int32)).toNatClampNeg) (xs ((x4) + (3 : Int32)).toNatClampNeg) r344 fi341 ar342 ln343 kc345 ks346 h340) cw_L_grow mw53_6 ⟨⟨rfl, rfl⟩, Nat.le_of_ble_eq_true rfl, Nat.le_of_ble_eq_true rfl⟩ rfl hl.1 rfl (Nat.le_of_ble_eq_true rfl) dL_law_957 ⟨by show _ ≤ room_1.cells; omega, by show _ ≤ room_1.slots; omega⟩ (fun rd H locs hPo hPm hD hS => ?_)
                                        replace hkc : cells + kc345 + kc347 ≤ room_1.cells := by omega
                                        replace hks : slots + ks346 + ks348 ≤ room_1.slots := by omega
                                        obtain ⟨x5_350, ex5_350⟩ : ∃ y : Int32, y = (r344.1) := ⟨_, rfl⟩
                                        rw [← ex5_350]
                                        replace hF := bnd_of hF ex5_350
                                        refine lv_istore (lv' := [(5, .int (x5_350)), (0, .ref (b)), (1, .ref (ad (0))), (2, .ref (am 0)), (3, .ref (ou)), (4, .int (x4))]) hx hb dL_law_960 hl (by decide) rfl (fun ls hl => ?_)
                                        refine lv_aload_n hx hb dL_law_962 rfl (lv_at hl 3 rfl) ?_
                                        refine lv_aload_n hx hb dL_law_963 rfl (lv_at hl 1 rfl) ?_
                                        refine lv_iload hx hb dL_law_964 (lv_at hl 5 rfl) ?_
                                        refine lv_iconst (v := (1 : Int32)) hx hb dL_law_966 (by decide) ?_
                                        refine lv_iadd hx hb dL_law_967 ?_
                                        replace hF := gd_of hF
                                        obtain ⟨hi351, hF⟩ := hF
                                        refine va_sld hx hb hX hbl hbA hS hi351 dL_law_968 ?_
                                        refine lv_aload_n hx hb dL_law_969 rfl (lv_at hl 1 rfl) ?_
                                        refine lv_iload hx hb dL_law_970 (lv_at hl 5 rfl) ?_
                                        refine lv_iconst (v := (2 : Int32)) hx hb dL_law_972 (by decide) ?_
                                        refine lv_iadd hx hb dL_law_973 ?_
                                        replace hF := gd_of hF
                                        obtain ⟨hi352, hF⟩ := hF
                                        refine va_sld hx hb hX hbl hbA hS hi352 dL_law_974 ?_
                                        refine lv_aload_n hx hb dL_law_975 rfl (lv_at hl 1 rfl) ?_
                                        refine lv_iload hx hb dL_law_976 (lv_at hl 5 rfl) ?_
                                        refine lv_iconst (v := (3 : Int32)) hx hb dL_law_978 (by decide) ?_
                                        refine lv_iadd hx hb dL_law_979 ?_
                                        replace hF := gd_of hF
                                        obtain ⟨hi353, hF⟩ := hF
                                        refine va_sld hx hb hX hbl hbA hS hi353 dL_law_980 ?_
                                        replace hF := obnd3_of hF
                                        obtain ⟨r355, fm356, arm357, h354, hF⟩ := hF
                                        refine lM_i (As := [.int (xs ((x4) + (1 : Int32)).toNatClampNeg), .int (xs ((x4) + (2 : Int32)).toNatClampNeg), .int (xs ((x4) + (3 : Int32)).toNatClampNeg)]) (rest := []) hx hb hml hTX hown hK hE hD hA hPo hPm hS (k_grow l g am _ nf fm arm (xs ((x4) + (1 : Int32)).toNatClampNeg) (xs ((x4) + (2 : Int32)).toNatClampNeg) (xs ((x4) + (3 : Int32)).toNatClampNeg) r355 fm356 arm357 h354) cw_X11_grow mw53_14 ⟨⟨rfl, rfl⟩, Nat.le_of_ble_eq_true rfl, Nat.le_of_ble_eq_true rfl⟩ rfl hl.1 rfl (Nat.le_of_ble_eq_true rfl) dL_law_981 ⟨by show _ ≤ room_1.cells; omega, by show _ ≤ room_1.slots; omega⟩ (fun H locs hPo hPm hS => ?_)
                                        refine lv_istore (lv' := [(6, .int (r355)), (5, .int (x5_350)), (0, .ref (b)), (1, .ref (ad (0))), (2, .ref (am 0)), (3, .ref (ou)), (4, .int (x4))]) hx hb dL_law_984 hl (by decide) rfl (fun ls hl => ?_)
                                        refine lv_aload_n hx hb dL_law_986 rfl (lv_at hl 4 rfl) ?_
                                        replace hF := obnd3_of hF
                                        obtain ⟨r359, fm360, arm361, h358, hF⟩ := hF
                                        refine lM_i (As := []) (rest := []) hx hb hml hTX hown hK hE hD hA hPo hPm hS (k_thrown l g am _ nf fm356 arm357 r359 fm360 arm361 h358) cw_X11_thrown mw20_19 ⟨⟨rfl, rfl⟩, Nat.le_of_ble_eq_true rfl, Nat.le_of_ble_eq_true rfl⟩ rfl hl.1 rfl (Nat.le_of_ble_eq_true rfl) dL_law_987 ⟨by show _ ≤ room_1.cells; omega, by show _ ≤ room_1.slots; omega⟩ (fun H locs hPo hPm hS => ?_)
                                        refine lv_iload hx hb dL_law_990 (lv_at hl 1 rfl) ?_
                                        refine lv_icmp_eq (tgt := 997) hx hb dL_law_992 (by decide) (fun hc362 => ?_) (fun hc362 => ?_)
                                        · replace hF := br_yes hF hc362
                                          refine lv_iload hx hb dL_law_997 (lv_at hl 1 rfl) ?_
                                          refine lv_if_ne (tgt := 1014) hx hb dL_law_999 (by decide) (fun hc363 => ?_) (fun hc363 => ?_)
                                          · replace hF := br_no hF hc363
                                            exact J1014 (x4) _ _ _ _ _ _ _ _ _ _ _ _ _ _ hF hkc hks (lv_sub hl [2, 3, 4, 5, 6] rfl) hPo hPm hD hS
                                          · replace hF := br_yes hF hc363
                                            refine lv_aload_n hx hb dL_law_1002 rfl (lv_at hl 5 rfl) ?_
                                            refine lv_iconst (v := (0 : Int32)) hx hb dL_law_1003 (by decide) ?_
                                            refine va_lald hx hb hK hPo 40 4 wo_at rfl (by unfold vp_in; decide) dL_law_1004 ?_
                                            refine lv_iload hx hb dL_law_1005 (lv_at hl 0 rfl) ?_
                                            refine lv_i2l hx hb dL_law_1007 rfl ?_
                                            refine W.lcmp hx hb dL_law_1008 ?_
                                            refine lv_if_eq (tgt := 1014) hx hb dL_law_1009 (by decide) (fun hc364 => ?_) (fun hc364 => ?_)
                                            · replace hF := br_yes hF hc364
                                              exact J1014 (x4) _ _ _ _ _ _ _ _ _ _ _ _ _ _ hF hkc hks (lv_sub hl [2, 3, 4, 5, 6] rfl) hPo hPm hD hS
                                            · replace hF := br_no hF hc364
                                              refine lv_iconst (v := (0 : Int32)) hx hb dL_law_1012 (by decide) ?_
                                              exact (ret0_no hF).elim
                                        · replace hF := br_no hF hc362
                                          refine lv_iconst (v := (0 : Int32)) hx hb dL_law_995 (by decide) ?_
                                          exact (ret0_no hF).elim
                                      · replace hF := br_no hF hc336
                                        by_cases hc365 : ((xs (x4).toNatClampNeg) &&& (31 : Int32)) = (17 : Int32)
                                        · replace hF := br_yes hF hc365
                                          refine lv_tableIn (tgt := 1017) (off := 967) hx hb dL_law_50 (by rw [hc365]; decide) (by rw [hc365]; decide) (by rw [hc365]; rfl) (by decide) ?_
                                          refine lv_aload_n hx hb dL_law_1017 rfl (lv_at hl 1 rfl) ?_
                                          refine lv_aload_n hx hb dL_law_1018 rfl (lv_at hl 0 rfl) ?_
                                          refine lv_iload hx hb dL_law_1019 (lv_at hl 4 rfl) ?_
                                          refine lv_iconst (v := (1 : Int32)) hx hb dL_law_1021 (by decide) ?_
                                          refine lv_iadd hx hb dL_law_1022 ?_
                                          replace hF := gd_of hF
                                          obtain ⟨hi366, hF⟩ := hF
                                          refine va_sld hx hb hX hbl hbA hS hi366 dL_law_1023 ?_
                                          refine lv_aload_n hx hb dL_law_1024 rfl (lv_at hl 0 rfl) ?_
                                          refine lv_iload hx hb dL_law_1025 (lv_at hl 4 rfl) ?_
                                          refine lv_iconst (v := (2 : Int32)) hx hb dL_law_1027 (by decide) ?_
                                          refine lv_iadd hx hb dL_law_1028 ?_
                                          replace hF := gd_of hF
                                          obtain ⟨hi367, hF⟩ := hF
                                          refine va_sld hx hb hX hbl hbA hS hi367 dL_law_1029 ?_
                                          refine lv_aload_n hx hb dL_law_1030 rfl (lv_at hl 3 rfl) ?_
                                          replace hF := obnd6_of hF
                                          obtain ⟨r372, fi369, ar370, ln371, kc373, ks374, h368, hF⟩ := hF
                                          replace hF := addc2_of hF
                                          obtain ⟨kc375, ks376, e377c, e377s, hF⟩ := hF
                                          refine lO_i (As := [.ref (ad (0)), .int (xs ((x4) + (1 : Int32)).toNatClampNeg), .int (xs ((x4) + (2 : Int32)).toNatClampNeg), .ref (ou)]) (rest := []) hx hb hml hTX hown hK hE hEX hNc hD hA hPo hPm hS (kL_cut l g ad rd ou _ nf hlt fi ar ln fo (xs ((x4) + (1 : Int32)).toNatClampNeg) (xs ((x4) + (2 : Int32)).toNatClampNeg) r372 fi369 ar370 ln371 kc373 ks374 h368) cw_L_cut mw53_19 ⟨⟨rfl, rfl⟩, Nat.le_of_ble_eq_true rfl, Nat.le_of_ble_eq_true rfl⟩ rfl hl.1 rfl (Nat.le_of_ble_eq_true rfl) dL_law_1031 ⟨by show _ ≤ room_1.cells; omega, by show _ ≤ room_1.slots; omega⟩ (fun rd H locs hPo hPm hD hS => ?_)
                                          replace hkc : cells + kc373 + kc375 ≤ room_1.cells := by omega
                                          replace hks : slots + ks374 + ks376 ≤ room_1.slots := by omega
                                          obtain ⟨x5_378, ex5_378⟩ : ∃ y : Int32, y = (r372.1) := ⟨_, rfl⟩
                                          rw [← ex5_378]
                                          replace hF := bnd_of hF ex5_378
                                          refine lv_istore (lv' := [(5, .int (x5_378)), (0, .ref (b)), (1, .ref (ad (0))), (2, .ref (am 0)), (3, .ref (ou)), (4, .int (x4))]) hx hb dL_law_1034 hl (by decide) rfl (fun ls hl => ?_)
                                          refine lv_aload_n hx hb dL_law_1036 rfl (lv_at hl 3 rfl) ?_
                                          refine lv_aload_n hx hb dL_law_1037 rfl (lv_at hl 1 rfl) ?_
                                          refine lv_iload hx hb dL_law_1038 (lv_at hl 5 rfl) ?_
                                          refine lv_iconst (v := (1 : Int32)) hx hb dL_law_1040 (by decide) ?_
                                          refine lv_iadd hx hb dL_law_1041 ?_
                                          replace hF := gd_of hF
                                          obtain ⟨hi379, hF⟩ := hF
                                          refine va_sld hx hb hX hbl hbA hS hi379 dL_law_1042 ?_
                                          refine lv_aload_n hx hb dL_law_1043 rfl (lv_at hl 1 rfl) ?_
                                          refine lv_iload hx hb dL_law_1044 (lv_at hl 5 rfl) ?_
                                          refine lv_iconst (v := (2 : Int32)) hx hb dL_law_1046 (by decide) ?_
                                          refine lv_iadd hx hb dL_law_1047 ?_
                                          replace hF := gd_of hF
                                          obtain ⟨hi380, hF⟩ := hF
                                          refine va_sld hx hb hX hbl hbA hS hi380 dL_law_1048 ?_
                                          replace hF := obnd3_of hF
                                          obtain ⟨r382, fm383, arm384, h381, hF⟩ := hF
                                          refine lM_i (As := [.int (xs ((x4) + (1 : Int32)).toNatClampNeg), .int (xs ((x4) + (2 : Int32)).toNatClampNeg)]) (rest := []) hx hb hml hTX hown hK hE hD hA hPo hPm hS (k_cut l g am _ nf fm arm (xs ((x4) + (1 : Int32)).toNatClampNeg) (xs ((x4) + (2 : Int32)).toNatClampNeg) r382 fm383 arm384 h381) cw_X11_cut mw54_12 ⟨⟨rfl, rfl⟩, Nat.le_of_ble_eq_true rfl, Nat.le_of_ble_eq_true rfl⟩ rfl hl.1 rfl (Nat.le_of_ble_eq_true rfl) dL_law_1049 ⟨by show _ ≤ room_1.cells; omega, by show _ ≤ room_1.slots; omega⟩ (fun H locs hPo hPm hS => ?_)
                                          refine lv_istore (lv' := [(6, .int (r382)), (5, .int (x5_378)), (0, .ref (b)), (1, .ref (ad (0))), (2, .ref (am 0)), (3, .ref (ou)), (4, .int (x4))]) hx hb dL_law_1052 hl (by decide) rfl (fun ls hl => ?_)
                                          refine lv_aload_n hx hb dL_law_1054 rfl (lv_at hl 4 rfl) ?_
                                          replace hF := obnd3_of hF
                                          obtain ⟨r386, fm387, arm388, h385, hF⟩ := hF
                                          refine lM_i (As := []) (rest := []) hx hb hml hTX hown hK hE hD hA hPo hPm hS (k_thrown l g am _ nf fm383 arm384 r386 fm387 arm388 h385) cw_X11_thrown mw20_19 ⟨⟨rfl, rfl⟩, Nat.le_of_ble_eq_true rfl, Nat.le_of_ble_eq_true rfl⟩ rfl hl.1 rfl (Nat.le_of_ble_eq_true rfl) dL_law_1055 ⟨by show _ ≤ room_1.cells; omega, by show _ ≤ room_1.slots; omega⟩ (fun H locs hPo hPm hS => ?_)
                                          refine lv_iload hx hb dL_law_1058 (lv_at hl 1 rfl) ?_
                                          refine lv_icmp_eq (tgt := 1065) hx hb dL_law_1060 (by decide) (fun hc389 => ?_) (fun hc389 => ?_)
                                          · replace hF := br_yes hF hc389
                                            refine lv_iload hx hb dL_law_1065 (lv_at hl 1 rfl) ?_
                                            refine lv_if_ne (tgt := 1082) hx hb dL_law_1067 (by decide) (fun hc390 => ?_) (fun hc390 => ?_)
                                            · replace hF := br_no hF hc390
                                              exact J1082 (x4) _ _ _ _ _ _ _ _ _ _ _ _ _ _ hF hkc hks (lv_sub hl [2, 3, 4, 5, 6] rfl) hPo hPm hD hS
                                            · replace hF := br_yes hF hc390
                                              refine lv_aload_n hx hb dL_law_1070 rfl (lv_at hl 5 rfl) ?_
                                              refine lv_iconst (v := (0 : Int32)) hx hb dL_law_1071 (by decide) ?_
                                              refine va_lald hx hb hK hPo 40 4 wo_at rfl (by unfold vp_in; decide) dL_law_1072 ?_
                                              refine lv_iload hx hb dL_law_1073 (lv_at hl 0 rfl) ?_
                                              refine lv_i2l hx hb dL_law_1075 rfl ?_
                                              refine W.lcmp hx hb dL_law_1076 ?_
                                              refine lv_if_eq (tgt := 1082) hx hb dL_law_1077 (by decide) (fun hc391 => ?_) (fun hc391 => ?_)
                                              · replace hF := br_yes hF hc391
                                                exact J1082 (x4) _ _ _ _ _ _ _ _ _ _ _ _ _ _ hF hkc hks (lv_sub hl [2, 3, 4, 5, 6] rfl) hPo hPm hD hS
                                              · replace hF := br_no hF hc391
                                                refine lv_iconst (v := (0 : Int32)) hx hb dL_law_1080 (by decide) ?_
                                                exact (ret0_no hF).elim
                                          · replace hF := br_no hF hc389
                                            refine lv_iconst (v := (0 : Int32)) hx hb dL_law_1063 (by decide) ?_
                                            exact (ret0_no hF).elim
                                        · replace hF := br_no hF hc365
                                          by_cases hc392 : ((xs (x4).toNatClampNeg) &&& (31 : Int32)) = (18 : Int32)
                                          · replace hF := br_yes hF hc392
                                            refine lv_tableIn (tgt := 1085) (off := 1035) hx hb dL_law_50 (by rw [hc392]; decide) (by rw [hc392]; decide) (by rw [hc392]; rfl) (by decide) ?_
                                            refine lv_aload_n hx hb dL_law_1085 rfl (lv_at hl 1 rfl) ?_
                                            refine lv_aload_n hx hb dL_law_1086 rfl (lv_at hl 0 rfl) ?_
                                            refine lv_iload hx hb dL_law_1087 (lv_at hl 4 rfl) ?_
                                            refine lv_iconst (v := (1 : Int32)) hx hb dL_law_1089 (by decide) ?_
                                            refine lv_iadd hx hb dL_law_1090 ?_
                                            replace hF := gd_of hF
                                            obtain ⟨hi393, hF⟩ := hF
                                            refine va_sld hx hb hX hbl hbA hS hi393 dL_law_1091 ?_
                                            replace hF := obnd6_of hF
                                            obtain ⟨r398, fi395, ar396, ln397, kc399, ks400, h394, hF⟩ := hF
                                            replace hF := addc2_of hF
                                            obtain ⟨kc401, ks402, e403c, e403s, hF⟩ := hF
                                            refine lO_i (As := [.ref (ad (0)), .int (xs ((x4) + (1 : Int32)).toNatClampNeg)]) (rest := []) hx hb hml hTX hown hK hE hEX hNc hD hA hPo hPm hS (kL_remove l g ad rd ou _ nf hlt fi ar ln fo (xs ((x4) + (1 : Int32)).toNatClampNeg) r398 fi395 ar396 ln397 kc399 ks400 h394) cw_L_remove mw54_16 ⟨⟨rfl, rfl⟩, Nat.le_of_ble_eq_true rfl, Nat.le_of_ble_eq_true rfl⟩ rfl hl.1 rfl (Nat.le_of_ble_eq_true rfl) dL_law_1092 ⟨by show _ ≤ room_1.cells; omega, by show _ ≤ room_1.slots; omega⟩ (fun rd H locs hPo hPm hD hS => ?_)
                                            replace hkc : cells + kc399 + kc401 ≤ room_1.cells := by omega
                                            replace hks : slots + ks400 + ks402 ≤ room_1.slots := by omega
                                            obtain ⟨x5_404, ex5_404⟩ : ∃ y : Int32, y = (r398.1) := ⟨_, rfl⟩
                                            rw [← ex5_404]
                                            replace hF := bnd_of hF ex5_404
                                            refine lv_istore (lv' := [(5, .int (x5_404)), (0, .ref (b)), (1, .ref (ad (0))), (2, .ref (am 0)), (3, .ref (ou)), (4, .int (x4))]) hx hb dL_law_1095 hl (by decide) rfl (fun ls hl => ?_)
                                            refine lv_aload_n hx hb dL_law_1097 rfl (lv_at hl 3 rfl) ?_
                                            refine lv_aload_n hx hb dL_law_1098 rfl (lv_at hl 1 rfl) ?_
                                            refine lv_iload hx hb dL_law_1099 (lv_at hl 5 rfl) ?_
                                            refine lv_iconst (v := (1 : Int32)) hx hb dL_law_1101 (by decide) ?_
                                            refine lv_iadd hx hb dL_law_1102 ?_
                                            replace hF := gd_of hF
                                            obtain ⟨hi405, hF⟩ := hF
                                            refine va_sld hx hb hX hbl hbA hS hi405 dL_law_1103 ?_
                                            replace hF := obnd3_of hF
                                            obtain ⟨r407, fm408, arm409, h406, hF⟩ := hF
                                            refine lM_v (As := [.int (xs ((x4) + (1 : Int32)).toNatClampNeg)]) (rest := []) hx hb hml hTX hown hK hE hD hA hPo hPm hS (k_remove l g am _ nf fm arm (xs ((x4) + (1 : Int32)).toNatClampNeg) r407 fm408 arm409 h406) cw_X11_remove mw54_23 ⟨⟨rfl, rfl⟩, Nat.le_of_ble_eq_true rfl, Nat.le_of_ble_eq_true rfl⟩ rfl hl.1 rfl (Nat.le_of_ble_eq_true rfl) dL_law_1104 ⟨by show _ ≤ room_1.cells; omega, by show _ ≤ room_1.slots; omega⟩ (fun H locs hPo hPm hS => ?_)
                                            refine lv_aload_n hx hb dL_law_1107 rfl (lv_at hl 3 rfl) ?_
                                            replace hF := obnd3_of hF
                                            obtain ⟨r411, fm412, arm413, h410, hF⟩ := hF
                                            refine lM_i (As := []) (rest := []) hx hb hml hTX hown hK hE hD hA hPo hPm hS (k_thrown l g am _ nf fm408 arm409 r411 fm412 arm413 h410) cw_X11_thrown mw20_19 ⟨⟨rfl, rfl⟩, Nat.le_of_ble_eq_true rfl, Nat.le_of_ble_eq_true rfl⟩ rfl hl.1 rfl (Nat.le_of_ble_eq_true rfl) dL_law_1108 ⟨by show _ ≤ room_1.cells; omega, by show _ ≤ room_1.slots; omega⟩ (fun H locs hPo hPm hS => ?_)
                                            refine lv_iload hx hb dL_law_1111 (lv_at hl 0 rfl) ?_
                                            refine lv_icmp_eq (tgt := 1118) hx hb dL_law_1113 (by decide) (fun hc414 => ?_) (fun hc414 => ?_)
                                            · replace hF := br_yes hF hc414
                                              refine lv_goto (tgt := 1193) hx hb dL_law_1118 (by decide) ?_
                                              exact J1193 (x4) _ _ _ _ _ _ _ _ _ _ _ _ _ _ hF hkc hks (lv_sub hl [1, 2, 3, 4, 5] rfl) hPo hPm hD hS
                                            · replace hF := br_no hF hc414
                                              refine lv_iconst (v := (0 : Int32)) hx hb dL_law_1116 (by decide) ?_
                                              exact (ret0_no hF).elim
                                          · replace hF := br_no hF hc392
                                            by_cases hc415 : ((xs (x4).toNatClampNeg) &&& (31 : Int32)) = (19 : Int32)
                                            · replace hF := br_yes hF hc415
                                              refine lv_tableIn (tgt := 1121) (off := 1071) hx hb dL_law_50 (by rw [hc415]; decide) (by rw [hc415]; decide) (by rw [hc415]; rfl) (by decide) ?_
                                              refine lv_aload_n hx hb dL_law_1121 rfl (lv_at hl 1 rfl) ?_
                                              refine lv_aload_n hx hb dL_law_1122 rfl (lv_at hl 0 rfl) ?_
                                              refine lv_iload hx hb dL_law_1123 (lv_at hl 4 rfl) ?_
                                              refine lv_iconst (v := (1 : Int32)) hx hb dL_law_1125 (by decide) ?_
                                              refine lv_iadd hx hb dL_law_1126 ?_
                                              replace hF := gd_of hF
                                              obtain ⟨hi416, hF⟩ := hF
                                              refine va_sld hx hb hX hbl hbA hS hi416 dL_law_1127 ?_
                                              refine lv_aload_n hx hb dL_law_1128 rfl (lv_at hl 0 rfl) ?_
                                              refine lv_iload hx hb dL_law_1129 (lv_at hl 4 rfl) ?_
                                              refine lv_iconst (v := (2 : Int32)) hx hb dL_law_1131 (by decide) ?_
                                              refine lv_iadd hx hb dL_law_1132 ?_
                                              replace hF := gd_of hF
                                              obtain ⟨hi417, hF⟩ := hF
                                              refine va_sld hx hb hX hbl hbA hS hi417 dL_law_1133 ?_
                                              refine lv_aload_n hx hb dL_law_1134 rfl (lv_at hl 0 rfl) ?_
                                              refine lv_iload hx hb dL_law_1135 (lv_at hl 4 rfl) ?_
                                              refine lv_iconst (v := (3 : Int32)) hx hb dL_law_1137 (by decide) ?_
                                              refine lv_iadd hx hb dL_law_1138 ?_
                                              replace hF := gd_of hF
                                              obtain ⟨hi418, hF⟩ := hF
                                              refine va_sld hx hb hX hbl hbA hS hi418 dL_law_1139 ?_
                                              refine lv_aload_n hx hb dL_law_1140 rfl (lv_at hl 0 rfl) ?_
                                              refine lv_iload hx hb dL_law_1141 (lv_at hl 4 rfl) ?_
                                              refine lv_iconst (v := (4 : Int32)) hx hb dL_law_1143 (by decide) ?_
                                              refine lv_iadd hx hb dL_law_1144 ?_
                                              replace hF := gd_of hF
                                              obtain ⟨hi419, hF⟩ := hF
                                              refine va_sld hx hb hX hbl hbA hS hi419 dL_law_1145 ?_
                                              replace hF := obnd6_of hF
                                              obtain ⟨r424, fi421, ar422, ln423, kc425, ks426, h420, hF⟩ := hF
                                              replace hF := addc2_of hF
                                              obtain ⟨kc427, ks428, e429c, e429s, hF⟩ := hF
                                              refine lO_i (As := [.ref (ad (0)), .int (xs ((x4) + (1 : Int32)).toNatClampNeg), .int (xs ((x4) + (2 : Int32)).toNatClampNeg), .int (xs ((x4) + (3 : Int32)).toNatClampNeg), .int (xs ((x4) + (4 : Int32)).toNatClampNeg)]) (rest := []) hx hb hml hTX hown hK hE hEX hNc hD hA hPo hPm hS (kL_stamp l g ad rd ou _ nf hlt fi ar ln fo (xs ((x4) + (1 : Int32)).toNatClampNeg) (xs ((x4) + (2 : Int32)).toNatClampNeg) (xs ((x4) + (3 : Int32)).toNatClampNeg) (xs ((x4) + (4 : Int32)).toNatClampNeg) r424 fi421 ar422 ln423 kc425 ks426 h420) cw_L_stamp mw55_3 ⟨⟨rfl, rfl⟩, Nat.le_of_ble_eq_true rfl, Nat.le_of_ble_eq_true rfl⟩ rfl hl.1 rfl (Nat.le_of_ble_eq_true rfl) dL_law_1146 ⟨by show _ ≤ room_1.cells; omega, by show _ ≤ room_1.slots; omega⟩ (fun rd H locs hPo hPm hD hS => ?_)
                                              replace hkc : cells + kc425 + kc427 ≤ room_1.cells := by omega
                                              replace hks : slots + ks426 + ks428 ≤ room_1.slots := by omega
                                              obtain ⟨x5_430, ex5_430⟩ : ∃ y : Int32, y = (r424.1) := ⟨_, rfl⟩
                                              rw [← ex5_430]
                                              replace hF := bnd_of hF ex5_430
                                              refine lv_istore (lv' := [(5, .int (x5_430)), (0, .ref (b)), (1, .ref (ad (0))), (2, .ref (am 0)), (3, .ref (ou)), (4, .int (x4))]) hx hb dL_law_1149 hl (by decide) rfl (fun ls hl => ?_)
                                              refine lv_aload_n hx hb dL_law_1151 rfl (lv_at hl 3 rfl) ?_
                                              refine lv_aload_n hx hb dL_law_1152 rfl (lv_at hl 1 rfl) ?_
                                              refine lv_iload hx hb dL_law_1153 (lv_at hl 5 rfl) ?_
                                              refine lv_iconst (v := (1 : Int32)) hx hb dL_law_1155 (by decide) ?_
                                              refine lv_iadd hx hb dL_law_1156 ?_
                                              replace hF := gd_of hF
                                              obtain ⟨hi431, hF⟩ := hF
                                              refine va_sld hx hb hX hbl hbA hS hi431 dL_law_1157 ?_
                                              refine lv_aload_n hx hb dL_law_1158 rfl (lv_at hl 1 rfl) ?_
                                              refine lv_iload hx hb dL_law_1159 (lv_at hl 5 rfl) ?_
                                              refine lv_iconst (v := (2 : Int32)) hx hb dL_law_1161 (by decide) ?_
                                              refine lv_iadd hx hb dL_law_1162 ?_
                                              replace hF := gd_of hF
                                              obtain ⟨hi432, hF⟩ := hF
                                              refine va_sld hx hb hX hbl hbA hS hi432 dL_law_1163 ?_
                                              refine lv_aload_n hx hb dL_law_1164 rfl (lv_at hl 1 rfl) ?_
                                              refine lv_iload hx hb dL_law_1165 (lv_at hl 5 rfl) ?_
                                              refine lv_iconst (v := (3 : Int32)) hx hb dL_law_1167 (by decide) ?_
                                              refine lv_iadd hx hb dL_law_1168 ?_
                                              replace hF := gd_of hF
                                              obtain ⟨hi433, hF⟩ := hF
                                              refine va_sld hx hb hX hbl hbA hS hi433 dL_law_1169 ?_
                                              refine lv_aload_n hx hb dL_law_1170 rfl (lv_at hl 1 rfl) ?_
                                              refine lv_iload hx hb dL_law_1171 (lv_at hl 5 rfl) ?_
                                              refine lv_iconst (v := (4 : Int32)) hx hb dL_law_1173 (by decide) ?_
                                              refine lv_iadd hx hb dL_law_1174 ?_
                                              replace hF := gd_of hF
                                              obtain ⟨hi434, hF⟩ := hF
                                              refine va_sld hx hb hX hbl hbA hS hi434 dL_law_1175 ?_
                                              replace hF := obnd3_of hF
                                              obtain ⟨r436, fm437, arm438, h435, hF⟩ := hF
                                              refine lM_v (As := [.int (xs ((x4) + (1 : Int32)).toNatClampNeg), .int (xs ((x4) + (2 : Int32)).toNatClampNeg), .int (xs ((x4) + (3 : Int32)).toNatClampNeg), .int (xs ((x4) + (4 : Int32)).toNatClampNeg)]) (rest := []) hx hb hml hTX hown hK hE hD hA hPo hPm hS (k_stamp l g am _ nf fm arm (xs ((x4) + (1 : Int32)).toNatClampNeg) (xs ((x4) + (2 : Int32)).toNatClampNeg) (xs ((x4) + (3 : Int32)).toNatClampNeg) (xs ((x4) + (4 : Int32)).toNatClampNeg) r436 fm437 arm438 h435) cw_X11_stamp mw55_17 ⟨⟨rfl, rfl⟩, Nat.le_of_ble_eq_true rfl, Nat.le_of_ble_eq_true rfl⟩ rfl hl.1 rfl (Nat.le_of_ble_eq_true rfl) dL_law_1176 ⟨by show _ ≤ room_1.cells; omega, by show _ ≤ room_1.slots; omega⟩ (fun H locs hPo hPm hS => ?_)
                                              refine lv_aload_n hx hb dL_law_1179 rfl (lv_at hl 3 rfl) ?_
                                              replace hF := obnd3_of hF
                                              obtain ⟨r440, fm441, arm442, h439, hF⟩ := hF
                                              refine lM_i (As := []) (rest := []) hx hb hml hTX hown hK hE hD hA hPo hPm hS (k_thrown l g am _ nf fm437 arm438 r440 fm441 arm442 h439) cw_X11_thrown mw20_19 ⟨⟨rfl, rfl⟩, Nat.le_of_ble_eq_true rfl, Nat.le_of_ble_eq_true rfl⟩ rfl hl.1 rfl (Nat.le_of_ble_eq_true rfl) dL_law_1180 ⟨by show _ ≤ room_1.cells; omega, by show _ ≤ room_1.slots; omega⟩ (fun H locs hPo hPm hS => ?_)
                                              refine lv_iload hx hb dL_law_1183 (lv_at hl 0 rfl) ?_
                                              refine lv_icmp_eq (tgt := 1190) hx hb dL_law_1185 (by decide) (fun hc443 => ?_) (fun hc443 => ?_)
                                              · replace hF := br_yes hF hc443
                                                refine lv_goto (tgt := 1193) hx hb dL_law_1190 (by decide) ?_
                                                exact J1193 (x4) _ _ _ _ _ _ _ _ _ _ _ _ _ _ hF hkc hks (lv_sub hl [1, 2, 3, 4, 5] rfl) hPo hPm hD hS
                                              · replace hF := br_no hF hc443
                                                refine lv_iconst (v := (0 : Int32)) hx hb dL_law_1188 (by decide) ?_
                                                exact (ret0_no hF).elim
                                            · replace hF := br_no hF hc415
                                              refine lv_tableOut (tgt := 1193) hx hb dL_law_50 (tsw_out (n := 19) (by decide) (fun k hk => by
                                                have hk2 : k = 0 ∨ k = 1 ∨ k = 2 ∨ k = 3 ∨ k = 4 ∨ k = 5 ∨ k = 6 ∨ k = 7 ∨ k = 8 ∨ k = 9 ∨ k = 10 ∨ k = 11 ∨ k = 12 ∨ k = 13 ∨ k = 14 ∨ k = 15 ∨ k = 16 ∨ k = 17 ∨ k = 18 ∨ k = 19 := by omega
                                                rcases hk2 with rfl | rfl | rfl | rfl | rfl | rfl | rfl | rfl | rfl | rfl | rfl | rfl | rfl | rfl | rfl | rfl | rfl | rfl | rfl | rfl
                                                · exact hc29
                                                · exact hc48
                                                · exact hc60
                                                · exact hc69
                                                · exact hc100
                                                · exact hc116
                                                · exact hc132
                                                · exact hc146
                                                · exact hc156
                                                · exact hc179
                                                · exact hc206
                                                · exact hc233
                                                · exact hc260
                                                · exact hc285
                                                · exact hc308
                                                · exact hc311
                                                · exact hc336
                                                · exact hc365
                                                · exact hc392
                                                · exact hc415)) (by decide) ?_
                                              exact J1193 (x4) _ _ _ _ _ _ _ _ _ _ _ _ _ _ hF hkc hks (lv_sub hl [0, 1, 2, 3, 4] rfl) hPo hPm hD hS
