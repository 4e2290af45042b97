set_option maxRecDepth 20000 in
theorem inr_wsX100 : ∀ w ∈ wsX100, w ∈ lw_tbl := by decide +kernel
set_option maxRecDepth 20000 in
theorem inr_wsX110 : ∀ w ∈ wsX110, w ∈ lw_tbl := by decide +kernel
set_option maxRecDepth 20000 in
theorem inr_wsX30 : ∀ w ∈ wsX30, w ∈ lw_tbl := by decide +kernel
set_option maxRecDepth 20000 in
theorem inr_wsX80 : ∀ w ∈ wsX80, w ∈ lw_tbl := by decide +kernel
set_option maxRecDepth 20000 in
theorem inr_wsX90 : ∀ w ∈ wsX90, w ∈ lw_tbl := by decide +kernel
set_option maxRecDepth 20000 in
theorem inr_wsX00 : ∀ w ∈ wsX00, w ∈ lw_tbl := by decide +kernel
set_option maxRecDepth 20000 in
theorem inr_wsX20 : ∀ w ∈ wsX20, w ∈ lw_tbl := by decide +kernel
set_option maxRecDepth 20000 in
theorem inr_wsX60 : ∀ w ∈ wsX60, w ∈ lw_tbl := by decide +kernel
set_option maxRecDepth 20000 in
theorem inr_wsX70 : ∀ w ∈ wsX70, w ∈ lw_tbl := by decide +kernel
set_option maxRecDepth 20000 in
theorem inr_wsX40 : ∀ w ∈ wsX40, w ∈ lw_tbl := by decide +kernel
theorem inG {a b : List Cond} (ha : ∀ w ∈ a, w ∈ lw_tbl) (hb : ∀ w ∈ b, w ∈ lw_tbl) : ∀ w ∈ a ++ b, w ∈ lw_tbl := fun w h => (List.mem_append.mp h).elim (ha w) (hb w)
theorem TB_tbl : ∀ w ∈ TB, w ∈ lw_tbl := inG (inG (inG (inG (inG (inG (inG (inG (inG (inG (inG (inG inr_1 (inG inr_2 (inG inr_3 (inG inr_4 (inG inr_5 (inG inr_6 (inG inr_7 (inG inr_8 (inG inr_9 (inG inr_10 (inG inr_11 (inG inr_12 (inG inr_13 (inG inr_14 (inG inr_15 (inG inr_16 (inG inr_17 (inG inr_18 (inG inr_19 (inG inr_20 (inG inr_21 (inG inr_22 (inG inr_23 (inG inr_24 (inG inr_25 (inG inr_26 (inG inr_27 (inG inr_28 (inG inr_29 (inG inr_30 (inG inr_31 (inG inr_32 (inG inr_33 (inG inr_34 (inG inr_35 (inG inr_36 (inG inr_37 (inG inr_38 (inG inr_39 (inG inr_40 (inG inr_41 (inG inr_42 (inG inr_43 (inG inr_44 (inG inr_45 (inG inr_46 (inG inr_47 (inG inr_48 (inG inr_49 (inG inr_50 (inG inr_51 (inG inr_52 (inG inr_53 (inG inr_54 inr_55)))))))))))))))))))))))))))))))))))))))))))))))))))))) inr_wsX100) inr_wsX110) inr_wsX30) inr_wsX80) inr_wsX90) inr_wsX00) inr_wsX20) inr_wsX60) inr_wsX70) inr_wsX40) (fun _ h => absurd h List.not_mem_nil)
set_option maxRecDepth 20000 in
theorem inx_0 : ∀ w ∈ (vx_atS RX10 307 "java/lang/IllegalStateException" ["java/lang/RuntimeException", "java/lang/Exception"]).filter goodWord, w ∈ lw_tbl := by decide +kernel
set_option maxRecDepth 20000 in
theorem inx_1 : ∀ w ∈ (vx_atS RX10 312 "java/lang/IndexOutOfBoundsException" ["java/lang/RuntimeException", "java/lang/Exception"]).filter goodWord, w ∈ lw_tbl := by decide +kernel
set_option maxRecDepth 20000 in
theorem inx_2 : ∀ w ∈ (vx_atS RX10 110 "java/lang/IllegalArgumentException" ["java/lang/RuntimeException", "java/lang/Exception"]).filter goodWord, w ∈ lw_tbl := by decide +kernel
set_option maxRecDepth 20000 in
theorem inx_3 : ∀ w ∈ (vx_atS RX10 254 "java/lang/UnsupportedOperationException" ["java/lang/RuntimeException", "java/lang/Exception"]).filter goodWord, w ∈ lw_tbl := by decide +kernel
theorem TBX_tbl : ∀ w ∈ TBX, w ∈ lw_tbl := inG TB_tbl (inG inx_0 (inG inx_1 (inG inx_2 inx_3)))
