/-! each step is sound (by program) -/
set_option maxRecDepth 100000 in
set_option maxHeartbeats 4000000 in
theorem S_268 : pAll (pSk RX12 cX12_count 4 (some .int) PC_268) 0 C_268 := by
  refine ⟨sn_aload_n (k := 0) (by decide +kernel) rfl rfl, ?_⟩
  refine ⟨sn_iconst (by decide +kernel) rfl, ?_⟩
  refine ⟨sn_puti (C := RX12) (T := TX12) (N := 56) (idx := 107) rfl pin12 (by decide) (by decide) rfl tyX12 tyX12_ok nmX12 rfl rfl (by decide +kernel) (pmt6 157 rfl rfl) rfl (by decide +kernel) rfl, ?_⟩
  refine ⟨sn_iconst (by decide +kernel) rfl, ?_⟩
  refine ⟨sn_istore_n (k := 2) (by decide +kernel) rfl (by decide) rfl, ?_⟩
  refine ⟨sn_iload_n (k := 1) (by decide +kernel) rfl rfl, ?_⟩
  refine ⟨sn_sw (dflt := 158) (lo := 0) (hi := 11) (offs := #[64, 69, 74, 79, 110, 115, 120, 129, 138, 143, 148, 153]) (len := 64) (by decide +kernel) (by decide) (by decide +kernel) (p_sw_all (by decide +kernel)) (by decide +kernel), ?_⟩
  refine ⟨sn_aload_n (k := 0) (by decide +kernel) rfl rfl, ?_⟩
  refine ⟨sn_getf (C := RX12) (T := TX12) (N := 56) (idx := 113) rfl pin12 (by decide) (by decide) rfl (pmt6 140 rfl rfl) rfl (by decide +kernel) rfl, ?_⟩
  refine ⟨sn_iret rfl (by decide +kernel), ?_⟩
  refine ⟨sn_aload_n (k := 0) (by decide +kernel) rfl rfl, ?_⟩
  refine ⟨sn_getf (C := RX12) (T := TX12) (N := 56) (idx := 120) rfl pin12 (by decide) (by decide) rfl (pmt6 143 rfl rfl) rfl (by decide +kernel) rfl, ?_⟩
  refine ⟨sn_iret rfl (by decide +kernel), ?_⟩
  refine ⟨sn_aload_n (k := 0) (by decide +kernel) rfl rfl, ?_⟩
  refine ⟨sn_getf (C := RX12) (T := TX12) (N := 56) (idx := 161) rfl pin12 (by decide) (by decide) rfl (pmt6 148 rfl rfl) rfl (by decide +kernel) rfl, ?_⟩
  refine ⟨sn_iret rfl (by decide +kernel), ?_⟩
  refine ⟨sn_iconst (by decide +kernel) rfl, ?_⟩
  refine ⟨sn_istore_n (k := 3) (by decide +kernel) rfl (by decide) rfl, ?_⟩
  refine ⟨sn_iload_n (k := 3) (by decide +kernel) rfl rfl, ?_⟩
  refine ⟨sn_aload_n (k := 0) (by decide +kernel) rfl rfl, ?_⟩
  refine ⟨sn_getf (C := RX12) (T := TX12) (N := 56) (idx := 113) rfl pin12 (by decide) (by decide) rfl (pmt6 140 rfl rfl) rfl (by decide +kernel) rfl, ?_⟩
  refine ⟨sn_icmp_ge (off := 22) (by decide +kernel) (by decide +kernel) rfl, ?_⟩
  refine ⟨sn_iload_n (k := 2) (by decide +kernel) rfl rfl, ?_⟩
  refine ⟨sn_aload_n (k := 0) (by decide +kernel) rfl rfl, ?_⟩
  refine ⟨sn_iload_n (k := 3) (by decide +kernel) rfl rfl, ?_⟩
  refine ⟨sn_callV (idx := 216) (C := RX12) (T := TX12) (N := 56) rfl (by decide) cal_197 (pmt7 156 rfl rfl) (pmt7 158 rfl rfl) (pms 59 rfl rfl) (by decide +kernel) rfl, ?_⟩
  refine ⟨sn_iload_n (k := 3) (by decide +kernel) rfl rfl, ?_⟩
  refine ⟨sn_ishr (by decide +kernel) rfl, ?_⟩
  refine ⟨sn_callS (idx := 211) cal_270 (pmt7 155 rfl rfl) (pmt4 236 rfl rfl) (by decide +kernel) rfl, ?_⟩
  refine ⟨sn_iadd (by decide +kernel) rfl, ?_⟩
  refine ⟨sn_istore_n (k := 2) (by decide +kernel) rfl (by decide) rfl, ?_⟩
  refine ⟨sn_iinc (by decide +kernel) (by decide) rfl, ?_⟩
  refine ⟨sn_goto (off := -24) (by decide +kernel) (by decide +kernel), ?_⟩
  refine ⟨sn_iload_n (k := 2) (by decide +kernel) rfl rfl, ?_⟩
  refine ⟨sn_iret rfl (by decide +kernel), ?_⟩
  refine ⟨sn_aload_n (k := 0) (by decide +kernel) rfl rfl, ?_⟩
  refine ⟨sn_getf (C := RX12) (T := TX12) (N := 56) (idx := 291) rfl pin12 (by decide) (by decide) rfl (pmt6 150 rfl rfl) rfl (by decide +kernel) rfl, ?_⟩
  refine ⟨sn_iret rfl (by decide +kernel), ?_⟩
  refine ⟨sn_aload_n (k := 0) (by decide +kernel) rfl rfl, ?_⟩
  refine ⟨sn_getf (C := RX12) (T := TX12) (N := 56) (idx := 275) rfl pin12 (by decide) (by decide) rfl (pmt6 151 rfl rfl) rfl (by decide +kernel) rfl, ?_⟩
  refine ⟨sn_iret rfl (by decide +kernel), ?_⟩
  refine ⟨sn_aload_n (k := 0) (by decide +kernel) rfl rfl, ?_⟩
  refine ⟨sn_aload_n (k := 0) (by decide +kernel) rfl rfl, ?_⟩
  refine ⟨sn_getf (C := RX12) (T := TX12) (N := 56) (idx := 25) rfl pin12 (by decide) (by decide) rfl (pmt6 147 rfl rfl) rfl (by decide +kernel) rfl, ?_⟩
  refine ⟨sn_callV (idx := 268) (C := RX12) (T := TX12) (N := 56) rfl (by decide) cal_210 (pmt8 3 rfl rfl) (pmt8 5 rfl rfl) (pms 71 rfl rfl) (by decide +kernel) rfl, ?_⟩
  refine ⟨sn_iret rfl (by decide +kernel), ?_⟩
  refine ⟨sn_aload_n (k := 0) (by decide +kernel) rfl rfl, ?_⟩
  refine ⟨sn_aload_n (k := 0) (by decide +kernel) rfl rfl, ?_⟩
  refine ⟨sn_getf (C := RX12) (T := TX12) (N := 56) (idx := 25) rfl pin12 (by decide) (by decide) rfl (pmt6 147 rfl rfl) rfl (by decide +kernel) rfl, ?_⟩
  refine ⟨sn_callV (idx := 272) (C := RX12) (T := TX12) (N := 56) rfl (by decide) cal_211 (pmt8 8 rfl rfl) (pmt8 10 rfl rfl) (pms 72 rfl rfl) (by decide +kernel) rfl, ?_⟩
  refine ⟨sn_iret rfl (by decide +kernel), ?_⟩
  refine ⟨sn_aload_n (k := 0) (by decide +kernel) rfl rfl, ?_⟩
  refine ⟨sn_getf (C := RX12) (T := TX12) (N := 56) (idx := 186) rfl pin12 (by decide) (by decide) rfl (pmt6 173 rfl rfl) rfl (by decide +kernel) rfl, ?_⟩
  refine ⟨sn_iret rfl (by decide +kernel), ?_⟩
  refine ⟨sn_aload_n (k := 0) (by decide +kernel) rfl rfl, ?_⟩
  refine ⟨sn_getf (C := RX12) (T := TX12) (N := 56) (idx := 110) rfl pin12 (by decide) (by decide) rfl (pmt6 156 rfl rfl) rfl (by decide +kernel) rfl, ?_⟩
  refine ⟨sn_iret rfl (by decide +kernel), ?_⟩
  refine ⟨sn_aload_n (k := 0) (by decide +kernel) rfl rfl, ?_⟩
  refine ⟨sn_getf (C := RX12) (T := TX12) (N := 56) (idx := 123) rfl pin12 (by decide) (by decide) rfl (pmt6 154 rfl rfl) rfl (by decide +kernel) rfl, ?_⟩
  refine ⟨sn_iret rfl (by decide +kernel), ?_⟩
  refine ⟨sn_aload_n (k := 0) (by decide +kernel) rfl rfl, ?_⟩
  refine ⟨sn_getf (C := RX12) (T := TX12) (N := 56) (idx := 31) rfl pin12 (by decide) (by decide) rfl (pmt6 152 rfl rfl) rfl (by decide +kernel) rfl, ?_⟩
  refine ⟨sn_iret rfl (by decide +kernel), ?_⟩
  refine ⟨sn_iconst (by decide +kernel) rfl, ?_⟩
  refine ⟨sn_iret rfl (by decide +kernel), ?_⟩
  trivial
set_option maxRecDepth 100000 in
set_option maxHeartbeats 4000000 in
theorem S_269 : pAll (pSk RX12 cX12_row 2 (some .int) PC_269) 0 C_269 := by
  refine ⟨sn_aload_n (k := 0) (by decide +kernel) rfl rfl, ?_⟩
  refine ⟨sn_iconst (by decide +kernel) rfl, ?_⟩
  refine ⟨sn_puti (C := RX12) (T := TX12) (N := 56) (idx := 107) rfl pin12 (by decide) (by decide) rfl tyX12 tyX12_ok nmX12 rfl rfl (by decide +kernel) (pmt6 157 rfl rfl) rfl (by decide +kernel) rfl, ?_⟩
  refine ⟨sn_iload_n (k := 1) (by decide +kernel) rfl rfl, ?_⟩
  refine ⟨sn_iconst (by decide +kernel) rfl, ?_⟩
  refine ⟨sn_aload_n (k := 0) (by decide +kernel) rfl rfl, ?_⟩
  refine ⟨sn_getf (C := RX12) (T := TX12) (N := 56) (idx := 110) rfl pin12 (by decide) (by decide) rfl (pmt6 156 rfl rfl) rfl (by decide +kernel) rfl, ?_⟩
  refine ⟨sn_iconst (by decide +kernel) rfl, ?_⟩
  refine ⟨sn_isub (by decide +kernel) rfl, ?_⟩
  refine ⟨sn_callS (idx := 116) cal_169 (pmt7 77 rfl rfl) (pmt7 78 rfl rfl) (by decide +kernel) rfl, ?_⟩
  refine ⟨sn_if_eq (off := 12) (by decide +kernel) (by decide +kernel) rfl, ?_⟩
  refine ⟨sn_aload_n (k := 0) (by decide +kernel) rfl rfl, ?_⟩
  refine ⟨sn_getf (C := RX12) (T := TX12) (N := 56) (idx := 39) rfl pin12 (by decide) (by decide) rfl (pmt6 155 rfl rfl) rfl (by decide +kernel) rfl, ?_⟩
  refine ⟨sn_iload_n (k := 1) (by decide +kernel) rfl rfl, ?_⟩
  refine ⟨sn_iald (by decide +kernel) rfl, ?_⟩
  refine ⟨sn_goto (off := 7) (by decide +kernel) (by decide +kernel), ?_⟩
  refine ⟨sn_aload_n (k := 0) (by decide +kernel) rfl rfl, ?_⟩
  refine ⟨sn_callV (idx := 242) (C := RX12) (T := TX12) (N := 56) rfl (by decide) cal_171 (pmt7 168 rfl rfl) (pmt7 170 rfl rfl) (pms 61 rfl rfl) (by decide +kernel) rfl, ?_⟩
  refine ⟨sn_iret rfl (by decide +kernel), ?_⟩
  trivial
set_option maxRecDepth 100000 in
set_option maxHeartbeats 4000000 in
theorem S_270 : pAll (pSk RJ6 cJ6_bitCount_0f7a4 1 (some .int) PC_270) 0 C_270 := by
  refine ⟨sn_iload_n (k := 0) (by decide +kernel) rfl rfl, ?_⟩
  refine ⟨sn_iload_n (k := 0) (by decide +kernel) rfl rfl, ?_⟩
  refine ⟨sn_iconst (by decide +kernel) rfl, ?_⟩
  refine ⟨sn_iushr (by decide +kernel) rfl, ?_⟩
  refine ⟨sn_ldcw (idx := 265) (by decide +kernel) (pmt4 238 rfl rfl) rfl, ?_⟩
  refine ⟨sn_iand (by decide +kernel) rfl, ?_⟩
  refine ⟨sn_isub (by decide +kernel) rfl, ?_⟩
  refine ⟨sn_istore_n (k := 0) (by decide +kernel) rfl (by decide) rfl, ?_⟩
  refine ⟨sn_iload_n (k := 0) (by decide +kernel) rfl rfl, ?_⟩
  refine ⟨sn_ldcw (idx := 266) (by decide +kernel) (pmt4 239 rfl rfl) rfl, ?_⟩
  refine ⟨sn_iand (by decide +kernel) rfl, ?_⟩
  refine ⟨sn_iload_n (k := 0) (by decide +kernel) rfl rfl, ?_⟩
  refine ⟨sn_iconst (by decide +kernel) rfl, ?_⟩
  refine ⟨sn_iushr (by decide +kernel) rfl, ?_⟩
  refine ⟨sn_ldcw (idx := 266) (by decide +kernel) (pmt4 239 rfl rfl) rfl, ?_⟩
  refine ⟨sn_iand (by decide +kernel) rfl, ?_⟩
  refine ⟨sn_iadd (by decide +kernel) rfl, ?_⟩
  refine ⟨sn_istore_n (k := 0) (by decide +kernel) rfl (by decide) rfl, ?_⟩
  refine ⟨sn_iload_n (k := 0) (by decide +kernel) rfl rfl, ?_⟩
  refine ⟨sn_iload_n (k := 0) (by decide +kernel) rfl rfl, ?_⟩
  refine ⟨sn_iconst (by decide +kernel) rfl, ?_⟩
  refine ⟨sn_iushr (by decide +kernel) rfl, ?_⟩
  refine ⟨sn_iadd (by decide +kernel) rfl, ?_⟩
  refine ⟨sn_ldcw (idx := 267) (by decide +kernel) (pmt5 0 rfl rfl) rfl, ?_⟩
  refine ⟨sn_iand (by decide +kernel) rfl, ?_⟩
  refine ⟨sn_istore_n (k := 0) (by decide +kernel) rfl (by decide) rfl, ?_⟩
  refine ⟨sn_iload_n (k := 0) (by decide +kernel) rfl rfl, ?_⟩
  refine ⟨sn_iload_n (k := 0) (by decide +kernel) rfl rfl, ?_⟩
  refine ⟨sn_bipush (by decide +kernel) (by decide +kernel) rfl, ?_⟩
  refine ⟨sn_iushr (by decide +kernel) rfl, ?_⟩
  refine ⟨sn_iadd (by decide +kernel) rfl, ?_⟩
  refine ⟨sn_istore_n (k := 0) (by decide +kernel) rfl (by decide) rfl, ?_⟩
  refine ⟨sn_iload_n (k := 0) (by decide +kernel) rfl rfl, ?_⟩
  refine ⟨sn_iload_n (k := 0) (by decide +kernel) rfl rfl, ?_⟩
  refine ⟨sn_bipush (by decide +kernel) (by decide +kernel) rfl, ?_⟩
  refine ⟨sn_iushr (by decide +kernel) rfl, ?_⟩
  refine ⟨sn_iadd (by decide +kernel) rfl, ?_⟩
  refine ⟨sn_istore_n (k := 0) (by decide +kernel) rfl (by decide) rfl, ?_⟩
  refine ⟨sn_iload_n (k := 0) (by decide +kernel) rfl rfl, ?_⟩
  refine ⟨sn_bipush (by decide +kernel) (by decide +kernel) rfl, ?_⟩
  refine ⟨sn_iand (by decide +kernel) rfl, ?_⟩
  refine ⟨sn_iret rfl (by decide +kernel), ?_⟩
  trivial
set_option maxRecDepth 100000 in
set_option maxHeartbeats 4000000 in
theorem S_271 : pAll (pSk RJ6 cJ6_numberOfTrailingZeros_0f7a4 2 (some .int) PC_271) 0 C_271 := by
  refine ⟨sn_iload_n (k := 0) (by decide +kernel) rfl rfl, ?_⟩
  refine ⟨sn_iconst (by decide +kernel) rfl, ?_⟩
  refine ⟨sn_ixor (by decide +kernel) rfl, ?_⟩
  refine ⟨sn_iload_n (k := 0) (by decide +kernel) rfl rfl, ?_⟩
  refine ⟨sn_iconst (by decide +kernel) rfl, ?_⟩
  refine ⟨sn_isub (by decide +kernel) rfl, ?_⟩
  refine ⟨sn_iand (by decide +kernel) rfl, ?_⟩
  refine ⟨sn_istore_n (k := 0) (by decide +kernel) rfl (by decide) rfl, ?_⟩
  refine ⟨sn_iload_n (k := 0) (by decide +kernel) rfl rfl, ?_⟩
  refine ⟨sn_if_gt (off := 8) (by decide +kernel) (by decide +kernel) rfl, ?_⟩
  refine ⟨sn_iload_n (k := 0) (by decide +kernel) rfl rfl, ?_⟩
  refine ⟨sn_bipush (by decide +kernel) (by decide +kernel) rfl, ?_⟩
  refine ⟨sn_iand (by decide +kernel) rfl, ?_⟩
  refine ⟨sn_iret rfl (by decide +kernel), ?_⟩
  refine ⟨sn_iconst (by decide +kernel) rfl, ?_⟩
  refine ⟨sn_istore_n (k := 1) (by decide +kernel) rfl (by decide) rfl, ?_⟩
  refine ⟨sn_iload_n (k := 0) (by decide +kernel) rfl rfl, ?_⟩
  refine ⟨sn_ldcw (idx := 264) (by decide +kernel) (pmt5 67 rfl rfl) rfl, ?_⟩
  refine ⟨sn_icmp_le (off := 11) (by decide +kernel) (by decide +kernel) rfl, ?_⟩
  refine ⟨sn_iinc (by decide +kernel) (by decide) rfl, ?_⟩
  refine ⟨sn_iload_n (k := 0) (by decide +kernel) rfl rfl, ?_⟩
  refine ⟨sn_bipush (by decide +kernel) (by decide +kernel) rfl, ?_⟩
  refine ⟨sn_iushr (by decide +kernel) rfl, ?_⟩
  refine ⟨sn_istore_n (k := 0) (by decide +kernel) rfl (by decide) rfl, ?_⟩
  refine ⟨sn_iload_n (k := 0) (by decide +kernel) rfl rfl, ?_⟩
  refine ⟨sn_sipush (by decide +kernel) (by decide +kernel) rfl, ?_⟩
  refine ⟨sn_icmp_le (off := 11) (by decide +kernel) (by decide +kernel) rfl, ?_⟩
  refine ⟨sn_iinc (by decide +kernel) (by decide) rfl, ?_⟩
  refine ⟨sn_iload_n (k := 0) (by decide +kernel) rfl rfl, ?_⟩
  refine ⟨sn_bipush (by decide +kernel) (by decide +kernel) rfl, ?_⟩
  refine ⟨sn_iushr (by decide +kernel) rfl, ?_⟩
  refine ⟨sn_istore_n (k := 0) (by decide +kernel) rfl (by decide) rfl, ?_⟩
  refine ⟨sn_iload_n (k := 0) (by decide +kernel) rfl rfl, ?_⟩
  refine ⟨sn_bipush (by decide +kernel) (by decide +kernel) rfl, ?_⟩
  refine ⟨sn_icmp_le (off := 10) (by decide +kernel) (by decide +kernel) rfl, ?_⟩
  refine ⟨sn_iinc (by decide +kernel) (by decide) rfl, ?_⟩
  refine ⟨sn_iload_n (k := 0) (by decide +kernel) rfl rfl, ?_⟩
  refine ⟨sn_iconst (by decide +kernel) rfl, ?_⟩
  refine ⟨sn_iushr (by decide +kernel) rfl, ?_⟩
  refine ⟨sn_istore_n (k := 0) (by decide +kernel) rfl (by decide) rfl, ?_⟩
  refine ⟨sn_iload_n (k := 0) (by decide +kernel) rfl rfl, ?_⟩
  refine ⟨sn_iconst (by decide +kernel) rfl, ?_⟩
  refine ⟨sn_icmp_le (off := 10) (by decide +kernel) (by decide +kernel) rfl, ?_⟩
  refine ⟨sn_iinc (by decide +kernel) (by decide) rfl, ?_⟩
  refine ⟨sn_iload_n (k := 0) (by decide +kernel) rfl rfl, ?_⟩
  refine ⟨sn_iconst (by decide +kernel) rfl, ?_⟩
  refine ⟨sn_iushr (by decide +kernel) rfl, ?_⟩
  refine ⟨sn_istore_n (k := 0) (by decide +kernel) rfl (by decide) rfl, ?_⟩
  refine ⟨sn_iload_n (k := 1) (by decide +kernel) rfl rfl, ?_⟩
  refine ⟨sn_iload_n (k := 0) (by decide +kernel) rfl rfl, ?_⟩
  refine ⟨sn_iconst (by decide +kernel) rfl, ?_⟩
  refine ⟨sn_iushr (by decide +kernel) rfl, ?_⟩
  refine ⟨sn_iadd (by decide +kernel) rfl, ?_⟩
  refine ⟨sn_iret rfl (by decide +kernel), ?_⟩
  trivial
set_option maxRecDepth 100000 in
set_option maxHeartbeats 4000000 in
theorem S_272 : pAll (pSk RJ0 cJ0_indexOf_0f7a4 2 (some .int) PC_272) 0 C_272 := by
  refine ⟨sn_aload_n (k := 0) (by decide +kernel) rfl rfl, ?_⟩
  refine ⟨sn_iload_n (k := 1) (by decide +kernel) rfl rfl, ?_⟩
  refine ⟨sn_iconst (by decide +kernel) rfl, ?_⟩
  refine ⟨sn_callW (idx := 633) cal_273 (pmt3 129 rfl rfl) (pmt3 130 rfl rfl) (pmt3 131 rfl rfl) (by decide +kernel) rfl, ?_⟩
  refine ⟨sn_iret rfl (by decide +kernel), ?_⟩
  trivial
set_option maxRecDepth 100000 in
set_option maxHeartbeats 4000000 in
theorem S_273 : pAll (pSk RJ0 cJ0_indexOf_7cf53 3 (some .int) PC_273) 0 C_273 := by
  refine ⟨sn_aload_n (k := 0) (by decide +kernel) rfl rfl, ?_⟩
  refine ⟨sn_callW (idx := 492) cal_274 (pmt3 133 rfl rfl) (pmt3 134 rfl rfl) (pmt3 135 rfl rfl) (by decide +kernel) rfl, ?_⟩
  refine ⟨sn_if_eq (off := 19) (by decide +kernel) (by decide +kernel) rfl, ?_⟩
  refine ⟨sn_aload_n (k := 0) (by decide +kernel) rfl rfl, ?_⟩
  refine ⟨sn_sval (pmt9 15 rfl rfl) (by decide +kernel) rfl, ?_⟩
  refine ⟨sn_iload_n (k := 1) (by decide +kernel) rfl rfl, ?_⟩
  refine ⟨sn_iload_n (k := 2) (by decide +kernel) rfl rfl, ?_⟩
  refine ⟨sn_aload_n (k := 0) (by decide +kernel) rfl rfl, ?_⟩
  refine ⟨sn_callW (idx := 505) cal_275 (pmt3 139 rfl rfl) (pmt3 140 rfl rfl) (pmt3 141 rfl rfl) (by decide +kernel) rfl, ?_⟩
  refine ⟨sn_callS (idx := 637) cal_277 (pmt3 147 rfl rfl) (pmt3 148 rfl rfl) (by decide +kernel) rfl, ?_⟩
  refine ⟨sn_goto (off := 16) (by decide +kernel) (by decide +kernel), ?_⟩
  refine ⟨sn_aload_n (k := 0) (by decide +kernel) rfl rfl, ?_⟩
  refine ⟨sn_sval (pmt9 15 rfl rfl) (by decide +kernel) rfl, ?_⟩
  refine ⟨sn_iload_n (k := 1) (by decide +kernel) rfl rfl, ?_⟩
  refine ⟨sn_iload_n (k := 2) (by decide +kernel) rfl rfl, ?_⟩
  refine ⟨sn_aload_n (k := 0) (by decide +kernel) rfl rfl, ?_⟩
  refine ⟨sn_callW (idx := 505) cal_275 (pmt3 139 rfl rfl) (pmt3 140 rfl rfl) (pmt3 141 rfl rfl) (by decide +kernel) rfl, ?_⟩
  refine ⟨sn_none, ?_⟩
  refine ⟨sn_iret rfl (by decide +kernel), ?_⟩
  trivial
set_option maxRecDepth 100000 in
set_option maxHeartbeats 4000000 in
theorem S_274 : pAll (pSk RJ0 cJ0_isLatin1_aae02 1 (some .boolean) PC_274) 0 C_274 := by
  refine ⟨sn_sget (pmt3 137 rfl rfl) (by decide +kernel) rfl, ?_⟩
  refine ⟨sn_if_eq (off := 14) (by decide +kernel) (by decide +kernel) rfl, ?_⟩
  refine ⟨sn_aload_n (k := 0) (by decide +kernel) rfl rfl, ?_⟩
  refine ⟨sn_scod (pmt9 14 rfl rfl) (by decide +kernel) rfl, ?_⟩
  refine ⟨sn_if_ne (off := 7) (by decide +kernel) (by decide +kernel) rfl, ?_⟩
  refine ⟨sn_iconst (by decide +kernel) rfl, ?_⟩
  refine ⟨sn_goto (off := 4) (by decide +kernel) (by decide +kernel), ?_⟩
  refine ⟨sn_iconst (by decide +kernel) rfl, ?_⟩
  refine ⟨sn_zret (Or.inl rfl) (by decide +kernel), ?_⟩
  trivial
set_option maxRecDepth 100000 in
set_option maxHeartbeats 4000000 in
theorem S_275 : pAll (pSk RJ0 cJ0_length_8abf5 1 (some .int) PC_275) 0 C_275 := by
  refine ⟨sn_aload_n (k := 0) (by decide +kernel) rfl rfl, ?_⟩
  refine ⟨sn_sval (pmt9 15 rfl rfl) (by decide +kernel) rfl, ?_⟩
  refine ⟨sn_slen (by decide +kernel) rfl, ?_⟩
  refine ⟨sn_aload_n (k := 0) (by decide +kernel) rfl rfl, ?_⟩
  refine ⟨sn_callW (idx := 335) cal_276 (pmt3 143 rfl rfl) (pmt3 144 rfl rfl) (pmt3 145 rfl rfl) (by decide +kernel) rfl, ?_⟩
  refine ⟨sn_ishr (by decide +kernel) rfl, ?_⟩
  refine ⟨sn_iret rfl (by decide +kernel), ?_⟩
  trivial
set_option maxRecDepth 100000 in
set_option maxHeartbeats 4000000 in
theorem S_276 : pAll (pSk RJ0 cJ0_coder_7d493 1 (some .byte) PC_276) 0 C_276 := by
  refine ⟨sn_sget (pmt3 137 rfl rfl) (by decide +kernel) rfl, ?_⟩
  refine ⟨sn_if_eq (off := 10) (by decide +kernel) (by decide +kernel) rfl, ?_⟩
  refine ⟨sn_aload_n (k := 0) (by decide +kernel) rfl rfl, ?_⟩
  refine ⟨sn_scod (pmt9 14 rfl rfl) (by decide +kernel) rfl, ?_⟩
  refine ⟨sn_goto (off := 4) (by decide +kernel) (by decide +kernel), ?_⟩
  refine ⟨sn_iconst (by decide +kernel) rfl, ?_⟩
  refine ⟨sn_zret (Or.inr rfl) (by decide +kernel), ?_⟩
  trivial
set_option maxRecDepth 100000 in
set_option maxHeartbeats 4000000 in
theorem S_277 : pAll (pSk RJ1 cJ1_indexOf_4cfef 4 (some .int) PC_277) 0 C_277 := by
  refine ⟨sn_iload_n (k := 1) (by decide +kernel) rfl rfl, ?_⟩
  refine ⟨sn_callS (idx := 88) cal_278 (pmt3 150 rfl rfl) (pmt3 151 rfl rfl) (by decide +kernel) rfl, ?_⟩
  refine ⟨sn_if_ne (off := 5) (by decide +kernel) (by decide +kernel) rfl, ?_⟩
  refine ⟨sn_iconst (by decide +kernel) rfl, ?_⟩
  refine ⟨sn_iret rfl (by decide +kernel), ?_⟩
  refine ⟨sn_iload_n (k := 2) (by decide +kernel) rfl rfl, ?_⟩
  refine ⟨sn_iconst (by decide +kernel) rfl, ?_⟩
  refine ⟨sn_mmax (idx := 92) (pmt3 153 rfl rfl) (pmt3 154 rfl rfl) (pmt1 14 rfl rfl) (pmt3 155 rfl rfl) (by decide +kernel) rfl, ?_⟩
  refine ⟨sn_istore_n (k := 2) (by decide +kernel) rfl (by decide) rfl, ?_⟩
  refine ⟨sn_iload_n (k := 3) (by decide +kernel) rfl rfl, ?_⟩
  refine ⟨sn_aload_n (k := 0) (by decide +kernel) rfl rfl, ?_⟩
  refine ⟨sn_slen (by decide +kernel) rfl, ?_⟩
  refine ⟨sn_mmin (idx := 38) (pmt3 156 rfl rfl) (pmt2 211 rfl rfl) (pmt1 14 rfl rfl) (pmt2 212 rfl rfl) (by decide +kernel) rfl, ?_⟩
  refine ⟨sn_istore_n (k := 3) (by decide +kernel) rfl (by decide) rfl, ?_⟩
  refine ⟨sn_iload_n (k := 2) (by decide +kernel) rfl rfl, ?_⟩
  refine ⟨sn_iload_n (k := 3) (by decide +kernel) rfl rfl, ?_⟩
  refine ⟨sn_icmp_lt (off := 5) (by decide +kernel) (by decide +kernel) rfl, ?_⟩
  refine ⟨sn_iconst (by decide +kernel) rfl, ?_⟩
  refine ⟨sn_iret rfl (by decide +kernel), ?_⟩
  refine ⟨sn_aload_n (k := 0) (by decide +kernel) rfl rfl, ?_⟩
  refine ⟨sn_iload_n (k := 1) (by decide +kernel) rfl rfl, ?_⟩
  refine ⟨sn_iload_n (k := 2) (by decide +kernel) rfl rfl, ?_⟩
  refine ⟨sn_iload_n (k := 3) (by decide +kernel) rfl rfl, ?_⟩
  refine ⟨sn_callS (idx := 95) cal_279 (pmt3 157 rfl rfl) (pmt3 158 rfl rfl) (by decide +kernel) rfl, ?_⟩
  refine ⟨sn_iret rfl (by decide +kernel), ?_⟩
  trivial
set_option maxRecDepth 100000 in
set_option maxHeartbeats 4000000 in
theorem S_278 : pAll (pSk RJ1 cJ1_canEncode_9a6ad 1 (some .boolean) PC_278) 0 C_278 := by
  refine ⟨sn_iload_n (k := 0) (by decide +kernel) rfl rfl, ?_⟩
  refine ⟨sn_if_lt (off := 14) (by decide +kernel) (by decide +kernel) rfl, ?_⟩
  refine ⟨sn_iload_n (k := 0) (by decide +kernel) rfl rfl, ?_⟩
  refine ⟨sn_sipush (by decide +kernel) (by decide +kernel) rfl, ?_⟩
  refine ⟨sn_icmp_gt (off := 7) (by decide +kernel) (by decide +kernel) rfl, ?_⟩
  refine ⟨sn_iconst (by decide +kernel) rfl, ?_⟩
  refine ⟨sn_goto (off := 4) (by decide +kernel) (by decide +kernel), ?_⟩
  refine ⟨sn_iconst (by decide +kernel) rfl, ?_⟩
  refine ⟨sn_zret (Or.inl rfl) (by decide +kernel), ?_⟩
  trivial
set_option maxRecDepth 100000 in
set_option maxHeartbeats 4000000 in
theorem S_279 : pAll (pSk RJ1 cJ1_indexOfChar_4cfef 6 (some .int) PC_279) 0 C_279 := by
  refine ⟨sn_iload_n (k := 1) (by decide +kernel) rfl rfl, ?_⟩
  refine ⟨sn_i2b (by decide +kernel) rfl, ?_⟩
  refine ⟨sn_istore (by decide +kernel) (by decide) rfl, ?_⟩
  refine ⟨sn_iload_n (k := 2) (by decide +kernel) rfl rfl, ?_⟩
  refine ⟨sn_istore (by decide +kernel) (by decide) rfl, ?_⟩
  refine ⟨sn_iload (by decide +kernel) rfl, ?_⟩
  refine ⟨sn_iload_n (k := 3) (by decide +kernel) rfl rfl, ?_⟩
  refine ⟨sn_icmp_ge (off := 21) (by decide +kernel) (by decide +kernel) rfl, ?_⟩
  refine ⟨sn_aload_n (k := 0) (by decide +kernel) rfl rfl, ?_⟩
  refine ⟨sn_iload (by decide +kernel) rfl, ?_⟩
  refine ⟨sn_sbld (by decide +kernel) rfl, ?_⟩
  refine ⟨sn_iload (by decide +kernel) rfl, ?_⟩
  refine ⟨sn_icmp_ne (off := 6) (by decide +kernel) (by decide +kernel) rfl, ?_⟩
  refine ⟨sn_iload (by decide +kernel) rfl, ?_⟩
  refine ⟨sn_iret rfl (by decide +kernel), ?_⟩
  refine ⟨sn_iinc (by decide +kernel) (by decide) rfl, ?_⟩
  refine ⟨sn_goto (off := -21) (by decide +kernel) (by decide +kernel), ?_⟩
  refine ⟨sn_iconst (by decide +kernel) rfl, ?_⟩
  refine ⟨sn_iret rfl (by decide +kernel), ?_⟩
  trivial
