/-! each step is sound (by program) -/
set_option maxRecDepth 100000 in
set_option maxHeartbeats 4000000 in
theorem S_268 : pAll (pSk RX12 cX12_count 4 (some .int) PC_268) 0 C_268 := by
  refine ⟨sn_aload_n (k := 0) (by decide +kernel) rfl rfl, ?_⟩
  refine ⟨sn_iconst (by decide +kernel) rfl, ?_⟩
  refine ⟨sn_puti (C := RX12) (T := TX12) (N := 56) (idx := 107) rfl pin12 (by decide) (by decide) rfl tyX12 tyX12_ok nmX12 rfl rfl (by decide +kernel) (pmt6 157 rfl rfl) rfl (by decide +kernel) rfl, ?_⟩
  refine ⟨sn_iconst (by decide +kernel) rfl, ?_⟩
  refine ⟨sn_istore_n (k := 2) (by decide +kernel) rfl (by decide) rfl, ?_⟩
  refine ⟨sn_iload_n (k := 1) (by decide +kernel) rfl rfl, ?_⟩
  refine ⟨sn_sw (dflt := 158) (lo := 0) (hi := 11) (offs := #[64, 69, 74, 79, 110, 115, 120, 129, 138, 143, 148, 153]) (len := 64) (by decide +kernel) (by decide) (by decide +kernel) (p_sw_all (by decide +kernel)) (by decide +kernel), ?_⟩
  refine ⟨sn_aload_n (k := 0) (by decide +kernel) rfl rfl, ?_⟩
  refine ⟨sn_getf (C := RX12) (T := TX12) (N := 56) (idx := 113) rfl pin12 (by decide) (by decide) rfl (pmt6 140 rfl rfl) rfl (by decide +kernel) rfl, ?_⟩
  refine ⟨sn_iret rfl (by decide +kernel), ?_⟩
  refine ⟨sn_aload_n (k := 0) (by decide +kernel) rfl rfl, ?_⟩
  refine ⟨sn_getf (C := RX12) (T := TX12) (N := 56) (idx := 120) rfl pin12 (by decide) (by decide) rfl (pmt6 143 rfl rfl) rfl (by decide +kernel) rfl, ?_⟩
  refine ⟨sn_iret rfl (by decide +kernel), ?_⟩
  refine ⟨sn_aload_n (k := 0) (by decide +kernel) rfl rfl, ?_⟩
  refine ⟨sn_getf (C := RX12) (T := TX12) (N := 56) (idx := 161) rfl pin12 (by decide) (by decide) rfl (pmt6 148 rfl rfl) rfl (by decide +kernel) rfl, ?_⟩
  refine ⟨sn_iret rfl (by decide +kernel), ?_⟩
  refine ⟨sn_iconst (by decide +kernel) rfl, ?_⟩
  refine ⟨sn_istore_n (k := 3) (by decide +kernel) rfl (by decide) rfl, ?_⟩
  refine ⟨sn_iload_n (k := 3) (by decide +kernel) rfl rfl, ?_⟩
  refine ⟨sn_aload_n (k := 0) (by decide +kernel) rfl rfl, ?_⟩
  refine ⟨sn_getf (C := RX12) (T := TX12) (N := 56) (idx := 113) rfl pin12 (by decide) (by decide) rfl (pmt6 140 rfl rfl) rfl (by decide +kernel) rfl, ?_⟩
  refine ⟨sn_icmp_ge (off := 22) (by decide +kernel) (by decide +kernel) rfl, ?_⟩
  refine ⟨sn_iload_n (k := 2) (by decide +kernel) rfl rfl, ?_⟩
  refine ⟨sn_aload_n (k := 0) (by decide +kernel) rfl rfl, ?_⟩
  refine ⟨sn_iload_n (k := 3) (by decide +kernel) rfl rfl, ?_⟩
  refine ⟨sn_callV (idx := 216) (C := RX12) (T := TX12) (N := 56) rfl (by decide) cal_197 (pmt7 160 rfl rfl) (pmt7 162 rfl rfl) (pms 59 rfl rfl) (by decide +kernel) rfl, ?_⟩
  refine ⟨sn_iload_n (k := 3) (by decide +kernel) rfl rfl, ?_⟩
  refine ⟨sn_ishr (by decide +kernel) rfl, ?_⟩
  refine ⟨sn_callS (idx := 211) cal_270 (pmt7 159 rfl rfl) (pmt4 236 rfl rfl) (by decide +kernel) rfl, ?_⟩
  refine ⟨sn_iadd (by decide +kernel) rfl, ?_⟩
  refine ⟨sn_istore_n (k := 2) (by decide +kernel) rfl (by decide) rfl, ?_⟩
  refine ⟨sn_iinc (by decide +kernel) (by decide) rfl, ?_⟩
  refine ⟨sn_goto (off := -24) (by decide +kernel) (by decide +kernel), ?_⟩
  refine ⟨sn_iload_n (k := 2) (by decide +kernel) rfl rfl, ?_⟩
  refine ⟨sn_iret rfl (by decide +kernel), ?_⟩
  refine ⟨sn_aload_n (k := 0) (by decide +kernel) rfl rfl, ?_⟩
  refine ⟨sn_getf (C := RX12) (T := TX12) (N := 56) (idx := 291) rfl pin12 (by decide) (by decide) rfl (pmt6 150 rfl rfl) rfl (by decide +kernel) rfl, ?_⟩
  refine ⟨sn_iret rfl (by decide +kernel), ?_⟩
  refine ⟨sn_aload_n (k := 0) (by decide +kernel) rfl rfl, ?_⟩
  refine ⟨sn_getf (C := RX12) (T := TX12) (N := 56) (idx := 275) rfl pin12 (by decide) (by decide) rfl (pmt6 151 rfl rfl) rfl (by decide +kernel) rfl, ?_⟩
  refine ⟨sn_iret rfl (by decide +kernel), ?_⟩
  refine ⟨sn_aload_n (k := 0) (by decide +kernel) rfl rfl, ?_⟩
  refine ⟨sn_aload_n (k := 0) (by decide +kernel) rfl rfl, ?_⟩
  refine ⟨sn_getf (C := RX12) (T := TX12) (N := 56) (idx := 25) rfl pin12 (by decide) (by decide) rfl (pmt6 147 rfl rfl) rfl (by decide +kernel) rfl, ?_⟩
  refine ⟨sn_callV (idx := 268) (C := RX12) (T := TX12) (N := 56) rfl (by decide) cal_210 (pmt8 7 rfl rfl) (pmt8 9 rfl rfl) (pms 71 rfl rfl) (by decide +kernel) rfl, ?_⟩
  refine ⟨sn_iret rfl (by decide +kernel), ?_⟩
  refine ⟨sn_aload_n (k := 0) (by decide +kernel) rfl rfl, ?_⟩
  refine ⟨sn_aload_n (k := 0) (by decide +kernel) rfl rfl, ?_⟩
  refine ⟨sn_getf (C := RX12) (T := TX12) (N := 56) (idx := 25) rfl pin12 (by decide) (by decide) rfl (pmt6 147 rfl rfl) rfl (by decide +kernel) rfl, ?_⟩
  refine ⟨sn_callV (idx := 272) (C := RX12) (T := TX12) (N := 56) rfl (by decide) cal_211 (pmt8 12 rfl rfl) (pmt8 14 rfl rfl) (pms 72 rfl rfl) (by decide +kernel) rfl, ?_⟩
  refine ⟨sn_iret rfl (by decide +kernel), ?_⟩
  refine ⟨sn_aload_n (k := 0) (by decide +kernel) rfl rfl, ?_⟩
  refine ⟨sn_getf (C := RX12) (T := TX12) (N := 56) (idx := 186) rfl pin12 (by decide) (by decide) rfl (pmt6 173 rfl rfl) rfl (by decide +kernel) rfl, ?_⟩
  refine ⟨sn_iret rfl (by decide +kernel), ?_⟩
  refine ⟨sn_aload_n (k := 0) (by decide +kernel) rfl rfl, ?_⟩
  refine ⟨sn_getf (C := RX12) (T := TX12) (N := 56) (idx := 110) rfl pin12 (by decide) (by decide) rfl (pmt6 156 rfl rfl) rfl (by decide +kernel) rfl, ?_⟩
  refine ⟨sn_iret rfl (by decide +kernel), ?_⟩
  refine ⟨sn_aload_n (k := 0) (by decide +kernel) rfl rfl, ?_⟩
  refine ⟨sn_getf (C := RX12) (T := TX12) (N := 56) (idx := 123) rfl pin12 (by decide) (by decide) rfl (pmt6 154 rfl rfl) rfl (by decide +kernel) rfl, ?_⟩
  refine ⟨sn_iret rfl (by decide +kernel), ?_⟩
  refine ⟨sn_aload_n (k := 0) (by decide +kernel) rfl rfl, ?_⟩
  refine ⟨sn_getf (C := RX12) (T := TX12) (N := 56) (idx := 31) rfl pin12 (by decide) (by decide) rfl (pmt6 152 rfl rfl) rfl (by decide +kernel) rfl, ?_⟩
  refine ⟨sn_iret rfl (by decide +kernel), ?_⟩
  refine ⟨sn_iconst (by decide +kernel) rfl, ?_⟩
  refine ⟨sn_iret rfl (by decide +kernel), ?_⟩
  trivial
set_option maxRecDepth 100000 in
set_option maxHeartbeats 4000000 in
theorem S_269 : pAll (pSk RX12 cX12_row 2 (some .int) PC_269) 0 C_269 := by
  refine ⟨sn_aload_n (k := 0) (by decide +kernel) rfl rfl, ?_⟩
  refine ⟨sn_iconst (by decide +kernel) rfl, ?_⟩
  refine ⟨sn_puti (C := RX12) (T := TX12) (N := 56) (idx := 107) rfl pin12 (by decide) (by decide) rfl tyX12 tyX12_ok nmX12 rfl rfl (by decide +kernel) (pmt6 157 rfl rfl) rfl (by decide +kernel) rfl, ?_⟩
  refine ⟨sn_iload_n (k := 1) (by decide +kernel) rfl rfl, ?_⟩
  refine ⟨sn_iconst (by decide +kernel) rfl, ?_⟩
  refine ⟨sn_aload_n (k := 0) (by decide +kernel) rfl rfl, ?_⟩
  refine ⟨sn_getf (C := RX12) (T := TX12) (N := 56) (idx := 110) rfl pin12 (by decide) (by decide) rfl (pmt6 156 rfl rfl) rfl (by decide +kernel) rfl, ?_⟩
  refine ⟨sn_iconst (by decide +kernel) rfl, ?_⟩
  refine ⟨sn_isub (by decide +kernel) rfl, ?_⟩
  refine ⟨sn_callS (idx := 116) cal_169 (pmt7 81 rfl rfl) (pmt7 82 rfl rfl) (by decide +kernel) rfl, ?_⟩
  refine ⟨sn_if_eq (off := 12) (by decide +kernel) (by decide +kernel) rfl, ?_⟩
  refine ⟨sn_aload_n (k := 0) (by decide +kernel) rfl rfl, ?_⟩
  refine ⟨sn_getf (C := RX12) (T := TX12) (N := 56) (idx := 39) rfl pin12 (by decide) (by decide) rfl (pmt6 155 rfl rfl) rfl (by decide +kernel) rfl, ?_⟩
  refine ⟨sn_iload_n (k := 1) (by decide +kernel) rfl rfl, ?_⟩
  refine ⟨sn_iald (by decide +kernel) rfl, ?_⟩
  refine ⟨sn_goto (off := 7) (by decide +kernel) (by decide +kernel), ?_⟩
  refine ⟨sn_aload_n (k := 0) (by decide +kernel) rfl rfl, ?_⟩
  refine ⟨sn_callV (idx := 242) (C := RX12) (T := TX12) (N := 56) rfl (by decide) cal_171 (pmt7 172 rfl rfl) (pmt7 174 rfl rfl) (pms 61 rfl rfl) (by decide +kernel) rfl, ?_⟩
  refine ⟨sn_iret rfl (by decide +kernel), ?_⟩
  trivial
set_option maxRecDepth 100000 in
set_option maxHeartbeats 4000000 in
theorem S_270 : pAll (pSk RJ6 cJ6_bitCount_0f7a4 1 (some .int) PC_270) 0 C_270 := by
  refine ⟨sn_iload_n (k := 0) (by decide +kernel) rfl rfl, ?_⟩
  refine ⟨sn_iload_n (k := 0) (by decide +kernel) rfl rfl, ?_⟩
  refine ⟨sn_iconst (by decide +kernel) rfl, ?_⟩
  refine ⟨sn_iushr (by decide +kernel) rfl, ?_⟩
  refine ⟨sn_ldcw (idx := 265) (by decide +kernel) (pmt4 238 rfl rfl) rfl, ?_⟩
  refine ⟨sn_iand (by decide +kernel) rfl, ?_⟩
  refine ⟨sn_isub (by decide +kernel) rfl, ?_⟩
  refine ⟨sn_istore_n (k := 0) (by decide +kernel) rfl (by decide) rfl, ?_⟩
  refine ⟨sn_iload_n (k := 0) (by decide +kernel) rfl rfl, ?_⟩
  refine ⟨sn_ldcw (idx := 266) (by decide +kernel) (pmt4 239 rfl rfl) rfl, ?_⟩
  refine ⟨sn_iand (by decide +kernel) rfl, ?_⟩
  refine ⟨sn_iload_n (k := 0) (by decide +kernel) rfl rfl, ?_⟩
  refine ⟨sn_iconst (by decide +kernel) rfl, ?_⟩
  refine ⟨sn_iushr (by decide +kernel) rfl, ?_⟩
  refine ⟨sn_ldcw (idx := 266) (by decide +kernel) (pmt4 239 rfl rfl) rfl, ?_⟩
  refine ⟨sn_iand (by decide +kernel) rfl, ?_⟩
  refine ⟨sn_iadd (by decide +kernel) rfl, ?_⟩
  refine ⟨sn_istore_n (k := 0) (by decide +kernel) rfl (by decide) rfl, ?_⟩
  refine ⟨sn_iload_n (k := 0) (by decide +kernel) rfl rfl, ?_⟩
  refine ⟨sn_iload_n (k := 0) (by decide +kernel) rfl rfl, ?_⟩
  refine ⟨sn_iconst (by decide +kernel) rfl, ?_⟩
  refine ⟨sn_iushr (by decide +kernel) rfl, ?_⟩
  refine ⟨sn_iadd (by decide +kernel) rfl, ?_⟩
  refine ⟨sn_ldcw (idx := 267) (by decide +kernel) (pmt5 0 rfl rfl) rfl, ?_⟩
  refine ⟨sn_iand (by decide +kernel) rfl, ?_⟩
  refine ⟨sn_istore_n (k := 0) (by decide +kernel) rfl (by decide) rfl, ?_⟩
  refine ⟨sn_iload_n (k := 0) (by decide +kernel) rfl rfl, ?_⟩
  refine ⟨sn_iload_n (k := 0) (by decide +kernel) rfl rfl, ?_⟩
  refine ⟨sn_bipush (by decide +kernel) (by decide +kernel) rfl, ?_⟩
  refine ⟨sn_iushr (by decide +kernel) rfl, ?_⟩
  refine ⟨sn_iadd (by decide +kernel) rfl, ?_⟩
  refine ⟨sn_istore_n (k := 0) (by decide +kernel) rfl (by decide) rfl, ?_⟩
  refine ⟨sn_iload_n (k := 0) (by decide +kernel) rfl rfl, ?_⟩
  refine ⟨sn_iload_n (k := 0) (by decide +kernel) rfl rfl, ?_⟩
  refine ⟨sn_bipush (by decide +kernel) (by decide +kernel) rfl, ?_⟩
  refine ⟨sn_iushr (by decide +kernel) rfl, ?_⟩
  refine ⟨sn_iadd (by decide +kernel) rfl, ?_⟩
  refine ⟨sn_istore_n (k := 0) (by decide +kernel) rfl (by decide) rfl, ?_⟩
  refine ⟨sn_iload_n (k := 0) (by decide +kernel) rfl rfl, ?_⟩
  refine ⟨sn_bipush (by decide +kernel) (by decide +kernel) rfl, ?_⟩
  refine ⟨sn_iand (by decide +kernel) rfl, ?_⟩
  refine ⟨sn_iret rfl (by decide +kernel), ?_⟩
  trivial
set_option maxRecDepth 100000 in
set_option maxHeartbeats 4000000 in
theorem S_271 : pAll (pSk RJ6 cJ6_numberOfTrailingZeros_0f7a4 2 (some .int) PC_271) 0 C_271 := by
  refine ⟨sn_iload_n (k := 0) (by decide +kernel) rfl rfl, ?_⟩
  refine ⟨sn_iconst (by decide +kernel) rfl, ?_⟩
  refine ⟨sn_ixor (by decide +kernel) rfl, ?_⟩
  refine ⟨sn_iload_n (k := 0) (by decide +kernel) rfl rfl, ?_⟩
  refine ⟨sn_iconst (by decide +kernel) rfl, ?_⟩
  refine ⟨sn_isub (by decide +kernel) rfl, ?_⟩
  refine ⟨sn_iand (by decide +kernel) rfl, ?_⟩
  refine ⟨sn_istore_n (k := 0) (by decide +kernel) rfl (by decide) rfl, ?_⟩
  refine ⟨sn_iload_n (k := 0) (by decide +kernel) rfl rfl, ?_⟩
  refine ⟨sn_if_gt (off := 8) (by decide +kernel) (by decide +kernel) rfl, ?_⟩
  refine ⟨sn_iload_n (k := 0) (by decide +kernel) rfl rfl, ?_⟩
  refine ⟨sn_bipush (by decide +kernel) (by decide +kernel) rfl, ?_⟩
  refine ⟨sn_iand (by decide +kernel) rfl, ?_⟩
  refine ⟨sn_iret rfl (by decide +kernel), ?_⟩
  refine ⟨sn_iconst (by decide +kernel) rfl, ?_⟩
  refine ⟨sn_istore_n (k := 1) (by decide +kernel) rfl (by decide) rfl, ?_⟩
  refine ⟨sn_iload_n (k := 0) (by decide +kernel) rfl rfl, ?_⟩
  refine ⟨sn_ldcw (idx := 264) (by decide +kernel) (pmt5 67 rfl rfl) rfl, ?_⟩
  refine ⟨sn_icmp_le (off := 11) (by decide +kernel) (by decide +kernel) rfl, ?_⟩
  refine ⟨sn_iinc (by decide +kernel) (by decide) rfl, ?_⟩
  refine ⟨sn_iload_n (k := 0) (by decide +kernel) rfl rfl, ?_⟩
  refine ⟨sn_bipush (by decide +kernel) (by decide +kernel) rfl, ?_⟩
  refine ⟨sn_iushr (by decide +kernel) rfl, ?_⟩
  refine ⟨sn_istore_n (k := 0) (by decide +kernel) rfl (by decide) rfl, ?_⟩
  refine ⟨sn_iload_n (k := 0) (by decide +kernel) rfl rfl, ?_⟩
  refine ⟨sn_sipush (by decide +kernel) (by decide +kernel) rfl, ?_⟩
  refine ⟨sn_icmp_le (off := 11) (by decide +kernel) (by decide +kernel) rfl, ?_⟩
  refine ⟨sn_iinc (by decide +kernel) (by decide) rfl, ?_⟩
  refine ⟨sn_iload_n (k := 0) (by decide +kernel) rfl rfl, ?_⟩
  refine ⟨sn_bipush (by decide +kernel) (by decide +kernel) rfl, ?_⟩
  refine ⟨sn_iushr (by decide +kernel) rfl, ?_⟩
  refine ⟨sn_istore_n (k := 0) (by decide +kernel) rfl (by decide) rfl, ?_⟩
  refine ⟨sn_iload_n (k := 0) (by decide +kernel) rfl rfl, ?_⟩
  refine ⟨sn_bipush (by decide +kernel) (by decide +kernel) rfl, ?_⟩
  refine ⟨sn_icmp_le (off := 10) (by decide +kernel) (by decide +kernel) rfl, ?_⟩
  refine ⟨sn_iinc (by decide +kernel) (by decide) rfl, ?_⟩
  refine ⟨sn_iload_n (k := 0) (by decide +kernel) rfl rfl, ?_⟩
  refine ⟨sn_iconst (by decide +kernel) rfl, ?_⟩
  refine ⟨sn_iushr (by decide +kernel) rfl, ?_⟩
  refine ⟨sn_istore_n (k := 0) (by decide +kernel) rfl (by decide) rfl, ?_⟩
  refine ⟨sn_iload_n (k := 0) (by decide +kernel) rfl rfl, ?_⟩
  refine ⟨sn_iconst (by decide +kernel) rfl, ?_⟩
  refine ⟨sn_icmp_le (off := 10) (by decide +kernel) (by decide +kernel) rfl, ?_⟩
  refine ⟨sn_iinc (by decide +kernel) (by decide) rfl, ?_⟩
  refine ⟨sn_iload_n (k := 0) (by decide +kernel) rfl rfl, ?_⟩
  refine ⟨sn_iconst (by decide +kernel) rfl, ?_⟩
  refine ⟨sn_iushr (by decide +kernel) rfl, ?_⟩
  refine ⟨sn_istore_n (k := 0) (by decide +kernel) rfl (by decide) rfl, ?_⟩
  refine ⟨sn_iload_n (k := 1) (by decide +kernel) rfl rfl, ?_⟩
  refine ⟨sn_iload_n (k := 0) (by decide +kernel) rfl rfl, ?_⟩
  refine ⟨sn_iconst (by decide +kernel) rfl, ?_⟩
  refine ⟨sn_iushr (by decide +kernel) rfl, ?_⟩
  refine ⟨sn_iadd (by decide +kernel) rfl, ?_⟩
  refine ⟨sn_iret rfl (by decide +kernel), ?_⟩
  trivial
