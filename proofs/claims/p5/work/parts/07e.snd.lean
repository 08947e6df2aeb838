/-! each step is sound (by program) -/
set_option maxRecDepth 100000 in
set_option maxHeartbeats 4000000 in
theorem S_268 : pAll (pSk RX12 cX12_count 4 (some .int) PC_268) 0 C_268 := by
  refine ⟨sn_aload_n (k := 0) (dX_aload_0 (by decide +kernel)) rfl (by decide +kernel), ?_⟩
  refine ⟨sn_iconst (dX_iconst_0 (by decide +kernel)) (by decide +kernel), ?_⟩
  refine ⟨sn_puti (C := RX12) (T := TX12) (N := 56) (idx := 107) rfl pin12 (by decide) (by decide) rfl tyX12 tyX12_ok nmX12 rfl rfl (by decide +kernel) (pmt6 157 rfl (by decide +kernel)) rfl (dX_putfield (by decide +kernel)) (by decide +kernel), ?_⟩
  refine ⟨sn_iconst (dX_iconst_0 (by decide +kernel)) (by decide +kernel), ?_⟩
  refine ⟨sn_istore_n (k := 2) (dX_istore_2 (by decide +kernel)) rfl (by decide) (by decide +kernel), ?_⟩
  refine ⟨sn_iload_n (k := 1) (dX_iload_1 (by decide +kernel)) rfl (by decide +kernel), ?_⟩
  refine ⟨sn_sw (dflt := 158) (lo := 0) (hi := 11) (offs := #[64, 69, 74, 79, 110, 115, 120, 129, 138, 143, 148, 153]) (len := 64) (by decide +kernel) (by decide) (by decide +kernel) (p_sw_all (by decide +kernel)) (by decide +kernel), ?_⟩
  refine ⟨sn_aload_n (k := 0) (dX_aload_0 (by decide +kernel)) rfl (by decide +kernel), ?_⟩
  refine ⟨sn_getf (C := RX12) (T := TX12) (N := 56) (idx := 113) rfl pin12 (by decide) (by decide) rfl (pmt6 140 rfl (by decide +kernel)) rfl (dX_getfield (by decide +kernel)) (by decide +kernel), ?_⟩
  refine ⟨sn_iret rfl (dX_ireturn (by decide +kernel)), ?_⟩
  refine ⟨sn_aload_n (k := 0) (dX_aload_0 (by decide +kernel)) rfl (by decide +kernel), ?_⟩
  refine ⟨sn_getf (C := RX12) (T := TX12) (N := 56) (idx := 120) rfl pin12 (by decide) (by decide) rfl (pmt6 143 rfl (by decide +kernel)) rfl (dX_getfield (by decide +kernel)) (by decide +kernel), ?_⟩
  refine ⟨sn_iret rfl (dX_ireturn (by decide +kernel)), ?_⟩
  refine ⟨sn_aload_n (k := 0) (dX_aload_0 (by decide +kernel)) rfl (by decide +kernel), ?_⟩
  refine ⟨sn_getf (C := RX12) (T := TX12) (N := 56) (idx := 161) rfl pin12 (by decide) (by decide) rfl (pmt6 148 rfl (by decide +kernel)) rfl (dX_getfield (by decide +kernel)) (by decide +kernel), ?_⟩
  refine ⟨sn_iret rfl (dX_ireturn (by decide +kernel)), ?_⟩
  refine ⟨sn_iconst (dX_iconst_0 (by decide +kernel)) (by decide +kernel), ?_⟩
  refine ⟨sn_istore_n (k := 3) (dX_istore_3 (by decide +kernel)) rfl (by decide) (by decide +kernel), ?_⟩
  refine ⟨sn_iload_n (k := 3) (dX_iload_3 (by decide +kernel)) rfl (by decide +kernel), ?_⟩
  refine ⟨sn_aload_n (k := 0) (dX_aload_0 (by decide +kernel)) rfl (by decide +kernel), ?_⟩
  refine ⟨sn_getf (C := RX12) (T := TX12) (N := 56) (idx := 113) rfl pin12 (by decide) (by decide) rfl (pmt6 140 rfl (by decide +kernel)) rfl (dX_getfield (by decide +kernel)) (by decide +kernel), ?_⟩
  refine ⟨sn_icmp_ge (off := 22) (dX_if_icmpge (by decide +kernel)) (by decide +kernel) (by decide +kernel), ?_⟩
  refine ⟨sn_iload_n (k := 2) (dX_iload_2 (by decide +kernel)) rfl (by decide +kernel), ?_⟩
  refine ⟨sn_aload_n (k := 0) (dX_aload_0 (by decide +kernel)) rfl (by decide +kernel), ?_⟩
  refine ⟨sn_iload_n (k := 3) (dX_iload_3 (by decide +kernel)) rfl (by decide +kernel), ?_⟩
  refine ⟨sn_callV (idx := 216) (C := RX12) (T := TX12) (N := 56) rfl (by decide) cal_197 (pmt7 156 rfl (by decide +kernel)) (pmt7 158 rfl (by decide +kernel)) (pms 59 rfl rfl) (dX_invokevirtual (by decide +kernel)) (by decide +kernel), ?_⟩
  refine ⟨sn_iload_n (k := 3) (dX_iload_3 (by decide +kernel)) rfl (by decide +kernel), ?_⟩
  refine ⟨sn_ishr (dX_ishr (by decide +kernel)) (by decide +kernel), ?_⟩
  refine ⟨sn_callS (idx := 211) cal_270 (pmt7 155 rfl (by decide +kernel)) (pmt4 236 rfl (by decide +kernel)) (dX_invokestatic (by decide +kernel)) (by decide +kernel), ?_⟩
  refine ⟨sn_iadd (dX_iadd (by decide +kernel)) (by decide +kernel), ?_⟩
  refine ⟨sn_istore_n (k := 2) (dX_istore_2 (by decide +kernel)) rfl (by decide) (by decide +kernel), ?_⟩
  refine ⟨sn_iinc (dX_iinc (by decide +kernel)) (by decide) (by decide +kernel), ?_⟩
  refine ⟨sn_goto (off := -24) (dX_goto (by decide +kernel)) (by decide +kernel), ?_⟩
  refine ⟨sn_iload_n (k := 2) (dX_iload_2 (by decide +kernel)) rfl (by decide +kernel), ?_⟩
  refine ⟨sn_iret rfl (dX_ireturn (by decide +kernel)), ?_⟩
  refine ⟨sn_aload_n (k := 0) (dX_aload_0 (by decide +kernel)) rfl (by decide +kernel), ?_⟩
  refine ⟨sn_getf (C := RX12) (T := TX12) (N := 56) (idx := 291) rfl pin12 (by decide) (by decide) rfl (pmt6 150 rfl (by decide +kernel)) rfl (dX_getfield (by decide +kernel)) (by decide +kernel), ?_⟩
  refine ⟨sn_iret rfl (dX_ireturn (by decide +kernel)), ?_⟩
  refine ⟨sn_aload_n (k := 0) (dX_aload_0 (by decide +kernel)) rfl (by decide +kernel), ?_⟩
  refine ⟨sn_getf (C := RX12) (T := TX12) (N := 56) (idx := 275) rfl pin12 (by decide) (by decide) rfl (pmt6 151 rfl (by decide +kernel)) rfl (dX_getfield (by decide +kernel)) (by decide +kernel), ?_⟩
  refine ⟨sn_iret rfl (dX_ireturn (by decide +kernel)), ?_⟩
  refine ⟨sn_aload_n (k := 0) (dX_aload_0 (by decide +kernel)) rfl (by decide +kernel), ?_⟩
  refine ⟨sn_aload_n (k := 0) (dX_aload_0 (by decide +kernel)) rfl (by decide +kernel), ?_⟩
  refine ⟨sn_getf (C := RX12) (T := TX12) (N := 56) (idx := 25) rfl pin12 (by decide) (by decide) rfl (pmt6 147 rfl (by decide +kernel)) rfl (dX_getfield (by decide +kernel)) (by decide +kernel), ?_⟩
  refine ⟨sn_callV (idx := 268) (C := RX12) (T := TX12) (N := 56) rfl (by decide) cal_210 (pmt8 3 rfl (by decide +kernel)) (pmt8 5 rfl (by decide +kernel)) (pms 71 rfl rfl) (dX_invokevirtual (by decide +kernel)) (by decide +kernel), ?_⟩
  refine ⟨sn_iret rfl (dX_ireturn (by decide +kernel)), ?_⟩
  refine ⟨sn_aload_n (k := 0) (dX_aload_0 (by decide +kernel)) rfl (by decide +kernel), ?_⟩
  refine ⟨sn_aload_n (k := 0) (dX_aload_0 (by decide +kernel)) rfl (by decide +kernel), ?_⟩
  refine ⟨sn_getf (C := RX12) (T := TX12) (N := 56) (idx := 25) rfl pin12 (by decide) (by decide) rfl (pmt6 147 rfl (by decide +kernel)) rfl (dX_getfield (by decide +kernel)) (by decide +kernel), ?_⟩
  refine ⟨sn_callV (idx := 272) (C := RX12) (T := TX12) (N := 56) rfl (by decide) cal_211 (pmt8 8 rfl (by decide +kernel)) (pmt8 10 rfl (by decide +kernel)) (pms 72 rfl rfl) (dX_invokevirtual (by decide +kernel)) (by decide +kernel), ?_⟩
  refine ⟨sn_iret rfl (dX_ireturn (by decide +kernel)), ?_⟩
  refine ⟨sn_aload_n (k := 0) (dX_aload_0 (by decide +kernel)) rfl (by decide +kernel), ?_⟩
  refine ⟨sn_getf (C := RX12) (T := TX12) (N := 56) (idx := 186) rfl pin12 (by decide) (by decide) rfl (pmt6 173 rfl (by decide +kernel)) rfl (dX_getfield (by decide +kernel)) (by decide +kernel), ?_⟩
  refine ⟨sn_iret rfl (dX_ireturn (by decide +kernel)), ?_⟩
  refine ⟨sn_aload_n (k := 0) (dX_aload_0 (by decide +kernel)) rfl (by decide +kernel), ?_⟩
  refine ⟨sn_getf (C := RX12) (T := TX12) (N := 56) (idx := 110) rfl pin12 (by decide) (by decide) rfl (pmt6 156 rfl (by decide +kernel)) rfl (dX_getfield (by decide +kernel)) (by decide +kernel), ?_⟩
  refine ⟨sn_iret rfl (dX_ireturn (by decide +kernel)), ?_⟩
  refine ⟨sn_aload_n (k := 0) (dX_aload_0 (by decide +kernel)) rfl (by decide +kernel), ?_⟩
  refine ⟨sn_getf (C := RX12) (T := TX12) (N := 56) (idx := 123) rfl pin12 (by decide) (by decide) rfl (pmt6 154 rfl (by decide +kernel)) rfl (dX_getfield (by decide +kernel)) (by decide +kernel), ?_⟩
  refine ⟨sn_iret rfl (dX_ireturn (by decide +kernel)), ?_⟩
  refine ⟨sn_aload_n (k := 0) (dX_aload_0 (by decide +kernel)) rfl (by decide +kernel), ?_⟩
  refine ⟨sn_getf (C := RX12) (T := TX12) (N := 56) (idx := 31) rfl pin12 (by decide) (by decide) rfl (pmt6 152 rfl (by decide +kernel)) rfl (dX_getfield (by decide +kernel)) (by decide +kernel), ?_⟩
  refine ⟨sn_iret rfl (dX_ireturn (by decide +kernel)), ?_⟩
  refine ⟨sn_iconst (dX_iconst_m1 (by decide +kernel)) (by decide +kernel), ?_⟩
  refine ⟨sn_iret rfl (dX_ireturn (by decide +kernel)), ?_⟩
  trivial
set_option maxRecDepth 100000 in
set_option maxHeartbeats 4000000 in
theorem S_269 : pAll (pSk RX12 cX12_row 2 (some .int) PC_269) 0 C_269 := by
  refine ⟨sn_aload_n (k := 0) (dX_aload_0 (by decide +kernel)) rfl (by decide +kernel), ?_⟩
  refine ⟨sn_iconst (dX_iconst_0 (by decide +kernel)) (by decide +kernel), ?_⟩
  refine ⟨sn_puti (C := RX12) (T := TX12) (N := 56) (idx := 107) rfl pin12 (by decide) (by decide) rfl tyX12 tyX12_ok nmX12 rfl rfl (by decide +kernel) (pmt6 157 rfl (by decide +kernel)) rfl (dX_putfield (by decide +kernel)) (by decide +kernel), ?_⟩
  refine ⟨sn_iload_n (k := 1) (dX_iload_1 (by decide +kernel)) rfl (by decide +kernel), ?_⟩
  refine ⟨sn_iconst (dX_iconst_0 (by decide +kernel)) (by decide +kernel), ?_⟩
  refine ⟨sn_aload_n (k := 0) (dX_aload_0 (by decide +kernel)) rfl (by decide +kernel), ?_⟩
  refine ⟨sn_getf (C := RX12) (T := TX12) (N := 56) (idx := 110) rfl pin12 (by decide) (by decide) rfl (pmt6 156 rfl (by decide +kernel)) rfl (dX_getfield (by decide +kernel)) (by decide +kernel), ?_⟩
  refine ⟨sn_iconst (dX_iconst_1 (by decide +kernel)) (by decide +kernel), ?_⟩
  refine ⟨sn_isub (dX_isub (by decide +kernel)) (by decide +kernel), ?_⟩
  refine ⟨sn_callS (idx := 116) cal_169 (pmt7 77 rfl (by decide +kernel)) (pmt7 78 rfl (by decide +kernel)) (dX_invokestatic (by decide +kernel)) (by decide +kernel), ?_⟩
  refine ⟨sn_if_eq (off := 12) (dX_ifeq (by decide +kernel)) (by decide +kernel) (by decide +kernel), ?_⟩
  refine ⟨sn_aload_n (k := 0) (dX_aload_0 (by decide +kernel)) rfl (by decide +kernel), ?_⟩
  refine ⟨sn_getf (C := RX12) (T := TX12) (N := 56) (idx := 39) rfl pin12 (by decide) (by decide) rfl (pmt6 155 rfl (by decide +kernel)) rfl (dX_getfield (by decide +kernel)) (by decide +kernel), ?_⟩
  refine ⟨sn_iload_n (k := 1) (dX_iload_1 (by decide +kernel)) rfl (by decide +kernel), ?_⟩
  refine ⟨sn_iald (dX_iaload (by decide +kernel)) (by decide +kernel), ?_⟩
  refine ⟨sn_goto (off := 7) (dX_goto (by decide +kernel)) (by decide +kernel), ?_⟩
  refine ⟨sn_aload_n (k := 0) (dX_aload_0 (by decide +kernel)) rfl (by decide +kernel), ?_⟩
  refine ⟨sn_callV (idx := 242) (C := RX12) (T := TX12) (N := 56) rfl (by decide) cal_171 (pmt7 168 rfl (by decide +kernel)) (pmt7 170 rfl (by decide +kernel)) (pms 61 rfl rfl) (dX_invokevirtual (by decide +kernel)) (by decide +kernel), ?_⟩
  refine ⟨sn_iret rfl (dX_ireturn (by decide +kernel)), ?_⟩
  trivial
set_option maxRecDepth 100000 in
set_option maxHeartbeats 4000000 in
theorem S_270 : pAll (pSk RJ6 cJ6_bitCount_0f7a4 1 (some .int) PC_270) 0 C_270 := by
  refine ⟨sn_iload_n (k := 0) (dX_iload_0 (by decide +kernel)) rfl (by decide +kernel), ?_⟩
  refine ⟨sn_iload_n (k := 0) (dX_iload_0 (by decide +kernel)) rfl (by decide +kernel), ?_⟩
  refine ⟨sn_iconst (dX_iconst_1 (by decide +kernel)) (by decide +kernel), ?_⟩
  refine ⟨sn_iushr (dX_iushr (by decide +kernel)) (by decide +kernel), ?_⟩
  refine ⟨sn_ldcw (idx := 265) (dX_ldc_w (by decide +kernel)) (pmt4 238 rfl (by decide +kernel)) (by decide +kernel), ?_⟩
  refine ⟨sn_iand (dX_iand (by decide +kernel)) (by decide +kernel), ?_⟩
  refine ⟨sn_isub (dX_isub (by decide +kernel)) (by decide +kernel), ?_⟩
  refine ⟨sn_istore_n (k := 0) (dX_istore_0 (by decide +kernel)) rfl (by decide) (by decide +kernel), ?_⟩
  refine ⟨sn_iload_n (k := 0) (dX_iload_0 (by decide +kernel)) rfl (by decide +kernel), ?_⟩
  refine ⟨sn_ldcw (idx := 266) (dX_ldc_w (by decide +kernel)) (pmt4 239 rfl (by decide +kernel)) (by decide +kernel), ?_⟩
  refine ⟨sn_iand (dX_iand (by decide +kernel)) (by decide +kernel), ?_⟩
  refine ⟨sn_iload_n (k := 0) (dX_iload_0 (by decide +kernel)) rfl (by decide +kernel), ?_⟩
  refine ⟨sn_iconst (dX_iconst_2 (by decide +kernel)) (by decide +kernel), ?_⟩
  refine ⟨sn_iushr (dX_iushr (by decide +kernel)) (by decide +kernel), ?_⟩
  refine ⟨sn_ldcw (idx := 266) (dX_ldc_w (by decide +kernel)) (pmt4 239 rfl (by decide +kernel)) (by decide +kernel), ?_⟩
  refine ⟨sn_iand (dX_iand (by decide +kernel)) (by decide +kernel), ?_⟩
  refine ⟨sn_iadd (dX_iadd (by decide +kernel)) (by decide +kernel), ?_⟩
  refine ⟨sn_istore_n (k := 0) (dX_istore_0 (by decide +kernel)) rfl (by decide) (by decide +kernel), ?_⟩
  refine ⟨sn_iload_n (k := 0) (dX_iload_0 (by decide +kernel)) rfl (by decide +kernel), ?_⟩
  refine ⟨sn_iload_n (k := 0) (dX_iload_0 (by decide +kernel)) rfl (by decide +kernel), ?_⟩
  refine ⟨sn_iconst (dX_iconst_4 (by decide +kernel)) (by decide +kernel), ?_⟩
  refine ⟨sn_iushr (dX_iushr (by decide +kernel)) (by decide +kernel), ?_⟩
  refine ⟨sn_iadd (dX_iadd (by decide +kernel)) (by decide +kernel), ?_⟩
  refine ⟨sn_ldcw (idx := 267) (dX_ldc_w (by decide +kernel)) (pmt5 0 rfl (by decide +kernel)) (by decide +kernel), ?_⟩
  refine ⟨sn_iand (dX_iand (by decide +kernel)) (by decide +kernel), ?_⟩
  refine ⟨sn_istore_n (k := 0) (dX_istore_0 (by decide +kernel)) rfl (by decide) (by decide +kernel), ?_⟩
  refine ⟨sn_iload_n (k := 0) (dX_iload_0 (by decide +kernel)) rfl (by decide +kernel), ?_⟩
  refine ⟨sn_iload_n (k := 0) (dX_iload_0 (by decide +kernel)) rfl (by decide +kernel), ?_⟩
  refine ⟨sn_bipush (dX_bipush (by decide +kernel)) (by decide +kernel) (by decide +kernel), ?_⟩
  refine ⟨sn_iushr (dX_iushr (by decide +kernel)) (by decide +kernel), ?_⟩
  refine ⟨sn_iadd (dX_iadd (by decide +kernel)) (by decide +kernel), ?_⟩
  refine ⟨sn_istore_n (k := 0) (dX_istore_0 (by decide +kernel)) rfl (by decide) (by decide +kernel), ?_⟩
  refine ⟨sn_iload_n (k := 0) (dX_iload_0 (by decide +kernel)) rfl (by decide +kernel), ?_⟩
  refine ⟨sn_iload_n (k := 0) (dX_iload_0 (by decide +kernel)) rfl (by decide +kernel), ?_⟩
  refine ⟨sn_bipush (dX_bipush (by decide +kernel)) (by decide +kernel) (by decide +kernel), ?_⟩
  refine ⟨sn_iushr (dX_iushr (by decide +kernel)) (by decide +kernel), ?_⟩
  refine ⟨sn_iadd (dX_iadd (by decide +kernel)) (by decide +kernel), ?_⟩
  refine ⟨sn_istore_n (k := 0) (dX_istore_0 (by decide +kernel)) rfl (by decide) (by decide +kernel), ?_⟩
  refine ⟨sn_iload_n (k := 0) (dX_iload_0 (by decide +kernel)) rfl (by decide +kernel), ?_⟩
  refine ⟨sn_bipush (dX_bipush (by decide +kernel)) (by decide +kernel) (by decide +kernel), ?_⟩
  refine ⟨sn_iand (dX_iand (by decide +kernel)) (by decide +kernel), ?_⟩
  refine ⟨sn_iret rfl (dX_ireturn (by decide +kernel)), ?_⟩
  trivial
set_option maxRecDepth 100000 in
set_option maxHeartbeats 4000000 in
theorem S_271 : pAll (pSk RJ6 cJ6_numberOfTrailingZeros_0f7a4 2 (some .int) PC_271) 0 C_271 := by
  refine ⟨sn_iload_n (k := 0) (dX_iload_0 (by decide +kernel)) rfl (by decide +kernel), ?_⟩
  refine ⟨sn_iconst (dX_iconst_m1 (by decide +kernel)) (by decide +kernel), ?_⟩
  refine ⟨sn_ixor (dX_ixor (by decide +kernel)) (by decide +kernel), ?_⟩
  refine ⟨sn_iload_n (k := 0) (dX_iload_0 (by decide +kernel)) rfl (by decide +kernel), ?_⟩
  refine ⟨sn_iconst (dX_iconst_1 (by decide +kernel)) (by decide +kernel), ?_⟩
  refine ⟨sn_isub (dX_isub (by decide +kernel)) (by decide +kernel), ?_⟩
  refine ⟨sn_iand (dX_iand (by decide +kernel)) (by decide +kernel), ?_⟩
  refine ⟨sn_istore_n (k := 0) (dX_istore_0 (by decide +kernel)) rfl (by decide) (by decide +kernel), ?_⟩
  refine ⟨sn_iload_n (k := 0) (dX_iload_0 (by decide +kernel)) rfl (by decide +kernel), ?_⟩
  refine ⟨sn_if_gt (off := 8) (dX_ifgt (by decide +kernel)) (by decide +kernel) (by decide +kernel), ?_⟩
  refine ⟨sn_iload_n (k := 0) (dX_iload_0 (by decide +kernel)) rfl (by decide +kernel), ?_⟩
  refine ⟨sn_bipush (dX_bipush (by decide +kernel)) (by decide +kernel) (by decide +kernel), ?_⟩
  refine ⟨sn_iand (dX_iand (by decide +kernel)) (by decide +kernel), ?_⟩
  refine ⟨sn_iret rfl (dX_ireturn (by decide +kernel)), ?_⟩
  refine ⟨sn_iconst (dX_iconst_1 (by decide +kernel)) (by decide +kernel), ?_⟩
  refine ⟨sn_istore_n (k := 1) (dX_istore_1 (by decide +kernel)) rfl (by decide) (by decide +kernel), ?_⟩
  refine ⟨sn_iload_n (k := 0) (dX_iload_0 (by decide +kernel)) rfl (by decide +kernel), ?_⟩
  refine ⟨sn_ldcw (idx := 264) (dX_ldc_w (by decide +kernel)) (pmt5 67 rfl (by decide +kernel)) (by decide +kernel), ?_⟩
  refine ⟨sn_icmp_le (off := 11) (dX_if_icmple (by decide +kernel)) (by decide +kernel) (by decide +kernel), ?_⟩
  refine ⟨sn_iinc (dX_iinc (by decide +kernel)) (by decide) (by decide +kernel), ?_⟩
  refine ⟨sn_iload_n (k := 0) (dX_iload_0 (by decide +kernel)) rfl (by decide +kernel), ?_⟩
  refine ⟨sn_bipush (dX_bipush (by decide +kernel)) (by decide +kernel) (by decide +kernel), ?_⟩
  refine ⟨sn_iushr (dX_iushr (by decide +kernel)) (by decide +kernel), ?_⟩
  refine ⟨sn_istore_n (k := 0) (dX_istore_0 (by decide +kernel)) rfl (by decide) (by decide +kernel), ?_⟩
  refine ⟨sn_iload_n (k := 0) (dX_iload_0 (by decide +kernel)) rfl (by decide +kernel), ?_⟩
  refine ⟨sn_sipush (dX_sipush (by decide +kernel)) (by decide +kernel) (by decide +kernel), ?_⟩
  refine ⟨sn_icmp_le (off := 11) (dX_if_icmple (by decide +kernel)) (by decide +kernel) (by decide +kernel), ?_⟩
  refine ⟨sn_iinc (dX_iinc (by decide +kernel)) (by decide) (by decide +kernel), ?_⟩
  refine ⟨sn_iload_n (k := 0) (dX_iload_0 (by decide +kernel)) rfl (by decide +kernel), ?_⟩
  refine ⟨sn_bipush (dX_bipush (by decide +kernel)) (by decide +kernel) (by decide +kernel), ?_⟩
  refine ⟨sn_iushr (dX_iushr (by decide +kernel)) (by decide +kernel), ?_⟩
  refine ⟨sn_istore_n (k := 0) (dX_istore_0 (by decide +kernel)) rfl (by decide) (by decide +kernel), ?_⟩
  refine ⟨sn_iload_n (k := 0) (dX_iload_0 (by decide +kernel)) rfl (by decide +kernel), ?_⟩
  refine ⟨sn_bipush (dX_bipush (by decide +kernel)) (by decide +kernel) (by decide +kernel), ?_⟩
  refine ⟨sn_icmp_le (off := 10) (dX_if_icmple (by decide +kernel)) (by decide +kernel) (by decide +kernel), ?_⟩
  refine ⟨sn_iinc (dX_iinc (by decide +kernel)) (by decide) (by decide +kernel), ?_⟩
  refine ⟨sn_iload_n (k := 0) (dX_iload_0 (by decide +kernel)) rfl (by decide +kernel), ?_⟩
  refine ⟨sn_iconst (dX_iconst_4 (by decide +kernel)) (by decide +kernel), ?_⟩
  refine ⟨sn_iushr (dX_iushr (by decide +kernel)) (by decide +kernel), ?_⟩
  refine ⟨sn_istore_n (k := 0) (dX_istore_0 (by decide +kernel)) rfl (by decide) (by decide +kernel), ?_⟩
  refine ⟨sn_iload_n (k := 0) (dX_iload_0 (by decide +kernel)) rfl (by decide +kernel), ?_⟩
  refine ⟨sn_iconst (dX_iconst_4 (by decide +kernel)) (by decide +kernel), ?_⟩
  refine ⟨sn_icmp_le (off := 10) (dX_if_icmple (by decide +kernel)) (by decide +kernel) (by decide +kernel), ?_⟩
  refine ⟨sn_iinc (dX_iinc (by decide +kernel)) (by decide) (by decide +kernel), ?_⟩
  refine ⟨sn_iload_n (k := 0) (dX_iload_0 (by decide +kernel)) rfl (by decide +kernel), ?_⟩
  refine ⟨sn_iconst (dX_iconst_2 (by decide +kernel)) (by decide +kernel), ?_⟩
  refine ⟨sn_iushr (dX_iushr (by decide +kernel)) (by decide +kernel), ?_⟩
  refine ⟨sn_istore_n (k := 0) (dX_istore_0 (by decide +kernel)) rfl (by decide) (by decide +kernel), ?_⟩
  refine ⟨sn_iload_n (k := 1) (dX_iload_1 (by decide +kernel)) rfl (by decide +kernel), ?_⟩
  refine ⟨sn_iload_n (k := 0) (dX_iload_0 (by decide +kernel)) rfl (by decide +kernel), ?_⟩
  refine ⟨sn_iconst (dX_iconst_1 (by decide +kernel)) (by decide +kernel), ?_⟩
  refine ⟨sn_iushr (dX_iushr (by decide +kernel)) (by decide +kernel), ?_⟩
  refine ⟨sn_iadd (dX_iadd (by decide +kernel)) (by decide +kernel), ?_⟩
  refine ⟨sn_iret rfl (dX_ireturn (by decide +kernel)), ?_⟩
  trivial
set_option maxRecDepth 100000 in
set_option maxHeartbeats 4000000 in
theorem S_272 : pAll (pSk RJ0 cJ0_indexOf_0f7a4 2 (some .int) PC_272) 0 C_272 := by
  refine ⟨sn_aload_n (k := 0) (dX_aload_0 (by decide +kernel)) rfl (by decide +kernel), ?_⟩
  refine ⟨sn_iload_n (k := 1) (dX_iload_1 (by decide +kernel)) rfl (by decide +kernel), ?_⟩
  refine ⟨sn_iconst (dX_iconst_0 (by decide +kernel)) (by decide +kernel), ?_⟩
  refine ⟨sn_callW (idx := 633) cal_273 (pmt3 129 rfl (by decide +kernel)) (pmt3 130 rfl (by decide +kernel)) (pmt3 131 rfl (by decide +kernel)) (dX_invokevirtual (by decide +kernel)) (by decide +kernel), ?_⟩
  refine ⟨sn_iret rfl (dX_ireturn (by decide +kernel)), ?_⟩
  trivial
set_option maxRecDepth 100000 in
set_option maxHeartbeats 4000000 in
theorem S_273 : pAll (pSk RJ0 cJ0_indexOf_7cf53 3 (some .int) PC_273) 0 C_273 := by
  refine ⟨sn_aload_n (k := 0) (dX_aload_0 (by decide +kernel)) rfl (by decide +kernel), ?_⟩
  refine ⟨sn_callW (idx := 492) cal_274 (pmt3 133 rfl (by decide +kernel)) (pmt3 134 rfl (by decide +kernel)) (pmt3 135 rfl (by decide +kernel)) (dX_invokevirtual (by decide +kernel)) (by decide +kernel), ?_⟩
  refine ⟨sn_if_eq (off := 19) (dX_ifeq (by decide +kernel)) (by decide +kernel) (by decide +kernel), ?_⟩
  refine ⟨sn_aload_n (k := 0) (dX_aload_0 (by decide +kernel)) rfl (by decide +kernel), ?_⟩
  refine ⟨sn_sval (pmt9 15 rfl (by decide +kernel)) (dX_getfield (by decide +kernel)) (by decide +kernel), ?_⟩
  refine ⟨sn_iload_n (k := 1) (dX_iload_1 (by decide +kernel)) rfl (by decide +kernel), ?_⟩
  refine ⟨sn_iload_n (k := 2) (dX_iload_2 (by decide +kernel)) rfl (by decide +kernel), ?_⟩
  refine ⟨sn_aload_n (k := 0) (dX_aload_0 (by decide +kernel)) rfl (by decide +kernel), ?_⟩
  refine ⟨sn_callW (idx := 505) cal_275 (pmt3 139 rfl (by decide +kernel)) (pmt3 140 rfl (by decide +kernel)) (pmt3 141 rfl (by decide +kernel)) (dX_invokevirtual (by decide +kernel)) (by decide +kernel), ?_⟩
  refine ⟨sn_callS (idx := 637) cal_277 (pmt3 147 rfl (by decide +kernel)) (pmt3 148 rfl (by decide +kernel)) (dX_invokestatic (by decide +kernel)) (by decide +kernel), ?_⟩
  refine ⟨sn_goto (off := 16) (dX_goto (by decide +kernel)) (by decide +kernel), ?_⟩
  refine ⟨sn_aload_n (k := 0) (dX_aload_0 (by decide +kernel)) rfl (by decide +kernel), ?_⟩
  refine ⟨sn_sval (pmt9 15 rfl (by decide +kernel)) (dX_getfield (by decide +kernel)) (by decide +kernel), ?_⟩
  refine ⟨sn_iload_n (k := 1) (dX_iload_1 (by decide +kernel)) rfl (by decide +kernel), ?_⟩
  refine ⟨sn_iload_n (k := 2) (dX_iload_2 (by decide +kernel)) rfl (by decide +kernel), ?_⟩
  refine ⟨sn_aload_n (k := 0) (dX_aload_0 (by decide +kernel)) rfl (by decide +kernel), ?_⟩
  refine ⟨sn_callW (idx := 505) cal_275 (pmt3 139 rfl (by decide +kernel)) (pmt3 140 rfl (by decide +kernel)) (pmt3 141 rfl (by decide +kernel)) (dX_invokevirtual (by decide +kernel)) (by decide +kernel), ?_⟩
  refine ⟨sn_none, ?_⟩
  refine ⟨sn_iret rfl (dX_ireturn (by decide +kernel)), ?_⟩
  trivial
set_option maxRecDepth 100000 in
set_option maxHeartbeats 4000000 in
theorem S_274 : pAll (pSk RJ0 cJ0_isLatin1_aae02 1 (some .boolean) PC_274) 0 C_274 := by
  refine ⟨sn_sget (pmt3 137 rfl (by decide +kernel)) (dX_getstatic (by decide +kernel)) (by decide +kernel), ?_⟩
  refine ⟨sn_if_eq (off := 14) (dX_ifeq (by decide +kernel)) (by decide +kernel) (by decide +kernel), ?_⟩
  refine ⟨sn_aload_n (k := 0) (dX_aload_0 (by decide +kernel)) rfl (by decide +kernel), ?_⟩
  refine ⟨sn_scod (pmt9 14 rfl (by decide +kernel)) (dX_getfield (by decide +kernel)) (by decide +kernel), ?_⟩
  refine ⟨sn_if_ne (off := 7) (dX_ifne (by decide +kernel)) (by decide +kernel) (by decide +kernel), ?_⟩
  refine ⟨sn_iconst (dX_iconst_1 (by decide +kernel)) (by decide +kernel), ?_⟩
  refine ⟨sn_goto (off := 4) (dX_goto (by decide +kernel)) (by decide +kernel), ?_⟩
  refine ⟨sn_iconst (dX_iconst_0 (by decide +kernel)) (by decide +kernel), ?_⟩
  refine ⟨sn_zret (Or.inl rfl) (dX_ireturn (by decide +kernel)), ?_⟩
  trivial
set_option maxRecDepth 100000 in
set_option maxHeartbeats 4000000 in
theorem S_275 : pAll (pSk RJ0 cJ0_length_8abf5 1 (some .int) PC_275) 0 C_275 := by
  refine ⟨sn_aload_n (k := 0) (dX_aload_0 (by decide +kernel)) rfl (by decide +kernel), ?_⟩
  refine ⟨sn_sval (pmt9 15 rfl (by decide +kernel)) (dX_getfield (by decide +kernel)) (by decide +kernel), ?_⟩
  refine ⟨sn_slen (dX_arraylength (by decide +kernel)) (by decide +kernel), ?_⟩
  refine ⟨sn_aload_n (k := 0) (dX_aload_0 (by decide +kernel)) rfl (by decide +kernel), ?_⟩
  refine ⟨sn_callW (idx := 335) cal_276 (pmt3 143 rfl (by decide +kernel)) (pmt3 144 rfl (by decide +kernel)) (pmt3 145 rfl (by decide +kernel)) (dX_invokevirtual (by decide +kernel)) (by decide +kernel), ?_⟩
  refine ⟨sn_ishr (dX_ishr (by decide +kernel)) (by decide +kernel), ?_⟩
  refine ⟨sn_iret rfl (dX_ireturn (by decide +kernel)), ?_⟩
  trivial
set_option maxRecDepth 100000 in
set_option maxHeartbeats 4000000 in
theorem S_276 : pAll (pSk RJ0 cJ0_coder_7d493 1 (some .byte) PC_276) 0 C_276 := by
  refine ⟨sn_sget (pmt3 137 rfl (by decide +kernel)) (dX_getstatic (by decide +kernel)) (by decide +kernel), ?_⟩
  refine ⟨sn_if_eq (off := 10) (dX_ifeq (by decide +kernel)) (by decide +kernel) (by decide +kernel), ?_⟩
  refine ⟨sn_aload_n (k := 0) (dX_aload_0 (by decide +kernel)) rfl (by decide +kernel), ?_⟩
  refine ⟨sn_scod (pmt9 14 rfl (by decide +kernel)) (dX_getfield (by decide +kernel)) (by decide +kernel), ?_⟩
  refine ⟨sn_goto (off := 4) (dX_goto (by decide +kernel)) (by decide +kernel), ?_⟩
  refine ⟨sn_iconst (dX_iconst_1 (by decide +kernel)) (by decide +kernel), ?_⟩
  refine ⟨sn_zret (Or.inr rfl) (dX_ireturn (by decide +kernel)), ?_⟩
  trivial
set_option maxRecDepth 100000 in
set_option maxHeartbeats 4000000 in
theorem S_277 : pAll (pSk RJ1 cJ1_indexOf_4cfef 4 (some .int) PC_277) 0 C_277 := by
  refine ⟨sn_iload_n (k := 1) (dX_iload_1 (by decide +kernel)) rfl (by decide +kernel), ?_⟩
  refine ⟨sn_callS (idx := 88) cal_278 (pmt3 150 rfl (by decide +kernel)) (pmt3 151 rfl (by decide +kernel)) (dX_invokestatic (by decide +kernel)) (by decide +kernel), ?_⟩
  refine ⟨sn_if_ne (off := 5) (dX_ifne (by decide +kernel)) (by decide +kernel) (by decide +kernel), ?_⟩
  refine ⟨sn_iconst (dX_iconst_m1 (by decide +kernel)) (by decide +kernel), ?_⟩
  refine ⟨sn_iret rfl (dX_ireturn (by decide +kernel)), ?_⟩
  refine ⟨sn_iload_n (k := 2) (dX_iload_2 (by decide +kernel)) rfl (by decide +kernel), ?_⟩
  refine ⟨sn_iconst (dX_iconst_0 (by decide +kernel)) (by decide +kernel), ?_⟩
  refine ⟨sn_mmax (idx := 92) (pmt3 153 rfl (by decide +kernel)) (pmt3 154 rfl (by decide +kernel)) (pmt1 14 rfl (by decide +kernel)) (pmt3 155 rfl (by decide +kernel)) (dX_invokestatic (by decide +kernel)) (by decide +kernel), ?_⟩
  refine ⟨sn_istore_n (k := 2) (dX_istore_2 (by decide +kernel)) rfl (by decide) (by decide +kernel), ?_⟩
  refine ⟨sn_iload_n (k := 3) (dX_iload_3 (by decide +kernel)) rfl (by decide +kernel), ?_⟩
  refine ⟨sn_aload_n (k := 0) (dX_aload_0 (by decide +kernel)) rfl (by decide +kernel), ?_⟩
  refine ⟨sn_slen (dX_arraylength (by decide +kernel)) (by decide +kernel), ?_⟩
  refine ⟨sn_mmin (idx := 38) (pmt3 156 rfl (by decide +kernel)) (pmt2 211 rfl (by decide +kernel)) (pmt1 14 rfl (by decide +kernel)) (pmt2 212 rfl (by decide +kernel)) (dX_invokestatic (by decide +kernel)) (by decide +kernel), ?_⟩
  refine ⟨sn_istore_n (k := 3) (dX_istore_3 (by decide +kernel)) rfl (by decide) (by decide +kernel), ?_⟩
  refine ⟨sn_iload_n (k := 2) (dX_iload_2 (by decide +kernel)) rfl (by decide +kernel), ?_⟩
  refine ⟨sn_iload_n (k := 3) (dX_iload_3 (by decide +kernel)) rfl (by decide +kernel), ?_⟩
  refine ⟨sn_icmp_lt (off := 5) (dX_if_icmplt (by decide +kernel)) (by decide +kernel) (by decide +kernel), ?_⟩
  refine ⟨sn_iconst (dX_iconst_m1 (by decide +kernel)) (by decide +kernel), ?_⟩
  refine ⟨sn_iret rfl (dX_ireturn (by decide +kernel)), ?_⟩
  refine ⟨sn_aload_n (k := 0) (dX_aload_0 (by decide +kernel)) rfl (by decide +kernel), ?_⟩
  refine ⟨sn_iload_n (k := 1) (dX_iload_1 (by decide +kernel)) rfl (by decide +kernel), ?_⟩
  refine ⟨sn_iload_n (k := 2) (dX_iload_2 (by decide +kernel)) rfl (by decide +kernel), ?_⟩
  refine ⟨sn_iload_n (k := 3) (dX_iload_3 (by decide +kernel)) rfl (by decide +kernel), ?_⟩
  refine ⟨sn_callS (idx := 95) cal_279 (pmt3 157 rfl (by decide +kernel)) (pmt3 158 rfl (by decide +kernel)) (dX_invokestatic (by decide +kernel)) (by decide +kernel), ?_⟩
  refine ⟨sn_iret rfl (dX_ireturn (by decide +kernel)), ?_⟩
  trivial
set_option maxRecDepth 100000 in
set_option maxHeartbeats 4000000 in
theorem S_278 : pAll (pSk RJ1 cJ1_canEncode_9a6ad 1 (some .boolean) PC_278) 0 C_278 := by
  refine ⟨sn_iload_n (k := 0) (dX_iload_0 (by decide +kernel)) rfl (by decide +kernel), ?_⟩
  refine ⟨sn_if_lt (off := 14) (dX_iflt (by decide +kernel)) (by decide +kernel) (by decide +kernel), ?_⟩
  refine ⟨sn_iload_n (k := 0) (dX_iload_0 (by decide +kernel)) rfl (by decide +kernel), ?_⟩
  refine ⟨sn_sipush (dX_sipush (by decide +kernel)) (by decide +kernel) (by decide +kernel), ?_⟩
  refine ⟨sn_icmp_gt (off := 7) (dX_if_icmpgt (by decide +kernel)) (by decide +kernel) (by decide +kernel), ?_⟩
  refine ⟨sn_iconst (dX_iconst_1 (by decide +kernel)) (by decide +kernel), ?_⟩
  refine ⟨sn_goto (off := 4) (dX_goto (by decide +kernel)) (by decide +kernel), ?_⟩
  refine ⟨sn_iconst (dX_iconst_0 (by decide +kernel)) (by decide +kernel), ?_⟩
  refine ⟨sn_zret (Or.inl rfl) (dX_ireturn (by decide +kernel)), ?_⟩
  trivial
set_option maxRecDepth 100000 in
set_option maxHeartbeats 4000000 in
theorem S_279 : pAll (pSk RJ1 cJ1_indexOfChar_4cfef 6 (some .int) PC_279) 0 C_279 := by
  refine ⟨sn_iload_n (k := 1) (dX_iload_1 (by decide +kernel)) rfl (by decide +kernel), ?_⟩
  refine ⟨sn_i2b (dX_i2b (by decide +kernel)) (by decide +kernel), ?_⟩
  refine ⟨sn_istore (dX_istore (by decide +kernel)) (by decide) (by decide +kernel), ?_⟩
  refine ⟨sn_iload_n (k := 2) (dX_iload_2 (by decide +kernel)) rfl (by decide +kernel), ?_⟩
  refine ⟨sn_istore (dX_istore (by decide +kernel)) (by decide) (by decide +kernel), ?_⟩
  refine ⟨sn_iload (dX_iload (by decide +kernel)) (by decide +kernel), ?_⟩
  refine ⟨sn_iload_n (k := 3) (dX_iload_3 (by decide +kernel)) rfl (by decide +kernel), ?_⟩
  refine ⟨sn_icmp_ge (off := 21) (dX_if_icmpge (by decide +kernel)) (by decide +kernel) (by decide +kernel), ?_⟩
  refine ⟨sn_aload_n (k := 0) (dX_aload_0 (by decide +kernel)) rfl (by decide +kernel), ?_⟩
  refine ⟨sn_iload (dX_iload (by decide +kernel)) (by decide +kernel), ?_⟩
  refine ⟨sn_sbld (dX_baload (by decide +kernel)) (by decide +kernel), ?_⟩
  refine ⟨sn_iload (dX_iload (by decide +kernel)) (by decide +kernel), ?_⟩
  refine ⟨sn_icmp_ne (off := 6) (dX_if_icmpne (by decide +kernel)) (by decide +kernel) (by decide +kernel), ?_⟩
  refine ⟨sn_iload (dX_iload (by decide +kernel)) (by decide +kernel), ?_⟩
  refine ⟨sn_iret rfl (dX_ireturn (by decide +kernel)), ?_⟩
  refine ⟨sn_iinc (dX_iinc (by decide +kernel)) (by decide) (by decide +kernel), ?_⟩
  refine ⟨sn_goto (off := -21) (dX_goto (by decide +kernel)) (by decide +kernel), ?_⟩
  refine ⟨sn_iconst (dX_iconst_m1 (by decide +kernel)) (by decide +kernel), ?_⟩
  refine ⟨sn_iret rfl (dX_ireturn (by decide +kernel)), ?_⟩
  trivial
