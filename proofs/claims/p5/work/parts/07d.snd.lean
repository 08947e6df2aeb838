/-! each step is sound (by program) -/
set_option maxRecDepth 100000 in
set_option maxHeartbeats 4000000 in
theorem S_220 : pAll (pSk RX12 cX12_undo 1 (some .int) PC_220) 0 C_220 := by
  refine ⟨sn_aload_n (k := 0) (dX_aload_0 (by decide +kernel)) rfl (by decide +kernel), ?_⟩
  refine ⟨sn_iconst (dX_iconst_0 (by decide +kernel)) (by decide +kernel), ?_⟩
  refine ⟨sn_puti (C := RX12) (T := TX12) (N := 56) (idx := 107) rfl pin12 (by decide) (by decide) rfl tyX12 tyX12_ok nmX12 rfl rfl (by decide +kernel) (pmt6 157 rfl (by decide +kernel)) rfl (dX_putfield (by decide +kernel)) (by decide +kernel), ?_⟩
  refine ⟨sn_aload_n (k := 0) (dX_aload_0 (by decide +kernel)) rfl (by decide +kernel), ?_⟩
  refine ⟨sn_getf (C := RX12) (T := TX12) (N := 56) (idx := 186) rfl pin12 (by decide) (by decide) rfl (pmt6 173 rfl (by decide +kernel)) rfl (dX_getfield (by decide +kernel)) (by decide +kernel), ?_⟩
  refine ⟨sn_if_ne (off := 5) (dX_ifne (by decide +kernel)) (by decide +kernel) (by decide +kernel), ?_⟩
  refine ⟨sn_iconst (dX_iconst_m1 (by decide +kernel)) (by decide +kernel), ?_⟩
  refine ⟨sn_iret rfl (dX_ireturn (by decide +kernel)), ?_⟩
  refine ⟨sn_aload_n (k := 0) (dX_aload_0 (by decide +kernel)) rfl (by decide +kernel), ?_⟩
  refine ⟨sn_dup (dX_dup (by decide +kernel)) (by decide +kernel), ?_⟩
  refine ⟨sn_getf (C := RX12) (T := TX12) (N := 56) (idx := 186) rfl pin12 (by decide) (by decide) rfl (pmt6 173 rfl (by decide +kernel)) rfl (dX_getfield (by decide +kernel)) (by decide +kernel), ?_⟩
  refine ⟨sn_iconst (dX_iconst_1 (by decide +kernel)) (by decide +kernel), ?_⟩
  refine ⟨sn_isub (dX_isub (by decide +kernel)) (by decide +kernel), ?_⟩
  refine ⟨sn_puti (C := RX12) (T := TX12) (N := 56) (idx := 186) rfl pin12 (by decide) (by decide) rfl tyX12 tyX12_ok nmX12 rfl rfl (by decide +kernel) (pmt6 173 rfl (by decide +kernel)) rfl (dX_putfield (by decide +kernel)) (by decide +kernel), ?_⟩
  refine ⟨sn_aload_n (k := 0) (dX_aload_0 (by decide +kernel)) rfl (by decide +kernel), ?_⟩
  refine ⟨sn_getf (C := RX12) (T := TX12) (N := 56) (idx := 25) rfl pin12 (by decide) (by decide) rfl (pmt6 147 rfl (by decide +kernel)) rfl (dX_getfield (by decide +kernel)) (by decide +kernel), ?_⟩
  refine ⟨sn_aload_n (k := 0) (dX_aload_0 (by decide +kernel)) rfl (by decide +kernel), ?_⟩
  refine ⟨sn_getf (C := RX12) (T := TX12) (N := 56) (idx := 60) rfl pin12 (by decide) (by decide) rfl (pmt6 172 rfl (by decide +kernel)) rfl (dX_getfield (by decide +kernel)) (by decide +kernel), ?_⟩
  refine ⟨sn_iconst (dX_iconst_3 (by decide +kernel)) (by decide +kernel), ?_⟩
  refine ⟨sn_aload_n (k := 0) (dX_aload_0 (by decide +kernel)) rfl (by decide +kernel), ?_⟩
  refine ⟨sn_getf (C := RX12) (T := TX12) (N := 56) (idx := 186) rfl pin12 (by decide) (by decide) rfl (pmt6 173 rfl (by decide +kernel)) rfl (dX_getfield (by decide +kernel)) (by decide +kernel), ?_⟩
  refine ⟨sn_imul (dX_imul (by decide +kernel)) (by decide +kernel), ?_⟩
  refine ⟨sn_iald (dX_iaload (by decide +kernel)) (by decide +kernel), ?_⟩
  refine ⟨sn_aload_n (k := 0) (dX_aload_0 (by decide +kernel)) rfl (by decide +kernel), ?_⟩
  refine ⟨sn_getf (C := RX12) (T := TX12) (N := 56) (idx := 60) rfl pin12 (by decide) (by decide) rfl (pmt6 172 rfl (by decide +kernel)) rfl (dX_getfield (by decide +kernel)) (by decide +kernel), ?_⟩
  refine ⟨sn_iconst (dX_iconst_3 (by decide +kernel)) (by decide +kernel), ?_⟩
  refine ⟨sn_aload_n (k := 0) (dX_aload_0 (by decide +kernel)) rfl (by decide +kernel), ?_⟩
  refine ⟨sn_getf (C := RX12) (T := TX12) (N := 56) (idx := 186) rfl pin12 (by decide) (by decide) rfl (pmt6 173 rfl (by decide +kernel)) rfl (dX_getfield (by decide +kernel)) (by decide +kernel), ?_⟩
  refine ⟨sn_imul (dX_imul (by decide +kernel)) (by decide +kernel), ?_⟩
  refine ⟨sn_iconst (dX_iconst_1 (by decide +kernel)) (by decide +kernel), ?_⟩
  refine ⟨sn_iadd (dX_iadd (by decide +kernel)) (by decide +kernel), ?_⟩
  refine ⟨sn_iald (dX_iaload (by decide +kernel)) (by decide +kernel), ?_⟩
  refine ⟨sn_iast (dX_iastore (by decide +kernel)) (by decide +kernel), ?_⟩
  refine ⟨sn_aload_n (k := 0) (dX_aload_0 (by decide +kernel)) rfl (by decide +kernel), ?_⟩
  refine ⟨sn_aload_n (k := 0) (dX_aload_0 (by decide +kernel)) rfl (by decide +kernel), ?_⟩
  refine ⟨sn_getf (C := RX12) (T := TX12) (N := 56) (idx := 60) rfl pin12 (by decide) (by decide) rfl (pmt6 172 rfl (by decide +kernel)) rfl (dX_getfield (by decide +kernel)) (by decide +kernel), ?_⟩
  refine ⟨sn_iconst (dX_iconst_3 (by decide +kernel)) (by decide +kernel), ?_⟩
  refine ⟨sn_aload_n (k := 0) (dX_aload_0 (by decide +kernel)) rfl (by decide +kernel), ?_⟩
  refine ⟨sn_getf (C := RX12) (T := TX12) (N := 56) (idx := 186) rfl pin12 (by decide) (by decide) rfl (pmt6 173 rfl (by decide +kernel)) rfl (dX_getfield (by decide +kernel)) (by decide +kernel), ?_⟩
  refine ⟨sn_imul (dX_imul (by decide +kernel)) (by decide +kernel), ?_⟩
  refine ⟨sn_iconst (dX_iconst_2 (by decide +kernel)) (by decide +kernel), ?_⟩
  refine ⟨sn_iadd (dX_iadd (by decide +kernel)) (by decide +kernel), ?_⟩
  refine ⟨sn_iald (dX_iaload (by decide +kernel)) (by decide +kernel), ?_⟩
  refine ⟨sn_puti (C := RX12) (T := TX12) (N := 56) (idx := 275) rfl pin12 (by decide) (by decide) rfl tyX12 tyX12_ok nmX12 rfl rfl (by decide +kernel) (pmt6 151 rfl (by decide +kernel)) rfl (dX_putfield (by decide +kernel)) (by decide +kernel), ?_⟩
  refine ⟨sn_aload_n (k := 0) (dX_aload_0 (by decide +kernel)) rfl (by decide +kernel), ?_⟩
  refine ⟨sn_getf (C := RX12) (T := TX12) (N := 56) (idx := 186) rfl pin12 (by decide) (by decide) rfl (pmt6 173 rfl (by decide +kernel)) rfl (dX_getfield (by decide +kernel)) (by decide +kernel), ?_⟩
  refine ⟨sn_iret rfl (dX_ireturn (by decide +kernel)), ?_⟩
  trivial
set_option maxRecDepth 100000 in
set_option maxHeartbeats 4000000 in
theorem S_221 : pAll (pSk RX12 cX12_judge 8 (some .int) PC_221) 0 C_221 := by
  refine ⟨sn_aload_n (k := 0) (dX_aload_0 (by decide +kernel)) rfl (by decide +kernel), ?_⟩
  refine ⟨sn_iconst (dX_iconst_0 (by decide +kernel)) (by decide +kernel), ?_⟩
  refine ⟨sn_puti (C := RX12) (T := TX12) (N := 56) (idx := 107) rfl pin12 (by decide) (by decide) rfl tyX12 tyX12_ok nmX12 rfl rfl (by decide +kernel) (pmt6 157 rfl (by decide +kernel)) rfl (dX_putfield (by decide +kernel)) (by decide +kernel), ?_⟩
  refine ⟨sn_iload_n (k := 1) (dX_iload_1 (by decide +kernel)) rfl (by decide +kernel), ?_⟩
  refine ⟨sn_iconst (dX_iconst_0 (by decide +kernel)) (by decide +kernel), ?_⟩
  refine ⟨sn_iconst (dX_iconst_4 (by decide +kernel)) (by decide +kernel), ?_⟩
  refine ⟨sn_callS (idx := 116) cal_169 (pmt7 77 rfl (by decide +kernel)) (pmt7 78 rfl (by decide +kernel)) (dX_invokestatic (by decide +kernel)) (by decide +kernel), ?_⟩
  refine ⟨sn_if_ne (off := 5) (dX_ifne (by decide +kernel)) (by decide +kernel) (by decide +kernel), ?_⟩
  refine ⟨sn_iconst (dX_iconst_m1 (by decide +kernel)) (by decide +kernel), ?_⟩
  refine ⟨sn_iret rfl (dX_ireturn (by decide +kernel)), ?_⟩
  refine ⟨sn_iconst (dX_iconst_0 (by decide +kernel)) (by decide +kernel), ?_⟩
  refine ⟨sn_istore_n (k := 3) (dX_istore_3 (by decide +kernel)) rfl (by decide) (by decide +kernel), ?_⟩
  refine ⟨sn_iload_n (k := 3) (dX_iload_3 (by decide +kernel)) rfl (by decide +kernel), ?_⟩
  refine ⟨sn_aload_n (k := 0) (dX_aload_0 (by decide +kernel)) rfl (by decide +kernel), ?_⟩
  refine ⟨sn_getf (C := RX12) (T := TX12) (N := 56) (idx := 120) rfl pin12 (by decide) (by decide) rfl (pmt6 143 rfl (by decide +kernel)) rfl (dX_getfield (by decide +kernel)) (by decide +kernel), ?_⟩
  refine ⟨sn_icmp_ge (off := 21) (dX_if_icmpge (by decide +kernel)) (by decide +kernel) (by decide +kernel), ?_⟩
  refine ⟨sn_aload_n (k := 0) (dX_aload_0 (by decide +kernel)) rfl (by decide +kernel), ?_⟩
  refine ⟨sn_getf (C := RX12) (T := TX12) (N := 56) (idx := 66) rfl pin12 (by decide) (by decide) rfl (pmt6 175 rfl (by decide +kernel)) rfl (dX_getfield (by decide +kernel)) (by decide +kernel), ?_⟩
  refine ⟨sn_iload_n (k := 3) (dX_iload_3 (by decide +kernel)) rfl (by decide +kernel), ?_⟩
  refine ⟨sn_aload_n (k := 0) (dX_aload_0 (by decide +kernel)) rfl (by decide +kernel), ?_⟩
  refine ⟨sn_getf (C := RX12) (T := TX12) (N := 56) (idx := 25) rfl pin12 (by decide) (by decide) rfl (pmt6 147 rfl (by decide +kernel)) rfl (dX_getfield (by decide +kernel)) (by decide +kernel), ?_⟩
  refine ⟨sn_iload_n (k := 3) (dX_iload_3 (by decide +kernel)) rfl (by decide +kernel), ?_⟩
  refine ⟨sn_iald (dX_iaload (by decide +kernel)) (by decide +kernel), ?_⟩
  refine ⟨sn_iast (dX_iastore (by decide +kernel)) (by decide +kernel), ?_⟩
  refine ⟨sn_iinc (dX_iinc (by decide +kernel)) (by decide) (by decide +kernel), ?_⟩
  refine ⟨sn_goto (off := -23) (dX_goto (by decide +kernel)) (by decide +kernel), ?_⟩
  refine ⟨sn_aload_n (k := 0) (dX_aload_0 (by decide +kernel)) rfl (by decide +kernel), ?_⟩
  refine ⟨sn_getf (C := RX12) (T := TX12) (N := 56) (idx := 275) rfl pin12 (by decide) (by decide) rfl (pmt6 151 rfl (by decide +kernel)) rfl (dX_getfield (by decide +kernel)) (by decide +kernel), ?_⟩
  refine ⟨sn_istore_n (k := 3) (dX_istore_3 (by decide +kernel)) rfl (by decide) (by decide +kernel), ?_⟩
  refine ⟨sn_bipush (dX_bipush (by decide +kernel)) (by decide +kernel) (by decide +kernel), ?_⟩
  refine ⟨sn_istore (dX_istore (by decide +kernel)) (by decide) (by decide +kernel), ?_⟩
  refine ⟨sn_iconst (dX_iconst_0 (by decide +kernel)) (by decide +kernel), ?_⟩
  refine ⟨sn_istore (dX_istore (by decide +kernel)) (by decide) (by decide +kernel), ?_⟩
  refine ⟨sn_iconst (dX_iconst_0 (by decide +kernel)) (by decide +kernel), ?_⟩
  refine ⟨sn_istore (dX_istore (by decide +kernel)) (by decide) (by decide +kernel), ?_⟩
  refine ⟨sn_iload (dX_iload (by decide +kernel)) (by decide +kernel), ?_⟩
  refine ⟨sn_iload_n (k := 1) (dX_iload_1 (by decide +kernel)) rfl (by decide +kernel), ?_⟩
  refine ⟨sn_icmp_ge (off := 71) (dX_if_icmpge (by decide +kernel)) (by decide +kernel) (by decide +kernel), ?_⟩
  refine ⟨sn_iload (dX_iload (by decide +kernel)) (by decide +kernel), ?_⟩
  refine ⟨sn_bipush (dX_bipush (by decide +kernel)) (by decide +kernel) (by decide +kernel), ?_⟩
  refine ⟨sn_icmp_ne (off := 64) (dX_if_icmpne (by decide +kernel)) (by decide +kernel) (by decide +kernel), ?_⟩
  refine ⟨sn_iload_n (k := 2) (dX_iload_2 (by decide +kernel)) rfl (by decide +kernel), ?_⟩
  refine ⟨sn_bipush (dX_bipush (by decide +kernel)) (by decide +kernel) (by decide +kernel), ?_⟩
  refine ⟨sn_iload (dX_iload (by decide +kernel)) (by decide +kernel), ?_⟩
  refine ⟨sn_imul (dX_imul (by decide +kernel)) (by decide +kernel), ?_⟩
  refine ⟨sn_ishr (dX_ishr (by decide +kernel)) (by decide +kernel), ?_⟩
  refine ⟨sn_bipush (dX_bipush (by decide +kernel)) (by decide +kernel) (by decide +kernel), ?_⟩
  refine ⟨sn_iand (dX_iand (by decide +kernel)) (by decide +kernel), ?_⟩
  refine ⟨sn_istore (dX_istore (by decide +kernel)) (by decide) (by decide +kernel), ?_⟩
  refine ⟨sn_aload_n (k := 0) (dX_aload_0 (by decide +kernel)) rfl (by decide +kernel), ?_⟩
  refine ⟨sn_iload (dX_iload (by decide +kernel)) (by decide +kernel), ?_⟩
  refine ⟨sn_bipush (dX_bipush (by decide +kernel)) (by decide +kernel) (by decide +kernel), ?_⟩
  refine ⟨sn_idiv (dX_idiv (by decide +kernel)) (by decide +kernel), ?_⟩
  refine ⟨sn_iload (dX_iload (by decide +kernel)) (by decide +kernel), ?_⟩
  refine ⟨sn_bipush (dX_bipush (by decide +kernel)) (by decide +kernel) (by decide +kernel), ?_⟩
  refine ⟨sn_irem (dX_irem (by decide +kernel)) (by decide +kernel), ?_⟩
  refine ⟨sn_callV (idx := 278) (C := RX12) (T := TX12) (N := 56) rfl (by decide) cal_213 (pmt7 218 rfl (by decide +kernel)) (pmt7 220 rfl (by decide +kernel)) (pms 66 rfl rfl) (dX_invokevirtual (by decide +kernel)) (by decide +kernel), ?_⟩
  refine ⟨sn_if_ge (off := 10) (dX_ifge (by decide +kernel)) (by decide +kernel) (by decide +kernel), ?_⟩
  refine ⟨sn_iload (dX_iload (by decide +kernel)) (by decide +kernel), ?_⟩
  refine ⟨sn_istore (dX_istore (by decide +kernel)) (by decide) (by decide +kernel), ?_⟩
  refine ⟨sn_goto (off := 22) (dX_goto (by decide +kernel)) (by decide +kernel), ?_⟩
  refine ⟨sn_iload (dX_iload (by decide +kernel)) (by decide +kernel), ?_⟩
  refine ⟨sn_aload_n (k := 0) (dX_aload_0 (by decide +kernel)) rfl (by decide +kernel), ?_⟩
  refine ⟨sn_iload (dX_iload (by decide +kernel)) (by decide +kernel), ?_⟩
  refine ⟨sn_bipush (dX_bipush (by decide +kernel)) (by decide +kernel) (by decide +kernel), ?_⟩
  refine ⟨sn_idiv (dX_idiv (by decide +kernel)) (by decide +kernel), ?_⟩
  refine ⟨sn_iload (dX_iload (by decide +kernel)) (by decide +kernel), ?_⟩
  refine ⟨sn_bipush (dX_bipush (by decide +kernel)) (by decide +kernel) (by decide +kernel), ?_⟩
  refine ⟨sn_irem (dX_irem (by decide +kernel)) (by decide +kernel), ?_⟩
  refine ⟨sn_callV (idx := 284) (C := RX12) (T := TX12) (N := 56) rfl (by decide) cal_214 (pmt7 235 rfl (by decide +kernel)) (pmt7 237 rfl (by decide +kernel)) (pms 70 rfl rfl) (dX_invokevirtual (by decide +kernel)) (by decide +kernel), ?_⟩
  refine ⟨sn_iadd (dX_iadd (by decide +kernel)) (by decide +kernel), ?_⟩
  refine ⟨sn_istore (dX_istore (by decide +kernel)) (by decide) (by decide +kernel), ?_⟩
  refine ⟨sn_iinc (dX_iinc (by decide +kernel)) (by decide) (by decide +kernel), ?_⟩
  refine ⟨sn_goto (off := -71) (dX_goto (by decide +kernel)) (by decide +kernel), ?_⟩
  refine ⟨sn_aload_n (k := 0) (dX_aload_0 (by decide +kernel)) rfl (by decide +kernel), ?_⟩
  refine ⟨sn_aload_n (k := 0) (dX_aload_0 (by decide +kernel)) rfl (by decide +kernel), ?_⟩
  refine ⟨sn_getf (C := RX12) (T := TX12) (N := 56) (idx := 25) rfl pin12 (by decide) (by decide) rfl (pmt6 147 rfl (by decide +kernel)) rfl (dX_getfield (by decide +kernel)) (by decide +kernel), ?_⟩
  refine ⟨sn_callV (idx := 287) (C := RX12) (T := TX12) (N := 56) rfl (by decide) cal_212 (pmt8 20 rfl (by decide +kernel)) (pmt8 22 rfl (by decide +kernel)) (pms 75 rfl rfl) (dX_invokevirtual (by decide +kernel)) (by decide +kernel), ?_⟩
  refine ⟨sn_if_eq (off := 7) (dX_ifeq (by decide +kernel)) (by decide +kernel) (by decide +kernel), ?_⟩
  refine ⟨sn_iconst (dX_iconst_1 (by decide +kernel)) (by decide +kernel), ?_⟩
  refine ⟨sn_goto (off := 4) (dX_goto (by decide +kernel)) (by decide +kernel), ?_⟩
  refine ⟨sn_iconst (dX_iconst_0 (by decide +kernel)) (by decide +kernel), ?_⟩
  refine ⟨sn_istore (dX_istore (by decide +kernel)) (by decide) (by decide +kernel), ?_⟩
  refine ⟨sn_iconst (dX_iconst_0 (by decide +kernel)) (by decide +kernel), ?_⟩
  refine ⟨sn_istore (dX_istore (by decide +kernel)) (by decide) (by decide +kernel), ?_⟩
  refine ⟨sn_iload (dX_iload (by decide +kernel)) (by decide +kernel), ?_⟩
  refine ⟨sn_aload_n (k := 0) (dX_aload_0 (by decide +kernel)) rfl (by decide +kernel), ?_⟩
  refine ⟨sn_getf (C := RX12) (T := TX12) (N := 56) (idx := 120) rfl pin12 (by decide) (by decide) rfl (pmt6 143 rfl (by decide +kernel)) rfl (dX_getfield (by decide +kernel)) (by decide +kernel), ?_⟩
  refine ⟨sn_icmp_ge (off := 23) (dX_if_icmpge (by decide +kernel)) (by decide +kernel) (by decide +kernel), ?_⟩
  refine ⟨sn_aload_n (k := 0) (dX_aload_0 (by decide +kernel)) rfl (by decide +kernel), ?_⟩
  refine ⟨sn_getf (C := RX12) (T := TX12) (N := 56) (idx := 25) rfl pin12 (by decide) (by decide) rfl (pmt6 147 rfl (by decide +kernel)) rfl (dX_getfield (by decide +kernel)) (by decide +kernel), ?_⟩
  refine ⟨sn_iload (dX_iload (by decide +kernel)) (by decide +kernel), ?_⟩
  refine ⟨sn_aload_n (k := 0) (dX_aload_0 (by decide +kernel)) rfl (by decide +kernel), ?_⟩
  refine ⟨sn_getf (C := RX12) (T := TX12) (N := 56) (idx := 66) rfl pin12 (by decide) (by decide) rfl (pmt6 175 rfl (by decide +kernel)) rfl (dX_getfield (by decide +kernel)) (by decide +kernel), ?_⟩
  refine ⟨sn_iload (dX_iload (by decide +kernel)) (by decide +kernel), ?_⟩
  refine ⟨sn_iald (dX_iaload (by decide +kernel)) (by decide +kernel), ?_⟩
  refine ⟨sn_iast (dX_iastore (by decide +kernel)) (by decide +kernel), ?_⟩
  refine ⟨sn_iinc (dX_iinc (by decide +kernel)) (by decide) (by decide +kernel), ?_⟩
  refine ⟨sn_goto (off := -26) (dX_goto (by decide +kernel)) (by decide +kernel), ?_⟩
  refine ⟨sn_aload_n (k := 0) (dX_aload_0 (by decide +kernel)) rfl (by decide +kernel), ?_⟩
  refine ⟨sn_iload_n (k := 3) (dX_iload_3 (by decide +kernel)) rfl (by decide +kernel), ?_⟩
  refine ⟨sn_puti (C := RX12) (T := TX12) (N := 56) (idx := 275) rfl pin12 (by decide) (by decide) rfl tyX12 tyX12_ok nmX12 rfl rfl (by decide +kernel) (pmt6 151 rfl (by decide +kernel)) rfl (dX_putfield (by decide +kernel)) (by decide +kernel), ?_⟩
  refine ⟨sn_aload_n (k := 0) (dX_aload_0 (by decide +kernel)) rfl (by decide +kernel), ?_⟩
  refine ⟨sn_iconst (dX_iconst_0 (by decide +kernel)) (by decide +kernel), ?_⟩
  refine ⟨sn_puti (C := RX12) (T := TX12) (N := 56) (idx := 110) rfl pin12 (by decide) (by decide) rfl tyX12 tyX12_ok nmX12 rfl rfl (by decide +kernel) (pmt6 156 rfl (by decide +kernel)) rfl (dX_putfield (by decide +kernel)) (by decide +kernel), ?_⟩
  refine ⟨sn_aload_n (k := 0) (dX_aload_0 (by decide +kernel)) rfl (by decide +kernel), ?_⟩
  refine ⟨sn_iload (dX_iload (by decide +kernel)) (by decide +kernel), ?_⟩
  refine ⟨sn_callV (idx := 294) (C := RX12) (T := TX12) (N := 56) rfl (by decide) cal_172 (pmt8 12 rfl (by decide +kernel)) (pmt8 14 rfl (by decide +kernel)) (pms 73 rfl rfl) (dX_invokevirtual (by decide +kernel)) (by decide +kernel), ?_⟩
  refine ⟨sn_aload_n (k := 0) (dX_aload_0 (by decide +kernel)) rfl (by decide +kernel), ?_⟩
  refine ⟨sn_iload (dX_iload (by decide +kernel)) (by decide +kernel), ?_⟩
  refine ⟨sn_callV (idx := 294) (C := RX12) (T := TX12) (N := 56) rfl (by decide) cal_172 (pmt8 12 rfl (by decide +kernel)) (pmt8 14 rfl (by decide +kernel)) (pms 73 rfl rfl) (dX_invokevirtual (by decide +kernel)) (by decide +kernel), ?_⟩
  refine ⟨sn_iload (dX_iload (by decide +kernel)) (by decide +kernel), ?_⟩
  refine ⟨sn_iret rfl (dX_ireturn (by decide +kernel)), ?_⟩
  trivial
set_option maxRecDepth 100000 in
set_option maxHeartbeats 4000000 in
theorem S_222 : pAll (pSk RX12 cX12_clumps 2 (some .int) PC_222) 0 C_222 := by
  refine ⟨sn_aload_n (k := 0) (dX_aload_0 (by decide +kernel)) rfl (by decide +kernel), ?_⟩
  refine ⟨sn_iconst (dX_iconst_0 (by decide +kernel)) (by decide +kernel), ?_⟩
  refine ⟨sn_puti (C := RX12) (T := TX12) (N := 56) (idx := 107) rfl pin12 (by decide) (by decide) rfl tyX12 tyX12_ok nmX12 rfl rfl (by decide +kernel) (pmt6 157 rfl (by decide +kernel)) rfl (dX_putfield (by decide +kernel)) (by decide +kernel), ?_⟩
  refine ⟨sn_aload_n (k := 0) (dX_aload_0 (by decide +kernel)) rfl (by decide +kernel), ?_⟩
  refine ⟨sn_iconst (dX_iconst_0 (by decide +kernel)) (by decide +kernel), ?_⟩
  refine ⟨sn_iconst (dX_iconst_0 (by decide +kernel)) (by decide +kernel), ?_⟩
  refine ⟨sn_callV (idx := 255) (C := RX12) (T := TX12) (N := 56) rfl (by decide) cal_200 (pmt7 184 rfl (by decide +kernel)) (pmt7 186 rfl (by decide +kernel)) (pms 64 rfl rfl) (dX_invokevirtual (by decide +kernel)) (by decide +kernel), ?_⟩
  refine ⟨sn_aload_n (k := 0) (dX_aload_0 (by decide +kernel)) rfl (by decide +kernel), ?_⟩
  refine ⟨sn_iconst (dX_iconst_0 (by decide +kernel)) (by decide +kernel), ?_⟩
  refine ⟨sn_puti (C := RX12) (T := TX12) (N := 56) (idx := 110) rfl pin12 (by decide) (by decide) rfl tyX12 tyX12_ok nmX12 rfl rfl (by decide +kernel) (pmt6 156 rfl (by decide +kernel)) rfl (dX_putfield (by decide +kernel)) (by decide +kernel), ?_⟩
  refine ⟨sn_iconst (dX_iconst_0 (by decide +kernel)) (by decide +kernel), ?_⟩
  refine ⟨sn_istore_n (k := 1) (dX_istore_1 (by decide +kernel)) rfl (by decide) (by decide +kernel), ?_⟩
  refine ⟨sn_iload_n (k := 1) (dX_iload_1 (by decide +kernel)) rfl (by decide +kernel), ?_⟩
  refine ⟨sn_aload_n (k := 0) (dX_aload_0 (by decide +kernel)) rfl (by decide +kernel), ?_⟩
  refine ⟨sn_getf (C := RX12) (T := TX12) (N := 56) (idx := 249) rfl pin12 (by decide) (by decide) rfl (pmt6 170 rfl (by decide +kernel)) rfl (dX_getfield (by decide +kernel)) (by decide +kernel), ?_⟩
  refine ⟨sn_icmp_ge (off := 19) (dX_if_icmpge (by decide +kernel)) (by decide +kernel) (by decide +kernel), ?_⟩
  refine ⟨sn_aload_n (k := 0) (dX_aload_0 (by decide +kernel)) rfl (by decide +kernel), ?_⟩
  refine ⟨sn_aload_n (k := 0) (dX_aload_0 (by decide +kernel)) rfl (by decide +kernel), ?_⟩
  refine ⟨sn_getf (C := RX12) (T := TX12) (N := 56) (idx := 54) rfl pin12 (by decide) (by decide) rfl (pmt6 169 rfl (by decide +kernel)) rfl (dX_getfield (by decide +kernel)) (by decide +kernel), ?_⟩
  refine ⟨sn_iload_n (k := 1) (dX_iload_1 (by decide +kernel)) rfl (by decide +kernel), ?_⟩
  refine ⟨sn_iald (dX_iaload (by decide +kernel)) (by decide +kernel), ?_⟩
  refine ⟨sn_callV (idx := 294) (C := RX12) (T := TX12) (N := 56) rfl (by decide) cal_172 (pmt8 12 rfl (by decide +kernel)) (pmt8 14 rfl (by decide +kernel)) (pms 73 rfl rfl) (dX_invokevirtual (by decide +kernel)) (by decide +kernel), ?_⟩
  refine ⟨sn_iinc (dX_iinc (by decide +kernel)) (by decide) (by decide +kernel), ?_⟩
  refine ⟨sn_goto (off := -21) (dX_goto (by decide +kernel)) (by decide +kernel), ?_⟩
  refine ⟨sn_aload_n (k := 0) (dX_aload_0 (by decide +kernel)) rfl (by decide +kernel), ?_⟩
  refine ⟨sn_getf (C := RX12) (T := TX12) (N := 56) (idx := 249) rfl pin12 (by decide) (by decide) rfl (pmt6 170 rfl (by decide +kernel)) rfl (dX_getfield (by decide +kernel)) (by decide +kernel), ?_⟩
  refine ⟨sn_iret rfl (dX_ireturn (by decide +kernel)), ?_⟩
  trivial
set_option maxRecDepth 100000 in
set_option maxHeartbeats 4000000 in
theorem S_223 : pAll (pSk RX12 cX12_bulkOf 4 (some .int) PC_223) 0 C_223 := by
  refine ⟨sn_iconst (dX_iconst_0 (by decide +kernel)) (by decide +kernel), ?_⟩
  refine ⟨sn_istore_n (k := 2) (dX_istore_2 (by decide +kernel)) rfl (by decide) (by decide +kernel), ?_⟩
  refine ⟨sn_iconst (dX_iconst_0 (by decide +kernel)) (by decide +kernel), ?_⟩
  refine ⟨sn_istore_n (k := 3) (dX_istore_3 (by decide +kernel)) rfl (by decide) (by decide +kernel), ?_⟩
  refine ⟨sn_iload_n (k := 3) (dX_iload_3 (by decide +kernel)) rfl (by decide +kernel), ?_⟩
  refine ⟨sn_aload_n (k := 0) (dX_aload_0 (by decide +kernel)) rfl (by decide +kernel), ?_⟩
  refine ⟨sn_getf (C := RX12) (T := TX12) (N := 56) (idx := 120) rfl pin12 (by decide) (by decide) rfl (pmt6 143 rfl (by decide +kernel)) rfl (dX_getfield (by decide +kernel)) (by decide +kernel), ?_⟩
  refine ⟨sn_icmp_ge (off := 30) (dX_if_icmpge (by decide +kernel)) (by decide +kernel) (by decide +kernel), ?_⟩
  refine ⟨sn_iload_n (k := 2) (dX_iload_2 (by decide +kernel)) rfl (by decide +kernel), ?_⟩
  refine ⟨sn_iload_n (k := 1) (dX_iload_1 (by decide +kernel)) rfl (by decide +kernel), ?_⟩
  refine ⟨sn_iload_n (k := 3) (dX_iload_3 (by decide +kernel)) rfl (by decide +kernel), ?_⟩
  refine ⟨sn_callS (idx := 234) cal_170 (pmt7 152 rfl (by decide +kernel)) (pmt7 153 rfl (by decide +kernel)) (dX_invokestatic (by decide +kernel)) (by decide +kernel), ?_⟩
  refine ⟨sn_if_eq (off := 12) (dX_ifeq (by decide +kernel)) (by decide +kernel) (by decide +kernel), ?_⟩
  refine ⟨sn_aload_n (k := 0) (dX_aload_0 (by decide +kernel)) rfl (by decide +kernel), ?_⟩
  refine ⟨sn_getf (C := RX12) (T := TX12) (N := 56) (idx := 16) rfl pin12 (by decide) (by decide) rfl (pmt6 144 rfl (by decide +kernel)) rfl (dX_getfield (by decide +kernel)) (by decide +kernel), ?_⟩
  refine ⟨sn_iload_n (k := 3) (dX_iload_3 (by decide +kernel)) rfl (by decide +kernel), ?_⟩
  refine ⟨sn_iald (dX_iaload (by decide +kernel)) (by decide +kernel), ?_⟩
  refine ⟨sn_goto (off := 4) (dX_goto (by decide +kernel)) (by decide +kernel), ?_⟩
  refine ⟨sn_iconst (dX_iconst_0 (by decide +kernel)) (by decide +kernel), ?_⟩
  refine ⟨sn_iadd (dX_iadd (by decide +kernel)) (by decide +kernel), ?_⟩
  refine ⟨sn_istore_n (k := 2) (dX_istore_2 (by decide +kernel)) rfl (by decide) (by decide +kernel), ?_⟩
  refine ⟨sn_iinc (dX_iinc (by decide +kernel)) (by decide) (by decide +kernel), ?_⟩
  refine ⟨sn_goto (off := -32) (dX_goto (by decide +kernel)) (by decide +kernel), ?_⟩
  refine ⟨sn_iload_n (k := 2) (dX_iload_2 (by decide +kernel)) rfl (by decide +kernel), ?_⟩
  refine ⟨sn_iret rfl (dX_ireturn (by decide +kernel)), ?_⟩
  trivial
set_option maxRecDepth 100000 in
set_option maxHeartbeats 4000000 in
theorem S_224 : pAll (pSk RX12 cX12_heaviest 4 (some .int) PC_224) 0 C_224 := by
  refine ⟨sn_aload_n (k := 0) (dX_aload_0 (by decide +kernel)) rfl (by decide +kernel), ?_⟩
  refine ⟨sn_iconst (dX_iconst_0 (by decide +kernel)) (by decide +kernel), ?_⟩
  refine ⟨sn_puti (C := RX12) (T := TX12) (N := 56) (idx := 107) rfl pin12 (by decide) (by decide) rfl tyX12 tyX12_ok nmX12 rfl rfl (by decide +kernel) (pmt6 157 rfl (by decide +kernel)) rfl (dX_putfield (by decide +kernel)) (by decide +kernel), ?_⟩
  refine ⟨sn_aload_n (k := 0) (dX_aload_0 (by decide +kernel)) rfl (by decide +kernel), ?_⟩
  refine ⟨sn_getf (C := RX12) (T := TX12) (N := 56) (idx := 120) rfl pin12 (by decide) (by decide) rfl (pmt6 143 rfl (by decide +kernel)) rfl (dX_getfield (by decide +kernel)) (by decide +kernel), ?_⟩
  refine ⟨sn_if_ne (off := 6) (dX_ifne (by decide +kernel)) (by decide +kernel) (by decide +kernel), ?_⟩
  refine ⟨sn_bipush (dX_bipush (by decide +kernel)) (by decide +kernel) (by decide +kernel), ?_⟩
  refine ⟨sn_iret rfl (dX_ireturn (by decide +kernel)), ?_⟩
  refine ⟨sn_aload_n (k := 0) (dX_aload_0 (by decide +kernel)) rfl (by decide +kernel), ?_⟩
  refine ⟨sn_iconst (dX_iconst_0 (by decide +kernel)) (by decide +kernel), ?_⟩
  refine ⟨sn_iconst (dX_iconst_0 (by decide +kernel)) (by decide +kernel), ?_⟩
  refine ⟨sn_callV (idx := 255) (C := RX12) (T := TX12) (N := 56) rfl (by decide) cal_200 (pmt7 184 rfl (by decide +kernel)) (pmt7 186 rfl (by decide +kernel)) (pms 64 rfl rfl) (dX_invokevirtual (by decide +kernel)) (by decide +kernel), ?_⟩
  refine ⟨sn_iconst (dX_iconst_0 (by decide +kernel)) (by decide +kernel), ?_⟩
  refine ⟨sn_istore_n (k := 1) (dX_istore_1 (by decide +kernel)) rfl (by decide) (by decide +kernel), ?_⟩
  refine ⟨sn_iconst (dX_iconst_1 (by decide +kernel)) (by decide +kernel), ?_⟩
  refine ⟨sn_istore_n (k := 2) (dX_istore_2 (by decide +kernel)) rfl (by decide) (by decide +kernel), ?_⟩
  refine ⟨sn_iload_n (k := 2) (dX_iload_2 (by decide +kernel)) rfl (by decide +kernel), ?_⟩
  refine ⟨sn_aload_n (k := 0) (dX_aload_0 (by decide +kernel)) rfl (by decide +kernel), ?_⟩
  refine ⟨sn_getf (C := RX12) (T := TX12) (N := 56) (idx := 249) rfl pin12 (by decide) (by decide) rfl (pmt6 170 rfl (by decide +kernel)) rfl (dX_getfield (by decide +kernel)) (by decide +kernel), ?_⟩
  refine ⟨sn_icmp_ge (off := 34) (dX_if_icmpge (by decide +kernel)) (by decide +kernel) (by decide +kernel), ?_⟩
  refine ⟨sn_aload_n (k := 0) (dX_aload_0 (by decide +kernel)) rfl (by decide +kernel), ?_⟩
  refine ⟨sn_aload_n (k := 0) (dX_aload_0 (by decide +kernel)) rfl (by decide +kernel), ?_⟩
  refine ⟨sn_getf (C := RX12) (T := TX12) (N := 56) (idx := 54) rfl pin12 (by decide) (by decide) rfl (pmt6 169 rfl (by decide +kernel)) rfl (dX_getfield (by decide +kernel)) (by decide +kernel), ?_⟩
  refine ⟨sn_iload_n (k := 2) (dX_iload_2 (by decide +kernel)) rfl (by decide +kernel), ?_⟩
  refine ⟨sn_iald (dX_iaload (by decide +kernel)) (by decide +kernel), ?_⟩
  refine ⟨sn_callV (idx := 300) (C := RX12) (T := TX12) (N := 56) rfl (by decide) cal_223 (pmt8 44 rfl (by decide +kernel)) (pmt8 46 rfl (by decide +kernel)) (pms 76 rfl rfl) (dX_invokevirtual (by decide +kernel)) (by decide +kernel), ?_⟩
  refine ⟨sn_aload_n (k := 0) (dX_aload_0 (by decide +kernel)) rfl (by decide +kernel), ?_⟩
  refine ⟨sn_aload_n (k := 0) (dX_aload_0 (by decide +kernel)) rfl (by decide +kernel), ?_⟩
  refine ⟨sn_getf (C := RX12) (T := TX12) (N := 56) (idx := 54) rfl pin12 (by decide) (by decide) rfl (pmt6 169 rfl (by decide +kernel)) rfl (dX_getfield (by decide +kernel)) (by decide +kernel), ?_⟩
  refine ⟨sn_iload_n (k := 1) (dX_iload_1 (by decide +kernel)) rfl (by decide +kernel), ?_⟩
  refine ⟨sn_iald (dX_iaload (by decide +kernel)) (by decide +kernel), ?_⟩
  refine ⟨sn_callV (idx := 300) (C := RX12) (T := TX12) (N := 56) rfl (by decide) cal_223 (pmt8 44 rfl (by decide +kernel)) (pmt8 46 rfl (by decide +kernel)) (pms 76 rfl rfl) (dX_invokevirtual (by decide +kernel)) (by decide +kernel), ?_⟩
  refine ⟨sn_icmp_le (off := 5) (dX_if_icmple (by decide +kernel)) (by decide +kernel) (by decide +kernel), ?_⟩
  refine ⟨sn_iload_n (k := 2) (dX_iload_2 (by decide +kernel)) rfl (by decide +kernel), ?_⟩
  refine ⟨sn_istore_n (k := 1) (dX_istore_1 (by decide +kernel)) rfl (by decide) (by decide +kernel), ?_⟩
  refine ⟨sn_iinc (dX_iinc (by decide +kernel)) (by decide) (by decide +kernel), ?_⟩
  refine ⟨sn_goto (off := -36) (dX_goto (by decide +kernel)) (by decide +kernel), ?_⟩
  refine ⟨sn_iconst (dX_iconst_0 (by decide +kernel)) (by decide +kernel), ?_⟩
  refine ⟨sn_istore_n (k := 2) (dX_istore_2 (by decide +kernel)) rfl (by decide) (by decide +kernel), ?_⟩
  refine ⟨sn_iconst (dX_iconst_0 (by decide +kernel)) (by decide +kernel), ?_⟩
  refine ⟨sn_istore_n (k := 3) (dX_istore_3 (by decide +kernel)) rfl (by decide) (by decide +kernel), ?_⟩
  refine ⟨sn_iload_n (k := 3) (dX_iload_3 (by decide +kernel)) rfl (by decide +kernel), ?_⟩
  refine ⟨sn_aload_n (k := 0) (dX_aload_0 (by decide +kernel)) rfl (by decide +kernel), ?_⟩
  refine ⟨sn_getf (C := RX12) (T := TX12) (N := 56) (idx := 113) rfl pin12 (by decide) (by decide) rfl (pmt6 140 rfl (by decide +kernel)) rfl (dX_getfield (by decide +kernel)) (by decide +kernel), ?_⟩
  refine ⟨sn_icmp_ge (off := 38) (dX_if_icmpge (by decide +kernel)) (by decide +kernel) (by decide +kernel), ?_⟩
  refine ⟨sn_iload_n (k := 2) (dX_iload_2 (by decide +kernel)) rfl (by decide +kernel), ?_⟩
  refine ⟨sn_aload_n (k := 0) (dX_aload_0 (by decide +kernel)) rfl (by decide +kernel), ?_⟩
  refine ⟨sn_getf (C := RX12) (T := TX12) (N := 56) (idx := 9) rfl pin12 (by decide) (by decide) rfl (pmt6 141 rfl (by decide +kernel)) rfl (dX_getfield (by decide +kernel)) (by decide +kernel), ?_⟩
  refine ⟨sn_iload_n (k := 3) (dX_iload_3 (by decide +kernel)) rfl (by decide +kernel), ?_⟩
  refine ⟨sn_iald (dX_iaload (by decide +kernel)) (by decide +kernel), ?_⟩
  refine ⟨sn_aload_n (k := 0) (dX_aload_0 (by decide +kernel)) rfl (by decide +kernel), ?_⟩
  refine ⟨sn_aload_n (k := 0) (dX_aload_0 (by decide +kernel)) rfl (by decide +kernel), ?_⟩
  refine ⟨sn_getf (C := RX12) (T := TX12) (N := 56) (idx := 54) rfl pin12 (by decide) (by decide) rfl (pmt6 169 rfl (by decide +kernel)) rfl (dX_getfield (by decide +kernel)) (by decide +kernel), ?_⟩
  refine ⟨sn_iload_n (k := 1) (dX_iload_1 (by decide +kernel)) rfl (by decide +kernel), ?_⟩
  refine ⟨sn_iald (dX_iaload (by decide +kernel)) (by decide +kernel), ?_⟩
  refine ⟨sn_callV (idx := 300) (C := RX12) (T := TX12) (N := 56) rfl (by decide) cal_223 (pmt8 44 rfl (by decide +kernel)) (pmt8 46 rfl (by decide +kernel)) (pms 76 rfl rfl) (dX_invokevirtual (by decide +kernel)) (by decide +kernel), ?_⟩
  refine ⟨sn_icmp_lt (off := 9) (dX_if_icmplt (by decide +kernel)) (by decide +kernel) (by decide +kernel), ?_⟩
  refine ⟨sn_iconst (dX_iconst_1 (by decide +kernel)) (by decide +kernel), ?_⟩
  refine ⟨sn_iload_n (k := 3) (dX_iload_3 (by decide +kernel)) rfl (by decide +kernel), ?_⟩
  refine ⟨sn_ishl (dX_ishl (by decide +kernel)) (by decide +kernel), ?_⟩
  refine ⟨sn_goto (off := 4) (dX_goto (by decide +kernel)) (by decide +kernel), ?_⟩
  refine ⟨sn_iconst (dX_iconst_0 (by decide +kernel)) (by decide +kernel), ?_⟩
  refine ⟨sn_ior (dX_ior (by decide +kernel)) (by decide +kernel), ?_⟩
  refine ⟨sn_istore_n (k := 2) (dX_istore_2 (by decide +kernel)) rfl (by decide) (by decide +kernel), ?_⟩
  refine ⟨sn_iinc (dX_iinc (by decide +kernel)) (by decide) (by decide +kernel), ?_⟩
  refine ⟨sn_goto (off := -40) (dX_goto (by decide +kernel)) (by decide +kernel), ?_⟩
  refine ⟨sn_aload_n (k := 0) (dX_aload_0 (by decide +kernel)) rfl (by decide +kernel), ?_⟩
  refine ⟨sn_iconst (dX_iconst_0 (by decide +kernel)) (by decide +kernel), ?_⟩
  refine ⟨sn_puti (C := RX12) (T := TX12) (N := 56) (idx := 110) rfl pin12 (by decide) (by decide) rfl tyX12 tyX12_ok nmX12 rfl rfl (by decide +kernel) (pmt6 156 rfl (by decide +kernel)) rfl (dX_putfield (by decide +kernel)) (by decide +kernel), ?_⟩
  refine ⟨sn_aload_n (k := 0) (dX_aload_0 (by decide +kernel)) rfl (by decide +kernel), ?_⟩
  refine ⟨sn_aload_n (k := 0) (dX_aload_0 (by decide +kernel)) rfl (by decide +kernel), ?_⟩
  refine ⟨sn_aload_n (k := 0) (dX_aload_0 (by decide +kernel)) rfl (by decide +kernel), ?_⟩
  refine ⟨sn_getf (C := RX12) (T := TX12) (N := 56) (idx := 54) rfl pin12 (by decide) (by decide) rfl (pmt6 169 rfl (by decide +kernel)) rfl (dX_getfield (by decide +kernel)) (by decide +kernel), ?_⟩
  refine ⟨sn_iload_n (k := 1) (dX_iload_1 (by decide +kernel)) rfl (by decide +kernel), ?_⟩
  refine ⟨sn_iald (dX_iaload (by decide +kernel)) (by decide +kernel), ?_⟩
  refine ⟨sn_callV (idx := 300) (C := RX12) (T := TX12) (N := 56) rfl (by decide) cal_223 (pmt8 44 rfl (by decide +kernel)) (pmt8 46 rfl (by decide +kernel)) (pms 76 rfl rfl) (dX_invokevirtual (by decide +kernel)) (by decide +kernel), ?_⟩
  refine ⟨sn_callV (idx := 294) (C := RX12) (T := TX12) (N := 56) rfl (by decide) cal_172 (pmt8 12 rfl (by decide +kernel)) (pmt8 14 rfl (by decide +kernel)) (pms 73 rfl rfl) (dX_invokevirtual (by decide +kernel)) (by decide +kernel), ?_⟩
  refine ⟨sn_aload_n (k := 0) (dX_aload_0 (by decide +kernel)) rfl (by decide +kernel), ?_⟩
  refine ⟨sn_iload_n (k := 2) (dX_iload_2 (by decide +kernel)) rfl (by decide +kernel), ?_⟩
  refine ⟨sn_callV (idx := 294) (C := RX12) (T := TX12) (N := 56) rfl (by decide) cal_172 (pmt8 12 rfl (by decide +kernel)) (pmt8 14 rfl (by decide +kernel)) (pms 73 rfl rfl) (dX_invokevirtual (by decide +kernel)) (by decide +kernel), ?_⟩
  refine ⟨sn_iload_n (k := 1) (dX_iload_1 (by decide +kernel)) rfl (by decide +kernel), ?_⟩
  refine ⟨sn_iret rfl (dX_ireturn (by decide +kernel)), ?_⟩
  trivial
set_option maxRecDepth 100000 in
set_option maxHeartbeats 4000000 in
theorem S_225 : pAll (pSk RX12 cX12_without 4 (some .int) PC_225) 0 C_225 := by
  refine ⟨sn_aload_n (k := 0) (dX_aload_0 (by decide +kernel)) rfl (by decide +kernel), ?_⟩
  refine ⟨sn_iconst (dX_iconst_0 (by decide +kernel)) (by decide +kernel), ?_⟩
  refine ⟨sn_puti (C := RX12) (T := TX12) (N := 56) (idx := 107) rfl pin12 (by decide) (by decide) rfl tyX12 tyX12_ok nmX12 rfl rfl (by decide +kernel) (pmt6 157 rfl (by decide +kernel)) rfl (dX_putfield (by decide +kernel)) (by decide +kernel), ?_⟩
  refine ⟨sn_aload_n (k := 0) (dX_aload_0 (by decide +kernel)) rfl (by decide +kernel), ?_⟩
  refine ⟨sn_iload_n (k := 1) (dX_iload_1 (by decide +kernel)) rfl (by decide +kernel), ?_⟩
  refine ⟨sn_callV (idx := 252) (C := RX12) (T := TX12) (N := 56) rfl (by decide) cal_174 (pmt7 180 rfl (by decide +kernel)) (pmt7 182 rfl (by decide +kernel)) (pms 63 rfl rfl) (dX_invokevirtual (by decide +kernel)) (by decide +kernel), ?_⟩
  refine ⟨sn_if_ne (off := 5) (dX_ifne (by decide +kernel)) (by decide +kernel) (by decide +kernel), ?_⟩
  refine ⟨sn_iconst (dX_iconst_m1 (by decide +kernel)) (by decide +kernel), ?_⟩
  refine ⟨sn_iret rfl (dX_ireturn (by decide +kernel)), ?_⟩
  refine ⟨sn_aload_n (k := 0) (dX_aload_0 (by decide +kernel)) rfl (by decide +kernel), ?_⟩
  refine ⟨sn_iconst (dX_iconst_0 (by decide +kernel)) (by decide +kernel), ?_⟩
  refine ⟨sn_iconst (dX_iconst_1 (by decide +kernel)) (by decide +kernel), ?_⟩
  refine ⟨sn_iload_n (k := 1) (dX_iload_1 (by decide +kernel)) rfl (by decide +kernel), ?_⟩
  refine ⟨sn_ishl (dX_ishl (by decide +kernel)) (by decide +kernel), ?_⟩
  refine ⟨sn_callV (idx := 255) (C := RX12) (T := TX12) (N := 56) rfl (by decide) cal_200 (pmt7 184 rfl (by decide +kernel)) (pmt7 186 rfl (by decide +kernel)) (pms 64 rfl rfl) (dX_invokevirtual (by decide +kernel)) (by decide +kernel), ?_⟩
  refine ⟨sn_iconst (dX_iconst_0 (by decide +kernel)) (by decide +kernel), ?_⟩
  refine ⟨sn_istore_n (k := 2) (dX_istore_2 (by decide +kernel)) rfl (by decide) (by decide +kernel), ?_⟩
  refine ⟨sn_iconst (dX_iconst_0 (by decide +kernel)) (by decide +kernel), ?_⟩
  refine ⟨sn_istore_n (k := 3) (dX_istore_3 (by decide +kernel)) rfl (by decide) (by decide +kernel), ?_⟩
  refine ⟨sn_iload_n (k := 3) (dX_iload_3 (by decide +kernel)) rfl (by decide +kernel), ?_⟩
  refine ⟨sn_aload_n (k := 0) (dX_aload_0 (by decide +kernel)) rfl (by decide +kernel), ?_⟩
  refine ⟨sn_getf (C := RX12) (T := TX12) (N := 56) (idx := 161) rfl pin12 (by decide) (by decide) rfl (pmt6 148 rfl (by decide +kernel)) rfl (dX_getfield (by decide +kernel)) (by decide +kernel), ?_⟩
  refine ⟨sn_icmp_ge (off := 31) (dX_if_icmpge (by decide +kernel)) (by decide +kernel) (by decide +kernel), ?_⟩
  refine ⟨sn_iload_n (k := 2) (dX_iload_2 (by decide +kernel)) rfl (by decide +kernel), ?_⟩
  refine ⟨sn_aload_n (k := 0) (dX_aload_0 (by decide +kernel)) rfl (by decide +kernel), ?_⟩
  refine ⟨sn_getf (C := RX12) (T := TX12) (N := 56) (idx := 28) rfl pin12 (by decide) (by decide) rfl (pmt6 149 rfl (by decide +kernel)) rfl (dX_getfield (by decide +kernel)) (by decide +kernel), ?_⟩
  refine ⟨sn_iload_n (k := 3) (dX_iload_3 (by decide +kernel)) rfl (by decide +kernel), ?_⟩
  refine ⟨sn_iald (dX_iaload (by decide +kernel)) (by decide +kernel), ?_⟩
  refine ⟨sn_iconst (dX_iconst_1 (by decide +kernel)) (by decide +kernel), ?_⟩
  refine ⟨sn_iload_n (k := 1) (dX_iload_1 (by decide +kernel)) rfl (by decide +kernel), ?_⟩
  refine ⟨sn_ishl (dX_ishl (by decide +kernel)) (by decide +kernel), ?_⟩
  refine ⟨sn_icmp_ne (off := 9) (dX_if_icmpne (by decide +kernel)) (by decide +kernel) (by decide +kernel), ?_⟩
  refine ⟨sn_iconst (dX_iconst_1 (by decide +kernel)) (by decide +kernel), ?_⟩
  refine ⟨sn_iload_n (k := 3) (dX_iload_3 (by decide +kernel)) rfl (by decide +kernel), ?_⟩
  refine ⟨sn_ishl (dX_ishl (by decide +kernel)) (by decide +kernel), ?_⟩
  refine ⟨sn_goto (off := 4) (dX_goto (by decide +kernel)) (by decide +kernel), ?_⟩
  refine ⟨sn_iconst (dX_iconst_0 (by decide +kernel)) (by decide +kernel), ?_⟩
  refine ⟨sn_ior (dX_ior (by decide +kernel)) (by decide +kernel), ?_⟩
  refine ⟨sn_istore_n (k := 2) (dX_istore_2 (by decide +kernel)) rfl (by decide) (by decide +kernel), ?_⟩
  refine ⟨sn_iinc (dX_iinc (by decide +kernel)) (by decide) (by decide +kernel), ?_⟩
  refine ⟨sn_goto (off := -33) (dX_goto (by decide +kernel)) (by decide +kernel), ?_⟩
  refine ⟨sn_aload_n (k := 0) (dX_aload_0 (by decide +kernel)) rfl (by decide +kernel), ?_⟩
  refine ⟨sn_iconst (dX_iconst_0 (by decide +kernel)) (by decide +kernel), ?_⟩
  refine ⟨sn_puti (C := RX12) (T := TX12) (N := 56) (idx := 110) rfl pin12 (by decide) (by decide) rfl tyX12 tyX12_ok nmX12 rfl rfl (by decide +kernel) (pmt6 156 rfl (by decide +kernel)) rfl (dX_putfield (by decide +kernel)) (by decide +kernel), ?_⟩
  refine ⟨sn_aload_n (k := 0) (dX_aload_0 (by decide +kernel)) rfl (by decide +kernel), ?_⟩
  refine ⟨sn_iload_n (k := 2) (dX_iload_2 (by decide +kernel)) rfl (by decide +kernel), ?_⟩
  refine ⟨sn_callV (idx := 294) (C := RX12) (T := TX12) (N := 56) rfl (by decide) cal_172 (pmt8 12 rfl (by decide +kernel)) (pmt8 14 rfl (by decide +kernel)) (pms 73 rfl rfl) (dX_invokevirtual (by decide +kernel)) (by decide +kernel), ?_⟩
  refine ⟨sn_aload_n (k := 0) (dX_aload_0 (by decide +kernel)) rfl (by decide +kernel), ?_⟩
  refine ⟨sn_getf (C := RX12) (T := TX12) (N := 56) (idx := 249) rfl pin12 (by decide) (by decide) rfl (pmt6 170 rfl (by decide +kernel)) rfl (dX_getfield (by decide +kernel)) (by decide +kernel), ?_⟩
  refine ⟨sn_iret rfl (dX_ireturn (by decide +kernel)), ?_⟩
  trivial
set_option maxRecDepth 100000 in
set_option maxHeartbeats 4000000 in
theorem S_226 : pAll (pSk RX12 cX12_breaks 3 (some .int) PC_226) 0 C_226 := by
  refine ⟨sn_aload_n (k := 0) (dX_aload_0 (by decide +kernel)) rfl (by decide +kernel), ?_⟩
  refine ⟨sn_iconst (dX_iconst_0 (by decide +kernel)) (by decide +kernel), ?_⟩
  refine ⟨sn_puti (C := RX12) (T := TX12) (N := 56) (idx := 107) rfl pin12 (by decide) (by decide) rfl tyX12 tyX12_ok nmX12 rfl rfl (by decide +kernel) (pmt6 157 rfl (by decide +kernel)) rfl (dX_putfield (by decide +kernel)) (by decide +kernel), ?_⟩
  refine ⟨sn_aload_n (k := 0) (dX_aload_0 (by decide +kernel)) rfl (by decide +kernel), ?_⟩
  refine ⟨sn_iload_n (k := 1) (dX_iload_1 (by decide +kernel)) rfl (by decide +kernel), ?_⟩
  refine ⟨sn_callV (idx := 252) (C := RX12) (T := TX12) (N := 56) rfl (by decide) cal_174 (pmt7 180 rfl (by decide +kernel)) (pmt7 182 rfl (by decide +kernel)) (pms 63 rfl rfl) (dX_invokevirtual (by decide +kernel)) (by decide +kernel), ?_⟩
  refine ⟨sn_if_ne (off := 5) (dX_ifne (by decide +kernel)) (by decide +kernel) (by decide +kernel), ?_⟩
  refine ⟨sn_iconst (dX_iconst_m1 (by decide +kernel)) (by decide +kernel), ?_⟩
  refine ⟨sn_iret rfl (dX_ireturn (by decide +kernel)), ?_⟩
  refine ⟨sn_iconst (dX_iconst_0 (by decide +kernel)) (by decide +kernel), ?_⟩
  refine ⟨sn_istore_n (k := 2) (dX_istore_2 (by decide +kernel)) rfl (by decide) (by decide +kernel), ?_⟩
  refine ⟨sn_iload_n (k := 2) (dX_iload_2 (by decide +kernel)) rfl (by decide +kernel), ?_⟩
  refine ⟨sn_aload_n (k := 0) (dX_aload_0 (by decide +kernel)) rfl (by decide +kernel), ?_⟩
  refine ⟨sn_getf (C := RX12) (T := TX12) (N := 56) (idx := 161) rfl pin12 (by decide) (by decide) rfl (pmt6 148 rfl (by decide +kernel)) rfl (dX_getfield (by decide +kernel)) (by decide +kernel), ?_⟩
  refine ⟨sn_icmp_ge (off := 23) (dX_if_icmpge (by decide +kernel)) (by decide +kernel) (by decide +kernel), ?_⟩
  refine ⟨sn_aload_n (k := 0) (dX_aload_0 (by decide +kernel)) rfl (by decide +kernel), ?_⟩
  refine ⟨sn_getf (C := RX12) (T := TX12) (N := 56) (idx := 28) rfl pin12 (by decide) (by decide) rfl (pmt6 149 rfl (by decide +kernel)) rfl (dX_getfield (by decide +kernel)) (by decide +kernel), ?_⟩
  refine ⟨sn_iload_n (k := 2) (dX_iload_2 (by decide +kernel)) rfl (by decide +kernel), ?_⟩
  refine ⟨sn_dup2 (dX_dup2 (by decide +kernel)) (by decide +kernel), ?_⟩
  refine ⟨sn_iald (dX_iaload (by decide +kernel)) (by decide +kernel), ?_⟩
  refine ⟨sn_iconst (dX_iconst_1 (by decide +kernel)) (by decide +kernel), ?_⟩
  refine ⟨sn_iload_n (k := 1) (dX_iload_1 (by decide +kernel)) rfl (by decide +kernel), ?_⟩
  refine ⟨sn_ishl (dX_ishl (by decide +kernel)) (by decide +kernel), ?_⟩
  refine ⟨sn_iconst (dX_iconst_m1 (by decide +kernel)) (by decide +kernel), ?_⟩
  refine ⟨sn_ixor (dX_ixor (by decide +kernel)) (by decide +kernel), ?_⟩
  refine ⟨sn_iand (dX_iand (by decide +kernel)) (by decide +kernel), ?_⟩
  refine ⟨sn_iast (dX_iastore (by decide +kernel)) (by decide +kernel), ?_⟩
  refine ⟨sn_iinc (dX_iinc (by decide +kernel)) (by decide) (by decide +kernel), ?_⟩
  refine ⟨sn_goto (off := -25) (dX_goto (by decide +kernel)) (by decide +kernel), ?_⟩
  refine ⟨sn_aload_n (k := 0) (dX_aload_0 (by decide +kernel)) rfl (by decide +kernel), ?_⟩
  refine ⟨sn_iconst (dX_iconst_0 (by decide +kernel)) (by decide +kernel), ?_⟩
  refine ⟨sn_iconst (dX_iconst_0 (by decide +kernel)) (by decide +kernel), ?_⟩
  refine ⟨sn_callV (idx := 255) (C := RX12) (T := TX12) (N := 56) rfl (by decide) cal_200 (pmt7 184 rfl (by decide +kernel)) (pmt7 186 rfl (by decide +kernel)) (pms 64 rfl rfl) (dX_invokevirtual (by decide +kernel)) (by decide +kernel), ?_⟩
  refine ⟨sn_aload_n (k := 0) (dX_aload_0 (by decide +kernel)) rfl (by decide +kernel), ?_⟩
  refine ⟨sn_getf (C := RX12) (T := TX12) (N := 56) (idx := 249) rfl pin12 (by decide) (by decide) rfl (pmt6 170 rfl (by decide +kernel)) rfl (dX_getfield (by decide +kernel)) (by decide +kernel), ?_⟩
  refine ⟨sn_iret rfl (dX_ireturn (by decide +kernel)), ?_⟩
  trivial
set_option maxRecDepth 100000 in
set_option maxHeartbeats 4000000 in
theorem S_227 : pAll (pSk RX12 cX12_ties 4 (some .int) PC_227) 0 C_227 := by
  refine ⟨sn_aload_n (k := 0) (dX_aload_0 (by decide +kernel)) rfl (by decide +kernel), ?_⟩
  refine ⟨sn_iconst (dX_iconst_0 (by decide +kernel)) (by decide +kernel), ?_⟩
  refine ⟨sn_puti (C := RX12) (T := TX12) (N := 56) (idx := 107) rfl pin12 (by decide) (by decide) rfl tyX12 tyX12_ok nmX12 rfl rfl (by decide +kernel) (pmt6 157 rfl (by decide +kernel)) rfl (dX_putfield (by decide +kernel)) (by decide +kernel), ?_⟩
  refine ⟨sn_aload_n (k := 0) (dX_aload_0 (by decide +kernel)) rfl (by decide +kernel), ?_⟩
  refine ⟨sn_iconst (dX_iconst_0 (by decide +kernel)) (by decide +kernel), ?_⟩
  refine ⟨sn_iconst (dX_iconst_0 (by decide +kernel)) (by decide +kernel), ?_⟩
  refine ⟨sn_callV (idx := 255) (C := RX12) (T := TX12) (N := 56) rfl (by decide) cal_200 (pmt7 184 rfl (by decide +kernel)) (pmt7 186 rfl (by decide +kernel)) (pms 64 rfl rfl) (dX_invokevirtual (by decide +kernel)) (by decide +kernel), ?_⟩
  refine ⟨sn_aload_n (k := 0) (dX_aload_0 (by decide +kernel)) rfl (by decide +kernel), ?_⟩
  refine ⟨sn_getf (C := RX12) (T := TX12) (N := 56) (idx := 249) rfl pin12 (by decide) (by decide) rfl (pmt6 170 rfl (by decide +kernel)) rfl (dX_getfield (by decide +kernel)) (by decide +kernel), ?_⟩
  refine ⟨sn_istore_n (k := 1) (dX_istore_1 (by decide +kernel)) rfl (by decide) (by decide +kernel), ?_⟩
  refine ⟨sn_iconst (dX_iconst_0 (by decide +kernel)) (by decide +kernel), ?_⟩
  refine ⟨sn_istore_n (k := 2) (dX_istore_2 (by decide +kernel)) rfl (by decide) (by decide +kernel), ?_⟩
  refine ⟨sn_iconst (dX_iconst_0 (by decide +kernel)) (by decide +kernel), ?_⟩
  refine ⟨sn_istore_n (k := 3) (dX_istore_3 (by decide +kernel)) rfl (by decide) (by decide +kernel), ?_⟩
  refine ⟨sn_iload_n (k := 3) (dX_iload_3 (by decide +kernel)) rfl (by decide +kernel), ?_⟩
  refine ⟨sn_aload_n (k := 0) (dX_aload_0 (by decide +kernel)) rfl (by decide +kernel), ?_⟩
  refine ⟨sn_getf (C := RX12) (T := TX12) (N := 56) (idx := 161) rfl pin12 (by decide) (by decide) rfl (pmt6 148 rfl (by decide +kernel)) rfl (dX_getfield (by decide +kernel)) (by decide +kernel), ?_⟩
  refine ⟨sn_icmp_ge (off := 35) (dX_if_icmpge (by decide +kernel)) (by decide +kernel) (by decide +kernel), ?_⟩
  refine ⟨sn_aload_n (k := 0) (dX_aload_0 (by decide +kernel)) rfl (by decide +kernel), ?_⟩
  refine ⟨sn_iconst (dX_iconst_1 (by decide +kernel)) (by decide +kernel), ?_⟩
  refine ⟨sn_iload_n (k := 3) (dX_iload_3 (by decide +kernel)) rfl (by decide +kernel), ?_⟩
  refine ⟨sn_ishl (dX_ishl (by decide +kernel)) (by decide +kernel), ?_⟩
  refine ⟨sn_iconst (dX_iconst_0 (by decide +kernel)) (by decide +kernel), ?_⟩
  refine ⟨sn_callV (idx := 255) (C := RX12) (T := TX12) (N := 56) rfl (by decide) cal_200 (pmt7 184 rfl (by decide +kernel)) (pmt7 186 rfl (by decide +kernel)) (pms 64 rfl rfl) (dX_invokevirtual (by decide +kernel)) (by decide +kernel), ?_⟩
  refine ⟨sn_iload_n (k := 2) (dX_iload_2 (by decide +kernel)) rfl (by decide +kernel), ?_⟩
  refine ⟨sn_aload_n (k := 0) (dX_aload_0 (by decide +kernel)) rfl (by decide +kernel), ?_⟩
  refine ⟨sn_getf (C := RX12) (T := TX12) (N := 56) (idx := 249) rfl pin12 (by decide) (by decide) rfl (pmt6 170 rfl (by decide +kernel)) rfl (dX_getfield (by decide +kernel)) (by decide +kernel), ?_⟩
  refine ⟨sn_iload_n (k := 1) (dX_iload_1 (by decide +kernel)) rfl (by decide +kernel), ?_⟩
  refine ⟨sn_icmp_le (off := 9) (dX_if_icmple (by decide +kernel)) (by decide +kernel) (by decide +kernel), ?_⟩
  refine ⟨sn_iconst (dX_iconst_1 (by decide +kernel)) (by decide +kernel), ?_⟩
  refine ⟨sn_iload_n (k := 3) (dX_iload_3 (by decide +kernel)) rfl (by decide +kernel), ?_⟩
  refine ⟨sn_ishl (dX_ishl (by decide +kernel)) (by decide +kernel), ?_⟩
  refine ⟨sn_goto (off := 4) (dX_goto (by decide +kernel)) (by decide +kernel), ?_⟩
  refine ⟨sn_iconst (dX_iconst_0 (by decide +kernel)) (by decide +kernel), ?_⟩
  refine ⟨sn_ior (dX_ior (by decide +kernel)) (by decide +kernel), ?_⟩
  refine ⟨sn_istore_n (k := 2) (dX_istore_2 (by decide +kernel)) rfl (by decide) (by decide +kernel), ?_⟩
  refine ⟨sn_iinc (dX_iinc (by decide +kernel)) (by decide) (by decide +kernel), ?_⟩
  refine ⟨sn_goto (off := -37) (dX_goto (by decide +kernel)) (by decide +kernel), ?_⟩
  refine ⟨sn_iload_n (k := 2) (dX_iload_2 (by decide +kernel)) rfl (by decide +kernel), ?_⟩
  refine ⟨sn_iret rfl (dX_ireturn (by decide +kernel)), ?_⟩
  trivial
set_option maxRecDepth 100000 in
set_option maxHeartbeats 4000000 in
theorem S_228 : pAll (pSk RX12 cX12_isTooMuch 2 (some .boolean) PC_228) 0 C_228 := by
  refine ⟨sn_aload_n (k := 0) (dX_aload_0 (by decide +kernel)) rfl (by decide +kernel), ?_⟩
  refine ⟨sn_iconst (dX_iconst_0 (by decide +kernel)) (by decide +kernel), ?_⟩
  refine ⟨sn_iconst (dX_iconst_0 (by decide +kernel)) (by decide +kernel), ?_⟩
  refine ⟨sn_callV (idx := 255) (C := RX12) (T := TX12) (N := 56) rfl (by decide) cal_200 (pmt7 184 rfl (by decide +kernel)) (pmt7 186 rfl (by decide +kernel)) (pms 64 rfl rfl) (dX_invokevirtual (by decide +kernel)) (by decide +kernel), ?_⟩
  refine ⟨sn_aload_n (k := 0) (dX_aload_0 (by decide +kernel)) rfl (by decide +kernel), ?_⟩
  refine ⟨sn_iconst (dX_iconst_1 (by decide +kernel)) (by decide +kernel), ?_⟩
  refine ⟨sn_puti (C := RX12) (T := TX12) (N := 56) (idx := 303) rfl pin12 (by decide) (by decide) rfl tyX12 tyX12_ok nmX12 rfl rfl (by decide +kernel) (pmt6 179 rfl (by decide +kernel)) rfl (dX_putfield (by decide +kernel)) (by decide +kernel), ?_⟩
  refine ⟨sn_iconst (dX_iconst_0 (by decide +kernel)) (by decide +kernel), ?_⟩
  refine ⟨sn_istore_n (k := 1) (dX_istore_1 (by decide +kernel)) rfl (by decide) (by decide +kernel), ?_⟩
  refine ⟨sn_iload_n (k := 1) (dX_iload_1 (by decide +kernel)) rfl (by decide +kernel), ?_⟩
  refine ⟨sn_aload_n (k := 0) (dX_aload_0 (by decide +kernel)) rfl (by decide +kernel), ?_⟩
  refine ⟨sn_getf (C := RX12) (T := TX12) (N := 56) (idx := 249) rfl pin12 (by decide) (by decide) rfl (pmt6 170 rfl (by decide +kernel)) rfl (dX_getfield (by decide +kernel)) (by decide +kernel), ?_⟩
  refine ⟨sn_icmp_ge (off := 28) (dX_if_icmpge (by decide +kernel)) (by decide +kernel) (by decide +kernel), ?_⟩
  refine ⟨sn_aload_n (k := 0) (dX_aload_0 (by decide +kernel)) rfl (by decide +kernel), ?_⟩
  refine ⟨sn_ldcw (idx := 258) (dX_ldc_w (by decide +kernel)) (pmt7 230 rfl (by decide +kernel)) (by decide +kernel), ?_⟩
  refine ⟨sn_aload_n (k := 0) (dX_aload_0 (by decide +kernel)) rfl (by decide +kernel), ?_⟩
  refine ⟨sn_getf (C := RX12) (T := TX12) (N := 56) (idx := 303) rfl pin12 (by decide) (by decide) rfl (pmt6 179 rfl (by decide +kernel)) rfl (dX_getfield (by decide +kernel)) (by decide +kernel), ?_⟩
  refine ⟨sn_aload_n (k := 0) (dX_aload_0 (by decide +kernel)) rfl (by decide +kernel), ?_⟩
  refine ⟨sn_getf (C := RX12) (T := TX12) (N := 56) (idx := 113) rfl pin12 (by decide) (by decide) rfl (pmt6 140 rfl (by decide +kernel)) rfl (dX_getfield (by decide +kernel)) (by decide +kernel), ?_⟩
  refine ⟨sn_imul (dX_imul (by decide +kernel)) (by decide +kernel), ?_⟩
  refine ⟨sn_mmin (idx := 222) (pmt7 192 rfl (by decide +kernel)) (pmt2 211 rfl (by decide +kernel)) (pmt1 14 rfl (by decide +kernel)) (pmt2 212 rfl (by decide +kernel)) (dX_invokestatic (by decide +kernel)) (by decide +kernel), ?_⟩
  refine ⟨sn_puti (C := RX12) (T := TX12) (N := 56) (idx := 303) rfl pin12 (by decide) (by decide) rfl tyX12 tyX12_ok nmX12 rfl rfl (by decide +kernel) (pmt6 179 rfl (by decide +kernel)) rfl (dX_putfield (by decide +kernel)) (by decide +kernel), ?_⟩
  refine ⟨sn_iinc (dX_iinc (by decide +kernel)) (by decide) (by decide +kernel), ?_⟩
  refine ⟨sn_goto (off := -30) (dX_goto (by decide +kernel)) (by decide +kernel), ?_⟩
  refine ⟨sn_aload_n (k := 0) (dX_aload_0 (by decide +kernel)) rfl (by decide +kernel), ?_⟩
  refine ⟨sn_getf (C := RX12) (T := TX12) (N := 56) (idx := 303) rfl pin12 (by decide) (by decide) rfl (pmt6 179 rfl (by decide +kernel)) rfl (dX_getfield (by decide +kernel)) (by decide +kernel), ?_⟩
  refine ⟨sn_sipush (dX_sipush (by decide +kernel)) (by decide +kernel) (by decide +kernel), ?_⟩
  refine ⟨sn_icmp_le (off := 7) (dX_if_icmple (by decide +kernel)) (by decide +kernel) (by decide +kernel), ?_⟩
  refine ⟨sn_iconst (dX_iconst_1 (by decide +kernel)) (by decide +kernel), ?_⟩
  refine ⟨sn_goto (off := 4) (dX_goto (by decide +kernel)) (by decide +kernel), ?_⟩
  refine ⟨sn_iconst (dX_iconst_0 (by decide +kernel)) (by decide +kernel), ?_⟩
  refine ⟨sn_zret (Or.inl rfl) (dX_ireturn (by decide +kernel)), ?_⟩
  trivial
set_option maxRecDepth 100000 in
set_option maxHeartbeats 4000000 in
theorem S_229 : pAll (pSk RX12 cX12_beginRows 1 none PC_229) 0 C_229 := by
  refine ⟨sn_aload_n (k := 0) (dX_aload_0 (by decide +kernel)) rfl (by decide +kernel), ?_⟩
  refine ⟨sn_iconst (dX_iconst_m1 (by decide +kernel)) (by decide +kernel), ?_⟩
  refine ⟨sn_puti (C := RX12) (T := TX12) (N := 56) (idx := 306) rfl pin12 (by decide) (by decide) rfl tyX12 tyX12_ok nmX12 rfl rfl (by decide +kernel) (pmt6 180 rfl (by decide +kernel)) rfl (dX_putfield (by decide +kernel)) (by decide +kernel), ?_⟩
  refine ⟨sn_vret rfl (dX_return (by decide +kernel)), ?_⟩
  trivial
set_option maxRecDepth 100000 in
set_option maxHeartbeats 4000000 in
theorem S_230 : pAll (pSk RX12 cX12_nextRow 1 (some .boolean) PC_230) 0 C_230 := by
  refine ⟨sn_aload_n (k := 0) (dX_aload_0 (by decide +kernel)) rfl (by decide +kernel), ?_⟩
  refine ⟨sn_dup (dX_dup (by decide +kernel)) (by decide +kernel), ?_⟩
  refine ⟨sn_getf (C := RX12) (T := TX12) (N := 56) (idx := 306) rfl pin12 (by decide) (by decide) rfl (pmt6 180 rfl (by decide +kernel)) rfl (dX_getfield (by decide +kernel)) (by decide +kernel), ?_⟩
  refine ⟨sn_iconst (dX_iconst_1 (by decide +kernel)) (by decide +kernel), ?_⟩
  refine ⟨sn_iadd (dX_iadd (by decide +kernel)) (by decide +kernel), ?_⟩
  refine ⟨sn_puti (C := RX12) (T := TX12) (N := 56) (idx := 306) rfl pin12 (by decide) (by decide) rfl tyX12 tyX12_ok nmX12 rfl rfl (by decide +kernel) (pmt6 180 rfl (by decide +kernel)) rfl (dX_putfield (by decide +kernel)) (by decide +kernel), ?_⟩
  refine ⟨sn_aload_n (k := 0) (dX_aload_0 (by decide +kernel)) rfl (by decide +kernel), ?_⟩
  refine ⟨sn_getf (C := RX12) (T := TX12) (N := 56) (idx := 306) rfl pin12 (by decide) (by decide) rfl (pmt6 180 rfl (by decide +kernel)) rfl (dX_getfield (by decide +kernel)) (by decide +kernel), ?_⟩
  refine ⟨sn_aload_n (k := 0) (dX_aload_0 (by decide +kernel)) rfl (by decide +kernel), ?_⟩
  refine ⟨sn_getf (C := RX12) (T := TX12) (N := 56) (idx := 303) rfl pin12 (by decide) (by decide) rfl (pmt6 179 rfl (by decide +kernel)) rfl (dX_getfield (by decide +kernel)) (by decide +kernel), ?_⟩
  refine ⟨sn_icmp_ge (off := 25) (dX_if_icmpge (by decide +kernel)) (by decide +kernel) (by decide +kernel), ?_⟩
  refine ⟨sn_aload_n (k := 0) (dX_aload_0 (by decide +kernel)) rfl (by decide +kernel), ?_⟩
  refine ⟨sn_callV (idx := 309) (C := RX12) (T := TX12) (N := 56) rfl (by decide) cal_231 (pmt8 76 rfl (by decide +kernel)) (pmt8 78 rfl (by decide +kernel)) (pms 80 rfl rfl) (dX_invokevirtual (by decide +kernel)) (by decide +kernel), ?_⟩
  refine ⟨sn_if_eq (off := 5) (dX_ifeq (by decide +kernel)) (by decide +kernel) (by decide +kernel), ?_⟩
  refine ⟨sn_iconst (dX_iconst_1 (by decide +kernel)) (by decide +kernel), ?_⟩
  refine ⟨sn_zret (Or.inl rfl) (dX_ireturn (by decide +kernel)), ?_⟩
  refine ⟨sn_aload_n (k := 0) (dX_aload_0 (by decide +kernel)) rfl (by decide +kernel), ?_⟩
  refine ⟨sn_dup (dX_dup (by decide +kernel)) (by decide +kernel), ?_⟩
  refine ⟨sn_getf (C := RX12) (T := TX12) (N := 56) (idx := 306) rfl pin12 (by decide) (by decide) rfl (pmt6 180 rfl (by decide +kernel)) rfl (dX_getfield (by decide +kernel)) (by decide +kernel), ?_⟩
  refine ⟨sn_iconst (dX_iconst_1 (by decide +kernel)) (by decide +kernel), ?_⟩
  refine ⟨sn_iadd (dX_iadd (by decide +kernel)) (by decide +kernel), ?_⟩
  refine ⟨sn_puti (C := RX12) (T := TX12) (N := 56) (idx := 306) rfl pin12 (by decide) (by decide) rfl tyX12 tyX12_ok nmX12 rfl rfl (by decide +kernel) (pmt6 180 rfl (by decide +kernel)) rfl (dX_putfield (by decide +kernel)) (by decide +kernel), ?_⟩
  refine ⟨sn_goto (off := -30) (dX_goto (by decide +kernel)) (by decide +kernel), ?_⟩
  refine ⟨sn_iconst (dX_iconst_0 (by decide +kernel)) (by decide +kernel), ?_⟩
  refine ⟨sn_zret (Or.inl rfl) (dX_ireturn (by decide +kernel)), ?_⟩
  trivial
set_option maxRecDepth 100000 in
set_option maxHeartbeats 4000000 in
theorem S_231 : pAll (pSk RX12 cX12_isFine 3 (some .boolean) PC_231) 0 C_231 := by
  refine ⟨sn_aload_n (k := 0) (dX_aload_0 (by decide +kernel)) rfl (by decide +kernel), ?_⟩
  refine ⟨sn_getf (C := RX12) (T := TX12) (N := 56) (idx := 306) rfl pin12 (by decide) (by decide) rfl (pmt6 180 rfl (by decide +kernel)) rfl (dX_getfield (by decide +kernel)) (by decide +kernel), ?_⟩
  refine ⟨sn_istore_n (k := 1) (dX_istore_1 (by decide +kernel)) rfl (by decide) (by decide +kernel), ?_⟩
  refine ⟨sn_aload_n (k := 0) (dX_aload_0 (by decide +kernel)) rfl (by decide +kernel), ?_⟩
  refine ⟨sn_getf (C := RX12) (T := TX12) (N := 56) (idx := 249) rfl pin12 (by decide) (by decide) rfl (pmt6 170 rfl (by decide +kernel)) rfl (dX_getfield (by decide +kernel)) (by decide +kernel), ?_⟩
  refine ⟨sn_iconst (dX_iconst_1 (by decide +kernel)) (by decide +kernel), ?_⟩
  refine ⟨sn_isub (dX_isub (by decide +kernel)) (by decide +kernel), ?_⟩
  refine ⟨sn_istore_n (k := 2) (dX_istore_2 (by decide +kernel)) rfl (by decide) (by decide +kernel), ?_⟩
  refine ⟨sn_iload_n (k := 2) (dX_iload_2 (by decide +kernel)) rfl (by decide +kernel), ?_⟩
  refine ⟨sn_if_lt (off := 43) (dX_iflt (by decide +kernel)) (by decide +kernel) (by decide +kernel), ?_⟩
  refine ⟨sn_aload_n (k := 0) (dX_aload_0 (by decide +kernel)) rfl (by decide +kernel), ?_⟩
  refine ⟨sn_getf (C := RX12) (T := TX12) (N := 56) (idx := 72) rfl pin12 (by decide) (by decide) rfl (pmt6 177 rfl (by decide +kernel)) rfl (dX_getfield (by decide +kernel)) (by decide +kernel), ?_⟩
  refine ⟨sn_iload_n (k := 2) (dX_iload_2 (by decide +kernel)) rfl (by decide +kernel), ?_⟩
  refine ⟨sn_aload_n (k := 0) (dX_aload_0 (by decide +kernel)) rfl (by decide +kernel), ?_⟩
  refine ⟨sn_getf (C := RX12) (T := TX12) (N := 56) (idx := 312) rfl pin12 (by decide) (by decide) rfl (pmt6 178 rfl (by decide +kernel)) rfl (dX_getfield (by decide +kernel)) (by decide +kernel), ?_⟩
  refine ⟨sn_iload_n (k := 2) (dX_iload_2 (by decide +kernel)) rfl (by decide +kernel), ?_⟩
  refine ⟨sn_callS (idx := 234) cal_170 (pmt7 152 rfl (by decide +kernel)) (pmt7 153 rfl (by decide +kernel)) (dX_invokestatic (by decide +kernel)) (by decide +kernel), ?_⟩
  refine ⟨sn_if_eq (off := 7) (dX_ifeq (by decide +kernel)) (by decide +kernel) (by decide +kernel), ?_⟩
  refine ⟨sn_iconst (dX_iconst_m1 (by decide +kernel)) (by decide +kernel), ?_⟩
  refine ⟨sn_goto (off := 9) (dX_goto (by decide +kernel)) (by decide +kernel), ?_⟩
  refine ⟨sn_iload_n (k := 1) (dX_iload_1 (by decide +kernel)) rfl (by decide +kernel), ?_⟩
  refine ⟨sn_aload_n (k := 0) (dX_aload_0 (by decide +kernel)) rfl (by decide +kernel), ?_⟩
  refine ⟨sn_getf (C := RX12) (T := TX12) (N := 56) (idx := 113) rfl pin12 (by decide) (by decide) rfl (pmt6 140 rfl (by decide +kernel)) rfl (dX_getfield (by decide +kernel)) (by decide +kernel), ?_⟩
  refine ⟨sn_irem (dX_irem (by decide +kernel)) (by decide +kernel), ?_⟩
  refine ⟨sn_iast (dX_iastore (by decide +kernel)) (by decide +kernel), ?_⟩
  refine ⟨sn_iload_n (k := 1) (dX_iload_1 (by decide +kernel)) rfl (by decide +kernel), ?_⟩
  refine ⟨sn_aload_n (k := 0) (dX_aload_0 (by decide +kernel)) rfl (by decide +kernel), ?_⟩
  refine ⟨sn_getf (C := RX12) (T := TX12) (N := 56) (idx := 113) rfl pin12 (by decide) (by decide) rfl (pmt6 140 rfl (by decide +kernel)) rfl (dX_getfield (by decide +kernel)) (by decide +kernel), ?_⟩
  refine ⟨sn_idiv (dX_idiv (by decide +kernel)) (by decide +kernel), ?_⟩
  refine ⟨sn_istore_n (k := 1) (dX_istore_1 (by decide +kernel)) rfl (by decide) (by decide +kernel), ?_⟩
  refine ⟨sn_iinc (dX_iinc (by decide +kernel)) (by decide) (by decide +kernel), ?_⟩
  refine ⟨sn_goto (off := -41) (dX_goto (by decide +kernel)) (by decide +kernel), ?_⟩
  refine ⟨sn_iconst (dX_iconst_0 (by decide +kernel)) (by decide +kernel), ?_⟩
  refine ⟨sn_istore_n (k := 2) (dX_istore_2 (by decide +kernel)) rfl (by decide) (by decide +kernel), ?_⟩
  refine ⟨sn_iload_n (k := 2) (dX_iload_2 (by decide +kernel)) rfl (by decide +kernel), ?_⟩
  refine ⟨sn_aload_n (k := 0) (dX_aload_0 (by decide +kernel)) rfl (by decide +kernel), ?_⟩
  refine ⟨sn_getf (C := RX12) (T := TX12) (N := 56) (idx := 120) rfl pin12 (by decide) (by decide) rfl (pmt6 143 rfl (by decide +kernel)) rfl (dX_getfield (by decide +kernel)) (by decide +kernel), ?_⟩
  refine ⟨sn_icmp_ge (off := 26) (dX_if_icmpge (by decide +kernel)) (by decide +kernel) (by decide +kernel), ?_⟩
  refine ⟨sn_aload_n (k := 0) (dX_aload_0 (by decide +kernel)) rfl (by decide +kernel), ?_⟩
  refine ⟨sn_getf (C := RX12) (T := TX12) (N := 56) (idx := 69) rfl pin12 (by decide) (by decide) rfl (pmt6 176 rfl (by decide +kernel)) rfl (dX_getfield (by decide +kernel)) (by decide +kernel), ?_⟩
  refine ⟨sn_iload_n (k := 2) (dX_iload_2 (by decide +kernel)) rfl (by decide +kernel), ?_⟩
  refine ⟨sn_aload_n (k := 0) (dX_aload_0 (by decide +kernel)) rfl (by decide +kernel), ?_⟩
  refine ⟨sn_getf (C := RX12) (T := TX12) (N := 56) (idx := 72) rfl pin12 (by decide) (by decide) rfl (pmt6 177 rfl (by decide +kernel)) rfl (dX_getfield (by decide +kernel)) (by decide +kernel), ?_⟩
  refine ⟨sn_aload_n (k := 0) (dX_aload_0 (by decide +kernel)) rfl (by decide +kernel), ?_⟩
  refine ⟨sn_getf (C := RX12) (T := TX12) (N := 56) (idx := 51) rfl pin12 (by decide) (by decide) rfl (pmt6 168 rfl (by decide +kernel)) rfl (dX_getfield (by decide +kernel)) (by decide +kernel), ?_⟩
  refine ⟨sn_iload_n (k := 2) (dX_iload_2 (by decide +kernel)) rfl (by decide +kernel), ?_⟩
  refine ⟨sn_iald (dX_iaload (by decide +kernel)) (by decide +kernel), ?_⟩
  refine ⟨sn_iald (dX_iaload (by decide +kernel)) (by decide +kernel), ?_⟩
  refine ⟨sn_iast (dX_iastore (by decide +kernel)) (by decide +kernel), ?_⟩
  refine ⟨sn_iinc (dX_iinc (by decide +kernel)) (by decide) (by decide +kernel), ?_⟩
  refine ⟨sn_goto (off := -28) (dX_goto (by decide +kernel)) (by decide +kernel), ?_⟩
  refine ⟨sn_iconst (dX_iconst_0 (by decide +kernel)) (by decide +kernel), ?_⟩
  refine ⟨sn_istore_n (k := 2) (dX_istore_2 (by decide +kernel)) rfl (by decide) (by decide +kernel), ?_⟩
  refine ⟨sn_iload_n (k := 2) (dX_iload_2 (by decide +kernel)) rfl (by decide +kernel), ?_⟩
  refine ⟨sn_aload_n (k := 0) (dX_aload_0 (by decide +kernel)) rfl (by decide +kernel), ?_⟩
  refine ⟨sn_getf (C := RX12) (T := TX12) (N := 56) (idx := 113) rfl pin12 (by decide) (by decide) rfl (pmt6 140 rfl (by decide +kernel)) rfl (dX_getfield (by decide +kernel)) (by decide +kernel), ?_⟩
  refine ⟨sn_icmp_ge (off := 23) (dX_if_icmpge (by decide +kernel)) (by decide +kernel) (by decide +kernel), ?_⟩
  refine ⟨sn_aload_n (k := 0) (dX_aload_0 (by decide +kernel)) rfl (by decide +kernel), ?_⟩
  refine ⟨sn_aload_n (k := 0) (dX_aload_0 (by decide +kernel)) rfl (by decide +kernel), ?_⟩
  refine ⟨sn_getf (C := RX12) (T := TX12) (N := 56) (idx := 69) rfl pin12 (by decide) (by decide) rfl (pmt6 176 rfl (by decide +kernel)) rfl (dX_getfield (by decide +kernel)) (by decide +kernel), ?_⟩
  refine ⟨sn_iload_n (k := 2) (dX_iload_2 (by decide +kernel)) rfl (by decide +kernel), ?_⟩
  refine ⟨sn_callV (idx := 245) (C := RX12) (T := TX12) (N := 56) rfl (by decide) cal_198 (pmt7 172 rfl (by decide +kernel)) (pmt7 174 rfl (by decide +kernel)) (pms 62 rfl rfl) (dX_invokevirtual (by decide +kernel)) (by decide +kernel), ?_⟩
  refine ⟨sn_if_ge (off := 5) (dX_ifge (by decide +kernel)) (by decide +kernel) (by decide +kernel), ?_⟩
  refine ⟨sn_iconst (dX_iconst_0 (by decide +kernel)) (by decide +kernel), ?_⟩
  refine ⟨sn_zret (Or.inl rfl) (dX_ireturn (by decide +kernel)), ?_⟩
  refine ⟨sn_iinc (dX_iinc (by decide +kernel)) (by decide) (by decide +kernel), ?_⟩
  refine ⟨sn_goto (off := -25) (dX_goto (by decide +kernel)) (by decide +kernel), ?_⟩
  refine ⟨sn_iconst (dX_iconst_1 (by decide +kernel)) (by decide +kernel), ?_⟩
  refine ⟨sn_zret (Or.inl rfl) (dX_ireturn (by decide +kernel)), ?_⟩
  trivial
set_option maxRecDepth 100000 in
set_option maxHeartbeats 4000000 in
theorem S_232 : pAll (pSk RX12 cX12_tellRow 3 none PC_232) 0 C_232 := by
  refine ⟨sn_iconst (dX_iconst_0 (by decide +kernel)) (by decide +kernel), ?_⟩
  refine ⟨sn_istore_n (k := 2) (dX_istore_2 (by decide +kernel)) rfl (by decide) (by decide +kernel), ?_⟩
  refine ⟨sn_iload_n (k := 2) (dX_iload_2 (by decide +kernel)) rfl (by decide +kernel), ?_⟩
  refine ⟨sn_aload_n (k := 0) (dX_aload_0 (by decide +kernel)) rfl (by decide +kernel), ?_⟩
  refine ⟨sn_getf (C := RX12) (T := TX12) (N := 56) (idx := 120) rfl pin12 (by decide) (by decide) rfl (pmt6 143 rfl (by decide +kernel)) rfl (dX_getfield (by decide +kernel)) (by decide +kernel), ?_⟩
  refine ⟨sn_icmp_ge (off := 16) (dX_if_icmpge (by decide +kernel)) (by decide +kernel) (by decide +kernel), ?_⟩
  refine ⟨sn_aload_n (k := 0) (dX_aload_0 (by decide +kernel)) rfl (by decide +kernel), ?_⟩
  refine ⟨sn_aload_n (k := 1) (dX_aload_1 (by decide +kernel)) rfl (by decide +kernel), ?_⟩
  refine ⟨sn_iload_n (k := 2) (dX_iload_2 (by decide +kernel)) rfl (by decide +kernel), ?_⟩
  refine ⟨sn_iald (dX_iaload (by decide +kernel)) (by decide +kernel), ?_⟩
  refine ⟨sn_callV (idx := 294) (C := RX12) (T := TX12) (N := 56) rfl (by decide) cal_172 (pmt8 12 rfl (by decide +kernel)) (pmt8 14 rfl (by decide +kernel)) (pms 73 rfl rfl) (dX_invokevirtual (by decide +kernel)) (by decide +kernel), ?_⟩
  refine ⟨sn_iinc (dX_iinc (by decide +kernel)) (by decide) (by decide +kernel), ?_⟩
  refine ⟨sn_goto (off := -18) (dX_goto (by decide +kernel)) (by decide +kernel), ?_⟩
  refine ⟨sn_vret rfl (dX_return (by decide +kernel)), ?_⟩
  trivial
set_option maxRecDepth 100000 in
set_option maxHeartbeats 4000000 in
theorem S_233 : pAll (pSk RX12 cX12_take 2 none PC_233) 0 C_233 := by
  refine ⟨sn_iconst (dX_iconst_0 (by decide +kernel)) (by decide +kernel), ?_⟩
  refine ⟨sn_istore_n (k := 1) (dX_istore_1 (by decide +kernel)) rfl (by decide) (by decide +kernel), ?_⟩
  refine ⟨sn_iload_n (k := 1) (dX_iload_1 (by decide +kernel)) rfl (by decide +kernel), ?_⟩
  refine ⟨sn_aload_n (k := 0) (dX_aload_0 (by decide +kernel)) rfl (by decide +kernel), ?_⟩
  refine ⟨sn_getf (C := RX12) (T := TX12) (N := 56) (idx := 120) rfl pin12 (by decide) (by decide) rfl (pmt6 143 rfl (by decide +kernel)) rfl (dX_getfield (by decide +kernel)) (by decide +kernel), ?_⟩
  refine ⟨sn_icmp_ge (off := 21) (dX_if_icmpge (by decide +kernel)) (by decide +kernel) (by decide +kernel), ?_⟩
  refine ⟨sn_aload_n (k := 0) (dX_aload_0 (by decide +kernel)) rfl (by decide +kernel), ?_⟩
  refine ⟨sn_getf (C := RX12) (T := TX12) (N := 56) (idx := 75) rfl pin12 (by decide) (by decide) rfl (pmt6 181 rfl (by decide +kernel)) rfl (dX_getfield (by decide +kernel)) (by decide +kernel), ?_⟩
  refine ⟨sn_iload_n (k := 1) (dX_iload_1 (by decide +kernel)) rfl (by decide +kernel), ?_⟩
  refine ⟨sn_aload_n (k := 0) (dX_aload_0 (by decide +kernel)) rfl (by decide +kernel), ?_⟩
  refine ⟨sn_getf (C := RX12) (T := TX12) (N := 56) (idx := 69) rfl pin12 (by decide) (by decide) rfl (pmt6 176 rfl (by decide +kernel)) rfl (dX_getfield (by decide +kernel)) (by decide +kernel), ?_⟩
  refine ⟨sn_iload_n (k := 1) (dX_iload_1 (by decide +kernel)) rfl (by decide +kernel), ?_⟩
  refine ⟨sn_iald (dX_iaload (by decide +kernel)) (by decide +kernel), ?_⟩
  refine ⟨sn_iast (dX_iastore (by decide +kernel)) (by decide +kernel), ?_⟩
  refine ⟨sn_iinc (dX_iinc (by decide +kernel)) (by decide) (by decide +kernel), ?_⟩
  refine ⟨sn_goto (off := -23) (dX_goto (by decide +kernel)) (by decide +kernel), ?_⟩
  refine ⟨sn_vret rfl (dX_return (by decide +kernel)), ?_⟩
  trivial
set_option maxRecDepth 100000 in
set_option maxHeartbeats 4000000 in
theorem S_234 : pAll (pSk RX12 cX12_fits 2 (some .int) PC_234) 0 C_234 := by
  refine ⟨sn_aload_n (k := 0) (dX_aload_0 (by decide +kernel)) rfl (by decide +kernel), ?_⟩
  refine ⟨sn_iconst (dX_iconst_0 (by decide +kernel)) (by decide +kernel), ?_⟩
  refine ⟨sn_puti (C := RX12) (T := TX12) (N := 56) (idx := 107) rfl pin12 (by decide) (by decide) rfl tyX12 tyX12_ok nmX12 rfl rfl (by decide +kernel) (pmt6 157 rfl (by decide +kernel)) rfl (dX_putfield (by decide +kernel)) (by decide +kernel), ?_⟩
  refine ⟨sn_aload_n (k := 0) (dX_aload_0 (by decide +kernel)) rfl (by decide +kernel), ?_⟩
  refine ⟨sn_callV (idx := 315) (C := RX12) (T := TX12) (N := 56) rfl (by decide) cal_228 (pmt8 64 rfl (by decide +kernel)) (pmt8 66 rfl (by decide +kernel)) (pms 77 rfl rfl) (dX_invokevirtual (by decide +kernel)) (by decide +kernel), ?_⟩
  refine ⟨sn_if_eq (off := 6) (dX_ifeq (by decide +kernel)) (by decide +kernel) (by decide +kernel), ?_⟩
  refine ⟨sn_bipush (dX_bipush (by decide +kernel)) (by decide +kernel) (by decide +kernel), ?_⟩
  refine ⟨sn_iret rfl (dX_ireturn (by decide +kernel)), ?_⟩
  refine ⟨sn_iconst (dX_iconst_0 (by decide +kernel)) (by decide +kernel), ?_⟩
  refine ⟨sn_istore_n (k := 1) (dX_istore_1 (by decide +kernel)) rfl (by decide) (by decide +kernel), ?_⟩
  refine ⟨sn_aload_n (k := 0) (dX_aload_0 (by decide +kernel)) rfl (by decide +kernel), ?_⟩
  refine ⟨sn_callV (idx := 318) (C := RX12) (T := TX12) (N := 56) rfl (by decide) cal_229 (pmt8 68 rfl (by decide +kernel)) (pmt8 70 rfl (by decide +kernel)) (pms 78 rfl rfl) (dX_invokevirtual (by decide +kernel)) (by decide +kernel), ?_⟩
  refine ⟨sn_aload_n (k := 0) (dX_aload_0 (by decide +kernel)) rfl (by decide +kernel), ?_⟩
  refine ⟨sn_callV (idx := 321) (C := RX12) (T := TX12) (N := 56) rfl (by decide) cal_230 (pmt8 72 rfl (by decide +kernel)) (pmt8 74 rfl (by decide +kernel)) (pms 79 rfl rfl) (dX_invokevirtual (by decide +kernel)) (by decide +kernel), ?_⟩
  refine ⟨sn_if_eq (off := 17) (dX_ifeq (by decide +kernel)) (by decide +kernel) (by decide +kernel), ?_⟩
  refine ⟨sn_iload_n (k := 1) (dX_iload_1 (by decide +kernel)) rfl (by decide +kernel), ?_⟩
  refine ⟨sn_if_ne (off := 7) (dX_ifne (by decide +kernel)) (by decide +kernel) (by decide +kernel), ?_⟩
  refine ⟨sn_aload_n (k := 0) (dX_aload_0 (by decide +kernel)) rfl (by decide +kernel), ?_⟩
  refine ⟨sn_callV (idx := 324) (C := RX12) (T := TX12) (N := 56) rfl (by decide) cal_233 (pmt8 80 rfl (by decide +kernel)) (pmt8 82 rfl (by decide +kernel)) (pms 81 rfl rfl) (dX_invokevirtual (by decide +kernel)) (by decide +kernel), ?_⟩
  refine ⟨sn_iinc (dX_iinc (by decide +kernel)) (by decide) (by decide +kernel), ?_⟩
  refine ⟨sn_goto (off := -18) (dX_goto (by decide +kernel)) (by decide +kernel), ?_⟩
  refine ⟨sn_aload_n (k := 0) (dX_aload_0 (by decide +kernel)) rfl (by decide +kernel), ?_⟩
  refine ⟨sn_iconst (dX_iconst_0 (by decide +kernel)) (by decide +kernel), ?_⟩
  refine ⟨sn_puti (C := RX12) (T := TX12) (N := 56) (idx := 110) rfl pin12 (by decide) (by decide) rfl tyX12 tyX12_ok nmX12 rfl rfl (by decide +kernel) (pmt6 156 rfl (by decide +kernel)) rfl (dX_putfield (by decide +kernel)) (by decide +kernel), ?_⟩
  refine ⟨sn_iload_n (k := 1) (dX_iload_1 (by decide +kernel)) rfl (by decide +kernel), ?_⟩
  refine ⟨sn_if_le (off := 11) (dX_ifle (by decide +kernel)) (by decide +kernel) (by decide +kernel), ?_⟩
  refine ⟨sn_aload_n (k := 0) (dX_aload_0 (by decide +kernel)) rfl (by decide +kernel), ?_⟩
  refine ⟨sn_aload_n (k := 0) (dX_aload_0 (by decide +kernel)) rfl (by decide +kernel), ?_⟩
  refine ⟨sn_getf (C := RX12) (T := TX12) (N := 56) (idx := 75) rfl pin12 (by decide) (by decide) rfl (pmt6 181 rfl (by decide +kernel)) rfl (dX_getfield (by decide +kernel)) (by decide +kernel), ?_⟩
  refine ⟨sn_callV (idx := 327) (C := RX12) (T := TX12) (N := 56) rfl (by decide) cal_232 (pmt8 84 rfl (by decide +kernel)) (pmt8 86 rfl (by decide +kernel)) (pms 82 rfl rfl) (dX_invokevirtual (by decide +kernel)) (by decide +kernel), ?_⟩
  refine ⟨sn_iload_n (k := 1) (dX_iload_1 (by decide +kernel)) rfl (by decide +kernel), ?_⟩
  refine ⟨sn_iret rfl (dX_ireturn (by decide +kernel)), ?_⟩
  trivial
set_option maxRecDepth 100000 in
set_option maxHeartbeats 4000000 in
theorem S_235 : pAll (pSk RX12 cX12_worth 1 (some .int) PC_235) 0 C_235 := by
  refine ⟨sn_aload_n (k := 0) (dX_aload_0 (by decide +kernel)) rfl (by decide +kernel), ?_⟩
  refine ⟨sn_iconst (dX_iconst_0 (by decide +kernel)) (by decide +kernel), ?_⟩
  refine ⟨sn_puti (C := RX12) (T := TX12) (N := 56) (idx := 107) rfl pin12 (by decide) (by decide) rfl tyX12 tyX12_ok nmX12 rfl rfl (by decide +kernel) (pmt6 157 rfl (by decide +kernel)) rfl (dX_putfield (by decide +kernel)) (by decide +kernel), ?_⟩
  refine ⟨sn_aload_n (k := 0) (dX_aload_0 (by decide +kernel)) rfl (by decide +kernel), ?_⟩
  refine ⟨sn_aload_n (k := 0) (dX_aload_0 (by decide +kernel)) rfl (by decide +kernel), ?_⟩
  refine ⟨sn_getf (C := RX12) (T := TX12) (N := 56) (idx := 25) rfl pin12 (by decide) (by decide) rfl (pmt6 147 rfl (by decide +kernel)) rfl (dX_getfield (by decide +kernel)) (by decide +kernel), ?_⟩
  refine ⟨sn_callV (idx := 331) (C := RX12) (T := TX12) (N := 56) rfl (by decide) cal_195 (pmt8 92 rfl (by decide +kernel)) (pmt8 94 rfl (by decide +kernel)) (pms 83 rfl rfl) (dX_invokevirtual (by decide +kernel)) (by decide +kernel), ?_⟩
  refine ⟨sn_iret rfl (dX_ireturn (by decide +kernel)), ?_⟩
  trivial
set_option maxRecDepth 100000 in
set_option maxHeartbeats 4000000 in
theorem S_236 : pAll (pSk RX12 cX12_best 4 (some .int) PC_236) 0 C_236 := by
  refine ⟨sn_aload_n (k := 0) (dX_aload_0 (by decide +kernel)) rfl (by decide +kernel), ?_⟩
  refine ⟨sn_iconst (dX_iconst_0 (by decide +kernel)) (by decide +kernel), ?_⟩
  refine ⟨sn_puti (C := RX12) (T := TX12) (N := 56) (idx := 107) rfl pin12 (by decide) (by decide) rfl tyX12 tyX12_ok nmX12 rfl rfl (by decide +kernel) (pmt6 157 rfl (by decide +kernel)) rfl (dX_putfield (by decide +kernel)) (by decide +kernel), ?_⟩
  refine ⟨sn_aload_n (k := 0) (dX_aload_0 (by decide +kernel)) rfl (by decide +kernel), ?_⟩
  refine ⟨sn_callV (idx := 315) (C := RX12) (T := TX12) (N := 56) rfl (by decide) cal_228 (pmt8 64 rfl (by decide +kernel)) (pmt8 66 rfl (by decide +kernel)) (pms 77 rfl rfl) (dX_invokevirtual (by decide +kernel)) (by decide +kernel), ?_⟩
  refine ⟨sn_if_eq (off := 6) (dX_ifeq (by decide +kernel)) (by decide +kernel) (by decide +kernel), ?_⟩
  refine ⟨sn_bipush (dX_bipush (by decide +kernel)) (by decide +kernel) (by decide +kernel), ?_⟩
  refine ⟨sn_iret rfl (dX_ireturn (by decide +kernel)), ?_⟩
  refine ⟨sn_iconst (dX_iconst_0 (by decide +kernel)) (by decide +kernel), ?_⟩
  refine ⟨sn_istore_n (k := 1) (dX_istore_1 (by decide +kernel)) rfl (by decide) (by decide +kernel), ?_⟩
  refine ⟨sn_iconst (dX_iconst_0 (by decide +kernel)) (by decide +kernel), ?_⟩
  refine ⟨sn_istore_n (k := 2) (dX_istore_2 (by decide +kernel)) rfl (by decide) (by decide +kernel), ?_⟩
  refine ⟨sn_aload_n (k := 0) (dX_aload_0 (by decide +kernel)) rfl (by decide +kernel), ?_⟩
  refine ⟨sn_callV (idx := 318) (C := RX12) (T := TX12) (N := 56) rfl (by decide) cal_229 (pmt8 68 rfl (by decide +kernel)) (pmt8 70 rfl (by decide +kernel)) (pms 78 rfl rfl) (dX_invokevirtual (by decide +kernel)) (by decide +kernel), ?_⟩
  refine ⟨sn_aload_n (k := 0) (dX_aload_0 (by decide +kernel)) rfl (by decide +kernel), ?_⟩
  refine ⟨sn_callV (idx := 321) (C := RX12) (T := TX12) (N := 56) rfl (by decide) cal_230 (pmt8 72 rfl (by decide +kernel)) (pmt8 74 rfl (by decide +kernel)) (pms 79 rfl rfl) (dX_invokevirtual (by decide +kernel)) (by decide +kernel), ?_⟩
  refine ⟨sn_if_eq (off := 35) (dX_ifeq (by decide +kernel)) (by decide +kernel) (by decide +kernel), ?_⟩
  refine ⟨sn_aload_n (k := 0) (dX_aload_0 (by decide +kernel)) rfl (by decide +kernel), ?_⟩
  refine ⟨sn_aload_n (k := 0) (dX_aload_0 (by decide +kernel)) rfl (by decide +kernel), ?_⟩
  refine ⟨sn_getf (C := RX12) (T := TX12) (N := 56) (idx := 69) rfl pin12 (by decide) (by decide) rfl (pmt6 176 rfl (by decide +kernel)) rfl (dX_getfield (by decide +kernel)) (by decide +kernel), ?_⟩
  refine ⟨sn_callV (idx := 331) (C := RX12) (T := TX12) (N := 56) rfl (by decide) cal_195 (pmt8 92 rfl (by decide +kernel)) (pmt8 94 rfl (by decide +kernel)) (pms 83 rfl rfl) (dX_invokevirtual (by decide +kernel)) (by decide +kernel), ?_⟩
  refine ⟨sn_istore_n (k := 3) (dX_istore_3 (by decide +kernel)) rfl (by decide) (by decide +kernel), ?_⟩
  refine ⟨sn_iload_n (k := 1) (dX_iload_1 (by decide +kernel)) rfl (by decide +kernel), ?_⟩
  refine ⟨sn_if_eq (off := 11) (dX_ifeq (by decide +kernel)) (by decide +kernel) (by decide +kernel), ?_⟩
  refine ⟨sn_iload_n (k := 3) (dX_iload_3 (by decide +kernel)) rfl (by decide +kernel), ?_⟩
  refine ⟨sn_iload_n (k := 2) (dX_iload_2 (by decide +kernel)) rfl (by decide +kernel), ?_⟩
  refine ⟨sn_icmp_gt (off := 6) (dX_if_icmpgt (by decide +kernel)) (by decide +kernel) (by decide +kernel), ?_⟩
  refine ⟨sn_goto (off := -25) (dX_goto (by decide +kernel)) (by decide +kernel), ?_⟩
  refine ⟨sn_iconst (dX_iconst_1 (by decide +kernel)) (by decide +kernel), ?_⟩
  refine ⟨sn_istore_n (k := 1) (dX_istore_1 (by decide +kernel)) rfl (by decide) (by decide +kernel), ?_⟩
  refine ⟨sn_iload_n (k := 3) (dX_iload_3 (by decide +kernel)) rfl (by decide +kernel), ?_⟩
  refine ⟨sn_istore_n (k := 2) (dX_istore_2 (by decide +kernel)) rfl (by decide) (by decide +kernel), ?_⟩
  refine ⟨sn_aload_n (k := 0) (dX_aload_0 (by decide +kernel)) rfl (by decide +kernel), ?_⟩
  refine ⟨sn_callV (idx := 324) (C := RX12) (T := TX12) (N := 56) rfl (by decide) cal_233 (pmt8 80 rfl (by decide +kernel)) (pmt8 82 rfl (by decide +kernel)) (pms 81 rfl rfl) (dX_invokevirtual (by decide +kernel)) (by decide +kernel), ?_⟩
  refine ⟨sn_goto (off := -36) (dX_goto (by decide +kernel)) (by decide +kernel), ?_⟩
  refine ⟨sn_iload_n (k := 1) (dX_iload_1 (by decide +kernel)) rfl (by decide +kernel), ?_⟩
  refine ⟨sn_if_ne (off := 6) (dX_ifne (by decide +kernel)) (by decide +kernel) (by decide +kernel), ?_⟩
  refine ⟨sn_bipush (dX_bipush (by decide +kernel)) (by decide +kernel) (by decide +kernel), ?_⟩
  refine ⟨sn_iret rfl (dX_ireturn (by decide +kernel)), ?_⟩
  refine ⟨sn_aload_n (k := 0) (dX_aload_0 (by decide +kernel)) rfl (by decide +kernel), ?_⟩
  refine ⟨sn_iconst (dX_iconst_0 (by decide +kernel)) (by decide +kernel), ?_⟩
  refine ⟨sn_puti (C := RX12) (T := TX12) (N := 56) (idx := 110) rfl pin12 (by decide) (by decide) rfl tyX12 tyX12_ok nmX12 rfl rfl (by decide +kernel) (pmt6 156 rfl (by decide +kernel)) rfl (dX_putfield (by decide +kernel)) (by decide +kernel), ?_⟩
  refine ⟨sn_aload_n (k := 0) (dX_aload_0 (by decide +kernel)) rfl (by decide +kernel), ?_⟩
  refine ⟨sn_iload_n (k := 2) (dX_iload_2 (by decide +kernel)) rfl (by decide +kernel), ?_⟩
  refine ⟨sn_callV (idx := 294) (C := RX12) (T := TX12) (N := 56) rfl (by decide) cal_172 (pmt8 12 rfl (by decide +kernel)) (pmt8 14 rfl (by decide +kernel)) (pms 73 rfl rfl) (dX_invokevirtual (by decide +kernel)) (by decide +kernel), ?_⟩
  refine ⟨sn_aload_n (k := 0) (dX_aload_0 (by decide +kernel)) rfl (by decide +kernel), ?_⟩
  refine ⟨sn_aload_n (k := 0) (dX_aload_0 (by decide +kernel)) rfl (by decide +kernel), ?_⟩
  refine ⟨sn_getf (C := RX12) (T := TX12) (N := 56) (idx := 75) rfl pin12 (by decide) (by decide) rfl (pmt6 181 rfl (by decide +kernel)) rfl (dX_getfield (by decide +kernel)) (by decide +kernel), ?_⟩
  refine ⟨sn_callV (idx := 327) (C := RX12) (T := TX12) (N := 56) rfl (by decide) cal_232 (pmt8 84 rfl (by decide +kernel)) (pmt8 86 rfl (by decide +kernel)) (pms 82 rfl rfl) (dX_invokevirtual (by decide +kernel)) (by decide +kernel), ?_⟩
  refine ⟨sn_iconst (dX_iconst_1 (by decide +kernel)) (by decide +kernel), ?_⟩
  refine ⟨sn_iret rfl (dX_ireturn (by decide +kernel)), ?_⟩
  trivial
set_option maxRecDepth 100000 in
set_option maxHeartbeats 4000000 in
theorem S_237 : pAll (pSk RX12 cX12_nearest 5 (some .int) PC_237) 0 C_237 := by
  refine ⟨sn_aload_n (k := 0) (dX_aload_0 (by decide +kernel)) rfl (by decide +kernel), ?_⟩
  refine ⟨sn_callV (idx := 315) (C := RX12) (T := TX12) (N := 56) rfl (by decide) cal_228 (pmt8 64 rfl (by decide +kernel)) (pmt8 66 rfl (by decide +kernel)) (pms 77 rfl rfl) (dX_invokevirtual (by decide +kernel)) (by decide +kernel), ?_⟩
  refine ⟨sn_if_eq (off := 6) (dX_ifeq (by decide +kernel)) (by decide +kernel) (by decide +kernel), ?_⟩
  refine ⟨sn_bipush (dX_bipush (by decide +kernel)) (by decide +kernel) (by decide +kernel), ?_⟩
  refine ⟨sn_iret rfl (dX_ireturn (by decide +kernel)), ?_⟩
  refine ⟨sn_ldcw (idx := 258) (dX_ldc_w (by decide +kernel)) (pmt7 230 rfl (by decide +kernel)) (by decide +kernel), ?_⟩
  refine ⟨sn_istore_n (k := 3) (dX_istore_3 (by decide +kernel)) rfl (by decide) (by decide +kernel), ?_⟩
  refine ⟨sn_aload_n (k := 0) (dX_aload_0 (by decide +kernel)) rfl (by decide +kernel), ?_⟩
  refine ⟨sn_callV (idx := 318) (C := RX12) (T := TX12) (N := 56) rfl (by decide) cal_229 (pmt8 68 rfl (by decide +kernel)) (pmt8 70 rfl (by decide +kernel)) (pms 78 rfl rfl) (dX_invokevirtual (by decide +kernel)) (by decide +kernel), ?_⟩
  refine ⟨sn_aload_n (k := 0) (dX_aload_0 (by decide +kernel)) rfl (by decide +kernel), ?_⟩
  refine ⟨sn_callV (idx := 321) (C := RX12) (T := TX12) (N := 56) rfl (by decide) cal_230 (pmt8 72 rfl (by decide +kernel)) (pmt8 74 rfl (by decide +kernel)) (pms 79 rfl rfl) (dX_invokevirtual (by decide +kernel)) (by decide +kernel), ?_⟩
  refine ⟨sn_if_eq (off := 59) (dX_ifeq (by decide +kernel)) (by decide +kernel) (by decide +kernel), ?_⟩
  refine ⟨sn_iload_n (k := 1) (dX_iload_1 (by decide +kernel)) rfl (by decide +kernel), ?_⟩
  refine ⟨sn_iconst (dX_iconst_m1 (by decide +kernel)) (by decide +kernel), ?_⟩
  refine ⟨sn_icmp_eq (off := 19) (dX_if_icmpeq (by decide +kernel)) (by decide +kernel) (by decide +kernel), ?_⟩
  refine ⟨sn_aload_n (k := 0) (dX_aload_0 (by decide +kernel)) rfl (by decide +kernel), ?_⟩
  refine ⟨sn_aload_n (k := 0) (dX_aload_0 (by decide +kernel)) rfl (by decide +kernel), ?_⟩
  refine ⟨sn_getf (C := RX12) (T := TX12) (N := 56) (idx := 69) rfl pin12 (by decide) (by decide) rfl (pmt6 176 rfl (by decide +kernel)) rfl (dX_getfield (by decide +kernel)) (by decide +kernel), ?_⟩
  refine ⟨sn_iload_n (k := 1) (dX_iload_1 (by decide +kernel)) rfl (by decide +kernel), ?_⟩
  refine ⟨sn_callV (idx := 245) (C := RX12) (T := TX12) (N := 56) rfl (by decide) cal_198 (pmt7 172 rfl (by decide +kernel)) (pmt7 174 rfl (by decide +kernel)) (pms 62 rfl rfl) (dX_invokevirtual (by decide +kernel)) (by decide +kernel), ?_⟩
  refine ⟨sn_iload_n (k := 2) (dX_iload_2 (by decide +kernel)) rfl (by decide +kernel), ?_⟩
  refine ⟨sn_icmp_ge (off := 6) (dX_if_icmpge (by decide +kernel)) (by decide +kernel) (by decide +kernel), ?_⟩
  refine ⟨sn_goto (off := -25) (dX_goto (by decide +kernel)) (by decide +kernel), ?_⟩
  refine ⟨sn_aload_n (k := 0) (dX_aload_0 (by decide +kernel)) rfl (by decide +kernel), ?_⟩
  refine ⟨sn_aload_n (k := 0) (dX_aload_0 (by decide +kernel)) rfl (by decide +kernel), ?_⟩
  refine ⟨sn_getf (C := RX12) (T := TX12) (N := 56) (idx := 25) rfl pin12 (by decide) (by decide) rfl (pmt6 147 rfl (by decide +kernel)) rfl (dX_getfield (by decide +kernel)) (by decide +kernel), ?_⟩
  refine ⟨sn_iconst (dX_iconst_0 (by decide +kernel)) (by decide +kernel), ?_⟩
  refine ⟨sn_aload_n (k := 0) (dX_aload_0 (by decide +kernel)) rfl (by decide +kernel), ?_⟩
  refine ⟨sn_getf (C := RX12) (T := TX12) (N := 56) (idx := 69) rfl pin12 (by decide) (by decide) rfl (pmt6 176 rfl (by decide +kernel)) rfl (dX_getfield (by decide +kernel)) (by decide +kernel), ?_⟩
  refine ⟨sn_iconst (dX_iconst_0 (by decide +kernel)) (by decide +kernel), ?_⟩
  refine ⟨sn_callV (idx := 334) (C := RX12) (T := TX12) (N := 56) rfl (by decide) cal_209 (pmt8 108 rfl (by decide +kernel)) (pmt8 110 rfl (by decide +kernel)) (pms 85 rfl rfl) (dX_invokevirtual (by decide +kernel)) (by decide +kernel), ?_⟩
  refine ⟨sn_istore (dX_istore (by decide +kernel)) (by decide) (by decide +kernel), ?_⟩
  refine ⟨sn_iload (dX_iload (by decide +kernel)) (by decide +kernel), ?_⟩
  refine ⟨sn_iload_n (k := 3) (dX_iload_3 (by decide +kernel)) rfl (by decide +kernel), ?_⟩
  refine ⟨sn_icmp_lt (off := 6) (dX_if_icmplt (by decide +kernel)) (by decide +kernel) (by decide +kernel), ?_⟩
  refine ⟨sn_goto (off := -50) (dX_goto (by decide +kernel)) (by decide +kernel), ?_⟩
  refine ⟨sn_iload (dX_iload (by decide +kernel)) (by decide +kernel), ?_⟩
  refine ⟨sn_istore_n (k := 3) (dX_istore_3 (by decide +kernel)) rfl (by decide) (by decide +kernel), ?_⟩
  refine ⟨sn_aload_n (k := 0) (dX_aload_0 (by decide +kernel)) rfl (by decide +kernel), ?_⟩
  refine ⟨sn_callV (idx := 324) (C := RX12) (T := TX12) (N := 56) rfl (by decide) cal_233 (pmt8 80 rfl (by decide +kernel)) (pmt8 82 rfl (by decide +kernel)) (pms 81 rfl rfl) (dX_invokevirtual (by decide +kernel)) (by decide +kernel), ?_⟩
  refine ⟨sn_goto (off := -60) (dX_goto (by decide +kernel)) (by decide +kernel), ?_⟩
  refine ⟨sn_iload_n (k := 3) (dX_iload_3 (by decide +kernel)) rfl (by decide +kernel), ?_⟩
  refine ⟨sn_ldcw (idx := 258) (dX_ldc_w (by decide +kernel)) (pmt7 230 rfl (by decide +kernel)) (by decide +kernel), ?_⟩
  refine ⟨sn_icmp_ne (off := 6) (dX_if_icmpne (by decide +kernel)) (by decide +kernel) (by decide +kernel), ?_⟩
  refine ⟨sn_bipush (dX_bipush (by decide +kernel)) (by decide +kernel) (by decide +kernel), ?_⟩
  refine ⟨sn_iret rfl (dX_ireturn (by decide +kernel)), ?_⟩
  refine ⟨sn_aload_n (k := 0) (dX_aload_0 (by decide +kernel)) rfl (by decide +kernel), ?_⟩
  refine ⟨sn_iconst (dX_iconst_0 (by decide +kernel)) (by decide +kernel), ?_⟩
  refine ⟨sn_puti (C := RX12) (T := TX12) (N := 56) (idx := 110) rfl pin12 (by decide) (by decide) rfl tyX12 tyX12_ok nmX12 rfl rfl (by decide +kernel) (pmt6 156 rfl (by decide +kernel)) rfl (dX_putfield (by decide +kernel)) (by decide +kernel), ?_⟩
  refine ⟨sn_aload_n (k := 0) (dX_aload_0 (by decide +kernel)) rfl (by decide +kernel), ?_⟩
  refine ⟨sn_aload_n (k := 0) (dX_aload_0 (by decide +kernel)) rfl (by decide +kernel), ?_⟩
  refine ⟨sn_getf (C := RX12) (T := TX12) (N := 56) (idx := 75) rfl pin12 (by decide) (by decide) rfl (pmt6 181 rfl (by decide +kernel)) rfl (dX_getfield (by decide +kernel)) (by decide +kernel), ?_⟩
  refine ⟨sn_callV (idx := 327) (C := RX12) (T := TX12) (N := 56) rfl (by decide) cal_232 (pmt8 84 rfl (by decide +kernel)) (pmt8 86 rfl (by decide +kernel)) (pms 82 rfl rfl) (dX_invokevirtual (by decide +kernel)) (by decide +kernel), ?_⟩
  refine ⟨sn_iload_n (k := 3) (dX_iload_3 (by decide +kernel)) rfl (by decide +kernel), ?_⟩
  refine ⟨sn_iret rfl (dX_ireturn (by decide +kernel)), ?_⟩
  trivial
set_option maxRecDepth 100000 in
set_option maxHeartbeats 4000000 in
theorem S_238 : pAll (pSk RX12 cX12_near 1 (some .int) PC_238) 0 C_238 := by
  refine ⟨sn_aload_n (k := 0) (dX_aload_0 (by decide +kernel)) rfl (by decide +kernel), ?_⟩
  refine ⟨sn_iconst (dX_iconst_0 (by decide +kernel)) (by decide +kernel), ?_⟩
  refine ⟨sn_puti (C := RX12) (T := TX12) (N := 56) (idx := 107) rfl pin12 (by decide) (by decide) rfl tyX12 tyX12_ok nmX12 rfl rfl (by decide +kernel) (pmt6 157 rfl (by decide +kernel)) rfl (dX_putfield (by decide +kernel)) (by decide +kernel), ?_⟩
  refine ⟨sn_aload_n (k := 0) (dX_aload_0 (by decide +kernel)) rfl (by decide +kernel), ?_⟩
  refine ⟨sn_iconst (dX_iconst_m1 (by decide +kernel)) (by decide +kernel), ?_⟩
  refine ⟨sn_iconst (dX_iconst_0 (by decide +kernel)) (by decide +kernel), ?_⟩
  refine ⟨sn_callV (idx := 338) (C := RX12) (T := TX12) (N := 56) rfl (by decide) cal_237 (pmt8 104 rfl (by decide +kernel)) (pmt8 106 rfl (by decide +kernel)) (pms 84 rfl rfl) (dX_invokevirtual (by decide +kernel)) (by decide +kernel), ?_⟩
  refine ⟨sn_iret rfl (dX_ireturn (by decide +kernel)), ?_⟩
  trivial
set_option maxRecDepth 100000 in
set_option maxHeartbeats 4000000 in
theorem S_239 : pAll (pSk RX12 cX12_guest 3 (some .int) PC_239) 0 C_239 := by
  refine ⟨sn_aload_n (k := 0) (dX_aload_0 (by decide +kernel)) rfl (by decide +kernel), ?_⟩
  refine ⟨sn_iconst (dX_iconst_0 (by decide +kernel)) (by decide +kernel), ?_⟩
  refine ⟨sn_puti (C := RX12) (T := TX12) (N := 56) (idx := 107) rfl pin12 (by decide) (by decide) rfl tyX12 tyX12_ok nmX12 rfl rfl (by decide +kernel) (pmt6 157 rfl (by decide +kernel)) rfl (dX_putfield (by decide +kernel)) (by decide +kernel), ?_⟩
  refine ⟨sn_aload_n (k := 0) (dX_aload_0 (by decide +kernel)) rfl (by decide +kernel), ?_⟩
  refine ⟨sn_iload_n (k := 1) (dX_iload_1 (by decide +kernel)) rfl (by decide +kernel), ?_⟩
  refine ⟨sn_callV (idx := 238) (C := RX12) (T := TX12) (N := 56) rfl (by decide) cal_173 (pmt7 164 rfl (by decide +kernel)) (pmt7 166 rfl (by decide +kernel)) (pms 60 rfl rfl) (dX_invokevirtual (by decide +kernel)) (by decide +kernel), ?_⟩
  refine ⟨sn_if_eq (off := 22) (dX_ifeq (by decide +kernel)) (by decide +kernel) (by decide +kernel), ?_⟩
  refine ⟨sn_iload_n (k := 2) (dX_iload_2 (by decide +kernel)) rfl (by decide +kernel), ?_⟩
  refine ⟨sn_iconst (dX_iconst_0 (by decide +kernel)) (by decide +kernel), ?_⟩
  refine ⟨sn_bipush (dX_bipush (by decide +kernel)) (by decide +kernel) (by decide +kernel), ?_⟩
  refine ⟨sn_callS (idx := 116) cal_169 (pmt7 77 rfl (by decide +kernel)) (pmt7 78 rfl (by decide +kernel)) (dX_invokestatic (by decide +kernel)) (by decide +kernel), ?_⟩
  refine ⟨sn_if_eq (off := 12) (dX_ifeq (by decide +kernel)) (by decide +kernel) (by decide +kernel), ?_⟩
  refine ⟨sn_aload_n (k := 0) (dX_aload_0 (by decide +kernel)) rfl (by decide +kernel), ?_⟩
  refine ⟨sn_iload_n (k := 1) (dX_iload_1 (by decide +kernel)) rfl (by decide +kernel), ?_⟩
  refine ⟨sn_iload_n (k := 2) (dX_iload_2 (by decide +kernel)) rfl (by decide +kernel), ?_⟩
  refine ⟨sn_callV (idx := 338) (C := RX12) (T := TX12) (N := 56) rfl (by decide) cal_237 (pmt8 104 rfl (by decide +kernel)) (pmt8 106 rfl (by decide +kernel)) (pms 84 rfl rfl) (dX_invokevirtual (by decide +kernel)) (by decide +kernel), ?_⟩
  refine ⟨sn_goto (off := 4) (dX_goto (by decide +kernel)) (by decide +kernel), ?_⟩
  refine ⟨sn_iconst (dX_iconst_m1 (by decide +kernel)) (by decide +kernel), ?_⟩
  refine ⟨sn_iret rfl (dX_ireturn (by decide +kernel)), ?_⟩
  trivial
set_option maxRecDepth 100000 in
set_option maxHeartbeats 4000000 in
theorem S_240 : pAll (pSk RX12 cX12_space 5 (some .int) PC_240) 0 C_240 := by
  refine ⟨sn_aload_n (k := 0) (dX_aload_0 (by decide +kernel)) rfl (by decide +kernel), ?_⟩
  refine ⟨sn_iconst (dX_iconst_0 (by decide +kernel)) (by decide +kernel), ?_⟩
  refine ⟨sn_puti (C := RX12) (T := TX12) (N := 56) (idx := 107) rfl pin12 (by decide) (by decide) rfl tyX12 tyX12_ok nmX12 rfl rfl (by decide +kernel) (pmt6 157 rfl (by decide +kernel)) rfl (dX_putfield (by decide +kernel)) (by decide +kernel), ?_⟩
  refine ⟨sn_aload_n (k := 0) (dX_aload_0 (by decide +kernel)) rfl (by decide +kernel), ?_⟩
  refine ⟨sn_getf (C := RX12) (T := TX12) (N := 56) (idx := 113) rfl pin12 (by decide) (by decide) rfl (pmt6 140 rfl (by decide +kernel)) rfl (dX_getfield (by decide +kernel)) (by decide +kernel), ?_⟩
  refine ⟨sn_if_ne (off := 6) (dX_ifne (by decide +kernel)) (by decide +kernel) (by decide +kernel), ?_⟩
  refine ⟨sn_bipush (dX_bipush (by decide +kernel)) (by decide +kernel) (by decide +kernel), ?_⟩
  refine ⟨sn_iret rfl (dX_ireturn (by decide +kernel)), ?_⟩
  refine ⟨sn_aload_n (k := 0) (dX_aload_0 (by decide +kernel)) rfl (by decide +kernel), ?_⟩
  refine ⟨sn_callV (idx := 315) (C := RX12) (T := TX12) (N := 56) rfl (by decide) cal_228 (pmt8 64 rfl (by decide +kernel)) (pmt8 66 rfl (by decide +kernel)) (pms 77 rfl rfl) (dX_invokevirtual (by decide +kernel)) (by decide +kernel), ?_⟩
  refine ⟨sn_if_eq (off := 6) (dX_ifeq (by decide +kernel)) (by decide +kernel) (by decide +kernel), ?_⟩
  refine ⟨sn_bipush (dX_bipush (by decide +kernel)) (by decide +kernel) (by decide +kernel), ?_⟩
  refine ⟨sn_iret rfl (dX_ireturn (by decide +kernel)), ?_⟩
  refine ⟨sn_iconst (dX_iconst_m1 (by decide +kernel)) (by decide +kernel), ?_⟩
  refine ⟨sn_istore_n (k := 1) (dX_istore_1 (by decide +kernel)) rfl (by decide) (by decide +kernel), ?_⟩
  refine ⟨sn_iconst (dX_iconst_0 (by decide +kernel)) (by decide +kernel), ?_⟩
  refine ⟨sn_istore_n (k := 2) (dX_istore_2 (by decide +kernel)) rfl (by decide) (by decide +kernel), ?_⟩
  refine ⟨sn_aload_n (k := 0) (dX_aload_0 (by decide +kernel)) rfl (by decide +kernel), ?_⟩
  refine ⟨sn_callV (idx := 318) (C := RX12) (T := TX12) (N := 56) rfl (by decide) cal_229 (pmt8 68 rfl (by decide +kernel)) (pmt8 70 rfl (by decide +kernel)) (pms 78 rfl rfl) (dX_invokevirtual (by decide +kernel)) (by decide +kernel), ?_⟩
  refine ⟨sn_aload_n (k := 0) (dX_aload_0 (by decide +kernel)) rfl (by decide +kernel), ?_⟩
  refine ⟨sn_callV (idx := 321) (C := RX12) (T := TX12) (N := 56) rfl (by decide) cal_230 (pmt8 72 rfl (by decide +kernel)) (pmt8 74 rfl (by decide +kernel)) (pms 79 rfl rfl) (dX_invokevirtual (by decide +kernel)) (by decide +kernel), ?_⟩
  refine ⟨sn_if_eq (off := 62) (dX_ifeq (by decide +kernel)) (by decide +kernel) (by decide +kernel), ?_⟩
  refine ⟨sn_iconst (dX_iconst_0 (by decide +kernel)) (by decide +kernel), ?_⟩
  refine ⟨sn_istore_n (k := 3) (dX_istore_3 (by decide +kernel)) rfl (by decide) (by decide +kernel), ?_⟩
  refine ⟨sn_iload_n (k := 3) (dX_iload_3 (by decide +kernel)) rfl (by decide +kernel), ?_⟩
  refine ⟨sn_aload_n (k := 0) (dX_aload_0 (by decide +kernel)) rfl (by decide +kernel), ?_⟩
  refine ⟨sn_getf (C := RX12) (T := TX12) (N := 56) (idx := 113) rfl pin12 (by decide) (by decide) rfl (pmt6 140 rfl (by decide +kernel)) rfl (dX_getfield (by decide +kernel)) (by decide +kernel), ?_⟩
  refine ⟨sn_icmp_ge (off := 49) (dX_if_icmpge (by decide +kernel)) (by decide +kernel) (by decide +kernel), ?_⟩
  refine ⟨sn_aload_n (k := 0) (dX_aload_0 (by decide +kernel)) rfl (by decide +kernel), ?_⟩
  refine ⟨sn_aload_n (k := 0) (dX_aload_0 (by decide +kernel)) rfl (by decide +kernel), ?_⟩
  refine ⟨sn_getf (C := RX12) (T := TX12) (N := 56) (idx := 69) rfl pin12 (by decide) (by decide) rfl (pmt6 176 rfl (by decide +kernel)) rfl (dX_getfield (by decide +kernel)) (by decide +kernel), ?_⟩
  refine ⟨sn_iload_n (k := 3) (dX_iload_3 (by decide +kernel)) rfl (by decide +kernel), ?_⟩
  refine ⟨sn_callV (idx := 245) (C := RX12) (T := TX12) (N := 56) rfl (by decide) cal_198 (pmt7 172 rfl (by decide +kernel)) (pmt7 174 rfl (by decide +kernel)) (pms 62 rfl rfl) (dX_invokevirtual (by decide +kernel)) (by decide +kernel), ?_⟩
  refine ⟨sn_istore (dX_istore (by decide +kernel)) (by decide) (by decide +kernel), ?_⟩
  refine ⟨sn_iload (dX_iload (by decide +kernel)) (by decide +kernel), ?_⟩
  refine ⟨sn_iload_n (k := 1) (dX_iload_1 (by decide +kernel)) rfl (by decide +kernel), ?_⟩
  refine ⟨sn_icmp_lt (off := 26) (dX_if_icmplt (by decide +kernel)) (by decide +kernel) (by decide +kernel), ?_⟩
  refine ⟨sn_iload (dX_iload (by decide +kernel)) (by decide +kernel), ?_⟩
  refine ⟨sn_iload_n (k := 1) (dX_iload_1 (by decide +kernel)) rfl (by decide +kernel), ?_⟩
  refine ⟨sn_icmp_ne (off := 11) (dX_if_icmpne (by decide +kernel)) (by decide +kernel) (by decide +kernel), ?_⟩
  refine ⟨sn_iload_n (k := 3) (dX_iload_3 (by decide +kernel)) rfl (by decide +kernel), ?_⟩
  refine ⟨sn_iload_n (k := 2) (dX_iload_2 (by decide +kernel)) rfl (by decide +kernel), ?_⟩
  refine ⟨sn_icmp_lt (off := 6) (dX_if_icmplt (by decide +kernel)) (by decide +kernel) (by decide +kernel), ?_⟩
  refine ⟨sn_goto (off := 12) (dX_goto (by decide +kernel)) (by decide +kernel), ?_⟩
  refine ⟨sn_iload (dX_iload (by decide +kernel)) (by decide +kernel), ?_⟩
  refine ⟨sn_istore_n (k := 1) (dX_istore_1 (by decide +kernel)) rfl (by decide) (by decide +kernel), ?_⟩
  refine ⟨sn_iload_n (k := 3) (dX_iload_3 (by decide +kernel)) rfl (by decide +kernel), ?_⟩
  refine ⟨sn_istore_n (k := 2) (dX_istore_2 (by decide +kernel)) rfl (by decide) (by decide +kernel), ?_⟩
  refine ⟨sn_aload_n (k := 0) (dX_aload_0 (by decide +kernel)) rfl (by decide +kernel), ?_⟩
  refine ⟨sn_callV (idx := 324) (C := RX12) (T := TX12) (N := 56) rfl (by decide) cal_233 (pmt8 80 rfl (by decide +kernel)) (pmt8 82 rfl (by decide +kernel)) (pms 81 rfl rfl) (dX_invokevirtual (by decide +kernel)) (by decide +kernel), ?_⟩
  refine ⟨sn_iinc (dX_iinc (by decide +kernel)) (by decide) (by decide +kernel), ?_⟩
  refine ⟨sn_goto (off := -51) (dX_goto (by decide +kernel)) (by decide +kernel), ?_⟩
  refine ⟨sn_goto (off := -63) (dX_goto (by decide +kernel)) (by decide +kernel), ?_⟩
  refine ⟨sn_iload_n (k := 1) (dX_iload_1 (by decide +kernel)) rfl (by decide +kernel), ?_⟩
  refine ⟨sn_iconst (dX_iconst_m1 (by decide +kernel)) (by decide +kernel), ?_⟩
  refine ⟨sn_icmp_ne (off := 6) (dX_if_icmpne (by decide +kernel)) (by decide +kernel) (by decide +kernel), ?_⟩
  refine ⟨sn_bipush (dX_bipush (by decide +kernel)) (by decide +kernel) (by decide +kernel), ?_⟩
  refine ⟨sn_iret rfl (dX_ireturn (by decide +kernel)), ?_⟩
  refine ⟨sn_aload_n (k := 0) (dX_aload_0 (by decide +kernel)) rfl (by decide +kernel), ?_⟩
  refine ⟨sn_iconst (dX_iconst_0 (by decide +kernel)) (by decide +kernel), ?_⟩
  refine ⟨sn_puti (C := RX12) (T := TX12) (N := 56) (idx := 110) rfl pin12 (by decide) (by decide) rfl tyX12 tyX12_ok nmX12 rfl rfl (by decide +kernel) (pmt6 156 rfl (by decide +kernel)) rfl (dX_putfield (by decide +kernel)) (by decide +kernel), ?_⟩
  refine ⟨sn_aload_n (k := 0) (dX_aload_0 (by decide +kernel)) rfl (by decide +kernel), ?_⟩
  refine ⟨sn_iload_n (k := 2) (dX_iload_2 (by decide +kernel)) rfl (by decide +kernel), ?_⟩
  refine ⟨sn_callV (idx := 294) (C := RX12) (T := TX12) (N := 56) rfl (by decide) cal_172 (pmt8 12 rfl (by decide +kernel)) (pmt8 14 rfl (by decide +kernel)) (pms 73 rfl rfl) (dX_invokevirtual (by decide +kernel)) (by decide +kernel), ?_⟩
  refine ⟨sn_aload_n (k := 0) (dX_aload_0 (by decide +kernel)) rfl (by decide +kernel), ?_⟩
  refine ⟨sn_aload_n (k := 0) (dX_aload_0 (by decide +kernel)) rfl (by decide +kernel), ?_⟩
  refine ⟨sn_getf (C := RX12) (T := TX12) (N := 56) (idx := 75) rfl pin12 (by decide) (by decide) rfl (pmt6 181 rfl (by decide +kernel)) rfl (dX_getfield (by decide +kernel)) (by decide +kernel), ?_⟩
  refine ⟨sn_callV (idx := 327) (C := RX12) (T := TX12) (N := 56) rfl (by decide) cal_232 (pmt8 84 rfl (by decide +kernel)) (pmt8 86 rfl (by decide +kernel)) (pms 82 rfl rfl) (dX_invokevirtual (by decide +kernel)) (by decide +kernel), ?_⟩
  refine ⟨sn_iload_n (k := 1) (dX_iload_1 (by decide +kernel)) rfl (by decide +kernel), ?_⟩
  refine ⟨sn_iret rfl (dX_ireturn (by decide +kernel)), ?_⟩
  trivial
set_option maxRecDepth 100000 in
set_option maxHeartbeats 4000000 in
theorem S_241 : pAll (pSk RX12 cX12_could 8 (some .int) PC_241) 0 C_241 := by
  refine ⟨sn_aload_n (k := 0) (dX_aload_0 (by decide +kernel)) rfl (by decide +kernel), ?_⟩
  refine ⟨sn_iconst (dX_iconst_0 (by decide +kernel)) (by decide +kernel), ?_⟩
  refine ⟨sn_puti (C := RX12) (T := TX12) (N := 56) (idx := 107) rfl pin12 (by decide) (by decide) rfl tyX12 tyX12_ok nmX12 rfl rfl (by decide +kernel) (pmt6 157 rfl (by decide +kernel)) rfl (dX_putfield (by decide +kernel)) (by decide +kernel), ?_⟩
  refine ⟨sn_iload_n (k := 1) (dX_iload_1 (by decide +kernel)) rfl (by decide +kernel), ?_⟩
  refine ⟨sn_iconst (dX_iconst_1 (by decide +kernel)) (by decide +kernel), ?_⟩
  refine ⟨sn_bipush (dX_bipush (by decide +kernel)) (by decide +kernel) (by decide +kernel), ?_⟩
  refine ⟨sn_callS (idx := 116) cal_169 (pmt7 77 rfl (by decide +kernel)) (pmt7 78 rfl (by decide +kernel)) (dX_invokestatic (by decide +kernel)) (by decide +kernel), ?_⟩
  refine ⟨sn_if_eq (off := 19) (dX_ifeq (by decide +kernel)) (by decide +kernel) (by decide +kernel), ?_⟩
  refine ⟨sn_iload_n (k := 2) (dX_iload_2 (by decide +kernel)) rfl (by decide +kernel), ?_⟩
  refine ⟨sn_iconst (dX_iconst_0 (by decide +kernel)) (by decide +kernel), ?_⟩
  refine ⟨sn_iconst (dX_iconst_1 (by decide +kernel)) (by decide +kernel), ?_⟩
  refine ⟨sn_aload_n (k := 0) (dX_aload_0 (by decide +kernel)) rfl (by decide +kernel), ?_⟩
  refine ⟨sn_getf (C := RX12) (T := TX12) (N := 56) (idx := 161) rfl pin12 (by decide) (by decide) rfl (pmt6 148 rfl (by decide +kernel)) rfl (dX_getfield (by decide +kernel)) (by decide +kernel), ?_⟩
  refine ⟨sn_ishl (dX_ishl (by decide +kernel)) (by decide +kernel), ?_⟩
  refine ⟨sn_iconst (dX_iconst_1 (by decide +kernel)) (by decide +kernel), ?_⟩
  refine ⟨sn_isub (dX_isub (by decide +kernel)) (by decide +kernel), ?_⟩
  refine ⟨sn_callS (idx := 116) cal_169 (pmt7 77 rfl (by decide +kernel)) (pmt7 78 rfl (by decide +kernel)) (dX_invokestatic (by decide +kernel)) (by decide +kernel), ?_⟩
  refine ⟨sn_if_ne (off := 5) (dX_ifne (by decide +kernel)) (by decide +kernel) (by decide +kernel), ?_⟩
  refine ⟨sn_iconst (dX_iconst_m1 (by decide +kernel)) (by decide +kernel), ?_⟩
  refine ⟨sn_iret rfl (dX_ireturn (by decide +kernel)), ?_⟩
  refine ⟨sn_aload_n (k := 0) (dX_aload_0 (by decide +kernel)) rfl (by decide +kernel), ?_⟩
  refine ⟨sn_callV (idx := 315) (C := RX12) (T := TX12) (N := 56) rfl (by decide) cal_228 (pmt8 64 rfl (by decide +kernel)) (pmt8 66 rfl (by decide +kernel)) (pms 77 rfl rfl) (dX_invokevirtual (by decide +kernel)) (by decide +kernel), ?_⟩
  refine ⟨sn_if_eq (off := 6) (dX_ifeq (by decide +kernel)) (by decide +kernel) (by decide +kernel), ?_⟩
  refine ⟨sn_bipush (dX_bipush (by decide +kernel)) (by decide +kernel) (by decide +kernel), ?_⟩
  refine ⟨sn_iret rfl (dX_ireturn (by decide +kernel)), ?_⟩
  refine ⟨sn_iconst (dX_iconst_0 (by decide +kernel)) (by decide +kernel), ?_⟩
  refine ⟨sn_istore_n (k := 3) (dX_istore_3 (by decide +kernel)) rfl (by decide) (by decide +kernel), ?_⟩
  refine ⟨sn_iconst (dX_iconst_0 (by decide +kernel)) (by decide +kernel), ?_⟩
  refine ⟨sn_istore (dX_istore (by decide +kernel)) (by decide) (by decide +kernel), ?_⟩
  refine ⟨sn_iload (dX_iload (by decide +kernel)) (by decide +kernel), ?_⟩
  refine ⟨sn_aload_n (k := 0) (dX_aload_0 (by decide +kernel)) rfl (by decide +kernel), ?_⟩
  refine ⟨sn_getf (C := RX12) (T := TX12) (N := 56) (idx := 161) rfl pin12 (by decide) (by decide) rfl (pmt6 148 rfl (by decide +kernel)) rfl (dX_getfield (by decide +kernel)) (by decide +kernel), ?_⟩
  refine ⟨sn_icmp_ge (off := 32) (dX_if_icmpge (by decide +kernel)) (by decide +kernel) (by decide +kernel), ?_⟩
  refine ⟨sn_iload_n (k := 3) (dX_iload_3 (by decide +kernel)) rfl (by decide +kernel), ?_⟩
  refine ⟨sn_iload_n (k := 2) (dX_iload_2 (by decide +kernel)) rfl (by decide +kernel), ?_⟩
  refine ⟨sn_iload (dX_iload (by decide +kernel)) (by decide +kernel), ?_⟩
  refine ⟨sn_callS (idx := 234) cal_170 (pmt7 152 rfl (by decide +kernel)) (pmt7 153 rfl (by decide +kernel)) (dX_invokestatic (by decide +kernel)) (by decide +kernel), ?_⟩
  refine ⟨sn_if_eq (off := 13) (dX_ifeq (by decide +kernel)) (by decide +kernel) (by decide +kernel), ?_⟩
  refine ⟨sn_aload_n (k := 0) (dX_aload_0 (by decide +kernel)) rfl (by decide +kernel), ?_⟩
  refine ⟨sn_getf (C := RX12) (T := TX12) (N := 56) (idx := 28) rfl pin12 (by decide) (by decide) rfl (pmt6 149 rfl (by decide +kernel)) rfl (dX_getfield (by decide +kernel)) (by decide +kernel), ?_⟩
  refine ⟨sn_iload (dX_iload (by decide +kernel)) (by decide +kernel), ?_⟩
  refine ⟨sn_iald (dX_iaload (by decide +kernel)) (by decide +kernel), ?_⟩
  refine ⟨sn_goto (off := 4) (dX_goto (by decide +kernel)) (by decide +kernel), ?_⟩
  refine ⟨sn_iconst (dX_iconst_0 (by decide +kernel)) (by decide +kernel), ?_⟩
  refine ⟨sn_ior (dX_ior (by decide +kernel)) (by decide +kernel), ?_⟩
  refine ⟨sn_istore_n (k := 3) (dX_istore_3 (by decide +kernel)) rfl (by decide) (by decide +kernel), ?_⟩
  refine ⟨sn_iinc (dX_iinc (by decide +kernel)) (by decide) (by decide +kernel), ?_⟩
  refine ⟨sn_goto (off := -35) (dX_goto (by decide +kernel)) (by decide +kernel), ?_⟩
  refine ⟨sn_iconst (dX_iconst_0 (by decide +kernel)) (by decide +kernel), ?_⟩
  refine ⟨sn_istore (dX_istore (by decide +kernel)) (by decide) (by decide +kernel), ?_⟩
  refine ⟨sn_aload_n (k := 0) (dX_aload_0 (by decide +kernel)) rfl (by decide +kernel), ?_⟩
  refine ⟨sn_callV (idx := 318) (C := RX12) (T := TX12) (N := 56) rfl (by decide) cal_229 (pmt8 68 rfl (by decide +kernel)) (pmt8 70 rfl (by decide +kernel)) (pms 78 rfl rfl) (dX_invokevirtual (by decide +kernel)) (by decide +kernel), ?_⟩
  refine ⟨sn_aload_n (k := 0) (dX_aload_0 (by decide +kernel)) rfl (by decide +kernel), ?_⟩
  refine ⟨sn_callV (idx := 321) (C := RX12) (T := TX12) (N := 56) rfl (by decide) cal_230 (pmt8 72 rfl (by decide +kernel)) (pmt8 74 rfl (by decide +kernel)) (pms 79 rfl rfl) (dX_invokevirtual (by decide +kernel)) (by decide +kernel), ?_⟩
  refine ⟨sn_if_eq (off := 114) (dX_ifeq (by decide +kernel)) (by decide +kernel) (by decide +kernel), ?_⟩
  refine ⟨sn_iconst (dX_iconst_0 (by decide +kernel)) (by decide +kernel), ?_⟩
  refine ⟨sn_istore (dX_istore (by decide +kernel)) (by decide) (by decide +kernel), ?_⟩
  refine ⟨sn_iload (dX_iload (by decide +kernel)) (by decide +kernel), ?_⟩
  refine ⟨sn_aload_n (k := 0) (dX_aload_0 (by decide +kernel)) rfl (by decide +kernel), ?_⟩
  refine ⟨sn_getf (C := RX12) (T := TX12) (N := 56) (idx := 113) rfl pin12 (by decide) (by decide) rfl (pmt6 140 rfl (by decide +kernel)) rfl (dX_getfield (by decide +kernel)) (by decide +kernel), ?_⟩
  refine ⟨sn_icmp_ge (off := 99) (dX_if_icmpge (by decide +kernel)) (by decide +kernel) (by decide +kernel), ?_⟩
  refine ⟨sn_aload_n (k := 0) (dX_aload_0 (by decide +kernel)) rfl (by decide +kernel), ?_⟩
  refine ⟨sn_aload_n (k := 0) (dX_aload_0 (by decide +kernel)) rfl (by decide +kernel), ?_⟩
  refine ⟨sn_getf (C := RX12) (T := TX12) (N := 56) (idx := 69) rfl pin12 (by decide) (by decide) rfl (pmt6 176 rfl (by decide +kernel)) rfl (dX_getfield (by decide +kernel)) (by decide +kernel), ?_⟩
  refine ⟨sn_iload (dX_iload (by decide +kernel)) (by decide +kernel), ?_⟩
  refine ⟨sn_callV (idx := 245) (C := RX12) (T := TX12) (N := 56) rfl (by decide) cal_198 (pmt7 172 rfl (by decide +kernel)) (pmt7 174 rfl (by decide +kernel)) (pms 62 rfl rfl) (dX_invokevirtual (by decide +kernel)) (by decide +kernel), ?_⟩
  refine ⟨sn_iload_n (k := 1) (dX_iload_1 (by decide +kernel)) rfl (by decide +kernel), ?_⟩
  refine ⟨sn_icmp_lt (off := 7) (dX_if_icmplt (by decide +kernel)) (by decide +kernel) (by decide +kernel), ?_⟩
  refine ⟨sn_iconst (dX_iconst_1 (by decide +kernel)) (by decide +kernel), ?_⟩
  refine ⟨sn_goto (off := 4) (dX_goto (by decide +kernel)) (by decide +kernel), ?_⟩
  refine ⟨sn_iconst (dX_iconst_0 (by decide +kernel)) (by decide +kernel), ?_⟩
  refine ⟨sn_istore (dX_istore (by decide +kernel)) (by decide) (by decide +kernel), ?_⟩
  refine ⟨sn_iconst (dX_iconst_0 (by decide +kernel)) (by decide +kernel), ?_⟩
  refine ⟨sn_istore (dX_istore (by decide +kernel)) (by decide) (by decide +kernel), ?_⟩
  refine ⟨sn_iload (dX_iload (by decide +kernel)) (by decide +kernel), ?_⟩
  refine ⟨sn_aload_n (k := 0) (dX_aload_0 (by decide +kernel)) rfl (by decide +kernel), ?_⟩
  refine ⟨sn_getf (C := RX12) (T := TX12) (N := 56) (idx := 120) rfl pin12 (by decide) (by decide) rfl (pmt6 143 rfl (by decide +kernel)) rfl (dX_getfield (by decide +kernel)) (by decide +kernel), ?_⟩
  refine ⟨sn_icmp_ge (off := 42) (dX_if_icmpge (by decide +kernel)) (by decide +kernel) (by decide +kernel), ?_⟩
  refine ⟨sn_iload (dX_iload (by decide +kernel)) (by decide +kernel), ?_⟩
  refine ⟨sn_if_eq (off := 37) (dX_ifeq (by decide +kernel)) (by decide +kernel) (by decide +kernel), ?_⟩
  refine ⟨sn_iload_n (k := 3) (dX_iload_3 (by decide +kernel)) rfl (by decide +kernel), ?_⟩
  refine ⟨sn_iload (dX_iload (by decide +kernel)) (by decide +kernel), ?_⟩
  refine ⟨sn_callS (idx := 234) cal_170 (pmt7 152 rfl (by decide +kernel)) (pmt7 153 rfl (by decide +kernel)) (dX_invokestatic (by decide +kernel)) (by decide +kernel), ?_⟩
  refine ⟨sn_if_eq (off := 15) (dX_ifeq (by decide +kernel)) (by decide +kernel) (by decide +kernel), ?_⟩
  refine ⟨sn_aload_n (k := 0) (dX_aload_0 (by decide +kernel)) rfl (by decide +kernel), ?_⟩
  refine ⟨sn_getf (C := RX12) (T := TX12) (N := 56) (idx := 69) rfl pin12 (by decide) (by decide) rfl (pmt6 176 rfl (by decide +kernel)) rfl (dX_getfield (by decide +kernel)) (by decide +kernel), ?_⟩
  refine ⟨sn_iload (dX_iload (by decide +kernel)) (by decide +kernel), ?_⟩
  refine ⟨sn_iald (dX_iaload (by decide +kernel)) (by decide +kernel), ?_⟩
  refine ⟨sn_iload (dX_iload (by decide +kernel)) (by decide +kernel), ?_⟩
  refine ⟨sn_icmp_ne (off := 7) (dX_if_icmpne (by decide +kernel)) (by decide +kernel) (by decide +kernel), ?_⟩
  refine ⟨sn_iconst (dX_iconst_1 (by decide +kernel)) (by decide +kernel), ?_⟩
  refine ⟨sn_goto (off := 4) (dX_goto (by decide +kernel)) (by decide +kernel), ?_⟩
  refine ⟨sn_iconst (dX_iconst_0 (by decide +kernel)) (by decide +kernel), ?_⟩
  refine ⟨sn_istore (dX_istore (by decide +kernel)) (by decide) (by decide +kernel), ?_⟩
  refine ⟨sn_iinc (dX_iinc (by decide +kernel)) (by decide) (by decide +kernel), ?_⟩
  refine ⟨sn_goto (off := -45) (dX_goto (by decide +kernel)) (by decide +kernel), ?_⟩
  refine ⟨sn_iload (dX_iload (by decide +kernel)) (by decide +kernel), ?_⟩
  refine ⟨sn_iload (dX_iload (by decide +kernel)) (by decide +kernel), ?_⟩
  refine ⟨sn_if_eq (off := 10) (dX_ifeq (by decide +kernel)) (by decide +kernel) (by decide +kernel), ?_⟩
  refine ⟨sn_iconst (dX_iconst_1 (by decide +kernel)) (by decide +kernel), ?_⟩
  refine ⟨sn_iload (dX_iload (by decide +kernel)) (by decide +kernel), ?_⟩
  refine ⟨sn_ishl (dX_ishl (by decide +kernel)) (by decide +kernel), ?_⟩
  refine ⟨sn_goto (off := 4) (dX_goto (by decide +kernel)) (by decide +kernel), ?_⟩
  refine ⟨sn_iconst (dX_iconst_0 (by decide +kernel)) (by decide +kernel), ?_⟩
  refine ⟨sn_ior (dX_ior (by decide +kernel)) (by decide +kernel), ?_⟩
  refine ⟨sn_istore (dX_istore (by decide +kernel)) (by decide) (by decide +kernel), ?_⟩
  refine ⟨sn_iinc (dX_iinc (by decide +kernel)) (by decide) (by decide +kernel), ?_⟩
  refine ⟨sn_goto (off := -102) (dX_goto (by decide +kernel)) (by decide +kernel), ?_⟩
  refine ⟨sn_goto (off := -115) (dX_goto (by decide +kernel)) (by decide +kernel), ?_⟩
  refine ⟨sn_iload (dX_iload (by decide +kernel)) (by decide +kernel), ?_⟩
  refine ⟨sn_iret rfl (dX_ireturn (by decide +kernel)), ?_⟩
  trivial
set_option maxRecDepth 100000 in
set_option maxHeartbeats 4000000 in
theorem S_242 : pAll (pSk RX12 cX12_may 5 (some .int) PC_242) 0 C_242 := by
  refine ⟨sn_aload_n (k := 0) (dX_aload_0 (by decide +kernel)) rfl (by decide +kernel), ?_⟩
  refine ⟨sn_iconst (dX_iconst_0 (by decide +kernel)) (by decide +kernel), ?_⟩
  refine ⟨sn_puti (C := RX12) (T := TX12) (N := 56) (idx := 107) rfl pin12 (by decide) (by decide) rfl tyX12 tyX12_ok nmX12 rfl rfl (by decide +kernel) (pmt6 157 rfl (by decide +kernel)) rfl (dX_putfield (by decide +kernel)) (by decide +kernel), ?_⟩
  refine ⟨sn_aload_n (k := 0) (dX_aload_0 (by decide +kernel)) rfl (by decide +kernel), ?_⟩
  refine ⟨sn_iconst (dX_iconst_0 (by decide +kernel)) (by decide +kernel), ?_⟩
  refine ⟨sn_iconst (dX_iconst_0 (by decide +kernel)) (by decide +kernel), ?_⟩
  refine ⟨sn_callV (idx := 255) (C := RX12) (T := TX12) (N := 56) rfl (by decide) cal_200 (pmt7 184 rfl (by decide +kernel)) (pmt7 186 rfl (by decide +kernel)) (pms 64 rfl rfl) (dX_invokevirtual (by decide +kernel)) (by decide +kernel), ?_⟩
  refine ⟨sn_iload_n (k := 1) (dX_iload_1 (by decide +kernel)) rfl (by decide +kernel), ?_⟩
  refine ⟨sn_iconst (dX_iconst_0 (by decide +kernel)) (by decide +kernel), ?_⟩
  refine ⟨sn_aload_n (k := 0) (dX_aload_0 (by decide +kernel)) rfl (by decide +kernel), ?_⟩
  refine ⟨sn_getf (C := RX12) (T := TX12) (N := 56) (idx := 249) rfl pin12 (by decide) (by decide) rfl (pmt6 170 rfl (by decide +kernel)) rfl (dX_getfield (by decide +kernel)) (by decide +kernel), ?_⟩
  refine ⟨sn_iconst (dX_iconst_1 (by decide +kernel)) (by decide +kernel), ?_⟩
  refine ⟨sn_isub (dX_isub (by decide +kernel)) (by decide +kernel), ?_⟩
  refine ⟨sn_callS (idx := 116) cal_169 (pmt7 77 rfl (by decide +kernel)) (pmt7 78 rfl (by decide +kernel)) (dX_invokestatic (by decide +kernel)) (by decide +kernel), ?_⟩
  refine ⟨sn_if_ne (off := 5) (dX_ifne (by decide +kernel)) (by decide +kernel) (by decide +kernel), ?_⟩
  refine ⟨sn_iconst (dX_iconst_m1 (by decide +kernel)) (by decide +kernel), ?_⟩
  refine ⟨sn_iret rfl (dX_ireturn (by decide +kernel)), ?_⟩
  refine ⟨sn_aload_n (k := 0) (dX_aload_0 (by decide +kernel)) rfl (by decide +kernel), ?_⟩
  refine ⟨sn_callV (idx := 315) (C := RX12) (T := TX12) (N := 56) rfl (by decide) cal_228 (pmt8 64 rfl (by decide +kernel)) (pmt8 66 rfl (by decide +kernel)) (pms 77 rfl rfl) (dX_invokevirtual (by decide +kernel)) (by decide +kernel), ?_⟩
  refine ⟨sn_if_eq (off := 6) (dX_ifeq (by decide +kernel)) (by decide +kernel) (by decide +kernel), ?_⟩
  refine ⟨sn_bipush (dX_bipush (by decide +kernel)) (by decide +kernel) (by decide +kernel), ?_⟩
  refine ⟨sn_iret rfl (dX_ireturn (by decide +kernel)), ?_⟩
  refine ⟨sn_aload_n (k := 0) (dX_aload_0 (by decide +kernel)) rfl (by decide +kernel), ?_⟩
  refine ⟨sn_getf (C := RX12) (T := TX12) (N := 56) (idx := 54) rfl pin12 (by decide) (by decide) rfl (pmt6 169 rfl (by decide +kernel)) rfl (dX_getfield (by decide +kernel)) (by decide +kernel), ?_⟩
  refine ⟨sn_iload_n (k := 1) (dX_iload_1 (by decide +kernel)) rfl (by decide +kernel), ?_⟩
  refine ⟨sn_iald (dX_iaload (by decide +kernel)) (by decide +kernel), ?_⟩
  refine ⟨sn_callS (idx := 265) cal_271 (pmt8 7 rfl (by decide +kernel)) (pmt5 65 rfl (by decide +kernel)) (dX_invokestatic (by decide +kernel)) (by decide +kernel), ?_⟩
  refine ⟨sn_istore_n (k := 2) (dX_istore_2 (by decide +kernel)) rfl (by decide) (by decide +kernel), ?_⟩
  refine ⟨sn_iconst (dX_iconst_0 (by decide +kernel)) (by decide +kernel), ?_⟩
  refine ⟨sn_istore_n (k := 3) (dX_istore_3 (by decide +kernel)) rfl (by decide) (by decide +kernel), ?_⟩
  refine ⟨sn_iconst (dX_iconst_0 (by decide +kernel)) (by decide +kernel), ?_⟩
  refine ⟨sn_istore (dX_istore (by decide +kernel)) (by decide) (by decide +kernel), ?_⟩
  refine ⟨sn_aload_n (k := 0) (dX_aload_0 (by decide +kernel)) rfl (by decide +kernel), ?_⟩
  refine ⟨sn_callV (idx := 318) (C := RX12) (T := TX12) (N := 56) rfl (by decide) cal_229 (pmt8 68 rfl (by decide +kernel)) (pmt8 70 rfl (by decide +kernel)) (pms 78 rfl rfl) (dX_invokevirtual (by decide +kernel)) (by decide +kernel), ?_⟩
  refine ⟨sn_aload_n (k := 0) (dX_aload_0 (by decide +kernel)) rfl (by decide +kernel), ?_⟩
  refine ⟨sn_callV (idx := 321) (C := RX12) (T := TX12) (N := 56) rfl (by decide) cal_230 (pmt8 72 rfl (by decide +kernel)) (pmt8 74 rfl (by decide +kernel)) (pms 79 rfl rfl) (dX_invokevirtual (by decide +kernel)) (by decide +kernel), ?_⟩
  refine ⟨sn_if_eq (off := 42) (dX_ifeq (by decide +kernel)) (by decide +kernel) (by decide +kernel), ?_⟩
  refine ⟨sn_iload_n (k := 3) (dX_iload_3 (by decide +kernel)) rfl (by decide +kernel), ?_⟩
  refine ⟨sn_iconst (dX_iconst_1 (by decide +kernel)) (by decide +kernel), ?_⟩
  refine ⟨sn_aload_n (k := 0) (dX_aload_0 (by decide +kernel)) rfl (by decide +kernel), ?_⟩
  refine ⟨sn_getf (C := RX12) (T := TX12) (N := 56) (idx := 69) rfl pin12 (by decide) (by decide) rfl (pmt6 176 rfl (by decide +kernel)) rfl (dX_getfield (by decide +kernel)) (by decide +kernel), ?_⟩
  refine ⟨sn_iload_n (k := 2) (dX_iload_2 (by decide +kernel)) rfl (by decide +kernel), ?_⟩
  refine ⟨sn_iald (dX_iaload (by decide +kernel)) (by decide +kernel), ?_⟩
  refine ⟨sn_ishl (dX_ishl (by decide +kernel)) (by decide +kernel), ?_⟩
  refine ⟨sn_ior (dX_ior (by decide +kernel)) (by decide +kernel), ?_⟩
  refine ⟨sn_istore_n (k := 3) (dX_istore_3 (by decide +kernel)) rfl (by decide) (by decide +kernel), ?_⟩
  refine ⟨sn_iload (dX_iload (by decide +kernel)) (by decide +kernel), ?_⟩
  refine ⟨sn_aload_n (k := 0) (dX_aload_0 (by decide +kernel)) rfl (by decide +kernel), ?_⟩
  refine ⟨sn_getf (C := RX12) (T := TX12) (N := 56) (idx := 69) rfl pin12 (by decide) (by decide) rfl (pmt6 176 rfl (by decide +kernel)) rfl (dX_getfield (by decide +kernel)) (by decide +kernel), ?_⟩
  refine ⟨sn_iload_n (k := 2) (dX_iload_2 (by decide +kernel)) rfl (by decide +kernel), ?_⟩
  refine ⟨sn_iald (dX_iaload (by decide +kernel)) (by decide +kernel), ?_⟩
  refine ⟨sn_aload_n (k := 0) (dX_aload_0 (by decide +kernel)) rfl (by decide +kernel), ?_⟩
  refine ⟨sn_getf (C := RX12) (T := TX12) (N := 56) (idx := 25) rfl pin12 (by decide) (by decide) rfl (pmt6 147 rfl (by decide +kernel)) rfl (dX_getfield (by decide +kernel)) (by decide +kernel), ?_⟩
  refine ⟨sn_iload_n (k := 2) (dX_iload_2 (by decide +kernel)) rfl (by decide +kernel), ?_⟩
  refine ⟨sn_iald (dX_iaload (by decide +kernel)) (by decide +kernel), ?_⟩
  refine ⟨sn_icmp_ne (off := 7) (dX_if_icmpne (by decide +kernel)) (by decide +kernel) (by decide +kernel), ?_⟩
  refine ⟨sn_iconst (dX_iconst_1 (by decide +kernel)) (by decide +kernel), ?_⟩
  refine ⟨sn_goto (off := 4) (dX_goto (by decide +kernel)) (by decide +kernel), ?_⟩
  refine ⟨sn_iconst (dX_iconst_0 (by decide +kernel)) (by decide +kernel), ?_⟩
  refine ⟨sn_iadd (dX_iadd (by decide +kernel)) (by decide +kernel), ?_⟩
  refine ⟨sn_istore (dX_istore (by decide +kernel)) (by decide) (by decide +kernel), ?_⟩
  refine ⟨sn_goto (off := -43) (dX_goto (by decide +kernel)) (by decide +kernel), ?_⟩
  refine ⟨sn_aload_n (k := 0) (dX_aload_0 (by decide +kernel)) rfl (by decide +kernel), ?_⟩
  refine ⟨sn_iconst (dX_iconst_0 (by decide +kernel)) (by decide +kernel), ?_⟩
  refine ⟨sn_puti (C := RX12) (T := TX12) (N := 56) (idx := 110) rfl pin12 (by decide) (by decide) rfl tyX12 tyX12_ok nmX12 rfl rfl (by decide +kernel) (pmt6 156 rfl (by decide +kernel)) rfl (dX_putfield (by decide +kernel)) (by decide +kernel), ?_⟩
  refine ⟨sn_aload_n (k := 0) (dX_aload_0 (by decide +kernel)) rfl (by decide +kernel), ?_⟩
  refine ⟨sn_iload (dX_iload (by decide +kernel)) (by decide +kernel), ?_⟩
  refine ⟨sn_callV (idx := 294) (C := RX12) (T := TX12) (N := 56) rfl (by decide) cal_172 (pmt8 12 rfl (by decide +kernel)) (pmt8 14 rfl (by decide +kernel)) (pms 73 rfl rfl) (dX_invokevirtual (by decide +kernel)) (by decide +kernel), ?_⟩
  refine ⟨sn_iload_n (k := 3) (dX_iload_3 (by decide +kernel)) rfl (by decide +kernel), ?_⟩
  refine ⟨sn_iret rfl (dX_ireturn (by decide +kernel)), ?_⟩
  trivial
set_option maxRecDepth 100000 in
set_option maxHeartbeats 4000000 in
theorem S_243 : pAll (pSk RX12 cX12_together 5 (some .int) PC_243) 0 C_243 := by
  refine ⟨sn_aload_n (k := 0) (dX_aload_0 (by decide +kernel)) rfl (by decide +kernel), ?_⟩
  refine ⟨sn_iconst (dX_iconst_0 (by decide +kernel)) (by decide +kernel), ?_⟩
  refine ⟨sn_puti (C := RX12) (T := TX12) (N := 56) (idx := 107) rfl pin12 (by decide) (by decide) rfl tyX12 tyX12_ok nmX12 rfl rfl (by decide +kernel) (pmt6 157 rfl (by decide +kernel)) rfl (dX_putfield (by decide +kernel)) (by decide +kernel), ?_⟩
  refine ⟨sn_aload_n (k := 0) (dX_aload_0 (by decide +kernel)) rfl (by decide +kernel), ?_⟩
  refine ⟨sn_iload_n (k := 1) (dX_iload_1 (by decide +kernel)) rfl (by decide +kernel), ?_⟩
  refine ⟨sn_callV (idx := 252) (C := RX12) (T := TX12) (N := 56) rfl (by decide) cal_174 (pmt7 180 rfl (by decide +kernel)) (pmt7 182 rfl (by decide +kernel)) (pms 63 rfl rfl) (dX_invokevirtual (by decide +kernel)) (by decide +kernel), ?_⟩
  refine ⟨sn_if_eq (off := 16) (dX_ifeq (by decide +kernel)) (by decide +kernel) (by decide +kernel), ?_⟩
  refine ⟨sn_aload_n (k := 0) (dX_aload_0 (by decide +kernel)) rfl (by decide +kernel), ?_⟩
  refine ⟨sn_iload_n (k := 2) (dX_iload_2 (by decide +kernel)) rfl (by decide +kernel), ?_⟩
  refine ⟨sn_callV (idx := 252) (C := RX12) (T := TX12) (N := 56) rfl (by decide) cal_174 (pmt7 180 rfl (by decide +kernel)) (pmt7 182 rfl (by decide +kernel)) (pms 63 rfl rfl) (dX_invokevirtual (by decide +kernel)) (by decide +kernel), ?_⟩
  refine ⟨sn_if_eq (off := 8) (dX_ifeq (by decide +kernel)) (by decide +kernel) (by decide +kernel), ?_⟩
  refine ⟨sn_iload_n (k := 1) (dX_iload_1 (by decide +kernel)) rfl (by decide +kernel), ?_⟩
  refine ⟨sn_iload_n (k := 2) (dX_iload_2 (by decide +kernel)) rfl (by decide +kernel), ?_⟩
  refine ⟨sn_icmp_ne (off := 5) (dX_if_icmpne (by decide +kernel)) (by decide +kernel) (by decide +kernel), ?_⟩
  refine ⟨sn_iconst (dX_iconst_m1 (by decide +kernel)) (by decide +kernel), ?_⟩
  refine ⟨sn_iret rfl (dX_ireturn (by decide +kernel)), ?_⟩
  refine ⟨sn_aload_n (k := 0) (dX_aload_0 (by decide +kernel)) rfl (by decide +kernel), ?_⟩
  refine ⟨sn_callV (idx := 315) (C := RX12) (T := TX12) (N := 56) rfl (by decide) cal_228 (pmt8 64 rfl (by decide +kernel)) (pmt8 66 rfl (by decide +kernel)) (pms 77 rfl rfl) (dX_invokevirtual (by decide +kernel)) (by decide +kernel), ?_⟩
  refine ⟨sn_if_eq (off := 6) (dX_ifeq (by decide +kernel)) (by decide +kernel) (by decide +kernel), ?_⟩
  refine ⟨sn_bipush (dX_bipush (by decide +kernel)) (by decide +kernel) (by decide +kernel), ?_⟩
  refine ⟨sn_iret rfl (dX_ireturn (by decide +kernel)), ?_⟩
  refine ⟨sn_iconst (dX_iconst_0 (by decide +kernel)) (by decide +kernel), ?_⟩
  refine ⟨sn_istore_n (k := 3) (dX_istore_3 (by decide +kernel)) rfl (by decide) (by decide +kernel), ?_⟩
  refine ⟨sn_iconst (dX_iconst_0 (by decide +kernel)) (by decide +kernel), ?_⟩
  refine ⟨sn_istore (dX_istore (by decide +kernel)) (by decide) (by decide +kernel), ?_⟩
  refine ⟨sn_aload_n (k := 0) (dX_aload_0 (by decide +kernel)) rfl (by decide +kernel), ?_⟩
  refine ⟨sn_callV (idx := 318) (C := RX12) (T := TX12) (N := 56) rfl (by decide) cal_229 (pmt8 68 rfl (by decide +kernel)) (pmt8 70 rfl (by decide +kernel)) (pms 78 rfl rfl) (dX_invokevirtual (by decide +kernel)) (by decide +kernel), ?_⟩
  refine ⟨sn_aload_n (k := 0) (dX_aload_0 (by decide +kernel)) rfl (by decide +kernel), ?_⟩
  refine ⟨sn_callV (idx := 321) (C := RX12) (T := TX12) (N := 56) rfl (by decide) cal_230 (pmt8 72 rfl (by decide +kernel)) (pmt8 74 rfl (by decide +kernel)) (pms 79 rfl rfl) (dX_invokevirtual (by decide +kernel)) (by decide +kernel), ?_⟩
  refine ⟨sn_if_eq (off := 32) (dX_ifeq (by decide +kernel)) (by decide +kernel) (by decide +kernel), ?_⟩
  refine ⟨sn_iinc (dX_iinc (by decide +kernel)) (by decide) (by decide +kernel), ?_⟩
  refine ⟨sn_iload_n (k := 3) (dX_iload_3 (by decide +kernel)) rfl (by decide +kernel), ?_⟩
  refine ⟨sn_aload_n (k := 0) (dX_aload_0 (by decide +kernel)) rfl (by decide +kernel), ?_⟩
  refine ⟨sn_getf (C := RX12) (T := TX12) (N := 56) (idx := 69) rfl pin12 (by decide) (by decide) rfl (pmt6 176 rfl (by decide +kernel)) rfl (dX_getfield (by decide +kernel)) (by decide +kernel), ?_⟩
  refine ⟨sn_iload_n (k := 1) (dX_iload_1 (by decide +kernel)) rfl (by decide +kernel), ?_⟩
  refine ⟨sn_iald (dX_iaload (by decide +kernel)) (by decide +kernel), ?_⟩
  refine ⟨sn_aload_n (k := 0) (dX_aload_0 (by decide +kernel)) rfl (by decide +kernel), ?_⟩
  refine ⟨sn_getf (C := RX12) (T := TX12) (N := 56) (idx := 69) rfl pin12 (by decide) (by decide) rfl (pmt6 176 rfl (by decide +kernel)) rfl (dX_getfield (by decide +kernel)) (by decide +kernel), ?_⟩
  refine ⟨sn_iload_n (k := 2) (dX_iload_2 (by decide +kernel)) rfl (by decide +kernel), ?_⟩
  refine ⟨sn_iald (dX_iaload (by decide +kernel)) (by decide +kernel), ?_⟩
  refine ⟨sn_icmp_ne (off := 7) (dX_if_icmpne (by decide +kernel)) (by decide +kernel) (by decide +kernel), ?_⟩
  refine ⟨sn_iconst (dX_iconst_1 (by decide +kernel)) (by decide +kernel), ?_⟩
  refine ⟨sn_goto (off := 4) (dX_goto (by decide +kernel)) (by decide +kernel), ?_⟩
  refine ⟨sn_iconst (dX_iconst_0 (by decide +kernel)) (by decide +kernel), ?_⟩
  refine ⟨sn_iadd (dX_iadd (by decide +kernel)) (by decide +kernel), ?_⟩
  refine ⟨sn_istore_n (k := 3) (dX_istore_3 (by decide +kernel)) rfl (by decide) (by decide +kernel), ?_⟩
  refine ⟨sn_goto (off := -33) (dX_goto (by decide +kernel)) (by decide +kernel), ?_⟩
  refine ⟨sn_aload_n (k := 0) (dX_aload_0 (by decide +kernel)) rfl (by decide +kernel), ?_⟩
  refine ⟨sn_iconst (dX_iconst_0 (by decide +kernel)) (by decide +kernel), ?_⟩
  refine ⟨sn_puti (C := RX12) (T := TX12) (N := 56) (idx := 110) rfl pin12 (by decide) (by decide) rfl tyX12 tyX12_ok nmX12 rfl rfl (by decide +kernel) (pmt6 156 rfl (by decide +kernel)) rfl (dX_putfield (by decide +kernel)) (by decide +kernel), ?_⟩
  refine ⟨sn_aload_n (k := 0) (dX_aload_0 (by decide +kernel)) rfl (by decide +kernel), ?_⟩
  refine ⟨sn_iload (dX_iload (by decide +kernel)) (by decide +kernel), ?_⟩
  refine ⟨sn_callV (idx := 294) (C := RX12) (T := TX12) (N := 56) rfl (by decide) cal_172 (pmt8 12 rfl (by decide +kernel)) (pmt8 14 rfl (by decide +kernel)) (pms 73 rfl rfl) (dX_invokevirtual (by decide +kernel)) (by decide +kernel), ?_⟩
  refine ⟨sn_iload_n (k := 3) (dX_iload_3 (by decide +kernel)) rfl (by decide +kernel), ?_⟩
  refine ⟨sn_iret rfl (dX_ireturn (by decide +kernel)), ?_⟩
  trivial
set_option maxRecDepth 100000 in
set_option maxHeartbeats 4000000 in
theorem S_244 : pAll (pSk RX12 cX12_fullest 4 (some .int) PC_244) 0 C_244 := by
  refine ⟨sn_aload_n (k := 0) (dX_aload_0 (by decide +kernel)) rfl (by decide +kernel), ?_⟩
  refine ⟨sn_iconst (dX_iconst_0 (by decide +kernel)) (by decide +kernel), ?_⟩
  refine ⟨sn_puti (C := RX12) (T := TX12) (N := 56) (idx := 107) rfl pin12 (by decide) (by decide) rfl tyX12 tyX12_ok nmX12 rfl rfl (by decide +kernel) (pmt6 157 rfl (by decide +kernel)) rfl (dX_putfield (by decide +kernel)) (by decide +kernel), ?_⟩
  refine ⟨sn_aload_n (k := 0) (dX_aload_0 (by decide +kernel)) rfl (by decide +kernel), ?_⟩
  refine ⟨sn_iload_n (k := 1) (dX_iload_1 (by decide +kernel)) rfl (by decide +kernel), ?_⟩
  refine ⟨sn_callV (idx := 238) (C := RX12) (T := TX12) (N := 56) rfl (by decide) cal_173 (pmt7 164 rfl (by decide +kernel)) (pmt7 166 rfl (by decide +kernel)) (pms 60 rfl rfl) (dX_invokevirtual (by decide +kernel)) (by decide +kernel), ?_⟩
  refine ⟨sn_if_ne (off := 5) (dX_ifne (by decide +kernel)) (by decide +kernel) (by decide +kernel), ?_⟩
  refine ⟨sn_iconst (dX_iconst_m1 (by decide +kernel)) (by decide +kernel), ?_⟩
  refine ⟨sn_iret rfl (dX_ireturn (by decide +kernel)), ?_⟩
  refine ⟨sn_aload_n (k := 0) (dX_aload_0 (by decide +kernel)) rfl (by decide +kernel), ?_⟩
  refine ⟨sn_callV (idx := 315) (C := RX12) (T := TX12) (N := 56) rfl (by decide) cal_228 (pmt8 64 rfl (by decide +kernel)) (pmt8 66 rfl (by decide +kernel)) (pms 77 rfl rfl) (dX_invokevirtual (by decide +kernel)) (by decide +kernel), ?_⟩
  refine ⟨sn_if_eq (off := 6) (dX_ifeq (by decide +kernel)) (by decide +kernel) (by decide +kernel), ?_⟩
  refine ⟨sn_bipush (dX_bipush (by decide +kernel)) (by decide +kernel) (by decide +kernel), ?_⟩
  refine ⟨sn_iret rfl (dX_ireturn (by decide +kernel)), ?_⟩
  refine ⟨sn_iconst (dX_iconst_m1 (by decide +kernel)) (by decide +kernel), ?_⟩
  refine ⟨sn_istore_n (k := 2) (dX_istore_2 (by decide +kernel)) rfl (by decide) (by decide +kernel), ?_⟩
  refine ⟨sn_aload_n (k := 0) (dX_aload_0 (by decide +kernel)) rfl (by decide +kernel), ?_⟩
  refine ⟨sn_callV (idx := 318) (C := RX12) (T := TX12) (N := 56) rfl (by decide) cal_229 (pmt8 68 rfl (by decide +kernel)) (pmt8 70 rfl (by decide +kernel)) (pms 78 rfl rfl) (dX_invokevirtual (by decide +kernel)) (by decide +kernel), ?_⟩
  refine ⟨sn_aload_n (k := 0) (dX_aload_0 (by decide +kernel)) rfl (by decide +kernel), ?_⟩
  refine ⟨sn_callV (idx := 321) (C := RX12) (T := TX12) (N := 56) rfl (by decide) cal_230 (pmt8 72 rfl (by decide +kernel)) (pmt8 74 rfl (by decide +kernel)) (pms 79 rfl rfl) (dX_invokevirtual (by decide +kernel)) (by decide +kernel), ?_⟩
  refine ⟨sn_if_eq (off := 37) (dX_ifeq (by decide +kernel)) (by decide +kernel) (by decide +kernel), ?_⟩
  refine ⟨sn_aload_n (k := 0) (dX_aload_0 (by decide +kernel)) rfl (by decide +kernel), ?_⟩
  refine ⟨sn_getf (C := RX12) (T := TX12) (N := 56) (idx := 9) rfl pin12 (by decide) (by decide) rfl (pmt6 141 rfl (by decide +kernel)) rfl (dX_getfield (by decide +kernel)) (by decide +kernel), ?_⟩
  refine ⟨sn_iload_n (k := 1) (dX_iload_1 (by decide +kernel)) rfl (by decide +kernel), ?_⟩
  refine ⟨sn_iald (dX_iaload (by decide +kernel)) (by decide +kernel), ?_⟩
  refine ⟨sn_aload_n (k := 0) (dX_aload_0 (by decide +kernel)) rfl (by decide +kernel), ?_⟩
  refine ⟨sn_aload_n (k := 0) (dX_aload_0 (by decide +kernel)) rfl (by decide +kernel), ?_⟩
  refine ⟨sn_getf (C := RX12) (T := TX12) (N := 56) (idx := 69) rfl pin12 (by decide) (by decide) rfl (pmt6 176 rfl (by decide +kernel)) rfl (dX_getfield (by decide +kernel)) (by decide +kernel), ?_⟩
  refine ⟨sn_iload_n (k := 1) (dX_iload_1 (by decide +kernel)) rfl (by decide +kernel), ?_⟩
  refine ⟨sn_callV (idx := 245) (C := RX12) (T := TX12) (N := 56) rfl (by decide) cal_198 (pmt7 172 rfl (by decide +kernel)) (pmt7 174 rfl (by decide +kernel)) (pms 62 rfl rfl) (dX_invokevirtual (by decide +kernel)) (by decide +kernel), ?_⟩
  refine ⟨sn_isub (dX_isub (by decide +kernel)) (by decide +kernel), ?_⟩
  refine ⟨sn_istore_n (k := 3) (dX_istore_3 (by decide +kernel)) rfl (by decide) (by decide +kernel), ?_⟩
  refine ⟨sn_iload_n (k := 3) (dX_iload_3 (by decide +kernel)) rfl (by decide +kernel), ?_⟩
  refine ⟨sn_iload_n (k := 2) (dX_iload_2 (by decide +kernel)) rfl (by decide +kernel), ?_⟩
  refine ⟨sn_icmp_gt (off := 6) (dX_if_icmpgt (by decide +kernel)) (by decide +kernel) (by decide +kernel), ?_⟩
  refine ⟨sn_goto (off := -29) (dX_goto (by decide +kernel)) (by decide +kernel), ?_⟩
  refine ⟨sn_iload_n (k := 3) (dX_iload_3 (by decide +kernel)) rfl (by decide +kernel), ?_⟩
  refine ⟨sn_istore_n (k := 2) (dX_istore_2 (by decide +kernel)) rfl (by decide) (by decide +kernel), ?_⟩
  refine ⟨sn_aload_n (k := 0) (dX_aload_0 (by decide +kernel)) rfl (by decide +kernel), ?_⟩
  refine ⟨sn_callV (idx := 324) (C := RX12) (T := TX12) (N := 56) rfl (by decide) cal_233 (pmt8 80 rfl (by decide +kernel)) (pmt8 82 rfl (by decide +kernel)) (pms 81 rfl rfl) (dX_invokevirtual (by decide +kernel)) (by decide +kernel), ?_⟩
  refine ⟨sn_goto (off := -38) (dX_goto (by decide +kernel)) (by decide +kernel), ?_⟩
  refine ⟨sn_iload_n (k := 2) (dX_iload_2 (by decide +kernel)) rfl (by decide +kernel), ?_⟩
  refine ⟨sn_iconst (dX_iconst_m1 (by decide +kernel)) (by decide +kernel), ?_⟩
  refine ⟨sn_icmp_ne (off := 6) (dX_if_icmpne (by decide +kernel)) (by decide +kernel) (by decide +kernel), ?_⟩
  refine ⟨sn_bipush (dX_bipush (by decide +kernel)) (by decide +kernel) (by decide +kernel), ?_⟩
  refine ⟨sn_iret rfl (dX_ireturn (by decide +kernel)), ?_⟩
  refine ⟨sn_aload_n (k := 0) (dX_aload_0 (by decide +kernel)) rfl (by decide +kernel), ?_⟩
  refine ⟨sn_iconst (dX_iconst_0 (by decide +kernel)) (by decide +kernel), ?_⟩
  refine ⟨sn_puti (C := RX12) (T := TX12) (N := 56) (idx := 110) rfl pin12 (by decide) (by decide) rfl tyX12 tyX12_ok nmX12 rfl rfl (by decide +kernel) (pmt6 156 rfl (by decide +kernel)) rfl (dX_putfield (by decide +kernel)) (by decide +kernel), ?_⟩
  refine ⟨sn_aload_n (k := 0) (dX_aload_0 (by decide +kernel)) rfl (by decide +kernel), ?_⟩
  refine ⟨sn_aload_n (k := 0) (dX_aload_0 (by decide +kernel)) rfl (by decide +kernel), ?_⟩
  refine ⟨sn_getf (C := RX12) (T := TX12) (N := 56) (idx := 75) rfl pin12 (by decide) (by decide) rfl (pmt6 181 rfl (by decide +kernel)) rfl (dX_getfield (by decide +kernel)) (by decide +kernel), ?_⟩
  refine ⟨sn_callV (idx := 327) (C := RX12) (T := TX12) (N := 56) rfl (by decide) cal_232 (pmt8 84 rfl (by decide +kernel)) (pmt8 86 rfl (by decide +kernel)) (pms 82 rfl rfl) (dX_invokevirtual (by decide +kernel)) (by decide +kernel), ?_⟩
  refine ⟨sn_iload_n (k := 2) (dX_iload_2 (by decide +kernel)) rfl (by decide +kernel), ?_⟩
  refine ⟨sn_iret rfl (dX_ireturn (by decide +kernel)), ?_⟩
  trivial
set_option maxRecDepth 100000 in
set_option maxHeartbeats 4000000 in
theorem S_245 : pAll (pSk RX12 cX12_swap 4 (some .int) PC_245) 0 C_245 := by
  refine ⟨sn_aload_n (k := 0) (dX_aload_0 (by decide +kernel)) rfl (by decide +kernel), ?_⟩
  refine ⟨sn_iconst (dX_iconst_0 (by decide +kernel)) (by decide +kernel), ?_⟩
  refine ⟨sn_puti (C := RX12) (T := TX12) (N := 56) (idx := 107) rfl pin12 (by decide) (by decide) rfl tyX12 tyX12_ok nmX12 rfl rfl (by decide +kernel) (pmt6 157 rfl (by decide +kernel)) rfl (dX_putfield (by decide +kernel)) (by decide +kernel), ?_⟩
  refine ⟨sn_aload_n (k := 0) (dX_aload_0 (by decide +kernel)) rfl (by decide +kernel), ?_⟩
  refine ⟨sn_iload_n (k := 1) (dX_iload_1 (by decide +kernel)) rfl (by decide +kernel), ?_⟩
  refine ⟨sn_callV (idx := 238) (C := RX12) (T := TX12) (N := 56) rfl (by decide) cal_173 (pmt7 164 rfl (by decide +kernel)) (pmt7 166 rfl (by decide +kernel)) (pms 60 rfl rfl) (dX_invokevirtual (by decide +kernel)) (by decide +kernel), ?_⟩
  refine ⟨sn_if_eq (off := 16) (dX_ifeq (by decide +kernel)) (by decide +kernel) (by decide +kernel), ?_⟩
  refine ⟨sn_aload_n (k := 0) (dX_aload_0 (by decide +kernel)) rfl (by decide +kernel), ?_⟩
  refine ⟨sn_iload_n (k := 2) (dX_iload_2 (by decide +kernel)) rfl (by decide +kernel), ?_⟩
  refine ⟨sn_callV (idx := 238) (C := RX12) (T := TX12) (N := 56) rfl (by decide) cal_173 (pmt7 164 rfl (by decide +kernel)) (pmt7 166 rfl (by decide +kernel)) (pms 60 rfl rfl) (dX_invokevirtual (by decide +kernel)) (by decide +kernel), ?_⟩
  refine ⟨sn_if_eq (off := 8) (dX_ifeq (by decide +kernel)) (by decide +kernel) (by decide +kernel), ?_⟩
  refine ⟨sn_iload_n (k := 1) (dX_iload_1 (by decide +kernel)) rfl (by decide +kernel), ?_⟩
  refine ⟨sn_iload_n (k := 2) (dX_iload_2 (by decide +kernel)) rfl (by decide +kernel), ?_⟩
  refine ⟨sn_icmp_ne (off := 5) (dX_if_icmpne (by decide +kernel)) (by decide +kernel) (by decide +kernel), ?_⟩
  refine ⟨sn_iconst (dX_iconst_m1 (by decide +kernel)) (by decide +kernel), ?_⟩
  refine ⟨sn_iret rfl (dX_ireturn (by decide +kernel)), ?_⟩
  refine ⟨sn_iconst (dX_iconst_0 (by decide +kernel)) (by decide +kernel), ?_⟩
  refine ⟨sn_istore_n (k := 3) (dX_istore_3 (by decide +kernel)) rfl (by decide) (by decide +kernel), ?_⟩
  refine ⟨sn_iload_n (k := 3) (dX_iload_3 (by decide +kernel)) rfl (by decide +kernel), ?_⟩
  refine ⟨sn_aload_n (k := 0) (dX_aload_0 (by decide +kernel)) rfl (by decide +kernel), ?_⟩
  refine ⟨sn_getf (C := RX12) (T := TX12) (N := 56) (idx := 120) rfl pin12 (by decide) (by decide) rfl (pmt6 143 rfl (by decide +kernel)) rfl (dX_getfield (by decide +kernel)) (by decide +kernel), ?_⟩
  refine ⟨sn_icmp_ge (off := 49) (dX_if_icmpge (by decide +kernel)) (by decide +kernel) (by decide +kernel), ?_⟩
  refine ⟨sn_aload_n (k := 0) (dX_aload_0 (by decide +kernel)) rfl (by decide +kernel), ?_⟩
  refine ⟨sn_getf (C := RX12) (T := TX12) (N := 56) (idx := 69) rfl pin12 (by decide) (by decide) rfl (pmt6 176 rfl (by decide +kernel)) rfl (dX_getfield (by decide +kernel)) (by decide +kernel), ?_⟩
  refine ⟨sn_iload_n (k := 3) (dX_iload_3 (by decide +kernel)) rfl (by decide +kernel), ?_⟩
  refine ⟨sn_aload_n (k := 0) (dX_aload_0 (by decide +kernel)) rfl (by decide +kernel), ?_⟩
  refine ⟨sn_getf (C := RX12) (T := TX12) (N := 56) (idx := 25) rfl pin12 (by decide) (by decide) rfl (pmt6 147 rfl (by decide +kernel)) rfl (dX_getfield (by decide +kernel)) (by decide +kernel), ?_⟩
  refine ⟨sn_iload_n (k := 3) (dX_iload_3 (by decide +kernel)) rfl (by decide +kernel), ?_⟩
  refine ⟨sn_iald (dX_iaload (by decide +kernel)) (by decide +kernel), ?_⟩
  refine ⟨sn_iload_n (k := 1) (dX_iload_1 (by decide +kernel)) rfl (by decide +kernel), ?_⟩
  refine ⟨sn_icmp_ne (off := 7) (dX_if_icmpne (by decide +kernel)) (by decide +kernel) (by decide +kernel), ?_⟩
  refine ⟨sn_iload_n (k := 2) (dX_iload_2 (by decide +kernel)) rfl (by decide +kernel), ?_⟩
  refine ⟨sn_goto (off := 23) (dX_goto (by decide +kernel)) (by decide +kernel), ?_⟩
  refine ⟨sn_aload_n (k := 0) (dX_aload_0 (by decide +kernel)) rfl (by decide +kernel), ?_⟩
  refine ⟨sn_getf (C := RX12) (T := TX12) (N := 56) (idx := 25) rfl pin12 (by decide) (by decide) rfl (pmt6 147 rfl (by decide +kernel)) rfl (dX_getfield (by decide +kernel)) (by decide +kernel), ?_⟩
  refine ⟨sn_iload_n (k := 3) (dX_iload_3 (by decide +kernel)) rfl (by decide +kernel), ?_⟩
  refine ⟨sn_iald (dX_iaload (by decide +kernel)) (by decide +kernel), ?_⟩
  refine ⟨sn_iload_n (k := 2) (dX_iload_2 (by decide +kernel)) rfl (by decide +kernel), ?_⟩
  refine ⟨sn_icmp_ne (off := 7) (dX_if_icmpne (by decide +kernel)) (by decide +kernel) (by decide +kernel), ?_⟩
  refine ⟨sn_iload_n (k := 1) (dX_iload_1 (by decide +kernel)) rfl (by decide +kernel), ?_⟩
  refine ⟨sn_goto (off := 9) (dX_goto (by decide +kernel)) (by decide +kernel), ?_⟩
  refine ⟨sn_aload_n (k := 0) (dX_aload_0 (by decide +kernel)) rfl (by decide +kernel), ?_⟩
  refine ⟨sn_getf (C := RX12) (T := TX12) (N := 56) (idx := 25) rfl pin12 (by decide) (by decide) rfl (pmt6 147 rfl (by decide +kernel)) rfl (dX_getfield (by decide +kernel)) (by decide +kernel), ?_⟩
  refine ⟨sn_iload_n (k := 3) (dX_iload_3 (by decide +kernel)) rfl (by decide +kernel), ?_⟩
  refine ⟨sn_iald (dX_iaload (by decide +kernel)) (by decide +kernel), ?_⟩
  refine ⟨sn_iast (dX_iastore (by decide +kernel)) (by decide +kernel), ?_⟩
  refine ⟨sn_iinc (dX_iinc (by decide +kernel)) (by decide) (by decide +kernel), ?_⟩
  refine ⟨sn_goto (off := -51) (dX_goto (by decide +kernel)) (by decide +kernel), ?_⟩
  refine ⟨sn_aload_n (k := 0) (dX_aload_0 (by decide +kernel)) rfl (by decide +kernel), ?_⟩
  refine ⟨sn_aload_n (k := 0) (dX_aload_0 (by decide +kernel)) rfl (by decide +kernel), ?_⟩
  refine ⟨sn_getf (C := RX12) (T := TX12) (N := 56) (idx := 25) rfl pin12 (by decide) (by decide) rfl (pmt6 147 rfl (by decide +kernel)) rfl (dX_getfield (by decide +kernel)) (by decide +kernel), ?_⟩
  refine ⟨sn_iconst (dX_iconst_0 (by decide +kernel)) (by decide +kernel), ?_⟩
  refine ⟨sn_aload_n (k := 0) (dX_aload_0 (by decide +kernel)) rfl (by decide +kernel), ?_⟩
  refine ⟨sn_getf (C := RX12) (T := TX12) (N := 56) (idx := 69) rfl pin12 (by decide) (by decide) rfl (pmt6 176 rfl (by decide +kernel)) rfl (dX_getfield (by decide +kernel)) (by decide +kernel), ?_⟩
  refine ⟨sn_iconst (dX_iconst_0 (by decide +kernel)) (by decide +kernel), ?_⟩
  refine ⟨sn_callV (idx := 334) (C := RX12) (T := TX12) (N := 56) rfl (by decide) cal_209 (pmt8 108 rfl (by decide +kernel)) (pmt8 110 rfl (by decide +kernel)) (pms 85 rfl rfl) (dX_invokevirtual (by decide +kernel)) (by decide +kernel), ?_⟩
  refine ⟨sn_istore_n (k := 3) (dX_istore_3 (by decide +kernel)) rfl (by decide) (by decide +kernel), ?_⟩
  refine ⟨sn_aload_n (k := 0) (dX_aload_0 (by decide +kernel)) rfl (by decide +kernel), ?_⟩
  refine ⟨sn_iconst (dX_iconst_0 (by decide +kernel)) (by decide +kernel), ?_⟩
  refine ⟨sn_puti (C := RX12) (T := TX12) (N := 56) (idx := 110) rfl pin12 (by decide) (by decide) rfl tyX12 tyX12_ok nmX12 rfl rfl (by decide +kernel) (pmt6 156 rfl (by decide +kernel)) rfl (dX_putfield (by decide +kernel)) (by decide +kernel), ?_⟩
  refine ⟨sn_aload_n (k := 0) (dX_aload_0 (by decide +kernel)) rfl (by decide +kernel), ?_⟩
  refine ⟨sn_iload_n (k := 3) (dX_iload_3 (by decide +kernel)) rfl (by decide +kernel), ?_⟩
  refine ⟨sn_ldcw (idx := 258) (dX_ldc_w (by decide +kernel)) (pmt7 230 rfl (by decide +kernel)) (by decide +kernel), ?_⟩
  refine ⟨sn_icmp_lt (off := 7) (dX_if_icmplt (by decide +kernel)) (by decide +kernel) (by decide +kernel), ?_⟩
  refine ⟨sn_iconst (dX_iconst_m1 (by decide +kernel)) (by decide +kernel), ?_⟩
  refine ⟨sn_goto (off := 4) (dX_goto (by decide +kernel)) (by decide +kernel), ?_⟩
  refine ⟨sn_iload_n (k := 3) (dX_iload_3 (by decide +kernel)) rfl (by decide +kernel), ?_⟩
  refine ⟨sn_callV (idx := 294) (C := RX12) (T := TX12) (N := 56) rfl (by decide) cal_172 (pmt8 12 rfl (by decide +kernel)) (pmt8 14 rfl (by decide +kernel)) (pms 73 rfl rfl) (dX_invokevirtual (by decide +kernel)) (by decide +kernel), ?_⟩
  refine ⟨sn_aload_n (k := 0) (dX_aload_0 (by decide +kernel)) rfl (by decide +kernel), ?_⟩
  refine ⟨sn_aload_n (k := 0) (dX_aload_0 (by decide +kernel)) rfl (by decide +kernel), ?_⟩
  refine ⟨sn_getf (C := RX12) (T := TX12) (N := 56) (idx := 69) rfl pin12 (by decide) (by decide) rfl (pmt6 176 rfl (by decide +kernel)) rfl (dX_getfield (by decide +kernel)) (by decide +kernel), ?_⟩
  refine ⟨sn_callV (idx := 287) (C := RX12) (T := TX12) (N := 56) rfl (by decide) cal_212 (pmt8 20 rfl (by decide +kernel)) (pmt8 22 rfl (by decide +kernel)) (pms 75 rfl rfl) (dX_invokevirtual (by decide +kernel)) (by decide +kernel), ?_⟩
  refine ⟨sn_if_eq (off := 7) (dX_ifeq (by decide +kernel)) (by decide +kernel) (by decide +kernel), ?_⟩
  refine ⟨sn_iconst (dX_iconst_1 (by decide +kernel)) (by decide +kernel), ?_⟩
  refine ⟨sn_goto (off := 4) (dX_goto (by decide +kernel)) (by decide +kernel), ?_⟩
  refine ⟨sn_iconst (dX_iconst_0 (by decide +kernel)) (by decide +kernel), ?_⟩
  refine ⟨sn_iret rfl (dX_ireturn (by decide +kernel)), ?_⟩
  trivial
set_option maxRecDepth 100000 in
set_option maxHeartbeats 4000000 in
theorem S_246 : pAll (pSk RX12 cX12_sell 5 (some .int) PC_246) 0 C_246 := by
  refine ⟨sn_aload_n (k := 0) (dX_aload_0 (by decide +kernel)) rfl (by decide +kernel), ?_⟩
  refine ⟨sn_iconst (dX_iconst_0 (by decide +kernel)) (by decide +kernel), ?_⟩
  refine ⟨sn_puti (C := RX12) (T := TX12) (N := 56) (idx := 107) rfl pin12 (by decide) (by decide) rfl tyX12 tyX12_ok nmX12 rfl rfl (by decide +kernel) (pmt6 157 rfl (by decide +kernel)) rfl (dX_putfield (by decide +kernel)) (by decide +kernel), ?_⟩
  refine ⟨sn_aload_n (k := 0) (dX_aload_0 (by decide +kernel)) rfl (by decide +kernel), ?_⟩
  refine ⟨sn_callV (idx := 315) (C := RX12) (T := TX12) (N := 56) rfl (by decide) cal_228 (pmt8 64 rfl (by decide +kernel)) (pmt8 66 rfl (by decide +kernel)) (pms 77 rfl rfl) (dX_invokevirtual (by decide +kernel)) (by decide +kernel), ?_⟩
  refine ⟨sn_if_eq (off := 6) (dX_ifeq (by decide +kernel)) (by decide +kernel) (by decide +kernel), ?_⟩
  refine ⟨sn_bipush (dX_bipush (by decide +kernel)) (by decide +kernel) (by decide +kernel), ?_⟩
  refine ⟨sn_iret rfl (dX_ireturn (by decide +kernel)), ?_⟩
  refine ⟨sn_iconst (dX_iconst_m1 (by decide +kernel)) (by decide +kernel), ?_⟩
  refine ⟨sn_istore_n (k := 1) (dX_istore_1 (by decide +kernel)) rfl (by decide) (by decide +kernel), ?_⟩
  refine ⟨sn_iconst (dX_iconst_0 (by decide +kernel)) (by decide +kernel), ?_⟩
  refine ⟨sn_istore_n (k := 2) (dX_istore_2 (by decide +kernel)) rfl (by decide) (by decide +kernel), ?_⟩
  refine ⟨sn_iload_n (k := 2) (dX_iload_2 (by decide +kernel)) rfl (by decide +kernel), ?_⟩
  refine ⟨sn_iconst (dX_iconst_1 (by decide +kernel)) (by decide +kernel), ?_⟩
  refine ⟨sn_aload_n (k := 0) (dX_aload_0 (by decide +kernel)) rfl (by decide +kernel), ?_⟩
  refine ⟨sn_getf (C := RX12) (T := TX12) (N := 56) (idx := 249) rfl pin12 (by decide) (by decide) rfl (pmt6 170 rfl (by decide +kernel)) rfl (dX_getfield (by decide +kernel)) (by decide +kernel), ?_⟩
  refine ⟨sn_ishl (dX_ishl (by decide +kernel)) (by decide +kernel), ?_⟩
  refine ⟨sn_icmp_ge (off := 115) (dX_if_icmpge (by decide +kernel)) (by decide +kernel) (by decide +kernel), ?_⟩
  refine ⟨sn_iconst (dX_iconst_0 (by decide +kernel)) (by decide +kernel), ?_⟩
  refine ⟨sn_istore_n (k := 3) (dX_istore_3 (by decide +kernel)) rfl (by decide) (by decide +kernel), ?_⟩
  refine ⟨sn_iconst (dX_iconst_0 (by decide +kernel)) (by decide +kernel), ?_⟩
  refine ⟨sn_istore (dX_istore (by decide +kernel)) (by decide) (by decide +kernel), ?_⟩
  refine ⟨sn_iload (dX_iload (by decide +kernel)) (by decide +kernel), ?_⟩
  refine ⟨sn_aload_n (k := 0) (dX_aload_0 (by decide +kernel)) rfl (by decide +kernel), ?_⟩
  refine ⟨sn_getf (C := RX12) (T := TX12) (N := 56) (idx := 249) rfl pin12 (by decide) (by decide) rfl (pmt6 170 rfl (by decide +kernel)) rfl (dX_getfield (by decide +kernel)) (by decide +kernel), ?_⟩
  refine ⟨sn_icmp_ge (off := 32) (dX_if_icmpge (by decide +kernel)) (by decide +kernel) (by decide +kernel), ?_⟩
  refine ⟨sn_iload_n (k := 3) (dX_iload_3 (by decide +kernel)) rfl (by decide +kernel), ?_⟩
  refine ⟨sn_iload_n (k := 2) (dX_iload_2 (by decide +kernel)) rfl (by decide +kernel), ?_⟩
  refine ⟨sn_iload (dX_iload (by decide +kernel)) (by decide +kernel), ?_⟩
  refine ⟨sn_callS (idx := 234) cal_170 (pmt7 152 rfl (by decide +kernel)) (pmt7 153 rfl (by decide +kernel)) (dX_invokestatic (by decide +kernel)) (by decide +kernel), ?_⟩
  refine ⟨sn_if_eq (off := 13) (dX_ifeq (by decide +kernel)) (by decide +kernel) (by decide +kernel), ?_⟩
  refine ⟨sn_aload_n (k := 0) (dX_aload_0 (by decide +kernel)) rfl (by decide +kernel), ?_⟩
  refine ⟨sn_getf (C := RX12) (T := TX12) (N := 56) (idx := 54) rfl pin12 (by decide) (by decide) rfl (pmt6 169 rfl (by decide +kernel)) rfl (dX_getfield (by decide +kernel)) (by decide +kernel), ?_⟩
  refine ⟨sn_iload (dX_iload (by decide +kernel)) (by decide +kernel), ?_⟩
  refine ⟨sn_iald (dX_iaload (by decide +kernel)) (by decide +kernel), ?_⟩
  refine ⟨sn_goto (off := 4) (dX_goto (by decide +kernel)) (by decide +kernel), ?_⟩
  refine ⟨sn_iconst (dX_iconst_0 (by decide +kernel)) (by decide +kernel), ?_⟩
  refine ⟨sn_ior (dX_ior (by decide +kernel)) (by decide +kernel), ?_⟩
  refine ⟨sn_istore_n (k := 3) (dX_istore_3 (by decide +kernel)) rfl (by decide) (by decide +kernel), ?_⟩
  refine ⟨sn_iinc (dX_iinc (by decide +kernel)) (by decide) (by decide +kernel), ?_⟩
  refine ⟨sn_goto (off := -35) (dX_goto (by decide +kernel)) (by decide +kernel), ?_⟩
  refine ⟨sn_iload_n (k := 1) (dX_iload_1 (by decide +kernel)) rfl (by decide +kernel), ?_⟩
  refine ⟨sn_iconst (dX_iconst_m1 (by decide +kernel)) (by decide +kernel), ?_⟩
  refine ⟨sn_icmp_eq (off := 15) (dX_if_icmpeq (by decide +kernel)) (by decide +kernel) (by decide +kernel), ?_⟩
  refine ⟨sn_aload_n (k := 0) (dX_aload_0 (by decide +kernel)) rfl (by decide +kernel), ?_⟩
  refine ⟨sn_iload_n (k := 3) (dX_iload_3 (by decide +kernel)) rfl (by decide +kernel), ?_⟩
  refine ⟨sn_iload_n (k := 1) (dX_iload_1 (by decide +kernel)) rfl (by decide +kernel), ?_⟩
  refine ⟨sn_callV (idx := 341) (C := RX12) (T := TX12) (N := 56) rfl (by decide) cal_247 (pmt8 144 rfl (by decide +kernel)) (pmt8 146 rfl (by decide +kernel)) (pms 86 rfl rfl) (dX_invokevirtual (by decide +kernel)) (by decide +kernel), ?_⟩
  refine ⟨sn_if_ne (off := 6) (dX_ifne (by decide +kernel)) (by decide +kernel) (by decide +kernel), ?_⟩
  refine ⟨sn_goto (off := 49) (dX_goto (by decide +kernel)) (by decide +kernel), ?_⟩
  refine ⟨sn_aload_n (k := 0) (dX_aload_0 (by decide +kernel)) rfl (by decide +kernel), ?_⟩
  refine ⟨sn_iload_n (k := 2) (dX_iload_2 (by decide +kernel)) rfl (by decide +kernel), ?_⟩
  refine ⟨sn_puti (C := RX12) (T := TX12) (N := 56) (idx := 312) rfl pin12 (by decide) (by decide) rfl tyX12 tyX12_ok nmX12 rfl rfl (by decide +kernel) (pmt6 178 rfl (by decide +kernel)) rfl (dX_putfield (by decide +kernel)) (by decide +kernel), ?_⟩
  refine ⟨sn_iload_n (k := 2) (dX_iload_2 (by decide +kernel)) rfl (by decide +kernel), ?_⟩
  refine ⟨sn_iconst (dX_iconst_1 (by decide +kernel)) (by decide +kernel), ?_⟩
  refine ⟨sn_aload_n (k := 0) (dX_aload_0 (by decide +kernel)) rfl (by decide +kernel), ?_⟩
  refine ⟨sn_getf (C := RX12) (T := TX12) (N := 56) (idx := 249) rfl pin12 (by decide) (by decide) rfl (pmt6 170 rfl (by decide +kernel)) rfl (dX_getfield (by decide +kernel)) (by decide +kernel), ?_⟩
  refine ⟨sn_ishl (dX_ishl (by decide +kernel)) (by decide +kernel), ?_⟩
  refine ⟨sn_iconst (dX_iconst_1 (by decide +kernel)) (by decide +kernel), ?_⟩
  refine ⟨sn_isub (dX_isub (by decide +kernel)) (by decide +kernel), ?_⟩
  refine ⟨sn_icmp_ne (off := 7) (dX_if_icmpne (by decide +kernel)) (by decide +kernel) (by decide +kernel), ?_⟩
  refine ⟨sn_iconst (dX_iconst_1 (by decide +kernel)) (by decide +kernel), ?_⟩
  refine ⟨sn_goto (off := 4) (dX_goto (by decide +kernel)) (by decide +kernel), ?_⟩
  refine ⟨sn_iconst (dX_iconst_0 (by decide +kernel)) (by decide +kernel), ?_⟩
  refine ⟨sn_istore (dX_istore (by decide +kernel)) (by decide) (by decide +kernel), ?_⟩
  refine ⟨sn_iload (dX_iload (by decide +kernel)) (by decide +kernel), ?_⟩
  refine ⟨sn_if_ne (off := 13) (dX_ifne (by decide +kernel)) (by decide +kernel) (by decide +kernel), ?_⟩
  refine ⟨sn_aload_n (k := 0) (dX_aload_0 (by decide +kernel)) rfl (by decide +kernel), ?_⟩
  refine ⟨sn_callV (idx := 318) (C := RX12) (T := TX12) (N := 56) rfl (by decide) cal_229 (pmt8 68 rfl (by decide +kernel)) (pmt8 70 rfl (by decide +kernel)) (pms 78 rfl rfl) (dX_invokevirtual (by decide +kernel)) (by decide +kernel), ?_⟩
  refine ⟨sn_aload_n (k := 0) (dX_aload_0 (by decide +kernel)) rfl (by decide +kernel), ?_⟩
  refine ⟨sn_callV (idx := 321) (C := RX12) (T := TX12) (N := 56) rfl (by decide) cal_230 (pmt8 72 rfl (by decide +kernel)) (pmt8 74 rfl (by decide +kernel)) (pms 79 rfl rfl) (dX_invokevirtual (by decide +kernel)) (by decide +kernel), ?_⟩
  refine ⟨sn_istore (dX_istore (by decide +kernel)) (by decide) (by decide +kernel), ?_⟩
  refine ⟨sn_iload (dX_iload (by decide +kernel)) (by decide +kernel), ?_⟩
  refine ⟨sn_if_eq (off := 5) (dX_ifeq (by decide +kernel)) (by decide +kernel) (by decide +kernel), ?_⟩
  refine ⟨sn_iload_n (k := 3) (dX_iload_3 (by decide +kernel)) rfl (by decide +kernel), ?_⟩
  refine ⟨sn_istore_n (k := 1) (dX_istore_1 (by decide +kernel)) rfl (by decide) (by decide +kernel), ?_⟩
  refine ⟨sn_iinc (dX_iinc (by decide +kernel)) (by decide) (by decide +kernel), ?_⟩
  refine ⟨sn_goto (off := -119) (dX_goto (by decide +kernel)) (by decide +kernel), ?_⟩
  refine ⟨sn_aload_n (k := 0) (dX_aload_0 (by decide +kernel)) rfl (by decide +kernel), ?_⟩
  refine ⟨sn_iconst (dX_iconst_0 (by decide +kernel)) (by decide +kernel), ?_⟩
  refine ⟨sn_puti (C := RX12) (T := TX12) (N := 56) (idx := 312) rfl pin12 (by decide) (by decide) rfl tyX12 tyX12_ok nmX12 rfl rfl (by decide +kernel) (pmt6 178 rfl (by decide +kernel)) rfl (dX_putfield (by decide +kernel)) (by decide +kernel), ?_⟩
  refine ⟨sn_aload_n (k := 0) (dX_aload_0 (by decide +kernel)) rfl (by decide +kernel), ?_⟩
  refine ⟨sn_iconst (dX_iconst_0 (by decide +kernel)) (by decide +kernel), ?_⟩
  refine ⟨sn_puti (C := RX12) (T := TX12) (N := 56) (idx := 110) rfl pin12 (by decide) (by decide) rfl tyX12 tyX12_ok nmX12 rfl rfl (by decide +kernel) (pmt6 156 rfl (by decide +kernel)) rfl (dX_putfield (by decide +kernel)) (by decide +kernel), ?_⟩
  refine ⟨sn_aload_n (k := 0) (dX_aload_0 (by decide +kernel)) rfl (by decide +kernel), ?_⟩
  refine ⟨sn_iload_n (k := 1) (dX_iload_1 (by decide +kernel)) rfl (by decide +kernel), ?_⟩
  refine ⟨sn_callV (idx := 294) (C := RX12) (T := TX12) (N := 56) rfl (by decide) cal_172 (pmt8 12 rfl (by decide +kernel)) (pmt8 14 rfl (by decide +kernel)) (pms 73 rfl rfl) (dX_invokevirtual (by decide +kernel)) (by decide +kernel), ?_⟩
  refine ⟨sn_iload_n (k := 1) (dX_iload_1 (by decide +kernel)) rfl (by decide +kernel), ?_⟩
  refine ⟨sn_callS (idx := 211) cal_270 (pmt7 155 rfl (by decide +kernel)) (pmt4 236 rfl (by decide +kernel)) (dX_invokestatic (by decide +kernel)) (by decide +kernel), ?_⟩
  refine ⟨sn_iret rfl (dX_ireturn (by decide +kernel)), ?_⟩
  trivial
set_option maxRecDepth 100000 in
set_option maxHeartbeats 4000000 in
theorem S_247 : pAll (pSk RX12 cX12_isLess 5 (some .boolean) PC_247) 0 C_247 := by
  refine ⟨sn_iload_n (k := 1) (dX_iload_1 (by decide +kernel)) rfl (by decide +kernel), ?_⟩
  refine ⟨sn_callS (idx := 211) cal_270 (pmt7 155 rfl (by decide +kernel)) (pmt4 236 rfl (by decide +kernel)) (dX_invokestatic (by decide +kernel)) (by decide +kernel), ?_⟩
  refine ⟨sn_iload_n (k := 2) (dX_iload_2 (by decide +kernel)) rfl (by decide +kernel), ?_⟩
  refine ⟨sn_callS (idx := 211) cal_270 (pmt7 155 rfl (by decide +kernel)) (pmt4 236 rfl (by decide +kernel)) (dX_invokestatic (by decide +kernel)) (by decide +kernel), ?_⟩
  refine ⟨sn_isub (dX_isub (by decide +kernel)) (by decide +kernel), ?_⟩
  refine ⟨sn_istore_n (k := 3) (dX_istore_3 (by decide +kernel)) rfl (by decide) (by decide +kernel), ?_⟩
  refine ⟨sn_iload_n (k := 3) (dX_iload_3 (by decide +kernel)) rfl (by decide +kernel), ?_⟩
  refine ⟨sn_if_eq (off := 13) (dX_ifeq (by decide +kernel)) (by decide +kernel) (by decide +kernel), ?_⟩
  refine ⟨sn_iload_n (k := 3) (dX_iload_3 (by decide +kernel)) rfl (by decide +kernel), ?_⟩
  refine ⟨sn_if_ge (off := 7) (dX_ifge (by decide +kernel)) (by decide +kernel) (by decide +kernel), ?_⟩
  refine ⟨sn_iconst (dX_iconst_1 (by decide +kernel)) (by decide +kernel), ?_⟩
  refine ⟨sn_goto (off := 4) (dX_goto (by decide +kernel)) (by decide +kernel), ?_⟩
  refine ⟨sn_iconst (dX_iconst_0 (by decide +kernel)) (by decide +kernel), ?_⟩
  refine ⟨sn_zret (Or.inl rfl) (dX_ireturn (by decide +kernel)), ?_⟩
  refine ⟨sn_aload_n (k := 0) (dX_aload_0 (by decide +kernel)) rfl (by decide +kernel), ?_⟩
  refine ⟨sn_iload_n (k := 1) (dX_iload_1 (by decide +kernel)) rfl (by decide +kernel), ?_⟩
  refine ⟨sn_callV (idx := 300) (C := RX12) (T := TX12) (N := 56) rfl (by decide) cal_223 (pmt8 44 rfl (by decide +kernel)) (pmt8 46 rfl (by decide +kernel)) (pms 76 rfl rfl) (dX_invokevirtual (by decide +kernel)) (by decide +kernel), ?_⟩
  refine ⟨sn_aload_n (k := 0) (dX_aload_0 (by decide +kernel)) rfl (by decide +kernel), ?_⟩
  refine ⟨sn_iload_n (k := 2) (dX_iload_2 (by decide +kernel)) rfl (by decide +kernel), ?_⟩
  refine ⟨sn_callV (idx := 300) (C := RX12) (T := TX12) (N := 56) rfl (by decide) cal_223 (pmt8 44 rfl (by decide +kernel)) (pmt8 46 rfl (by decide +kernel)) (pms 76 rfl rfl) (dX_invokevirtual (by decide +kernel)) (by decide +kernel), ?_⟩
  refine ⟨sn_isub (dX_isub (by decide +kernel)) (by decide +kernel), ?_⟩
  refine ⟨sn_istore (dX_istore (by decide +kernel)) (by decide) (by decide +kernel), ?_⟩
  refine ⟨sn_iload (dX_iload (by decide +kernel)) (by decide +kernel), ?_⟩
  refine ⟨sn_if_eq (off := 16) (dX_ifeq (by decide +kernel)) (by decide +kernel) (by decide +kernel), ?_⟩
  refine ⟨sn_iload (dX_iload (by decide +kernel)) (by decide +kernel), ?_⟩
  refine ⟨sn_if_ge (off := 7) (dX_ifge (by decide +kernel)) (by decide +kernel) (by decide +kernel), ?_⟩
  refine ⟨sn_iconst (dX_iconst_1 (by decide +kernel)) (by decide +kernel), ?_⟩
  refine ⟨sn_goto (off := 17) (dX_goto (by decide +kernel)) (by decide +kernel), ?_⟩
  refine ⟨sn_iconst (dX_iconst_0 (by decide +kernel)) (by decide +kernel), ?_⟩
  refine ⟨sn_goto (off := 13) (dX_goto (by decide +kernel)) (by decide +kernel), ?_⟩
  refine ⟨sn_iload_n (k := 1) (dX_iload_1 (by decide +kernel)) rfl (by decide +kernel), ?_⟩
  refine ⟨sn_iload_n (k := 2) (dX_iload_2 (by decide +kernel)) rfl (by decide +kernel), ?_⟩
  refine ⟨sn_icmp_ge (off := 7) (dX_if_icmpge (by decide +kernel)) (by decide +kernel) (by decide +kernel), ?_⟩
  refine ⟨sn_iconst (dX_iconst_1 (by decide +kernel)) (by decide +kernel), ?_⟩
  refine ⟨sn_goto (off := 4) (dX_goto (by decide +kernel)) (by decide +kernel), ?_⟩
  refine ⟨sn_iconst (dX_iconst_0 (by decide +kernel)) (by decide +kernel), ?_⟩
  refine ⟨sn_zret (Or.inl rfl) (dX_ireturn (by decide +kernel)), ?_⟩
  trivial
set_option maxRecDepth 100000 in
set_option maxHeartbeats 4000000 in
theorem S_248 : pAll (pSk RX12 cX12_build 7 (some .int) PC_248) 0 C_248 := by
  refine ⟨sn_aload_n (k := 0) (dX_aload_0 (by decide +kernel)) rfl (by decide +kernel), ?_⟩
  refine ⟨sn_iconst (dX_iconst_0 (by decide +kernel)) (by decide +kernel), ?_⟩
  refine ⟨sn_puti (C := RX12) (T := TX12) (N := 56) (idx := 107) rfl pin12 (by decide) (by decide) rfl tyX12 tyX12_ok nmX12 rfl rfl (by decide +kernel) (pmt6 157 rfl (by decide +kernel)) rfl (dX_putfield (by decide +kernel)) (by decide +kernel), ?_⟩
  refine ⟨sn_aload_n (k := 0) (dX_aload_0 (by decide +kernel)) rfl (by decide +kernel), ?_⟩
  refine ⟨sn_getf (C := RX12) (T := TX12) (N := 56) (idx := 113) rfl pin12 (by decide) (by decide) rfl (pmt6 140 rfl (by decide +kernel)) rfl (dX_getfield (by decide +kernel)) (by decide +kernel), ?_⟩
  refine ⟨sn_if_ne (off := 6) (dX_ifne (by decide +kernel)) (by decide +kernel) (by decide +kernel), ?_⟩
  refine ⟨sn_bipush (dX_bipush (by decide +kernel)) (by decide +kernel) (by decide +kernel), ?_⟩
  refine ⟨sn_iret rfl (dX_ireturn (by decide +kernel)), ?_⟩
  refine ⟨sn_aload_n (k := 0) (dX_aload_0 (by decide +kernel)) rfl (by decide +kernel), ?_⟩
  refine ⟨sn_callV (idx := 315) (C := RX12) (T := TX12) (N := 56) rfl (by decide) cal_228 (pmt8 64 rfl (by decide +kernel)) (pmt8 66 rfl (by decide +kernel)) (pms 77 rfl rfl) (dX_invokevirtual (by decide +kernel)) (by decide +kernel), ?_⟩
  refine ⟨sn_if_eq (off := 6) (dX_ifeq (by decide +kernel)) (by decide +kernel) (by decide +kernel), ?_⟩
  refine ⟨sn_bipush (dX_bipush (by decide +kernel)) (by decide +kernel) (by decide +kernel), ?_⟩
  refine ⟨sn_iret rfl (dX_ireturn (by decide +kernel)), ?_⟩
  refine ⟨sn_iconst (dX_iconst_m1 (by decide +kernel)) (by decide +kernel), ?_⟩
  refine ⟨sn_istore_n (k := 1) (dX_istore_1 (by decide +kernel)) rfl (by decide) (by decide +kernel), ?_⟩
  refine ⟨sn_bipush (dX_bipush (by decide +kernel)) (by decide +kernel) (by decide +kernel), ?_⟩
  refine ⟨sn_istore_n (k := 2) (dX_istore_2 (by decide +kernel)) rfl (by decide) (by decide +kernel), ?_⟩
  refine ⟨sn_iconst (dX_iconst_0 (by decide +kernel)) (by decide +kernel), ?_⟩
  refine ⟨sn_istore_n (k := 3) (dX_istore_3 (by decide +kernel)) rfl (by decide) (by decide +kernel), ?_⟩
  refine ⟨sn_iload_n (k := 3) (dX_iload_3 (by decide +kernel)) rfl (by decide +kernel), ?_⟩
  refine ⟨sn_aload_n (k := 0) (dX_aload_0 (by decide +kernel)) rfl (by decide +kernel), ?_⟩
  refine ⟨sn_getf (C := RX12) (T := TX12) (N := 56) (idx := 113) rfl pin12 (by decide) (by decide) rfl (pmt6 140 rfl (by decide +kernel)) rfl (dX_getfield (by decide +kernel)) (by decide +kernel), ?_⟩
  refine ⟨sn_icmp_ge (off := 71) (dX_if_icmpge (by decide +kernel)) (by decide +kernel) (by decide +kernel), ?_⟩
  refine ⟨sn_iconst (dX_iconst_0 (by decide +kernel)) (by decide +kernel), ?_⟩
  refine ⟨sn_istore (dX_istore (by decide +kernel)) (by decide) (by decide +kernel), ?_⟩
  refine ⟨sn_iload_n (k := 2) (dX_iload_2 (by decide +kernel)) rfl (by decide +kernel), ?_⟩
  refine ⟨sn_istore (dX_istore (by decide +kernel)) (by decide) (by decide +kernel), ?_⟩
  refine ⟨sn_iload (dX_iload (by decide +kernel)) (by decide +kernel), ?_⟩
  refine ⟨sn_iload (dX_iload (by decide +kernel)) (by decide +kernel), ?_⟩
  refine ⟨sn_icmp_ge (off := 38) (dX_if_icmpge (by decide +kernel)) (by decide +kernel) (by decide +kernel), ?_⟩
  refine ⟨sn_iload (dX_iload (by decide +kernel)) (by decide +kernel), ?_⟩
  refine ⟨sn_iload (dX_iload (by decide +kernel)) (by decide +kernel), ?_⟩
  refine ⟨sn_iadd (dX_iadd (by decide +kernel)) (by decide +kernel), ?_⟩
  refine ⟨sn_iconst (dX_iconst_2 (by decide +kernel)) (by decide +kernel), ?_⟩
  refine ⟨sn_idiv (dX_idiv (by decide +kernel)) (by decide +kernel), ?_⟩
  refine ⟨sn_istore (dX_istore (by decide +kernel)) (by decide) (by decide +kernel), ?_⟩
  refine ⟨sn_aload_n (k := 0) (dX_aload_0 (by decide +kernel)) rfl (by decide +kernel), ?_⟩
  refine ⟨sn_iload_n (k := 3) (dX_iload_3 (by decide +kernel)) rfl (by decide +kernel), ?_⟩
  refine ⟨sn_iload (dX_iload (by decide +kernel)) (by decide +kernel), ?_⟩
  refine ⟨sn_callV (idx := 344) (C := RX12) (T := TX12) (N := 56) rfl (by decide) cal_249 (pmt8 152 rfl (by decide +kernel)) (pmt8 154 rfl (by decide +kernel)) (pms 87 rfl rfl) (dX_invokevirtual (by decide +kernel)) (by decide +kernel), ?_⟩
  refine ⟨sn_if_eq (off := 10) (dX_ifeq (by decide +kernel)) (by decide +kernel) (by decide +kernel), ?_⟩
  refine ⟨sn_iload (dX_iload (by decide +kernel)) (by decide +kernel), ?_⟩
  refine ⟨sn_istore (dX_istore (by decide +kernel)) (by decide) (by decide +kernel), ?_⟩
  refine ⟨sn_goto (off := 9) (dX_goto (by decide +kernel)) (by decide +kernel), ?_⟩
  refine ⟨sn_iload (dX_iload (by decide +kernel)) (by decide +kernel), ?_⟩
  refine ⟨sn_iconst (dX_iconst_1 (by decide +kernel)) (by decide +kernel), ?_⟩
  refine ⟨sn_iadd (dX_iadd (by decide +kernel)) (by decide +kernel), ?_⟩
  refine ⟨sn_istore (dX_istore (by decide +kernel)) (by decide) (by decide +kernel), ?_⟩
  refine ⟨sn_goto (off := -39) (dX_goto (by decide +kernel)) (by decide +kernel), ?_⟩
  refine ⟨sn_iload (dX_iload (by decide +kernel)) (by decide +kernel), ?_⟩
  refine ⟨sn_iload_n (k := 2) (dX_iload_2 (by decide +kernel)) rfl (by decide +kernel), ?_⟩
  refine ⟨sn_icmp_lt (off := 6) (dX_if_icmplt (by decide +kernel)) (by decide +kernel) (by decide +kernel), ?_⟩
  refine ⟨sn_goto (off := 8) (dX_goto (by decide +kernel)) (by decide +kernel), ?_⟩
  refine ⟨sn_iload (dX_iload (by decide +kernel)) (by decide +kernel), ?_⟩
  refine ⟨sn_istore_n (k := 2) (dX_istore_2 (by decide +kernel)) rfl (by decide) (by decide +kernel), ?_⟩
  refine ⟨sn_iload_n (k := 3) (dX_iload_3 (by decide +kernel)) rfl (by decide +kernel), ?_⟩
  refine ⟨sn_istore_n (k := 1) (dX_istore_1 (by decide +kernel)) rfl (by decide) (by decide +kernel), ?_⟩
  refine ⟨sn_iinc (dX_iinc (by decide +kernel)) (by decide) (by decide +kernel), ?_⟩
  refine ⟨sn_goto (off := -73) (dX_goto (by decide +kernel)) (by decide +kernel), ?_⟩
  refine ⟨sn_iload_n (k := 1) (dX_iload_1 (by decide +kernel)) rfl (by decide +kernel), ?_⟩
  refine ⟨sn_iconst (dX_iconst_m1 (by decide +kernel)) (by decide +kernel), ?_⟩
  refine ⟨sn_icmp_ne (off := 6) (dX_if_icmpne (by decide +kernel)) (by decide +kernel) (by decide +kernel), ?_⟩
  refine ⟨sn_bipush (dX_bipush (by decide +kernel)) (by decide +kernel) (by decide +kernel), ?_⟩
  refine ⟨sn_iret rfl (dX_ireturn (by decide +kernel)), ?_⟩
  refine ⟨sn_aload_n (k := 0) (dX_aload_0 (by decide +kernel)) rfl (by decide +kernel), ?_⟩
  refine ⟨sn_iconst (dX_iconst_0 (by decide +kernel)) (by decide +kernel), ?_⟩
  refine ⟨sn_puti (C := RX12) (T := TX12) (N := 56) (idx := 110) rfl pin12 (by decide) (by decide) rfl tyX12 tyX12_ok nmX12 rfl rfl (by decide +kernel) (pmt6 156 rfl (by decide +kernel)) rfl (dX_putfield (by decide +kernel)) (by decide +kernel), ?_⟩
  refine ⟨sn_aload_n (k := 0) (dX_aload_0 (by decide +kernel)) rfl (by decide +kernel), ?_⟩
  refine ⟨sn_iload_n (k := 2) (dX_iload_2 (by decide +kernel)) rfl (by decide +kernel), ?_⟩
  refine ⟨sn_if_ne (off := 7) (dX_ifne (by decide +kernel)) (by decide +kernel) (by decide +kernel), ?_⟩
  refine ⟨sn_iconst (dX_iconst_m1 (by decide +kernel)) (by decide +kernel), ?_⟩
  refine ⟨sn_goto (off := 4) (dX_goto (by decide +kernel)) (by decide +kernel), ?_⟩
  refine ⟨sn_iload_n (k := 1) (dX_iload_1 (by decide +kernel)) rfl (by decide +kernel), ?_⟩
  refine ⟨sn_callV (idx := 294) (C := RX12) (T := TX12) (N := 56) rfl (by decide) cal_172 (pmt8 12 rfl (by decide +kernel)) (pmt8 14 rfl (by decide +kernel)) (pms 73 rfl rfl) (dX_invokevirtual (by decide +kernel)) (by decide +kernel), ?_⟩
  refine ⟨sn_iload_n (k := 2) (dX_iload_2 (by decide +kernel)) rfl (by decide +kernel), ?_⟩
  refine ⟨sn_iret rfl (dX_ireturn (by decide +kernel)), ?_⟩
  trivial
set_option maxRecDepth 100000 in
set_option maxHeartbeats 4000000 in
theorem S_249 : pAll (pSk RX12 cX12_isEnough 4 (some .boolean) PC_249) 0 C_249 := by
  refine ⟨sn_aload_n (k := 0) (dX_aload_0 (by decide +kernel)) rfl (by decide +kernel), ?_⟩
  refine ⟨sn_getf (C := RX12) (T := TX12) (N := 56) (idx := 9) rfl pin12 (by decide) (by decide) rfl (pmt6 141 rfl (by decide +kernel)) rfl (dX_getfield (by decide +kernel)) (by decide +kernel), ?_⟩
  refine ⟨sn_iload_n (k := 1) (dX_iload_1 (by decide +kernel)) rfl (by decide +kernel), ?_⟩
  refine ⟨sn_dup2 (dX_dup2 (by decide +kernel)) (by decide +kernel), ?_⟩
  refine ⟨sn_iald (dX_iaload (by decide +kernel)) (by decide +kernel), ?_⟩
  refine ⟨sn_iload_n (k := 2) (dX_iload_2 (by decide +kernel)) rfl (by decide +kernel), ?_⟩
  refine ⟨sn_iadd (dX_iadd (by decide +kernel)) (by decide +kernel), ?_⟩
  refine ⟨sn_iast (dX_iastore (by decide +kernel)) (by decide +kernel), ?_⟩
  refine ⟨sn_aload_n (k := 0) (dX_aload_0 (by decide +kernel)) rfl (by decide +kernel), ?_⟩
  refine ⟨sn_callV (idx := 318) (C := RX12) (T := TX12) (N := 56) rfl (by decide) cal_229 (pmt8 68 rfl (by decide +kernel)) (pmt8 70 rfl (by decide +kernel)) (pms 78 rfl rfl) (dX_invokevirtual (by decide +kernel)) (by decide +kernel), ?_⟩
  refine ⟨sn_aload_n (k := 0) (dX_aload_0 (by decide +kernel)) rfl (by decide +kernel), ?_⟩
  refine ⟨sn_callV (idx := 321) (C := RX12) (T := TX12) (N := 56) rfl (by decide) cal_230 (pmt8 72 rfl (by decide +kernel)) (pmt8 74 rfl (by decide +kernel)) (pms 79 rfl rfl) (dX_invokevirtual (by decide +kernel)) (by decide +kernel), ?_⟩
  refine ⟨sn_istore_n (k := 3) (dX_istore_3 (by decide +kernel)) rfl (by decide) (by decide +kernel), ?_⟩
  refine ⟨sn_aload_n (k := 0) (dX_aload_0 (by decide +kernel)) rfl (by decide +kernel), ?_⟩
  refine ⟨sn_getf (C := RX12) (T := TX12) (N := 56) (idx := 9) rfl pin12 (by decide) (by decide) rfl (pmt6 141 rfl (by decide +kernel)) rfl (dX_getfield (by decide +kernel)) (by decide +kernel), ?_⟩
  refine ⟨sn_iload_n (k := 1) (dX_iload_1 (by decide +kernel)) rfl (by decide +kernel), ?_⟩
  refine ⟨sn_dup2 (dX_dup2 (by decide +kernel)) (by decide +kernel), ?_⟩
  refine ⟨sn_iald (dX_iaload (by decide +kernel)) (by decide +kernel), ?_⟩
  refine ⟨sn_iload_n (k := 2) (dX_iload_2 (by decide +kernel)) rfl (by decide +kernel), ?_⟩
  refine ⟨sn_isub (dX_isub (by decide +kernel)) (by decide +kernel), ?_⟩
  refine ⟨sn_iast (dX_iastore (by decide +kernel)) (by decide +kernel), ?_⟩
  refine ⟨sn_iload_n (k := 3) (dX_iload_3 (by decide +kernel)) rfl (by decide +kernel), ?_⟩
  refine ⟨sn_zret (Or.inl rfl) (dX_ireturn (by decide +kernel)), ?_⟩
  trivial
set_option maxRecDepth 100000 in
set_option maxHeartbeats 4000000 in
theorem S_250 : pAll (pSk RX12 cX12_way 7 (some .int) PC_250) 0 C_250 := by
  refine ⟨sn_aload_n (k := 0) (dX_aload_0 (by decide +kernel)) rfl (by decide +kernel), ?_⟩
  refine ⟨sn_iconst (dX_iconst_0 (by decide +kernel)) (by decide +kernel), ?_⟩
  refine ⟨sn_puti (C := RX12) (T := TX12) (N := 56) (idx := 107) rfl pin12 (by decide) (by decide) rfl tyX12 tyX12_ok nmX12 rfl rfl (by decide +kernel) (pmt6 157 rfl (by decide +kernel)) rfl (dX_putfield (by decide +kernel)) (by decide +kernel), ?_⟩
  refine ⟨sn_aload_n (k := 0) (dX_aload_0 (by decide +kernel)) rfl (by decide +kernel), ?_⟩
  refine ⟨sn_iload_n (k := 1) (dX_iload_1 (by decide +kernel)) rfl (by decide +kernel), ?_⟩
  refine ⟨sn_callV (idx := 252) (C := RX12) (T := TX12) (N := 56) rfl (by decide) cal_174 (pmt7 180 rfl (by decide +kernel)) (pmt7 182 rfl (by decide +kernel)) (pms 63 rfl rfl) (dX_invokevirtual (by decide +kernel)) (by decide +kernel), ?_⟩
  refine ⟨sn_if_eq (off := 11) (dX_ifeq (by decide +kernel)) (by decide +kernel) (by decide +kernel), ?_⟩
  refine ⟨sn_aload_n (k := 0) (dX_aload_0 (by decide +kernel)) rfl (by decide +kernel), ?_⟩
  refine ⟨sn_iload_n (k := 2) (dX_iload_2 (by decide +kernel)) rfl (by decide +kernel), ?_⟩
  refine ⟨sn_callV (idx := 238) (C := RX12) (T := TX12) (N := 56) rfl (by decide) cal_173 (pmt7 164 rfl (by decide +kernel)) (pmt7 166 rfl (by decide +kernel)) (pms 60 rfl rfl) (dX_invokevirtual (by decide +kernel)) (by decide +kernel), ?_⟩
  refine ⟨sn_if_ne (off := 5) (dX_ifne (by decide +kernel)) (by decide +kernel) (by decide +kernel), ?_⟩
  refine ⟨sn_iconst (dX_iconst_m1 (by decide +kernel)) (by decide +kernel), ?_⟩
  refine ⟨sn_iret rfl (dX_ireturn (by decide +kernel)), ?_⟩
  refine ⟨sn_aload_n (k := 0) (dX_aload_0 (by decide +kernel)) rfl (by decide +kernel), ?_⟩
  refine ⟨sn_iload_n (k := 2) (dX_iload_2 (by decide +kernel)) rfl (by decide +kernel), ?_⟩
  refine ⟨sn_aload_n (k := 0) (dX_aload_0 (by decide +kernel)) rfl (by decide +kernel), ?_⟩
  refine ⟨sn_getf (C := RX12) (T := TX12) (N := 56) (idx := 19) rfl pin12 (by decide) (by decide) rfl (pmt6 145 rfl (by decide +kernel)) rfl (dX_getfield (by decide +kernel)) (by decide +kernel), ?_⟩
  refine ⟨sn_iload_n (k := 1) (dX_iload_1 (by decide +kernel)) rfl (by decide +kernel), ?_⟩
  refine ⟨sn_iald (dX_iaload (by decide +kernel)) (by decide +kernel), ?_⟩
  refine ⟨sn_callV (idx := 259) (C := RX12) (T := TX12) (N := 56) rfl (by decide) cal_207 (pmt7 226 rfl (by decide +kernel)) (pmt7 228 rfl (by decide +kernel)) (pms 68 rfl rfl) (dX_invokevirtual (by decide +kernel)) (by decide +kernel), ?_⟩
  refine ⟨sn_aload_n (k := 0) (dX_aload_0 (by decide +kernel)) rfl (by decide +kernel), ?_⟩
  refine ⟨sn_getf (C := RX12) (T := TX12) (N := 56) (idx := 57) rfl pin12 (by decide) (by decide) rfl (pmt6 171 rfl (by decide +kernel)) rfl (dX_getfield (by decide +kernel)) (by decide +kernel), ?_⟩
  refine ⟨sn_aload_n (k := 0) (dX_aload_0 (by decide +kernel)) rfl (by decide +kernel), ?_⟩
  refine ⟨sn_getf (C := RX12) (T := TX12) (N := 56) (idx := 25) rfl pin12 (by decide) (by decide) rfl (pmt6 147 rfl (by decide +kernel)) rfl (dX_getfield (by decide +kernel)) (by decide +kernel), ?_⟩
  refine ⟨sn_iload_n (k := 1) (dX_iload_1 (by decide +kernel)) rfl (by decide +kernel), ?_⟩
  refine ⟨sn_iald (dX_iaload (by decide +kernel)) (by decide +kernel), ?_⟩
  refine ⟨sn_iald (dX_iaload (by decide +kernel)) (by decide +kernel), ?_⟩
  refine ⟨sn_istore_n (k := 3) (dX_istore_3 (by decide +kernel)) rfl (by decide) (by decide +kernel), ?_⟩
  refine ⟨sn_iload_n (k := 3) (dX_iload_3 (by decide +kernel)) rfl (by decide +kernel), ?_⟩
  refine ⟨sn_ldcw (idx := 258) (dX_ldc_w (by decide +kernel)) (pmt7 230 rfl (by decide +kernel)) (by decide +kernel), ?_⟩
  refine ⟨sn_icmp_lt (off := 6) (dX_if_icmplt (by decide +kernel)) (by decide +kernel) (by decide +kernel), ?_⟩
  refine ⟨sn_bipush (dX_bipush (by decide +kernel)) (by decide +kernel) (by decide +kernel), ?_⟩
  refine ⟨sn_iret rfl (dX_ireturn (by decide +kernel)), ?_⟩
  refine ⟨sn_aload_n (k := 0) (dX_aload_0 (by decide +kernel)) rfl (by decide +kernel), ?_⟩
  refine ⟨sn_iconst (dX_iconst_0 (by decide +kernel)) (by decide +kernel), ?_⟩
  refine ⟨sn_puti (C := RX12) (T := TX12) (N := 56) (idx := 110) rfl pin12 (by decide) (by decide) rfl tyX12 tyX12_ok nmX12 rfl rfl (by decide +kernel) (pmt6 156 rfl (by decide +kernel)) rfl (dX_putfield (by decide +kernel)) (by decide +kernel), ?_⟩
  refine ⟨sn_aload_n (k := 0) (dX_aload_0 (by decide +kernel)) rfl (by decide +kernel), ?_⟩
  refine ⟨sn_getf (C := RX12) (T := TX12) (N := 56) (idx := 25) rfl pin12 (by decide) (by decide) rfl (pmt6 147 rfl (by decide +kernel)) rfl (dX_getfield (by decide +kernel)) (by decide +kernel), ?_⟩
  refine ⟨sn_iload_n (k := 1) (dX_iload_1 (by decide +kernel)) rfl (by decide +kernel), ?_⟩
  refine ⟨sn_iald (dX_iaload (by decide +kernel)) (by decide +kernel), ?_⟩
  refine ⟨sn_istore (dX_istore (by decide +kernel)) (by decide) (by decide +kernel), ?_⟩
  refine ⟨sn_iload_n (k := 3) (dX_iload_3 (by decide +kernel)) rfl (by decide +kernel), ?_⟩
  refine ⟨sn_iconst (dX_iconst_1 (by decide +kernel)) (by decide +kernel), ?_⟩
  refine ⟨sn_isub (dX_isub (by decide +kernel)) (by decide +kernel), ?_⟩
  refine ⟨sn_istore (dX_istore (by decide +kernel)) (by decide) (by decide +kernel), ?_⟩
  refine ⟨sn_iload (dX_iload (by decide +kernel)) (by decide +kernel), ?_⟩
  refine ⟨sn_if_lt (off := 62) (dX_iflt (by decide +kernel)) (by decide +kernel) (by decide +kernel), ?_⟩
  refine ⟨sn_iconst (dX_iconst_0 (by decide +kernel)) (by decide +kernel), ?_⟩
  refine ⟨sn_istore (dX_istore (by decide +kernel)) (by decide) (by decide +kernel), ?_⟩
  refine ⟨sn_aload_n (k := 0) (dX_aload_0 (by decide +kernel)) rfl (by decide +kernel), ?_⟩
  refine ⟨sn_getf (C := RX12) (T := TX12) (N := 56) (idx := 57) rfl pin12 (by decide) (by decide) rfl (pmt6 171 rfl (by decide +kernel)) rfl (dX_getfield (by decide +kernel)) (by decide +kernel), ?_⟩
  refine ⟨sn_iload (dX_iload (by decide +kernel)) (by decide +kernel), ?_⟩
  refine ⟨sn_iald (dX_iaload (by decide +kernel)) (by decide +kernel), ?_⟩
  refine ⟨sn_iload (dX_iload (by decide +kernel)) (by decide +kernel), ?_⟩
  refine ⟨sn_icmp_ne (off := 25) (dX_if_icmpne (by decide +kernel)) (by decide +kernel) (by decide +kernel), ?_⟩
  refine ⟨sn_aload_n (k := 0) (dX_aload_0 (by decide +kernel)) rfl (by decide +kernel), ?_⟩
  refine ⟨sn_getf (C := RX12) (T := TX12) (N := 56) (idx := 13) rfl pin12 (by decide) (by decide) rfl (pmt6 142 rfl (by decide +kernel)) rfl (dX_getfield (by decide +kernel)) (by decide +kernel), ?_⟩
  refine ⟨sn_bipush (dX_bipush (by decide +kernel)) (by decide +kernel) (by decide +kernel), ?_⟩
  refine ⟨sn_iload (dX_iload (by decide +kernel)) (by decide +kernel), ?_⟩
  refine ⟨sn_imul (dX_imul (by decide +kernel)) (by decide +kernel), ?_⟩
  refine ⟨sn_iload (dX_iload (by decide +kernel)) (by decide +kernel), ?_⟩
  refine ⟨sn_iadd (dX_iadd (by decide +kernel)) (by decide +kernel), ?_⟩
  refine ⟨sn_iald (dX_iaload (by decide +kernel)) (by decide +kernel), ?_⟩
  refine ⟨sn_aload_n (k := 0) (dX_aload_0 (by decide +kernel)) rfl (by decide +kernel), ?_⟩
  refine ⟨sn_getf (C := RX12) (T := TX12) (N := 56) (idx := 19) rfl pin12 (by decide) (by decide) rfl (pmt6 145 rfl (by decide +kernel)) rfl (dX_getfield (by decide +kernel)) (by decide +kernel), ?_⟩
  refine ⟨sn_iload_n (k := 1) (dX_iload_1 (by decide +kernel)) rfl (by decide +kernel), ?_⟩
  refine ⟨sn_iald (dX_iaload (by decide +kernel)) (by decide +kernel), ?_⟩
  refine ⟨sn_icmp_ge (off := 9) (dX_if_icmpge (by decide +kernel)) (by decide +kernel) (by decide +kernel), ?_⟩
  refine ⟨sn_iinc (dX_iinc (by decide +kernel)) (by decide) (by decide +kernel), ?_⟩
  refine ⟨sn_goto (off := -37) (dX_goto (by decide +kernel)) (by decide +kernel), ?_⟩
  refine ⟨sn_aload_n (k := 0) (dX_aload_0 (by decide +kernel)) rfl (by decide +kernel), ?_⟩
  refine ⟨sn_iload (dX_iload (by decide +kernel)) (by decide +kernel), ?_⟩
  refine ⟨sn_callV (idx := 294) (C := RX12) (T := TX12) (N := 56) rfl (by decide) cal_172 (pmt8 12 rfl (by decide +kernel)) (pmt8 14 rfl (by decide +kernel)) (pms 73 rfl rfl) (dX_invokevirtual (by decide +kernel)) (by decide +kernel), ?_⟩
  refine ⟨sn_iload (dX_iload (by decide +kernel)) (by decide +kernel), ?_⟩
  refine ⟨sn_istore (dX_istore (by decide +kernel)) (by decide) (by decide +kernel), ?_⟩
  refine ⟨sn_iinc (dX_iinc (by decide +kernel)) (by decide) (by decide +kernel), ?_⟩
  refine ⟨sn_goto (off := -61) (dX_goto (by decide +kernel)) (by decide +kernel), ?_⟩
  refine ⟨sn_iload_n (k := 3) (dX_iload_3 (by decide +kernel)) rfl (by decide +kernel), ?_⟩
  refine ⟨sn_iret rfl (dX_ireturn (by decide +kernel)), ?_⟩
  trivial
set_option maxRecDepth 100000 in
set_option maxHeartbeats 4000000 in
theorem S_251 : pAll (pSk RX12 cX12_widest 4 (some .int) PC_251) 0 C_251 := by
  refine ⟨sn_aload_n (k := 0) (dX_aload_0 (by decide +kernel)) rfl (by decide +kernel), ?_⟩
  refine ⟨sn_iconst (dX_iconst_0 (by decide +kernel)) (by decide +kernel), ?_⟩
  refine ⟨sn_puti (C := RX12) (T := TX12) (N := 56) (idx := 107) rfl pin12 (by decide) (by decide) rfl tyX12 tyX12_ok nmX12 rfl rfl (by decide +kernel) (pmt6 157 rfl (by decide +kernel)) rfl (dX_putfield (by decide +kernel)) (by decide +kernel), ?_⟩
  refine ⟨sn_aload_n (k := 0) (dX_aload_0 (by decide +kernel)) rfl (by decide +kernel), ?_⟩
  refine ⟨sn_iload_n (k := 1) (dX_iload_1 (by decide +kernel)) rfl (by decide +kernel), ?_⟩
  refine ⟨sn_callV (idx := 238) (C := RX12) (T := TX12) (N := 56) rfl (by decide) cal_173 (pmt7 164 rfl (by decide +kernel)) (pmt7 166 rfl (by decide +kernel)) (pms 60 rfl rfl) (dX_invokevirtual (by decide +kernel)) (by decide +kernel), ?_⟩
  refine ⟨sn_if_eq (off := 11) (dX_ifeq (by decide +kernel)) (by decide +kernel) (by decide +kernel), ?_⟩
  refine ⟨sn_aload_n (k := 0) (dX_aload_0 (by decide +kernel)) rfl (by decide +kernel), ?_⟩
  refine ⟨sn_iload_n (k := 2) (dX_iload_2 (by decide +kernel)) rfl (by decide +kernel), ?_⟩
  refine ⟨sn_callV (idx := 238) (C := RX12) (T := TX12) (N := 56) rfl (by decide) cal_173 (pmt7 164 rfl (by decide +kernel)) (pmt7 166 rfl (by decide +kernel)) (pms 60 rfl rfl) (dX_invokevirtual (by decide +kernel)) (by decide +kernel), ?_⟩
  refine ⟨sn_if_ne (off := 5) (dX_ifne (by decide +kernel)) (by decide +kernel) (by decide +kernel), ?_⟩
  refine ⟨sn_iconst (dX_iconst_m1 (by decide +kernel)) (by decide +kernel), ?_⟩
  refine ⟨sn_iret rfl (dX_ireturn (by decide +kernel)), ?_⟩
  refine ⟨sn_bipush (dX_bipush (by decide +kernel)) (by decide +kernel) (by decide +kernel), ?_⟩
  refine ⟨sn_istore_n (k := 3) (dX_istore_3 (by decide +kernel)) rfl (by decide) (by decide +kernel), ?_⟩
  refine ⟨sn_iload_n (k := 3) (dX_iload_3 (by decide +kernel)) rfl (by decide +kernel), ?_⟩
  refine ⟨sn_if_le (off := 29) (dX_ifle (by decide +kernel)) (by decide +kernel) (by decide +kernel), ?_⟩
  refine ⟨sn_aload_n (k := 0) (dX_aload_0 (by decide +kernel)) rfl (by decide +kernel), ?_⟩
  refine ⟨sn_iload_n (k := 2) (dX_iload_2 (by decide +kernel)) rfl (by decide +kernel), ?_⟩
  refine ⟨sn_iload_n (k := 3) (dX_iload_3 (by decide +kernel)) rfl (by decide +kernel), ?_⟩
  refine ⟨sn_callV (idx := 259) (C := RX12) (T := TX12) (N := 56) rfl (by decide) cal_207 (pmt7 226 rfl (by decide +kernel)) (pmt7 228 rfl (by decide +kernel)) (pms 68 rfl rfl) (dX_invokevirtual (by decide +kernel)) (by decide +kernel), ?_⟩
  refine ⟨sn_aload_n (k := 0) (dX_aload_0 (by decide +kernel)) rfl (by decide +kernel), ?_⟩
  refine ⟨sn_getf (C := RX12) (T := TX12) (N := 56) (idx := 57) rfl pin12 (by decide) (by decide) rfl (pmt6 171 rfl (by decide +kernel)) rfl (dX_getfield (by decide +kernel)) (by decide +kernel), ?_⟩
  refine ⟨sn_iload_n (k := 1) (dX_iload_1 (by decide +kernel)) rfl (by decide +kernel), ?_⟩
  refine ⟨sn_iald (dX_iaload (by decide +kernel)) (by decide +kernel), ?_⟩
  refine ⟨sn_ldcw (idx := 258) (dX_ldc_w (by decide +kernel)) (pmt7 230 rfl (by decide +kernel)) (by decide +kernel), ?_⟩
  refine ⟨sn_icmp_ge (off := 5) (dX_if_icmpge (by decide +kernel)) (by decide +kernel) (by decide +kernel), ?_⟩
  refine ⟨sn_iload_n (k := 3) (dX_iload_3 (by decide +kernel)) rfl (by decide +kernel), ?_⟩
  refine ⟨sn_iret rfl (dX_ireturn (by decide +kernel)), ?_⟩
  refine ⟨sn_iinc (dX_iinc (by decide +kernel)) (by decide) (by decide +kernel), ?_⟩
  refine ⟨sn_goto (off := -27) (dX_goto (by decide +kernel)) (by decide +kernel), ?_⟩
  refine ⟨sn_iconst (dX_iconst_0 (by decide +kernel)) (by decide +kernel), ?_⟩
  refine ⟨sn_iret rfl (dX_ireturn (by decide +kernel)), ?_⟩
  trivial
set_option maxRecDepth 100000 in
set_option maxHeartbeats 4000000 in
theorem S_252 : pAll (pSk RX12 cX12_stuck 4 (some .int) PC_252) 0 C_252 := by
  refine ⟨sn_aload_n (k := 0) (dX_aload_0 (by decide +kernel)) rfl (by decide +kernel), ?_⟩
  refine ⟨sn_iconst (dX_iconst_0 (by decide +kernel)) (by decide +kernel), ?_⟩
  refine ⟨sn_puti (C := RX12) (T := TX12) (N := 56) (idx := 107) rfl pin12 (by decide) (by decide) rfl tyX12 tyX12_ok nmX12 rfl rfl (by decide +kernel) (pmt6 157 rfl (by decide +kernel)) rfl (dX_putfield (by decide +kernel)) (by decide +kernel), ?_⟩
  refine ⟨sn_iconst (dX_iconst_0 (by decide +kernel)) (by decide +kernel), ?_⟩
  refine ⟨sn_istore_n (k := 1) (dX_istore_1 (by decide +kernel)) rfl (by decide) (by decide +kernel), ?_⟩
  refine ⟨sn_iconst (dX_iconst_0 (by decide +kernel)) (by decide +kernel), ?_⟩
  refine ⟨sn_istore_n (k := 2) (dX_istore_2 (by decide +kernel)) rfl (by decide) (by decide +kernel), ?_⟩
  refine ⟨sn_iload_n (k := 2) (dX_iload_2 (by decide +kernel)) rfl (by decide +kernel), ?_⟩
  refine ⟨sn_aload_n (k := 0) (dX_aload_0 (by decide +kernel)) rfl (by decide +kernel), ?_⟩
  refine ⟨sn_getf (C := RX12) (T := TX12) (N := 56) (idx := 120) rfl pin12 (by decide) (by decide) rfl (pmt6 143 rfl (by decide +kernel)) rfl (dX_getfield (by decide +kernel)) (by decide +kernel), ?_⟩
  refine ⟨sn_icmp_ge (off := 53) (dX_if_icmpge (by decide +kernel)) (by decide +kernel) (by decide +kernel), ?_⟩
  refine ⟨sn_iconst (dX_iconst_0 (by decide +kernel)) (by decide +kernel), ?_⟩
  refine ⟨sn_istore_n (k := 3) (dX_istore_3 (by decide +kernel)) rfl (by decide) (by decide +kernel), ?_⟩
  refine ⟨sn_iload_n (k := 3) (dX_iload_3 (by decide +kernel)) rfl (by decide +kernel), ?_⟩
  refine ⟨sn_aload_n (k := 0) (dX_aload_0 (by decide +kernel)) rfl (by decide +kernel), ?_⟩
  refine ⟨sn_getf (C := RX12) (T := TX12) (N := 56) (idx := 113) rfl pin12 (by decide) (by decide) rfl (pmt6 140 rfl (by decide +kernel)) rfl (dX_getfield (by decide +kernel)) (by decide +kernel), ?_⟩
  refine ⟨sn_icmp_ge (off := 37) (dX_if_icmpge (by decide +kernel)) (by decide +kernel) (by decide +kernel), ?_⟩
  refine ⟨sn_iload_n (k := 1) (dX_iload_1 (by decide +kernel)) rfl (by decide +kernel), ?_⟩
  refine ⟨sn_aload_n (k := 0) (dX_aload_0 (by decide +kernel)) rfl (by decide +kernel), ?_⟩
  refine ⟨sn_iload_n (k := 2) (dX_iload_2 (by decide +kernel)) rfl (by decide +kernel), ?_⟩
  refine ⟨sn_aload_n (k := 0) (dX_aload_0 (by decide +kernel)) rfl (by decide +kernel), ?_⟩
  refine ⟨sn_getf (C := RX12) (T := TX12) (N := 56) (idx := 25) rfl pin12 (by decide) (by decide) rfl (pmt6 147 rfl (by decide +kernel)) rfl (dX_getfield (by decide +kernel)) (by decide +kernel), ?_⟩
  refine ⟨sn_iload_n (k := 2) (dX_iload_2 (by decide +kernel)) rfl (by decide +kernel), ?_⟩
  refine ⟨sn_iald (dX_iaload (by decide +kernel)) (by decide +kernel), ?_⟩
  refine ⟨sn_iload_n (k := 3) (dX_iload_3 (by decide +kernel)) rfl (by decide +kernel), ?_⟩
  refine ⟨sn_callV (idx := 262) (C := RX12) (T := TX12) (N := 56) rfl (by decide) cal_208 (pmt7 222 rfl (by decide +kernel)) (pmt7 224 rfl (by decide +kernel)) (pms 67 rfl rfl) (dX_invokevirtual (by decide +kernel)) (by decide +kernel), ?_⟩
  refine ⟨sn_ldcw (idx := 258) (dX_ldc_w (by decide +kernel)) (pmt7 230 rfl (by decide +kernel)) (by decide +kernel), ?_⟩
  refine ⟨sn_icmp_lt (off := 9) (dX_if_icmplt (by decide +kernel)) (by decide +kernel) (by decide +kernel), ?_⟩
  refine ⟨sn_iconst (dX_iconst_1 (by decide +kernel)) (by decide +kernel), ?_⟩
  refine ⟨sn_iload_n (k := 2) (dX_iload_2 (by decide +kernel)) rfl (by decide +kernel), ?_⟩
  refine ⟨sn_ishl (dX_ishl (by decide +kernel)) (by decide +kernel), ?_⟩
  refine ⟨sn_goto (off := 4) (dX_goto (by decide +kernel)) (by decide +kernel), ?_⟩
  refine ⟨sn_iconst (dX_iconst_0 (by decide +kernel)) (by decide +kernel), ?_⟩
  refine ⟨sn_ior (dX_ior (by decide +kernel)) (by decide +kernel), ?_⟩
  refine ⟨sn_istore_n (k := 1) (dX_istore_1 (by decide +kernel)) rfl (by decide) (by decide +kernel), ?_⟩
  refine ⟨sn_iinc (dX_iinc (by decide +kernel)) (by decide) (by decide +kernel), ?_⟩
  refine ⟨sn_goto (off := -39) (dX_goto (by decide +kernel)) (by decide +kernel), ?_⟩
  refine ⟨sn_iinc (dX_iinc (by decide +kernel)) (by decide) (by decide +kernel), ?_⟩
  refine ⟨sn_goto (off := -55) (dX_goto (by decide +kernel)) (by decide +kernel), ?_⟩
  refine ⟨sn_iload_n (k := 1) (dX_iload_1 (by decide +kernel)) rfl (by decide +kernel), ?_⟩
  refine ⟨sn_iret rfl (dX_ireturn (by decide +kernel)), ?_⟩
  trivial
set_option maxRecDepth 100000 in
set_option maxHeartbeats 4000000 in
theorem S_253 : pAll (pSk RX12 cX12_comeTo 4 (some .int) PC_253) 0 C_253 := by
  refine ⟨sn_iconst (dX_iconst_0 (by decide +kernel)) (by decide +kernel), ?_⟩
  refine ⟨sn_istore_n (k := 2) (dX_istore_2 (by decide +kernel)) rfl (by decide) (by decide +kernel), ?_⟩
  refine ⟨sn_iconst (dX_iconst_0 (by decide +kernel)) (by decide +kernel), ?_⟩
  refine ⟨sn_istore_n (k := 3) (dX_istore_3 (by decide +kernel)) rfl (by decide) (by decide +kernel), ?_⟩
  refine ⟨sn_iload_n (k := 3) (dX_iload_3 (by decide +kernel)) rfl (by decide +kernel), ?_⟩
  refine ⟨sn_aload_n (k := 0) (dX_aload_0 (by decide +kernel)) rfl (by decide +kernel), ?_⟩
  refine ⟨sn_getf (C := RX12) (T := TX12) (N := 56) (idx := 120) rfl pin12 (by decide) (by decide) rfl (pmt6 143 rfl (by decide +kernel)) rfl (dX_getfield (by decide +kernel)) (by decide +kernel), ?_⟩
  refine ⟨sn_icmp_ge (off := 35) (dX_if_icmpge (by decide +kernel)) (by decide +kernel) (by decide +kernel), ?_⟩
  refine ⟨sn_iload_n (k := 2) (dX_iload_2 (by decide +kernel)) rfl (by decide +kernel), ?_⟩
  refine ⟨sn_aload_n (k := 0) (dX_aload_0 (by decide +kernel)) rfl (by decide +kernel), ?_⟩
  refine ⟨sn_iload_n (k := 3) (dX_iload_3 (by decide +kernel)) rfl (by decide +kernel), ?_⟩
  refine ⟨sn_aload_n (k := 0) (dX_aload_0 (by decide +kernel)) rfl (by decide +kernel), ?_⟩
  refine ⟨sn_getf (C := RX12) (T := TX12) (N := 56) (idx := 25) rfl pin12 (by decide) (by decide) rfl (pmt6 147 rfl (by decide +kernel)) rfl (dX_getfield (by decide +kernel)) (by decide +kernel), ?_⟩
  refine ⟨sn_iload_n (k := 3) (dX_iload_3 (by decide +kernel)) rfl (by decide +kernel), ?_⟩
  refine ⟨sn_iald (dX_iaload (by decide +kernel)) (by decide +kernel), ?_⟩
  refine ⟨sn_iload_n (k := 1) (dX_iload_1 (by decide +kernel)) rfl (by decide +kernel), ?_⟩
  refine ⟨sn_callV (idx := 262) (C := RX12) (T := TX12) (N := 56) rfl (by decide) cal_208 (pmt7 222 rfl (by decide +kernel)) (pmt7 224 rfl (by decide +kernel)) (pms 67 rfl rfl) (dX_invokevirtual (by decide +kernel)) (by decide +kernel), ?_⟩
  refine ⟨sn_ldcw (idx := 258) (dX_ldc_w (by decide +kernel)) (pmt7 230 rfl (by decide +kernel)) (by decide +kernel), ?_⟩
  refine ⟨sn_icmp_ge (off := 7) (dX_if_icmpge (by decide +kernel)) (by decide +kernel) (by decide +kernel), ?_⟩
  refine ⟨sn_iconst (dX_iconst_1 (by decide +kernel)) (by decide +kernel), ?_⟩
  refine ⟨sn_goto (off := 4) (dX_goto (by decide +kernel)) (by decide +kernel), ?_⟩
  refine ⟨sn_iconst (dX_iconst_0 (by decide +kernel)) (by decide +kernel), ?_⟩
  refine ⟨sn_iadd (dX_iadd (by decide +kernel)) (by decide +kernel), ?_⟩
  refine ⟨sn_istore_n (k := 2) (dX_istore_2 (by decide +kernel)) rfl (by decide) (by decide +kernel), ?_⟩
  refine ⟨sn_iinc (dX_iinc (by decide +kernel)) (by decide) (by decide +kernel), ?_⟩
  refine ⟨sn_goto (off := -37) (dX_goto (by decide +kernel)) (by decide +kernel), ?_⟩
  refine ⟨sn_iload_n (k := 2) (dX_iload_2 (by decide +kernel)) rfl (by decide +kernel), ?_⟩
  refine ⟨sn_iret rfl (dX_ireturn (by decide +kernel)), ?_⟩
  trivial
set_option maxRecDepth 100000 in
set_option maxHeartbeats 4000000 in
theorem S_254 : pAll (pSk RX12 cX12_hinge 9 (some .int) PC_254) 0 C_254 := by
  refine ⟨sn_aload_n (k := 0) (dX_aload_0 (by decide +kernel)) rfl (by decide +kernel), ?_⟩
  refine ⟨sn_iconst (dX_iconst_0 (by decide +kernel)) (by decide +kernel), ?_⟩
  refine ⟨sn_puti (C := RX12) (T := TX12) (N := 56) (idx := 107) rfl pin12 (by decide) (by decide) rfl tyX12 tyX12_ok nmX12 rfl rfl (by decide +kernel) (pmt6 157 rfl (by decide +kernel)) rfl (dX_putfield (by decide +kernel)) (by decide +kernel), ?_⟩
  refine ⟨sn_aload_n (k := 0) (dX_aload_0 (by decide +kernel)) rfl (by decide +kernel), ?_⟩
  refine ⟨sn_iload_n (k := 1) (dX_iload_1 (by decide +kernel)) rfl (by decide +kernel), ?_⟩
  refine ⟨sn_callV (idx := 238) (C := RX12) (T := TX12) (N := 56) rfl (by decide) cal_173 (pmt7 164 rfl (by decide +kernel)) (pmt7 166 rfl (by decide +kernel)) (pms 60 rfl rfl) (dX_invokevirtual (by decide +kernel)) (by decide +kernel), ?_⟩
  refine ⟨sn_if_ne (off := 5) (dX_ifne (by decide +kernel)) (by decide +kernel) (by decide +kernel), ?_⟩
  refine ⟨sn_iconst (dX_iconst_m1 (by decide +kernel)) (by decide +kernel), ?_⟩
  refine ⟨sn_iret rfl (dX_ireturn (by decide +kernel)), ?_⟩
  refine ⟨sn_bipush (dX_bipush (by decide +kernel)) (by decide +kernel) (by decide +kernel), ?_⟩
  refine ⟨sn_istore_n (k := 2) (dX_istore_2 (by decide +kernel)) rfl (by decide) (by decide +kernel), ?_⟩
  refine ⟨sn_iconst (dX_iconst_0 (by decide +kernel)) (by decide +kernel), ?_⟩
  refine ⟨sn_istore_n (k := 3) (dX_istore_3 (by decide +kernel)) rfl (by decide) (by decide +kernel), ?_⟩
  refine ⟨sn_iconst (dX_iconst_0 (by decide +kernel)) (by decide +kernel), ?_⟩
  refine ⟨sn_istore (dX_istore (by decide +kernel)) (by decide) (by decide +kernel), ?_⟩
  refine ⟨sn_iconst (dX_iconst_0 (by decide +kernel)) (by decide +kernel), ?_⟩
  refine ⟨sn_istore (dX_istore (by decide +kernel)) (by decide) (by decide +kernel), ?_⟩
  refine ⟨sn_iload (dX_iload (by decide +kernel)) (by decide +kernel), ?_⟩
  refine ⟨sn_aload_n (k := 0) (dX_aload_0 (by decide +kernel)) rfl (by decide +kernel), ?_⟩
  refine ⟨sn_getf (C := RX12) (T := TX12) (N := 56) (idx := 113) rfl pin12 (by decide) (by decide) rfl (pmt6 140 rfl (by decide +kernel)) rfl (dX_getfield (by decide +kernel)) (by decide +kernel), ?_⟩
  refine ⟨sn_icmp_ge (off := 104) (dX_if_icmpge (by decide +kernel)) (by decide +kernel) (by decide +kernel), ?_⟩
  refine ⟨sn_iload (dX_iload (by decide +kernel)) (by decide +kernel), ?_⟩
  refine ⟨sn_iconst (dX_iconst_1 (by decide +kernel)) (by decide +kernel), ?_⟩
  refine ⟨sn_iadd (dX_iadd (by decide +kernel)) (by decide +kernel), ?_⟩
  refine ⟨sn_istore (dX_istore (by decide +kernel)) (by decide) (by decide +kernel), ?_⟩
  refine ⟨sn_iload (dX_iload (by decide +kernel)) (by decide +kernel), ?_⟩
  refine ⟨sn_aload_n (k := 0) (dX_aload_0 (by decide +kernel)) rfl (by decide +kernel), ?_⟩
  refine ⟨sn_getf (C := RX12) (T := TX12) (N := 56) (idx := 113) rfl pin12 (by decide) (by decide) rfl (pmt6 140 rfl (by decide +kernel)) rfl (dX_getfield (by decide +kernel)) (by decide +kernel), ?_⟩
  refine ⟨sn_icmp_ge (off := 83) (dX_if_icmpge (by decide +kernel)) (by decide +kernel) (by decide +kernel), ?_⟩
  refine ⟨sn_aload_n (k := 0) (dX_aload_0 (by decide +kernel)) rfl (by decide +kernel), ?_⟩
  refine ⟨sn_getf (C := RX12) (T := TX12) (N := 56) (idx := 13) rfl pin12 (by decide) (by decide) rfl (pmt6 142 rfl (by decide +kernel)) rfl (dX_getfield (by decide +kernel)) (by decide +kernel), ?_⟩
  refine ⟨sn_bipush (dX_bipush (by decide +kernel)) (by decide +kernel) (by decide +kernel), ?_⟩
  refine ⟨sn_iload (dX_iload (by decide +kernel)) (by decide +kernel), ?_⟩
  refine ⟨sn_imul (dX_imul (by decide +kernel)) (by decide +kernel), ?_⟩
  refine ⟨sn_iload (dX_iload (by decide +kernel)) (by decide +kernel), ?_⟩
  refine ⟨sn_iadd (dX_iadd (by decide +kernel)) (by decide +kernel), ?_⟩
  refine ⟨sn_iald (dX_iaload (by decide +kernel)) (by decide +kernel), ?_⟩
  refine ⟨sn_istore (dX_istore (by decide +kernel)) (by decide) (by decide +kernel), ?_⟩
  refine ⟨sn_iload (dX_iload (by decide +kernel)) (by decide +kernel), ?_⟩
  refine ⟨sn_if_ne (off := 6) (dX_ifne (by decide +kernel)) (by decide +kernel) (by decide +kernel), ?_⟩
  refine ⟨sn_goto (off := 54) (dX_goto (by decide +kernel)) (by decide +kernel), ?_⟩
  refine ⟨sn_aload_n (k := 0) (dX_aload_0 (by decide +kernel)) rfl (by decide +kernel), ?_⟩
  refine ⟨sn_iload (dX_iload (by decide +kernel)) (by decide +kernel), ?_⟩
  refine ⟨sn_iload (dX_iload (by decide +kernel)) (by decide +kernel), ?_⟩
  refine ⟨sn_bipush (dX_bipush (by decide +kernel)) (by decide +kernel) (by decide +kernel), ?_⟩
  refine ⟨sn_callV (idx := 179) (C := RX12) (T := TX12) (N := 56) rfl (by decide) cal_185 (pmt7 120 rfl (by decide +kernel)) (pmt7 122 rfl (by decide +kernel)) (pms 52 rfl rfl) (dX_invokevirtual (by decide +kernel)) (by decide +kernel), ?_⟩
  refine ⟨sn_aload_n (k := 0) (dX_aload_0 (by decide +kernel)) rfl (by decide +kernel), ?_⟩
  refine ⟨sn_iload_n (k := 1) (dX_iload_1 (by decide +kernel)) rfl (by decide +kernel), ?_⟩
  refine ⟨sn_callV (idx := 347) (C := RX12) (T := TX12) (N := 56) rfl (by decide) cal_253 (pmt8 172 rfl (by decide +kernel)) (pmt8 174 rfl (by decide +kernel)) (pms 88 rfl rfl) (dX_invokevirtual (by decide +kernel)) (by decide +kernel), ?_⟩
  refine ⟨sn_istore (dX_istore (by decide +kernel)) (by decide) (by decide +kernel), ?_⟩
  refine ⟨sn_aload_n (k := 0) (dX_aload_0 (by decide +kernel)) rfl (by decide +kernel), ?_⟩
  refine ⟨sn_iload (dX_iload (by decide +kernel)) (by decide +kernel), ?_⟩
  refine ⟨sn_iload (dX_iload (by decide +kernel)) (by decide +kernel), ?_⟩
  refine ⟨sn_iload (dX_iload (by decide +kernel)) (by decide +kernel), ?_⟩
  refine ⟨sn_callV (idx := 179) (C := RX12) (T := TX12) (N := 56) rfl (by decide) cal_185 (pmt7 120 rfl (by decide +kernel)) (pmt7 122 rfl (by decide +kernel)) (pms 52 rfl rfl) (dX_invokevirtual (by decide +kernel)) (by decide +kernel), ?_⟩
  refine ⟨sn_iload_n (k := 2) (dX_iload_2 (by decide +kernel)) rfl (by decide +kernel), ?_⟩
  refine ⟨sn_if_lt (off := 13) (dX_iflt (by decide +kernel)) (by decide +kernel) (by decide +kernel), ?_⟩
  refine ⟨sn_iload (dX_iload (by decide +kernel)) (by decide +kernel), ?_⟩
  refine ⟨sn_iload (dX_iload (by decide +kernel)) (by decide +kernel), ?_⟩
  refine ⟨sn_icmp_gt (off := 6) (dX_if_icmpgt (by decide +kernel)) (by decide +kernel) (by decide +kernel), ?_⟩
  refine ⟨sn_goto (off := 13) (dX_goto (by decide +kernel)) (by decide +kernel), ?_⟩
  refine ⟨sn_iload (dX_iload (by decide +kernel)) (by decide +kernel), ?_⟩
  refine ⟨sn_istore_n (k := 2) (dX_istore_2 (by decide +kernel)) rfl (by decide) (by decide +kernel), ?_⟩
  refine ⟨sn_iload (dX_iload (by decide +kernel)) (by decide +kernel), ?_⟩
  refine ⟨sn_istore_n (k := 3) (dX_istore_3 (by decide +kernel)) rfl (by decide) (by decide +kernel), ?_⟩
  refine ⟨sn_iload (dX_iload (by decide +kernel)) (by decide +kernel), ?_⟩
  refine ⟨sn_istore (dX_istore (by decide +kernel)) (by decide) (by decide +kernel), ?_⟩
  refine ⟨sn_iinc (dX_iinc (by decide +kernel)) (by decide) (by decide +kernel), ?_⟩
  refine ⟨sn_goto (off := -86) (dX_goto (by decide +kernel)) (by decide +kernel), ?_⟩
  refine ⟨sn_iinc (dX_iinc (by decide +kernel)) (by decide) (by decide +kernel), ?_⟩
  refine ⟨sn_goto (off := -107) (dX_goto (by decide +kernel)) (by decide +kernel), ?_⟩
  refine ⟨sn_iload_n (k := 2) (dX_iload_2 (by decide +kernel)) rfl (by decide +kernel), ?_⟩
  refine ⟨sn_if_ge (off := 6) (dX_ifge (by decide +kernel)) (by decide +kernel) (by decide +kernel), ?_⟩
  refine ⟨sn_bipush (dX_bipush (by decide +kernel)) (by decide +kernel) (by decide +kernel), ?_⟩
  refine ⟨sn_iret rfl (dX_ireturn (by decide +kernel)), ?_⟩
  refine ⟨sn_aload_n (k := 0) (dX_aload_0 (by decide +kernel)) rfl (by decide +kernel), ?_⟩
  refine ⟨sn_iconst (dX_iconst_0 (by decide +kernel)) (by decide +kernel), ?_⟩
  refine ⟨sn_puti (C := RX12) (T := TX12) (N := 56) (idx := 110) rfl pin12 (by decide) (by decide) rfl tyX12 tyX12_ok nmX12 rfl rfl (by decide +kernel) (pmt6 156 rfl (by decide +kernel)) rfl (dX_putfield (by decide +kernel)) (by decide +kernel), ?_⟩
  refine ⟨sn_aload_n (k := 0) (dX_aload_0 (by decide +kernel)) rfl (by decide +kernel), ?_⟩
  refine ⟨sn_iload_n (k := 3) (dX_iload_3 (by decide +kernel)) rfl (by decide +kernel), ?_⟩
  refine ⟨sn_callV (idx := 294) (C := RX12) (T := TX12) (N := 56) rfl (by decide) cal_172 (pmt8 12 rfl (by decide +kernel)) (pmt8 14 rfl (by decide +kernel)) (pms 73 rfl rfl) (dX_invokevirtual (by decide +kernel)) (by decide +kernel), ?_⟩
  refine ⟨sn_aload_n (k := 0) (dX_aload_0 (by decide +kernel)) rfl (by decide +kernel), ?_⟩
  refine ⟨sn_iload (dX_iload (by decide +kernel)) (by decide +kernel), ?_⟩
  refine ⟨sn_callV (idx := 294) (C := RX12) (T := TX12) (N := 56) rfl (by decide) cal_172 (pmt8 12 rfl (by decide +kernel)) (pmt8 14 rfl (by decide +kernel)) (pms 73 rfl rfl) (dX_invokevirtual (by decide +kernel)) (by decide +kernel), ?_⟩
  refine ⟨sn_iload_n (k := 2) (dX_iload_2 (by decide +kernel)) rfl (by decide +kernel), ?_⟩
  refine ⟨sn_iret rfl (dX_ireturn (by decide +kernel)), ?_⟩
  trivial
set_option maxRecDepth 100000 in
set_option maxHeartbeats 4000000 in
theorem S_255 : pAll (pSk RX12 cX12_aim 3 (some .int) PC_255) 0 C_255 := by
  refine ⟨sn_aload_n (k := 0) (dX_aload_0 (by decide +kernel)) rfl (by decide +kernel), ?_⟩
  refine ⟨sn_iconst (dX_iconst_0 (by decide +kernel)) (by decide +kernel), ?_⟩
  refine ⟨sn_puti (C := RX12) (T := TX12) (N := 56) (idx := 107) rfl pin12 (by decide) (by decide) rfl tyX12 tyX12_ok nmX12 rfl rfl (by decide +kernel) (pmt6 157 rfl (by decide +kernel)) rfl (dX_putfield (by decide +kernel)) (by decide +kernel), ?_⟩
  refine ⟨sn_aload_n (k := 0) (dX_aload_0 (by decide +kernel)) rfl (by decide +kernel), ?_⟩
  refine ⟨sn_getf (C := RX12) (T := TX12) (N := 56) (idx := 123) rfl pin12 (by decide) (by decide) rfl (pmt6 154 rfl (by decide +kernel)) rfl (dX_getfield (by decide +kernel)) (by decide +kernel), ?_⟩
  refine ⟨sn_istore_n (k := 1) (dX_istore_1 (by decide +kernel)) rfl (by decide) (by decide +kernel), ?_⟩
  refine ⟨sn_aload_n (k := 0) (dX_aload_0 (by decide +kernel)) rfl (by decide +kernel), ?_⟩
  refine ⟨sn_iconst (dX_iconst_0 (by decide +kernel)) (by decide +kernel), ?_⟩
  refine ⟨sn_puti (C := RX12) (T := TX12) (N := 56) (idx := 123) rfl pin12 (by decide) (by decide) rfl tyX12 tyX12_ok nmX12 rfl rfl (by decide +kernel) (pmt6 154 rfl (by decide +kernel)) rfl (dX_putfield (by decide +kernel)) (by decide +kernel), ?_⟩
  refine ⟨sn_iload_n (k := 1) (dX_iload_1 (by decide +kernel)) rfl (by decide +kernel), ?_⟩
  refine ⟨sn_if_ne (off := 10) (dX_ifne (by decide +kernel)) (by decide +kernel) (by decide +kernel), ?_⟩
  refine ⟨sn_aload_n (k := 0) (dX_aload_0 (by decide +kernel)) rfl (by decide +kernel), ?_⟩
  refine ⟨sn_iconst (dX_iconst_0 (by decide +kernel)) (by decide +kernel), ?_⟩
  refine ⟨sn_putz (C := RX12) (T := TX12) (N := 56) (idx := 350) rfl pin12 (by decide) (by decide) rfl tyX12 tyX12_ok nmX12 rfl rfl (by decide +kernel) (pmt6 184 rfl (by decide +kernel)) rfl (dX_putfield (by decide +kernel)) (by decide +kernel), ?_⟩
  refine ⟨sn_iconst (dX_iconst_0 (by decide +kernel)) (by decide +kernel), ?_⟩
  refine ⟨sn_iret rfl (dX_ireturn (by decide +kernel)), ?_⟩
  refine ⟨sn_iconst (dX_iconst_0 (by decide +kernel)) (by decide +kernel), ?_⟩
  refine ⟨sn_istore_n (k := 2) (dX_istore_2 (by decide +kernel)) rfl (by decide) (by decide +kernel), ?_⟩
  refine ⟨sn_iload_n (k := 2) (dX_iload_2 (by decide +kernel)) rfl (by decide +kernel), ?_⟩
  refine ⟨sn_iload_n (k := 1) (dX_iload_1 (by decide +kernel)) rfl (by decide +kernel), ?_⟩
  refine ⟨sn_icmp_ge (off := 44) (dX_if_icmpge (by decide +kernel)) (by decide +kernel) (by decide +kernel), ?_⟩
  refine ⟨sn_iload_n (k := 2) (dX_iload_2 (by decide +kernel)) rfl (by decide +kernel), ?_⟩
  refine ⟨sn_aload_n (k := 0) (dX_aload_0 (by decide +kernel)) rfl (by decide +kernel), ?_⟩
  refine ⟨sn_getf (C := RX12) (T := TX12) (N := 56) (idx := 120) rfl pin12 (by decide) (by decide) rfl (pmt6 143 rfl (by decide +kernel)) rfl (dX_getfield (by decide +kernel)) (by decide +kernel), ?_⟩
  refine ⟨sn_icmp_eq (off := 26) (dX_if_icmpeq (by decide +kernel)) (by decide +kernel) (by decide +kernel), ?_⟩
  refine ⟨sn_aload_n (k := 0) (dX_aload_0 (by decide +kernel)) rfl (by decide +kernel), ?_⟩
  refine ⟨sn_getf (C := RX12) (T := TX12) (N := 56) (idx := 35) rfl pin12 (by decide) (by decide) rfl (pmt6 153 rfl (by decide +kernel)) rfl (dX_getfield (by decide +kernel)) (by decide +kernel), ?_⟩
  refine ⟨sn_iload_n (k := 2) (dX_iload_2 (by decide +kernel)) rfl (by decide +kernel), ?_⟩
  refine ⟨sn_bald (dX_baload (by decide +kernel)) (by decide +kernel), ?_⟩
  refine ⟨sn_bipush (dX_bipush (by decide +kernel)) (by decide +kernel) (by decide +kernel), ?_⟩
  refine ⟨sn_bipush (dX_bipush (by decide +kernel)) (by decide +kernel) (by decide +kernel), ?_⟩
  refine ⟨sn_aload_n (k := 0) (dX_aload_0 (by decide +kernel)) rfl (by decide +kernel), ?_⟩
  refine ⟨sn_getf (C := RX12) (T := TX12) (N := 56) (idx := 113) rfl pin12 (by decide) (by decide) rfl (pmt6 140 rfl (by decide +kernel)) rfl (dX_getfield (by decide +kernel)) (by decide +kernel), ?_⟩
  refine ⟨sn_iadd (dX_iadd (by decide +kernel)) (by decide +kernel), ?_⟩
  refine ⟨sn_iconst (dX_iconst_1 (by decide +kernel)) (by decide +kernel), ?_⟩
  refine ⟨sn_isub (dX_isub (by decide +kernel)) (by decide +kernel), ?_⟩
  refine ⟨sn_callS (idx := 116) cal_169 (pmt7 77 rfl (by decide +kernel)) (pmt7 78 rfl (by decide +kernel)) (dX_invokestatic (by decide +kernel)) (by decide +kernel), ?_⟩
  refine ⟨sn_if_ne (off := 7) (dX_ifne (by decide +kernel)) (by decide +kernel) (by decide +kernel), ?_⟩
  refine ⟨sn_iconst (dX_iconst_m1 (by decide +kernel)) (by decide +kernel), ?_⟩
  refine ⟨sn_iload_n (k := 2) (dX_iload_2 (by decide +kernel)) rfl (by decide +kernel), ?_⟩
  refine ⟨sn_isub (dX_isub (by decide +kernel)) (by decide +kernel), ?_⟩
  refine ⟨sn_iret rfl (dX_ireturn (by decide +kernel)), ?_⟩
  refine ⟨sn_iinc (dX_iinc (by decide +kernel)) (by decide) (by decide +kernel), ?_⟩
  refine ⟨sn_goto (off := -43) (dX_goto (by decide +kernel)) (by decide +kernel), ?_⟩
  refine ⟨sn_iload_n (k := 1) (dX_iload_1 (by decide +kernel)) rfl (by decide +kernel), ?_⟩
  refine ⟨sn_aload_n (k := 0) (dX_aload_0 (by decide +kernel)) rfl (by decide +kernel), ?_⟩
  refine ⟨sn_getf (C := RX12) (T := TX12) (N := 56) (idx := 120) rfl pin12 (by decide) (by decide) rfl (pmt6 143 rfl (by decide +kernel)) rfl (dX_getfield (by decide +kernel)) (by decide +kernel), ?_⟩
  refine ⟨sn_icmp_ge (off := 7) (dX_if_icmpge (by decide +kernel)) (by decide +kernel) (by decide +kernel), ?_⟩
  refine ⟨sn_iconst (dX_iconst_m1 (by decide +kernel)) (by decide +kernel), ?_⟩
  refine ⟨sn_iload_n (k := 1) (dX_iload_1 (by decide +kernel)) rfl (by decide +kernel), ?_⟩
  refine ⟨sn_isub (dX_isub (by decide +kernel)) (by decide +kernel), ?_⟩
  refine ⟨sn_iret rfl (dX_ireturn (by decide +kernel)), ?_⟩
  refine ⟨sn_iconst (dX_iconst_0 (by decide +kernel)) (by decide +kernel), ?_⟩
  refine ⟨sn_istore_n (k := 2) (dX_istore_2 (by decide +kernel)) rfl (by decide) (by decide +kernel), ?_⟩
  refine ⟨sn_iload_n (k := 2) (dX_iload_2 (by decide +kernel)) rfl (by decide +kernel), ?_⟩
  refine ⟨sn_iload_n (k := 1) (dX_iload_1 (by decide +kernel)) rfl (by decide +kernel), ?_⟩
  refine ⟨sn_icmp_ge (off := 24) (dX_if_icmpge (by decide +kernel)) (by decide +kernel) (by decide +kernel), ?_⟩
  refine ⟨sn_aload_n (k := 0) (dX_aload_0 (by decide +kernel)) rfl (by decide +kernel), ?_⟩
  refine ⟨sn_getf (C := RX12) (T := TX12) (N := 56) (idx := 78) rfl pin12 (by decide) (by decide) rfl (pmt6 182 rfl (by decide +kernel)) rfl (dX_getfield (by decide +kernel)) (by decide +kernel), ?_⟩
  refine ⟨sn_iload_n (k := 2) (dX_iload_2 (by decide +kernel)) rfl (by decide +kernel), ?_⟩
  refine ⟨sn_aload_n (k := 0) (dX_aload_0 (by decide +kernel)) rfl (by decide +kernel), ?_⟩
  refine ⟨sn_getf (C := RX12) (T := TX12) (N := 56) (idx := 35) rfl pin12 (by decide) (by decide) rfl (pmt6 153 rfl (by decide +kernel)) rfl (dX_getfield (by decide +kernel)) (by decide +kernel), ?_⟩
  refine ⟨sn_iload_n (k := 2) (dX_iload_2 (by decide +kernel)) rfl (by decide +kernel), ?_⟩
  refine ⟨sn_bald (dX_baload (by decide +kernel)) (by decide +kernel), ?_⟩
  refine ⟨sn_bipush (dX_bipush (by decide +kernel)) (by decide +kernel) (by decide +kernel), ?_⟩
  refine ⟨sn_isub (dX_isub (by decide +kernel)) (by decide +kernel), ?_⟩
  refine ⟨sn_iast (dX_iastore (by decide +kernel)) (by decide +kernel), ?_⟩
  refine ⟨sn_iinc (dX_iinc (by decide +kernel)) (by decide) (by decide +kernel), ?_⟩
  refine ⟨sn_goto (off := -23) (dX_goto (by decide +kernel)) (by decide +kernel), ?_⟩
  refine ⟨sn_aload_n (k := 0) (dX_aload_0 (by decide +kernel)) rfl (by decide +kernel), ?_⟩
  refine ⟨sn_iload_n (k := 1) (dX_iload_1 (by decide +kernel)) rfl (by decide +kernel), ?_⟩
  refine ⟨sn_puti (C := RX12) (T := TX12) (N := 56) (idx := 354) rfl pin12 (by decide) (by decide) rfl tyX12 tyX12_ok nmX12 rfl rfl (by decide +kernel) (pmt6 183 rfl (by decide +kernel)) rfl (dX_putfield (by decide +kernel)) (by decide +kernel), ?_⟩
  refine ⟨sn_aload_n (k := 0) (dX_aload_0 (by decide +kernel)) rfl (by decide +kernel), ?_⟩
  refine ⟨sn_iconst (dX_iconst_1 (by decide +kernel)) (by decide +kernel), ?_⟩
  refine ⟨sn_putz (C := RX12) (T := TX12) (N := 56) (idx := 350) rfl pin12 (by decide) (by decide) rfl tyX12 tyX12_ok nmX12 rfl rfl (by decide +kernel) (pmt6 184 rfl (by decide +kernel)) rfl (dX_putfield (by decide +kernel)) (by decide +kernel), ?_⟩
  refine ⟨sn_iload_n (k := 1) (dX_iload_1 (by decide +kernel)) rfl (by decide +kernel), ?_⟩
  refine ⟨sn_iret rfl (dX_ireturn (by decide +kernel)), ?_⟩
  trivial
set_option maxRecDepth 100000 in
set_option maxHeartbeats 4000000 in
theorem S_256 : pAll (pSk RX12 cX12_hasAim 1 (some .boolean) PC_256) 0 C_256 := by
  refine ⟨sn_aload_n (k := 0) (dX_aload_0 (by decide +kernel)) rfl (by decide +kernel), ?_⟩
  refine ⟨sn_getf (C := RX12) (T := TX12) (N := 56) (idx := 350) rfl pin12 (by decide) (by decide) rfl (pmt6 184 rfl (by decide +kernel)) rfl (dX_getfield (by decide +kernel)) (by decide +kernel), ?_⟩
  refine ⟨sn_if_eq (off := 18) (dX_ifeq (by decide +kernel)) (by decide +kernel) (by decide +kernel), ?_⟩
  refine ⟨sn_aload_n (k := 0) (dX_aload_0 (by decide +kernel)) rfl (by decide +kernel), ?_⟩
  refine ⟨sn_getf (C := RX12) (T := TX12) (N := 56) (idx := 354) rfl pin12 (by decide) (by decide) rfl (pmt6 183 rfl (by decide +kernel)) rfl (dX_getfield (by decide +kernel)) (by decide +kernel), ?_⟩
  refine ⟨sn_aload_n (k := 0) (dX_aload_0 (by decide +kernel)) rfl (by decide +kernel), ?_⟩
  refine ⟨sn_getf (C := RX12) (T := TX12) (N := 56) (idx := 120) rfl pin12 (by decide) (by decide) rfl (pmt6 143 rfl (by decide +kernel)) rfl (dX_getfield (by decide +kernel)) (by decide +kernel), ?_⟩
  refine ⟨sn_icmp_ne (off := 7) (dX_if_icmpne (by decide +kernel)) (by decide +kernel) (by decide +kernel), ?_⟩
  refine ⟨sn_iconst (dX_iconst_1 (by decide +kernel)) (by decide +kernel), ?_⟩
  refine ⟨sn_goto (off := 4) (dX_goto (by decide +kernel)) (by decide +kernel), ?_⟩
  refine ⟨sn_iconst (dX_iconst_0 (by decide +kernel)) (by decide +kernel), ?_⟩
  refine ⟨sn_zret (Or.inl rfl) (dX_ireturn (by decide +kernel)), ?_⟩
  trivial
set_option maxRecDepth 100000 in
set_option maxHeartbeats 4000000 in
theorem S_257 : pAll (pSk RX12 cX12_apart 2 (some .int) PC_257) 0 C_257 := by
  refine ⟨sn_aload_n (k := 0) (dX_aload_0 (by decide +kernel)) rfl (by decide +kernel), ?_⟩
  refine ⟨sn_iconst (dX_iconst_0 (by decide +kernel)) (by decide +kernel), ?_⟩
  refine ⟨sn_puti (C := RX12) (T := TX12) (N := 56) (idx := 107) rfl pin12 (by decide) (by decide) rfl tyX12 tyX12_ok nmX12 rfl rfl (by decide +kernel) (pmt6 157 rfl (by decide +kernel)) rfl (dX_putfield (by decide +kernel)) (by decide +kernel), ?_⟩
  refine ⟨sn_aload_n (k := 0) (dX_aload_0 (by decide +kernel)) rfl (by decide +kernel), ?_⟩
  refine ⟨sn_callV (idx := 357) (C := RX12) (T := TX12) (N := 56) rfl (by decide) cal_256 (pmt8 184 rfl (by decide +kernel)) (pmt8 186 rfl (by decide +kernel)) (pms 89 rfl rfl) (dX_invokevirtual (by decide +kernel)) (by decide +kernel), ?_⟩
  refine ⟨sn_if_ne (off := 6) (dX_ifne (by decide +kernel)) (by decide +kernel) (by decide +kernel), ?_⟩
  refine ⟨sn_bipush (dX_bipush (by decide +kernel)) (by decide +kernel) (by decide +kernel), ?_⟩
  refine ⟨sn_iret rfl (dX_ireturn (by decide +kernel)), ?_⟩
  refine ⟨sn_aload_n (k := 0) (dX_aload_0 (by decide +kernel)) rfl (by decide +kernel), ?_⟩
  refine ⟨sn_aload_n (k := 0) (dX_aload_0 (by decide +kernel)) rfl (by decide +kernel), ?_⟩
  refine ⟨sn_getf (C := RX12) (T := TX12) (N := 56) (idx := 25) rfl pin12 (by decide) (by decide) rfl (pmt6 147 rfl (by decide +kernel)) rfl (dX_getfield (by decide +kernel)) (by decide +kernel), ?_⟩
  refine ⟨sn_iconst (dX_iconst_0 (by decide +kernel)) (by decide +kernel), ?_⟩
  refine ⟨sn_aload_n (k := 0) (dX_aload_0 (by decide +kernel)) rfl (by decide +kernel), ?_⟩
  refine ⟨sn_getf (C := RX12) (T := TX12) (N := 56) (idx := 78) rfl pin12 (by decide) (by decide) rfl (pmt6 182 rfl (by decide +kernel)) rfl (dX_getfield (by decide +kernel)) (by decide +kernel), ?_⟩
  refine ⟨sn_iconst (dX_iconst_0 (by decide +kernel)) (by decide +kernel), ?_⟩
  refine ⟨sn_callV (idx := 334) (C := RX12) (T := TX12) (N := 56) rfl (by decide) cal_209 (pmt8 108 rfl (by decide +kernel)) (pmt8 110 rfl (by decide +kernel)) (pms 85 rfl rfl) (dX_invokevirtual (by decide +kernel)) (by decide +kernel), ?_⟩
  refine ⟨sn_istore_n (k := 1) (dX_istore_1 (by decide +kernel)) rfl (by decide) (by decide +kernel), ?_⟩
  refine ⟨sn_iload_n (k := 1) (dX_iload_1 (by decide +kernel)) rfl (by decide +kernel), ?_⟩
  refine ⟨sn_ldcw (idx := 258) (dX_ldc_w (by decide +kernel)) (pmt7 230 rfl (by decide +kernel)) (by decide +kernel), ?_⟩
  refine ⟨sn_icmp_lt (off := 6) (dX_if_icmplt (by decide +kernel)) (by decide +kernel) (by decide +kernel), ?_⟩
  refine ⟨sn_bipush (dX_bipush (by decide +kernel)) (by decide +kernel) (by decide +kernel), ?_⟩
  refine ⟨sn_iret rfl (dX_ireturn (by decide +kernel)), ?_⟩
  refine ⟨sn_aload_n (k := 0) (dX_aload_0 (by decide +kernel)) rfl (by decide +kernel), ?_⟩
  refine ⟨sn_iconst (dX_iconst_0 (by decide +kernel)) (by decide +kernel), ?_⟩
  refine ⟨sn_puti (C := RX12) (T := TX12) (N := 56) (idx := 110) rfl pin12 (by decide) (by decide) rfl tyX12 tyX12_ok nmX12 rfl rfl (by decide +kernel) (pmt6 156 rfl (by decide +kernel)) rfl (dX_putfield (by decide +kernel)) (by decide +kernel), ?_⟩
  refine ⟨sn_aload_n (k := 0) (dX_aload_0 (by decide +kernel)) rfl (by decide +kernel), ?_⟩
  refine ⟨sn_aload_n (k := 0) (dX_aload_0 (by decide +kernel)) rfl (by decide +kernel), ?_⟩
  refine ⟨sn_aload_n (k := 0) (dX_aload_0 (by decide +kernel)) rfl (by decide +kernel), ?_⟩
  refine ⟨sn_getf (C := RX12) (T := TX12) (N := 56) (idx := 78) rfl pin12 (by decide) (by decide) rfl (pmt6 182 rfl (by decide +kernel)) rfl (dX_getfield (by decide +kernel)) (by decide +kernel), ?_⟩
  refine ⟨sn_callV (idx := 287) (C := RX12) (T := TX12) (N := 56) rfl (by decide) cal_212 (pmt8 20 rfl (by decide +kernel)) (pmt8 22 rfl (by decide +kernel)) (pms 75 rfl rfl) (dX_invokevirtual (by decide +kernel)) (by decide +kernel), ?_⟩
  refine ⟨sn_if_eq (off := 7) (dX_ifeq (by decide +kernel)) (by decide +kernel) (by decide +kernel), ?_⟩
  refine ⟨sn_iconst (dX_iconst_1 (by decide +kernel)) (by decide +kernel), ?_⟩
  refine ⟨sn_goto (off := 4) (dX_goto (by decide +kernel)) (by decide +kernel), ?_⟩
  refine ⟨sn_iconst (dX_iconst_0 (by decide +kernel)) (by decide +kernel), ?_⟩
  refine ⟨sn_callV (idx := 294) (C := RX12) (T := TX12) (N := 56) rfl (by decide) cal_172 (pmt8 12 rfl (by decide +kernel)) (pmt8 14 rfl (by decide +kernel)) (pms 73 rfl rfl) (dX_invokevirtual (by decide +kernel)) (by decide +kernel), ?_⟩
  refine ⟨sn_iload_n (k := 1) (dX_iload_1 (by decide +kernel)) rfl (by decide +kernel), ?_⟩
  refine ⟨sn_iret rfl (dX_ireturn (by decide +kernel)), ?_⟩
  trivial
set_option maxRecDepth 100000 in
set_option maxHeartbeats 4000000 in
theorem S_258 : pAll (pSk RX12 cX12_isLawfulWith 3 (some .boolean) PC_258) 0 C_258 := by
  refine ⟨sn_iconst (dX_iconst_0 (by decide +kernel)) (by decide +kernel), ?_⟩
  refine ⟨sn_istore_n (k := 2) (dX_istore_2 (by decide +kernel)) rfl (by decide) (by decide +kernel), ?_⟩
  refine ⟨sn_iload_n (k := 2) (dX_iload_2 (by decide +kernel)) rfl (by decide +kernel), ?_⟩
  refine ⟨sn_aload_n (k := 0) (dX_aload_0 (by decide +kernel)) rfl (by decide +kernel), ?_⟩
  refine ⟨sn_getf (C := RX12) (T := TX12) (N := 56) (idx := 120) rfl pin12 (by decide) (by decide) rfl (pmt6 143 rfl (by decide +kernel)) rfl (dX_getfield (by decide +kernel)) (by decide +kernel), ?_⟩
  refine ⟨sn_icmp_ge (off := 43) (dX_if_icmpge (by decide +kernel)) (by decide +kernel) (by decide +kernel), ?_⟩
  refine ⟨sn_aload_n (k := 0) (dX_aload_0 (by decide +kernel)) rfl (by decide +kernel), ?_⟩
  refine ⟨sn_getf (C := RX12) (T := TX12) (N := 56) (idx := 69) rfl pin12 (by decide) (by decide) rfl (pmt6 176 rfl (by decide +kernel)) rfl (dX_getfield (by decide +kernel)) (by decide +kernel), ?_⟩
  refine ⟨sn_iload_n (k := 2) (dX_iload_2 (by decide +kernel)) rfl (by decide +kernel), ?_⟩
  refine ⟨sn_iload_n (k := 1) (dX_iload_1 (by decide +kernel)) rfl (by decide +kernel), ?_⟩
  refine ⟨sn_aload_n (k := 0) (dX_aload_0 (by decide +kernel)) rfl (by decide +kernel), ?_⟩
  refine ⟨sn_getf (C := RX12) (T := TX12) (N := 56) (idx := 51) rfl pin12 (by decide) (by decide) rfl (pmt6 168 rfl (by decide +kernel)) rfl (dX_getfield (by decide +kernel)) (by decide +kernel), ?_⟩
  refine ⟨sn_iload_n (k := 2) (dX_iload_2 (by decide +kernel)) rfl (by decide +kernel), ?_⟩
  refine ⟨sn_iald (dX_iaload (by decide +kernel)) (by decide +kernel), ?_⟩
  refine ⟨sn_callS (idx := 234) cal_170 (pmt7 152 rfl (by decide +kernel)) (pmt7 153 rfl (by decide +kernel)) (dX_invokestatic (by decide +kernel)) (by decide +kernel), ?_⟩
  refine ⟨sn_if_eq (off := 12) (dX_ifeq (by decide +kernel)) (by decide +kernel) (by decide +kernel), ?_⟩
  refine ⟨sn_aload_n (k := 0) (dX_aload_0 (by decide +kernel)) rfl (by decide +kernel), ?_⟩
  refine ⟨sn_getf (C := RX12) (T := TX12) (N := 56) (idx := 78) rfl pin12 (by decide) (by decide) rfl (pmt6 182 rfl (by decide +kernel)) rfl (dX_getfield (by decide +kernel)) (by decide +kernel), ?_⟩
  refine ⟨sn_iload_n (k := 2) (dX_iload_2 (by decide +kernel)) rfl (by decide +kernel), ?_⟩
  refine ⟨sn_iald (dX_iaload (by decide +kernel)) (by decide +kernel), ?_⟩
  refine ⟨sn_goto (off := 9) (dX_goto (by decide +kernel)) (by decide +kernel), ?_⟩
  refine ⟨sn_aload_n (k := 0) (dX_aload_0 (by decide +kernel)) rfl (by decide +kernel), ?_⟩
  refine ⟨sn_getf (C := RX12) (T := TX12) (N := 56) (idx := 25) rfl pin12 (by decide) (by decide) rfl (pmt6 147 rfl (by decide +kernel)) rfl (dX_getfield (by decide +kernel)) (by decide +kernel), ?_⟩
  refine ⟨sn_iload_n (k := 2) (dX_iload_2 (by decide +kernel)) rfl (by decide +kernel), ?_⟩
  refine ⟨sn_iald (dX_iaload (by decide +kernel)) (by decide +kernel), ?_⟩
  refine ⟨sn_iast (dX_iastore (by decide +kernel)) (by decide +kernel), ?_⟩
  refine ⟨sn_iinc (dX_iinc (by decide +kernel)) (by decide) (by decide +kernel), ?_⟩
  refine ⟨sn_goto (off := -45) (dX_goto (by decide +kernel)) (by decide +kernel), ?_⟩
  refine ⟨sn_aload_n (k := 0) (dX_aload_0 (by decide +kernel)) rfl (by decide +kernel), ?_⟩
  refine ⟨sn_aload_n (k := 0) (dX_aload_0 (by decide +kernel)) rfl (by decide +kernel), ?_⟩
  refine ⟨sn_getf (C := RX12) (T := TX12) (N := 56) (idx := 69) rfl pin12 (by decide) (by decide) rfl (pmt6 176 rfl (by decide +kernel)) rfl (dX_getfield (by decide +kernel)) (by decide +kernel), ?_⟩
  refine ⟨sn_callV (idx := 287) (C := RX12) (T := TX12) (N := 56) rfl (by decide) cal_212 (pmt8 20 rfl (by decide +kernel)) (pmt8 22 rfl (by decide +kernel)) (pms 75 rfl rfl) (dX_invokevirtual (by decide +kernel)) (by decide +kernel), ?_⟩
  refine ⟨sn_zret (Or.inl rfl) (dX_ireturn (by decide +kernel)), ?_⟩
  trivial
set_option maxRecDepth 100000 in
set_option maxHeartbeats 4000000 in
theorem S_259 : pAll (pSk RX12 cX12_queue 4 (some .int) PC_259) 0 C_259 := by
  refine ⟨sn_aload_n (k := 0) (dX_aload_0 (by decide +kernel)) rfl (by decide +kernel), ?_⟩
  refine ⟨sn_iconst (dX_iconst_0 (by decide +kernel)) (by decide +kernel), ?_⟩
  refine ⟨sn_puti (C := RX12) (T := TX12) (N := 56) (idx := 107) rfl pin12 (by decide) (by decide) rfl tyX12 tyX12_ok nmX12 rfl rfl (by decide +kernel) (pmt6 157 rfl (by decide +kernel)) rfl (dX_putfield (by decide +kernel)) (by decide +kernel), ?_⟩
  refine ⟨sn_aload_n (k := 0) (dX_aload_0 (by decide +kernel)) rfl (by decide +kernel), ?_⟩
  refine ⟨sn_callV (idx := 357) (C := RX12) (T := TX12) (N := 56) rfl (by decide) cal_256 (pmt8 184 rfl (by decide +kernel)) (pmt8 186 rfl (by decide +kernel)) (pms 89 rfl rfl) (dX_invokevirtual (by decide +kernel)) (by decide +kernel), ?_⟩
  refine ⟨sn_if_ne (off := 6) (dX_ifne (by decide +kernel)) (by decide +kernel) (by decide +kernel), ?_⟩
  refine ⟨sn_bipush (dX_bipush (by decide +kernel)) (by decide +kernel) (by decide +kernel), ?_⟩
  refine ⟨sn_iret rfl (dX_ireturn (by decide +kernel)), ?_⟩
  refine ⟨sn_aload_n (k := 0) (dX_aload_0 (by decide +kernel)) rfl (by decide +kernel), ?_⟩
  refine ⟨sn_aload_n (k := 0) (dX_aload_0 (by decide +kernel)) rfl (by decide +kernel), ?_⟩
  refine ⟨sn_getf (C := RX12) (T := TX12) (N := 56) (idx := 78) rfl pin12 (by decide) (by decide) rfl (pmt6 182 rfl (by decide +kernel)) rfl (dX_getfield (by decide +kernel)) (by decide +kernel), ?_⟩
  refine ⟨sn_callV (idx := 268) (C := RX12) (T := TX12) (N := 56) rfl (by decide) cal_210 (pmt8 3 rfl (by decide +kernel)) (pmt8 5 rfl (by decide +kernel)) (pms 71 rfl rfl) (dX_invokevirtual (by decide +kernel)) (by decide +kernel), ?_⟩
  refine ⟨sn_if_ne (off := 14) (dX_ifne (by decide +kernel)) (by decide +kernel) (by decide +kernel), ?_⟩
  refine ⟨sn_aload_n (k := 0) (dX_aload_0 (by decide +kernel)) rfl (by decide +kernel), ?_⟩
  refine ⟨sn_aload_n (k := 0) (dX_aload_0 (by decide +kernel)) rfl (by decide +kernel), ?_⟩
  refine ⟨sn_getf (C := RX12) (T := TX12) (N := 56) (idx := 25) rfl pin12 (by decide) (by decide) rfl (pmt6 147 rfl (by decide +kernel)) rfl (dX_getfield (by decide +kernel)) (by decide +kernel), ?_⟩
  refine ⟨sn_callV (idx := 268) (C := RX12) (T := TX12) (N := 56) rfl (by decide) cal_210 (pmt8 3 rfl (by decide +kernel)) (pmt8 5 rfl (by decide +kernel)) (pms 71 rfl rfl) (dX_invokevirtual (by decide +kernel)) (by decide +kernel), ?_⟩
  refine ⟨sn_if_eq (off := 6) (dX_ifeq (by decide +kernel)) (by decide +kernel) (by decide +kernel), ?_⟩
  refine ⟨sn_bipush (dX_bipush (by decide +kernel)) (by decide +kernel) (by decide +kernel), ?_⟩
  refine ⟨sn_iret rfl (dX_ireturn (by decide +kernel)), ?_⟩
  refine ⟨sn_aload_n (k := 0) (dX_aload_0 (by decide +kernel)) rfl (by decide +kernel), ?_⟩
  refine ⟨sn_aload_n (k := 0) (dX_aload_0 (by decide +kernel)) rfl (by decide +kernel), ?_⟩
  refine ⟨sn_getf (C := RX12) (T := TX12) (N := 56) (idx := 25) rfl pin12 (by decide) (by decide) rfl (pmt6 147 rfl (by decide +kernel)) rfl (dX_getfield (by decide +kernel)) (by decide +kernel), ?_⟩
  refine ⟨sn_iconst (dX_iconst_0 (by decide +kernel)) (by decide +kernel), ?_⟩
  refine ⟨sn_aload_n (k := 0) (dX_aload_0 (by decide +kernel)) rfl (by decide +kernel), ?_⟩
  refine ⟨sn_getf (C := RX12) (T := TX12) (N := 56) (idx := 78) rfl pin12 (by decide) (by decide) rfl (pmt6 182 rfl (by decide +kernel)) rfl (dX_getfield (by decide +kernel)) (by decide +kernel), ?_⟩
  refine ⟨sn_iconst (dX_iconst_0 (by decide +kernel)) (by decide +kernel), ?_⟩
  refine ⟨sn_callV (idx := 334) (C := RX12) (T := TX12) (N := 56) rfl (by decide) cal_209 (pmt8 108 rfl (by decide +kernel)) (pmt8 110 rfl (by decide +kernel)) (pms 85 rfl rfl) (dX_invokevirtual (by decide +kernel)) (by decide +kernel), ?_⟩
  refine ⟨sn_ldcw (idx := 258) (dX_ldc_w (by decide +kernel)) (pmt7 230 rfl (by decide +kernel)) (by decide +kernel), ?_⟩
  refine ⟨sn_icmp_lt (off := 6) (dX_if_icmplt (by decide +kernel)) (by decide +kernel) (by decide +kernel), ?_⟩
  refine ⟨sn_bipush (dX_bipush (by decide +kernel)) (by decide +kernel) (by decide +kernel), ?_⟩
  refine ⟨sn_iret rfl (dX_ireturn (by decide +kernel)), ?_⟩
  refine ⟨sn_aload_n (k := 0) (dX_aload_0 (by decide +kernel)) rfl (by decide +kernel), ?_⟩
  refine ⟨sn_iconst (dX_iconst_0 (by decide +kernel)) (by decide +kernel), ?_⟩
  refine ⟨sn_iconst (dX_iconst_0 (by decide +kernel)) (by decide +kernel), ?_⟩
  refine ⟨sn_callV (idx := 255) (C := RX12) (T := TX12) (N := 56) rfl (by decide) cal_200 (pmt7 184 rfl (by decide +kernel)) (pmt7 186 rfl (by decide +kernel)) (pms 64 rfl rfl) (dX_invokevirtual (by decide +kernel)) (by decide +kernel), ?_⟩
  refine ⟨sn_iconst (dX_iconst_0 (by decide +kernel)) (by decide +kernel), ?_⟩
  refine ⟨sn_istore_n (k := 1) (dX_istore_1 (by decide +kernel)) rfl (by decide) (by decide +kernel), ?_⟩
  refine ⟨sn_iconst (dX_iconst_0 (by decide +kernel)) (by decide +kernel), ?_⟩
  refine ⟨sn_istore_n (k := 2) (dX_istore_2 (by decide +kernel)) rfl (by decide) (by decide +kernel), ?_⟩
  refine ⟨sn_iload_n (k := 2) (dX_iload_2 (by decide +kernel)) rfl (by decide +kernel), ?_⟩
  refine ⟨sn_aload_n (k := 0) (dX_aload_0 (by decide +kernel)) rfl (by decide +kernel), ?_⟩
  refine ⟨sn_getf (C := RX12) (T := TX12) (N := 56) (idx := 120) rfl pin12 (by decide) (by decide) rfl (pmt6 143 rfl (by decide +kernel)) rfl (dX_getfield (by decide +kernel)) (by decide +kernel), ?_⟩
  refine ⟨sn_icmp_ge (off := 39) (dX_if_icmpge (by decide +kernel)) (by decide +kernel) (by decide +kernel), ?_⟩
  refine ⟨sn_iload_n (k := 1) (dX_iload_1 (by decide +kernel)) rfl (by decide +kernel), ?_⟩
  refine ⟨sn_aload_n (k := 0) (dX_aload_0 (by decide +kernel)) rfl (by decide +kernel), ?_⟩
  refine ⟨sn_getf (C := RX12) (T := TX12) (N := 56) (idx := 25) rfl pin12 (by decide) (by decide) rfl (pmt6 147 rfl (by decide +kernel)) rfl (dX_getfield (by decide +kernel)) (by decide +kernel), ?_⟩
  refine ⟨sn_iload_n (k := 2) (dX_iload_2 (by decide +kernel)) rfl (by decide +kernel), ?_⟩
  refine ⟨sn_iald (dX_iaload (by decide +kernel)) (by decide +kernel), ?_⟩
  refine ⟨sn_aload_n (k := 0) (dX_aload_0 (by decide +kernel)) rfl (by decide +kernel), ?_⟩
  refine ⟨sn_getf (C := RX12) (T := TX12) (N := 56) (idx := 78) rfl pin12 (by decide) (by decide) rfl (pmt6 182 rfl (by decide +kernel)) rfl (dX_getfield (by decide +kernel)) (by decide +kernel), ?_⟩
  refine ⟨sn_iload_n (k := 2) (dX_iload_2 (by decide +kernel)) rfl (by decide +kernel), ?_⟩
  refine ⟨sn_iald (dX_iaload (by decide +kernel)) (by decide +kernel), ?_⟩
  refine ⟨sn_icmp_eq (off := 14) (dX_if_icmpeq (by decide +kernel)) (by decide +kernel) (by decide +kernel), ?_⟩
  refine ⟨sn_iconst (dX_iconst_1 (by decide +kernel)) (by decide +kernel), ?_⟩
  refine ⟨sn_aload_n (k := 0) (dX_aload_0 (by decide +kernel)) rfl (by decide +kernel), ?_⟩
  refine ⟨sn_getf (C := RX12) (T := TX12) (N := 56) (idx := 51) rfl pin12 (by decide) (by decide) rfl (pmt6 168 rfl (by decide +kernel)) rfl (dX_getfield (by decide +kernel)) (by decide +kernel), ?_⟩
  refine ⟨sn_iload_n (k := 2) (dX_iload_2 (by decide +kernel)) rfl (by decide +kernel), ?_⟩
  refine ⟨sn_iald (dX_iaload (by decide +kernel)) (by decide +kernel), ?_⟩
  refine ⟨sn_ishl (dX_ishl (by decide +kernel)) (by decide +kernel), ?_⟩
  refine ⟨sn_goto (off := 4) (dX_goto (by decide +kernel)) (by decide +kernel), ?_⟩
  refine ⟨sn_iconst (dX_iconst_0 (by decide +kernel)) (by decide +kernel), ?_⟩
  refine ⟨sn_ior (dX_ior (by decide +kernel)) (by decide +kernel), ?_⟩
  refine ⟨sn_istore_n (k := 1) (dX_istore_1 (by decide +kernel)) rfl (by decide) (by decide +kernel), ?_⟩
  refine ⟨sn_iinc (dX_iinc (by decide +kernel)) (by decide) (by decide +kernel), ?_⟩
  refine ⟨sn_goto (off := -41) (dX_goto (by decide +kernel)) (by decide +kernel), ?_⟩
  refine ⟨sn_iload_n (k := 1) (dX_iload_1 (by decide +kernel)) rfl (by decide +kernel), ?_⟩
  refine ⟨sn_istore_n (k := 2) (dX_istore_2 (by decide +kernel)) rfl (by decide) (by decide +kernel), ?_⟩
  refine ⟨sn_iload_n (k := 2) (dX_iload_2 (by decide +kernel)) rfl (by decide +kernel), ?_⟩
  refine ⟨sn_if_lt (off := 109) (dX_iflt (by decide +kernel)) (by decide +kernel) (by decide +kernel), ?_⟩
  refine ⟨sn_iload_n (k := 2) (dX_iload_2 (by decide +kernel)) rfl (by decide +kernel), ?_⟩
  refine ⟨sn_iload_n (k := 1) (dX_iload_1 (by decide +kernel)) rfl (by decide +kernel), ?_⟩
  refine ⟨sn_iconst (dX_iconst_m1 (by decide +kernel)) (by decide +kernel), ?_⟩
  refine ⟨sn_ixor (dX_ixor (by decide +kernel)) (by decide +kernel), ?_⟩
  refine ⟨sn_iand (dX_iand (by decide +kernel)) (by decide +kernel), ?_⟩
  refine ⟨sn_if_eq (off := 6) (dX_ifeq (by decide +kernel)) (by decide +kernel) (by decide +kernel), ?_⟩
  refine ⟨sn_goto (off := 92) (dX_goto (by decide +kernel)) (by decide +kernel), ?_⟩
  refine ⟨sn_aload_n (k := 0) (dX_aload_0 (by decide +kernel)) rfl (by decide +kernel), ?_⟩
  refine ⟨sn_getf (C := RX12) (T := TX12) (N := 56) (idx := 81) rfl pin12 (by decide) (by decide) rfl (pmt6 185 rfl (by decide +kernel)) rfl (dX_getfield (by decide +kernel)) (by decide +kernel), ?_⟩
  refine ⟨sn_iload_n (k := 2) (dX_iload_2 (by decide +kernel)) rfl (by decide +kernel), ?_⟩
  refine ⟨sn_iload_n (k := 2) (dX_iload_2 (by decide +kernel)) rfl (by decide +kernel), ?_⟩
  refine ⟨sn_iload_n (k := 1) (dX_iload_1 (by decide +kernel)) rfl (by decide +kernel), ?_⟩
  refine ⟨sn_icmp_ne (off := 7) (dX_if_icmpne (by decide +kernel)) (by decide +kernel) (by decide +kernel), ?_⟩
  refine ⟨sn_iconst (dX_iconst_1 (by decide +kernel)) (by decide +kernel), ?_⟩
  refine ⟨sn_goto (off := 4) (dX_goto (by decide +kernel)) (by decide +kernel), ?_⟩
  refine ⟨sn_iconst (dX_iconst_0 (by decide +kernel)) (by decide +kernel), ?_⟩
  refine ⟨sn_zast (dX_bastore (by decide +kernel)) (by decide +kernel), ?_⟩
  refine ⟨sn_iconst (dX_iconst_0 (by decide +kernel)) (by decide +kernel), ?_⟩
  refine ⟨sn_istore_n (k := 3) (dX_istore_3 (by decide +kernel)) rfl (by decide) (by decide +kernel), ?_⟩
  refine ⟨sn_iload_n (k := 3) (dX_iload_3 (by decide +kernel)) rfl (by decide +kernel), ?_⟩
  refine ⟨sn_aload_n (k := 0) (dX_aload_0 (by decide +kernel)) rfl (by decide +kernel), ?_⟩
  refine ⟨sn_getf (C := RX12) (T := TX12) (N := 56) (idx := 249) rfl pin12 (by decide) (by decide) rfl (pmt6 170 rfl (by decide +kernel)) rfl (dX_getfield (by decide +kernel)) (by decide +kernel), ?_⟩
  refine ⟨sn_icmp_ge (off := 66) (dX_if_icmpge (by decide +kernel)) (by decide +kernel) (by decide +kernel), ?_⟩
  refine ⟨sn_aload_n (k := 0) (dX_aload_0 (by decide +kernel)) rfl (by decide +kernel), ?_⟩
  refine ⟨sn_getf (C := RX12) (T := TX12) (N := 56) (idx := 81) rfl pin12 (by decide) (by decide) rfl (pmt6 185 rfl (by decide +kernel)) rfl (dX_getfield (by decide +kernel)) (by decide +kernel), ?_⟩
  refine ⟨sn_iload_n (k := 2) (dX_iload_2 (by decide +kernel)) rfl (by decide +kernel), ?_⟩
  refine ⟨sn_zald (dX_baload (by decide +kernel)) (by decide +kernel), ?_⟩
  refine ⟨sn_if_ne (off := 57) (dX_ifne (by decide +kernel)) (by decide +kernel) (by decide +kernel), ?_⟩
  refine ⟨sn_aload_n (k := 0) (dX_aload_0 (by decide +kernel)) rfl (by decide +kernel), ?_⟩
  refine ⟨sn_getf (C := RX12) (T := TX12) (N := 56) (idx := 81) rfl pin12 (by decide) (by decide) rfl (pmt6 185 rfl (by decide +kernel)) rfl (dX_getfield (by decide +kernel)) (by decide +kernel), ?_⟩
  refine ⟨sn_iload_n (k := 2) (dX_iload_2 (by decide +kernel)) rfl (by decide +kernel), ?_⟩
  refine ⟨sn_iload_n (k := 1) (dX_iload_1 (by decide +kernel)) rfl (by decide +kernel), ?_⟩
  refine ⟨sn_iload_n (k := 2) (dX_iload_2 (by decide +kernel)) rfl (by decide +kernel), ?_⟩
  refine ⟨sn_iconst (dX_iconst_m1 (by decide +kernel)) (by decide +kernel), ?_⟩
  refine ⟨sn_ixor (dX_ixor (by decide +kernel)) (by decide +kernel), ?_⟩
  refine ⟨sn_iand (dX_iand (by decide +kernel)) (by decide +kernel), ?_⟩
  refine ⟨sn_iload_n (k := 3) (dX_iload_3 (by decide +kernel)) rfl (by decide +kernel), ?_⟩
  refine ⟨sn_callS (idx := 234) cal_170 (pmt7 152 rfl (by decide +kernel)) (pmt7 153 rfl (by decide +kernel)) (dX_invokestatic (by decide +kernel)) (by decide +kernel), ?_⟩
  refine ⟨sn_if_eq (off := 32) (dX_ifeq (by decide +kernel)) (by decide +kernel) (by decide +kernel), ?_⟩
  refine ⟨sn_aload_n (k := 0) (dX_aload_0 (by decide +kernel)) rfl (by decide +kernel), ?_⟩
  refine ⟨sn_getf (C := RX12) (T := TX12) (N := 56) (idx := 81) rfl pin12 (by decide) (by decide) rfl (pmt6 185 rfl (by decide +kernel)) rfl (dX_getfield (by decide +kernel)) (by decide +kernel), ?_⟩
  refine ⟨sn_iload_n (k := 2) (dX_iload_2 (by decide +kernel)) rfl (by decide +kernel), ?_⟩
  refine ⟨sn_iconst (dX_iconst_1 (by decide +kernel)) (by decide +kernel), ?_⟩
  refine ⟨sn_iload_n (k := 3) (dX_iload_3 (by decide +kernel)) rfl (by decide +kernel), ?_⟩
  refine ⟨sn_ishl (dX_ishl (by decide +kernel)) (by decide +kernel), ?_⟩
  refine ⟨sn_ior (dX_ior (by decide +kernel)) (by decide +kernel), ?_⟩
  refine ⟨sn_zald (dX_baload (by decide +kernel)) (by decide +kernel), ?_⟩
  refine ⟨sn_if_eq (off := 19) (dX_ifeq (by decide +kernel)) (by decide +kernel) (by decide +kernel), ?_⟩
  refine ⟨sn_aload_n (k := 0) (dX_aload_0 (by decide +kernel)) rfl (by decide +kernel), ?_⟩
  refine ⟨sn_iload_n (k := 2) (dX_iload_2 (by decide +kernel)) rfl (by decide +kernel), ?_⟩
  refine ⟨sn_iconst (dX_iconst_1 (by decide +kernel)) (by decide +kernel), ?_⟩
  refine ⟨sn_iload_n (k := 3) (dX_iload_3 (by decide +kernel)) rfl (by decide +kernel), ?_⟩
  refine ⟨sn_ishl (dX_ishl (by decide +kernel)) (by decide +kernel), ?_⟩
  refine ⟨sn_ior (dX_ior (by decide +kernel)) (by decide +kernel), ?_⟩
  refine ⟨sn_callV (idx := 360) (C := RX12) (T := TX12) (N := 56) rfl (by decide) cal_258 (pmt8 192 rfl (by decide +kernel)) (pmt8 194 rfl (by decide +kernel)) (pms 90 rfl rfl) (dX_invokevirtual (by decide +kernel)) (by decide +kernel), ?_⟩
  refine ⟨sn_if_eq (off := 7) (dX_ifeq (by decide +kernel)) (by decide +kernel) (by decide +kernel), ?_⟩
  refine ⟨sn_iconst (dX_iconst_1 (by decide +kernel)) (by decide +kernel), ?_⟩
  refine ⟨sn_goto (off := 4) (dX_goto (by decide +kernel)) (by decide +kernel), ?_⟩
  refine ⟨sn_iconst (dX_iconst_0 (by decide +kernel)) (by decide +kernel), ?_⟩
  refine ⟨sn_zast (dX_bastore (by decide +kernel)) (by decide +kernel), ?_⟩
  refine ⟨sn_iinc (dX_iinc (by decide +kernel)) (by decide) (by decide +kernel), ?_⟩
  refine ⟨sn_goto (off := -68) (dX_goto (by decide +kernel)) (by decide +kernel), ?_⟩
  refine ⟨sn_iinc (dX_iinc (by decide +kernel)) (by decide) (by decide +kernel), ?_⟩
  refine ⟨sn_goto (off := -107) (dX_goto (by decide +kernel)) (by decide +kernel), ?_⟩
  refine ⟨sn_aload_n (k := 0) (dX_aload_0 (by decide +kernel)) rfl (by decide +kernel), ?_⟩
  refine ⟨sn_getf (C := RX12) (T := TX12) (N := 56) (idx := 81) rfl pin12 (by decide) (by decide) rfl (pmt6 185 rfl (by decide +kernel)) rfl (dX_getfield (by decide +kernel)) (by decide +kernel), ?_⟩
  refine ⟨sn_iconst (dX_iconst_0 (by decide +kernel)) (by decide +kernel), ?_⟩
  refine ⟨sn_zald (dX_baload (by decide +kernel)) (by decide +kernel), ?_⟩
  refine ⟨sn_if_ne (off := 6) (dX_ifne (by decide +kernel)) (by decide +kernel) (by decide +kernel), ?_⟩
  refine ⟨sn_bipush (dX_bipush (by decide +kernel)) (by decide +kernel) (by decide +kernel), ?_⟩
  refine ⟨sn_iret rfl (dX_ireturn (by decide +kernel)), ?_⟩
  refine ⟨sn_aload_n (k := 0) (dX_aload_0 (by decide +kernel)) rfl (by decide +kernel), ?_⟩
  refine ⟨sn_iconst (dX_iconst_0 (by decide +kernel)) (by decide +kernel), ?_⟩
  refine ⟨sn_puti (C := RX12) (T := TX12) (N := 56) (idx := 110) rfl pin12 (by decide) (by decide) rfl tyX12 tyX12_ok nmX12 rfl rfl (by decide +kernel) (pmt6 156 rfl (by decide +kernel)) rfl (dX_putfield (by decide +kernel)) (by decide +kernel), ?_⟩
  refine ⟨sn_iconst (dX_iconst_0 (by decide +kernel)) (by decide +kernel), ?_⟩
  refine ⟨sn_istore_n (k := 2) (dX_istore_2 (by decide +kernel)) rfl (by decide) (by decide +kernel), ?_⟩
  refine ⟨sn_iload_n (k := 2) (dX_iload_2 (by decide +kernel)) rfl (by decide +kernel), ?_⟩
  refine ⟨sn_iload_n (k := 1) (dX_iload_1 (by decide +kernel)) rfl (by decide +kernel), ?_⟩
  refine ⟨sn_icmp_eq (off := 62) (dX_if_icmpeq (by decide +kernel)) (by decide +kernel) (by decide +kernel), ?_⟩
  refine ⟨sn_iconst (dX_iconst_0 (by decide +kernel)) (by decide +kernel), ?_⟩
  refine ⟨sn_istore_n (k := 3) (dX_istore_3 (by decide +kernel)) rfl (by decide) (by decide +kernel), ?_⟩
  refine ⟨sn_iload_n (k := 1) (dX_iload_1 (by decide +kernel)) rfl (by decide +kernel), ?_⟩
  refine ⟨sn_iload_n (k := 2) (dX_iload_2 (by decide +kernel)) rfl (by decide +kernel), ?_⟩
  refine ⟨sn_iconst (dX_iconst_m1 (by decide +kernel)) (by decide +kernel), ?_⟩
  refine ⟨sn_ixor (dX_ixor (by decide +kernel)) (by decide +kernel), ?_⟩
  refine ⟨sn_iand (dX_iand (by decide +kernel)) (by decide +kernel), ?_⟩
  refine ⟨sn_iload_n (k := 3) (dX_iload_3 (by decide +kernel)) rfl (by decide +kernel), ?_⟩
  refine ⟨sn_callS (idx := 234) cal_170 (pmt7 152 rfl (by decide +kernel)) (pmt7 153 rfl (by decide +kernel)) (dX_invokestatic (by decide +kernel)) (by decide +kernel), ?_⟩
  refine ⟨sn_if_eq (off := 28) (dX_ifeq (by decide +kernel)) (by decide +kernel) (by decide +kernel), ?_⟩
  refine ⟨sn_aload_n (k := 0) (dX_aload_0 (by decide +kernel)) rfl (by decide +kernel), ?_⟩
  refine ⟨sn_getf (C := RX12) (T := TX12) (N := 56) (idx := 81) rfl pin12 (by decide) (by decide) rfl (pmt6 185 rfl (by decide +kernel)) rfl (dX_getfield (by decide +kernel)) (by decide +kernel), ?_⟩
  refine ⟨sn_iload_n (k := 2) (dX_iload_2 (by decide +kernel)) rfl (by decide +kernel), ?_⟩
  refine ⟨sn_iconst (dX_iconst_1 (by decide +kernel)) (by decide +kernel), ?_⟩
  refine ⟨sn_iload_n (k := 3) (dX_iload_3 (by decide +kernel)) rfl (by decide +kernel), ?_⟩
  refine ⟨sn_ishl (dX_ishl (by decide +kernel)) (by decide +kernel), ?_⟩
  refine ⟨sn_ior (dX_ior (by decide +kernel)) (by decide +kernel), ?_⟩
  refine ⟨sn_zald (dX_baload (by decide +kernel)) (by decide +kernel), ?_⟩
  refine ⟨sn_if_eq (off := 15) (dX_ifeq (by decide +kernel)) (by decide +kernel) (by decide +kernel), ?_⟩
  refine ⟨sn_aload_n (k := 0) (dX_aload_0 (by decide +kernel)) rfl (by decide +kernel), ?_⟩
  refine ⟨sn_iload_n (k := 2) (dX_iload_2 (by decide +kernel)) rfl (by decide +kernel), ?_⟩
  refine ⟨sn_iconst (dX_iconst_1 (by decide +kernel)) (by decide +kernel), ?_⟩
  refine ⟨sn_iload_n (k := 3) (dX_iload_3 (by decide +kernel)) rfl (by decide +kernel), ?_⟩
  refine ⟨sn_ishl (dX_ishl (by decide +kernel)) (by decide +kernel), ?_⟩
  refine ⟨sn_ior (dX_ior (by decide +kernel)) (by decide +kernel), ?_⟩
  refine ⟨sn_callV (idx := 360) (C := RX12) (T := TX12) (N := 56) rfl (by decide) cal_258 (pmt8 192 rfl (by decide +kernel)) (pmt8 194 rfl (by decide +kernel)) (pms 90 rfl rfl) (dX_invokevirtual (by decide +kernel)) (by decide +kernel), ?_⟩
  refine ⟨sn_if_ne (off := 9) (dX_ifne (by decide +kernel)) (by decide +kernel) (by decide +kernel), ?_⟩
  refine ⟨sn_iinc (dX_iinc (by decide +kernel)) (by decide) (by decide +kernel), ?_⟩
  refine ⟨sn_goto (off := -40) (dX_goto (by decide +kernel)) (by decide +kernel), ?_⟩
  refine ⟨sn_aload_n (k := 0) (dX_aload_0 (by decide +kernel)) rfl (by decide +kernel), ?_⟩
  refine ⟨sn_iload_n (k := 3) (dX_iload_3 (by decide +kernel)) rfl (by decide +kernel), ?_⟩
  refine ⟨sn_callV (idx := 294) (C := RX12) (T := TX12) (N := 56) rfl (by decide) cal_172 (pmt8 12 rfl (by decide +kernel)) (pmt8 14 rfl (by decide +kernel)) (pms 73 rfl rfl) (dX_invokevirtual (by decide +kernel)) (by decide +kernel), ?_⟩
  refine ⟨sn_iload_n (k := 2) (dX_iload_2 (by decide +kernel)) rfl (by decide +kernel), ?_⟩
  refine ⟨sn_iconst (dX_iconst_1 (by decide +kernel)) (by decide +kernel), ?_⟩
  refine ⟨sn_iload_n (k := 3) (dX_iload_3 (by decide +kernel)) rfl (by decide +kernel), ?_⟩
  refine ⟨sn_ishl (dX_ishl (by decide +kernel)) (by decide +kernel), ?_⟩
  refine ⟨sn_ior (dX_ior (by decide +kernel)) (by decide +kernel), ?_⟩
  refine ⟨sn_istore_n (k := 2) (dX_istore_2 (by decide +kernel)) rfl (by decide) (by decide +kernel), ?_⟩
  refine ⟨sn_goto (off := -61) (dX_goto (by decide +kernel)) (by decide +kernel), ?_⟩
  refine ⟨sn_iload_n (k := 1) (dX_iload_1 (by decide +kernel)) rfl (by decide +kernel), ?_⟩
  refine ⟨sn_callS (idx := 211) cal_270 (pmt7 155 rfl (by decide +kernel)) (pmt4 236 rfl (by decide +kernel)) (dX_invokestatic (by decide +kernel)) (by decide +kernel), ?_⟩
  refine ⟨sn_iret rfl (dX_ireturn (by decide +kernel)), ?_⟩
  trivial
set_option maxRecDepth 100000 in
set_option maxHeartbeats 4000000 in
theorem S_260 : pAll (pSk RX12 cX12_findAims 3 (some .boolean) PC_260) 0 C_260 := by
  refine ⟨sn_aload_n (k := 0) (dX_aload_0 (by decide +kernel)) rfl (by decide +kernel), ?_⟩
  refine ⟨sn_callV (idx := 315) (C := RX12) (T := TX12) (N := 56) rfl (by decide) cal_228 (pmt8 64 rfl (by decide +kernel)) (pmt8 66 rfl (by decide +kernel)) (pms 77 rfl rfl) (dX_invokevirtual (by decide +kernel)) (by decide +kernel), ?_⟩
  refine ⟨sn_if_eq (off := 5) (dX_ifeq (by decide +kernel)) (by decide +kernel) (by decide +kernel), ?_⟩
  refine ⟨sn_iconst (dX_iconst_0 (by decide +kernel)) (by decide +kernel), ?_⟩
  refine ⟨sn_zret (Or.inl rfl) (dX_ireturn (by decide +kernel)), ?_⟩
  refine ⟨sn_iconst (dX_iconst_0 (by decide +kernel)) (by decide +kernel), ?_⟩
  refine ⟨sn_istore_n (k := 1) (dX_istore_1 (by decide +kernel)) rfl (by decide) (by decide +kernel), ?_⟩
  refine ⟨sn_iload_n (k := 1) (dX_iload_1 (by decide +kernel)) rfl (by decide +kernel), ?_⟩
  refine ⟨sn_aload_n (k := 0) (dX_aload_0 (by decide +kernel)) rfl (by decide +kernel), ?_⟩
  refine ⟨sn_getf (C := RX12) (T := TX12) (N := 56) (idx := 120) rfl pin12 (by decide) (by decide) rfl (pmt6 143 rfl (by decide +kernel)) rfl (dX_getfield (by decide +kernel)) (by decide +kernel), ?_⟩
  refine ⟨sn_icmp_ge (off := 21) (dX_if_icmpge (by decide +kernel)) (by decide +kernel) (by decide +kernel), ?_⟩
  refine ⟨sn_aload_n (k := 0) (dX_aload_0 (by decide +kernel)) rfl (by decide +kernel), ?_⟩
  refine ⟨sn_getf (C := RX12) (T := TX12) (N := 56) (idx := 85) rfl pin12 (by decide) (by decide) rfl (pmt6 186 rfl (by decide +kernel)) rfl (dX_getfield (by decide +kernel)) (by decide +kernel), ?_⟩
  refine ⟨sn_iload_n (k := 1) (dX_iload_1 (by decide +kernel)) rfl (by decide +kernel), ?_⟩
  refine ⟨sn_aload_n (k := 0) (dX_aload_0 (by decide +kernel)) rfl (by decide +kernel), ?_⟩
  refine ⟨sn_getf (C := RX12) (T := TX12) (N := 56) (idx := 25) rfl pin12 (by decide) (by decide) rfl (pmt6 147 rfl (by decide +kernel)) rfl (dX_getfield (by decide +kernel)) (by decide +kernel), ?_⟩
  refine ⟨sn_iload_n (k := 1) (dX_iload_1 (by decide +kernel)) rfl (by decide +kernel), ?_⟩
  refine ⟨sn_iald (dX_iaload (by decide +kernel)) (by decide +kernel), ?_⟩
  refine ⟨sn_iast (dX_iastore (by decide +kernel)) (by decide +kernel), ?_⟩
  refine ⟨sn_iinc (dX_iinc (by decide +kernel)) (by decide) (by decide +kernel), ?_⟩
  refine ⟨sn_goto (off := -23) (dX_goto (by decide +kernel)) (by decide +kernel), ?_⟩
  refine ⟨sn_aload_n (k := 0) (dX_aload_0 (by decide +kernel)) rfl (by decide +kernel), ?_⟩
  refine ⟨sn_iconst (dX_iconst_1 (by decide +kernel)) (by decide +kernel), ?_⟩
  refine ⟨sn_puti (C := RX12) (T := TX12) (N := 56) (idx := 363) rfl pin12 (by decide) (by decide) rfl tyX12 tyX12_ok nmX12 rfl rfl (by decide +kernel) (pmt6 188 rfl (by decide +kernel)) rfl (dX_putfield (by decide +kernel)) (by decide +kernel), ?_⟩
  refine ⟨sn_aload_n (k := 0) (dX_aload_0 (by decide +kernel)) rfl (by decide +kernel), ?_⟩
  refine ⟨sn_iconst (dX_iconst_m1 (by decide +kernel)) (by decide +kernel), ?_⟩
  refine ⟨sn_puti (C := RX12) (T := TX12) (N := 56) (idx := 366) rfl pin12 (by decide) (by decide) rfl tyX12 tyX12_ok nmX12 rfl rfl (by decide +kernel) (pmt6 189 rfl (by decide +kernel)) rfl (dX_putfield (by decide +kernel)) (by decide +kernel), ?_⟩
  refine ⟨sn_aload_n (k := 0) (dX_aload_0 (by decide +kernel)) rfl (by decide +kernel), ?_⟩
  refine ⟨sn_callV (idx := 318) (C := RX12) (T := TX12) (N := 56) rfl (by decide) cal_229 (pmt8 68 rfl (by decide +kernel)) (pmt8 70 rfl (by decide +kernel)) (pms 78 rfl rfl) (dX_invokevirtual (by decide +kernel)) (by decide +kernel), ?_⟩
  refine ⟨sn_aload_n (k := 0) (dX_aload_0 (by decide +kernel)) rfl (by decide +kernel), ?_⟩
  refine ⟨sn_callV (idx := 321) (C := RX12) (T := TX12) (N := 56) rfl (by decide) cal_230 (pmt8 72 rfl (by decide +kernel)) (pmt8 74 rfl (by decide +kernel)) (pms 79 rfl rfl) (dX_invokevirtual (by decide +kernel)) (by decide +kernel), ?_⟩
  refine ⟨sn_if_eq (off := 110) (dX_ifeq (by decide +kernel)) (by decide +kernel) (by decide +kernel), ?_⟩
  refine ⟨sn_aload_n (k := 0) (dX_aload_0 (by decide +kernel)) rfl (by decide +kernel), ?_⟩
  refine ⟨sn_getf (C := RX12) (T := TX12) (N := 56) (idx := 363) rfl pin12 (by decide) (by decide) rfl (pmt6 188 rfl (by decide +kernel)) rfl (dX_getfield (by decide +kernel)) (by decide +kernel), ?_⟩
  refine ⟨sn_sipush (dX_sipush (by decide +kernel)) (by decide +kernel) (by decide +kernel), ?_⟩
  refine ⟨sn_icmp_le (off := 5) (dX_if_icmple (by decide +kernel)) (by decide +kernel) (by decide +kernel), ?_⟩
  refine ⟨sn_iconst (dX_iconst_0 (by decide +kernel)) (by decide +kernel), ?_⟩
  refine ⟨sn_zret (Or.inl rfl) (dX_ireturn (by decide +kernel)), ?_⟩
  refine ⟨sn_iconst (dX_iconst_1 (by decide +kernel)) (by decide +kernel), ?_⟩
  refine ⟨sn_istore_n (k := 1) (dX_istore_1 (by decide +kernel)) rfl (by decide) (by decide +kernel), ?_⟩
  refine ⟨sn_iconst (dX_iconst_0 (by decide +kernel)) (by decide +kernel), ?_⟩
  refine ⟨sn_istore_n (k := 2) (dX_istore_2 (by decide +kernel)) rfl (by decide) (by decide +kernel), ?_⟩
  refine ⟨sn_iload_n (k := 2) (dX_iload_2 (by decide +kernel)) rfl (by decide +kernel), ?_⟩
  refine ⟨sn_aload_n (k := 0) (dX_aload_0 (by decide +kernel)) rfl (by decide +kernel), ?_⟩
  refine ⟨sn_getf (C := RX12) (T := TX12) (N := 56) (idx := 120) rfl pin12 (by decide) (by decide) rfl (pmt6 143 rfl (by decide +kernel)) rfl (dX_getfield (by decide +kernel)) (by decide +kernel), ?_⟩
  refine ⟨sn_icmp_ge (off := 54) (dX_if_icmpge (by decide +kernel)) (by decide +kernel) (by decide +kernel), ?_⟩
  refine ⟨sn_aload_n (k := 0) (dX_aload_0 (by decide +kernel)) rfl (by decide +kernel), ?_⟩
  refine ⟨sn_getf (C := RX12) (T := TX12) (N := 56) (idx := 85) rfl pin12 (by decide) (by decide) rfl (pmt6 186 rfl (by decide +kernel)) rfl (dX_getfield (by decide +kernel)) (by decide +kernel), ?_⟩
  refine ⟨sn_bipush (dX_bipush (by decide +kernel)) (by decide +kernel) (by decide +kernel), ?_⟩
  refine ⟨sn_aload_n (k := 0) (dX_aload_0 (by decide +kernel)) rfl (by decide +kernel), ?_⟩
  refine ⟨sn_getf (C := RX12) (T := TX12) (N := 56) (idx := 363) rfl pin12 (by decide) (by decide) rfl (pmt6 188 rfl (by decide +kernel)) rfl (dX_getfield (by decide +kernel)) (by decide +kernel), ?_⟩
  refine ⟨sn_imul (dX_imul (by decide +kernel)) (by decide +kernel), ?_⟩
  refine ⟨sn_iload_n (k := 2) (dX_iload_2 (by decide +kernel)) rfl (by decide +kernel), ?_⟩
  refine ⟨sn_iadd (dX_iadd (by decide +kernel)) (by decide +kernel), ?_⟩
  refine ⟨sn_aload_n (k := 0) (dX_aload_0 (by decide +kernel)) rfl (by decide +kernel), ?_⟩
  refine ⟨sn_getf (C := RX12) (T := TX12) (N := 56) (idx := 69) rfl pin12 (by decide) (by decide) rfl (pmt6 176 rfl (by decide +kernel)) rfl (dX_getfield (by decide +kernel)) (by decide +kernel), ?_⟩
  refine ⟨sn_iload_n (k := 2) (dX_iload_2 (by decide +kernel)) rfl (by decide +kernel), ?_⟩
  refine ⟨sn_iald (dX_iaload (by decide +kernel)) (by decide +kernel), ?_⟩
  refine ⟨sn_iast (dX_iastore (by decide +kernel)) (by decide +kernel), ?_⟩
  refine ⟨sn_iload_n (k := 1) (dX_iload_1 (by decide +kernel)) rfl (by decide +kernel), ?_⟩
  refine ⟨sn_if_eq (off := 22) (dX_ifeq (by decide +kernel)) (by decide +kernel) (by decide +kernel), ?_⟩
  refine ⟨sn_aload_n (k := 0) (dX_aload_0 (by decide +kernel)) rfl (by decide +kernel), ?_⟩
  refine ⟨sn_getf (C := RX12) (T := TX12) (N := 56) (idx := 69) rfl pin12 (by decide) (by decide) rfl (pmt6 176 rfl (by decide +kernel)) rfl (dX_getfield (by decide +kernel)) (by decide +kernel), ?_⟩
  refine ⟨sn_iload_n (k := 2) (dX_iload_2 (by decide +kernel)) rfl (by decide +kernel), ?_⟩
  refine ⟨sn_iald (dX_iaload (by decide +kernel)) (by decide +kernel), ?_⟩
  refine ⟨sn_aload_n (k := 0) (dX_aload_0 (by decide +kernel)) rfl (by decide +kernel), ?_⟩
  refine ⟨sn_getf (C := RX12) (T := TX12) (N := 56) (idx := 78) rfl pin12 (by decide) (by decide) rfl (pmt6 182 rfl (by decide +kernel)) rfl (dX_getfield (by decide +kernel)) (by decide +kernel), ?_⟩
  refine ⟨sn_iload_n (k := 2) (dX_iload_2 (by decide +kernel)) rfl (by decide +kernel), ?_⟩
  refine ⟨sn_iald (dX_iaload (by decide +kernel)) (by decide +kernel), ?_⟩
  refine ⟨sn_icmp_ne (off := 7) (dX_if_icmpne (by decide +kernel)) (by decide +kernel) (by decide +kernel), ?_⟩
  refine ⟨sn_iconst (dX_iconst_1 (by decide +kernel)) (by decide +kernel), ?_⟩
  refine ⟨sn_goto (off := 4) (dX_goto (by decide +kernel)) (by decide +kernel), ?_⟩
  refine ⟨sn_iconst (dX_iconst_0 (by decide +kernel)) (by decide +kernel), ?_⟩
  refine ⟨sn_istore_n (k := 1) (dX_istore_1 (by decide +kernel)) rfl (by decide) (by decide +kernel), ?_⟩
  refine ⟨sn_iinc (dX_iinc (by decide +kernel)) (by decide) (by decide +kernel), ?_⟩
  refine ⟨sn_goto (off := -56) (dX_goto (by decide +kernel)) (by decide +kernel), ?_⟩
  refine ⟨sn_aload_n (k := 0) (dX_aload_0 (by decide +kernel)) rfl (by decide +kernel), ?_⟩
  refine ⟨sn_iload_n (k := 1) (dX_iload_1 (by decide +kernel)) rfl (by decide +kernel), ?_⟩
  refine ⟨sn_if_eq (off := 10) (dX_ifeq (by decide +kernel)) (by decide +kernel) (by decide +kernel), ?_⟩
  refine ⟨sn_aload_n (k := 0) (dX_aload_0 (by decide +kernel)) rfl (by decide +kernel), ?_⟩
  refine ⟨sn_getf (C := RX12) (T := TX12) (N := 56) (idx := 363) rfl pin12 (by decide) (by decide) rfl (pmt6 188 rfl (by decide +kernel)) rfl (dX_getfield (by decide +kernel)) (by decide +kernel), ?_⟩
  refine ⟨sn_goto (off := 7) (dX_goto (by decide +kernel)) (by decide +kernel), ?_⟩
  refine ⟨sn_aload_n (k := 0) (dX_aload_0 (by decide +kernel)) rfl (by decide +kernel), ?_⟩
  refine ⟨sn_getf (C := RX12) (T := TX12) (N := 56) (idx := 366) rfl pin12 (by decide) (by decide) rfl (pmt6 189 rfl (by decide +kernel)) rfl (dX_getfield (by decide +kernel)) (by decide +kernel), ?_⟩
  refine ⟨sn_puti (C := RX12) (T := TX12) (N := 56) (idx := 366) rfl pin12 (by decide) (by decide) rfl tyX12 tyX12_ok nmX12 rfl rfl (by decide +kernel) (pmt6 189 rfl (by decide +kernel)) rfl (dX_putfield (by decide +kernel)) (by decide +kernel), ?_⟩
  refine ⟨sn_aload_n (k := 0) (dX_aload_0 (by decide +kernel)) rfl (by decide +kernel), ?_⟩
  refine ⟨sn_dup (dX_dup (by decide +kernel)) (by decide +kernel), ?_⟩
  refine ⟨sn_getf (C := RX12) (T := TX12) (N := 56) (idx := 363) rfl pin12 (by decide) (by decide) rfl (pmt6 188 rfl (by decide +kernel)) rfl (dX_getfield (by decide +kernel)) (by decide +kernel), ?_⟩
  refine ⟨sn_iconst (dX_iconst_1 (by decide +kernel)) (by decide +kernel), ?_⟩
  refine ⟨sn_iadd (dX_iadd (by decide +kernel)) (by decide +kernel), ?_⟩
  refine ⟨sn_puti (C := RX12) (T := TX12) (N := 56) (idx := 363) rfl pin12 (by decide) (by decide) rfl tyX12 tyX12_ok nmX12 rfl rfl (by decide +kernel) (pmt6 188 rfl (by decide +kernel)) rfl (dX_putfield (by decide +kernel)) (by decide +kernel), ?_⟩
  refine ⟨sn_goto (off := -111) (dX_goto (by decide +kernel)) (by decide +kernel), ?_⟩
  refine ⟨sn_iconst (dX_iconst_0 (by decide +kernel)) (by decide +kernel), ?_⟩
  refine ⟨sn_istore_n (k := 1) (dX_istore_1 (by decide +kernel)) rfl (by decide) (by decide +kernel), ?_⟩
  refine ⟨sn_iload_n (k := 1) (dX_iload_1 (by decide +kernel)) rfl (by decide +kernel), ?_⟩
  refine ⟨sn_aload_n (k := 0) (dX_aload_0 (by decide +kernel)) rfl (by decide +kernel), ?_⟩
  refine ⟨sn_getf (C := RX12) (T := TX12) (N := 56) (idx := 363) rfl pin12 (by decide) (by decide) rfl (pmt6 188 rfl (by decide +kernel)) rfl (dX_getfield (by decide +kernel)) (by decide +kernel), ?_⟩
  refine ⟨sn_icmp_ge (off := 57) (dX_if_icmpge (by decide +kernel)) (by decide +kernel) (by decide +kernel), ?_⟩
  refine ⟨sn_iconst (dX_iconst_1 (by decide +kernel)) (by decide +kernel), ?_⟩
  refine ⟨sn_istore_n (k := 2) (dX_istore_2 (by decide +kernel)) rfl (by decide) (by decide +kernel), ?_⟩
  refine ⟨sn_iload_n (k := 2) (dX_iload_2 (by decide +kernel)) rfl (by decide +kernel), ?_⟩
  refine ⟨sn_aload_n (k := 0) (dX_aload_0 (by decide +kernel)) rfl (by decide +kernel), ?_⟩
  refine ⟨sn_getf (C := RX12) (T := TX12) (N := 56) (idx := 363) rfl pin12 (by decide) (by decide) rfl (pmt6 188 rfl (by decide +kernel)) rfl (dX_getfield (by decide +kernel)) (by decide +kernel), ?_⟩
  refine ⟨sn_icmp_ge (off := 41) (dX_if_icmpge (by decide +kernel)) (by decide +kernel) (by decide +kernel), ?_⟩
  refine ⟨sn_aload_n (k := 0) (dX_aload_0 (by decide +kernel)) rfl (by decide +kernel), ?_⟩
  refine ⟨sn_getf (C := RX12) (T := TX12) (N := 56) (idx := 89) rfl pin12 (by decide) (by decide) rfl (pmt6 187 rfl (by decide +kernel)) rfl (dX_getfield (by decide +kernel)) (by decide +kernel), ?_⟩
  refine ⟨sn_sipush (dX_sipush (by decide +kernel)) (by decide +kernel) (by decide +kernel), ?_⟩
  refine ⟨sn_iload_n (k := 1) (dX_iload_1 (by decide +kernel)) rfl (by decide +kernel), ?_⟩
  refine ⟨sn_imul (dX_imul (by decide +kernel)) (by decide +kernel), ?_⟩
  refine ⟨sn_iload_n (k := 2) (dX_iload_2 (by decide +kernel)) rfl (by decide +kernel), ?_⟩
  refine ⟨sn_iadd (dX_iadd (by decide +kernel)) (by decide +kernel), ?_⟩
  refine ⟨sn_aload_n (k := 0) (dX_aload_0 (by decide +kernel)) rfl (by decide +kernel), ?_⟩
  refine ⟨sn_aload_n (k := 0) (dX_aload_0 (by decide +kernel)) rfl (by decide +kernel), ?_⟩
  refine ⟨sn_getf (C := RX12) (T := TX12) (N := 56) (idx := 85) rfl pin12 (by decide) (by decide) rfl (pmt6 186 rfl (by decide +kernel)) rfl (dX_getfield (by decide +kernel)) (by decide +kernel), ?_⟩
  refine ⟨sn_bipush (dX_bipush (by decide +kernel)) (by decide +kernel) (by decide +kernel), ?_⟩
  refine ⟨sn_iload_n (k := 1) (dX_iload_1 (by decide +kernel)) rfl (by decide +kernel), ?_⟩
  refine ⟨sn_imul (dX_imul (by decide +kernel)) (by decide +kernel), ?_⟩
  refine ⟨sn_aload_n (k := 0) (dX_aload_0 (by decide +kernel)) rfl (by decide +kernel), ?_⟩
  refine ⟨sn_getf (C := RX12) (T := TX12) (N := 56) (idx := 85) rfl pin12 (by decide) (by decide) rfl (pmt6 186 rfl (by decide +kernel)) rfl (dX_getfield (by decide +kernel)) (by decide +kernel), ?_⟩
  refine ⟨sn_bipush (dX_bipush (by decide +kernel)) (by decide +kernel) (by decide +kernel), ?_⟩
  refine ⟨sn_iload_n (k := 2) (dX_iload_2 (by decide +kernel)) rfl (by decide +kernel), ?_⟩
  refine ⟨sn_imul (dX_imul (by decide +kernel)) (by decide +kernel), ?_⟩
  refine ⟨sn_callV (idx := 334) (C := RX12) (T := TX12) (N := 56) rfl (by decide) cal_209 (pmt8 108 rfl (by decide +kernel)) (pmt8 110 rfl (by decide +kernel)) (pms 85 rfl rfl) (dX_invokevirtual (by decide +kernel)) (by decide +kernel), ?_⟩
  refine ⟨sn_iast (dX_iastore (by decide +kernel)) (by decide +kernel), ?_⟩
  refine ⟨sn_iinc (dX_iinc (by decide +kernel)) (by decide) (by decide +kernel), ?_⟩
  refine ⟨sn_goto (off := -43) (dX_goto (by decide +kernel)) (by decide +kernel), ?_⟩
  refine ⟨sn_iinc (dX_iinc (by decide +kernel)) (by decide) (by decide +kernel), ?_⟩
  refine ⟨sn_goto (off := -59) (dX_goto (by decide +kernel)) (by decide +kernel), ?_⟩
  refine ⟨sn_iconst (dX_iconst_1 (by decide +kernel)) (by decide +kernel), ?_⟩
  refine ⟨sn_zret (Or.inl rfl) (dX_ireturn (by decide +kernel)), ?_⟩
  trivial
set_option maxRecDepth 100000 in
set_option maxHeartbeats 4000000 in
theorem S_261 : pAll (pSk RX12 cX12_isThere 2 (some .boolean) PC_261) 0 C_261 := by
  refine ⟨sn_iconst (dX_iconst_0 (by decide +kernel)) (by decide +kernel), ?_⟩
  refine ⟨sn_istore_n (k := 1) (dX_istore_1 (by decide +kernel)) rfl (by decide) (by decide +kernel), ?_⟩
  refine ⟨sn_iload_n (k := 1) (dX_iload_1 (by decide +kernel)) rfl (by decide +kernel), ?_⟩
  refine ⟨sn_aload_n (k := 0) (dX_aload_0 (by decide +kernel)) rfl (by decide +kernel), ?_⟩
  refine ⟨sn_getf (C := RX12) (T := TX12) (N := 56) (idx := 120) rfl pin12 (by decide) (by decide) rfl (pmt6 143 rfl (by decide +kernel)) rfl (dX_getfield (by decide +kernel)) (by decide +kernel), ?_⟩
  refine ⟨sn_icmp_ge (off := 26) (dX_if_icmpge (by decide +kernel)) (by decide +kernel) (by decide +kernel), ?_⟩
  refine ⟨sn_aload_n (k := 0) (dX_aload_0 (by decide +kernel)) rfl (by decide +kernel), ?_⟩
  refine ⟨sn_getf (C := RX12) (T := TX12) (N := 56) (idx := 25) rfl pin12 (by decide) (by decide) rfl (pmt6 147 rfl (by decide +kernel)) rfl (dX_getfield (by decide +kernel)) (by decide +kernel), ?_⟩
  refine ⟨sn_iload_n (k := 1) (dX_iload_1 (by decide +kernel)) rfl (by decide +kernel), ?_⟩
  refine ⟨sn_iald (dX_iaload (by decide +kernel)) (by decide +kernel), ?_⟩
  refine ⟨sn_aload_n (k := 0) (dX_aload_0 (by decide +kernel)) rfl (by decide +kernel), ?_⟩
  refine ⟨sn_getf (C := RX12) (T := TX12) (N := 56) (idx := 78) rfl pin12 (by decide) (by decide) rfl (pmt6 182 rfl (by decide +kernel)) rfl (dX_getfield (by decide +kernel)) (by decide +kernel), ?_⟩
  refine ⟨sn_iload_n (k := 1) (dX_iload_1 (by decide +kernel)) rfl (by decide +kernel), ?_⟩
  refine ⟨sn_iald (dX_iaload (by decide +kernel)) (by decide +kernel), ?_⟩
  refine ⟨sn_icmp_eq (off := 5) (dX_if_icmpeq (by decide +kernel)) (by decide +kernel) (by decide +kernel), ?_⟩
  refine ⟨sn_iconst (dX_iconst_0 (by decide +kernel)) (by decide +kernel), ?_⟩
  refine ⟨sn_zret (Or.inl rfl) (dX_ireturn (by decide +kernel)), ?_⟩
  refine ⟨sn_iinc (dX_iinc (by decide +kernel)) (by decide) (by decide +kernel), ?_⟩
  refine ⟨sn_goto (off := -28) (dX_goto (by decide +kernel)) (by decide +kernel), ?_⟩
  refine ⟨sn_iconst (dX_iconst_1 (by decide +kernel)) (by decide +kernel), ?_⟩
  refine ⟨sn_zret (Or.inl rfl) (dX_ireturn (by decide +kernel)), ?_⟩
  trivial
set_option maxRecDepth 100000 in
set_option maxHeartbeats 4000000 in
theorem S_262 : pAll (pSk RX12 cX12_findEvenings 7 none PC_262) 0 C_262 := by
  refine ⟨sn_iconst (dX_iconst_0 (by decide +kernel)) (by decide +kernel), ?_⟩
  refine ⟨sn_istore_n (k := 2) (dX_istore_2 (by decide +kernel)) rfl (by decide) (by decide +kernel), ?_⟩
  refine ⟨sn_iload_n (k := 2) (dX_iload_2 (by decide +kernel)) rfl (by decide +kernel), ?_⟩
  refine ⟨sn_aload_n (k := 0) (dX_aload_0 (by decide +kernel)) rfl (by decide +kernel), ?_⟩
  refine ⟨sn_getf (C := RX12) (T := TX12) (N := 56) (idx := 363) rfl pin12 (by decide) (by decide) rfl (pmt6 188 rfl (by decide +kernel)) rfl (dX_getfield (by decide +kernel)) (by decide +kernel), ?_⟩
  refine ⟨sn_icmp_ge (off := 51) (dX_if_icmpge (by decide +kernel)) (by decide +kernel) (by decide +kernel), ?_⟩
  refine ⟨sn_aload_n (k := 0) (dX_aload_0 (by decide +kernel)) rfl (by decide +kernel), ?_⟩
  refine ⟨sn_getf (C := RX12) (T := TX12) (N := 56) (idx := 92) rfl pin12 (by decide) (by decide) rfl (pmt6 190 rfl (by decide +kernel)) rfl (dX_getfield (by decide +kernel)) (by decide +kernel), ?_⟩
  refine ⟨sn_iload_n (k := 2) (dX_iload_2 (by decide +kernel)) rfl (by decide +kernel), ?_⟩
  refine ⟨sn_iload_n (k := 2) (dX_iload_2 (by decide +kernel)) rfl (by decide +kernel), ?_⟩
  refine ⟨sn_aload_n (k := 0) (dX_aload_0 (by decide +kernel)) rfl (by decide +kernel), ?_⟩
  refine ⟨sn_getf (C := RX12) (T := TX12) (N := 56) (idx := 366) rfl pin12 (by decide) (by decide) rfl (pmt6 189 rfl (by decide +kernel)) rfl (dX_getfield (by decide +kernel)) (by decide +kernel), ?_⟩
  refine ⟨sn_icmp_ne (off := 7) (dX_if_icmpne (by decide +kernel)) (by decide +kernel) (by decide +kernel), ?_⟩
  refine ⟨sn_iconst (dX_iconst_0 (by decide +kernel)) (by decide +kernel), ?_⟩
  refine ⟨sn_goto (off := 6) (dX_goto (by decide +kernel)) (by decide +kernel), ?_⟩
  refine ⟨sn_ldcw (idx := 258) (dX_ldc_w (by decide +kernel)) (pmt7 230 rfl (by decide +kernel)) (by decide +kernel), ?_⟩
  refine ⟨sn_iast (dX_iastore (by decide +kernel)) (by decide +kernel), ?_⟩
  refine ⟨sn_aload_n (k := 0) (dX_aload_0 (by decide +kernel)) rfl (by decide +kernel), ?_⟩
  refine ⟨sn_getf (C := RX12) (T := TX12) (N := 56) (idx := 95) rfl pin12 (by decide) (by decide) rfl (pmt6 191 rfl (by decide +kernel)) rfl (dX_getfield (by decide +kernel)) (by decide +kernel), ?_⟩
  refine ⟨sn_iload_n (k := 2) (dX_iload_2 (by decide +kernel)) rfl (by decide +kernel), ?_⟩
  refine ⟨sn_iload_n (k := 2) (dX_iload_2 (by decide +kernel)) rfl (by decide +kernel), ?_⟩
  refine ⟨sn_aload_n (k := 0) (dX_aload_0 (by decide +kernel)) rfl (by decide +kernel), ?_⟩
  refine ⟨sn_getf (C := RX12) (T := TX12) (N := 56) (idx := 366) rfl pin12 (by decide) (by decide) rfl (pmt6 189 rfl (by decide +kernel)) rfl (dX_getfield (by decide +kernel)) (by decide +kernel), ?_⟩
  refine ⟨sn_icmp_ne (off := 7) (dX_if_icmpne (by decide +kernel)) (by decide +kernel) (by decide +kernel), ?_⟩
  refine ⟨sn_iconst (dX_iconst_0 (by decide +kernel)) (by decide +kernel), ?_⟩
  refine ⟨sn_goto (off := 6) (dX_goto (by decide +kernel)) (by decide +kernel), ?_⟩
  refine ⟨sn_ldcw (idx := 258) (dX_ldc_w (by decide +kernel)) (pmt7 230 rfl (by decide +kernel)) (by decide +kernel), ?_⟩
  refine ⟨sn_iast (dX_iastore (by decide +kernel)) (by decide +kernel), ?_⟩
  refine ⟨sn_iinc (dX_iinc (by decide +kernel)) (by decide) (by decide +kernel), ?_⟩
  refine ⟨sn_goto (off := -53) (dX_goto (by decide +kernel)) (by decide +kernel), ?_⟩
  refine ⟨sn_iconst (dX_iconst_1 (by decide +kernel)) (by decide +kernel), ?_⟩
  refine ⟨sn_istore_n (k := 2) (dX_istore_2 (by decide +kernel)) rfl (by decide) (by decide +kernel), ?_⟩
  refine ⟨sn_iconst (dX_iconst_1 (by decide +kernel)) (by decide +kernel), ?_⟩
  refine ⟨sn_istore_n (k := 3) (dX_istore_3 (by decide +kernel)) rfl (by decide) (by decide +kernel), ?_⟩
  refine ⟨sn_iload_n (k := 2) (dX_iload_2 (by decide +kernel)) rfl (by decide +kernel), ?_⟩
  refine ⟨sn_if_eq (off := 144) (dX_ifeq (by decide +kernel)) (by decide +kernel) (by decide +kernel), ?_⟩
  refine ⟨sn_iconst (dX_iconst_0 (by decide +kernel)) (by decide +kernel), ?_⟩
  refine ⟨sn_istore_n (k := 2) (dX_istore_2 (by decide +kernel)) rfl (by decide) (by decide +kernel), ?_⟩
  refine ⟨sn_iconst (dX_iconst_0 (by decide +kernel)) (by decide +kernel), ?_⟩
  refine ⟨sn_istore (dX_istore (by decide +kernel)) (by decide) (by decide +kernel), ?_⟩
  refine ⟨sn_iload (dX_iload (by decide +kernel)) (by decide +kernel), ?_⟩
  refine ⟨sn_aload_n (k := 0) (dX_aload_0 (by decide +kernel)) rfl (by decide +kernel), ?_⟩
  refine ⟨sn_getf (C := RX12) (T := TX12) (N := 56) (idx := 363) rfl pin12 (by decide) (by decide) rfl (pmt6 188 rfl (by decide +kernel)) rfl (dX_getfield (by decide +kernel)) (by decide +kernel), ?_⟩
  refine ⟨sn_icmp_ge (off := 124) (dX_if_icmpge (by decide +kernel)) (by decide +kernel) (by decide +kernel), ?_⟩
  refine ⟨sn_aload_n (k := 0) (dX_aload_0 (by decide +kernel)) rfl (by decide +kernel), ?_⟩
  refine ⟨sn_getf (C := RX12) (T := TX12) (N := 56) (idx := 92) rfl pin12 (by decide) (by decide) rfl (pmt6 190 rfl (by decide +kernel)) rfl (dX_getfield (by decide +kernel)) (by decide +kernel), ?_⟩
  refine ⟨sn_iload (dX_iload (by decide +kernel)) (by decide +kernel), ?_⟩
  refine ⟨sn_iald (dX_iaload (by decide +kernel)) (by decide +kernel), ?_⟩
  refine ⟨sn_iload_n (k := 3) (dX_iload_3 (by decide +kernel)) rfl (by decide +kernel), ?_⟩
  refine ⟨sn_icmp_ge (off := 6) (dX_if_icmpge (by decide +kernel)) (by decide +kernel) (by decide +kernel), ?_⟩
  refine ⟨sn_goto (off := 104) (dX_goto (by decide +kernel)) (by decide +kernel), ?_⟩
  refine ⟨sn_iconst (dX_iconst_1 (by decide +kernel)) (by decide +kernel), ?_⟩
  refine ⟨sn_istore (dX_istore (by decide +kernel)) (by decide) (by decide +kernel), ?_⟩
  refine ⟨sn_iload (dX_iload (by decide +kernel)) (by decide +kernel), ?_⟩
  refine ⟨sn_aload_n (k := 0) (dX_aload_0 (by decide +kernel)) rfl (by decide +kernel), ?_⟩
  refine ⟨sn_getf (C := RX12) (T := TX12) (N := 56) (idx := 363) rfl pin12 (by decide) (by decide) rfl (pmt6 188 rfl (by decide +kernel)) rfl (dX_getfield (by decide +kernel)) (by decide +kernel), ?_⟩
  refine ⟨sn_icmp_ge (off := 92) (dX_if_icmpge (by decide +kernel)) (by decide +kernel) (by decide +kernel), ?_⟩
  refine ⟨sn_aload_n (k := 0) (dX_aload_0 (by decide +kernel)) rfl (by decide +kernel), ?_⟩
  refine ⟨sn_getf (C := RX12) (T := TX12) (N := 56) (idx := 89) rfl pin12 (by decide) (by decide) rfl (pmt6 187 rfl (by decide +kernel)) rfl (dX_getfield (by decide +kernel)) (by decide +kernel), ?_⟩
  refine ⟨sn_sipush (dX_sipush (by decide +kernel)) (by decide +kernel) (by decide +kernel), ?_⟩
  refine ⟨sn_iload (dX_iload (by decide +kernel)) (by decide +kernel), ?_⟩
  refine ⟨sn_imul (dX_imul (by decide +kernel)) (by decide +kernel), ?_⟩
  refine ⟨sn_iload (dX_iload (by decide +kernel)) (by decide +kernel), ?_⟩
  refine ⟨sn_iadd (dX_iadd (by decide +kernel)) (by decide +kernel), ?_⟩
  refine ⟨sn_iald (dX_iaload (by decide +kernel)) (by decide +kernel), ?_⟩
  refine ⟨sn_istore (dX_istore (by decide +kernel)) (by decide) (by decide +kernel), ?_⟩
  refine ⟨sn_aload_n (k := 0) (dX_aload_0 (by decide +kernel)) rfl (by decide +kernel), ?_⟩
  refine ⟨sn_getf (C := RX12) (T := TX12) (N := 56) (idx := 92) rfl pin12 (by decide) (by decide) rfl (pmt6 190 rfl (by decide +kernel)) rfl (dX_getfield (by decide +kernel)) (by decide +kernel), ?_⟩
  refine ⟨sn_iload (dX_iload (by decide +kernel)) (by decide +kernel), ?_⟩
  refine ⟨sn_iald (dX_iaload (by decide +kernel)) (by decide +kernel), ?_⟩
  refine ⟨sn_iload_n (k := 3) (dX_iload_3 (by decide +kernel)) rfl (by decide +kernel), ?_⟩
  refine ⟨sn_iconst (dX_iconst_1 (by decide +kernel)) (by decide +kernel), ?_⟩
  refine ⟨sn_isub (dX_isub (by decide +kernel)) (by decide +kernel), ?_⟩
  refine ⟨sn_icmp_ne (off := 57) (dX_if_icmpne (by decide +kernel)) (by decide +kernel) (by decide +kernel), ?_⟩
  refine ⟨sn_iload (dX_iload (by decide +kernel)) (by decide +kernel), ?_⟩
  refine ⟨sn_iload_n (k := 1) (dX_iload_1 (by decide +kernel)) rfl (by decide +kernel), ?_⟩
  refine ⟨sn_icmp_gt (off := 51) (dX_if_icmpgt (by decide +kernel)) (by decide +kernel) (by decide +kernel), ?_⟩
  refine ⟨sn_iload (dX_iload (by decide +kernel)) (by decide +kernel), ?_⟩
  refine ⟨sn_ldcw (idx := 258) (dX_ldc_w (by decide +kernel)) (pmt7 230 rfl (by decide +kernel)) (by decide +kernel), ?_⟩
  refine ⟨sn_icmp_lt (off := 6) (dX_if_icmplt (by decide +kernel)) (by decide +kernel) (by decide +kernel), ?_⟩
  refine ⟨sn_goto (off := 40) (dX_goto (by decide +kernel)) (by decide +kernel), ?_⟩
  refine ⟨sn_aload_n (k := 0) (dX_aload_0 (by decide +kernel)) rfl (by decide +kernel), ?_⟩
  refine ⟨sn_getf (C := RX12) (T := TX12) (N := 56) (idx := 92) rfl pin12 (by decide) (by decide) rfl (pmt6 190 rfl (by decide +kernel)) rfl (dX_getfield (by decide +kernel)) (by decide +kernel), ?_⟩
  refine ⟨sn_iload (dX_iload (by decide +kernel)) (by decide +kernel), ?_⟩
  refine ⟨sn_iload_n (k := 3) (dX_iload_3 (by decide +kernel)) rfl (by decide +kernel), ?_⟩
  refine ⟨sn_iast (dX_iastore (by decide +kernel)) (by decide +kernel), ?_⟩
  refine ⟨sn_aload_n (k := 0) (dX_aload_0 (by decide +kernel)) rfl (by decide +kernel), ?_⟩
  refine ⟨sn_getf (C := RX12) (T := TX12) (N := 56) (idx := 95) rfl pin12 (by decide) (by decide) rfl (pmt6 191 rfl (by decide +kernel)) rfl (dX_getfield (by decide +kernel)) (by decide +kernel), ?_⟩
  refine ⟨sn_iload (dX_iload (by decide +kernel)) (by decide +kernel), ?_⟩
  refine ⟨sn_aload_n (k := 0) (dX_aload_0 (by decide +kernel)) rfl (by decide +kernel), ?_⟩
  refine ⟨sn_getf (C := RX12) (T := TX12) (N := 56) (idx := 95) rfl pin12 (by decide) (by decide) rfl (pmt6 191 rfl (by decide +kernel)) rfl (dX_getfield (by decide +kernel)) (by decide +kernel), ?_⟩
  refine ⟨sn_iload (dX_iload (by decide +kernel)) (by decide +kernel), ?_⟩
  refine ⟨sn_iald (dX_iaload (by decide +kernel)) (by decide +kernel), ?_⟩
  refine ⟨sn_aload_n (k := 0) (dX_aload_0 (by decide +kernel)) rfl (by decide +kernel), ?_⟩
  refine ⟨sn_getf (C := RX12) (T := TX12) (N := 56) (idx := 95) rfl pin12 (by decide) (by decide) rfl (pmt6 191 rfl (by decide +kernel)) rfl (dX_getfield (by decide +kernel)) (by decide +kernel), ?_⟩
  refine ⟨sn_iload (dX_iload (by decide +kernel)) (by decide +kernel), ?_⟩
  refine ⟨sn_iald (dX_iaload (by decide +kernel)) (by decide +kernel), ?_⟩
  refine ⟨sn_iload (dX_iload (by decide +kernel)) (by decide +kernel), ?_⟩
  refine ⟨sn_iadd (dX_iadd (by decide +kernel)) (by decide +kernel), ?_⟩
  refine ⟨sn_mmin (idx := 222) (pmt7 192 rfl (by decide +kernel)) (pmt2 211 rfl (by decide +kernel)) (pmt1 14 rfl (by decide +kernel)) (pmt2 212 rfl (by decide +kernel)) (dX_invokestatic (by decide +kernel)) (by decide +kernel), ?_⟩
  refine ⟨sn_iast (dX_iastore (by decide +kernel)) (by decide +kernel), ?_⟩
  refine ⟨sn_iconst (dX_iconst_1 (by decide +kernel)) (by decide +kernel), ?_⟩
  refine ⟨sn_istore_n (k := 2) (dX_istore_2 (by decide +kernel)) rfl (by decide) (by decide +kernel), ?_⟩
  refine ⟨sn_iinc (dX_iinc (by decide +kernel)) (by decide) (by decide +kernel), ?_⟩
  refine ⟨sn_goto (off := -95) (dX_goto (by decide +kernel)) (by decide +kernel), ?_⟩
  refine ⟨sn_iinc (dX_iinc (by decide +kernel)) (by decide) (by decide +kernel), ?_⟩
  refine ⟨sn_goto (off := -127) (dX_goto (by decide +kernel)) (by decide +kernel), ?_⟩
  refine ⟨sn_iinc (dX_iinc (by decide +kernel)) (by decide) (by decide +kernel), ?_⟩
  refine ⟨sn_goto (off := -142) (dX_goto (by decide +kernel)) (by decide +kernel), ?_⟩
  refine ⟨sn_vret rfl (dX_return (by decide +kernel)), ?_⟩
  trivial
set_option maxRecDepth 100000 in
set_option maxHeartbeats 4000000 in
theorem S_263 : pAll (pSk RX12 cX12_evenings 3 (some .int) PC_263) 0 C_263 := by
  refine ⟨sn_aload_n (k := 0) (dX_aload_0 (by decide +kernel)) rfl (by decide +kernel), ?_⟩
  refine ⟨sn_iconst (dX_iconst_0 (by decide +kernel)) (by decide +kernel), ?_⟩
  refine ⟨sn_puti (C := RX12) (T := TX12) (N := 56) (idx := 107) rfl pin12 (by decide) (by decide) rfl tyX12 tyX12_ok nmX12 rfl rfl (by decide +kernel) (pmt6 157 rfl (by decide +kernel)) rfl (dX_putfield (by decide +kernel)) (by decide +kernel), ?_⟩
  refine ⟨sn_aload_n (k := 0) (dX_aload_0 (by decide +kernel)) rfl (by decide +kernel), ?_⟩
  refine ⟨sn_callV (idx := 357) (C := RX12) (T := TX12) (N := 56) rfl (by decide) cal_256 (pmt8 184 rfl (by decide +kernel)) (pmt8 186 rfl (by decide +kernel)) (pms 89 rfl rfl) (dX_invokevirtual (by decide +kernel)) (by decide +kernel), ?_⟩
  refine ⟨sn_if_ne (off := 6) (dX_ifne (by decide +kernel)) (by decide +kernel) (by decide +kernel), ?_⟩
  refine ⟨sn_bipush (dX_bipush (by decide +kernel)) (by decide +kernel) (by decide +kernel), ?_⟩
  refine ⟨sn_iret rfl (dX_ireturn (by decide +kernel)), ?_⟩
  refine ⟨sn_aload_n (k := 0) (dX_aload_0 (by decide +kernel)) rfl (by decide +kernel), ?_⟩
  refine ⟨sn_callV (idx := 369) (C := RX12) (T := TX12) (N := 56) rfl (by decide) cal_261 (pmt8 200 rfl (by decide +kernel)) (pmt8 202 rfl (by decide +kernel)) (pms 91 rfl rfl) (dX_invokevirtual (by decide +kernel)) (by decide +kernel), ?_⟩
  refine ⟨sn_if_eq (off := 15) (dX_ifeq (by decide +kernel)) (by decide +kernel) (by decide +kernel), ?_⟩
  refine ⟨sn_aload_n (k := 0) (dX_aload_0 (by decide +kernel)) rfl (by decide +kernel), ?_⟩
  refine ⟨sn_iconst (dX_iconst_0 (by decide +kernel)) (by decide +kernel), ?_⟩
  refine ⟨sn_puti (C := RX12) (T := TX12) (N := 56) (idx := 110) rfl pin12 (by decide) (by decide) rfl tyX12 tyX12_ok nmX12 rfl rfl (by decide +kernel) (pmt6 156 rfl (by decide +kernel)) rfl (dX_putfield (by decide +kernel)) (by decide +kernel), ?_⟩
  refine ⟨sn_aload_n (k := 0) (dX_aload_0 (by decide +kernel)) rfl (by decide +kernel), ?_⟩
  refine ⟨sn_iconst (dX_iconst_0 (by decide +kernel)) (by decide +kernel), ?_⟩
  refine ⟨sn_callV (idx := 294) (C := RX12) (T := TX12) (N := 56) rfl (by decide) cal_172 (pmt8 12 rfl (by decide +kernel)) (pmt8 14 rfl (by decide +kernel)) (pms 73 rfl rfl) (dX_invokevirtual (by decide +kernel)) (by decide +kernel), ?_⟩
  refine ⟨sn_iconst (dX_iconst_0 (by decide +kernel)) (by decide +kernel), ?_⟩
  refine ⟨sn_iret rfl (dX_ireturn (by decide +kernel)), ?_⟩
  refine ⟨sn_aload_n (k := 0) (dX_aload_0 (by decide +kernel)) rfl (by decide +kernel), ?_⟩
  refine ⟨sn_callV (idx := 372) (C := RX12) (T := TX12) (N := 56) rfl (by decide) cal_260 (pmt8 204 rfl (by decide +kernel)) (pmt8 206 rfl (by decide +kernel)) (pms 92 rfl rfl) (dX_invokevirtual (by decide +kernel)) (by decide +kernel), ?_⟩
  refine ⟨sn_if_ne (off := 6) (dX_ifne (by decide +kernel)) (by decide +kernel) (by decide +kernel), ?_⟩
  refine ⟨sn_bipush (dX_bipush (by decide +kernel)) (by decide +kernel) (by decide +kernel), ?_⟩
  refine ⟨sn_iret rfl (dX_ireturn (by decide +kernel)), ?_⟩
  refine ⟨sn_aload_n (k := 0) (dX_aload_0 (by decide +kernel)) rfl (by decide +kernel), ?_⟩
  refine ⟨sn_getf (C := RX12) (T := TX12) (N := 56) (idx := 366) rfl pin12 (by decide) (by decide) rfl (pmt6 189 rfl (by decide +kernel)) rfl (dX_getfield (by decide +kernel)) (by decide +kernel), ?_⟩
  refine ⟨sn_iconst (dX_iconst_m1 (by decide +kernel)) (by decide +kernel), ?_⟩
  refine ⟨sn_icmp_ne (off := 6) (dX_if_icmpne (by decide +kernel)) (by decide +kernel) (by decide +kernel), ?_⟩
  refine ⟨sn_bipush (dX_bipush (by decide +kernel)) (by decide +kernel) (by decide +kernel), ?_⟩
  refine ⟨sn_iret rfl (dX_ireturn (by decide +kernel)), ?_⟩
  refine ⟨sn_aload_n (k := 0) (dX_aload_0 (by decide +kernel)) rfl (by decide +kernel), ?_⟩
  refine ⟨sn_aload_n (k := 0) (dX_aload_0 (by decide +kernel)) rfl (by decide +kernel), ?_⟩
  refine ⟨sn_getf (C := RX12) (T := TX12) (N := 56) (idx := 31) rfl pin12 (by decide) (by decide) rfl (pmt6 152 rfl (by decide +kernel)) rfl (dX_getfield (by decide +kernel)) (by decide +kernel), ?_⟩
  refine ⟨sn_callV (idx := 375) (C := RX12) (T := TX12) (N := 56) rfl (by decide) cal_262 (pmt8 208 rfl (by decide +kernel)) (pmt8 210 rfl (by decide +kernel)) (pms 93 rfl rfl) (dX_invokevirtual (by decide +kernel)) (by decide +kernel), ?_⟩
  refine ⟨sn_aload_n (k := 0) (dX_aload_0 (by decide +kernel)) rfl (by decide +kernel), ?_⟩
  refine ⟨sn_getf (C := RX12) (T := TX12) (N := 56) (idx := 92) rfl pin12 (by decide) (by decide) rfl (pmt6 190 rfl (by decide +kernel)) rfl (dX_getfield (by decide +kernel)) (by decide +kernel), ?_⟩
  refine ⟨sn_iconst (dX_iconst_0 (by decide +kernel)) (by decide +kernel), ?_⟩
  refine ⟨sn_iald (dX_iaload (by decide +kernel)) (by decide +kernel), ?_⟩
  refine ⟨sn_ldcw (idx := 258) (dX_ldc_w (by decide +kernel)) (pmt7 230 rfl (by decide +kernel)) (by decide +kernel), ?_⟩
  refine ⟨sn_icmp_lt (off := 6) (dX_if_icmplt (by decide +kernel)) (by decide +kernel) (by decide +kernel), ?_⟩
  refine ⟨sn_bipush (dX_bipush (by decide +kernel)) (by decide +kernel) (by decide +kernel), ?_⟩
  refine ⟨sn_iret rfl (dX_ireturn (by decide +kernel)), ?_⟩
  refine ⟨sn_iconst (dX_iconst_1 (by decide +kernel)) (by decide +kernel), ?_⟩
  refine ⟨sn_istore_n (k := 1) (dX_istore_1 (by decide +kernel)) rfl (by decide) (by decide +kernel), ?_⟩
  refine ⟨sn_aload_n (k := 0) (dX_aload_0 (by decide +kernel)) rfl (by decide +kernel), ?_⟩
  refine ⟨sn_getf (C := RX12) (T := TX12) (N := 56) (idx := 92) rfl pin12 (by decide) (by decide) rfl (pmt6 190 rfl (by decide +kernel)) rfl (dX_getfield (by decide +kernel)) (by decide +kernel), ?_⟩
  refine ⟨sn_iload_n (k := 1) (dX_iload_1 (by decide +kernel)) rfl (by decide +kernel), ?_⟩
  refine ⟨sn_iald (dX_iaload (by decide +kernel)) (by decide +kernel), ?_⟩
  refine ⟨sn_aload_n (k := 0) (dX_aload_0 (by decide +kernel)) rfl (by decide +kernel), ?_⟩
  refine ⟨sn_getf (C := RX12) (T := TX12) (N := 56) (idx := 92) rfl pin12 (by decide) (by decide) rfl (pmt6 190 rfl (by decide +kernel)) rfl (dX_getfield (by decide +kernel)) (by decide +kernel), ?_⟩
  refine ⟨sn_iconst (dX_iconst_0 (by decide +kernel)) (by decide +kernel), ?_⟩
  refine ⟨sn_iald (dX_iaload (by decide +kernel)) (by decide +kernel), ?_⟩
  refine ⟨sn_iconst (dX_iconst_1 (by decide +kernel)) (by decide +kernel), ?_⟩
  refine ⟨sn_isub (dX_isub (by decide +kernel)) (by decide +kernel), ?_⟩
  refine ⟨sn_icmp_ne (off := 38) (dX_if_icmpne (by decide +kernel)) (by decide +kernel) (by decide +kernel), ?_⟩
  refine ⟨sn_aload_n (k := 0) (dX_aload_0 (by decide +kernel)) rfl (by decide +kernel), ?_⟩
  refine ⟨sn_getf (C := RX12) (T := TX12) (N := 56) (idx := 89) rfl pin12 (by decide) (by decide) rfl (pmt6 187 rfl (by decide +kernel)) rfl (dX_getfield (by decide +kernel)) (by decide +kernel), ?_⟩
  refine ⟨sn_iload_n (k := 1) (dX_iload_1 (by decide +kernel)) rfl (by decide +kernel), ?_⟩
  refine ⟨sn_iald (dX_iaload (by decide +kernel)) (by decide +kernel), ?_⟩
  refine ⟨sn_aload_n (k := 0) (dX_aload_0 (by decide +kernel)) rfl (by decide +kernel), ?_⟩
  refine ⟨sn_getf (C := RX12) (T := TX12) (N := 56) (idx := 31) rfl pin12 (by decide) (by decide) rfl (pmt6 152 rfl (by decide +kernel)) rfl (dX_getfield (by decide +kernel)) (by decide +kernel), ?_⟩
  refine ⟨sn_icmp_gt (off := 25) (dX_if_icmpgt (by decide +kernel)) (by decide +kernel) (by decide +kernel), ?_⟩
  refine ⟨sn_aload_n (k := 0) (dX_aload_0 (by decide +kernel)) rfl (by decide +kernel), ?_⟩
  refine ⟨sn_getf (C := RX12) (T := TX12) (N := 56) (idx := 95) rfl pin12 (by decide) (by decide) rfl (pmt6 191 rfl (by decide +kernel)) rfl (dX_getfield (by decide +kernel)) (by decide +kernel), ?_⟩
  refine ⟨sn_iload_n (k := 1) (dX_iload_1 (by decide +kernel)) rfl (by decide +kernel), ?_⟩
  refine ⟨sn_iald (dX_iaload (by decide +kernel)) (by decide +kernel), ?_⟩
  refine ⟨sn_aload_n (k := 0) (dX_aload_0 (by decide +kernel)) rfl (by decide +kernel), ?_⟩
  refine ⟨sn_getf (C := RX12) (T := TX12) (N := 56) (idx := 89) rfl pin12 (by decide) (by decide) rfl (pmt6 187 rfl (by decide +kernel)) rfl (dX_getfield (by decide +kernel)) (by decide +kernel), ?_⟩
  refine ⟨sn_iload_n (k := 1) (dX_iload_1 (by decide +kernel)) rfl (by decide +kernel), ?_⟩
  refine ⟨sn_iald (dX_iaload (by decide +kernel)) (by decide +kernel), ?_⟩
  refine ⟨sn_iadd (dX_iadd (by decide +kernel)) (by decide +kernel), ?_⟩
  refine ⟨sn_aload_n (k := 0) (dX_aload_0 (by decide +kernel)) rfl (by decide +kernel), ?_⟩
  refine ⟨sn_getf (C := RX12) (T := TX12) (N := 56) (idx := 95) rfl pin12 (by decide) (by decide) rfl (pmt6 191 rfl (by decide +kernel)) rfl (dX_getfield (by decide +kernel)) (by decide +kernel), ?_⟩
  refine ⟨sn_iconst (dX_iconst_0 (by decide +kernel)) (by decide +kernel), ?_⟩
  refine ⟨sn_iald (dX_iaload (by decide +kernel)) (by decide +kernel), ?_⟩
  refine ⟨sn_icmp_eq (off := 9) (dX_if_icmpeq (by decide +kernel)) (by decide +kernel) (by decide +kernel), ?_⟩
  refine ⟨sn_iinc (dX_iinc (by decide +kernel)) (by decide) (by decide +kernel), ?_⟩
  refine ⟨sn_goto (off := -55) (dX_goto (by decide +kernel)) (by decide +kernel), ?_⟩
  refine ⟨sn_aload_n (k := 0) (dX_aload_0 (by decide +kernel)) rfl (by decide +kernel), ?_⟩
  refine ⟨sn_iconst (dX_iconst_0 (by decide +kernel)) (by decide +kernel), ?_⟩
  refine ⟨sn_puti (C := RX12) (T := TX12) (N := 56) (idx := 110) rfl pin12 (by decide) (by decide) rfl tyX12 tyX12_ok nmX12 rfl rfl (by decide +kernel) (pmt6 156 rfl (by decide +kernel)) rfl (dX_putfield (by decide +kernel)) (by decide +kernel), ?_⟩
  refine ⟨sn_aload_n (k := 0) (dX_aload_0 (by decide +kernel)) rfl (by decide +kernel), ?_⟩
  refine ⟨sn_aload_n (k := 0) (dX_aload_0 (by decide +kernel)) rfl (by decide +kernel), ?_⟩
  refine ⟨sn_getf (C := RX12) (T := TX12) (N := 56) (idx := 95) rfl pin12 (by decide) (by decide) rfl (pmt6 191 rfl (by decide +kernel)) rfl (dX_getfield (by decide +kernel)) (by decide +kernel), ?_⟩
  refine ⟨sn_iconst (dX_iconst_0 (by decide +kernel)) (by decide +kernel), ?_⟩
  refine ⟨sn_iald (dX_iaload (by decide +kernel)) (by decide +kernel), ?_⟩
  refine ⟨sn_callV (idx := 294) (C := RX12) (T := TX12) (N := 56) rfl (by decide) cal_172 (pmt8 12 rfl (by decide +kernel)) (pmt8 14 rfl (by decide +kernel)) (pms 73 rfl rfl) (dX_invokevirtual (by decide +kernel)) (by decide +kernel), ?_⟩
  refine ⟨sn_iconst (dX_iconst_0 (by decide +kernel)) (by decide +kernel), ?_⟩
  refine ⟨sn_istore_n (k := 2) (dX_istore_2 (by decide +kernel)) rfl (by decide) (by decide +kernel), ?_⟩
  refine ⟨sn_iload_n (k := 2) (dX_iload_2 (by decide +kernel)) rfl (by decide +kernel), ?_⟩
  refine ⟨sn_aload_n (k := 0) (dX_aload_0 (by decide +kernel)) rfl (by decide +kernel), ?_⟩
  refine ⟨sn_getf (C := RX12) (T := TX12) (N := 56) (idx := 120) rfl pin12 (by decide) (by decide) rfl (pmt6 143 rfl (by decide +kernel)) rfl (dX_getfield (by decide +kernel)) (by decide +kernel), ?_⟩
  refine ⟨sn_icmp_ge (off := 24) (dX_if_icmpge (by decide +kernel)) (by decide +kernel) (by decide +kernel), ?_⟩
  refine ⟨sn_aload_n (k := 0) (dX_aload_0 (by decide +kernel)) rfl (by decide +kernel), ?_⟩
  refine ⟨sn_aload_n (k := 0) (dX_aload_0 (by decide +kernel)) rfl (by decide +kernel), ?_⟩
  refine ⟨sn_getf (C := RX12) (T := TX12) (N := 56) (idx := 85) rfl pin12 (by decide) (by decide) rfl (pmt6 186 rfl (by decide +kernel)) rfl (dX_getfield (by decide +kernel)) (by decide +kernel), ?_⟩
  refine ⟨sn_bipush (dX_bipush (by decide +kernel)) (by decide +kernel) (by decide +kernel), ?_⟩
  refine ⟨sn_iload_n (k := 1) (dX_iload_1 (by decide +kernel)) rfl (by decide +kernel), ?_⟩
  refine ⟨sn_imul (dX_imul (by decide +kernel)) (by decide +kernel), ?_⟩
  refine ⟨sn_iload_n (k := 2) (dX_iload_2 (by decide +kernel)) rfl (by decide +kernel), ?_⟩
  refine ⟨sn_iadd (dX_iadd (by decide +kernel)) (by decide +kernel), ?_⟩
  refine ⟨sn_iald (dX_iaload (by decide +kernel)) (by decide +kernel), ?_⟩
  refine ⟨sn_callV (idx := 294) (C := RX12) (T := TX12) (N := 56) rfl (by decide) cal_172 (pmt8 12 rfl (by decide +kernel)) (pmt8 14 rfl (by decide +kernel)) (pms 73 rfl rfl) (dX_invokevirtual (by decide +kernel)) (by decide +kernel), ?_⟩
  refine ⟨sn_iinc (dX_iinc (by decide +kernel)) (by decide) (by decide +kernel), ?_⟩
  refine ⟨sn_goto (off := -26) (dX_goto (by decide +kernel)) (by decide +kernel), ?_⟩
  refine ⟨sn_aload_n (k := 0) (dX_aload_0 (by decide +kernel)) rfl (by decide +kernel), ?_⟩
  refine ⟨sn_getf (C := RX12) (T := TX12) (N := 56) (idx := 92) rfl pin12 (by decide) (by decide) rfl (pmt6 190 rfl (by decide +kernel)) rfl (dX_getfield (by decide +kernel)) (by decide +kernel), ?_⟩
  refine ⟨sn_iconst (dX_iconst_0 (by decide +kernel)) (by decide +kernel), ?_⟩
  refine ⟨sn_iald (dX_iaload (by decide +kernel)) (by decide +kernel), ?_⟩
  refine ⟨sn_iret rfl (dX_ireturn (by decide +kernel)), ?_⟩
  trivial
set_option maxRecDepth 100000 in
set_option maxHeartbeats 4000000 in
theorem S_264 : pAll (pSk RX12 cX12_weakest 2 (some .int) PC_264) 0 C_264 := by
  refine ⟨sn_aload_n (k := 0) (dX_aload_0 (by decide +kernel)) rfl (by decide +kernel), ?_⟩
  refine ⟨sn_iconst (dX_iconst_0 (by decide +kernel)) (by decide +kernel), ?_⟩
  refine ⟨sn_puti (C := RX12) (T := TX12) (N := 56) (idx := 107) rfl pin12 (by decide) (by decide) rfl tyX12 tyX12_ok nmX12 rfl rfl (by decide +kernel) (pmt6 157 rfl (by decide +kernel)) rfl (dX_putfield (by decide +kernel)) (by decide +kernel), ?_⟩
  refine ⟨sn_aload_n (k := 0) (dX_aload_0 (by decide +kernel)) rfl (by decide +kernel), ?_⟩
  refine ⟨sn_callV (idx := 357) (C := RX12) (T := TX12) (N := 56) rfl (by decide) cal_256 (pmt8 184 rfl (by decide +kernel)) (pmt8 186 rfl (by decide +kernel)) (pms 89 rfl rfl) (dX_invokevirtual (by decide +kernel)) (by decide +kernel), ?_⟩
  refine ⟨sn_if_ne (off := 6) (dX_ifne (by decide +kernel)) (by decide +kernel) (by decide +kernel), ?_⟩
  refine ⟨sn_bipush (dX_bipush (by decide +kernel)) (by decide +kernel) (by decide +kernel), ?_⟩
  refine ⟨sn_iret rfl (dX_ireturn (by decide +kernel)), ?_⟩
  refine ⟨sn_aload_n (k := 0) (dX_aload_0 (by decide +kernel)) rfl (by decide +kernel), ?_⟩
  refine ⟨sn_callV (idx := 369) (C := RX12) (T := TX12) (N := 56) rfl (by decide) cal_261 (pmt8 200 rfl (by decide +kernel)) (pmt8 202 rfl (by decide +kernel)) (pms 91 rfl rfl) (dX_invokevirtual (by decide +kernel)) (by decide +kernel), ?_⟩
  refine ⟨sn_if_eq (off := 15) (dX_ifeq (by decide +kernel)) (by decide +kernel) (by decide +kernel), ?_⟩
  refine ⟨sn_aload_n (k := 0) (dX_aload_0 (by decide +kernel)) rfl (by decide +kernel), ?_⟩
  refine ⟨sn_iconst (dX_iconst_0 (by decide +kernel)) (by decide +kernel), ?_⟩
  refine ⟨sn_puti (C := RX12) (T := TX12) (N := 56) (idx := 110) rfl pin12 (by decide) (by decide) rfl tyX12 tyX12_ok nmX12 rfl rfl (by decide +kernel) (pmt6 156 rfl (by decide +kernel)) rfl (dX_putfield (by decide +kernel)) (by decide +kernel), ?_⟩
  refine ⟨sn_aload_n (k := 0) (dX_aload_0 (by decide +kernel)) rfl (by decide +kernel), ?_⟩
  refine ⟨sn_iconst (dX_iconst_0 (by decide +kernel)) (by decide +kernel), ?_⟩
  refine ⟨sn_callV (idx := 294) (C := RX12) (T := TX12) (N := 56) rfl (by decide) cal_172 (pmt8 12 rfl (by decide +kernel)) (pmt8 14 rfl (by decide +kernel)) (pms 73 rfl rfl) (dX_invokevirtual (by decide +kernel)) (by decide +kernel), ?_⟩
  refine ⟨sn_iconst (dX_iconst_0 (by decide +kernel)) (by decide +kernel), ?_⟩
  refine ⟨sn_iret rfl (dX_ireturn (by decide +kernel)), ?_⟩
  refine ⟨sn_aload_n (k := 0) (dX_aload_0 (by decide +kernel)) rfl (by decide +kernel), ?_⟩
  refine ⟨sn_callV (idx := 372) (C := RX12) (T := TX12) (N := 56) rfl (by decide) cal_260 (pmt8 204 rfl (by decide +kernel)) (pmt8 206 rfl (by decide +kernel)) (pms 92 rfl rfl) (dX_invokevirtual (by decide +kernel)) (by decide +kernel), ?_⟩
  refine ⟨sn_if_ne (off := 6) (dX_ifne (by decide +kernel)) (by decide +kernel) (by decide +kernel), ?_⟩
  refine ⟨sn_bipush (dX_bipush (by decide +kernel)) (by decide +kernel) (by decide +kernel), ?_⟩
  refine ⟨sn_iret rfl (dX_ireturn (by decide +kernel)), ?_⟩
  refine ⟨sn_aload_n (k := 0) (dX_aload_0 (by decide +kernel)) rfl (by decide +kernel), ?_⟩
  refine ⟨sn_getf (C := RX12) (T := TX12) (N := 56) (idx := 366) rfl pin12 (by decide) (by decide) rfl (pmt6 189 rfl (by decide +kernel)) rfl (dX_getfield (by decide +kernel)) (by decide +kernel), ?_⟩
  refine ⟨sn_iconst (dX_iconst_m1 (by decide +kernel)) (by decide +kernel), ?_⟩
  refine ⟨sn_icmp_ne (off := 6) (dX_if_icmpne (by decide +kernel)) (by decide +kernel) (by decide +kernel), ?_⟩
  refine ⟨sn_bipush (dX_bipush (by decide +kernel)) (by decide +kernel) (by decide +kernel), ?_⟩
  refine ⟨sn_iret rfl (dX_ireturn (by decide +kernel)), ?_⟩
  refine ⟨sn_iconst (dX_iconst_1 (by decide +kernel)) (by decide +kernel), ?_⟩
  refine ⟨sn_istore_n (k := 1) (dX_istore_1 (by decide +kernel)) rfl (by decide) (by decide +kernel), ?_⟩
  refine ⟨sn_iload_n (k := 1) (dX_iload_1 (by decide +kernel)) rfl (by decide +kernel), ?_⟩
  refine ⟨sn_sipush (dX_sipush (by decide +kernel)) (by decide +kernel) (by decide +kernel), ?_⟩
  refine ⟨sn_icmp_gt (off := 57) (dX_if_icmpgt (by decide +kernel)) (by decide +kernel) (by decide +kernel), ?_⟩
  refine ⟨sn_aload_n (k := 0) (dX_aload_0 (by decide +kernel)) rfl (by decide +kernel), ?_⟩
  refine ⟨sn_iload_n (k := 1) (dX_iload_1 (by decide +kernel)) rfl (by decide +kernel), ?_⟩
  refine ⟨sn_callV (idx := 378) (C := RX12) (T := TX12) (N := 56) rfl (by decide) cal_265 (pmt8 216 rfl (by decide +kernel)) (pmt8 218 rfl (by decide +kernel)) (pms 94 rfl rfl) (dX_invokevirtual (by decide +kernel)) (by decide +kernel), ?_⟩
  refine ⟨sn_if_ne (off := 6) (dX_ifne (by decide +kernel)) (by decide +kernel) (by decide +kernel), ?_⟩
  refine ⟨sn_goto (off := 40) (dX_goto (by decide +kernel)) (by decide +kernel), ?_⟩
  refine ⟨sn_aload_n (k := 0) (dX_aload_0 (by decide +kernel)) rfl (by decide +kernel), ?_⟩
  refine ⟨sn_iload_n (k := 1) (dX_iload_1 (by decide +kernel)) rfl (by decide +kernel), ?_⟩
  refine ⟨sn_callV (idx := 375) (C := RX12) (T := TX12) (N := 56) rfl (by decide) cal_262 (pmt8 208 rfl (by decide +kernel)) (pmt8 210 rfl (by decide +kernel)) (pms 93 rfl rfl) (dX_invokevirtual (by decide +kernel)) (by decide +kernel), ?_⟩
  refine ⟨sn_aload_n (k := 0) (dX_aload_0 (by decide +kernel)) rfl (by decide +kernel), ?_⟩
  refine ⟨sn_getf (C := RX12) (T := TX12) (N := 56) (idx := 92) rfl pin12 (by decide) (by decide) rfl (pmt6 190 rfl (by decide +kernel)) rfl (dX_getfield (by decide +kernel)) (by decide +kernel), ?_⟩
  refine ⟨sn_iconst (dX_iconst_0 (by decide +kernel)) (by decide +kernel), ?_⟩
  refine ⟨sn_iald (dX_iaload (by decide +kernel)) (by decide +kernel), ?_⟩
  refine ⟨sn_ldcw (idx := 258) (dX_ldc_w (by decide +kernel)) (pmt7 230 rfl (by decide +kernel)) (by decide +kernel), ?_⟩
  refine ⟨sn_icmp_lt (off := 6) (dX_if_icmplt (by decide +kernel)) (by decide +kernel) (by decide +kernel), ?_⟩
  refine ⟨sn_goto (off := 20) (dX_goto (by decide +kernel)) (by decide +kernel), ?_⟩
  refine ⟨sn_aload_n (k := 0) (dX_aload_0 (by decide +kernel)) rfl (by decide +kernel), ?_⟩
  refine ⟨sn_iconst (dX_iconst_0 (by decide +kernel)) (by decide +kernel), ?_⟩
  refine ⟨sn_puti (C := RX12) (T := TX12) (N := 56) (idx := 110) rfl pin12 (by decide) (by decide) rfl tyX12 tyX12_ok nmX12 rfl rfl (by decide +kernel) (pmt6 156 rfl (by decide +kernel)) rfl (dX_putfield (by decide +kernel)) (by decide +kernel), ?_⟩
  refine ⟨sn_aload_n (k := 0) (dX_aload_0 (by decide +kernel)) rfl (by decide +kernel), ?_⟩
  refine ⟨sn_aload_n (k := 0) (dX_aload_0 (by decide +kernel)) rfl (by decide +kernel), ?_⟩
  refine ⟨sn_getf (C := RX12) (T := TX12) (N := 56) (idx := 92) rfl pin12 (by decide) (by decide) rfl (pmt6 190 rfl (by decide +kernel)) rfl (dX_getfield (by decide +kernel)) (by decide +kernel), ?_⟩
  refine ⟨sn_iconst (dX_iconst_0 (by decide +kernel)) (by decide +kernel), ?_⟩
  refine ⟨sn_iald (dX_iaload (by decide +kernel)) (by decide +kernel), ?_⟩
  refine ⟨sn_callV (idx := 294) (C := RX12) (T := TX12) (N := 56) rfl (by decide) cal_172 (pmt8 12 rfl (by decide +kernel)) (pmt8 14 rfl (by decide +kernel)) (pms 73 rfl rfl) (dX_invokevirtual (by decide +kernel)) (by decide +kernel), ?_⟩
  refine ⟨sn_iload_n (k := 1) (dX_iload_1 (by decide +kernel)) rfl (by decide +kernel), ?_⟩
  refine ⟨sn_iret rfl (dX_ireturn (by decide +kernel)), ?_⟩
  refine ⟨sn_iinc (dX_iinc (by decide +kernel)) (by decide) (by decide +kernel), ?_⟩
  refine ⟨sn_goto (off := -58) (dX_goto (by decide +kernel)) (by decide +kernel), ?_⟩
  refine ⟨sn_bipush (dX_bipush (by decide +kernel)) (by decide +kernel) (by decide +kernel), ?_⟩
  refine ⟨sn_iret rfl (dX_ireturn (by decide +kernel)), ?_⟩
  trivial
set_option maxRecDepth 100000 in
set_option maxHeartbeats 4000000 in
theorem S_265 : pAll (pSk RX12 cX12_isCost 4 (some .boolean) PC_265) 0 C_265 := by
  refine ⟨sn_iconst (dX_iconst_0 (by decide +kernel)) (by decide +kernel), ?_⟩
  refine ⟨sn_istore_n (k := 2) (dX_istore_2 (by decide +kernel)) rfl (by decide) (by decide +kernel), ?_⟩
  refine ⟨sn_iload_n (k := 2) (dX_iload_2 (by decide +kernel)) rfl (by decide +kernel), ?_⟩
  refine ⟨sn_aload_n (k := 0) (dX_aload_0 (by decide +kernel)) rfl (by decide +kernel), ?_⟩
  refine ⟨sn_getf (C := RX12) (T := TX12) (N := 56) (idx := 363) rfl pin12 (by decide) (by decide) rfl (pmt6 188 rfl (by decide +kernel)) rfl (dX_getfield (by decide +kernel)) (by decide +kernel), ?_⟩
  refine ⟨sn_icmp_ge (off := 43) (dX_if_icmpge (by decide +kernel)) (by decide +kernel) (by decide +kernel), ?_⟩
  refine ⟨sn_iconst (dX_iconst_1 (by decide +kernel)) (by decide +kernel), ?_⟩
  refine ⟨sn_istore_n (k := 3) (dX_istore_3 (by decide +kernel)) rfl (by decide) (by decide +kernel), ?_⟩
  refine ⟨sn_iload_n (k := 3) (dX_iload_3 (by decide +kernel)) rfl (by decide +kernel), ?_⟩
  refine ⟨sn_aload_n (k := 0) (dX_aload_0 (by decide +kernel)) rfl (by decide +kernel), ?_⟩
  refine ⟨sn_getf (C := RX12) (T := TX12) (N := 56) (idx := 363) rfl pin12 (by decide) (by decide) rfl (pmt6 188 rfl (by decide +kernel)) rfl (dX_getfield (by decide +kernel)) (by decide +kernel), ?_⟩
  refine ⟨sn_icmp_ge (off := 27) (dX_if_icmpge (by decide +kernel)) (by decide +kernel) (by decide +kernel), ?_⟩
  refine ⟨sn_aload_n (k := 0) (dX_aload_0 (by decide +kernel)) rfl (by decide +kernel), ?_⟩
  refine ⟨sn_getf (C := RX12) (T := TX12) (N := 56) (idx := 89) rfl pin12 (by decide) (by decide) rfl (pmt6 187 rfl (by decide +kernel)) rfl (dX_getfield (by decide +kernel)) (by decide +kernel), ?_⟩
  refine ⟨sn_sipush (dX_sipush (by decide +kernel)) (by decide +kernel) (by decide +kernel), ?_⟩
  refine ⟨sn_iload_n (k := 2) (dX_iload_2 (by decide +kernel)) rfl (by decide +kernel), ?_⟩
  refine ⟨sn_imul (dX_imul (by decide +kernel)) (by decide +kernel), ?_⟩
  refine ⟨sn_iload_n (k := 3) (dX_iload_3 (by decide +kernel)) rfl (by decide +kernel), ?_⟩
  refine ⟨sn_iadd (dX_iadd (by decide +kernel)) (by decide +kernel), ?_⟩
  refine ⟨sn_iald (dX_iaload (by decide +kernel)) (by decide +kernel), ?_⟩
  refine ⟨sn_iload_n (k := 1) (dX_iload_1 (by decide +kernel)) rfl (by decide +kernel), ?_⟩
  refine ⟨sn_icmp_ne (off := 5) (dX_if_icmpne (by decide +kernel)) (by decide +kernel) (by decide +kernel), ?_⟩
  refine ⟨sn_iconst (dX_iconst_1 (by decide +kernel)) (by decide +kernel), ?_⟩
  refine ⟨sn_zret (Or.inl rfl) (dX_ireturn (by decide +kernel)), ?_⟩
  refine ⟨sn_iinc (dX_iinc (by decide +kernel)) (by decide) (by decide +kernel), ?_⟩
  refine ⟨sn_goto (off := -29) (dX_goto (by decide +kernel)) (by decide +kernel), ?_⟩
  refine ⟨sn_iinc (dX_iinc (by decide +kernel)) (by decide) (by decide +kernel), ?_⟩
  refine ⟨sn_goto (off := -45) (dX_goto (by decide +kernel)) (by decide +kernel), ?_⟩
  refine ⟨sn_iconst (dX_iconst_0 (by decide +kernel)) (by decide +kernel), ?_⟩
  refine ⟨sn_zret (Or.inl rfl) (dX_ireturn (by decide +kernel)), ?_⟩
  trivial
set_option maxRecDepth 100000 in
set_option maxHeartbeats 4000000 in
theorem S_266 : pAll (pSk RX12 cX12_keep 3 (some .boolean) PC_266) 0 C_266 := by
  refine ⟨sn_aload_n (k := 0) (dX_aload_0 (by decide +kernel)) rfl (by decide +kernel), ?_⟩
  refine ⟨sn_iconst (dX_iconst_0 (by decide +kernel)) (by decide +kernel), ?_⟩
  refine ⟨sn_puti (C := RX12) (T := TX12) (N := 56) (idx := 107) rfl pin12 (by decide) (by decide) rfl tyX12 tyX12_ok nmX12 rfl rfl (by decide +kernel) (pmt6 157 rfl (by decide +kernel)) rfl (dX_putfield (by decide +kernel)) (by decide +kernel), ?_⟩
  refine ⟨sn_iload_n (k := 1) (dX_iload_1 (by decide +kernel)) rfl (by decide +kernel), ?_⟩
  refine ⟨sn_iconst (dX_iconst_0 (by decide +kernel)) (by decide +kernel), ?_⟩
  refine ⟨sn_iconst (dX_iconst_1 (by decide +kernel)) (by decide +kernel), ?_⟩
  refine ⟨sn_callS (idx := 116) cal_169 (pmt7 77 rfl (by decide +kernel)) (pmt7 78 rfl (by decide +kernel)) (dX_invokestatic (by decide +kernel)) (by decide +kernel), ?_⟩
  refine ⟨sn_if_ne (off := 5) (dX_ifne (by decide +kernel)) (by decide +kernel) (by decide +kernel), ?_⟩
  refine ⟨sn_iconst (dX_iconst_0 (by decide +kernel)) (by decide +kernel), ?_⟩
  refine ⟨sn_zret (Or.inl rfl) (dX_ireturn (by decide +kernel)), ?_⟩
  refine ⟨sn_aload_n (k := 0) (dX_aload_0 (by decide +kernel)) rfl (by decide +kernel), ?_⟩
  refine ⟨sn_getf (C := RX12) (T := TX12) (N := 56) (idx := 101) rfl pin12 (by decide) (by decide) rfl (pmt6 194 rfl (by decide +kernel)) rfl (dX_getfield (by decide +kernel)) (by decide +kernel), ?_⟩
  refine ⟨sn_iload_n (k := 1) (dX_iload_1 (by decide +kernel)) rfl (by decide +kernel), ?_⟩
  refine ⟨sn_iconst (dX_iconst_1 (by decide +kernel)) (by decide +kernel), ?_⟩
  refine ⟨sn_zast (dX_bastore (by decide +kernel)) (by decide +kernel), ?_⟩
  refine ⟨sn_aload_n (k := 0) (dX_aload_0 (by decide +kernel)) rfl (by decide +kernel), ?_⟩
  refine ⟨sn_getf (C := RX12) (T := TX12) (N := 56) (idx := 104) rfl pin12 (by decide) (by decide) rfl (pmt6 195 rfl (by decide +kernel)) rfl (dX_getfield (by decide +kernel)) (by decide +kernel), ?_⟩
  refine ⟨sn_iload_n (k := 1) (dX_iload_1 (by decide +kernel)) rfl (by decide +kernel), ?_⟩
  refine ⟨sn_aload_n (k := 0) (dX_aload_0 (by decide +kernel)) rfl (by decide +kernel), ?_⟩
  refine ⟨sn_getf (C := RX12) (T := TX12) (N := 56) (idx := 183) rfl pin12 (by decide) (by decide) rfl (pmt6 192 rfl (by decide +kernel)) rfl (dX_getfield (by decide +kernel)) (by decide +kernel), ?_⟩
  refine ⟨sn_iast (dX_iastore (by decide +kernel)) (by decide +kernel), ?_⟩
  refine ⟨sn_iconst (dX_iconst_0 (by decide +kernel)) (by decide +kernel), ?_⟩
  refine ⟨sn_istore_n (k := 2) (dX_istore_2 (by decide +kernel)) rfl (by decide) (by decide +kernel), ?_⟩
  refine ⟨sn_iload_n (k := 2) (dX_iload_2 (by decide +kernel)) rfl (by decide +kernel), ?_⟩
  refine ⟨sn_bipush (dX_bipush (by decide +kernel)) (by decide +kernel) (by decide +kernel), ?_⟩
  refine ⟨sn_icmp_ge (off := 26) (dX_if_icmpge (by decide +kernel)) (by decide +kernel) (by decide +kernel), ?_⟩
  refine ⟨sn_aload_n (k := 0) (dX_aload_0 (by decide +kernel)) rfl (by decide +kernel), ?_⟩
  refine ⟨sn_getf (C := RX12) (T := TX12) (N := 56) (idx := 98) rfl pin12 (by decide) (by decide) rfl (pmt6 193 rfl (by decide +kernel)) rfl (dX_getfield (by decide +kernel)) (by decide +kernel), ?_⟩
  refine ⟨sn_bipush (dX_bipush (by decide +kernel)) (by decide +kernel) (by decide +kernel), ?_⟩
  refine ⟨sn_iload_n (k := 1) (dX_iload_1 (by decide +kernel)) rfl (by decide +kernel), ?_⟩
  refine ⟨sn_imul (dX_imul (by decide +kernel)) (by decide +kernel), ?_⟩
  refine ⟨sn_iload_n (k := 2) (dX_iload_2 (by decide +kernel)) rfl (by decide +kernel), ?_⟩
  refine ⟨sn_iadd (dX_iadd (by decide +kernel)) (by decide +kernel), ?_⟩
  refine ⟨sn_aload_n (k := 0) (dX_aload_0 (by decide +kernel)) rfl (by decide +kernel), ?_⟩
  refine ⟨sn_getf (C := RX12) (T := TX12) (N := 56) (idx := 25) rfl pin12 (by decide) (by decide) rfl (pmt6 147 rfl (by decide +kernel)) rfl (dX_getfield (by decide +kernel)) (by decide +kernel), ?_⟩
  refine ⟨sn_iload_n (k := 2) (dX_iload_2 (by decide +kernel)) rfl (by decide +kernel), ?_⟩
  refine ⟨sn_iald (dX_iaload (by decide +kernel)) (by decide +kernel), ?_⟩
  refine ⟨sn_iast (dX_iastore (by decide +kernel)) (by decide +kernel), ?_⟩
  refine ⟨sn_iinc (dX_iinc (by decide +kernel)) (by decide) (by decide +kernel), ?_⟩
  refine ⟨sn_goto (off := -26) (dX_goto (by decide +kernel)) (by decide +kernel), ?_⟩
  refine ⟨sn_aload_n (k := 0) (dX_aload_0 (by decide +kernel)) rfl (by decide +kernel), ?_⟩
  refine ⟨sn_getf (C := RX12) (T := TX12) (N := 56) (idx := 98) rfl pin12 (by decide) (by decide) rfl (pmt6 193 rfl (by decide +kernel)) rfl (dX_getfield (by decide +kernel)) (by decide +kernel), ?_⟩
  refine ⟨sn_bipush (dX_bipush (by decide +kernel)) (by decide +kernel) (by decide +kernel), ?_⟩
  refine ⟨sn_iload_n (k := 1) (dX_iload_1 (by decide +kernel)) rfl (by decide +kernel), ?_⟩
  refine ⟨sn_imul (dX_imul (by decide +kernel)) (by decide +kernel), ?_⟩
  refine ⟨sn_bipush (dX_bipush (by decide +kernel)) (by decide +kernel) (by decide +kernel), ?_⟩
  refine ⟨sn_iadd (dX_iadd (by decide +kernel)) (by decide +kernel), ?_⟩
  refine ⟨sn_aload_n (k := 0) (dX_aload_0 (by decide +kernel)) rfl (by decide +kernel), ?_⟩
  refine ⟨sn_getf (C := RX12) (T := TX12) (N := 56) (idx := 291) rfl pin12 (by decide) (by decide) rfl (pmt6 150 rfl (by decide +kernel)) rfl (dX_getfield (by decide +kernel)) (by decide +kernel), ?_⟩
  refine ⟨sn_iast (dX_iastore (by decide +kernel)) (by decide +kernel), ?_⟩
  refine ⟨sn_aload_n (k := 0) (dX_aload_0 (by decide +kernel)) rfl (by decide +kernel), ?_⟩
  refine ⟨sn_getf (C := RX12) (T := TX12) (N := 56) (idx := 98) rfl pin12 (by decide) (by decide) rfl (pmt6 193 rfl (by decide +kernel)) rfl (dX_getfield (by decide +kernel)) (by decide +kernel), ?_⟩
  refine ⟨sn_bipush (dX_bipush (by decide +kernel)) (by decide +kernel) (by decide +kernel), ?_⟩
  refine ⟨sn_iload_n (k := 1) (dX_iload_1 (by decide +kernel)) rfl (by decide +kernel), ?_⟩
  refine ⟨sn_imul (dX_imul (by decide +kernel)) (by decide +kernel), ?_⟩
  refine ⟨sn_bipush (dX_bipush (by decide +kernel)) (by decide +kernel) (by decide +kernel), ?_⟩
  refine ⟨sn_iadd (dX_iadd (by decide +kernel)) (by decide +kernel), ?_⟩
  refine ⟨sn_iconst (dX_iconst_1 (by decide +kernel)) (by decide +kernel), ?_⟩
  refine ⟨sn_iadd (dX_iadd (by decide +kernel)) (by decide +kernel), ?_⟩
  refine ⟨sn_aload_n (k := 0) (dX_aload_0 (by decide +kernel)) rfl (by decide +kernel), ?_⟩
  refine ⟨sn_getf (C := RX12) (T := TX12) (N := 56) (idx := 275) rfl pin12 (by decide) (by decide) rfl (pmt6 151 rfl (by decide +kernel)) rfl (dX_getfield (by decide +kernel)) (by decide +kernel), ?_⟩
  refine ⟨sn_iast (dX_iastore (by decide +kernel)) (by decide +kernel), ?_⟩
  refine ⟨sn_iconst (dX_iconst_1 (by decide +kernel)) (by decide +kernel), ?_⟩
  refine ⟨sn_zret (Or.inl rfl) (dX_ireturn (by decide +kernel)), ?_⟩
  trivial
set_option maxRecDepth 100000 in
set_option maxHeartbeats 4000000 in
theorem S_267 : pAll (pSk RX12 cX12_again 3 (some .boolean) PC_267) 0 C_267 := by
  refine ⟨sn_aload_n (k := 0) (dX_aload_0 (by decide +kernel)) rfl (by decide +kernel), ?_⟩
  refine ⟨sn_iconst (dX_iconst_0 (by decide +kernel)) (by decide +kernel), ?_⟩
  refine ⟨sn_puti (C := RX12) (T := TX12) (N := 56) (idx := 107) rfl pin12 (by decide) (by decide) rfl tyX12 tyX12_ok nmX12 rfl rfl (by decide +kernel) (pmt6 157 rfl (by decide +kernel)) rfl (dX_putfield (by decide +kernel)) (by decide +kernel), ?_⟩
  refine ⟨sn_iload_n (k := 1) (dX_iload_1 (by decide +kernel)) rfl (by decide +kernel), ?_⟩
  refine ⟨sn_iconst (dX_iconst_0 (by decide +kernel)) (by decide +kernel), ?_⟩
  refine ⟨sn_iconst (dX_iconst_1 (by decide +kernel)) (by decide +kernel), ?_⟩
  refine ⟨sn_callS (idx := 116) cal_169 (pmt7 77 rfl (by decide +kernel)) (pmt7 78 rfl (by decide +kernel)) (dX_invokestatic (by decide +kernel)) (by decide +kernel), ?_⟩
  refine ⟨sn_if_eq (off := 25) (dX_ifeq (by decide +kernel)) (by decide +kernel) (by decide +kernel), ?_⟩
  refine ⟨sn_aload_n (k := 0) (dX_aload_0 (by decide +kernel)) rfl (by decide +kernel), ?_⟩
  refine ⟨sn_getf (C := RX12) (T := TX12) (N := 56) (idx := 101) rfl pin12 (by decide) (by decide) rfl (pmt6 194 rfl (by decide +kernel)) rfl (dX_getfield (by decide +kernel)) (by decide +kernel), ?_⟩
  refine ⟨sn_iload_n (k := 1) (dX_iload_1 (by decide +kernel)) rfl (by decide +kernel), ?_⟩
  refine ⟨sn_zald (dX_baload (by decide +kernel)) (by decide +kernel), ?_⟩
  refine ⟨sn_if_eq (off := 16) (dX_ifeq (by decide +kernel)) (by decide +kernel) (by decide +kernel), ?_⟩
  refine ⟨sn_aload_n (k := 0) (dX_aload_0 (by decide +kernel)) rfl (by decide +kernel), ?_⟩
  refine ⟨sn_getf (C := RX12) (T := TX12) (N := 56) (idx := 104) rfl pin12 (by decide) (by decide) rfl (pmt6 195 rfl (by decide +kernel)) rfl (dX_getfield (by decide +kernel)) (by decide +kernel), ?_⟩
  refine ⟨sn_iload_n (k := 1) (dX_iload_1 (by decide +kernel)) rfl (by decide +kernel), ?_⟩
  refine ⟨sn_iald (dX_iaload (by decide +kernel)) (by decide +kernel), ?_⟩
  refine ⟨sn_aload_n (k := 0) (dX_aload_0 (by decide +kernel)) rfl (by decide +kernel), ?_⟩
  refine ⟨sn_getf (C := RX12) (T := TX12) (N := 56) (idx := 183) rfl pin12 (by decide) (by decide) rfl (pmt6 192 rfl (by decide +kernel)) rfl (dX_getfield (by decide +kernel)) (by decide +kernel), ?_⟩
  refine ⟨sn_icmp_eq (off := 5) (dX_if_icmpeq (by decide +kernel)) (by decide +kernel) (by decide +kernel), ?_⟩
  refine ⟨sn_iconst (dX_iconst_0 (by decide +kernel)) (by decide +kernel), ?_⟩
  refine ⟨sn_zret (Or.inl rfl) (dX_ireturn (by decide +kernel)), ?_⟩
  refine ⟨sn_iconst (dX_iconst_0 (by decide +kernel)) (by decide +kernel), ?_⟩
  refine ⟨sn_istore_n (k := 2) (dX_istore_2 (by decide +kernel)) rfl (by decide) (by decide +kernel), ?_⟩
  refine ⟨sn_iload_n (k := 2) (dX_iload_2 (by decide +kernel)) rfl (by decide +kernel), ?_⟩
  refine ⟨sn_aload_n (k := 0) (dX_aload_0 (by decide +kernel)) rfl (by decide +kernel), ?_⟩
  refine ⟨sn_getf (C := RX12) (T := TX12) (N := 56) (idx := 120) rfl pin12 (by decide) (by decide) rfl (pmt6 143 rfl (by decide +kernel)) rfl (dX_getfield (by decide +kernel)) (by decide +kernel), ?_⟩
  refine ⟨sn_icmp_ge (off := 26) (dX_if_icmpge (by decide +kernel)) (by decide +kernel) (by decide +kernel), ?_⟩
  refine ⟨sn_aload_n (k := 0) (dX_aload_0 (by decide +kernel)) rfl (by decide +kernel), ?_⟩
  refine ⟨sn_getf (C := RX12) (T := TX12) (N := 56) (idx := 25) rfl pin12 (by decide) (by decide) rfl (pmt6 147 rfl (by decide +kernel)) rfl (dX_getfield (by decide +kernel)) (by decide +kernel), ?_⟩
  refine ⟨sn_iload_n (k := 2) (dX_iload_2 (by decide +kernel)) rfl (by decide +kernel), ?_⟩
  refine ⟨sn_aload_n (k := 0) (dX_aload_0 (by decide +kernel)) rfl (by decide +kernel), ?_⟩
  refine ⟨sn_getf (C := RX12) (T := TX12) (N := 56) (idx := 98) rfl pin12 (by decide) (by decide) rfl (pmt6 193 rfl (by decide +kernel)) rfl (dX_getfield (by decide +kernel)) (by decide +kernel), ?_⟩
  refine ⟨sn_bipush (dX_bipush (by decide +kernel)) (by decide +kernel) (by decide +kernel), ?_⟩
  refine ⟨sn_iload_n (k := 1) (dX_iload_1 (by decide +kernel)) rfl (by decide +kernel), ?_⟩
  refine ⟨sn_imul (dX_imul (by decide +kernel)) (by decide +kernel), ?_⟩
  refine ⟨sn_iload_n (k := 2) (dX_iload_2 (by decide +kernel)) rfl (by decide +kernel), ?_⟩
  refine ⟨sn_iadd (dX_iadd (by decide +kernel)) (by decide +kernel), ?_⟩
  refine ⟨sn_iald (dX_iaload (by decide +kernel)) (by decide +kernel), ?_⟩
  refine ⟨sn_iast (dX_iastore (by decide +kernel)) (by decide +kernel), ?_⟩
  refine ⟨sn_iinc (dX_iinc (by decide +kernel)) (by decide) (by decide +kernel), ?_⟩
  refine ⟨sn_goto (off := -28) (dX_goto (by decide +kernel)) (by decide +kernel), ?_⟩
  refine ⟨sn_aload_n (k := 0) (dX_aload_0 (by decide +kernel)) rfl (by decide +kernel), ?_⟩
  refine ⟨sn_aload_n (k := 0) (dX_aload_0 (by decide +kernel)) rfl (by decide +kernel), ?_⟩
  refine ⟨sn_getf (C := RX12) (T := TX12) (N := 56) (idx := 98) rfl pin12 (by decide) (by decide) rfl (pmt6 193 rfl (by decide +kernel)) rfl (dX_getfield (by decide +kernel)) (by decide +kernel), ?_⟩
  refine ⟨sn_bipush (dX_bipush (by decide +kernel)) (by decide +kernel) (by decide +kernel), ?_⟩
  refine ⟨sn_iload_n (k := 1) (dX_iload_1 (by decide +kernel)) rfl (by decide +kernel), ?_⟩
  refine ⟨sn_imul (dX_imul (by decide +kernel)) (by decide +kernel), ?_⟩
  refine ⟨sn_bipush (dX_bipush (by decide +kernel)) (by decide +kernel) (by decide +kernel), ?_⟩
  refine ⟨sn_iadd (dX_iadd (by decide +kernel)) (by decide +kernel), ?_⟩
  refine ⟨sn_iald (dX_iaload (by decide +kernel)) (by decide +kernel), ?_⟩
  refine ⟨sn_puti (C := RX12) (T := TX12) (N := 56) (idx := 291) rfl pin12 (by decide) (by decide) rfl tyX12 tyX12_ok nmX12 rfl rfl (by decide +kernel) (pmt6 150 rfl (by decide +kernel)) rfl (dX_putfield (by decide +kernel)) (by decide +kernel), ?_⟩
  refine ⟨sn_aload_n (k := 0) (dX_aload_0 (by decide +kernel)) rfl (by decide +kernel), ?_⟩
  refine ⟨sn_aload_n (k := 0) (dX_aload_0 (by decide +kernel)) rfl (by decide +kernel), ?_⟩
  refine ⟨sn_getf (C := RX12) (T := TX12) (N := 56) (idx := 98) rfl pin12 (by decide) (by decide) rfl (pmt6 193 rfl (by decide +kernel)) rfl (dX_getfield (by decide +kernel)) (by decide +kernel), ?_⟩
  refine ⟨sn_bipush (dX_bipush (by decide +kernel)) (by decide +kernel) (by decide +kernel), ?_⟩
  refine ⟨sn_iload_n (k := 1) (dX_iload_1 (by decide +kernel)) rfl (by decide +kernel), ?_⟩
  refine ⟨sn_imul (dX_imul (by decide +kernel)) (by decide +kernel), ?_⟩
  refine ⟨sn_bipush (dX_bipush (by decide +kernel)) (by decide +kernel) (by decide +kernel), ?_⟩
  refine ⟨sn_iadd (dX_iadd (by decide +kernel)) (by decide +kernel), ?_⟩
  refine ⟨sn_iconst (dX_iconst_1 (by decide +kernel)) (by decide +kernel), ?_⟩
  refine ⟨sn_iadd (dX_iadd (by decide +kernel)) (by decide +kernel), ?_⟩
  refine ⟨sn_iald (dX_iaload (by decide +kernel)) (by decide +kernel), ?_⟩
  refine ⟨sn_puti (C := RX12) (T := TX12) (N := 56) (idx := 275) rfl pin12 (by decide) (by decide) rfl tyX12 tyX12_ok nmX12 rfl rfl (by decide +kernel) (pmt6 151 rfl (by decide +kernel)) rfl (dX_putfield (by decide +kernel)) (by decide +kernel), ?_⟩
  refine ⟨sn_aload_n (k := 0) (dX_aload_0 (by decide +kernel)) rfl (by decide +kernel), ?_⟩
  refine ⟨sn_iconst (dX_iconst_0 (by decide +kernel)) (by decide +kernel), ?_⟩
  refine ⟨sn_puti (C := RX12) (T := TX12) (N := 56) (idx := 186) rfl pin12 (by decide) (by decide) rfl tyX12 tyX12_ok nmX12 rfl rfl (by decide +kernel) (pmt6 173 rfl (by decide +kernel)) rfl (dX_putfield (by decide +kernel)) (by decide +kernel), ?_⟩
  refine ⟨sn_iconst (dX_iconst_1 (by decide +kernel)) (by decide +kernel), ?_⟩
  refine ⟨sn_zret (Or.inl rfl) (dX_ireturn (by decide +kernel)), ?_⟩
  trivial
