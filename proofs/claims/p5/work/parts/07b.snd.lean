/-! each step is sound (by program) -/
set_option maxRecDepth 100000 in
set_option maxHeartbeats 4000000 in
theorem S_72 : pAll (pSk RX0 cX0_addSet 2 none PC_72) 0 C_72 := by
  refine ⟨sn_aload_n (k := 0) (dX_aload_0 (by decide +kernel)) rfl (by decide +kernel), ?_⟩
  refine ⟨sn_getf (C := RX0) (T := TX0) (N := 13) (idx := 50) rfl pin0 (by decide) (by decide) rfl (pmt1 144 rfl (by decide +kernel)) rfl (dX_getfield (by decide +kernel)) (by decide +kernel), ?_⟩
  refine ⟨sn_if_lt (off := 32) (dX_iflt (by decide +kernel)) (by decide +kernel) (by decide +kernel), ?_⟩
  refine ⟨sn_aload_n (k := 0) (dX_aload_0 (by decide +kernel)) rfl (by decide +kernel), ?_⟩
  refine ⟨sn_getf (C := RX0) (T := TX0) (N := 13) (idx := 50) rfl pin0 (by decide) (by decide) rfl (pmt1 144 rfl (by decide +kernel)) rfl (dX_getfield (by decide +kernel)) (by decide +kernel), ?_⟩
  refine ⟨sn_bipush (dX_bipush (by decide +kernel)) (by decide +kernel) (by decide +kernel), ?_⟩
  refine ⟨sn_icmp_ge (off := 23) (dX_if_icmpge (by decide +kernel)) (by decide +kernel) (by decide +kernel), ?_⟩
  refine ⟨sn_aload_n (k := 0) (dX_aload_0 (by decide +kernel)) rfl (by decide +kernel), ?_⟩
  refine ⟨sn_getf (C := RX0) (T := TX0) (N := 13) (idx := 30) rfl pin0 (by decide) (by decide) rfl (pmt1 125 rfl (by decide +kernel)) rfl (dX_getfield (by decide +kernel)) (by decide +kernel), ?_⟩
  refine ⟨sn_aload_n (k := 0) (dX_aload_0 (by decide +kernel)) rfl (by decide +kernel), ?_⟩
  refine ⟨sn_getf (C := RX0) (T := TX0) (N := 13) (idx := 50) rfl pin0 (by decide) (by decide) rfl (pmt1 144 rfl (by decide +kernel)) rfl (dX_getfield (by decide +kernel)) (by decide +kernel), ?_⟩
  refine ⟨sn_iload_n (k := 1) (dX_iload_1 (by decide +kernel)) rfl (by decide +kernel), ?_⟩
  refine ⟨sn_iast (dX_iastore (by decide +kernel)) (by decide +kernel), ?_⟩
  refine ⟨sn_aload_n (k := 0) (dX_aload_0 (by decide +kernel)) rfl (by decide +kernel), ?_⟩
  refine ⟨sn_dup (dX_dup (by decide +kernel)) (by decide +kernel), ?_⟩
  refine ⟨sn_getf (C := RX0) (T := TX0) (N := 13) (idx := 50) rfl pin0 (by decide) (by decide) rfl (pmt1 144 rfl (by decide +kernel)) rfl (dX_getfield (by decide +kernel)) (by decide +kernel), ?_⟩
  refine ⟨sn_iconst (dX_iconst_1 (by decide +kernel)) (by decide +kernel), ?_⟩
  refine ⟨sn_iadd (dX_iadd (by decide +kernel)) (by decide +kernel), ?_⟩
  refine ⟨sn_puti (C := RX0) (T := TX0) (N := 13) (idx := 50) rfl pin0 (by decide) (by decide) rfl tyX0 tyX0_ok nmX0 rfl rfl (by decide +kernel) (pmt1 144 rfl (by decide +kernel)) rfl (dX_putfield (by decide +kernel)) (by decide +kernel), ?_⟩
  refine ⟨sn_vret rfl (dX_return (by decide +kernel)), ?_⟩
  trivial
set_option maxRecDepth 100000 in
set_option maxHeartbeats 4000000 in
theorem S_73 : pAll (pSk RX0 cX0_makeDoor 4 none PC_73) 0 C_73 := by
  refine ⟨sn_aload_n (k := 0) (dX_aload_0 (by decide +kernel)) rfl (by decide +kernel), ?_⟩
  refine ⟨sn_iload_n (k := 1) (dX_iload_1 (by decide +kernel)) rfl (by decide +kernel), ?_⟩
  refine ⟨sn_iload_n (k := 2) (dX_iload_2 (by decide +kernel)) rfl (by decide +kernel), ?_⟩
  refine ⟨sn_callV (idx := 60) (C := RX0) (T := TX0) (N := 13) rfl (by decide) cal_65 (pmt3 20 rfl (by decide +kernel)) (pmt3 21 rfl (by decide +kernel)) (pmt3 22 rfl (by decide +kernel)) (dX_invokevirtual (by decide +kernel)) (by decide +kernel), ?_⟩
  refine ⟨sn_if_eq (off := 27) (dX_ifeq (by decide +kernel)) (by decide +kernel) (by decide +kernel), ?_⟩
  refine ⟨sn_aload_n (k := 0) (dX_aload_0 (by decide +kernel)) rfl (by decide +kernel), ?_⟩
  refine ⟨sn_getf (C := RX0) (T := TX0) (N := 13) (idx := 15) rfl pin0 (by decide) (by decide) rfl (pmt1 109 rfl (by decide +kernel)) rfl (dX_getfield (by decide +kernel)) (by decide +kernel), ?_⟩
  refine ⟨sn_iload_n (k := 1) (dX_iload_1 (by decide +kernel)) rfl (by decide +kernel), ?_⟩
  refine ⟨sn_bipush (dX_bipush (by decide +kernel)) (by decide +kernel) (by decide +kernel), ?_⟩
  refine ⟨sn_imul (dX_imul (by decide +kernel)) (by decide +kernel), ?_⟩
  refine ⟨sn_iload_n (k := 2) (dX_iload_2 (by decide +kernel)) rfl (by decide +kernel), ?_⟩
  refine ⟨sn_iadd (dX_iadd (by decide +kernel)) (by decide +kernel), ?_⟩
  refine ⟨sn_iload_n (k := 3) (dX_iload_3 (by decide +kernel)) rfl (by decide +kernel), ?_⟩
  refine ⟨sn_iast (dX_iastore (by decide +kernel)) (by decide +kernel), ?_⟩
  refine ⟨sn_aload_n (k := 0) (dX_aload_0 (by decide +kernel)) rfl (by decide +kernel), ?_⟩
  refine ⟨sn_getf (C := RX0) (T := TX0) (N := 13) (idx := 15) rfl pin0 (by decide) (by decide) rfl (pmt1 109 rfl (by decide +kernel)) rfl (dX_getfield (by decide +kernel)) (by decide +kernel), ?_⟩
  refine ⟨sn_iload_n (k := 2) (dX_iload_2 (by decide +kernel)) rfl (by decide +kernel), ?_⟩
  refine ⟨sn_bipush (dX_bipush (by decide +kernel)) (by decide +kernel) (by decide +kernel), ?_⟩
  refine ⟨sn_imul (dX_imul (by decide +kernel)) (by decide +kernel), ?_⟩
  refine ⟨sn_iload_n (k := 1) (dX_iload_1 (by decide +kernel)) rfl (by decide +kernel), ?_⟩
  refine ⟨sn_iadd (dX_iadd (by decide +kernel)) (by decide +kernel), ?_⟩
  refine ⟨sn_iload_n (k := 3) (dX_iload_3 (by decide +kernel)) rfl (by decide +kernel), ?_⟩
  refine ⟨sn_iast (dX_iastore (by decide +kernel)) (by decide +kernel), ?_⟩
  refine ⟨sn_vret rfl (dX_return (by decide +kernel)), ?_⟩
  trivial
set_option maxRecDepth 100000 in
set_option maxHeartbeats 4000000 in
theorem S_74 : pAll (pSk RX0 cX0_doorWidth 3 (some .int) PC_74) 0 C_74 := by
  refine ⟨sn_aload_n (k := 0) (dX_aload_0 (by decide +kernel)) rfl (by decide +kernel), ?_⟩
  refine ⟨sn_iload_n (k := 1) (dX_iload_1 (by decide +kernel)) rfl (by decide +kernel), ?_⟩
  refine ⟨sn_iload_n (k := 2) (dX_iload_2 (by decide +kernel)) rfl (by decide +kernel), ?_⟩
  refine ⟨sn_callV (idx := 60) (C := RX0) (T := TX0) (N := 13) rfl (by decide) cal_65 (pmt3 20 rfl (by decide +kernel)) (pmt3 21 rfl (by decide +kernel)) (pmt3 22 rfl (by decide +kernel)) (dX_invokevirtual (by decide +kernel)) (by decide +kernel), ?_⟩
  refine ⟨sn_if_eq (off := 17) (dX_ifeq (by decide +kernel)) (by decide +kernel) (by decide +kernel), ?_⟩
  refine ⟨sn_aload_n (k := 0) (dX_aload_0 (by decide +kernel)) rfl (by decide +kernel), ?_⟩
  refine ⟨sn_getf (C := RX0) (T := TX0) (N := 13) (idx := 15) rfl pin0 (by decide) (by decide) rfl (pmt1 109 rfl (by decide +kernel)) rfl (dX_getfield (by decide +kernel)) (by decide +kernel), ?_⟩
  refine ⟨sn_iload_n (k := 1) (dX_iload_1 (by decide +kernel)) rfl (by decide +kernel), ?_⟩
  refine ⟨sn_bipush (dX_bipush (by decide +kernel)) (by decide +kernel) (by decide +kernel), ?_⟩
  refine ⟨sn_imul (dX_imul (by decide +kernel)) (by decide +kernel), ?_⟩
  refine ⟨sn_iload_n (k := 2) (dX_iload_2 (by decide +kernel)) rfl (by decide +kernel), ?_⟩
  refine ⟨sn_iadd (dX_iadd (by decide +kernel)) (by decide +kernel), ?_⟩
  refine ⟨sn_iald (dX_iaload (by decide +kernel)) (by decide +kernel), ?_⟩
  refine ⟨sn_goto (off := 4) (dX_goto (by decide +kernel)) (by decide +kernel), ?_⟩
  refine ⟨sn_iconst (dX_iconst_0 (by decide +kernel)) (by decide +kernel), ?_⟩
  refine ⟨sn_iret rfl (dX_ireturn (by decide +kernel)), ?_⟩
  trivial
set_option maxRecDepth 100000 in
set_option maxHeartbeats 4000000 in
theorem S_75 : pAll (pSk RX0 cX0_doors 3 (some .int) PC_75) 0 C_75 := by
  refine ⟨sn_iconst (dX_iconst_0 (by decide +kernel)) (by decide +kernel), ?_⟩
  refine ⟨sn_istore_n (k := 1) (dX_istore_1 (by decide +kernel)) rfl (by decide) (by decide +kernel), ?_⟩
  refine ⟨sn_iconst (dX_iconst_0 (by decide +kernel)) (by decide +kernel), ?_⟩
  refine ⟨sn_istore_n (k := 2) (dX_istore_2 (by decide +kernel)) rfl (by decide) (by decide +kernel), ?_⟩
  refine ⟨sn_iload_n (k := 2) (dX_iload_2 (by decide +kernel)) rfl (by decide +kernel), ?_⟩
  refine ⟨sn_aload_n (k := 0) (dX_aload_0 (by decide +kernel)) rfl (by decide +kernel), ?_⟩
  refine ⟨sn_getf (C := RX0) (T := TX0) (N := 13) (idx := 43) rfl pin0 (by decide) (by decide) rfl (pmt1 135 rfl (by decide +kernel)) rfl (dX_getfield (by decide +kernel)) (by decide +kernel), ?_⟩
  refine ⟨sn_icmp_ge (off := 21) (dX_if_icmpge (by decide +kernel)) (by decide +kernel) (by decide +kernel), ?_⟩
  refine ⟨sn_iload_n (k := 1) (dX_iload_1 (by decide +kernel)) rfl (by decide +kernel), ?_⟩
  refine ⟨sn_aload_n (k := 0) (dX_aload_0 (by decide +kernel)) rfl (by decide +kernel), ?_⟩
  refine ⟨sn_iload_n (k := 2) (dX_iload_2 (by decide +kernel)) rfl (by decide +kernel), ?_⟩
  refine ⟨sn_iconst (dX_iconst_1 (by decide +kernel)) (by decide +kernel), ?_⟩
  refine ⟨sn_callV (idx := 64) (C := RX0) (T := TX0) (N := 13) rfl (by decide) cal_77 (pmt6 39 rfl (by decide +kernel)) (pmt5 2 rfl (by decide +kernel)) (pmt5 3 rfl (by decide +kernel)) (dX_invokevirtual (by decide +kernel)) (by decide +kernel), ?_⟩
  refine ⟨sn_callS (idx := 68) cal_270 (pmt5 94 rfl (by decide +kernel)) (pmt4 236 rfl (by decide +kernel)) (dX_invokestatic (by decide +kernel)) (by decide +kernel), ?_⟩
  refine ⟨sn_iadd (dX_iadd (by decide +kernel)) (by decide +kernel), ?_⟩
  refine ⟨sn_istore_n (k := 1) (dX_istore_1 (by decide +kernel)) rfl (by decide) (by decide +kernel), ?_⟩
  refine ⟨sn_iinc (dX_iinc (by decide +kernel)) (by decide) (by decide +kernel), ?_⟩
  refine ⟨sn_goto (off := -23) (dX_goto (by decide +kernel)) (by decide +kernel), ?_⟩
  refine ⟨sn_iload_n (k := 1) (dX_iload_1 (by decide +kernel)) rfl (by decide +kernel), ?_⟩
  refine ⟨sn_iconst (dX_iconst_2 (by decide +kernel)) (by decide +kernel), ?_⟩
  refine ⟨sn_idiv (dX_idiv (by decide +kernel)) (by decide +kernel), ?_⟩
  refine ⟨sn_iret rfl (dX_ireturn (by decide +kernel)), ?_⟩
  trivial
set_option maxRecDepth 100000 in
set_option maxHeartbeats 4000000 in
theorem S_76 : pAll (pSk RX0 cX0_weigh 9 (some .int) PC_76) 0 C_76 := by
  refine ⟨sn_iconst (dX_iconst_0 (by decide +kernel)) (by decide +kernel), ?_⟩
  refine ⟨sn_istore (dX_istore (by decide +kernel)) (by decide) (by decide +kernel), ?_⟩
  refine ⟨sn_iconst (dX_iconst_0 (by decide +kernel)) (by decide +kernel), ?_⟩
  refine ⟨sn_istore (dX_istore (by decide +kernel)) (by decide) (by decide +kernel), ?_⟩
  refine ⟨sn_iload (dX_iload (by decide +kernel)) (by decide +kernel), ?_⟩
  refine ⟨sn_aload_n (k := 0) (dX_aload_0 (by decide +kernel)) rfl (by decide +kernel), ?_⟩
  refine ⟨sn_getf (C := RX0) (T := TX0) (N := 13) (idx := 47) rfl pin0 (by decide) (by decide) rfl (pmt1 139 rfl (by decide +kernel)) rfl (dX_getfield (by decide +kernel)) (by decide +kernel), ?_⟩
  refine ⟨sn_icmp_ge (off := 83) (dX_if_icmpge (by decide +kernel)) (by decide +kernel) (by decide +kernel), ?_⟩
  refine ⟨sn_iload (dX_iload (by decide +kernel)) (by decide +kernel), ?_⟩
  refine ⟨sn_iload_n (k := 2) (dX_iload_2 (by decide +kernel)) rfl (by decide +kernel), ?_⟩
  refine ⟨sn_icmp_ge (off := 13) (dX_if_icmpge (by decide +kernel)) (by decide +kernel) (by decide +kernel), ?_⟩
  refine ⟨sn_iload_n (k := 3) (dX_iload_3 (by decide +kernel)) rfl (by decide +kernel), ?_⟩
  refine ⟨sn_iload (dX_iload (by decide +kernel)) (by decide +kernel), ?_⟩
  refine ⟨sn_iload (dX_iload (by decide +kernel)) (by decide +kernel), ?_⟩
  refine ⟨sn_imul (dX_imul (by decide +kernel)) (by decide +kernel), ?_⟩
  refine ⟨sn_iadd (dX_iadd (by decide +kernel)) (by decide +kernel), ?_⟩
  refine ⟨sn_goto (off := 4) (dX_goto (by decide +kernel)) (by decide +kernel), ?_⟩
  refine ⟨sn_iconst (dX_iconst_1 (by decide +kernel)) (by decide +kernel), ?_⟩
  refine ⟨sn_istore (dX_istore (by decide +kernel)) (by decide) (by decide +kernel), ?_⟩
  refine ⟨sn_iload_n (k := 1) (dX_iload_1 (by decide +kernel)) rfl (by decide +kernel), ?_⟩
  refine ⟨sn_if_ne (off := 9) (dX_ifne (by decide +kernel)) (by decide +kernel) (by decide +kernel), ?_⟩
  refine ⟨sn_iload (dX_iload (by decide +kernel)) (by decide +kernel), ?_⟩
  refine ⟨sn_i2b (dX_i2b (by decide +kernel)) (by decide +kernel), ?_⟩
  refine ⟨sn_goto (off := 16) (dX_goto (by decide +kernel)) (by decide +kernel), ?_⟩
  refine ⟨sn_iload_n (k := 1) (dX_iload_1 (by decide +kernel)) rfl (by decide +kernel), ?_⟩
  refine ⟨sn_iconst (dX_iconst_1 (by decide +kernel)) (by decide +kernel), ?_⟩
  refine ⟨sn_icmp_ne (off := 9) (dX_if_icmpne (by decide +kernel)) (by decide +kernel) (by decide +kernel), ?_⟩
  refine ⟨sn_iload (dX_iload (by decide +kernel)) (by decide +kernel), ?_⟩
  refine ⟨sn_i2s (dX_i2s (by decide +kernel)) (by decide +kernel), ?_⟩
  refine ⟨sn_goto (off := 5) (dX_goto (by decide +kernel)) (by decide +kernel), ?_⟩
  refine ⟨sn_iload (dX_iload (by decide +kernel)) (by decide +kernel), ?_⟩
  refine ⟨sn_istore (dX_istore (by decide +kernel)) (by decide) (by decide +kernel), ?_⟩
  refine ⟨sn_aload_n (k := 0) (dX_aload_0 (by decide +kernel)) rfl (by decide +kernel), ?_⟩
  refine ⟨sn_getf (C := RX0) (T := TX0) (N := 13) (idx := 24) rfl pin0 (by decide) (by decide) rfl (pmt1 116 rfl (by decide +kernel)) rfl (dX_getfield (by decide +kernel)) (by decide +kernel), ?_⟩
  refine ⟨sn_iload (dX_iload (by decide +kernel)) (by decide +kernel), ?_⟩
  refine ⟨sn_iconst (dX_iconst_1 (by decide +kernel)) (by decide +kernel), ?_⟩
  refine ⟨sn_bipush (dX_bipush (by decide +kernel)) (by decide +kernel) (by decide +kernel), ?_⟩
  refine ⟨sn_iload (dX_iload (by decide +kernel)) (by decide +kernel), ?_⟩
  refine ⟨sn_mmin (idx := 74) (pmt4 9 rfl (by decide +kernel)) (pmt2 211 rfl (by decide +kernel)) (pmt1 14 rfl (by decide +kernel)) (pmt2 212 rfl (by decide +kernel)) (dX_invokestatic (by decide +kernel)) (by decide +kernel), ?_⟩
  refine ⟨sn_mmax (idx := 79) (pmt4 10 rfl (by decide +kernel)) (pmt3 154 rfl (by decide +kernel)) (pmt1 14 rfl (by decide +kernel)) (pmt3 155 rfl (by decide +kernel)) (dX_invokestatic (by decide +kernel)) (by decide +kernel), ?_⟩
  refine ⟨sn_iast (dX_iastore (by decide +kernel)) (by decide +kernel), ?_⟩
  refine ⟨sn_iload (dX_iload (by decide +kernel)) (by decide +kernel), ?_⟩
  refine ⟨sn_aload_n (k := 0) (dX_aload_0 (by decide +kernel)) rfl (by decide +kernel), ?_⟩
  refine ⟨sn_getf (C := RX0) (T := TX0) (N := 13) (idx := 24) rfl pin0 (by decide) (by decide) rfl (pmt1 116 rfl (by decide +kernel)) rfl (dX_getfield (by decide +kernel)) (by decide +kernel), ?_⟩
  refine ⟨sn_iload (dX_iload (by decide +kernel)) (by decide +kernel), ?_⟩
  refine ⟨sn_iald (dX_iaload (by decide +kernel)) (by decide +kernel), ?_⟩
  refine ⟨sn_iadd (dX_iadd (by decide +kernel)) (by decide +kernel), ?_⟩
  refine ⟨sn_istore (dX_istore (by decide +kernel)) (by decide) (by decide +kernel), ?_⟩
  refine ⟨sn_iinc (dX_iinc (by decide +kernel)) (by decide) (by decide +kernel), ?_⟩
  refine ⟨sn_goto (off := -86) (dX_goto (by decide +kernel)) (by decide +kernel), ?_⟩
  refine ⟨sn_iload (dX_iload (by decide +kernel)) (by decide +kernel), ?_⟩
  refine ⟨sn_iret rfl (dX_ireturn (by decide +kernel)), ?_⟩
  trivial
set_option maxRecDepth 100000 in
set_option maxHeartbeats 4000000 in
theorem S_77 : pAll (pSk RX0 cX0_nextTo 5 (some .int) PC_77) 0 C_77 := by
  refine ⟨sn_iconst (dX_iconst_0 (by decide +kernel)) (by decide +kernel), ?_⟩
  refine ⟨sn_istore_n (k := 3) (dX_istore_3 (by decide +kernel)) rfl (by decide) (by decide +kernel), ?_⟩
  refine ⟨sn_iconst (dX_iconst_0 (by decide +kernel)) (by decide +kernel), ?_⟩
  refine ⟨sn_istore (dX_istore (by decide +kernel)) (by decide) (by decide +kernel), ?_⟩
  refine ⟨sn_iload (dX_iload (by decide +kernel)) (by decide +kernel), ?_⟩
  refine ⟨sn_aload_n (k := 0) (dX_aload_0 (by decide +kernel)) rfl (by decide +kernel), ?_⟩
  refine ⟨sn_getf (C := RX0) (T := TX0) (N := 13) (idx := 43) rfl pin0 (by decide) (by decide) rfl (pmt1 135 rfl (by decide +kernel)) rfl (dX_getfield (by decide +kernel)) (by decide +kernel), ?_⟩
  refine ⟨sn_icmp_ge (off := 27) (dX_if_icmpge (by decide +kernel)) (by decide +kernel) (by decide +kernel), ?_⟩
  refine ⟨sn_aload_n (k := 0) (dX_aload_0 (by decide +kernel)) rfl (by decide +kernel), ?_⟩
  refine ⟨sn_iload_n (k := 1) (dX_iload_1 (by decide +kernel)) rfl (by decide +kernel), ?_⟩
  refine ⟨sn_iload (dX_iload (by decide +kernel)) (by decide +kernel), ?_⟩
  refine ⟨sn_callV (idx := 82) (C := RX0) (T := TX0) (N := 13) rfl (by decide) cal_74 (pmt5 5 rfl (by decide +kernel)) (pmt3 229 rfl (by decide +kernel)) (pmt3 230 rfl (by decide +kernel)) (dX_invokevirtual (by decide +kernel)) (by decide +kernel), ?_⟩
  refine ⟨sn_iload_n (k := 2) (dX_iload_2 (by decide +kernel)) rfl (by decide +kernel), ?_⟩
  refine ⟨sn_icmp_lt (off := 10) (dX_if_icmplt (by decide +kernel)) (by decide +kernel) (by decide +kernel), ?_⟩
  refine ⟨sn_iload_n (k := 3) (dX_iload_3 (by decide +kernel)) rfl (by decide +kernel), ?_⟩
  refine ⟨sn_iconst (dX_iconst_1 (by decide +kernel)) (by decide +kernel), ?_⟩
  refine ⟨sn_iload (dX_iload (by decide +kernel)) (by decide +kernel), ?_⟩
  refine ⟨sn_ishl (dX_ishl (by decide +kernel)) (by decide +kernel), ?_⟩
  refine ⟨sn_ior (dX_ior (by decide +kernel)) (by decide +kernel), ?_⟩
  refine ⟨sn_istore_n (k := 3) (dX_istore_3 (by decide +kernel)) rfl (by decide) (by decide +kernel), ?_⟩
  refine ⟨sn_iinc (dX_iinc (by decide +kernel)) (by decide) (by decide +kernel), ?_⟩
  refine ⟨sn_goto (off := -30) (dX_goto (by decide +kernel)) (by decide +kernel), ?_⟩
  refine ⟨sn_iload_n (k := 3) (dX_iload_3 (by decide +kernel)) rfl (by decide +kernel), ?_⟩
  refine ⟨sn_iret rfl (dX_ireturn (by decide +kernel)), ?_⟩
  trivial
set_option maxRecDepth 100000 in
set_option maxHeartbeats 4000000 in
theorem S_78 : pAll (pSk RX0 cX0_oneStepFrom 5 (some .int) PC_78) 0 C_78 := by
  refine ⟨sn_iload_n (k := 1) (dX_iload_1 (by decide +kernel)) rfl (by decide +kernel), ?_⟩
  refine ⟨sn_istore_n (k := 3) (dX_istore_3 (by decide +kernel)) rfl (by decide) (by decide +kernel), ?_⟩
  refine ⟨sn_iconst (dX_iconst_0 (by decide +kernel)) (by decide +kernel), ?_⟩
  refine ⟨sn_istore (dX_istore (by decide +kernel)) (by decide) (by decide +kernel), ?_⟩
  refine ⟨sn_iload (dX_iload (by decide +kernel)) (by decide +kernel), ?_⟩
  refine ⟨sn_aload_n (k := 0) (dX_aload_0 (by decide +kernel)) rfl (by decide +kernel), ?_⟩
  refine ⟨sn_getf (C := RX0) (T := TX0) (N := 13) (idx := 15) rfl pin0 (by decide) (by decide) rfl (pmt1 109 rfl (by decide +kernel)) rfl (dX_getfield (by decide +kernel)) (by decide +kernel), ?_⟩
  refine ⟨sn_alen (dX_arraylength (by decide +kernel)) (by decide +kernel), ?_⟩
  refine ⟨sn_icmp_ge (off := 42) (dX_if_icmpge (by decide +kernel)) (by decide +kernel) (by decide +kernel), ?_⟩
  refine ⟨sn_iload_n (k := 1) (dX_iload_1 (by decide +kernel)) rfl (by decide +kernel), ?_⟩
  refine ⟨sn_iload (dX_iload (by decide +kernel)) (by decide +kernel), ?_⟩
  refine ⟨sn_bipush (dX_bipush (by decide +kernel)) (by decide +kernel) (by decide +kernel), ?_⟩
  refine ⟨sn_idiv (dX_idiv (by decide +kernel)) (by decide +kernel), ?_⟩
  refine ⟨sn_callSN (idx := 85) (host := "SetsStayTogether") cal_49 (pnest_of 85) (pmt3 66 rfl (by decide +kernel)) (dX_invokestatic (by decide +kernel)) (by decide +kernel), ?_⟩
  refine ⟨sn_if_eq (off := 24) (dX_ifeq (by decide +kernel)) (by decide +kernel) (by decide +kernel), ?_⟩
  refine ⟨sn_aload_n (k := 0) (dX_aload_0 (by decide +kernel)) rfl (by decide +kernel), ?_⟩
  refine ⟨sn_getf (C := RX0) (T := TX0) (N := 13) (idx := 15) rfl pin0 (by decide) (by decide) rfl (pmt1 109 rfl (by decide +kernel)) rfl (dX_getfield (by decide +kernel)) (by decide +kernel), ?_⟩
  refine ⟨sn_iload (dX_iload (by decide +kernel)) (by decide +kernel), ?_⟩
  refine ⟨sn_iald (dX_iaload (by decide +kernel)) (by decide +kernel), ?_⟩
  refine ⟨sn_iload_n (k := 2) (dX_iload_2 (by decide +kernel)) rfl (by decide +kernel), ?_⟩
  refine ⟨sn_icmp_lt (off := 13) (dX_if_icmplt (by decide +kernel)) (by decide +kernel) (by decide +kernel), ?_⟩
  refine ⟨sn_iload_n (k := 3) (dX_iload_3 (by decide +kernel)) rfl (by decide +kernel), ?_⟩
  refine ⟨sn_iconst (dX_iconst_1 (by decide +kernel)) (by decide +kernel), ?_⟩
  refine ⟨sn_iload (dX_iload (by decide +kernel)) (by decide +kernel), ?_⟩
  refine ⟨sn_bipush (dX_bipush (by decide +kernel)) (by decide +kernel) (by decide +kernel), ?_⟩
  refine ⟨sn_irem (dX_irem (by decide +kernel)) (by decide +kernel), ?_⟩
  refine ⟨sn_ishl (dX_ishl (by decide +kernel)) (by decide +kernel), ?_⟩
  refine ⟨sn_ior (dX_ior (by decide +kernel)) (by decide +kernel), ?_⟩
  refine ⟨sn_istore_n (k := 3) (dX_istore_3 (by decide +kernel)) rfl (by decide) (by decide +kernel), ?_⟩
  refine ⟨sn_iinc (dX_iinc (by decide +kernel)) (by decide) (by decide +kernel), ?_⟩
  refine ⟨sn_goto (off := -46) (dX_goto (by decide +kernel)) (by decide +kernel), ?_⟩
  refine ⟨sn_iload_n (k := 3) (dX_iload_3 (by decide +kernel)) rfl (by decide +kernel), ?_⟩
  refine ⟨sn_iret rfl (dX_ireturn (by decide +kernel)), ?_⟩
  trivial
set_option maxRecDepth 100000 in
set_option maxHeartbeats 4000000 in
theorem S_79 : pAll (pSk RX0 cX0_roomsFrom 5 (some .int) PC_79) 0 C_79 := by
  refine ⟨sn_aload_n (k := 0) (dX_aload_0 (by decide +kernel)) rfl (by decide +kernel), ?_⟩
  refine ⟨sn_iload_n (k := 2) (dX_iload_2 (by decide +kernel)) rfl (by decide +kernel), ?_⟩
  refine ⟨sn_callV (idx := 56) (C := RX0) (T := TX0) (N := 13) rfl (by decide) cal_63 (pmt3 24 rfl (by decide +kernel)) (pmt3 25 rfl (by decide +kernel)) (pmt3 26 rfl (by decide +kernel)) (dX_invokevirtual (by decide +kernel)) (by decide +kernel), ?_⟩
  refine ⟨sn_if_eq (off := 9) (dX_ifeq (by decide +kernel)) (by decide +kernel) (by decide +kernel), ?_⟩
  refine ⟨sn_iconst (dX_iconst_1 (by decide +kernel)) (by decide +kernel), ?_⟩
  refine ⟨sn_iload_n (k := 2) (dX_iload_2 (by decide +kernel)) rfl (by decide +kernel), ?_⟩
  refine ⟨sn_ishl (dX_ishl (by decide +kernel)) (by decide +kernel), ?_⟩
  refine ⟨sn_goto (off := 4) (dX_goto (by decide +kernel)) (by decide +kernel), ?_⟩
  refine ⟨sn_iconst (dX_iconst_0 (by decide +kernel)) (by decide +kernel), ?_⟩
  refine ⟨sn_istore_n (k := 3) (dX_istore_3 (by decide +kernel)) rfl (by decide) (by decide +kernel), ?_⟩
  refine ⟨sn_iconst (dX_iconst_1 (by decide +kernel)) (by decide +kernel), ?_⟩
  refine ⟨sn_istore (dX_istore (by decide +kernel)) (by decide) (by decide +kernel), ?_⟩
  refine ⟨sn_iload (dX_iload (by decide +kernel)) (by decide +kernel), ?_⟩
  refine ⟨sn_aload_n (k := 0) (dX_aload_0 (by decide +kernel)) rfl (by decide +kernel), ?_⟩
  refine ⟨sn_getf (C := RX0) (T := TX0) (N := 13) (idx := 43) rfl pin0 (by decide) (by decide) rfl (pmt1 135 rfl (by decide +kernel)) rfl (dX_getfield (by decide +kernel)) (by decide +kernel), ?_⟩
  refine ⟨sn_icmp_ge (off := 16) (dX_if_icmpge (by decide +kernel)) (by decide +kernel) (by decide +kernel), ?_⟩
  refine ⟨sn_aload_n (k := 0) (dX_aload_0 (by decide +kernel)) rfl (by decide +kernel), ?_⟩
  refine ⟨sn_iload_n (k := 3) (dX_iload_3 (by decide +kernel)) rfl (by decide +kernel), ?_⟩
  refine ⟨sn_iload_n (k := 1) (dX_iload_1 (by decide +kernel)) rfl (by decide +kernel), ?_⟩
  refine ⟨sn_callV (idx := 88) (C := RX0) (T := TX0) (N := 13) rfl (by decide) cal_78 (pmt4 36 rfl (by decide +kernel)) (pmt4 38 rfl (by decide +kernel)) (pms 15 rfl rfl) (dX_invokevirtual (by decide +kernel)) (by decide +kernel), ?_⟩
  refine ⟨sn_istore_n (k := 3) (dX_istore_3 (by decide +kernel)) rfl (by decide) (by decide +kernel), ?_⟩
  refine ⟨sn_iinc (dX_iinc (by decide +kernel)) (by decide) (by decide +kernel), ?_⟩
  refine ⟨sn_goto (off := -19) (dX_goto (by decide +kernel)) (by decide +kernel), ?_⟩
  refine ⟨sn_iload_n (k := 3) (dX_iload_3 (by decide +kernel)) rfl (by decide +kernel), ?_⟩
  refine ⟨sn_iret rfl (dX_ireturn (by decide +kernel)), ?_⟩
  trivial
set_option maxRecDepth 100000 in
set_option maxHeartbeats 4000000 in
theorem S_80 : pAll (pSk RX0 cX0_steps 6 (some .int) PC_80) 0 C_80 := by
  refine ⟨sn_aload_n (k := 0) (dX_aload_0 (by decide +kernel)) rfl (by decide +kernel), ?_⟩
  refine ⟨sn_iload_n (k := 2) (dX_iload_2 (by decide +kernel)) rfl (by decide +kernel), ?_⟩
  refine ⟨sn_callV (idx := 56) (C := RX0) (T := TX0) (N := 13) rfl (by decide) cal_63 (pmt3 24 rfl (by decide +kernel)) (pmt3 25 rfl (by decide +kernel)) (pmt3 26 rfl (by decide +kernel)) (dX_invokevirtual (by decide +kernel)) (by decide +kernel), ?_⟩
  refine ⟨sn_if_eq (off := 11) (dX_ifeq (by decide +kernel)) (by decide +kernel) (by decide +kernel), ?_⟩
  refine ⟨sn_aload_n (k := 0) (dX_aload_0 (by decide +kernel)) rfl (by decide +kernel), ?_⟩
  refine ⟨sn_iload_n (k := 3) (dX_iload_3 (by decide +kernel)) rfl (by decide +kernel), ?_⟩
  refine ⟨sn_callV (idx := 56) (C := RX0) (T := TX0) (N := 13) rfl (by decide) cal_63 (pmt3 24 rfl (by decide +kernel)) (pmt3 25 rfl (by decide +kernel)) (pmt3 26 rfl (by decide +kernel)) (dX_invokevirtual (by decide +kernel)) (by decide +kernel), ?_⟩
  refine ⟨sn_if_ne (off := 5) (dX_ifne (by decide +kernel)) (by decide +kernel) (by decide +kernel), ?_⟩
  refine ⟨sn_iconst (dX_iconst_m1 (by decide +kernel)) (by decide +kernel), ?_⟩
  refine ⟨sn_iret rfl (dX_ireturn (by decide +kernel)), ?_⟩
  refine ⟨sn_iconst (dX_iconst_1 (by decide +kernel)) (by decide +kernel), ?_⟩
  refine ⟨sn_iload_n (k := 2) (dX_iload_2 (by decide +kernel)) rfl (by decide +kernel), ?_⟩
  refine ⟨sn_ishl (dX_ishl (by decide +kernel)) (by decide +kernel), ?_⟩
  refine ⟨sn_istore (dX_istore (by decide +kernel)) (by decide) (by decide +kernel), ?_⟩
  refine ⟨sn_iconst (dX_iconst_0 (by decide +kernel)) (by decide +kernel), ?_⟩
  refine ⟨sn_istore (dX_istore (by decide +kernel)) (by decide) (by decide +kernel), ?_⟩
  refine ⟨sn_iload (dX_iload (by decide +kernel)) (by decide +kernel), ?_⟩
  refine ⟨sn_aload_n (k := 0) (dX_aload_0 (by decide +kernel)) rfl (by decide +kernel), ?_⟩
  refine ⟨sn_getf (C := RX0) (T := TX0) (N := 13) (idx := 43) rfl pin0 (by decide) (by decide) rfl (pmt1 135 rfl (by decide +kernel)) rfl (dX_getfield (by decide +kernel)) (by decide +kernel), ?_⟩
  refine ⟨sn_icmp_ge (off := 30) (dX_if_icmpge (by decide +kernel)) (by decide +kernel) (by decide +kernel), ?_⟩
  refine ⟨sn_iload (dX_iload (by decide +kernel)) (by decide +kernel), ?_⟩
  refine ⟨sn_iload_n (k := 3) (dX_iload_3 (by decide +kernel)) rfl (by decide +kernel), ?_⟩
  refine ⟨sn_callSN (idx := 85) (host := "SetsStayTogether") cal_49 (pnest_of 85) (pmt3 66 rfl (by decide +kernel)) (dX_invokestatic (by decide +kernel)) (by decide +kernel), ?_⟩
  refine ⟨sn_if_eq (off := 6) (dX_ifeq (by decide +kernel)) (by decide +kernel) (by decide +kernel), ?_⟩
  refine ⟨sn_iload (dX_iload (by decide +kernel)) (by decide +kernel), ?_⟩
  refine ⟨sn_iret rfl (dX_ireturn (by decide +kernel)), ?_⟩
  refine ⟨sn_aload_n (k := 0) (dX_aload_0 (by decide +kernel)) rfl (by decide +kernel), ?_⟩
  refine ⟨sn_iload (dX_iload (by decide +kernel)) (by decide +kernel), ?_⟩
  refine ⟨sn_iload_n (k := 1) (dX_iload_1 (by decide +kernel)) rfl (by decide +kernel), ?_⟩
  refine ⟨sn_callV (idx := 88) (C := RX0) (T := TX0) (N := 13) rfl (by decide) cal_78 (pmt4 36 rfl (by decide +kernel)) (pmt4 38 rfl (by decide +kernel)) (pms 15 rfl rfl) (dX_invokevirtual (by decide +kernel)) (by decide +kernel), ?_⟩
  refine ⟨sn_istore (dX_istore (by decide +kernel)) (by decide) (by decide +kernel), ?_⟩
  refine ⟨sn_iinc (dX_iinc (by decide +kernel)) (by decide) (by decide +kernel), ?_⟩
  refine ⟨sn_goto (off := -33) (dX_goto (by decide +kernel)) (by decide +kernel), ?_⟩
  refine ⟨sn_iconst (dX_iconst_m1 (by decide +kernel)) (by decide +kernel), ?_⟩
  refine ⟨sn_iret rfl (dX_ireturn (by decide +kernel)), ?_⟩
  trivial
set_option maxRecDepth 100000 in
set_option maxHeartbeats 4000000 in
theorem S_81 : pAll (pSk RX0 cX0_firstNearer 6 (some .int) PC_81) 0 C_81 := by
  refine ⟨sn_iconst (dX_iconst_0 (by decide +kernel)) (by decide +kernel), ?_⟩
  refine ⟨sn_istore (dX_istore (by decide +kernel)) (by decide) (by decide +kernel), ?_⟩
  refine ⟨sn_iload (dX_iload (by decide +kernel)) (by decide +kernel), ?_⟩
  refine ⟨sn_aload_n (k := 0) (dX_aload_0 (by decide +kernel)) rfl (by decide +kernel), ?_⟩
  refine ⟨sn_getf (C := RX0) (T := TX0) (N := 13) (idx := 43) rfl pin0 (by decide) (by decide) rfl (pmt1 135 rfl (by decide +kernel)) rfl (dX_getfield (by decide +kernel)) (by decide +kernel), ?_⟩
  refine ⟨sn_icmp_ge (off := 36) (dX_if_icmpge (by decide +kernel)) (by decide +kernel) (by decide +kernel), ?_⟩
  refine ⟨sn_aload_n (k := 0) (dX_aload_0 (by decide +kernel)) rfl (by decide +kernel), ?_⟩
  refine ⟨sn_iload_n (k := 2) (dX_iload_2 (by decide +kernel)) rfl (by decide +kernel), ?_⟩
  refine ⟨sn_iload (dX_iload (by decide +kernel)) (by decide +kernel), ?_⟩
  refine ⟨sn_callV (idx := 82) (C := RX0) (T := TX0) (N := 13) rfl (by decide) cal_74 (pmt5 5 rfl (by decide +kernel)) (pmt3 229 rfl (by decide +kernel)) (pmt3 230 rfl (by decide +kernel)) (dX_invokevirtual (by decide +kernel)) (by decide +kernel), ?_⟩
  refine ⟨sn_iload_n (k := 1) (dX_iload_1 (by decide +kernel)) rfl (by decide +kernel), ?_⟩
  refine ⟨sn_icmp_lt (off := 19) (dX_if_icmplt (by decide +kernel)) (by decide +kernel) (by decide +kernel), ?_⟩
  refine ⟨sn_aload_n (k := 0) (dX_aload_0 (by decide +kernel)) rfl (by decide +kernel), ?_⟩
  refine ⟨sn_iload_n (k := 1) (dX_iload_1 (by decide +kernel)) rfl (by decide +kernel), ?_⟩
  refine ⟨sn_iload (dX_iload (by decide +kernel)) (by decide +kernel), ?_⟩
  refine ⟨sn_iload_n (k := 3) (dX_iload_3 (by decide +kernel)) rfl (by decide +kernel), ?_⟩
  refine ⟨sn_callV (idx := 91) (C := RX0) (T := TX0) (N := 13) rfl (by decide) cal_80 (pmt4 32 rfl (by decide +kernel)) (pmt4 33 rfl (by decide +kernel)) (pmt4 34 rfl (by decide +kernel)) (dX_invokevirtual (by decide +kernel)) (by decide +kernel), ?_⟩
  refine ⟨sn_iload (dX_iload (by decide +kernel)) (by decide +kernel), ?_⟩
  refine ⟨sn_icmp_ne (off := 6) (dX_if_icmpne (by decide +kernel)) (by decide +kernel) (by decide +kernel), ?_⟩
  refine ⟨sn_iload (dX_iload (by decide +kernel)) (by decide +kernel), ?_⟩
  refine ⟨sn_iret rfl (dX_ireturn (by decide +kernel)), ?_⟩
  refine ⟨sn_iinc (dX_iinc (by decide +kernel)) (by decide) (by decide +kernel), ?_⟩
  refine ⟨sn_goto (off := -39) (dX_goto (by decide +kernel)) (by decide +kernel), ?_⟩
  refine ⟨sn_iconst (dX_iconst_m1 (by decide +kernel)) (by decide +kernel), ?_⟩
  refine ⟨sn_iret rfl (dX_ireturn (by decide +kernel)), ?_⟩
  trivial
set_option maxRecDepth 100000 in
set_option maxHeartbeats 4000000 in
theorem S_82 : pAll (pSk RX0 cX0_cost 5 (some .int) PC_82) 0 C_82 := by
  refine ⟨sn_aload_n (k := 0) (dX_aload_0 (by decide +kernel)) rfl (by decide +kernel), ?_⟩
  refine ⟨sn_iload_n (k := 1) (dX_iload_1 (by decide +kernel)) rfl (by decide +kernel), ?_⟩
  refine ⟨sn_callV (idx := 95) (C := RX0) (T := TX0) (N := 13) rfl (by decide) cal_64 (pmt4 31 rfl (by decide +kernel)) (pmt4 20 rfl (by decide +kernel)) (pmt4 21 rfl (by decide +kernel)) (dX_invokevirtual (by decide +kernel)) (by decide +kernel), ?_⟩
  refine ⟨sn_if_ne (off := 5) (dX_ifne (by decide +kernel)) (by decide +kernel) (by decide +kernel), ?_⟩
  refine ⟨sn_iconst (dX_iconst_m1 (by decide +kernel)) (by decide +kernel), ?_⟩
  refine ⟨sn_iret rfl (dX_ireturn (by decide +kernel)), ?_⟩
  refine ⟨sn_aload_n (k := 0) (dX_aload_0 (by decide +kernel)) rfl (by decide +kernel), ?_⟩
  refine ⟨sn_aload_n (k := 0) (dX_aload_0 (by decide +kernel)) rfl (by decide +kernel), ?_⟩
  refine ⟨sn_getf (C := RX0) (T := TX0) (N := 13) (idx := 21) rfl pin0 (by decide) (by decide) rfl (pmt1 113 rfl (by decide +kernel)) rfl (dX_getfield (by decide +kernel)) (by decide +kernel), ?_⟩
  refine ⟨sn_iload_n (k := 1) (dX_iload_1 (by decide +kernel)) rfl (by decide +kernel), ?_⟩
  refine ⟨sn_iald (dX_iaload (by decide +kernel)) (by decide +kernel), ?_⟩
  refine ⟨sn_iload_n (k := 2) (dX_iload_2 (by decide +kernel)) rfl (by decide +kernel), ?_⟩
  refine ⟨sn_iload_n (k := 3) (dX_iload_3 (by decide +kernel)) rfl (by decide +kernel), ?_⟩
  refine ⟨sn_callV (idx := 91) (C := RX0) (T := TX0) (N := 13) rfl (by decide) cal_80 (pmt4 32 rfl (by decide +kernel)) (pmt4 33 rfl (by decide +kernel)) (pmt4 34 rfl (by decide +kernel)) (dX_invokevirtual (by decide +kernel)) (by decide +kernel), ?_⟩
  refine ⟨sn_istore (dX_istore (by decide +kernel)) (by decide) (by decide +kernel), ?_⟩
  refine ⟨sn_iload (dX_iload (by decide +kernel)) (by decide +kernel), ?_⟩
  refine ⟨sn_if_ge (off := 7) (dX_ifge (by decide +kernel)) (by decide +kernel) (by decide +kernel), ?_⟩
  refine ⟨sn_iconst (dX_iconst_m1 (by decide +kernel)) (by decide +kernel), ?_⟩
  refine ⟨sn_goto (off := 12) (dX_goto (by decide +kernel)) (by decide +kernel), ?_⟩
  refine ⟨sn_iload (dX_iload (by decide +kernel)) (by decide +kernel), ?_⟩
  refine ⟨sn_aload_n (k := 0) (dX_aload_0 (by decide +kernel)) rfl (by decide +kernel), ?_⟩
  refine ⟨sn_getf (C := RX0) (T := TX0) (N := 13) (idx := 24) rfl pin0 (by decide) (by decide) rfl (pmt1 116 rfl (by decide +kernel)) rfl (dX_getfield (by decide +kernel)) (by decide +kernel), ?_⟩
  refine ⟨sn_iload_n (k := 1) (dX_iload_1 (by decide +kernel)) rfl (by decide +kernel), ?_⟩
  refine ⟨sn_iald (dX_iaload (by decide +kernel)) (by decide +kernel), ?_⟩
  refine ⟨sn_imul (dX_imul (by decide +kernel)) (by decide +kernel), ?_⟩
  refine ⟨sn_iret rfl (dX_ireturn (by decide +kernel)), ?_⟩
  trivial
set_option maxRecDepth 100000 in
set_option maxHeartbeats 4000000 in
theorem S_83 : pAll (pSk RX0 cX0_carriedTo 5 (some .int) PC_83) 0 C_83 := by
  refine ⟨sn_iconst (dX_iconst_0 (by decide +kernel)) (by decide +kernel), ?_⟩
  refine ⟨sn_istore_n (k := 2) (dX_istore_2 (by decide +kernel)) rfl (by decide) (by decide +kernel), ?_⟩
  refine ⟨sn_iconst (dX_iconst_0 (by decide +kernel)) (by decide +kernel), ?_⟩
  refine ⟨sn_istore_n (k := 3) (dX_istore_3 (by decide +kernel)) rfl (by decide) (by decide +kernel), ?_⟩
  refine ⟨sn_iload_n (k := 3) (dX_iload_3 (by decide +kernel)) rfl (by decide +kernel), ?_⟩
  refine ⟨sn_aload_n (k := 0) (dX_aload_0 (by decide +kernel)) rfl (by decide +kernel), ?_⟩
  refine ⟨sn_getf (C := RX0) (T := TX0) (N := 13) (idx := 47) rfl pin0 (by decide) (by decide) rfl (pmt1 139 rfl (by decide +kernel)) rfl (dX_getfield (by decide +kernel)) (by decide +kernel), ?_⟩
  refine ⟨sn_icmp_ge (off := 39) (dX_if_icmpge (by decide +kernel)) (by decide +kernel) (by decide +kernel), ?_⟩
  refine ⟨sn_aload_n (k := 0) (dX_aload_0 (by decide +kernel)) rfl (by decide +kernel), ?_⟩
  refine ⟨sn_iload_n (k := 3) (dX_iload_3 (by decide +kernel)) rfl (by decide +kernel), ?_⟩
  refine ⟨sn_aload_n (k := 0) (dX_aload_0 (by decide +kernel)) rfl (by decide +kernel), ?_⟩
  refine ⟨sn_getf (C := RX0) (T := TX0) (N := 13) (idx := 27) rfl pin0 (by decide) (by decide) rfl (pmt1 119 rfl (by decide +kernel)) rfl (dX_getfield (by decide +kernel)) (by decide +kernel), ?_⟩
  refine ⟨sn_iload_n (k := 3) (dX_iload_3 (by decide +kernel)) rfl (by decide +kernel), ?_⟩
  refine ⟨sn_iald (dX_iaload (by decide +kernel)) (by decide +kernel), ?_⟩
  refine ⟨sn_aload_n (k := 1) (dX_aload_1 (by decide +kernel)) rfl (by decide +kernel), ?_⟩
  refine ⟨sn_iload_n (k := 3) (dX_iload_3 (by decide +kernel)) rfl (by decide +kernel), ?_⟩
  refine ⟨sn_callSN (idx := 98) (host := "SetsStayTogether") cal_47 (pnest_of 98) (pmt4 25 rfl (by decide +kernel)) (dX_invokestatic (by decide +kernel)) (by decide +kernel), ?_⟩
  refine ⟨sn_callV (idx := 102) (C := RX0) (T := TX0) (N := 13) rfl (by decide) cal_82 (pmt5 85 rfl (by decide +kernel)) (pmt4 28 rfl (by decide +kernel)) (pmt4 29 rfl (by decide +kernel)) (dX_invokevirtual (by decide +kernel)) (by decide +kernel), ?_⟩
  refine ⟨sn_istore (dX_istore (by decide +kernel)) (by decide) (by decide +kernel), ?_⟩
  refine ⟨sn_iload (dX_iload (by decide +kernel)) (by decide +kernel), ?_⟩
  refine ⟨sn_if_ge (off := 5) (dX_ifge (by decide +kernel)) (by decide +kernel) (by decide +kernel), ?_⟩
  refine ⟨sn_iconst (dX_iconst_m1 (by decide +kernel)) (by decide +kernel), ?_⟩
  refine ⟨sn_iret rfl (dX_ireturn (by decide +kernel)), ?_⟩
  refine ⟨sn_iload_n (k := 2) (dX_iload_2 (by decide +kernel)) rfl (by decide +kernel), ?_⟩
  refine ⟨sn_iload (dX_iload (by decide +kernel)) (by decide +kernel), ?_⟩
  refine ⟨sn_iadd (dX_iadd (by decide +kernel)) (by decide +kernel), ?_⟩
  refine ⟨sn_istore_n (k := 2) (dX_istore_2 (by decide +kernel)) rfl (by decide) (by decide +kernel), ?_⟩
  refine ⟨sn_iinc (dX_iinc (by decide +kernel)) (by decide) (by decide +kernel), ?_⟩
  refine ⟨sn_goto (off := -41) (dX_goto (by decide +kernel)) (by decide +kernel), ?_⟩
  refine ⟨sn_iload_n (k := 2) (dX_iload_2 (by decide +kernel)) rfl (by decide +kernel), ?_⟩
  refine ⟨sn_iret rfl (dX_ireturn (by decide +kernel)), ?_⟩
  trivial
set_option maxRecDepth 100000 in
set_option maxHeartbeats 4000000 in
theorem S_84 : pAll (pSk RX0 cX0_comersIfWide 7 (some .int) PC_84) 0 C_84 := by
  refine ⟨sn_aload_n (k := 0) (dX_aload_0 (by decide +kernel)) rfl (by decide +kernel), ?_⟩
  refine ⟨sn_iload_n (k := 1) (dX_iload_1 (by decide +kernel)) rfl (by decide +kernel), ?_⟩
  refine ⟨sn_iload_n (k := 2) (dX_iload_2 (by decide +kernel)) rfl (by decide +kernel), ?_⟩
  refine ⟨sn_callV (idx := 82) (C := RX0) (T := TX0) (N := 13) rfl (by decide) cal_74 (pmt5 5 rfl (by decide +kernel)) (pmt3 229 rfl (by decide +kernel)) (pmt3 230 rfl (by decide +kernel)) (dX_invokevirtual (by decide +kernel)) (by decide +kernel), ?_⟩
  refine ⟨sn_istore (dX_istore (by decide +kernel)) (by decide) (by decide +kernel), ?_⟩
  refine ⟨sn_aload_n (k := 0) (dX_aload_0 (by decide +kernel)) rfl (by decide +kernel), ?_⟩
  refine ⟨sn_iload_n (k := 1) (dX_iload_1 (by decide +kernel)) rfl (by decide +kernel), ?_⟩
  refine ⟨sn_iload_n (k := 2) (dX_iload_2 (by decide +kernel)) rfl (by decide +kernel), ?_⟩
  refine ⟨sn_bipush (dX_bipush (by decide +kernel)) (by decide +kernel) (by decide +kernel), ?_⟩
  refine ⟨sn_callV (idx := 105) (C := RX0) (T := TX0) (N := 13) rfl (by decide) cal_73 (pmt5 133 rfl (by decide +kernel)) (pmt3 17 rfl (by decide +kernel)) (pmt3 18 rfl (by decide +kernel)) (dX_invokevirtual (by decide +kernel)) (by decide +kernel), ?_⟩
  refine ⟨sn_iconst (dX_iconst_0 (by decide +kernel)) (by decide +kernel), ?_⟩
  refine ⟨sn_istore (dX_istore (by decide +kernel)) (by decide) (by decide +kernel), ?_⟩
  refine ⟨sn_iconst (dX_iconst_0 (by decide +kernel)) (by decide +kernel), ?_⟩
  refine ⟨sn_istore (dX_istore (by decide +kernel)) (by decide) (by decide +kernel), ?_⟩
  refine ⟨sn_iload (dX_iload (by decide +kernel)) (by decide +kernel), ?_⟩
  refine ⟨sn_aload_n (k := 0) (dX_aload_0 (by decide +kernel)) rfl (by decide +kernel), ?_⟩
  refine ⟨sn_getf (C := RX0) (T := TX0) (N := 13) (idx := 47) rfl pin0 (by decide) (by decide) rfl (pmt1 139 rfl (by decide +kernel)) rfl (dX_getfield (by decide +kernel)) (by decide +kernel), ?_⟩
  refine ⟨sn_icmp_ge (off := 41) (dX_if_icmpge (by decide +kernel)) (by decide +kernel) (by decide +kernel), ?_⟩
  refine ⟨sn_iload (dX_iload (by decide +kernel)) (by decide +kernel), ?_⟩
  refine ⟨sn_aload_n (k := 0) (dX_aload_0 (by decide +kernel)) rfl (by decide +kernel), ?_⟩
  refine ⟨sn_aload_n (k := 0) (dX_aload_0 (by decide +kernel)) rfl (by decide +kernel), ?_⟩
  refine ⟨sn_getf (C := RX0) (T := TX0) (N := 13) (idx := 21) rfl pin0 (by decide) (by decide) rfl (pmt1 113 rfl (by decide +kernel)) rfl (dX_getfield (by decide +kernel)) (by decide +kernel), ?_⟩
  refine ⟨sn_iload (dX_iload (by decide +kernel)) (by decide +kernel), ?_⟩
  refine ⟨sn_iald (dX_iaload (by decide +kernel)) (by decide +kernel), ?_⟩
  refine ⟨sn_aload_n (k := 0) (dX_aload_0 (by decide +kernel)) rfl (by decide +kernel), ?_⟩
  refine ⟨sn_getf (C := RX0) (T := TX0) (N := 13) (idx := 27) rfl pin0 (by decide) (by decide) rfl (pmt1 119 rfl (by decide +kernel)) rfl (dX_getfield (by decide +kernel)) (by decide +kernel), ?_⟩
  refine ⟨sn_iload (dX_iload (by decide +kernel)) (by decide +kernel), ?_⟩
  refine ⟨sn_iald (dX_iaload (by decide +kernel)) (by decide +kernel), ?_⟩
  refine ⟨sn_iload_n (k := 3) (dX_iload_3 (by decide +kernel)) rfl (by decide +kernel), ?_⟩
  refine ⟨sn_callV (idx := 91) (C := RX0) (T := TX0) (N := 13) rfl (by decide) cal_80 (pmt4 32 rfl (by decide +kernel)) (pmt4 33 rfl (by decide +kernel)) (pmt4 34 rfl (by decide +kernel)) (dX_invokevirtual (by decide +kernel)) (by decide +kernel), ?_⟩
  refine ⟨sn_if_lt (off := 7) (dX_iflt (by decide +kernel)) (by decide +kernel) (by decide +kernel), ?_⟩
  refine ⟨sn_iconst (dX_iconst_1 (by decide +kernel)) (by decide +kernel), ?_⟩
  refine ⟨sn_goto (off := 4) (dX_goto (by decide +kernel)) (by decide +kernel), ?_⟩
  refine ⟨sn_iconst (dX_iconst_0 (by decide +kernel)) (by decide +kernel), ?_⟩
  refine ⟨sn_iadd (dX_iadd (by decide +kernel)) (by decide +kernel), ?_⟩
  refine ⟨sn_istore (dX_istore (by decide +kernel)) (by decide) (by decide +kernel), ?_⟩
  refine ⟨sn_iinc (dX_iinc (by decide +kernel)) (by decide) (by decide +kernel), ?_⟩
  refine ⟨sn_goto (off := -44) (dX_goto (by decide +kernel)) (by decide +kernel), ?_⟩
  refine ⟨sn_aload_n (k := 0) (dX_aload_0 (by decide +kernel)) rfl (by decide +kernel), ?_⟩
  refine ⟨sn_iload_n (k := 1) (dX_iload_1 (by decide +kernel)) rfl (by decide +kernel), ?_⟩
  refine ⟨sn_iload_n (k := 2) (dX_iload_2 (by decide +kernel)) rfl (by decide +kernel), ?_⟩
  refine ⟨sn_iload (dX_iload (by decide +kernel)) (by decide +kernel), ?_⟩
  refine ⟨sn_callV (idx := 105) (C := RX0) (T := TX0) (N := 13) rfl (by decide) cal_73 (pmt5 133 rfl (by decide +kernel)) (pmt3 17 rfl (by decide +kernel)) (pmt3 18 rfl (by decide +kernel)) (dX_invokevirtual (by decide +kernel)) (by decide +kernel), ?_⟩
  refine ⟨sn_iload (dX_iload (by decide +kernel)) (by decide +kernel), ?_⟩
  refine ⟨sn_iret rfl (dX_ireturn (by decide +kernel)), ?_⟩
  trivial
set_option maxRecDepth 100000 in
set_option maxHeartbeats 4000000 in
theorem S_85 : pAll (pSk RX0 cX0_isNow 3 (some .boolean) PC_85) 0 C_85 := by
  refine ⟨sn_iconst (dX_iconst_0 (by decide +kernel)) (by decide +kernel), ?_⟩
  refine ⟨sn_istore_n (k := 2) (dX_istore_2 (by decide +kernel)) rfl (by decide) (by decide +kernel), ?_⟩
  refine ⟨sn_iload_n (k := 2) (dX_iload_2 (by decide +kernel)) rfl (by decide +kernel), ?_⟩
  refine ⟨sn_aload_n (k := 0) (dX_aload_0 (by decide +kernel)) rfl (by decide +kernel), ?_⟩
  refine ⟨sn_getf (C := RX0) (T := TX0) (N := 13) (idx := 47) rfl pin0 (by decide) (by decide) rfl (pmt1 139 rfl (by decide +kernel)) rfl (dX_getfield (by decide +kernel)) (by decide +kernel), ?_⟩
  refine ⟨sn_icmp_ge (off := 25) (dX_if_icmpge (by decide +kernel)) (by decide +kernel) (by decide +kernel), ?_⟩
  refine ⟨sn_aload_n (k := 0) (dX_aload_0 (by decide +kernel)) rfl (by decide +kernel), ?_⟩
  refine ⟨sn_getf (C := RX0) (T := TX0) (N := 13) (idx := 27) rfl pin0 (by decide) (by decide) rfl (pmt1 119 rfl (by decide +kernel)) rfl (dX_getfield (by decide +kernel)) (by decide +kernel), ?_⟩
  refine ⟨sn_iload_n (k := 2) (dX_iload_2 (by decide +kernel)) rfl (by decide +kernel), ?_⟩
  refine ⟨sn_iald (dX_iaload (by decide +kernel)) (by decide +kernel), ?_⟩
  refine ⟨sn_aload_n (k := 1) (dX_aload_1 (by decide +kernel)) rfl (by decide +kernel), ?_⟩
  refine ⟨sn_iload_n (k := 2) (dX_iload_2 (by decide +kernel)) rfl (by decide +kernel), ?_⟩
  refine ⟨sn_callSN (idx := 98) (host := "SetsStayTogether") cal_47 (pnest_of 98) (pmt4 25 rfl (by decide +kernel)) (dX_invokestatic (by decide +kernel)) (by decide +kernel), ?_⟩
  refine ⟨sn_icmp_eq (off := 5) (dX_if_icmpeq (by decide +kernel)) (by decide +kernel) (by decide +kernel), ?_⟩
  refine ⟨sn_iconst (dX_iconst_0 (by decide +kernel)) (by decide +kernel), ?_⟩
  refine ⟨sn_zret (Or.inl rfl) (dX_ireturn (by decide +kernel)), ?_⟩
  refine ⟨sn_iinc (dX_iinc (by decide +kernel)) (by decide) (by decide +kernel), ?_⟩
  refine ⟨sn_goto (off := -27) (dX_goto (by decide +kernel)) (by decide +kernel), ?_⟩
  refine ⟨sn_iconst (dX_iconst_1 (by decide +kernel)) (by decide +kernel), ?_⟩
  refine ⟨sn_zret (Or.inl rfl) (dX_ireturn (by decide +kernel)), ?_⟩
  trivial
set_option maxRecDepth 100000 in
set_option maxHeartbeats 4000000 in
theorem S_86 : pAll (pSk RX0 cX0_thingsIn 5 (some .int) PC_86) 0 C_86 := by
  refine ⟨sn_iconst (dX_iconst_0 (by decide +kernel)) (by decide +kernel), ?_⟩
  refine ⟨sn_istore_n (k := 3) (dX_istore_3 (by decide +kernel)) rfl (by decide) (by decide +kernel), ?_⟩
  refine ⟨sn_iconst (dX_iconst_0 (by decide +kernel)) (by decide +kernel), ?_⟩
  refine ⟨sn_istore (dX_istore (by decide +kernel)) (by decide) (by decide +kernel), ?_⟩
  refine ⟨sn_iload (dX_iload (by decide +kernel)) (by decide +kernel), ?_⟩
  refine ⟨sn_aload_n (k := 0) (dX_aload_0 (by decide +kernel)) rfl (by decide +kernel), ?_⟩
  refine ⟨sn_getf (C := RX0) (T := TX0) (N := 13) (idx := 47) rfl pin0 (by decide) (by decide) rfl (pmt1 139 rfl (by decide +kernel)) rfl (dX_getfield (by decide +kernel)) (by decide +kernel), ?_⟩
  refine ⟨sn_icmp_ge (off := 26) (dX_if_icmpge (by decide +kernel)) (by decide +kernel) (by decide +kernel), ?_⟩
  refine ⟨sn_aload_n (k := 2) (dX_aload_2 (by decide +kernel)) rfl (by decide +kernel), ?_⟩
  refine ⟨sn_iload (dX_iload (by decide +kernel)) (by decide +kernel), ?_⟩
  refine ⟨sn_callSN (idx := 98) (host := "SetsStayTogether") cal_47 (pnest_of 98) (pmt4 25 rfl (by decide +kernel)) (dX_invokestatic (by decide +kernel)) (by decide +kernel), ?_⟩
  refine ⟨sn_iload_n (k := 1) (dX_iload_1 (by decide +kernel)) rfl (by decide +kernel), ?_⟩
  refine ⟨sn_icmp_ne (off := 10) (dX_if_icmpne (by decide +kernel)) (by decide +kernel) (by decide +kernel), ?_⟩
  refine ⟨sn_iload_n (k := 3) (dX_iload_3 (by decide +kernel)) rfl (by decide +kernel), ?_⟩
  refine ⟨sn_iconst (dX_iconst_1 (by decide +kernel)) (by decide +kernel), ?_⟩
  refine ⟨sn_iload (dX_iload (by decide +kernel)) (by decide +kernel), ?_⟩
  refine ⟨sn_ishl (dX_ishl (by decide +kernel)) (by decide +kernel), ?_⟩
  refine ⟨sn_ior (dX_ior (by decide +kernel)) (by decide +kernel), ?_⟩
  refine ⟨sn_istore_n (k := 3) (dX_istore_3 (by decide +kernel)) rfl (by decide) (by decide +kernel), ?_⟩
  refine ⟨sn_iinc (dX_iinc (by decide +kernel)) (by decide) (by decide +kernel), ?_⟩
  refine ⟨sn_goto (off := -29) (dX_goto (by decide +kernel)) (by decide +kernel), ?_⟩
  refine ⟨sn_iload_n (k := 3) (dX_iload_3 (by decide +kernel)) rfl (by decide +kernel), ?_⟩
  refine ⟨sn_iret rfl (dX_ireturn (by decide +kernel)), ?_⟩
  trivial
set_option maxRecDepth 100000 in
set_option maxHeartbeats 4000000 in
theorem S_87 : pAll (pSk RX0 cX0_load 3 (some .int) PC_87) 0 C_87 := by
  refine ⟨sn_aload_n (k := 0) (dX_aload_0 (by decide +kernel)) rfl (by decide +kernel), ?_⟩
  refine ⟨sn_aload_n (k := 0) (dX_aload_0 (by decide +kernel)) rfl (by decide +kernel), ?_⟩
  refine ⟨sn_iload_n (k := 1) (dX_iload_1 (by decide +kernel)) rfl (by decide +kernel), ?_⟩
  refine ⟨sn_aload_n (k := 2) (dX_aload_2 (by decide +kernel)) rfl (by decide +kernel), ?_⟩
  refine ⟨sn_callV (idx := 109) (C := RX0) (T := TX0) (N := 13) rfl (by decide) cal_86 (pmt4 64 rfl (by decide +kernel)) (pmt4 65 rfl (by decide +kernel)) (pmt4 66 rfl (by decide +kernel)) (dX_invokevirtual (by decide +kernel)) (by decide +kernel), ?_⟩
  refine ⟨sn_callV (idx := 113) (C := RX0) (T := TX0) (N := 13) rfl (by decide) cal_102 (pmt4 77 rfl (by decide +kernel)) (pmt4 78 rfl (by decide +kernel)) (pmt4 79 rfl (by decide +kernel)) (dX_invokevirtual (by decide +kernel)) (by decide +kernel), ?_⟩
  refine ⟨sn_iret rfl (dX_ireturn (by decide +kernel)), ?_⟩
  trivial
set_option maxRecDepth 100000 in
set_option maxHeartbeats 4000000 in
theorem S_88 : pAll (pSk RX0 cX0_overfull 4 (some .int) PC_88) 0 C_88 := by
  refine ⟨sn_iconst (dX_iconst_0 (by decide +kernel)) (by decide +kernel), ?_⟩
  refine ⟨sn_istore_n (k := 2) (dX_istore_2 (by decide +kernel)) rfl (by decide) (by decide +kernel), ?_⟩
  refine ⟨sn_iconst (dX_iconst_0 (by decide +kernel)) (by decide +kernel), ?_⟩
  refine ⟨sn_istore_n (k := 3) (dX_istore_3 (by decide +kernel)) rfl (by decide) (by decide +kernel), ?_⟩
  refine ⟨sn_iload_n (k := 3) (dX_iload_3 (by decide +kernel)) rfl (by decide +kernel), ?_⟩
  refine ⟨sn_aload_n (k := 0) (dX_aload_0 (by decide +kernel)) rfl (by decide +kernel), ?_⟩
  refine ⟨sn_getf (C := RX0) (T := TX0) (N := 13) (idx := 43) rfl pin0 (by decide) (by decide) rfl (pmt1 135 rfl (by decide +kernel)) rfl (dX_getfield (by decide +kernel)) (by decide +kernel), ?_⟩
  refine ⟨sn_icmp_ge (off := 30) (dX_if_icmpge (by decide +kernel)) (by decide +kernel) (by decide +kernel), ?_⟩
  refine ⟨sn_aload_n (k := 0) (dX_aload_0 (by decide +kernel)) rfl (by decide +kernel), ?_⟩
  refine ⟨sn_iload_n (k := 3) (dX_iload_3 (by decide +kernel)) rfl (by decide +kernel), ?_⟩
  refine ⟨sn_aload_n (k := 1) (dX_aload_1 (by decide +kernel)) rfl (by decide +kernel), ?_⟩
  refine ⟨sn_callV (idx := 116) (C := RX0) (T := TX0) (N := 13) rfl (by decide) cal_87 (pmt4 73 rfl (by decide +kernel)) (pmt4 74 rfl (by decide +kernel)) (pmt4 75 rfl (by decide +kernel)) (dX_invokevirtual (by decide +kernel)) (by decide +kernel), ?_⟩
  refine ⟨sn_aload_n (k := 0) (dX_aload_0 (by decide +kernel)) rfl (by decide +kernel), ?_⟩
  refine ⟨sn_getf (C := RX0) (T := TX0) (N := 13) (idx := 9) rfl pin0 (by decide) (by decide) rfl (pmt1 105 rfl (by decide +kernel)) rfl (dX_getfield (by decide +kernel)) (by decide +kernel), ?_⟩
  refine ⟨sn_iload_n (k := 3) (dX_iload_3 (by decide +kernel)) rfl (by decide +kernel), ?_⟩
  refine ⟨sn_iald (dX_iaload (by decide +kernel)) (by decide +kernel), ?_⟩
  refine ⟨sn_icmp_le (off := 9) (dX_if_icmple (by decide +kernel)) (by decide +kernel) (by decide +kernel), ?_⟩
  refine ⟨sn_iload_n (k := 2) (dX_iload_2 (by decide +kernel)) rfl (by decide +kernel), ?_⟩
  refine ⟨sn_iconst (dX_iconst_1 (by decide +kernel)) (by decide +kernel), ?_⟩
  refine ⟨sn_iload_n (k := 3) (dX_iload_3 (by decide +kernel)) rfl (by decide +kernel), ?_⟩
  refine ⟨sn_ishl (dX_ishl (by decide +kernel)) (by decide +kernel), ?_⟩
  refine ⟨sn_ior (dX_ior (by decide +kernel)) (by decide +kernel), ?_⟩
  refine ⟨sn_istore_n (k := 2) (dX_istore_2 (by decide +kernel)) rfl (by decide) (by decide +kernel), ?_⟩
  refine ⟨sn_iinc (dX_iinc (by decide +kernel)) (by decide) (by decide +kernel), ?_⟩
  refine ⟨sn_goto (off := -32) (dX_goto (by decide +kernel)) (by decide +kernel), ?_⟩
  refine ⟨sn_iload_n (k := 2) (dX_iload_2 (by decide +kernel)) rfl (by decide +kernel), ?_⟩
  refine ⟨sn_iret rfl (dX_ireturn (by decide +kernel)), ?_⟩
  trivial
set_option maxRecDepth 100000 in
set_option maxHeartbeats 4000000 in
theorem S_89 : pAll (pSk RX0 cX0_parted 4 (some .int) PC_89) 0 C_89 := by
  refine ⟨sn_iconst (dX_iconst_0 (by decide +kernel)) (by decide +kernel), ?_⟩
  refine ⟨sn_istore_n (k := 2) (dX_istore_2 (by decide +kernel)) rfl (by decide) (by decide +kernel), ?_⟩
  refine ⟨sn_iconst (dX_iconst_0 (by decide +kernel)) (by decide +kernel), ?_⟩
  refine ⟨sn_istore_n (k := 3) (dX_istore_3 (by decide +kernel)) rfl (by decide) (by decide +kernel), ?_⟩
  refine ⟨sn_iload_n (k := 3) (dX_iload_3 (by decide +kernel)) rfl (by decide +kernel), ?_⟩
  refine ⟨sn_aload_n (k := 0) (dX_aload_0 (by decide +kernel)) rfl (by decide +kernel), ?_⟩
  refine ⟨sn_getf (C := RX0) (T := TX0) (N := 13) (idx := 50) rfl pin0 (by decide) (by decide) rfl (pmt1 144 rfl (by decide +kernel)) rfl (dX_getfield (by decide +kernel)) (by decide +kernel), ?_⟩
  refine ⟨sn_icmp_ge (off := 29) (dX_if_icmpge (by decide +kernel)) (by decide +kernel) (by decide +kernel), ?_⟩
  refine ⟨sn_aload_n (k := 0) (dX_aload_0 (by decide +kernel)) rfl (by decide +kernel), ?_⟩
  refine ⟨sn_aload_n (k := 0) (dX_aload_0 (by decide +kernel)) rfl (by decide +kernel), ?_⟩
  refine ⟨sn_getf (C := RX0) (T := TX0) (N := 13) (idx := 30) rfl pin0 (by decide) (by decide) rfl (pmt1 125 rfl (by decide +kernel)) rfl (dX_getfield (by decide +kernel)) (by decide +kernel), ?_⟩
  refine ⟨sn_iload_n (k := 3) (dX_iload_3 (by decide +kernel)) rfl (by decide +kernel), ?_⟩
  refine ⟨sn_iald (dX_iaload (by decide +kernel)) (by decide +kernel), ?_⟩
  refine ⟨sn_aload_n (k := 1) (dX_aload_1 (by decide +kernel)) rfl (by decide +kernel), ?_⟩
  refine ⟨sn_callV (idx := 119) (C := RX0) (T := TX0) (N := 13) rfl (by decide) cal_90 (pmt4 60 rfl (by decide +kernel)) (pmt4 62 rfl (by decide +kernel)) (pms 18 rfl rfl) (dX_invokevirtual (by decide +kernel)) (by decide +kernel), ?_⟩
  refine ⟨sn_if_ne (off := 9) (dX_ifne (by decide +kernel)) (by decide +kernel) (by decide +kernel), ?_⟩
  refine ⟨sn_iload_n (k := 2) (dX_iload_2 (by decide +kernel)) rfl (by decide +kernel), ?_⟩
  refine ⟨sn_iconst (dX_iconst_1 (by decide +kernel)) (by decide +kernel), ?_⟩
  refine ⟨sn_iload_n (k := 3) (dX_iload_3 (by decide +kernel)) rfl (by decide +kernel), ?_⟩
  refine ⟨sn_ishl (dX_ishl (by decide +kernel)) (by decide +kernel), ?_⟩
  refine ⟨sn_ior (dX_ior (by decide +kernel)) (by decide +kernel), ?_⟩
  refine ⟨sn_istore_n (k := 2) (dX_istore_2 (by decide +kernel)) rfl (by decide) (by decide +kernel), ?_⟩
  refine ⟨sn_iinc (dX_iinc (by decide +kernel)) (by decide) (by decide +kernel), ?_⟩
  refine ⟨sn_goto (off := -31) (dX_goto (by decide +kernel)) (by decide +kernel), ?_⟩
  refine ⟨sn_iload_n (k := 2) (dX_iload_2 (by decide +kernel)) rfl (by decide +kernel), ?_⟩
  refine ⟨sn_iret rfl (dX_ireturn (by decide +kernel)), ?_⟩
  trivial
set_option maxRecDepth 100000 in
set_option maxHeartbeats 4000000 in
theorem S_90 : pAll (pSk RX0 cX0_areInOneRoom 5 (some .boolean) PC_90) 0 C_90 := by
  refine ⟨sn_iconst (dX_iconst_0 (by decide +kernel)) (by decide +kernel), ?_⟩
  refine ⟨sn_istore_n (k := 3) (dX_istore_3 (by decide +kernel)) rfl (by decide) (by decide +kernel), ?_⟩
  refine ⟨sn_iload_n (k := 3) (dX_iload_3 (by decide +kernel)) rfl (by decide +kernel), ?_⟩
  refine ⟨sn_aload_n (k := 0) (dX_aload_0 (by decide +kernel)) rfl (by decide +kernel), ?_⟩
  refine ⟨sn_getf (C := RX0) (T := TX0) (N := 13) (idx := 43) rfl pin0 (by decide) (by decide) rfl (pmt1 135 rfl (by decide +kernel)) rfl (dX_getfield (by decide +kernel)) (by decide +kernel), ?_⟩
  refine ⟨sn_icmp_ge (off := 32) (dX_if_icmpge (by decide +kernel)) (by decide +kernel) (by decide +kernel), ?_⟩
  refine ⟨sn_aload_n (k := 0) (dX_aload_0 (by decide +kernel)) rfl (by decide +kernel), ?_⟩
  refine ⟨sn_iload_n (k := 3) (dX_iload_3 (by decide +kernel)) rfl (by decide +kernel), ?_⟩
  refine ⟨sn_aload_n (k := 2) (dX_aload_2 (by decide +kernel)) rfl (by decide +kernel), ?_⟩
  refine ⟨sn_callV (idx := 109) (C := RX0) (T := TX0) (N := 13) rfl (by decide) cal_86 (pmt4 64 rfl (by decide +kernel)) (pmt4 65 rfl (by decide +kernel)) (pmt4 66 rfl (by decide +kernel)) (dX_invokevirtual (by decide +kernel)) (by decide +kernel), ?_⟩
  refine ⟨sn_iload_n (k := 1) (dX_iload_1 (by decide +kernel)) rfl (by decide +kernel), ?_⟩
  refine ⟨sn_iand (dX_iand (by decide +kernel)) (by decide +kernel), ?_⟩
  refine ⟨sn_istore (dX_istore (by decide +kernel)) (by decide) (by decide +kernel), ?_⟩
  refine ⟨sn_iload (dX_iload (by decide +kernel)) (by decide +kernel), ?_⟩
  refine ⟨sn_if_eq (off := 11) (dX_ifeq (by decide +kernel)) (by decide +kernel) (by decide +kernel), ?_⟩
  refine ⟨sn_iload (dX_iload (by decide +kernel)) (by decide +kernel), ?_⟩
  refine ⟨sn_iload_n (k := 1) (dX_iload_1 (by decide +kernel)) rfl (by decide +kernel), ?_⟩
  refine ⟨sn_icmp_eq (off := 5) (dX_if_icmpeq (by decide +kernel)) (by decide +kernel) (by decide +kernel), ?_⟩
  refine ⟨sn_iconst (dX_iconst_0 (by decide +kernel)) (by decide +kernel), ?_⟩
  refine ⟨sn_zret (Or.inl rfl) (dX_ireturn (by decide +kernel)), ?_⟩
  refine ⟨sn_iinc (dX_iinc (by decide +kernel)) (by decide) (by decide +kernel), ?_⟩
  refine ⟨sn_goto (off := -34) (dX_goto (by decide +kernel)) (by decide +kernel), ?_⟩
  refine ⟨sn_iconst (dX_iconst_1 (by decide +kernel)) (by decide +kernel), ?_⟩
  refine ⟨sn_zret (Or.inl rfl) (dX_ireturn (by decide +kernel)), ?_⟩
  trivial
set_option maxRecDepth 100000 in
set_option maxHeartbeats 4000000 in
theorem S_91 : pAll (pSk RX0 cX0_lawful 2 (some .boolean) PC_91) 0 C_91 := by
  refine ⟨sn_aload_n (k := 0) (dX_aload_0 (by decide +kernel)) rfl (by decide +kernel), ?_⟩
  refine ⟨sn_aload_n (k := 1) (dX_aload_1 (by decide +kernel)) rfl (by decide +kernel), ?_⟩
  refine ⟨sn_callV (idx := 123) (C := RX0) (T := TX0) (N := 13) rfl (by decide) cal_89 (pmt4 121 rfl (by decide +kernel)) (pmt4 57 rfl (by decide +kernel)) (pmt4 58 rfl (by decide +kernel)) (dX_invokevirtual (by decide +kernel)) (by decide +kernel), ?_⟩
  refine ⟨sn_aload_n (k := 0) (dX_aload_0 (by decide +kernel)) rfl (by decide +kernel), ?_⟩
  refine ⟨sn_aload_n (k := 1) (dX_aload_1 (by decide +kernel)) rfl (by decide +kernel), ?_⟩
  refine ⟨sn_callV (idx := 127) (C := RX0) (T := TX0) (N := 13) rfl (by decide) cal_88 (pmt4 122 rfl (by decide +kernel)) (pmt4 70 rfl (by decide +kernel)) (pmt4 71 rfl (by decide +kernel)) (dX_invokevirtual (by decide +kernel)) (by decide +kernel), ?_⟩
  refine ⟨sn_ior (dX_ior (by decide +kernel)) (by decide +kernel), ?_⟩
  refine ⟨sn_if_ne (off := 7) (dX_ifne (by decide +kernel)) (by decide +kernel) (by decide +kernel), ?_⟩
  refine ⟨sn_iconst (dX_iconst_1 (by decide +kernel)) (by decide +kernel), ?_⟩
  refine ⟨sn_goto (off := 4) (dX_goto (by decide +kernel)) (by decide +kernel), ?_⟩
  refine ⟨sn_iconst (dX_iconst_0 (by decide +kernel)) (by decide +kernel), ?_⟩
  refine ⟨sn_zret (Or.inl rfl) (dX_ireturn (by decide +kernel)), ?_⟩
  trivial
set_option maxRecDepth 100000 in
set_option maxHeartbeats 4000000 in
theorem S_92 : pAll (pSk RX0 cX0_tooMany 3 (some .boolean) PC_92) 0 C_92 := by
  refine ⟨sn_iconst (dX_iconst_1 (by decide +kernel)) (by decide +kernel), ?_⟩
  refine ⟨sn_istore_n (k := 1) (dX_istore_1 (by decide +kernel)) rfl (by decide) (by decide +kernel), ?_⟩
  refine ⟨sn_iconst (dX_iconst_0 (by decide +kernel)) (by decide +kernel), ?_⟩
  refine ⟨sn_istore_n (k := 2) (dX_istore_2 (by decide +kernel)) rfl (by decide) (by decide +kernel), ?_⟩
  refine ⟨sn_iload_n (k := 2) (dX_iload_2 (by decide +kernel)) rfl (by decide +kernel), ?_⟩
  refine ⟨sn_aload_n (k := 0) (dX_aload_0 (by decide +kernel)) rfl (by decide +kernel), ?_⟩
  refine ⟨sn_getf (C := RX0) (T := TX0) (N := 13) (idx := 53) rfl pin0 (by decide) (by decide) rfl (pmt1 149 rfl (by decide +kernel)) rfl (dX_getfield (by decide +kernel)) (by decide +kernel), ?_⟩
  refine ⟨sn_icmp_ge (off := 23) (dX_if_icmpge (by decide +kernel)) (by decide +kernel) (by decide +kernel), ?_⟩
  refine ⟨sn_iload_n (k := 1) (dX_iload_1 (by decide +kernel)) rfl (by decide +kernel), ?_⟩
  refine ⟨sn_sipush (dX_sipush (by decide +kernel)) (by decide +kernel) (by decide +kernel), ?_⟩
  refine ⟨sn_icmp_gt (off := 16) (dX_if_icmpgt (by decide +kernel)) (by decide +kernel) (by decide +kernel), ?_⟩
  refine ⟨sn_iload_n (k := 1) (dX_iload_1 (by decide +kernel)) rfl (by decide +kernel), ?_⟩
  refine ⟨sn_aload_n (k := 0) (dX_aload_0 (by decide +kernel)) rfl (by decide +kernel), ?_⟩
  refine ⟨sn_getf (C := RX0) (T := TX0) (N := 13) (idx := 43) rfl pin0 (by decide) (by decide) rfl (pmt1 135 rfl (by decide +kernel)) rfl (dX_getfield (by decide +kernel)) (by decide +kernel), ?_⟩
  refine ⟨sn_imul (dX_imul (by decide +kernel)) (by decide +kernel), ?_⟩
  refine ⟨sn_istore_n (k := 1) (dX_istore_1 (by decide +kernel)) rfl (by decide) (by decide +kernel), ?_⟩
  refine ⟨sn_iinc (dX_iinc (by decide +kernel)) (by decide) (by decide +kernel), ?_⟩
  refine ⟨sn_goto (off := -25) (dX_goto (by decide +kernel)) (by decide +kernel), ?_⟩
  refine ⟨sn_iload_n (k := 1) (dX_iload_1 (by decide +kernel)) rfl (by decide +kernel), ?_⟩
  refine ⟨sn_sipush (dX_sipush (by decide +kernel)) (by decide +kernel) (by decide +kernel), ?_⟩
  refine ⟨sn_icmp_le (off := 7) (dX_if_icmple (by decide +kernel)) (by decide +kernel) (by decide +kernel), ?_⟩
  refine ⟨sn_iconst (dX_iconst_1 (by decide +kernel)) (by decide +kernel), ?_⟩
  refine ⟨sn_goto (off := 4) (dX_goto (by decide +kernel)) (by decide +kernel), ?_⟩
  refine ⟨sn_iconst (dX_iconst_0 (by decide +kernel)) (by decide +kernel), ?_⟩
  refine ⟨sn_zret (Or.inl rfl) (dX_ireturn (by decide +kernel)), ?_⟩
  trivial
set_option maxRecDepth 100000 in
set_option maxHeartbeats 4000000 in
theorem S_93 : pAll (pSk RX0 cX0_setsOf 4 (some .int) PC_93) 0 C_93 := by
  refine ⟨sn_iconst (dX_iconst_0 (by decide +kernel)) (by decide +kernel), ?_⟩
  refine ⟨sn_istore_n (k := 2) (dX_istore_2 (by decide +kernel)) rfl (by decide) (by decide +kernel), ?_⟩
  refine ⟨sn_iconst (dX_iconst_0 (by decide +kernel)) (by decide +kernel), ?_⟩
  refine ⟨sn_istore_n (k := 3) (dX_istore_3 (by decide +kernel)) rfl (by decide) (by decide +kernel), ?_⟩
  refine ⟨sn_iload_n (k := 3) (dX_iload_3 (by decide +kernel)) rfl (by decide +kernel), ?_⟩
  refine ⟨sn_aload_n (k := 0) (dX_aload_0 (by decide +kernel)) rfl (by decide +kernel), ?_⟩
  refine ⟨sn_getf (C := RX0) (T := TX0) (N := 13) (idx := 50) rfl pin0 (by decide) (by decide) rfl (pmt1 144 rfl (by decide +kernel)) rfl (dX_getfield (by decide +kernel)) (by decide +kernel), ?_⟩
  refine ⟨sn_icmp_ge (off := 28) (dX_if_icmpge (by decide +kernel)) (by decide +kernel) (by decide +kernel), ?_⟩
  refine ⟨sn_aload_n (k := 0) (dX_aload_0 (by decide +kernel)) rfl (by decide +kernel), ?_⟩
  refine ⟨sn_getf (C := RX0) (T := TX0) (N := 13) (idx := 30) rfl pin0 (by decide) (by decide) rfl (pmt1 125 rfl (by decide +kernel)) rfl (dX_getfield (by decide +kernel)) (by decide +kernel), ?_⟩
  refine ⟨sn_iload_n (k := 3) (dX_iload_3 (by decide +kernel)) rfl (by decide +kernel), ?_⟩
  refine ⟨sn_iald (dX_iaload (by decide +kernel)) (by decide +kernel), ?_⟩
  refine ⟨sn_iload_n (k := 1) (dX_iload_1 (by decide +kernel)) rfl (by decide +kernel), ?_⟩
  refine ⟨sn_callSN (idx := 85) (host := "SetsStayTogether") cal_49 (pnest_of 85) (pmt3 66 rfl (by decide +kernel)) (dX_invokestatic (by decide +kernel)) (by decide +kernel), ?_⟩
  refine ⟨sn_if_eq (off := 9) (dX_ifeq (by decide +kernel)) (by decide +kernel) (by decide +kernel), ?_⟩
  refine ⟨sn_iload_n (k := 2) (dX_iload_2 (by decide +kernel)) rfl (by decide +kernel), ?_⟩
  refine ⟨sn_iconst (dX_iconst_1 (by decide +kernel)) (by decide +kernel), ?_⟩
  refine ⟨sn_iload_n (k := 3) (dX_iload_3 (by decide +kernel)) rfl (by decide +kernel), ?_⟩
  refine ⟨sn_ishl (dX_ishl (by decide +kernel)) (by decide +kernel), ?_⟩
  refine ⟨sn_ior (dX_ior (by decide +kernel)) (by decide +kernel), ?_⟩
  refine ⟨sn_istore_n (k := 2) (dX_istore_2 (by decide +kernel)) rfl (by decide) (by decide +kernel), ?_⟩
  refine ⟨sn_iinc (dX_iinc (by decide +kernel)) (by decide) (by decide +kernel), ?_⟩
  refine ⟨sn_goto (off := -30) (dX_goto (by decide +kernel)) (by decide +kernel), ?_⟩
  refine ⟨sn_iload_n (k := 2) (dX_iload_2 (by decide +kernel)) rfl (by decide +kernel), ?_⟩
  refine ⟨sn_iret rfl (dX_ireturn (by decide +kernel)), ?_⟩
  trivial
set_option maxRecDepth 100000 in
set_option maxHeartbeats 4000000 in
theorem S_94 : pAll (pSk RX0 cX0_setsWithNoneOf 4 (some .int) PC_94) 0 C_94 := by
  refine ⟨sn_iconst (dX_iconst_0 (by decide +kernel)) (by decide +kernel), ?_⟩
  refine ⟨sn_istore_n (k := 2) (dX_istore_2 (by decide +kernel)) rfl (by decide) (by decide +kernel), ?_⟩
  refine ⟨sn_iconst (dX_iconst_0 (by decide +kernel)) (by decide +kernel), ?_⟩
  refine ⟨sn_istore_n (k := 3) (dX_istore_3 (by decide +kernel)) rfl (by decide) (by decide +kernel), ?_⟩
  refine ⟨sn_iload_n (k := 3) (dX_iload_3 (by decide +kernel)) rfl (by decide +kernel), ?_⟩
  refine ⟨sn_aload_n (k := 0) (dX_aload_0 (by decide +kernel)) rfl (by decide +kernel), ?_⟩
  refine ⟨sn_getf (C := RX0) (T := TX0) (N := 13) (idx := 50) rfl pin0 (by decide) (by decide) rfl (pmt1 144 rfl (by decide +kernel)) rfl (dX_getfield (by decide +kernel)) (by decide +kernel), ?_⟩
  refine ⟨sn_icmp_ge (off := 26) (dX_if_icmpge (by decide +kernel)) (by decide +kernel) (by decide +kernel), ?_⟩
  refine ⟨sn_aload_n (k := 0) (dX_aload_0 (by decide +kernel)) rfl (by decide +kernel), ?_⟩
  refine ⟨sn_getf (C := RX0) (T := TX0) (N := 13) (idx := 30) rfl pin0 (by decide) (by decide) rfl (pmt1 125 rfl (by decide +kernel)) rfl (dX_getfield (by decide +kernel)) (by decide +kernel), ?_⟩
  refine ⟨sn_iload_n (k := 3) (dX_iload_3 (by decide +kernel)) rfl (by decide +kernel), ?_⟩
  refine ⟨sn_iald (dX_iaload (by decide +kernel)) (by decide +kernel), ?_⟩
  refine ⟨sn_iload_n (k := 1) (dX_iload_1 (by decide +kernel)) rfl (by decide +kernel), ?_⟩
  refine ⟨sn_iand (dX_iand (by decide +kernel)) (by decide +kernel), ?_⟩
  refine ⟨sn_if_ne (off := 9) (dX_ifne (by decide +kernel)) (by decide +kernel) (by decide +kernel), ?_⟩
  refine ⟨sn_iload_n (k := 2) (dX_iload_2 (by decide +kernel)) rfl (by decide +kernel), ?_⟩
  refine ⟨sn_iconst (dX_iconst_1 (by decide +kernel)) (by decide +kernel), ?_⟩
  refine ⟨sn_iload_n (k := 3) (dX_iload_3 (by decide +kernel)) rfl (by decide +kernel), ?_⟩
  refine ⟨sn_ishl (dX_ishl (by decide +kernel)) (by decide +kernel), ?_⟩
  refine ⟨sn_ior (dX_ior (by decide +kernel)) (by decide +kernel), ?_⟩
  refine ⟨sn_istore_n (k := 2) (dX_istore_2 (by decide +kernel)) rfl (by decide) (by decide +kernel), ?_⟩
  refine ⟨sn_iinc (dX_iinc (by decide +kernel)) (by decide) (by decide +kernel), ?_⟩
  refine ⟨sn_goto (off := -28) (dX_goto (by decide +kernel)) (by decide +kernel), ?_⟩
  refine ⟨sn_iload_n (k := 2) (dX_iload_2 (by decide +kernel)) rfl (by decide +kernel), ?_⟩
  refine ⟨sn_iret rfl (dX_ireturn (by decide +kernel)), ?_⟩
  trivial
set_option maxRecDepth 100000 in
set_option maxHeartbeats 4000000 in
theorem S_95 : pAll (pSk RX0 cX0_leaveSets 3 none PC_95) 0 C_95 := by
  refine ⟨sn_iconst (dX_iconst_0 (by decide +kernel)) (by decide +kernel), ?_⟩
  refine ⟨sn_istore_n (k := 2) (dX_istore_2 (by decide +kernel)) rfl (by decide) (by decide +kernel), ?_⟩
  refine ⟨sn_iload_n (k := 2) (dX_iload_2 (by decide +kernel)) rfl (by decide +kernel), ?_⟩
  refine ⟨sn_aload_n (k := 0) (dX_aload_0 (by decide +kernel)) rfl (by decide +kernel), ?_⟩
  refine ⟨sn_getf (C := RX0) (T := TX0) (N := 13) (idx := 50) rfl pin0 (by decide) (by decide) rfl (pmt1 144 rfl (by decide +kernel)) rfl (dX_getfield (by decide +kernel)) (by decide +kernel), ?_⟩
  refine ⟨sn_icmp_ge (off := 23) (dX_if_icmpge (by decide +kernel)) (by decide +kernel) (by decide +kernel), ?_⟩
  refine ⟨sn_aload_n (k := 0) (dX_aload_0 (by decide +kernel)) rfl (by decide +kernel), ?_⟩
  refine ⟨sn_getf (C := RX0) (T := TX0) (N := 13) (idx := 30) rfl pin0 (by decide) (by decide) rfl (pmt1 125 rfl (by decide +kernel)) rfl (dX_getfield (by decide +kernel)) (by decide +kernel), ?_⟩
  refine ⟨sn_iload_n (k := 2) (dX_iload_2 (by decide +kernel)) rfl (by decide +kernel), ?_⟩
  refine ⟨sn_dup2 (dX_dup2 (by decide +kernel)) (by decide +kernel), ?_⟩
  refine ⟨sn_iald (dX_iaload (by decide +kernel)) (by decide +kernel), ?_⟩
  refine ⟨sn_iconst (dX_iconst_1 (by decide +kernel)) (by decide +kernel), ?_⟩
  refine ⟨sn_iload_n (k := 1) (dX_iload_1 (by decide +kernel)) rfl (by decide +kernel), ?_⟩
  refine ⟨sn_ishl (dX_ishl (by decide +kernel)) (by decide +kernel), ?_⟩
  refine ⟨sn_iconst (dX_iconst_m1 (by decide +kernel)) (by decide +kernel), ?_⟩
  refine ⟨sn_ixor (dX_ixor (by decide +kernel)) (by decide +kernel), ?_⟩
  refine ⟨sn_iand (dX_iand (by decide +kernel)) (by decide +kernel), ?_⟩
  refine ⟨sn_iast (dX_iastore (by decide +kernel)) (by decide +kernel), ?_⟩
  refine ⟨sn_iinc (dX_iinc (by decide +kernel)) (by decide) (by decide +kernel), ?_⟩
  refine ⟨sn_goto (off := -25) (dX_goto (by decide +kernel)) (by decide +kernel), ?_⟩
  refine ⟨sn_vret rfl (dX_return (by decide +kernel)), ?_⟩
  trivial
set_option maxRecDepth 100000 in
set_option maxHeartbeats 4000000 in
theorem S_96 : pAll (pSk RX0 cX0_hangingOn 7 (some .int) PC_96) 0 C_96 := by
  refine ⟨sn_iconst (dX_iconst_1 (by decide +kernel)) (by decide +kernel), ?_⟩
  refine ⟨sn_iload_n (k := 1) (dX_iload_1 (by decide +kernel)) rfl (by decide +kernel), ?_⟩
  refine ⟨sn_ishl (dX_ishl (by decide +kernel)) (by decide +kernel), ?_⟩
  refine ⟨sn_istore (dX_istore (by decide +kernel)) (by decide) (by decide +kernel), ?_⟩
  refine ⟨sn_iconst (dX_iconst_0 (by decide +kernel)) (by decide +kernel), ?_⟩
  refine ⟨sn_istore (dX_istore (by decide +kernel)) (by decide) (by decide +kernel), ?_⟩
  refine ⟨sn_iload (dX_iload (by decide +kernel)) (by decide +kernel), ?_⟩
  refine ⟨sn_aload_n (k := 0) (dX_aload_0 (by decide +kernel)) rfl (by decide +kernel), ?_⟩
  refine ⟨sn_getf (C := RX0) (T := TX0) (N := 13) (idx := 50) rfl pin0 (by decide) (by decide) rfl (pmt1 144 rfl (by decide +kernel)) rfl (dX_getfield (by decide +kernel)) (by decide +kernel), ?_⟩
  refine ⟨sn_icmp_ge (off := 63) (dX_if_icmpge (by decide +kernel)) (by decide +kernel) (by decide +kernel), ?_⟩
  refine ⟨sn_iconst (dX_iconst_0 (by decide +kernel)) (by decide +kernel), ?_⟩
  refine ⟨sn_istore (dX_istore (by decide +kernel)) (by decide) (by decide +kernel), ?_⟩
  refine ⟨sn_iload (dX_iload (by decide +kernel)) (by decide +kernel), ?_⟩
  refine ⟨sn_aload_n (k := 0) (dX_aload_0 (by decide +kernel)) rfl (by decide +kernel), ?_⟩
  refine ⟨sn_getf (C := RX0) (T := TX0) (N := 13) (idx := 50) rfl pin0 (by decide) (by decide) rfl (pmt1 144 rfl (by decide +kernel)) rfl (dX_getfield (by decide +kernel)) (by decide +kernel), ?_⟩
  refine ⟨sn_icmp_ge (off := 45) (dX_if_icmpge (by decide +kernel)) (by decide +kernel) (by decide +kernel), ?_⟩
  refine ⟨sn_iload_n (k := 3) (dX_iload_3 (by decide +kernel)) rfl (by decide +kernel), ?_⟩
  refine ⟨sn_iload (dX_iload (by decide +kernel)) (by decide +kernel), ?_⟩
  refine ⟨sn_callSN (idx := 85) (host := "SetsStayTogether") cal_49 (pnest_of 85) (pmt3 66 rfl (by decide +kernel)) (dX_invokestatic (by decide +kernel)) (by decide +kernel), ?_⟩
  refine ⟨sn_if_eq (off := 30) (dX_ifeq (by decide +kernel)) (by decide +kernel) (by decide +kernel), ?_⟩
  refine ⟨sn_aload_n (k := 0) (dX_aload_0 (by decide +kernel)) rfl (by decide +kernel), ?_⟩
  refine ⟨sn_getf (C := RX0) (T := TX0) (N := 13) (idx := 30) rfl pin0 (by decide) (by decide) rfl (pmt1 125 rfl (by decide +kernel)) rfl (dX_getfield (by decide +kernel)) (by decide +kernel), ?_⟩
  refine ⟨sn_iload (dX_iload (by decide +kernel)) (by decide +kernel), ?_⟩
  refine ⟨sn_iald (dX_iaload (by decide +kernel)) (by decide +kernel), ?_⟩
  refine ⟨sn_iload (dX_iload (by decide +kernel)) (by decide +kernel), ?_⟩
  refine ⟨sn_iand (dX_iand (by decide +kernel)) (by decide +kernel), ?_⟩
  refine ⟨sn_if_eq (off := 17) (dX_ifeq (by decide +kernel)) (by decide +kernel) (by decide +kernel), ?_⟩
  refine ⟨sn_iload (dX_iload (by decide +kernel)) (by decide +kernel), ?_⟩
  refine ⟨sn_aload_n (k := 0) (dX_aload_0 (by decide +kernel)) rfl (by decide +kernel), ?_⟩
  refine ⟨sn_getf (C := RX0) (T := TX0) (N := 13) (idx := 30) rfl pin0 (by decide) (by decide) rfl (pmt1 125 rfl (by decide +kernel)) rfl (dX_getfield (by decide +kernel)) (by decide +kernel), ?_⟩
  refine ⟨sn_iload (dX_iload (by decide +kernel)) (by decide +kernel), ?_⟩
  refine ⟨sn_iald (dX_iaload (by decide +kernel)) (by decide +kernel), ?_⟩
  refine ⟨sn_iload_n (k := 2) (dX_iload_2 (by decide +kernel)) rfl (by decide +kernel), ?_⟩
  refine ⟨sn_iand (dX_iand (by decide +kernel)) (by decide +kernel), ?_⟩
  refine ⟨sn_ior (dX_ior (by decide +kernel)) (by decide +kernel), ?_⟩
  refine ⟨sn_istore (dX_istore (by decide +kernel)) (by decide) (by decide +kernel), ?_⟩
  refine ⟨sn_iinc (dX_iinc (by decide +kernel)) (by decide) (by decide +kernel), ?_⟩
  refine ⟨sn_goto (off := -48) (dX_goto (by decide +kernel)) (by decide +kernel), ?_⟩
  refine ⟨sn_iinc (dX_iinc (by decide +kernel)) (by decide) (by decide +kernel), ?_⟩
  refine ⟨sn_goto (off := -66) (dX_goto (by decide +kernel)) (by decide +kernel), ?_⟩
  refine ⟨sn_iload (dX_iload (by decide +kernel)) (by decide +kernel), ?_⟩
  refine ⟨sn_iret rfl (dX_ireturn (by decide +kernel)), ?_⟩
  trivial
set_option maxRecDepth 100000 in
set_option maxHeartbeats 4000000 in
theorem S_97 : pAll (pSk RX0 cX0_clumpsBy 6 (some .int) PC_97) 0 C_97 := by
  refine ⟨sn_iconst (dX_iconst_0 (by decide +kernel)) (by decide +kernel), ?_⟩
  refine ⟨sn_istore_n (k := 3) (dX_istore_3 (by decide +kernel)) rfl (by decide) (by decide +kernel), ?_⟩
  refine ⟨sn_iload_n (k := 1) (dX_iload_1 (by decide +kernel)) rfl (by decide +kernel), ?_⟩
  refine ⟨sn_istore (dX_istore (by decide +kernel)) (by decide) (by decide +kernel), ?_⟩
  refine ⟨sn_iconst (dX_iconst_0 (by decide +kernel)) (by decide +kernel), ?_⟩
  refine ⟨sn_istore (dX_istore (by decide +kernel)) (by decide) (by decide +kernel), ?_⟩
  refine ⟨sn_iload (dX_iload (by decide +kernel)) (by decide +kernel), ?_⟩
  refine ⟨sn_aload_n (k := 0) (dX_aload_0 (by decide +kernel)) rfl (by decide +kernel), ?_⟩
  refine ⟨sn_getf (C := RX0) (T := TX0) (N := 13) (idx := 47) rfl pin0 (by decide) (by decide) rfl (pmt1 139 rfl (by decide +kernel)) rfl (dX_getfield (by decide +kernel)) (by decide +kernel), ?_⟩
  refine ⟨sn_icmp_ge (off := 37) (dX_if_icmpge (by decide +kernel)) (by decide +kernel) (by decide +kernel), ?_⟩
  refine ⟨sn_iload (dX_iload (by decide +kernel)) (by decide +kernel), ?_⟩
  refine ⟨sn_iload (dX_iload (by decide +kernel)) (by decide +kernel), ?_⟩
  refine ⟨sn_callSN (idx := 85) (host := "SetsStayTogether") cal_49 (pnest_of 85) (pmt3 66 rfl (by decide +kernel)) (dX_invokestatic (by decide +kernel)) (by decide +kernel), ?_⟩
  refine ⟨sn_if_eq (off := 21) (dX_ifeq (by decide +kernel)) (by decide +kernel) (by decide +kernel), ?_⟩
  refine ⟨sn_iload (dX_iload (by decide +kernel)) (by decide +kernel), ?_⟩
  refine ⟨sn_aload_n (k := 0) (dX_aload_0 (by decide +kernel)) rfl (by decide +kernel), ?_⟩
  refine ⟨sn_iload (dX_iload (by decide +kernel)) (by decide +kernel), ?_⟩
  refine ⟨sn_iload_n (k := 1) (dX_iload_1 (by decide +kernel)) rfl (by decide +kernel), ?_⟩
  refine ⟨sn_iload_n (k := 2) (dX_iload_2 (by decide +kernel)) rfl (by decide +kernel), ?_⟩
  refine ⟨sn_callV (idx := 130) (C := RX0) (T := TX0) (N := 13) rfl (by decide) cal_96 (pmt3 72 rfl (by decide +kernel)) (pmt3 74 rfl (by decide +kernel)) (pms 5 rfl rfl) (dX_invokevirtual (by decide +kernel)) (by decide +kernel), ?_⟩
  refine ⟨sn_iconst (dX_iconst_m1 (by decide +kernel)) (by decide +kernel), ?_⟩
  refine ⟨sn_ixor (dX_ixor (by decide +kernel)) (by decide +kernel), ?_⟩
  refine ⟨sn_iand (dX_iand (by decide +kernel)) (by decide +kernel), ?_⟩
  refine ⟨sn_istore (dX_istore (by decide +kernel)) (by decide) (by decide +kernel), ?_⟩
  refine ⟨sn_iinc (dX_iinc (by decide +kernel)) (by decide) (by decide +kernel), ?_⟩
  refine ⟨sn_iinc (dX_iinc (by decide +kernel)) (by decide) (by decide +kernel), ?_⟩
  refine ⟨sn_goto (off := -40) (dX_goto (by decide +kernel)) (by decide +kernel), ?_⟩
  refine ⟨sn_iload_n (k := 3) (dX_iload_3 (by decide +kernel)) rfl (by decide +kernel), ?_⟩
  refine ⟨sn_iret rfl (dX_ireturn (by decide +kernel)), ?_⟩
  trivial
set_option maxRecDepth 100000 in
set_option maxHeartbeats 4000000 in
theorem S_98 : pAll (pSk RX0 cX0_hang 4 none PC_98) 0 C_98 := by
  refine ⟨sn_aload_n (k := 0) (dX_aload_0 (by decide +kernel)) rfl (by decide +kernel), ?_⟩
  refine ⟨sn_iconst (dX_iconst_0 (by decide +kernel)) (by decide +kernel), ?_⟩
  refine ⟨sn_puti (C := RX0) (T := TX0) (N := 13) (idx := 53) rfl pin0 (by decide) (by decide) rfl tyX0 tyX0_ok nmX0 rfl rfl (by decide +kernel) (pmt1 149 rfl (by decide +kernel)) rfl (dX_putfield (by decide +kernel)) (by decide +kernel), ?_⟩
  refine ⟨sn_aload_n (k := 0) (dX_aload_0 (by decide +kernel)) rfl (by decide +kernel), ?_⟩
  refine ⟨sn_callV (idx := 133) (C := RX0) (T := TX0) (N := 13) rfl (by decide) cal_67 (pmt3 61 rfl (by decide +kernel)) (pmt3 62 rfl (by decide +kernel)) (pmt3 63 rfl (by decide +kernel)) (dX_invokevirtual (by decide +kernel)) (by decide +kernel), ?_⟩
  refine ⟨sn_istore_n (k := 1) (dX_istore_1 (by decide +kernel)) rfl (by decide) (by decide +kernel), ?_⟩
  refine ⟨sn_iconst (dX_iconst_0 (by decide +kernel)) (by decide +kernel), ?_⟩
  refine ⟨sn_istore_n (k := 2) (dX_istore_2 (by decide +kernel)) rfl (by decide) (by decide +kernel), ?_⟩
  refine ⟨sn_iload_n (k := 2) (dX_iload_2 (by decide +kernel)) rfl (by decide +kernel), ?_⟩
  refine ⟨sn_aload_n (k := 0) (dX_aload_0 (by decide +kernel)) rfl (by decide +kernel), ?_⟩
  refine ⟨sn_getf (C := RX0) (T := TX0) (N := 13) (idx := 47) rfl pin0 (by decide) (by decide) rfl (pmt1 139 rfl (by decide +kernel)) rfl (dX_getfield (by decide +kernel)) (by decide +kernel), ?_⟩
  refine ⟨sn_icmp_ge (off := 42) (dX_if_icmpge (by decide +kernel)) (by decide +kernel) (by decide +kernel), ?_⟩
  refine ⟨sn_iload_n (k := 1) (dX_iload_1 (by decide +kernel)) rfl (by decide +kernel), ?_⟩
  refine ⟨sn_iload_n (k := 2) (dX_iload_2 (by decide +kernel)) rfl (by decide +kernel), ?_⟩
  refine ⟨sn_callSN (idx := 85) (host := "SetsStayTogether") cal_49 (pnest_of 85) (pmt3 66 rfl (by decide +kernel)) (dX_invokestatic (by decide +kernel)) (by decide +kernel), ?_⟩
  refine ⟨sn_if_eq (off := 28) (dX_ifeq (by decide +kernel)) (by decide +kernel) (by decide +kernel), ?_⟩
  refine ⟨sn_aload_n (k := 0) (dX_aload_0 (by decide +kernel)) rfl (by decide +kernel), ?_⟩
  refine ⟨sn_iload_n (k := 2) (dX_iload_2 (by decide +kernel)) rfl (by decide +kernel), ?_⟩
  refine ⟨sn_aload_n (k := 0) (dX_aload_0 (by decide +kernel)) rfl (by decide +kernel), ?_⟩
  refine ⟨sn_callV (idx := 133) (C := RX0) (T := TX0) (N := 13) rfl (by decide) cal_67 (pmt3 61 rfl (by decide +kernel)) (pmt3 62 rfl (by decide +kernel)) (pmt3 63 rfl (by decide +kernel)) (dX_invokevirtual (by decide +kernel)) (by decide +kernel), ?_⟩
  refine ⟨sn_aload_n (k := 0) (dX_aload_0 (by decide +kernel)) rfl (by decide +kernel), ?_⟩
  refine ⟨sn_callV (idx := 137) (C := RX0) (T := TX0) (N := 13) rfl (by decide) cal_68 (pmt3 68 rfl (by decide +kernel)) (pmt3 69 rfl (by decide +kernel)) (pmt3 70 rfl (by decide +kernel)) (dX_invokevirtual (by decide +kernel)) (by decide +kernel), ?_⟩
  refine ⟨sn_callV (idx := 130) (C := RX0) (T := TX0) (N := 13) rfl (by decide) cal_96 (pmt3 72 rfl (by decide +kernel)) (pmt3 74 rfl (by decide +kernel)) (pms 5 rfl rfl) (dX_invokevirtual (by decide +kernel)) (by decide +kernel), ?_⟩
  refine ⟨sn_istore_n (k := 3) (dX_istore_3 (by decide +kernel)) rfl (by decide) (by decide +kernel), ?_⟩
  refine ⟨sn_iload_n (k := 1) (dX_iload_1 (by decide +kernel)) rfl (by decide +kernel), ?_⟩
  refine ⟨sn_iload_n (k := 3) (dX_iload_3 (by decide +kernel)) rfl (by decide +kernel), ?_⟩
  refine ⟨sn_iconst (dX_iconst_m1 (by decide +kernel)) (by decide +kernel), ?_⟩
  refine ⟨sn_ixor (dX_ixor (by decide +kernel)) (by decide +kernel), ?_⟩
  refine ⟨sn_iand (dX_iand (by decide +kernel)) (by decide +kernel), ?_⟩
  refine ⟨sn_istore_n (k := 1) (dX_istore_1 (by decide +kernel)) rfl (by decide) (by decide +kernel), ?_⟩
  refine ⟨sn_aload_n (k := 0) (dX_aload_0 (by decide +kernel)) rfl (by decide +kernel), ?_⟩
  refine ⟨sn_iload_n (k := 3) (dX_iload_3 (by decide +kernel)) rfl (by decide +kernel), ?_⟩
  refine ⟨sn_callV (idx := 140) (C := RX0) (T := TX0) (N := 13) rfl (by decide) cal_99 (pmt3 76 rfl (by decide +kernel)) (pmt3 78 rfl (by decide +kernel)) (pms 6 rfl rfl) (dX_invokevirtual (by decide +kernel)) (by decide +kernel), ?_⟩
  refine ⟨sn_iinc (dX_iinc (by decide +kernel)) (by decide) (by decide +kernel), ?_⟩
  refine ⟨sn_goto (off := -44) (dX_goto (by decide +kernel)) (by decide +kernel), ?_⟩
  refine ⟨sn_vret rfl (dX_return (by decide +kernel)), ?_⟩
  trivial
set_option maxRecDepth 100000 in
set_option maxHeartbeats 4000000 in
theorem S_99 : pAll (pSk RX0 cX0_addClump 3 none PC_99) 0 C_99 := by
  refine ⟨sn_aload_n (k := 0) (dX_aload_0 (by decide +kernel)) rfl (by decide +kernel), ?_⟩
  refine ⟨sn_getf (C := RX0) (T := TX0) (N := 13) (idx := 53) rfl pin0 (by decide) (by decide) rfl (pmt1 149 rfl (by decide +kernel)) rfl (dX_getfield (by decide +kernel)) (by decide +kernel), ?_⟩
  refine ⟨sn_if_lt (off := 66) (dX_iflt (by decide +kernel)) (by decide +kernel) (by decide +kernel), ?_⟩
  refine ⟨sn_aload_n (k := 0) (dX_aload_0 (by decide +kernel)) rfl (by decide +kernel), ?_⟩
  refine ⟨sn_getf (C := RX0) (T := TX0) (N := 13) (idx := 53) rfl pin0 (by decide) (by decide) rfl (pmt1 149 rfl (by decide +kernel)) rfl (dX_getfield (by decide +kernel)) (by decide +kernel), ?_⟩
  refine ⟨sn_bipush (dX_bipush (by decide +kernel)) (by decide +kernel) (by decide +kernel), ?_⟩
  refine ⟨sn_icmp_ge (off := 57) (dX_if_icmpge (by decide +kernel)) (by decide +kernel) (by decide +kernel), ?_⟩
  refine ⟨sn_aload_n (k := 0) (dX_aload_0 (by decide +kernel)) rfl (by decide +kernel), ?_⟩
  refine ⟨sn_getf (C := RX0) (T := TX0) (N := 13) (idx := 33) rfl pin0 (by decide) (by decide) rfl (pmt1 127 rfl (by decide +kernel)) rfl (dX_getfield (by decide +kernel)) (by decide +kernel), ?_⟩
  refine ⟨sn_aload_n (k := 0) (dX_aload_0 (by decide +kernel)) rfl (by decide +kernel), ?_⟩
  refine ⟨sn_getf (C := RX0) (T := TX0) (N := 13) (idx := 53) rfl pin0 (by decide) (by decide) rfl (pmt1 149 rfl (by decide +kernel)) rfl (dX_getfield (by decide +kernel)) (by decide +kernel), ?_⟩
  refine ⟨sn_iload_n (k := 1) (dX_iload_1 (by decide +kernel)) rfl (by decide +kernel), ?_⟩
  refine ⟨sn_iast (dX_iastore (by decide +kernel)) (by decide +kernel), ?_⟩
  refine ⟨sn_iconst (dX_iconst_0 (by decide +kernel)) (by decide +kernel), ?_⟩
  refine ⟨sn_istore_n (k := 2) (dX_istore_2 (by decide +kernel)) rfl (by decide) (by decide +kernel), ?_⟩
  refine ⟨sn_iload_n (k := 2) (dX_iload_2 (by decide +kernel)) rfl (by decide +kernel), ?_⟩
  refine ⟨sn_aload_n (k := 0) (dX_aload_0 (by decide +kernel)) rfl (by decide +kernel), ?_⟩
  refine ⟨sn_getf (C := RX0) (T := TX0) (N := 13) (idx := 47) rfl pin0 (by decide) (by decide) rfl (pmt1 139 rfl (by decide +kernel)) rfl (dX_getfield (by decide +kernel)) (by decide +kernel), ?_⟩
  refine ⟨sn_icmp_ge (off := 27) (dX_if_icmpge (by decide +kernel)) (by decide +kernel) (by decide +kernel), ?_⟩
  refine ⟨sn_iload_n (k := 1) (dX_iload_1 (by decide +kernel)) rfl (by decide +kernel), ?_⟩
  refine ⟨sn_iload_n (k := 2) (dX_iload_2 (by decide +kernel)) rfl (by decide +kernel), ?_⟩
  refine ⟨sn_callSN (idx := 85) (host := "SetsStayTogether") cal_49 (pnest_of 85) (pmt3 66 rfl (by decide +kernel)) (dX_invokestatic (by decide +kernel)) (by decide +kernel), ?_⟩
  refine ⟨sn_if_eq (off := 13) (dX_ifeq (by decide +kernel)) (by decide +kernel) (by decide +kernel), ?_⟩
  refine ⟨sn_aload_n (k := 0) (dX_aload_0 (by decide +kernel)) rfl (by decide +kernel), ?_⟩
  refine ⟨sn_getf (C := RX0) (T := TX0) (N := 13) (idx := 36) rfl pin0 (by decide) (by decide) rfl (pmt1 129 rfl (by decide +kernel)) rfl (dX_getfield (by decide +kernel)) (by decide +kernel), ?_⟩
  refine ⟨sn_iload_n (k := 2) (dX_iload_2 (by decide +kernel)) rfl (by decide +kernel), ?_⟩
  refine ⟨sn_aload_n (k := 0) (dX_aload_0 (by decide +kernel)) rfl (by decide +kernel), ?_⟩
  refine ⟨sn_getf (C := RX0) (T := TX0) (N := 13) (idx := 53) rfl pin0 (by decide) (by decide) rfl (pmt1 149 rfl (by decide +kernel)) rfl (dX_getfield (by decide +kernel)) (by decide +kernel), ?_⟩
  refine ⟨sn_iast (dX_iastore (by decide +kernel)) (by decide +kernel), ?_⟩
  refine ⟨sn_iinc (dX_iinc (by decide +kernel)) (by decide) (by decide +kernel), ?_⟩
  refine ⟨sn_goto (off := -29) (dX_goto (by decide +kernel)) (by decide +kernel), ?_⟩
  refine ⟨sn_aload_n (k := 0) (dX_aload_0 (by decide +kernel)) rfl (by decide +kernel), ?_⟩
  refine ⟨sn_dup (dX_dup (by decide +kernel)) (by decide +kernel), ?_⟩
  refine ⟨sn_getf (C := RX0) (T := TX0) (N := 13) (idx := 53) rfl pin0 (by decide) (by decide) rfl (pmt1 149 rfl (by decide +kernel)) rfl (dX_getfield (by decide +kernel)) (by decide +kernel), ?_⟩
  refine ⟨sn_iconst (dX_iconst_1 (by decide +kernel)) (by decide +kernel), ?_⟩
  refine ⟨sn_iadd (dX_iadd (by decide +kernel)) (by decide +kernel), ?_⟩
  refine ⟨sn_puti (C := RX0) (T := TX0) (N := 13) (idx := 53) rfl pin0 (by decide) (by decide) rfl tyX0 tyX0_ok nmX0 rfl rfl (by decide +kernel) (pmt1 149 rfl (by decide +kernel)) rfl (dX_putfield (by decide +kernel)) (by decide +kernel), ?_⟩
  refine ⟨sn_vret rfl (dX_return (by decide +kernel)), ?_⟩
  trivial
set_option maxRecDepth 100000 in
set_option maxHeartbeats 4000000 in
theorem S_100 : pAll (pSk RX0 cX0_leastOf 2 (some .int) PC_100) 0 C_100 := by
  refine ⟨sn_aload_n (k := 0) (dX_aload_0 (by decide +kernel)) rfl (by decide +kernel), ?_⟩
  refine ⟨sn_getf (C := RX0) (T := TX0) (N := 13) (idx := 33) rfl pin0 (by decide) (by decide) rfl (pmt1 127 rfl (by decide +kernel)) rfl (dX_getfield (by decide +kernel)) (by decide +kernel), ?_⟩
  refine ⟨sn_iload_n (k := 1) (dX_iload_1 (by decide +kernel)) rfl (by decide +kernel), ?_⟩
  refine ⟨sn_callSN (idx := 98) (host := "SetsStayTogether") cal_47 (pnest_of 98) (pmt4 25 rfl (by decide +kernel)) (dX_invokestatic (by decide +kernel)) (by decide +kernel), ?_⟩
  refine ⟨sn_callS (idx := 144) cal_271 (pmt5 64 rfl (by decide +kernel)) (pmt5 65 rfl (by decide +kernel)) (dX_invokestatic (by decide +kernel)) (by decide +kernel), ?_⟩
  refine ⟨sn_iret rfl (dX_ireturn (by decide +kernel)), ?_⟩
  trivial
set_option maxRecDepth 100000 in
set_option maxHeartbeats 4000000 in
theorem S_101 : pAll (pSk RX0 cX0_clumpBulk 2 (some .int) PC_101) 0 C_101 := by
  refine ⟨sn_aload_n (k := 0) (dX_aload_0 (by decide +kernel)) rfl (by decide +kernel), ?_⟩
  refine ⟨sn_aload_n (k := 0) (dX_aload_0 (by decide +kernel)) rfl (by decide +kernel), ?_⟩
  refine ⟨sn_getf (C := RX0) (T := TX0) (N := 13) (idx := 33) rfl pin0 (by decide) (by decide) rfl (pmt1 127 rfl (by decide +kernel)) rfl (dX_getfield (by decide +kernel)) (by decide +kernel), ?_⟩
  refine ⟨sn_iload_n (k := 1) (dX_iload_1 (by decide +kernel)) rfl (by decide +kernel), ?_⟩
  refine ⟨sn_callSN (idx := 98) (host := "SetsStayTogether") cal_47 (pnest_of 98) (pmt4 25 rfl (by decide +kernel)) (dX_invokestatic (by decide +kernel)) (by decide +kernel), ?_⟩
  refine ⟨sn_callV (idx := 113) (C := RX0) (T := TX0) (N := 13) rfl (by decide) cal_102 (pmt4 77 rfl (by decide +kernel)) (pmt4 78 rfl (by decide +kernel)) (pmt4 79 rfl (by decide +kernel)) (dX_invokevirtual (by decide +kernel)) (by decide +kernel), ?_⟩
  refine ⟨sn_iret rfl (dX_ireturn (by decide +kernel)), ?_⟩
  trivial
set_option maxRecDepth 100000 in
set_option maxHeartbeats 4000000 in
theorem S_102 : pAll (pSk RX0 cX0_bulkOf 4 (some .int) PC_102) 0 C_102 := by
  refine ⟨sn_iconst (dX_iconst_0 (by decide +kernel)) (by decide +kernel), ?_⟩
  refine ⟨sn_istore_n (k := 2) (dX_istore_2 (by decide +kernel)) rfl (by decide) (by decide +kernel), ?_⟩
  refine ⟨sn_iconst (dX_iconst_0 (by decide +kernel)) (by decide +kernel), ?_⟩
  refine ⟨sn_istore_n (k := 3) (dX_istore_3 (by decide +kernel)) rfl (by decide) (by decide +kernel), ?_⟩
  refine ⟨sn_iload_n (k := 3) (dX_iload_3 (by decide +kernel)) rfl (by decide +kernel), ?_⟩
  refine ⟨sn_aload_n (k := 0) (dX_aload_0 (by decide +kernel)) rfl (by decide +kernel), ?_⟩
  refine ⟨sn_getf (C := RX0) (T := TX0) (N := 13) (idx := 47) rfl pin0 (by decide) (by decide) rfl (pmt1 139 rfl (by decide +kernel)) rfl (dX_getfield (by decide +kernel)) (by decide +kernel), ?_⟩
  refine ⟨sn_icmp_ge (off := 30) (dX_if_icmpge (by decide +kernel)) (by decide +kernel) (by decide +kernel), ?_⟩
  refine ⟨sn_iload_n (k := 2) (dX_iload_2 (by decide +kernel)) rfl (by decide +kernel), ?_⟩
  refine ⟨sn_iload_n (k := 1) (dX_iload_1 (by decide +kernel)) rfl (by decide +kernel), ?_⟩
  refine ⟨sn_iload_n (k := 3) (dX_iload_3 (by decide +kernel)) rfl (by decide +kernel), ?_⟩
  refine ⟨sn_callSN (idx := 85) (host := "SetsStayTogether") cal_49 (pnest_of 85) (pmt3 66 rfl (by decide +kernel)) (dX_invokestatic (by decide +kernel)) (by decide +kernel), ?_⟩
  refine ⟨sn_if_eq (off := 12) (dX_ifeq (by decide +kernel)) (by decide +kernel) (by decide +kernel), ?_⟩
  refine ⟨sn_aload_n (k := 0) (dX_aload_0 (by decide +kernel)) rfl (by decide +kernel), ?_⟩
  refine ⟨sn_getf (C := RX0) (T := TX0) (N := 13) (idx := 18) rfl pin0 (by decide) (by decide) rfl (pmt1 110 rfl (by decide +kernel)) rfl (dX_getfield (by decide +kernel)) (by decide +kernel), ?_⟩
  refine ⟨sn_iload_n (k := 3) (dX_iload_3 (by decide +kernel)) rfl (by decide +kernel), ?_⟩
  refine ⟨sn_iald (dX_iaload (by decide +kernel)) (by decide +kernel), ?_⟩
  refine ⟨sn_goto (off := 4) (dX_goto (by decide +kernel)) (by decide +kernel), ?_⟩
  refine ⟨sn_iconst (dX_iconst_0 (by decide +kernel)) (by decide +kernel), ?_⟩
  refine ⟨sn_iadd (dX_iadd (by decide +kernel)) (by decide +kernel), ?_⟩
  refine ⟨sn_istore_n (k := 2) (dX_istore_2 (by decide +kernel)) rfl (by decide) (by decide +kernel), ?_⟩
  refine ⟨sn_iinc (dX_iinc (by decide +kernel)) (by decide) (by decide +kernel), ?_⟩
  refine ⟨sn_goto (off := -32) (dX_goto (by decide +kernel)) (by decide +kernel), ?_⟩
  refine ⟨sn_iload_n (k := 2) (dX_iload_2 (by decide +kernel)) rfl (by decide +kernel), ?_⟩
  refine ⟨sn_iret rfl (dX_ireturn (by decide +kernel)), ?_⟩
  trivial
set_option maxRecDepth 100000 in
set_option maxHeartbeats 4000000 in
theorem S_103 : pAll (pSk RX0 cX0_roomsFor 4 (some .int) PC_103) 0 C_103 := by
  refine ⟨sn_iconst (dX_iconst_0 (by decide +kernel)) (by decide +kernel), ?_⟩
  refine ⟨sn_istore_n (k := 2) (dX_istore_2 (by decide +kernel)) rfl (by decide) (by decide +kernel), ?_⟩
  refine ⟨sn_iconst (dX_iconst_0 (by decide +kernel)) (by decide +kernel), ?_⟩
  refine ⟨sn_istore_n (k := 3) (dX_istore_3 (by decide +kernel)) rfl (by decide) (by decide +kernel), ?_⟩
  refine ⟨sn_iload_n (k := 3) (dX_iload_3 (by decide +kernel)) rfl (by decide +kernel), ?_⟩
  refine ⟨sn_aload_n (k := 0) (dX_aload_0 (by decide +kernel)) rfl (by decide +kernel), ?_⟩
  refine ⟨sn_getf (C := RX0) (T := TX0) (N := 13) (idx := 43) rfl pin0 (by decide) (by decide) rfl (pmt1 135 rfl (by decide +kernel)) rfl (dX_getfield (by decide +kernel)) (by decide +kernel), ?_⟩
  refine ⟨sn_icmp_ge (off := 25) (dX_if_icmpge (by decide +kernel)) (by decide +kernel) (by decide +kernel), ?_⟩
  refine ⟨sn_aload_n (k := 0) (dX_aload_0 (by decide +kernel)) rfl (by decide +kernel), ?_⟩
  refine ⟨sn_getf (C := RX0) (T := TX0) (N := 13) (idx := 9) rfl pin0 (by decide) (by decide) rfl (pmt1 105 rfl (by decide +kernel)) rfl (dX_getfield (by decide +kernel)) (by decide +kernel), ?_⟩
  refine ⟨sn_iload_n (k := 3) (dX_iload_3 (by decide +kernel)) rfl (by decide +kernel), ?_⟩
  refine ⟨sn_iald (dX_iaload (by decide +kernel)) (by decide +kernel), ?_⟩
  refine ⟨sn_iload_n (k := 1) (dX_iload_1 (by decide +kernel)) rfl (by decide +kernel), ?_⟩
  refine ⟨sn_icmp_lt (off := 9) (dX_if_icmplt (by decide +kernel)) (by decide +kernel) (by decide +kernel), ?_⟩
  refine ⟨sn_iload_n (k := 2) (dX_iload_2 (by decide +kernel)) rfl (by decide +kernel), ?_⟩
  refine ⟨sn_iconst (dX_iconst_1 (by decide +kernel)) (by decide +kernel), ?_⟩
  refine ⟨sn_iload_n (k := 3) (dX_iload_3 (by decide +kernel)) rfl (by decide +kernel), ?_⟩
  refine ⟨sn_ishl (dX_ishl (by decide +kernel)) (by decide +kernel), ?_⟩
  refine ⟨sn_ior (dX_ior (by decide +kernel)) (by decide +kernel), ?_⟩
  refine ⟨sn_istore_n (k := 2) (dX_istore_2 (by decide +kernel)) rfl (by decide) (by decide +kernel), ?_⟩
  refine ⟨sn_iinc (dX_iinc (by decide +kernel)) (by decide) (by decide +kernel), ?_⟩
  refine ⟨sn_goto (off := -27) (dX_goto (by decide +kernel)) (by decide +kernel), ?_⟩
  refine ⟨sn_iload_n (k := 2) (dX_iload_2 (by decide +kernel)) rfl (by decide +kernel), ?_⟩
  refine ⟨sn_iret rfl (dX_ireturn (by decide +kernel)), ?_⟩
  trivial
set_option maxRecDepth 100000 in
set_option maxHeartbeats 4000000 in
theorem S_104 : pAll (pSk RX0 cX0_thingsOf 4 (some .int) PC_104) 0 C_104 := by
  refine ⟨sn_iconst (dX_iconst_0 (by decide +kernel)) (by decide +kernel), ?_⟩
  refine ⟨sn_istore_n (k := 2) (dX_istore_2 (by decide +kernel)) rfl (by decide) (by decide +kernel), ?_⟩
  refine ⟨sn_iconst (dX_iconst_0 (by decide +kernel)) (by decide +kernel), ?_⟩
  refine ⟨sn_istore_n (k := 3) (dX_istore_3 (by decide +kernel)) rfl (by decide) (by decide +kernel), ?_⟩
  refine ⟨sn_iload_n (k := 3) (dX_iload_3 (by decide +kernel)) rfl (by decide +kernel), ?_⟩
  refine ⟨sn_aload_n (k := 0) (dX_aload_0 (by decide +kernel)) rfl (by decide +kernel), ?_⟩
  refine ⟨sn_getf (C := RX0) (T := TX0) (N := 13) (idx := 53) rfl pin0 (by decide) (by decide) rfl (pmt1 149 rfl (by decide +kernel)) rfl (dX_getfield (by decide +kernel)) (by decide +kernel), ?_⟩
  refine ⟨sn_icmp_ge (off := 26) (dX_if_icmpge (by decide +kernel)) (by decide +kernel) (by decide +kernel), ?_⟩
  refine ⟨sn_iload_n (k := 1) (dX_iload_1 (by decide +kernel)) rfl (by decide +kernel), ?_⟩
  refine ⟨sn_iload_n (k := 3) (dX_iload_3 (by decide +kernel)) rfl (by decide +kernel), ?_⟩
  refine ⟨sn_callSN (idx := 85) (host := "SetsStayTogether") cal_49 (pnest_of 85) (pmt3 66 rfl (by decide +kernel)) (dX_invokestatic (by decide +kernel)) (by decide +kernel), ?_⟩
  refine ⟨sn_if_eq (off := 12) (dX_ifeq (by decide +kernel)) (by decide +kernel) (by decide +kernel), ?_⟩
  refine ⟨sn_iload_n (k := 2) (dX_iload_2 (by decide +kernel)) rfl (by decide +kernel), ?_⟩
  refine ⟨sn_aload_n (k := 0) (dX_aload_0 (by decide +kernel)) rfl (by decide +kernel), ?_⟩
  refine ⟨sn_getf (C := RX0) (T := TX0) (N := 13) (idx := 33) rfl pin0 (by decide) (by decide) rfl (pmt1 127 rfl (by decide +kernel)) rfl (dX_getfield (by decide +kernel)) (by decide +kernel), ?_⟩
  refine ⟨sn_iload_n (k := 3) (dX_iload_3 (by decide +kernel)) rfl (by decide +kernel), ?_⟩
  refine ⟨sn_iald (dX_iaload (by decide +kernel)) (by decide +kernel), ?_⟩
  refine ⟨sn_ior (dX_ior (by decide +kernel)) (by decide +kernel), ?_⟩
  refine ⟨sn_istore_n (k := 2) (dX_istore_2 (by decide +kernel)) rfl (by decide) (by decide +kernel), ?_⟩
  refine ⟨sn_iinc (dX_iinc (by decide +kernel)) (by decide) (by decide +kernel), ?_⟩
  refine ⟨sn_goto (off := -28) (dX_goto (by decide +kernel)) (by decide +kernel), ?_⟩
  refine ⟨sn_iload_n (k := 2) (dX_iload_2 (by decide +kernel)) rfl (by decide +kernel), ?_⟩
  refine ⟨sn_iret rfl (dX_ireturn (by decide +kernel)), ?_⟩
  trivial
set_option maxRecDepth 100000 in
set_option maxHeartbeats 4000000 in
theorem S_105 : pAll (pSk RX0 cX0_clumpsIn 4 (some .int) PC_105) 0 C_105 := by
  refine ⟨sn_iconst (dX_iconst_0 (by decide +kernel)) (by decide +kernel), ?_⟩
  refine ⟨sn_istore_n (k := 2) (dX_istore_2 (by decide +kernel)) rfl (by decide) (by decide +kernel), ?_⟩
  refine ⟨sn_iconst (dX_iconst_0 (by decide +kernel)) (by decide +kernel), ?_⟩
  refine ⟨sn_istore_n (k := 3) (dX_istore_3 (by decide +kernel)) rfl (by decide) (by decide +kernel), ?_⟩
  refine ⟨sn_iload_n (k := 3) (dX_iload_3 (by decide +kernel)) rfl (by decide +kernel), ?_⟩
  refine ⟨sn_aload_n (k := 0) (dX_aload_0 (by decide +kernel)) rfl (by decide +kernel), ?_⟩
  refine ⟨sn_getf (C := RX0) (T := TX0) (N := 13) (idx := 47) rfl pin0 (by decide) (by decide) rfl (pmt1 139 rfl (by decide +kernel)) rfl (dX_getfield (by decide +kernel)) (by decide +kernel), ?_⟩
  refine ⟨sn_icmp_ge (off := 30) (dX_if_icmpge (by decide +kernel)) (by decide +kernel) (by decide +kernel), ?_⟩
  refine ⟨sn_aload_n (k := 0) (dX_aload_0 (by decide +kernel)) rfl (by decide +kernel), ?_⟩
  refine ⟨sn_iload_n (k := 3) (dX_iload_3 (by decide +kernel)) rfl (by decide +kernel), ?_⟩
  refine ⟨sn_callV (idx := 147) (C := RX0) (T := TX0) (N := 13) rfl (by decide) cal_93 (pmt5 49 rfl (by decide +kernel)) (pmt4 232 rfl (by decide +kernel)) (pmt4 233 rfl (by decide +kernel)) (dX_invokevirtual (by decide +kernel)) (by decide +kernel), ?_⟩
  refine ⟨sn_iload_n (k := 1) (dX_iload_1 (by decide +kernel)) rfl (by decide +kernel), ?_⟩
  refine ⟨sn_iand (dX_iand (by decide +kernel)) (by decide +kernel), ?_⟩
  refine ⟨sn_if_eq (off := 14) (dX_ifeq (by decide +kernel)) (by decide +kernel) (by decide +kernel), ?_⟩
  refine ⟨sn_iload_n (k := 2) (dX_iload_2 (by decide +kernel)) rfl (by decide +kernel), ?_⟩
  refine ⟨sn_iconst (dX_iconst_1 (by decide +kernel)) (by decide +kernel), ?_⟩
  refine ⟨sn_aload_n (k := 0) (dX_aload_0 (by decide +kernel)) rfl (by decide +kernel), ?_⟩
  refine ⟨sn_getf (C := RX0) (T := TX0) (N := 13) (idx := 36) rfl pin0 (by decide) (by decide) rfl (pmt1 129 rfl (by decide +kernel)) rfl (dX_getfield (by decide +kernel)) (by decide +kernel), ?_⟩
  refine ⟨sn_iload_n (k := 3) (dX_iload_3 (by decide +kernel)) rfl (by decide +kernel), ?_⟩
  refine ⟨sn_iald (dX_iaload (by decide +kernel)) (by decide +kernel), ?_⟩
  refine ⟨sn_ishl (dX_ishl (by decide +kernel)) (by decide +kernel), ?_⟩
  refine ⟨sn_ior (dX_ior (by decide +kernel)) (by decide +kernel), ?_⟩
  refine ⟨sn_istore_n (k := 2) (dX_istore_2 (by decide +kernel)) rfl (by decide) (by decide +kernel), ?_⟩
  refine ⟨sn_iinc (dX_iinc (by decide +kernel)) (by decide) (by decide +kernel), ?_⟩
  refine ⟨sn_goto (off := -32) (dX_goto (by decide +kernel)) (by decide +kernel), ?_⟩
  refine ⟨sn_iload_n (k := 2) (dX_iload_2 (by decide +kernel)) rfl (by decide +kernel), ?_⟩
  refine ⟨sn_iret rfl (dX_ireturn (by decide +kernel)), ?_⟩
  trivial
set_option maxRecDepth 100000 in
set_option maxHeartbeats 4000000 in
theorem S_106 : pAll (pSk RX0 cX0_isLessToSell 5 (some .boolean) PC_106) 0 C_106 := by
  refine ⟨sn_iload_n (k := 2) (dX_iload_2 (by decide +kernel)) rfl (by decide +kernel), ?_⟩
  refine ⟨sn_callS (idx := 68) cal_270 (pmt5 94 rfl (by decide +kernel)) (pmt4 236 rfl (by decide +kernel)) (dX_invokestatic (by decide +kernel)) (by decide +kernel), ?_⟩
  refine ⟨sn_iload_n (k := 1) (dX_iload_1 (by decide +kernel)) rfl (by decide +kernel), ?_⟩
  refine ⟨sn_callS (idx := 68) cal_270 (pmt5 94 rfl (by decide +kernel)) (pmt4 236 rfl (by decide +kernel)) (dX_invokestatic (by decide +kernel)) (by decide +kernel), ?_⟩
  refine ⟨sn_isub (dX_isub (by decide +kernel)) (by decide +kernel), ?_⟩
  refine ⟨sn_istore_n (k := 3) (dX_istore_3 (by decide +kernel)) rfl (by decide) (by decide +kernel), ?_⟩
  refine ⟨sn_iload_n (k := 3) (dX_iload_3 (by decide +kernel)) rfl (by decide +kernel), ?_⟩
  refine ⟨sn_if_eq (off := 13) (dX_ifeq (by decide +kernel)) (by decide +kernel) (by decide +kernel), ?_⟩
  refine ⟨sn_iload_n (k := 3) (dX_iload_3 (by decide +kernel)) rfl (by decide +kernel), ?_⟩
  refine ⟨sn_if_le (off := 7) (dX_ifle (by decide +kernel)) (by decide +kernel) (by decide +kernel), ?_⟩
  refine ⟨sn_iconst (dX_iconst_1 (by decide +kernel)) (by decide +kernel), ?_⟩
  refine ⟨sn_goto (off := 4) (dX_goto (by decide +kernel)) (by decide +kernel), ?_⟩
  refine ⟨sn_iconst (dX_iconst_0 (by decide +kernel)) (by decide +kernel), ?_⟩
  refine ⟨sn_zret (Or.inl rfl) (dX_ireturn (by decide +kernel)), ?_⟩
  refine ⟨sn_aload_n (k := 0) (dX_aload_0 (by decide +kernel)) rfl (by decide +kernel), ?_⟩
  refine ⟨sn_iload_n (k := 2) (dX_iload_2 (by decide +kernel)) rfl (by decide +kernel), ?_⟩
  refine ⟨sn_callV (idx := 113) (C := RX0) (T := TX0) (N := 13) rfl (by decide) cal_102 (pmt4 77 rfl (by decide +kernel)) (pmt4 78 rfl (by decide +kernel)) (pmt4 79 rfl (by decide +kernel)) (dX_invokevirtual (by decide +kernel)) (by decide +kernel), ?_⟩
  refine ⟨sn_aload_n (k := 0) (dX_aload_0 (by decide +kernel)) rfl (by decide +kernel), ?_⟩
  refine ⟨sn_iload_n (k := 1) (dX_iload_1 (by decide +kernel)) rfl (by decide +kernel), ?_⟩
  refine ⟨sn_callV (idx := 113) (C := RX0) (T := TX0) (N := 13) rfl (by decide) cal_102 (pmt4 77 rfl (by decide +kernel)) (pmt4 78 rfl (by decide +kernel)) (pmt4 79 rfl (by decide +kernel)) (dX_invokevirtual (by decide +kernel)) (by decide +kernel), ?_⟩
  refine ⟨sn_isub (dX_isub (by decide +kernel)) (by decide +kernel), ?_⟩
  refine ⟨sn_istore (dX_istore (by decide +kernel)) (by decide) (by decide +kernel), ?_⟩
  refine ⟨sn_iload (dX_iload (by decide +kernel)) (by decide +kernel), ?_⟩
  refine ⟨sn_if_eq (off := 16) (dX_ifeq (by decide +kernel)) (by decide +kernel) (by decide +kernel), ?_⟩
  refine ⟨sn_iload (dX_iload (by decide +kernel)) (by decide +kernel), ?_⟩
  refine ⟨sn_if_le (off := 7) (dX_ifle (by decide +kernel)) (by decide +kernel) (by decide +kernel), ?_⟩
  refine ⟨sn_iconst (dX_iconst_1 (by decide +kernel)) (by decide +kernel), ?_⟩
  refine ⟨sn_goto (off := 17) (dX_goto (by decide +kernel)) (by decide +kernel), ?_⟩
  refine ⟨sn_iconst (dX_iconst_0 (by decide +kernel)) (by decide +kernel), ?_⟩
  refine ⟨sn_goto (off := 13) (dX_goto (by decide +kernel)) (by decide +kernel), ?_⟩
  refine ⟨sn_iload_n (k := 1) (dX_iload_1 (by decide +kernel)) rfl (by decide +kernel), ?_⟩
  refine ⟨sn_iload_n (k := 2) (dX_iload_2 (by decide +kernel)) rfl (by decide +kernel), ?_⟩
  refine ⟨sn_icmp_ge (off := 7) (dX_if_icmpge (by decide +kernel)) (by decide +kernel) (by decide +kernel), ?_⟩
  refine ⟨sn_iconst (dX_iconst_1 (by decide +kernel)) (by decide +kernel), ?_⟩
  refine ⟨sn_goto (off := 4) (dX_goto (by decide +kernel)) (by decide +kernel), ?_⟩
  refine ⟨sn_iconst (dX_iconst_0 (by decide +kernel)) (by decide +kernel), ?_⟩
  refine ⟨sn_zret (Or.inl rfl) (dX_ireturn (by decide +kernel)), ?_⟩
  trivial
set_option maxRecDepth 100000 in
set_option maxHeartbeats 4000000 in
theorem S_107 : pAll (pSk RX1 cX1_read 4 (some .int) PC_107) 0 C_107 := by
  refine ⟨sn_aload_n (k := 0) (dX_aload_0 (by decide +kernel)) rfl (by decide +kernel), ?_⟩
  refine ⟨sn_getf (C := RX1) (T := TX1) (N := 1) (idx := 9) rfl pin1 (by decide) (by decide) rfl (pmt1 80 rfl (by decide +kernel)) rfl (dX_getfield (by decide +kernel)) (by decide +kernel), ?_⟩
  refine ⟨sn_bipush (dX_bipush (by decide +kernel)) (by decide +kernel) (by decide +kernel), ?_⟩
  refine ⟨sn_callV (idx := 15) (C := RX6) (T := TX6) (N := 4) rfl (by decide) cal_132 (pmt2 206 rfl (by decide +kernel)) (pmt2 207 rfl (by decide +kernel)) (pmt2 208 rfl (by decide +kernel)) (dX_invokevirtual (by decide +kernel)) (by decide +kernel), ?_⟩
  refine ⟨sn_aload_n (k := 0) (dX_aload_0 (by decide +kernel)) rfl (by decide +kernel), ?_⟩
  refine ⟨sn_aload_n (k := 1) (dX_aload_1 (by decide +kernel)) rfl (by decide +kernel), ?_⟩
  refine ⟨sn_callV (idx := 21) (C := RX1) (T := TX1) (N := 1) rfl (by decide) cal_108 (pmt2 213 rfl (by decide +kernel)) (pmt2 215 rfl (by decide +kernel)) (pms 0 rfl rfl) (dX_invokevirtual (by decide +kernel)) (by decide +kernel), ?_⟩
  refine ⟨sn_iconst (dX_iconst_1 (by decide +kernel)) (by decide +kernel), ?_⟩
  refine ⟨sn_istore_n (k := 2) (dX_istore_2 (by decide +kernel)) rfl (by decide) (by decide +kernel), ?_⟩
  refine ⟨sn_iconst (dX_iconst_0 (by decide +kernel)) (by decide +kernel), ?_⟩
  refine ⟨sn_istore_n (k := 3) (dX_istore_3 (by decide +kernel)) rfl (by decide) (by decide +kernel), ?_⟩
  refine ⟨sn_iload_n (k := 3) (dX_iload_3 (by decide +kernel)) rfl (by decide +kernel), ?_⟩
  refine ⟨sn_bipush (dX_bipush (by decide +kernel)) (by decide +kernel) (by decide +kernel), ?_⟩
  refine ⟨sn_icmp_ge (off := 36) (dX_if_icmpge (by decide +kernel)) (by decide +kernel) (by decide +kernel), ?_⟩
  refine ⟨sn_aload_n (k := 0) (dX_aload_0 (by decide +kernel)) rfl (by decide +kernel), ?_⟩
  refine ⟨sn_getf (C := RX1) (T := TX1) (N := 1) (idx := 9) rfl pin1 (by decide) (by decide) rfl (pmt1 80 rfl (by decide +kernel)) rfl (dX_getfield (by decide +kernel)) (by decide +kernel), ?_⟩
  refine ⟨sn_callV (idx := 25) (C := RX6) (T := TX6) (N := 4) rfl (by decide) cal_134 (pmt3 36 rfl (by decide +kernel)) (pmt3 37 rfl (by decide +kernel)) (pmt3 38 rfl (by decide +kernel)) (dX_invokevirtual (by decide +kernel)) (by decide +kernel), ?_⟩
  refine ⟨sn_if_eq (off := 26) (dX_ifeq (by decide +kernel)) (by decide +kernel) (by decide +kernel), ?_⟩
  refine ⟨sn_aload_n (k := 0) (dX_aload_0 (by decide +kernel)) rfl (by decide +kernel), ?_⟩
  refine ⟨sn_getf (C := RX1) (T := TX1) (N := 1) (idx := 9) rfl pin1 (by decide) (by decide) rfl (pmt1 80 rfl (by decide +kernel)) rfl (dX_getfield (by decide +kernel)) (by decide +kernel), ?_⟩
  refine ⟨sn_bipush (dX_bipush (by decide +kernel)) (by decide +kernel) (by decide +kernel), ?_⟩
  refine ⟨sn_callV (idx := 29) (C := RX6) (T := TX6) (N := 4) rfl (by decide) cal_137 (pmt3 11 rfl (by decide +kernel)) (pmt3 12 rfl (by decide +kernel)) (pmt3 13 rfl (by decide +kernel)) (dX_invokevirtual (by decide +kernel)) (by decide +kernel), ?_⟩
  refine ⟨sn_aload_n (k := 0) (dX_aload_0 (by decide +kernel)) rfl (by decide +kernel), ?_⟩
  refine ⟨sn_aload_n (k := 1) (dX_aload_1 (by decide +kernel)) rfl (by decide +kernel), ?_⟩
  refine ⟨sn_callV (idx := 21) (C := RX1) (T := TX1) (N := 1) rfl (by decide) cal_108 (pmt2 213 rfl (by decide +kernel)) (pmt2 215 rfl (by decide +kernel)) (pms 0 rfl rfl) (dX_invokevirtual (by decide +kernel)) (by decide +kernel), ?_⟩
  refine ⟨sn_iinc (dX_iinc (by decide +kernel)) (by decide) (by decide +kernel), ?_⟩
  refine ⟨sn_iinc (dX_iinc (by decide +kernel)) (by decide) (by decide +kernel), ?_⟩
  refine ⟨sn_goto (off := -36) (dX_goto (by decide +kernel)) (by decide +kernel), ?_⟩
  refine ⟨sn_aload_n (k := 0) (dX_aload_0 (by decide +kernel)) rfl (by decide +kernel), ?_⟩
  refine ⟨sn_getf (C := RX1) (T := TX1) (N := 1) (idx := 9) rfl pin1 (by decide) (by decide) rfl (pmt1 80 rfl (by decide +kernel)) rfl (dX_getfield (by decide +kernel)) (by decide +kernel), ?_⟩
  refine ⟨sn_callV (idx := 32) (C := RX6) (T := TX6) (N := 4) rfl (by decide) cal_136 (pmt3 53 rfl (by decide +kernel)) (pmt3 54 rfl (by decide +kernel)) (pmt3 55 rfl (by decide +kernel)) (dX_invokevirtual (by decide +kernel)) (by decide +kernel), ?_⟩
  refine ⟨sn_istore_n (k := 3) (dX_istore_3 (by decide +kernel)) rfl (by decide) (by decide +kernel), ?_⟩
  refine ⟨sn_iload_n (k := 3) (dX_iload_3 (by decide +kernel)) rfl (by decide +kernel), ?_⟩
  refine ⟨sn_iconst (dX_iconst_m1 (by decide +kernel)) (by decide +kernel), ?_⟩
  refine ⟨sn_icmp_ne (off := 7) (dX_if_icmpne (by decide +kernel)) (by decide +kernel) (by decide +kernel), ?_⟩
  refine ⟨sn_iload_n (k := 2) (dX_iload_2 (by decide +kernel)) rfl (by decide +kernel), ?_⟩
  refine ⟨sn_goto (off := 6) (dX_goto (by decide +kernel)) (by decide +kernel), ?_⟩
  refine ⟨sn_iconst (dX_iconst_m1 (by decide +kernel)) (by decide +kernel), ?_⟩
  refine ⟨sn_iload_n (k := 3) (dX_iload_3 (by decide +kernel)) rfl (by decide +kernel), ?_⟩
  refine ⟨sn_isub (dX_isub (by decide +kernel)) (by decide +kernel), ?_⟩
  refine ⟨sn_iret rfl (dX_ireturn (by decide +kernel)), ?_⟩
  trivial
set_option maxRecDepth 100000 in
set_option maxHeartbeats 4000000 in
theorem S_108 : pAll (pSk RX1 cX1_line 3 none PC_108) 0 C_108 := by
  refine ⟨sn_aload_n (k := 0) (dX_aload_0 (by decide +kernel)) rfl (by decide +kernel), ?_⟩
  refine ⟨sn_getf (C := RX1) (T := TX1) (N := 1) (idx := 9) rfl pin1 (by decide) (by decide) rfl (pmt1 80 rfl (by decide +kernel)) rfl (dX_getfield (by decide +kernel)) (by decide +kernel), ?_⟩
  refine ⟨sn_callV (idx := 36) (C := RX6) (T := TX6) (N := 4) rfl (by decide) cal_133 (pmt2 217 rfl (by decide +kernel)) (pmt2 218 rfl (by decide +kernel)) (pmt2 219 rfl (by decide +kernel)) (dX_invokevirtual (by decide +kernel)) (by decide +kernel), ?_⟩
  refine ⟨sn_istore_n (k := 2) (dX_istore_2 (by decide +kernel)) rfl (by decide) (by decide +kernel), ?_⟩
  refine ⟨sn_iload_n (k := 2) (dX_iload_2 (by decide +kernel)) rfl (by decide +kernel), ?_⟩
  refine ⟨sn_bipush (dX_bipush (by decide +kernel)) (by decide +kernel) (by decide +kernel), ?_⟩
  refine ⟨sn_icmp_ne (off := 39) (dX_if_icmpne (by decide +kernel)) (by decide +kernel) (by decide +kernel), ?_⟩
  refine ⟨sn_aload_n (k := 1) (dX_aload_1 (by decide +kernel)) rfl (by decide +kernel), ?_⟩
  refine ⟨sn_getf (C := RX0) (T := TX0) (N := 13) (idx := 39) rfl pin0 (by decide) (by decide) rfl (pmt1 136 rfl (by decide +kernel)) rfl (dX_getfield (by decide +kernel)) (by decide +kernel), ?_⟩
  refine ⟨sn_bipush (dX_bipush (by decide +kernel)) (by decide +kernel) (by decide +kernel), ?_⟩
  refine ⟨sn_icmp_ge (off := 30) (dX_if_icmpge (by decide +kernel)) (by decide +kernel) (by decide +kernel), ?_⟩
  refine ⟨sn_aload_n (k := 0) (dX_aload_0 (by decide +kernel)) rfl (by decide +kernel), ?_⟩
  refine ⟨sn_getf (C := RX1) (T := TX1) (N := 1) (idx := 9) rfl pin1 (by decide) (by decide) rfl (pmt1 80 rfl (by decide +kernel)) rfl (dX_getfield (by decide +kernel)) (by decide +kernel), ?_⟩
  refine ⟨sn_dup (dX_dup (by decide +kernel)) (by decide +kernel), ?_⟩
  refine ⟨sn_getf (C := RX6) (T := TX6) (N := 4) (idx := 45) rfl pin6 (by decide) (by decide) rfl (pmt1 60 rfl (by decide +kernel)) rfl (dX_getfield (by decide +kernel)) (by decide +kernel), ?_⟩
  refine ⟨sn_iconst (dX_iconst_1 (by decide +kernel)) (by decide +kernel), ?_⟩
  refine ⟨sn_iadd (dX_iadd (by decide +kernel)) (by decide +kernel), ?_⟩
  refine ⟨sn_puti (C := RX6) (T := TX6) (N := 4) (idx := 45) rfl pin6 (by decide) (by decide) rfl tyX6 tyX6_ok nmX6 rfl rfl (by decide +kernel) (pmt1 60 rfl (by decide +kernel)) rfl (dX_putfield (by decide +kernel)) (by decide +kernel), ?_⟩
  refine ⟨sn_aload_n (k := 1) (dX_aload_1 (by decide +kernel)) rfl (by decide +kernel), ?_⟩
  refine ⟨sn_aload_n (k := 0) (dX_aload_0 (by decide +kernel)) rfl (by decide +kernel), ?_⟩
  refine ⟨sn_getf (C := RX1) (T := TX1) (N := 1) (idx := 9) rfl pin1 (by decide) (by decide) rfl (pmt1 80 rfl (by decide +kernel)) rfl (dX_getfield (by decide +kernel)) (by decide +kernel), ?_⟩
  refine ⟨sn_callV (idx := 48) (C := RX6) (T := TX6) (N := 4) rfl (by decide) cal_142 (pmt2 221 rfl (by decide +kernel)) (pmt2 222 rfl (by decide +kernel)) (pmt2 223 rfl (by decide +kernel)) (dX_invokevirtual (by decide +kernel)) (by decide +kernel), ?_⟩
  refine ⟨sn_callV (idx := 51) (C := RX0) (T := TX0) (N := 13) rfl (by decide) cal_70 (pmt3 2 rfl (by decide +kernel)) (pmt3 3 rfl (by decide +kernel)) (pmt3 4 rfl (by decide +kernel)) (dX_invokevirtual (by decide +kernel)) (by decide +kernel), ?_⟩
  refine ⟨sn_goto (off := 114) (dX_goto (by decide +kernel)) (by decide +kernel), ?_⟩
  refine ⟨sn_iload_n (k := 2) (dX_iload_2 (by decide +kernel)) rfl (by decide +kernel), ?_⟩
  refine ⟨sn_bipush (dX_bipush (by decide +kernel)) (by decide +kernel) (by decide +kernel), ?_⟩
  refine ⟨sn_icmp_ne (off := 24) (dX_if_icmpne (by decide +kernel)) (by decide +kernel) (by decide +kernel), ?_⟩
  refine ⟨sn_aload_n (k := 0) (dX_aload_0 (by decide +kernel)) rfl (by decide +kernel), ?_⟩
  refine ⟨sn_getf (C := RX1) (T := TX1) (N := 1) (idx := 9) rfl pin1 (by decide) (by decide) rfl (pmt1 80 rfl (by decide +kernel)) rfl (dX_getfield (by decide +kernel)) (by decide +kernel), ?_⟩
  refine ⟨sn_dup (dX_dup (by decide +kernel)) (by decide +kernel), ?_⟩
  refine ⟨sn_getf (C := RX6) (T := TX6) (N := 4) (idx := 45) rfl pin6 (by decide) (by decide) rfl (pmt1 60 rfl (by decide +kernel)) rfl (dX_getfield (by decide +kernel)) (by decide +kernel), ?_⟩
  refine ⟨sn_iconst (dX_iconst_1 (by decide +kernel)) (by decide +kernel), ?_⟩
  refine ⟨sn_iadd (dX_iadd (by decide +kernel)) (by decide +kernel), ?_⟩
  refine ⟨sn_puti (C := RX6) (T := TX6) (N := 4) (idx := 45) rfl pin6 (by decide) (by decide) rfl tyX6 tyX6_ok nmX6 rfl rfl (by decide +kernel) (pmt1 60 rfl (by decide +kernel)) rfl (dX_putfield (by decide +kernel)) (by decide +kernel), ?_⟩
  refine ⟨sn_aload_n (k := 0) (dX_aload_0 (by decide +kernel)) rfl (by decide +kernel), ?_⟩
  refine ⟨sn_aload_n (k := 1) (dX_aload_1 (by decide +kernel)) rfl (by decide +kernel), ?_⟩
  refine ⟨sn_callV (idx := 54) (C := RX1) (T := TX1) (N := 1) rfl (by decide) cal_109 (pmt3 6 rfl (by decide +kernel)) (pmt3 8 rfl (by decide +kernel)) (pms 2 rfl rfl) (dX_invokevirtual (by decide +kernel)) (by decide +kernel), ?_⟩
  refine ⟨sn_goto (off := 87) (dX_goto (by decide +kernel)) (by decide +kernel), ?_⟩
  refine ⟨sn_iload_n (k := 2) (dX_iload_2 (by decide +kernel)) rfl (by decide +kernel), ?_⟩
  refine ⟨sn_bipush (dX_bipush (by decide +kernel)) (by decide +kernel) (by decide +kernel), ?_⟩
  refine ⟨sn_icmp_ne (off := 40) (dX_if_icmpne (by decide +kernel)) (by decide +kernel) (by decide +kernel), ?_⟩
  refine ⟨sn_aload_n (k := 1) (dX_aload_1 (by decide +kernel)) rfl (by decide +kernel), ?_⟩
  refine ⟨sn_getf (C := RX0) (T := TX0) (N := 13) (idx := 57) rfl pin0 (by decide) (by decide) rfl (pmt1 145 rfl (by decide +kernel)) rfl (dX_getfield (by decide +kernel)) (by decide +kernel), ?_⟩
  refine ⟨sn_bipush (dX_bipush (by decide +kernel)) (by decide +kernel) (by decide +kernel), ?_⟩
  refine ⟨sn_icmp_ge (off := 31) (dX_if_icmpge (by decide +kernel)) (by decide +kernel) (by decide +kernel), ?_⟩
  refine ⟨sn_aload_n (k := 0) (dX_aload_0 (by decide +kernel)) rfl (by decide +kernel), ?_⟩
  refine ⟨sn_getf (C := RX1) (T := TX1) (N := 1) (idx := 9) rfl pin1 (by decide) (by decide) rfl (pmt1 80 rfl (by decide +kernel)) rfl (dX_getfield (by decide +kernel)) (by decide +kernel), ?_⟩
  refine ⟨sn_dup (dX_dup (by decide +kernel)) (by decide +kernel), ?_⟩
  refine ⟨sn_getf (C := RX6) (T := TX6) (N := 4) (idx := 45) rfl pin6 (by decide) (by decide) rfl (pmt1 60 rfl (by decide +kernel)) rfl (dX_getfield (by decide +kernel)) (by decide +kernel), ?_⟩
  refine ⟨sn_iconst (dX_iconst_1 (by decide +kernel)) (by decide +kernel), ?_⟩
  refine ⟨sn_iadd (dX_iadd (by decide +kernel)) (by decide +kernel), ?_⟩
  refine ⟨sn_puti (C := RX6) (T := TX6) (N := 4) (idx := 45) rfl pin6 (by decide) (by decide) rfl tyX6 tyX6_ok nmX6 rfl rfl (by decide +kernel) (pmt1 60 rfl (by decide +kernel)) rfl (dX_putfield (by decide +kernel)) (by decide +kernel), ?_⟩
  refine ⟨sn_aload_n (k := 1) (dX_aload_1 (by decide +kernel)) rfl (by decide +kernel), ?_⟩
  refine ⟨sn_aload_n (k := 0) (dX_aload_0 (by decide +kernel)) rfl (by decide +kernel), ?_⟩
  refine ⟨sn_aload_n (k := 1) (dX_aload_1 (by decide +kernel)) rfl (by decide +kernel), ?_⟩
  refine ⟨sn_getf (C := RX0) (T := TX0) (N := 13) (idx := 60) rfl pin0 (by decide) (by decide) rfl (pmt1 141 rfl (by decide +kernel)) rfl (dX_getfield (by decide +kernel)) (by decide +kernel), ?_⟩
  refine ⟨sn_callV (idx := 63) (C := RX1) (T := TX1) (N := 1) rfl (by decide) cal_111 (pmt3 28 rfl (by decide +kernel)) (pmt3 30 rfl (by decide +kernel)) (pms 3 rfl rfl) (dX_invokevirtual (by decide +kernel)) (by decide +kernel), ?_⟩
  refine ⟨sn_callV (idx := 67) (C := RX0) (T := TX0) (N := 13) rfl (by decide) cal_72 (pmt3 40 rfl (by decide +kernel)) (pmt3 41 rfl (by decide +kernel)) (pmt3 42 rfl (by decide +kernel)) (dX_invokevirtual (by decide +kernel)) (by decide +kernel), ?_⟩
  refine ⟨sn_goto (off := 44) (dX_goto (by decide +kernel)) (by decide +kernel), ?_⟩
  refine ⟨sn_aload_n (k := 0) (dX_aload_0 (by decide +kernel)) rfl (by decide +kernel), ?_⟩
  refine ⟨sn_getf (C := RX1) (T := TX1) (N := 1) (idx := 9) rfl pin1 (by decide) (by decide) rfl (pmt1 80 rfl (by decide +kernel)) rfl (dX_getfield (by decide +kernel)) (by decide +kernel), ?_⟩
  refine ⟨sn_callV (idx := 70) (C := RX6) (T := TX6) (N := 4) rfl (by decide) cal_138 (pmt3 44 rfl (by decide +kernel)) (pmt2 239 rfl (by decide +kernel)) (pmt3 0 rfl (by decide +kernel)) (dX_invokevirtual (by decide +kernel)) (by decide +kernel), ?_⟩
  refine ⟨sn_if_eq (off := 20) (dX_ifeq (by decide +kernel)) (by decide +kernel) (by decide +kernel), ?_⟩
  refine ⟨sn_aload_n (k := 1) (dX_aload_1 (by decide +kernel)) rfl (by decide +kernel), ?_⟩
  refine ⟨sn_getf (C := RX0) (T := TX0) (N := 13) (idx := 60) rfl pin0 (by decide) (by decide) rfl (pmt1 141 rfl (by decide +kernel)) rfl (dX_getfield (by decide +kernel)) (by decide +kernel), ?_⟩
  refine ⟨sn_bipush (dX_bipush (by decide +kernel)) (by decide +kernel) (by decide +kernel), ?_⟩
  refine ⟨sn_icmp_ge (off := 11) (dX_if_icmpge (by decide +kernel)) (by decide +kernel) (by decide +kernel), ?_⟩
  refine ⟨sn_aload_n (k := 0) (dX_aload_0 (by decide +kernel)) rfl (by decide +kernel), ?_⟩
  refine ⟨sn_aload_n (k := 1) (dX_aload_1 (by decide +kernel)) rfl (by decide +kernel), ?_⟩
  refine ⟨sn_callV (idx := 73) (C := RX1) (T := TX1) (N := 1) rfl (by decide) cal_110 (pmt3 45 rfl (by decide +kernel)) (pmt3 47 rfl (by decide +kernel)) (pms 4 rfl rfl) (dX_invokevirtual (by decide +kernel)) (by decide +kernel), ?_⟩
  refine ⟨sn_goto (off := 17) (dX_goto (by decide +kernel)) (by decide +kernel), ?_⟩
  refine ⟨sn_aload_n (k := 0) (dX_aload_0 (by decide +kernel)) rfl (by decide +kernel), ?_⟩
  refine ⟨sn_getf (C := RX1) (T := TX1) (N := 1) (idx := 9) rfl pin1 (by decide) (by decide) rfl (pmt1 80 rfl (by decide +kernel)) rfl (dX_getfield (by decide +kernel)) (by decide +kernel), ?_⟩
  refine ⟨sn_aload_n (k := 0) (dX_aload_0 (by decide +kernel)) rfl (by decide +kernel), ?_⟩
  refine ⟨sn_getf (C := RX1) (T := TX1) (N := 1) (idx := 9) rfl pin1 (by decide) (by decide) rfl (pmt1 80 rfl (by decide +kernel)) rfl (dX_getfield (by decide +kernel)) (by decide +kernel), ?_⟩
  refine ⟨sn_getf (C := RX6) (T := TX6) (N := 4) (idx := 45) rfl pin6 (by decide) (by decide) rfl (pmt1 60 rfl (by decide +kernel)) rfl (dX_getfield (by decide +kernel)) (by decide +kernel), ?_⟩
  refine ⟨sn_callV (idx := 76) (C := RX6) (T := TX6) (N := 4) rfl (by decide) cal_135 (pmt3 15 rfl (by decide +kernel)) (pmt2 235 rfl (by decide +kernel)) (pmt2 236 rfl (by decide +kernel)) (dX_invokevirtual (by decide +kernel)) (by decide +kernel), ?_⟩
  refine ⟨sn_vret rfl (dX_return (by decide +kernel)), ?_⟩
  trivial
set_option maxRecDepth 100000 in
set_option maxHeartbeats 4000000 in
theorem S_109 : pAll (pSk RX1 cX1_doorLine 6 none PC_109) 0 C_109 := by
  refine ⟨sn_aload_n (k := 0) (dX_aload_0 (by decide +kernel)) rfl (by decide +kernel), ?_⟩
  refine ⟨sn_getf (C := RX1) (T := TX1) (N := 1) (idx := 9) rfl pin1 (by decide) (by decide) rfl (pmt1 80 rfl (by decide +kernel)) rfl (dX_getfield (by decide +kernel)) (by decide +kernel), ?_⟩
  refine ⟨sn_iconst (dX_iconst_0 (by decide +kernel)) (by decide +kernel), ?_⟩
  refine ⟨sn_aload_n (k := 1) (dX_aload_1 (by decide +kernel)) rfl (by decide +kernel), ?_⟩
  refine ⟨sn_getf (C := RX0) (T := TX0) (N := 13) (idx := 39) rfl pin0 (by decide) (by decide) rfl (pmt1 136 rfl (by decide +kernel)) rfl (dX_getfield (by decide +kernel)) (by decide +kernel), ?_⟩
  refine ⟨sn_callV (idx := 79) (C := RX6) (T := TX6) (N := 4) rfl (by decide) cal_139 (pmt3 10 rfl (by decide +kernel)) (pmt2 226 rfl (by decide +kernel)) (pmt2 227 rfl (by decide +kernel)) (dX_invokevirtual (by decide +kernel)) (by decide +kernel), ?_⟩
  refine ⟨sn_istore_n (k := 2) (dX_istore_2 (by decide +kernel)) rfl (by decide) (by decide +kernel), ?_⟩
  refine ⟨sn_aload_n (k := 0) (dX_aload_0 (by decide +kernel)) rfl (by decide +kernel), ?_⟩
  refine ⟨sn_getf (C := RX1) (T := TX1) (N := 1) (idx := 9) rfl pin1 (by decide) (by decide) rfl (pmt1 80 rfl (by decide +kernel)) rfl (dX_getfield (by decide +kernel)) (by decide +kernel), ?_⟩
  refine ⟨sn_bipush (dX_bipush (by decide +kernel)) (by decide +kernel) (by decide +kernel), ?_⟩
  refine ⟨sn_callV (idx := 29) (C := RX6) (T := TX6) (N := 4) rfl (by decide) cal_137 (pmt3 11 rfl (by decide +kernel)) (pmt3 12 rfl (by decide +kernel)) (pmt3 13 rfl (by decide +kernel)) (dX_invokevirtual (by decide +kernel)) (by decide +kernel), ?_⟩
  refine ⟨sn_aload_n (k := 0) (dX_aload_0 (by decide +kernel)) rfl (by decide +kernel), ?_⟩
  refine ⟨sn_getf (C := RX1) (T := TX1) (N := 1) (idx := 9) rfl pin1 (by decide) (by decide) rfl (pmt1 80 rfl (by decide +kernel)) rfl (dX_getfield (by decide +kernel)) (by decide +kernel), ?_⟩
  refine ⟨sn_getf (C := RX6) (T := TX6) (N := 4) (idx := 45) rfl pin6 (by decide) (by decide) rfl (pmt1 60 rfl (by decide +kernel)) rfl (dX_getfield (by decide +kernel)) (by decide +kernel), ?_⟩
  refine ⟨sn_istore_n (k := 3) (dX_istore_3 (by decide +kernel)) rfl (by decide) (by decide +kernel), ?_⟩
  refine ⟨sn_aload_n (k := 0) (dX_aload_0 (by decide +kernel)) rfl (by decide +kernel), ?_⟩
  refine ⟨sn_getf (C := RX1) (T := TX1) (N := 1) (idx := 9) rfl pin1 (by decide) (by decide) rfl (pmt1 80 rfl (by decide +kernel)) rfl (dX_getfield (by decide +kernel)) (by decide +kernel), ?_⟩
  refine ⟨sn_iconst (dX_iconst_0 (by decide +kernel)) (by decide +kernel), ?_⟩
  refine ⟨sn_aload_n (k := 1) (dX_aload_1 (by decide +kernel)) rfl (by decide +kernel), ?_⟩
  refine ⟨sn_getf (C := RX0) (T := TX0) (N := 13) (idx := 39) rfl pin0 (by decide) (by decide) rfl (pmt1 136 rfl (by decide +kernel)) rfl (dX_getfield (by decide +kernel)) (by decide +kernel), ?_⟩
  refine ⟨sn_callV (idx := 79) (C := RX6) (T := TX6) (N := 4) rfl (by decide) cal_139 (pmt3 10 rfl (by decide +kernel)) (pmt2 226 rfl (by decide +kernel)) (pmt2 227 rfl (by decide +kernel)) (dX_invokevirtual (by decide +kernel)) (by decide +kernel), ?_⟩
  refine ⟨sn_istore (dX_istore (by decide +kernel)) (by decide) (by decide +kernel), ?_⟩
  refine ⟨sn_iload_n (k := 2) (dX_iload_2 (by decide +kernel)) rfl (by decide +kernel), ?_⟩
  refine ⟨sn_iload (dX_iload (by decide +kernel)) (by decide +kernel), ?_⟩
  refine ⟨sn_icmp_ne (off := 11) (dX_if_icmpne (by decide +kernel)) (by decide +kernel) (by decide +kernel), ?_⟩
  refine ⟨sn_aload_n (k := 0) (dX_aload_0 (by decide +kernel)) rfl (by decide +kernel), ?_⟩
  refine ⟨sn_getf (C := RX1) (T := TX1) (N := 1) (idx := 9) rfl pin1 (by decide) (by decide) rfl (pmt1 80 rfl (by decide +kernel)) rfl (dX_getfield (by decide +kernel)) (by decide +kernel), ?_⟩
  refine ⟨sn_iload_n (k := 3) (dX_iload_3 (by decide +kernel)) rfl (by decide +kernel), ?_⟩
  refine ⟨sn_callV (idx := 76) (C := RX6) (T := TX6) (N := 4) rfl (by decide) cal_135 (pmt3 15 rfl (by decide +kernel)) (pmt2 235 rfl (by decide +kernel)) (pmt2 236 rfl (by decide +kernel)) (dX_invokevirtual (by decide +kernel)) (by decide +kernel), ?_⟩
  refine ⟨sn_aload_n (k := 0) (dX_aload_0 (by decide +kernel)) rfl (by decide +kernel), ?_⟩
  refine ⟨sn_getf (C := RX1) (T := TX1) (N := 1) (idx := 9) rfl pin1 (by decide) (by decide) rfl (pmt1 80 rfl (by decide +kernel)) rfl (dX_getfield (by decide +kernel)) (by decide +kernel), ?_⟩
  refine ⟨sn_bipush (dX_bipush (by decide +kernel)) (by decide +kernel) (by decide +kernel), ?_⟩
  refine ⟨sn_callV (idx := 29) (C := RX6) (T := TX6) (N := 4) rfl (by decide) cal_137 (pmt3 11 rfl (by decide +kernel)) (pmt3 12 rfl (by decide +kernel)) (pmt3 13 rfl (by decide +kernel)) (dX_invokevirtual (by decide +kernel)) (by decide +kernel), ?_⟩
  refine ⟨sn_aload_n (k := 0) (dX_aload_0 (by decide +kernel)) rfl (by decide +kernel), ?_⟩
  refine ⟨sn_getf (C := RX1) (T := TX1) (N := 1) (idx := 9) rfl pin1 (by decide) (by decide) rfl (pmt1 80 rfl (by decide +kernel)) rfl (dX_getfield (by decide +kernel)) (by decide +kernel), ?_⟩
  refine ⟨sn_iconst (dX_iconst_1 (by decide +kernel)) (by decide +kernel), ?_⟩
  refine ⟨sn_bipush (dX_bipush (by decide +kernel)) (by decide +kernel) (by decide +kernel), ?_⟩
  refine ⟨sn_callV (idx := 79) (C := RX6) (T := TX6) (N := 4) rfl (by decide) cal_139 (pmt3 10 rfl (by decide +kernel)) (pmt2 226 rfl (by decide +kernel)) (pmt2 227 rfl (by decide +kernel)) (dX_invokevirtual (by decide +kernel)) (by decide +kernel), ?_⟩
  refine ⟨sn_istore (dX_istore (by decide +kernel)) (by decide) (by decide +kernel), ?_⟩
  refine ⟨sn_aload_n (k := 0) (dX_aload_0 (by decide +kernel)) rfl (by decide +kernel), ?_⟩
  refine ⟨sn_getf (C := RX1) (T := TX1) (N := 1) (idx := 9) rfl pin1 (by decide) (by decide) rfl (pmt1 80 rfl (by decide +kernel)) rfl (dX_getfield (by decide +kernel)) (by decide +kernel), ?_⟩
  refine ⟨sn_getf (C := RX6) (T := TX6) (N := 4) (idx := 83) rfl pin6 (by decide) (by decide) rfl (pmt1 64 rfl (by decide +kernel)) rfl (dX_getfield (by decide +kernel)) (by decide +kernel), ?_⟩
  refine ⟨sn_iconst (dX_iconst_m1 (by decide +kernel)) (by decide +kernel), ?_⟩
  refine ⟨sn_icmp_ne (off := 12) (dX_if_icmpne (by decide +kernel)) (by decide +kernel) (by decide +kernel), ?_⟩
  refine ⟨sn_aload_n (k := 1) (dX_aload_1 (by decide +kernel)) rfl (by decide +kernel), ?_⟩
  refine ⟨sn_iload_n (k := 2) (dX_iload_2 (by decide +kernel)) rfl (by decide +kernel), ?_⟩
  refine ⟨sn_iload (dX_iload (by decide +kernel)) (by decide +kernel), ?_⟩
  refine ⟨sn_iload (dX_iload (by decide +kernel)) (by decide +kernel), ?_⟩
  refine ⟨sn_callV (idx := 86) (C := RX0) (T := TX0) (N := 13) rfl (by decide) cal_73 (pmt3 16 rfl (by decide +kernel)) (pmt3 17 rfl (by decide +kernel)) (pmt3 18 rfl (by decide +kernel)) (dX_invokevirtual (by decide +kernel)) (by decide +kernel), ?_⟩
  refine ⟨sn_vret rfl (dX_return (by decide +kernel)), ?_⟩
  trivial
set_option maxRecDepth 100000 in
set_option maxHeartbeats 4000000 in
theorem S_110 : pAll (pSk RX1 cX1_thingLine 6 none PC_110) 0 C_110 := by
  refine ⟨sn_aload_n (k := 0) (dX_aload_0 (by decide +kernel)) rfl (by decide +kernel), ?_⟩
  refine ⟨sn_getf (C := RX1) (T := TX1) (N := 1) (idx := 9) rfl pin1 (by decide) (by decide) rfl (pmt1 80 rfl (by decide +kernel)) rfl (dX_getfield (by decide +kernel)) (by decide +kernel), ?_⟩
  refine ⟨sn_callV (idx := 48) (C := RX6) (T := TX6) (N := 4) rfl (by decide) cal_142 (pmt2 221 rfl (by decide +kernel)) (pmt2 222 rfl (by decide +kernel)) (pmt2 223 rfl (by decide +kernel)) (dX_invokevirtual (by decide +kernel)) (by decide +kernel), ?_⟩
  refine ⟨sn_istore_n (k := 2) (dX_istore_2 (by decide +kernel)) rfl (by decide) (by decide +kernel), ?_⟩
  refine ⟨sn_aload_n (k := 0) (dX_aload_0 (by decide +kernel)) rfl (by decide +kernel), ?_⟩
  refine ⟨sn_getf (C := RX1) (T := TX1) (N := 1) (idx := 9) rfl pin1 (by decide) (by decide) rfl (pmt1 80 rfl (by decide +kernel)) rfl (dX_getfield (by decide +kernel)) (by decide +kernel), ?_⟩
  refine ⟨sn_bipush (dX_bipush (by decide +kernel)) (by decide +kernel) (by decide +kernel), ?_⟩
  refine ⟨sn_callV (idx := 29) (C := RX6) (T := TX6) (N := 4) rfl (by decide) cal_137 (pmt3 11 rfl (by decide +kernel)) (pmt3 12 rfl (by decide +kernel)) (pmt3 13 rfl (by decide +kernel)) (dX_invokevirtual (by decide +kernel)) (by decide +kernel), ?_⟩
  refine ⟨sn_aload_n (k := 0) (dX_aload_0 (by decide +kernel)) rfl (by decide +kernel), ?_⟩
  refine ⟨sn_getf (C := RX1) (T := TX1) (N := 1) (idx := 9) rfl pin1 (by decide) (by decide) rfl (pmt1 80 rfl (by decide +kernel)) rfl (dX_getfield (by decide +kernel)) (by decide +kernel), ?_⟩
  refine ⟨sn_iconst (dX_iconst_1 (by decide +kernel)) (by decide +kernel), ?_⟩
  refine ⟨sn_bipush (dX_bipush (by decide +kernel)) (by decide +kernel) (by decide +kernel), ?_⟩
  refine ⟨sn_callV (idx := 79) (C := RX6) (T := TX6) (N := 4) rfl (by decide) cal_139 (pmt3 10 rfl (by decide +kernel)) (pmt2 226 rfl (by decide +kernel)) (pmt2 227 rfl (by decide +kernel)) (dX_invokevirtual (by decide +kernel)) (by decide +kernel), ?_⟩
  refine ⟨sn_istore_n (k := 3) (dX_istore_3 (by decide +kernel)) rfl (by decide) (by decide +kernel), ?_⟩
  refine ⟨sn_aload_n (k := 0) (dX_aload_0 (by decide +kernel)) rfl (by decide +kernel), ?_⟩
  refine ⟨sn_getf (C := RX1) (T := TX1) (N := 1) (idx := 9) rfl pin1 (by decide) (by decide) rfl (pmt1 80 rfl (by decide +kernel)) rfl (dX_getfield (by decide +kernel)) (by decide +kernel), ?_⟩
  refine ⟨sn_bipush (dX_bipush (by decide +kernel)) (by decide +kernel) (by decide +kernel), ?_⟩
  refine ⟨sn_callV (idx := 29) (C := RX6) (T := TX6) (N := 4) rfl (by decide) cal_137 (pmt3 11 rfl (by decide +kernel)) (pmt3 12 rfl (by decide +kernel)) (pmt3 13 rfl (by decide +kernel)) (dX_invokevirtual (by decide +kernel)) (by decide +kernel), ?_⟩
  refine ⟨sn_aload_n (k := 0) (dX_aload_0 (by decide +kernel)) rfl (by decide +kernel), ?_⟩
  refine ⟨sn_getf (C := RX1) (T := TX1) (N := 1) (idx := 9) rfl pin1 (by decide) (by decide) rfl (pmt1 80 rfl (by decide +kernel)) rfl (dX_getfield (by decide +kernel)) (by decide +kernel), ?_⟩
  refine ⟨sn_iconst (dX_iconst_1 (by decide +kernel)) (by decide +kernel), ?_⟩
  refine ⟨sn_bipush (dX_bipush (by decide +kernel)) (by decide +kernel) (by decide +kernel), ?_⟩
  refine ⟨sn_callV (idx := 79) (C := RX6) (T := TX6) (N := 4) rfl (by decide) cal_139 (pmt3 10 rfl (by decide +kernel)) (pmt2 226 rfl (by decide +kernel)) (pmt2 227 rfl (by decide +kernel)) (dX_invokevirtual (by decide +kernel)) (by decide +kernel), ?_⟩
  refine ⟨sn_istore (dX_istore (by decide +kernel)) (by decide) (by decide +kernel), ?_⟩
  refine ⟨sn_aload_n (k := 0) (dX_aload_0 (by decide +kernel)) rfl (by decide +kernel), ?_⟩
  refine ⟨sn_getf (C := RX1) (T := TX1) (N := 1) (idx := 9) rfl pin1 (by decide) (by decide) rfl (pmt1 80 rfl (by decide +kernel)) rfl (dX_getfield (by decide +kernel)) (by decide +kernel), ?_⟩
  refine ⟨sn_bipush (dX_bipush (by decide +kernel)) (by decide +kernel) (by decide +kernel), ?_⟩
  refine ⟨sn_callV (idx := 29) (C := RX6) (T := TX6) (N := 4) rfl (by decide) cal_137 (pmt3 11 rfl (by decide +kernel)) (pmt3 12 rfl (by decide +kernel)) (pmt3 13 rfl (by decide +kernel)) (dX_invokevirtual (by decide +kernel)) (by decide +kernel), ?_⟩
  refine ⟨sn_aload_n (k := 0) (dX_aload_0 (by decide +kernel)) rfl (by decide +kernel), ?_⟩
  refine ⟨sn_getf (C := RX1) (T := TX1) (N := 1) (idx := 9) rfl pin1 (by decide) (by decide) rfl (pmt1 80 rfl (by decide +kernel)) rfl (dX_getfield (by decide +kernel)) (by decide +kernel), ?_⟩
  refine ⟨sn_iconst (dX_iconst_0 (by decide +kernel)) (by decide +kernel), ?_⟩
  refine ⟨sn_aload_n (k := 1) (dX_aload_1 (by decide +kernel)) rfl (by decide +kernel), ?_⟩
  refine ⟨sn_getf (C := RX0) (T := TX0) (N := 13) (idx := 39) rfl pin0 (by decide) (by decide) rfl (pmt1 136 rfl (by decide +kernel)) rfl (dX_getfield (by decide +kernel)) (by decide +kernel), ?_⟩
  refine ⟨sn_callV (idx := 79) (C := RX6) (T := TX6) (N := 4) rfl (by decide) cal_139 (pmt3 10 rfl (by decide +kernel)) (pmt2 226 rfl (by decide +kernel)) (pmt2 227 rfl (by decide +kernel)) (dX_invokevirtual (by decide +kernel)) (by decide +kernel), ?_⟩
  refine ⟨sn_istore (dX_istore (by decide +kernel)) (by decide) (by decide +kernel), ?_⟩
  refine ⟨sn_aload_n (k := 0) (dX_aload_0 (by decide +kernel)) rfl (by decide +kernel), ?_⟩
  refine ⟨sn_getf (C := RX1) (T := TX1) (N := 1) (idx := 9) rfl pin1 (by decide) (by decide) rfl (pmt1 80 rfl (by decide +kernel)) rfl (dX_getfield (by decide +kernel)) (by decide +kernel), ?_⟩
  refine ⟨sn_getf (C := RX6) (T := TX6) (N := 4) (idx := 83) rfl pin6 (by decide) (by decide) rfl (pmt1 64 rfl (by decide +kernel)) rfl (dX_getfield (by decide +kernel)) (by decide +kernel), ?_⟩
  refine ⟨sn_iconst (dX_iconst_m1 (by decide +kernel)) (by decide +kernel), ?_⟩
  refine ⟨sn_icmp_ne (off := 13) (dX_if_icmpne (by decide +kernel)) (by decide +kernel) (by decide +kernel), ?_⟩
  refine ⟨sn_aload_n (k := 1) (dX_aload_1 (by decide +kernel)) rfl (by decide +kernel), ?_⟩
  refine ⟨sn_iload_n (k := 2) (dX_iload_2 (by decide +kernel)) rfl (by decide +kernel), ?_⟩
  refine ⟨sn_iload_n (k := 3) (dX_iload_3 (by decide +kernel)) rfl (by decide +kernel), ?_⟩
  refine ⟨sn_iload (dX_iload (by decide +kernel)) (by decide +kernel), ?_⟩
  refine ⟨sn_iload (dX_iload (by decide +kernel)) (by decide +kernel), ?_⟩
  refine ⟨sn_callV (idx := 90) (C := RX0) (T := TX0) (N := 13) rfl (by decide) cal_71 (pmt3 49 rfl (by decide +kernel)) (pmt3 50 rfl (by decide +kernel)) (pmt3 51 rfl (by decide +kernel)) (dX_invokevirtual (by decide +kernel)) (by decide +kernel), ?_⟩
  refine ⟨sn_vret rfl (dX_return (by decide +kernel)), ?_⟩
  trivial
set_option maxRecDepth 100000 in
set_option maxHeartbeats 4000000 in
theorem S_111 : pAll (pSk RX1 cX1_letters 5 (some .int) PC_111) 0 C_111 := by
  refine ⟨sn_aload_n (k := 0) (dX_aload_0 (by decide +kernel)) rfl (by decide +kernel), ?_⟩
  refine ⟨sn_getf (C := RX1) (T := TX1) (N := 1) (idx := 9) rfl pin1 (by decide) (by decide) rfl (pmt1 80 rfl (by decide +kernel)) rfl (dX_getfield (by decide +kernel)) (by decide +kernel), ?_⟩
  refine ⟨sn_iconst (dX_iconst_0 (by decide +kernel)) (by decide +kernel), ?_⟩
  refine ⟨sn_iload_n (k := 1) (dX_iload_1 (by decide +kernel)) rfl (by decide +kernel), ?_⟩
  refine ⟨sn_callV (idx := 94) (C := RX6) (T := TX6) (N := 4) rfl (by decide) cal_140 (pmt3 32 rfl (by decide +kernel)) (pmt3 33 rfl (by decide +kernel)) (pmt3 34 rfl (by decide +kernel)) (dX_invokevirtual (by decide +kernel)) (by decide +kernel), ?_⟩
  refine ⟨sn_istore_n (k := 2) (dX_istore_2 (by decide +kernel)) rfl (by decide) (by decide +kernel), ?_⟩
  refine ⟨sn_iload_n (k := 2) (dX_iload_2 (by decide +kernel)) rfl (by decide +kernel), ?_⟩
  refine ⟨sn_if_ge (off := 7) (dX_ifge (by decide +kernel)) (by decide +kernel) (by decide +kernel), ?_⟩
  refine ⟨sn_iconst (dX_iconst_0 (by decide +kernel)) (by decide +kernel), ?_⟩
  refine ⟨sn_goto (off := 6) (dX_goto (by decide +kernel)) (by decide +kernel), ?_⟩
  refine ⟨sn_iconst (dX_iconst_1 (by decide +kernel)) (by decide +kernel), ?_⟩
  refine ⟨sn_iload_n (k := 2) (dX_iload_2 (by decide +kernel)) rfl (by decide +kernel), ?_⟩
  refine ⟨sn_ishl (dX_ishl (by decide +kernel)) (by decide +kernel), ?_⟩
  refine ⟨sn_istore_n (k := 3) (dX_istore_3 (by decide +kernel)) rfl (by decide) (by decide +kernel), ?_⟩
  refine ⟨sn_iconst (dX_iconst_0 (by decide +kernel)) (by decide +kernel), ?_⟩
  refine ⟨sn_istore (dX_istore (by decide +kernel)) (by decide) (by decide +kernel), ?_⟩
  refine ⟨sn_iload (dX_iload (by decide +kernel)) (by decide +kernel), ?_⟩
  refine ⟨sn_bipush (dX_bipush (by decide +kernel)) (by decide +kernel) (by decide +kernel), ?_⟩
  refine ⟨sn_icmp_ge (off := 57) (dX_if_icmpge (by decide +kernel)) (by decide +kernel) (by decide +kernel), ?_⟩
  refine ⟨sn_aload_n (k := 0) (dX_aload_0 (by decide +kernel)) rfl (by decide +kernel), ?_⟩
  refine ⟨sn_getf (C := RX1) (T := TX1) (N := 1) (idx := 9) rfl pin1 (by decide) (by decide) rfl (pmt1 80 rfl (by decide +kernel)) rfl (dX_getfield (by decide +kernel)) (by decide +kernel), ?_⟩
  refine ⟨sn_callV (idx := 25) (C := RX6) (T := TX6) (N := 4) rfl (by decide) cal_134 (pmt3 36 rfl (by decide +kernel)) (pmt3 37 rfl (by decide +kernel)) (pmt3 38 rfl (by decide +kernel)) (dX_invokevirtual (by decide +kernel)) (by decide +kernel), ?_⟩
  refine ⟨sn_if_eq (off := 47) (dX_ifeq (by decide +kernel)) (by decide +kernel) (by decide +kernel), ?_⟩
  refine ⟨sn_aload_n (k := 0) (dX_aload_0 (by decide +kernel)) rfl (by decide +kernel), ?_⟩
  refine ⟨sn_getf (C := RX1) (T := TX1) (N := 1) (idx := 9) rfl pin1 (by decide) (by decide) rfl (pmt1 80 rfl (by decide +kernel)) rfl (dX_getfield (by decide +kernel)) (by decide +kernel), ?_⟩
  refine ⟨sn_callV (idx := 36) (C := RX6) (T := TX6) (N := 4) rfl (by decide) cal_133 (pmt2 217 rfl (by decide +kernel)) (pmt2 218 rfl (by decide +kernel)) (pmt2 219 rfl (by decide +kernel)) (dX_invokevirtual (by decide +kernel)) (by decide +kernel), ?_⟩
  refine ⟨sn_bipush (dX_bipush (by decide +kernel)) (by decide +kernel) (by decide +kernel), ?_⟩
  refine ⟨sn_icmp_eq (off := 35) (dX_if_icmpeq (by decide +kernel)) (by decide +kernel) (by decide +kernel), ?_⟩
  refine ⟨sn_aload_n (k := 0) (dX_aload_0 (by decide +kernel)) rfl (by decide +kernel), ?_⟩
  refine ⟨sn_getf (C := RX1) (T := TX1) (N := 1) (idx := 9) rfl pin1 (by decide) (by decide) rfl (pmt1 80 rfl (by decide +kernel)) rfl (dX_getfield (by decide +kernel)) (by decide +kernel), ?_⟩
  refine ⟨sn_iload_n (k := 2) (dX_iload_2 (by decide +kernel)) rfl (by decide +kernel), ?_⟩
  refine ⟨sn_iconst (dX_iconst_1 (by decide +kernel)) (by decide +kernel), ?_⟩
  refine ⟨sn_iadd (dX_iadd (by decide +kernel)) (by decide +kernel), ?_⟩
  refine ⟨sn_iload_n (k := 1) (dX_iload_1 (by decide +kernel)) rfl (by decide +kernel), ?_⟩
  refine ⟨sn_callV (idx := 94) (C := RX6) (T := TX6) (N := 4) rfl (by decide) cal_140 (pmt3 32 rfl (by decide +kernel)) (pmt3 33 rfl (by decide +kernel)) (pmt3 34 rfl (by decide +kernel)) (dX_invokevirtual (by decide +kernel)) (by decide +kernel), ?_⟩
  refine ⟨sn_istore_n (k := 2) (dX_istore_2 (by decide +kernel)) rfl (by decide) (by decide +kernel), ?_⟩
  refine ⟨sn_iload_n (k := 3) (dX_iload_3 (by decide +kernel)) rfl (by decide +kernel), ?_⟩
  refine ⟨sn_iload_n (k := 2) (dX_iload_2 (by decide +kernel)) rfl (by decide +kernel), ?_⟩
  refine ⟨sn_if_ge (off := 7) (dX_ifge (by decide +kernel)) (by decide +kernel) (by decide +kernel), ?_⟩
  refine ⟨sn_iconst (dX_iconst_0 (by decide +kernel)) (by decide +kernel), ?_⟩
  refine ⟨sn_goto (off := 6) (dX_goto (by decide +kernel)) (by decide +kernel), ?_⟩
  refine ⟨sn_iconst (dX_iconst_1 (by decide +kernel)) (by decide +kernel), ?_⟩
  refine ⟨sn_iload_n (k := 2) (dX_iload_2 (by decide +kernel)) rfl (by decide +kernel), ?_⟩
  refine ⟨sn_ishl (dX_ishl (by decide +kernel)) (by decide +kernel), ?_⟩
  refine ⟨sn_ior (dX_ior (by decide +kernel)) (by decide +kernel), ?_⟩
  refine ⟨sn_istore_n (k := 3) (dX_istore_3 (by decide +kernel)) rfl (by decide) (by decide +kernel), ?_⟩
  refine ⟨sn_iinc (dX_iinc (by decide +kernel)) (by decide) (by decide +kernel), ?_⟩
  refine ⟨sn_goto (off := -58) (dX_goto (by decide +kernel)) (by decide +kernel), ?_⟩
  refine ⟨sn_iload_n (k := 3) (dX_iload_3 (by decide +kernel)) rfl (by decide +kernel), ?_⟩
  refine ⟨sn_iret rfl (dX_ireturn (by decide +kernel)), ?_⟩
  trivial
set_option maxRecDepth 100000 in
set_option maxHeartbeats 4000000 in
theorem S_112 : pAll (pSk RX2 cX2_listLawful 5 (some .boolean) PC_112) 0 C_112 := by
  refine ⟨sn_aload_n (k := 0) (dX_aload_0 (by decide +kernel)) rfl (by decide +kernel), ?_⟩
  refine ⟨sn_aload_n (k := 1) (dX_aload_1 (by decide +kernel)) rfl (by decide +kernel), ?_⟩
  refine ⟨sn_getf (C := RX0) (T := TX0) (N := 13) (idx := 27) rfl pin0 (by decide) (by decide) rfl (pmt1 147 rfl (by decide +kernel)) rfl (dX_getfield (by decide +kernel)) (by decide +kernel), ?_⟩
  refine ⟨sn_puti (C := RX2) (T := TX2) (N := 10) (idx := 33) rfl pin2 (by decide) (by decide) rfl tyX2 tyX2_ok nmX2 rfl rfl (by decide +kernel) (pmt2 93 rfl (by decide +kernel)) rfl (dX_putfield (by decide +kernel)) (by decide +kernel), ?_⟩
  refine ⟨sn_aload_n (k := 0) (dX_aload_0 (by decide +kernel)) rfl (by decide +kernel), ?_⟩
  refine ⟨sn_iconst (dX_iconst_0 (by decide +kernel)) (by decide +kernel), ?_⟩
  refine ⟨sn_puti (C := RX2) (T := TX2) (N := 10) (idx := 34) rfl pin2 (by decide) (by decide) rfl tyX2 tyX2_ok nmX2 rfl rfl (by decide +kernel) (pmt2 92 rfl (by decide +kernel)) rfl (dX_putfield (by decide +kernel)) (by decide +kernel), ?_⟩
  refine ⟨sn_aload_n (k := 2) (dX_aload_2 (by decide +kernel)) rfl (by decide +kernel), ?_⟩
  refine ⟨sn_aload_n (k := 1) (dX_aload_1 (by decide +kernel)) rfl (by decide +kernel), ?_⟩
  refine ⟨sn_aload_n (k := 1) (dX_aload_1 (by decide +kernel)) rfl (by decide +kernel), ?_⟩
  refine ⟨sn_callV (idx := 37) (C := RX0) (T := TX0) (N := 13) rfl (by decide) cal_69 (pmt5 188 rfl (by decide +kernel)) (pmt4 183 rfl (by decide +kernel)) (pmt4 184 rfl (by decide +kernel)) (dX_invokevirtual (by decide +kernel)) (by decide +kernel), ?_⟩
  refine ⟨sn_callV (idx := 41) (C := RX10) (T := TX10) (N := 12) rfl (by decide) cal_160 (pmt5 189 rfl (by decide +kernel)) (pmt4 187 rfl (by decide +kernel)) (pmt4 188 rfl (by decide +kernel)) (dX_invokevirtual (by decide +kernel)) (by decide +kernel), ?_⟩
  refine ⟨sn_iconst (dX_iconst_0 (by decide +kernel)) (by decide +kernel), ?_⟩
  refine ⟨sn_istore_n (k := 3) (dX_istore_3 (by decide +kernel)) rfl (by decide) (by decide +kernel), ?_⟩
  refine ⟨sn_iload_n (k := 3) (dX_iload_3 (by decide +kernel)) rfl (by decide +kernel), ?_⟩
  refine ⟨sn_ldc (idx := 47) (dX_ldc (by decide +kernel)) (pmt5 190 rfl (by decide +kernel)) (by decide +kernel), ?_⟩
  refine ⟨sn_icmp_ge (off := 90) (dX_if_icmpge (by decide +kernel)) (by decide +kernel) (by decide +kernel), ?_⟩
  refine ⟨sn_aload_n (k := 2) (dX_aload_2 (by decide +kernel)) rfl (by decide +kernel), ?_⟩
  refine ⟨sn_callV (idx := 48) (C := RX10) (T := TX10) (N := 12) rfl (by decide) cal_163 (pmt5 191 rfl (by decide +kernel)) (pmt4 200 rfl (by decide +kernel)) (pmt4 201 rfl (by decide +kernel)) (dX_invokevirtual (by decide +kernel)) (by decide +kernel), ?_⟩
  refine ⟨sn_if_eq (off := 83) (dX_ifeq (by decide +kernel)) (by decide +kernel) (by decide +kernel), ?_⟩
  refine ⟨sn_aload_n (k := 0) (dX_aload_0 (by decide +kernel)) rfl (by decide +kernel), ?_⟩
  refine ⟨sn_getf (C := RX2) (T := TX2) (N := 10) (idx := 34) rfl pin2 (by decide) (by decide) rfl (pmt2 92 rfl (by decide +kernel)) rfl (dX_getfield (by decide +kernel)) (by decide +kernel), ?_⟩
  refine ⟨sn_sipush (dX_sipush (by decide +kernel)) (by decide +kernel) (by decide +kernel), ?_⟩
  refine ⟨sn_icmp_lt (off := 5) (dX_if_icmplt (by decide +kernel)) (by decide +kernel) (by decide +kernel), ?_⟩
  refine ⟨sn_iconst (dX_iconst_0 (by decide +kernel)) (by decide +kernel), ?_⟩
  refine ⟨sn_zret (Or.inl rfl) (dX_ireturn (by decide +kernel)), ?_⟩
  refine ⟨sn_aload_n (k := 0) (dX_aload_0 (by decide +kernel)) rfl (by decide +kernel), ?_⟩
  refine ⟨sn_getf (C := RX2) (T := TX2) (N := 10) (idx := 11) rfl pin2 (by decide) (by decide) rfl (pmt2 87 rfl (by decide +kernel)) rfl (dX_getfield (by decide +kernel)) (by decide +kernel), ?_⟩
  refine ⟨sn_aload_n (k := 0) (dX_aload_0 (by decide +kernel)) rfl (by decide +kernel), ?_⟩
  refine ⟨sn_getf (C := RX2) (T := TX2) (N := 10) (idx := 34) rfl pin2 (by decide) (by decide) rfl (pmt2 92 rfl (by decide +kernel)) rfl (dX_getfield (by decide +kernel)) (by decide +kernel), ?_⟩
  refine ⟨sn_iconst (dX_iconst_0 (by decide +kernel)) (by decide +kernel), ?_⟩
  refine ⟨sn_iast (dX_iastore (by decide +kernel)) (by decide +kernel), ?_⟩
  refine ⟨sn_iconst (dX_iconst_0 (by decide +kernel)) (by decide +kernel), ?_⟩
  refine ⟨sn_istore (dX_istore (by decide +kernel)) (by decide) (by decide +kernel), ?_⟩
  refine ⟨sn_iload (dX_iload (by decide +kernel)) (by decide +kernel), ?_⟩
  refine ⟨sn_aload_n (k := 0) (dX_aload_0 (by decide +kernel)) rfl (by decide +kernel), ?_⟩
  refine ⟨sn_getf (C := RX2) (T := TX2) (N := 10) (idx := 33) rfl pin2 (by decide) (by decide) rfl (pmt2 93 rfl (by decide +kernel)) rfl (dX_getfield (by decide +kernel)) (by decide +kernel), ?_⟩
  refine ⟨sn_icmp_ge (off := 33) (dX_if_icmpge (by decide +kernel)) (by decide +kernel) (by decide +kernel), ?_⟩
  refine ⟨sn_aload_n (k := 0) (dX_aload_0 (by decide +kernel)) rfl (by decide +kernel), ?_⟩
  refine ⟨sn_getf (C := RX2) (T := TX2) (N := 10) (idx := 11) rfl pin2 (by decide) (by decide) rfl (pmt2 87 rfl (by decide +kernel)) rfl (dX_getfield (by decide +kernel)) (by decide +kernel), ?_⟩
  refine ⟨sn_aload_n (k := 0) (dX_aload_0 (by decide +kernel)) rfl (by decide +kernel), ?_⟩
  refine ⟨sn_getf (C := RX2) (T := TX2) (N := 10) (idx := 34) rfl pin2 (by decide) (by decide) rfl (pmt2 92 rfl (by decide +kernel)) rfl (dX_getfield (by decide +kernel)) (by decide +kernel), ?_⟩
  refine ⟨sn_dup2 (dX_dup2 (by decide +kernel)) (by decide +kernel), ?_⟩
  refine ⟨sn_iald (dX_iaload (by decide +kernel)) (by decide +kernel), ?_⟩
  refine ⟨sn_aload_n (k := 2) (dX_aload_2 (by decide +kernel)) rfl (by decide +kernel), ?_⟩
  refine ⟨sn_getf (C := RX10) (T := TX10) (N := 12) (idx := 52) rfl pin10 (by decide) (by decide) rfl (pmt1 209 rfl (by decide +kernel)) rfl (dX_getfield (by decide +kernel)) (by decide +kernel), ?_⟩
  refine ⟨sn_iload (dX_iload (by decide +kernel)) (by decide +kernel), ?_⟩
  refine ⟨sn_iald (dX_iaload (by decide +kernel)) (by decide +kernel), ?_⟩
  refine ⟨sn_iconst (dX_iconst_3 (by decide +kernel)) (by decide +kernel), ?_⟩
  refine ⟨sn_iload (dX_iload (by decide +kernel)) (by decide +kernel), ?_⟩
  refine ⟨sn_imul (dX_imul (by decide +kernel)) (by decide +kernel), ?_⟩
  refine ⟨sn_ishl (dX_ishl (by decide +kernel)) (by decide +kernel), ?_⟩
  refine ⟨sn_ior (dX_ior (by decide +kernel)) (by decide +kernel), ?_⟩
  refine ⟨sn_iast (dX_iastore (by decide +kernel)) (by decide +kernel), ?_⟩
  refine ⟨sn_iinc (dX_iinc (by decide +kernel)) (by decide) (by decide +kernel), ?_⟩
  refine ⟨sn_goto (off := -36) (dX_goto (by decide +kernel)) (by decide +kernel), ?_⟩
  refine ⟨sn_aload_n (k := 0) (dX_aload_0 (by decide +kernel)) rfl (by decide +kernel), ?_⟩
  refine ⟨sn_dup (dX_dup (by decide +kernel)) (by decide +kernel), ?_⟩
  refine ⟨sn_getf (C := RX2) (T := TX2) (N := 10) (idx := 34) rfl pin2 (by decide) (by decide) rfl (pmt2 92 rfl (by decide +kernel)) rfl (dX_getfield (by decide +kernel)) (by decide +kernel), ?_⟩
  refine ⟨sn_iconst (dX_iconst_1 (by decide +kernel)) (by decide +kernel), ?_⟩
  refine ⟨sn_iadd (dX_iadd (by decide +kernel)) (by decide +kernel), ?_⟩
  refine ⟨sn_puti (C := RX2) (T := TX2) (N := 10) (idx := 34) rfl pin2 (by decide) (by decide) rfl tyX2 tyX2_ok nmX2 rfl rfl (by decide +kernel) (pmt2 92 rfl (by decide +kernel)) rfl (dX_putfield (by decide +kernel)) (by decide +kernel), ?_⟩
  refine ⟨sn_iinc (dX_iinc (by decide +kernel)) (by decide) (by decide +kernel), ?_⟩
  refine ⟨sn_goto (off := -90) (dX_goto (by decide +kernel)) (by decide +kernel), ?_⟩
  refine ⟨sn_iconst (dX_iconst_1 (by decide +kernel)) (by decide +kernel), ?_⟩
  refine ⟨sn_zret (Or.inl rfl) (dX_ireturn (by decide +kernel)), ?_⟩
  trivial
set_option maxRecDepth 100000 in
set_option maxHeartbeats 4000000 in
theorem S_113 : pAll (pSk RX2 cX2_prepare 4 (some .boolean) PC_113) 0 C_113 := by
  refine ⟨sn_aload_n (k := 0) (dX_aload_0 (by decide +kernel)) rfl (by decide +kernel), ?_⟩
  refine ⟨sn_aload_n (k := 1) (dX_aload_1 (by decide +kernel)) rfl (by decide +kernel), ?_⟩
  refine ⟨sn_aload_n (k := 2) (dX_aload_2 (by decide +kernel)) rfl (by decide +kernel), ?_⟩
  refine ⟨sn_callV (idx := 55) (C := RX0) (T := TX0) (N := 13) rfl (by decide) cal_89 (pmt5 196 rfl (by decide +kernel)) (pmt4 57 rfl (by decide +kernel)) (pmt4 58 rfl (by decide +kernel)) (dX_invokevirtual (by decide +kernel)) (by decide +kernel), ?_⟩
  refine ⟨sn_if_ne (off := 12) (dX_ifne (by decide +kernel)) (by decide +kernel) (by decide +kernel), ?_⟩
  refine ⟨sn_aload_n (k := 0) (dX_aload_0 (by decide +kernel)) rfl (by decide +kernel), ?_⟩
  refine ⟨sn_aload_n (k := 1) (dX_aload_1 (by decide +kernel)) rfl (by decide +kernel), ?_⟩
  refine ⟨sn_aload_n (k := 2) (dX_aload_2 (by decide +kernel)) rfl (by decide +kernel), ?_⟩
  refine ⟨sn_callV (idx := 59) (C := RX2) (T := TX2) (N := 10) rfl (by decide) cal_115 (pmt5 197 rfl (by decide +kernel)) (pmt5 199 rfl (by decide +kernel)) (pms 33 rfl rfl) (dX_invokevirtual (by decide +kernel)) (by decide +kernel), ?_⟩
  refine ⟨sn_goto (off := 4) (dX_goto (by decide +kernel)) (by decide +kernel), ?_⟩
  refine ⟨sn_iconst (dX_iconst_m1 (by decide +kernel)) (by decide +kernel), ?_⟩
  refine ⟨sn_puti (C := RX2) (T := TX2) (N := 10) (idx := 63) rfl pin2 (by decide) (by decide) rfl tyX2 tyX2_ok nmX2 rfl rfl (by decide +kernel) (pmt2 94 rfl (by decide +kernel)) rfl (dX_putfield (by decide +kernel)) (by decide +kernel), ?_⟩
  refine ⟨sn_aload_n (k := 0) (dX_aload_0 (by decide +kernel)) rfl (by decide +kernel), ?_⟩
  refine ⟨sn_getf (C := RX2) (T := TX2) (N := 10) (idx := 63) rfl pin2 (by decide) (by decide) rfl (pmt2 94 rfl (by decide +kernel)) rfl (dX_getfield (by decide +kernel)) (by decide +kernel), ?_⟩
  refine ⟨sn_iconst (dX_iconst_m1 (by decide +kernel)) (by decide +kernel), ?_⟩
  refine ⟨sn_icmp_ne (off := 5) (dX_if_icmpne (by decide +kernel)) (by decide +kernel) (by decide +kernel), ?_⟩
  refine ⟨sn_iconst (dX_iconst_0 (by decide +kernel)) (by decide +kernel), ?_⟩
  refine ⟨sn_zret (Or.inl rfl) (dX_ireturn (by decide +kernel)), ?_⟩
  refine ⟨sn_aload_n (k := 0) (dX_aload_0 (by decide +kernel)) rfl (by decide +kernel), ?_⟩
  refine ⟨sn_aload_n (k := 1) (dX_aload_1 (by decide +kernel)) rfl (by decide +kernel), ?_⟩
  refine ⟨sn_callV (idx := 66) (C := RX2) (T := TX2) (N := 10) rfl (by decide) cal_116 (pmt5 206 rfl (by decide +kernel)) (pmt5 208 rfl (by decide +kernel)) (pms 34 rfl rfl) (dX_invokevirtual (by decide +kernel)) (by decide +kernel), ?_⟩
  refine ⟨sn_iconst (dX_iconst_0 (by decide +kernel)) (by decide +kernel), ?_⟩
  refine ⟨sn_istore_n (k := 3) (dX_istore_3 (by decide +kernel)) rfl (by decide) (by decide +kernel), ?_⟩
  refine ⟨sn_iload_n (k := 3) (dX_iload_3 (by decide +kernel)) rfl (by decide +kernel), ?_⟩
  refine ⟨sn_aload_n (k := 0) (dX_aload_0 (by decide +kernel)) rfl (by decide +kernel), ?_⟩
  refine ⟨sn_getf (C := RX2) (T := TX2) (N := 10) (idx := 34) rfl pin2 (by decide) (by decide) rfl (pmt2 92 rfl (by decide +kernel)) rfl (dX_getfield (by decide +kernel)) (by decide +kernel), ?_⟩
  refine ⟨sn_icmp_ge (off := 21) (dX_if_icmpge (by decide +kernel)) (by decide +kernel) (by decide +kernel), ?_⟩
  refine ⟨sn_aload_n (k := 0) (dX_aload_0 (by decide +kernel)) rfl (by decide +kernel), ?_⟩
  refine ⟨sn_getf (C := RX2) (T := TX2) (N := 10) (idx := 18) rfl pin2 (by decide) (by decide) rfl (pmt2 89 rfl (by decide +kernel)) rfl (dX_getfield (by decide +kernel)) (by decide +kernel), ?_⟩
  refine ⟨sn_iload_n (k := 3) (dX_iload_3 (by decide +kernel)) rfl (by decide +kernel), ?_⟩
  refine ⟨sn_aload_n (k := 0) (dX_aload_0 (by decide +kernel)) rfl (by decide +kernel), ?_⟩
  refine ⟨sn_aload_n (k := 1) (dX_aload_1 (by decide +kernel)) rfl (by decide +kernel), ?_⟩
  refine ⟨sn_iload_n (k := 3) (dX_iload_3 (by decide +kernel)) rfl (by decide +kernel), ?_⟩
  refine ⟨sn_callV (idx := 70) (C := RX2) (T := TX2) (N := 10) rfl (by decide) cal_117 (pmt5 211 rfl (by decide +kernel)) (pmt5 213 rfl (by decide +kernel)) (pms 35 rfl rfl) (dX_invokevirtual (by decide +kernel)) (by decide +kernel), ?_⟩
  refine ⟨sn_iast (dX_iastore (by decide +kernel)) (by decide +kernel), ?_⟩
  refine ⟨sn_iinc (dX_iinc (by decide +kernel)) (by decide) (by decide +kernel), ?_⟩
  refine ⟨sn_goto (off := -23) (dX_goto (by decide +kernel)) (by decide +kernel), ?_⟩
  refine ⟨sn_iconst (dX_iconst_1 (by decide +kernel)) (by decide +kernel), ?_⟩
  refine ⟨sn_zret (Or.inl rfl) (dX_ireturn (by decide +kernel)), ?_⟩
  trivial
set_option maxRecDepth 100000 in
set_option maxHeartbeats 4000000 in
theorem S_114 : pAll (pSk RX2 cX2_roomAt 3 (some .int) PC_114) 0 C_114 := by
  refine ⟨sn_iload_n (k := 1) (dX_iload_1 (by decide +kernel)) rfl (by decide +kernel), ?_⟩
  refine ⟨sn_if_lt (off := 27) (dX_iflt (by decide +kernel)) (by decide +kernel) (by decide +kernel), ?_⟩
  refine ⟨sn_iload_n (k := 1) (dX_iload_1 (by decide +kernel)) rfl (by decide +kernel), ?_⟩
  refine ⟨sn_aload_n (k := 0) (dX_aload_0 (by decide +kernel)) rfl (by decide +kernel), ?_⟩
  refine ⟨sn_getf (C := RX2) (T := TX2) (N := 10) (idx := 34) rfl pin2 (by decide) (by decide) rfl (pmt2 92 rfl (by decide +kernel)) rfl (dX_getfield (by decide +kernel)) (by decide +kernel), ?_⟩
  refine ⟨sn_icmp_ge (off := 19) (dX_if_icmpge (by decide +kernel)) (by decide +kernel) (by decide +kernel), ?_⟩
  refine ⟨sn_aload_n (k := 0) (dX_aload_0 (by decide +kernel)) rfl (by decide +kernel), ?_⟩
  refine ⟨sn_getf (C := RX2) (T := TX2) (N := 10) (idx := 11) rfl pin2 (by decide) (by decide) rfl (pmt2 87 rfl (by decide +kernel)) rfl (dX_getfield (by decide +kernel)) (by decide +kernel), ?_⟩
  refine ⟨sn_iload_n (k := 1) (dX_iload_1 (by decide +kernel)) rfl (by decide +kernel), ?_⟩
  refine ⟨sn_iald (dX_iaload (by decide +kernel)) (by decide +kernel), ?_⟩
  refine ⟨sn_iconst (dX_iconst_3 (by decide +kernel)) (by decide +kernel), ?_⟩
  refine ⟨sn_iload_n (k := 2) (dX_iload_2 (by decide +kernel)) rfl (by decide +kernel), ?_⟩
  refine ⟨sn_imul (dX_imul (by decide +kernel)) (by decide +kernel), ?_⟩
  refine ⟨sn_ishr (dX_ishr (by decide +kernel)) (by decide +kernel), ?_⟩
  refine ⟨sn_bipush (dX_bipush (by decide +kernel)) (by decide +kernel) (by decide +kernel), ?_⟩
  refine ⟨sn_iand (dX_iand (by decide +kernel)) (by decide +kernel), ?_⟩
  refine ⟨sn_goto (off := 4) (dX_goto (by decide +kernel)) (by decide +kernel), ?_⟩
  refine ⟨sn_iconst (dX_iconst_m1 (by decide +kernel)) (by decide +kernel), ?_⟩
  refine ⟨sn_iret rfl (dX_ireturn (by decide +kernel)), ?_⟩
  trivial
set_option maxRecDepth 100000 in
set_option maxHeartbeats 4000000 in
theorem S_115 : pAll (pSk RX2 cX2_find 6 (some .int) PC_115) 0 C_115 := by
  refine ⟨sn_iconst (dX_iconst_0 (by decide +kernel)) (by decide +kernel), ?_⟩
  refine ⟨sn_istore_n (k := 3) (dX_istore_3 (by decide +kernel)) rfl (by decide) (by decide +kernel), ?_⟩
  refine ⟨sn_iload_n (k := 3) (dX_iload_3 (by decide +kernel)) rfl (by decide +kernel), ?_⟩
  refine ⟨sn_aload_n (k := 0) (dX_aload_0 (by decide +kernel)) rfl (by decide +kernel), ?_⟩
  refine ⟨sn_getf (C := RX2) (T := TX2) (N := 10) (idx := 34) rfl pin2 (by decide) (by decide) rfl (pmt2 92 rfl (by decide +kernel)) rfl (dX_getfield (by decide +kernel)) (by decide +kernel), ?_⟩
  refine ⟨sn_icmp_ge (off := 72) (dX_if_icmpge (by decide +kernel)) (by decide +kernel) (by decide +kernel), ?_⟩
  refine ⟨sn_iconst (dX_iconst_0 (by decide +kernel)) (by decide +kernel), ?_⟩
  refine ⟨sn_istore (dX_istore (by decide +kernel)) (by decide) (by decide +kernel), ?_⟩
  refine ⟨sn_iconst (dX_iconst_0 (by decide +kernel)) (by decide +kernel), ?_⟩
  refine ⟨sn_istore (dX_istore (by decide +kernel)) (by decide) (by decide +kernel), ?_⟩
  refine ⟨sn_iload (dX_iload (by decide +kernel)) (by decide +kernel), ?_⟩
  refine ⟨sn_aload_n (k := 1) (dX_aload_1 (by decide +kernel)) rfl (by decide +kernel), ?_⟩
  refine ⟨sn_getf (C := RX0) (T := TX0) (N := 13) (idx := 74) rfl pin0 (by decide) (by decide) rfl (pmt1 142 rfl (by decide +kernel)) rfl (dX_getfield (by decide +kernel)) (by decide +kernel), ?_⟩
  refine ⟨sn_icmp_ge (off := 40) (dX_if_icmpge (by decide +kernel)) (by decide +kernel) (by decide +kernel), ?_⟩
  refine ⟨sn_iload (dX_iload (by decide +kernel)) (by decide +kernel), ?_⟩
  refine ⟨sn_aload_n (k := 0) (dX_aload_0 (by decide +kernel)) rfl (by decide +kernel), ?_⟩
  refine ⟨sn_iload_n (k := 3) (dX_iload_3 (by decide +kernel)) rfl (by decide +kernel), ?_⟩
  refine ⟨sn_aload_n (k := 1) (dX_aload_1 (by decide +kernel)) rfl (by decide +kernel), ?_⟩
  refine ⟨sn_getf (C := RX0) (T := TX0) (N := 13) (idx := 77) rfl pin0 (by decide) (by decide) rfl (pmt1 131 rfl (by decide +kernel)) rfl (dX_getfield (by decide +kernel)) (by decide +kernel), ?_⟩
  refine ⟨sn_iload (dX_iload (by decide +kernel)) (by decide +kernel), ?_⟩
  refine ⟨sn_iald (dX_iaload (by decide +kernel)) (by decide +kernel), ?_⟩
  refine ⟨sn_callV (idx := 80) (C := RX2) (T := TX2) (N := 10) rfl (by decide) cal_114 (pmt5 201 rfl (by decide +kernel)) (pmt5 202 rfl (by decide +kernel)) (pmt5 203 rfl (by decide +kernel)) (dX_invokevirtual (by decide +kernel)) (by decide +kernel), ?_⟩
  refine ⟨sn_aload_n (k := 2) (dX_aload_2 (by decide +kernel)) rfl (by decide +kernel), ?_⟩
  refine ⟨sn_iload (dX_iload (by decide +kernel)) (by decide +kernel), ?_⟩
  refine ⟨sn_callSN (idx := 84) (host := "SetsStayTogether") cal_47 (pnest_of 84) (pmt4 25 rfl (by decide +kernel)) (dX_invokestatic (by decide +kernel)) (by decide +kernel), ?_⟩
  refine ⟨sn_icmp_ne (off := 7) (dX_if_icmpne (by decide +kernel)) (by decide +kernel) (by decide +kernel), ?_⟩
  refine ⟨sn_iconst (dX_iconst_1 (by decide +kernel)) (by decide +kernel), ?_⟩
  refine ⟨sn_goto (off := 4) (dX_goto (by decide +kernel)) (by decide +kernel), ?_⟩
  refine ⟨sn_iconst (dX_iconst_0 (by decide +kernel)) (by decide +kernel), ?_⟩
  refine ⟨sn_iadd (dX_iadd (by decide +kernel)) (by decide +kernel), ?_⟩
  refine ⟨sn_istore (dX_istore (by decide +kernel)) (by decide) (by decide +kernel), ?_⟩
  refine ⟨sn_iinc (dX_iinc (by decide +kernel)) (by decide) (by decide +kernel), ?_⟩
  refine ⟨sn_goto (off := -43) (dX_goto (by decide +kernel)) (by decide +kernel), ?_⟩
  refine ⟨sn_iload (dX_iload (by decide +kernel)) (by decide +kernel), ?_⟩
  refine ⟨sn_aload_n (k := 1) (dX_aload_1 (by decide +kernel)) rfl (by decide +kernel), ?_⟩
  refine ⟨sn_getf (C := RX0) (T := TX0) (N := 13) (idx := 74) rfl pin0 (by decide) (by decide) rfl (pmt1 142 rfl (by decide +kernel)) rfl (dX_getfield (by decide +kernel)) (by decide +kernel), ?_⟩
  refine ⟨sn_icmp_ne (off := 5) (dX_if_icmpne (by decide +kernel)) (by decide +kernel) (by decide +kernel), ?_⟩
  refine ⟨sn_iload_n (k := 3) (dX_iload_3 (by decide +kernel)) rfl (by decide +kernel), ?_⟩
  refine ⟨sn_iret rfl (dX_ireturn (by decide +kernel)), ?_⟩
  refine ⟨sn_iinc (dX_iinc (by decide +kernel)) (by decide) (by decide +kernel), ?_⟩
  refine ⟨sn_goto (off := -74) (dX_goto (by decide +kernel)) (by decide +kernel), ?_⟩
  refine ⟨sn_iconst (dX_iconst_m1 (by decide +kernel)) (by decide +kernel), ?_⟩
  refine ⟨sn_iret rfl (dX_ireturn (by decide +kernel)), ?_⟩
  trivial
set_option maxRecDepth 100000 in
set_option maxHeartbeats 4000000 in
theorem S_116 : pAll (pSk RX2 cX2_fillCosts 6 none PC_116) 0 C_116 := by
  refine ⟨sn_iconst (dX_iconst_0 (by decide +kernel)) (by decide +kernel), ?_⟩
  refine ⟨sn_istore_n (k := 2) (dX_istore_2 (by decide +kernel)) rfl (by decide) (by decide +kernel), ?_⟩
  refine ⟨sn_iload_n (k := 2) (dX_iload_2 (by decide +kernel)) rfl (by decide +kernel), ?_⟩
  refine ⟨sn_aload_n (k := 0) (dX_aload_0 (by decide +kernel)) rfl (by decide +kernel), ?_⟩
  refine ⟨sn_getf (C := RX2) (T := TX2) (N := 10) (idx := 15) rfl pin2 (by decide) (by decide) rfl (pmt2 88 rfl (by decide +kernel)) rfl (dX_getfield (by decide +kernel)) (by decide +kernel), ?_⟩
  refine ⟨sn_alen (dX_arraylength (by decide +kernel)) (by decide +kernel), ?_⟩
  refine ⟨sn_icmp_ge (off := 16) (dX_if_icmpge (by decide +kernel)) (by decide +kernel) (by decide +kernel), ?_⟩
  refine ⟨sn_aload_n (k := 0) (dX_aload_0 (by decide +kernel)) rfl (by decide +kernel), ?_⟩
  refine ⟨sn_getf (C := RX2) (T := TX2) (N := 10) (idx := 15) rfl pin2 (by decide) (by decide) rfl (pmt2 88 rfl (by decide +kernel)) rfl (dX_getfield (by decide +kernel)) (by decide +kernel), ?_⟩
  refine ⟨sn_iload_n (k := 2) (dX_iload_2 (by decide +kernel)) rfl (by decide +kernel), ?_⟩
  refine ⟨sn_iconst (dX_iconst_0 (by decide +kernel)) (by decide +kernel), ?_⟩
  refine ⟨sn_iast (dX_iastore (by decide +kernel)) (by decide +kernel), ?_⟩
  refine ⟨sn_iinc (dX_iinc (by decide +kernel)) (by decide) (by decide +kernel), ?_⟩
  refine ⟨sn_goto (off := -19) (dX_goto (by decide +kernel)) (by decide +kernel), ?_⟩
  refine ⟨sn_iconst (dX_iconst_0 (by decide +kernel)) (by decide +kernel), ?_⟩
  refine ⟨sn_istore_n (k := 2) (dX_istore_2 (by decide +kernel)) rfl (by decide) (by decide +kernel), ?_⟩
  refine ⟨sn_iload_n (k := 2) (dX_iload_2 (by decide +kernel)) rfl (by decide +kernel), ?_⟩
  refine ⟨sn_aload_n (k := 1) (dX_aload_1 (by decide +kernel)) rfl (by decide +kernel), ?_⟩
  refine ⟨sn_getf (C := RX0) (T := TX0) (N := 13) (idx := 74) rfl pin0 (by decide) (by decide) rfl (pmt1 142 rfl (by decide +kernel)) rfl (dX_getfield (by decide +kernel)) (by decide +kernel), ?_⟩
  refine ⟨sn_icmp_ge (off := 95) (dX_if_icmpge (by decide +kernel)) (by decide +kernel) (by decide +kernel), ?_⟩
  refine ⟨sn_aload_n (k := 1) (dX_aload_1 (by decide +kernel)) rfl (by decide +kernel), ?_⟩
  refine ⟨sn_getf (C := RX0) (T := TX0) (N := 13) (idx := 77) rfl pin0 (by decide) (by decide) rfl (pmt1 131 rfl (by decide +kernel)) rfl (dX_getfield (by decide +kernel)) (by decide +kernel), ?_⟩
  refine ⟨sn_iload_n (k := 2) (dX_iload_2 (by decide +kernel)) rfl (by decide +kernel), ?_⟩
  refine ⟨sn_iald (dX_iaload (by decide +kernel)) (by decide +kernel), ?_⟩
  refine ⟨sn_bipush (dX_bipush (by decide +kernel)) (by decide +kernel) (by decide +kernel), ?_⟩
  refine ⟨sn_imul (dX_imul (by decide +kernel)) (by decide +kernel), ?_⟩
  refine ⟨sn_bipush (dX_bipush (by decide +kernel)) (by decide +kernel) (by decide +kernel), ?_⟩
  refine ⟨sn_imul (dX_imul (by decide +kernel)) (by decide +kernel), ?_⟩
  refine ⟨sn_istore_n (k := 3) (dX_istore_3 (by decide +kernel)) rfl (by decide) (by decide +kernel), ?_⟩
  refine ⟨sn_iconst (dX_iconst_0 (by decide +kernel)) (by decide +kernel), ?_⟩
  refine ⟨sn_istore (dX_istore (by decide +kernel)) (by decide) (by decide +kernel), ?_⟩
  refine ⟨sn_iload (dX_iload (by decide +kernel)) (by decide +kernel), ?_⟩
  refine ⟨sn_bipush (dX_bipush (by decide +kernel)) (by decide +kernel) (by decide +kernel), ?_⟩
  refine ⟨sn_icmp_ge (off := 66) (dX_if_icmpge (by decide +kernel)) (by decide +kernel) (by decide +kernel), ?_⟩
  refine ⟨sn_aload_n (k := 1) (dX_aload_1 (by decide +kernel)) rfl (by decide +kernel), ?_⟩
  refine ⟨sn_iload_n (k := 2) (dX_iload_2 (by decide +kernel)) rfl (by decide +kernel), ?_⟩
  refine ⟨sn_iload (dX_iload (by decide +kernel)) (by decide +kernel), ?_⟩
  refine ⟨sn_bipush (dX_bipush (by decide +kernel)) (by decide +kernel) (by decide +kernel), ?_⟩
  refine ⟨sn_idiv (dX_idiv (by decide +kernel)) (by decide +kernel), ?_⟩
  refine ⟨sn_iload (dX_iload (by decide +kernel)) (by decide +kernel), ?_⟩
  refine ⟨sn_bipush (dX_bipush (by decide +kernel)) (by decide +kernel) (by decide +kernel), ?_⟩
  refine ⟨sn_irem (dX_irem (by decide +kernel)) (by decide +kernel), ?_⟩
  refine ⟨sn_callV (idx := 88) (C := RX0) (T := TX0) (N := 13) rfl (by decide) cal_82 (pmt5 210 rfl (by decide +kernel)) (pmt4 28 rfl (by decide +kernel)) (pmt4 29 rfl (by decide +kernel)) (dX_invokevirtual (by decide +kernel)) (by decide +kernel), ?_⟩
  refine ⟨sn_istore (dX_istore (by decide +kernel)) (by decide) (by decide +kernel), ?_⟩
  refine ⟨sn_iload_n (k := 3) (dX_iload_3 (by decide +kernel)) rfl (by decide +kernel), ?_⟩
  refine ⟨sn_if_lt (off := 39) (dX_iflt (by decide +kernel)) (by decide +kernel) (by decide +kernel), ?_⟩
  refine ⟨sn_iload_n (k := 3) (dX_iload_3 (by decide +kernel)) rfl (by decide +kernel), ?_⟩
  refine ⟨sn_iload (dX_iload (by decide +kernel)) (by decide +kernel), ?_⟩
  refine ⟨sn_iadd (dX_iadd (by decide +kernel)) (by decide +kernel), ?_⟩
  refine ⟨sn_aload_n (k := 0) (dX_aload_0 (by decide +kernel)) rfl (by decide +kernel), ?_⟩
  refine ⟨sn_getf (C := RX2) (T := TX2) (N := 10) (idx := 15) rfl pin2 (by decide) (by decide) rfl (pmt2 88 rfl (by decide +kernel)) rfl (dX_getfield (by decide +kernel)) (by decide +kernel), ?_⟩
  refine ⟨sn_alen (dX_arraylength (by decide +kernel)) (by decide +kernel), ?_⟩
  refine ⟨sn_icmp_ge (off := 27) (dX_if_icmpge (by decide +kernel)) (by decide +kernel) (by decide +kernel), ?_⟩
  refine ⟨sn_aload_n (k := 0) (dX_aload_0 (by decide +kernel)) rfl (by decide +kernel), ?_⟩
  refine ⟨sn_getf (C := RX2) (T := TX2) (N := 10) (idx := 15) rfl pin2 (by decide) (by decide) rfl (pmt2 88 rfl (by decide +kernel)) rfl (dX_getfield (by decide +kernel)) (by decide +kernel), ?_⟩
  refine ⟨sn_iload_n (k := 3) (dX_iload_3 (by decide +kernel)) rfl (by decide +kernel), ?_⟩
  refine ⟨sn_iload (dX_iload (by decide +kernel)) (by decide +kernel), ?_⟩
  refine ⟨sn_iadd (dX_iadd (by decide +kernel)) (by decide +kernel), ?_⟩
  refine ⟨sn_dup2 (dX_dup2 (by decide +kernel)) (by decide +kernel), ?_⟩
  refine ⟨sn_iald (dX_iaload (by decide +kernel)) (by decide +kernel), ?_⟩
  refine ⟨sn_iload (dX_iload (by decide +kernel)) (by decide +kernel), ?_⟩
  refine ⟨sn_if_ge (off := 8) (dX_ifge (by decide +kernel)) (by decide +kernel) (by decide +kernel), ?_⟩
  refine ⟨sn_ldc (idx := 47) (dX_ldc (by decide +kernel)) (pmt5 190 rfl (by decide +kernel)) (by decide +kernel), ?_⟩
  refine ⟨sn_goto (off := 5) (dX_goto (by decide +kernel)) (by decide +kernel), ?_⟩
  refine ⟨sn_iload (dX_iload (by decide +kernel)) (by decide +kernel), ?_⟩
  refine ⟨sn_iadd (dX_iadd (by decide +kernel)) (by decide +kernel), ?_⟩
  refine ⟨sn_iast (dX_iastore (by decide +kernel)) (by decide +kernel), ?_⟩
  refine ⟨sn_iinc (dX_iinc (by decide +kernel)) (by decide) (by decide +kernel), ?_⟩
  refine ⟨sn_goto (off := -67) (dX_goto (by decide +kernel)) (by decide +kernel), ?_⟩
  refine ⟨sn_iinc (dX_iinc (by decide +kernel)) (by decide) (by decide +kernel), ?_⟩
  refine ⟨sn_goto (off := -97) (dX_goto (by decide +kernel)) (by decide +kernel), ?_⟩
  refine ⟨sn_vret rfl (dX_return (by decide +kernel)), ?_⟩
  trivial
set_option maxRecDepth 100000 in
set_option maxHeartbeats 4000000 in
theorem S_117 : pAll (pSk RX2 cX2_firstCost 6 (some .int) PC_117) 0 C_117 := by
  refine ⟨sn_iconst (dX_iconst_0 (by decide +kernel)) (by decide +kernel), ?_⟩
  refine ⟨sn_istore_n (k := 3) (dX_istore_3 (by decide +kernel)) rfl (by decide) (by decide +kernel), ?_⟩
  refine ⟨sn_iconst (dX_iconst_0 (by decide +kernel)) (by decide +kernel), ?_⟩
  refine ⟨sn_istore (dX_istore (by decide +kernel)) (by decide) (by decide +kernel), ?_⟩
  refine ⟨sn_iload (dX_iload (by decide +kernel)) (by decide +kernel), ?_⟩
  refine ⟨sn_aload_n (k := 1) (dX_aload_1 (by decide +kernel)) rfl (by decide +kernel), ?_⟩
  refine ⟨sn_getf (C := RX0) (T := TX0) (N := 13) (idx := 74) rfl pin0 (by decide) (by decide) rfl (pmt1 142 rfl (by decide +kernel)) rfl (dX_getfield (by decide +kernel)) (by decide +kernel), ?_⟩
  refine ⟨sn_icmp_ge (off := 51) (dX_if_icmpge (by decide +kernel)) (by decide +kernel) (by decide +kernel), ?_⟩
  refine ⟨sn_aload_n (k := 1) (dX_aload_1 (by decide +kernel)) rfl (by decide +kernel), ?_⟩
  refine ⟨sn_iload (dX_iload (by decide +kernel)) (by decide +kernel), ?_⟩
  refine ⟨sn_aload_n (k := 1) (dX_aload_1 (by decide +kernel)) rfl (by decide +kernel), ?_⟩
  refine ⟨sn_getf (C := RX0) (T := TX0) (N := 13) (idx := 92) rfl pin0 (by decide) (by decide) rfl (pmt1 124 rfl (by decide +kernel)) rfl (dX_getfield (by decide +kernel)) (by decide +kernel), ?_⟩
  refine ⟨sn_iload (dX_iload (by decide +kernel)) (by decide +kernel), ?_⟩
  refine ⟨sn_iald (dX_iaload (by decide +kernel)) (by decide +kernel), ?_⟩
  refine ⟨sn_aload_n (k := 0) (dX_aload_0 (by decide +kernel)) rfl (by decide +kernel), ?_⟩
  refine ⟨sn_iload_n (k := 2) (dX_iload_2 (by decide +kernel)) rfl (by decide +kernel), ?_⟩
  refine ⟨sn_aload_n (k := 1) (dX_aload_1 (by decide +kernel)) rfl (by decide +kernel), ?_⟩
  refine ⟨sn_getf (C := RX0) (T := TX0) (N := 13) (idx := 77) rfl pin0 (by decide) (by decide) rfl (pmt1 131 rfl (by decide +kernel)) rfl (dX_getfield (by decide +kernel)) (by decide +kernel), ?_⟩
  refine ⟨sn_iload (dX_iload (by decide +kernel)) (by decide +kernel), ?_⟩
  refine ⟨sn_iald (dX_iaload (by decide +kernel)) (by decide +kernel), ?_⟩
  refine ⟨sn_callV (idx := 80) (C := RX2) (T := TX2) (N := 10) rfl (by decide) cal_114 (pmt5 201 rfl (by decide +kernel)) (pmt5 202 rfl (by decide +kernel)) (pmt5 203 rfl (by decide +kernel)) (dX_invokevirtual (by decide +kernel)) (by decide +kernel), ?_⟩
  refine ⟨sn_callV (idx := 88) (C := RX0) (T := TX0) (N := 13) rfl (by decide) cal_82 (pmt5 210 rfl (by decide +kernel)) (pmt4 28 rfl (by decide +kernel)) (pmt4 29 rfl (by decide +kernel)) (dX_invokevirtual (by decide +kernel)) (by decide +kernel), ?_⟩
  refine ⟨sn_istore (dX_istore (by decide +kernel)) (by decide) (by decide +kernel), ?_⟩
  refine ⟨sn_iload_n (k := 3) (dX_iload_3 (by decide +kernel)) rfl (by decide +kernel), ?_⟩
  refine ⟨sn_iload (dX_iload (by decide +kernel)) (by decide +kernel), ?_⟩
  refine ⟨sn_if_ge (off := 8) (dX_ifge (by decide +kernel)) (by decide +kernel) (by decide +kernel), ?_⟩
  refine ⟨sn_ldc (idx := 47) (dX_ldc (by decide +kernel)) (pmt5 190 rfl (by decide +kernel)) (by decide +kernel), ?_⟩
  refine ⟨sn_goto (off := 5) (dX_goto (by decide +kernel)) (by decide +kernel), ?_⟩
  refine ⟨sn_iload (dX_iload (by decide +kernel)) (by decide +kernel), ?_⟩
  refine ⟨sn_iadd (dX_iadd (by decide +kernel)) (by decide +kernel), ?_⟩
  refine ⟨sn_istore_n (k := 3) (dX_istore_3 (by decide +kernel)) rfl (by decide) (by decide +kernel), ?_⟩
  refine ⟨sn_iinc (dX_iinc (by decide +kernel)) (by decide) (by decide +kernel), ?_⟩
  refine ⟨sn_goto (off := -54) (dX_goto (by decide +kernel)) (by decide +kernel), ?_⟩
  refine ⟨sn_iload_n (k := 3) (dX_iload_3 (by decide +kernel)) rfl (by decide +kernel), ?_⟩
  refine ⟨sn_iret rfl (dX_ireturn (by decide +kernel)), ?_⟩
  trivial
set_option maxRecDepth 100000 in
set_option maxHeartbeats 4000000 in
theorem S_118 : pAll (pSk RX2 cX2_between 5 (some .int) PC_118) 0 C_118 := by
  refine ⟨sn_iconst (dX_iconst_0 (by decide +kernel)) (by decide +kernel), ?_⟩
  refine ⟨sn_istore_n (k := 3) (dX_istore_3 (by decide +kernel)) rfl (by decide) (by decide +kernel), ?_⟩
  refine ⟨sn_iconst (dX_iconst_0 (by decide +kernel)) (by decide +kernel), ?_⟩
  refine ⟨sn_istore (dX_istore (by decide +kernel)) (by decide) (by decide +kernel), ?_⟩
  refine ⟨sn_iload (dX_iload (by decide +kernel)) (by decide +kernel), ?_⟩
  refine ⟨sn_aload_n (k := 0) (dX_aload_0 (by decide +kernel)) rfl (by decide +kernel), ?_⟩
  refine ⟨sn_getf (C := RX2) (T := TX2) (N := 10) (idx := 33) rfl pin2 (by decide) (by decide) rfl (pmt2 93 rfl (by decide +kernel)) rfl (dX_getfield (by decide +kernel)) (by decide +kernel), ?_⟩
  refine ⟨sn_icmp_ge (off := 43) (dX_if_icmpge (by decide +kernel)) (by decide +kernel) (by decide +kernel), ?_⟩
  refine ⟨sn_iload_n (k := 3) (dX_iload_3 (by decide +kernel)) rfl (by decide +kernel), ?_⟩
  refine ⟨sn_aload_n (k := 0) (dX_aload_0 (by decide +kernel)) rfl (by decide +kernel), ?_⟩
  refine ⟨sn_getf (C := RX2) (T := TX2) (N := 10) (idx := 15) rfl pin2 (by decide) (by decide) rfl (pmt2 88 rfl (by decide +kernel)) rfl (dX_getfield (by decide +kernel)) (by decide +kernel), ?_⟩
  refine ⟨sn_iload (dX_iload (by decide +kernel)) (by decide +kernel), ?_⟩
  refine ⟨sn_bipush (dX_bipush (by decide +kernel)) (by decide +kernel) (by decide +kernel), ?_⟩
  refine ⟨sn_imul (dX_imul (by decide +kernel)) (by decide +kernel), ?_⟩
  refine ⟨sn_aload_n (k := 0) (dX_aload_0 (by decide +kernel)) rfl (by decide +kernel), ?_⟩
  refine ⟨sn_iload_n (k := 1) (dX_iload_1 (by decide +kernel)) rfl (by decide +kernel), ?_⟩
  refine ⟨sn_iload (dX_iload (by decide +kernel)) (by decide +kernel), ?_⟩
  refine ⟨sn_callV (idx := 80) (C := RX2) (T := TX2) (N := 10) rfl (by decide) cal_114 (pmt5 201 rfl (by decide +kernel)) (pmt5 202 rfl (by decide +kernel)) (pmt5 203 rfl (by decide +kernel)) (dX_invokevirtual (by decide +kernel)) (by decide +kernel), ?_⟩
  refine ⟨sn_iadd (dX_iadd (by decide +kernel)) (by decide +kernel), ?_⟩
  refine ⟨sn_bipush (dX_bipush (by decide +kernel)) (by decide +kernel) (by decide +kernel), ?_⟩
  refine ⟨sn_imul (dX_imul (by decide +kernel)) (by decide +kernel), ?_⟩
  refine ⟨sn_aload_n (k := 0) (dX_aload_0 (by decide +kernel)) rfl (by decide +kernel), ?_⟩
  refine ⟨sn_iload_n (k := 2) (dX_iload_2 (by decide +kernel)) rfl (by decide +kernel), ?_⟩
  refine ⟨sn_iload (dX_iload (by decide +kernel)) (by decide +kernel), ?_⟩
  refine ⟨sn_callV (idx := 80) (C := RX2) (T := TX2) (N := 10) rfl (by decide) cal_114 (pmt5 201 rfl (by decide +kernel)) (pmt5 202 rfl (by decide +kernel)) (pmt5 203 rfl (by decide +kernel)) (dX_invokevirtual (by decide +kernel)) (by decide +kernel), ?_⟩
  refine ⟨sn_iadd (dX_iadd (by decide +kernel)) (by decide +kernel), ?_⟩
  refine ⟨sn_callSN (idx := 84) (host := "SetsStayTogether") cal_47 (pnest_of 84) (pmt4 25 rfl (by decide +kernel)) (dX_invokestatic (by decide +kernel)) (by decide +kernel), ?_⟩
  refine ⟨sn_iadd (dX_iadd (by decide +kernel)) (by decide +kernel), ?_⟩
  refine ⟨sn_istore_n (k := 3) (dX_istore_3 (by decide +kernel)) rfl (by decide) (by decide +kernel), ?_⟩
  refine ⟨sn_iinc (dX_iinc (by decide +kernel)) (by decide) (by decide +kernel), ?_⟩
  refine ⟨sn_goto (off := -46) (dX_goto (by decide +kernel)) (by decide +kernel), ?_⟩
  refine ⟨sn_iload_n (k := 3) (dX_iload_3 (by decide +kernel)) rfl (by decide +kernel), ?_⟩
  refine ⟨sn_iret rfl (dX_ireturn (by decide +kernel)), ?_⟩
  trivial
set_option maxRecDepth 100000 in
set_option maxHeartbeats 4000000 in
theorem S_119 : pAll (pSk RX2 cX2_fewest 4 (some .int) PC_119) 0 C_119 := by
  refine ⟨sn_iconst (dX_iconst_0 (by decide +kernel)) (by decide +kernel), ?_⟩
  refine ⟨sn_istore_n (k := 2) (dX_istore_2 (by decide +kernel)) rfl (by decide) (by decide +kernel), ?_⟩
  refine ⟨sn_iload_n (k := 2) (dX_iload_2 (by decide +kernel)) rfl (by decide +kernel), ?_⟩
  refine ⟨sn_aload_n (k := 0) (dX_aload_0 (by decide +kernel)) rfl (by decide +kernel), ?_⟩
  refine ⟨sn_getf (C := RX2) (T := TX2) (N := 10) (idx := 34) rfl pin2 (by decide) (by decide) rfl (pmt2 92 rfl (by decide +kernel)) rfl (dX_getfield (by decide +kernel)) (by decide +kernel), ?_⟩
  refine ⟨sn_icmp_ge (off := 35) (dX_if_icmpge (by decide +kernel)) (by decide +kernel) (by decide +kernel), ?_⟩
  refine ⟨sn_aload_n (k := 0) (dX_aload_0 (by decide +kernel)) rfl (by decide +kernel), ?_⟩
  refine ⟨sn_getf (C := RX2) (T := TX2) (N := 10) (idx := 21) rfl pin2 (by decide) (by decide) rfl (pmt2 90 rfl (by decide +kernel)) rfl (dX_getfield (by decide +kernel)) (by decide +kernel), ?_⟩
  refine ⟨sn_iload_n (k := 2) (dX_iload_2 (by decide +kernel)) rfl (by decide +kernel), ?_⟩
  refine ⟨sn_iload_n (k := 2) (dX_iload_2 (by decide +kernel)) rfl (by decide +kernel), ?_⟩
  refine ⟨sn_aload_n (k := 0) (dX_aload_0 (by decide +kernel)) rfl (by decide +kernel), ?_⟩
  refine ⟨sn_getf (C := RX2) (T := TX2) (N := 10) (idx := 63) rfl pin2 (by decide) (by decide) rfl (pmt2 94 rfl (by decide +kernel)) rfl (dX_getfield (by decide +kernel)) (by decide +kernel), ?_⟩
  refine ⟨sn_icmp_ne (off := 7) (dX_if_icmpne (by decide +kernel)) (by decide +kernel) (by decide +kernel), ?_⟩
  refine ⟨sn_iconst (dX_iconst_0 (by decide +kernel)) (by decide +kernel), ?_⟩
  refine ⟨sn_goto (off := 4) (dX_goto (by decide +kernel)) (by decide +kernel), ?_⟩
  refine ⟨sn_iconst (dX_iconst_m1 (by decide +kernel)) (by decide +kernel), ?_⟩
  refine ⟨sn_iast (dX_iastore (by decide +kernel)) (by decide +kernel), ?_⟩
  refine ⟨sn_aload_n (k := 0) (dX_aload_0 (by decide +kernel)) rfl (by decide +kernel), ?_⟩
  refine ⟨sn_getf (C := RX2) (T := TX2) (N := 10) (idx := 24) rfl pin2 (by decide) (by decide) rfl (pmt2 91 rfl (by decide +kernel)) rfl (dX_getfield (by decide +kernel)) (by decide +kernel), ?_⟩
  refine ⟨sn_iload_n (k := 2) (dX_iload_2 (by decide +kernel)) rfl (by decide +kernel), ?_⟩
  refine ⟨sn_iconst (dX_iconst_0 (by decide +kernel)) (by decide +kernel), ?_⟩
  refine ⟨sn_iast (dX_iastore (by decide +kernel)) (by decide +kernel), ?_⟩
  refine ⟨sn_iinc (dX_iinc (by decide +kernel)) (by decide) (by decide +kernel), ?_⟩
  refine ⟨sn_goto (off := -37) (dX_goto (by decide +kernel)) (by decide +kernel), ?_⟩
  refine ⟨sn_iconst (dX_iconst_1 (by decide +kernel)) (by decide +kernel), ?_⟩
  refine ⟨sn_istore_n (k := 2) (dX_istore_2 (by decide +kernel)) rfl (by decide) (by decide +kernel), ?_⟩
  refine ⟨sn_iconst (dX_iconst_0 (by decide +kernel)) (by decide +kernel), ?_⟩
  refine ⟨sn_istore_n (k := 3) (dX_istore_3 (by decide +kernel)) rfl (by decide) (by decide +kernel), ?_⟩
  refine ⟨sn_iload_n (k := 3) (dX_iload_3 (by decide +kernel)) rfl (by decide +kernel), ?_⟩
  refine ⟨sn_aload_n (k := 0) (dX_aload_0 (by decide +kernel)) rfl (by decide +kernel), ?_⟩
  refine ⟨sn_getf (C := RX2) (T := TX2) (N := 10) (idx := 34) rfl pin2 (by decide) (by decide) rfl (pmt2 92 rfl (by decide +kernel)) rfl (dX_getfield (by decide +kernel)) (by decide +kernel), ?_⟩
  refine ⟨sn_icmp_ge (off := 65) (dX_if_icmpge (by decide +kernel)) (by decide +kernel) (by decide +kernel), ?_⟩
  refine ⟨sn_iload_n (k := 2) (dX_iload_2 (by decide +kernel)) rfl (by decide +kernel), ?_⟩
  refine ⟨sn_if_eq (off := 61) (dX_ifeq (by decide +kernel)) (by decide +kernel) (by decide +kernel), ?_⟩
  refine ⟨sn_aload_n (k := 0) (dX_aload_0 (by decide +kernel)) rfl (by decide +kernel), ?_⟩
  refine ⟨sn_aload_n (k := 0) (dX_aload_0 (by decide +kernel)) rfl (by decide +kernel), ?_⟩
  refine ⟨sn_iload_n (k := 3) (dX_iload_3 (by decide +kernel)) rfl (by decide +kernel), ?_⟩
  refine ⟨sn_iload_n (k := 1) (dX_iload_1 (by decide +kernel)) rfl (by decide +kernel), ?_⟩
  refine ⟨sn_callV (idx := 95) (C := RX2) (T := TX2) (N := 10) rfl (by decide) cal_120 (pmt5 219 rfl (by decide +kernel)) (pmt5 221 rfl (by decide +kernel)) (pms 36 rfl rfl) (dX_invokevirtual (by decide +kernel)) (by decide +kernel), ?_⟩
  refine ⟨sn_puti (C := RX2) (T := TX2) (N := 10) (idx := 98) rfl pin2 (by decide) (by decide) rfl tyX2 tyX2_ok nmX2 rfl rfl (by decide +kernel) (pmt2 97 rfl (by decide +kernel)) rfl (dX_putfield (by decide +kernel)) (by decide +kernel), ?_⟩
  refine ⟨sn_aload_n (k := 0) (dX_aload_0 (by decide +kernel)) rfl (by decide +kernel), ?_⟩
  refine ⟨sn_getf (C := RX2) (T := TX2) (N := 10) (idx := 98) rfl pin2 (by decide) (by decide) rfl (pmt2 97 rfl (by decide +kernel)) rfl (dX_getfield (by decide +kernel)) (by decide +kernel), ?_⟩
  refine ⟨sn_iconst (dX_iconst_m1 (by decide +kernel)) (by decide +kernel), ?_⟩
  refine ⟨sn_icmp_eq (off := 30) (dX_if_icmpeq (by decide +kernel)) (by decide +kernel) (by decide +kernel), ?_⟩
  refine ⟨sn_aload_n (k := 0) (dX_aload_0 (by decide +kernel)) rfl (by decide +kernel), ?_⟩
  refine ⟨sn_aload_n (k := 0) (dX_aload_0 (by decide +kernel)) rfl (by decide +kernel), ?_⟩
  refine ⟨sn_getf (C := RX2) (T := TX2) (N := 10) (idx := 18) rfl pin2 (by decide) (by decide) rfl (pmt2 89 rfl (by decide +kernel)) rfl (dX_getfield (by decide +kernel)) (by decide +kernel), ?_⟩
  refine ⟨sn_aload_n (k := 0) (dX_aload_0 (by decide +kernel)) rfl (by decide +kernel), ?_⟩
  refine ⟨sn_getf (C := RX2) (T := TX2) (N := 10) (idx := 98) rfl pin2 (by decide) (by decide) rfl (pmt2 97 rfl (by decide +kernel)) rfl (dX_getfield (by decide +kernel)) (by decide +kernel), ?_⟩
  refine ⟨sn_iald (dX_iaload (by decide +kernel)) (by decide +kernel), ?_⟩
  refine ⟨sn_aload_n (k := 0) (dX_aload_0 (by decide +kernel)) rfl (by decide +kernel), ?_⟩
  refine ⟨sn_getf (C := RX2) (T := TX2) (N := 10) (idx := 24) rfl pin2 (by decide) (by decide) rfl (pmt2 91 rfl (by decide +kernel)) rfl (dX_getfield (by decide +kernel)) (by decide +kernel), ?_⟩
  refine ⟨sn_aload_n (k := 0) (dX_aload_0 (by decide +kernel)) rfl (by decide +kernel), ?_⟩
  refine ⟨sn_getf (C := RX2) (T := TX2) (N := 10) (idx := 98) rfl pin2 (by decide) (by decide) rfl (pmt2 97 rfl (by decide +kernel)) rfl (dX_getfield (by decide +kernel)) (by decide +kernel), ?_⟩
  refine ⟨sn_iald (dX_iaload (by decide +kernel)) (by decide +kernel), ?_⟩
  refine ⟨sn_iadd (dX_iadd (by decide +kernel)) (by decide +kernel), ?_⟩
  refine ⟨sn_puti (C := RX2) (T := TX2) (N := 10) (idx := 100) rfl pin2 (by decide) (by decide) rfl tyX2 tyX2_ok nmX2 rfl rfl (by decide +kernel) (pmt2 95 rfl (by decide +kernel)) rfl (dX_putfield (by decide +kernel)) (by decide +kernel), ?_⟩
  refine ⟨sn_iload_n (k := 3) (dX_iload_3 (by decide +kernel)) rfl (by decide +kernel), ?_⟩
  refine ⟨sn_iconst (dX_iconst_1 (by decide +kernel)) (by decide +kernel), ?_⟩
  refine ⟨sn_iadd (dX_iadd (by decide +kernel)) (by decide +kernel), ?_⟩
  refine ⟨sn_iret rfl (dX_ireturn (by decide +kernel)), ?_⟩
  refine ⟨sn_aload_n (k := 0) (dX_aload_0 (by decide +kernel)) rfl (by decide +kernel), ?_⟩
  refine ⟨sn_iload_n (k := 3) (dX_iload_3 (by decide +kernel)) rfl (by decide +kernel), ?_⟩
  refine ⟨sn_iload_n (k := 1) (dX_iload_1 (by decide +kernel)) rfl (by decide +kernel), ?_⟩
  refine ⟨sn_callV (idx := 103) (C := RX2) (T := TX2) (N := 10) rfl (by decide) cal_121 (pmt5 223 rfl (by decide +kernel)) (pmt5 225 rfl (by decide +kernel)) (pms 37 rfl rfl) (dX_invokevirtual (by decide +kernel)) (by decide +kernel), ?_⟩
  refine ⟨sn_istore_n (k := 2) (dX_istore_2 (by decide +kernel)) rfl (by decide) (by decide +kernel), ?_⟩
  refine ⟨sn_iinc (dX_iinc (by decide +kernel)) (by decide) (by decide +kernel), ?_⟩
  refine ⟨sn_goto (off := -67) (dX_goto (by decide +kernel)) (by decide +kernel), ?_⟩
  refine ⟨sn_iconst (dX_iconst_m1 (by decide +kernel)) (by decide +kernel), ?_⟩
  refine ⟨sn_iret rfl (dX_ireturn (by decide +kernel)), ?_⟩
  trivial
set_option maxRecDepth 100000 in
set_option maxHeartbeats 4000000 in
theorem S_120 : pAll (pSk RX2 cX2_firstBefore 6 (some .int) PC_120) 0 C_120 := by
  refine ⟨sn_iconst (dX_iconst_m1 (by decide +kernel)) (by decide +kernel), ?_⟩
  refine ⟨sn_istore_n (k := 3) (dX_istore_3 (by decide +kernel)) rfl (by decide) (by decide +kernel), ?_⟩
  refine ⟨sn_ldc (idx := 47) (dX_ldc (by decide +kernel)) (pmt5 190 rfl (by decide +kernel)) (by decide +kernel), ?_⟩
  refine ⟨sn_istore (dX_istore (by decide +kernel)) (by decide) (by decide +kernel), ?_⟩
  refine ⟨sn_iconst (dX_iconst_0 (by decide +kernel)) (by decide +kernel), ?_⟩
  refine ⟨sn_istore (dX_istore (by decide +kernel)) (by decide) (by decide +kernel), ?_⟩
  refine ⟨sn_iload (dX_iload (by decide +kernel)) (by decide +kernel), ?_⟩
  refine ⟨sn_aload_n (k := 0) (dX_aload_0 (by decide +kernel)) rfl (by decide +kernel), ?_⟩
  refine ⟨sn_getf (C := RX2) (T := TX2) (N := 10) (idx := 34) rfl pin2 (by decide) (by decide) rfl (pmt2 92 rfl (by decide +kernel)) rfl (dX_getfield (by decide +kernel)) (by decide +kernel), ?_⟩
  refine ⟨sn_icmp_ge (off := 71) (dX_if_icmpge (by decide +kernel)) (by decide +kernel) (by decide +kernel), ?_⟩
  refine ⟨sn_aload_n (k := 0) (dX_aload_0 (by decide +kernel)) rfl (by decide +kernel), ?_⟩
  refine ⟨sn_getf (C := RX2) (T := TX2) (N := 10) (idx := 21) rfl pin2 (by decide) (by decide) rfl (pmt2 90 rfl (by decide +kernel)) rfl (dX_getfield (by decide +kernel)) (by decide +kernel), ?_⟩
  refine ⟨sn_iload (dX_iload (by decide +kernel)) (by decide +kernel), ?_⟩
  refine ⟨sn_iald (dX_iaload (by decide +kernel)) (by decide +kernel), ?_⟩
  refine ⟨sn_iload_n (k := 1) (dX_iload_1 (by decide +kernel)) rfl (by decide +kernel), ?_⟩
  refine ⟨sn_icmp_ne (off := 54) (dX_if_icmpne (by decide +kernel)) (by decide +kernel) (by decide +kernel), ?_⟩
  refine ⟨sn_aload_n (k := 0) (dX_aload_0 (by decide +kernel)) rfl (by decide +kernel), ?_⟩
  refine ⟨sn_getf (C := RX2) (T := TX2) (N := 10) (idx := 18) rfl pin2 (by decide) (by decide) rfl (pmt2 89 rfl (by decide +kernel)) rfl (dX_getfield (by decide +kernel)) (by decide +kernel), ?_⟩
  refine ⟨sn_iload (dX_iload (by decide +kernel)) (by decide +kernel), ?_⟩
  refine ⟨sn_iald (dX_iaload (by decide +kernel)) (by decide +kernel), ?_⟩
  refine ⟨sn_iload_n (k := 2) (dX_iload_2 (by decide +kernel)) rfl (by decide +kernel), ?_⟩
  refine ⟨sn_icmp_gt (off := 43) (dX_if_icmpgt (by decide +kernel)) (by decide +kernel) (by decide +kernel), ?_⟩
  refine ⟨sn_aload_n (k := 0) (dX_aload_0 (by decide +kernel)) rfl (by decide +kernel), ?_⟩
  refine ⟨sn_getf (C := RX2) (T := TX2) (N := 10) (idx := 18) rfl pin2 (by decide) (by decide) rfl (pmt2 89 rfl (by decide +kernel)) rfl (dX_getfield (by decide +kernel)) (by decide +kernel), ?_⟩
  refine ⟨sn_iload (dX_iload (by decide +kernel)) (by decide +kernel), ?_⟩
  refine ⟨sn_iald (dX_iaload (by decide +kernel)) (by decide +kernel), ?_⟩
  refine ⟨sn_aload_n (k := 0) (dX_aload_0 (by decide +kernel)) rfl (by decide +kernel), ?_⟩
  refine ⟨sn_getf (C := RX2) (T := TX2) (N := 10) (idx := 24) rfl pin2 (by decide) (by decide) rfl (pmt2 91 rfl (by decide +kernel)) rfl (dX_getfield (by decide +kernel)) (by decide +kernel), ?_⟩
  refine ⟨sn_iload (dX_iload (by decide +kernel)) (by decide +kernel), ?_⟩
  refine ⟨sn_iald (dX_iaload (by decide +kernel)) (by decide +kernel), ?_⟩
  refine ⟨sn_iadd (dX_iadd (by decide +kernel)) (by decide +kernel), ?_⟩
  refine ⟨sn_iload (dX_iload (by decide +kernel)) (by decide +kernel), ?_⟩
  refine ⟨sn_icmp_ge (off := 23) (dX_if_icmpge (by decide +kernel)) (by decide +kernel) (by decide +kernel), ?_⟩
  refine ⟨sn_aload_n (k := 0) (dX_aload_0 (by decide +kernel)) rfl (by decide +kernel), ?_⟩
  refine ⟨sn_getf (C := RX2) (T := TX2) (N := 10) (idx := 18) rfl pin2 (by decide) (by decide) rfl (pmt2 89 rfl (by decide +kernel)) rfl (dX_getfield (by decide +kernel)) (by decide +kernel), ?_⟩
  refine ⟨sn_iload (dX_iload (by decide +kernel)) (by decide +kernel), ?_⟩
  refine ⟨sn_iald (dX_iaload (by decide +kernel)) (by decide +kernel), ?_⟩
  refine ⟨sn_aload_n (k := 0) (dX_aload_0 (by decide +kernel)) rfl (by decide +kernel), ?_⟩
  refine ⟨sn_getf (C := RX2) (T := TX2) (N := 10) (idx := 24) rfl pin2 (by decide) (by decide) rfl (pmt2 91 rfl (by decide +kernel)) rfl (dX_getfield (by decide +kernel)) (by decide +kernel), ?_⟩
  refine ⟨sn_iload (dX_iload (by decide +kernel)) (by decide +kernel), ?_⟩
  refine ⟨sn_iald (dX_iaload (by decide +kernel)) (by decide +kernel), ?_⟩
  refine ⟨sn_iadd (dX_iadd (by decide +kernel)) (by decide +kernel), ?_⟩
  refine ⟨sn_istore (dX_istore (by decide +kernel)) (by decide) (by decide +kernel), ?_⟩
  refine ⟨sn_iload (dX_iload (by decide +kernel)) (by decide +kernel), ?_⟩
  refine ⟨sn_istore_n (k := 3) (dX_istore_3 (by decide +kernel)) rfl (by decide) (by decide +kernel), ?_⟩
  refine ⟨sn_iinc (dX_iinc (by decide +kernel)) (by decide) (by decide +kernel), ?_⟩
  refine ⟨sn_goto (off := -74) (dX_goto (by decide +kernel)) (by decide +kernel), ?_⟩
  refine ⟨sn_iload_n (k := 3) (dX_iload_3 (by decide +kernel)) rfl (by decide +kernel), ?_⟩
  refine ⟨sn_iret rfl (dX_ireturn (by decide +kernel)), ?_⟩
  trivial
set_option maxRecDepth 100000 in
set_option maxHeartbeats 4000000 in
theorem S_121 : pAll (pSk RX2 cX2_goBack 6 (some .boolean) PC_121) 0 C_121 := by
  refine ⟨sn_iconst (dX_iconst_0 (by decide +kernel)) (by decide +kernel), ?_⟩
  refine ⟨sn_istore_n (k := 3) (dX_istore_3 (by decide +kernel)) rfl (by decide) (by decide +kernel), ?_⟩
  refine ⟨sn_iconst (dX_iconst_0 (by decide +kernel)) (by decide +kernel), ?_⟩
  refine ⟨sn_istore (dX_istore (by decide +kernel)) (by decide) (by decide +kernel), ?_⟩
  refine ⟨sn_iload (dX_iload (by decide +kernel)) (by decide +kernel), ?_⟩
  refine ⟨sn_aload_n (k := 0) (dX_aload_0 (by decide +kernel)) rfl (by decide +kernel), ?_⟩
  refine ⟨sn_getf (C := RX2) (T := TX2) (N := 10) (idx := 34) rfl pin2 (by decide) (by decide) rfl (pmt2 92 rfl (by decide +kernel)) rfl (dX_getfield (by decide +kernel)) (by decide +kernel), ?_⟩
  refine ⟨sn_icmp_ge (off := 58) (dX_if_icmpge (by decide +kernel)) (by decide +kernel) (by decide +kernel), ?_⟩
  refine ⟨sn_aload_n (k := 0) (dX_aload_0 (by decide +kernel)) rfl (by decide +kernel), ?_⟩
  refine ⟨sn_getf (C := RX2) (T := TX2) (N := 10) (idx := 21) rfl pin2 (by decide) (by decide) rfl (pmt2 90 rfl (by decide +kernel)) rfl (dX_getfield (by decide +kernel)) (by decide +kernel), ?_⟩
  refine ⟨sn_iload (dX_iload (by decide +kernel)) (by decide +kernel), ?_⟩
  refine ⟨sn_iald (dX_iaload (by decide +kernel)) (by decide +kernel), ?_⟩
  refine ⟨sn_iconst (dX_iconst_m1 (by decide +kernel)) (by decide +kernel), ?_⟩
  refine ⟨sn_icmp_ne (off := 41) (dX_if_icmpne (by decide +kernel)) (by decide +kernel) (by decide +kernel), ?_⟩
  refine ⟨sn_aload_n (k := 0) (dX_aload_0 (by decide +kernel)) rfl (by decide +kernel), ?_⟩
  refine ⟨sn_iload (dX_iload (by decide +kernel)) (by decide +kernel), ?_⟩
  refine ⟨sn_iload_n (k := 1) (dX_iload_1 (by decide +kernel)) rfl (by decide +kernel), ?_⟩
  refine ⟨sn_iload_n (k := 2) (dX_iload_2 (by decide +kernel)) rfl (by decide +kernel), ?_⟩
  refine ⟨sn_callV (idx := 107) (C := RX2) (T := TX2) (N := 10) rfl (by decide) cal_122 (pmt5 227 rfl (by decide +kernel)) (pmt5 229 rfl (by decide +kernel)) (pms 38 rfl rfl) (dX_invokevirtual (by decide +kernel)) (by decide +kernel), ?_⟩
  refine ⟨sn_istore (dX_istore (by decide +kernel)) (by decide) (by decide +kernel), ?_⟩
  refine ⟨sn_iload (dX_iload (by decide +kernel)) (by decide +kernel), ?_⟩
  refine ⟨sn_ldc (idx := 47) (dX_ldc (by decide +kernel)) (pmt5 190 rfl (by decide +kernel)) (by decide +kernel), ?_⟩
  refine ⟨sn_icmp_ge (off := 24) (dX_if_icmpge (by decide +kernel)) (by decide +kernel) (by decide +kernel), ?_⟩
  refine ⟨sn_aload_n (k := 0) (dX_aload_0 (by decide +kernel)) rfl (by decide +kernel), ?_⟩
  refine ⟨sn_getf (C := RX2) (T := TX2) (N := 10) (idx := 21) rfl pin2 (by decide) (by decide) rfl (pmt2 90 rfl (by decide +kernel)) rfl (dX_getfield (by decide +kernel)) (by decide +kernel), ?_⟩
  refine ⟨sn_iload (dX_iload (by decide +kernel)) (by decide +kernel), ?_⟩
  refine ⟨sn_iload_n (k := 1) (dX_iload_1 (by decide +kernel)) rfl (by decide +kernel), ?_⟩
  refine ⟨sn_iconst (dX_iconst_1 (by decide +kernel)) (by decide +kernel), ?_⟩
  refine ⟨sn_iadd (dX_iadd (by decide +kernel)) (by decide +kernel), ?_⟩
  refine ⟨sn_iast (dX_iastore (by decide +kernel)) (by decide +kernel), ?_⟩
  refine ⟨sn_aload_n (k := 0) (dX_aload_0 (by decide +kernel)) rfl (by decide +kernel), ?_⟩
  refine ⟨sn_getf (C := RX2) (T := TX2) (N := 10) (idx := 24) rfl pin2 (by decide) (by decide) rfl (pmt2 91 rfl (by decide +kernel)) rfl (dX_getfield (by decide +kernel)) (by decide +kernel), ?_⟩
  refine ⟨sn_iload (dX_iload (by decide +kernel)) (by decide +kernel), ?_⟩
  refine ⟨sn_iload (dX_iload (by decide +kernel)) (by decide +kernel), ?_⟩
  refine ⟨sn_iast (dX_iastore (by decide +kernel)) (by decide +kernel), ?_⟩
  refine ⟨sn_iconst (dX_iconst_1 (by decide +kernel)) (by decide +kernel), ?_⟩
  refine ⟨sn_istore_n (k := 3) (dX_istore_3 (by decide +kernel)) rfl (by decide) (by decide +kernel), ?_⟩
  refine ⟨sn_iinc (dX_iinc (by decide +kernel)) (by decide) (by decide +kernel), ?_⟩
  refine ⟨sn_goto (off := -61) (dX_goto (by decide +kernel)) (by decide +kernel), ?_⟩
  refine ⟨sn_iload_n (k := 3) (dX_iload_3 (by decide +kernel)) rfl (by decide +kernel), ?_⟩
  refine ⟨sn_zret (Or.inl rfl) (dX_ireturn (by decide +kernel)), ?_⟩
  trivial
set_option maxRecDepth 100000 in
set_option maxHeartbeats 4000000 in
theorem S_122 : pAll (pSk RX2 cX2_leastFrom 7 (some .int) PC_122) 0 C_122 := by
  refine ⟨sn_ldc (idx := 47) (dX_ldc (by decide +kernel)) (pmt5 190 rfl (by decide +kernel)) (by decide +kernel), ?_⟩
  refine ⟨sn_istore (dX_istore (by decide +kernel)) (by decide) (by decide +kernel), ?_⟩
  refine ⟨sn_iconst (dX_iconst_0 (by decide +kernel)) (by decide +kernel), ?_⟩
  refine ⟨sn_istore (dX_istore (by decide +kernel)) (by decide) (by decide +kernel), ?_⟩
  refine ⟨sn_iload (dX_iload (by decide +kernel)) (by decide +kernel), ?_⟩
  refine ⟨sn_aload_n (k := 0) (dX_aload_0 (by decide +kernel)) rfl (by decide +kernel), ?_⟩
  refine ⟨sn_getf (C := RX2) (T := TX2) (N := 10) (idx := 34) rfl pin2 (by decide) (by decide) rfl (pmt2 92 rfl (by decide +kernel)) rfl (dX_getfield (by decide +kernel)) (by decide +kernel), ?_⟩
  refine ⟨sn_icmp_ge (off := 52) (dX_if_icmpge (by decide +kernel)) (by decide +kernel) (by decide +kernel), ?_⟩
  refine ⟨sn_aload_n (k := 0) (dX_aload_0 (by decide +kernel)) rfl (by decide +kernel), ?_⟩
  refine ⟨sn_getf (C := RX2) (T := TX2) (N := 10) (idx := 21) rfl pin2 (by decide) (by decide) rfl (pmt2 90 rfl (by decide +kernel)) rfl (dX_getfield (by decide +kernel)) (by decide +kernel), ?_⟩
  refine ⟨sn_iload (dX_iload (by decide +kernel)) (by decide +kernel), ?_⟩
  refine ⟨sn_iald (dX_iaload (by decide +kernel)) (by decide +kernel), ?_⟩
  refine ⟨sn_iload_n (k := 2) (dX_iload_2 (by decide +kernel)) rfl (by decide +kernel), ?_⟩
  refine ⟨sn_icmp_ne (off := 35) (dX_if_icmpne (by decide +kernel)) (by decide +kernel) (by decide +kernel), ?_⟩
  refine ⟨sn_aload_n (k := 0) (dX_aload_0 (by decide +kernel)) rfl (by decide +kernel), ?_⟩
  refine ⟨sn_iload_n (k := 1) (dX_iload_1 (by decide +kernel)) rfl (by decide +kernel), ?_⟩
  refine ⟨sn_iload (dX_iload (by decide +kernel)) (by decide +kernel), ?_⟩
  refine ⟨sn_callV (idx := 110) (C := RX2) (T := TX2) (N := 10) rfl (by decide) cal_118 (pmt5 231 rfl (by decide +kernel)) (pmt5 233 rfl (by decide +kernel)) (pms 39 rfl rfl) (dX_invokevirtual (by decide +kernel)) (by decide +kernel), ?_⟩
  refine ⟨sn_istore (dX_istore (by decide +kernel)) (by decide) (by decide +kernel), ?_⟩
  refine ⟨sn_iload (dX_iload (by decide +kernel)) (by decide +kernel), ?_⟩
  refine ⟨sn_iload_n (k := 3) (dX_iload_3 (by decide +kernel)) rfl (by decide +kernel), ?_⟩
  refine ⟨sn_icmp_gt (off := 20) (dX_if_icmpgt (by decide +kernel)) (by decide +kernel) (by decide +kernel), ?_⟩
  refine ⟨sn_iload (dX_iload (by decide +kernel)) (by decide +kernel), ?_⟩
  refine ⟨sn_iload (dX_iload (by decide +kernel)) (by decide +kernel), ?_⟩
  refine ⟨sn_aload_n (k := 0) (dX_aload_0 (by decide +kernel)) rfl (by decide +kernel), ?_⟩
  refine ⟨sn_getf (C := RX2) (T := TX2) (N := 10) (idx := 24) rfl pin2 (by decide) (by decide) rfl (pmt2 91 rfl (by decide +kernel)) rfl (dX_getfield (by decide +kernel)) (by decide +kernel), ?_⟩
  refine ⟨sn_iload (dX_iload (by decide +kernel)) (by decide +kernel), ?_⟩
  refine ⟨sn_iald (dX_iaload (by decide +kernel)) (by decide +kernel), ?_⟩
  refine ⟨sn_iadd (dX_iadd (by decide +kernel)) (by decide +kernel), ?_⟩
  refine ⟨sn_mmin (idx := 113) (pmt5 235 rfl (by decide +kernel)) (pmt2 211 rfl (by decide +kernel)) (pmt1 14 rfl (by decide +kernel)) (pmt2 212 rfl (by decide +kernel)) (dX_invokestatic (by decide +kernel)) (by decide +kernel), ?_⟩
  refine ⟨sn_istore (dX_istore (by decide +kernel)) (by decide) (by decide +kernel), ?_⟩
  refine ⟨sn_iinc (dX_iinc (by decide +kernel)) (by decide) (by decide +kernel), ?_⟩
  refine ⟨sn_goto (off := -55) (dX_goto (by decide +kernel)) (by decide +kernel), ?_⟩
  refine ⟨sn_iload (dX_iload (by decide +kernel)) (by decide +kernel), ?_⟩
  refine ⟨sn_iret rfl (dX_ireturn (by decide +kernel)), ?_⟩
  trivial
set_option maxRecDepth 100000 in
set_option maxHeartbeats 4000000 in
theorem S_123 : pAll (pSk RX2 cX2_narrowest 4 (some .int) PC_123) 0 C_123 := by
  refine ⟨sn_iconst (dX_iconst_0 (by decide +kernel)) (by decide +kernel), ?_⟩
  refine ⟨sn_istore_n (k := 1) (dX_istore_1 (by decide +kernel)) rfl (by decide) (by decide +kernel), ?_⟩
  refine ⟨sn_iload_n (k := 1) (dX_iload_1 (by decide +kernel)) rfl (by decide +kernel), ?_⟩
  refine ⟨sn_aload_n (k := 0) (dX_aload_0 (by decide +kernel)) rfl (by decide +kernel), ?_⟩
  refine ⟨sn_getf (C := RX2) (T := TX2) (N := 10) (idx := 34) rfl pin2 (by decide) (by decide) rfl (pmt2 92 rfl (by decide +kernel)) rfl (dX_getfield (by decide +kernel)) (by decide +kernel), ?_⟩
  refine ⟨sn_icmp_ge (off := 28) (dX_if_icmpge (by decide +kernel)) (by decide +kernel) (by decide +kernel), ?_⟩
  refine ⟨sn_aload_n (k := 0) (dX_aload_0 (by decide +kernel)) rfl (by decide +kernel), ?_⟩
  refine ⟨sn_getf (C := RX2) (T := TX2) (N := 10) (idx := 21) rfl pin2 (by decide) (by decide) rfl (pmt2 90 rfl (by decide +kernel)) rfl (dX_getfield (by decide +kernel)) (by decide +kernel), ?_⟩
  refine ⟨sn_iload_n (k := 1) (dX_iload_1 (by decide +kernel)) rfl (by decide +kernel), ?_⟩
  refine ⟨sn_iconst (dX_iconst_m1 (by decide +kernel)) (by decide +kernel), ?_⟩
  refine ⟨sn_iast (dX_iastore (by decide +kernel)) (by decide +kernel), ?_⟩
  refine ⟨sn_aload_n (k := 0) (dX_aload_0 (by decide +kernel)) rfl (by decide +kernel), ?_⟩
  refine ⟨sn_getf (C := RX2) (T := TX2) (N := 10) (idx := 24) rfl pin2 (by decide) (by decide) rfl (pmt2 91 rfl (by decide +kernel)) rfl (dX_getfield (by decide +kernel)) (by decide +kernel), ?_⟩
  refine ⟨sn_iload_n (k := 1) (dX_iload_1 (by decide +kernel)) rfl (by decide +kernel), ?_⟩
  refine ⟨sn_aload_n (k := 0) (dX_aload_0 (by decide +kernel)) rfl (by decide +kernel), ?_⟩
  refine ⟨sn_getf (C := RX2) (T := TX2) (N := 10) (idx := 18) rfl pin2 (by decide) (by decide) rfl (pmt2 89 rfl (by decide +kernel)) rfl (dX_getfield (by decide +kernel)) (by decide +kernel), ?_⟩
  refine ⟨sn_iload_n (k := 1) (dX_iload_1 (by decide +kernel)) rfl (by decide +kernel), ?_⟩
  refine ⟨sn_iald (dX_iaload (by decide +kernel)) (by decide +kernel), ?_⟩
  refine ⟨sn_iast (dX_iastore (by decide +kernel)) (by decide +kernel), ?_⟩
  refine ⟨sn_iinc (dX_iinc (by decide +kernel)) (by decide) (by decide +kernel), ?_⟩
  refine ⟨sn_goto (off := -30) (dX_goto (by decide +kernel)) (by decide +kernel), ?_⟩
  refine ⟨sn_iconst (dX_iconst_0 (by decide +kernel)) (by decide +kernel), ?_⟩
  refine ⟨sn_istore_n (k := 1) (dX_istore_1 (by decide +kernel)) rfl (by decide) (by decide +kernel), ?_⟩
  refine ⟨sn_iload_n (k := 1) (dX_iload_1 (by decide +kernel)) rfl (by decide +kernel), ?_⟩
  refine ⟨sn_aload_n (k := 0) (dX_aload_0 (by decide +kernel)) rfl (by decide +kernel), ?_⟩
  refine ⟨sn_getf (C := RX2) (T := TX2) (N := 10) (idx := 34) rfl pin2 (by decide) (by decide) rfl (pmt2 92 rfl (by decide +kernel)) rfl (dX_getfield (by decide +kernel)) (by decide +kernel), ?_⟩
  refine ⟨sn_icmp_ge (off := 93) (dX_if_icmpge (by decide +kernel)) (by decide +kernel) (by decide +kernel), ?_⟩
  refine ⟨sn_aload_n (k := 0) (dX_aload_0 (by decide +kernel)) rfl (by decide +kernel), ?_⟩
  refine ⟨sn_callV (idx := 118) (C := RX2) (T := TX2) (N := 10) rfl (by decide) cal_124 (pmt6 5 rfl (by decide +kernel)) (pmt6 7 rfl (by decide +kernel)) (pms 40 rfl rfl) (dX_invokevirtual (by decide +kernel)) (by decide +kernel), ?_⟩
  refine ⟨sn_istore_n (k := 2) (dX_istore_2 (by decide +kernel)) rfl (by decide) (by decide +kernel), ?_⟩
  refine ⟨sn_iload_n (k := 2) (dX_iload_2 (by decide +kernel)) rfl (by decide +kernel), ?_⟩
  refine ⟨sn_iconst (dX_iconst_m1 (by decide +kernel)) (by decide +kernel), ?_⟩
  refine ⟨sn_icmp_eq (off := 83) (dX_if_icmpeq (by decide +kernel)) (by decide +kernel) (by decide +kernel), ?_⟩
  refine ⟨sn_iload_n (k := 2) (dX_iload_2 (by decide +kernel)) rfl (by decide +kernel), ?_⟩
  refine ⟨sn_aload_n (k := 0) (dX_aload_0 (by decide +kernel)) rfl (by decide +kernel), ?_⟩
  refine ⟨sn_getf (C := RX2) (T := TX2) (N := 10) (idx := 63) rfl pin2 (by decide) (by decide) rfl (pmt2 94 rfl (by decide +kernel)) rfl (dX_getfield (by decide +kernel)) (by decide +kernel), ?_⟩
  refine ⟨sn_icmp_ne (off := 6) (dX_if_icmpne (by decide +kernel)) (by decide +kernel) (by decide +kernel), ?_⟩
  refine ⟨sn_goto (off := 72) (dX_goto (by decide +kernel)) (by decide +kernel), ?_⟩
  refine ⟨sn_aload_n (k := 0) (dX_aload_0 (by decide +kernel)) rfl (by decide +kernel), ?_⟩
  refine ⟨sn_getf (C := RX2) (T := TX2) (N := 10) (idx := 21) rfl pin2 (by decide) (by decide) rfl (pmt2 90 rfl (by decide +kernel)) rfl (dX_getfield (by decide +kernel)) (by decide +kernel), ?_⟩
  refine ⟨sn_iload_n (k := 2) (dX_iload_2 (by decide +kernel)) rfl (by decide +kernel), ?_⟩
  refine ⟨sn_iconst (dX_iconst_0 (by decide +kernel)) (by decide +kernel), ?_⟩
  refine ⟨sn_iast (dX_iastore (by decide +kernel)) (by decide +kernel), ?_⟩
  refine ⟨sn_iconst (dX_iconst_0 (by decide +kernel)) (by decide +kernel), ?_⟩
  refine ⟨sn_istore_n (k := 3) (dX_istore_3 (by decide +kernel)) rfl (by decide) (by decide +kernel), ?_⟩
  refine ⟨sn_iload_n (k := 3) (dX_iload_3 (by decide +kernel)) rfl (by decide +kernel), ?_⟩
  refine ⟨sn_aload_n (k := 0) (dX_aload_0 (by decide +kernel)) rfl (by decide +kernel), ?_⟩
  refine ⟨sn_getf (C := RX2) (T := TX2) (N := 10) (idx := 34) rfl pin2 (by decide) (by decide) rfl (pmt2 92 rfl (by decide +kernel)) rfl (dX_getfield (by decide +kernel)) (by decide +kernel), ?_⟩
  refine ⟨sn_icmp_ge (off := 49) (dX_if_icmpge (by decide +kernel)) (by decide +kernel) (by decide +kernel), ?_⟩
  refine ⟨sn_aload_n (k := 0) (dX_aload_0 (by decide +kernel)) rfl (by decide +kernel), ?_⟩
  refine ⟨sn_getf (C := RX2) (T := TX2) (N := 10) (idx := 21) rfl pin2 (by decide) (by decide) rfl (pmt2 90 rfl (by decide +kernel)) rfl (dX_getfield (by decide +kernel)) (by decide +kernel), ?_⟩
  refine ⟨sn_iload_n (k := 3) (dX_iload_3 (by decide +kernel)) rfl (by decide +kernel), ?_⟩
  refine ⟨sn_iald (dX_iaload (by decide +kernel)) (by decide +kernel), ?_⟩
  refine ⟨sn_iconst (dX_iconst_m1 (by decide +kernel)) (by decide +kernel), ?_⟩
  refine ⟨sn_icmp_ne (off := 33) (dX_if_icmpne (by decide +kernel)) (by decide +kernel) (by decide +kernel), ?_⟩
  refine ⟨sn_aload_n (k := 0) (dX_aload_0 (by decide +kernel)) rfl (by decide +kernel), ?_⟩
  refine ⟨sn_getf (C := RX2) (T := TX2) (N := 10) (idx := 24) rfl pin2 (by decide) (by decide) rfl (pmt2 91 rfl (by decide +kernel)) rfl (dX_getfield (by decide +kernel)) (by decide +kernel), ?_⟩
  refine ⟨sn_iload_n (k := 3) (dX_iload_3 (by decide +kernel)) rfl (by decide +kernel), ?_⟩
  refine ⟨sn_aload_n (k := 0) (dX_aload_0 (by decide +kernel)) rfl (by decide +kernel), ?_⟩
  refine ⟨sn_getf (C := RX2) (T := TX2) (N := 10) (idx := 24) rfl pin2 (by decide) (by decide) rfl (pmt2 91 rfl (by decide +kernel)) rfl (dX_getfield (by decide +kernel)) (by decide +kernel), ?_⟩
  refine ⟨sn_iload_n (k := 3) (dX_iload_3 (by decide +kernel)) rfl (by decide +kernel), ?_⟩
  refine ⟨sn_iald (dX_iaload (by decide +kernel)) (by decide +kernel), ?_⟩
  refine ⟨sn_aload_n (k := 0) (dX_aload_0 (by decide +kernel)) rfl (by decide +kernel), ?_⟩
  refine ⟨sn_getf (C := RX2) (T := TX2) (N := 10) (idx := 24) rfl pin2 (by decide) (by decide) rfl (pmt2 91 rfl (by decide +kernel)) rfl (dX_getfield (by decide +kernel)) (by decide +kernel), ?_⟩
  refine ⟨sn_iload_n (k := 2) (dX_iload_2 (by decide +kernel)) rfl (by decide +kernel), ?_⟩
  refine ⟨sn_iald (dX_iaload (by decide +kernel)) (by decide +kernel), ?_⟩
  refine ⟨sn_aload_n (k := 0) (dX_aload_0 (by decide +kernel)) rfl (by decide +kernel), ?_⟩
  refine ⟨sn_iload_n (k := 2) (dX_iload_2 (by decide +kernel)) rfl (by decide +kernel), ?_⟩
  refine ⟨sn_iload_n (k := 3) (dX_iload_3 (by decide +kernel)) rfl (by decide +kernel), ?_⟩
  refine ⟨sn_callV (idx := 110) (C := RX2) (T := TX2) (N := 10) rfl (by decide) cal_118 (pmt5 231 rfl (by decide +kernel)) (pmt5 233 rfl (by decide +kernel)) (pms 39 rfl rfl) (dX_invokevirtual (by decide +kernel)) (by decide +kernel), ?_⟩
  refine ⟨sn_mmax (idx := 121) (pmt6 9 rfl (by decide +kernel)) (pmt3 154 rfl (by decide +kernel)) (pmt1 14 rfl (by decide +kernel)) (pmt3 155 rfl (by decide +kernel)) (dX_invokestatic (by decide +kernel)) (by decide +kernel), ?_⟩
  refine ⟨sn_mmin (idx := 113) (pmt5 235 rfl (by decide +kernel)) (pmt2 211 rfl (by decide +kernel)) (pmt1 14 rfl (by decide +kernel)) (pmt2 212 rfl (by decide +kernel)) (dX_invokestatic (by decide +kernel)) (by decide +kernel), ?_⟩
  refine ⟨sn_iast (dX_iastore (by decide +kernel)) (by decide +kernel), ?_⟩
  refine ⟨sn_iinc (dX_iinc (by decide +kernel)) (by decide) (by decide +kernel), ?_⟩
  refine ⟨sn_goto (off := -51) (dX_goto (by decide +kernel)) (by decide +kernel), ?_⟩
  refine ⟨sn_iinc (dX_iinc (by decide +kernel)) (by decide) (by decide +kernel), ?_⟩
  refine ⟨sn_goto (off := -95) (dX_goto (by decide +kernel)) (by decide +kernel), ?_⟩
  refine ⟨sn_aload_n (k := 0) (dX_aload_0 (by decide +kernel)) rfl (by decide +kernel), ?_⟩
  refine ⟨sn_getf (C := RX2) (T := TX2) (N := 10) (idx := 63) rfl pin2 (by decide) (by decide) rfl (pmt2 94 rfl (by decide +kernel)) rfl (dX_getfield (by decide +kernel)) (by decide +kernel), ?_⟩
  refine ⟨sn_if_lt (off := 26) (dX_iflt (by decide +kernel)) (by decide +kernel) (by decide +kernel), ?_⟩
  refine ⟨sn_aload_n (k := 0) (dX_aload_0 (by decide +kernel)) rfl (by decide +kernel), ?_⟩
  refine ⟨sn_getf (C := RX2) (T := TX2) (N := 10) (idx := 63) rfl pin2 (by decide) (by decide) rfl (pmt2 94 rfl (by decide +kernel)) rfl (dX_getfield (by decide +kernel)) (by decide +kernel), ?_⟩
  refine ⟨sn_aload_n (k := 0) (dX_aload_0 (by decide +kernel)) rfl (by decide +kernel), ?_⟩
  refine ⟨sn_getf (C := RX2) (T := TX2) (N := 10) (idx := 34) rfl pin2 (by decide) (by decide) rfl (pmt2 92 rfl (by decide +kernel)) rfl (dX_getfield (by decide +kernel)) (by decide +kernel), ?_⟩
  refine ⟨sn_icmp_ge (off := 15) (dX_if_icmpge (by decide +kernel)) (by decide +kernel) (by decide +kernel), ?_⟩
  refine ⟨sn_aload_n (k := 0) (dX_aload_0 (by decide +kernel)) rfl (by decide +kernel), ?_⟩
  refine ⟨sn_getf (C := RX2) (T := TX2) (N := 10) (idx := 24) rfl pin2 (by decide) (by decide) rfl (pmt2 91 rfl (by decide +kernel)) rfl (dX_getfield (by decide +kernel)) (by decide +kernel), ?_⟩
  refine ⟨sn_aload_n (k := 0) (dX_aload_0 (by decide +kernel)) rfl (by decide +kernel), ?_⟩
  refine ⟨sn_getf (C := RX2) (T := TX2) (N := 10) (idx := 63) rfl pin2 (by decide) (by decide) rfl (pmt2 94 rfl (by decide +kernel)) rfl (dX_getfield (by decide +kernel)) (by decide +kernel), ?_⟩
  refine ⟨sn_iald (dX_iaload (by decide +kernel)) (by decide +kernel), ?_⟩
  refine ⟨sn_goto (off := 5) (dX_goto (by decide +kernel)) (by decide +kernel), ?_⟩
  refine ⟨sn_ldc (idx := 47) (dX_ldc (by decide +kernel)) (pmt5 190 rfl (by decide +kernel)) (by decide +kernel), ?_⟩
  refine ⟨sn_iret rfl (dX_ireturn (by decide +kernel)), ?_⟩
  trivial
set_option maxRecDepth 100000 in
set_option maxHeartbeats 4000000 in
theorem S_124 : pAll (pSk RX2 cX2_easiest 4 (some .int) PC_124) 0 C_124 := by
  refine ⟨sn_iconst (dX_iconst_m1 (by decide +kernel)) (by decide +kernel), ?_⟩
  refine ⟨sn_istore_n (k := 1) (dX_istore_1 (by decide +kernel)) rfl (by decide) (by decide +kernel), ?_⟩
  refine ⟨sn_ldc (idx := 47) (dX_ldc (by decide +kernel)) (pmt5 190 rfl (by decide +kernel)) (by decide +kernel), ?_⟩
  refine ⟨sn_istore_n (k := 2) (dX_istore_2 (by decide +kernel)) rfl (by decide) (by decide +kernel), ?_⟩
  refine ⟨sn_iconst (dX_iconst_0 (by decide +kernel)) (by decide +kernel), ?_⟩
  refine ⟨sn_istore_n (k := 3) (dX_istore_3 (by decide +kernel)) rfl (by decide) (by decide +kernel), ?_⟩
  refine ⟨sn_iload_n (k := 3) (dX_iload_3 (by decide +kernel)) rfl (by decide +kernel), ?_⟩
  refine ⟨sn_aload_n (k := 0) (dX_aload_0 (by decide +kernel)) rfl (by decide +kernel), ?_⟩
  refine ⟨sn_getf (C := RX2) (T := TX2) (N := 10) (idx := 34) rfl pin2 (by decide) (by decide) rfl (pmt2 92 rfl (by decide +kernel)) rfl (dX_getfield (by decide +kernel)) (by decide +kernel), ?_⟩
  refine ⟨sn_icmp_ge (off := 38) (dX_if_icmpge (by decide +kernel)) (by decide +kernel) (by decide +kernel), ?_⟩
  refine ⟨sn_aload_n (k := 0) (dX_aload_0 (by decide +kernel)) rfl (by decide +kernel), ?_⟩
  refine ⟨sn_getf (C := RX2) (T := TX2) (N := 10) (idx := 21) rfl pin2 (by decide) (by decide) rfl (pmt2 90 rfl (by decide +kernel)) rfl (dX_getfield (by decide +kernel)) (by decide +kernel), ?_⟩
  refine ⟨sn_iload_n (k := 3) (dX_iload_3 (by decide +kernel)) rfl (by decide +kernel), ?_⟩
  refine ⟨sn_iald (dX_iaload (by decide +kernel)) (by decide +kernel), ?_⟩
  refine ⟨sn_iconst (dX_iconst_m1 (by decide +kernel)) (by decide +kernel), ?_⟩
  refine ⟨sn_icmp_ne (off := 22) (dX_if_icmpne (by decide +kernel)) (by decide +kernel) (by decide +kernel), ?_⟩
  refine ⟨sn_aload_n (k := 0) (dX_aload_0 (by decide +kernel)) rfl (by decide +kernel), ?_⟩
  refine ⟨sn_getf (C := RX2) (T := TX2) (N := 10) (idx := 24) rfl pin2 (by decide) (by decide) rfl (pmt2 91 rfl (by decide +kernel)) rfl (dX_getfield (by decide +kernel)) (by decide +kernel), ?_⟩
  refine ⟨sn_iload_n (k := 3) (dX_iload_3 (by decide +kernel)) rfl (by decide +kernel), ?_⟩
  refine ⟨sn_iald (dX_iaload (by decide +kernel)) (by decide +kernel), ?_⟩
  refine ⟨sn_iload_n (k := 2) (dX_iload_2 (by decide +kernel)) rfl (by decide +kernel), ?_⟩
  refine ⟨sn_icmp_ge (off := 12) (dX_if_icmpge (by decide +kernel)) (by decide +kernel) (by decide +kernel), ?_⟩
  refine ⟨sn_aload_n (k := 0) (dX_aload_0 (by decide +kernel)) rfl (by decide +kernel), ?_⟩
  refine ⟨sn_getf (C := RX2) (T := TX2) (N := 10) (idx := 24) rfl pin2 (by decide) (by decide) rfl (pmt2 91 rfl (by decide +kernel)) rfl (dX_getfield (by decide +kernel)) (by decide +kernel), ?_⟩
  refine ⟨sn_iload_n (k := 3) (dX_iload_3 (by decide +kernel)) rfl (by decide +kernel), ?_⟩
  refine ⟨sn_iald (dX_iaload (by decide +kernel)) (by decide +kernel), ?_⟩
  refine ⟨sn_istore_n (k := 2) (dX_istore_2 (by decide +kernel)) rfl (by decide) (by decide +kernel), ?_⟩
  refine ⟨sn_iload_n (k := 3) (dX_iload_3 (by decide +kernel)) rfl (by decide +kernel), ?_⟩
  refine ⟨sn_istore_n (k := 1) (dX_istore_1 (by decide +kernel)) rfl (by decide) (by decide +kernel), ?_⟩
  refine ⟨sn_iinc (dX_iinc (by decide +kernel)) (by decide) (by decide +kernel), ?_⟩
  refine ⟨sn_goto (off := -40) (dX_goto (by decide +kernel)) (by decide +kernel), ?_⟩
  refine ⟨sn_iload_n (k := 1) (dX_iload_1 (by decide +kernel)) rfl (by decide +kernel), ?_⟩
  refine ⟨sn_iret rfl (dX_ireturn (by decide +kernel)), ?_⟩
  trivial
set_option maxRecDepth 100000 in
set_option maxHeartbeats 4000000 in
theorem S_125 : pAll (pSk RX3 cX3_store 4 none PC_125) 0 C_125 := by
  refine ⟨sn_aload_n (k := 1) (dX_aload_1 (by decide +kernel)) rfl (by decide +kernel), ?_⟩
  refine ⟨sn_getf (C := RX0) (T := TX0) (N := 13) (idx := 15) rfl pin0 (by decide) (by decide) rfl (pmt1 120 rfl (by decide +kernel)) rfl (dX_getfield (by decide +kernel)) (by decide +kernel), ?_⟩
  refine ⟨sn_aload_n (k := 0) (dX_aload_0 (by decide +kernel)) rfl (by decide +kernel), ?_⟩
  refine ⟨sn_getf (C := RX3) (T := TX3) (N := 6) (idx := 9) rfl pin3 (by decide) (by decide) rfl (pmt2 37 rfl (by decide +kernel)) rfl (dX_getfield (by decide +kernel)) (by decide +kernel), ?_⟩
  refine ⟨sn_callSN (idx := 18) (host := "SetsStayTogether") cal_48 (pnest_of 18) (pmt2 200 rfl (by decide +kernel)) (dX_invokestatic (by decide +kernel)) (by decide +kernel), ?_⟩
  refine ⟨sn_aload_n (k := 0) (dX_aload_0 (by decide +kernel)) rfl (by decide +kernel), ?_⟩
  refine ⟨sn_iconst (dX_iconst_1 (by decide +kernel)) (by decide +kernel), ?_⟩
  refine ⟨sn_putz (C := RX3) (T := TX3) (N := 6) (idx := 22) rfl pin3 (by decide) (by decide) rfl tyX3 tyX3_ok nmX3 rfl rfl (by decide +kernel) (pmt2 39 rfl (by decide +kernel)) rfl (dX_putfield (by decide +kernel)) (by decide +kernel), ?_⟩
  refine ⟨sn_aload_n (k := 0) (dX_aload_0 (by decide +kernel)) rfl (by decide +kernel), ?_⟩
  refine ⟨sn_aload_n (k := 1) (dX_aload_1 (by decide +kernel)) rfl (by decide +kernel), ?_⟩
  refine ⟨sn_getf (C := RX0) (T := TX0) (N := 13) (idx := 26) rfl pin0 (by decide) (by decide) rfl (pmt1 134 rfl (by decide +kernel)) rfl (dX_getfield (by decide +kernel)) (by decide +kernel), ?_⟩
  refine ⟨sn_puti (C := RX3) (T := TX3) (N := 6) (idx := 30) rfl pin3 (by decide) (by decide) rfl tyX3 tyX3_ok nmX3 rfl rfl (by decide +kernel) (pmt2 40 rfl (by decide +kernel)) rfl (dX_putfield (by decide +kernel)) (by decide +kernel), ?_⟩
  refine ⟨sn_aload_n (k := 0) (dX_aload_0 (by decide +kernel)) rfl (by decide +kernel), ?_⟩
  refine ⟨sn_aload_n (k := 1) (dX_aload_1 (by decide +kernel)) rfl (by decide +kernel), ?_⟩
  refine ⟨sn_getf (C := RX0) (T := TX0) (N := 13) (idx := 31) rfl pin0 (by decide) (by decide) rfl (pmt1 138 rfl (by decide +kernel)) rfl (dX_getfield (by decide +kernel)) (by decide +kernel), ?_⟩
  refine ⟨sn_puti (C := RX3) (T := TX3) (N := 6) (idx := 34) rfl pin3 (by decide) (by decide) rfl tyX3 tyX3_ok nmX3 rfl rfl (by decide +kernel) (pmt2 41 rfl (by decide +kernel)) rfl (dX_putfield (by decide +kernel)) (by decide +kernel), ?_⟩
  refine ⟨sn_aload_n (k := 0) (dX_aload_0 (by decide +kernel)) rfl (by decide +kernel), ?_⟩
  refine ⟨sn_iload_n (k := 2) (dX_iload_2 (by decide +kernel)) rfl (by decide +kernel), ?_⟩
  refine ⟨sn_puti (C := RX3) (T := TX3) (N := 6) (idx := 35) rfl pin3 (by decide) (by decide) rfl tyX3 tyX3_ok nmX3 rfl rfl (by decide +kernel) (pmt2 42 rfl (by decide +kernel)) rfl (dX_putfield (by decide +kernel)) (by decide +kernel), ?_⟩
  refine ⟨sn_aload_n (k := 0) (dX_aload_0 (by decide +kernel)) rfl (by decide +kernel), ?_⟩
  refine ⟨sn_iload_n (k := 3) (dX_iload_3 (by decide +kernel)) rfl (by decide +kernel), ?_⟩
  refine ⟨sn_puti (C := RX3) (T := TX3) (N := 6) (idx := 38) rfl pin3 (by decide) (by decide) rfl tyX3 tyX3_ok nmX3 rfl rfl (by decide +kernel) (pmt2 44 rfl (by decide +kernel)) rfl (dX_putfield (by decide +kernel)) (by decide +kernel), ?_⟩
  refine ⟨sn_vret rfl (dX_return (by decide +kernel)), ?_⟩
  trivial
set_option maxRecDepth 100000 in
set_option maxHeartbeats 4000000 in
theorem S_126 : pAll (pSk RX3 cX3_suits 2 (some .boolean) PC_126) 0 C_126 := by
  refine ⟨sn_aload_n (k := 0) (dX_aload_0 (by decide +kernel)) rfl (by decide +kernel), ?_⟩
  refine ⟨sn_getf (C := RX3) (T := TX3) (N := 6) (idx := 22) rfl pin3 (by decide) (by decide) rfl (pmt2 39 rfl (by decide +kernel)) rfl (dX_getfield (by decide +kernel)) (by decide +kernel), ?_⟩
  refine ⟨sn_if_eq (off := 29) (dX_ifeq (by decide +kernel)) (by decide +kernel) (by decide +kernel), ?_⟩
  refine ⟨sn_aload_n (k := 0) (dX_aload_0 (by decide +kernel)) rfl (by decide +kernel), ?_⟩
  refine ⟨sn_getf (C := RX3) (T := TX3) (N := 6) (idx := 30) rfl pin3 (by decide) (by decide) rfl (pmt2 40 rfl (by decide +kernel)) rfl (dX_getfield (by decide +kernel)) (by decide +kernel), ?_⟩
  refine ⟨sn_aload_n (k := 1) (dX_aload_1 (by decide +kernel)) rfl (by decide +kernel), ?_⟩
  refine ⟨sn_getf (C := RX0) (T := TX0) (N := 13) (idx := 26) rfl pin0 (by decide) (by decide) rfl (pmt1 134 rfl (by decide +kernel)) rfl (dX_getfield (by decide +kernel)) (by decide +kernel), ?_⟩
  refine ⟨sn_icmp_ne (off := 18) (dX_if_icmpne (by decide +kernel)) (by decide +kernel) (by decide +kernel), ?_⟩
  refine ⟨sn_aload_n (k := 0) (dX_aload_0 (by decide +kernel)) rfl (by decide +kernel), ?_⟩
  refine ⟨sn_getf (C := RX3) (T := TX3) (N := 6) (idx := 34) rfl pin3 (by decide) (by decide) rfl (pmt2 41 rfl (by decide +kernel)) rfl (dX_getfield (by decide +kernel)) (by decide +kernel), ?_⟩
  refine ⟨sn_aload_n (k := 1) (dX_aload_1 (by decide +kernel)) rfl (by decide +kernel), ?_⟩
  refine ⟨sn_getf (C := RX0) (T := TX0) (N := 13) (idx := 31) rfl pin0 (by decide) (by decide) rfl (pmt1 138 rfl (by decide +kernel)) rfl (dX_getfield (by decide +kernel)) (by decide +kernel), ?_⟩
  refine ⟨sn_icmp_ne (off := 7) (dX_if_icmpne (by decide +kernel)) (by decide +kernel) (by decide +kernel), ?_⟩
  refine ⟨sn_iconst (dX_iconst_1 (by decide +kernel)) (by decide +kernel), ?_⟩
  refine ⟨sn_goto (off := 4) (dX_goto (by decide +kernel)) (by decide +kernel), ?_⟩
  refine ⟨sn_iconst (dX_iconst_0 (by decide +kernel)) (by decide +kernel), ?_⟩
  refine ⟨sn_zret (Or.inl rfl) (dX_ireturn (by decide +kernel)), ?_⟩
  trivial
set_option maxRecDepth 100000 in
set_option maxHeartbeats 4000000 in
theorem S_127 : pAll (pSk RX4 cX4_start 1 none PC_127) 0 C_127 := by
  refine ⟨sn_aload_n (k := 0) (dX_aload_0 (by decide +kernel)) rfl (by decide +kernel), ?_⟩
  refine ⟨sn_iconst (dX_iconst_0 (by decide +kernel)) (by decide +kernel), ?_⟩
  refine ⟨sn_puti (C := RX4) (T := TX4) (N := 2) (idx := 15) rfl pin4 (by decide) (by decide) rfl tyX4 tyX4_ok nmX4 rfl rfl (by decide +kernel) (pmt1 92 rfl (by decide +kernel)) rfl (dX_putfield (by decide +kernel)) (by decide +kernel), ?_⟩
  refine ⟨sn_vret rfl (dX_return (by decide +kernel)), ?_⟩
  trivial
set_option maxRecDepth 100000 in
set_option maxHeartbeats 4000000 in
theorem S_128 : pAll (pSk RX4 cX4_tell 2 none PC_128) 0 C_128 := by
  refine ⟨sn_aload_n (k := 0) (dX_aload_0 (by decide +kernel)) rfl (by decide +kernel), ?_⟩
  refine ⟨sn_getf (C := RX4) (T := TX4) (N := 2) (idx := 15) rfl pin4 (by decide) (by decide) rfl (pmt1 92 rfl (by decide +kernel)) rfl (dX_getfield (by decide +kernel)) (by decide +kernel), ?_⟩
  refine ⟨sn_if_lt (off := 35) (dX_iflt (by decide +kernel)) (by decide +kernel) (by decide +kernel), ?_⟩
  refine ⟨sn_aload_n (k := 0) (dX_aload_0 (by decide +kernel)) rfl (by decide +kernel), ?_⟩
  refine ⟨sn_getf (C := RX4) (T := TX4) (N := 2) (idx := 15) rfl pin4 (by decide) (by decide) rfl (pmt1 92 rfl (by decide +kernel)) rfl (dX_getfield (by decide +kernel)) (by decide +kernel), ?_⟩
  refine ⟨sn_aload_n (k := 0) (dX_aload_0 (by decide +kernel)) rfl (by decide +kernel), ?_⟩
  refine ⟨sn_getf (C := RX4) (T := TX4) (N := 2) (idx := 9) rfl pin4 (by decide) (by decide) rfl (pmt1 90 rfl (by decide +kernel)) rfl (dX_getfield (by decide +kernel)) (by decide +kernel), ?_⟩
  refine ⟨sn_alen (dX_arraylength (by decide +kernel)) (by decide +kernel), ?_⟩
  refine ⟨sn_icmp_ge (off := 23) (dX_if_icmpge (by decide +kernel)) (by decide +kernel) (by decide +kernel), ?_⟩
  refine ⟨sn_aload_n (k := 0) (dX_aload_0 (by decide +kernel)) rfl (by decide +kernel), ?_⟩
  refine ⟨sn_getf (C := RX4) (T := TX4) (N := 2) (idx := 9) rfl pin4 (by decide) (by decide) rfl (pmt1 90 rfl (by decide +kernel)) rfl (dX_getfield (by decide +kernel)) (by decide +kernel), ?_⟩
  refine ⟨sn_aload_n (k := 0) (dX_aload_0 (by decide +kernel)) rfl (by decide +kernel), ?_⟩
  refine ⟨sn_getf (C := RX4) (T := TX4) (N := 2) (idx := 15) rfl pin4 (by decide) (by decide) rfl (pmt1 92 rfl (by decide +kernel)) rfl (dX_getfield (by decide +kernel)) (by decide +kernel), ?_⟩
  refine ⟨sn_iload_n (k := 1) (dX_iload_1 (by decide +kernel)) rfl (by decide +kernel), ?_⟩
  refine ⟨sn_iast (dX_iastore (by decide +kernel)) (by decide +kernel), ?_⟩
  refine ⟨sn_aload_n (k := 0) (dX_aload_0 (by decide +kernel)) rfl (by decide +kernel), ?_⟩
  refine ⟨sn_dup (dX_dup (by decide +kernel)) (by decide +kernel), ?_⟩
  refine ⟨sn_getf (C := RX4) (T := TX4) (N := 2) (idx := 15) rfl pin4 (by decide) (by decide) rfl (pmt1 92 rfl (by decide +kernel)) rfl (dX_getfield (by decide +kernel)) (by decide +kernel), ?_⟩
  refine ⟨sn_iconst (dX_iconst_1 (by decide +kernel)) (by decide +kernel), ?_⟩
  refine ⟨sn_iadd (dX_iadd (by decide +kernel)) (by decide +kernel), ?_⟩
  refine ⟨sn_puti (C := RX4) (T := TX4) (N := 2) (idx := 15) rfl pin4 (by decide) (by decide) rfl tyX4 tyX4_ok nmX4 rfl rfl (by decide +kernel) (pmt1 92 rfl (by decide +kernel)) rfl (dX_putfield (by decide +kernel)) (by decide +kernel), ?_⟩
  refine ⟨sn_vret rfl (dX_return (by decide +kernel)), ?_⟩
  trivial
set_option maxRecDepth 100000 in
set_option maxHeartbeats 4000000 in
theorem S_129 : pAll (pSk RX5 cX5_forget 1 none PC_129) 0 C_129 := by
  refine ⟨sn_aload_n (k := 0) (dX_aload_0 (by decide +kernel)) rfl (by decide +kernel), ?_⟩
  refine ⟨sn_iconst (dX_iconst_0 (by decide +kernel)) (by decide +kernel), ?_⟩
  refine ⟨sn_puti (C := RX5) (T := TX5) (N := 4) (idx := 19) rfl pin5 (by decide) (by decide) rfl tyX5 tyX5_ok nmX5 rfl rfl (by decide +kernel) (pmt2 19 rfl (by decide +kernel)) rfl (dX_putfield (by decide +kernel)) (by decide +kernel), ?_⟩
  refine ⟨sn_vret rfl (dX_return (by decide +kernel)), ?_⟩
  trivial
set_option maxRecDepth 100000 in
set_option maxHeartbeats 4000000 in
theorem S_130 : pAll (pSk RX5 cX5_add 4 none PC_130) 0 C_130 := by
  refine ⟨sn_aload_n (k := 0) (dX_aload_0 (by decide +kernel)) rfl (by decide +kernel), ?_⟩
  refine ⟨sn_getf (C := RX5) (T := TX5) (N := 4) (idx := 19) rfl pin5 (by decide) (by decide) rfl (pmt2 19 rfl (by decide +kernel)) rfl (dX_getfield (by decide +kernel)) (by decide +kernel), ?_⟩
  refine ⟨sn_bipush (dX_bipush (by decide +kernel)) (by decide +kernel) (by decide +kernel), ?_⟩
  refine ⟨sn_icmp_lt (off := 7) (dX_if_icmplt (by decide +kernel)) (by decide +kernel) (by decide +kernel), ?_⟩
  refine ⟨sn_aload_n (k := 0) (dX_aload_0 (by decide +kernel)) rfl (by decide +kernel), ?_⟩
  refine ⟨sn_callV (idx := 23) (C := RX5) (T := TX5) (N := 4) rfl (by decide) cal_131 (pmt4 48 rfl (by decide +kernel)) (pmt4 50 rfl (by decide +kernel)) (pms 17 rfl rfl) (dX_invokevirtual (by decide +kernel)) (by decide +kernel), ?_⟩
  refine ⟨sn_aload_n (k := 0) (dX_aload_0 (by decide +kernel)) rfl (by decide +kernel), ?_⟩
  refine ⟨sn_getf (C := RX5) (T := TX5) (N := 4) (idx := 19) rfl pin5 (by decide) (by decide) rfl (pmt2 19 rfl (by decide +kernel)) rfl (dX_getfield (by decide +kernel)) (by decide +kernel), ?_⟩
  refine ⟨sn_if_lt (off := 52) (dX_iflt (by decide +kernel)) (by decide +kernel) (by decide +kernel), ?_⟩
  refine ⟨sn_aload_n (k := 0) (dX_aload_0 (by decide +kernel)) rfl (by decide +kernel), ?_⟩
  refine ⟨sn_getf (C := RX5) (T := TX5) (N := 4) (idx := 19) rfl pin5 (by decide) (by decide) rfl (pmt2 19 rfl (by decide +kernel)) rfl (dX_getfield (by decide +kernel)) (by decide +kernel), ?_⟩
  refine ⟨sn_bipush (dX_bipush (by decide +kernel)) (by decide +kernel) (by decide +kernel), ?_⟩
  refine ⟨sn_icmp_ge (off := 43) (dX_if_icmpge (by decide +kernel)) (by decide +kernel) (by decide +kernel), ?_⟩
  refine ⟨sn_aload_n (k := 0) (dX_aload_0 (by decide +kernel)) rfl (by decide +kernel), ?_⟩
  refine ⟨sn_getf (C := RX5) (T := TX5) (N := 4) (idx := 9) rfl pin5 (by decide) (by decide) rfl (pmt2 13 rfl (by decide +kernel)) rfl (dX_getfield (by decide +kernel)) (by decide +kernel), ?_⟩
  refine ⟨sn_aload_n (k := 0) (dX_aload_0 (by decide +kernel)) rfl (by decide +kernel), ?_⟩
  refine ⟨sn_getf (C := RX5) (T := TX5) (N := 4) (idx := 19) rfl pin5 (by decide) (by decide) rfl (pmt2 19 rfl (by decide +kernel)) rfl (dX_getfield (by decide +kernel)) (by decide +kernel), ?_⟩
  refine ⟨sn_iload_n (k := 1) (dX_iload_1 (by decide +kernel)) rfl (by decide +kernel), ?_⟩
  refine ⟨sn_iast (dX_iastore (by decide +kernel)) (by decide +kernel), ?_⟩
  refine ⟨sn_aload_n (k := 0) (dX_aload_0 (by decide +kernel)) rfl (by decide +kernel), ?_⟩
  refine ⟨sn_getf (C := RX5) (T := TX5) (N := 4) (idx := 13) rfl pin5 (by decide) (by decide) rfl (pmt2 15 rfl (by decide +kernel)) rfl (dX_getfield (by decide +kernel)) (by decide +kernel), ?_⟩
  refine ⟨sn_aload_n (k := 0) (dX_aload_0 (by decide +kernel)) rfl (by decide +kernel), ?_⟩
  refine ⟨sn_getf (C := RX5) (T := TX5) (N := 4) (idx := 19) rfl pin5 (by decide) (by decide) rfl (pmt2 19 rfl (by decide +kernel)) rfl (dX_getfield (by decide +kernel)) (by decide +kernel), ?_⟩
  refine ⟨sn_iload_n (k := 2) (dX_iload_2 (by decide +kernel)) rfl (by decide +kernel), ?_⟩
  refine ⟨sn_iast (dX_iastore (by decide +kernel)) (by decide +kernel), ?_⟩
  refine ⟨sn_aload_n (k := 0) (dX_aload_0 (by decide +kernel)) rfl (by decide +kernel), ?_⟩
  refine ⟨sn_getf (C := RX5) (T := TX5) (N := 4) (idx := 16) rfl pin5 (by decide) (by decide) rfl (pmt2 17 rfl (by decide +kernel)) rfl (dX_getfield (by decide +kernel)) (by decide +kernel), ?_⟩
  refine ⟨sn_aload_n (k := 0) (dX_aload_0 (by decide +kernel)) rfl (by decide +kernel), ?_⟩
  refine ⟨sn_getf (C := RX5) (T := TX5) (N := 4) (idx := 19) rfl pin5 (by decide) (by decide) rfl (pmt2 19 rfl (by decide +kernel)) rfl (dX_getfield (by decide +kernel)) (by decide +kernel), ?_⟩
  refine ⟨sn_iload_n (k := 3) (dX_iload_3 (by decide +kernel)) rfl (by decide +kernel), ?_⟩
  refine ⟨sn_iast (dX_iastore (by decide +kernel)) (by decide +kernel), ?_⟩
  refine ⟨sn_aload_n (k := 0) (dX_aload_0 (by decide +kernel)) rfl (by decide +kernel), ?_⟩
  refine ⟨sn_dup (dX_dup (by decide +kernel)) (by decide +kernel), ?_⟩
  refine ⟨sn_getf (C := RX5) (T := TX5) (N := 4) (idx := 19) rfl pin5 (by decide) (by decide) rfl (pmt2 19 rfl (by decide +kernel)) rfl (dX_getfield (by decide +kernel)) (by decide +kernel), ?_⟩
  refine ⟨sn_iconst (dX_iconst_1 (by decide +kernel)) (by decide +kernel), ?_⟩
  refine ⟨sn_iadd (dX_iadd (by decide +kernel)) (by decide +kernel), ?_⟩
  refine ⟨sn_puti (C := RX5) (T := TX5) (N := 4) (idx := 19) rfl pin5 (by decide) (by decide) rfl tyX5 tyX5_ok nmX5 rfl rfl (by decide +kernel) (pmt2 19 rfl (by decide +kernel)) rfl (dX_putfield (by decide +kernel)) (by decide +kernel), ?_⟩
  refine ⟨sn_vret rfl (dX_return (by decide +kernel)), ?_⟩
  trivial
set_option maxRecDepth 100000 in
set_option maxHeartbeats 4000000 in
theorem S_131 : pAll (pSk RX5 cX5_dropFirst 2 none PC_131) 0 C_131 := by
  refine ⟨sn_iconst (dX_iconst_1 (by decide +kernel)) (by decide +kernel), ?_⟩
  refine ⟨sn_istore_n (k := 1) (dX_istore_1 (by decide +kernel)) rfl (by decide) (by decide +kernel), ?_⟩
  refine ⟨sn_iload_n (k := 1) (dX_iload_1 (by decide +kernel)) rfl (by decide +kernel), ?_⟩
  refine ⟨sn_bipush (dX_bipush (by decide +kernel)) (by decide +kernel) (by decide +kernel), ?_⟩
  refine ⟨sn_icmp_ge (off := 51) (dX_if_icmpge (by decide +kernel)) (by decide +kernel) (by decide +kernel), ?_⟩
  refine ⟨sn_aload_n (k := 0) (dX_aload_0 (by decide +kernel)) rfl (by decide +kernel), ?_⟩
  refine ⟨sn_getf (C := RX5) (T := TX5) (N := 4) (idx := 9) rfl pin5 (by decide) (by decide) rfl (pmt2 13 rfl (by decide +kernel)) rfl (dX_getfield (by decide +kernel)) (by decide +kernel), ?_⟩
  refine ⟨sn_iload_n (k := 1) (dX_iload_1 (by decide +kernel)) rfl (by decide +kernel), ?_⟩
  refine ⟨sn_iconst (dX_iconst_1 (by decide +kernel)) (by decide +kernel), ?_⟩
  refine ⟨sn_isub (dX_isub (by decide +kernel)) (by decide +kernel), ?_⟩
  refine ⟨sn_aload_n (k := 0) (dX_aload_0 (by decide +kernel)) rfl (by decide +kernel), ?_⟩
  refine ⟨sn_getf (C := RX5) (T := TX5) (N := 4) (idx := 9) rfl pin5 (by decide) (by decide) rfl (pmt2 13 rfl (by decide +kernel)) rfl (dX_getfield (by decide +kernel)) (by decide +kernel), ?_⟩
  refine ⟨sn_iload_n (k := 1) (dX_iload_1 (by decide +kernel)) rfl (by decide +kernel), ?_⟩
  refine ⟨sn_iald (dX_iaload (by decide +kernel)) (by decide +kernel), ?_⟩
  refine ⟨sn_iast (dX_iastore (by decide +kernel)) (by decide +kernel), ?_⟩
  refine ⟨sn_aload_n (k := 0) (dX_aload_0 (by decide +kernel)) rfl (by decide +kernel), ?_⟩
  refine ⟨sn_getf (C := RX5) (T := TX5) (N := 4) (idx := 13) rfl pin5 (by decide) (by decide) rfl (pmt2 15 rfl (by decide +kernel)) rfl (dX_getfield (by decide +kernel)) (by decide +kernel), ?_⟩
  refine ⟨sn_iload_n (k := 1) (dX_iload_1 (by decide +kernel)) rfl (by decide +kernel), ?_⟩
  refine ⟨sn_iconst (dX_iconst_1 (by decide +kernel)) (by decide +kernel), ?_⟩
  refine ⟨sn_isub (dX_isub (by decide +kernel)) (by decide +kernel), ?_⟩
  refine ⟨sn_aload_n (k := 0) (dX_aload_0 (by decide +kernel)) rfl (by decide +kernel), ?_⟩
  refine ⟨sn_getf (C := RX5) (T := TX5) (N := 4) (idx := 13) rfl pin5 (by decide) (by decide) rfl (pmt2 15 rfl (by decide +kernel)) rfl (dX_getfield (by decide +kernel)) (by decide +kernel), ?_⟩
  refine ⟨sn_iload_n (k := 1) (dX_iload_1 (by decide +kernel)) rfl (by decide +kernel), ?_⟩
  refine ⟨sn_iald (dX_iaload (by decide +kernel)) (by decide +kernel), ?_⟩
  refine ⟨sn_iast (dX_iastore (by decide +kernel)) (by decide +kernel), ?_⟩
  refine ⟨sn_aload_n (k := 0) (dX_aload_0 (by decide +kernel)) rfl (by decide +kernel), ?_⟩
  refine ⟨sn_getf (C := RX5) (T := TX5) (N := 4) (idx := 16) rfl pin5 (by decide) (by decide) rfl (pmt2 17 rfl (by decide +kernel)) rfl (dX_getfield (by decide +kernel)) (by decide +kernel), ?_⟩
  refine ⟨sn_iload_n (k := 1) (dX_iload_1 (by decide +kernel)) rfl (by decide +kernel), ?_⟩
  refine ⟨sn_iconst (dX_iconst_1 (by decide +kernel)) (by decide +kernel), ?_⟩
  refine ⟨sn_isub (dX_isub (by decide +kernel)) (by decide +kernel), ?_⟩
  refine ⟨sn_aload_n (k := 0) (dX_aload_0 (by decide +kernel)) rfl (by decide +kernel), ?_⟩
  refine ⟨sn_getf (C := RX5) (T := TX5) (N := 4) (idx := 16) rfl pin5 (by decide) (by decide) rfl (pmt2 17 rfl (by decide +kernel)) rfl (dX_getfield (by decide +kernel)) (by decide +kernel), ?_⟩
  refine ⟨sn_iload_n (k := 1) (dX_iload_1 (by decide +kernel)) rfl (by decide +kernel), ?_⟩
  refine ⟨sn_iald (dX_iaload (by decide +kernel)) (by decide +kernel), ?_⟩
  refine ⟨sn_iast (dX_iastore (by decide +kernel)) (by decide +kernel), ?_⟩
  refine ⟨sn_iinc (dX_iinc (by decide +kernel)) (by decide) (by decide +kernel), ?_⟩
  refine ⟨sn_goto (off := -51) (dX_goto (by decide +kernel)) (by decide +kernel), ?_⟩
  refine ⟨sn_aload_n (k := 0) (dX_aload_0 (by decide +kernel)) rfl (by decide +kernel), ?_⟩
  refine ⟨sn_bipush (dX_bipush (by decide +kernel)) (by decide +kernel) (by decide +kernel), ?_⟩
  refine ⟨sn_puti (C := RX5) (T := TX5) (N := 4) (idx := 19) rfl pin5 (by decide) (by decide) rfl tyX5 tyX5_ok nmX5 rfl rfl (by decide +kernel) (pmt2 19 rfl (by decide +kernel)) rfl (dX_putfield (by decide +kernel)) (by decide +kernel), ?_⟩
  refine ⟨sn_vret rfl (dX_return (by decide +kernel)), ?_⟩
  trivial
set_option maxRecDepth 100000 in
set_option maxHeartbeats 4000000 in
theorem S_132 : pAll (pSk RX6 cX6_start 2 none PC_132) 0 C_132 := by
  refine ⟨sn_aload_n (k := 0) (dX_aload_0 (by decide +kernel)) rfl (by decide +kernel), ?_⟩
  refine ⟨sn_iconst (dX_iconst_0 (by decide +kernel)) (by decide +kernel), ?_⟩
  refine ⟨sn_puti (C := RX6) (T := TX6) (N := 4) (idx := 19) rfl pin6 (by decide) (by decide) rfl tyX6 tyX6_ok nmX6 rfl rfl (by decide +kernel) (pmt1 59 rfl (by decide +kernel)) rfl (dX_putfield (by decide +kernel)) (by decide +kernel), ?_⟩
  refine ⟨sn_aload_n (k := 0) (dX_aload_0 (by decide +kernel)) rfl (by decide +kernel), ?_⟩
  refine ⟨sn_iconst (dX_iconst_m1 (by decide +kernel)) (by decide +kernel), ?_⟩
  refine ⟨sn_puti (C := RX6) (T := TX6) (N := 4) (idx := 9) rfl pin6 (by decide) (by decide) rfl tyX6 tyX6_ok nmX6 rfl rfl (by decide +kernel) (pmt1 63 rfl (by decide +kernel)) rfl (dX_putfield (by decide +kernel)) (by decide +kernel), ?_⟩
  refine ⟨sn_aload_n (k := 0) (dX_aload_0 (by decide +kernel)) rfl (by decide +kernel), ?_⟩
  refine ⟨sn_aload_n (k := 0) (dX_aload_0 (by decide +kernel)) rfl (by decide +kernel), ?_⟩
  refine ⟨sn_getf (C := RX6) (T := TX6) (N := 4) (idx := 15) rfl pin6 (by decide) (by decide) rfl (pmt1 57 rfl (by decide +kernel)) rfl (dX_getfield (by decide +kernel)) (by decide +kernel), ?_⟩
  refine ⟨sn_getf (C := RX8) (T := TX8) (N := 2) (idx := 22) rfl pin8 (by decide) (by decide) rfl (pmt1 44 rfl (by decide +kernel)) rfl (dX_getfield (by decide +kernel)) (by decide +kernel), ?_⟩
  refine ⟨sn_iload_n (k := 1) (dX_iload_1 (by decide +kernel)) rfl (by decide +kernel), ?_⟩
  refine ⟨sn_mmin (idx := 27) (pmt2 210 rfl (by decide +kernel)) (pmt2 211 rfl (by decide +kernel)) (pmt1 14 rfl (by decide +kernel)) (pmt2 212 rfl (by decide +kernel)) (dX_invokestatic (by decide +kernel)) (by decide +kernel), ?_⟩
  refine ⟨sn_puti (C := RX6) (T := TX6) (N := 4) (idx := 33) rfl pin6 (by decide) (by decide) rfl tyX6 tyX6_ok nmX6 rfl rfl (by decide +kernel) (pmt1 62 rfl (by decide +kernel)) rfl (dX_putfield (by decide +kernel)) (by decide +kernel), ?_⟩
  refine ⟨sn_vret rfl (dX_return (by decide +kernel)), ?_⟩
  trivial
set_option maxRecDepth 100000 in
set_option maxHeartbeats 4000000 in
theorem S_133 : pAll (pSk RX6 cX6_peek 1 (some .int) PC_133) 0 C_133 := by
  refine ⟨sn_aload_n (k := 0) (dX_aload_0 (by decide +kernel)) rfl (by decide +kernel), ?_⟩
  refine ⟨sn_getf (C := RX6) (T := TX6) (N := 4) (idx := 9) rfl pin6 (by decide) (by decide) rfl (pmt1 63 rfl (by decide +kernel)) rfl (dX_getfield (by decide +kernel)) (by decide +kernel), ?_⟩
  refine ⟨sn_iconst (dX_iconst_m1 (by decide +kernel)) (by decide +kernel), ?_⟩
  refine ⟨sn_icmp_ne (off := 51) (dX_if_icmpne (by decide +kernel)) (by decide +kernel) (by decide +kernel), ?_⟩
  refine ⟨sn_aload_n (k := 0) (dX_aload_0 (by decide +kernel)) rfl (by decide +kernel), ?_⟩
  refine ⟨sn_getf (C := RX6) (T := TX6) (N := 4) (idx := 19) rfl pin6 (by decide) (by decide) rfl (pmt1 59 rfl (by decide +kernel)) rfl (dX_getfield (by decide +kernel)) (by decide +kernel), ?_⟩
  refine ⟨sn_if_lt (off := 44) (dX_iflt (by decide +kernel)) (by decide +kernel) (by decide +kernel), ?_⟩
  refine ⟨sn_aload_n (k := 0) (dX_aload_0 (by decide +kernel)) rfl (by decide +kernel), ?_⟩
  refine ⟨sn_getf (C := RX6) (T := TX6) (N := 4) (idx := 19) rfl pin6 (by decide) (by decide) rfl (pmt1 59 rfl (by decide +kernel)) rfl (dX_getfield (by decide +kernel)) (by decide +kernel), ?_⟩
  refine ⟨sn_aload_n (k := 0) (dX_aload_0 (by decide +kernel)) rfl (by decide +kernel), ?_⟩
  refine ⟨sn_getf (C := RX6) (T := TX6) (N := 4) (idx := 33) rfl pin6 (by decide) (by decide) rfl (pmt1 62 rfl (by decide +kernel)) rfl (dX_getfield (by decide +kernel)) (by decide +kernel), ?_⟩
  refine ⟨sn_icmp_ge (off := 33) (dX_if_icmpge (by decide +kernel)) (by decide +kernel) (by decide +kernel), ?_⟩
  refine ⟨sn_aload_n (k := 0) (dX_aload_0 (by decide +kernel)) rfl (by decide +kernel), ?_⟩
  refine ⟨sn_getf (C := RX6) (T := TX6) (N := 4) (idx := 19) rfl pin6 (by decide) (by decide) rfl (pmt1 59 rfl (by decide +kernel)) rfl (dX_getfield (by decide +kernel)) (by decide +kernel), ?_⟩
  refine ⟨sn_aload_n (k := 0) (dX_aload_0 (by decide +kernel)) rfl (by decide +kernel), ?_⟩
  refine ⟨sn_getf (C := RX6) (T := TX6) (N := 4) (idx := 15) rfl pin6 (by decide) (by decide) rfl (pmt1 57 rfl (by decide +kernel)) rfl (dX_getfield (by decide +kernel)) (by decide +kernel), ?_⟩
  refine ⟨sn_getf (C := RX8) (T := TX8) (N := 2) (idx := 36) rfl pin8 (by decide) (by decide) rfl (pmt1 40 rfl (by decide +kernel)) rfl (dX_getfield (by decide +kernel)) (by decide +kernel), ?_⟩
  refine ⟨sn_alen (dX_arraylength (by decide +kernel)) (by decide +kernel), ?_⟩
  refine ⟨sn_icmp_ge (off := 18) (dX_if_icmpge (by decide +kernel)) (by decide +kernel) (by decide +kernel), ?_⟩
  refine ⟨sn_aload_n (k := 0) (dX_aload_0 (by decide +kernel)) rfl (by decide +kernel), ?_⟩
  refine ⟨sn_getf (C := RX6) (T := TX6) (N := 4) (idx := 15) rfl pin6 (by decide) (by decide) rfl (pmt1 57 rfl (by decide +kernel)) rfl (dX_getfield (by decide +kernel)) (by decide +kernel), ?_⟩
  refine ⟨sn_getf (C := RX8) (T := TX8) (N := 2) (idx := 36) rfl pin8 (by decide) (by decide) rfl (pmt1 40 rfl (by decide +kernel)) rfl (dX_getfield (by decide +kernel)) (by decide +kernel), ?_⟩
  refine ⟨sn_aload_n (k := 0) (dX_aload_0 (by decide +kernel)) rfl (by decide +kernel), ?_⟩
  refine ⟨sn_getf (C := RX6) (T := TX6) (N := 4) (idx := 19) rfl pin6 (by decide) (by decide) rfl (pmt1 59 rfl (by decide +kernel)) rfl (dX_getfield (by decide +kernel)) (by decide +kernel), ?_⟩
  refine ⟨sn_iald (dX_iaload (by decide +kernel)) (by decide +kernel), ?_⟩
  refine ⟨sn_goto (off := 4) (dX_goto (by decide +kernel)) (by decide +kernel), ?_⟩
  refine ⟨sn_iconst (dX_iconst_m1 (by decide +kernel)) (by decide +kernel), ?_⟩
  refine ⟨sn_iret rfl (dX_ireturn (by decide +kernel)), ?_⟩
  trivial
set_option maxRecDepth 100000 in
set_option maxHeartbeats 4000000 in
theorem S_134 : pAll (pSk RX6 cX6_goesOn 1 (some .boolean) PC_134) 0 C_134 := by
  refine ⟨sn_aload_n (k := 0) (dX_aload_0 (by decide +kernel)) rfl (by decide +kernel), ?_⟩
  refine ⟨sn_getf (C := RX6) (T := TX6) (N := 4) (idx := 9) rfl pin6 (by decide) (by decide) rfl (pmt1 63 rfl (by decide +kernel)) rfl (dX_getfield (by decide +kernel)) (by decide +kernel), ?_⟩
  refine ⟨sn_iconst (dX_iconst_m1 (by decide +kernel)) (by decide +kernel), ?_⟩
  refine ⟨sn_icmp_ne (off := 18) (dX_if_icmpne (by decide +kernel)) (by decide +kernel) (by decide +kernel), ?_⟩
  refine ⟨sn_aload_n (k := 0) (dX_aload_0 (by decide +kernel)) rfl (by decide +kernel), ?_⟩
  refine ⟨sn_getf (C := RX6) (T := TX6) (N := 4) (idx := 19) rfl pin6 (by decide) (by decide) rfl (pmt1 59 rfl (by decide +kernel)) rfl (dX_getfield (by decide +kernel)) (by decide +kernel), ?_⟩
  refine ⟨sn_aload_n (k := 0) (dX_aload_0 (by decide +kernel)) rfl (by decide +kernel), ?_⟩
  refine ⟨sn_getf (C := RX6) (T := TX6) (N := 4) (idx := 33) rfl pin6 (by decide) (by decide) rfl (pmt1 62 rfl (by decide +kernel)) rfl (dX_getfield (by decide +kernel)) (by decide +kernel), ?_⟩
  refine ⟨sn_icmp_ge (off := 7) (dX_if_icmpge (by decide +kernel)) (by decide +kernel) (by decide +kernel), ?_⟩
  refine ⟨sn_iconst (dX_iconst_1 (by decide +kernel)) (by decide +kernel), ?_⟩
  refine ⟨sn_goto (off := 4) (dX_goto (by decide +kernel)) (by decide +kernel), ?_⟩
  refine ⟨sn_iconst (dX_iconst_0 (by decide +kernel)) (by decide +kernel), ?_⟩
  refine ⟨sn_zret (Or.inl rfl) (dX_ireturn (by decide +kernel)), ?_⟩
  trivial
set_option maxRecDepth 100000 in
set_option maxHeartbeats 4000000 in
theorem S_135 : pAll (pSk RX6 cX6_fail 2 none PC_135) 0 C_135 := by
  refine ⟨sn_aload_n (k := 0) (dX_aload_0 (by decide +kernel)) rfl (by decide +kernel), ?_⟩
  refine ⟨sn_getf (C := RX6) (T := TX6) (N := 4) (idx := 9) rfl pin6 (by decide) (by decide) rfl (pmt1 63 rfl (by decide +kernel)) rfl (dX_getfield (by decide +kernel)) (by decide +kernel), ?_⟩
  refine ⟨sn_iconst (dX_iconst_m1 (by decide +kernel)) (by decide +kernel), ?_⟩
  refine ⟨sn_icmp_ne (off := 8) (dX_if_icmpne (by decide +kernel)) (by decide +kernel) (by decide +kernel), ?_⟩
  refine ⟨sn_aload_n (k := 0) (dX_aload_0 (by decide +kernel)) rfl (by decide +kernel), ?_⟩
  refine ⟨sn_iload_n (k := 1) (dX_iload_1 (by decide +kernel)) rfl (by decide +kernel), ?_⟩
  refine ⟨sn_puti (C := RX6) (T := TX6) (N := 4) (idx := 9) rfl pin6 (by decide) (by decide) rfl tyX6 tyX6_ok nmX6 rfl rfl (by decide +kernel) (pmt1 63 rfl (by decide +kernel)) rfl (dX_putfield (by decide +kernel)) (by decide +kernel), ?_⟩
  refine ⟨sn_vret rfl (dX_return (by decide +kernel)), ?_⟩
  trivial
set_option maxRecDepth 100000 in
set_option maxHeartbeats 4000000 in
theorem S_136 : pAll (pSk RX6 cX6_fault 1 (some .int) PC_136) 0 C_136 := by
  refine ⟨sn_aload_n (k := 0) (dX_aload_0 (by decide +kernel)) rfl (by decide +kernel), ?_⟩
  refine ⟨sn_getf (C := RX6) (T := TX6) (N := 4) (idx := 9) rfl pin6 (by decide) (by decide) rfl (pmt1 63 rfl (by decide +kernel)) rfl (dX_getfield (by decide +kernel)) (by decide +kernel), ?_⟩
  refine ⟨sn_iconst (dX_iconst_m1 (by decide +kernel)) (by decide +kernel), ?_⟩
  refine ⟨sn_icmp_ne (off := 22) (dX_if_icmpne (by decide +kernel)) (by decide +kernel) (by decide +kernel), ?_⟩
  refine ⟨sn_aload_n (k := 0) (dX_aload_0 (by decide +kernel)) rfl (by decide +kernel), ?_⟩
  refine ⟨sn_getf (C := RX6) (T := TX6) (N := 4) (idx := 33) rfl pin6 (by decide) (by decide) rfl (pmt1 62 rfl (by decide +kernel)) rfl (dX_getfield (by decide +kernel)) (by decide +kernel), ?_⟩
  refine ⟨sn_aload_n (k := 0) (dX_aload_0 (by decide +kernel)) rfl (by decide +kernel), ?_⟩
  refine ⟨sn_getf (C := RX6) (T := TX6) (N := 4) (idx := 15) rfl pin6 (by decide) (by decide) rfl (pmt1 57 rfl (by decide +kernel)) rfl (dX_getfield (by decide +kernel)) (by decide +kernel), ?_⟩
  refine ⟨sn_getf (C := RX8) (T := TX8) (N := 2) (idx := 22) rfl pin8 (by decide) (by decide) rfl (pmt1 44 rfl (by decide +kernel)) rfl (dX_getfield (by decide +kernel)) (by decide +kernel), ?_⟩
  refine ⟨sn_icmp_ge (off := 8) (dX_if_icmpge (by decide +kernel)) (by decide +kernel) (by decide +kernel), ?_⟩
  refine ⟨sn_aload_n (k := 0) (dX_aload_0 (by decide +kernel)) rfl (by decide +kernel), ?_⟩
  refine ⟨sn_getf (C := RX6) (T := TX6) (N := 4) (idx := 33) rfl pin6 (by decide) (by decide) rfl (pmt1 62 rfl (by decide +kernel)) rfl (dX_getfield (by decide +kernel)) (by decide +kernel), ?_⟩
  refine ⟨sn_iret rfl (dX_ireturn (by decide +kernel)), ?_⟩
  refine ⟨sn_aload_n (k := 0) (dX_aload_0 (by decide +kernel)) rfl (by decide +kernel), ?_⟩
  refine ⟨sn_getf (C := RX6) (T := TX6) (N := 4) (idx := 9) rfl pin6 (by decide) (by decide) rfl (pmt1 63 rfl (by decide +kernel)) rfl (dX_getfield (by decide +kernel)) (by decide +kernel), ?_⟩
  refine ⟨sn_iret rfl (dX_ireturn (by decide +kernel)), ?_⟩
  trivial
set_option maxRecDepth 100000 in
set_option maxHeartbeats 4000000 in
theorem S_137 : pAll (pSk RX6 cX6_take 2 none PC_137) 0 C_137 := by
  refine ⟨sn_aload_n (k := 0) (dX_aload_0 (by decide +kernel)) rfl (by decide +kernel), ?_⟩
  refine ⟨sn_getf (C := RX6) (T := TX6) (N := 4) (idx := 9) rfl pin6 (by decide) (by decide) rfl (pmt1 63 rfl (by decide +kernel)) rfl (dX_getfield (by decide +kernel)) (by decide +kernel), ?_⟩
  refine ⟨sn_iconst (dX_iconst_m1 (by decide +kernel)) (by decide +kernel), ?_⟩
  refine ⟨sn_icmp_ne (off := 24) (dX_if_icmpne (by decide +kernel)) (by decide +kernel) (by decide +kernel), ?_⟩
  refine ⟨sn_aload_n (k := 0) (dX_aload_0 (by decide +kernel)) rfl (by decide +kernel), ?_⟩
  refine ⟨sn_callV (idx := 40) (C := RX6) (T := TX6) (N := 4) rfl (by decide) cal_133 (pmt2 229 rfl (by decide +kernel)) (pmt2 218 rfl (by decide +kernel)) (pmt2 219 rfl (by decide +kernel)) (dX_invokevirtual (by decide +kernel)) (by decide +kernel), ?_⟩
  refine ⟨sn_iload_n (k := 1) (dX_iload_1 (by decide +kernel)) rfl (by decide +kernel), ?_⟩
  refine ⟨sn_icmp_ne (off := 16) (dX_if_icmpne (by decide +kernel)) (by decide +kernel) (by decide +kernel), ?_⟩
  refine ⟨sn_aload_n (k := 0) (dX_aload_0 (by decide +kernel)) rfl (by decide +kernel), ?_⟩
  refine ⟨sn_dup (dX_dup (by decide +kernel)) (by decide +kernel), ?_⟩
  refine ⟨sn_getf (C := RX6) (T := TX6) (N := 4) (idx := 19) rfl pin6 (by decide) (by decide) rfl (pmt1 59 rfl (by decide +kernel)) rfl (dX_getfield (by decide +kernel)) (by decide +kernel), ?_⟩
  refine ⟨sn_iconst (dX_iconst_1 (by decide +kernel)) (by decide +kernel), ?_⟩
  refine ⟨sn_iadd (dX_iadd (by decide +kernel)) (by decide +kernel), ?_⟩
  refine ⟨sn_puti (C := RX6) (T := TX6) (N := 4) (idx := 19) rfl pin6 (by decide) (by decide) rfl tyX6 tyX6_ok nmX6 rfl rfl (by decide +kernel) (pmt1 59 rfl (by decide +kernel)) rfl (dX_putfield (by decide +kernel)) (by decide +kernel), ?_⟩
  refine ⟨sn_goto (off := 11) (dX_goto (by decide +kernel)) (by decide +kernel), ?_⟩
  refine ⟨sn_aload_n (k := 0) (dX_aload_0 (by decide +kernel)) rfl (by decide +kernel), ?_⟩
  refine ⟨sn_aload_n (k := 0) (dX_aload_0 (by decide +kernel)) rfl (by decide +kernel), ?_⟩
  refine ⟨sn_getf (C := RX6) (T := TX6) (N := 4) (idx := 19) rfl pin6 (by decide) (by decide) rfl (pmt1 59 rfl (by decide +kernel)) rfl (dX_getfield (by decide +kernel)) (by decide +kernel), ?_⟩
  refine ⟨sn_callV (idx := 44) (C := RX6) (T := TX6) (N := 4) rfl (by decide) cal_135 (pmt2 234 rfl (by decide +kernel)) (pmt2 235 rfl (by decide +kernel)) (pmt2 236 rfl (by decide +kernel)) (dX_invokevirtual (by decide +kernel)) (by decide +kernel), ?_⟩
  refine ⟨sn_vret rfl (dX_return (by decide +kernel)), ?_⟩
  trivial
set_option maxRecDepth 100000 in
set_option maxHeartbeats 4000000 in
theorem S_138 : pAll (pSk RX6 cX6_seesDigit 2 (some .boolean) PC_138) 0 C_138 := by
  refine ⟨sn_aload_n (k := 0) (dX_aload_0 (by decide +kernel)) rfl (by decide +kernel), ?_⟩
  refine ⟨sn_callV (idx := 40) (C := RX6) (T := TX6) (N := 4) rfl (by decide) cal_133 (pmt2 229 rfl (by decide +kernel)) (pmt2 218 rfl (by decide +kernel)) (pmt2 219 rfl (by decide +kernel)) (dX_invokevirtual (by decide +kernel)) (by decide +kernel), ?_⟩
  refine ⟨sn_istore_n (k := 1) (dX_istore_1 (by decide +kernel)) rfl (by decide) (by decide +kernel), ?_⟩
  refine ⟨sn_iload_n (k := 1) (dX_iload_1 (by decide +kernel)) rfl (by decide +kernel), ?_⟩
  refine ⟨sn_bipush (dX_bipush (by decide +kernel)) (by decide +kernel) (by decide +kernel), ?_⟩
  refine ⟨sn_icmp_lt (off := 13) (dX_if_icmplt (by decide +kernel)) (by decide +kernel) (by decide +kernel), ?_⟩
  refine ⟨sn_iload_n (k := 1) (dX_iload_1 (by decide +kernel)) rfl (by decide +kernel), ?_⟩
  refine ⟨sn_bipush (dX_bipush (by decide +kernel)) (by decide +kernel) (by decide +kernel), ?_⟩
  refine ⟨sn_icmp_gt (off := 7) (dX_if_icmpgt (by decide +kernel)) (by decide +kernel) (by decide +kernel), ?_⟩
  refine ⟨sn_iconst (dX_iconst_1 (by decide +kernel)) (by decide +kernel), ?_⟩
  refine ⟨sn_goto (off := 4) (dX_goto (by decide +kernel)) (by decide +kernel), ?_⟩
  refine ⟨sn_iconst (dX_iconst_0 (by decide +kernel)) (by decide +kernel), ?_⟩
  refine ⟨sn_zret (Or.inl rfl) (dX_ireturn (by decide +kernel)), ?_⟩
  trivial
set_option maxRecDepth 100000 in
set_option maxHeartbeats 4000000 in
theorem S_139 : pAll (pSk RX6 cX6_digit 3 (some .int) PC_139) 0 C_139 := by
  refine ⟨sn_aload_n (k := 0) (dX_aload_0 (by decide +kernel)) rfl (by decide +kernel), ?_⟩
  refine ⟨sn_aload_n (k := 0) (dX_aload_0 (by decide +kernel)) rfl (by decide +kernel), ?_⟩
  refine ⟨sn_callV (idx := 40) (C := RX6) (T := TX6) (N := 4) rfl (by decide) cal_133 (pmt2 229 rfl (by decide +kernel)) (pmt2 218 rfl (by decide +kernel)) (pmt2 219 rfl (by decide +kernel)) (dX_invokevirtual (by decide +kernel)) (by decide +kernel), ?_⟩
  refine ⟨sn_bipush (dX_bipush (by decide +kernel)) (by decide +kernel) (by decide +kernel), ?_⟩
  refine ⟨sn_isub (dX_isub (by decide +kernel)) (by decide +kernel), ?_⟩
  refine ⟨sn_iload_n (k := 1) (dX_iload_1 (by decide +kernel)) rfl (by decide +kernel), ?_⟩
  refine ⟨sn_iload_n (k := 2) (dX_iload_2 (by decide +kernel)) rfl (by decide +kernel), ?_⟩
  refine ⟨sn_callV (idx := 48) (C := RX6) (T := TX6) (N := 4) rfl (by decide) cal_141 (pmt2 230 rfl (by decide +kernel)) (pmt2 232 rfl (by decide +kernel)) (pms 1 rfl rfl) (dX_invokevirtual (by decide +kernel)) (by decide +kernel), ?_⟩
  refine ⟨sn_iret rfl (dX_ireturn (by decide +kernel)), ?_⟩
  trivial
set_option maxRecDepth 100000 in
set_option maxHeartbeats 4000000 in
theorem S_140 : pAll (pSk RX6 cX6_letter 3 (some .int) PC_140) 0 C_140 := by
  refine ⟨sn_aload_n (k := 0) (dX_aload_0 (by decide +kernel)) rfl (by decide +kernel), ?_⟩
  refine ⟨sn_aload_n (k := 0) (dX_aload_0 (by decide +kernel)) rfl (by decide +kernel), ?_⟩
  refine ⟨sn_callV (idx := 40) (C := RX6) (T := TX6) (N := 4) rfl (by decide) cal_133 (pmt2 229 rfl (by decide +kernel)) (pmt2 218 rfl (by decide +kernel)) (pmt2 219 rfl (by decide +kernel)) (dX_invokevirtual (by decide +kernel)) (by decide +kernel), ?_⟩
  refine ⟨sn_bipush (dX_bipush (by decide +kernel)) (by decide +kernel) (by decide +kernel), ?_⟩
  refine ⟨sn_isub (dX_isub (by decide +kernel)) (by decide +kernel), ?_⟩
  refine ⟨sn_iload_n (k := 1) (dX_iload_1 (by decide +kernel)) rfl (by decide +kernel), ?_⟩
  refine ⟨sn_iload_n (k := 2) (dX_iload_2 (by decide +kernel)) rfl (by decide +kernel), ?_⟩
  refine ⟨sn_callV (idx := 48) (C := RX6) (T := TX6) (N := 4) rfl (by decide) cal_141 (pmt2 230 rfl (by decide +kernel)) (pmt2 232 rfl (by decide +kernel)) (pms 1 rfl rfl) (dX_invokevirtual (by decide +kernel)) (by decide +kernel), ?_⟩
  refine ⟨sn_iret rfl (dX_ireturn (by decide +kernel)), ?_⟩
  trivial
set_option maxRecDepth 100000 in
set_option maxHeartbeats 4000000 in
theorem S_141 : pAll (pSk RX6 cX6_counted 4 (some .int) PC_141) 0 C_141 := by
  refine ⟨sn_iload_n (k := 1) (dX_iload_1 (by decide +kernel)) rfl (by decide +kernel), ?_⟩
  refine ⟨sn_iload_n (k := 2) (dX_iload_2 (by decide +kernel)) rfl (by decide +kernel), ?_⟩
  refine ⟨sn_icmp_lt (off := 8) (dX_if_icmplt (by decide +kernel)) (by decide +kernel) (by decide +kernel), ?_⟩
  refine ⟨sn_iload_n (k := 1) (dX_iload_1 (by decide +kernel)) rfl (by decide +kernel), ?_⟩
  refine ⟨sn_iload_n (k := 3) (dX_iload_3 (by decide +kernel)) rfl (by decide +kernel), ?_⟩
  refine ⟨sn_icmp_lt (off := 13) (dX_if_icmplt (by decide +kernel)) (by decide +kernel) (by decide +kernel), ?_⟩
  refine ⟨sn_aload_n (k := 0) (dX_aload_0 (by decide +kernel)) rfl (by decide +kernel), ?_⟩
  refine ⟨sn_aload_n (k := 0) (dX_aload_0 (by decide +kernel)) rfl (by decide +kernel), ?_⟩
  refine ⟨sn_getf (C := RX6) (T := TX6) (N := 4) (idx := 19) rfl pin6 (by decide) (by decide) rfl (pmt1 59 rfl (by decide +kernel)) rfl (dX_getfield (by decide +kernel)) (by decide +kernel), ?_⟩
  refine ⟨sn_callV (idx := 44) (C := RX6) (T := TX6) (N := 4) rfl (by decide) cal_135 (pmt2 234 rfl (by decide +kernel)) (pmt2 235 rfl (by decide +kernel)) (pmt2 236 rfl (by decide +kernel)) (dX_invokevirtual (by decide +kernel)) (by decide +kernel), ?_⟩
  refine ⟨sn_iconst (dX_iconst_m1 (by decide +kernel)) (by decide +kernel), ?_⟩
  refine ⟨sn_iret rfl (dX_ireturn (by decide +kernel)), ?_⟩
  refine ⟨sn_aload_n (k := 0) (dX_aload_0 (by decide +kernel)) rfl (by decide +kernel), ?_⟩
  refine ⟨sn_dup (dX_dup (by decide +kernel)) (by decide +kernel), ?_⟩
  refine ⟨sn_getf (C := RX6) (T := TX6) (N := 4) (idx := 19) rfl pin6 (by decide) (by decide) rfl (pmt1 59 rfl (by decide +kernel)) rfl (dX_getfield (by decide +kernel)) (by decide +kernel), ?_⟩
  refine ⟨sn_iconst (dX_iconst_1 (by decide +kernel)) (by decide +kernel), ?_⟩
  refine ⟨sn_iadd (dX_iadd (by decide +kernel)) (by decide +kernel), ?_⟩
  refine ⟨sn_puti (C := RX6) (T := TX6) (N := 4) (idx := 19) rfl pin6 (by decide) (by decide) rfl tyX6 tyX6_ok nmX6 rfl rfl (by decide +kernel) (pmt1 59 rfl (by decide +kernel)) rfl (dX_putfield (by decide +kernel)) (by decide +kernel), ?_⟩
  refine ⟨sn_iload_n (k := 1) (dX_iload_1 (by decide +kernel)) rfl (by decide +kernel), ?_⟩
  refine ⟨sn_iret rfl (dX_ireturn (by decide +kernel)), ?_⟩
  trivial
set_option maxRecDepth 100000 in
set_option maxHeartbeats 4000000 in
theorem S_142 : pAll (pSk RX6 cX6_inches 2 (some .int) PC_142) 0 C_142 := by
  refine ⟨sn_aload_n (k := 0) (dX_aload_0 (by decide +kernel)) rfl (by decide +kernel), ?_⟩
  refine ⟨sn_iconst (dX_iconst_0 (by decide +kernel)) (by decide +kernel), ?_⟩
  refine ⟨sn_bipush (dX_bipush (by decide +kernel)) (by decide +kernel) (by decide +kernel), ?_⟩
  refine ⟨sn_callV (idx := 52) (C := RX6) (T := TX6) (N := 4) rfl (by decide) cal_139 (pmt2 225 rfl (by decide +kernel)) (pmt2 226 rfl (by decide +kernel)) (pmt2 227 rfl (by decide +kernel)) (dX_invokevirtual (by decide +kernel)) (by decide +kernel), ?_⟩
  refine ⟨sn_istore_n (k := 1) (dX_istore_1 (by decide +kernel)) rfl (by decide) (by decide +kernel), ?_⟩
  refine ⟨sn_aload_n (k := 0) (dX_aload_0 (by decide +kernel)) rfl (by decide +kernel), ?_⟩
  refine ⟨sn_callV (idx := 55) (C := RX6) (T := TX6) (N := 4) rfl (by decide) cal_138 (pmt2 238 rfl (by decide +kernel)) (pmt2 239 rfl (by decide +kernel)) (pmt3 0 rfl (by decide +kernel)) (dX_invokevirtual (by decide +kernel)) (by decide +kernel), ?_⟩
  refine ⟨sn_if_eq (off := 16) (dX_ifeq (by decide +kernel)) (by decide +kernel) (by decide +kernel), ?_⟩
  refine ⟨sn_iload_n (k := 1) (dX_iload_1 (by decide +kernel)) rfl (by decide +kernel), ?_⟩
  refine ⟨sn_bipush (dX_bipush (by decide +kernel)) (by decide +kernel) (by decide +kernel), ?_⟩
  refine ⟨sn_imul (dX_imul (by decide +kernel)) (by decide +kernel), ?_⟩
  refine ⟨sn_aload_n (k := 0) (dX_aload_0 (by decide +kernel)) rfl (by decide +kernel), ?_⟩
  refine ⟨sn_iconst (dX_iconst_0 (by decide +kernel)) (by decide +kernel), ?_⟩
  refine ⟨sn_bipush (dX_bipush (by decide +kernel)) (by decide +kernel) (by decide +kernel), ?_⟩
  refine ⟨sn_callV (idx := 52) (C := RX6) (T := TX6) (N := 4) rfl (by decide) cal_139 (pmt2 225 rfl (by decide +kernel)) (pmt2 226 rfl (by decide +kernel)) (pmt2 227 rfl (by decide +kernel)) (dX_invokevirtual (by decide +kernel)) (by decide +kernel), ?_⟩
  refine ⟨sn_iadd (dX_iadd (by decide +kernel)) (by decide +kernel), ?_⟩
  refine ⟨sn_istore_n (k := 1) (dX_istore_1 (by decide +kernel)) rfl (by decide) (by decide +kernel), ?_⟩
  refine ⟨sn_iload_n (k := 1) (dX_iload_1 (by decide +kernel)) rfl (by decide +kernel), ?_⟩
  refine ⟨sn_if_ne (off := 13) (dX_ifne (by decide +kernel)) (by decide +kernel) (by decide +kernel), ?_⟩
  refine ⟨sn_aload_n (k := 0) (dX_aload_0 (by decide +kernel)) rfl (by decide +kernel), ?_⟩
  refine ⟨sn_aload_n (k := 0) (dX_aload_0 (by decide +kernel)) rfl (by decide +kernel), ?_⟩
  refine ⟨sn_getf (C := RX6) (T := TX6) (N := 4) (idx := 19) rfl pin6 (by decide) (by decide) rfl (pmt1 59 rfl (by decide +kernel)) rfl (dX_getfield (by decide +kernel)) (by decide +kernel), ?_⟩
  refine ⟨sn_iconst (dX_iconst_1 (by decide +kernel)) (by decide +kernel), ?_⟩
  refine ⟨sn_isub (dX_isub (by decide +kernel)) (by decide +kernel), ?_⟩
  refine ⟨sn_callV (idx := 44) (C := RX6) (T := TX6) (N := 4) rfl (by decide) cal_135 (pmt2 234 rfl (by decide +kernel)) (pmt2 235 rfl (by decide +kernel)) (pmt2 236 rfl (by decide +kernel)) (dX_invokevirtual (by decide +kernel)) (by decide +kernel), ?_⟩
  refine ⟨sn_iload_n (k := 1) (dX_iload_1 (by decide +kernel)) rfl (by decide +kernel), ?_⟩
  refine ⟨sn_iret rfl (dX_ireturn (by decide +kernel)), ?_⟩
  trivial
set_option maxRecDepth 100000 in
set_option maxHeartbeats 4000000 in
theorem S_143 : pAll (pSk RX7 cX7_fault 2 (some .int) PC_143) 0 C_143 := by
  refine ⟨sn_aload_n (k := 1) (dX_aload_1 (by decide +kernel)) rfl (by decide +kernel), ?_⟩
  refine ⟨sn_bipush (dX_bipush (by decide +kernel)) (by decide +kernel) (by decide +kernel), ?_⟩
  refine ⟨sn_callV (idx := 31) (C := RX6) (T := TX6) (N := 4) rfl (by decide) cal_132 (pmt3 92 rfl (by decide +kernel)) (pmt2 207 rfl (by decide +kernel)) (pmt2 208 rfl (by decide +kernel)) (dX_invokevirtual (by decide +kernel)) (by decide +kernel), ?_⟩
  refine ⟨sn_aload_n (k := 1) (dX_aload_1 (by decide +kernel)) rfl (by decide +kernel), ?_⟩
  refine ⟨sn_getf (C := RX6) (T := TX6) (N := 4) (idx := 35) rfl pin6 (by decide) (by decide) rfl (pmt1 58 rfl (by decide +kernel)) rfl (dX_getfield (by decide +kernel)) (by decide +kernel), ?_⟩
  refine ⟨sn_getf (C := RX8) (T := TX8) (N := 2) (idx := 38) rfl pin8 (by decide) (by decide) rfl (pmt1 42 rfl (by decide +kernel)) rfl (dX_getfield (by decide +kernel)) (by decide +kernel), ?_⟩
  refine ⟨sn_if_le (off := 9) (dX_ifle (by decide +kernel)) (by decide +kernel) (by decide +kernel), ?_⟩
  refine ⟨sn_aload_n (k := 0) (dX_aload_0 (by decide +kernel)) rfl (by decide +kernel), ?_⟩
  refine ⟨sn_aload_n (k := 1) (dX_aload_1 (by decide +kernel)) rfl (by decide +kernel), ?_⟩
  refine ⟨sn_callV (idx := 42) (C := RX7) (T := TX7) (N := 3) rfl (by decide) cal_145 (pmt3 93 rfl (by decide +kernel)) (pmt3 95 rfl (by decide +kernel)) (pms 7 rfl rfl) (dX_invokevirtual (by decide +kernel)) (by decide +kernel), ?_⟩
  refine ⟨sn_pop (dX_pop (by decide +kernel)) (by decide +kernel), ?_⟩
  refine ⟨sn_aload_n (k := 1) (dX_aload_1 (by decide +kernel)) rfl (by decide +kernel), ?_⟩
  refine ⟨sn_callV (idx := 46) (C := RX6) (T := TX6) (N := 4) rfl (by decide) cal_136 (pmt3 212 rfl (by decide +kernel)) (pmt3 54 rfl (by decide +kernel)) (pmt3 55 rfl (by decide +kernel)) (dX_invokevirtual (by decide +kernel)) (by decide +kernel), ?_⟩
  refine ⟨sn_iret rfl (dX_ireturn (by decide +kernel)), ?_⟩
  trivial
set_option maxRecDepth 100000 in
set_option maxHeartbeats 4000000 in
theorem S_144 : pAll (pSk RX7 cX7_value 4 (some .int) PC_144) 0 C_144 := by
  refine ⟨sn_aload_n (k := 0) (dX_aload_0 (by decide +kernel)) rfl (by decide +kernel), ?_⟩
  refine ⟨sn_getf (C := RX7) (T := TX7) (N := 3) (idx := 12) rfl pin7 (by decide) (by decide) rfl (pmt1 188 rfl (by decide +kernel)) rfl (dX_getfield (by decide +kernel)) (by decide +kernel), ?_⟩
  refine ⟨sn_getf (C := RX8) (T := TX8) (N := 2) (idx := 38) rfl pin8 (by decide) (by decide) rfl (pmt1 42 rfl (by decide +kernel)) rfl (dX_getfield (by decide +kernel)) (by decide +kernel), ?_⟩
  refine ⟨sn_if_eq (off := 19) (dX_ifeq (by decide +kernel)) (by decide +kernel) (by decide +kernel), ?_⟩
  refine ⟨sn_aload_n (k := 1) (dX_aload_1 (by decide +kernel)) rfl (by decide +kernel), ?_⟩
  refine ⟨sn_iload_n (k := 2) (dX_iload_2 (by decide +kernel)) rfl (by decide +kernel), ?_⟩
  refine ⟨sn_callV (idx := 50) (C := RX0) (T := TX0) (N := 13) rfl (by decide) cal_64 (pmt4 229 rfl (by decide +kernel)) (pmt4 20 rfl (by decide +kernel)) (pmt4 21 rfl (by decide +kernel)) (dX_invokevirtual (by decide +kernel)) (by decide +kernel), ?_⟩
  refine ⟨sn_if_eq (off := 11) (dX_ifeq (by decide +kernel)) (by decide +kernel) (by decide +kernel), ?_⟩
  refine ⟨sn_aload_n (k := 1) (dX_aload_1 (by decide +kernel)) rfl (by decide +kernel), ?_⟩
  refine ⟨sn_iload_n (k := 3) (dX_iload_3 (by decide +kernel)) rfl (by decide +kernel), ?_⟩
  refine ⟨sn_callV (idx := 56) (C := RX0) (T := TX0) (N := 13) rfl (by decide) cal_63 (pmt4 230 rfl (by decide +kernel)) (pmt3 25 rfl (by decide +kernel)) (pmt3 26 rfl (by decide +kernel)) (dX_invokevirtual (by decide +kernel)) (by decide +kernel), ?_⟩
  refine ⟨sn_if_ne (off := 5) (dX_ifne (by decide +kernel)) (by decide +kernel) (by decide +kernel), ?_⟩
  refine ⟨sn_iconst (dX_iconst_0 (by decide +kernel)) (by decide +kernel), ?_⟩
  refine ⟨sn_iret rfl (dX_ireturn (by decide +kernel)), ?_⟩
  refine ⟨sn_aload_n (k := 0) (dX_aload_0 (by decide +kernel)) rfl (by decide +kernel), ?_⟩
  refine ⟨sn_getf (C := RX7) (T := TX7) (N := 3) (idx := 27) rfl pin7 (by decide) (by decide) rfl (pmt1 191 rfl (by decide +kernel)) rfl (dX_getfield (by decide +kernel)) (by decide +kernel), ?_⟩
  refine ⟨sn_iconst (dX_iconst_0 (by decide +kernel)) (by decide +kernel), ?_⟩
  refine ⟨sn_iload_n (k := 2) (dX_iload_2 (by decide +kernel)) rfl (by decide +kernel), ?_⟩
  refine ⟨sn_iast (dX_iastore (by decide +kernel)) (by decide +kernel), ?_⟩
  refine ⟨sn_aload_n (k := 0) (dX_aload_0 (by decide +kernel)) rfl (by decide +kernel), ?_⟩
  refine ⟨sn_getf (C := RX7) (T := TX7) (N := 3) (idx := 27) rfl pin7 (by decide) (by decide) rfl (pmt1 191 rfl (by decide +kernel)) rfl (dX_getfield (by decide +kernel)) (by decide +kernel), ?_⟩
  refine ⟨sn_iconst (dX_iconst_1 (by decide +kernel)) (by decide +kernel), ?_⟩
  refine ⟨sn_aload_n (k := 1) (dX_aload_1 (by decide +kernel)) rfl (by decide +kernel), ?_⟩
  refine ⟨sn_getf (C := RX0) (T := TX0) (N := 13) (idx := 59) rfl pin0 (by decide) (by decide) rfl (pmt1 111 rfl (by decide +kernel)) rfl (dX_getfield (by decide +kernel)) (by decide +kernel), ?_⟩
  refine ⟨sn_iload_n (k := 2) (dX_iload_2 (by decide +kernel)) rfl (by decide +kernel), ?_⟩
  refine ⟨sn_iald (dX_iaload (by decide +kernel)) (by decide +kernel), ?_⟩
  refine ⟨sn_iast (dX_iastore (by decide +kernel)) (by decide +kernel), ?_⟩
  refine ⟨sn_aload_n (k := 0) (dX_aload_0 (by decide +kernel)) rfl (by decide +kernel), ?_⟩
  refine ⟨sn_getf (C := RX7) (T := TX7) (N := 3) (idx := 27) rfl pin7 (by decide) (by decide) rfl (pmt1 191 rfl (by decide +kernel)) rfl (dX_getfield (by decide +kernel)) (by decide +kernel), ?_⟩
  refine ⟨sn_iconst (dX_iconst_2 (by decide +kernel)) (by decide +kernel), ?_⟩
  refine ⟨sn_aload_n (k := 1) (dX_aload_1 (by decide +kernel)) rfl (by decide +kernel), ?_⟩
  refine ⟨sn_getf (C := RX0) (T := TX0) (N := 13) (idx := 62) rfl pin0 (by decide) (by decide) rfl (pmt1 114 rfl (by decide +kernel)) rfl (dX_getfield (by decide +kernel)) (by decide +kernel), ?_⟩
  refine ⟨sn_iload_n (k := 2) (dX_iload_2 (by decide +kernel)) rfl (by decide +kernel), ?_⟩
  refine ⟨sn_iald (dX_iaload (by decide +kernel)) (by decide +kernel), ?_⟩
  refine ⟨sn_iast (dX_iastore (by decide +kernel)) (by decide +kernel), ?_⟩
  refine ⟨sn_aload_n (k := 0) (dX_aload_0 (by decide +kernel)) rfl (by decide +kernel), ?_⟩
  refine ⟨sn_getf (C := RX7) (T := TX7) (N := 3) (idx := 27) rfl pin7 (by decide) (by decide) rfl (pmt1 191 rfl (by decide +kernel)) rfl (dX_getfield (by decide +kernel)) (by decide +kernel), ?_⟩
  refine ⟨sn_iconst (dX_iconst_3 (by decide +kernel)) (by decide +kernel), ?_⟩
  refine ⟨sn_aload_n (k := 1) (dX_aload_1 (by decide +kernel)) rfl (by decide +kernel), ?_⟩
  refine ⟨sn_getf (C := RX0) (T := TX0) (N := 13) (idx := 65) rfl pin0 (by decide) (by decide) rfl (pmt1 117 rfl (by decide +kernel)) rfl (dX_getfield (by decide +kernel)) (by decide +kernel), ?_⟩
  refine ⟨sn_iload_n (k := 2) (dX_iload_2 (by decide +kernel)) rfl (by decide +kernel), ?_⟩
  refine ⟨sn_iald (dX_iaload (by decide +kernel)) (by decide +kernel), ?_⟩
  refine ⟨sn_iast (dX_iastore (by decide +kernel)) (by decide +kernel), ?_⟩
  refine ⟨sn_aload_n (k := 0) (dX_aload_0 (by decide +kernel)) rfl (by decide +kernel), ?_⟩
  refine ⟨sn_getf (C := RX7) (T := TX7) (N := 3) (idx := 27) rfl pin7 (by decide) (by decide) rfl (pmt1 191 rfl (by decide +kernel)) rfl (dX_getfield (by decide +kernel)) (by decide +kernel), ?_⟩
  refine ⟨sn_iconst (dX_iconst_4 (by decide +kernel)) (by decide +kernel), ?_⟩
  refine ⟨sn_aload_n (k := 1) (dX_aload_1 (by decide +kernel)) rfl (by decide +kernel), ?_⟩
  refine ⟨sn_iload_n (k := 2) (dX_iload_2 (by decide +kernel)) rfl (by decide +kernel), ?_⟩
  refine ⟨sn_callV (idx := 68) (C := RX0) (T := TX0) (N := 13) rfl (by decide) cal_93 (pmt4 231 rfl (by decide +kernel)) (pmt4 232 rfl (by decide +kernel)) (pmt4 233 rfl (by decide +kernel)) (dX_invokevirtual (by decide +kernel)) (by decide +kernel), ?_⟩
  refine ⟨sn_callS (idx := 72) cal_270 (pmt4 235 rfl (by decide +kernel)) (pmt4 236 rfl (by decide +kernel)) (dX_invokestatic (by decide +kernel)) (by decide +kernel), ?_⟩
  refine ⟨sn_iast (dX_iastore (by decide +kernel)) (by decide +kernel), ?_⟩
  refine ⟨sn_aload_n (k := 0) (dX_aload_0 (by decide +kernel)) rfl (by decide +kernel), ?_⟩
  refine ⟨sn_getf (C := RX7) (T := TX7) (N := 3) (idx := 27) rfl pin7 (by decide) (by decide) rfl (pmt1 191 rfl (by decide +kernel)) rfl (dX_getfield (by decide +kernel)) (by decide +kernel), ?_⟩
  refine ⟨sn_iconst (dX_iconst_5 (by decide +kernel)) (by decide +kernel), ?_⟩
  refine ⟨sn_iload_n (k := 3) (dX_iload_3 (by decide +kernel)) rfl (by decide +kernel), ?_⟩
  refine ⟨sn_iast (dX_iastore (by decide +kernel)) (by decide +kernel), ?_⟩
  refine ⟨sn_aload_n (k := 0) (dX_aload_0 (by decide +kernel)) rfl (by decide +kernel), ?_⟩
  refine ⟨sn_getf (C := RX7) (T := TX7) (N := 3) (idx := 27) rfl pin7 (by decide) (by decide) rfl (pmt1 191 rfl (by decide +kernel)) rfl (dX_getfield (by decide +kernel)) (by decide +kernel), ?_⟩
  refine ⟨sn_bipush (dX_bipush (by decide +kernel)) (by decide +kernel) (by decide +kernel), ?_⟩
  refine ⟨sn_aload_n (k := 1) (dX_aload_1 (by decide +kernel)) rfl (by decide +kernel), ?_⟩
  refine ⟨sn_getf (C := RX0) (T := TX0) (N := 13) (idx := 77) rfl pin0 (by decide) (by decide) rfl (pmt1 107 rfl (by decide +kernel)) rfl (dX_getfield (by decide +kernel)) (by decide +kernel), ?_⟩
  refine ⟨sn_iload_n (k := 3) (dX_iload_3 (by decide +kernel)) rfl (by decide +kernel), ?_⟩
  refine ⟨sn_iald (dX_iaload (by decide +kernel)) (by decide +kernel), ?_⟩
  refine ⟨sn_iast (dX_iastore (by decide +kernel)) (by decide +kernel), ?_⟩
  refine ⟨sn_aload_n (k := 0) (dX_aload_0 (by decide +kernel)) rfl (by decide +kernel), ?_⟩
  refine ⟨sn_getf (C := RX7) (T := TX7) (N := 3) (idx := 27) rfl pin7 (by decide) (by decide) rfl (pmt1 191 rfl (by decide +kernel)) rfl (dX_getfield (by decide +kernel)) (by decide +kernel), ?_⟩
  refine ⟨sn_bipush (dX_bipush (by decide +kernel)) (by decide +kernel) (by decide +kernel), ?_⟩
  refine ⟨sn_aload_n (k := 1) (dX_aload_1 (by decide +kernel)) rfl (by decide +kernel), ?_⟩
  refine ⟨sn_iload_n (k := 3) (dX_iload_3 (by decide +kernel)) rfl (by decide +kernel), ?_⟩
  refine ⟨sn_iconst (dX_iconst_1 (by decide +kernel)) (by decide +kernel), ?_⟩
  refine ⟨sn_callV (idx := 80) (C := RX0) (T := TX0) (N := 13) rfl (by decide) cal_77 (pmt5 1 rfl (by decide +kernel)) (pmt5 2 rfl (by decide +kernel)) (pmt5 3 rfl (by decide +kernel)) (dX_invokevirtual (by decide +kernel)) (by decide +kernel), ?_⟩
  refine ⟨sn_callS (idx := 72) cal_270 (pmt4 235 rfl (by decide +kernel)) (pmt4 236 rfl (by decide +kernel)) (dX_invokestatic (by decide +kernel)) (by decide +kernel), ?_⟩
  refine ⟨sn_iast (dX_iastore (by decide +kernel)) (by decide +kernel), ?_⟩
  refine ⟨sn_aload_n (k := 0) (dX_aload_0 (by decide +kernel)) rfl (by decide +kernel), ?_⟩
  refine ⟨sn_getf (C := RX7) (T := TX7) (N := 3) (idx := 27) rfl pin7 (by decide) (by decide) rfl (pmt1 191 rfl (by decide +kernel)) rfl (dX_getfield (by decide +kernel)) (by decide +kernel), ?_⟩
  refine ⟨sn_bipush (dX_bipush (by decide +kernel)) (by decide +kernel) (by decide +kernel), ?_⟩
  refine ⟨sn_aload_n (k := 1) (dX_aload_1 (by decide +kernel)) rfl (by decide +kernel), ?_⟩
  refine ⟨sn_getf (C := RX0) (T := TX0) (N := 13) (idx := 84) rfl pin0 (by decide) (by decide) rfl (pmt1 122 rfl (by decide +kernel)) rfl (dX_getfield (by decide +kernel)) (by decide +kernel), ?_⟩
  refine ⟨sn_iload_n (k := 2) (dX_iload_2 (by decide +kernel)) rfl (by decide +kernel), ?_⟩
  refine ⟨sn_iald (dX_iaload (by decide +kernel)) (by decide +kernel), ?_⟩
  refine ⟨sn_iload_n (k := 3) (dX_iload_3 (by decide +kernel)) rfl (by decide +kernel), ?_⟩
  refine ⟨sn_icmp_ne (off := 7) (dX_if_icmpne (by decide +kernel)) (by decide +kernel) (by decide +kernel), ?_⟩
  refine ⟨sn_iconst (dX_iconst_1 (by decide +kernel)) (by decide +kernel), ?_⟩
  refine ⟨sn_goto (off := 4) (dX_goto (by decide +kernel)) (by decide +kernel), ?_⟩
  refine ⟨sn_iconst (dX_iconst_0 (by decide +kernel)) (by decide +kernel), ?_⟩
  refine ⟨sn_iast (dX_iastore (by decide +kernel)) (by decide +kernel), ?_⟩
  refine ⟨sn_aload_n (k := 0) (dX_aload_0 (by decide +kernel)) rfl (by decide +kernel), ?_⟩
  refine ⟨sn_getf (C := RX7) (T := TX7) (N := 3) (idx := 23) rfl pin7 (by decide) (by decide) rfl (pmt1 190 rfl (by decide +kernel)) rfl (dX_getfield (by decide +kernel)) (by decide +kernel), ?_⟩
  refine ⟨sn_bipush (dX_bipush (by decide +kernel)) (by decide +kernel) (by decide +kernel), ?_⟩
  refine ⟨sn_callV (idx := 31) (C := RX6) (T := TX6) (N := 4) rfl (by decide) cal_132 (pmt3 92 rfl (by decide +kernel)) (pmt2 207 rfl (by decide +kernel)) (pmt2 208 rfl (by decide +kernel)) (dX_invokevirtual (by decide +kernel)) (by decide +kernel), ?_⟩
  refine ⟨sn_sipush (dX_sipush (by decide +kernel)) (by decide +kernel) (by decide +kernel), ?_⟩
  refine ⟨sn_sipush (dX_sipush (by decide +kernel)) (by decide +kernel) (by decide +kernel), ?_⟩
  refine ⟨sn_aload_n (k := 0) (dX_aload_0 (by decide +kernel)) rfl (by decide +kernel), ?_⟩
  refine ⟨sn_aload_n (k := 0) (dX_aload_0 (by decide +kernel)) rfl (by decide +kernel), ?_⟩
  refine ⟨sn_getf (C := RX7) (T := TX7) (N := 3) (idx := 23) rfl pin7 (by decide) (by decide) rfl (pmt1 190 rfl (by decide +kernel)) rfl (dX_getfield (by decide +kernel)) (by decide +kernel), ?_⟩
  refine ⟨sn_callV (idx := 42) (C := RX7) (T := TX7) (N := 3) rfl (by decide) cal_145 (pmt3 93 rfl (by decide +kernel)) (pmt3 95 rfl (by decide +kernel)) (pms 7 rfl rfl) (dX_invokevirtual (by decide +kernel)) (by decide +kernel), ?_⟩
  refine ⟨sn_mmin (idx := 87) (pmt5 6 rfl (by decide +kernel)) (pmt2 211 rfl (by decide +kernel)) (pmt1 14 rfl (by decide +kernel)) (pmt2 212 rfl (by decide +kernel)) (dX_invokestatic (by decide +kernel)) (by decide +kernel), ?_⟩
  refine ⟨sn_mmax (idx := 92) (pmt5 7 rfl (by decide +kernel)) (pmt3 154 rfl (by decide +kernel)) (pmt1 14 rfl (by decide +kernel)) (pmt3 155 rfl (by decide +kernel)) (dX_invokestatic (by decide +kernel)) (by decide +kernel), ?_⟩
  refine ⟨sn_iret rfl (dX_ireturn (by decide +kernel)), ?_⟩
  trivial
set_option maxRecDepth 100000 in
set_option maxHeartbeats 4000000 in
theorem S_145 : pAll (pSk RX7 cX7_whole 3 (some .int) PC_145) 0 C_145 := by
  refine ⟨sn_aload_n (k := 0) (dX_aload_0 (by decide +kernel)) rfl (by decide +kernel), ?_⟩
  refine ⟨sn_aload_n (k := 1) (dX_aload_1 (by decide +kernel)) rfl (by decide +kernel), ?_⟩
  refine ⟨sn_iconst (dX_iconst_0 (by decide +kernel)) (by decide +kernel), ?_⟩
  refine ⟨sn_callV (idx := 95) (C := RX7) (T := TX7) (N := 3) rfl (by decide) cal_146 (pmt3 97 rfl (by decide +kernel)) (pmt3 99 rfl (by decide +kernel)) (pms 8 rfl rfl) (dX_invokevirtual (by decide +kernel)) (by decide +kernel), ?_⟩
  refine ⟨sn_istore_n (k := 2) (dX_istore_2 (by decide +kernel)) rfl (by decide) (by decide +kernel), ?_⟩
  refine ⟨sn_aload_n (k := 1) (dX_aload_1 (by decide +kernel)) rfl (by decide +kernel), ?_⟩
  refine ⟨sn_callV (idx := 99) (C := RX6) (T := TX6) (N := 4) rfl (by decide) cal_134 (pmt3 211 rfl (by decide +kernel)) (pmt3 37 rfl (by decide +kernel)) (pmt3 38 rfl (by decide +kernel)) (dX_invokevirtual (by decide +kernel)) (by decide +kernel), ?_⟩
  refine ⟨sn_if_eq (off := 11) (dX_ifeq (by decide +kernel)) (by decide +kernel) (by decide +kernel), ?_⟩
  refine ⟨sn_aload_n (k := 1) (dX_aload_1 (by decide +kernel)) rfl (by decide +kernel), ?_⟩
  refine ⟨sn_aload_n (k := 1) (dX_aload_1 (by decide +kernel)) rfl (by decide +kernel), ?_⟩
  refine ⟨sn_getf (C := RX6) (T := TX6) (N := 4) (idx := 103) rfl pin6 (by decide) (by decide) rfl (pmt1 61 rfl (by decide +kernel)) rfl (dX_getfield (by decide +kernel)) (by decide +kernel), ?_⟩
  refine ⟨sn_callV (idx := 106) (C := RX6) (T := TX6) (N := 4) rfl (by decide) cal_135 (pmt3 209 rfl (by decide +kernel)) (pmt2 235 rfl (by decide +kernel)) (pmt2 236 rfl (by decide +kernel)) (dX_invokevirtual (by decide +kernel)) (by decide +kernel), ?_⟩
  refine ⟨sn_iload_n (k := 2) (dX_iload_2 (by decide +kernel)) rfl (by decide +kernel), ?_⟩
  refine ⟨sn_iret rfl (dX_ireturn (by decide +kernel)), ?_⟩
  trivial
set_option maxRecDepth 100000 in
set_option maxHeartbeats 4000000 in
theorem S_146 : pAll (pSk RX7 cX7_compared 7 (some .int) PC_146) 0 C_146 := by
  refine ⟨sn_aload_n (k := 0) (dX_aload_0 (by decide +kernel)) rfl (by decide +kernel), ?_⟩
  refine ⟨sn_aload_n (k := 1) (dX_aload_1 (by decide +kernel)) rfl (by decide +kernel), ?_⟩
  refine ⟨sn_iload_n (k := 2) (dX_iload_2 (by decide +kernel)) rfl (by decide +kernel), ?_⟩
  refine ⟨sn_callV (idx := 109) (C := RX7) (T := TX7) (N := 3) rfl (by decide) cal_147 (pmt3 101 rfl (by decide +kernel)) (pmt3 103 rfl (by decide +kernel)) (pms 9 rfl rfl) (dX_invokevirtual (by decide +kernel)) (by decide +kernel), ?_⟩
  refine ⟨sn_istore_n (k := 3) (dX_istore_3 (by decide +kernel)) rfl (by decide) (by decide +kernel), ?_⟩
  refine ⟨sn_aload_n (k := 1) (dX_aload_1 (by decide +kernel)) rfl (by decide +kernel), ?_⟩
  refine ⟨sn_callV (idx := 112) (C := RX6) (T := TX6) (N := 4) rfl (by decide) cal_133 (pmt3 113 rfl (by decide +kernel)) (pmt2 218 rfl (by decide +kernel)) (pmt2 219 rfl (by decide +kernel)) (dX_invokevirtual (by decide +kernel)) (by decide +kernel), ?_⟩
  refine ⟨sn_istore (dX_istore (by decide +kernel)) (by decide) (by decide +kernel), ?_⟩
  refine ⟨sn_iload (dX_iload (by decide +kernel)) (by decide +kernel), ?_⟩
  refine ⟨sn_bipush (dX_bipush (by decide +kernel)) (by decide +kernel) (by decide +kernel), ?_⟩
  refine ⟨sn_icmp_eq (off := 19) (dX_if_icmpeq (by decide +kernel)) (by decide +kernel) (by decide +kernel), ?_⟩
  refine ⟨sn_iload (dX_iload (by decide +kernel)) (by decide +kernel), ?_⟩
  refine ⟨sn_bipush (dX_bipush (by decide +kernel)) (by decide +kernel) (by decide +kernel), ?_⟩
  refine ⟨sn_icmp_eq (off := 12) (dX_if_icmpeq (by decide +kernel)) (by decide +kernel) (by decide +kernel), ?_⟩
  refine ⟨sn_iload (dX_iload (by decide +kernel)) (by decide +kernel), ?_⟩
  refine ⟨sn_bipush (dX_bipush (by decide +kernel)) (by decide +kernel) (by decide +kernel), ?_⟩
  refine ⟨sn_icmp_eq (off := 5) (dX_if_icmpeq (by decide +kernel)) (by decide +kernel) (by decide +kernel), ?_⟩
  refine ⟨sn_iload_n (k := 3) (dX_iload_3 (by decide +kernel)) rfl (by decide +kernel), ?_⟩
  refine ⟨sn_iret rfl (dX_ireturn (by decide +kernel)), ?_⟩
  refine ⟨sn_aload_n (k := 1) (dX_aload_1 (by decide +kernel)) rfl (by decide +kernel), ?_⟩
  refine ⟨sn_dup (dX_dup (by decide +kernel)) (by decide +kernel), ?_⟩
  refine ⟨sn_getf (C := RX6) (T := TX6) (N := 4) (idx := 103) rfl pin6 (by decide) (by decide) rfl (pmt1 61 rfl (by decide +kernel)) rfl (dX_getfield (by decide +kernel)) (by decide +kernel), ?_⟩
  refine ⟨sn_iconst (dX_iconst_1 (by decide +kernel)) (by decide +kernel), ?_⟩
  refine ⟨sn_iadd (dX_iadd (by decide +kernel)) (by decide +kernel), ?_⟩
  refine ⟨sn_puti (C := RX6) (T := TX6) (N := 4) (idx := 103) rfl pin6 (by decide) (by decide) rfl tyX6 tyX6_ok nmX6 rfl rfl (by decide +kernel) (pmt1 61 rfl (by decide +kernel)) rfl (dX_putfield (by decide +kernel)) (by decide +kernel), ?_⟩
  refine ⟨sn_aload_n (k := 0) (dX_aload_0 (by decide +kernel)) rfl (by decide +kernel), ?_⟩
  refine ⟨sn_aload_n (k := 1) (dX_aload_1 (by decide +kernel)) rfl (by decide +kernel), ?_⟩
  refine ⟨sn_iload_n (k := 2) (dX_iload_2 (by decide +kernel)) rfl (by decide +kernel), ?_⟩
  refine ⟨sn_callV (idx := 109) (C := RX7) (T := TX7) (N := 3) rfl (by decide) cal_147 (pmt3 101 rfl (by decide +kernel)) (pmt3 103 rfl (by decide +kernel)) (pms 9 rfl rfl) (dX_invokevirtual (by decide +kernel)) (by decide +kernel), ?_⟩
  refine ⟨sn_istore (dX_istore (by decide +kernel)) (by decide) (by decide +kernel), ?_⟩
  refine ⟨sn_iload (dX_iload (by decide +kernel)) (by decide +kernel), ?_⟩
  refine ⟨sn_bipush (dX_bipush (by decide +kernel)) (by decide +kernel) (by decide +kernel), ?_⟩
  refine ⟨sn_icmp_ne (off := 17) (dX_if_icmpne (by decide +kernel)) (by decide +kernel) (by decide +kernel), ?_⟩
  refine ⟨sn_iload_n (k := 3) (dX_iload_3 (by decide +kernel)) rfl (by decide +kernel), ?_⟩
  refine ⟨sn_iload (dX_iload (by decide +kernel)) (by decide +kernel), ?_⟩
  refine ⟨sn_icmp_ge (off := 7) (dX_if_icmpge (by decide +kernel)) (by decide +kernel) (by decide +kernel), ?_⟩
  refine ⟨sn_iconst (dX_iconst_1 (by decide +kernel)) (by decide +kernel), ?_⟩
  refine ⟨sn_goto (off := 39) (dX_goto (by decide +kernel)) (by decide +kernel), ?_⟩
  refine ⟨sn_iconst (dX_iconst_0 (by decide +kernel)) (by decide +kernel), ?_⟩
  refine ⟨sn_goto (off := 35) (dX_goto (by decide +kernel)) (by decide +kernel), ?_⟩
  refine ⟨sn_iload (dX_iload (by decide +kernel)) (by decide +kernel), ?_⟩
  refine ⟨sn_bipush (dX_bipush (by decide +kernel)) (by decide +kernel) (by decide +kernel), ?_⟩
  refine ⟨sn_icmp_ne (off := 17) (dX_if_icmpne (by decide +kernel)) (by decide +kernel) (by decide +kernel), ?_⟩
  refine ⟨sn_iload_n (k := 3) (dX_iload_3 (by decide +kernel)) rfl (by decide +kernel), ?_⟩
  refine ⟨sn_iload (dX_iload (by decide +kernel)) (by decide +kernel), ?_⟩
  refine ⟨sn_icmp_le (off := 7) (dX_if_icmple (by decide +kernel)) (by decide +kernel) (by decide +kernel), ?_⟩
  refine ⟨sn_iconst (dX_iconst_1 (by decide +kernel)) (by decide +kernel), ?_⟩
  refine ⟨sn_goto (off := 18) (dX_goto (by decide +kernel)) (by decide +kernel), ?_⟩
  refine ⟨sn_iconst (dX_iconst_0 (by decide +kernel)) (by decide +kernel), ?_⟩
  refine ⟨sn_goto (off := 14) (dX_goto (by decide +kernel)) (by decide +kernel), ?_⟩
  refine ⟨sn_iload_n (k := 3) (dX_iload_3 (by decide +kernel)) rfl (by decide +kernel), ?_⟩
  refine ⟨sn_iload (dX_iload (by decide +kernel)) (by decide +kernel), ?_⟩
  refine ⟨sn_icmp_ne (off := 7) (dX_if_icmpne (by decide +kernel)) (by decide +kernel) (by decide +kernel), ?_⟩
  refine ⟨sn_iconst (dX_iconst_1 (by decide +kernel)) (by decide +kernel), ?_⟩
  refine ⟨sn_goto (off := 4) (dX_goto (by decide +kernel)) (by decide +kernel), ?_⟩
  refine ⟨sn_iconst (dX_iconst_0 (by decide +kernel)) (by decide +kernel), ?_⟩
  refine ⟨sn_istore (dX_istore (by decide +kernel)) (by decide) (by decide +kernel), ?_⟩
  refine ⟨sn_iload (dX_iload (by decide +kernel)) (by decide +kernel), ?_⟩
  refine ⟨sn_if_eq (off := 7) (dX_ifeq (by decide +kernel)) (by decide +kernel) (by decide +kernel), ?_⟩
  refine ⟨sn_iconst (dX_iconst_1 (by decide +kernel)) (by decide +kernel), ?_⟩
  refine ⟨sn_goto (off := 4) (dX_goto (by decide +kernel)) (by decide +kernel), ?_⟩
  refine ⟨sn_iconst (dX_iconst_0 (by decide +kernel)) (by decide +kernel), ?_⟩
  refine ⟨sn_iret rfl (dX_ireturn (by decide +kernel)), ?_⟩
  trivial
set_option maxRecDepth 100000 in
set_option maxHeartbeats 4000000 in
theorem S_147 : pAll (pSk RX7 cX7_summed 7 (some .int) PC_147) 0 C_147 := by
  refine ⟨sn_aload_n (k := 0) (dX_aload_0 (by decide +kernel)) rfl (by decide +kernel), ?_⟩
  refine ⟨sn_aload_n (k := 1) (dX_aload_1 (by decide +kernel)) rfl (by decide +kernel), ?_⟩
  refine ⟨sn_iload_n (k := 2) (dX_iload_2 (by decide +kernel)) rfl (by decide +kernel), ?_⟩
  refine ⟨sn_callV (idx := 115) (C := RX7) (T := TX7) (N := 3) rfl (by decide) cal_148 (pmt3 105 rfl (by decide +kernel)) (pmt3 107 rfl (by decide +kernel)) (pms 10 rfl rfl) (dX_invokevirtual (by decide +kernel)) (by decide +kernel), ?_⟩
  refine ⟨sn_istore_n (k := 3) (dX_istore_3 (by decide +kernel)) rfl (by decide) (by decide +kernel), ?_⟩
  refine ⟨sn_iconst (dX_iconst_0 (by decide +kernel)) (by decide +kernel), ?_⟩
  refine ⟨sn_istore (dX_istore (by decide +kernel)) (by decide) (by decide +kernel), ?_⟩
  refine ⟨sn_iload (dX_iload (by decide +kernel)) (by decide +kernel), ?_⟩
  refine ⟨sn_bipush (dX_bipush (by decide +kernel)) (by decide +kernel) (by decide +kernel), ?_⟩
  refine ⟨sn_icmp_ge (off := 69) (dX_if_icmpge (by decide +kernel)) (by decide +kernel) (by decide +kernel), ?_⟩
  refine ⟨sn_aload_n (k := 1) (dX_aload_1 (by decide +kernel)) rfl (by decide +kernel), ?_⟩
  refine ⟨sn_callV (idx := 112) (C := RX6) (T := TX6) (N := 4) rfl (by decide) cal_133 (pmt3 113 rfl (by decide +kernel)) (pmt2 218 rfl (by decide +kernel)) (pmt2 219 rfl (by decide +kernel)) (dX_invokevirtual (by decide +kernel)) (by decide +kernel), ?_⟩
  refine ⟨sn_istore (dX_istore (by decide +kernel)) (by decide) (by decide +kernel), ?_⟩
  refine ⟨sn_iload (dX_iload (by decide +kernel)) (by decide +kernel), ?_⟩
  refine ⟨sn_bipush (dX_bipush (by decide +kernel)) (by decide +kernel) (by decide +kernel), ?_⟩
  refine ⟨sn_icmp_eq (off := 13) (dX_if_icmpeq (by decide +kernel)) (by decide +kernel) (by decide +kernel), ?_⟩
  refine ⟨sn_iload (dX_iload (by decide +kernel)) (by decide +kernel), ?_⟩
  refine ⟨sn_bipush (dX_bipush (by decide +kernel)) (by decide +kernel) (by decide +kernel), ?_⟩
  refine ⟨sn_icmp_eq (off := 6) (dX_if_icmpeq (by decide +kernel)) (by decide +kernel) (by decide +kernel), ?_⟩
  refine ⟨sn_goto (off := 46) (dX_goto (by decide +kernel)) (by decide +kernel), ?_⟩
  refine ⟨sn_aload_n (k := 1) (dX_aload_1 (by decide +kernel)) rfl (by decide +kernel), ?_⟩
  refine ⟨sn_dup (dX_dup (by decide +kernel)) (by decide +kernel), ?_⟩
  refine ⟨sn_getf (C := RX6) (T := TX6) (N := 4) (idx := 103) rfl pin6 (by decide) (by decide) rfl (pmt1 61 rfl (by decide +kernel)) rfl (dX_getfield (by decide +kernel)) (by decide +kernel), ?_⟩
  refine ⟨sn_iconst (dX_iconst_1 (by decide +kernel)) (by decide +kernel), ?_⟩
  refine ⟨sn_iadd (dX_iadd (by decide +kernel)) (by decide +kernel), ?_⟩
  refine ⟨sn_puti (C := RX6) (T := TX6) (N := 4) (idx := 103) rfl pin6 (by decide) (by decide) rfl tyX6 tyX6_ok nmX6 rfl rfl (by decide +kernel) (pmt1 61 rfl (by decide +kernel)) rfl (dX_putfield (by decide +kernel)) (by decide +kernel), ?_⟩
  refine ⟨sn_aload_n (k := 0) (dX_aload_0 (by decide +kernel)) rfl (by decide +kernel), ?_⟩
  refine ⟨sn_aload_n (k := 1) (dX_aload_1 (by decide +kernel)) rfl (by decide +kernel), ?_⟩
  refine ⟨sn_iload_n (k := 2) (dX_iload_2 (by decide +kernel)) rfl (by decide +kernel), ?_⟩
  refine ⟨sn_callV (idx := 115) (C := RX7) (T := TX7) (N := 3) rfl (by decide) cal_148 (pmt3 105 rfl (by decide +kernel)) (pmt3 107 rfl (by decide +kernel)) (pms 10 rfl rfl) (dX_invokevirtual (by decide +kernel)) (by decide +kernel), ?_⟩
  refine ⟨sn_istore (dX_istore (by decide +kernel)) (by decide) (by decide +kernel), ?_⟩
  refine ⟨sn_iload (dX_iload (by decide +kernel)) (by decide +kernel), ?_⟩
  refine ⟨sn_bipush (dX_bipush (by decide +kernel)) (by decide +kernel) (by decide +kernel), ?_⟩
  refine ⟨sn_icmp_ne (off := 10) (dX_if_icmpne (by decide +kernel)) (by decide +kernel) (by decide +kernel), ?_⟩
  refine ⟨sn_iload_n (k := 3) (dX_iload_3 (by decide +kernel)) rfl (by decide +kernel), ?_⟩
  refine ⟨sn_iload (dX_iload (by decide +kernel)) (by decide +kernel), ?_⟩
  refine ⟨sn_iadd (dX_iadd (by decide +kernel)) (by decide +kernel), ?_⟩
  refine ⟨sn_goto (off := 7) (dX_goto (by decide +kernel)) (by decide +kernel), ?_⟩
  refine ⟨sn_iload_n (k := 3) (dX_iload_3 (by decide +kernel)) rfl (by decide +kernel), ?_⟩
  refine ⟨sn_iload (dX_iload (by decide +kernel)) (by decide +kernel), ?_⟩
  refine ⟨sn_isub (dX_isub (by decide +kernel)) (by decide +kernel), ?_⟩
  refine ⟨sn_istore_n (k := 3) (dX_istore_3 (by decide +kernel)) rfl (by decide) (by decide +kernel), ?_⟩
  refine ⟨sn_iinc (dX_iinc (by decide +kernel)) (by decide) (by decide +kernel), ?_⟩
  refine ⟨sn_goto (off := -70) (dX_goto (by decide +kernel)) (by decide +kernel), ?_⟩
  refine ⟨sn_iload_n (k := 3) (dX_iload_3 (by decide +kernel)) rfl (by decide +kernel), ?_⟩
  refine ⟨sn_iret rfl (dX_ireturn (by decide +kernel)), ?_⟩
  trivial
set_option maxRecDepth 100000 in
set_option maxHeartbeats 4000000 in
theorem S_148 : pAll (pSk RX7 cX7_multiplied 7 (some .int) PC_148) 0 C_148 := by
  refine ⟨sn_aload_n (k := 0) (dX_aload_0 (by decide +kernel)) rfl (by decide +kernel), ?_⟩
  refine ⟨sn_aload_n (k := 1) (dX_aload_1 (by decide +kernel)) rfl (by decide +kernel), ?_⟩
  refine ⟨sn_iload_n (k := 2) (dX_iload_2 (by decide +kernel)) rfl (by decide +kernel), ?_⟩
  refine ⟨sn_callV (idx := 118) (C := RX7) (T := TX7) (N := 3) rfl (by decide) cal_149 (pmt3 109 rfl (by decide +kernel)) (pmt3 111 rfl (by decide +kernel)) (pms 11 rfl rfl) (dX_invokevirtual (by decide +kernel)) (by decide +kernel), ?_⟩
  refine ⟨sn_istore_n (k := 3) (dX_istore_3 (by decide +kernel)) rfl (by decide) (by decide +kernel), ?_⟩
  refine ⟨sn_iconst (dX_iconst_0 (by decide +kernel)) (by decide +kernel), ?_⟩
  refine ⟨sn_istore (dX_istore (by decide +kernel)) (by decide) (by decide +kernel), ?_⟩
  refine ⟨sn_iload (dX_iload (by decide +kernel)) (by decide +kernel), ?_⟩
  refine ⟨sn_bipush (dX_bipush (by decide +kernel)) (by decide +kernel) (by decide +kernel), ?_⟩
  refine ⟨sn_icmp_ge (off := 78) (dX_if_icmpge (by decide +kernel)) (by decide +kernel) (by decide +kernel), ?_⟩
  refine ⟨sn_aload_n (k := 1) (dX_aload_1 (by decide +kernel)) rfl (by decide +kernel), ?_⟩
  refine ⟨sn_callV (idx := 112) (C := RX6) (T := TX6) (N := 4) rfl (by decide) cal_133 (pmt3 113 rfl (by decide +kernel)) (pmt2 218 rfl (by decide +kernel)) (pmt2 219 rfl (by decide +kernel)) (dX_invokevirtual (by decide +kernel)) (by decide +kernel), ?_⟩
  refine ⟨sn_istore (dX_istore (by decide +kernel)) (by decide) (by decide +kernel), ?_⟩
  refine ⟨sn_iload (dX_iload (by decide +kernel)) (by decide +kernel), ?_⟩
  refine ⟨sn_bipush (dX_bipush (by decide +kernel)) (by decide +kernel) (by decide +kernel), ?_⟩
  refine ⟨sn_icmp_eq (off := 13) (dX_if_icmpeq (by decide +kernel)) (by decide +kernel) (by decide +kernel), ?_⟩
  refine ⟨sn_iload (dX_iload (by decide +kernel)) (by decide +kernel), ?_⟩
  refine ⟨sn_bipush (dX_bipush (by decide +kernel)) (by decide +kernel) (by decide +kernel), ?_⟩
  refine ⟨sn_icmp_eq (off := 6) (dX_if_icmpeq (by decide +kernel)) (by decide +kernel) (by decide +kernel), ?_⟩
  refine ⟨sn_goto (off := 55) (dX_goto (by decide +kernel)) (by decide +kernel), ?_⟩
  refine ⟨sn_aload_n (k := 1) (dX_aload_1 (by decide +kernel)) rfl (by decide +kernel), ?_⟩
  refine ⟨sn_dup (dX_dup (by decide +kernel)) (by decide +kernel), ?_⟩
  refine ⟨sn_getf (C := RX6) (T := TX6) (N := 4) (idx := 103) rfl pin6 (by decide) (by decide) rfl (pmt1 61 rfl (by decide +kernel)) rfl (dX_getfield (by decide +kernel)) (by decide +kernel), ?_⟩
  refine ⟨sn_iconst (dX_iconst_1 (by decide +kernel)) (by decide +kernel), ?_⟩
  refine ⟨sn_iadd (dX_iadd (by decide +kernel)) (by decide +kernel), ?_⟩
  refine ⟨sn_puti (C := RX6) (T := TX6) (N := 4) (idx := 103) rfl pin6 (by decide) (by decide) rfl tyX6 tyX6_ok nmX6 rfl rfl (by decide +kernel) (pmt1 61 rfl (by decide +kernel)) rfl (dX_putfield (by decide +kernel)) (by decide +kernel), ?_⟩
  refine ⟨sn_aload_n (k := 0) (dX_aload_0 (by decide +kernel)) rfl (by decide +kernel), ?_⟩
  refine ⟨sn_aload_n (k := 1) (dX_aload_1 (by decide +kernel)) rfl (by decide +kernel), ?_⟩
  refine ⟨sn_iload_n (k := 2) (dX_iload_2 (by decide +kernel)) rfl (by decide +kernel), ?_⟩
  refine ⟨sn_callV (idx := 118) (C := RX7) (T := TX7) (N := 3) rfl (by decide) cal_149 (pmt3 109 rfl (by decide +kernel)) (pmt3 111 rfl (by decide +kernel)) (pms 11 rfl rfl) (dX_invokevirtual (by decide +kernel)) (by decide +kernel), ?_⟩
  refine ⟨sn_istore (dX_istore (by decide +kernel)) (by decide) (by decide +kernel), ?_⟩
  refine ⟨sn_iload (dX_iload (by decide +kernel)) (by decide +kernel), ?_⟩
  refine ⟨sn_bipush (dX_bipush (by decide +kernel)) (by decide +kernel) (by decide +kernel), ?_⟩
  refine ⟨sn_icmp_ne (off := 10) (dX_if_icmpne (by decide +kernel)) (by decide +kernel) (by decide +kernel), ?_⟩
  refine ⟨sn_iload_n (k := 3) (dX_iload_3 (by decide +kernel)) rfl (by decide +kernel), ?_⟩
  refine ⟨sn_iload (dX_iload (by decide +kernel)) (by decide +kernel), ?_⟩
  refine ⟨sn_imul (dX_imul (by decide +kernel)) (by decide +kernel), ?_⟩
  refine ⟨sn_goto (off := 16) (dX_goto (by decide +kernel)) (by decide +kernel), ?_⟩
  refine ⟨sn_iload (dX_iload (by decide +kernel)) (by decide +kernel), ?_⟩
  refine ⟨sn_if_ne (off := 7) (dX_ifne (by decide +kernel)) (by decide +kernel) (by decide +kernel), ?_⟩
  refine ⟨sn_iconst (dX_iconst_0 (by decide +kernel)) (by decide +kernel), ?_⟩
  refine ⟨sn_goto (off := 7) (dX_goto (by decide +kernel)) (by decide +kernel), ?_⟩
  refine ⟨sn_iload_n (k := 3) (dX_iload_3 (by decide +kernel)) rfl (by decide +kernel), ?_⟩
  refine ⟨sn_iload (dX_iload (by decide +kernel)) (by decide +kernel), ?_⟩
  refine ⟨sn_idiv (dX_idiv (by decide +kernel)) (by decide +kernel), ?_⟩
  refine ⟨sn_istore_n (k := 3) (dX_istore_3 (by decide +kernel)) rfl (by decide) (by decide +kernel), ?_⟩
  refine ⟨sn_iinc (dX_iinc (by decide +kernel)) (by decide) (by decide +kernel), ?_⟩
  refine ⟨sn_goto (off := -79) (dX_goto (by decide +kernel)) (by decide +kernel), ?_⟩
  refine ⟨sn_iload_n (k := 3) (dX_iload_3 (by decide +kernel)) rfl (by decide +kernel), ?_⟩
  refine ⟨sn_iret rfl (dX_ireturn (by decide +kernel)), ?_⟩
  trivial
set_option maxRecDepth 100000 in
set_option maxHeartbeats 4000000 in
theorem S_149 : pAll (pSk RX7 cX7_negated 5 (some .int) PC_149) 0 C_149 := by
  refine ⟨sn_iconst (dX_iconst_0 (by decide +kernel)) (by decide +kernel), ?_⟩
  refine ⟨sn_istore_n (k := 3) (dX_istore_3 (by decide +kernel)) rfl (by decide) (by decide +kernel), ?_⟩
  refine ⟨sn_iconst (dX_iconst_0 (by decide +kernel)) (by decide +kernel), ?_⟩
  refine ⟨sn_istore (dX_istore (by decide +kernel)) (by decide) (by decide +kernel), ?_⟩
  refine ⟨sn_iload (dX_iload (by decide +kernel)) (by decide +kernel), ?_⟩
  refine ⟨sn_bipush (dX_bipush (by decide +kernel)) (by decide +kernel) (by decide +kernel), ?_⟩
  refine ⟨sn_icmp_ge (off := 38) (dX_if_icmpge (by decide +kernel)) (by decide +kernel) (by decide +kernel), ?_⟩
  refine ⟨sn_aload_n (k := 1) (dX_aload_1 (by decide +kernel)) rfl (by decide +kernel), ?_⟩
  refine ⟨sn_callV (idx := 112) (C := RX6) (T := TX6) (N := 4) rfl (by decide) cal_133 (pmt3 113 rfl (by decide +kernel)) (pmt2 218 rfl (by decide +kernel)) (pmt2 219 rfl (by decide +kernel)) (dX_invokevirtual (by decide +kernel)) (by decide +kernel), ?_⟩
  refine ⟨sn_bipush (dX_bipush (by decide +kernel)) (by decide +kernel) (by decide +kernel), ?_⟩
  refine ⟨sn_icmp_ne (off := 29) (dX_if_icmpne (by decide +kernel)) (by decide +kernel) (by decide +kernel), ?_⟩
  refine ⟨sn_aload_n (k := 1) (dX_aload_1 (by decide +kernel)) rfl (by decide +kernel), ?_⟩
  refine ⟨sn_dup (dX_dup (by decide +kernel)) (by decide +kernel), ?_⟩
  refine ⟨sn_getf (C := RX6) (T := TX6) (N := 4) (idx := 103) rfl pin6 (by decide) (by decide) rfl (pmt1 61 rfl (by decide +kernel)) rfl (dX_getfield (by decide +kernel)) (by decide +kernel), ?_⟩
  refine ⟨sn_iconst (dX_iconst_1 (by decide +kernel)) (by decide +kernel), ?_⟩
  refine ⟨sn_iadd (dX_iadd (by decide +kernel)) (by decide +kernel), ?_⟩
  refine ⟨sn_puti (C := RX6) (T := TX6) (N := 4) (idx := 103) rfl pin6 (by decide) (by decide) rfl tyX6 tyX6_ok nmX6 rfl rfl (by decide +kernel) (pmt1 61 rfl (by decide +kernel)) rfl (dX_putfield (by decide +kernel)) (by decide +kernel), ?_⟩
  refine ⟨sn_iload_n (k := 3) (dX_iload_3 (by decide +kernel)) rfl (by decide +kernel), ?_⟩
  refine ⟨sn_if_ne (off := 7) (dX_ifne (by decide +kernel)) (by decide +kernel) (by decide +kernel), ?_⟩
  refine ⟨sn_iconst (dX_iconst_1 (by decide +kernel)) (by decide +kernel), ?_⟩
  refine ⟨sn_goto (off := 4) (dX_goto (by decide +kernel)) (by decide +kernel), ?_⟩
  refine ⟨sn_iconst (dX_iconst_0 (by decide +kernel)) (by decide +kernel), ?_⟩
  refine ⟨sn_istore_n (k := 3) (dX_istore_3 (by decide +kernel)) rfl (by decide) (by decide +kernel), ?_⟩
  refine ⟨sn_iinc (dX_iinc (by decide +kernel)) (by decide) (by decide +kernel), ?_⟩
  refine ⟨sn_goto (off := -39) (dX_goto (by decide +kernel)) (by decide +kernel), ?_⟩
  refine ⟨sn_aload_n (k := 0) (dX_aload_0 (by decide +kernel)) rfl (by decide +kernel), ?_⟩
  refine ⟨sn_aload_n (k := 1) (dX_aload_1 (by decide +kernel)) rfl (by decide +kernel), ?_⟩
  refine ⟨sn_iload_n (k := 2) (dX_iload_2 (by decide +kernel)) rfl (by decide +kernel), ?_⟩
  refine ⟨sn_callV (idx := 121) (C := RX7) (T := TX7) (N := 3) rfl (by decide) cal_150 (pmt3 114 rfl (by decide +kernel)) (pmt3 116 rfl (by decide +kernel)) (pms 12 rfl rfl) (dX_invokevirtual (by decide +kernel)) (by decide +kernel), ?_⟩
  refine ⟨sn_istore (dX_istore (by decide +kernel)) (by decide) (by decide +kernel), ?_⟩
  refine ⟨sn_iload_n (k := 3) (dX_iload_3 (by decide +kernel)) rfl (by decide +kernel), ?_⟩
  refine ⟨sn_if_eq (off := 9) (dX_ifeq (by decide +kernel)) (by decide +kernel) (by decide +kernel), ?_⟩
  refine ⟨sn_iload (dX_iload (by decide +kernel)) (by decide +kernel), ?_⟩
  refine ⟨sn_ineg (dX_ineg (by decide +kernel)) (by decide +kernel), ?_⟩
  refine ⟨sn_goto (off := 5) (dX_goto (by decide +kernel)) (by decide +kernel), ?_⟩
  refine ⟨sn_iload (dX_iload (by decide +kernel)) (by decide +kernel), ?_⟩
  refine ⟨sn_iret rfl (dX_ireturn (by decide +kernel)), ?_⟩
  trivial
set_option maxRecDepth 100000 in
set_option maxHeartbeats 4000000 in
theorem S_150 : pAll (pSk RX7 cX7_single 6 (some .int) PC_150) 0 C_150 := by
  refine ⟨sn_aload_n (k := 1) (dX_aload_1 (by decide +kernel)) rfl (by decide +kernel), ?_⟩
  refine ⟨sn_callV (idx := 112) (C := RX6) (T := TX6) (N := 4) rfl (by decide) cal_133 (pmt3 113 rfl (by decide +kernel)) (pmt2 218 rfl (by decide +kernel)) (pmt2 219 rfl (by decide +kernel)) (dX_invokevirtual (by decide +kernel)) (by decide +kernel), ?_⟩
  refine ⟨sn_istore_n (k := 3) (dX_istore_3 (by decide +kernel)) rfl (by decide) (by decide +kernel), ?_⟩
  refine ⟨sn_aload_n (k := 1) (dX_aload_1 (by decide +kernel)) rfl (by decide +kernel), ?_⟩
  refine ⟨sn_callV (idx := 124) (C := RX6) (T := TX6) (N := 4) rfl (by decide) cal_138 (pmt3 118 rfl (by decide +kernel)) (pmt2 239 rfl (by decide +kernel)) (pmt3 0 rfl (by decide +kernel)) (dX_invokevirtual (by decide +kernel)) (by decide +kernel), ?_⟩
  refine ⟨sn_if_eq (off := 9) (dX_ifeq (by decide +kernel)) (by decide +kernel) (by decide +kernel), ?_⟩
  refine ⟨sn_aload_n (k := 0) (dX_aload_0 (by decide +kernel)) rfl (by decide +kernel), ?_⟩
  refine ⟨sn_aload_n (k := 1) (dX_aload_1 (by decide +kernel)) rfl (by decide +kernel), ?_⟩
  refine ⟨sn_callV (idx := 127) (C := RX7) (T := TX7) (N := 3) rfl (by decide) cal_151 (pmt3 119 rfl (by decide +kernel)) (pmt3 121 rfl (by decide +kernel)) (pms 13 rfl rfl) (dX_invokevirtual (by decide +kernel)) (by decide +kernel), ?_⟩
  refine ⟨sn_iret rfl (dX_ireturn (by decide +kernel)), ?_⟩
  refine ⟨sn_iload_n (k := 3) (dX_iload_3 (by decide +kernel)) rfl (by decide +kernel), ?_⟩
  refine ⟨sn_if_ge (off := 7) (dX_ifge (by decide +kernel)) (by decide +kernel) (by decide +kernel), ?_⟩
  refine ⟨sn_iconst (dX_iconst_m1 (by decide +kernel)) (by decide +kernel), ?_⟩
  refine ⟨sn_goto (off := 10) (dX_goto (by decide +kernel)) (by decide +kernel), ?_⟩
  refine ⟨sn_ldcs rfl (dX_ldc (by decide +kernel)) (by decide +kernel), ?_⟩
  refine ⟨sn_iload_n (k := 3) (dX_iload_3 (by decide +kernel)) rfl (by decide +kernel), ?_⟩
  refine ⟨sn_i2c (dX_i2c (by decide +kernel)) (by decide +kernel), ?_⟩
  refine ⟨sn_callW (idx := 132) cal_272 (pmt3 125 rfl (by decide +kernel)) (pmt3 126 rfl (by decide +kernel)) (pmt3 127 rfl (by decide +kernel)) (dX_invokevirtual (by decide +kernel)) (by decide +kernel), ?_⟩
  refine ⟨sn_istore (dX_istore (by decide +kernel)) (by decide) (by decide +kernel), ?_⟩
  refine ⟨sn_iload (dX_iload (by decide +kernel)) (by decide +kernel), ?_⟩
  refine ⟨sn_if_lt (off := 31) (dX_iflt (by decide +kernel)) (by decide +kernel) (by decide +kernel), ?_⟩
  refine ⟨sn_iload (dX_iload (by decide +kernel)) (by decide +kernel), ?_⟩
  refine ⟨sn_aload_n (k := 0) (dX_aload_0 (by decide +kernel)) rfl (by decide +kernel), ?_⟩
  refine ⟨sn_getf (C := RX7) (T := TX7) (N := 3) (idx := 27) rfl pin7 (by decide) (by decide) rfl (pmt1 191 rfl (by decide +kernel)) rfl (dX_getfield (by decide +kernel)) (by decide +kernel), ?_⟩
  refine ⟨sn_alen (dX_arraylength (by decide +kernel)) (by decide +kernel), ?_⟩
  refine ⟨sn_icmp_ge (off := 21) (dX_if_icmpge (by decide +kernel)) (by decide +kernel) (by decide +kernel), ?_⟩
  refine ⟨sn_aload_n (k := 1) (dX_aload_1 (by decide +kernel)) rfl (by decide +kernel), ?_⟩
  refine ⟨sn_dup (dX_dup (by decide +kernel)) (by decide +kernel), ?_⟩
  refine ⟨sn_getf (C := RX6) (T := TX6) (N := 4) (idx := 103) rfl pin6 (by decide) (by decide) rfl (pmt1 61 rfl (by decide +kernel)) rfl (dX_getfield (by decide +kernel)) (by decide +kernel), ?_⟩
  refine ⟨sn_iconst (dX_iconst_1 (by decide +kernel)) (by decide +kernel), ?_⟩
  refine ⟨sn_iadd (dX_iadd (by decide +kernel)) (by decide +kernel), ?_⟩
  refine ⟨sn_puti (C := RX6) (T := TX6) (N := 4) (idx := 103) rfl pin6 (by decide) (by decide) rfl tyX6 tyX6_ok nmX6 rfl rfl (by decide +kernel) (pmt1 61 rfl (by decide +kernel)) rfl (dX_putfield (by decide +kernel)) (by decide +kernel), ?_⟩
  refine ⟨sn_aload_n (k := 0) (dX_aload_0 (by decide +kernel)) rfl (by decide +kernel), ?_⟩
  refine ⟨sn_getf (C := RX7) (T := TX7) (N := 3) (idx := 27) rfl pin7 (by decide) (by decide) rfl (pmt1 191 rfl (by decide +kernel)) rfl (dX_getfield (by decide +kernel)) (by decide +kernel), ?_⟩
  refine ⟨sn_iload (dX_iload (by decide +kernel)) (by decide +kernel), ?_⟩
  refine ⟨sn_iald (dX_iaload (by decide +kernel)) (by decide +kernel), ?_⟩
  refine ⟨sn_iret rfl (dX_ireturn (by decide +kernel)), ?_⟩
  refine ⟨sn_iload_n (k := 3) (dX_iload_3 (by decide +kernel)) rfl (by decide +kernel), ?_⟩
  refine ⟨sn_bipush (dX_bipush (by decide +kernel)) (by decide +kernel) (by decide +kernel), ?_⟩
  refine ⟨sn_icmp_ne (off := 8) (dX_if_icmpne (by decide +kernel)) (by decide +kernel) (by decide +kernel), ?_⟩
  refine ⟨sn_iload_n (k := 2) (dX_iload_2 (by decide +kernel)) rfl (by decide +kernel), ?_⟩
  refine ⟨sn_iconst (dX_iconst_4 (by decide +kernel)) (by decide +kernel), ?_⟩
  refine ⟨sn_icmp_lt (off := 13) (dX_if_icmplt (by decide +kernel)) (by decide +kernel) (by decide +kernel), ?_⟩
  refine ⟨sn_aload_n (k := 1) (dX_aload_1 (by decide +kernel)) rfl (by decide +kernel), ?_⟩
  refine ⟨sn_aload_n (k := 1) (dX_aload_1 (by decide +kernel)) rfl (by decide +kernel), ?_⟩
  refine ⟨sn_getf (C := RX6) (T := TX6) (N := 4) (idx := 103) rfl pin6 (by decide) (by decide) rfl (pmt1 61 rfl (by decide +kernel)) rfl (dX_getfield (by decide +kernel)) (by decide +kernel), ?_⟩
  refine ⟨sn_callV (idx := 106) (C := RX6) (T := TX6) (N := 4) rfl (by decide) cal_135 (pmt3 209 rfl (by decide +kernel)) (pmt2 235 rfl (by decide +kernel)) (pmt2 236 rfl (by decide +kernel)) (dX_invokevirtual (by decide +kernel)) (by decide +kernel), ?_⟩
  refine ⟨sn_iconst (dX_iconst_0 (by decide +kernel)) (by decide +kernel), ?_⟩
  refine ⟨sn_iret rfl (dX_ireturn (by decide +kernel)), ?_⟩
  refine ⟨sn_aload_n (k := 1) (dX_aload_1 (by decide +kernel)) rfl (by decide +kernel), ?_⟩
  refine ⟨sn_dup (dX_dup (by decide +kernel)) (by decide +kernel), ?_⟩
  refine ⟨sn_getf (C := RX6) (T := TX6) (N := 4) (idx := 103) rfl pin6 (by decide) (by decide) rfl (pmt1 61 rfl (by decide +kernel)) rfl (dX_getfield (by decide +kernel)) (by decide +kernel), ?_⟩
  refine ⟨sn_iconst (dX_iconst_1 (by decide +kernel)) (by decide +kernel), ?_⟩
  refine ⟨sn_iadd (dX_iadd (by decide +kernel)) (by decide +kernel), ?_⟩
  refine ⟨sn_puti (C := RX6) (T := TX6) (N := 4) (idx := 103) rfl pin6 (by decide) (by decide) rfl tyX6 tyX6_ok nmX6 rfl rfl (by decide +kernel) (pmt1 61 rfl (by decide +kernel)) rfl (dX_putfield (by decide +kernel)) (by decide +kernel), ?_⟩
  refine ⟨sn_aload_n (k := 0) (dX_aload_0 (by decide +kernel)) rfl (by decide +kernel), ?_⟩
  refine ⟨sn_aload_n (k := 1) (dX_aload_1 (by decide +kernel)) rfl (by decide +kernel), ?_⟩
  refine ⟨sn_iload_n (k := 2) (dX_iload_2 (by decide +kernel)) rfl (by decide +kernel), ?_⟩
  refine ⟨sn_iconst (dX_iconst_1 (by decide +kernel)) (by decide +kernel), ?_⟩
  refine ⟨sn_iadd (dX_iadd (by decide +kernel)) (by decide +kernel), ?_⟩
  refine ⟨sn_callV (idx := 95) (C := RX7) (T := TX7) (N := 3) rfl (by decide) cal_146 (pmt3 97 rfl (by decide +kernel)) (pmt3 99 rfl (by decide +kernel)) (pms 8 rfl rfl) (dX_invokevirtual (by decide +kernel)) (by decide +kernel), ?_⟩
  refine ⟨sn_istore (dX_istore (by decide +kernel)) (by decide) (by decide +kernel), ?_⟩
  refine ⟨sn_aload_n (k := 1) (dX_aload_1 (by decide +kernel)) rfl (by decide +kernel), ?_⟩
  refine ⟨sn_bipush (dX_bipush (by decide +kernel)) (by decide +kernel) (by decide +kernel), ?_⟩
  refine ⟨sn_callV (idx := 137) (C := RX6) (T := TX6) (N := 4) rfl (by decide) cal_137 (pmt3 210 rfl (by decide +kernel)) (pmt3 12 rfl (by decide +kernel)) (pmt3 13 rfl (by decide +kernel)) (dX_invokevirtual (by decide +kernel)) (by decide +kernel), ?_⟩
  refine ⟨sn_iload (dX_iload (by decide +kernel)) (by decide +kernel), ?_⟩
  refine ⟨sn_iret rfl (dX_ireturn (by decide +kernel)), ?_⟩
  trivial
set_option maxRecDepth 100000 in
set_option maxHeartbeats 4000000 in
theorem S_151 : pAll (pSk RX7 cX7_number 4 (some .int) PC_151) 0 C_151 := by
  refine ⟨sn_iconst (dX_iconst_0 (by decide +kernel)) (by decide +kernel), ?_⟩
  refine ⟨sn_istore_n (k := 2) (dX_istore_2 (by decide +kernel)) rfl (by decide) (by decide +kernel), ?_⟩
  refine ⟨sn_iconst (dX_iconst_0 (by decide +kernel)) (by decide +kernel), ?_⟩
  refine ⟨sn_istore_n (k := 3) (dX_istore_3 (by decide +kernel)) rfl (by decide) (by decide +kernel), ?_⟩
  refine ⟨sn_iload_n (k := 3) (dX_iload_3 (by decide +kernel)) rfl (by decide +kernel), ?_⟩
  refine ⟨sn_iconst (dX_iconst_3 (by decide +kernel)) (by decide +kernel), ?_⟩
  refine ⟨sn_icmp_ge (off := 29) (dX_if_icmpge (by decide +kernel)) (by decide +kernel) (by decide +kernel), ?_⟩
  refine ⟨sn_aload_n (k := 1) (dX_aload_1 (by decide +kernel)) rfl (by decide +kernel), ?_⟩
  refine ⟨sn_callV (idx := 124) (C := RX6) (T := TX6) (N := 4) rfl (by decide) cal_138 (pmt3 118 rfl (by decide +kernel)) (pmt2 239 rfl (by decide +kernel)) (pmt3 0 rfl (by decide +kernel)) (dX_invokevirtual (by decide +kernel)) (by decide +kernel), ?_⟩
  refine ⟨sn_if_eq (off := 22) (dX_ifeq (by decide +kernel)) (by decide +kernel) (by decide +kernel), ?_⟩
  refine ⟨sn_iload_n (k := 2) (dX_iload_2 (by decide +kernel)) rfl (by decide +kernel), ?_⟩
  refine ⟨sn_bipush (dX_bipush (by decide +kernel)) (by decide +kernel) (by decide +kernel), ?_⟩
  refine ⟨sn_imul (dX_imul (by decide +kernel)) (by decide +kernel), ?_⟩
  refine ⟨sn_aload_n (k := 1) (dX_aload_1 (by decide +kernel)) rfl (by decide +kernel), ?_⟩
  refine ⟨sn_iconst (dX_iconst_0 (by decide +kernel)) (by decide +kernel), ?_⟩
  refine ⟨sn_bipush (dX_bipush (by decide +kernel)) (by decide +kernel) (by decide +kernel), ?_⟩
  refine ⟨sn_callV (idx := 140) (C := RX6) (T := TX6) (N := 4) rfl (by decide) cal_139 (pmt3 123 rfl (by decide +kernel)) (pmt2 226 rfl (by decide +kernel)) (pmt2 227 rfl (by decide +kernel)) (dX_invokevirtual (by decide +kernel)) (by decide +kernel), ?_⟩
  refine ⟨sn_iadd (dX_iadd (by decide +kernel)) (by decide +kernel), ?_⟩
  refine ⟨sn_istore_n (k := 2) (dX_istore_2 (by decide +kernel)) rfl (by decide) (by decide +kernel), ?_⟩
  refine ⟨sn_iinc (dX_iinc (by decide +kernel)) (by decide) (by decide +kernel), ?_⟩
  refine ⟨sn_goto (off := -28) (dX_goto (by decide +kernel)) (by decide +kernel), ?_⟩
  refine ⟨sn_iload_n (k := 2) (dX_iload_2 (by decide +kernel)) rfl (by decide +kernel), ?_⟩
  refine ⟨sn_iret rfl (dX_ireturn (by decide +kernel)), ?_⟩
  trivial
set_option maxRecDepth 100000 in
set_option maxHeartbeats 4000000 in
theorem S_152 : pAll (pSk RX8 cX8_append 3 (some .boolean) PC_152) 0 C_152 := by
  refine ⟨sn_aload_n (k := 0) (dX_aload_0 (by decide +kernel)) rfl (by decide +kernel), ?_⟩
  refine ⟨sn_getf (C := RX8) (T := TX8) (N := 2) (idx := 15) rfl pin8 (by decide) (by decide) rfl (pmt1 41 rfl (by decide +kernel)) rfl (dX_getfield (by decide +kernel)) (by decide +kernel), ?_⟩
  refine ⟨sn_if_lt (off := 14) (dX_iflt (by decide +kernel)) (by decide +kernel) (by decide +kernel), ?_⟩
  refine ⟨sn_aload_n (k := 0) (dX_aload_0 (by decide +kernel)) rfl (by decide +kernel), ?_⟩
  refine ⟨sn_getf (C := RX8) (T := TX8) (N := 2) (idx := 15) rfl pin8 (by decide) (by decide) rfl (pmt1 41 rfl (by decide +kernel)) rfl (dX_getfield (by decide +kernel)) (by decide +kernel), ?_⟩
  refine ⟨sn_iconst (dX_iconst_4 (by decide +kernel)) (by decide +kernel), ?_⟩
  refine ⟨sn_iadd (dX_iadd (by decide +kernel)) (by decide +kernel), ?_⟩
  refine ⟨sn_bipush (dX_bipush (by decide +kernel)) (by decide +kernel) (by decide +kernel), ?_⟩
  refine ⟨sn_icmp_le (off := 5) (dX_if_icmple (by decide +kernel)) (by decide +kernel) (by decide +kernel), ?_⟩
  refine ⟨sn_iconst (dX_iconst_0 (by decide +kernel)) (by decide +kernel), ?_⟩
  refine ⟨sn_zret (Or.inl rfl) (dX_ireturn (by decide +kernel)), ?_⟩
  refine ⟨sn_bipush (dX_bipush (by decide +kernel)) (by decide +kernel) (by decide +kernel), ?_⟩
  refine ⟨sn_istore_n (k := 2) (dX_istore_2 (by decide +kernel)) rfl (by decide) (by decide +kernel), ?_⟩
  refine ⟨sn_iload_n (k := 2) (dX_iload_2 (by decide +kernel)) rfl (by decide +kernel), ?_⟩
  refine ⟨sn_if_lt (off := 35) (dX_iflt (by decide +kernel)) (by decide +kernel) (by decide +kernel), ?_⟩
  refine ⟨sn_aload_n (k := 0) (dX_aload_0 (by decide +kernel)) rfl (by decide +kernel), ?_⟩
  refine ⟨sn_getf (C := RX8) (T := TX8) (N := 2) (idx := 11) rfl pin8 (by decide) (by decide) rfl (pmt1 39 rfl (by decide +kernel)) rfl (dX_getfield (by decide +kernel)) (by decide +kernel), ?_⟩
  refine ⟨sn_aload_n (k := 0) (dX_aload_0 (by decide +kernel)) rfl (by decide +kernel), ?_⟩
  refine ⟨sn_getf (C := RX8) (T := TX8) (N := 2) (idx := 15) rfl pin8 (by decide) (by decide) rfl (pmt1 41 rfl (by decide +kernel)) rfl (dX_getfield (by decide +kernel)) (by decide +kernel), ?_⟩
  refine ⟨sn_iload_n (k := 1) (dX_iload_1 (by decide +kernel)) rfl (by decide +kernel), ?_⟩
  refine ⟨sn_iload_n (k := 2) (dX_iload_2 (by decide +kernel)) rfl (by decide +kernel), ?_⟩
  refine ⟨sn_iushr (dX_iushr (by decide +kernel)) (by decide +kernel), ?_⟩
  refine ⟨sn_sipush (dX_sipush (by decide +kernel)) (by decide +kernel) (by decide +kernel), ?_⟩
  refine ⟨sn_iand (dX_iand (by decide +kernel)) (by decide +kernel), ?_⟩
  refine ⟨sn_iast (dX_iastore (by decide +kernel)) (by decide +kernel), ?_⟩
  refine ⟨sn_aload_n (k := 0) (dX_aload_0 (by decide +kernel)) rfl (by decide +kernel), ?_⟩
  refine ⟨sn_dup (dX_dup (by decide +kernel)) (by decide +kernel), ?_⟩
  refine ⟨sn_getf (C := RX8) (T := TX8) (N := 2) (idx := 15) rfl pin8 (by decide) (by decide) rfl (pmt1 41 rfl (by decide +kernel)) rfl (dX_getfield (by decide +kernel)) (by decide +kernel), ?_⟩
  refine ⟨sn_iconst (dX_iconst_1 (by decide +kernel)) (by decide +kernel), ?_⟩
  refine ⟨sn_iadd (dX_iadd (by decide +kernel)) (by decide +kernel), ?_⟩
  refine ⟨sn_puti (C := RX8) (T := TX8) (N := 2) (idx := 15) rfl pin8 (by decide) (by decide) rfl tyX8 tyX8_ok nmX8 rfl rfl (by decide +kernel) (pmt1 41 rfl (by decide +kernel)) rfl (dX_putfield (by decide +kernel)) (by decide +kernel), ?_⟩
  refine ⟨sn_iinc (dX_iinc (by decide +kernel)) (by decide) (by decide +kernel), ?_⟩
  refine ⟨sn_goto (off := -33) (dX_goto (by decide +kernel)) (by decide +kernel), ?_⟩
  refine ⟨sn_iconst (dX_iconst_1 (by decide +kernel)) (by decide +kernel), ?_⟩
  refine ⟨sn_zret (Or.inl rfl) (dX_ireturn (by decide +kernel)), ?_⟩
  trivial
set_option maxRecDepth 100000 in
set_option maxHeartbeats 4000000 in
theorem S_153 : pAll (pSk RX8 cX8_cut 2 (some .boolean) PC_153) 0 C_153 := by
  refine ⟨sn_iload_n (k := 1) (dX_iload_1 (by decide +kernel)) rfl (by decide +kernel), ?_⟩
  refine ⟨sn_if_lt (off := 11) (dX_iflt (by decide +kernel)) (by decide +kernel) (by decide +kernel), ?_⟩
  refine ⟨sn_iload_n (k := 1) (dX_iload_1 (by decide +kernel)) rfl (by decide +kernel), ?_⟩
  refine ⟨sn_aload_n (k := 0) (dX_aload_0 (by decide +kernel)) rfl (by decide +kernel), ?_⟩
  refine ⟨sn_getf (C := RX8) (T := TX8) (N := 2) (idx := 15) rfl pin8 (by decide) (by decide) rfl (pmt1 41 rfl (by decide +kernel)) rfl (dX_getfield (by decide +kernel)) (by decide +kernel), ?_⟩
  refine ⟨sn_icmp_le (off := 5) (dX_if_icmple (by decide +kernel)) (by decide +kernel) (by decide +kernel), ?_⟩
  refine ⟨sn_iconst (dX_iconst_0 (by decide +kernel)) (by decide +kernel), ?_⟩
  refine ⟨sn_zret (Or.inl rfl) (dX_ireturn (by decide +kernel)), ?_⟩
  refine ⟨sn_aload_n (k := 0) (dX_aload_0 (by decide +kernel)) rfl (by decide +kernel), ?_⟩
  refine ⟨sn_iload_n (k := 1) (dX_iload_1 (by decide +kernel)) rfl (by decide +kernel), ?_⟩
  refine ⟨sn_puti (C := RX8) (T := TX8) (N := 2) (idx := 15) rfl pin8 (by decide) (by decide) rfl tyX8 tyX8_ok nmX8 rfl rfl (by decide +kernel) (pmt1 41 rfl (by decide +kernel)) rfl (dX_putfield (by decide +kernel)) (by decide +kernel), ?_⟩
  refine ⟨sn_iconst (dX_iconst_1 (by decide +kernel)) (by decide +kernel), ?_⟩
  refine ⟨sn_zret (Or.inl rfl) (dX_ireturn (by decide +kernel)), ?_⟩
  trivial
set_option maxRecDepth 100000 in
set_option maxHeartbeats 4000000 in
theorem S_154 : pAll (pSk RX8 cX8_at 2 (some .int) PC_154) 0 C_154 := by
  refine ⟨sn_iload_n (k := 1) (dX_iload_1 (by decide +kernel)) rfl (by decide +kernel), ?_⟩
  refine ⟨sn_if_lt (off := 22) (dX_iflt (by decide +kernel)) (by decide +kernel) (by decide +kernel), ?_⟩
  refine ⟨sn_iload_n (k := 1) (dX_iload_1 (by decide +kernel)) rfl (by decide +kernel), ?_⟩
  refine ⟨sn_aload_n (k := 0) (dX_aload_0 (by decide +kernel)) rfl (by decide +kernel), ?_⟩
  refine ⟨sn_getf (C := RX8) (T := TX8) (N := 2) (idx := 15) rfl pin8 (by decide) (by decide) rfl (pmt1 41 rfl (by decide +kernel)) rfl (dX_getfield (by decide +kernel)) (by decide +kernel), ?_⟩
  refine ⟨sn_icmp_ge (off := 14) (dX_if_icmpge (by decide +kernel)) (by decide +kernel) (by decide +kernel), ?_⟩
  refine ⟨sn_aload_n (k := 0) (dX_aload_0 (by decide +kernel)) rfl (by decide +kernel), ?_⟩
  refine ⟨sn_getf (C := RX8) (T := TX8) (N := 2) (idx := 11) rfl pin8 (by decide) (by decide) rfl (pmt1 39 rfl (by decide +kernel)) rfl (dX_getfield (by decide +kernel)) (by decide +kernel), ?_⟩
  refine ⟨sn_iload_n (k := 1) (dX_iload_1 (by decide +kernel)) rfl (by decide +kernel), ?_⟩
  refine ⟨sn_callSN (idx := 19) (host := "SetsStayTogether") cal_47 (pnest_of 19) (pmt4 25 rfl (by decide +kernel)) (dX_invokestatic (by decide +kernel)) (by decide +kernel), ?_⟩
  refine ⟨sn_goto (off := 4) (dX_goto (by decide +kernel)) (by decide +kernel), ?_⟩
  refine ⟨sn_iconst (dX_iconst_m1 (by decide +kernel)) (by decide +kernel), ?_⟩
  refine ⟨sn_iret rfl (dX_ireturn (by decide +kernel)), ?_⟩
  trivial
