/-! each step is sound (by program) -/
set_option maxRecDepth 100000 in
set_option maxHeartbeats 4000000 in
theorem S_155 : pAll (pSk RX8 cX8_become 2 none PC_155) 0 C_155 := by
  refine ⟨sn_aload_n (k := 1) (dX_aload_1 (by decide +kernel)) rfl (by decide +kernel), ?_⟩
  refine ⟨sn_getf (C := RX8) (T := TX8) (N := 2) (idx := 11) rfl pin8 (by decide) (by decide) rfl (pmt1 39 rfl (by decide +kernel)) rfl (dX_getfield (by decide +kernel)) (by decide +kernel), ?_⟩
  refine ⟨sn_aload_n (k := 0) (dX_aload_0 (by decide +kernel)) rfl (by decide +kernel), ?_⟩
  refine ⟨sn_getf (C := RX8) (T := TX8) (N := 2) (idx := 11) rfl pin8 (by decide) (by decide) rfl (pmt1 39 rfl (by decide +kernel)) rfl (dX_getfield (by decide +kernel)) (by decide +kernel), ?_⟩
  refine ⟨sn_callSN (idx := 23) (host := "SetsStayTogether") cal_48 (pnest_of 23) (pmt2 200 rfl (by decide +kernel)) (dX_invokestatic (by decide +kernel)) (by decide +kernel), ?_⟩
  refine ⟨sn_aload_n (k := 0) (dX_aload_0 (by decide +kernel)) rfl (by decide +kernel), ?_⟩
  refine ⟨sn_aload_n (k := 1) (dX_aload_1 (by decide +kernel)) rfl (by decide +kernel), ?_⟩
  refine ⟨sn_getf (C := RX8) (T := TX8) (N := 2) (idx := 15) rfl pin8 (by decide) (by decide) rfl (pmt1 41 rfl (by decide +kernel)) rfl (dX_getfield (by decide +kernel)) (by decide +kernel), ?_⟩
  refine ⟨sn_puti (C := RX8) (T := TX8) (N := 2) (idx := 15) rfl pin8 (by decide) (by decide) rfl tyX8 tyX8_ok nmX8 rfl rfl (by decide +kernel) (pmt1 41 rfl (by decide +kernel)) rfl (dX_putfield (by decide +kernel)) (by decide +kernel), ?_⟩
  refine ⟨sn_vret rfl (dX_return (by decide +kernel)), ?_⟩
  trivial
set_option maxRecDepth 100000 in
set_option maxHeartbeats 4000000 in
theorem S_156 : pAll (pSk RX9 cX9_find 7 (some .boolean) PC_156) 0 C_156 := by
  refine ⟨sn_aload_n (k := 1) (dX_aload_1 (by decide +kernel)) rfl (by decide +kernel), ?_⟩
  refine ⟨sn_aload_n (k := 2) (dX_aload_2 (by decide +kernel)) rfl (by decide +kernel), ?_⟩
  refine ⟨sn_callS (idx := 22) cal_157 (pmt5 158 rfl (by decide +kernel)) (pmt5 159 rfl (by decide +kernel)) (dX_invokestatic (by decide +kernel)) (by decide +kernel), ?_⟩
  refine ⟨sn_istore_n (k := 3) (dX_istore_3 (by decide +kernel)) rfl (by decide) (by decide +kernel), ?_⟩
  refine ⟨sn_iload_n (k := 3) (dX_iload_3 (by decide +kernel)) rfl (by decide +kernel), ?_⟩
  refine ⟨sn_istore (dX_istore (by decide +kernel)) (by decide) (by decide +kernel), ?_⟩
  refine ⟨sn_iload (dX_iload (by decide +kernel)) (by decide +kernel), ?_⟩
  refine ⟨sn_if_le (off := 68) (dX_ifle (by decide +kernel)) (by decide +kernel) (by decide +kernel), ?_⟩
  refine ⟨sn_iload (dX_iload (by decide +kernel)) (by decide +kernel), ?_⟩
  refine ⟨sn_iload_n (k := 3) (dX_iload_3 (by decide +kernel)) rfl (by decide +kernel), ?_⟩
  refine ⟨sn_iconst (dX_iconst_m1 (by decide +kernel)) (by decide +kernel), ?_⟩
  refine ⟨sn_ixor (dX_ixor (by decide +kernel)) (by decide +kernel), ?_⟩
  refine ⟨sn_iand (dX_iand (by decide +kernel)) (by decide +kernel), ?_⟩
  refine ⟨sn_if_ne (off := 53) (dX_ifne (by decide +kernel)) (by decide +kernel) (by decide +kernel), ?_⟩
  refine ⟨sn_iload (dX_iload (by decide +kernel)) (by decide +kernel), ?_⟩
  refine ⟨sn_aload_n (k := 0) (dX_aload_0 (by decide +kernel)) rfl (by decide +kernel), ?_⟩
  refine ⟨sn_getf (C := RX9) (T := TX9) (N := 4) (idx := 9) rfl pin9 (by decide) (by decide) rfl (pmt2 65 rfl (by decide +kernel)) rfl (dX_getfield (by decide +kernel)) (by decide +kernel), ?_⟩
  refine ⟨sn_alen (dX_arraylength (by decide +kernel)) (by decide +kernel), ?_⟩
  refine ⟨sn_icmp_ge (off := 43) (dX_if_icmpge (by decide +kernel)) (by decide +kernel) (by decide +kernel), ?_⟩
  refine ⟨sn_aload_n (k := 0) (dX_aload_0 (by decide +kernel)) rfl (by decide +kernel), ?_⟩
  refine ⟨sn_getf (C := RX9) (T := TX9) (N := 4) (idx := 9) rfl pin9 (by decide) (by decide) rfl (pmt2 65 rfl (by decide +kernel)) rfl (dX_getfield (by decide +kernel)) (by decide +kernel), ?_⟩
  refine ⟨sn_iload (dX_iload (by decide +kernel)) (by decide +kernel), ?_⟩
  refine ⟨sn_aload_n (k := 0) (dX_aload_0 (by decide +kernel)) rfl (by decide +kernel), ?_⟩
  refine ⟨sn_aload_n (k := 1) (dX_aload_1 (by decide +kernel)) rfl (by decide +kernel), ?_⟩
  refine ⟨sn_aload_n (k := 2) (dX_aload_2 (by decide +kernel)) rfl (by decide +kernel), ?_⟩
  refine ⟨sn_iload (dX_iload (by decide +kernel)) (by decide +kernel), ?_⟩
  refine ⟨sn_callV (idx := 26) (C := RX9) (T := TX9) (N := 4) rfl (by decide) cal_159 (pmt5 162 rfl (by decide +kernel)) (pmt5 164 rfl (by decide +kernel)) (pms 30 rfl rfl) (dX_invokevirtual (by decide +kernel)) (by decide +kernel), ?_⟩
  refine ⟨sn_if_eq (off := 24) (dX_ifeq (by decide +kernel)) (by decide +kernel) (by decide +kernel), ?_⟩
  refine ⟨sn_iload (dX_iload (by decide +kernel)) (by decide +kernel), ?_⟩
  refine ⟨sn_iload_n (k := 3) (dX_iload_3 (by decide +kernel)) rfl (by decide +kernel), ?_⟩
  refine ⟨sn_icmp_eq (off := 14) (dX_if_icmpeq (by decide +kernel)) (by decide +kernel) (by decide +kernel), ?_⟩
  refine ⟨sn_aload_n (k := 0) (dX_aload_0 (by decide +kernel)) rfl (by decide +kernel), ?_⟩
  refine ⟨sn_iload (dX_iload (by decide +kernel)) (by decide +kernel), ?_⟩
  refine ⟨sn_iload_n (k := 3) (dX_iload_3 (by decide +kernel)) rfl (by decide +kernel), ?_⟩
  refine ⟨sn_callV (idx := 30) (C := RX9) (T := TX9) (N := 4) rfl (by decide) cal_158 (pmt5 168 rfl (by decide +kernel)) (pmt5 170 rfl (by decide +kernel)) (pms 31 rfl rfl) (dX_invokevirtual (by decide +kernel)) (by decide +kernel), ?_⟩
  refine ⟨sn_iconst (dX_iconst_m1 (by decide +kernel)) (by decide +kernel), ?_⟩
  refine ⟨sn_icmp_eq (off := 7) (dX_if_icmpeq (by decide +kernel)) (by decide +kernel) (by decide +kernel), ?_⟩
  refine ⟨sn_iconst (dX_iconst_1 (by decide +kernel)) (by decide +kernel), ?_⟩
  refine ⟨sn_goto (off := 4) (dX_goto (by decide +kernel)) (by decide +kernel), ?_⟩
  refine ⟨sn_iconst (dX_iconst_0 (by decide +kernel)) (by decide +kernel), ?_⟩
  refine ⟨sn_zast (dX_bastore (by decide +kernel)) (by decide +kernel), ?_⟩
  refine ⟨sn_iinc (dX_iinc (by decide +kernel)) (by decide) (by decide +kernel), ?_⟩
  refine ⟨sn_goto (off := -67) (dX_goto (by decide +kernel)) (by decide +kernel), ?_⟩
  refine ⟨sn_aload_n (k := 0) (dX_aload_0 (by decide +kernel)) rfl (by decide +kernel), ?_⟩
  refine ⟨sn_iconst (dX_iconst_0 (by decide +kernel)) (by decide +kernel), ?_⟩
  refine ⟨sn_puti (C := RX9) (T := TX9) (N := 4) (idx := 34) rfl pin9 (by decide) (by decide) rfl tyX9 tyX9_ok nmX9 rfl rfl (by decide +kernel) (pmt2 69 rfl (by decide +kernel)) rfl (dX_putfield (by decide +kernel)) (by decide +kernel), ?_⟩
  refine ⟨sn_iconst (dX_iconst_0 (by decide +kernel)) (by decide +kernel), ?_⟩
  refine ⟨sn_istore (dX_istore (by decide +kernel)) (by decide) (by decide +kernel), ?_⟩
  refine ⟨sn_iconst (dX_iconst_0 (by decide +kernel)) (by decide +kernel), ?_⟩
  refine ⟨sn_istore (dX_istore (by decide +kernel)) (by decide) (by decide +kernel), ?_⟩
  refine ⟨sn_iload (dX_iload (by decide +kernel)) (by decide +kernel), ?_⟩
  refine ⟨sn_bipush (dX_bipush (by decide +kernel)) (by decide +kernel) (by decide +kernel), ?_⟩
  refine ⟨sn_icmp_ge (off := 60) (dX_if_icmpge (by decide +kernel)) (by decide +kernel) (by decide +kernel), ?_⟩
  refine ⟨sn_iload (dX_iload (by decide +kernel)) (by decide +kernel), ?_⟩
  refine ⟨sn_iload_n (k := 3) (dX_iload_3 (by decide +kernel)) rfl (by decide +kernel), ?_⟩
  refine ⟨sn_icmp_eq (off := 54) (dX_if_icmpeq (by decide +kernel)) (by decide +kernel) (by decide +kernel), ?_⟩
  refine ⟨sn_aload_n (k := 0) (dX_aload_0 (by decide +kernel)) rfl (by decide +kernel), ?_⟩
  refine ⟨sn_iload (dX_iload (by decide +kernel)) (by decide +kernel), ?_⟩
  refine ⟨sn_iload_n (k := 3) (dX_iload_3 (by decide +kernel)) rfl (by decide +kernel), ?_⟩
  refine ⟨sn_callV (idx := 30) (C := RX9) (T := TX9) (N := 4) rfl (by decide) cal_158 (pmt5 168 rfl (by decide +kernel)) (pmt5 170 rfl (by decide +kernel)) (pms 31 rfl rfl) (dX_invokevirtual (by decide +kernel)) (by decide +kernel), ?_⟩
  refine ⟨sn_istore (dX_istore (by decide +kernel)) (by decide) (by decide +kernel), ?_⟩
  refine ⟨sn_iload (dX_iload (by decide +kernel)) (by decide +kernel), ?_⟩
  refine ⟨sn_iconst (dX_iconst_m1 (by decide +kernel)) (by decide +kernel), ?_⟩
  refine ⟨sn_icmp_ne (off := 5) (dX_if_icmpne (by decide +kernel)) (by decide +kernel) (by decide +kernel), ?_⟩
  refine ⟨sn_iconst (dX_iconst_0 (by decide +kernel)) (by decide +kernel), ?_⟩
  refine ⟨sn_zret (Or.inl rfl) (dX_ireturn (by decide +kernel)), ?_⟩
  refine ⟨sn_aload_n (k := 0) (dX_aload_0 (by decide +kernel)) rfl (by decide +kernel), ?_⟩
  refine ⟨sn_getf (C := RX9) (T := TX9) (N := 4) (idx := 15) rfl pin9 (by decide) (by decide) rfl (pmt2 66 rfl (by decide +kernel)) rfl (dX_getfield (by decide +kernel)) (by decide +kernel), ?_⟩
  refine ⟨sn_iload (dX_iload (by decide +kernel)) (by decide +kernel), ?_⟩
  refine ⟨sn_iload (dX_iload (by decide +kernel)) (by decide +kernel), ?_⟩
  refine ⟨sn_iast (dX_iastore (by decide +kernel)) (by decide +kernel), ?_⟩
  refine ⟨sn_aload_n (k := 0) (dX_aload_0 (by decide +kernel)) rfl (by decide +kernel), ?_⟩
  refine ⟨sn_dup (dX_dup (by decide +kernel)) (by decide +kernel), ?_⟩
  refine ⟨sn_getf (C := RX9) (T := TX9) (N := 4) (idx := 34) rfl pin9 (by decide) (by decide) rfl (pmt2 69 rfl (by decide +kernel)) rfl (dX_getfield (by decide +kernel)) (by decide +kernel), ?_⟩
  refine ⟨sn_iconst (dX_iconst_1 (by decide +kernel)) (by decide +kernel), ?_⟩
  refine ⟨sn_iadd (dX_iadd (by decide +kernel)) (by decide +kernel), ?_⟩
  refine ⟨sn_puti (C := RX9) (T := TX9) (N := 4) (idx := 34) rfl pin9 (by decide) (by decide) rfl tyX9 tyX9_ok nmX9 rfl rfl (by decide +kernel) (pmt2 69 rfl (by decide +kernel)) rfl (dX_putfield (by decide +kernel)) (by decide +kernel), ?_⟩
  refine ⟨sn_iload (dX_iload (by decide +kernel)) (by decide +kernel), ?_⟩
  refine ⟨sn_iconst (dX_iconst_1 (by decide +kernel)) (by decide +kernel), ?_⟩
  refine ⟨sn_iload (dX_iload (by decide +kernel)) (by decide +kernel), ?_⟩
  refine ⟨sn_ishl (dX_ishl (by decide +kernel)) (by decide +kernel), ?_⟩
  refine ⟨sn_ior (dX_ior (by decide +kernel)) (by decide +kernel), ?_⟩
  refine ⟨sn_istore (dX_istore (by decide +kernel)) (by decide) (by decide +kernel), ?_⟩
  refine ⟨sn_iinc (dX_iinc (by decide +kernel)) (by decide) (by decide +kernel), ?_⟩
  refine ⟨sn_goto (off := -61) (dX_goto (by decide +kernel)) (by decide +kernel), ?_⟩
  refine ⟨sn_iload (dX_iload (by decide +kernel)) (by decide +kernel), ?_⟩
  refine ⟨sn_iload_n (k := 3) (dX_iload_3 (by decide +kernel)) rfl (by decide +kernel), ?_⟩
  refine ⟨sn_icmp_ne (off := 7) (dX_if_icmpne (by decide +kernel)) (by decide +kernel) (by decide +kernel), ?_⟩
  refine ⟨sn_iconst (dX_iconst_1 (by decide +kernel)) (by decide +kernel), ?_⟩
  refine ⟨sn_goto (off := 4) (dX_goto (by decide +kernel)) (by decide +kernel), ?_⟩
  refine ⟨sn_iconst (dX_iconst_0 (by decide +kernel)) (by decide +kernel), ?_⟩
  refine ⟨sn_zret (Or.inl rfl) (dX_ireturn (by decide +kernel)), ?_⟩
  trivial
set_option maxRecDepth 100000 in
set_option maxHeartbeats 4000000 in
theorem S_157 : pAll (pSk RX9 cX9_movedClumps 4 (some .int) PC_157) 0 C_157 := by
  refine ⟨sn_iconst (dX_iconst_0 (by decide +kernel)) (by decide +kernel), ?_⟩
  refine ⟨sn_istore_n (k := 2) (dX_istore_2 (by decide +kernel)) rfl (by decide) (by decide +kernel), ?_⟩
  refine ⟨sn_iconst (dX_iconst_0 (by decide +kernel)) (by decide +kernel), ?_⟩
  refine ⟨sn_istore_n (k := 3) (dX_istore_3 (by decide +kernel)) rfl (by decide) (by decide +kernel), ?_⟩
  refine ⟨sn_iload_n (k := 3) (dX_iload_3 (by decide +kernel)) rfl (by decide +kernel), ?_⟩
  refine ⟨sn_aload_n (k := 0) (dX_aload_0 (by decide +kernel)) rfl (by decide +kernel), ?_⟩
  refine ⟨sn_getf (C := RX0) (T := TX0) (N := 13) (idx := 38) rfl pin0 (by decide) (by decide) rfl (pmt1 140 rfl (by decide +kernel)) rfl (dX_getfield (by decide +kernel)) (by decide +kernel), ?_⟩
  refine ⟨sn_icmp_ge (off := 34) (dX_if_icmpge (by decide +kernel)) (by decide +kernel) (by decide +kernel), ?_⟩
  refine ⟨sn_aload_n (k := 0) (dX_aload_0 (by decide +kernel)) rfl (by decide +kernel), ?_⟩
  refine ⟨sn_getf (C := RX0) (T := TX0) (N := 13) (idx := 43) rfl pin0 (by decide) (by decide) rfl (pmt1 121 rfl (by decide +kernel)) rfl (dX_getfield (by decide +kernel)) (by decide +kernel), ?_⟩
  refine ⟨sn_iload_n (k := 3) (dX_iload_3 (by decide +kernel)) rfl (by decide +kernel), ?_⟩
  refine ⟨sn_iald (dX_iaload (by decide +kernel)) (by decide +kernel), ?_⟩
  refine ⟨sn_aload_n (k := 1) (dX_aload_1 (by decide +kernel)) rfl (by decide +kernel), ?_⟩
  refine ⟨sn_iload_n (k := 3) (dX_iload_3 (by decide +kernel)) rfl (by decide +kernel), ?_⟩
  refine ⟨sn_callSN (idx := 46) (host := "SetsStayTogether") cal_47 (pnest_of 46) (pmt4 25 rfl (by decide +kernel)) (dX_invokestatic (by decide +kernel)) (by decide +kernel), ?_⟩
  refine ⟨sn_icmp_eq (off := 14) (dX_if_icmpeq (by decide +kernel)) (by decide +kernel) (by decide +kernel), ?_⟩
  refine ⟨sn_iload_n (k := 2) (dX_iload_2 (by decide +kernel)) rfl (by decide +kernel), ?_⟩
  refine ⟨sn_iconst (dX_iconst_1 (by decide +kernel)) (by decide +kernel), ?_⟩
  refine ⟨sn_aload_n (k := 0) (dX_aload_0 (by decide +kernel)) rfl (by decide +kernel), ?_⟩
  refine ⟨sn_getf (C := RX0) (T := TX0) (N := 13) (idx := 50) rfl pin0 (by decide) (by decide) rfl (pmt1 130 rfl (by decide +kernel)) rfl (dX_getfield (by decide +kernel)) (by decide +kernel), ?_⟩
  refine ⟨sn_iload_n (k := 3) (dX_iload_3 (by decide +kernel)) rfl (by decide +kernel), ?_⟩
  refine ⟨sn_iald (dX_iaload (by decide +kernel)) (by decide +kernel), ?_⟩
  refine ⟨sn_ishl (dX_ishl (by decide +kernel)) (by decide +kernel), ?_⟩
  refine ⟨sn_ior (dX_ior (by decide +kernel)) (by decide +kernel), ?_⟩
  refine ⟨sn_istore_n (k := 2) (dX_istore_2 (by decide +kernel)) rfl (by decide) (by decide +kernel), ?_⟩
  refine ⟨sn_iinc (dX_iinc (by decide +kernel)) (by decide) (by decide +kernel), ?_⟩
  refine ⟨sn_goto (off := -36) (dX_goto (by decide +kernel)) (by decide +kernel), ?_⟩
  refine ⟨sn_iload_n (k := 2) (dX_iload_2 (by decide +kernel)) rfl (by decide +kernel), ?_⟩
  refine ⟨sn_iret rfl (dX_ireturn (by decide +kernel)), ?_⟩
  trivial
set_option maxRecDepth 100000 in
set_option maxHeartbeats 4000000 in
theorem S_158 : pAll (pSk RX9 cX9_firstOpen 5 (some .int) PC_158) 0 C_158 := by
  refine ⟨sn_iconst (dX_iconst_0 (by decide +kernel)) (by decide +kernel), ?_⟩
  refine ⟨sn_istore_n (k := 3) (dX_istore_3 (by decide +kernel)) rfl (by decide) (by decide +kernel), ?_⟩
  refine ⟨sn_iload_n (k := 3) (dX_iload_3 (by decide +kernel)) rfl (by decide +kernel), ?_⟩
  refine ⟨sn_bipush (dX_bipush (by decide +kernel)) (by decide +kernel) (by decide +kernel), ?_⟩
  refine ⟨sn_icmp_ge (off := 55) (dX_if_icmpge (by decide +kernel)) (by decide +kernel) (by decide +kernel), ?_⟩
  refine ⟨sn_iload_n (k := 1) (dX_iload_1 (by decide +kernel)) rfl (by decide +kernel), ?_⟩
  refine ⟨sn_iconst (dX_iconst_1 (by decide +kernel)) (by decide +kernel), ?_⟩
  refine ⟨sn_iload_n (k := 3) (dX_iload_3 (by decide +kernel)) rfl (by decide +kernel), ?_⟩
  refine ⟨sn_ishl (dX_ishl (by decide +kernel)) (by decide +kernel), ?_⟩
  refine ⟨sn_ior (dX_ior (by decide +kernel)) (by decide +kernel), ?_⟩
  refine ⟨sn_istore (dX_istore (by decide +kernel)) (by decide) (by decide +kernel), ?_⟩
  refine ⟨sn_iload_n (k := 2) (dX_iload_2 (by decide +kernel)) rfl (by decide +kernel), ?_⟩
  refine ⟨sn_iload_n (k := 1) (dX_iload_1 (by decide +kernel)) rfl (by decide +kernel), ?_⟩
  refine ⟨sn_iconst (dX_iconst_m1 (by decide +kernel)) (by decide +kernel), ?_⟩
  refine ⟨sn_ixor (dX_ixor (by decide +kernel)) (by decide +kernel), ?_⟩
  refine ⟨sn_iand (dX_iand (by decide +kernel)) (by decide +kernel), ?_⟩
  refine ⟨sn_iload_n (k := 3) (dX_iload_3 (by decide +kernel)) rfl (by decide +kernel), ?_⟩
  refine ⟨sn_callSN (idx := 53) (host := "SetsStayTogether") cal_49 (pnest_of 53) (pmt3 66 rfl (by decide +kernel)) (dX_invokestatic (by decide +kernel)) (by decide +kernel), ?_⟩
  refine ⟨sn_if_eq (off := 30) (dX_ifeq (by decide +kernel)) (by decide +kernel) (by decide +kernel), ?_⟩
  refine ⟨sn_iload (dX_iload (by decide +kernel)) (by decide +kernel), ?_⟩
  refine ⟨sn_if_lt (off := 25) (dX_iflt (by decide +kernel)) (by decide +kernel) (by decide +kernel), ?_⟩
  refine ⟨sn_iload (dX_iload (by decide +kernel)) (by decide +kernel), ?_⟩
  refine ⟨sn_aload_n (k := 0) (dX_aload_0 (by decide +kernel)) rfl (by decide +kernel), ?_⟩
  refine ⟨sn_getf (C := RX9) (T := TX9) (N := 4) (idx := 9) rfl pin9 (by decide) (by decide) rfl (pmt2 65 rfl (by decide +kernel)) rfl (dX_getfield (by decide +kernel)) (by decide +kernel), ?_⟩
  refine ⟨sn_alen (dX_arraylength (by decide +kernel)) (by decide +kernel), ?_⟩
  refine ⟨sn_icmp_ge (off := 15) (dX_if_icmpge (by decide +kernel)) (by decide +kernel) (by decide +kernel), ?_⟩
  refine ⟨sn_aload_n (k := 0) (dX_aload_0 (by decide +kernel)) rfl (by decide +kernel), ?_⟩
  refine ⟨sn_getf (C := RX9) (T := TX9) (N := 4) (idx := 9) rfl pin9 (by decide) (by decide) rfl (pmt2 65 rfl (by decide +kernel)) rfl (dX_getfield (by decide +kernel)) (by decide +kernel), ?_⟩
  refine ⟨sn_iload (dX_iload (by decide +kernel)) (by decide +kernel), ?_⟩
  refine ⟨sn_zald (dX_baload (by decide +kernel)) (by decide +kernel), ?_⟩
  refine ⟨sn_if_eq (off := 5) (dX_ifeq (by decide +kernel)) (by decide +kernel) (by decide +kernel), ?_⟩
  refine ⟨sn_iload_n (k := 3) (dX_iload_3 (by decide +kernel)) rfl (by decide +kernel), ?_⟩
  refine ⟨sn_iret rfl (dX_ireturn (by decide +kernel)), ?_⟩
  refine ⟨sn_iinc (dX_iinc (by decide +kernel)) (by decide) (by decide +kernel), ?_⟩
  refine ⟨sn_goto (off := -55) (dX_goto (by decide +kernel)) (by decide +kernel), ?_⟩
  refine ⟨sn_iconst (dX_iconst_m1 (by decide +kernel)) (by decide +kernel), ?_⟩
  refine ⟨sn_iret rfl (dX_ireturn (by decide +kernel)), ?_⟩
  trivial
set_option maxRecDepth 100000 in
set_option maxHeartbeats 4000000 in
theorem S_159 : pAll (pSk RX9 cX9_isLawful 5 (some .boolean) PC_159) 0 C_159 := by
  refine ⟨sn_iconst (dX_iconst_0 (by decide +kernel)) (by decide +kernel), ?_⟩
  refine ⟨sn_istore (dX_istore (by decide +kernel)) (by decide) (by decide +kernel), ?_⟩
  refine ⟨sn_iload (dX_iload (by decide +kernel)) (by decide +kernel), ?_⟩
  refine ⟨sn_aload_n (k := 1) (dX_aload_1 (by decide +kernel)) rfl (by decide +kernel), ?_⟩
  refine ⟨sn_getf (C := RX0) (T := TX0) (N := 13) (idx := 38) rfl pin0 (by decide) (by decide) rfl (pmt1 140 rfl (by decide +kernel)) rfl (dX_getfield (by decide +kernel)) (by decide +kernel), ?_⟩
  refine ⟨sn_icmp_ge (off := 46) (dX_if_icmpge (by decide +kernel)) (by decide +kernel) (by decide +kernel), ?_⟩
  refine ⟨sn_aload_n (k := 0) (dX_aload_0 (by decide +kernel)) rfl (by decide +kernel), ?_⟩
  refine ⟨sn_getf (C := RX9) (T := TX9) (N := 4) (idx := 19) rfl pin9 (by decide) (by decide) rfl (pmt2 68 rfl (by decide +kernel)) rfl (dX_getfield (by decide +kernel)) (by decide +kernel), ?_⟩
  refine ⟨sn_iload (dX_iload (by decide +kernel)) (by decide +kernel), ?_⟩
  refine ⟨sn_iload_n (k := 3) (dX_iload_3 (by decide +kernel)) rfl (by decide +kernel), ?_⟩
  refine ⟨sn_aload_n (k := 1) (dX_aload_1 (by decide +kernel)) rfl (by decide +kernel), ?_⟩
  refine ⟨sn_getf (C := RX0) (T := TX0) (N := 13) (idx := 50) rfl pin0 (by decide) (by decide) rfl (pmt1 130 rfl (by decide +kernel)) rfl (dX_getfield (by decide +kernel)) (by decide +kernel), ?_⟩
  refine ⟨sn_iload (dX_iload (by decide +kernel)) (by decide +kernel), ?_⟩
  refine ⟨sn_iald (dX_iaload (by decide +kernel)) (by decide +kernel), ?_⟩
  refine ⟨sn_callSN (idx := 53) (host := "SetsStayTogether") cal_49 (pnest_of 53) (pmt3 66 rfl (by decide +kernel)) (dX_invokestatic (by decide +kernel)) (by decide +kernel), ?_⟩
  refine ⟨sn_if_eq (off := 12) (dX_ifeq (by decide +kernel)) (by decide +kernel) (by decide +kernel), ?_⟩
  refine ⟨sn_aload_n (k := 2) (dX_aload_2 (by decide +kernel)) rfl (by decide +kernel), ?_⟩
  refine ⟨sn_iload (dX_iload (by decide +kernel)) (by decide +kernel), ?_⟩
  refine ⟨sn_callSN (idx := 46) (host := "SetsStayTogether") cal_47 (pnest_of 46) (pmt4 25 rfl (by decide +kernel)) (dX_invokestatic (by decide +kernel)) (by decide +kernel), ?_⟩
  refine ⟨sn_goto (off := 10) (dX_goto (by decide +kernel)) (by decide +kernel), ?_⟩
  refine ⟨sn_aload_n (k := 1) (dX_aload_1 (by decide +kernel)) rfl (by decide +kernel), ?_⟩
  refine ⟨sn_getf (C := RX0) (T := TX0) (N := 13) (idx := 43) rfl pin0 (by decide) (by decide) rfl (pmt1 121 rfl (by decide +kernel)) rfl (dX_getfield (by decide +kernel)) (by decide +kernel), ?_⟩
  refine ⟨sn_iload (dX_iload (by decide +kernel)) (by decide +kernel), ?_⟩
  refine ⟨sn_iald (dX_iaload (by decide +kernel)) (by decide +kernel), ?_⟩
  refine ⟨sn_iast (dX_iastore (by decide +kernel)) (by decide +kernel), ?_⟩
  refine ⟨sn_iinc (dX_iinc (by decide +kernel)) (by decide) (by decide +kernel), ?_⟩
  refine ⟨sn_goto (off := -49) (dX_goto (by decide +kernel)) (by decide +kernel), ?_⟩
  refine ⟨sn_aload_n (k := 1) (dX_aload_1 (by decide +kernel)) rfl (by decide +kernel), ?_⟩
  refine ⟨sn_aload_n (k := 0) (dX_aload_0 (by decide +kernel)) rfl (by decide +kernel), ?_⟩
  refine ⟨sn_getf (C := RX9) (T := TX9) (N := 4) (idx := 19) rfl pin9 (by decide) (by decide) rfl (pmt2 68 rfl (by decide +kernel)) rfl (dX_getfield (by decide +kernel)) (by decide +kernel), ?_⟩
  refine ⟨sn_callV (idx := 57) (C := RX0) (T := TX0) (N := 13) rfl (by decide) cal_88 (pmt5 167 rfl (by decide +kernel)) (pmt4 70 rfl (by decide +kernel)) (pmt4 71 rfl (by decide +kernel)) (dX_invokevirtual (by decide +kernel)) (by decide +kernel), ?_⟩
  refine ⟨sn_if_ne (off := 7) (dX_ifne (by decide +kernel)) (by decide +kernel) (by decide +kernel), ?_⟩
  refine ⟨sn_iconst (dX_iconst_1 (by decide +kernel)) (by decide +kernel), ?_⟩
  refine ⟨sn_goto (off := 4) (dX_goto (by decide +kernel)) (by decide +kernel), ?_⟩
  refine ⟨sn_iconst (dX_iconst_0 (by decide +kernel)) (by decide +kernel), ?_⟩
  refine ⟨sn_zret (Or.inl rfl) (dX_ireturn (by decide +kernel)), ?_⟩
  trivial
set_option maxRecDepth 100000 in
set_option maxHeartbeats 4000000 in
theorem S_160 : pAll (pSk RX10 cX10_start 4 none PC_160) 0 C_160 := by
  refine ⟨sn_aload_n (k := 0) (dX_aload_0 (by decide +kernel)) rfl (by decide +kernel), ?_⟩
  refine ⟨sn_aload_n (k := 1) (dX_aload_1 (by decide +kernel)) rfl (by decide +kernel), ?_⟩
  refine ⟨sn_getf (C := RX0) (T := TX0) (N := 13) (idx := 30) rfl pin0 (by decide) (by decide) rfl (pmt1 133 rfl (by decide +kernel)) rfl (dX_getfield (by decide +kernel)) (by decide +kernel), ?_⟩
  refine ⟨sn_bipush (dX_bipush (by decide +kernel)) (by decide +kernel) (by decide +kernel), ?_⟩
  refine ⟨sn_mmin (idx := 36) (pmt4 190 rfl (by decide +kernel)) (pmt2 211 rfl (by decide +kernel)) (pmt1 14 rfl (by decide +kernel)) (pmt2 212 rfl (by decide +kernel)) (dX_invokestatic (by decide +kernel)) (by decide +kernel), ?_⟩
  refine ⟨sn_puti (C := RX10) (T := TX10) (N := 12) (idx := 42) rfl pin10 (by decide) (by decide) rfl tyX10 tyX10_ok nmX10 rfl rfl (by decide +kernel) (pmt1 214 rfl (by decide +kernel)) rfl (dX_putfield (by decide +kernel)) (by decide +kernel), ?_⟩
  refine ⟨sn_aload_n (k := 0) (dX_aload_0 (by decide +kernel)) rfl (by decide +kernel), ?_⟩
  refine ⟨sn_iconst (dX_iconst_0 (by decide +kernel)) (by decide +kernel), ?_⟩
  refine ⟨sn_puti (C := RX10) (T := TX10) (N := 12) (idx := 43) rfl pin10 (by decide) (by decide) rfl tyX10 tyX10_ok nmX10 rfl rfl (by decide +kernel) (pmt1 215 rfl (by decide +kernel)) rfl (dX_putfield (by decide +kernel)) (by decide +kernel), ?_⟩
  refine ⟨sn_aload_n (k := 0) (dX_aload_0 (by decide +kernel)) rfl (by decide +kernel), ?_⟩
  refine ⟨sn_iconst (dX_iconst_0 (by decide +kernel)) (by decide +kernel), ?_⟩
  refine ⟨sn_putz (C := RX10) (T := TX10) (N := 12) (idx := 46) rfl pin10 (by decide) (by decide) rfl tyX10 tyX10_ok nmX10 rfl rfl (by decide +kernel) (pmt1 216 rfl (by decide +kernel)) rfl (dX_putfield (by decide +kernel)) (by decide +kernel), ?_⟩
  refine ⟨sn_aload_n (k := 0) (dX_aload_0 (by decide +kernel)) rfl (by decide +kernel), ?_⟩
  refine ⟨sn_iconst (dX_iconst_0 (by decide +kernel)) (by decide +kernel), ?_⟩
  refine ⟨sn_putz (C := RX10) (T := TX10) (N := 12) (idx := 50) rfl pin10 (by decide) (by decide) rfl tyX10 tyX10_ok nmX10 rfl rfl (by decide +kernel) (pmt1 217 rfl (by decide +kernel)) rfl (dX_putfield (by decide +kernel)) (by decide +kernel), ?_⟩
  refine ⟨sn_aload_n (k := 1) (dX_aload_1 (by decide +kernel)) rfl (by decide +kernel), ?_⟩
  refine ⟨sn_getf (C := RX0) (T := TX0) (N := 13) (idx := 53) rfl pin0 (by decide) (by decide) rfl (pmt1 106 rfl (by decide +kernel)) rfl (dX_getfield (by decide +kernel)) (by decide +kernel), ?_⟩
  refine ⟨sn_aload_n (k := 0) (dX_aload_0 (by decide +kernel)) rfl (by decide +kernel), ?_⟩
  refine ⟨sn_getf (C := RX10) (T := TX10) (N := 12) (idx := 9) rfl pin10 (by decide) (by decide) rfl (pmt1 205 rfl (by decide +kernel)) rfl (dX_getfield (by decide +kernel)) (by decide +kernel), ?_⟩
  refine ⟨sn_callSN (idx := 54) (host := "SetsStayTogether") cal_48 (pnest_of 54) (pmt2 200 rfl (by decide +kernel)) (dX_invokestatic (by decide +kernel)) (by decide +kernel), ?_⟩
  refine ⟨sn_iconst (dX_iconst_0 (by decide +kernel)) (by decide +kernel), ?_⟩
  refine ⟨sn_istore_n (k := 3) (dX_istore_3 (by decide +kernel)) rfl (by decide) (by decide +kernel), ?_⟩
  refine ⟨sn_iload_n (k := 3) (dX_iload_3 (by decide +kernel)) rfl (by decide +kernel), ?_⟩
  refine ⟨sn_bipush (dX_bipush (by decide +kernel)) (by decide +kernel) (by decide +kernel), ?_⟩
  refine ⟨sn_icmp_ge (off := 16) (dX_if_icmpge (by decide +kernel)) (by decide +kernel) (by decide +kernel), ?_⟩
  refine ⟨sn_aload_n (k := 0) (dX_aload_0 (by decide +kernel)) rfl (by decide +kernel), ?_⟩
  refine ⟨sn_getf (C := RX10) (T := TX10) (N := 12) (idx := 15) rfl pin10 (by decide) (by decide) rfl (pmt1 206 rfl (by decide +kernel)) rfl (dX_getfield (by decide +kernel)) (by decide +kernel), ?_⟩
  refine ⟨sn_iload_n (k := 3) (dX_iload_3 (by decide +kernel)) rfl (by decide +kernel), ?_⟩
  refine ⟨sn_iconst (dX_iconst_0 (by decide +kernel)) (by decide +kernel), ?_⟩
  refine ⟨sn_iast (dX_iastore (by decide +kernel)) (by decide +kernel), ?_⟩
  refine ⟨sn_iinc (dX_iinc (by decide +kernel)) (by decide) (by decide +kernel), ?_⟩
  refine ⟨sn_goto (off := -16) (dX_goto (by decide +kernel)) (by decide +kernel), ?_⟩
  refine ⟨sn_iconst (dX_iconst_0 (by decide +kernel)) (by decide +kernel), ?_⟩
  refine ⟨sn_istore_n (k := 3) (dX_istore_3 (by decide +kernel)) rfl (by decide) (by decide +kernel), ?_⟩
  refine ⟨sn_iload_n (k := 3) (dX_iload_3 (by decide +kernel)) rfl (by decide +kernel), ?_⟩
  refine ⟨sn_aload_n (k := 0) (dX_aload_0 (by decide +kernel)) rfl (by decide +kernel), ?_⟩
  refine ⟨sn_getf (C := RX10) (T := TX10) (N := 12) (idx := 24) rfl pin10 (by decide) (by decide) rfl (pmt1 211 rfl (by decide +kernel)) rfl (dX_getfield (by decide +kernel)) (by decide +kernel), ?_⟩
  refine ⟨sn_alen (dX_arraylength (by decide +kernel)) (by decide +kernel), ?_⟩
  refine ⟨sn_icmp_ge (off := 16) (dX_if_icmpge (by decide +kernel)) (by decide +kernel) (by decide +kernel), ?_⟩
  refine ⟨sn_aload_n (k := 0) (dX_aload_0 (by decide +kernel)) rfl (by decide +kernel), ?_⟩
  refine ⟨sn_getf (C := RX10) (T := TX10) (N := 12) (idx := 24) rfl pin10 (by decide) (by decide) rfl (pmt1 211 rfl (by decide +kernel)) rfl (dX_getfield (by decide +kernel)) (by decide +kernel), ?_⟩
  refine ⟨sn_iload_n (k := 3) (dX_iload_3 (by decide +kernel)) rfl (by decide +kernel), ?_⟩
  refine ⟨sn_iconst (dX_iconst_0 (by decide +kernel)) (by decide +kernel), ?_⟩
  refine ⟨sn_iast (dX_iastore (by decide +kernel)) (by decide +kernel), ?_⟩
  refine ⟨sn_iinc (dX_iinc (by decide +kernel)) (by decide) (by decide +kernel), ?_⟩
  refine ⟨sn_goto (off := -19) (dX_goto (by decide +kernel)) (by decide +kernel), ?_⟩
  refine ⟨sn_iconst (dX_iconst_0 (by decide +kernel)) (by decide +kernel), ?_⟩
  refine ⟨sn_istore_n (k := 3) (dX_istore_3 (by decide +kernel)) rfl (by decide) (by decide +kernel), ?_⟩
  refine ⟨sn_iload_n (k := 3) (dX_iload_3 (by decide +kernel)) rfl (by decide +kernel), ?_⟩
  refine ⟨sn_aload_n (k := 1) (dX_aload_1 (by decide +kernel)) rfl (by decide +kernel), ?_⟩
  refine ⟨sn_getf (C := RX0) (T := TX0) (N := 13) (idx := 58) rfl pin0 (by decide) (by decide) rfl (pmt1 148 rfl (by decide +kernel)) rfl (dX_getfield (by decide +kernel)) (by decide +kernel), ?_⟩
  refine ⟨sn_icmp_ge (off := 60) (dX_if_icmpge (by decide +kernel)) (by decide +kernel) (by decide +kernel), ?_⟩
  refine ⟨sn_aload_n (k := 0) (dX_aload_0 (by decide +kernel)) rfl (by decide +kernel), ?_⟩
  refine ⟨sn_getf (C := RX10) (T := TX10) (N := 12) (idx := 43) rfl pin10 (by decide) (by decide) rfl (pmt1 215 rfl (by decide +kernel)) rfl (dX_getfield (by decide +kernel)) (by decide +kernel), ?_⟩
  refine ⟨sn_bipush (dX_bipush (by decide +kernel)) (by decide +kernel) (by decide +kernel), ?_⟩
  refine ⟨sn_icmp_ge (off := 51) (dX_if_icmpge (by decide +kernel)) (by decide +kernel) (by decide +kernel), ?_⟩
  refine ⟨sn_iload_n (k := 2) (dX_iload_2 (by decide +kernel)) rfl (by decide +kernel), ?_⟩
  refine ⟨sn_iload_n (k := 3) (dX_iload_3 (by decide +kernel)) rfl (by decide +kernel), ?_⟩
  refine ⟨sn_callSN (idx := 61) (host := "SetsStayTogether") cal_49 (pnest_of 61) (pmt3 66 rfl (by decide +kernel)) (dX_invokestatic (by decide +kernel)) (by decide +kernel), ?_⟩
  refine ⟨sn_if_eq (off := 37) (dX_ifeq (by decide +kernel)) (by decide +kernel) (by decide +kernel), ?_⟩
  refine ⟨sn_aload_n (k := 0) (dX_aload_0 (by decide +kernel)) rfl (by decide +kernel), ?_⟩
  refine ⟨sn_getf (C := RX10) (T := TX10) (N := 12) (idx := 18) rfl pin10 (by decide) (by decide) rfl (pmt1 207 rfl (by decide +kernel)) rfl (dX_getfield (by decide +kernel)) (by decide +kernel), ?_⟩
  refine ⟨sn_aload_n (k := 0) (dX_aload_0 (by decide +kernel)) rfl (by decide +kernel), ?_⟩
  refine ⟨sn_getf (C := RX10) (T := TX10) (N := 12) (idx := 43) rfl pin10 (by decide) (by decide) rfl (pmt1 215 rfl (by decide +kernel)) rfl (dX_getfield (by decide +kernel)) (by decide +kernel), ?_⟩
  refine ⟨sn_aload_n (k := 1) (dX_aload_1 (by decide +kernel)) rfl (by decide +kernel), ?_⟩
  refine ⟨sn_iload_n (k := 3) (dX_iload_3 (by decide +kernel)) rfl (by decide +kernel), ?_⟩
  refine ⟨sn_callV (idx := 65) (C := RX0) (T := TX0) (N := 13) rfl (by decide) cal_101 (pmt4 193 rfl (by decide +kernel)) (pmt4 141 rfl (by decide +kernel)) (pmt4 142 rfl (by decide +kernel)) (dX_invokevirtual (by decide +kernel)) (by decide +kernel), ?_⟩
  refine ⟨sn_iast (dX_iastore (by decide +kernel)) (by decide +kernel), ?_⟩
  refine ⟨sn_aload_n (k := 0) (dX_aload_0 (by decide +kernel)) rfl (by decide +kernel), ?_⟩
  refine ⟨sn_getf (C := RX10) (T := TX10) (N := 12) (idx := 21) rfl pin10 (by decide) (by decide) rfl (pmt1 208 rfl (by decide +kernel)) rfl (dX_getfield (by decide +kernel)) (by decide +kernel), ?_⟩
  refine ⟨sn_aload_n (k := 0) (dX_aload_0 (by decide +kernel)) rfl (by decide +kernel), ?_⟩
  refine ⟨sn_getf (C := RX10) (T := TX10) (N := 12) (idx := 43) rfl pin10 (by decide) (by decide) rfl (pmt1 215 rfl (by decide +kernel)) rfl (dX_getfield (by decide +kernel)) (by decide +kernel), ?_⟩
  refine ⟨sn_iconst (dX_iconst_m1 (by decide +kernel)) (by decide +kernel), ?_⟩
  refine ⟨sn_iast (dX_iastore (by decide +kernel)) (by decide +kernel), ?_⟩
  refine ⟨sn_aload_n (k := 0) (dX_aload_0 (by decide +kernel)) rfl (by decide +kernel), ?_⟩
  refine ⟨sn_dup (dX_dup (by decide +kernel)) (by decide +kernel), ?_⟩
  refine ⟨sn_getf (C := RX10) (T := TX10) (N := 12) (idx := 43) rfl pin10 (by decide) (by decide) rfl (pmt1 215 rfl (by decide +kernel)) rfl (dX_getfield (by decide +kernel)) (by decide +kernel), ?_⟩
  refine ⟨sn_iconst (dX_iconst_1 (by decide +kernel)) (by decide +kernel), ?_⟩
  refine ⟨sn_iadd (dX_iadd (by decide +kernel)) (by decide +kernel), ?_⟩
  refine ⟨sn_puti (C := RX10) (T := TX10) (N := 12) (idx := 43) rfl pin10 (by decide) (by decide) rfl tyX10 tyX10_ok nmX10 rfl rfl (by decide +kernel) (pmt1 215 rfl (by decide +kernel)) rfl (dX_putfield (by decide +kernel)) (by decide +kernel), ?_⟩
  refine ⟨sn_iinc (dX_iinc (by decide +kernel)) (by decide) (by decide +kernel), ?_⟩
  refine ⟨sn_goto (off := -62) (dX_goto (by decide +kernel)) (by decide +kernel), ?_⟩
  refine ⟨sn_vret rfl (dX_return (by decide +kernel)), ?_⟩
  trivial
set_option maxRecDepth 100000 in
set_option maxHeartbeats 4000000 in
theorem S_161 : pAll (pSk RX10 cX10_lessen 3 none PC_161) 0 C_161 := by
  refine ⟨sn_iload_n (k := 1) (dX_iload_1 (by decide +kernel)) rfl (by decide +kernel), ?_⟩
  refine ⟨sn_if_lt (off := 21) (dX_iflt (by decide +kernel)) (by decide +kernel) (by decide +kernel), ?_⟩
  refine ⟨sn_iload_n (k := 1) (dX_iload_1 (by decide +kernel)) rfl (by decide +kernel), ?_⟩
  refine ⟨sn_aload_n (k := 0) (dX_aload_0 (by decide +kernel)) rfl (by decide +kernel), ?_⟩
  refine ⟨sn_getf (C := RX10) (T := TX10) (N := 12) (idx := 42) rfl pin10 (by decide) (by decide) rfl (pmt1 214 rfl (by decide +kernel)) rfl (dX_getfield (by decide +kernel)) (by decide +kernel), ?_⟩
  refine ⟨sn_icmp_ge (off := 13) (dX_if_icmpge (by decide +kernel)) (by decide +kernel) (by decide +kernel), ?_⟩
  refine ⟨sn_aload_n (k := 0) (dX_aload_0 (by decide +kernel)) rfl (by decide +kernel), ?_⟩
  refine ⟨sn_getf (C := RX10) (T := TX10) (N := 12) (idx := 9) rfl pin10 (by decide) (by decide) rfl (pmt1 205 rfl (by decide +kernel)) rfl (dX_getfield (by decide +kernel)) (by decide +kernel), ?_⟩
  refine ⟨sn_iload_n (k := 1) (dX_iload_1 (by decide +kernel)) rfl (by decide +kernel), ?_⟩
  refine ⟨sn_dup2 (dX_dup2 (by decide +kernel)) (by decide +kernel), ?_⟩
  refine ⟨sn_iald (dX_iaload (by decide +kernel)) (by decide +kernel), ?_⟩
  refine ⟨sn_iload_n (k := 2) (dX_iload_2 (by decide +kernel)) rfl (by decide +kernel), ?_⟩
  refine ⟨sn_isub (dX_isub (by decide +kernel)) (by decide +kernel), ?_⟩
  refine ⟨sn_iast (dX_iastore (by decide +kernel)) (by decide +kernel), ?_⟩
  refine ⟨sn_vret rfl (dX_return (by decide +kernel)), ?_⟩
  trivial
set_option maxRecDepth 100000 in
set_option maxHeartbeats 4000000 in
theorem S_162 : pAll (pSk RX10 cX10_add 4 none PC_162) 0 C_162 := by
  refine ⟨sn_iload_n (k := 1) (dX_iload_1 (by decide +kernel)) rfl (by decide +kernel), ?_⟩
  refine ⟨sn_if_lt (off := 34) (dX_iflt (by decide +kernel)) (by decide +kernel) (by decide +kernel), ?_⟩
  refine ⟨sn_iload_n (k := 1) (dX_iload_1 (by decide +kernel)) rfl (by decide +kernel), ?_⟩
  refine ⟨sn_bipush (dX_bipush (by decide +kernel)) (by decide +kernel) (by decide +kernel), ?_⟩
  refine ⟨sn_icmp_ge (off := 28) (dX_if_icmpge (by decide +kernel)) (by decide +kernel) (by decide +kernel), ?_⟩
  refine ⟨sn_iload_n (k := 2) (dX_iload_2 (by decide +kernel)) rfl (by decide +kernel), ?_⟩
  refine ⟨sn_if_lt (off := 24) (dX_iflt (by decide +kernel)) (by decide +kernel) (by decide +kernel), ?_⟩
  refine ⟨sn_iload_n (k := 2) (dX_iload_2 (by decide +kernel)) rfl (by decide +kernel), ?_⟩
  refine ⟨sn_bipush (dX_bipush (by decide +kernel)) (by decide +kernel) (by decide +kernel), ?_⟩
  refine ⟨sn_icmp_ge (off := 18) (dX_if_icmpge (by decide +kernel)) (by decide +kernel) (by decide +kernel), ?_⟩
  refine ⟨sn_aload_n (k := 0) (dX_aload_0 (by decide +kernel)) rfl (by decide +kernel), ?_⟩
  refine ⟨sn_getf (C := RX10) (T := TX10) (N := 12) (idx := 24) rfl pin10 (by decide) (by decide) rfl (pmt1 211 rfl (by decide +kernel)) rfl (dX_getfield (by decide +kernel)) (by decide +kernel), ?_⟩
  refine ⟨sn_iload_n (k := 1) (dX_iload_1 (by decide +kernel)) rfl (by decide +kernel), ?_⟩
  refine ⟨sn_bipush (dX_bipush (by decide +kernel)) (by decide +kernel) (by decide +kernel), ?_⟩
  refine ⟨sn_imul (dX_imul (by decide +kernel)) (by decide +kernel), ?_⟩
  refine ⟨sn_iload_n (k := 2) (dX_iload_2 (by decide +kernel)) rfl (by decide +kernel), ?_⟩
  refine ⟨sn_iadd (dX_iadd (by decide +kernel)) (by decide +kernel), ?_⟩
  refine ⟨sn_dup2 (dX_dup2 (by decide +kernel)) (by decide +kernel), ?_⟩
  refine ⟨sn_iald (dX_iaload (by decide +kernel)) (by decide +kernel), ?_⟩
  refine ⟨sn_iload_n (k := 3) (dX_iload_3 (by decide +kernel)) rfl (by decide +kernel), ?_⟩
  refine ⟨sn_iadd (dX_iadd (by decide +kernel)) (by decide +kernel), ?_⟩
  refine ⟨sn_iast (dX_iastore (by decide +kernel)) (by decide +kernel), ?_⟩
  refine ⟨sn_vret rfl (dX_return (by decide +kernel)), ?_⟩
  trivial
set_option maxRecDepth 100000 in
set_option maxHeartbeats 4000000 in
theorem S_163 : pAll (pSk RX10 cX10_next 3 (some .boolean) PC_163) 0 C_163 := by
  refine ⟨sn_aload_n (k := 0) (dX_aload_0 (by decide +kernel)) rfl (by decide +kernel), ?_⟩
  refine ⟨sn_getf (C := RX10) (T := TX10) (N := 12) (idx := 50) rfl pin10 (by decide) (by decide) rfl (pmt1 217 rfl (by decide +kernel)) rfl (dX_getfield (by decide +kernel)) (by decide +kernel), ?_⟩
  refine ⟨sn_if_eq (off := 5) (dX_ifeq (by decide +kernel)) (by decide +kernel) (by decide +kernel), ?_⟩
  refine ⟨sn_iconst (dX_iconst_0 (by decide +kernel)) (by decide +kernel), ?_⟩
  refine ⟨sn_zret (Or.inl rfl) (dX_ireturn (by decide +kernel)), ?_⟩
  refine ⟨sn_aload_n (k := 0) (dX_aload_0 (by decide +kernel)) rfl (by decide +kernel), ?_⟩
  refine ⟨sn_getf (C := RX10) (T := TX10) (N := 12) (idx := 46) rfl pin10 (by decide) (by decide) rfl (pmt1 216 rfl (by decide +kernel)) rfl (dX_getfield (by decide +kernel)) (by decide +kernel), ?_⟩
  refine ⟨sn_if_eq (off := 12) (dX_ifeq (by decide +kernel)) (by decide +kernel) (by decide +kernel), ?_⟩
  refine ⟨sn_aload_n (k := 0) (dX_aload_0 (by decide +kernel)) rfl (by decide +kernel), ?_⟩
  refine ⟨sn_getf (C := RX10) (T := TX10) (N := 12) (idx := 43) rfl pin10 (by decide) (by decide) rfl (pmt1 215 rfl (by decide +kernel)) rfl (dX_getfield (by decide +kernel)) (by decide +kernel), ?_⟩
  refine ⟨sn_iconst (dX_iconst_1 (by decide +kernel)) (by decide +kernel), ?_⟩
  refine ⟨sn_isub (dX_isub (by decide +kernel)) (by decide +kernel), ?_⟩
  refine ⟨sn_goto (off := 15) (dX_goto (by decide +kernel)) (by decide +kernel), ?_⟩
  refine ⟨sn_aload_n (k := 0) (dX_aload_0 (by decide +kernel)) rfl (by decide +kernel), ?_⟩
  refine ⟨sn_callV (idx := 69) (C := RX10) (T := TX10) (N := 12) rfl (by decide) cal_164 (pmt4 203 rfl (by decide +kernel)) (pmt4 205 rfl (by decide +kernel)) (pms 22 rfl rfl) (dX_invokevirtual (by decide +kernel)) (by decide +kernel), ?_⟩
  refine ⟨sn_if_eq (off := 7) (dX_ifeq (by decide +kernel)) (by decide +kernel) (by decide +kernel), ?_⟩
  refine ⟨sn_iconst (dX_iconst_0 (by decide +kernel)) (by decide +kernel), ?_⟩
  refine ⟨sn_goto (off := 4) (dX_goto (by decide +kernel)) (by decide +kernel), ?_⟩
  refine ⟨sn_iconst (dX_iconst_m1 (by decide +kernel)) (by decide +kernel), ?_⟩
  refine ⟨sn_istore_n (k := 1) (dX_istore_1 (by decide +kernel)) rfl (by decide) (by decide +kernel), ?_⟩
  refine ⟨sn_aload_n (k := 0) (dX_aload_0 (by decide +kernel)) rfl (by decide +kernel), ?_⟩
  refine ⟨sn_iconst (dX_iconst_1 (by decide +kernel)) (by decide +kernel), ?_⟩
  refine ⟨sn_putz (C := RX10) (T := TX10) (N := 12) (idx := 46) rfl pin10 (by decide) (by decide) rfl tyX10 tyX10_ok nmX10 rfl rfl (by decide +kernel) (pmt1 216 rfl (by decide +kernel)) rfl (dX_putfield (by decide +kernel)) (by decide +kernel), ?_⟩
  refine ⟨sn_iconst (dX_iconst_0 (by decide +kernel)) (by decide +kernel), ?_⟩
  refine ⟨sn_istore_n (k := 2) (dX_istore_2 (by decide +kernel)) rfl (by decide) (by decide +kernel), ?_⟩
  refine ⟨sn_iload_n (k := 2) (dX_iload_2 (by decide +kernel)) rfl (by decide +kernel), ?_⟩
  refine ⟨sn_ldc (idx := 73) (dX_ldc (by decide +kernel)) (pmt4 198 rfl (by decide +kernel)) (by decide +kernel), ?_⟩
  refine ⟨sn_icmp_ge (off := 39) (dX_if_icmpge (by decide +kernel)) (by decide +kernel) (by decide +kernel), ?_⟩
  refine ⟨sn_iload_n (k := 1) (dX_iload_1 (by decide +kernel)) rfl (by decide +kernel), ?_⟩
  refine ⟨sn_if_lt (off := 35) (dX_iflt (by decide +kernel)) (by decide +kernel) (by decide +kernel), ?_⟩
  refine ⟨sn_iload_n (k := 1) (dX_iload_1 (by decide +kernel)) rfl (by decide +kernel), ?_⟩
  refine ⟨sn_aload_n (k := 0) (dX_aload_0 (by decide +kernel)) rfl (by decide +kernel), ?_⟩
  refine ⟨sn_getf (C := RX10) (T := TX10) (N := 12) (idx := 43) rfl pin10 (by decide) (by decide) rfl (pmt1 215 rfl (by decide +kernel)) rfl (dX_getfield (by decide +kernel)) (by decide +kernel), ?_⟩
  refine ⟨sn_icmp_ge (off := 27) (dX_if_icmpge (by decide +kernel)) (by decide +kernel) (by decide +kernel), ?_⟩
  refine ⟨sn_aload_n (k := 0) (dX_aload_0 (by decide +kernel)) rfl (by decide +kernel), ?_⟩
  refine ⟨sn_iload_n (k := 1) (dX_iload_1 (by decide +kernel)) rfl (by decide +kernel), ?_⟩
  refine ⟨sn_callV (idx := 74) (C := RX10) (T := TX10) (N := 12) rfl (by decide) cal_165 (pmt4 207 rfl (by decide +kernel)) (pmt4 209 rfl (by decide +kernel)) (pms 23 rfl rfl) (dX_invokevirtual (by decide +kernel)) (by decide +kernel), ?_⟩
  refine ⟨sn_if_eq (off := 9) (dX_ifeq (by decide +kernel)) (by decide +kernel) (by decide +kernel), ?_⟩
  refine ⟨sn_iload_n (k := 1) (dX_iload_1 (by decide +kernel)) rfl (by decide +kernel), ?_⟩
  refine ⟨sn_iconst (dX_iconst_1 (by decide +kernel)) (by decide +kernel), ?_⟩
  refine ⟨sn_iadd (dX_iadd (by decide +kernel)) (by decide +kernel), ?_⟩
  refine ⟨sn_goto (off := 6) (dX_goto (by decide +kernel)) (by decide +kernel), ?_⟩
  refine ⟨sn_iload_n (k := 1) (dX_iload_1 (by decide +kernel)) rfl (by decide +kernel), ?_⟩
  refine ⟨sn_iconst (dX_iconst_1 (by decide +kernel)) (by decide +kernel), ?_⟩
  refine ⟨sn_isub (dX_isub (by decide +kernel)) (by decide +kernel), ?_⟩
  refine ⟨sn_istore_n (k := 1) (dX_istore_1 (by decide +kernel)) rfl (by decide) (by decide +kernel), ?_⟩
  refine ⟨sn_iinc (dX_iinc (by decide +kernel)) (by decide) (by decide +kernel), ?_⟩
  refine ⟨sn_goto (off := -39) (dX_goto (by decide +kernel)) (by decide +kernel), ?_⟩
  refine ⟨sn_aload_n (k := 0) (dX_aload_0 (by decide +kernel)) rfl (by decide +kernel), ?_⟩
  refine ⟨sn_iload_n (k := 1) (dX_iload_1 (by decide +kernel)) rfl (by decide +kernel), ?_⟩
  refine ⟨sn_aload_n (k := 0) (dX_aload_0 (by decide +kernel)) rfl (by decide +kernel), ?_⟩
  refine ⟨sn_getf (C := RX10) (T := TX10) (N := 12) (idx := 43) rfl pin10 (by decide) (by decide) rfl (pmt1 215 rfl (by decide +kernel)) rfl (dX_getfield (by decide +kernel)) (by decide +kernel), ?_⟩
  refine ⟨sn_icmp_eq (off := 7) (dX_if_icmpeq (by decide +kernel)) (by decide +kernel) (by decide +kernel), ?_⟩
  refine ⟨sn_iconst (dX_iconst_1 (by decide +kernel)) (by decide +kernel), ?_⟩
  refine ⟨sn_goto (off := 4) (dX_goto (by decide +kernel)) (by decide +kernel), ?_⟩
  refine ⟨sn_iconst (dX_iconst_0 (by decide +kernel)) (by decide +kernel), ?_⟩
  refine ⟨sn_putz (C := RX10) (T := TX10) (N := 12) (idx := 50) rfl pin10 (by decide) (by decide) rfl tyX10 tyX10_ok nmX10 rfl rfl (by decide +kernel) (pmt1 217 rfl (by decide +kernel)) rfl (dX_putfield (by decide +kernel)) (by decide +kernel), ?_⟩
  refine ⟨sn_aload_n (k := 0) (dX_aload_0 (by decide +kernel)) rfl (by decide +kernel), ?_⟩
  refine ⟨sn_getf (C := RX10) (T := TX10) (N := 12) (idx := 50) rfl pin10 (by decide) (by decide) rfl (pmt1 217 rfl (by decide +kernel)) rfl (dX_getfield (by decide +kernel)) (by decide +kernel), ?_⟩
  refine ⟨sn_if_ne (off := 7) (dX_ifne (by decide +kernel)) (by decide +kernel) (by decide +kernel), ?_⟩
  refine ⟨sn_iconst (dX_iconst_1 (by decide +kernel)) (by decide +kernel), ?_⟩
  refine ⟨sn_goto (off := 4) (dX_goto (by decide +kernel)) (by decide +kernel), ?_⟩
  refine ⟨sn_iconst (dX_iconst_0 (by decide +kernel)) (by decide +kernel), ?_⟩
  refine ⟨sn_zret (Or.inl rfl) (dX_ireturn (by decide +kernel)), ?_⟩
  trivial
set_option maxRecDepth 100000 in
set_option maxHeartbeats 4000000 in
theorem S_164 : pAll (pSk RX10 cX10_isRoomEnough 3 (some .boolean) PC_164) 0 C_164 := by
  refine ⟨sn_iconst (dX_iconst_0 (by decide +kernel)) (by decide +kernel), ?_⟩
  refine ⟨sn_istore_n (k := 1) (dX_istore_1 (by decide +kernel)) rfl (by decide) (by decide +kernel), ?_⟩
  refine ⟨sn_iconst (dX_iconst_0 (by decide +kernel)) (by decide +kernel), ?_⟩
  refine ⟨sn_istore_n (k := 2) (dX_istore_2 (by decide +kernel)) rfl (by decide) (by decide +kernel), ?_⟩
  refine ⟨sn_iload_n (k := 2) (dX_iload_2 (by decide +kernel)) rfl (by decide +kernel), ?_⟩
  refine ⟨sn_aload_n (k := 0) (dX_aload_0 (by decide +kernel)) rfl (by decide +kernel), ?_⟩
  refine ⟨sn_getf (C := RX10) (T := TX10) (N := 12) (idx := 42) rfl pin10 (by decide) (by decide) rfl (pmt1 214 rfl (by decide +kernel)) rfl (dX_getfield (by decide +kernel)) (by decide +kernel), ?_⟩
  refine ⟨sn_icmp_ge (off := 29) (dX_if_icmpge (by decide +kernel)) (by decide +kernel) (by decide +kernel), ?_⟩
  refine ⟨sn_aload_n (k := 0) (dX_aload_0 (by decide +kernel)) rfl (by decide +kernel), ?_⟩
  refine ⟨sn_getf (C := RX10) (T := TX10) (N := 12) (idx := 9) rfl pin10 (by decide) (by decide) rfl (pmt1 205 rfl (by decide +kernel)) rfl (dX_getfield (by decide +kernel)) (by decide +kernel), ?_⟩
  refine ⟨sn_iload_n (k := 2) (dX_iload_2 (by decide +kernel)) rfl (by decide +kernel), ?_⟩
  refine ⟨sn_iald (dX_iaload (by decide +kernel)) (by decide +kernel), ?_⟩
  refine ⟨sn_if_ge (off := 5) (dX_ifge (by decide +kernel)) (by decide +kernel) (by decide +kernel), ?_⟩
  refine ⟨sn_iconst (dX_iconst_0 (by decide +kernel)) (by decide +kernel), ?_⟩
  refine ⟨sn_zret (Or.inl rfl) (dX_ireturn (by decide +kernel)), ?_⟩
  refine ⟨sn_iload_n (k := 1) (dX_iload_1 (by decide +kernel)) rfl (by decide +kernel), ?_⟩
  refine ⟨sn_aload_n (k := 0) (dX_aload_0 (by decide +kernel)) rfl (by decide +kernel), ?_⟩
  refine ⟨sn_getf (C := RX10) (T := TX10) (N := 12) (idx := 9) rfl pin10 (by decide) (by decide) rfl (pmt1 205 rfl (by decide +kernel)) rfl (dX_getfield (by decide +kernel)) (by decide +kernel), ?_⟩
  refine ⟨sn_iload_n (k := 2) (dX_iload_2 (by decide +kernel)) rfl (by decide +kernel), ?_⟩
  refine ⟨sn_iald (dX_iaload (by decide +kernel)) (by decide +kernel), ?_⟩
  refine ⟨sn_iadd (dX_iadd (by decide +kernel)) (by decide +kernel), ?_⟩
  refine ⟨sn_istore_n (k := 1) (dX_istore_1 (by decide +kernel)) rfl (by decide) (by decide +kernel), ?_⟩
  refine ⟨sn_iinc (dX_iinc (by decide +kernel)) (by decide) (by decide +kernel), ?_⟩
  refine ⟨sn_goto (off := -31) (dX_goto (by decide +kernel)) (by decide +kernel), ?_⟩
  refine ⟨sn_iconst (dX_iconst_0 (by decide +kernel)) (by decide +kernel), ?_⟩
  refine ⟨sn_istore_n (k := 2) (dX_istore_2 (by decide +kernel)) rfl (by decide) (by decide +kernel), ?_⟩
  refine ⟨sn_iload_n (k := 2) (dX_iload_2 (by decide +kernel)) rfl (by decide +kernel), ?_⟩
  refine ⟨sn_aload_n (k := 0) (dX_aload_0 (by decide +kernel)) rfl (by decide +kernel), ?_⟩
  refine ⟨sn_getf (C := RX10) (T := TX10) (N := 12) (idx := 43) rfl pin10 (by decide) (by decide) rfl (pmt1 215 rfl (by decide +kernel)) rfl (dX_getfield (by decide +kernel)) (by decide +kernel), ?_⟩
  refine ⟨sn_icmp_ge (off := 18) (dX_if_icmpge (by decide +kernel)) (by decide +kernel) (by decide +kernel), ?_⟩
  refine ⟨sn_iload_n (k := 1) (dX_iload_1 (by decide +kernel)) rfl (by decide +kernel), ?_⟩
  refine ⟨sn_aload_n (k := 0) (dX_aload_0 (by decide +kernel)) rfl (by decide +kernel), ?_⟩
  refine ⟨sn_getf (C := RX10) (T := TX10) (N := 12) (idx := 18) rfl pin10 (by decide) (by decide) rfl (pmt1 207 rfl (by decide +kernel)) rfl (dX_getfield (by decide +kernel)) (by decide +kernel), ?_⟩
  refine ⟨sn_iload_n (k := 2) (dX_iload_2 (by decide +kernel)) rfl (by decide +kernel), ?_⟩
  refine ⟨sn_iald (dX_iaload (by decide +kernel)) (by decide +kernel), ?_⟩
  refine ⟨sn_isub (dX_isub (by decide +kernel)) (by decide +kernel), ?_⟩
  refine ⟨sn_istore_n (k := 1) (dX_istore_1 (by decide +kernel)) rfl (by decide) (by decide +kernel), ?_⟩
  refine ⟨sn_iinc (dX_iinc (by decide +kernel)) (by decide) (by decide +kernel), ?_⟩
  refine ⟨sn_goto (off := -20) (dX_goto (by decide +kernel)) (by decide +kernel), ?_⟩
  refine ⟨sn_iload_n (k := 1) (dX_iload_1 (by decide +kernel)) rfl (by decide +kernel), ?_⟩
  refine ⟨sn_if_lt (off := 7) (dX_iflt (by decide +kernel)) (by decide +kernel) (by decide +kernel), ?_⟩
  refine ⟨sn_iconst (dX_iconst_1 (by decide +kernel)) (by decide +kernel), ?_⟩
  refine ⟨sn_goto (off := 4) (dX_goto (by decide +kernel)) (by decide +kernel), ?_⟩
  refine ⟨sn_iconst (dX_iconst_0 (by decide +kernel)) (by decide +kernel), ?_⟩
  refine ⟨sn_zret (Or.inl rfl) (dX_ireturn (by decide +kernel)), ?_⟩
  trivial
set_option maxRecDepth 100000 in
set_option maxHeartbeats 4000000 in
theorem S_165 : pAll (pSk RX10 cX10_shift 4 (some .boolean) PC_165) 0 C_165 := by
  refine ⟨sn_aload_n (k := 0) (dX_aload_0 (by decide +kernel)) rfl (by decide +kernel), ?_⟩
  refine ⟨sn_getf (C := RX10) (T := TX10) (N := 12) (idx := 21) rfl pin10 (by decide) (by decide) rfl (pmt1 208 rfl (by decide +kernel)) rfl (dX_getfield (by decide +kernel)) (by decide +kernel), ?_⟩
  refine ⟨sn_iload_n (k := 1) (dX_iload_1 (by decide +kernel)) rfl (by decide +kernel), ?_⟩
  refine ⟨sn_iald (dX_iaload (by decide +kernel)) (by decide +kernel), ?_⟩
  refine ⟨sn_istore_n (k := 2) (dX_istore_2 (by decide +kernel)) rfl (by decide) (by decide +kernel), ?_⟩
  refine ⟨sn_iload_n (k := 2) (dX_iload_2 (by decide +kernel)) rfl (by decide +kernel), ?_⟩
  refine ⟨sn_if_lt (off := 26) (dX_iflt (by decide +kernel)) (by decide +kernel) (by decide +kernel), ?_⟩
  refine ⟨sn_iload_n (k := 2) (dX_iload_2 (by decide +kernel)) rfl (by decide +kernel), ?_⟩
  refine ⟨sn_aload_n (k := 0) (dX_aload_0 (by decide +kernel)) rfl (by decide +kernel), ?_⟩
  refine ⟨sn_getf (C := RX10) (T := TX10) (N := 12) (idx := 42) rfl pin10 (by decide) (by decide) rfl (pmt1 214 rfl (by decide +kernel)) rfl (dX_getfield (by decide +kernel)) (by decide +kernel), ?_⟩
  refine ⟨sn_icmp_ge (off := 18) (dX_if_icmpge (by decide +kernel)) (by decide +kernel) (by decide +kernel), ?_⟩
  refine ⟨sn_aload_n (k := 0) (dX_aload_0 (by decide +kernel)) rfl (by decide +kernel), ?_⟩
  refine ⟨sn_getf (C := RX10) (T := TX10) (N := 12) (idx := 15) rfl pin10 (by decide) (by decide) rfl (pmt1 206 rfl (by decide +kernel)) rfl (dX_getfield (by decide +kernel)) (by decide +kernel), ?_⟩
  refine ⟨sn_iload_n (k := 2) (dX_iload_2 (by decide +kernel)) rfl (by decide +kernel), ?_⟩
  refine ⟨sn_dup2 (dX_dup2 (by decide +kernel)) (by decide +kernel), ?_⟩
  refine ⟨sn_iald (dX_iaload (by decide +kernel)) (by decide +kernel), ?_⟩
  refine ⟨sn_aload_n (k := 0) (dX_aload_0 (by decide +kernel)) rfl (by decide +kernel), ?_⟩
  refine ⟨sn_getf (C := RX10) (T := TX10) (N := 12) (idx := 18) rfl pin10 (by decide) (by decide) rfl (pmt1 207 rfl (by decide +kernel)) rfl (dX_getfield (by decide +kernel)) (by decide +kernel), ?_⟩
  refine ⟨sn_iload_n (k := 1) (dX_iload_1 (by decide +kernel)) rfl (by decide +kernel), ?_⟩
  refine ⟨sn_iald (dX_iaload (by decide +kernel)) (by decide +kernel), ?_⟩
  refine ⟨sn_isub (dX_isub (by decide +kernel)) (by decide +kernel), ?_⟩
  refine ⟨sn_iast (dX_iastore (by decide +kernel)) (by decide +kernel), ?_⟩
  refine ⟨sn_iconst (dX_iconst_0 (by decide +kernel)) (by decide +kernel), ?_⟩
  refine ⟨sn_iload_n (k := 2) (dX_iload_2 (by decide +kernel)) rfl (by decide +kernel), ?_⟩
  refine ⟨sn_iconst (dX_iconst_1 (by decide +kernel)) (by decide +kernel), ?_⟩
  refine ⟨sn_iadd (dX_iadd (by decide +kernel)) (by decide +kernel), ?_⟩
  refine ⟨sn_mmax (idx := 78) (pmt4 211 rfl (by decide +kernel)) (pmt3 154 rfl (by decide +kernel)) (pmt1 14 rfl (by decide +kernel)) (pmt3 155 rfl (by decide +kernel)) (dX_invokestatic (by decide +kernel)) (by decide +kernel), ?_⟩
  refine ⟨sn_istore_n (k := 3) (dX_istore_3 (by decide +kernel)) rfl (by decide) (by decide +kernel), ?_⟩
  refine ⟨sn_iload_n (k := 3) (dX_iload_3 (by decide +kernel)) rfl (by decide +kernel), ?_⟩
  refine ⟨sn_aload_n (k := 0) (dX_aload_0 (by decide +kernel)) rfl (by decide +kernel), ?_⟩
  refine ⟨sn_getf (C := RX10) (T := TX10) (N := 12) (idx := 42) rfl pin10 (by decide) (by decide) rfl (pmt1 214 rfl (by decide +kernel)) rfl (dX_getfield (by decide +kernel)) (by decide +kernel), ?_⟩
  refine ⟨sn_icmp_ge (off := 55) (dX_if_icmpge (by decide +kernel)) (by decide +kernel) (by decide +kernel), ?_⟩
  refine ⟨sn_aload_n (k := 0) (dX_aload_0 (by decide +kernel)) rfl (by decide +kernel), ?_⟩
  refine ⟨sn_getf (C := RX10) (T := TX10) (N := 12) (idx := 15) rfl pin10 (by decide) (by decide) rfl (pmt1 206 rfl (by decide +kernel)) rfl (dX_getfield (by decide +kernel)) (by decide +kernel), ?_⟩
  refine ⟨sn_iload_n (k := 3) (dX_iload_3 (by decide +kernel)) rfl (by decide +kernel), ?_⟩
  refine ⟨sn_iald (dX_iaload (by decide +kernel)) (by decide +kernel), ?_⟩
  refine ⟨sn_aload_n (k := 0) (dX_aload_0 (by decide +kernel)) rfl (by decide +kernel), ?_⟩
  refine ⟨sn_getf (C := RX10) (T := TX10) (N := 12) (idx := 18) rfl pin10 (by decide) (by decide) rfl (pmt1 207 rfl (by decide +kernel)) rfl (dX_getfield (by decide +kernel)) (by decide +kernel), ?_⟩
  refine ⟨sn_iload_n (k := 1) (dX_iload_1 (by decide +kernel)) rfl (by decide +kernel), ?_⟩
  refine ⟨sn_iald (dX_iaload (by decide +kernel)) (by decide +kernel), ?_⟩
  refine ⟨sn_iadd (dX_iadd (by decide +kernel)) (by decide +kernel), ?_⟩
  refine ⟨sn_aload_n (k := 0) (dX_aload_0 (by decide +kernel)) rfl (by decide +kernel), ?_⟩
  refine ⟨sn_getf (C := RX10) (T := TX10) (N := 12) (idx := 9) rfl pin10 (by decide) (by decide) rfl (pmt1 205 rfl (by decide +kernel)) rfl (dX_getfield (by decide +kernel)) (by decide +kernel), ?_⟩
  refine ⟨sn_iload_n (k := 3) (dX_iload_3 (by decide +kernel)) rfl (by decide +kernel), ?_⟩
  refine ⟨sn_iald (dX_iaload (by decide +kernel)) (by decide +kernel), ?_⟩
  refine ⟨sn_icmp_gt (off := 27) (dX_if_icmpgt (by decide +kernel)) (by decide +kernel) (by decide +kernel), ?_⟩
  refine ⟨sn_aload_n (k := 0) (dX_aload_0 (by decide +kernel)) rfl (by decide +kernel), ?_⟩
  refine ⟨sn_getf (C := RX10) (T := TX10) (N := 12) (idx := 15) rfl pin10 (by decide) (by decide) rfl (pmt1 206 rfl (by decide +kernel)) rfl (dX_getfield (by decide +kernel)) (by decide +kernel), ?_⟩
  refine ⟨sn_iload_n (k := 3) (dX_iload_3 (by decide +kernel)) rfl (by decide +kernel), ?_⟩
  refine ⟨sn_dup2 (dX_dup2 (by decide +kernel)) (by decide +kernel), ?_⟩
  refine ⟨sn_iald (dX_iaload (by decide +kernel)) (by decide +kernel), ?_⟩
  refine ⟨sn_aload_n (k := 0) (dX_aload_0 (by decide +kernel)) rfl (by decide +kernel), ?_⟩
  refine ⟨sn_getf (C := RX10) (T := TX10) (N := 12) (idx := 18) rfl pin10 (by decide) (by decide) rfl (pmt1 207 rfl (by decide +kernel)) rfl (dX_getfield (by decide +kernel)) (by decide +kernel), ?_⟩
  refine ⟨sn_iload_n (k := 1) (dX_iload_1 (by decide +kernel)) rfl (by decide +kernel), ?_⟩
  refine ⟨sn_iald (dX_iaload (by decide +kernel)) (by decide +kernel), ?_⟩
  refine ⟨sn_iadd (dX_iadd (by decide +kernel)) (by decide +kernel), ?_⟩
  refine ⟨sn_iast (dX_iastore (by decide +kernel)) (by decide +kernel), ?_⟩
  refine ⟨sn_aload_n (k := 0) (dX_aload_0 (by decide +kernel)) rfl (by decide +kernel), ?_⟩
  refine ⟨sn_getf (C := RX10) (T := TX10) (N := 12) (idx := 21) rfl pin10 (by decide) (by decide) rfl (pmt1 208 rfl (by decide +kernel)) rfl (dX_getfield (by decide +kernel)) (by decide +kernel), ?_⟩
  refine ⟨sn_iload_n (k := 1) (dX_iload_1 (by decide +kernel)) rfl (by decide +kernel), ?_⟩
  refine ⟨sn_iload_n (k := 3) (dX_iload_3 (by decide +kernel)) rfl (by decide +kernel), ?_⟩
  refine ⟨sn_iast (dX_iastore (by decide +kernel)) (by decide +kernel), ?_⟩
  refine ⟨sn_iconst (dX_iconst_1 (by decide +kernel)) (by decide +kernel), ?_⟩
  refine ⟨sn_zret (Or.inl rfl) (dX_ireturn (by decide +kernel)), ?_⟩
  refine ⟨sn_iinc (dX_iinc (by decide +kernel)) (by decide) (by decide +kernel), ?_⟩
  refine ⟨sn_goto (off := -57) (dX_goto (by decide +kernel)) (by decide +kernel), ?_⟩
  refine ⟨sn_aload_n (k := 0) (dX_aload_0 (by decide +kernel)) rfl (by decide +kernel), ?_⟩
  refine ⟨sn_getf (C := RX10) (T := TX10) (N := 12) (idx := 21) rfl pin10 (by decide) (by decide) rfl (pmt1 208 rfl (by decide +kernel)) rfl (dX_getfield (by decide +kernel)) (by decide +kernel), ?_⟩
  refine ⟨sn_iload_n (k := 1) (dX_iload_1 (by decide +kernel)) rfl (by decide +kernel), ?_⟩
  refine ⟨sn_iconst (dX_iconst_m1 (by decide +kernel)) (by decide +kernel), ?_⟩
  refine ⟨sn_iast (dX_iastore (by decide +kernel)) (by decide +kernel), ?_⟩
  refine ⟨sn_iconst (dX_iconst_0 (by decide +kernel)) (by decide +kernel), ?_⟩
  refine ⟨sn_zret (Or.inl rfl) (dX_ireturn (by decide +kernel)), ?_⟩
  trivial
set_option maxRecDepth 100000 in
set_option maxHeartbeats 4000000 in
theorem S_166 : pAll (pSk RX10 cX10_sum 3 (some .int) PC_166) 0 C_166 := by
  refine ⟨sn_iconst (dX_iconst_0 (by decide +kernel)) (by decide +kernel), ?_⟩
  refine ⟨sn_istore_n (k := 1) (dX_istore_1 (by decide +kernel)) rfl (by decide) (by decide +kernel), ?_⟩
  refine ⟨sn_iconst (dX_iconst_0 (by decide +kernel)) (by decide +kernel), ?_⟩
  refine ⟨sn_istore_n (k := 2) (dX_istore_2 (by decide +kernel)) rfl (by decide) (by decide +kernel), ?_⟩
  refine ⟨sn_iload_n (k := 2) (dX_iload_2 (by decide +kernel)) rfl (by decide +kernel), ?_⟩
  refine ⟨sn_aload_n (k := 0) (dX_aload_0 (by decide +kernel)) rfl (by decide +kernel), ?_⟩
  refine ⟨sn_getf (C := RX10) (T := TX10) (N := 12) (idx := 43) rfl pin10 (by decide) (by decide) rfl (pmt1 215 rfl (by decide +kernel)) rfl (dX_getfield (by decide +kernel)) (by decide +kernel), ?_⟩
  refine ⟨sn_icmp_ge (off := 30) (dX_if_icmpge (by decide +kernel)) (by decide +kernel) (by decide +kernel), ?_⟩
  refine ⟨sn_iload_n (k := 1) (dX_iload_1 (by decide +kernel)) rfl (by decide +kernel), ?_⟩
  refine ⟨sn_aload_n (k := 0) (dX_aload_0 (by decide +kernel)) rfl (by decide +kernel), ?_⟩
  refine ⟨sn_getf (C := RX10) (T := TX10) (N := 12) (idx := 24) rfl pin10 (by decide) (by decide) rfl (pmt1 211 rfl (by decide +kernel)) rfl (dX_getfield (by decide +kernel)) (by decide +kernel), ?_⟩
  refine ⟨sn_iload_n (k := 2) (dX_iload_2 (by decide +kernel)) rfl (by decide +kernel), ?_⟩
  refine ⟨sn_bipush (dX_bipush (by decide +kernel)) (by decide +kernel) (by decide +kernel), ?_⟩
  refine ⟨sn_imul (dX_imul (by decide +kernel)) (by decide +kernel), ?_⟩
  refine ⟨sn_aload_n (k := 0) (dX_aload_0 (by decide +kernel)) rfl (by decide +kernel), ?_⟩
  refine ⟨sn_getf (C := RX10) (T := TX10) (N := 12) (idx := 21) rfl pin10 (by decide) (by decide) rfl (pmt1 208 rfl (by decide +kernel)) rfl (dX_getfield (by decide +kernel)) (by decide +kernel), ?_⟩
  refine ⟨sn_iload_n (k := 2) (dX_iload_2 (by decide +kernel)) rfl (by decide +kernel), ?_⟩
  refine ⟨sn_iald (dX_iaload (by decide +kernel)) (by decide +kernel), ?_⟩
  refine ⟨sn_iadd (dX_iadd (by decide +kernel)) (by decide +kernel), ?_⟩
  refine ⟨sn_callSN (idx := 81) (host := "SetsStayTogether") cal_47 (pnest_of 81) (pmt4 25 rfl (by decide +kernel)) (dX_invokestatic (by decide +kernel)) (by decide +kernel), ?_⟩
  refine ⟨sn_iadd (dX_iadd (by decide +kernel)) (by decide +kernel), ?_⟩
  refine ⟨sn_istore_n (k := 1) (dX_istore_1 (by decide +kernel)) rfl (by decide) (by decide +kernel), ?_⟩
  refine ⟨sn_iinc (dX_iinc (by decide +kernel)) (by decide) (by decide +kernel), ?_⟩
  refine ⟨sn_goto (off := -32) (dX_goto (by decide +kernel)) (by decide +kernel), ?_⟩
  refine ⟨sn_iload_n (k := 1) (dX_iload_1 (by decide +kernel)) rfl (by decide +kernel), ?_⟩
  refine ⟨sn_iret rfl (dX_ireturn (by decide +kernel)), ?_⟩
  trivial
set_option maxRecDepth 100000 in
set_option maxHeartbeats 4000000 in
theorem S_167 : pAll (pSk RX10 cX10_choose 3 (some .boolean) PC_167) 0 C_167 := by
  refine ⟨sn_aload_n (k := 0) (dX_aload_0 (by decide +kernel)) rfl (by decide +kernel), ?_⟩
  refine ⟨sn_iconst (dX_iconst_0 (by decide +kernel)) (by decide +kernel), ?_⟩
  refine ⟨sn_puti (C := RX10) (T := TX10) (N := 12) (idx := 85) rfl pin10 (by decide) (by decide) rfl tyX10 tyX10_ok nmX10 rfl rfl (by decide +kernel) (pmt1 220 rfl (by decide +kernel)) rfl (dX_putfield (by decide +kernel)) (by decide +kernel), ?_⟩
  refine ⟨sn_aload_n (k := 0) (dX_aload_0 (by decide +kernel)) rfl (by decide +kernel), ?_⟩
  refine ⟨sn_iconst (dX_iconst_0 (by decide +kernel)) (by decide +kernel), ?_⟩
  refine ⟨sn_puti (C := RX10) (T := TX10) (N := 12) (idx := 88) rfl pin10 (by decide) (by decide) rfl tyX10 tyX10_ok nmX10 rfl rfl (by decide +kernel) (pmt1 218 rfl (by decide +kernel)) rfl (dX_putfield (by decide +kernel)) (by decide +kernel), ?_⟩
  refine ⟨sn_iconst (dX_iconst_0 (by decide +kernel)) (by decide +kernel), ?_⟩
  refine ⟨sn_istore_n (k := 1) (dX_istore_1 (by decide +kernel)) rfl (by decide) (by decide +kernel), ?_⟩
  refine ⟨sn_iload_n (k := 1) (dX_iload_1 (by decide +kernel)) rfl (by decide +kernel), ?_⟩
  refine ⟨sn_ldc (idx := 73) (dX_ldc (by decide +kernel)) (pmt4 198 rfl (by decide +kernel)) (by decide +kernel), ?_⟩
  refine ⟨sn_icmp_ge (off := 62) (dX_if_icmpge (by decide +kernel)) (by decide +kernel) (by decide +kernel), ?_⟩
  refine ⟨sn_aload_n (k := 0) (dX_aload_0 (by decide +kernel)) rfl (by decide +kernel), ?_⟩
  refine ⟨sn_callV (idx := 91) (C := RX10) (T := TX10) (N := 12) rfl (by decide) cal_163 (pmt4 199 rfl (by decide +kernel)) (pmt4 200 rfl (by decide +kernel)) (pmt4 201 rfl (by decide +kernel)) (dX_invokevirtual (by decide +kernel)) (by decide +kernel), ?_⟩
  refine ⟨sn_if_eq (off := 55) (dX_ifeq (by decide +kernel)) (by decide +kernel) (by decide +kernel), ?_⟩
  refine ⟨sn_aload_n (k := 0) (dX_aload_0 (by decide +kernel)) rfl (by decide +kernel), ?_⟩
  refine ⟨sn_callV (idx := 94) (C := RX10) (T := TX10) (N := 12) rfl (by decide) cal_166 (pmt4 212 rfl (by decide +kernel)) (pmt4 214 rfl (by decide +kernel)) (pms 24 rfl rfl) (dX_invokevirtual (by decide +kernel)) (by decide +kernel), ?_⟩
  refine ⟨sn_istore_n (k := 2) (dX_istore_2 (by decide +kernel)) rfl (by decide) (by decide +kernel), ?_⟩
  refine ⟨sn_aload_n (k := 0) (dX_aload_0 (by decide +kernel)) rfl (by decide +kernel), ?_⟩
  refine ⟨sn_getf (C := RX10) (T := TX10) (N := 12) (idx := 85) rfl pin10 (by decide) (by decide) rfl (pmt1 220 rfl (by decide +kernel)) rfl (dX_getfield (by decide +kernel)) (by decide +kernel), ?_⟩
  refine ⟨sn_if_eq (off := 11) (dX_ifeq (by decide +kernel)) (by decide +kernel) (by decide +kernel), ?_⟩
  refine ⟨sn_iload_n (k := 2) (dX_iload_2 (by decide +kernel)) rfl (by decide +kernel), ?_⟩
  refine ⟨sn_aload_n (k := 0) (dX_aload_0 (by decide +kernel)) rfl (by decide +kernel), ?_⟩
  refine ⟨sn_getf (C := RX10) (T := TX10) (N := 12) (idx := 88) rfl pin10 (by decide) (by decide) rfl (pmt1 218 rfl (by decide +kernel)) rfl (dX_getfield (by decide +kernel)) (by decide +kernel), ?_⟩
  refine ⟨sn_icmp_le (off := 19) (dX_if_icmple (by decide +kernel)) (by decide +kernel) (by decide +kernel), ?_⟩
  refine ⟨sn_aload_n (k := 0) (dX_aload_0 (by decide +kernel)) rfl (by decide +kernel), ?_⟩
  refine ⟨sn_iload_n (k := 2) (dX_iload_2 (by decide +kernel)) rfl (by decide +kernel), ?_⟩
  refine ⟨sn_puti (C := RX10) (T := TX10) (N := 12) (idx := 88) rfl pin10 (by decide) (by decide) rfl tyX10 tyX10_ok nmX10 rfl rfl (by decide +kernel) (pmt1 218 rfl (by decide +kernel)) rfl (dX_putfield (by decide +kernel)) (by decide +kernel), ?_⟩
  refine ⟨sn_aload_n (k := 0) (dX_aload_0 (by decide +kernel)) rfl (by decide +kernel), ?_⟩
  refine ⟨sn_getf (C := RX10) (T := TX10) (N := 12) (idx := 21) rfl pin10 (by decide) (by decide) rfl (pmt1 208 rfl (by decide +kernel)) rfl (dX_getfield (by decide +kernel)) (by decide +kernel), ?_⟩
  refine ⟨sn_aload_n (k := 0) (dX_aload_0 (by decide +kernel)) rfl (by decide +kernel), ?_⟩
  refine ⟨sn_getf (C := RX10) (T := TX10) (N := 12) (idx := 27) rfl pin10 (by decide) (by decide) rfl (pmt1 212 rfl (by decide +kernel)) rfl (dX_getfield (by decide +kernel)) (by decide +kernel), ?_⟩
  refine ⟨sn_callSN (idx := 54) (host := "SetsStayTogether") cal_48 (pnest_of 54) (pmt2 200 rfl (by decide +kernel)) (dX_invokestatic (by decide +kernel)) (by decide +kernel), ?_⟩
  refine ⟨sn_aload_n (k := 0) (dX_aload_0 (by decide +kernel)) rfl (by decide +kernel), ?_⟩
  refine ⟨sn_dup (dX_dup (by decide +kernel)) (by decide +kernel), ?_⟩
  refine ⟨sn_getf (C := RX10) (T := TX10) (N := 12) (idx := 85) rfl pin10 (by decide) (by decide) rfl (pmt1 220 rfl (by decide +kernel)) rfl (dX_getfield (by decide +kernel)) (by decide +kernel), ?_⟩
  refine ⟨sn_iconst (dX_iconst_1 (by decide +kernel)) (by decide +kernel), ?_⟩
  refine ⟨sn_iadd (dX_iadd (by decide +kernel)) (by decide +kernel), ?_⟩
  refine ⟨sn_puti (C := RX10) (T := TX10) (N := 12) (idx := 85) rfl pin10 (by decide) (by decide) rfl tyX10 tyX10_ok nmX10 rfl rfl (by decide +kernel) (pmt1 220 rfl (by decide +kernel)) rfl (dX_putfield (by decide +kernel)) (by decide +kernel), ?_⟩
  refine ⟨sn_iinc (dX_iinc (by decide +kernel)) (by decide) (by decide +kernel), ?_⟩
  refine ⟨sn_goto (off := -62) (dX_goto (by decide +kernel)) (by decide +kernel), ?_⟩
  refine ⟨sn_aload_n (k := 0) (dX_aload_0 (by decide +kernel)) rfl (by decide +kernel), ?_⟩
  refine ⟨sn_getf (C := RX10) (T := TX10) (N := 12) (idx := 85) rfl pin10 (by decide) (by decide) rfl (pmt1 220 rfl (by decide +kernel)) rfl (dX_getfield (by decide +kernel)) (by decide +kernel), ?_⟩
  refine ⟨sn_if_le (off := 7) (dX_ifle (by decide +kernel)) (by decide +kernel) (by decide +kernel), ?_⟩
  refine ⟨sn_iconst (dX_iconst_1 (by decide +kernel)) (by decide +kernel), ?_⟩
  refine ⟨sn_goto (off := 4) (dX_goto (by decide +kernel)) (by decide +kernel), ?_⟩
  refine ⟨sn_iconst (dX_iconst_0 (by decide +kernel)) (by decide +kernel), ?_⟩
  refine ⟨sn_zret (Or.inl rfl) (dX_ireturn (by decide +kernel)), ?_⟩
  trivial
set_option maxRecDepth 100000 in
set_option maxHeartbeats 4000000 in
theorem S_168 : pAll (pSk RX12 cX12_lost 1 (some .int) PC_168) 0 C_168 := by
  refine ⟨sn_aload_n (k := 0) (dX_aload_0 (by decide +kernel)) rfl (by decide +kernel), ?_⟩
  refine ⟨sn_iconst (dX_iconst_1 (by decide +kernel)) (by decide +kernel), ?_⟩
  refine ⟨sn_puti (C := RX12) (T := TX12) (N := 56) (idx := 107) rfl pin12 (by decide) (by decide) rfl tyX12 tyX12_ok nmX12 rfl rfl (by decide +kernel) (pmt6 157 rfl (by decide +kernel)) rfl (dX_putfield (by decide +kernel)) (by decide +kernel), ?_⟩
  refine ⟨sn_iconst (dX_iconst_0 (by decide +kernel)) (by decide +kernel), ?_⟩
  refine ⟨sn_iret rfl (dX_ireturn (by decide +kernel)), ?_⟩
  trivial
set_option maxRecDepth 100000 in
set_option maxHeartbeats 4000000 in
theorem S_169 : pAll (pSk RX12 cX12_in 3 (some .boolean) PC_169) 0 C_169 := by
  refine ⟨sn_iload_n (k := 0) (dX_iload_0 (by decide +kernel)) rfl (by decide +kernel), ?_⟩
  refine ⟨sn_iload_n (k := 1) (dX_iload_1 (by decide +kernel)) rfl (by decide +kernel), ?_⟩
  refine ⟨sn_icmp_lt (off := 12) (dX_if_icmplt (by decide +kernel)) (by decide +kernel) (by decide +kernel), ?_⟩
  refine ⟨sn_iload_n (k := 0) (dX_iload_0 (by decide +kernel)) rfl (by decide +kernel), ?_⟩
  refine ⟨sn_iload_n (k := 2) (dX_iload_2 (by decide +kernel)) rfl (by decide +kernel), ?_⟩
  refine ⟨sn_icmp_gt (off := 7) (dX_if_icmpgt (by decide +kernel)) (by decide +kernel) (by decide +kernel), ?_⟩
  refine ⟨sn_iconst (dX_iconst_1 (by decide +kernel)) (by decide +kernel), ?_⟩
  refine ⟨sn_goto (off := 4) (dX_goto (by decide +kernel)) (by decide +kernel), ?_⟩
  refine ⟨sn_iconst (dX_iconst_0 (by decide +kernel)) (by decide +kernel), ?_⟩
  refine ⟨sn_zret (Or.inl rfl) (dX_ireturn (by decide +kernel)), ?_⟩
  trivial
set_option maxRecDepth 100000 in
set_option maxHeartbeats 4000000 in
theorem S_170 : pAll (pSk RX12 cX12_has 2 (some .boolean) PC_170) 0 C_170 := by
  refine ⟨sn_iload_n (k := 0) (dX_iload_0 (by decide +kernel)) rfl (by decide +kernel), ?_⟩
  refine ⟨sn_iload_n (k := 1) (dX_iload_1 (by decide +kernel)) rfl (by decide +kernel), ?_⟩
  refine ⟨sn_ishr (dX_ishr (by decide +kernel)) (by decide +kernel), ?_⟩
  refine ⟨sn_iconst (dX_iconst_1 (by decide +kernel)) (by decide +kernel), ?_⟩
  refine ⟨sn_iand (dX_iand (by decide +kernel)) (by decide +kernel), ?_⟩
  refine ⟨sn_iconst (dX_iconst_1 (by decide +kernel)) (by decide +kernel), ?_⟩
  refine ⟨sn_icmp_ne (off := 7) (dX_if_icmpne (by decide +kernel)) (by decide +kernel) (by decide +kernel), ?_⟩
  refine ⟨sn_iconst (dX_iconst_1 (by decide +kernel)) (by decide +kernel), ?_⟩
  refine ⟨sn_goto (off := 4) (dX_goto (by decide +kernel)) (by decide +kernel), ?_⟩
  refine ⟨sn_iconst (dX_iconst_0 (by decide +kernel)) (by decide +kernel), ?_⟩
  refine ⟨sn_zret (Or.inl rfl) (dX_ireturn (by decide +kernel)), ?_⟩
  trivial
set_option maxRecDepth 100000 in
set_option maxHeartbeats 4000000 in
theorem S_171 : pAll (pSk RX12 cX12_lost 1 (some .int) PC_171) 0 C_171 := by
  refine ⟨sn_aload_n (k := 0) (dX_aload_0 (by decide +kernel)) rfl (by decide +kernel), ?_⟩
  refine ⟨sn_iconst (dX_iconst_1 (by decide +kernel)) (by decide +kernel), ?_⟩
  refine ⟨sn_puti (C := RX12) (T := TX12) (N := 56) (idx := 107) rfl pin12 (by decide) (by decide) rfl tyX12 tyX12_ok nmX12 rfl rfl (by decide +kernel) (pmt6 157 rfl (by decide +kernel)) rfl (dX_putfield (by decide +kernel)) (by decide +kernel), ?_⟩
  refine ⟨sn_iconst (dX_iconst_0 (by decide +kernel)) (by decide +kernel), ?_⟩
  refine ⟨sn_iret rfl (dX_ireturn (by decide +kernel)), ?_⟩
  trivial
set_option maxRecDepth 100000 in
set_option maxHeartbeats 4000000 in
theorem S_172 : pAll (pSk RX12 cX12_tell 2 none PC_172) 0 C_172 := by
  refine ⟨sn_aload_n (k := 0) (dX_aload_0 (by decide +kernel)) rfl (by decide +kernel), ?_⟩
  refine ⟨sn_getf (C := RX12) (T := TX12) (N := 56) (idx := 39) rfl pin12 (by decide) (by decide) rfl (pmt6 155 rfl (by decide +kernel)) rfl (dX_getfield (by decide +kernel)) (by decide +kernel), ?_⟩
  refine ⟨sn_aload_n (k := 0) (dX_aload_0 (by decide +kernel)) rfl (by decide +kernel), ?_⟩
  refine ⟨sn_getf (C := RX12) (T := TX12) (N := 56) (idx := 110) rfl pin12 (by decide) (by decide) rfl (pmt6 156 rfl (by decide +kernel)) rfl (dX_getfield (by decide +kernel)) (by decide +kernel), ?_⟩
  refine ⟨sn_iload_n (k := 1) (dX_iload_1 (by decide +kernel)) rfl (by decide +kernel), ?_⟩
  refine ⟨sn_iast (dX_iastore (by decide +kernel)) (by decide +kernel), ?_⟩
  refine ⟨sn_aload_n (k := 0) (dX_aload_0 (by decide +kernel)) rfl (by decide +kernel), ?_⟩
  refine ⟨sn_dup (dX_dup (by decide +kernel)) (by decide +kernel), ?_⟩
  refine ⟨sn_getf (C := RX12) (T := TX12) (N := 56) (idx := 110) rfl pin12 (by decide) (by decide) rfl (pmt6 156 rfl (by decide +kernel)) rfl (dX_getfield (by decide +kernel)) (by decide +kernel), ?_⟩
  refine ⟨sn_iconst (dX_iconst_1 (by decide +kernel)) (by decide +kernel), ?_⟩
  refine ⟨sn_iadd (dX_iadd (by decide +kernel)) (by decide +kernel), ?_⟩
  refine ⟨sn_puti (C := RX12) (T := TX12) (N := 56) (idx := 110) rfl pin12 (by decide) (by decide) rfl tyX12 tyX12_ok nmX12 rfl rfl (by decide +kernel) (pmt6 156 rfl (by decide +kernel)) rfl (dX_putfield (by decide +kernel)) (by decide +kernel), ?_⟩
  refine ⟨sn_vret rfl (dX_return (by decide +kernel)), ?_⟩
  trivial
set_option maxRecDepth 100000 in
set_option maxHeartbeats 4000000 in
theorem S_173 : pAll (pSk RX12 cX12_isRoom 2 (some .boolean) PC_173) 0 C_173 := by
  refine ⟨sn_iload_n (k := 1) (dX_iload_1 (by decide +kernel)) rfl (by decide +kernel), ?_⟩
  refine ⟨sn_iconst (dX_iconst_0 (by decide +kernel)) (by decide +kernel), ?_⟩
  refine ⟨sn_aload_n (k := 0) (dX_aload_0 (by decide +kernel)) rfl (by decide +kernel), ?_⟩
  refine ⟨sn_getf (C := RX12) (T := TX12) (N := 56) (idx := 113) rfl pin12 (by decide) (by decide) rfl (pmt6 140 rfl (by decide +kernel)) rfl (dX_getfield (by decide +kernel)) (by decide +kernel), ?_⟩
  refine ⟨sn_iconst (dX_iconst_1 (by decide +kernel)) (by decide +kernel), ?_⟩
  refine ⟨sn_isub (dX_isub (by decide +kernel)) (by decide +kernel), ?_⟩
  refine ⟨sn_callS (idx := 116) cal_169 (pmt7 77 rfl (by decide +kernel)) (pmt7 78 rfl (by decide +kernel)) (dX_invokestatic (by decide +kernel)) (by decide +kernel), ?_⟩
  refine ⟨sn_zret (Or.inl rfl) (dX_ireturn (by decide +kernel)), ?_⟩
  trivial
set_option maxRecDepth 100000 in
set_option maxHeartbeats 4000000 in
theorem S_174 : pAll (pSk RX12 cX12_isThing 2 (some .boolean) PC_174) 0 C_174 := by
  refine ⟨sn_iload_n (k := 1) (dX_iload_1 (by decide +kernel)) rfl (by decide +kernel), ?_⟩
  refine ⟨sn_iconst (dX_iconst_0 (by decide +kernel)) (by decide +kernel), ?_⟩
  refine ⟨sn_aload_n (k := 0) (dX_aload_0 (by decide +kernel)) rfl (by decide +kernel), ?_⟩
  refine ⟨sn_getf (C := RX12) (T := TX12) (N := 56) (idx := 120) rfl pin12 (by decide) (by decide) rfl (pmt6 143 rfl (by decide +kernel)) rfl (dX_getfield (by decide +kernel)) (by decide +kernel), ?_⟩
  refine ⟨sn_iconst (dX_iconst_1 (by decide +kernel)) (by decide +kernel), ?_⟩
  refine ⟨sn_isub (dX_isub (by decide +kernel)) (by decide +kernel), ?_⟩
  refine ⟨sn_callS (idx := 116) cal_169 (pmt7 77 rfl (by decide +kernel)) (pmt7 78 rfl (by decide +kernel)) (dX_invokestatic (by decide +kernel)) (by decide +kernel), ?_⟩
  refine ⟨sn_zret (Or.inl rfl) (dX_ireturn (by decide +kernel)), ?_⟩
  trivial
set_option maxRecDepth 100000 in
set_option maxHeartbeats 4000000 in
theorem S_175 : pAll (pSk RX12 cX12_sign 3 (some .int) PC_175) 0 C_175 := by
  refine ⟨sn_aload_n (k := 0) (dX_aload_0 (by decide +kernel)) rfl (by decide +kernel), ?_⟩
  refine ⟨sn_iconst (dX_iconst_0 (by decide +kernel)) (by decide +kernel), ?_⟩
  refine ⟨sn_puti (C := RX12) (T := TX12) (N := 56) (idx := 107) rfl pin12 (by decide) (by decide) rfl tyX12 tyX12_ok nmX12 rfl rfl (by decide +kernel) (pmt6 157 rfl (by decide +kernel)) rfl (dX_putfield (by decide +kernel)) (by decide +kernel), ?_⟩
  refine ⟨sn_aload_n (k := 0) (dX_aload_0 (by decide +kernel)) rfl (by decide +kernel), ?_⟩
  refine ⟨sn_getf (C := RX12) (T := TX12) (N := 56) (idx := 123) rfl pin12 (by decide) (by decide) rfl (pmt6 154 rfl (by decide +kernel)) rfl (dX_getfield (by decide +kernel)) (by decide +kernel), ?_⟩
  refine ⟨sn_iconst (dX_iconst_4 (by decide +kernel)) (by decide +kernel), ?_⟩
  refine ⟨sn_iadd (dX_iadd (by decide +kernel)) (by decide +kernel), ?_⟩
  refine ⟨sn_bipush (dX_bipush (by decide +kernel)) (by decide +kernel) (by decide +kernel), ?_⟩
  refine ⟨sn_icmp_le (off := 5) (dX_if_icmple (by decide +kernel)) (by decide +kernel) (by decide +kernel), ?_⟩
  refine ⟨sn_iconst (dX_iconst_m1 (by decide +kernel)) (by decide +kernel), ?_⟩
  refine ⟨sn_iret rfl (dX_ireturn (by decide +kernel)), ?_⟩
  refine ⟨sn_iconst (dX_iconst_3 (by decide +kernel)) (by decide +kernel), ?_⟩
  refine ⟨sn_istore_n (k := 2) (dX_istore_2 (by decide +kernel)) rfl (by decide) (by decide +kernel), ?_⟩
  refine ⟨sn_iload_n (k := 2) (dX_iload_2 (by decide +kernel)) rfl (by decide +kernel), ?_⟩
  refine ⟨sn_if_lt (off := 32) (dX_iflt (by decide +kernel)) (by decide +kernel) (by decide +kernel), ?_⟩
  refine ⟨sn_aload_n (k := 0) (dX_aload_0 (by decide +kernel)) rfl (by decide +kernel), ?_⟩
  refine ⟨sn_getf (C := RX12) (T := TX12) (N := 56) (idx := 35) rfl pin12 (by decide) (by decide) rfl (pmt6 153 rfl (by decide +kernel)) rfl (dX_getfield (by decide +kernel)) (by decide +kernel), ?_⟩
  refine ⟨sn_aload_n (k := 0) (dX_aload_0 (by decide +kernel)) rfl (by decide +kernel), ?_⟩
  refine ⟨sn_dup (dX_dup (by decide +kernel)) (by decide +kernel), ?_⟩
  refine ⟨sn_getf (C := RX12) (T := TX12) (N := 56) (idx := 123) rfl pin12 (by decide) (by decide) rfl (pmt6 154 rfl (by decide +kernel)) rfl (dX_getfield (by decide +kernel)) (by decide +kernel), ?_⟩
  refine ⟨sn_dupx1 (dX_dup_x1 (by decide +kernel)) (by decide +kernel), ?_⟩
  refine ⟨sn_iconst (dX_iconst_1 (by decide +kernel)) (by decide +kernel), ?_⟩
  refine ⟨sn_iadd (dX_iadd (by decide +kernel)) (by decide +kernel), ?_⟩
  refine ⟨sn_puti (C := RX12) (T := TX12) (N := 56) (idx := 123) rfl pin12 (by decide) (by decide) rfl tyX12 tyX12_ok nmX12 rfl rfl (by decide +kernel) (pmt6 154 rfl (by decide +kernel)) rfl (dX_putfield (by decide +kernel)) (by decide +kernel), ?_⟩
  refine ⟨sn_iload_n (k := 1) (dX_iload_1 (by decide +kernel)) rfl (by decide +kernel), ?_⟩
  refine ⟨sn_bipush (dX_bipush (by decide +kernel)) (by decide +kernel) (by decide +kernel), ?_⟩
  refine ⟨sn_iload_n (k := 2) (dX_iload_2 (by decide +kernel)) rfl (by decide +kernel), ?_⟩
  refine ⟨sn_imul (dX_imul (by decide +kernel)) (by decide +kernel), ?_⟩
  refine ⟨sn_ishr (dX_ishr (by decide +kernel)) (by decide +kernel), ?_⟩
  refine ⟨sn_i2b (dX_i2b (by decide +kernel)) (by decide +kernel), ?_⟩
  refine ⟨sn_bast (dX_bastore (by decide +kernel)) (by decide +kernel), ?_⟩
  refine ⟨sn_iinc (dX_iinc (by decide +kernel)) (by decide) (by decide +kernel), ?_⟩
  refine ⟨sn_goto (off := -30) (dX_goto (by decide +kernel)) (by decide +kernel), ?_⟩
  refine ⟨sn_aload_n (k := 0) (dX_aload_0 (by decide +kernel)) rfl (by decide +kernel), ?_⟩
  refine ⟨sn_getf (C := RX12) (T := TX12) (N := 56) (idx := 123) rfl pin12 (by decide) (by decide) rfl (pmt6 154 rfl (by decide +kernel)) rfl (dX_getfield (by decide +kernel)) (by decide +kernel), ?_⟩
  refine ⟨sn_iret rfl (dX_ireturn (by decide +kernel)), ?_⟩
  trivial
set_option maxRecDepth 100000 in
set_option maxHeartbeats 4000000 in
theorem S_176 : pAll (pSk RX12 cX12_end 2 (some .boolean) PC_176) 0 C_176 := by
  refine ⟨sn_aload_n (k := 0) (dX_aload_0 (by decide +kernel)) rfl (by decide +kernel), ?_⟩
  refine ⟨sn_iconst (dX_iconst_0 (by decide +kernel)) (by decide +kernel), ?_⟩
  refine ⟨sn_puti (C := RX12) (T := TX12) (N := 56) (idx := 107) rfl pin12 (by decide) (by decide) rfl tyX12 tyX12_ok nmX12 rfl rfl (by decide +kernel) (pmt6 157 rfl (by decide +kernel)) rfl (dX_putfield (by decide +kernel)) (by decide +kernel), ?_⟩
  refine ⟨sn_iload_n (k := 1) (dX_iload_1 (by decide +kernel)) rfl (by decide +kernel), ?_⟩
  refine ⟨sn_iconst (dX_iconst_0 (by decide +kernel)) (by decide +kernel), ?_⟩
  refine ⟨sn_aload_n (k := 0) (dX_aload_0 (by decide +kernel)) rfl (by decide +kernel), ?_⟩
  refine ⟨sn_getf (C := RX12) (T := TX12) (N := 56) (idx := 123) rfl pin12 (by decide) (by decide) rfl (pmt6 154 rfl (by decide +kernel)) rfl (dX_getfield (by decide +kernel)) (by decide +kernel), ?_⟩
  refine ⟨sn_callS (idx := 116) cal_169 (pmt7 77 rfl (by decide +kernel)) (pmt7 78 rfl (by decide +kernel)) (dX_invokestatic (by decide +kernel)) (by decide +kernel), ?_⟩
  refine ⟨sn_if_ne (off := 5) (dX_ifne (by decide +kernel)) (by decide +kernel) (by decide +kernel), ?_⟩
  refine ⟨sn_iconst (dX_iconst_0 (by decide +kernel)) (by decide +kernel), ?_⟩
  refine ⟨sn_zret (Or.inl rfl) (dX_ireturn (by decide +kernel)), ?_⟩
  refine ⟨sn_aload_n (k := 0) (dX_aload_0 (by decide +kernel)) rfl (by decide +kernel), ?_⟩
  refine ⟨sn_iload_n (k := 1) (dX_iload_1 (by decide +kernel)) rfl (by decide +kernel), ?_⟩
  refine ⟨sn_puti (C := RX12) (T := TX12) (N := 56) (idx := 123) rfl pin12 (by decide) (by decide) rfl tyX12 tyX12_ok nmX12 rfl rfl (by decide +kernel) (pmt6 154 rfl (by decide +kernel)) rfl (dX_putfield (by decide +kernel)) (by decide +kernel), ?_⟩
  refine ⟨sn_iconst (dX_iconst_1 (by decide +kernel)) (by decide +kernel), ?_⟩
  refine ⟨sn_zret (Or.inl rfl) (dX_ireturn (by decide +kernel)), ?_⟩
  trivial
set_option maxRecDepth 100000 in
set_option maxHeartbeats 4000000 in
theorem S_177 : pAll (pSk RX12 cX12_begin 4 none PC_177) 0 C_177 := by
  refine ⟨sn_aload_n (k := 0) (dX_aload_0 (by decide +kernel)) rfl (by decide +kernel), ?_⟩
  refine ⟨sn_aload_n (k := 1) (dX_aload_1 (by decide +kernel)) rfl (by decide +kernel), ?_⟩
  refine ⟨sn_putr (ety := .byte) (C := RX12) (T := TX12) (N := 56) (idx := 126) rfl pin12 (by decide) (by decide) rfl tyX12 tyX12_ok nmX12 rfl rfl (by decide +kernel) (pmt6 158 rfl (by decide +kernel)) rfl (dX_putfield (by decide +kernel)) (by decide +kernel), ?_⟩
  refine ⟨sn_aload_n (k := 0) (dX_aload_0 (by decide +kernel)) rfl (by decide +kernel), ?_⟩
  refine ⟨sn_iload_n (k := 2) (dX_iload_2 (by decide +kernel)) rfl (by decide +kernel), ?_⟩
  refine ⟨sn_puti (C := RX12) (T := TX12) (N := 56) (idx := 129) rfl pin12 (by decide) (by decide) rfl tyX12 tyX12_ok nmX12 rfl rfl (by decide +kernel) (pmt6 159 rfl (by decide +kernel)) rfl (dX_putfield (by decide +kernel)) (by decide +kernel), ?_⟩
  refine ⟨sn_aload_n (k := 0) (dX_aload_0 (by decide +kernel)) rfl (by decide +kernel), ?_⟩
  refine ⟨sn_iload_n (k := 3) (dX_iload_3 (by decide +kernel)) rfl (by decide +kernel), ?_⟩
  refine ⟨sn_puti (C := RX12) (T := TX12) (N := 56) (idx := 132) rfl pin12 (by decide) (by decide) rfl tyX12 tyX12_ok nmX12 rfl rfl (by decide +kernel) (pmt6 160 rfl (by decide +kernel)) rfl (dX_putfield (by decide +kernel)) (by decide +kernel), ?_⟩
  refine ⟨sn_aload_n (k := 0) (dX_aload_0 (by decide +kernel)) rfl (by decide +kernel), ?_⟩
  refine ⟨sn_iconst (dX_iconst_0 (by decide +kernel)) (by decide +kernel), ?_⟩
  refine ⟨sn_puti (C := RX12) (T := TX12) (N := 56) (idx := 135) rfl pin12 (by decide) (by decide) rfl tyX12 tyX12_ok nmX12 rfl rfl (by decide +kernel) (pmt6 161 rfl (by decide +kernel)) rfl (dX_putfield (by decide +kernel)) (by decide +kernel), ?_⟩
  refine ⟨sn_aload_n (k := 0) (dX_aload_0 (by decide +kernel)) rfl (by decide +kernel), ?_⟩
  refine ⟨sn_iconst (dX_iconst_m1 (by decide +kernel)) (by decide +kernel), ?_⟩
  refine ⟨sn_puti (C := RX12) (T := TX12) (N := 56) (idx := 138) rfl pin12 (by decide) (by decide) rfl tyX12 tyX12_ok nmX12 rfl rfl (by decide +kernel) (pmt6 162 rfl (by decide +kernel)) rfl (dX_putfield (by decide +kernel)) (by decide +kernel), ?_⟩
  refine ⟨sn_vret rfl (dX_return (by decide +kernel)), ?_⟩
  trivial
set_option maxRecDepth 100000 in
set_option maxHeartbeats 4000000 in
theorem S_178 : pAll (pSk RX12 cX12_here 1 (some .int) PC_178) 0 C_178 := by
  refine ⟨sn_aload_n (k := 0) (dX_aload_0 (by decide +kernel)) rfl (by decide +kernel), ?_⟩
  refine ⟨sn_getf (C := RX12) (T := TX12) (N := 56) (idx := 135) rfl pin12 (by decide) (by decide) rfl (pmt6 161 rfl (by decide +kernel)) rfl (dX_getfield (by decide +kernel)) (by decide +kernel), ?_⟩
  refine ⟨sn_aload_n (k := 0) (dX_aload_0 (by decide +kernel)) rfl (by decide +kernel), ?_⟩
  refine ⟨sn_getf (C := RX12) (T := TX12) (N := 56) (idx := 129) rfl pin12 (by decide) (by decide) rfl (pmt6 159 rfl (by decide +kernel)) rfl (dX_getfield (by decide +kernel)) (by decide +kernel), ?_⟩
  refine ⟨sn_icmp_ge (off := 26) (dX_if_icmpge (by decide +kernel)) (by decide +kernel) (by decide +kernel), ?_⟩
  refine ⟨sn_aload_n (k := 0) (dX_aload_0 (by decide +kernel)) rfl (by decide +kernel), ?_⟩
  refine ⟨sn_getf (C := RX12) (T := TX12) (N := 56) (idx := 135) rfl pin12 (by decide) (by decide) rfl (pmt6 161 rfl (by decide +kernel)) rfl (dX_getfield (by decide +kernel)) (by decide +kernel), ?_⟩
  refine ⟨sn_aload_n (k := 0) (dX_aload_0 (by decide +kernel)) rfl (by decide +kernel), ?_⟩
  refine ⟨sn_getf (C := RX12) (T := TX12) (N := 56) (idx := 132) rfl pin12 (by decide) (by decide) rfl (pmt6 160 rfl (by decide +kernel)) rfl (dX_getfield (by decide +kernel)) (by decide +kernel), ?_⟩
  refine ⟨sn_icmp_ge (off := 15) (dX_if_icmpge (by decide +kernel)) (by decide +kernel) (by decide +kernel), ?_⟩
  refine ⟨sn_aload_n (k := 0) (dX_aload_0 (by decide +kernel)) rfl (by decide +kernel), ?_⟩
  refine ⟨sn_getf (C := RX12) (T := TX12) (N := 56) (idx := 126) rfl pin12 (by decide) (by decide) rfl (pmt6 158 rfl (by decide +kernel)) rfl (dX_getfield (by decide +kernel)) (by decide +kernel), ?_⟩
  refine ⟨sn_aload_n (k := 0) (dX_aload_0 (by decide +kernel)) rfl (by decide +kernel), ?_⟩
  refine ⟨sn_getf (C := RX12) (T := TX12) (N := 56) (idx := 135) rfl pin12 (by decide) (by decide) rfl (pmt6 161 rfl (by decide +kernel)) rfl (dX_getfield (by decide +kernel)) (by decide +kernel), ?_⟩
  refine ⟨sn_bald (dX_baload (by decide +kernel)) (by decide +kernel), ?_⟩
  refine ⟨sn_goto (off := 4) (dX_goto (by decide +kernel)) (by decide +kernel), ?_⟩
  refine ⟨sn_iconst (dX_iconst_m1 (by decide +kernel)) (by decide +kernel), ?_⟩
  refine ⟨sn_iret rfl (dX_ireturn (by decide +kernel)), ?_⟩
  trivial
set_option maxRecDepth 100000 in
set_option maxHeartbeats 4000000 in
theorem S_179 : pAll (pSk RX12 cX12_fine 1 (some .boolean) PC_179) 0 C_179 := by
  refine ⟨sn_aload_n (k := 0) (dX_aload_0 (by decide +kernel)) rfl (by decide +kernel), ?_⟩
  refine ⟨sn_getf (C := RX12) (T := TX12) (N := 56) (idx := 138) rfl pin12 (by decide) (by decide) rfl (pmt6 162 rfl (by decide +kernel)) rfl (dX_getfield (by decide +kernel)) (by decide +kernel), ?_⟩
  refine ⟨sn_iconst (dX_iconst_m1 (by decide +kernel)) (by decide +kernel), ?_⟩
  refine ⟨sn_icmp_ne (off := 7) (dX_if_icmpne (by decide +kernel)) (by decide +kernel) (by decide +kernel), ?_⟩
  refine ⟨sn_iconst (dX_iconst_1 (by decide +kernel)) (by decide +kernel), ?_⟩
  refine ⟨sn_goto (off := 4) (dX_goto (by decide +kernel)) (by decide +kernel), ?_⟩
  refine ⟨sn_iconst (dX_iconst_0 (by decide +kernel)) (by decide +kernel), ?_⟩
  refine ⟨sn_zret (Or.inl rfl) (dX_ireturn (by decide +kernel)), ?_⟩
  trivial
set_option maxRecDepth 100000 in
set_option maxHeartbeats 4000000 in
theorem S_180 : pAll (pSk RX12 cX12_fault 2 none PC_180) 0 C_180 := by
  refine ⟨sn_aload_n (k := 0) (dX_aload_0 (by decide +kernel)) rfl (by decide +kernel), ?_⟩
  refine ⟨sn_callV (idx := 141) (C := RX12) (T := TX12) (N := 56) rfl (by decide) cal_179 (pmt7 88 rfl (by decide +kernel)) (pmt7 90 rfl (by decide +kernel)) (pms 44 rfl rfl) (dX_invokevirtual (by decide +kernel)) (by decide +kernel), ?_⟩
  refine ⟨sn_if_eq (off := 8) (dX_ifeq (by decide +kernel)) (by decide +kernel) (by decide +kernel), ?_⟩
  refine ⟨sn_aload_n (k := 0) (dX_aload_0 (by decide +kernel)) rfl (by decide +kernel), ?_⟩
  refine ⟨sn_iload_n (k := 1) (dX_iload_1 (by decide +kernel)) rfl (by decide +kernel), ?_⟩
  refine ⟨sn_puti (C := RX12) (T := TX12) (N := 56) (idx := 138) rfl pin12 (by decide) (by decide) rfl tyX12 tyX12_ok nmX12 rfl rfl (by decide +kernel) (pmt6 162 rfl (by decide +kernel)) rfl (dX_putfield (by decide +kernel)) (by decide +kernel), ?_⟩
  refine ⟨sn_vret rfl (dX_return (by decide +kernel)), ?_⟩
  trivial
set_option maxRecDepth 100000 in
set_option maxHeartbeats 4000000 in
theorem S_181 : pAll (pSk RX12 cX12_passes 2 (some .boolean) PC_181) 0 C_181 := by
  refine ⟨sn_aload_n (k := 0) (dX_aload_0 (by decide +kernel)) rfl (by decide +kernel), ?_⟩
  refine ⟨sn_callV (idx := 141) (C := RX12) (T := TX12) (N := 56) rfl (by decide) cal_179 (pmt7 88 rfl (by decide +kernel)) (pmt7 90 rfl (by decide +kernel)) (pms 44 rfl rfl) (dX_invokevirtual (by decide +kernel)) (by decide +kernel), ?_⟩
  refine ⟨sn_if_eq (off := 11) (dX_ifeq (by decide +kernel)) (by decide +kernel) (by decide +kernel), ?_⟩
  refine ⟨sn_aload_n (k := 0) (dX_aload_0 (by decide +kernel)) rfl (by decide +kernel), ?_⟩
  refine ⟨sn_callV (idx := 145) (C := RX12) (T := TX12) (N := 56) rfl (by decide) cal_178 (pmt7 92 rfl (by decide +kernel)) (pmt7 94 rfl (by decide +kernel)) (pms 45 rfl rfl) (dX_invokevirtual (by decide +kernel)) (by decide +kernel), ?_⟩
  refine ⟨sn_iload_n (k := 1) (dX_iload_1 (by decide +kernel)) rfl (by decide +kernel), ?_⟩
  refine ⟨sn_icmp_eq (off := 5) (dX_if_icmpeq (by decide +kernel)) (by decide +kernel) (by decide +kernel), ?_⟩
  refine ⟨sn_iconst (dX_iconst_0 (by decide +kernel)) (by decide +kernel), ?_⟩
  refine ⟨sn_zret (Or.inl rfl) (dX_ireturn (by decide +kernel)), ?_⟩
  refine ⟨sn_aload_n (k := 0) (dX_aload_0 (by decide +kernel)) rfl (by decide +kernel), ?_⟩
  refine ⟨sn_dup (dX_dup (by decide +kernel)) (by decide +kernel), ?_⟩
  refine ⟨sn_getf (C := RX12) (T := TX12) (N := 56) (idx := 135) rfl pin12 (by decide) (by decide) rfl (pmt6 161 rfl (by decide +kernel)) rfl (dX_getfield (by decide +kernel)) (by decide +kernel), ?_⟩
  refine ⟨sn_iconst (dX_iconst_1 (by decide +kernel)) (by decide +kernel), ?_⟩
  refine ⟨sn_iadd (dX_iadd (by decide +kernel)) (by decide +kernel), ?_⟩
  refine ⟨sn_puti (C := RX12) (T := TX12) (N := 56) (idx := 135) rfl pin12 (by decide) (by decide) rfl tyX12 tyX12_ok nmX12 rfl rfl (by decide +kernel) (pmt6 161 rfl (by decide +kernel)) rfl (dX_putfield (by decide +kernel)) (by decide +kernel), ?_⟩
  refine ⟨sn_iconst (dX_iconst_1 (by decide +kernel)) (by decide +kernel), ?_⟩
  refine ⟨sn_zret (Or.inl rfl) (dX_ireturn (by decide +kernel)), ?_⟩
  trivial
set_option maxRecDepth 100000 in
set_option maxHeartbeats 4000000 in
theorem S_182 : pAll (pSk RX12 cX12_need 2 none PC_182) 0 C_182 := by
  refine ⟨sn_aload_n (k := 0) (dX_aload_0 (by decide +kernel)) rfl (by decide +kernel), ?_⟩
  refine ⟨sn_iload_n (k := 1) (dX_iload_1 (by decide +kernel)) rfl (by decide +kernel), ?_⟩
  refine ⟨sn_callV (idx := 149) (C := RX12) (T := TX12) (N := 56) rfl (by decide) cal_181 (pmt7 108 rfl (by decide +kernel)) (pmt7 110 rfl (by decide +kernel)) (pms 49 rfl rfl) (dX_invokevirtual (by decide +kernel)) (by decide +kernel), ?_⟩
  refine ⟨sn_if_ne (off := 11) (dX_ifne (by decide +kernel)) (by decide +kernel) (by decide +kernel), ?_⟩
  refine ⟨sn_aload_n (k := 0) (dX_aload_0 (by decide +kernel)) rfl (by decide +kernel), ?_⟩
  refine ⟨sn_aload_n (k := 0) (dX_aload_0 (by decide +kernel)) rfl (by decide +kernel), ?_⟩
  refine ⟨sn_getf (C := RX12) (T := TX12) (N := 56) (idx := 135) rfl pin12 (by decide) (by decide) rfl (pmt6 161 rfl (by decide +kernel)) rfl (dX_getfield (by decide +kernel)) (by decide +kernel), ?_⟩
  refine ⟨sn_callV (idx := 153) (C := RX12) (T := TX12) (N := 56) rfl (by decide) cal_180 (pmt7 96 rfl (by decide +kernel)) (pmt7 98 rfl (by decide +kernel)) (pms 46 rfl rfl) (dX_invokevirtual (by decide +kernel)) (by decide +kernel), ?_⟩
  refine ⟨sn_vret rfl (dX_return (by decide +kernel)), ?_⟩
  trivial
set_option maxRecDepth 100000 in
set_option maxHeartbeats 4000000 in
theorem S_183 : pAll (pSk RX12 cX12_number 6 (some .int) PC_183) 0 C_183 := by
  refine ⟨sn_aload_n (k := 0) (dX_aload_0 (by decide +kernel)) rfl (by decide +kernel), ?_⟩
  refine ⟨sn_callV (idx := 141) (C := RX12) (T := TX12) (N := 56) rfl (by decide) cal_179 (pmt7 88 rfl (by decide +kernel)) (pmt7 90 rfl (by decide +kernel)) (pms 44 rfl rfl) (dX_invokevirtual (by decide +kernel)) (by decide +kernel), ?_⟩
  refine ⟨sn_if_ne (off := 5) (dX_ifne (by decide +kernel)) (by decide +kernel) (by decide +kernel), ?_⟩
  refine ⟨sn_iconst (dX_iconst_0 (by decide +kernel)) (by decide +kernel), ?_⟩
  refine ⟨sn_iret rfl (dX_ireturn (by decide +kernel)), ?_⟩
  refine ⟨sn_aload_n (k := 0) (dX_aload_0 (by decide +kernel)) rfl (by decide +kernel), ?_⟩
  refine ⟨sn_getf (C := RX12) (T := TX12) (N := 56) (idx := 135) rfl pin12 (by decide) (by decide) rfl (pmt6 161 rfl (by decide +kernel)) rfl (dX_getfield (by decide +kernel)) (by decide +kernel), ?_⟩
  refine ⟨sn_istore (dX_istore (by decide +kernel)) (by decide) (by decide +kernel), ?_⟩
  refine ⟨sn_iconst (dX_iconst_0 (by decide +kernel)) (by decide +kernel), ?_⟩
  refine ⟨sn_istore (dX_istore (by decide +kernel)) (by decide) (by decide +kernel), ?_⟩
  refine ⟨sn_aload_n (k := 0) (dX_aload_0 (by decide +kernel)) rfl (by decide +kernel), ?_⟩
  refine ⟨sn_getf (C := RX12) (T := TX12) (N := 56) (idx := 135) rfl pin12 (by decide) (by decide) rfl (pmt6 161 rfl (by decide +kernel)) rfl (dX_getfield (by decide +kernel)) (by decide +kernel), ?_⟩
  refine ⟨sn_iload (dX_iload (by decide +kernel)) (by decide +kernel), ?_⟩
  refine ⟨sn_iload_n (k := 1) (dX_iload_1 (by decide +kernel)) rfl (by decide +kernel), ?_⟩
  refine ⟨sn_iadd (dX_iadd (by decide +kernel)) (by decide +kernel), ?_⟩
  refine ⟨sn_icmp_ge (off := 45) (dX_if_icmpge (by decide +kernel)) (by decide +kernel) (by decide +kernel), ?_⟩
  refine ⟨sn_aload_n (k := 0) (dX_aload_0 (by decide +kernel)) rfl (by decide +kernel), ?_⟩
  refine ⟨sn_callV (idx := 145) (C := RX12) (T := TX12) (N := 56) rfl (by decide) cal_178 (pmt7 92 rfl (by decide +kernel)) (pmt7 94 rfl (by decide +kernel)) (pms 45 rfl rfl) (dX_invokevirtual (by decide +kernel)) (by decide +kernel), ?_⟩
  refine ⟨sn_bipush (dX_bipush (by decide +kernel)) (by decide +kernel) (by decide +kernel), ?_⟩
  refine ⟨sn_bipush (dX_bipush (by decide +kernel)) (by decide +kernel) (by decide +kernel), ?_⟩
  refine ⟨sn_callS (idx := 116) cal_169 (pmt7 77 rfl (by decide +kernel)) (pmt7 78 rfl (by decide +kernel)) (dX_invokestatic (by decide +kernel)) (by decide +kernel), ?_⟩
  refine ⟨sn_if_eq (off := 31) (dX_ifeq (by decide +kernel)) (by decide +kernel) (by decide +kernel), ?_⟩
  refine ⟨sn_bipush (dX_bipush (by decide +kernel)) (by decide +kernel) (by decide +kernel), ?_⟩
  refine ⟨sn_iload (dX_iload (by decide +kernel)) (by decide +kernel), ?_⟩
  refine ⟨sn_imul (dX_imul (by decide +kernel)) (by decide +kernel), ?_⟩
  refine ⟨sn_aload_n (k := 0) (dX_aload_0 (by decide +kernel)) rfl (by decide +kernel), ?_⟩
  refine ⟨sn_callV (idx := 145) (C := RX12) (T := TX12) (N := 56) rfl (by decide) cal_178 (pmt7 92 rfl (by decide +kernel)) (pmt7 94 rfl (by decide +kernel)) (pms 45 rfl rfl) (dX_invokevirtual (by decide +kernel)) (by decide +kernel), ?_⟩
  refine ⟨sn_iadd (dX_iadd (by decide +kernel)) (by decide +kernel), ?_⟩
  refine ⟨sn_bipush (dX_bipush (by decide +kernel)) (by decide +kernel) (by decide +kernel), ?_⟩
  refine ⟨sn_isub (dX_isub (by decide +kernel)) (by decide +kernel), ?_⟩
  refine ⟨sn_istore (dX_istore (by decide +kernel)) (by decide) (by decide +kernel), ?_⟩
  refine ⟨sn_aload_n (k := 0) (dX_aload_0 (by decide +kernel)) rfl (by decide +kernel), ?_⟩
  refine ⟨sn_dup (dX_dup (by decide +kernel)) (by decide +kernel), ?_⟩
  refine ⟨sn_getf (C := RX12) (T := TX12) (N := 56) (idx := 135) rfl pin12 (by decide) (by decide) rfl (pmt6 161 rfl (by decide +kernel)) rfl (dX_getfield (by decide +kernel)) (by decide +kernel), ?_⟩
  refine ⟨sn_iconst (dX_iconst_1 (by decide +kernel)) (by decide +kernel), ?_⟩
  refine ⟨sn_iadd (dX_iadd (by decide +kernel)) (by decide +kernel), ?_⟩
  refine ⟨sn_puti (C := RX12) (T := TX12) (N := 56) (idx := 135) rfl pin12 (by decide) (by decide) rfl tyX12 tyX12_ok nmX12 rfl rfl (by decide +kernel) (pmt6 161 rfl (by decide +kernel)) rfl (dX_putfield (by decide +kernel)) (by decide +kernel), ?_⟩
  refine ⟨sn_goto (off := -50) (dX_goto (by decide +kernel)) (by decide +kernel), ?_⟩
  refine ⟨sn_aload_n (k := 0) (dX_aload_0 (by decide +kernel)) rfl (by decide +kernel), ?_⟩
  refine ⟨sn_getf (C := RX12) (T := TX12) (N := 56) (idx := 135) rfl pin12 (by decide) (by decide) rfl (pmt6 161 rfl (by decide +kernel)) rfl (dX_getfield (by decide +kernel)) (by decide +kernel), ?_⟩
  refine ⟨sn_iload (dX_iload (by decide +kernel)) (by decide +kernel), ?_⟩
  refine ⟨sn_icmp_ne (off := 14) (dX_if_icmpne (by decide +kernel)) (by decide +kernel) (by decide +kernel), ?_⟩
  refine ⟨sn_aload_n (k := 0) (dX_aload_0 (by decide +kernel)) rfl (by decide +kernel), ?_⟩
  refine ⟨sn_aload_n (k := 0) (dX_aload_0 (by decide +kernel)) rfl (by decide +kernel), ?_⟩
  refine ⟨sn_getf (C := RX12) (T := TX12) (N := 56) (idx := 135) rfl pin12 (by decide) (by decide) rfl (pmt6 161 rfl (by decide +kernel)) rfl (dX_getfield (by decide +kernel)) (by decide +kernel), ?_⟩
  refine ⟨sn_callV (idx := 153) (C := RX12) (T := TX12) (N := 56) rfl (by decide) cal_180 (pmt7 96 rfl (by decide +kernel)) (pmt7 98 rfl (by decide +kernel)) (pms 46 rfl rfl) (dX_invokevirtual (by decide +kernel)) (by decide +kernel), ?_⟩
  refine ⟨sn_goto (off := 23) (dX_goto (by decide +kernel)) (by decide +kernel), ?_⟩
  refine ⟨sn_iload (dX_iload (by decide +kernel)) (by decide +kernel), ?_⟩
  refine ⟨sn_iload_n (k := 2) (dX_iload_2 (by decide +kernel)) rfl (by decide +kernel), ?_⟩
  refine ⟨sn_iload_n (k := 3) (dX_iload_3 (by decide +kernel)) rfl (by decide +kernel), ?_⟩
  refine ⟨sn_callS (idx := 116) cal_169 (pmt7 77 rfl (by decide +kernel)) (pmt7 78 rfl (by decide +kernel)) (dX_invokestatic (by decide +kernel)) (by decide +kernel), ?_⟩
  refine ⟨sn_if_ne (off := 13) (dX_ifne (by decide +kernel)) (by decide +kernel) (by decide +kernel), ?_⟩
  refine ⟨sn_aload_n (k := 0) (dX_aload_0 (by decide +kernel)) rfl (by decide +kernel), ?_⟩
  refine ⟨sn_aload_n (k := 0) (dX_aload_0 (by decide +kernel)) rfl (by decide +kernel), ?_⟩
  refine ⟨sn_getf (C := RX12) (T := TX12) (N := 56) (idx := 135) rfl pin12 (by decide) (by decide) rfl (pmt6 161 rfl (by decide +kernel)) rfl (dX_getfield (by decide +kernel)) (by decide +kernel), ?_⟩
  refine ⟨sn_iconst (dX_iconst_1 (by decide +kernel)) (by decide +kernel), ?_⟩
  refine ⟨sn_isub (dX_isub (by decide +kernel)) (by decide +kernel), ?_⟩
  refine ⟨sn_callV (idx := 153) (C := RX12) (T := TX12) (N := 56) rfl (by decide) cal_180 (pmt7 96 rfl (by decide +kernel)) (pmt7 98 rfl (by decide +kernel)) (pms 46 rfl rfl) (dX_invokevirtual (by decide +kernel)) (by decide +kernel), ?_⟩
  refine ⟨sn_aload_n (k := 0) (dX_aload_0 (by decide +kernel)) rfl (by decide +kernel), ?_⟩
  refine ⟨sn_callV (idx := 141) (C := RX12) (T := TX12) (N := 56) rfl (by decide) cal_179 (pmt7 88 rfl (by decide +kernel)) (pmt7 90 rfl (by decide +kernel)) (pms 44 rfl rfl) (dX_invokevirtual (by decide +kernel)) (by decide +kernel), ?_⟩
  refine ⟨sn_if_eq (off := 8) (dX_ifeq (by decide +kernel)) (by decide +kernel) (by decide +kernel), ?_⟩
  refine ⟨sn_iload (dX_iload (by decide +kernel)) (by decide +kernel), ?_⟩
  refine ⟨sn_goto (off := 4) (dX_goto (by decide +kernel)) (by decide +kernel), ?_⟩
  refine ⟨sn_iconst (dX_iconst_0 (by decide +kernel)) (by decide +kernel), ?_⟩
  refine ⟨sn_iret rfl (dX_ireturn (by decide +kernel)), ?_⟩
  trivial
set_option maxRecDepth 100000 in
set_option maxHeartbeats 4000000 in
theorem S_184 : pAll (pSk RX12 cX12_house 9 (some .int) PC_184) 0 C_184 := by
  refine ⟨sn_aload_n (k := 0) (dX_aload_0 (by decide +kernel)) rfl (by decide +kernel), ?_⟩
  refine ⟨sn_iconst (dX_iconst_0 (by decide +kernel)) (by decide +kernel), ?_⟩
  refine ⟨sn_puti (C := RX12) (T := TX12) (N := 56) (idx := 107) rfl pin12 (by decide) (by decide) rfl tyX12 tyX12_ok nmX12 rfl rfl (by decide +kernel) (pmt6 157 rfl (by decide +kernel)) rfl (dX_putfield (by decide +kernel)) (by decide +kernel), ?_⟩
  refine ⟨sn_aload_n (k := 0) (dX_aload_0 (by decide +kernel)) rfl (by decide +kernel), ?_⟩
  refine ⟨sn_aload_n (k := 0) (dX_aload_0 (by decide +kernel)) rfl (by decide +kernel), ?_⟩
  refine ⟨sn_getf (C := RX12) (T := TX12) (N := 56) (idx := 35) rfl pin12 (by decide) (by decide) rfl (pmt6 153 rfl (by decide +kernel)) rfl (dX_getfield (by decide +kernel)) (by decide +kernel), ?_⟩
  refine ⟨sn_aload_n (k := 0) (dX_aload_0 (by decide +kernel)) rfl (by decide +kernel), ?_⟩
  refine ⟨sn_getf (C := RX12) (T := TX12) (N := 56) (idx := 123) rfl pin12 (by decide) (by decide) rfl (pmt6 154 rfl (by decide +kernel)) rfl (dX_getfield (by decide +kernel)) (by decide +kernel), ?_⟩
  refine ⟨sn_bipush (dX_bipush (by decide +kernel)) (by decide +kernel) (by decide +kernel), ?_⟩
  refine ⟨sn_callV (idx := 157) (C := RX12) (T := TX12) (N := 56) rfl (by decide) cal_177 (pmt7 84 rfl (by decide +kernel)) (pmt7 86 rfl (by decide +kernel)) (pms 43 rfl rfl) (dX_invokevirtual (by decide +kernel)) (by decide +kernel), ?_⟩
  refine ⟨sn_aload_n (k := 0) (dX_aload_0 (by decide +kernel)) rfl (by decide +kernel), ?_⟩
  refine ⟨sn_iconst (dX_iconst_0 (by decide +kernel)) (by decide +kernel), ?_⟩
  refine ⟨sn_puti (C := RX12) (T := TX12) (N := 56) (idx := 123) rfl pin12 (by decide) (by decide) rfl tyX12 tyX12_ok nmX12 rfl rfl (by decide +kernel) (pmt6 154 rfl (by decide +kernel)) rfl (dX_putfield (by decide +kernel)) (by decide +kernel), ?_⟩
  refine ⟨sn_aload_n (k := 0) (dX_aload_0 (by decide +kernel)) rfl (by decide +kernel), ?_⟩
  refine ⟨sn_getf (C := RX12) (T := TX12) (N := 56) (idx := 129) rfl pin12 (by decide) (by decide) rfl (pmt6 159 rfl (by decide +kernel)) rfl (dX_getfield (by decide +kernel)) (by decide +kernel), ?_⟩
  refine ⟨sn_if_ne (off := 5) (dX_ifne (by decide +kernel)) (by decide +kernel) (by decide +kernel), ?_⟩
  refine ⟨sn_iconst (dX_iconst_0 (by decide +kernel)) (by decide +kernel), ?_⟩
  refine ⟨sn_iret rfl (dX_ireturn (by decide +kernel)), ?_⟩
  refine ⟨sn_aload_n (k := 0) (dX_aload_0 (by decide +kernel)) rfl (by decide +kernel), ?_⟩
  refine ⟨sn_getf (C := RX12) (T := TX12) (N := 56) (idx := 113) rfl pin12 (by decide) (by decide) rfl (pmt6 140 rfl (by decide +kernel)) rfl (dX_getfield (by decide +kernel)) (by decide +kernel), ?_⟩
  refine ⟨sn_istore_n (k := 1) (dX_istore_1 (by decide +kernel)) rfl (by decide) (by decide +kernel), ?_⟩
  refine ⟨sn_aload_n (k := 0) (dX_aload_0 (by decide +kernel)) rfl (by decide +kernel), ?_⟩
  refine ⟨sn_getf (C := RX12) (T := TX12) (N := 56) (idx := 120) rfl pin12 (by decide) (by decide) rfl (pmt6 143 rfl (by decide +kernel)) rfl (dX_getfield (by decide +kernel)) (by decide +kernel), ?_⟩
  refine ⟨sn_istore_n (k := 2) (dX_istore_2 (by decide +kernel)) rfl (by decide) (by decide +kernel), ?_⟩
  refine ⟨sn_aload_n (k := 0) (dX_aload_0 (by decide +kernel)) rfl (by decide +kernel), ?_⟩
  refine ⟨sn_getf (C := RX12) (T := TX12) (N := 56) (idx := 161) rfl pin12 (by decide) (by decide) rfl (pmt6 148 rfl (by decide +kernel)) rfl (dX_getfield (by decide +kernel)) (by decide +kernel), ?_⟩
  refine ⟨sn_istore_n (k := 3) (dX_istore_3 (by decide +kernel)) rfl (by decide) (by decide +kernel), ?_⟩
  refine ⟨sn_iconst (dX_iconst_0 (by decide +kernel)) (by decide +kernel), ?_⟩
  refine ⟨sn_istore (dX_istore (by decide +kernel)) (by decide) (by decide +kernel), ?_⟩
  refine ⟨sn_iconst (dX_iconst_0 (by decide +kernel)) (by decide +kernel), ?_⟩
  refine ⟨sn_istore (dX_istore (by decide +kernel)) (by decide) (by decide +kernel), ?_⟩
  refine ⟨sn_iconst (dX_iconst_1 (by decide +kernel)) (by decide +kernel), ?_⟩
  refine ⟨sn_istore (dX_istore (by decide +kernel)) (by decide) (by decide +kernel), ?_⟩
  refine ⟨sn_iload (dX_iload (by decide +kernel)) (by decide +kernel), ?_⟩
  refine ⟨sn_if_eq (off := 270) (dX_ifeq (by decide +kernel)) (by decide +kernel) (by decide +kernel), ?_⟩
  refine ⟨sn_aload_n (k := 0) (dX_aload_0 (by decide +kernel)) rfl (by decide +kernel), ?_⟩
  refine ⟨sn_callV (idx := 141) (C := RX12) (T := TX12) (N := 56) rfl (by decide) cal_179 (pmt7 88 rfl (by decide +kernel)) (pmt7 90 rfl (by decide +kernel)) (pms 44 rfl rfl) (dX_invokevirtual (by decide +kernel)) (by decide +kernel), ?_⟩
  refine ⟨sn_if_eq (off := 263) (dX_ifeq (by decide +kernel)) (by decide +kernel) (by decide +kernel), ?_⟩
  refine ⟨sn_aload_n (k := 0) (dX_aload_0 (by decide +kernel)) rfl (by decide +kernel), ?_⟩
  refine ⟨sn_callV (idx := 145) (C := RX12) (T := TX12) (N := 56) rfl (by decide) cal_178 (pmt7 92 rfl (by decide +kernel)) (pmt7 94 rfl (by decide +kernel)) (pms 45 rfl rfl) (dX_invokevirtual (by decide +kernel)) (by decide +kernel), ?_⟩
  refine ⟨sn_bipush (dX_bipush (by decide +kernel)) (by decide +kernel) (by decide +kernel), ?_⟩
  refine ⟨sn_icmp_ne (off := 50) (dX_if_icmpne (by decide +kernel)) (by decide +kernel) (by decide +kernel), ?_⟩
  refine ⟨sn_iload_n (k := 1) (dX_iload_1 (by decide +kernel)) rfl (by decide +kernel), ?_⟩
  refine ⟨sn_bipush (dX_bipush (by decide +kernel)) (by decide +kernel) (by decide +kernel), ?_⟩
  refine ⟨sn_icmp_ne (off := 14) (dX_if_icmpne (by decide +kernel)) (by decide +kernel) (by decide +kernel), ?_⟩
  refine ⟨sn_aload_n (k := 0) (dX_aload_0 (by decide +kernel)) rfl (by decide +kernel), ?_⟩
  refine ⟨sn_aload_n (k := 0) (dX_aload_0 (by decide +kernel)) rfl (by decide +kernel), ?_⟩
  refine ⟨sn_getf (C := RX12) (T := TX12) (N := 56) (idx := 135) rfl pin12 (by decide) (by decide) rfl (pmt6 161 rfl (by decide +kernel)) rfl (dX_getfield (by decide +kernel)) (by decide +kernel), ?_⟩
  refine ⟨sn_callV (idx := 153) (C := RX12) (T := TX12) (N := 56) rfl (by decide) cal_180 (pmt7 96 rfl (by decide +kernel)) (pmt7 98 rfl (by decide +kernel)) (pms 46 rfl rfl) (dX_invokevirtual (by decide +kernel)) (by decide +kernel), ?_⟩
  refine ⟨sn_goto (off := 27) (dX_goto (by decide +kernel)) (by decide +kernel), ?_⟩
  refine ⟨sn_aload_n (k := 0) (dX_aload_0 (by decide +kernel)) rfl (by decide +kernel), ?_⟩
  refine ⟨sn_dup (dX_dup (by decide +kernel)) (by decide +kernel), ?_⟩
  refine ⟨sn_getf (C := RX12) (T := TX12) (N := 56) (idx := 135) rfl pin12 (by decide) (by decide) rfl (pmt6 161 rfl (by decide +kernel)) rfl (dX_getfield (by decide +kernel)) (by decide +kernel), ?_⟩
  refine ⟨sn_iconst (dX_iconst_1 (by decide +kernel)) (by decide +kernel), ?_⟩
  refine ⟨sn_iadd (dX_iadd (by decide +kernel)) (by decide +kernel), ?_⟩
  refine ⟨sn_puti (C := RX12) (T := TX12) (N := 56) (idx := 135) rfl pin12 (by decide) (by decide) rfl tyX12 tyX12_ok nmX12 rfl rfl (by decide +kernel) (pmt6 161 rfl (by decide +kernel)) rfl (dX_putfield (by decide +kernel)) (by decide +kernel), ?_⟩
  refine ⟨sn_aload_n (k := 0) (dX_aload_0 (by decide +kernel)) rfl (by decide +kernel), ?_⟩
  refine ⟨sn_getf (C := RX12) (T := TX12) (N := 56) (idx := 9) rfl pin12 (by decide) (by decide) rfl (pmt6 141 rfl (by decide +kernel)) rfl (dX_getfield (by decide +kernel)) (by decide +kernel), ?_⟩
  refine ⟨sn_iload_n (k := 1) (dX_iload_1 (by decide +kernel)) rfl (by decide +kernel), ?_⟩
  refine ⟨sn_aload_n (k := 0) (dX_aload_0 (by decide +kernel)) rfl (by decide +kernel), ?_⟩
  refine ⟨sn_iconst (dX_iconst_2 (by decide +kernel)) (by decide +kernel), ?_⟩
  refine ⟨sn_iconst (dX_iconst_1 (by decide +kernel)) (by decide +kernel), ?_⟩
  refine ⟨sn_bipush (dX_bipush (by decide +kernel)) (by decide +kernel) (by decide +kernel), ?_⟩
  refine ⟨sn_callV (idx := 164) (C := RX12) (T := TX12) (N := 56) rfl (by decide) cal_183 (pmt7 100 rfl (by decide +kernel)) (pmt7 102 rfl (by decide +kernel)) (pms 47 rfl rfl) (dX_invokevirtual (by decide +kernel)) (by decide +kernel), ?_⟩
  refine ⟨sn_iast (dX_iastore (by decide +kernel)) (by decide +kernel), ?_⟩
  refine ⟨sn_iinc (dX_iinc (by decide +kernel)) (by decide) (by decide +kernel), ?_⟩
  refine ⟨sn_goto (off := 193) (dX_goto (by decide +kernel)) (by decide +kernel), ?_⟩
  refine ⟨sn_aload_n (k := 0) (dX_aload_0 (by decide +kernel)) rfl (by decide +kernel), ?_⟩
  refine ⟨sn_callV (idx := 145) (C := RX12) (T := TX12) (N := 56) rfl (by decide) cal_178 (pmt7 92 rfl (by decide +kernel)) (pmt7 94 rfl (by decide +kernel)) (pms 45 rfl rfl) (dX_invokevirtual (by decide +kernel)) (by decide +kernel), ?_⟩
  refine ⟨sn_bipush (dX_bipush (by decide +kernel)) (by decide +kernel) (by decide +kernel), ?_⟩
  refine ⟨sn_icmp_ne (off := 120) (dX_if_icmpne (by decide +kernel)) (by decide +kernel) (by decide +kernel), ?_⟩
  refine ⟨sn_aload_n (k := 0) (dX_aload_0 (by decide +kernel)) rfl (by decide +kernel), ?_⟩
  refine ⟨sn_dup (dX_dup (by decide +kernel)) (by decide +kernel), ?_⟩
  refine ⟨sn_getf (C := RX12) (T := TX12) (N := 56) (idx := 135) rfl pin12 (by decide) (by decide) rfl (pmt6 161 rfl (by decide +kernel)) rfl (dX_getfield (by decide +kernel)) (by decide +kernel), ?_⟩
  refine ⟨sn_iconst (dX_iconst_1 (by decide +kernel)) (by decide +kernel), ?_⟩
  refine ⟨sn_iadd (dX_iadd (by decide +kernel)) (by decide +kernel), ?_⟩
  refine ⟨sn_puti (C := RX12) (T := TX12) (N := 56) (idx := 135) rfl pin12 (by decide) (by decide) rfl tyX12 tyX12_ok nmX12 rfl rfl (by decide +kernel) (pmt6 161 rfl (by decide +kernel)) rfl (dX_putfield (by decide +kernel)) (by decide +kernel), ?_⟩
  refine ⟨sn_aload_n (k := 0) (dX_aload_0 (by decide +kernel)) rfl (by decide +kernel), ?_⟩
  refine ⟨sn_iconst (dX_iconst_1 (by decide +kernel)) (by decide +kernel), ?_⟩
  refine ⟨sn_iconst (dX_iconst_0 (by decide +kernel)) (by decide +kernel), ?_⟩
  refine ⟨sn_iload_n (k := 1) (dX_iload_1 (by decide +kernel)) rfl (by decide +kernel), ?_⟩
  refine ⟨sn_iconst (dX_iconst_1 (by decide +kernel)) (by decide +kernel), ?_⟩
  refine ⟨sn_isub (dX_isub (by decide +kernel)) (by decide +kernel), ?_⟩
  refine ⟨sn_callV (idx := 164) (C := RX12) (T := TX12) (N := 56) rfl (by decide) cal_183 (pmt7 100 rfl (by decide +kernel)) (pmt7 102 rfl (by decide +kernel)) (pms 47 rfl rfl) (dX_invokevirtual (by decide +kernel)) (by decide +kernel), ?_⟩
  refine ⟨sn_istore (dX_istore (by decide +kernel)) (by decide) (by decide +kernel), ?_⟩
  refine ⟨sn_aload_n (k := 0) (dX_aload_0 (by decide +kernel)) rfl (by decide +kernel), ?_⟩
  refine ⟨sn_bipush (dX_bipush (by decide +kernel)) (by decide +kernel) (by decide +kernel), ?_⟩
  refine ⟨sn_callV (idx := 168) (C := RX12) (T := TX12) (N := 56) rfl (by decide) cal_182 (pmt7 104 rfl (by decide +kernel)) (pmt7 106 rfl (by decide +kernel)) (pms 48 rfl rfl) (dX_invokevirtual (by decide +kernel)) (by decide +kernel), ?_⟩
  refine ⟨sn_aload_n (k := 0) (dX_aload_0 (by decide +kernel)) rfl (by decide +kernel), ?_⟩
  refine ⟨sn_iconst (dX_iconst_1 (by decide +kernel)) (by decide +kernel), ?_⟩
  refine ⟨sn_iconst (dX_iconst_0 (by decide +kernel)) (by decide +kernel), ?_⟩
  refine ⟨sn_iload_n (k := 1) (dX_iload_1 (by decide +kernel)) rfl (by decide +kernel), ?_⟩
  refine ⟨sn_iconst (dX_iconst_1 (by decide +kernel)) (by decide +kernel), ?_⟩
  refine ⟨sn_isub (dX_isub (by decide +kernel)) (by decide +kernel), ?_⟩
  refine ⟨sn_callV (idx := 164) (C := RX12) (T := TX12) (N := 56) rfl (by decide) cal_183 (pmt7 100 rfl (by decide +kernel)) (pmt7 102 rfl (by decide +kernel)) (pms 47 rfl rfl) (dX_invokevirtual (by decide +kernel)) (by decide +kernel), ?_⟩
  refine ⟨sn_istore (dX_istore (by decide +kernel)) (by decide) (by decide +kernel), ?_⟩
  refine ⟨sn_aload_n (k := 0) (dX_aload_0 (by decide +kernel)) rfl (by decide +kernel), ?_⟩
  refine ⟨sn_callV (idx := 141) (C := RX12) (T := TX12) (N := 56) rfl (by decide) cal_179 (pmt7 88 rfl (by decide +kernel)) (pmt7 90 rfl (by decide +kernel)) (pms 44 rfl rfl) (dX_invokevirtual (by decide +kernel)) (by decide +kernel), ?_⟩
  refine ⟨sn_if_eq (off := 20) (dX_ifeq (by decide +kernel)) (by decide +kernel) (by decide +kernel), ?_⟩
  refine ⟨sn_iload (dX_iload (by decide +kernel)) (by decide +kernel), ?_⟩
  refine ⟨sn_iload (dX_iload (by decide +kernel)) (by decide +kernel), ?_⟩
  refine ⟨sn_icmp_ne (off := 13) (dX_if_icmpne (by decide +kernel)) (by decide +kernel) (by decide +kernel), ?_⟩
  refine ⟨sn_aload_n (k := 0) (dX_aload_0 (by decide +kernel)) rfl (by decide +kernel), ?_⟩
  refine ⟨sn_aload_n (k := 0) (dX_aload_0 (by decide +kernel)) rfl (by decide +kernel), ?_⟩
  refine ⟨sn_getf (C := RX12) (T := TX12) (N := 56) (idx := 135) rfl pin12 (by decide) (by decide) rfl (pmt6 161 rfl (by decide +kernel)) rfl (dX_getfield (by decide +kernel)) (by decide +kernel), ?_⟩
  refine ⟨sn_iconst (dX_iconst_1 (by decide +kernel)) (by decide +kernel), ?_⟩
  refine ⟨sn_isub (dX_isub (by decide +kernel)) (by decide +kernel), ?_⟩
  refine ⟨sn_callV (idx := 153) (C := RX12) (T := TX12) (N := 56) rfl (by decide) cal_180 (pmt7 96 rfl (by decide +kernel)) (pmt7 98 rfl (by decide +kernel)) (pms 46 rfl rfl) (dX_invokevirtual (by decide +kernel)) (by decide +kernel), ?_⟩
  refine ⟨sn_aload_n (k := 0) (dX_aload_0 (by decide +kernel)) rfl (by decide +kernel), ?_⟩
  refine ⟨sn_bipush (dX_bipush (by decide +kernel)) (by decide +kernel) (by decide +kernel), ?_⟩
  refine ⟨sn_callV (idx := 168) (C := RX12) (T := TX12) (N := 56) rfl (by decide) cal_182 (pmt7 104 rfl (by decide +kernel)) (pmt7 106 rfl (by decide +kernel)) (pms 48 rfl rfl) (dX_invokevirtual (by decide +kernel)) (by decide +kernel), ?_⟩
  refine ⟨sn_aload_n (k := 0) (dX_aload_0 (by decide +kernel)) rfl (by decide +kernel), ?_⟩
  refine ⟨sn_getf (C := RX12) (T := TX12) (N := 56) (idx := 42) rfl pin12 (by decide) (by decide) rfl (pmt6 163 rfl (by decide +kernel)) rfl (dX_getfield (by decide +kernel)) (by decide +kernel), ?_⟩
  refine ⟨sn_iconst (dX_iconst_3 (by decide +kernel)) (by decide +kernel), ?_⟩
  refine ⟨sn_iload (dX_iload (by decide +kernel)) (by decide +kernel), ?_⟩
  refine ⟨sn_imul (dX_imul (by decide +kernel)) (by decide +kernel), ?_⟩
  refine ⟨sn_iload (dX_iload (by decide +kernel)) (by decide +kernel), ?_⟩
  refine ⟨sn_iast (dX_iastore (by decide +kernel)) (by decide +kernel), ?_⟩
  refine ⟨sn_aload_n (k := 0) (dX_aload_0 (by decide +kernel)) rfl (by decide +kernel), ?_⟩
  refine ⟨sn_getf (C := RX12) (T := TX12) (N := 56) (idx := 42) rfl pin12 (by decide) (by decide) rfl (pmt6 163 rfl (by decide +kernel)) rfl (dX_getfield (by decide +kernel)) (by decide +kernel), ?_⟩
  refine ⟨sn_iconst (dX_iconst_3 (by decide +kernel)) (by decide +kernel), ?_⟩
  refine ⟨sn_iload (dX_iload (by decide +kernel)) (by decide +kernel), ?_⟩
  refine ⟨sn_imul (dX_imul (by decide +kernel)) (by decide +kernel), ?_⟩
  refine ⟨sn_iconst (dX_iconst_1 (by decide +kernel)) (by decide +kernel), ?_⟩
  refine ⟨sn_iadd (dX_iadd (by decide +kernel)) (by decide +kernel), ?_⟩
  refine ⟨sn_iload (dX_iload (by decide +kernel)) (by decide +kernel), ?_⟩
  refine ⟨sn_iast (dX_iastore (by decide +kernel)) (by decide +kernel), ?_⟩
  refine ⟨sn_aload_n (k := 0) (dX_aload_0 (by decide +kernel)) rfl (by decide +kernel), ?_⟩
  refine ⟨sn_getf (C := RX12) (T := TX12) (N := 56) (idx := 42) rfl pin12 (by decide) (by decide) rfl (pmt6 163 rfl (by decide +kernel)) rfl (dX_getfield (by decide +kernel)) (by decide +kernel), ?_⟩
  refine ⟨sn_iconst (dX_iconst_3 (by decide +kernel)) (by decide +kernel), ?_⟩
  refine ⟨sn_iload (dX_iload (by decide +kernel)) (by decide +kernel), ?_⟩
  refine ⟨sn_imul (dX_imul (by decide +kernel)) (by decide +kernel), ?_⟩
  refine ⟨sn_iconst (dX_iconst_2 (by decide +kernel)) (by decide +kernel), ?_⟩
  refine ⟨sn_iadd (dX_iadd (by decide +kernel)) (by decide +kernel), ?_⟩
  refine ⟨sn_aload_n (k := 0) (dX_aload_0 (by decide +kernel)) rfl (by decide +kernel), ?_⟩
  refine ⟨sn_iconst (dX_iconst_1 (by decide +kernel)) (by decide +kernel), ?_⟩
  refine ⟨sn_iconst (dX_iconst_1 (by decide +kernel)) (by decide +kernel), ?_⟩
  refine ⟨sn_bipush (dX_bipush (by decide +kernel)) (by decide +kernel) (by decide +kernel), ?_⟩
  refine ⟨sn_callV (idx := 164) (C := RX12) (T := TX12) (N := 56) rfl (by decide) cal_183 (pmt7 100 rfl (by decide +kernel)) (pmt7 102 rfl (by decide +kernel)) (pms 47 rfl rfl) (dX_invokevirtual (by decide +kernel)) (by decide +kernel), ?_⟩
  refine ⟨sn_iast (dX_iastore (by decide +kernel)) (by decide +kernel), ?_⟩
  refine ⟨sn_iinc (dX_iinc (by decide +kernel)) (by decide) (by decide +kernel), ?_⟩
  refine ⟨sn_goto (off := 67) (dX_goto (by decide +kernel)) (by decide +kernel), ?_⟩
  refine ⟨sn_aload_n (k := 0) (dX_aload_0 (by decide +kernel)) rfl (by decide +kernel), ?_⟩
  refine ⟨sn_callV (idx := 145) (C := RX12) (T := TX12) (N := 56) rfl (by decide) cal_178 (pmt7 92 rfl (by decide +kernel)) (pmt7 94 rfl (by decide +kernel)) (pms 45 rfl rfl) (dX_invokevirtual (by decide +kernel)) (by decide +kernel), ?_⟩
  refine ⟨sn_bipush (dX_bipush (by decide +kernel)) (by decide +kernel) (by decide +kernel), ?_⟩
  refine ⟨sn_icmp_ne (off := 32) (dX_if_icmpne (by decide +kernel)) (by decide +kernel) (by decide +kernel), ?_⟩
  refine ⟨sn_iload_n (k := 3) (dX_iload_3 (by decide +kernel)) rfl (by decide +kernel), ?_⟩
  refine ⟨sn_bipush (dX_bipush (by decide +kernel)) (by decide +kernel) (by decide +kernel), ?_⟩
  refine ⟨sn_icmp_ne (off := 14) (dX_if_icmpne (by decide +kernel)) (by decide +kernel) (by decide +kernel), ?_⟩
  refine ⟨sn_aload_n (k := 0) (dX_aload_0 (by decide +kernel)) rfl (by decide +kernel), ?_⟩
  refine ⟨sn_aload_n (k := 0) (dX_aload_0 (by decide +kernel)) rfl (by decide +kernel), ?_⟩
  refine ⟨sn_getf (C := RX12) (T := TX12) (N := 56) (idx := 135) rfl pin12 (by decide) (by decide) rfl (pmt6 161 rfl (by decide +kernel)) rfl (dX_getfield (by decide +kernel)) (by decide +kernel), ?_⟩
  refine ⟨sn_callV (idx := 153) (C := RX12) (T := TX12) (N := 56) rfl (by decide) cal_180 (pmt7 96 rfl (by decide +kernel)) (pmt7 98 rfl (by decide +kernel)) (pms 46 rfl rfl) (dX_invokevirtual (by decide +kernel)) (by decide +kernel), ?_⟩
  refine ⟨sn_goto (off := 9) (dX_goto (by decide +kernel)) (by decide +kernel), ?_⟩
  refine ⟨sn_aload_n (k := 0) (dX_aload_0 (by decide +kernel)) rfl (by decide +kernel), ?_⟩
  refine ⟨sn_iload_n (k := 3) (dX_iload_3 (by decide +kernel)) rfl (by decide +kernel), ?_⟩
  refine ⟨sn_iload_n (k := 2) (dX_iload_2 (by decide +kernel)) rfl (by decide +kernel), ?_⟩
  refine ⟨sn_callV (idx := 172) (C := RX12) (T := TX12) (N := 56) rfl (by decide) cal_187 (pmt7 112 rfl (by decide +kernel)) (pmt7 114 rfl (by decide +kernel)) (pms 50 rfl rfl) (dX_invokevirtual (by decide +kernel)) (by decide +kernel), ?_⟩
  refine ⟨sn_iinc (dX_iinc (by decide +kernel)) (by decide) (by decide +kernel), ?_⟩
  refine ⟨sn_goto (off := 29) (dX_goto (by decide +kernel)) (by decide +kernel), ?_⟩
  refine ⟨sn_iload_n (k := 2) (dX_iload_2 (by decide +kernel)) rfl (by decide +kernel), ?_⟩
  refine ⟨sn_bipush (dX_bipush (by decide +kernel)) (by decide +kernel) (by decide +kernel), ?_⟩
  refine ⟨sn_icmp_ne (off := 14) (dX_if_icmpne (by decide +kernel)) (by decide +kernel) (by decide +kernel), ?_⟩
  refine ⟨sn_aload_n (k := 0) (dX_aload_0 (by decide +kernel)) rfl (by decide +kernel), ?_⟩
  refine ⟨sn_aload_n (k := 0) (dX_aload_0 (by decide +kernel)) rfl (by decide +kernel), ?_⟩
  refine ⟨sn_getf (C := RX12) (T := TX12) (N := 56) (idx := 135) rfl pin12 (by decide) (by decide) rfl (pmt6 161 rfl (by decide +kernel)) rfl (dX_getfield (by decide +kernel)) (by decide +kernel), ?_⟩
  refine ⟨sn_callV (idx := 153) (C := RX12) (T := TX12) (N := 56) rfl (by decide) cal_180 (pmt7 96 rfl (by decide +kernel)) (pmt7 98 rfl (by decide +kernel)) (pms 46 rfl rfl) (dX_invokevirtual (by decide +kernel)) (by decide +kernel), ?_⟩
  refine ⟨sn_goto (off := 12) (dX_goto (by decide +kernel)) (by decide +kernel), ?_⟩
  refine ⟨sn_aload_n (k := 0) (dX_aload_0 (by decide +kernel)) rfl (by decide +kernel), ?_⟩
  refine ⟨sn_iload_n (k := 2) (dX_iload_2 (by decide +kernel)) rfl (by decide +kernel), ?_⟩
  refine ⟨sn_iload_n (k := 1) (dX_iload_1 (by decide +kernel)) rfl (by decide +kernel), ?_⟩
  refine ⟨sn_callV (idx := 176) (C := RX12) (T := TX12) (N := 56) rfl (by decide) cal_186 (pmt7 116 rfl (by decide +kernel)) (pmt7 118 rfl (by decide +kernel)) (pms 51 rfl rfl) (dX_invokevirtual (by decide +kernel)) (by decide +kernel), ?_⟩
  refine ⟨sn_iinc (dX_iinc (by decide +kernel)) (by decide) (by decide +kernel), ?_⟩
  refine ⟨sn_iinc (dX_iinc (by decide +kernel)) (by decide) (by decide +kernel), ?_⟩
  refine ⟨sn_aload_n (k := 0) (dX_aload_0 (by decide +kernel)) rfl (by decide +kernel), ?_⟩
  refine ⟨sn_bipush (dX_bipush (by decide +kernel)) (by decide +kernel) (by decide +kernel), ?_⟩
  refine ⟨sn_callV (idx := 149) (C := RX12) (T := TX12) (N := 56) rfl (by decide) cal_181 (pmt7 108 rfl (by decide +kernel)) (pmt7 110 rfl (by decide +kernel)) (pms 49 rfl rfl) (dX_invokevirtual (by decide +kernel)) (by decide +kernel), ?_⟩
  refine ⟨sn_istore (dX_istore (by decide +kernel)) (by decide) (by decide +kernel), ?_⟩
  refine ⟨sn_goto (off := -269) (dX_goto (by decide +kernel)) (by decide +kernel), ?_⟩
  refine ⟨sn_aload_n (k := 0) (dX_aload_0 (by decide +kernel)) rfl (by decide +kernel), ?_⟩
  refine ⟨sn_getf (C := RX12) (T := TX12) (N := 56) (idx := 135) rfl pin12 (by decide) (by decide) rfl (pmt6 161 rfl (by decide +kernel)) rfl (dX_getfield (by decide +kernel)) (by decide +kernel), ?_⟩
  refine ⟨sn_aload_n (k := 0) (dX_aload_0 (by decide +kernel)) rfl (by decide +kernel), ?_⟩
  refine ⟨sn_getf (C := RX12) (T := TX12) (N := 56) (idx := 129) rfl pin12 (by decide) (by decide) rfl (pmt6 159 rfl (by decide +kernel)) rfl (dX_getfield (by decide +kernel)) (by decide +kernel), ?_⟩
  refine ⟨sn_icmp_ge (off := 11) (dX_if_icmpge (by decide +kernel)) (by decide +kernel) (by decide +kernel), ?_⟩
  refine ⟨sn_aload_n (k := 0) (dX_aload_0 (by decide +kernel)) rfl (by decide +kernel), ?_⟩
  refine ⟨sn_aload_n (k := 0) (dX_aload_0 (by decide +kernel)) rfl (by decide +kernel), ?_⟩
  refine ⟨sn_getf (C := RX12) (T := TX12) (N := 56) (idx := 135) rfl pin12 (by decide) (by decide) rfl (pmt6 161 rfl (by decide +kernel)) rfl (dX_getfield (by decide +kernel)) (by decide +kernel), ?_⟩
  refine ⟨sn_callV (idx := 153) (C := RX12) (T := TX12) (N := 56) rfl (by decide) cal_180 (pmt7 96 rfl (by decide +kernel)) (pmt7 98 rfl (by decide +kernel)) (pms 46 rfl rfl) (dX_invokevirtual (by decide +kernel)) (by decide +kernel), ?_⟩
  refine ⟨sn_aload_n (k := 0) (dX_aload_0 (by decide +kernel)) rfl (by decide +kernel), ?_⟩
  refine ⟨sn_callV (idx := 141) (C := RX12) (T := TX12) (N := 56) rfl (by decide) cal_179 (pmt7 88 rfl (by decide +kernel)) (pmt7 90 rfl (by decide +kernel)) (pms 44 rfl rfl) (dX_invokevirtual (by decide +kernel)) (by decide +kernel), ?_⟩
  refine ⟨sn_if_ne (off := 10) (dX_ifne (by decide +kernel)) (by decide +kernel) (by decide +kernel), ?_⟩
  refine ⟨sn_iconst (dX_iconst_m1 (by decide +kernel)) (by decide +kernel), ?_⟩
  refine ⟨sn_aload_n (k := 0) (dX_aload_0 (by decide +kernel)) rfl (by decide +kernel), ?_⟩
  refine ⟨sn_getf (C := RX12) (T := TX12) (N := 56) (idx := 138) rfl pin12 (by decide) (by decide) rfl (pmt6 162 rfl (by decide +kernel)) rfl (dX_getfield (by decide +kernel)) (by decide +kernel), ?_⟩
  refine ⟨sn_isub (dX_isub (by decide +kernel)) (by decide +kernel), ?_⟩
  refine ⟨sn_iret rfl (dX_ireturn (by decide +kernel)), ?_⟩
  refine ⟨sn_aload_n (k := 0) (dX_aload_0 (by decide +kernel)) rfl (by decide +kernel), ?_⟩
  refine ⟨sn_getf (C := RX12) (T := TX12) (N := 56) (idx := 113) rfl pin12 (by decide) (by decide) rfl (pmt6 140 rfl (by decide +kernel)) rfl (dX_getfield (by decide +kernel)) (by decide +kernel), ?_⟩
  refine ⟨sn_istore (dX_istore (by decide +kernel)) (by decide) (by decide +kernel), ?_⟩
  refine ⟨sn_iload (dX_iload (by decide +kernel)) (by decide +kernel), ?_⟩
  refine ⟨sn_iload_n (k := 1) (dX_iload_1 (by decide +kernel)) rfl (by decide +kernel), ?_⟩
  refine ⟨sn_icmp_ge (off := 53) (dX_if_icmpge (by decide +kernel)) (by decide +kernel) (by decide +kernel), ?_⟩
  refine ⟨sn_iconst (dX_iconst_0 (by decide +kernel)) (by decide +kernel), ?_⟩
  refine ⟨sn_istore (dX_istore (by decide +kernel)) (by decide) (by decide +kernel), ?_⟩
  refine ⟨sn_iload (dX_iload (by decide +kernel)) (by decide +kernel), ?_⟩
  refine ⟨sn_bipush (dX_bipush (by decide +kernel)) (by decide +kernel) (by decide +kernel), ?_⟩
  refine ⟨sn_icmp_ge (off := 37) (dX_if_icmpge (by decide +kernel)) (by decide +kernel) (by decide +kernel), ?_⟩
  refine ⟨sn_aload_n (k := 0) (dX_aload_0 (by decide +kernel)) rfl (by decide +kernel), ?_⟩
  refine ⟨sn_getf (C := RX12) (T := TX12) (N := 56) (idx := 13) rfl pin12 (by decide) (by decide) rfl (pmt6 142 rfl (by decide +kernel)) rfl (dX_getfield (by decide +kernel)) (by decide +kernel), ?_⟩
  refine ⟨sn_bipush (dX_bipush (by decide +kernel)) (by decide +kernel) (by decide +kernel), ?_⟩
  refine ⟨sn_iload (dX_iload (by decide +kernel)) (by decide +kernel), ?_⟩
  refine ⟨sn_imul (dX_imul (by decide +kernel)) (by decide +kernel), ?_⟩
  refine ⟨sn_iload (dX_iload (by decide +kernel)) (by decide +kernel), ?_⟩
  refine ⟨sn_iadd (dX_iadd (by decide +kernel)) (by decide +kernel), ?_⟩
  refine ⟨sn_iconst (dX_iconst_0 (by decide +kernel)) (by decide +kernel), ?_⟩
  refine ⟨sn_iast (dX_iastore (by decide +kernel)) (by decide +kernel), ?_⟩
  refine ⟨sn_aload_n (k := 0) (dX_aload_0 (by decide +kernel)) rfl (by decide +kernel), ?_⟩
  refine ⟨sn_getf (C := RX12) (T := TX12) (N := 56) (idx := 13) rfl pin12 (by decide) (by decide) rfl (pmt6 142 rfl (by decide +kernel)) rfl (dX_getfield (by decide +kernel)) (by decide +kernel), ?_⟩
  refine ⟨sn_bipush (dX_bipush (by decide +kernel)) (by decide +kernel) (by decide +kernel), ?_⟩
  refine ⟨sn_iload (dX_iload (by decide +kernel)) (by decide +kernel), ?_⟩
  refine ⟨sn_imul (dX_imul (by decide +kernel)) (by decide +kernel), ?_⟩
  refine ⟨sn_iload (dX_iload (by decide +kernel)) (by decide +kernel), ?_⟩
  refine ⟨sn_iadd (dX_iadd (by decide +kernel)) (by decide +kernel), ?_⟩
  refine ⟨sn_iconst (dX_iconst_0 (by decide +kernel)) (by decide +kernel), ?_⟩
  refine ⟨sn_iast (dX_iastore (by decide +kernel)) (by decide +kernel), ?_⟩
  refine ⟨sn_iinc (dX_iinc (by decide +kernel)) (by decide) (by decide +kernel), ?_⟩
  refine ⟨sn_goto (off := -38) (dX_goto (by decide +kernel)) (by decide +kernel), ?_⟩
  refine ⟨sn_iinc (dX_iinc (by decide +kernel)) (by decide) (by decide +kernel), ?_⟩
  refine ⟨sn_goto (off := -53) (dX_goto (by decide +kernel)) (by decide +kernel), ?_⟩
  refine ⟨sn_iconst (dX_iconst_0 (by decide +kernel)) (by decide +kernel), ?_⟩
  refine ⟨sn_istore (dX_istore (by decide +kernel)) (by decide) (by decide +kernel), ?_⟩
  refine ⟨sn_iload (dX_iload (by decide +kernel)) (by decide +kernel), ?_⟩
  refine ⟨sn_iload (dX_iload (by decide +kernel)) (by decide +kernel), ?_⟩
  refine ⟨sn_icmp_ge (off := 44) (dX_if_icmpge (by decide +kernel)) (by decide +kernel) (by decide +kernel), ?_⟩
  refine ⟨sn_aload_n (k := 0) (dX_aload_0 (by decide +kernel)) rfl (by decide +kernel), ?_⟩
  refine ⟨sn_aload_n (k := 0) (dX_aload_0 (by decide +kernel)) rfl (by decide +kernel), ?_⟩
  refine ⟨sn_getf (C := RX12) (T := TX12) (N := 56) (idx := 42) rfl pin12 (by decide) (by decide) rfl (pmt6 163 rfl (by decide +kernel)) rfl (dX_getfield (by decide +kernel)) (by decide +kernel), ?_⟩
  refine ⟨sn_iconst (dX_iconst_3 (by decide +kernel)) (by decide +kernel), ?_⟩
  refine ⟨sn_iload (dX_iload (by decide +kernel)) (by decide +kernel), ?_⟩
  refine ⟨sn_imul (dX_imul (by decide +kernel)) (by decide +kernel), ?_⟩
  refine ⟨sn_iald (dX_iaload (by decide +kernel)) (by decide +kernel), ?_⟩
  refine ⟨sn_aload_n (k := 0) (dX_aload_0 (by decide +kernel)) rfl (by decide +kernel), ?_⟩
  refine ⟨sn_getf (C := RX12) (T := TX12) (N := 56) (idx := 42) rfl pin12 (by decide) (by decide) rfl (pmt6 163 rfl (by decide +kernel)) rfl (dX_getfield (by decide +kernel)) (by decide +kernel), ?_⟩
  refine ⟨sn_iconst (dX_iconst_3 (by decide +kernel)) (by decide +kernel), ?_⟩
  refine ⟨sn_iload (dX_iload (by decide +kernel)) (by decide +kernel), ?_⟩
  refine ⟨sn_imul (dX_imul (by decide +kernel)) (by decide +kernel), ?_⟩
  refine ⟨sn_iconst (dX_iconst_1 (by decide +kernel)) (by decide +kernel), ?_⟩
  refine ⟨sn_iadd (dX_iadd (by decide +kernel)) (by decide +kernel), ?_⟩
  refine ⟨sn_iald (dX_iaload (by decide +kernel)) (by decide +kernel), ?_⟩
  refine ⟨sn_aload_n (k := 0) (dX_aload_0 (by decide +kernel)) rfl (by decide +kernel), ?_⟩
  refine ⟨sn_getf (C := RX12) (T := TX12) (N := 56) (idx := 42) rfl pin12 (by decide) (by decide) rfl (pmt6 163 rfl (by decide +kernel)) rfl (dX_getfield (by decide +kernel)) (by decide +kernel), ?_⟩
  refine ⟨sn_iconst (dX_iconst_3 (by decide +kernel)) (by decide +kernel), ?_⟩
  refine ⟨sn_iload (dX_iload (by decide +kernel)) (by decide +kernel), ?_⟩
  refine ⟨sn_imul (dX_imul (by decide +kernel)) (by decide +kernel), ?_⟩
  refine ⟨sn_iconst (dX_iconst_2 (by decide +kernel)) (by decide +kernel), ?_⟩
  refine ⟨sn_iadd (dX_iadd (by decide +kernel)) (by decide +kernel), ?_⟩
  refine ⟨sn_iald (dX_iaload (by decide +kernel)) (by decide +kernel), ?_⟩
  refine ⟨sn_callV (idx := 179) (C := RX12) (T := TX12) (N := 56) rfl (by decide) cal_185 (pmt7 120 rfl (by decide +kernel)) (pmt7 122 rfl (by decide +kernel)) (pms 52 rfl rfl) (dX_invokevirtual (by decide +kernel)) (by decide +kernel), ?_⟩
  refine ⟨sn_iinc (dX_iinc (by decide +kernel)) (by decide) (by decide +kernel), ?_⟩
  refine ⟨sn_goto (off := -45) (dX_goto (by decide +kernel)) (by decide +kernel), ?_⟩
  refine ⟨sn_iload_n (k := 1) (dX_iload_1 (by decide +kernel)) rfl (by decide +kernel), ?_⟩
  refine ⟨sn_aload_n (k := 0) (dX_aload_0 (by decide +kernel)) rfl (by decide +kernel), ?_⟩
  refine ⟨sn_getf (C := RX12) (T := TX12) (N := 56) (idx := 113) rfl pin12 (by decide) (by decide) rfl (pmt6 140 rfl (by decide +kernel)) rfl (dX_getfield (by decide +kernel)) (by decide +kernel), ?_⟩
  refine ⟨sn_icmp_gt (off := 11) (dX_if_icmpgt (by decide +kernel)) (by decide +kernel) (by decide +kernel), ?_⟩
  refine ⟨sn_iload_n (k := 2) (dX_iload_2 (by decide +kernel)) rfl (by decide +kernel), ?_⟩
  refine ⟨sn_aload_n (k := 0) (dX_aload_0 (by decide +kernel)) rfl (by decide +kernel), ?_⟩
  refine ⟨sn_getf (C := RX12) (T := TX12) (N := 56) (idx := 120) rfl pin12 (by decide) (by decide) rfl (pmt6 143 rfl (by decide +kernel)) rfl (dX_getfield (by decide +kernel)) (by decide +kernel), ?_⟩
  refine ⟨sn_icmp_le (off := 13) (dX_if_icmple (by decide +kernel)) (by decide +kernel) (by decide +kernel), ?_⟩
  refine ⟨sn_aload_n (k := 0) (dX_aload_0 (by decide +kernel)) rfl (by decide +kernel), ?_⟩
  refine ⟨sn_dup (dX_dup (by decide +kernel)) (by decide +kernel), ?_⟩
  refine ⟨sn_getf (C := RX12) (T := TX12) (N := 56) (idx := 183) rfl pin12 (by decide) (by decide) rfl (pmt6 192 rfl (by decide +kernel)) rfl (dX_getfield (by decide +kernel)) (by decide +kernel), ?_⟩
  refine ⟨sn_iconst (dX_iconst_1 (by decide +kernel)) (by decide +kernel), ?_⟩
  refine ⟨sn_iadd (dX_iadd (by decide +kernel)) (by decide +kernel), ?_⟩
  refine ⟨sn_puti (C := RX12) (T := TX12) (N := 56) (idx := 183) rfl pin12 (by decide) (by decide) rfl tyX12 tyX12_ok nmX12 rfl rfl (by decide +kernel) (pmt6 192 rfl (by decide +kernel)) rfl (dX_putfield (by decide +kernel)) (by decide +kernel), ?_⟩
  refine ⟨sn_aload_n (k := 0) (dX_aload_0 (by decide +kernel)) rfl (by decide +kernel), ?_⟩
  refine ⟨sn_iload_n (k := 1) (dX_iload_1 (by decide +kernel)) rfl (by decide +kernel), ?_⟩
  refine ⟨sn_puti (C := RX12) (T := TX12) (N := 56) (idx := 113) rfl pin12 (by decide) (by decide) rfl tyX12 tyX12_ok nmX12 rfl rfl (by decide +kernel) (pmt6 140 rfl (by decide +kernel)) rfl (dX_putfield (by decide +kernel)) (by decide +kernel), ?_⟩
  refine ⟨sn_aload_n (k := 0) (dX_aload_0 (by decide +kernel)) rfl (by decide +kernel), ?_⟩
  refine ⟨sn_iload_n (k := 2) (dX_iload_2 (by decide +kernel)) rfl (by decide +kernel), ?_⟩
  refine ⟨sn_puti (C := RX12) (T := TX12) (N := 56) (idx := 120) rfl pin12 (by decide) (by decide) rfl tyX12 tyX12_ok nmX12 rfl rfl (by decide +kernel) (pmt6 143 rfl (by decide +kernel)) rfl (dX_putfield (by decide +kernel)) (by decide +kernel), ?_⟩
  refine ⟨sn_aload_n (k := 0) (dX_aload_0 (by decide +kernel)) rfl (by decide +kernel), ?_⟩
  refine ⟨sn_iload_n (k := 3) (dX_iload_3 (by decide +kernel)) rfl (by decide +kernel), ?_⟩
  refine ⟨sn_puti (C := RX12) (T := TX12) (N := 56) (idx := 161) rfl pin12 (by decide) (by decide) rfl tyX12 tyX12_ok nmX12 rfl rfl (by decide +kernel) (pmt6 148 rfl (by decide +kernel)) rfl (dX_putfield (by decide +kernel)) (by decide +kernel), ?_⟩
  refine ⟨sn_aload_n (k := 0) (dX_aload_0 (by decide +kernel)) rfl (by decide +kernel), ?_⟩
  refine ⟨sn_iconst (dX_iconst_0 (by decide +kernel)) (by decide +kernel), ?_⟩
  refine ⟨sn_puti (C := RX12) (T := TX12) (N := 56) (idx := 186) rfl pin12 (by decide) (by decide) rfl tyX12 tyX12_ok nmX12 rfl rfl (by decide +kernel) (pmt6 173 rfl (by decide +kernel)) rfl (dX_putfield (by decide +kernel)) (by decide +kernel), ?_⟩
  refine ⟨sn_iload (dX_iload (by decide +kernel)) (by decide +kernel), ?_⟩
  refine ⟨sn_iret rfl (dX_ireturn (by decide +kernel)), ?_⟩
  trivial
set_option maxRecDepth 100000 in
set_option maxHeartbeats 4000000 in
theorem S_185 : pAll (pSk RX12 cX12_put 4 none PC_185) 0 C_185 := by
  refine ⟨sn_aload_n (k := 0) (dX_aload_0 (by decide +kernel)) rfl (by decide +kernel), ?_⟩
  refine ⟨sn_getf (C := RX12) (T := TX12) (N := 56) (idx := 13) rfl pin12 (by decide) (by decide) rfl (pmt6 142 rfl (by decide +kernel)) rfl (dX_getfield (by decide +kernel)) (by decide +kernel), ?_⟩
  refine ⟨sn_bipush (dX_bipush (by decide +kernel)) (by decide +kernel) (by decide +kernel), ?_⟩
  refine ⟨sn_iload_n (k := 1) (dX_iload_1 (by decide +kernel)) rfl (by decide +kernel), ?_⟩
  refine ⟨sn_imul (dX_imul (by decide +kernel)) (by decide +kernel), ?_⟩
  refine ⟨sn_iload_n (k := 2) (dX_iload_2 (by decide +kernel)) rfl (by decide +kernel), ?_⟩
  refine ⟨sn_iadd (dX_iadd (by decide +kernel)) (by decide +kernel), ?_⟩
  refine ⟨sn_iload_n (k := 3) (dX_iload_3 (by decide +kernel)) rfl (by decide +kernel), ?_⟩
  refine ⟨sn_iast (dX_iastore (by decide +kernel)) (by decide +kernel), ?_⟩
  refine ⟨sn_aload_n (k := 0) (dX_aload_0 (by decide +kernel)) rfl (by decide +kernel), ?_⟩
  refine ⟨sn_getf (C := RX12) (T := TX12) (N := 56) (idx := 13) rfl pin12 (by decide) (by decide) rfl (pmt6 142 rfl (by decide +kernel)) rfl (dX_getfield (by decide +kernel)) (by decide +kernel), ?_⟩
  refine ⟨sn_bipush (dX_bipush (by decide +kernel)) (by decide +kernel) (by decide +kernel), ?_⟩
  refine ⟨sn_iload_n (k := 2) (dX_iload_2 (by decide +kernel)) rfl (by decide +kernel), ?_⟩
  refine ⟨sn_imul (dX_imul (by decide +kernel)) (by decide +kernel), ?_⟩
  refine ⟨sn_iload_n (k := 1) (dX_iload_1 (by decide +kernel)) rfl (by decide +kernel), ?_⟩
  refine ⟨sn_iadd (dX_iadd (by decide +kernel)) (by decide +kernel), ?_⟩
  refine ⟨sn_iload_n (k := 3) (dX_iload_3 (by decide +kernel)) rfl (by decide +kernel), ?_⟩
  refine ⟨sn_iast (dX_iastore (by decide +kernel)) (by decide +kernel), ?_⟩
  refine ⟨sn_vret rfl (dX_return (by decide +kernel)), ?_⟩
  trivial
set_option maxRecDepth 100000 in
set_option maxHeartbeats 4000000 in
theorem S_186 : pAll (pSk RX12 cX12_readThing 3 none PC_186) 0 C_186 := by
  refine ⟨sn_aload_n (k := 0) (dX_aload_0 (by decide +kernel)) rfl (by decide +kernel), ?_⟩
  refine ⟨sn_getf (C := RX12) (T := TX12) (N := 56) (idx := 16) rfl pin12 (by decide) (by decide) rfl (pmt6 144 rfl (by decide +kernel)) rfl (dX_getfield (by decide +kernel)) (by decide +kernel), ?_⟩
  refine ⟨sn_iload_n (k := 1) (dX_iload_1 (by decide +kernel)) rfl (by decide +kernel), ?_⟩
  refine ⟨sn_aload_n (k := 0) (dX_aload_0 (by decide +kernel)) rfl (by decide +kernel), ?_⟩
  refine ⟨sn_iconst (dX_iconst_2 (by decide +kernel)) (by decide +kernel), ?_⟩
  refine ⟨sn_iconst (dX_iconst_1 (by decide +kernel)) (by decide +kernel), ?_⟩
  refine ⟨sn_bipush (dX_bipush (by decide +kernel)) (by decide +kernel) (by decide +kernel), ?_⟩
  refine ⟨sn_callV (idx := 164) (C := RX12) (T := TX12) (N := 56) rfl (by decide) cal_183 (pmt7 100 rfl (by decide +kernel)) (pmt7 102 rfl (by decide +kernel)) (pms 47 rfl rfl) (dX_invokevirtual (by decide +kernel)) (by decide +kernel), ?_⟩
  refine ⟨sn_iast (dX_iastore (by decide +kernel)) (by decide +kernel), ?_⟩
  refine ⟨sn_aload_n (k := 0) (dX_aload_0 (by decide +kernel)) rfl (by decide +kernel), ?_⟩
  refine ⟨sn_bipush (dX_bipush (by decide +kernel)) (by decide +kernel) (by decide +kernel), ?_⟩
  refine ⟨sn_callV (idx := 168) (C := RX12) (T := TX12) (N := 56) rfl (by decide) cal_182 (pmt7 104 rfl (by decide +kernel)) (pmt7 106 rfl (by decide +kernel)) (pms 48 rfl rfl) (dX_invokevirtual (by decide +kernel)) (by decide +kernel), ?_⟩
  refine ⟨sn_aload_n (k := 0) (dX_aload_0 (by decide +kernel)) rfl (by decide +kernel), ?_⟩
  refine ⟨sn_getf (C := RX12) (T := TX12) (N := 56) (idx := 19) rfl pin12 (by decide) (by decide) rfl (pmt6 145 rfl (by decide +kernel)) rfl (dX_getfield (by decide +kernel)) (by decide +kernel), ?_⟩
  refine ⟨sn_iload_n (k := 1) (dX_iload_1 (by decide +kernel)) rfl (by decide +kernel), ?_⟩
  refine ⟨sn_aload_n (k := 0) (dX_aload_0 (by decide +kernel)) rfl (by decide +kernel), ?_⟩
  refine ⟨sn_iconst (dX_iconst_1 (by decide +kernel)) (by decide +kernel), ?_⟩
  refine ⟨sn_iconst (dX_iconst_1 (by decide +kernel)) (by decide +kernel), ?_⟩
  refine ⟨sn_bipush (dX_bipush (by decide +kernel)) (by decide +kernel) (by decide +kernel), ?_⟩
  refine ⟨sn_callV (idx := 164) (C := RX12) (T := TX12) (N := 56) rfl (by decide) cal_183 (pmt7 100 rfl (by decide +kernel)) (pmt7 102 rfl (by decide +kernel)) (pms 47 rfl rfl) (dX_invokevirtual (by decide +kernel)) (by decide +kernel), ?_⟩
  refine ⟨sn_iast (dX_iastore (by decide +kernel)) (by decide +kernel), ?_⟩
  refine ⟨sn_aload_n (k := 0) (dX_aload_0 (by decide +kernel)) rfl (by decide +kernel), ?_⟩
  refine ⟨sn_bipush (dX_bipush (by decide +kernel)) (by decide +kernel) (by decide +kernel), ?_⟩
  refine ⟨sn_callV (idx := 168) (C := RX12) (T := TX12) (N := 56) rfl (by decide) cal_182 (pmt7 104 rfl (by decide +kernel)) (pmt7 106 rfl (by decide +kernel)) (pms 48 rfl rfl) (dX_invokevirtual (by decide +kernel)) (by decide +kernel), ?_⟩
  refine ⟨sn_aload_n (k := 0) (dX_aload_0 (by decide +kernel)) rfl (by decide +kernel), ?_⟩
  refine ⟨sn_getf (C := RX12) (T := TX12) (N := 56) (idx := 22) rfl pin12 (by decide) (by decide) rfl (pmt6 146 rfl (by decide +kernel)) rfl (dX_getfield (by decide +kernel)) (by decide +kernel), ?_⟩
  refine ⟨sn_iload_n (k := 1) (dX_iload_1 (by decide +kernel)) rfl (by decide +kernel), ?_⟩
  refine ⟨sn_aload_n (k := 0) (dX_aload_0 (by decide +kernel)) rfl (by decide +kernel), ?_⟩
  refine ⟨sn_iconst (dX_iconst_1 (by decide +kernel)) (by decide +kernel), ?_⟩
  refine ⟨sn_iconst (dX_iconst_1 (by decide +kernel)) (by decide +kernel), ?_⟩
  refine ⟨sn_bipush (dX_bipush (by decide +kernel)) (by decide +kernel) (by decide +kernel), ?_⟩
  refine ⟨sn_callV (idx := 164) (C := RX12) (T := TX12) (N := 56) rfl (by decide) cal_183 (pmt7 100 rfl (by decide +kernel)) (pmt7 102 rfl (by decide +kernel)) (pms 47 rfl rfl) (dX_invokevirtual (by decide +kernel)) (by decide +kernel), ?_⟩
  refine ⟨sn_iast (dX_iastore (by decide +kernel)) (by decide +kernel), ?_⟩
  refine ⟨sn_aload_n (k := 0) (dX_aload_0 (by decide +kernel)) rfl (by decide +kernel), ?_⟩
  refine ⟨sn_bipush (dX_bipush (by decide +kernel)) (by decide +kernel) (by decide +kernel), ?_⟩
  refine ⟨sn_callV (idx := 168) (C := RX12) (T := TX12) (N := 56) rfl (by decide) cal_182 (pmt7 104 rfl (by decide +kernel)) (pmt7 106 rfl (by decide +kernel)) (pms 48 rfl rfl) (dX_invokevirtual (by decide +kernel)) (by decide +kernel), ?_⟩
  refine ⟨sn_aload_n (k := 0) (dX_aload_0 (by decide +kernel)) rfl (by decide +kernel), ?_⟩
  refine ⟨sn_getf (C := RX12) (T := TX12) (N := 56) (idx := 25) rfl pin12 (by decide) (by decide) rfl (pmt6 147 rfl (by decide +kernel)) rfl (dX_getfield (by decide +kernel)) (by decide +kernel), ?_⟩
  refine ⟨sn_iload_n (k := 1) (dX_iload_1 (by decide +kernel)) rfl (by decide +kernel), ?_⟩
  refine ⟨sn_aload_n (k := 0) (dX_aload_0 (by decide +kernel)) rfl (by decide +kernel), ?_⟩
  refine ⟨sn_iconst (dX_iconst_1 (by decide +kernel)) (by decide +kernel), ?_⟩
  refine ⟨sn_iconst (dX_iconst_0 (by decide +kernel)) (by decide +kernel), ?_⟩
  refine ⟨sn_iload_n (k := 2) (dX_iload_2 (by decide +kernel)) rfl (by decide +kernel), ?_⟩
  refine ⟨sn_iconst (dX_iconst_1 (by decide +kernel)) (by decide +kernel), ?_⟩
  refine ⟨sn_isub (dX_isub (by decide +kernel)) (by decide +kernel), ?_⟩
  refine ⟨sn_callV (idx := 164) (C := RX12) (T := TX12) (N := 56) rfl (by decide) cal_183 (pmt7 100 rfl (by decide +kernel)) (pmt7 102 rfl (by decide +kernel)) (pms 47 rfl rfl) (dX_invokevirtual (by decide +kernel)) (by decide +kernel), ?_⟩
  refine ⟨sn_iast (dX_iastore (by decide +kernel)) (by decide +kernel), ?_⟩
  refine ⟨sn_vret rfl (dX_return (by decide +kernel)), ?_⟩
  trivial
set_option maxRecDepth 100000 in
set_option maxHeartbeats 4000000 in
theorem S_187 : pAll (pSk RX12 cX12_readSet 6 none PC_187) 0 C_187 := by
  refine ⟨sn_aload_n (k := 0) (dX_aload_0 (by decide +kernel)) rfl (by decide +kernel), ?_⟩
  refine ⟨sn_dup (dX_dup (by decide +kernel)) (by decide +kernel), ?_⟩
  refine ⟨sn_getf (C := RX12) (T := TX12) (N := 56) (idx := 135) rfl pin12 (by decide) (by decide) rfl (pmt6 161 rfl (by decide +kernel)) rfl (dX_getfield (by decide +kernel)) (by decide +kernel), ?_⟩
  refine ⟨sn_iconst (dX_iconst_1 (by decide +kernel)) (by decide +kernel), ?_⟩
  refine ⟨sn_iadd (dX_iadd (by decide +kernel)) (by decide +kernel), ?_⟩
  refine ⟨sn_puti (C := RX12) (T := TX12) (N := 56) (idx := 135) rfl pin12 (by decide) (by decide) rfl tyX12 tyX12_ok nmX12 rfl rfl (by decide +kernel) (pmt6 161 rfl (by decide +kernel)) rfl (dX_putfield (by decide +kernel)) (by decide +kernel), ?_⟩
  refine ⟨sn_iconst (dX_iconst_0 (by decide +kernel)) (by decide +kernel), ?_⟩
  refine ⟨sn_istore_n (k := 3) (dX_istore_3 (by decide +kernel)) rfl (by decide) (by decide +kernel), ?_⟩
  refine ⟨sn_iconst (dX_iconst_m1 (by decide +kernel)) (by decide +kernel), ?_⟩
  refine ⟨sn_istore (dX_istore (by decide +kernel)) (by decide) (by decide +kernel), ?_⟩
  refine ⟨sn_aload_n (k := 0) (dX_aload_0 (by decide +kernel)) rfl (by decide +kernel), ?_⟩
  refine ⟨sn_callV (idx := 141) (C := RX12) (T := TX12) (N := 56) rfl (by decide) cal_179 (pmt7 88 rfl (by decide +kernel)) (pmt7 90 rfl (by decide +kernel)) (pms 44 rfl rfl) (dX_invokevirtual (by decide +kernel)) (by decide +kernel), ?_⟩
  refine ⟨sn_if_eq (off := 72) (dX_ifeq (by decide +kernel)) (by decide +kernel) (by decide +kernel), ?_⟩
  refine ⟨sn_aload_n (k := 0) (dX_aload_0 (by decide +kernel)) rfl (by decide +kernel), ?_⟩
  refine ⟨sn_callV (idx := 145) (C := RX12) (T := TX12) (N := 56) rfl (by decide) cal_178 (pmt7 92 rfl (by decide +kernel)) (pmt7 94 rfl (by decide +kernel)) (pms 45 rfl rfl) (dX_invokevirtual (by decide +kernel)) (by decide +kernel), ?_⟩
  refine ⟨sn_bipush (dX_bipush (by decide +kernel)) (by decide +kernel) (by decide +kernel), ?_⟩
  refine ⟨sn_bipush (dX_bipush (by decide +kernel)) (by decide +kernel) (by decide +kernel), ?_⟩
  refine ⟨sn_callS (idx := 116) cal_169 (pmt7 77 rfl (by decide +kernel)) (pmt7 78 rfl (by decide +kernel)) (dX_invokestatic (by decide +kernel)) (by decide +kernel), ?_⟩
  refine ⟨sn_if_eq (off := 58) (dX_ifeq (by decide +kernel)) (by decide +kernel) (by decide +kernel), ?_⟩
  refine ⟨sn_aload_n (k := 0) (dX_aload_0 (by decide +kernel)) rfl (by decide +kernel), ?_⟩
  refine ⟨sn_callV (idx := 145) (C := RX12) (T := TX12) (N := 56) rfl (by decide) cal_178 (pmt7 92 rfl (by decide +kernel)) (pmt7 94 rfl (by decide +kernel)) (pms 45 rfl rfl) (dX_invokevirtual (by decide +kernel)) (by decide +kernel), ?_⟩
  refine ⟨sn_bipush (dX_bipush (by decide +kernel)) (by decide +kernel) (by decide +kernel), ?_⟩
  refine ⟨sn_isub (dX_isub (by decide +kernel)) (by decide +kernel), ?_⟩
  refine ⟨sn_istore (dX_istore (by decide +kernel)) (by decide) (by decide +kernel), ?_⟩
  refine ⟨sn_iload (dX_iload (by decide +kernel)) (by decide +kernel), ?_⟩
  refine ⟨sn_iload (dX_iload (by decide +kernel)) (by decide +kernel), ?_⟩
  refine ⟨sn_icmp_le (off := 9) (dX_if_icmple (by decide +kernel)) (by decide +kernel) (by decide +kernel), ?_⟩
  refine ⟨sn_iload (dX_iload (by decide +kernel)) (by decide +kernel), ?_⟩
  refine ⟨sn_iload_n (k := 2) (dX_iload_2 (by decide +kernel)) rfl (by decide +kernel), ?_⟩
  refine ⟨sn_icmp_lt (off := 12) (dX_if_icmplt (by decide +kernel)) (by decide +kernel) (by decide +kernel), ?_⟩
  refine ⟨sn_aload_n (k := 0) (dX_aload_0 (by decide +kernel)) rfl (by decide +kernel), ?_⟩
  refine ⟨sn_aload_n (k := 0) (dX_aload_0 (by decide +kernel)) rfl (by decide +kernel), ?_⟩
  refine ⟨sn_getf (C := RX12) (T := TX12) (N := 56) (idx := 135) rfl pin12 (by decide) (by decide) rfl (pmt6 161 rfl (by decide +kernel)) rfl (dX_getfield (by decide +kernel)) (by decide +kernel), ?_⟩
  refine ⟨sn_callV (idx := 153) (C := RX12) (T := TX12) (N := 56) rfl (by decide) cal_180 (pmt7 96 rfl (by decide +kernel)) (pmt7 98 rfl (by decide +kernel)) (pms 46 rfl rfl) (dX_invokevirtual (by decide +kernel)) (by decide +kernel), ?_⟩
  refine ⟨sn_vret rfl (dX_return (by decide +kernel)), ?_⟩
  refine ⟨sn_iload_n (k := 3) (dX_iload_3 (by decide +kernel)) rfl (by decide +kernel), ?_⟩
  refine ⟨sn_iconst (dX_iconst_1 (by decide +kernel)) (by decide +kernel), ?_⟩
  refine ⟨sn_iload (dX_iload (by decide +kernel)) (by decide +kernel), ?_⟩
  refine ⟨sn_ishl (dX_ishl (by decide +kernel)) (by decide +kernel), ?_⟩
  refine ⟨sn_ior (dX_ior (by decide +kernel)) (by decide +kernel), ?_⟩
  refine ⟨sn_istore_n (k := 3) (dX_istore_3 (by decide +kernel)) rfl (by decide) (by decide +kernel), ?_⟩
  refine ⟨sn_iload (dX_iload (by decide +kernel)) (by decide +kernel), ?_⟩
  refine ⟨sn_istore (dX_istore (by decide +kernel)) (by decide) (by decide +kernel), ?_⟩
  refine ⟨sn_aload_n (k := 0) (dX_aload_0 (by decide +kernel)) rfl (by decide +kernel), ?_⟩
  refine ⟨sn_dup (dX_dup (by decide +kernel)) (by decide +kernel), ?_⟩
  refine ⟨sn_getf (C := RX12) (T := TX12) (N := 56) (idx := 135) rfl pin12 (by decide) (by decide) rfl (pmt6 161 rfl (by decide +kernel)) rfl (dX_getfield (by decide +kernel)) (by decide +kernel), ?_⟩
  refine ⟨sn_iconst (dX_iconst_1 (by decide +kernel)) (by decide +kernel), ?_⟩
  refine ⟨sn_iadd (dX_iadd (by decide +kernel)) (by decide +kernel), ?_⟩
  refine ⟨sn_puti (C := RX12) (T := TX12) (N := 56) (idx := 135) rfl pin12 (by decide) (by decide) rfl tyX12 tyX12_ok nmX12 rfl rfl (by decide +kernel) (pmt6 161 rfl (by decide +kernel)) rfl (dX_putfield (by decide +kernel)) (by decide +kernel), ?_⟩
  refine ⟨sn_goto (off := -73) (dX_goto (by decide +kernel)) (by decide +kernel), ?_⟩
  refine ⟨sn_iload_n (k := 3) (dX_iload_3 (by decide +kernel)) rfl (by decide +kernel), ?_⟩
  refine ⟨sn_if_ne (off := 11) (dX_ifne (by decide +kernel)) (by decide +kernel) (by decide +kernel), ?_⟩
  refine ⟨sn_aload_n (k := 0) (dX_aload_0 (by decide +kernel)) rfl (by decide +kernel), ?_⟩
  refine ⟨sn_aload_n (k := 0) (dX_aload_0 (by decide +kernel)) rfl (by decide +kernel), ?_⟩
  refine ⟨sn_getf (C := RX12) (T := TX12) (N := 56) (idx := 135) rfl pin12 (by decide) (by decide) rfl (pmt6 161 rfl (by decide +kernel)) rfl (dX_getfield (by decide +kernel)) (by decide +kernel), ?_⟩
  refine ⟨sn_callV (idx := 153) (C := RX12) (T := TX12) (N := 56) rfl (by decide) cal_180 (pmt7 96 rfl (by decide +kernel)) (pmt7 98 rfl (by decide +kernel)) (pms 46 rfl rfl) (dX_invokevirtual (by decide +kernel)) (by decide +kernel), ?_⟩
  refine ⟨sn_aload_n (k := 0) (dX_aload_0 (by decide +kernel)) rfl (by decide +kernel), ?_⟩
  refine ⟨sn_getf (C := RX12) (T := TX12) (N := 56) (idx := 28) rfl pin12 (by decide) (by decide) rfl (pmt6 149 rfl (by decide +kernel)) rfl (dX_getfield (by decide +kernel)) (by decide +kernel), ?_⟩
  refine ⟨sn_iload_n (k := 1) (dX_iload_1 (by decide +kernel)) rfl (by decide +kernel), ?_⟩
  refine ⟨sn_iload_n (k := 3) (dX_iload_3 (by decide +kernel)) rfl (by decide +kernel), ?_⟩
  refine ⟨sn_iast (dX_iastore (by decide +kernel)) (by decide +kernel), ?_⟩
  refine ⟨sn_vret rfl (dX_return (by decide +kernel)), ?_⟩
  trivial
set_option maxRecDepth 100000 in
set_option maxHeartbeats 4000000 in
theorem S_188 : pAll (pSk RX12 cX12_held 3 (some .int) PC_188) 0 C_188 := by
  refine ⟨sn_aload_n (k := 0) (dX_aload_0 (by decide +kernel)) rfl (by decide +kernel), ?_⟩
  refine ⟨sn_iload_n (k := 1) (dX_iload_1 (by decide +kernel)) rfl (by decide +kernel), ?_⟩
  refine ⟨sn_callV (idx := 189) (C := RX12) (T := TX12) (N := 56) rfl (by decide) cal_189 (pmt7 132 rfl (by decide +kernel)) (pmt7 134 rfl (by decide +kernel)) (pms 54 rfl rfl) (dX_invokevirtual (by decide +kernel)) (by decide +kernel), ?_⟩
  refine ⟨sn_istore_n (k := 2) (dX_istore_2 (by decide +kernel)) rfl (by decide) (by decide +kernel), ?_⟩
  refine ⟨sn_aload_n (k := 0) (dX_aload_0 (by decide +kernel)) rfl (by decide +kernel), ?_⟩
  refine ⟨sn_bipush (dX_bipush (by decide +kernel)) (by decide +kernel) (by decide +kernel), ?_⟩
  refine ⟨sn_callV (idx := 149) (C := RX12) (T := TX12) (N := 56) rfl (by decide) cal_181 (pmt7 108 rfl (by decide +kernel)) (pmt7 110 rfl (by decide +kernel)) (pms 49 rfl rfl) (dX_invokevirtual (by decide +kernel)) (by decide +kernel), ?_⟩
  refine ⟨sn_if_eq (off := 18) (dX_ifeq (by decide +kernel)) (by decide +kernel) (by decide +kernel), ?_⟩
  refine ⟨sn_iload_n (k := 2) (dX_iload_2 (by decide +kernel)) rfl (by decide +kernel), ?_⟩
  refine ⟨sn_aload_n (k := 0) (dX_aload_0 (by decide +kernel)) rfl (by decide +kernel), ?_⟩
  refine ⟨sn_iload_n (k := 1) (dX_iload_1 (by decide +kernel)) rfl (by decide +kernel), ?_⟩
  refine ⟨sn_callV (idx := 189) (C := RX12) (T := TX12) (N := 56) rfl (by decide) cal_189 (pmt7 132 rfl (by decide +kernel)) (pmt7 134 rfl (by decide +kernel)) (pms 54 rfl rfl) (dX_invokevirtual (by decide +kernel)) (by decide +kernel), ?_⟩
  refine ⟨sn_icmp_ge (off := 7) (dX_if_icmpge (by decide +kernel)) (by decide +kernel) (by decide +kernel), ?_⟩
  refine ⟨sn_iconst (dX_iconst_1 (by decide +kernel)) (by decide +kernel), ?_⟩
  refine ⟨sn_goto (off := 4) (dX_goto (by decide +kernel)) (by decide +kernel), ?_⟩
  refine ⟨sn_iconst (dX_iconst_0 (by decide +kernel)) (by decide +kernel), ?_⟩
  refine ⟨sn_iret rfl (dX_ireturn (by decide +kernel)), ?_⟩
  refine ⟨sn_aload_n (k := 0) (dX_aload_0 (by decide +kernel)) rfl (by decide +kernel), ?_⟩
  refine ⟨sn_bipush (dX_bipush (by decide +kernel)) (by decide +kernel) (by decide +kernel), ?_⟩
  refine ⟨sn_callV (idx := 149) (C := RX12) (T := TX12) (N := 56) rfl (by decide) cal_181 (pmt7 108 rfl (by decide +kernel)) (pmt7 110 rfl (by decide +kernel)) (pms 49 rfl rfl) (dX_invokevirtual (by decide +kernel)) (by decide +kernel), ?_⟩
  refine ⟨sn_if_eq (off := 18) (dX_ifeq (by decide +kernel)) (by decide +kernel) (by decide +kernel), ?_⟩
  refine ⟨sn_iload_n (k := 2) (dX_iload_2 (by decide +kernel)) rfl (by decide +kernel), ?_⟩
  refine ⟨sn_aload_n (k := 0) (dX_aload_0 (by decide +kernel)) rfl (by decide +kernel), ?_⟩
  refine ⟨sn_iload_n (k := 1) (dX_iload_1 (by decide +kernel)) rfl (by decide +kernel), ?_⟩
  refine ⟨sn_callV (idx := 189) (C := RX12) (T := TX12) (N := 56) rfl (by decide) cal_189 (pmt7 132 rfl (by decide +kernel)) (pmt7 134 rfl (by decide +kernel)) (pms 54 rfl rfl) (dX_invokevirtual (by decide +kernel)) (by decide +kernel), ?_⟩
  refine ⟨sn_icmp_le (off := 7) (dX_if_icmple (by decide +kernel)) (by decide +kernel) (by decide +kernel), ?_⟩
  refine ⟨sn_iconst (dX_iconst_1 (by decide +kernel)) (by decide +kernel), ?_⟩
  refine ⟨sn_goto (off := 4) (dX_goto (by decide +kernel)) (by decide +kernel), ?_⟩
  refine ⟨sn_iconst (dX_iconst_0 (by decide +kernel)) (by decide +kernel), ?_⟩
  refine ⟨sn_iret rfl (dX_ireturn (by decide +kernel)), ?_⟩
  refine ⟨sn_aload_n (k := 0) (dX_aload_0 (by decide +kernel)) rfl (by decide +kernel), ?_⟩
  refine ⟨sn_bipush (dX_bipush (by decide +kernel)) (by decide +kernel) (by decide +kernel), ?_⟩
  refine ⟨sn_callV (idx := 149) (C := RX12) (T := TX12) (N := 56) rfl (by decide) cal_181 (pmt7 108 rfl (by decide +kernel)) (pmt7 110 rfl (by decide +kernel)) (pms 49 rfl rfl) (dX_invokevirtual (by decide +kernel)) (by decide +kernel), ?_⟩
  refine ⟨sn_if_eq (off := 18) (dX_ifeq (by decide +kernel)) (by decide +kernel) (by decide +kernel), ?_⟩
  refine ⟨sn_iload_n (k := 2) (dX_iload_2 (by decide +kernel)) rfl (by decide +kernel), ?_⟩
  refine ⟨sn_aload_n (k := 0) (dX_aload_0 (by decide +kernel)) rfl (by decide +kernel), ?_⟩
  refine ⟨sn_iload_n (k := 1) (dX_iload_1 (by decide +kernel)) rfl (by decide +kernel), ?_⟩
  refine ⟨sn_callV (idx := 189) (C := RX12) (T := TX12) (N := 56) rfl (by decide) cal_189 (pmt7 132 rfl (by decide +kernel)) (pmt7 134 rfl (by decide +kernel)) (pms 54 rfl rfl) (dX_invokevirtual (by decide +kernel)) (by decide +kernel), ?_⟩
  refine ⟨sn_icmp_ne (off := 7) (dX_if_icmpne (by decide +kernel)) (by decide +kernel) (by decide +kernel), ?_⟩
  refine ⟨sn_iconst (dX_iconst_1 (by decide +kernel)) (by decide +kernel), ?_⟩
  refine ⟨sn_goto (off := 4) (dX_goto (by decide +kernel)) (by decide +kernel), ?_⟩
  refine ⟨sn_iconst (dX_iconst_0 (by decide +kernel)) (by decide +kernel), ?_⟩
  refine ⟨sn_iret rfl (dX_ireturn (by decide +kernel)), ?_⟩
  refine ⟨sn_iload_n (k := 2) (dX_iload_2 (by decide +kernel)) rfl (by decide +kernel), ?_⟩
  refine ⟨sn_iret rfl (dX_ireturn (by decide +kernel)), ?_⟩
  trivial
set_option maxRecDepth 100000 in
set_option maxHeartbeats 4000000 in
theorem S_189 : pAll (pSk RX12 cX12_sum 5 (some .int) PC_189) 0 C_189 := by
  refine ⟨sn_aload_n (k := 0) (dX_aload_0 (by decide +kernel)) rfl (by decide +kernel), ?_⟩
  refine ⟨sn_iload_n (k := 1) (dX_iload_1 (by decide +kernel)) rfl (by decide +kernel), ?_⟩
  refine ⟨sn_callV (idx := 193) (C := RX12) (T := TX12) (N := 56) rfl (by decide) cal_190 (pmt7 136 rfl (by decide +kernel)) (pmt7 138 rfl (by decide +kernel)) (pms 55 rfl rfl) (dX_invokevirtual (by decide +kernel)) (by decide +kernel), ?_⟩
  refine ⟨sn_istore_n (k := 2) (dX_istore_2 (by decide +kernel)) rfl (by decide) (by decide +kernel), ?_⟩
  refine ⟨sn_aload_n (k := 0) (dX_aload_0 (by decide +kernel)) rfl (by decide +kernel), ?_⟩
  refine ⟨sn_callV (idx := 141) (C := RX12) (T := TX12) (N := 56) rfl (by decide) cal_179 (pmt7 88 rfl (by decide +kernel)) (pmt7 90 rfl (by decide +kernel)) (pms 44 rfl rfl) (dX_invokevirtual (by decide +kernel)) (by decide +kernel), ?_⟩
  refine ⟨sn_if_eq (off := 72) (dX_ifeq (by decide +kernel)) (by decide +kernel) (by decide +kernel), ?_⟩
  refine ⟨sn_aload_n (k := 0) (dX_aload_0 (by decide +kernel)) rfl (by decide +kernel), ?_⟩
  refine ⟨sn_callV (idx := 145) (C := RX12) (T := TX12) (N := 56) rfl (by decide) cal_178 (pmt7 92 rfl (by decide +kernel)) (pmt7 94 rfl (by decide +kernel)) (pms 45 rfl rfl) (dX_invokevirtual (by decide +kernel)) (by decide +kernel), ?_⟩
  refine ⟨sn_bipush (dX_bipush (by decide +kernel)) (by decide +kernel) (by decide +kernel), ?_⟩
  refine ⟨sn_icmp_eq (off := 12) (dX_if_icmpeq (by decide +kernel)) (by decide +kernel) (by decide +kernel), ?_⟩
  refine ⟨sn_aload_n (k := 0) (dX_aload_0 (by decide +kernel)) rfl (by decide +kernel), ?_⟩
  refine ⟨sn_callV (idx := 145) (C := RX12) (T := TX12) (N := 56) rfl (by decide) cal_178 (pmt7 92 rfl (by decide +kernel)) (pmt7 94 rfl (by decide +kernel)) (pms 45 rfl rfl) (dX_invokevirtual (by decide +kernel)) (by decide +kernel), ?_⟩
  refine ⟨sn_bipush (dX_bipush (by decide +kernel)) (by decide +kernel) (by decide +kernel), ?_⟩
  refine ⟨sn_icmp_ne (off := 54) (dX_if_icmpne (by decide +kernel)) (by decide +kernel) (by decide +kernel), ?_⟩
  refine ⟨sn_aload_n (k := 0) (dX_aload_0 (by decide +kernel)) rfl (by decide +kernel), ?_⟩
  refine ⟨sn_callV (idx := 145) (C := RX12) (T := TX12) (N := 56) rfl (by decide) cal_178 (pmt7 92 rfl (by decide +kernel)) (pmt7 94 rfl (by decide +kernel)) (pms 45 rfl rfl) (dX_invokevirtual (by decide +kernel)) (by decide +kernel), ?_⟩
  refine ⟨sn_bipush (dX_bipush (by decide +kernel)) (by decide +kernel) (by decide +kernel), ?_⟩
  refine ⟨sn_icmp_ne (off := 7) (dX_if_icmpne (by decide +kernel)) (by decide +kernel) (by decide +kernel), ?_⟩
  refine ⟨sn_iconst (dX_iconst_1 (by decide +kernel)) (by decide +kernel), ?_⟩
  refine ⟨sn_goto (off := 4) (dX_goto (by decide +kernel)) (by decide +kernel), ?_⟩
  refine ⟨sn_iconst (dX_iconst_0 (by decide +kernel)) (by decide +kernel), ?_⟩
  refine ⟨sn_istore_n (k := 3) (dX_istore_3 (by decide +kernel)) rfl (by decide) (by decide +kernel), ?_⟩
  refine ⟨sn_aload_n (k := 0) (dX_aload_0 (by decide +kernel)) rfl (by decide +kernel), ?_⟩
  refine ⟨sn_dup (dX_dup (by decide +kernel)) (by decide +kernel), ?_⟩
  refine ⟨sn_getf (C := RX12) (T := TX12) (N := 56) (idx := 135) rfl pin12 (by decide) (by decide) rfl (pmt6 161 rfl (by decide +kernel)) rfl (dX_getfield (by decide +kernel)) (by decide +kernel), ?_⟩
  refine ⟨sn_iconst (dX_iconst_1 (by decide +kernel)) (by decide +kernel), ?_⟩
  refine ⟨sn_iadd (dX_iadd (by decide +kernel)) (by decide +kernel), ?_⟩
  refine ⟨sn_puti (C := RX12) (T := TX12) (N := 56) (idx := 135) rfl pin12 (by decide) (by decide) rfl tyX12 tyX12_ok nmX12 rfl rfl (by decide +kernel) (pmt6 161 rfl (by decide +kernel)) rfl (dX_putfield (by decide +kernel)) (by decide +kernel), ?_⟩
  refine ⟨sn_aload_n (k := 0) (dX_aload_0 (by decide +kernel)) rfl (by decide +kernel), ?_⟩
  refine ⟨sn_iload_n (k := 1) (dX_iload_1 (by decide +kernel)) rfl (by decide +kernel), ?_⟩
  refine ⟨sn_callV (idx := 193) (C := RX12) (T := TX12) (N := 56) rfl (by decide) cal_190 (pmt7 136 rfl (by decide +kernel)) (pmt7 138 rfl (by decide +kernel)) (pms 55 rfl rfl) (dX_invokevirtual (by decide +kernel)) (by decide +kernel), ?_⟩
  refine ⟨sn_istore (dX_istore (by decide +kernel)) (by decide) (by decide +kernel), ?_⟩
  refine ⟨sn_iload_n (k := 3) (dX_iload_3 (by decide +kernel)) rfl (by decide +kernel), ?_⟩
  refine ⟨sn_if_eq (off := 10) (dX_ifeq (by decide +kernel)) (by decide +kernel) (by decide +kernel), ?_⟩
  refine ⟨sn_iload_n (k := 2) (dX_iload_2 (by decide +kernel)) rfl (by decide +kernel), ?_⟩
  refine ⟨sn_iload (dX_iload (by decide +kernel)) (by decide +kernel), ?_⟩
  refine ⟨sn_iadd (dX_iadd (by decide +kernel)) (by decide +kernel), ?_⟩
  refine ⟨sn_goto (off := 7) (dX_goto (by decide +kernel)) (by decide +kernel), ?_⟩
  refine ⟨sn_iload_n (k := 2) (dX_iload_2 (by decide +kernel)) rfl (by decide +kernel), ?_⟩
  refine ⟨sn_iload (dX_iload (by decide +kernel)) (by decide +kernel), ?_⟩
  refine ⟨sn_isub (dX_isub (by decide +kernel)) (by decide +kernel), ?_⟩
  refine ⟨sn_istore_n (k := 2) (dX_istore_2 (by decide +kernel)) rfl (by decide) (by decide +kernel), ?_⟩
  refine ⟨sn_goto (off := -73) (dX_goto (by decide +kernel)) (by decide +kernel), ?_⟩
  refine ⟨sn_iload_n (k := 2) (dX_iload_2 (by decide +kernel)) rfl (by decide +kernel), ?_⟩
  refine ⟨sn_iret rfl (dX_ireturn (by decide +kernel)), ?_⟩
  trivial
set_option maxRecDepth 100000 in
set_option maxHeartbeats 4000000 in
theorem S_190 : pAll (pSk RX12 cX12_product 5 (some .int) PC_190) 0 C_190 := by
  refine ⟨sn_aload_n (k := 0) (dX_aload_0 (by decide +kernel)) rfl (by decide +kernel), ?_⟩
  refine ⟨sn_iload_n (k := 1) (dX_iload_1 (by decide +kernel)) rfl (by decide +kernel), ?_⟩
  refine ⟨sn_callV (idx := 196) (C := RX12) (T := TX12) (N := 56) rfl (by decide) cal_191 (pmt7 140 rfl (by decide +kernel)) (pmt7 142 rfl (by decide +kernel)) (pms 56 rfl rfl) (dX_invokevirtual (by decide +kernel)) (by decide +kernel), ?_⟩
  refine ⟨sn_istore_n (k := 2) (dX_istore_2 (by decide +kernel)) rfl (by decide) (by decide +kernel), ?_⟩
  refine ⟨sn_aload_n (k := 0) (dX_aload_0 (by decide +kernel)) rfl (by decide +kernel), ?_⟩
  refine ⟨sn_callV (idx := 141) (C := RX12) (T := TX12) (N := 56) rfl (by decide) cal_179 (pmt7 88 rfl (by decide +kernel)) (pmt7 90 rfl (by decide +kernel)) (pms 44 rfl rfl) (dX_invokevirtual (by decide +kernel)) (by decide +kernel), ?_⟩
  refine ⟨sn_if_eq (off := 81) (dX_ifeq (by decide +kernel)) (by decide +kernel) (by decide +kernel), ?_⟩
  refine ⟨sn_aload_n (k := 0) (dX_aload_0 (by decide +kernel)) rfl (by decide +kernel), ?_⟩
  refine ⟨sn_callV (idx := 145) (C := RX12) (T := TX12) (N := 56) rfl (by decide) cal_178 (pmt7 92 rfl (by decide +kernel)) (pmt7 94 rfl (by decide +kernel)) (pms 45 rfl rfl) (dX_invokevirtual (by decide +kernel)) (by decide +kernel), ?_⟩
  refine ⟨sn_bipush (dX_bipush (by decide +kernel)) (by decide +kernel) (by decide +kernel), ?_⟩
  refine ⟨sn_icmp_eq (off := 12) (dX_if_icmpeq (by decide +kernel)) (by decide +kernel) (by decide +kernel), ?_⟩
  refine ⟨sn_aload_n (k := 0) (dX_aload_0 (by decide +kernel)) rfl (by decide +kernel), ?_⟩
  refine ⟨sn_callV (idx := 145) (C := RX12) (T := TX12) (N := 56) rfl (by decide) cal_178 (pmt7 92 rfl (by decide +kernel)) (pmt7 94 rfl (by decide +kernel)) (pms 45 rfl rfl) (dX_invokevirtual (by decide +kernel)) (by decide +kernel), ?_⟩
  refine ⟨sn_bipush (dX_bipush (by decide +kernel)) (by decide +kernel) (by decide +kernel), ?_⟩
  refine ⟨sn_icmp_ne (off := 63) (dX_if_icmpne (by decide +kernel)) (by decide +kernel) (by decide +kernel), ?_⟩
  refine ⟨sn_aload_n (k := 0) (dX_aload_0 (by decide +kernel)) rfl (by decide +kernel), ?_⟩
  refine ⟨sn_callV (idx := 145) (C := RX12) (T := TX12) (N := 56) rfl (by decide) cal_178 (pmt7 92 rfl (by decide +kernel)) (pmt7 94 rfl (by decide +kernel)) (pms 45 rfl rfl) (dX_invokevirtual (by decide +kernel)) (by decide +kernel), ?_⟩
  refine ⟨sn_bipush (dX_bipush (by decide +kernel)) (by decide +kernel) (by decide +kernel), ?_⟩
  refine ⟨sn_icmp_ne (off := 7) (dX_if_icmpne (by decide +kernel)) (by decide +kernel) (by decide +kernel), ?_⟩
  refine ⟨sn_iconst (dX_iconst_1 (by decide +kernel)) (by decide +kernel), ?_⟩
  refine ⟨sn_goto (off := 4) (dX_goto (by decide +kernel)) (by decide +kernel), ?_⟩
  refine ⟨sn_iconst (dX_iconst_0 (by decide +kernel)) (by decide +kernel), ?_⟩
  refine ⟨sn_istore_n (k := 3) (dX_istore_3 (by decide +kernel)) rfl (by decide) (by decide +kernel), ?_⟩
  refine ⟨sn_aload_n (k := 0) (dX_aload_0 (by decide +kernel)) rfl (by decide +kernel), ?_⟩
  refine ⟨sn_dup (dX_dup (by decide +kernel)) (by decide +kernel), ?_⟩
  refine ⟨sn_getf (C := RX12) (T := TX12) (N := 56) (idx := 135) rfl pin12 (by decide) (by decide) rfl (pmt6 161 rfl (by decide +kernel)) rfl (dX_getfield (by decide +kernel)) (by decide +kernel), ?_⟩
  refine ⟨sn_iconst (dX_iconst_1 (by decide +kernel)) (by decide +kernel), ?_⟩
  refine ⟨sn_iadd (dX_iadd (by decide +kernel)) (by decide +kernel), ?_⟩
  refine ⟨sn_puti (C := RX12) (T := TX12) (N := 56) (idx := 135) rfl pin12 (by decide) (by decide) rfl tyX12 tyX12_ok nmX12 rfl rfl (by decide +kernel) (pmt6 161 rfl (by decide +kernel)) rfl (dX_putfield (by decide +kernel)) (by decide +kernel), ?_⟩
  refine ⟨sn_aload_n (k := 0) (dX_aload_0 (by decide +kernel)) rfl (by decide +kernel), ?_⟩
  refine ⟨sn_iload_n (k := 1) (dX_iload_1 (by decide +kernel)) rfl (by decide +kernel), ?_⟩
  refine ⟨sn_callV (idx := 196) (C := RX12) (T := TX12) (N := 56) rfl (by decide) cal_191 (pmt7 140 rfl (by decide +kernel)) (pmt7 142 rfl (by decide +kernel)) (pms 56 rfl rfl) (dX_invokevirtual (by decide +kernel)) (by decide +kernel), ?_⟩
  refine ⟨sn_istore (dX_istore (by decide +kernel)) (by decide) (by decide +kernel), ?_⟩
  refine ⟨sn_iload_n (k := 3) (dX_iload_3 (by decide +kernel)) rfl (by decide +kernel), ?_⟩
  refine ⟨sn_if_eq (off := 10) (dX_ifeq (by decide +kernel)) (by decide +kernel) (by decide +kernel), ?_⟩
  refine ⟨sn_iload_n (k := 2) (dX_iload_2 (by decide +kernel)) rfl (by decide +kernel), ?_⟩
  refine ⟨sn_iload (dX_iload (by decide +kernel)) (by decide +kernel), ?_⟩
  refine ⟨sn_imul (dX_imul (by decide +kernel)) (by decide +kernel), ?_⟩
  refine ⟨sn_goto (off := 16) (dX_goto (by decide +kernel)) (by decide +kernel), ?_⟩
  refine ⟨sn_iload (dX_iload (by decide +kernel)) (by decide +kernel), ?_⟩
  refine ⟨sn_if_ne (off := 7) (dX_ifne (by decide +kernel)) (by decide +kernel) (by decide +kernel), ?_⟩
  refine ⟨sn_iconst (dX_iconst_0 (by decide +kernel)) (by decide +kernel), ?_⟩
  refine ⟨sn_goto (off := 7) (dX_goto (by decide +kernel)) (by decide +kernel), ?_⟩
  refine ⟨sn_iload_n (k := 2) (dX_iload_2 (by decide +kernel)) rfl (by decide +kernel), ?_⟩
  refine ⟨sn_iload (dX_iload (by decide +kernel)) (by decide +kernel), ?_⟩
  refine ⟨sn_idiv (dX_idiv (by decide +kernel)) (by decide +kernel), ?_⟩
  refine ⟨sn_istore_n (k := 2) (dX_istore_2 (by decide +kernel)) rfl (by decide) (by decide +kernel), ?_⟩
  refine ⟨sn_goto (off := -82) (dX_goto (by decide +kernel)) (by decide +kernel), ?_⟩
  refine ⟨sn_iload_n (k := 2) (dX_iload_2 (by decide +kernel)) rfl (by decide +kernel), ?_⟩
  refine ⟨sn_iret rfl (dX_ireturn (by decide +kernel)), ?_⟩
  trivial
set_option maxRecDepth 100000 in
set_option maxHeartbeats 4000000 in
theorem S_191 : pAll (pSk RX12 cX12_factor 4 (some .int) PC_191) 0 C_191 := by
  refine ⟨sn_aload_n (k := 0) (dX_aload_0 (by decide +kernel)) rfl (by decide +kernel), ?_⟩
  refine ⟨sn_bipush (dX_bipush (by decide +kernel)) (by decide +kernel) (by decide +kernel), ?_⟩
  refine ⟨sn_callV (idx := 149) (C := RX12) (T := TX12) (N := 56) rfl (by decide) cal_181 (pmt7 108 rfl (by decide +kernel)) (pmt7 110 rfl (by decide +kernel)) (pms 49 rfl rfl) (dX_invokevirtual (by decide +kernel)) (by decide +kernel), ?_⟩
  refine ⟨sn_if_eq (off := 10) (dX_ifeq (by decide +kernel)) (by decide +kernel) (by decide +kernel), ?_⟩
  refine ⟨sn_aload_n (k := 0) (dX_aload_0 (by decide +kernel)) rfl (by decide +kernel), ?_⟩
  refine ⟨sn_iload_n (k := 1) (dX_iload_1 (by decide +kernel)) rfl (by decide +kernel), ?_⟩
  refine ⟨sn_callV (idx := 196) (C := RX12) (T := TX12) (N := 56) rfl (by decide) cal_191 (pmt7 140 rfl (by decide +kernel)) (pmt7 142 rfl (by decide +kernel)) (pms 56 rfl rfl) (dX_invokevirtual (by decide +kernel)) (by decide +kernel), ?_⟩
  refine ⟨sn_ineg (dX_ineg (by decide +kernel)) (by decide +kernel), ?_⟩
  refine ⟨sn_iret rfl (dX_ireturn (by decide +kernel)), ?_⟩
  refine ⟨sn_aload_n (k := 0) (dX_aload_0 (by decide +kernel)) rfl (by decide +kernel), ?_⟩
  refine ⟨sn_callV (idx := 141) (C := RX12) (T := TX12) (N := 56) rfl (by decide) cal_179 (pmt7 88 rfl (by decide +kernel)) (pmt7 90 rfl (by decide +kernel)) (pms 44 rfl rfl) (dX_invokevirtual (by decide +kernel)) (by decide +kernel), ?_⟩
  refine ⟨sn_if_ne (off := 5) (dX_ifne (by decide +kernel)) (by decide +kernel) (by decide +kernel), ?_⟩
  refine ⟨sn_iconst (dX_iconst_0 (by decide +kernel)) (by decide +kernel), ?_⟩
  refine ⟨sn_iret rfl (dX_ireturn (by decide +kernel)), ?_⟩
  refine ⟨sn_aload_n (k := 0) (dX_aload_0 (by decide +kernel)) rfl (by decide +kernel), ?_⟩
  refine ⟨sn_callV (idx := 145) (C := RX12) (T := TX12) (N := 56) rfl (by decide) cal_178 (pmt7 92 rfl (by decide +kernel)) (pmt7 94 rfl (by decide +kernel)) (pms 45 rfl rfl) (dX_invokevirtual (by decide +kernel)) (by decide +kernel), ?_⟩
  refine ⟨sn_istore_n (k := 2) (dX_istore_2 (by decide +kernel)) rfl (by decide) (by decide +kernel), ?_⟩
  refine ⟨sn_iload_n (k := 2) (dX_iload_2 (by decide +kernel)) rfl (by decide +kernel), ?_⟩
  refine ⟨sn_bipush (dX_bipush (by decide +kernel)) (by decide +kernel) (by decide +kernel), ?_⟩
  refine ⟨sn_icmp_ne (off := 34) (dX_if_icmpne (by decide +kernel)) (by decide +kernel) (by decide +kernel), ?_⟩
  refine ⟨sn_iload_n (k := 1) (dX_iload_1 (by decide +kernel)) rfl (by decide +kernel), ?_⟩
  refine ⟨sn_iconst (dX_iconst_4 (by decide +kernel)) (by decide +kernel), ?_⟩
  refine ⟨sn_icmp_ge (off := 29) (dX_if_icmpge (by decide +kernel)) (by decide +kernel) (by decide +kernel), ?_⟩
  refine ⟨sn_aload_n (k := 0) (dX_aload_0 (by decide +kernel)) rfl (by decide +kernel), ?_⟩
  refine ⟨sn_dup (dX_dup (by decide +kernel)) (by decide +kernel), ?_⟩
  refine ⟨sn_getf (C := RX12) (T := TX12) (N := 56) (idx := 135) rfl pin12 (by decide) (by decide) rfl (pmt6 161 rfl (by decide +kernel)) rfl (dX_getfield (by decide +kernel)) (by decide +kernel), ?_⟩
  refine ⟨sn_iconst (dX_iconst_1 (by decide +kernel)) (by decide +kernel), ?_⟩
  refine ⟨sn_iadd (dX_iadd (by decide +kernel)) (by decide +kernel), ?_⟩
  refine ⟨sn_puti (C := RX12) (T := TX12) (N := 56) (idx := 135) rfl pin12 (by decide) (by decide) rfl tyX12 tyX12_ok nmX12 rfl rfl (by decide +kernel) (pmt6 161 rfl (by decide +kernel)) rfl (dX_putfield (by decide +kernel)) (by decide +kernel), ?_⟩
  refine ⟨sn_aload_n (k := 0) (dX_aload_0 (by decide +kernel)) rfl (by decide +kernel), ?_⟩
  refine ⟨sn_iload_n (k := 1) (dX_iload_1 (by decide +kernel)) rfl (by decide +kernel), ?_⟩
  refine ⟨sn_iconst (dX_iconst_1 (by decide +kernel)) (by decide +kernel), ?_⟩
  refine ⟨sn_iadd (dX_iadd (by decide +kernel)) (by decide +kernel), ?_⟩
  refine ⟨sn_callV (idx := 199) (C := RX12) (T := TX12) (N := 56) rfl (by decide) cal_188 (pmt7 128 rfl (by decide +kernel)) (pmt7 130 rfl (by decide +kernel)) (pms 53 rfl rfl) (dX_invokevirtual (by decide +kernel)) (by decide +kernel), ?_⟩
  refine ⟨sn_istore_n (k := 3) (dX_istore_3 (by decide +kernel)) rfl (by decide) (by decide +kernel), ?_⟩
  refine ⟨sn_aload_n (k := 0) (dX_aload_0 (by decide +kernel)) rfl (by decide +kernel), ?_⟩
  refine ⟨sn_bipush (dX_bipush (by decide +kernel)) (by decide +kernel) (by decide +kernel), ?_⟩
  refine ⟨sn_callV (idx := 168) (C := RX12) (T := TX12) (N := 56) rfl (by decide) cal_182 (pmt7 104 rfl (by decide +kernel)) (pmt7 106 rfl (by decide +kernel)) (pms 48 rfl rfl) (dX_invokevirtual (by decide +kernel)) (by decide +kernel), ?_⟩
  refine ⟨sn_iload_n (k := 3) (dX_iload_3 (by decide +kernel)) rfl (by decide +kernel), ?_⟩
  refine ⟨sn_iret rfl (dX_ireturn (by decide +kernel)), ?_⟩
  refine ⟨sn_iload_n (k := 2) (dX_iload_2 (by decide +kernel)) rfl (by decide +kernel), ?_⟩
  refine ⟨sn_bipush (dX_bipush (by decide +kernel)) (by decide +kernel) (by decide +kernel), ?_⟩
  refine ⟨sn_bipush (dX_bipush (by decide +kernel)) (by decide +kernel) (by decide +kernel), ?_⟩
  refine ⟨sn_callS (idx := 116) cal_169 (pmt7 77 rfl (by decide +kernel)) (pmt7 78 rfl (by decide +kernel)) (dX_invokestatic (by decide +kernel)) (by decide +kernel), ?_⟩
  refine ⟨sn_if_eq (off := 13) (dX_ifeq (by decide +kernel)) (by decide +kernel) (by decide +kernel), ?_⟩
  refine ⟨sn_aload_n (k := 0) (dX_aload_0 (by decide +kernel)) rfl (by decide +kernel), ?_⟩
  refine ⟨sn_iconst (dX_iconst_3 (by decide +kernel)) (by decide +kernel), ?_⟩
  refine ⟨sn_iconst (dX_iconst_0 (by decide +kernel)) (by decide +kernel), ?_⟩
  refine ⟨sn_sipush (dX_sipush (by decide +kernel)) (by decide +kernel) (by decide +kernel), ?_⟩
  refine ⟨sn_callV (idx := 164) (C := RX12) (T := TX12) (N := 56) rfl (by decide) cal_183 (pmt7 100 rfl (by decide +kernel)) (pmt7 102 rfl (by decide +kernel)) (pms 47 rfl rfl) (dX_invokevirtual (by decide +kernel)) (by decide +kernel), ?_⟩
  refine ⟨sn_iret rfl (dX_ireturn (by decide +kernel)), ?_⟩
  refine ⟨sn_iload_n (k := 2) (dX_iload_2 (by decide +kernel)) rfl (by decide +kernel), ?_⟩
  refine ⟨sn_bipush (dX_bipush (by decide +kernel)) (by decide +kernel) (by decide +kernel), ?_⟩
  refine ⟨sn_icmp_eq (off := 61) (dX_if_icmpeq (by decide +kernel)) (by decide +kernel) (by decide +kernel), ?_⟩
  refine ⟨sn_iload_n (k := 2) (dX_iload_2 (by decide +kernel)) rfl (by decide +kernel), ?_⟩
  refine ⟨sn_bipush (dX_bipush (by decide +kernel)) (by decide +kernel) (by decide +kernel), ?_⟩
  refine ⟨sn_icmp_eq (off := 55) (dX_if_icmpeq (by decide +kernel)) (by decide +kernel) (by decide +kernel), ?_⟩
  refine ⟨sn_iload_n (k := 2) (dX_iload_2 (by decide +kernel)) rfl (by decide +kernel), ?_⟩
  refine ⟨sn_bipush (dX_bipush (by decide +kernel)) (by decide +kernel) (by decide +kernel), ?_⟩
  refine ⟨sn_icmp_eq (off := 49) (dX_if_icmpeq (by decide +kernel)) (by decide +kernel) (by decide +kernel), ?_⟩
  refine ⟨sn_iload_n (k := 2) (dX_iload_2 (by decide +kernel)) rfl (by decide +kernel), ?_⟩
  refine ⟨sn_bipush (dX_bipush (by decide +kernel)) (by decide +kernel) (by decide +kernel), ?_⟩
  refine ⟨sn_icmp_eq (off := 43) (dX_if_icmpeq (by decide +kernel)) (by decide +kernel) (by decide +kernel), ?_⟩
  refine ⟨sn_iload_n (k := 2) (dX_iload_2 (by decide +kernel)) rfl (by decide +kernel), ?_⟩
  refine ⟨sn_bipush (dX_bipush (by decide +kernel)) (by decide +kernel) (by decide +kernel), ?_⟩
  refine ⟨sn_icmp_eq (off := 37) (dX_if_icmpeq (by decide +kernel)) (by decide +kernel) (by decide +kernel), ?_⟩
  refine ⟨sn_iload_n (k := 2) (dX_iload_2 (by decide +kernel)) rfl (by decide +kernel), ?_⟩
  refine ⟨sn_bipush (dX_bipush (by decide +kernel)) (by decide +kernel) (by decide +kernel), ?_⟩
  refine ⟨sn_icmp_eq (off := 31) (dX_if_icmpeq (by decide +kernel)) (by decide +kernel) (by decide +kernel), ?_⟩
  refine ⟨sn_iload_n (k := 2) (dX_iload_2 (by decide +kernel)) rfl (by decide +kernel), ?_⟩
  refine ⟨sn_bipush (dX_bipush (by decide +kernel)) (by decide +kernel) (by decide +kernel), ?_⟩
  refine ⟨sn_icmp_eq (off := 25) (dX_if_icmpeq (by decide +kernel)) (by decide +kernel) (by decide +kernel), ?_⟩
  refine ⟨sn_iload_n (k := 2) (dX_iload_2 (by decide +kernel)) rfl (by decide +kernel), ?_⟩
  refine ⟨sn_bipush (dX_bipush (by decide +kernel)) (by decide +kernel) (by decide +kernel), ?_⟩
  refine ⟨sn_icmp_eq (off := 19) (dX_if_icmpeq (by decide +kernel)) (by decide +kernel) (by decide +kernel), ?_⟩
  refine ⟨sn_iload_n (k := 2) (dX_iload_2 (by decide +kernel)) rfl (by decide +kernel), ?_⟩
  refine ⟨sn_bipush (dX_bipush (by decide +kernel)) (by decide +kernel) (by decide +kernel), ?_⟩
  refine ⟨sn_icmp_eq (off := 13) (dX_if_icmpeq (by decide +kernel)) (by decide +kernel) (by decide +kernel), ?_⟩
  refine ⟨sn_aload_n (k := 0) (dX_aload_0 (by decide +kernel)) rfl (by decide +kernel), ?_⟩
  refine ⟨sn_aload_n (k := 0) (dX_aload_0 (by decide +kernel)) rfl (by decide +kernel), ?_⟩
  refine ⟨sn_getf (C := RX12) (T := TX12) (N := 56) (idx := 135) rfl pin12 (by decide) (by decide) rfl (pmt6 161 rfl (by decide +kernel)) rfl (dX_getfield (by decide +kernel)) (by decide +kernel), ?_⟩
  refine ⟨sn_callV (idx := 153) (C := RX12) (T := TX12) (N := 56) rfl (by decide) cal_180 (pmt7 96 rfl (by decide +kernel)) (pmt7 98 rfl (by decide +kernel)) (pms 46 rfl rfl) (dX_invokevirtual (by decide +kernel)) (by decide +kernel), ?_⟩
  refine ⟨sn_iconst (dX_iconst_0 (by decide +kernel)) (by decide +kernel), ?_⟩
  refine ⟨sn_iret rfl (dX_ireturn (by decide +kernel)), ?_⟩
  refine ⟨sn_aload_n (k := 0) (dX_aload_0 (by decide +kernel)) rfl (by decide +kernel), ?_⟩
  refine ⟨sn_dup (dX_dup (by decide +kernel)) (by decide +kernel), ?_⟩
  refine ⟨sn_getf (C := RX12) (T := TX12) (N := 56) (idx := 135) rfl pin12 (by decide) (by decide) rfl (pmt6 161 rfl (by decide +kernel)) rfl (dX_getfield (by decide +kernel)) (by decide +kernel), ?_⟩
  refine ⟨sn_iconst (dX_iconst_1 (by decide +kernel)) (by decide +kernel), ?_⟩
  refine ⟨sn_iadd (dX_iadd (by decide +kernel)) (by decide +kernel), ?_⟩
  refine ⟨sn_puti (C := RX12) (T := TX12) (N := 56) (idx := 135) rfl pin12 (by decide) (by decide) rfl tyX12 tyX12_ok nmX12 rfl rfl (by decide +kernel) (pmt6 161 rfl (by decide +kernel)) rfl (dX_putfield (by decide +kernel)) (by decide +kernel), ?_⟩
  refine ⟨sn_aload_n (k := 0) (dX_aload_0 (by decide +kernel)) rfl (by decide +kernel), ?_⟩
  refine ⟨sn_getf (C := RX12) (T := TX12) (N := 56) (idx := 48) rfl pin12 (by decide) (by decide) rfl (pmt6 166 rfl (by decide +kernel)) rfl (dX_getfield (by decide +kernel)) (by decide +kernel), ?_⟩
  refine ⟨sn_iconst (dX_iconst_m1 (by decide +kernel)) (by decide +kernel), ?_⟩
  refine ⟨sn_icmp_ne (off := 7) (dX_if_icmpne (by decide +kernel)) (by decide +kernel) (by decide +kernel), ?_⟩
  refine ⟨sn_iconst (dX_iconst_0 (by decide +kernel)) (by decide +kernel), ?_⟩
  refine ⟨sn_goto (off := 16) (dX_goto (by decide +kernel)) (by decide +kernel), ?_⟩
  refine ⟨sn_aload_n (k := 0) (dX_aload_0 (by decide +kernel)) rfl (by decide +kernel), ?_⟩
  refine ⟨sn_iload_n (k := 2) (dX_iload_2 (by decide +kernel)) rfl (by decide +kernel), ?_⟩
  refine ⟨sn_aload_n (k := 0) (dX_aload_0 (by decide +kernel)) rfl (by decide +kernel), ?_⟩
  refine ⟨sn_getf (C := RX12) (T := TX12) (N := 56) (idx := 48) rfl pin12 (by decide) (by decide) rfl (pmt6 166 rfl (by decide +kernel)) rfl (dX_getfield (by decide +kernel)) (by decide +kernel), ?_⟩
  refine ⟨sn_aload_n (k := 0) (dX_aload_0 (by decide +kernel)) rfl (by decide +kernel), ?_⟩
  refine ⟨sn_getf (C := RX12) (T := TX12) (N := 56) (idx := 202) rfl pin12 (by decide) (by decide) rfl (pmt6 167 rfl (by decide +kernel)) rfl (dX_getfield (by decide +kernel)) (by decide +kernel), ?_⟩
  refine ⟨sn_callV (idx := 205) (C := RX12) (T := TX12) (N := 56) rfl (by decide) cal_192 (pmt7 144 rfl (by decide +kernel)) (pmt7 146 rfl (by decide +kernel)) (pms 57 rfl rfl) (dX_invokevirtual (by decide +kernel)) (by decide +kernel), ?_⟩
  refine ⟨sn_iret rfl (dX_ireturn (by decide +kernel)), ?_⟩
  trivial
set_option maxRecDepth 100000 in
set_option maxHeartbeats 4000000 in
theorem S_192 : pAll (pSk RX12 cX12_letter 4 (some .int) PC_192) 0 C_192 := by
  refine ⟨sn_iload_n (k := 1) (dX_iload_1 (by decide +kernel)) rfl (by decide +kernel), ?_⟩
  refine ⟨sn_sw (dflt := 165) (lo := 98) (hi := 122) (offs := #[117, 165, 156, 165, 165, 131, 165, 115, 165, 138, 165, 165, 165, 165, 165, 165, 147, 165, 165, 165, 165, 124, 165, 165, 149]) (len := 115) (by decide +kernel) (by decide) (by decide +kernel) (p_sw_all (by decide +kernel)) (by decide +kernel), ?_⟩
  refine ⟨sn_iload_n (k := 2) (dX_iload_2 (by decide +kernel)) rfl (by decide +kernel), ?_⟩
  refine ⟨sn_iret rfl (dX_ireturn (by decide +kernel)), ?_⟩
  refine ⟨sn_aload_n (k := 0) (dX_aload_0 (by decide +kernel)) rfl (by decide +kernel), ?_⟩
  refine ⟨sn_getf (C := RX12) (T := TX12) (N := 56) (idx := 16) rfl pin12 (by decide) (by decide) rfl (pmt6 144 rfl (by decide +kernel)) rfl (dX_getfield (by decide +kernel)) (by decide +kernel), ?_⟩
  refine ⟨sn_iload_n (k := 2) (dX_iload_2 (by decide +kernel)) rfl (by decide +kernel), ?_⟩
  refine ⟨sn_iald (dX_iaload (by decide +kernel)) (by decide +kernel), ?_⟩
  refine ⟨sn_iret rfl (dX_ireturn (by decide +kernel)), ?_⟩
  refine ⟨sn_aload_n (k := 0) (dX_aload_0 (by decide +kernel)) rfl (by decide +kernel), ?_⟩
  refine ⟨sn_getf (C := RX12) (T := TX12) (N := 56) (idx := 19) rfl pin12 (by decide) (by decide) rfl (pmt6 145 rfl (by decide +kernel)) rfl (dX_getfield (by decide +kernel)) (by decide +kernel), ?_⟩
  refine ⟨sn_iload_n (k := 2) (dX_iload_2 (by decide +kernel)) rfl (by decide +kernel), ?_⟩
  refine ⟨sn_iald (dX_iaload (by decide +kernel)) (by decide +kernel), ?_⟩
  refine ⟨sn_iret rfl (dX_ireturn (by decide +kernel)), ?_⟩
  refine ⟨sn_aload_n (k := 0) (dX_aload_0 (by decide +kernel)) rfl (by decide +kernel), ?_⟩
  refine ⟨sn_getf (C := RX12) (T := TX12) (N := 56) (idx := 22) rfl pin12 (by decide) (by decide) rfl (pmt6 146 rfl (by decide +kernel)) rfl (dX_getfield (by decide +kernel)) (by decide +kernel), ?_⟩
  refine ⟨sn_iload_n (k := 2) (dX_iload_2 (by decide +kernel)) rfl (by decide +kernel), ?_⟩
  refine ⟨sn_iald (dX_iaload (by decide +kernel)) (by decide +kernel), ?_⟩
  refine ⟨sn_iret rfl (dX_ireturn (by decide +kernel)), ?_⟩
  refine ⟨sn_aload_n (k := 0) (dX_aload_0 (by decide +kernel)) rfl (by decide +kernel), ?_⟩
  refine ⟨sn_iload_n (k := 2) (dX_iload_2 (by decide +kernel)) rfl (by decide +kernel), ?_⟩
  refine ⟨sn_callV (idx := 208) (C := RX12) (T := TX12) (N := 56) rfl (by decide) cal_196 (pmt7 148 rfl (by decide +kernel)) (pmt7 150 rfl (by decide +kernel)) (pms 58 rfl rfl) (dX_invokevirtual (by decide +kernel)) (by decide +kernel), ?_⟩
  refine ⟨sn_callS (idx := 211) cal_270 (pmt7 155 rfl (by decide +kernel)) (pmt4 236 rfl (by decide +kernel)) (dX_invokestatic (by decide +kernel)) (by decide +kernel), ?_⟩
  refine ⟨sn_iret rfl (dX_ireturn (by decide +kernel)), ?_⟩
  refine ⟨sn_iload_n (k := 3) (dX_iload_3 (by decide +kernel)) rfl (by decide +kernel), ?_⟩
  refine ⟨sn_iret rfl (dX_ireturn (by decide +kernel)), ?_⟩
  refine ⟨sn_aload_n (k := 0) (dX_aload_0 (by decide +kernel)) rfl (by decide +kernel), ?_⟩
  refine ⟨sn_getf (C := RX12) (T := TX12) (N := 56) (idx := 9) rfl pin12 (by decide) (by decide) rfl (pmt6 141 rfl (by decide +kernel)) rfl (dX_getfield (by decide +kernel)) (by decide +kernel), ?_⟩
  refine ⟨sn_iload_n (k := 3) (dX_iload_3 (by decide +kernel)) rfl (by decide +kernel), ?_⟩
  refine ⟨sn_iald (dX_iaload (by decide +kernel)) (by decide +kernel), ?_⟩
  refine ⟨sn_iret rfl (dX_ireturn (by decide +kernel)), ?_⟩
  refine ⟨sn_aload_n (k := 0) (dX_aload_0 (by decide +kernel)) rfl (by decide +kernel), ?_⟩
  refine ⟨sn_iload_n (k := 3) (dX_iload_3 (by decide +kernel)) rfl (by decide +kernel), ?_⟩
  refine ⟨sn_callV (idx := 216) (C := RX12) (T := TX12) (N := 56) rfl (by decide) cal_197 (pmt7 156 rfl (by decide +kernel)) (pmt7 158 rfl (by decide +kernel)) (pms 59 rfl rfl) (dX_invokevirtual (by decide +kernel)) (by decide +kernel), ?_⟩
  refine ⟨sn_callS (idx := 211) cal_270 (pmt7 155 rfl (by decide +kernel)) (pmt4 236 rfl (by decide +kernel)) (dX_invokestatic (by decide +kernel)) (by decide +kernel), ?_⟩
  refine ⟨sn_iret rfl (dX_ireturn (by decide +kernel)), ?_⟩
  refine ⟨sn_aload_n (k := 0) (dX_aload_0 (by decide +kernel)) rfl (by decide +kernel), ?_⟩
  refine ⟨sn_getf (C := RX12) (T := TX12) (N := 56) (idx := 25) rfl pin12 (by decide) (by decide) rfl (pmt6 147 rfl (by decide +kernel)) rfl (dX_getfield (by decide +kernel)) (by decide +kernel), ?_⟩
  refine ⟨sn_iload_n (k := 2) (dX_iload_2 (by decide +kernel)) rfl (by decide +kernel), ?_⟩
  refine ⟨sn_iald (dX_iaload (by decide +kernel)) (by decide +kernel), ?_⟩
  refine ⟨sn_iload_n (k := 3) (dX_iload_3 (by decide +kernel)) rfl (by decide +kernel), ?_⟩
  refine ⟨sn_icmp_ne (off := 7) (dX_if_icmpne (by decide +kernel)) (by decide +kernel) (by decide +kernel), ?_⟩
  refine ⟨sn_iconst (dX_iconst_1 (by decide +kernel)) (by decide +kernel), ?_⟩
  refine ⟨sn_goto (off := 4) (dX_goto (by decide +kernel)) (by decide +kernel), ?_⟩
  refine ⟨sn_iconst (dX_iconst_0 (by decide +kernel)) (by decide +kernel), ?_⟩
  refine ⟨sn_iret rfl (dX_ireturn (by decide +kernel)), ?_⟩
  trivial
set_option maxRecDepth 100000 in
set_option maxHeartbeats 4000000 in
theorem S_193 : pAll (pSk RX12 cX12_rule 3 (some .int) PC_193) 0 C_193 := by
  refine ⟨sn_aload_n (k := 0) (dX_aload_0 (by decide +kernel)) rfl (by decide +kernel), ?_⟩
  refine ⟨sn_iconst (dX_iconst_0 (by decide +kernel)) (by decide +kernel), ?_⟩
  refine ⟨sn_puti (C := RX12) (T := TX12) (N := 56) (idx := 107) rfl pin12 (by decide) (by decide) rfl tyX12 tyX12_ok nmX12 rfl rfl (by decide +kernel) (pmt6 157 rfl (by decide +kernel)) rfl (dX_putfield (by decide +kernel)) (by decide +kernel), ?_⟩
  refine ⟨sn_aload_n (k := 0) (dX_aload_0 (by decide +kernel)) rfl (by decide +kernel), ?_⟩
  refine ⟨sn_getf (C := RX12) (T := TX12) (N := 56) (idx := 123) rfl pin12 (by decide) (by decide) rfl (pmt6 154 rfl (by decide +kernel)) rfl (dX_getfield (by decide +kernel)) (by decide +kernel), ?_⟩
  refine ⟨sn_istore_n (k := 1) (dX_istore_1 (by decide +kernel)) rfl (by decide) (by decide +kernel), ?_⟩
  refine ⟨sn_aload_n (k := 0) (dX_aload_0 (by decide +kernel)) rfl (by decide +kernel), ?_⟩
  refine ⟨sn_aload_n (k := 0) (dX_aload_0 (by decide +kernel)) rfl (by decide +kernel), ?_⟩
  refine ⟨sn_getf (C := RX12) (T := TX12) (N := 56) (idx := 35) rfl pin12 (by decide) (by decide) rfl (pmt6 153 rfl (by decide +kernel)) rfl (dX_getfield (by decide +kernel)) (by decide +kernel), ?_⟩
  refine ⟨sn_iload_n (k := 1) (dX_iload_1 (by decide +kernel)) rfl (by decide +kernel), ?_⟩
  refine ⟨sn_bipush (dX_bipush (by decide +kernel)) (by decide +kernel) (by decide +kernel), ?_⟩
  refine ⟨sn_callV (idx := 157) (C := RX12) (T := TX12) (N := 56) rfl (by decide) cal_177 (pmt7 84 rfl (by decide +kernel)) (pmt7 86 rfl (by decide +kernel)) (pms 43 rfl rfl) (dX_invokevirtual (by decide +kernel)) (by decide +kernel), ?_⟩
  refine ⟨sn_aload_n (k := 0) (dX_aload_0 (by decide +kernel)) rfl (by decide +kernel), ?_⟩
  refine ⟨sn_iconst (dX_iconst_0 (by decide +kernel)) (by decide +kernel), ?_⟩
  refine ⟨sn_puti (C := RX12) (T := TX12) (N := 56) (idx := 123) rfl pin12 (by decide) (by decide) rfl tyX12 tyX12_ok nmX12 rfl rfl (by decide +kernel) (pmt6 154 rfl (by decide +kernel)) rfl (dX_putfield (by decide +kernel)) (by decide +kernel), ?_⟩
  refine ⟨sn_aload_n (k := 0) (dX_aload_0 (by decide +kernel)) rfl (by decide +kernel), ?_⟩
  refine ⟨sn_iconst (dX_iconst_m1 (by decide +kernel)) (by decide +kernel), ?_⟩
  refine ⟨sn_puti (C := RX12) (T := TX12) (N := 56) (idx := 48) rfl pin12 (by decide) (by decide) rfl tyX12 tyX12_ok nmX12 rfl rfl (by decide +kernel) (pmt6 166 rfl (by decide +kernel)) rfl (dX_putfield (by decide +kernel)) (by decide +kernel), ?_⟩
  refine ⟨sn_iload_n (k := 1) (dX_iload_1 (by decide +kernel)) rfl (by decide +kernel), ?_⟩
  refine ⟨sn_if_le (off := 39) (dX_ifle (by decide +kernel)) (by decide +kernel) (by decide +kernel), ?_⟩
  refine ⟨sn_aload_n (k := 0) (dX_aload_0 (by decide +kernel)) rfl (by decide +kernel), ?_⟩
  refine ⟨sn_iconst (dX_iconst_0 (by decide +kernel)) (by decide +kernel), ?_⟩
  refine ⟨sn_callV (idx := 199) (C := RX12) (T := TX12) (N := 56) rfl (by decide) cal_188 (pmt7 128 rfl (by decide +kernel)) (pmt7 130 rfl (by decide +kernel)) (pms 53 rfl rfl) (dX_invokevirtual (by decide +kernel)) (by decide +kernel), ?_⟩
  refine ⟨sn_pop (dX_pop (by decide +kernel)) (by decide +kernel), ?_⟩
  refine ⟨sn_aload_n (k := 0) (dX_aload_0 (by decide +kernel)) rfl (by decide +kernel), ?_⟩
  refine ⟨sn_getf (C := RX12) (T := TX12) (N := 56) (idx := 135) rfl pin12 (by decide) (by decide) rfl (pmt6 161 rfl (by decide +kernel)) rfl (dX_getfield (by decide +kernel)) (by decide +kernel), ?_⟩
  refine ⟨sn_iload_n (k := 1) (dX_iload_1 (by decide +kernel)) rfl (by decide +kernel), ?_⟩
  refine ⟨sn_icmp_ge (off := 11) (dX_if_icmpge (by decide +kernel)) (by decide +kernel) (by decide +kernel), ?_⟩
  refine ⟨sn_aload_n (k := 0) (dX_aload_0 (by decide +kernel)) rfl (by decide +kernel), ?_⟩
  refine ⟨sn_aload_n (k := 0) (dX_aload_0 (by decide +kernel)) rfl (by decide +kernel), ?_⟩
  refine ⟨sn_getf (C := RX12) (T := TX12) (N := 56) (idx := 135) rfl pin12 (by decide) (by decide) rfl (pmt6 161 rfl (by decide +kernel)) rfl (dX_getfield (by decide +kernel)) (by decide +kernel), ?_⟩
  refine ⟨sn_callV (idx := 153) (C := RX12) (T := TX12) (N := 56) rfl (by decide) cal_180 (pmt7 96 rfl (by decide +kernel)) (pmt7 98 rfl (by decide +kernel)) (pms 46 rfl rfl) (dX_invokevirtual (by decide +kernel)) (by decide +kernel), ?_⟩
  refine ⟨sn_aload_n (k := 0) (dX_aload_0 (by decide +kernel)) rfl (by decide +kernel), ?_⟩
  refine ⟨sn_callV (idx := 141) (C := RX12) (T := TX12) (N := 56) rfl (by decide) cal_179 (pmt7 88 rfl (by decide +kernel)) (pmt7 90 rfl (by decide +kernel)) (pms 44 rfl rfl) (dX_invokevirtual (by decide +kernel)) (by decide +kernel), ?_⟩
  refine ⟨sn_if_ne (off := 10) (dX_ifne (by decide +kernel)) (by decide +kernel) (by decide +kernel), ?_⟩
  refine ⟨sn_iconst (dX_iconst_m1 (by decide +kernel)) (by decide +kernel), ?_⟩
  refine ⟨sn_aload_n (k := 0) (dX_aload_0 (by decide +kernel)) rfl (by decide +kernel), ?_⟩
  refine ⟨sn_getf (C := RX12) (T := TX12) (N := 56) (idx := 138) rfl pin12 (by decide) (by decide) rfl (pmt6 162 rfl (by decide +kernel)) rfl (dX_getfield (by decide +kernel)) (by decide +kernel), ?_⟩
  refine ⟨sn_isub (dX_isub (by decide +kernel)) (by decide +kernel), ?_⟩
  refine ⟨sn_iret rfl (dX_ireturn (by decide +kernel)), ?_⟩
  refine ⟨sn_iconst (dX_iconst_0 (by decide +kernel)) (by decide +kernel), ?_⟩
  refine ⟨sn_istore_n (k := 2) (dX_istore_2 (by decide +kernel)) rfl (by decide) (by decide +kernel), ?_⟩
  refine ⟨sn_iload_n (k := 2) (dX_iload_2 (by decide +kernel)) rfl (by decide +kernel), ?_⟩
  refine ⟨sn_iload_n (k := 1) (dX_iload_1 (by decide +kernel)) rfl (by decide +kernel), ?_⟩
  refine ⟨sn_icmp_ge (off := 21) (dX_if_icmpge (by decide +kernel)) (by decide +kernel) (by decide +kernel), ?_⟩
  refine ⟨sn_aload_n (k := 0) (dX_aload_0 (by decide +kernel)) rfl (by decide +kernel), ?_⟩
  refine ⟨sn_getf (C := RX12) (T := TX12) (N := 56) (idx := 45) rfl pin12 (by decide) (by decide) rfl (pmt6 164 rfl (by decide +kernel)) rfl (dX_getfield (by decide +kernel)) (by decide +kernel), ?_⟩
  refine ⟨sn_iload_n (k := 2) (dX_iload_2 (by decide +kernel)) rfl (by decide +kernel), ?_⟩
  refine ⟨sn_aload_n (k := 0) (dX_aload_0 (by decide +kernel)) rfl (by decide +kernel), ?_⟩
  refine ⟨sn_getf (C := RX12) (T := TX12) (N := 56) (idx := 35) rfl pin12 (by decide) (by decide) rfl (pmt6 153 rfl (by decide +kernel)) rfl (dX_getfield (by decide +kernel)) (by decide +kernel), ?_⟩
  refine ⟨sn_iload_n (k := 2) (dX_iload_2 (by decide +kernel)) rfl (by decide +kernel), ?_⟩
  refine ⟨sn_bald (dX_baload (by decide +kernel)) (by decide +kernel), ?_⟩
  refine ⟨sn_bast (dX_bastore (by decide +kernel)) (by decide +kernel), ?_⟩
  refine ⟨sn_iinc (dX_iinc (by decide +kernel)) (by decide) (by decide +kernel), ?_⟩
  refine ⟨sn_goto (off := -20) (dX_goto (by decide +kernel)) (by decide +kernel), ?_⟩
  refine ⟨sn_aload_n (k := 0) (dX_aload_0 (by decide +kernel)) rfl (by decide +kernel), ?_⟩
  refine ⟨sn_iload_n (k := 1) (dX_iload_1 (by decide +kernel)) rfl (by decide +kernel), ?_⟩
  refine ⟨sn_puti (C := RX12) (T := TX12) (N := 56) (idx := 219) rfl pin12 (by decide) (by decide) rfl tyX12 tyX12_ok nmX12 rfl rfl (by decide +kernel) (pmt6 165 rfl (by decide +kernel)) rfl (dX_putfield (by decide +kernel)) (by decide +kernel), ?_⟩
  refine ⟨sn_iconst (dX_iconst_0 (by decide +kernel)) (by decide +kernel), ?_⟩
  refine ⟨sn_iret rfl (dX_ireturn (by decide +kernel)), ?_⟩
  trivial
set_option maxRecDepth 100000 in
set_option maxHeartbeats 4000000 in
theorem S_194 : pAll (pSk RX12 cX12_worthOf 3 (some .int) PC_194) 0 C_194 := by
  refine ⟨sn_aload_n (k := 0) (dX_aload_0 (by decide +kernel)) rfl (by decide +kernel), ?_⟩
  refine ⟨sn_getf (C := RX12) (T := TX12) (N := 56) (idx := 219) rfl pin12 (by decide) (by decide) rfl (pmt6 165 rfl (by decide +kernel)) rfl (dX_getfield (by decide +kernel)) (by decide +kernel), ?_⟩
  refine ⟨sn_if_ne (off := 5) (dX_ifne (by decide +kernel)) (by decide +kernel) (by decide +kernel), ?_⟩
  refine ⟨sn_iconst (dX_iconst_0 (by decide +kernel)) (by decide +kernel), ?_⟩
  refine ⟨sn_iret rfl (dX_ireturn (by decide +kernel)), ?_⟩
  refine ⟨sn_aload_n (k := 0) (dX_aload_0 (by decide +kernel)) rfl (by decide +kernel), ?_⟩
  refine ⟨sn_aload_n (k := 0) (dX_aload_0 (by decide +kernel)) rfl (by decide +kernel), ?_⟩
  refine ⟨sn_getf (C := RX12) (T := TX12) (N := 56) (idx := 45) rfl pin12 (by decide) (by decide) rfl (pmt6 164 rfl (by decide +kernel)) rfl (dX_getfield (by decide +kernel)) (by decide +kernel), ?_⟩
  refine ⟨sn_aload_n (k := 0) (dX_aload_0 (by decide +kernel)) rfl (by decide +kernel), ?_⟩
  refine ⟨sn_getf (C := RX12) (T := TX12) (N := 56) (idx := 219) rfl pin12 (by decide) (by decide) rfl (pmt6 165 rfl (by decide +kernel)) rfl (dX_getfield (by decide +kernel)) (by decide +kernel), ?_⟩
  refine ⟨sn_bipush (dX_bipush (by decide +kernel)) (by decide +kernel) (by decide +kernel), ?_⟩
  refine ⟨sn_callV (idx := 157) (C := RX12) (T := TX12) (N := 56) rfl (by decide) cal_177 (pmt7 84 rfl (by decide +kernel)) (pmt7 86 rfl (by decide +kernel)) (pms 43 rfl rfl) (dX_invokevirtual (by decide +kernel)) (by decide +kernel), ?_⟩
  refine ⟨sn_aload_n (k := 0) (dX_aload_0 (by decide +kernel)) rfl (by decide +kernel), ?_⟩
  refine ⟨sn_iload_n (k := 1) (dX_iload_1 (by decide +kernel)) rfl (by decide +kernel), ?_⟩
  refine ⟨sn_puti (C := RX12) (T := TX12) (N := 56) (idx := 48) rfl pin12 (by decide) (by decide) rfl tyX12 tyX12_ok nmX12 rfl rfl (by decide +kernel) (pmt6 166 rfl (by decide +kernel)) rfl (dX_putfield (by decide +kernel)) (by decide +kernel), ?_⟩
  refine ⟨sn_aload_n (k := 0) (dX_aload_0 (by decide +kernel)) rfl (by decide +kernel), ?_⟩
  refine ⟨sn_iload_n (k := 2) (dX_iload_2 (by decide +kernel)) rfl (by decide +kernel), ?_⟩
  refine ⟨sn_puti (C := RX12) (T := TX12) (N := 56) (idx := 202) rfl pin12 (by decide) (by decide) rfl tyX12 tyX12_ok nmX12 rfl rfl (by decide +kernel) (pmt6 167 rfl (by decide +kernel)) rfl (dX_putfield (by decide +kernel)) (by decide +kernel), ?_⟩
  refine ⟨sn_sipush (dX_sipush (by decide +kernel)) (by decide +kernel) (by decide +kernel), ?_⟩
  refine ⟨sn_sipush (dX_sipush (by decide +kernel)) (by decide +kernel) (by decide +kernel), ?_⟩
  refine ⟨sn_aload_n (k := 0) (dX_aload_0 (by decide +kernel)) rfl (by decide +kernel), ?_⟩
  refine ⟨sn_iconst (dX_iconst_0 (by decide +kernel)) (by decide +kernel), ?_⟩
  refine ⟨sn_callV (idx := 199) (C := RX12) (T := TX12) (N := 56) rfl (by decide) cal_188 (pmt7 128 rfl (by decide +kernel)) (pmt7 130 rfl (by decide +kernel)) (pms 53 rfl rfl) (dX_invokevirtual (by decide +kernel)) (by decide +kernel), ?_⟩
  refine ⟨sn_mmin (idx := 222) (pmt7 192 rfl (by decide +kernel)) (pmt2 211 rfl (by decide +kernel)) (pmt1 14 rfl (by decide +kernel)) (pmt2 212 rfl (by decide +kernel)) (dX_invokestatic (by decide +kernel)) (by decide +kernel), ?_⟩
  refine ⟨sn_mmax (idx := 228) (pmt7 193 rfl (by decide +kernel)) (pmt3 154 rfl (by decide +kernel)) (pmt1 14 rfl (by decide +kernel)) (pmt3 155 rfl (by decide +kernel)) (dX_invokestatic (by decide +kernel)) (by decide +kernel), ?_⟩
  refine ⟨sn_iret rfl (dX_ireturn (by decide +kernel)), ?_⟩
  trivial
set_option maxRecDepth 100000 in
set_option maxHeartbeats 4000000 in
theorem S_195 : pAll (pSk RX12 cX12_worthAll 4 (some .int) PC_195) 0 C_195 := by
  refine ⟨sn_iconst (dX_iconst_0 (by decide +kernel)) (by decide +kernel), ?_⟩
  refine ⟨sn_istore_n (k := 2) (dX_istore_2 (by decide +kernel)) rfl (by decide) (by decide +kernel), ?_⟩
  refine ⟨sn_iconst (dX_iconst_0 (by decide +kernel)) (by decide +kernel), ?_⟩
  refine ⟨sn_istore_n (k := 3) (dX_istore_3 (by decide +kernel)) rfl (by decide) (by decide +kernel), ?_⟩
  refine ⟨sn_iload_n (k := 3) (dX_iload_3 (by decide +kernel)) rfl (by decide +kernel), ?_⟩
  refine ⟨sn_aload_n (k := 0) (dX_aload_0 (by decide +kernel)) rfl (by decide +kernel), ?_⟩
  refine ⟨sn_getf (C := RX12) (T := TX12) (N := 56) (idx := 120) rfl pin12 (by decide) (by decide) rfl (pmt6 143 rfl (by decide +kernel)) rfl (dX_getfield (by decide +kernel)) (by decide +kernel), ?_⟩
  refine ⟨sn_icmp_ge (off := 20) (dX_if_icmpge (by decide +kernel)) (by decide +kernel) (by decide +kernel), ?_⟩
  refine ⟨sn_iload_n (k := 2) (dX_iload_2 (by decide +kernel)) rfl (by decide +kernel), ?_⟩
  refine ⟨sn_aload_n (k := 0) (dX_aload_0 (by decide +kernel)) rfl (by decide +kernel), ?_⟩
  refine ⟨sn_iload_n (k := 3) (dX_iload_3 (by decide +kernel)) rfl (by decide +kernel), ?_⟩
  refine ⟨sn_aload_n (k := 1) (dX_aload_1 (by decide +kernel)) rfl (by decide +kernel), ?_⟩
  refine ⟨sn_iload_n (k := 3) (dX_iload_3 (by decide +kernel)) rfl (by decide +kernel), ?_⟩
  refine ⟨sn_iald (dX_iaload (by decide +kernel)) (by decide +kernel), ?_⟩
  refine ⟨sn_callV (idx := 231) (C := RX12) (T := TX12) (N := 56) rfl (by decide) cal_194 (pmt7 188 rfl (by decide +kernel)) (pmt7 190 rfl (by decide +kernel)) (pms 65 rfl rfl) (dX_invokevirtual (by decide +kernel)) (by decide +kernel), ?_⟩
  refine ⟨sn_iadd (dX_iadd (by decide +kernel)) (by decide +kernel), ?_⟩
  refine ⟨sn_istore_n (k := 2) (dX_istore_2 (by decide +kernel)) rfl (by decide) (by decide +kernel), ?_⟩
  refine ⟨sn_iinc (dX_iinc (by decide +kernel)) (by decide) (by decide +kernel), ?_⟩
  refine ⟨sn_goto (off := -22) (dX_goto (by decide +kernel)) (by decide +kernel), ?_⟩
  refine ⟨sn_iload_n (k := 2) (dX_iload_2 (by decide +kernel)) rfl (by decide +kernel), ?_⟩
  refine ⟨sn_iret rfl (dX_ireturn (by decide +kernel)), ?_⟩
  trivial
set_option maxRecDepth 100000 in
set_option maxHeartbeats 4000000 in
theorem S_196 : pAll (pSk RX12 cX12_setsOf 4 (some .int) PC_196) 0 C_196 := by
  refine ⟨sn_iconst (dX_iconst_0 (by decide +kernel)) (by decide +kernel), ?_⟩
  refine ⟨sn_istore_n (k := 2) (dX_istore_2 (by decide +kernel)) rfl (by decide) (by decide +kernel), ?_⟩
  refine ⟨sn_iconst (dX_iconst_0 (by decide +kernel)) (by decide +kernel), ?_⟩
  refine ⟨sn_istore_n (k := 3) (dX_istore_3 (by decide +kernel)) rfl (by decide) (by decide +kernel), ?_⟩
  refine ⟨sn_iload_n (k := 3) (dX_iload_3 (by decide +kernel)) rfl (by decide +kernel), ?_⟩
  refine ⟨sn_aload_n (k := 0) (dX_aload_0 (by decide +kernel)) rfl (by decide +kernel), ?_⟩
  refine ⟨sn_getf (C := RX12) (T := TX12) (N := 56) (idx := 161) rfl pin12 (by decide) (by decide) rfl (pmt6 148 rfl (by decide +kernel)) rfl (dX_getfield (by decide +kernel)) (by decide +kernel), ?_⟩
  refine ⟨sn_icmp_ge (off := 32) (dX_if_icmpge (by decide +kernel)) (by decide +kernel) (by decide +kernel), ?_⟩
  refine ⟨sn_iload_n (k := 2) (dX_iload_2 (by decide +kernel)) rfl (by decide +kernel), ?_⟩
  refine ⟨sn_aload_n (k := 0) (dX_aload_0 (by decide +kernel)) rfl (by decide +kernel), ?_⟩
  refine ⟨sn_getf (C := RX12) (T := TX12) (N := 56) (idx := 28) rfl pin12 (by decide) (by decide) rfl (pmt6 149 rfl (by decide +kernel)) rfl (dX_getfield (by decide +kernel)) (by decide +kernel), ?_⟩
  refine ⟨sn_iload_n (k := 3) (dX_iload_3 (by decide +kernel)) rfl (by decide +kernel), ?_⟩
  refine ⟨sn_iald (dX_iaload (by decide +kernel)) (by decide +kernel), ?_⟩
  refine ⟨sn_iload_n (k := 1) (dX_iload_1 (by decide +kernel)) rfl (by decide +kernel), ?_⟩
  refine ⟨sn_callS (idx := 234) cal_170 (pmt7 152 rfl (by decide +kernel)) (pmt7 153 rfl (by decide +kernel)) (dX_invokestatic (by decide +kernel)) (by decide +kernel), ?_⟩
  refine ⟨sn_if_eq (off := 9) (dX_ifeq (by decide +kernel)) (by decide +kernel) (by decide +kernel), ?_⟩
  refine ⟨sn_iconst (dX_iconst_1 (by decide +kernel)) (by decide +kernel), ?_⟩
  refine ⟨sn_iload_n (k := 3) (dX_iload_3 (by decide +kernel)) rfl (by decide +kernel), ?_⟩
  refine ⟨sn_ishl (dX_ishl (by decide +kernel)) (by decide +kernel), ?_⟩
  refine ⟨sn_goto (off := 4) (dX_goto (by decide +kernel)) (by decide +kernel), ?_⟩
  refine ⟨sn_iconst (dX_iconst_0 (by decide +kernel)) (by decide +kernel), ?_⟩
  refine ⟨sn_ior (dX_ior (by decide +kernel)) (by decide +kernel), ?_⟩
  refine ⟨sn_istore_n (k := 2) (dX_istore_2 (by decide +kernel)) rfl (by decide) (by decide +kernel), ?_⟩
  refine ⟨sn_iinc (dX_iinc (by decide +kernel)) (by decide) (by decide +kernel), ?_⟩
  refine ⟨sn_goto (off := -34) (dX_goto (by decide +kernel)) (by decide +kernel), ?_⟩
  refine ⟨sn_iload_n (k := 2) (dX_iload_2 (by decide +kernel)) rfl (by decide +kernel), ?_⟩
  refine ⟨sn_iret rfl (dX_ireturn (by decide +kernel)), ?_⟩
  trivial
set_option maxRecDepth 100000 in
set_option maxHeartbeats 4000000 in
theorem S_197 : pAll (pSk RX12 cX12_besides 4 (some .int) PC_197) 0 C_197 := by
  refine ⟨sn_iconst (dX_iconst_0 (by decide +kernel)) (by decide +kernel), ?_⟩
  refine ⟨sn_istore_n (k := 2) (dX_istore_2 (by decide +kernel)) rfl (by decide) (by decide +kernel), ?_⟩
  refine ⟨sn_iconst (dX_iconst_0 (by decide +kernel)) (by decide +kernel), ?_⟩
  refine ⟨sn_istore_n (k := 3) (dX_istore_3 (by decide +kernel)) rfl (by decide) (by decide +kernel), ?_⟩
  refine ⟨sn_iload_n (k := 3) (dX_iload_3 (by decide +kernel)) rfl (by decide +kernel), ?_⟩
  refine ⟨sn_aload_n (k := 0) (dX_aload_0 (by decide +kernel)) rfl (by decide +kernel), ?_⟩
  refine ⟨sn_getf (C := RX12) (T := TX12) (N := 56) (idx := 113) rfl pin12 (by decide) (by decide) rfl (pmt6 140 rfl (by decide +kernel)) rfl (dX_getfield (by decide +kernel)) (by decide +kernel), ?_⟩
  refine ⟨sn_icmp_ge (off := 33) (dX_if_icmpge (by decide +kernel)) (by decide +kernel) (by decide +kernel), ?_⟩
  refine ⟨sn_iload_n (k := 2) (dX_iload_2 (by decide +kernel)) rfl (by decide +kernel), ?_⟩
  refine ⟨sn_aload_n (k := 0) (dX_aload_0 (by decide +kernel)) rfl (by decide +kernel), ?_⟩
  refine ⟨sn_getf (C := RX12) (T := TX12) (N := 56) (idx := 13) rfl pin12 (by decide) (by decide) rfl (pmt6 142 rfl (by decide +kernel)) rfl (dX_getfield (by decide +kernel)) (by decide +kernel), ?_⟩
  refine ⟨sn_bipush (dX_bipush (by decide +kernel)) (by decide +kernel) (by decide +kernel), ?_⟩
  refine ⟨sn_iload_n (k := 1) (dX_iload_1 (by decide +kernel)) rfl (by decide +kernel), ?_⟩
  refine ⟨sn_imul (dX_imul (by decide +kernel)) (by decide +kernel), ?_⟩
  refine ⟨sn_iload_n (k := 3) (dX_iload_3 (by decide +kernel)) rfl (by decide +kernel), ?_⟩
  refine ⟨sn_iadd (dX_iadd (by decide +kernel)) (by decide +kernel), ?_⟩
  refine ⟨sn_iald (dX_iaload (by decide +kernel)) (by decide +kernel), ?_⟩
  refine ⟨sn_if_le (off := 9) (dX_ifle (by decide +kernel)) (by decide +kernel) (by decide +kernel), ?_⟩
  refine ⟨sn_iconst (dX_iconst_1 (by decide +kernel)) (by decide +kernel), ?_⟩
  refine ⟨sn_iload_n (k := 3) (dX_iload_3 (by decide +kernel)) rfl (by decide +kernel), ?_⟩
  refine ⟨sn_ishl (dX_ishl (by decide +kernel)) (by decide +kernel), ?_⟩
  refine ⟨sn_goto (off := 4) (dX_goto (by decide +kernel)) (by decide +kernel), ?_⟩
  refine ⟨sn_iconst (dX_iconst_0 (by decide +kernel)) (by decide +kernel), ?_⟩
  refine ⟨sn_ior (dX_ior (by decide +kernel)) (by decide +kernel), ?_⟩
  refine ⟨sn_istore_n (k := 2) (dX_istore_2 (by decide +kernel)) rfl (by decide) (by decide +kernel), ?_⟩
  refine ⟨sn_iinc (dX_iinc (by decide +kernel)) (by decide) (by decide +kernel), ?_⟩
  refine ⟨sn_goto (off := -35) (dX_goto (by decide +kernel)) (by decide +kernel), ?_⟩
  refine ⟨sn_iload_n (k := 2) (dX_iload_2 (by decide +kernel)) rfl (by decide +kernel), ?_⟩
  refine ⟨sn_iret rfl (dX_ireturn (by decide +kernel)), ?_⟩
  trivial
set_option maxRecDepth 100000 in
set_option maxHeartbeats 4000000 in
theorem S_198 : pAll (pSk RX12 cX12_freeIn 5 (some .int) PC_198) 0 C_198 := by
  refine ⟨sn_aload_n (k := 0) (dX_aload_0 (by decide +kernel)) rfl (by decide +kernel), ?_⟩
  refine ⟨sn_getf (C := RX12) (T := TX12) (N := 56) (idx := 9) rfl pin12 (by decide) (by decide) rfl (pmt6 141 rfl (by decide +kernel)) rfl (dX_getfield (by decide +kernel)) (by decide +kernel), ?_⟩
  refine ⟨sn_iload_n (k := 2) (dX_iload_2 (by decide +kernel)) rfl (by decide +kernel), ?_⟩
  refine ⟨sn_iald (dX_iaload (by decide +kernel)) (by decide +kernel), ?_⟩
  refine ⟨sn_istore_n (k := 3) (dX_istore_3 (by decide +kernel)) rfl (by decide) (by decide +kernel), ?_⟩
  refine ⟨sn_iconst (dX_iconst_0 (by decide +kernel)) (by decide +kernel), ?_⟩
  refine ⟨sn_istore (dX_istore (by decide +kernel)) (by decide) (by decide +kernel), ?_⟩
  refine ⟨sn_iload (dX_iload (by decide +kernel)) (by decide +kernel), ?_⟩
  refine ⟨sn_aload_n (k := 0) (dX_aload_0 (by decide +kernel)) rfl (by decide +kernel), ?_⟩
  refine ⟨sn_getf (C := RX12) (T := TX12) (N := 56) (idx := 120) rfl pin12 (by decide) (by decide) rfl (pmt6 143 rfl (by decide +kernel)) rfl (dX_getfield (by decide +kernel)) (by decide +kernel), ?_⟩
  refine ⟨sn_icmp_ge (off := 31) (dX_if_icmpge (by decide +kernel)) (by decide +kernel) (by decide +kernel), ?_⟩
  refine ⟨sn_iload_n (k := 3) (dX_iload_3 (by decide +kernel)) rfl (by decide +kernel), ?_⟩
  refine ⟨sn_aload_n (k := 1) (dX_aload_1 (by decide +kernel)) rfl (by decide +kernel), ?_⟩
  refine ⟨sn_iload (dX_iload (by decide +kernel)) (by decide +kernel), ?_⟩
  refine ⟨sn_iald (dX_iaload (by decide +kernel)) (by decide +kernel), ?_⟩
  refine ⟨sn_iload_n (k := 2) (dX_iload_2 (by decide +kernel)) rfl (by decide +kernel), ?_⟩
  refine ⟨sn_icmp_ne (off := 13) (dX_if_icmpne (by decide +kernel)) (by decide +kernel) (by decide +kernel), ?_⟩
  refine ⟨sn_aload_n (k := 0) (dX_aload_0 (by decide +kernel)) rfl (by decide +kernel), ?_⟩
  refine ⟨sn_getf (C := RX12) (T := TX12) (N := 56) (idx := 16) rfl pin12 (by decide) (by decide) rfl (pmt6 144 rfl (by decide +kernel)) rfl (dX_getfield (by decide +kernel)) (by decide +kernel), ?_⟩
  refine ⟨sn_iload (dX_iload (by decide +kernel)) (by decide +kernel), ?_⟩
  refine ⟨sn_iald (dX_iaload (by decide +kernel)) (by decide +kernel), ?_⟩
  refine ⟨sn_goto (off := 4) (dX_goto (by decide +kernel)) (by decide +kernel), ?_⟩
  refine ⟨sn_iconst (dX_iconst_0 (by decide +kernel)) (by decide +kernel), ?_⟩
  refine ⟨sn_isub (dX_isub (by decide +kernel)) (by decide +kernel), ?_⟩
  refine ⟨sn_istore_n (k := 3) (dX_istore_3 (by decide +kernel)) rfl (by decide) (by decide +kernel), ?_⟩
  refine ⟨sn_iinc (dX_iinc (by decide +kernel)) (by decide) (by decide +kernel), ?_⟩
  refine ⟨sn_goto (off := -34) (dX_goto (by decide +kernel)) (by decide +kernel), ?_⟩
  refine ⟨sn_iload_n (k := 3) (dX_iload_3 (by decide +kernel)) rfl (by decide +kernel), ?_⟩
  refine ⟨sn_iret rfl (dX_ireturn (by decide +kernel)), ?_⟩
  trivial
set_option maxRecDepth 100000 in
set_option maxHeartbeats 4000000 in
theorem S_199 : pAll (pSk RX12 cX12_room 5 (some .int) PC_199) 0 C_199 := by
  refine ⟨sn_aload_n (k := 0) (dX_aload_0 (by decide +kernel)) rfl (by decide +kernel), ?_⟩
  refine ⟨sn_iconst (dX_iconst_0 (by decide +kernel)) (by decide +kernel), ?_⟩
  refine ⟨sn_puti (C := RX12) (T := TX12) (N := 56) (idx := 107) rfl pin12 (by decide) (by decide) rfl tyX12 tyX12_ok nmX12 rfl rfl (by decide +kernel) (pmt6 157 rfl (by decide +kernel)) rfl (dX_putfield (by decide +kernel)) (by decide +kernel), ?_⟩
  refine ⟨sn_aload_n (k := 0) (dX_aload_0 (by decide +kernel)) rfl (by decide +kernel), ?_⟩
  refine ⟨sn_iload_n (k := 1) (dX_iload_1 (by decide +kernel)) rfl (by decide +kernel), ?_⟩
  refine ⟨sn_callV (idx := 238) (C := RX12) (T := TX12) (N := 56) rfl (by decide) cal_173 (pmt7 164 rfl (by decide +kernel)) (pmt7 166 rfl (by decide +kernel)) (pms 60 rfl rfl) (dX_invokevirtual (by decide +kernel)) (by decide +kernel), ?_⟩
  refine ⟨sn_if_eq (off := 12) (dX_ifeq (by decide +kernel)) (by decide +kernel) (by decide +kernel), ?_⟩
  refine ⟨sn_iload_n (k := 2) (dX_iload_2 (by decide +kernel)) rfl (by decide +kernel), ?_⟩
  refine ⟨sn_iconst (dX_iconst_0 (by decide +kernel)) (by decide +kernel), ?_⟩
  refine ⟨sn_iconst (dX_iconst_3 (by decide +kernel)) (by decide +kernel), ?_⟩
  refine ⟨sn_callS (idx := 116) cal_169 (pmt7 77 rfl (by decide +kernel)) (pmt7 78 rfl (by decide +kernel)) (dX_invokestatic (by decide +kernel)) (by decide +kernel), ?_⟩
  refine ⟨sn_if_ne (off := 8) (dX_ifne (by decide +kernel)) (by decide +kernel) (by decide +kernel), ?_⟩
  refine ⟨sn_aload_n (k := 0) (dX_aload_0 (by decide +kernel)) rfl (by decide +kernel), ?_⟩
  refine ⟨sn_callV (idx := 242) (C := RX12) (T := TX12) (N := 56) rfl (by decide) cal_171 (pmt7 168 rfl (by decide +kernel)) (pmt7 170 rfl (by decide +kernel)) (pms 61 rfl rfl) (dX_invokevirtual (by decide +kernel)) (by decide +kernel), ?_⟩
  refine ⟨sn_iret rfl (dX_ireturn (by decide +kernel)), ?_⟩
  refine ⟨sn_iload_n (k := 2) (dX_iload_2 (by decide +kernel)) rfl (by decide +kernel), ?_⟩
  refine ⟨sn_if_ne (off := 10) (dX_ifne (by decide +kernel)) (by decide +kernel) (by decide +kernel), ?_⟩
  refine ⟨sn_aload_n (k := 0) (dX_aload_0 (by decide +kernel)) rfl (by decide +kernel), ?_⟩
  refine ⟨sn_getf (C := RX12) (T := TX12) (N := 56) (idx := 9) rfl pin12 (by decide) (by decide) rfl (pmt6 141 rfl (by decide +kernel)) rfl (dX_getfield (by decide +kernel)) (by decide +kernel), ?_⟩
  refine ⟨sn_iload_n (k := 1) (dX_iload_1 (by decide +kernel)) rfl (by decide +kernel), ?_⟩
  refine ⟨sn_iald (dX_iaload (by decide +kernel)) (by decide +kernel), ?_⟩
  refine ⟨sn_iret rfl (dX_ireturn (by decide +kernel)), ?_⟩
  refine ⟨sn_iload_n (k := 2) (dX_iload_2 (by decide +kernel)) rfl (by decide +kernel), ?_⟩
  refine ⟨sn_iconst (dX_iconst_2 (by decide +kernel)) (by decide +kernel), ?_⟩
  refine ⟨sn_icmp_ne (off := 13) (dX_if_icmpne (by decide +kernel)) (by decide +kernel) (by decide +kernel), ?_⟩
  refine ⟨sn_aload_n (k := 0) (dX_aload_0 (by decide +kernel)) rfl (by decide +kernel), ?_⟩
  refine ⟨sn_aload_n (k := 0) (dX_aload_0 (by decide +kernel)) rfl (by decide +kernel), ?_⟩
  refine ⟨sn_getf (C := RX12) (T := TX12) (N := 56) (idx := 25) rfl pin12 (by decide) (by decide) rfl (pmt6 147 rfl (by decide +kernel)) rfl (dX_getfield (by decide +kernel)) (by decide +kernel), ?_⟩
  refine ⟨sn_iload_n (k := 1) (dX_iload_1 (by decide +kernel)) rfl (by decide +kernel), ?_⟩
  refine ⟨sn_callV (idx := 245) (C := RX12) (T := TX12) (N := 56) rfl (by decide) cal_198 (pmt7 172 rfl (by decide +kernel)) (pmt7 174 rfl (by decide +kernel)) (pms 62 rfl rfl) (dX_invokevirtual (by decide +kernel)) (by decide +kernel), ?_⟩
  refine ⟨sn_iret rfl (dX_ireturn (by decide +kernel)), ?_⟩
  refine ⟨sn_iload_n (k := 2) (dX_iload_2 (by decide +kernel)) rfl (by decide +kernel), ?_⟩
  refine ⟨sn_iconst (dX_iconst_3 (by decide +kernel)) (by decide +kernel), ?_⟩
  refine ⟨sn_icmp_ne (off := 9) (dX_if_icmpne (by decide +kernel)) (by decide +kernel) (by decide +kernel), ?_⟩
  refine ⟨sn_aload_n (k := 0) (dX_aload_0 (by decide +kernel)) rfl (by decide +kernel), ?_⟩
  refine ⟨sn_iload_n (k := 1) (dX_iload_1 (by decide +kernel)) rfl (by decide +kernel), ?_⟩
  refine ⟨sn_callV (idx := 216) (C := RX12) (T := TX12) (N := 56) rfl (by decide) cal_197 (pmt7 156 rfl (by decide +kernel)) (pmt7 158 rfl (by decide +kernel)) (pms 59 rfl rfl) (dX_invokevirtual (by decide +kernel)) (by decide +kernel), ?_⟩
  refine ⟨sn_iret rfl (dX_ireturn (by decide +kernel)), ?_⟩
  refine ⟨sn_iconst (dX_iconst_0 (by decide +kernel)) (by decide +kernel), ?_⟩
  refine ⟨sn_istore_n (k := 3) (dX_istore_3 (by decide +kernel)) rfl (by decide) (by decide +kernel), ?_⟩
  refine ⟨sn_iconst (dX_iconst_0 (by decide +kernel)) (by decide +kernel), ?_⟩
  refine ⟨sn_istore (dX_istore (by decide +kernel)) (by decide) (by decide +kernel), ?_⟩
  refine ⟨sn_iload (dX_iload (by decide +kernel)) (by decide +kernel), ?_⟩
  refine ⟨sn_aload_n (k := 0) (dX_aload_0 (by decide +kernel)) rfl (by decide +kernel), ?_⟩
  refine ⟨sn_getf (C := RX12) (T := TX12) (N := 56) (idx := 120) rfl pin12 (by decide) (by decide) rfl (pmt6 143 rfl (by decide +kernel)) rfl (dX_getfield (by decide +kernel)) (by decide +kernel), ?_⟩
  refine ⟨sn_icmp_ge (off := 31) (dX_if_icmpge (by decide +kernel)) (by decide +kernel) (by decide +kernel), ?_⟩
  refine ⟨sn_iload_n (k := 3) (dX_iload_3 (by decide +kernel)) rfl (by decide +kernel), ?_⟩
  refine ⟨sn_aload_n (k := 0) (dX_aload_0 (by decide +kernel)) rfl (by decide +kernel), ?_⟩
  refine ⟨sn_getf (C := RX12) (T := TX12) (N := 56) (idx := 25) rfl pin12 (by decide) (by decide) rfl (pmt6 147 rfl (by decide +kernel)) rfl (dX_getfield (by decide +kernel)) (by decide +kernel), ?_⟩
  refine ⟨sn_iload (dX_iload (by decide +kernel)) (by decide +kernel), ?_⟩
  refine ⟨sn_iald (dX_iaload (by decide +kernel)) (by decide +kernel), ?_⟩
  refine ⟨sn_iload_n (k := 1) (dX_iload_1 (by decide +kernel)) rfl (by decide +kernel), ?_⟩
  refine ⟨sn_icmp_ne (off := 10) (dX_if_icmpne (by decide +kernel)) (by decide +kernel) (by decide +kernel), ?_⟩
  refine ⟨sn_iconst (dX_iconst_1 (by decide +kernel)) (by decide +kernel), ?_⟩
  refine ⟨sn_iload (dX_iload (by decide +kernel)) (by decide +kernel), ?_⟩
  refine ⟨sn_ishl (dX_ishl (by decide +kernel)) (by decide +kernel), ?_⟩
  refine ⟨sn_goto (off := 4) (dX_goto (by decide +kernel)) (by decide +kernel), ?_⟩
  refine ⟨sn_iconst (dX_iconst_0 (by decide +kernel)) (by decide +kernel), ?_⟩
  refine ⟨sn_ior (dX_ior (by decide +kernel)) (by decide +kernel), ?_⟩
  refine ⟨sn_istore_n (k := 3) (dX_istore_3 (by decide +kernel)) rfl (by decide) (by decide +kernel), ?_⟩
  refine ⟨sn_iinc (dX_iinc (by decide +kernel)) (by decide) (by decide +kernel), ?_⟩
  refine ⟨sn_goto (off := -34) (dX_goto (by decide +kernel)) (by decide +kernel), ?_⟩
  refine ⟨sn_iload_n (k := 3) (dX_iload_3 (by decide +kernel)) rfl (by decide +kernel), ?_⟩
  refine ⟨sn_iret rfl (dX_ireturn (by decide +kernel)), ?_⟩
  trivial
set_option maxRecDepth 100000 in
set_option maxHeartbeats 4000000 in
theorem S_200 : pAll (pSk RX12 cX12_findClumps 8 none PC_200) 0 C_200 := by
  refine ⟨sn_aload_n (k := 0) (dX_aload_0 (by decide +kernel)) rfl (by decide +kernel), ?_⟩
  refine ⟨sn_iconst (dX_iconst_0 (by decide +kernel)) (by decide +kernel), ?_⟩
  refine ⟨sn_puti (C := RX12) (T := TX12) (N := 56) (idx := 249) rfl pin12 (by decide) (by decide) rfl tyX12 tyX12_ok nmX12 rfl rfl (by decide +kernel) (pmt6 170 rfl (by decide +kernel)) rfl (dX_putfield (by decide +kernel)) (by decide +kernel), ?_⟩
  refine ⟨sn_iload_n (k := 2) (dX_iload_2 (by decide +kernel)) rfl (by decide +kernel), ?_⟩
  refine ⟨sn_istore_n (k := 3) (dX_istore_3 (by decide +kernel)) rfl (by decide) (by decide +kernel), ?_⟩
  refine ⟨sn_iconst (dX_iconst_0 (by decide +kernel)) (by decide +kernel), ?_⟩
  refine ⟨sn_istore (dX_istore (by decide +kernel)) (by decide) (by decide +kernel), ?_⟩
  refine ⟨sn_iload (dX_iload (by decide +kernel)) (by decide +kernel), ?_⟩
  refine ⟨sn_aload_n (k := 0) (dX_aload_0 (by decide +kernel)) rfl (by decide +kernel), ?_⟩
  refine ⟨sn_getf (C := RX12) (T := TX12) (N := 56) (idx := 120) rfl pin12 (by decide) (by decide) rfl (pmt6 143 rfl (by decide +kernel)) rfl (dX_getfield (by decide +kernel)) (by decide +kernel), ?_⟩
  refine ⟨sn_icmp_ge (off := 165) (dX_if_icmpge (by decide +kernel)) (by decide +kernel) (by decide +kernel), ?_⟩
  refine ⟨sn_iload_n (k := 3) (dX_iload_3 (by decide +kernel)) rfl (by decide +kernel), ?_⟩
  refine ⟨sn_iload (dX_iload (by decide +kernel)) (by decide +kernel), ?_⟩
  refine ⟨sn_callS (idx := 234) cal_170 (pmt7 152 rfl (by decide +kernel)) (pmt7 153 rfl (by decide +kernel)) (dX_invokestatic (by decide +kernel)) (by decide +kernel), ?_⟩
  refine ⟨sn_if_eq (off := 6) (dX_ifeq (by decide +kernel)) (by decide +kernel) (by decide +kernel), ?_⟩
  refine ⟨sn_goto (off := 147) (dX_goto (by decide +kernel)) (by decide +kernel), ?_⟩
  refine ⟨sn_iconst (dX_iconst_1 (by decide +kernel)) (by decide +kernel), ?_⟩
  refine ⟨sn_iload (dX_iload (by decide +kernel)) (by decide +kernel), ?_⟩
  refine ⟨sn_ishl (dX_ishl (by decide +kernel)) (by decide +kernel), ?_⟩
  refine ⟨sn_istore (dX_istore (by decide +kernel)) (by decide) (by decide +kernel), ?_⟩
  refine ⟨sn_iconst (dX_iconst_0 (by decide +kernel)) (by decide +kernel), ?_⟩
  refine ⟨sn_istore (dX_istore (by decide +kernel)) (by decide) (by decide +kernel), ?_⟩
  refine ⟨sn_iload (dX_iload (by decide +kernel)) (by decide +kernel), ?_⟩
  refine ⟨sn_iload (dX_iload (by decide +kernel)) (by decide +kernel), ?_⟩
  refine ⟨sn_icmp_eq (off := 66) (dX_if_icmpeq (by decide +kernel)) (by decide +kernel) (by decide +kernel), ?_⟩
  refine ⟨sn_iload (dX_iload (by decide +kernel)) (by decide +kernel), ?_⟩
  refine ⟨sn_istore (dX_istore (by decide +kernel)) (by decide) (by decide +kernel), ?_⟩
  refine ⟨sn_iconst (dX_iconst_0 (by decide +kernel)) (by decide +kernel), ?_⟩
  refine ⟨sn_istore (dX_istore (by decide +kernel)) (by decide) (by decide +kernel), ?_⟩
  refine ⟨sn_iload (dX_iload (by decide +kernel)) (by decide +kernel), ?_⟩
  refine ⟨sn_aload_n (k := 0) (dX_aload_0 (by decide +kernel)) rfl (by decide +kernel), ?_⟩
  refine ⟨sn_getf (C := RX12) (T := TX12) (N := 56) (idx := 161) rfl pin12 (by decide) (by decide) rfl (pmt6 148 rfl (by decide +kernel)) rfl (dX_getfield (by decide +kernel)) (by decide +kernel), ?_⟩
  refine ⟨sn_icmp_ge (off := 47) (dX_if_icmpge (by decide +kernel)) (by decide +kernel) (by decide +kernel), ?_⟩
  refine ⟨sn_iload_n (k := 1) (dX_iload_1 (by decide +kernel)) rfl (by decide +kernel), ?_⟩
  refine ⟨sn_iload (dX_iload (by decide +kernel)) (by decide +kernel), ?_⟩
  refine ⟨sn_callS (idx := 234) cal_170 (pmt7 152 rfl (by decide +kernel)) (pmt7 153 rfl (by decide +kernel)) (dX_invokestatic (by decide +kernel)) (by decide +kernel), ?_⟩
  refine ⟨sn_if_ne (off := 32) (dX_ifne (by decide +kernel)) (by decide +kernel) (by decide +kernel), ?_⟩
  refine ⟨sn_aload_n (k := 0) (dX_aload_0 (by decide +kernel)) rfl (by decide +kernel), ?_⟩
  refine ⟨sn_getf (C := RX12) (T := TX12) (N := 56) (idx := 28) rfl pin12 (by decide) (by decide) rfl (pmt6 149 rfl (by decide +kernel)) rfl (dX_getfield (by decide +kernel)) (by decide +kernel), ?_⟩
  refine ⟨sn_iload (dX_iload (by decide +kernel)) (by decide +kernel), ?_⟩
  refine ⟨sn_iald (dX_iaload (by decide +kernel)) (by decide +kernel), ?_⟩
  refine ⟨sn_iload (dX_iload (by decide +kernel)) (by decide +kernel), ?_⟩
  refine ⟨sn_iand (dX_iand (by decide +kernel)) (by decide +kernel), ?_⟩
  refine ⟨sn_if_eq (off := 19) (dX_ifeq (by decide +kernel)) (by decide +kernel) (by decide +kernel), ?_⟩
  refine ⟨sn_iload (dX_iload (by decide +kernel)) (by decide +kernel), ?_⟩
  refine ⟨sn_aload_n (k := 0) (dX_aload_0 (by decide +kernel)) rfl (by decide +kernel), ?_⟩
  refine ⟨sn_getf (C := RX12) (T := TX12) (N := 56) (idx := 28) rfl pin12 (by decide) (by decide) rfl (pmt6 149 rfl (by decide +kernel)) rfl (dX_getfield (by decide +kernel)) (by decide +kernel), ?_⟩
  refine ⟨sn_iload (dX_iload (by decide +kernel)) (by decide +kernel), ?_⟩
  refine ⟨sn_iald (dX_iaload (by decide +kernel)) (by decide +kernel), ?_⟩
  refine ⟨sn_iload_n (k := 2) (dX_iload_2 (by decide +kernel)) rfl (by decide +kernel), ?_⟩
  refine ⟨sn_iconst (dX_iconst_m1 (by decide +kernel)) (by decide +kernel), ?_⟩
  refine ⟨sn_ixor (dX_ixor (by decide +kernel)) (by decide +kernel), ?_⟩
  refine ⟨sn_iand (dX_iand (by decide +kernel)) (by decide +kernel), ?_⟩
  refine ⟨sn_ior (dX_ior (by decide +kernel)) (by decide +kernel), ?_⟩
  refine ⟨sn_istore (dX_istore (by decide +kernel)) (by decide) (by decide +kernel), ?_⟩
  refine ⟨sn_iinc (dX_iinc (by decide +kernel)) (by decide) (by decide +kernel), ?_⟩
  refine ⟨sn_goto (off := -50) (dX_goto (by decide +kernel)) (by decide +kernel), ?_⟩
  refine ⟨sn_goto (off := -67) (dX_goto (by decide +kernel)) (by decide +kernel), ?_⟩
  refine ⟨sn_aload_n (k := 0) (dX_aload_0 (by decide +kernel)) rfl (by decide +kernel), ?_⟩
  refine ⟨sn_getf (C := RX12) (T := TX12) (N := 56) (idx := 54) rfl pin12 (by decide) (by decide) rfl (pmt6 169 rfl (by decide +kernel)) rfl (dX_getfield (by decide +kernel)) (by decide +kernel), ?_⟩
  refine ⟨sn_aload_n (k := 0) (dX_aload_0 (by decide +kernel)) rfl (by decide +kernel), ?_⟩
  refine ⟨sn_getf (C := RX12) (T := TX12) (N := 56) (idx := 249) rfl pin12 (by decide) (by decide) rfl (pmt6 170 rfl (by decide +kernel)) rfl (dX_getfield (by decide +kernel)) (by decide +kernel), ?_⟩
  refine ⟨sn_iload (dX_iload (by decide +kernel)) (by decide +kernel), ?_⟩
  refine ⟨sn_iast (dX_iastore (by decide +kernel)) (by decide +kernel), ?_⟩
  refine ⟨sn_iconst (dX_iconst_0 (by decide +kernel)) (by decide +kernel), ?_⟩
  refine ⟨sn_istore (dX_istore (by decide +kernel)) (by decide) (by decide +kernel), ?_⟩
  refine ⟨sn_iload (dX_iload (by decide +kernel)) (by decide +kernel), ?_⟩
  refine ⟨sn_aload_n (k := 0) (dX_aload_0 (by decide +kernel)) rfl (by decide +kernel), ?_⟩
  refine ⟨sn_getf (C := RX12) (T := TX12) (N := 56) (idx := 120) rfl pin12 (by decide) (by decide) rfl (pmt6 143 rfl (by decide +kernel)) rfl (dX_getfield (by decide +kernel)) (by decide +kernel), ?_⟩
  refine ⟨sn_icmp_ge (off := 30) (dX_if_icmpge (by decide +kernel)) (by decide +kernel) (by decide +kernel), ?_⟩
  refine ⟨sn_iload (dX_iload (by decide +kernel)) (by decide +kernel), ?_⟩
  refine ⟨sn_iload (dX_iload (by decide +kernel)) (by decide +kernel), ?_⟩
  refine ⟨sn_callS (idx := 234) cal_170 (pmt7 152 rfl (by decide +kernel)) (pmt7 153 rfl (by decide +kernel)) (dX_invokestatic (by decide +kernel)) (by decide +kernel), ?_⟩
  refine ⟨sn_if_eq (off := 14) (dX_ifeq (by decide +kernel)) (by decide +kernel) (by decide +kernel), ?_⟩
  refine ⟨sn_aload_n (k := 0) (dX_aload_0 (by decide +kernel)) rfl (by decide +kernel), ?_⟩
  refine ⟨sn_getf (C := RX12) (T := TX12) (N := 56) (idx := 51) rfl pin12 (by decide) (by decide) rfl (pmt6 168 rfl (by decide +kernel)) rfl (dX_getfield (by decide +kernel)) (by decide +kernel), ?_⟩
  refine ⟨sn_iload (dX_iload (by decide +kernel)) (by decide +kernel), ?_⟩
  refine ⟨sn_aload_n (k := 0) (dX_aload_0 (by decide +kernel)) rfl (by decide +kernel), ?_⟩
  refine ⟨sn_getf (C := RX12) (T := TX12) (N := 56) (idx := 249) rfl pin12 (by decide) (by decide) rfl (pmt6 170 rfl (by decide +kernel)) rfl (dX_getfield (by decide +kernel)) (by decide +kernel), ?_⟩
  refine ⟨sn_iast (dX_iastore (by decide +kernel)) (by decide +kernel), ?_⟩
  refine ⟨sn_iinc (dX_iinc (by decide +kernel)) (by decide) (by decide +kernel), ?_⟩
  refine ⟨sn_goto (off := -33) (dX_goto (by decide +kernel)) (by decide +kernel), ?_⟩
  refine ⟨sn_aload_n (k := 0) (dX_aload_0 (by decide +kernel)) rfl (by decide +kernel), ?_⟩
  refine ⟨sn_dup (dX_dup (by decide +kernel)) (by decide +kernel), ?_⟩
  refine ⟨sn_getf (C := RX12) (T := TX12) (N := 56) (idx := 249) rfl pin12 (by decide) (by decide) rfl (pmt6 170 rfl (by decide +kernel)) rfl (dX_getfield (by decide +kernel)) (by decide +kernel), ?_⟩
  refine ⟨sn_iconst (dX_iconst_1 (by decide +kernel)) (by decide +kernel), ?_⟩
  refine ⟨sn_iadd (dX_iadd (by decide +kernel)) (by decide +kernel), ?_⟩
  refine ⟨sn_puti (C := RX12) (T := TX12) (N := 56) (idx := 249) rfl pin12 (by decide) (by decide) rfl tyX12 tyX12_ok nmX12 rfl rfl (by decide +kernel) (pmt6 170 rfl (by decide +kernel)) rfl (dX_putfield (by decide +kernel)) (by decide +kernel), ?_⟩
  refine ⟨sn_iload_n (k := 3) (dX_iload_3 (by decide +kernel)) rfl (by decide +kernel), ?_⟩
  refine ⟨sn_iload (dX_iload (by decide +kernel)) (by decide +kernel), ?_⟩
  refine ⟨sn_ior (dX_ior (by decide +kernel)) (by decide +kernel), ?_⟩
  refine ⟨sn_istore_n (k := 3) (dX_istore_3 (by decide +kernel)) rfl (by decide) (by decide +kernel), ?_⟩
  refine ⟨sn_iinc (dX_iinc (by decide +kernel)) (by decide) (by decide +kernel), ?_⟩
  refine ⟨sn_goto (off := -168) (dX_goto (by decide +kernel)) (by decide +kernel), ?_⟩
  refine ⟨sn_vret rfl (dX_return (by decide +kernel)), ?_⟩
  trivial
set_option maxRecDepth 100000 in
set_option maxHeartbeats 4000000 in
theorem S_201 : pAll (pSk RX12 cX12_thing 3 (some .int) PC_201) 0 C_201 := by
  refine ⟨sn_aload_n (k := 0) (dX_aload_0 (by decide +kernel)) rfl (by decide +kernel), ?_⟩
  refine ⟨sn_iconst (dX_iconst_0 (by decide +kernel)) (by decide +kernel), ?_⟩
  refine ⟨sn_puti (C := RX12) (T := TX12) (N := 56) (idx := 107) rfl pin12 (by decide) (by decide) rfl tyX12 tyX12_ok nmX12 rfl rfl (by decide +kernel) (pmt6 157 rfl (by decide +kernel)) rfl (dX_putfield (by decide +kernel)) (by decide +kernel), ?_⟩
  refine ⟨sn_aload_n (k := 0) (dX_aload_0 (by decide +kernel)) rfl (by decide +kernel), ?_⟩
  refine ⟨sn_iload_n (k := 1) (dX_iload_1 (by decide +kernel)) rfl (by decide +kernel), ?_⟩
  refine ⟨sn_callV (idx := 252) (C := RX12) (T := TX12) (N := 56) rfl (by decide) cal_174 (pmt7 180 rfl (by decide +kernel)) (pmt7 182 rfl (by decide +kernel)) (pms 63 rfl rfl) (dX_invokevirtual (by decide +kernel)) (by decide +kernel), ?_⟩
  refine ⟨sn_if_eq (off := 13) (dX_ifeq (by decide +kernel)) (by decide +kernel) (by decide +kernel), ?_⟩
  refine ⟨sn_iload_n (k := 2) (dX_iload_2 (by decide +kernel)) rfl (by decide +kernel), ?_⟩
  refine ⟨sn_iconst (dX_iconst_0 (by decide +kernel)) (by decide +kernel), ?_⟩
  refine ⟨sn_bipush (dX_bipush (by decide +kernel)) (by decide +kernel) (by decide +kernel), ?_⟩
  refine ⟨sn_callS (idx := 116) cal_169 (pmt7 77 rfl (by decide +kernel)) (pmt7 78 rfl (by decide +kernel)) (dX_invokestatic (by decide +kernel)) (by decide +kernel), ?_⟩
  refine ⟨sn_if_ne (off := 8) (dX_ifne (by decide +kernel)) (by decide +kernel) (by decide +kernel), ?_⟩
  refine ⟨sn_aload_n (k := 0) (dX_aload_0 (by decide +kernel)) rfl (by decide +kernel), ?_⟩
  refine ⟨sn_callV (idx := 242) (C := RX12) (T := TX12) (N := 56) rfl (by decide) cal_171 (pmt7 168 rfl (by decide +kernel)) (pmt7 170 rfl (by decide +kernel)) (pms 61 rfl rfl) (dX_invokevirtual (by decide +kernel)) (by decide +kernel), ?_⟩
  refine ⟨sn_iret rfl (dX_ireturn (by decide +kernel)), ?_⟩
  refine ⟨sn_iload_n (k := 2) (dX_iload_2 (by decide +kernel)) rfl (by decide +kernel), ?_⟩
  refine ⟨sn_sw (dflt := 86) (lo := 0) (hi := 5) (offs := #[39, 46, 53, 60, 67, 73]) (len := 39) (by decide +kernel) (by decide) (by decide +kernel) (p_sw_all (by decide +kernel)) (by decide +kernel), ?_⟩
  refine ⟨sn_aload_n (k := 0) (dX_aload_0 (by decide +kernel)) rfl (by decide +kernel), ?_⟩
  refine ⟨sn_getf (C := RX12) (T := TX12) (N := 56) (idx := 16) rfl pin12 (by decide) (by decide) rfl (pmt6 144 rfl (by decide +kernel)) rfl (dX_getfield (by decide +kernel)) (by decide +kernel), ?_⟩
  refine ⟨sn_iload_n (k := 1) (dX_iload_1 (by decide +kernel)) rfl (by decide +kernel), ?_⟩
  refine ⟨sn_iald (dX_iaload (by decide +kernel)) (by decide +kernel), ?_⟩
  refine ⟨sn_iret rfl (dX_ireturn (by decide +kernel)), ?_⟩
  refine ⟨sn_aload_n (k := 0) (dX_aload_0 (by decide +kernel)) rfl (by decide +kernel), ?_⟩
  refine ⟨sn_getf (C := RX12) (T := TX12) (N := 56) (idx := 19) rfl pin12 (by decide) (by decide) rfl (pmt6 145 rfl (by decide +kernel)) rfl (dX_getfield (by decide +kernel)) (by decide +kernel), ?_⟩
  refine ⟨sn_iload_n (k := 1) (dX_iload_1 (by decide +kernel)) rfl (by decide +kernel), ?_⟩
  refine ⟨sn_iald (dX_iaload (by decide +kernel)) (by decide +kernel), ?_⟩
  refine ⟨sn_iret rfl (dX_ireturn (by decide +kernel)), ?_⟩
  refine ⟨sn_aload_n (k := 0) (dX_aload_0 (by decide +kernel)) rfl (by decide +kernel), ?_⟩
  refine ⟨sn_getf (C := RX12) (T := TX12) (N := 56) (idx := 22) rfl pin12 (by decide) (by decide) rfl (pmt6 146 rfl (by decide +kernel)) rfl (dX_getfield (by decide +kernel)) (by decide +kernel), ?_⟩
  refine ⟨sn_iload_n (k := 1) (dX_iload_1 (by decide +kernel)) rfl (by decide +kernel), ?_⟩
  refine ⟨sn_iald (dX_iaload (by decide +kernel)) (by decide +kernel), ?_⟩
  refine ⟨sn_iret rfl (dX_ireturn (by decide +kernel)), ?_⟩
  refine ⟨sn_aload_n (k := 0) (dX_aload_0 (by decide +kernel)) rfl (by decide +kernel), ?_⟩
  refine ⟨sn_getf (C := RX12) (T := TX12) (N := 56) (idx := 25) rfl pin12 (by decide) (by decide) rfl (pmt6 147 rfl (by decide +kernel)) rfl (dX_getfield (by decide +kernel)) (by decide +kernel), ?_⟩
  refine ⟨sn_iload_n (k := 1) (dX_iload_1 (by decide +kernel)) rfl (by decide +kernel), ?_⟩
  refine ⟨sn_iald (dX_iaload (by decide +kernel)) (by decide +kernel), ?_⟩
  refine ⟨sn_iret rfl (dX_ireturn (by decide +kernel)), ?_⟩
  refine ⟨sn_aload_n (k := 0) (dX_aload_0 (by decide +kernel)) rfl (by decide +kernel), ?_⟩
  refine ⟨sn_iload_n (k := 1) (dX_iload_1 (by decide +kernel)) rfl (by decide +kernel), ?_⟩
  refine ⟨sn_callV (idx := 208) (C := RX12) (T := TX12) (N := 56) rfl (by decide) cal_196 (pmt7 148 rfl (by decide +kernel)) (pmt7 150 rfl (by decide +kernel)) (pms 58 rfl rfl) (dX_invokevirtual (by decide +kernel)) (by decide +kernel), ?_⟩
  refine ⟨sn_iret rfl (dX_ireturn (by decide +kernel)), ?_⟩
  refine ⟨sn_aload_n (k := 0) (dX_aload_0 (by decide +kernel)) rfl (by decide +kernel), ?_⟩
  refine ⟨sn_iconst (dX_iconst_0 (by decide +kernel)) (by decide +kernel), ?_⟩
  refine ⟨sn_iconst (dX_iconst_0 (by decide +kernel)) (by decide +kernel), ?_⟩
  refine ⟨sn_callV (idx := 255) (C := RX12) (T := TX12) (N := 56) rfl (by decide) cal_200 (pmt7 184 rfl (by decide +kernel)) (pmt7 186 rfl (by decide +kernel)) (pms 64 rfl rfl) (dX_invokevirtual (by decide +kernel)) (by decide +kernel), ?_⟩
  refine ⟨sn_aload_n (k := 0) (dX_aload_0 (by decide +kernel)) rfl (by decide +kernel), ?_⟩
  refine ⟨sn_getf (C := RX12) (T := TX12) (N := 56) (idx := 51) rfl pin12 (by decide) (by decide) rfl (pmt6 168 rfl (by decide +kernel)) rfl (dX_getfield (by decide +kernel)) (by decide +kernel), ?_⟩
  refine ⟨sn_iload_n (k := 1) (dX_iload_1 (by decide +kernel)) rfl (by decide +kernel), ?_⟩
  refine ⟨sn_iald (dX_iaload (by decide +kernel)) (by decide +kernel), ?_⟩
  refine ⟨sn_iret rfl (dX_ireturn (by decide +kernel)), ?_⟩
  refine ⟨sn_aload_n (k := 0) (dX_aload_0 (by decide +kernel)) rfl (by decide +kernel), ?_⟩
  refine ⟨sn_iload_n (k := 1) (dX_iload_1 (by decide +kernel)) rfl (by decide +kernel), ?_⟩
  refine ⟨sn_aload_n (k := 0) (dX_aload_0 (by decide +kernel)) rfl (by decide +kernel), ?_⟩
  refine ⟨sn_getf (C := RX12) (T := TX12) (N := 56) (idx := 25) rfl pin12 (by decide) (by decide) rfl (pmt6 147 rfl (by decide +kernel)) rfl (dX_getfield (by decide +kernel)) (by decide +kernel), ?_⟩
  refine ⟨sn_iload_n (k := 1) (dX_iload_1 (by decide +kernel)) rfl (by decide +kernel), ?_⟩
  refine ⟨sn_iald (dX_iaload (by decide +kernel)) (by decide +kernel), ?_⟩
  refine ⟨sn_callV (idx := 231) (C := RX12) (T := TX12) (N := 56) rfl (by decide) cal_194 (pmt7 188 rfl (by decide +kernel)) (pmt7 190 rfl (by decide +kernel)) (pms 65 rfl rfl) (dX_invokevirtual (by decide +kernel)) (by decide +kernel), ?_⟩
  refine ⟨sn_iret rfl (dX_ireturn (by decide +kernel)), ?_⟩
  trivial
set_option maxRecDepth 100000 in
set_option maxHeartbeats 4000000 in
theorem S_202 : pAll (pSk RX12 cX12_set 2 (some .int) PC_202) 0 C_202 := by
  refine ⟨sn_aload_n (k := 0) (dX_aload_0 (by decide +kernel)) rfl (by decide +kernel), ?_⟩
  refine ⟨sn_iconst (dX_iconst_0 (by decide +kernel)) (by decide +kernel), ?_⟩
  refine ⟨sn_puti (C := RX12) (T := TX12) (N := 56) (idx := 107) rfl pin12 (by decide) (by decide) rfl tyX12 tyX12_ok nmX12 rfl rfl (by decide +kernel) (pmt6 157 rfl (by decide +kernel)) rfl (dX_putfield (by decide +kernel)) (by decide +kernel), ?_⟩
  refine ⟨sn_iload_n (k := 1) (dX_iload_1 (by decide +kernel)) rfl (by decide +kernel), ?_⟩
  refine ⟨sn_iconst (dX_iconst_0 (by decide +kernel)) (by decide +kernel), ?_⟩
  refine ⟨sn_aload_n (k := 0) (dX_aload_0 (by decide +kernel)) rfl (by decide +kernel), ?_⟩
  refine ⟨sn_getf (C := RX12) (T := TX12) (N := 56) (idx := 161) rfl pin12 (by decide) (by decide) rfl (pmt6 148 rfl (by decide +kernel)) rfl (dX_getfield (by decide +kernel)) (by decide +kernel), ?_⟩
  refine ⟨sn_iconst (dX_iconst_1 (by decide +kernel)) (by decide +kernel), ?_⟩
  refine ⟨sn_isub (dX_isub (by decide +kernel)) (by decide +kernel), ?_⟩
  refine ⟨sn_callS (idx := 116) cal_169 (pmt7 77 rfl (by decide +kernel)) (pmt7 78 rfl (by decide +kernel)) (dX_invokestatic (by decide +kernel)) (by decide +kernel), ?_⟩
  refine ⟨sn_if_eq (off := 12) (dX_ifeq (by decide +kernel)) (by decide +kernel) (by decide +kernel), ?_⟩
  refine ⟨sn_aload_n (k := 0) (dX_aload_0 (by decide +kernel)) rfl (by decide +kernel), ?_⟩
  refine ⟨sn_getf (C := RX12) (T := TX12) (N := 56) (idx := 28) rfl pin12 (by decide) (by decide) rfl (pmt6 149 rfl (by decide +kernel)) rfl (dX_getfield (by decide +kernel)) (by decide +kernel), ?_⟩
  refine ⟨sn_iload_n (k := 1) (dX_iload_1 (by decide +kernel)) rfl (by decide +kernel), ?_⟩
  refine ⟨sn_iald (dX_iaload (by decide +kernel)) (by decide +kernel), ?_⟩
  refine ⟨sn_goto (off := 4) (dX_goto (by decide +kernel)) (by decide +kernel), ?_⟩
  refine ⟨sn_iconst (dX_iconst_m1 (by decide +kernel)) (by decide +kernel), ?_⟩
  refine ⟨sn_iret rfl (dX_ireturn (by decide +kernel)), ?_⟩
  trivial
set_option maxRecDepth 100000 in
set_option maxHeartbeats 4000000 in
theorem S_203 : pAll (pSk RX12 cX12_door 3 (some .int) PC_203) 0 C_203 := by
  refine ⟨sn_aload_n (k := 0) (dX_aload_0 (by decide +kernel)) rfl (by decide +kernel), ?_⟩
  refine ⟨sn_iconst (dX_iconst_0 (by decide +kernel)) (by decide +kernel), ?_⟩
  refine ⟨sn_puti (C := RX12) (T := TX12) (N := 56) (idx := 107) rfl pin12 (by decide) (by decide) rfl tyX12 tyX12_ok nmX12 rfl rfl (by decide +kernel) (pmt6 157 rfl (by decide +kernel)) rfl (dX_putfield (by decide +kernel)) (by decide +kernel), ?_⟩
  refine ⟨sn_aload_n (k := 0) (dX_aload_0 (by decide +kernel)) rfl (by decide +kernel), ?_⟩
  refine ⟨sn_iload_n (k := 1) (dX_iload_1 (by decide +kernel)) rfl (by decide +kernel), ?_⟩
  refine ⟨sn_callV (idx := 238) (C := RX12) (T := TX12) (N := 56) rfl (by decide) cal_173 (pmt7 164 rfl (by decide +kernel)) (pmt7 166 rfl (by decide +kernel)) (pms 60 rfl rfl) (dX_invokevirtual (by decide +kernel)) (by decide +kernel), ?_⟩
  refine ⟨sn_if_eq (off := 16) (dX_ifeq (by decide +kernel)) (by decide +kernel) (by decide +kernel), ?_⟩
  refine ⟨sn_aload_n (k := 0) (dX_aload_0 (by decide +kernel)) rfl (by decide +kernel), ?_⟩
  refine ⟨sn_iload_n (k := 2) (dX_iload_2 (by decide +kernel)) rfl (by decide +kernel), ?_⟩
  refine ⟨sn_callV (idx := 238) (C := RX12) (T := TX12) (N := 56) rfl (by decide) cal_173 (pmt7 164 rfl (by decide +kernel)) (pmt7 166 rfl (by decide +kernel)) (pms 60 rfl rfl) (dX_invokevirtual (by decide +kernel)) (by decide +kernel), ?_⟩
  refine ⟨sn_if_eq (off := 8) (dX_ifeq (by decide +kernel)) (by decide +kernel) (by decide +kernel), ?_⟩
  refine ⟨sn_iload_n (k := 1) (dX_iload_1 (by decide +kernel)) rfl (by decide +kernel), ?_⟩
  refine ⟨sn_iload_n (k := 2) (dX_iload_2 (by decide +kernel)) rfl (by decide +kernel), ?_⟩
  refine ⟨sn_icmp_ne (off := 5) (dX_if_icmpne (by decide +kernel)) (by decide +kernel) (by decide +kernel), ?_⟩
  refine ⟨sn_iconst (dX_iconst_m1 (by decide +kernel)) (by decide +kernel), ?_⟩
  refine ⟨sn_iret rfl (dX_ireturn (by decide +kernel)), ?_⟩
  refine ⟨sn_aload_n (k := 0) (dX_aload_0 (by decide +kernel)) rfl (by decide +kernel), ?_⟩
  refine ⟨sn_getf (C := RX12) (T := TX12) (N := 56) (idx := 13) rfl pin12 (by decide) (by decide) rfl (pmt6 142 rfl (by decide +kernel)) rfl (dX_getfield (by decide +kernel)) (by decide +kernel), ?_⟩
  refine ⟨sn_bipush (dX_bipush (by decide +kernel)) (by decide +kernel) (by decide +kernel), ?_⟩
  refine ⟨sn_iload_n (k := 1) (dX_iload_1 (by decide +kernel)) rfl (by decide +kernel), ?_⟩
  refine ⟨sn_imul (dX_imul (by decide +kernel)) (by decide +kernel), ?_⟩
  refine ⟨sn_iload_n (k := 2) (dX_iload_2 (by decide +kernel)) rfl (by decide +kernel), ?_⟩
  refine ⟨sn_iadd (dX_iadd (by decide +kernel)) (by decide +kernel), ?_⟩
  refine ⟨sn_iald (dX_iaload (by decide +kernel)) (by decide +kernel), ?_⟩
  refine ⟨sn_if_ne (off := 8) (dX_ifne (by decide +kernel)) (by decide +kernel) (by decide +kernel), ?_⟩
  refine ⟨sn_bipush (dX_bipush (by decide +kernel)) (by decide +kernel) (by decide +kernel), ?_⟩
  refine ⟨sn_goto (off := 14) (dX_goto (by decide +kernel)) (by decide +kernel), ?_⟩
  refine ⟨sn_aload_n (k := 0) (dX_aload_0 (by decide +kernel)) rfl (by decide +kernel), ?_⟩
  refine ⟨sn_getf (C := RX12) (T := TX12) (N := 56) (idx := 13) rfl pin12 (by decide) (by decide) rfl (pmt6 142 rfl (by decide +kernel)) rfl (dX_getfield (by decide +kernel)) (by decide +kernel), ?_⟩
  refine ⟨sn_bipush (dX_bipush (by decide +kernel)) (by decide +kernel) (by decide +kernel), ?_⟩
  refine ⟨sn_iload_n (k := 1) (dX_iload_1 (by decide +kernel)) rfl (by decide +kernel), ?_⟩
  refine ⟨sn_imul (dX_imul (by decide +kernel)) (by decide +kernel), ?_⟩
  refine ⟨sn_iload_n (k := 2) (dX_iload_2 (by decide +kernel)) rfl (by decide +kernel), ?_⟩
  refine ⟨sn_iadd (dX_iadd (by decide +kernel)) (by decide +kernel), ?_⟩
  refine ⟨sn_iald (dX_iaload (by decide +kernel)) (by decide +kernel), ?_⟩
  refine ⟨sn_iret rfl (dX_ireturn (by decide +kernel)), ?_⟩
  trivial
set_option maxRecDepth 100000 in
set_option maxHeartbeats 4000000 in
theorem S_204 : pAll (pSk RX12 cX12_widen 5 (some .int) PC_204) 0 C_204 := by
  refine ⟨sn_aload_n (k := 0) (dX_aload_0 (by decide +kernel)) rfl (by decide +kernel), ?_⟩
  refine ⟨sn_iconst (dX_iconst_0 (by decide +kernel)) (by decide +kernel), ?_⟩
  refine ⟨sn_puti (C := RX12) (T := TX12) (N := 56) (idx := 107) rfl pin12 (by decide) (by decide) rfl tyX12 tyX12_ok nmX12 rfl rfl (by decide +kernel) (pmt6 157 rfl (by decide +kernel)) rfl (dX_putfield (by decide +kernel)) (by decide +kernel), ?_⟩
  refine ⟨sn_aload_n (k := 0) (dX_aload_0 (by decide +kernel)) rfl (by decide +kernel), ?_⟩
  refine ⟨sn_iload_n (k := 1) (dX_iload_1 (by decide +kernel)) rfl (by decide +kernel), ?_⟩
  refine ⟨sn_callV (idx := 238) (C := RX12) (T := TX12) (N := 56) rfl (by decide) cal_173 (pmt7 164 rfl (by decide +kernel)) (pmt7 166 rfl (by decide +kernel)) (pms 60 rfl rfl) (dX_invokevirtual (by decide +kernel)) (by decide +kernel), ?_⟩
  refine ⟨sn_if_eq (off := 26) (dX_ifeq (by decide +kernel)) (by decide +kernel) (by decide +kernel), ?_⟩
  refine ⟨sn_aload_n (k := 0) (dX_aload_0 (by decide +kernel)) rfl (by decide +kernel), ?_⟩
  refine ⟨sn_iload_n (k := 2) (dX_iload_2 (by decide +kernel)) rfl (by decide +kernel), ?_⟩
  refine ⟨sn_callV (idx := 238) (C := RX12) (T := TX12) (N := 56) rfl (by decide) cal_173 (pmt7 164 rfl (by decide +kernel)) (pmt7 166 rfl (by decide +kernel)) (pms 60 rfl rfl) (dX_invokevirtual (by decide +kernel)) (by decide +kernel), ?_⟩
  refine ⟨sn_if_eq (off := 18) (dX_ifeq (by decide +kernel)) (by decide +kernel) (by decide +kernel), ?_⟩
  refine ⟨sn_iload_n (k := 1) (dX_iload_1 (by decide +kernel)) rfl (by decide +kernel), ?_⟩
  refine ⟨sn_iload_n (k := 2) (dX_iload_2 (by decide +kernel)) rfl (by decide +kernel), ?_⟩
  refine ⟨sn_icmp_eq (off := 13) (dX_if_icmpeq (by decide +kernel)) (by decide +kernel) (by decide +kernel), ?_⟩
  refine ⟨sn_iload_n (k := 3) (dX_iload_3 (by decide +kernel)) rfl (by decide +kernel), ?_⟩
  refine ⟨sn_iconst (dX_iconst_0 (by decide +kernel)) (by decide +kernel), ?_⟩
  refine ⟨sn_bipush (dX_bipush (by decide +kernel)) (by decide +kernel) (by decide +kernel), ?_⟩
  refine ⟨sn_callS (idx := 116) cal_169 (pmt7 77 rfl (by decide +kernel)) (pmt7 78 rfl (by decide +kernel)) (dX_invokestatic (by decide +kernel)) (by decide +kernel), ?_⟩
  refine ⟨sn_if_ne (off := 5) (dX_ifne (by decide +kernel)) (by decide +kernel) (by decide +kernel), ?_⟩
  refine ⟨sn_iconst (dX_iconst_m1 (by decide +kernel)) (by decide +kernel), ?_⟩
  refine ⟨sn_iret rfl (dX_ireturn (by decide +kernel)), ?_⟩
  refine ⟨sn_aload_n (k := 0) (dX_aload_0 (by decide +kernel)) rfl (by decide +kernel), ?_⟩
  refine ⟨sn_getf (C := RX12) (T := TX12) (N := 56) (idx := 13) rfl pin12 (by decide) (by decide) rfl (pmt6 142 rfl (by decide +kernel)) rfl (dX_getfield (by decide +kernel)) (by decide +kernel), ?_⟩
  refine ⟨sn_bipush (dX_bipush (by decide +kernel)) (by decide +kernel) (by decide +kernel), ?_⟩
  refine ⟨sn_iload_n (k := 1) (dX_iload_1 (by decide +kernel)) rfl (by decide +kernel), ?_⟩
  refine ⟨sn_imul (dX_imul (by decide +kernel)) (by decide +kernel), ?_⟩
  refine ⟨sn_iload_n (k := 2) (dX_iload_2 (by decide +kernel)) rfl (by decide +kernel), ?_⟩
  refine ⟨sn_iadd (dX_iadd (by decide +kernel)) (by decide +kernel), ?_⟩
  refine ⟨sn_iald (dX_iaload (by decide +kernel)) (by decide +kernel), ?_⟩
  refine ⟨sn_istore (dX_istore (by decide +kernel)) (by decide) (by decide +kernel), ?_⟩
  refine ⟨sn_aload_n (k := 0) (dX_aload_0 (by decide +kernel)) rfl (by decide +kernel), ?_⟩
  refine ⟨sn_iload_n (k := 1) (dX_iload_1 (by decide +kernel)) rfl (by decide +kernel), ?_⟩
  refine ⟨sn_iload_n (k := 2) (dX_iload_2 (by decide +kernel)) rfl (by decide +kernel), ?_⟩
  refine ⟨sn_iload_n (k := 3) (dX_iload_3 (by decide +kernel)) rfl (by decide +kernel), ?_⟩
  refine ⟨sn_callV (idx := 179) (C := RX12) (T := TX12) (N := 56) rfl (by decide) cal_185 (pmt7 120 rfl (by decide +kernel)) (pmt7 122 rfl (by decide +kernel)) (pms 52 rfl rfl) (dX_invokevirtual (by decide +kernel)) (by decide +kernel), ?_⟩
  refine ⟨sn_iload (dX_iload (by decide +kernel)) (by decide +kernel), ?_⟩
  refine ⟨sn_iret rfl (dX_ireturn (by decide +kernel)), ?_⟩
  trivial
set_option maxRecDepth 100000 in
set_option maxHeartbeats 4000000 in
theorem S_205 : pAll (pSk RX12 cX12_strength 3 (some .int) PC_205) 0 C_205 := by
  refine ⟨sn_aload_n (k := 0) (dX_aload_0 (by decide +kernel)) rfl (by decide +kernel), ?_⟩
  refine ⟨sn_iconst (dX_iconst_0 (by decide +kernel)) (by decide +kernel), ?_⟩
  refine ⟨sn_puti (C := RX12) (T := TX12) (N := 56) (idx := 107) rfl pin12 (by decide) (by decide) rfl tyX12 tyX12_ok nmX12 rfl rfl (by decide +kernel) (pmt6 157 rfl (by decide +kernel)) rfl (dX_putfield (by decide +kernel)) (by decide +kernel), ?_⟩
  refine ⟨sn_iload_n (k := 1) (dX_iload_1 (by decide +kernel)) rfl (by decide +kernel), ?_⟩
  refine ⟨sn_iconst (dX_iconst_1 (by decide +kernel)) (by decide +kernel), ?_⟩
  refine ⟨sn_sipush (dX_sipush (by decide +kernel)) (by decide +kernel) (by decide +kernel), ?_⟩
  refine ⟨sn_callS (idx := 116) cal_169 (pmt7 77 rfl (by decide +kernel)) (pmt7 78 rfl (by decide +kernel)) (dX_invokestatic (by decide +kernel)) (by decide +kernel), ?_⟩
  refine ⟨sn_if_ne (off := 5) (dX_ifne (by decide +kernel)) (by decide +kernel) (by decide +kernel), ?_⟩
  refine ⟨sn_iconst (dX_iconst_m1 (by decide +kernel)) (by decide +kernel), ?_⟩
  refine ⟨sn_iret rfl (dX_ireturn (by decide +kernel)), ?_⟩
  refine ⟨sn_aload_n (k := 0) (dX_aload_0 (by decide +kernel)) rfl (by decide +kernel), ?_⟩
  refine ⟨sn_getf (C := RX12) (T := TX12) (N := 56) (idx := 31) rfl pin12 (by decide) (by decide) rfl (pmt6 152 rfl (by decide +kernel)) rfl (dX_getfield (by decide +kernel)) (by decide +kernel), ?_⟩
  refine ⟨sn_istore_n (k := 2) (dX_istore_2 (by decide +kernel)) rfl (by decide) (by decide +kernel), ?_⟩
  refine ⟨sn_aload_n (k := 0) (dX_aload_0 (by decide +kernel)) rfl (by decide +kernel), ?_⟩
  refine ⟨sn_iload_n (k := 1) (dX_iload_1 (by decide +kernel)) rfl (by decide +kernel), ?_⟩
  refine ⟨sn_puti (C := RX12) (T := TX12) (N := 56) (idx := 31) rfl pin12 (by decide) (by decide) rfl tyX12 tyX12_ok nmX12 rfl rfl (by decide +kernel) (pmt6 152 rfl (by decide +kernel)) rfl (dX_putfield (by decide +kernel)) (by decide +kernel), ?_⟩
  refine ⟨sn_iload_n (k := 2) (dX_iload_2 (by decide +kernel)) rfl (by decide +kernel), ?_⟩
  refine ⟨sn_iret rfl (dX_ireturn (by decide +kernel)), ?_⟩
  trivial
set_option maxRecDepth 100000 in
set_option maxHeartbeats 4000000 in
theorem S_206 : pAll (pSk RX12 cX12_sheet 9 (some .int) PC_206) 0 C_206 := by
  refine ⟨sn_aload_n (k := 0) (dX_aload_0 (by decide +kernel)) rfl (by decide +kernel), ?_⟩
  refine ⟨sn_iconst (dX_iconst_0 (by decide +kernel)) (by decide +kernel), ?_⟩
  refine ⟨sn_puti (C := RX12) (T := TX12) (N := 56) (idx := 107) rfl pin12 (by decide) (by decide) rfl tyX12 tyX12_ok nmX12 rfl rfl (by decide +kernel) (pmt6 157 rfl (by decide +kernel)) rfl (dX_putfield (by decide +kernel)) (by decide +kernel), ?_⟩
  refine ⟨sn_iload_n (k := 1) (dX_iload_1 (by decide +kernel)) rfl (by decide +kernel), ?_⟩
  refine ⟨sn_iconst (dX_iconst_0 (by decide +kernel)) (by decide +kernel), ?_⟩
  refine ⟨sn_iconst (dX_iconst_3 (by decide +kernel)) (by decide +kernel), ?_⟩
  refine ⟨sn_callS (idx := 116) cal_169 (pmt7 77 rfl (by decide +kernel)) (pmt7 78 rfl (by decide +kernel)) (dX_invokestatic (by decide +kernel)) (by decide +kernel), ?_⟩
  refine ⟨sn_if_eq (off := 9) (dX_ifeq (by decide +kernel)) (by decide +kernel) (by decide +kernel), ?_⟩
  refine ⟨sn_iload_n (k := 2) (dX_iload_2 (by decide +kernel)) rfl (by decide +kernel), ?_⟩
  refine ⟨sn_bipush (dX_bipush (by decide +kernel)) (by decide +kernel) (by decide +kernel), ?_⟩
  refine ⟨sn_icmp_le (off := 5) (dX_if_icmple (by decide +kernel)) (by decide +kernel) (by decide +kernel), ?_⟩
  refine ⟨sn_iconst (dX_iconst_m1 (by decide +kernel)) (by decide +kernel), ?_⟩
  refine ⟨sn_iret rfl (dX_ireturn (by decide +kernel)), ?_⟩
  refine ⟨sn_iload_n (k := 1) (dX_iload_1 (by decide +kernel)) rfl (by decide +kernel), ?_⟩
  refine ⟨sn_iconst (dX_iconst_3 (by decide +kernel)) (by decide +kernel), ?_⟩
  refine ⟨sn_icmp_ge (off := 10) (dX_if_icmpge (by decide +kernel)) (by decide +kernel) (by decide +kernel), ?_⟩
  refine ⟨sn_iload_n (k := 2) (dX_iload_2 (by decide +kernel)) rfl (by decide +kernel), ?_⟩
  refine ⟨sn_if_ge (off := 6) (dX_ifge (by decide +kernel)) (by decide +kernel) (by decide +kernel), ?_⟩
  refine ⟨sn_bipush (dX_bipush (by decide +kernel)) (by decide +kernel) (by decide +kernel), ?_⟩
  refine ⟨sn_iret rfl (dX_ireturn (by decide +kernel)), ?_⟩
  refine ⟨sn_iconst (dX_iconst_0 (by decide +kernel)) (by decide +kernel), ?_⟩
  refine ⟨sn_istore (dX_istore (by decide +kernel)) (by decide) (by decide +kernel), ?_⟩
  refine ⟨sn_iload_n (k := 3) (dX_iload_3 (by decide +kernel)) rfl (by decide +kernel), ?_⟩
  refine ⟨sn_istore (dX_istore (by decide +kernel)) (by decide) (by decide +kernel), ?_⟩
  refine ⟨sn_iconst (dX_iconst_0 (by decide +kernel)) (by decide +kernel), ?_⟩
  refine ⟨sn_istore (dX_istore (by decide +kernel)) (by decide) (by decide +kernel), ?_⟩
  refine ⟨sn_iload (dX_iload (by decide +kernel)) (by decide +kernel), ?_⟩
  refine ⟨sn_aload_n (k := 0) (dX_aload_0 (by decide +kernel)) rfl (by decide +kernel), ?_⟩
  refine ⟨sn_getf (C := RX12) (T := TX12) (N := 56) (idx := 120) rfl pin12 (by decide) (by decide) rfl (pmt6 143 rfl (by decide +kernel)) rfl (dX_getfield (by decide +kernel)) (by decide +kernel), ?_⟩
  refine ⟨sn_icmp_ge (off := 86) (dX_if_icmpge (by decide +kernel)) (by decide +kernel) (by decide +kernel), ?_⟩
  refine ⟨sn_iload_n (k := 1) (dX_iload_1 (by decide +kernel)) rfl (by decide +kernel), ?_⟩
  refine ⟨sn_if_ne (off := 9) (dX_ifne (by decide +kernel)) (by decide +kernel) (by decide +kernel), ?_⟩
  refine ⟨sn_iload (dX_iload (by decide +kernel)) (by decide +kernel), ?_⟩
  refine ⟨sn_i2b (dX_i2b (by decide +kernel)) (by decide +kernel), ?_⟩
  refine ⟨sn_goto (off := 16) (dX_goto (by decide +kernel)) (by decide +kernel), ?_⟩
  refine ⟨sn_iload_n (k := 1) (dX_iload_1 (by decide +kernel)) rfl (by decide +kernel), ?_⟩
  refine ⟨sn_iconst (dX_iconst_1 (by decide +kernel)) (by decide +kernel), ?_⟩
  refine ⟨sn_icmp_ne (off := 9) (dX_if_icmpne (by decide +kernel)) (by decide +kernel) (by decide +kernel), ?_⟩
  refine ⟨sn_iload (dX_iload (by decide +kernel)) (by decide +kernel), ?_⟩
  refine ⟨sn_i2s (dX_i2s (by decide +kernel)) (by decide +kernel), ?_⟩
  refine ⟨sn_goto (off := 5) (dX_goto (by decide +kernel)) (by decide +kernel), ?_⟩
  refine ⟨sn_iload (dX_iload (by decide +kernel)) (by decide +kernel), ?_⟩
  refine ⟨sn_istore (dX_istore (by decide +kernel)) (by decide) (by decide +kernel), ?_⟩
  refine ⟨sn_aload_n (k := 0) (dX_aload_0 (by decide +kernel)) rfl (by decide +kernel), ?_⟩
  refine ⟨sn_getf (C := RX12) (T := TX12) (N := 56) (idx := 22) rfl pin12 (by decide) (by decide) rfl (pmt6 146 rfl (by decide +kernel)) rfl (dX_getfield (by decide +kernel)) (by decide +kernel), ?_⟩
  refine ⟨sn_iload (dX_iload (by decide +kernel)) (by decide +kernel), ?_⟩
  refine ⟨sn_iload_n (k := 1) (dX_iload_1 (by decide +kernel)) rfl (by decide +kernel), ?_⟩
  refine ⟨sn_iconst (dX_iconst_3 (by decide +kernel)) (by decide +kernel), ?_⟩
  refine ⟨sn_icmp_eq (off := 9) (dX_if_icmpeq (by decide +kernel)) (by decide +kernel) (by decide +kernel), ?_⟩
  refine ⟨sn_iload (dX_iload (by decide +kernel)) (by decide +kernel), ?_⟩
  refine ⟨sn_iload_n (k := 2) (dX_iload_2 (by decide +kernel)) rfl (by decide +kernel), ?_⟩
  refine ⟨sn_icmp_lt (off := 7) (dX_if_icmplt (by decide +kernel)) (by decide +kernel) (by decide +kernel), ?_⟩
  refine ⟨sn_iconst (dX_iconst_1 (by decide +kernel)) (by decide +kernel), ?_⟩
  refine ⟨sn_goto (off := 14) (dX_goto (by decide +kernel)) (by decide +kernel), ?_⟩
  refine ⟨sn_iconst (dX_iconst_1 (by decide +kernel)) (by decide +kernel), ?_⟩
  refine ⟨sn_bipush (dX_bipush (by decide +kernel)) (by decide +kernel) (by decide +kernel), ?_⟩
  refine ⟨sn_iload (dX_iload (by decide +kernel)) (by decide +kernel), ?_⟩
  refine ⟨sn_mmin (idx := 222) (pmt7 192 rfl (by decide +kernel)) (pmt2 211 rfl (by decide +kernel)) (pmt1 14 rfl (by decide +kernel)) (pmt2 212 rfl (by decide +kernel)) (dX_invokestatic (by decide +kernel)) (by decide +kernel), ?_⟩
  refine ⟨sn_mmax (idx := 228) (pmt7 193 rfl (by decide +kernel)) (pmt3 154 rfl (by decide +kernel)) (pmt1 14 rfl (by decide +kernel)) (pmt3 155 rfl (by decide +kernel)) (dX_invokestatic (by decide +kernel)) (by decide +kernel), ?_⟩
  refine ⟨sn_iast (dX_iastore (by decide +kernel)) (by decide +kernel), ?_⟩
  refine ⟨sn_iload (dX_iload (by decide +kernel)) (by decide +kernel), ?_⟩
  refine ⟨sn_aload_n (k := 0) (dX_aload_0 (by decide +kernel)) rfl (by decide +kernel), ?_⟩
  refine ⟨sn_getf (C := RX12) (T := TX12) (N := 56) (idx := 22) rfl pin12 (by decide) (by decide) rfl (pmt6 146 rfl (by decide +kernel)) rfl (dX_getfield (by decide +kernel)) (by decide +kernel), ?_⟩
  refine ⟨sn_iload (dX_iload (by decide +kernel)) (by decide +kernel), ?_⟩
  refine ⟨sn_iald (dX_iaload (by decide +kernel)) (by decide +kernel), ?_⟩
  refine ⟨sn_iadd (dX_iadd (by decide +kernel)) (by decide +kernel), ?_⟩
  refine ⟨sn_istore (dX_istore (by decide +kernel)) (by decide) (by decide +kernel), ?_⟩
  refine ⟨sn_iload (dX_iload (by decide +kernel)) (by decide +kernel), ?_⟩
  refine ⟨sn_iload (dX_iload (by decide +kernel)) (by decide +kernel), ?_⟩
  refine ⟨sn_iadd (dX_iadd (by decide +kernel)) (by decide +kernel), ?_⟩
  refine ⟨sn_istore (dX_istore (by decide +kernel)) (by decide) (by decide +kernel), ?_⟩
  refine ⟨sn_iinc (dX_iinc (by decide +kernel)) (by decide) (by decide +kernel), ?_⟩
  refine ⟨sn_goto (off := -89) (dX_goto (by decide +kernel)) (by decide +kernel), ?_⟩
  refine ⟨sn_iload_n (k := 1) (dX_iload_1 (by decide +kernel)) rfl (by decide +kernel), ?_⟩
  refine ⟨sn_iconst (dX_iconst_3 (by decide +kernel)) (by decide +kernel), ?_⟩
  refine ⟨sn_icmp_ne (off := 8) (dX_if_icmpne (by decide +kernel)) (by decide +kernel) (by decide +kernel), ?_⟩
  refine ⟨sn_bipush (dX_bipush (by decide +kernel)) (by decide +kernel) (by decide +kernel), ?_⟩
  refine ⟨sn_goto (off := 5) (dX_goto (by decide +kernel)) (by decide +kernel), ?_⟩
  refine ⟨sn_iload (dX_iload (by decide +kernel)) (by decide +kernel), ?_⟩
  refine ⟨sn_iret rfl (dX_ireturn (by decide +kernel)), ?_⟩
  trivial
set_option maxRecDepth 100000 in
set_option maxHeartbeats 4000000 in
theorem S_207 : pAll (pSk RX12 cX12_findFar 6 none PC_207) 0 C_207 := by
  refine ⟨sn_iconst (dX_iconst_0 (by decide +kernel)) (by decide +kernel), ?_⟩
  refine ⟨sn_istore_n (k := 3) (dX_istore_3 (by decide +kernel)) rfl (by decide) (by decide +kernel), ?_⟩
  refine ⟨sn_iload_n (k := 3) (dX_iload_3 (by decide +kernel)) rfl (by decide +kernel), ?_⟩
  refine ⟨sn_aload_n (k := 0) (dX_aload_0 (by decide +kernel)) rfl (by decide +kernel), ?_⟩
  refine ⟨sn_getf (C := RX12) (T := TX12) (N := 56) (idx := 113) rfl pin12 (by decide) (by decide) rfl (pmt6 140 rfl (by decide +kernel)) rfl (dX_getfield (by decide +kernel)) (by decide +kernel), ?_⟩
  refine ⟨sn_icmp_ge (off := 27) (dX_if_icmpge (by decide +kernel)) (by decide +kernel) (by decide +kernel), ?_⟩
  refine ⟨sn_aload_n (k := 0) (dX_aload_0 (by decide +kernel)) rfl (by decide +kernel), ?_⟩
  refine ⟨sn_getf (C := RX12) (T := TX12) (N := 56) (idx := 57) rfl pin12 (by decide) (by decide) rfl (pmt6 171 rfl (by decide +kernel)) rfl (dX_getfield (by decide +kernel)) (by decide +kernel), ?_⟩
  refine ⟨sn_iload_n (k := 3) (dX_iload_3 (by decide +kernel)) rfl (by decide +kernel), ?_⟩
  refine ⟨sn_iload_n (k := 3) (dX_iload_3 (by decide +kernel)) rfl (by decide +kernel), ?_⟩
  refine ⟨sn_iload_n (k := 1) (dX_iload_1 (by decide +kernel)) rfl (by decide +kernel), ?_⟩
  refine ⟨sn_icmp_ne (off := 7) (dX_if_icmpne (by decide +kernel)) (by decide +kernel) (by decide +kernel), ?_⟩
  refine ⟨sn_iconst (dX_iconst_0 (by decide +kernel)) (by decide +kernel), ?_⟩
  refine ⟨sn_goto (off := 6) (dX_goto (by decide +kernel)) (by decide +kernel), ?_⟩
  refine ⟨sn_ldcw (idx := 258) (dX_ldc_w (by decide +kernel)) (pmt7 230 rfl (by decide +kernel)) (by decide +kernel), ?_⟩
  refine ⟨sn_iast (dX_iastore (by decide +kernel)) (by decide +kernel), ?_⟩
  refine ⟨sn_iinc (dX_iinc (by decide +kernel)) (by decide) (by decide +kernel), ?_⟩
  refine ⟨sn_goto (off := -29) (dX_goto (by decide +kernel)) (by decide +kernel), ?_⟩
  refine ⟨sn_iconst (dX_iconst_0 (by decide +kernel)) (by decide +kernel), ?_⟩
  refine ⟨sn_istore_n (k := 3) (dX_istore_3 (by decide +kernel)) rfl (by decide) (by decide +kernel), ?_⟩
  refine ⟨sn_iload_n (k := 3) (dX_iload_3 (by decide +kernel)) rfl (by decide +kernel), ?_⟩
  refine ⟨sn_aload_n (k := 0) (dX_aload_0 (by decide +kernel)) rfl (by decide +kernel), ?_⟩
  refine ⟨sn_getf (C := RX12) (T := TX12) (N := 56) (idx := 113) rfl pin12 (by decide) (by decide) rfl (pmt6 140 rfl (by decide +kernel)) rfl (dX_getfield (by decide +kernel)) (by decide +kernel), ?_⟩
  refine ⟨sn_icmp_ge (off := 93) (dX_if_icmpge (by decide +kernel)) (by decide +kernel) (by decide +kernel), ?_⟩
  refine ⟨sn_iconst (dX_iconst_0 (by decide +kernel)) (by decide +kernel), ?_⟩
  refine ⟨sn_istore (dX_istore (by decide +kernel)) (by decide) (by decide +kernel), ?_⟩
  refine ⟨sn_iload (dX_iload (by decide +kernel)) (by decide +kernel), ?_⟩
  refine ⟨sn_aload_n (k := 0) (dX_aload_0 (by decide +kernel)) rfl (by decide +kernel), ?_⟩
  refine ⟨sn_getf (C := RX12) (T := TX12) (N := 56) (idx := 113) rfl pin12 (by decide) (by decide) rfl (pmt6 140 rfl (by decide +kernel)) rfl (dX_getfield (by decide +kernel)) (by decide +kernel), ?_⟩
  refine ⟨sn_icmp_ge (off := 75) (dX_if_icmpge (by decide +kernel)) (by decide +kernel) (by decide +kernel), ?_⟩
  refine ⟨sn_iconst (dX_iconst_0 (by decide +kernel)) (by decide +kernel), ?_⟩
  refine ⟨sn_istore (dX_istore (by decide +kernel)) (by decide) (by decide +kernel), ?_⟩
  refine ⟨sn_iload (dX_iload (by decide +kernel)) (by decide +kernel), ?_⟩
  refine ⟨sn_aload_n (k := 0) (dX_aload_0 (by decide +kernel)) rfl (by decide +kernel), ?_⟩
  refine ⟨sn_getf (C := RX12) (T := TX12) (N := 56) (idx := 113) rfl pin12 (by decide) (by decide) rfl (pmt6 140 rfl (by decide +kernel)) rfl (dX_getfield (by decide +kernel)) (by decide +kernel), ?_⟩
  refine ⟨sn_icmp_ge (off := 57) (dX_if_icmpge (by decide +kernel)) (by decide +kernel) (by decide +kernel), ?_⟩
  refine ⟨sn_aload_n (k := 0) (dX_aload_0 (by decide +kernel)) rfl (by decide +kernel), ?_⟩
  refine ⟨sn_getf (C := RX12) (T := TX12) (N := 56) (idx := 57) rfl pin12 (by decide) (by decide) rfl (pmt6 171 rfl (by decide +kernel)) rfl (dX_getfield (by decide +kernel)) (by decide +kernel), ?_⟩
  refine ⟨sn_iload (dX_iload (by decide +kernel)) (by decide +kernel), ?_⟩
  refine ⟨sn_iald (dX_iaload (by decide +kernel)) (by decide +kernel), ?_⟩
  refine ⟨sn_iload_n (k := 3) (dX_iload_3 (by decide +kernel)) rfl (by decide +kernel), ?_⟩
  refine ⟨sn_icmp_ne (off := 40) (dX_if_icmpne (by decide +kernel)) (by decide +kernel) (by decide +kernel), ?_⟩
  refine ⟨sn_aload_n (k := 0) (dX_aload_0 (by decide +kernel)) rfl (by decide +kernel), ?_⟩
  refine ⟨sn_getf (C := RX12) (T := TX12) (N := 56) (idx := 13) rfl pin12 (by decide) (by decide) rfl (pmt6 142 rfl (by decide +kernel)) rfl (dX_getfield (by decide +kernel)) (by decide +kernel), ?_⟩
  refine ⟨sn_bipush (dX_bipush (by decide +kernel)) (by decide +kernel) (by decide +kernel), ?_⟩
  refine ⟨sn_iload (dX_iload (by decide +kernel)) (by decide +kernel), ?_⟩
  refine ⟨sn_imul (dX_imul (by decide +kernel)) (by decide +kernel), ?_⟩
  refine ⟨sn_iload (dX_iload (by decide +kernel)) (by decide +kernel), ?_⟩
  refine ⟨sn_iadd (dX_iadd (by decide +kernel)) (by decide +kernel), ?_⟩
  refine ⟨sn_iald (dX_iaload (by decide +kernel)) (by decide +kernel), ?_⟩
  refine ⟨sn_iload_n (k := 2) (dX_iload_2 (by decide +kernel)) rfl (by decide +kernel), ?_⟩
  refine ⟨sn_icmp_lt (off := 23) (dX_if_icmplt (by decide +kernel)) (by decide +kernel) (by decide +kernel), ?_⟩
  refine ⟨sn_aload_n (k := 0) (dX_aload_0 (by decide +kernel)) rfl (by decide +kernel), ?_⟩
  refine ⟨sn_getf (C := RX12) (T := TX12) (N := 56) (idx := 57) rfl pin12 (by decide) (by decide) rfl (pmt6 171 rfl (by decide +kernel)) rfl (dX_getfield (by decide +kernel)) (by decide +kernel), ?_⟩
  refine ⟨sn_iload (dX_iload (by decide +kernel)) (by decide +kernel), ?_⟩
  refine ⟨sn_aload_n (k := 0) (dX_aload_0 (by decide +kernel)) rfl (by decide +kernel), ?_⟩
  refine ⟨sn_getf (C := RX12) (T := TX12) (N := 56) (idx := 57) rfl pin12 (by decide) (by decide) rfl (pmt6 171 rfl (by decide +kernel)) rfl (dX_getfield (by decide +kernel)) (by decide +kernel), ?_⟩
  refine ⟨sn_iload (dX_iload (by decide +kernel)) (by decide +kernel), ?_⟩
  refine ⟨sn_iald (dX_iaload (by decide +kernel)) (by decide +kernel), ?_⟩
  refine ⟨sn_iload_n (k := 3) (dX_iload_3 (by decide +kernel)) rfl (by decide +kernel), ?_⟩
  refine ⟨sn_iconst (dX_iconst_1 (by decide +kernel)) (by decide +kernel), ?_⟩
  refine ⟨sn_iadd (dX_iadd (by decide +kernel)) (by decide +kernel), ?_⟩
  refine ⟨sn_mmin (idx := 222) (pmt7 192 rfl (by decide +kernel)) (pmt2 211 rfl (by decide +kernel)) (pmt1 14 rfl (by decide +kernel)) (pmt2 212 rfl (by decide +kernel)) (dX_invokestatic (by decide +kernel)) (by decide +kernel), ?_⟩
  refine ⟨sn_iast (dX_iastore (by decide +kernel)) (by decide +kernel), ?_⟩
  refine ⟨sn_iinc (dX_iinc (by decide +kernel)) (by decide) (by decide +kernel), ?_⟩
  refine ⟨sn_goto (off := -60) (dX_goto (by decide +kernel)) (by decide +kernel), ?_⟩
  refine ⟨sn_iinc (dX_iinc (by decide +kernel)) (by decide) (by decide +kernel), ?_⟩
  refine ⟨sn_goto (off := -78) (dX_goto (by decide +kernel)) (by decide +kernel), ?_⟩
  refine ⟨sn_iinc (dX_iinc (by decide +kernel)) (by decide) (by decide +kernel), ?_⟩
  refine ⟨sn_goto (off := -95) (dX_goto (by decide +kernel)) (by decide +kernel), ?_⟩
  refine ⟨sn_vret rfl (dX_return (by decide +kernel)), ?_⟩
  trivial
set_option maxRecDepth 100000 in
set_option maxHeartbeats 4000000 in
theorem S_208 : pAll (pSk RX12 cX12_steps 4 (some .int) PC_208) 0 C_208 := by
  refine ⟨sn_aload_n (k := 0) (dX_aload_0 (by decide +kernel)) rfl (by decide +kernel), ?_⟩
  refine ⟨sn_iload_n (k := 3) (dX_iload_3 (by decide +kernel)) rfl (by decide +kernel), ?_⟩
  refine ⟨sn_aload_n (k := 0) (dX_aload_0 (by decide +kernel)) rfl (by decide +kernel), ?_⟩
  refine ⟨sn_getf (C := RX12) (T := TX12) (N := 56) (idx := 19) rfl pin12 (by decide) (by decide) rfl (pmt6 145 rfl (by decide +kernel)) rfl (dX_getfield (by decide +kernel)) (by decide +kernel), ?_⟩
  refine ⟨sn_iload_n (k := 1) (dX_iload_1 (by decide +kernel)) rfl (by decide +kernel), ?_⟩
  refine ⟨sn_iald (dX_iaload (by decide +kernel)) (by decide +kernel), ?_⟩
  refine ⟨sn_callV (idx := 259) (C := RX12) (T := TX12) (N := 56) rfl (by decide) cal_207 (pmt7 226 rfl (by decide +kernel)) (pmt7 228 rfl (by decide +kernel)) (pms 68 rfl rfl) (dX_invokevirtual (by decide +kernel)) (by decide +kernel), ?_⟩
  refine ⟨sn_aload_n (k := 0) (dX_aload_0 (by decide +kernel)) rfl (by decide +kernel), ?_⟩
  refine ⟨sn_getf (C := RX12) (T := TX12) (N := 56) (idx := 57) rfl pin12 (by decide) (by decide) rfl (pmt6 171 rfl (by decide +kernel)) rfl (dX_getfield (by decide +kernel)) (by decide +kernel), ?_⟩
  refine ⟨sn_iload_n (k := 2) (dX_iload_2 (by decide +kernel)) rfl (by decide +kernel), ?_⟩
  refine ⟨sn_iald (dX_iaload (by decide +kernel)) (by decide +kernel), ?_⟩
  refine ⟨sn_iret rfl (dX_ireturn (by decide +kernel)), ?_⟩
  trivial
set_option maxRecDepth 100000 in
set_option maxHeartbeats 4000000 in
theorem S_209 : pAll (pSk RX12 cX12_costOf 8 (some .int) PC_209) 0 C_209 := by
  refine ⟨sn_iconst (dX_iconst_0 (by decide +kernel)) (by decide +kernel), ?_⟩
  refine ⟨sn_istore (dX_istore (by decide +kernel)) (by decide) (by decide +kernel), ?_⟩
  refine ⟨sn_iconst (dX_iconst_0 (by decide +kernel)) (by decide +kernel), ?_⟩
  refine ⟨sn_istore (dX_istore (by decide +kernel)) (by decide) (by decide +kernel), ?_⟩
  refine ⟨sn_iload (dX_iload (by decide +kernel)) (by decide +kernel), ?_⟩
  refine ⟨sn_aload_n (k := 0) (dX_aload_0 (by decide +kernel)) rfl (by decide +kernel), ?_⟩
  refine ⟨sn_getf (C := RX12) (T := TX12) (N := 56) (idx := 120) rfl pin12 (by decide) (by decide) rfl (pmt6 143 rfl (by decide +kernel)) rfl (dX_getfield (by decide +kernel)) (by decide +kernel), ?_⟩
  refine ⟨sn_icmp_ge (off := 77) (dX_if_icmpge (by decide +kernel)) (by decide +kernel) (by decide +kernel), ?_⟩
  refine ⟨sn_aload_n (k := 1) (dX_aload_1 (by decide +kernel)) rfl (by decide +kernel), ?_⟩
  refine ⟨sn_iload_n (k := 2) (dX_iload_2 (by decide +kernel)) rfl (by decide +kernel), ?_⟩
  refine ⟨sn_iload (dX_iload (by decide +kernel)) (by decide +kernel), ?_⟩
  refine ⟨sn_iadd (dX_iadd (by decide +kernel)) (by decide +kernel), ?_⟩
  refine ⟨sn_iald (dX_iaload (by decide +kernel)) (by decide +kernel), ?_⟩
  refine ⟨sn_aload_n (k := 3) (dX_aload_3 (by decide +kernel)) rfl (by decide +kernel), ?_⟩
  refine ⟨sn_iload (dX_iload (by decide +kernel)) (by decide +kernel), ?_⟩
  refine ⟨sn_iload (dX_iload (by decide +kernel)) (by decide +kernel), ?_⟩
  refine ⟨sn_iadd (dX_iadd (by decide +kernel)) (by decide +kernel), ?_⟩
  refine ⟨sn_iald (dX_iaload (by decide +kernel)) (by decide +kernel), ?_⟩
  refine ⟨sn_icmp_ne (off := 7) (dX_if_icmpne (by decide +kernel)) (by decide +kernel) (by decide +kernel), ?_⟩
  refine ⟨sn_iconst (dX_iconst_0 (by decide +kernel)) (by decide +kernel), ?_⟩
  refine ⟨sn_goto (off := 22) (dX_goto (by decide +kernel)) (by decide +kernel), ?_⟩
  refine ⟨sn_aload_n (k := 0) (dX_aload_0 (by decide +kernel)) rfl (by decide +kernel), ?_⟩
  refine ⟨sn_iload (dX_iload (by decide +kernel)) (by decide +kernel), ?_⟩
  refine ⟨sn_aload_n (k := 1) (dX_aload_1 (by decide +kernel)) rfl (by decide +kernel), ?_⟩
  refine ⟨sn_iload_n (k := 2) (dX_iload_2 (by decide +kernel)) rfl (by decide +kernel), ?_⟩
  refine ⟨sn_iload (dX_iload (by decide +kernel)) (by decide +kernel), ?_⟩
  refine ⟨sn_iadd (dX_iadd (by decide +kernel)) (by decide +kernel), ?_⟩
  refine ⟨sn_iald (dX_iaload (by decide +kernel)) (by decide +kernel), ?_⟩
  refine ⟨sn_aload_n (k := 3) (dX_aload_3 (by decide +kernel)) rfl (by decide +kernel), ?_⟩
  refine ⟨sn_iload (dX_iload (by decide +kernel)) (by decide +kernel), ?_⟩
  refine ⟨sn_iload (dX_iload (by decide +kernel)) (by decide +kernel), ?_⟩
  refine ⟨sn_iadd (dX_iadd (by decide +kernel)) (by decide +kernel), ?_⟩
  refine ⟨sn_iald (dX_iaload (by decide +kernel)) (by decide +kernel), ?_⟩
  refine ⟨sn_callV (idx := 262) (C := RX12) (T := TX12) (N := 56) rfl (by decide) cal_208 (pmt7 222 rfl (by decide +kernel)) (pmt7 224 rfl (by decide +kernel)) (pms 67 rfl rfl) (dX_invokevirtual (by decide +kernel)) (by decide +kernel), ?_⟩
  refine ⟨sn_istore (dX_istore (by decide +kernel)) (by decide) (by decide +kernel), ?_⟩
  refine ⟨sn_iload (dX_iload (by decide +kernel)) (by decide +kernel), ?_⟩
  refine ⟨sn_ldcw (idx := 258) (dX_ldc_w (by decide +kernel)) (pmt7 230 rfl (by decide +kernel)) (by decide +kernel), ?_⟩
  refine ⟨sn_icmp_lt (off := 7) (dX_if_icmplt (by decide +kernel)) (by decide +kernel) (by decide +kernel), ?_⟩
  refine ⟨sn_ldcw (idx := 258) (dX_ldc_w (by decide +kernel)) (pmt7 230 rfl (by decide +kernel)) (by decide +kernel), ?_⟩
  refine ⟨sn_iret rfl (dX_ireturn (by decide +kernel)), ?_⟩
  refine ⟨sn_iload (dX_iload (by decide +kernel)) (by decide +kernel), ?_⟩
  refine ⟨sn_iload (dX_iload (by decide +kernel)) (by decide +kernel), ?_⟩
  refine ⟨sn_aload_n (k := 0) (dX_aload_0 (by decide +kernel)) rfl (by decide +kernel), ?_⟩
  refine ⟨sn_getf (C := RX12) (T := TX12) (N := 56) (idx := 22) rfl pin12 (by decide) (by decide) rfl (pmt6 146 rfl (by decide +kernel)) rfl (dX_getfield (by decide +kernel)) (by decide +kernel), ?_⟩
  refine ⟨sn_iload (dX_iload (by decide +kernel)) (by decide +kernel), ?_⟩
  refine ⟨sn_iald (dX_iaload (by decide +kernel)) (by decide +kernel), ?_⟩
  refine ⟨sn_imul (dX_imul (by decide +kernel)) (by decide +kernel), ?_⟩
  refine ⟨sn_iadd (dX_iadd (by decide +kernel)) (by decide +kernel), ?_⟩
  refine ⟨sn_istore (dX_istore (by decide +kernel)) (by decide) (by decide +kernel), ?_⟩
  refine ⟨sn_iinc (dX_iinc (by decide +kernel)) (by decide) (by decide +kernel), ?_⟩
  refine ⟨sn_goto (off := -80) (dX_goto (by decide +kernel)) (by decide +kernel), ?_⟩
  refine ⟨sn_iload (dX_iload (by decide +kernel)) (by decide +kernel), ?_⟩
  refine ⟨sn_iret rfl (dX_ireturn (by decide +kernel)), ?_⟩
  trivial
set_option maxRecDepth 100000 in
set_option maxHeartbeats 4000000 in
theorem S_210 : pAll (pSk RX12 cX12_partedSets 6 (some .int) PC_210) 0 C_210 := by
  refine ⟨sn_iconst (dX_iconst_0 (by decide +kernel)) (by decide +kernel), ?_⟩
  refine ⟨sn_istore_n (k := 2) (dX_istore_2 (by decide +kernel)) rfl (by decide) (by decide +kernel), ?_⟩
  refine ⟨sn_iconst (dX_iconst_0 (by decide +kernel)) (by decide +kernel), ?_⟩
  refine ⟨sn_istore_n (k := 3) (dX_istore_3 (by decide +kernel)) rfl (by decide) (by decide +kernel), ?_⟩
  refine ⟨sn_iload_n (k := 3) (dX_iload_3 (by decide +kernel)) rfl (by decide +kernel), ?_⟩
  refine ⟨sn_aload_n (k := 0) (dX_aload_0 (by decide +kernel)) rfl (by decide +kernel), ?_⟩
  refine ⟨sn_getf (C := RX12) (T := TX12) (N := 56) (idx := 161) rfl pin12 (by decide) (by decide) rfl (pmt6 148 rfl (by decide +kernel)) rfl (dX_getfield (by decide +kernel)) (by decide +kernel), ?_⟩
  refine ⟨sn_icmp_ge (off := 73) (dX_if_icmpge (by decide +kernel)) (by decide +kernel) (by decide +kernel), ?_⟩
  refine ⟨sn_aload_n (k := 0) (dX_aload_0 (by decide +kernel)) rfl (by decide +kernel), ?_⟩
  refine ⟨sn_getf (C := RX12) (T := TX12) (N := 56) (idx := 28) rfl pin12 (by decide) (by decide) rfl (pmt6 149 rfl (by decide +kernel)) rfl (dX_getfield (by decide +kernel)) (by decide +kernel), ?_⟩
  refine ⟨sn_iload_n (k := 3) (dX_iload_3 (by decide +kernel)) rfl (by decide +kernel), ?_⟩
  refine ⟨sn_iald (dX_iaload (by decide +kernel)) (by decide +kernel), ?_⟩
  refine ⟨sn_sipush (dX_sipush (by decide +kernel)) (by decide +kernel) (by decide +kernel), ?_⟩
  refine ⟨sn_ior (dX_ior (by decide +kernel)) (by decide +kernel), ?_⟩
  refine ⟨sn_callS (idx := 265) cal_271 (pmt8 7 rfl (by decide +kernel)) (pmt5 65 rfl (by decide +kernel)) (dX_invokestatic (by decide +kernel)) (by decide +kernel), ?_⟩
  refine ⟨sn_istore (dX_istore (by decide +kernel)) (by decide) (by decide +kernel), ?_⟩
  refine ⟨sn_iconst (dX_iconst_0 (by decide +kernel)) (by decide +kernel), ?_⟩
  refine ⟨sn_istore (dX_istore (by decide +kernel)) (by decide) (by decide +kernel), ?_⟩
  refine ⟨sn_iload (dX_iload (by decide +kernel)) (by decide +kernel), ?_⟩
  refine ⟨sn_aload_n (k := 0) (dX_aload_0 (by decide +kernel)) rfl (by decide +kernel), ?_⟩
  refine ⟨sn_getf (C := RX12) (T := TX12) (N := 56) (idx := 120) rfl pin12 (by decide) (by decide) rfl (pmt6 143 rfl (by decide +kernel)) rfl (dX_getfield (by decide +kernel)) (by decide +kernel), ?_⟩
  refine ⟨sn_icmp_ge (off := 40) (dX_if_icmpge (by decide +kernel)) (by decide +kernel) (by decide +kernel), ?_⟩
  refine ⟨sn_aload_n (k := 0) (dX_aload_0 (by decide +kernel)) rfl (by decide +kernel), ?_⟩
  refine ⟨sn_getf (C := RX12) (T := TX12) (N := 56) (idx := 28) rfl pin12 (by decide) (by decide) rfl (pmt6 149 rfl (by decide +kernel)) rfl (dX_getfield (by decide +kernel)) (by decide +kernel), ?_⟩
  refine ⟨sn_iload_n (k := 3) (dX_iload_3 (by decide +kernel)) rfl (by decide +kernel), ?_⟩
  refine ⟨sn_iald (dX_iaload (by decide +kernel)) (by decide +kernel), ?_⟩
  refine ⟨sn_iload (dX_iload (by decide +kernel)) (by decide +kernel), ?_⟩
  refine ⟨sn_callS (idx := 234) cal_170 (pmt7 152 rfl (by decide +kernel)) (pmt7 153 rfl (by decide +kernel)) (dX_invokestatic (by decide +kernel)) (by decide +kernel), ?_⟩
  refine ⟨sn_if_eq (off := 20) (dX_ifeq (by decide +kernel)) (by decide +kernel) (by decide +kernel), ?_⟩
  refine ⟨sn_aload_n (k := 1) (dX_aload_1 (by decide +kernel)) rfl (by decide +kernel), ?_⟩
  refine ⟨sn_iload (dX_iload (by decide +kernel)) (by decide +kernel), ?_⟩
  refine ⟨sn_iald (dX_iaload (by decide +kernel)) (by decide +kernel), ?_⟩
  refine ⟨sn_aload_n (k := 1) (dX_aload_1 (by decide +kernel)) rfl (by decide +kernel), ?_⟩
  refine ⟨sn_iload (dX_iload (by decide +kernel)) (by decide +kernel), ?_⟩
  refine ⟨sn_iald (dX_iaload (by decide +kernel)) (by decide +kernel), ?_⟩
  refine ⟨sn_icmp_eq (off := 9) (dX_if_icmpeq (by decide +kernel)) (by decide +kernel) (by decide +kernel), ?_⟩
  refine ⟨sn_iload_n (k := 2) (dX_iload_2 (by decide +kernel)) rfl (by decide +kernel), ?_⟩
  refine ⟨sn_iconst (dX_iconst_1 (by decide +kernel)) (by decide +kernel), ?_⟩
  refine ⟨sn_iload_n (k := 3) (dX_iload_3 (by decide +kernel)) rfl (by decide +kernel), ?_⟩
  refine ⟨sn_ishl (dX_ishl (by decide +kernel)) (by decide +kernel), ?_⟩
  refine ⟨sn_ior (dX_ior (by decide +kernel)) (by decide +kernel), ?_⟩
  refine ⟨sn_istore_n (k := 2) (dX_istore_2 (by decide +kernel)) rfl (by decide) (by decide +kernel), ?_⟩
  refine ⟨sn_iinc (dX_iinc (by decide +kernel)) (by decide) (by decide +kernel), ?_⟩
  refine ⟨sn_goto (off := -43) (dX_goto (by decide +kernel)) (by decide +kernel), ?_⟩
  refine ⟨sn_iinc (dX_iinc (by decide +kernel)) (by decide) (by decide +kernel), ?_⟩
  refine ⟨sn_goto (off := -75) (dX_goto (by decide +kernel)) (by decide +kernel), ?_⟩
  refine ⟨sn_iload_n (k := 2) (dX_iload_2 (by decide +kernel)) rfl (by decide +kernel), ?_⟩
  refine ⟨sn_iret rfl (dX_ireturn (by decide +kernel)), ?_⟩
  trivial
set_option maxRecDepth 100000 in
set_option maxHeartbeats 4000000 in
theorem S_211 : pAll (pSk RX12 cX12_fullRooms 4 (some .int) PC_211) 0 C_211 := by
  refine ⟨sn_iconst (dX_iconst_0 (by decide +kernel)) (by decide +kernel), ?_⟩
  refine ⟨sn_istore_n (k := 2) (dX_istore_2 (by decide +kernel)) rfl (by decide) (by decide +kernel), ?_⟩
  refine ⟨sn_iconst (dX_iconst_0 (by decide +kernel)) (by decide +kernel), ?_⟩
  refine ⟨sn_istore_n (k := 3) (dX_istore_3 (by decide +kernel)) rfl (by decide) (by decide +kernel), ?_⟩
  refine ⟨sn_iload_n (k := 3) (dX_iload_3 (by decide +kernel)) rfl (by decide +kernel), ?_⟩
  refine ⟨sn_aload_n (k := 0) (dX_aload_0 (by decide +kernel)) rfl (by decide +kernel), ?_⟩
  refine ⟨sn_getf (C := RX12) (T := TX12) (N := 56) (idx := 113) rfl pin12 (by decide) (by decide) rfl (pmt6 140 rfl (by decide +kernel)) rfl (dX_getfield (by decide +kernel)) (by decide +kernel), ?_⟩
  refine ⟨sn_icmp_ge (off := 28) (dX_if_icmpge (by decide +kernel)) (by decide +kernel) (by decide +kernel), ?_⟩
  refine ⟨sn_iload_n (k := 2) (dX_iload_2 (by decide +kernel)) rfl (by decide +kernel), ?_⟩
  refine ⟨sn_aload_n (k := 0) (dX_aload_0 (by decide +kernel)) rfl (by decide +kernel), ?_⟩
  refine ⟨sn_aload_n (k := 1) (dX_aload_1 (by decide +kernel)) rfl (by decide +kernel), ?_⟩
  refine ⟨sn_iload_n (k := 3) (dX_iload_3 (by decide +kernel)) rfl (by decide +kernel), ?_⟩
  refine ⟨sn_callV (idx := 245) (C := RX12) (T := TX12) (N := 56) rfl (by decide) cal_198 (pmt7 172 rfl (by decide +kernel)) (pmt7 174 rfl (by decide +kernel)) (pms 62 rfl rfl) (dX_invokevirtual (by decide +kernel)) (by decide +kernel), ?_⟩
  refine ⟨sn_if_ge (off := 9) (dX_ifge (by decide +kernel)) (by decide +kernel) (by decide +kernel), ?_⟩
  refine ⟨sn_iconst (dX_iconst_1 (by decide +kernel)) (by decide +kernel), ?_⟩
  refine ⟨sn_iload_n (k := 3) (dX_iload_3 (by decide +kernel)) rfl (by decide +kernel), ?_⟩
  refine ⟨sn_ishl (dX_ishl (by decide +kernel)) (by decide +kernel), ?_⟩
  refine ⟨sn_goto (off := 4) (dX_goto (by decide +kernel)) (by decide +kernel), ?_⟩
  refine ⟨sn_iconst (dX_iconst_0 (by decide +kernel)) (by decide +kernel), ?_⟩
  refine ⟨sn_ior (dX_ior (by decide +kernel)) (by decide +kernel), ?_⟩
  refine ⟨sn_istore_n (k := 2) (dX_istore_2 (by decide +kernel)) rfl (by decide) (by decide +kernel), ?_⟩
  refine ⟨sn_iinc (dX_iinc (by decide +kernel)) (by decide) (by decide +kernel), ?_⟩
  refine ⟨sn_goto (off := -30) (dX_goto (by decide +kernel)) (by decide +kernel), ?_⟩
  refine ⟨sn_iload_n (k := 2) (dX_iload_2 (by decide +kernel)) rfl (by decide +kernel), ?_⟩
  refine ⟨sn_iret rfl (dX_ireturn (by decide +kernel)), ?_⟩
  trivial
set_option maxRecDepth 100000 in
set_option maxHeartbeats 4000000 in
theorem S_212 : pAll (pSk RX12 cX12_isLawful 2 (some .boolean) PC_212) 0 C_212 := by
  refine ⟨sn_aload_n (k := 0) (dX_aload_0 (by decide +kernel)) rfl (by decide +kernel), ?_⟩
  refine ⟨sn_aload_n (k := 1) (dX_aload_1 (by decide +kernel)) rfl (by decide +kernel), ?_⟩
  refine ⟨sn_callV (idx := 268) (C := RX12) (T := TX12) (N := 56) rfl (by decide) cal_210 (pmt8 3 rfl (by decide +kernel)) (pmt8 5 rfl (by decide +kernel)) (pms 71 rfl rfl) (dX_invokevirtual (by decide +kernel)) (by decide +kernel), ?_⟩
  refine ⟨sn_if_ne (off := 15) (dX_ifne (by decide +kernel)) (by decide +kernel) (by decide +kernel), ?_⟩
  refine ⟨sn_aload_n (k := 0) (dX_aload_0 (by decide +kernel)) rfl (by decide +kernel), ?_⟩
  refine ⟨sn_aload_n (k := 1) (dX_aload_1 (by decide +kernel)) rfl (by decide +kernel), ?_⟩
  refine ⟨sn_callV (idx := 272) (C := RX12) (T := TX12) (N := 56) rfl (by decide) cal_211 (pmt8 8 rfl (by decide +kernel)) (pmt8 10 rfl (by decide +kernel)) (pms 72 rfl rfl) (dX_invokevirtual (by decide +kernel)) (by decide +kernel), ?_⟩
  refine ⟨sn_if_ne (off := 7) (dX_ifne (by decide +kernel)) (by decide +kernel) (by decide +kernel), ?_⟩
  refine ⟨sn_iconst (dX_iconst_1 (by decide +kernel)) (by decide +kernel), ?_⟩
  refine ⟨sn_goto (off := 4) (dX_goto (by decide +kernel)) (by decide +kernel), ?_⟩
  refine ⟨sn_iconst (dX_iconst_0 (by decide +kernel)) (by decide +kernel), ?_⟩
  refine ⟨sn_zret (Or.inl rfl) (dX_ireturn (by decide +kernel)), ?_⟩
  trivial
set_option maxRecDepth 100000 in
set_option maxHeartbeats 4000000 in
theorem S_213 : pAll (pSk RX12 cX12_refusal 4 (some .int) PC_213) 0 C_213 := by
  refine ⟨sn_aload_n (k := 0) (dX_aload_0 (by decide +kernel)) rfl (by decide +kernel), ?_⟩
  refine ⟨sn_iload_n (k := 1) (dX_iload_1 (by decide +kernel)) rfl (by decide +kernel), ?_⟩
  refine ⟨sn_callV (idx := 252) (C := RX12) (T := TX12) (N := 56) rfl (by decide) cal_174 (pmt7 180 rfl (by decide +kernel)) (pmt7 182 rfl (by decide +kernel)) (pms 63 rfl rfl) (dX_invokevirtual (by decide +kernel)) (by decide +kernel), ?_⟩
  refine ⟨sn_if_eq (off := 11) (dX_ifeq (by decide +kernel)) (by decide +kernel) (by decide +kernel), ?_⟩
  refine ⟨sn_aload_n (k := 0) (dX_aload_0 (by decide +kernel)) rfl (by decide +kernel), ?_⟩
  refine ⟨sn_iload_n (k := 2) (dX_iload_2 (by decide +kernel)) rfl (by decide +kernel), ?_⟩
  refine ⟨sn_callV (idx := 238) (C := RX12) (T := TX12) (N := 56) rfl (by decide) cal_173 (pmt7 164 rfl (by decide +kernel)) (pmt7 166 rfl (by decide +kernel)) (pms 60 rfl rfl) (dX_invokevirtual (by decide +kernel)) (by decide +kernel), ?_⟩
  refine ⟨sn_if_ne (off := 5) (dX_ifne (by decide +kernel)) (by decide +kernel) (by decide +kernel), ?_⟩
  refine ⟨sn_iconst (dX_iconst_m1 (by decide +kernel)) (by decide +kernel), ?_⟩
  refine ⟨sn_iret rfl (dX_ireturn (by decide +kernel)), ?_⟩
  refine ⟨sn_aload_n (k := 0) (dX_aload_0 (by decide +kernel)) rfl (by decide +kernel), ?_⟩
  refine ⟨sn_iload_n (k := 1) (dX_iload_1 (by decide +kernel)) rfl (by decide +kernel), ?_⟩
  refine ⟨sn_aload_n (k := 0) (dX_aload_0 (by decide +kernel)) rfl (by decide +kernel), ?_⟩
  refine ⟨sn_getf (C := RX12) (T := TX12) (N := 56) (idx := 25) rfl pin12 (by decide) (by decide) rfl (pmt6 147 rfl (by decide +kernel)) rfl (dX_getfield (by decide +kernel)) (by decide +kernel), ?_⟩
  refine ⟨sn_iload_n (k := 1) (dX_iload_1 (by decide +kernel)) rfl (by decide +kernel), ?_⟩
  refine ⟨sn_iald (dX_iaload (by decide +kernel)) (by decide +kernel), ?_⟩
  refine ⟨sn_iload_n (k := 2) (dX_iload_2 (by decide +kernel)) rfl (by decide +kernel), ?_⟩
  refine ⟨sn_callV (idx := 262) (C := RX12) (T := TX12) (N := 56) rfl (by decide) cal_208 (pmt7 222 rfl (by decide +kernel)) (pmt7 224 rfl (by decide +kernel)) (pms 67 rfl rfl) (dX_invokevirtual (by decide +kernel)) (by decide +kernel), ?_⟩
  refine ⟨sn_istore_n (k := 3) (dX_istore_3 (by decide +kernel)) rfl (by decide) (by decide +kernel), ?_⟩
  refine ⟨sn_iload_n (k := 3) (dX_iload_3 (by decide +kernel)) rfl (by decide +kernel), ?_⟩
  refine ⟨sn_ldcw (idx := 258) (dX_ldc_w (by decide +kernel)) (pmt7 230 rfl (by decide +kernel)) (by decide +kernel), ?_⟩
  refine ⟨sn_icmp_lt (off := 6) (dX_if_icmplt (by decide +kernel)) (by decide +kernel) (by decide +kernel), ?_⟩
  refine ⟨sn_bipush (dX_bipush (by decide +kernel)) (by decide +kernel) (by decide +kernel), ?_⟩
  refine ⟨sn_iret rfl (dX_ireturn (by decide +kernel)), ?_⟩
  refine ⟨sn_aload_n (k := 0) (dX_aload_0 (by decide +kernel)) rfl (by decide +kernel), ?_⟩
  refine ⟨sn_getf (C := RX12) (T := TX12) (N := 56) (idx := 275) rfl pin12 (by decide) (by decide) rfl (pmt6 151 rfl (by decide +kernel)) rfl (dX_getfield (by decide +kernel)) (by decide +kernel), ?_⟩
  refine ⟨sn_iload_n (k := 3) (dX_iload_3 (by decide +kernel)) rfl (by decide +kernel), ?_⟩
  refine ⟨sn_aload_n (k := 0) (dX_aload_0 (by decide +kernel)) rfl (by decide +kernel), ?_⟩
  refine ⟨sn_getf (C := RX12) (T := TX12) (N := 56) (idx := 22) rfl pin12 (by decide) (by decide) rfl (pmt6 146 rfl (by decide +kernel)) rfl (dX_getfield (by decide +kernel)) (by decide +kernel), ?_⟩
  refine ⟨sn_iload_n (k := 1) (dX_iload_1 (by decide +kernel)) rfl (by decide +kernel), ?_⟩
  refine ⟨sn_iald (dX_iaload (by decide +kernel)) (by decide +kernel), ?_⟩
  refine ⟨sn_imul (dX_imul (by decide +kernel)) (by decide +kernel), ?_⟩
  refine ⟨sn_iadd (dX_iadd (by decide +kernel)) (by decide +kernel), ?_⟩
  refine ⟨sn_aload_n (k := 0) (dX_aload_0 (by decide +kernel)) rfl (by decide +kernel), ?_⟩
  refine ⟨sn_getf (C := RX12) (T := TX12) (N := 56) (idx := 31) rfl pin12 (by decide) (by decide) rfl (pmt6 152 rfl (by decide +kernel)) rfl (dX_getfield (by decide +kernel)) (by decide +kernel), ?_⟩
  refine ⟨sn_icmp_le (off := 8) (dX_if_icmple (by decide +kernel)) (by decide +kernel) (by decide +kernel), ?_⟩
  refine ⟨sn_bipush (dX_bipush (by decide +kernel)) (by decide +kernel) (by decide +kernel), ?_⟩
  refine ⟨sn_goto (off := 4) (dX_goto (by decide +kernel)) (by decide +kernel), ?_⟩
  refine ⟨sn_iconst (dX_iconst_0 (by decide +kernel)) (by decide +kernel), ?_⟩
  refine ⟨sn_iret rfl (dX_ireturn (by decide +kernel)), ?_⟩
  trivial
set_option maxRecDepth 100000 in
set_option maxHeartbeats 4000000 in
theorem S_214 : pAll (pSk RX12 cX12_carries 4 (some .int) PC_214) 0 C_214 := by
  refine ⟨sn_aload_n (k := 0) (dX_aload_0 (by decide +kernel)) rfl (by decide +kernel), ?_⟩
  refine ⟨sn_iload_n (k := 1) (dX_iload_1 (by decide +kernel)) rfl (by decide +kernel), ?_⟩
  refine ⟨sn_aload_n (k := 0) (dX_aload_0 (by decide +kernel)) rfl (by decide +kernel), ?_⟩
  refine ⟨sn_getf (C := RX12) (T := TX12) (N := 56) (idx := 25) rfl pin12 (by decide) (by decide) rfl (pmt6 147 rfl (by decide +kernel)) rfl (dX_getfield (by decide +kernel)) (by decide +kernel), ?_⟩
  refine ⟨sn_iload_n (k := 1) (dX_iload_1 (by decide +kernel)) rfl (by decide +kernel), ?_⟩
  refine ⟨sn_iald (dX_iaload (by decide +kernel)) (by decide +kernel), ?_⟩
  refine ⟨sn_iload_n (k := 2) (dX_iload_2 (by decide +kernel)) rfl (by decide +kernel), ?_⟩
  refine ⟨sn_callV (idx := 262) (C := RX12) (T := TX12) (N := 56) rfl (by decide) cal_208 (pmt7 222 rfl (by decide +kernel)) (pmt7 224 rfl (by decide +kernel)) (pms 67 rfl rfl) (dX_invokevirtual (by decide +kernel)) (by decide +kernel), ?_⟩
  refine ⟨sn_aload_n (k := 0) (dX_aload_0 (by decide +kernel)) rfl (by decide +kernel), ?_⟩
  refine ⟨sn_getf (C := RX12) (T := TX12) (N := 56) (idx := 22) rfl pin12 (by decide) (by decide) rfl (pmt6 146 rfl (by decide +kernel)) rfl (dX_getfield (by decide +kernel)) (by decide +kernel), ?_⟩
  refine ⟨sn_iload_n (k := 1) (dX_iload_1 (by decide +kernel)) rfl (by decide +kernel), ?_⟩
  refine ⟨sn_iald (dX_iaload (by decide +kernel)) (by decide +kernel), ?_⟩
  refine ⟨sn_imul (dX_imul (by decide +kernel)) (by decide +kernel), ?_⟩
  refine ⟨sn_istore_n (k := 3) (dX_istore_3 (by decide +kernel)) rfl (by decide) (by decide +kernel), ?_⟩
  refine ⟨sn_aload_n (k := 0) (dX_aload_0 (by decide +kernel)) rfl (by decide +kernel), ?_⟩
  refine ⟨sn_getf (C := RX12) (T := TX12) (N := 56) (idx := 25) rfl pin12 (by decide) (by decide) rfl (pmt6 147 rfl (by decide +kernel)) rfl (dX_getfield (by decide +kernel)) (by decide +kernel), ?_⟩
  refine ⟨sn_iload_n (k := 1) (dX_iload_1 (by decide +kernel)) rfl (by decide +kernel), ?_⟩
  refine ⟨sn_iload_n (k := 2) (dX_iload_2 (by decide +kernel)) rfl (by decide +kernel), ?_⟩
  refine ⟨sn_iast (dX_iastore (by decide +kernel)) (by decide +kernel), ?_⟩
  refine ⟨sn_aload_n (k := 0) (dX_aload_0 (by decide +kernel)) rfl (by decide +kernel), ?_⟩
  refine ⟨sn_dup (dX_dup (by decide +kernel)) (by decide +kernel), ?_⟩
  refine ⟨sn_getf (C := RX12) (T := TX12) (N := 56) (idx := 275) rfl pin12 (by decide) (by decide) rfl (pmt6 151 rfl (by decide +kernel)) rfl (dX_getfield (by decide +kernel)) (by decide +kernel), ?_⟩
  refine ⟨sn_iload_n (k := 3) (dX_iload_3 (by decide +kernel)) rfl (by decide +kernel), ?_⟩
  refine ⟨sn_iadd (dX_iadd (by decide +kernel)) (by decide +kernel), ?_⟩
  refine ⟨sn_puti (C := RX12) (T := TX12) (N := 56) (idx := 275) rfl pin12 (by decide) (by decide) rfl tyX12 tyX12_ok nmX12 rfl rfl (by decide +kernel) (pmt6 151 rfl (by decide +kernel)) rfl (dX_putfield (by decide +kernel)) (by decide +kernel), ?_⟩
  refine ⟨sn_iload_n (k := 3) (dX_iload_3 (by decide +kernel)) rfl (by decide +kernel), ?_⟩
  refine ⟨sn_iret rfl (dX_ireturn (by decide +kernel)), ?_⟩
  trivial
set_option maxRecDepth 100000 in
set_option maxHeartbeats 4000000 in
theorem S_215 : pAll (pSk RX12 cX12_remember 3 none PC_215) 0 C_215 := by
  refine ⟨sn_aload_n (k := 0) (dX_aload_0 (by decide +kernel)) rfl (by decide +kernel), ?_⟩
  refine ⟨sn_getf (C := RX12) (T := TX12) (N := 56) (idx := 186) rfl pin12 (by decide) (by decide) rfl (pmt6 173 rfl (by decide +kernel)) rfl (dX_getfield (by decide +kernel)) (by decide +kernel), ?_⟩
  refine ⟨sn_bipush (dX_bipush (by decide +kernel)) (by decide +kernel) (by decide +kernel), ?_⟩
  refine ⟨sn_icmp_ne (off := 41) (dX_if_icmpne (by decide +kernel)) (by decide +kernel) (by decide +kernel), ?_⟩
  refine ⟨sn_iconst (dX_iconst_0 (by decide +kernel)) (by decide +kernel), ?_⟩
  refine ⟨sn_istore_n (k := 2) (dX_istore_2 (by decide +kernel)) rfl (by decide) (by decide +kernel), ?_⟩
  refine ⟨sn_iload_n (k := 2) (dX_iload_2 (by decide +kernel)) rfl (by decide +kernel), ?_⟩
  refine ⟨sn_bipush (dX_bipush (by decide +kernel)) (by decide +kernel) (by decide +kernel), ?_⟩
  refine ⟨sn_icmp_ge (off := 23) (dX_if_icmpge (by decide +kernel)) (by decide +kernel) (by decide +kernel), ?_⟩
  refine ⟨sn_aload_n (k := 0) (dX_aload_0 (by decide +kernel)) rfl (by decide +kernel), ?_⟩
  refine ⟨sn_getf (C := RX12) (T := TX12) (N := 56) (idx := 60) rfl pin12 (by decide) (by decide) rfl (pmt6 172 rfl (by decide +kernel)) rfl (dX_getfield (by decide +kernel)) (by decide +kernel), ?_⟩
  refine ⟨sn_iload_n (k := 2) (dX_iload_2 (by decide +kernel)) rfl (by decide +kernel), ?_⟩
  refine ⟨sn_aload_n (k := 0) (dX_aload_0 (by decide +kernel)) rfl (by decide +kernel), ?_⟩
  refine ⟨sn_getf (C := RX12) (T := TX12) (N := 56) (idx := 60) rfl pin12 (by decide) (by decide) rfl (pmt6 172 rfl (by decide +kernel)) rfl (dX_getfield (by decide +kernel)) (by decide +kernel), ?_⟩
  refine ⟨sn_iload_n (k := 2) (dX_iload_2 (by decide +kernel)) rfl (by decide +kernel), ?_⟩
  refine ⟨sn_iconst (dX_iconst_3 (by decide +kernel)) (by decide +kernel), ?_⟩
  refine ⟨sn_iadd (dX_iadd (by decide +kernel)) (by decide +kernel), ?_⟩
  refine ⟨sn_iald (dX_iaload (by decide +kernel)) (by decide +kernel), ?_⟩
  refine ⟨sn_iast (dX_iastore (by decide +kernel)) (by decide +kernel), ?_⟩
  refine ⟨sn_iinc (dX_iinc (by decide +kernel)) (by decide) (by decide +kernel), ?_⟩
  refine ⟨sn_goto (off := -23) (dX_goto (by decide +kernel)) (by decide +kernel), ?_⟩
  refine ⟨sn_aload_n (k := 0) (dX_aload_0 (by decide +kernel)) rfl (by decide +kernel), ?_⟩
  refine ⟨sn_dup (dX_dup (by decide +kernel)) (by decide +kernel), ?_⟩
  refine ⟨sn_getf (C := RX12) (T := TX12) (N := 56) (idx := 186) rfl pin12 (by decide) (by decide) rfl (pmt6 173 rfl (by decide +kernel)) rfl (dX_getfield (by decide +kernel)) (by decide +kernel), ?_⟩
  refine ⟨sn_iconst (dX_iconst_1 (by decide +kernel)) (by decide +kernel), ?_⟩
  refine ⟨sn_isub (dX_isub (by decide +kernel)) (by decide +kernel), ?_⟩
  refine ⟨sn_puti (C := RX12) (T := TX12) (N := 56) (idx := 186) rfl pin12 (by decide) (by decide) rfl tyX12 tyX12_ok nmX12 rfl rfl (by decide +kernel) (pmt6 173 rfl (by decide +kernel)) rfl (dX_putfield (by decide +kernel)) (by decide +kernel), ?_⟩
  refine ⟨sn_aload_n (k := 0) (dX_aload_0 (by decide +kernel)) rfl (by decide +kernel), ?_⟩
  refine ⟨sn_getf (C := RX12) (T := TX12) (N := 56) (idx := 60) rfl pin12 (by decide) (by decide) rfl (pmt6 172 rfl (by decide +kernel)) rfl (dX_getfield (by decide +kernel)) (by decide +kernel), ?_⟩
  refine ⟨sn_iconst (dX_iconst_3 (by decide +kernel)) (by decide +kernel), ?_⟩
  refine ⟨sn_aload_n (k := 0) (dX_aload_0 (by decide +kernel)) rfl (by decide +kernel), ?_⟩
  refine ⟨sn_getf (C := RX12) (T := TX12) (N := 56) (idx := 186) rfl pin12 (by decide) (by decide) rfl (pmt6 173 rfl (by decide +kernel)) rfl (dX_getfield (by decide +kernel)) (by decide +kernel), ?_⟩
  refine ⟨sn_imul (dX_imul (by decide +kernel)) (by decide +kernel), ?_⟩
  refine ⟨sn_iload_n (k := 1) (dX_iload_1 (by decide +kernel)) rfl (by decide +kernel), ?_⟩
  refine ⟨sn_iast (dX_iastore (by decide +kernel)) (by decide +kernel), ?_⟩
  refine ⟨sn_aload_n (k := 0) (dX_aload_0 (by decide +kernel)) rfl (by decide +kernel), ?_⟩
  refine ⟨sn_getf (C := RX12) (T := TX12) (N := 56) (idx := 60) rfl pin12 (by decide) (by decide) rfl (pmt6 172 rfl (by decide +kernel)) rfl (dX_getfield (by decide +kernel)) (by decide +kernel), ?_⟩
  refine ⟨sn_iconst (dX_iconst_3 (by decide +kernel)) (by decide +kernel), ?_⟩
  refine ⟨sn_aload_n (k := 0) (dX_aload_0 (by decide +kernel)) rfl (by decide +kernel), ?_⟩
  refine ⟨sn_getf (C := RX12) (T := TX12) (N := 56) (idx := 186) rfl pin12 (by decide) (by decide) rfl (pmt6 173 rfl (by decide +kernel)) rfl (dX_getfield (by decide +kernel)) (by decide +kernel), ?_⟩
  refine ⟨sn_imul (dX_imul (by decide +kernel)) (by decide +kernel), ?_⟩
  refine ⟨sn_iconst (dX_iconst_1 (by decide +kernel)) (by decide +kernel), ?_⟩
  refine ⟨sn_iadd (dX_iadd (by decide +kernel)) (by decide +kernel), ?_⟩
  refine ⟨sn_aload_n (k := 0) (dX_aload_0 (by decide +kernel)) rfl (by decide +kernel), ?_⟩
  refine ⟨sn_getf (C := RX12) (T := TX12) (N := 56) (idx := 25) rfl pin12 (by decide) (by decide) rfl (pmt6 147 rfl (by decide +kernel)) rfl (dX_getfield (by decide +kernel)) (by decide +kernel), ?_⟩
  refine ⟨sn_iload_n (k := 1) (dX_iload_1 (by decide +kernel)) rfl (by decide +kernel), ?_⟩
  refine ⟨sn_iald (dX_iaload (by decide +kernel)) (by decide +kernel), ?_⟩
  refine ⟨sn_iast (dX_iastore (by decide +kernel)) (by decide +kernel), ?_⟩
  refine ⟨sn_aload_n (k := 0) (dX_aload_0 (by decide +kernel)) rfl (by decide +kernel), ?_⟩
  refine ⟨sn_getf (C := RX12) (T := TX12) (N := 56) (idx := 60) rfl pin12 (by decide) (by decide) rfl (pmt6 172 rfl (by decide +kernel)) rfl (dX_getfield (by decide +kernel)) (by decide +kernel), ?_⟩
  refine ⟨sn_iconst (dX_iconst_3 (by decide +kernel)) (by decide +kernel), ?_⟩
  refine ⟨sn_aload_n (k := 0) (dX_aload_0 (by decide +kernel)) rfl (by decide +kernel), ?_⟩
  refine ⟨sn_getf (C := RX12) (T := TX12) (N := 56) (idx := 186) rfl pin12 (by decide) (by decide) rfl (pmt6 173 rfl (by decide +kernel)) rfl (dX_getfield (by decide +kernel)) (by decide +kernel), ?_⟩
  refine ⟨sn_imul (dX_imul (by decide +kernel)) (by decide +kernel), ?_⟩
  refine ⟨sn_iconst (dX_iconst_2 (by decide +kernel)) (by decide +kernel), ?_⟩
  refine ⟨sn_iadd (dX_iadd (by decide +kernel)) (by decide +kernel), ?_⟩
  refine ⟨sn_aload_n (k := 0) (dX_aload_0 (by decide +kernel)) rfl (by decide +kernel), ?_⟩
  refine ⟨sn_getf (C := RX12) (T := TX12) (N := 56) (idx := 275) rfl pin12 (by decide) (by decide) rfl (pmt6 151 rfl (by decide +kernel)) rfl (dX_getfield (by decide +kernel)) (by decide +kernel), ?_⟩
  refine ⟨sn_iast (dX_iastore (by decide +kernel)) (by decide +kernel), ?_⟩
  refine ⟨sn_aload_n (k := 0) (dX_aload_0 (by decide +kernel)) rfl (by decide +kernel), ?_⟩
  refine ⟨sn_dup (dX_dup (by decide +kernel)) (by decide +kernel), ?_⟩
  refine ⟨sn_getf (C := RX12) (T := TX12) (N := 56) (idx := 186) rfl pin12 (by decide) (by decide) rfl (pmt6 173 rfl (by decide +kernel)) rfl (dX_getfield (by decide +kernel)) (by decide +kernel), ?_⟩
  refine ⟨sn_iconst (dX_iconst_1 (by decide +kernel)) (by decide +kernel), ?_⟩
  refine ⟨sn_iadd (dX_iadd (by decide +kernel)) (by decide +kernel), ?_⟩
  refine ⟨sn_puti (C := RX12) (T := TX12) (N := 56) (idx := 186) rfl pin12 (by decide) (by decide) rfl tyX12 tyX12_ok nmX12 rfl rfl (by decide +kernel) (pmt6 173 rfl (by decide +kernel)) rfl (dX_putfield (by decide +kernel)) (by decide +kernel), ?_⟩
  refine ⟨sn_vret rfl (dX_return (by decide +kernel)), ?_⟩
  trivial
set_option maxRecDepth 100000 in
set_option maxHeartbeats 4000000 in
theorem S_216 : pAll (pSk RX12 cX12_carry 4 (some .int) PC_216) 0 C_216 := by
  refine ⟨sn_aload_n (k := 0) (dX_aload_0 (by decide +kernel)) rfl (by decide +kernel), ?_⟩
  refine ⟨sn_iconst (dX_iconst_0 (by decide +kernel)) (by decide +kernel), ?_⟩
  refine ⟨sn_puti (C := RX12) (T := TX12) (N := 56) (idx := 107) rfl pin12 (by decide) (by decide) rfl tyX12 tyX12_ok nmX12 rfl rfl (by decide +kernel) (pmt6 157 rfl (by decide +kernel)) rfl (dX_putfield (by decide +kernel)) (by decide +kernel), ?_⟩
  refine ⟨sn_aload_n (k := 0) (dX_aload_0 (by decide +kernel)) rfl (by decide +kernel), ?_⟩
  refine ⟨sn_iload_n (k := 1) (dX_iload_1 (by decide +kernel)) rfl (by decide +kernel), ?_⟩
  refine ⟨sn_iload_n (k := 2) (dX_iload_2 (by decide +kernel)) rfl (by decide +kernel), ?_⟩
  refine ⟨sn_callV (idx := 278) (C := RX12) (T := TX12) (N := 56) rfl (by decide) cal_213 (pmt7 218 rfl (by decide +kernel)) (pmt7 220 rfl (by decide +kernel)) (pms 66 rfl rfl) (dX_invokevirtual (by decide +kernel)) (by decide +kernel), ?_⟩
  refine ⟨sn_istore_n (k := 3) (dX_istore_3 (by decide +kernel)) rfl (by decide) (by decide +kernel), ?_⟩
  refine ⟨sn_iload_n (k := 3) (dX_iload_3 (by decide +kernel)) rfl (by decide +kernel), ?_⟩
  refine ⟨sn_if_ge (off := 5) (dX_ifge (by decide +kernel)) (by decide +kernel) (by decide +kernel), ?_⟩
  refine ⟨sn_iload_n (k := 3) (dX_iload_3 (by decide +kernel)) rfl (by decide +kernel), ?_⟩
  refine ⟨sn_iret rfl (dX_ireturn (by decide +kernel)), ?_⟩
  refine ⟨sn_aload_n (k := 0) (dX_aload_0 (by decide +kernel)) rfl (by decide +kernel), ?_⟩
  refine ⟨sn_iload_n (k := 1) (dX_iload_1 (by decide +kernel)) rfl (by decide +kernel), ?_⟩
  refine ⟨sn_callV (idx := 281) (C := RX12) (T := TX12) (N := 56) rfl (by decide) cal_215 (pmt7 231 rfl (by decide +kernel)) (pmt7 233 rfl (by decide +kernel)) (pms 69 rfl rfl) (dX_invokevirtual (by decide +kernel)) (by decide +kernel), ?_⟩
  refine ⟨sn_aload_n (k := 0) (dX_aload_0 (by decide +kernel)) rfl (by decide +kernel), ?_⟩
  refine ⟨sn_iload_n (k := 1) (dX_iload_1 (by decide +kernel)) rfl (by decide +kernel), ?_⟩
  refine ⟨sn_iload_n (k := 2) (dX_iload_2 (by decide +kernel)) rfl (by decide +kernel), ?_⟩
  refine ⟨sn_callV (idx := 284) (C := RX12) (T := TX12) (N := 56) rfl (by decide) cal_214 (pmt7 235 rfl (by decide +kernel)) (pmt7 237 rfl (by decide +kernel)) (pms 70 rfl rfl) (dX_invokevirtual (by decide +kernel)) (by decide +kernel), ?_⟩
  refine ⟨sn_iret rfl (dX_ireturn (by decide +kernel)), ?_⟩
  trivial
set_option maxRecDepth 100000 in
set_option maxHeartbeats 4000000 in
theorem S_217 : pAll (pSk RX12 cX12_goEvening 1 (some .boolean) PC_217) 0 C_217 := by
  refine ⟨sn_aload_n (k := 0) (dX_aload_0 (by decide +kernel)) rfl (by decide +kernel), ?_⟩
  refine ⟨sn_aload_n (k := 0) (dX_aload_0 (by decide +kernel)) rfl (by decide +kernel), ?_⟩
  refine ⟨sn_getf (C := RX12) (T := TX12) (N := 56) (idx := 25) rfl pin12 (by decide) (by decide) rfl (pmt6 147 rfl (by decide +kernel)) rfl (dX_getfield (by decide +kernel)) (by decide +kernel), ?_⟩
  refine ⟨sn_callV (idx := 287) (C := RX12) (T := TX12) (N := 56) rfl (by decide) cal_212 (pmt8 20 rfl (by decide +kernel)) (pmt8 22 rfl (by decide +kernel)) (pms 75 rfl rfl) (dX_invokevirtual (by decide +kernel)) (by decide +kernel), ?_⟩
  refine ⟨sn_if_ne (off := 5) (dX_ifne (by decide +kernel)) (by decide +kernel) (by decide +kernel), ?_⟩
  refine ⟨sn_iconst (dX_iconst_0 (by decide +kernel)) (by decide +kernel), ?_⟩
  refine ⟨sn_zret (Or.inl rfl) (dX_ireturn (by decide +kernel)), ?_⟩
  refine ⟨sn_aload_n (k := 0) (dX_aload_0 (by decide +kernel)) rfl (by decide +kernel), ?_⟩
  refine ⟨sn_dup (dX_dup (by decide +kernel)) (by decide +kernel), ?_⟩
  refine ⟨sn_getf (C := RX12) (T := TX12) (N := 56) (idx := 291) rfl pin12 (by decide) (by decide) rfl (pmt6 150 rfl (by decide +kernel)) rfl (dX_getfield (by decide +kernel)) (by decide +kernel), ?_⟩
  refine ⟨sn_iconst (dX_iconst_1 (by decide +kernel)) (by decide +kernel), ?_⟩
  refine ⟨sn_iadd (dX_iadd (by decide +kernel)) (by decide +kernel), ?_⟩
  refine ⟨sn_puti (C := RX12) (T := TX12) (N := 56) (idx := 291) rfl pin12 (by decide) (by decide) rfl tyX12 tyX12_ok nmX12 rfl rfl (by decide +kernel) (pmt6 150 rfl (by decide +kernel)) rfl (dX_putfield (by decide +kernel)) (by decide +kernel), ?_⟩
  refine ⟨sn_aload_n (k := 0) (dX_aload_0 (by decide +kernel)) rfl (by decide +kernel), ?_⟩
  refine ⟨sn_iconst (dX_iconst_0 (by decide +kernel)) (by decide +kernel), ?_⟩
  refine ⟨sn_puti (C := RX12) (T := TX12) (N := 56) (idx := 275) rfl pin12 (by decide) (by decide) rfl tyX12 tyX12_ok nmX12 rfl rfl (by decide +kernel) (pmt6 151 rfl (by decide +kernel)) rfl (dX_putfield (by decide +kernel)) (by decide +kernel), ?_⟩
  refine ⟨sn_aload_n (k := 0) (dX_aload_0 (by decide +kernel)) rfl (by decide +kernel), ?_⟩
  refine ⟨sn_iconst (dX_iconst_0 (by decide +kernel)) (by decide +kernel), ?_⟩
  refine ⟨sn_puti (C := RX12) (T := TX12) (N := 56) (idx := 186) rfl pin12 (by decide) (by decide) rfl tyX12 tyX12_ok nmX12 rfl rfl (by decide +kernel) (pmt6 173 rfl (by decide +kernel)) rfl (dX_putfield (by decide +kernel)) (by decide +kernel), ?_⟩
  refine ⟨sn_iconst (dX_iconst_1 (by decide +kernel)) (by decide +kernel), ?_⟩
  refine ⟨sn_zret (Or.inl rfl) (dX_ireturn (by decide +kernel)), ?_⟩
  trivial
set_option maxRecDepth 100000 in
set_option maxHeartbeats 4000000 in
theorem S_218 : pAll (pSk RX12 cX12_evening 3 (some .int) PC_218) 0 C_218 := by
  refine ⟨sn_aload_n (k := 0) (dX_aload_0 (by decide +kernel)) rfl (by decide +kernel), ?_⟩
  refine ⟨sn_iconst (dX_iconst_0 (by decide +kernel)) (by decide +kernel), ?_⟩
  refine ⟨sn_puti (C := RX12) (T := TX12) (N := 56) (idx := 107) rfl pin12 (by decide) (by decide) rfl tyX12 tyX12_ok nmX12 rfl rfl (by decide +kernel) (pmt6 157 rfl (by decide +kernel)) rfl (dX_putfield (by decide +kernel)) (by decide +kernel), ?_⟩
  refine ⟨sn_aload_n (k := 0) (dX_aload_0 (by decide +kernel)) rfl (by decide +kernel), ?_⟩
  refine ⟨sn_aload_n (k := 0) (dX_aload_0 (by decide +kernel)) rfl (by decide +kernel), ?_⟩
  refine ⟨sn_getf (C := RX12) (T := TX12) (N := 56) (idx := 25) rfl pin12 (by decide) (by decide) rfl (pmt6 147 rfl (by decide +kernel)) rfl (dX_getfield (by decide +kernel)) (by decide +kernel), ?_⟩
  refine ⟨sn_callV (idx := 268) (C := RX12) (T := TX12) (N := 56) rfl (by decide) cal_210 (pmt8 3 rfl (by decide +kernel)) (pmt8 5 rfl (by decide +kernel)) (pms 71 rfl rfl) (dX_invokevirtual (by decide +kernel)) (by decide +kernel), ?_⟩
  refine ⟨sn_istore_n (k := 1) (dX_istore_1 (by decide +kernel)) rfl (by decide) (by decide +kernel), ?_⟩
  refine ⟨sn_aload_n (k := 0) (dX_aload_0 (by decide +kernel)) rfl (by decide +kernel), ?_⟩
  refine ⟨sn_aload_n (k := 0) (dX_aload_0 (by decide +kernel)) rfl (by decide +kernel), ?_⟩
  refine ⟨sn_getf (C := RX12) (T := TX12) (N := 56) (idx := 25) rfl pin12 (by decide) (by decide) rfl (pmt6 147 rfl (by decide +kernel)) rfl (dX_getfield (by decide +kernel)) (by decide +kernel), ?_⟩
  refine ⟨sn_callV (idx := 272) (C := RX12) (T := TX12) (N := 56) rfl (by decide) cal_211 (pmt8 8 rfl (by decide +kernel)) (pmt8 10 rfl (by decide +kernel)) (pms 72 rfl rfl) (dX_invokevirtual (by decide +kernel)) (by decide +kernel), ?_⟩
  refine ⟨sn_istore_n (k := 2) (dX_istore_2 (by decide +kernel)) rfl (by decide) (by decide +kernel), ?_⟩
  refine ⟨sn_aload_n (k := 0) (dX_aload_0 (by decide +kernel)) rfl (by decide +kernel), ?_⟩
  refine ⟨sn_iconst (dX_iconst_0 (by decide +kernel)) (by decide +kernel), ?_⟩
  refine ⟨sn_puti (C := RX12) (T := TX12) (N := 56) (idx := 110) rfl pin12 (by decide) (by decide) rfl tyX12 tyX12_ok nmX12 rfl rfl (by decide +kernel) (pmt6 156 rfl (by decide +kernel)) rfl (dX_putfield (by decide +kernel)) (by decide +kernel), ?_⟩
  refine ⟨sn_aload_n (k := 0) (dX_aload_0 (by decide +kernel)) rfl (by decide +kernel), ?_⟩
  refine ⟨sn_iload_n (k := 1) (dX_iload_1 (by decide +kernel)) rfl (by decide +kernel), ?_⟩
  refine ⟨sn_callV (idx := 294) (C := RX12) (T := TX12) (N := 56) rfl (by decide) cal_172 (pmt8 12 rfl (by decide +kernel)) (pmt8 14 rfl (by decide +kernel)) (pms 73 rfl rfl) (dX_invokevirtual (by decide +kernel)) (by decide +kernel), ?_⟩
  refine ⟨sn_aload_n (k := 0) (dX_aload_0 (by decide +kernel)) rfl (by decide +kernel), ?_⟩
  refine ⟨sn_iload_n (k := 2) (dX_iload_2 (by decide +kernel)) rfl (by decide +kernel), ?_⟩
  refine ⟨sn_callV (idx := 294) (C := RX12) (T := TX12) (N := 56) rfl (by decide) cal_172 (pmt8 12 rfl (by decide +kernel)) (pmt8 14 rfl (by decide +kernel)) (pms 73 rfl rfl) (dX_invokevirtual (by decide +kernel)) (by decide +kernel), ?_⟩
  refine ⟨sn_aload_n (k := 0) (dX_aload_0 (by decide +kernel)) rfl (by decide +kernel), ?_⟩
  refine ⟨sn_callV (idx := 297) (C := RX12) (T := TX12) (N := 56) rfl (by decide) cal_217 (pmt8 16 rfl (by decide +kernel)) (pmt8 18 rfl (by decide +kernel)) (pms 74 rfl rfl) (dX_invokevirtual (by decide +kernel)) (by decide +kernel), ?_⟩
  refine ⟨sn_if_eq (off := 7) (dX_ifeq (by decide +kernel)) (by decide +kernel) (by decide +kernel), ?_⟩
  refine ⟨sn_iconst (dX_iconst_1 (by decide +kernel)) (by decide +kernel), ?_⟩
  refine ⟨sn_goto (off := 4) (dX_goto (by decide +kernel)) (by decide +kernel), ?_⟩
  refine ⟨sn_iconst (dX_iconst_0 (by decide +kernel)) (by decide +kernel), ?_⟩
  refine ⟨sn_iret rfl (dX_ireturn (by decide +kernel)), ?_⟩
  trivial
set_option maxRecDepth 100000 in
set_option maxHeartbeats 4000000 in
theorem S_219 : pAll (pSk RX12 cX12_day 5 (some .int) PC_219) 0 C_219 := by
  refine ⟨sn_aload_n (k := 0) (dX_aload_0 (by decide +kernel)) rfl (by decide +kernel), ?_⟩
  refine ⟨sn_iconst (dX_iconst_0 (by decide +kernel)) (by decide +kernel), ?_⟩
  refine ⟨sn_puti (C := RX12) (T := TX12) (N := 56) (idx := 107) rfl pin12 (by decide) (by decide) rfl tyX12 tyX12_ok nmX12 rfl rfl (by decide +kernel) (pmt6 157 rfl (by decide +kernel)) rfl (dX_putfield (by decide +kernel)) (by decide +kernel), ?_⟩
  refine ⟨sn_aload_n (k := 0) (dX_aload_0 (by decide +kernel)) rfl (by decide +kernel), ?_⟩
  refine ⟨sn_aload_n (k := 0) (dX_aload_0 (by decide +kernel)) rfl (by decide +kernel), ?_⟩
  refine ⟨sn_getf (C := RX12) (T := TX12) (N := 56) (idx := 35) rfl pin12 (by decide) (by decide) rfl (pmt6 153 rfl (by decide +kernel)) rfl (dX_getfield (by decide +kernel)) (by decide +kernel), ?_⟩
  refine ⟨sn_aload_n (k := 0) (dX_aload_0 (by decide +kernel)) rfl (by decide +kernel), ?_⟩
  refine ⟨sn_getf (C := RX12) (T := TX12) (N := 56) (idx := 123) rfl pin12 (by decide) (by decide) rfl (pmt6 154 rfl (by decide +kernel)) rfl (dX_getfield (by decide +kernel)) (by decide +kernel), ?_⟩
  refine ⟨sn_bipush (dX_bipush (by decide +kernel)) (by decide +kernel) (by decide +kernel), ?_⟩
  refine ⟨sn_callV (idx := 157) (C := RX12) (T := TX12) (N := 56) rfl (by decide) cal_177 (pmt7 84 rfl (by decide +kernel)) (pmt7 86 rfl (by decide +kernel)) (pms 43 rfl rfl) (dX_invokevirtual (by decide +kernel)) (by decide +kernel), ?_⟩
  refine ⟨sn_aload_n (k := 0) (dX_aload_0 (by decide +kernel)) rfl (by decide +kernel), ?_⟩
  refine ⟨sn_iconst (dX_iconst_0 (by decide +kernel)) (by decide +kernel), ?_⟩
  refine ⟨sn_puti (C := RX12) (T := TX12) (N := 56) (idx := 123) rfl pin12 (by decide) (by decide) rfl tyX12 tyX12_ok nmX12 rfl rfl (by decide +kernel) (pmt6 154 rfl (by decide +kernel)) rfl (dX_putfield (by decide +kernel)) (by decide +kernel), ?_⟩
  refine ⟨sn_iconst (dX_iconst_0 (by decide +kernel)) (by decide +kernel), ?_⟩
  refine ⟨sn_istore_n (k := 1) (dX_istore_1 (by decide +kernel)) rfl (by decide) (by decide +kernel), ?_⟩
  refine ⟨sn_aload_n (k := 0) (dX_aload_0 (by decide +kernel)) rfl (by decide +kernel), ?_⟩
  refine ⟨sn_getf (C := RX12) (T := TX12) (N := 56) (idx := 129) rfl pin12 (by decide) (by decide) rfl (pmt6 159 rfl (by decide +kernel)) rfl (dX_getfield (by decide +kernel)) (by decide +kernel), ?_⟩
  refine ⟨sn_if_le (off := 7) (dX_ifle (by decide +kernel)) (by decide +kernel) (by decide +kernel), ?_⟩
  refine ⟨sn_iconst (dX_iconst_1 (by decide +kernel)) (by decide +kernel), ?_⟩
  refine ⟨sn_goto (off := 4) (dX_goto (by decide +kernel)) (by decide +kernel), ?_⟩
  refine ⟨sn_iconst (dX_iconst_0 (by decide +kernel)) (by decide +kernel), ?_⟩
  refine ⟨sn_istore_n (k := 2) (dX_istore_2 (by decide +kernel)) rfl (by decide) (by decide +kernel), ?_⟩
  refine ⟨sn_iload_n (k := 2) (dX_iload_2 (by decide +kernel)) rfl (by decide +kernel), ?_⟩
  refine ⟨sn_if_eq (off := 94) (dX_ifeq (by decide +kernel)) (by decide +kernel) (by decide +kernel), ?_⟩
  refine ⟨sn_aload_n (k := 0) (dX_aload_0 (by decide +kernel)) rfl (by decide +kernel), ?_⟩
  refine ⟨sn_callV (idx := 141) (C := RX12) (T := TX12) (N := 56) rfl (by decide) cal_179 (pmt7 88 rfl (by decide +kernel)) (pmt7 90 rfl (by decide +kernel)) (pms 44 rfl rfl) (dX_invokevirtual (by decide +kernel)) (by decide +kernel), ?_⟩
  refine ⟨sn_if_eq (off := 87) (dX_ifeq (by decide +kernel)) (by decide +kernel) (by decide +kernel), ?_⟩
  refine ⟨sn_aload_n (k := 0) (dX_aload_0 (by decide +kernel)) rfl (by decide +kernel), ?_⟩
  refine ⟨sn_callV (idx := 145) (C := RX12) (T := TX12) (N := 56) rfl (by decide) cal_178 (pmt7 92 rfl (by decide +kernel)) (pmt7 94 rfl (by decide +kernel)) (pms 45 rfl rfl) (dX_invokevirtual (by decide +kernel)) (by decide +kernel), ?_⟩
  refine ⟨sn_bipush (dX_bipush (by decide +kernel)) (by decide +kernel) (by decide +kernel), ?_⟩
  refine ⟨sn_bipush (dX_bipush (by decide +kernel)) (by decide +kernel) (by decide +kernel), ?_⟩
  refine ⟨sn_callS (idx := 116) cal_169 (pmt7 77 rfl (by decide +kernel)) (pmt7 78 rfl (by decide +kernel)) (dX_invokestatic (by decide +kernel)) (by decide +kernel), ?_⟩
  refine ⟨sn_if_ne (off := 11) (dX_ifne (by decide +kernel)) (by decide +kernel) (by decide +kernel), ?_⟩
  refine ⟨sn_aload_n (k := 0) (dX_aload_0 (by decide +kernel)) rfl (by decide +kernel), ?_⟩
  refine ⟨sn_aload_n (k := 0) (dX_aload_0 (by decide +kernel)) rfl (by decide +kernel), ?_⟩
  refine ⟨sn_getf (C := RX12) (T := TX12) (N := 56) (idx := 135) rfl pin12 (by decide) (by decide) rfl (pmt6 161 rfl (by decide +kernel)) rfl (dX_getfield (by decide +kernel)) (by decide +kernel), ?_⟩
  refine ⟨sn_callV (idx := 153) (C := RX12) (T := TX12) (N := 56) rfl (by decide) cal_180 (pmt7 96 rfl (by decide +kernel)) (pmt7 98 rfl (by decide +kernel)) (pms 46 rfl rfl) (dX_invokevirtual (by decide +kernel)) (by decide +kernel), ?_⟩
  refine ⟨sn_aload_n (k := 0) (dX_aload_0 (by decide +kernel)) rfl (by decide +kernel), ?_⟩
  refine ⟨sn_getf (C := RX12) (T := TX12) (N := 56) (idx := 63) rfl pin12 (by decide) (by decide) rfl (pmt6 174 rfl (by decide +kernel)) rfl (dX_getfield (by decide +kernel)) (by decide +kernel), ?_⟩
  refine ⟨sn_iconst (dX_iconst_2 (by decide +kernel)) (by decide +kernel), ?_⟩
  refine ⟨sn_iload_n (k := 1) (dX_iload_1 (by decide +kernel)) rfl (by decide +kernel), ?_⟩
  refine ⟨sn_imul (dX_imul (by decide +kernel)) (by decide +kernel), ?_⟩
  refine ⟨sn_aload_n (k := 0) (dX_aload_0 (by decide +kernel)) rfl (by decide +kernel), ?_⟩
  refine ⟨sn_callV (idx := 145) (C := RX12) (T := TX12) (N := 56) rfl (by decide) cal_178 (pmt7 92 rfl (by decide +kernel)) (pmt7 94 rfl (by decide +kernel)) (pms 45 rfl rfl) (dX_invokevirtual (by decide +kernel)) (by decide +kernel), ?_⟩
  refine ⟨sn_bipush (dX_bipush (by decide +kernel)) (by decide +kernel) (by decide +kernel), ?_⟩
  refine ⟨sn_isub (dX_isub (by decide +kernel)) (by decide +kernel), ?_⟩
  refine ⟨sn_iast (dX_iastore (by decide +kernel)) (by decide +kernel), ?_⟩
  refine ⟨sn_aload_n (k := 0) (dX_aload_0 (by decide +kernel)) rfl (by decide +kernel), ?_⟩
  refine ⟨sn_dup (dX_dup (by decide +kernel)) (by decide +kernel), ?_⟩
  refine ⟨sn_getf (C := RX12) (T := TX12) (N := 56) (idx := 135) rfl pin12 (by decide) (by decide) rfl (pmt6 161 rfl (by decide +kernel)) rfl (dX_getfield (by decide +kernel)) (by decide +kernel), ?_⟩
  refine ⟨sn_iconst (dX_iconst_1 (by decide +kernel)) (by decide +kernel), ?_⟩
  refine ⟨sn_iadd (dX_iadd (by decide +kernel)) (by decide +kernel), ?_⟩
  refine ⟨sn_puti (C := RX12) (T := TX12) (N := 56) (idx := 135) rfl pin12 (by decide) (by decide) rfl tyX12 tyX12_ok nmX12 rfl rfl (by decide +kernel) (pmt6 161 rfl (by decide +kernel)) rfl (dX_putfield (by decide +kernel)) (by decide +kernel), ?_⟩
  refine ⟨sn_aload_n (k := 0) (dX_aload_0 (by decide +kernel)) rfl (by decide +kernel), ?_⟩
  refine ⟨sn_bipush (dX_bipush (by decide +kernel)) (by decide +kernel) (by decide +kernel), ?_⟩
  refine ⟨sn_callV (idx := 168) (C := RX12) (T := TX12) (N := 56) rfl (by decide) cal_182 (pmt7 104 rfl (by decide +kernel)) (pmt7 106 rfl (by decide +kernel)) (pms 48 rfl rfl) (dX_invokevirtual (by decide +kernel)) (by decide +kernel), ?_⟩
  refine ⟨sn_aload_n (k := 0) (dX_aload_0 (by decide +kernel)) rfl (by decide +kernel), ?_⟩
  refine ⟨sn_getf (C := RX12) (T := TX12) (N := 56) (idx := 63) rfl pin12 (by decide) (by decide) rfl (pmt6 174 rfl (by decide +kernel)) rfl (dX_getfield (by decide +kernel)) (by decide +kernel), ?_⟩
  refine ⟨sn_iconst (dX_iconst_2 (by decide +kernel)) (by decide +kernel), ?_⟩
  refine ⟨sn_iload_n (k := 1) (dX_iload_1 (by decide +kernel)) rfl (by decide +kernel), ?_⟩
  refine ⟨sn_imul (dX_imul (by decide +kernel)) (by decide +kernel), ?_⟩
  refine ⟨sn_iconst (dX_iconst_1 (by decide +kernel)) (by decide +kernel), ?_⟩
  refine ⟨sn_iadd (dX_iadd (by decide +kernel)) (by decide +kernel), ?_⟩
  refine ⟨sn_aload_n (k := 0) (dX_aload_0 (by decide +kernel)) rfl (by decide +kernel), ?_⟩
  refine ⟨sn_iconst (dX_iconst_1 (by decide +kernel)) (by decide +kernel), ?_⟩
  refine ⟨sn_iconst (dX_iconst_0 (by decide +kernel)) (by decide +kernel), ?_⟩
  refine ⟨sn_bipush (dX_bipush (by decide +kernel)) (by decide +kernel) (by decide +kernel), ?_⟩
  refine ⟨sn_callV (idx := 164) (C := RX12) (T := TX12) (N := 56) rfl (by decide) cal_183 (pmt7 100 rfl (by decide +kernel)) (pmt7 102 rfl (by decide +kernel)) (pms 47 rfl rfl) (dX_invokevirtual (by decide +kernel)) (by decide +kernel), ?_⟩
  refine ⟨sn_iast (dX_iastore (by decide +kernel)) (by decide +kernel), ?_⟩
  refine ⟨sn_iinc (dX_iinc (by decide +kernel)) (by decide) (by decide +kernel), ?_⟩
  refine ⟨sn_aload_n (k := 0) (dX_aload_0 (by decide +kernel)) rfl (by decide +kernel), ?_⟩
  refine ⟨sn_bipush (dX_bipush (by decide +kernel)) (by decide +kernel) (by decide +kernel), ?_⟩
  refine ⟨sn_callV (idx := 149) (C := RX12) (T := TX12) (N := 56) rfl (by decide) cal_181 (pmt7 108 rfl (by decide +kernel)) (pmt7 110 rfl (by decide +kernel)) (pms 49 rfl rfl) (dX_invokevirtual (by decide +kernel)) (by decide +kernel), ?_⟩
  refine ⟨sn_istore_n (k := 2) (dX_istore_2 (by decide +kernel)) rfl (by decide) (by decide +kernel), ?_⟩
  refine ⟨sn_goto (off := -92) (dX_goto (by decide +kernel)) (by decide +kernel), ?_⟩
  refine ⟨sn_aload_n (k := 0) (dX_aload_0 (by decide +kernel)) rfl (by decide +kernel), ?_⟩
  refine ⟨sn_getf (C := RX12) (T := TX12) (N := 56) (idx := 135) rfl pin12 (by decide) (by decide) rfl (pmt6 161 rfl (by decide +kernel)) rfl (dX_getfield (by decide +kernel)) (by decide +kernel), ?_⟩
  refine ⟨sn_aload_n (k := 0) (dX_aload_0 (by decide +kernel)) rfl (by decide +kernel), ?_⟩
  refine ⟨sn_getf (C := RX12) (T := TX12) (N := 56) (idx := 129) rfl pin12 (by decide) (by decide) rfl (pmt6 159 rfl (by decide +kernel)) rfl (dX_getfield (by decide +kernel)) (by decide +kernel), ?_⟩
  refine ⟨sn_icmp_ge (off := 11) (dX_if_icmpge (by decide +kernel)) (by decide +kernel) (by decide +kernel), ?_⟩
  refine ⟨sn_aload_n (k := 0) (dX_aload_0 (by decide +kernel)) rfl (by decide +kernel), ?_⟩
  refine ⟨sn_aload_n (k := 0) (dX_aload_0 (by decide +kernel)) rfl (by decide +kernel), ?_⟩
  refine ⟨sn_getf (C := RX12) (T := TX12) (N := 56) (idx := 135) rfl pin12 (by decide) (by decide) rfl (pmt6 161 rfl (by decide +kernel)) rfl (dX_getfield (by decide +kernel)) (by decide +kernel), ?_⟩
  refine ⟨sn_callV (idx := 153) (C := RX12) (T := TX12) (N := 56) rfl (by decide) cal_180 (pmt7 96 rfl (by decide +kernel)) (pmt7 98 rfl (by decide +kernel)) (pms 46 rfl rfl) (dX_invokevirtual (by decide +kernel)) (by decide +kernel), ?_⟩
  refine ⟨sn_aload_n (k := 0) (dX_aload_0 (by decide +kernel)) rfl (by decide +kernel), ?_⟩
  refine ⟨sn_callV (idx := 141) (C := RX12) (T := TX12) (N := 56) rfl (by decide) cal_179 (pmt7 88 rfl (by decide +kernel)) (pmt7 90 rfl (by decide +kernel)) (pms 44 rfl rfl) (dX_invokevirtual (by decide +kernel)) (by decide +kernel), ?_⟩
  refine ⟨sn_if_ne (off := 10) (dX_ifne (by decide +kernel)) (by decide +kernel) (by decide +kernel), ?_⟩
  refine ⟨sn_iconst (dX_iconst_m1 (by decide +kernel)) (by decide +kernel), ?_⟩
  refine ⟨sn_aload_n (k := 0) (dX_aload_0 (by decide +kernel)) rfl (by decide +kernel), ?_⟩
  refine ⟨sn_getf (C := RX12) (T := TX12) (N := 56) (idx := 138) rfl pin12 (by decide) (by decide) rfl (pmt6 162 rfl (by decide +kernel)) rfl (dX_getfield (by decide +kernel)) (by decide +kernel), ?_⟩
  refine ⟨sn_isub (dX_isub (by decide +kernel)) (by decide +kernel), ?_⟩
  refine ⟨sn_iret rfl (dX_ireturn (by decide +kernel)), ?_⟩
  refine ⟨sn_iconst (dX_iconst_0 (by decide +kernel)) (by decide +kernel), ?_⟩
  refine ⟨sn_istore_n (k := 3) (dX_istore_3 (by decide +kernel)) rfl (by decide) (by decide +kernel), ?_⟩
  refine ⟨sn_iconst (dX_iconst_0 (by decide +kernel)) (by decide +kernel), ?_⟩
  refine ⟨sn_istore (dX_istore (by decide +kernel)) (by decide) (by decide +kernel), ?_⟩
  refine ⟨sn_iload_n (k := 3) (dX_iload_3 (by decide +kernel)) rfl (by decide +kernel), ?_⟩
  refine ⟨sn_iload_n (k := 1) (dX_iload_1 (by decide +kernel)) rfl (by decide +kernel), ?_⟩
  refine ⟨sn_icmp_ge (off := 73) (dX_if_icmpge (by decide +kernel)) (by decide +kernel) (by decide +kernel), ?_⟩
  refine ⟨sn_aload_n (k := 0) (dX_aload_0 (by decide +kernel)) rfl (by decide +kernel), ?_⟩
  refine ⟨sn_aload_n (k := 0) (dX_aload_0 (by decide +kernel)) rfl (by decide +kernel), ?_⟩
  refine ⟨sn_getf (C := RX12) (T := TX12) (N := 56) (idx := 63) rfl pin12 (by decide) (by decide) rfl (pmt6 174 rfl (by decide +kernel)) rfl (dX_getfield (by decide +kernel)) (by decide +kernel), ?_⟩
  refine ⟨sn_iconst (dX_iconst_2 (by decide +kernel)) (by decide +kernel), ?_⟩
  refine ⟨sn_iload_n (k := 3) (dX_iload_3 (by decide +kernel)) rfl (by decide +kernel), ?_⟩
  refine ⟨sn_imul (dX_imul (by decide +kernel)) (by decide +kernel), ?_⟩
  refine ⟨sn_iald (dX_iaload (by decide +kernel)) (by decide +kernel), ?_⟩
  refine ⟨sn_aload_n (k := 0) (dX_aload_0 (by decide +kernel)) rfl (by decide +kernel), ?_⟩
  refine ⟨sn_getf (C := RX12) (T := TX12) (N := 56) (idx := 63) rfl pin12 (by decide) (by decide) rfl (pmt6 174 rfl (by decide +kernel)) rfl (dX_getfield (by decide +kernel)) (by decide +kernel), ?_⟩
  refine ⟨sn_iconst (dX_iconst_2 (by decide +kernel)) (by decide +kernel), ?_⟩
  refine ⟨sn_iload_n (k := 3) (dX_iload_3 (by decide +kernel)) rfl (by decide +kernel), ?_⟩
  refine ⟨sn_imul (dX_imul (by decide +kernel)) (by decide +kernel), ?_⟩
  refine ⟨sn_iconst (dX_iconst_1 (by decide +kernel)) (by decide +kernel), ?_⟩
  refine ⟨sn_iadd (dX_iadd (by decide +kernel)) (by decide +kernel), ?_⟩
  refine ⟨sn_iald (dX_iaload (by decide +kernel)) (by decide +kernel), ?_⟩
  refine ⟨sn_callV (idx := 278) (C := RX12) (T := TX12) (N := 56) rfl (by decide) cal_213 (pmt7 218 rfl (by decide +kernel)) (pmt7 220 rfl (by decide +kernel)) (pms 66 rfl rfl) (dX_invokevirtual (by decide +kernel)) (by decide +kernel), ?_⟩
  refine ⟨sn_if_ne (off := 48) (dX_ifne (by decide +kernel)) (by decide +kernel) (by decide +kernel), ?_⟩
  refine ⟨sn_aload_n (k := 0) (dX_aload_0 (by decide +kernel)) rfl (by decide +kernel), ?_⟩
  refine ⟨sn_aload_n (k := 0) (dX_aload_0 (by decide +kernel)) rfl (by decide +kernel), ?_⟩
  refine ⟨sn_getf (C := RX12) (T := TX12) (N := 56) (idx := 63) rfl pin12 (by decide) (by decide) rfl (pmt6 174 rfl (by decide +kernel)) rfl (dX_getfield (by decide +kernel)) (by decide +kernel), ?_⟩
  refine ⟨sn_iconst (dX_iconst_2 (by decide +kernel)) (by decide +kernel), ?_⟩
  refine ⟨sn_iload_n (k := 3) (dX_iload_3 (by decide +kernel)) rfl (by decide +kernel), ?_⟩
  refine ⟨sn_imul (dX_imul (by decide +kernel)) (by decide +kernel), ?_⟩
  refine ⟨sn_iald (dX_iaload (by decide +kernel)) (by decide +kernel), ?_⟩
  refine ⟨sn_callV (idx := 281) (C := RX12) (T := TX12) (N := 56) rfl (by decide) cal_215 (pmt7 231 rfl (by decide +kernel)) (pmt7 233 rfl (by decide +kernel)) (pms 69 rfl rfl) (dX_invokevirtual (by decide +kernel)) (by decide +kernel), ?_⟩
  refine ⟨sn_iload (dX_iload (by decide +kernel)) (by decide +kernel), ?_⟩
  refine ⟨sn_aload_n (k := 0) (dX_aload_0 (by decide +kernel)) rfl (by decide +kernel), ?_⟩
  refine ⟨sn_aload_n (k := 0) (dX_aload_0 (by decide +kernel)) rfl (by decide +kernel), ?_⟩
  refine ⟨sn_getf (C := RX12) (T := TX12) (N := 56) (idx := 63) rfl pin12 (by decide) (by decide) rfl (pmt6 174 rfl (by decide +kernel)) rfl (dX_getfield (by decide +kernel)) (by decide +kernel), ?_⟩
  refine ⟨sn_iconst (dX_iconst_2 (by decide +kernel)) (by decide +kernel), ?_⟩
  refine ⟨sn_iload_n (k := 3) (dX_iload_3 (by decide +kernel)) rfl (by decide +kernel), ?_⟩
  refine ⟨sn_imul (dX_imul (by decide +kernel)) (by decide +kernel), ?_⟩
  refine ⟨sn_iald (dX_iaload (by decide +kernel)) (by decide +kernel), ?_⟩
  refine ⟨sn_aload_n (k := 0) (dX_aload_0 (by decide +kernel)) rfl (by decide +kernel), ?_⟩
  refine ⟨sn_getf (C := RX12) (T := TX12) (N := 56) (idx := 63) rfl pin12 (by decide) (by decide) rfl (pmt6 174 rfl (by decide +kernel)) rfl (dX_getfield (by decide +kernel)) (by decide +kernel), ?_⟩
  refine ⟨sn_iconst (dX_iconst_2 (by decide +kernel)) (by decide +kernel), ?_⟩
  refine ⟨sn_iload_n (k := 3) (dX_iload_3 (by decide +kernel)) rfl (by decide +kernel), ?_⟩
  refine ⟨sn_imul (dX_imul (by decide +kernel)) (by decide +kernel), ?_⟩
  refine ⟨sn_iconst (dX_iconst_1 (by decide +kernel)) (by decide +kernel), ?_⟩
  refine ⟨sn_iadd (dX_iadd (by decide +kernel)) (by decide +kernel), ?_⟩
  refine ⟨sn_iald (dX_iaload (by decide +kernel)) (by decide +kernel), ?_⟩
  refine ⟨sn_callV (idx := 284) (C := RX12) (T := TX12) (N := 56) rfl (by decide) cal_214 (pmt7 235 rfl (by decide +kernel)) (pmt7 237 rfl (by decide +kernel)) (pms 70 rfl rfl) (dX_invokevirtual (by decide +kernel)) (by decide +kernel), ?_⟩
  refine ⟨sn_iadd (dX_iadd (by decide +kernel)) (by decide +kernel), ?_⟩
  refine ⟨sn_istore (dX_istore (by decide +kernel)) (by decide) (by decide +kernel), ?_⟩
  refine ⟨sn_iinc (dX_iinc (by decide +kernel)) (by decide) (by decide +kernel), ?_⟩
  refine ⟨sn_goto (off := -72) (dX_goto (by decide +kernel)) (by decide +kernel), ?_⟩
  refine ⟨sn_aload_n (k := 0) (dX_aload_0 (by decide +kernel)) rfl (by decide +kernel), ?_⟩
  refine ⟨sn_iconst (dX_iconst_0 (by decide +kernel)) (by decide +kernel), ?_⟩
  refine ⟨sn_puti (C := RX12) (T := TX12) (N := 56) (idx := 110) rfl pin12 (by decide) (by decide) rfl tyX12 tyX12_ok nmX12 rfl rfl (by decide +kernel) (pmt6 156 rfl (by decide +kernel)) rfl (dX_putfield (by decide +kernel)) (by decide +kernel), ?_⟩
  refine ⟨sn_aload_n (k := 0) (dX_aload_0 (by decide +kernel)) rfl (by decide +kernel), ?_⟩
  refine ⟨sn_iload_n (k := 3) (dX_iload_3 (by decide +kernel)) rfl (by decide +kernel), ?_⟩
  refine ⟨sn_iload_n (k := 1) (dX_iload_1 (by decide +kernel)) rfl (by decide +kernel), ?_⟩
  refine ⟨sn_icmp_ge (off := 7) (dX_if_icmpge (by decide +kernel)) (by decide +kernel) (by decide +kernel), ?_⟩
  refine ⟨sn_iconst (dX_iconst_m1 (by decide +kernel)) (by decide +kernel), ?_⟩
  refine ⟨sn_goto (off := 15) (dX_goto (by decide +kernel)) (by decide +kernel), ?_⟩
  refine ⟨sn_aload_n (k := 0) (dX_aload_0 (by decide +kernel)) rfl (by decide +kernel), ?_⟩
  refine ⟨sn_callV (idx := 297) (C := RX12) (T := TX12) (N := 56) rfl (by decide) cal_217 (pmt8 16 rfl (by decide +kernel)) (pmt8 18 rfl (by decide +kernel)) (pms 74 rfl rfl) (dX_invokevirtual (by decide +kernel)) (by decide +kernel), ?_⟩
  refine ⟨sn_if_eq (off := 7) (dX_ifeq (by decide +kernel)) (by decide +kernel) (by decide +kernel), ?_⟩
  refine ⟨sn_iconst (dX_iconst_1 (by decide +kernel)) (by decide +kernel), ?_⟩
  refine ⟨sn_goto (off := 4) (dX_goto (by decide +kernel)) (by decide +kernel), ?_⟩
  refine ⟨sn_iconst (dX_iconst_0 (by decide +kernel)) (by decide +kernel), ?_⟩
  refine ⟨sn_callV (idx := 294) (C := RX12) (T := TX12) (N := 56) rfl (by decide) cal_172 (pmt8 12 rfl (by decide +kernel)) (pmt8 14 rfl (by decide +kernel)) (pms 73 rfl rfl) (dX_invokevirtual (by decide +kernel)) (by decide +kernel), ?_⟩
  refine ⟨sn_aload_n (k := 0) (dX_aload_0 (by decide +kernel)) rfl (by decide +kernel), ?_⟩
  refine ⟨sn_iload (dX_iload (by decide +kernel)) (by decide +kernel), ?_⟩
  refine ⟨sn_callV (idx := 294) (C := RX12) (T := TX12) (N := 56) rfl (by decide) cal_172 (pmt8 12 rfl (by decide +kernel)) (pmt8 14 rfl (by decide +kernel)) (pms 73 rfl rfl) (dX_invokevirtual (by decide +kernel)) (by decide +kernel), ?_⟩
  refine ⟨sn_iload_n (k := 3) (dX_iload_3 (by decide +kernel)) rfl (by decide +kernel), ?_⟩
  refine ⟨sn_iret rfl (dX_ireturn (by decide +kernel)), ?_⟩
  trivial
