/-! each step is sound (by program) -/
set_option maxRecDepth 100000 in
set_option maxHeartbeats 4000000 in
theorem S_0 : pAll (pSk RX11 cX11_sign 2 (some .int) PC_0) 0 C_0 := by
  refine ⟨sn_aload_n (k := 0) (dX_aload_0 (by decide +kernel)) rfl (by decide +kernel), ?_⟩
  refine ⟨sn_getf (C := RX11) (T := TX11) (N := 18) (idx := 10) rfl pin11 (by decide) (by decide) rfl (pmt2 120 rfl (by decide +kernel)) rfl (dX_getfield (by decide +kernel)) (by decide +kernel), ?_⟩
  refine ⟨sn_iload_n (k := 1) (dX_iload_1 (by decide +kernel)) rfl (by decide +kernel), ?_⟩
  refine ⟨sn_callV (idx := 104) (C := RX8) (T := TX8) (N := 2) rfl (by decide) cal_152 (pmt2 179 rfl (by decide +kernel)) (pmt2 180 rfl (by decide +kernel)) (pmt2 181 rfl (by decide +kernel)) (dX_invokevirtual (by decide +kernel)) (by decide +kernel), ?_⟩
  refine ⟨sn_if_eq (off := 13) (dX_ifeq (by decide +kernel)) (by decide +kernel) (by decide +kernel), ?_⟩
  refine ⟨sn_aload_n (k := 0) (dX_aload_0 (by decide +kernel)) rfl (by decide +kernel), ?_⟩
  refine ⟨sn_getf (C := RX11) (T := TX11) (N := 18) (idx := 10) rfl pin11 (by decide) (by decide) rfl (pmt2 120 rfl (by decide +kernel)) rfl (dX_getfield (by decide +kernel)) (by decide +kernel), ?_⟩
  refine ⟨sn_getf (C := RX8) (T := TX8) (N := 2) (idx := 108) rfl pin8 (by decide) (by decide) rfl (pmt1 43 rfl (by decide +kernel)) rfl (dX_getfield (by decide +kernel)) (by decide +kernel), ?_⟩
  refine ⟨sn_goto (off := 4) (dX_goto (by decide +kernel)) (by decide +kernel), ?_⟩
  refine ⟨sn_iconst (dX_iconst_m1 (by decide +kernel)) (by decide +kernel), ?_⟩
  refine ⟨sn_iret rfl (dX_ireturn (by decide +kernel)), ?_⟩
  trivial
set_option maxRecDepth 100000 in
set_option maxHeartbeats 4000000 in
theorem S_1 : pAll (pSk RX11 cX11_end 2 (some .boolean) PC_1) 0 C_1 := by
  refine ⟨sn_aload_n (k := 0) (dX_aload_0 (by decide +kernel)) rfl (by decide +kernel), ?_⟩
  refine ⟨sn_getf (C := RX11) (T := TX11) (N := 18) (idx := 10) rfl pin11 (by decide) (by decide) rfl (pmt2 120 rfl (by decide +kernel)) rfl (dX_getfield (by decide +kernel)) (by decide +kernel), ?_⟩
  refine ⟨sn_iload_n (k := 1) (dX_iload_1 (by decide +kernel)) rfl (by decide +kernel), ?_⟩
  refine ⟨sn_callV (idx := 111) (C := RX8) (T := TX8) (N := 2) rfl (by decide) cal_153 (pmt2 187 rfl (by decide +kernel)) (pmt2 188 rfl (by decide +kernel)) (pmt2 189 rfl (by decide +kernel)) (dX_invokevirtual (by decide +kernel)) (by decide +kernel), ?_⟩
  refine ⟨sn_zret (Or.inl rfl) (dX_ireturn (by decide +kernel)), ?_⟩
  trivial
set_option maxRecDepth 100000 in
set_option maxHeartbeats 4000000 in
theorem S_2 : pAll (pSk RX11 cX11_house 2 (some .int) PC_2) 0 C_2 := by
  refine ⟨sn_aload_n (k := 0) (dX_aload_0 (by decide +kernel)) rfl (by decide +kernel), ?_⟩
  refine ⟨sn_getf (C := RX11) (T := TX11) (N := 18) (idx := 10) rfl pin11 (by decide) (by decide) rfl (pmt2 120 rfl (by decide +kernel)) rfl (dX_getfield (by decide +kernel)) (by decide +kernel), ?_⟩
  refine ⟨sn_getf (C := RX8) (T := TX8) (N := 2) (idx := 108) rfl pin8 (by decide) (by decide) rfl (pmt1 43 rfl (by decide +kernel)) rfl (dX_getfield (by decide +kernel)) (by decide +kernel), ?_⟩
  refine ⟨sn_if_ne (off := 5) (dX_ifne (by decide +kernel)) (by decide +kernel) (by decide +kernel), ?_⟩
  refine ⟨sn_iconst (dX_iconst_0 (by decide +kernel)) (by decide +kernel), ?_⟩
  refine ⟨sn_iret rfl (dX_ireturn (by decide +kernel)), ?_⟩
  refine ⟨sn_aload_n (k := 0) (dX_aload_0 (by decide +kernel)) rfl (by decide +kernel), ?_⟩
  refine ⟨sn_getf (C := RX11) (T := TX11) (N := 18) (idx := 48) rfl pin11 (by decide) (by decide) rfl (pmt2 125 rfl (by decide +kernel)) rfl (dX_getfield (by decide +kernel)) (by decide +kernel), ?_⟩
  refine ⟨sn_aload_n (k := 0) (dX_aload_0 (by decide +kernel)) rfl (by decide +kernel), ?_⟩
  refine ⟨sn_getf (C := RX11) (T := TX11) (N := 18) (idx := 44) rfl pin11 (by decide) (by decide) rfl (pmt2 124 rfl (by decide +kernel)) rfl (dX_getfield (by decide +kernel)) (by decide +kernel), ?_⟩
  refine ⟨sn_callV (idx := 114) (C := RX0) (T := TX0) (N := 13) rfl (by decide) cal_62 (pmt2 195 rfl (by decide +kernel)) (pmt2 196 rfl (by decide +kernel)) (pmt2 197 rfl (by decide +kernel)) (dX_invokevirtual (by decide +kernel)) (by decide +kernel), ?_⟩
  refine ⟨sn_aload_n (k := 0) (dX_aload_0 (by decide +kernel)) rfl (by decide +kernel), ?_⟩
  refine ⟨sn_getf (C := RX11) (T := TX11) (N := 18) (idx := 30) rfl pin11 (by decide) (by decide) rfl (pmt2 122 rfl (by decide +kernel)) rfl (dX_getfield (by decide +kernel)) (by decide +kernel), ?_⟩
  refine ⟨sn_aload_n (k := 0) (dX_aload_0 (by decide +kernel)) rfl (by decide +kernel), ?_⟩
  refine ⟨sn_getf (C := RX11) (T := TX11) (N := 18) (idx := 48) rfl pin11 (by decide) (by decide) rfl (pmt2 125 rfl (by decide +kernel)) rfl (dX_getfield (by decide +kernel)) (by decide +kernel), ?_⟩
  refine ⟨sn_callV (idx := 118) (C := RX1) (T := TX1) (N := 1) rfl (by decide) cal_107 (pmt2 202 rfl (by decide +kernel)) (pmt2 203 rfl (by decide +kernel)) (pmt2 204 rfl (by decide +kernel)) (dX_invokevirtual (by decide +kernel)) (by decide +kernel), ?_⟩
  refine ⟨sn_istore_n (k := 1) (dX_istore_1 (by decide +kernel)) rfl (by decide) (by decide +kernel), ?_⟩
  refine ⟨sn_aload_n (k := 0) (dX_aload_0 (by decide +kernel)) rfl (by decide +kernel), ?_⟩
  refine ⟨sn_getf (C := RX11) (T := TX11) (N := 18) (idx := 10) rfl pin11 (by decide) (by decide) rfl (pmt2 120 rfl (by decide +kernel)) rfl (dX_getfield (by decide +kernel)) (by decide +kernel), ?_⟩
  refine ⟨sn_iconst (dX_iconst_0 (by decide +kernel)) (by decide +kernel), ?_⟩
  refine ⟨sn_callV (idx := 111) (C := RX8) (T := TX8) (N := 2) rfl (by decide) cal_153 (pmt2 187 rfl (by decide +kernel)) (pmt2 188 rfl (by decide +kernel)) (pmt2 189 rfl (by decide +kernel)) (dX_invokevirtual (by decide +kernel)) (by decide +kernel), ?_⟩
  refine ⟨sn_pop (dX_pop (by decide +kernel)) (by decide +kernel), ?_⟩
  refine ⟨sn_iload_n (k := 1) (dX_iload_1 (by decide +kernel)) rfl (by decide +kernel), ?_⟩
  refine ⟨sn_if_lt (off := 28) (dX_iflt (by decide +kernel)) (by decide +kernel) (by decide +kernel), ?_⟩
  refine ⟨sn_aload_n (k := 0) (dX_aload_0 (by decide +kernel)) rfl (by decide +kernel), ?_⟩
  refine ⟨sn_getf (C := RX11) (T := TX11) (N := 18) (idx := 44) rfl pin11 (by decide) (by decide) rfl (pmt2 124 rfl (by decide +kernel)) rfl (dX_getfield (by decide +kernel)) (by decide +kernel), ?_⟩
  refine ⟨sn_aload_n (k := 0) (dX_aload_0 (by decide +kernel)) rfl (by decide +kernel), ?_⟩
  refine ⟨sn_getf (C := RX11) (T := TX11) (N := 18) (idx := 48) rfl pin11 (by decide) (by decide) rfl (pmt2 125 rfl (by decide +kernel)) rfl (dX_getfield (by decide +kernel)) (by decide +kernel), ?_⟩
  refine ⟨sn_callV (idx := 114) (C := RX0) (T := TX0) (N := 13) rfl (by decide) cal_62 (pmt2 195 rfl (by decide +kernel)) (pmt2 196 rfl (by decide +kernel)) (pmt2 197 rfl (by decide +kernel)) (dX_invokevirtual (by decide +kernel)) (by decide +kernel), ?_⟩
  refine ⟨sn_aload_n (k := 0) (dX_aload_0 (by decide +kernel)) rfl (by decide +kernel), ?_⟩
  refine ⟨sn_getf (C := RX11) (T := TX11) (N := 18) (idx := 44) rfl pin11 (by decide) (by decide) rfl (pmt2 124 rfl (by decide +kernel)) rfl (dX_getfield (by decide +kernel)) (by decide +kernel), ?_⟩
  refine ⟨sn_callV (idx := 122) (C := RX0) (T := TX0) (N := 13) rfl (by decide) cal_98 (pmt3 57 rfl (by decide +kernel)) (pmt3 58 rfl (by decide +kernel)) (pmt3 59 rfl (by decide +kernel)) (dX_invokevirtual (by decide +kernel)) (by decide +kernel), ?_⟩
  refine ⟨sn_aload_n (k := 0) (dX_aload_0 (by decide +kernel)) rfl (by decide +kernel), ?_⟩
  refine ⟨sn_getf (C := RX11) (T := TX11) (N := 18) (idx := 68) rfl pin11 (by decide) (by decide) rfl (pmt2 128 rfl (by decide +kernel)) rfl (dX_getfield (by decide +kernel)) (by decide +kernel), ?_⟩
  refine ⟨sn_callV (idx := 125) (C := RX5) (T := TX5) (N := 4) rfl (by decide) cal_129 (pmt3 80 rfl (by decide +kernel)) (pmt3 81 rfl (by decide +kernel)) (pmt3 82 rfl (by decide +kernel)) (dX_invokevirtual (by decide +kernel)) (by decide +kernel), ?_⟩
  refine ⟨sn_iload_n (k := 1) (dX_iload_1 (by decide +kernel)) rfl (by decide +kernel), ?_⟩
  refine ⟨sn_iret rfl (dX_ireturn (by decide +kernel)), ?_⟩
  trivial
set_option maxRecDepth 100000 in
set_option maxHeartbeats 4000000 in
theorem S_3 : pAll (pSk RX11 cX11_rule 2 (some .int) PC_3) 0 C_3 := by
  refine ⟨sn_aload_n (k := 0) (dX_aload_0 (by decide +kernel)) rfl (by decide +kernel), ?_⟩
  refine ⟨sn_getf (C := RX11) (T := TX11) (N := 18) (idx := 54) rfl pin11 (by decide) (by decide) rfl (pmt2 126 rfl (by decide +kernel)) rfl (dX_getfield (by decide +kernel)) (by decide +kernel), ?_⟩
  refine ⟨sn_aload_n (k := 0) (dX_aload_0 (by decide +kernel)) rfl (by decide +kernel), ?_⟩
  refine ⟨sn_getf (C := RX11) (T := TX11) (N := 18) (idx := 21) rfl pin11 (by decide) (by decide) rfl (pmt2 121 rfl (by decide +kernel)) rfl (dX_getfield (by decide +kernel)) (by decide +kernel), ?_⟩
  refine ⟨sn_callV (idx := 128) (C := RX7) (T := TX7) (N := 3) rfl (by decide) cal_143 (pmt3 88 rfl (by decide +kernel)) (pmt3 89 rfl (by decide +kernel)) (pmt3 90 rfl (by decide +kernel)) (dX_invokevirtual (by decide +kernel)) (by decide +kernel), ?_⟩
  refine ⟨sn_istore_n (k := 1) (dX_istore_1 (by decide +kernel)) rfl (by decide) (by decide +kernel), ?_⟩
  refine ⟨sn_iload_n (k := 1) (dX_iload_1 (by decide +kernel)) rfl (by decide +kernel), ?_⟩
  refine ⟨sn_iconst (dX_iconst_m1 (by decide +kernel)) (by decide +kernel), ?_⟩
  refine ⟨sn_icmp_ne (off := 17) (dX_if_icmpne (by decide +kernel)) (by decide +kernel) (by decide +kernel), ?_⟩
  refine ⟨sn_aload_n (k := 0) (dX_aload_0 (by decide +kernel)) rfl (by decide +kernel), ?_⟩
  refine ⟨sn_getf (C := RX11) (T := TX11) (N := 18) (idx := 54) rfl pin11 (by decide) (by decide) rfl (pmt2 126 rfl (by decide +kernel)) rfl (dX_getfield (by decide +kernel)) (by decide +kernel), ?_⟩
  refine ⟨sn_getf (C := RX7) (T := TX7) (N := 3) (idx := 132) rfl pin7 (by decide) (by decide) rfl (pmt1 189 rfl (by decide +kernel)) rfl (dX_getfield (by decide +kernel)) (by decide +kernel), ?_⟩
  refine ⟨sn_aload_n (k := 0) (dX_aload_0 (by decide +kernel)) rfl (by decide +kernel), ?_⟩
  refine ⟨sn_getf (C := RX11) (T := TX11) (N := 18) (idx := 10) rfl pin11 (by decide) (by decide) rfl (pmt2 120 rfl (by decide +kernel)) rfl (dX_getfield (by decide +kernel)) (by decide +kernel), ?_⟩
  refine ⟨sn_callV (idx := 135) (C := RX8) (T := TX8) (N := 2) rfl (by decide) cal_155 (pmt3 213 rfl (by decide +kernel)) (pmt3 214 rfl (by decide +kernel)) (pmt3 215 rfl (by decide +kernel)) (dX_invokevirtual (by decide +kernel)) (by decide +kernel), ?_⟩
  refine ⟨sn_aload_n (k := 0) (dX_aload_0 (by decide +kernel)) rfl (by decide +kernel), ?_⟩
  refine ⟨sn_getf (C := RX11) (T := TX11) (N := 18) (idx := 10) rfl pin11 (by decide) (by decide) rfl (pmt2 120 rfl (by decide +kernel)) rfl (dX_getfield (by decide +kernel)) (by decide +kernel), ?_⟩
  refine ⟨sn_iconst (dX_iconst_0 (by decide +kernel)) (by decide +kernel), ?_⟩
  refine ⟨sn_callV (idx := 111) (C := RX8) (T := TX8) (N := 2) rfl (by decide) cal_153 (pmt2 187 rfl (by decide +kernel)) (pmt2 188 rfl (by decide +kernel)) (pmt2 189 rfl (by decide +kernel)) (dX_invokevirtual (by decide +kernel)) (by decide +kernel), ?_⟩
  refine ⟨sn_pop (dX_pop (by decide +kernel)) (by decide +kernel), ?_⟩
  refine ⟨sn_iload_n (k := 1) (dX_iload_1 (by decide +kernel)) rfl (by decide +kernel), ?_⟩
  refine ⟨sn_iconst (dX_iconst_m1 (by decide +kernel)) (by decide +kernel), ?_⟩
  refine ⟨sn_icmp_ne (off := 7) (dX_if_icmpne (by decide +kernel)) (by decide +kernel) (by decide +kernel), ?_⟩
  refine ⟨sn_iconst (dX_iconst_0 (by decide +kernel)) (by decide +kernel), ?_⟩
  refine ⟨sn_goto (off := 6) (dX_goto (by decide +kernel)) (by decide +kernel), ?_⟩
  refine ⟨sn_iconst (dX_iconst_m1 (by decide +kernel)) (by decide +kernel), ?_⟩
  refine ⟨sn_iload_n (k := 1) (dX_iload_1 (by decide +kernel)) rfl (by decide +kernel), ?_⟩
  refine ⟨sn_isub (dX_isub (by decide +kernel)) (by decide +kernel), ?_⟩
  refine ⟨sn_iret rfl (dX_ireturn (by decide +kernel)), ?_⟩
  trivial
set_option maxRecDepth 100000 in
set_option maxHeartbeats 4000000 in
theorem S_4 : pAll (pSk RX11 cX11_room 3 (some .int) PC_4) 0 C_4 := by
  refine ⟨sn_aload_n (k := 0) (dX_aload_0 (by decide +kernel)) rfl (by decide +kernel), ?_⟩
  refine ⟨sn_getf (C := RX11) (T := TX11) (N := 18) (idx := 44) rfl pin11 (by decide) (by decide) rfl (pmt2 124 rfl (by decide +kernel)) rfl (dX_getfield (by decide +kernel)) (by decide +kernel), ?_⟩
  refine ⟨sn_iload_n (k := 1) (dX_iload_1 (by decide +kernel)) rfl (by decide +kernel), ?_⟩
  refine ⟨sn_callV (idx := 137) (C := RX0) (T := TX0) (N := 13) rfl (by decide) cal_63 (pmt4 23 rfl (by decide +kernel)) (pmt3 25 rfl (by decide +kernel)) (pmt3 26 rfl (by decide +kernel)) (dX_invokevirtual (by decide +kernel)) (by decide +kernel), ?_⟩
  refine ⟨sn_if_eq (off := 12) (dX_ifeq (by decide +kernel)) (by decide +kernel) (by decide +kernel), ?_⟩
  refine ⟨sn_iload_n (k := 2) (dX_iload_2 (by decide +kernel)) rfl (by decide +kernel), ?_⟩
  refine ⟨sn_if_lt (off := 8) (dX_iflt (by decide +kernel)) (by decide +kernel) (by decide +kernel), ?_⟩
  refine ⟨sn_iload_n (k := 2) (dX_iload_2 (by decide +kernel)) rfl (by decide +kernel), ?_⟩
  refine ⟨sn_iconst (dX_iconst_3 (by decide +kernel)) (by decide +kernel), ?_⟩
  refine ⟨sn_icmp_le (off := 13) (dX_if_icmple (by decide +kernel)) (by decide +kernel) (by decide +kernel), ?_⟩
  refine ⟨sn_none, ?_⟩
  refine ⟨sn_dup (dX_dup (by decide +kernel)) (by decide +kernel), ?_⟩
  refine ⟨sn_none, ?_⟩
  refine ⟨sn_none, ?_⟩
  refine ⟨sn_none, ?_⟩
  refine ⟨sn_iload_n (k := 2) (dX_iload_2 (by decide +kernel)) rfl (by decide +kernel), ?_⟩
  refine ⟨sn_sw (dflt := 77) (lo := 0) (hi := 2) (offs := #[25, 35, 51]) (len := 25) (by decide +kernel) (by decide) (by decide +kernel) (p_sw_all (by decide +kernel)) (by decide +kernel), ?_⟩
  refine ⟨sn_aload_n (k := 0) (dX_aload_0 (by decide +kernel)) rfl (by decide +kernel), ?_⟩
  refine ⟨sn_getf (C := RX11) (T := TX11) (N := 18) (idx := 44) rfl pin11 (by decide) (by decide) rfl (pmt2 124 rfl (by decide +kernel)) rfl (dX_getfield (by decide +kernel)) (by decide +kernel), ?_⟩
  refine ⟨sn_getf (C := RX0) (T := TX0) (N := 13) (idx := 147) rfl pin0 (by decide) (by decide) rfl (pmt1 108 rfl (by decide +kernel)) rfl (dX_getfield (by decide +kernel)) (by decide +kernel), ?_⟩
  refine ⟨sn_iload_n (k := 1) (dX_iload_1 (by decide +kernel)) rfl (by decide +kernel), ?_⟩
  refine ⟨sn_iald (dX_iaload (by decide +kernel)) (by decide +kernel), ?_⟩
  refine ⟨sn_iret rfl (dX_ireturn (by decide +kernel)), ?_⟩
  refine ⟨sn_aload_n (k := 0) (dX_aload_0 (by decide +kernel)) rfl (by decide +kernel), ?_⟩
  refine ⟨sn_getf (C := RX11) (T := TX11) (N := 18) (idx := 44) rfl pin11 (by decide) (by decide) rfl (pmt2 124 rfl (by decide +kernel)) rfl (dX_getfield (by decide +kernel)) (by decide +kernel), ?_⟩
  refine ⟨sn_iload_n (k := 1) (dX_iload_1 (by decide +kernel)) rfl (by decide +kernel), ?_⟩
  refine ⟨sn_aload_n (k := 0) (dX_aload_0 (by decide +kernel)) rfl (by decide +kernel), ?_⟩
  refine ⟨sn_getf (C := RX11) (T := TX11) (N := 18) (idx := 44) rfl pin11 (by decide) (by decide) rfl (pmt2 124 rfl (by decide +kernel)) rfl (dX_getfield (by decide +kernel)) (by decide +kernel), ?_⟩
  refine ⟨sn_getf (C := RX0) (T := TX0) (N := 13) (idx := 150) rfl pin0 (by decide) (by decide) rfl (pmt1 123 rfl (by decide +kernel)) rfl (dX_getfield (by decide +kernel)) (by decide +kernel), ?_⟩
  refine ⟨sn_callV (idx := 153) (C := RX0) (T := TX0) (N := 13) rfl (by decide) cal_86 (pmt6 113 rfl (by decide +kernel)) (pmt4 65 rfl (by decide +kernel)) (pmt4 66 rfl (by decide +kernel)) (dX_invokevirtual (by decide +kernel)) (by decide +kernel), ?_⟩
  refine ⟨sn_iret rfl (dX_ireturn (by decide +kernel)), ?_⟩
  refine ⟨sn_aload_n (k := 0) (dX_aload_0 (by decide +kernel)) rfl (by decide +kernel), ?_⟩
  refine ⟨sn_getf (C := RX11) (T := TX11) (N := 18) (idx := 44) rfl pin11 (by decide) (by decide) rfl (pmt2 124 rfl (by decide +kernel)) rfl (dX_getfield (by decide +kernel)) (by decide +kernel), ?_⟩
  refine ⟨sn_getf (C := RX0) (T := TX0) (N := 13) (idx := 147) rfl pin0 (by decide) (by decide) rfl (pmt1 108 rfl (by decide +kernel)) rfl (dX_getfield (by decide +kernel)) (by decide +kernel), ?_⟩
  refine ⟨sn_iload_n (k := 1) (dX_iload_1 (by decide +kernel)) rfl (by decide +kernel), ?_⟩
  refine ⟨sn_iald (dX_iaload (by decide +kernel)) (by decide +kernel), ?_⟩
  refine ⟨sn_aload_n (k := 0) (dX_aload_0 (by decide +kernel)) rfl (by decide +kernel), ?_⟩
  refine ⟨sn_getf (C := RX11) (T := TX11) (N := 18) (idx := 44) rfl pin11 (by decide) (by decide) rfl (pmt2 124 rfl (by decide +kernel)) rfl (dX_getfield (by decide +kernel)) (by decide +kernel), ?_⟩
  refine ⟨sn_iload_n (k := 1) (dX_iload_1 (by decide +kernel)) rfl (by decide +kernel), ?_⟩
  refine ⟨sn_aload_n (k := 0) (dX_aload_0 (by decide +kernel)) rfl (by decide +kernel), ?_⟩
  refine ⟨sn_getf (C := RX11) (T := TX11) (N := 18) (idx := 44) rfl pin11 (by decide) (by decide) rfl (pmt2 124 rfl (by decide +kernel)) rfl (dX_getfield (by decide +kernel)) (by decide +kernel), ?_⟩
  refine ⟨sn_getf (C := RX0) (T := TX0) (N := 13) (idx := 150) rfl pin0 (by decide) (by decide) rfl (pmt1 123 rfl (by decide +kernel)) rfl (dX_getfield (by decide +kernel)) (by decide +kernel), ?_⟩
  refine ⟨sn_callV (idx := 157) (C := RX0) (T := TX0) (N := 13) rfl (by decide) cal_87 (pmt6 114 rfl (by decide +kernel)) (pmt4 74 rfl (by decide +kernel)) (pmt4 75 rfl (by decide +kernel)) (dX_invokevirtual (by decide +kernel)) (by decide +kernel), ?_⟩
  refine ⟨sn_isub (dX_isub (by decide +kernel)) (by decide +kernel), ?_⟩
  refine ⟨sn_iret rfl (dX_ireturn (by decide +kernel)), ?_⟩
  refine ⟨sn_aload_n (k := 0) (dX_aload_0 (by decide +kernel)) rfl (by decide +kernel), ?_⟩
  refine ⟨sn_getf (C := RX11) (T := TX11) (N := 18) (idx := 44) rfl pin11 (by decide) (by decide) rfl (pmt2 124 rfl (by decide +kernel)) rfl (dX_getfield (by decide +kernel)) (by decide +kernel), ?_⟩
  refine ⟨sn_iload_n (k := 1) (dX_iload_1 (by decide +kernel)) rfl (by decide +kernel), ?_⟩
  refine ⟨sn_iconst (dX_iconst_1 (by decide +kernel)) (by decide +kernel), ?_⟩
  refine ⟨sn_callV (idx := 160) (C := RX0) (T := TX0) (N := 13) rfl (by decide) cal_77 (pmt6 115 rfl (by decide +kernel)) (pmt5 2 rfl (by decide +kernel)) (pmt5 3 rfl (by decide +kernel)) (dX_invokevirtual (by decide +kernel)) (by decide +kernel), ?_⟩
  refine ⟨sn_iret rfl (dX_ireturn (by decide +kernel)), ?_⟩
  trivial
set_option maxRecDepth 100000 in
set_option maxHeartbeats 4000000 in
theorem S_5 : pAll (pSk RX11 cX11_thing 3 (some .int) PC_5) 0 C_5 := by
  refine ⟨sn_aload_n (k := 0) (dX_aload_0 (by decide +kernel)) rfl (by decide +kernel), ?_⟩
  refine ⟨sn_getf (C := RX11) (T := TX11) (N := 18) (idx := 44) rfl pin11 (by decide) (by decide) rfl (pmt2 124 rfl (by decide +kernel)) rfl (dX_getfield (by decide +kernel)) (by decide +kernel), ?_⟩
  refine ⟨sn_iload_n (k := 1) (dX_iload_1 (by decide +kernel)) rfl (by decide +kernel), ?_⟩
  refine ⟨sn_callV (idx := 164) (C := RX0) (T := TX0) (N := 13) rfl (by decide) cal_64 (pmt4 19 rfl (by decide +kernel)) (pmt4 20 rfl (by decide +kernel)) (pmt4 21 rfl (by decide +kernel)) (dX_invokevirtual (by decide +kernel)) (by decide +kernel), ?_⟩
  refine ⟨sn_if_eq (off := 13) (dX_ifeq (by decide +kernel)) (by decide +kernel) (by decide +kernel), ?_⟩
  refine ⟨sn_iload_n (k := 2) (dX_iload_2 (by decide +kernel)) rfl (by decide +kernel), ?_⟩
  refine ⟨sn_if_lt (off := 9) (dX_iflt (by decide +kernel)) (by decide +kernel) (by decide +kernel), ?_⟩
  refine ⟨sn_iload_n (k := 2) (dX_iload_2 (by decide +kernel)) rfl (by decide +kernel), ?_⟩
  refine ⟨sn_bipush (dX_bipush (by decide +kernel)) (by decide +kernel) (by decide +kernel), ?_⟩
  refine ⟨sn_icmp_le (off := 13) (dX_if_icmple (by decide +kernel)) (by decide +kernel) (by decide +kernel), ?_⟩
  refine ⟨sn_none, ?_⟩
  refine ⟨sn_dup (dX_dup (by decide +kernel)) (by decide +kernel), ?_⟩
  refine ⟨sn_none, ?_⟩
  refine ⟨sn_none, ?_⟩
  refine ⟨sn_none, ?_⟩
  refine ⟨sn_iload_n (k := 2) (dX_iload_2 (by decide +kernel)) rfl (by decide +kernel), ?_⟩
  refine ⟨sn_sw (dflt := 99) (lo := 0) (hi := 5) (offs := #[40, 50, 60, 70, 80, 89]) (len := 40) (by decide +kernel) (by decide) (by decide +kernel) (p_sw_all (by decide +kernel)) (by decide +kernel), ?_⟩
  refine ⟨sn_aload_n (k := 0) (dX_aload_0 (by decide +kernel)) rfl (by decide +kernel), ?_⟩
  refine ⟨sn_getf (C := RX11) (T := TX11) (N := 18) (idx := 44) rfl pin11 (by decide) (by decide) rfl (pmt2 124 rfl (by decide +kernel)) rfl (dX_getfield (by decide +kernel)) (by decide +kernel), ?_⟩
  refine ⟨sn_getf (C := RX0) (T := TX0) (N := 13) (idx := 169) rfl pin0 (by decide) (by decide) rfl (pmt1 112 rfl (by decide +kernel)) rfl (dX_getfield (by decide +kernel)) (by decide +kernel), ?_⟩
  refine ⟨sn_iload_n (k := 1) (dX_iload_1 (by decide +kernel)) rfl (by decide +kernel), ?_⟩
  refine ⟨sn_iald (dX_iaload (by decide +kernel)) (by decide +kernel), ?_⟩
  refine ⟨sn_iret rfl (dX_ireturn (by decide +kernel)), ?_⟩
  refine ⟨sn_aload_n (k := 0) (dX_aload_0 (by decide +kernel)) rfl (by decide +kernel), ?_⟩
  refine ⟨sn_getf (C := RX11) (T := TX11) (N := 18) (idx := 44) rfl pin11 (by decide) (by decide) rfl (pmt2 124 rfl (by decide +kernel)) rfl (dX_getfield (by decide +kernel)) (by decide +kernel), ?_⟩
  refine ⟨sn_getf (C := RX0) (T := TX0) (N := 13) (idx := 172) rfl pin0 (by decide) (by decide) rfl (pmt1 115 rfl (by decide +kernel)) rfl (dX_getfield (by decide +kernel)) (by decide +kernel), ?_⟩
  refine ⟨sn_iload_n (k := 1) (dX_iload_1 (by decide +kernel)) rfl (by decide +kernel), ?_⟩
  refine ⟨sn_iald (dX_iaload (by decide +kernel)) (by decide +kernel), ?_⟩
  refine ⟨sn_iret rfl (dX_ireturn (by decide +kernel)), ?_⟩
  refine ⟨sn_aload_n (k := 0) (dX_aload_0 (by decide +kernel)) rfl (by decide +kernel), ?_⟩
  refine ⟨sn_getf (C := RX11) (T := TX11) (N := 18) (idx := 44) rfl pin11 (by decide) (by decide) rfl (pmt2 124 rfl (by decide +kernel)) rfl (dX_getfield (by decide +kernel)) (by decide +kernel), ?_⟩
  refine ⟨sn_getf (C := RX0) (T := TX0) (N := 13) (idx := 175) rfl pin0 (by decide) (by decide) rfl (pmt1 118 rfl (by decide +kernel)) rfl (dX_getfield (by decide +kernel)) (by decide +kernel), ?_⟩
  refine ⟨sn_iload_n (k := 1) (dX_iload_1 (by decide +kernel)) rfl (by decide +kernel), ?_⟩
  refine ⟨sn_iald (dX_iaload (by decide +kernel)) (by decide +kernel), ?_⟩
  refine ⟨sn_iret rfl (dX_ireturn (by decide +kernel)), ?_⟩
  refine ⟨sn_aload_n (k := 0) (dX_aload_0 (by decide +kernel)) rfl (by decide +kernel), ?_⟩
  refine ⟨sn_getf (C := RX11) (T := TX11) (N := 18) (idx := 44) rfl pin11 (by decide) (by decide) rfl (pmt2 124 rfl (by decide +kernel)) rfl (dX_getfield (by decide +kernel)) (by decide +kernel), ?_⟩
  refine ⟨sn_getf (C := RX0) (T := TX0) (N := 13) (idx := 150) rfl pin0 (by decide) (by decide) rfl (pmt1 123 rfl (by decide +kernel)) rfl (dX_getfield (by decide +kernel)) (by decide +kernel), ?_⟩
  refine ⟨sn_iload_n (k := 1) (dX_iload_1 (by decide +kernel)) rfl (by decide +kernel), ?_⟩
  refine ⟨sn_iald (dX_iaload (by decide +kernel)) (by decide +kernel), ?_⟩
  refine ⟨sn_iret rfl (dX_ireturn (by decide +kernel)), ?_⟩
  refine ⟨sn_aload_n (k := 0) (dX_aload_0 (by decide +kernel)) rfl (by decide +kernel), ?_⟩
  refine ⟨sn_getf (C := RX11) (T := TX11) (N := 18) (idx := 44) rfl pin11 (by decide) (by decide) rfl (pmt2 124 rfl (by decide +kernel)) rfl (dX_getfield (by decide +kernel)) (by decide +kernel), ?_⟩
  refine ⟨sn_iload_n (k := 1) (dX_iload_1 (by decide +kernel)) rfl (by decide +kernel), ?_⟩
  refine ⟨sn_callV (idx := 178) (C := RX0) (T := TX0) (N := 13) rfl (by decide) cal_93 (pmt6 124 rfl (by decide +kernel)) (pmt4 232 rfl (by decide +kernel)) (pmt4 233 rfl (by decide +kernel)) (dX_invokevirtual (by decide +kernel)) (by decide +kernel), ?_⟩
  refine ⟨sn_iret rfl (dX_ireturn (by decide +kernel)), ?_⟩
  refine ⟨sn_aload_n (k := 0) (dX_aload_0 (by decide +kernel)) rfl (by decide +kernel), ?_⟩
  refine ⟨sn_getf (C := RX11) (T := TX11) (N := 18) (idx := 44) rfl pin11 (by decide) (by decide) rfl (pmt2 124 rfl (by decide +kernel)) rfl (dX_getfield (by decide +kernel)) (by decide +kernel), ?_⟩
  refine ⟨sn_getf (C := RX0) (T := TX0) (N := 13) (idx := 182) rfl pin0 (by decide) (by decide) rfl (pmt1 132 rfl (by decide +kernel)) rfl (dX_getfield (by decide +kernel)) (by decide +kernel), ?_⟩
  refine ⟨sn_iload_n (k := 1) (dX_iload_1 (by decide +kernel)) rfl (by decide +kernel), ?_⟩
  refine ⟨sn_iald (dX_iaload (by decide +kernel)) (by decide +kernel), ?_⟩
  refine ⟨sn_iret rfl (dX_ireturn (by decide +kernel)), ?_⟩
  refine ⟨sn_aload_n (k := 0) (dX_aload_0 (by decide +kernel)) rfl (by decide +kernel), ?_⟩
  refine ⟨sn_getf (C := RX11) (T := TX11) (N := 18) (idx := 54) rfl pin11 (by decide) (by decide) rfl (pmt2 126 rfl (by decide +kernel)) rfl (dX_getfield (by decide +kernel)) (by decide +kernel), ?_⟩
  refine ⟨sn_aload_n (k := 0) (dX_aload_0 (by decide +kernel)) rfl (by decide +kernel), ?_⟩
  refine ⟨sn_getf (C := RX11) (T := TX11) (N := 18) (idx := 44) rfl pin11 (by decide) (by decide) rfl (pmt2 124 rfl (by decide +kernel)) rfl (dX_getfield (by decide +kernel)) (by decide +kernel), ?_⟩
  refine ⟨sn_iload_n (k := 1) (dX_iload_1 (by decide +kernel)) rfl (by decide +kernel), ?_⟩
  refine ⟨sn_aload_n (k := 0) (dX_aload_0 (by decide +kernel)) rfl (by decide +kernel), ?_⟩
  refine ⟨sn_getf (C := RX11) (T := TX11) (N := 18) (idx := 44) rfl pin11 (by decide) (by decide) rfl (pmt2 124 rfl (by decide +kernel)) rfl (dX_getfield (by decide +kernel)) (by decide +kernel), ?_⟩
  refine ⟨sn_getf (C := RX0) (T := TX0) (N := 13) (idx := 150) rfl pin0 (by decide) (by decide) rfl (pmt1 123 rfl (by decide +kernel)) rfl (dX_getfield (by decide +kernel)) (by decide +kernel), ?_⟩
  refine ⟨sn_iload_n (k := 1) (dX_iload_1 (by decide +kernel)) rfl (by decide +kernel), ?_⟩
  refine ⟨sn_iald (dX_iaload (by decide +kernel)) (by decide +kernel), ?_⟩
  refine ⟨sn_callV (idx := 185) (C := RX7) (T := TX7) (N := 3) rfl (by decide) cal_144 (pmt4 225 rfl (by decide +kernel)) (pmt4 226 rfl (by decide +kernel)) (pmt4 227 rfl (by decide +kernel)) (dX_invokevirtual (by decide +kernel)) (by decide +kernel), ?_⟩
  refine ⟨sn_iret rfl (dX_ireturn (by decide +kernel)), ?_⟩
  trivial
set_option maxRecDepth 100000 in
set_option maxHeartbeats 4000000 in
theorem S_6 : pAll (pSk RX11 cX11_set 2 (some .int) PC_6) 0 C_6 := by
  refine ⟨sn_iload_n (k := 1) (dX_iload_1 (by decide +kernel)) rfl (by decide +kernel), ?_⟩
  refine ⟨sn_if_lt (off := 26) (dX_iflt (by decide +kernel)) (by decide +kernel) (by decide +kernel), ?_⟩
  refine ⟨sn_iload_n (k := 1) (dX_iload_1 (by decide +kernel)) rfl (by decide +kernel), ?_⟩
  refine ⟨sn_aload_n (k := 0) (dX_aload_0 (by decide +kernel)) rfl (by decide +kernel), ?_⟩
  refine ⟨sn_getf (C := RX11) (T := TX11) (N := 18) (idx := 44) rfl pin11 (by decide) (by decide) rfl (pmt2 124 rfl (by decide +kernel)) rfl (dX_getfield (by decide +kernel)) (by decide +kernel), ?_⟩
  refine ⟨sn_getf (C := RX0) (T := TX0) (N := 13) (idx := 189) rfl pin0 (by decide) (by decide) rfl (pmt1 146 rfl (by decide +kernel)) rfl (dX_getfield (by decide +kernel)) (by decide +kernel), ?_⟩
  refine ⟨sn_icmp_ge (off := 15) (dX_if_icmpge (by decide +kernel)) (by decide +kernel) (by decide +kernel), ?_⟩
  refine ⟨sn_aload_n (k := 0) (dX_aload_0 (by decide +kernel)) rfl (by decide +kernel), ?_⟩
  refine ⟨sn_getf (C := RX11) (T := TX11) (N := 18) (idx := 44) rfl pin11 (by decide) (by decide) rfl (pmt2 124 rfl (by decide +kernel)) rfl (dX_getfield (by decide +kernel)) (by decide +kernel), ?_⟩
  refine ⟨sn_getf (C := RX0) (T := TX0) (N := 13) (idx := 192) rfl pin0 (by decide) (by decide) rfl (pmt1 126 rfl (by decide +kernel)) rfl (dX_getfield (by decide +kernel)) (by decide +kernel), ?_⟩
  refine ⟨sn_iload_n (k := 1) (dX_iload_1 (by decide +kernel)) rfl (by decide +kernel), ?_⟩
  refine ⟨sn_iald (dX_iaload (by decide +kernel)) (by decide +kernel), ?_⟩
  refine ⟨sn_goto (off := 4) (dX_goto (by decide +kernel)) (by decide +kernel), ?_⟩
  refine ⟨sn_iconst (dX_iconst_m1 (by decide +kernel)) (by decide +kernel), ?_⟩
  refine ⟨sn_iret rfl (dX_ireturn (by decide +kernel)), ?_⟩
  trivial
set_option maxRecDepth 100000 in
set_option maxHeartbeats 4000000 in
theorem S_7 : pAll (pSk RX11 cX11_door 4 (some .int) PC_7) 0 C_7 := by
  refine ⟨sn_aload_n (k := 0) (dX_aload_0 (by decide +kernel)) rfl (by decide +kernel), ?_⟩
  refine ⟨sn_getf (C := RX11) (T := TX11) (N := 18) (idx := 44) rfl pin11 (by decide) (by decide) rfl (pmt2 124 rfl (by decide +kernel)) rfl (dX_getfield (by decide +kernel)) (by decide +kernel), ?_⟩
  refine ⟨sn_iload_n (k := 1) (dX_iload_1 (by decide +kernel)) rfl (by decide +kernel), ?_⟩
  refine ⟨sn_iload_n (k := 2) (dX_iload_2 (by decide +kernel)) rfl (by decide +kernel), ?_⟩
  refine ⟨sn_callV (idx := 195) (C := RX0) (T := TX0) (N := 13) rfl (by decide) cal_65 (pmt3 227 rfl (by decide +kernel)) (pmt3 21 rfl (by decide +kernel)) (pmt3 22 rfl (by decide +kernel)) (dX_invokevirtual (by decide +kernel)) (by decide +kernel), ?_⟩
  refine ⟨sn_if_ne (off := 5) (dX_ifne (by decide +kernel)) (by decide +kernel) (by decide +kernel), ?_⟩
  refine ⟨sn_iconst (dX_iconst_m1 (by decide +kernel)) (by decide +kernel), ?_⟩
  refine ⟨sn_iret rfl (dX_ireturn (by decide +kernel)), ?_⟩
  refine ⟨sn_aload_n (k := 0) (dX_aload_0 (by decide +kernel)) rfl (by decide +kernel), ?_⟩
  refine ⟨sn_getf (C := RX11) (T := TX11) (N := 18) (idx := 44) rfl pin11 (by decide) (by decide) rfl (pmt2 124 rfl (by decide +kernel)) rfl (dX_getfield (by decide +kernel)) (by decide +kernel), ?_⟩
  refine ⟨sn_iload_n (k := 1) (dX_iload_1 (by decide +kernel)) rfl (by decide +kernel), ?_⟩
  refine ⟨sn_iload_n (k := 2) (dX_iload_2 (by decide +kernel)) rfl (by decide +kernel), ?_⟩
  refine ⟨sn_callV (idx := 199) (C := RX0) (T := TX0) (N := 13) rfl (by decide) cal_74 (pmt3 228 rfl (by decide +kernel)) (pmt3 229 rfl (by decide +kernel)) (pmt3 230 rfl (by decide +kernel)) (dX_invokevirtual (by decide +kernel)) (by decide +kernel), ?_⟩
  refine ⟨sn_istore_n (k := 3) (dX_istore_3 (by decide +kernel)) rfl (by decide) (by decide +kernel), ?_⟩
  refine ⟨sn_iload_n (k := 3) (dX_iload_3 (by decide +kernel)) rfl (by decide +kernel), ?_⟩
  refine ⟨sn_if_ne (off := 8) (dX_ifne (by decide +kernel)) (by decide +kernel) (by decide +kernel), ?_⟩
  refine ⟨sn_bipush (dX_bipush (by decide +kernel)) (by decide +kernel) (by decide +kernel), ?_⟩
  refine ⟨sn_goto (off := 4) (dX_goto (by decide +kernel)) (by decide +kernel), ?_⟩
  refine ⟨sn_iload_n (k := 3) (dX_iload_3 (by decide +kernel)) rfl (by decide +kernel), ?_⟩
  refine ⟨sn_iret rfl (dX_ireturn (by decide +kernel)), ?_⟩
  trivial
set_option maxRecDepth 100000 in
set_option maxHeartbeats 4000000 in
theorem S_8 : pAll (pSk RX11 cX11_widen 5 (some .int) PC_8) 0 C_8 := by
  refine ⟨sn_aload_n (k := 0) (dX_aload_0 (by decide +kernel)) rfl (by decide +kernel), ?_⟩
  refine ⟨sn_getf (C := RX11) (T := TX11) (N := 18) (idx := 44) rfl pin11 (by decide) (by decide) rfl (pmt2 124 rfl (by decide +kernel)) rfl (dX_getfield (by decide +kernel)) (by decide +kernel), ?_⟩
  refine ⟨sn_iload_n (k := 1) (dX_iload_1 (by decide +kernel)) rfl (by decide +kernel), ?_⟩
  refine ⟨sn_iload_n (k := 2) (dX_iload_2 (by decide +kernel)) rfl (by decide +kernel), ?_⟩
  refine ⟨sn_callV (idx := 195) (C := RX0) (T := TX0) (N := 13) rfl (by decide) cal_65 (pmt3 227 rfl (by decide +kernel)) (pmt3 21 rfl (by decide +kernel)) (pmt3 22 rfl (by decide +kernel)) (dX_invokevirtual (by decide +kernel)) (by decide +kernel), ?_⟩
  refine ⟨sn_if_eq (off := 13) (dX_ifeq (by decide +kernel)) (by decide +kernel) (by decide +kernel), ?_⟩
  refine ⟨sn_iload_n (k := 3) (dX_iload_3 (by decide +kernel)) rfl (by decide +kernel), ?_⟩
  refine ⟨sn_if_lt (off := 9) (dX_iflt (by decide +kernel)) (by decide +kernel) (by decide +kernel), ?_⟩
  refine ⟨sn_iload_n (k := 3) (dX_iload_3 (by decide +kernel)) rfl (by decide +kernel), ?_⟩
  refine ⟨sn_bipush (dX_bipush (by decide +kernel)) (by decide +kernel) (by decide +kernel), ?_⟩
  refine ⟨sn_icmp_le (off := 5) (dX_if_icmple (by decide +kernel)) (by decide +kernel) (by decide +kernel), ?_⟩
  refine ⟨sn_iconst (dX_iconst_m1 (by decide +kernel)) (by decide +kernel), ?_⟩
  refine ⟨sn_iret rfl (dX_ireturn (by decide +kernel)), ?_⟩
  refine ⟨sn_aload_n (k := 0) (dX_aload_0 (by decide +kernel)) rfl (by decide +kernel), ?_⟩
  refine ⟨sn_getf (C := RX11) (T := TX11) (N := 18) (idx := 44) rfl pin11 (by decide) (by decide) rfl (pmt2 124 rfl (by decide +kernel)) rfl (dX_getfield (by decide +kernel)) (by decide +kernel), ?_⟩
  refine ⟨sn_iload_n (k := 1) (dX_iload_1 (by decide +kernel)) rfl (by decide +kernel), ?_⟩
  refine ⟨sn_iload_n (k := 2) (dX_iload_2 (by decide +kernel)) rfl (by decide +kernel), ?_⟩
  refine ⟨sn_callV (idx := 199) (C := RX0) (T := TX0) (N := 13) rfl (by decide) cal_74 (pmt3 228 rfl (by decide +kernel)) (pmt3 229 rfl (by decide +kernel)) (pmt3 230 rfl (by decide +kernel)) (dX_invokevirtual (by decide +kernel)) (by decide +kernel), ?_⟩
  refine ⟨sn_istore (dX_istore (by decide +kernel)) (by decide) (by decide +kernel), ?_⟩
  refine ⟨sn_aload_n (k := 0) (dX_aload_0 (by decide +kernel)) rfl (by decide +kernel), ?_⟩
  refine ⟨sn_getf (C := RX11) (T := TX11) (N := 18) (idx := 44) rfl pin11 (by decide) (by decide) rfl (pmt2 124 rfl (by decide +kernel)) rfl (dX_getfield (by decide +kernel)) (by decide +kernel), ?_⟩
  refine ⟨sn_iload_n (k := 1) (dX_iload_1 (by decide +kernel)) rfl (by decide +kernel), ?_⟩
  refine ⟨sn_iload_n (k := 2) (dX_iload_2 (by decide +kernel)) rfl (by decide +kernel), ?_⟩
  refine ⟨sn_iload_n (k := 3) (dX_iload_3 (by decide +kernel)) rfl (by decide +kernel), ?_⟩
  refine ⟨sn_callV (idx := 202) (C := RX0) (T := TX0) (N := 13) rfl (by decide) cal_73 (pmt3 236 rfl (by decide +kernel)) (pmt3 17 rfl (by decide +kernel)) (pmt3 18 rfl (by decide +kernel)) (dX_invokevirtual (by decide +kernel)) (by decide +kernel), ?_⟩
  refine ⟨sn_iload (dX_iload (by decide +kernel)) (by decide +kernel), ?_⟩
  refine ⟨sn_iret rfl (dX_ireturn (by decide +kernel)), ?_⟩
  trivial
set_option maxRecDepth 100000 in
set_option maxHeartbeats 4000000 in
theorem S_9 : pAll (pSk RX11 cX11_strength 3 (some .int) PC_9) 0 C_9 := by
  refine ⟨sn_iload_n (k := 1) (dX_iload_1 (by decide +kernel)) rfl (by decide +kernel), ?_⟩
  refine ⟨sn_iconst (dX_iconst_1 (by decide +kernel)) (by decide +kernel), ?_⟩
  refine ⟨sn_icmp_lt (off := 10) (dX_if_icmplt (by decide +kernel)) (by decide +kernel) (by decide +kernel), ?_⟩
  refine ⟨sn_iload_n (k := 1) (dX_iload_1 (by decide +kernel)) rfl (by decide +kernel), ?_⟩
  refine ⟨sn_sipush (dX_sipush (by decide +kernel)) (by decide +kernel) (by decide +kernel), ?_⟩
  refine ⟨sn_icmp_le (off := 5) (dX_if_icmple (by decide +kernel)) (by decide +kernel) (by decide +kernel), ?_⟩
  refine ⟨sn_iconst (dX_iconst_m1 (by decide +kernel)) (by decide +kernel), ?_⟩
  refine ⟨sn_iret rfl (dX_ireturn (by decide +kernel)), ?_⟩
  refine ⟨sn_aload_n (k := 0) (dX_aload_0 (by decide +kernel)) rfl (by decide +kernel), ?_⟩
  refine ⟨sn_getf (C := RX11) (T := TX11) (N := 18) (idx := 100) rfl pin11 (by decide) (by decide) rfl (pmt2 137 rfl (by decide +kernel)) rfl (dX_getfield (by decide +kernel)) (by decide +kernel), ?_⟩
  refine ⟨sn_istore_n (k := 2) (dX_istore_2 (by decide +kernel)) rfl (by decide) (by decide +kernel), ?_⟩
  refine ⟨sn_aload_n (k := 0) (dX_aload_0 (by decide +kernel)) rfl (by decide +kernel), ?_⟩
  refine ⟨sn_iload_n (k := 1) (dX_iload_1 (by decide +kernel)) rfl (by decide +kernel), ?_⟩
  refine ⟨sn_puti (C := RX11) (T := TX11) (N := 18) (idx := 100) rfl pin11 (by decide) (by decide) rfl tyX11 tyX11_ok nmX11 rfl rfl (by decide +kernel) (pmt2 137 rfl (by decide +kernel)) rfl (dX_putfield (by decide +kernel)) (by decide +kernel), ?_⟩
  refine ⟨sn_iload_n (k := 2) (dX_iload_2 (by decide +kernel)) rfl (by decide +kernel), ?_⟩
  refine ⟨sn_iret rfl (dX_ireturn (by decide +kernel)), ?_⟩
  trivial
set_option maxRecDepth 100000 in
set_option maxHeartbeats 4000000 in
theorem S_10 : pAll (pSk RX11 cX11_sheet 5 (some .int) PC_10) 0 C_10 := by
  refine ⟨sn_iload_n (k := 1) (dX_iload_1 (by decide +kernel)) rfl (by decide +kernel), ?_⟩
  refine ⟨sn_if_lt (off := 14) (dX_iflt (by decide +kernel)) (by decide +kernel) (by decide +kernel), ?_⟩
  refine ⟨sn_iload_n (k := 1) (dX_iload_1 (by decide +kernel)) rfl (by decide +kernel), ?_⟩
  refine ⟨sn_iconst (dX_iconst_3 (by decide +kernel)) (by decide +kernel), ?_⟩
  refine ⟨sn_icmp_gt (off := 9) (dX_if_icmpgt (by decide +kernel)) (by decide +kernel) (by decide +kernel), ?_⟩
  refine ⟨sn_iload_n (k := 2) (dX_iload_2 (by decide +kernel)) rfl (by decide +kernel), ?_⟩
  refine ⟨sn_bipush (dX_bipush (by decide +kernel)) (by decide +kernel) (by decide +kernel), ?_⟩
  refine ⟨sn_icmp_le (off := 5) (dX_if_icmple (by decide +kernel)) (by decide +kernel) (by decide +kernel), ?_⟩
  refine ⟨sn_iconst (dX_iconst_m1 (by decide +kernel)) (by decide +kernel), ?_⟩
  refine ⟨sn_iret rfl (dX_ireturn (by decide +kernel)), ?_⟩
  refine ⟨sn_iload_n (k := 1) (dX_iload_1 (by decide +kernel)) rfl (by decide +kernel), ?_⟩
  refine ⟨sn_iconst (dX_iconst_3 (by decide +kernel)) (by decide +kernel), ?_⟩
  refine ⟨sn_icmp_ne (off := 18) (dX_if_icmpne (by decide +kernel)) (by decide +kernel) (by decide +kernel), ?_⟩
  refine ⟨sn_aload_n (k := 0) (dX_aload_0 (by decide +kernel)) rfl (by decide +kernel), ?_⟩
  refine ⟨sn_getf (C := RX11) (T := TX11) (N := 18) (idx := 44) rfl pin11 (by decide) (by decide) rfl (pmt2 124 rfl (by decide +kernel)) rfl (dX_getfield (by decide +kernel)) (by decide +kernel), ?_⟩
  refine ⟨sn_iconst (dX_iconst_2 (by decide +kernel)) (by decide +kernel), ?_⟩
  refine ⟨sn_iconst (dX_iconst_0 (by decide +kernel)) (by decide +kernel), ?_⟩
  refine ⟨sn_iconst (dX_iconst_0 (by decide +kernel)) (by decide +kernel), ?_⟩
  refine ⟨sn_iconst (dX_iconst_0 (by decide +kernel)) (by decide +kernel), ?_⟩
  refine ⟨sn_callV (idx := 206) (C := RX0) (T := TX0) (N := 13) rfl (by decide) cal_76 (pmt4 5 rfl (by decide +kernel)) (pmt4 6 rfl (by decide +kernel)) (pmt4 7 rfl (by decide +kernel)) (dX_invokevirtual (by decide +kernel)) (by decide +kernel), ?_⟩
  refine ⟨sn_pop (dX_pop (by decide +kernel)) (by decide +kernel), ?_⟩
  refine ⟨sn_bipush (dX_bipush (by decide +kernel)) (by decide +kernel) (by decide +kernel), ?_⟩
  refine ⟨sn_iret rfl (dX_ireturn (by decide +kernel)), ?_⟩
  refine ⟨sn_iload_n (k := 2) (dX_iload_2 (by decide +kernel)) rfl (by decide +kernel), ?_⟩
  refine ⟨sn_if_ge (off := 8) (dX_ifge (by decide +kernel)) (by decide +kernel) (by decide +kernel), ?_⟩
  refine ⟨sn_bipush (dX_bipush (by decide +kernel)) (by decide +kernel) (by decide +kernel), ?_⟩
  refine ⟨sn_goto (off := 15) (dX_goto (by decide +kernel)) (by decide +kernel), ?_⟩
  refine ⟨sn_aload_n (k := 0) (dX_aload_0 (by decide +kernel)) rfl (by decide +kernel), ?_⟩
  refine ⟨sn_getf (C := RX11) (T := TX11) (N := 18) (idx := 44) rfl pin11 (by decide) (by decide) rfl (pmt2 124 rfl (by decide +kernel)) rfl (dX_getfield (by decide +kernel)) (by decide +kernel), ?_⟩
  refine ⟨sn_iload_n (k := 1) (dX_iload_1 (by decide +kernel)) rfl (by decide +kernel), ?_⟩
  refine ⟨sn_iload_n (k := 2) (dX_iload_2 (by decide +kernel)) rfl (by decide +kernel), ?_⟩
  refine ⟨sn_iload_n (k := 3) (dX_iload_3 (by decide +kernel)) rfl (by decide +kernel), ?_⟩
  refine ⟨sn_iload (dX_iload (by decide +kernel)) (by decide +kernel), ?_⟩
  refine ⟨sn_callV (idx := 206) (C := RX0) (T := TX0) (N := 13) rfl (by decide) cal_76 (pmt4 5 rfl (by decide +kernel)) (pmt4 6 rfl (by decide +kernel)) (pmt4 7 rfl (by decide +kernel)) (dX_invokevirtual (by decide +kernel)) (by decide +kernel), ?_⟩
  refine ⟨sn_iret rfl (dX_ireturn (by decide +kernel)), ?_⟩
  trivial
set_option maxRecDepth 100000 in
set_option maxHeartbeats 4000000 in
theorem S_11 : pAll (pSk RX11 cX11_carry 4 (some .int) PC_11) 0 C_11 := by
  refine ⟨sn_aload_n (k := 0) (dX_aload_0 (by decide +kernel)) rfl (by decide +kernel), ?_⟩
  refine ⟨sn_iload_n (k := 1) (dX_iload_1 (by decide +kernel)) rfl (by decide +kernel), ?_⟩
  refine ⟨sn_iload_n (k := 2) (dX_iload_2 (by decide +kernel)) rfl (by decide +kernel), ?_⟩
  refine ⟨sn_aload_n (k := 0) (dX_aload_0 (by decide +kernel)) rfl (by decide +kernel), ?_⟩
  refine ⟨sn_getf (C := RX11) (T := TX11) (N := 18) (idx := 44) rfl pin11 (by decide) (by decide) rfl (pmt2 124 rfl (by decide +kernel)) rfl (dX_getfield (by decide +kernel)) (by decide +kernel), ?_⟩
  refine ⟨sn_getf (C := RX0) (T := TX0) (N := 13) (idx := 150) rfl pin0 (by decide) (by decide) rfl (pmt1 123 rfl (by decide +kernel)) rfl (dX_getfield (by decide +kernel)) (by decide +kernel), ?_⟩
  refine ⟨sn_aload_n (k := 0) (dX_aload_0 (by decide +kernel)) rfl (by decide +kernel), ?_⟩
  refine ⟨sn_getf (C := RX11) (T := TX11) (N := 18) (idx := 210) rfl pin11 (by decide) (by decide) rfl (pmt2 136 rfl (by decide +kernel)) rfl (dX_getfield (by decide +kernel)) (by decide +kernel), ?_⟩
  refine ⟨sn_callV (idx := 213) (C := RX11) (T := TX11) (N := 18) rfl (by decide) cal_51 (pmt4 15 rfl (by decide +kernel)) (pmt4 17 rfl (by decide +kernel)) (pms 14 rfl rfl) (dX_invokevirtual (by decide +kernel)) (by decide +kernel), ?_⟩
  refine ⟨sn_istore_n (k := 3) (dX_istore_3 (by decide +kernel)) rfl (by decide) (by decide +kernel), ?_⟩
  refine ⟨sn_iload_n (k := 3) (dX_iload_3 (by decide +kernel)) rfl (by decide +kernel), ?_⟩
  refine ⟨sn_if_lt (off := 10) (dX_iflt (by decide +kernel)) (by decide +kernel) (by decide +kernel), ?_⟩
  refine ⟨sn_aload_n (k := 0) (dX_aload_0 (by decide +kernel)) rfl (by decide +kernel), ?_⟩
  refine ⟨sn_iload_n (k := 1) (dX_iload_1 (by decide +kernel)) rfl (by decide +kernel), ?_⟩
  refine ⟨sn_iload_n (k := 2) (dX_iload_2 (by decide +kernel)) rfl (by decide +kernel), ?_⟩
  refine ⟨sn_iload_n (k := 3) (dX_iload_3 (by decide +kernel)) rfl (by decide +kernel), ?_⟩
  refine ⟨sn_callV (idx := 217) (C := RX11) (T := TX11) (N := 18) rfl (by decide) cal_52 (pmt4 40 rfl (by decide +kernel)) (pmt4 42 rfl (by decide +kernel)) (pms 16 rfl rfl) (dX_invokevirtual (by decide +kernel)) (by decide +kernel), ?_⟩
  refine ⟨sn_iload_n (k := 3) (dX_iload_3 (by decide +kernel)) rfl (by decide +kernel), ?_⟩
  refine ⟨sn_iret rfl (dX_ireturn (by decide +kernel)), ?_⟩
  trivial
set_option maxRecDepth 100000 in
set_option maxHeartbeats 4000000 in
theorem S_12 : pAll (pSk RX11 cX11_evening 3 (some .int) PC_12) 0 C_12 := by
  refine ⟨sn_aload_n (k := 0) (dX_aload_0 (by decide +kernel)) rfl (by decide +kernel), ?_⟩
  refine ⟨sn_getf (C := RX11) (T := TX11) (N := 18) (idx := 44) rfl pin11 (by decide) (by decide) rfl (pmt2 124 rfl (by decide +kernel)) rfl (dX_getfield (by decide +kernel)) (by decide +kernel), ?_⟩
  refine ⟨sn_aload_n (k := 0) (dX_aload_0 (by decide +kernel)) rfl (by decide +kernel), ?_⟩
  refine ⟨sn_getf (C := RX11) (T := TX11) (N := 18) (idx := 44) rfl pin11 (by decide) (by decide) rfl (pmt2 124 rfl (by decide +kernel)) rfl (dX_getfield (by decide +kernel)) (by decide +kernel), ?_⟩
  refine ⟨sn_getf (C := RX0) (T := TX0) (N := 13) (idx := 150) rfl pin0 (by decide) (by decide) rfl (pmt1 123 rfl (by decide +kernel)) rfl (dX_getfield (by decide +kernel)) (by decide +kernel), ?_⟩
  refine ⟨sn_callV (idx := 220) (C := RX0) (T := TX0) (N := 13) rfl (by decide) cal_89 (pmt4 56 rfl (by decide +kernel)) (pmt4 57 rfl (by decide +kernel)) (pmt4 58 rfl (by decide +kernel)) (dX_invokevirtual (by decide +kernel)) (by decide +kernel), ?_⟩
  refine ⟨sn_istore_n (k := 1) (dX_istore_1 (by decide +kernel)) rfl (by decide) (by decide +kernel), ?_⟩
  refine ⟨sn_aload_n (k := 0) (dX_aload_0 (by decide +kernel)) rfl (by decide +kernel), ?_⟩
  refine ⟨sn_getf (C := RX11) (T := TX11) (N := 18) (idx := 44) rfl pin11 (by decide) (by decide) rfl (pmt2 124 rfl (by decide +kernel)) rfl (dX_getfield (by decide +kernel)) (by decide +kernel), ?_⟩
  refine ⟨sn_aload_n (k := 0) (dX_aload_0 (by decide +kernel)) rfl (by decide +kernel), ?_⟩
  refine ⟨sn_getf (C := RX11) (T := TX11) (N := 18) (idx := 44) rfl pin11 (by decide) (by decide) rfl (pmt2 124 rfl (by decide +kernel)) rfl (dX_getfield (by decide +kernel)) (by decide +kernel), ?_⟩
  refine ⟨sn_getf (C := RX0) (T := TX0) (N := 13) (idx := 150) rfl pin0 (by decide) (by decide) rfl (pmt1 123 rfl (by decide +kernel)) rfl (dX_getfield (by decide +kernel)) (by decide +kernel), ?_⟩
  refine ⟨sn_callV (idx := 224) (C := RX0) (T := TX0) (N := 13) rfl (by decide) cal_88 (pmt4 69 rfl (by decide +kernel)) (pmt4 70 rfl (by decide +kernel)) (pmt4 71 rfl (by decide +kernel)) (dX_invokevirtual (by decide +kernel)) (by decide +kernel), ?_⟩
  refine ⟨sn_istore_n (k := 2) (dX_istore_2 (by decide +kernel)) rfl (by decide) (by decide +kernel), ?_⟩
  refine ⟨sn_aload_n (k := 0) (dX_aload_0 (by decide +kernel)) rfl (by decide +kernel), ?_⟩
  refine ⟨sn_getf (C := RX11) (T := TX11) (N := 18) (idx := 37) rfl pin11 (by decide) (by decide) rfl (pmt2 123 rfl (by decide +kernel)) rfl (dX_getfield (by decide +kernel)) (by decide +kernel), ?_⟩
  refine ⟨sn_callV (idx := 227) (C := RX4) (T := TX4) (N := 2) rfl (by decide) cal_127 (pmt4 81 rfl (by decide +kernel)) (pmt4 82 rfl (by decide +kernel)) (pmt4 83 rfl (by decide +kernel)) (dX_invokevirtual (by decide +kernel)) (by decide +kernel), ?_⟩
  refine ⟨sn_aload_n (k := 0) (dX_aload_0 (by decide +kernel)) rfl (by decide +kernel), ?_⟩
  refine ⟨sn_getf (C := RX11) (T := TX11) (N := 18) (idx := 37) rfl pin11 (by decide) (by decide) rfl (pmt2 123 rfl (by decide +kernel)) rfl (dX_getfield (by decide +kernel)) (by decide +kernel), ?_⟩
  refine ⟨sn_iload_n (k := 1) (dX_iload_1 (by decide +kernel)) rfl (by decide +kernel), ?_⟩
  refine ⟨sn_callV (idx := 230) (C := RX4) (T := TX4) (N := 2) rfl (by decide) cal_128 (pmt4 85 rfl (by decide +kernel)) (pmt4 86 rfl (by decide +kernel)) (pmt4 87 rfl (by decide +kernel)) (dX_invokevirtual (by decide +kernel)) (by decide +kernel), ?_⟩
  refine ⟨sn_aload_n (k := 0) (dX_aload_0 (by decide +kernel)) rfl (by decide +kernel), ?_⟩
  refine ⟨sn_getf (C := RX11) (T := TX11) (N := 18) (idx := 37) rfl pin11 (by decide) (by decide) rfl (pmt2 123 rfl (by decide +kernel)) rfl (dX_getfield (by decide +kernel)) (by decide +kernel), ?_⟩
  refine ⟨sn_iload_n (k := 2) (dX_iload_2 (by decide +kernel)) rfl (by decide +kernel), ?_⟩
  refine ⟨sn_callV (idx := 230) (C := RX4) (T := TX4) (N := 2) rfl (by decide) cal_128 (pmt4 85 rfl (by decide +kernel)) (pmt4 86 rfl (by decide +kernel)) (pmt4 87 rfl (by decide +kernel)) (dX_invokevirtual (by decide +kernel)) (by decide +kernel), ?_⟩
  refine ⟨sn_iload_n (k := 1) (dX_iload_1 (by decide +kernel)) rfl (by decide +kernel), ?_⟩
  refine ⟨sn_iload_n (k := 2) (dX_iload_2 (by decide +kernel)) rfl (by decide +kernel), ?_⟩
  refine ⟨sn_ior (dX_ior (by decide +kernel)) (by decide +kernel), ?_⟩
  refine ⟨sn_if_ne (off := 10) (dX_ifne (by decide +kernel)) (by decide +kernel) (by decide +kernel), ?_⟩
  refine ⟨sn_aload_n (k := 0) (dX_aload_0 (by decide +kernel)) rfl (by decide +kernel), ?_⟩
  refine ⟨sn_callV (idx := 234) (C := RX11) (T := TX11) (N := 18) rfl (by decide) cal_53 (pmt4 89 rfl (by decide +kernel)) (pmt4 91 rfl (by decide +kernel)) (pms 19 rfl rfl) (dX_invokevirtual (by decide +kernel)) (by decide +kernel), ?_⟩
  refine ⟨sn_goto (off := 4) (dX_goto (by decide +kernel)) (by decide +kernel), ?_⟩
  refine ⟨sn_iconst (dX_iconst_0 (by decide +kernel)) (by decide +kernel), ?_⟩
  refine ⟨sn_iret rfl (dX_ireturn (by decide +kernel)), ?_⟩
  trivial
set_option maxRecDepth 100000 in
set_option maxHeartbeats 4000000 in
theorem S_13 : pAll (pSk RX11 cX11_day 7 (some .int) PC_13) 0 C_13 := by
  refine ⟨sn_aload_n (k := 0) (dX_aload_0 (by decide +kernel)) rfl (by decide +kernel), ?_⟩
  refine ⟨sn_callV (idx := 238) (C := RX11) (T := TX11) (N := 18) rfl (by decide) cal_54 (pmt4 97 rfl (by decide +kernel)) (pmt4 99 rfl (by decide +kernel)) (pms 20 rfl rfl) (dX_invokevirtual (by decide +kernel)) (by decide +kernel), ?_⟩
  refine ⟨sn_istore_n (k := 1) (dX_istore_1 (by decide +kernel)) rfl (by decide) (by decide +kernel), ?_⟩
  refine ⟨sn_iload_n (k := 1) (dX_iload_1 (by decide +kernel)) rfl (by decide +kernel), ?_⟩
  refine ⟨sn_iconst (dX_iconst_m1 (by decide +kernel)) (by decide +kernel), ?_⟩
  refine ⟨sn_icmp_eq (off := 16) (dX_if_icmpeq (by decide +kernel)) (by decide +kernel) (by decide +kernel), ?_⟩
  refine ⟨sn_aload_n (k := 0) (dX_aload_0 (by decide +kernel)) rfl (by decide +kernel), ?_⟩
  refine ⟨sn_getf (C := RX11) (T := TX11) (N := 18) (idx := 10) rfl pin11 (by decide) (by decide) rfl (pmt2 120 rfl (by decide +kernel)) rfl (dX_getfield (by decide +kernel)) (by decide +kernel), ?_⟩
  refine ⟨sn_iconst (dX_iconst_0 (by decide +kernel)) (by decide +kernel), ?_⟩
  refine ⟨sn_callV (idx := 111) (C := RX8) (T := TX8) (N := 2) rfl (by decide) cal_153 (pmt2 187 rfl (by decide +kernel)) (pmt2 188 rfl (by decide +kernel)) (pmt2 189 rfl (by decide +kernel)) (dX_invokevirtual (by decide +kernel)) (by decide +kernel), ?_⟩
  refine ⟨sn_pop (dX_pop (by decide +kernel)) (by decide +kernel), ?_⟩
  refine ⟨sn_iconst (dX_iconst_m1 (by decide +kernel)) (by decide +kernel), ?_⟩
  refine ⟨sn_iload_n (k := 1) (dX_iload_1 (by decide +kernel)) rfl (by decide +kernel), ?_⟩
  refine ⟨sn_isub (dX_isub (by decide +kernel)) (by decide +kernel), ?_⟩
  refine ⟨sn_iret rfl (dX_ireturn (by decide +kernel)), ?_⟩
  refine ⟨sn_aload_n (k := 0) (dX_aload_0 (by decide +kernel)) rfl (by decide +kernel), ?_⟩
  refine ⟨sn_getf (C := RX11) (T := TX11) (N := 18) (idx := 10) rfl pin11 (by decide) (by decide) rfl (pmt2 120 rfl (by decide +kernel)) rfl (dX_getfield (by decide +kernel)) (by decide +kernel), ?_⟩
  refine ⟨sn_getf (C := RX8) (T := TX8) (N := 2) (idx := 108) rfl pin8 (by decide) (by decide) rfl (pmt1 43 rfl (by decide +kernel)) rfl (dX_getfield (by decide +kernel)) (by decide +kernel), ?_⟩
  refine ⟨sn_iconst (dX_iconst_1 (by decide +kernel)) (by decide +kernel), ?_⟩
  refine ⟨sn_iadd (dX_iadd (by decide +kernel)) (by decide +kernel), ?_⟩
  refine ⟨sn_iconst (dX_iconst_4 (by decide +kernel)) (by decide +kernel), ?_⟩
  refine ⟨sn_idiv (dX_idiv (by decide +kernel)) (by decide +kernel), ?_⟩
  refine ⟨sn_istore_n (k := 2) (dX_istore_2 (by decide +kernel)) rfl (by decide) (by decide +kernel), ?_⟩
  refine ⟨sn_iconst (dX_iconst_0 (by decide +kernel)) (by decide +kernel), ?_⟩
  refine ⟨sn_istore_n (k := 3) (dX_istore_3 (by decide +kernel)) rfl (by decide) (by decide +kernel), ?_⟩
  refine ⟨sn_iconst (dX_iconst_0 (by decide +kernel)) (by decide +kernel), ?_⟩
  refine ⟨sn_istore (dX_istore (by decide +kernel)) (by decide) (by decide +kernel), ?_⟩
  refine ⟨sn_iconst (dX_iconst_0 (by decide +kernel)) (by decide +kernel), ?_⟩
  refine ⟨sn_istore (dX_istore (by decide +kernel)) (by decide) (by decide +kernel), ?_⟩
  refine ⟨sn_iload (dX_iload (by decide +kernel)) (by decide +kernel), ?_⟩
  refine ⟨sn_iload_n (k := 2) (dX_iload_2 (by decide +kernel)) rfl (by decide +kernel), ?_⟩
  refine ⟨sn_icmp_ge (off := 61) (dX_if_icmpge (by decide +kernel)) (by decide +kernel) (by decide +kernel), ?_⟩
  refine ⟨sn_aload_n (k := 0) (dX_aload_0 (by decide +kernel)) rfl (by decide +kernel), ?_⟩
  refine ⟨sn_aload_n (k := 0) (dX_aload_0 (by decide +kernel)) rfl (by decide +kernel), ?_⟩
  refine ⟨sn_getf (C := RX11) (T := TX11) (N := 18) (idx := 10) rfl pin11 (by decide) (by decide) rfl (pmt2 120 rfl (by decide +kernel)) rfl (dX_getfield (by decide +kernel)) (by decide +kernel), ?_⟩
  refine ⟨sn_iload (dX_iload (by decide +kernel)) (by decide +kernel), ?_⟩
  refine ⟨sn_iconst (dX_iconst_4 (by decide +kernel)) (by decide +kernel), ?_⟩
  refine ⟨sn_imul (dX_imul (by decide +kernel)) (by decide +kernel), ?_⟩
  refine ⟨sn_callV (idx := 241) (C := RX8) (T := TX8) (N := 2) rfl (by decide) cal_154 (pmt4 111 rfl (by decide +kernel)) (pmt4 112 rfl (by decide +kernel)) (pmt4 113 rfl (by decide +kernel)) (dX_invokevirtual (by decide +kernel)) (by decide +kernel), ?_⟩
  refine ⟨sn_bipush (dX_bipush (by decide +kernel)) (by decide +kernel) (by decide +kernel), ?_⟩
  refine ⟨sn_isub (dX_isub (by decide +kernel)) (by decide +kernel), ?_⟩
  refine ⟨sn_aload_n (k := 0) (dX_aload_0 (by decide +kernel)) rfl (by decide +kernel), ?_⟩
  refine ⟨sn_getf (C := RX11) (T := TX11) (N := 18) (idx := 10) rfl pin11 (by decide) (by decide) rfl (pmt2 120 rfl (by decide +kernel)) rfl (dX_getfield (by decide +kernel)) (by decide +kernel), ?_⟩
  refine ⟨sn_iload (dX_iload (by decide +kernel)) (by decide +kernel), ?_⟩
  refine ⟨sn_iconst (dX_iconst_4 (by decide +kernel)) (by decide +kernel), ?_⟩
  refine ⟨sn_imul (dX_imul (by decide +kernel)) (by decide +kernel), ?_⟩
  refine ⟨sn_iconst (dX_iconst_2 (by decide +kernel)) (by decide +kernel), ?_⟩
  refine ⟨sn_iadd (dX_iadd (by decide +kernel)) (by decide +kernel), ?_⟩
  refine ⟨sn_callV (idx := 241) (C := RX8) (T := TX8) (N := 2) rfl (by decide) cal_154 (pmt4 111 rfl (by decide +kernel)) (pmt4 112 rfl (by decide +kernel)) (pmt4 113 rfl (by decide +kernel)) (dX_invokevirtual (by decide +kernel)) (by decide +kernel), ?_⟩
  refine ⟨sn_bipush (dX_bipush (by decide +kernel)) (by decide +kernel) (by decide +kernel), ?_⟩
  refine ⟨sn_isub (dX_isub (by decide +kernel)) (by decide +kernel), ?_⟩
  refine ⟨sn_callV (idx := 244) (C := RX11) (T := TX11) (N := 18) rfl (by decide) cal_11 (pmt4 116 rfl (by decide +kernel)) (pmt4 12 rfl (by decide +kernel)) (pmt4 13 rfl (by decide +kernel)) (dX_invokevirtual (by decide +kernel)) (by decide +kernel), ?_⟩
  refine ⟨sn_istore (dX_istore (by decide +kernel)) (by decide) (by decide +kernel), ?_⟩
  refine ⟨sn_iload (dX_iload (by decide +kernel)) (by decide +kernel), ?_⟩
  refine ⟨sn_if_ge (off := 6) (dX_ifge (by decide +kernel)) (by decide +kernel) (by decide +kernel), ?_⟩
  refine ⟨sn_goto (off := 17) (dX_goto (by decide +kernel)) (by decide +kernel), ?_⟩
  refine ⟨sn_iload_n (k := 3) (dX_iload_3 (by decide +kernel)) rfl (by decide +kernel), ?_⟩
  refine ⟨sn_iload (dX_iload (by decide +kernel)) (by decide +kernel), ?_⟩
  refine ⟨sn_iadd (dX_iadd (by decide +kernel)) (by decide +kernel), ?_⟩
  refine ⟨sn_istore_n (k := 3) (dX_istore_3 (by decide +kernel)) rfl (by decide) (by decide +kernel), ?_⟩
  refine ⟨sn_iinc (dX_iinc (by decide +kernel)) (by decide) (by decide +kernel), ?_⟩
  refine ⟨sn_iinc (dX_iinc (by decide +kernel)) (by decide) (by decide +kernel), ?_⟩
  refine ⟨sn_goto (off := -61) (dX_goto (by decide +kernel)) (by decide +kernel), ?_⟩
  refine ⟨sn_aload_n (k := 0) (dX_aload_0 (by decide +kernel)) rfl (by decide +kernel), ?_⟩
  refine ⟨sn_getf (C := RX11) (T := TX11) (N := 18) (idx := 10) rfl pin11 (by decide) (by decide) rfl (pmt2 120 rfl (by decide +kernel)) rfl (dX_getfield (by decide +kernel)) (by decide +kernel), ?_⟩
  refine ⟨sn_iconst (dX_iconst_0 (by decide +kernel)) (by decide +kernel), ?_⟩
  refine ⟨sn_callV (idx := 111) (C := RX8) (T := TX8) (N := 2) rfl (by decide) cal_153 (pmt2 187 rfl (by decide +kernel)) (pmt2 188 rfl (by decide +kernel)) (pmt2 189 rfl (by decide +kernel)) (dX_invokevirtual (by decide +kernel)) (by decide +kernel), ?_⟩
  refine ⟨sn_pop (dX_pop (by decide +kernel)) (by decide +kernel), ?_⟩
  refine ⟨sn_iload (dX_iload (by decide +kernel)) (by decide +kernel), ?_⟩
  refine ⟨sn_iload_n (k := 2) (dX_iload_2 (by decide +kernel)) rfl (by decide +kernel), ?_⟩
  refine ⟨sn_icmp_ge (off := 7) (dX_if_icmpge (by decide +kernel)) (by decide +kernel) (by decide +kernel), ?_⟩
  refine ⟨sn_iconst (dX_iconst_m1 (by decide +kernel)) (by decide +kernel), ?_⟩
  refine ⟨sn_goto (off := 28) (dX_goto (by decide +kernel)) (by decide +kernel), ?_⟩
  refine ⟨sn_aload_n (k := 0) (dX_aload_0 (by decide +kernel)) rfl (by decide +kernel), ?_⟩
  refine ⟨sn_getf (C := RX11) (T := TX11) (N := 18) (idx := 44) rfl pin11 (by decide) (by decide) rfl (pmt2 124 rfl (by decide +kernel)) rfl (dX_getfield (by decide +kernel)) (by decide +kernel), ?_⟩
  refine ⟨sn_aload_n (k := 0) (dX_aload_0 (by decide +kernel)) rfl (by decide +kernel), ?_⟩
  refine ⟨sn_getf (C := RX11) (T := TX11) (N := 18) (idx := 44) rfl pin11 (by decide) (by decide) rfl (pmt2 124 rfl (by decide +kernel)) rfl (dX_getfield (by decide +kernel)) (by decide +kernel), ?_⟩
  refine ⟨sn_getf (C := RX0) (T := TX0) (N := 13) (idx := 150) rfl pin0 (by decide) (by decide) rfl (pmt1 123 rfl (by decide +kernel)) rfl (dX_getfield (by decide +kernel)) (by decide +kernel), ?_⟩
  refine ⟨sn_callV (idx := 247) (C := RX0) (T := TX0) (N := 13) rfl (by decide) cal_91 (pmt4 117 rfl (by decide +kernel)) (pmt4 118 rfl (by decide +kernel)) (pmt4 119 rfl (by decide +kernel)) (dX_invokevirtual (by decide +kernel)) (by decide +kernel), ?_⟩
  refine ⟨sn_if_eq (off := 10) (dX_ifeq (by decide +kernel)) (by decide +kernel) (by decide +kernel), ?_⟩
  refine ⟨sn_aload_n (k := 0) (dX_aload_0 (by decide +kernel)) rfl (by decide +kernel), ?_⟩
  refine ⟨sn_callV (idx := 234) (C := RX11) (T := TX11) (N := 18) rfl (by decide) cal_53 (pmt4 89 rfl (by decide +kernel)) (pmt4 91 rfl (by decide +kernel)) (pms 19 rfl rfl) (dX_invokevirtual (by decide +kernel)) (by decide +kernel), ?_⟩
  refine ⟨sn_goto (off := 4) (dX_goto (by decide +kernel)) (by decide +kernel), ?_⟩
  refine ⟨sn_iconst (dX_iconst_0 (by decide +kernel)) (by decide +kernel), ?_⟩
  refine ⟨sn_istore (dX_istore (by decide +kernel)) (by decide) (by decide +kernel), ?_⟩
  refine ⟨sn_aload_n (k := 0) (dX_aload_0 (by decide +kernel)) rfl (by decide +kernel), ?_⟩
  refine ⟨sn_getf (C := RX11) (T := TX11) (N := 18) (idx := 37) rfl pin11 (by decide) (by decide) rfl (pmt2 123 rfl (by decide +kernel)) rfl (dX_getfield (by decide +kernel)) (by decide +kernel), ?_⟩
  refine ⟨sn_callV (idx := 227) (C := RX4) (T := TX4) (N := 2) rfl (by decide) cal_127 (pmt4 81 rfl (by decide +kernel)) (pmt4 82 rfl (by decide +kernel)) (pmt4 83 rfl (by decide +kernel)) (dX_invokevirtual (by decide +kernel)) (by decide +kernel), ?_⟩
  refine ⟨sn_aload_n (k := 0) (dX_aload_0 (by decide +kernel)) rfl (by decide +kernel), ?_⟩
  refine ⟨sn_getf (C := RX11) (T := TX11) (N := 18) (idx := 37) rfl pin11 (by decide) (by decide) rfl (pmt2 123 rfl (by decide +kernel)) rfl (dX_getfield (by decide +kernel)) (by decide +kernel), ?_⟩
  refine ⟨sn_iload (dX_iload (by decide +kernel)) (by decide +kernel), ?_⟩
  refine ⟨sn_callV (idx := 230) (C := RX4) (T := TX4) (N := 2) rfl (by decide) cal_128 (pmt4 85 rfl (by decide +kernel)) (pmt4 86 rfl (by decide +kernel)) (pmt4 87 rfl (by decide +kernel)) (dX_invokevirtual (by decide +kernel)) (by decide +kernel), ?_⟩
  refine ⟨sn_aload_n (k := 0) (dX_aload_0 (by decide +kernel)) rfl (by decide +kernel), ?_⟩
  refine ⟨sn_getf (C := RX11) (T := TX11) (N := 18) (idx := 37) rfl pin11 (by decide) (by decide) rfl (pmt2 123 rfl (by decide +kernel)) rfl (dX_getfield (by decide +kernel)) (by decide +kernel), ?_⟩
  refine ⟨sn_iload_n (k := 3) (dX_iload_3 (by decide +kernel)) rfl (by decide +kernel), ?_⟩
  refine ⟨sn_callV (idx := 230) (C := RX4) (T := TX4) (N := 2) rfl (by decide) cal_128 (pmt4 85 rfl (by decide +kernel)) (pmt4 86 rfl (by decide +kernel)) (pmt4 87 rfl (by decide +kernel)) (dX_invokevirtual (by decide +kernel)) (by decide +kernel), ?_⟩
  refine ⟨sn_iload (dX_iload (by decide +kernel)) (by decide +kernel), ?_⟩
  refine ⟨sn_iret rfl (dX_ireturn (by decide +kernel)), ?_⟩
  trivial
set_option maxRecDepth 100000 in
set_option maxHeartbeats 4000000 in
theorem S_14 : pAll (pSk RX11 cX11_undo 2 (some .int) PC_14) 0 C_14 := by
  refine ⟨sn_aload_n (k := 0) (dX_aload_0 (by decide +kernel)) rfl (by decide +kernel), ?_⟩
  refine ⟨sn_getf (C := RX11) (T := TX11) (N := 18) (idx := 68) rfl pin11 (by decide) (by decide) rfl (pmt2 128 rfl (by decide +kernel)) rfl (dX_getfield (by decide +kernel)) (by decide +kernel), ?_⟩
  refine ⟨sn_getf (C := RX5) (T := TX5) (N := 4) (idx := 251) rfl pin5 (by decide) (by decide) rfl (pmt2 20 rfl (by decide +kernel)) rfl (dX_getfield (by decide +kernel)) (by decide +kernel), ?_⟩
  refine ⟨sn_if_ne (off := 5) (dX_ifne (by decide +kernel)) (by decide +kernel) (by decide +kernel), ?_⟩
  refine ⟨sn_iconst (dX_iconst_m1 (by decide +kernel)) (by decide +kernel), ?_⟩
  refine ⟨sn_iret rfl (dX_ireturn (by decide +kernel)), ?_⟩
  refine ⟨sn_aload_n (k := 0) (dX_aload_0 (by decide +kernel)) rfl (by decide +kernel), ?_⟩
  refine ⟨sn_getf (C := RX11) (T := TX11) (N := 18) (idx := 68) rfl pin11 (by decide) (by decide) rfl (pmt2 128 rfl (by decide +kernel)) rfl (dX_getfield (by decide +kernel)) (by decide +kernel), ?_⟩
  refine ⟨sn_dup (dX_dup (by decide +kernel)) (by decide +kernel), ?_⟩
  refine ⟨sn_getf (C := RX5) (T := TX5) (N := 4) (idx := 251) rfl pin5 (by decide) (by decide) rfl (pmt2 20 rfl (by decide +kernel)) rfl (dX_getfield (by decide +kernel)) (by decide +kernel), ?_⟩
  refine ⟨sn_iconst (dX_iconst_1 (by decide +kernel)) (by decide +kernel), ?_⟩
  refine ⟨sn_isub (dX_isub (by decide +kernel)) (by decide +kernel), ?_⟩
  refine ⟨sn_puti (C := RX5) (T := TX5) (N := 4) (idx := 251) rfl pin5 (by decide) (by decide) rfl tyX5 tyX5_ok nmX5 rfl rfl (by decide +kernel) (pmt2 20 rfl (by decide +kernel)) rfl (dX_putfield (by decide +kernel)) (by decide +kernel), ?_⟩
  refine ⟨sn_aload_n (k := 0) (dX_aload_0 (by decide +kernel)) rfl (by decide +kernel), ?_⟩
  refine ⟨sn_getf (C := RX11) (T := TX11) (N := 18) (idx := 68) rfl pin11 (by decide) (by decide) rfl (pmt2 128 rfl (by decide +kernel)) rfl (dX_getfield (by decide +kernel)) (by decide +kernel), ?_⟩
  refine ⟨sn_getf (C := RX5) (T := TX5) (N := 4) (idx := 254) rfl pin5 (by decide) (by decide) rfl (pmt2 14 rfl (by decide +kernel)) rfl (dX_getfield (by decide +kernel)) (by decide +kernel), ?_⟩
  refine ⟨sn_aload_n (k := 0) (dX_aload_0 (by decide +kernel)) rfl (by decide +kernel), ?_⟩
  refine ⟨sn_getf (C := RX11) (T := TX11) (N := 18) (idx := 68) rfl pin11 (by decide) (by decide) rfl (pmt2 128 rfl (by decide +kernel)) rfl (dX_getfield (by decide +kernel)) (by decide +kernel), ?_⟩
  refine ⟨sn_getf (C := RX5) (T := TX5) (N := 4) (idx := 251) rfl pin5 (by decide) (by decide) rfl (pmt2 20 rfl (by decide +kernel)) rfl (dX_getfield (by decide +kernel)) (by decide +kernel), ?_⟩
  refine ⟨sn_callS (idx := 257) cal_47 (pmt4 24 rfl (by decide +kernel)) (pmt4 25 rfl (by decide +kernel)) (dX_invokestatic (by decide +kernel)) (by decide +kernel), ?_⟩
  refine ⟨sn_istore_n (k := 1) (dX_istore_1 (by decide +kernel)) rfl (by decide) (by decide +kernel), ?_⟩
  refine ⟨sn_aload_n (k := 0) (dX_aload_0 (by decide +kernel)) rfl (by decide +kernel), ?_⟩
  refine ⟨sn_getf (C := RX11) (T := TX11) (N := 18) (idx := 44) rfl pin11 (by decide) (by decide) rfl (pmt2 124 rfl (by decide +kernel)) rfl (dX_getfield (by decide +kernel)) (by decide +kernel), ?_⟩
  refine ⟨sn_iload_n (k := 1) (dX_iload_1 (by decide +kernel)) rfl (by decide +kernel), ?_⟩
  refine ⟨sn_callV (idx := 164) (C := RX0) (T := TX0) (N := 13) rfl (by decide) cal_64 (pmt4 19 rfl (by decide +kernel)) (pmt4 20 rfl (by decide +kernel)) (pmt4 21 rfl (by decide +kernel)) (dX_invokevirtual (by decide +kernel)) (by decide +kernel), ?_⟩
  refine ⟨sn_if_eq (off := 29) (dX_ifeq (by decide +kernel)) (by decide +kernel) (by decide +kernel), ?_⟩
  refine ⟨sn_aload_n (k := 0) (dX_aload_0 (by decide +kernel)) rfl (by decide +kernel), ?_⟩
  refine ⟨sn_getf (C := RX11) (T := TX11) (N := 18) (idx := 44) rfl pin11 (by decide) (by decide) rfl (pmt2 124 rfl (by decide +kernel)) rfl (dX_getfield (by decide +kernel)) (by decide +kernel), ?_⟩
  refine ⟨sn_getf (C := RX0) (T := TX0) (N := 13) (idx := 150) rfl pin0 (by decide) (by decide) rfl (pmt1 123 rfl (by decide +kernel)) rfl (dX_getfield (by decide +kernel)) (by decide +kernel), ?_⟩
  refine ⟨sn_iload_n (k := 1) (dX_iload_1 (by decide +kernel)) rfl (by decide +kernel), ?_⟩
  refine ⟨sn_aload_n (k := 0) (dX_aload_0 (by decide +kernel)) rfl (by decide +kernel), ?_⟩
  refine ⟨sn_getf (C := RX11) (T := TX11) (N := 18) (idx := 68) rfl pin11 (by decide) (by decide) rfl (pmt2 128 rfl (by decide +kernel)) rfl (dX_getfield (by decide +kernel)) (by decide +kernel), ?_⟩
  refine ⟨sn_getf (C := RX5) (T := TX5) (N := 4) (idx := 261) rfl pin5 (by decide) (by decide) rfl (pmt2 16 rfl (by decide +kernel)) rfl (dX_getfield (by decide +kernel)) (by decide +kernel), ?_⟩
  refine ⟨sn_aload_n (k := 0) (dX_aload_0 (by decide +kernel)) rfl (by decide +kernel), ?_⟩
  refine ⟨sn_getf (C := RX11) (T := TX11) (N := 18) (idx := 68) rfl pin11 (by decide) (by decide) rfl (pmt2 128 rfl (by decide +kernel)) rfl (dX_getfield (by decide +kernel)) (by decide +kernel), ?_⟩
  refine ⟨sn_getf (C := RX5) (T := TX5) (N := 4) (idx := 251) rfl pin5 (by decide) (by decide) rfl (pmt2 20 rfl (by decide +kernel)) rfl (dX_getfield (by decide +kernel)) (by decide +kernel), ?_⟩
  refine ⟨sn_callS (idx := 257) cal_47 (pmt4 24 rfl (by decide +kernel)) (pmt4 25 rfl (by decide +kernel)) (dX_invokestatic (by decide +kernel)) (by decide +kernel), ?_⟩
  refine ⟨sn_iast (dX_iastore (by decide +kernel)) (by decide +kernel), ?_⟩
  refine ⟨sn_aload_n (k := 0) (dX_aload_0 (by decide +kernel)) rfl (by decide +kernel), ?_⟩
  refine ⟨sn_aload_n (k := 0) (dX_aload_0 (by decide +kernel)) rfl (by decide +kernel), ?_⟩
  refine ⟨sn_getf (C := RX11) (T := TX11) (N := 18) (idx := 68) rfl pin11 (by decide) (by decide) rfl (pmt2 128 rfl (by decide +kernel)) rfl (dX_getfield (by decide +kernel)) (by decide +kernel), ?_⟩
  refine ⟨sn_getf (C := RX5) (T := TX5) (N := 4) (idx := 264) rfl pin5 (by decide) (by decide) rfl (pmt2 18 rfl (by decide +kernel)) rfl (dX_getfield (by decide +kernel)) (by decide +kernel), ?_⟩
  refine ⟨sn_aload_n (k := 0) (dX_aload_0 (by decide +kernel)) rfl (by decide +kernel), ?_⟩
  refine ⟨sn_getf (C := RX11) (T := TX11) (N := 18) (idx := 68) rfl pin11 (by decide) (by decide) rfl (pmt2 128 rfl (by decide +kernel)) rfl (dX_getfield (by decide +kernel)) (by decide +kernel), ?_⟩
  refine ⟨sn_getf (C := RX5) (T := TX5) (N := 4) (idx := 251) rfl pin5 (by decide) (by decide) rfl (pmt2 20 rfl (by decide +kernel)) rfl (dX_getfield (by decide +kernel)) (by decide +kernel), ?_⟩
  refine ⟨sn_callS (idx := 257) cal_47 (pmt4 24 rfl (by decide +kernel)) (pmt4 25 rfl (by decide +kernel)) (dX_invokestatic (by decide +kernel)) (by decide +kernel), ?_⟩
  refine ⟨sn_puti (C := RX11) (T := TX11) (N := 18) (idx := 210) rfl pin11 (by decide) (by decide) rfl tyX11 tyX11_ok nmX11 rfl rfl (by decide +kernel) (pmt2 136 rfl (by decide +kernel)) rfl (dX_putfield (by decide +kernel)) (by decide +kernel), ?_⟩
  refine ⟨sn_aload_n (k := 0) (dX_aload_0 (by decide +kernel)) rfl (by decide +kernel), ?_⟩
  refine ⟨sn_getf (C := RX11) (T := TX11) (N := 18) (idx := 68) rfl pin11 (by decide) (by decide) rfl (pmt2 128 rfl (by decide +kernel)) rfl (dX_getfield (by decide +kernel)) (by decide +kernel), ?_⟩
  refine ⟨sn_getf (C := RX5) (T := TX5) (N := 4) (idx := 251) rfl pin5 (by decide) (by decide) rfl (pmt2 20 rfl (by decide +kernel)) rfl (dX_getfield (by decide +kernel)) (by decide +kernel), ?_⟩
  refine ⟨sn_iret rfl (dX_ireturn (by decide +kernel)), ?_⟩
  trivial
set_option maxRecDepth 100000 in
set_option maxHeartbeats 4000000 in
theorem S_15 : pAll (pSk RX11 cX11_judge 8 (some .int) PC_15) 0 C_15 := by
  refine ⟨sn_iload_n (k := 1) (dX_iload_1 (by decide +kernel)) rfl (by decide +kernel), ?_⟩
  refine ⟨sn_if_lt (off := 8) (dX_iflt (by decide +kernel)) (by decide +kernel) (by decide +kernel), ?_⟩
  refine ⟨sn_iload_n (k := 1) (dX_iload_1 (by decide +kernel)) rfl (by decide +kernel), ?_⟩
  refine ⟨sn_iconst (dX_iconst_4 (by decide +kernel)) (by decide +kernel), ?_⟩
  refine ⟨sn_icmp_le (off := 5) (dX_if_icmple (by decide +kernel)) (by decide +kernel) (by decide +kernel), ?_⟩
  refine ⟨sn_iconst (dX_iconst_m1 (by decide +kernel)) (by decide +kernel), ?_⟩
  refine ⟨sn_iret rfl (dX_ireturn (by decide +kernel)), ?_⟩
  refine ⟨sn_aload_n (k := 0) (dX_aload_0 (by decide +kernel)) rfl (by decide +kernel), ?_⟩
  refine ⟨sn_getf (C := RX11) (T := TX11) (N := 18) (idx := 44) rfl pin11 (by decide) (by decide) rfl (pmt2 124 rfl (by decide +kernel)) rfl (dX_getfield (by decide +kernel)) (by decide +kernel), ?_⟩
  refine ⟨sn_getf (C := RX0) (T := TX0) (N := 13) (idx := 150) rfl pin0 (by decide) (by decide) rfl (pmt1 123 rfl (by decide +kernel)) rfl (dX_getfield (by decide +kernel)) (by decide +kernel), ?_⟩
  refine ⟨sn_aload_n (k := 0) (dX_aload_0 (by decide +kernel)) rfl (by decide +kernel), ?_⟩
  refine ⟨sn_getf (C := RX11) (T := TX11) (N := 18) (idx := 97) rfl pin11 (by decide) (by decide) rfl (pmt2 133 rfl (by decide +kernel)) rfl (dX_getfield (by decide +kernel)) (by decide +kernel), ?_⟩
  refine ⟨sn_callS (idx := 266) cal_48 (pmt4 131 rfl (by decide +kernel)) (pmt2 200 rfl (by decide +kernel)) (dX_invokestatic (by decide +kernel)) (by decide +kernel), ?_⟩
  refine ⟨sn_iconst (dX_iconst_0 (by decide +kernel)) (by decide +kernel), ?_⟩
  refine ⟨sn_istore_n (k := 3) (dX_istore_3 (by decide +kernel)) rfl (by decide) (by decide +kernel), ?_⟩
  refine ⟨sn_bipush (dX_bipush (by decide +kernel)) (by decide +kernel) (by decide +kernel), ?_⟩
  refine ⟨sn_istore (dX_istore (by decide +kernel)) (by decide) (by decide +kernel), ?_⟩
  refine ⟨sn_iconst (dX_iconst_0 (by decide +kernel)) (by decide +kernel), ?_⟩
  refine ⟨sn_istore (dX_istore (by decide +kernel)) (by decide) (by decide +kernel), ?_⟩
  refine ⟨sn_iload (dX_iload (by decide +kernel)) (by decide +kernel), ?_⟩
  refine ⟨sn_iload_n (k := 1) (dX_iload_1 (by decide +kernel)) rfl (by decide +kernel), ?_⟩
  refine ⟨sn_icmp_ge (off := 86) (dX_if_icmpge (by decide +kernel)) (by decide +kernel) (by decide +kernel), ?_⟩
  refine ⟨sn_iload (dX_iload (by decide +kernel)) (by decide +kernel), ?_⟩
  refine ⟨sn_bipush (dX_bipush (by decide +kernel)) (by decide +kernel) (by decide +kernel), ?_⟩
  refine ⟨sn_icmp_ne (off := 79) (dX_if_icmpne (by decide +kernel)) (by decide +kernel) (by decide +kernel), ?_⟩
  refine ⟨sn_iload_n (k := 2) (dX_iload_2 (by decide +kernel)) rfl (by decide +kernel), ?_⟩
  refine ⟨sn_bipush (dX_bipush (by decide +kernel)) (by decide +kernel) (by decide +kernel), ?_⟩
  refine ⟨sn_iload (dX_iload (by decide +kernel)) (by decide +kernel), ?_⟩
  refine ⟨sn_imul (dX_imul (by decide +kernel)) (by decide +kernel), ?_⟩
  refine ⟨sn_ishr (dX_ishr (by decide +kernel)) (by decide +kernel), ?_⟩
  refine ⟨sn_bipush (dX_bipush (by decide +kernel)) (by decide +kernel) (by decide +kernel), ?_⟩
  refine ⟨sn_iand (dX_iand (by decide +kernel)) (by decide +kernel), ?_⟩
  refine ⟨sn_istore (dX_istore (by decide +kernel)) (by decide) (by decide +kernel), ?_⟩
  refine ⟨sn_aload_n (k := 0) (dX_aload_0 (by decide +kernel)) rfl (by decide +kernel), ?_⟩
  refine ⟨sn_iload (dX_iload (by decide +kernel)) (by decide +kernel), ?_⟩
  refine ⟨sn_bipush (dX_bipush (by decide +kernel)) (by decide +kernel) (by decide +kernel), ?_⟩
  refine ⟨sn_idiv (dX_idiv (by decide +kernel)) (by decide +kernel), ?_⟩
  refine ⟨sn_iload (dX_iload (by decide +kernel)) (by decide +kernel), ?_⟩
  refine ⟨sn_bipush (dX_bipush (by decide +kernel)) (by decide +kernel) (by decide +kernel), ?_⟩
  refine ⟨sn_irem (dX_irem (by decide +kernel)) (by decide +kernel), ?_⟩
  refine ⟨sn_aload_n (k := 0) (dX_aload_0 (by decide +kernel)) rfl (by decide +kernel), ?_⟩
  refine ⟨sn_getf (C := RX11) (T := TX11) (N := 18) (idx := 97) rfl pin11 (by decide) (by decide) rfl (pmt2 133 rfl (by decide +kernel)) rfl (dX_getfield (by decide +kernel)) (by decide +kernel), ?_⟩
  refine ⟨sn_aload_n (k := 0) (dX_aload_0 (by decide +kernel)) rfl (by decide +kernel), ?_⟩
  refine ⟨sn_getf (C := RX11) (T := TX11) (N := 18) (idx := 210) rfl pin11 (by decide) (by decide) rfl (pmt2 136 rfl (by decide +kernel)) rfl (dX_getfield (by decide +kernel)) (by decide +kernel), ?_⟩
  refine ⟨sn_iload_n (k := 3) (dX_iload_3 (by decide +kernel)) rfl (by decide +kernel), ?_⟩
  refine ⟨sn_iadd (dX_iadd (by decide +kernel)) (by decide +kernel), ?_⟩
  refine ⟨sn_callV (idx := 213) (C := RX11) (T := TX11) (N := 18) rfl (by decide) cal_51 (pmt4 15 rfl (by decide +kernel)) (pmt4 17 rfl (by decide +kernel)) (pms 14 rfl rfl) (dX_invokevirtual (by decide +kernel)) (by decide +kernel), ?_⟩
  refine ⟨sn_istore (dX_istore (by decide +kernel)) (by decide) (by decide +kernel), ?_⟩
  refine ⟨sn_iload (dX_iload (by decide +kernel)) (by decide +kernel), ?_⟩
  refine ⟨sn_if_ge (off := 10) (dX_ifge (by decide +kernel)) (by decide +kernel) (by decide +kernel), ?_⟩
  refine ⟨sn_iload (dX_iload (by decide +kernel)) (by decide +kernel), ?_⟩
  refine ⟨sn_istore (dX_istore (by decide +kernel)) (by decide) (by decide +kernel), ?_⟩
  refine ⟨sn_goto (off := 23) (dX_goto (by decide +kernel)) (by decide +kernel), ?_⟩
  refine ⟨sn_aload_n (k := 0) (dX_aload_0 (by decide +kernel)) rfl (by decide +kernel), ?_⟩
  refine ⟨sn_getf (C := RX11) (T := TX11) (N := 18) (idx := 97) rfl pin11 (by decide) (by decide) rfl (pmt2 133 rfl (by decide +kernel)) rfl (dX_getfield (by decide +kernel)) (by decide +kernel), ?_⟩
  refine ⟨sn_iload (dX_iload (by decide +kernel)) (by decide +kernel), ?_⟩
  refine ⟨sn_bipush (dX_bipush (by decide +kernel)) (by decide +kernel) (by decide +kernel), ?_⟩
  refine ⟨sn_idiv (dX_idiv (by decide +kernel)) (by decide +kernel), ?_⟩
  refine ⟨sn_iload (dX_iload (by decide +kernel)) (by decide +kernel), ?_⟩
  refine ⟨sn_bipush (dX_bipush (by decide +kernel)) (by decide +kernel) (by decide +kernel), ?_⟩
  refine ⟨sn_irem (dX_irem (by decide +kernel)) (by decide +kernel), ?_⟩
  refine ⟨sn_iast (dX_iastore (by decide +kernel)) (by decide +kernel), ?_⟩
  refine ⟨sn_iload_n (k := 3) (dX_iload_3 (by decide +kernel)) rfl (by decide +kernel), ?_⟩
  refine ⟨sn_iload (dX_iload (by decide +kernel)) (by decide +kernel), ?_⟩
  refine ⟨sn_iadd (dX_iadd (by decide +kernel)) (by decide +kernel), ?_⟩
  refine ⟨sn_istore_n (k := 3) (dX_istore_3 (by decide +kernel)) rfl (by decide) (by decide +kernel), ?_⟩
  refine ⟨sn_iinc (dX_iinc (by decide +kernel)) (by decide) (by decide +kernel), ?_⟩
  refine ⟨sn_goto (off := -86) (dX_goto (by decide +kernel)) (by decide +kernel), ?_⟩
  refine ⟨sn_aload_n (k := 0) (dX_aload_0 (by decide +kernel)) rfl (by decide +kernel), ?_⟩
  refine ⟨sn_getf (C := RX11) (T := TX11) (N := 18) (idx := 37) rfl pin11 (by decide) (by decide) rfl (pmt2 123 rfl (by decide +kernel)) rfl (dX_getfield (by decide +kernel)) (by decide +kernel), ?_⟩
  refine ⟨sn_callV (idx := 227) (C := RX4) (T := TX4) (N := 2) rfl (by decide) cal_127 (pmt4 81 rfl (by decide +kernel)) (pmt4 82 rfl (by decide +kernel)) (pmt4 83 rfl (by decide +kernel)) (dX_invokevirtual (by decide +kernel)) (by decide +kernel), ?_⟩
  refine ⟨sn_aload_n (k := 0) (dX_aload_0 (by decide +kernel)) rfl (by decide +kernel), ?_⟩
  refine ⟨sn_getf (C := RX11) (T := TX11) (N := 18) (idx := 37) rfl pin11 (by decide) (by decide) rfl (pmt2 123 rfl (by decide +kernel)) rfl (dX_getfield (by decide +kernel)) (by decide +kernel), ?_⟩
  refine ⟨sn_iload_n (k := 3) (dX_iload_3 (by decide +kernel)) rfl (by decide +kernel), ?_⟩
  refine ⟨sn_callV (idx := 230) (C := RX4) (T := TX4) (N := 2) rfl (by decide) cal_128 (pmt4 85 rfl (by decide +kernel)) (pmt4 86 rfl (by decide +kernel)) (pmt4 87 rfl (by decide +kernel)) (dX_invokevirtual (by decide +kernel)) (by decide +kernel), ?_⟩
  refine ⟨sn_aload_n (k := 0) (dX_aload_0 (by decide +kernel)) rfl (by decide +kernel), ?_⟩
  refine ⟨sn_getf (C := RX11) (T := TX11) (N := 18) (idx := 37) rfl pin11 (by decide) (by decide) rfl (pmt2 123 rfl (by decide +kernel)) rfl (dX_getfield (by decide +kernel)) (by decide +kernel), ?_⟩
  refine ⟨sn_aload_n (k := 0) (dX_aload_0 (by decide +kernel)) rfl (by decide +kernel), ?_⟩
  refine ⟨sn_getf (C := RX11) (T := TX11) (N := 18) (idx := 44) rfl pin11 (by decide) (by decide) rfl (pmt2 124 rfl (by decide +kernel)) rfl (dX_getfield (by decide +kernel)) (by decide +kernel), ?_⟩
  refine ⟨sn_aload_n (k := 0) (dX_aload_0 (by decide +kernel)) rfl (by decide +kernel), ?_⟩
  refine ⟨sn_getf (C := RX11) (T := TX11) (N := 18) (idx := 97) rfl pin11 (by decide) (by decide) rfl (pmt2 133 rfl (by decide +kernel)) rfl (dX_getfield (by decide +kernel)) (by decide +kernel), ?_⟩
  refine ⟨sn_callV (idx := 247) (C := RX0) (T := TX0) (N := 13) rfl (by decide) cal_91 (pmt4 117 rfl (by decide +kernel)) (pmt4 118 rfl (by decide +kernel)) (pmt4 119 rfl (by decide +kernel)) (dX_invokevirtual (by decide +kernel)) (by decide +kernel), ?_⟩
  refine ⟨sn_if_eq (off := 7) (dX_ifeq (by decide +kernel)) (by decide +kernel) (by decide +kernel), ?_⟩
  refine ⟨sn_iconst (dX_iconst_1 (by decide +kernel)) (by decide +kernel), ?_⟩
  refine ⟨sn_goto (off := 4) (dX_goto (by decide +kernel)) (by decide +kernel), ?_⟩
  refine ⟨sn_iconst (dX_iconst_0 (by decide +kernel)) (by decide +kernel), ?_⟩
  refine ⟨sn_callV (idx := 230) (C := RX4) (T := TX4) (N := 2) rfl (by decide) cal_128 (pmt4 85 rfl (by decide +kernel)) (pmt4 86 rfl (by decide +kernel)) (pmt4 87 rfl (by decide +kernel)) (dX_invokevirtual (by decide +kernel)) (by decide +kernel), ?_⟩
  refine ⟨sn_iload (dX_iload (by decide +kernel)) (by decide +kernel), ?_⟩
  refine ⟨sn_iret rfl (dX_ireturn (by decide +kernel)), ?_⟩
  trivial
set_option maxRecDepth 100000 in
set_option maxHeartbeats 4000000 in
theorem S_16 : pAll (pSk RX11 cX11_clumps 2 (some .int) PC_16) 0 C_16 := by
  refine ⟨sn_aload_n (k := 0) (dX_aload_0 (by decide +kernel)) rfl (by decide +kernel), ?_⟩
  refine ⟨sn_getf (C := RX11) (T := TX11) (N := 18) (idx := 37) rfl pin11 (by decide) (by decide) rfl (pmt2 123 rfl (by decide +kernel)) rfl (dX_getfield (by decide +kernel)) (by decide +kernel), ?_⟩
  refine ⟨sn_callV (idx := 227) (C := RX4) (T := TX4) (N := 2) rfl (by decide) cal_127 (pmt4 81 rfl (by decide +kernel)) (pmt4 82 rfl (by decide +kernel)) (pmt4 83 rfl (by decide +kernel)) (dX_invokevirtual (by decide +kernel)) (by decide +kernel), ?_⟩
  refine ⟨sn_iconst (dX_iconst_0 (by decide +kernel)) (by decide +kernel), ?_⟩
  refine ⟨sn_istore_n (k := 1) (dX_istore_1 (by decide +kernel)) rfl (by decide) (by decide +kernel), ?_⟩
  refine ⟨sn_iload_n (k := 1) (dX_iload_1 (by decide +kernel)) rfl (by decide +kernel), ?_⟩
  refine ⟨sn_aload_n (k := 0) (dX_aload_0 (by decide +kernel)) rfl (by decide +kernel), ?_⟩
  refine ⟨sn_getf (C := RX11) (T := TX11) (N := 18) (idx := 44) rfl pin11 (by decide) (by decide) rfl (pmt2 124 rfl (by decide +kernel)) rfl (dX_getfield (by decide +kernel)) (by decide +kernel), ?_⟩
  refine ⟨sn_getf (C := RX0) (T := TX0) (N := 13) (idx := 270) rfl pin0 (by decide) (by decide) rfl (pmt1 150 rfl (by decide +kernel)) rfl (dX_getfield (by decide +kernel)) (by decide +kernel), ?_⟩
  refine ⟨sn_icmp_ge (off := 25) (dX_if_icmpge (by decide +kernel)) (by decide +kernel) (by decide +kernel), ?_⟩
  refine ⟨sn_aload_n (k := 0) (dX_aload_0 (by decide +kernel)) rfl (by decide +kernel), ?_⟩
  refine ⟨sn_getf (C := RX11) (T := TX11) (N := 18) (idx := 37) rfl pin11 (by decide) (by decide) rfl (pmt2 123 rfl (by decide +kernel)) rfl (dX_getfield (by decide +kernel)) (by decide +kernel), ?_⟩
  refine ⟨sn_aload_n (k := 0) (dX_aload_0 (by decide +kernel)) rfl (by decide +kernel), ?_⟩
  refine ⟨sn_getf (C := RX11) (T := TX11) (N := 18) (idx := 44) rfl pin11 (by decide) (by decide) rfl (pmt2 124 rfl (by decide +kernel)) rfl (dX_getfield (by decide +kernel)) (by decide +kernel), ?_⟩
  refine ⟨sn_getf (C := RX0) (T := TX0) (N := 13) (idx := 273) rfl pin0 (by decide) (by decide) rfl (pmt1 128 rfl (by decide +kernel)) rfl (dX_getfield (by decide +kernel)) (by decide +kernel), ?_⟩
  refine ⟨sn_iload_n (k := 1) (dX_iload_1 (by decide +kernel)) rfl (by decide +kernel), ?_⟩
  refine ⟨sn_iald (dX_iaload (by decide +kernel)) (by decide +kernel), ?_⟩
  refine ⟨sn_callV (idx := 230) (C := RX4) (T := TX4) (N := 2) rfl (by decide) cal_128 (pmt4 85 rfl (by decide +kernel)) (pmt4 86 rfl (by decide +kernel)) (pmt4 87 rfl (by decide +kernel)) (dX_invokevirtual (by decide +kernel)) (by decide +kernel), ?_⟩
  refine ⟨sn_iinc (dX_iinc (by decide +kernel)) (by decide) (by decide +kernel), ?_⟩
  refine ⟨sn_goto (off := -30) (dX_goto (by decide +kernel)) (by decide +kernel), ?_⟩
  refine ⟨sn_aload_n (k := 0) (dX_aload_0 (by decide +kernel)) rfl (by decide +kernel), ?_⟩
  refine ⟨sn_getf (C := RX11) (T := TX11) (N := 18) (idx := 44) rfl pin11 (by decide) (by decide) rfl (pmt2 124 rfl (by decide +kernel)) rfl (dX_getfield (by decide +kernel)) (by decide +kernel), ?_⟩
  refine ⟨sn_getf (C := RX0) (T := TX0) (N := 13) (idx := 270) rfl pin0 (by decide) (by decide) rfl (pmt1 150 rfl (by decide +kernel)) rfl (dX_getfield (by decide +kernel)) (by decide +kernel), ?_⟩
  refine ⟨sn_iret rfl (dX_ireturn (by decide +kernel)), ?_⟩
  trivial
set_option maxRecDepth 100000 in
set_option maxHeartbeats 4000000 in
theorem S_17 : pAll (pSk RX11 cX11_heaviest 3 (some .int) PC_17) 0 C_17 := by
  refine ⟨sn_aload_n (k := 0) (dX_aload_0 (by decide +kernel)) rfl (by decide +kernel), ?_⟩
  refine ⟨sn_getf (C := RX11) (T := TX11) (N := 18) (idx := 44) rfl pin11 (by decide) (by decide) rfl (pmt2 124 rfl (by decide +kernel)) rfl (dX_getfield (by decide +kernel)) (by decide +kernel), ?_⟩
  refine ⟨sn_getf (C := RX0) (T := TX0) (N := 13) (idx := 276) rfl pin0 (by decide) (by decide) rfl (pmt1 143 rfl (by decide +kernel)) rfl (dX_getfield (by decide +kernel)) (by decide +kernel), ?_⟩
  refine ⟨sn_if_ne (off := 6) (dX_ifne (by decide +kernel)) (by decide +kernel) (by decide +kernel), ?_⟩
  refine ⟨sn_bipush (dX_bipush (by decide +kernel)) (by decide +kernel) (by decide +kernel), ?_⟩
  refine ⟨sn_iret rfl (dX_ireturn (by decide +kernel)), ?_⟩
  refine ⟨sn_iconst (dX_iconst_0 (by decide +kernel)) (by decide +kernel), ?_⟩
  refine ⟨sn_istore_n (k := 1) (dX_istore_1 (by decide +kernel)) rfl (by decide) (by decide +kernel), ?_⟩
  refine ⟨sn_iconst (dX_iconst_1 (by decide +kernel)) (by decide +kernel), ?_⟩
  refine ⟨sn_istore_n (k := 2) (dX_istore_2 (by decide +kernel)) rfl (by decide) (by decide +kernel), ?_⟩
  refine ⟨sn_iload_n (k := 2) (dX_iload_2 (by decide +kernel)) rfl (by decide +kernel), ?_⟩
  refine ⟨sn_aload_n (k := 0) (dX_aload_0 (by decide +kernel)) rfl (by decide +kernel), ?_⟩
  refine ⟨sn_getf (C := RX11) (T := TX11) (N := 18) (idx := 44) rfl pin11 (by decide) (by decide) rfl (pmt2 124 rfl (by decide +kernel)) rfl (dX_getfield (by decide +kernel)) (by decide +kernel), ?_⟩
  refine ⟨sn_getf (C := RX0) (T := TX0) (N := 13) (idx := 270) rfl pin0 (by decide) (by decide) rfl (pmt1 150 rfl (by decide +kernel)) rfl (dX_getfield (by decide +kernel)) (by decide +kernel), ?_⟩
  refine ⟨sn_icmp_ge (off := 30) (dX_if_icmpge (by decide +kernel)) (by decide +kernel) (by decide +kernel), ?_⟩
  refine ⟨sn_aload_n (k := 0) (dX_aload_0 (by decide +kernel)) rfl (by decide +kernel), ?_⟩
  refine ⟨sn_getf (C := RX11) (T := TX11) (N := 18) (idx := 44) rfl pin11 (by decide) (by decide) rfl (pmt2 124 rfl (by decide +kernel)) rfl (dX_getfield (by decide +kernel)) (by decide +kernel), ?_⟩
  refine ⟨sn_iload_n (k := 2) (dX_iload_2 (by decide +kernel)) rfl (by decide +kernel), ?_⟩
  refine ⟨sn_callV (idx := 279) (C := RX0) (T := TX0) (N := 13) rfl (by decide) cal_101 (pmt4 140 rfl (by decide +kernel)) (pmt4 141 rfl (by decide +kernel)) (pmt4 142 rfl (by decide +kernel)) (dX_invokevirtual (by decide +kernel)) (by decide +kernel), ?_⟩
  refine ⟨sn_aload_n (k := 0) (dX_aload_0 (by decide +kernel)) rfl (by decide +kernel), ?_⟩
  refine ⟨sn_getf (C := RX11) (T := TX11) (N := 18) (idx := 44) rfl pin11 (by decide) (by decide) rfl (pmt2 124 rfl (by decide +kernel)) rfl (dX_getfield (by decide +kernel)) (by decide +kernel), ?_⟩
  refine ⟨sn_iload_n (k := 1) (dX_iload_1 (by decide +kernel)) rfl (by decide +kernel), ?_⟩
  refine ⟨sn_callV (idx := 279) (C := RX0) (T := TX0) (N := 13) rfl (by decide) cal_101 (pmt4 140 rfl (by decide +kernel)) (pmt4 141 rfl (by decide +kernel)) (pmt4 142 rfl (by decide +kernel)) (dX_invokevirtual (by decide +kernel)) (by decide +kernel), ?_⟩
  refine ⟨sn_icmp_le (off := 5) (dX_if_icmple (by decide +kernel)) (by decide +kernel) (by decide +kernel), ?_⟩
  refine ⟨sn_iload_n (k := 2) (dX_iload_2 (by decide +kernel)) rfl (by decide +kernel), ?_⟩
  refine ⟨sn_istore_n (k := 1) (dX_istore_1 (by decide +kernel)) rfl (by decide) (by decide +kernel), ?_⟩
  refine ⟨sn_iinc (dX_iinc (by decide +kernel)) (by decide) (by decide +kernel), ?_⟩
  refine ⟨sn_goto (off := -35) (dX_goto (by decide +kernel)) (by decide +kernel), ?_⟩
  refine ⟨sn_aload_n (k := 0) (dX_aload_0 (by decide +kernel)) rfl (by decide +kernel), ?_⟩
  refine ⟨sn_getf (C := RX11) (T := TX11) (N := 18) (idx := 44) rfl pin11 (by decide) (by decide) rfl (pmt2 124 rfl (by decide +kernel)) rfl (dX_getfield (by decide +kernel)) (by decide +kernel), ?_⟩
  refine ⟨sn_iload_n (k := 1) (dX_iload_1 (by decide +kernel)) rfl (by decide +kernel), ?_⟩
  refine ⟨sn_callV (idx := 279) (C := RX0) (T := TX0) (N := 13) rfl (by decide) cal_101 (pmt4 140 rfl (by decide +kernel)) (pmt4 141 rfl (by decide +kernel)) (pmt4 142 rfl (by decide +kernel)) (dX_invokevirtual (by decide +kernel)) (by decide +kernel), ?_⟩
  refine ⟨sn_istore_n (k := 2) (dX_istore_2 (by decide +kernel)) rfl (by decide) (by decide +kernel), ?_⟩
  refine ⟨sn_aload_n (k := 0) (dX_aload_0 (by decide +kernel)) rfl (by decide +kernel), ?_⟩
  refine ⟨sn_getf (C := RX11) (T := TX11) (N := 18) (idx := 37) rfl pin11 (by decide) (by decide) rfl (pmt2 123 rfl (by decide +kernel)) rfl (dX_getfield (by decide +kernel)) (by decide +kernel), ?_⟩
  refine ⟨sn_callV (idx := 227) (C := RX4) (T := TX4) (N := 2) rfl (by decide) cal_127 (pmt4 81 rfl (by decide +kernel)) (pmt4 82 rfl (by decide +kernel)) (pmt4 83 rfl (by decide +kernel)) (dX_invokevirtual (by decide +kernel)) (by decide +kernel), ?_⟩
  refine ⟨sn_aload_n (k := 0) (dX_aload_0 (by decide +kernel)) rfl (by decide +kernel), ?_⟩
  refine ⟨sn_getf (C := RX11) (T := TX11) (N := 18) (idx := 37) rfl pin11 (by decide) (by decide) rfl (pmt2 123 rfl (by decide +kernel)) rfl (dX_getfield (by decide +kernel)) (by decide +kernel), ?_⟩
  refine ⟨sn_iload_n (k := 2) (dX_iload_2 (by decide +kernel)) rfl (by decide +kernel), ?_⟩
  refine ⟨sn_callV (idx := 230) (C := RX4) (T := TX4) (N := 2) rfl (by decide) cal_128 (pmt4 85 rfl (by decide +kernel)) (pmt4 86 rfl (by decide +kernel)) (pmt4 87 rfl (by decide +kernel)) (dX_invokevirtual (by decide +kernel)) (by decide +kernel), ?_⟩
  refine ⟨sn_aload_n (k := 0) (dX_aload_0 (by decide +kernel)) rfl (by decide +kernel), ?_⟩
  refine ⟨sn_getf (C := RX11) (T := TX11) (N := 18) (idx := 37) rfl pin11 (by decide) (by decide) rfl (pmt2 123 rfl (by decide +kernel)) rfl (dX_getfield (by decide +kernel)) (by decide +kernel), ?_⟩
  refine ⟨sn_aload_n (k := 0) (dX_aload_0 (by decide +kernel)) rfl (by decide +kernel), ?_⟩
  refine ⟨sn_getf (C := RX11) (T := TX11) (N := 18) (idx := 44) rfl pin11 (by decide) (by decide) rfl (pmt2 124 rfl (by decide +kernel)) rfl (dX_getfield (by decide +kernel)) (by decide +kernel), ?_⟩
  refine ⟨sn_iload_n (k := 2) (dX_iload_2 (by decide +kernel)) rfl (by decide +kernel), ?_⟩
  refine ⟨sn_callV (idx := 282) (C := RX0) (T := TX0) (N := 13) rfl (by decide) cal_103 (pmt4 144 rfl (by decide +kernel)) (pmt4 145 rfl (by decide +kernel)) (pmt4 146 rfl (by decide +kernel)) (dX_invokevirtual (by decide +kernel)) (by decide +kernel), ?_⟩
  refine ⟨sn_callV (idx := 230) (C := RX4) (T := TX4) (N := 2) rfl (by decide) cal_128 (pmt4 85 rfl (by decide +kernel)) (pmt4 86 rfl (by decide +kernel)) (pmt4 87 rfl (by decide +kernel)) (dX_invokevirtual (by decide +kernel)) (by decide +kernel), ?_⟩
  refine ⟨sn_iload_n (k := 1) (dX_iload_1 (by decide +kernel)) rfl (by decide +kernel), ?_⟩
  refine ⟨sn_iret rfl (dX_ireturn (by decide +kernel)), ?_⟩
  trivial
set_option maxRecDepth 100000 in
set_option maxHeartbeats 4000000 in
theorem S_18 : pAll (pSk RX11 cX11_without 3 (some .int) PC_18) 0 C_18 := by
  refine ⟨sn_aload_n (k := 0) (dX_aload_0 (by decide +kernel)) rfl (by decide +kernel), ?_⟩
  refine ⟨sn_getf (C := RX11) (T := TX11) (N := 18) (idx := 44) rfl pin11 (by decide) (by decide) rfl (pmt2 124 rfl (by decide +kernel)) rfl (dX_getfield (by decide +kernel)) (by decide +kernel), ?_⟩
  refine ⟨sn_iload_n (k := 1) (dX_iload_1 (by decide +kernel)) rfl (by decide +kernel), ?_⟩
  refine ⟨sn_callV (idx := 164) (C := RX0) (T := TX0) (N := 13) rfl (by decide) cal_64 (pmt4 19 rfl (by decide +kernel)) (pmt4 20 rfl (by decide +kernel)) (pmt4 21 rfl (by decide +kernel)) (dX_invokevirtual (by decide +kernel)) (by decide +kernel), ?_⟩
  refine ⟨sn_if_ne (off := 5) (dX_ifne (by decide +kernel)) (by decide +kernel) (by decide +kernel), ?_⟩
  refine ⟨sn_iconst (dX_iconst_m1 (by decide +kernel)) (by decide +kernel), ?_⟩
  refine ⟨sn_iret rfl (dX_ireturn (by decide +kernel)), ?_⟩
  refine ⟨sn_aload_n (k := 0) (dX_aload_0 (by decide +kernel)) rfl (by decide +kernel), ?_⟩
  refine ⟨sn_getf (C := RX11) (T := TX11) (N := 18) (idx := 44) rfl pin11 (by decide) (by decide) rfl (pmt2 124 rfl (by decide +kernel)) rfl (dX_getfield (by decide +kernel)) (by decide +kernel), ?_⟩
  refine ⟨sn_callV (idx := 285) (C := RX0) (T := TX0) (N := 13) rfl (by decide) cal_67 (pmt4 152 rfl (by decide +kernel)) (pmt3 62 rfl (by decide +kernel)) (pmt3 63 rfl (by decide +kernel)) (dX_invokevirtual (by decide +kernel)) (by decide +kernel), ?_⟩
  refine ⟨sn_iconst (dX_iconst_1 (by decide +kernel)) (by decide +kernel), ?_⟩
  refine ⟨sn_iload_n (k := 1) (dX_iload_1 (by decide +kernel)) rfl (by decide +kernel), ?_⟩
  refine ⟨sn_ishl (dX_ishl (by decide +kernel)) (by decide +kernel), ?_⟩
  refine ⟨sn_iconst (dX_iconst_m1 (by decide +kernel)) (by decide +kernel), ?_⟩
  refine ⟨sn_ixor (dX_ixor (by decide +kernel)) (by decide +kernel), ?_⟩
  refine ⟨sn_iand (dX_iand (by decide +kernel)) (by decide +kernel), ?_⟩
  refine ⟨sn_istore_n (k := 2) (dX_istore_2 (by decide +kernel)) rfl (by decide) (by decide +kernel), ?_⟩
  refine ⟨sn_aload_n (k := 0) (dX_aload_0 (by decide +kernel)) rfl (by decide +kernel), ?_⟩
  refine ⟨sn_getf (C := RX11) (T := TX11) (N := 18) (idx := 37) rfl pin11 (by decide) (by decide) rfl (pmt2 123 rfl (by decide +kernel)) rfl (dX_getfield (by decide +kernel)) (by decide +kernel), ?_⟩
  refine ⟨sn_callV (idx := 227) (C := RX4) (T := TX4) (N := 2) rfl (by decide) cal_127 (pmt4 81 rfl (by decide +kernel)) (pmt4 82 rfl (by decide +kernel)) (pmt4 83 rfl (by decide +kernel)) (dX_invokevirtual (by decide +kernel)) (by decide +kernel), ?_⟩
  refine ⟨sn_aload_n (k := 0) (dX_aload_0 (by decide +kernel)) rfl (by decide +kernel), ?_⟩
  refine ⟨sn_getf (C := RX11) (T := TX11) (N := 18) (idx := 37) rfl pin11 (by decide) (by decide) rfl (pmt2 123 rfl (by decide +kernel)) rfl (dX_getfield (by decide +kernel)) (by decide +kernel), ?_⟩
  refine ⟨sn_aload_n (k := 0) (dX_aload_0 (by decide +kernel)) rfl (by decide +kernel), ?_⟩
  refine ⟨sn_getf (C := RX11) (T := TX11) (N := 18) (idx := 44) rfl pin11 (by decide) (by decide) rfl (pmt2 124 rfl (by decide +kernel)) rfl (dX_getfield (by decide +kernel)) (by decide +kernel), ?_⟩
  refine ⟨sn_iload_n (k := 2) (dX_iload_2 (by decide +kernel)) rfl (by decide +kernel), ?_⟩
  refine ⟨sn_callV (idx := 288) (C := RX0) (T := TX0) (N := 13) rfl (by decide) cal_94 (pmt4 153 rfl (by decide +kernel)) (pmt4 154 rfl (by decide +kernel)) (pmt4 155 rfl (by decide +kernel)) (dX_invokevirtual (by decide +kernel)) (by decide +kernel), ?_⟩
  refine ⟨sn_callV (idx := 230) (C := RX4) (T := TX4) (N := 2) rfl (by decide) cal_128 (pmt4 85 rfl (by decide +kernel)) (pmt4 86 rfl (by decide +kernel)) (pmt4 87 rfl (by decide +kernel)) (dX_invokevirtual (by decide +kernel)) (by decide +kernel), ?_⟩
  refine ⟨sn_aload_n (k := 0) (dX_aload_0 (by decide +kernel)) rfl (by decide +kernel), ?_⟩
  refine ⟨sn_getf (C := RX11) (T := TX11) (N := 18) (idx := 44) rfl pin11 (by decide) (by decide) rfl (pmt2 124 rfl (by decide +kernel)) rfl (dX_getfield (by decide +kernel)) (by decide +kernel), ?_⟩
  refine ⟨sn_iload_n (k := 2) (dX_iload_2 (by decide +kernel)) rfl (by decide +kernel), ?_⟩
  refine ⟨sn_aload_n (k := 0) (dX_aload_0 (by decide +kernel)) rfl (by decide +kernel), ?_⟩
  refine ⟨sn_getf (C := RX11) (T := TX11) (N := 18) (idx := 44) rfl pin11 (by decide) (by decide) rfl (pmt2 124 rfl (by decide +kernel)) rfl (dX_getfield (by decide +kernel)) (by decide +kernel), ?_⟩
  refine ⟨sn_callV (idx := 291) (C := RX0) (T := TX0) (N := 13) rfl (by decide) cal_68 (pmt4 157 rfl (by decide +kernel)) (pmt3 69 rfl (by decide +kernel)) (pmt3 70 rfl (by decide +kernel)) (dX_invokevirtual (by decide +kernel)) (by decide +kernel), ?_⟩
  refine ⟨sn_callV (idx := 294) (C := RX0) (T := TX0) (N := 13) rfl (by decide) cal_97 (pmt4 158 rfl (by decide +kernel)) (pmt4 159 rfl (by decide +kernel)) (pmt4 160 rfl (by decide +kernel)) (dX_invokevirtual (by decide +kernel)) (by decide +kernel), ?_⟩
  refine ⟨sn_iret rfl (dX_ireturn (by decide +kernel)), ?_⟩
  trivial
set_option maxRecDepth 100000 in
set_option maxHeartbeats 4000000 in
theorem S_19 : pAll (pSk RX11 cX11_breaks 2 (some .int) PC_19) 0 C_19 := by
  refine ⟨sn_aload_n (k := 0) (dX_aload_0 (by decide +kernel)) rfl (by decide +kernel), ?_⟩
  refine ⟨sn_getf (C := RX11) (T := TX11) (N := 18) (idx := 44) rfl pin11 (by decide) (by decide) rfl (pmt2 124 rfl (by decide +kernel)) rfl (dX_getfield (by decide +kernel)) (by decide +kernel), ?_⟩
  refine ⟨sn_iload_n (k := 1) (dX_iload_1 (by decide +kernel)) rfl (by decide +kernel), ?_⟩
  refine ⟨sn_callV (idx := 164) (C := RX0) (T := TX0) (N := 13) rfl (by decide) cal_64 (pmt4 19 rfl (by decide +kernel)) (pmt4 20 rfl (by decide +kernel)) (pmt4 21 rfl (by decide +kernel)) (dX_invokevirtual (by decide +kernel)) (by decide +kernel), ?_⟩
  refine ⟨sn_if_ne (off := 5) (dX_ifne (by decide +kernel)) (by decide +kernel) (by decide +kernel), ?_⟩
  refine ⟨sn_iconst (dX_iconst_m1 (by decide +kernel)) (by decide +kernel), ?_⟩
  refine ⟨sn_iret rfl (dX_ireturn (by decide +kernel)), ?_⟩
  refine ⟨sn_aload_n (k := 0) (dX_aload_0 (by decide +kernel)) rfl (by decide +kernel), ?_⟩
  refine ⟨sn_getf (C := RX11) (T := TX11) (N := 18) (idx := 44) rfl pin11 (by decide) (by decide) rfl (pmt2 124 rfl (by decide +kernel)) rfl (dX_getfield (by decide +kernel)) (by decide +kernel), ?_⟩
  refine ⟨sn_iload_n (k := 1) (dX_iload_1 (by decide +kernel)) rfl (by decide +kernel), ?_⟩
  refine ⟨sn_callV (idx := 297) (C := RX0) (T := TX0) (N := 13) rfl (by decide) cal_95 (pmt4 166 rfl (by decide +kernel)) (pmt4 167 rfl (by decide +kernel)) (pmt4 168 rfl (by decide +kernel)) (dX_invokevirtual (by decide +kernel)) (by decide +kernel), ?_⟩
  refine ⟨sn_aload_n (k := 0) (dX_aload_0 (by decide +kernel)) rfl (by decide +kernel), ?_⟩
  refine ⟨sn_getf (C := RX11) (T := TX11) (N := 18) (idx := 44) rfl pin11 (by decide) (by decide) rfl (pmt2 124 rfl (by decide +kernel)) rfl (dX_getfield (by decide +kernel)) (by decide +kernel), ?_⟩
  refine ⟨sn_callV (idx := 122) (C := RX0) (T := TX0) (N := 13) rfl (by decide) cal_98 (pmt3 57 rfl (by decide +kernel)) (pmt3 58 rfl (by decide +kernel)) (pmt3 59 rfl (by decide +kernel)) (dX_invokevirtual (by decide +kernel)) (by decide +kernel), ?_⟩
  refine ⟨sn_aload_n (k := 0) (dX_aload_0 (by decide +kernel)) rfl (by decide +kernel), ?_⟩
  refine ⟨sn_getf (C := RX11) (T := TX11) (N := 18) (idx := 44) rfl pin11 (by decide) (by decide) rfl (pmt2 124 rfl (by decide +kernel)) rfl (dX_getfield (by decide +kernel)) (by decide +kernel), ?_⟩
  refine ⟨sn_getf (C := RX0) (T := TX0) (N := 13) (idx := 270) rfl pin0 (by decide) (by decide) rfl (pmt1 150 rfl (by decide +kernel)) rfl (dX_getfield (by decide +kernel)) (by decide +kernel), ?_⟩
  refine ⟨sn_iret rfl (dX_ireturn (by decide +kernel)), ?_⟩
  trivial
set_option maxRecDepth 100000 in
set_option maxHeartbeats 4000000 in
theorem S_20 : pAll (pSk RX11 cX11_ties 3 (some .int) PC_20) 0 C_20 := by
  refine ⟨sn_iconst (dX_iconst_0 (by decide +kernel)) (by decide +kernel), ?_⟩
  refine ⟨sn_istore_n (k := 1) (dX_istore_1 (by decide +kernel)) rfl (by decide) (by decide +kernel), ?_⟩
  refine ⟨sn_iconst (dX_iconst_0 (by decide +kernel)) (by decide +kernel), ?_⟩
  refine ⟨sn_istore_n (k := 2) (dX_istore_2 (by decide +kernel)) rfl (by decide) (by decide +kernel), ?_⟩
  refine ⟨sn_iload_n (k := 2) (dX_iload_2 (by decide +kernel)) rfl (by decide +kernel), ?_⟩
  refine ⟨sn_aload_n (k := 0) (dX_aload_0 (by decide +kernel)) rfl (by decide +kernel), ?_⟩
  refine ⟨sn_getf (C := RX11) (T := TX11) (N := 18) (idx := 44) rfl pin11 (by decide) (by decide) rfl (pmt2 124 rfl (by decide +kernel)) rfl (dX_getfield (by decide +kernel)) (by decide +kernel), ?_⟩
  refine ⟨sn_getf (C := RX0) (T := TX0) (N := 13) (idx := 189) rfl pin0 (by decide) (by decide) rfl (pmt1 146 rfl (by decide +kernel)) rfl (dX_getfield (by decide +kernel)) (by decide +kernel), ?_⟩
  refine ⟨sn_icmp_ge (off := 52) (dX_if_icmpge (by decide +kernel)) (by decide +kernel) (by decide +kernel), ?_⟩
  refine ⟨sn_aload_n (k := 0) (dX_aload_0 (by decide +kernel)) rfl (by decide +kernel), ?_⟩
  refine ⟨sn_getf (C := RX11) (T := TX11) (N := 18) (idx := 44) rfl pin11 (by decide) (by decide) rfl (pmt2 124 rfl (by decide +kernel)) rfl (dX_getfield (by decide +kernel)) (by decide +kernel), ?_⟩
  refine ⟨sn_aload_n (k := 0) (dX_aload_0 (by decide +kernel)) rfl (by decide +kernel), ?_⟩
  refine ⟨sn_getf (C := RX11) (T := TX11) (N := 18) (idx := 44) rfl pin11 (by decide) (by decide) rfl (pmt2 124 rfl (by decide +kernel)) rfl (dX_getfield (by decide +kernel)) (by decide +kernel), ?_⟩
  refine ⟨sn_callV (idx := 285) (C := RX0) (T := TX0) (N := 13) rfl (by decide) cal_67 (pmt4 152 rfl (by decide +kernel)) (pmt3 62 rfl (by decide +kernel)) (pmt3 63 rfl (by decide +kernel)) (dX_invokevirtual (by decide +kernel)) (by decide +kernel), ?_⟩
  refine ⟨sn_aload_n (k := 0) (dX_aload_0 (by decide +kernel)) rfl (by decide +kernel), ?_⟩
  refine ⟨sn_getf (C := RX11) (T := TX11) (N := 18) (idx := 44) rfl pin11 (by decide) (by decide) rfl (pmt2 124 rfl (by decide +kernel)) rfl (dX_getfield (by decide +kernel)) (by decide +kernel), ?_⟩
  refine ⟨sn_callV (idx := 291) (C := RX0) (T := TX0) (N := 13) rfl (by decide) cal_68 (pmt4 157 rfl (by decide +kernel)) (pmt3 69 rfl (by decide +kernel)) (pmt3 70 rfl (by decide +kernel)) (dX_invokevirtual (by decide +kernel)) (by decide +kernel), ?_⟩
  refine ⟨sn_iconst (dX_iconst_1 (by decide +kernel)) (by decide +kernel), ?_⟩
  refine ⟨sn_iload_n (k := 2) (dX_iload_2 (by decide +kernel)) rfl (by decide +kernel), ?_⟩
  refine ⟨sn_ishl (dX_ishl (by decide +kernel)) (by decide +kernel), ?_⟩
  refine ⟨sn_iconst (dX_iconst_m1 (by decide +kernel)) (by decide +kernel), ?_⟩
  refine ⟨sn_ixor (dX_ixor (by decide +kernel)) (by decide +kernel), ?_⟩
  refine ⟨sn_iand (dX_iand (by decide +kernel)) (by decide +kernel), ?_⟩
  refine ⟨sn_callV (idx := 294) (C := RX0) (T := TX0) (N := 13) rfl (by decide) cal_97 (pmt4 158 rfl (by decide +kernel)) (pmt4 159 rfl (by decide +kernel)) (pmt4 160 rfl (by decide +kernel)) (dX_invokevirtual (by decide +kernel)) (by decide +kernel), ?_⟩
  refine ⟨sn_aload_n (k := 0) (dX_aload_0 (by decide +kernel)) rfl (by decide +kernel), ?_⟩
  refine ⟨sn_getf (C := RX11) (T := TX11) (N := 18) (idx := 44) rfl pin11 (by decide) (by decide) rfl (pmt2 124 rfl (by decide +kernel)) rfl (dX_getfield (by decide +kernel)) (by decide +kernel), ?_⟩
  refine ⟨sn_getf (C := RX0) (T := TX0) (N := 13) (idx := 270) rfl pin0 (by decide) (by decide) rfl (pmt1 150 rfl (by decide +kernel)) rfl (dX_getfield (by decide +kernel)) (by decide +kernel), ?_⟩
  refine ⟨sn_icmp_le (off := 9) (dX_if_icmple (by decide +kernel)) (by decide +kernel) (by decide +kernel), ?_⟩
  refine ⟨sn_iload_n (k := 1) (dX_iload_1 (by decide +kernel)) rfl (by decide +kernel), ?_⟩
  refine ⟨sn_iconst (dX_iconst_1 (by decide +kernel)) (by decide +kernel), ?_⟩
  refine ⟨sn_iload_n (k := 2) (dX_iload_2 (by decide +kernel)) rfl (by decide +kernel), ?_⟩
  refine ⟨sn_ishl (dX_ishl (by decide +kernel)) (by decide +kernel), ?_⟩
  refine ⟨sn_ior (dX_ior (by decide +kernel)) (by decide +kernel), ?_⟩
  refine ⟨sn_istore_n (k := 1) (dX_istore_1 (by decide +kernel)) rfl (by decide) (by decide +kernel), ?_⟩
  refine ⟨sn_iinc (dX_iinc (by decide +kernel)) (by decide) (by decide +kernel), ?_⟩
  refine ⟨sn_goto (off := -57) (dX_goto (by decide +kernel)) (by decide +kernel), ?_⟩
  refine ⟨sn_iload_n (k := 1) (dX_iload_1 (by decide +kernel)) rfl (by decide +kernel), ?_⟩
  refine ⟨sn_iret rfl (dX_ireturn (by decide +kernel)), ?_⟩
  trivial
set_option maxRecDepth 100000 in
set_option maxHeartbeats 4000000 in
theorem S_21 : pAll (pSk RX11 cX11_fits 1 (some .int) PC_21) 0 C_21 := by
  refine ⟨sn_aload_n (k := 0) (dX_aload_0 (by decide +kernel)) rfl (by decide +kernel), ?_⟩
  refine ⟨sn_getf (C := RX11) (T := TX11) (N := 18) (idx := 44) rfl pin11 (by decide) (by decide) rfl (pmt2 124 rfl (by decide +kernel)) rfl (dX_getfield (by decide +kernel)) (by decide +kernel), ?_⟩
  refine ⟨sn_callV (idx := 300) (C := RX0) (T := TX0) (N := 13) rfl (by decide) cal_92 (pmt4 178 rfl (by decide +kernel)) (pmt4 179 rfl (by decide +kernel)) (pmt4 180 rfl (by decide +kernel)) (dX_invokevirtual (by decide +kernel)) (by decide +kernel), ?_⟩
  refine ⟨sn_if_eq (off := 6) (dX_ifeq (by decide +kernel)) (by decide +kernel) (by decide +kernel), ?_⟩
  refine ⟨sn_bipush (dX_bipush (by decide +kernel)) (by decide +kernel) (by decide +kernel), ?_⟩
  refine ⟨sn_iret rfl (dX_ireturn (by decide +kernel)), ?_⟩
  refine ⟨sn_aload_n (k := 0) (dX_aload_0 (by decide +kernel)) rfl (by decide +kernel), ?_⟩
  refine ⟨sn_getf (C := RX11) (T := TX11) (N := 18) (idx := 61) rfl pin11 (by decide) (by decide) rfl (pmt2 127 rfl (by decide +kernel)) rfl (dX_getfield (by decide +kernel)) (by decide +kernel), ?_⟩
  refine ⟨sn_aload_n (k := 0) (dX_aload_0 (by decide +kernel)) rfl (by decide +kernel), ?_⟩
  refine ⟨sn_getf (C := RX11) (T := TX11) (N := 18) (idx := 44) rfl pin11 (by decide) (by decide) rfl (pmt2 124 rfl (by decide +kernel)) rfl (dX_getfield (by decide +kernel)) (by decide +kernel), ?_⟩
  refine ⟨sn_aload_n (k := 0) (dX_aload_0 (by decide +kernel)) rfl (by decide +kernel), ?_⟩
  refine ⟨sn_getf (C := RX11) (T := TX11) (N := 18) (idx := 44) rfl pin11 (by decide) (by decide) rfl (pmt2 124 rfl (by decide +kernel)) rfl (dX_getfield (by decide +kernel)) (by decide +kernel), ?_⟩
  refine ⟨sn_callV (idx := 304) (C := RX0) (T := TX0) (N := 13) rfl (by decide) cal_69 (pmt4 182 rfl (by decide +kernel)) (pmt4 183 rfl (by decide +kernel)) (pmt4 184 rfl (by decide +kernel)) (dX_invokevirtual (by decide +kernel)) (by decide +kernel), ?_⟩
  refine ⟨sn_callV (idx := 307) (C := RX10) (T := TX10) (N := 12) rfl (by decide) cal_160 (pmt4 186 rfl (by decide +kernel)) (pmt4 187 rfl (by decide +kernel)) (pmt4 188 rfl (by decide +kernel)) (dX_invokevirtual (by decide +kernel)) (by decide +kernel), ?_⟩
  refine ⟨sn_aload_n (k := 0) (dX_aload_0 (by decide +kernel)) rfl (by decide +kernel), ?_⟩
  refine ⟨sn_getf (C := RX11) (T := TX11) (N := 18) (idx := 61) rfl pin11 (by decide) (by decide) rfl (pmt2 127 rfl (by decide +kernel)) rfl (dX_getfield (by decide +kernel)) (by decide +kernel), ?_⟩
  refine ⟨sn_callV (idx := 310) (C := RX10) (T := TX10) (N := 12) rfl (by decide) cal_167 (pmt4 194 rfl (by decide +kernel)) (pmt4 195 rfl (by decide +kernel)) (pmt4 196 rfl (by decide +kernel)) (dX_invokevirtual (by decide +kernel)) (by decide +kernel), ?_⟩
  refine ⟨sn_pop (dX_pop (by decide +kernel)) (by decide +kernel), ?_⟩
  refine ⟨sn_aload_n (k := 0) (dX_aload_0 (by decide +kernel)) rfl (by decide +kernel), ?_⟩
  refine ⟨sn_getf (C := RX11) (T := TX11) (N := 18) (idx := 37) rfl pin11 (by decide) (by decide) rfl (pmt2 123 rfl (by decide +kernel)) rfl (dX_getfield (by decide +kernel)) (by decide +kernel), ?_⟩
  refine ⟨sn_callV (idx := 227) (C := RX4) (T := TX4) (N := 2) rfl (by decide) cal_127 (pmt4 81 rfl (by decide +kernel)) (pmt4 82 rfl (by decide +kernel)) (pmt4 83 rfl (by decide +kernel)) (dX_invokevirtual (by decide +kernel)) (by decide +kernel), ?_⟩
  refine ⟨sn_aload_n (k := 0) (dX_aload_0 (by decide +kernel)) rfl (by decide +kernel), ?_⟩
  refine ⟨sn_getf (C := RX11) (T := TX11) (N := 18) (idx := 61) rfl pin11 (by decide) (by decide) rfl (pmt2 127 rfl (by decide +kernel)) rfl (dX_getfield (by decide +kernel)) (by decide +kernel), ?_⟩
  refine ⟨sn_getf (C := RX10) (T := TX10) (N := 12) (idx := 313) rfl pin10 (by decide) (by decide) rfl (pmt1 221 rfl (by decide +kernel)) rfl (dX_getfield (by decide +kernel)) (by decide +kernel), ?_⟩
  refine ⟨sn_if_le (off := 7) (dX_ifle (by decide +kernel)) (by decide +kernel) (by decide +kernel), ?_⟩
  refine ⟨sn_aload_n (k := 0) (dX_aload_0 (by decide +kernel)) rfl (by decide +kernel), ?_⟩
  refine ⟨sn_callV (idx := 316) (C := RX11) (T := TX11) (N := 18) rfl (by decide) cal_58 (pmt4 217 rfl (by decide +kernel)) (pmt4 219 rfl (by decide +kernel)) (pms 25 rfl rfl) (dX_invokevirtual (by decide +kernel)) (by decide +kernel), ?_⟩
  refine ⟨sn_aload_n (k := 0) (dX_aload_0 (by decide +kernel)) rfl (by decide +kernel), ?_⟩
  refine ⟨sn_getf (C := RX11) (T := TX11) (N := 18) (idx := 61) rfl pin11 (by decide) (by decide) rfl (pmt2 127 rfl (by decide +kernel)) rfl (dX_getfield (by decide +kernel)) (by decide +kernel), ?_⟩
  refine ⟨sn_getf (C := RX10) (T := TX10) (N := 12) (idx := 313) rfl pin10 (by decide) (by decide) rfl (pmt1 221 rfl (by decide +kernel)) rfl (dX_getfield (by decide +kernel)) (by decide +kernel), ?_⟩
  refine ⟨sn_iret rfl (dX_ireturn (by decide +kernel)), ?_⟩
  trivial
set_option maxRecDepth 100000 in
set_option maxHeartbeats 4000000 in
theorem S_22 : pAll (pSk RX11 cX11_worth 3 (some .int) PC_22) 0 C_22 := by
  refine ⟨sn_iconst (dX_iconst_0 (by decide +kernel)) (by decide +kernel), ?_⟩
  refine ⟨sn_istore_n (k := 1) (dX_istore_1 (by decide +kernel)) rfl (by decide) (by decide +kernel), ?_⟩
  refine ⟨sn_iconst (dX_iconst_0 (by decide +kernel)) (by decide +kernel), ?_⟩
  refine ⟨sn_istore_n (k := 2) (dX_istore_2 (by decide +kernel)) rfl (by decide) (by decide +kernel), ?_⟩
  refine ⟨sn_iload_n (k := 2) (dX_iload_2 (by decide +kernel)) rfl (by decide +kernel), ?_⟩
  refine ⟨sn_aload_n (k := 0) (dX_aload_0 (by decide +kernel)) rfl (by decide +kernel), ?_⟩
  refine ⟨sn_getf (C := RX11) (T := TX11) (N := 18) (idx := 44) rfl pin11 (by decide) (by decide) rfl (pmt2 124 rfl (by decide +kernel)) rfl (dX_getfield (by decide +kernel)) (by decide +kernel), ?_⟩
  refine ⟨sn_getf (C := RX0) (T := TX0) (N := 13) (idx := 276) rfl pin0 (by decide) (by decide) rfl (pmt1 143 rfl (by decide +kernel)) rfl (dX_getfield (by decide +kernel)) (by decide +kernel), ?_⟩
  refine ⟨sn_icmp_ge (off := 33) (dX_if_icmpge (by decide +kernel)) (by decide +kernel) (by decide +kernel), ?_⟩
  refine ⟨sn_iload_n (k := 1) (dX_iload_1 (by decide +kernel)) rfl (by decide +kernel), ?_⟩
  refine ⟨sn_aload_n (k := 0) (dX_aload_0 (by decide +kernel)) rfl (by decide +kernel), ?_⟩
  refine ⟨sn_getf (C := RX11) (T := TX11) (N := 18) (idx := 54) rfl pin11 (by decide) (by decide) rfl (pmt2 126 rfl (by decide +kernel)) rfl (dX_getfield (by decide +kernel)) (by decide +kernel), ?_⟩
  refine ⟨sn_aload_n (k := 0) (dX_aload_0 (by decide +kernel)) rfl (by decide +kernel), ?_⟩
  refine ⟨sn_getf (C := RX11) (T := TX11) (N := 18) (idx := 44) rfl pin11 (by decide) (by decide) rfl (pmt2 124 rfl (by decide +kernel)) rfl (dX_getfield (by decide +kernel)) (by decide +kernel), ?_⟩
  refine ⟨sn_iload_n (k := 2) (dX_iload_2 (by decide +kernel)) rfl (by decide +kernel), ?_⟩
  refine ⟨sn_aload_n (k := 0) (dX_aload_0 (by decide +kernel)) rfl (by decide +kernel), ?_⟩
  refine ⟨sn_getf (C := RX11) (T := TX11) (N := 18) (idx := 44) rfl pin11 (by decide) (by decide) rfl (pmt2 124 rfl (by decide +kernel)) rfl (dX_getfield (by decide +kernel)) (by decide +kernel), ?_⟩
  refine ⟨sn_getf (C := RX0) (T := TX0) (N := 13) (idx := 150) rfl pin0 (by decide) (by decide) rfl (pmt1 123 rfl (by decide +kernel)) rfl (dX_getfield (by decide +kernel)) (by decide +kernel), ?_⟩
  refine ⟨sn_iload_n (k := 2) (dX_iload_2 (by decide +kernel)) rfl (by decide +kernel), ?_⟩
  refine ⟨sn_iald (dX_iaload (by decide +kernel)) (by decide +kernel), ?_⟩
  refine ⟨sn_callV (idx := 185) (C := RX7) (T := TX7) (N := 3) rfl (by decide) cal_144 (pmt4 225 rfl (by decide +kernel)) (pmt4 226 rfl (by decide +kernel)) (pmt4 227 rfl (by decide +kernel)) (dX_invokevirtual (by decide +kernel)) (by decide +kernel), ?_⟩
  refine ⟨sn_iadd (dX_iadd (by decide +kernel)) (by decide +kernel), ?_⟩
  refine ⟨sn_istore_n (k := 1) (dX_istore_1 (by decide +kernel)) rfl (by decide) (by decide +kernel), ?_⟩
  refine ⟨sn_iinc (dX_iinc (by decide +kernel)) (by decide) (by decide +kernel), ?_⟩
  refine ⟨sn_goto (off := -38) (dX_goto (by decide +kernel)) (by decide +kernel), ?_⟩
  refine ⟨sn_iload_n (k := 1) (dX_iload_1 (by decide +kernel)) rfl (by decide +kernel), ?_⟩
  refine ⟨sn_iret rfl (dX_ireturn (by decide +kernel)), ?_⟩
  trivial
set_option maxRecDepth 100000 in
set_option maxHeartbeats 4000000 in
theorem S_23 : pAll (pSk RX11 cX11_best 3 (some .int) PC_23) 0 C_23 := by
  refine ⟨sn_aload_n (k := 0) (dX_aload_0 (by decide +kernel)) rfl (by decide +kernel), ?_⟩
  refine ⟨sn_getf (C := RX11) (T := TX11) (N := 18) (idx := 44) rfl pin11 (by decide) (by decide) rfl (pmt2 124 rfl (by decide +kernel)) rfl (dX_getfield (by decide +kernel)) (by decide +kernel), ?_⟩
  refine ⟨sn_callV (idx := 300) (C := RX0) (T := TX0) (N := 13) rfl (by decide) cal_92 (pmt4 178 rfl (by decide +kernel)) (pmt4 179 rfl (by decide +kernel)) (pmt4 180 rfl (by decide +kernel)) (dX_invokevirtual (by decide +kernel)) (by decide +kernel), ?_⟩
  refine ⟨sn_if_eq (off := 6) (dX_ifeq (by decide +kernel)) (by decide +kernel) (by decide +kernel), ?_⟩
  refine ⟨sn_bipush (dX_bipush (by decide +kernel)) (by decide +kernel) (by decide +kernel), ?_⟩
  refine ⟨sn_iret rfl (dX_ireturn (by decide +kernel)), ?_⟩
  refine ⟨sn_aload_n (k := 0) (dX_aload_0 (by decide +kernel)) rfl (by decide +kernel), ?_⟩
  refine ⟨sn_getf (C := RX11) (T := TX11) (N := 18) (idx := 61) rfl pin11 (by decide) (by decide) rfl (pmt2 127 rfl (by decide +kernel)) rfl (dX_getfield (by decide +kernel)) (by decide +kernel), ?_⟩
  refine ⟨sn_aload_n (k := 0) (dX_aload_0 (by decide +kernel)) rfl (by decide +kernel), ?_⟩
  refine ⟨sn_getf (C := RX11) (T := TX11) (N := 18) (idx := 44) rfl pin11 (by decide) (by decide) rfl (pmt2 124 rfl (by decide +kernel)) rfl (dX_getfield (by decide +kernel)) (by decide +kernel), ?_⟩
  refine ⟨sn_aload_n (k := 0) (dX_aload_0 (by decide +kernel)) rfl (by decide +kernel), ?_⟩
  refine ⟨sn_getf (C := RX11) (T := TX11) (N := 18) (idx := 44) rfl pin11 (by decide) (by decide) rfl (pmt2 124 rfl (by decide +kernel)) rfl (dX_getfield (by decide +kernel)) (by decide +kernel), ?_⟩
  refine ⟨sn_callV (idx := 304) (C := RX0) (T := TX0) (N := 13) rfl (by decide) cal_69 (pmt4 182 rfl (by decide +kernel)) (pmt4 183 rfl (by decide +kernel)) (pmt4 184 rfl (by decide +kernel)) (dX_invokevirtual (by decide +kernel)) (by decide +kernel), ?_⟩
  refine ⟨sn_callV (idx := 307) (C := RX10) (T := TX10) (N := 12) rfl (by decide) cal_160 (pmt4 186 rfl (by decide +kernel)) (pmt4 187 rfl (by decide +kernel)) (pmt4 188 rfl (by decide +kernel)) (dX_invokevirtual (by decide +kernel)) (by decide +kernel), ?_⟩
  refine ⟨sn_iconst (dX_iconst_0 (by decide +kernel)) (by decide +kernel), ?_⟩
  refine ⟨sn_istore_n (k := 1) (dX_istore_1 (by decide +kernel)) rfl (by decide) (by decide +kernel), ?_⟩
  refine ⟨sn_iload_n (k := 1) (dX_iload_1 (by decide +kernel)) rfl (by decide +kernel), ?_⟩
  refine ⟨sn_aload_n (k := 0) (dX_aload_0 (by decide +kernel)) rfl (by decide +kernel), ?_⟩
  refine ⟨sn_getf (C := RX11) (T := TX11) (N := 18) (idx := 44) rfl pin11 (by decide) (by decide) rfl (pmt2 124 rfl (by decide +kernel)) rfl (dX_getfield (by decide +kernel)) (by decide +kernel), ?_⟩
  refine ⟨sn_getf (C := RX0) (T := TX0) (N := 13) (idx := 276) rfl pin0 (by decide) (by decide) rfl (pmt1 143 rfl (by decide +kernel)) rfl (dX_getfield (by decide +kernel)) (by decide +kernel), ?_⟩
  refine ⟨sn_icmp_ge (off := 58) (dX_if_icmpge (by decide +kernel)) (by decide +kernel) (by decide +kernel), ?_⟩
  refine ⟨sn_iconst (dX_iconst_0 (by decide +kernel)) (by decide +kernel), ?_⟩
  refine ⟨sn_istore_n (k := 2) (dX_istore_2 (by decide +kernel)) rfl (by decide) (by decide +kernel), ?_⟩
  refine ⟨sn_iload_n (k := 2) (dX_iload_2 (by decide +kernel)) rfl (by decide +kernel), ?_⟩
  refine ⟨sn_aload_n (k := 0) (dX_aload_0 (by decide +kernel)) rfl (by decide +kernel), ?_⟩
  refine ⟨sn_getf (C := RX11) (T := TX11) (N := 18) (idx := 44) rfl pin11 (by decide) (by decide) rfl (pmt2 124 rfl (by decide +kernel)) rfl (dX_getfield (by decide +kernel)) (by decide +kernel), ?_⟩
  refine ⟨sn_getf (C := RX0) (T := TX0) (N := 13) (idx := 319) rfl pin0 (by decide) (by decide) rfl (pmt1 137 rfl (by decide +kernel)) rfl (dX_getfield (by decide +kernel)) (by decide +kernel), ?_⟩
  refine ⟨sn_icmp_ge (off := 39) (dX_if_icmpge (by decide +kernel)) (by decide +kernel) (by decide +kernel), ?_⟩
  refine ⟨sn_aload_n (k := 0) (dX_aload_0 (by decide +kernel)) rfl (by decide +kernel), ?_⟩
  refine ⟨sn_getf (C := RX11) (T := TX11) (N := 18) (idx := 61) rfl pin11 (by decide) (by decide) rfl (pmt2 127 rfl (by decide +kernel)) rfl (dX_getfield (by decide +kernel)) (by decide +kernel), ?_⟩
  refine ⟨sn_aload_n (k := 0) (dX_aload_0 (by decide +kernel)) rfl (by decide +kernel), ?_⟩
  refine ⟨sn_getf (C := RX11) (T := TX11) (N := 18) (idx := 44) rfl pin11 (by decide) (by decide) rfl (pmt2 124 rfl (by decide +kernel)) rfl (dX_getfield (by decide +kernel)) (by decide +kernel), ?_⟩
  refine ⟨sn_getf (C := RX0) (T := TX0) (N := 13) (idx := 182) rfl pin0 (by decide) (by decide) rfl (pmt1 132 rfl (by decide +kernel)) rfl (dX_getfield (by decide +kernel)) (by decide +kernel), ?_⟩
  refine ⟨sn_iload_n (k := 1) (dX_iload_1 (by decide +kernel)) rfl (by decide +kernel), ?_⟩
  refine ⟨sn_iald (dX_iaload (by decide +kernel)) (by decide +kernel), ?_⟩
  refine ⟨sn_iload_n (k := 2) (dX_iload_2 (by decide +kernel)) rfl (by decide +kernel), ?_⟩
  refine ⟨sn_aload_n (k := 0) (dX_aload_0 (by decide +kernel)) rfl (by decide +kernel), ?_⟩
  refine ⟨sn_getf (C := RX11) (T := TX11) (N := 18) (idx := 54) rfl pin11 (by decide) (by decide) rfl (pmt2 126 rfl (by decide +kernel)) rfl (dX_getfield (by decide +kernel)) (by decide +kernel), ?_⟩
  refine ⟨sn_aload_n (k := 0) (dX_aload_0 (by decide +kernel)) rfl (by decide +kernel), ?_⟩
  refine ⟨sn_getf (C := RX11) (T := TX11) (N := 18) (idx := 44) rfl pin11 (by decide) (by decide) rfl (pmt2 124 rfl (by decide +kernel)) rfl (dX_getfield (by decide +kernel)) (by decide +kernel), ?_⟩
  refine ⟨sn_iload_n (k := 1) (dX_iload_1 (by decide +kernel)) rfl (by decide +kernel), ?_⟩
  refine ⟨sn_iload_n (k := 2) (dX_iload_2 (by decide +kernel)) rfl (by decide +kernel), ?_⟩
  refine ⟨sn_callV (idx := 185) (C := RX7) (T := TX7) (N := 3) rfl (by decide) cal_144 (pmt4 225 rfl (by decide +kernel)) (pmt4 226 rfl (by decide +kernel)) (pmt4 227 rfl (by decide +kernel)) (dX_invokevirtual (by decide +kernel)) (by decide +kernel), ?_⟩
  refine ⟨sn_callV (idx := 322) (C := RX10) (T := TX10) (N := 12) rfl (by decide) cal_162 (pmt5 12 rfl (by decide +kernel)) (pmt5 13 rfl (by decide +kernel)) (pmt5 14 rfl (by decide +kernel)) (dX_invokevirtual (by decide +kernel)) (by decide +kernel), ?_⟩
  refine ⟨sn_iinc (dX_iinc (by decide +kernel)) (by decide) (by decide +kernel), ?_⟩
  refine ⟨sn_goto (off := -44) (dX_goto (by decide +kernel)) (by decide +kernel), ?_⟩
  refine ⟨sn_iinc (dX_iinc (by decide +kernel)) (by decide) (by decide +kernel), ?_⟩
  refine ⟨sn_goto (off := -63) (dX_goto (by decide +kernel)) (by decide +kernel), ?_⟩
  refine ⟨sn_aload_n (k := 0) (dX_aload_0 (by decide +kernel)) rfl (by decide +kernel), ?_⟩
  refine ⟨sn_getf (C := RX11) (T := TX11) (N := 18) (idx := 61) rfl pin11 (by decide) (by decide) rfl (pmt2 127 rfl (by decide +kernel)) rfl (dX_getfield (by decide +kernel)) (by decide +kernel), ?_⟩
  refine ⟨sn_callV (idx := 310) (C := RX10) (T := TX10) (N := 12) rfl (by decide) cal_167 (pmt4 194 rfl (by decide +kernel)) (pmt4 195 rfl (by decide +kernel)) (pmt4 196 rfl (by decide +kernel)) (dX_invokevirtual (by decide +kernel)) (by decide +kernel), ?_⟩
  refine ⟨sn_if_ne (off := 6) (dX_ifne (by decide +kernel)) (by decide +kernel) (by decide +kernel), ?_⟩
  refine ⟨sn_bipush (dX_bipush (by decide +kernel)) (by decide +kernel) (by decide +kernel), ?_⟩
  refine ⟨sn_iret rfl (dX_ireturn (by decide +kernel)), ?_⟩
  refine ⟨sn_aload_n (k := 0) (dX_aload_0 (by decide +kernel)) rfl (by decide +kernel), ?_⟩
  refine ⟨sn_getf (C := RX11) (T := TX11) (N := 18) (idx := 37) rfl pin11 (by decide) (by decide) rfl (pmt2 123 rfl (by decide +kernel)) rfl (dX_getfield (by decide +kernel)) (by decide +kernel), ?_⟩
  refine ⟨sn_callV (idx := 227) (C := RX4) (T := TX4) (N := 2) rfl (by decide) cal_127 (pmt4 81 rfl (by decide +kernel)) (pmt4 82 rfl (by decide +kernel)) (pmt4 83 rfl (by decide +kernel)) (dX_invokevirtual (by decide +kernel)) (by decide +kernel), ?_⟩
  refine ⟨sn_aload_n (k := 0) (dX_aload_0 (by decide +kernel)) rfl (by decide +kernel), ?_⟩
  refine ⟨sn_getf (C := RX11) (T := TX11) (N := 18) (idx := 37) rfl pin11 (by decide) (by decide) rfl (pmt2 123 rfl (by decide +kernel)) rfl (dX_getfield (by decide +kernel)) (by decide +kernel), ?_⟩
  refine ⟨sn_aload_n (k := 0) (dX_aload_0 (by decide +kernel)) rfl (by decide +kernel), ?_⟩
  refine ⟨sn_getf (C := RX11) (T := TX11) (N := 18) (idx := 61) rfl pin11 (by decide) (by decide) rfl (pmt2 127 rfl (by decide +kernel)) rfl (dX_getfield (by decide +kernel)) (by decide +kernel), ?_⟩
  refine ⟨sn_getf (C := RX10) (T := TX10) (N := 12) (idx := 325) rfl pin10 (by decide) (by decide) rfl (pmt1 219 rfl (by decide +kernel)) rfl (dX_getfield (by decide +kernel)) (by decide +kernel), ?_⟩
  refine ⟨sn_callV (idx := 230) (C := RX4) (T := TX4) (N := 2) rfl (by decide) cal_128 (pmt4 85 rfl (by decide +kernel)) (pmt4 86 rfl (by decide +kernel)) (pmt4 87 rfl (by decide +kernel)) (dX_invokevirtual (by decide +kernel)) (by decide +kernel), ?_⟩
  refine ⟨sn_aload_n (k := 0) (dX_aload_0 (by decide +kernel)) rfl (by decide +kernel), ?_⟩
  refine ⟨sn_callV (idx := 316) (C := RX11) (T := TX11) (N := 18) rfl (by decide) cal_58 (pmt4 217 rfl (by decide +kernel)) (pmt4 219 rfl (by decide +kernel)) (pms 25 rfl rfl) (dX_invokevirtual (by decide +kernel)) (by decide +kernel), ?_⟩
  refine ⟨sn_iconst (dX_iconst_1 (by decide +kernel)) (by decide +kernel), ?_⟩
  refine ⟨sn_iret rfl (dX_ireturn (by decide +kernel)), ?_⟩
  trivial
set_option maxRecDepth 100000 in
set_option maxHeartbeats 4000000 in
theorem S_24 : pAll (pSk RX11 cX11_near 1 (some .int) PC_24) 0 C_24 := by
  refine ⟨sn_aload_n (k := 0) (dX_aload_0 (by decide +kernel)) rfl (by decide +kernel), ?_⟩
  refine ⟨sn_getf (C := RX11) (T := TX11) (N := 18) (idx := 44) rfl pin11 (by decide) (by decide) rfl (pmt2 124 rfl (by decide +kernel)) rfl (dX_getfield (by decide +kernel)) (by decide +kernel), ?_⟩
  refine ⟨sn_callV (idx := 300) (C := RX0) (T := TX0) (N := 13) rfl (by decide) cal_92 (pmt4 178 rfl (by decide +kernel)) (pmt4 179 rfl (by decide +kernel)) (pmt4 180 rfl (by decide +kernel)) (dX_invokevirtual (by decide +kernel)) (by decide +kernel), ?_⟩
  refine ⟨sn_if_eq (off := 8) (dX_ifeq (by decide +kernel)) (by decide +kernel) (by decide +kernel), ?_⟩
  refine ⟨sn_bipush (dX_bipush (by decide +kernel)) (by decide +kernel) (by decide +kernel), ?_⟩
  refine ⟨sn_goto (off := 9) (dX_goto (by decide +kernel)) (by decide +kernel), ?_⟩
  refine ⟨sn_aload_n (k := 0) (dX_aload_0 (by decide +kernel)) rfl (by decide +kernel), ?_⟩
  refine ⟨sn_iconst (dX_iconst_m1 (by decide +kernel)) (by decide +kernel), ?_⟩
  refine ⟨sn_iconst (dX_iconst_0 (by decide +kernel)) (by decide +kernel), ?_⟩
  refine ⟨sn_callV (idx := 327) (C := RX11) (T := TX11) (N := 18) rfl (by decide) cal_59 (pmt5 20 rfl (by decide +kernel)) (pmt5 22 rfl (by decide +kernel)) (pms 26 rfl rfl) (dX_invokevirtual (by decide +kernel)) (by decide +kernel), ?_⟩
  refine ⟨sn_iret rfl (dX_ireturn (by decide +kernel)), ?_⟩
  trivial
set_option maxRecDepth 100000 in
set_option maxHeartbeats 4000000 in
theorem S_25 : pAll (pSk RX11 cX11_guest 3 (some .int) PC_25) 0 C_25 := by
  refine ⟨sn_aload_n (k := 0) (dX_aload_0 (by decide +kernel)) rfl (by decide +kernel), ?_⟩
  refine ⟨sn_getf (C := RX11) (T := TX11) (N := 18) (idx := 44) rfl pin11 (by decide) (by decide) rfl (pmt2 124 rfl (by decide +kernel)) rfl (dX_getfield (by decide +kernel)) (by decide +kernel), ?_⟩
  refine ⟨sn_iload_n (k := 1) (dX_iload_1 (by decide +kernel)) rfl (by decide +kernel), ?_⟩
  refine ⟨sn_callV (idx := 137) (C := RX0) (T := TX0) (N := 13) rfl (by decide) cal_63 (pmt4 23 rfl (by decide +kernel)) (pmt3 25 rfl (by decide +kernel)) (pmt3 26 rfl (by decide +kernel)) (dX_invokevirtual (by decide +kernel)) (by decide +kernel), ?_⟩
  refine ⟨sn_if_eq (off := 13) (dX_ifeq (by decide +kernel)) (by decide +kernel) (by decide +kernel), ?_⟩
  refine ⟨sn_iload_n (k := 2) (dX_iload_2 (by decide +kernel)) rfl (by decide +kernel), ?_⟩
  refine ⟨sn_if_lt (off := 9) (dX_iflt (by decide +kernel)) (by decide +kernel) (by decide +kernel), ?_⟩
  refine ⟨sn_iload_n (k := 2) (dX_iload_2 (by decide +kernel)) rfl (by decide +kernel), ?_⟩
  refine ⟨sn_bipush (dX_bipush (by decide +kernel)) (by decide +kernel) (by decide +kernel), ?_⟩
  refine ⟨sn_icmp_le (off := 5) (dX_if_icmple (by decide +kernel)) (by decide +kernel) (by decide +kernel), ?_⟩
  refine ⟨sn_iconst (dX_iconst_m1 (by decide +kernel)) (by decide +kernel), ?_⟩
  refine ⟨sn_iret rfl (dX_ireturn (by decide +kernel)), ?_⟩
  refine ⟨sn_aload_n (k := 0) (dX_aload_0 (by decide +kernel)) rfl (by decide +kernel), ?_⟩
  refine ⟨sn_getf (C := RX11) (T := TX11) (N := 18) (idx := 44) rfl pin11 (by decide) (by decide) rfl (pmt2 124 rfl (by decide +kernel)) rfl (dX_getfield (by decide +kernel)) (by decide +kernel), ?_⟩
  refine ⟨sn_callV (idx := 300) (C := RX0) (T := TX0) (N := 13) rfl (by decide) cal_92 (pmt4 178 rfl (by decide +kernel)) (pmt4 179 rfl (by decide +kernel)) (pmt4 180 rfl (by decide +kernel)) (dX_invokevirtual (by decide +kernel)) (by decide +kernel), ?_⟩
  refine ⟨sn_if_eq (off := 8) (dX_ifeq (by decide +kernel)) (by decide +kernel) (by decide +kernel), ?_⟩
  refine ⟨sn_bipush (dX_bipush (by decide +kernel)) (by decide +kernel) (by decide +kernel), ?_⟩
  refine ⟨sn_goto (off := 9) (dX_goto (by decide +kernel)) (by decide +kernel), ?_⟩
  refine ⟨sn_aload_n (k := 0) (dX_aload_0 (by decide +kernel)) rfl (by decide +kernel), ?_⟩
  refine ⟨sn_iload_n (k := 1) (dX_iload_1 (by decide +kernel)) rfl (by decide +kernel), ?_⟩
  refine ⟨sn_iload_n (k := 2) (dX_iload_2 (by decide +kernel)) rfl (by decide +kernel), ?_⟩
  refine ⟨sn_callV (idx := 327) (C := RX11) (T := TX11) (N := 18) rfl (by decide) cal_59 (pmt5 20 rfl (by decide +kernel)) (pmt5 22 rfl (by decide +kernel)) (pms 26 rfl rfl) (dX_invokevirtual (by decide +kernel)) (by decide +kernel), ?_⟩
  refine ⟨sn_iret rfl (dX_ireturn (by decide +kernel)), ?_⟩
  trivial
set_option maxRecDepth 100000 in
set_option maxHeartbeats 4000000 in
theorem S_26 : pAll (pSk RX11 cX11_space 3 (some .int) PC_26) 0 C_26 := by
  refine ⟨sn_aload_n (k := 0) (dX_aload_0 (by decide +kernel)) rfl (by decide +kernel), ?_⟩
  refine ⟨sn_getf (C := RX11) (T := TX11) (N := 18) (idx := 44) rfl pin11 (by decide) (by decide) rfl (pmt2 124 rfl (by decide +kernel)) rfl (dX_getfield (by decide +kernel)) (by decide +kernel), ?_⟩
  refine ⟨sn_callV (idx := 300) (C := RX0) (T := TX0) (N := 13) rfl (by decide) cal_92 (pmt4 178 rfl (by decide +kernel)) (pmt4 179 rfl (by decide +kernel)) (pmt4 180 rfl (by decide +kernel)) (dX_invokevirtual (by decide +kernel)) (by decide +kernel), ?_⟩
  refine ⟨sn_if_eq (off := 6) (dX_ifeq (by decide +kernel)) (by decide +kernel) (by decide +kernel), ?_⟩
  refine ⟨sn_bipush (dX_bipush (by decide +kernel)) (by decide +kernel) (by decide +kernel), ?_⟩
  refine ⟨sn_iret rfl (dX_ireturn (by decide +kernel)), ?_⟩
  refine ⟨sn_iconst (dX_iconst_m1 (by decide +kernel)) (by decide +kernel), ?_⟩
  refine ⟨sn_istore_n (k := 1) (dX_istore_1 (by decide +kernel)) rfl (by decide) (by decide +kernel), ?_⟩
  refine ⟨sn_iconst (dX_iconst_0 (by decide +kernel)) (by decide +kernel), ?_⟩
  refine ⟨sn_istore_n (k := 2) (dX_istore_2 (by decide +kernel)) rfl (by decide) (by decide +kernel), ?_⟩
  refine ⟨sn_iload_n (k := 2) (dX_iload_2 (by decide +kernel)) rfl (by decide +kernel), ?_⟩
  refine ⟨sn_aload_n (k := 0) (dX_aload_0 (by decide +kernel)) rfl (by decide +kernel), ?_⟩
  refine ⟨sn_getf (C := RX11) (T := TX11) (N := 18) (idx := 44) rfl pin11 (by decide) (by decide) rfl (pmt2 124 rfl (by decide +kernel)) rfl (dX_getfield (by decide +kernel)) (by decide +kernel), ?_⟩
  refine ⟨sn_getf (C := RX0) (T := TX0) (N := 13) (idx := 319) rfl pin0 (by decide) (by decide) rfl (pmt1 137 rfl (by decide +kernel)) rfl (dX_getfield (by decide +kernel)) (by decide +kernel), ?_⟩
  refine ⟨sn_icmp_ge (off := 77) (dX_if_icmpge (by decide +kernel)) (by decide +kernel) (by decide +kernel), ?_⟩
  refine ⟨sn_aload_n (k := 0) (dX_aload_0 (by decide +kernel)) rfl (by decide +kernel), ?_⟩
  refine ⟨sn_iload_n (k := 2) (dX_iload_2 (by decide +kernel)) rfl (by decide +kernel), ?_⟩
  refine ⟨sn_iconst (dX_iconst_0 (by decide +kernel)) (by decide +kernel), ?_⟩
  refine ⟨sn_iconst (dX_iconst_m1 (by decide +kernel)) (by decide +kernel), ?_⟩
  refine ⟨sn_callV (idx := 330) (C := RX11) (T := TX11) (N := 18) rfl (by decide) cal_60 (pmt5 37 rfl (by decide +kernel)) (pmt5 39 rfl (by decide +kernel)) (pms 27 rfl rfl) (dX_invokevirtual (by decide +kernel)) (by decide +kernel), ?_⟩
  refine ⟨sn_if_eq (off := 61) (dX_ifeq (by decide +kernel)) (by decide +kernel) (by decide +kernel), ?_⟩
  refine ⟨sn_aload_n (k := 0) (dX_aload_0 (by decide +kernel)) rfl (by decide +kernel), ?_⟩
  refine ⟨sn_getf (C := RX11) (T := TX11) (N := 18) (idx := 44) rfl pin11 (by decide) (by decide) rfl (pmt2 124 rfl (by decide +kernel)) rfl (dX_getfield (by decide +kernel)) (by decide +kernel), ?_⟩
  refine ⟨sn_getf (C := RX0) (T := TX0) (N := 13) (idx := 147) rfl pin0 (by decide) (by decide) rfl (pmt1 108 rfl (by decide +kernel)) rfl (dX_getfield (by decide +kernel)) (by decide +kernel), ?_⟩
  refine ⟨sn_iload_n (k := 2) (dX_iload_2 (by decide +kernel)) rfl (by decide +kernel), ?_⟩
  refine ⟨sn_iald (dX_iaload (by decide +kernel)) (by decide +kernel), ?_⟩
  refine ⟨sn_aload_n (k := 0) (dX_aload_0 (by decide +kernel)) rfl (by decide +kernel), ?_⟩
  refine ⟨sn_getf (C := RX11) (T := TX11) (N := 18) (idx := 61) rfl pin11 (by decide) (by decide) rfl (pmt2 127 rfl (by decide +kernel)) rfl (dX_getfield (by decide +kernel)) (by decide +kernel), ?_⟩
  refine ⟨sn_getf (C := RX10) (T := TX10) (N := 12) (idx := 325) rfl pin10 (by decide) (by decide) rfl (pmt1 219 rfl (by decide +kernel)) rfl (dX_getfield (by decide +kernel)) (by decide +kernel), ?_⟩
  refine ⟨sn_iadd (dX_iadd (by decide +kernel)) (by decide +kernel), ?_⟩
  refine ⟨sn_iload_n (k := 1) (dX_iload_1 (by decide +kernel)) rfl (by decide +kernel), ?_⟩
  refine ⟨sn_icmp_le (off := 40) (dX_if_icmple (by decide +kernel)) (by decide +kernel) (by decide +kernel), ?_⟩
  refine ⟨sn_aload_n (k := 0) (dX_aload_0 (by decide +kernel)) rfl (by decide +kernel), ?_⟩
  refine ⟨sn_getf (C := RX11) (T := TX11) (N := 18) (idx := 44) rfl pin11 (by decide) (by decide) rfl (pmt2 124 rfl (by decide +kernel)) rfl (dX_getfield (by decide +kernel)) (by decide +kernel), ?_⟩
  refine ⟨sn_getf (C := RX0) (T := TX0) (N := 13) (idx := 147) rfl pin0 (by decide) (by decide) rfl (pmt1 108 rfl (by decide +kernel)) rfl (dX_getfield (by decide +kernel)) (by decide +kernel), ?_⟩
  refine ⟨sn_iload_n (k := 2) (dX_iload_2 (by decide +kernel)) rfl (by decide +kernel), ?_⟩
  refine ⟨sn_iald (dX_iaload (by decide +kernel)) (by decide +kernel), ?_⟩
  refine ⟨sn_aload_n (k := 0) (dX_aload_0 (by decide +kernel)) rfl (by decide +kernel), ?_⟩
  refine ⟨sn_getf (C := RX11) (T := TX11) (N := 18) (idx := 61) rfl pin11 (by decide) (by decide) rfl (pmt2 127 rfl (by decide +kernel)) rfl (dX_getfield (by decide +kernel)) (by decide +kernel), ?_⟩
  refine ⟨sn_getf (C := RX10) (T := TX10) (N := 12) (idx := 325) rfl pin10 (by decide) (by decide) rfl (pmt1 219 rfl (by decide +kernel)) rfl (dX_getfield (by decide +kernel)) (by decide +kernel), ?_⟩
  refine ⟨sn_iadd (dX_iadd (by decide +kernel)) (by decide +kernel), ?_⟩
  refine ⟨sn_istore_n (k := 1) (dX_istore_1 (by decide +kernel)) rfl (by decide) (by decide +kernel), ?_⟩
  refine ⟨sn_aload_n (k := 0) (dX_aload_0 (by decide +kernel)) rfl (by decide +kernel), ?_⟩
  refine ⟨sn_getf (C := RX11) (T := TX11) (N := 18) (idx := 37) rfl pin11 (by decide) (by decide) rfl (pmt2 123 rfl (by decide +kernel)) rfl (dX_getfield (by decide +kernel)) (by decide +kernel), ?_⟩
  refine ⟨sn_callV (idx := 227) (C := RX4) (T := TX4) (N := 2) rfl (by decide) cal_127 (pmt4 81 rfl (by decide +kernel)) (pmt4 82 rfl (by decide +kernel)) (pmt4 83 rfl (by decide +kernel)) (dX_invokevirtual (by decide +kernel)) (by decide +kernel), ?_⟩
  refine ⟨sn_aload_n (k := 0) (dX_aload_0 (by decide +kernel)) rfl (by decide +kernel), ?_⟩
  refine ⟨sn_getf (C := RX11) (T := TX11) (N := 18) (idx := 37) rfl pin11 (by decide) (by decide) rfl (pmt2 123 rfl (by decide +kernel)) rfl (dX_getfield (by decide +kernel)) (by decide +kernel), ?_⟩
  refine ⟨sn_iload_n (k := 2) (dX_iload_2 (by decide +kernel)) rfl (by decide +kernel), ?_⟩
  refine ⟨sn_callV (idx := 230) (C := RX4) (T := TX4) (N := 2) rfl (by decide) cal_128 (pmt4 85 rfl (by decide +kernel)) (pmt4 86 rfl (by decide +kernel)) (pmt4 87 rfl (by decide +kernel)) (dX_invokevirtual (by decide +kernel)) (by decide +kernel), ?_⟩
  refine ⟨sn_aload_n (k := 0) (dX_aload_0 (by decide +kernel)) rfl (by decide +kernel), ?_⟩
  refine ⟨sn_callV (idx := 316) (C := RX11) (T := TX11) (N := 18) rfl (by decide) cal_58 (pmt4 217 rfl (by decide +kernel)) (pmt4 219 rfl (by decide +kernel)) (pms 25 rfl rfl) (dX_invokevirtual (by decide +kernel)) (by decide +kernel), ?_⟩
  refine ⟨sn_iinc (dX_iinc (by decide +kernel)) (by decide) (by decide +kernel), ?_⟩
  refine ⟨sn_goto (off := -82) (dX_goto (by decide +kernel)) (by decide +kernel), ?_⟩
  refine ⟨sn_iload_n (k := 1) (dX_iload_1 (by decide +kernel)) rfl (by decide +kernel), ?_⟩
  refine ⟨sn_iconst (dX_iconst_m1 (by decide +kernel)) (by decide +kernel), ?_⟩
  refine ⟨sn_icmp_ne (off := 8) (dX_if_icmpne (by decide +kernel)) (by decide +kernel) (by decide +kernel), ?_⟩
  refine ⟨sn_bipush (dX_bipush (by decide +kernel)) (by decide +kernel) (by decide +kernel), ?_⟩
  refine ⟨sn_goto (off := 4) (dX_goto (by decide +kernel)) (by decide +kernel), ?_⟩
  refine ⟨sn_iload_n (k := 1) (dX_iload_1 (by decide +kernel)) rfl (by decide +kernel), ?_⟩
  refine ⟨sn_iret rfl (dX_ireturn (by decide +kernel)), ?_⟩
  trivial
set_option maxRecDepth 100000 in
set_option maxHeartbeats 4000000 in
theorem S_27 : pAll (pSk RX11 cX11_could 7 (some .int) PC_27) 0 C_27 := by
  refine ⟨sn_iload_n (k := 1) (dX_iload_1 (by decide +kernel)) rfl (by decide +kernel), ?_⟩
  refine ⟨sn_iconst (dX_iconst_1 (by decide +kernel)) (by decide +kernel), ?_⟩
  refine ⟨sn_icmp_lt (off := 24) (dX_if_icmplt (by decide +kernel)) (by decide +kernel) (by decide +kernel), ?_⟩
  refine ⟨sn_iload_n (k := 1) (dX_iload_1 (by decide +kernel)) rfl (by decide +kernel), ?_⟩
  refine ⟨sn_bipush (dX_bipush (by decide +kernel)) (by decide +kernel) (by decide +kernel), ?_⟩
  refine ⟨sn_icmp_gt (off := 18) (dX_if_icmpgt (by decide +kernel)) (by decide +kernel) (by decide +kernel), ?_⟩
  refine ⟨sn_iload_n (k := 2) (dX_iload_2 (by decide +kernel)) rfl (by decide +kernel), ?_⟩
  refine ⟨sn_if_lt (off := 14) (dX_iflt (by decide +kernel)) (by decide +kernel) (by decide +kernel), ?_⟩
  refine ⟨sn_iload_n (k := 2) (dX_iload_2 (by decide +kernel)) rfl (by decide +kernel), ?_⟩
  refine ⟨sn_aload_n (k := 0) (dX_aload_0 (by decide +kernel)) rfl (by decide +kernel), ?_⟩
  refine ⟨sn_getf (C := RX11) (T := TX11) (N := 18) (idx := 44) rfl pin11 (by decide) (by decide) rfl (pmt2 124 rfl (by decide +kernel)) rfl (dX_getfield (by decide +kernel)) (by decide +kernel), ?_⟩
  refine ⟨sn_callV (idx := 291) (C := RX0) (T := TX0) (N := 13) rfl (by decide) cal_68 (pmt4 157 rfl (by decide +kernel)) (pmt3 69 rfl (by decide +kernel)) (pmt3 70 rfl (by decide +kernel)) (dX_invokevirtual (by decide +kernel)) (by decide +kernel), ?_⟩
  refine ⟨sn_icmp_le (off := 5) (dX_if_icmple (by decide +kernel)) (by decide +kernel) (by decide +kernel), ?_⟩
  refine ⟨sn_iconst (dX_iconst_m1 (by decide +kernel)) (by decide +kernel), ?_⟩
  refine ⟨sn_iret rfl (dX_ireturn (by decide +kernel)), ?_⟩
  refine ⟨sn_aload_n (k := 0) (dX_aload_0 (by decide +kernel)) rfl (by decide +kernel), ?_⟩
  refine ⟨sn_getf (C := RX11) (T := TX11) (N := 18) (idx := 44) rfl pin11 (by decide) (by decide) rfl (pmt2 124 rfl (by decide +kernel)) rfl (dX_getfield (by decide +kernel)) (by decide +kernel), ?_⟩
  refine ⟨sn_callV (idx := 300) (C := RX0) (T := TX0) (N := 13) rfl (by decide) cal_92 (pmt4 178 rfl (by decide +kernel)) (pmt4 179 rfl (by decide +kernel)) (pmt4 180 rfl (by decide +kernel)) (dX_invokevirtual (by decide +kernel)) (by decide +kernel), ?_⟩
  refine ⟨sn_if_eq (off := 6) (dX_ifeq (by decide +kernel)) (by decide +kernel) (by decide +kernel), ?_⟩
  refine ⟨sn_bipush (dX_bipush (by decide +kernel)) (by decide +kernel) (by decide +kernel), ?_⟩
  refine ⟨sn_iret rfl (dX_ireturn (by decide +kernel)), ?_⟩
  refine ⟨sn_aload_n (k := 0) (dX_aload_0 (by decide +kernel)) rfl (by decide +kernel), ?_⟩
  refine ⟨sn_getf (C := RX11) (T := TX11) (N := 18) (idx := 44) rfl pin11 (by decide) (by decide) rfl (pmt2 124 rfl (by decide +kernel)) rfl (dX_getfield (by decide +kernel)) (by decide +kernel), ?_⟩
  refine ⟨sn_iload_n (k := 2) (dX_iload_2 (by decide +kernel)) rfl (by decide +kernel), ?_⟩
  refine ⟨sn_callV (idx := 334) (C := RX0) (T := TX0) (N := 13) rfl (by decide) cal_105 (pmt5 45 rfl (by decide +kernel)) (pmt5 46 rfl (by decide +kernel)) (pmt5 47 rfl (by decide +kernel)) (dX_invokevirtual (by decide +kernel)) (by decide +kernel), ?_⟩
  refine ⟨sn_istore_n (k := 3) (dX_istore_3 (by decide +kernel)) rfl (by decide) (by decide +kernel), ?_⟩
  refine ⟨sn_iload_n (k := 1) (dX_iload_1 (by decide +kernel)) rfl (by decide +kernel), ?_⟩
  refine ⟨sn_aload_n (k := 0) (dX_aload_0 (by decide +kernel)) rfl (by decide +kernel), ?_⟩
  refine ⟨sn_getf (C := RX11) (T := TX11) (N := 18) (idx := 44) rfl pin11 (by decide) (by decide) rfl (pmt2 124 rfl (by decide +kernel)) rfl (dX_getfield (by decide +kernel)) (by decide +kernel), ?_⟩
  refine ⟨sn_aload_n (k := 0) (dX_aload_0 (by decide +kernel)) rfl (by decide +kernel), ?_⟩
  refine ⟨sn_getf (C := RX11) (T := TX11) (N := 18) (idx := 44) rfl pin11 (by decide) (by decide) rfl (pmt2 124 rfl (by decide +kernel)) rfl (dX_getfield (by decide +kernel)) (by decide +kernel), ?_⟩
  refine ⟨sn_iload_n (k := 3) (dX_iload_3 (by decide +kernel)) rfl (by decide +kernel), ?_⟩
  refine ⟨sn_callV (idx := 337) (C := RX0) (T := TX0) (N := 13) rfl (by decide) cal_104 (pmt5 50 rfl (by decide +kernel)) (pmt5 51 rfl (by decide +kernel)) (pmt5 52 rfl (by decide +kernel)) (dX_invokevirtual (by decide +kernel)) (by decide +kernel), ?_⟩
  refine ⟨sn_callV (idx := 340) (C := RX0) (T := TX0) (N := 13) rfl (by decide) cal_102 (pmt5 54 rfl (by decide +kernel)) (pmt4 78 rfl (by decide +kernel)) (pmt4 79 rfl (by decide +kernel)) (dX_invokevirtual (by decide +kernel)) (by decide +kernel), ?_⟩
  refine ⟨sn_iadd (dX_iadd (by decide +kernel)) (by decide +kernel), ?_⟩
  refine ⟨sn_istore (dX_istore (by decide +kernel)) (by decide) (by decide +kernel), ?_⟩
  refine ⟨sn_iconst (dX_iconst_0 (by decide +kernel)) (by decide +kernel), ?_⟩
  refine ⟨sn_istore (dX_istore (by decide +kernel)) (by decide) (by decide +kernel), ?_⟩
  refine ⟨sn_iconst (dX_iconst_0 (by decide +kernel)) (by decide +kernel), ?_⟩
  refine ⟨sn_istore (dX_istore (by decide +kernel)) (by decide) (by decide +kernel), ?_⟩
  refine ⟨sn_iload (dX_iload (by decide +kernel)) (by decide +kernel), ?_⟩
  refine ⟨sn_aload_n (k := 0) (dX_aload_0 (by decide +kernel)) rfl (by decide +kernel), ?_⟩
  refine ⟨sn_getf (C := RX11) (T := TX11) (N := 18) (idx := 44) rfl pin11 (by decide) (by decide) rfl (pmt2 124 rfl (by decide +kernel)) rfl (dX_getfield (by decide +kernel)) (by decide +kernel), ?_⟩
  refine ⟨sn_getf (C := RX0) (T := TX0) (N := 13) (idx := 319) rfl pin0 (by decide) (by decide) rfl (pmt1 137 rfl (by decide +kernel)) rfl (dX_getfield (by decide +kernel)) (by decide +kernel), ?_⟩
  refine ⟨sn_icmp_ge (off := 61) (dX_if_icmpge (by decide +kernel)) (by decide +kernel) (by decide +kernel), ?_⟩
  refine ⟨sn_aload_n (k := 0) (dX_aload_0 (by decide +kernel)) rfl (by decide +kernel), ?_⟩
  refine ⟨sn_getf (C := RX11) (T := TX11) (N := 18) (idx := 61) rfl pin11 (by decide) (by decide) rfl (pmt2 127 rfl (by decide +kernel)) rfl (dX_getfield (by decide +kernel)) (by decide +kernel), ?_⟩
  refine ⟨sn_aload_n (k := 0) (dX_aload_0 (by decide +kernel)) rfl (by decide +kernel), ?_⟩
  refine ⟨sn_getf (C := RX11) (T := TX11) (N := 18) (idx := 44) rfl pin11 (by decide) (by decide) rfl (pmt2 124 rfl (by decide +kernel)) rfl (dX_getfield (by decide +kernel)) (by decide +kernel), ?_⟩
  refine ⟨sn_aload_n (k := 0) (dX_aload_0 (by decide +kernel)) rfl (by decide +kernel), ?_⟩
  refine ⟨sn_getf (C := RX11) (T := TX11) (N := 18) (idx := 44) rfl pin11 (by decide) (by decide) rfl (pmt2 124 rfl (by decide +kernel)) rfl (dX_getfield (by decide +kernel)) (by decide +kernel), ?_⟩
  refine ⟨sn_callV (idx := 304) (C := RX0) (T := TX0) (N := 13) rfl (by decide) cal_69 (pmt4 182 rfl (by decide +kernel)) (pmt4 183 rfl (by decide +kernel)) (pmt4 184 rfl (by decide +kernel)) (dX_invokevirtual (by decide +kernel)) (by decide +kernel), ?_⟩
  refine ⟨sn_iload_n (k := 3) (dX_iload_3 (by decide +kernel)) rfl (by decide +kernel), ?_⟩
  refine ⟨sn_iconst (dX_iconst_m1 (by decide +kernel)) (by decide +kernel), ?_⟩
  refine ⟨sn_ixor (dX_ixor (by decide +kernel)) (by decide +kernel), ?_⟩
  refine ⟨sn_iand (dX_iand (by decide +kernel)) (by decide +kernel), ?_⟩
  refine ⟨sn_callV (idx := 307) (C := RX10) (T := TX10) (N := 12) rfl (by decide) cal_160 (pmt4 186 rfl (by decide +kernel)) (pmt4 187 rfl (by decide +kernel)) (pmt4 188 rfl (by decide +kernel)) (dX_invokevirtual (by decide +kernel)) (by decide +kernel), ?_⟩
  refine ⟨sn_aload_n (k := 0) (dX_aload_0 (by decide +kernel)) rfl (by decide +kernel), ?_⟩
  refine ⟨sn_getf (C := RX11) (T := TX11) (N := 18) (idx := 61) rfl pin11 (by decide) (by decide) rfl (pmt2 127 rfl (by decide +kernel)) rfl (dX_getfield (by decide +kernel)) (by decide +kernel), ?_⟩
  refine ⟨sn_iload (dX_iload (by decide +kernel)) (by decide +kernel), ?_⟩
  refine ⟨sn_iload (dX_iload (by decide +kernel)) (by decide +kernel), ?_⟩
  refine ⟨sn_callV (idx := 343) (C := RX10) (T := TX10) (N := 12) rfl (by decide) cal_161 (pmt5 24 rfl (by decide +kernel)) (pmt5 25 rfl (by decide +kernel)) (pmt5 26 rfl (by decide +kernel)) (dX_invokevirtual (by decide +kernel)) (by decide +kernel), ?_⟩
  refine ⟨sn_aload_n (k := 0) (dX_aload_0 (by decide +kernel)) rfl (by decide +kernel), ?_⟩
  refine ⟨sn_getf (C := RX11) (T := TX11) (N := 18) (idx := 61) rfl pin11 (by decide) (by decide) rfl (pmt2 127 rfl (by decide +kernel)) rfl (dX_getfield (by decide +kernel)) (by decide +kernel), ?_⟩
  refine ⟨sn_callV (idx := 347) (C := RX10) (T := TX10) (N := 12) rfl (by decide) cal_163 (pmt5 55 rfl (by decide +kernel)) (pmt4 200 rfl (by decide +kernel)) (pmt4 201 rfl (by decide +kernel)) (dX_invokevirtual (by decide +kernel)) (by decide +kernel), ?_⟩
  refine ⟨sn_if_eq (off := 12) (dX_ifeq (by decide +kernel)) (by decide +kernel) (by decide +kernel), ?_⟩
  refine ⟨sn_iload (dX_iload (by decide +kernel)) (by decide +kernel), ?_⟩
  refine ⟨sn_iconst (dX_iconst_1 (by decide +kernel)) (by decide +kernel), ?_⟩
  refine ⟨sn_iload (dX_iload (by decide +kernel)) (by decide +kernel), ?_⟩
  refine ⟨sn_ishl (dX_ishl (by decide +kernel)) (by decide +kernel), ?_⟩
  refine ⟨sn_ior (dX_ior (by decide +kernel)) (by decide +kernel), ?_⟩
  refine ⟨sn_istore (dX_istore (by decide +kernel)) (by decide) (by decide +kernel), ?_⟩
  refine ⟨sn_iinc (dX_iinc (by decide +kernel)) (by decide) (by decide +kernel), ?_⟩
  refine ⟨sn_goto (off := -67) (dX_goto (by decide +kernel)) (by decide +kernel), ?_⟩
  refine ⟨sn_iload (dX_iload (by decide +kernel)) (by decide +kernel), ?_⟩
  refine ⟨sn_iret rfl (dX_ireturn (by decide +kernel)), ?_⟩
  trivial
set_option maxRecDepth 100000 in
set_option maxHeartbeats 4000000 in
theorem S_28 : pAll (pSk RX11 cX11_may 7 (some .int) PC_28) 0 C_28 := by
  refine ⟨sn_iload_n (k := 1) (dX_iload_1 (by decide +kernel)) rfl (by decide +kernel), ?_⟩
  refine ⟨sn_if_lt (off := 14) (dX_iflt (by decide +kernel)) (by decide +kernel) (by decide +kernel), ?_⟩
  refine ⟨sn_iload_n (k := 1) (dX_iload_1 (by decide +kernel)) rfl (by decide +kernel), ?_⟩
  refine ⟨sn_aload_n (k := 0) (dX_aload_0 (by decide +kernel)) rfl (by decide +kernel), ?_⟩
  refine ⟨sn_getf (C := RX11) (T := TX11) (N := 18) (idx := 44) rfl pin11 (by decide) (by decide) rfl (pmt2 124 rfl (by decide +kernel)) rfl (dX_getfield (by decide +kernel)) (by decide +kernel), ?_⟩
  refine ⟨sn_getf (C := RX0) (T := TX0) (N := 13) (idx := 270) rfl pin0 (by decide) (by decide) rfl (pmt1 150 rfl (by decide +kernel)) rfl (dX_getfield (by decide +kernel)) (by decide +kernel), ?_⟩
  refine ⟨sn_icmp_lt (off := 5) (dX_if_icmplt (by decide +kernel)) (by decide +kernel) (by decide +kernel), ?_⟩
  refine ⟨sn_iconst (dX_iconst_m1 (by decide +kernel)) (by decide +kernel), ?_⟩
  refine ⟨sn_iret rfl (dX_ireturn (by decide +kernel)), ?_⟩
  refine ⟨sn_aload_n (k := 0) (dX_aload_0 (by decide +kernel)) rfl (by decide +kernel), ?_⟩
  refine ⟨sn_getf (C := RX11) (T := TX11) (N := 18) (idx := 44) rfl pin11 (by decide) (by decide) rfl (pmt2 124 rfl (by decide +kernel)) rfl (dX_getfield (by decide +kernel)) (by decide +kernel), ?_⟩
  refine ⟨sn_callV (idx := 300) (C := RX0) (T := TX0) (N := 13) rfl (by decide) cal_92 (pmt4 178 rfl (by decide +kernel)) (pmt4 179 rfl (by decide +kernel)) (pmt4 180 rfl (by decide +kernel)) (dX_invokevirtual (by decide +kernel)) (by decide +kernel), ?_⟩
  refine ⟨sn_if_eq (off := 6) (dX_ifeq (by decide +kernel)) (by decide +kernel) (by decide +kernel), ?_⟩
  refine ⟨sn_bipush (dX_bipush (by decide +kernel)) (by decide +kernel) (by decide +kernel), ?_⟩
  refine ⟨sn_iret rfl (dX_ireturn (by decide +kernel)), ?_⟩
  refine ⟨sn_aload_n (k := 0) (dX_aload_0 (by decide +kernel)) rfl (by decide +kernel), ?_⟩
  refine ⟨sn_getf (C := RX11) (T := TX11) (N := 18) (idx := 44) rfl pin11 (by decide) (by decide) rfl (pmt2 124 rfl (by decide +kernel)) rfl (dX_getfield (by decide +kernel)) (by decide +kernel), ?_⟩
  refine ⟨sn_getf (C := RX0) (T := TX0) (N := 13) (idx := 150) rfl pin0 (by decide) (by decide) rfl (pmt1 123 rfl (by decide +kernel)) rfl (dX_getfield (by decide +kernel)) (by decide +kernel), ?_⟩
  refine ⟨sn_aload_n (k := 0) (dX_aload_0 (by decide +kernel)) rfl (by decide +kernel), ?_⟩
  refine ⟨sn_getf (C := RX11) (T := TX11) (N := 18) (idx := 44) rfl pin11 (by decide) (by decide) rfl (pmt2 124 rfl (by decide +kernel)) rfl (dX_getfield (by decide +kernel)) (by decide +kernel), ?_⟩
  refine ⟨sn_iload_n (k := 1) (dX_iload_1 (by decide +kernel)) rfl (by decide +kernel), ?_⟩
  refine ⟨sn_callV (idx := 350) (C := RX0) (T := TX0) (N := 13) rfl (by decide) cal_100 (pmt5 60 rfl (by decide +kernel)) (pmt5 61 rfl (by decide +kernel)) (pmt5 62 rfl (by decide +kernel)) (dX_invokevirtual (by decide +kernel)) (by decide +kernel), ?_⟩
  refine ⟨sn_callS (idx := 257) cal_47 (pmt4 24 rfl (by decide +kernel)) (pmt4 25 rfl (by decide +kernel)) (dX_invokestatic (by decide +kernel)) (by decide +kernel), ?_⟩
  refine ⟨sn_istore_n (k := 2) (dX_istore_2 (by decide +kernel)) rfl (by decide) (by decide +kernel), ?_⟩
  refine ⟨sn_iconst (dX_iconst_0 (by decide +kernel)) (by decide +kernel), ?_⟩
  refine ⟨sn_istore_n (k := 3) (dX_istore_3 (by decide +kernel)) rfl (by decide) (by decide +kernel), ?_⟩
  refine ⟨sn_iconst (dX_iconst_0 (by decide +kernel)) (by decide +kernel), ?_⟩
  refine ⟨sn_istore (dX_istore (by decide +kernel)) (by decide) (by decide +kernel), ?_⟩
  refine ⟨sn_aload_n (k := 0) (dX_aload_0 (by decide +kernel)) rfl (by decide +kernel), ?_⟩
  refine ⟨sn_getf (C := RX11) (T := TX11) (N := 18) (idx := 61) rfl pin11 (by decide) (by decide) rfl (pmt2 127 rfl (by decide +kernel)) rfl (dX_getfield (by decide +kernel)) (by decide +kernel), ?_⟩
  refine ⟨sn_aload_n (k := 0) (dX_aload_0 (by decide +kernel)) rfl (by decide +kernel), ?_⟩
  refine ⟨sn_getf (C := RX11) (T := TX11) (N := 18) (idx := 44) rfl pin11 (by decide) (by decide) rfl (pmt2 124 rfl (by decide +kernel)) rfl (dX_getfield (by decide +kernel)) (by decide +kernel), ?_⟩
  refine ⟨sn_aload_n (k := 0) (dX_aload_0 (by decide +kernel)) rfl (by decide +kernel), ?_⟩
  refine ⟨sn_getf (C := RX11) (T := TX11) (N := 18) (idx := 44) rfl pin11 (by decide) (by decide) rfl (pmt2 124 rfl (by decide +kernel)) rfl (dX_getfield (by decide +kernel)) (by decide +kernel), ?_⟩
  refine ⟨sn_callV (idx := 304) (C := RX0) (T := TX0) (N := 13) rfl (by decide) cal_69 (pmt4 182 rfl (by decide +kernel)) (pmt4 183 rfl (by decide +kernel)) (pmt4 184 rfl (by decide +kernel)) (dX_invokevirtual (by decide +kernel)) (by decide +kernel), ?_⟩
  refine ⟨sn_callV (idx := 307) (C := RX10) (T := TX10) (N := 12) rfl (by decide) cal_160 (pmt4 186 rfl (by decide +kernel)) (pmt4 187 rfl (by decide +kernel)) (pmt4 188 rfl (by decide +kernel)) (dX_invokevirtual (by decide +kernel)) (by decide +kernel), ?_⟩
  refine ⟨sn_iconst (dX_iconst_0 (by decide +kernel)) (by decide +kernel), ?_⟩
  refine ⟨sn_istore (dX_istore (by decide +kernel)) (by decide) (by decide +kernel), ?_⟩
  refine ⟨sn_iload (dX_iload (by decide +kernel)) (by decide +kernel), ?_⟩
  refine ⟨sn_ldcw (idx := 353) (dX_ldc_w (by decide +kernel)) (pmt5 68 rfl (by decide +kernel)) (by decide +kernel), ?_⟩
  refine ⟨sn_icmp_ge (off := 53) (dX_if_icmpge (by decide +kernel)) (by decide +kernel) (by decide +kernel), ?_⟩
  refine ⟨sn_aload_n (k := 0) (dX_aload_0 (by decide +kernel)) rfl (by decide +kernel), ?_⟩
  refine ⟨sn_getf (C := RX11) (T := TX11) (N := 18) (idx := 61) rfl pin11 (by decide) (by decide) rfl (pmt2 127 rfl (by decide +kernel)) rfl (dX_getfield (by decide +kernel)) (by decide +kernel), ?_⟩
  refine ⟨sn_callV (idx := 347) (C := RX10) (T := TX10) (N := 12) rfl (by decide) cal_163 (pmt5 55 rfl (by decide +kernel)) (pmt4 200 rfl (by decide +kernel)) (pmt4 201 rfl (by decide +kernel)) (dX_invokevirtual (by decide +kernel)) (by decide +kernel), ?_⟩
  refine ⟨sn_if_eq (off := 43) (dX_ifeq (by decide +kernel)) (by decide +kernel) (by decide +kernel), ?_⟩
  refine ⟨sn_aload_n (k := 0) (dX_aload_0 (by decide +kernel)) rfl (by decide +kernel), ?_⟩
  refine ⟨sn_getf (C := RX11) (T := TX11) (N := 18) (idx := 61) rfl pin11 (by decide) (by decide) rfl (pmt2 127 rfl (by decide +kernel)) rfl (dX_getfield (by decide +kernel)) (by decide +kernel), ?_⟩
  refine ⟨sn_getf (C := RX10) (T := TX10) (N := 12) (idx := 354) rfl pin10 (by decide) (by decide) rfl (pmt1 210 rfl (by decide +kernel)) rfl (dX_getfield (by decide +kernel)) (by decide +kernel), ?_⟩
  refine ⟨sn_iload_n (k := 1) (dX_iload_1 (by decide +kernel)) rfl (by decide +kernel), ?_⟩
  refine ⟨sn_iald (dX_iaload (by decide +kernel)) (by decide +kernel), ?_⟩
  refine ⟨sn_istore (dX_istore (by decide +kernel)) (by decide) (by decide +kernel), ?_⟩
  refine ⟨sn_iload_n (k := 3) (dX_iload_3 (by decide +kernel)) rfl (by decide +kernel), ?_⟩
  refine ⟨sn_iconst (dX_iconst_1 (by decide +kernel)) (by decide +kernel), ?_⟩
  refine ⟨sn_iload (dX_iload (by decide +kernel)) (by decide +kernel), ?_⟩
  refine ⟨sn_ishl (dX_ishl (by decide +kernel)) (by decide +kernel), ?_⟩
  refine ⟨sn_ior (dX_ior (by decide +kernel)) (by decide +kernel), ?_⟩
  refine ⟨sn_istore_n (k := 3) (dX_istore_3 (by decide +kernel)) rfl (by decide) (by decide +kernel), ?_⟩
  refine ⟨sn_iload (dX_iload (by decide +kernel)) (by decide +kernel), ?_⟩
  refine ⟨sn_iload (dX_iload (by decide +kernel)) (by decide +kernel), ?_⟩
  refine ⟨sn_iload_n (k := 2) (dX_iload_2 (by decide +kernel)) rfl (by decide +kernel), ?_⟩
  refine ⟨sn_icmp_ne (off := 7) (dX_if_icmpne (by decide +kernel)) (by decide +kernel) (by decide +kernel), ?_⟩
  refine ⟨sn_iconst (dX_iconst_1 (by decide +kernel)) (by decide +kernel), ?_⟩
  refine ⟨sn_goto (off := 4) (dX_goto (by decide +kernel)) (by decide +kernel), ?_⟩
  refine ⟨sn_iconst (dX_iconst_0 (by decide +kernel)) (by decide +kernel), ?_⟩
  refine ⟨sn_iadd (dX_iadd (by decide +kernel)) (by decide +kernel), ?_⟩
  refine ⟨sn_istore (dX_istore (by decide +kernel)) (by decide) (by decide +kernel), ?_⟩
  refine ⟨sn_iinc (dX_iinc (by decide +kernel)) (by decide) (by decide +kernel), ?_⟩
  refine ⟨sn_goto (off := -55) (dX_goto (by decide +kernel)) (by decide +kernel), ?_⟩
  refine ⟨sn_aload_n (k := 0) (dX_aload_0 (by decide +kernel)) rfl (by decide +kernel), ?_⟩
  refine ⟨sn_getf (C := RX11) (T := TX11) (N := 18) (idx := 37) rfl pin11 (by decide) (by decide) rfl (pmt2 123 rfl (by decide +kernel)) rfl (dX_getfield (by decide +kernel)) (by decide +kernel), ?_⟩
  refine ⟨sn_callV (idx := 227) (C := RX4) (T := TX4) (N := 2) rfl (by decide) cal_127 (pmt4 81 rfl (by decide +kernel)) (pmt4 82 rfl (by decide +kernel)) (pmt4 83 rfl (by decide +kernel)) (dX_invokevirtual (by decide +kernel)) (by decide +kernel), ?_⟩
  refine ⟨sn_aload_n (k := 0) (dX_aload_0 (by decide +kernel)) rfl (by decide +kernel), ?_⟩
  refine ⟨sn_getf (C := RX11) (T := TX11) (N := 18) (idx := 37) rfl pin11 (by decide) (by decide) rfl (pmt2 123 rfl (by decide +kernel)) rfl (dX_getfield (by decide +kernel)) (by decide +kernel), ?_⟩
  refine ⟨sn_iload (dX_iload (by decide +kernel)) (by decide +kernel), ?_⟩
  refine ⟨sn_callV (idx := 230) (C := RX4) (T := TX4) (N := 2) rfl (by decide) cal_128 (pmt4 85 rfl (by decide +kernel)) (pmt4 86 rfl (by decide +kernel)) (pmt4 87 rfl (by decide +kernel)) (dX_invokevirtual (by decide +kernel)) (by decide +kernel), ?_⟩
  refine ⟨sn_iload_n (k := 3) (dX_iload_3 (by decide +kernel)) rfl (by decide +kernel), ?_⟩
  refine ⟨sn_iret rfl (dX_ireturn (by decide +kernel)), ?_⟩
  trivial
set_option maxRecDepth 100000 in
set_option maxHeartbeats 4000000 in
theorem S_29 : pAll (pSk RX11 cX11_together 8 (some .int) PC_29) 0 C_29 := by
  refine ⟨sn_aload_n (k := 0) (dX_aload_0 (by decide +kernel)) rfl (by decide +kernel), ?_⟩
  refine ⟨sn_getf (C := RX11) (T := TX11) (N := 18) (idx := 44) rfl pin11 (by decide) (by decide) rfl (pmt2 124 rfl (by decide +kernel)) rfl (dX_getfield (by decide +kernel)) (by decide +kernel), ?_⟩
  refine ⟨sn_iload_n (k := 1) (dX_iload_1 (by decide +kernel)) rfl (by decide +kernel), ?_⟩
  refine ⟨sn_callV (idx := 164) (C := RX0) (T := TX0) (N := 13) rfl (by decide) cal_64 (pmt4 19 rfl (by decide +kernel)) (pmt4 20 rfl (by decide +kernel)) (pmt4 21 rfl (by decide +kernel)) (dX_invokevirtual (by decide +kernel)) (by decide +kernel), ?_⟩
  refine ⟨sn_if_eq (off := 19) (dX_ifeq (by decide +kernel)) (by decide +kernel) (by decide +kernel), ?_⟩
  refine ⟨sn_aload_n (k := 0) (dX_aload_0 (by decide +kernel)) rfl (by decide +kernel), ?_⟩
  refine ⟨sn_getf (C := RX11) (T := TX11) (N := 18) (idx := 44) rfl pin11 (by decide) (by decide) rfl (pmt2 124 rfl (by decide +kernel)) rfl (dX_getfield (by decide +kernel)) (by decide +kernel), ?_⟩
  refine ⟨sn_iload_n (k := 2) (dX_iload_2 (by decide +kernel)) rfl (by decide +kernel), ?_⟩
  refine ⟨sn_callV (idx := 164) (C := RX0) (T := TX0) (N := 13) rfl (by decide) cal_64 (pmt4 19 rfl (by decide +kernel)) (pmt4 20 rfl (by decide +kernel)) (pmt4 21 rfl (by decide +kernel)) (dX_invokevirtual (by decide +kernel)) (by decide +kernel), ?_⟩
  refine ⟨sn_if_eq (off := 8) (dX_ifeq (by decide +kernel)) (by decide +kernel) (by decide +kernel), ?_⟩
  refine ⟨sn_iload_n (k := 1) (dX_iload_1 (by decide +kernel)) rfl (by decide +kernel), ?_⟩
  refine ⟨sn_iload_n (k := 2) (dX_iload_2 (by decide +kernel)) rfl (by decide +kernel), ?_⟩
  refine ⟨sn_icmp_ne (off := 5) (dX_if_icmpne (by decide +kernel)) (by decide +kernel) (by decide +kernel), ?_⟩
  refine ⟨sn_iconst (dX_iconst_m1 (by decide +kernel)) (by decide +kernel), ?_⟩
  refine ⟨sn_iret rfl (dX_ireturn (by decide +kernel)), ?_⟩
  refine ⟨sn_aload_n (k := 0) (dX_aload_0 (by decide +kernel)) rfl (by decide +kernel), ?_⟩
  refine ⟨sn_getf (C := RX11) (T := TX11) (N := 18) (idx := 44) rfl pin11 (by decide) (by decide) rfl (pmt2 124 rfl (by decide +kernel)) rfl (dX_getfield (by decide +kernel)) (by decide +kernel), ?_⟩
  refine ⟨sn_callV (idx := 300) (C := RX0) (T := TX0) (N := 13) rfl (by decide) cal_92 (pmt4 178 rfl (by decide +kernel)) (pmt4 179 rfl (by decide +kernel)) (pmt4 180 rfl (by decide +kernel)) (dX_invokevirtual (by decide +kernel)) (by decide +kernel), ?_⟩
  refine ⟨sn_if_eq (off := 6) (dX_ifeq (by decide +kernel)) (by decide +kernel) (by decide +kernel), ?_⟩
  refine ⟨sn_bipush (dX_bipush (by decide +kernel)) (by decide +kernel) (by decide +kernel), ?_⟩
  refine ⟨sn_iret rfl (dX_ireturn (by decide +kernel)), ?_⟩
  refine ⟨sn_aload_n (k := 0) (dX_aload_0 (by decide +kernel)) rfl (by decide +kernel), ?_⟩
  refine ⟨sn_getf (C := RX11) (T := TX11) (N := 18) (idx := 44) rfl pin11 (by decide) (by decide) rfl (pmt2 124 rfl (by decide +kernel)) rfl (dX_getfield (by decide +kernel)) (by decide +kernel), ?_⟩
  refine ⟨sn_getf (C := RX0) (T := TX0) (N := 13) (idx := 182) rfl pin0 (by decide) (by decide) rfl (pmt1 132 rfl (by decide +kernel)) rfl (dX_getfield (by decide +kernel)) (by decide +kernel), ?_⟩
  refine ⟨sn_iload_n (k := 1) (dX_iload_1 (by decide +kernel)) rfl (by decide +kernel), ?_⟩
  refine ⟨sn_iald (dX_iaload (by decide +kernel)) (by decide +kernel), ?_⟩
  refine ⟨sn_istore_n (k := 3) (dX_istore_3 (by decide +kernel)) rfl (by decide) (by decide +kernel), ?_⟩
  refine ⟨sn_aload_n (k := 0) (dX_aload_0 (by decide +kernel)) rfl (by decide +kernel), ?_⟩
  refine ⟨sn_getf (C := RX11) (T := TX11) (N := 18) (idx := 44) rfl pin11 (by decide) (by decide) rfl (pmt2 124 rfl (by decide +kernel)) rfl (dX_getfield (by decide +kernel)) (by decide +kernel), ?_⟩
  refine ⟨sn_getf (C := RX0) (T := TX0) (N := 13) (idx := 182) rfl pin0 (by decide) (by decide) rfl (pmt1 132 rfl (by decide +kernel)) rfl (dX_getfield (by decide +kernel)) (by decide +kernel), ?_⟩
  refine ⟨sn_iload_n (k := 2) (dX_iload_2 (by decide +kernel)) rfl (by decide +kernel), ?_⟩
  refine ⟨sn_iald (dX_iaload (by decide +kernel)) (by decide +kernel), ?_⟩
  refine ⟨sn_istore (dX_istore (by decide +kernel)) (by decide) (by decide +kernel), ?_⟩
  refine ⟨sn_iconst (dX_iconst_0 (by decide +kernel)) (by decide +kernel), ?_⟩
  refine ⟨sn_istore (dX_istore (by decide +kernel)) (by decide) (by decide +kernel), ?_⟩
  refine ⟨sn_iconst (dX_iconst_0 (by decide +kernel)) (by decide +kernel), ?_⟩
  refine ⟨sn_istore (dX_istore (by decide +kernel)) (by decide) (by decide +kernel), ?_⟩
  refine ⟨sn_aload_n (k := 0) (dX_aload_0 (by decide +kernel)) rfl (by decide +kernel), ?_⟩
  refine ⟨sn_getf (C := RX11) (T := TX11) (N := 18) (idx := 61) rfl pin11 (by decide) (by decide) rfl (pmt2 127 rfl (by decide +kernel)) rfl (dX_getfield (by decide +kernel)) (by decide +kernel), ?_⟩
  refine ⟨sn_aload_n (k := 0) (dX_aload_0 (by decide +kernel)) rfl (by decide +kernel), ?_⟩
  refine ⟨sn_getf (C := RX11) (T := TX11) (N := 18) (idx := 44) rfl pin11 (by decide) (by decide) rfl (pmt2 124 rfl (by decide +kernel)) rfl (dX_getfield (by decide +kernel)) (by decide +kernel), ?_⟩
  refine ⟨sn_aload_n (k := 0) (dX_aload_0 (by decide +kernel)) rfl (by decide +kernel), ?_⟩
  refine ⟨sn_getf (C := RX11) (T := TX11) (N := 18) (idx := 44) rfl pin11 (by decide) (by decide) rfl (pmt2 124 rfl (by decide +kernel)) rfl (dX_getfield (by decide +kernel)) (by decide +kernel), ?_⟩
  refine ⟨sn_callV (idx := 304) (C := RX0) (T := TX0) (N := 13) rfl (by decide) cal_69 (pmt4 182 rfl (by decide +kernel)) (pmt4 183 rfl (by decide +kernel)) (pmt4 184 rfl (by decide +kernel)) (dX_invokevirtual (by decide +kernel)) (by decide +kernel), ?_⟩
  refine ⟨sn_callV (idx := 307) (C := RX10) (T := TX10) (N := 12) rfl (by decide) cal_160 (pmt4 186 rfl (by decide +kernel)) (pmt4 187 rfl (by decide +kernel)) (pmt4 188 rfl (by decide +kernel)) (dX_invokevirtual (by decide +kernel)) (by decide +kernel), ?_⟩
  refine ⟨sn_iconst (dX_iconst_0 (by decide +kernel)) (by decide +kernel), ?_⟩
  refine ⟨sn_istore (dX_istore (by decide +kernel)) (by decide) (by decide +kernel), ?_⟩
  refine ⟨sn_iload (dX_iload (by decide +kernel)) (by decide +kernel), ?_⟩
  refine ⟨sn_ldcw (idx := 353) (dX_ldc_w (by decide +kernel)) (pmt5 68 rfl (by decide +kernel)) (by decide +kernel), ?_⟩
  refine ⟨sn_icmp_ge (off := 58) (dX_if_icmpge (by decide +kernel)) (by decide +kernel) (by decide +kernel), ?_⟩
  refine ⟨sn_aload_n (k := 0) (dX_aload_0 (by decide +kernel)) rfl (by decide +kernel), ?_⟩
  refine ⟨sn_getf (C := RX11) (T := TX11) (N := 18) (idx := 61) rfl pin11 (by decide) (by decide) rfl (pmt2 127 rfl (by decide +kernel)) rfl (dX_getfield (by decide +kernel)) (by decide +kernel), ?_⟩
  refine ⟨sn_callV (idx := 347) (C := RX10) (T := TX10) (N := 12) rfl (by decide) cal_163 (pmt5 55 rfl (by decide +kernel)) (pmt4 200 rfl (by decide +kernel)) (pmt4 201 rfl (by decide +kernel)) (dX_invokevirtual (by decide +kernel)) (by decide +kernel), ?_⟩
  refine ⟨sn_if_eq (off := 48) (dX_ifeq (by decide +kernel)) (by decide +kernel) (by decide +kernel), ?_⟩
  refine ⟨sn_iinc (dX_iinc (by decide +kernel)) (by decide) (by decide +kernel), ?_⟩
  refine ⟨sn_iload (dX_iload (by decide +kernel)) (by decide +kernel), ?_⟩
  refine ⟨sn_aload_n (k := 0) (dX_aload_0 (by decide +kernel)) rfl (by decide +kernel), ?_⟩
  refine ⟨sn_getf (C := RX11) (T := TX11) (N := 18) (idx := 61) rfl pin11 (by decide) (by decide) rfl (pmt2 127 rfl (by decide +kernel)) rfl (dX_getfield (by decide +kernel)) (by decide +kernel), ?_⟩
  refine ⟨sn_getf (C := RX10) (T := TX10) (N := 12) (idx := 354) rfl pin10 (by decide) (by decide) rfl (pmt1 210 rfl (by decide +kernel)) rfl (dX_getfield (by decide +kernel)) (by decide +kernel), ?_⟩
  refine ⟨sn_iload_n (k := 3) (dX_iload_3 (by decide +kernel)) rfl (by decide +kernel), ?_⟩
  refine ⟨sn_callS (idx := 257) cal_47 (pmt4 24 rfl (by decide +kernel)) (pmt4 25 rfl (by decide +kernel)) (dX_invokestatic (by decide +kernel)) (by decide +kernel), ?_⟩
  refine ⟨sn_aload_n (k := 0) (dX_aload_0 (by decide +kernel)) rfl (by decide +kernel), ?_⟩
  refine ⟨sn_getf (C := RX11) (T := TX11) (N := 18) (idx := 61) rfl pin11 (by decide) (by decide) rfl (pmt2 127 rfl (by decide +kernel)) rfl (dX_getfield (by decide +kernel)) (by decide +kernel), ?_⟩
  refine ⟨sn_getf (C := RX10) (T := TX10) (N := 12) (idx := 354) rfl pin10 (by decide) (by decide) rfl (pmt1 210 rfl (by decide +kernel)) rfl (dX_getfield (by decide +kernel)) (by decide +kernel), ?_⟩
  refine ⟨sn_iload (dX_iload (by decide +kernel)) (by decide +kernel), ?_⟩
  refine ⟨sn_callS (idx := 257) cal_47 (pmt4 24 rfl (by decide +kernel)) (pmt4 25 rfl (by decide +kernel)) (dX_invokestatic (by decide +kernel)) (by decide +kernel), ?_⟩
  refine ⟨sn_icmp_ne (off := 7) (dX_if_icmpne (by decide +kernel)) (by decide +kernel) (by decide +kernel), ?_⟩
  refine ⟨sn_iconst (dX_iconst_1 (by decide +kernel)) (by decide +kernel), ?_⟩
  refine ⟨sn_goto (off := 4) (dX_goto (by decide +kernel)) (by decide +kernel), ?_⟩
  refine ⟨sn_iconst (dX_iconst_0 (by decide +kernel)) (by decide +kernel), ?_⟩
  refine ⟨sn_iadd (dX_iadd (by decide +kernel)) (by decide +kernel), ?_⟩
  refine ⟨sn_istore (dX_istore (by decide +kernel)) (by decide) (by decide +kernel), ?_⟩
  refine ⟨sn_iinc (dX_iinc (by decide +kernel)) (by decide) (by decide +kernel), ?_⟩
  refine ⟨sn_goto (off := -60) (dX_goto (by decide +kernel)) (by decide +kernel), ?_⟩
  refine ⟨sn_aload_n (k := 0) (dX_aload_0 (by decide +kernel)) rfl (by decide +kernel), ?_⟩
  refine ⟨sn_getf (C := RX11) (T := TX11) (N := 18) (idx := 37) rfl pin11 (by decide) (by decide) rfl (pmt2 123 rfl (by decide +kernel)) rfl (dX_getfield (by decide +kernel)) (by decide +kernel), ?_⟩
  refine ⟨sn_callV (idx := 227) (C := RX4) (T := TX4) (N := 2) rfl (by decide) cal_127 (pmt4 81 rfl (by decide +kernel)) (pmt4 82 rfl (by decide +kernel)) (pmt4 83 rfl (by decide +kernel)) (dX_invokevirtual (by decide +kernel)) (by decide +kernel), ?_⟩
  refine ⟨sn_aload_n (k := 0) (dX_aload_0 (by decide +kernel)) rfl (by decide +kernel), ?_⟩
  refine ⟨sn_getf (C := RX11) (T := TX11) (N := 18) (idx := 37) rfl pin11 (by decide) (by decide) rfl (pmt2 123 rfl (by decide +kernel)) rfl (dX_getfield (by decide +kernel)) (by decide +kernel), ?_⟩
  refine ⟨sn_iload (dX_iload (by decide +kernel)) (by decide +kernel), ?_⟩
  refine ⟨sn_callV (idx := 230) (C := RX4) (T := TX4) (N := 2) rfl (by decide) cal_128 (pmt4 85 rfl (by decide +kernel)) (pmt4 86 rfl (by decide +kernel)) (pmt4 87 rfl (by decide +kernel)) (dX_invokevirtual (by decide +kernel)) (by decide +kernel), ?_⟩
  refine ⟨sn_iload (dX_iload (by decide +kernel)) (by decide +kernel), ?_⟩
  refine ⟨sn_iret rfl (dX_ireturn (by decide +kernel)), ?_⟩
  trivial
set_option maxRecDepth 100000 in
set_option maxHeartbeats 4000000 in
theorem S_30 : pAll (pSk RX11 cX11_fullest 2 (some .int) PC_30) 0 C_30 := by
  refine ⟨sn_aload_n (k := 0) (dX_aload_0 (by decide +kernel)) rfl (by decide +kernel), ?_⟩
  refine ⟨sn_getf (C := RX11) (T := TX11) (N := 18) (idx := 44) rfl pin11 (by decide) (by decide) rfl (pmt2 124 rfl (by decide +kernel)) rfl (dX_getfield (by decide +kernel)) (by decide +kernel), ?_⟩
  refine ⟨sn_iload_n (k := 1) (dX_iload_1 (by decide +kernel)) rfl (by decide +kernel), ?_⟩
  refine ⟨sn_callV (idx := 137) (C := RX0) (T := TX0) (N := 13) rfl (by decide) cal_63 (pmt4 23 rfl (by decide +kernel)) (pmt3 25 rfl (by decide +kernel)) (pmt3 26 rfl (by decide +kernel)) (dX_invokevirtual (by decide +kernel)) (by decide +kernel), ?_⟩
  refine ⟨sn_if_ne (off := 5) (dX_ifne (by decide +kernel)) (by decide +kernel) (by decide +kernel), ?_⟩
  refine ⟨sn_iconst (dX_iconst_m1 (by decide +kernel)) (by decide +kernel), ?_⟩
  refine ⟨sn_iret rfl (dX_ireturn (by decide +kernel)), ?_⟩
  refine ⟨sn_aload_n (k := 0) (dX_aload_0 (by decide +kernel)) rfl (by decide +kernel), ?_⟩
  refine ⟨sn_getf (C := RX11) (T := TX11) (N := 18) (idx := 44) rfl pin11 (by decide) (by decide) rfl (pmt2 124 rfl (by decide +kernel)) rfl (dX_getfield (by decide +kernel)) (by decide +kernel), ?_⟩
  refine ⟨sn_callV (idx := 300) (C := RX0) (T := TX0) (N := 13) rfl (by decide) cal_92 (pmt4 178 rfl (by decide +kernel)) (pmt4 179 rfl (by decide +kernel)) (pmt4 180 rfl (by decide +kernel)) (dX_invokevirtual (by decide +kernel)) (by decide +kernel), ?_⟩
  refine ⟨sn_if_eq (off := 6) (dX_ifeq (by decide +kernel)) (by decide +kernel) (by decide +kernel), ?_⟩
  refine ⟨sn_bipush (dX_bipush (by decide +kernel)) (by decide +kernel) (by decide +kernel), ?_⟩
  refine ⟨sn_iret rfl (dX_ireturn (by decide +kernel)), ?_⟩
  refine ⟨sn_aload_n (k := 0) (dX_aload_0 (by decide +kernel)) rfl (by decide +kernel), ?_⟩
  refine ⟨sn_iload_n (k := 1) (dX_iload_1 (by decide +kernel)) rfl (by decide +kernel), ?_⟩
  refine ⟨sn_iconst (dX_iconst_0 (by decide +kernel)) (by decide +kernel), ?_⟩
  refine ⟨sn_iconst (dX_iconst_1 (by decide +kernel)) (by decide +kernel), ?_⟩
  refine ⟨sn_callV (idx := 330) (C := RX11) (T := TX11) (N := 18) rfl (by decide) cal_60 (pmt5 37 rfl (by decide +kernel)) (pmt5 39 rfl (by decide +kernel)) (pms 27 rfl rfl) (dX_invokevirtual (by decide +kernel)) (by decide +kernel), ?_⟩
  refine ⟨sn_if_ne (off := 6) (dX_ifne (by decide +kernel)) (by decide +kernel) (by decide +kernel), ?_⟩
  refine ⟨sn_bipush (dX_bipush (by decide +kernel)) (by decide +kernel) (by decide +kernel), ?_⟩
  refine ⟨sn_iret rfl (dX_ireturn (by decide +kernel)), ?_⟩
  refine ⟨sn_aload_n (k := 0) (dX_aload_0 (by decide +kernel)) rfl (by decide +kernel), ?_⟩
  refine ⟨sn_getf (C := RX11) (T := TX11) (N := 18) (idx := 37) rfl pin11 (by decide) (by decide) rfl (pmt2 123 rfl (by decide +kernel)) rfl (dX_getfield (by decide +kernel)) (by decide +kernel), ?_⟩
  refine ⟨sn_callV (idx := 227) (C := RX4) (T := TX4) (N := 2) rfl (by decide) cal_127 (pmt4 81 rfl (by decide +kernel)) (pmt4 82 rfl (by decide +kernel)) (pmt4 83 rfl (by decide +kernel)) (dX_invokevirtual (by decide +kernel)) (by decide +kernel), ?_⟩
  refine ⟨sn_aload_n (k := 0) (dX_aload_0 (by decide +kernel)) rfl (by decide +kernel), ?_⟩
  refine ⟨sn_callV (idx := 316) (C := RX11) (T := TX11) (N := 18) rfl (by decide) cal_58 (pmt4 217 rfl (by decide +kernel)) (pmt4 219 rfl (by decide +kernel)) (pms 25 rfl rfl) (dX_invokevirtual (by decide +kernel)) (by decide +kernel), ?_⟩
  refine ⟨sn_aload_n (k := 0) (dX_aload_0 (by decide +kernel)) rfl (by decide +kernel), ?_⟩
  refine ⟨sn_getf (C := RX11) (T := TX11) (N := 18) (idx := 61) rfl pin11 (by decide) (by decide) rfl (pmt2 127 rfl (by decide +kernel)) rfl (dX_getfield (by decide +kernel)) (by decide +kernel), ?_⟩
  refine ⟨sn_getf (C := RX10) (T := TX10) (N := 12) (idx := 325) rfl pin10 (by decide) (by decide) rfl (pmt1 219 rfl (by decide +kernel)) rfl (dX_getfield (by decide +kernel)) (by decide +kernel), ?_⟩
  refine ⟨sn_iret rfl (dX_ireturn (by decide +kernel)), ?_⟩
  trivial
set_option maxRecDepth 100000 in
set_option maxHeartbeats 4000000 in
theorem S_31 : pAll (pSk RX11 cX11_swap 4 (some .int) PC_31) 0 C_31 := by
  refine ⟨sn_aload_n (k := 0) (dX_aload_0 (by decide +kernel)) rfl (by decide +kernel), ?_⟩
  refine ⟨sn_getf (C := RX11) (T := TX11) (N := 18) (idx := 44) rfl pin11 (by decide) (by decide) rfl (pmt2 124 rfl (by decide +kernel)) rfl (dX_getfield (by decide +kernel)) (by decide +kernel), ?_⟩
  refine ⟨sn_iload_n (k := 1) (dX_iload_1 (by decide +kernel)) rfl (by decide +kernel), ?_⟩
  refine ⟨sn_iload_n (k := 2) (dX_iload_2 (by decide +kernel)) rfl (by decide +kernel), ?_⟩
  refine ⟨sn_callV (idx := 195) (C := RX0) (T := TX0) (N := 13) rfl (by decide) cal_65 (pmt3 227 rfl (by decide +kernel)) (pmt3 21 rfl (by decide +kernel)) (pmt3 22 rfl (by decide +kernel)) (dX_invokevirtual (by decide +kernel)) (by decide +kernel), ?_⟩
  refine ⟨sn_if_ne (off := 5) (dX_ifne (by decide +kernel)) (by decide +kernel) (by decide +kernel), ?_⟩
  refine ⟨sn_iconst (dX_iconst_m1 (by decide +kernel)) (by decide +kernel), ?_⟩
  refine ⟨sn_iret rfl (dX_ireturn (by decide +kernel)), ?_⟩
  refine ⟨sn_aload_n (k := 0) (dX_aload_0 (by decide +kernel)) rfl (by decide +kernel), ?_⟩
  refine ⟨sn_getf (C := RX11) (T := TX11) (N := 18) (idx := 44) rfl pin11 (by decide) (by decide) rfl (pmt2 124 rfl (by decide +kernel)) rfl (dX_getfield (by decide +kernel)) (by decide +kernel), ?_⟩
  refine ⟨sn_getf (C := RX0) (T := TX0) (N := 13) (idx := 150) rfl pin0 (by decide) (by decide) rfl (pmt1 123 rfl (by decide +kernel)) rfl (dX_getfield (by decide +kernel)) (by decide +kernel), ?_⟩
  refine ⟨sn_aload_n (k := 0) (dX_aload_0 (by decide +kernel)) rfl (by decide +kernel), ?_⟩
  refine ⟨sn_getf (C := RX11) (T := TX11) (N := 18) (idx := 97) rfl pin11 (by decide) (by decide) rfl (pmt2 133 rfl (by decide +kernel)) rfl (dX_getfield (by decide +kernel)) (by decide +kernel), ?_⟩
  refine ⟨sn_callS (idx := 266) cal_48 (pmt4 131 rfl (by decide +kernel)) (pmt2 200 rfl (by decide +kernel)) (dX_invokestatic (by decide +kernel)) (by decide +kernel), ?_⟩
  refine ⟨sn_iconst (dX_iconst_0 (by decide +kernel)) (by decide +kernel), ?_⟩
  refine ⟨sn_istore_n (k := 3) (dX_istore_3 (by decide +kernel)) rfl (by decide) (by decide +kernel), ?_⟩
  refine ⟨sn_iload_n (k := 3) (dX_iload_3 (by decide +kernel)) rfl (by decide +kernel), ?_⟩
  refine ⟨sn_aload_n (k := 0) (dX_aload_0 (by decide +kernel)) rfl (by decide +kernel), ?_⟩
  refine ⟨sn_getf (C := RX11) (T := TX11) (N := 18) (idx := 44) rfl pin11 (by decide) (by decide) rfl (pmt2 124 rfl (by decide +kernel)) rfl (dX_getfield (by decide +kernel)) (by decide +kernel), ?_⟩
  refine ⟨sn_getf (C := RX0) (T := TX0) (N := 13) (idx := 276) rfl pin0 (by decide) (by decide) rfl (pmt1 143 rfl (by decide +kernel)) rfl (dX_getfield (by decide +kernel)) (by decide +kernel), ?_⟩
  refine ⟨sn_icmp_ge (off := 52) (dX_if_icmpge (by decide +kernel)) (by decide +kernel) (by decide +kernel), ?_⟩
  refine ⟨sn_aload_n (k := 0) (dX_aload_0 (by decide +kernel)) rfl (by decide +kernel), ?_⟩
  refine ⟨sn_getf (C := RX11) (T := TX11) (N := 18) (idx := 44) rfl pin11 (by decide) (by decide) rfl (pmt2 124 rfl (by decide +kernel)) rfl (dX_getfield (by decide +kernel)) (by decide +kernel), ?_⟩
  refine ⟨sn_getf (C := RX0) (T := TX0) (N := 13) (idx := 150) rfl pin0 (by decide) (by decide) rfl (pmt1 123 rfl (by decide +kernel)) rfl (dX_getfield (by decide +kernel)) (by decide +kernel), ?_⟩
  refine ⟨sn_iload_n (k := 3) (dX_iload_3 (by decide +kernel)) rfl (by decide +kernel), ?_⟩
  refine ⟨sn_iald (dX_iaload (by decide +kernel)) (by decide +kernel), ?_⟩
  refine ⟨sn_iload_n (k := 1) (dX_iload_1 (by decide +kernel)) rfl (by decide +kernel), ?_⟩
  refine ⟨sn_icmp_ne (off := 13) (dX_if_icmpne (by decide +kernel)) (by decide +kernel) (by decide +kernel), ?_⟩
  refine ⟨sn_aload_n (k := 0) (dX_aload_0 (by decide +kernel)) rfl (by decide +kernel), ?_⟩
  refine ⟨sn_getf (C := RX11) (T := TX11) (N := 18) (idx := 97) rfl pin11 (by decide) (by decide) rfl (pmt2 133 rfl (by decide +kernel)) rfl (dX_getfield (by decide +kernel)) (by decide +kernel), ?_⟩
  refine ⟨sn_iload_n (k := 3) (dX_iload_3 (by decide +kernel)) rfl (by decide +kernel), ?_⟩
  refine ⟨sn_iload_n (k := 2) (dX_iload_2 (by decide +kernel)) rfl (by decide +kernel), ?_⟩
  refine ⟨sn_iast (dX_iastore (by decide +kernel)) (by decide +kernel), ?_⟩
  refine ⟨sn_goto (off := 23) (dX_goto (by decide +kernel)) (by decide +kernel), ?_⟩
  refine ⟨sn_aload_n (k := 0) (dX_aload_0 (by decide +kernel)) rfl (by decide +kernel), ?_⟩
  refine ⟨sn_getf (C := RX11) (T := TX11) (N := 18) (idx := 44) rfl pin11 (by decide) (by decide) rfl (pmt2 124 rfl (by decide +kernel)) rfl (dX_getfield (by decide +kernel)) (by decide +kernel), ?_⟩
  refine ⟨sn_getf (C := RX0) (T := TX0) (N := 13) (idx := 150) rfl pin0 (by decide) (by decide) rfl (pmt1 123 rfl (by decide +kernel)) rfl (dX_getfield (by decide +kernel)) (by decide +kernel), ?_⟩
  refine ⟨sn_iload_n (k := 3) (dX_iload_3 (by decide +kernel)) rfl (by decide +kernel), ?_⟩
  refine ⟨sn_iald (dX_iaload (by decide +kernel)) (by decide +kernel), ?_⟩
  refine ⟨sn_iload_n (k := 2) (dX_iload_2 (by decide +kernel)) rfl (by decide +kernel), ?_⟩
  refine ⟨sn_icmp_ne (off := 10) (dX_if_icmpne (by decide +kernel)) (by decide +kernel) (by decide +kernel), ?_⟩
  refine ⟨sn_aload_n (k := 0) (dX_aload_0 (by decide +kernel)) rfl (by decide +kernel), ?_⟩
  refine ⟨sn_getf (C := RX11) (T := TX11) (N := 18) (idx := 97) rfl pin11 (by decide) (by decide) rfl (pmt2 133 rfl (by decide +kernel)) rfl (dX_getfield (by decide +kernel)) (by decide +kernel), ?_⟩
  refine ⟨sn_iload_n (k := 3) (dX_iload_3 (by decide +kernel)) rfl (by decide +kernel), ?_⟩
  refine ⟨sn_iload_n (k := 1) (dX_iload_1 (by decide +kernel)) rfl (by decide +kernel), ?_⟩
  refine ⟨sn_iast (dX_iastore (by decide +kernel)) (by decide +kernel), ?_⟩
  refine ⟨sn_iinc (dX_iinc (by decide +kernel)) (by decide) (by decide +kernel), ?_⟩
  refine ⟨sn_goto (off := -57) (dX_goto (by decide +kernel)) (by decide +kernel), ?_⟩
  refine ⟨sn_aload_n (k := 0) (dX_aload_0 (by decide +kernel)) rfl (by decide +kernel), ?_⟩
  refine ⟨sn_getf (C := RX11) (T := TX11) (N := 18) (idx := 37) rfl pin11 (by decide) (by decide) rfl (pmt2 123 rfl (by decide +kernel)) rfl (dX_getfield (by decide +kernel)) (by decide +kernel), ?_⟩
  refine ⟨sn_callV (idx := 227) (C := RX4) (T := TX4) (N := 2) rfl (by decide) cal_127 (pmt4 81 rfl (by decide +kernel)) (pmt4 82 rfl (by decide +kernel)) (pmt4 83 rfl (by decide +kernel)) (dX_invokevirtual (by decide +kernel)) (by decide +kernel), ?_⟩
  refine ⟨sn_aload_n (k := 0) (dX_aload_0 (by decide +kernel)) rfl (by decide +kernel), ?_⟩
  refine ⟨sn_getf (C := RX11) (T := TX11) (N := 18) (idx := 37) rfl pin11 (by decide) (by decide) rfl (pmt2 123 rfl (by decide +kernel)) rfl (dX_getfield (by decide +kernel)) (by decide +kernel), ?_⟩
  refine ⟨sn_aload_n (k := 0) (dX_aload_0 (by decide +kernel)) rfl (by decide +kernel), ?_⟩
  refine ⟨sn_getf (C := RX11) (T := TX11) (N := 18) (idx := 44) rfl pin11 (by decide) (by decide) rfl (pmt2 124 rfl (by decide +kernel)) rfl (dX_getfield (by decide +kernel)) (by decide +kernel), ?_⟩
  refine ⟨sn_aload_n (k := 0) (dX_aload_0 (by decide +kernel)) rfl (by decide +kernel), ?_⟩
  refine ⟨sn_getf (C := RX11) (T := TX11) (N := 18) (idx := 97) rfl pin11 (by decide) (by decide) rfl (pmt2 133 rfl (by decide +kernel)) rfl (dX_getfield (by decide +kernel)) (by decide +kernel), ?_⟩
  refine ⟨sn_callV (idx := 357) (C := RX0) (T := TX0) (N := 13) rfl (by decide) cal_83 (pmt5 81 rfl (by decide +kernel)) (pmt5 82 rfl (by decide +kernel)) (pmt5 83 rfl (by decide +kernel)) (dX_invokevirtual (by decide +kernel)) (by decide +kernel), ?_⟩
  refine ⟨sn_callV (idx := 230) (C := RX4) (T := TX4) (N := 2) rfl (by decide) cal_128 (pmt4 85 rfl (by decide +kernel)) (pmt4 86 rfl (by decide +kernel)) (pmt4 87 rfl (by decide +kernel)) (dX_invokevirtual (by decide +kernel)) (by decide +kernel), ?_⟩
  refine ⟨sn_aload_n (k := 0) (dX_aload_0 (by decide +kernel)) rfl (by decide +kernel), ?_⟩
  refine ⟨sn_getf (C := RX11) (T := TX11) (N := 18) (idx := 44) rfl pin11 (by decide) (by decide) rfl (pmt2 124 rfl (by decide +kernel)) rfl (dX_getfield (by decide +kernel)) (by decide +kernel), ?_⟩
  refine ⟨sn_aload_n (k := 0) (dX_aload_0 (by decide +kernel)) rfl (by decide +kernel), ?_⟩
  refine ⟨sn_getf (C := RX11) (T := TX11) (N := 18) (idx := 97) rfl pin11 (by decide) (by decide) rfl (pmt2 133 rfl (by decide +kernel)) rfl (dX_getfield (by decide +kernel)) (by decide +kernel), ?_⟩
  refine ⟨sn_callV (idx := 247) (C := RX0) (T := TX0) (N := 13) rfl (by decide) cal_91 (pmt4 117 rfl (by decide +kernel)) (pmt4 118 rfl (by decide +kernel)) (pmt4 119 rfl (by decide +kernel)) (dX_invokevirtual (by decide +kernel)) (by decide +kernel), ?_⟩
  refine ⟨sn_if_eq (off := 7) (dX_ifeq (by decide +kernel)) (by decide +kernel) (by decide +kernel), ?_⟩
  refine ⟨sn_iconst (dX_iconst_1 (by decide +kernel)) (by decide +kernel), ?_⟩
  refine ⟨sn_goto (off := 4) (dX_goto (by decide +kernel)) (by decide +kernel), ?_⟩
  refine ⟨sn_iconst (dX_iconst_0 (by decide +kernel)) (by decide +kernel), ?_⟩
  refine ⟨sn_iret rfl (dX_ireturn (by decide +kernel)), ?_⟩
  trivial
set_option maxRecDepth 100000 in
set_option maxHeartbeats 4000000 in
theorem S_32 : pAll (pSk RX11 cX11_sell 4 (some .int) PC_32) 0 C_32 := by
  refine ⟨sn_aload_n (k := 0) (dX_aload_0 (by decide +kernel)) rfl (by decide +kernel), ?_⟩
  refine ⟨sn_getf (C := RX11) (T := TX11) (N := 18) (idx := 44) rfl pin11 (by decide) (by decide) rfl (pmt2 124 rfl (by decide +kernel)) rfl (dX_getfield (by decide +kernel)) (by decide +kernel), ?_⟩
  refine ⟨sn_callV (idx := 300) (C := RX0) (T := TX0) (N := 13) rfl (by decide) cal_92 (pmt4 178 rfl (by decide +kernel)) (pmt4 179 rfl (by decide +kernel)) (pmt4 180 rfl (by decide +kernel)) (dX_invokevirtual (by decide +kernel)) (by decide +kernel), ?_⟩
  refine ⟨sn_if_eq (off := 6) (dX_ifeq (by decide +kernel)) (by decide +kernel) (by decide +kernel), ?_⟩
  refine ⟨sn_bipush (dX_bipush (by decide +kernel)) (by decide +kernel) (by decide +kernel), ?_⟩
  refine ⟨sn_iret rfl (dX_ireturn (by decide +kernel)), ?_⟩
  refine ⟨sn_aload_n (k := 0) (dX_aload_0 (by decide +kernel)) rfl (by decide +kernel), ?_⟩
  refine ⟨sn_getf (C := RX11) (T := TX11) (N := 18) (idx := 44) rfl pin11 (by decide) (by decide) rfl (pmt2 124 rfl (by decide +kernel)) rfl (dX_getfield (by decide +kernel)) (by decide +kernel), ?_⟩
  refine ⟨sn_callV (idx := 285) (C := RX0) (T := TX0) (N := 13) rfl (by decide) cal_67 (pmt4 152 rfl (by decide +kernel)) (pmt3 62 rfl (by decide +kernel)) (pmt3 63 rfl (by decide +kernel)) (dX_invokevirtual (by decide +kernel)) (by decide +kernel), ?_⟩
  refine ⟨sn_istore_n (k := 1) (dX_istore_1 (by decide +kernel)) rfl (by decide) (by decide +kernel), ?_⟩
  refine ⟨sn_iconst (dX_iconst_0 (by decide +kernel)) (by decide +kernel), ?_⟩
  refine ⟨sn_istore_n (k := 2) (dX_istore_2 (by decide +kernel)) rfl (by decide) (by decide +kernel), ?_⟩
  refine ⟨sn_iload_n (k := 2) (dX_iload_2 (by decide +kernel)) rfl (by decide +kernel), ?_⟩
  refine ⟨sn_iconst (dX_iconst_1 (by decide +kernel)) (by decide +kernel), ?_⟩
  refine ⟨sn_aload_n (k := 0) (dX_aload_0 (by decide +kernel)) rfl (by decide +kernel), ?_⟩
  refine ⟨sn_getf (C := RX11) (T := TX11) (N := 18) (idx := 44) rfl pin11 (by decide) (by decide) rfl (pmt2 124 rfl (by decide +kernel)) rfl (dX_getfield (by decide +kernel)) (by decide +kernel), ?_⟩
  refine ⟨sn_getf (C := RX0) (T := TX0) (N := 13) (idx := 270) rfl pin0 (by decide) (by decide) rfl (pmt1 150 rfl (by decide +kernel)) rfl (dX_getfield (by decide +kernel)) (by decide +kernel), ?_⟩
  refine ⟨sn_ishl (dX_ishl (by decide +kernel)) (by decide +kernel), ?_⟩
  refine ⟨sn_icmp_ge (off := 68) (dX_if_icmpge (by decide +kernel)) (by decide +kernel) (by decide +kernel), ?_⟩
  refine ⟨sn_aload_n (k := 0) (dX_aload_0 (by decide +kernel)) rfl (by decide +kernel), ?_⟩
  refine ⟨sn_getf (C := RX11) (T := TX11) (N := 18) (idx := 44) rfl pin11 (by decide) (by decide) rfl (pmt2 124 rfl (by decide +kernel)) rfl (dX_getfield (by decide +kernel)) (by decide +kernel), ?_⟩
  refine ⟨sn_iload_n (k := 2) (dX_iload_2 (by decide +kernel)) rfl (by decide +kernel), ?_⟩
  refine ⟨sn_callV (idx := 337) (C := RX0) (T := TX0) (N := 13) rfl (by decide) cal_104 (pmt5 50 rfl (by decide +kernel)) (pmt5 51 rfl (by decide +kernel)) (pmt5 52 rfl (by decide +kernel)) (dX_invokevirtual (by decide +kernel)) (by decide +kernel), ?_⟩
  refine ⟨sn_istore_n (k := 3) (dX_istore_3 (by decide +kernel)) rfl (by decide) (by decide +kernel), ?_⟩
  refine ⟨sn_aload_n (k := 0) (dX_aload_0 (by decide +kernel)) rfl (by decide +kernel), ?_⟩
  refine ⟨sn_getf (C := RX11) (T := TX11) (N := 18) (idx := 44) rfl pin11 (by decide) (by decide) rfl (pmt2 124 rfl (by decide +kernel)) rfl (dX_getfield (by decide +kernel)) (by decide +kernel), ?_⟩
  refine ⟨sn_iload_n (k := 3) (dX_iload_3 (by decide +kernel)) rfl (by decide +kernel), ?_⟩
  refine ⟨sn_iload_n (k := 1) (dX_iload_1 (by decide +kernel)) rfl (by decide +kernel), ?_⟩
  refine ⟨sn_callV (idx := 360) (C := RX0) (T := TX0) (N := 13) rfl (by decide) cal_106 (pmt5 90 rfl (by decide +kernel)) (pmt5 91 rfl (by decide +kernel)) (pmt5 92 rfl (by decide +kernel)) (dX_invokevirtual (by decide +kernel)) (by decide +kernel), ?_⟩
  refine ⟨sn_if_eq (off := 41) (dX_ifeq (by decide +kernel)) (by decide +kernel) (by decide +kernel), ?_⟩
  refine ⟨sn_aload_n (k := 0) (dX_aload_0 (by decide +kernel)) rfl (by decide +kernel), ?_⟩
  refine ⟨sn_getf (C := RX11) (T := TX11) (N := 18) (idx := 61) rfl pin11 (by decide) (by decide) rfl (pmt2 127 rfl (by decide +kernel)) rfl (dX_getfield (by decide +kernel)) (by decide +kernel), ?_⟩
  refine ⟨sn_aload_n (k := 0) (dX_aload_0 (by decide +kernel)) rfl (by decide +kernel), ?_⟩
  refine ⟨sn_getf (C := RX11) (T := TX11) (N := 18) (idx := 44) rfl pin11 (by decide) (by decide) rfl (pmt2 124 rfl (by decide +kernel)) rfl (dX_getfield (by decide +kernel)) (by decide +kernel), ?_⟩
  refine ⟨sn_aload_n (k := 0) (dX_aload_0 (by decide +kernel)) rfl (by decide +kernel), ?_⟩
  refine ⟨sn_getf (C := RX11) (T := TX11) (N := 18) (idx := 44) rfl pin11 (by decide) (by decide) rfl (pmt2 124 rfl (by decide +kernel)) rfl (dX_getfield (by decide +kernel)) (by decide +kernel), ?_⟩
  refine ⟨sn_callV (idx := 304) (C := RX0) (T := TX0) (N := 13) rfl (by decide) cal_69 (pmt4 182 rfl (by decide +kernel)) (pmt4 183 rfl (by decide +kernel)) (pmt4 184 rfl (by decide +kernel)) (dX_invokevirtual (by decide +kernel)) (by decide +kernel), ?_⟩
  refine ⟨sn_iload_n (k := 2) (dX_iload_2 (by decide +kernel)) rfl (by decide +kernel), ?_⟩
  refine ⟨sn_iconst (dX_iconst_m1 (by decide +kernel)) (by decide +kernel), ?_⟩
  refine ⟨sn_ixor (dX_ixor (by decide +kernel)) (by decide +kernel), ?_⟩
  refine ⟨sn_iand (dX_iand (by decide +kernel)) (by decide +kernel), ?_⟩
  refine ⟨sn_callV (idx := 307) (C := RX10) (T := TX10) (N := 12) rfl (by decide) cal_160 (pmt4 186 rfl (by decide +kernel)) (pmt4 187 rfl (by decide +kernel)) (pmt4 188 rfl (by decide +kernel)) (dX_invokevirtual (by decide +kernel)) (by decide +kernel), ?_⟩
  refine ⟨sn_aload_n (k := 0) (dX_aload_0 (by decide +kernel)) rfl (by decide +kernel), ?_⟩
  refine ⟨sn_getf (C := RX11) (T := TX11) (N := 18) (idx := 61) rfl pin11 (by decide) (by decide) rfl (pmt2 127 rfl (by decide +kernel)) rfl (dX_getfield (by decide +kernel)) (by decide +kernel), ?_⟩
  refine ⟨sn_callV (idx := 347) (C := RX10) (T := TX10) (N := 12) rfl (by decide) cal_163 (pmt5 55 rfl (by decide +kernel)) (pmt4 200 rfl (by decide +kernel)) (pmt4 201 rfl (by decide +kernel)) (dX_invokevirtual (by decide +kernel)) (by decide +kernel), ?_⟩
  refine ⟨sn_if_eq (off := 7) (dX_ifeq (by decide +kernel)) (by decide +kernel) (by decide +kernel), ?_⟩
  refine ⟨sn_iload_n (k := 3) (dX_iload_3 (by decide +kernel)) rfl (by decide +kernel), ?_⟩
  refine ⟨sn_goto (off := 4) (dX_goto (by decide +kernel)) (by decide +kernel), ?_⟩
  refine ⟨sn_iload_n (k := 1) (dX_iload_1 (by decide +kernel)) rfl (by decide +kernel), ?_⟩
  refine ⟨sn_istore_n (k := 1) (dX_istore_1 (by decide +kernel)) rfl (by decide) (by decide +kernel), ?_⟩
  refine ⟨sn_iinc (dX_iinc (by decide +kernel)) (by decide) (by decide +kernel), ?_⟩
  refine ⟨sn_goto (off := -75) (dX_goto (by decide +kernel)) (by decide +kernel), ?_⟩
  refine ⟨sn_aload_n (k := 0) (dX_aload_0 (by decide +kernel)) rfl (by decide +kernel), ?_⟩
  refine ⟨sn_getf (C := RX11) (T := TX11) (N := 18) (idx := 37) rfl pin11 (by decide) (by decide) rfl (pmt2 123 rfl (by decide +kernel)) rfl (dX_getfield (by decide +kernel)) (by decide +kernel), ?_⟩
  refine ⟨sn_callV (idx := 227) (C := RX4) (T := TX4) (N := 2) rfl (by decide) cal_127 (pmt4 81 rfl (by decide +kernel)) (pmt4 82 rfl (by decide +kernel)) (pmt4 83 rfl (by decide +kernel)) (dX_invokevirtual (by decide +kernel)) (by decide +kernel), ?_⟩
  refine ⟨sn_aload_n (k := 0) (dX_aload_0 (by decide +kernel)) rfl (by decide +kernel), ?_⟩
  refine ⟨sn_getf (C := RX11) (T := TX11) (N := 18) (idx := 37) rfl pin11 (by decide) (by decide) rfl (pmt2 123 rfl (by decide +kernel)) rfl (dX_getfield (by decide +kernel)) (by decide +kernel), ?_⟩
  refine ⟨sn_iload_n (k := 1) (dX_iload_1 (by decide +kernel)) rfl (by decide +kernel), ?_⟩
  refine ⟨sn_callV (idx := 230) (C := RX4) (T := TX4) (N := 2) rfl (by decide) cal_128 (pmt4 85 rfl (by decide +kernel)) (pmt4 86 rfl (by decide +kernel)) (pmt4 87 rfl (by decide +kernel)) (dX_invokevirtual (by decide +kernel)) (by decide +kernel), ?_⟩
  refine ⟨sn_iload_n (k := 1) (dX_iload_1 (by decide +kernel)) rfl (by decide +kernel), ?_⟩
  refine ⟨sn_callS (idx := 363) cal_270 (pmt5 95 rfl (by decide +kernel)) (pmt4 236 rfl (by decide +kernel)) (dX_invokestatic (by decide +kernel)) (by decide +kernel), ?_⟩
  refine ⟨sn_iret rfl (dX_ireturn (by decide +kernel)), ?_⟩
  trivial
set_option maxRecDepth 100000 in
set_option maxHeartbeats 4000000 in
theorem S_33 : pAll (pSk RX11 cX11_build 4 (some .int) PC_33) 0 C_33 := by
  refine ⟨sn_aload_n (k := 0) (dX_aload_0 (by decide +kernel)) rfl (by decide +kernel), ?_⟩
  refine ⟨sn_getf (C := RX11) (T := TX11) (N := 18) (idx := 44) rfl pin11 (by decide) (by decide) rfl (pmt2 124 rfl (by decide +kernel)) rfl (dX_getfield (by decide +kernel)) (by decide +kernel), ?_⟩
  refine ⟨sn_getf (C := RX0) (T := TX0) (N := 13) (idx := 319) rfl pin0 (by decide) (by decide) rfl (pmt1 137 rfl (by decide +kernel)) rfl (dX_getfield (by decide +kernel)) (by decide +kernel), ?_⟩
  refine ⟨sn_if_ne (off := 6) (dX_ifne (by decide +kernel)) (by decide +kernel) (by decide +kernel), ?_⟩
  refine ⟨sn_bipush (dX_bipush (by decide +kernel)) (by decide +kernel) (by decide +kernel), ?_⟩
  refine ⟨sn_iret rfl (dX_ireturn (by decide +kernel)), ?_⟩
  refine ⟨sn_aload_n (k := 0) (dX_aload_0 (by decide +kernel)) rfl (by decide +kernel), ?_⟩
  refine ⟨sn_getf (C := RX11) (T := TX11) (N := 18) (idx := 44) rfl pin11 (by decide) (by decide) rfl (pmt2 124 rfl (by decide +kernel)) rfl (dX_getfield (by decide +kernel)) (by decide +kernel), ?_⟩
  refine ⟨sn_callV (idx := 300) (C := RX0) (T := TX0) (N := 13) rfl (by decide) cal_92 (pmt4 178 rfl (by decide +kernel)) (pmt4 179 rfl (by decide +kernel)) (pmt4 180 rfl (by decide +kernel)) (dX_invokevirtual (by decide +kernel)) (by decide +kernel), ?_⟩
  refine ⟨sn_if_eq (off := 6) (dX_ifeq (by decide +kernel)) (by decide +kernel) (by decide +kernel), ?_⟩
  refine ⟨sn_bipush (dX_bipush (by decide +kernel)) (by decide +kernel) (by decide +kernel), ?_⟩
  refine ⟨sn_iret rfl (dX_ireturn (by decide +kernel)), ?_⟩
  refine ⟨sn_aload_n (k := 0) (dX_aload_0 (by decide +kernel)) rfl (by decide +kernel), ?_⟩
  refine ⟨sn_getf (C := RX11) (T := TX11) (N := 18) (idx := 61) rfl pin11 (by decide) (by decide) rfl (pmt2 127 rfl (by decide +kernel)) rfl (dX_getfield (by decide +kernel)) (by decide +kernel), ?_⟩
  refine ⟨sn_aload_n (k := 0) (dX_aload_0 (by decide +kernel)) rfl (by decide +kernel), ?_⟩
  refine ⟨sn_getf (C := RX11) (T := TX11) (N := 18) (idx := 44) rfl pin11 (by decide) (by decide) rfl (pmt2 124 rfl (by decide +kernel)) rfl (dX_getfield (by decide +kernel)) (by decide +kernel), ?_⟩
  refine ⟨sn_aload_n (k := 0) (dX_aload_0 (by decide +kernel)) rfl (by decide +kernel), ?_⟩
  refine ⟨sn_getf (C := RX11) (T := TX11) (N := 18) (idx := 44) rfl pin11 (by decide) (by decide) rfl (pmt2 124 rfl (by decide +kernel)) rfl (dX_getfield (by decide +kernel)) (by decide +kernel), ?_⟩
  refine ⟨sn_callV (idx := 304) (C := RX0) (T := TX0) (N := 13) rfl (by decide) cal_69 (pmt4 182 rfl (by decide +kernel)) (pmt4 183 rfl (by decide +kernel)) (pmt4 184 rfl (by decide +kernel)) (dX_invokevirtual (by decide +kernel)) (by decide +kernel), ?_⟩
  refine ⟨sn_callV (idx := 307) (C := RX10) (T := TX10) (N := 12) rfl (by decide) cal_160 (pmt4 186 rfl (by decide +kernel)) (pmt4 187 rfl (by decide +kernel)) (pmt4 188 rfl (by decide +kernel)) (dX_invokevirtual (by decide +kernel)) (by decide +kernel), ?_⟩
  refine ⟨sn_iconst (dX_iconst_m1 (by decide +kernel)) (by decide +kernel), ?_⟩
  refine ⟨sn_istore_n (k := 1) (dX_istore_1 (by decide +kernel)) rfl (by decide) (by decide +kernel), ?_⟩
  refine ⟨sn_aload_n (k := 0) (dX_aload_0 (by decide +kernel)) rfl (by decide +kernel), ?_⟩
  refine ⟨sn_getf (C := RX11) (T := TX11) (N := 18) (idx := 61) rfl pin11 (by decide) (by decide) rfl (pmt2 127 rfl (by decide +kernel)) rfl (dX_getfield (by decide +kernel)) (by decide +kernel), ?_⟩
  refine ⟨sn_callV (idx := 347) (C := RX10) (T := TX10) (N := 12) rfl (by decide) cal_163 (pmt5 55 rfl (by decide +kernel)) (pmt4 200 rfl (by decide +kernel)) (pmt4 201 rfl (by decide +kernel)) (dX_invokevirtual (by decide +kernel)) (by decide +kernel), ?_⟩
  refine ⟨sn_if_eq (off := 7) (dX_ifeq (by decide +kernel)) (by decide +kernel) (by decide +kernel), ?_⟩
  refine ⟨sn_iconst (dX_iconst_0 (by decide +kernel)) (by decide +kernel), ?_⟩
  refine ⟨sn_goto (off := 6) (dX_goto (by decide +kernel)) (by decide +kernel), ?_⟩
  refine ⟨sn_ldcw (idx := 353) (dX_ldc_w (by decide +kernel)) (pmt5 68 rfl (by decide +kernel)) (by decide +kernel), ?_⟩
  refine ⟨sn_istore_n (k := 2) (dX_istore_2 (by decide +kernel)) rfl (by decide) (by decide +kernel), ?_⟩
  refine ⟨sn_iconst (dX_iconst_0 (by decide +kernel)) (by decide +kernel), ?_⟩
  refine ⟨sn_istore_n (k := 3) (dX_istore_3 (by decide +kernel)) rfl (by decide) (by decide +kernel), ?_⟩
  refine ⟨sn_iload_n (k := 3) (dX_iload_3 (by decide +kernel)) rfl (by decide +kernel), ?_⟩
  refine ⟨sn_aload_n (k := 0) (dX_aload_0 (by decide +kernel)) rfl (by decide +kernel), ?_⟩
  refine ⟨sn_getf (C := RX11) (T := TX11) (N := 18) (idx := 44) rfl pin11 (by decide) (by decide) rfl (pmt2 124 rfl (by decide +kernel)) rfl (dX_getfield (by decide +kernel)) (by decide +kernel), ?_⟩
  refine ⟨sn_getf (C := RX0) (T := TX0) (N := 13) (idx := 319) rfl pin0 (by decide) (by decide) rfl (pmt1 137 rfl (by decide +kernel)) rfl (dX_getfield (by decide +kernel)) (by decide +kernel), ?_⟩
  refine ⟨sn_icmp_ge (off := 67) (dX_if_icmpge (by decide +kernel)) (by decide +kernel) (by decide +kernel), ?_⟩
  refine ⟨sn_iload_n (k := 2) (dX_iload_2 (by decide +kernel)) rfl (by decide +kernel), ?_⟩
  refine ⟨sn_if_le (off := 63) (dX_ifle (by decide +kernel)) (by decide +kernel) (by decide +kernel), ?_⟩
  refine ⟨sn_aload_n (k := 0) (dX_aload_0 (by decide +kernel)) rfl (by decide +kernel), ?_⟩
  refine ⟨sn_iload_n (k := 3) (dX_iload_3 (by decide +kernel)) rfl (by decide +kernel), ?_⟩
  refine ⟨sn_bipush (dX_bipush (by decide +kernel)) (by decide +kernel) (by decide +kernel), ?_⟩
  refine ⟨sn_iconst (dX_iconst_m1 (by decide +kernel)) (by decide +kernel), ?_⟩
  refine ⟨sn_callV (idx := 330) (C := RX11) (T := TX11) (N := 18) rfl (by decide) cal_60 (pmt5 37 rfl (by decide +kernel)) (pmt5 39 rfl (by decide +kernel)) (pms 27 rfl rfl) (dX_invokevirtual (by decide +kernel)) (by decide +kernel), ?_⟩
  refine ⟨sn_if_eq (off := 46) (dX_ifeq (by decide +kernel)) (by decide +kernel) (by decide +kernel), ?_⟩
  refine ⟨sn_aload_n (k := 0) (dX_aload_0 (by decide +kernel)) rfl (by decide +kernel), ?_⟩
  refine ⟨sn_getf (C := RX11) (T := TX11) (N := 18) (idx := 61) rfl pin11 (by decide) (by decide) rfl (pmt2 127 rfl (by decide +kernel)) rfl (dX_getfield (by decide +kernel)) (by decide +kernel), ?_⟩
  refine ⟨sn_getf (C := RX10) (T := TX10) (N := 12) (idx := 325) rfl pin10 (by decide) (by decide) rfl (pmt1 219 rfl (by decide +kernel)) rfl (dX_getfield (by decide +kernel)) (by decide +kernel), ?_⟩
  refine ⟨sn_ineg (dX_ineg (by decide +kernel)) (by decide +kernel), ?_⟩
  refine ⟨sn_aload_n (k := 0) (dX_aload_0 (by decide +kernel)) rfl (by decide +kernel), ?_⟩
  refine ⟨sn_getf (C := RX11) (T := TX11) (N := 18) (idx := 44) rfl pin11 (by decide) (by decide) rfl (pmt2 124 rfl (by decide +kernel)) rfl (dX_getfield (by decide +kernel)) (by decide +kernel), ?_⟩
  refine ⟨sn_getf (C := RX0) (T := TX0) (N := 13) (idx := 147) rfl pin0 (by decide) (by decide) rfl (pmt1 108 rfl (by decide +kernel)) rfl (dX_getfield (by decide +kernel)) (by decide +kernel), ?_⟩
  refine ⟨sn_iload_n (k := 3) (dX_iload_3 (by decide +kernel)) rfl (by decide +kernel), ?_⟩
  refine ⟨sn_iald (dX_iaload (by decide +kernel)) (by decide +kernel), ?_⟩
  refine ⟨sn_isub (dX_isub (by decide +kernel)) (by decide +kernel), ?_⟩
  refine ⟨sn_iload_n (k := 2) (dX_iload_2 (by decide +kernel)) rfl (by decide +kernel), ?_⟩
  refine ⟨sn_icmp_ge (off := 24) (dX_if_icmpge (by decide +kernel)) (by decide +kernel) (by decide +kernel), ?_⟩
  refine ⟨sn_aload_n (k := 0) (dX_aload_0 (by decide +kernel)) rfl (by decide +kernel), ?_⟩
  refine ⟨sn_getf (C := RX11) (T := TX11) (N := 18) (idx := 61) rfl pin11 (by decide) (by decide) rfl (pmt2 127 rfl (by decide +kernel)) rfl (dX_getfield (by decide +kernel)) (by decide +kernel), ?_⟩
  refine ⟨sn_getf (C := RX10) (T := TX10) (N := 12) (idx := 325) rfl pin10 (by decide) (by decide) rfl (pmt1 219 rfl (by decide +kernel)) rfl (dX_getfield (by decide +kernel)) (by decide +kernel), ?_⟩
  refine ⟨sn_ineg (dX_ineg (by decide +kernel)) (by decide +kernel), ?_⟩
  refine ⟨sn_aload_n (k := 0) (dX_aload_0 (by decide +kernel)) rfl (by decide +kernel), ?_⟩
  refine ⟨sn_getf (C := RX11) (T := TX11) (N := 18) (idx := 44) rfl pin11 (by decide) (by decide) rfl (pmt2 124 rfl (by decide +kernel)) rfl (dX_getfield (by decide +kernel)) (by decide +kernel), ?_⟩
  refine ⟨sn_getf (C := RX0) (T := TX0) (N := 13) (idx := 147) rfl pin0 (by decide) (by decide) rfl (pmt1 108 rfl (by decide +kernel)) rfl (dX_getfield (by decide +kernel)) (by decide +kernel), ?_⟩
  refine ⟨sn_iload_n (k := 3) (dX_iload_3 (by decide +kernel)) rfl (by decide +kernel), ?_⟩
  refine ⟨sn_iald (dX_iaload (by decide +kernel)) (by decide +kernel), ?_⟩
  refine ⟨sn_isub (dX_isub (by decide +kernel)) (by decide +kernel), ?_⟩
  refine ⟨sn_istore_n (k := 2) (dX_istore_2 (by decide +kernel)) rfl (by decide) (by decide +kernel), ?_⟩
  refine ⟨sn_iload_n (k := 3) (dX_iload_3 (by decide +kernel)) rfl (by decide +kernel), ?_⟩
  refine ⟨sn_istore_n (k := 1) (dX_istore_1 (by decide +kernel)) rfl (by decide) (by decide +kernel), ?_⟩
  refine ⟨sn_iinc (dX_iinc (by decide +kernel)) (by decide) (by decide +kernel), ?_⟩
  refine ⟨sn_goto (off := -72) (dX_goto (by decide +kernel)) (by decide +kernel), ?_⟩
  refine ⟨sn_iload_n (k := 2) (dX_iload_2 (by decide +kernel)) rfl (by decide +kernel), ?_⟩
  refine ⟨sn_ldcw (idx := 353) (dX_ldc_w (by decide +kernel)) (pmt5 68 rfl (by decide +kernel)) (by decide +kernel), ?_⟩
  refine ⟨sn_icmp_ne (off := 6) (dX_if_icmpne (by decide +kernel)) (by decide +kernel) (by decide +kernel), ?_⟩
  refine ⟨sn_bipush (dX_bipush (by decide +kernel)) (by decide +kernel) (by decide +kernel), ?_⟩
  refine ⟨sn_iret rfl (dX_ireturn (by decide +kernel)), ?_⟩
  refine ⟨sn_aload_n (k := 0) (dX_aload_0 (by decide +kernel)) rfl (by decide +kernel), ?_⟩
  refine ⟨sn_getf (C := RX11) (T := TX11) (N := 18) (idx := 37) rfl pin11 (by decide) (by decide) rfl (pmt2 123 rfl (by decide +kernel)) rfl (dX_getfield (by decide +kernel)) (by decide +kernel), ?_⟩
  refine ⟨sn_callV (idx := 227) (C := RX4) (T := TX4) (N := 2) rfl (by decide) cal_127 (pmt4 81 rfl (by decide +kernel)) (pmt4 82 rfl (by decide +kernel)) (pmt4 83 rfl (by decide +kernel)) (dX_invokevirtual (by decide +kernel)) (by decide +kernel), ?_⟩
  refine ⟨sn_aload_n (k := 0) (dX_aload_0 (by decide +kernel)) rfl (by decide +kernel), ?_⟩
  refine ⟨sn_getf (C := RX11) (T := TX11) (N := 18) (idx := 37) rfl pin11 (by decide) (by decide) rfl (pmt2 123 rfl (by decide +kernel)) rfl (dX_getfield (by decide +kernel)) (by decide +kernel), ?_⟩
  refine ⟨sn_iload_n (k := 1) (dX_iload_1 (by decide +kernel)) rfl (by decide +kernel), ?_⟩
  refine ⟨sn_callV (idx := 230) (C := RX4) (T := TX4) (N := 2) rfl (by decide) cal_128 (pmt4 85 rfl (by decide +kernel)) (pmt4 86 rfl (by decide +kernel)) (pmt4 87 rfl (by decide +kernel)) (dX_invokevirtual (by decide +kernel)) (by decide +kernel), ?_⟩
  refine ⟨sn_iload_n (k := 2) (dX_iload_2 (by decide +kernel)) rfl (by decide +kernel), ?_⟩
  refine ⟨sn_iret rfl (dX_ireturn (by decide +kernel)), ?_⟩
  trivial
set_option maxRecDepth 100000 in
set_option maxHeartbeats 4000000 in
theorem S_34 : pAll (pSk RX11 cX11_way 7 (some .int) PC_34) 0 C_34 := by
  refine ⟨sn_aload_n (k := 0) (dX_aload_0 (by decide +kernel)) rfl (by decide +kernel), ?_⟩
  refine ⟨sn_getf (C := RX11) (T := TX11) (N := 18) (idx := 44) rfl pin11 (by decide) (by decide) rfl (pmt2 124 rfl (by decide +kernel)) rfl (dX_getfield (by decide +kernel)) (by decide +kernel), ?_⟩
  refine ⟨sn_iload_n (k := 1) (dX_iload_1 (by decide +kernel)) rfl (by decide +kernel), ?_⟩
  refine ⟨sn_callV (idx := 164) (C := RX0) (T := TX0) (N := 13) rfl (by decide) cal_64 (pmt4 19 rfl (by decide +kernel)) (pmt4 20 rfl (by decide +kernel)) (pmt4 21 rfl (by decide +kernel)) (dX_invokevirtual (by decide +kernel)) (by decide +kernel), ?_⟩
  refine ⟨sn_if_eq (off := 14) (dX_ifeq (by decide +kernel)) (by decide +kernel) (by decide +kernel), ?_⟩
  refine ⟨sn_aload_n (k := 0) (dX_aload_0 (by decide +kernel)) rfl (by decide +kernel), ?_⟩
  refine ⟨sn_getf (C := RX11) (T := TX11) (N := 18) (idx := 44) rfl pin11 (by decide) (by decide) rfl (pmt2 124 rfl (by decide +kernel)) rfl (dX_getfield (by decide +kernel)) (by decide +kernel), ?_⟩
  refine ⟨sn_iload_n (k := 2) (dX_iload_2 (by decide +kernel)) rfl (by decide +kernel), ?_⟩
  refine ⟨sn_callV (idx := 137) (C := RX0) (T := TX0) (N := 13) rfl (by decide) cal_63 (pmt4 23 rfl (by decide +kernel)) (pmt3 25 rfl (by decide +kernel)) (pmt3 26 rfl (by decide +kernel)) (dX_invokevirtual (by decide +kernel)) (by decide +kernel), ?_⟩
  refine ⟨sn_if_ne (off := 5) (dX_ifne (by decide +kernel)) (by decide +kernel) (by decide +kernel), ?_⟩
  refine ⟨sn_iconst (dX_iconst_m1 (by decide +kernel)) (by decide +kernel), ?_⟩
  refine ⟨sn_iret rfl (dX_ireturn (by decide +kernel)), ?_⟩
  refine ⟨sn_aload_n (k := 0) (dX_aload_0 (by decide +kernel)) rfl (by decide +kernel), ?_⟩
  refine ⟨sn_getf (C := RX11) (T := TX11) (N := 18) (idx := 44) rfl pin11 (by decide) (by decide) rfl (pmt2 124 rfl (by decide +kernel)) rfl (dX_getfield (by decide +kernel)) (by decide +kernel), ?_⟩
  refine ⟨sn_getf (C := RX0) (T := TX0) (N := 13) (idx := 172) rfl pin0 (by decide) (by decide) rfl (pmt1 115 rfl (by decide +kernel)) rfl (dX_getfield (by decide +kernel)) (by decide +kernel), ?_⟩
  refine ⟨sn_iload_n (k := 1) (dX_iload_1 (by decide +kernel)) rfl (by decide +kernel), ?_⟩
  refine ⟨sn_iald (dX_iaload (by decide +kernel)) (by decide +kernel), ?_⟩
  refine ⟨sn_istore_n (k := 3) (dX_istore_3 (by decide +kernel)) rfl (by decide) (by decide +kernel), ?_⟩
  refine ⟨sn_aload_n (k := 0) (dX_aload_0 (by decide +kernel)) rfl (by decide +kernel), ?_⟩
  refine ⟨sn_getf (C := RX11) (T := TX11) (N := 18) (idx := 44) rfl pin11 (by decide) (by decide) rfl (pmt2 124 rfl (by decide +kernel)) rfl (dX_getfield (by decide +kernel)) (by decide +kernel), ?_⟩
  refine ⟨sn_getf (C := RX0) (T := TX0) (N := 13) (idx := 150) rfl pin0 (by decide) (by decide) rfl (pmt1 123 rfl (by decide +kernel)) rfl (dX_getfield (by decide +kernel)) (by decide +kernel), ?_⟩
  refine ⟨sn_iload_n (k := 1) (dX_iload_1 (by decide +kernel)) rfl (by decide +kernel), ?_⟩
  refine ⟨sn_iald (dX_iaload (by decide +kernel)) (by decide +kernel), ?_⟩
  refine ⟨sn_istore (dX_istore (by decide +kernel)) (by decide) (by decide +kernel), ?_⟩
  refine ⟨sn_aload_n (k := 0) (dX_aload_0 (by decide +kernel)) rfl (by decide +kernel), ?_⟩
  refine ⟨sn_getf (C := RX11) (T := TX11) (N := 18) (idx := 44) rfl pin11 (by decide) (by decide) rfl (pmt2 124 rfl (by decide +kernel)) rfl (dX_getfield (by decide +kernel)) (by decide +kernel), ?_⟩
  refine ⟨sn_iload_n (k := 3) (dX_iload_3 (by decide +kernel)) rfl (by decide +kernel), ?_⟩
  refine ⟨sn_iload (dX_iload (by decide +kernel)) (by decide +kernel), ?_⟩
  refine ⟨sn_iload_n (k := 2) (dX_iload_2 (by decide +kernel)) rfl (by decide +kernel), ?_⟩
  refine ⟨sn_callV (idx := 368) (C := RX0) (T := TX0) (N := 13) rfl (by decide) cal_80 (pmt5 104 rfl (by decide +kernel)) (pmt4 33 rfl (by decide +kernel)) (pmt4 34 rfl (by decide +kernel)) (dX_invokevirtual (by decide +kernel)) (by decide +kernel), ?_⟩
  refine ⟨sn_istore (dX_istore (by decide +kernel)) (by decide) (by decide +kernel), ?_⟩
  refine ⟨sn_iload (dX_iload (by decide +kernel)) (by decide +kernel), ?_⟩
  refine ⟨sn_if_ge (off := 6) (dX_ifge (by decide +kernel)) (by decide +kernel) (by decide +kernel), ?_⟩
  refine ⟨sn_bipush (dX_bipush (by decide +kernel)) (by decide +kernel) (by decide +kernel), ?_⟩
  refine ⟨sn_iret rfl (dX_ireturn (by decide +kernel)), ?_⟩
  refine ⟨sn_aload_n (k := 0) (dX_aload_0 (by decide +kernel)) rfl (by decide +kernel), ?_⟩
  refine ⟨sn_getf (C := RX11) (T := TX11) (N := 18) (idx := 37) rfl pin11 (by decide) (by decide) rfl (pmt2 123 rfl (by decide +kernel)) rfl (dX_getfield (by decide +kernel)) (by decide +kernel), ?_⟩
  refine ⟨sn_callV (idx := 227) (C := RX4) (T := TX4) (N := 2) rfl (by decide) cal_127 (pmt4 81 rfl (by decide +kernel)) (pmt4 82 rfl (by decide +kernel)) (pmt4 83 rfl (by decide +kernel)) (dX_invokevirtual (by decide +kernel)) (by decide +kernel), ?_⟩
  refine ⟨sn_iload (dX_iload (by decide +kernel)) (by decide +kernel), ?_⟩
  refine ⟨sn_iconst (dX_iconst_1 (by decide +kernel)) (by decide +kernel), ?_⟩
  refine ⟨sn_isub (dX_isub (by decide +kernel)) (by decide +kernel), ?_⟩
  refine ⟨sn_istore (dX_istore (by decide +kernel)) (by decide) (by decide +kernel), ?_⟩
  refine ⟨sn_iload (dX_iload (by decide +kernel)) (by decide +kernel), ?_⟩
  refine ⟨sn_if_lt (off := 33) (dX_iflt (by decide +kernel)) (by decide +kernel) (by decide +kernel), ?_⟩
  refine ⟨sn_aload_n (k := 0) (dX_aload_0 (by decide +kernel)) rfl (by decide +kernel), ?_⟩
  refine ⟨sn_getf (C := RX11) (T := TX11) (N := 18) (idx := 44) rfl pin11 (by decide) (by decide) rfl (pmt2 124 rfl (by decide +kernel)) rfl (dX_getfield (by decide +kernel)) (by decide +kernel), ?_⟩
  refine ⟨sn_iload_n (k := 3) (dX_iload_3 (by decide +kernel)) rfl (by decide +kernel), ?_⟩
  refine ⟨sn_iload (dX_iload (by decide +kernel)) (by decide +kernel), ?_⟩
  refine ⟨sn_iload_n (k := 2) (dX_iload_2 (by decide +kernel)) rfl (by decide +kernel), ?_⟩
  refine ⟨sn_iload (dX_iload (by decide +kernel)) (by decide +kernel), ?_⟩
  refine ⟨sn_callV (idx := 372) (C := RX0) (T := TX0) (N := 13) rfl (by decide) cal_81 (pmt5 105 rfl (by decide +kernel)) (pmt5 106 rfl (by decide +kernel)) (pmt5 107 rfl (by decide +kernel)) (dX_invokevirtual (by decide +kernel)) (by decide +kernel), ?_⟩
  refine ⟨sn_istore (dX_istore (by decide +kernel)) (by decide) (by decide +kernel), ?_⟩
  refine ⟨sn_aload_n (k := 0) (dX_aload_0 (by decide +kernel)) rfl (by decide +kernel), ?_⟩
  refine ⟨sn_getf (C := RX11) (T := TX11) (N := 18) (idx := 37) rfl pin11 (by decide) (by decide) rfl (pmt2 123 rfl (by decide +kernel)) rfl (dX_getfield (by decide +kernel)) (by decide +kernel), ?_⟩
  refine ⟨sn_iload (dX_iload (by decide +kernel)) (by decide +kernel), ?_⟩
  refine ⟨sn_callV (idx := 230) (C := RX4) (T := TX4) (N := 2) rfl (by decide) cal_128 (pmt4 85 rfl (by decide +kernel)) (pmt4 86 rfl (by decide +kernel)) (pmt4 87 rfl (by decide +kernel)) (dX_invokevirtual (by decide +kernel)) (by decide +kernel), ?_⟩
  refine ⟨sn_iinc (dX_iinc (by decide +kernel)) (by decide) (by decide +kernel), ?_⟩
  refine ⟨sn_goto (off := -32) (dX_goto (by decide +kernel)) (by decide +kernel), ?_⟩
  refine ⟨sn_iload (dX_iload (by decide +kernel)) (by decide +kernel), ?_⟩
  refine ⟨sn_iret rfl (dX_ireturn (by decide +kernel)), ?_⟩
  trivial
set_option maxRecDepth 100000 in
set_option maxHeartbeats 4000000 in
theorem S_35 : pAll (pSk RX11 cX11_widest 4 (some .int) PC_35) 0 C_35 := by
  refine ⟨sn_aload_n (k := 0) (dX_aload_0 (by decide +kernel)) rfl (by decide +kernel), ?_⟩
  refine ⟨sn_getf (C := RX11) (T := TX11) (N := 18) (idx := 44) rfl pin11 (by decide) (by decide) rfl (pmt2 124 rfl (by decide +kernel)) rfl (dX_getfield (by decide +kernel)) (by decide +kernel), ?_⟩
  refine ⟨sn_iload_n (k := 1) (dX_iload_1 (by decide +kernel)) rfl (by decide +kernel), ?_⟩
  refine ⟨sn_callV (idx := 137) (C := RX0) (T := TX0) (N := 13) rfl (by decide) cal_63 (pmt4 23 rfl (by decide +kernel)) (pmt3 25 rfl (by decide +kernel)) (pmt3 26 rfl (by decide +kernel)) (dX_invokevirtual (by decide +kernel)) (by decide +kernel), ?_⟩
  refine ⟨sn_if_eq (off := 14) (dX_ifeq (by decide +kernel)) (by decide +kernel) (by decide +kernel), ?_⟩
  refine ⟨sn_aload_n (k := 0) (dX_aload_0 (by decide +kernel)) rfl (by decide +kernel), ?_⟩
  refine ⟨sn_getf (C := RX11) (T := TX11) (N := 18) (idx := 44) rfl pin11 (by decide) (by decide) rfl (pmt2 124 rfl (by decide +kernel)) rfl (dX_getfield (by decide +kernel)) (by decide +kernel), ?_⟩
  refine ⟨sn_iload_n (k := 2) (dX_iload_2 (by decide +kernel)) rfl (by decide +kernel), ?_⟩
  refine ⟨sn_callV (idx := 137) (C := RX0) (T := TX0) (N := 13) rfl (by decide) cal_63 (pmt4 23 rfl (by decide +kernel)) (pmt3 25 rfl (by decide +kernel)) (pmt3 26 rfl (by decide +kernel)) (dX_invokevirtual (by decide +kernel)) (by decide +kernel), ?_⟩
  refine ⟨sn_if_ne (off := 5) (dX_ifne (by decide +kernel)) (by decide +kernel) (by decide +kernel), ?_⟩
  refine ⟨sn_iconst (dX_iconst_m1 (by decide +kernel)) (by decide +kernel), ?_⟩
  refine ⟨sn_iret rfl (dX_ireturn (by decide +kernel)), ?_⟩
  refine ⟨sn_bipush (dX_bipush (by decide +kernel)) (by decide +kernel) (by decide +kernel), ?_⟩
  refine ⟨sn_istore_n (k := 3) (dX_istore_3 (by decide +kernel)) rfl (by decide) (by decide +kernel), ?_⟩
  refine ⟨sn_iload_n (k := 3) (dX_iload_3 (by decide +kernel)) rfl (by decide +kernel), ?_⟩
  refine ⟨sn_if_le (off := 24) (dX_ifle (by decide +kernel)) (by decide +kernel) (by decide +kernel), ?_⟩
  refine ⟨sn_aload_n (k := 0) (dX_aload_0 (by decide +kernel)) rfl (by decide +kernel), ?_⟩
  refine ⟨sn_getf (C := RX11) (T := TX11) (N := 18) (idx := 44) rfl pin11 (by decide) (by decide) rfl (pmt2 124 rfl (by decide +kernel)) rfl (dX_getfield (by decide +kernel)) (by decide +kernel), ?_⟩
  refine ⟨sn_iload_n (k := 3) (dX_iload_3 (by decide +kernel)) rfl (by decide +kernel), ?_⟩
  refine ⟨sn_iload_n (k := 1) (dX_iload_1 (by decide +kernel)) rfl (by decide +kernel), ?_⟩
  refine ⟨sn_iload_n (k := 2) (dX_iload_2 (by decide +kernel)) rfl (by decide +kernel), ?_⟩
  refine ⟨sn_callV (idx := 368) (C := RX0) (T := TX0) (N := 13) rfl (by decide) cal_80 (pmt5 104 rfl (by decide +kernel)) (pmt4 33 rfl (by decide +kernel)) (pmt4 34 rfl (by decide +kernel)) (dX_invokevirtual (by decide +kernel)) (by decide +kernel), ?_⟩
  refine ⟨sn_if_lt (off := 5) (dX_iflt (by decide +kernel)) (by decide +kernel) (by decide +kernel), ?_⟩
  refine ⟨sn_iload_n (k := 3) (dX_iload_3 (by decide +kernel)) rfl (by decide +kernel), ?_⟩
  refine ⟨sn_iret rfl (dX_ireturn (by decide +kernel)), ?_⟩
  refine ⟨sn_iinc (dX_iinc (by decide +kernel)) (by decide) (by decide +kernel), ?_⟩
  refine ⟨sn_goto (off := -22) (dX_goto (by decide +kernel)) (by decide +kernel), ?_⟩
  refine ⟨sn_iconst (dX_iconst_0 (by decide +kernel)) (by decide +kernel), ?_⟩
  refine ⟨sn_iret rfl (dX_ireturn (by decide +kernel)), ?_⟩
  trivial
set_option maxRecDepth 100000 in
set_option maxHeartbeats 4000000 in
theorem S_36 : pAll (pSk RX11 cX11_stuck 3 (some .int) PC_36) 0 C_36 := by
  refine ⟨sn_iconst (dX_iconst_0 (by decide +kernel)) (by decide +kernel), ?_⟩
  refine ⟨sn_istore_n (k := 1) (dX_istore_1 (by decide +kernel)) rfl (by decide) (by decide +kernel), ?_⟩
  refine ⟨sn_iconst (dX_iconst_0 (by decide +kernel)) (by decide +kernel), ?_⟩
  refine ⟨sn_istore_n (k := 2) (dX_istore_2 (by decide +kernel)) rfl (by decide) (by decide +kernel), ?_⟩
  refine ⟨sn_iload_n (k := 2) (dX_iload_2 (by decide +kernel)) rfl (by decide +kernel), ?_⟩
  refine ⟨sn_aload_n (k := 0) (dX_aload_0 (by decide +kernel)) rfl (by decide +kernel), ?_⟩
  refine ⟨sn_getf (C := RX11) (T := TX11) (N := 18) (idx := 44) rfl pin11 (by decide) (by decide) rfl (pmt2 124 rfl (by decide +kernel)) rfl (dX_getfield (by decide +kernel)) (by decide +kernel), ?_⟩
  refine ⟨sn_getf (C := RX0) (T := TX0) (N := 13) (idx := 276) rfl pin0 (by decide) (by decide) rfl (pmt1 143 rfl (by decide +kernel)) rfl (dX_getfield (by decide +kernel)) (by decide +kernel), ?_⟩
  refine ⟨sn_icmp_ge (off := 50) (dX_if_icmpge (by decide +kernel)) (by decide +kernel) (by decide +kernel), ?_⟩
  refine ⟨sn_aload_n (k := 0) (dX_aload_0 (by decide +kernel)) rfl (by decide +kernel), ?_⟩
  refine ⟨sn_getf (C := RX11) (T := TX11) (N := 18) (idx := 44) rfl pin11 (by decide) (by decide) rfl (pmt2 124 rfl (by decide +kernel)) rfl (dX_getfield (by decide +kernel)) (by decide +kernel), ?_⟩
  refine ⟨sn_aload_n (k := 0) (dX_aload_0 (by decide +kernel)) rfl (by decide +kernel), ?_⟩
  refine ⟨sn_getf (C := RX11) (T := TX11) (N := 18) (idx := 44) rfl pin11 (by decide) (by decide) rfl (pmt2 124 rfl (by decide +kernel)) rfl (dX_getfield (by decide +kernel)) (by decide +kernel), ?_⟩
  refine ⟨sn_getf (C := RX0) (T := TX0) (N := 13) (idx := 172) rfl pin0 (by decide) (by decide) rfl (pmt1 115 rfl (by decide +kernel)) rfl (dX_getfield (by decide +kernel)) (by decide +kernel), ?_⟩
  refine ⟨sn_iload_n (k := 2) (dX_iload_2 (by decide +kernel)) rfl (by decide +kernel), ?_⟩
  refine ⟨sn_iald (dX_iaload (by decide +kernel)) (by decide +kernel), ?_⟩
  refine ⟨sn_aload_n (k := 0) (dX_aload_0 (by decide +kernel)) rfl (by decide +kernel), ?_⟩
  refine ⟨sn_getf (C := RX11) (T := TX11) (N := 18) (idx := 44) rfl pin11 (by decide) (by decide) rfl (pmt2 124 rfl (by decide +kernel)) rfl (dX_getfield (by decide +kernel)) (by decide +kernel), ?_⟩
  refine ⟨sn_getf (C := RX0) (T := TX0) (N := 13) (idx := 150) rfl pin0 (by decide) (by decide) rfl (pmt1 123 rfl (by decide +kernel)) rfl (dX_getfield (by decide +kernel)) (by decide +kernel), ?_⟩
  refine ⟨sn_iload_n (k := 2) (dX_iload_2 (by decide +kernel)) rfl (by decide +kernel), ?_⟩
  refine ⟨sn_iald (dX_iaload (by decide +kernel)) (by decide +kernel), ?_⟩
  refine ⟨sn_callV (idx := 375) (C := RX0) (T := TX0) (N := 13) rfl (by decide) cal_79 (pmt5 117 rfl (by decide +kernel)) (pmt5 118 rfl (by decide +kernel)) (pmt5 119 rfl (by decide +kernel)) (dX_invokevirtual (by decide +kernel)) (by decide +kernel), ?_⟩
  refine ⟨sn_aload_n (k := 0) (dX_aload_0 (by decide +kernel)) rfl (by decide +kernel), ?_⟩
  refine ⟨sn_getf (C := RX11) (T := TX11) (N := 18) (idx := 44) rfl pin11 (by decide) (by decide) rfl (pmt2 124 rfl (by decide +kernel)) rfl (dX_getfield (by decide +kernel)) (by decide +kernel), ?_⟩
  refine ⟨sn_callV (idx := 378) (C := RX0) (T := TX0) (N := 13) rfl (by decide) cal_66 (pmt5 121 rfl (by decide +kernel)) (pmt5 122 rfl (by decide +kernel)) (pmt5 123 rfl (by decide +kernel)) (dX_invokevirtual (by decide +kernel)) (by decide +kernel), ?_⟩
  refine ⟨sn_icmp_eq (off := 9) (dX_if_icmpeq (by decide +kernel)) (by decide +kernel) (by decide +kernel), ?_⟩
  refine ⟨sn_iload_n (k := 1) (dX_iload_1 (by decide +kernel)) rfl (by decide +kernel), ?_⟩
  refine ⟨sn_iconst (dX_iconst_1 (by decide +kernel)) (by decide +kernel), ?_⟩
  refine ⟨sn_iload_n (k := 2) (dX_iload_2 (by decide +kernel)) rfl (by decide +kernel), ?_⟩
  refine ⟨sn_ishl (dX_ishl (by decide +kernel)) (by decide +kernel), ?_⟩
  refine ⟨sn_ior (dX_ior (by decide +kernel)) (by decide +kernel), ?_⟩
  refine ⟨sn_istore_n (k := 1) (dX_istore_1 (by decide +kernel)) rfl (by decide) (by decide +kernel), ?_⟩
  refine ⟨sn_iinc (dX_iinc (by decide +kernel)) (by decide) (by decide +kernel), ?_⟩
  refine ⟨sn_goto (off := -55) (dX_goto (by decide +kernel)) (by decide +kernel), ?_⟩
  refine ⟨sn_iload_n (k := 1) (dX_iload_1 (by decide +kernel)) rfl (by decide +kernel), ?_⟩
  refine ⟨sn_iret rfl (dX_ireturn (by decide +kernel)), ?_⟩
  trivial
set_option maxRecDepth 100000 in
set_option maxHeartbeats 4000000 in
theorem S_37 : pAll (pSk RX11 cX11_hinge 8 (some .int) PC_37) 0 C_37 := by
  refine ⟨sn_aload_n (k := 0) (dX_aload_0 (by decide +kernel)) rfl (by decide +kernel), ?_⟩
  refine ⟨sn_getf (C := RX11) (T := TX11) (N := 18) (idx := 44) rfl pin11 (by decide) (by decide) rfl (pmt2 124 rfl (by decide +kernel)) rfl (dX_getfield (by decide +kernel)) (by decide +kernel), ?_⟩
  refine ⟨sn_iload_n (k := 1) (dX_iload_1 (by decide +kernel)) rfl (by decide +kernel), ?_⟩
  refine ⟨sn_callV (idx := 137) (C := RX0) (T := TX0) (N := 13) rfl (by decide) cal_63 (pmt4 23 rfl (by decide +kernel)) (pmt3 25 rfl (by decide +kernel)) (pmt3 26 rfl (by decide +kernel)) (dX_invokevirtual (by decide +kernel)) (by decide +kernel), ?_⟩
  refine ⟨sn_if_ne (off := 5) (dX_ifne (by decide +kernel)) (by decide +kernel) (by decide +kernel), ?_⟩
  refine ⟨sn_iconst (dX_iconst_m1 (by decide +kernel)) (by decide +kernel), ?_⟩
  refine ⟨sn_iret rfl (dX_ireturn (by decide +kernel)), ?_⟩
  refine ⟨sn_iconst (dX_iconst_m1 (by decide +kernel)) (by decide +kernel), ?_⟩
  refine ⟨sn_istore_n (k := 2) (dX_istore_2 (by decide +kernel)) rfl (by decide) (by decide +kernel), ?_⟩
  refine ⟨sn_iconst (dX_iconst_m1 (by decide +kernel)) (by decide +kernel), ?_⟩
  refine ⟨sn_istore_n (k := 3) (dX_istore_3 (by decide +kernel)) rfl (by decide) (by decide +kernel), ?_⟩
  refine ⟨sn_iconst (dX_iconst_m1 (by decide +kernel)) (by decide +kernel), ?_⟩
  refine ⟨sn_istore (dX_istore (by decide +kernel)) (by decide) (by decide +kernel), ?_⟩
  refine ⟨sn_iconst (dX_iconst_0 (by decide +kernel)) (by decide +kernel), ?_⟩
  refine ⟨sn_istore (dX_istore (by decide +kernel)) (by decide) (by decide +kernel), ?_⟩
  refine ⟨sn_iload (dX_iload (by decide +kernel)) (by decide +kernel), ?_⟩
  refine ⟨sn_aload_n (k := 0) (dX_aload_0 (by decide +kernel)) rfl (by decide +kernel), ?_⟩
  refine ⟨sn_getf (C := RX11) (T := TX11) (N := 18) (idx := 44) rfl pin11 (by decide) (by decide) rfl (pmt2 124 rfl (by decide +kernel)) rfl (dX_getfield (by decide +kernel)) (by decide +kernel), ?_⟩
  refine ⟨sn_getf (C := RX0) (T := TX0) (N := 13) (idx := 319) rfl pin0 (by decide) (by decide) rfl (pmt1 137 rfl (by decide +kernel)) rfl (dX_getfield (by decide +kernel)) (by decide +kernel), ?_⟩
  refine ⟨sn_icmp_ge (off := 82) (dX_if_icmpge (by decide +kernel)) (by decide +kernel) (by decide +kernel), ?_⟩
  refine ⟨sn_iload (dX_iload (by decide +kernel)) (by decide +kernel), ?_⟩
  refine ⟨sn_iconst (dX_iconst_1 (by decide +kernel)) (by decide +kernel), ?_⟩
  refine ⟨sn_iadd (dX_iadd (by decide +kernel)) (by decide +kernel), ?_⟩
  refine ⟨sn_istore (dX_istore (by decide +kernel)) (by decide) (by decide +kernel), ?_⟩
  refine ⟨sn_iload (dX_iload (by decide +kernel)) (by decide +kernel), ?_⟩
  refine ⟨sn_aload_n (k := 0) (dX_aload_0 (by decide +kernel)) rfl (by decide +kernel), ?_⟩
  refine ⟨sn_getf (C := RX11) (T := TX11) (N := 18) (idx := 44) rfl pin11 (by decide) (by decide) rfl (pmt2 124 rfl (by decide +kernel)) rfl (dX_getfield (by decide +kernel)) (by decide +kernel), ?_⟩
  refine ⟨sn_getf (C := RX0) (T := TX0) (N := 13) (idx := 319) rfl pin0 (by decide) (by decide) rfl (pmt1 137 rfl (by decide +kernel)) rfl (dX_getfield (by decide +kernel)) (by decide +kernel), ?_⟩
  refine ⟨sn_icmp_ge (off := 58) (dX_if_icmpge (by decide +kernel)) (by decide +kernel) (by decide +kernel), ?_⟩
  refine ⟨sn_aload_n (k := 0) (dX_aload_0 (by decide +kernel)) rfl (by decide +kernel), ?_⟩
  refine ⟨sn_getf (C := RX11) (T := TX11) (N := 18) (idx := 44) rfl pin11 (by decide) (by decide) rfl (pmt2 124 rfl (by decide +kernel)) rfl (dX_getfield (by decide +kernel)) (by decide +kernel), ?_⟩
  refine ⟨sn_iload (dX_iload (by decide +kernel)) (by decide +kernel), ?_⟩
  refine ⟨sn_iload (dX_iload (by decide +kernel)) (by decide +kernel), ?_⟩
  refine ⟨sn_callV (idx := 199) (C := RX0) (T := TX0) (N := 13) rfl (by decide) cal_74 (pmt3 228 rfl (by decide +kernel)) (pmt3 229 rfl (by decide +kernel)) (pmt3 230 rfl (by decide +kernel)) (dX_invokevirtual (by decide +kernel)) (by decide +kernel), ?_⟩
  refine ⟨sn_if_ne (off := 7) (dX_ifne (by decide +kernel)) (by decide +kernel) (by decide +kernel), ?_⟩
  refine ⟨sn_iconst (dX_iconst_m1 (by decide +kernel)) (by decide +kernel), ?_⟩
  refine ⟨sn_goto (off := 15) (dX_goto (by decide +kernel)) (by decide +kernel), ?_⟩
  refine ⟨sn_aload_n (k := 0) (dX_aload_0 (by decide +kernel)) rfl (by decide +kernel), ?_⟩
  refine ⟨sn_getf (C := RX11) (T := TX11) (N := 18) (idx := 44) rfl pin11 (by decide) (by decide) rfl (pmt2 124 rfl (by decide +kernel)) rfl (dX_getfield (by decide +kernel)) (by decide +kernel), ?_⟩
  refine ⟨sn_iload (dX_iload (by decide +kernel)) (by decide +kernel), ?_⟩
  refine ⟨sn_iload (dX_iload (by decide +kernel)) (by decide +kernel), ?_⟩
  refine ⟨sn_iload_n (k := 1) (dX_iload_1 (by decide +kernel)) rfl (by decide +kernel), ?_⟩
  refine ⟨sn_callV (idx := 381) (C := RX0) (T := TX0) (N := 13) rfl (by decide) cal_84 (pmt5 129 rfl (by decide +kernel)) (pmt5 130 rfl (by decide +kernel)) (pmt5 131 rfl (by decide +kernel)) (dX_invokevirtual (by decide +kernel)) (by decide +kernel), ?_⟩
  refine ⟨sn_istore (dX_istore (by decide +kernel)) (by decide) (by decide +kernel), ?_⟩
  refine ⟨sn_iload (dX_iload (by decide +kernel)) (by decide +kernel), ?_⟩
  refine ⟨sn_iload (dX_iload (by decide +kernel)) (by decide +kernel), ?_⟩
  refine ⟨sn_icmp_le (off := 13) (dX_if_icmple (by decide +kernel)) (by decide +kernel) (by decide +kernel), ?_⟩
  refine ⟨sn_iload (dX_iload (by decide +kernel)) (by decide +kernel), ?_⟩
  refine ⟨sn_istore (dX_istore (by decide +kernel)) (by decide) (by decide +kernel), ?_⟩
  refine ⟨sn_iload (dX_iload (by decide +kernel)) (by decide +kernel), ?_⟩
  refine ⟨sn_istore_n (k := 2) (dX_istore_2 (by decide +kernel)) rfl (by decide) (by decide +kernel), ?_⟩
  refine ⟨sn_iload (dX_iload (by decide +kernel)) (by decide +kernel), ?_⟩
  refine ⟨sn_istore_n (k := 3) (dX_istore_3 (by decide +kernel)) rfl (by decide) (by decide +kernel), ?_⟩
  refine ⟨sn_iinc (dX_iinc (by decide +kernel)) (by decide) (by decide +kernel), ?_⟩
  refine ⟨sn_goto (off := -64) (dX_goto (by decide +kernel)) (by decide +kernel), ?_⟩
  refine ⟨sn_iinc (dX_iinc (by decide +kernel)) (by decide) (by decide +kernel), ?_⟩
  refine ⟨sn_goto (off := -88) (dX_goto (by decide +kernel)) (by decide +kernel), ?_⟩
  refine ⟨sn_iload_n (k := 2) (dX_iload_2 (by decide +kernel)) rfl (by decide +kernel), ?_⟩
  refine ⟨sn_iconst (dX_iconst_m1 (by decide +kernel)) (by decide +kernel), ?_⟩
  refine ⟨sn_icmp_ne (off := 6) (dX_if_icmpne (by decide +kernel)) (by decide +kernel) (by decide +kernel), ?_⟩
  refine ⟨sn_bipush (dX_bipush (by decide +kernel)) (by decide +kernel) (by decide +kernel), ?_⟩
  refine ⟨sn_iret rfl (dX_ireturn (by decide +kernel)), ?_⟩
  refine ⟨sn_aload_n (k := 0) (dX_aload_0 (by decide +kernel)) rfl (by decide +kernel), ?_⟩
  refine ⟨sn_getf (C := RX11) (T := TX11) (N := 18) (idx := 37) rfl pin11 (by decide) (by decide) rfl (pmt2 123 rfl (by decide +kernel)) rfl (dX_getfield (by decide +kernel)) (by decide +kernel), ?_⟩
  refine ⟨sn_callV (idx := 227) (C := RX4) (T := TX4) (N := 2) rfl (by decide) cal_127 (pmt4 81 rfl (by decide +kernel)) (pmt4 82 rfl (by decide +kernel)) (pmt4 83 rfl (by decide +kernel)) (dX_invokevirtual (by decide +kernel)) (by decide +kernel), ?_⟩
  refine ⟨sn_aload_n (k := 0) (dX_aload_0 (by decide +kernel)) rfl (by decide +kernel), ?_⟩
  refine ⟨sn_getf (C := RX11) (T := TX11) (N := 18) (idx := 37) rfl pin11 (by decide) (by decide) rfl (pmt2 123 rfl (by decide +kernel)) rfl (dX_getfield (by decide +kernel)) (by decide +kernel), ?_⟩
  refine ⟨sn_iload_n (k := 3) (dX_iload_3 (by decide +kernel)) rfl (by decide +kernel), ?_⟩
  refine ⟨sn_callV (idx := 230) (C := RX4) (T := TX4) (N := 2) rfl (by decide) cal_128 (pmt4 85 rfl (by decide +kernel)) (pmt4 86 rfl (by decide +kernel)) (pmt4 87 rfl (by decide +kernel)) (dX_invokevirtual (by decide +kernel)) (by decide +kernel), ?_⟩
  refine ⟨sn_aload_n (k := 0) (dX_aload_0 (by decide +kernel)) rfl (by decide +kernel), ?_⟩
  refine ⟨sn_getf (C := RX11) (T := TX11) (N := 18) (idx := 37) rfl pin11 (by decide) (by decide) rfl (pmt2 123 rfl (by decide +kernel)) rfl (dX_getfield (by decide +kernel)) (by decide +kernel), ?_⟩
  refine ⟨sn_iload (dX_iload (by decide +kernel)) (by decide +kernel), ?_⟩
  refine ⟨sn_callV (idx := 230) (C := RX4) (T := TX4) (N := 2) rfl (by decide) cal_128 (pmt4 85 rfl (by decide +kernel)) (pmt4 86 rfl (by decide +kernel)) (pmt4 87 rfl (by decide +kernel)) (dX_invokevirtual (by decide +kernel)) (by decide +kernel), ?_⟩
  refine ⟨sn_iload_n (k := 2) (dX_iload_2 (by decide +kernel)) rfl (by decide +kernel), ?_⟩
  refine ⟨sn_iret rfl (dX_ireturn (by decide +kernel)), ?_⟩
  trivial
set_option maxRecDepth 100000 in
set_option maxHeartbeats 4000000 in
theorem S_38 : pAll (pSk RX11 cX11_aim 4 (some .int) PC_38) 0 C_38 := by
  refine ⟨sn_aload_n (k := 0) (dX_aload_0 (by decide +kernel)) rfl (by decide +kernel), ?_⟩
  refine ⟨sn_getf (C := RX11) (T := TX11) (N := 18) (idx := 10) rfl pin11 (by decide) (by decide) rfl (pmt2 120 rfl (by decide +kernel)) rfl (dX_getfield (by decide +kernel)) (by decide +kernel), ?_⟩
  refine ⟨sn_getf (C := RX8) (T := TX8) (N := 2) (idx := 108) rfl pin8 (by decide) (by decide) rfl (pmt1 43 rfl (by decide +kernel)) rfl (dX_getfield (by decide +kernel)) (by decide +kernel), ?_⟩
  refine ⟨sn_istore_n (k := 1) (dX_istore_1 (by decide +kernel)) rfl (by decide) (by decide +kernel), ?_⟩
  refine ⟨sn_iload_n (k := 1) (dX_iload_1 (by decide +kernel)) rfl (by decide +kernel), ?_⟩
  refine ⟨sn_if_ne (off := 7) (dX_ifne (by decide +kernel)) (by decide +kernel) (by decide +kernel), ?_⟩
  refine ⟨sn_iconst (dX_iconst_m1 (by decide +kernel)) (by decide +kernel), ?_⟩
  refine ⟨sn_goto (off := 7) (dX_goto (by decide +kernel)) (by decide +kernel), ?_⟩
  refine ⟨sn_aload_n (k := 0) (dX_aload_0 (by decide +kernel)) rfl (by decide +kernel), ?_⟩
  refine ⟨sn_callV (idx := 384) (C := RX11) (T := TX11) (N := 18) rfl (by decide) cal_56 (pmt5 138 rfl (by decide +kernel)) (pmt5 140 rfl (by decide +kernel)) (pms 28 rfl rfl) (dX_invokevirtual (by decide +kernel)) (by decide +kernel), ?_⟩
  refine ⟨sn_istore_n (k := 2) (dX_istore_2 (by decide +kernel)) rfl (by decide) (by decide +kernel), ?_⟩
  refine ⟨sn_iload_n (k := 2) (dX_iload_2 (by decide +kernel)) rfl (by decide +kernel), ?_⟩
  refine ⟨sn_iconst (dX_iconst_m1 (by decide +kernel)) (by decide +kernel), ?_⟩
  refine ⟨sn_icmp_ne (off := 44) (dX_if_icmpne (by decide +kernel)) (by decide +kernel) (by decide +kernel), ?_⟩
  refine ⟨sn_iconst (dX_iconst_0 (by decide +kernel)) (by decide +kernel), ?_⟩
  refine ⟨sn_istore_n (k := 3) (dX_istore_3 (by decide +kernel)) rfl (by decide) (by decide +kernel), ?_⟩
  refine ⟨sn_iload_n (k := 3) (dX_iload_3 (by decide +kernel)) rfl (by decide +kernel), ?_⟩
  refine ⟨sn_iload_n (k := 1) (dX_iload_1 (by decide +kernel)) rfl (by decide +kernel), ?_⟩
  refine ⟨sn_icmp_ge (off := 32) (dX_if_icmpge (by decide +kernel)) (by decide +kernel) (by decide +kernel), ?_⟩
  refine ⟨sn_iload_n (k := 3) (dX_iload_3 (by decide +kernel)) rfl (by decide +kernel), ?_⟩
  refine ⟨sn_bipush (dX_bipush (by decide +kernel)) (by decide +kernel) (by decide +kernel), ?_⟩
  refine ⟨sn_icmp_ge (off := 26) (dX_if_icmpge (by decide +kernel)) (by decide +kernel) (by decide +kernel), ?_⟩
  refine ⟨sn_aload_n (k := 0) (dX_aload_0 (by decide +kernel)) rfl (by decide +kernel), ?_⟩
  refine ⟨sn_getf (C := RX11) (T := TX11) (N := 18) (idx := 93) rfl pin11 (by decide) (by decide) rfl (pmt2 132 rfl (by decide +kernel)) rfl (dX_getfield (by decide +kernel)) (by decide +kernel), ?_⟩
  refine ⟨sn_iload_n (k := 3) (dX_iload_3 (by decide +kernel)) rfl (by decide +kernel), ?_⟩
  refine ⟨sn_aload_n (k := 0) (dX_aload_0 (by decide +kernel)) rfl (by decide +kernel), ?_⟩
  refine ⟨sn_getf (C := RX11) (T := TX11) (N := 18) (idx := 10) rfl pin11 (by decide) (by decide) rfl (pmt2 120 rfl (by decide +kernel)) rfl (dX_getfield (by decide +kernel)) (by decide +kernel), ?_⟩
  refine ⟨sn_iload_n (k := 3) (dX_iload_3 (by decide +kernel)) rfl (by decide +kernel), ?_⟩
  refine ⟨sn_callV (idx := 241) (C := RX8) (T := TX8) (N := 2) rfl (by decide) cal_154 (pmt4 111 rfl (by decide +kernel)) (pmt4 112 rfl (by decide +kernel)) (pmt4 113 rfl (by decide +kernel)) (dX_invokevirtual (by decide +kernel)) (by decide +kernel), ?_⟩
  refine ⟨sn_bipush (dX_bipush (by decide +kernel)) (by decide +kernel) (by decide +kernel), ?_⟩
  refine ⟨sn_isub (dX_isub (by decide +kernel)) (by decide +kernel), ?_⟩
  refine ⟨sn_iast (dX_iastore (by decide +kernel)) (by decide +kernel), ?_⟩
  refine ⟨sn_iinc (dX_iinc (by decide +kernel)) (by decide) (by decide +kernel), ?_⟩
  refine ⟨sn_goto (off := -31) (dX_goto (by decide +kernel)) (by decide +kernel), ?_⟩
  refine ⟨sn_aload_n (k := 0) (dX_aload_0 (by decide +kernel)) rfl (by decide +kernel), ?_⟩
  refine ⟨sn_iload_n (k := 1) (dX_iload_1 (by decide +kernel)) rfl (by decide +kernel), ?_⟩
  refine ⟨sn_puti (C := RX11) (T := TX11) (N := 18) (idx := 387) rfl pin11 (by decide) (by decide) rfl tyX11 tyX11_ok nmX11 rfl rfl (by decide +kernel) (pmt2 134 rfl (by decide +kernel)) rfl (dX_putfield (by decide +kernel)) (by decide +kernel), ?_⟩
  refine ⟨sn_aload_n (k := 0) (dX_aload_0 (by decide +kernel)) rfl (by decide +kernel), ?_⟩
  refine ⟨sn_getf (C := RX11) (T := TX11) (N := 18) (idx := 10) rfl pin11 (by decide) (by decide) rfl (pmt2 120 rfl (by decide +kernel)) rfl (dX_getfield (by decide +kernel)) (by decide +kernel), ?_⟩
  refine ⟨sn_iconst (dX_iconst_0 (by decide +kernel)) (by decide +kernel), ?_⟩
  refine ⟨sn_callV (idx := 111) (C := RX8) (T := TX8) (N := 2) rfl (by decide) cal_153 (pmt2 187 rfl (by decide +kernel)) (pmt2 188 rfl (by decide +kernel)) (pmt2 189 rfl (by decide +kernel)) (dX_invokevirtual (by decide +kernel)) (by decide +kernel), ?_⟩
  refine ⟨sn_pop (dX_pop (by decide +kernel)) (by decide +kernel), ?_⟩
  refine ⟨sn_iload_n (k := 2) (dX_iload_2 (by decide +kernel)) rfl (by decide +kernel), ?_⟩
  refine ⟨sn_iconst (dX_iconst_m1 (by decide +kernel)) (by decide +kernel), ?_⟩
  refine ⟨sn_icmp_ne (off := 7) (dX_if_icmpne (by decide +kernel)) (by decide +kernel) (by decide +kernel), ?_⟩
  refine ⟨sn_iload_n (k := 1) (dX_iload_1 (by decide +kernel)) rfl (by decide +kernel), ?_⟩
  refine ⟨sn_goto (off := 6) (dX_goto (by decide +kernel)) (by decide +kernel), ?_⟩
  refine ⟨sn_iconst (dX_iconst_m1 (by decide +kernel)) (by decide +kernel), ?_⟩
  refine ⟨sn_iload_n (k := 2) (dX_iload_2 (by decide +kernel)) rfl (by decide +kernel), ?_⟩
  refine ⟨sn_isub (dX_isub (by decide +kernel)) (by decide +kernel), ?_⟩
  refine ⟨sn_iret rfl (dX_ireturn (by decide +kernel)), ?_⟩
  trivial
set_option maxRecDepth 100000 in
set_option maxHeartbeats 4000000 in
theorem S_39 : pAll (pSk RX11 cX11_apart 2 (some .int) PC_39) 0 C_39 := by
  refine ⟨sn_aload_n (k := 0) (dX_aload_0 (by decide +kernel)) rfl (by decide +kernel), ?_⟩
  refine ⟨sn_callV (idx := 390) (C := RX11) (T := TX11) (N := 18) rfl (by decide) cal_57 (pmt5 146 rfl (by decide +kernel)) (pmt5 148 rfl (by decide +kernel)) (pms 29 rfl rfl) (dX_invokevirtual (by decide +kernel)) (by decide +kernel), ?_⟩
  refine ⟨sn_if_ne (off := 6) (dX_ifne (by decide +kernel)) (by decide +kernel) (by decide +kernel), ?_⟩
  refine ⟨sn_bipush (dX_bipush (by decide +kernel)) (by decide +kernel) (by decide +kernel), ?_⟩
  refine ⟨sn_iret rfl (dX_ireturn (by decide +kernel)), ?_⟩
  refine ⟨sn_aload_n (k := 0) (dX_aload_0 (by decide +kernel)) rfl (by decide +kernel), ?_⟩
  refine ⟨sn_getf (C := RX11) (T := TX11) (N := 18) (idx := 44) rfl pin11 (by decide) (by decide) rfl (pmt2 124 rfl (by decide +kernel)) rfl (dX_getfield (by decide +kernel)) (by decide +kernel), ?_⟩
  refine ⟨sn_aload_n (k := 0) (dX_aload_0 (by decide +kernel)) rfl (by decide +kernel), ?_⟩
  refine ⟨sn_getf (C := RX11) (T := TX11) (N := 18) (idx := 93) rfl pin11 (by decide) (by decide) rfl (pmt2 132 rfl (by decide +kernel)) rfl (dX_getfield (by decide +kernel)) (by decide +kernel), ?_⟩
  refine ⟨sn_callV (idx := 357) (C := RX0) (T := TX0) (N := 13) rfl (by decide) cal_83 (pmt5 81 rfl (by decide +kernel)) (pmt5 82 rfl (by decide +kernel)) (pmt5 83 rfl (by decide +kernel)) (dX_invokevirtual (by decide +kernel)) (by decide +kernel), ?_⟩
  refine ⟨sn_istore_n (k := 1) (dX_istore_1 (by decide +kernel)) rfl (by decide) (by decide +kernel), ?_⟩
  refine ⟨sn_iload_n (k := 1) (dX_iload_1 (by decide +kernel)) rfl (by decide +kernel), ?_⟩
  refine ⟨sn_if_ge (off := 6) (dX_ifge (by decide +kernel)) (by decide +kernel) (by decide +kernel), ?_⟩
  refine ⟨sn_bipush (dX_bipush (by decide +kernel)) (by decide +kernel) (by decide +kernel), ?_⟩
  refine ⟨sn_iret rfl (dX_ireturn (by decide +kernel)), ?_⟩
  refine ⟨sn_aload_n (k := 0) (dX_aload_0 (by decide +kernel)) rfl (by decide +kernel), ?_⟩
  refine ⟨sn_getf (C := RX11) (T := TX11) (N := 18) (idx := 37) rfl pin11 (by decide) (by decide) rfl (pmt2 123 rfl (by decide +kernel)) rfl (dX_getfield (by decide +kernel)) (by decide +kernel), ?_⟩
  refine ⟨sn_callV (idx := 227) (C := RX4) (T := TX4) (N := 2) rfl (by decide) cal_127 (pmt4 81 rfl (by decide +kernel)) (pmt4 82 rfl (by decide +kernel)) (pmt4 83 rfl (by decide +kernel)) (dX_invokevirtual (by decide +kernel)) (by decide +kernel), ?_⟩
  refine ⟨sn_aload_n (k := 0) (dX_aload_0 (by decide +kernel)) rfl (by decide +kernel), ?_⟩
  refine ⟨sn_getf (C := RX11) (T := TX11) (N := 18) (idx := 37) rfl pin11 (by decide) (by decide) rfl (pmt2 123 rfl (by decide +kernel)) rfl (dX_getfield (by decide +kernel)) (by decide +kernel), ?_⟩
  refine ⟨sn_aload_n (k := 0) (dX_aload_0 (by decide +kernel)) rfl (by decide +kernel), ?_⟩
  refine ⟨sn_getf (C := RX11) (T := TX11) (N := 18) (idx := 44) rfl pin11 (by decide) (by decide) rfl (pmt2 124 rfl (by decide +kernel)) rfl (dX_getfield (by decide +kernel)) (by decide +kernel), ?_⟩
  refine ⟨sn_aload_n (k := 0) (dX_aload_0 (by decide +kernel)) rfl (by decide +kernel), ?_⟩
  refine ⟨sn_getf (C := RX11) (T := TX11) (N := 18) (idx := 93) rfl pin11 (by decide) (by decide) rfl (pmt2 132 rfl (by decide +kernel)) rfl (dX_getfield (by decide +kernel)) (by decide +kernel), ?_⟩
  refine ⟨sn_callV (idx := 247) (C := RX0) (T := TX0) (N := 13) rfl (by decide) cal_91 (pmt4 117 rfl (by decide +kernel)) (pmt4 118 rfl (by decide +kernel)) (pmt4 119 rfl (by decide +kernel)) (dX_invokevirtual (by decide +kernel)) (by decide +kernel), ?_⟩
  refine ⟨sn_if_eq (off := 7) (dX_ifeq (by decide +kernel)) (by decide +kernel) (by decide +kernel), ?_⟩
  refine ⟨sn_iconst (dX_iconst_1 (by decide +kernel)) (by decide +kernel), ?_⟩
  refine ⟨sn_goto (off := 4) (dX_goto (by decide +kernel)) (by decide +kernel), ?_⟩
  refine ⟨sn_iconst (dX_iconst_0 (by decide +kernel)) (by decide +kernel), ?_⟩
  refine ⟨sn_callV (idx := 230) (C := RX4) (T := TX4) (N := 2) rfl (by decide) cal_128 (pmt4 85 rfl (by decide +kernel)) (pmt4 86 rfl (by decide +kernel)) (pmt4 87 rfl (by decide +kernel)) (dX_invokevirtual (by decide +kernel)) (by decide +kernel), ?_⟩
  refine ⟨sn_iload_n (k := 1) (dX_iload_1 (by decide +kernel)) rfl (by decide +kernel), ?_⟩
  refine ⟨sn_iret rfl (dX_ireturn (by decide +kernel)), ?_⟩
  trivial
set_option maxRecDepth 100000 in
set_option maxHeartbeats 4000000 in
theorem S_40 : pAll (pSk RX11 cX11_queue 2 (some .int) PC_40) 0 C_40 := by
  refine ⟨sn_aload_n (k := 0) (dX_aload_0 (by decide +kernel)) rfl (by decide +kernel), ?_⟩
  refine ⟨sn_callV (idx := 390) (C := RX11) (T := TX11) (N := 18) rfl (by decide) cal_57 (pmt5 146 rfl (by decide +kernel)) (pmt5 148 rfl (by decide +kernel)) (pms 29 rfl rfl) (dX_invokevirtual (by decide +kernel)) (by decide +kernel), ?_⟩
  refine ⟨sn_if_ne (off := 6) (dX_ifne (by decide +kernel)) (by decide +kernel) (by decide +kernel), ?_⟩
  refine ⟨sn_bipush (dX_bipush (by decide +kernel)) (by decide +kernel) (by decide +kernel), ?_⟩
  refine ⟨sn_iret rfl (dX_ireturn (by decide +kernel)), ?_⟩
  refine ⟨sn_aload_n (k := 0) (dX_aload_0 (by decide +kernel)) rfl (by decide +kernel), ?_⟩
  refine ⟨sn_getf (C := RX11) (T := TX11) (N := 18) (idx := 44) rfl pin11 (by decide) (by decide) rfl (pmt2 124 rfl (by decide +kernel)) rfl (dX_getfield (by decide +kernel)) (by decide +kernel), ?_⟩
  refine ⟨sn_aload_n (k := 0) (dX_aload_0 (by decide +kernel)) rfl (by decide +kernel), ?_⟩
  refine ⟨sn_getf (C := RX11) (T := TX11) (N := 18) (idx := 93) rfl pin11 (by decide) (by decide) rfl (pmt2 132 rfl (by decide +kernel)) rfl (dX_getfield (by decide +kernel)) (by decide +kernel), ?_⟩
  refine ⟨sn_callV (idx := 220) (C := RX0) (T := TX0) (N := 13) rfl (by decide) cal_89 (pmt4 56 rfl (by decide +kernel)) (pmt4 57 rfl (by decide +kernel)) (pmt4 58 rfl (by decide +kernel)) (dX_invokevirtual (by decide +kernel)) (by decide +kernel), ?_⟩
  refine ⟨sn_if_ne (off := 20) (dX_ifne (by decide +kernel)) (by decide +kernel) (by decide +kernel), ?_⟩
  refine ⟨sn_aload_n (k := 0) (dX_aload_0 (by decide +kernel)) rfl (by decide +kernel), ?_⟩
  refine ⟨sn_getf (C := RX11) (T := TX11) (N := 18) (idx := 44) rfl pin11 (by decide) (by decide) rfl (pmt2 124 rfl (by decide +kernel)) rfl (dX_getfield (by decide +kernel)) (by decide +kernel), ?_⟩
  refine ⟨sn_aload_n (k := 0) (dX_aload_0 (by decide +kernel)) rfl (by decide +kernel), ?_⟩
  refine ⟨sn_getf (C := RX11) (T := TX11) (N := 18) (idx := 44) rfl pin11 (by decide) (by decide) rfl (pmt2 124 rfl (by decide +kernel)) rfl (dX_getfield (by decide +kernel)) (by decide +kernel), ?_⟩
  refine ⟨sn_getf (C := RX0) (T := TX0) (N := 13) (idx := 150) rfl pin0 (by decide) (by decide) rfl (pmt1 123 rfl (by decide +kernel)) rfl (dX_getfield (by decide +kernel)) (by decide +kernel), ?_⟩
  refine ⟨sn_callV (idx := 220) (C := RX0) (T := TX0) (N := 13) rfl (by decide) cal_89 (pmt4 56 rfl (by decide +kernel)) (pmt4 57 rfl (by decide +kernel)) (pmt4 58 rfl (by decide +kernel)) (dX_invokevirtual (by decide +kernel)) (by decide +kernel), ?_⟩
  refine ⟨sn_if_eq (off := 6) (dX_ifeq (by decide +kernel)) (by decide +kernel) (by decide +kernel), ?_⟩
  refine ⟨sn_bipush (dX_bipush (by decide +kernel)) (by decide +kernel) (by decide +kernel), ?_⟩
  refine ⟨sn_iret rfl (dX_ireturn (by decide +kernel)), ?_⟩
  refine ⟨sn_aload_n (k := 0) (dX_aload_0 (by decide +kernel)) rfl (by decide +kernel), ?_⟩
  refine ⟨sn_getf (C := RX11) (T := TX11) (N := 18) (idx := 44) rfl pin11 (by decide) (by decide) rfl (pmt2 124 rfl (by decide +kernel)) rfl (dX_getfield (by decide +kernel)) (by decide +kernel), ?_⟩
  refine ⟨sn_aload_n (k := 0) (dX_aload_0 (by decide +kernel)) rfl (by decide +kernel), ?_⟩
  refine ⟨sn_getf (C := RX11) (T := TX11) (N := 18) (idx := 93) rfl pin11 (by decide) (by decide) rfl (pmt2 132 rfl (by decide +kernel)) rfl (dX_getfield (by decide +kernel)) (by decide +kernel), ?_⟩
  refine ⟨sn_callV (idx := 357) (C := RX0) (T := TX0) (N := 13) rfl (by decide) cal_83 (pmt5 81 rfl (by decide +kernel)) (pmt5 82 rfl (by decide +kernel)) (pmt5 83 rfl (by decide +kernel)) (dX_invokevirtual (by decide +kernel)) (by decide +kernel), ?_⟩
  refine ⟨sn_if_lt (off := 21) (dX_iflt (by decide +kernel)) (by decide +kernel) (by decide +kernel), ?_⟩
  refine ⟨sn_aload_n (k := 0) (dX_aload_0 (by decide +kernel)) rfl (by decide +kernel), ?_⟩
  refine ⟨sn_getf (C := RX11) (T := TX11) (N := 18) (idx := 82) rfl pin11 (by decide) (by decide) rfl (pmt2 130 rfl (by decide +kernel)) rfl (dX_getfield (by decide +kernel)) (by decide +kernel), ?_⟩
  refine ⟨sn_aload_n (k := 0) (dX_aload_0 (by decide +kernel)) rfl (by decide +kernel), ?_⟩
  refine ⟨sn_getf (C := RX11) (T := TX11) (N := 18) (idx := 44) rfl pin11 (by decide) (by decide) rfl (pmt2 124 rfl (by decide +kernel)) rfl (dX_getfield (by decide +kernel)) (by decide +kernel), ?_⟩
  refine ⟨sn_aload_n (k := 0) (dX_aload_0 (by decide +kernel)) rfl (by decide +kernel), ?_⟩
  refine ⟨sn_getf (C := RX11) (T := TX11) (N := 18) (idx := 93) rfl pin11 (by decide) (by decide) rfl (pmt2 132 rfl (by decide +kernel)) rfl (dX_getfield (by decide +kernel)) (by decide +kernel), ?_⟩
  refine ⟨sn_callV (idx := 393) (C := RX9) (T := TX9) (N := 4) rfl (by decide) cal_156 (pmt5 154 rfl (by decide +kernel)) (pmt5 155 rfl (by decide +kernel)) (pmt5 156 rfl (by decide +kernel)) (dX_invokevirtual (by decide +kernel)) (by decide +kernel), ?_⟩
  refine ⟨sn_if_ne (off := 6) (dX_ifne (by decide +kernel)) (by decide +kernel) (by decide +kernel), ?_⟩
  refine ⟨sn_bipush (dX_bipush (by decide +kernel)) (by decide +kernel) (by decide +kernel), ?_⟩
  refine ⟨sn_iret rfl (dX_ireturn (by decide +kernel)), ?_⟩
  refine ⟨sn_aload_n (k := 0) (dX_aload_0 (by decide +kernel)) rfl (by decide +kernel), ?_⟩
  refine ⟨sn_getf (C := RX11) (T := TX11) (N := 18) (idx := 37) rfl pin11 (by decide) (by decide) rfl (pmt2 123 rfl (by decide +kernel)) rfl (dX_getfield (by decide +kernel)) (by decide +kernel), ?_⟩
  refine ⟨sn_callV (idx := 227) (C := RX4) (T := TX4) (N := 2) rfl (by decide) cal_127 (pmt4 81 rfl (by decide +kernel)) (pmt4 82 rfl (by decide +kernel)) (pmt4 83 rfl (by decide +kernel)) (dX_invokevirtual (by decide +kernel)) (by decide +kernel), ?_⟩
  refine ⟨sn_iconst (dX_iconst_0 (by decide +kernel)) (by decide +kernel), ?_⟩
  refine ⟨sn_istore_n (k := 1) (dX_istore_1 (by decide +kernel)) rfl (by decide) (by decide +kernel), ?_⟩
  refine ⟨sn_iload_n (k := 1) (dX_iload_1 (by decide +kernel)) rfl (by decide +kernel), ?_⟩
  refine ⟨sn_aload_n (k := 0) (dX_aload_0 (by decide +kernel)) rfl (by decide +kernel), ?_⟩
  refine ⟨sn_getf (C := RX11) (T := TX11) (N := 18) (idx := 82) rfl pin11 (by decide) (by decide) rfl (pmt2 130 rfl (by decide +kernel)) rfl (dX_getfield (by decide +kernel)) (by decide +kernel), ?_⟩
  refine ⟨sn_getf (C := RX9) (T := TX9) (N := 4) (idx := 397) rfl pin9 (by decide) (by decide) rfl (pmt2 70 rfl (by decide +kernel)) rfl (dX_getfield (by decide +kernel)) (by decide +kernel), ?_⟩
  refine ⟨sn_icmp_ge (off := 27) (dX_if_icmpge (by decide +kernel)) (by decide +kernel) (by decide +kernel), ?_⟩
  refine ⟨sn_aload_n (k := 0) (dX_aload_0 (by decide +kernel)) rfl (by decide +kernel), ?_⟩
  refine ⟨sn_getf (C := RX11) (T := TX11) (N := 18) (idx := 37) rfl pin11 (by decide) (by decide) rfl (pmt2 123 rfl (by decide +kernel)) rfl (dX_getfield (by decide +kernel)) (by decide +kernel), ?_⟩
  refine ⟨sn_aload_n (k := 0) (dX_aload_0 (by decide +kernel)) rfl (by decide +kernel), ?_⟩
  refine ⟨sn_getf (C := RX11) (T := TX11) (N := 18) (idx := 82) rfl pin11 (by decide) (by decide) rfl (pmt2 130 rfl (by decide +kernel)) rfl (dX_getfield (by decide +kernel)) (by decide +kernel), ?_⟩
  refine ⟨sn_getf (C := RX9) (T := TX9) (N := 4) (idx := 398) rfl pin9 (by decide) (by decide) rfl (pmt2 67 rfl (by decide +kernel)) rfl (dX_getfield (by decide +kernel)) (by decide +kernel), ?_⟩
  refine ⟨sn_iload_n (k := 1) (dX_iload_1 (by decide +kernel)) rfl (by decide +kernel), ?_⟩
  refine ⟨sn_callS (idx := 257) cal_47 (pmt4 24 rfl (by decide +kernel)) (pmt4 25 rfl (by decide +kernel)) (dX_invokestatic (by decide +kernel)) (by decide +kernel), ?_⟩
  refine ⟨sn_callV (idx := 230) (C := RX4) (T := TX4) (N := 2) rfl (by decide) cal_128 (pmt4 85 rfl (by decide +kernel)) (pmt4 86 rfl (by decide +kernel)) (pmt4 87 rfl (by decide +kernel)) (dX_invokevirtual (by decide +kernel)) (by decide +kernel), ?_⟩
  refine ⟨sn_iinc (dX_iinc (by decide +kernel)) (by decide) (by decide +kernel), ?_⟩
  refine ⟨sn_goto (off := -32) (dX_goto (by decide +kernel)) (by decide +kernel), ?_⟩
  refine ⟨sn_aload_n (k := 0) (dX_aload_0 (by decide +kernel)) rfl (by decide +kernel), ?_⟩
  refine ⟨sn_getf (C := RX11) (T := TX11) (N := 18) (idx := 82) rfl pin11 (by decide) (by decide) rfl (pmt2 130 rfl (by decide +kernel)) rfl (dX_getfield (by decide +kernel)) (by decide +kernel), ?_⟩
  refine ⟨sn_getf (C := RX9) (T := TX9) (N := 4) (idx := 397) rfl pin9 (by decide) (by decide) rfl (pmt2 70 rfl (by decide +kernel)) rfl (dX_getfield (by decide +kernel)) (by decide +kernel), ?_⟩
  refine ⟨sn_iret rfl (dX_ireturn (by decide +kernel)), ?_⟩
  trivial
set_option maxRecDepth 100000 in
set_option maxHeartbeats 4000000 in
theorem S_41 : pAll (pSk RX11 cX11_evenings 4 (some .int) PC_41) 0 C_41 := by
  refine ⟨sn_aload_n (k := 0) (dX_aload_0 (by decide +kernel)) rfl (by decide +kernel), ?_⟩
  refine ⟨sn_callV (idx := 401) (C := RX11) (T := TX11) (N := 18) rfl (by decide) cal_61 (pmt5 176 rfl (by decide +kernel)) (pmt5 178 rfl (by decide +kernel)) (pms 32 rfl rfl) (dX_invokevirtual (by decide +kernel)) (by decide +kernel), ?_⟩
  refine ⟨sn_istore_n (k := 1) (dX_istore_1 (by decide +kernel)) rfl (by decide) (by decide +kernel), ?_⟩
  refine ⟨sn_iload_n (k := 1) (dX_iload_1 (by decide +kernel)) rfl (by decide +kernel), ?_⟩
  refine ⟨sn_if_gt (off := 5) (dX_ifgt (by decide +kernel)) (by decide +kernel) (by decide +kernel), ?_⟩
  refine ⟨sn_iload_n (k := 1) (dX_iload_1 (by decide +kernel)) rfl (by decide +kernel), ?_⟩
  refine ⟨sn_iret rfl (dX_ireturn (by decide +kernel)), ?_⟩
  refine ⟨sn_aload_n (k := 0) (dX_aload_0 (by decide +kernel)) rfl (by decide +kernel), ?_⟩
  refine ⟨sn_getf (C := RX11) (T := TX11) (N := 18) (idx := 89) rfl pin11 (by decide) (by decide) rfl (pmt2 131 rfl (by decide +kernel)) rfl (dX_getfield (by decide +kernel)) (by decide +kernel), ?_⟩
  refine ⟨sn_aload_n (k := 0) (dX_aload_0 (by decide +kernel)) rfl (by decide +kernel), ?_⟩
  refine ⟨sn_getf (C := RX11) (T := TX11) (N := 18) (idx := 100) rfl pin11 (by decide) (by decide) rfl (pmt2 137 rfl (by decide +kernel)) rfl (dX_getfield (by decide +kernel)) (by decide +kernel), ?_⟩
  refine ⟨sn_callV (idx := 404) (C := RX2) (T := TX2) (N := 10) rfl (by decide) cal_119 (pmt5 215 rfl (by decide +kernel)) (pmt5 216 rfl (by decide +kernel)) (pmt5 217 rfl (by decide +kernel)) (dX_invokevirtual (by decide +kernel)) (by decide +kernel), ?_⟩
  refine ⟨sn_istore_n (k := 2) (dX_istore_2 (by decide +kernel)) rfl (by decide) (by decide +kernel), ?_⟩
  refine ⟨sn_iload_n (k := 2) (dX_iload_2 (by decide +kernel)) rfl (by decide +kernel), ?_⟩
  refine ⟨sn_if_ge (off := 6) (dX_ifge (by decide +kernel)) (by decide +kernel) (by decide +kernel), ?_⟩
  refine ⟨sn_bipush (dX_bipush (by decide +kernel)) (by decide +kernel) (by decide +kernel), ?_⟩
  refine ⟨sn_iret rfl (dX_ireturn (by decide +kernel)), ?_⟩
  refine ⟨sn_aload_n (k := 0) (dX_aload_0 (by decide +kernel)) rfl (by decide +kernel), ?_⟩
  refine ⟨sn_getf (C := RX11) (T := TX11) (N := 18) (idx := 37) rfl pin11 (by decide) (by decide) rfl (pmt2 123 rfl (by decide +kernel)) rfl (dX_getfield (by decide +kernel)) (by decide +kernel), ?_⟩
  refine ⟨sn_callV (idx := 227) (C := RX4) (T := TX4) (N := 2) rfl (by decide) cal_127 (pmt4 81 rfl (by decide +kernel)) (pmt4 82 rfl (by decide +kernel)) (pmt4 83 rfl (by decide +kernel)) (dX_invokevirtual (by decide +kernel)) (by decide +kernel), ?_⟩
  refine ⟨sn_aload_n (k := 0) (dX_aload_0 (by decide +kernel)) rfl (by decide +kernel), ?_⟩
  refine ⟨sn_getf (C := RX11) (T := TX11) (N := 18) (idx := 37) rfl pin11 (by decide) (by decide) rfl (pmt2 123 rfl (by decide +kernel)) rfl (dX_getfield (by decide +kernel)) (by decide +kernel), ?_⟩
  refine ⟨sn_aload_n (k := 0) (dX_aload_0 (by decide +kernel)) rfl (by decide +kernel), ?_⟩
  refine ⟨sn_getf (C := RX11) (T := TX11) (N := 18) (idx := 89) rfl pin11 (by decide) (by decide) rfl (pmt2 131 rfl (by decide +kernel)) rfl (dX_getfield (by decide +kernel)) (by decide +kernel), ?_⟩
  refine ⟨sn_getf (C := RX2) (T := TX2) (N := 10) (idx := 407) rfl pin2 (by decide) (by decide) rfl (pmt2 96 rfl (by decide +kernel)) rfl (dX_getfield (by decide +kernel)) (by decide +kernel), ?_⟩
  refine ⟨sn_callV (idx := 230) (C := RX4) (T := TX4) (N := 2) rfl (by decide) cal_128 (pmt4 85 rfl (by decide +kernel)) (pmt4 86 rfl (by decide +kernel)) (pmt4 87 rfl (by decide +kernel)) (dX_invokevirtual (by decide +kernel)) (by decide +kernel), ?_⟩
  refine ⟨sn_iconst (dX_iconst_0 (by decide +kernel)) (by decide +kernel), ?_⟩
  refine ⟨sn_istore_n (k := 3) (dX_istore_3 (by decide +kernel)) rfl (by decide) (by decide +kernel), ?_⟩
  refine ⟨sn_iload_n (k := 3) (dX_iload_3 (by decide +kernel)) rfl (by decide +kernel), ?_⟩
  refine ⟨sn_aload_n (k := 0) (dX_aload_0 (by decide +kernel)) rfl (by decide +kernel), ?_⟩
  refine ⟨sn_getf (C := RX11) (T := TX11) (N := 18) (idx := 44) rfl pin11 (by decide) (by decide) rfl (pmt2 124 rfl (by decide +kernel)) rfl (dX_getfield (by decide +kernel)) (by decide +kernel), ?_⟩
  refine ⟨sn_getf (C := RX0) (T := TX0) (N := 13) (idx := 276) rfl pin0 (by decide) (by decide) rfl (pmt1 143 rfl (by decide +kernel)) rfl (dX_getfield (by decide +kernel)) (by decide +kernel), ?_⟩
  refine ⟨sn_icmp_ge (off := 39) (dX_if_icmpge (by decide +kernel)) (by decide +kernel) (by decide +kernel), ?_⟩
  refine ⟨sn_aload_n (k := 0) (dX_aload_0 (by decide +kernel)) rfl (by decide +kernel), ?_⟩
  refine ⟨sn_getf (C := RX11) (T := TX11) (N := 18) (idx := 37) rfl pin11 (by decide) (by decide) rfl (pmt2 123 rfl (by decide +kernel)) rfl (dX_getfield (by decide +kernel)) (by decide +kernel), ?_⟩
  refine ⟨sn_aload_n (k := 0) (dX_aload_0 (by decide +kernel)) rfl (by decide +kernel), ?_⟩
  refine ⟨sn_getf (C := RX11) (T := TX11) (N := 18) (idx := 89) rfl pin11 (by decide) (by decide) rfl (pmt2 131 rfl (by decide +kernel)) rfl (dX_getfield (by decide +kernel)) (by decide +kernel), ?_⟩
  refine ⟨sn_aload_n (k := 0) (dX_aload_0 (by decide +kernel)) rfl (by decide +kernel), ?_⟩
  refine ⟨sn_getf (C := RX11) (T := TX11) (N := 18) (idx := 89) rfl pin11 (by decide) (by decide) rfl (pmt2 131 rfl (by decide +kernel)) rfl (dX_getfield (by decide +kernel)) (by decide +kernel), ?_⟩
  refine ⟨sn_getf (C := RX2) (T := TX2) (N := 10) (idx := 410) rfl pin2 (by decide) (by decide) rfl (pmt2 98 rfl (by decide +kernel)) rfl (dX_getfield (by decide +kernel)) (by decide +kernel), ?_⟩
  refine ⟨sn_aload_n (k := 0) (dX_aload_0 (by decide +kernel)) rfl (by decide +kernel), ?_⟩
  refine ⟨sn_getf (C := RX11) (T := TX11) (N := 18) (idx := 44) rfl pin11 (by decide) (by decide) rfl (pmt2 124 rfl (by decide +kernel)) rfl (dX_getfield (by decide +kernel)) (by decide +kernel), ?_⟩
  refine ⟨sn_getf (C := RX0) (T := TX0) (N := 13) (idx := 182) rfl pin0 (by decide) (by decide) rfl (pmt1 132 rfl (by decide +kernel)) rfl (dX_getfield (by decide +kernel)) (by decide +kernel), ?_⟩
  refine ⟨sn_iload_n (k := 3) (dX_iload_3 (by decide +kernel)) rfl (by decide +kernel), ?_⟩
  refine ⟨sn_iald (dX_iaload (by decide +kernel)) (by decide +kernel), ?_⟩
  refine ⟨sn_callV (idx := 412) (C := RX2) (T := TX2) (N := 10) rfl (by decide) cal_114 (pmt5 236 rfl (by decide +kernel)) (pmt5 202 rfl (by decide +kernel)) (pmt5 203 rfl (by decide +kernel)) (dX_invokevirtual (by decide +kernel)) (by decide +kernel), ?_⟩
  refine ⟨sn_callV (idx := 230) (C := RX4) (T := TX4) (N := 2) rfl (by decide) cal_128 (pmt4 85 rfl (by decide +kernel)) (pmt4 86 rfl (by decide +kernel)) (pmt4 87 rfl (by decide +kernel)) (dX_invokevirtual (by decide +kernel)) (by decide +kernel), ?_⟩
  refine ⟨sn_iinc (dX_iinc (by decide +kernel)) (by decide) (by decide +kernel), ?_⟩
  refine ⟨sn_goto (off := -44) (dX_goto (by decide +kernel)) (by decide +kernel), ?_⟩
  refine ⟨sn_iload_n (k := 2) (dX_iload_2 (by decide +kernel)) rfl (by decide +kernel), ?_⟩
  refine ⟨sn_iret rfl (dX_ireturn (by decide +kernel)), ?_⟩
  trivial
set_option maxRecDepth 100000 in
set_option maxHeartbeats 4000000 in
theorem S_42 : pAll (pSk RX11 cX11_weakest 4 (some .int) PC_42) 0 C_42 := by
  refine ⟨sn_aload_n (k := 0) (dX_aload_0 (by decide +kernel)) rfl (by decide +kernel), ?_⟩
  refine ⟨sn_callV (idx := 401) (C := RX11) (T := TX11) (N := 18) rfl (by decide) cal_61 (pmt5 176 rfl (by decide +kernel)) (pmt5 178 rfl (by decide +kernel)) (pms 32 rfl rfl) (dX_invokevirtual (by decide +kernel)) (by decide +kernel), ?_⟩
  refine ⟨sn_istore_n (k := 1) (dX_istore_1 (by decide +kernel)) rfl (by decide) (by decide +kernel), ?_⟩
  refine ⟨sn_iload_n (k := 1) (dX_iload_1 (by decide +kernel)) rfl (by decide +kernel), ?_⟩
  refine ⟨sn_if_gt (off := 5) (dX_ifgt (by decide +kernel)) (by decide +kernel) (by decide +kernel), ?_⟩
  refine ⟨sn_iload_n (k := 1) (dX_iload_1 (by decide +kernel)) rfl (by decide +kernel), ?_⟩
  refine ⟨sn_iret rfl (dX_ireturn (by decide +kernel)), ?_⟩
  refine ⟨sn_aload_n (k := 0) (dX_aload_0 (by decide +kernel)) rfl (by decide +kernel), ?_⟩
  refine ⟨sn_getf (C := RX11) (T := TX11) (N := 18) (idx := 89) rfl pin11 (by decide) (by decide) rfl (pmt2 131 rfl (by decide +kernel)) rfl (dX_getfield (by decide +kernel)) (by decide +kernel), ?_⟩
  refine ⟨sn_callV (idx := 415) (C := RX2) (T := TX2) (N := 10) rfl (by decide) cal_123 (pmt6 1 rfl (by decide +kernel)) (pmt6 2 rfl (by decide +kernel)) (pmt6 3 rfl (by decide +kernel)) (dX_invokevirtual (by decide +kernel)) (by decide +kernel), ?_⟩
  refine ⟨sn_istore_n (k := 2) (dX_istore_2 (by decide +kernel)) rfl (by decide) (by decide +kernel), ?_⟩
  refine ⟨sn_iload_n (k := 2) (dX_iload_2 (by decide +kernel)) rfl (by decide +kernel), ?_⟩
  refine ⟨sn_sipush (dX_sipush (by decide +kernel)) (by decide +kernel) (by decide +kernel), ?_⟩
  refine ⟨sn_icmp_le (off := 6) (dX_if_icmple (by decide +kernel)) (by decide +kernel) (by decide +kernel), ?_⟩
  refine ⟨sn_bipush (dX_bipush (by decide +kernel)) (by decide +kernel) (by decide +kernel), ?_⟩
  refine ⟨sn_iret rfl (dX_ireturn (by decide +kernel)), ?_⟩
  refine ⟨sn_aload_n (k := 0) (dX_aload_0 (by decide +kernel)) rfl (by decide +kernel), ?_⟩
  refine ⟨sn_getf (C := RX11) (T := TX11) (N := 18) (idx := 89) rfl pin11 (by decide) (by decide) rfl (pmt2 131 rfl (by decide +kernel)) rfl (dX_getfield (by decide +kernel)) (by decide +kernel), ?_⟩
  refine ⟨sn_iload_n (k := 2) (dX_iload_2 (by decide +kernel)) rfl (by decide +kernel), ?_⟩
  refine ⟨sn_callV (idx := 404) (C := RX2) (T := TX2) (N := 10) rfl (by decide) cal_119 (pmt5 215 rfl (by decide +kernel)) (pmt5 216 rfl (by decide +kernel)) (pmt5 217 rfl (by decide +kernel)) (dX_invokevirtual (by decide +kernel)) (by decide +kernel), ?_⟩
  refine ⟨sn_istore_n (k := 3) (dX_istore_3 (by decide +kernel)) rfl (by decide) (by decide +kernel), ?_⟩
  refine ⟨sn_aload_n (k := 0) (dX_aload_0 (by decide +kernel)) rfl (by decide +kernel), ?_⟩
  refine ⟨sn_getf (C := RX11) (T := TX11) (N := 18) (idx := 37) rfl pin11 (by decide) (by decide) rfl (pmt2 123 rfl (by decide +kernel)) rfl (dX_getfield (by decide +kernel)) (by decide +kernel), ?_⟩
  refine ⟨sn_callV (idx := 227) (C := RX4) (T := TX4) (N := 2) rfl (by decide) cal_127 (pmt4 81 rfl (by decide +kernel)) (pmt4 82 rfl (by decide +kernel)) (pmt4 83 rfl (by decide +kernel)) (dX_invokevirtual (by decide +kernel)) (by decide +kernel), ?_⟩
  refine ⟨sn_aload_n (k := 0) (dX_aload_0 (by decide +kernel)) rfl (by decide +kernel), ?_⟩
  refine ⟨sn_getf (C := RX11) (T := TX11) (N := 18) (idx := 37) rfl pin11 (by decide) (by decide) rfl (pmt2 123 rfl (by decide +kernel)) rfl (dX_getfield (by decide +kernel)) (by decide +kernel), ?_⟩
  refine ⟨sn_iload_n (k := 3) (dX_iload_3 (by decide +kernel)) rfl (by decide +kernel), ?_⟩
  refine ⟨sn_callV (idx := 230) (C := RX4) (T := TX4) (N := 2) rfl (by decide) cal_128 (pmt4 85 rfl (by decide +kernel)) (pmt4 86 rfl (by decide +kernel)) (pmt4 87 rfl (by decide +kernel)) (dX_invokevirtual (by decide +kernel)) (by decide +kernel), ?_⟩
  refine ⟨sn_iload_n (k := 2) (dX_iload_2 (by decide +kernel)) rfl (by decide +kernel), ?_⟩
  refine ⟨sn_iret rfl (dX_ireturn (by decide +kernel)), ?_⟩
  trivial
set_option maxRecDepth 100000 in
set_option maxHeartbeats 4000000 in
theorem S_43 : pAll (pSk RX11 cX11_keep 3 (some .boolean) PC_43) 0 C_43 := by
  refine ⟨sn_aload_n (k := 0) (dX_aload_0 (by decide +kernel)) rfl (by decide +kernel), ?_⟩
  refine ⟨sn_iload_n (k := 1) (dX_iload_1 (by decide +kernel)) rfl (by decide +kernel), ?_⟩
  refine ⟨sn_callV (idx := 418) (C := RX11) (T := TX11) (N := 18) rfl (by decide) cal_50 (pmt6 14 rfl (by decide +kernel)) (pmt6 16 rfl (by decide +kernel)) (pms 41 rfl rfl) (dX_invokevirtual (by decide +kernel)) (by decide +kernel), ?_⟩
  refine ⟨sn_astore_n (k := 2) (dX_astore_2 (by decide +kernel)) rfl (by decide) (by decide +kernel), ?_⟩
  refine ⟨sn_aload_n (k := 2) (dX_aload_2 (by decide +kernel)) rfl (by decide +kernel), ?_⟩
  refine ⟨sn_ifnonnull (off := 5) (dX_ifnonnull (by decide +kernel)) (by decide +kernel) (by decide +kernel), ?_⟩
  refine ⟨sn_iconst (dX_iconst_0 (by decide +kernel)) (by decide +kernel), ?_⟩
  refine ⟨sn_zret (Or.inl rfl) (dX_ireturn (by decide +kernel)), ?_⟩
  refine ⟨sn_aload_n (k := 2) (dX_aload_2 (by decide +kernel)) rfl (by decide +kernel), ?_⟩
  refine ⟨sn_aload_n (k := 0) (dX_aload_0 (by decide +kernel)) rfl (by decide +kernel), ?_⟩
  refine ⟨sn_getf (C := RX11) (T := TX11) (N := 18) (idx := 44) rfl pin11 (by decide) (by decide) rfl (pmt2 124 rfl (by decide +kernel)) rfl (dX_getfield (by decide +kernel)) (by decide +kernel), ?_⟩
  refine ⟨sn_aload_n (k := 0) (dX_aload_0 (by decide +kernel)) rfl (by decide +kernel), ?_⟩
  refine ⟨sn_getf (C := RX11) (T := TX11) (N := 18) (idx := 422) rfl pin11 (by decide) (by decide) rfl (pmt2 135 rfl (by decide +kernel)) rfl (dX_getfield (by decide +kernel)) (by decide +kernel), ?_⟩
  refine ⟨sn_aload_n (k := 0) (dX_aload_0 (by decide +kernel)) rfl (by decide +kernel), ?_⟩
  refine ⟨sn_getf (C := RX11) (T := TX11) (N := 18) (idx := 210) rfl pin11 (by decide) (by decide) rfl (pmt2 136 rfl (by decide +kernel)) rfl (dX_getfield (by decide +kernel)) (by decide +kernel), ?_⟩
  refine ⟨sn_callV (idx := 425) (C := RX3) (T := TX3) (N := 6) rfl (by decide) cal_125 (pmt6 18 rfl (by decide +kernel)) (pmt6 19 rfl (by decide +kernel)) (pmt6 20 rfl (by decide +kernel)) (dX_invokevirtual (by decide +kernel)) (by decide +kernel), ?_⟩
  refine ⟨sn_iconst (dX_iconst_1 (by decide +kernel)) (by decide +kernel), ?_⟩
  refine ⟨sn_zret (Or.inl rfl) (dX_ireturn (by decide +kernel)), ?_⟩
  trivial
set_option maxRecDepth 100000 in
set_option maxHeartbeats 4000000 in
theorem S_44 : pAll (pSk RX11 cX11_again 3 (some .boolean) PC_44) 0 C_44 := by
  refine ⟨sn_aload_n (k := 0) (dX_aload_0 (by decide +kernel)) rfl (by decide +kernel), ?_⟩
  refine ⟨sn_iload_n (k := 1) (dX_iload_1 (by decide +kernel)) rfl (by decide +kernel), ?_⟩
  refine ⟨sn_callV (idx := 418) (C := RX11) (T := TX11) (N := 18) rfl (by decide) cal_50 (pmt6 14 rfl (by decide +kernel)) (pmt6 16 rfl (by decide +kernel)) (pms 41 rfl rfl) (dX_invokevirtual (by decide +kernel)) (by decide +kernel), ?_⟩
  refine ⟨sn_astore_n (k := 2) (dX_astore_2 (by decide +kernel)) rfl (by decide) (by decide +kernel), ?_⟩
  refine ⟨sn_aload_n (k := 2) (dX_aload_2 (by decide +kernel)) rfl (by decide +kernel), ?_⟩
  refine ⟨sn_ifnull (off := 14) (dX_ifnull (by decide +kernel)) (by decide +kernel) (by decide +kernel), ?_⟩
  refine ⟨sn_aload_n (k := 2) (dX_aload_2 (by decide +kernel)) rfl (by decide +kernel), ?_⟩
  refine ⟨sn_aload_n (k := 0) (dX_aload_0 (by decide +kernel)) rfl (by decide +kernel), ?_⟩
  refine ⟨sn_getf (C := RX11) (T := TX11) (N := 18) (idx := 44) rfl pin11 (by decide) (by decide) rfl (pmt2 124 rfl (by decide +kernel)) rfl (dX_getfield (by decide +kernel)) (by decide +kernel), ?_⟩
  refine ⟨sn_callV (idx := 429) (C := RX3) (T := TX3) (N := 6) rfl (by decide) cal_126 (pmt6 27 rfl (by decide +kernel)) (pmt6 28 rfl (by decide +kernel)) (pmt6 29 rfl (by decide +kernel)) (dX_invokevirtual (by decide +kernel)) (by decide +kernel), ?_⟩
  refine ⟨sn_if_ne (off := 5) (dX_ifne (by decide +kernel)) (by decide +kernel) (by decide +kernel), ?_⟩
  refine ⟨sn_iconst (dX_iconst_0 (by decide +kernel)) (by decide +kernel), ?_⟩
  refine ⟨sn_zret (Or.inl rfl) (dX_ireturn (by decide +kernel)), ?_⟩
  refine ⟨sn_aload_n (k := 2) (dX_aload_2 (by decide +kernel)) rfl (by decide +kernel), ?_⟩
  refine ⟨sn_getf (C := RX3) (T := TX3) (N := 6) (idx := 433) rfl pin3 (by decide) (by decide) rfl (pmt2 38 rfl (by decide +kernel)) rfl (dX_getfield (by decide +kernel)) (by decide +kernel), ?_⟩
  refine ⟨sn_aload_n (k := 0) (dX_aload_0 (by decide +kernel)) rfl (by decide +kernel), ?_⟩
  refine ⟨sn_getf (C := RX11) (T := TX11) (N := 18) (idx := 44) rfl pin11 (by decide) (by decide) rfl (pmt2 124 rfl (by decide +kernel)) rfl (dX_getfield (by decide +kernel)) (by decide +kernel), ?_⟩
  refine ⟨sn_getf (C := RX0) (T := TX0) (N := 13) (idx := 150) rfl pin0 (by decide) (by decide) rfl (pmt1 123 rfl (by decide +kernel)) rfl (dX_getfield (by decide +kernel)) (by decide +kernel), ?_⟩
  refine ⟨sn_callS (idx := 266) cal_48 (pmt4 131 rfl (by decide +kernel)) (pmt2 200 rfl (by decide +kernel)) (dX_invokestatic (by decide +kernel)) (by decide +kernel), ?_⟩
  refine ⟨sn_aload_n (k := 0) (dX_aload_0 (by decide +kernel)) rfl (by decide +kernel), ?_⟩
  refine ⟨sn_aload_n (k := 2) (dX_aload_2 (by decide +kernel)) rfl (by decide +kernel), ?_⟩
  refine ⟨sn_getf (C := RX3) (T := TX3) (N := 6) (idx := 434) rfl pin3 (by decide) (by decide) rfl (pmt2 43 rfl (by decide +kernel)) rfl (dX_getfield (by decide +kernel)) (by decide +kernel), ?_⟩
  refine ⟨sn_puti (C := RX11) (T := TX11) (N := 18) (idx := 422) rfl pin11 (by decide) (by decide) rfl tyX11 tyX11_ok nmX11 rfl rfl (by decide +kernel) (pmt2 135 rfl (by decide +kernel)) rfl (dX_putfield (by decide +kernel)) (by decide +kernel), ?_⟩
  refine ⟨sn_aload_n (k := 0) (dX_aload_0 (by decide +kernel)) rfl (by decide +kernel), ?_⟩
  refine ⟨sn_aload_n (k := 2) (dX_aload_2 (by decide +kernel)) rfl (by decide +kernel), ?_⟩
  refine ⟨sn_getf (C := RX3) (T := TX3) (N := 6) (idx := 435) rfl pin3 (by decide) (by decide) rfl (pmt2 45 rfl (by decide +kernel)) rfl (dX_getfield (by decide +kernel)) (by decide +kernel), ?_⟩
  refine ⟨sn_puti (C := RX11) (T := TX11) (N := 18) (idx := 210) rfl pin11 (by decide) (by decide) rfl tyX11 tyX11_ok nmX11 rfl rfl (by decide +kernel) (pmt2 136 rfl (by decide +kernel)) rfl (dX_putfield (by decide +kernel)) (by decide +kernel), ?_⟩
  refine ⟨sn_aload_n (k := 0) (dX_aload_0 (by decide +kernel)) rfl (by decide +kernel), ?_⟩
  refine ⟨sn_getf (C := RX11) (T := TX11) (N := 18) (idx := 68) rfl pin11 (by decide) (by decide) rfl (pmt2 128 rfl (by decide +kernel)) rfl (dX_getfield (by decide +kernel)) (by decide +kernel), ?_⟩
  refine ⟨sn_callV (idx := 125) (C := RX5) (T := TX5) (N := 4) rfl (by decide) cal_129 (pmt3 80 rfl (by decide +kernel)) (pmt3 81 rfl (by decide +kernel)) (pmt3 82 rfl (by decide +kernel)) (dX_invokevirtual (by decide +kernel)) (by decide +kernel), ?_⟩
  refine ⟨sn_iconst (dX_iconst_1 (by decide +kernel)) (by decide +kernel), ?_⟩
  refine ⟨sn_zret (Or.inl rfl) (dX_ireturn (by decide +kernel)), ?_⟩
  trivial
set_option maxRecDepth 100000 in
set_option maxHeartbeats 4000000 in
theorem S_45 : pAll (pSk RX11 cX11_count 2 (some .int) PC_45) 0 C_45 := by
  refine ⟨sn_iload_n (k := 1) (dX_iload_1 (by decide +kernel)) rfl (by decide +kernel), ?_⟩
  refine ⟨sn_sw (dflt := 164) (lo := 0) (hi := 11) (offs := #[63, 71, 79, 87, 95, 100, 105, 120, 135, 143, 151, 159]) (len := 63) (by decide +kernel) (by decide) (by decide +kernel) (p_sw_all (by decide +kernel)) (by decide +kernel), ?_⟩
  refine ⟨sn_aload_n (k := 0) (dX_aload_0 (by decide +kernel)) rfl (by decide +kernel), ?_⟩
  refine ⟨sn_getf (C := RX11) (T := TX11) (N := 18) (idx := 44) rfl pin11 (by decide) (by decide) rfl (pmt2 124 rfl (by decide +kernel)) rfl (dX_getfield (by decide +kernel)) (by decide +kernel), ?_⟩
  refine ⟨sn_getf (C := RX0) (T := TX0) (N := 13) (idx := 319) rfl pin0 (by decide) (by decide) rfl (pmt1 137 rfl (by decide +kernel)) rfl (dX_getfield (by decide +kernel)) (by decide +kernel), ?_⟩
  refine ⟨sn_iret rfl (dX_ireturn (by decide +kernel)), ?_⟩
  refine ⟨sn_aload_n (k := 0) (dX_aload_0 (by decide +kernel)) rfl (by decide +kernel), ?_⟩
  refine ⟨sn_getf (C := RX11) (T := TX11) (N := 18) (idx := 44) rfl pin11 (by decide) (by decide) rfl (pmt2 124 rfl (by decide +kernel)) rfl (dX_getfield (by decide +kernel)) (by decide +kernel), ?_⟩
  refine ⟨sn_getf (C := RX0) (T := TX0) (N := 13) (idx := 276) rfl pin0 (by decide) (by decide) rfl (pmt1 143 rfl (by decide +kernel)) rfl (dX_getfield (by decide +kernel)) (by decide +kernel), ?_⟩
  refine ⟨sn_iret rfl (dX_ireturn (by decide +kernel)), ?_⟩
  refine ⟨sn_aload_n (k := 0) (dX_aload_0 (by decide +kernel)) rfl (by decide +kernel), ?_⟩
  refine ⟨sn_getf (C := RX11) (T := TX11) (N := 18) (idx := 44) rfl pin11 (by decide) (by decide) rfl (pmt2 124 rfl (by decide +kernel)) rfl (dX_getfield (by decide +kernel)) (by decide +kernel), ?_⟩
  refine ⟨sn_getf (C := RX0) (T := TX0) (N := 13) (idx := 189) rfl pin0 (by decide) (by decide) rfl (pmt1 146 rfl (by decide +kernel)) rfl (dX_getfield (by decide +kernel)) (by decide +kernel), ?_⟩
  refine ⟨sn_iret rfl (dX_ireturn (by decide +kernel)), ?_⟩
  refine ⟨sn_aload_n (k := 0) (dX_aload_0 (by decide +kernel)) rfl (by decide +kernel), ?_⟩
  refine ⟨sn_getf (C := RX11) (T := TX11) (N := 18) (idx := 44) rfl pin11 (by decide) (by decide) rfl (pmt2 124 rfl (by decide +kernel)) rfl (dX_getfield (by decide +kernel)) (by decide +kernel), ?_⟩
  refine ⟨sn_callV (idx := 436) (C := RX0) (T := TX0) (N := 13) rfl (by decide) cal_75 (pmt6 35 rfl (by decide +kernel)) (pmt6 36 rfl (by decide +kernel)) (pmt6 37 rfl (by decide +kernel)) (dX_invokevirtual (by decide +kernel)) (by decide +kernel), ?_⟩
  refine ⟨sn_iret rfl (dX_ireturn (by decide +kernel)), ?_⟩
  refine ⟨sn_aload_n (k := 0) (dX_aload_0 (by decide +kernel)) rfl (by decide +kernel), ?_⟩
  refine ⟨sn_getf (C := RX11) (T := TX11) (N := 18) (idx := 422) rfl pin11 (by decide) (by decide) rfl (pmt2 135 rfl (by decide +kernel)) rfl (dX_getfield (by decide +kernel)) (by decide +kernel), ?_⟩
  refine ⟨sn_iret rfl (dX_ireturn (by decide +kernel)), ?_⟩
  refine ⟨sn_aload_n (k := 0) (dX_aload_0 (by decide +kernel)) rfl (by decide +kernel), ?_⟩
  refine ⟨sn_getf (C := RX11) (T := TX11) (N := 18) (idx := 210) rfl pin11 (by decide) (by decide) rfl (pmt2 136 rfl (by decide +kernel)) rfl (dX_getfield (by decide +kernel)) (by decide +kernel), ?_⟩
  refine ⟨sn_iret rfl (dX_ireturn (by decide +kernel)), ?_⟩
  refine ⟨sn_aload_n (k := 0) (dX_aload_0 (by decide +kernel)) rfl (by decide +kernel), ?_⟩
  refine ⟨sn_getf (C := RX11) (T := TX11) (N := 18) (idx := 44) rfl pin11 (by decide) (by decide) rfl (pmt2 124 rfl (by decide +kernel)) rfl (dX_getfield (by decide +kernel)) (by decide +kernel), ?_⟩
  refine ⟨sn_aload_n (k := 0) (dX_aload_0 (by decide +kernel)) rfl (by decide +kernel), ?_⟩
  refine ⟨sn_getf (C := RX11) (T := TX11) (N := 18) (idx := 44) rfl pin11 (by decide) (by decide) rfl (pmt2 124 rfl (by decide +kernel)) rfl (dX_getfield (by decide +kernel)) (by decide +kernel), ?_⟩
  refine ⟨sn_getf (C := RX0) (T := TX0) (N := 13) (idx := 150) rfl pin0 (by decide) (by decide) rfl (pmt1 123 rfl (by decide +kernel)) rfl (dX_getfield (by decide +kernel)) (by decide +kernel), ?_⟩
  refine ⟨sn_callV (idx := 220) (C := RX0) (T := TX0) (N := 13) rfl (by decide) cal_89 (pmt4 56 rfl (by decide +kernel)) (pmt4 57 rfl (by decide +kernel)) (pmt4 58 rfl (by decide +kernel)) (dX_invokevirtual (by decide +kernel)) (by decide +kernel), ?_⟩
  refine ⟨sn_iret rfl (dX_ireturn (by decide +kernel)), ?_⟩
  refine ⟨sn_aload_n (k := 0) (dX_aload_0 (by decide +kernel)) rfl (by decide +kernel), ?_⟩
  refine ⟨sn_getf (C := RX11) (T := TX11) (N := 18) (idx := 44) rfl pin11 (by decide) (by decide) rfl (pmt2 124 rfl (by decide +kernel)) rfl (dX_getfield (by decide +kernel)) (by decide +kernel), ?_⟩
  refine ⟨sn_aload_n (k := 0) (dX_aload_0 (by decide +kernel)) rfl (by decide +kernel), ?_⟩
  refine ⟨sn_getf (C := RX11) (T := TX11) (N := 18) (idx := 44) rfl pin11 (by decide) (by decide) rfl (pmt2 124 rfl (by decide +kernel)) rfl (dX_getfield (by decide +kernel)) (by decide +kernel), ?_⟩
  refine ⟨sn_getf (C := RX0) (T := TX0) (N := 13) (idx := 150) rfl pin0 (by decide) (by decide) rfl (pmt1 123 rfl (by decide +kernel)) rfl (dX_getfield (by decide +kernel)) (by decide +kernel), ?_⟩
  refine ⟨sn_callV (idx := 224) (C := RX0) (T := TX0) (N := 13) rfl (by decide) cal_88 (pmt4 69 rfl (by decide +kernel)) (pmt4 70 rfl (by decide +kernel)) (pmt4 71 rfl (by decide +kernel)) (dX_invokevirtual (by decide +kernel)) (by decide +kernel), ?_⟩
  refine ⟨sn_iret rfl (dX_ireturn (by decide +kernel)), ?_⟩
  refine ⟨sn_aload_n (k := 0) (dX_aload_0 (by decide +kernel)) rfl (by decide +kernel), ?_⟩
  refine ⟨sn_getf (C := RX11) (T := TX11) (N := 18) (idx := 68) rfl pin11 (by decide) (by decide) rfl (pmt2 128 rfl (by decide +kernel)) rfl (dX_getfield (by decide +kernel)) (by decide +kernel), ?_⟩
  refine ⟨sn_getf (C := RX5) (T := TX5) (N := 4) (idx := 251) rfl pin5 (by decide) (by decide) rfl (pmt2 20 rfl (by decide +kernel)) rfl (dX_getfield (by decide +kernel)) (by decide +kernel), ?_⟩
  refine ⟨sn_iret rfl (dX_ireturn (by decide +kernel)), ?_⟩
  refine ⟨sn_aload_n (k := 0) (dX_aload_0 (by decide +kernel)) rfl (by decide +kernel), ?_⟩
  refine ⟨sn_getf (C := RX11) (T := TX11) (N := 18) (idx := 37) rfl pin11 (by decide) (by decide) rfl (pmt2 123 rfl (by decide +kernel)) rfl (dX_getfield (by decide +kernel)) (by decide +kernel), ?_⟩
  refine ⟨sn_getf (C := RX4) (T := TX4) (N := 2) (idx := 439) rfl pin4 (by decide) (by decide) rfl (pmt1 93 rfl (by decide +kernel)) rfl (dX_getfield (by decide +kernel)) (by decide +kernel), ?_⟩
  refine ⟨sn_iret rfl (dX_ireturn (by decide +kernel)), ?_⟩
  refine ⟨sn_aload_n (k := 0) (dX_aload_0 (by decide +kernel)) rfl (by decide +kernel), ?_⟩
  refine ⟨sn_getf (C := RX11) (T := TX11) (N := 18) (idx := 10) rfl pin11 (by decide) (by decide) rfl (pmt2 120 rfl (by decide +kernel)) rfl (dX_getfield (by decide +kernel)) (by decide +kernel), ?_⟩
  refine ⟨sn_getf (C := RX8) (T := TX8) (N := 2) (idx := 108) rfl pin8 (by decide) (by decide) rfl (pmt1 43 rfl (by decide +kernel)) rfl (dX_getfield (by decide +kernel)) (by decide +kernel), ?_⟩
  refine ⟨sn_iret rfl (dX_ireturn (by decide +kernel)), ?_⟩
  refine ⟨sn_aload_n (k := 0) (dX_aload_0 (by decide +kernel)) rfl (by decide +kernel), ?_⟩
  refine ⟨sn_getf (C := RX11) (T := TX11) (N := 18) (idx := 100) rfl pin11 (by decide) (by decide) rfl (pmt2 137 rfl (by decide +kernel)) rfl (dX_getfield (by decide +kernel)) (by decide +kernel), ?_⟩
  refine ⟨sn_iret rfl (dX_ireturn (by decide +kernel)), ?_⟩
  refine ⟨sn_iconst (dX_iconst_m1 (by decide +kernel)) (by decide +kernel), ?_⟩
  refine ⟨sn_iret rfl (dX_ireturn (by decide +kernel)), ?_⟩
  trivial
set_option maxRecDepth 100000 in
set_option maxHeartbeats 4000000 in
theorem S_46 : pAll (pSk RX11 cX11_row 2 (some .int) PC_46) 0 C_46 := by
  refine ⟨sn_iload_n (k := 1) (dX_iload_1 (by decide +kernel)) rfl (by decide +kernel), ?_⟩
  refine ⟨sn_if_lt (off := 14) (dX_iflt (by decide +kernel)) (by decide +kernel) (by decide +kernel), ?_⟩
  refine ⟨sn_iload_n (k := 1) (dX_iload_1 (by decide +kernel)) rfl (by decide +kernel), ?_⟩
  refine ⟨sn_aload_n (k := 0) (dX_aload_0 (by decide +kernel)) rfl (by decide +kernel), ?_⟩
  refine ⟨sn_getf (C := RX11) (T := TX11) (N := 18) (idx := 37) rfl pin11 (by decide) (by decide) rfl (pmt2 123 rfl (by decide +kernel)) rfl (dX_getfield (by decide +kernel)) (by decide +kernel), ?_⟩
  refine ⟨sn_getf (C := RX4) (T := TX4) (N := 2) (idx := 439) rfl pin4 (by decide) (by decide) rfl (pmt1 93 rfl (by decide +kernel)) rfl (dX_getfield (by decide +kernel)) (by decide +kernel), ?_⟩
  refine ⟨sn_icmp_lt (off := 14) (dX_if_icmplt (by decide +kernel)) (by decide +kernel) (by decide +kernel), ?_⟩
  refine ⟨sn_none, ?_⟩
  refine ⟨sn_dup (dX_dup (by decide +kernel)) (by decide +kernel), ?_⟩
  refine ⟨sn_none, ?_⟩
  refine ⟨sn_none, ?_⟩
  refine ⟨sn_none, ?_⟩
  refine ⟨sn_aload_n (k := 0) (dX_aload_0 (by decide +kernel)) rfl (by decide +kernel), ?_⟩
  refine ⟨sn_getf (C := RX11) (T := TX11) (N := 18) (idx := 37) rfl pin11 (by decide) (by decide) rfl (pmt2 123 rfl (by decide +kernel)) rfl (dX_getfield (by decide +kernel)) (by decide +kernel), ?_⟩
  refine ⟨sn_getf (C := RX4) (T := TX4) (N := 2) (idx := 442) rfl pin4 (by decide) (by decide) rfl (pmt1 91 rfl (by decide +kernel)) rfl (dX_getfield (by decide +kernel)) (by decide +kernel), ?_⟩
  refine ⟨sn_iload_n (k := 1) (dX_iload_1 (by decide +kernel)) rfl (by decide +kernel), ?_⟩
  refine ⟨sn_callS (idx := 257) cal_47 (pmt4 24 rfl (by decide +kernel)) (pmt4 25 rfl (by decide +kernel)) (dX_invokestatic (by decide +kernel)) (by decide +kernel), ?_⟩
  refine ⟨sn_iret rfl (dX_ireturn (by decide +kernel)), ?_⟩
  trivial
set_option maxRecDepth 100000 in
set_option maxHeartbeats 4000000 in
theorem S_47 : pAll (pSk RX11 cX11_numberAt 2 (some .int) PC_47) 0 C_47 := by
  refine ⟨sn_iload_n (k := 1) (dX_iload_1 (by decide +kernel)) rfl (by decide +kernel), ?_⟩
  refine ⟨sn_if_lt (off := 15) (dX_iflt (by decide +kernel)) (by decide +kernel) (by decide +kernel), ?_⟩
  refine ⟨sn_iload_n (k := 1) (dX_iload_1 (by decide +kernel)) rfl (by decide +kernel), ?_⟩
  refine ⟨sn_aload_n (k := 0) (dX_aload_0 (by decide +kernel)) rfl (by decide +kernel), ?_⟩
  refine ⟨sn_alen (dX_arraylength (by decide +kernel)) (by decide +kernel), ?_⟩
  refine ⟨sn_icmp_ge (off := 9) (dX_if_icmpge (by decide +kernel)) (by decide +kernel) (by decide +kernel), ?_⟩
  refine ⟨sn_aload_n (k := 0) (dX_aload_0 (by decide +kernel)) rfl (by decide +kernel), ?_⟩
  refine ⟨sn_iload_n (k := 1) (dX_iload_1 (by decide +kernel)) rfl (by decide +kernel), ?_⟩
  refine ⟨sn_iald (dX_iaload (by decide +kernel)) (by decide +kernel), ?_⟩
  refine ⟨sn_goto (off := 4) (dX_goto (by decide +kernel)) (by decide +kernel), ?_⟩
  refine ⟨sn_iconst (dX_iconst_0 (by decide +kernel)) (by decide +kernel), ?_⟩
  refine ⟨sn_iret rfl (dX_ireturn (by decide +kernel)), ?_⟩
  trivial
set_option maxRecDepth 100000 in
set_option maxHeartbeats 4000000 in
theorem S_48 : pAll (pSk RX11 cX11_copy 3 none PC_48) 0 C_48 := by
  refine ⟨sn_iconst (dX_iconst_0 (by decide +kernel)) (by decide +kernel), ?_⟩
  refine ⟨sn_istore_n (k := 2) (dX_istore_2 (by decide +kernel)) rfl (by decide) (by decide +kernel), ?_⟩
  refine ⟨sn_iload_n (k := 2) (dX_iload_2 (by decide +kernel)) rfl (by decide +kernel), ?_⟩
  refine ⟨sn_aload_n (k := 0) (dX_aload_0 (by decide +kernel)) rfl (by decide +kernel), ?_⟩
  refine ⟨sn_alen (dX_arraylength (by decide +kernel)) (by decide +kernel), ?_⟩
  refine ⟨sn_icmp_ge (off := 21) (dX_if_icmpge (by decide +kernel)) (by decide +kernel) (by decide +kernel), ?_⟩
  refine ⟨sn_iload_n (k := 2) (dX_iload_2 (by decide +kernel)) rfl (by decide +kernel), ?_⟩
  refine ⟨sn_aload_n (k := 1) (dX_aload_1 (by decide +kernel)) rfl (by decide +kernel), ?_⟩
  refine ⟨sn_alen (dX_arraylength (by decide +kernel)) (by decide +kernel), ?_⟩
  refine ⟨sn_icmp_ge (off := 15) (dX_if_icmpge (by decide +kernel)) (by decide +kernel) (by decide +kernel), ?_⟩
  refine ⟨sn_aload_n (k := 1) (dX_aload_1 (by decide +kernel)) rfl (by decide +kernel), ?_⟩
  refine ⟨sn_iload_n (k := 2) (dX_iload_2 (by decide +kernel)) rfl (by decide +kernel), ?_⟩
  refine ⟨sn_aload_n (k := 0) (dX_aload_0 (by decide +kernel)) rfl (by decide +kernel), ?_⟩
  refine ⟨sn_iload_n (k := 2) (dX_iload_2 (by decide +kernel)) rfl (by decide +kernel), ?_⟩
  refine ⟨sn_iald (dX_iaload (by decide +kernel)) (by decide +kernel), ?_⟩
  refine ⟨sn_iast (dX_iastore (by decide +kernel)) (by decide +kernel), ?_⟩
  refine ⟨sn_iinc (dX_iinc (by decide +kernel)) (by decide) (by decide +kernel), ?_⟩
  refine ⟨sn_goto (off := -21) (dX_goto (by decide +kernel)) (by decide +kernel), ?_⟩
  refine ⟨sn_vret rfl (dX_return (by decide +kernel)), ?_⟩
  trivial
set_option maxRecDepth 100000 in
set_option maxHeartbeats 4000000 in
theorem S_49 : pAll (pSk RX11 cX11_has 2 (some .boolean) PC_49) 0 C_49 := by
  refine ⟨sn_iload_n (k := 0) (dX_iload_0 (by decide +kernel)) rfl (by decide +kernel), ?_⟩
  refine ⟨sn_iload_n (k := 1) (dX_iload_1 (by decide +kernel)) rfl (by decide +kernel), ?_⟩
  refine ⟨sn_ishr (dX_ishr (by decide +kernel)) (by decide +kernel), ?_⟩
  refine ⟨sn_iconst (dX_iconst_1 (by decide +kernel)) (by decide +kernel), ?_⟩
  refine ⟨sn_iand (dX_iand (by decide +kernel)) (by decide +kernel), ?_⟩
  refine ⟨sn_iconst (dX_iconst_1 (by decide +kernel)) (by decide +kernel), ?_⟩
  refine ⟨sn_icmp_ne (off := 7) (dX_if_icmpne (by decide +kernel)) (by decide +kernel) (by decide +kernel), ?_⟩
  refine ⟨sn_iconst (dX_iconst_1 (by decide +kernel)) (by decide +kernel), ?_⟩
  refine ⟨sn_goto (off := 4) (dX_goto (by decide +kernel)) (by decide +kernel), ?_⟩
  refine ⟨sn_iconst (dX_iconst_0 (by decide +kernel)) (by decide +kernel), ?_⟩
  refine ⟨sn_zret (Or.inl rfl) (dX_ireturn (by decide +kernel)), ?_⟩
  trivial
set_option maxRecDepth 100000 in
set_option maxHeartbeats 4000000 in
theorem S_50 : pAll (pSk RX11 cX11_keptAt 2 (some (.object "SetsStayTogether$Kept")) PC_50) 0 C_50 := by
  refine ⟨sn_iload_n (k := 1) (dX_iload_1 (by decide +kernel)) rfl (by decide +kernel), ?_⟩
  refine ⟨sn_if_lt (off := 21) (dX_iflt (by decide +kernel)) (by decide +kernel) (by decide +kernel), ?_⟩
  refine ⟨sn_iload_n (k := 1) (dX_iload_1 (by decide +kernel)) rfl (by decide +kernel), ?_⟩
  refine ⟨sn_aload_n (k := 0) (dX_aload_0 (by decide +kernel)) rfl (by decide +kernel), ?_⟩
  refine ⟨sn_getf (C := RX11) (T := TX11) (N := 18) (idx := 75) rfl pin11 (by decide) (by decide) rfl (pmt2 129 rfl (by decide +kernel)) rfl (dX_getfield (by decide +kernel)) (by decide +kernel), ?_⟩
  refine ⟨sn_alen (dX_arraylength (by decide +kernel)) (by decide +kernel), ?_⟩
  refine ⟨sn_icmp_ge (off := 12) (dX_if_icmpge (by decide +kernel)) (by decide +kernel) (by decide +kernel), ?_⟩
  refine ⟨sn_aload_n (k := 0) (dX_aload_0 (by decide +kernel)) rfl (by decide +kernel), ?_⟩
  refine ⟨sn_getf (C := RX11) (T := TX11) (N := 18) (idx := 75) rfl pin11 (by decide) (by decide) rfl (pmt2 129 rfl (by decide +kernel)) rfl (dX_getfield (by decide +kernel)) (by decide +kernel), ?_⟩
  refine ⟨sn_iload_n (k := 1) (dX_iload_1 (by decide +kernel)) rfl (by decide +kernel), ?_⟩
  refine ⟨sn_aald (dX_aaload (by decide +kernel)) (by decide +kernel), ?_⟩
  refine ⟨sn_goto (off := 4) (dX_goto (by decide +kernel)) (by decide +kernel), ?_⟩
  refine ⟨sn_null (dX_aconst_null (by decide +kernel)) (by decide +kernel), ?_⟩
  refine ⟨sn_aret ⟨_, rfl⟩ (dX_areturn (by decide +kernel)), ?_⟩
  trivial
set_option maxRecDepth 100000 in
set_option maxHeartbeats 4000000 in
theorem S_51 : pAll (pSk RX11 cX11_attempt 6 (some .int) PC_51) 0 C_51 := by
  refine ⟨sn_aload_n (k := 0) (dX_aload_0 (by decide +kernel)) rfl (by decide +kernel), ?_⟩
  refine ⟨sn_getf (C := RX11) (T := TX11) (N := 18) (idx := 44) rfl pin11 (by decide) (by decide) rfl (pmt2 124 rfl (by decide +kernel)) rfl (dX_getfield (by decide +kernel)) (by decide +kernel), ?_⟩
  refine ⟨sn_iload_n (k := 1) (dX_iload_1 (by decide +kernel)) rfl (by decide +kernel), ?_⟩
  refine ⟨sn_callV (idx := 164) (C := RX0) (T := TX0) (N := 13) rfl (by decide) cal_64 (pmt4 19 rfl (by decide +kernel)) (pmt4 20 rfl (by decide +kernel)) (pmt4 21 rfl (by decide +kernel)) (dX_invokevirtual (by decide +kernel)) (by decide +kernel), ?_⟩
  refine ⟨sn_if_eq (off := 14) (dX_ifeq (by decide +kernel)) (by decide +kernel) (by decide +kernel), ?_⟩
  refine ⟨sn_aload_n (k := 0) (dX_aload_0 (by decide +kernel)) rfl (by decide +kernel), ?_⟩
  refine ⟨sn_getf (C := RX11) (T := TX11) (N := 18) (idx := 44) rfl pin11 (by decide) (by decide) rfl (pmt2 124 rfl (by decide +kernel)) rfl (dX_getfield (by decide +kernel)) (by decide +kernel), ?_⟩
  refine ⟨sn_iload_n (k := 2) (dX_iload_2 (by decide +kernel)) rfl (by decide +kernel), ?_⟩
  refine ⟨sn_callV (idx := 137) (C := RX0) (T := TX0) (N := 13) rfl (by decide) cal_63 (pmt4 23 rfl (by decide +kernel)) (pmt3 25 rfl (by decide +kernel)) (pmt3 26 rfl (by decide +kernel)) (dX_invokevirtual (by decide +kernel)) (by decide +kernel), ?_⟩
  refine ⟨sn_if_ne (off := 5) (dX_ifne (by decide +kernel)) (by decide +kernel) (by decide +kernel), ?_⟩
  refine ⟨sn_iconst (dX_iconst_m1 (by decide +kernel)) (by decide +kernel), ?_⟩
  refine ⟨sn_iret rfl (dX_ireturn (by decide +kernel)), ?_⟩
  refine ⟨sn_aload_n (k := 0) (dX_aload_0 (by decide +kernel)) rfl (by decide +kernel), ?_⟩
  refine ⟨sn_getf (C := RX11) (T := TX11) (N := 18) (idx := 44) rfl pin11 (by decide) (by decide) rfl (pmt2 124 rfl (by decide +kernel)) rfl (dX_getfield (by decide +kernel)) (by decide +kernel), ?_⟩
  refine ⟨sn_iload_n (k := 1) (dX_iload_1 (by decide +kernel)) rfl (by decide +kernel), ?_⟩
  refine ⟨sn_aload_n (k := 3) (dX_aload_3 (by decide +kernel)) rfl (by decide +kernel), ?_⟩
  refine ⟨sn_iload_n (k := 1) (dX_iload_1 (by decide +kernel)) rfl (by decide +kernel), ?_⟩
  refine ⟨sn_callS (idx := 257) cal_47 (pmt4 24 rfl (by decide +kernel)) (pmt4 25 rfl (by decide +kernel)) (dX_invokestatic (by decide +kernel)) (by decide +kernel), ?_⟩
  refine ⟨sn_iload_n (k := 2) (dX_iload_2 (by decide +kernel)) rfl (by decide +kernel), ?_⟩
  refine ⟨sn_callV (idx := 445) (C := RX0) (T := TX0) (N := 13) rfl (by decide) cal_82 (pmt4 27 rfl (by decide +kernel)) (pmt4 28 rfl (by decide +kernel)) (pmt4 29 rfl (by decide +kernel)) (dX_invokevirtual (by decide +kernel)) (by decide +kernel), ?_⟩
  refine ⟨sn_istore (dX_istore (by decide +kernel)) (by decide) (by decide +kernel), ?_⟩
  refine ⟨sn_iload (dX_iload (by decide +kernel)) (by decide +kernel), ?_⟩
  refine ⟨sn_if_ge (off := 6) (dX_ifge (by decide +kernel)) (by decide +kernel) (by decide +kernel), ?_⟩
  refine ⟨sn_bipush (dX_bipush (by decide +kernel)) (by decide +kernel) (by decide +kernel), ?_⟩
  refine ⟨sn_iret rfl (dX_ireturn (by decide +kernel)), ?_⟩
  refine ⟨sn_iload (dX_iload (by decide +kernel)) (by decide +kernel), ?_⟩
  refine ⟨sn_iload (dX_iload (by decide +kernel)) (by decide +kernel), ?_⟩
  refine ⟨sn_iadd (dX_iadd (by decide +kernel)) (by decide +kernel), ?_⟩
  refine ⟨sn_aload_n (k := 0) (dX_aload_0 (by decide +kernel)) rfl (by decide +kernel), ?_⟩
  refine ⟨sn_getf (C := RX11) (T := TX11) (N := 18) (idx := 100) rfl pin11 (by decide) (by decide) rfl (pmt2 137 rfl (by decide +kernel)) rfl (dX_getfield (by decide +kernel)) (by decide +kernel), ?_⟩
  refine ⟨sn_icmp_le (off := 8) (dX_if_icmple (by decide +kernel)) (by decide +kernel) (by decide +kernel), ?_⟩
  refine ⟨sn_bipush (dX_bipush (by decide +kernel)) (by decide +kernel) (by decide +kernel), ?_⟩
  refine ⟨sn_goto (off := 5) (dX_goto (by decide +kernel)) (by decide +kernel), ?_⟩
  refine ⟨sn_iload (dX_iload (by decide +kernel)) (by decide +kernel), ?_⟩
  refine ⟨sn_iret rfl (dX_ireturn (by decide +kernel)), ?_⟩
  trivial
set_option maxRecDepth 100000 in
set_option maxHeartbeats 4000000 in
theorem S_52 : pAll (pSk RX11 cX11_bring 4 none PC_52) 0 C_52 := by
  refine ⟨sn_aload_n (k := 0) (dX_aload_0 (by decide +kernel)) rfl (by decide +kernel), ?_⟩
  refine ⟨sn_getf (C := RX11) (T := TX11) (N := 18) (idx := 44) rfl pin11 (by decide) (by decide) rfl (pmt2 124 rfl (by decide +kernel)) rfl (dX_getfield (by decide +kernel)) (by decide +kernel), ?_⟩
  refine ⟨sn_iload_n (k := 1) (dX_iload_1 (by decide +kernel)) rfl (by decide +kernel), ?_⟩
  refine ⟨sn_callV (idx := 164) (C := RX0) (T := TX0) (N := 13) rfl (by decide) cal_64 (pmt4 19 rfl (by decide +kernel)) (pmt4 20 rfl (by decide +kernel)) (pmt4 21 rfl (by decide +kernel)) (dX_invokevirtual (by decide +kernel)) (by decide +kernel), ?_⟩
  refine ⟨sn_if_eq (off := 44) (dX_ifeq (by decide +kernel)) (by decide +kernel) (by decide +kernel), ?_⟩
  refine ⟨sn_aload_n (k := 0) (dX_aload_0 (by decide +kernel)) rfl (by decide +kernel), ?_⟩
  refine ⟨sn_getf (C := RX11) (T := TX11) (N := 18) (idx := 68) rfl pin11 (by decide) (by decide) rfl (pmt2 128 rfl (by decide +kernel)) rfl (dX_getfield (by decide +kernel)) (by decide +kernel), ?_⟩
  refine ⟨sn_iload_n (k := 1) (dX_iload_1 (by decide +kernel)) rfl (by decide +kernel), ?_⟩
  refine ⟨sn_aload_n (k := 0) (dX_aload_0 (by decide +kernel)) rfl (by decide +kernel), ?_⟩
  refine ⟨sn_getf (C := RX11) (T := TX11) (N := 18) (idx := 44) rfl pin11 (by decide) (by decide) rfl (pmt2 124 rfl (by decide +kernel)) rfl (dX_getfield (by decide +kernel)) (by decide +kernel), ?_⟩
  refine ⟨sn_getf (C := RX0) (T := TX0) (N := 13) (idx := 150) rfl pin0 (by decide) (by decide) rfl (pmt1 123 rfl (by decide +kernel)) rfl (dX_getfield (by decide +kernel)) (by decide +kernel), ?_⟩
  refine ⟨sn_iload_n (k := 1) (dX_iload_1 (by decide +kernel)) rfl (by decide +kernel), ?_⟩
  refine ⟨sn_iald (dX_iaload (by decide +kernel)) (by decide +kernel), ?_⟩
  refine ⟨sn_aload_n (k := 0) (dX_aload_0 (by decide +kernel)) rfl (by decide +kernel), ?_⟩
  refine ⟨sn_getf (C := RX11) (T := TX11) (N := 18) (idx := 210) rfl pin11 (by decide) (by decide) rfl (pmt2 136 rfl (by decide +kernel)) rfl (dX_getfield (by decide +kernel)) (by decide +kernel), ?_⟩
  refine ⟨sn_callV (idx := 448) (C := RX5) (T := TX5) (N := 4) rfl (by decide) cal_130 (pmt4 44 rfl (by decide +kernel)) (pmt4 45 rfl (by decide +kernel)) (pmt4 46 rfl (by decide +kernel)) (dX_invokevirtual (by decide +kernel)) (by decide +kernel), ?_⟩
  refine ⟨sn_aload_n (k := 0) (dX_aload_0 (by decide +kernel)) rfl (by decide +kernel), ?_⟩
  refine ⟨sn_getf (C := RX11) (T := TX11) (N := 18) (idx := 44) rfl pin11 (by decide) (by decide) rfl (pmt2 124 rfl (by decide +kernel)) rfl (dX_getfield (by decide +kernel)) (by decide +kernel), ?_⟩
  refine ⟨sn_getf (C := RX0) (T := TX0) (N := 13) (idx := 150) rfl pin0 (by decide) (by decide) rfl (pmt1 123 rfl (by decide +kernel)) rfl (dX_getfield (by decide +kernel)) (by decide +kernel), ?_⟩
  refine ⟨sn_iload_n (k := 1) (dX_iload_1 (by decide +kernel)) rfl (by decide +kernel), ?_⟩
  refine ⟨sn_iload_n (k := 2) (dX_iload_2 (by decide +kernel)) rfl (by decide +kernel), ?_⟩
  refine ⟨sn_iast (dX_iastore (by decide +kernel)) (by decide +kernel), ?_⟩
  refine ⟨sn_aload_n (k := 0) (dX_aload_0 (by decide +kernel)) rfl (by decide +kernel), ?_⟩
  refine ⟨sn_dup (dX_dup (by decide +kernel)) (by decide +kernel), ?_⟩
  refine ⟨sn_getf (C := RX11) (T := TX11) (N := 18) (idx := 210) rfl pin11 (by decide) (by decide) rfl (pmt2 136 rfl (by decide +kernel)) rfl (dX_getfield (by decide +kernel)) (by decide +kernel), ?_⟩
  refine ⟨sn_iload_n (k := 3) (dX_iload_3 (by decide +kernel)) rfl (by decide +kernel), ?_⟩
  refine ⟨sn_iadd (dX_iadd (by decide +kernel)) (by decide +kernel), ?_⟩
  refine ⟨sn_puti (C := RX11) (T := TX11) (N := 18) (idx := 210) rfl pin11 (by decide) (by decide) rfl tyX11 tyX11_ok nmX11 rfl rfl (by decide +kernel) (pmt2 136 rfl (by decide +kernel)) rfl (dX_putfield (by decide +kernel)) (by decide +kernel), ?_⟩
  refine ⟨sn_vret rfl (dX_return (by decide +kernel)), ?_⟩
  trivial
set_option maxRecDepth 100000 in
set_option maxHeartbeats 4000000 in
theorem S_53 : pAll (pSk RX11 cX11_sleep 1 (some .int) PC_53) 0 C_53 := by
  refine ⟨sn_aload_n (k := 0) (dX_aload_0 (by decide +kernel)) rfl (by decide +kernel), ?_⟩
  refine ⟨sn_dup (dX_dup (by decide +kernel)) (by decide +kernel), ?_⟩
  refine ⟨sn_getf (C := RX11) (T := TX11) (N := 18) (idx := 422) rfl pin11 (by decide) (by decide) rfl (pmt2 135 rfl (by decide +kernel)) rfl (dX_getfield (by decide +kernel)) (by decide +kernel), ?_⟩
  refine ⟨sn_iconst (dX_iconst_1 (by decide +kernel)) (by decide +kernel), ?_⟩
  refine ⟨sn_iadd (dX_iadd (by decide +kernel)) (by decide +kernel), ?_⟩
  refine ⟨sn_puti (C := RX11) (T := TX11) (N := 18) (idx := 422) rfl pin11 (by decide) (by decide) rfl tyX11 tyX11_ok nmX11 rfl rfl (by decide +kernel) (pmt2 135 rfl (by decide +kernel)) rfl (dX_putfield (by decide +kernel)) (by decide +kernel), ?_⟩
  refine ⟨sn_aload_n (k := 0) (dX_aload_0 (by decide +kernel)) rfl (by decide +kernel), ?_⟩
  refine ⟨sn_iconst (dX_iconst_0 (by decide +kernel)) (by decide +kernel), ?_⟩
  refine ⟨sn_puti (C := RX11) (T := TX11) (N := 18) (idx := 210) rfl pin11 (by decide) (by decide) rfl tyX11 tyX11_ok nmX11 rfl rfl (by decide +kernel) (pmt2 136 rfl (by decide +kernel)) rfl (dX_putfield (by decide +kernel)) (by decide +kernel), ?_⟩
  refine ⟨sn_aload_n (k := 0) (dX_aload_0 (by decide +kernel)) rfl (by decide +kernel), ?_⟩
  refine ⟨sn_getf (C := RX11) (T := TX11) (N := 18) (idx := 68) rfl pin11 (by decide) (by decide) rfl (pmt2 128 rfl (by decide +kernel)) rfl (dX_getfield (by decide +kernel)) (by decide +kernel), ?_⟩
  refine ⟨sn_callV (idx := 125) (C := RX5) (T := TX5) (N := 4) rfl (by decide) cal_129 (pmt3 80 rfl (by decide +kernel)) (pmt3 81 rfl (by decide +kernel)) (pmt3 82 rfl (by decide +kernel)) (dX_invokevirtual (by decide +kernel)) (by decide +kernel), ?_⟩
  refine ⟨sn_iconst (dX_iconst_1 (by decide +kernel)) (by decide +kernel), ?_⟩
  refine ⟨sn_iret rfl (dX_ireturn (by decide +kernel)), ?_⟩
  trivial
set_option maxRecDepth 100000 in
set_option maxHeartbeats 4000000 in
theorem S_54 : pAll (pSk RX11 cX11_dayFault 2 (some .int) PC_54) 0 C_54 := by
  refine ⟨sn_aload_n (k := 0) (dX_aload_0 (by decide +kernel)) rfl (by decide +kernel), ?_⟩
  refine ⟨sn_getf (C := RX11) (T := TX11) (N := 18) (idx := 21) rfl pin11 (by decide) (by decide) rfl (pmt2 121 rfl (by decide +kernel)) rfl (dX_getfield (by decide +kernel)) (by decide +kernel), ?_⟩
  refine ⟨sn_bipush (dX_bipush (by decide +kernel)) (by decide +kernel) (by decide +kernel), ?_⟩
  refine ⟨sn_callV (idx := 449) (C := RX6) (T := TX6) (N := 4) rfl (by decide) cal_132 (pmt4 101 rfl (by decide +kernel)) (pmt2 207 rfl (by decide +kernel)) (pmt2 208 rfl (by decide +kernel)) (dX_invokevirtual (by decide +kernel)) (by decide +kernel), ?_⟩
  refine ⟨sn_aload_n (k := 0) (dX_aload_0 (by decide +kernel)) rfl (by decide +kernel), ?_⟩
  refine ⟨sn_getf (C := RX11) (T := TX11) (N := 18) (idx := 10) rfl pin11 (by decide) (by decide) rfl (pmt2 120 rfl (by decide +kernel)) rfl (dX_getfield (by decide +kernel)) (by decide +kernel), ?_⟩
  refine ⟨sn_getf (C := RX8) (T := TX8) (N := 2) (idx := 108) rfl pin8 (by decide) (by decide) rfl (pmt1 43 rfl (by decide +kernel)) rfl (dX_getfield (by decide +kernel)) (by decide +kernel), ?_⟩
  refine ⟨sn_if_ne (off := 5) (dX_ifne (by decide +kernel)) (by decide +kernel) (by decide +kernel), ?_⟩
  refine ⟨sn_iconst (dX_iconst_m1 (by decide +kernel)) (by decide +kernel), ?_⟩
  refine ⟨sn_iret rfl (dX_ireturn (by decide +kernel)), ?_⟩
  refine ⟨sn_aload_n (k := 0) (dX_aload_0 (by decide +kernel)) rfl (by decide +kernel), ?_⟩
  refine ⟨sn_callV (idx := 451) (C := RX11) (T := TX11) (N := 18) rfl (by decide) cal_55 (pmt4 102 rfl (by decide +kernel)) (pmt4 104 rfl (by decide +kernel)) (pms 21 rfl rfl) (dX_invokevirtual (by decide +kernel)) (by decide +kernel), ?_⟩
  refine ⟨sn_iconst (dX_iconst_0 (by decide +kernel)) (by decide +kernel), ?_⟩
  refine ⟨sn_istore_n (k := 1) (dX_istore_1 (by decide +kernel)) rfl (by decide) (by decide +kernel), ?_⟩
  refine ⟨sn_iload_n (k := 1) (dX_iload_1 (by decide +kernel)) rfl (by decide +kernel), ?_⟩
  refine ⟨sn_bipush (dX_bipush (by decide +kernel)) (by decide +kernel) (by decide +kernel), ?_⟩
  refine ⟨sn_icmp_ge (off := 32) (dX_if_icmpge (by decide +kernel)) (by decide +kernel) (by decide +kernel), ?_⟩
  refine ⟨sn_aload_n (k := 0) (dX_aload_0 (by decide +kernel)) rfl (by decide +kernel), ?_⟩
  refine ⟨sn_getf (C := RX11) (T := TX11) (N := 18) (idx := 21) rfl pin11 (by decide) (by decide) rfl (pmt2 121 rfl (by decide +kernel)) rfl (dX_getfield (by decide +kernel)) (by decide +kernel), ?_⟩
  refine ⟨sn_callV (idx := 454) (C := RX6) (T := TX6) (N := 4) rfl (by decide) cal_134 (pmt4 109 rfl (by decide +kernel)) (pmt3 37 rfl (by decide +kernel)) (pmt3 38 rfl (by decide +kernel)) (dX_invokevirtual (by decide +kernel)) (by decide +kernel), ?_⟩
  refine ⟨sn_if_eq (off := 22) (dX_ifeq (by decide +kernel)) (by decide +kernel) (by decide +kernel), ?_⟩
  refine ⟨sn_aload_n (k := 0) (dX_aload_0 (by decide +kernel)) rfl (by decide +kernel), ?_⟩
  refine ⟨sn_getf (C := RX11) (T := TX11) (N := 18) (idx := 21) rfl pin11 (by decide) (by decide) rfl (pmt2 121 rfl (by decide +kernel)) rfl (dX_getfield (by decide +kernel)) (by decide +kernel), ?_⟩
  refine ⟨sn_bipush (dX_bipush (by decide +kernel)) (by decide +kernel) (by decide +kernel), ?_⟩
  refine ⟨sn_callV (idx := 457) (C := RX6) (T := TX6) (N := 4) rfl (by decide) cal_137 (pmt4 107 rfl (by decide +kernel)) (pmt3 12 rfl (by decide +kernel)) (pmt3 13 rfl (by decide +kernel)) (dX_invokevirtual (by decide +kernel)) (by decide +kernel), ?_⟩
  refine ⟨sn_aload_n (k := 0) (dX_aload_0 (by decide +kernel)) rfl (by decide +kernel), ?_⟩
  refine ⟨sn_callV (idx := 451) (C := RX11) (T := TX11) (N := 18) rfl (by decide) cal_55 (pmt4 102 rfl (by decide +kernel)) (pmt4 104 rfl (by decide +kernel)) (pms 21 rfl rfl) (dX_invokevirtual (by decide +kernel)) (by decide +kernel), ?_⟩
  refine ⟨sn_iinc (dX_iinc (by decide +kernel)) (by decide) (by decide +kernel), ?_⟩
  refine ⟨sn_goto (off := -32) (dX_goto (by decide +kernel)) (by decide +kernel), ?_⟩
  refine ⟨sn_aload_n (k := 0) (dX_aload_0 (by decide +kernel)) rfl (by decide +kernel), ?_⟩
  refine ⟨sn_getf (C := RX11) (T := TX11) (N := 18) (idx := 21) rfl pin11 (by decide) (by decide) rfl (pmt2 121 rfl (by decide +kernel)) rfl (dX_getfield (by decide +kernel)) (by decide +kernel), ?_⟩
  refine ⟨sn_callV (idx := 460) (C := RX6) (T := TX6) (N := 4) rfl (by decide) cal_136 (pmt4 110 rfl (by decide +kernel)) (pmt3 54 rfl (by decide +kernel)) (pmt3 55 rfl (by decide +kernel)) (dX_invokevirtual (by decide +kernel)) (by decide +kernel), ?_⟩
  refine ⟨sn_iret rfl (dX_ireturn (by decide +kernel)), ?_⟩
  trivial
set_option maxRecDepth 100000 in
set_option maxHeartbeats 4000000 in
theorem S_55 : pAll (pSk RX11 cX11_readCarrying 1 none PC_55) 0 C_55 := by
  refine ⟨sn_aload_n (k := 0) (dX_aload_0 (by decide +kernel)) rfl (by decide +kernel), ?_⟩
  refine ⟨sn_getf (C := RX11) (T := TX11) (N := 18) (idx := 21) rfl pin11 (by decide) (by decide) rfl (pmt2 121 rfl (by decide +kernel)) rfl (dX_getfield (by decide +kernel)) (by decide +kernel), ?_⟩
  refine ⟨sn_iconst (dX_iconst_0 (by decide +kernel)) (by decide +kernel), ?_⟩
  refine ⟨sn_bipush (dX_bipush (by decide +kernel)) (by decide +kernel) (by decide +kernel), ?_⟩
  refine ⟨sn_callV (idx := 462) (C := RX6) (T := TX6) (N := 4) rfl (by decide) cal_140 (pmt4 106 rfl (by decide +kernel)) (pmt3 33 rfl (by decide +kernel)) (pmt3 34 rfl (by decide +kernel)) (dX_invokevirtual (by decide +kernel)) (by decide +kernel), ?_⟩
  refine ⟨sn_pop (dX_pop (by decide +kernel)) (by decide +kernel), ?_⟩
  refine ⟨sn_aload_n (k := 0) (dX_aload_0 (by decide +kernel)) rfl (by decide +kernel), ?_⟩
  refine ⟨sn_getf (C := RX11) (T := TX11) (N := 18) (idx := 21) rfl pin11 (by decide) (by decide) rfl (pmt2 121 rfl (by decide +kernel)) rfl (dX_getfield (by decide +kernel)) (by decide +kernel), ?_⟩
  refine ⟨sn_bipush (dX_bipush (by decide +kernel)) (by decide +kernel) (by decide +kernel), ?_⟩
  refine ⟨sn_callV (idx := 457) (C := RX6) (T := TX6) (N := 4) rfl (by decide) cal_137 (pmt4 107 rfl (by decide +kernel)) (pmt3 12 rfl (by decide +kernel)) (pmt3 13 rfl (by decide +kernel)) (dX_invokevirtual (by decide +kernel)) (by decide +kernel), ?_⟩
  refine ⟨sn_aload_n (k := 0) (dX_aload_0 (by decide +kernel)) rfl (by decide +kernel), ?_⟩
  refine ⟨sn_getf (C := RX11) (T := TX11) (N := 18) (idx := 21) rfl pin11 (by decide) (by decide) rfl (pmt2 121 rfl (by decide +kernel)) rfl (dX_getfield (by decide +kernel)) (by decide +kernel), ?_⟩
  refine ⟨sn_iconst (dX_iconst_0 (by decide +kernel)) (by decide +kernel), ?_⟩
  refine ⟨sn_bipush (dX_bipush (by decide +kernel)) (by decide +kernel) (by decide +kernel), ?_⟩
  refine ⟨sn_callV (idx := 465) (C := RX6) (T := TX6) (N := 4) rfl (by decide) cal_139 (pmt4 108 rfl (by decide +kernel)) (pmt2 226 rfl (by decide +kernel)) (pmt2 227 rfl (by decide +kernel)) (dX_invokevirtual (by decide +kernel)) (by decide +kernel), ?_⟩
  refine ⟨sn_pop (dX_pop (by decide +kernel)) (by decide +kernel), ?_⟩
  refine ⟨sn_vret rfl (dX_return (by decide +kernel)), ?_⟩
  trivial
set_option maxRecDepth 100000 in
set_option maxHeartbeats 4000000 in
theorem S_56 : pAll (pSk RX11 cX11_aimFault 2 (some .int) PC_56) 0 C_56 := by
  refine ⟨sn_aload_n (k := 0) (dX_aload_0 (by decide +kernel)) rfl (by decide +kernel), ?_⟩
  refine ⟨sn_getf (C := RX11) (T := TX11) (N := 18) (idx := 21) rfl pin11 (by decide) (by decide) rfl (pmt2 121 rfl (by decide +kernel)) rfl (dX_getfield (by decide +kernel)) (by decide +kernel), ?_⟩
  refine ⟨sn_aload_n (k := 0) (dX_aload_0 (by decide +kernel)) rfl (by decide +kernel), ?_⟩
  refine ⟨sn_getf (C := RX11) (T := TX11) (N := 18) (idx := 44) rfl pin11 (by decide) (by decide) rfl (pmt2 124 rfl (by decide +kernel)) rfl (dX_getfield (by decide +kernel)) (by decide +kernel), ?_⟩
  refine ⟨sn_getf (C := RX0) (T := TX0) (N := 13) (idx := 276) rfl pin0 (by decide) (by decide) rfl (pmt1 143 rfl (by decide +kernel)) rfl (dX_getfield (by decide +kernel)) (by decide +kernel), ?_⟩
  refine ⟨sn_callV (idx := 449) (C := RX6) (T := TX6) (N := 4) rfl (by decide) cal_132 (pmt4 101 rfl (by decide +kernel)) (pmt2 207 rfl (by decide +kernel)) (pmt2 208 rfl (by decide +kernel)) (dX_invokevirtual (by decide +kernel)) (by decide +kernel), ?_⟩
  refine ⟨sn_iconst (dX_iconst_0 (by decide +kernel)) (by decide +kernel), ?_⟩
  refine ⟨sn_istore_n (k := 1) (dX_istore_1 (by decide +kernel)) rfl (by decide) (by decide +kernel), ?_⟩
  refine ⟨sn_iload_n (k := 1) (dX_iload_1 (by decide +kernel)) rfl (by decide +kernel), ?_⟩
  refine ⟨sn_aload_n (k := 0) (dX_aload_0 (by decide +kernel)) rfl (by decide +kernel), ?_⟩
  refine ⟨sn_getf (C := RX11) (T := TX11) (N := 18) (idx := 44) rfl pin11 (by decide) (by decide) rfl (pmt2 124 rfl (by decide +kernel)) rfl (dX_getfield (by decide +kernel)) (by decide +kernel), ?_⟩
  refine ⟨sn_getf (C := RX0) (T := TX0) (N := 13) (idx := 276) rfl pin0 (by decide) (by decide) rfl (pmt1 143 rfl (by decide +kernel)) rfl (dX_getfield (by decide +kernel)) (by decide +kernel), ?_⟩
  refine ⟨sn_icmp_ge (off := 25) (dX_if_icmpge (by decide +kernel)) (by decide +kernel) (by decide +kernel), ?_⟩
  refine ⟨sn_aload_n (k := 0) (dX_aload_0 (by decide +kernel)) rfl (by decide +kernel), ?_⟩
  refine ⟨sn_getf (C := RX11) (T := TX11) (N := 18) (idx := 21) rfl pin11 (by decide) (by decide) rfl (pmt2 121 rfl (by decide +kernel)) rfl (dX_getfield (by decide +kernel)) (by decide +kernel), ?_⟩
  refine ⟨sn_iconst (dX_iconst_0 (by decide +kernel)) (by decide +kernel), ?_⟩
  refine ⟨sn_aload_n (k := 0) (dX_aload_0 (by decide +kernel)) rfl (by decide +kernel), ?_⟩
  refine ⟨sn_getf (C := RX11) (T := TX11) (N := 18) (idx := 44) rfl pin11 (by decide) (by decide) rfl (pmt2 124 rfl (by decide +kernel)) rfl (dX_getfield (by decide +kernel)) (by decide +kernel), ?_⟩
  refine ⟨sn_getf (C := RX0) (T := TX0) (N := 13) (idx := 319) rfl pin0 (by decide) (by decide) rfl (pmt1 137 rfl (by decide +kernel)) rfl (dX_getfield (by decide +kernel)) (by decide +kernel), ?_⟩
  refine ⟨sn_callV (idx := 465) (C := RX6) (T := TX6) (N := 4) rfl (by decide) cal_139 (pmt4 108 rfl (by decide +kernel)) (pmt2 226 rfl (by decide +kernel)) (pmt2 227 rfl (by decide +kernel)) (dX_invokevirtual (by decide +kernel)) (by decide +kernel), ?_⟩
  refine ⟨sn_pop (dX_pop (by decide +kernel)) (by decide +kernel), ?_⟩
  refine ⟨sn_iinc (dX_iinc (by decide +kernel)) (by decide) (by decide +kernel), ?_⟩
  refine ⟨sn_goto (off := -30) (dX_goto (by decide +kernel)) (by decide +kernel), ?_⟩
  refine ⟨sn_aload_n (k := 0) (dX_aload_0 (by decide +kernel)) rfl (by decide +kernel), ?_⟩
  refine ⟨sn_getf (C := RX11) (T := TX11) (N := 18) (idx := 21) rfl pin11 (by decide) (by decide) rfl (pmt2 121 rfl (by decide +kernel)) rfl (dX_getfield (by decide +kernel)) (by decide +kernel), ?_⟩
  refine ⟨sn_callV (idx := 460) (C := RX6) (T := TX6) (N := 4) rfl (by decide) cal_136 (pmt4 110 rfl (by decide +kernel)) (pmt3 54 rfl (by decide +kernel)) (pmt3 55 rfl (by decide +kernel)) (dX_invokevirtual (by decide +kernel)) (by decide +kernel), ?_⟩
  refine ⟨sn_iret rfl (dX_ireturn (by decide +kernel)), ?_⟩
  trivial
set_option maxRecDepth 100000 in
set_option maxHeartbeats 4000000 in
theorem S_57 : pAll (pSk RX11 cX11_hasAim 1 (some .boolean) PC_57) 0 C_57 := by
  refine ⟨sn_aload_n (k := 0) (dX_aload_0 (by decide +kernel)) rfl (by decide +kernel), ?_⟩
  refine ⟨sn_getf (C := RX11) (T := TX11) (N := 18) (idx := 387) rfl pin11 (by decide) (by decide) rfl (pmt2 134 rfl (by decide +kernel)) rfl (dX_getfield (by decide +kernel)) (by decide +kernel), ?_⟩
  refine ⟨sn_if_le (off := 21) (dX_ifle (by decide +kernel)) (by decide +kernel) (by decide +kernel), ?_⟩
  refine ⟨sn_aload_n (k := 0) (dX_aload_0 (by decide +kernel)) rfl (by decide +kernel), ?_⟩
  refine ⟨sn_getf (C := RX11) (T := TX11) (N := 18) (idx := 387) rfl pin11 (by decide) (by decide) rfl (pmt2 134 rfl (by decide +kernel)) rfl (dX_getfield (by decide +kernel)) (by decide +kernel), ?_⟩
  refine ⟨sn_aload_n (k := 0) (dX_aload_0 (by decide +kernel)) rfl (by decide +kernel), ?_⟩
  refine ⟨sn_getf (C := RX11) (T := TX11) (N := 18) (idx := 44) rfl pin11 (by decide) (by decide) rfl (pmt2 124 rfl (by decide +kernel)) rfl (dX_getfield (by decide +kernel)) (by decide +kernel), ?_⟩
  refine ⟨sn_getf (C := RX0) (T := TX0) (N := 13) (idx := 276) rfl pin0 (by decide) (by decide) rfl (pmt1 143 rfl (by decide +kernel)) rfl (dX_getfield (by decide +kernel)) (by decide +kernel), ?_⟩
  refine ⟨sn_icmp_ne (off := 7) (dX_if_icmpne (by decide +kernel)) (by decide +kernel) (by decide +kernel), ?_⟩
  refine ⟨sn_iconst (dX_iconst_1 (by decide +kernel)) (by decide +kernel), ?_⟩
  refine ⟨sn_goto (off := 4) (dX_goto (by decide +kernel)) (by decide +kernel), ?_⟩
  refine ⟨sn_iconst (dX_iconst_0 (by decide +kernel)) (by decide +kernel), ?_⟩
  refine ⟨sn_zret (Or.inl rfl) (dX_ireturn (by decide +kernel)), ?_⟩
  trivial
set_option maxRecDepth 100000 in
set_option maxHeartbeats 4000000 in
theorem S_58 : pAll (pSk RX11 cX11_tellChosen 2 none PC_58) 0 C_58 := by
  refine ⟨sn_iconst (dX_iconst_0 (by decide +kernel)) (by decide +kernel), ?_⟩
  refine ⟨sn_istore_n (k := 1) (dX_istore_1 (by decide +kernel)) rfl (by decide) (by decide +kernel), ?_⟩
  refine ⟨sn_iload_n (k := 1) (dX_iload_1 (by decide +kernel)) rfl (by decide +kernel), ?_⟩
  refine ⟨sn_aload_n (k := 0) (dX_aload_0 (by decide +kernel)) rfl (by decide +kernel), ?_⟩
  refine ⟨sn_getf (C := RX11) (T := TX11) (N := 18) (idx := 44) rfl pin11 (by decide) (by decide) rfl (pmt2 124 rfl (by decide +kernel)) rfl (dX_getfield (by decide +kernel)) (by decide +kernel), ?_⟩
  refine ⟨sn_getf (C := RX0) (T := TX0) (N := 13) (idx := 276) rfl pin0 (by decide) (by decide) rfl (pmt1 143 rfl (by decide +kernel)) rfl (dX_getfield (by decide +kernel)) (by decide +kernel), ?_⟩
  refine ⟨sn_icmp_ge (off := 35) (dX_if_icmpge (by decide +kernel)) (by decide +kernel) (by decide +kernel), ?_⟩
  refine ⟨sn_aload_n (k := 0) (dX_aload_0 (by decide +kernel)) rfl (by decide +kernel), ?_⟩
  refine ⟨sn_getf (C := RX11) (T := TX11) (N := 18) (idx := 37) rfl pin11 (by decide) (by decide) rfl (pmt2 123 rfl (by decide +kernel)) rfl (dX_getfield (by decide +kernel)) (by decide +kernel), ?_⟩
  refine ⟨sn_aload_n (k := 0) (dX_aload_0 (by decide +kernel)) rfl (by decide +kernel), ?_⟩
  refine ⟨sn_getf (C := RX11) (T := TX11) (N := 18) (idx := 61) rfl pin11 (by decide) (by decide) rfl (pmt2 127 rfl (by decide +kernel)) rfl (dX_getfield (by decide +kernel)) (by decide +kernel), ?_⟩
  refine ⟨sn_getf (C := RX10) (T := TX10) (N := 12) (idx := 468) rfl pin10 (by decide) (by decide) rfl (pmt1 213 rfl (by decide +kernel)) rfl (dX_getfield (by decide +kernel)) (by decide +kernel), ?_⟩
  refine ⟨sn_aload_n (k := 0) (dX_aload_0 (by decide +kernel)) rfl (by decide +kernel), ?_⟩
  refine ⟨sn_getf (C := RX11) (T := TX11) (N := 18) (idx := 44) rfl pin11 (by decide) (by decide) rfl (pmt2 124 rfl (by decide +kernel)) rfl (dX_getfield (by decide +kernel)) (by decide +kernel), ?_⟩
  refine ⟨sn_getf (C := RX0) (T := TX0) (N := 13) (idx := 182) rfl pin0 (by decide) (by decide) rfl (pmt1 132 rfl (by decide +kernel)) rfl (dX_getfield (by decide +kernel)) (by decide +kernel), ?_⟩
  refine ⟨sn_iload_n (k := 1) (dX_iload_1 (by decide +kernel)) rfl (by decide +kernel), ?_⟩
  refine ⟨sn_iald (dX_iaload (by decide +kernel)) (by decide +kernel), ?_⟩
  refine ⟨sn_callS (idx := 257) cal_47 (pmt4 24 rfl (by decide +kernel)) (pmt4 25 rfl (by decide +kernel)) (dX_invokestatic (by decide +kernel)) (by decide +kernel), ?_⟩
  refine ⟨sn_callV (idx := 230) (C := RX4) (T := TX4) (N := 2) rfl (by decide) cal_128 (pmt4 85 rfl (by decide +kernel)) (pmt4 86 rfl (by decide +kernel)) (pmt4 87 rfl (by decide +kernel)) (dX_invokevirtual (by decide +kernel)) (by decide +kernel), ?_⟩
  refine ⟨sn_iinc (dX_iinc (by decide +kernel)) (by decide) (by decide +kernel), ?_⟩
  refine ⟨sn_goto (off := -40) (dX_goto (by decide +kernel)) (by decide +kernel), ?_⟩
  refine ⟨sn_vret rfl (dX_return (by decide +kernel)), ?_⟩
  trivial
set_option maxRecDepth 100000 in
set_option maxHeartbeats 4000000 in
theorem S_59 : pAll (pSk RX11 cX11_nearest 6 (some .int) PC_59) 0 C_59 := by
  refine ⟨sn_aload_n (k := 0) (dX_aload_0 (by decide +kernel)) rfl (by decide +kernel), ?_⟩
  refine ⟨sn_getf (C := RX11) (T := TX11) (N := 18) (idx := 61) rfl pin11 (by decide) (by decide) rfl (pmt2 127 rfl (by decide +kernel)) rfl (dX_getfield (by decide +kernel)) (by decide +kernel), ?_⟩
  refine ⟨sn_aload_n (k := 0) (dX_aload_0 (by decide +kernel)) rfl (by decide +kernel), ?_⟩
  refine ⟨sn_getf (C := RX11) (T := TX11) (N := 18) (idx := 44) rfl pin11 (by decide) (by decide) rfl (pmt2 124 rfl (by decide +kernel)) rfl (dX_getfield (by decide +kernel)) (by decide +kernel), ?_⟩
  refine ⟨sn_aload_n (k := 0) (dX_aload_0 (by decide +kernel)) rfl (by decide +kernel), ?_⟩
  refine ⟨sn_getf (C := RX11) (T := TX11) (N := 18) (idx := 44) rfl pin11 (by decide) (by decide) rfl (pmt2 124 rfl (by decide +kernel)) rfl (dX_getfield (by decide +kernel)) (by decide +kernel), ?_⟩
  refine ⟨sn_callV (idx := 304) (C := RX0) (T := TX0) (N := 13) rfl (by decide) cal_69 (pmt4 182 rfl (by decide +kernel)) (pmt4 183 rfl (by decide +kernel)) (pmt4 184 rfl (by decide +kernel)) (dX_invokevirtual (by decide +kernel)) (by decide +kernel), ?_⟩
  refine ⟨sn_callV (idx := 307) (C := RX10) (T := TX10) (N := 12) rfl (by decide) cal_160 (pmt4 186 rfl (by decide +kernel)) (pmt4 187 rfl (by decide +kernel)) (pmt4 188 rfl (by decide +kernel)) (dX_invokevirtual (by decide +kernel)) (by decide +kernel), ?_⟩
  refine ⟨sn_aload_n (k := 0) (dX_aload_0 (by decide +kernel)) rfl (by decide +kernel), ?_⟩
  refine ⟨sn_getf (C := RX11) (T := TX11) (N := 18) (idx := 61) rfl pin11 (by decide) (by decide) rfl (pmt2 127 rfl (by decide +kernel)) rfl (dX_getfield (by decide +kernel)) (by decide +kernel), ?_⟩
  refine ⟨sn_iload_n (k := 1) (dX_iload_1 (by decide +kernel)) rfl (by decide +kernel), ?_⟩
  refine ⟨sn_iload_n (k := 2) (dX_iload_2 (by decide +kernel)) rfl (by decide +kernel), ?_⟩
  refine ⟨sn_callV (idx := 343) (C := RX10) (T := TX10) (N := 12) rfl (by decide) cal_161 (pmt5 24 rfl (by decide +kernel)) (pmt5 25 rfl (by decide +kernel)) (pmt5 26 rfl (by decide +kernel)) (dX_invokevirtual (by decide +kernel)) (by decide +kernel), ?_⟩
  refine ⟨sn_iconst (dX_iconst_0 (by decide +kernel)) (by decide +kernel), ?_⟩
  refine ⟨sn_istore_n (k := 3) (dX_istore_3 (by decide +kernel)) rfl (by decide) (by decide +kernel), ?_⟩
  refine ⟨sn_iload_n (k := 3) (dX_iload_3 (by decide +kernel)) rfl (by decide +kernel), ?_⟩
  refine ⟨sn_aload_n (k := 0) (dX_aload_0 (by decide +kernel)) rfl (by decide +kernel), ?_⟩
  refine ⟨sn_getf (C := RX11) (T := TX11) (N := 18) (idx := 44) rfl pin11 (by decide) (by decide) rfl (pmt2 124 rfl (by decide +kernel)) rfl (dX_getfield (by decide +kernel)) (by decide +kernel), ?_⟩
  refine ⟨sn_getf (C := RX0) (T := TX0) (N := 13) (idx := 276) rfl pin0 (by decide) (by decide) rfl (pmt1 143 rfl (by decide +kernel)) rfl (dX_getfield (by decide +kernel)) (by decide +kernel), ?_⟩
  refine ⟨sn_icmp_ge (off := 83) (dX_if_icmpge (by decide +kernel)) (by decide +kernel) (by decide +kernel), ?_⟩
  refine ⟨sn_iconst (dX_iconst_0 (by decide +kernel)) (by decide +kernel), ?_⟩
  refine ⟨sn_istore (dX_istore (by decide +kernel)) (by decide) (by decide +kernel), ?_⟩
  refine ⟨sn_iload (dX_iload (by decide +kernel)) (by decide +kernel), ?_⟩
  refine ⟨sn_aload_n (k := 0) (dX_aload_0 (by decide +kernel)) rfl (by decide +kernel), ?_⟩
  refine ⟨sn_getf (C := RX11) (T := TX11) (N := 18) (idx := 44) rfl pin11 (by decide) (by decide) rfl (pmt2 124 rfl (by decide +kernel)) rfl (dX_getfield (by decide +kernel)) (by decide +kernel), ?_⟩
  refine ⟨sn_getf (C := RX0) (T := TX0) (N := 13) (idx := 319) rfl pin0 (by decide) (by decide) rfl (pmt1 137 rfl (by decide +kernel)) rfl (dX_getfield (by decide +kernel)) (by decide +kernel), ?_⟩
  refine ⟨sn_icmp_ge (off := 62) (dX_if_icmpge (by decide +kernel)) (by decide +kernel) (by decide +kernel), ?_⟩
  refine ⟨sn_aload_n (k := 0) (dX_aload_0 (by decide +kernel)) rfl (by decide +kernel), ?_⟩
  refine ⟨sn_getf (C := RX11) (T := TX11) (N := 18) (idx := 44) rfl pin11 (by decide) (by decide) rfl (pmt2 124 rfl (by decide +kernel)) rfl (dX_getfield (by decide +kernel)) (by decide +kernel), ?_⟩
  refine ⟨sn_iload_n (k := 3) (dX_iload_3 (by decide +kernel)) rfl (by decide +kernel), ?_⟩
  refine ⟨sn_aload_n (k := 0) (dX_aload_0 (by decide +kernel)) rfl (by decide +kernel), ?_⟩
  refine ⟨sn_getf (C := RX11) (T := TX11) (N := 18) (idx := 44) rfl pin11 (by decide) (by decide) rfl (pmt2 124 rfl (by decide +kernel)) rfl (dX_getfield (by decide +kernel)) (by decide +kernel), ?_⟩
  refine ⟨sn_getf (C := RX0) (T := TX0) (N := 13) (idx := 150) rfl pin0 (by decide) (by decide) rfl (pmt1 123 rfl (by decide +kernel)) rfl (dX_getfield (by decide +kernel)) (by decide +kernel), ?_⟩
  refine ⟨sn_iload_n (k := 3) (dX_iload_3 (by decide +kernel)) rfl (by decide +kernel), ?_⟩
  refine ⟨sn_iald (dX_iaload (by decide +kernel)) (by decide +kernel), ?_⟩
  refine ⟨sn_iload (dX_iload (by decide +kernel)) (by decide +kernel), ?_⟩
  refine ⟨sn_callV (idx := 445) (C := RX0) (T := TX0) (N := 13) rfl (by decide) cal_82 (pmt4 27 rfl (by decide +kernel)) (pmt4 28 rfl (by decide +kernel)) (pmt4 29 rfl (by decide +kernel)) (dX_invokevirtual (by decide +kernel)) (by decide +kernel), ?_⟩
  refine ⟨sn_istore (dX_istore (by decide +kernel)) (by decide) (by decide +kernel), ?_⟩
  refine ⟨sn_aload_n (k := 0) (dX_aload_0 (by decide +kernel)) rfl (by decide +kernel), ?_⟩
  refine ⟨sn_getf (C := RX11) (T := TX11) (N := 18) (idx := 61) rfl pin11 (by decide) (by decide) rfl (pmt2 127 rfl (by decide +kernel)) rfl (dX_getfield (by decide +kernel)) (by decide +kernel), ?_⟩
  refine ⟨sn_aload_n (k := 0) (dX_aload_0 (by decide +kernel)) rfl (by decide +kernel), ?_⟩
  refine ⟨sn_getf (C := RX11) (T := TX11) (N := 18) (idx := 44) rfl pin11 (by decide) (by decide) rfl (pmt2 124 rfl (by decide +kernel)) rfl (dX_getfield (by decide +kernel)) (by decide +kernel), ?_⟩
  refine ⟨sn_getf (C := RX0) (T := TX0) (N := 13) (idx := 182) rfl pin0 (by decide) (by decide) rfl (pmt1 132 rfl (by decide +kernel)) rfl (dX_getfield (by decide +kernel)) (by decide +kernel), ?_⟩
  refine ⟨sn_iload_n (k := 3) (dX_iload_3 (by decide +kernel)) rfl (by decide +kernel), ?_⟩
  refine ⟨sn_iald (dX_iaload (by decide +kernel)) (by decide +kernel), ?_⟩
  refine ⟨sn_iload (dX_iload (by decide +kernel)) (by decide +kernel), ?_⟩
  refine ⟨sn_iload (dX_iload (by decide +kernel)) (by decide +kernel), ?_⟩
  refine ⟨sn_if_ge (off := 9) (dX_ifge (by decide +kernel)) (by decide +kernel) (by decide +kernel), ?_⟩
  refine ⟨sn_ldcw (idx := 471) (dX_ldc_w (by decide +kernel)) (pmt5 28 rfl (by decide +kernel)) (by decide +kernel), ?_⟩
  refine ⟨sn_goto (off := 6) (dX_goto (by decide +kernel)) (by decide +kernel), ?_⟩
  refine ⟨sn_iload (dX_iload (by decide +kernel)) (by decide +kernel), ?_⟩
  refine ⟨sn_ineg (dX_ineg (by decide +kernel)) (by decide +kernel), ?_⟩
  refine ⟨sn_callV (idx := 322) (C := RX10) (T := TX10) (N := 12) rfl (by decide) cal_162 (pmt5 12 rfl (by decide +kernel)) (pmt5 13 rfl (by decide +kernel)) (pmt5 14 rfl (by decide +kernel)) (dX_invokevirtual (by decide +kernel)) (by decide +kernel), ?_⟩
  refine ⟨sn_iinc (dX_iinc (by decide +kernel)) (by decide) (by decide +kernel), ?_⟩
  refine ⟨sn_goto (off := -68) (dX_goto (by decide +kernel)) (by decide +kernel), ?_⟩
  refine ⟨sn_iinc (dX_iinc (by decide +kernel)) (by decide) (by decide +kernel), ?_⟩
  refine ⟨sn_goto (off := -88) (dX_goto (by decide +kernel)) (by decide +kernel), ?_⟩
  refine ⟨sn_aload_n (k := 0) (dX_aload_0 (by decide +kernel)) rfl (by decide +kernel), ?_⟩
  refine ⟨sn_getf (C := RX11) (T := TX11) (N := 18) (idx := 61) rfl pin11 (by decide) (by decide) rfl (pmt2 127 rfl (by decide +kernel)) rfl (dX_getfield (by decide +kernel)) (by decide +kernel), ?_⟩
  refine ⟨sn_callV (idx := 310) (C := RX10) (T := TX10) (N := 12) rfl (by decide) cal_167 (pmt4 194 rfl (by decide +kernel)) (pmt4 195 rfl (by decide +kernel)) (pmt4 196 rfl (by decide +kernel)) (dX_invokevirtual (by decide +kernel)) (by decide +kernel), ?_⟩
  refine ⟨sn_if_eq (off := 16) (dX_ifeq (by decide +kernel)) (by decide +kernel) (by decide +kernel), ?_⟩
  refine ⟨sn_aload_n (k := 0) (dX_aload_0 (by decide +kernel)) rfl (by decide +kernel), ?_⟩
  refine ⟨sn_getf (C := RX11) (T := TX11) (N := 18) (idx := 61) rfl pin11 (by decide) (by decide) rfl (pmt2 127 rfl (by decide +kernel)) rfl (dX_getfield (by decide +kernel)) (by decide +kernel), ?_⟩
  refine ⟨sn_getf (C := RX10) (T := TX10) (N := 12) (idx := 325) rfl pin10 (by decide) (by decide) rfl (pmt1 219 rfl (by decide +kernel)) rfl (dX_getfield (by decide +kernel)) (by decide +kernel), ?_⟩
  refine ⟨sn_ldcw (idx := 471) (dX_ldc_w (by decide +kernel)) (pmt5 28 rfl (by decide +kernel)) (by decide +kernel), ?_⟩
  refine ⟨sn_icmp_gt (off := 6) (dX_if_icmpgt (by decide +kernel)) (by decide +kernel) (by decide +kernel), ?_⟩
  refine ⟨sn_bipush (dX_bipush (by decide +kernel)) (by decide +kernel) (by decide +kernel), ?_⟩
  refine ⟨sn_iret rfl (dX_ireturn (by decide +kernel)), ?_⟩
  refine ⟨sn_aload_n (k := 0) (dX_aload_0 (by decide +kernel)) rfl (by decide +kernel), ?_⟩
  refine ⟨sn_getf (C := RX11) (T := TX11) (N := 18) (idx := 37) rfl pin11 (by decide) (by decide) rfl (pmt2 123 rfl (by decide +kernel)) rfl (dX_getfield (by decide +kernel)) (by decide +kernel), ?_⟩
  refine ⟨sn_callV (idx := 227) (C := RX4) (T := TX4) (N := 2) rfl (by decide) cal_127 (pmt4 81 rfl (by decide +kernel)) (pmt4 82 rfl (by decide +kernel)) (pmt4 83 rfl (by decide +kernel)) (dX_invokevirtual (by decide +kernel)) (by decide +kernel), ?_⟩
  refine ⟨sn_aload_n (k := 0) (dX_aload_0 (by decide +kernel)) rfl (by decide +kernel), ?_⟩
  refine ⟨sn_callV (idx := 316) (C := RX11) (T := TX11) (N := 18) rfl (by decide) cal_58 (pmt4 217 rfl (by decide +kernel)) (pmt4 219 rfl (by decide +kernel)) (pms 25 rfl rfl) (dX_invokevirtual (by decide +kernel)) (by decide +kernel), ?_⟩
  refine ⟨sn_aload_n (k := 0) (dX_aload_0 (by decide +kernel)) rfl (by decide +kernel), ?_⟩
  refine ⟨sn_getf (C := RX11) (T := TX11) (N := 18) (idx := 61) rfl pin11 (by decide) (by decide) rfl (pmt2 127 rfl (by decide +kernel)) rfl (dX_getfield (by decide +kernel)) (by decide +kernel), ?_⟩
  refine ⟨sn_getf (C := RX10) (T := TX10) (N := 12) (idx := 325) rfl pin10 (by decide) (by decide) rfl (pmt1 219 rfl (by decide +kernel)) rfl (dX_getfield (by decide +kernel)) (by decide +kernel), ?_⟩
  refine ⟨sn_ineg (dX_ineg (by decide +kernel)) (by decide +kernel), ?_⟩
  refine ⟨sn_iret rfl (dX_ireturn (by decide +kernel)), ?_⟩
  trivial
set_option maxRecDepth 100000 in
set_option maxHeartbeats 4000000 in
theorem S_60 : pAll (pSk RX11 cX11_chooseByBulk 5 (some .boolean) PC_60) 0 C_60 := by
  refine ⟨sn_aload_n (k := 0) (dX_aload_0 (by decide +kernel)) rfl (by decide +kernel), ?_⟩
  refine ⟨sn_getf (C := RX11) (T := TX11) (N := 18) (idx := 61) rfl pin11 (by decide) (by decide) rfl (pmt2 127 rfl (by decide +kernel)) rfl (dX_getfield (by decide +kernel)) (by decide +kernel), ?_⟩
  refine ⟨sn_aload_n (k := 0) (dX_aload_0 (by decide +kernel)) rfl (by decide +kernel), ?_⟩
  refine ⟨sn_getf (C := RX11) (T := TX11) (N := 18) (idx := 44) rfl pin11 (by decide) (by decide) rfl (pmt2 124 rfl (by decide +kernel)) rfl (dX_getfield (by decide +kernel)) (by decide +kernel), ?_⟩
  refine ⟨sn_aload_n (k := 0) (dX_aload_0 (by decide +kernel)) rfl (by decide +kernel), ?_⟩
  refine ⟨sn_getf (C := RX11) (T := TX11) (N := 18) (idx := 44) rfl pin11 (by decide) (by decide) rfl (pmt2 124 rfl (by decide +kernel)) rfl (dX_getfield (by decide +kernel)) (by decide +kernel), ?_⟩
  refine ⟨sn_callV (idx := 304) (C := RX0) (T := TX0) (N := 13) rfl (by decide) cal_69 (pmt4 182 rfl (by decide +kernel)) (pmt4 183 rfl (by decide +kernel)) (pmt4 184 rfl (by decide +kernel)) (dX_invokevirtual (by decide +kernel)) (by decide +kernel), ?_⟩
  refine ⟨sn_callV (idx := 307) (C := RX10) (T := TX10) (N := 12) rfl (by decide) cal_160 (pmt4 186 rfl (by decide +kernel)) (pmt4 187 rfl (by decide +kernel)) (pmt4 188 rfl (by decide +kernel)) (dX_invokevirtual (by decide +kernel)) (by decide +kernel), ?_⟩
  refine ⟨sn_aload_n (k := 0) (dX_aload_0 (by decide +kernel)) rfl (by decide +kernel), ?_⟩
  refine ⟨sn_getf (C := RX11) (T := TX11) (N := 18) (idx := 61) rfl pin11 (by decide) (by decide) rfl (pmt2 127 rfl (by decide +kernel)) rfl (dX_getfield (by decide +kernel)) (by decide +kernel), ?_⟩
  refine ⟨sn_iload_n (k := 1) (dX_iload_1 (by decide +kernel)) rfl (by decide +kernel), ?_⟩
  refine ⟨sn_iload_n (k := 2) (dX_iload_2 (by decide +kernel)) rfl (by decide +kernel), ?_⟩
  refine ⟨sn_ineg (dX_ineg (by decide +kernel)) (by decide +kernel), ?_⟩
  refine ⟨sn_callV (idx := 343) (C := RX10) (T := TX10) (N := 12) rfl (by decide) cal_161 (pmt5 24 rfl (by decide +kernel)) (pmt5 25 rfl (by decide +kernel)) (pmt5 26 rfl (by decide +kernel)) (dX_invokevirtual (by decide +kernel)) (by decide +kernel), ?_⟩
  refine ⟨sn_iconst (dX_iconst_0 (by decide +kernel)) (by decide +kernel), ?_⟩
  refine ⟨sn_istore (dX_istore (by decide +kernel)) (by decide) (by decide +kernel), ?_⟩
  refine ⟨sn_iload (dX_iload (by decide +kernel)) (by decide +kernel), ?_⟩
  refine ⟨sn_aload_n (k := 0) (dX_aload_0 (by decide +kernel)) rfl (by decide +kernel), ?_⟩
  refine ⟨sn_getf (C := RX11) (T := TX11) (N := 18) (idx := 44) rfl pin11 (by decide) (by decide) rfl (pmt2 124 rfl (by decide +kernel)) rfl (dX_getfield (by decide +kernel)) (by decide +kernel), ?_⟩
  refine ⟨sn_getf (C := RX0) (T := TX0) (N := 13) (idx := 270) rfl pin0 (by decide) (by decide) rfl (pmt1 150 rfl (by decide +kernel)) rfl (dX_getfield (by decide +kernel)) (by decide +kernel), ?_⟩
  refine ⟨sn_icmp_ge (off := 30) (dX_if_icmpge (by decide +kernel)) (by decide +kernel) (by decide +kernel), ?_⟩
  refine ⟨sn_aload_n (k := 0) (dX_aload_0 (by decide +kernel)) rfl (by decide +kernel), ?_⟩
  refine ⟨sn_getf (C := RX11) (T := TX11) (N := 18) (idx := 61) rfl pin11 (by decide) (by decide) rfl (pmt2 127 rfl (by decide +kernel)) rfl (dX_getfield (by decide +kernel)) (by decide +kernel), ?_⟩
  refine ⟨sn_iload (dX_iload (by decide +kernel)) (by decide +kernel), ?_⟩
  refine ⟨sn_iload_n (k := 1) (dX_iload_1 (by decide +kernel)) rfl (by decide +kernel), ?_⟩
  refine ⟨sn_iload_n (k := 3) (dX_iload_3 (by decide +kernel)) rfl (by decide +kernel), ?_⟩
  refine ⟨sn_aload_n (k := 0) (dX_aload_0 (by decide +kernel)) rfl (by decide +kernel), ?_⟩
  refine ⟨sn_getf (C := RX11) (T := TX11) (N := 18) (idx := 44) rfl pin11 (by decide) (by decide) rfl (pmt2 124 rfl (by decide +kernel)) rfl (dX_getfield (by decide +kernel)) (by decide +kernel), ?_⟩
  refine ⟨sn_iload (dX_iload (by decide +kernel)) (by decide +kernel), ?_⟩
  refine ⟨sn_callV (idx := 279) (C := RX0) (T := TX0) (N := 13) rfl (by decide) cal_101 (pmt4 140 rfl (by decide +kernel)) (pmt4 141 rfl (by decide +kernel)) (pmt4 142 rfl (by decide +kernel)) (dX_invokevirtual (by decide +kernel)) (by decide +kernel), ?_⟩
  refine ⟨sn_imul (dX_imul (by decide +kernel)) (by decide +kernel), ?_⟩
  refine ⟨sn_callV (idx := 322) (C := RX10) (T := TX10) (N := 12) rfl (by decide) cal_162 (pmt5 12 rfl (by decide +kernel)) (pmt5 13 rfl (by decide +kernel)) (pmt5 14 rfl (by decide +kernel)) (dX_invokevirtual (by decide +kernel)) (by decide +kernel), ?_⟩
  refine ⟨sn_iinc (dX_iinc (by decide +kernel)) (by decide) (by decide +kernel), ?_⟩
  refine ⟨sn_goto (off := -36) (dX_goto (by decide +kernel)) (by decide +kernel), ?_⟩
  refine ⟨sn_aload_n (k := 0) (dX_aload_0 (by decide +kernel)) rfl (by decide +kernel), ?_⟩
  refine ⟨sn_getf (C := RX11) (T := TX11) (N := 18) (idx := 61) rfl pin11 (by decide) (by decide) rfl (pmt2 127 rfl (by decide +kernel)) rfl (dX_getfield (by decide +kernel)) (by decide +kernel), ?_⟩
  refine ⟨sn_callV (idx := 310) (C := RX10) (T := TX10) (N := 12) rfl (by decide) cal_167 (pmt4 194 rfl (by decide +kernel)) (pmt4 195 rfl (by decide +kernel)) (pmt4 196 rfl (by decide +kernel)) (dX_invokevirtual (by decide +kernel)) (by decide +kernel), ?_⟩
  refine ⟨sn_zret (Or.inl rfl) (dX_ireturn (by decide +kernel)), ?_⟩
  trivial
set_option maxRecDepth 100000 in
set_option maxHeartbeats 4000000 in
theorem S_61 : pAll (pSk RX11 cX11_readyJourney 1 (some .int) PC_61) 0 C_61 := by
  refine ⟨sn_aload_n (k := 0) (dX_aload_0 (by decide +kernel)) rfl (by decide +kernel), ?_⟩
  refine ⟨sn_callV (idx := 390) (C := RX11) (T := TX11) (N := 18) rfl (by decide) cal_57 (pmt5 146 rfl (by decide +kernel)) (pmt5 148 rfl (by decide +kernel)) (pms 29 rfl rfl) (dX_invokevirtual (by decide +kernel)) (by decide +kernel), ?_⟩
  refine ⟨sn_if_ne (off := 6) (dX_ifne (by decide +kernel)) (by decide +kernel) (by decide +kernel), ?_⟩
  refine ⟨sn_bipush (dX_bipush (by decide +kernel)) (by decide +kernel) (by decide +kernel), ?_⟩
  refine ⟨sn_iret rfl (dX_ireturn (by decide +kernel)), ?_⟩
  refine ⟨sn_aload_n (k := 0) (dX_aload_0 (by decide +kernel)) rfl (by decide +kernel), ?_⟩
  refine ⟨sn_getf (C := RX11) (T := TX11) (N := 18) (idx := 44) rfl pin11 (by decide) (by decide) rfl (pmt2 124 rfl (by decide +kernel)) rfl (dX_getfield (by decide +kernel)) (by decide +kernel), ?_⟩
  refine ⟨sn_aload_n (k := 0) (dX_aload_0 (by decide +kernel)) rfl (by decide +kernel), ?_⟩
  refine ⟨sn_getf (C := RX11) (T := TX11) (N := 18) (idx := 93) rfl pin11 (by decide) (by decide) rfl (pmt2 132 rfl (by decide +kernel)) rfl (dX_getfield (by decide +kernel)) (by decide +kernel), ?_⟩
  refine ⟨sn_callV (idx := 472) (C := RX0) (T := TX0) (N := 13) rfl (by decide) cal_85 (pmt5 180 rfl (by decide +kernel)) (pmt5 181 rfl (by decide +kernel)) (pmt5 182 rfl (by decide +kernel)) (dX_invokevirtual (by decide +kernel)) (by decide +kernel), ?_⟩
  refine ⟨sn_if_eq (off := 20) (dX_ifeq (by decide +kernel)) (by decide +kernel) (by decide +kernel), ?_⟩
  refine ⟨sn_aload_n (k := 0) (dX_aload_0 (by decide +kernel)) rfl (by decide +kernel), ?_⟩
  refine ⟨sn_getf (C := RX11) (T := TX11) (N := 18) (idx := 37) rfl pin11 (by decide) (by decide) rfl (pmt2 123 rfl (by decide +kernel)) rfl (dX_getfield (by decide +kernel)) (by decide +kernel), ?_⟩
  refine ⟨sn_callV (idx := 227) (C := RX4) (T := TX4) (N := 2) rfl (by decide) cal_127 (pmt4 81 rfl (by decide +kernel)) (pmt4 82 rfl (by decide +kernel)) (pmt4 83 rfl (by decide +kernel)) (dX_invokevirtual (by decide +kernel)) (by decide +kernel), ?_⟩
  refine ⟨sn_aload_n (k := 0) (dX_aload_0 (by decide +kernel)) rfl (by decide +kernel), ?_⟩
  refine ⟨sn_getf (C := RX11) (T := TX11) (N := 18) (idx := 37) rfl pin11 (by decide) (by decide) rfl (pmt2 123 rfl (by decide +kernel)) rfl (dX_getfield (by decide +kernel)) (by decide +kernel), ?_⟩
  refine ⟨sn_iconst (dX_iconst_0 (by decide +kernel)) (by decide +kernel), ?_⟩
  refine ⟨sn_callV (idx := 230) (C := RX4) (T := TX4) (N := 2) rfl (by decide) cal_128 (pmt4 85 rfl (by decide +kernel)) (pmt4 86 rfl (by decide +kernel)) (pmt4 87 rfl (by decide +kernel)) (dX_invokevirtual (by decide +kernel)) (by decide +kernel), ?_⟩
  refine ⟨sn_iconst (dX_iconst_0 (by decide +kernel)) (by decide +kernel), ?_⟩
  refine ⟨sn_iret rfl (dX_ireturn (by decide +kernel)), ?_⟩
  refine ⟨sn_aload_n (k := 0) (dX_aload_0 (by decide +kernel)) rfl (by decide +kernel), ?_⟩
  refine ⟨sn_getf (C := RX11) (T := TX11) (N := 18) (idx := 44) rfl pin11 (by decide) (by decide) rfl (pmt2 124 rfl (by decide +kernel)) rfl (dX_getfield (by decide +kernel)) (by decide +kernel), ?_⟩
  refine ⟨sn_callV (idx := 300) (C := RX0) (T := TX0) (N := 13) rfl (by decide) cal_92 (pmt4 178 rfl (by decide +kernel)) (pmt4 179 rfl (by decide +kernel)) (pmt4 180 rfl (by decide +kernel)) (dX_invokevirtual (by decide +kernel)) (by decide +kernel), ?_⟩
  refine ⟨sn_if_ne (off := 21) (dX_ifne (by decide +kernel)) (by decide +kernel) (by decide +kernel), ?_⟩
  refine ⟨sn_aload_n (k := 0) (dX_aload_0 (by decide +kernel)) rfl (by decide +kernel), ?_⟩
  refine ⟨sn_getf (C := RX11) (T := TX11) (N := 18) (idx := 89) rfl pin11 (by decide) (by decide) rfl (pmt2 131 rfl (by decide +kernel)) rfl (dX_getfield (by decide +kernel)) (by decide +kernel), ?_⟩
  refine ⟨sn_aload_n (k := 0) (dX_aload_0 (by decide +kernel)) rfl (by decide +kernel), ?_⟩
  refine ⟨sn_getf (C := RX11) (T := TX11) (N := 18) (idx := 44) rfl pin11 (by decide) (by decide) rfl (pmt2 124 rfl (by decide +kernel)) rfl (dX_getfield (by decide +kernel)) (by decide +kernel), ?_⟩
  refine ⟨sn_aload_n (k := 0) (dX_aload_0 (by decide +kernel)) rfl (by decide +kernel), ?_⟩
  refine ⟨sn_getf (C := RX11) (T := TX11) (N := 18) (idx := 61) rfl pin11 (by decide) (by decide) rfl (pmt2 127 rfl (by decide +kernel)) rfl (dX_getfield (by decide +kernel)) (by decide +kernel), ?_⟩
  refine ⟨sn_callV (idx := 475) (C := RX2) (T := TX2) (N := 10) rfl (by decide) cal_112 (pmt5 184 rfl (by decide +kernel)) (pmt5 185 rfl (by decide +kernel)) (pmt5 186 rfl (by decide +kernel)) (dX_invokevirtual (by decide +kernel)) (by decide +kernel), ?_⟩
  refine ⟨sn_if_ne (off := 6) (dX_ifne (by decide +kernel)) (by decide +kernel) (by decide +kernel), ?_⟩
  refine ⟨sn_bipush (dX_bipush (by decide +kernel)) (by decide +kernel) (by decide +kernel), ?_⟩
  refine ⟨sn_iret rfl (dX_ireturn (by decide +kernel)), ?_⟩
  refine ⟨sn_aload_n (k := 0) (dX_aload_0 (by decide +kernel)) rfl (by decide +kernel), ?_⟩
  refine ⟨sn_getf (C := RX11) (T := TX11) (N := 18) (idx := 89) rfl pin11 (by decide) (by decide) rfl (pmt2 131 rfl (by decide +kernel)) rfl (dX_getfield (by decide +kernel)) (by decide +kernel), ?_⟩
  refine ⟨sn_aload_n (k := 0) (dX_aload_0 (by decide +kernel)) rfl (by decide +kernel), ?_⟩
  refine ⟨sn_getf (C := RX11) (T := TX11) (N := 18) (idx := 44) rfl pin11 (by decide) (by decide) rfl (pmt2 124 rfl (by decide +kernel)) rfl (dX_getfield (by decide +kernel)) (by decide +kernel), ?_⟩
  refine ⟨sn_aload_n (k := 0) (dX_aload_0 (by decide +kernel)) rfl (by decide +kernel), ?_⟩
  refine ⟨sn_getf (C := RX11) (T := TX11) (N := 18) (idx := 93) rfl pin11 (by decide) (by decide) rfl (pmt2 132 rfl (by decide +kernel)) rfl (dX_getfield (by decide +kernel)) (by decide +kernel), ?_⟩
  refine ⟨sn_callV (idx := 479) (C := RX2) (T := TX2) (N := 10) rfl (by decide) cal_113 (pmt5 192 rfl (by decide +kernel)) (pmt5 193 rfl (by decide +kernel)) (pmt5 194 rfl (by decide +kernel)) (dX_invokevirtual (by decide +kernel)) (by decide +kernel), ?_⟩
  refine ⟨sn_if_eq (off := 7) (dX_ifeq (by decide +kernel)) (by decide +kernel) (by decide +kernel), ?_⟩
  refine ⟨sn_iconst (dX_iconst_1 (by decide +kernel)) (by decide +kernel), ?_⟩
  refine ⟨sn_goto (off := 5) (dX_goto (by decide +kernel)) (by decide +kernel), ?_⟩
  refine ⟨sn_bipush (dX_bipush (by decide +kernel)) (by decide +kernel) (by decide +kernel), ?_⟩
  refine ⟨sn_iret rfl (dX_ireturn (by decide +kernel)), ?_⟩
  trivial
set_option maxRecDepth 100000 in
set_option maxHeartbeats 4000000 in
theorem S_62 : pAll (pSk RX0 cX0_become 2 none PC_62) 0 C_62 := by
  refine ⟨sn_aload_n (k := 1) (dX_aload_1 (by decide +kernel)) rfl (by decide +kernel), ?_⟩
  refine ⟨sn_getf (C := RX0) (T := TX0) (N := 13) (idx := 9) rfl pin0 (by decide) (by decide) rfl (pmt1 105 rfl (by decide +kernel)) rfl (dX_getfield (by decide +kernel)) (by decide +kernel), ?_⟩
  refine ⟨sn_aload_n (k := 0) (dX_aload_0 (by decide +kernel)) rfl (by decide +kernel), ?_⟩
  refine ⟨sn_getf (C := RX0) (T := TX0) (N := 13) (idx := 9) rfl pin0 (by decide) (by decide) rfl (pmt1 105 rfl (by decide +kernel)) rfl (dX_getfield (by decide +kernel)) (by decide +kernel), ?_⟩
  refine ⟨sn_callSN (idx := 39) (host := "SetsStayTogether") cal_48 (pnest_of 39) (pmt2 200 rfl (by decide +kernel)) (dX_invokestatic (by decide +kernel)) (by decide +kernel), ?_⟩
  refine ⟨sn_aload_n (k := 1) (dX_aload_1 (by decide +kernel)) rfl (by decide +kernel), ?_⟩
  refine ⟨sn_getf (C := RX0) (T := TX0) (N := 13) (idx := 15) rfl pin0 (by decide) (by decide) rfl (pmt1 109 rfl (by decide +kernel)) rfl (dX_getfield (by decide +kernel)) (by decide +kernel), ?_⟩
  refine ⟨sn_aload_n (k := 0) (dX_aload_0 (by decide +kernel)) rfl (by decide +kernel), ?_⟩
  refine ⟨sn_getf (C := RX0) (T := TX0) (N := 13) (idx := 15) rfl pin0 (by decide) (by decide) rfl (pmt1 109 rfl (by decide +kernel)) rfl (dX_getfield (by decide +kernel)) (by decide +kernel), ?_⟩
  refine ⟨sn_callSN (idx := 39) (host := "SetsStayTogether") cal_48 (pnest_of 39) (pmt2 200 rfl (by decide +kernel)) (dX_invokestatic (by decide +kernel)) (by decide +kernel), ?_⟩
  refine ⟨sn_aload_n (k := 1) (dX_aload_1 (by decide +kernel)) rfl (by decide +kernel), ?_⟩
  refine ⟨sn_getf (C := RX0) (T := TX0) (N := 13) (idx := 18) rfl pin0 (by decide) (by decide) rfl (pmt1 110 rfl (by decide +kernel)) rfl (dX_getfield (by decide +kernel)) (by decide +kernel), ?_⟩
  refine ⟨sn_aload_n (k := 0) (dX_aload_0 (by decide +kernel)) rfl (by decide +kernel), ?_⟩
  refine ⟨sn_getf (C := RX0) (T := TX0) (N := 13) (idx := 18) rfl pin0 (by decide) (by decide) rfl (pmt1 110 rfl (by decide +kernel)) rfl (dX_getfield (by decide +kernel)) (by decide +kernel), ?_⟩
  refine ⟨sn_callSN (idx := 39) (host := "SetsStayTogether") cal_48 (pnest_of 39) (pmt2 200 rfl (by decide +kernel)) (dX_invokestatic (by decide +kernel)) (by decide +kernel), ?_⟩
  refine ⟨sn_aload_n (k := 1) (dX_aload_1 (by decide +kernel)) rfl (by decide +kernel), ?_⟩
  refine ⟨sn_getf (C := RX0) (T := TX0) (N := 13) (idx := 21) rfl pin0 (by decide) (by decide) rfl (pmt1 113 rfl (by decide +kernel)) rfl (dX_getfield (by decide +kernel)) (by decide +kernel), ?_⟩
  refine ⟨sn_aload_n (k := 0) (dX_aload_0 (by decide +kernel)) rfl (by decide +kernel), ?_⟩
  refine ⟨sn_getf (C := RX0) (T := TX0) (N := 13) (idx := 21) rfl pin0 (by decide) (by decide) rfl (pmt1 113 rfl (by decide +kernel)) rfl (dX_getfield (by decide +kernel)) (by decide +kernel), ?_⟩
  refine ⟨sn_callSN (idx := 39) (host := "SetsStayTogether") cal_48 (pnest_of 39) (pmt2 200 rfl (by decide +kernel)) (dX_invokestatic (by decide +kernel)) (by decide +kernel), ?_⟩
  refine ⟨sn_aload_n (k := 1) (dX_aload_1 (by decide +kernel)) rfl (by decide +kernel), ?_⟩
  refine ⟨sn_getf (C := RX0) (T := TX0) (N := 13) (idx := 24) rfl pin0 (by decide) (by decide) rfl (pmt1 116 rfl (by decide +kernel)) rfl (dX_getfield (by decide +kernel)) (by decide +kernel), ?_⟩
  refine ⟨sn_aload_n (k := 0) (dX_aload_0 (by decide +kernel)) rfl (by decide +kernel), ?_⟩
  refine ⟨sn_getf (C := RX0) (T := TX0) (N := 13) (idx := 24) rfl pin0 (by decide) (by decide) rfl (pmt1 116 rfl (by decide +kernel)) rfl (dX_getfield (by decide +kernel)) (by decide +kernel), ?_⟩
  refine ⟨sn_callSN (idx := 39) (host := "SetsStayTogether") cal_48 (pnest_of 39) (pmt2 200 rfl (by decide +kernel)) (dX_invokestatic (by decide +kernel)) (by decide +kernel), ?_⟩
  refine ⟨sn_aload_n (k := 1) (dX_aload_1 (by decide +kernel)) rfl (by decide +kernel), ?_⟩
  refine ⟨sn_getf (C := RX0) (T := TX0) (N := 13) (idx := 27) rfl pin0 (by decide) (by decide) rfl (pmt1 119 rfl (by decide +kernel)) rfl (dX_getfield (by decide +kernel)) (by decide +kernel), ?_⟩
  refine ⟨sn_aload_n (k := 0) (dX_aload_0 (by decide +kernel)) rfl (by decide +kernel), ?_⟩
  refine ⟨sn_getf (C := RX0) (T := TX0) (N := 13) (idx := 27) rfl pin0 (by decide) (by decide) rfl (pmt1 119 rfl (by decide +kernel)) rfl (dX_getfield (by decide +kernel)) (by decide +kernel), ?_⟩
  refine ⟨sn_callSN (idx := 39) (host := "SetsStayTogether") cal_48 (pnest_of 39) (pmt2 200 rfl (by decide +kernel)) (dX_invokestatic (by decide +kernel)) (by decide +kernel), ?_⟩
  refine ⟨sn_aload_n (k := 1) (dX_aload_1 (by decide +kernel)) rfl (by decide +kernel), ?_⟩
  refine ⟨sn_getf (C := RX0) (T := TX0) (N := 13) (idx := 30) rfl pin0 (by decide) (by decide) rfl (pmt1 125 rfl (by decide +kernel)) rfl (dX_getfield (by decide +kernel)) (by decide +kernel), ?_⟩
  refine ⟨sn_aload_n (k := 0) (dX_aload_0 (by decide +kernel)) rfl (by decide +kernel), ?_⟩
  refine ⟨sn_getf (C := RX0) (T := TX0) (N := 13) (idx := 30) rfl pin0 (by decide) (by decide) rfl (pmt1 125 rfl (by decide +kernel)) rfl (dX_getfield (by decide +kernel)) (by decide +kernel), ?_⟩
  refine ⟨sn_callSN (idx := 39) (host := "SetsStayTogether") cal_48 (pnest_of 39) (pmt2 200 rfl (by decide +kernel)) (dX_invokestatic (by decide +kernel)) (by decide +kernel), ?_⟩
  refine ⟨sn_aload_n (k := 1) (dX_aload_1 (by decide +kernel)) rfl (by decide +kernel), ?_⟩
  refine ⟨sn_getf (C := RX0) (T := TX0) (N := 13) (idx := 33) rfl pin0 (by decide) (by decide) rfl (pmt1 127 rfl (by decide +kernel)) rfl (dX_getfield (by decide +kernel)) (by decide +kernel), ?_⟩
  refine ⟨sn_aload_n (k := 0) (dX_aload_0 (by decide +kernel)) rfl (by decide +kernel), ?_⟩
  refine ⟨sn_getf (C := RX0) (T := TX0) (N := 13) (idx := 33) rfl pin0 (by decide) (by decide) rfl (pmt1 127 rfl (by decide +kernel)) rfl (dX_getfield (by decide +kernel)) (by decide +kernel), ?_⟩
  refine ⟨sn_callSN (idx := 39) (host := "SetsStayTogether") cal_48 (pnest_of 39) (pmt2 200 rfl (by decide +kernel)) (dX_invokestatic (by decide +kernel)) (by decide +kernel), ?_⟩
  refine ⟨sn_aload_n (k := 1) (dX_aload_1 (by decide +kernel)) rfl (by decide +kernel), ?_⟩
  refine ⟨sn_getf (C := RX0) (T := TX0) (N := 13) (idx := 36) rfl pin0 (by decide) (by decide) rfl (pmt1 129 rfl (by decide +kernel)) rfl (dX_getfield (by decide +kernel)) (by decide +kernel), ?_⟩
  refine ⟨sn_aload_n (k := 0) (dX_aload_0 (by decide +kernel)) rfl (by decide +kernel), ?_⟩
  refine ⟨sn_getf (C := RX0) (T := TX0) (N := 13) (idx := 36) rfl pin0 (by decide) (by decide) rfl (pmt1 129 rfl (by decide +kernel)) rfl (dX_getfield (by decide +kernel)) (by decide +kernel), ?_⟩
  refine ⟨sn_callSN (idx := 39) (host := "SetsStayTogether") cal_48 (pnest_of 39) (pmt2 200 rfl (by decide +kernel)) (dX_invokestatic (by decide +kernel)) (by decide +kernel), ?_⟩
  refine ⟨sn_aload_n (k := 0) (dX_aload_0 (by decide +kernel)) rfl (by decide +kernel), ?_⟩
  refine ⟨sn_aload_n (k := 1) (dX_aload_1 (by decide +kernel)) rfl (by decide +kernel), ?_⟩
  refine ⟨sn_getf (C := RX0) (T := TX0) (N := 13) (idx := 43) rfl pin0 (by decide) (by decide) rfl (pmt1 135 rfl (by decide +kernel)) rfl (dX_getfield (by decide +kernel)) (by decide +kernel), ?_⟩
  refine ⟨sn_puti (C := RX0) (T := TX0) (N := 13) (idx := 43) rfl pin0 (by decide) (by decide) rfl tyX0 tyX0_ok nmX0 rfl rfl (by decide +kernel) (pmt1 135 rfl (by decide +kernel)) rfl (dX_putfield (by decide +kernel)) (by decide +kernel), ?_⟩
  refine ⟨sn_aload_n (k := 0) (dX_aload_0 (by decide +kernel)) rfl (by decide +kernel), ?_⟩
  refine ⟨sn_aload_n (k := 1) (dX_aload_1 (by decide +kernel)) rfl (by decide +kernel), ?_⟩
  refine ⟨sn_getf (C := RX0) (T := TX0) (N := 13) (idx := 47) rfl pin0 (by decide) (by decide) rfl (pmt1 139 rfl (by decide +kernel)) rfl (dX_getfield (by decide +kernel)) (by decide +kernel), ?_⟩
  refine ⟨sn_puti (C := RX0) (T := TX0) (N := 13) (idx := 47) rfl pin0 (by decide) (by decide) rfl tyX0 tyX0_ok nmX0 rfl rfl (by decide +kernel) (pmt1 139 rfl (by decide +kernel)) rfl (dX_putfield (by decide +kernel)) (by decide +kernel), ?_⟩
  refine ⟨sn_aload_n (k := 0) (dX_aload_0 (by decide +kernel)) rfl (by decide +kernel), ?_⟩
  refine ⟨sn_aload_n (k := 1) (dX_aload_1 (by decide +kernel)) rfl (by decide +kernel), ?_⟩
  refine ⟨sn_getf (C := RX0) (T := TX0) (N := 13) (idx := 50) rfl pin0 (by decide) (by decide) rfl (pmt1 144 rfl (by decide +kernel)) rfl (dX_getfield (by decide +kernel)) (by decide +kernel), ?_⟩
  refine ⟨sn_puti (C := RX0) (T := TX0) (N := 13) (idx := 50) rfl pin0 (by decide) (by decide) rfl tyX0 tyX0_ok nmX0 rfl rfl (by decide +kernel) (pmt1 144 rfl (by decide +kernel)) rfl (dX_putfield (by decide +kernel)) (by decide +kernel), ?_⟩
  refine ⟨sn_aload_n (k := 0) (dX_aload_0 (by decide +kernel)) rfl (by decide +kernel), ?_⟩
  refine ⟨sn_aload_n (k := 1) (dX_aload_1 (by decide +kernel)) rfl (by decide +kernel), ?_⟩
  refine ⟨sn_getf (C := RX0) (T := TX0) (N := 13) (idx := 53) rfl pin0 (by decide) (by decide) rfl (pmt1 149 rfl (by decide +kernel)) rfl (dX_getfield (by decide +kernel)) (by decide +kernel), ?_⟩
  refine ⟨sn_puti (C := RX0) (T := TX0) (N := 13) (idx := 53) rfl pin0 (by decide) (by decide) rfl tyX0 tyX0_ok nmX0 rfl rfl (by decide +kernel) (pmt1 149 rfl (by decide +kernel)) rfl (dX_putfield (by decide +kernel)) (by decide +kernel), ?_⟩
  refine ⟨sn_vret rfl (dX_return (by decide +kernel)), ?_⟩
  trivial
set_option maxRecDepth 100000 in
set_option maxHeartbeats 4000000 in
theorem S_63 : pAll (pSk RX0 cX0_isRoom 2 (some .boolean) PC_63) 0 C_63 := by
  refine ⟨sn_iload_n (k := 1) (dX_iload_1 (by decide +kernel)) rfl (by decide +kernel), ?_⟩
  refine ⟨sn_if_lt (off := 15) (dX_iflt (by decide +kernel)) (by decide +kernel) (by decide +kernel), ?_⟩
  refine ⟨sn_iload_n (k := 1) (dX_iload_1 (by decide +kernel)) rfl (by decide +kernel), ?_⟩
  refine ⟨sn_aload_n (k := 0) (dX_aload_0 (by decide +kernel)) rfl (by decide +kernel), ?_⟩
  refine ⟨sn_getf (C := RX0) (T := TX0) (N := 13) (idx := 43) rfl pin0 (by decide) (by decide) rfl (pmt1 135 rfl (by decide +kernel)) rfl (dX_getfield (by decide +kernel)) (by decide +kernel), ?_⟩
  refine ⟨sn_icmp_ge (off := 7) (dX_if_icmpge (by decide +kernel)) (by decide +kernel) (by decide +kernel), ?_⟩
  refine ⟨sn_iconst (dX_iconst_1 (by decide +kernel)) (by decide +kernel), ?_⟩
  refine ⟨sn_goto (off := 4) (dX_goto (by decide +kernel)) (by decide +kernel), ?_⟩
  refine ⟨sn_iconst (dX_iconst_0 (by decide +kernel)) (by decide +kernel), ?_⟩
  refine ⟨sn_zret (Or.inl rfl) (dX_ireturn (by decide +kernel)), ?_⟩
  trivial
set_option maxRecDepth 100000 in
set_option maxHeartbeats 4000000 in
theorem S_64 : pAll (pSk RX0 cX0_isThing 2 (some .boolean) PC_64) 0 C_64 := by
  refine ⟨sn_iload_n (k := 1) (dX_iload_1 (by decide +kernel)) rfl (by decide +kernel), ?_⟩
  refine ⟨sn_if_lt (off := 15) (dX_iflt (by decide +kernel)) (by decide +kernel) (by decide +kernel), ?_⟩
  refine ⟨sn_iload_n (k := 1) (dX_iload_1 (by decide +kernel)) rfl (by decide +kernel), ?_⟩
  refine ⟨sn_aload_n (k := 0) (dX_aload_0 (by decide +kernel)) rfl (by decide +kernel), ?_⟩
  refine ⟨sn_getf (C := RX0) (T := TX0) (N := 13) (idx := 47) rfl pin0 (by decide) (by decide) rfl (pmt1 139 rfl (by decide +kernel)) rfl (dX_getfield (by decide +kernel)) (by decide +kernel), ?_⟩
  refine ⟨sn_icmp_ge (off := 7) (dX_if_icmpge (by decide +kernel)) (by decide +kernel) (by decide +kernel), ?_⟩
  refine ⟨sn_iconst (dX_iconst_1 (by decide +kernel)) (by decide +kernel), ?_⟩
  refine ⟨sn_goto (off := 4) (dX_goto (by decide +kernel)) (by decide +kernel), ?_⟩
  refine ⟨sn_iconst (dX_iconst_0 (by decide +kernel)) (by decide +kernel), ?_⟩
  refine ⟨sn_zret (Or.inl rfl) (dX_ireturn (by decide +kernel)), ?_⟩
  trivial
set_option maxRecDepth 100000 in
set_option maxHeartbeats 4000000 in
theorem S_65 : pAll (pSk RX0 cX0_areUnlikeRooms 3 (some .boolean) PC_65) 0 C_65 := by
  refine ⟨sn_aload_n (k := 0) (dX_aload_0 (by decide +kernel)) rfl (by decide +kernel), ?_⟩
  refine ⟨sn_iload_n (k := 1) (dX_iload_1 (by decide +kernel)) rfl (by decide +kernel), ?_⟩
  refine ⟨sn_callV (idx := 56) (C := RX0) (T := TX0) (N := 13) rfl (by decide) cal_63 (pmt3 24 rfl (by decide +kernel)) (pmt3 25 rfl (by decide +kernel)) (pmt3 26 rfl (by decide +kernel)) (dX_invokevirtual (by decide +kernel)) (by decide +kernel), ?_⟩
  refine ⟨sn_if_eq (off := 20) (dX_ifeq (by decide +kernel)) (by decide +kernel) (by decide +kernel), ?_⟩
  refine ⟨sn_aload_n (k := 0) (dX_aload_0 (by decide +kernel)) rfl (by decide +kernel), ?_⟩
  refine ⟨sn_iload_n (k := 2) (dX_iload_2 (by decide +kernel)) rfl (by decide +kernel), ?_⟩
  refine ⟨sn_callV (idx := 56) (C := RX0) (T := TX0) (N := 13) rfl (by decide) cal_63 (pmt3 24 rfl (by decide +kernel)) (pmt3 25 rfl (by decide +kernel)) (pmt3 26 rfl (by decide +kernel)) (dX_invokevirtual (by decide +kernel)) (by decide +kernel), ?_⟩
  refine ⟨sn_if_eq (off := 12) (dX_ifeq (by decide +kernel)) (by decide +kernel) (by decide +kernel), ?_⟩
  refine ⟨sn_iload_n (k := 1) (dX_iload_1 (by decide +kernel)) rfl (by decide +kernel), ?_⟩
  refine ⟨sn_iload_n (k := 2) (dX_iload_2 (by decide +kernel)) rfl (by decide +kernel), ?_⟩
  refine ⟨sn_icmp_eq (off := 7) (dX_if_icmpeq (by decide +kernel)) (by decide +kernel) (by decide +kernel), ?_⟩
  refine ⟨sn_iconst (dX_iconst_1 (by decide +kernel)) (by decide +kernel), ?_⟩
  refine ⟨sn_goto (off := 4) (dX_goto (by decide +kernel)) (by decide +kernel), ?_⟩
  refine ⟨sn_iconst (dX_iconst_0 (by decide +kernel)) (by decide +kernel), ?_⟩
  refine ⟨sn_zret (Or.inl rfl) (dX_ireturn (by decide +kernel)), ?_⟩
  trivial
set_option maxRecDepth 100000 in
set_option maxHeartbeats 4000000 in
theorem S_66 : pAll (pSk RX0 cX0_allRooms 1 (some .int) PC_66) 0 C_66 := by
  refine ⟨sn_iconst (dX_iconst_1 (by decide +kernel)) (by decide +kernel), ?_⟩
  refine ⟨sn_aload_n (k := 0) (dX_aload_0 (by decide +kernel)) rfl (by decide +kernel), ?_⟩
  refine ⟨sn_getf (C := RX0) (T := TX0) (N := 13) (idx := 43) rfl pin0 (by decide) (by decide) rfl (pmt1 135 rfl (by decide +kernel)) rfl (dX_getfield (by decide +kernel)) (by decide +kernel), ?_⟩
  refine ⟨sn_ishl (dX_ishl (by decide +kernel)) (by decide +kernel), ?_⟩
  refine ⟨sn_iconst (dX_iconst_1 (by decide +kernel)) (by decide +kernel), ?_⟩
  refine ⟨sn_isub (dX_isub (by decide +kernel)) (by decide +kernel), ?_⟩
  refine ⟨sn_iret rfl (dX_ireturn (by decide +kernel)), ?_⟩
  trivial
set_option maxRecDepth 100000 in
set_option maxHeartbeats 4000000 in
theorem S_67 : pAll (pSk RX0 cX0_allThings 1 (some .int) PC_67) 0 C_67 := by
  refine ⟨sn_iconst (dX_iconst_1 (by decide +kernel)) (by decide +kernel), ?_⟩
  refine ⟨sn_aload_n (k := 0) (dX_aload_0 (by decide +kernel)) rfl (by decide +kernel), ?_⟩
  refine ⟨sn_getf (C := RX0) (T := TX0) (N := 13) (idx := 47) rfl pin0 (by decide) (by decide) rfl (pmt1 139 rfl (by decide +kernel)) rfl (dX_getfield (by decide +kernel)) (by decide +kernel), ?_⟩
  refine ⟨sn_ishl (dX_ishl (by decide +kernel)) (by decide +kernel), ?_⟩
  refine ⟨sn_iconst (dX_iconst_1 (by decide +kernel)) (by decide +kernel), ?_⟩
  refine ⟨sn_isub (dX_isub (by decide +kernel)) (by decide +kernel), ?_⟩
  refine ⟨sn_iret rfl (dX_ireturn (by decide +kernel)), ?_⟩
  trivial
set_option maxRecDepth 100000 in
set_option maxHeartbeats 4000000 in
theorem S_68 : pAll (pSk RX0 cX0_allSets 1 (some .int) PC_68) 0 C_68 := by
  refine ⟨sn_iconst (dX_iconst_1 (by decide +kernel)) (by decide +kernel), ?_⟩
  refine ⟨sn_aload_n (k := 0) (dX_aload_0 (by decide +kernel)) rfl (by decide +kernel), ?_⟩
  refine ⟨sn_getf (C := RX0) (T := TX0) (N := 13) (idx := 50) rfl pin0 (by decide) (by decide) rfl (pmt1 144 rfl (by decide +kernel)) rfl (dX_getfield (by decide +kernel)) (by decide +kernel), ?_⟩
  refine ⟨sn_ishl (dX_ishl (by decide +kernel)) (by decide +kernel), ?_⟩
  refine ⟨sn_iconst (dX_iconst_1 (by decide +kernel)) (by decide +kernel), ?_⟩
  refine ⟨sn_isub (dX_isub (by decide +kernel)) (by decide +kernel), ?_⟩
  refine ⟨sn_iret rfl (dX_ireturn (by decide +kernel)), ?_⟩
  trivial
set_option maxRecDepth 100000 in
set_option maxHeartbeats 4000000 in
theorem S_69 : pAll (pSk RX0 cX0_allClumps 1 (some .int) PC_69) 0 C_69 := by
  refine ⟨sn_iconst (dX_iconst_1 (by decide +kernel)) (by decide +kernel), ?_⟩
  refine ⟨sn_aload_n (k := 0) (dX_aload_0 (by decide +kernel)) rfl (by decide +kernel), ?_⟩
  refine ⟨sn_getf (C := RX0) (T := TX0) (N := 13) (idx := 53) rfl pin0 (by decide) (by decide) rfl (pmt1 149 rfl (by decide +kernel)) rfl (dX_getfield (by decide +kernel)) (by decide +kernel), ?_⟩
  refine ⟨sn_ishl (dX_ishl (by decide +kernel)) (by decide +kernel), ?_⟩
  refine ⟨sn_iconst (dX_iconst_1 (by decide +kernel)) (by decide +kernel), ?_⟩
  refine ⟨sn_isub (dX_isub (by decide +kernel)) (by decide +kernel), ?_⟩
  refine ⟨sn_iret rfl (dX_ireturn (by decide +kernel)), ?_⟩
  trivial
set_option maxRecDepth 100000 in
set_option maxHeartbeats 4000000 in
theorem S_70 : pAll (pSk RX0 cX0_addRoom 2 none PC_70) 0 C_70 := by
  refine ⟨sn_aload_n (k := 0) (dX_aload_0 (by decide +kernel)) rfl (by decide +kernel), ?_⟩
  refine ⟨sn_getf (C := RX0) (T := TX0) (N := 13) (idx := 43) rfl pin0 (by decide) (by decide) rfl (pmt1 135 rfl (by decide +kernel)) rfl (dX_getfield (by decide +kernel)) (by decide +kernel), ?_⟩
  refine ⟨sn_if_lt (off := 32) (dX_iflt (by decide +kernel)) (by decide +kernel) (by decide +kernel), ?_⟩
  refine ⟨sn_aload_n (k := 0) (dX_aload_0 (by decide +kernel)) rfl (by decide +kernel), ?_⟩
  refine ⟨sn_getf (C := RX0) (T := TX0) (N := 13) (idx := 43) rfl pin0 (by decide) (by decide) rfl (pmt1 135 rfl (by decide +kernel)) rfl (dX_getfield (by decide +kernel)) (by decide +kernel), ?_⟩
  refine ⟨sn_bipush (dX_bipush (by decide +kernel)) (by decide +kernel) (by decide +kernel), ?_⟩
  refine ⟨sn_icmp_ge (off := 23) (dX_if_icmpge (by decide +kernel)) (by decide +kernel) (by decide +kernel), ?_⟩
  refine ⟨sn_aload_n (k := 0) (dX_aload_0 (by decide +kernel)) rfl (by decide +kernel), ?_⟩
  refine ⟨sn_getf (C := RX0) (T := TX0) (N := 13) (idx := 9) rfl pin0 (by decide) (by decide) rfl (pmt1 105 rfl (by decide +kernel)) rfl (dX_getfield (by decide +kernel)) (by decide +kernel), ?_⟩
  refine ⟨sn_aload_n (k := 0) (dX_aload_0 (by decide +kernel)) rfl (by decide +kernel), ?_⟩
  refine ⟨sn_getf (C := RX0) (T := TX0) (N := 13) (idx := 43) rfl pin0 (by decide) (by decide) rfl (pmt1 135 rfl (by decide +kernel)) rfl (dX_getfield (by decide +kernel)) (by decide +kernel), ?_⟩
  refine ⟨sn_iload_n (k := 1) (dX_iload_1 (by decide +kernel)) rfl (by decide +kernel), ?_⟩
  refine ⟨sn_iast (dX_iastore (by decide +kernel)) (by decide +kernel), ?_⟩
  refine ⟨sn_aload_n (k := 0) (dX_aload_0 (by decide +kernel)) rfl (by decide +kernel), ?_⟩
  refine ⟨sn_dup (dX_dup (by decide +kernel)) (by decide +kernel), ?_⟩
  refine ⟨sn_getf (C := RX0) (T := TX0) (N := 13) (idx := 43) rfl pin0 (by decide) (by decide) rfl (pmt1 135 rfl (by decide +kernel)) rfl (dX_getfield (by decide +kernel)) (by decide +kernel), ?_⟩
  refine ⟨sn_iconst (dX_iconst_1 (by decide +kernel)) (by decide +kernel), ?_⟩
  refine ⟨sn_iadd (dX_iadd (by decide +kernel)) (by decide +kernel), ?_⟩
  refine ⟨sn_puti (C := RX0) (T := TX0) (N := 13) (idx := 43) rfl pin0 (by decide) (by decide) rfl tyX0 tyX0_ok nmX0 rfl rfl (by decide +kernel) (pmt1 135 rfl (by decide +kernel)) rfl (dX_putfield (by decide +kernel)) (by decide +kernel), ?_⟩
  refine ⟨sn_vret rfl (dX_return (by decide +kernel)), ?_⟩
  trivial
set_option maxRecDepth 100000 in
set_option maxHeartbeats 4000000 in
theorem S_71 : pAll (pSk RX0 cX0_addThing 5 none PC_71) 0 C_71 := by
  refine ⟨sn_aload_n (k := 0) (dX_aload_0 (by decide +kernel)) rfl (by decide +kernel), ?_⟩
  refine ⟨sn_getf (C := RX0) (T := TX0) (N := 13) (idx := 47) rfl pin0 (by decide) (by decide) rfl (pmt1 139 rfl (by decide +kernel)) rfl (dX_getfield (by decide +kernel)) (by decide +kernel), ?_⟩
  refine ⟨sn_if_lt (off := 63) (dX_iflt (by decide +kernel)) (by decide +kernel) (by decide +kernel), ?_⟩
  refine ⟨sn_aload_n (k := 0) (dX_aload_0 (by decide +kernel)) rfl (by decide +kernel), ?_⟩
  refine ⟨sn_getf (C := RX0) (T := TX0) (N := 13) (idx := 47) rfl pin0 (by decide) (by decide) rfl (pmt1 139 rfl (by decide +kernel)) rfl (dX_getfield (by decide +kernel)) (by decide +kernel), ?_⟩
  refine ⟨sn_bipush (dX_bipush (by decide +kernel)) (by decide +kernel) (by decide +kernel), ?_⟩
  refine ⟨sn_icmp_ge (off := 54) (dX_if_icmpge (by decide +kernel)) (by decide +kernel) (by decide +kernel), ?_⟩
  refine ⟨sn_aload_n (k := 0) (dX_aload_0 (by decide +kernel)) rfl (by decide +kernel), ?_⟩
  refine ⟨sn_getf (C := RX0) (T := TX0) (N := 13) (idx := 18) rfl pin0 (by decide) (by decide) rfl (pmt1 110 rfl (by decide +kernel)) rfl (dX_getfield (by decide +kernel)) (by decide +kernel), ?_⟩
  refine ⟨sn_aload_n (k := 0) (dX_aload_0 (by decide +kernel)) rfl (by decide +kernel), ?_⟩
  refine ⟨sn_getf (C := RX0) (T := TX0) (N := 13) (idx := 47) rfl pin0 (by decide) (by decide) rfl (pmt1 139 rfl (by decide +kernel)) rfl (dX_getfield (by decide +kernel)) (by decide +kernel), ?_⟩
  refine ⟨sn_iload_n (k := 1) (dX_iload_1 (by decide +kernel)) rfl (by decide +kernel), ?_⟩
  refine ⟨sn_iast (dX_iastore (by decide +kernel)) (by decide +kernel), ?_⟩
  refine ⟨sn_aload_n (k := 0) (dX_aload_0 (by decide +kernel)) rfl (by decide +kernel), ?_⟩
  refine ⟨sn_getf (C := RX0) (T := TX0) (N := 13) (idx := 21) rfl pin0 (by decide) (by decide) rfl (pmt1 113 rfl (by decide +kernel)) rfl (dX_getfield (by decide +kernel)) (by decide +kernel), ?_⟩
  refine ⟨sn_aload_n (k := 0) (dX_aload_0 (by decide +kernel)) rfl (by decide +kernel), ?_⟩
  refine ⟨sn_getf (C := RX0) (T := TX0) (N := 13) (idx := 47) rfl pin0 (by decide) (by decide) rfl (pmt1 139 rfl (by decide +kernel)) rfl (dX_getfield (by decide +kernel)) (by decide +kernel), ?_⟩
  refine ⟨sn_iload_n (k := 2) (dX_iload_2 (by decide +kernel)) rfl (by decide +kernel), ?_⟩
  refine ⟨sn_iast (dX_iastore (by decide +kernel)) (by decide +kernel), ?_⟩
  refine ⟨sn_aload_n (k := 0) (dX_aload_0 (by decide +kernel)) rfl (by decide +kernel), ?_⟩
  refine ⟨sn_getf (C := RX0) (T := TX0) (N := 13) (idx := 24) rfl pin0 (by decide) (by decide) rfl (pmt1 116 rfl (by decide +kernel)) rfl (dX_getfield (by decide +kernel)) (by decide +kernel), ?_⟩
  refine ⟨sn_aload_n (k := 0) (dX_aload_0 (by decide +kernel)) rfl (by decide +kernel), ?_⟩
  refine ⟨sn_getf (C := RX0) (T := TX0) (N := 13) (idx := 47) rfl pin0 (by decide) (by decide) rfl (pmt1 139 rfl (by decide +kernel)) rfl (dX_getfield (by decide +kernel)) (by decide +kernel), ?_⟩
  refine ⟨sn_iload_n (k := 3) (dX_iload_3 (by decide +kernel)) rfl (by decide +kernel), ?_⟩
  refine ⟨sn_iast (dX_iastore (by decide +kernel)) (by decide +kernel), ?_⟩
  refine ⟨sn_aload_n (k := 0) (dX_aload_0 (by decide +kernel)) rfl (by decide +kernel), ?_⟩
  refine ⟨sn_getf (C := RX0) (T := TX0) (N := 13) (idx := 27) rfl pin0 (by decide) (by decide) rfl (pmt1 119 rfl (by decide +kernel)) rfl (dX_getfield (by decide +kernel)) (by decide +kernel), ?_⟩
  refine ⟨sn_aload_n (k := 0) (dX_aload_0 (by decide +kernel)) rfl (by decide +kernel), ?_⟩
  refine ⟨sn_getf (C := RX0) (T := TX0) (N := 13) (idx := 47) rfl pin0 (by decide) (by decide) rfl (pmt1 139 rfl (by decide +kernel)) rfl (dX_getfield (by decide +kernel)) (by decide +kernel), ?_⟩
  refine ⟨sn_iload (dX_iload (by decide +kernel)) (by decide +kernel), ?_⟩
  refine ⟨sn_iast (dX_iastore (by decide +kernel)) (by decide +kernel), ?_⟩
  refine ⟨sn_aload_n (k := 0) (dX_aload_0 (by decide +kernel)) rfl (by decide +kernel), ?_⟩
  refine ⟨sn_dup (dX_dup (by decide +kernel)) (by decide +kernel), ?_⟩
  refine ⟨sn_getf (C := RX0) (T := TX0) (N := 13) (idx := 47) rfl pin0 (by decide) (by decide) rfl (pmt1 139 rfl (by decide +kernel)) rfl (dX_getfield (by decide +kernel)) (by decide +kernel), ?_⟩
  refine ⟨sn_iconst (dX_iconst_1 (by decide +kernel)) (by decide +kernel), ?_⟩
  refine ⟨sn_iadd (dX_iadd (by decide +kernel)) (by decide +kernel), ?_⟩
  refine ⟨sn_puti (C := RX0) (T := TX0) (N := 13) (idx := 47) rfl pin0 (by decide) (by decide) rfl tyX0 tyX0_ok nmX0 rfl rfl (by decide +kernel) (pmt1 139 rfl (by decide +kernel)) rfl (dX_putfield (by decide +kernel)) (by decide +kernel), ?_⟩
  refine ⟨sn_vret rfl (dX_return (by decide +kernel)), ?_⟩
  trivial
