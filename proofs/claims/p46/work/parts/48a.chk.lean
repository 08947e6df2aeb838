/-! the checks (by program) -/
set_option maxRecDepth 100000 in
theorem o_0 : okK 152 K_0 := okK_of (C := C_152) (fuel := 3000) rfl (A := A_152) Q_152 (ann := []) (spl := [(0, [(129, 76)])]) (mo := []) (by decide) (by decide +kernel)
set_option maxRecDepth 100000 in
theorem o_1 : okK 0 K_1 := okK_of (C := C_0) (fuel := 3000) rfl (A := A_0) Q_0 (ann := []) (spl := []) (mo := []) (by decide) (by decide +kernel)
set_option maxRecDepth 100000 in
theorem o_2 : okK 153 K_2 := okK_of (C := C_153) (fuel := 3000) rfl (A := A_153) Q_153 (ann := []) (spl := []) (mo := []) (by decide) (by decide +kernel)
set_option maxRecDepth 100000 in
theorem o_3 : okK 1 K_3 := okK_of (C := C_1) (fuel := 3000) rfl (A := A_1) Q_1 (ann := []) (spl := []) (mo := []) (by decide) (by decide +kernel)
def N_4 : aAnn := [(2, [(([(3, 10, 0, 0, 0, 1), (3, 20, 0, 0, 0, 2), (0, 0, 6, 0, 0, 0)], [], []), (6, [(-1, 3)]))])]
set_option maxRecDepth 100000 in
theorem o_4 : okK 48 K_4 := okK_of (C := C_48) (fuel := 3000) rfl (A := A_48) Q_48 (ann := N_4) (spl := []) (mo := []) (by decide) (by decide +kernel)
def N_5 : aAnn := [(2, [(([(3, 11, 0, 0, 0, 1), (3, 21, 0, 0, 0, 2), (0, 0, 36, 0, 0, 0)], [], []), (36, [(-1, 3)]))])]
set_option maxRecDepth 100000 in
theorem o_5 : okK 48 K_5 := okK_of (C := C_48) (fuel := 3000) rfl (A := A_48) Q_48 (ann := N_5) (spl := []) (mo := []) (by decide) (by decide +kernel)
def N_6 : aAnn := [(2, [(([(3, 12, 0, 0, 0, 1), (3, 22, 0, 0, 0, 2), (0, 0, 10, 0, 0, 0)], [], []), (10, [(-1, 3)]))])]
set_option maxRecDepth 100000 in
theorem o_6 : okK 48 K_6 := okK_of (C := C_48) (fuel := 3000) rfl (A := A_48) Q_48 (ann := N_6) (spl := []) (mo := []) (by decide) (by decide +kernel)
def N_7 : aAnn := [(2, [(([(3, 13, 0, 0, 0, 1), (3, 23, 0, 0, 0, 2), (0, 0, 10, 0, 0, 0)], [], []), (10, [(-1, 3)]))])]
set_option maxRecDepth 100000 in
theorem o_7 : okK 48 K_7 := okK_of (C := C_48) (fuel := 3000) rfl (A := A_48) Q_48 (ann := N_7) (spl := []) (mo := []) (by decide) (by decide +kernel)
def N_8 : aAnn := [(2, [(([(3, 14, 0, 0, 0, 1), (3, 24, 0, 0, 0, 2), (0, 0, 10, 0, 0, 0)], [], []), (10, [(-1, 3)]))])]
set_option maxRecDepth 100000 in
theorem o_8 : okK 48 K_8 := okK_of (C := C_48) (fuel := 3000) rfl (A := A_48) Q_48 (ann := N_8) (spl := []) (mo := []) (by decide) (by decide +kernel)
def N_9 : aAnn := [(2, [(([(3, 15, 0, 0, 0, 1), (3, 25, 0, 0, 0, 2), (0, 0, 10, 0, 0, 0)], [], []), (10, [(-1, 3)]))])]
set_option maxRecDepth 100000 in
theorem o_9 : okK 48 K_9 := okK_of (C := C_48) (fuel := 3000) rfl (A := A_48) Q_48 (ann := N_9) (spl := []) (mo := []) (by decide) (by decide +kernel)
def N_10 : aAnn := [(2, [(([(3, 16, 0, 0, 0, 1), (3, 26, 0, 0, 0, 2), (0, 0, 8, 0, 0, 0)], [], []), (8, [(-1, 3)]))])]
set_option maxRecDepth 100000 in
theorem o_10 : okK 48 K_10 := okK_of (C := C_48) (fuel := 3000) rfl (A := A_48) Q_48 (ann := N_10) (spl := []) (mo := []) (by decide) (by decide +kernel)
def N_11 : aAnn := [(2, [(([(3, 17, 0, 0, 0, 1), (3, 27, 0, 0, 0, 2), (0, 0, 10, 0, 0, 0)], [], []), (10, [(-1, 3)]))])]
set_option maxRecDepth 100000 in
theorem o_11 : okK 48 K_11 := okK_of (C := C_48) (fuel := 3000) rfl (A := A_48) Q_48 (ann := N_11) (spl := []) (mo := []) (by decide) (by decide +kernel)
def N_12 : aAnn := [(2, [(([(3, 18, 0, 0, 0, 1), (3, 28, 0, 0, 0, 2), (0, 0, 10, 0, 0, 0)], [], []), (10, [(-1, 3)]))])]
set_option maxRecDepth 100000 in
theorem o_12 : okK 48 K_12 := okK_of (C := C_48) (fuel := 3000) rfl (A := A_48) Q_48 (ann := N_12) (spl := []) (mo := []) (by decide) (by decide +kernel)
set_option maxRecDepth 100000 in
theorem o_13 : okK 62 K_13 := okK_of (C := C_62) (fuel := 3000) rfl (A := A_62) Q_62 (ann := []) (spl := []) (mo := []) (by decide) (by decide +kernel)
set_option maxRecDepth 100000 in
theorem o_14 : okK 132 K_14 := okK_of (C := C_132) (fuel := 3000) rfl (A := A_132) Q_132 (ann := []) (spl := []) (mo := []) (by decide) (by decide +kernel)
set_option maxRecDepth 100000 in
theorem o_15 : okK 133 K_15 := okK_of (C := C_133) (fuel := 3000) rfl (A := A_133) Q_133 (ann := []) (spl := []) (mo := []) (by decide) (by decide +kernel)
set_option maxRecDepth 100000 in
theorem o_16 : okK 138 K_16 := okK_of (C := C_138) (fuel := 3000) rfl (A := A_138) Q_138 (ann := []) (spl := []) (mo := []) (by decide) (by decide +kernel)
set_option maxRecDepth 100000 in
theorem o_17 : okK 135 K_17 := okK_of (C := C_135) (fuel := 3000) rfl (A := A_135) Q_135 (ann := []) (spl := []) (mo := []) (by decide) (by decide +kernel)
set_option maxRecDepth 100000 in
theorem o_18 : okK 135 K_18 := okK_of (C := C_135) (fuel := 3000) rfl (A := A_135) Q_135 (ann := []) (spl := []) (mo := []) (by decide) (by decide +kernel)
set_option maxRecDepth 100000 in
theorem o_19 : okK 141 K_19 := okK_of (C := C_141) (fuel := 3000) rfl (A := A_141) Q_141 (ann := []) (spl := []) (mo := []) (by decide) (by decide +kernel)
set_option maxRecDepth 100000 in
theorem o_20 : okK 141 K_20 := okK_of (C := C_141) (fuel := 3000) rfl (A := A_141) Q_141 (ann := []) (spl := []) (mo := []) (by decide) (by decide +kernel)
set_option maxRecDepth 100000 in
theorem o_21 : okK 139 K_21 := okK_of (C := C_139) (fuel := 3000) rfl (A := A_139) Q_139 (ann := []) (spl := []) (mo := []) (by decide) (by decide +kernel)
set_option maxRecDepth 100000 in
theorem o_22 : okK 133 K_22 := okK_of (C := C_133) (fuel := 3000) rfl (A := A_133) Q_133 (ann := []) (spl := []) (mo := []) (by decide) (by decide +kernel)
set_option maxRecDepth 100000 in
theorem o_23 : okK 138 K_23 := okK_of (C := C_138) (fuel := 3000) rfl (A := A_138) Q_138 (ann := []) (spl := []) (mo := []) (by decide) (by decide +kernel)
set_option maxRecDepth 100000 in
theorem o_24 : okK 133 K_24 := okK_of (C := C_133) (fuel := 3000) rfl (A := A_133) Q_133 (ann := []) (spl := []) (mo := []) (by decide) (by decide +kernel)
set_option maxRecDepth 100000 in
theorem o_25 : okK 138 K_25 := okK_of (C := C_138) (fuel := 3000) rfl (A := A_138) Q_138 (ann := []) (spl := []) (mo := []) (by decide) (by decide +kernel)
set_option maxRecDepth 100000 in
theorem o_26 : okK 135 K_26 := okK_of (C := C_135) (fuel := 3000) rfl (A := A_135) Q_135 (ann := []) (spl := []) (mo := []) (by decide) (by decide +kernel)
set_option maxRecDepth 100000 in
theorem o_27 : okK 133 K_27 := okK_of (C := C_133) (fuel := 3000) rfl (A := A_133) Q_133 (ann := []) (spl := []) (mo := []) (by decide) (by decide +kernel)
set_option maxRecDepth 100000 in
theorem o_28 : okK 135 K_28 := okK_of (C := C_135) (fuel := 3000) rfl (A := A_135) Q_135 (ann := []) (spl := []) (mo := []) (by decide) (by decide +kernel)
set_option maxRecDepth 100000 in
theorem o_29 : okK 141 K_29 := okK_of (C := C_141) (fuel := 3000) rfl (A := A_141) Q_141 (ann := []) (spl := []) (mo := []) (by decide) (by decide +kernel)
set_option maxRecDepth 100000 in
theorem o_30 : okK 141 K_30 := okK_of (C := C_141) (fuel := 3000) rfl (A := A_141) Q_141 (ann := []) (spl := []) (mo := []) (by decide) (by decide +kernel)
set_option maxRecDepth 100000 in
theorem o_31 : okK 139 K_31 := okK_of (C := C_139) (fuel := 3000) rfl (A := A_139) Q_139 (ann := []) (spl := []) (mo := []) (by decide) (by decide +kernel)
set_option maxRecDepth 100000 in
theorem o_32 : okK 135 K_32 := okK_of (C := C_135) (fuel := 3000) rfl (A := A_135) Q_135 (ann := []) (spl := []) (mo := []) (by decide) (by decide +kernel)
set_option maxRecDepth 100000 in
theorem o_33 : okK 135 K_33 := okK_of (C := C_135) (fuel := 3000) rfl (A := A_135) Q_135 (ann := []) (spl := []) (mo := []) (by decide) (by decide +kernel)
set_option maxRecDepth 100000 in
theorem o_34 : okK 142 K_34 := okK_of (C := C_142) (fuel := 3000) rfl (A := A_142) Q_142 (ann := []) (spl := []) (mo := []) (by decide) (by decide +kernel)
set_option maxRecDepth 100000 in
theorem o_35 : okK 135 K_35 := okK_of (C := C_135) (fuel := 3000) rfl (A := A_135) Q_135 (ann := []) (spl := []) (mo := []) (by decide) (by decide +kernel)
set_option maxRecDepth 100000 in
theorem o_36 : okK 137 K_36 := okK_of (C := C_137) (fuel := 3000) rfl (A := A_137) Q_137 (ann := []) (spl := []) (mo := []) (by decide) (by decide +kernel)
set_option maxRecDepth 100000 in
theorem o_37 : okK 141 K_37 := okK_of (C := C_141) (fuel := 3000) rfl (A := A_141) Q_141 (ann := []) (spl := []) (mo := []) (by decide) (by decide +kernel)
set_option maxRecDepth 100000 in
theorem o_38 : okK 139 K_38 := okK_of (C := C_139) (fuel := 3000) rfl (A := A_139) Q_139 (ann := []) (spl := []) (mo := []) (by decide) (by decide +kernel)
set_option maxRecDepth 100000 in
theorem o_39 : okK 137 K_39 := okK_of (C := C_137) (fuel := 3000) rfl (A := A_137) Q_137 (ann := []) (spl := []) (mo := []) (by decide) (by decide +kernel)
set_option maxRecDepth 100000 in
theorem o_40 : okK 141 K_40 := okK_of (C := C_141) (fuel := 3000) rfl (A := A_141) Q_141 (ann := []) (spl := []) (mo := []) (by decide) (by decide +kernel)
set_option maxRecDepth 100000 in
theorem o_41 : okK 139 K_41 := okK_of (C := C_139) (fuel := 3000) rfl (A := A_139) Q_139 (ann := []) (spl := []) (mo := []) (by decide) (by decide +kernel)
set_option maxRecDepth 100000 in
theorem o_42 : okK 135 K_42 := okK_of (C := C_135) (fuel := 3000) rfl (A := A_135) Q_135 (ann := []) (spl := []) (mo := []) (by decide) (by decide +kernel)
set_option maxRecDepth 100000 in
theorem o_43 : okK 137 K_43 := okK_of (C := C_137) (fuel := 3000) rfl (A := A_137) Q_137 (ann := []) (spl := []) (mo := []) (by decide) (by decide +kernel)
set_option maxRecDepth 100000 in
theorem o_44 : okK 133 K_44 := okK_of (C := C_133) (fuel := 3000) rfl (A := A_133) Q_133 (ann := []) (spl := []) (mo := []) (by decide) (by decide +kernel)
set_option maxRecDepth 100000 in
theorem o_45 : okK 141 K_45 := okK_of (C := C_141) (fuel := 3000) rfl (A := A_141) Q_141 (ann := []) (spl := []) (mo := []) (by decide) (by decide +kernel)
set_option maxRecDepth 100000 in
theorem o_46 : okK 139 K_46 := okK_of (C := C_139) (fuel := 3000) rfl (A := A_139) Q_139 (ann := []) (spl := []) (mo := []) (by decide) (by decide +kernel)
set_option maxRecDepth 100000 in
theorem o_47 : okK 137 K_47 := okK_of (C := C_137) (fuel := 3000) rfl (A := A_137) Q_137 (ann := []) (spl := []) (mo := []) (by decide) (by decide +kernel)
set_option maxRecDepth 100000 in
theorem o_48 : okK 141 K_48 := okK_of (C := C_141) (fuel := 3000) rfl (A := A_141) Q_141 (ann := []) (spl := []) (mo := []) (by decide) (by decide +kernel)
set_option maxRecDepth 100000 in
theorem o_49 : okK 139 K_49 := okK_of (C := C_139) (fuel := 3000) rfl (A := A_139) Q_139 (ann := []) (spl := []) (mo := []) (by decide) (by decide +kernel)
set_option maxRecDepth 100000 in
theorem o_50 : okK 135 K_50 := okK_of (C := C_135) (fuel := 3000) rfl (A := A_135) Q_135 (ann := []) (spl := []) (mo := []) (by decide) (by decide +kernel)
set_option maxRecDepth 100000 in
theorem o_51 : okK 137 K_51 := okK_of (C := C_137) (fuel := 3000) rfl (A := A_137) Q_137 (ann := []) (spl := []) (mo := []) (by decide) (by decide +kernel)
set_option maxRecDepth 100000 in
theorem o_52 : okK 133 K_52 := okK_of (C := C_133) (fuel := 3000) rfl (A := A_133) Q_133 (ann := []) (spl := []) (mo := []) (by decide) (by decide +kernel)
set_option maxRecDepth 100000 in
theorem o_53 : okK 135 K_53 := okK_of (C := C_135) (fuel := 3000) rfl (A := A_135) Q_135 (ann := []) (spl := []) (mo := []) (by decide) (by decide +kernel)
set_option maxRecDepth 100000 in
theorem o_54 : okK 141 K_54 := okK_of (C := C_141) (fuel := 3000) rfl (A := A_141) Q_141 (ann := []) (spl := []) (mo := []) (by decide) (by decide +kernel)
set_option maxRecDepth 100000 in
theorem o_55 : okK 141 K_55 := okK_of (C := C_141) (fuel := 3000) rfl (A := A_141) Q_141 (ann := []) (spl := []) (mo := []) (by decide) (by decide +kernel)
set_option maxRecDepth 100000 in
theorem o_56 : okK 139 K_56 := okK_of (C := C_139) (fuel := 3000) rfl (A := A_139) Q_139 (ann := []) (spl := []) (mo := []) (by decide) (by decide +kernel)
set_option maxRecDepth 100000 in
theorem o_57 : okK 135 K_57 := okK_of (C := C_135) (fuel := 3000) rfl (A := A_135) Q_135 (ann := []) (spl := []) (mo := []) (by decide) (by decide +kernel)
set_option maxRecDepth 100000 in
theorem o_58 : okK 137 K_58 := okK_of (C := C_137) (fuel := 3000) rfl (A := A_137) Q_137 (ann := []) (spl := []) (mo := []) (by decide) (by decide +kernel)
set_option maxRecDepth 100000 in
theorem o_59 : okK 133 K_59 := okK_of (C := C_133) (fuel := 3000) rfl (A := A_133) Q_133 (ann := []) (spl := []) (mo := []) (by decide) (by decide +kernel)
set_option maxRecDepth 100000 in
theorem o_60 : okK 141 K_60 := okK_of (C := C_141) (fuel := 3000) rfl (A := A_141) Q_141 (ann := []) (spl := []) (mo := []) (by decide) (by decide +kernel)
set_option maxRecDepth 100000 in
theorem o_61 : okK 139 K_61 := okK_of (C := C_139) (fuel := 3000) rfl (A := A_139) Q_139 (ann := []) (spl := []) (mo := []) (by decide) (by decide +kernel)
set_option maxRecDepth 100000 in
theorem o_62 : okK 137 K_62 := okK_of (C := C_137) (fuel := 3000) rfl (A := A_137) Q_137 (ann := []) (spl := []) (mo := []) (by decide) (by decide +kernel)
set_option maxRecDepth 100000 in
theorem o_63 : okK 141 K_63 := okK_of (C := C_141) (fuel := 3000) rfl (A := A_141) Q_141 (ann := []) (spl := []) (mo := []) (by decide) (by decide +kernel)
set_option maxRecDepth 100000 in
theorem o_64 : okK 139 K_64 := okK_of (C := C_139) (fuel := 3000) rfl (A := A_139) Q_139 (ann := []) (spl := []) (mo := []) (by decide) (by decide +kernel)
set_option maxRecDepth 100000 in
theorem o_65 : okK 133 K_65 := okK_of (C := C_133) (fuel := 3000) rfl (A := A_133) Q_133 (ann := []) (spl := []) (mo := []) (by decide) (by decide +kernel)
set_option maxRecDepth 100000 in
theorem o_66 : okK 135 K_66 := okK_of (C := C_135) (fuel := 3000) rfl (A := A_135) Q_135 (ann := []) (spl := []) (mo := []) (by decide) (by decide +kernel)
set_option maxRecDepth 100000 in
theorem o_67 : okK 135 K_67 := okK_of (C := C_135) (fuel := 3000) rfl (A := A_135) Q_135 (ann := []) (spl := []) (mo := []) (by decide) (by decide +kernel)
set_option maxRecDepth 100000 in
theorem o_68 : okK 137 K_68 := okK_of (C := C_137) (fuel := 3000) rfl (A := A_137) Q_137 (ann := []) (spl := []) (mo := []) (by decide) (by decide +kernel)
set_option maxRecDepth 100000 in
theorem o_69 : okK 133 K_69 := okK_of (C := C_133) (fuel := 3000) rfl (A := A_133) Q_133 (ann := []) (spl := []) (mo := []) (by decide) (by decide +kernel)
set_option maxRecDepth 100000 in
theorem o_70 : okK 135 K_70 := okK_of (C := C_135) (fuel := 3000) rfl (A := A_135) Q_135 (ann := []) (spl := []) (mo := []) (by decide) (by decide +kernel)
set_option maxRecDepth 100000 in
theorem o_71 : okK 141 K_71 := okK_of (C := C_141) (fuel := 3000) rfl (A := A_141) Q_141 (ann := []) (spl := []) (mo := []) (by decide) (by decide +kernel)
set_option maxRecDepth 100000 in
theorem o_72 : okK 141 K_72 := okK_of (C := C_141) (fuel := 3000) rfl (A := A_141) Q_141 (ann := []) (spl := []) (mo := []) (by decide) (by decide +kernel)
set_option maxRecDepth 100000 in
theorem o_73 : okK 139 K_73 := okK_of (C := C_139) (fuel := 3000) rfl (A := A_139) Q_139 (ann := []) (spl := []) (mo := []) (by decide) (by decide +kernel)
set_option maxRecDepth 100000 in
theorem o_74 : okK 135 K_74 := okK_of (C := C_135) (fuel := 3000) rfl (A := A_135) Q_135 (ann := []) (spl := []) (mo := []) (by decide) (by decide +kernel)
set_option maxRecDepth 100000 in
theorem o_75 : okK 137 K_75 := okK_of (C := C_137) (fuel := 3000) rfl (A := A_137) Q_137 (ann := []) (spl := []) (mo := []) (by decide) (by decide +kernel)
set_option maxRecDepth 100000 in
theorem o_76 : okK 133 K_76 := okK_of (C := C_133) (fuel := 3000) rfl (A := A_133) Q_133 (ann := []) (spl := []) (mo := []) (by decide) (by decide +kernel)
set_option maxRecDepth 100000 in
theorem o_77 : okK 141 K_77 := okK_of (C := C_141) (fuel := 3000) rfl (A := A_141) Q_141 (ann := []) (spl := []) (mo := []) (by decide) (by decide +kernel)
set_option maxRecDepth 100000 in
theorem o_78 : okK 139 K_78 := okK_of (C := C_139) (fuel := 3000) rfl (A := A_139) Q_139 (ann := []) (spl := []) (mo := []) (by decide) (by decide +kernel)
set_option maxRecDepth 100000 in
theorem o_79 : okK 133 K_79 := okK_of (C := C_133) (fuel := 3000) rfl (A := A_133) Q_133 (ann := []) (spl := []) (mo := []) (by decide) (by decide +kernel)
set_option maxRecDepth 100000 in
theorem o_80 : okK 135 K_80 := okK_of (C := C_135) (fuel := 3000) rfl (A := A_135) Q_135 (ann := []) (spl := []) (mo := []) (by decide) (by decide +kernel)
set_option maxRecDepth 100000 in
theorem o_81 : okK 135 K_81 := okK_of (C := C_135) (fuel := 3000) rfl (A := A_135) Q_135 (ann := []) (spl := []) (mo := []) (by decide) (by decide +kernel)
set_option maxRecDepth 100000 in
theorem o_82 : okK 137 K_82 := okK_of (C := C_137) (fuel := 3000) rfl (A := A_137) Q_137 (ann := []) (spl := []) (mo := []) (by decide) (by decide +kernel)
set_option maxRecDepth 100000 in
theorem o_83 : okK 133 K_83 := okK_of (C := C_133) (fuel := 3000) rfl (A := A_133) Q_133 (ann := []) (spl := []) (mo := []) (by decide) (by decide +kernel)
set_option maxRecDepth 100000 in
theorem o_84 : okK 135 K_84 := okK_of (C := C_135) (fuel := 3000) rfl (A := A_135) Q_135 (ann := []) (spl := []) (mo := []) (by decide) (by decide +kernel)
set_option maxRecDepth 100000 in
theorem o_85 : okK 141 K_85 := okK_of (C := C_141) (fuel := 3000) rfl (A := A_141) Q_141 (ann := []) (spl := []) (mo := []) (by decide) (by decide +kernel)
set_option maxRecDepth 100000 in
theorem o_86 : okK 141 K_86 := okK_of (C := C_141) (fuel := 3000) rfl (A := A_141) Q_141 (ann := []) (spl := []) (mo := []) (by decide) (by decide +kernel)
set_option maxRecDepth 100000 in
theorem o_87 : okK 139 K_87 := okK_of (C := C_139) (fuel := 3000) rfl (A := A_139) Q_139 (ann := []) (spl := []) (mo := []) (by decide) (by decide +kernel)
set_option maxRecDepth 100000 in
theorem o_88 : okK 71 K_88 := okK_of (C := C_71) (fuel := 3000) rfl (A := A_71) Q_71 (ann := []) (spl := []) (mo := []) (by decide) (by decide +kernel)
set_option maxRecDepth 100000 in
theorem o_89 : okK 137 K_89 := okK_of (C := C_137) (fuel := 3000) rfl (A := A_137) Q_137 (ann := []) (spl := []) (mo := []) (by decide) (by decide +kernel)
set_option maxRecDepth 100000 in
theorem o_90 : okK 133 K_90 := okK_of (C := C_133) (fuel := 3000) rfl (A := A_133) Q_133 (ann := []) (spl := []) (mo := []) (by decide) (by decide +kernel)
set_option maxRecDepth 100000 in
theorem o_91 : okK 141 K_91 := okK_of (C := C_141) (fuel := 3000) rfl (A := A_141) Q_141 (ann := []) (spl := []) (mo := []) (by decide) (by decide +kernel)
set_option maxRecDepth 100000 in
theorem o_92 : okK 139 K_92 := okK_of (C := C_139) (fuel := 3000) rfl (A := A_139) Q_139 (ann := []) (spl := []) (mo := []) (by decide) (by decide +kernel)
set_option maxRecDepth 100000 in
theorem o_93 : okK 137 K_93 := okK_of (C := C_137) (fuel := 3000) rfl (A := A_137) Q_137 (ann := []) (spl := []) (mo := []) (by decide) (by decide +kernel)
set_option maxRecDepth 100000 in
theorem o_94 : okK 141 K_94 := okK_of (C := C_141) (fuel := 3000) rfl (A := A_141) Q_141 (ann := []) (spl := []) (mo := []) (by decide) (by decide +kernel)
set_option maxRecDepth 100000 in
theorem o_95 : okK 139 K_95 := okK_of (C := C_139) (fuel := 3000) rfl (A := A_139) Q_139 (ann := []) (spl := []) (mo := []) (by decide) (by decide +kernel)
set_option maxRecDepth 100000 in
theorem o_96 : okK 110 K_96 := okK_of (C := C_110) (fuel := 3000) rfl (A := A_110) Q_110 (ann := []) (spl := []) (mo := []) (by decide) (by decide +kernel)
set_option maxRecDepth 100000 in
theorem o_97 : okK 133 K_97 := okK_of (C := C_133) (fuel := 3000) rfl (A := A_133) Q_133 (ann := []) (spl := []) (mo := []) (by decide) (by decide +kernel)
set_option maxRecDepth 100000 in
theorem o_98 : okK 138 K_98 := okK_of (C := C_138) (fuel := 3000) rfl (A := A_138) Q_138 (ann := []) (spl := []) (mo := []) (by decide) (by decide +kernel)
set_option maxRecDepth 100000 in
theorem o_99 : okK 141 K_99 := okK_of (C := C_141) (fuel := 3000) rfl (A := A_141) Q_141 (ann := []) (spl := []) (mo := []) (by decide) (by decide +kernel)
set_option maxRecDepth 100000 in
theorem o_100 : okK 141 K_100 := okK_of (C := C_141) (fuel := 3000) rfl (A := A_141) Q_141 (ann := []) (spl := []) (mo := []) (by decide) (by decide +kernel)
set_option maxRecDepth 100000 in
theorem o_101 : okK 140 K_101 := okK_of (C := C_140) (fuel := 3000) rfl (A := A_140) Q_140 (ann := []) (spl := []) (mo := []) (by decide) (by decide +kernel)
set_option maxRecDepth 100000 in
theorem o_102 : okK 134 K_102 := okK_of (C := C_134) (fuel := 3000) rfl (A := A_134) Q_134 (ann := []) (spl := []) (mo := []) (by decide) (by decide +kernel)
set_option maxRecDepth 100000 in
theorem o_103 : okK 141 K_103 := okK_of (C := C_141) (fuel := 3000) rfl (A := A_141) Q_141 (ann := []) (spl := []) (mo := []) (by decide) (by decide +kernel)
set_option maxRecDepth 100000 in
theorem o_104 : okK 141 K_104 := okK_of (C := C_141) (fuel := 3000) rfl (A := A_141) Q_141 (ann := []) (spl := []) (mo := []) (by decide) (by decide +kernel)
set_option maxRecDepth 100000 in
theorem o_105 : okK 140 K_105 := okK_of (C := C_140) (fuel := 3000) rfl (A := A_140) Q_140 (ann := []) (spl := []) (mo := []) (by decide) (by decide +kernel)
def N_106 : aAnn := [(16, [(([(3, 6, 0, 0, 0, 1), (0, 0, 10, 0, 0, 2), (0, -1, 9, 0, 0, 0), (0, 0, 1023, 0, 0, 0), (0, 0, 10, 0, 0, 0)], [], []), (10, [(-1, 5)]))])]
set_option maxRecDepth 100000 in
theorem o_106 : okK 111 K_106 := okK_of (C := C_111) (fuel := 3000) rfl (A := A_111) Q_111 (ann := N_106) (spl := []) (mo := []) (by decide) (by decide +kernel)
set_option maxRecDepth 100000 in
theorem o_107 : okK 72 K_107 := okK_of (C := C_72) (fuel := 3000) rfl (A := A_72) Q_72 (ann := []) (spl := []) (mo := []) (by decide) (by decide +kernel)
set_option maxRecDepth 100000 in
theorem o_108 : okK 141 K_108 := okK_of (C := C_141) (fuel := 3000) rfl (A := A_141) Q_141 (ann := []) (spl := []) (mo := []) (by decide) (by decide +kernel)
set_option maxRecDepth 100000 in
theorem o_109 : okK 141 K_109 := okK_of (C := C_141) (fuel := 3000) rfl (A := A_141) Q_141 (ann := []) (spl := []) (mo := []) (by decide) (by decide +kernel)
set_option maxRecDepth 100000 in
theorem o_110 : okK 139 K_110 := okK_of (C := C_139) (fuel := 3000) rfl (A := A_139) Q_139 (ann := []) (spl := []) (mo := []) (by decide) (by decide +kernel)
set_option maxRecDepth 100000 in
theorem o_111 : okK 137 K_111 := okK_of (C := C_137) (fuel := 3000) rfl (A := A_137) Q_137 (ann := []) (spl := []) (mo := []) (by decide) (by decide +kernel)
set_option maxRecDepth 100000 in
theorem o_112 : okK 137 K_112 := okK_of (C := C_137) (fuel := 3000) rfl (A := A_137) Q_137 (ann := []) (spl := []) (mo := []) (by decide) (by decide +kernel)
set_option maxRecDepth 100000 in
theorem o_113 : okK 137 K_113 := okK_of (C := C_137) (fuel := 3000) rfl (A := A_137) Q_137 (ann := []) (spl := []) (mo := []) (by decide) (by decide +kernel)
set_option maxRecDepth 100000 in
theorem o_114 : okK 141 K_114 := okK_of (C := C_141) (fuel := 3000) rfl (A := A_141) Q_141 (ann := []) (spl := []) (mo := []) (by decide) (by decide +kernel)
set_option maxRecDepth 100000 in
theorem o_115 : okK 141 K_115 := okK_of (C := C_141) (fuel := 3000) rfl (A := A_141) Q_141 (ann := []) (spl := []) (mo := []) (by decide) (by decide +kernel)
set_option maxRecDepth 100000 in
theorem o_116 : okK 139 K_116 := okK_of (C := C_139) (fuel := 3000) rfl (A := A_139) Q_139 (ann := []) (spl := []) (mo := []) (by decide) (by decide +kernel)
set_option maxRecDepth 100000 in
theorem o_117 : okK 137 K_117 := okK_of (C := C_137) (fuel := 3000) rfl (A := A_137) Q_137 (ann := []) (spl := []) (mo := []) (by decide) (by decide +kernel)
set_option maxRecDepth 100000 in
theorem o_118 : okK 137 K_118 := okK_of (C := C_137) (fuel := 3000) rfl (A := A_137) Q_137 (ann := []) (spl := []) (mo := []) (by decide) (by decide +kernel)
set_option maxRecDepth 100000 in
theorem o_119 : okK 63 K_119 := okK_of (C := C_63) (fuel := 3000) rfl (A := A_63) Q_63 (ann := []) (spl := []) (mo := []) (by decide) (by decide +kernel)
set_option maxRecDepth 100000 in
theorem o_120 : okK 65 K_120 := okK_of (C := C_65) (fuel := 3000) rfl (A := A_65) Q_65 (ann := []) (spl := []) (mo := []) (by decide) (by decide +kernel)
set_option maxRecDepth 100000 in
theorem o_121 : okK 73 K_121 := okK_of (C := C_73) (fuel := 3000) rfl (A := A_73) Q_73 (ann := []) (spl := []) (mo := []) (by decide) (by decide +kernel)
set_option maxRecDepth 100000 in
theorem o_122 : okK 135 K_122 := okK_of (C := C_135) (fuel := 3000) rfl (A := A_135) Q_135 (ann := []) (spl := []) (mo := []) (by decide) (by decide +kernel)
set_option maxRecDepth 100000 in
theorem o_123 : okK 135 K_123 := okK_of (C := C_135) (fuel := 3000) rfl (A := A_135) Q_135 (ann := []) (spl := []) (mo := []) (by decide) (by decide +kernel)
set_option maxRecDepth 100000 in
theorem o_124 : okK 137 K_124 := okK_of (C := C_137) (fuel := 3000) rfl (A := A_137) Q_137 (ann := []) (spl := []) (mo := []) (by decide) (by decide +kernel)
set_option maxRecDepth 100000 in
theorem o_125 : okK 133 K_125 := okK_of (C := C_133) (fuel := 3000) rfl (A := A_133) Q_133 (ann := []) (spl := []) (mo := []) (by decide) (by decide +kernel)
set_option maxRecDepth 100000 in
theorem o_126 : okK 141 K_126 := okK_of (C := C_141) (fuel := 3000) rfl (A := A_141) Q_141 (ann := []) (spl := []) (mo := []) (by decide) (by decide +kernel)
set_option maxRecDepth 100000 in
theorem o_127 : okK 139 K_127 := okK_of (C := C_139) (fuel := 3000) rfl (A := A_139) Q_139 (ann := []) (spl := []) (mo := []) (by decide) (by decide +kernel)
set_option maxRecDepth 100000 in
theorem o_128 : okK 109 K_128 := okK_of (C := C_109) (fuel := 3000) rfl (A := A_109) Q_109 (ann := []) (spl := []) (mo := []) (by decide) (by decide +kernel)
set_option maxRecDepth 100000 in
theorem o_129 : okK 141 K_129 := okK_of (C := C_141) (fuel := 3000) rfl (A := A_141) Q_141 (ann := []) (spl := []) (mo := []) (by decide) (by decide +kernel)
set_option maxRecDepth 100000 in
theorem o_130 : okK 139 K_130 := okK_of (C := C_139) (fuel := 3000) rfl (A := A_139) Q_139 (ann := []) (spl := []) (mo := []) (by decide) (by decide +kernel)
set_option maxRecDepth 100000 in
theorem o_131 : okK 133 K_131 := okK_of (C := C_133) (fuel := 3000) rfl (A := A_133) Q_133 (ann := []) (spl := []) (mo := []) (by decide) (by decide +kernel)
set_option maxRecDepth 100000 in
theorem o_132 : okK 138 K_132 := okK_of (C := C_138) (fuel := 3000) rfl (A := A_138) Q_138 (ann := []) (spl := []) (mo := []) (by decide) (by decide +kernel)
set_option maxRecDepth 100000 in
theorem o_133 : okK 138 K_133 := okK_of (C := C_138) (fuel := 3000) rfl (A := A_138) Q_138 (ann := []) (spl := []) (mo := []) (by decide) (by decide +kernel)
set_option maxRecDepth 100000 in
theorem o_134 : okK 133 K_134 := okK_of (C := C_133) (fuel := 3000) rfl (A := A_133) Q_133 (ann := []) (spl := []) (mo := []) (by decide) (by decide +kernel)
set_option maxRecDepth 100000 in
theorem o_135 : okK 141 K_135 := okK_of (C := C_141) (fuel := 3000) rfl (A := A_141) Q_141 (ann := []) (spl := []) (mo := []) (by decide) (by decide +kernel)
set_option maxRecDepth 100000 in
theorem o_136 : okK 141 K_136 := okK_of (C := C_141) (fuel := 3000) rfl (A := A_141) Q_141 (ann := []) (spl := []) (mo := []) (by decide) (by decide +kernel)
set_option maxRecDepth 100000 in
theorem o_137 : okK 139 K_137 := okK_of (C := C_139) (fuel := 3000) rfl (A := A_139) Q_139 (ann := []) (spl := []) (mo := []) (by decide) (by decide +kernel)
set_option maxRecDepth 100000 in
theorem o_138 : okK 135 K_138 := okK_of (C := C_135) (fuel := 3000) rfl (A := A_135) Q_135 (ann := []) (spl := []) (mo := []) (by decide) (by decide +kernel)
set_option maxRecDepth 100000 in
theorem o_139 : okK 135 K_139 := okK_of (C := C_135) (fuel := 3000) rfl (A := A_135) Q_135 (ann := []) (spl := []) (mo := []) (by decide) (by decide +kernel)
set_option maxRecDepth 100000 in
theorem o_140 : okK 142 K_140 := okK_of (C := C_142) (fuel := 3000) rfl (A := A_142) Q_142 (ann := []) (spl := []) (mo := []) (by decide) (by decide +kernel)
set_option maxRecDepth 100000 in
theorem o_141 : okK 70 K_141 := okK_of (C := C_70) (fuel := 3000) rfl (A := A_70) Q_70 (ann := []) (spl := []) (mo := []) (by decide) (by decide +kernel)
set_option maxRecDepth 100000 in
theorem o_142 : okK 70 K_142 := okK_of (C := C_70) (fuel := 3000) rfl (A := A_70) Q_70 (ann := []) (spl := []) (mo := []) (by decide) (by decide +kernel)
set_option maxRecDepth 100000 in
theorem o_143 : okK 70 K_143 := okK_of (C := C_70) (fuel := 3000) rfl (A := A_70) Q_70 (ann := []) (spl := []) (mo := []) (by decide) (by decide +kernel)
set_option maxRecDepth 100000 in
theorem o_144 : okK 70 K_144 := okK_of (C := C_70) (fuel := 3000) rfl (A := A_70) Q_70 (ann := []) (spl := []) (mo := []) (by decide) (by decide +kernel)
set_option maxRecDepth 100000 in
theorem o_145 : okK 108 K_145 := okK_of (C := C_108) (fuel := 3000) rfl (A := A_108) Q_108 (ann := []) (spl := []) (mo := []) (by decide) (by decide +kernel)
set_option maxRecDepth 100000 in
theorem o_146 : okK 136 K_146 := okK_of (C := C_136) (fuel := 3000) rfl (A := A_136) Q_136 (ann := []) (spl := []) (mo := []) (by decide) (by decide +kernel)
set_option maxRecDepth 100000 in
theorem o_147 : okK 137 K_147 := okK_of (C := C_137) (fuel := 3000) rfl (A := A_137) Q_137 (ann := []) (spl := []) (mo := []) (by decide) (by decide +kernel)
def N_148 : aAnn := [(11, [(([(3, 6, 0, 0, 0, 1), (3, 19, 0, 0, 0, 2), (1, 0, 0, 0, 0, 0), (0, 0, 76, 0, 0, 0)], [], [(3, 2, (0, 0, 76, 0, 0, 0))]), (76, [(-1, 4)]))])]
set_option maxRecDepth 100000 in
theorem o_148 : okK 107 K_148 := okK_of (C := C_107) (fuel := 3000) rfl (A := A_107) Q_107 (ann := N_148) (spl := []) (mo := []) (by decide) (by decide +kernel)
def N_149 : aAnn := [(2, [(([(3, 20, 0, 0, 0, 1), (3, 10, 0, 0, 0, 2), (0, 0, 6, 0, 0, 0)], [], []), (6, [(-1, 3)]))])]
set_option maxRecDepth 100000 in
theorem o_149 : okK 48 K_149 := okK_of (C := C_48) (fuel := 3000) rfl (A := A_48) Q_48 (ann := N_149) (spl := []) (mo := []) (by decide) (by decide +kernel)
def N_150 : aAnn := [(2, [(([(3, 21, 0, 0, 0, 1), (3, 11, 0, 0, 0, 2), (0, 0, 36, 0, 0, 0)], [], []), (36, [(-1, 3)]))])]
set_option maxRecDepth 100000 in
theorem o_150 : okK 48 K_150 := okK_of (C := C_48) (fuel := 3000) rfl (A := A_48) Q_48 (ann := N_150) (spl := []) (mo := []) (by decide) (by decide +kernel)
def N_151 : aAnn := [(2, [(([(3, 22, 0, 0, 0, 1), (3, 12, 0, 0, 0, 2), (0, 0, 10, 0, 0, 0)], [], []), (10, [(-1, 3)]))])]
set_option maxRecDepth 100000 in
theorem o_151 : okK 48 K_151 := okK_of (C := C_48) (fuel := 3000) rfl (A := A_48) Q_48 (ann := N_151) (spl := []) (mo := []) (by decide) (by decide +kernel)
def N_152 : aAnn := [(2, [(([(3, 23, 0, 0, 0, 1), (3, 13, 0, 0, 0, 2), (0, 0, 10, 0, 0, 0)], [], []), (10, [(-1, 3)]))])]
set_option maxRecDepth 100000 in
theorem o_152 : okK 48 K_152 := okK_of (C := C_48) (fuel := 3000) rfl (A := A_48) Q_48 (ann := N_152) (spl := []) (mo := []) (by decide) (by decide +kernel)
def N_153 : aAnn := [(2, [(([(3, 24, 0, 0, 0, 1), (3, 14, 0, 0, 0, 2), (0, 0, 10, 0, 0, 0)], [], []), (10, [(-1, 3)]))])]
set_option maxRecDepth 100000 in
theorem o_153 : okK 48 K_153 := okK_of (C := C_48) (fuel := 3000) rfl (A := A_48) Q_48 (ann := N_153) (spl := []) (mo := []) (by decide) (by decide +kernel)
def N_154 : aAnn := [(2, [(([(3, 25, 0, 0, 0, 1), (3, 15, 0, 0, 0, 2), (0, 0, 10, 0, 0, 0)], [], []), (10, [(-1, 3)]))])]
set_option maxRecDepth 100000 in
theorem o_154 : okK 48 K_154 := okK_of (C := C_48) (fuel := 3000) rfl (A := A_48) Q_48 (ann := N_154) (spl := []) (mo := []) (by decide) (by decide +kernel)
def N_155 : aAnn := [(2, [(([(3, 26, 0, 0, 0, 1), (3, 16, 0, 0, 0, 2), (0, 0, 8, 0, 0, 0)], [], []), (8, [(-1, 3)]))])]
set_option maxRecDepth 100000 in
theorem o_155 : okK 48 K_155 := okK_of (C := C_48) (fuel := 3000) rfl (A := A_48) Q_48 (ann := N_155) (spl := []) (mo := []) (by decide) (by decide +kernel)
def N_156 : aAnn := [(2, [(([(3, 27, 0, 0, 0, 1), (3, 17, 0, 0, 0, 2), (0, 0, 10, 0, 0, 0)], [], []), (10, [(-1, 3)]))])]
set_option maxRecDepth 100000 in
theorem o_156 : okK 48 K_156 := okK_of (C := C_48) (fuel := 3000) rfl (A := A_48) Q_48 (ann := N_156) (spl := []) (mo := []) (by decide) (by decide +kernel)
def N_157 : aAnn := [(2, [(([(3, 28, 0, 0, 0, 1), (3, 18, 0, 0, 0, 2), (0, 0, 10, 0, 0, 0)], [], []), (10, [(-1, 3)]))])]
set_option maxRecDepth 100000 in
theorem o_157 : okK 48 K_157 := okK_of (C := C_48) (fuel := 3000) rfl (A := A_48) Q_48 (ann := N_157) (spl := []) (mo := []) (by decide) (by decide +kernel)
set_option maxRecDepth 100000 in
theorem o_158 : okK 62 K_158 := okK_of (C := C_62) (fuel := 3000) rfl (A := A_62) Q_62 (ann := []) (spl := []) (mo := []) (by decide) (by decide +kernel)
set_option maxRecDepth 100000 in
theorem o_159 : okK 67 K_159 := okK_of (C := C_67) (fuel := 3000) rfl (A := A_67) Q_67 (ann := []) (spl := []) (mo := []) (by decide) (by decide +kernel)
set_option maxRecDepth 100000 in
theorem o_160 : okK 49 K_160 := okK_of (C := C_49) (fuel := 3000) rfl (A := A_49) Q_49 (ann := []) (spl := []) (mo := []) (by decide) (by decide +kernel)
set_option maxRecDepth 100000 in
theorem o_161 : okK 68 K_161 := okK_of (C := C_68) (fuel := 3000) rfl (A := A_68) Q_68 (ann := []) (spl := []) (mo := []) (by decide) (by decide +kernel)
def N_162 : aAnn := [(6, [(([(3, 9, 0, 0, 0, 1), (0, 0, 9, 0, 0, 2), (0, 0, 1023, 0, 0, 3), (0, 0, 255, 0, 0, 4), (0, 0, 1023, 0, 0, 0), (0, 0, 8, 0, 0, 0), (4, 0, 0, 0, 0, 0)], [], []), (89, [(-10, 6)]))]), (12, [(([(3, 9, 0, 0, 0, 1), (0, 0, 9, 0, 0, 2), (0, 0, 1023, 0, 0, 3), (0, 0, 255, 0, 0, 4), (0, 0, 1023, 0, 0, 0), (0, 0, 7, 0, 0, 0), (0, 0, 8, 0, 0, 0)], [], [(7, 11, (0, 1, 8, 0, 0, 0))]), (88, [(-10, 6), (-1, 7)]))])]
set_option maxRecDepth 100000 in
theorem o_162 : okK 96 K_162 := okK_of (C := C_96) (fuel := 3000) rfl (A := A_96) Q_96 (ann := N_162) (spl := []) (mo := []) (by decide) (by decide +kernel)
def N_163 : aAnn := [(15, [(([(3, 9, 0, 0, 0, 1), (0, 0, 1023, 0, 0, 2), (0, 0, 10, 0, 0, 0)], [], [(7, 12, (0, 0, 9, 0, 0, 0))]), (10, [(-1, 3)]))])]
set_option maxRecDepth 100000 in
theorem o_163 : okK 99 K_163 := okK_of (C := C_99) (fuel := 3000) rfl (A := A_99) Q_99 (ann := N_163) (spl := []) (mo := []) (by decide) (by decide +kernel)
def N_164 : aAnn := [(8, [(([(3, 9, 0, 0, 0, 1), (0, 0, 1023, 0, 0, 0), (0, 0, 10, 0, 0, 0), (4, 0, 0, 0, 0, 0)], [], []), (10, [(-1, 3)]))])]
set_option maxRecDepth 100000 in
theorem o_164 : okK 98 K_164 := okK_of (C := C_98) (fuel := 3000) rfl (A := A_98) Q_98 (ann := N_164) (spl := []) (mo := []) (by decide) (by decide +kernel)
set_option maxRecDepth 100000 in
theorem o_165 : okK 129 K_165 := okK_of (C := C_129) (fuel := 3000) rfl (A := A_129) Q_129 (ann := []) (spl := []) (mo := []) (by decide) (by decide +kernel)
set_option maxRecDepth 100000 in
theorem o_166 : okK 2 K_166 := okK_of (C := C_2) (fuel := 3000) rfl (A := A_2) Q_2 (ann := []) (spl := []) (mo := []) (by decide) (by decide +kernel)
set_option maxRecDepth 100000 in
theorem o_167 : okK 132 K_167 := okK_of (C := C_132) (fuel := 3000) rfl (A := A_132) Q_132 (ann := []) (spl := []) (mo := []) (by decide) (by decide +kernel)
set_option maxRecDepth 100000 in
theorem o_168 : okK 141 K_168 := okK_of (C := C_141) (fuel := 3000) rfl (A := A_141) Q_141 (ann := []) (spl := []) (mo := []) (by decide) (by decide +kernel)
set_option maxRecDepth 100000 in
theorem o_169 : okK 139 K_169 := okK_of (C := C_139) (fuel := 3000) rfl (A := A_139) Q_139 (ann := []) (spl := []) (mo := []) (by decide) (by decide +kernel)
set_option maxRecDepth 100000 in
theorem o_170 : okK 133 K_170 := okK_of (C := C_133) (fuel := 3000) rfl (A := A_133) Q_133 (ann := []) (spl := []) (mo := []) (by decide) (by decide +kernel)
set_option maxRecDepth 100000 in
theorem o_171 : okK 138 K_171 := okK_of (C := C_138) (fuel := 3000) rfl (A := A_138) Q_138 (ann := []) (spl := []) (mo := []) (by decide) (by decide +kernel)
set_option maxRecDepth 100000 in
theorem o_172 : okK 138 K_172 := okK_of (C := C_138) (fuel := 3000) rfl (A := A_138) Q_138 (ann := []) (spl := []) (mo := []) (by decide) (by decide +kernel)
set_option maxRecDepth 100000 in
theorem o_173 : okK 151 K_173 := okK_of (C := C_151) (fuel := 3000) rfl (A := A_151) Q_151 (ann := []) (spl := []) (mo := []) (by decide) (by decide +kernel)
set_option maxRecDepth 100000 in
theorem o_174 : okK 274 K_174 := okK_of (C := C_274) (fuel := 3000) rfl (A := A_274) Q_274 (ann := []) (spl := []) (mo := []) (by decide) (by decide +kernel)
set_option maxRecDepth 100000 in
theorem o_175 : okK 276 K_175 := okK_of (C := C_276) (fuel := 3000) rfl (A := A_276) Q_276 (ann := []) (spl := []) (mo := []) (by decide) (by decide +kernel)
set_option maxRecDepth 100000 in
theorem o_176 : okK 275 K_176 := okK_of (C := C_275) (fuel := 3000) rfl (A := A_275) Q_275 (ann := []) (spl := []) (mo := []) (by decide) (by decide +kernel)
set_option maxRecDepth 100000 in
theorem o_177 : okK 278 K_177 := okK_of (C := C_278) (fuel := 3000) rfl (A := A_278) Q_278 (ann := []) (spl := []) (mo := []) (by decide) (by decide +kernel)
def N_178 : aAnn := [(5, [(([(3, 94, 0, 0, 0, 1), (0, 0, 255, 0, 0, 2), (0, 0, 8, 0, 0, 3), (0, 1, 9, 0, 0, 4), (0, -128, 127, 0, 0, 0), (0, 0, 9, 0, 0, 0)], [], []), (9, [(-1, 6)]))])]
set_option maxRecDepth 100000 in
theorem o_178 : okK 279 K_178 := okK_of (C := C_279) (fuel := 3000) rfl (A := A_279) Q_279 (ann := N_178) (spl := []) (mo := []) (by decide) (by decide +kernel)
set_option maxRecDepth 100000 in
theorem o_179 : okK 277 K_179 := okK_of (C := C_277) (fuel := 3000) rfl (A := A_277) Q_277 (ann := []) (spl := []) (mo := []) (by decide) (by decide +kernel)
set_option maxRecDepth 100000 in
theorem o_180 : okK 273 K_180 := okK_of (C := C_273) (fuel := 3000) rfl (A := A_273) Q_273 (ann := []) (spl := []) (mo := []) (by decide) (by decide +kernel)
set_option maxRecDepth 100000 in
theorem o_181 : okK 272 K_181 := okK_of (C := C_272) (fuel := 3000) rfl (A := A_272) Q_272 (ann := []) (spl := []) (mo := []) (by decide) (by decide +kernel)
set_option maxRecDepth 100000 in
theorem o_182 : okK 150 K_182 := okK_of (C := C_150) (fuel := 3000) rfl (A := A_150) Q_150 (ann := []) (spl := []) (mo := []) (by decide) (by decide +kernel)
def N_183 : aAnn := [(4, [(([(3, 29, 0, 0, 0, 1), (3, 5, 0, 0, 0, 2), (0, 4, 4, 0, 0, 3), (0, 0, 1, 0, 0, 0), (0, 0, 40, 0, 0, 0)], [], []), (40, [(-1, 5)]))])]
set_option maxRecDepth 100000 in
theorem o_183 : okK 149 K_183 := okK_of (C := C_149) (fuel := 3000) rfl (A := A_149) Q_149 (ann := N_183) (spl := []) (mo := []) (by decide) (by decide +kernel)
def N_184 : aAnn := [(7, [(([(3, 29, 0, 0, 0, 1), (3, 5, 0, 0, 0, 2), (0, 4, 4, 0, 0, 3), (1, 0, 0, 0, 0, 0), (0, 0, 40, 0, 0, 0), (4, 0, 0, 0, 0, 0), (4, 0, 0, 0, 0, 0)], [], []), (40, [(-1, 5)]))])]
set_option maxRecDepth 100000 in
theorem o_184 : okK 148 K_184 := okK_of (C := C_148) (fuel := 3000) rfl (A := A_148) Q_148 (ann := N_184) (spl := []) (mo := []) (by decide) (by decide +kernel)
def N_185 : aAnn := [(7, [(([(3, 29, 0, 0, 0, 1), (3, 5, 0, 0, 0, 2), (0, 4, 4, 0, 0, 3), (1, 0, 0, 0, 0, 0), (0, 0, 40, 0, 0, 0), (4, 0, 0, 0, 0, 0), (4, 0, 0, 0, 0, 0)], [], []), (40, [(-1, 5)]))])]
set_option maxRecDepth 100000 in
theorem o_185 : okK 147 K_185 := okK_of (C := C_147) (fuel := 3000) rfl (A := A_147) Q_147 (ann := N_185) (spl := []) (mo := []) (by decide) (by decide +kernel)
set_option maxRecDepth 100000 in
theorem o_186 : okK 146 K_186 := okK_of (C := C_146) (fuel := 3000) rfl (A := A_146) Q_146 (ann := []) (spl := []) (mo := []) (by decide) (by decide +kernel)
set_option maxRecDepth 100000 in
theorem o_187 : okK 133 K_187 := okK_of (C := C_133) (fuel := 3000) rfl (A := A_133) Q_133 (ann := []) (spl := []) (mo := []) (by decide) (by decide +kernel)
set_option maxRecDepth 100000 in
theorem o_188 : okK 135 K_188 := okK_of (C := C_135) (fuel := 3000) rfl (A := A_135) Q_135 (ann := []) (spl := []) (mo := []) (by decide) (by decide +kernel)
set_option maxRecDepth 100000 in
theorem o_189 : okK 137 K_189 := okK_of (C := C_137) (fuel := 3000) rfl (A := A_137) Q_137 (ann := []) (spl := []) (mo := []) (by decide) (by decide +kernel)
set_option maxRecDepth 100000 in
theorem o_190 : okK 150 K_190 := okK_of (C := C_150) (fuel := 3000) rfl (A := A_150) Q_150 (ann := []) (spl := []) (mo := []) (by decide) (by decide +kernel)
def N_191 : aAnn := [(4, [(([(3, 29, 0, 0, 0, 1), (3, 5, 0, 0, 0, 2), (0, 3, 3, 0, 0, 3), (0, 0, 1, 0, 0, 0), (0, 0, 40, 0, 0, 0)], [], []), (40, [(-1, 5)]))])]
set_option maxRecDepth 100000 in
theorem o_191 : okK 149 K_191 := okK_of (C := C_149) (fuel := 3000) rfl (A := A_149) Q_149 (ann := N_191) (spl := []) (mo := []) (by decide) (by decide +kernel)
def N_192 : aAnn := [(7, [(([(3, 29, 0, 0, 0, 1), (3, 5, 0, 0, 0, 2), (0, 3, 3, 0, 0, 3), (1, 0, 0, 0, 0, 0), (0, 0, 40, 0, 0, 0), (4, 0, 0, 0, 0, 0), (4, 0, 0, 0, 0, 0)], [], []), (40, [(-1, 5)]))])]
set_option maxRecDepth 100000 in
theorem o_192 : okK 148 K_192 := okK_of (C := C_148) (fuel := 3000) rfl (A := A_148) Q_148 (ann := N_192) (spl := []) (mo := []) (by decide) (by decide +kernel)
def N_193 : aAnn := [(7, [(([(3, 29, 0, 0, 0, 1), (3, 5, 0, 0, 0, 2), (0, 3, 3, 0, 0, 3), (1, 0, 0, 0, 0, 0), (0, 0, 40, 0, 0, 0), (4, 0, 0, 0, 0, 0), (4, 0, 0, 0, 0, 0)], [], []), (40, [(-1, 5)]))])]
set_option maxRecDepth 100000 in
theorem o_193 : okK 147 K_193 := okK_of (C := C_147) (fuel := 3000) rfl (A := A_147) Q_147 (ann := N_193) (spl := []) (mo := []) (by decide) (by decide +kernel)
set_option maxRecDepth 100000 in
theorem o_194 : okK 146 K_194 := okK_of (C := C_146) (fuel := 3000) rfl (A := A_146) Q_146 (ann := []) (spl := []) (mo := []) (by decide) (by decide +kernel)
set_option maxRecDepth 100000 in
theorem o_195 : okK 150 K_195 := okK_of (C := C_150) (fuel := 3000) rfl (A := A_150) Q_150 (ann := []) (spl := []) (mo := []) (by decide) (by decide +kernel)
def N_196 : aAnn := [(4, [(([(3, 29, 0, 0, 0, 1), (3, 5, 0, 0, 0, 2), (0, 2, 2, 0, 0, 3), (0, 0, 1, 0, 0, 0), (0, 0, 40, 0, 0, 0)], [], []), (40, [(-1, 5)]))])]
set_option maxRecDepth 100000 in
theorem o_196 : okK 149 K_196 := okK_of (C := C_149) (fuel := 3000) rfl (A := A_149) Q_149 (ann := N_196) (spl := []) (mo := []) (by decide) (by decide +kernel)
def N_197 : aAnn := [(7, [(([(3, 29, 0, 0, 0, 1), (3, 5, 0, 0, 0, 2), (0, 2, 2, 0, 0, 3), (1, 0, 0, 0, 0, 0), (0, 0, 40, 0, 0, 0), (4, 0, 0, 0, 0, 0), (4, 0, 0, 0, 0, 0)], [], []), (40, [(-1, 5)]))])]
set_option maxRecDepth 100000 in
theorem o_197 : okK 148 K_197 := okK_of (C := C_148) (fuel := 3000) rfl (A := A_148) Q_148 (ann := N_197) (spl := []) (mo := []) (by decide) (by decide +kernel)
def N_198 : aAnn := [(7, [(([(3, 29, 0, 0, 0, 1), (3, 5, 0, 0, 0, 2), (0, 2, 2, 0, 0, 3), (1, 0, 0, 0, 0, 0), (0, 0, 40, 0, 0, 0), (4, 0, 0, 0, 0, 0), (4, 0, 0, 0, 0, 0)], [], []), (40, [(-1, 5)]))])]
set_option maxRecDepth 100000 in
theorem o_198 : okK 147 K_198 := okK_of (C := C_147) (fuel := 3000) rfl (A := A_147) Q_147 (ann := N_198) (spl := []) (mo := []) (by decide) (by decide +kernel)
set_option maxRecDepth 100000 in
theorem o_199 : okK 146 K_199 := okK_of (C := C_146) (fuel := 3000) rfl (A := A_146) Q_146 (ann := []) (spl := []) (mo := []) (by decide) (by decide +kernel)
set_option maxRecDepth 100000 in
theorem o_200 : okK 150 K_200 := okK_of (C := C_150) (fuel := 3000) rfl (A := A_150) Q_150 (ann := []) (spl := []) (mo := []) (by decide) (by decide +kernel)
def N_201 : aAnn := [(4, [(([(3, 29, 0, 0, 0, 1), (3, 5, 0, 0, 0, 2), (0, 1, 1, 0, 0, 3), (0, 0, 1, 0, 0, 0), (0, 0, 40, 0, 0, 0)], [], []), (40, [(-1, 5)]))])]
set_option maxRecDepth 100000 in
theorem o_201 : okK 149 K_201 := okK_of (C := C_149) (fuel := 3000) rfl (A := A_149) Q_149 (ann := N_201) (spl := []) (mo := []) (by decide) (by decide +kernel)
def N_202 : aAnn := [(7, [(([(3, 29, 0, 0, 0, 1), (3, 5, 0, 0, 0, 2), (0, 1, 1, 0, 0, 3), (1, 0, 0, 0, 0, 0), (0, 0, 40, 0, 0, 0), (4, 0, 0, 0, 0, 0), (4, 0, 0, 0, 0, 0)], [], []), (40, [(-1, 5)]))])]
set_option maxRecDepth 100000 in
theorem o_202 : okK 148 K_202 := okK_of (C := C_148) (fuel := 3000) rfl (A := A_148) Q_148 (ann := N_202) (spl := []) (mo := []) (by decide) (by decide +kernel)
def N_203 : aAnn := [(7, [(([(3, 29, 0, 0, 0, 1), (3, 5, 0, 0, 0, 2), (0, 1, 1, 0, 0, 3), (1, 0, 0, 0, 0, 0), (0, 0, 40, 0, 0, 0), (4, 0, 0, 0, 0, 0), (4, 0, 0, 0, 0, 0)], [], []), (40, [(-1, 5)]))])]
set_option maxRecDepth 100000 in
theorem o_203 : okK 147 K_203 := okK_of (C := C_147) (fuel := 3000) rfl (A := A_147) Q_147 (ann := N_203) (spl := []) (mo := []) (by decide) (by decide +kernel)
set_option maxRecDepth 100000 in
theorem o_204 : okK 146 K_204 := okK_of (C := C_146) (fuel := 3000) rfl (A := A_146) Q_146 (ann := []) (spl := []) (mo := []) (by decide) (by decide +kernel)
set_option maxRecDepth 100000 in
theorem o_205 : okK 150 K_205 := okK_of (C := C_150) (fuel := 3000) rfl (A := A_150) Q_150 (ann := []) (spl := []) (mo := []) (by decide) (by decide +kernel)
def N_206 : aAnn := [(4, [(([(3, 29, 0, 0, 0, 1), (3, 5, 0, 0, 0, 2), (0, 0, 0, 0, 0, 3), (0, 0, 1, 0, 0, 0), (0, 0, 40, 0, 0, 0)], [], []), (40, [(-1, 5)]))])]
set_option maxRecDepth 100000 in
theorem o_206 : okK 149 K_206 := okK_of (C := C_149) (fuel := 3000) rfl (A := A_149) Q_149 (ann := N_206) (spl := []) (mo := []) (by decide) (by decide +kernel)
def N_207 : aAnn := [(7, [(([(3, 29, 0, 0, 0, 1), (3, 5, 0, 0, 0, 2), (0, 0, 0, 0, 0, 3), (1, 0, 0, 0, 0, 0), (0, 0, 40, 0, 0, 0), (4, 0, 0, 0, 0, 0), (4, 0, 0, 0, 0, 0)], [], []), (40, [(-1, 5)]))])]
set_option maxRecDepth 100000 in
theorem o_207 : okK 148 K_207 := okK_of (C := C_148) (fuel := 3000) rfl (A := A_148) Q_148 (ann := N_207) (spl := []) (mo := []) (by decide) (by decide +kernel)
def N_208 : aAnn := [(7, [(([(3, 29, 0, 0, 0, 1), (3, 5, 0, 0, 0, 2), (0, 0, 0, 0, 0, 3), (1, 0, 0, 0, 0, 0), (0, 0, 40, 0, 0, 0), (4, 0, 0, 0, 0, 0), (4, 0, 0, 0, 0, 0)], [], []), (40, [(-1, 5)]))])]
set_option maxRecDepth 100000 in
theorem o_208 : okK 147 K_208 := okK_of (C := C_147) (fuel := 3000) rfl (A := A_147) Q_147 (ann := N_208) (spl := []) (mo := []) (by decide) (by decide +kernel)
set_option maxRecDepth 100000 in
theorem o_209 : okK 146 K_209 := okK_of (C := C_146) (fuel := 3000) rfl (A := A_146) Q_146 (ann := []) (spl := []) (mo := []) (by decide) (by decide +kernel)
set_option maxRecDepth 100000 in
theorem o_210 : okK 145 K_210 := okK_of (C := C_145) (fuel := 3000) rfl (A := A_145) Q_145 (ann := []) (spl := []) (mo := []) (by decide) (by decide +kernel)
set_option maxRecDepth 100000 in
theorem o_211 : okK 143 K_211 := okK_of (C := C_143) (fuel := 3000) rfl (A := A_143) Q_143 (ann := []) (spl := []) (mo := []) (by decide) (by decide +kernel)
def N_212 : aAnn := [(2, [(([(3, 4, 0, 0, 0, 1), (3, 31, 0, 0, 0, 2), (0, 0, 80, 0, 0, 0)], [], []), (80, [(-1, 3)]))])]
set_option maxRecDepth 100000 in
theorem o_212 : okK 48 K_212 := okK_of (C := C_48) (fuel := 3000) rfl (A := A_48) Q_48 (ann := N_212) (spl := []) (mo := []) (by decide) (by decide +kernel)
set_option maxRecDepth 100000 in
theorem o_213 : okK 155 K_213 := okK_of (C := C_155) (fuel := 3000) rfl (A := A_155) Q_155 (ann := []) (spl := []) (mo := []) (by decide) (by decide +kernel)
set_option maxRecDepth 100000 in
theorem o_214 : okK 3 K_214 := okK_of (C := C_3) (fuel := 3000) rfl (A := A_3) Q_3 (ann := []) (spl := []) (mo := []) (by decide) (by decide +kernel)
set_option maxRecDepth 100000 in
theorem o_215 : okK 6 K_215 := okK_of (C := C_6) (fuel := 3000) rfl (A := A_6) Q_6 (ann := []) (spl := []) (mo := []) (by decide) (by decide +kernel)
set_option maxRecDepth 100000 in
theorem o_216 : okK 63 K_216 := okK_of (C := C_63) (fuel := 3000) rfl (A := A_63) Q_63 (ann := []) (spl := []) (mo := []) (by decide) (by decide +kernel)
set_option maxRecDepth 100000 in
theorem o_217 : okK 65 K_217 := okK_of (C := C_65) (fuel := 3000) rfl (A := A_65) Q_65 (ann := []) (spl := []) (mo := []) (by decide) (by decide +kernel)
set_option maxRecDepth 100000 in
theorem o_218 : okK 74 K_218 := okK_of (C := C_74) (fuel := 3000) rfl (A := A_74) Q_74 (ann := []) (spl := []) (mo := []) (by decide) (by decide +kernel)
set_option maxRecDepth 100000 in
theorem o_219 : okK 7 K_219 := okK_of (C := C_7) (fuel := 3000) rfl (A := A_7) Q_7 (ann := []) (spl := []) (mo := []) (by decide) (by decide +kernel)
set_option maxRecDepth 100000 in
theorem o_220 : okK 73 K_220 := okK_of (C := C_73) (fuel := 3000) rfl (A := A_73) Q_73 (ann := []) (spl := []) (mo := []) (by decide) (by decide +kernel)
set_option maxRecDepth 100000 in
theorem o_221 : okK 8 K_221 := okK_of (C := C_8) (fuel := 3000) rfl (A := A_8) Q_8 (ann := []) (spl := []) (mo := []) (by decide) (by decide +kernel)
set_option maxRecDepth 100000 in
theorem o_222 : okK 9 K_222 := okK_of (C := C_9) (fuel := 3000) rfl (A := A_9) Q_9 (ann := []) (spl := []) (mo := []) (by decide) (by decide +kernel)
def N_223 : aAnn := [(4, [(([(3, 9, 0, 0, 0, 1), (0, -2147483648, 2147483647, 0, 0, 2), (0, -2147483648, 2147483647, 0, 0, 3), (0, -2147483648, 2147483647, 0, 0, 4), (0, -2147483648, 2147483647, 0, 0, 5), (1, 0, 0, 0, 0, 0), (0, 0, 10, 0, 0, 0), (4, 0, 0, 0, 0, 0), (4, 0, 0, 0, 0, 0)], [], []), (10, [(-1, 7)]))])]
set_option maxRecDepth 100000 in
theorem o_223 : okK 76 K_223 := okK_of (C := C_76) (fuel := 3000) rfl (A := A_76) Q_76 (ann := N_223) (spl := []) (mo := []) (by decide) (by decide +kernel)
set_option maxRecDepth 100000 in
theorem o_224 : okK 10 K_224 := okK_of (C := C_10) (fuel := 3000) rfl (A := A_10) Q_10 (ann := []) (spl := []) (mo := []) (by decide) (by decide +kernel)
set_option maxRecDepth 100000 in
theorem o_225 : okK 64 K_225 := okK_of (C := C_64) (fuel := 3000) rfl (A := A_64) Q_64 (ann := []) (spl := []) (mo := []) (by decide) (by decide +kernel)
set_option maxRecDepth 100000 in
theorem o_226 : okK 47 K_226 := okK_of (C := C_47) (fuel := 3000) rfl (A := A_47) Q_47 (ann := []) (spl := []) (mo := []) (by decide) (by decide +kernel)
def N_227 : aAnn := [(4, [(([(3, 9, 0, 0, 0, 1), (0, -2147483648, 2147483647, 0, 0, 2), (0, -2147483648, 2147483647, 0, 0, 3), (0, -2147483648, 2147483647, 0, 0, 0), (0, 0, 36, 0, 0, 0)], [], []), (36, [(-1, 5)]))])]
set_option maxRecDepth 100000 in
theorem o_227 : okK 78 K_227 := okK_of (C := C_78) (fuel := 3000) rfl (A := A_78) Q_78 (ann := N_227) (spl := []) (mo := []) (by decide) (by decide +kernel)
def N_228 : aAnn := [(16, [(([(3, 9, 0, 0, 0, 1), (0, -2147483648, 2147483647, 0, 0, 2), (0, 0, 5, 0, 0, 3), (0, 0, 5, 0, 0, 4), (0, -2147483648, 2147483647, 0, 0, 0), (0, 0, 6, 0, 0, 0)], [], [(7, 9, (0, 1, 6, 0, 0, 0))]), (6, [(-1, 6)]))])]
set_option maxRecDepth 100000 in
theorem o_228 : okK 80 K_228 := okK_of (C := C_80) (fuel := 3000) rfl (A := A_80) Q_80 (ann := N_228) (spl := []) (mo := []) (by decide) (by decide +kernel)
set_option maxRecDepth 100000 in
theorem o_229 : okK 82 K_229 := okK_of (C := C_82) (fuel := 3000) rfl (A := A_82) Q_82 (ann := []) (spl := []) (mo := []) (by decide) (by decide +kernel)
set_option maxRecDepth 100000 in
theorem o_230 : okK 51 K_230 := okK_of (C := C_51) (fuel := 3000) rfl (A := A_51) Q_51 (ann := []) (spl := []) (mo := []) (by decide) (by decide +kernel)
def N_231 : aAnn := [(2, [(([(3, 41, 0, 0, 0, 1), (0, 1, 20, 0, 0, 0)], [], []), (20, [(-1, 2)]))])]
set_option maxRecDepth 100000 in
theorem o_231 : okK 131 K_231 := okK_of (C := C_131) (fuel := 3000) rfl (A := A_131) Q_131 (ann := N_231) (spl := []) (mo := []) (by decide) (by decide +kernel)
set_option maxRecDepth 100000 in
theorem o_232 : okK 130 K_232 := okK_of (C := C_130) (fuel := 3000) rfl (A := A_130) Q_130 (ann := []) (spl := []) (mo := []) (by decide) (by decide +kernel)
set_option maxRecDepth 100000 in
theorem o_233 : okK 52 K_233 := okK_of (C := C_52) (fuel := 3000) rfl (A := A_52) Q_52 (ann := []) (spl := []) (mo := []) (by decide) (by decide +kernel)
set_option maxRecDepth 100000 in
theorem o_234 : okK 11 K_234 := okK_of (C := C_11) (fuel := 3000) rfl (A := A_11) Q_11 (ann := []) (spl := []) (mo := []) (by decide) (by decide +kernel)
def N_235 : aAnn := [(4, [(([(3, 9, 0, 0, 0, 1), (0, -2147483648, 2147483647, 0, 0, 2), (3, 15, 0, 0, 0, 3), (0, 0, 1023, 0, 0, 0), (0, 0, 10, 0, 0, 0)], [], []), (10, [(-1, 5)]))])]
set_option maxRecDepth 100000 in
theorem o_235 : okK 86 K_235 := okK_of (C := C_86) (fuel := 3000) rfl (A := A_86) Q_86 (ann := N_235) (spl := []) (mo := []) (by decide) (by decide +kernel)
def N_236 : aAnn := [(2, [(([(3, 9, 0, 0, 0, 1), (0, -2147483648, 2147483647, 0, 0, 2), (3, 15, 0, 0, 0, 3), (0, 0, 6, 0, 0, 0), (4, 0, 0, 0, 0, 0)], [], []), (6, [(-1, 4)]))])]
set_option maxRecDepth 100000 in
theorem o_236 : okK 90 K_236 := okK_of (C := C_90) (fuel := 3000) rfl (A := A_90) Q_90 (ann := N_236) (spl := []) (mo := []) (by decide) (by decide +kernel)
def N_237 : aAnn := [(4, [(([(3, 9, 0, 0, 0, 1), (3, 15, 0, 0, 0, 2), (0, 0, 255, 0, 0, 0), (0, 0, 8, 0, 0, 0)], [], []), (8, [(-1, 4)]))])]
set_option maxRecDepth 100000 in
theorem o_237 : okK 89 K_237 := okK_of (C := C_89) (fuel := 3000) rfl (A := A_89) Q_89 (ann := N_237) (spl := []) (mo := []) (by decide) (by decide +kernel)
def N_238 : aAnn := [(4, [(([(3, 9, 0, 0, 0, 1), (0, -2147483648, 2147483647, 0, 0, 2), (1, 0, 0, 0, 0, 0), (0, 0, 10, 0, 0, 0)], [], []), (10, [(-1, 4)]))])]
set_option maxRecDepth 100000 in
theorem o_238 : okK 102 K_238 := okK_of (C := C_102) (fuel := 3000) rfl (A := A_102) Q_102 (ann := N_238) (spl := []) (mo := []) (by decide) (by decide +kernel)
set_option maxRecDepth 100000 in
theorem o_239 : okK 87 K_239 := okK_of (C := C_87) (fuel := 3000) rfl (A := A_87) Q_87 (ann := []) (spl := []) (mo := []) (by decide) (by decide +kernel)
def N_240 : aAnn := [(4, [(([(3, 9, 0, 0, 0, 1), (3, 15, 0, 0, 0, 2), (0, 0, 63, 0, 0, 0), (0, 0, 6, 0, 0, 0)], [], []), (6, [(-1, 4)]))])]
set_option maxRecDepth 100000 in
theorem o_240 : okK 88 K_240 := okK_of (C := C_88) (fuel := 3000) rfl (A := A_88) Q_88 (ann := N_240) (spl := []) (mo := []) (by decide) (by decide +kernel)
set_option maxRecDepth 100000 in
theorem o_241 : okK 127 K_241 := okK_of (C := C_127) (fuel := 3000) rfl (A := A_127) Q_127 (ann := []) (spl := []) (mo := []) (by decide) (by decide +kernel)
set_option maxRecDepth 100000 in
theorem o_242 : okK 128 K_242 := okK_of (C := C_128) (fuel := 3000) rfl (A := A_128) Q_128 (ann := []) (spl := []) (mo := []) (by decide) (by decide +kernel)
set_option maxRecDepth 100000 in
theorem o_243 : okK 53 K_243 := okK_of (C := C_53) (fuel := 3000) rfl (A := A_53) Q_53 (ann := []) (spl := []) (mo := []) (by decide) (by decide +kernel)
set_option maxRecDepth 100000 in
theorem o_244 : okK 12 K_244 := okK_of (C := C_12) (fuel := 3000) rfl (A := A_12) Q_12 (ann := []) (spl := []) (mo := []) (by decide) (by decide +kernel)
set_option maxRecDepth 100000 in
theorem o_245 : okK 141 K_245 := okK_of (C := C_141) (fuel := 3000) rfl (A := A_141) Q_141 (ann := []) (spl := []) (mo := []) (by decide) (by decide +kernel)
set_option maxRecDepth 100000 in
theorem o_246 : okK 141 K_246 := okK_of (C := C_141) (fuel := 3000) rfl (A := A_141) Q_141 (ann := []) (spl := []) (mo := []) (by decide) (by decide +kernel)
set_option maxRecDepth 100000 in
theorem o_247 : okK 140 K_247 := okK_of (C := C_140) (fuel := 3000) rfl (A := A_140) Q_140 (ann := []) (spl := []) (mo := []) (by decide) (by decide +kernel)
set_option maxRecDepth 100000 in
theorem o_248 : okK 137 K_248 := okK_of (C := C_137) (fuel := 3000) rfl (A := A_137) Q_137 (ann := []) (spl := []) (mo := []) (by decide) (by decide +kernel)
set_option maxRecDepth 100000 in
theorem o_249 : okK 141 K_249 := okK_of (C := C_141) (fuel := 3000) rfl (A := A_141) Q_141 (ann := []) (spl := []) (mo := []) (by decide) (by decide +kernel)
set_option maxRecDepth 100000 in
theorem o_250 : okK 139 K_250 := okK_of (C := C_139) (fuel := 3000) rfl (A := A_139) Q_139 (ann := []) (spl := []) (mo := []) (by decide) (by decide +kernel)
set_option maxRecDepth 100000 in
theorem o_251 : okK 137 K_251 := okK_of (C := C_137) (fuel := 3000) rfl (A := A_137) Q_137 (ann := []) (spl := []) (mo := []) (by decide) (by decide +kernel)
set_option maxRecDepth 100000 in
theorem o_252 : okK 141 K_252 := okK_of (C := C_141) (fuel := 3000) rfl (A := A_141) Q_141 (ann := []) (spl := []) (mo := []) (by decide) (by decide +kernel)
set_option maxRecDepth 100000 in
theorem o_253 : okK 139 K_253 := okK_of (C := C_139) (fuel := 3000) rfl (A := A_139) Q_139 (ann := []) (spl := []) (mo := []) (by decide) (by decide +kernel)
set_option maxRecDepth 100000 in
theorem o_254 : okK 55 K_254 := okK_of (C := C_55) (fuel := 3000) rfl (A := A_55) Q_55 (ann := []) (spl := []) (mo := []) (by decide) (by decide +kernel)
def N_255 : aAnn := [(14, [(([(3, 2, 0, 0, 0, 1), (0, 0, 40, 0, 0, 0)], [], [(1, 1, (0, 1, 80, 0, 0, 0)), (3, 2, (0, 0, 40, 0, 0, 0))]), (40, [(-1, 2)]))])]
set_option maxRecDepth 100000 in
theorem o_255 : okK 54 K_255 := okK_of (C := C_54) (fuel := 3000) rfl (A := A_54) Q_54 (ann := N_255) (spl := []) (mo := []) (by decide) (by decide +kernel)
set_option maxRecDepth 100000 in
theorem o_256 : okK 91 K_256 := okK_of (C := C_91) (fuel := 3000) rfl (A := A_91) Q_91 (ann := []) (spl := []) (mo := []) (by decide) (by decide +kernel)
set_option maxRecDepth 100000 in
theorem o_257 : okK 128 K_257 := okK_of (C := C_128) (fuel := 3000) rfl (A := A_128) Q_128 (ann := []) (spl := []) (mo := []) (by decide) (by decide +kernel)
set_option maxRecDepth 100000 in
theorem o_258 : okK 47 K_258 := okK_of (C := C_47) (fuel := 3000) rfl (A := A_47) Q_47 (ann := []) (spl := []) (mo := []) (by decide) (by decide +kernel)
set_option maxRecDepth 100000 in
theorem o_259 : okK 154 K_259 := okK_of (C := C_154) (fuel := 3000) rfl (A := A_154) Q_154 (ann := []) (spl := []) (mo := []) (by decide) (by decide +kernel)
def N_260 : aAnn := [(29, [(([(3, 2, 0, 0, 0, 1), (0, -1, -1, 0, 0, 0), (0, 0, 20, 0, 0, 0), (1, 0, 0, 0, 0, 0), (1, 0, 0, 0, 0, 0), (0, 0, 20, 0, 0, 0), (4, 0, 0, 0, 0, 0)], [], [(3, 2, (0, 0, 40, 0, 0, 0)), (3, 3, (0, -1, -1, 0, 0, 0))]), (20, [(-1, 6)]))])]
set_option maxRecDepth 100000 in
theorem o_260 : okK 13 K_260 := okK_of (C := C_13) (fuel := 3000) rfl (A := A_13) Q_13 (ann := N_260) (spl := []) (mo := []) (by decide) (by decide +kernel)
set_option maxRecDepth 100000 in
theorem o_261 : okK 47 K_261 := okK_of (C := C_47) (fuel := 3000) rfl (A := A_47) Q_47 (ann := []) (spl := []) (mo := []) (by decide) (by decide +kernel)
set_option maxRecDepth 100000 in
theorem o_262 : okK 47 K_262 := okK_of (C := C_47) (fuel := 3000) rfl (A := A_47) Q_47 (ann := []) (spl := []) (mo := []) (by decide) (by decide +kernel)
set_option maxRecDepth 100000 in
theorem o_263 : okK 47 K_263 := okK_of (C := C_47) (fuel := 3000) rfl (A := A_47) Q_47 (ann := []) (spl := []) (mo := []) (by decide) (by decide +kernel)
set_option maxRecDepth 100000 in
theorem o_264 : okK 14 K_264 := okK_of (C := C_14) (fuel := 3000) rfl (A := A_14) Q_14 (ann := []) (spl := []) (mo := []) (by decide) (by decide +kernel)
def N_265 : aAnn := [(2, [(([(3, 15, 0, 0, 0, 1), (3, 61, 0, 0, 0, 2), (0, 0, 10, 0, 0, 0)], [], []), (10, [(-1, 3)]))])]
set_option maxRecDepth 100000 in
theorem o_265 : okK 48 K_265 := okK_of (C := C_48) (fuel := 3000) rfl (A := A_48) Q_48 (ann := N_265) (spl := []) (mo := []) (by decide) (by decide +kernel)
set_option maxRecDepth 100000 in
theorem o_266 : okK 47 K_266 := okK_of (C := C_47) (fuel := 3000) rfl (A := A_47) Q_47 (ann := []) (spl := []) (mo := []) (by decide) (by decide +kernel)
def N_267 : aAnn := [(4, [(([(3, 9, 0, 0, 0, 1), (0, -2147483648, 2147483647, 0, 0, 2), (3, 61, 0, 0, 0, 3), (0, 0, 1023, 0, 0, 0), (0, 0, 10, 0, 0, 0)], [], []), (10, [(-1, 5)]))])]
set_option maxRecDepth 100000 in
theorem o_267 : okK 86 K_267 := okK_of (C := C_86) (fuel := 3000) rfl (A := A_86) Q_86 (ann := N_267) (spl := []) (mo := []) (by decide) (by decide +kernel)
def N_268 : aAnn := [(2, [(([(3, 9, 0, 0, 0, 1), (0, -2147483648, 2147483647, 0, 0, 2), (3, 61, 0, 0, 0, 3), (0, 0, 6, 0, 0, 0), (4, 0, 0, 0, 0, 0)], [], []), (6, [(-1, 4)]))])]
set_option maxRecDepth 100000 in
theorem o_268 : okK 90 K_268 := okK_of (C := C_90) (fuel := 3000) rfl (A := A_90) Q_90 (ann := N_268) (spl := []) (mo := []) (by decide) (by decide +kernel)
def N_269 : aAnn := [(4, [(([(3, 9, 0, 0, 0, 1), (3, 61, 0, 0, 0, 2), (0, 0, 255, 0, 0, 0), (0, 0, 8, 0, 0, 0)], [], []), (8, [(-1, 4)]))])]
set_option maxRecDepth 100000 in
theorem o_269 : okK 89 K_269 := okK_of (C := C_89) (fuel := 3000) rfl (A := A_89) Q_89 (ann := N_269) (spl := []) (mo := []) (by decide) (by decide +kernel)
set_option maxRecDepth 100000 in
theorem o_270 : okK 87 K_270 := okK_of (C := C_87) (fuel := 3000) rfl (A := A_87) Q_87 (ann := []) (spl := []) (mo := []) (by decide) (by decide +kernel)
def N_271 : aAnn := [(4, [(([(3, 9, 0, 0, 0, 1), (3, 61, 0, 0, 0, 2), (0, 0, 63, 0, 0, 0), (0, 0, 6, 0, 0, 0)], [], []), (6, [(-1, 4)]))])]
set_option maxRecDepth 100000 in
theorem o_271 : okK 88 K_271 := okK_of (C := C_88) (fuel := 3000) rfl (A := A_88) Q_88 (ann := N_271) (spl := []) (mo := []) (by decide) (by decide +kernel)
set_option maxRecDepth 100000 in
theorem o_272 : okK 91 K_272 := okK_of (C := C_91) (fuel := 3000) rfl (A := A_91) Q_91 (ann := []) (spl := []) (mo := []) (by decide) (by decide +kernel)
set_option maxRecDepth 100000 in
theorem o_273 : okK 51 K_273 := okK_of (C := C_51) (fuel := 3000) rfl (A := A_51) Q_51 (ann := []) (spl := []) (mo := []) (by decide) (by decide +kernel)
def N_274 : aAnn := [(19, [(([(3, 2, 0, 0, 0, 1), (0, 0, 4, 0, 0, 2), (0, -2147483648, 2147483647, 0, 0, 3), (1, 0, 0, 0, 0, 0), (0, -2, 3, 0, 0, 0), (0, 0, 4, 0, 0, 0), (4, 0, 0, 0, 0, 0), (4, 0, 0, 0, 0, 0)], [], []), (4, [(-1, 6)]))])]
set_option maxRecDepth 100000 in
theorem o_274 : okK 15 K_274 := okK_of (C := C_15) (fuel := 3000) rfl (A := A_15) Q_15 (ann := N_274) (spl := [(33, [(7, 99)])]) (mo := []) (by decide) (by decide +kernel)
def N_275 : aAnn := [(5, [(([(3, 2, 0, 0, 0, 1), (0, 0, 10, 0, 0, 0)], [], []), (10, [(-1, 2)]))])]
set_option maxRecDepth 100000 in
theorem o_275 : okK 16 K_275 := okK_of (C := C_16) (fuel := 3000) rfl (A := A_16) Q_16 (ann := N_275) (spl := []) (mo := []) (by decide) (by decide +kernel)
set_option maxRecDepth 100000 in
theorem o_276 : okK 47 K_276 := okK_of (C := C_47) (fuel := 3000) rfl (A := A_47) Q_47 (ann := []) (spl := []) (mo := []) (by decide) (by decide +kernel)
set_option maxRecDepth 100000 in
theorem o_277 : okK 101 K_277 := okK_of (C := C_101) (fuel := 3000) rfl (A := A_101) Q_101 (ann := []) (spl := []) (mo := []) (by decide) (by decide +kernel)
def N_278 : aAnn := [(4, [(([(3, 9, 0, 0, 0, 1), (1, 0, 0, 0, 0, 2), (0, 0, 63, 0, 0, 0), (0, 0, 6, 0, 0, 0)], [], []), (6, [(-1, 4)]))])]
set_option maxRecDepth 100000 in
theorem o_278 : okK 103 K_278 := okK_of (C := C_103) (fuel := 3000) rfl (A := A_103) Q_103 (ann := N_278) (spl := []) (mo := []) (by decide) (by decide +kernel)
def N_279 : aAnn := [(10, [(([(3, 2, 0, 0, 0, 1), (0, 0, 9, 0, 0, 0), (0, 1, 10, 0, 0, 0)], [], [(7, 10, (0, 1, 10, 0, 0, 0))]), (10, [(-1, 3)]))])]
set_option maxRecDepth 100000 in
theorem o_279 : okK 17 K_279 := okK_of (C := C_17) (fuel := 3000) rfl (A := A_17) Q_17 (ann := N_279) (spl := []) (mo := []) (by decide) (by decide +kernel)
def N_280 : aAnn := [(4, [(([(3, 9, 0, 0, 0, 1), (0, -2147483648, 2147483647, 0, 0, 2), (0, 0, 255, 0, 0, 0), (0, 0, 8, 0, 0, 0)], [], []), (8, [(-1, 4)]))])]
set_option maxRecDepth 100000 in
theorem o_280 : okK 94 K_280 := okK_of (C := C_94) (fuel := 3000) rfl (A := A_94) Q_94 (ann := N_280) (spl := []) (mo := []) (by decide) (by decide +kernel)
def N_281 : aAnn := [(6, [(([(3, 9, 0, 0, 0, 1), (0, 0, 9, 0, 0, 2), (0, -2147483648, 2147483647, 0, 0, 3), (0, -2147483648, 2147483647, 0, 0, 4), (0, 0, 1023, 0, 0, 0), (0, 0, 8, 0, 0, 0), (4, 0, 0, 0, 0, 0)], [], []), (89, [(-10, 6)]))]), (12, [(([(3, 9, 0, 0, 0, 1), (0, 0, 9, 0, 0, 2), (0, -2147483648, 2147483647, 0, 0, 3), (0, -2147483648, 2147483647, 0, 0, 4), (0, 0, 1023, 0, 0, 0), (0, 0, 7, 0, 0, 0), (0, 0, 8, 0, 0, 0)], [], [(7, 11, (0, 1, 8, 0, 0, 0))]), (88, [(-10, 6), (-1, 7)]))])]
set_option maxRecDepth 100000 in
theorem o_281 : okK 96 K_281 := okK_of (C := C_96) (fuel := 3000) rfl (A := A_96) Q_96 (ann := N_281) (spl := []) (mo := []) (by decide) (by decide +kernel)
def N_282 : aAnn := [(6, [(([(3, 9, 0, 0, 0, 1), (0, -2147483648, 2147483647, 0, 0, 2), (0, -2147483648, 2147483647, 0, 0, 3), (1, 0, 0, 0, 0, 0), (0, -2147483648, 2147483647, 0, 0, 0), (0, 0, 10, 0, 0, 0)], [], []), (10, [(-1, 6)]))])]
set_option maxRecDepth 100000 in
theorem o_282 : okK 97 K_282 := okK_of (C := C_97) (fuel := 3000) rfl (A := A_97) Q_97 (ann := N_282) (spl := []) (mo := []) (by decide) (by decide +kernel)
set_option maxRecDepth 100000 in
theorem o_283 : okK 18 K_283 := okK_of (C := C_18) (fuel := 3000) rfl (A := A_18) Q_18 (ann := []) (spl := []) (mo := []) (by decide) (by decide +kernel)
def N_284 : aAnn := [(2, [(([(3, 9, 0, 0, 0, 1), (0, -2147483648, 2147483647, 0, 0, 2), (0, 0, 8, 0, 0, 0)], [], []), (8, [(-1, 3)]))])]
set_option maxRecDepth 100000 in
theorem o_284 : okK 95 K_284 := okK_of (C := C_95) (fuel := 3000) rfl (A := A_95) Q_95 (ann := N_284) (spl := []) (mo := []) (by decide) (by decide +kernel)
set_option maxRecDepth 100000 in
theorem o_285 : okK 19 K_285 := okK_of (C := C_19) (fuel := 3000) rfl (A := A_19) Q_19 (ann := []) (spl := []) (mo := []) (by decide) (by decide +kernel)
def N_286 : aAnn := [(4, [(([(3, 2, 0, 0, 0, 1), (0, 0, 255, 0, 0, 0), (0, 0, 8, 0, 0, 0)], [], []), (8, [(-1, 3)]))])]
set_option maxRecDepth 100000 in
theorem o_286 : okK 20 K_286 := okK_of (C := C_20) (fuel := 3000) rfl (A := A_20) Q_20 (ann := N_286) (spl := []) (mo := []) (by decide) (by decide +kernel)
def N_287 : aAnn := [(4, [(([(3, 9, 0, 0, 0, 1), (0, 0, 999999, 0, 0, 0), (0, 0, 10, 0, 0, 0)], [], []), (10, [(-1, 3)]))])]
set_option maxRecDepth 100000 in
theorem o_287 : okK 92 K_287 := okK_of (C := C_92) (fuel := 3000) rfl (A := A_92) Q_92 (ann := N_287) (spl := []) (mo := []) (by decide) (by decide +kernel)
set_option maxRecDepth 100000 in
theorem o_288 : okK 69 K_288 := okK_of (C := C_69) (fuel := 3000) rfl (A := A_69) Q_69 (ann := []) (spl := []) (mo := []) (by decide) (by decide +kernel)
def N_289 : aAnn := [(2, [(([(3, 10, 0, 0, 0, 1), (3, 35, 0, 0, 0, 2), (0, 0, 6, 0, 0, 0)], [], []), (6, [(-1, 3)]))])]
set_option maxRecDepth 100000 in
theorem o_289 : okK 48 K_289 := okK_of (C := C_48) (fuel := 3000) rfl (A := A_48) Q_48 (ann := N_289) (spl := []) (mo := []) (by decide) (by decide +kernel)
def N_290 : aAnn := [(22, [(([(3, 34, 0, 0, 0, 1), (3, 9, 0, 0, 0, 2), (0, -2147483648, 2147483647, 0, 0, 3), (0, 0, 6, 0, 0, 0)], [], [(32, 7, (0, 0, 0, 0, 0, 0)), (32, 8, (0, 0, 0, 0, 0, 0)), (32, 9, (0, 0, 0, 0, 0, 0))]), (78, [(-1, 4)]))]), (34, [(([(3, 34, 0, 0, 0, 1), (3, 9, 0, 0, 0, 2), (0, -2147483648, 2147483647, 0, 0, 3), (0, 0, 60, 0, 0, 0)], [], [(32, 7, (0, 0, 0, 0, 0, 0)), (32, 8, (0, 0, 0, 0, 0, 0)), (32, 9, (0, 0, 0, 0, 0, 0))]), (71, [(-1, 4)]))]), (48, [(([(3, 34, 0, 0, 0, 1), (3, 9, 0, 0, 0, 2), (0, -2147483648, 2147483647, 0, 0, 3), (0, 0, 10, 0, 0, 0)], [], [(32, 8, (0, 0, 0, 0, 0, 0)), (32, 9, (0, 0, 0, 0, 0, 0))]), (10, [(-1, 4)]))])]
set_option maxRecDepth 100000 in
theorem o_290 : okK 160 K_290 := okK_of (C := C_160) (fuel := 3000) rfl (A := A_160) Q_160 (ann := N_290) (spl := []) (mo := []) (by decide) (by decide +kernel)
def N_291 : aAnn := [(4, [(([(3, 34, 0, 0, 0, 1), (1, 0, 0, 0, 0, 0), (0, 0, 6, 0, 0, 0)], [], []), (17, [(-1, 3)]))]), (26, [(([(3, 34, 0, 0, 0, 1), (1, 0, 0, 0, 0, 0), (0, 0, 10, 0, 0, 0)], [], []), (10, [(-1, 3)]))])]
set_option maxRecDepth 100000 in
theorem o_291 : okK 164 K_291 := okK_of (C := C_164) (fuel := 3000) rfl (A := A_164) Q_164 (ann := N_291) (spl := []) (mo := []) (by decide) (by decide +kernel)
def N_292 : aAnn := [(28, [(([(3, 34, 0, 0, 0, 1), (0, 0, 9, 0, 0, 2), (0, -1, 5, 0, 0, 0), (0, 0, 6, 0, 0, 0)], [], []), (6, [(-1, 4)]))])]
set_option maxRecDepth 100000 in
theorem o_292 : okK 165 K_292 := okK_of (C := C_165) (fuel := 3000) rfl (A := A_165) Q_165 (ann := N_292) (spl := []) (mo := []) (by decide) (by decide +kernel)
def N_293 : aAnn := [(25, [(([(3, 34, 0, 0, 0, 1), (0, -1, 10, 0, 0, 0), (0, 0, 1000000, 0, 0, 0)], [], [(32, 8, (0, 1, 1, 0, 0, 0)), (32, 9, (0, 0, 0, 0, 0, 0))]), (1000000, [(-1, 3)]))])]
set_option maxRecDepth 100000 in
theorem o_293 : okK 163 K_293 := okK_of (C := C_163) (fuel := 3000) rfl (A := A_163) Q_163 (ann := N_293) (spl := []) (mo := []) (by decide) (by decide +kernel)
set_option maxRecDepth 100000 in
theorem o_294 : okK 47 K_294 := okK_of (C := C_47) (fuel := 3000) rfl (A := A_47) Q_47 (ann := []) (spl := []) (mo := []) (by decide) (by decide +kernel)
def N_295 : aAnn := [(4, [(([(3, 34, 0, 0, 0, 1), (1, 0, 0, 0, 0, 0), (0, 0, 10, 0, 0, 0)], [], []), (10, [(-1, 3)]))])]
set_option maxRecDepth 100000 in
theorem o_295 : okK 166 K_295 := okK_of (C := C_166) (fuel := 3000) rfl (A := A_166) Q_166 (ann := N_295) (spl := []) (mo := []) (by decide) (by decide +kernel)
def N_296 : aAnn := [(2, [(([(3, 38, 0, 0, 0, 1), (3, 40, 0, 0, 0, 2), (0, 0, 10, 0, 0, 0)], [], []), (10, [(-1, 3)]))])]
set_option maxRecDepth 100000 in
theorem o_296 : okK 48 K_296 := okK_of (C := C_48) (fuel := 3000) rfl (A := A_48) Q_48 (ann := N_296) (spl := []) (mo := []) (by decide) (by decide +kernel)
def N_297 : aAnn := [(8, [(([(3, 34, 0, 0, 0, 1), (0, 0, 1000000, 0, 0, 0), (4, 0, 0, 0, 0, 0)], [], []), (1000000, [(-1, 2)]))])]
set_option maxRecDepth 100000 in
theorem o_297 : okK 167 K_297 := okK_of (C := C_167) (fuel := 3000) rfl (A := A_167) Q_167 (ann := N_297) (spl := []) (mo := []) (by decide) (by decide +kernel)
set_option maxRecDepth 100000 in
theorem o_298 : okK 47 K_298 := okK_of (C := C_47) (fuel := 3000) rfl (A := A_47) Q_47 (ann := []) (spl := []) (mo := []) (by decide) (by decide +kernel)
def N_299 : aAnn := [(2, [(([(3, 2, 0, 0, 0, 1), (0, 0, 10, 0, 0, 0)], [], []), (10, [(-1, 2)]))])]
set_option maxRecDepth 100000 in
theorem o_299 : okK 58 K_299 := okK_of (C := C_58) (fuel := 3000) rfl (A := A_58) Q_58 (ann := N_299) (spl := []) (mo := []) (by decide) (by decide +kernel)
set_option maxRecDepth 100000 in
theorem o_300 : okK 21 K_300 := okK_of (C := C_21) (fuel := 3000) rfl (A := A_21) Q_21 (ann := []) (spl := []) (mo := []) (by decide) (by decide +kernel)
def N_301 : aAnn := [(4, [(([(3, 9, 0, 0, 0, 1), (0, -2147483648, 2147483647, 0, 0, 2), (0, 0, 255, 0, 0, 0), (0, 0, 8, 0, 0, 0)], [], []), (8, [(-1, 4)]))])]
set_option maxRecDepth 100000 in
theorem o_301 : okK 93 K_301 := okK_of (C := C_93) (fuel := 3000) rfl (A := A_93) Q_93 (ann := N_301) (spl := []) (mo := []) (by decide) (by decide +kernel)
set_option maxRecDepth 100000 in
theorem o_302 : okK 270 K_302 := okK_of (C := C_270) (fuel := 3000) rfl (A := A_270) Q_270 (ann := []) (spl := []) (mo := []) (by decide) (by decide +kernel)
def N_303 : aAnn := [(4, [(([(3, 9, 0, 0, 0, 1), (0, -2147483648, 2147483647, 0, 0, 2), (0, -2147483648, 2147483647, 0, 0, 3), (0, 0, 63, 0, 0, 0), (0, 0, 6, 0, 0, 0)], [], []), (6, [(-1, 5)]))])]
set_option maxRecDepth 100000 in
theorem o_303 : okK 77 K_303 := okK_of (C := C_77) (fuel := 3000) rfl (A := A_77) Q_77 (ann := N_303) (spl := []) (mo := []) (by decide) (by decide +kernel)
set_option maxRecDepth 100000 in
theorem o_304 : okK 132 K_304 := okK_of (C := C_132) (fuel := 3000) rfl (A := A_132) Q_132 (ann := []) (spl := []) (mo := []) (by decide) (by decide +kernel)
set_option maxRecDepth 100000 in
theorem o_305 : okK 133 K_305 := okK_of (C := C_133) (fuel := 3000) rfl (A := A_133) Q_133 (ann := []) (spl := []) (mo := []) (by decide) (by decide +kernel)
set_option maxRecDepth 100000 in
theorem o_306 : okK 138 K_306 := okK_of (C := C_138) (fuel := 3000) rfl (A := A_138) Q_138 (ann := []) (spl := []) (mo := []) (by decide) (by decide +kernel)
set_option maxRecDepth 100000 in
theorem o_307 : okK 135 K_307 := okK_of (C := C_135) (fuel := 3000) rfl (A := A_135) Q_135 (ann := []) (spl := []) (mo := []) (by decide) (by decide +kernel)
set_option maxRecDepth 100000 in
theorem o_308 : okK 133 K_308 := okK_of (C := C_133) (fuel := 3000) rfl (A := A_133) Q_133 (ann := []) (spl := []) (mo := []) (by decide) (by decide +kernel)
set_option maxRecDepth 100000 in
theorem o_309 : okK 135 K_309 := okK_of (C := C_135) (fuel := 3000) rfl (A := A_135) Q_135 (ann := []) (spl := []) (mo := []) (by decide) (by decide +kernel)
set_option maxRecDepth 100000 in
theorem o_310 : okK 141 K_310 := okK_of (C := C_141) (fuel := 3000) rfl (A := A_141) Q_141 (ann := []) (spl := []) (mo := []) (by decide) (by decide +kernel)
set_option maxRecDepth 100000 in
theorem o_311 : okK 141 K_311 := okK_of (C := C_141) (fuel := 3000) rfl (A := A_141) Q_141 (ann := []) (spl := []) (mo := []) (by decide) (by decide +kernel)
set_option maxRecDepth 100000 in
theorem o_312 : okK 139 K_312 := okK_of (C := C_139) (fuel := 3000) rfl (A := A_139) Q_139 (ann := []) (spl := []) (mo := []) (by decide) (by decide +kernel)
set_option maxRecDepth 100000 in
theorem o_313 : okK 133 K_313 := okK_of (C := C_133) (fuel := 3000) rfl (A := A_133) Q_133 (ann := []) (spl := []) (mo := []) (by decide) (by decide +kernel)
set_option maxRecDepth 100000 in
theorem o_314 : okK 138 K_314 := okK_of (C := C_138) (fuel := 3000) rfl (A := A_138) Q_138 (ann := []) (spl := []) (mo := []) (by decide) (by decide +kernel)
set_option maxRecDepth 100000 in
theorem o_315 : okK 133 K_315 := okK_of (C := C_133) (fuel := 3000) rfl (A := A_133) Q_133 (ann := []) (spl := []) (mo := []) (by decide) (by decide +kernel)
set_option maxRecDepth 100000 in
theorem o_316 : okK 138 K_316 := okK_of (C := C_138) (fuel := 3000) rfl (A := A_138) Q_138 (ann := []) (spl := []) (mo := []) (by decide) (by decide +kernel)
set_option maxRecDepth 100000 in
theorem o_317 : okK 133 K_317 := okK_of (C := C_133) (fuel := 3000) rfl (A := A_133) Q_133 (ann := []) (spl := []) (mo := []) (by decide) (by decide +kernel)
set_option maxRecDepth 100000 in
theorem o_318 : okK 135 K_318 := okK_of (C := C_135) (fuel := 3000) rfl (A := A_135) Q_135 (ann := []) (spl := []) (mo := []) (by decide) (by decide +kernel)
set_option maxRecDepth 100000 in
theorem o_319 : okK 141 K_319 := okK_of (C := C_141) (fuel := 3000) rfl (A := A_141) Q_141 (ann := []) (spl := []) (mo := []) (by decide) (by decide +kernel)
set_option maxRecDepth 100000 in
theorem o_320 : okK 141 K_320 := okK_of (C := C_141) (fuel := 3000) rfl (A := A_141) Q_141 (ann := []) (spl := []) (mo := []) (by decide) (by decide +kernel)
set_option maxRecDepth 100000 in
theorem o_321 : okK 139 K_321 := okK_of (C := C_139) (fuel := 3000) rfl (A := A_139) Q_139 (ann := []) (spl := []) (mo := []) (by decide) (by decide +kernel)
set_option maxRecDepth 100000 in
theorem o_322 : okK 133 K_322 := okK_of (C := C_133) (fuel := 3000) rfl (A := A_133) Q_133 (ann := []) (spl := []) (mo := []) (by decide) (by decide +kernel)
set_option maxRecDepth 100000 in
theorem o_323 : okK 138 K_323 := okK_of (C := C_138) (fuel := 3000) rfl (A := A_138) Q_138 (ann := []) (spl := []) (mo := []) (by decide) (by decide +kernel)
set_option maxRecDepth 100000 in
theorem o_324 : okK 133 K_324 := okK_of (C := C_133) (fuel := 3000) rfl (A := A_133) Q_133 (ann := []) (spl := []) (mo := []) (by decide) (by decide +kernel)
set_option maxRecDepth 100000 in
theorem o_325 : okK 138 K_325 := okK_of (C := C_138) (fuel := 3000) rfl (A := A_138) Q_138 (ann := []) (spl := []) (mo := []) (by decide) (by decide +kernel)
set_option maxRecDepth 100000 in
theorem o_326 : okK 133 K_326 := okK_of (C := C_133) (fuel := 3000) rfl (A := A_133) Q_133 (ann := []) (spl := []) (mo := []) (by decide) (by decide +kernel)
set_option maxRecDepth 100000 in
theorem o_327 : okK 135 K_327 := okK_of (C := C_135) (fuel := 3000) rfl (A := A_135) Q_135 (ann := []) (spl := []) (mo := []) (by decide) (by decide +kernel)
set_option maxRecDepth 100000 in
theorem o_328 : okK 141 K_328 := okK_of (C := C_141) (fuel := 3000) rfl (A := A_141) Q_141 (ann := []) (spl := []) (mo := []) (by decide) (by decide +kernel)
set_option maxRecDepth 100000 in
theorem o_329 : okK 141 K_329 := okK_of (C := C_141) (fuel := 3000) rfl (A := A_141) Q_141 (ann := []) (spl := []) (mo := []) (by decide) (by decide +kernel)
set_option maxRecDepth 100000 in
theorem o_330 : okK 139 K_330 := okK_of (C := C_139) (fuel := 3000) rfl (A := A_139) Q_139 (ann := []) (spl := []) (mo := []) (by decide) (by decide +kernel)
set_option maxRecDepth 100000 in
theorem o_331 : okK 151 K_331 := okK_of (C := C_151) (fuel := 3000) rfl (A := A_151) Q_151 (ann := []) (spl := []) (mo := []) (by decide) (by decide +kernel)
set_option maxRecDepth 100000 in
theorem o_332 : okK 138 K_332 := okK_of (C := C_138) (fuel := 3000) rfl (A := A_138) Q_138 (ann := []) (spl := []) (mo := []) (by decide) (by decide +kernel)
set_option maxRecDepth 100000 in
theorem o_333 : okK 150 K_333 := okK_of (C := C_150) (fuel := 3000) rfl (A := A_150) Q_150 (ann := []) (spl := []) (mo := []) (by decide) (by decide +kernel)
def N_334 : aAnn := [(4, [(([(3, 29, 0, 0, 0, 1), (3, 32, 0, 0, 0, 2), (0, 4, 4, 0, 0, 3), (0, 0, 1, 0, 0, 0), (0, 0, 40, 0, 0, 0)], [], []), (40, [(-1, 5)]))])]
set_option maxRecDepth 100000 in
theorem o_334 : okK 149 K_334 := okK_of (C := C_149) (fuel := 3000) rfl (A := A_149) Q_149 (ann := N_334) (spl := []) (mo := []) (by decide) (by decide +kernel)
def N_335 : aAnn := [(7, [(([(3, 29, 0, 0, 0, 1), (3, 32, 0, 0, 0, 2), (0, 4, 4, 0, 0, 3), (1, 0, 0, 0, 0, 0), (0, 0, 40, 0, 0, 0), (4, 0, 0, 0, 0, 0), (4, 0, 0, 0, 0, 0)], [], []), (40, [(-1, 5)]))])]
set_option maxRecDepth 100000 in
theorem o_335 : okK 148 K_335 := okK_of (C := C_148) (fuel := 3000) rfl (A := A_148) Q_148 (ann := N_335) (spl := []) (mo := []) (by decide) (by decide +kernel)
def N_336 : aAnn := [(7, [(([(3, 29, 0, 0, 0, 1), (3, 32, 0, 0, 0, 2), (0, 4, 4, 0, 0, 3), (1, 0, 0, 0, 0, 0), (0, 0, 40, 0, 0, 0), (4, 0, 0, 0, 0, 0), (4, 0, 0, 0, 0, 0)], [], []), (40, [(-1, 5)]))])]
set_option maxRecDepth 100000 in
theorem o_336 : okK 147 K_336 := okK_of (C := C_147) (fuel := 3000) rfl (A := A_147) Q_147 (ann := N_336) (spl := []) (mo := []) (by decide) (by decide +kernel)
set_option maxRecDepth 100000 in
theorem o_337 : okK 146 K_337 := okK_of (C := C_146) (fuel := 3000) rfl (A := A_146) Q_146 (ann := []) (spl := []) (mo := []) (by decide) (by decide +kernel)
set_option maxRecDepth 100000 in
theorem o_338 : okK 135 K_338 := okK_of (C := C_135) (fuel := 3000) rfl (A := A_135) Q_135 (ann := []) (spl := []) (mo := []) (by decide) (by decide +kernel)
set_option maxRecDepth 100000 in
theorem o_339 : okK 133 K_339 := okK_of (C := C_133) (fuel := 3000) rfl (A := A_133) Q_133 (ann := []) (spl := []) (mo := []) (by decide) (by decide +kernel)
set_option maxRecDepth 100000 in
theorem o_340 : okK 135 K_340 := okK_of (C := C_135) (fuel := 3000) rfl (A := A_135) Q_135 (ann := []) (spl := []) (mo := []) (by decide) (by decide +kernel)
set_option maxRecDepth 100000 in
theorem o_341 : okK 137 K_341 := okK_of (C := C_137) (fuel := 3000) rfl (A := A_137) Q_137 (ann := []) (spl := []) (mo := []) (by decide) (by decide +kernel)
set_option maxRecDepth 100000 in
theorem o_342 : okK 150 K_342 := okK_of (C := C_150) (fuel := 3000) rfl (A := A_150) Q_150 (ann := []) (spl := []) (mo := []) (by decide) (by decide +kernel)
def N_343 : aAnn := [(4, [(([(3, 29, 0, 0, 0, 1), (3, 32, 0, 0, 0, 2), (0, 3, 3, 0, 0, 3), (0, 0, 1, 0, 0, 0), (0, 0, 40, 0, 0, 0)], [], []), (40, [(-1, 5)]))])]
set_option maxRecDepth 100000 in
theorem o_343 : okK 149 K_343 := okK_of (C := C_149) (fuel := 3000) rfl (A := A_149) Q_149 (ann := N_343) (spl := []) (mo := []) (by decide) (by decide +kernel)
def N_344 : aAnn := [(7, [(([(3, 29, 0, 0, 0, 1), (3, 32, 0, 0, 0, 2), (0, 3, 3, 0, 0, 3), (1, 0, 0, 0, 0, 0), (0, 0, 40, 0, 0, 0), (4, 0, 0, 0, 0, 0), (4, 0, 0, 0, 0, 0)], [], []), (40, [(-1, 5)]))])]
set_option maxRecDepth 100000 in
theorem o_344 : okK 148 K_344 := okK_of (C := C_148) (fuel := 3000) rfl (A := A_148) Q_148 (ann := N_344) (spl := []) (mo := []) (by decide) (by decide +kernel)
def N_345 : aAnn := [(7, [(([(3, 29, 0, 0, 0, 1), (3, 32, 0, 0, 0, 2), (0, 3, 3, 0, 0, 3), (1, 0, 0, 0, 0, 0), (0, 0, 40, 0, 0, 0), (4, 0, 0, 0, 0, 0), (4, 0, 0, 0, 0, 0)], [], []), (40, [(-1, 5)]))])]
set_option maxRecDepth 100000 in
theorem o_345 : okK 147 K_345 := okK_of (C := C_147) (fuel := 3000) rfl (A := A_147) Q_147 (ann := N_345) (spl := []) (mo := []) (by decide) (by decide +kernel)
set_option maxRecDepth 100000 in
theorem o_346 : okK 146 K_346 := okK_of (C := C_146) (fuel := 3000) rfl (A := A_146) Q_146 (ann := []) (spl := []) (mo := []) (by decide) (by decide +kernel)
set_option maxRecDepth 100000 in
theorem o_347 : okK 150 K_347 := okK_of (C := C_150) (fuel := 3000) rfl (A := A_150) Q_150 (ann := []) (spl := []) (mo := []) (by decide) (by decide +kernel)
def N_348 : aAnn := [(4, [(([(3, 29, 0, 0, 0, 1), (3, 32, 0, 0, 0, 2), (0, 2, 2, 0, 0, 3), (0, 0, 1, 0, 0, 0), (0, 0, 40, 0, 0, 0)], [], []), (40, [(-1, 5)]))])]
set_option maxRecDepth 100000 in
theorem o_348 : okK 149 K_348 := okK_of (C := C_149) (fuel := 3000) rfl (A := A_149) Q_149 (ann := N_348) (spl := []) (mo := []) (by decide) (by decide +kernel)
def N_349 : aAnn := [(7, [(([(3, 29, 0, 0, 0, 1), (3, 32, 0, 0, 0, 2), (0, 2, 2, 0, 0, 3), (1, 0, 0, 0, 0, 0), (0, 0, 40, 0, 0, 0), (4, 0, 0, 0, 0, 0), (4, 0, 0, 0, 0, 0)], [], []), (40, [(-1, 5)]))])]
set_option maxRecDepth 100000 in
theorem o_349 : okK 148 K_349 := okK_of (C := C_148) (fuel := 3000) rfl (A := A_148) Q_148 (ann := N_349) (spl := []) (mo := []) (by decide) (by decide +kernel)
def N_350 : aAnn := [(7, [(([(3, 29, 0, 0, 0, 1), (3, 32, 0, 0, 0, 2), (0, 2, 2, 0, 0, 3), (1, 0, 0, 0, 0, 0), (0, 0, 40, 0, 0, 0), (4, 0, 0, 0, 0, 0), (4, 0, 0, 0, 0, 0)], [], []), (40, [(-1, 5)]))])]
set_option maxRecDepth 100000 in
theorem o_350 : okK 147 K_350 := okK_of (C := C_147) (fuel := 3000) rfl (A := A_147) Q_147 (ann := N_350) (spl := []) (mo := []) (by decide) (by decide +kernel)
set_option maxRecDepth 100000 in
theorem o_351 : okK 146 K_351 := okK_of (C := C_146) (fuel := 3000) rfl (A := A_146) Q_146 (ann := []) (spl := []) (mo := []) (by decide) (by decide +kernel)
set_option maxRecDepth 100000 in
theorem o_352 : okK 150 K_352 := okK_of (C := C_150) (fuel := 3000) rfl (A := A_150) Q_150 (ann := []) (spl := []) (mo := []) (by decide) (by decide +kernel)
def N_353 : aAnn := [(4, [(([(3, 29, 0, 0, 0, 1), (3, 32, 0, 0, 0, 2), (0, 1, 1, 0, 0, 3), (0, 0, 1, 0, 0, 0), (0, 0, 40, 0, 0, 0)], [], []), (40, [(-1, 5)]))])]
set_option maxRecDepth 100000 in
theorem o_353 : okK 149 K_353 := okK_of (C := C_149) (fuel := 3000) rfl (A := A_149) Q_149 (ann := N_353) (spl := []) (mo := []) (by decide) (by decide +kernel)
def N_354 : aAnn := [(7, [(([(3, 29, 0, 0, 0, 1), (3, 32, 0, 0, 0, 2), (0, 1, 1, 0, 0, 3), (1, 0, 0, 0, 0, 0), (0, 0, 40, 0, 0, 0), (4, 0, 0, 0, 0, 0), (4, 0, 0, 0, 0, 0)], [], []), (40, [(-1, 5)]))])]
set_option maxRecDepth 100000 in
theorem o_354 : okK 148 K_354 := okK_of (C := C_148) (fuel := 3000) rfl (A := A_148) Q_148 (ann := N_354) (spl := []) (mo := []) (by decide) (by decide +kernel)
def N_355 : aAnn := [(7, [(([(3, 29, 0, 0, 0, 1), (3, 32, 0, 0, 0, 2), (0, 1, 1, 0, 0, 3), (1, 0, 0, 0, 0, 0), (0, 0, 40, 0, 0, 0), (4, 0, 0, 0, 0, 0), (4, 0, 0, 0, 0, 0)], [], []), (40, [(-1, 5)]))])]
set_option maxRecDepth 100000 in
theorem o_355 : okK 147 K_355 := okK_of (C := C_147) (fuel := 3000) rfl (A := A_147) Q_147 (ann := N_355) (spl := []) (mo := []) (by decide) (by decide +kernel)
set_option maxRecDepth 100000 in
theorem o_356 : okK 146 K_356 := okK_of (C := C_146) (fuel := 3000) rfl (A := A_146) Q_146 (ann := []) (spl := []) (mo := []) (by decide) (by decide +kernel)
set_option maxRecDepth 100000 in
theorem o_357 : okK 150 K_357 := okK_of (C := C_150) (fuel := 3000) rfl (A := A_150) Q_150 (ann := []) (spl := []) (mo := []) (by decide) (by decide +kernel)
def N_358 : aAnn := [(4, [(([(3, 29, 0, 0, 0, 1), (3, 32, 0, 0, 0, 2), (0, 0, 0, 0, 0, 3), (0, 0, 1, 0, 0, 0), (0, 0, 40, 0, 0, 0)], [], []), (40, [(-1, 5)]))])]
set_option maxRecDepth 100000 in
theorem o_358 : okK 149 K_358 := okK_of (C := C_149) (fuel := 3000) rfl (A := A_149) Q_149 (ann := N_358) (spl := []) (mo := []) (by decide) (by decide +kernel)
def N_359 : aAnn := [(7, [(([(3, 29, 0, 0, 0, 1), (3, 32, 0, 0, 0, 2), (0, 0, 0, 0, 0, 3), (1, 0, 0, 0, 0, 0), (0, 0, 40, 0, 0, 0), (4, 0, 0, 0, 0, 0), (4, 0, 0, 0, 0, 0)], [], []), (40, [(-1, 5)]))])]
set_option maxRecDepth 100000 in
theorem o_359 : okK 148 K_359 := okK_of (C := C_148) (fuel := 3000) rfl (A := A_148) Q_148 (ann := N_359) (spl := []) (mo := []) (by decide) (by decide +kernel)
def N_360 : aAnn := [(7, [(([(3, 29, 0, 0, 0, 1), (3, 32, 0, 0, 0, 2), (0, 0, 0, 0, 0, 3), (1, 0, 0, 0, 0, 0), (0, 0, 40, 0, 0, 0), (4, 0, 0, 0, 0, 0), (4, 0, 0, 0, 0, 0)], [], []), (40, [(-1, 5)]))])]
set_option maxRecDepth 100000 in
theorem o_360 : okK 147 K_360 := okK_of (C := C_147) (fuel := 3000) rfl (A := A_147) Q_147 (ann := N_360) (spl := []) (mo := []) (by decide) (by decide +kernel)
set_option maxRecDepth 100000 in
theorem o_361 : okK 146 K_361 := okK_of (C := C_146) (fuel := 3000) rfl (A := A_146) Q_146 (ann := []) (spl := []) (mo := []) (by decide) (by decide +kernel)
set_option maxRecDepth 100000 in
theorem o_362 : okK 134 K_362 := okK_of (C := C_134) (fuel := 3000) rfl (A := A_134) Q_134 (ann := []) (spl := []) (mo := []) (by decide) (by decide +kernel)
set_option maxRecDepth 100000 in
theorem o_363 : okK 145 K_363 := okK_of (C := C_145) (fuel := 3000) rfl (A := A_145) Q_145 (ann := []) (spl := []) (mo := []) (by decide) (by decide +kernel)
set_option maxRecDepth 100000 in
theorem o_364 : okK 144 K_364 := okK_of (C := C_144) (fuel := 3000) rfl (A := A_144) Q_144 (ann := []) (spl := []) (mo := []) (by decide) (by decide +kernel)
def N_365 : aAnn := [(4, [(([(3, 2, 0, 0, 0, 1), (1, 0, 0, 0, 0, 0), (0, 0, 10, 0, 0, 0)], [], []), (10, [(-1, 3)]))])]
set_option maxRecDepth 100000 in
theorem o_365 : okK 22 K_365 := okK_of (C := C_22) (fuel := 3000) rfl (A := A_22) Q_22 (ann := N_365) (spl := []) (mo := []) (by decide) (by decide +kernel)
set_option maxRecDepth 100000 in
theorem o_366 : okK 162 K_366 := okK_of (C := C_162) (fuel := 3000) rfl (A := A_162) Q_162 (ann := []) (spl := []) (mo := []) (by decide) (by decide +kernel)
def N_367 : aAnn := [(16, [(([(3, 2, 0, 0, 0, 1), (0, 0, 10, 0, 0, 0), (4, 0, 0, 0, 0, 0)], [], [(32, 8, (0, 0, 0, 0, 0, 0)), (32, 9, (0, 0, 0, 0, 0, 0))]), (87, [(-8, 2)]))]), (23, [(([(3, 2, 0, 0, 0, 1), (0, 0, 9, 0, 0, 0), (0, 0, 6, 0, 0, 0)], [], [(7, 10, (0, 1, 10, 0, 0, 0)), (32, 8, (0, 0, 0, 0, 0, 0)), (32, 9, (0, 0, 0, 0, 0, 0))]), (86, [(-8, 2), (-1, 3)]))])]
set_option maxRecDepth 100000 in
theorem o_367 : okK 23 K_367 := okK_of (C := C_23) (fuel := 3000) rfl (A := A_23) Q_23 (ann := N_367) (spl := []) (mo := []) (by decide) (by decide +kernel)
set_option maxRecDepth 100000 in
theorem o_368 : okK 161 K_368 := okK_of (C := C_161) (fuel := 3000) rfl (A := A_161) Q_161 (ann := []) (spl := []) (mo := []) (by decide) (by decide +kernel)
def N_369 : aAnn := [(15, [(([(3, 2, 0, 0, 0, 1), (0, -2147483648, 2147483647, 0, 0, 2), (0, -2147483648, 2147483647, 0, 0, 3), (0, 0, 10, 0, 0, 0), (4, 0, 0, 0, 0, 0), (4, 0, 0, 0, 0, 0)], [], [(32, 8, (0, 0, 0, 0, 0, 0)), (32, 9, (0, 0, 0, 0, 0, 0))]), (87, [(-8, 4)]))]), (22, [(([(3, 2, 0, 0, 0, 1), (0, -2147483648, 2147483647, 0, 0, 2), (0, -2147483648, 2147483647, 0, 0, 3), (0, 0, 9, 0, 0, 0), (0, 0, 6, 0, 0, 0), (4, 0, 0, 0, 0, 0)], [], [(7, 10, (0, 1, 10, 0, 0, 0)), (32, 8, (0, 0, 0, 0, 0, 0)), (32, 9, (0, 0, 0, 0, 0, 0))]), (86, [(-8, 4), (-1, 5)]))])]
set_option maxRecDepth 100000 in
theorem o_369 : okK 59 K_369 := okK_of (C := C_59) (fuel := 3000) rfl (A := A_59) Q_59 (ann := N_369) (spl := []) (mo := []) (by decide) (by decide +kernel)
set_option maxRecDepth 100000 in
theorem o_370 : okK 24 K_370 := okK_of (C := C_24) (fuel := 3000) rfl (A := A_24) Q_24 (ann := []) (spl := []) (mo := []) (by decide) (by decide +kernel)
set_option maxRecDepth 100000 in
theorem o_371 : okK 25 K_371 := okK_of (C := C_25) (fuel := 3000) rfl (A := A_25) Q_25 (ann := []) (spl := []) (mo := []) (by decide) (by decide +kernel)
set_option maxRecDepth 100000 in
theorem o_372 : okK 161 K_372 := okK_of (C := C_161) (fuel := 3000) rfl (A := A_161) Q_161 (ann := []) (spl := []) (mo := []) (by decide) (by decide +kernel)
set_option maxRecDepth 100000 in
theorem o_373 : okK 162 K_373 := okK_of (C := C_162) (fuel := 3000) rfl (A := A_162) Q_162 (ann := []) (spl := []) (mo := []) (by decide) (by decide +kernel)
def N_374 : aAnn := [(16, [(([(3, 2, 0, 0, 0, 1), (0, -2147483648, 2147483647, 0, 0, 2), (0, -2147483648, 2147483647, 0, 0, 3), (0, -2147483648, 2147483647, 0, 0, 4), (0, 0, 10, 0, 0, 0)], [], [(32, 8, (0, 0, 0, 0, 0, 0)), (32, 9, (0, 0, 0, 0, 0, 0))]), (10, [(-1, 5)]))])]
set_option maxRecDepth 100000 in
theorem o_374 : okK 60 K_374 := okK_of (C := C_60) (fuel := 3000) rfl (A := A_60) Q_60 (ann := N_374) (spl := []) (mo := []) (by decide) (by decide +kernel)
def N_375 : aAnn := [(10, [(([(3, 2, 0, 0, 0, 1), (1, 0, 0, 0, 0, 0), (0, 0, 6, 0, 0, 0)], [], []), (6, [(-1, 3)]))])]
set_option maxRecDepth 100000 in
theorem o_375 : okK 26 K_375 := okK_of (C := C_26) (fuel := 3000) rfl (A := A_26) Q_26 (ann := N_375) (spl := []) (mo := []) (by decide) (by decide +kernel)
def N_376 : aAnn := [(4, [(([(3, 9, 0, 0, 0, 1), (0, -2147483648, 2147483647, 0, 0, 2), (0, 0, 1023, 0, 0, 0), (0, 0, 10, 0, 0, 0)], [], []), (10, [(-1, 4)]))])]
set_option maxRecDepth 100000 in
theorem o_376 : okK 105 K_376 := okK_of (C := C_105) (fuel := 3000) rfl (A := A_105) Q_105 (ann := N_376) (spl := []) (mo := []) (by decide) (by decide +kernel)
def N_377 : aAnn := [(4, [(([(3, 9, 0, 0, 0, 1), (0, -2147483648, 2147483647, 0, 0, 2), (0, 0, 1023, 0, 0, 0), (0, 0, 10, 0, 0, 0)], [], []), (10, [(-1, 4)]))])]
set_option maxRecDepth 100000 in
theorem o_377 : okK 104 K_377 := okK_of (C := C_104) (fuel := 3000) rfl (A := A_104) Q_104 (ann := N_377) (spl := []) (mo := []) (by decide) (by decide +kernel)
def N_378 : aAnn := [(40, [(([(3, 2, 0, 0, 0, 1), (0, 1, 99, 0, 0, 2), (0, 0, 255, 0, 0, 3), (0, 0, 1023, 0, 0, 0), (1, 0, 0, 0, 0, 0), (0, 0, 63, 0, 0, 0), (0, 0, 6, 0, 0, 0)], [], []), (6, [(-1, 7)]))])]
set_option maxRecDepth 100000 in
theorem o_378 : okK 27 K_378 := okK_of (C := C_27) (fuel := 3000) rfl (A := A_27) Q_27 (ann := N_378) (spl := []) (mo := []) (by decide) (by decide +kernel)
set_option maxRecDepth 100000 in
theorem o_379 : okK 271 K_379 := okK_of (C := C_271) (fuel := 3000) rfl (A := A_271) Q_271 (ann := []) (spl := []) (mo := []) (by decide) (by decide +kernel)
set_option maxRecDepth 100000 in
theorem o_380 : okK 100 K_380 := okK_of (C := C_100) (fuel := 3000) rfl (A := A_100) Q_100 (ann := []) (spl := []) (mo := []) (by decide) (by decide +kernel)
def N_381 : aAnn := [(38, [(([(3, 2, 0, 0, 0, 1), (0, 0, 9, 0, 0, 2), (0, 0, 5, 0, 0, 0), (0, -2147483648, 2147483647, 0, 0, 0), (1, 0, 0, 0, 0, 0), (0, 0, 1000000, 0, 0, 0), (4, 0, 0, 0, 0, 0)], [], [(7, 12, (0, 1, 10, 0, 0, 0)), (32, 9, (0, 0, 0, 0, 0, 0))]), (1000000, [(-1, 6)]))])]
set_option maxRecDepth 100000 in
theorem o_381 : okK 28 K_381 := okK_of (C := C_28) (fuel := 3000) rfl (A := A_28) Q_28 (ann := N_381) (spl := []) (mo := []) (by decide) (by decide +kernel)
set_option maxRecDepth 100000 in
theorem o_382 : okK 47 K_382 := okK_of (C := C_47) (fuel := 3000) rfl (A := A_47) Q_47 (ann := []) (spl := []) (mo := []) (by decide) (by decide +kernel)
def N_383 : aAnn := [(47, [(([(3, 2, 0, 0, 0, 1), (0, 0, 9, 0, 0, 2), (0, 0, 9, 0, 0, 3), (0, 0, 9, 0, 0, 0), (0, 0, 9, 0, 0, 0), (1, 0, 0, 0, 0, 0), (1, 0, 0, 0, 0, 0), (0, 0, 1000000, 0, 0, 0)], [], [(7, 10, (0, 1, 10, 0, 0, 0)), (32, 9, (0, 0, 0, 0, 0, 0))]), (1000000, [(-1, 8)]))])]
set_option maxRecDepth 100000 in
theorem o_383 : okK 29 K_383 := okK_of (C := C_29) (fuel := 3000) rfl (A := A_29) Q_29 (ann := N_383) (spl := []) (mo := []) (by decide) (by decide +kernel)
set_option maxRecDepth 100000 in
theorem o_384 : okK 30 K_384 := okK_of (C := C_30) (fuel := 3000) rfl (A := A_30) Q_30 (ann := []) (spl := []) (mo := []) (by decide) (by decide +kernel)
def N_385 : aAnn := [(4, [(([(3, 9, 0, 0, 0, 1), (3, 61, 0, 0, 0, 2), (1, 0, 0, 0, 0, 0), (0, 0, 10, 0, 0, 0), (4, 0, 0, 0, 0, 0)], [], []), (10, [(-1, 4)]))])]
set_option maxRecDepth 100000 in
theorem o_385 : okK 83 K_385 := okK_of (C := C_83) (fuel := 3000) rfl (A := A_83) Q_83 (ann := N_385) (spl := []) (mo := []) (by decide) (by decide +kernel)
def N_386 : aAnn := [(16, [(([(3, 2, 0, 0, 0, 1), (0, 0, 5, 0, 0, 2), (0, 0, 5, 0, 0, 3), (0, 0, 10, 0, 0, 0)], [], [(7, 9, (0, 1, 6, 0, 0, 0))]), (10, [(-1, 4)]))])]
set_option maxRecDepth 100000 in
theorem o_386 : okK 31 K_386 := okK_of (C := C_31) (fuel := 3000) rfl (A := A_31) Q_31 (ann := N_386) (spl := []) (mo := []) (by decide) (by decide +kernel)
set_option maxRecDepth 100000 in
theorem o_387 : okK 106 K_387 := okK_of (C := C_106) (fuel := 3000) rfl (A := A_106) Q_106 (ann := []) (spl := []) (mo := []) (by decide) (by decide +kernel)
def N_388 : aAnn := [(12, [(([(3, 2, 0, 0, 0, 1), (0, 0, 1023, 0, 0, 0), (0, 0, 1024, 0, 0, 0), (4, 0, 0, 0, 0, 0)], [], []), (1024, [(-1, 3)]))])]
set_option maxRecDepth 100000 in
theorem o_388 : okK 32 K_388 := okK_of (C := C_32) (fuel := 3000) rfl (A := A_32) Q_32 (ann := N_388) (spl := []) (mo := []) (by decide) (by decide +kernel)
def N_389 : aAnn := [(32, [(([(3, 2, 0, 0, 0, 1), (0, -1, 5, 0, 0, 0), (1, 0, 0, 0, 0, 0), (0, 0, 6, 0, 0, 0)], [], [(7, 9, (0, 1, 6, 0, 0, 0))]), (6, [(-1, 4)]))])]
set_option maxRecDepth 100000 in
theorem o_389 : okK 33 K_389 := okK_of (C := C_33) (fuel := 3000) rfl (A := A_33) Q_33 (ann := N_389) (spl := []) (mo := []) (by decide) (by decide +kernel)
def N_390 : aAnn := [(2, [(([(3, 9, 0, 0, 0, 1), (0, -2147483648, 2147483647, 0, 0, 2), (0, -2147483648, 2147483647, 0, 0, 3), (0, -2147483648, 2147483647, 0, 0, 4), (0, -2147483648, 2147483647, 0, 0, 5), (0, 0, 6, 0, 0, 0)], [], []), (6, [(-1, 6)]))])]
set_option maxRecDepth 100000 in
theorem o_390 : okK 81 K_390 := okK_of (C := C_81) (fuel := 3000) rfl (A := A_81) Q_81 (ann := N_390) (spl := []) (mo := []) (by decide) (by decide +kernel)
def N_391 : aAnn := [(42, [(([(3, 2, 0, 0, 0, 1), (0, 0, 9, 0, 0, 2), (0, 0, 5, 0, 0, 3), (0, 0, 9, 0, 0, 0), (0, -1, 5, 0, 0, 0), (0, 0, 5, 0, 0, 0), (0, -1, 4, 0, 0, 0)], [], [(7, 9, (0, 1, 6, 0, 0, 0)), (7, 10, (0, 1, 10, 0, 0, 0))]), (1, [(1, 7)]))])]
set_option maxRecDepth 100000 in
theorem o_391 : okK 34 K_391 := okK_of (C := C_34) (fuel := 3000) rfl (A := A_34) Q_34 (ann := N_391) (spl := []) (mo := []) (by decide) (by decide +kernel)
def N_392 : aAnn := [(14, [(([(3, 2, 0, 0, 0, 1), (0, 0, 5, 0, 0, 2), (0, 0, 5, 0, 0, 3), (0, 0, 9, 0, 0, 0)], [], [(7, 9, (0, 1, 6, 0, 0, 0))]), (0, [(1, 4)]))])]
set_option maxRecDepth 100000 in
theorem o_392 : okK 35 K_392 := okK_of (C := C_35) (fuel := 3000) rfl (A := A_35) Q_35 (ann := N_392) (spl := []) (mo := []) (by decide) (by decide +kernel)
def N_393 : aAnn := [(12, [(([(3, 9, 0, 0, 0, 1), (0, -2147483648, 2147483647, 0, 0, 2), (0, -2147483648, 2147483647, 0, 0, 3), (0, -2147483648, 2147483647, 0, 0, 0), (0, 1, 6, 0, 0, 0)], [], []), (6, [(-1, 5)]))])]
set_option maxRecDepth 100000 in
theorem o_393 : okK 79 K_393 := okK_of (C := C_79) (fuel := 3000) rfl (A := A_79) Q_79 (ann := N_393) (spl := []) (mo := []) (by decide) (by decide +kernel)
set_option maxRecDepth 100000 in
theorem o_394 : okK 66 K_394 := okK_of (C := C_66) (fuel := 3000) rfl (A := A_66) Q_66 (ann := []) (spl := []) (mo := []) (by decide) (by decide +kernel)
def N_395 : aAnn := [(4, [(([(3, 2, 0, 0, 0, 1), (0, 0, 1023, 0, 0, 0), (0, 0, 10, 0, 0, 0)], [], []), (10, [(-1, 3)]))])]
set_option maxRecDepth 100000 in
theorem o_395 : okK 36 K_395 := okK_of (C := C_36) (fuel := 3000) rfl (A := A_36) Q_36 (ann := N_395) (spl := []) (mo := []) (by decide) (by decide +kernel)
set_option maxRecDepth 100000 in
theorem o_396 : okK 73 K_396 := okK_of (C := C_73) (fuel := 3000) rfl (A := A_73) Q_73 (ann := []) (spl := []) (mo := []) (by decide) (by decide +kernel)
set_option maxRecDepth 100000 in
theorem o_397 : okK 73 K_397 := okK_of (C := C_73) (fuel := 3000) rfl (A := A_73) Q_73 (ann := []) (spl := []) (mo := []) (by decide) (by decide +kernel)
set_option maxRecDepth 100000 in
theorem o_398 : okK 73 K_398 := okK_of (C := C_73) (fuel := 3000) rfl (A := A_73) Q_73 (ann := []) (spl := []) (mo := []) (by decide) (by decide +kernel)
def N_399 : aAnn := [(14, [(([(3, 9, 0, 0, 0, 1), (0, -2147483648, 2147483647, 0, 0, 2), (0, -2147483648, 2147483647, 0, 0, 3), (0, -2147483648, 2147483647, 0, 0, 4), (0, 0, 9, 0, 0, 0), (1, 0, 0, 0, 0, 0), (0, 0, 10, 0, 0, 0)], [], []), (10, [(-1, 7)]))])]
set_option maxRecDepth 100000 in
theorem o_399 : okK 84 K_399 := okK_of (C := C_84) (fuel := 3000) rfl (A := A_84) Q_84 (ann := N_399) (spl := []) (mo := []) (by decide) (by decide +kernel)
def N_400 : aAnn := [(15, [(([(3, 2, 0, 0, 0, 1), (0, 0, 5, 0, 0, 2), (0, -1, 5, 0, 0, 0), (0, -1, 5, 0, 0, 0), (1, 0, 0, 0, 0, 0), (0, 0, 6, 0, 0, 0), (4, 0, 0, 0, 0, 0), (4, 0, 0, 0, 0, 0)], [], [(7, 9, (0, 1, 6, 0, 0, 0))]), (48, [(-7, 6)]))]), (24, [(([(3, 2, 0, 0, 0, 1), (0, 0, 5, 0, 0, 2), (0, -1, 5, 0, 0, 0), (0, -1, 5, 0, 0, 0), (1, 0, 0, 0, 0, 0), (0, 0, 5, 0, 0, 0), (0, 1, 6, 0, 0, 0), (4, 0, 0, 0, 0, 0)], [], [(7, 9, (0, 1, 6, 0, 0, 0))]), (48, [(-7, 6), (-1, 7)]))])]
set_option maxRecDepth 100000 in
theorem o_400 : okK 37 K_400 := okK_of (C := C_37) (fuel := 3000) rfl (A := A_37) Q_37 (ann := N_400) (spl := []) (mo := []) (by decide) (by decide +kernel)
set_option maxRecDepth 100000 in
theorem o_401 : okK 132 K_401 := okK_of (C := C_132) (fuel := 3000) rfl (A := A_132) Q_132 (ann := []) (spl := []) (mo := []) (by decide) (by decide +kernel)
def N_402 : aAnn := [(8, [(([(3, 2, 0, 0, 0, 1), (0, 0, 10, 0, 0, 0)], [], [(3, 2, (0, 0, 10, 0, 0, 0))]), (10, [(-1, 2)]))])]
set_option maxRecDepth 100000 in
theorem o_402 : okK 56 K_402 := okK_of (C := C_56) (fuel := 3000) rfl (A := A_56) Q_56 (ann := N_402) (spl := []) (mo := []) (by decide) (by decide +kernel)
def N_403 : aAnn := [(16, [(([(3, 2, 0, 0, 0, 1), (0, 0, 80, 0, 0, 0), (0, -1, -1, 0, 0, 0), (0, 0, 10, 0, 0, 0)], [], []), (10, [(-1, 4)]))])]
set_option maxRecDepth 100000 in
theorem o_403 : okK 38 K_403 := okK_of (C := C_38) (fuel := 3000) rfl (A := A_38) Q_38 (ann := N_403) (spl := []) (mo := []) (by decide) (by decide +kernel)
set_option maxRecDepth 100000 in
theorem o_404 : okK 57 K_404 := okK_of (C := C_57) (fuel := 3000) rfl (A := A_57) Q_57 (ann := []) (spl := []) (mo := []) (by decide) (by decide +kernel)
set_option maxRecDepth 100000 in
theorem o_405 : okK 47 K_405 := okK_of (C := C_47) (fuel := 3000) rfl (A := A_47) Q_47 (ann := []) (spl := []) (mo := []) (by decide) (by decide +kernel)
def N_406 : aAnn := [(4, [(([(3, 9, 0, 0, 0, 1), (3, 60, 0, 0, 0, 2), (1, 0, 0, 0, 0, 0), (0, 0, 10, 0, 0, 0), (4, 0, 0, 0, 0, 0)], [], []), (10, [(-1, 4)]))])]
set_option maxRecDepth 100000 in
theorem o_406 : okK 83 K_406 := okK_of (C := C_83) (fuel := 3000) rfl (A := A_83) Q_83 (ann := N_406) (spl := []) (mo := []) (by decide) (by decide +kernel)
def N_407 : aAnn := [(4, [(([(3, 9, 0, 0, 0, 1), (0, -2147483648, 2147483647, 0, 0, 2), (3, 60, 0, 0, 0, 3), (0, 0, 1023, 0, 0, 0), (0, 0, 10, 0, 0, 0)], [], []), (10, [(-1, 5)]))])]
set_option maxRecDepth 100000 in
theorem o_407 : okK 86 K_407 := okK_of (C := C_86) (fuel := 3000) rfl (A := A_86) Q_86 (ann := N_407) (spl := []) (mo := []) (by decide) (by decide +kernel)
def N_408 : aAnn := [(2, [(([(3, 9, 0, 0, 0, 1), (0, -2147483648, 2147483647, 0, 0, 2), (3, 60, 0, 0, 0, 3), (0, 0, 6, 0, 0, 0), (4, 0, 0, 0, 0, 0)], [], []), (6, [(-1, 4)]))])]
set_option maxRecDepth 100000 in
theorem o_408 : okK 90 K_408 := okK_of (C := C_90) (fuel := 3000) rfl (A := A_90) Q_90 (ann := N_408) (spl := []) (mo := []) (by decide) (by decide +kernel)
def N_409 : aAnn := [(4, [(([(3, 9, 0, 0, 0, 1), (3, 60, 0, 0, 0, 2), (0, 0, 255, 0, 0, 0), (0, 0, 8, 0, 0, 0)], [], []), (8, [(-1, 4)]))])]
set_option maxRecDepth 100000 in
theorem o_409 : okK 89 K_409 := okK_of (C := C_89) (fuel := 3000) rfl (A := A_89) Q_89 (ann := N_409) (spl := []) (mo := []) (by decide) (by decide +kernel)
set_option maxRecDepth 100000 in
theorem o_410 : okK 87 K_410 := okK_of (C := C_87) (fuel := 3000) rfl (A := A_87) Q_87 (ann := []) (spl := []) (mo := []) (by decide) (by decide +kernel)
def N_411 : aAnn := [(4, [(([(3, 9, 0, 0, 0, 1), (3, 60, 0, 0, 0, 2), (0, 0, 63, 0, 0, 0), (0, 0, 6, 0, 0, 0)], [], []), (6, [(-1, 4)]))])]
set_option maxRecDepth 100000 in
theorem o_411 : okK 88 K_411 := okK_of (C := C_88) (fuel := 3000) rfl (A := A_88) Q_88 (ann := N_411) (spl := []) (mo := []) (by decide) (by decide +kernel)
set_option maxRecDepth 100000 in
theorem o_412 : okK 91 K_412 := okK_of (C := C_91) (fuel := 3000) rfl (A := A_91) Q_91 (ann := []) (spl := []) (mo := []) (by decide) (by decide +kernel)
set_option maxRecDepth 100000 in
theorem o_413 : okK 39 K_413 := okK_of (C := C_39) (fuel := 3000) rfl (A := A_39) Q_39 (ann := []) (spl := []) (mo := []) (by decide) (by decide +kernel)
def N_414 : aAnn := [(4, [(([(3, 9, 0, 0, 0, 1), (3, 60, 0, 0, 0, 2), (0, 0, 1023, 0, 0, 0), (0, 0, 10, 0, 0, 0)], [], []), (10, [(-1, 4)]))])]
set_option maxRecDepth 100000 in
theorem o_414 : okK 157 K_414 := okK_of (C := C_157) (fuel := 3000) rfl (A := A_157) Q_157 (ann := N_414) (spl := []) (mo := []) (by decide) (by decide +kernel)
def N_415 : aAnn := [(2, [(([(3, 50, 0, 0, 0, 1), (0, -2147483648, 2147483647, 0, 0, 2), (0, -2147483648, 2147483647, 0, 0, 3), (0, 0, 10, 0, 0, 0), (4, 0, 0, 0, 0, 0)], [], []), (10, [(-1, 4)]))])]
set_option maxRecDepth 100000 in
theorem o_415 : okK 158 K_415 := okK_of (C := C_158) (fuel := 3000) rfl (A := A_158) Q_158 (ann := N_415) (spl := []) (mo := []) (by decide) (by decide +kernel)
set_option maxRecDepth 100000 in
theorem o_416 : okK 47 K_416 := okK_of (C := C_47) (fuel := 3000) rfl (A := A_47) Q_47 (ann := []) (spl := []) (mo := []) (by decide) (by decide +kernel)
def N_417 : aAnn := [(4, [(([(3, 9, 0, 0, 0, 1), (0, -2147483648, 2147483647, 0, 0, 2), (3, 53, 0, 0, 0, 3), (0, 0, 1023, 0, 0, 0), (0, 0, 10, 0, 0, 0)], [], []), (10, [(-1, 5)]))])]
set_option maxRecDepth 100000 in
theorem o_417 : okK 86 K_417 := okK_of (C := C_86) (fuel := 3000) rfl (A := A_86) Q_86 (ann := N_417) (spl := []) (mo := []) (by decide) (by decide +kernel)
set_option maxRecDepth 100000 in
theorem o_418 : okK 87 K_418 := okK_of (C := C_87) (fuel := 3000) rfl (A := A_87) Q_87 (ann := []) (spl := []) (mo := []) (by decide) (by decide +kernel)
def N_419 : aAnn := [(4, [(([(3, 9, 0, 0, 0, 1), (3, 53, 0, 0, 0, 2), (0, 0, 63, 0, 0, 0), (0, 0, 6, 0, 0, 0)], [], []), (6, [(-1, 4)]))])]
set_option maxRecDepth 100000 in
theorem o_419 : okK 88 K_419 := okK_of (C := C_88) (fuel := 3000) rfl (A := A_88) Q_88 (ann := N_419) (spl := []) (mo := []) (by decide) (by decide +kernel)
def N_420 : aAnn := [(2, [(([(3, 50, 0, 0, 0, 1), (3, 9, 0, 0, 0, 2), (3, 60, 0, 0, 0, 3), (0, -2147483648, 2147483647, 0, 0, 4), (0, 0, 10, 0, 0, 0)], [], []), (10, [(-1, 5)]))])]
set_option maxRecDepth 100000 in
theorem o_420 : okK 159 K_420 := okK_of (C := C_159) (fuel := 3000) rfl (A := A_159) Q_159 (ann := N_420) (spl := []) (mo := []) (by decide) (by decide +kernel)
def N_421 : aAnn := [(6, [(([(3, 50, 0, 0, 0, 1), (3, 9, 0, 0, 0, 2), (3, 60, 0, 0, 0, 3), (0, 0, 1023, 0, 0, 0), (0, 0, 1023, 0, 0, 0), aRef 0, aRef 0], [], []), (0, [(1, 5)]))])]
set_option maxRecDepth 100000 in
theorem o_421 : okK 156 K_421 := okK_of (C := C_156) (fuel := 3000) rfl (A := A_156) Q_156 (ann := N_421) (spl := []) (mo := []) (by decide) (by decide +kernel)
set_option maxRecDepth 100000 in
theorem o_422 : okK 47 K_422 := okK_of (C := C_47) (fuel := 3000) rfl (A := A_47) Q_47 (ann := []) (spl := []) (mo := []) (by decide) (by decide +kernel)
def N_423 : aAnn := [(41, [(([(3, 2, 0, 0, 0, 1), (0, 0, 10, 0, 0, 0)], [], [(0, 14, (0, 1, 10, 0, 0, 0)), (7, 10, (0, 1, 10, 0, 0, 0))]), (10, [(-1, 2)]))])]
set_option maxRecDepth 100000 in
theorem o_423 : okK 40 K_423 := okK_of (C := C_40) (fuel := 3000) rfl (A := A_40) Q_40 (ann := N_423) (spl := []) (mo := []) (by decide) (by decide +kernel)
def N_424 : aAnn := [(2, [(([(3, 9, 0, 0, 0, 1), (3, 60, 0, 0, 0, 2), (0, 0, 10, 0, 0, 0)], [], []), (10, [(-1, 3)]))])]
set_option maxRecDepth 100000 in
theorem o_424 : okK 85 K_424 := okK_of (C := C_85) (fuel := 3000) rfl (A := A_85) Q_85 (ann := N_424) (spl := []) (mo := []) (by decide) (by decide +kernel)
def N_425 : aAnn := [(14, [(([(3, 54, 0, 0, 0, 1), (3, 9, 0, 0, 0, 2), (3, 34, 0, 0, 0, 3), (0, 0, 1000000, 0, 0, 0), (4, 0, 0, 0, 0, 0)], [], [(32, 9, (0, 0, 0, 0, 0, 0))]), (12000011, [(-12, 4)]))]), (34, [(([(3, 54, 0, 0, 0, 1), (3, 9, 0, 0, 0, 2), (3, 34, 0, 0, 0, 3), (0, 0, 999999, 0, 0, 0), (0, 0, 10, 0, 0, 0)], [], [(32, 8, (0, 1, 1, 0, 0, 0)), (32, 9, (0, 0, 0, 0, 0, 0)), (52, 5, (0, 0, 299, 0, 0, 0))]), (12000010, [(-12, 4), (-1, 5)]))])]
set_option maxRecDepth 100000 in
theorem o_425 : okK 112 K_425 := okK_of (C := C_112) (fuel := 3000) rfl (A := A_112) Q_112 (ann := N_425) (spl := []) (mo := []) (by decide) (by decide +kernel)
set_option maxRecDepth 100000 in
theorem o_426 : okK 114 K_426 := okK_of (C := C_114) (fuel := 3000) rfl (A := A_114) Q_114 (ann := []) (spl := []) (mo := []) (by decide) (by decide +kernel)
def N_427 : aAnn := [(2, [(([(3, 54, 0, 0, 0, 1), (3, 9, 0, 0, 0, 2), (3, 60, 0, 0, 0, 3), (0, 0, 300, 0, 0, 0), (4, 0, 0, 0, 0, 0), (4, 0, 0, 0, 0, 0)], [], []), (3611, [(-12, 4)]))]), (10, [(([(3, 54, 0, 0, 0, 1), (3, 9, 0, 0, 0, 2), (3, 60, 0, 0, 0, 3), (0, 0, 299, 0, 0, 0), (1, 0, 0, 0, 0, 0), (0, 0, 10, 0, 0, 0)], [], [(52, 5, (0, 1, 300, 0, 0, 0))]), (3610, [(-12, 4), (-1, 6)]))])]
set_option maxRecDepth 100000 in
theorem o_427 : okK 115 K_427 := okK_of (C := C_115) (fuel := 3000) rfl (A := A_115) Q_115 (ann := N_427) (spl := []) (mo := []) (by decide) (by decide +kernel)
def N_428 : aAnn := [(2, [(([(3, 54, 0, 0, 0, 1), (3, 9, 0, 0, 0, 2), (0, 0, 511, 0, 0, 0), aRef 0, aRef 0, aRef 0], [], []), (929, [(-1, 3)]))]), (16, [(([(3, 54, 0, 0, 0, 1), (3, 9, 0, 0, 0, 2), (0, 0, 10, 0, 0, 0), (4, 0, 0, 0, 0, 0), (4, 0, 0, 0, 0, 0), (4, 0, 0, 0, 0, 0)], [], []), (417, [(-38, 3)]))]), (31, [(([(3, 54, 0, 0, 0, 1), (3, 9, 0, 0, 0, 2), (0, 0, 9, 0, 0, 0), (0, 0, 324, 0, 0, 0), (0, 0, 36, 0, 0, 0), (4, 0, 0, 0, 0, 0)], [], [(7, 10, (0, 1, 10, 0, 0, 0))]), (416, [(-38, 3), (-1, 5)]))])]
set_option maxRecDepth 100000 in
theorem o_428 : okK 116 K_428 := okK_of (C := C_116) (fuel := 3000) rfl (A := A_116) Q_116 (ann := N_428) (spl := []) (mo := []) (by decide) (by decide +kernel)
def N_429 : aAnn := [(4, [(([(3, 54, 0, 0, 0, 1), (3, 9, 0, 0, 0, 2), (0, -2147483648, 2147483647, 0, 0, 3), (1, 0, 0, 0, 0, 0), (0, 0, 10, 0, 0, 0), (4, 0, 0, 0, 0, 0)], [], []), (10, [(-1, 5)]))])]
set_option maxRecDepth 100000 in
theorem o_429 : okK 117 K_429 := okK_of (C := C_117) (fuel := 3000) rfl (A := A_117) Q_117 (ann := N_429) (spl := []) (mo := []) (by decide) (by decide +kernel)
def N_430 : aAnn := [(23, [(([(3, 54, 0, 0, 0, 1), (3, 9, 0, 0, 0, 2), (3, 60, 0, 0, 0, 3), (0, 0, 300, 0, 0, 0)], [], [(52, 5, (0, 1, 300, 0, 0, 0)), (52, 7, (0, 0, 299, 0, 0, 0))]), (300, [(-1, 4)]))])]
set_option maxRecDepth 100000 in
theorem o_430 : okK 113 K_430 := okK_of (C := C_113) (fuel := 3000) rfl (A := A_113) Q_113 (ann := N_430) (spl := []) (mo := []) (by decide) (by decide +kernel)
set_option maxRecDepth 100000 in
theorem o_431 : okK 61 K_431 := okK_of (C := C_61) (fuel := 3000) rfl (A := A_61) Q_61 (ann := []) (spl := []) (mo := []) (by decide) (by decide +kernel)
def N_432 : aAnn := [(6, [(([(3, 54, 0, 0, 0, 1), (0, -2147483648, 2147483647, 0, 0, 2), (0, -2147483648, 2147483647, 0, 0, 3), (0, -1, 299, 0, 0, 0), (1, 0, 0, 0, 0, 0), (0, 0, 300, 0, 0, 0)], [], []), (300, [(-1, 6)]))])]
set_option maxRecDepth 100000 in
theorem o_432 : okK 120 K_432 := okK_of (C := C_120) (fuel := 3000) rfl (A := A_120) Q_120 (ann := N_432) (spl := []) (mo := []) (by decide) (by decide +kernel)
set_option maxRecDepth 100000 in
theorem o_433 : okK 47 K_433 := okK_of (C := C_47) (fuel := 3000) rfl (A := A_47) Q_47 (ann := []) (spl := []) (mo := []) (by decide) (by decide +kernel)
def N_434 : aAnn := [(4, [(([(3, 54, 0, 0, 0, 1), (0, -2147483648, 2147483647, 0, 0, 2), (0, -2147483648, 2147483647, 0, 0, 3), (1, 0, 0, 0, 0, 0), (0, 0, 10, 0, 0, 0)], [], []), (10, [(-1, 5)]))])]
set_option maxRecDepth 100000 in
theorem o_434 : okK 118 K_434 := okK_of (C := C_118) (fuel := 3000) rfl (A := A_118) Q_118 (ann := N_434) (spl := []) (mo := []) (by decide) (by decide +kernel)
def N_435 : aAnn := [(4, [(([(3, 54, 0, 0, 0, 1), (0, -2147483648, 2147483647, 0, 0, 2), (0, -2147483648, 2147483647, 0, 0, 3), (0, -2147483648, 2147483647, 0, 0, 4), (0, -2147483648, 1000000, 0, 0, 0), (0, 0, 300, 0, 0, 0), (4, 0, 0, 0, 0, 0)], [], []), (300, [(-1, 6)]))])]
set_option maxRecDepth 100000 in
theorem o_435 : okK 122 K_435 := okK_of (C := C_122) (fuel := 3000) rfl (A := A_122) Q_122 (ann := N_435) (spl := []) (mo := []) (by decide) (by decide +kernel)
def N_436 : aAnn := [(4, [(([(3, 54, 0, 0, 0, 1), (0, -2147483648, 2147483647, 0, 0, 2), (0, -2147483648, 2147483647, 0, 0, 3), (0, 0, 1, 0, 0, 0), (0, 0, 300, 0, 0, 0), (4, 0, 0, 0, 0, 0)], [], []), (300, [(-1, 5)]))])]
set_option maxRecDepth 100000 in
theorem o_436 : okK 121 K_436 := okK_of (C := C_121) (fuel := 3000) rfl (A := A_121) Q_121 (ann := N_436) (spl := []) (mo := []) (by decide) (by decide +kernel)
def N_437 : aAnn := [(2, [(([(3, 54, 0, 0, 0, 1), (0, -2147483648, 2147483647, 0, 0, 2), (0, 0, 300, 0, 0, 0), aRef 0], [], []), (601, [(-1, 3)]))]), (28, [(([(3, 54, 0, 0, 0, 1), (0, -2147483648, 2147483647, 0, 0, 2), (0, 0, 1, 0, 0, 0), (0, 0, 300, 0, 0, 0)], [], []), (300, [(-1, 4)]))])]
set_option maxRecDepth 100000 in
theorem o_437 : okK 119 K_437 := okK_of (C := C_119) (fuel := 3000) rfl (A := A_119) Q_119 (ann := N_437) (spl := []) (mo := []) (by decide) (by decide +kernel)
def N_438 : aAnn := [(28, [(([(3, 2, 0, 0, 0, 1), (0, 1, 1, 0, 0, 0), (0, 1, 300, 0, 0, 0), (0, 0, 10, 0, 0, 0)], [], [(0, 14, (0, 1, 10, 0, 0, 0)), (5, 1, (0, 1, 12, 0, 0, 0)), (7, 10, (0, 1, 10, 0, 0, 0)), (52, 5, (0, 1, 300, 0, 0, 0)), (52, 7, (0, 0, 299, 0, 0, 0)), (52, 9, (0, 0, 299, 0, 0, 0))]), (10, [(-1, 4)]))])]
set_option maxRecDepth 100000 in
theorem o_438 : okK 41 K_438 := okK_of (C := C_41) (fuel := 3000) rfl (A := A_41) Q_41 (ann := N_438) (spl := []) (mo := []) (by decide) (by decide +kernel)
def N_439 : aAnn := [(6, [(([(3, 54, 0, 0, 0, 1), (0, -1, 299, 0, 0, 0), (1, 0, 0, 0, 0, 0), (0, 0, 300, 0, 0, 0)], [], []), (300, [(-1, 4)]))])]
set_option maxRecDepth 100000 in
theorem o_439 : okK 124 K_439 := okK_of (C := C_124) (fuel := 3000) rfl (A := A_124) Q_124 (ann := N_439) (spl := []) (mo := []) (by decide) (by decide +kernel)
def N_440 : aAnn := [(2, [(([(3, 54, 0, 0, 0, 1), (0, 0, 300, 0, 0, 0), aRef 0, aRef 0], [], []), (91202, [(-1, 2)]))]), (23, [(([(3, 54, 0, 0, 0, 1), (0, 0, 300, 0, 0, 0), (4, 0, 0, 0, 0, 0), (4, 0, 0, 0, 0, 0)], [], []), (90901, [(-302, 2)]))]), (45, [(([(3, 54, 0, 0, 0, 1), (0, 0, 299, 0, 0, 0), (0, 0, 299, 0, 0, 0), (0, 0, 300, 0, 0, 0)], [], [(52, 5, (0, 1, 300, 0, 0, 0))]), (90900, [(-302, 2), (-1, 4)]))])]
set_option maxRecDepth 100000 in
theorem o_440 : okK 123 K_440 := okK_of (C := C_123) (fuel := 3000) rfl (A := A_123) Q_123 (ann := N_440) (spl := []) (mo := []) (by decide) (by decide +kernel)
def N_441 : aAnn := [(6, [(([(3, 54, 0, 0, 0, 1), (0, -2147483648, 2147483647, 0, 0, 2), (1, 0, 0, 0, 0, 3), (0, -1, 299, 0, 0, 0), (1, 0, 0, 0, 0, 0), (0, 0, 300, 0, 0, 0)], [], []), (300, [(-1, 6)]))])]
set_option maxRecDepth 100000 in
theorem o_441 : okK 120 K_441 := okK_of (C := C_120) (fuel := 3000) rfl (A := A_120) Q_120 (ann := N_441) (spl := []) (mo := []) (by decide) (by decide +kernel)
def N_442 : aAnn := [(4, [(([(3, 54, 0, 0, 0, 1), (0, -2147483648, 2147483647, 0, 0, 2), (0, -2147483648, 2147483647, 0, 0, 3), (1, 0, 0, 0, 0, 4), (0, -2147483648, 1000000, 0, 0, 0), (0, 0, 300, 0, 0, 0), (4, 0, 0, 0, 0, 0)], [], []), (300, [(-1, 6)]))])]
set_option maxRecDepth 100000 in
theorem o_442 : okK 122 K_442 := okK_of (C := C_122) (fuel := 3000) rfl (A := A_122) Q_122 (ann := N_442) (spl := []) (mo := []) (by decide) (by decide +kernel)
def N_443 : aAnn := [(4, [(([(3, 54, 0, 0, 0, 1), (0, -2147483648, 2147483647, 0, 0, 2), (1, 0, 0, 0, 0, 3), (0, 0, 1, 0, 0, 0), (0, 0, 300, 0, 0, 0), (4, 0, 0, 0, 0, 0)], [], []), (300, [(-1, 5)]))])]
set_option maxRecDepth 100000 in
theorem o_443 : okK 121 K_443 := okK_of (C := C_121) (fuel := 3000) rfl (A := A_121) Q_121 (ann := N_443) (spl := []) (mo := []) (by decide) (by decide +kernel)
def N_444 : aAnn := [(2, [(([(3, 54, 0, 0, 0, 1), (1, 0, 0, 0, 0, 2), (0, 0, 300, 0, 0, 0), aRef 0], [], []), (601, [(-1, 3)]))]), (28, [(([(3, 54, 0, 0, 0, 1), (1, 0, 0, 0, 0, 2), (0, 0, 1, 0, 0, 0), (0, 0, 300, 0, 0, 0)], [], []), (300, [(-1, 4)]))])]
set_option maxRecDepth 100000 in
theorem o_444 : okK 119 K_444 := okK_of (C := C_119) (fuel := 3000) rfl (A := A_119) Q_119 (ann := N_444) (spl := []) (mo := []) (by decide) (by decide +kernel)
set_option maxRecDepth 100000 in
theorem o_445 : okK 42 K_445 := okK_of (C := C_42) (fuel := 3000) rfl (A := A_42) Q_42 (ann := []) (spl := []) (mo := []) (by decide) (by decide +kernel)
set_option maxRecDepth 100000 in
theorem o_446 : okK 50 K_446 := okK_of (C := C_50) (fuel := 3000) rfl (A := A_50) Q_50 (ann := []) (spl := []) (mo := []) (by decide) (by decide +kernel)
def N_447 : aAnn := [(2, [(([(3, 15, 0, 0, 0, 1), (3, 47, 0, 0, 0, 2), (0, 0, 10, 0, 0, 0)], [], []), (10, [(-1, 3)]))])]
set_option maxRecDepth 100000 in
theorem o_447 : okK 48 K_447 := okK_of (C := C_48) (fuel := 3000) rfl (A := A_48) Q_48 (ann := N_447) (spl := []) (mo := []) (by decide) (by decide +kernel)
set_option maxRecDepth 100000 in
theorem o_448 : okK 125 K_448 := okK_of (C := C_125) (fuel := 3000) rfl (A := A_125) Q_125 (ann := []) (spl := []) (mo := []) (by decide) (by decide +kernel)
def N_449 : aAnn := [(2, [(([(3, 15, 0, 0, 0, 1), (3, 49, 0, 0, 0, 2), (0, 0, 10, 0, 0, 0)], [], []), (10, [(-1, 3)]))])]
set_option maxRecDepth 100000 in
theorem o_449 : okK 48 K_449 := okK_of (C := C_48) (fuel := 3000) rfl (A := A_48) Q_48 (ann := N_449) (spl := []) (mo := []) (by decide) (by decide +kernel)
set_option maxRecDepth 100000 in
theorem o_450 : okK 125 K_450 := okK_of (C := C_125) (fuel := 3000) rfl (A := A_125) Q_125 (ann := []) (spl := []) (mo := []) (by decide) (by decide +kernel)
set_option maxRecDepth 100000 in
theorem o_451 : okK 43 K_451 := okK_of (C := C_43) (fuel := 3000) rfl (A := A_43) Q_43 (ann := []) (spl := []) (mo := []) (by decide) (by decide +kernel)
set_option maxRecDepth 100000 in
theorem o_452 : okK 126 K_452 := okK_of (C := C_126) (fuel := 3000) rfl (A := A_126) Q_126 (ann := []) (spl := []) (mo := []) (by decide) (by decide +kernel)
def N_453 : aAnn := [(2, [(([(3, 47, 0, 0, 0, 1), (3, 15, 0, 0, 0, 2), (0, 0, 10, 0, 0, 0)], [], []), (10, [(-1, 3)]))])]
set_option maxRecDepth 100000 in
theorem o_453 : okK 48 K_453 := okK_of (C := C_48) (fuel := 3000) rfl (A := A_48) Q_48 (ann := N_453) (spl := []) (mo := []) (by decide) (by decide +kernel)
set_option maxRecDepth 100000 in
theorem o_454 : okK 126 K_454 := okK_of (C := C_126) (fuel := 3000) rfl (A := A_126) Q_126 (ann := []) (spl := []) (mo := []) (by decide) (by decide +kernel)
def N_455 : aAnn := [(2, [(([(3, 49, 0, 0, 0, 1), (3, 15, 0, 0, 0, 2), (0, 0, 10, 0, 0, 0)], [], []), (10, [(-1, 3)]))])]
set_option maxRecDepth 100000 in
theorem o_455 : okK 48 K_455 := okK_of (C := C_48) (fuel := 3000) rfl (A := A_48) Q_48 (ann := N_455) (spl := []) (mo := []) (by decide) (by decide +kernel)
set_option maxRecDepth 100000 in
theorem o_456 : okK 44 K_456 := okK_of (C := C_44) (fuel := 3000) rfl (A := A_44) Q_44 (ann := []) (spl := []) (mo := []) (by decide) (by decide +kernel)
def N_457 : aAnn := [(4, [(([(3, 9, 0, 0, 0, 1), (1, 0, 0, 0, 0, 0), (0, 0, 6, 0, 0, 0)], [], []), (6, [(-1, 3)]))])]
set_option maxRecDepth 100000 in
theorem o_457 : okK 75 K_457 := okK_of (C := C_75) (fuel := 3000) rfl (A := A_75) Q_75 (ann := N_457) (spl := []) (mo := []) (by decide) (by decide +kernel)
set_option maxRecDepth 100000 in
theorem o_458 : okK 45 K_458 := okK_of (C := C_45) (fuel := 3000) rfl (A := A_45) Q_45 (ann := []) (spl := []) (mo := []) (by decide) (by decide +kernel)
set_option maxRecDepth 100000 in
theorem o_459 : okK 175 K_459 := okK_of (C := C_175) (fuel := 3000) rfl (A := A_175) Q_175 (ann := []) (spl := [(0, [(3918, 76)])]) (mo := []) (by decide) (by decide +kernel)
set_option maxRecDepth 100000 in
theorem o_460 : okK 169 K_460 := okK_of (C := C_169) (fuel := 3000) rfl (A := A_169) Q_169 (ann := []) (spl := []) (mo := []) (by decide) (by decide +kernel)
set_option maxRecDepth 100000 in
theorem o_461 : okK 176 K_461 := okK_of (C := C_176) (fuel := 3000) rfl (A := A_176) Q_176 (ann := []) (spl := []) (mo := []) (by decide) (by decide +kernel)
set_option maxRecDepth 100000 in
theorem o_462 : okK 177 K_462 := okK_of (C := C_177) (fuel := 3000) rfl (A := A_177) Q_177 (ann := []) (spl := []) (mo := []) (by decide) (by decide +kernel)
set_option maxRecDepth 100000 in
theorem o_464 : okK 179 K_464 := okK_of (C := C_179) (fuel := 3000) rfl (A := A_179) Q_179 (ann := []) (spl := []) (mo := []) (by decide) (by decide +kernel)
set_option maxRecDepth 100000 in
theorem o_465 : okK 180 K_465 := okK_of (C := C_180) (fuel := 3000) rfl (A := A_180) Q_180 (ann := []) (spl := []) (mo := []) (by decide) (by decide +kernel)
set_option maxRecDepth 100000 in
theorem o_466 : okK 179 K_466 := okK_of (C := C_179) (fuel := 3000) rfl (A := A_179) Q_179 (ann := []) (spl := []) (mo := []) (by decide) (by decide +kernel)
def N_467 : aAnn := [(42, [(([(3, 62, 0, 0, 0, 1), (0, 0, 40, 0, 0, 0), (0, 0, 40, 0, 0, 0)], [], [(60, 14, (0, 0, 0, 0, 0, 0)), (60, 17, (0, 0, 0, 0, 0, 0)), (60, 18, (0, 70, 70, 0, 0, 0)), (60, 20, (0, 40, 40, 0, 0, 0)), (60, 21, (0, 0, 40, 0, 0, 0)), (60, 22, (0, -1, -1, 0, 0, 0)), (60, 26, (0, -1, -1, 0, 0, 0))]), (40, [(-1, 3)]))])]
set_option maxRecDepth 100000 in
theorem o_467 : okK 193 K_467 := okK_of (C := C_193) (fuel := 3000) rfl (A := A_193) Q_193 (ann := N_467) (spl := []) (mo := []) (by decide) (by decide +kernel)
set_option maxRecDepth 100000 in
theorem o_468 : okK 169 K_468 := okK_of (C := C_169) (fuel := 3000) rfl (A := A_169) Q_169 (ann := []) (spl := []) (mo := []) (by decide) (by decide +kernel)
set_option maxRecDepth 100000 in
theorem o_469 : okK 173 K_469 := okK_of (C := C_173) (fuel := 3000) rfl (A := A_173) Q_173 (ann := []) (spl := []) (mo := []) (by decide) (by decide +kernel)
set_option maxRecDepth 100000 in
theorem o_470 : okK 171 K_470 := okK_of (C := C_171) (fuel := 3000) rfl (A := A_171) Q_171 (ann := []) (spl := []) (mo := []) (by decide) (by decide +kernel)
set_option maxRecDepth 100000 in
theorem o_471 : okK 169 K_471 := okK_of (C := C_169) (fuel := 3000) rfl (A := A_169) Q_169 (ann := []) (spl := []) (mo := []) (by decide) (by decide +kernel)
def N_472 : aAnn := [(4, [(([(3, 62, 0, 0, 0, 1), (0, 0, 5, 0, 0, 2), (0, 0, 63, 0, 0, 0), (0, 0, 6, 0, 0, 0)], [], []), (6, [(-1, 4)]))])]
set_option maxRecDepth 100000 in
theorem o_472 : okK 197 K_472 := okK_of (C := C_197) (fuel := 3000) rfl (A := A_197) Q_197 (ann := N_472) (spl := []) (mo := []) (by decide) (by decide +kernel)
def N_473 : aAnn := [(7, [(([(3, 62, 0, 0, 0, 1), (3, 68, 0, 0, 0, 2), (0, 0, 5, 0, 0, 3), (1, 0, 0, 0, 0, 0), (0, 0, 10, 0, 0, 0)], [], []), (10, [(-1, 5)]))])]
set_option maxRecDepth 100000 in
theorem o_473 : okK 198 K_473 := okK_of (C := C_198) (fuel := 3000) rfl (A := A_198) Q_198 (ann := N_473) (spl := []) (mo := []) (by decide) (by decide +kernel)
def N_474 : aAnn := [(42, [(([(3, 62, 0, 0, 0, 1), (0, 0, 5, 0, 0, 2), (0, 1, 2, 0, 0, 3), (0, 0, 1023, 0, 0, 0), (0, 0, 10, 0, 0, 0)], [], [(60, 17, (0, 0, 0, 0, 0, 0))]), (10, [(-1, 5)]))])]
set_option maxRecDepth 100000 in
theorem o_474 : okK 199 K_474 := okK_of (C := C_199) (fuel := 3000) rfl (A := A_199) Q_199 (ann := N_474) (spl := []) (mo := []) (by decide) (by decide +kernel)
set_option maxRecDepth 100000 in
theorem o_475 : okK 169 K_475 := okK_of (C := C_169) (fuel := 3000) rfl (A := A_169) Q_169 (ann := []) (spl := []) (mo := []) (by decide) (by decide +kernel)
set_option maxRecDepth 100000 in
theorem o_476 : okK 174 K_476 := okK_of (C := C_174) (fuel := 3000) rfl (A := A_174) Q_174 (ann := []) (spl := []) (mo := []) (by decide) (by decide +kernel)
set_option maxRecDepth 100000 in
theorem o_477 : okK 169 K_477 := okK_of (C := C_169) (fuel := 3000) rfl (A := A_169) Q_169 (ann := []) (spl := []) (mo := []) (by decide) (by decide +kernel)
set_option maxRecDepth 100000 in
theorem o_478 : okK 170 K_478 := okK_of (C := C_170) (fuel := 3000) rfl (A := A_170) Q_170 (ann := []) (spl := []) (mo := []) (by decide) (by decide +kernel)
def N_479 : aAnn := [(4, [(([(3, 62, 0, 0, 0, 1), (0, -2147483648, 2147483647, 0, 0, 2), (0, 0, 255, 0, 0, 0), (0, 0, 8, 0, 0, 0)], [], []), (8, [(-1, 4)]))])]
set_option maxRecDepth 100000 in
theorem o_479 : okK 196 K_479 := okK_of (C := C_196) (fuel := 3000) rfl (A := A_196) Q_196 (ann := N_479) (spl := []) (mo := []) (by decide) (by decide +kernel)
set_option maxRecDepth 100000 in
theorem o_481 : okK 177 K_481 := okK_of (C := C_177) (fuel := 3000) rfl (A := A_177) Q_177 (ann := []) (spl := []) (mo := []) (by decide) (by decide +kernel)
set_option maxRecDepth 100000 in
theorem o_483 : okK 194 K_483 := okK_of (C := C_194) (fuel := 3000) rfl (A := A_194) Q_194 (ann := []) (spl := []) (mo := []) (by decide) (by decide +kernel)
set_option maxRecDepth 100000 in
theorem o_484 : okK 201 K_484 := okK_of (C := C_201) (fuel := 3000) rfl (A := A_201) Q_201 (ann := []) (spl := []) (mo := []) (by decide) (by decide +kernel)
set_option maxRecDepth 100000 in
theorem o_485 : okK 169 K_485 := okK_of (C := C_169) (fuel := 3000) rfl (A := A_169) Q_169 (ann := []) (spl := []) (mo := []) (by decide) (by decide +kernel)
set_option maxRecDepth 100000 in
theorem o_486 : okK 202 K_486 := okK_of (C := C_202) (fuel := 3000) rfl (A := A_202) Q_202 (ann := []) (spl := []) (mo := []) (by decide) (by decide +kernel)
set_option maxRecDepth 100000 in
theorem o_487 : okK 203 K_487 := okK_of (C := C_203) (fuel := 3000) rfl (A := A_203) Q_203 (ann := []) (spl := []) (mo := []) (by decide) (by decide +kernel)
set_option maxRecDepth 100000 in
theorem o_488 : okK 169 K_488 := okK_of (C := C_169) (fuel := 3000) rfl (A := A_169) Q_169 (ann := []) (spl := []) (mo := []) (by decide) (by decide +kernel)
set_option maxRecDepth 100000 in
theorem o_489 : okK 205 K_489 := okK_of (C := C_205) (fuel := 3000) rfl (A := A_205) Q_205 (ann := []) (spl := []) (mo := []) (by decide) (by decide +kernel)
set_option maxRecDepth 100000 in
theorem o_490 : okK 172 K_490 := okK_of (C := C_172) (fuel := 3000) rfl (A := A_172) Q_172 (ann := []) (spl := []) (mo := []) (by decide) (by decide +kernel)
set_option maxRecDepth 100000 in
theorem o_491 : okK 172 K_491 := okK_of (C := C_172) (fuel := 3000) rfl (A := A_172) Q_172 (ann := []) (spl := []) (mo := []) (by decide) (by decide +kernel)
set_option maxRecDepth 100000 in
theorem o_492 : okK 172 K_492 := okK_of (C := C_172) (fuel := 3000) rfl (A := A_172) Q_172 (ann := []) (spl := []) (mo := []) (by decide) (by decide +kernel)
set_option maxRecDepth 100000 in
theorem o_493 : okK 172 K_493 := okK_of (C := C_172) (fuel := 3000) rfl (A := A_172) Q_172 (ann := []) (spl := []) (mo := []) (by decide) (by decide +kernel)
set_option maxRecDepth 100000 in
theorem o_494 : okK 172 K_494 := okK_of (C := C_172) (fuel := 3000) rfl (A := A_172) Q_172 (ann := []) (spl := []) (mo := []) (by decide) (by decide +kernel)
set_option maxRecDepth 100000 in
theorem o_495 : okK 172 K_495 := okK_of (C := C_172) (fuel := 3000) rfl (A := A_172) Q_172 (ann := []) (spl := []) (mo := []) (by decide) (by decide +kernel)
set_option maxRecDepth 100000 in
theorem o_496 : okK 172 K_496 := okK_of (C := C_172) (fuel := 3000) rfl (A := A_172) Q_172 (ann := []) (spl := []) (mo := []) (by decide) (by decide +kernel)
set_option maxRecDepth 100000 in
theorem o_497 : okK 172 K_497 := okK_of (C := C_172) (fuel := 3000) rfl (A := A_172) Q_172 (ann := []) (spl := []) (mo := []) (by decide) (by decide +kernel)
set_option maxRecDepth 100000 in
theorem o_498 : okK 172 K_498 := okK_of (C := C_172) (fuel := 3000) rfl (A := A_172) Q_172 (ann := []) (spl := []) (mo := []) (by decide) (by decide +kernel)
set_option maxRecDepth 100000 in
theorem o_499 : okK 172 K_499 := okK_of (C := C_172) (fuel := 3000) rfl (A := A_172) Q_172 (ann := []) (spl := []) (mo := []) (by decide) (by decide +kernel)
set_option maxRecDepth 100000 in
theorem o_500 : okK 222 K_500 := okK_of (C := C_222) (fuel := 3000) rfl (A := A_222) Q_222 (ann := []) (spl := []) (mo := []) (by decide) (by decide +kernel)
def N_501 : aAnn := [(4, [(([(3, 62, 0, 0, 0, 1), (0, -2147483648, 2147483647, 0, 0, 2), (1, 0, 0, 0, 0, 0), (0, 0, 10, 0, 0, 0)], [], []), (10, [(-1, 4)]))])]
set_option maxRecDepth 100000 in
theorem o_501 : okK 223 K_501 := okK_of (C := C_223) (fuel := 3000) rfl (A := A_223) Q_223 (ann := N_501) (spl := []) (mo := []) (by decide) (by decide +kernel)
set_option maxRecDepth 100000 in
theorem o_502 : okK 172 K_502 := okK_of (C := C_172) (fuel := 3000) rfl (A := A_172) Q_172 (ann := []) (spl := []) (mo := []) (by decide) (by decide +kernel)
def N_503 : aAnn := [(16, [(([(3, 62, 0, 0, 0, 1), (0, 0, 9, 0, 0, 0), (0, 1, 10, 0, 0, 0), aRef 0], [], [(60, 3, (0, 1, 10, 0, 0, 0)), (60, 17, (0, 0, 0, 0, 0, 0))]), (17, [(-1, 3)]))]), (41, [(([(3, 62, 0, 0, 0, 1), (0, 0, 9, 0, 0, 0), (0, 0, 63, 0, 0, 0), (0, 0, 6, 0, 0, 0)], [], [(60, 3, (0, 1, 10, 0, 0, 0)), (60, 17, (0, 0, 0, 0, 0, 0))]), (6, [(-1, 4)]))])]
set_option maxRecDepth 100000 in
theorem o_503 : okK 224 K_503 := okK_of (C := C_224) (fuel := 3000) rfl (A := A_224) Q_224 (ann := N_503) (spl := []) (mo := []) (by decide) (by decide +kernel)
def N_504 : aAnn := [(19, [(([(3, 62, 0, 0, 0, 1), (0, 0, 9, 0, 0, 2), (0, 0, 255, 0, 0, 0), (0, 0, 8, 0, 0, 0)], [], [(60, 17, (0, 0, 0, 0, 0, 0))]), (8, [(-1, 4)]))])]
set_option maxRecDepth 100000 in
theorem o_504 : okK 225 K_504 := okK_of (C := C_225) (fuel := 3000) rfl (A := A_225) Q_225 (ann := N_504) (spl := []) (mo := []) (by decide) (by decide +kernel)
def N_505 : aAnn := [(14, [(([(3, 62, 0, 0, 0, 1), (0, 0, 10, 0, 0, 0), (0, 0, 255, 0, 0, 0), (0, 0, 8, 0, 0, 0)], [], [(60, 17, (0, 0, 0, 0, 0, 0))]), (8, [(-1, 4)]))])]
set_option maxRecDepth 100000 in
theorem o_505 : okK 227 K_505 := okK_of (C := C_227) (fuel := 3000) rfl (A := A_227) Q_227 (ann := N_505) (spl := []) (mo := []) (by decide) (by decide +kernel)
def N_506 : aAnn := [(9, [(([(3, 62, 0, 0, 0, 1), (0, 0, 10, 0, 0, 0)], [], [(60, 0, (0, 1, 6, 0, 0, 0)), (60, 39, (0, 1, 1000000, 0, 0, 0))]), (10, [(-1, 2)]))])]
set_option maxRecDepth 100000 in
theorem o_506 : okK 228 K_506 := okK_of (C := C_228) (fuel := 3000) rfl (A := A_228) Q_228 (ann := N_506) (spl := []) (mo := []) (by decide) (by decide +kernel)
set_option maxRecDepth 100000 in
theorem o_507 : okK 229 K_507 := okK_of (C := C_229) (fuel := 3000) rfl (A := A_229) Q_229 (ann := []) (spl := []) (mo := []) (by decide) (by decide +kernel)
set_option maxRecDepth 100000 in
theorem o_508 : okK 170 K_508 := okK_of (C := C_170) (fuel := 3000) rfl (A := A_170) Q_170 (ann := []) (spl := []) (mo := []) (by decide) (by decide +kernel)
def N_509 : aAnn := [(7, [(([(3, 62, 0, 0, 0, 1), (3, 80, 0, 0, 0, 2), (0, 0, 5, 0, 0, 3), (1, 0, 0, 0, 0, 0), (0, 0, 10, 0, 0, 0)], [], []), (10, [(-1, 5)]))])]
set_option maxRecDepth 100000 in
theorem o_509 : okK 198 K_509 := okK_of (C := C_198) (fuel := 3000) rfl (A := A_198) Q_198 (ann := N_509) (spl := []) (mo := []) (by decide) (by decide +kernel)
def N_510 : aAnn := [(8, [(([(3, 62, 0, 0, 0, 1), (0, 0, 999999, 0, 0, 0), (0, -1, 9, 0, 0, 0)], [], [(60, 0, (0, 1, 6, 0, 0, 0)), (60, 40, (0, 0, 999999, 0, 0, 0))]), (19, [(1, 3)]))]), (34, [(([(3, 62, 0, 0, 0, 1), (0, 0, 999999, 0, 0, 0), (0, 0, 10, 0, 0, 0)], [], [(60, 0, (0, 1, 6, 0, 0, 0)), (60, 40, (0, 0, 999999, 0, 0, 0))]), (17, [(-1, 3)]))]), (53, [(([(3, 62, 0, 0, 0, 1), (0, 0, 999999, 0, 0, 0), (0, 0, 6, 0, 0, 0)], [], [(60, 0, (0, 1, 6, 0, 0, 0)), (60, 40, (0, 0, 999999, 0, 0, 0))]), (6, [(-1, 3)]))])]
set_option maxRecDepth 100000 in
theorem o_510 : okK 231 K_510 := okK_of (C := C_231) (fuel := 3000) rfl (A := A_231) Q_231 (ann := N_510) (spl := []) (mo := []) (by decide) (by decide +kernel)
def N_511 : aAnn := [(6, [(([(3, 62, 0, 0, 0, 1)], [], [(60, 0, (0, 1, 6, 0, 0, 0)), (60, 40, (0, 0, 1000000, 0, 0, 0))]), (1000000, [(-1, 3944)]))])]
set_option maxRecDepth 100000 in
theorem o_511 : okK 230 K_511 := okK_of (C := C_230) (fuel := 3000) rfl (A := A_230) Q_230 (ann := N_511) (spl := []) (mo := [(60, 40, 1)]) (by decide) (by decide +kernel)
set_option maxRecDepth 100000 in
theorem o_512 : okK 232 K_512 := okK_of (C := C_232) (fuel := 3000) rfl (A := A_232) Q_232 (ann := []) (spl := []) (mo := []) (by decide) (by decide +kernel)
def N_513 : aAnn := [(2, [(([(3, 62, 0, 0, 0, 1), (0, 0, 10, 0, 0, 0)], [], []), (10, [(-1, 2)]))])]
set_option maxRecDepth 100000 in
theorem o_513 : okK 233 K_513 := okK_of (C := C_233) (fuel := 3000) rfl (A := A_233) Q_233 (ann := N_513) (spl := []) (mo := []) (by decide) (by decide +kernel)
def N_514 : aAnn := [(12, [(([(3, 62, 0, 0, 0, 1), (1, 0, 0, 0, 0, 0)], [], [(60, 0, (0, 1, 6, 0, 0, 0)), (60, 17, (0, 0, 0, 0, 0, 0)), (60, 39, (0, 1, 20000, 0, 0, 0)), (60, 40, (0, -1, 999999, 0, 0, 0))]), (1999998, [(-2, 3944)]))])]
set_option maxRecDepth 100000 in
theorem o_514 : okK 234 K_514 := okK_of (C := C_234) (fuel := 3000) rfl (A := A_234) Q_234 (ann := N_514) (spl := []) (mo := []) (by decide) (by decide +kernel)
def N_516 : aAnn := [(9, [(([(3, 62, 0, 0, 0, 1), (0, 0, 0, 0, 0, 0)], [], [(60, 0, (0, 0, 0, 0, 0, 0)), (60, 3, (0, 0, 0, 0, 0, 0)), (60, 30, (0, 0, 0, 0, 0, 0)), (60, 39, (0, 1, 1, 0, 0, 0))]), (0, [(-1, 2)]))])]
set_option maxRecDepth 100000 in
theorem o_516 : okK 228 K_516 := okK_of (C := C_228) (fuel := 3000) rfl (A := A_228) Q_228 (ann := N_516) (spl := []) (mo := []) (by decide) (by decide +kernel)
def N_517 : aAnn := [(8, [(([(3, 62, 0, 0, 0, 1), (0, 0, 999999, 0, 0, 0), (0, -1, -1, 0, 0, 0)], [], [(60, 0, (0, 0, 0, 0, 0, 0)), (60, 3, (0, 0, 0, 0, 0, 0)), (60, 30, (0, 0, 0, 0, 0, 0)), (60, 40, (0, 0, 999999, 0, 0, 0))]), (3, [(1, 3)]))]), (34, [(([(3, 62, 0, 0, 0, 1), (0, 0, 999999, 0, 0, 0), (0, 0, 0, 0, 0, 0)], [], [(60, 0, (0, 0, 0, 0, 0, 0)), (60, 3, (0, 0, 0, 0, 0, 0)), (60, 30, (0, 0, 0, 0, 0, 0)), (60, 40, (0, 0, 999999, 0, 0, 0))]), (1, [(-1, 3)]))]), (53, [(([(3, 62, 0, 0, 0, 1), (0, 0, 999999, 0, 0, 0), (0, 0, 0, 0, 0, 0)], [], [(60, 0, (0, 0, 0, 0, 0, 0)), (60, 3, (0, 0, 0, 0, 0, 0)), (60, 30, (0, 0, 0, 0, 0, 0)), (60, 40, (0, 0, 999999, 0, 0, 0))]), (0, [(-1, 3)]))])]
set_option maxRecDepth 100000 in
theorem o_517 : okK 231 K_517 := okK_of (C := C_231) (fuel := 3000) rfl (A := A_231) Q_231 (ann := N_517) (spl := []) (mo := []) (by decide) (by decide +kernel)
def N_518 : aAnn := [(6, [(([(3, 62, 0, 0, 0, 1)], [], [(60, 0, (0, 0, 0, 0, 0, 0)), (60, 3, (0, 0, 0, 0, 0, 0)), (60, 30, (0, 0, 0, 0, 0, 0)), (60, 40, (0, 0, 1000000, 0, 0, 0))]), (1000000, [(-1, 3944)]))])]
set_option maxRecDepth 100000 in
theorem o_518 : okK 230 K_518 := okK_of (C := C_230) (fuel := 3000) rfl (A := A_230) Q_230 (ann := N_518) (spl := []) (mo := [(60, 40, 1)]) (by decide) (by decide +kernel)
def N_519 : aAnn := [(12, [(([(3, 62, 0, 0, 0, 1), (1, 0, 0, 0, 0, 0)], [], [(60, 0, (0, 0, 0, 0, 0, 0)), (60, 3, (0, 0, 0, 0, 0, 0)), (60, 17, (0, 0, 0, 0, 0, 0)), (60, 30, (0, 0, 0, 0, 0, 0)), (60, 39, (0, 1, 1, 0, 0, 0)), (60, 40, (0, -1, 999999, 0, 0, 0))]), (1999998, [(-2, 3944)]))])]
set_option maxRecDepth 100000 in
theorem o_519 : okK 234 K_519 := okK_of (C := C_234) (fuel := 3000) rfl (A := A_234) Q_234 (ann := N_519) (spl := []) (mo := []) (by decide) (by decide +kernel)
def N_520 : aAnn := [(4, [(([(3, 62, 0, 0, 0, 1), (3, 68, 0, 0, 0, 2), (1, 0, 0, 0, 0, 0), (0, 0, 10, 0, 0, 0)], [], []), (10, [(-1, 4)]))])]
set_option maxRecDepth 100000 in
theorem o_520 : okK 195 K_520 := okK_of (C := C_195) (fuel := 3000) rfl (A := A_195) Q_195 (ann := N_520) (spl := []) (mo := []) (by decide) (by decide +kernel)
set_option maxRecDepth 100000 in
theorem o_521 : okK 235 K_521 := okK_of (C := C_235) (fuel := 3000) rfl (A := A_235) Q_235 (ann := []) (spl := []) (mo := []) (by decide) (by decide +kernel)
def N_522 : aAnn := [(2, [(([(3, 62, 0, 0, 0, 1), (0, -1, 5, 0, 0, 2), (0, 0, 9, 0, 0, 3), (0, 0, 6, 0, 0, 0), aRef 0, aRef 0], [], []), (405, [(-1, 4)]))]), (20, [(([(3, 62, 0, 0, 0, 1), (0, -1, 5, 0, 0, 2), (0, 0, 9, 0, 0, 3), (0, 0, 6, 0, 0, 0), (4, 0, 0, 0, 0, 0), (4, 0, 0, 0, 0, 0)], [], []), (398, [(-57, 4)]))]), (26, [(([(3, 62, 0, 0, 0, 1), (0, -1, 5, 0, 0, 2), (0, 0, 9, 0, 0, 3), (0, 0, 5, 0, 0, 0), (0, 0, 6, 0, 0, 0), (4, 0, 0, 0, 0, 0)], [], [(60, 0, (0, 1, 6, 0, 0, 0))]), (397, [(-57, 4), (-8, 5)]))]), (32, [(([(3, 62, 0, 0, 0, 1), (0, -1, 5, 0, 0, 2), (0, 0, 9, 0, 0, 3), (0, 0, 5, 0, 0, 0), (0, 0, 5, 0, 0, 0), (0, 0, 6, 0, 0, 0)], [], [(60, 0, (0, 1, 6, 0, 0, 0))]), (396, [(-57, 4), (-8, 5), (-1, 6)]))])]
set_option maxRecDepth 100000 in
theorem o_522 : okK 207 K_522 := okK_of (C := C_207) (fuel := 3000) rfl (A := A_207) Q_207 (ann := N_522) (spl := []) (mo := []) (by decide) (by decide +kernel)
set_option maxRecDepth 100000 in
theorem o_523 : okK 208 K_523 := okK_of (C := C_208) (fuel := 3000) rfl (A := A_208) Q_208 (ann := []) (spl := []) (mo := []) (by decide) (by decide +kernel)
def N_524 : aAnn := [(4, [(([(3, 62, 0, 0, 0, 1), (3, 68, 0, 0, 0, 2), (0, 0, 0, 0, 0, 3), (3, 80, 0, 0, 0, 4), (0, 0, 0, 0, 0, 5), (0, 0, 0, 0, 0, 0), (0, 0, 0, 0, 0, 0), aRef 0], [], []), (10, [(-1, 7)])), (([(3, 62, 0, 0, 0, 1), (3, 68, 0, 0, 0, 2), (0, 0, 0, 0, 0, 3), (3, 80, 0, 0, 0, 4), (0, 0, 0, 0, 0, 5), (0, 0, 8999991, 0, 0, 0), (0, 1, 1, 0, 0, 0), (0, 0, 999999, 0, 0, 0)], [], [(60, 3, (0, 1, 10, 0, 0, 0))]), (10, [(-1, 7)])), (([(3, 62, 0, 0, 0, 1), (3, 68, 0, 0, 0, 2), (0, 0, 0, 0, 0, 3), (3, 80, 0, 0, 0, 4), (0, 0, 0, 0, 0, 5), (0, 0, 89999910, 0, 0, 0), (0, 10, 10, 0, 0, 0), (0, 0, 999999, 0, 0, 0)], [], [(60, 3, (0, 10, 10, 0, 0, 0))]), (10, [(-1, 7)])), (([(3, 62, 0, 0, 0, 1), (3, 68, 0, 0, 0, 2), (0, 0, 0, 0, 0, 3), (3, 80, 0, 0, 0, 4), (0, 0, 0, 0, 0, 5), (0, 0, 17999982, 0, 0, 0), (0, 2, 2, 0, 0, 0), (0, 0, 999999, 0, 0, 0)], [], [(60, 3, (0, 2, 10, 0, 0, 0))]), (10, [(-1, 7)])), (([(3, 62, 0, 0, 0, 1), (3, 68, 0, 0, 0, 2), (0, 0, 0, 0, 0, 3), (3, 80, 0, 0, 0, 4), (0, 0, 0, 0, 0, 5), (0, 0, 26999973, 0, 0, 0), (0, 3, 3, 0, 0, 0), (0, 0, 999999, 0, 0, 0)], [], [(60, 3, (0, 3, 10, 0, 0, 0))]), (10, [(-1, 7)])), (([(3, 62, 0, 0, 0, 1), (3, 68, 0, 0, 0, 2), (0, 0, 0, 0, 0, 3), (3, 80, 0, 0, 0, 4), (0, 0, 0, 0, 0, 5), (0, 0, 35999964, 0, 0, 0), (0, 4, 4, 0, 0, 0), (0, 0, 999999, 0, 0, 0)], [], [(60, 3, (0, 4, 10, 0, 0, 0))]), (10, [(-1, 7)])), (([(3, 62, 0, 0, 0, 1), (3, 68, 0, 0, 0, 2), (0, 0, 0, 0, 0, 3), (3, 80, 0, 0, 0, 4), (0, 0, 0, 0, 0, 5), (0, 0, 44999955, 0, 0, 0), (0, 5, 5, 0, 0, 0), (0, 0, 999999, 0, 0, 0)], [], [(60, 3, (0, 5, 10, 0, 0, 0))]), (10, [(-1, 7)])), (([(3, 62, 0, 0, 0, 1), (3, 68, 0, 0, 0, 2), (0, 0, 0, 0, 0, 3), (3, 80, 0, 0, 0, 4), (0, 0, 0, 0, 0, 5), (0, 0, 53999946, 0, 0, 0), (0, 6, 6, 0, 0, 0), (0, 0, 999999, 0, 0, 0)], [], [(60, 3, (0, 6, 10, 0, 0, 0))]), (10, [(-1, 7)])), (([(3, 62, 0, 0, 0, 1), (3, 68, 0, 0, 0, 2), (0, 0, 0, 0, 0, 3), (3, 80, 0, 0, 0, 4), (0, 0, 0, 0, 0, 5), (0, 0, 62999937, 0, 0, 0), (0, 7, 7, 0, 0, 0), (0, 0, 999999, 0, 0, 0)], [], [(60, 3, (0, 7, 10, 0, 0, 0))]), (10, [(-1, 7)])), (([(3, 62, 0, 0, 0, 1), (3, 68, 0, 0, 0, 2), (0, 0, 0, 0, 0, 3), (3, 80, 0, 0, 0, 4), (0, 0, 0, 0, 0, 5), (0, 0, 71999928, 0, 0, 0), (0, 8, 8, 0, 0, 0), (0, 0, 999999, 0, 0, 0)], [], [(60, 3, (0, 8, 10, 0, 0, 0))]), (10, [(-1, 7)])), (([(3, 62, 0, 0, 0, 1), (3, 68, 0, 0, 0, 2), (0, 0, 0, 0, 0, 3), (3, 80, 0, 0, 0, 4), (0, 0, 0, 0, 0, 5), (0, 0, 80999919, 0, 0, 0), (0, 9, 9, 0, 0, 0), (0, 0, 999999, 0, 0, 0)], [], [(60, 3, (0, 9, 10, 0, 0, 0))]), (10, [(-1, 7)]))])]
set_option maxRecDepth 100000 in
theorem o_524 : okK 209 K_524 := okK_of (C := C_209) (fuel := 3000) rfl (A := A_209) Q_209 (ann := N_524) (spl := []) (mo := []) (by decide) (by decide +kernel)
def N_525 : aAnn := [(9, [(([(3, 62, 0, 0, 0, 1), (0, -1, -1, 0, 0, 2), (0, 0, 0, 0, 0, 3), (0, 0, 1000000, 0, 0, 0), (4, 0, 0, 0, 0, 0)], [], [(60, 0, (0, 1, 6, 0, 0, 0)), (60, 39, (0, 1, 20000, 0, 0, 0)), (60, 40, (0, -1, 999999, 0, 0, 0))]), (1999998, [(-2, 3944)]))])]
set_option maxRecDepth 100000 in
theorem o_525 : okK 237 K_525 := okK_of (C := C_237) (fuel := 3000) rfl (A := A_237) Q_237 (ann := N_525) (spl := []) (mo := []) (by decide) (by decide +kernel)
set_option maxRecDepth 100000 in
theorem o_526 : okK 238 K_526 := okK_of (C := C_238) (fuel := 3000) rfl (A := A_238) Q_238 (ann := []) (spl := []) (mo := []) (by decide) (by decide +kernel)
def N_527 : aAnn := [(9, [(([(3, 62, 0, 0, 0, 1), (0, -1, -1, 0, 0, 2), (0, 0, 0, 0, 0, 3), (0, 0, 1000000, 0, 0, 0), (4, 0, 0, 0, 0, 0)], [], [(60, 0, (0, 0, 0, 0, 0, 0)), (60, 3, (0, 0, 0, 0, 0, 0)), (60, 30, (0, 0, 0, 0, 0, 0)), (60, 39, (0, 1, 1, 0, 0, 0)), (60, 40, (0, -1, 999999, 0, 0, 0))]), (1999998, [(-2, 3944)]))])]
set_option maxRecDepth 100000 in
theorem o_527 : okK 237 K_527 := okK_of (C := C_237) (fuel := 3000) rfl (A := A_237) Q_237 (ann := N_527) (spl := []) (mo := []) (by decide) (by decide +kernel)
set_option maxRecDepth 100000 in
theorem o_528 : okK 238 K_528 := okK_of (C := C_238) (fuel := 3000) rfl (A := A_238) Q_238 (ann := []) (spl := []) (mo := []) (by decide) (by decide +kernel)
set_option maxRecDepth 100000 in
theorem o_529 : okK 169 K_529 := okK_of (C := C_169) (fuel := 3000) rfl (A := A_169) Q_169 (ann := []) (spl := []) (mo := []) (by decide) (by decide +kernel)
def N_530 : aAnn := [(9, [(([(3, 62, 0, 0, 0, 1), (0, 0, 5, 0, 0, 2), (0, 0, 99, 0, 0, 3), (0, 0, 1000000, 0, 0, 0), (4, 0, 0, 0, 0, 0)], [], [(60, 0, (0, 1, 6, 0, 0, 0)), (60, 39, (0, 1, 20000, 0, 0, 0)), (60, 40, (0, -1, 999999, 0, 0, 0))]), (1999998, [(-2, 3944)]))])]
set_option maxRecDepth 100000 in
theorem o_530 : okK 237 K_530 := okK_of (C := C_237) (fuel := 3000) rfl (A := A_237) Q_237 (ann := N_530) (spl := []) (mo := []) (by decide) (by decide +kernel)
set_option maxRecDepth 100000 in
theorem o_531 : okK 239 K_531 := okK_of (C := C_239) (fuel := 3000) rfl (A := A_239) Q_239 (ann := []) (spl := []) (mo := []) (by decide) (by decide +kernel)
def N_532 : aAnn := [(9, [(([(3, 62, 0, 0, 0, 1), (0, 0, 5, 0, 0, 2), (0, 0, 99, 0, 0, 3), (0, 0, 1000000, 0, 0, 0), (4, 0, 0, 0, 0, 0)], [], [(60, 0, (0, 0, 0, 0, 0, 0)), (60, 3, (0, 0, 0, 0, 0, 0)), (60, 30, (0, 0, 0, 0, 0, 0)), (60, 39, (0, 1, 1, 0, 0, 0)), (60, 40, (0, -1, 999999, 0, 0, 0))]), (1999998, [(-2, 3944)]))])]
set_option maxRecDepth 100000 in
theorem o_532 : okK 237 K_532 := okK_of (C := C_237) (fuel := 3000) rfl (A := A_237) Q_237 (ann := N_532) (spl := []) (mo := []) (by decide) (by decide +kernel)
set_option maxRecDepth 100000 in
theorem o_533 : okK 239 K_533 := okK_of (C := C_239) (fuel := 3000) rfl (A := A_239) Q_239 (ann := []) (spl := []) (mo := []) (by decide) (by decide +kernel)
set_option maxRecDepth 100000 in
theorem o_534 : okK 172 K_534 := okK_of (C := C_172) (fuel := 3000) rfl (A := A_172) Q_172 (ann := []) (spl := []) (mo := []) (by decide) (by decide +kernel)
set_option maxRecDepth 100000 in
theorem o_535 : okK 232 K_535 := okK_of (C := C_232) (fuel := 3000) rfl (A := A_232) Q_232 (ann := []) (spl := []) (mo := []) (by decide) (by decide +kernel)
def N_536 : aAnn := [(19, [(([(3, 62, 0, 0, 0, 1), (1, 0, 0, 0, 0, 0), (0, 0, 5, 0, 0, 0), (4, 0, 0, 0, 0, 0), (4, 0, 0, 0, 0, 0)], [], [(60, 0, (0, 1, 6, 0, 0, 0)), (60, 17, (0, 0, 0, 0, 0, 0)), (60, 39, (0, 1, 20000, 0, 0, 0)), (60, 40, (0, -1, 999999, 0, 0, 0))]), (8999991, [(-9, 3944)]))]), (24, [(([(3, 62, 0, 0, 0, 1), (1, 0, 0, 0, 0, 0), (0, 0, 5, 0, 0, 0), (0, 0, 6, 0, 0, 0), (4, 0, 0, 0, 0, 0)], [], [(60, 0, (0, 1, 6, 0, 0, 0)), (60, 17, (0, 0, 0, 0, 0, 0)), (60, 39, (0, 1, 20000, 0, 0, 0)), (60, 40, (0, 0, 999999, 0, 0, 0))]), (8999998, [(-9, 3944), (-1, 4)]))])]
set_option maxRecDepth 100000 in
theorem o_536 : okK 240 K_536 := okK_of (C := C_240) (fuel := 3000) rfl (A := A_240) Q_240 (ann := N_536) (spl := []) (mo := []) (by decide) (by decide +kernel)
set_option maxRecDepth 100000 in
theorem o_537 : okK 169 K_537 := okK_of (C := C_169) (fuel := 3000) rfl (A := A_169) Q_169 (ann := []) (spl := []) (mo := []) (by decide) (by decide +kernel)
set_option maxRecDepth 100000 in
theorem o_538 : okK 169 K_538 := okK_of (C := C_169) (fuel := 3000) rfl (A := A_169) Q_169 (ann := []) (spl := []) (mo := []) (by decide) (by decide +kernel)
def N_539 : aAnn := [(29, [(([(3, 62, 0, 0, 0, 1), (0, 1, 99, 0, 0, 2), (0, 0, 255, 0, 0, 3), (0, 0, 1023, 0, 0, 0), (0, 0, 8, 0, 0, 0), aRef 0, aRef 0, aRef 0], [], [(60, 0, (0, 1, 6, 0, 0, 0)), (60, 17, (0, 0, 0, 0, 0, 0)), (60, 39, (0, 1, 20000, 0, 0, 0)), (60, 40, (0, -1, 1000000, 0, 0, 0))]), (86000093, [(-1, 5)]))]), (52, [(([(3, 62, 0, 0, 0, 1), (0, 1, 99, 0, 0, 2), (0, 0, 255, 0, 0, 3), (0, 0, 1023, 0, 0, 0), (0, 0, 63, 0, 0, 0), (4, 0, 0, 0, 0, 0), (4, 0, 0, 0, 0, 0), (4, 0, 0, 0, 0, 0)], [], [(60, 0, (0, 1, 6, 0, 0, 0)), (60, 17, (0, 0, 0, 0, 0, 0)), (60, 39, (0, 1, 20000, 0, 0, 0)), (60, 40, (0, -1, 999999, 0, 0, 0))]), (85999914, [(-86, 3944)]))]), (57, [(([(3, 62, 0, 0, 0, 1), (0, 1, 99, 0, 0, 2), (0, 0, 255, 0, 0, 3), (0, 0, 1023, 0, 0, 0), (0, 0, 63, 0, 0, 0), (0, 0, 6, 0, 0, 0), (4, 0, 0, 0, 0, 0), (4, 0, 0, 0, 0, 0)], [], [(60, 0, (0, 1, 6, 0, 0, 0)), (60, 17, (0, 0, 0, 0, 0, 0)), (60, 39, (0, 1, 20000, 0, 0, 0)), (60, 40, (0, 0, 999999, 0, 0, 0))]), (85999998, [(-86, 3944), (-12, 6)]))]), (74, [(([(3, 62, 0, 0, 0, 1), (0, 1, 99, 0, 0, 2), (0, 0, 255, 0, 0, 3), (0, 0, 1023, 0, 0, 0), (0, 0, 63, 0, 0, 0), (0, 0, 5, 0, 0, 0), (0, 0, 1, 0, 0, 0), (0, 0, 10, 0, 0, 0)], [], [(60, 0, (0, 1, 6, 0, 0, 0)), (60, 17, (0, 0, 0, 0, 0, 0)), (60, 39, (0, 1, 20000, 0, 0, 0)), (60, 40, (0, 0, 999999, 0, 0, 0))]), (85999997, [(-86, 3944), (-12, 6), (-1, 8)]))])]
set_option maxRecDepth 100000 in
theorem o_539 : okK 241 K_539 := okK_of (C := C_241) (fuel := 3000) rfl (A := A_241) Q_241 (ann := N_539) (spl := []) (mo := []) (by decide) (by decide +kernel)
def N_540 : aAnn := [(29, [(([(3, 62, 0, 0, 0, 1), (0, 1, 99, 0, 0, 2), (0, 0, 255, 0, 0, 3), (0, 0, 1023, 0, 0, 0), (0, 0, 8, 0, 0, 0), aRef 0, aRef 0, aRef 0], [], [(60, 0, (0, 0, 0, 0, 0, 0)), (60, 3, (0, 0, 0, 0, 0, 0)), (60, 17, (0, 0, 0, 0, 0, 0)), (60, 30, (0, 0, 0, 0, 0, 0)), (60, 39, (0, 1, 1, 0, 0, 0)), (60, 40, (0, -1, 1000000, 0, 0, 0))]), (3000010, [(-1, 5)]))]), (52, [(([(3, 62, 0, 0, 0, 1), (0, 1, 99, 0, 0, 2), (0, 0, 255, 0, 0, 3), (0, 0, 1023, 0, 0, 0), (0, 0, 0, 0, 0, 0), (4, 0, 0, 0, 0, 0), aRef 0, aRef 0], [], [(60, 0, (0, 0, 0, 0, 0, 0)), (60, 3, (0, 0, 0, 0, 0, 0)), (60, 17, (0, 0, 0, 0, 0, 0)), (60, 30, (0, 0, 0, 0, 0, 0)), (60, 39, (0, 1, 1, 0, 0, 0)), (60, 40, (0, -1, 999999, 0, 0, 0))]), (2999997, [(-3, 3944)]))]), (57, [(([(3, 62, 0, 0, 0, 1), (0, 1, 99, 0, 0, 2), (0, 0, 255, 0, 0, 3), (0, 0, 1023, 0, 0, 0), (0, 0, 0, 0, 0, 0), (0, 0, 0, 0, 0, 0), aRef 0, aRef 0], [], [(60, 0, (0, 0, 0, 0, 0, 0)), (60, 3, (0, 0, 0, 0, 0, 0)), (60, 17, (0, 0, 0, 0, 0, 0)), (60, 30, (0, 0, 0, 0, 0, 0)), (60, 39, (0, 1, 1, 0, 0, 0)), (60, 40, (0, 0, 999999, 0, 0, 0))]), (2999998, [(-3, 3944), (-1, 6)]))])]
set_option maxRecDepth 100000 in
theorem o_540 : okK 241 K_540 := okK_of (C := C_241) (fuel := 3000) rfl (A := A_241) Q_241 (ann := N_540) (spl := []) (mo := []) (by decide) (by decide +kernel)
def N_541 : aAnn := [(27, [(([(3, 62, 0, 0, 0, 1), (0, 0, 9, 0, 0, 2), (0, 0, 9, 0, 0, 3), (1, 0, 0, 0, 0, 0), (1, 0, 0, 0, 0, 0)], [], [(60, 0, (0, 1, 6, 0, 0, 0)), (60, 17, (0, 0, 0, 0, 0, 0)), (60, 39, (0, 1, 20000, 0, 0, 0)), (60, 40, (0, -1, 999999, 0, 0, 0))]), (1999998, [(-2, 3944)]))])]
set_option maxRecDepth 100000 in
theorem o_541 : okK 243 K_541 := okK_of (C := C_243) (fuel := 3000) rfl (A := A_243) Q_243 (ann := N_541) (spl := []) (mo := []) (by decide) (by decide +kernel)
def N_542 : aAnn := [(27, [(([(3, 62, 0, 0, 0, 1), (0, 0, 9, 0, 0, 2), (0, 0, 9, 0, 0, 3), (1, 0, 0, 0, 0, 0), (1, 0, 0, 0, 0, 0)], [], [(60, 0, (0, 0, 0, 0, 0, 0)), (60, 3, (0, 0, 0, 0, 0, 0)), (60, 17, (0, 0, 0, 0, 0, 0)), (60, 30, (0, 0, 0, 0, 0, 0)), (60, 39, (0, 1, 1, 0, 0, 0)), (60, 40, (0, -1, 999999, 0, 0, 0))]), (1999998, [(-2, 3944)]))])]
set_option maxRecDepth 100000 in
theorem o_542 : okK 243 K_542 := okK_of (C := C_243) (fuel := 3000) rfl (A := A_243) Q_243 (ann := N_542) (spl := []) (mo := []) (by decide) (by decide +kernel)
def N_543 : aAnn := [(18, [(([(3, 62, 0, 0, 0, 1), (0, 0, 5, 0, 0, 2), (1, 0, 0, 0, 0, 0), (4, 0, 0, 0, 0, 0)], [], [(60, 0, (0, 1, 6, 0, 0, 0)), (60, 17, (0, 0, 0, 0, 0, 0)), (60, 39, (0, 1, 20000, 0, 0, 0)), (60, 40, (0, -1, 999999, 0, 0, 0))]), (1999998, [(-2, 3944)]))])]
set_option maxRecDepth 100000 in
theorem o_543 : okK 244 K_543 := okK_of (C := C_244) (fuel := 3000) rfl (A := A_244) Q_244 (ann := N_543) (spl := []) (mo := []) (by decide) (by decide +kernel)
def N_544 : aAnn := [(18, [(([(3, 62, 0, 0, 0, 1), (0, 0, 5, 0, 0, 2), (1, 0, 0, 0, 0, 0), (4, 0, 0, 0, 0, 0)], [], [(60, 0, (0, 0, 0, 0, 0, 0)), (60, 3, (0, 0, 0, 0, 0, 0)), (60, 17, (0, 0, 0, 0, 0, 0)), (60, 30, (0, 0, 0, 0, 0, 0)), (60, 39, (0, 1, 1, 0, 0, 0)), (60, 40, (0, -1, 999999, 0, 0, 0))]), (1999998, [(-2, 3944)]))])]
set_option maxRecDepth 100000 in
theorem o_544 : okK 244 K_544 := okK_of (C := C_244) (fuel := 3000) rfl (A := A_244) Q_244 (ann := N_544) (spl := []) (mo := []) (by decide) (by decide +kernel)
def N_546 : aAnn := [(4, [(([(3, 62, 0, 0, 0, 1), (3, 80, 0, 0, 0, 2), (0, 0, 63, 0, 0, 0), (0, 0, 6, 0, 0, 0)], [], []), (6, [(-1, 4)]))])]
set_option maxRecDepth 100000 in
theorem o_546 : okK 211 K_546 := okK_of (C := C_211) (fuel := 3000) rfl (A := A_211) Q_211 (ann := N_546) (spl := []) (mo := []) (by decide) (by decide +kernel)
set_option maxRecDepth 100000 in
theorem o_547 : okK 212 K_547 := okK_of (C := C_212) (fuel := 3000) rfl (A := A_212) Q_212 (ann := []) (spl := []) (mo := []) (by decide) (by decide +kernel)
def N_548 : aAnn := [(18, [(([(3, 62, 0, 0, 0, 1), (0, 0, 5, 0, 0, 2), (0, 0, 5, 0, 0, 3), (0, 0, 10, 0, 0, 0)], [], [(60, 17, (0, 0, 0, 0, 0, 0))]), (10, [(-1, 4)]))])]
set_option maxRecDepth 100000 in
theorem o_548 : okK 245 K_548 := okK_of (C := C_245) (fuel := 3000) rfl (A := A_245) Q_245 (ann := N_548) (spl := []) (mo := []) (by decide) (by decide +kernel)
def N_549 : aAnn := [(6, [(([(3, 62, 0, 0, 0, 1)], [], [(60, 0, (0, 1, 6, 0, 0, 0)), (60, 40, (0, 0, 1000000, 0, 0, 0))]), (1000000, [(-1, 3944)]))])]
set_option maxRecDepth 100000 in
theorem o_549 : okK 230 K_549 := okK_of (C := C_230) (fuel := 3000) rfl (A := A_230) Q_230 (ann := N_549) (spl := []) (mo := [(60, 40, 1)]) (by decide) (by decide +kernel)
set_option maxRecDepth 100000 in
theorem o_550 : okK 247 K_550 := okK_of (C := C_247) (fuel := 3000) rfl (A := A_247) Q_247 (ann := []) (spl := []) (mo := []) (by decide) (by decide +kernel)
def N_551 : aAnn := [(12, [(([(3, 62, 0, 0, 0, 1), (0, -1, 1023, 0, 0, 0), (0, 0, 1024, 0, 0, 0), (4, 0, 0, 0, 0, 0), (4, 0, 0, 0, 0, 0)], [], [(60, 0, (0, 1, 6, 0, 0, 0)), (60, 17, (0, 0, 0, 0, 0, 0)), (60, 38, (0, 0, 1023, 0, 0, 0)), (60, 39, (0, 1, 20000, 0, 0, 0))]), (12299, [(-12, 3)]))]), (22, [(([(3, 62, 0, 0, 0, 1), (0, -1, 1023, 0, 0, 0), (0, 0, 1023, 0, 0, 0), (0, 0, 1023, 0, 0, 0), (0, 0, 10, 0, 0, 0)], [], [(60, 0, (0, 1, 6, 0, 0, 0)), (60, 17, (0, 0, 0, 0, 0, 0)), (60, 38, (0, 0, 1023, 0, 0, 0)), (60, 39, (0, 1, 20000, 0, 0, 0))]), (12298, [(-12, 3), (-1, 5)]))])]
set_option maxRecDepth 100000 in
theorem o_551 : okK 246 K_551 := okK_of (C := C_246) (fuel := 3000) rfl (A := A_246) Q_246 (ann := N_551) (spl := []) (mo := []) (by decide) (by decide +kernel)
def N_552 : aAnn := [(12, [(([(3, 62, 0, 0, 0, 1), (0, -1, 0, 0, 0, 0), (0, 0, 1, 0, 0, 0), (4, 0, 0, 0, 0, 0), (4, 0, 0, 0, 0, 0)], [], [(60, 0, (0, 0, 0, 0, 0, 0)), (60, 3, (0, 0, 0, 0, 0, 0)), (60, 17, (0, 0, 0, 0, 0, 0)), (60, 30, (0, 0, 0, 0, 0, 0)), (60, 38, (0, 0, 0, 0, 0, 0)), (60, 39, (0, 1, 1, 0, 0, 0))]), (3, [(-2, 3)]))]), (22, [(([(3, 62, 0, 0, 0, 1), (0, -1, 0, 0, 0, 0), (0, 0, 0, 0, 0, 0), (0, 0, 0, 0, 0, 0), (0, 0, 0, 0, 0, 0)], [], [(60, 0, (0, 0, 0, 0, 0, 0)), (60, 3, (0, 0, 0, 0, 0, 0)), (60, 17, (0, 0, 0, 0, 0, 0)), (60, 30, (0, 0, 0, 0, 0, 0)), (60, 38, (0, 0, 0, 0, 0, 0)), (60, 39, (0, 1, 1, 0, 0, 0))]), (2, [(-2, 3), (-1, 5)]))])]
set_option maxRecDepth 100000 in
theorem o_552 : okK 246 K_552 := okK_of (C := C_246) (fuel := 3000) rfl (A := A_246) Q_246 (ann := N_552) (spl := []) (mo := []) (by decide) (by decide +kernel)
def N_553 : aAnn := [(2, [(([(3, 62, 0, 0, 0, 1), (0, 0, 5, 0, 0, 2), (0, 1, 9, 0, 0, 3), (0, 0, 6, 0, 0, 0), aRef 0, aRef 0], [], []), (405, [(-1, 4)]))]), (20, [(([(3, 62, 0, 0, 0, 1), (0, 0, 5, 0, 0, 2), (0, 1, 9, 0, 0, 3), (0, 0, 6, 0, 0, 0), (4, 0, 0, 0, 0, 0), (4, 0, 0, 0, 0, 0)], [], []), (398, [(-57, 4)]))]), (26, [(([(3, 62, 0, 0, 0, 1), (0, 0, 5, 0, 0, 2), (0, 1, 9, 0, 0, 3), (0, 0, 5, 0, 0, 0), (0, 0, 6, 0, 0, 0), (4, 0, 0, 0, 0, 0)], [], [(60, 0, (0, 1, 6, 0, 0, 0))]), (397, [(-57, 4), (-8, 5)]))]), (32, [(([(3, 62, 0, 0, 0, 1), (0, 0, 5, 0, 0, 2), (0, 1, 9, 0, 0, 3), (0, 0, 5, 0, 0, 0), (0, 0, 5, 0, 0, 0), (0, 0, 6, 0, 0, 0)], [], [(60, 0, (0, 1, 6, 0, 0, 0))]), (396, [(-57, 4), (-8, 5), (-1, 6)]))])]
set_option maxRecDepth 100000 in
theorem o_553 : okK 207 K_553 := okK_of (C := C_207) (fuel := 3000) rfl (A := A_207) Q_207 (ann := N_553) (spl := []) (mo := []) (by decide) (by decide +kernel)
def N_554 : aAnn := [(15, [(([(3, 62, 0, 0, 0, 1), (0, 0, 5, 0, 0, 2), (0, 0, 5, 0, 0, 3), (0, 0, 9, 0, 0, 0)], [], [(60, 17, (0, 0, 0, 0, 0, 0))]), (0, [(1, 4)]))])]
set_option maxRecDepth 100000 in
theorem o_554 : okK 251 K_554 := okK_of (C := C_251) (fuel := 3000) rfl (A := A_251) Q_251 (ann := N_554) (spl := []) (mo := []) (by decide) (by decide +kernel)
def N_555 : aAnn := [(2, [(([(3, 62, 0, 0, 0, 1), (0, 0, 5, 0, 0, 2), (0, 0, 9, 0, 0, 3), (0, 0, 6, 0, 0, 0), aRef 0, aRef 0], [], []), (405, [(-1, 4)]))]), (20, [(([(3, 62, 0, 0, 0, 1), (0, 0, 5, 0, 0, 2), (0, 0, 9, 0, 0, 3), (0, 0, 6, 0, 0, 0), (4, 0, 0, 0, 0, 0), (4, 0, 0, 0, 0, 0)], [], []), (398, [(-57, 4)]))]), (26, [(([(3, 62, 0, 0, 0, 1), (0, 0, 5, 0, 0, 2), (0, 0, 9, 0, 0, 3), (0, 0, 5, 0, 0, 0), (0, 0, 6, 0, 0, 0), (4, 0, 0, 0, 0, 0)], [], [(60, 0, (0, 1, 6, 0, 0, 0))]), (397, [(-57, 4), (-8, 5)]))]), (32, [(([(3, 62, 0, 0, 0, 1), (0, 0, 5, 0, 0, 2), (0, 0, 9, 0, 0, 3), (0, 0, 5, 0, 0, 0), (0, 0, 5, 0, 0, 0), (0, 0, 6, 0, 0, 0)], [], [(60, 0, (0, 1, 6, 0, 0, 0))]), (396, [(-57, 4), (-8, 5), (-1, 6)]))])]
set_option maxRecDepth 100000 in
theorem o_555 : okK 207 K_555 := okK_of (C := C_207) (fuel := 3000) rfl (A := A_207) Q_207 (ann := N_555) (spl := []) (mo := []) (by decide) (by decide +kernel)
set_option maxRecDepth 100000 in
theorem o_556 : okK 208 K_556 := okK_of (C := C_208) (fuel := 3000) rfl (A := A_208) Q_208 (ann := []) (spl := []) (mo := []) (by decide) (by decide +kernel)
def N_557 : aAnn := [(7, [(([(3, 62, 0, 0, 0, 1), (0, 0, 1023, 0, 0, 0), (0, 0, 10, 0, 0, 0), (4, 0, 0, 0, 0, 0)], [], [(60, 17, (0, 0, 0, 0, 0, 0))]), (87, [(-8, 3)]))]), (13, [(([(3, 62, 0, 0, 0, 1), (0, 0, 1023, 0, 0, 0), (0, 0, 9, 0, 0, 0), (0, 0, 6, 0, 0, 0)], [], [(60, 3, (0, 1, 10, 0, 0, 0)), (60, 17, (0, 0, 0, 0, 0, 0))]), (86, [(-8, 3), (-1, 4)]))])]
set_option maxRecDepth 100000 in
theorem o_557 : okK 252 K_557 := okK_of (C := C_252) (fuel := 3000) rfl (A := A_252) Q_252 (ann := N_557) (spl := []) (mo := []) (by decide) (by decide +kernel)
set_option maxRecDepth 100000 in
theorem o_558 : okK 169 K_558 := okK_of (C := C_169) (fuel := 3000) rfl (A := A_169) Q_169 (ann := []) (spl := []) (mo := []) (by decide) (by decide +kernel)
set_option maxRecDepth 100000 in
theorem o_559 : okK 255 K_559 := okK_of (C := C_255) (fuel := 3000) rfl (A := A_255) Q_255 (ann := []) (spl := []) (mo := []) (by decide) (by decide +kernel)
set_option maxRecDepth 100000 in
theorem o_560 : okK 256 K_560 := okK_of (C := C_256) (fuel := 3000) rfl (A := A_256) Q_256 (ann := []) (spl := []) (mo := []) (by decide) (by decide +kernel)
def N_561 : aAnn := [(4, [(([(3, 62, 0, 0, 0, 1), (3, 68, 0, 0, 0, 2), (0, 0, 0, 0, 0, 3), (3, 83, 0, 0, 0, 4), (0, 0, 0, 0, 0, 5), (0, 0, 0, 0, 0, 0), (0, 0, 0, 0, 0, 0), aRef 0], [], []), (10, [(-1, 7)])), (([(3, 62, 0, 0, 0, 1), (3, 68, 0, 0, 0, 2), (0, 0, 0, 0, 0, 3), (3, 83, 0, 0, 0, 4), (0, 0, 0, 0, 0, 5), (0, 0, 8999991, 0, 0, 0), (0, 1, 1, 0, 0, 0), (0, 0, 999999, 0, 0, 0)], [], [(60, 3, (0, 1, 10, 0, 0, 0))]), (10, [(-1, 7)])), (([(3, 62, 0, 0, 0, 1), (3, 68, 0, 0, 0, 2), (0, 0, 0, 0, 0, 3), (3, 83, 0, 0, 0, 4), (0, 0, 0, 0, 0, 5), (0, 0, 89999910, 0, 0, 0), (0, 10, 10, 0, 0, 0), (0, 0, 999999, 0, 0, 0)], [], [(60, 3, (0, 10, 10, 0, 0, 0))]), (10, [(-1, 7)])), (([(3, 62, 0, 0, 0, 1), (3, 68, 0, 0, 0, 2), (0, 0, 0, 0, 0, 3), (3, 83, 0, 0, 0, 4), (0, 0, 0, 0, 0, 5), (0, 0, 17999982, 0, 0, 0), (0, 2, 2, 0, 0, 0), (0, 0, 999999, 0, 0, 0)], [], [(60, 3, (0, 2, 10, 0, 0, 0))]), (10, [(-1, 7)])), (([(3, 62, 0, 0, 0, 1), (3, 68, 0, 0, 0, 2), (0, 0, 0, 0, 0, 3), (3, 83, 0, 0, 0, 4), (0, 0, 0, 0, 0, 5), (0, 0, 26999973, 0, 0, 0), (0, 3, 3, 0, 0, 0), (0, 0, 999999, 0, 0, 0)], [], [(60, 3, (0, 3, 10, 0, 0, 0))]), (10, [(-1, 7)])), (([(3, 62, 0, 0, 0, 1), (3, 68, 0, 0, 0, 2), (0, 0, 0, 0, 0, 3), (3, 83, 0, 0, 0, 4), (0, 0, 0, 0, 0, 5), (0, 0, 35999964, 0, 0, 0), (0, 4, 4, 0, 0, 0), (0, 0, 999999, 0, 0, 0)], [], [(60, 3, (0, 4, 10, 0, 0, 0))]), (10, [(-1, 7)])), (([(3, 62, 0, 0, 0, 1), (3, 68, 0, 0, 0, 2), (0, 0, 0, 0, 0, 3), (3, 83, 0, 0, 0, 4), (0, 0, 0, 0, 0, 5), (0, 0, 44999955, 0, 0, 0), (0, 5, 5, 0, 0, 0), (0, 0, 999999, 0, 0, 0)], [], [(60, 3, (0, 5, 10, 0, 0, 0))]), (10, [(-1, 7)])), (([(3, 62, 0, 0, 0, 1), (3, 68, 0, 0, 0, 2), (0, 0, 0, 0, 0, 3), (3, 83, 0, 0, 0, 4), (0, 0, 0, 0, 0, 5), (0, 0, 53999946, 0, 0, 0), (0, 6, 6, 0, 0, 0), (0, 0, 999999, 0, 0, 0)], [], [(60, 3, (0, 6, 10, 0, 0, 0))]), (10, [(-1, 7)])), (([(3, 62, 0, 0, 0, 1), (3, 68, 0, 0, 0, 2), (0, 0, 0, 0, 0, 3), (3, 83, 0, 0, 0, 4), (0, 0, 0, 0, 0, 5), (0, 0, 62999937, 0, 0, 0), (0, 7, 7, 0, 0, 0), (0, 0, 999999, 0, 0, 0)], [], [(60, 3, (0, 7, 10, 0, 0, 0))]), (10, [(-1, 7)])), (([(3, 62, 0, 0, 0, 1), (3, 68, 0, 0, 0, 2), (0, 0, 0, 0, 0, 3), (3, 83, 0, 0, 0, 4), (0, 0, 0, 0, 0, 5), (0, 0, 71999928, 0, 0, 0), (0, 8, 8, 0, 0, 0), (0, 0, 999999, 0, 0, 0)], [], [(60, 3, (0, 8, 10, 0, 0, 0))]), (10, [(-1, 7)])), (([(3, 62, 0, 0, 0, 1), (3, 68, 0, 0, 0, 2), (0, 0, 0, 0, 0, 3), (3, 83, 0, 0, 0, 4), (0, 0, 0, 0, 0, 5), (0, 0, 80999919, 0, 0, 0), (0, 9, 9, 0, 0, 0), (0, 0, 999999, 0, 0, 0)], [], [(60, 3, (0, 9, 10, 0, 0, 0))]), (10, [(-1, 7)]))])]
set_option maxRecDepth 100000 in
theorem o_561 : okK 209 K_561 := okK_of (C := C_209) (fuel := 3000) rfl (A := A_209) Q_209 (ann := N_561) (spl := []) (mo := []) (by decide) (by decide +kernel)
def N_563 : aAnn := [(7, [(([(3, 62, 0, 0, 0, 1), (3, 83, 0, 0, 0, 2), (0, 0, 5, 0, 0, 3), (1, 0, 0, 0, 0, 0), (0, 0, 10, 0, 0, 0)], [], []), (10, [(-1, 5)]))])]
set_option maxRecDepth 100000 in
theorem o_563 : okK 198 K_563 := okK_of (C := C_198) (fuel := 3000) rfl (A := A_198) Q_198 (ann := N_563) (spl := []) (mo := []) (by decide) (by decide +kernel)
def N_564 : aAnn := [(4, [(([(3, 62, 0, 0, 0, 1), (3, 83, 0, 0, 0, 2), (0, 0, 63, 0, 0, 0), (0, 0, 6, 0, 0, 0)], [], []), (6, [(-1, 4)]))])]
set_option maxRecDepth 100000 in
theorem o_564 : okK 211 K_564 := okK_of (C := C_211) (fuel := 3000) rfl (A := A_211) Q_211 (ann := N_564) (spl := []) (mo := []) (by decide) (by decide +kernel)
set_option maxRecDepth 100000 in
theorem o_565 : okK 212 K_565 := okK_of (C := C_212) (fuel := 3000) rfl (A := A_212) Q_212 (ann := []) (spl := []) (mo := []) (by decide) (by decide +kernel)
set_option maxRecDepth 100000 in
theorem o_566 : okK 257 K_566 := okK_of (C := C_257) (fuel := 3000) rfl (A := A_257) Q_257 (ann := []) (spl := []) (mo := []) (by decide) (by decide +kernel)
def N_568 : aAnn := [(4, [(([(3, 62, 0, 0, 0, 1), (3, 68, 0, 0, 0, 2), (0, 0, 63, 0, 0, 0), (0, 0, 6, 0, 0, 0)], [], []), (6, [(-1, 4)]))])]
set_option maxRecDepth 100000 in
theorem o_568 : okK 211 K_568 := okK_of (C := C_211) (fuel := 3000) rfl (A := A_211) Q_211 (ann := N_568) (spl := []) (mo := []) (by decide) (by decide +kernel)
def N_569 : aAnn := [(18, [(([(3, 62, 0, 0, 0, 1), (0, 3, 3, 0, 0, 2), (1, 0, 0, 0, 0, 0), (0, 0, 6, 0, 0, 0)], [], [(60, 17, (0, 0, 0, 0, 0, 0))]), (6, [(-1, 4)]))])]
set_option maxRecDepth 100000 in
theorem o_569 : okK 268 K_569 := okK_of (C := C_268) (fuel := 3000) rfl (A := A_268) Q_268 (ann := N_569) (spl := []) (mo := []) (by decide) (by decide +kernel)
set_option maxRecDepth 100000 in
theorem o_570 : okK 169 K_570 := okK_of (C := C_169) (fuel := 3000) rfl (A := A_169) Q_169 (ann := []) (spl := []) (mo := []) (by decide) (by decide +kernel)
set_option maxRecDepth 100000 in
theorem o_571 : okK 269 K_571 := okK_of (C := C_269) (fuel := 3000) rfl (A := A_269) Q_269 (ann := []) (spl := []) (mo := []) (by decide) (by decide +kernel)
set_option maxRecDepth 100000 in
theorem o_572 : okK 195 K_572 := okK_of (C := C_195) (fuel := 3000) rfl (A := A_195) Q_195 (ann := []) (spl := []) (mo := []) (by decide) (by decide +kernel)
def N_573 : aAnn := [(14, [(([(3, 62, 0, 0, 0, 1), (0, 0, 1, 0, 0, 0), (0, 0, 0, 0, 0, 0), (4, 0, 0, 0, 0, 0)], [], [(60, 0, (0, 0, 0, 0, 0, 0)), (60, 3, (0, 0, 0, 0, 0, 0)), (60, 17, (0, 0, 0, 0, 0, 0)), (60, 30, (0, 0, 0, 0, 0, 0)), (60, 38, (0, 0, 0, 0, 0, 0)), (60, 39, (0, 1, 1, 0, 0, 0)), (60, 40, (0, -1, 999999, 0, 0, 0))]), (1999998, [(-2, 3944)]))])]
set_option maxRecDepth 100000 in
theorem o_573 : okK 236 K_573 := okK_of (C := C_236) (fuel := 3000) rfl (A := A_236) Q_236 (ann := N_573) (spl := []) (mo := []) (by decide) (by decide +kernel)
set_option maxRecDepth 100000 in
theorem o_574 : okK 169 K_574 := okK_of (C := C_169) (fuel := 3000) rfl (A := A_169) Q_169 (ann := []) (spl := []) (mo := []) (by decide) (by decide +kernel)
set_option maxRecDepth 100000 in
theorem o_575 : okK 242 K_575 := okK_of (C := C_242) (fuel := 3000) rfl (A := A_242) Q_242 (ann := []) (spl := []) (mo := []) (by decide) (by decide +kernel)
def N_576 : aAnn := [(2, [(([(3, 62, 0, 0, 0, 1), (0, 0, 10, 0, 0, 0)], [], []), (10, [(-1, 2)]))])]
set_option maxRecDepth 100000 in
theorem o_576 : okK 261 K_576 := okK_of (C := C_261) (fuel := 3000) rfl (A := A_261) Q_261 (ann := N_576) (spl := []) (mo := []) (by decide) (by decide +kernel)
set_option maxRecDepth 100000 in
theorem o_577 : okK 263 K_577 := okK_of (C := C_263) (fuel := 3000) rfl (A := A_263) Q_263 (ann := []) (spl := []) (mo := []) (by decide) (by decide +kernel)
set_option maxRecDepth 100000 in
theorem o_578 : okK 264 K_578 := okK_of (C := C_264) (fuel := 3000) rfl (A := A_264) Q_264 (ann := []) (spl := []) (mo := []) (by decide) (by decide +kernel)
set_option maxRecDepth 100000 in
theorem o_579 : okK 172 K_579 := okK_of (C := C_172) (fuel := 3000) rfl (A := A_172) Q_172 (ann := []) (spl := []) (mo := []) (by decide) (by decide +kernel)
set_option maxRecDepth 100000 in
theorem o_580 : okK 172 K_580 := okK_of (C := C_172) (fuel := 3000) rfl (A := A_172) Q_172 (ann := []) (spl := []) (mo := []) (by decide) (by decide +kernel)
set_option maxRecDepth 100000 in
theorem o_581 : okK 172 K_581 := okK_of (C := C_172) (fuel := 3000) rfl (A := A_172) Q_172 (ann := []) (spl := []) (mo := []) (by decide) (by decide +kernel)
set_option maxRecDepth 100000 in
theorem o_582 : okK 172 K_582 := okK_of (C := C_172) (fuel := 3000) rfl (A := A_172) Q_172 (ann := []) (spl := []) (mo := []) (by decide) (by decide +kernel)
set_option maxRecDepth 100000 in
theorem o_583 : okK 172 K_583 := okK_of (C := C_172) (fuel := 3000) rfl (A := A_172) Q_172 (ann := []) (spl := []) (mo := []) (by decide) (by decide +kernel)
set_option maxRecDepth 100000 in
theorem o_584 : okK 172 K_584 := okK_of (C := C_172) (fuel := 3000) rfl (A := A_172) Q_172 (ann := []) (spl := []) (mo := []) (by decide) (by decide +kernel)
set_option maxRecDepth 100000 in
theorem o_585 : okK 172 K_585 := okK_of (C := C_172) (fuel := 3000) rfl (A := A_172) Q_172 (ann := []) (spl := []) (mo := []) (by decide) (by decide +kernel)
set_option maxRecDepth 100000 in
theorem o_586 : okK 172 K_586 := okK_of (C := C_172) (fuel := 3000) rfl (A := A_172) Q_172 (ann := []) (spl := []) (mo := []) (by decide) (by decide +kernel)
set_option maxRecDepth 100000 in
theorem o_587 : okK 172 K_587 := okK_of (C := C_172) (fuel := 3000) rfl (A := A_172) Q_172 (ann := []) (spl := []) (mo := []) (by decide) (by decide +kernel)
set_option maxRecDepth 100000 in
theorem o_588 : okK 172 K_588 := okK_of (C := C_172) (fuel := 3000) rfl (A := A_172) Q_172 (ann := []) (spl := []) (mo := []) (by decide) (by decide +kernel)
set_option maxRecDepth 100000 in
theorem o_589 : okK 172 K_589 := okK_of (C := C_172) (fuel := 3000) rfl (A := A_172) Q_172 (ann := []) (spl := []) (mo := []) (by decide) (by decide +kernel)
set_option maxRecDepth 100000 in
theorem o_590 : okK 232 K_590 := okK_of (C := C_232) (fuel := 3000) rfl (A := A_232) Q_232 (ann := []) (spl := []) (mo := []) (by decide) (by decide +kernel)
def N_591 : aAnn := [(4, [(([(3, 62, 0, 0, 0, 1), (3, 85, 0, 0, 0, 2), (0, 0, 3000, 0, 0, 3), (3, 85, 0, 0, 0, 4), (0, 0, 3000, 0, 0, 5), (0, 0, 0, 0, 0, 0), (0, 0, 0, 0, 0, 0), aRef 0], [], []), (10, [(-1, 7)])), (([(3, 62, 0, 0, 0, 1), (3, 85, 0, 0, 0, 2), (0, 0, 3000, 0, 0, 3), (3, 85, 0, 0, 0, 4), (0, 0, 3000, 0, 0, 5), (0, 0, 8999991, 0, 0, 0), (0, 1, 1, 0, 0, 0), (0, 0, 999999, 0, 0, 0)], [], [(60, 3, (0, 1, 10, 0, 0, 0))]), (10, [(-1, 7)])), (([(3, 62, 0, 0, 0, 1), (3, 85, 0, 0, 0, 2), (0, 0, 3000, 0, 0, 3), (3, 85, 0, 0, 0, 4), (0, 0, 3000, 0, 0, 5), (0, 0, 89999910, 0, 0, 0), (0, 10, 10, 0, 0, 0), (0, 0, 999999, 0, 0, 0)], [], [(60, 3, (0, 10, 10, 0, 0, 0))]), (10, [(-1, 7)])), (([(3, 62, 0, 0, 0, 1), (3, 85, 0, 0, 0, 2), (0, 0, 3000, 0, 0, 3), (3, 85, 0, 0, 0, 4), (0, 0, 3000, 0, 0, 5), (0, 0, 17999982, 0, 0, 0), (0, 2, 2, 0, 0, 0), (0, 0, 999999, 0, 0, 0)], [], [(60, 3, (0, 2, 10, 0, 0, 0))]), (10, [(-1, 7)])), (([(3, 62, 0, 0, 0, 1), (3, 85, 0, 0, 0, 2), (0, 0, 3000, 0, 0, 3), (3, 85, 0, 0, 0, 4), (0, 0, 3000, 0, 0, 5), (0, 0, 26999973, 0, 0, 0), (0, 3, 3, 0, 0, 0), (0, 0, 999999, 0, 0, 0)], [], [(60, 3, (0, 3, 10, 0, 0, 0))]), (10, [(-1, 7)])), (([(3, 62, 0, 0, 0, 1), (3, 85, 0, 0, 0, 2), (0, 0, 3000, 0, 0, 3), (3, 85, 0, 0, 0, 4), (0, 0, 3000, 0, 0, 5), (0, 0, 35999964, 0, 0, 0), (0, 4, 4, 0, 0, 0), (0, 0, 999999, 0, 0, 0)], [], [(60, 3, (0, 4, 10, 0, 0, 0))]), (10, [(-1, 7)])), (([(3, 62, 0, 0, 0, 1), (3, 85, 0, 0, 0, 2), (0, 0, 3000, 0, 0, 3), (3, 85, 0, 0, 0, 4), (0, 0, 3000, 0, 0, 5), (0, 0, 44999955, 0, 0, 0), (0, 5, 5, 0, 0, 0), (0, 0, 999999, 0, 0, 0)], [], [(60, 3, (0, 5, 10, 0, 0, 0))]), (10, [(-1, 7)])), (([(3, 62, 0, 0, 0, 1), (3, 85, 0, 0, 0, 2), (0, 0, 3000, 0, 0, 3), (3, 85, 0, 0, 0, 4), (0, 0, 3000, 0, 0, 5), (0, 0, 53999946, 0, 0, 0), (0, 6, 6, 0, 0, 0), (0, 0, 999999, 0, 0, 0)], [], [(60, 3, (0, 6, 10, 0, 0, 0))]), (10, [(-1, 7)])), (([(3, 62, 0, 0, 0, 1), (3, 85, 0, 0, 0, 2), (0, 0, 3000, 0, 0, 3), (3, 85, 0, 0, 0, 4), (0, 0, 3000, 0, 0, 5), (0, 0, 62999937, 0, 0, 0), (0, 7, 7, 0, 0, 0), (0, 0, 999999, 0, 0, 0)], [], [(60, 3, (0, 7, 10, 0, 0, 0))]), (10, [(-1, 7)])), (([(3, 62, 0, 0, 0, 1), (3, 85, 0, 0, 0, 2), (0, 0, 3000, 0, 0, 3), (3, 85, 0, 0, 0, 4), (0, 0, 3000, 0, 0, 5), (0, 0, 71999928, 0, 0, 0), (0, 8, 8, 0, 0, 0), (0, 0, 999999, 0, 0, 0)], [], [(60, 3, (0, 8, 10, 0, 0, 0))]), (10, [(-1, 7)])), (([(3, 62, 0, 0, 0, 1), (3, 85, 0, 0, 0, 2), (0, 0, 3000, 0, 0, 3), (3, 85, 0, 0, 0, 4), (0, 0, 3000, 0, 0, 5), (0, 0, 80999919, 0, 0, 0), (0, 9, 9, 0, 0, 0), (0, 0, 999999, 0, 0, 0)], [], [(60, 3, (0, 9, 10, 0, 0, 0))]), (10, [(-1, 7)]))])]
set_option maxRecDepth 100000 in
theorem o_591 : okK 209 K_591 := okK_of (C := C_209) (fuel := 3000) rfl (A := A_209) Q_209 (ann := N_591) (spl := []) (mo := []) (by decide) (by decide +kernel)
def N_592 : aAnn := [(2, [(([(3, 62, 0, 0, 0, 1), (0, -2147483648, 2147483647, 0, 0, 2), (0, 0, 301, 0, 0, 0), (4, 0, 0, 0, 0, 0)], [], []), (91203, [(-302, 3)]))]), (8, [(([(3, 62, 0, 0, 0, 1), (0, -2147483648, 2147483647, 0, 0, 2), (0, 0, 300, 0, 0, 0), (0, 1, 301, 0, 0, 0)], [], [(60, 48, (0, 1, 301, 0, 0, 0))]), (91203, [(-302, 3), (-1, 4)]))])]
set_option maxRecDepth 100000 in
theorem o_592 : okK 265 K_592 := okK_of (C := C_265) (fuel := 3000) rfl (A := A_265) Q_265 (ann := N_592) (spl := []) (mo := []) (by decide) (by decide +kernel)
set_option maxRecDepth 100000 in
theorem o_593 : okK 249 K_593 := okK_of (C := C_249) (fuel := 3000) rfl (A := A_249) Q_249 (ann := []) (spl := []) (mo := []) (by decide) (by decide +kernel)
